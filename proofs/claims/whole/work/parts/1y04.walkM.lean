set_option maxRecDepth 100000 in
set_option maxHeartbeats 4000000 in
theorem t_X10_isSeen_b76 {M : am_M} {D : va_G} {cT : Nat → ClassId} {ad : Nat → Nat} (X : am_X M (D, cT, ad, NM, LM) cX10_isSeen RX10 3 (some .boolean)) {z : Int32 × Sg} {k8 : Sg → Int32 → Int32 → Option (Int32 × Sg)} (hk8 : ∀ (σ : Sg) (x1 : Int32) (x2 : Int32), k8 σ x1 x2 = some z → am_At M { frames := 6, cells := 0, slots := 0, locals := 141 } (D, cT, ad, NM, LM) (amQi M (D, cT, ad, NM, LM) z) 3 8 [(0, .ref (ad 0)), (1, .int x1), (2, .int x2)] [] σ) (σ : Sg) (x2 : Int32) (s0 : Int32) (h : f_X10_isSeen_b76 k8 σ x2 s0 = some z) : am_At M { frames := 6, cells := 0, slots := 0, locals := 141 } (D, cT, ad, NM, LM) (amQi M (D, cT, ad, NM, LM) z) 3 76 [(0, .ref (ad 0)), (2, .int x2)] [.int s0] σ := by
  unfold f_X10_isSeen_b76 at h
  refine r_istore_n X [(1, .int s0), (0, .ref (ad 0)), (2, .int x2)] dX10_isSeen_76 rfl (by decide) rfl ?_
  refine r_iinc X [(2, .int (x2 + (1 : Int32))), (1, .int s0), (0, .ref (ad 0))] dX10_isSeen_77 2 rfl (v := x2 + (1 : Int32)) (by rfl) (by decide) rfl ?_
  refine r_letv h (fun v1 h => ?_)
  refine r_goto X 8 dX10_isSeen_80 (by decide) ?_
  refine r_sub (lv' := [(0, .ref (ad 0)), (1, .int s0), (2, .int v1)]) [2, 1, 0] rfl ?_
  exact hk8 σ s0 v1 h
set_option maxRecDepth 100000 in
set_option maxHeartbeats 4000000 in
theorem t_X10_isSeen_b75 {M : am_M} {D : va_G} {cT : Nat → ClassId} {ad : Nat → Nat} (X : am_X M (D, cT, ad, NM, LM) cX10_isSeen RX10 3 (some .boolean)) {z : Int32 × Sg} {k8 : Sg → Int32 → Int32 → Option (Int32 × Sg)} (hk8 : ∀ (σ : Sg) (x1 : Int32) (x2 : Int32), k8 σ x1 x2 = some z → am_At M { frames := 6, cells := 0, slots := 0, locals := 141 } (D, cT, ad, NM, LM) (amQi M (D, cT, ad, NM, LM) z) 3 8 [(0, .ref (ad 0)), (1, .int x1), (2, .int x2)] [] σ) (σ : Sg) (x2 : Int32) (h : f_X10_isSeen_b75 k8 σ x2 = some z) : am_At M { frames := 6, cells := 0, slots := 0, locals := 141 } (D, cT, ad, NM, LM) (amQi M (D, cT, ad, NM, LM) z) 3 75 [(0, .ref (ad 0)), (2, .int x2)] [] σ := by
  unfold f_X10_isSeen_b75 at h
  refine r_iconst (v := 0) X dX10_isSeen_75 (by decide) ?_
  exact t_X10_isSeen_b76 X hk8 σ x2 (0 : Int32) h
set_option maxRecDepth 100000 in
set_option maxHeartbeats 4000000 in
theorem t_X10_isSeen_b68 {M : am_M} {D : va_G} {cT : Nat → ClassId} {ad : Nat → Nat} (X : am_X M (D, cT, ad, NM, LM) cX10_isSeen RX10 3 (some .boolean)) {z : Int32 × Sg} {k8 : Sg → Int32 → Int32 → Option (Int32 × Sg)} (hk8 : ∀ (σ : Sg) (x1 : Int32) (x2 : Int32), k8 σ x1 x2 = some z → am_At M { frames := 6, cells := 0, slots := 0, locals := 141 } (D, cT, ad, NM, LM) (amQi M (D, cT, ad, NM, LM) z) 3 8 [(0, .ref (ad 0)), (1, .int x1), (2, .int x2)] [] σ) (σ : Sg) (x2 : Int32) (s0 : Int32) (s1 : Int32) (h : f_X10_isSeen_b68 k8 σ x2 s0 s1 = some z) : am_At M { frames := 6, cells := 0, slots := 0, locals := 141 } (D, cT, ad, NM, LM) (amQi M (D, cT, ad, NM, LM) z) 3 68 [(0, .ref (ad 0)), (2, .int x2)] [.int s0, .int s1] σ := by
  unfold f_X10_isSeen_b68 at h
  refine r_icmp_ne X 75 dX10_isSeen_68 (by decide) h (fun h => ?_) (fun h => ?_)
  · refine r_iconst (v := 1) X dX10_isSeen_71 (by decide) ?_
    refine r_goto X 76 dX10_isSeen_72 (by decide) ?_
    exact t_X10_isSeen_b76 X hk8 σ x2 (1 : Int32) h
  · exact t_X10_isSeen_b75 X hk8 σ x2 h
set_option maxRecDepth 100000 in
set_option maxHeartbeats 4000000 in
theorem t_X10_isSeen_b8 {M : am_M} {D : va_G} {cT : Nat → ClassId} {ad : Nat → Nat} (X : am_X M (D, cT, ad, NM, LM) cX10_isSeen RX10 3 (some .boolean)) {z : Int32 × Sg} {k8 : Sg → Int32 → Int32 → Option (Int32 × Sg)} (hk8 : ∀ (σ : Sg) (x1 : Int32) (x2 : Int32), k8 σ x1 x2 = some z → am_At M { frames := 6, cells := 0, slots := 0, locals := 141 } (D, cT, ad, NM, LM) (amQi M (D, cT, ad, NM, LM) z) 3 8 [(0, .ref (ad 0)), (1, .int x1), (2, .int x2)] [] σ) (σ : Sg) (x1 : Int32) (x2 : Int32) (h : f_X10_isSeen_b8 k8 σ x1 x2 = some z) : am_At M { frames := 6, cells := 0, slots := 0, locals := 141 } (D, cT, ad, NM, LM) (amQi M (D, cT, ad, NM, LM) z) 3 8 [(0, .ref (ad 0)), (1, .int x1), (2, .int x2)] [] σ := by
  unfold f_X10_isSeen_b8 at h
  refine r_iload_n X dX10_isSeen_8 rfl 2 rfl ?_
  refine r_aload_n X dX10_isSeen_9 rfl 0 rfl ?_
  refine r_getI X fg_X10_299_X10 fM_0 rfl dX10_isSeen_10 ?_
  refine r_icmp_ge X 83 dX10_isSeen_13 (by decide) h (fun h => ?_) (fun h => ?_)
  · refine r_iload_n X dX10_isSeen_83 rfl 1 rfl ?_
    exact r_zretg X rfl dX10_isSeen_84 h
  · refine r_iload_n X dX10_isSeen_16 rfl 1 rfl ?_
    refine r_if_eq X 83 dX10_isSeen_17 (by decide) h (fun h => ?_) (fun h => ?_)
    · refine r_iload_n X dX10_isSeen_83 rfl 1 rfl ?_
      exact r_zretg X rfl dX10_isSeen_84 h
    · refine r_aload_n X dX10_isSeen_20 rfl 0 rfl ?_
      refine r_getR (c1 := 24) X fg_X10_79_X10 fM_0 rfl dX10_isSeen_21 ?_
      refine r_iload_n X dX10_isSeen_24 rfl 2 rfl ?_
      refine r_iald X fM_24 dX10_isSeen_25 h (fun h => ?_)
      refine r_aload_n X dX10_isSeen_26 rfl 0 rfl ?_
      refine r_getI X fg_X10_130_X10 fM_0 rfl dX10_isSeen_27 ?_
      refine r_icmp_ge X 75 dX10_isSeen_30 (by decide) h (fun h => ?_) (fun h => ?_)
      · refine r_sub (lv' := [(0, .ref (ad 0)), (2, .int x2)]) [0, 2] rfl ?_
        exact t_X10_isSeen_b75 X hk8 σ x2 h
      · refine r_aload_n X dX10_isSeen_33 rfl 0 rfl ?_
        refine r_getR (c1 := 20) X fg_X10_67_X10 fM_0 rfl dX10_isSeen_34 ?_
        refine r_aload_n X dX10_isSeen_37 rfl 0 rfl ?_
        refine r_getR (c1 := 23) X fg_X10_76_X10 fM_0 rfl dX10_isSeen_38 ?_
        refine r_iload_n X dX10_isSeen_41 rfl 2 rfl ?_
        refine r_iald X fM_23 dX10_isSeen_42 h (fun h => ?_)
        refine r_iald X fM_20 dX10_isSeen_43 h (fun h => ?_)
        refine r_aload_n X dX10_isSeen_44 rfl 0 rfl ?_
        refine r_getR (c1 := 24) X fg_X10_79_X10 fM_0 rfl dX10_isSeen_45 ?_
        refine r_iload_n X dX10_isSeen_48 rfl 2 rfl ?_
        refine r_iald X fM_24 dX10_isSeen_49 h (fun h => ?_)
        obtain ⟨r1, σ2, hc_3, h⟩ := bnd_of h
        refine r_callS (As := [.int (σ 20 ((σ 23 (x2).toNatClampNeg)).toNatClampNeg), .int (σ 24 (x2).toNatClampNeg)]) (rest := []) (st2 := [.int r1]) X cv_X10_209 (c_X10_isIn M.2.1 hc_3) rfl rfl rfl (Nat.le_of_ble_eq_true rfl) ⟨⟨rfl, rfl⟩, by decide, by decide⟩ dX10_isSeen_50 ⟨rfl, rfl⟩ rfl ?_
        refine r_aload_n X dX10_isSeen_53 rfl 0 rfl ?_
        refine r_getR (c1 := 25) X fg_X10_82_X10 fM_0 rfl dX10_isSeen_54 ?_
        refine r_iload_n X dX10_isSeen_57 rfl 2 rfl ?_
        refine r_iald X fM_25 dX10_isSeen_58 h (fun h => ?_)
        refine r_iconst (v := 1) X dX10_isSeen_59 (by decide) ?_
        refine r_icmp_ne X 67 dX10_isSeen_60 (by decide) h (fun h => ?_) (fun h => ?_)
        · refine r_iconst (v := 1) X dX10_isSeen_63 (by decide) ?_
          refine r_goto X 68 dX10_isSeen_64 (by decide) ?_
          refine r_sub (lv' := [(0, .ref (ad 0)), (2, .int x2)]) [0, 2] rfl ?_
          exact t_X10_isSeen_b68 X hk8 σ2 x2 (1 : Int32) r1 h
        · refine r_iconst (v := 0) X dX10_isSeen_67 (by decide) ?_
          refine r_sub (lv' := [(0, .ref (ad 0)), (2, .int x2)]) [0, 2] rfl ?_
          exact t_X10_isSeen_b68 X hk8 σ2 x2 (0 : Int32) r1 h
theorem t_X10_isSeen_l8 {M : am_M} {D : va_G} {cT : Nat → ClassId} {ad : Nat → Nat} (X : am_X M (D, cT, ad, NM, LM) cX10_isSeen RX10 3 (some .boolean)) {z : Int32 × Sg} (n : Nat) : ∀ (σ : Sg) (x1 : Int32) (x2 : Int32), f_X10_isSeen_l8 n σ x1 x2 = some z → am_At M { frames := 6, cells := 0, slots := 0, locals := 141 } (D, cT, ad, NM, LM) (amQi M (D, cT, ad, NM, LM) z) 3 8 [(0, .ref (ad 0)), (1, .int x1), (2, .int x2)] [] σ := by
  induction n with
  | zero =>
    intro σ x1 x2 h
    have h2 : (none : Option (Int32 × Sg)) = some z := h
    cases h2
  | succ n ih =>
    intro σ x1 x2 h
    exact t_X10_isSeen_b8 X (k8 := f_X10_isSeen_l8 n) ih σ x1 x2 h
set_option maxRecDepth 100000 in
set_option maxHeartbeats 4000000 in
theorem c_X10_isSeen (l : Launch) {σ : Sg} {z : Int32 × Sg} (h : f_X10_isSeen σ = some z) : am_Met l yX10_isSeen cX10_isSeen 3 (some .boolean) { frames := 6, cells := 0, slots := 0, locals := 141 } NM LM (fun ad => [.ref (ad 0)]) σ z.2 (fun _ => some (.int z.1)) := by
  refine am_enter (by decide +kernel) (fun ad => Nat.le_of_ble_eq_true rfl) (fun M D cT ad hl X => ?_)
  subst hl
  refine r_lv (lv' := [(0, .ref (ad 0))]) rfl ?_
  unfold f_X10_isSeen at h
  refine r_aload_n X dX10_isSeen_0 rfl 0 rfl ?_
  obtain ⟨r1, σ2, hc_3, h⟩ := bnd_of h
  refine r_callV (As := []) (rest := []) (st2 := []) (c := 0) X cv_X10_232 (c_X10_runs M.2.1 hc_3) rfl (ci := 9) rfl fM_0 rfl rfl (Nat.le_of_ble_eq_true rfl) ⟨⟨rfl, rfl⟩, by decide, by decide⟩ dX10_isSeen_1 ⟨rfl, rfl⟩ rfl ?_
  refine r_iconst (v := 1) X dX10_isSeen_4 (by decide) ?_
  refine r_istore_n X [(1, .int (1 : Int32)), (0, .ref (ad 0))] dX10_isSeen_5 rfl (by decide) rfl ?_
  refine r_iconst (v := 0) X dX10_isSeen_6 (by decide) ?_
  refine r_istore_n X [(2, .int (0 : Int32)), (1, .int (1 : Int32)), (0, .ref (ad 0))] dX10_isSeen_7 rfl (by decide) rfl ?_
  refine r_sub (lv' := [(0, .ref (ad 0)), (1, .int (1 : Int32)), (2, .int (0 : Int32))]) [2, 1, 0] rfl ?_
  exact t_X10_isSeen_l8 X 300 σ2 (1 : Int32) (0 : Int32) h
set_option maxRecDepth 100000 in
set_option maxHeartbeats 4000000 in
theorem t_X10_neverNow_b38 {M : am_M} {D : va_G} {cT : Nat → ClassId} {ad : Nat → Nat} (X : am_X M (D, cT, ad, NM, LM) cX10_neverNow RX10 3 (some .int)) {z : Int32 × Sg} {k8 : Sg → Int32 → Int32 → Option (Int32 × Sg)} (hk8 : ∀ (σ : Sg) (x1 : Int32) (x2 : Int32), k8 σ x1 x2 = some z → am_At M { frames := 7, cells := 0, slots := 0, locals := 163 } (D, cT, ad, NM, LM) (amQi M (D, cT, ad, NM, LM) z) 3 8 [(0, .ref (ad 0)), (1, .int x1), (2, .int x2)] [] σ) (σ : Sg) (x2 : Int32) (s0 : Int32) (s1 : Int32) (h : f_X10_neverNow_b38 k8 σ x2 s0 s1 = some z) : am_At M { frames := 7, cells := 0, slots := 0, locals := 163 } (D, cT, ad, NM, LM) (amQi M (D, cT, ad, NM, LM) z) 3 38 [(0, .ref (ad 0)), (2, .int x2)] [.int s0, .int s1] σ := by
  unfold f_X10_neverNow_b38 at h
  refine r_ior X dX10_neverNow_38 ?_
  refine r_leti h (fun v1 h => ?_)
  refine r_istore_n X [(1, .int v1), (0, .ref (ad 0)), (2, .int x2)] dX10_neverNow_39 rfl (by decide) rfl ?_
  refine r_iinc X [(2, .int (x2 + (1 : Int32))), (1, .int v1), (0, .ref (ad 0))] dX10_neverNow_40 2 rfl (v := x2 + (1 : Int32)) (by rfl) (by decide) rfl ?_
  refine r_letv h (fun v2 h => ?_)
  refine r_goto X 8 dX10_neverNow_43 (by decide) ?_
  refine r_sub (lv' := [(0, .ref (ad 0)), (1, .int v1), (2, .int v2)]) [2, 1, 0] rfl ?_
  exact hk8 σ v1 v2 h
set_option maxRecDepth 100000 in
set_option maxHeartbeats 4000000 in
theorem t_X10_neverNow_b8 {M : am_M} {D : va_G} {cT : Nat → ClassId} {ad : Nat → Nat} (X : am_X M (D, cT, ad, NM, LM) cX10_neverNow RX10 3 (some .int)) {z : Int32 × Sg} {k8 : Sg → Int32 → Int32 → Option (Int32 × Sg)} (hk8 : ∀ (σ : Sg) (x1 : Int32) (x2 : Int32), k8 σ x1 x2 = some z → am_At M { frames := 7, cells := 0, slots := 0, locals := 163 } (D, cT, ad, NM, LM) (amQi M (D, cT, ad, NM, LM) z) 3 8 [(0, .ref (ad 0)), (1, .int x1), (2, .int x2)] [] σ) (σ : Sg) (x1 : Int32) (x2 : Int32) (h : f_X10_neverNow_b8 k8 σ x1 x2 = some z) : am_At M { frames := 7, cells := 0, slots := 0, locals := 163 } (D, cT, ad, NM, LM) (amQi M (D, cT, ad, NM, LM) z) 3 8 [(0, .ref (ad 0)), (1, .int x1), (2, .int x2)] [] σ := by
  unfold f_X10_neverNow_b8 at h
  refine r_iload_n X dX10_neverNow_8 rfl 2 rfl ?_
  refine r_aload_n X dX10_neverNow_9 rfl 0 rfl ?_
  refine r_getI X fg_X10_171_X10 fM_0 rfl dX10_neverNow_10 ?_
  refine r_icmp_ge X 46 dX10_neverNow_13 (by decide) h (fun h => ?_) (fun h => ?_)
  · refine r_iload_n X dX10_neverNow_46 rfl 1 rfl ?_
    exact r_iretz X rfl dX10_neverNow_47 h
  · refine r_aload_n X dX10_neverNow_16 rfl 0 rfl ?_
    refine r_iconst (v := 1) X dX10_neverNow_17 (by decide) ?_
    refine r_iload_n X dX10_neverNow_18 rfl 2 rfl ?_
    refine r_ishl X dX10_neverNow_19 ?_
    refine r_putI X fp_X10_187_X10 fM_0 rfl dX10_neverNow_20 h (fun σ1 h => ?_)
    refine r_iload_n X dX10_neverNow_23 rfl 1 rfl ?_
    refine r_aload_n X dX10_neverNow_24 rfl 0 rfl ?_
    obtain ⟨r2, σ3, hc_4, h⟩ := bnd_of h
    refine r_callV (As := []) (rest := [.int x1]) (st2 := [.int r2, .int x1]) (c := 0) X cv_X10_302 (c_X10_isSeen M.2.1 hc_4) rfl (ci := 9) rfl fM_0 rfl rfl (Nat.le_of_ble_eq_true rfl) ⟨⟨rfl, rfl⟩, by decide, by decide⟩ dX10_neverNow_25 ⟨rfl, rfl⟩ rfl ?_
    refine r_if_eq X 37 dX10_neverNow_28 (by decide) h (fun h => ?_) (fun h => ?_)
    · refine r_iconst (v := 0) X dX10_neverNow_37 (by decide) ?_
      refine r_sub (lv' := [(0, .ref (ad 0)), (2, .int x2)]) [0, 2] rfl ?_
      exact t_X10_neverNow_b38 X hk8 σ3 x2 (0 : Int32) x1 h
    · refine r_iconst (v := 1) X dX10_neverNow_31 (by decide) ?_
      refine r_iload_n X dX10_neverNow_32 rfl 2 rfl ?_
      refine r_ishl X dX10_neverNow_33 ?_
      refine r_goto X 38 dX10_neverNow_34 (by decide) ?_
      refine r_sub (lv' := [(0, .ref (ad 0)), (2, .int x2)]) [0, 2] rfl ?_
      exact t_X10_neverNow_b38 X hk8 σ3 x2 ((1 : Int32) <<< (x2 &&& 31)) x1 h
theorem t_X10_neverNow_l8 {M : am_M} {D : va_G} {cT : Nat → ClassId} {ad : Nat → Nat} (X : am_X M (D, cT, ad, NM, LM) cX10_neverNow RX10 3 (some .int)) {z : Int32 × Sg} (n : Nat) : ∀ (σ : Sg) (x1 : Int32) (x2 : Int32), f_X10_neverNow_l8 n σ x1 x2 = some z → am_At M { frames := 7, cells := 0, slots := 0, locals := 163 } (D, cT, ad, NM, LM) (amQi M (D, cT, ad, NM, LM) z) 3 8 [(0, .ref (ad 0)), (1, .int x1), (2, .int x2)] [] σ := by
  induction n with
  | zero =>
    intro σ x1 x2 h
    have h2 : (none : Option (Int32 × Sg)) = some z := h
    cases h2
  | succ n ih =>
    intro σ x1 x2 h
    exact t_X10_neverNow_b8 X (k8 := f_X10_neverNow_l8 n) ih σ x1 x2 h
set_option maxRecDepth 100000 in
set_option maxHeartbeats 4000000 in
theorem c_X10_neverNow (l : Launch) {σ : Sg} {z : Int32 × Sg} (h : f_X10_neverNow σ = some z) : am_Met l yX10_neverNow cX10_neverNow 3 (some .int) { frames := 7, cells := 0, slots := 0, locals := 163 } NM LM (fun ad => [.ref (ad 0)]) σ z.2 (fun _ => some (.int z.1)) := by
  refine am_enter (by decide +kernel) (fun ad => Nat.le_of_ble_eq_true rfl) (fun M D cT ad hl X => ?_)
  subst hl
  refine r_lv (lv' := [(0, .ref (ad 0))]) rfl ?_
  unfold f_X10_neverNow at h
  refine r_aload_n X dX10_neverNow_0 rfl 0 rfl ?_
  obtain ⟨r1, σ2, hc_3, h⟩ := bnd_of h
  refine r_callV (As := []) (rest := []) (st2 := []) (c := 0) X cv_X10_229 (c_X10_asTold M.2.1 hc_3) rfl (ci := 9) rfl fM_0 rfl rfl (Nat.le_of_ble_eq_true rfl) ⟨⟨rfl, rfl⟩, by decide, by decide⟩ dX10_neverNow_1 ⟨rfl, rfl⟩ rfl ?_
  refine r_iconst (v := 0) X dX10_neverNow_4 (by decide) ?_
  refine r_istore_n X [(1, .int (0 : Int32)), (0, .ref (ad 0))] dX10_neverNow_5 rfl (by decide) rfl ?_
  refine r_iconst (v := 0) X dX10_neverNow_6 (by decide) ?_
  refine r_istore_n X [(2, .int (0 : Int32)), (1, .int (0 : Int32)), (0, .ref (ad 0))] dX10_neverNow_7 rfl (by decide) rfl ?_
  refine r_sub (lv' := [(0, .ref (ad 0)), (1, .int (0 : Int32)), (2, .int (0 : Int32))]) [2, 1, 0] rfl ?_
  exact t_X10_neverNow_l8 X 300 σ2 (0 : Int32) (0 : Int32) h
set_option maxRecDepth 100000 in
set_option maxHeartbeats 4000000 in
theorem c_X10_never (l : Launch) {σ : Sg} {z : Int32 × Sg} (h : f_X10_never σ = some z) : am_Met l yX10_never cX10_never 1 (some .int) { frames := 8, cells := 0, slots := 0, locals := 185 } NM LM (fun ad => [.ref (ad 0)]) σ z.2 (fun _ => some (.int z.1)) := by
  refine am_enter (by decide +kernel) (fun ad => Nat.le_of_ble_eq_true rfl) (fun M D cT ad hl X => ?_)
  subst hl
  refine r_lv (lv' := [(0, .ref (ad 0))]) rfl ?_
  unfold f_X10_never at h
  refine r_aload_n X dX10_never_0 rfl 0 rfl ?_
  obtain ⟨r1, σ2, hc_3, h⟩ := bnd_of h
  refine r_callV (As := []) (rest := []) (st2 := [.int r1]) (c := 0) X cv_X10_306 (c_X10_neverNow M.2.1 hc_3) rfl (ci := 9) rfl fM_0 rfl rfl (Nat.le_of_ble_eq_true rfl) ⟨⟨rfl, rfl⟩, by decide, by decide⟩ dX10_never_1 ⟨rfl, rfl⟩ rfl ?_
  exact r_iretz X rfl dX10_never_4 h
set_option maxRecDepth 100000 in
set_option maxHeartbeats 4000000 in
theorem t_X10_farsBy_b52 {M : am_M} {D : va_G} {cT : Nat → ClassId} {ad : Nat → Nat} (X : am_X M (D, cT, ad, NM, LM) cX10_farsBy RX10 6 (some .int)) {z : Int32 × Sg} {k16 : Sg → Int32 → Int32 → Int32 → Int32 → Option (Int32 × Sg)} (hk16 : ∀ (σ : Sg) (x1 : Int32) (x2 : Int32) (x3 : Int32) (x4 : Int32), k16 σ x1 x2 x3 x4 = some z → am_At M { frames := 7, cells := 0, slots := 0, locals := 163 } (D, cT, ad, NM, LM) (amQi M (D, cT, ad, NM, LM) z) 6 16 [(0, .ref (ad 0)), (1, .int x1), (2, .int x2), (3, .int x3), (4, .int x4)] [] σ) {k52 : Sg → Int32 → Int32 → Int32 → Int32 → Int32 → Option (Int32 × Sg)} (hk52 : ∀ (σ : Sg) (x1 : Int32) (x2 : Int32) (x3 : Int32) (x4 : Int32) (x5 : Int32), k52 σ x1 x2 x3 x4 x5 = some z → am_At M { frames := 7, cells := 0, slots := 0, locals := 163 } (D, cT, ad, NM, LM) (amQi M (D, cT, ad, NM, LM) z) 6 52 [(0, .ref (ad 0)), (1, .int x1), (2, .int x2), (3, .int x3), (4, .int x4), (5, .int x5)] [] σ) (σ : Sg) (x1 : Int32) (x2 : Int32) (x3 : Int32) (x4 : Int32) (x5 : Int32) (h : f_X10_farsBy_b52 k16 k52 σ x1 x2 x3 x4 x5 = some z) : am_At M { frames := 7, cells := 0, slots := 0, locals := 163 } (D, cT, ad, NM, LM) (amQi M (D, cT, ad, NM, LM) z) 6 52 [(0, .ref (ad 0)), (1, .int x1), (2, .int x2), (3, .int x3), (4, .int x4), (5, .int x5)] [] σ := by
  unfold f_X10_farsBy_b52 at h
  refine r_iload X dX10_farsBy_52 5 rfl ?_
  refine r_bipush (v := 24) X dX10_farsBy_54 (by decide) ?_
  refine r_icmp_ge X 85 dX10_farsBy_56 (by decide) h (fun h => ?_) (fun h => ?_)
  · refine r_iinc X [(4, .int (x4 + (1 : Int32))), (0, .ref (ad 0)), (1, .int x1), (2, .int x2), (3, .int x3), (5, .int x5)] dX10_farsBy_85 4 rfl (v := x4 + (1 : Int32)) (by rfl) (by decide) rfl ?_
    refine r_letv h (fun v1 h => ?_)
    refine r_goto X 16 dX10_farsBy_88 (by decide) ?_
    refine r_sub (lv' := [(0, .ref (ad 0)), (1, .int x1), (2, .int x2), (3, .int x3), (4, .int v1)]) [1, 2, 3, 4, 0] rfl ?_
    exact hk16 σ x1 x2 x3 v1 h
  · refine r_aload_n X dX10_farsBy_59 rfl 0 rfl ?_
    refine r_getR (c1 := 26) X fg_X10_85_X10 fM_0 rfl dX10_farsBy_60 ?_
    refine r_bipush (v := 24) X dX10_farsBy_63 (by decide) ?_
    refine r_iload X dX10_farsBy_65 4 rfl ?_
    refine r_imul X dX10_farsBy_67 ?_
    refine r_iload X dX10_farsBy_68 5 rfl ?_
    refine r_iadd X dX10_farsBy_70 ?_
    refine r_aload_n X dX10_farsBy_71 rfl 0 rfl ?_
    refine r_getR (c1 := 20) X fg_X10_67_X10 fM_0 rfl dX10_farsBy_72 ?_
    refine r_iload X dX10_farsBy_75 5 rfl ?_
    refine r_iald X fM_20 dX10_farsBy_77 h (fun h => ?_)
    refine r_iast X fM_26 dX10_farsBy_78 h (fun σ2 h => ?_)
    refine r_iinc X [(5, .int (x5 + (1 : Int32))), (0, .ref (ad 0)), (1, .int x1), (2, .int x2), (3, .int x3), (4, .int x4)] dX10_farsBy_79 5 rfl (v := x5 + (1 : Int32)) (by rfl) (by decide) rfl ?_
    refine r_letv h (fun v3 h => ?_)
    refine r_goto X 52 dX10_farsBy_82 (by decide) ?_
    refine r_sub (lv' := [(0, .ref (ad 0)), (1, .int x1), (2, .int x2), (3, .int x3), (4, .int x4), (5, .int v3)]) [1, 2, 3, 4, 5, 0] rfl ?_
    exact hk52 σ2 x1 x2 x3 x4 v3 h
theorem t_X10_farsBy_l52 {M : am_M} {D : va_G} {cT : Nat → ClassId} {ad : Nat → Nat} (X : am_X M (D, cT, ad, NM, LM) cX10_farsBy RX10 6 (some .int)) {z : Int32 × Sg} {k16 : Sg → Int32 → Int32 → Int32 → Int32 → Option (Int32 × Sg)} (hk16 : ∀ (σ : Sg) (x1 : Int32) (x2 : Int32) (x3 : Int32) (x4 : Int32), k16 σ x1 x2 x3 x4 = some z → am_At M { frames := 7, cells := 0, slots := 0, locals := 163 } (D, cT, ad, NM, LM) (amQi M (D, cT, ad, NM, LM) z) 6 16 [(0, .ref (ad 0)), (1, .int x1), (2, .int x2), (3, .int x3), (4, .int x4)] [] σ) (n : Nat) : ∀ (σ : Sg) (x1 : Int32) (x2 : Int32) (x3 : Int32) (x4 : Int32) (x5 : Int32), f_X10_farsBy_l52 k16 n σ x1 x2 x3 x4 x5 = some z → am_At M { frames := 7, cells := 0, slots := 0, locals := 163 } (D, cT, ad, NM, LM) (amQi M (D, cT, ad, NM, LM) z) 6 52 [(0, .ref (ad 0)), (1, .int x1), (2, .int x2), (3, .int x3), (4, .int x4), (5, .int x5)] [] σ := by
  induction n with
  | zero =>
    intro σ x1 x2 x3 x4 x5 h
    have h2 : (none : Option (Int32 × Sg)) = some z := h
    cases h2
  | succ n ih =>
    intro σ x1 x2 x3 x4 x5 h
    exact t_X10_farsBy_b52 X hk16 (k52 := f_X10_farsBy_l52 k16 n) ih σ x1 x2 x3 x4 x5 h
set_option maxRecDepth 100000 in
set_option maxHeartbeats 4000000 in
theorem t_X10_farsBy_b47 {M : am_M} {D : va_G} {cT : Nat → ClassId} {ad : Nat → Nat} (X : am_X M (D, cT, ad, NM, LM) cX10_farsBy RX10 6 (some .int)) {z : Int32 × Sg} {k16 : Sg → Int32 → Int32 → Int32 → Int32 → Option (Int32 × Sg)} (hk16 : ∀ (σ : Sg) (x1 : Int32) (x2 : Int32) (x3 : Int32) (x4 : Int32), k16 σ x1 x2 x3 x4 = some z → am_At M { frames := 7, cells := 0, slots := 0, locals := 163 } (D, cT, ad, NM, LM) (amQi M (D, cT, ad, NM, LM) z) 6 16 [(0, .ref (ad 0)), (1, .int x1), (2, .int x2), (3, .int x3), (4, .int x4)] [] σ) (σ : Sg) (x1 : Int32) (x2 : Int32) (x4 : Int32) (s0 : Int32) (s1 : Int32) (h : f_X10_farsBy_b47 k16 σ x1 x2 x4 s0 s1 = some z) : am_At M { frames := 7, cells := 0, slots := 0, locals := 163 } (D, cT, ad, NM, LM) (amQi M (D, cT, ad, NM, LM) z) 6 47 [(0, .ref (ad 0)), (1, .int x1), (2, .int x2), (4, .int x4)] [.int s0, .int s1] σ := by
  unfold f_X10_farsBy_b47 at h
  refine r_ior X dX10_farsBy_47 ?_
  refine r_leti h (fun v1 h => ?_)
  refine r_istore_n X [(3, .int v1), (0, .ref (ad 0)), (1, .int x1), (2, .int x2), (4, .int x4)] dX10_farsBy_48 rfl (by decide) rfl ?_
  refine r_iconst (v := 0) X dX10_farsBy_49 (by decide) ?_
  refine r_istore X [(5, .int (0 : Int32)), (3, .int v1), (0, .ref (ad 0)), (1, .int x1), (2, .int x2), (4, .int x4)] dX10_farsBy_50 (by decide) rfl ?_
  refine r_sub (lv' := [(0, .ref (ad 0)), (1, .int x1), (2, .int x2), (3, .int v1), (4, .int x4), (5, .int (0 : Int32))]) [2, 3, 4, 1, 5, 0] rfl ?_
  exact t_X10_farsBy_l52 X hk16 300 σ x1 x2 v1 x4 (0 : Int32) h
set_option maxRecDepth 100000 in
set_option maxHeartbeats 4000000 in
theorem t_X10_farsBy_b16 {M : am_M} {D : va_G} {cT : Nat → ClassId} {ad : Nat → Nat} (X : am_X M (D, cT, ad, NM, LM) cX10_farsBy RX10 6 (some .int)) {z : Int32 × Sg} {k16 : Sg → Int32 → Int32 → Int32 → Int32 → Option (Int32 × Sg)} (hk16 : ∀ (σ : Sg) (x1 : Int32) (x2 : Int32) (x3 : Int32) (x4 : Int32), k16 σ x1 x2 x3 x4 = some z → am_At M { frames := 7, cells := 0, slots := 0, locals := 163 } (D, cT, ad, NM, LM) (amQi M (D, cT, ad, NM, LM) z) 6 16 [(0, .ref (ad 0)), (1, .int x1), (2, .int x2), (3, .int x3), (4, .int x4)] [] σ) (σ : Sg) (x1 : Int32) (x2 : Int32) (x3 : Int32) (x4 : Int32) (h : f_X10_farsBy_b16 k16 σ x1 x2 x3 x4 = some z) : am_At M { frames := 7, cells := 0, slots := 0, locals := 163 } (D, cT, ad, NM, LM) (amQi M (D, cT, ad, NM, LM) z) 6 16 [(0, .ref (ad 0)), (1, .int x1), (2, .int x2), (3, .int x3), (4, .int x4)] [] σ := by
  unfold f_X10_farsBy_b16 at h
  refine r_iload X dX10_farsBy_16 4 rfl ?_
  refine r_bipush (v := 10) X dX10_farsBy_18 (by decide) ?_
  refine r_icmp_ge X 91 dX10_farsBy_20 (by decide) h (fun h => ?_) (fun h => ?_)
  · refine r_aload_n X dX10_farsBy_91 rfl 0 rfl ?_
    refine r_getR (c1 := 6) X fg_X10_25_X10 fM_0 rfl dX10_farsBy_92 ?_
    refine r_iload_n X dX10_farsBy_95 rfl 1 rfl ?_
    refine r_iload_n X dX10_farsBy_96 rfl 2 rfl ?_
    refine r_iast X fM_6 dX10_farsBy_97 h (fun σ1 h => ?_)
    refine r_iload_n X dX10_farsBy_98 rfl 3 rfl ?_
    exact r_iretz X rfl dX10_farsBy_99 h
  · refine r_aload_n X dX10_farsBy_23 rfl 0 rfl ?_
    refine r_getR (c1 := 6) X fg_X10_25_X10 fM_0 rfl dX10_farsBy_24 ?_
    refine r_iload_n X dX10_farsBy_27 rfl 1 rfl ?_
    refine r_iload X dX10_farsBy_28 4 rfl ?_
    refine r_iast X fM_6 dX10_farsBy_30 h (fun σ2 h => ?_)
    refine r_iload_n X dX10_farsBy_31 rfl 3 rfl ?_
    refine r_aload_n X dX10_farsBy_32 rfl 0 rfl ?_
    obtain ⟨r3, σ4, hc_5, h⟩ := bnd_of h
    refine r_callV (As := []) (rest := [.int x3]) (st2 := [.int r3, .int x3]) (c := 0) X cv_X10_302 (c_X10_isSeen M.2.1 hc_5) rfl (ci := 9) rfl fM_0 rfl rfl (Nat.le_of_ble_eq_true rfl) ⟨⟨rfl, rfl⟩, by decide, by decide⟩ dX10_farsBy_33 ⟨rfl, rfl⟩ rfl ?_
    refine r_if_eq X 46 dX10_farsBy_36 (by decide) h (fun h => ?_) (fun h => ?_)
    · refine r_iconst (v := 0) X dX10_farsBy_46 (by decide) ?_
      refine r_sub (lv' := [(0, .ref (ad 0)), (1, .int x1), (2, .int x2), (4, .int x4)]) [0, 1, 2, 4] rfl ?_
      exact t_X10_farsBy_b47 X hk16 σ4 x1 x2 x4 (0 : Int32) x3 h
    · refine r_iconst (v := 1) X dX10_farsBy_39 (by decide) ?_
      refine r_iload X dX10_farsBy_40 4 rfl ?_
      refine r_ishl X dX10_farsBy_42 ?_
      refine r_goto X 47 dX10_farsBy_43 (by decide) ?_
      refine r_sub (lv' := [(0, .ref (ad 0)), (1, .int x1), (2, .int x2), (4, .int x4)]) [0, 1, 2, 4] rfl ?_
      exact t_X10_farsBy_b47 X hk16 σ4 x1 x2 x4 ((1 : Int32) <<< (x4 &&& 31)) x3 h
theorem t_X10_farsBy_l16 {M : am_M} {D : va_G} {cT : Nat → ClassId} {ad : Nat → Nat} (X : am_X M (D, cT, ad, NM, LM) cX10_farsBy RX10 6 (some .int)) {z : Int32 × Sg} (n : Nat) : ∀ (σ : Sg) (x1 : Int32) (x2 : Int32) (x3 : Int32) (x4 : Int32), f_X10_farsBy_l16 n σ x1 x2 x3 x4 = some z → am_At M { frames := 7, cells := 0, slots := 0, locals := 163 } (D, cT, ad, NM, LM) (amQi M (D, cT, ad, NM, LM) z) 6 16 [(0, .ref (ad 0)), (1, .int x1), (2, .int x2), (3, .int x3), (4, .int x4)] [] σ := by
  induction n with
  | zero =>
    intro σ x1 x2 x3 x4 h
    have h2 : (none : Option (Int32 × Sg)) = some z := h
    cases h2
  | succ n ih =>
    intro σ x1 x2 x3 x4 h
    exact t_X10_farsBy_b16 X (k16 := f_X10_farsBy_l16 n) ih σ x1 x2 x3 x4 h
set_option maxRecDepth 100000 in
set_option maxHeartbeats 4000000 in
theorem c_X10_farsBy (l : Launch) {σ : Sg} {a1 : Int32} {z : Int32 × Sg} (h : f_X10_farsBy σ a1 = some z) : am_Met l yX10_farsBy cX10_farsBy 6 (some .int) { frames := 7, cells := 0, slots := 0, locals := 163 } NM LM (fun ad => [.ref (ad 0), .int a1]) σ z.2 (fun _ => some (.int z.1)) := by
  refine am_enter (by decide +kernel) (fun ad => Nat.le_of_ble_eq_true rfl) (fun M D cT ad hl X => ?_)
  subst hl
  refine r_lv (lv' := [(0, .ref (ad 0)), (1, .int a1)]) rfl ?_
  unfold f_X10_farsBy at h
  refine r_aload_n X dX10_farsBy_0 rfl 0 rfl ?_
  obtain ⟨r1, σ2, hc_4, h⟩ := bnd_of h
  refine r_callV (As := []) (rest := []) (st2 := []) (c := 0) X cv_X10_229 (c_X10_asTold M.2.1 hc_4) rfl (ci := 9) rfl fM_0 rfl rfl (Nat.le_of_ble_eq_true rfl) ⟨⟨rfl, rfl⟩, by decide, by decide⟩ dX10_farsBy_1 ⟨rfl, rfl⟩ rfl ?_
  refine r_aload_n X dX10_farsBy_4 rfl 0 rfl ?_
  refine r_getR (c1 := 6) X fg_X10_25_X10 fM_0 rfl dX10_farsBy_5 ?_
  refine r_iload_n X dX10_farsBy_8 rfl 1 rfl ?_
  refine r_iald X fM_6 dX10_farsBy_9 h (fun h => ?_)
  refine r_leti h (fun v3 h => ?_)
  refine r_istore_n X [(2, .int v3), (0, .ref (ad 0)), (1, .int a1)] dX10_farsBy_10 rfl (by decide) rfl ?_
  refine r_iconst (v := 0) X dX10_farsBy_11 (by decide) ?_
  refine r_istore_n X [(3, .int (0 : Int32)), (2, .int v3), (0, .ref (ad 0)), (1, .int a1)] dX10_farsBy_12 rfl (by decide) rfl ?_
  refine r_iconst (v := 1) X dX10_farsBy_13 (by decide) ?_
  refine r_istore X [(4, .int (1 : Int32)), (3, .int (0 : Int32)), (2, .int v3), (0, .ref (ad 0)), (1, .int a1)] dX10_farsBy_14 (by decide) rfl ?_
  refine r_sub (lv' := [(0, .ref (ad 0)), (1, .int a1), (2, .int v3), (3, .int (0 : Int32)), (4, .int (1 : Int32))]) [3, 4, 2, 1, 0] rfl ?_
  exact t_X10_farsBy_l16 X 300 σ2 a1 v3 (0 : Int32) (1 : Int32) h
set_option maxRecDepth 100000 in
set_option maxHeartbeats 4000000 in
theorem t_X10_sortsBy_b46 {M : am_M} {D : va_G} {cT : Nat → ClassId} {ad : Nat → Nat} (X : am_X M (D, cT, ad, NM, LM) cX10_sortsBy RX10 5 (some .int)) {z : Int32 × Sg} {k16 : Sg → Int32 → Int32 → Int32 → Int32 → Option (Int32 × Sg)} (hk16 : ∀ (σ : Sg) (x1 : Int32) (x2 : Int32) (x3 : Int32) (x4 : Int32), k16 σ x1 x2 x3 x4 = some z → am_At M { frames := 7, cells := 0, slots := 0, locals := 163 } (D, cT, ad, NM, LM) (amQi M (D, cT, ad, NM, LM) z) 5 16 [(0, .ref (ad 0)), (1, .int x1), (2, .int x2), (3, .int x3), (4, .int x4)] [] σ) (σ : Sg) (x1 : Int32) (x2 : Int32) (x4 : Int32) (s0 : Int32) (s1 : Int32) (h : f_X10_sortsBy_b46 k16 σ x1 x2 x4 s0 s1 = some z) : am_At M { frames := 7, cells := 0, slots := 0, locals := 163 } (D, cT, ad, NM, LM) (amQi M (D, cT, ad, NM, LM) z) 5 46 [(0, .ref (ad 0)), (1, .int x1), (2, .int x2), (4, .int x4)] [.int s0, .int s1] σ := by
  unfold f_X10_sortsBy_b46 at h
  refine r_ior X dX10_sortsBy_46 ?_
  refine r_leti h (fun v1 h => ?_)
  refine r_istore_n X [(3, .int v1), (0, .ref (ad 0)), (1, .int x1), (2, .int x2), (4, .int x4)] dX10_sortsBy_47 rfl (by decide) rfl ?_
  refine r_iinc X [(4, .int (x4 + (1 : Int32))), (3, .int v1), (0, .ref (ad 0)), (1, .int x1), (2, .int x2)] dX10_sortsBy_48 4 rfl (v := x4 + (1 : Int32)) (by rfl) (by decide) rfl ?_
  refine r_letv h (fun v2 h => ?_)
  refine r_goto X 16 dX10_sortsBy_51 (by decide) ?_
  refine r_sub (lv' := [(0, .ref (ad 0)), (1, .int x1), (2, .int x2), (3, .int v1), (4, .int v2)]) [2, 3, 4, 1, 0] rfl ?_
  exact hk16 σ x1 x2 v1 v2 h
set_option maxRecDepth 100000 in
set_option maxHeartbeats 4000000 in
theorem t_X10_sortsBy_b16 {M : am_M} {D : va_G} {cT : Nat → ClassId} {ad : Nat → Nat} (X : am_X M (D, cT, ad, NM, LM) cX10_sortsBy RX10 5 (some .int)) {z : Int32 × Sg} {k16 : Sg → Int32 → Int32 → Int32 → Int32 → Option (Int32 × Sg)} (hk16 : ∀ (σ : Sg) (x1 : Int32) (x2 : Int32) (x3 : Int32) (x4 : Int32), k16 σ x1 x2 x3 x4 = some z → am_At M { frames := 7, cells := 0, slots := 0, locals := 163 } (D, cT, ad, NM, LM) (amQi M (D, cT, ad, NM, LM) z) 5 16 [(0, .ref (ad 0)), (1, .int x1), (2, .int x2), (3, .int x3), (4, .int x4)] [] σ) (σ : Sg) (x1 : Int32) (x2 : Int32) (x3 : Int32) (x4 : Int32) (h : f_X10_sortsBy_b16 k16 σ x1 x2 x3 x4 = some z) : am_At M { frames := 7, cells := 0, slots := 0, locals := 163 } (D, cT, ad, NM, LM) (amQi M (D, cT, ad, NM, LM) z) 5 16 [(0, .ref (ad 0)), (1, .int x1), (2, .int x2), (3, .int x3), (4, .int x4)] [] σ := by
  unfold f_X10_sortsBy_b16 at h
  refine r_iload X dX10_sortsBy_16 4 rfl ?_
  refine r_iconst (v := 3) X dX10_sortsBy_18 (by decide) ?_
  refine r_icmp_ge X 54 dX10_sortsBy_19 (by decide) h (fun h => ?_) (fun h => ?_)
  · refine r_aload_n X dX10_sortsBy_54 rfl 0 rfl ?_
    refine r_getR (c1 := 3) X fg_X10_16_X10 fM_0 rfl dX10_sortsBy_55 ?_
    refine r_iload_n X dX10_sortsBy_58 rfl 1 rfl ?_
    refine r_iload_n X dX10_sortsBy_59 rfl 2 rfl ?_
    refine r_iast X fM_3 dX10_sortsBy_60 h (fun σ1 h => ?_)
    refine r_iload_n X dX10_sortsBy_61 rfl 3 rfl ?_
    exact r_iretz X rfl dX10_sortsBy_62 h
  · refine r_aload_n X dX10_sortsBy_22 rfl 0 rfl ?_
    refine r_getR (c1 := 3) X fg_X10_16_X10 fM_0 rfl dX10_sortsBy_23 ?_
    refine r_iload_n X dX10_sortsBy_26 rfl 1 rfl ?_
    refine r_iload X dX10_sortsBy_27 4 rfl ?_
    refine r_iast X fM_3 dX10_sortsBy_29 h (fun σ2 h => ?_)
    refine r_iload_n X dX10_sortsBy_30 rfl 3 rfl ?_
    refine r_aload_n X dX10_sortsBy_31 rfl 0 rfl ?_
    obtain ⟨r3, σ4, hc_5, h⟩ := bnd_of h
    refine r_callV (As := []) (rest := [.int x3]) (st2 := [.int r3, .int x3]) (c := 0) X cv_X10_302 (c_X10_isSeen M.2.1 hc_5) rfl (ci := 9) rfl fM_0 rfl rfl (Nat.le_of_ble_eq_true rfl) ⟨⟨rfl, rfl⟩, by decide, by decide⟩ dX10_sortsBy_32 ⟨rfl, rfl⟩ rfl ?_
    refine r_if_eq X 45 dX10_sortsBy_35 (by decide) h (fun h => ?_) (fun h => ?_)
    · refine r_iconst (v := 0) X dX10_sortsBy_45 (by decide) ?_
      refine r_sub (lv' := [(0, .ref (ad 0)), (1, .int x1), (2, .int x2), (4, .int x4)]) [0, 1, 2, 4] rfl ?_
      exact t_X10_sortsBy_b46 X hk16 σ4 x1 x2 x4 (0 : Int32) x3 h
    · refine r_iconst (v := 1) X dX10_sortsBy_38 (by decide) ?_
      refine r_iload X dX10_sortsBy_39 4 rfl ?_
      refine r_ishl X dX10_sortsBy_41 ?_
      refine r_goto X 46 dX10_sortsBy_42 (by decide) ?_
      refine r_sub (lv' := [(0, .ref (ad 0)), (1, .int x1), (2, .int x2), (4, .int x4)]) [0, 1, 2, 4] rfl ?_
      exact t_X10_sortsBy_b46 X hk16 σ4 x1 x2 x4 ((1 : Int32) <<< (x4 &&& 31)) x3 h
theorem t_X10_sortsBy_l16 {M : am_M} {D : va_G} {cT : Nat → ClassId} {ad : Nat → Nat} (X : am_X M (D, cT, ad, NM, LM) cX10_sortsBy RX10 5 (some .int)) {z : Int32 × Sg} (n : Nat) : ∀ (σ : Sg) (x1 : Int32) (x2 : Int32) (x3 : Int32) (x4 : Int32), f_X10_sortsBy_l16 n σ x1 x2 x3 x4 = some z → am_At M { frames := 7, cells := 0, slots := 0, locals := 163 } (D, cT, ad, NM, LM) (amQi M (D, cT, ad, NM, LM) z) 5 16 [(0, .ref (ad 0)), (1, .int x1), (2, .int x2), (3, .int x3), (4, .int x4)] [] σ := by
  induction n with
  | zero =>
    intro σ x1 x2 x3 x4 h
    have h2 : (none : Option (Int32 × Sg)) = some z := h
    cases h2
  | succ n ih =>
    intro σ x1 x2 x3 x4 h
    exact t_X10_sortsBy_b16 X (k16 := f_X10_sortsBy_l16 n) ih σ x1 x2 x3 x4 h
set_option maxRecDepth 100000 in
set_option maxHeartbeats 4000000 in
theorem c_X10_sortsBy (l : Launch) {σ : Sg} {a1 : Int32} {z : Int32 × Sg} (h : f_X10_sortsBy σ a1 = some z) : am_Met l yX10_sortsBy cX10_sortsBy 5 (some .int) { frames := 7, cells := 0, slots := 0, locals := 163 } NM LM (fun ad => [.ref (ad 0), .int a1]) σ z.2 (fun _ => some (.int z.1)) := by
  refine am_enter (by decide +kernel) (fun ad => Nat.le_of_ble_eq_true rfl) (fun M D cT ad hl X => ?_)
  subst hl
  refine r_lv (lv' := [(0, .ref (ad 0)), (1, .int a1)]) rfl ?_
  unfold f_X10_sortsBy at h
  refine r_aload_n X dX10_sortsBy_0 rfl 0 rfl ?_
  obtain ⟨r1, σ2, hc_4, h⟩ := bnd_of h
  refine r_callV (As := []) (rest := []) (st2 := []) (c := 0) X cv_X10_229 (c_X10_asTold M.2.1 hc_4) rfl (ci := 9) rfl fM_0 rfl rfl (Nat.le_of_ble_eq_true rfl) ⟨⟨rfl, rfl⟩, by decide, by decide⟩ dX10_sortsBy_1 ⟨rfl, rfl⟩ rfl ?_
  refine r_aload_n X dX10_sortsBy_4 rfl 0 rfl ?_
  refine r_getR (c1 := 3) X fg_X10_16_X10 fM_0 rfl dX10_sortsBy_5 ?_
  refine r_iload_n X dX10_sortsBy_8 rfl 1 rfl ?_
  refine r_iald X fM_3 dX10_sortsBy_9 h (fun h => ?_)
  refine r_leti h (fun v3 h => ?_)
  refine r_istore_n X [(2, .int v3), (0, .ref (ad 0)), (1, .int a1)] dX10_sortsBy_10 rfl (by decide) rfl ?_
  refine r_iconst (v := 0) X dX10_sortsBy_11 (by decide) ?_
  refine r_istore_n X [(3, .int (0 : Int32)), (2, .int v3), (0, .ref (ad 0)), (1, .int a1)] dX10_sortsBy_12 rfl (by decide) rfl ?_
  refine r_iconst (v := 0) X dX10_sortsBy_13 (by decide) ?_
  refine r_istore X [(4, .int (0 : Int32)), (3, .int (0 : Int32)), (2, .int v3), (0, .ref (ad 0)), (1, .int a1)] dX10_sortsBy_14 (by decide) rfl ?_
  refine r_sub (lv' := [(0, .ref (ad 0)), (1, .int a1), (2, .int v3), (3, .int (0 : Int32)), (4, .int (0 : Int32))]) [3, 4, 2, 1, 0] rfl ?_
  exact t_X10_sortsBy_l16 X 300 σ2 a1 v3 (0 : Int32) (0 : Int32) h
set_option maxRecDepth 100000 in
set_option maxHeartbeats 4000000 in
theorem c_X10_was (l : Launch) {σ : Sg} {a1 : Int32} {a2 : Int32} {z : Int32 × Sg} (h : f_X10_was σ a1 a2 = some z) : am_Met l yX10_was cX10_was 3 (some .int) { frames := 8, cells := 0, slots := 0, locals := 188 } NM LM (fun ad => [.ref (ad 0), .int a1, .int a2]) σ z.2 (fun _ => some (.int z.1)) := by
  refine am_enter (by decide +kernel) (fun ad => Nat.le_of_ble_eq_true rfl) (fun M D cT ad hl X => ?_)
  subst hl
  refine r_lv (lv' := [(0, .ref (ad 0)), (1, .int a1), (2, .int a2)]) rfl ?_
  unfold f_X10_was at h
  refine r_aload_n X dX10_was_0 rfl 0 rfl ?_
  refine r_iload_n X dX10_was_1 rfl 1 rfl ?_
  obtain ⟨r1, σ2, hc_12, h⟩ := bnd_of h
  refine r_callV (As := [.int a1]) (rest := []) (st2 := [.int r1]) (c := 0) X cv_X10_153 (c_X10_isOne M.2.1 hc_12) rfl (ci := 9) rfl fM_0 rfl rfl (Nat.le_of_ble_eq_true rfl) ⟨⟨rfl, rfl⟩, by decide, by decide⟩ dX10_was_2 ⟨rfl, rfl⟩ rfl ?_
  refine r_if_eq X 35 dX10_was_5 (by decide) h (fun h => ?_) (fun h => ?_)
  · refine r_bipush (v := -2) X dX10_was_35 (by decide) ?_
    exact r_iretz X rfl dX10_was_37 h
  · refine r_iload_n X dX10_was_8 rfl 2 rfl ?_
    obtain ⟨r3, σ4, hc_11, h⟩ := bnd_of h
    refine r_callS (As := [.int a2]) (rest := []) (st2 := [.int r3]) X cv_X10_168 (c_X10_isTwo M.2.1 hc_11) rfl rfl rfl (Nat.le_of_ble_eq_true rfl) ⟨⟨rfl, rfl⟩, by decide, by decide⟩ dX10_was_9 ⟨rfl, rfl⟩ rfl ?_
    refine r_if_eq X 35 dX10_was_12 (by decide) h (fun h => ?_) (fun h => ?_)
    · refine r_bipush (v := -2) X dX10_was_35 (by decide) ?_
      exact r_iretz X rfl dX10_was_37 h
    · refine r_iload_n X dX10_was_15 rfl 2 rfl ?_
      refine r_if_ne X 27 dX10_was_16 (by decide) h (fun h => ?_) (fun h => ?_)
      · refine r_aload_n X dX10_was_19 rfl 0 rfl ?_
        refine r_iload_n X dX10_was_20 rfl 1 rfl ?_
        obtain ⟨r8, σ9, hc_10, h⟩ := bnd_of h
        refine r_callV (As := [.int a1]) (rest := []) (st2 := [.int r8]) (c := 0) X cv_X10_309 (c_X10_sortsBy M.2.1 hc_10) rfl (ci := 9) rfl fM_0 rfl rfl (Nat.le_of_ble_eq_true rfl) ⟨⟨rfl, rfl⟩, by decide, by decide⟩ dX10_was_21 ⟨rfl, rfl⟩ rfl ?_
        refine r_goto X 37 dX10_was_24 (by decide) ?_
        exact r_iretz X rfl dX10_was_37 h
      · refine r_aload_n X dX10_was_27 rfl 0 rfl ?_
        refine r_iload_n X dX10_was_28 rfl 1 rfl ?_
        obtain ⟨r5, σ6, hc_7, h⟩ := bnd_of h
        refine r_callV (As := [.int a1]) (rest := []) (st2 := [.int r5]) (c := 0) X cv_X10_312 (c_X10_farsBy M.2.1 hc_7) rfl (ci := 9) rfl fM_0 rfl rfl (Nat.le_of_ble_eq_true rfl) ⟨⟨rfl, rfl⟩, by decide, by decide⟩ dX10_was_29 ⟨rfl, rfl⟩ rfl ?_
        refine r_goto X 37 dX10_was_32 (by decide) ?_
        exact r_iretz X rfl dX10_was_37 h
set_option maxRecDepth 100000 in
set_option maxHeartbeats 4000000 in
theorem t_X10_askOf_b101 {M : am_M} {D : va_G} {cT : Nat → ClassId} {ad : Nat → Nat} (X : am_X M (D, cT, ad, NM, LM) cX10_askOf RX10 10 (some .int)) {z : Int32 × Sg} {k14 : Sg → Int32 → Int32 → Int32 → Int32 → Option (Int32 × Sg)} (hk14 : ∀ (σ : Sg) (x2 : Int32) (x3 : Int32) (x4 : Int32) (x5 : Int32), k14 σ x2 x3 x4 x5 = some z → am_At M { frames := 8, cells := 0, slots := 0, locals := 188 } (D, cT, ad, NM, LM) (amQi M (D, cT, ad, NM, LM) z) 10 14 [(0, .ref (ad 0)), (2, .int x2), (3, .int x3), (4, .int x4), (5, .int x5)] [] σ) {k27 : Sg → Int32 → Int32 → Int32 → Int32 → Int32 → Int32 → Option (Int32 × Sg)} (hk27 : ∀ (σ : Sg) (x2 : Int32) (x3 : Int32) (x4 : Int32) (x5 : Int32) (x6 : Int32) (x7 : Int32), k27 σ x2 x3 x4 x5 x6 x7 = some z → am_At M { frames := 8, cells := 0, slots := 0, locals := 188 } (D, cT, ad, NM, LM) (amQi M (D, cT, ad, NM, LM) z) 10 27 [(0, .ref (ad 0)), (2, .int x2), (3, .int x3), (4, .int x4), (5, .int x5), (6, .int x6), (7, .int x7)] [] σ) {k40 : Sg → Int32 → Int32 → Int32 → Int32 → Int32 → Int32 → Int32 → Int32 → Option (Int32 × Sg)} (hk40 : ∀ (σ : Sg) (x2 : Int32) (x3 : Int32) (x4 : Int32) (x5 : Int32) (x6 : Int32) (x7 : Int32) (x8 : Int32) (x9 : Int32), k40 σ x2 x3 x4 x5 x6 x7 x8 x9 = some z → am_At M { frames := 8, cells := 0, slots := 0, locals := 188 } (D, cT, ad, NM, LM) (amQi M (D, cT, ad, NM, LM) z) 10 40 [(0, .ref (ad 0)), (2, .int x2), (3, .int x3), (4, .int x4), (5, .int x5), (6, .int x6), (7, .int x7), (8, .int x8), (9, .int x9)] [] σ) (σ : Sg) (x2 : Int32) (x3 : Int32) (x4 : Int32) (x5 : Int32) (x6 : Int32) (x7 : Int32) (x9 : Int32) (s0 : Int32) (s1 : Int32) (h : f_X10_askOf_b101 k14 k27 k40 σ x2 x3 x4 x5 x6 x7 x9 s0 s1 = some z) : am_At M { frames := 8, cells := 0, slots := 0, locals := 188 } (D, cT, ad, NM, LM) (amQi M (D, cT, ad, NM, LM) z) 10 101 [(0, .ref (ad 0)), (2, .int x2), (3, .int x3), (4, .int x4), (5, .int x5), (6, .int x6), (7, .int x7), (9, .int x9)] [.int s0, .int s1] σ := by
  unfold f_X10_askOf_b101 at h
  refine r_iadd X dX10_askOf_101 ?_
  refine r_leti h (fun v1 h => ?_)
  refine r_istore X [(8, .int v1), (0, .ref (ad 0)), (2, .int x2), (3, .int x3), (4, .int x4), (5, .int x5), (6, .int x6), (7, .int x7), (9, .int x9)] dX10_askOf_102 (by decide) rfl ?_
  refine r_iinc X [(9, .int (x9 + (1 : Int32))), (8, .int v1), (0, .ref (ad 0)), (2, .int x2), (3, .int x3), (4, .int x4), (5, .int x5), (6, .int x6), (7, .int x7)] dX10_askOf_104 8 rfl (v := x9 + (1 : Int32)) (by rfl) (by decide) rfl ?_
  refine r_letv h (fun v2 h => ?_)
  refine r_goto X 40 dX10_askOf_107 (by decide) ?_
  refine r_sub (lv' := [(0, .ref (ad 0)), (2, .int x2), (3, .int x3), (4, .int x4), (5, .int x5), (6, .int x6), (7, .int x7), (8, .int v1), (9, .int v2)]) [2, 3, 4, 5, 6, 7, 8, 1, 0] rfl ?_
  exact hk40 σ x2 x3 x4 x5 x6 x7 v1 v2 h
set_option maxRecDepth 100000 in
set_option maxHeartbeats 4000000 in
theorem t_X10_askOf_b100 {M : am_M} {D : va_G} {cT : Nat → ClassId} {ad : Nat → Nat} (X : am_X M (D, cT, ad, NM, LM) cX10_askOf RX10 10 (some .int)) {z : Int32 × Sg} {k14 : Sg → Int32 → Int32 → Int32 → Int32 → Option (Int32 × Sg)} (hk14 : ∀ (σ : Sg) (x2 : Int32) (x3 : Int32) (x4 : Int32) (x5 : Int32), k14 σ x2 x3 x4 x5 = some z → am_At M { frames := 8, cells := 0, slots := 0, locals := 188 } (D, cT, ad, NM, LM) (amQi M (D, cT, ad, NM, LM) z) 10 14 [(0, .ref (ad 0)), (2, .int x2), (3, .int x3), (4, .int x4), (5, .int x5)] [] σ) {k27 : Sg → Int32 → Int32 → Int32 → Int32 → Int32 → Int32 → Option (Int32 × Sg)} (hk27 : ∀ (σ : Sg) (x2 : Int32) (x3 : Int32) (x4 : Int32) (x5 : Int32) (x6 : Int32) (x7 : Int32), k27 σ x2 x3 x4 x5 x6 x7 = some z → am_At M { frames := 8, cells := 0, slots := 0, locals := 188 } (D, cT, ad, NM, LM) (amQi M (D, cT, ad, NM, LM) z) 10 27 [(0, .ref (ad 0)), (2, .int x2), (3, .int x3), (4, .int x4), (5, .int x5), (6, .int x6), (7, .int x7)] [] σ) {k40 : Sg → Int32 → Int32 → Int32 → Int32 → Int32 → Int32 → Int32 → Int32 → Option (Int32 × Sg)} (hk40 : ∀ (σ : Sg) (x2 : Int32) (x3 : Int32) (x4 : Int32) (x5 : Int32) (x6 : Int32) (x7 : Int32) (x8 : Int32) (x9 : Int32), k40 σ x2 x3 x4 x5 x6 x7 x8 x9 = some z → am_At M { frames := 8, cells := 0, slots := 0, locals := 188 } (D, cT, ad, NM, LM) (amQi M (D, cT, ad, NM, LM) z) 10 40 [(0, .ref (ad 0)), (2, .int x2), (3, .int x3), (4, .int x4), (5, .int x5), (6, .int x6), (7, .int x7), (8, .int x8), (9, .int x9)] [] σ) (σ : Sg) (x2 : Int32) (x3 : Int32) (x4 : Int32) (x5 : Int32) (x6 : Int32) (x7 : Int32) (x9 : Int32) (s0 : Int32) (h : f_X10_askOf_b100 k14 k27 k40 σ x2 x3 x4 x5 x6 x7 x9 s0 = some z) : am_At M { frames := 8, cells := 0, slots := 0, locals := 188 } (D, cT, ad, NM, LM) (amQi M (D, cT, ad, NM, LM) z) 10 100 [(0, .ref (ad 0)), (2, .int x2), (3, .int x3), (4, .int x4), (5, .int x5), (6, .int x6), (7, .int x7), (9, .int x9)] [.int s0] σ := by
  unfold f_X10_askOf_b100 at h
  refine r_iconst (v := 0) X dX10_askOf_100 (by decide) ?_
  exact t_X10_askOf_b101 X hk14 hk27 hk40 σ x2 x3 x4 x5 x6 x7 x9 (0 : Int32) s0 h
set_option maxRecDepth 100000 in
set_option maxHeartbeats 4000000 in
theorem t_X10_askOf_b124 {M : am_M} {D : va_G} {cT : Nat → ClassId} {ad : Nat → Nat} (X : am_X M (D, cT, ad, NM, LM) cX10_askOf RX10 10 (some .int)) {z : Int32 × Sg} {k14 : Sg → Int32 → Int32 → Int32 → Int32 → Option (Int32 × Sg)} (hk14 : ∀ (σ : Sg) (x2 : Int32) (x3 : Int32) (x4 : Int32) (x5 : Int32), k14 σ x2 x3 x4 x5 = some z → am_At M { frames := 8, cells := 0, slots := 0, locals := 188 } (D, cT, ad, NM, LM) (amQi M (D, cT, ad, NM, LM) z) 10 14 [(0, .ref (ad 0)), (2, .int x2), (3, .int x3), (4, .int x4), (5, .int x5)] [] σ) {k27 : Sg → Int32 → Int32 → Int32 → Int32 → Int32 → Int32 → Option (Int32 × Sg)} (hk27 : ∀ (σ : Sg) (x2 : Int32) (x3 : Int32) (x4 : Int32) (x5 : Int32) (x6 : Int32) (x7 : Int32), k27 σ x2 x3 x4 x5 x6 x7 = some z → am_At M { frames := 8, cells := 0, slots := 0, locals := 188 } (D, cT, ad, NM, LM) (amQi M (D, cT, ad, NM, LM) z) 10 27 [(0, .ref (ad 0)), (2, .int x2), (3, .int x3), (4, .int x4), (5, .int x5), (6, .int x6), (7, .int x7)] [] σ) (σ : Sg) (x2 : Int32) (x3 : Int32) (x4 : Int32) (x5 : Int32) (x7 : Int32) (s0 : Int32) (h : f_X10_askOf_b124 k14 k27 σ x2 x3 x4 x5 x7 s0 = some z) : am_At M { frames := 8, cells := 0, slots := 0, locals := 188 } (D, cT, ad, NM, LM) (amQi M (D, cT, ad, NM, LM) z) 10 124 [(0, .ref (ad 0)), (2, .int x2), (3, .int x3), (4, .int x4), (5, .int x5), (7, .int x7)] [.int s0] σ := by
  unfold f_X10_askOf_b124 at h
  refine r_istore X [(6, .int s0), (0, .ref (ad 0)), (2, .int x2), (3, .int x3), (4, .int x4), (5, .int x5), (7, .int x7)] dX10_askOf_124 (by decide) rfl ?_
  refine r_iinc X [(7, .int (x7 + (1 : Int32))), (6, .int s0), (0, .ref (ad 0)), (2, .int x2), (3, .int x3), (4, .int x4), (5, .int x5)] dX10_askOf_126 6 rfl (v := x7 + (1 : Int32)) (by rfl) (by decide) rfl ?_
  refine r_letv h (fun v1 h => ?_)
  refine r_goto X 27 dX10_askOf_129 (by decide) ?_
  refine r_sub (lv' := [(0, .ref (ad 0)), (2, .int x2), (3, .int x3), (4, .int x4), (5, .int x5), (6, .int s0), (7, .int v1)]) [2, 3, 4, 5, 6, 1, 0] rfl ?_
  exact hk27 σ x2 x3 x4 x5 s0 v1 h
set_option maxRecDepth 100000 in
set_option maxHeartbeats 4000000 in
theorem t_X10_askOf_b40 {M : am_M} {D : va_G} {cT : Nat → ClassId} {ad : Nat → Nat} (X : am_X M (D, cT, ad, NM, LM) cX10_askOf RX10 10 (some .int)) {z : Int32 × Sg} {k14 : Sg → Int32 → Int32 → Int32 → Int32 → Option (Int32 × Sg)} (hk14 : ∀ (σ : Sg) (x2 : Int32) (x3 : Int32) (x4 : Int32) (x5 : Int32), k14 σ x2 x3 x4 x5 = some z → am_At M { frames := 8, cells := 0, slots := 0, locals := 188 } (D, cT, ad, NM, LM) (amQi M (D, cT, ad, NM, LM) z) 10 14 [(0, .ref (ad 0)), (2, .int x2), (3, .int x3), (4, .int x4), (5, .int x5)] [] σ) {k27 : Sg → Int32 → Int32 → Int32 → Int32 → Int32 → Int32 → Option (Int32 × Sg)} (hk27 : ∀ (σ : Sg) (x2 : Int32) (x3 : Int32) (x4 : Int32) (x5 : Int32) (x6 : Int32) (x7 : Int32), k27 σ x2 x3 x4 x5 x6 x7 = some z → am_At M { frames := 8, cells := 0, slots := 0, locals := 188 } (D, cT, ad, NM, LM) (amQi M (D, cT, ad, NM, LM) z) 10 27 [(0, .ref (ad 0)), (2, .int x2), (3, .int x3), (4, .int x4), (5, .int x5), (6, .int x6), (7, .int x7)] [] σ) {k40 : Sg → Int32 → Int32 → Int32 → Int32 → Int32 → Int32 → Int32 → Int32 → Option (Int32 × Sg)} (hk40 : ∀ (σ : Sg) (x2 : Int32) (x3 : Int32) (x4 : Int32) (x5 : Int32) (x6 : Int32) (x7 : Int32) (x8 : Int32) (x9 : Int32), k40 σ x2 x3 x4 x5 x6 x7 x8 x9 = some z → am_At M { frames := 8, cells := 0, slots := 0, locals := 188 } (D, cT, ad, NM, LM) (amQi M (D, cT, ad, NM, LM) z) 10 40 [(0, .ref (ad 0)), (2, .int x2), (3, .int x3), (4, .int x4), (5, .int x5), (6, .int x6), (7, .int x7), (8, .int x8), (9, .int x9)] [] σ) (σ : Sg) (x2 : Int32) (x3 : Int32) (x4 : Int32) (x5 : Int32) (x6 : Int32) (x7 : Int32) (x8 : Int32) (x9 : Int32) (h : f_X10_askOf_b40 k14 k27 k40 σ x2 x3 x4 x5 x6 x7 x8 x9 = some z) : am_At M { frames := 8, cells := 0, slots := 0, locals := 188 } (D, cT, ad, NM, LM) (amQi M (D, cT, ad, NM, LM) z) 10 40 [(0, .ref (ad 0)), (2, .int x2), (3, .int x3), (4, .int x4), (5, .int x5), (6, .int x6), (7, .int x7), (8, .int x8), (9, .int x9)] [] σ := by
  unfold f_X10_askOf_b40 at h
  refine r_iload X dX10_askOf_40 8 rfl ?_
  refine r_bipush (v := 10) X dX10_askOf_42 (by decide) ?_
  refine r_icmp_ge X 110 dX10_askOf_44 (by decide) h (fun h => ?_) (fun h => ?_)
  · refine r_iload X dX10_askOf_110 7 rfl ?_
    refine r_iload X dX10_askOf_112 5 rfl ?_
    refine r_icmp_le X 122 dX10_askOf_114 (by decide) h (fun h => ?_) (fun h => ?_)
    · refine r_iload X dX10_askOf_122 5 rfl ?_
      refine r_sub (lv' := [(0, .ref (ad 0)), (2, .int x2), (3, .int x3), (4, .int x4), (5, .int x5), (7, .int x7)]) [0, 1, 2, 3, 4, 6] rfl ?_
      exact t_X10_askOf_b124 X hk14 hk27 σ x2 x3 x4 x5 x7 x6 h
    · refine r_iload X dX10_askOf_117 7 rfl ?_
      refine r_goto X 124 dX10_askOf_119 (by decide) ?_
      refine r_sub (lv' := [(0, .ref (ad 0)), (2, .int x2), (3, .int x3), (4, .int x4), (5, .int x5), (7, .int x7)]) [0, 1, 2, 3, 4, 6] rfl ?_
      exact t_X10_askOf_b124 X hk14 hk27 σ x2 x3 x4 x5 x7 x8 h
  · refine r_iload X dX10_askOf_47 7 rfl ?_
    refine r_iload_n X dX10_askOf_49 rfl 1 rfl ?_
    refine r_iload X dX10_askOf_50 6 rfl ?_
    obtain ⟨r1, σ2, hc_6, h⟩ := bnd_of h
    refine r_callS (As := [.int x2, .int x7]) (rest := [.int x8]) (st2 := [.int r1, .int x8]) X cv_X10_209 (c_X10_isIn M.2.1 hc_6) rfl rfl rfl (Nat.le_of_ble_eq_true rfl) ⟨⟨rfl, rfl⟩, by decide, by decide⟩ dX10_askOf_52 ⟨rfl, rfl⟩ rfl ?_
    refine r_if_eq X 100 dX10_askOf_55 (by decide) h (fun h => ?_) (fun h => ?_)
    · refine r_sub (lv' := [(0, .ref (ad 0)), (2, .int x2), (3, .int x3), (4, .int x4), (5, .int x5), (6, .int x6), (7, .int x7), (9, .int x9)]) [0, 1, 2, 3, 4, 5, 6, 8] rfl ?_
      exact t_X10_askOf_b100 X hk14 hk27 hk40 σ2 x2 x3 x4 x5 x6 x7 x9 x8 h
    · refine r_iload_n X dX10_askOf_58 rfl 1 rfl ?_
      refine r_iload X dX10_askOf_59 8 rfl ?_
      obtain ⟨r3, σ4, hc_5, h⟩ := bnd_of h
      refine r_callS (As := [.int x2, .int x9]) (rest := [.int x8]) (st2 := [.int r3, .int x8]) X cv_X10_209 (c_X10_isIn M.2.1 hc_5) rfl rfl rfl (Nat.le_of_ble_eq_true rfl) ⟨⟨rfl, rfl⟩, by decide, by decide⟩ dX10_askOf_61 ⟨rfl, rfl⟩ rfl ?_
      refine r_if_eq X 100 dX10_askOf_64 (by decide) h (fun h => ?_) (fun h => ?_)
      · refine r_sub (lv' := [(0, .ref (ad 0)), (2, .int x2), (3, .int x3), (4, .int x4), (5, .int x5), (6, .int x6), (7, .int x7), (9, .int x9)]) [0, 1, 2, 3, 4, 5, 6, 8] rfl ?_
        exact t_X10_askOf_b100 X hk14 hk27 hk40 σ4 x2 x3 x4 x5 x6 x7 x9 x8 h
      · refine r_aload_n X dX10_askOf_67 rfl 0 rfl ?_
        refine r_getR (c1 := 26) X fg_X10_85_X10 fM_0 rfl dX10_askOf_68 ?_
        refine r_bipush (v := 24) X dX10_askOf_71 (by decide) ?_
        refine r_iload X dX10_askOf_73 6 rfl ?_
        refine r_imul X dX10_askOf_75 ?_
        refine r_iload X dX10_askOf_76 4 rfl ?_
        refine r_iadd X dX10_askOf_78 ?_
        refine r_iald X fM_26 dX10_askOf_79 h (fun h => ?_)
        refine r_aload_n X dX10_askOf_80 rfl 0 rfl ?_
        refine r_getR (c1 := 26) X fg_X10_85_X10 fM_0 rfl dX10_askOf_81 ?_
        refine r_bipush (v := 24) X dX10_askOf_84 (by decide) ?_
        refine r_iload X dX10_askOf_86 8 rfl ?_
        refine r_imul X dX10_askOf_88 ?_
        refine r_iload X dX10_askOf_89 4 rfl ?_
        refine r_iadd X dX10_askOf_91 ?_
        refine r_iald X fM_26 dX10_askOf_92 h (fun h => ?_)
        refine r_icmp_ne X 100 dX10_askOf_93 (by decide) h (fun h => ?_) (fun h => ?_)
        · refine r_iconst (v := 1) X dX10_askOf_96 (by decide) ?_
          refine r_goto X 101 dX10_askOf_97 (by decide) ?_
          refine r_sub (lv' := [(0, .ref (ad 0)), (2, .int x2), (3, .int x3), (4, .int x4), (5, .int x5), (6, .int x6), (7, .int x7), (9, .int x9)]) [0, 1, 2, 3, 4, 5, 6, 8] rfl ?_
          exact t_X10_askOf_b101 X hk14 hk27 hk40 σ4 x2 x3 x4 x5 x6 x7 x9 (1 : Int32) x8 h
        · refine r_sub (lv' := [(0, .ref (ad 0)), (2, .int x2), (3, .int x3), (4, .int x4), (5, .int x5), (6, .int x6), (7, .int x7), (9, .int x9)]) [0, 1, 2, 3, 4, 5, 6, 8] rfl ?_
          exact t_X10_askOf_b100 X hk14 hk27 hk40 σ4 x2 x3 x4 x5 x6 x7 x9 x8 h
theorem t_X10_askOf_l40 {M : am_M} {D : va_G} {cT : Nat → ClassId} {ad : Nat → Nat} (X : am_X M (D, cT, ad, NM, LM) cX10_askOf RX10 10 (some .int)) {z : Int32 × Sg} {k14 : Sg → Int32 → Int32 → Int32 → Int32 → Option (Int32 × Sg)} (hk14 : ∀ (σ : Sg) (x2 : Int32) (x3 : Int32) (x4 : Int32) (x5 : Int32), k14 σ x2 x3 x4 x5 = some z → am_At M { frames := 8, cells := 0, slots := 0, locals := 188 } (D, cT, ad, NM, LM) (amQi M (D, cT, ad, NM, LM) z) 10 14 [(0, .ref (ad 0)), (2, .int x2), (3, .int x3), (4, .int x4), (5, .int x5)] [] σ) {k27 : Sg → Int32 → Int32 → Int32 → Int32 → Int32 → Int32 → Option (Int32 × Sg)} (hk27 : ∀ (σ : Sg) (x2 : Int32) (x3 : Int32) (x4 : Int32) (x5 : Int32) (x6 : Int32) (x7 : Int32), k27 σ x2 x3 x4 x5 x6 x7 = some z → am_At M { frames := 8, cells := 0, slots := 0, locals := 188 } (D, cT, ad, NM, LM) (amQi M (D, cT, ad, NM, LM) z) 10 27 [(0, .ref (ad 0)), (2, .int x2), (3, .int x3), (4, .int x4), (5, .int x5), (6, .int x6), (7, .int x7)] [] σ) (n : Nat) : ∀ (σ : Sg) (x2 : Int32) (x3 : Int32) (x4 : Int32) (x5 : Int32) (x6 : Int32) (x7 : Int32) (x8 : Int32) (x9 : Int32), f_X10_askOf_l40 k14 k27 n σ x2 x3 x4 x5 x6 x7 x8 x9 = some z → am_At M { frames := 8, cells := 0, slots := 0, locals := 188 } (D, cT, ad, NM, LM) (amQi M (D, cT, ad, NM, LM) z) 10 40 [(0, .ref (ad 0)), (2, .int x2), (3, .int x3), (4, .int x4), (5, .int x5), (6, .int x6), (7, .int x7), (8, .int x8), (9, .int x9)] [] σ := by
  induction n with
  | zero =>
    intro σ x2 x3 x4 x5 x6 x7 x8 x9 h
    have h2 : (none : Option (Int32 × Sg)) = some z := h
    cases h2
  | succ n ih =>
    intro σ x2 x3 x4 x5 x6 x7 x8 x9 h
    exact t_X10_askOf_b40 X hk14 hk27 (k40 := f_X10_askOf_l40 k14 k27 n) ih σ x2 x3 x4 x5 x6 x7 x8 x9 h
set_option maxRecDepth 100000 in
set_option maxHeartbeats 4000000 in
theorem t_X10_askOf_b175 {M : am_M} {D : va_G} {cT : Nat → ClassId} {ad : Nat → Nat} (X : am_X M (D, cT, ad, NM, LM) cX10_askOf RX10 10 (some .int)) {z : Int32 × Sg} {k14 : Sg → Int32 → Int32 → Int32 → Int32 → Option (Int32 × Sg)} (hk14 : ∀ (σ : Sg) (x2 : Int32) (x3 : Int32) (x4 : Int32) (x5 : Int32), k14 σ x2 x3 x4 x5 = some z → am_At M { frames := 8, cells := 0, slots := 0, locals := 188 } (D, cT, ad, NM, LM) (amQi M (D, cT, ad, NM, LM) z) 10 14 [(0, .ref (ad 0)), (2, .int x2), (3, .int x3), (4, .int x4), (5, .int x5)] [] σ) (σ : Sg) (x2 : Int32) (x3 : Int32) (x5 : Int32) (s0 : Int32) (h : f_X10_askOf_b175 k14 σ x2 x3 x5 s0 = some z) : am_At M { frames := 8, cells := 0, slots := 0, locals := 188 } (D, cT, ad, NM, LM) (amQi M (D, cT, ad, NM, LM) z) 10 175 [(0, .ref (ad 0)), (2, .int x2), (3, .int x3), (5, .int x5)] [.int s0] σ := by
  unfold f_X10_askOf_b175 at h
  refine r_istore X [(4, .int s0), (0, .ref (ad 0)), (2, .int x2), (3, .int x3), (5, .int x5)] dX10_askOf_175 (by decide) rfl ?_
  refine r_iinc X [(5, .int (x5 + (1 : Int32))), (4, .int s0), (0, .ref (ad 0)), (2, .int x2), (3, .int x3)] dX10_askOf_177 4 rfl (v := x5 + (1 : Int32)) (by rfl) (by decide) rfl ?_
  refine r_letv h (fun v1 h => ?_)
  refine r_goto X 14 dX10_askOf_180 (by decide) ?_
  refine r_sub (lv' := [(0, .ref (ad 0)), (2, .int x2), (3, .int x3), (4, .int s0), (5, .int v1)]) [2, 3, 4, 1, 0] rfl ?_
  exact hk14 σ x2 x3 s0 v1 h
set_option maxRecDepth 100000 in
set_option maxHeartbeats 4000000 in
theorem t_X10_askOf_b162 {M : am_M} {D : va_G} {cT : Nat → ClassId} {ad : Nat → Nat} (X : am_X M (D, cT, ad, NM, LM) cX10_askOf RX10 10 (some .int)) {z : Int32 × Sg} {k14 : Sg → Int32 → Int32 → Int32 → Int32 → Option (Int32 × Sg)} (hk14 : ∀ (σ : Sg) (x2 : Int32) (x3 : Int32) (x4 : Int32) (x5 : Int32), k14 σ x2 x3 x4 x5 = some z → am_At M { frames := 8, cells := 0, slots := 0, locals := 188 } (D, cT, ad, NM, LM) (amQi M (D, cT, ad, NM, LM) z) 10 14 [(0, .ref (ad 0)), (2, .int x2), (3, .int x3), (4, .int x4), (5, .int x5)] [] σ) (σ : Sg) (x2 : Int32) (x4 : Int32) (x5 : Int32) (x6 : Int32) (x7 : Int32) (s0 : Int32) (h : f_X10_askOf_b162 k14 σ x2 x4 x5 x6 x7 s0 = some z) : am_At M { frames := 8, cells := 0, slots := 0, locals := 188 } (D, cT, ad, NM, LM) (amQi M (D, cT, ad, NM, LM) z) 10 162 [(0, .ref (ad 0)), (2, .int x2), (4, .int x4), (5, .int x5), (6, .int x6), (7, .int x7)] [.int s0] σ := by
  unfold f_X10_askOf_b162 at h
  refine r_istore_n X [(3, .int s0), (0, .ref (ad 0)), (2, .int x2), (4, .int x4), (5, .int x5), (6, .int x6), (7, .int x7)] dX10_askOf_162 rfl (by decide) rfl ?_
  refine r_iload X dX10_askOf_163 6 rfl ?_
  refine r_if_eq X 173 dX10_askOf_165 (by decide) h (fun h => ?_) (fun h => ?_)
  · refine r_iload X dX10_askOf_173 3 rfl ?_
    refine r_sub (lv' := [(0, .ref (ad 0)), (2, .int x2), (3, .int s0), (5, .int x5)]) [1, 2, 0, 4] rfl ?_
    exact t_X10_askOf_b175 X hk14 σ x2 s0 x5 x4 h
  · refine r_iload X dX10_askOf_168 5 rfl ?_
    refine r_goto X 175 dX10_askOf_170 (by decide) ?_
    refine r_sub (lv' := [(0, .ref (ad 0)), (2, .int x2), (3, .int s0), (5, .int x5)]) [1, 2, 0, 4] rfl ?_
    exact t_X10_askOf_b175 X hk14 σ x2 s0 x5 x6 h
set_option maxRecDepth 100000 in
set_option maxHeartbeats 4000000 in
theorem t_X10_askOf_b149 {M : am_M} {D : va_G} {cT : Nat → ClassId} {ad : Nat → Nat} (X : am_X M (D, cT, ad, NM, LM) cX10_askOf RX10 10 (some .int)) {z : Int32 × Sg} {k14 : Sg → Int32 → Int32 → Int32 → Int32 → Option (Int32 × Sg)} (hk14 : ∀ (σ : Sg) (x2 : Int32) (x3 : Int32) (x4 : Int32) (x5 : Int32), k14 σ x2 x3 x4 x5 = some z → am_At M { frames := 8, cells := 0, slots := 0, locals := 188 } (D, cT, ad, NM, LM) (amQi M (D, cT, ad, NM, LM) z) 10 14 [(0, .ref (ad 0)), (2, .int x2), (3, .int x3), (4, .int x4), (5, .int x5)] [] σ) (σ : Sg) (x2 : Int32) (x3 : Int32) (x4 : Int32) (x5 : Int32) (x6 : Int32) (s0 : Int32) (h : f_X10_askOf_b149 k14 σ x2 x3 x4 x5 x6 s0 = some z) : am_At M { frames := 8, cells := 0, slots := 0, locals := 188 } (D, cT, ad, NM, LM) (amQi M (D, cT, ad, NM, LM) z) 10 149 [(0, .ref (ad 0)), (2, .int x2), (3, .int x3), (4, .int x4), (5, .int x5), (6, .int x6)] [.int s0] σ := by
  unfold f_X10_askOf_b149 at h
  refine r_istore X [(7, .int s0), (0, .ref (ad 0)), (2, .int x2), (3, .int x3), (4, .int x4), (5, .int x5), (6, .int x6)] dX10_askOf_149 (by decide) rfl ?_
  refine r_iload X dX10_askOf_151 0 rfl ?_
  refine r_if_eq X 161 dX10_askOf_153 (by decide) h (fun h => ?_) (fun h => ?_)
  · refine r_iload_n X dX10_askOf_161 rfl 3 rfl ?_
    refine r_sub (lv' := [(0, .ref (ad 0)), (2, .int x2), (4, .int x4), (5, .int x5), (6, .int x6), (7, .int s0)]) [1, 2, 4, 5, 6, 0] rfl ?_
    exact t_X10_askOf_b162 X hk14 σ x2 x4 x5 x6 s0 x3 h
  · refine r_iload X dX10_askOf_156 5 rfl ?_
    refine r_goto X 162 dX10_askOf_158 (by decide) ?_
    refine r_sub (lv' := [(0, .ref (ad 0)), (2, .int x2), (4, .int x4), (5, .int x5), (6, .int x6), (7, .int s0)]) [1, 2, 4, 5, 6, 0] rfl ?_
    exact t_X10_askOf_b162 X hk14 σ x2 x4 x5 x6 s0 x5 h
set_option maxRecDepth 100000 in
set_option maxHeartbeats 4000000 in
theorem t_X10_askOf_b144 {M : am_M} {D : va_G} {cT : Nat → ClassId} {ad : Nat → Nat} (X : am_X M (D, cT, ad, NM, LM) cX10_askOf RX10 10 (some .int)) {z : Int32 × Sg} {k14 : Sg → Int32 → Int32 → Int32 → Int32 → Option (Int32 × Sg)} (hk14 : ∀ (σ : Sg) (x2 : Int32) (x3 : Int32) (x4 : Int32) (x5 : Int32), k14 σ x2 x3 x4 x5 = some z → am_At M { frames := 8, cells := 0, slots := 0, locals := 188 } (D, cT, ad, NM, LM) (amQi M (D, cT, ad, NM, LM) z) 10 14 [(0, .ref (ad 0)), (2, .int x2), (3, .int x3), (4, .int x4), (5, .int x5)] [] σ) (σ : Sg) (x2 : Int32) (x3 : Int32) (x4 : Int32) (x5 : Int32) (x6 : Int32) (h : f_X10_askOf_b144 k14 σ x2 x3 x4 x5 x6 = some z) : am_At M { frames := 8, cells := 0, slots := 0, locals := 188 } (D, cT, ad, NM, LM) (amQi M (D, cT, ad, NM, LM) z) 10 144 [(0, .ref (ad 0)), (2, .int x2), (3, .int x3), (4, .int x4), (5, .int x5), (6, .int x6)] [] σ := by
  unfold f_X10_askOf_b144 at h
  refine r_iconst (v := 1) X dX10_askOf_144 (by decide) ?_
  refine r_goto X 149 dX10_askOf_145 (by decide) ?_
  exact t_X10_askOf_b149 X hk14 σ x2 x3 x4 x5 x6 (1 : Int32) h
set_option maxRecDepth 100000 in
set_option maxHeartbeats 4000000 in
theorem t_X10_askOf_b27 {M : am_M} {D : va_G} {cT : Nat → ClassId} {ad : Nat → Nat} (X : am_X M (D, cT, ad, NM, LM) cX10_askOf RX10 10 (some .int)) {z : Int32 × Sg} {k14 : Sg → Int32 → Int32 → Int32 → Int32 → Option (Int32 × Sg)} (hk14 : ∀ (σ : Sg) (x2 : Int32) (x3 : Int32) (x4 : Int32) (x5 : Int32), k14 σ x2 x3 x4 x5 = some z → am_At M { frames := 8, cells := 0, slots := 0, locals := 188 } (D, cT, ad, NM, LM) (amQi M (D, cT, ad, NM, LM) z) 10 14 [(0, .ref (ad 0)), (2, .int x2), (3, .int x3), (4, .int x4), (5, .int x5)] [] σ) {k27 : Sg → Int32 → Int32 → Int32 → Int32 → Int32 → Int32 → Option (Int32 × Sg)} (hk27 : ∀ (σ : Sg) (x2 : Int32) (x3 : Int32) (x4 : Int32) (x5 : Int32) (x6 : Int32) (x7 : Int32), k27 σ x2 x3 x4 x5 x6 x7 = some z → am_At M { frames := 8, cells := 0, slots := 0, locals := 188 } (D, cT, ad, NM, LM) (amQi M (D, cT, ad, NM, LM) z) 10 27 [(0, .ref (ad 0)), (2, .int x2), (3, .int x3), (4, .int x4), (5, .int x5), (6, .int x6), (7, .int x7)] [] σ) (σ : Sg) (x2 : Int32) (x3 : Int32) (x4 : Int32) (x5 : Int32) (x6 : Int32) (x7 : Int32) (h : f_X10_askOf_b27 k14 k27 σ x2 x3 x4 x5 x6 x7 = some z) : am_At M { frames := 8, cells := 0, slots := 0, locals := 188 } (D, cT, ad, NM, LM) (amQi M (D, cT, ad, NM, LM) z) 10 27 [(0, .ref (ad 0)), (2, .int x2), (3, .int x3), (4, .int x4), (5, .int x5), (6, .int x6), (7, .int x7)] [] σ := by
  unfold f_X10_askOf_b27 at h
  refine r_iload X dX10_askOf_27 6 rfl ?_
  refine r_bipush (v := 10) X dX10_askOf_29 (by decide) ?_
  refine r_icmp_ge X 132 dX10_askOf_31 (by decide) h (fun h => ?_) (fun h => ?_)
  · refine r_iload_n X dX10_askOf_132 rfl 2 rfl ?_
    refine r_iconst (v := -1) X dX10_askOf_133 (by decide) ?_
    refine r_icmp_eq X 144 dX10_askOf_134 (by decide) h (fun h => ?_) (fun h => ?_)
    · refine r_sub (lv' := [(0, .ref (ad 0)), (2, .int x2), (3, .int x3), (4, .int x4), (5, .int x5), (6, .int x6)]) [0, 1, 2, 3, 4, 5] rfl ?_
      exact t_X10_askOf_b144 X hk14 σ x2 x3 x4 x5 x6 h
    · refine r_iload X dX10_askOf_137 5 rfl ?_
      refine r_iload X dX10_askOf_139 3 rfl ?_
      refine r_icmp_ge X 148 dX10_askOf_141 (by decide) h (fun h => ?_) (fun h => ?_)
      · refine r_iconst (v := 0) X dX10_askOf_148 (by decide) ?_
        refine r_sub (lv' := [(0, .ref (ad 0)), (2, .int x2), (3, .int x3), (4, .int x4), (5, .int x5), (6, .int x6)]) [0, 1, 2, 3, 4, 5] rfl ?_
        exact t_X10_askOf_b149 X hk14 σ x2 x3 x4 x5 x6 (0 : Int32) h
      · refine r_sub (lv' := [(0, .ref (ad 0)), (2, .int x2), (3, .int x3), (4, .int x4), (5, .int x5), (6, .int x6)]) [0, 1, 2, 3, 4, 5] rfl ?_
        exact t_X10_askOf_b144 X hk14 σ x2 x3 x4 x5 x6 h
  · refine r_iconst (v := 0) X dX10_askOf_34 (by decide) ?_
    refine r_istore X [(8, .int (0 : Int32)), (0, .ref (ad 0)), (2, .int x2), (3, .int x3), (4, .int x4), (5, .int x5), (6, .int x6), (7, .int x7)] dX10_askOf_35 (by decide) rfl ?_
    refine r_iconst (v := 1) X dX10_askOf_37 (by decide) ?_
    refine r_istore X [(9, .int (1 : Int32)), (8, .int (0 : Int32)), (0, .ref (ad 0)), (2, .int x2), (3, .int x3), (4, .int x4), (5, .int x5), (6, .int x6), (7, .int x7)] dX10_askOf_38 (by decide) rfl ?_
    refine r_sub (lv' := [(0, .ref (ad 0)), (2, .int x2), (3, .int x3), (4, .int x4), (5, .int x5), (6, .int x6), (7, .int x7), (8, .int (0 : Int32)), (9, .int (1 : Int32))]) [2, 3, 4, 5, 6, 7, 8, 1, 0] rfl ?_
    exact t_X10_askOf_l40 X hk14 hk27 300 σ x2 x3 x4 x5 x6 x7 (0 : Int32) (1 : Int32) h
theorem t_X10_askOf_l27 {M : am_M} {D : va_G} {cT : Nat → ClassId} {ad : Nat → Nat} (X : am_X M (D, cT, ad, NM, LM) cX10_askOf RX10 10 (some .int)) {z : Int32 × Sg} {k14 : Sg → Int32 → Int32 → Int32 → Int32 → Option (Int32 × Sg)} (hk14 : ∀ (σ : Sg) (x2 : Int32) (x3 : Int32) (x4 : Int32) (x5 : Int32), k14 σ x2 x3 x4 x5 = some z → am_At M { frames := 8, cells := 0, slots := 0, locals := 188 } (D, cT, ad, NM, LM) (amQi M (D, cT, ad, NM, LM) z) 10 14 [(0, .ref (ad 0)), (2, .int x2), (3, .int x3), (4, .int x4), (5, .int x5)] [] σ) (n : Nat) : ∀ (σ : Sg) (x2 : Int32) (x3 : Int32) (x4 : Int32) (x5 : Int32) (x6 : Int32) (x7 : Int32), f_X10_askOf_l27 k14 n σ x2 x3 x4 x5 x6 x7 = some z → am_At M { frames := 8, cells := 0, slots := 0, locals := 188 } (D, cT, ad, NM, LM) (amQi M (D, cT, ad, NM, LM) z) 10 27 [(0, .ref (ad 0)), (2, .int x2), (3, .int x3), (4, .int x4), (5, .int x5), (6, .int x6), (7, .int x7)] [] σ := by
  induction n with
  | zero =>
    intro σ x2 x3 x4 x5 x6 x7 h
    have h2 : (none : Option (Int32 × Sg)) = some z := h
    cases h2
  | succ n ih =>
    intro σ x2 x3 x4 x5 x6 x7 h
    exact t_X10_askOf_b27 X hk14 (k27 := f_X10_askOf_l27 k14 n) ih σ x2 x3 x4 x5 x6 x7 h
set_option maxRecDepth 100000 in
set_option maxHeartbeats 4000000 in
theorem t_X10_askOf_b14 {M : am_M} {D : va_G} {cT : Nat → ClassId} {ad : Nat → Nat} (X : am_X M (D, cT, ad, NM, LM) cX10_askOf RX10 10 (some .int)) {z : Int32 × Sg} {k14 : Sg → Int32 → Int32 → Int32 → Int32 → Option (Int32 × Sg)} (hk14 : ∀ (σ : Sg) (x2 : Int32) (x3 : Int32) (x4 : Int32) (x5 : Int32), k14 σ x2 x3 x4 x5 = some z → am_At M { frames := 8, cells := 0, slots := 0, locals := 188 } (D, cT, ad, NM, LM) (amQi M (D, cT, ad, NM, LM) z) 10 14 [(0, .ref (ad 0)), (2, .int x2), (3, .int x3), (4, .int x4), (5, .int x5)] [] σ) (σ : Sg) (x2 : Int32) (x3 : Int32) (x4 : Int32) (x5 : Int32) (h : f_X10_askOf_b14 k14 σ x2 x3 x4 x5 = some z) : am_At M { frames := 8, cells := 0, slots := 0, locals := 188 } (D, cT, ad, NM, LM) (amQi M (D, cT, ad, NM, LM) z) 10 14 [(0, .ref (ad 0)), (2, .int x2), (3, .int x3), (4, .int x4), (5, .int x5)] [] σ := by
  unfold f_X10_askOf_b14 at h
  refine r_iload X dX10_askOf_14 4 rfl ?_
  refine r_bipush (v := 24) X dX10_askOf_16 (by decide) ?_
  refine r_icmp_ge X 183 dX10_askOf_18 (by decide) h (fun h => ?_) (fun h => ?_)
  · refine r_iload_n X dX10_askOf_183 rfl 2 rfl ?_
    exact r_iretz X rfl dX10_askOf_184 h
  · refine r_iconst (v := 0) X dX10_askOf_21 (by decide) ?_
    refine r_istore X [(6, .int (0 : Int32)), (0, .ref (ad 0)), (2, .int x2), (3, .int x3), (4, .int x4), (5, .int x5)] dX10_askOf_22 (by decide) rfl ?_
    refine r_iconst (v := 1) X dX10_askOf_24 (by decide) ?_
    refine r_istore X [(7, .int (1 : Int32)), (6, .int (0 : Int32)), (0, .ref (ad 0)), (2, .int x2), (3, .int x3), (4, .int x4), (5, .int x5)] dX10_askOf_25 (by decide) rfl ?_
    refine r_sub (lv' := [(0, .ref (ad 0)), (2, .int x2), (3, .int x3), (4, .int x4), (5, .int x5), (6, .int (0 : Int32)), (7, .int (1 : Int32))]) [2, 3, 4, 5, 6, 1, 0] rfl ?_
    exact t_X10_askOf_l27 X hk14 300 σ x2 x3 x4 x5 (0 : Int32) (1 : Int32) h
theorem t_X10_askOf_l14 {M : am_M} {D : va_G} {cT : Nat → ClassId} {ad : Nat → Nat} (X : am_X M (D, cT, ad, NM, LM) cX10_askOf RX10 10 (some .int)) {z : Int32 × Sg} (n : Nat) : ∀ (σ : Sg) (x2 : Int32) (x3 : Int32) (x4 : Int32) (x5 : Int32), f_X10_askOf_l14 n σ x2 x3 x4 x5 = some z → am_At M { frames := 8, cells := 0, slots := 0, locals := 188 } (D, cT, ad, NM, LM) (amQi M (D, cT, ad, NM, LM) z) 10 14 [(0, .ref (ad 0)), (2, .int x2), (3, .int x3), (4, .int x4), (5, .int x5)] [] σ := by
  induction n with
  | zero =>
    intro σ x2 x3 x4 x5 h
    have h2 : (none : Option (Int32 × Sg)) = some z := h
    cases h2
  | succ n ih =>
    intro σ x2 x3 x4 x5 h
    exact t_X10_askOf_b14 X (k14 := f_X10_askOf_l14 n) ih σ x2 x3 x4 x5 h
set_option maxRecDepth 100000 in
set_option maxHeartbeats 4000000 in
theorem c_X10_askOf (l : Launch) {σ : Sg} {a1 : Int32} {z : Int32 × Sg} (h : f_X10_askOf σ a1 = some z) : am_Met l yX10_askOf cX10_askOf 10 (some .int) { frames := 8, cells := 0, slots := 0, locals := 188 } NM LM (fun ad => [.ref (ad 0), .int a1]) σ z.2 (fun _ => some (.int z.1)) := by
  refine am_enter (by decide +kernel) (fun ad => Nat.le_of_ble_eq_true rfl) (fun M D cT ad hl X => ?_)
  subst hl
  refine r_lv (lv' := [(0, .ref (ad 0)), (1, .int a1)]) rfl ?_
  unfold f_X10_askOf at h
  refine r_aload_n X dX10_askOf_0 rfl 0 rfl ?_
  refine r_iload_n X dX10_askOf_1 rfl 1 rfl ?_
  obtain ⟨r1, σ2, hc_3, h⟩ := bnd_of h
  refine r_callV (As := [.int a1]) (rest := []) (st2 := [.int r1]) (c := 0) X cv_X10_312 (c_X10_farsBy M.2.1 hc_3) rfl (ci := 9) rfl fM_0 rfl rfl (Nat.le_of_ble_eq_true rfl) ⟨⟨rfl, rfl⟩, by decide, by decide⟩ dX10_askOf_2 ⟨rfl, rfl⟩ rfl ?_
  refine r_istore_n X [(2, .int r1), (0, .ref (ad 0)), (1, .int a1)] dX10_askOf_5 rfl (by decide) rfl ?_
  refine r_iconst (v := -1) X dX10_askOf_6 (by decide) ?_
  refine r_istore_n X [(3, .int (-1 : Int32)), (2, .int r1), (0, .ref (ad 0)), (1, .int a1)] dX10_askOf_7 rfl (by decide) rfl ?_
  refine r_iconst (v := 0) X dX10_askOf_8 (by decide) ?_
  refine r_istore X [(4, .int (0 : Int32)), (3, .int (-1 : Int32)), (2, .int r1), (0, .ref (ad 0)), (1, .int a1)] dX10_askOf_9 (by decide) rfl ?_
  refine r_iconst (v := 0) X dX10_askOf_11 (by decide) ?_
  refine r_istore X [(5, .int (0 : Int32)), (4, .int (0 : Int32)), (3, .int (-1 : Int32)), (2, .int r1), (0, .ref (ad 0)), (1, .int a1)] dX10_askOf_12 (by decide) rfl ?_
  refine r_sub (lv' := [(0, .ref (ad 0)), (2, .int r1), (3, .int (-1 : Int32)), (4, .int (0 : Int32)), (5, .int (0 : Int32))]) [4, 3, 2, 1, 0] rfl ?_
  exact t_X10_askOf_l14 X 300 σ2 r1 (-1 : Int32) (0 : Int32) (0 : Int32) h
set_option maxRecDepth 100000 in
set_option maxHeartbeats 4000000 in
theorem c_X10_ask (l : Launch) {σ : Sg} {a1 : Int32} {z : Int32 × Sg} (h : f_X10_ask σ a1 = some z) : am_Met l yX10_ask cX10_ask 2 (some .int) { frames := 9, cells := 0, slots := 0, locals := 217 } NM LM (fun ad => [.ref (ad 0), .int a1]) σ z.2 (fun _ => some (.int z.1)) := by
  refine am_enter (by decide +kernel) (fun ad => Nat.le_of_ble_eq_true rfl) (fun M D cT ad hl X => ?_)
  subst hl
  refine r_lv (lv' := [(0, .ref (ad 0)), (1, .int a1)]) rfl ?_
  unfold f_X10_ask at h
  refine r_aload_n X dX10_ask_0 rfl 0 rfl ?_
  refine r_iload_n X dX10_ask_1 rfl 1 rfl ?_
  obtain ⟨r1, σ2, hc_6, h⟩ := bnd_of h
  refine r_callV (As := [.int a1]) (rest := []) (st2 := [.int r1]) (c := 0) X cv_X10_153 (c_X10_isOne M.2.1 hc_6) rfl (ci := 9) rfl fM_0 rfl rfl (Nat.le_of_ble_eq_true rfl) ⟨⟨rfl, rfl⟩, by decide, by decide⟩ dX10_ask_2 ⟨rfl, rfl⟩ rfl ?_
  refine r_if_eq X 16 dX10_ask_5 (by decide) h (fun h => ?_) (fun h => ?_)
  · refine r_bipush (v := -2) X dX10_ask_16 (by decide) ?_
    exact r_iretz X rfl dX10_ask_18 h
  · refine r_aload_n X dX10_ask_8 rfl 0 rfl ?_
    refine r_iload_n X dX10_ask_9 rfl 1 rfl ?_
    obtain ⟨r3, σ4, hc_5, h⟩ := bnd_of h
    refine r_callV (As := [.int a1]) (rest := []) (st2 := [.int r3]) (c := 0) X cv_X10_315 (c_X10_askOf M.2.1 hc_5) rfl (ci := 9) rfl fM_0 rfl rfl (Nat.le_of_ble_eq_true rfl) ⟨⟨rfl, rfl⟩, by decide, by decide⟩ dX10_ask_10 ⟨rfl, rfl⟩ rfl ?_
    refine r_goto X 18 dX10_ask_13 (by decide) ?_
    exact r_iretz X rfl dX10_ask_18 h
set_option maxRecDepth 100000 in
set_option maxHeartbeats 4000000 in
theorem t_X10_lowest_b6 {M : am_M} {D : va_G} {cT : Nat → ClassId} {ad : Nat → Nat} (X : am_X M (D, cT, ad, NM, LM) cX10_lowest RX10 11 (some .long)) {z : Int64 × Sg} {k6 : Sg → Int64 → Int64 → Int32 → Int64 → Int64 → Option (Int64 × Sg)} (hk6 : ∀ (σ : Sg) (x0 : Int64) (x2 : Int64) (x4 : Int32) (x5 : Int64) (x7 : Int64), k6 σ x0 x2 x4 x5 x7 = some z → am_At M { frames := 0, cells := 0, slots := 0, locals := 0 } (D, cT, ad, NM, LM) (amQl M (D, cT, ad, NM, LM) z) 11 6 [(0, .long x0), (2, .long x2), (4, .int x4), (5, .long x5), (7, .long x7)] [] σ) (σ : Sg) (x0 : Int64) (x2 : Int64) (x4 : Int32) (x5 : Int64) (x7 : Int64) (h : f_X10_lowest_b6 k6 σ x0 x2 x4 x5 x7 = some z) : am_At M { frames := 0, cells := 0, slots := 0, locals := 0 } (D, cT, ad, NM, LM) (amQl M (D, cT, ad, NM, LM) z) 11 6 [(0, .long x0), (2, .long x2), (4, .int x4), (5, .long x5), (7, .long x7)] [] σ := by
  unfold f_X10_lowest_b6 at h
  refine r_lload X dX10_lowest_6 4 rfl ?_
  refine r_lconst (v := 0) X dX10_lowest_8 (by decide) ?_
  refine r_lcmp X dX10_lowest_9 ?_
  refine r_if_eq X 31 dX10_lowest_10 (by decide) h (fun h => ?_) (fun h => ?_)
  · refine r_iload X dX10_lowest_31 2 rfl ?_
    refine r_if_ne X 43 dX10_lowest_33 (by decide) h (fun h => ?_) (fun h => ?_)
    · refine r_lload_n X dX10_lowest_36 rfl 0 rfl ?_
      refine r_lload X dX10_lowest_37 3 rfl ?_
      refine r_ldiv X dX10_lowest_39 h (fun h => ?_)
      refine r_goto X 47 dX10_lowest_40 (by decide) ?_
      exact r_lretz X rfl dX10_lowest_47 h
    · refine r_lload_n X dX10_lowest_43 rfl 1 rfl ?_
      refine r_lload X dX10_lowest_44 3 rfl ?_
      refine r_ldiv X dX10_lowest_46 h (fun h => ?_)
      exact r_lretz X rfl dX10_lowest_47 h
  · refine r_lload X dX10_lowest_13 3 rfl ?_
    refine r_lload X dX10_lowest_15 4 rfl ?_
    refine r_lrem X dX10_lowest_17 h (fun h => ?_)
    refine r_letl h (fun v1 h => ?_)
    refine r_lstore X [(9, .long v1), (0, .long x0), (2, .long x2), (4, .int x4), (5, .long x5), (7, .long x7)] dX10_lowest_18 (by decide) rfl ?_
    refine r_lload X dX10_lowest_20 5 rfl ?_
    refine r_lstore X [(5, .long x7), (9, .long v1), (0, .long x0), (2, .long x2), (4, .int x4), (7, .long x7)] dX10_lowest_22 (by decide) rfl ?_
    refine r_lload X dX10_lowest_24 1 rfl ?_
    refine r_lstore X [(7, .long v1), (5, .long x7), (9, .long v1), (0, .long x0), (2, .long x2), (4, .int x4)] dX10_lowest_26 (by decide) rfl ?_
    refine r_goto X 6 dX10_lowest_28 (by decide) ?_
    refine r_sub (lv' := [(0, .long x0), (2, .long x2), (4, .int x4), (5, .long x7), (7, .long v1)]) [3, 4, 5, 1, 0] rfl ?_
    exact hk6 σ x0 x2 x4 x7 v1 h
theorem t_X10_lowest_l6 {M : am_M} {D : va_G} {cT : Nat → ClassId} {ad : Nat → Nat} (X : am_X M (D, cT, ad, NM, LM) cX10_lowest RX10 11 (some .long)) {z : Int64 × Sg} (n : Nat) : ∀ (σ : Sg) (x0 : Int64) (x2 : Int64) (x4 : Int32) (x5 : Int64) (x7 : Int64), f_X10_lowest_l6 n σ x0 x2 x4 x5 x7 = some z → am_At M { frames := 0, cells := 0, slots := 0, locals := 0 } (D, cT, ad, NM, LM) (amQl M (D, cT, ad, NM, LM) z) 11 6 [(0, .long x0), (2, .long x2), (4, .int x4), (5, .long x5), (7, .long x7)] [] σ := by
  induction n with
  | zero =>
    intro σ x0 x2 x4 x5 x7 h
    have h2 : (none : Option (Int64 × Sg)) = some z := h
    cases h2
  | succ n ih =>
    intro σ x0 x2 x4 x5 x7 h
    exact t_X10_lowest_b6 X (k6 := f_X10_lowest_l6 n) ih σ x0 x2 x4 x5 x7 h
set_option maxRecDepth 100000 in
set_option maxHeartbeats 4000000 in
theorem c_X10_lowest (l : Launch) {σ : Sg} {a0 : Int64} {a2 : Int64} {a4 : Int32} {z : Int64 × Sg} (h : f_X10_lowest σ a0 a2 a4 = some z) : am_Met l yX10_lowest cX10_lowest 11 (some .long) { frames := 0, cells := 0, slots := 0, locals := 0 } NM LM (fun ad => [.long a0, .long a2, .int a4]) σ z.2 (fun _ => some (.long z.1)) := by
  refine am_enter (by decide +kernel) (fun ad => Nat.le_of_ble_eq_true rfl) (fun M D cT ad hl X => ?_)
  subst hl
  refine r_lv (lv' := [(0, .long a0), (2, .long a2), (4, .int a4)]) rfl ?_
  unfold f_X10_lowest at h
  refine r_lload_n X dX10_lowest_0 rfl 0 rfl ?_
  refine r_lstore X [(5, .long a0), (0, .long a0), (2, .long a2), (4, .int a4)] dX10_lowest_1 (by decide) rfl ?_
  refine r_lload_n X dX10_lowest_3 rfl 2 rfl ?_
  refine r_lstore X [(7, .long a2), (5, .long a0), (0, .long a0), (2, .long a2), (4, .int a4)] dX10_lowest_4 (by decide) rfl ?_
  refine r_sub (lv' := [(0, .long a0), (2, .long a2), (4, .int a4), (5, .long a0), (7, .long a2)]) [2, 3, 4, 1, 0] rfl ?_
  exact t_X10_lowest_l6 X 300 σ a0 a2 a4 a0 a2 h
set_option maxRecDepth 100000 in
set_option maxHeartbeats 4000000 in
theorem t_X10_chanceOf_b58 {M : am_M} {D : va_G} {cT : Nat → ClassId} {ad : Nat → Nat} (X : am_X M (D, cT, ad, NM, LM) cX10_chanceOf RX10 10 (some .long)) {z : Int64 × Sg} {k10 : Sg → Int32 → Int32 → Int32 → Int64 → Int32 → Option (Int64 × Sg)} (hk10 : ∀ (σ : Sg) (x1 : Int32) (x2 : Int32) (x3 : Int32) (x4 : Int64) (x6 : Int32), k10 σ x1 x2 x3 x4 x6 = some z → am_At M { frames := 7, cells := 0, slots := 0, locals := 159 } (D, cT, ad, NM, LM) (amQl M (D, cT, ad, NM, LM) z) 10 10 [(0, .ref (ad 0)), (1, .int x1), (2, .int x2), (3, .int x3), (4, .long x4), (6, .int x6)] [] σ) {k27 : Sg → Int32 → Int32 → Int32 → Int64 → Int32 → Int64 → Int32 → Option (Int64 × Sg)} (hk27 : ∀ (σ : Sg) (x1 : Int32) (x2 : Int32) (x3 : Int32) (x4 : Int64) (x6 : Int32) (x7 : Int64) (x9 : Int32), k27 σ x1 x2 x3 x4 x6 x7 x9 = some z → am_At M { frames := 7, cells := 0, slots := 0, locals := 159 } (D, cT, ad, NM, LM) (amQl M (D, cT, ad, NM, LM) z) 10 27 [(0, .ref (ad 0)), (1, .int x1), (2, .int x2), (3, .int x3), (4, .long x4), (6, .int x6), (7, .long x7), (9, .int x9)] [] σ) (σ : Sg) (x1 : Int32) (x2 : Int32) (x3 : Int32) (x4 : Int64) (x6 : Int32) (x9 : Int32) (s0 : Int64) (s1 : Int64) (h : f_X10_chanceOf_b58 k10 k27 σ x1 x2 x3 x4 x6 x9 s0 s1 = some z) : am_At M { frames := 7, cells := 0, slots := 0, locals := 159 } (D, cT, ad, NM, LM) (amQl M (D, cT, ad, NM, LM) z) 10 58 [(0, .ref (ad 0)), (1, .int x1), (2, .int x2), (3, .int x3), (4, .long x4), (6, .int x6), (9, .int x9)] [.long s0, .long s1] σ := by
  unfold f_X10_chanceOf_b58 at h
  refine r_lmul X dX10_chanceOf_58 ?_
  refine r_letl h (fun v1 h => ?_)
  refine r_lstore X [(7, .long v1), (0, .ref (ad 0)), (1, .int x1), (2, .int x2), (3, .int x3), (4, .long x4), (6, .int x6), (9, .int x9)] dX10_chanceOf_59 (by decide) rfl ?_
  refine r_iinc X [(9, .int (x9 + (1 : Int32))), (7, .long v1), (0, .ref (ad 0)), (1, .int x1), (2, .int x2), (3, .int x3), (4, .long x4), (6, .int x6)] dX10_chanceOf_61 7 rfl (v := x9 + (1 : Int32)) (by rfl) (by decide) rfl ?_
  refine r_letv h (fun v2 h => ?_)
  refine r_goto X 27 dX10_chanceOf_64 (by decide) ?_
  refine r_sub (lv' := [(0, .ref (ad 0)), (1, .int x1), (2, .int x2), (3, .int x3), (4, .long x4), (6, .int x6), (7, .long v1), (9, .int v2)]) [2, 3, 4, 5, 6, 7, 1, 0] rfl ?_
  exact hk27 σ x1 x2 x3 x4 x6 v1 v2 h
set_option maxRecDepth 100000 in
set_option maxHeartbeats 4000000 in
theorem t_X10_chanceOf_b105 {M : am_M} {D : va_G} {cT : Nat → ClassId} {ad : Nat → Nat} (X : am_X M (D, cT, ad, NM, LM) cX10_chanceOf RX10 10 (some .long)) {z : Int64 × Sg} {k10 : Sg → Int32 → Int32 → Int32 → Int64 → Int32 → Option (Int64 × Sg)} (hk10 : ∀ (σ : Sg) (x1 : Int32) (x2 : Int32) (x3 : Int32) (x4 : Int64) (x6 : Int32), k10 σ x1 x2 x3 x4 x6 = some z → am_At M { frames := 7, cells := 0, slots := 0, locals := 159 } (D, cT, ad, NM, LM) (amQl M (D, cT, ad, NM, LM) z) 10 10 [(0, .ref (ad 0)), (1, .int x1), (2, .int x2), (3, .int x3), (4, .long x4), (6, .int x6)] [] σ) (σ : Sg) (x1 : Int32) (x2 : Int32) (x3 : Int32) (x4 : Int64) (x6 : Int32) (h : f_X10_chanceOf_b105 k10 σ x1 x2 x3 x4 x6 = some z) : am_At M { frames := 7, cells := 0, slots := 0, locals := 159 } (D, cT, ad, NM, LM) (amQl M (D, cT, ad, NM, LM) z) 10 105 [(0, .ref (ad 0)), (1, .int x1), (2, .int x2), (3, .int x3), (4, .long x4), (6, .int x6)] [] σ := by
  unfold f_X10_chanceOf_b105 at h
  refine r_iinc X [(6, .int (x6 + (1 : Int32))), (0, .ref (ad 0)), (1, .int x1), (2, .int x2), (3, .int x3), (4, .long x4)] dX10_chanceOf_105 5 rfl (v := x6 + (1 : Int32)) (by rfl) (by decide) rfl ?_
  refine r_letv h (fun v1 h => ?_)
  refine r_goto X 10 dX10_chanceOf_108 (by decide) ?_
  refine r_sub (lv' := [(0, .ref (ad 0)), (1, .int x1), (2, .int x2), (3, .int x3), (4, .long x4), (6, .int v1)]) [1, 2, 3, 4, 5, 0] rfl ?_
  exact hk10 σ x1 x2 x3 x4 v1 h
set_option maxRecDepth 100000 in
set_option maxHeartbeats 4000000 in
theorem t_X10_chanceOf_b102 {M : am_M} {D : va_G} {cT : Nat → ClassId} {ad : Nat → Nat} (X : am_X M (D, cT, ad, NM, LM) cX10_chanceOf RX10 10 (some .long)) {z : Int64 × Sg} {k10 : Sg → Int32 → Int32 → Int32 → Int64 → Int32 → Option (Int64 × Sg)} (hk10 : ∀ (σ : Sg) (x1 : Int32) (x2 : Int32) (x3 : Int32) (x4 : Int64) (x6 : Int32), k10 σ x1 x2 x3 x4 x6 = some z → am_At M { frames := 7, cells := 0, slots := 0, locals := 159 } (D, cT, ad, NM, LM) (amQl M (D, cT, ad, NM, LM) z) 10 10 [(0, .ref (ad 0)), (1, .int x1), (2, .int x2), (3, .int x3), (4, .long x4), (6, .int x6)] [] σ) (σ : Sg) (x1 : Int32) (x2 : Int32) (x3 : Int32) (x6 : Int32) (s0 : Int64) (s1 : Int64) (h : f_X10_chanceOf_b102 k10 σ x1 x2 x3 x6 s0 s1 = some z) : am_At M { frames := 7, cells := 0, slots := 0, locals := 159 } (D, cT, ad, NM, LM) (amQl M (D, cT, ad, NM, LM) z) 10 102 [(0, .ref (ad 0)), (1, .int x1), (2, .int x2), (3, .int x3), (6, .int x6)] [.long s0, .long s1] σ := by
  unfold f_X10_chanceOf_b102 at h
  refine r_ladd X dX10_chanceOf_102 ?_
  refine r_letl h (fun v1 h => ?_)
  refine r_lstore X [(4, .long v1), (0, .ref (ad 0)), (1, .int x1), (2, .int x2), (3, .int x3), (6, .int x6)] dX10_chanceOf_103 (by decide) rfl ?_
  refine r_sub (lv' := [(0, .ref (ad 0)), (1, .int x1), (2, .int x2), (3, .int x3), (4, .long v1), (6, .int x6)]) [1, 2, 3, 4, 0, 5] rfl ?_
  exact t_X10_chanceOf_b105 X hk10 σ x1 x2 x3 v1 x6 h
set_option maxRecDepth 100000 in
set_option maxHeartbeats 4000000 in
theorem t_X10_chanceOf_b27 {M : am_M} {D : va_G} {cT : Nat → ClassId} {ad : Nat → Nat} (X : am_X M (D, cT, ad, NM, LM) cX10_chanceOf RX10 10 (some .long)) {z : Int64 × Sg} {k10 : Sg → Int32 → Int32 → Int32 → Int64 → Int32 → Option (Int64 × Sg)} (hk10 : ∀ (σ : Sg) (x1 : Int32) (x2 : Int32) (x3 : Int32) (x4 : Int64) (x6 : Int32), k10 σ x1 x2 x3 x4 x6 = some z → am_At M { frames := 7, cells := 0, slots := 0, locals := 159 } (D, cT, ad, NM, LM) (amQl M (D, cT, ad, NM, LM) z) 10 10 [(0, .ref (ad 0)), (1, .int x1), (2, .int x2), (3, .int x3), (4, .long x4), (6, .int x6)] [] σ) {k27 : Sg → Int32 → Int32 → Int32 → Int64 → Int32 → Int64 → Int32 → Option (Int64 × Sg)} (hk27 : ∀ (σ : Sg) (x1 : Int32) (x2 : Int32) (x3 : Int32) (x4 : Int64) (x6 : Int32) (x7 : Int64) (x9 : Int32), k27 σ x1 x2 x3 x4 x6 x7 x9 = some z → am_At M { frames := 7, cells := 0, slots := 0, locals := 159 } (D, cT, ad, NM, LM) (amQl M (D, cT, ad, NM, LM) z) 10 27 [(0, .ref (ad 0)), (1, .int x1), (2, .int x2), (3, .int x3), (4, .long x4), (6, .int x6), (7, .long x7), (9, .int x9)] [] σ) (σ : Sg) (x1 : Int32) (x2 : Int32) (x3 : Int32) (x4 : Int64) (x6 : Int32) (x7 : Int64) (x9 : Int32) (h : f_X10_chanceOf_b27 k10 k27 σ x1 x2 x3 x4 x6 x7 x9 = some z) : am_At M { frames := 7, cells := 0, slots := 0, locals := 159 } (D, cT, ad, NM, LM) (amQl M (D, cT, ad, NM, LM) z) 10 27 [(0, .ref (ad 0)), (1, .int x1), (2, .int x2), (3, .int x3), (4, .long x4), (6, .int x6), (7, .long x7), (9, .int x9)] [] σ := by
  unfold f_X10_chanceOf_b27 at h
  refine r_iload X dX10_chanceOf_27 7 rfl ?_
  refine r_aload_n X dX10_chanceOf_29 rfl 0 rfl ?_
  refine r_getI X fg_X10_171_X10 fM_0 rfl dX10_chanceOf_30 ?_
  refine r_icmp_ge X 67 dX10_chanceOf_33 (by decide) h (fun h => ?_) (fun h => ?_)
  · refine r_lload X dX10_chanceOf_67 6 rfl ?_
    refine r_lconst (v := 0) X dX10_chanceOf_69 (by decide) ?_
    refine r_lcmp X dX10_chanceOf_70 ?_
    refine r_if_le X 105 dX10_chanceOf_71 (by decide) h (fun h => ?_) (fun h => ?_)
    · refine r_sub (lv' := [(0, .ref (ad 0)), (1, .int x1), (2, .int x2), (3, .int x3), (4, .long x4), (6, .int x6)]) [0, 1, 2, 3, 4, 5] rfl ?_
      exact t_X10_chanceOf_b105 X hk10 σ x1 x2 x3 x4 x6 h
    · refine r_aload_n X dX10_chanceOf_74 rfl 0 rfl ?_
      refine r_iload X dX10_chanceOf_75 5 rfl ?_
      refine r_putI X fp_X10_187_X10 fM_0 rfl dX10_chanceOf_77 h (fun σ1 h => ?_)
      refine r_aload_n X dX10_chanceOf_80 rfl 0 rfl ?_
      obtain ⟨r2, σ3, hc_4, h⟩ := bnd_of h
      refine r_callV (As := []) (rest := []) (st2 := []) (c := 0) X cv_X10_232 (c_X10_runs M.2.1 hc_4) rfl (ci := 9) rfl fM_0 rfl rfl (Nat.le_of_ble_eq_true rfl) ⟨⟨rfl, rfl⟩, by decide, by decide⟩ dX10_chanceOf_81 ⟨rfl, rfl⟩ rfl ?_
      refine r_lload X dX10_chanceOf_84 4 rfl ?_
      refine r_aload_n X dX10_chanceOf_86 rfl 0 rfl ?_
      refine r_getR (c1 := 17) X fg_X10_58_X10 fM_0 rfl dX10_chanceOf_87 ?_
      refine r_iload_n X dX10_chanceOf_90 rfl 2 rfl ?_
      refine r_iald X fM_17 dX10_chanceOf_91 h (fun h => ?_)
      refine r_iconst (v := -1) X dX10_chanceOf_92 (by decide) ?_
      refine r_icmp_eq X 101 dX10_chanceOf_93 (by decide) h (fun h => ?_) (fun h => ?_)
      · refine r_lconst (v := 0) X dX10_chanceOf_101 (by decide) ?_
        refine r_sub (lv' := [(0, .ref (ad 0)), (1, .int x1), (2, .int x2), (3, .int x3), (6, .int x6)]) [0, 1, 2, 3, 5] rfl ?_
        exact t_X10_chanceOf_b102 X hk10 σ3 x1 x2 x3 x6 (0 : Int64) x4 h
      · refine r_lload X dX10_chanceOf_96 6 rfl ?_
        refine r_goto X 102 dX10_chanceOf_98 (by decide) ?_
        refine r_sub (lv' := [(0, .ref (ad 0)), (1, .int x1), (2, .int x2), (3, .int x3), (6, .int x6)]) [0, 1, 2, 3, 5] rfl ?_
        exact t_X10_chanceOf_b102 X hk10 σ3 x1 x2 x3 x6 x7 x4 h
  · refine r_lload X dX10_chanceOf_36 6 rfl ?_
    refine r_iload X dX10_chanceOf_38 5 rfl ?_
    refine r_iload X dX10_chanceOf_40 7 rfl ?_
    obtain ⟨r5, σ6, hc_7, h⟩ := bnd_of h
    refine r_callS (As := [.int x6, .int x9]) (rest := [.long x7]) (st2 := [.int r5, .long x7]) X cv_X10_209 (c_X10_isIn M.2.1 hc_7) rfl rfl rfl (Nat.le_of_ble_eq_true rfl) ⟨⟨rfl, rfl⟩, by decide, by decide⟩ dX10_chanceOf_42 ⟨rfl, rfl⟩ rfl ?_
    refine r_if_eq X 56 dX10_chanceOf_45 (by decide) h (fun h => ?_) (fun h => ?_)
    · refine r_iload_n X dX10_chanceOf_56 rfl 1 rfl ?_
      refine r_i2l X dX10_chanceOf_57 ?_
      refine r_sub (lv' := [(0, .ref (ad 0)), (1, .int x1), (2, .int x2), (3, .int x3), (4, .long x4), (6, .int x6), (9, .int x9)]) [0, 1, 2, 3, 4, 5, 7] rfl ?_
      exact t_X10_chanceOf_b58 X hk10 hk27 σ6 x1 x2 x3 x4 x6 x9 ((x1).toInt64) x7 h
    · refine r_bipush (v := 16) X dX10_chanceOf_48 (by decide) ?_
      refine r_iload_n X dX10_chanceOf_50 rfl 1 rfl ?_
      refine r_isub X dX10_chanceOf_51 ?_
      refine r_i2l X dX10_chanceOf_52 ?_
      refine r_goto X 58 dX10_chanceOf_53 (by decide) ?_
      refine r_sub (lv' := [(0, .ref (ad 0)), (1, .int x1), (2, .int x2), (3, .int x3), (4, .long x4), (6, .int x6), (9, .int x9)]) [0, 1, 2, 3, 4, 5, 7] rfl ?_
      exact t_X10_chanceOf_b58 X hk10 hk27 σ6 x1 x2 x3 x4 x6 x9 ((((16 : Int32) - x1)).toInt64) x7 h
theorem t_X10_chanceOf_l27 {M : am_M} {D : va_G} {cT : Nat → ClassId} {ad : Nat → Nat} (X : am_X M (D, cT, ad, NM, LM) cX10_chanceOf RX10 10 (some .long)) {z : Int64 × Sg} {k10 : Sg → Int32 → Int32 → Int32 → Int64 → Int32 → Option (Int64 × Sg)} (hk10 : ∀ (σ : Sg) (x1 : Int32) (x2 : Int32) (x3 : Int32) (x4 : Int64) (x6 : Int32), k10 σ x1 x2 x3 x4 x6 = some z → am_At M { frames := 7, cells := 0, slots := 0, locals := 159 } (D, cT, ad, NM, LM) (amQl M (D, cT, ad, NM, LM) z) 10 10 [(0, .ref (ad 0)), (1, .int x1), (2, .int x2), (3, .int x3), (4, .long x4), (6, .int x6)] [] σ) (n : Nat) : ∀ (σ : Sg) (x1 : Int32) (x2 : Int32) (x3 : Int32) (x4 : Int64) (x6 : Int32) (x7 : Int64) (x9 : Int32), f_X10_chanceOf_l27 k10 n σ x1 x2 x3 x4 x6 x7 x9 = some z → am_At M { frames := 7, cells := 0, slots := 0, locals := 159 } (D, cT, ad, NM, LM) (amQl M (D, cT, ad, NM, LM) z) 10 27 [(0, .ref (ad 0)), (1, .int x1), (2, .int x2), (3, .int x3), (4, .long x4), (6, .int x6), (7, .long x7), (9, .int x9)] [] σ := by
  induction n with
  | zero =>
    intro σ x1 x2 x3 x4 x6 x7 x9 h
    have h2 : (none : Option (Int64 × Sg)) = some z := h
    cases h2
  | succ n ih =>
    intro σ x1 x2 x3 x4 x6 x7 x9 h
    exact t_X10_chanceOf_b27 X hk10 (k27 := f_X10_chanceOf_l27 k10 n) ih σ x1 x2 x3 x4 x6 x7 x9 h
set_option maxRecDepth 100000 in
set_option maxHeartbeats 4000000 in
theorem t_X10_chanceOf_b10 {M : am_M} {D : va_G} {cT : Nat → ClassId} {ad : Nat → Nat} (X : am_X M (D, cT, ad, NM, LM) cX10_chanceOf RX10 10 (some .long)) {z : Int64 × Sg} {k10 : Sg → Int32 → Int32 → Int32 → Int64 → Int32 → Option (Int64 × Sg)} (hk10 : ∀ (σ : Sg) (x1 : Int32) (x2 : Int32) (x3 : Int32) (x4 : Int64) (x6 : Int32), k10 σ x1 x2 x3 x4 x6 = some z → am_At M { frames := 7, cells := 0, slots := 0, locals := 159 } (D, cT, ad, NM, LM) (amQl M (D, cT, ad, NM, LM) z) 10 10 [(0, .ref (ad 0)), (1, .int x1), (2, .int x2), (3, .int x3), (4, .long x4), (6, .int x6)] [] σ) (σ : Sg) (x1 : Int32) (x2 : Int32) (x3 : Int32) (x4 : Int64) (x6 : Int32) (h : f_X10_chanceOf_b10 k10 σ x1 x2 x3 x4 x6 = some z) : am_At M { frames := 7, cells := 0, slots := 0, locals := 159 } (D, cT, ad, NM, LM) (amQl M (D, cT, ad, NM, LM) z) 10 10 [(0, .ref (ad 0)), (1, .int x1), (2, .int x2), (3, .int x3), (4, .long x4), (6, .int x6)] [] σ := by
  unfold f_X10_chanceOf_b10 at h
  refine r_iload X dX10_chanceOf_10 5 rfl ?_
  refine r_iconst (v := 1) X dX10_chanceOf_12 (by decide) ?_
  refine r_aload_n X dX10_chanceOf_13 rfl 0 rfl ?_
  refine r_getI X fg_X10_171_X10 fM_0 rfl dX10_chanceOf_14 ?_
  refine r_ishl X dX10_chanceOf_17 ?_
  refine r_icmp_ge X 111 dX10_chanceOf_18 (by decide) h (fun h => ?_) (fun h => ?_)
  · refine r_lload X dX10_chanceOf_111 4 rfl ?_
    refine r_lconst (v := 1) X dX10_chanceOf_113 (by decide) ?_
    refine r_iconst (v := 4) X dX10_chanceOf_114 (by decide) ?_
    refine r_aload_n X dX10_chanceOf_115 rfl 0 rfl ?_
    refine r_getI X fg_X10_171_X10 fM_0 rfl dX10_chanceOf_116 ?_
    refine r_imul X dX10_chanceOf_119 ?_
    refine r_lshl X dX10_chanceOf_120 ?_
    refine r_iload_n X dX10_chanceOf_121 rfl 3 rfl ?_
    obtain ⟨r1, σ2, hc_3, h⟩ := bnd_of h
    refine r_callS (As := [.long x4, .long ((1 : Int64) <<< ((((4 : Int32) * (σ 0 11))).toInt64 &&& 63)), .int x3]) (rest := []) (st2 := [.long r1]) X cv_X10_318 (c_X10_lowest M.2.1 hc_3) rfl rfl rfl (Nat.le_of_ble_eq_true rfl) ⟨⟨rfl, rfl⟩, by decide, by decide⟩ dX10_chanceOf_122 ⟨rfl, rfl⟩ rfl ?_
    exact r_lretz X rfl dX10_chanceOf_125 h
  · refine r_lconst (v := 1) X dX10_chanceOf_21 (by decide) ?_
    refine r_lstore X [(7, .long (1 : Int64)), (0, .ref (ad 0)), (1, .int x1), (2, .int x2), (3, .int x3), (4, .long x4), (6, .int x6)] dX10_chanceOf_22 (by decide) rfl ?_
    refine r_iconst (v := 0) X dX10_chanceOf_24 (by decide) ?_
    refine r_istore X [(9, .int (0 : Int32)), (7, .long (1 : Int64)), (0, .ref (ad 0)), (1, .int x1), (2, .int x2), (3, .int x3), (4, .long x4), (6, .int x6)] dX10_chanceOf_25 (by decide) rfl ?_
    refine r_sub (lv' := [(0, .ref (ad 0)), (1, .int x1), (2, .int x2), (3, .int x3), (4, .long x4), (6, .int x6), (7, .long (1 : Int64)), (9, .int (0 : Int32))]) [2, 3, 4, 5, 6, 7, 1, 0] rfl ?_
    exact t_X10_chanceOf_l27 X hk10 300 σ x1 x2 x3 x4 x6 (1 : Int64) (0 : Int32) h
theorem t_X10_chanceOf_l10 {M : am_M} {D : va_G} {cT : Nat → ClassId} {ad : Nat → Nat} (X : am_X M (D, cT, ad, NM, LM) cX10_chanceOf RX10 10 (some .long)) {z : Int64 × Sg} (n : Nat) : ∀ (σ : Sg) (x1 : Int32) (x2 : Int32) (x3 : Int32) (x4 : Int64) (x6 : Int32), f_X10_chanceOf_l10 n σ x1 x2 x3 x4 x6 = some z → am_At M { frames := 7, cells := 0, slots := 0, locals := 159 } (D, cT, ad, NM, LM) (amQl M (D, cT, ad, NM, LM) z) 10 10 [(0, .ref (ad 0)), (1, .int x1), (2, .int x2), (3, .int x3), (4, .long x4), (6, .int x6)] [] σ := by
  induction n with
  | zero =>
    intro σ x1 x2 x3 x4 x6 h
    have h2 : (none : Option (Int64 × Sg)) = some z := h
    cases h2
  | succ n ih =>
    intro σ x1 x2 x3 x4 x6 h
    exact t_X10_chanceOf_b10 X (k10 := f_X10_chanceOf_l10 n) ih σ x1 x2 x3 x4 x6 h
set_option maxRecDepth 100000 in
set_option maxHeartbeats 4000000 in
theorem c_X10_chanceOf (l : Launch) {σ : Sg} {a1 : Int32} {a2 : Int32} {a3 : Int32} {z : Int64 × Sg} (h : f_X10_chanceOf σ a1 a2 a3 = some z) : am_Met l yX10_chanceOf cX10_chanceOf 10 (some .long) { frames := 7, cells := 0, slots := 0, locals := 159 } NM LM (fun ad => [.ref (ad 0), .int a1, .int a2, .int a3]) σ z.2 (fun _ => some (.long z.1)) := by
  refine am_enter (by decide +kernel) (fun ad => Nat.le_of_ble_eq_true rfl) (fun M D cT ad hl X => ?_)
  subst hl
  refine r_lv (lv' := [(0, .ref (ad 0)), (1, .int a1), (2, .int a2), (3, .int a3)]) rfl ?_
  unfold f_X10_chanceOf at h
  refine r_aload_n X dX10_chanceOf_0 rfl 0 rfl ?_
  obtain ⟨r1, σ2, hc_3, h⟩ := bnd_of h
  refine r_callV (As := []) (rest := []) (st2 := []) (c := 0) X cv_X10_229 (c_X10_asTold M.2.1 hc_3) rfl (ci := 9) rfl fM_0 rfl rfl (Nat.le_of_ble_eq_true rfl) ⟨⟨rfl, rfl⟩, by decide, by decide⟩ dX10_chanceOf_1 ⟨rfl, rfl⟩ rfl ?_
  refine r_lconst (v := 0) X dX10_chanceOf_4 (by decide) ?_
  refine r_lstore X [(4, .long (0 : Int64)), (0, .ref (ad 0)), (1, .int a1), (2, .int a2), (3, .int a3)] dX10_chanceOf_5 (by decide) rfl ?_
  refine r_iconst (v := 0) X dX10_chanceOf_7 (by decide) ?_
  refine r_istore X [(6, .int (0 : Int32)), (4, .long (0 : Int64)), (0, .ref (ad 0)), (1, .int a1), (2, .int a2), (3, .int a3)] dX10_chanceOf_8 (by decide) rfl ?_
  refine r_sub (lv' := [(0, .ref (ad 0)), (1, .int a1), (2, .int a2), (3, .int a3), (4, .long (0 : Int64)), (6, .int (0 : Int32))]) [2, 3, 4, 5, 1, 0] rfl ?_
  exact t_X10_chanceOf_l10 X 300 σ2 a1 a2 a3 (0 : Int64) (0 : Int32) h
set_option maxRecDepth 100000 in
set_option maxHeartbeats 4000000 in
theorem c_X10_no (l : Launch) {σ : Sg} {a0 : Int32} {z : Int64 × Sg} (h : f_X10_no σ a0 = some z) : am_Met l yX10_no cX10_no 1 (some .long) { frames := 0, cells := 0, slots := 0, locals := 0 } NM LM (fun ad => [.int a0]) σ z.2 (fun _ => some (.long z.1)) := by
  refine am_enter (by decide +kernel) (fun ad => Nat.le_of_ble_eq_true rfl) (fun M D cT ad hl X => ?_)
  subst hl
  refine r_lv (lv' := [(0, .int a0)]) rfl ?_
  unfold f_X10_no at h
  refine r_ldc2 (v := (-9223372036854775808)) X dX10_no_0 bw_806 ?_
  refine r_iload_n X dX10_no_3 rfl 0 rfl ?_
  refine r_i2l X dX10_no_4 ?_
  refine r_lsub X dX10_no_5 ?_
  exact r_lretz X rfl dX10_no_6 h
set_option maxRecDepth 100000 in
set_option maxHeartbeats 4000000 in
theorem t_X10_chance_b35 {M : am_M} {D : va_G} {cT : Nat → ClassId} {ad : Nat → Nat} (X : am_X M (D, cT, ad, NM, LM) cX10_chance RX10 4 (some .long)) {z : Int64 × Sg} (σ : Sg) (h : f_X10_chance_b35 σ = some z) : am_At M { frames := 8, cells := 0, slots := 0, locals := 188 } (D, cT, ad, NM, LM) (amQl M (D, cT, ad, NM, LM) z) 4 35 [] [] σ := by
  unfold f_X10_chance_b35 at h
  refine r_bipush (v := -2) X dX10_chance_35 (by decide) ?_
  obtain ⟨r1, σ2, hc_3, h⟩ := bnd_of h
  refine r_callS (As := [.int (-2 : Int32)]) (rest := []) (st2 := [.long r1]) X cv_X10_326 (c_X10_no M.2.1 hc_3) rfl rfl rfl (Nat.le_of_ble_eq_true rfl) ⟨⟨rfl, rfl⟩, by decide, by decide⟩ dX10_chance_37 ⟨rfl, rfl⟩ rfl ?_
  exact r_lretz X rfl dX10_chance_40 h
set_option maxRecDepth 100000 in
set_option maxHeartbeats 4000000 in
theorem c_X10_chance (l : Launch) {σ : Sg} {a1 : Int32} {a2 : Int32} {a3 : Int32} {z : Int64 × Sg} (h : f_X10_chance σ a1 a2 a3 = some z) : am_Met l yX10_chance cX10_chance 4 (some .long) { frames := 8, cells := 0, slots := 0, locals := 188 } NM LM (fun ad => [.ref (ad 0), .int a1, .int a2, .int a3]) σ z.2 (fun _ => some (.long z.1)) := by
  refine am_enter (by decide +kernel) (fun ad => Nat.le_of_ble_eq_true rfl) (fun M D cT ad hl X => ?_)
  subst hl
  refine r_lv (lv' := [(0, .ref (ad 0)), (1, .int a1), (2, .int a2), (3, .int a3)]) rfl ?_
  unfold f_X10_chance at h
  refine r_iload_n X dX10_chance_0 rfl 1 rfl ?_
  refine r_iconst (v := 0) X dX10_chance_1 (by decide) ?_
  refine r_bipush (v := 16) X dX10_chance_2 (by decide) ?_
  obtain ⟨r1, σ2, hc_12, h⟩ := bnd_of h
  refine r_callS (As := [.int a1, .int (0 : Int32), .int (16 : Int32)]) (rest := []) (st2 := [.int r1]) X cv_X10_106 (c_X10_in M.2.1 hc_12) rfl rfl rfl (Nat.le_of_ble_eq_true rfl) ⟨⟨rfl, rfl⟩, by decide, by decide⟩ dX10_chance_4 ⟨rfl, rfl⟩ rfl ?_
  refine r_if_eq X 35 dX10_chance_7 (by decide) h (fun h => ?_) (fun h => ?_)
  · refine r_sub (lv' := []) [] rfl ?_
    exact t_X10_chance_b35 X σ2 h
  · refine r_aload_n X dX10_chance_10 rfl 0 rfl ?_
    refine r_iload_n X dX10_chance_11 rfl 2 rfl ?_
    obtain ⟨r3, σ4, hc_11, h⟩ := bnd_of h
    refine r_callV (As := [.int a2]) (rest := []) (st2 := [.int r3]) (c := 0) X cv_X10_159 (c_X10_isNeed M.2.1 hc_11) rfl (ci := 9) rfl fM_0 rfl rfl (Nat.le_of_ble_eq_true rfl) ⟨⟨rfl, rfl⟩, by decide, by decide⟩ dX10_chance_12 ⟨rfl, rfl⟩ rfl ?_
    refine r_if_eq X 35 dX10_chance_15 (by decide) h (fun h => ?_) (fun h => ?_)
    · refine r_sub (lv' := []) [] rfl ?_
      exact t_X10_chance_b35 X σ4 h
    · refine r_iload_n X dX10_chance_18 rfl 3 rfl ?_
      obtain ⟨r5, σ6, hc_10, h⟩ := bnd_of h
      refine r_callS (As := [.int a3]) (rest := []) (st2 := [.int r5]) X cv_X10_168 (c_X10_isTwo M.2.1 hc_10) rfl rfl rfl (Nat.le_of_ble_eq_true rfl) ⟨⟨rfl, rfl⟩, by decide, by decide⟩ dX10_chance_19 ⟨rfl, rfl⟩ rfl ?_
      refine r_if_eq X 35 dX10_chance_22 (by decide) h (fun h => ?_) (fun h => ?_)
      · refine r_sub (lv' := []) [] rfl ?_
        exact t_X10_chance_b35 X σ6 h
      · refine r_aload_n X dX10_chance_25 rfl 0 rfl ?_
        refine r_iload_n X dX10_chance_26 rfl 1 rfl ?_
        refine r_iload_n X dX10_chance_27 rfl 2 rfl ?_
        refine r_iload_n X dX10_chance_28 rfl 3 rfl ?_
        obtain ⟨r7, σ8, hc_9, h⟩ := bnd_of h
        refine r_callV (As := [.int a1, .int a2, .int a3]) (rest := []) (st2 := [.long r7]) (c := 0) X cv_X10_322 (c_X10_chanceOf M.2.1 hc_9) rfl (ci := 9) rfl fM_0 rfl rfl (Nat.le_of_ble_eq_true rfl) ⟨⟨rfl, rfl⟩, by decide, by decide⟩ dX10_chance_29 ⟨rfl, rfl⟩ rfl ?_
        refine r_goto X 40 dX10_chance_32 (by decide) ?_
        exact r_lretz X rfl dX10_chance_40 h
