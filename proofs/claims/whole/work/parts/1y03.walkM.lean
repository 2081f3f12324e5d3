set_option maxRecDepth 100000 in
set_option maxHeartbeats 4000000 in
theorem c_X10_more (l : Launch) {σ : Sg} {a1 : Int32} {a2 : Int32} {z : Unit × Sg} (h : f_X10_more σ a1 a2 = some z) : am_Met l yX10_more cX10_more 3 none { frames := 6, cells := 0, slots := 0, locals := 141 } NM LM (fun ad => [.ref (ad 0), .int a1, .int a2]) σ z.2 (fun _ => none) := by
  refine am_enter (by decide +kernel) (fun ad => Nat.le_of_ble_eq_true rfl) (fun M D cT ad hl X => ?_)
  subst hl
  refine r_lv (lv' := [(0, .ref (ad 0)), (1, .int a1), (2, .int a2)]) rfl ?_
  unfold f_X10_more at h
  refine r_aload_n X dX10_more_0 rfl 0 rfl ?_
  refine r_aload_n X dX10_more_1 rfl 0 rfl ?_
  refine r_getI X fg_X10_171_X10 fM_0 rfl dX10_more_2 ?_
  refine r_iconst (v := 1) X dX10_more_5 (by decide) ?_
  refine r_iadd X dX10_more_6 ?_
  refine r_putI X fp_X10_184_X10 fM_0 rfl dX10_more_7 h (fun σ1 h => ?_)
  refine r_aload_n X dX10_more_10 rfl 0 rfl ?_
  refine r_getR (c1 := 13) X fg_X10_46_X10 fM_0 rfl dX10_more_11 ?_
  refine r_aload_n X dX10_more_14 rfl 0 rfl ?_
  refine r_getI X fg_X10_171_X10 fM_0 rfl dX10_more_15 ?_
  refine r_iconst (v := 0) X dX10_more_18 (by decide) ?_
  refine r_iast X fM_13 dX10_more_19 h (fun σ2 h => ?_)
  refine r_aload_n X dX10_more_20 rfl 0 rfl ?_
  refine r_getR (c1 := 14) X fg_X10_49_X10 fM_0 rfl dX10_more_21 ?_
  refine r_aload_n X dX10_more_24 rfl 0 rfl ?_
  refine r_getI X fg_X10_171_X10 fM_0 rfl dX10_more_25 ?_
  refine r_iload_n X dX10_more_28 rfl 1 rfl ?_
  refine r_iast X fM_14 dX10_more_29 h (fun σ3 h => ?_)
  refine r_aload_n X dX10_more_30 rfl 0 rfl ?_
  refine r_getR (c1 := 15) X fg_X10_52_X10 fM_0 rfl dX10_more_31 ?_
  refine r_aload_n X dX10_more_34 rfl 0 rfl ?_
  refine r_getI X fg_X10_171_X10 fM_0 rfl dX10_more_35 ?_
  refine r_iload_n X dX10_more_38 rfl 2 rfl ?_
  refine r_iast X fM_15 dX10_more_39 h (fun σ4 h => ?_)
  refine r_aload_n X dX10_more_40 rfl 0 rfl ?_
  obtain ⟨r5, σ6, hc_7, h⟩ := bnd_of h
  refine r_callV (As := []) (rest := []) (st2 := []) (c := 0) X cv_X10_232 (c_X10_runs M.2.1 hc_7) rfl (ci := 9) rfl fM_0 rfl rfl (Nat.le_of_ble_eq_true rfl) ⟨⟨rfl, rfl⟩, by decide, by decide⟩ dX10_more_41 ⟨rfl, rfl⟩ rfl ?_
  exact r_vretz X rfl dX10_more_44 h
set_option maxRecDepth 100000 in
set_option maxHeartbeats 4000000 in
theorem t_X10_metNow_b28 {M : am_M} {D : va_G} {cT : Nat → ClassId} {ad : Nat → Nat} (X : am_X M (D, cT, ad, NM, LM) cX10_metNow RX10 3 (some .int)) {z : Int32 × Sg} {k4 : Sg → Int32 → Int32 → Option (Int32 × Sg)} (hk4 : ∀ (σ : Sg) (x1 : Int32) (x2 : Int32), k4 σ x1 x2 = some z → am_At M { frames := 0, cells := 0, slots := 0, locals := 0 } (D, cT, ad, NM, LM) (amQi M (D, cT, ad, NM, LM) z) 3 4 [(0, .ref (ad 0)), (1, .int x1), (2, .int x2)] [] σ) (σ : Sg) (x2 : Int32) (s0 : Int32) (s1 : Int32) (h : f_X10_metNow_b28 k4 σ x2 s0 s1 = some z) : am_At M { frames := 0, cells := 0, slots := 0, locals := 0 } (D, cT, ad, NM, LM) (amQi M (D, cT, ad, NM, LM) z) 3 28 [(0, .ref (ad 0)), (2, .int x2)] [.int s0, .int s1] σ := by
  unfold f_X10_metNow_b28 at h
  refine r_iadd X dX10_metNow_28 ?_
  refine r_leti h (fun v1 h => ?_)
  refine r_istore_n X [(1, .int v1), (0, .ref (ad 0)), (2, .int x2)] dX10_metNow_29 rfl (by decide) rfl ?_
  refine r_iinc X [(2, .int (x2 + (1 : Int32))), (1, .int v1), (0, .ref (ad 0))] dX10_metNow_30 2 rfl (v := x2 + (1 : Int32)) (by rfl) (by decide) rfl ?_
  refine r_letv h (fun v2 h => ?_)
  refine r_goto X 4 dX10_metNow_33 (by decide) ?_
  refine r_sub (lv' := [(0, .ref (ad 0)), (1, .int v1), (2, .int v2)]) [2, 1, 0] rfl ?_
  exact hk4 σ v1 v2 h
set_option maxRecDepth 100000 in
set_option maxHeartbeats 4000000 in
theorem t_X10_metNow_b4 {M : am_M} {D : va_G} {cT : Nat → ClassId} {ad : Nat → Nat} (X : am_X M (D, cT, ad, NM, LM) cX10_metNow RX10 3 (some .int)) {z : Int32 × Sg} {k4 : Sg → Int32 → Int32 → Option (Int32 × Sg)} (hk4 : ∀ (σ : Sg) (x1 : Int32) (x2 : Int32), k4 σ x1 x2 = some z → am_At M { frames := 0, cells := 0, slots := 0, locals := 0 } (D, cT, ad, NM, LM) (amQi M (D, cT, ad, NM, LM) z) 3 4 [(0, .ref (ad 0)), (1, .int x1), (2, .int x2)] [] σ) (σ : Sg) (x1 : Int32) (x2 : Int32) (h : f_X10_metNow_b4 k4 σ x1 x2 = some z) : am_At M { frames := 0, cells := 0, slots := 0, locals := 0 } (D, cT, ad, NM, LM) (amQi M (D, cT, ad, NM, LM) z) 3 4 [(0, .ref (ad 0)), (1, .int x1), (2, .int x2)] [] σ := by
  unfold f_X10_metNow_b4 at h
  refine r_iload_n X dX10_metNow_4 rfl 2 rfl ?_
  refine r_aload_n X dX10_metNow_5 rfl 0 rfl ?_
  refine r_getI X fg_X10_134_X10 fM_0 rfl dX10_metNow_6 ?_
  refine r_icmp_ge X 36 dX10_metNow_9 (by decide) h (fun h => ?_) (fun h => ?_)
  · refine r_iload_n X dX10_metNow_36 rfl 1 rfl ?_
    exact r_iretz X rfl dX10_metNow_37 h
  · refine r_iload_n X dX10_metNow_12 rfl 1 rfl ?_
    refine r_aload_n X dX10_metNow_13 rfl 0 rfl ?_
    refine r_getR (c1 := 17) X fg_X10_58_X10 fM_0 rfl dX10_metNow_14 ?_
    refine r_iload_n X dX10_metNow_17 rfl 2 rfl ?_
    refine r_iald X fM_17 dX10_metNow_18 h (fun h => ?_)
    refine r_iconst (v := -1) X dX10_metNow_19 (by decide) ?_
    refine r_icmp_eq X 27 dX10_metNow_20 (by decide) h (fun h => ?_) (fun h => ?_)
    · refine r_iconst (v := 0) X dX10_metNow_27 (by decide) ?_
      refine r_sub (lv' := [(0, .ref (ad 0)), (2, .int x2)]) [0, 2] rfl ?_
      exact t_X10_metNow_b28 X hk4 σ x2 (0 : Int32) x1 h
    · refine r_iconst (v := 1) X dX10_metNow_23 (by decide) ?_
      refine r_goto X 28 dX10_metNow_24 (by decide) ?_
      refine r_sub (lv' := [(0, .ref (ad 0)), (2, .int x2)]) [0, 2] rfl ?_
      exact t_X10_metNow_b28 X hk4 σ x2 (1 : Int32) x1 h
theorem t_X10_metNow_l4 {M : am_M} {D : va_G} {cT : Nat → ClassId} {ad : Nat → Nat} (X : am_X M (D, cT, ad, NM, LM) cX10_metNow RX10 3 (some .int)) {z : Int32 × Sg} (n : Nat) : ∀ (σ : Sg) (x1 : Int32) (x2 : Int32), f_X10_metNow_l4 n σ x1 x2 = some z → am_At M { frames := 0, cells := 0, slots := 0, locals := 0 } (D, cT, ad, NM, LM) (amQi M (D, cT, ad, NM, LM) z) 3 4 [(0, .ref (ad 0)), (1, .int x1), (2, .int x2)] [] σ := by
  induction n with
  | zero =>
    intro σ x1 x2 h
    have h2 : (none : Option (Int32 × Sg)) = some z := h
    cases h2
  | succ n ih =>
    intro σ x1 x2 h
    exact t_X10_metNow_b4 X (k4 := f_X10_metNow_l4 n) ih σ x1 x2 h
set_option maxRecDepth 100000 in
set_option maxHeartbeats 4000000 in
theorem c_X10_metNow (l : Launch) {σ : Sg} {z : Int32 × Sg} (h : f_X10_metNow σ = some z) : am_Met l yX10_metNow cX10_metNow 3 (some .int) { frames := 0, cells := 0, slots := 0, locals := 0 } NM LM (fun ad => [.ref (ad 0)]) σ z.2 (fun _ => some (.int z.1)) := by
  refine am_enter (by decide +kernel) (fun ad => Nat.le_of_ble_eq_true rfl) (fun M D cT ad hl X => ?_)
  subst hl
  refine r_lv (lv' := [(0, .ref (ad 0))]) rfl ?_
  unfold f_X10_metNow at h
  refine r_iconst (v := 0) X dX10_metNow_0 (by decide) ?_
  refine r_istore_n X [(1, .int (0 : Int32)), (0, .ref (ad 0))] dX10_metNow_1 rfl (by decide) rfl ?_
  refine r_iconst (v := 0) X dX10_metNow_2 (by decide) ?_
  refine r_istore_n X [(2, .int (0 : Int32)), (1, .int (0 : Int32)), (0, .ref (ad 0))] dX10_metNow_3 rfl (by decide) rfl ?_
  refine r_sub (lv' := [(0, .ref (ad 0)), (1, .int (0 : Int32)), (2, .int (0 : Int32))]) [2, 1, 0] rfl ?_
  exact t_X10_metNow_l4 X 300 σ (0 : Int32) (0 : Int32) h
set_option maxRecDepth 100000 in
set_option maxHeartbeats 4000000 in
theorem t_X10_ploughOf_b60 {M : am_M} {D : va_G} {cT : Nat → ClassId} {ad : Nat → Nat} (X : am_X M (D, cT, ad, NM, LM) cX10_ploughOf RX10 7 (some .int)) {z : Int32 × Sg} {k12 : Sg → Int32 → Int32 → Int32 → Int32 → Int32 → Option (Int32 × Sg)} (hk12 : ∀ (σ : Sg) (x1 : Int32) (x2 : Int32) (x3 : Int32) (x4 : Int32) (x5 : Int32), k12 σ x1 x2 x3 x4 x5 = some z → am_At M { frames := 7, cells := 0, slots := 0, locals := 163 } (D, cT, ad, NM, LM) (amQi M (D, cT, ad, NM, LM) z) 7 12 [(0, .ref (ad 0)), (1, .int x1), (2, .int x2), (3, .int x3), (4, .int x4), (5, .int x5)] [] σ) (σ : Sg) (x1 : Int32) (x2 : Int32) (x3 : Int32) (x5 : Int32) (s0 : Int32) (h : f_X10_ploughOf_b60 k12 σ x1 x2 x3 x5 s0 = some z) : am_At M { frames := 7, cells := 0, slots := 0, locals := 163 } (D, cT, ad, NM, LM) (amQi M (D, cT, ad, NM, LM) z) 7 60 [(0, .ref (ad 0)), (1, .int x1), (2, .int x2), (3, .int x3), (5, .int x5)] [.int s0] σ := by
  unfold f_X10_ploughOf_b60 at h
  refine r_istore X [(4, .int s0), (0, .ref (ad 0)), (1, .int x1), (2, .int x2), (3, .int x3), (5, .int x5)] dX10_ploughOf_60 (by decide) rfl ?_
  refine r_iinc X [(5, .int (x5 + (1 : Int32))), (4, .int s0), (0, .ref (ad 0)), (1, .int x1), (2, .int x2), (3, .int x3)] dX10_ploughOf_62 5 rfl (v := x5 + (1 : Int32)) (by rfl) (by decide) rfl ?_
  refine r_letv h (fun v1 h => ?_)
  refine r_goto X 12 dX10_ploughOf_65 (by decide) ?_
  refine r_sub (lv' := [(0, .ref (ad 0)), (1, .int x1), (2, .int x2), (3, .int x3), (4, .int s0), (5, .int v1)]) [2, 3, 4, 5, 1, 0] rfl ?_
  exact hk12 σ x1 x2 x3 s0 v1 h
set_option maxRecDepth 100000 in
set_option maxHeartbeats 4000000 in
theorem t_X10_ploughOf_b45 {M : am_M} {D : va_G} {cT : Nat → ClassId} {ad : Nat → Nat} (X : am_X M (D, cT, ad, NM, LM) cX10_ploughOf RX10 7 (some .int)) {z : Int32 × Sg} {k12 : Sg → Int32 → Int32 → Int32 → Int32 → Int32 → Option (Int32 × Sg)} (hk12 : ∀ (σ : Sg) (x1 : Int32) (x2 : Int32) (x3 : Int32) (x4 : Int32) (x5 : Int32), k12 σ x1 x2 x3 x4 x5 = some z → am_At M { frames := 7, cells := 0, slots := 0, locals := 163 } (D, cT, ad, NM, LM) (amQi M (D, cT, ad, NM, LM) z) 7 12 [(0, .ref (ad 0)), (1, .int x1), (2, .int x2), (3, .int x3), (4, .int x4), (5, .int x5)] [] σ) (σ : Sg) (x1 : Int32) (x2 : Int32) (x4 : Int32) (x5 : Int32) (x6 : Int32) (s0 : Int32) (h : f_X10_ploughOf_b45 k12 σ x1 x2 x4 x5 x6 s0 = some z) : am_At M { frames := 7, cells := 0, slots := 0, locals := 163 } (D, cT, ad, NM, LM) (amQi M (D, cT, ad, NM, LM) z) 7 45 [(0, .ref (ad 0)), (1, .int x1), (2, .int x2), (4, .int x4), (5, .int x5), (6, .int x6)] [.int s0] σ := by
  unfold f_X10_ploughOf_b45 at h
  refine r_istore_n X [(3, .int s0), (0, .ref (ad 0)), (1, .int x1), (2, .int x2), (4, .int x4), (5, .int x5), (6, .int x6)] dX10_ploughOf_45 rfl (by decide) rfl ?_
  refine r_iload X dX10_ploughOf_46 6 rfl ?_
  refine r_iload X dX10_ploughOf_48 4 rfl ?_
  refine r_icmp_le X 58 dX10_ploughOf_50 (by decide) h (fun h => ?_) (fun h => ?_)
  · refine r_iload X dX10_ploughOf_58 4 rfl ?_
    refine r_sub (lv' := [(0, .ref (ad 0)), (1, .int x1), (2, .int x2), (3, .int s0), (5, .int x5)]) [1, 2, 3, 0, 5] rfl ?_
    exact t_X10_ploughOf_b60 X hk12 σ x1 x2 s0 x5 x4 h
  · refine r_iload X dX10_ploughOf_53 6 rfl ?_
    refine r_goto X 60 dX10_ploughOf_55 (by decide) ?_
    refine r_sub (lv' := [(0, .ref (ad 0)), (1, .int x1), (2, .int x2), (3, .int s0), (5, .int x5)]) [1, 2, 3, 0, 5] rfl ?_
    exact t_X10_ploughOf_b60 X hk12 σ x1 x2 s0 x5 x6 h
set_option maxRecDepth 100000 in
set_option maxHeartbeats 4000000 in
theorem t_X10_ploughOf_b12 {M : am_M} {D : va_G} {cT : Nat → ClassId} {ad : Nat → Nat} (X : am_X M (D, cT, ad, NM, LM) cX10_ploughOf RX10 7 (some .int)) {z : Int32 × Sg} {k12 : Sg → Int32 → Int32 → Int32 → Int32 → Int32 → Option (Int32 × Sg)} (hk12 : ∀ (σ : Sg) (x1 : Int32) (x2 : Int32) (x3 : Int32) (x4 : Int32) (x5 : Int32), k12 σ x1 x2 x3 x4 x5 = some z → am_At M { frames := 7, cells := 0, slots := 0, locals := 163 } (D, cT, ad, NM, LM) (amQi M (D, cT, ad, NM, LM) z) 7 12 [(0, .ref (ad 0)), (1, .int x1), (2, .int x2), (3, .int x3), (4, .int x4), (5, .int x5)] [] σ) (σ : Sg) (x1 : Int32) (x2 : Int32) (x3 : Int32) (x4 : Int32) (x5 : Int32) (h : f_X10_ploughOf_b12 k12 σ x1 x2 x3 x4 x5 = some z) : am_At M { frames := 7, cells := 0, slots := 0, locals := 163 } (D, cT, ad, NM, LM) (amQi M (D, cT, ad, NM, LM) z) 7 12 [(0, .ref (ad 0)), (1, .int x1), (2, .int x2), (3, .int x3), (4, .int x4), (5, .int x5)] [] σ := by
  unfold f_X10_ploughOf_b12 at h
  refine r_iload X dX10_ploughOf_12 5 rfl ?_
  refine r_bipush (v := 6) X dX10_ploughOf_14 (by decide) ?_
  refine r_icmp_ge X 68 dX10_ploughOf_16 (by decide) h (fun h => ?_) (fun h => ?_)
  · refine r_iload_n X dX10_ploughOf_68 rfl 2 rfl ?_
    refine r_if_ne X 76 dX10_ploughOf_69 (by decide) h (fun h => ?_) (fun h => ?_)
    · refine r_iload_n X dX10_ploughOf_72 rfl 3 rfl ?_
      refine r_goto X 78 dX10_ploughOf_73 (by decide) ?_
      exact r_iretz X rfl dX10_ploughOf_78 h
    · refine r_iload X dX10_ploughOf_76 4 rfl ?_
      exact r_iretz X rfl dX10_ploughOf_78 h
  · refine r_aload_n X dX10_ploughOf_19 rfl 0 rfl ?_
    refine r_iload_n X dX10_ploughOf_20 rfl 1 rfl ?_
    refine r_iload X dX10_ploughOf_21 5 rfl ?_
    obtain ⟨r1, σ2, hc_6, h⟩ := bnd_of h
    refine r_callV (As := [.int x1, .int x5]) (rest := []) (st2 := []) (c := 0) X cv_X10_272 (c_X10_more M.2.1 hc_6) rfl (ci := 9) rfl fM_0 rfl rfl (Nat.le_of_ble_eq_true rfl) ⟨⟨rfl, rfl⟩, by decide, by decide⟩ dX10_ploughOf_23 ⟨rfl, rfl⟩ rfl ?_
    refine r_aload_n X dX10_ploughOf_26 rfl 0 rfl ?_
    obtain ⟨r3, σ4, hc_5, h⟩ := bnd_of h
    refine r_callV (As := []) (rest := []) (st2 := [.int r3]) (c := 0) X cv_X10_275 (c_X10_metNow M.2.1 hc_5) rfl (ci := 9) rfl fM_0 rfl rfl (Nat.le_of_ble_eq_true rfl) ⟨⟨rfl, rfl⟩, by decide, by decide⟩ dX10_ploughOf_27 ⟨rfl, rfl⟩ rfl ?_
    refine r_istore X [(6, .int r3), (0, .ref (ad 0)), (1, .int x1), (2, .int x2), (3, .int x3), (4, .int x4), (5, .int x5)] dX10_ploughOf_30 (by decide) rfl ?_
    refine r_iload X dX10_ploughOf_32 0 rfl ?_
    refine r_iload X dX10_ploughOf_34 5 rfl ?_
    refine r_icmp_le X 44 dX10_ploughOf_36 (by decide) h (fun h => ?_) (fun h => ?_)
    · refine r_iload_n X dX10_ploughOf_44 rfl 4 rfl ?_
      refine r_sub (lv' := [(0, .ref (ad 0)), (1, .int x1), (2, .int x2), (4, .int x4), (5, .int x5), (6, .int r3)]) [1, 2, 3, 5, 6, 0] rfl ?_
      exact t_X10_ploughOf_b45 X hk12 σ4 x1 x2 x4 x5 r3 x3 h
    · refine r_iload X dX10_ploughOf_39 6 rfl ?_
      refine r_goto X 45 dX10_ploughOf_41 (by decide) ?_
      refine r_sub (lv' := [(0, .ref (ad 0)), (1, .int x1), (2, .int x2), (4, .int x4), (5, .int x5), (6, .int r3)]) [1, 2, 3, 5, 6, 0] rfl ?_
      exact t_X10_ploughOf_b45 X hk12 σ4 x1 x2 x4 x5 r3 x5 h
theorem t_X10_ploughOf_l12 {M : am_M} {D : va_G} {cT : Nat → ClassId} {ad : Nat → Nat} (X : am_X M (D, cT, ad, NM, LM) cX10_ploughOf RX10 7 (some .int)) {z : Int32 × Sg} (n : Nat) : ∀ (σ : Sg) (x1 : Int32) (x2 : Int32) (x3 : Int32) (x4 : Int32) (x5 : Int32), f_X10_ploughOf_l12 n σ x1 x2 x3 x4 x5 = some z → am_At M { frames := 7, cells := 0, slots := 0, locals := 163 } (D, cT, ad, NM, LM) (amQi M (D, cT, ad, NM, LM) z) 7 12 [(0, .ref (ad 0)), (1, .int x1), (2, .int x2), (3, .int x3), (4, .int x4), (5, .int x5)] [] σ := by
  induction n with
  | zero =>
    intro σ x1 x2 x3 x4 x5 h
    have h2 : (none : Option (Int32 × Sg)) = some z := h
    cases h2
  | succ n ih =>
    intro σ x1 x2 x3 x4 x5 h
    exact t_X10_ploughOf_b12 X (k12 := f_X10_ploughOf_l12 n) ih σ x1 x2 x3 x4 x5 h
set_option maxRecDepth 100000 in
set_option maxHeartbeats 4000000 in
theorem c_X10_ploughOf (l : Launch) {σ : Sg} {a1 : Int32} {a2 : Int32} {z : Int32 × Sg} (h : f_X10_ploughOf σ a1 a2 = some z) : am_Met l yX10_ploughOf cX10_ploughOf 7 (some .int) { frames := 7, cells := 0, slots := 0, locals := 163 } NM LM (fun ad => [.ref (ad 0), .int a1, .int a2]) σ z.2 (fun _ => some (.int z.1)) := by
  refine am_enter (by decide +kernel) (fun ad => Nat.le_of_ble_eq_true rfl) (fun M D cT ad hl X => ?_)
  subst hl
  refine r_lv (lv' := [(0, .ref (ad 0)), (1, .int a1), (2, .int a2)]) rfl ?_
  unfold f_X10_ploughOf at h
  refine r_aload_n X dX10_ploughOf_0 rfl 0 rfl ?_
  obtain ⟨r1, σ2, hc_3, h⟩ := bnd_of h
  refine r_callV (As := []) (rest := []) (st2 := []) (c := 0) X cv_X10_229 (c_X10_asTold M.2.1 hc_3) rfl (ci := 9) rfl fM_0 rfl rfl (Nat.le_of_ble_eq_true rfl) ⟨⟨rfl, rfl⟩, by decide, by decide⟩ dX10_ploughOf_1 ⟨rfl, rfl⟩ rfl ?_
  refine r_iconst (v := -1) X dX10_ploughOf_4 (by decide) ?_
  refine r_istore_n X [(3, .int (-1 : Int32)), (0, .ref (ad 0)), (1, .int a1), (2, .int a2)] dX10_ploughOf_5 rfl (by decide) rfl ?_
  refine r_iconst (v := -1) X dX10_ploughOf_6 (by decide) ?_
  refine r_istore X [(4, .int (-1 : Int32)), (3, .int (-1 : Int32)), (0, .ref (ad 0)), (1, .int a1), (2, .int a2)] dX10_ploughOf_7 (by decide) rfl ?_
  refine r_iconst (v := 0) X dX10_ploughOf_9 (by decide) ?_
  refine r_istore X [(5, .int (0 : Int32)), (4, .int (-1 : Int32)), (3, .int (-1 : Int32)), (0, .ref (ad 0)), (1, .int a1), (2, .int a2)] dX10_ploughOf_10 (by decide) rfl ?_
  refine r_sub (lv' := [(0, .ref (ad 0)), (1, .int a1), (2, .int a2), (3, .int (-1 : Int32)), (4, .int (-1 : Int32)), (5, .int (0 : Int32))]) [3, 4, 5, 2, 1, 0] rfl ?_
  exact t_X10_ploughOf_l12 X 300 σ2 a1 a2 (-1 : Int32) (-1 : Int32) (0 : Int32) h
set_option maxRecDepth 100000 in
set_option maxHeartbeats 4000000 in
theorem c_X10_plough (l : Launch) {σ : Sg} {a1 : Int32} {a2 : Int32} {z : Int32 × Sg} (h : f_X10_plough σ a1 a2 = some z) : am_Met l yX10_plough cX10_plough 3 (some .int) { frames := 8, cells := 0, slots := 0, locals := 189 } NM LM (fun ad => [.ref (ad 0), .int a1, .int a2]) σ z.2 (fun _ => some (.int z.1)) := by
  refine am_enter (by decide +kernel) (fun ad => Nat.le_of_ble_eq_true rfl) (fun M D cT ad hl X => ?_)
  subst hl
  refine r_lv (lv' := [(0, .ref (ad 0)), (1, .int a1), (2, .int a2)]) rfl ?_
  unfold f_X10_plough at h
  refine r_iload_n X dX10_plough_0 rfl 1 rfl ?_
  obtain ⟨r1, σ2, hc_9, h⟩ := bnd_of h
  refine r_callS (As := [.int a1]) (rest := []) (st2 := [.int r1]) X cv_X10_127 (c_X10_isNight M.2.1 hc_9) rfl rfl rfl (Nat.le_of_ble_eq_true rfl) ⟨⟨rfl, rfl⟩, by decide, by decide⟩ dX10_plough_1 ⟨rfl, rfl⟩ rfl ?_
  refine r_if_eq X 23 dX10_plough_4 (by decide) h (fun h => ?_) (fun h => ?_)
  · refine r_bipush (v := -2) X dX10_plough_23 (by decide) ?_
    exact r_iretz X rfl dX10_plough_25 h
  · refine r_iload_n X dX10_plough_7 rfl 2 rfl ?_
    obtain ⟨r3, σ4, hc_8, h⟩ := bnd_of h
    refine r_callS (As := [.int a2]) (rest := []) (st2 := [.int r3]) X cv_X10_168 (c_X10_isTwo M.2.1 hc_8) rfl rfl rfl (Nat.le_of_ble_eq_true rfl) ⟨⟨rfl, rfl⟩, by decide, by decide⟩ dX10_plough_8 ⟨rfl, rfl⟩ rfl ?_
    refine r_if_eq X 23 dX10_plough_11 (by decide) h (fun h => ?_) (fun h => ?_)
    · refine r_bipush (v := -2) X dX10_plough_23 (by decide) ?_
      exact r_iretz X rfl dX10_plough_25 h
    · refine r_aload_n X dX10_plough_14 rfl 0 rfl ?_
      refine r_iload_n X dX10_plough_15 rfl 1 rfl ?_
      refine r_iload_n X dX10_plough_16 rfl 2 rfl ?_
      obtain ⟨r5, σ6, hc_7, h⟩ := bnd_of h
      refine r_callV (As := [.int a1, .int a2]) (rest := []) (st2 := [.int r5]) (c := 0) X cv_X10_278 (c_X10_ploughOf M.2.1 hc_7) rfl (ci := 9) rfl fM_0 rfl rfl (Nat.le_of_ble_eq_true rfl) ⟨⟨rfl, rfl⟩, by decide, by decide⟩ dX10_plough_17 ⟨rfl, rfl⟩ rfl ?_
      refine r_goto X 25 dX10_plough_20 (by decide) ?_
      exact r_iretz X rfl dX10_plough_25 h
set_option maxRecDepth 100000 in
set_option maxHeartbeats 4000000 in
theorem t_X10_isOther_b53 {M : am_M} {D : va_G} {cT : Nat → ClassId} {ad : Nat → Nat} (X : am_X M (D, cT, ad, NM, LM) cX10_isOther RX10 6 (some .boolean)) {z : Int32 × Sg} {k6 : Sg → Int32 → Int32 → Int32 → Int32 → Int32 → Option (Int32 × Sg)} (hk6 : ∀ (σ : Sg) (x1 : Int32) (x2 : Int32) (x3 : Int32) (x4 : Int32) (x5 : Int32), k6 σ x1 x2 x3 x4 x5 = some z → am_At M { frames := 0, cells := 0, slots := 0, locals := 0 } (D, cT, ad, NM, LM) (amQi M (D, cT, ad, NM, LM) z) 6 6 [(0, .ref (ad 0)), (1, .int x1), (2, .int x2), (3, .int x3), (4, .int x4), (5, .int x5)] [] σ) (σ : Sg) (x1 : Int32) (x2 : Int32) (x3 : Int32) (x5 : Int32) (s0 : Int32) (h : f_X10_isOther_b53 k6 σ x1 x2 x3 x5 s0 = some z) : am_At M { frames := 0, cells := 0, slots := 0, locals := 0 } (D, cT, ad, NM, LM) (amQi M (D, cT, ad, NM, LM) z) 6 53 [(0, .ref (ad 0)), (1, .int x1), (2, .int x2), (3, .int x3), (5, .int x5)] [.int s0] σ := by
  unfold f_X10_isOther_b53 at h
  refine r_istore X [(4, .int s0), (0, .ref (ad 0)), (1, .int x1), (2, .int x2), (3, .int x3), (5, .int x5)] dX10_isOther_53 (by decide) rfl ?_
  refine r_iinc X [(5, .int (x5 + (1 : Int32))), (4, .int s0), (0, .ref (ad 0)), (1, .int x1), (2, .int x2), (3, .int x3)] dX10_isOther_55 5 rfl (v := x5 + (1 : Int32)) (by rfl) (by decide) rfl ?_
  refine r_letv h (fun v1 h => ?_)
  refine r_goto X 6 dX10_isOther_58 (by decide) ?_
  refine r_sub (lv' := [(0, .ref (ad 0)), (1, .int x1), (2, .int x2), (3, .int x3), (4, .int s0), (5, .int v1)]) [2, 3, 4, 5, 1, 0] rfl ?_
  exact hk6 σ x1 x2 x3 s0 v1 h
set_option maxRecDepth 100000 in
set_option maxHeartbeats 4000000 in
theorem t_X10_isOther_b48 {M : am_M} {D : va_G} {cT : Nat → ClassId} {ad : Nat → Nat} (X : am_X M (D, cT, ad, NM, LM) cX10_isOther RX10 6 (some .boolean)) {z : Int32 × Sg} {k6 : Sg → Int32 → Int32 → Int32 → Int32 → Int32 → Option (Int32 × Sg)} (hk6 : ∀ (σ : Sg) (x1 : Int32) (x2 : Int32) (x3 : Int32) (x4 : Int32) (x5 : Int32), k6 σ x1 x2 x3 x4 x5 = some z → am_At M { frames := 0, cells := 0, slots := 0, locals := 0 } (D, cT, ad, NM, LM) (amQi M (D, cT, ad, NM, LM) z) 6 6 [(0, .ref (ad 0)), (1, .int x1), (2, .int x2), (3, .int x3), (4, .int x4), (5, .int x5)] [] σ) (σ : Sg) (x1 : Int32) (x2 : Int32) (x3 : Int32) (x5 : Int32) (h : f_X10_isOther_b48 k6 σ x1 x2 x3 x5 = some z) : am_At M { frames := 0, cells := 0, slots := 0, locals := 0 } (D, cT, ad, NM, LM) (amQi M (D, cT, ad, NM, LM) z) 6 48 [(0, .ref (ad 0)), (1, .int x1), (2, .int x2), (3, .int x3), (5, .int x5)] [] σ := by
  unfold f_X10_isOther_b48 at h
  refine r_iconst (v := 1) X dX10_isOther_48 (by decide) ?_
  refine r_goto X 53 dX10_isOther_49 (by decide) ?_
  exact t_X10_isOther_b53 X hk6 σ x1 x2 x3 x5 (1 : Int32) h
set_option maxRecDepth 100000 in
set_option maxHeartbeats 4000000 in
theorem t_X10_isOther_b52 {M : am_M} {D : va_G} {cT : Nat → ClassId} {ad : Nat → Nat} (X : am_X M (D, cT, ad, NM, LM) cX10_isOther RX10 6 (some .boolean)) {z : Int32 × Sg} {k6 : Sg → Int32 → Int32 → Int32 → Int32 → Int32 → Option (Int32 × Sg)} (hk6 : ∀ (σ : Sg) (x1 : Int32) (x2 : Int32) (x3 : Int32) (x4 : Int32) (x5 : Int32), k6 σ x1 x2 x3 x4 x5 = some z → am_At M { frames := 0, cells := 0, slots := 0, locals := 0 } (D, cT, ad, NM, LM) (amQi M (D, cT, ad, NM, LM) z) 6 6 [(0, .ref (ad 0)), (1, .int x1), (2, .int x2), (3, .int x3), (4, .int x4), (5, .int x5)] [] σ) (σ : Sg) (x1 : Int32) (x2 : Int32) (x3 : Int32) (x5 : Int32) (h : f_X10_isOther_b52 k6 σ x1 x2 x3 x5 = some z) : am_At M { frames := 0, cells := 0, slots := 0, locals := 0 } (D, cT, ad, NM, LM) (amQi M (D, cT, ad, NM, LM) z) 6 52 [(0, .ref (ad 0)), (1, .int x1), (2, .int x2), (3, .int x3), (5, .int x5)] [] σ := by
  unfold f_X10_isOther_b52 at h
  refine r_iconst (v := 0) X dX10_isOther_52 (by decide) ?_
  exact t_X10_isOther_b53 X hk6 σ x1 x2 x3 x5 (0 : Int32) h
set_option maxRecDepth 100000 in
set_option maxHeartbeats 4000000 in
theorem t_X10_isOther_b6 {M : am_M} {D : va_G} {cT : Nat → ClassId} {ad : Nat → Nat} (X : am_X M (D, cT, ad, NM, LM) cX10_isOther RX10 6 (some .boolean)) {z : Int32 × Sg} {k6 : Sg → Int32 → Int32 → Int32 → Int32 → Int32 → Option (Int32 × Sg)} (hk6 : ∀ (σ : Sg) (x1 : Int32) (x2 : Int32) (x3 : Int32) (x4 : Int32) (x5 : Int32), k6 σ x1 x2 x3 x4 x5 = some z → am_At M { frames := 0, cells := 0, slots := 0, locals := 0 } (D, cT, ad, NM, LM) (amQi M (D, cT, ad, NM, LM) z) 6 6 [(0, .ref (ad 0)), (1, .int x1), (2, .int x2), (3, .int x3), (4, .int x4), (5, .int x5)] [] σ) (σ : Sg) (x1 : Int32) (x2 : Int32) (x3 : Int32) (x4 : Int32) (x5 : Int32) (h : f_X10_isOther_b6 k6 σ x1 x2 x3 x4 x5 = some z) : am_At M { frames := 0, cells := 0, slots := 0, locals := 0 } (D, cT, ad, NM, LM) (amQi M (D, cT, ad, NM, LM) z) 6 6 [(0, .ref (ad 0)), (1, .int x1), (2, .int x2), (3, .int x3), (4, .int x4), (5, .int x5)] [] σ := by
  unfold f_X10_isOther_b6 at h
  refine r_iload X dX10_isOther_6 5 rfl ?_
  refine r_aload_n X dX10_isOther_8 rfl 0 rfl ?_
  refine r_getI X fg_X10_130_X10 fM_0 rfl dX10_isOther_9 ?_
  refine r_icmp_ge X 61 dX10_isOther_12 (by decide) h (fun h => ?_) (fun h => ?_)
  · refine r_iload X dX10_isOther_61 4 rfl ?_
    exact r_zretg X rfl dX10_isOther_63 h
  · refine r_iload X dX10_isOther_15 4 rfl ?_
    refine r_if_ne X 48 dX10_isOther_17 (by decide) h (fun h => ?_) (fun h => ?_)
    · refine r_iload X dX10_isOther_20 5 rfl ?_
      refine r_iload_n X dX10_isOther_22 rfl 1 rfl ?_
      refine r_icmp_eq X 52 dX10_isOther_23 (by decide) h (fun h => ?_) (fun h => ?_)
      · refine r_sub (lv' := [(0, .ref (ad 0)), (1, .int x1), (2, .int x2), (3, .int x3), (5, .int x5)]) [0, 1, 2, 3, 5] rfl ?_
        exact t_X10_isOther_b52 X hk6 σ x1 x2 x3 x5 h
      · refine r_aload_n X dX10_isOther_26 rfl 0 rfl ?_
        refine r_getR (c1 := 4) X fg_X10_19_X10 fM_0 rfl dX10_isOther_27 ?_
        refine r_iload X dX10_isOther_30 5 rfl ?_
        refine r_iald X fM_4 dX10_isOther_32 h (fun h => ?_)
        refine r_iload_n X dX10_isOther_33 rfl 2 rfl ?_
        refine r_icmp_ne X 52 dX10_isOther_34 (by decide) h (fun h => ?_) (fun h => ?_)
        · refine r_aload_n X dX10_isOther_37 rfl 0 rfl ?_
          refine r_getR (c1 := 5) X fg_X10_22_X10 fM_0 rfl dX10_isOther_38 ?_
          refine r_iload X dX10_isOther_41 5 rfl ?_
          refine r_iald X fM_5 dX10_isOther_43 h (fun h => ?_)
          refine r_iload_n X dX10_isOther_44 rfl 3 rfl ?_
          refine r_icmp_ne X 52 dX10_isOther_45 (by decide) h (fun h => ?_) (fun h => ?_)
          · refine r_sub (lv' := [(0, .ref (ad 0)), (1, .int x1), (2, .int x2), (3, .int x3), (5, .int x5)]) [0, 1, 2, 3, 5] rfl ?_
            exact t_X10_isOther_b48 X hk6 σ x1 x2 x3 x5 h
          · refine r_sub (lv' := [(0, .ref (ad 0)), (1, .int x1), (2, .int x2), (3, .int x3), (5, .int x5)]) [0, 1, 2, 3, 5] rfl ?_
            exact t_X10_isOther_b52 X hk6 σ x1 x2 x3 x5 h
        · refine r_sub (lv' := [(0, .ref (ad 0)), (1, .int x1), (2, .int x2), (3, .int x3), (5, .int x5)]) [0, 1, 2, 3, 5] rfl ?_
          exact t_X10_isOther_b52 X hk6 σ x1 x2 x3 x5 h
    · refine r_sub (lv' := [(0, .ref (ad 0)), (1, .int x1), (2, .int x2), (3, .int x3), (5, .int x5)]) [0, 1, 2, 3, 5] rfl ?_
      exact t_X10_isOther_b48 X hk6 σ x1 x2 x3 x5 h
theorem t_X10_isOther_l6 {M : am_M} {D : va_G} {cT : Nat → ClassId} {ad : Nat → Nat} (X : am_X M (D, cT, ad, NM, LM) cX10_isOther RX10 6 (some .boolean)) {z : Int32 × Sg} (n : Nat) : ∀ (σ : Sg) (x1 : Int32) (x2 : Int32) (x3 : Int32) (x4 : Int32) (x5 : Int32), f_X10_isOther_l6 n σ x1 x2 x3 x4 x5 = some z → am_At M { frames := 0, cells := 0, slots := 0, locals := 0 } (D, cT, ad, NM, LM) (amQi M (D, cT, ad, NM, LM) z) 6 6 [(0, .ref (ad 0)), (1, .int x1), (2, .int x2), (3, .int x3), (4, .int x4), (5, .int x5)] [] σ := by
  induction n with
  | zero =>
    intro σ x1 x2 x3 x4 x5 h
    have h2 : (none : Option (Int32 × Sg)) = some z := h
    cases h2
  | succ n ih =>
    intro σ x1 x2 x3 x4 x5 h
    exact t_X10_isOther_b6 X (k6 := f_X10_isOther_l6 n) ih σ x1 x2 x3 x4 x5 h
set_option maxRecDepth 100000 in
set_option maxHeartbeats 4000000 in
theorem c_X10_isOther (l : Launch) {σ : Sg} {a1 : Int32} {a2 : Int32} {a3 : Int32} {z : Int32 × Sg} (h : f_X10_isOther σ a1 a2 a3 = some z) : am_Met l yX10_isOther cX10_isOther 6 (some .boolean) { frames := 0, cells := 0, slots := 0, locals := 0 } NM LM (fun ad => [.ref (ad 0), .int a1, .int a2, .int a3]) σ z.2 (fun _ => some (.int z.1)) := by
  refine am_enter (by decide +kernel) (fun ad => Nat.le_of_ble_eq_true rfl) (fun M D cT ad hl X => ?_)
  subst hl
  refine r_lv (lv' := [(0, .ref (ad 0)), (1, .int a1), (2, .int a2), (3, .int a3)]) rfl ?_
  unfold f_X10_isOther at h
  refine r_iconst (v := 0) X dX10_isOther_0 (by decide) ?_
  refine r_istore X [(4, .int (0 : Int32)), (0, .ref (ad 0)), (1, .int a1), (2, .int a2), (3, .int a3)] dX10_isOther_1 (by decide) rfl ?_
  refine r_iconst (v := 0) X dX10_isOther_3 (by decide) ?_
  refine r_istore X [(5, .int (0 : Int32)), (4, .int (0 : Int32)), (0, .ref (ad 0)), (1, .int a1), (2, .int a2), (3, .int a3)] dX10_isOther_4 (by decide) rfl ?_
  refine r_sub (lv' := [(0, .ref (ad 0)), (1, .int a1), (2, .int a2), (3, .int a3), (4, .int (0 : Int32)), (5, .int (0 : Int32))]) [2, 3, 4, 5, 1, 0] rfl ?_
  exact t_X10_isOther_l6 X 300 σ a1 a2 a3 (0 : Int32) (0 : Int32) h
set_option maxRecDepth 100000 in
set_option maxHeartbeats 4000000 in
theorem t_X10_lieOf_b143 {M : am_M} {D : va_G} {cT : Nat → ClassId} {ad : Nat → Nat} (X : am_X M (D, cT, ad, NM, LM) cX10_lieOf RX10 10 (some .int)) {z : Int32 × Sg} {k28 : Sg → Int32 → Int32 → Int32 → Int32 → Int32 → Int32 → Int32 → Option (Int32 × Sg)} (hk28 : ∀ (σ : Sg) (x1 : Int32) (x2 : Int32) (x3 : Int32) (x4 : Int32) (x5 : Int32) (x6 : Int32) (x7 : Int32), k28 σ x1 x2 x3 x4 x5 x6 x7 = some z → am_At M { frames := 7, cells := 0, slots := 0, locals := 159 } (D, cT, ad, NM, LM) (amQi M (D, cT, ad, NM, LM) z) 10 28 [(0, .ref (ad 0)), (1, .int x1), (2, .int x2), (3, .int x3), (4, .int x4), (5, .int x5), (6, .int x6), (7, .int x7)] [] σ) (σ : Sg) (x1 : Int32) (x2 : Int32) (x3 : Int32) (x4 : Int32) (x5 : Int32) (x6 : Int32) (x7 : Int32) (h : f_X10_lieOf_b143 k28 σ x1 x2 x3 x4 x5 x6 x7 = some z) : am_At M { frames := 7, cells := 0, slots := 0, locals := 159 } (D, cT, ad, NM, LM) (amQi M (D, cT, ad, NM, LM) z) 10 143 [(0, .ref (ad 0)), (1, .int x1), (2, .int x2), (3, .int x3), (4, .int x4), (5, .int x5), (6, .int x6), (7, .int x7)] [] σ := by
  unfold f_X10_lieOf_b143 at h
  refine r_iinc X [(7, .int (x7 + (1 : Int32))), (0, .ref (ad 0)), (1, .int x1), (2, .int x2), (3, .int x3), (4, .int x4), (5, .int x5), (6, .int x6)] dX10_lieOf_143 7 rfl (v := x7 + (1 : Int32)) (by rfl) (by decide) rfl ?_
  refine r_letv h (fun v1 h => ?_)
  refine r_goto X 28 dX10_lieOf_146 (by decide) ?_
  refine r_sub (lv' := [(0, .ref (ad 0)), (1, .int x1), (2, .int x2), (3, .int x3), (4, .int x4), (5, .int x5), (6, .int x6), (7, .int v1)]) [1, 2, 3, 4, 5, 6, 7, 0] rfl ?_
  exact hk28 σ x1 x2 x3 x4 x5 x6 v1 h
set_option maxRecDepth 100000 in
set_option maxHeartbeats 4000000 in
theorem t_X10_lieOf_b141 {M : am_M} {D : va_G} {cT : Nat → ClassId} {ad : Nat → Nat} (X : am_X M (D, cT, ad, NM, LM) cX10_lieOf RX10 10 (some .int)) {z : Int32 × Sg} {k28 : Sg → Int32 → Int32 → Int32 → Int32 → Int32 → Int32 → Int32 → Option (Int32 × Sg)} (hk28 : ∀ (σ : Sg) (x1 : Int32) (x2 : Int32) (x3 : Int32) (x4 : Int32) (x5 : Int32) (x6 : Int32) (x7 : Int32), k28 σ x1 x2 x3 x4 x5 x6 x7 = some z → am_At M { frames := 7, cells := 0, slots := 0, locals := 159 } (D, cT, ad, NM, LM) (amQi M (D, cT, ad, NM, LM) z) 10 28 [(0, .ref (ad 0)), (1, .int x1), (2, .int x2), (3, .int x3), (4, .int x4), (5, .int x5), (6, .int x6), (7, .int x7)] [] σ) (σ : Sg) (x1 : Int32) (x2 : Int32) (x3 : Int32) (x4 : Int32) (x5 : Int32) (x7 : Int32) (s0 : Int32) (h : f_X10_lieOf_b141 k28 σ x1 x2 x3 x4 x5 x7 s0 = some z) : am_At M { frames := 7, cells := 0, slots := 0, locals := 159 } (D, cT, ad, NM, LM) (amQi M (D, cT, ad, NM, LM) z) 10 141 [(0, .ref (ad 0)), (1, .int x1), (2, .int x2), (3, .int x3), (4, .int x4), (5, .int x5), (7, .int x7)] [.int s0] σ := by
  unfold f_X10_lieOf_b141 at h
  refine r_istore X [(6, .int s0), (0, .ref (ad 0)), (1, .int x1), (2, .int x2), (3, .int x3), (4, .int x4), (5, .int x5), (7, .int x7)] dX10_lieOf_141 (by decide) rfl ?_
  refine r_sub (lv' := [(0, .ref (ad 0)), (1, .int x1), (2, .int x2), (3, .int x3), (4, .int x4), (5, .int x5), (6, .int s0), (7, .int x7)]) [1, 2, 3, 4, 5, 6, 0, 7] rfl ?_
  exact t_X10_lieOf_b143 X hk28 σ x1 x2 x3 x4 x5 s0 x7 h
set_option maxRecDepth 100000 in
set_option maxHeartbeats 4000000 in
theorem t_X10_lieOf_b127 {M : am_M} {D : va_G} {cT : Nat → ClassId} {ad : Nat → Nat} (X : am_X M (D, cT, ad, NM, LM) cX10_lieOf RX10 10 (some .int)) {z : Int32 × Sg} {k28 : Sg → Int32 → Int32 → Int32 → Int32 → Int32 → Int32 → Int32 → Option (Int32 × Sg)} (hk28 : ∀ (σ : Sg) (x1 : Int32) (x2 : Int32) (x3 : Int32) (x4 : Int32) (x5 : Int32) (x6 : Int32) (x7 : Int32), k28 σ x1 x2 x3 x4 x5 x6 x7 = some z → am_At M { frames := 7, cells := 0, slots := 0, locals := 159 } (D, cT, ad, NM, LM) (amQi M (D, cT, ad, NM, LM) z) 10 28 [(0, .ref (ad 0)), (1, .int x1), (2, .int x2), (3, .int x3), (4, .int x4), (5, .int x5), (6, .int x6), (7, .int x7)] [] σ) (σ : Sg) (x1 : Int32) (x2 : Int32) (x3 : Int32) (x4 : Int32) (x6 : Int32) (x7 : Int32) (x8 : Int32) (x9 : Int32) (s0 : Int32) (h : f_X10_lieOf_b127 k28 σ x1 x2 x3 x4 x6 x7 x8 x9 s0 = some z) : am_At M { frames := 7, cells := 0, slots := 0, locals := 159 } (D, cT, ad, NM, LM) (amQi M (D, cT, ad, NM, LM) z) 10 127 [(0, .ref (ad 0)), (1, .int x1), (2, .int x2), (3, .int x3), (4, .int x4), (6, .int x6), (7, .int x7), (8, .int x8), (9, .int x9)] [.int s0] σ := by
  unfold f_X10_lieOf_b127 at h
  refine r_istore X [(5, .int s0), (0, .ref (ad 0)), (1, .int x1), (2, .int x2), (3, .int x3), (4, .int x4), (6, .int x6), (7, .int x7), (8, .int x8), (9, .int x9)] dX10_lieOf_127 (by decide) rfl ?_
  refine r_iload X dX10_lieOf_129 9 rfl ?_
  refine r_if_eq X 139 dX10_lieOf_131 (by decide) h (fun h => ?_) (fun h => ?_)
  · refine r_iload X dX10_lieOf_139 6 rfl ?_
    refine r_sub (lv' := [(0, .ref (ad 0)), (1, .int x1), (2, .int x2), (3, .int x3), (4, .int x4), (5, .int s0), (7, .int x7)]) [1, 2, 3, 4, 5, 0, 7] rfl ?_
    exact t_X10_lieOf_b141 X hk28 σ x1 x2 x3 x4 s0 x7 x6 h
  · refine r_iload X dX10_lieOf_134 8 rfl ?_
    refine r_goto X 141 dX10_lieOf_136 (by decide) ?_
    refine r_sub (lv' := [(0, .ref (ad 0)), (1, .int x1), (2, .int x2), (3, .int x3), (4, .int x4), (5, .int s0), (7, .int x7)]) [1, 2, 3, 4, 5, 0, 7] rfl ?_
    exact t_X10_lieOf_b141 X hk28 σ x1 x2 x3 x4 s0 x7 x8 h
set_option maxRecDepth 100000 in
set_option maxHeartbeats 4000000 in
theorem t_X10_lieOf_b113 {M : am_M} {D : va_G} {cT : Nat → ClassId} {ad : Nat → Nat} (X : am_X M (D, cT, ad, NM, LM) cX10_lieOf RX10 10 (some .int)) {z : Int32 × Sg} {k28 : Sg → Int32 → Int32 → Int32 → Int32 → Int32 → Int32 → Int32 → Option (Int32 × Sg)} (hk28 : ∀ (σ : Sg) (x1 : Int32) (x2 : Int32) (x3 : Int32) (x4 : Int32) (x5 : Int32) (x6 : Int32) (x7 : Int32), k28 σ x1 x2 x3 x4 x5 x6 x7 = some z → am_At M { frames := 7, cells := 0, slots := 0, locals := 159 } (D, cT, ad, NM, LM) (amQi M (D, cT, ad, NM, LM) z) 10 28 [(0, .ref (ad 0)), (1, .int x1), (2, .int x2), (3, .int x3), (4, .int x4), (5, .int x5), (6, .int x6), (7, .int x7)] [] σ) (σ : Sg) (x1 : Int32) (x2 : Int32) (x3 : Int32) (x4 : Int32) (x5 : Int32) (x6 : Int32) (x7 : Int32) (x8 : Int32) (s0 : Int32) (h : f_X10_lieOf_b113 k28 σ x1 x2 x3 x4 x5 x6 x7 x8 s0 = some z) : am_At M { frames := 7, cells := 0, slots := 0, locals := 159 } (D, cT, ad, NM, LM) (amQi M (D, cT, ad, NM, LM) z) 10 113 [(0, .ref (ad 0)), (1, .int x1), (2, .int x2), (3, .int x3), (4, .int x4), (5, .int x5), (6, .int x6), (7, .int x7), (8, .int x8)] [.int s0] σ := by
  unfold f_X10_lieOf_b113 at h
  refine r_istore X [(9, .int s0), (0, .ref (ad 0)), (1, .int x1), (2, .int x2), (3, .int x3), (4, .int x4), (5, .int x5), (6, .int x6), (7, .int x7), (8, .int x8)] dX10_lieOf_113 (by decide) rfl ?_
  refine r_iload X dX10_lieOf_115 0 rfl ?_
  refine r_if_eq X 125 dX10_lieOf_117 (by decide) h (fun h => ?_) (fun h => ?_)
  · refine r_iload X dX10_lieOf_125 6 rfl ?_
    refine r_sub (lv' := [(0, .ref (ad 0)), (1, .int x1), (2, .int x2), (3, .int x3), (4, .int x4), (6, .int x6), (7, .int x7), (8, .int x8), (9, .int s0)]) [1, 2, 3, 4, 5, 7, 8, 9, 0] rfl ?_
    exact t_X10_lieOf_b127 X hk28 σ x1 x2 x3 x4 x6 x7 x8 s0 x5 h
  · refine r_iload X dX10_lieOf_120 8 rfl ?_
    refine r_goto X 127 dX10_lieOf_122 (by decide) ?_
    refine r_sub (lv' := [(0, .ref (ad 0)), (1, .int x1), (2, .int x2), (3, .int x3), (4, .int x4), (6, .int x6), (7, .int x7), (8, .int x8), (9, .int s0)]) [1, 2, 3, 4, 5, 7, 8, 9, 0] rfl ?_
    exact t_X10_lieOf_b127 X hk28 σ x1 x2 x3 x4 x6 x7 x8 s0 x7 h
set_option maxRecDepth 100000 in
set_option maxHeartbeats 4000000 in
theorem t_X10_lieOf_b108 {M : am_M} {D : va_G} {cT : Nat → ClassId} {ad : Nat → Nat} (X : am_X M (D, cT, ad, NM, LM) cX10_lieOf RX10 10 (some .int)) {z : Int32 × Sg} {k28 : Sg → Int32 → Int32 → Int32 → Int32 → Int32 → Int32 → Int32 → Option (Int32 × Sg)} (hk28 : ∀ (σ : Sg) (x1 : Int32) (x2 : Int32) (x3 : Int32) (x4 : Int32) (x5 : Int32) (x6 : Int32) (x7 : Int32), k28 σ x1 x2 x3 x4 x5 x6 x7 = some z → am_At M { frames := 7, cells := 0, slots := 0, locals := 159 } (D, cT, ad, NM, LM) (amQi M (D, cT, ad, NM, LM) z) 10 28 [(0, .ref (ad 0)), (1, .int x1), (2, .int x2), (3, .int x3), (4, .int x4), (5, .int x5), (6, .int x6), (7, .int x7)] [] σ) (σ : Sg) (x1 : Int32) (x2 : Int32) (x3 : Int32) (x4 : Int32) (x5 : Int32) (x6 : Int32) (x7 : Int32) (x8 : Int32) (h : f_X10_lieOf_b108 k28 σ x1 x2 x3 x4 x5 x6 x7 x8 = some z) : am_At M { frames := 7, cells := 0, slots := 0, locals := 159 } (D, cT, ad, NM, LM) (amQi M (D, cT, ad, NM, LM) z) 10 108 [(0, .ref (ad 0)), (1, .int x1), (2, .int x2), (3, .int x3), (4, .int x4), (5, .int x5), (6, .int x6), (7, .int x7), (8, .int x8)] [] σ := by
  unfold f_X10_lieOf_b108 at h
  refine r_iconst (v := 1) X dX10_lieOf_108 (by decide) ?_
  refine r_goto X 113 dX10_lieOf_109 (by decide) ?_
  exact t_X10_lieOf_b113 X hk28 σ x1 x2 x3 x4 x5 x6 x7 x8 (1 : Int32) h
set_option maxRecDepth 100000 in
set_option maxHeartbeats 4000000 in
theorem t_X10_lieOf_b112 {M : am_M} {D : va_G} {cT : Nat → ClassId} {ad : Nat → Nat} (X : am_X M (D, cT, ad, NM, LM) cX10_lieOf RX10 10 (some .int)) {z : Int32 × Sg} {k28 : Sg → Int32 → Int32 → Int32 → Int32 → Int32 → Int32 → Int32 → Option (Int32 × Sg)} (hk28 : ∀ (σ : Sg) (x1 : Int32) (x2 : Int32) (x3 : Int32) (x4 : Int32) (x5 : Int32) (x6 : Int32) (x7 : Int32), k28 σ x1 x2 x3 x4 x5 x6 x7 = some z → am_At M { frames := 7, cells := 0, slots := 0, locals := 159 } (D, cT, ad, NM, LM) (amQi M (D, cT, ad, NM, LM) z) 10 28 [(0, .ref (ad 0)), (1, .int x1), (2, .int x2), (3, .int x3), (4, .int x4), (5, .int x5), (6, .int x6), (7, .int x7)] [] σ) (σ : Sg) (x1 : Int32) (x2 : Int32) (x3 : Int32) (x4 : Int32) (x5 : Int32) (x6 : Int32) (x7 : Int32) (x8 : Int32) (h : f_X10_lieOf_b112 k28 σ x1 x2 x3 x4 x5 x6 x7 x8 = some z) : am_At M { frames := 7, cells := 0, slots := 0, locals := 159 } (D, cT, ad, NM, LM) (amQi M (D, cT, ad, NM, LM) z) 10 112 [(0, .ref (ad 0)), (1, .int x1), (2, .int x2), (3, .int x3), (4, .int x4), (5, .int x5), (6, .int x6), (7, .int x7), (8, .int x8)] [] σ := by
  unfold f_X10_lieOf_b112 at h
  refine r_iconst (v := 0) X dX10_lieOf_112 (by decide) ?_
  exact t_X10_lieOf_b113 X hk28 σ x1 x2 x3 x4 x5 x6 x7 x8 (0 : Int32) h
set_option maxRecDepth 100000 in
set_option maxHeartbeats 4000000 in
theorem t_X10_lieOf_b28 {M : am_M} {D : va_G} {cT : Nat → ClassId} {ad : Nat → Nat} (X : am_X M (D, cT, ad, NM, LM) cX10_lieOf RX10 10 (some .int)) {z : Int32 × Sg} {k28 : Sg → Int32 → Int32 → Int32 → Int32 → Int32 → Int32 → Int32 → Option (Int32 × Sg)} (hk28 : ∀ (σ : Sg) (x1 : Int32) (x2 : Int32) (x3 : Int32) (x4 : Int32) (x5 : Int32) (x6 : Int32) (x7 : Int32), k28 σ x1 x2 x3 x4 x5 x6 x7 = some z → am_At M { frames := 7, cells := 0, slots := 0, locals := 159 } (D, cT, ad, NM, LM) (amQi M (D, cT, ad, NM, LM) z) 10 28 [(0, .ref (ad 0)), (1, .int x1), (2, .int x2), (3, .int x3), (4, .int x4), (5, .int x5), (6, .int x6), (7, .int x7)] [] σ) (σ : Sg) (x1 : Int32) (x2 : Int32) (x3 : Int32) (x4 : Int32) (x5 : Int32) (x6 : Int32) (x7 : Int32) (h : f_X10_lieOf_b28 k28 σ x1 x2 x3 x4 x5 x6 x7 = some z) : am_At M { frames := 7, cells := 0, slots := 0, locals := 159 } (D, cT, ad, NM, LM) (amQi M (D, cT, ad, NM, LM) z) 10 28 [(0, .ref (ad 0)), (1, .int x1), (2, .int x2), (3, .int x3), (4, .int x4), (5, .int x5), (6, .int x6), (7, .int x7)] [] σ := by
  unfold f_X10_lieOf_b28 at h
  refine r_iload X dX10_lieOf_28 7 rfl ?_
  refine r_bipush (v := 36) X dX10_lieOf_30 (by decide) ?_
  refine r_icmp_ge X 149 dX10_lieOf_32 (by decide) h (fun h => ?_) (fun h => ?_)
  · refine r_aload_n X dX10_lieOf_149 rfl 0 rfl ?_
    refine r_getR (c1 := 4) X fg_X10_19_X10 fM_0 rfl dX10_lieOf_150 ?_
    refine r_iload_n X dX10_lieOf_153 rfl 1 rfl ?_
    refine r_iload_n X dX10_lieOf_154 rfl 3 rfl ?_
    refine r_iast X fM_4 dX10_lieOf_155 h (fun σ1 h => ?_)
    refine r_aload_n X dX10_lieOf_156 rfl 0 rfl ?_
    refine r_getR (c1 := 5) X fg_X10_22_X10 fM_0 rfl dX10_lieOf_157 ?_
    refine r_iload_n X dX10_lieOf_160 rfl 1 rfl ?_
    refine r_iload X dX10_lieOf_161 4 rfl ?_
    refine r_iast X fM_5 dX10_lieOf_163 h (fun σ2 h => ?_)
    refine r_iload X dX10_lieOf_164 5 rfl ?_
    refine r_iconst (v := -1) X dX10_lieOf_166 (by decide) ?_
    refine r_icmp_ne X 174 dX10_lieOf_167 (by decide) h (fun h => ?_) (fun h => ?_)
    · refine r_iconst (v := -1) X dX10_lieOf_170 (by decide) ?_
      refine r_goto X 201 dX10_lieOf_171 (by decide) ?_
      exact r_iretz X rfl dX10_lieOf_201 h
    · refine r_iload_n X dX10_lieOf_174 rfl 2 rfl ?_
      refine r_if_ne X 186 dX10_lieOf_175 (by decide) h (fun h => ?_) (fun h => ?_)
      · refine r_iload X dX10_lieOf_178 5 rfl ?_
        refine r_bipush (v := 6) X dX10_lieOf_180 (by decide) ?_
        refine r_idiv0 X dX10_lieOf_182 (by decide) ?_
        refine r_goto X 201 dX10_lieOf_183 (by decide) ?_
        exact r_iretz X rfl dX10_lieOf_201 h
      · refine r_iload_n X dX10_lieOf_186 rfl 2 rfl ?_
        refine r_iconst (v := 1) X dX10_lieOf_187 (by decide) ?_
        refine r_icmp_ne X 199 dX10_lieOf_188 (by decide) h (fun h => ?_) (fun h => ?_)
        · refine r_iload X dX10_lieOf_191 5 rfl ?_
          refine r_bipush (v := 6) X dX10_lieOf_193 (by decide) ?_
          refine r_irem0 X dX10_lieOf_195 (by decide) ?_
          refine r_goto X 201 dX10_lieOf_196 (by decide) ?_
          exact r_iretz X rfl dX10_lieOf_201 h
        · refine r_iload X dX10_lieOf_199 6 rfl ?_
          exact r_iretz X rfl dX10_lieOf_201 h
  · refine r_aload_n X dX10_lieOf_35 rfl 0 rfl ?_
    refine r_iload_n X dX10_lieOf_36 rfl 1 rfl ?_
    refine r_iload X dX10_lieOf_37 7 rfl ?_
    refine r_bipush (v := 6) X dX10_lieOf_39 (by decide) ?_
    refine r_idiv0 X dX10_lieOf_41 (by decide) ?_
    refine r_iload X dX10_lieOf_42 7 rfl ?_
    refine r_bipush (v := 6) X dX10_lieOf_44 (by decide) ?_
    refine r_irem0 X dX10_lieOf_46 (by decide) ?_
    obtain ⟨r3, σ4, hc_13, h⟩ := bnd_of h
    refine r_callV (As := [.int x1, .int (x7 / (6 : Int32)), .int (x7 - x7 / (6 : Int32) * (6 : Int32))]) (rest := []) (st2 := [.int r3]) (c := 0) X cv_X10_281 (c_X10_isOther M.2.1 hc_13) rfl (ci := 9) rfl fM_0 rfl rfl (Nat.le_of_ble_eq_true rfl) ⟨⟨rfl, rfl⟩, by decide, by decide⟩ dX10_lieOf_47 ⟨rfl, rfl⟩ rfl ?_
    refine r_if_ne X 143 dX10_lieOf_50 (by decide) h (fun h => ?_) (fun h => ?_)
    · refine r_aload_n X dX10_lieOf_53 rfl 0 rfl ?_
      refine r_getR (c1 := 4) X fg_X10_19_X10 fM_0 rfl dX10_lieOf_54 ?_
      refine r_iload_n X dX10_lieOf_57 rfl 1 rfl ?_
      refine r_iload X dX10_lieOf_58 7 rfl ?_
      refine r_bipush (v := 6) X dX10_lieOf_60 (by decide) ?_
      refine r_idiv0 X dX10_lieOf_62 (by decide) ?_
      refine r_iast X fM_4 dX10_lieOf_63 h (fun σ5 h => ?_)
      refine r_aload_n X dX10_lieOf_64 rfl 0 rfl ?_
      refine r_getR (c1 := 5) X fg_X10_22_X10 fM_0 rfl dX10_lieOf_65 ?_
      refine r_iload_n X dX10_lieOf_68 rfl 1 rfl ?_
      refine r_iload X dX10_lieOf_69 7 rfl ?_
      refine r_bipush (v := 6) X dX10_lieOf_71 (by decide) ?_
      refine r_irem0 X dX10_lieOf_73 (by decide) ?_
      refine r_iast X fM_5 dX10_lieOf_74 h (fun σ6 h => ?_)
      refine r_aload_n X dX10_lieOf_75 rfl 0 rfl ?_
      obtain ⟨r7, σ8, hc_12, h⟩ := bnd_of h
      refine r_callV (As := []) (rest := []) (st2 := []) (c := 0) X cv_X10_232 (c_X10_runs M.2.1 hc_12) rfl (ci := 9) rfl fM_0 rfl rfl (Nat.le_of_ble_eq_true rfl) ⟨⟨rfl, rfl⟩, by decide, by decide⟩ dX10_lieOf_76 ⟨rfl, rfl⟩ rfl ?_
      refine r_aload_n X dX10_lieOf_79 rfl 0 rfl ?_
      refine r_iload_n X dX10_lieOf_80 rfl 1 rfl ?_
      obtain ⟨r9, σ10, hc_11, h⟩ := bnd_of h
      refine r_callV (As := [.int x1]) (rest := []) (st2 := [.int r9]) (c := 0) X cv_X10_253 (c_X10_stoodNow M.2.1 hc_11) rfl (ci := 9) rfl fM_0 rfl rfl (Nat.le_of_ble_eq_true rfl) ⟨⟨rfl, rfl⟩, by decide, by decide⟩ dX10_lieOf_81 ⟨rfl, rfl⟩ rfl ?_
      refine r_istore X [(8, .int r9), (0, .ref (ad 0)), (1, .int x1), (2, .int x2), (3, .int x3), (4, .int x4), (5, .int x5), (6, .int x6), (7, .int x7)] dX10_lieOf_84 (by decide) rfl ?_
      refine r_aload_n X dX10_lieOf_86 rfl 1 rfl ?_
      refine r_getR (c1 := 16) X fg_X10_55_X10 fM_0 rfl dX10_lieOf_87 ?_
      refine r_iload_n X dX10_lieOf_90 rfl 2 rfl ?_
      refine r_iald X fM_16 dX10_lieOf_91 h (fun h => ?_)
      refine r_if_le X 112 dX10_lieOf_92 (by decide) h (fun h => ?_) (fun h => ?_)
      · refine r_sub (lv' := [(0, .ref (ad 0)), (1, .int x1), (2, .int x2), (3, .int x3), (4, .int x4), (5, .int x5), (6, .int x6), (7, .int x7), (8, .int r9)]) [1, 2, 3, 4, 5, 6, 7, 8, 0] rfl ?_
        exact t_X10_lieOf_b112 X hk28 σ10 x1 x2 x3 x4 x5 x6 x7 r9 h
      · refine r_iload X dX10_lieOf_95 6 rfl ?_
        refine r_iconst (v := -1) X dX10_lieOf_97 (by decide) ?_
        refine r_icmp_eq X 108 dX10_lieOf_98 (by decide) h (fun h => ?_) (fun h => ?_)
        · refine r_sub (lv' := [(0, .ref (ad 0)), (1, .int x1), (2, .int x2), (3, .int x3), (4, .int x4), (5, .int x5), (6, .int x6), (7, .int x7), (8, .int r9)]) [1, 2, 3, 4, 5, 6, 7, 8, 0] rfl ?_
          exact t_X10_lieOf_b108 X hk28 σ10 x1 x2 x3 x4 x5 x6 x7 r9 h
        · refine r_iload X dX10_lieOf_101 0 rfl ?_
          refine r_iload X dX10_lieOf_103 7 rfl ?_
          refine r_icmp_ge X 112 dX10_lieOf_105 (by decide) h (fun h => ?_) (fun h => ?_)
          · refine r_sub (lv' := [(0, .ref (ad 0)), (1, .int x1), (2, .int x2), (3, .int x3), (4, .int x4), (5, .int x5), (6, .int x6), (7, .int x7), (8, .int r9)]) [1, 2, 3, 4, 5, 6, 7, 8, 0] rfl ?_
            exact t_X10_lieOf_b112 X hk28 σ10 x1 x2 x3 x4 x5 x6 x7 r9 h
          · refine r_sub (lv' := [(0, .ref (ad 0)), (1, .int x1), (2, .int x2), (3, .int x3), (4, .int x4), (5, .int x5), (6, .int x6), (7, .int x7), (8, .int r9)]) [1, 2, 3, 4, 5, 6, 7, 8, 0] rfl ?_
            exact t_X10_lieOf_b108 X hk28 σ10 x1 x2 x3 x4 x5 x6 x7 r9 h
    · exact t_X10_lieOf_b143 X hk28 σ4 x1 x2 x3 x4 x5 x6 x7 h
theorem t_X10_lieOf_l28 {M : am_M} {D : va_G} {cT : Nat → ClassId} {ad : Nat → Nat} (X : am_X M (D, cT, ad, NM, LM) cX10_lieOf RX10 10 (some .int)) {z : Int32 × Sg} (n : Nat) : ∀ (σ : Sg) (x1 : Int32) (x2 : Int32) (x3 : Int32) (x4 : Int32) (x5 : Int32) (x6 : Int32) (x7 : Int32), f_X10_lieOf_l28 n σ x1 x2 x3 x4 x5 x6 x7 = some z → am_At M { frames := 7, cells := 0, slots := 0, locals := 159 } (D, cT, ad, NM, LM) (amQi M (D, cT, ad, NM, LM) z) 10 28 [(0, .ref (ad 0)), (1, .int x1), (2, .int x2), (3, .int x3), (4, .int x4), (5, .int x5), (6, .int x6), (7, .int x7)] [] σ := by
  induction n with
  | zero =>
    intro σ x1 x2 x3 x4 x5 x6 x7 h
    have h2 : (none : Option (Int32 × Sg)) = some z := h
    cases h2
  | succ n ih =>
    intro σ x1 x2 x3 x4 x5 x6 x7 h
    exact t_X10_lieOf_b28 X (k28 := f_X10_lieOf_l28 n) ih σ x1 x2 x3 x4 x5 x6 x7 h
set_option maxRecDepth 100000 in
set_option maxHeartbeats 4000000 in
theorem c_X10_lieOf (l : Launch) {σ : Sg} {a1 : Int32} {a2 : Int32} {z : Int32 × Sg} (h : f_X10_lieOf σ a1 a2 = some z) : am_Met l yX10_lieOf cX10_lieOf 10 (some .int) { frames := 7, cells := 0, slots := 0, locals := 159 } NM LM (fun ad => [.ref (ad 0), .int a1, .int a2]) σ z.2 (fun _ => some (.int z.1)) := by
  refine am_enter (by decide +kernel) (fun ad => Nat.le_of_ble_eq_true rfl) (fun M D cT ad hl X => ?_)
  subst hl
  refine r_lv (lv' := [(0, .ref (ad 0)), (1, .int a1), (2, .int a2)]) rfl ?_
  unfold f_X10_lieOf at h
  refine r_aload_n X dX10_lieOf_0 rfl 0 rfl ?_
  obtain ⟨r1, σ2, hc_5, h⟩ := bnd_of h
  refine r_callV (As := []) (rest := []) (st2 := []) (c := 0) X cv_X10_229 (c_X10_asTold M.2.1 hc_5) rfl (ci := 9) rfl fM_0 rfl rfl (Nat.le_of_ble_eq_true rfl) ⟨⟨rfl, rfl⟩, by decide, by decide⟩ dX10_lieOf_1 ⟨rfl, rfl⟩ rfl ?_
  refine r_aload_n X dX10_lieOf_4 rfl 0 rfl ?_
  refine r_getR (c1 := 4) X fg_X10_19_X10 fM_0 rfl dX10_lieOf_5 ?_
  refine r_iload_n X dX10_lieOf_8 rfl 1 rfl ?_
  refine r_iald X fM_4 dX10_lieOf_9 h (fun h => ?_)
  refine r_leti h (fun v3 h => ?_)
  refine r_istore_n X [(3, .int v3), (0, .ref (ad 0)), (1, .int a1), (2, .int a2)] dX10_lieOf_10 rfl (by decide) rfl ?_
  refine r_aload_n X dX10_lieOf_11 rfl 1 rfl ?_
  refine r_getR (c1 := 5) X fg_X10_22_X10 fM_0 rfl dX10_lieOf_12 ?_
  refine r_iload_n X dX10_lieOf_15 rfl 2 rfl ?_
  refine r_iald X fM_5 dX10_lieOf_16 h (fun h => ?_)
  refine r_leti h (fun v4 h => ?_)
  refine r_istore X [(4, .int v4), (3, .int v3), (0, .ref (ad 0)), (1, .int a1), (2, .int a2)] dX10_lieOf_17 (by decide) rfl ?_
  refine r_iconst (v := -1) X dX10_lieOf_19 (by decide) ?_
  refine r_istore X [(5, .int (-1 : Int32)), (4, .int v4), (3, .int v3), (0, .ref (ad 0)), (1, .int a1), (2, .int a2)] dX10_lieOf_20 (by decide) rfl ?_
  refine r_iconst (v := 0) X dX10_lieOf_22 (by decide) ?_
  refine r_istore X [(6, .int (0 : Int32)), (5, .int (-1 : Int32)), (4, .int v4), (3, .int v3), (0, .ref (ad 0)), (1, .int a1), (2, .int a2)] dX10_lieOf_23 (by decide) rfl ?_
  refine r_iconst (v := 0) X dX10_lieOf_25 (by decide) ?_
  refine r_istore X [(7, .int (0 : Int32)), (6, .int (0 : Int32)), (5, .int (-1 : Int32)), (4, .int v4), (3, .int v3), (0, .ref (ad 0)), (1, .int a1), (2, .int a2)] dX10_lieOf_26 (by decide) rfl ?_
  refine r_sub (lv' := [(0, .ref (ad 0)), (1, .int a1), (2, .int a2), (3, .int v3), (4, .int v4), (5, .int (-1 : Int32)), (6, .int (0 : Int32)), (7, .int (0 : Int32))]) [5, 6, 7, 4, 3, 2, 1, 0] rfl ?_
  exact t_X10_lieOf_l28 X 300 σ2 a1 a2 v3 v4 (-1 : Int32) (0 : Int32) (0 : Int32) h
set_option maxRecDepth 100000 in
set_option maxHeartbeats 4000000 in
theorem c_X10_lie (l : Launch) {σ : Sg} {a1 : Int32} {a2 : Int32} {z : Int32 × Sg} (h : f_X10_lie σ a1 a2 = some z) : am_Met l yX10_lie cX10_lie 3 (some .int) { frames := 8, cells := 0, slots := 0, locals := 188 } NM LM (fun ad => [.ref (ad 0), .int a1, .int a2]) σ z.2 (fun _ => some (.int z.1)) := by
  refine am_enter (by decide +kernel) (fun ad => Nat.le_of_ble_eq_true rfl) (fun M D cT ad hl X => ?_)
  subst hl
  refine r_lv (lv' := [(0, .ref (ad 0)), (1, .int a1), (2, .int a2)]) rfl ?_
  unfold f_X10_lie at h
  refine r_aload_n X dX10_lie_0 rfl 0 rfl ?_
  refine r_iload_n X dX10_lie_1 rfl 1 rfl ?_
  obtain ⟨r1, σ2, hc_9, h⟩ := bnd_of h
  refine r_callV (As := [.int a1]) (rest := []) (st2 := [.int r1]) (c := 0) X cv_X10_153 (c_X10_isOne M.2.1 hc_9) rfl (ci := 9) rfl fM_0 rfl rfl (Nat.le_of_ble_eq_true rfl) ⟨⟨rfl, rfl⟩, by decide, by decide⟩ dX10_lie_2 ⟨rfl, rfl⟩ rfl ?_
  refine r_if_eq X 24 dX10_lie_5 (by decide) h (fun h => ?_) (fun h => ?_)
  · refine r_bipush (v := -2) X dX10_lie_24 (by decide) ?_
    exact r_iretz X rfl dX10_lie_26 h
  · refine r_iload_n X dX10_lie_8 rfl 2 rfl ?_
    obtain ⟨r3, σ4, hc_8, h⟩ := bnd_of h
    refine r_callS (As := [.int a2]) (rest := []) (st2 := [.int r3]) X cv_X10_162 (c_X10_isThree M.2.1 hc_8) rfl rfl rfl (Nat.le_of_ble_eq_true rfl) ⟨⟨rfl, rfl⟩, by decide, by decide⟩ dX10_lie_9 ⟨rfl, rfl⟩ rfl ?_
    refine r_if_eq X 24 dX10_lie_12 (by decide) h (fun h => ?_) (fun h => ?_)
    · refine r_bipush (v := -2) X dX10_lie_24 (by decide) ?_
      exact r_iretz X rfl dX10_lie_26 h
    · refine r_aload_n X dX10_lie_15 rfl 0 rfl ?_
      refine r_iload_n X dX10_lie_16 rfl 1 rfl ?_
      refine r_iload_n X dX10_lie_17 rfl 2 rfl ?_
      obtain ⟨r5, σ6, hc_7, h⟩ := bnd_of h
      refine r_callV (As := [.int a1, .int a2]) (rest := []) (st2 := [.int r5]) (c := 0) X cv_X10_284 (c_X10_lieOf M.2.1 hc_7) rfl (ci := 9) rfl fM_0 rfl rfl (Nat.le_of_ble_eq_true rfl) ⟨⟨rfl, rfl⟩, by decide, by decide⟩ dX10_lie_18 ⟨rfl, rfl⟩ rfl ?_
      refine r_goto X 26 dX10_lie_21 (by decide) ?_
      exact r_iretz X rfl dX10_lie_26 h
set_option maxRecDepth 100000 in
set_option maxHeartbeats 4000000 in
theorem t_X10_whenOf_b60 {M : am_M} {D : va_G} {cT : Nat → ClassId} {ad : Nat → Nat} (X : am_X M (D, cT, ad, NM, LM) cX10_whenOf RX10 7 (some .int)) {z : Int32 × Sg} {k12 : Sg → Int32 → Int32 → Int32 → Int32 → Int32 → Option (Int32 × Sg)} (hk12 : ∀ (σ : Sg) (x1 : Int32) (x2 : Int32) (x3 : Int32) (x4 : Int32) (x5 : Int32), k12 σ x1 x2 x3 x4 x5 = some z → am_At M { frames := 7, cells := 0, slots := 0, locals := 163 } (D, cT, ad, NM, LM) (amQi M (D, cT, ad, NM, LM) z) 7 12 [(0, .ref (ad 0)), (1, .int x1), (2, .int x2), (3, .int x3), (4, .int x4), (5, .int x5)] [] σ) (σ : Sg) (x1 : Int32) (x2 : Int32) (x3 : Int32) (x5 : Int32) (s0 : Int32) (h : f_X10_whenOf_b60 k12 σ x1 x2 x3 x5 s0 = some z) : am_At M { frames := 7, cells := 0, slots := 0, locals := 163 } (D, cT, ad, NM, LM) (amQi M (D, cT, ad, NM, LM) z) 7 60 [(0, .ref (ad 0)), (1, .int x1), (2, .int x2), (3, .int x3), (5, .int x5)] [.int s0] σ := by
  unfold f_X10_whenOf_b60 at h
  refine r_istore X [(4, .int s0), (0, .ref (ad 0)), (1, .int x1), (2, .int x2), (3, .int x3), (5, .int x5)] dX10_whenOf_60 (by decide) rfl ?_
  refine r_iinc X [(5, .int (x5 + (1 : Int32))), (4, .int s0), (0, .ref (ad 0)), (1, .int x1), (2, .int x2), (3, .int x3)] dX10_whenOf_62 5 rfl (v := x5 + (1 : Int32)) (by rfl) (by decide) rfl ?_
  refine r_letv h (fun v1 h => ?_)
  refine r_goto X 12 dX10_whenOf_65 (by decide) ?_
  refine r_sub (lv' := [(0, .ref (ad 0)), (1, .int x1), (2, .int x2), (3, .int x3), (4, .int s0), (5, .int v1)]) [2, 3, 4, 5, 1, 0] rfl ?_
  exact hk12 σ x1 x2 x3 s0 v1 h
set_option maxRecDepth 100000 in
set_option maxHeartbeats 4000000 in
theorem t_X10_whenOf_b45 {M : am_M} {D : va_G} {cT : Nat → ClassId} {ad : Nat → Nat} (X : am_X M (D, cT, ad, NM, LM) cX10_whenOf RX10 7 (some .int)) {z : Int32 × Sg} {k12 : Sg → Int32 → Int32 → Int32 → Int32 → Int32 → Option (Int32 × Sg)} (hk12 : ∀ (σ : Sg) (x1 : Int32) (x2 : Int32) (x3 : Int32) (x4 : Int32) (x5 : Int32), k12 σ x1 x2 x3 x4 x5 = some z → am_At M { frames := 7, cells := 0, slots := 0, locals := 163 } (D, cT, ad, NM, LM) (amQi M (D, cT, ad, NM, LM) z) 7 12 [(0, .ref (ad 0)), (1, .int x1), (2, .int x2), (3, .int x3), (4, .int x4), (5, .int x5)] [] σ) (σ : Sg) (x1 : Int32) (x2 : Int32) (x4 : Int32) (x5 : Int32) (x6 : Int32) (s0 : Int32) (h : f_X10_whenOf_b45 k12 σ x1 x2 x4 x5 x6 s0 = some z) : am_At M { frames := 7, cells := 0, slots := 0, locals := 163 } (D, cT, ad, NM, LM) (amQi M (D, cT, ad, NM, LM) z) 7 45 [(0, .ref (ad 0)), (1, .int x1), (2, .int x2), (4, .int x4), (5, .int x5), (6, .int x6)] [.int s0] σ := by
  unfold f_X10_whenOf_b45 at h
  refine r_istore_n X [(3, .int s0), (0, .ref (ad 0)), (1, .int x1), (2, .int x2), (4, .int x4), (5, .int x5), (6, .int x6)] dX10_whenOf_45 rfl (by decide) rfl ?_
  refine r_iload X dX10_whenOf_46 6 rfl ?_
  refine r_iload X dX10_whenOf_48 4 rfl ?_
  refine r_icmp_le X 58 dX10_whenOf_50 (by decide) h (fun h => ?_) (fun h => ?_)
  · refine r_iload X dX10_whenOf_58 4 rfl ?_
    refine r_sub (lv' := [(0, .ref (ad 0)), (1, .int x1), (2, .int x2), (3, .int s0), (5, .int x5)]) [1, 2, 3, 0, 5] rfl ?_
    exact t_X10_whenOf_b60 X hk12 σ x1 x2 s0 x5 x4 h
  · refine r_iload X dX10_whenOf_53 6 rfl ?_
    refine r_goto X 60 dX10_whenOf_55 (by decide) ?_
    refine r_sub (lv' := [(0, .ref (ad 0)), (1, .int x1), (2, .int x2), (3, .int s0), (5, .int x5)]) [1, 2, 3, 0, 5] rfl ?_
    exact t_X10_whenOf_b60 X hk12 σ x1 x2 s0 x5 x6 h
set_option maxRecDepth 100000 in
set_option maxHeartbeats 4000000 in
theorem t_X10_whenOf_b12 {M : am_M} {D : va_G} {cT : Nat → ClassId} {ad : Nat → Nat} (X : am_X M (D, cT, ad, NM, LM) cX10_whenOf RX10 7 (some .int)) {z : Int32 × Sg} {k12 : Sg → Int32 → Int32 → Int32 → Int32 → Int32 → Option (Int32 × Sg)} (hk12 : ∀ (σ : Sg) (x1 : Int32) (x2 : Int32) (x3 : Int32) (x4 : Int32) (x5 : Int32), k12 σ x1 x2 x3 x4 x5 = some z → am_At M { frames := 7, cells := 0, slots := 0, locals := 163 } (D, cT, ad, NM, LM) (amQi M (D, cT, ad, NM, LM) z) 7 12 [(0, .ref (ad 0)), (1, .int x1), (2, .int x2), (3, .int x3), (4, .int x4), (5, .int x5)] [] σ) (σ : Sg) (x1 : Int32) (x2 : Int32) (x3 : Int32) (x4 : Int32) (x5 : Int32) (h : f_X10_whenOf_b12 k12 σ x1 x2 x3 x4 x5 = some z) : am_At M { frames := 7, cells := 0, slots := 0, locals := 163 } (D, cT, ad, NM, LM) (amQi M (D, cT, ad, NM, LM) z) 7 12 [(0, .ref (ad 0)), (1, .int x1), (2, .int x2), (3, .int x3), (4, .int x4), (5, .int x5)] [] σ := by
  unfold f_X10_whenOf_b12 at h
  refine r_iload X dX10_whenOf_12 5 rfl ?_
  refine r_bipush (v := 24) X dX10_whenOf_14 (by decide) ?_
  refine r_icmp_ge X 68 dX10_whenOf_16 (by decide) h (fun h => ?_) (fun h => ?_)
  · refine r_iload_n X dX10_whenOf_68 rfl 2 rfl ?_
    refine r_if_ne X 76 dX10_whenOf_69 (by decide) h (fun h => ?_) (fun h => ?_)
    · refine r_iload_n X dX10_whenOf_72 rfl 3 rfl ?_
      refine r_goto X 78 dX10_whenOf_73 (by decide) ?_
      exact r_iretz X rfl dX10_whenOf_78 h
    · refine r_iload X dX10_whenOf_76 4 rfl ?_
      exact r_iretz X rfl dX10_whenOf_78 h
  · refine r_aload_n X dX10_whenOf_19 rfl 0 rfl ?_
    refine r_iload X dX10_whenOf_20 5 rfl ?_
    refine r_iload_n X dX10_whenOf_22 rfl 1 rfl ?_
    obtain ⟨r1, σ2, hc_6, h⟩ := bnd_of h
    refine r_callV (As := [.int x5, .int x1]) (rest := []) (st2 := []) (c := 0) X cv_X10_272 (c_X10_more M.2.1 hc_6) rfl (ci := 9) rfl fM_0 rfl rfl (Nat.le_of_ble_eq_true rfl) ⟨⟨rfl, rfl⟩, by decide, by decide⟩ dX10_whenOf_23 ⟨rfl, rfl⟩ rfl ?_
    refine r_aload_n X dX10_whenOf_26 rfl 0 rfl ?_
    obtain ⟨r3, σ4, hc_5, h⟩ := bnd_of h
    refine r_callV (As := []) (rest := []) (st2 := [.int r3]) (c := 0) X cv_X10_275 (c_X10_metNow M.2.1 hc_5) rfl (ci := 9) rfl fM_0 rfl rfl (Nat.le_of_ble_eq_true rfl) ⟨⟨rfl, rfl⟩, by decide, by decide⟩ dX10_whenOf_27 ⟨rfl, rfl⟩ rfl ?_
    refine r_istore X [(6, .int r3), (0, .ref (ad 0)), (1, .int x1), (2, .int x2), (3, .int x3), (4, .int x4), (5, .int x5)] dX10_whenOf_30 (by decide) rfl ?_
    refine r_iload X dX10_whenOf_32 0 rfl ?_
    refine r_iload X dX10_whenOf_34 5 rfl ?_
    refine r_icmp_le X 44 dX10_whenOf_36 (by decide) h (fun h => ?_) (fun h => ?_)
    · refine r_iload_n X dX10_whenOf_44 rfl 4 rfl ?_
      refine r_sub (lv' := [(0, .ref (ad 0)), (1, .int x1), (2, .int x2), (4, .int x4), (5, .int x5), (6, .int r3)]) [1, 2, 3, 5, 6, 0] rfl ?_
      exact t_X10_whenOf_b45 X hk12 σ4 x1 x2 x4 x5 r3 x3 h
    · refine r_iload X dX10_whenOf_39 6 rfl ?_
      refine r_goto X 45 dX10_whenOf_41 (by decide) ?_
      refine r_sub (lv' := [(0, .ref (ad 0)), (1, .int x1), (2, .int x2), (4, .int x4), (5, .int x5), (6, .int r3)]) [1, 2, 3, 5, 6, 0] rfl ?_
      exact t_X10_whenOf_b45 X hk12 σ4 x1 x2 x4 x5 r3 x5 h
theorem t_X10_whenOf_l12 {M : am_M} {D : va_G} {cT : Nat → ClassId} {ad : Nat → Nat} (X : am_X M (D, cT, ad, NM, LM) cX10_whenOf RX10 7 (some .int)) {z : Int32 × Sg} (n : Nat) : ∀ (σ : Sg) (x1 : Int32) (x2 : Int32) (x3 : Int32) (x4 : Int32) (x5 : Int32), f_X10_whenOf_l12 n σ x1 x2 x3 x4 x5 = some z → am_At M { frames := 7, cells := 0, slots := 0, locals := 163 } (D, cT, ad, NM, LM) (amQi M (D, cT, ad, NM, LM) z) 7 12 [(0, .ref (ad 0)), (1, .int x1), (2, .int x2), (3, .int x3), (4, .int x4), (5, .int x5)] [] σ := by
  induction n with
  | zero =>
    intro σ x1 x2 x3 x4 x5 h
    have h2 : (none : Option (Int32 × Sg)) = some z := h
    cases h2
  | succ n ih =>
    intro σ x1 x2 x3 x4 x5 h
    exact t_X10_whenOf_b12 X (k12 := f_X10_whenOf_l12 n) ih σ x1 x2 x3 x4 x5 h
set_option maxRecDepth 100000 in
set_option maxHeartbeats 4000000 in
theorem c_X10_whenOf (l : Launch) {σ : Sg} {a1 : Int32} {a2 : Int32} {z : Int32 × Sg} (h : f_X10_whenOf σ a1 a2 = some z) : am_Met l yX10_whenOf cX10_whenOf 7 (some .int) { frames := 7, cells := 0, slots := 0, locals := 163 } NM LM (fun ad => [.ref (ad 0), .int a1, .int a2]) σ z.2 (fun _ => some (.int z.1)) := by
  refine am_enter (by decide +kernel) (fun ad => Nat.le_of_ble_eq_true rfl) (fun M D cT ad hl X => ?_)
  subst hl
  refine r_lv (lv' := [(0, .ref (ad 0)), (1, .int a1), (2, .int a2)]) rfl ?_
  unfold f_X10_whenOf at h
  refine r_aload_n X dX10_whenOf_0 rfl 0 rfl ?_
  obtain ⟨r1, σ2, hc_3, h⟩ := bnd_of h
  refine r_callV (As := []) (rest := []) (st2 := []) (c := 0) X cv_X10_229 (c_X10_asTold M.2.1 hc_3) rfl (ci := 9) rfl fM_0 rfl rfl (Nat.le_of_ble_eq_true rfl) ⟨⟨rfl, rfl⟩, by decide, by decide⟩ dX10_whenOf_1 ⟨rfl, rfl⟩ rfl ?_
  refine r_iconst (v := -1) X dX10_whenOf_4 (by decide) ?_
  refine r_istore_n X [(3, .int (-1 : Int32)), (0, .ref (ad 0)), (1, .int a1), (2, .int a2)] dX10_whenOf_5 rfl (by decide) rfl ?_
  refine r_iconst (v := -1) X dX10_whenOf_6 (by decide) ?_
  refine r_istore X [(4, .int (-1 : Int32)), (3, .int (-1 : Int32)), (0, .ref (ad 0)), (1, .int a1), (2, .int a2)] dX10_whenOf_7 (by decide) rfl ?_
  refine r_iconst (v := 0) X dX10_whenOf_9 (by decide) ?_
  refine r_istore X [(5, .int (0 : Int32)), (4, .int (-1 : Int32)), (3, .int (-1 : Int32)), (0, .ref (ad 0)), (1, .int a1), (2, .int a2)] dX10_whenOf_10 (by decide) rfl ?_
  refine r_sub (lv' := [(0, .ref (ad 0)), (1, .int a1), (2, .int a2), (3, .int (-1 : Int32)), (4, .int (-1 : Int32)), (5, .int (0 : Int32))]) [3, 4, 5, 2, 1, 0] rfl ?_
  exact t_X10_whenOf_l12 X 300 σ2 a1 a2 (-1 : Int32) (-1 : Int32) (0 : Int32) h
set_option maxRecDepth 100000 in
set_option maxHeartbeats 4000000 in
theorem c_X10_when (l : Launch) {σ : Sg} {a1 : Int32} {a2 : Int32} {z : Int32 × Sg} (h : f_X10_when σ a1 a2 = some z) : am_Met l yX10_when cX10_when 3 (some .int) { frames := 8, cells := 0, slots := 0, locals := 189 } NM LM (fun ad => [.ref (ad 0), .int a1, .int a2]) σ z.2 (fun _ => some (.int z.1)) := by
  refine am_enter (by decide +kernel) (fun ad => Nat.le_of_ble_eq_true rfl) (fun M D cT ad hl X => ?_)
  subst hl
  refine r_lv (lv' := [(0, .ref (ad 0)), (1, .int a1), (2, .int a2)]) rfl ?_
  unfold f_X10_when at h
  refine r_iload_n X dX10_when_0 rfl 1 rfl ?_
  obtain ⟨r1, σ2, hc_9, h⟩ := bnd_of h
  refine r_callS (As := [.int a1]) (rest := []) (st2 := [.int r1]) X cv_X10_118 (c_X10_isSix M.2.1 hc_9) rfl rfl rfl (Nat.le_of_ble_eq_true rfl) ⟨⟨rfl, rfl⟩, by decide, by decide⟩ dX10_when_1 ⟨rfl, rfl⟩ rfl ?_
  refine r_if_eq X 23 dX10_when_4 (by decide) h (fun h => ?_) (fun h => ?_)
  · refine r_bipush (v := -2) X dX10_when_23 (by decide) ?_
    exact r_iretz X rfl dX10_when_25 h
  · refine r_iload_n X dX10_when_7 rfl 2 rfl ?_
    obtain ⟨r3, σ4, hc_8, h⟩ := bnd_of h
    refine r_callS (As := [.int a2]) (rest := []) (st2 := [.int r3]) X cv_X10_168 (c_X10_isTwo M.2.1 hc_8) rfl rfl rfl (Nat.le_of_ble_eq_true rfl) ⟨⟨rfl, rfl⟩, by decide, by decide⟩ dX10_when_8 ⟨rfl, rfl⟩ rfl ?_
    refine r_if_eq X 23 dX10_when_11 (by decide) h (fun h => ?_) (fun h => ?_)
    · refine r_bipush (v := -2) X dX10_when_23 (by decide) ?_
      exact r_iretz X rfl dX10_when_25 h
    · refine r_aload_n X dX10_when_14 rfl 0 rfl ?_
      refine r_iload_n X dX10_when_15 rfl 1 rfl ?_
      refine r_iload_n X dX10_when_16 rfl 2 rfl ?_
      obtain ⟨r5, σ6, hc_7, h⟩ := bnd_of h
      refine r_callV (As := [.int a1, .int a2]) (rest := []) (st2 := [.int r5]) (c := 0) X cv_X10_287 (c_X10_whenOf M.2.1 hc_7) rfl (ci := 9) rfl fM_0 rfl rfl (Nat.le_of_ble_eq_true rfl) ⟨⟨rfl, rfl⟩, by decide, by decide⟩ dX10_when_17 ⟨rfl, rfl⟩ rfl ?_
      refine r_goto X 25 dX10_when_20 (by decide) ?_
      exact r_iretz X rfl dX10_when_25 h
set_option maxRecDepth 100000 in
set_option maxHeartbeats 4000000 in
theorem c_X10_isSpared (l : Launch) {σ : Sg} {a1 : Int32} {z : Int32 × Sg} (h : f_X10_isSpared σ a1 = some z) : am_Met l yX10_isSpared cX10_isSpared 2 (some .boolean) { frames := 6, cells := 0, slots := 0, locals := 141 } NM LM (fun ad => [.ref (ad 0), .int a1]) σ z.2 (fun _ => some (.int z.1)) := by
  refine am_enter (by decide +kernel) (fun ad => Nat.le_of_ble_eq_true rfl) (fun M D cT ad hl X => ?_)
  subst hl
  refine r_lv (lv' := [(0, .ref (ad 0)), (1, .int a1)]) rfl ?_
  unfold f_X10_isSpared at h
  refine r_aload_n X dX10_isSpared_0 rfl 0 rfl ?_
  refine r_iload_n X dX10_isSpared_1 rfl 1 rfl ?_
  refine r_putI X fp_X10_187_X10 fM_0 rfl dX10_isSpared_2 h (fun σ1 h => ?_)
  refine r_aload_n X dX10_isSpared_5 rfl 0 rfl ?_
  obtain ⟨r2, σ3, hc_4, h⟩ := bnd_of h
  refine r_callV (As := []) (rest := []) (st2 := []) (c := 0) X cv_X10_232 (c_X10_runs M.2.1 hc_4) rfl (ci := 9) rfl fM_0 rfl rfl (Nat.le_of_ble_eq_true rfl) ⟨⟨rfl, rfl⟩, by decide, by decide⟩ dX10_isSpared_6 ⟨rfl, rfl⟩ rfl ?_
  refine r_aload_n X dX10_isSpared_9 rfl 0 rfl ?_
  refine r_getI X fg_X10_197_X10 fM_0 rfl dX10_isSpared_10 ?_
  refine r_if_ne X 20 dX10_isSpared_13 (by decide) h (fun h => ?_) (fun h => ?_)
  · refine r_iconst (v := 1) X dX10_isSpared_16 (by decide) ?_
    refine r_goto X 21 dX10_isSpared_17 (by decide) ?_
    exact r_zretz X rfl (by decide) dX10_isSpared_21 h
  · refine r_iconst (v := 0) X dX10_isSpared_20 (by decide) ?_
    exact r_zretz X rfl (by decide) dX10_isSpared_21 h
set_option maxRecDepth 100000 in
set_option maxHeartbeats 4000000 in
theorem t_X10_spareBy_b63 {M : am_M} {D : va_G} {cT : Nat → ClassId} {ad : Nat → Nat} (X : am_X M (D, cT, ad, NM, LM) cX10_spareBy RX10 3 (some .int)) {z : Int32 × Sg} {k51 : Sg → Int32 → Option (Int32 × Sg)} (hk51 : ∀ (σ : Sg) (x1 : Int32), k51 σ x1 = some z → am_At M { frames := 7, cells := 0, slots := 0, locals := 162 } (D, cT, ad, NM, LM) (amQi M (D, cT, ad, NM, LM) z) 3 51 [(0, .ref (ad 0)), (1, .int x1)] [] σ) {k63 : Sg → Int32 → Int32 → Option (Int32 × Sg)} (hk63 : ∀ (σ : Sg) (x1 : Int32) (x2 : Int32), k63 σ x1 x2 = some z → am_At M { frames := 7, cells := 0, slots := 0, locals := 162 } (D, cT, ad, NM, LM) (amQi M (D, cT, ad, NM, LM) z) 3 63 [(0, .ref (ad 0)), (1, .int x1), (2, .int x2)] [] σ) (σ : Sg) (x1 : Int32) (x2 : Int32) (h : f_X10_spareBy_b63 k51 k63 σ x1 x2 = some z) : am_At M { frames := 7, cells := 0, slots := 0, locals := 162 } (D, cT, ad, NM, LM) (amQi M (D, cT, ad, NM, LM) z) 3 63 [(0, .ref (ad 0)), (1, .int x1), (2, .int x2)] [] σ := by
  unfold f_X10_spareBy_b63 at h
  refine r_iload_n X dX10_spareBy_63 rfl 2 rfl ?_
  refine r_aload_n X dX10_spareBy_64 rfl 0 rfl ?_
  refine r_getI X fg_X10_171_X10 fM_0 rfl dX10_spareBy_65 ?_
  refine r_icmp_ge X 107 dX10_spareBy_68 (by decide) h (fun h => ?_) (fun h => ?_)
  · refine r_iinc X [(1, .int (x1 + (1 : Int32))), (0, .ref (ad 0)), (2, .int x2)] dX10_spareBy_107 1 rfl (v := x1 + (1 : Int32)) (by rfl) (by decide) rfl ?_
    refine r_letv h (fun v1 h => ?_)
    refine r_goto X 51 dX10_spareBy_110 (by decide) ?_
    refine r_sub (lv' := [(0, .ref (ad 0)), (1, .int v1)]) [1, 0] rfl ?_
    exact hk51 σ v1 h
  · refine r_aload_n X dX10_spareBy_71 rfl 0 rfl ?_
    refine r_getR (c1 := 22) X fg_X10_73_X10 fM_0 rfl dX10_spareBy_72 ?_
    refine r_iconst (v := 0) X dX10_spareBy_75 (by decide) ?_
    refine r_iload_n X dX10_spareBy_76 rfl 1 rfl ?_
    refine r_iast X fM_22 dX10_spareBy_77 h (fun σ2 h => ?_)
    refine r_aload_n X dX10_spareBy_78 rfl 0 rfl ?_
    refine r_getR (c1 := 22) X fg_X10_73_X10 fM_0 rfl dX10_spareBy_79 ?_
    refine r_iconst (v := 1) X dX10_spareBy_82 (by decide) ?_
    refine r_iload_n X dX10_spareBy_83 rfl 2 rfl ?_
    refine r_iast X fM_22 dX10_spareBy_84 h (fun σ3 h => ?_)
    refine r_aload_n X dX10_spareBy_85 rfl 0 rfl ?_
    refine r_iconst (v := 1) X dX10_spareBy_86 (by decide) ?_
    refine r_iload_n X dX10_spareBy_87 rfl 1 rfl ?_
    refine r_ishl X dX10_spareBy_88 ?_
    refine r_iconst (v := 1) X dX10_spareBy_89 (by decide) ?_
    refine r_iload_n X dX10_spareBy_90 rfl 2 rfl ?_
    refine r_ishl X dX10_spareBy_91 ?_
    refine r_ior X dX10_spareBy_92 ?_
    obtain ⟨r4, σ5, hc_7, h⟩ := bnd_of h
    refine r_callV (As := [.int (((1 : Int32) <<< (x1 &&& 31)) ||| ((1 : Int32) <<< (x2 &&& 31)))]) (rest := []) (st2 := [.int r4]) (c := 0) X cv_X10_290 (c_X10_isSpared M.2.1 hc_7) rfl (ci := 9) rfl fM_0 rfl rfl (Nat.le_of_ble_eq_true rfl) ⟨⟨rfl, rfl⟩, by decide, by decide⟩ dX10_spareBy_93 ⟨rfl, rfl⟩ rfl ?_
    refine r_if_eq X 101 dX10_spareBy_96 (by decide) h (fun h => ?_) (fun h => ?_)
    · refine r_iinc X [(2, .int (x2 + (1 : Int32))), (0, .ref (ad 0)), (1, .int x1)] dX10_spareBy_101 2 rfl (v := x2 + (1 : Int32)) (by rfl) (by decide) rfl ?_
      refine r_letv h (fun v6 h => ?_)
      refine r_goto X 63 dX10_spareBy_104 (by decide) ?_
      refine r_sub (lv' := [(0, .ref (ad 0)), (1, .int x1), (2, .int v6)]) [1, 2, 0] rfl ?_
      exact hk63 σ5 x1 v6 h
    · refine r_iconst (v := 2) X dX10_spareBy_99 (by decide) ?_
      exact r_iretz X rfl dX10_spareBy_100 h
theorem t_X10_spareBy_l63 {M : am_M} {D : va_G} {cT : Nat → ClassId} {ad : Nat → Nat} (X : am_X M (D, cT, ad, NM, LM) cX10_spareBy RX10 3 (some .int)) {z : Int32 × Sg} {k51 : Sg → Int32 → Option (Int32 × Sg)} (hk51 : ∀ (σ : Sg) (x1 : Int32), k51 σ x1 = some z → am_At M { frames := 7, cells := 0, slots := 0, locals := 162 } (D, cT, ad, NM, LM) (amQi M (D, cT, ad, NM, LM) z) 3 51 [(0, .ref (ad 0)), (1, .int x1)] [] σ) (n : Nat) : ∀ (σ : Sg) (x1 : Int32) (x2 : Int32), f_X10_spareBy_l63 k51 n σ x1 x2 = some z → am_At M { frames := 7, cells := 0, slots := 0, locals := 162 } (D, cT, ad, NM, LM) (amQi M (D, cT, ad, NM, LM) z) 3 63 [(0, .ref (ad 0)), (1, .int x1), (2, .int x2)] [] σ := by
  induction n with
  | zero =>
    intro σ x1 x2 h
    have h2 : (none : Option (Int32 × Sg)) = some z := h
    cases h2
  | succ n ih =>
    intro σ x1 x2 h
    exact t_X10_spareBy_b63 X hk51 (k63 := f_X10_spareBy_l63 k51 n) ih σ x1 x2 h
set_option maxRecDepth 100000 in
set_option maxHeartbeats 4000000 in
theorem t_X10_spareBy_b51 {M : am_M} {D : va_G} {cT : Nat → ClassId} {ad : Nat → Nat} (X : am_X M (D, cT, ad, NM, LM) cX10_spareBy RX10 3 (some .int)) {z : Int32 × Sg} {k51 : Sg → Int32 → Option (Int32 × Sg)} (hk51 : ∀ (σ : Sg) (x1 : Int32), k51 σ x1 = some z → am_At M { frames := 7, cells := 0, slots := 0, locals := 162 } (D, cT, ad, NM, LM) (amQi M (D, cT, ad, NM, LM) z) 3 51 [(0, .ref (ad 0)), (1, .int x1)] [] σ) (σ : Sg) (x1 : Int32) (h : f_X10_spareBy_b51 k51 σ x1 = some z) : am_At M { frames := 7, cells := 0, slots := 0, locals := 162 } (D, cT, ad, NM, LM) (amQi M (D, cT, ad, NM, LM) z) 3 51 [(0, .ref (ad 0)), (1, .int x1)] [] σ := by
  unfold f_X10_spareBy_b51 at h
  refine r_iload_n X dX10_spareBy_51 rfl 1 rfl ?_
  refine r_aload_n X dX10_spareBy_52 rfl 0 rfl ?_
  refine r_getI X fg_X10_171_X10 fM_0 rfl dX10_spareBy_53 ?_
  refine r_icmp_ge X 113 dX10_spareBy_56 (by decide) h (fun h => ?_) (fun h => ?_)
  · refine r_iconst (v := -1) X dX10_spareBy_113 (by decide) ?_
    exact r_iretz X rfl dX10_spareBy_114 h
  · refine r_iload_n X dX10_spareBy_59 rfl 1 rfl ?_
    refine r_iconst (v := 1) X dX10_spareBy_60 (by decide) ?_
    refine r_iadd X dX10_spareBy_61 ?_
    refine r_leti h (fun v1 h => ?_)
    refine r_istore_n X [(2, .int v1), (0, .ref (ad 0)), (1, .int x1)] dX10_spareBy_62 rfl (by decide) rfl ?_
    refine r_sub (lv' := [(0, .ref (ad 0)), (1, .int x1), (2, .int v1)]) [1, 2, 0] rfl ?_
    exact t_X10_spareBy_l63 X hk51 300 σ x1 v1 h
theorem t_X10_spareBy_l51 {M : am_M} {D : va_G} {cT : Nat → ClassId} {ad : Nat → Nat} (X : am_X M (D, cT, ad, NM, LM) cX10_spareBy RX10 3 (some .int)) {z : Int32 × Sg} (n : Nat) : ∀ (σ : Sg) (x1 : Int32), f_X10_spareBy_l51 n σ x1 = some z → am_At M { frames := 7, cells := 0, slots := 0, locals := 162 } (D, cT, ad, NM, LM) (amQi M (D, cT, ad, NM, LM) z) 3 51 [(0, .ref (ad 0)), (1, .int x1)] [] σ := by
  induction n with
  | zero =>
    intro σ x1 h
    have h2 : (none : Option (Int32 × Sg)) = some z := h
    cases h2
  | succ n ih =>
    intro σ x1 h
    exact t_X10_spareBy_b51 X (k51 := f_X10_spareBy_l51 n) ih σ x1 h
set_option maxRecDepth 100000 in
set_option maxHeartbeats 4000000 in
theorem t_X10_spareBy_b16 {M : am_M} {D : va_G} {cT : Nat → ClassId} {ad : Nat → Nat} (X : am_X M (D, cT, ad, NM, LM) cX10_spareBy RX10 3 (some .int)) {z : Int32 × Sg} {k16 : Sg → Int32 → Option (Int32 × Sg)} (hk16 : ∀ (σ : Sg) (x1 : Int32), k16 σ x1 = some z → am_At M { frames := 7, cells := 0, slots := 0, locals := 162 } (D, cT, ad, NM, LM) (amQi M (D, cT, ad, NM, LM) z) 3 16 [(0, .ref (ad 0)), (1, .int x1)] [] σ) (σ : Sg) (x1 : Int32) (h : f_X10_spareBy_b16 k16 σ x1 = some z) : am_At M { frames := 7, cells := 0, slots := 0, locals := 162 } (D, cT, ad, NM, LM) (amQi M (D, cT, ad, NM, LM) z) 3 16 [(0, .ref (ad 0)), (1, .int x1)] [] σ := by
  unfold f_X10_spareBy_b16 at h
  refine r_iload_n X dX10_spareBy_16 rfl 1 rfl ?_
  refine r_aload_n X dX10_spareBy_17 rfl 0 rfl ?_
  refine r_getI X fg_X10_171_X10 fM_0 rfl dX10_spareBy_18 ?_
  refine r_icmp_ge X 49 dX10_spareBy_21 (by decide) h (fun h => ?_) (fun h => ?_)
  · refine r_iconst (v := 0) X dX10_spareBy_49 (by decide) ?_
    refine r_istore_n X [(1, .int (0 : Int32)), (0, .ref (ad 0))] dX10_spareBy_50 rfl (by decide) rfl ?_
    refine r_sub (lv' := [(0, .ref (ad 0)), (1, .int (0 : Int32))]) [1, 0] rfl ?_
    exact t_X10_spareBy_l51 X 300 σ (0 : Int32) h
  · refine r_aload_n X dX10_spareBy_24 rfl 0 rfl ?_
    refine r_getR (c1 := 22) X fg_X10_73_X10 fM_0 rfl dX10_spareBy_25 ?_
    refine r_iconst (v := 0) X dX10_spareBy_28 (by decide) ?_
    refine r_iload_n X dX10_spareBy_29 rfl 1 rfl ?_
    refine r_iast X fM_22 dX10_spareBy_30 h (fun σ1 h => ?_)
    refine r_aload_n X dX10_spareBy_31 rfl 0 rfl ?_
    refine r_iconst (v := 1) X dX10_spareBy_32 (by decide) ?_
    refine r_iload_n X dX10_spareBy_33 rfl 1 rfl ?_
    refine r_ishl X dX10_spareBy_34 ?_
    obtain ⟨r2, σ3, hc_5, h⟩ := bnd_of h
    refine r_callV (As := [.int ((1 : Int32) <<< (x1 &&& 31))]) (rest := []) (st2 := [.int r2]) (c := 0) X cv_X10_290 (c_X10_isSpared M.2.1 hc_5) rfl (ci := 9) rfl fM_0 rfl rfl (Nat.le_of_ble_eq_true rfl) ⟨⟨rfl, rfl⟩, by decide, by decide⟩ dX10_spareBy_35 ⟨rfl, rfl⟩ rfl ?_
    refine r_if_eq X 43 dX10_spareBy_38 (by decide) h (fun h => ?_) (fun h => ?_)
    · refine r_iinc X [(1, .int (x1 + (1 : Int32))), (0, .ref (ad 0))] dX10_spareBy_43 1 rfl (v := x1 + (1 : Int32)) (by rfl) (by decide) rfl ?_
      refine r_letv h (fun v4 h => ?_)
      refine r_goto X 16 dX10_spareBy_46 (by decide) ?_
      refine r_sub (lv' := [(0, .ref (ad 0)), (1, .int v4)]) [1, 0] rfl ?_
      exact hk16 σ3 v4 h
    · refine r_iconst (v := 1) X dX10_spareBy_41 (by decide) ?_
      exact r_iretz X rfl dX10_spareBy_42 h
theorem t_X10_spareBy_l16 {M : am_M} {D : va_G} {cT : Nat → ClassId} {ad : Nat → Nat} (X : am_X M (D, cT, ad, NM, LM) cX10_spareBy RX10 3 (some .int)) {z : Int32 × Sg} (n : Nat) : ∀ (σ : Sg) (x1 : Int32), f_X10_spareBy_l16 n σ x1 = some z → am_At M { frames := 7, cells := 0, slots := 0, locals := 162 } (D, cT, ad, NM, LM) (amQi M (D, cT, ad, NM, LM) z) 3 16 [(0, .ref (ad 0)), (1, .int x1)] [] σ := by
  induction n with
  | zero =>
    intro σ x1 h
    have h2 : (none : Option (Int32 × Sg)) = some z := h
    cases h2
  | succ n ih =>
    intro σ x1 h
    exact t_X10_spareBy_b16 X (k16 := f_X10_spareBy_l16 n) ih σ x1 h
set_option maxRecDepth 100000 in
set_option maxHeartbeats 4000000 in
theorem c_X10_spareBy (l : Launch) {σ : Sg} {z : Int32 × Sg} (h : f_X10_spareBy σ = some z) : am_Met l yX10_spareBy cX10_spareBy 3 (some .int) { frames := 7, cells := 0, slots := 0, locals := 162 } NM LM (fun ad => [.ref (ad 0)]) σ z.2 (fun _ => some (.int z.1)) := by
  refine am_enter (by decide +kernel) (fun ad => Nat.le_of_ble_eq_true rfl) (fun M D cT ad hl X => ?_)
  subst hl
  refine r_lv (lv' := [(0, .ref (ad 0))]) rfl ?_
  unfold f_X10_spareBy at h
  refine r_aload_n X dX10_spareBy_0 rfl 0 rfl ?_
  obtain ⟨r1, σ2, hc_6, h⟩ := bnd_of h
  refine r_callV (As := []) (rest := []) (st2 := []) (c := 0) X cv_X10_229 (c_X10_asTold M.2.1 hc_6) rfl (ci := 9) rfl fM_0 rfl rfl (Nat.le_of_ble_eq_true rfl) ⟨⟨rfl, rfl⟩, by decide, by decide⟩ dX10_spareBy_1 ⟨rfl, rfl⟩ rfl ?_
  refine r_aload_n X dX10_spareBy_4 rfl 0 rfl ?_
  refine r_iconst (v := 0) X dX10_spareBy_5 (by decide) ?_
  obtain ⟨r3, σ4, hc_5, h⟩ := bnd_of h
  refine r_callV (As := [.int (0 : Int32)]) (rest := []) (st2 := [.int r3]) (c := 0) X cv_X10_290 (c_X10_isSpared M.2.1 hc_5) rfl (ci := 9) rfl fM_0 rfl rfl (Nat.le_of_ble_eq_true rfl) ⟨⟨rfl, rfl⟩, by decide, by decide⟩ dX10_spareBy_6 ⟨rfl, rfl⟩ rfl ?_
  refine r_if_eq X 14 dX10_spareBy_9 (by decide) h (fun h => ?_) (fun h => ?_)
  · refine r_iconst (v := 0) X dX10_spareBy_14 (by decide) ?_
    refine r_istore_n X [(1, .int (0 : Int32)), (0, .ref (ad 0))] dX10_spareBy_15 rfl (by decide) rfl ?_
    refine r_sub (lv' := [(0, .ref (ad 0)), (1, .int (0 : Int32))]) [1, 0] rfl ?_
    exact t_X10_spareBy_l16 X 300 σ4 (0 : Int32) h
  · refine r_iconst (v := 0) X dX10_spareBy_12 (by decide) ?_
    exact r_iretz X rfl dX10_spareBy_13 h
set_option maxRecDepth 100000 in
set_option maxHeartbeats 4000000 in
theorem c_X10_ofRow (l : Launch) {σ : Sg} {a1 : Int32} {a2 : Int32} {z : Int32 × Sg} (h : f_X10_ofRow σ a1 a2 = some z) : am_Met l yX10_ofRow cX10_ofRow 3 (some .int) { frames := 0, cells := 0, slots := 0, locals := 0 } NM LM (fun ad => [.ref (ad 0), .int a1, .int a2]) σ z.2 (fun _ => some (.int z.1)) := by
  refine am_enter (by decide +kernel) (fun ad => Nat.le_of_ble_eq_true rfl) (fun M D cT ad hl X => ?_)
  subst hl
  refine r_lv (lv' := [(0, .ref (ad 0)), (1, .int a1), (2, .int a2)]) rfl ?_
  unfold f_X10_ofRow at h
  refine r_iload_n X dX10_ofRow_0 rfl 2 rfl ?_
  refine r_iconst (v := -1) X dX10_ofRow_1 (by decide) ?_
  refine r_icmp_ne X 9 dX10_ofRow_2 (by decide) h (fun h => ?_) (fun h => ?_)
  · refine r_iload_n X dX10_ofRow_5 rfl 1 rfl ?_
    refine r_goto X 24 dX10_ofRow_6 (by decide) ?_
    exact r_iretz X rfl dX10_ofRow_24 h
  · refine r_iload_n X dX10_ofRow_9 rfl 2 rfl ?_
    refine r_iload_n X dX10_ofRow_10 rfl 1 rfl ?_
    refine r_icmp_ge X 23 dX10_ofRow_11 (by decide) h (fun h => ?_) (fun h => ?_)
    · refine r_iconst (v := -1) X dX10_ofRow_23 (by decide) ?_
      exact r_iretz X rfl dX10_ofRow_24 h
    · refine r_aload_n X dX10_ofRow_14 rfl 0 rfl ?_
      refine r_getR (c1 := 22) X fg_X10_73_X10 fM_0 rfl dX10_ofRow_15 ?_
      refine r_iload_n X dX10_ofRow_18 rfl 2 rfl ?_
      refine r_iald X fM_22 dX10_ofRow_19 h (fun h => ?_)
      refine r_goto X 24 dX10_ofRow_20 (by decide) ?_
      exact r_iretz X rfl dX10_ofRow_24 h
set_option maxRecDepth 100000 in
set_option maxHeartbeats 4000000 in
theorem c_X10_spare (l : Launch) {σ : Sg} {a1 : Int32} {z : Int32 × Sg} (h : f_X10_spare σ a1 = some z) : am_Met l yX10_spare cX10_spare 2 (some .int) { frames := 8, cells := 0, slots := 0, locals := 184 } NM LM (fun ad => [.ref (ad 0), .int a1]) σ z.2 (fun _ => some (.int z.1)) := by
  refine am_enter (by decide +kernel) (fun ad => Nat.le_of_ble_eq_true rfl) (fun M D cT ad hl X => ?_)
  subst hl
  refine r_lv (lv' := [(0, .ref (ad 0)), (1, .int a1)]) rfl ?_
  unfold f_X10_spare at h
  refine r_iload_n X dX10_spare_0 rfl 1 rfl ?_
  refine r_iconst (v := -1) X dX10_spare_1 (by decide) ?_
  refine r_iconst (v := 1) X dX10_spare_2 (by decide) ?_
  obtain ⟨r1, σ2, hc_9, h⟩ := bnd_of h
  refine r_callS (As := [.int a1, .int (-1 : Int32), .int (1 : Int32)]) (rest := []) (st2 := [.int r1]) X cv_X10_106 (c_X10_in M.2.1 hc_9) rfl rfl rfl (Nat.le_of_ble_eq_true rfl) ⟨⟨rfl, rfl⟩, by decide, by decide⟩ dX10_spare_3 ⟨rfl, rfl⟩ rfl ?_
  refine r_if_eq X 21 dX10_spare_6 (by decide) h (fun h => ?_) (fun h => ?_)
  · refine r_bipush (v := -2) X dX10_spare_21 (by decide) ?_
    exact r_iretz X rfl dX10_spare_23 h
  · refine r_aload_n X dX10_spare_9 rfl 0 rfl ?_
    refine r_aload_n X dX10_spare_10 rfl 0 rfl ?_
    obtain ⟨r3, σ4, hc_8, h⟩ := bnd_of h
    refine r_callV (As := []) (rest := [.ref (ad 0)]) (st2 := [.int r3, .ref (ad 0)]) (c := 0) X cv_X10_293 (c_X10_spareBy M.2.1 hc_8) rfl (ci := 9) rfl fM_0 rfl rfl (Nat.le_of_ble_eq_true rfl) ⟨⟨rfl, rfl⟩, by decide, by decide⟩ dX10_spare_11 ⟨rfl, rfl⟩ rfl ?_
    refine r_iload_n X dX10_spare_14 rfl 1 rfl ?_
    obtain ⟨r5, σ6, hc_7, h⟩ := bnd_of h
    refine r_callV (As := [.int r3, .int a1]) (rest := []) (st2 := [.int r5]) (c := 0) X cv_X10_296 (c_X10_ofRow M.2.1 hc_7) rfl (ci := 9) rfl fM_0 rfl rfl (Nat.le_of_ble_eq_true rfl) ⟨⟨rfl, rfl⟩, by decide, by decide⟩ dX10_spare_15 ⟨rfl, rfl⟩ rfl ?_
    refine r_goto X 23 dX10_spare_18 (by decide) ?_
    exact r_iretz X rfl dX10_spare_23 h
set_option maxRecDepth 100000 in
set_option maxHeartbeats 4000000 in
theorem c_X10_seen (l : Launch) {σ : Sg} {a1 : Int32} {a2 : Int32} {a3 : Int32} {z : Int32 × Sg} (h : f_X10_seen σ a1 a2 a3 = some z) : am_Met l yX10_seen cX10_seen 4 (some .int) { frames := 2, cells := 0, slots := 0, locals := 42 } NM LM (fun ad => [.ref (ad 0), .int a1, .int a2, .int a3]) σ z.2 (fun _ => some (.int z.1)) := by
  refine am_enter (by decide +kernel) (fun ad => Nat.le_of_ble_eq_true rfl) (fun M D cT ad hl X => ?_)
  subst hl
  refine r_lv (lv' := [(0, .ref (ad 0)), (1, .int a1), (2, .int a2), (3, .int a3)]) rfl ?_
  unfold f_X10_seen at h
  refine r_iload_n X dX10_seen_0 rfl 1 rfl ?_
  obtain ⟨r1, σ2, hc_13, h⟩ := bnd_of h
  refine r_callS (As := [.int a1]) (rest := []) (st2 := [.int r1]) X cv_X10_127 (c_X10_isNight M.2.1 hc_13) rfl rfl rfl (Nat.le_of_ble_eq_true rfl) ⟨⟨rfl, rfl⟩, by decide, by decide⟩ dX10_seen_1 ⟨rfl, rfl⟩ rfl ?_
  refine r_if_eq X 21 dX10_seen_4 (by decide) h (fun h => ?_) (fun h => ?_)
  · refine r_bipush (v := -2) X dX10_seen_21 (by decide) ?_
    exact r_iretz X rfl dX10_seen_23 h
  · refine r_iload_n X dX10_seen_7 rfl 2 rfl ?_
    obtain ⟨r3, σ4, hc_12, h⟩ := bnd_of h
    refine r_callS (As := [.int a2]) (rest := []) (st2 := [.int r3]) X cv_X10_124 (c_X10_isEight M.2.1 hc_12) rfl rfl rfl (Nat.le_of_ble_eq_true rfl) ⟨⟨rfl, rfl⟩, by decide, by decide⟩ dX10_seen_8 ⟨rfl, rfl⟩ rfl ?_
    refine r_if_eq X 21 dX10_seen_11 (by decide) h (fun h => ?_) (fun h => ?_)
    · refine r_bipush (v := -2) X dX10_seen_21 (by decide) ?_
      exact r_iretz X rfl dX10_seen_23 h
    · refine r_iload_n X dX10_seen_14 rfl 3 rfl ?_
      obtain ⟨r5, σ6, hc_11, h⟩ := bnd_of h
      refine r_callS (As := [.int a3]) (rest := []) (st2 := [.int r5]) X cv_X10_168 (c_X10_isTwo M.2.1 hc_11) rfl rfl rfl (Nat.le_of_ble_eq_true rfl) ⟨⟨rfl, rfl⟩, by decide, by decide⟩ dX10_seen_15 ⟨rfl, rfl⟩ rfl ?_
      refine r_if_ne X 24 dX10_seen_18 (by decide) h (fun h => ?_) (fun h => ?_)
      · refine r_bipush (v := -2) X dX10_seen_21 (by decide) ?_
        exact r_iretz X rfl dX10_seen_23 h
      · refine r_aload_n X dX10_seen_24 rfl 0 rfl ?_
        refine r_getI X fg_X10_299_X10 fM_0 rfl dX10_seen_25 ?_
        refine r_bipush (v := 8) X dX10_seen_28 (by decide) ?_
        refine r_icmp_ne X 36 dX10_seen_30 (by decide) h (fun h => ?_) (fun h => ?_)
        · refine r_bipush (v := -4) X dX10_seen_33 (by decide) ?_
          exact r_iretz X rfl dX10_seen_35 h
        · refine r_aload_n X dX10_seen_36 rfl 0 rfl ?_
          refine r_getR (c1 := 23) X fg_X10_76_X10 fM_0 rfl dX10_seen_37 ?_
          refine r_aload_n X dX10_seen_40 rfl 0 rfl ?_
          refine r_getI X fg_X10_299_X10 fM_0 rfl dX10_seen_41 ?_
          refine r_iload_n X dX10_seen_44 rfl 1 rfl ?_
          refine r_iast X fM_23 dX10_seen_45 h (fun σ7 h => ?_)
          refine r_aload_n X dX10_seen_46 rfl 0 rfl ?_
          refine r_getR (c1 := 24) X fg_X10_79_X10 fM_0 rfl dX10_seen_47 ?_
          refine r_aload_n X dX10_seen_50 rfl 0 rfl ?_
          refine r_getI X fg_X10_299_X10 fM_0 rfl dX10_seen_51 ?_
          refine r_iload_n X dX10_seen_54 rfl 2 rfl ?_
          refine r_iast X fM_24 dX10_seen_55 h (fun σ8 h => ?_)
          refine r_aload_n X dX10_seen_56 rfl 0 rfl ?_
          refine r_getR (c1 := 25) X fg_X10_82_X10 fM_0 rfl dX10_seen_57 ?_
          refine r_aload_n X dX10_seen_60 rfl 0 rfl ?_
          refine r_getI X fg_X10_299_X10 fM_0 rfl dX10_seen_61 ?_
          refine r_iload_n X dX10_seen_64 rfl 3 rfl ?_
          refine r_iast X fM_25 dX10_seen_65 h (fun σ9 h => ?_)
          refine r_aload_n X dX10_seen_66 rfl 0 rfl ?_
          refine r_dup X dX10_seen_67 rfl ?_
          refine r_getI X fg_X10_299_X10 fM_0 rfl dX10_seen_68 ?_
          refine r_iconst (v := 1) X dX10_seen_71 (by decide) ?_
          refine r_iadd X dX10_seen_72 ?_
          refine r_putI X fp_X10_299_X10 fM_0 rfl dX10_seen_73 h (fun σ10 h => ?_)
          refine r_aload_n X dX10_seen_76 rfl 0 rfl ?_
          refine r_getI X fg_X10_299_X10 fM_0 rfl dX10_seen_77 ?_
          exact r_iretz X rfl dX10_seen_80 h
set_option maxRecDepth 100000 in
set_option maxHeartbeats 4000000 in
theorem c_X10_forget (l : Launch) {σ : Sg} {z : Int32 × Sg} (h : f_X10_forget σ = some z) : am_Met l yX10_forget cX10_forget 2 (some .int) { frames := 0, cells := 0, slots := 0, locals := 0 } NM LM (fun ad => [.ref (ad 0)]) σ z.2 (fun _ => some (.int z.1)) := by
  refine am_enter (by decide +kernel) (fun ad => Nat.le_of_ble_eq_true rfl) (fun M D cT ad hl X => ?_)
  subst hl
  refine r_lv (lv' := [(0, .ref (ad 0))]) rfl ?_
  unfold f_X10_forget at h
  refine r_aload_n X dX10_forget_0 rfl 0 rfl ?_
  refine r_getI X fg_X10_299_X10 fM_0 rfl dX10_forget_1 ?_
  refine r_leti h (fun v1 h => ?_)
  refine r_istore_n X [(1, .int v1), (0, .ref (ad 0))] dX10_forget_4 rfl (by decide) rfl ?_
  refine r_aload_n X dX10_forget_5 rfl 1 rfl ?_
  refine r_iconst (v := 0) X dX10_forget_6 (by decide) ?_
  refine r_putI X fp_X10_299_X10 fM_0 rfl dX10_forget_7 h (fun σ2 h => ?_)
  refine r_iload_n X dX10_forget_10 rfl 0 rfl ?_
  exact r_iretz X rfl dX10_forget_11 h
