set_option maxRecDepth 100000 in
set_option maxHeartbeats 4000000 in
theorem t_X7_fit_b59 {M : am_M} {D : va_G} {cT : Nat → ClassId} {ad : Nat → Nat} (X : am_X M (D, cT, ad, NX, LX) cX7_fit RX7 5 (some .boolean)) {c1 : Nat} (hc1 : Is_X0 c1) {z : Int32 × Sg} {k2 : Sg → Int32 → Int32 → Option (Int32 × Sg)} (hk2 : ∀ (σ : Sg) (x2 : Int32) (x3 : Int32), k2 σ x2 x3 = some z → am_At M { frames := 1, cells := 0, slots := 0, locals := 22 } (D, cT, ad, NX, LX) (amQi M (D, cT, ad, NX, LX) z) 5 2 [(0, .ref (ad 24)), (1, .ref (ad c1)), (2, .int x2), (3, .int x3)] [] σ) (σ : Sg) (x2 : Int32) (x3 : Int32) (s0 : Int32) (h : f_X7_fit_b59 c1 k2 σ x2 x3 s0 = some z) : am_At M { frames := 1, cells := 0, slots := 0, locals := 22 } (D, cT, ad, NX, LX) (amQi M (D, cT, ad, NX, LX) z) 5 59 [(0, .ref (ad 24)), (1, .ref (ad c1)), (2, .int x2), (3, .int x3)] [.int s0] σ := by
  unfold f_X7_fit_b59 at h
  refine r_istore X [(4, .int s0), (0, .ref (ad 24)), (1, .ref (ad c1)), (2, .int x2), (3, .int x3)] dX7_fit_59 (by decide) rfl ?_
  refine r_iload X dX7_fit_61 0 rfl ?_
  refine r_if_ne X 68 dX7_fit_63 (by decide) h (fun h => ?_) (fun h => ?_)
  · refine r_iconst (v := 0) X dX7_fit_66 (by decide) ?_
    exact r_zretz X rfl (by decide) dX7_fit_67 h
  · refine r_iinc X [(3, .int (x3 + (1 : Int32))), (4, .int s0), (0, .ref (ad 24)), (1, .ref (ad c1)), (2, .int x2)] dX7_fit_68 4 rfl (v := x3 + (1 : Int32)) (by rfl) (by decide) rfl ?_
    refine r_letv h (fun v1 h => ?_)
    refine r_goto X 2 dX7_fit_71 (by decide) ?_
    refine r_sub (lv' := [(0, .ref (ad 24)), (1, .ref (ad c1)), (2, .int x2), (3, .int v1)]) [2, 3, 4, 0] rfl ?_
    exact hk2 σ x2 v1 h
set_option maxRecDepth 100000 in
set_option maxHeartbeats 4000000 in
theorem t_X7_fit_b58 {M : am_M} {D : va_G} {cT : Nat → ClassId} {ad : Nat → Nat} (X : am_X M (D, cT, ad, NX, LX) cX7_fit RX7 5 (some .boolean)) {c1 : Nat} (hc1 : Is_X0 c1) {z : Int32 × Sg} {k2 : Sg → Int32 → Int32 → Option (Int32 × Sg)} (hk2 : ∀ (σ : Sg) (x2 : Int32) (x3 : Int32), k2 σ x2 x3 = some z → am_At M { frames := 1, cells := 0, slots := 0, locals := 22 } (D, cT, ad, NX, LX) (amQi M (D, cT, ad, NX, LX) z) 5 2 [(0, .ref (ad 24)), (1, .ref (ad c1)), (2, .int x2), (3, .int x3)] [] σ) (σ : Sg) (x2 : Int32) (x3 : Int32) (h : f_X7_fit_b58 c1 k2 σ x2 x3 = some z) : am_At M { frames := 1, cells := 0, slots := 0, locals := 22 } (D, cT, ad, NX, LX) (amQi M (D, cT, ad, NX, LX) z) 5 58 [(0, .ref (ad 24)), (1, .ref (ad c1)), (2, .int x2), (3, .int x3)] [] σ := by
  unfold f_X7_fit_b58 at h
  refine r_iconst (v := 0) X dX7_fit_58 (by decide) ?_
  exact t_X7_fit_b59 X hc1 hk2 σ x2 x3 (0 : Int32) h
set_option maxRecDepth 100000 in
set_option maxHeartbeats 4000000 in
theorem t_X7_fit_b51 {M : am_M} {D : va_G} {cT : Nat → ClassId} {ad : Nat → Nat} (X : am_X M (D, cT, ad, NX, LX) cX7_fit RX7 5 (some .boolean)) {c1 : Nat} (hc1 : Is_X0 c1) {z : Int32 × Sg} {k2 : Sg → Int32 → Int32 → Option (Int32 × Sg)} (hk2 : ∀ (σ : Sg) (x2 : Int32) (x3 : Int32), k2 σ x2 x3 = some z → am_At M { frames := 1, cells := 0, slots := 0, locals := 22 } (D, cT, ad, NX, LX) (amQi M (D, cT, ad, NX, LX) z) 5 2 [(0, .ref (ad 24)), (1, .ref (ad c1)), (2, .int x2), (3, .int x3)] [] σ) (σ : Sg) (x2 : Int32) (x3 : Int32) (s0 : Int32) (s1 : Int32) (h : f_X7_fit_b51 c1 k2 σ x2 x3 s0 s1 = some z) : am_At M { frames := 1, cells := 0, slots := 0, locals := 22 } (D, cT, ad, NX, LX) (amQi M (D, cT, ad, NX, LX) z) 5 51 [(0, .ref (ad 24)), (1, .ref (ad c1)), (2, .int x2), (3, .int x3)] [.int s0, .int s1] σ := by
  unfold f_X7_fit_b51 at h
  refine r_icmp_ne X 58 dX7_fit_51 (by decide) h (fun h => ?_) (fun h => ?_)
  · refine r_iconst (v := 1) X dX7_fit_54 (by decide) ?_
    refine r_goto X 59 dX7_fit_55 (by decide) ?_
    exact t_X7_fit_b59 X hc1 hk2 σ x2 x3 (1 : Int32) h
  · exact t_X7_fit_b58 X hc1 hk2 σ x2 x3 h
set_option maxRecDepth 100000 in
set_option maxHeartbeats 4000000 in
theorem t_X7_fit_b2 {M : am_M} {D : va_G} {cT : Nat → ClassId} {ad : Nat → Nat} (X : am_X M (D, cT, ad, NX, LX) cX7_fit RX7 5 (some .boolean)) {c1 : Nat} (hc1 : Is_X0 c1) {z : Int32 × Sg} {k2 : Sg → Int32 → Int32 → Option (Int32 × Sg)} (hk2 : ∀ (σ : Sg) (x2 : Int32) (x3 : Int32), k2 σ x2 x3 = some z → am_At M { frames := 1, cells := 0, slots := 0, locals := 22 } (D, cT, ad, NX, LX) (amQi M (D, cT, ad, NX, LX) z) 5 2 [(0, .ref (ad 24)), (1, .ref (ad c1)), (2, .int x2), (3, .int x3)] [] σ) (σ : Sg) (x2 : Int32) (x3 : Int32) (h : f_X7_fit_b2 c1 k2 σ x2 x3 = some z) : am_At M { frames := 1, cells := 0, slots := 0, locals := 22 } (D, cT, ad, NX, LX) (amQi M (D, cT, ad, NX, LX) z) 5 2 [(0, .ref (ad 24)), (1, .ref (ad c1)), (2, .int x2), (3, .int x3)] [] σ := by
  unfold f_X7_fit_b2 at h
  refine r_iload_n X dX7_fit_2 rfl 3 rfl ?_
  refine r_aload_n X dX7_fit_3 rfl 0 rfl ?_
  refine r_getI X fg_X7_21_X7 fX_24 rfl dX7_fit_4 ?_
  refine r_icmp_ge X 74 dX7_fit_7 (by decide) h (fun h => ?_) (fun h => ?_)
  · refine r_iconst (v := 1) X dX7_fit_74 (by decide) ?_
    exact r_zretz X rfl (by decide) dX7_fit_75 h
  · refine r_aload_n X dX7_fit_10 rfl 0 rfl ?_
    refine r_getR (c1 := 26) X fg_X7_15_X7 fX_24 rfl dX7_fit_11 ?_
    refine r_iload_n X dX7_fit_14 rfl 3 rfl ?_
    refine r_iald X fX_26 dX7_fit_15 h (fun h => ?_)
    refine r_iload_n X dX7_fit_16 rfl 2 rfl ?_
    refine r_icmp_ge X 58 dX7_fit_17 (by decide) h (fun h => ?_) (fun h => ?_)
    · exact t_X7_fit_b58 X hc1 hk2 σ x2 x3 h
    · refine r_aload_n X dX7_fit_20 rfl 1 rfl ?_
      refine r_aload_n X dX7_fit_21 rfl 0 rfl ?_
      refine r_getR (c1 := 25) X fg_X7_9_X7 fX_24 rfl dX7_fit_22 ?_
      refine r_iload_n X dX7_fit_25 rfl 3 rfl ?_
      refine r_iald X fX_25 dX7_fit_26 h (fun h => ?_)
      refine r_aload_n X dX7_fit_27 rfl 0 rfl ?_
      refine r_getR (c1 := 26) X fg_X7_15_X7 fX_24 rfl dX7_fit_28 ?_
      refine r_iload_n X dX7_fit_31 rfl 3 rfl ?_
      refine r_iald X fX_26 dX7_fit_32 h (fun h => ?_)
      obtain ⟨r1, σ2, hc_3, h⟩ := bnd_of h
      refine r_callV (As := [.int (σ 25 (x3).toNatClampNeg), .int (σ 26 (x3).toNatClampNeg)]) (rest := []) (st2 := [.int r1]) (c := c1) X cv_X7_25 (c_X0_isUp M.2.1 hc1 hc_3) rfl (ci := 0) rfl hc1.1 rfl rfl (Nat.le_of_ble_eq_true rfl) ⟨⟨rfl, rfl⟩, by decide, by decide⟩ dX7_fit_33 ⟨rfl, rfl⟩ rfl ?_
      refine r_aload_n X dX7_fit_36 rfl 0 rfl ?_
      refine r_getR (c1 := 27) X fg_X7_18_X7 fX_24 rfl dX7_fit_37 ?_
      refine r_iload_n X dX7_fit_40 rfl 3 rfl ?_
      refine r_iald X fX_27 dX7_fit_41 h (fun h => ?_)
      refine r_iconst (v := 1) X dX7_fit_42 (by decide) ?_
      refine r_icmp_ne X 50 dX7_fit_43 (by decide) h (fun h => ?_) (fun h => ?_)
      · refine r_iconst (v := 1) X dX7_fit_46 (by decide) ?_
        refine r_goto X 51 dX7_fit_47 (by decide) ?_
        exact t_X7_fit_b51 X hc1 hk2 σ2 x2 x3 (1 : Int32) r1 h
      · refine r_iconst (v := 0) X dX7_fit_50 (by decide) ?_
        exact t_X7_fit_b51 X hc1 hk2 σ2 x2 x3 (0 : Int32) r1 h
theorem t_X7_fit_l2 {M : am_M} {D : va_G} {cT : Nat → ClassId} {ad : Nat → Nat} (X : am_X M (D, cT, ad, NX, LX) cX7_fit RX7 5 (some .boolean)) {c1 : Nat} (hc1 : Is_X0 c1) {z : Int32 × Sg} (n : Nat) : ∀ (σ : Sg) (x2 : Int32) (x3 : Int32), f_X7_fit_l2 c1 n σ x2 x3 = some z → am_At M { frames := 1, cells := 0, slots := 0, locals := 22 } (D, cT, ad, NX, LX) (amQi M (D, cT, ad, NX, LX) z) 5 2 [(0, .ref (ad 24)), (1, .ref (ad c1)), (2, .int x2), (3, .int x3)] [] σ := by
  induction n with
  | zero =>
    intro σ x2 x3 h
    have h2 : (none : Option (Int32 × Sg)) = some z := h
    cases h2
  | succ n ih =>
    intro σ x2 x3 h
    exact t_X7_fit_b2 X hc1 (k2 := f_X7_fit_l2 c1 n) ih σ x2 x3 h
set_option maxRecDepth 100000 in
set_option maxHeartbeats 4000000 in
theorem c_X7_fit (l : Launch) {c1 : Nat} (hc1 : Is_X0 c1) {σ : Sg} {a2 : Int32} {z : Int32 × Sg} (h : f_X7_fit c1 σ a2 = some z) : am_Met l yX7_fit cX7_fit 5 (some .boolean) { frames := 1, cells := 0, slots := 0, locals := 22 } NX LX (fun ad => [.ref (ad 24), .ref (ad c1), .int a2]) σ z.2 (fun _ => some (.int z.1)) := by
  refine am_enter (by decide +kernel) (fun ad => Nat.le_of_ble_eq_true rfl) (fun M D cT ad hl X => ?_)
  subst hl
  refine r_lv (lv' := [(0, .ref (ad 24)), (1, .ref (ad c1)), (2, .int a2)]) rfl ?_
  unfold f_X7_fit at h
  refine r_iconst (v := 0) X dX7_fit_0 (by decide) ?_
  refine r_istore_n X [(3, .int (0 : Int32)), (0, .ref (ad 24)), (1, .ref (ad c1)), (2, .int a2)] dX7_fit_1 rfl (by decide) rfl ?_
  refine r_sub (lv' := [(0, .ref (ad 24)), (1, .ref (ad c1)), (2, .int a2), (3, .int (0 : Int32))]) [1, 2, 3, 0] rfl ?_
  exact t_X7_fit_l2 X hc1 300 σ a2 (0 : Int32) h
set_option maxRecDepth 100000 in
set_option maxHeartbeats 4000000 in
theorem t_X9_never_b66 {M : am_M} {D : va_G} {cT : Nat → ClassId} {ad : Nat → Nat} (X : am_X M (D, cT, ad, NX, LX) cX9_never RX9 3 (some .int)) {z : Int32 × Sg} {k4 : Sg → Int32 → Int32 → Option (Int32 × Sg)} (hk4 : ∀ (σ : Sg) (x1 : Int32) (x2 : Int32), k4 σ x1 x2 = some z → am_At M { frames := 3, cells := 0, slots := 0, locals := 75 } (D, cT, ad, NX, LX) (amQi M (D, cT, ad, NX, LX) z) 3 4 [(0, .ref (ad 0)), (1, .int x1), (2, .int x2)] [] σ) (σ : Sg) (x1 : Int32) (x2 : Int32) (h : f_X9_never_b66 k4 σ x1 x2 = some z) : am_At M { frames := 3, cells := 0, slots := 0, locals := 75 } (D, cT, ad, NX, LX) (amQi M (D, cT, ad, NX, LX) z) 3 66 [(0, .ref (ad 0)), (1, .int x1), (2, .int x2)] [] σ := by
  unfold f_X9_never_b66 at h
  refine r_iinc X [(2, .int (x2 + (1 : Int32))), (0, .ref (ad 0)), (1, .int x1)] dX9_never_66 2 rfl (v := x2 + (1 : Int32)) (by rfl) (by decide) rfl ?_
  refine r_letv h (fun v1 h => ?_)
  refine r_goto X 4 dX9_never_69 (by decide) ?_
  refine r_sub (lv' := [(0, .ref (ad 0)), (1, .int x1), (2, .int v1)]) [1, 2, 0] rfl ?_
  exact hk4 σ x1 v1 h
set_option maxRecDepth 100000 in
set_option maxHeartbeats 4000000 in
theorem t_X9_never_b4 {M : am_M} {D : va_G} {cT : Nat → ClassId} {ad : Nat → Nat} (X : am_X M (D, cT, ad, NX, LX) cX9_never RX9 3 (some .int)) {z : Int32 × Sg} {k4 : Sg → Int32 → Int32 → Option (Int32 × Sg)} (hk4 : ∀ (σ : Sg) (x1 : Int32) (x2 : Int32), k4 σ x1 x2 = some z → am_At M { frames := 3, cells := 0, slots := 0, locals := 75 } (D, cT, ad, NX, LX) (amQi M (D, cT, ad, NX, LX) z) 3 4 [(0, .ref (ad 0)), (1, .int x1), (2, .int x2)] [] σ) (σ : Sg) (x1 : Int32) (x2 : Int32) (h : f_X9_never_b4 k4 σ x1 x2 = some z) : am_At M { frames := 3, cells := 0, slots := 0, locals := 75 } (D, cT, ad, NX, LX) (amQi M (D, cT, ad, NX, LX) z) 3 4 [(0, .ref (ad 0)), (1, .int x1), (2, .int x2)] [] σ := by
  unfold f_X9_never_b4 at h
  refine r_iload_n X dX9_never_4 rfl 2 rfl ?_
  refine r_aload_n X dX9_never_5 rfl 0 rfl ?_
  refine r_getR (c1 := 14) X fg_X9_38_X9 fX_0 rfl dX9_never_6 ?_
  refine r_getI X fg_X9_138_X1 fX_14 rfl dX9_never_9 ?_
  refine r_icmp_ge X 72 dX9_never_12 (by decide) h (fun h => ?_) (fun h => ?_)
  · refine r_iload_n X dX9_never_72 rfl 1 rfl ?_
    exact r_iretz X rfl dX9_never_73 h
  · refine r_aload_n X dX9_never_15 rfl 0 rfl ?_
    refine r_getR (c1 := 35) X fg_X9_59_X9 fX_0 rfl dX9_never_16 ?_
    refine r_aload_n X dX9_never_19 rfl 0 rfl ?_
    refine r_getR (c1 := 5) X fg_X9_24_X9 fX_0 rfl dX9_never_20 ?_
    refine r_aload_n X dX9_never_23 rfl 0 rfl ?_
    refine r_getR (c1 := 10) X fg_X9_31_X9 fX_0 rfl dX9_never_24 ?_
    refine r_aload_n X dX9_never_27 rfl 0 rfl ?_
    refine r_getR (c1 := 14) X fg_X9_38_X9 fX_0 rfl dX9_never_28 ?_
    refine r_iconst (v := 1) X dX9_never_31 (by decide) ?_
    refine r_iload_n X dX9_never_32 rfl 2 rfl ?_
    refine r_ishl X dX9_never_33 ?_
    refine r_iconst (v := -1) X dX9_never_34 (by decide) ?_
    refine r_ixor X dX9_never_35 ?_
    obtain ⟨r1, σ2, hc_7, h⟩ := bnd_of h
    refine r_callV (As := [.ref (ad 5), .ref (ad 10), .ref (ad 14), .int (((1 : Int32) <<< (x2 &&& 31)) ^^^ (-1 : Int32))]) (rest := []) (st2 := []) (c := 35) X cv_X9_235 (c_X0_run M.2.1 iX0_35 iX1_14 hc_7) rfl (ci := 0) rfl fX_35 rfl rfl (Nat.le_of_ble_eq_true rfl) ⟨⟨rfl, rfl⟩, by decide, by decide⟩ dX9_never_36 ⟨rfl, rfl⟩ rfl ?_
    refine r_aload_n X dX9_never_39 rfl 0 rfl ?_
    refine r_getR (c1 := 24) X fg_X9_48_X9 fX_0 rfl dX9_never_40 ?_
    refine r_aload_n X dX9_never_43 rfl 0 rfl ?_
    refine r_getR (c1 := 35) X fg_X9_59_X9 fX_0 rfl dX9_never_44 ?_
    refine r_aload_n X dX9_never_47 rfl 0 rfl ?_
    refine r_getR (c1 := 5) X fg_X9_24_X9 fX_0 rfl dX9_never_48 ?_
    refine r_getI X fg_X9_115_X2 fX_5 rfl dX9_never_51 ?_
    obtain ⟨r3, σ4, hc_6, h⟩ := bnd_of h
    refine r_callV (As := [.ref (ad 35), .int (σ2 5 1)]) (rest := []) (st2 := [.int r3]) (c := 24) X cv_X9_239 (c_X7_fit M.2.1 iX0_35 hc_6) rfl (ci := 6) rfl fX_24 rfl rfl (Nat.le_of_ble_eq_true rfl) ⟨⟨rfl, rfl⟩, by decide, by decide⟩ dX9_never_54 ⟨rfl, rfl⟩ rfl ?_
    refine r_if_eq X 66 dX9_never_57 (by decide) h (fun h => ?_) (fun h => ?_)
    · exact t_X9_never_b66 X hk4 σ4 x1 x2 h
    · refine r_iload_n X dX9_never_60 rfl 1 rfl ?_
      refine r_iconst (v := 1) X dX9_never_61 (by decide) ?_
      refine r_iload_n X dX9_never_62 rfl 2 rfl ?_
      refine r_ishl X dX9_never_63 ?_
      refine r_ior X dX9_never_64 ?_
      refine r_leti h (fun v5 h => ?_)
      refine r_istore_n X [(1, .int v5), (0, .ref (ad 0)), (2, .int x2)] dX9_never_65 rfl (by decide) rfl ?_
      refine r_sub (lv' := [(0, .ref (ad 0)), (1, .int v5), (2, .int x2)]) [1, 0, 2] rfl ?_
      exact t_X9_never_b66 X hk4 σ4 v5 x2 h
theorem t_X9_never_l4 {M : am_M} {D : va_G} {cT : Nat → ClassId} {ad : Nat → Nat} (X : am_X M (D, cT, ad, NX, LX) cX9_never RX9 3 (some .int)) {z : Int32 × Sg} (n : Nat) : ∀ (σ : Sg) (x1 : Int32) (x2 : Int32), f_X9_never_l4 n σ x1 x2 = some z → am_At M { frames := 3, cells := 0, slots := 0, locals := 75 } (D, cT, ad, NX, LX) (amQi M (D, cT, ad, NX, LX) z) 3 4 [(0, .ref (ad 0)), (1, .int x1), (2, .int x2)] [] σ := by
  induction n with
  | zero =>
    intro σ x1 x2 h
    have h2 : (none : Option (Int32 × Sg)) = some z := h
    cases h2
  | succ n ih =>
    intro σ x1 x2 h
    exact t_X9_never_b4 X (k4 := f_X9_never_l4 n) ih σ x1 x2 h
set_option maxRecDepth 100000 in
set_option maxHeartbeats 4000000 in
theorem c_X9_never (l : Launch) {σ : Sg} {z : Int32 × Sg} (h : f_X9_never σ = some z) : am_Met l yX9_never cX9_never 3 (some .int) { frames := 3, cells := 0, slots := 0, locals := 75 } NX LX (fun ad => [.ref (ad 0)]) σ z.2 (fun _ => some (.int z.1)) := by
  refine am_enter (by decide +kernel) (fun ad => Nat.le_of_ble_eq_true rfl) (fun M D cT ad hl X => ?_)
  subst hl
  refine r_lv (lv' := [(0, .ref (ad 0))]) rfl ?_
  unfold f_X9_never at h
  refine r_iconst (v := 0) X dX9_never_0 (by decide) ?_
  refine r_istore_n X [(1, .int (0 : Int32)), (0, .ref (ad 0))] dX9_never_1 rfl (by decide) rfl ?_
  refine r_iconst (v := 0) X dX9_never_2 (by decide) ?_
  refine r_istore_n X [(2, .int (0 : Int32)), (1, .int (0 : Int32)), (0, .ref (ad 0))] dX9_never_3 rfl (by decide) rfl ?_
  refine r_sub (lv' := [(0, .ref (ad 0)), (1, .int (0 : Int32)), (2, .int (0 : Int32))]) [2, 1, 0] rfl ?_
  exact t_X9_never_l4 X 300 σ (0 : Int32) (0 : Int32) h
set_option maxRecDepth 100000 in
set_option maxHeartbeats 4000000 in
theorem t_X9_fittingFars_b109 {M : am_M} {D : va_G} {cT : Nat → ClassId} {ad : Nat → Nat} (X : am_X M (D, cT, ad, NX, LX) cX9_fittingFars RX9 6 (some .int)) {z : Int32 × Sg} {k18 : Sg → Int32 → Int32 → Int32 → Int32 → Int32 → Option (Int32 × Sg)} (hk18 : ∀ (σ : Sg) (x1 : Int32) (x2 : Int32) (x3 : Int32) (x4 : Int32) (x5 : Int32), k18 σ x1 x2 x3 x4 x5 = some z → am_At M { frames := 3, cells := 0, slots := 0, locals := 75 } (D, cT, ad, NX, LX) (amQi M (D, cT, ad, NX, LX) z) 6 18 [(0, .ref (ad 0)), (1, .int x1), (2, .int x2), (3, .int x3), (4, .int x4), (5, .int x5)] [] σ) (σ : Sg) (x1 : Int32) (x2 : Int32) (x3 : Int32) (x4 : Int32) (x5 : Int32) (h : f_X9_fittingFars_b109 k18 σ x1 x2 x3 x4 x5 = some z) : am_At M { frames := 3, cells := 0, slots := 0, locals := 75 } (D, cT, ad, NX, LX) (amQi M (D, cT, ad, NX, LX) z) 6 109 [(0, .ref (ad 0)), (1, .int x1), (2, .int x2), (3, .int x3), (4, .int x4), (5, .int x5)] [] σ := by
  unfold f_X9_fittingFars_b109 at h
  refine r_iinc X [(5, .int (x5 + (1 : Int32))), (0, .ref (ad 0)), (1, .int x1), (2, .int x2), (3, .int x3), (4, .int x4)] dX9_fittingFars_109 5 rfl (v := x5 + (1 : Int32)) (by rfl) (by decide) rfl ?_
  refine r_letv h (fun v1 h => ?_)
  refine r_goto X 18 dX9_fittingFars_112 (by decide) ?_
  refine r_sub (lv' := [(0, .ref (ad 0)), (1, .int x1), (2, .int x2), (3, .int x3), (4, .int x4), (5, .int v1)]) [1, 2, 3, 4, 5, 0] rfl ?_
  exact hk18 σ x1 x2 x3 x4 v1 h
set_option maxRecDepth 100000 in
set_option maxHeartbeats 4000000 in
theorem t_X9_fittingFars_b18 {M : am_M} {D : va_G} {cT : Nat → ClassId} {ad : Nat → Nat} (X : am_X M (D, cT, ad, NX, LX) cX9_fittingFars RX9 6 (some .int)) {z : Int32 × Sg} {k18 : Sg → Int32 → Int32 → Int32 → Int32 → Int32 → Option (Int32 × Sg)} (hk18 : ∀ (σ : Sg) (x1 : Int32) (x2 : Int32) (x3 : Int32) (x4 : Int32) (x5 : Int32), k18 σ x1 x2 x3 x4 x5 = some z → am_At M { frames := 3, cells := 0, slots := 0, locals := 75 } (D, cT, ad, NX, LX) (amQi M (D, cT, ad, NX, LX) z) 6 18 [(0, .ref (ad 0)), (1, .int x1), (2, .int x2), (3, .int x3), (4, .int x4), (5, .int x5)] [] σ) (σ : Sg) (x1 : Int32) (x2 : Int32) (x3 : Int32) (x4 : Int32) (x5 : Int32) (h : f_X9_fittingFars_b18 k18 σ x1 x2 x3 x4 x5 = some z) : am_At M { frames := 3, cells := 0, slots := 0, locals := 75 } (D, cT, ad, NX, LX) (amQi M (D, cT, ad, NX, LX) z) 6 18 [(0, .ref (ad 0)), (1, .int x1), (2, .int x2), (3, .int x3), (4, .int x4), (5, .int x5)] [] σ := by
  unfold f_X9_fittingFars_b18 at h
  refine r_iload X dX9_fittingFars_18 5 rfl ?_
  refine r_bipush (v := 9) X dX9_fittingFars_20 (by decide) ?_
  refine r_icmp_gt X 115 dX9_fittingFars_22 (by decide) h (fun h => ?_) (fun h => ?_)
  · refine r_aload_n X dX9_fittingFars_115 rfl 0 rfl ?_
    refine r_getR (c1 := 5) X fg_X9_24_X9 fX_0 rfl dX9_fittingFars_116 ?_
    refine r_getR (c1 := 9) X fg_X9_125_X2 fX_5 rfl dX9_fittingFars_119 ?_
    refine r_iload_n X dX9_fittingFars_122 rfl 1 rfl ?_
    refine r_iload_n X dX9_fittingFars_123 rfl 2 rfl ?_
    refine r_iast X fX_9 dX9_fittingFars_124 h (fun σ1 h => ?_)
    refine r_iload_n X dX9_fittingFars_125 rfl 3 rfl ?_
    exact r_iretz X rfl dX9_fittingFars_126 h
  · refine r_aload_n X dX9_fittingFars_25 rfl 0 rfl ?_
    refine r_getR (c1 := 5) X fg_X9_24_X9 fX_0 rfl dX9_fittingFars_26 ?_
    refine r_getR (c1 := 9) X fg_X9_125_X2 fX_5 rfl dX9_fittingFars_29 ?_
    refine r_iload_n X dX9_fittingFars_32 rfl 1 rfl ?_
    refine r_iload X dX9_fittingFars_33 5 rfl ?_
    refine r_iast X fX_9 dX9_fittingFars_35 h (fun σ2 h => ?_)
    refine r_aload_n X dX9_fittingFars_36 rfl 0 rfl ?_
    refine r_getR (c1 := 35) X fg_X9_59_X9 fX_0 rfl dX9_fittingFars_37 ?_
    refine r_aload_n X dX9_fittingFars_40 rfl 0 rfl ?_
    refine r_getR (c1 := 5) X fg_X9_24_X9 fX_0 rfl dX9_fittingFars_41 ?_
    refine r_aload_n X dX9_fittingFars_44 rfl 0 rfl ?_
    refine r_getR (c1 := 10) X fg_X9_31_X9 fX_0 rfl dX9_fittingFars_45 ?_
    refine r_aload_n X dX9_fittingFars_48 rfl 0 rfl ?_
    refine r_getR (c1 := 14) X fg_X9_38_X9 fX_0 rfl dX9_fittingFars_49 ?_
    refine r_iconst (v := -1) X dX9_fittingFars_52 (by decide) ?_
    obtain ⟨r3, σ4, hc_11, h⟩ := bnd_of h
    refine r_callV (As := [.ref (ad 5), .ref (ad 10), .ref (ad 14), .int (-1 : Int32)]) (rest := []) (st2 := []) (c := 35) X cv_X9_235 (c_X0_run M.2.1 iX0_35 iX1_14 hc_11) rfl (ci := 0) rfl fX_35 rfl rfl (Nat.le_of_ble_eq_true rfl) ⟨⟨rfl, rfl⟩, by decide, by decide⟩ dX9_fittingFars_53 ⟨rfl, rfl⟩ rfl ?_
    refine r_aload_n X dX9_fittingFars_56 rfl 0 rfl ?_
    refine r_getR (c1 := 24) X fg_X9_48_X9 fX_0 rfl dX9_fittingFars_57 ?_
    refine r_aload_n X dX9_fittingFars_60 rfl 0 rfl ?_
    refine r_getR (c1 := 35) X fg_X9_59_X9 fX_0 rfl dX9_fittingFars_61 ?_
    refine r_aload_n X dX9_fittingFars_64 rfl 0 rfl ?_
    refine r_getR (c1 := 5) X fg_X9_24_X9 fX_0 rfl dX9_fittingFars_65 ?_
    refine r_getI X fg_X9_115_X2 fX_5 rfl dX9_fittingFars_68 ?_
    obtain ⟨r5, σ6, hc_10, h⟩ := bnd_of h
    refine r_callV (As := [.ref (ad 35), .int (σ4 5 1)]) (rest := []) (st2 := [.int r5]) (c := 24) X cv_X9_239 (c_X7_fit M.2.1 iX0_35 hc_10) rfl (ci := 6) rfl fX_24 rfl rfl (Nat.le_of_ble_eq_true rfl) ⟨⟨rfl, rfl⟩, by decide, by decide⟩ dX9_fittingFars_71 ⟨rfl, rfl⟩ rfl ?_
    refine r_if_eq X 109 dX9_fittingFars_74 (by decide) h (fun h => ?_) (fun h => ?_)
    · exact t_X9_fittingFars_b109 X hk18 σ6 x1 x2 x3 x4 x5 h
    · refine r_iload_n X dX9_fittingFars_77 rfl 3 rfl ?_
      refine r_iconst (v := 1) X dX9_fittingFars_78 (by decide) ?_
      refine r_iload X dX9_fittingFars_79 5 rfl ?_
      refine r_ishl X dX9_fittingFars_81 ?_
      refine r_ior X dX9_fittingFars_82 ?_
      refine r_leti h (fun v7 h => ?_)
      refine r_istore_n X [(3, .int v7), (0, .ref (ad 0)), (1, .int x1), (2, .int x2), (4, .int x4), (5, .int x5)] dX9_fittingFars_83 rfl (by decide) rfl ?_
      refine r_aload_n X dX9_fittingFars_84 rfl 1 rfl ?_
      refine r_getR (c1 := 35) X fg_X9_59_X9 fX_0 rfl dX9_fittingFars_85 ?_
      refine r_getR (c1 := 39) X fg_X9_178_X0 fX_35 rfl dX9_fittingFars_88 ?_
      refine r_iconst (v := 0) X dX9_fittingFars_91 (by decide) ?_
      refine r_aload_n X dX9_fittingFars_92 rfl 1 rfl ?_
      refine r_getR (c1 := 44) X fg_X9_69_X9 fX_0 rfl dX9_fittingFars_93 ?_
      refine r_iload X dX9_fittingFars_96 4 rfl ?_
      refine r_bipush (v := 24) X dX9_fittingFars_98 (by decide) ?_
      refine r_imul X dX9_fittingFars_100 ?_
      refine r_bipush (v := 24) X dX9_fittingFars_101 (by decide) ?_
      refine r_acopy X ⟨bw_329, bw_330, bw_331, bw_332⟩ fX_39 fX_44 (by decide) (by decide +kernel) dX9_fittingFars_103 h (fun σ8 h => ?_)
      refine r_iinc X [(4, .int (x4 + (1 : Int32))), (3, .int v7), (0, .ref (ad 0)), (1, .int x1), (2, .int x2), (5, .int x5)] dX9_fittingFars_106 4 rfl (v := x4 + (1 : Int32)) (by rfl) (by decide) rfl ?_
      refine r_letv h (fun v9 h => ?_)
      refine r_sub (lv' := [(0, .ref (ad 0)), (1, .int x1), (2, .int x2), (3, .int v7), (4, .int v9), (5, .int x5)]) [2, 3, 4, 1, 0, 5] rfl ?_
      exact t_X9_fittingFars_b109 X hk18 σ8 x1 x2 v7 v9 x5 h
theorem t_X9_fittingFars_l18 {M : am_M} {D : va_G} {cT : Nat → ClassId} {ad : Nat → Nat} (X : am_X M (D, cT, ad, NX, LX) cX9_fittingFars RX9 6 (some .int)) {z : Int32 × Sg} (n : Nat) : ∀ (σ : Sg) (x1 : Int32) (x2 : Int32) (x3 : Int32) (x4 : Int32) (x5 : Int32), f_X9_fittingFars_l18 n σ x1 x2 x3 x4 x5 = some z → am_At M { frames := 3, cells := 0, slots := 0, locals := 75 } (D, cT, ad, NX, LX) (amQi M (D, cT, ad, NX, LX) z) 6 18 [(0, .ref (ad 0)), (1, .int x1), (2, .int x2), (3, .int x3), (4, .int x4), (5, .int x5)] [] σ := by
  induction n with
  | zero =>
    intro σ x1 x2 x3 x4 x5 h
    have h2 : (none : Option (Int32 × Sg)) = some z := h
    cases h2
  | succ n ih =>
    intro σ x1 x2 x3 x4 x5 h
    exact t_X9_fittingFars_b18 X (k18 := f_X9_fittingFars_l18 n) ih σ x1 x2 x3 x4 x5 h
set_option maxRecDepth 100000 in
set_option maxHeartbeats 4000000 in
theorem c_X9_fittingFars (l : Launch) {σ : Sg} {a1 : Int32} {z : Int32 × Sg} (h : f_X9_fittingFars σ a1 = some z) : am_Met l yX9_fittingFars cX9_fittingFars 6 (some .int) { frames := 3, cells := 0, slots := 0, locals := 75 } NX LX (fun ad => [.ref (ad 0), .int a1]) σ z.2 (fun _ => some (.int z.1)) := by
  refine am_enter (by decide +kernel) (fun ad => Nat.le_of_ble_eq_true rfl) (fun M D cT ad hl X => ?_)
  subst hl
  refine r_lv (lv' := [(0, .ref (ad 0)), (1, .int a1)]) rfl ?_
  unfold f_X9_fittingFars at h
  refine r_aload_n X dX9_fittingFars_0 rfl 0 rfl ?_
  refine r_getR (c1 := 5) X fg_X9_24_X9 fX_0 rfl dX9_fittingFars_1 ?_
  refine r_getR (c1 := 9) X fg_X9_125_X2 fX_5 rfl dX9_fittingFars_4 ?_
  refine r_iload_n X dX9_fittingFars_7 rfl 1 rfl ?_
  refine r_iald X fX_9 dX9_fittingFars_8 h (fun h => ?_)
  refine r_leti h (fun v1 h => ?_)
  refine r_istore_n X [(2, .int v1), (0, .ref (ad 0)), (1, .int a1)] dX9_fittingFars_9 rfl (by decide) rfl ?_
  refine r_iconst (v := 0) X dX9_fittingFars_10 (by decide) ?_
  refine r_istore_n X [(3, .int (0 : Int32)), (2, .int v1), (0, .ref (ad 0)), (1, .int a1)] dX9_fittingFars_11 rfl (by decide) rfl ?_
  refine r_iconst (v := 0) X dX9_fittingFars_12 (by decide) ?_
  refine r_istore X [(4, .int (0 : Int32)), (3, .int (0 : Int32)), (2, .int v1), (0, .ref (ad 0)), (1, .int a1)] dX9_fittingFars_13 (by decide) rfl ?_
  refine r_iconst (v := 1) X dX9_fittingFars_15 (by decide) ?_
  refine r_istore X [(5, .int (1 : Int32)), (4, .int (0 : Int32)), (3, .int (0 : Int32)), (2, .int v1), (0, .ref (ad 0)), (1, .int a1)] dX9_fittingFars_16 (by decide) rfl ?_
  refine r_sub (lv' := [(0, .ref (ad 0)), (1, .int a1), (2, .int v1), (3, .int (0 : Int32)), (4, .int (0 : Int32)), (5, .int (1 : Int32))]) [4, 5, 3, 2, 1, 0] rfl ?_
  exact t_X9_fittingFars_l18 X 300 σ a1 v1 (0 : Int32) (0 : Int32) (1 : Int32) h
set_option maxRecDepth 100000 in
set_option maxHeartbeats 4000000 in
theorem t_X9_fittingSorts_b80 {M : am_M} {D : va_G} {cT : Nat → ClassId} {ad : Nat → Nat} (X : am_X M (D, cT, ad, NX, LX) cX9_fittingSorts RX9 5 (some .int)) {z : Int32 × Sg} {k15 : Sg → Int32 → Int32 → Int32 → Int32 → Option (Int32 × Sg)} (hk15 : ∀ (σ : Sg) (x1 : Int32) (x2 : Int32) (x3 : Int32) (x4 : Int32), k15 σ x1 x2 x3 x4 = some z → am_At M { frames := 3, cells := 0, slots := 0, locals := 75 } (D, cT, ad, NX, LX) (amQi M (D, cT, ad, NX, LX) z) 5 15 [(0, .ref (ad 0)), (1, .int x1), (2, .int x2), (3, .int x3), (4, .int x4)] [] σ) (σ : Sg) (x1 : Int32) (x2 : Int32) (x3 : Int32) (x4 : Int32) (h : f_X9_fittingSorts_b80 k15 σ x1 x2 x3 x4 = some z) : am_At M { frames := 3, cells := 0, slots := 0, locals := 75 } (D, cT, ad, NX, LX) (amQi M (D, cT, ad, NX, LX) z) 5 80 [(0, .ref (ad 0)), (1, .int x1), (2, .int x2), (3, .int x3), (4, .int x4)] [] σ := by
  unfold f_X9_fittingSorts_b80 at h
  refine r_iinc X [(4, .int (x4 + (1 : Int32))), (0, .ref (ad 0)), (1, .int x1), (2, .int x2), (3, .int x3)] dX9_fittingSorts_80 4 rfl (v := x4 + (1 : Int32)) (by rfl) (by decide) rfl ?_
  refine r_letv h (fun v1 h => ?_)
  refine r_goto X 15 dX9_fittingSorts_83 (by decide) ?_
  refine r_sub (lv' := [(0, .ref (ad 0)), (1, .int x1), (2, .int x2), (3, .int x3), (4, .int v1)]) [1, 2, 3, 4, 0] rfl ?_
  exact hk15 σ x1 x2 x3 v1 h
set_option maxRecDepth 100000 in
set_option maxHeartbeats 4000000 in
theorem t_X9_fittingSorts_b15 {M : am_M} {D : va_G} {cT : Nat → ClassId} {ad : Nat → Nat} (X : am_X M (D, cT, ad, NX, LX) cX9_fittingSorts RX9 5 (some .int)) {z : Int32 × Sg} {k15 : Sg → Int32 → Int32 → Int32 → Int32 → Option (Int32 × Sg)} (hk15 : ∀ (σ : Sg) (x1 : Int32) (x2 : Int32) (x3 : Int32) (x4 : Int32), k15 σ x1 x2 x3 x4 = some z → am_At M { frames := 3, cells := 0, slots := 0, locals := 75 } (D, cT, ad, NX, LX) (amQi M (D, cT, ad, NX, LX) z) 5 15 [(0, .ref (ad 0)), (1, .int x1), (2, .int x2), (3, .int x3), (4, .int x4)] [] σ) (σ : Sg) (x1 : Int32) (x2 : Int32) (x3 : Int32) (x4 : Int32) (h : f_X9_fittingSorts_b15 k15 σ x1 x2 x3 x4 = some z) : am_At M { frames := 3, cells := 0, slots := 0, locals := 75 } (D, cT, ad, NX, LX) (amQi M (D, cT, ad, NX, LX) z) 5 15 [(0, .ref (ad 0)), (1, .int x1), (2, .int x2), (3, .int x3), (4, .int x4)] [] σ := by
  unfold f_X9_fittingSorts_b15 at h
  refine r_iload X dX9_fittingSorts_15 4 rfl ?_
  refine r_iconst (v := 3) X dX9_fittingSorts_17 (by decide) ?_
  refine r_icmp_ge X 86 dX9_fittingSorts_18 (by decide) h (fun h => ?_) (fun h => ?_)
  · refine r_aload_n X dX9_fittingSorts_86 rfl 0 rfl ?_
    refine r_getR (c1 := 5) X fg_X9_24_X9 fX_0 rfl dX9_fittingSorts_87 ?_
    refine r_getR (c1 := 6) X fg_X9_116_X2 fX_5 rfl dX9_fittingSorts_90 ?_
    refine r_iload_n X dX9_fittingSorts_93 rfl 1 rfl ?_
    refine r_iload_n X dX9_fittingSorts_94 rfl 2 rfl ?_
    refine r_iast X fX_6 dX9_fittingSorts_95 h (fun σ1 h => ?_)
    refine r_iload_n X dX9_fittingSorts_96 rfl 3 rfl ?_
    exact r_iretz X rfl dX9_fittingSorts_97 h
  · refine r_aload_n X dX9_fittingSorts_21 rfl 0 rfl ?_
    refine r_getR (c1 := 5) X fg_X9_24_X9 fX_0 rfl dX9_fittingSorts_22 ?_
    refine r_getR (c1 := 6) X fg_X9_116_X2 fX_5 rfl dX9_fittingSorts_25 ?_
    refine r_iload_n X dX9_fittingSorts_28 rfl 1 rfl ?_
    refine r_iload X dX9_fittingSorts_29 4 rfl ?_
    refine r_iast X fX_6 dX9_fittingSorts_31 h (fun σ2 h => ?_)
    refine r_aload_n X dX9_fittingSorts_32 rfl 0 rfl ?_
    refine r_getR (c1 := 35) X fg_X9_59_X9 fX_0 rfl dX9_fittingSorts_33 ?_
    refine r_aload_n X dX9_fittingSorts_36 rfl 0 rfl ?_
    refine r_getR (c1 := 5) X fg_X9_24_X9 fX_0 rfl dX9_fittingSorts_37 ?_
    refine r_aload_n X dX9_fittingSorts_40 rfl 0 rfl ?_
    refine r_getR (c1 := 10) X fg_X9_31_X9 fX_0 rfl dX9_fittingSorts_41 ?_
    refine r_aload_n X dX9_fittingSorts_44 rfl 0 rfl ?_
    refine r_getR (c1 := 14) X fg_X9_38_X9 fX_0 rfl dX9_fittingSorts_45 ?_
    refine r_iconst (v := -1) X dX9_fittingSorts_48 (by decide) ?_
    obtain ⟨r3, σ4, hc_9, h⟩ := bnd_of h
    refine r_callV (As := [.ref (ad 5), .ref (ad 10), .ref (ad 14), .int (-1 : Int32)]) (rest := []) (st2 := []) (c := 35) X cv_X9_235 (c_X0_run M.2.1 iX0_35 iX1_14 hc_9) rfl (ci := 0) rfl fX_35 rfl rfl (Nat.le_of_ble_eq_true rfl) ⟨⟨rfl, rfl⟩, by decide, by decide⟩ dX9_fittingSorts_49 ⟨rfl, rfl⟩ rfl ?_
    refine r_aload_n X dX9_fittingSorts_52 rfl 0 rfl ?_
    refine r_getR (c1 := 24) X fg_X9_48_X9 fX_0 rfl dX9_fittingSorts_53 ?_
    refine r_aload_n X dX9_fittingSorts_56 rfl 0 rfl ?_
    refine r_getR (c1 := 35) X fg_X9_59_X9 fX_0 rfl dX9_fittingSorts_57 ?_
    refine r_aload_n X dX9_fittingSorts_60 rfl 0 rfl ?_
    refine r_getR (c1 := 5) X fg_X9_24_X9 fX_0 rfl dX9_fittingSorts_61 ?_
    refine r_getI X fg_X9_115_X2 fX_5 rfl dX9_fittingSorts_64 ?_
    obtain ⟨r5, σ6, hc_8, h⟩ := bnd_of h
    refine r_callV (As := [.ref (ad 35), .int (σ4 5 1)]) (rest := []) (st2 := [.int r5]) (c := 24) X cv_X9_239 (c_X7_fit M.2.1 iX0_35 hc_8) rfl (ci := 6) rfl fX_24 rfl rfl (Nat.le_of_ble_eq_true rfl) ⟨⟨rfl, rfl⟩, by decide, by decide⟩ dX9_fittingSorts_67 ⟨rfl, rfl⟩ rfl ?_
    refine r_if_eq X 80 dX9_fittingSorts_70 (by decide) h (fun h => ?_) (fun h => ?_)
    · exact t_X9_fittingSorts_b80 X hk15 σ6 x1 x2 x3 x4 h
    · refine r_iload_n X dX9_fittingSorts_73 rfl 3 rfl ?_
      refine r_iconst (v := 1) X dX9_fittingSorts_74 (by decide) ?_
      refine r_iload X dX9_fittingSorts_75 4 rfl ?_
      refine r_ishl X dX9_fittingSorts_77 ?_
      refine r_ior X dX9_fittingSorts_78 ?_
      refine r_leti h (fun v7 h => ?_)
      refine r_istore_n X [(3, .int v7), (0, .ref (ad 0)), (1, .int x1), (2, .int x2), (4, .int x4)] dX9_fittingSorts_79 rfl (by decide) rfl ?_
      refine r_sub (lv' := [(0, .ref (ad 0)), (1, .int x1), (2, .int x2), (3, .int v7), (4, .int x4)]) [1, 2, 3, 0, 4] rfl ?_
      exact t_X9_fittingSorts_b80 X hk15 σ6 x1 x2 v7 x4 h
theorem t_X9_fittingSorts_l15 {M : am_M} {D : va_G} {cT : Nat → ClassId} {ad : Nat → Nat} (X : am_X M (D, cT, ad, NX, LX) cX9_fittingSorts RX9 5 (some .int)) {z : Int32 × Sg} (n : Nat) : ∀ (σ : Sg) (x1 : Int32) (x2 : Int32) (x3 : Int32) (x4 : Int32), f_X9_fittingSorts_l15 n σ x1 x2 x3 x4 = some z → am_At M { frames := 3, cells := 0, slots := 0, locals := 75 } (D, cT, ad, NX, LX) (amQi M (D, cT, ad, NX, LX) z) 5 15 [(0, .ref (ad 0)), (1, .int x1), (2, .int x2), (3, .int x3), (4, .int x4)] [] σ := by
  induction n with
  | zero =>
    intro σ x1 x2 x3 x4 h
    have h2 : (none : Option (Int32 × Sg)) = some z := h
    cases h2
  | succ n ih =>
    intro σ x1 x2 x3 x4 h
    exact t_X9_fittingSorts_b15 X (k15 := f_X9_fittingSorts_l15 n) ih σ x1 x2 x3 x4 h
set_option maxRecDepth 100000 in
set_option maxHeartbeats 4000000 in
theorem c_X9_fittingSorts (l : Launch) {σ : Sg} {a1 : Int32} {z : Int32 × Sg} (h : f_X9_fittingSorts σ a1 = some z) : am_Met l yX9_fittingSorts cX9_fittingSorts 5 (some .int) { frames := 3, cells := 0, slots := 0, locals := 75 } NX LX (fun ad => [.ref (ad 0), .int a1]) σ z.2 (fun _ => some (.int z.1)) := by
  refine am_enter (by decide +kernel) (fun ad => Nat.le_of_ble_eq_true rfl) (fun M D cT ad hl X => ?_)
  subst hl
  refine r_lv (lv' := [(0, .ref (ad 0)), (1, .int a1)]) rfl ?_
  unfold f_X9_fittingSorts at h
  refine r_aload_n X dX9_fittingSorts_0 rfl 0 rfl ?_
  refine r_getR (c1 := 5) X fg_X9_24_X9 fX_0 rfl dX9_fittingSorts_1 ?_
  refine r_getR (c1 := 6) X fg_X9_116_X2 fX_5 rfl dX9_fittingSorts_4 ?_
  refine r_iload_n X dX9_fittingSorts_7 rfl 1 rfl ?_
  refine r_iald X fX_6 dX9_fittingSorts_8 h (fun h => ?_)
  refine r_leti h (fun v1 h => ?_)
  refine r_istore_n X [(2, .int v1), (0, .ref (ad 0)), (1, .int a1)] dX9_fittingSorts_9 rfl (by decide) rfl ?_
  refine r_iconst (v := 0) X dX9_fittingSorts_10 (by decide) ?_
  refine r_istore_n X [(3, .int (0 : Int32)), (2, .int v1), (0, .ref (ad 0)), (1, .int a1)] dX9_fittingSorts_11 rfl (by decide) rfl ?_
  refine r_iconst (v := 0) X dX9_fittingSorts_12 (by decide) ?_
  refine r_istore X [(4, .int (0 : Int32)), (3, .int (0 : Int32)), (2, .int v1), (0, .ref (ad 0)), (1, .int a1)] dX9_fittingSorts_13 (by decide) rfl ?_
  refine r_sub (lv' := [(0, .ref (ad 0)), (1, .int a1), (2, .int v1), (3, .int (0 : Int32)), (4, .int (0 : Int32))]) [3, 4, 2, 1, 0] rfl ?_
  exact t_X9_fittingSorts_l15 X 300 σ a1 v1 (0 : Int32) (0 : Int32) h
set_option maxRecDepth 100000 in
set_option maxHeartbeats 4000000 in
theorem c_X9_was (l : Launch) {σ : Sg} {a1 : Int32} {a2 : Int32} {z : Int32 × Sg} (h : f_X9_was σ a1 a2 = some z) : am_Met l yX9_was cX9_was 3 (some .int) { frames := 4, cells := 0, slots := 0, locals := 100 } NX LX (fun ad => [.ref (ad 0), .int a1, .int a2]) σ z.2 (fun _ => some (.int z.1)) := by
  refine am_enter (by decide +kernel) (fun ad => Nat.le_of_ble_eq_true rfl) (fun M D cT ad hl X => ?_)
  subst hl
  refine r_lv (lv' := [(0, .ref (ad 0)), (1, .int a1), (2, .int a2)]) rfl ?_
  unfold f_X9_was at h
  refine r_iload_n X dX9_was_0 rfl 1 rfl ?_
  refine r_aload_n X dX9_was_1 rfl 0 rfl ?_
  refine r_getR (c1 := 5) X fg_X9_24_X9 fX_0 rfl dX9_was_2 ?_
  refine r_getI X fg_X9_115_X2 fX_5 rfl dX9_was_5 ?_
  obtain ⟨r1, σ2, hc_12, h⟩ := bnd_of h
  refine r_callS (As := [.int a1, .int (σ 5 1)]) (rest := []) (st2 := [.int r1]) X cv_X9_91 (c_X9_isBelow M.2.1 hc_12) rfl rfl rfl (Nat.le_of_ble_eq_true rfl) ⟨⟨rfl, rfl⟩, by decide, by decide⟩ dX9_was_8 ⟨rfl, rfl⟩ rfl ?_
  refine r_if_eq X 22 dX9_was_11 (by decide) h (fun h => ?_) (fun h => ?_)
  · refine r_bipush (v := -2) X dX9_was_22 (by decide) ?_
    exact r_iretz X rfl dX9_was_24 h
  · refine r_iload_n X dX9_was_14 rfl 2 rfl ?_
    refine r_iconst (v := 2) X dX9_was_15 (by decide) ?_
    obtain ⟨r3, σ4, hc_11, h⟩ := bnd_of h
    refine r_callS (As := [.int a2, .int (2 : Int32)]) (rest := []) (st2 := [.int r3]) X cv_X9_91 (c_X9_isBelow M.2.1 hc_11) rfl rfl rfl (Nat.le_of_ble_eq_true rfl) ⟨⟨rfl, rfl⟩, by decide, by decide⟩ dX9_was_16 ⟨rfl, rfl⟩ rfl ?_
    refine r_if_ne X 25 dX9_was_19 (by decide) h (fun h => ?_) (fun h => ?_)
    · refine r_bipush (v := -2) X dX9_was_22 (by decide) ?_
      exact r_iretz X rfl dX9_was_24 h
    · refine r_iload_n X dX9_was_25 rfl 2 rfl ?_
      refine r_if_ne X 37 dX9_was_26 (by decide) h (fun h => ?_) (fun h => ?_)
      · refine r_aload_n X dX9_was_29 rfl 0 rfl ?_
        refine r_iload_n X dX9_was_30 rfl 1 rfl ?_
        obtain ⟨r8, σ9, hc_10, h⟩ := bnd_of h
        refine r_callV (As := [.int a1]) (rest := []) (st2 := [.int r8]) (c := 0) X cv_X9_243 (c_X9_fittingSorts M.2.1 hc_10) rfl (ci := 8) rfl fX_0 rfl rfl (Nat.le_of_ble_eq_true rfl) ⟨⟨rfl, rfl⟩, by decide, by decide⟩ dX9_was_31 ⟨rfl, rfl⟩ rfl ?_
        refine r_goto X 42 dX9_was_34 (by decide) ?_
        exact r_iretz X rfl dX9_was_42 h
      · refine r_aload_n X dX9_was_37 rfl 0 rfl ?_
        refine r_iload_n X dX9_was_38 rfl 1 rfl ?_
        obtain ⟨r5, σ6, hc_7, h⟩ := bnd_of h
        refine r_callV (As := [.int a1]) (rest := []) (st2 := [.int r5]) (c := 0) X cv_X9_246 (c_X9_fittingFars M.2.1 hc_7) rfl (ci := 8) rfl fX_0 rfl rfl (Nat.le_of_ble_eq_true rfl) ⟨⟨rfl, rfl⟩, by decide, by decide⟩ dX9_was_39 ⟨rfl, rfl⟩ rfl ?_
        exact r_iretz X rfl dX9_was_42 h
set_option maxRecDepth 100000 in
set_option maxHeartbeats 4000000 in
theorem t_X9_greatestAlike_b53 {M : am_M} {D : va_G} {cT : Nat → ClassId} {ad : Nat → Nat} (X : am_X M (D, cT, ad, NX, LX) cX9_greatestAlike RX9 7 (some .int)) {z : Int32 × Sg} {k5 : Sg → Int32 → Int32 → Int32 → Int32 → Option (Int32 × Sg)} (hk5 : ∀ (σ : Sg) (x1 : Int32) (x2 : Int32) (x3 : Int32) (x4 : Int32), k5 σ x1 x2 x3 x4 = some z → am_At M { frames := 1, cells := 0, slots := 0, locals := 17 } (D, cT, ad, NX, LX) (amQi M (D, cT, ad, NX, LX) z) 7 5 [(0, .ref (ad 0)), (1, .int x1), (2, .int x2), (3, .int x3), (4, .int x4)] [] σ) {k17 : Sg → Int32 → Int32 → Int32 → Int32 → Int32 → Int32 → Option (Int32 × Sg)} (hk17 : ∀ (σ : Sg) (x1 : Int32) (x2 : Int32) (x3 : Int32) (x4 : Int32) (x5 : Int32) (x6 : Int32), k17 σ x1 x2 x3 x4 x5 x6 = some z → am_At M { frames := 1, cells := 0, slots := 0, locals := 17 } (D, cT, ad, NX, LX) (amQi M (D, cT, ad, NX, LX) z) 7 17 [(0, .ref (ad 0)), (1, .int x1), (2, .int x2), (3, .int x3), (4, .int x4), (5, .int x5), (6, .int x6)] [] σ) (σ : Sg) (x1 : Int32) (x2 : Int32) (x3 : Int32) (x4 : Int32) (x5 : Int32) (x6 : Int32) (h : f_X9_greatestAlike_b53 k5 k17 σ x1 x2 x3 x4 x5 x6 = some z) : am_At M { frames := 1, cells := 0, slots := 0, locals := 17 } (D, cT, ad, NX, LX) (amQi M (D, cT, ad, NX, LX) z) 7 53 [(0, .ref (ad 0)), (1, .int x1), (2, .int x2), (3, .int x3), (4, .int x4), (5, .int x5), (6, .int x6)] [] σ := by
  unfold f_X9_greatestAlike_b53 at h
  refine r_iinc X [(6, .int (x6 + (1 : Int32))), (0, .ref (ad 0)), (1, .int x1), (2, .int x2), (3, .int x3), (4, .int x4), (5, .int x5)] dX9_greatestAlike_53 6 rfl (v := x6 + (1 : Int32)) (by rfl) (by decide) rfl ?_
  refine r_letv h (fun v1 h => ?_)
  refine r_goto X 17 dX9_greatestAlike_56 (by decide) ?_
  refine r_sub (lv' := [(0, .ref (ad 0)), (1, .int x1), (2, .int x2), (3, .int x3), (4, .int x4), (5, .int x5), (6, .int v1)]) [1, 2, 3, 4, 5, 6, 0] rfl ?_
  exact hk17 σ x1 x2 x3 x4 x5 v1 h
set_option maxRecDepth 100000 in
set_option maxHeartbeats 4000000 in
theorem t_X9_greatestAlike_b17 {M : am_M} {D : va_G} {cT : Nat → ClassId} {ad : Nat → Nat} (X : am_X M (D, cT, ad, NX, LX) cX9_greatestAlike RX9 7 (some .int)) {z : Int32 × Sg} {k5 : Sg → Int32 → Int32 → Int32 → Int32 → Option (Int32 × Sg)} (hk5 : ∀ (σ : Sg) (x1 : Int32) (x2 : Int32) (x3 : Int32) (x4 : Int32), k5 σ x1 x2 x3 x4 = some z → am_At M { frames := 1, cells := 0, slots := 0, locals := 17 } (D, cT, ad, NX, LX) (amQi M (D, cT, ad, NX, LX) z) 7 5 [(0, .ref (ad 0)), (1, .int x1), (2, .int x2), (3, .int x3), (4, .int x4)] [] σ) {k17 : Sg → Int32 → Int32 → Int32 → Int32 → Int32 → Int32 → Option (Int32 × Sg)} (hk17 : ∀ (σ : Sg) (x1 : Int32) (x2 : Int32) (x3 : Int32) (x4 : Int32) (x5 : Int32) (x6 : Int32), k17 σ x1 x2 x3 x4 x5 x6 = some z → am_At M { frames := 1, cells := 0, slots := 0, locals := 17 } (D, cT, ad, NX, LX) (amQi M (D, cT, ad, NX, LX) z) 7 17 [(0, .ref (ad 0)), (1, .int x1), (2, .int x2), (3, .int x3), (4, .int x4), (5, .int x5), (6, .int x6)] [] σ) (σ : Sg) (x1 : Int32) (x2 : Int32) (x3 : Int32) (x4 : Int32) (x5 : Int32) (x6 : Int32) (h : f_X9_greatestAlike_b17 k5 k17 σ x1 x2 x3 x4 x5 x6 = some z) : am_At M { frames := 1, cells := 0, slots := 0, locals := 17 } (D, cT, ad, NX, LX) (amQi M (D, cT, ad, NX, LX) z) 7 17 [(0, .ref (ad 0)), (1, .int x1), (2, .int x2), (3, .int x3), (4, .int x4), (5, .int x5), (6, .int x6)] [] σ := by
  unfold f_X9_greatestAlike_b17 at h
  refine r_iload X dX9_greatestAlike_17 6 rfl ?_
  refine r_iload_n X dX9_greatestAlike_19 rfl 2 rfl ?_
  refine r_icmp_ge X 59 dX9_greatestAlike_20 (by decide) h (fun h => ?_) (fun h => ?_)
  · refine r_iload_n X dX9_greatestAlike_59 rfl 3 rfl ?_
    refine r_iload X dX9_greatestAlike_60 5 rfl ?_
    refine r_mmax X ⟨bw_341, bw_342, bw_343, bw_344⟩ (by decide) (Nat.le_of_ble_eq_true rfl) dX9_greatestAlike_62 ?_
    refine r_leti h (fun v1 h => ?_)
    refine r_istore_n X [(3, .int v1), (0, .ref (ad 0)), (1, .int x1), (2, .int x2), (4, .int x4), (5, .int x5), (6, .int x6)] dX9_greatestAlike_65 rfl (by decide) rfl ?_
    refine r_iinc X [(4, .int (x4 + (1 : Int32))), (3, .int v1), (0, .ref (ad 0)), (1, .int x1), (2, .int x2), (5, .int x5), (6, .int x6)] dX9_greatestAlike_66 4 rfl (v := x4 + (1 : Int32)) (by rfl) (by decide) rfl ?_
    refine r_letv h (fun v2 h => ?_)
    refine r_goto X 5 dX9_greatestAlike_69 (by decide) ?_
    refine r_sub (lv' := [(0, .ref (ad 0)), (1, .int x1), (2, .int x2), (3, .int v1), (4, .int v2)]) [2, 3, 4, 1, 0] rfl ?_
    exact hk5 σ x1 x2 v1 v2 h
  · refine r_aload_n X dX9_greatestAlike_23 rfl 0 rfl ?_
    refine r_getR (c1 := 44) X fg_X9_69_X9 fX_0 rfl dX9_greatestAlike_24 ?_
    refine r_iload X dX9_greatestAlike_27 4 rfl ?_
    refine r_bipush (v := 24) X dX9_greatestAlike_29 (by decide) ?_
    refine r_imul X dX9_greatestAlike_31 ?_
    refine r_iload_n X dX9_greatestAlike_32 rfl 1 rfl ?_
    refine r_iadd X dX9_greatestAlike_33 ?_
    refine r_iald X fX_44 dX9_greatestAlike_34 h (fun h => ?_)
    refine r_aload_n X dX9_greatestAlike_35 rfl 0 rfl ?_
    refine r_getR (c1 := 44) X fg_X9_69_X9 fX_0 rfl dX9_greatestAlike_36 ?_
    refine r_iload X dX9_greatestAlike_39 6 rfl ?_
    refine r_bipush (v := 24) X dX9_greatestAlike_41 (by decide) ?_
    refine r_imul X dX9_greatestAlike_43 ?_
    refine r_iload_n X dX9_greatestAlike_44 rfl 1 rfl ?_
    refine r_iadd X dX9_greatestAlike_45 ?_
    refine r_iald X fX_44 dX9_greatestAlike_46 h (fun h => ?_)
    refine r_icmp_ne X 53 dX9_greatestAlike_47 (by decide) h (fun h => ?_) (fun h => ?_)
    · refine r_iinc X [(5, .int (x5 + (1 : Int32))), (0, .ref (ad 0)), (1, .int x1), (2, .int x2), (3, .int x3), (4, .int x4), (6, .int x6)] dX9_greatestAlike_50 5 rfl (v := x5 + (1 : Int32)) (by rfl) (by decide) rfl ?_
      refine r_letv h (fun v3 h => ?_)
      refine r_sub (lv' := [(0, .ref (ad 0)), (1, .int x1), (2, .int x2), (3, .int x3), (4, .int x4), (5, .int v3), (6, .int x6)]) [1, 2, 3, 4, 5, 0, 6] rfl ?_
      exact t_X9_greatestAlike_b53 X hk5 hk17 σ x1 x2 x3 x4 v3 x6 h
    · exact t_X9_greatestAlike_b53 X hk5 hk17 σ x1 x2 x3 x4 x5 x6 h
theorem t_X9_greatestAlike_l17 {M : am_M} {D : va_G} {cT : Nat → ClassId} {ad : Nat → Nat} (X : am_X M (D, cT, ad, NX, LX) cX9_greatestAlike RX9 7 (some .int)) {z : Int32 × Sg} {k5 : Sg → Int32 → Int32 → Int32 → Int32 → Option (Int32 × Sg)} (hk5 : ∀ (σ : Sg) (x1 : Int32) (x2 : Int32) (x3 : Int32) (x4 : Int32), k5 σ x1 x2 x3 x4 = some z → am_At M { frames := 1, cells := 0, slots := 0, locals := 17 } (D, cT, ad, NX, LX) (amQi M (D, cT, ad, NX, LX) z) 7 5 [(0, .ref (ad 0)), (1, .int x1), (2, .int x2), (3, .int x3), (4, .int x4)] [] σ) (n : Nat) : ∀ (σ : Sg) (x1 : Int32) (x2 : Int32) (x3 : Int32) (x4 : Int32) (x5 : Int32) (x6 : Int32), f_X9_greatestAlike_l17 k5 n σ x1 x2 x3 x4 x5 x6 = some z → am_At M { frames := 1, cells := 0, slots := 0, locals := 17 } (D, cT, ad, NX, LX) (amQi M (D, cT, ad, NX, LX) z) 7 17 [(0, .ref (ad 0)), (1, .int x1), (2, .int x2), (3, .int x3), (4, .int x4), (5, .int x5), (6, .int x6)] [] σ := by
  induction n with
  | zero =>
    intro σ x1 x2 x3 x4 x5 x6 h
    have h2 : (none : Option (Int32 × Sg)) = some z := h
    cases h2
  | succ n ih =>
    intro σ x1 x2 x3 x4 x5 x6 h
    exact t_X9_greatestAlike_b17 X hk5 (k17 := f_X9_greatestAlike_l17 k5 n) ih σ x1 x2 x3 x4 x5 x6 h
set_option maxRecDepth 100000 in
set_option maxHeartbeats 4000000 in
theorem t_X9_greatestAlike_b5 {M : am_M} {D : va_G} {cT : Nat → ClassId} {ad : Nat → Nat} (X : am_X M (D, cT, ad, NX, LX) cX9_greatestAlike RX9 7 (some .int)) {z : Int32 × Sg} {k5 : Sg → Int32 → Int32 → Int32 → Int32 → Option (Int32 × Sg)} (hk5 : ∀ (σ : Sg) (x1 : Int32) (x2 : Int32) (x3 : Int32) (x4 : Int32), k5 σ x1 x2 x3 x4 = some z → am_At M { frames := 1, cells := 0, slots := 0, locals := 17 } (D, cT, ad, NX, LX) (amQi M (D, cT, ad, NX, LX) z) 7 5 [(0, .ref (ad 0)), (1, .int x1), (2, .int x2), (3, .int x3), (4, .int x4)] [] σ) (σ : Sg) (x1 : Int32) (x2 : Int32) (x3 : Int32) (x4 : Int32) (h : f_X9_greatestAlike_b5 k5 σ x1 x2 x3 x4 = some z) : am_At M { frames := 1, cells := 0, slots := 0, locals := 17 } (D, cT, ad, NX, LX) (amQi M (D, cT, ad, NX, LX) z) 7 5 [(0, .ref (ad 0)), (1, .int x1), (2, .int x2), (3, .int x3), (4, .int x4)] [] σ := by
  unfold f_X9_greatestAlike_b5 at h
  refine r_iload X dX9_greatestAlike_5 4 rfl ?_
  refine r_iload_n X dX9_greatestAlike_7 rfl 2 rfl ?_
  refine r_icmp_ge X 72 dX9_greatestAlike_8 (by decide) h (fun h => ?_) (fun h => ?_)
  · refine r_iload_n X dX9_greatestAlike_72 rfl 3 rfl ?_
    exact r_iretz X rfl dX9_greatestAlike_73 h
  · refine r_iconst (v := 0) X dX9_greatestAlike_11 (by decide) ?_
    refine r_istore X [(5, .int (0 : Int32)), (0, .ref (ad 0)), (1, .int x1), (2, .int x2), (3, .int x3), (4, .int x4)] dX9_greatestAlike_12 (by decide) rfl ?_
    refine r_iconst (v := 0) X dX9_greatestAlike_14 (by decide) ?_
    refine r_istore X [(6, .int (0 : Int32)), (5, .int (0 : Int32)), (0, .ref (ad 0)), (1, .int x1), (2, .int x2), (3, .int x3), (4, .int x4)] dX9_greatestAlike_15 (by decide) rfl ?_
    refine r_sub (lv' := [(0, .ref (ad 0)), (1, .int x1), (2, .int x2), (3, .int x3), (4, .int x4), (5, .int (0 : Int32)), (6, .int (0 : Int32))]) [2, 3, 4, 5, 6, 1, 0] rfl ?_
    exact t_X9_greatestAlike_l17 X hk5 300 σ x1 x2 x3 x4 (0 : Int32) (0 : Int32) h
theorem t_X9_greatestAlike_l5 {M : am_M} {D : va_G} {cT : Nat → ClassId} {ad : Nat → Nat} (X : am_X M (D, cT, ad, NX, LX) cX9_greatestAlike RX9 7 (some .int)) {z : Int32 × Sg} (n : Nat) : ∀ (σ : Sg) (x1 : Int32) (x2 : Int32) (x3 : Int32) (x4 : Int32), f_X9_greatestAlike_l5 n σ x1 x2 x3 x4 = some z → am_At M { frames := 1, cells := 0, slots := 0, locals := 17 } (D, cT, ad, NX, LX) (amQi M (D, cT, ad, NX, LX) z) 7 5 [(0, .ref (ad 0)), (1, .int x1), (2, .int x2), (3, .int x3), (4, .int x4)] [] σ := by
  induction n with
  | zero =>
    intro σ x1 x2 x3 x4 h
    have h2 : (none : Option (Int32 × Sg)) = some z := h
    cases h2
  | succ n ih =>
    intro σ x1 x2 x3 x4 h
    exact t_X9_greatestAlike_b5 X (k5 := f_X9_greatestAlike_l5 n) ih σ x1 x2 x3 x4 h
set_option maxRecDepth 100000 in
set_option maxHeartbeats 4000000 in
theorem c_X9_greatestAlike (l : Launch) {σ : Sg} {a1 : Int32} {a2 : Int32} {z : Int32 × Sg} (h : f_X9_greatestAlike σ a1 a2 = some z) : am_Met l yX9_greatestAlike cX9_greatestAlike 7 (some .int) { frames := 1, cells := 0, slots := 0, locals := 17 } NX LX (fun ad => [.ref (ad 0), .int a1, .int a2]) σ z.2 (fun _ => some (.int z.1)) := by
  refine am_enter (by decide +kernel) (fun ad => Nat.le_of_ble_eq_true rfl) (fun M D cT ad hl X => ?_)
  subst hl
  refine r_lv (lv' := [(0, .ref (ad 0)), (1, .int a1), (2, .int a2)]) rfl ?_
  unfold f_X9_greatestAlike at h
  refine r_iconst (v := 0) X dX9_greatestAlike_0 (by decide) ?_
  refine r_istore_n X [(3, .int (0 : Int32)), (0, .ref (ad 0)), (1, .int a1), (2, .int a2)] dX9_greatestAlike_1 rfl (by decide) rfl ?_
  refine r_iconst (v := 0) X dX9_greatestAlike_2 (by decide) ?_
  refine r_istore X [(4, .int (0 : Int32)), (3, .int (0 : Int32)), (0, .ref (ad 0)), (1, .int a1), (2, .int a2)] dX9_greatestAlike_3 (by decide) rfl ?_
  refine r_sub (lv' := [(0, .ref (ad 0)), (1, .int a1), (2, .int a2), (3, .int (0 : Int32)), (4, .int (0 : Int32))]) [2, 3, 4, 1, 0] rfl ?_
  exact t_X9_greatestAlike_l5 X 300 σ a1 a2 (0 : Int32) (0 : Int32) h
set_option maxRecDepth 100000 in
set_option maxHeartbeats 4000000 in
theorem t_X9_ask_b65 {M : am_M} {D : va_G} {cT : Nat → ClassId} {ad : Nat → Nat} (X : am_X M (D, cT, ad, NX, LX) cX9_ask RX9 7 (some .int)) {z : Int32 × Sg} {k35 : Sg → Int32 → Int32 → Int32 → Int32 → Option (Int32 × Sg)} (hk35 : ∀ (σ : Sg) (x2 : Int32) (x3 : Int32) (x4 : Int32) (x5 : Int32), k35 σ x2 x3 x4 x5 = some z → am_At M { frames := 4, cells := 0, slots := 0, locals := 100 } (D, cT, ad, NX, LX) (amQi M (D, cT, ad, NX, LX) z) 7 35 [(0, .ref (ad 0)), (2, .int x2), (3, .int x3), (4, .int x4), (5, .int x5)] [] σ) (σ : Sg) (x2 : Int32) (x3 : Int32) (x4 : Int32) (x5 : Int32) (h : f_X9_ask_b65 k35 σ x2 x3 x4 x5 = some z) : am_At M { frames := 4, cells := 0, slots := 0, locals := 100 } (D, cT, ad, NX, LX) (amQi M (D, cT, ad, NX, LX) z) 7 65 [(0, .ref (ad 0)), (2, .int x2), (3, .int x3), (4, .int x4), (5, .int x5)] [] σ := by
  unfold f_X9_ask_b65 at h
  refine r_iinc X [(5, .int (x5 + (1 : Int32))), (0, .ref (ad 0)), (2, .int x2), (3, .int x3), (4, .int x4)] dX9_ask_65 4 rfl (v := x5 + (1 : Int32)) (by rfl) (by decide) rfl ?_
  refine r_letv h (fun v1 h => ?_)
  refine r_goto X 35 dX9_ask_68 (by decide) ?_
  refine r_sub (lv' := [(0, .ref (ad 0)), (2, .int x2), (3, .int x3), (4, .int x4), (5, .int v1)]) [1, 2, 3, 4, 0] rfl ?_
  exact hk35 σ x2 x3 x4 v1 h
set_option maxRecDepth 100000 in
set_option maxHeartbeats 4000000 in
theorem t_X9_ask_b35 {M : am_M} {D : va_G} {cT : Nat → ClassId} {ad : Nat → Nat} (X : am_X M (D, cT, ad, NX, LX) cX9_ask RX9 7 (some .int)) {z : Int32 × Sg} {k35 : Sg → Int32 → Int32 → Int32 → Int32 → Option (Int32 × Sg)} (hk35 : ∀ (σ : Sg) (x2 : Int32) (x3 : Int32) (x4 : Int32) (x5 : Int32), k35 σ x2 x3 x4 x5 = some z → am_At M { frames := 4, cells := 0, slots := 0, locals := 100 } (D, cT, ad, NX, LX) (amQi M (D, cT, ad, NX, LX) z) 7 35 [(0, .ref (ad 0)), (2, .int x2), (3, .int x3), (4, .int x4), (5, .int x5)] [] σ) (σ : Sg) (x2 : Int32) (x3 : Int32) (x4 : Int32) (x5 : Int32) (h : f_X9_ask_b35 k35 σ x2 x3 x4 x5 = some z) : am_At M { frames := 4, cells := 0, slots := 0, locals := 100 } (D, cT, ad, NX, LX) (amQi M (D, cT, ad, NX, LX) z) 7 35 [(0, .ref (ad 0)), (2, .int x2), (3, .int x3), (4, .int x4), (5, .int x5)] [] σ := by
  unfold f_X9_ask_b35 at h
  refine r_iload X dX9_ask_35 4 rfl ?_
  refine r_bipush (v := 24) X dX9_ask_37 (by decide) ?_
  refine r_icmp_ge X 71 dX9_ask_39 (by decide) h (fun h => ?_) (fun h => ?_)
  · refine r_iload_n X dX9_ask_71 rfl 2 rfl ?_
    exact r_iretz X rfl dX9_ask_72 h
  · refine r_aload_n X dX9_ask_42 rfl 0 rfl ?_
    refine r_iload X dX9_ask_43 4 rfl ?_
    refine r_iload_n X dX9_ask_45 rfl 1 rfl ?_
    obtain ⟨r1, σ2, hc_3, h⟩ := bnd_of h
    refine r_callV (As := [.int x5, .int x2]) (rest := []) (st2 := [.int r1]) (c := 0) X cv_X9_249 (c_X9_greatestAlike M.2.1 hc_3) rfl (ci := 8) rfl fX_0 rfl rfl (Nat.le_of_ble_eq_true rfl) ⟨⟨rfl, rfl⟩, by decide, by decide⟩ dX9_ask_46 ⟨rfl, rfl⟩ rfl ?_
    refine r_istore X [(6, .int r1), (0, .ref (ad 0)), (2, .int x2), (3, .int x3), (4, .int x4), (5, .int x5)] dX9_ask_49 (by decide) rfl ?_
    refine r_iload X dX9_ask_51 0 rfl ?_
    refine r_iload X dX9_ask_53 4 rfl ?_
    refine r_icmp_ge X 65 dX9_ask_55 (by decide) h (fun h => ?_) (fun h => ?_)
    · refine r_sub (lv' := [(0, .ref (ad 0)), (2, .int x2), (3, .int x3), (4, .int x4), (5, .int x5)]) [1, 2, 3, 4, 5] rfl ?_
      exact t_X9_ask_b65 X hk35 σ2 x2 x3 x4 x5 h
    · refine r_iload X dX9_ask_58 0 rfl ?_
      refine r_istore X [(4, .int r1), (6, .int r1), (0, .ref (ad 0)), (2, .int x2), (3, .int x3), (5, .int x5)] dX9_ask_60 (by decide) rfl ?_
      refine r_iload X dX9_ask_62 5 rfl ?_
      refine r_istore_n X [(3, .int x5), (4, .int r1), (6, .int r1), (0, .ref (ad 0)), (2, .int x2), (5, .int x5)] dX9_ask_64 rfl (by decide) rfl ?_
      refine r_sub (lv' := [(0, .ref (ad 0)), (2, .int x2), (3, .int x5), (4, .int r1), (5, .int x5)]) [3, 4, 0, 1, 5] rfl ?_
      exact t_X9_ask_b65 X hk35 σ2 x2 x5 r1 x5 h
theorem t_X9_ask_l35 {M : am_M} {D : va_G} {cT : Nat → ClassId} {ad : Nat → Nat} (X : am_X M (D, cT, ad, NX, LX) cX9_ask RX9 7 (some .int)) {z : Int32 × Sg} (n : Nat) : ∀ (σ : Sg) (x2 : Int32) (x3 : Int32) (x4 : Int32) (x5 : Int32), f_X9_ask_l35 n σ x2 x3 x4 x5 = some z → am_At M { frames := 4, cells := 0, slots := 0, locals := 100 } (D, cT, ad, NX, LX) (amQi M (D, cT, ad, NX, LX) z) 7 35 [(0, .ref (ad 0)), (2, .int x2), (3, .int x3), (4, .int x4), (5, .int x5)] [] σ := by
  induction n with
  | zero =>
    intro σ x2 x3 x4 x5 h
    have h2 : (none : Option (Int32 × Sg)) = some z := h
    cases h2
  | succ n ih =>
    intro σ x2 x3 x4 x5 h
    exact t_X9_ask_b35 X (k35 := f_X9_ask_l35 n) ih σ x2 x3 x4 x5 h
set_option maxRecDepth 100000 in
set_option maxHeartbeats 4000000 in
theorem c_X9_ask (l : Launch) {σ : Sg} {a1 : Int32} {z : Int32 × Sg} (h : f_X9_ask σ a1 = some z) : am_Met l yX9_ask cX9_ask 7 (some .int) { frames := 4, cells := 0, slots := 0, locals := 100 } NX LX (fun ad => [.ref (ad 0), .int a1]) σ z.2 (fun _ => some (.int z.1)) := by
  refine am_enter (by decide +kernel) (fun ad => Nat.le_of_ble_eq_true rfl) (fun M D cT ad hl X => ?_)
  subst hl
  refine r_lv (lv' := [(0, .ref (ad 0)), (1, .int a1)]) rfl ?_
  unfold f_X9_ask at h
  refine r_iload_n X dX9_ask_0 rfl 1 rfl ?_
  refine r_aload_n X dX9_ask_1 rfl 0 rfl ?_
  refine r_getR (c1 := 5) X fg_X9_24_X9 fX_0 rfl dX9_ask_2 ?_
  refine r_getI X fg_X9_115_X2 fX_5 rfl dX9_ask_5 ?_
  obtain ⟨r1, σ2, hc_9, h⟩ := bnd_of h
  refine r_callS (As := [.int a1, .int (σ 5 1)]) (rest := []) (st2 := [.int r1]) X cv_X9_91 (c_X9_isBelow M.2.1 hc_9) rfl rfl rfl (Nat.le_of_ble_eq_true rfl) ⟨⟨rfl, rfl⟩, by decide, by decide⟩ dX9_ask_8 ⟨rfl, rfl⟩ rfl ?_
  refine r_if_ne X 17 dX9_ask_11 (by decide) h (fun h => ?_) (fun h => ?_)
  · refine r_bipush (v := -2) X dX9_ask_14 (by decide) ?_
    exact r_iretz X rfl dX9_ask_16 h
  · refine r_aload_n X dX9_ask_17 rfl 0 rfl ?_
    refine r_iload_n X dX9_ask_18 rfl 1 rfl ?_
    obtain ⟨r3, σ4, hc_8, h⟩ := bnd_of h
    refine r_callV (As := [.int a1]) (rest := []) (st2 := [.int r3]) (c := 0) X cv_X9_246 (c_X9_fittingFars M.2.1 hc_8) rfl (ci := 8) rfl fX_0 rfl rfl (Nat.le_of_ble_eq_true rfl) ⟨⟨rfl, rfl⟩, by decide, by decide⟩ dX9_ask_19 ⟨rfl, rfl⟩ rfl ?_
    obtain ⟨r5, σ6, hc_7, h⟩ := bnd_of h
    refine r_callS (As := [.int r3]) (rest := []) (st2 := [.int r5]) X cv_X9_181 (c_J6_bitCount_0f7a4 M.2.1 hc_7) rfl rfl rfl (Nat.le_of_ble_eq_true rfl) ⟨⟨rfl, rfl⟩, by decide, by decide⟩ dX9_ask_22 ⟨rfl, rfl⟩ rfl ?_
    refine r_istore_n X [(2, .int r5), (0, .ref (ad 0)), (1, .int a1)] dX9_ask_25 rfl (by decide) rfl ?_
    refine r_iconst (v := 0) X dX9_ask_26 (by decide) ?_
    refine r_istore_n X [(3, .int (0 : Int32)), (2, .int r5), (0, .ref (ad 0)), (1, .int a1)] dX9_ask_27 rfl (by decide) rfl ?_
    refine r_bipush (v := 10) X dX9_ask_28 (by decide) ?_
    refine r_istore X [(4, .int (10 : Int32)), (3, .int (0 : Int32)), (2, .int r5), (0, .ref (ad 0)), (1, .int a1)] dX9_ask_30 (by decide) rfl ?_
    refine r_iconst (v := 0) X dX9_ask_32 (by decide) ?_
    refine r_istore X [(5, .int (0 : Int32)), (4, .int (10 : Int32)), (3, .int (0 : Int32)), (2, .int r5), (0, .ref (ad 0)), (1, .int a1)] dX9_ask_33 (by decide) rfl ?_
    refine r_sub (lv' := [(0, .ref (ad 0)), (2, .int r5), (3, .int (0 : Int32)), (4, .int (10 : Int32)), (5, .int (0 : Int32))]) [4, 3, 2, 1, 0] rfl ?_
    exact t_X9_ask_l35 X 300 σ6 r5 (0 : Int32) (10 : Int32) (0 : Int32) h
set_option maxRecDepth 100000 in
set_option maxHeartbeats 4000000 in
theorem t_X5_tally_b105 {M : am_M} {D : va_G} {cT : Nat → ClassId} {ad : Nat → Nat} (X : am_X M (D, cT, ad, NX, LX) cX5_tally RX5 9 none) {c3 : Nat} (hc3 : Is_X1 c3) {c4 : Nat} (hc4 : Is_X0 c4) {z : Unit × Sg} {k40 : Sg → Int32 → Int32 → Option (Unit × Sg)} (hk40 : ∀ (σ : Sg) (x5 : Int32) (x6 : Int32), k40 σ x5 x6 = some z → am_At M { frames := 3, cells := 0, slots := 0, locals := 75 } (D, cT, ad, NX, LX) (amQv M (D, cT, ad, NX, LX) z) 9 40 [(0, .ref (ad 42)), (1, .ref (ad 5)), (2, .ref (ad 10)), (3, .ref (ad c3)), (4, .ref (ad c4)), (5, .int x5), (6, .int x6)] [] σ) {k67 : Sg → Int32 → Int32 → Int32 → Int32 → Option (Unit × Sg)} (hk67 : ∀ (σ : Sg) (x5 : Int32) (x6 : Int32) (x7 : Int32) (x8 : Int32), k67 σ x5 x6 x7 x8 = some z → am_At M { frames := 3, cells := 0, slots := 0, locals := 75 } (D, cT, ad, NX, LX) (amQv M (D, cT, ad, NX, LX) z) 9 67 [(0, .ref (ad 42)), (1, .ref (ad 5)), (2, .ref (ad 10)), (3, .ref (ad c3)), (4, .ref (ad c4)), (5, .int x5), (6, .int x6), (7, .int x7), (8, .int x8)] [] σ) (σ : Sg) (x5 : Int32) (x6 : Int32) (x7 : Int32) (x8 : Int32) (h : f_X5_tally_b105 c3 c4 k40 k67 σ x5 x6 x7 x8 = some z) : am_At M { frames := 3, cells := 0, slots := 0, locals := 75 } (D, cT, ad, NX, LX) (amQv M (D, cT, ad, NX, LX) z) 9 105 [(0, .ref (ad 42)), (1, .ref (ad 5)), (2, .ref (ad 10)), (3, .ref (ad c3)), (4, .ref (ad c4)), (5, .int x5), (6, .int x6), (7, .int x7), (8, .int x8)] [] σ := by
  unfold f_X5_tally_b105 at h
  refine r_iinc X [(8, .int (x8 + (1 : Int32))), (0, .ref (ad 42)), (1, .ref (ad 5)), (2, .ref (ad 10)), (3, .ref (ad c3)), (4, .ref (ad c4)), (5, .int x5), (6, .int x6), (7, .int x7)] dX5_tally_105 8 rfl (v := x8 + (1 : Int32)) (by rfl) (by decide) rfl ?_
  refine r_letv h (fun v1 h => ?_)
  refine r_goto X 67 dX5_tally_108 (by decide) ?_
  refine r_sub (lv' := [(0, .ref (ad 42)), (1, .ref (ad 5)), (2, .ref (ad 10)), (3, .ref (ad c3)), (4, .ref (ad c4)), (5, .int x5), (6, .int x6), (7, .int x7), (8, .int v1)]) [1, 2, 3, 4, 5, 6, 7, 8, 0] rfl ?_
  exact hk67 σ x5 x6 x7 v1 h
set_option maxRecDepth 100000 in
set_option maxHeartbeats 4000000 in
theorem t_X5_tally_b67 {M : am_M} {D : va_G} {cT : Nat → ClassId} {ad : Nat → Nat} (X : am_X M (D, cT, ad, NX, LX) cX5_tally RX5 9 none) {c3 : Nat} (hc3 : Is_X1 c3) {c4 : Nat} (hc4 : Is_X0 c4) {z : Unit × Sg} {k40 : Sg → Int32 → Int32 → Option (Unit × Sg)} (hk40 : ∀ (σ : Sg) (x5 : Int32) (x6 : Int32), k40 σ x5 x6 = some z → am_At M { frames := 3, cells := 0, slots := 0, locals := 75 } (D, cT, ad, NX, LX) (amQv M (D, cT, ad, NX, LX) z) 9 40 [(0, .ref (ad 42)), (1, .ref (ad 5)), (2, .ref (ad 10)), (3, .ref (ad c3)), (4, .ref (ad c4)), (5, .int x5), (6, .int x6)] [] σ) {k67 : Sg → Int32 → Int32 → Int32 → Int32 → Option (Unit × Sg)} (hk67 : ∀ (σ : Sg) (x5 : Int32) (x6 : Int32) (x7 : Int32) (x8 : Int32), k67 σ x5 x6 x7 x8 = some z → am_At M { frames := 3, cells := 0, slots := 0, locals := 75 } (D, cT, ad, NX, LX) (amQv M (D, cT, ad, NX, LX) z) 9 67 [(0, .ref (ad 42)), (1, .ref (ad 5)), (2, .ref (ad 10)), (3, .ref (ad c3)), (4, .ref (ad c4)), (5, .int x5), (6, .int x6), (7, .int x7), (8, .int x8)] [] σ) (σ : Sg) (x5 : Int32) (x6 : Int32) (x7 : Int32) (x8 : Int32) (h : f_X5_tally_b67 c3 c4 k40 k67 σ x5 x6 x7 x8 = some z) : am_At M { frames := 3, cells := 0, slots := 0, locals := 75 } (D, cT, ad, NX, LX) (amQv M (D, cT, ad, NX, LX) z) 9 67 [(0, .ref (ad 42)), (1, .ref (ad 5)), (2, .ref (ad 10)), (3, .ref (ad c3)), (4, .ref (ad c4)), (5, .int x5), (6, .int x6), (7, .int x7), (8, .int x8)] [] σ := by
  unfold f_X5_tally_b67 at h
  refine r_iload X dX5_tally_67 8 rfl ?_
  refine r_aload_n X dX5_tally_69 rfl 2 rfl ?_
  refine r_getI X fg_X5_39_X4 fX_10 rfl dX5_tally_70 ?_
  refine r_icmp_ge X 111 dX5_tally_73 (by decide) h (fun h => ?_) (fun h => ?_)
  · refine r_iinc X [(6, .int (x6 + (1 : Int32))), (0, .ref (ad 42)), (1, .ref (ad 5)), (2, .ref (ad 10)), (3, .ref (ad c3)), (4, .ref (ad c4)), (5, .int x5), (7, .int x7), (8, .int x8)] dX5_tally_111 6 rfl (v := x6 + (1 : Int32)) (by rfl) (by decide) rfl ?_
    refine r_letv h (fun v1 h => ?_)
    refine r_goto X 40 dX5_tally_114 (by decide) ?_
    refine r_sub (lv' := [(0, .ref (ad 42)), (1, .ref (ad 5)), (2, .ref (ad 10)), (3, .ref (ad c3)), (4, .ref (ad c4)), (5, .int x5), (6, .int v1)]) [1, 2, 3, 4, 5, 6, 0] rfl ?_
    exact hk40 σ x5 v1 h
  · refine r_aload X dX5_tally_76 4 rfl ?_
    refine r_getR (c1 := (c4 + 1)) X fg_X5_42_X0 hc4.1 rfl dX5_tally_78 ?_
    refine r_iload X dX5_tally_81 8 rfl ?_
    refine r_iald X hc4.2.1 dX5_tally_83 h (fun h => ?_)
    refine r_iconst (v := -1) X dX5_tally_84 (by decide) ?_
    refine r_icmp_eq X 105 dX5_tally_85 (by decide) h (fun h => ?_) (fun h => ?_)
    · exact t_X5_tally_b105 X hc3 hc4 hk40 hk67 σ x5 x6 x7 x8 h
    · refine r_aload_n X dX5_tally_88 rfl 0 rfl ?_
      refine r_getR (c1 := 43) X fg_X5_11_X5 fX_42 rfl dX5_tally_89 ?_
      refine r_iload X dX5_tally_92 8 rfl ?_
      refine r_bipush (v := 9) X dX5_tally_94 (by decide) ?_
      refine r_imul X dX5_tally_96 ?_
      refine r_iload X dX5_tally_97 7 rfl ?_
      refine r_iadd X dX5_tally_99 ?_
      refine r_dup2 X dX5_tally_100 rfl rfl ?_
      refine r_iald X fX_43 dX5_tally_101 h (fun h => ?_)
      refine r_iconst (v := 1) X dX5_tally_102 (by decide) ?_
      refine r_iadd X dX5_tally_103 ?_
      refine r_iast X fX_43 dX5_tally_104 h (fun σ2 h => ?_)
      exact t_X5_tally_b105 X hc3 hc4 hk40 hk67 σ2 x5 x6 x7 x8 h
theorem t_X5_tally_l67 {M : am_M} {D : va_G} {cT : Nat → ClassId} {ad : Nat → Nat} (X : am_X M (D, cT, ad, NX, LX) cX5_tally RX5 9 none) {c3 : Nat} (hc3 : Is_X1 c3) {c4 : Nat} (hc4 : Is_X0 c4) {z : Unit × Sg} {k40 : Sg → Int32 → Int32 → Option (Unit × Sg)} (hk40 : ∀ (σ : Sg) (x5 : Int32) (x6 : Int32), k40 σ x5 x6 = some z → am_At M { frames := 3, cells := 0, slots := 0, locals := 75 } (D, cT, ad, NX, LX) (amQv M (D, cT, ad, NX, LX) z) 9 40 [(0, .ref (ad 42)), (1, .ref (ad 5)), (2, .ref (ad 10)), (3, .ref (ad c3)), (4, .ref (ad c4)), (5, .int x5), (6, .int x6)] [] σ) (n : Nat) : ∀ (σ : Sg) (x5 : Int32) (x6 : Int32) (x7 : Int32) (x8 : Int32), f_X5_tally_l67 c3 c4 k40 n σ x5 x6 x7 x8 = some z → am_At M { frames := 3, cells := 0, slots := 0, locals := 75 } (D, cT, ad, NX, LX) (amQv M (D, cT, ad, NX, LX) z) 9 67 [(0, .ref (ad 42)), (1, .ref (ad 5)), (2, .ref (ad 10)), (3, .ref (ad c3)), (4, .ref (ad c4)), (5, .int x5), (6, .int x6), (7, .int x7), (8, .int x8)] [] σ := by
  induction n with
  | zero =>
    intro σ x5 x6 x7 x8 h
    have h2 : (none : Option (Unit × Sg)) = some z := h
    cases h2
  | succ n ih =>
    intro σ x5 x6 x7 x8 h
    exact t_X5_tally_b67 X hc3 hc4 hk40 (k67 := f_X5_tally_l67 c3 c4 k40 n) ih σ x5 x6 x7 x8 h
set_option maxRecDepth 100000 in
set_option maxHeartbeats 4000000 in
theorem t_X5_tally_b40 {M : am_M} {D : va_G} {cT : Nat → ClassId} {ad : Nat → Nat} (X : am_X M (D, cT, ad, NX, LX) cX5_tally RX5 9 none) {c3 : Nat} (hc3 : Is_X1 c3) {c4 : Nat} (hc4 : Is_X0 c4) {z : Unit × Sg} {k40 : Sg → Int32 → Int32 → Option (Unit × Sg)} (hk40 : ∀ (σ : Sg) (x5 : Int32) (x6 : Int32), k40 σ x5 x6 = some z → am_At M { frames := 3, cells := 0, slots := 0, locals := 75 } (D, cT, ad, NX, LX) (amQv M (D, cT, ad, NX, LX) z) 9 40 [(0, .ref (ad 42)), (1, .ref (ad 5)), (2, .ref (ad 10)), (3, .ref (ad c3)), (4, .ref (ad c4)), (5, .int x5), (6, .int x6)] [] σ) (σ : Sg) (x5 : Int32) (x6 : Int32) (h : f_X5_tally_b40 c3 c4 k40 σ x5 x6 = some z) : am_At M { frames := 3, cells := 0, slots := 0, locals := 75 } (D, cT, ad, NX, LX) (amQv M (D, cT, ad, NX, LX) z) 9 40 [(0, .ref (ad 42)), (1, .ref (ad 5)), (2, .ref (ad 10)), (3, .ref (ad c3)), (4, .ref (ad c4)), (5, .int x5), (6, .int x6)] [] σ := by
  unfold f_X5_tally_b40 at h
  refine r_iload X dX5_tally_40 6 rfl ?_
  refine r_iload X dX5_tally_42 5 rfl ?_
  refine r_icmp_ge X 117 dX5_tally_44 (by decide) h (fun h => ?_) (fun h => ?_)
  · exact r_vretz X rfl dX5_tally_117 h
  · refine r_aload X dX5_tally_47 4 rfl ?_
    refine r_aload_n X dX5_tally_49 rfl 1 rfl ?_
    refine r_aload_n X dX5_tally_50 rfl 2 rfl ?_
    refine r_aload_n X dX5_tally_51 rfl 3 rfl ?_
    refine r_iload X dX5_tally_52 6 rfl ?_
    obtain ⟨r1, σ2, hc_6, h⟩ := bnd_of h
    refine r_callV (As := [.ref (ad 5), .ref (ad 10), .ref (ad c3), .int x6]) (rest := []) (st2 := []) (c := c4) X cv_X5_27 (c_X0_run M.2.1 hc4 hc3 hc_6) rfl (ci := 0) rfl hc4.1 rfl rfl (Nat.le_of_ble_eq_true rfl) ⟨⟨rfl, rfl⟩, by decide, by decide⟩ dX5_tally_54 ⟨rfl, rfl⟩ rfl ?_
    refine r_iload X dX5_tally_57 6 rfl ?_
    obtain ⟨r3, σ4, hc_5, h⟩ := bnd_of h
    refine r_callS (As := [.int x6]) (rest := []) (st2 := [.int r3]) X cv_X5_33 (c_J6_bitCount_0f7a4 M.2.1 hc_5) rfl rfl rfl (Nat.le_of_ble_eq_true rfl) ⟨⟨rfl, rfl⟩, by decide, by decide⟩ dX5_tally_59 ⟨rfl, rfl⟩ rfl ?_
    refine r_istore X [(7, .int r3), (0, .ref (ad 42)), (1, .ref (ad 5)), (2, .ref (ad 10)), (3, .ref (ad c3)), (4, .ref (ad c4)), (5, .int x5), (6, .int x6)] dX5_tally_62 (by decide) rfl ?_
    refine r_iconst (v := 0) X dX5_tally_64 (by decide) ?_
    refine r_istore X [(8, .int (0 : Int32)), (7, .int r3), (0, .ref (ad 42)), (1, .ref (ad 5)), (2, .ref (ad 10)), (3, .ref (ad c3)), (4, .ref (ad c4)), (5, .int x5), (6, .int x6)] dX5_tally_65 (by decide) rfl ?_
    refine r_sub (lv' := [(0, .ref (ad 42)), (1, .ref (ad 5)), (2, .ref (ad 10)), (3, .ref (ad c3)), (4, .ref (ad c4)), (5, .int x5), (6, .int x6), (7, .int r3), (8, .int (0 : Int32))]) [2, 3, 4, 5, 6, 7, 8, 1, 0] rfl ?_
    exact t_X5_tally_l67 X hc3 hc4 hk40 300 σ4 x5 x6 r3 (0 : Int32) h
theorem t_X5_tally_l40 {M : am_M} {D : va_G} {cT : Nat → ClassId} {ad : Nat → Nat} (X : am_X M (D, cT, ad, NX, LX) cX5_tally RX5 9 none) {c3 : Nat} (hc3 : Is_X1 c3) {c4 : Nat} (hc4 : Is_X0 c4) {z : Unit × Sg} (n : Nat) : ∀ (σ : Sg) (x5 : Int32) (x6 : Int32), f_X5_tally_l40 c3 c4 n σ x5 x6 = some z → am_At M { frames := 3, cells := 0, slots := 0, locals := 75 } (D, cT, ad, NX, LX) (amQv M (D, cT, ad, NX, LX) z) 9 40 [(0, .ref (ad 42)), (1, .ref (ad 5)), (2, .ref (ad 10)), (3, .ref (ad c3)), (4, .ref (ad c4)), (5, .int x5), (6, .int x6)] [] σ := by
  induction n with
  | zero =>
    intro σ x5 x6 h
    have h2 : (none : Option (Unit × Sg)) = some z := h
    cases h2
  | succ n ih =>
    intro σ x5 x6 h
    exact t_X5_tally_b40 X hc3 hc4 (k40 := f_X5_tally_l40 c3 c4 n) ih σ x5 x6 h
set_option maxRecDepth 100000 in
set_option maxHeartbeats 4000000 in
theorem t_X5_tally_b3 {M : am_M} {D : va_G} {cT : Nat → ClassId} {ad : Nat → Nat} (X : am_X M (D, cT, ad, NX, LX) cX5_tally RX5 9 none) {c3 : Nat} (hc3 : Is_X1 c3) {c4 : Nat} (hc4 : Is_X0 c4) {z : Unit × Sg} {k3 : Sg → Int32 → Option (Unit × Sg)} (hk3 : ∀ (σ : Sg) (x5 : Int32), k3 σ x5 = some z → am_At M { frames := 3, cells := 0, slots := 0, locals := 75 } (D, cT, ad, NX, LX) (amQv M (D, cT, ad, NX, LX) z) 9 3 [(0, .ref (ad 42)), (1, .ref (ad 5)), (2, .ref (ad 10)), (3, .ref (ad c3)), (4, .ref (ad c4)), (5, .int x5)] [] σ) (σ : Sg) (x5 : Int32) (h : f_X5_tally_b3 c3 c4 k3 σ x5 = some z) : am_At M { frames := 3, cells := 0, slots := 0, locals := 75 } (D, cT, ad, NX, LX) (amQv M (D, cT, ad, NX, LX) z) 9 3 [(0, .ref (ad 42)), (1, .ref (ad 5)), (2, .ref (ad 10)), (3, .ref (ad c3)), (4, .ref (ad c4)), (5, .int x5)] [] σ := by
  unfold f_X5_tally_b3 at h
  refine r_iload X dX5_tally_3 5 rfl ?_
  refine r_bipush (v := 72) X dX5_tally_5 (by decide) ?_
  refine r_icmp_ge X 24 dX5_tally_7 (by decide) h (fun h => ?_) (fun h => ?_)
  · refine r_iconst (v := 1) X dX5_tally_24 (by decide) ?_
    refine r_aload_n X dX5_tally_25 rfl 3 rfl ?_
    refine r_getI X fg_X5_15_X1 hc3.1 rfl dX5_tally_26 ?_
    refine r_bipush (v := 8) X dX5_tally_29 (by decide) ?_
    refine r_mmin X ⟨bw_352, bw_353, bw_343, bw_354⟩ (by decide) (Nat.le_of_ble_eq_true rfl) dX5_tally_31 ?_
    refine r_ishl X dX5_tally_34 ?_
    refine r_leti h (fun v1 h => ?_)
    refine r_istore X [(5, .int v1), (0, .ref (ad 42)), (1, .ref (ad 5)), (2, .ref (ad 10)), (3, .ref (ad c3)), (4, .ref (ad c4))] dX5_tally_35 (by decide) rfl ?_
    refine r_iconst (v := 0) X dX5_tally_37 (by decide) ?_
    refine r_istore X [(6, .int (0 : Int32)), (5, .int v1), (0, .ref (ad 42)), (1, .ref (ad 5)), (2, .ref (ad 10)), (3, .ref (ad c3)), (4, .ref (ad c4))] dX5_tally_38 (by decide) rfl ?_
    refine r_sub (lv' := [(0, .ref (ad 42)), (1, .ref (ad 5)), (2, .ref (ad 10)), (3, .ref (ad c3)), (4, .ref (ad c4)), (5, .int v1), (6, .int (0 : Int32))]) [2, 3, 4, 5, 6, 1, 0] rfl ?_
    exact t_X5_tally_l40 X hc3 hc4 300 σ v1 (0 : Int32) h
  · refine r_aload_n X dX5_tally_10 rfl 0 rfl ?_
    refine r_getR (c1 := 43) X fg_X5_11_X5 fX_42 rfl dX5_tally_11 ?_
    refine r_iload X dX5_tally_14 5 rfl ?_
    refine r_iconst (v := 0) X dX5_tally_16 (by decide) ?_
    refine r_iast X fX_43 dX5_tally_17 h (fun σ2 h => ?_)
    refine r_iinc X [(5, .int (x5 + (1 : Int32))), (0, .ref (ad 42)), (1, .ref (ad 5)), (2, .ref (ad 10)), (3, .ref (ad c3)), (4, .ref (ad c4))] dX5_tally_18 5 rfl (v := x5 + (1 : Int32)) (by rfl) (by decide) rfl ?_
    refine r_letv h (fun v3 h => ?_)
    refine r_goto X 3 dX5_tally_21 (by decide) ?_
    refine r_sub (lv' := [(0, .ref (ad 42)), (1, .ref (ad 5)), (2, .ref (ad 10)), (3, .ref (ad c3)), (4, .ref (ad c4)), (5, .int v3)]) [1, 2, 3, 4, 5, 0] rfl ?_
    exact hk3 σ2 v3 h
theorem t_X5_tally_l3 {M : am_M} {D : va_G} {cT : Nat → ClassId} {ad : Nat → Nat} (X : am_X M (D, cT, ad, NX, LX) cX5_tally RX5 9 none) {c3 : Nat} (hc3 : Is_X1 c3) {c4 : Nat} (hc4 : Is_X0 c4) {z : Unit × Sg} (n : Nat) : ∀ (σ : Sg) (x5 : Int32), f_X5_tally_l3 c3 c4 n σ x5 = some z → am_At M { frames := 3, cells := 0, slots := 0, locals := 75 } (D, cT, ad, NX, LX) (amQv M (D, cT, ad, NX, LX) z) 9 3 [(0, .ref (ad 42)), (1, .ref (ad 5)), (2, .ref (ad 10)), (3, .ref (ad c3)), (4, .ref (ad c4)), (5, .int x5)] [] σ := by
  induction n with
  | zero =>
    intro σ x5 h
    have h2 : (none : Option (Unit × Sg)) = some z := h
    cases h2
  | succ n ih =>
    intro σ x5 h
    exact t_X5_tally_b3 X hc3 hc4 (k3 := f_X5_tally_l3 c3 c4 n) ih σ x5 h
set_option maxRecDepth 100000 in
set_option maxHeartbeats 4000000 in
theorem c_X5_tally (l : Launch) {c3 : Nat} (hc3 : Is_X1 c3) {c4 : Nat} (hc4 : Is_X0 c4) {σ : Sg} {z : Unit × Sg} (h : f_X5_tally c3 c4 σ = some z) : am_Met l yX5_tally cX5_tally 9 none { frames := 3, cells := 0, slots := 0, locals := 75 } NX LX (fun ad => [.ref (ad 42), .ref (ad 5), .ref (ad 10), .ref (ad c3), .ref (ad c4)]) σ z.2 (fun _ => none) := by
  refine am_enter (by decide +kernel) (fun ad => Nat.le_of_ble_eq_true rfl) (fun M D cT ad hl X => ?_)
  subst hl
  refine r_lv (lv' := [(0, .ref (ad 42)), (1, .ref (ad 5)), (2, .ref (ad 10)), (3, .ref (ad c3)), (4, .ref (ad c4))]) rfl ?_
  unfold f_X5_tally at h
  refine r_iconst (v := 0) X dX5_tally_0 (by decide) ?_
  refine r_istore X [(5, .int (0 : Int32)), (0, .ref (ad 42)), (1, .ref (ad 5)), (2, .ref (ad 10)), (3, .ref (ad c3)), (4, .ref (ad c4))] dX5_tally_1 (by decide) rfl ?_
  refine r_sub (lv' := [(0, .ref (ad 42)), (1, .ref (ad 5)), (2, .ref (ad 10)), (3, .ref (ad c3)), (4, .ref (ad c4)), (5, .int (0 : Int32))]) [1, 2, 3, 4, 5, 0] rfl ?_
  exact t_X5_tally_l3 X hc3 hc4 300 σ (0 : Int32) h
set_option maxRecDepth 100000 in
set_option maxHeartbeats 4000000 in
theorem t_X5_power_b5 {M : am_M} {D : va_G} {cT : Nat → ClassId} {ad : Nat → Nat} (X : am_X M (D, cT, ad, NX, LX) cX5_power RX5 5 (some .long)) {z : Int64 × Sg} {k5 : Sg → Int32 → Int32 → Int64 → Int32 → Option (Int64 × Sg)} (hk5 : ∀ (σ : Sg) (x0 : Int32) (x1 : Int32) (x2 : Int64) (x4 : Int32), k5 σ x0 x1 x2 x4 = some z → am_At M { frames := 0, cells := 0, slots := 0, locals := 0 } (D, cT, ad, NX, LX) (amQl M (D, cT, ad, NX, LX) z) 5 5 [(0, .int x0), (1, .int x1), (2, .long x2), (4, .int x4)] [] σ) (σ : Sg) (x0 : Int32) (x1 : Int32) (x2 : Int64) (x4 : Int32) (h : f_X5_power_b5 k5 σ x0 x1 x2 x4 = some z) : am_At M { frames := 0, cells := 0, slots := 0, locals := 0 } (D, cT, ad, NX, LX) (amQl M (D, cT, ad, NX, LX) z) 5 5 [(0, .int x0), (1, .int x1), (2, .long x2), (4, .int x4)] [] σ := by
  unfold f_X5_power_b5 at h
  refine r_iload X dX5_power_5 3 rfl ?_
  refine r_iload_n X dX5_power_7 rfl 1 rfl ?_
  refine r_icmp_ge X 22 dX5_power_8 (by decide) h (fun h => ?_) (fun h => ?_)
  · refine r_lload_n X dX5_power_22 rfl 2 rfl ?_
    exact r_lretz X rfl dX5_power_23 h
  · refine r_lload_n X dX5_power_11 rfl 2 rfl ?_
    refine r_iload_n X dX5_power_12 rfl 0 rfl ?_
    refine r_i2l X dX5_power_13 ?_
    refine r_lmul X dX5_power_14 ?_
    refine r_letl h (fun v1 h => ?_)
    refine r_lstore_n X [(2, .long v1), (0, .int x0), (1, .int x1), (4, .int x4)] dX5_power_15 rfl (by decide) rfl ?_
    refine r_iinc X [(4, .int (x4 + (1 : Int32))), (2, .long v1), (0, .int x0), (1, .int x1)] dX5_power_16 3 rfl (v := x4 + (1 : Int32)) (by rfl) (by decide) rfl ?_
    refine r_letv h (fun v2 h => ?_)
    refine r_goto X 5 dX5_power_19 (by decide) ?_
    refine r_sub (lv' := [(0, .int x0), (1, .int x1), (2, .long v1), (4, .int v2)]) [2, 3, 1, 0] rfl ?_
    exact hk5 σ x0 x1 v1 v2 h
theorem t_X5_power_l5 {M : am_M} {D : va_G} {cT : Nat → ClassId} {ad : Nat → Nat} (X : am_X M (D, cT, ad, NX, LX) cX5_power RX5 5 (some .long)) {z : Int64 × Sg} (n : Nat) : ∀ (σ : Sg) (x0 : Int32) (x1 : Int32) (x2 : Int64) (x4 : Int32), f_X5_power_l5 n σ x0 x1 x2 x4 = some z → am_At M { frames := 0, cells := 0, slots := 0, locals := 0 } (D, cT, ad, NX, LX) (amQl M (D, cT, ad, NX, LX) z) 5 5 [(0, .int x0), (1, .int x1), (2, .long x2), (4, .int x4)] [] σ := by
  induction n with
  | zero =>
    intro σ x0 x1 x2 x4 h
    have h2 : (none : Option (Int64 × Sg)) = some z := h
    cases h2
  | succ n ih =>
    intro σ x0 x1 x2 x4 h
    exact t_X5_power_b5 X (k5 := f_X5_power_l5 n) ih σ x0 x1 x2 x4 h
set_option maxRecDepth 100000 in
set_option maxHeartbeats 4000000 in
theorem c_X5_power (l : Launch) {σ : Sg} {a0 : Int32} {a1 : Int32} {z : Int64 × Sg} (h : f_X5_power σ a0 a1 = some z) : am_Met l yX5_power cX5_power 5 (some .long) { frames := 0, cells := 0, slots := 0, locals := 0 } NX LX (fun ad => [.int a0, .int a1]) σ z.2 (fun _ => some (.long z.1)) := by
  refine am_enter (by decide +kernel) (fun ad => Nat.le_of_ble_eq_true rfl) (fun M D cT ad hl X => ?_)
  subst hl
  refine r_lv (lv' := [(0, .int a0), (1, .int a1)]) rfl ?_
  unfold f_X5_power at h
  refine r_lconst (v := 1) X dX5_power_0 (by decide) ?_
  refine r_lstore_n X [(2, .long (1 : Int64)), (0, .int a0), (1, .int a1)] dX5_power_1 rfl (by decide) rfl ?_
  refine r_iconst (v := 0) X dX5_power_2 (by decide) ?_
  refine r_istore X [(4, .int (0 : Int32)), (2, .long (1 : Int64)), (0, .int a0), (1, .int a1)] dX5_power_3 (by decide) rfl ?_
  refine r_sub (lv' := [(0, .int a0), (1, .int a1), (2, .long (1 : Int64)), (4, .int (0 : Int32))]) [2, 3, 1, 0] rfl ?_
  exact t_X5_power_l5 X 300 σ a0 a1 (1 : Int64) (0 : Int32) h
set_option maxRecDepth 100000 in
set_option maxHeartbeats 4000000 in
theorem t_X5_tell_b124 {M : am_M} {D : va_G} {cT : Nat → ClassId} {ad : Nat → Nat} (X : am_X M (D, cT, ad, NX, LX) cX5_tell RX5 10 (some .long)) {z : Int64 × Sg} (σ : Sg) (x4 : Int32) (x5 : Int64) (x7 : Int64) (h : f_X5_tell_b124 σ x4 x5 x7 = some z) : am_At M { frames := 1, cells := 0, slots := 0, locals := 24 } (D, cT, ad, NX, LX) (amQl M (D, cT, ad, NX, LX) z) 10 124 [(4, .int x4), (5, .long x5), (7, .long x7)] [] σ := by
  unfold f_X5_tell_b124 at h
  refine r_iload X dX5_tell_124 0 rfl ?_
  refine r_if_ne X 134 dX5_tell_126 (by decide) h (fun h => ?_) (fun h => ?_)
  · refine r_lload X dX5_tell_129 1 rfl ?_
    refine r_goto X 136 dX5_tell_131 (by decide) ?_
    exact r_lretz X rfl dX5_tell_136 h
  · refine r_lload X dX5_tell_134 2 rfl ?_
    exact r_lretz X rfl dX5_tell_136 h
set_option maxRecDepth 100000 in
set_option maxHeartbeats 4000000 in
theorem t_X5_tell_b77 {M : am_M} {D : va_G} {cT : Nat → ClassId} {ad : Nat → Nat} (X : am_X M (D, cT, ad, NX, LX) cX5_tell RX5 10 (some .long)) {z : Int64 × Sg} {k77 : Sg → Int32 → Int64 → Int64 → Int32 → Option (Int64 × Sg)} (hk77 : ∀ (σ : Sg) (x4 : Int32) (x5 : Int64) (x7 : Int64) (x9 : Int32), k77 σ x4 x5 x7 x9 = some z → am_At M { frames := 1, cells := 0, slots := 0, locals := 24 } (D, cT, ad, NX, LX) (amQl M (D, cT, ad, NX, LX) z) 10 77 [(4, .int x4), (5, .long x5), (7, .long x7), (9, .int x9)] [] σ) (σ : Sg) (x4 : Int32) (x5 : Int64) (x7 : Int64) (x9 : Int32) (h : f_X5_tell_b77 k77 σ x4 x5 x7 x9 = some z) : am_At M { frames := 1, cells := 0, slots := 0, locals := 24 } (D, cT, ad, NX, LX) (amQl M (D, cT, ad, NX, LX) z) 10 77 [(4, .int x4), (5, .long x5), (7, .long x7), (9, .int x9)] [] σ := by
  unfold f_X5_tell_b77 at h
  refine r_iload X dX5_tell_77 3 rfl ?_
  refine r_bipush (v := 32) X dX5_tell_79 (by decide) ?_
  refine r_icmp_ge X 124 dX5_tell_81 (by decide) h (fun h => ?_) (fun h => ?_)
  · refine r_sub (lv' := [(4, .int x4), (5, .long x5), (7, .long x7)]) [0, 1, 2] rfl ?_
    exact t_X5_tell_b124 X σ x4 x5 x7 h
  · refine r_lload X dX5_tell_84 2 rfl ?_
    refine r_lconst (v := 1) X dX5_tell_86 (by decide) ?_
    refine r_lcmp X dX5_tell_87 ?_
    refine r_if_le X 124 dX5_tell_88 (by decide) h (fun h => ?_) (fun h => ?_)
    · refine r_sub (lv' := [(4, .int x4), (5, .long x5), (7, .long x7)]) [0, 1, 2] rfl ?_
      exact t_X5_tell_b124 X σ x4 x5 x7 h
    · refine r_lload X dX5_tell_91 1 rfl ?_
      refine r_ldc2 (v := 2) X dX5_tell_93 bw_369 ?_
      refine r_lrem0 X dX5_tell_96 (by decide) ?_
      refine r_lconst (v := 0) X dX5_tell_97 (by decide) ?_
      refine r_lcmp X dX5_tell_98 ?_
      refine r_if_ne X 124 dX5_tell_99 (by decide) h (fun h => ?_) (fun h => ?_)
      · refine r_lload X dX5_tell_102 1 rfl ?_
        refine r_ldc2 (v := 2) X dX5_tell_104 bw_369 ?_
        refine r_ldiv0 X dX5_tell_107 (by decide) ?_
        refine r_letl h (fun v1 h => ?_)
        refine r_lstore X [(5, .long v1), (4, .int x4), (7, .long x7), (9, .int x9)] dX5_tell_108 (by decide) rfl ?_
        refine r_lload X dX5_tell_110 2 rfl ?_
        refine r_ldc2 (v := 2) X dX5_tell_112 bw_369 ?_
        refine r_ldiv0 X dX5_tell_115 (by decide) ?_
        refine r_letl h (fun v2 h => ?_)
        refine r_lstore X [(7, .long v2), (5, .long v1), (4, .int x4), (9, .int x9)] dX5_tell_116 (by decide) rfl ?_
        refine r_iinc X [(9, .int (x9 + (1 : Int32))), (7, .long v2), (5, .long v1), (4, .int x4)] dX5_tell_118 3 rfl (v := x9 + (1 : Int32)) (by rfl) (by decide) rfl ?_
        refine r_letv h (fun v3 h => ?_)
        refine r_goto X 77 dX5_tell_121 (by decide) ?_
        refine r_sub (lv' := [(4, .int x4), (5, .long v1), (7, .long v2), (9, .int v3)]) [3, 2, 1, 0] rfl ?_
        exact hk77 σ x4 v1 v2 v3 h
      · refine r_sub (lv' := [(4, .int x4), (5, .long x5), (7, .long x7)]) [0, 1, 2] rfl ?_
        exact t_X5_tell_b124 X σ x4 x5 x7 h
theorem t_X5_tell_l77 {M : am_M} {D : va_G} {cT : Nat → ClassId} {ad : Nat → Nat} (X : am_X M (D, cT, ad, NX, LX) cX5_tell RX5 10 (some .long)) {z : Int64 × Sg} (n : Nat) : ∀ (σ : Sg) (x4 : Int32) (x5 : Int64) (x7 : Int64) (x9 : Int32), f_X5_tell_l77 n σ x4 x5 x7 x9 = some z → am_At M { frames := 1, cells := 0, slots := 0, locals := 24 } (D, cT, ad, NX, LX) (amQl M (D, cT, ad, NX, LX) z) 10 77 [(4, .int x4), (5, .long x5), (7, .long x7), (9, .int x9)] [] σ := by
  induction n with
  | zero =>
    intro σ x4 x5 x7 x9 h
    have h2 : (none : Option (Int64 × Sg)) = some z := h
    cases h2
  | succ n ih =>
    intro σ x4 x5 x7 x9 h
    exact t_X5_tell_b77 X (k77 := f_X5_tell_l77 n) ih σ x4 x5 x7 x9 h
set_option maxRecDepth 100000 in
set_option maxHeartbeats 4000000 in
theorem t_X5_tell_b66 {M : am_M} {D : va_G} {cT : Nat → ClassId} {ad : Nat → Nat} (X : am_X M (D, cT, ad, NX, LX) cX5_tell RX5 10 (some .long)) {z : Int64 × Sg} (σ : Sg) (x3 : Int32) (x4 : Int32) (x5 : Int64) (h : f_X5_tell_b66 σ x3 x4 x5 = some z) : am_At M { frames := 1, cells := 0, slots := 0, locals := 24 } (D, cT, ad, NX, LX) (amQl M (D, cT, ad, NX, LX) z) 10 66 [(3, .int x3), (4, .int x4), (5, .long x5)] [] σ := by
  unfold f_X5_tell_b66 at h
  refine r_bipush (v := 16) X dX5_tell_66 (by decide) ?_
  refine r_iload_n X dX5_tell_68 rfl 0 rfl ?_
  obtain ⟨r1, σ2, hc_3, h⟩ := bnd_of h
  refine r_callS (As := [.int (16 : Int32), .int x3]) (rest := []) (st2 := [.long r1]) X cv_X5_45 (c_X5_power M.2.1 hc_3) rfl rfl rfl (Nat.le_of_ble_eq_true rfl) ⟨⟨rfl, rfl⟩, by decide, by decide⟩ dX5_tell_69 ⟨rfl, rfl⟩ rfl ?_
  refine r_lstore X [(7, .long r1), (3, .int x3), (4, .int x4), (5, .long x5)] dX5_tell_72 (by decide) rfl ?_
  refine r_iconst (v := 0) X dX5_tell_74 (by decide) ?_
  refine r_istore X [(9, .int (0 : Int32)), (7, .long r1), (3, .int x3), (4, .int x4), (5, .long x5)] dX5_tell_75 (by decide) rfl ?_
  refine r_sub (lv' := [(4, .int x4), (5, .long x5), (7, .long r1), (9, .int (0 : Int32))]) [3, 4, 1, 0] rfl ?_
  exact t_X5_tell_l77 X 300 σ2 x4 x5 r1 (0 : Int32) h
set_option maxRecDepth 100000 in
set_option maxHeartbeats 4000000 in
theorem t_X5_tell_b6 {M : am_M} {D : va_G} {cT : Nat → ClassId} {ad : Nat → Nat} (X : am_X M (D, cT, ad, NX, LX) cX5_tell RX5 10 (some .long)) {z : Int64 × Sg} {k6 : Sg → Int32 → Int32 → Int32 → Int32 → Int64 → Int32 → Option (Int64 × Sg)} (hk6 : ∀ (σ : Sg) (x1 : Int32) (x2 : Int32) (x3 : Int32) (x4 : Int32) (x5 : Int64) (x7 : Int32), k6 σ x1 x2 x3 x4 x5 x7 = some z → am_At M { frames := 1, cells := 0, slots := 0, locals := 24 } (D, cT, ad, NX, LX) (amQl M (D, cT, ad, NX, LX) z) 10 6 [(0, .ref (ad 42)), (1, .int x1), (2, .int x2), (3, .int x3), (4, .int x4), (5, .long x5), (7, .int x7)] [] σ) (σ : Sg) (x1 : Int32) (x2 : Int32) (x3 : Int32) (x4 : Int32) (x5 : Int64) (x7 : Int32) (h : f_X5_tell_b6 k6 σ x1 x2 x3 x4 x5 x7 = some z) : am_At M { frames := 1, cells := 0, slots := 0, locals := 24 } (D, cT, ad, NX, LX) (amQl M (D, cT, ad, NX, LX) z) 10 6 [(0, .ref (ad 42)), (1, .int x1), (2, .int x2), (3, .int x3), (4, .int x4), (5, .long x5), (7, .int x7)] [] σ := by
  unfold f_X5_tell_b6 at h
  refine r_iload X dX5_tell_6 6 rfl ?_
  refine r_iload_n X dX5_tell_8 rfl 3 rfl ?_
  refine r_icmp_gt X 66 dX5_tell_9 (by decide) h (fun h => ?_) (fun h => ?_)
  · refine r_sub (lv' := [(3, .int x3), (4, .int x4), (5, .long x5)]) [3, 4, 5] rfl ?_
    exact t_X5_tell_b66 X σ x3 x4 x5 h
  · refine r_iload X dX5_tell_12 6 rfl ?_
    refine r_bipush (v := 9) X dX5_tell_14 (by decide) ?_
    refine r_icmp_ge X 66 dX5_tell_16 (by decide) h (fun h => ?_) (fun h => ?_)
    · refine r_sub (lv' := [(3, .int x3), (4, .int x4), (5, .long x5)]) [3, 4, 5] rfl ?_
      exact t_X5_tell_b66 X σ x3 x4 x5 h
    · refine r_iload_n X dX5_tell_19 rfl 2 rfl ?_
      refine r_iload X dX5_tell_20 6 rfl ?_
      obtain ⟨r1, σ2, hc_9, h⟩ := bnd_of h
      refine r_callS (As := [.int x2, .int x7]) (rest := []) (st2 := [.long r1]) X cv_X5_45 (c_X5_power M.2.1 hc_9) rfl rfl rfl (Nat.le_of_ble_eq_true rfl) ⟨⟨rfl, rfl⟩, by decide, by decide⟩ dX5_tell_22 ⟨rfl, rfl⟩ rfl ?_
      refine r_bipush (v := 16) X dX5_tell_25 (by decide) ?_
      refine r_iload_n X dX5_tell_27 rfl 2 rfl ?_
      refine r_isub X dX5_tell_28 ?_
      refine r_iload_n X dX5_tell_29 rfl 3 rfl ?_
      refine r_iload X dX5_tell_30 6 rfl ?_
      refine r_isub X dX5_tell_32 ?_
      obtain ⟨r3, σ4, hc_8, h⟩ := bnd_of h
      refine r_callS (As := [.int ((16 : Int32) - x2), .int (x3 - x7)]) (rest := [.long r1]) (st2 := [.long r3, .long r1]) X cv_X5_45 (c_X5_power M.2.1 hc_8) rfl rfl rfl (Nat.le_of_ble_eq_true rfl) ⟨⟨rfl, rfl⟩, by decide, by decide⟩ dX5_tell_33 ⟨rfl, rfl⟩ rfl ?_
      refine r_lmul X dX5_tell_36 ?_
      refine r_letl h (fun v5 h => ?_)
      refine r_lstore X [(8, .long v5), (0, .ref (ad 42)), (1, .int x1), (2, .int x2), (3, .int x3), (4, .int x4), (5, .long x5), (7, .int x7)] dX5_tell_37 (by decide) rfl ?_
      refine r_lload X dX5_tell_39 6 rfl ?_
      refine r_aload_n X dX5_tell_41 rfl 1 rfl ?_
      refine r_getR (c1 := 43) X fg_X5_11_X5 fX_42 rfl dX5_tell_42 ?_
      refine r_iload_n X dX5_tell_45 rfl 2 rfl ?_
      refine r_bipush (v := 9) X dX5_tell_46 (by decide) ?_
      refine r_imul X dX5_tell_48 ?_
      refine r_iload X dX5_tell_49 7 rfl ?_
      refine r_iadd X dX5_tell_51 ?_
      refine r_iald X fX_43 dX5_tell_52 h (fun h => ?_)
      refine r_i2l X dX5_tell_53 ?_
      refine r_lload X dX5_tell_54 0 rfl ?_
      refine r_lmul X dX5_tell_56 ?_
      refine r_ladd X dX5_tell_57 ?_
      refine r_letl h (fun v6 h => ?_)
      refine r_lstore X [(5, .long v6), (8, .long v5), (0, .ref (ad 42)), (1, .int x1), (2, .int x2), (3, .int x3), (4, .int x4), (7, .int x7)] dX5_tell_58 (by decide) rfl ?_
      refine r_iinc X [(7, .int (x7 + (1 : Int32))), (5, .long v6), (8, .long v5), (0, .ref (ad 42)), (1, .int x1), (2, .int x2), (3, .int x3), (4, .int x4)] dX5_tell_60 7 rfl (v := x7 + (1 : Int32)) (by rfl) (by decide) rfl ?_
      refine r_letv h (fun v7 h => ?_)
      refine r_goto X 6 dX5_tell_63 (by decide) ?_
      refine r_sub (lv' := [(0, .ref (ad 42)), (1, .int x1), (2, .int x2), (3, .int x3), (4, .int x4), (5, .long v6), (7, .int v7)]) [3, 4, 5, 6, 7, 1, 0] rfl ?_
      exact hk6 σ4 x1 x2 x3 x4 v6 v7 h
theorem t_X5_tell_l6 {M : am_M} {D : va_G} {cT : Nat → ClassId} {ad : Nat → Nat} (X : am_X M (D, cT, ad, NX, LX) cX5_tell RX5 10 (some .long)) {z : Int64 × Sg} (n : Nat) : ∀ (σ : Sg) (x1 : Int32) (x2 : Int32) (x3 : Int32) (x4 : Int32) (x5 : Int64) (x7 : Int32), f_X5_tell_l6 n σ x1 x2 x3 x4 x5 x7 = some z → am_At M { frames := 1, cells := 0, slots := 0, locals := 24 } (D, cT, ad, NX, LX) (amQl M (D, cT, ad, NX, LX) z) 10 6 [(0, .ref (ad 42)), (1, .int x1), (2, .int x2), (3, .int x3), (4, .int x4), (5, .long x5), (7, .int x7)] [] σ := by
  induction n with
  | zero =>
    intro σ x1 x2 x3 x4 x5 x7 h
    have h2 : (none : Option (Int64 × Sg)) = some z := h
    cases h2
  | succ n ih =>
    intro σ x1 x2 x3 x4 x5 x7 h
    exact t_X5_tell_b6 X (k6 := f_X5_tell_l6 n) ih σ x1 x2 x3 x4 x5 x7 h
set_option maxRecDepth 100000 in
set_option maxHeartbeats 4000000 in
theorem c_X5_tell (l : Launch) {σ : Sg} {a1 : Int32} {a2 : Int32} {a3 : Int32} {a4 : Int32} {z : Int64 × Sg} (h : f_X5_tell σ a1 a2 a3 a4 = some z) : am_Met l yX5_tell cX5_tell 10 (some .long) { frames := 1, cells := 0, slots := 0, locals := 24 } NX LX (fun ad => [.ref (ad 42), .int a1, .int a2, .int a3, .int a4]) σ z.2 (fun _ => some (.long z.1)) := by
  refine am_enter (by decide +kernel) (fun ad => Nat.le_of_ble_eq_true rfl) (fun M D cT ad hl X => ?_)
  subst hl
  refine r_lv (lv' := [(0, .ref (ad 42)), (1, .int a1), (2, .int a2), (3, .int a3), (4, .int a4)]) rfl ?_
  unfold f_X5_tell at h
  refine r_lconst (v := 0) X dX5_tell_0 (by decide) ?_
  refine r_lstore X [(5, .long (0 : Int64)), (0, .ref (ad 42)), (1, .int a1), (2, .int a2), (3, .int a3), (4, .int a4)] dX5_tell_1 (by decide) rfl ?_
  refine r_iconst (v := 0) X dX5_tell_3 (by decide) ?_
  refine r_istore X [(7, .int (0 : Int32)), (5, .long (0 : Int64)), (0, .ref (ad 42)), (1, .int a1), (2, .int a2), (3, .int a3), (4, .int a4)] dX5_tell_4 (by decide) rfl ?_
  refine r_sub (lv' := [(0, .ref (ad 42)), (1, .int a1), (2, .int a2), (3, .int a3), (4, .int a4), (5, .long (0 : Int64)), (7, .int (0 : Int32))]) [2, 3, 4, 5, 6, 1, 0] rfl ?_
  exact t_X5_tell_l6 X 300 σ a1 a2 a3 a4 (0 : Int64) (0 : Int32) h
set_option maxRecDepth 100000 in
set_option maxHeartbeats 4000000 in
theorem t_X9_chance_b70 {M : am_M} {D : va_G} {cT : Nat → ClassId} {ad : Nat → Nat} (X : am_X M (D, cT, ad, NX, LX) cX9_chance RX9 4 (some .long)) {z : Int64 × Sg} (σ : Sg) (x1 : Int32) (x2 : Int32) (x3 : Int32) (h : f_X9_chance_b70 σ x1 x2 x3 = some z) : am_At M { frames := 4, cells := 0, slots := 0, locals := 103 } (D, cT, ad, NX, LX) (amQl M (D, cT, ad, NX, LX) z) 4 70 [(0, .ref (ad 0)), (1, .int x1), (2, .int x2), (3, .int x3)] [] σ := by
  unfold f_X9_chance_b70 at h
  refine r_aload_n X dX9_chance_70 rfl 0 rfl ?_
  refine r_getR (c1 := 42) X fg_X9_65_X9 fX_0 rfl dX9_chance_71 ?_
  refine r_iload_n X dX9_chance_74 rfl 2 rfl ?_
  refine r_iload_n X dX9_chance_75 rfl 1 rfl ?_
  refine r_aload_n X dX9_chance_76 rfl 0 rfl ?_
  refine r_getR (c1 := 14) X fg_X9_38_X9 fX_0 rfl dX9_chance_77 ?_
  refine r_getI X fg_X9_138_X1 fX_14 rfl dX9_chance_80 ?_
  refine r_iload_n X dX9_chance_83 rfl 3 rfl ?_
  obtain ⟨r1, σ2, hc_3, h⟩ := bnd_of h
  refine r_callV (As := [.int x2, .int x1, .int (σ 14 4), .int x3]) (rest := []) (st2 := [.long r1]) (c := 42) X cv_X9_258 (c_X5_tell M.2.1 hc_3) rfl (ci := 4) rfl fX_42 rfl rfl (Nat.le_of_ble_eq_true rfl) ⟨⟨rfl, rfl⟩, by decide, by decide⟩ dX9_chance_84 ⟨rfl, rfl⟩ rfl ?_
  exact r_lretz X rfl dX9_chance_87 h
set_option maxRecDepth 100000 in
set_option maxHeartbeats 4000000 in
theorem c_X9_chance (l : Launch) {σ : Sg} {a1 : Int32} {a2 : Int32} {a3 : Int32} {z : Int64 × Sg} (h : f_X9_chance σ a1 a2 a3 = some z) : am_Met l yX9_chance cX9_chance 4 (some .long) { frames := 4, cells := 0, slots := 0, locals := 103 } NX LX (fun ad => [.ref (ad 0), .int a1, .int a2, .int a3]) σ z.2 (fun _ => some (.long z.1)) := by
  refine am_enter (by decide +kernel) (fun ad => Nat.le_of_ble_eq_true rfl) (fun M D cT ad hl X => ?_)
  subst hl
  refine r_lv (lv' := [(0, .ref (ad 0)), (1, .int a1), (2, .int a2), (3, .int a3)]) rfl ?_
  unfold f_X9_chance at h
  refine r_iload_n X dX9_chance_0 rfl 1 rfl ?_
  refine r_bipush (v := 17) X dX9_chance_1 (by decide) ?_
  obtain ⟨r1, σ2, hc_13, h⟩ := bnd_of h
  refine r_callS (As := [.int a1, .int (17 : Int32)]) (rest := []) (st2 := [.int r1]) X cv_X9_91 (c_X9_isBelow M.2.1 hc_13) rfl rfl rfl (Nat.le_of_ble_eq_true rfl) ⟨⟨rfl, rfl⟩, by decide, by decide⟩ dX9_chance_3 ⟨rfl, rfl⟩ rfl ?_
  refine r_if_eq X 31 dX9_chance_6 (by decide) h (fun h => ?_) (fun h => ?_)
  · refine r_ldc2 (v := (-9223372036854775806)) X dX9_chance_31 bw_349 ?_
    exact r_lretz X rfl dX9_chance_34 h
  · refine r_iload_n X dX9_chance_9 rfl 2 rfl ?_
    refine r_aload_n X dX9_chance_10 rfl 0 rfl ?_
    refine r_getR (c1 := 10) X fg_X9_31_X9 fX_0 rfl dX9_chance_11 ?_
    refine r_getI X fg_X9_128_X4 fX_10 rfl dX9_chance_14 ?_
    obtain ⟨r3, σ4, hc_12, h⟩ := bnd_of h
    refine r_callS (As := [.int a2, .int (σ2 10 1)]) (rest := []) (st2 := [.int r3]) X cv_X9_91 (c_X9_isBelow M.2.1 hc_12) rfl rfl rfl (Nat.le_of_ble_eq_true rfl) ⟨⟨rfl, rfl⟩, by decide, by decide⟩ dX9_chance_17 ⟨rfl, rfl⟩ rfl ?_
    refine r_if_eq X 31 dX9_chance_20 (by decide) h (fun h => ?_) (fun h => ?_)
    · refine r_ldc2 (v := (-9223372036854775806)) X dX9_chance_31 bw_349 ?_
      exact r_lretz X rfl dX9_chance_34 h
    · refine r_iload_n X dX9_chance_23 rfl 3 rfl ?_
      refine r_iconst (v := 2) X dX9_chance_24 (by decide) ?_
      obtain ⟨r5, σ6, hc_11, h⟩ := bnd_of h
      refine r_callS (As := [.int a3, .int (2 : Int32)]) (rest := []) (st2 := [.int r5]) X cv_X9_91 (c_X9_isBelow M.2.1 hc_11) rfl rfl rfl (Nat.le_of_ble_eq_true rfl) ⟨⟨rfl, rfl⟩, by decide, by decide⟩ dX9_chance_25 ⟨rfl, rfl⟩ rfl ?_
      refine r_if_ne X 35 dX9_chance_28 (by decide) h (fun h => ?_) (fun h => ?_)
      · refine r_ldc2 (v := (-9223372036854775806)) X dX9_chance_31 bw_349 ?_
        exact r_lretz X rfl dX9_chance_34 h
      · refine r_aload_n X dX9_chance_35 rfl 0 rfl ?_
        refine r_getI X fg_X9_83_X9 fX_0 rfl dX9_chance_36 ?_
        refine r_if_eq X 70 dX9_chance_39 (by decide) h (fun h => ?_) (fun h => ?_)
        · exact t_X9_chance_b70 X σ6 a1 a2 a3 h
        · refine r_aload_n X dX9_chance_42 rfl 0 rfl ?_
          refine r_getR (c1 := 42) X fg_X9_65_X9 fX_0 rfl dX9_chance_43 ?_
          refine r_aload_n X dX9_chance_46 rfl 0 rfl ?_
          refine r_getR (c1 := 5) X fg_X9_24_X9 fX_0 rfl dX9_chance_47 ?_
          refine r_aload_n X dX9_chance_50 rfl 0 rfl ?_
          refine r_getR (c1 := 10) X fg_X9_31_X9 fX_0 rfl dX9_chance_51 ?_
          refine r_aload_n X dX9_chance_54 rfl 0 rfl ?_
          refine r_getR (c1 := 14) X fg_X9_38_X9 fX_0 rfl dX9_chance_55 ?_
          refine r_aload_n X dX9_chance_58 rfl 0 rfl ?_
          refine r_getR (c1 := 35) X fg_X9_59_X9 fX_0 rfl dX9_chance_59 ?_
          obtain ⟨r7, σ8, hc_10, h⟩ := bnd_of h
          refine r_callV (As := [.ref (ad 5), .ref (ad 10), .ref (ad 14), .ref (ad 35)]) (rest := []) (st2 := []) (c := 42) X cv_X9_254 (c_X5_tally M.2.1 iX1_14 iX0_35 hc_10) rfl (ci := 4) rfl fX_42 rfl rfl (Nat.le_of_ble_eq_true rfl) ⟨⟨rfl, rfl⟩, by decide, by decide⟩ dX9_chance_62 ⟨rfl, rfl⟩ rfl ?_
          refine r_aload_n X dX9_chance_65 rfl 0 rfl ?_
          refine r_iconst (v := 0) X dX9_chance_66 (by decide) ?_
          refine r_putZ X fp_X9_83_X9 fX_0 rfl (by decide) dX9_chance_67 h (fun σ9 h => ?_)
          exact t_X9_chance_b70 X σ9 a1 a2 a3 h
