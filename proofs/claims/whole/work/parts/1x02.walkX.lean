set_option maxRecDepth 100000 in
set_option maxHeartbeats 4000000 in
theorem t_X0_layDown_b34 {M : am_M} {D : va_G} {cT : Nat → ClassId} {ad : Nat → Nat} (X : am_X M (D, cT, ad, NX, LX) cX0_layDown RX0 4 none) {c0 : Nat} (hc0 : Is_X0 c0) {z : Unit × Sg} {k2 : Sg → Int32 → Int32 → Option (Unit × Sg)} (hk2 : ∀ (σ : Sg) (x2 : Int32) (x3 : Int32), k2 σ x2 x3 = some z → am_At M { frames := 0, cells := 0, slots := 0, locals := 0 } (D, cT, ad, NX, LX) (amQv M (D, cT, ad, NX, LX) z) 4 2 [(0, .ref (ad c0)), (1, .ref (ad 5)), (2, .int x2), (3, .int x3)] [] σ) (σ : Sg) (x2 : Int32) (x3 : Int32) (h : f_X0_layDown_b34 c0 k2 σ x2 x3 = some z) : am_At M { frames := 0, cells := 0, slots := 0, locals := 0 } (D, cT, ad, NX, LX) (amQv M (D, cT, ad, NX, LX) z) 4 34 [(0, .ref (ad c0)), (1, .ref (ad 5)), (2, .int x2), (3, .int x3)] [] σ := by
  unfold f_X0_layDown_b34 at h
  refine r_iinc X [(3, .int (x3 + (1 : Int32))), (0, .ref (ad c0)), (1, .ref (ad 5)), (2, .int x2)] dX0_layDown_34 3 rfl (v := x3 + (1 : Int32)) (by rfl) (by decide) rfl ?_
  refine r_letv h (fun v1 h => ?_)
  refine r_goto X 2 dX0_layDown_37 (by decide) ?_
  refine r_sub (lv' := [(0, .ref (ad c0)), (1, .ref (ad 5)), (2, .int x2), (3, .int v1)]) [1, 2, 3, 0] rfl ?_
  exact hk2 σ x2 v1 h
set_option maxRecDepth 100000 in
set_option maxHeartbeats 4000000 in
theorem t_X0_layDown_b2 {M : am_M} {D : va_G} {cT : Nat → ClassId} {ad : Nat → Nat} (X : am_X M (D, cT, ad, NX, LX) cX0_layDown RX0 4 none) {c0 : Nat} (hc0 : Is_X0 c0) {z : Unit × Sg} {k2 : Sg → Int32 → Int32 → Option (Unit × Sg)} (hk2 : ∀ (σ : Sg) (x2 : Int32) (x3 : Int32), k2 σ x2 x3 = some z → am_At M { frames := 0, cells := 0, slots := 0, locals := 0 } (D, cT, ad, NX, LX) (amQv M (D, cT, ad, NX, LX) z) 4 2 [(0, .ref (ad c0)), (1, .ref (ad 5)), (2, .int x2), (3, .int x3)] [] σ) (σ : Sg) (x2 : Int32) (x3 : Int32) (h : f_X0_layDown_b2 c0 k2 σ x2 x3 = some z) : am_At M { frames := 0, cells := 0, slots := 0, locals := 0 } (D, cT, ad, NX, LX) (amQv M (D, cT, ad, NX, LX) z) 4 2 [(0, .ref (ad c0)), (1, .ref (ad 5)), (2, .int x2), (3, .int x3)] [] σ := by
  unfold f_X0_layDown_b2 at h
  refine r_iload_n X dX0_layDown_2 rfl 3 rfl ?_
  refine r_aload_n X dX0_layDown_3 rfl 1 rfl ?_
  refine r_getI X fg_X0_83_X2 fX_5 rfl dX0_layDown_4 ?_
  refine r_icmp_ge X 40 dX0_layDown_7 (by decide) h (fun h => ?_) (fun h => ?_)
  · exact r_vretz X rfl dX0_layDown_40 h
  · refine r_aload_n X dX0_layDown_10 rfl 1 rfl ?_
    refine r_getR (c1 := 8) X fg_X0_86_X2 fX_5 rfl dX0_layDown_11 ?_
    refine r_iload_n X dX0_layDown_14 rfl 3 rfl ?_
    refine r_iald X fX_8 dX0_layDown_15 h (fun h => ?_)
    refine r_iload_n X dX0_layDown_16 rfl 2 rfl ?_
    refine r_icmp_ne X 34 dX0_layDown_17 (by decide) h (fun h => ?_) (fun h => ?_)
    · refine r_aload_n X dX0_layDown_20 rfl 0 rfl ?_
      refine r_dup X dX0_layDown_21 rfl ?_
      refine r_getI X fg_X0_37_X0 hc0.1 rfl dX0_layDown_22 ?_
      refine r_iconst (v := 1) X dX0_layDown_25 (by decide) ?_
      refine r_iload_n X dX0_layDown_26 rfl 3 rfl ?_
      refine r_ishl X dX0_layDown_27 ?_
      refine r_iconst (v := -1) X dX0_layDown_28 (by decide) ?_
      refine r_ixor X dX0_layDown_29 ?_
      refine r_iand X dX0_layDown_30 ?_
      refine r_putI X fp_X0_37_X0 hc0.1 rfl dX0_layDown_31 h (fun σ1 h => ?_)
      exact t_X0_layDown_b34 X hc0 hk2 σ1 x2 x3 h
    · exact t_X0_layDown_b34 X hc0 hk2 σ x2 x3 h
theorem t_X0_layDown_l2 {M : am_M} {D : va_G} {cT : Nat → ClassId} {ad : Nat → Nat} (X : am_X M (D, cT, ad, NX, LX) cX0_layDown RX0 4 none) {c0 : Nat} (hc0 : Is_X0 c0) {z : Unit × Sg} (n : Nat) : ∀ (σ : Sg) (x2 : Int32) (x3 : Int32), f_X0_layDown_l2 c0 n σ x2 x3 = some z → am_At M { frames := 0, cells := 0, slots := 0, locals := 0 } (D, cT, ad, NX, LX) (amQv M (D, cT, ad, NX, LX) z) 4 2 [(0, .ref (ad c0)), (1, .ref (ad 5)), (2, .int x2), (3, .int x3)] [] σ := by
  induction n with
  | zero =>
    intro σ x2 x3 h
    have h2 : (none : Option (Unit × Sg)) = some z := h
    cases h2
  | succ n ih =>
    intro σ x2 x3 h
    exact t_X0_layDown_b2 X hc0 (k2 := f_X0_layDown_l2 c0 n) ih σ x2 x3 h
set_option maxRecDepth 100000 in
set_option maxHeartbeats 4000000 in
theorem c_X0_layDown (l : Launch) {c0 : Nat} (hc0 : Is_X0 c0) {σ : Sg} {a2 : Int32} {z : Unit × Sg} (h : f_X0_layDown c0 σ a2 = some z) : am_Met l yX0_layDown cX0_layDown 4 none { frames := 0, cells := 0, slots := 0, locals := 0 } NX LX (fun ad => [.ref (ad c0), .ref (ad 5), .int a2]) σ z.2 (fun _ => none) := by
  refine am_enter (by decide +kernel) (fun ad => Nat.le_of_ble_eq_true rfl) (fun M D cT ad hl X => ?_)
  subst hl
  refine r_lv (lv' := [(0, .ref (ad c0)), (1, .ref (ad 5)), (2, .int a2)]) rfl ?_
  unfold f_X0_layDown at h
  refine r_iconst (v := 0) X dX0_layDown_0 (by decide) ?_
  refine r_istore_n X [(3, .int (0 : Int32)), (0, .ref (ad c0)), (1, .ref (ad 5)), (2, .int a2)] dX0_layDown_1 rfl (by decide) rfl ?_
  refine r_sub (lv' := [(0, .ref (ad c0)), (1, .ref (ad 5)), (2, .int a2), (3, .int (0 : Int32))]) [1, 2, 3, 0] rfl ?_
  exact t_X0_layDown_l2 X hc0 300 σ a2 (0 : Int32) h
set_option maxRecDepth 100000 in
set_option maxHeartbeats 4000000 in
theorem t_X0_run_b108 {M : am_M} {D : va_G} {cT : Nat → ClassId} {ad : Nat → Nat} (X : am_X M (D, cT, ad, NX, LX) cX0_run RX0 7 none) {c0 : Nat} (hc0 : Is_X0 c0) {c3 : Nat} (hc3 : Is_X1 c3) {z : Unit × Sg} {k7 : Sg → Int32 → Int32 → Option (Unit × Sg)} (hk7 : ∀ (σ : Sg) (x4 : Int32) (x5 : Int32), k7 σ x4 x5 = some z → am_At M { frames := 2, cells := 0, slots := 0, locals := 49 } (D, cT, ad, NX, LX) (amQv M (D, cT, ad, NX, LX) z) 7 7 [(0, .ref (ad c0)), (1, .ref (ad 5)), (2, .ref (ad 10)), (3, .ref (ad c3)), (4, .int x4), (5, .int x5)] [] σ) (σ : Sg) (x4 : Int32) (x5 : Int32) (h : f_X0_run_b108 c0 c3 k7 σ x4 x5 = some z) : am_At M { frames := 2, cells := 0, slots := 0, locals := 49 } (D, cT, ad, NX, LX) (amQv M (D, cT, ad, NX, LX) z) 7 108 [(0, .ref (ad c0)), (1, .ref (ad 5)), (2, .ref (ad 10)), (3, .ref (ad c3)), (4, .int x4), (5, .int x5)] [] σ := by
  unfold f_X0_run_b108 at h
  refine r_iinc X [(5, .int (x5 + (1 : Int32))), (0, .ref (ad c0)), (1, .ref (ad 5)), (2, .ref (ad 10)), (3, .ref (ad c3)), (4, .int x4)] dX0_run_108 5 rfl (v := x5 + (1 : Int32)) (by rfl) (by decide) rfl ?_
  refine r_letv h (fun v1 h => ?_)
  refine r_goto X 7 dX0_run_111 (by decide) ?_
  refine r_sub (lv' := [(0, .ref (ad c0)), (1, .ref (ad 5)), (2, .ref (ad 10)), (3, .ref (ad c3)), (4, .int x4), (5, .int v1)]) [1, 2, 3, 4, 5, 0] rfl ?_
  exact hk7 σ x4 v1 h
set_option maxRecDepth 100000 in
set_option maxHeartbeats 4000000 in
theorem t_X0_run_b7 {M : am_M} {D : va_G} {cT : Nat → ClassId} {ad : Nat → Nat} (X : am_X M (D, cT, ad, NX, LX) cX0_run RX0 7 none) {c0 : Nat} (hc0 : Is_X0 c0) {c3 : Nat} (hc3 : Is_X1 c3) {z : Unit × Sg} {k7 : Sg → Int32 → Int32 → Option (Unit × Sg)} (hk7 : ∀ (σ : Sg) (x4 : Int32) (x5 : Int32), k7 σ x4 x5 = some z → am_At M { frames := 2, cells := 0, slots := 0, locals := 49 } (D, cT, ad, NX, LX) (amQv M (D, cT, ad, NX, LX) z) 7 7 [(0, .ref (ad c0)), (1, .ref (ad 5)), (2, .ref (ad 10)), (3, .ref (ad c3)), (4, .int x4), (5, .int x5)] [] σ) (σ : Sg) (x4 : Int32) (x5 : Int32) (h : f_X0_run_b7 c0 c3 k7 σ x4 x5 = some z) : am_At M { frames := 2, cells := 0, slots := 0, locals := 49 } (D, cT, ad, NX, LX) (amQv M (D, cT, ad, NX, LX) z) 7 7 [(0, .ref (ad c0)), (1, .ref (ad 5)), (2, .ref (ad 10)), (3, .ref (ad c3)), (4, .int x4), (5, .int x5)] [] σ := by
  unfold f_X0_run_b7 at h
  refine r_iload X dX0_run_7 5 rfl ?_
  refine r_aload_n X dX0_run_9 rfl 3 rfl ?_
  refine r_getI X fg_X0_46_X1 hc3.1 rfl dX0_run_10 ?_
  refine r_icmp_ge X 114 dX0_run_13 (by decide) h (fun h => ?_) (fun h => ?_)
  · refine r_aload_n X dX0_run_114 rfl 0 rfl ?_
    refine r_bipush (v := 24) X dX0_run_115 (by decide) ?_
    obtain ⟨r1, σ2, hc_3, h⟩ := bnd_of h
    refine r_callV (As := [.int (24 : Int32)]) (rest := []) (st2 := []) (c := c0) X cv_X0_57 (c_X0_endNightsTo M.2.1 hc0 hc_3) rfl (ci := 0) rfl hc0.1 rfl rfl (Nat.le_of_ble_eq_true rfl) ⟨⟨rfl, rfl⟩, by decide, by decide⟩ dX0_run_117 ⟨rfl, rfl⟩ rfl ?_
    exact r_vretz X rfl dX0_run_120 h
  · refine r_aload_n X dX0_run_16 rfl 3 rfl ?_
    refine r_getR (c1 := (c3 + 4)) X fg_X0_51_X1 hc3.1 rfl dX0_run_17 ?_
    refine r_iload X dX0_run_20 5 rfl ?_
    refine r_iald X hc3.2.2.2.2 dX0_run_22 h (fun h => ?_)
    refine r_leti h (fun v4 h => ?_)
    refine r_istore X [(6, .int v4), (0, .ref (ad c0)), (1, .ref (ad 5)), (2, .ref (ad 10)), (3, .ref (ad c3)), (4, .int x4), (5, .int x5)] dX0_run_23 (by decide) rfl ?_
    refine r_iload X dX0_run_25 5 rfl ?_
    refine r_iload X dX0_run_27 0 rfl ?_
    refine r_ishr X dX0_run_29 ?_
    refine r_iconst (v := 1) X dX0_run_30 (by decide) ?_
    refine r_iand X dX0_run_31 ?_
    refine r_if_eq X 108 dX0_run_32 (by decide) h (fun h => ?_) (fun h => ?_)
    · refine r_sub (lv' := [(0, .ref (ad c0)), (1, .ref (ad 5)), (2, .ref (ad 10)), (3, .ref (ad c3)), (4, .int x4), (5, .int x5)]) [1, 2, 3, 4, 5, 6] rfl ?_
      exact t_X0_run_b108 X hc0 hc3 hk7 σ x4 x5 h
    · refine r_aload_n X dX0_run_35 rfl 1 rfl ?_
      refine r_aload_n X dX0_run_36 rfl 4 rfl ?_
      refine r_getR (c1 := (c3 + 2)) X fg_X0_54_X1 hc3.1 rfl dX0_run_37 ?_
      refine r_iload X dX0_run_40 0 rfl ?_
      refine r_iald X hc3.2.2.1 dX0_run_42 h (fun h => ?_)
      obtain ⟨r5, σ6, hc_19, h⟩ := bnd_of h
      refine r_callV (As := [.int (σ (c3 + 2) (v4).toNatClampNeg)]) (rest := []) (st2 := []) (c := c0) X cv_X0_57 (c_X0_endNightsTo M.2.1 hc0 hc_19) rfl (ci := 0) rfl hc0.1 rfl rfl (Nat.le_of_ble_eq_true rfl) ⟨⟨rfl, rfl⟩, by decide, by decide⟩ dX0_run_43 ⟨rfl, rfl⟩ rfl ?_
      refine r_aload_n X dX0_run_46 rfl 4 rfl ?_
      refine r_getR (c1 := (c3 + 1)) X fg_X0_61_X1 hc3.1 rfl dX0_run_47 ?_
      refine r_iload X dX0_run_50 0 rfl ?_
      refine r_iald X hc3.2.1 dX0_run_52 h (fun h => ?_)
      refine r_iconst (v := 1) X dX0_run_53 (by decide) ?_
      refine r_icmp_ne X 72 dX0_run_54 (by decide) h (fun h => ?_) (fun h => ?_)
      · refine r_aload_n X dX0_run_57 rfl 1 rfl ?_
        refine r_aload_n X dX0_run_58 rfl 2 rfl ?_
        refine r_aload_n X dX0_run_59 rfl 4 rfl ?_
        refine r_getR (c1 := (c3 + 3)) X fg_X0_64_X1 hc3.1 rfl dX0_run_60 ?_
        refine r_iload X dX0_run_63 0 rfl ?_
        refine r_iald X hc3.2.2.2.1 dX0_run_65 h (fun h => ?_)
        obtain ⟨r16, σ17, hc_18, h⟩ := bnd_of h
        refine r_callV (As := [.ref (ad 5), .int (σ6 (c3 + 3) (v4).toNatClampNeg)]) (rest := []) (st2 := []) (c := c0) X cv_X0_67 (c_X0_layDown M.2.1 hc0 hc_18) rfl (ci := 0) rfl hc0.1 rfl rfl (Nat.le_of_ble_eq_true rfl) ⟨⟨rfl, rfl⟩, by decide, by decide⟩ dX0_run_66 ⟨rfl, rfl⟩ rfl ?_
        refine r_goto X 108 dX0_run_69 (by decide) ?_
        refine r_sub (lv' := [(0, .ref (ad c0)), (1, .ref (ad 5)), (2, .ref (ad 10)), (3, .ref (ad c3)), (4, .int x4), (5, .int x5)]) [1, 2, 3, 4, 5, 6] rfl ?_
        exact t_X0_run_b108 X hc0 hc3 hk7 σ17 x4 x5 h
      · refine r_aload_n X dX0_run_72 rfl 1 rfl ?_
        refine r_aload_n X dX0_run_73 rfl 3 rfl ?_
        refine r_aload_n X dX0_run_74 rfl 4 rfl ?_
        refine r_getR (c1 := (c3 + 2)) X fg_X0_54_X1 hc3.1 rfl dX0_run_75 ?_
        refine r_iload X dX0_run_78 0 rfl ?_
        refine r_iald X hc3.2.2.1 dX0_run_80 h (fun h => ?_)
        obtain ⟨r7, σ8, hc_15, h⟩ := bnd_of h
        refine r_callV (As := [.ref (ad 10), .int (σ6 (c3 + 2) (v4).toNatClampNeg)]) (rest := []) (st2 := []) (c := c0) X cv_X0_71 (c_X0_weighNeeds M.2.1 hc0 hc_15) rfl (ci := 0) rfl hc0.1 rfl rfl (Nat.le_of_ble_eq_true rfl) ⟨⟨rfl, rfl⟩, by decide, by decide⟩ dX0_run_81 ⟨rfl, rfl⟩ rfl ?_
        refine r_aload_n X dX0_run_84 rfl 1 rfl ?_
        refine r_aload_n X dX0_run_85 rfl 1 rfl ?_
        refine r_aload_n X dX0_run_86 rfl 2 rfl ?_
        refine r_aload_n X dX0_run_87 rfl 4 rfl ?_
        refine r_getR (c1 := (c3 + 3)) X fg_X0_64_X1 hc3.1 rfl dX0_run_88 ?_
        refine r_iload X dX0_run_91 0 rfl ?_
        refine r_iald X hc3.2.2.2.1 dX0_run_93 h (fun h => ?_)
        obtain ⟨r9, σ10, hc_14, h⟩ := bnd_of h
        refine r_callV (As := [.ref (ad 5), .int (σ8 (c3 + 3) (v4).toNatClampNeg)]) (rest := [.ref (ad c0)]) (st2 := [.int r9, .ref (ad c0)]) (c := c0) X cv_X0_75 (c_X0_strongestIn M.2.1 hc0 hc_14) rfl (ci := 0) rfl hc0.1 rfl rfl (Nat.le_of_ble_eq_true rfl) ⟨⟨rfl, rfl⟩, by decide, by decide⟩ dX0_run_94 ⟨rfl, rfl⟩ rfl ?_
        refine r_aload_n X dX0_run_97 rfl 3 rfl ?_
        refine r_aload_n X dX0_run_98 rfl 4 rfl ?_
        refine r_getR (c1 := (c3 + 2)) X fg_X0_54_X1 hc3.1 rfl dX0_run_99 ?_
        refine r_iload X dX0_run_102 0 rfl ?_
        refine r_iald X hc3.2.2.1 dX0_run_104 h (fun h => ?_)
        obtain ⟨r11, σ12, hc_13, h⟩ := bnd_of h
        refine r_callV (As := [.int r9, .ref (ad 10), .int (σ10 (c3 + 2) (v4).toNatClampNeg)]) (rest := []) (st2 := []) (c := c0) X cv_X0_79 (c_X0_bringUp M.2.1 hc0 hc_13) rfl (ci := 0) rfl hc0.1 rfl rfl (Nat.le_of_ble_eq_true rfl) ⟨⟨rfl, rfl⟩, by decide, by decide⟩ dX0_run_105 ⟨rfl, rfl⟩ rfl ?_
        refine r_sub (lv' := [(0, .ref (ad c0)), (1, .ref (ad 5)), (2, .ref (ad 10)), (3, .ref (ad c3)), (4, .int x4), (5, .int x5)]) [1, 2, 3, 4, 5, 6] rfl ?_
        exact t_X0_run_b108 X hc0 hc3 hk7 σ12 x4 x5 h
theorem t_X0_run_l7 {M : am_M} {D : va_G} {cT : Nat → ClassId} {ad : Nat → Nat} (X : am_X M (D, cT, ad, NX, LX) cX0_run RX0 7 none) {c0 : Nat} (hc0 : Is_X0 c0) {c3 : Nat} (hc3 : Is_X1 c3) {z : Unit × Sg} (n : Nat) : ∀ (σ : Sg) (x4 : Int32) (x5 : Int32), f_X0_run_l7 c0 c3 n σ x4 x5 = some z → am_At M { frames := 2, cells := 0, slots := 0, locals := 49 } (D, cT, ad, NX, LX) (amQv M (D, cT, ad, NX, LX) z) 7 7 [(0, .ref (ad c0)), (1, .ref (ad 5)), (2, .ref (ad 10)), (3, .ref (ad c3)), (4, .int x4), (5, .int x5)] [] σ := by
  induction n with
  | zero =>
    intro σ x4 x5 h
    have h2 : (none : Option (Unit × Sg)) = some z := h
    cases h2
  | succ n ih =>
    intro σ x4 x5 h
    exact t_X0_run_b7 X hc0 hc3 (k7 := f_X0_run_l7 c0 c3 n) ih σ x4 x5 h
set_option maxRecDepth 100000 in
set_option maxHeartbeats 4000000 in
theorem c_X0_run (l : Launch) {c0 : Nat} (hc0 : Is_X0 c0) {c3 : Nat} (hc3 : Is_X1 c3) {σ : Sg} {a4 : Int32} {z : Unit × Sg} (h : f_X0_run c0 c3 σ a4 = some z) : am_Met l yX0_run cX0_run 7 none { frames := 2, cells := 0, slots := 0, locals := 49 } NX LX (fun ad => [.ref (ad c0), .ref (ad 5), .ref (ad 10), .ref (ad c3), .int a4]) σ z.2 (fun _ => none) := by
  refine am_enter (by decide +kernel) (fun ad => Nat.le_of_ble_eq_true rfl) (fun M D cT ad hl X => ?_)
  subst hl
  refine r_lv (lv' := [(0, .ref (ad c0)), (1, .ref (ad 5)), (2, .ref (ad 10)), (3, .ref (ad c3)), (4, .int a4)]) rfl ?_
  unfold f_X0_run at h
  refine r_aload_n X dX0_run_0 rfl 0 rfl ?_
  obtain ⟨r1, σ2, hc_3, h⟩ := bnd_of h
  refine r_callV (As := []) (rest := []) (st2 := []) (c := c0) X cv_X0_43 (c_X0_startAnew M.2.1 hc0 hc_3) rfl (ci := 0) rfl hc0.1 rfl rfl (Nat.le_of_ble_eq_true rfl) ⟨⟨rfl, rfl⟩, by decide, by decide⟩ dX0_run_1 ⟨rfl, rfl⟩ rfl ?_
  refine r_iconst (v := 0) X dX0_run_4 (by decide) ?_
  refine r_istore X [(5, .int (0 : Int32)), (0, .ref (ad c0)), (1, .ref (ad 5)), (2, .ref (ad 10)), (3, .ref (ad c3)), (4, .int a4)] dX0_run_5 (by decide) rfl ?_
  refine r_sub (lv' := [(0, .ref (ad c0)), (1, .ref (ad 5)), (2, .ref (ad 10)), (3, .ref (ad c3)), (4, .int a4), (5, .int (0 : Int32))]) [1, 2, 3, 4, 5, 0] rfl ?_
  exact t_X0_run_l7 X hc0 hc3 300 σ2 a4 (0 : Int32) h
set_option maxRecDepth 100000 in
set_option maxHeartbeats 4000000 in
theorem t_X9_asTold_b32 {M : am_M} {D : va_G} {cT : Nat → ClassId} {ad : Nat → Nat} (X : am_X M (D, cT, ad, NX, LX) cX9_asTold RX9 1 (some (.object "PloughTurns$Course"))) {z : Nat × Sg} (σ : Sg) (h : f_X9_asTold_b32 σ = some z) : am_At M { frames := 3, cells := 0, slots := 0, locals := 75 } (D, cT, ad, NX, LX) (amQr M (D, cT, ad, NX, LX) z) 1 32 [(0, .ref (ad 0))] [] σ := by
  unfold f_X9_asTold_b32 at h
  refine r_aload_n X dX9_asTold_32 rfl 0 rfl ?_
  refine r_getR (c1 := 28) X fg_X9_55_X9 fX_0 rfl dX9_asTold_33 ?_
  exact r_aretz X rfl dX9_asTold_36 h
set_option maxRecDepth 100000 in
set_option maxHeartbeats 4000000 in
theorem c_X9_asTold (l : Launch) {σ : Sg} {z : Nat × Sg} (h : f_X9_asTold σ = some z) : am_Met l yX9_asTold cX9_asTold 1 (some (.object "PloughTurns$Course")) { frames := 3, cells := 0, slots := 0, locals := 75 } NX LX (fun ad => [.ref (ad 0)]) σ z.2 (fun ad => some (.ref (ad z.1))) := by
  refine am_enter (by decide +kernel) (fun ad => Nat.le_of_ble_eq_true rfl) (fun M D cT ad hl X => ?_)
  subst hl
  refine r_lv (lv' := [(0, .ref (ad 0))]) rfl ?_
  unfold f_X9_asTold at h
  refine r_aload_n X dX9_asTold_0 rfl 0 rfl ?_
  refine r_getI X fg_X9_79_X9 fX_0 rfl dX9_asTold_1 ?_
  refine r_if_eq X 32 dX9_asTold_4 (by decide) h (fun h => ?_) (fun h => ?_)
  · exact t_X9_asTold_b32 X σ h
  · refine r_aload_n X dX9_asTold_7 rfl 0 rfl ?_
    refine r_getR (c1 := 28) X fg_X9_55_X9 fX_0 rfl dX9_asTold_8 ?_
    refine r_aload_n X dX9_asTold_11 rfl 0 rfl ?_
    refine r_getR (c1 := 5) X fg_X9_24_X9 fX_0 rfl dX9_asTold_12 ?_
    refine r_aload_n X dX9_asTold_15 rfl 0 rfl ?_
    refine r_getR (c1 := 10) X fg_X9_31_X9 fX_0 rfl dX9_asTold_16 ?_
    refine r_aload_n X dX9_asTold_19 rfl 0 rfl ?_
    refine r_getR (c1 := 14) X fg_X9_38_X9 fX_0 rfl dX9_asTold_20 ?_
    refine r_iconst (v := -1) X dX9_asTold_23 (by decide) ?_
    obtain ⟨r1, σ2, hc_4, h⟩ := bnd_of h
    refine r_callV (As := [.ref (ad 5), .ref (ad 10), .ref (ad 14), .int (-1 : Int32)]) (rest := []) (st2 := []) (c := 28) X cv_X9_235 (c_X0_run M.2.1 iX0_28 iX1_14 hc_4) rfl (ci := 0) rfl fX_28 rfl rfl (Nat.le_of_ble_eq_true rfl) ⟨⟨rfl, rfl⟩, by decide, by decide⟩ dX9_asTold_24 ⟨rfl, rfl⟩ rfl ?_
    refine r_aload_n X dX9_asTold_27 rfl 0 rfl ?_
    refine r_iconst (v := 0) X dX9_asTold_28 (by decide) ?_
    refine r_putZ X fp_X9_79_X9 fX_0 rfl (by decide) dX9_asTold_29 h (fun σ3 h => ?_)
    exact t_X9_asTold_b32 X σ3 h
set_option maxRecDepth 100000 in
set_option maxHeartbeats 4000000 in
theorem c_X0_isUp (l : Launch) {c0 : Nat} (hc0 : Is_X0 c0) {σ : Sg} {a1 : Int32} {a2 : Int32} {z : Int32 × Sg} (h : f_X0_isUp c0 σ a1 a2 = some z) : am_Met l yX0_isUp cX0_isUp 3 (some .boolean) { frames := 0, cells := 0, slots := 0, locals := 0 } NX LX (fun ad => [.ref (ad c0), .int a1, .int a2]) σ z.2 (fun _ => some (.int z.1)) := by
  refine am_enter (by decide +kernel) (fun ad => Nat.le_of_ble_eq_true rfl) (fun M D cT ad hl X => ?_)
  subst hl
  refine r_lv (lv' := [(0, .ref (ad c0)), (1, .int a1), (2, .int a2)]) rfl ?_
  unfold f_X0_isUp at h
  refine r_aload_n X dX0_isUp_0 rfl 0 rfl ?_
  refine r_getR (c1 := (c0 + 4)) X fg_X0_21_X0 hc0.1 rfl dX0_isUp_1 ?_
  refine r_iload_n X dX0_isUp_4 rfl 1 rfl ?_
  refine r_iald X hc0.2.2.2.2.1 dX0_isUp_5 h (fun h => ?_)
  refine r_iload_n X dX0_isUp_6 rfl 2 rfl ?_
  refine r_ishr X dX0_isUp_7 ?_
  refine r_iconst (v := 1) X dX0_isUp_8 (by decide) ?_
  refine r_iand X dX0_isUp_9 ?_
  refine r_if_eq X 17 dX0_isUp_10 (by decide) h (fun h => ?_) (fun h => ?_)
  · refine r_iconst (v := 0) X dX0_isUp_17 (by decide) ?_
    exact r_zretz X rfl (by decide) dX0_isUp_18 h
  · refine r_iconst (v := 1) X dX0_isUp_13 (by decide) ?_
    refine r_goto X 18 dX0_isUp_14 (by decide) ?_
    exact r_zretz X rfl (by decide) dX0_isUp_18 h
set_option maxRecDepth 100000 in
set_option maxHeartbeats 4000000 in
theorem t_X0_isOpenBehind_b30 {M : am_M} {D : va_G} {cT : Nat → ClassId} {ad : Nat → Nat} (X : am_X M (D, cT, ad, NX, LX) cX0_isOpenBehind RX0 4 (some .boolean)) {c0 : Nat} (hc0 : Is_X0 c0) {z : Int32 × Sg} (σ : Sg) (h : f_X0_isOpenBehind_b30 c0 σ = some z) : am_At M { frames := 0, cells := 0, slots := 0, locals := 0 } (D, cT, ad, NX, LX) (amQi M (D, cT, ad, NX, LX) z) 4 30 [] [] σ := by
  unfold f_X0_isOpenBehind_b30 at h
  refine r_iconst (v := 1) X dX0_isOpenBehind_30 (by decide) ?_
  refine r_goto X 35 dX0_isOpenBehind_31 (by decide) ?_
  exact r_zretz X rfl (by decide) dX0_isOpenBehind_35 h
set_option maxRecDepth 100000 in
set_option maxHeartbeats 4000000 in
theorem c_X0_isOpenBehind (l : Launch) {c0 : Nat} (hc0 : Is_X0 c0) {σ : Sg} {a2 : Int32} {a3 : Int32} {z : Int32 × Sg} (h : f_X0_isOpenBehind c0 σ a2 a3 = some z) : am_Met l yX0_isOpenBehind cX0_isOpenBehind 4 (some .boolean) { frames := 0, cells := 0, slots := 0, locals := 0 } NX LX (fun ad => [.ref (ad c0), .ref (ad 10), .int a2, .int a3]) σ z.2 (fun _ => some (.int z.1)) := by
  refine am_enter (by decide +kernel) (fun ad => Nat.le_of_ble_eq_true rfl) (fun M D cT ad hl X => ?_)
  subst hl
  refine r_lv (lv' := [(0, .ref (ad c0)), (1, .ref (ad 10)), (2, .int a2), (3, .int a3)]) rfl ?_
  unfold f_X0_isOpenBehind at h
  refine r_aload_n X dX0_isOpenBehind_0 rfl 1 rfl ?_
  refine r_getR (c1 := 12) X fg_X0_92_X4 fX_10 rfl dX0_isOpenBehind_1 ?_
  refine r_iload_n X dX0_isOpenBehind_4 rfl 2 rfl ?_
  refine r_iald X fX_12 dX0_isOpenBehind_5 h (fun h => ?_)
  refine r_iload_n X dX0_isOpenBehind_6 rfl 3 rfl ?_
  refine r_icmp_gt X 34 dX0_isOpenBehind_7 (by decide) h (fun h => ?_) (fun h => ?_)
  · refine r_iconst (v := 0) X dX0_isOpenBehind_34 (by decide) ?_
    exact r_zretz X rfl (by decide) dX0_isOpenBehind_35 h
  · refine r_aload_n X dX0_isOpenBehind_10 rfl 0 rfl ?_
    refine r_getR (c1 := (c0 + 1)) X fg_X0_9_X0 hc0.1 rfl dX0_isOpenBehind_11 ?_
    refine r_iload_n X dX0_isOpenBehind_14 rfl 2 rfl ?_
    refine r_iald X hc0.2.1 dX0_isOpenBehind_15 h (fun h => ?_)
    refine r_iconst (v := -1) X dX0_isOpenBehind_16 (by decide) ?_
    refine r_icmp_eq X 30 dX0_isOpenBehind_17 (by decide) h (fun h => ?_) (fun h => ?_)
    · refine r_sub (lv' := []) [] rfl ?_
      exact t_X0_isOpenBehind_b30 X hc0 σ h
    · refine r_aload_n X dX0_isOpenBehind_20 rfl 0 rfl ?_
      refine r_getR (c1 := (c0 + 1)) X fg_X0_9_X0 hc0.1 rfl dX0_isOpenBehind_21 ?_
      refine r_iload_n X dX0_isOpenBehind_24 rfl 2 rfl ?_
      refine r_iald X hc0.2.1 dX0_isOpenBehind_25 h (fun h => ?_)
      refine r_iload_n X dX0_isOpenBehind_26 rfl 3 rfl ?_
      refine r_icmp_le X 34 dX0_isOpenBehind_27 (by decide) h (fun h => ?_) (fun h => ?_)
      · refine r_iconst (v := 0) X dX0_isOpenBehind_34 (by decide) ?_
        exact r_zretz X rfl (by decide) dX0_isOpenBehind_35 h
      · refine r_sub (lv' := []) [] rfl ?_
        exact t_X0_isOpenBehind_b30 X hc0 σ h
set_option maxRecDepth 100000 in
set_option maxHeartbeats 4000000 in
theorem t_X0_wantedBehind_b49 {M : am_M} {D : va_G} {cT : Nat → ClassId} {ad : Nat → Nat} (X : am_X M (D, cT, ad, NX, LX) cX0_wantedBehind RX0 6 (some .int)) {c0 : Nat} (hc0 : Is_X0 c0) {z : Int32 × Sg} {k6 : Sg → Int32 → Int32 → Int32 → Int32 → Option (Int32 × Sg)} (hk6 : ∀ (σ : Sg) (x2 : Int32) (x3 : Int32) (x4 : Int32) (x5 : Int32), k6 σ x2 x3 x4 x5 = some z → am_At M { frames := 1, cells := 0, slots := 0, locals := 23 } (D, cT, ad, NX, LX) (amQi M (D, cT, ad, NX, LX) z) 6 6 [(0, .ref (ad c0)), (1, .ref (ad 10)), (2, .int x2), (3, .int x3), (4, .int x4), (5, .int x5)] [] σ) (σ : Sg) (x2 : Int32) (x3 : Int32) (x4 : Int32) (x5 : Int32) (h : f_X0_wantedBehind_b49 c0 k6 σ x2 x3 x4 x5 = some z) : am_At M { frames := 1, cells := 0, slots := 0, locals := 23 } (D, cT, ad, NX, LX) (amQi M (D, cT, ad, NX, LX) z) 6 49 [(0, .ref (ad c0)), (1, .ref (ad 10)), (2, .int x2), (3, .int x3), (4, .int x4), (5, .int x5)] [] σ := by
  unfold f_X0_wantedBehind_b49 at h
  refine r_iinc X [(5, .int (x5 + (1 : Int32))), (0, .ref (ad c0)), (1, .ref (ad 10)), (2, .int x2), (3, .int x3), (4, .int x4)] dX0_wantedBehind_49 5 rfl (v := x5 + (1 : Int32)) (by rfl) (by decide) rfl ?_
  refine r_letv h (fun v1 h => ?_)
  refine r_goto X 6 dX0_wantedBehind_52 (by decide) ?_
  refine r_sub (lv' := [(0, .ref (ad c0)), (1, .ref (ad 10)), (2, .int x2), (3, .int x3), (4, .int x4), (5, .int v1)]) [1, 2, 3, 4, 5, 0] rfl ?_
  exact hk6 σ x2 x3 x4 v1 h
set_option maxRecDepth 100000 in
set_option maxHeartbeats 4000000 in
theorem t_X0_wantedBehind_b6 {M : am_M} {D : va_G} {cT : Nat → ClassId} {ad : Nat → Nat} (X : am_X M (D, cT, ad, NX, LX) cX0_wantedBehind RX0 6 (some .int)) {c0 : Nat} (hc0 : Is_X0 c0) {z : Int32 × Sg} {k6 : Sg → Int32 → Int32 → Int32 → Int32 → Option (Int32 × Sg)} (hk6 : ∀ (σ : Sg) (x2 : Int32) (x3 : Int32) (x4 : Int32) (x5 : Int32), k6 σ x2 x3 x4 x5 = some z → am_At M { frames := 1, cells := 0, slots := 0, locals := 23 } (D, cT, ad, NX, LX) (amQi M (D, cT, ad, NX, LX) z) 6 6 [(0, .ref (ad c0)), (1, .ref (ad 10)), (2, .int x2), (3, .int x3), (4, .int x4), (5, .int x5)] [] σ) (σ : Sg) (x2 : Int32) (x3 : Int32) (x4 : Int32) (x5 : Int32) (h : f_X0_wantedBehind_b6 c0 k6 σ x2 x3 x4 x5 = some z) : am_At M { frames := 1, cells := 0, slots := 0, locals := 23 } (D, cT, ad, NX, LX) (amQi M (D, cT, ad, NX, LX) z) 6 6 [(0, .ref (ad c0)), (1, .ref (ad 10)), (2, .int x2), (3, .int x3), (4, .int x4), (5, .int x5)] [] σ := by
  unfold f_X0_wantedBehind_b6 at h
  refine r_iload X dX0_wantedBehind_6 5 rfl ?_
  refine r_aload_n X dX0_wantedBehind_8 rfl 1 rfl ?_
  refine r_getI X fg_X0_89_X4 fX_10 rfl dX0_wantedBehind_9 ?_
  refine r_icmp_ge X 55 dX0_wantedBehind_12 (by decide) h (fun h => ?_) (fun h => ?_)
  · refine r_iload X dX0_wantedBehind_55 4 rfl ?_
    exact r_iretz X rfl dX0_wantedBehind_57 h
  · refine r_aload_n X dX0_wantedBehind_15 rfl 1 rfl ?_
    refine r_getR (c1 := 11) X fg_X0_93_X4 fX_10 rfl dX0_wantedBehind_16 ?_
    refine r_iload X dX0_wantedBehind_19 5 rfl ?_
    refine r_iald X fX_11 dX0_wantedBehind_21 h (fun h => ?_)
    refine r_iload_n X dX0_wantedBehind_22 rfl 3 rfl ?_
    refine r_icmp_ne X 49 dX0_wantedBehind_23 (by decide) h (fun h => ?_) (fun h => ?_)
    · refine r_aload_n X dX0_wantedBehind_26 rfl 0 rfl ?_
      refine r_aload_n X dX0_wantedBehind_27 rfl 1 rfl ?_
      refine r_iload X dX0_wantedBehind_28 5 rfl ?_
      refine r_iload_n X dX0_wantedBehind_30 rfl 2 rfl ?_
      obtain ⟨r1, σ2, hc_7, h⟩ := bnd_of h
      refine r_callV (As := [.ref (ad 10), .int x5, .int x2]) (rest := []) (st2 := [.int r1]) (c := c0) X cv_X0_116 (c_X0_isOpenBehind M.2.1 hc0 hc_7) rfl (ci := 0) rfl hc0.1 rfl rfl (Nat.le_of_ble_eq_true rfl) ⟨⟨rfl, rfl⟩, by decide, by decide⟩ dX0_wantedBehind_31 ⟨rfl, rfl⟩ rfl ?_
      refine r_if_eq X 49 dX0_wantedBehind_34 (by decide) h (fun h => ?_) (fun h => ?_)
      · exact t_X0_wantedBehind_b49 X hc0 hk6 σ2 x2 x3 x4 x5 h
      · refine r_iload X dX0_wantedBehind_37 4 rfl ?_
        refine r_aload_n X dX0_wantedBehind_39 rfl 1 rfl ?_
        refine r_iload X dX0_wantedBehind_40 5 rfl ?_
        refine r_iload_n X dX0_wantedBehind_42 rfl 2 rfl ?_
        obtain ⟨r3, σ4, hc_6, h⟩ := bnd_of h
        refine r_callV (As := [.int x5, .int x2]) (rest := [.int x4]) (st2 := [.int r3, .int x4]) (c := 10) X cv_X0_96 (c_X4_weightOn M.2.1 hc_6) rfl (ci := 3) rfl fX_10 rfl rfl (Nat.le_of_ble_eq_true rfl) ⟨⟨rfl, rfl⟩, by decide, by decide⟩ dX0_wantedBehind_43 ⟨rfl, rfl⟩ rfl ?_
        refine r_iadd X dX0_wantedBehind_46 ?_
        refine r_leti h (fun v5 h => ?_)
        refine r_istore X [(4, .int v5), (0, .ref (ad c0)), (1, .ref (ad 10)), (2, .int x2), (3, .int x3), (5, .int x5)] dX0_wantedBehind_47 (by decide) rfl ?_
        refine r_sub (lv' := [(0, .ref (ad c0)), (1, .ref (ad 10)), (2, .int x2), (3, .int x3), (4, .int v5), (5, .int x5)]) [1, 2, 3, 4, 0, 5] rfl ?_
        exact t_X0_wantedBehind_b49 X hc0 hk6 σ4 x2 x3 v5 x5 h
    · exact t_X0_wantedBehind_b49 X hc0 hk6 σ x2 x3 x4 x5 h
theorem t_X0_wantedBehind_l6 {M : am_M} {D : va_G} {cT : Nat → ClassId} {ad : Nat → Nat} (X : am_X M (D, cT, ad, NX, LX) cX0_wantedBehind RX0 6 (some .int)) {c0 : Nat} (hc0 : Is_X0 c0) {z : Int32 × Sg} (n : Nat) : ∀ (σ : Sg) (x2 : Int32) (x3 : Int32) (x4 : Int32) (x5 : Int32), f_X0_wantedBehind_l6 c0 n σ x2 x3 x4 x5 = some z → am_At M { frames := 1, cells := 0, slots := 0, locals := 23 } (D, cT, ad, NX, LX) (amQi M (D, cT, ad, NX, LX) z) 6 6 [(0, .ref (ad c0)), (1, .ref (ad 10)), (2, .int x2), (3, .int x3), (4, .int x4), (5, .int x5)] [] σ := by
  induction n with
  | zero =>
    intro σ x2 x3 x4 x5 h
    have h2 : (none : Option (Int32 × Sg)) = some z := h
    cases h2
  | succ n ih =>
    intro σ x2 x3 x4 x5 h
    exact t_X0_wantedBehind_b6 X hc0 (k6 := f_X0_wantedBehind_l6 c0 n) ih σ x2 x3 x4 x5 h
set_option maxRecDepth 100000 in
set_option maxHeartbeats 4000000 in
theorem c_X0_wantedBehind (l : Launch) {c0 : Nat} (hc0 : Is_X0 c0) {σ : Sg} {a2 : Int32} {a3 : Int32} {z : Int32 × Sg} (h : f_X0_wantedBehind c0 σ a2 a3 = some z) : am_Met l yX0_wantedBehind cX0_wantedBehind 6 (some .int) { frames := 1, cells := 0, slots := 0, locals := 23 } NX LX (fun ad => [.ref (ad c0), .ref (ad 10), .int a2, .int a3]) σ z.2 (fun _ => some (.int z.1)) := by
  refine am_enter (by decide +kernel) (fun ad => Nat.le_of_ble_eq_true rfl) (fun M D cT ad hl X => ?_)
  subst hl
  refine r_lv (lv' := [(0, .ref (ad c0)), (1, .ref (ad 10)), (2, .int a2), (3, .int a3)]) rfl ?_
  unfold f_X0_wantedBehind at h
  refine r_iconst (v := 0) X dX0_wantedBehind_0 (by decide) ?_
  refine r_istore X [(4, .int (0 : Int32)), (0, .ref (ad c0)), (1, .ref (ad 10)), (2, .int a2), (3, .int a3)] dX0_wantedBehind_1 (by decide) rfl ?_
  refine r_iconst (v := 0) X dX0_wantedBehind_3 (by decide) ?_
  refine r_istore X [(5, .int (0 : Int32)), (4, .int (0 : Int32)), (0, .ref (ad c0)), (1, .ref (ad 10)), (2, .int a2), (3, .int a3)] dX0_wantedBehind_4 (by decide) rfl ?_
  refine r_sub (lv' := [(0, .ref (ad c0)), (1, .ref (ad 10)), (2, .int a2), (3, .int a3), (4, .int (0 : Int32)), (5, .int (0 : Int32))]) [2, 3, 4, 5, 1, 0] rfl ?_
  exact t_X0_wantedBehind_l6 X hc0 300 σ a2 a3 (0 : Int32) (0 : Int32) h
set_option maxRecDepth 100000 in
set_option maxHeartbeats 4000000 in
theorem t_X0_timesUpBy_b39 {M : am_M} {D : va_G} {cT : Nat → ClassId} {ad : Nat → Nat} (X : am_X M (D, cT, ad, NX, LX) cX0_timesUpBy RX0 5 (some .int)) {c0 : Nat} (hc0 : Is_X0 c0) {z : Int32 × Sg} {k5 : Sg → Int32 → Int32 → Int32 → Int32 → Option (Int32 × Sg)} (hk5 : ∀ (σ : Sg) (x1 : Int32) (x2 : Int32) (x3 : Int32) (x4 : Int32), k5 σ x1 x2 x3 x4 = some z → am_At M { frames := 0, cells := 0, slots := 0, locals := 0 } (D, cT, ad, NX, LX) (amQi M (D, cT, ad, NX, LX) z) 5 5 [(0, .ref (ad c0)), (1, .int x1), (2, .int x2), (3, .int x3), (4, .int x4)] [] σ) (σ : Sg) (x1 : Int32) (x2 : Int32) (x3 : Int32) (x4 : Int32) (h : f_X0_timesUpBy_b39 c0 k5 σ x1 x2 x3 x4 = some z) : am_At M { frames := 0, cells := 0, slots := 0, locals := 0 } (D, cT, ad, NX, LX) (amQi M (D, cT, ad, NX, LX) z) 5 39 [(0, .ref (ad c0)), (1, .int x1), (2, .int x2), (3, .int x3), (4, .int x4)] [] σ := by
  unfold f_X0_timesUpBy_b39 at h
  refine r_iinc X [(4, .int (x4 + (1 : Int32))), (0, .ref (ad c0)), (1, .int x1), (2, .int x2), (3, .int x3)] dX0_timesUpBy_39 4 rfl (v := x4 + (1 : Int32)) (by rfl) (by decide) rfl ?_
  refine r_letv h (fun v1 h => ?_)
  refine r_goto X 5 dX0_timesUpBy_42 (by decide) ?_
  refine r_sub (lv' := [(0, .ref (ad c0)), (1, .int x1), (2, .int x2), (3, .int x3), (4, .int v1)]) [1, 2, 3, 4, 0] rfl ?_
  exact hk5 σ x1 x2 x3 v1 h
set_option maxRecDepth 100000 in
set_option maxHeartbeats 4000000 in
theorem t_X0_timesUpBy_b5 {M : am_M} {D : va_G} {cT : Nat → ClassId} {ad : Nat → Nat} (X : am_X M (D, cT, ad, NX, LX) cX0_timesUpBy RX0 5 (some .int)) {c0 : Nat} (hc0 : Is_X0 c0) {z : Int32 × Sg} {k5 : Sg → Int32 → Int32 → Int32 → Int32 → Option (Int32 × Sg)} (hk5 : ∀ (σ : Sg) (x1 : Int32) (x2 : Int32) (x3 : Int32) (x4 : Int32), k5 σ x1 x2 x3 x4 = some z → am_At M { frames := 0, cells := 0, slots := 0, locals := 0 } (D, cT, ad, NX, LX) (amQi M (D, cT, ad, NX, LX) z) 5 5 [(0, .ref (ad c0)), (1, .int x1), (2, .int x2), (3, .int x3), (4, .int x4)] [] σ) (σ : Sg) (x1 : Int32) (x2 : Int32) (x3 : Int32) (x4 : Int32) (h : f_X0_timesUpBy_b5 c0 k5 σ x1 x2 x3 x4 = some z) : am_At M { frames := 0, cells := 0, slots := 0, locals := 0 } (D, cT, ad, NX, LX) (amQi M (D, cT, ad, NX, LX) z) 5 5 [(0, .ref (ad c0)), (1, .int x1), (2, .int x2), (3, .int x3), (4, .int x4)] [] σ := by
  unfold f_X0_timesUpBy_b5 at h
  refine r_iload X dX0_timesUpBy_5 4 rfl ?_
  refine r_aload_n X dX0_timesUpBy_7 rfl 0 rfl ?_
  refine r_getI X fg_X0_30_X0 hc0.1 rfl dX0_timesUpBy_8 ?_
  refine r_icmp_ge X 45 dX0_timesUpBy_11 (by decide) h (fun h => ?_) (fun h => ?_)
  · refine r_iload_n X dX0_timesUpBy_45 rfl 3 rfl ?_
    exact r_iretz X rfl dX0_timesUpBy_46 h
  · refine r_aload_n X dX0_timesUpBy_14 rfl 0 rfl ?_
    refine r_getR (c1 := (c0 + 6)) X fg_X0_27_X0 hc0.1 rfl dX0_timesUpBy_15 ?_
    refine r_iload X dX0_timesUpBy_18 4 rfl ?_
    refine r_iald X hc0.2.2.2.2.2.2 dX0_timesUpBy_20 h (fun h => ?_)
    refine r_iload_n X dX0_timesUpBy_21 rfl 2 rfl ?_
    refine r_icmp_ne X 39 dX0_timesUpBy_22 (by decide) h (fun h => ?_) (fun h => ?_)
    · refine r_aload_n X dX0_timesUpBy_25 rfl 0 rfl ?_
      refine r_getR (c1 := (c0 + 5)) X fg_X0_24_X0 hc0.1 rfl dX0_timesUpBy_26 ?_
      refine r_iload X dX0_timesUpBy_29 4 rfl ?_
      refine r_iald X hc0.2.2.2.2.2.1 dX0_timesUpBy_31 h (fun h => ?_)
      refine r_iload_n X dX0_timesUpBy_32 rfl 1 rfl ?_
      refine r_icmp_gt X 39 dX0_timesUpBy_33 (by decide) h (fun h => ?_) (fun h => ?_)
      · exact t_X0_timesUpBy_b39 X hc0 hk5 σ x1 x2 x3 x4 h
      · refine r_iinc X [(3, .int (x3 + (1 : Int32))), (0, .ref (ad c0)), (1, .int x1), (2, .int x2), (4, .int x4)] dX0_timesUpBy_36 3 rfl (v := x3 + (1 : Int32)) (by rfl) (by decide) rfl ?_
        refine r_letv h (fun v1 h => ?_)
        refine r_sub (lv' := [(0, .ref (ad c0)), (1, .int x1), (2, .int x2), (3, .int v1), (4, .int x4)]) [1, 2, 3, 0, 4] rfl ?_
        exact t_X0_timesUpBy_b39 X hc0 hk5 σ x1 x2 v1 x4 h
    · exact t_X0_timesUpBy_b39 X hc0 hk5 σ x1 x2 x3 x4 h
theorem t_X0_timesUpBy_l5 {M : am_M} {D : va_G} {cT : Nat → ClassId} {ad : Nat → Nat} (X : am_X M (D, cT, ad, NX, LX) cX0_timesUpBy RX0 5 (some .int)) {c0 : Nat} (hc0 : Is_X0 c0) {z : Int32 × Sg} (n : Nat) : ∀ (σ : Sg) (x1 : Int32) (x2 : Int32) (x3 : Int32) (x4 : Int32), f_X0_timesUpBy_l5 c0 n σ x1 x2 x3 x4 = some z → am_At M { frames := 0, cells := 0, slots := 0, locals := 0 } (D, cT, ad, NX, LX) (amQi M (D, cT, ad, NX, LX) z) 5 5 [(0, .ref (ad c0)), (1, .int x1), (2, .int x2), (3, .int x3), (4, .int x4)] [] σ := by
  induction n with
  | zero =>
    intro σ x1 x2 x3 x4 h
    have h2 : (none : Option (Int32 × Sg)) = some z := h
    cases h2
  | succ n ih =>
    intro σ x1 x2 x3 x4 h
    exact t_X0_timesUpBy_b5 X hc0 (k5 := f_X0_timesUpBy_l5 c0 n) ih σ x1 x2 x3 x4 h
set_option maxRecDepth 100000 in
set_option maxHeartbeats 4000000 in
theorem c_X0_timesUpBy (l : Launch) {c0 : Nat} (hc0 : Is_X0 c0) {σ : Sg} {a1 : Int32} {a2 : Int32} {z : Int32 × Sg} (h : f_X0_timesUpBy c0 σ a1 a2 = some z) : am_Met l yX0_timesUpBy cX0_timesUpBy 5 (some .int) { frames := 0, cells := 0, slots := 0, locals := 0 } NX LX (fun ad => [.ref (ad c0), .int a1, .int a2]) σ z.2 (fun _ => some (.int z.1)) := by
  refine am_enter (by decide +kernel) (fun ad => Nat.le_of_ble_eq_true rfl) (fun M D cT ad hl X => ?_)
  subst hl
  refine r_lv (lv' := [(0, .ref (ad c0)), (1, .int a1), (2, .int a2)]) rfl ?_
  unfold f_X0_timesUpBy at h
  refine r_iconst (v := 0) X dX0_timesUpBy_0 (by decide) ?_
  refine r_istore_n X [(3, .int (0 : Int32)), (0, .ref (ad c0)), (1, .int a1), (2, .int a2)] dX0_timesUpBy_1 rfl (by decide) rfl ?_
  refine r_iconst (v := 0) X dX0_timesUpBy_2 (by decide) ?_
  refine r_istore X [(4, .int (0 : Int32)), (3, .int (0 : Int32)), (0, .ref (ad c0)), (1, .int a1), (2, .int a2)] dX0_timesUpBy_3 (by decide) rfl ?_
  refine r_sub (lv' := [(0, .ref (ad c0)), (1, .int a1), (2, .int a2), (3, .int (0 : Int32)), (4, .int (0 : Int32))]) [2, 3, 4, 1, 0] rfl ?_
  exact t_X0_timesUpBy_l5 X hc0 300 σ a1 a2 (0 : Int32) (0 : Int32) h
set_option maxRecDepth 100000 in
set_option maxHeartbeats 4000000 in
theorem c_X9_at (l : Launch) {σ : Sg} {a1 : Int32} {a2 : Int32} {a3 : Int32} {z : Int32 × Sg} (h : f_X9_at σ a1 a2 a3 = some z) : am_Met l yX9_at cX9_at 5 (some .int) { frames := 4, cells := 0, slots := 0, locals := 95 } NX LX (fun ad => [.ref (ad 0), .int a1, .int a2, .int a3]) σ z.2 (fun _ => some (.int z.1)) := by
  refine am_enter (by decide +kernel) (fun ad => Nat.le_of_ble_eq_true rfl) (fun M D cT ad hl X => ?_)
  subst hl
  refine r_lv (lv' := [(0, .ref (ad 0)), (1, .int a1), (2, .int a2), (3, .int a3)]) rfl ?_
  unfold f_X9_at at h
  refine r_iload_n X dX9_at_0 rfl 1 rfl ?_
  refine r_bipush (v := 24) X dX9_at_1 (by decide) ?_
  obtain ⟨r1, σ2, hc_21, h⟩ := bnd_of h
  refine r_callS (As := [.int a1, .int (24 : Int32)]) (rest := []) (st2 := [.int r1]) X cv_X9_91 (c_X9_isBelow M.2.1 hc_21) rfl rfl rfl (Nat.le_of_ble_eq_true rfl) ⟨⟨rfl, rfl⟩, by decide, by decide⟩ dX9_at_3 ⟨rfl, rfl⟩ rfl ?_
  refine r_if_eq X 31 dX9_at_6 (by decide) h (fun h => ?_) (fun h => ?_)
  · refine r_bipush (v := -2) X dX9_at_31 (by decide) ?_
    exact r_iretz X rfl dX9_at_33 h
  · refine r_iload_n X dX9_at_9 rfl 2 rfl ?_
    refine r_aload_n X dX9_at_10 rfl 0 rfl ?_
    refine r_getR (c1 := 5) X fg_X9_24_X9 fX_0 rfl dX9_at_11 ?_
    refine r_getI X fg_X9_115_X2 fX_5 rfl dX9_at_14 ?_
    obtain ⟨r3, σ4, hc_20, h⟩ := bnd_of h
    refine r_callS (As := [.int a2, .int (σ2 5 1)]) (rest := []) (st2 := [.int r3]) X cv_X9_91 (c_X9_isBelow M.2.1 hc_20) rfl rfl rfl (Nat.le_of_ble_eq_true rfl) ⟨⟨rfl, rfl⟩, by decide, by decide⟩ dX9_at_17 ⟨rfl, rfl⟩ rfl ?_
    refine r_if_eq X 31 dX9_at_20 (by decide) h (fun h => ?_) (fun h => ?_)
    · refine r_bipush (v := -2) X dX9_at_31 (by decide) ?_
      exact r_iretz X rfl dX9_at_33 h
    · refine r_iload_n X dX9_at_23 rfl 3 rfl ?_
      refine r_iconst (v := 3) X dX9_at_24 (by decide) ?_
      obtain ⟨r5, σ6, hc_19, h⟩ := bnd_of h
      refine r_callS (As := [.int a3, .int (3 : Int32)]) (rest := []) (st2 := [.int r5]) X cv_X9_91 (c_X9_isBelow M.2.1 hc_19) rfl rfl rfl (Nat.le_of_ble_eq_true rfl) ⟨⟨rfl, rfl⟩, by decide, by decide⟩ dX9_at_25 ⟨rfl, rfl⟩ rfl ?_
      refine r_if_ne X 34 dX9_at_28 (by decide) h (fun h => ?_) (fun h => ?_)
      · refine r_bipush (v := -2) X dX9_at_31 (by decide) ?_
        exact r_iretz X rfl dX9_at_33 h
      · refine r_aload_n X dX9_at_34 rfl 0 rfl ?_
        obtain ⟨r7, σ8, hc_18, h⟩ := bnd_of h
        have h0 := gd_eq h
        clear h
        obtain ⟨rfl, h⟩ := h0
        refine r_callV (As := []) (rest := []) (st2 := [.ref (ad 28)]) (c := 0) X cv_X9_163 (c_X9_asTold M.2.1 hc_18) rfl (ci := 8) rfl fX_0 rfl rfl (Nat.le_of_ble_eq_true rfl) ⟨⟨rfl, rfl⟩, by decide, by decide⟩ dX9_at_35 ⟨rfl, rfl⟩ rfl ?_
        refine r_astore X [(4, .ref (ad 28)), (0, .ref (ad 0)), (1, .int a1), (2, .int a2), (3, .int a3)] dX9_at_38 (by decide) rfl ?_
        refine r_iload_n X dX9_at_40 rfl 4 rfl ?_
        obtain ⟨hA, hB⟩ := ite_of h
        by_cases q41_0 : a3 = 0
        · have h := hA q41_0
          refine r_lookup X 68 dX9_at_41 (by decide) (show Op.lookupswitch.offset [(0, 27), (1, 43)] 55 _ = 27 from by rw [q41_0]; rfl) (by decide) ?_
          refine r_aload X dX9_at_68 0 rfl ?_
          refine r_iload_n X dX9_at_70 rfl 2 rfl ?_
          refine r_iload_n X dX9_at_71 rfl 3 rfl ?_
          obtain ⟨r9, σ10, hc_11, h⟩ := bnd_of h
          refine r_callV (As := [.int a1, .int a2]) (rest := []) (st2 := [.int r9]) (c := 28) X cv_X9_167 (c_X0_isUp M.2.1 iX0_28 hc_11) rfl (ci := 0) rfl fX_28 rfl rfl (Nat.le_of_ble_eq_true rfl) ⟨⟨rfl, rfl⟩, by decide, by decide⟩ dX9_at_72 ⟨rfl, rfl⟩ rfl ?_
          refine r_if_eq X 82 dX9_at_75 (by decide) h (fun h => ?_) (fun h => ?_)
          · refine r_iconst (v := 0) X dX9_at_82 (by decide) ?_
            exact r_iretz X rfl dX9_at_83 h
          · refine r_iconst (v := 1) X dX9_at_78 (by decide) ?_
            refine r_goto X 83 dX9_at_79 (by decide) ?_
            exact r_iretz X rfl dX9_at_83 h
        · have h := hB q41_0
          obtain ⟨hA, hB⟩ := ite_of h
          by_cases q41_1 : a3 = 1
          · have h := hA q41_1
            refine r_lookup X 84 dX9_at_41 (by decide) (show Op.lookupswitch.offset [(0, 27), (1, 43)] 55 _ = 43 from by rw [q41_1]; rfl) (by decide) ?_
            refine r_aload X dX9_at_84 0 rfl ?_
            refine r_aload_n X dX9_at_86 rfl 1 rfl ?_
            refine r_getR (c1 := 10) X fg_X9_31_X9 fX_0 rfl dX9_at_87 ?_
            refine r_iload_n X dX9_at_90 rfl 2 rfl ?_
            refine r_iload_n X dX9_at_91 rfl 3 rfl ?_
            obtain ⟨r12, σ13, hc_14, h⟩ := bnd_of h
            refine r_callV (As := [.ref (ad 10), .int a1, .int a2]) (rest := []) (st2 := [.int r12]) (c := 28) X cv_X9_170 (c_X0_wantedBehind M.2.1 iX0_28 hc_14) rfl (ci := 0) rfl fX_28 rfl rfl (Nat.le_of_ble_eq_true rfl) ⟨⟨rfl, rfl⟩, by decide, by decide⟩ dX9_at_92 ⟨rfl, rfl⟩ rfl ?_
            exact r_iretz X rfl dX9_at_95 h
          · have h := hB q41_1
            refine r_lookup X 96 dX9_at_41 (by decide) (show Op.lookupswitch.offset [(0, 27), (1, 43)] 55 _ = 55 from by rw [lv_osw q41_0 (k := 0) (by decide), lv_osw q41_1 (k := 1) (by decide)]; rfl) (by decide) ?_
            refine r_aload X dX9_at_96 0 rfl ?_
            refine r_iload_n X dX9_at_98 rfl 2 rfl ?_
            refine r_iload_n X dX9_at_99 rfl 3 rfl ?_
            obtain ⟨r15, σ16, hc_17, h⟩ := bnd_of h
            refine r_callV (As := [.int a1, .int a2]) (rest := []) (st2 := [.int r15]) (c := 28) X cv_X9_174 (c_X0_timesUpBy M.2.1 iX0_28 hc_17) rfl (ci := 0) rfl fX_28 rfl rfl (Nat.le_of_ble_eq_true rfl) ⟨⟨rfl, rfl⟩, by decide, by decide⟩ dX9_at_100 ⟨rfl, rfl⟩ rfl ?_
            exact r_iretz X rfl dX9_at_103 h
set_option maxRecDepth 100000 in
set_option maxHeartbeats 4000000 in
theorem t_X9_field_b93 {M : am_M} {D : va_G} {cT : Nat → ClassId} {ad : Nat → Nat} (X : am_X M (D, cT, ad, NX, LX) cX9_field RX9 6 (some .int)) {z : Int32 × Sg} {k39 : Sg → Int32 → Int32 → Int32 → Int32 → Option (Int32 × Sg)} (hk39 : ∀ (σ : Sg) (x1 : Int32) (x2 : Int32) (x3 : Int32) (x5 : Int32), k39 σ x1 x2 x3 x5 = some z → am_At M { frames := 4, cells := 0, slots := 0, locals := 95 } (D, cT, ad, NX, LX) (amQi M (D, cT, ad, NX, LX) z) 6 39 [(0, .ref (ad 0)), (1, .int x1), (2, .int x2), (3, .int x3), (4, .ref (ad 28)), (5, .int x5)] [] σ) (σ : Sg) (x1 : Int32) (x2 : Int32) (x3 : Int32) (x5 : Int32) (h : f_X9_field_b93 k39 σ x1 x2 x3 x5 = some z) : am_At M { frames := 4, cells := 0, slots := 0, locals := 95 } (D, cT, ad, NX, LX) (amQi M (D, cT, ad, NX, LX) z) 6 93 [(0, .ref (ad 0)), (1, .int x1), (2, .int x2), (3, .int x3), (4, .ref (ad 28)), (5, .int x5)] [] σ := by
  unfold f_X9_field_b93 at h
  refine r_iinc X [(5, .int (x5 + (1 : Int32))), (0, .ref (ad 0)), (1, .int x1), (2, .int x2), (3, .int x3), (4, .ref (ad 28))] dX9_field_93 5 rfl (v := x5 + (1 : Int32)) (by rfl) (by decide) rfl ?_
  refine r_letv h (fun v1 h => ?_)
  refine r_goto X 39 dX9_field_96 (by decide) ?_
  refine r_sub (lv' := [(0, .ref (ad 0)), (1, .int x1), (2, .int x2), (3, .int x3), (4, .ref (ad 28)), (5, .int v1)]) [1, 2, 3, 4, 5, 0] rfl ?_
  exact hk39 σ x1 x2 x3 v1 h
set_option maxRecDepth 100000 in
set_option maxHeartbeats 4000000 in
theorem t_X9_field_b39 {M : am_M} {D : va_G} {cT : Nat → ClassId} {ad : Nat → Nat} (X : am_X M (D, cT, ad, NX, LX) cX9_field RX9 6 (some .int)) {z : Int32 × Sg} {k39 : Sg → Int32 → Int32 → Int32 → Int32 → Option (Int32 × Sg)} (hk39 : ∀ (σ : Sg) (x1 : Int32) (x2 : Int32) (x3 : Int32) (x5 : Int32), k39 σ x1 x2 x3 x5 = some z → am_At M { frames := 4, cells := 0, slots := 0, locals := 95 } (D, cT, ad, NX, LX) (amQi M (D, cT, ad, NX, LX) z) 6 39 [(0, .ref (ad 0)), (1, .int x1), (2, .int x2), (3, .int x3), (4, .ref (ad 28)), (5, .int x5)] [] σ) (σ : Sg) (x1 : Int32) (x2 : Int32) (x3 : Int32) (x5 : Int32) (h : f_X9_field_b39 k39 σ x1 x2 x3 x5 = some z) : am_At M { frames := 4, cells := 0, slots := 0, locals := 95 } (D, cT, ad, NX, LX) (amQi M (D, cT, ad, NX, LX) z) 6 39 [(0, .ref (ad 0)), (1, .int x1), (2, .int x2), (3, .int x3), (4, .ref (ad 28)), (5, .int x5)] [] σ := by
  unfold f_X9_field_b39 at h
  refine r_iload X dX9_field_39 5 rfl ?_
  refine r_aload_n X dX9_field_41 rfl 0 rfl ?_
  refine r_getR (c1 := 5) X fg_X9_24_X9 fX_0 rfl dX9_field_42 ?_
  refine r_getI X fg_X9_115_X2 fX_5 rfl dX9_field_45 ?_
  refine r_icmp_ge X 99 dX9_field_48 (by decide) h (fun h => ?_) (fun h => ?_)
  · refine r_iconst (v := -1) X dX9_field_99 (by decide) ?_
    exact r_iretz X rfl dX9_field_100 h
  · refine r_aload_n X dX9_field_51 rfl 0 rfl ?_
    refine r_getR (c1 := 5) X fg_X9_24_X9 fX_0 rfl dX9_field_52 ?_
    refine r_getR (c1 := 7) X fg_X9_119_X2 fX_5 rfl dX9_field_55 ?_
    refine r_iload X dX9_field_58 5 rfl ?_
    refine r_iald X fX_7 dX9_field_60 h (fun h => ?_)
    refine r_iload_n X dX9_field_61 rfl 2 rfl ?_
    refine r_icmp_ne X 93 dX9_field_62 (by decide) h (fun h => ?_) (fun h => ?_)
    · refine r_aload_n X dX9_field_65 rfl 0 rfl ?_
      refine r_getR (c1 := 5) X fg_X9_24_X9 fX_0 rfl dX9_field_66 ?_
      refine r_getR (c1 := 8) X fg_X9_122_X2 fX_5 rfl dX9_field_69 ?_
      refine r_iload X dX9_field_72 5 rfl ?_
      refine r_iald X fX_8 dX9_field_74 h (fun h => ?_)
      refine r_iload_n X dX9_field_75 rfl 3 rfl ?_
      refine r_icmp_ne X 93 dX9_field_76 (by decide) h (fun h => ?_) (fun h => ?_)
      · refine r_aload X dX9_field_79 4 rfl ?_
        refine r_iload_n X dX9_field_81 rfl 1 rfl ?_
        refine r_iload X dX9_field_82 5 rfl ?_
        obtain ⟨r1, σ2, hc_3, h⟩ := bnd_of h
        refine r_callV (As := [.int x1, .int x5]) (rest := []) (st2 := [.int r1]) (c := 28) X cv_X9_167 (c_X0_isUp M.2.1 iX0_28 hc_3) rfl (ci := 0) rfl fX_28 rfl rfl (Nat.le_of_ble_eq_true rfl) ⟨⟨rfl, rfl⟩, by decide, by decide⟩ dX9_field_84 ⟨rfl, rfl⟩ rfl ?_
        refine r_if_eq X 93 dX9_field_87 (by decide) h (fun h => ?_) (fun h => ?_)
        · exact t_X9_field_b93 X hk39 σ2 x1 x2 x3 x5 h
        · refine r_iload X dX9_field_90 5 rfl ?_
          exact r_iretz X rfl dX9_field_92 h
      · exact t_X9_field_b93 X hk39 σ x1 x2 x3 x5 h
    · exact t_X9_field_b93 X hk39 σ x1 x2 x3 x5 h
theorem t_X9_field_l39 {M : am_M} {D : va_G} {cT : Nat → ClassId} {ad : Nat → Nat} (X : am_X M (D, cT, ad, NX, LX) cX9_field RX9 6 (some .int)) {z : Int32 × Sg} (n : Nat) : ∀ (σ : Sg) (x1 : Int32) (x2 : Int32) (x3 : Int32) (x5 : Int32), f_X9_field_l39 n σ x1 x2 x3 x5 = some z → am_At M { frames := 4, cells := 0, slots := 0, locals := 95 } (D, cT, ad, NX, LX) (amQi M (D, cT, ad, NX, LX) z) 6 39 [(0, .ref (ad 0)), (1, .int x1), (2, .int x2), (3, .int x3), (4, .ref (ad 28)), (5, .int x5)] [] σ := by
  induction n with
  | zero =>
    intro σ x1 x2 x3 x5 h
    have h2 : (none : Option (Int32 × Sg)) = some z := h
    cases h2
  | succ n ih =>
    intro σ x1 x2 x3 x5 h
    exact t_X9_field_b39 X (k39 := f_X9_field_l39 n) ih σ x1 x2 x3 x5 h
set_option maxRecDepth 100000 in
set_option maxHeartbeats 4000000 in
theorem c_X9_field (l : Launch) {σ : Sg} {a1 : Int32} {a2 : Int32} {a3 : Int32} {z : Int32 × Sg} (h : f_X9_field σ a1 a2 a3 = some z) : am_Met l yX9_field cX9_field 6 (some .int) { frames := 4, cells := 0, slots := 0, locals := 95 } NX LX (fun ad => [.ref (ad 0), .int a1, .int a2, .int a3]) σ z.2 (fun _ => some (.int z.1)) := by
  refine am_enter (by decide +kernel) (fun ad => Nat.le_of_ble_eq_true rfl) (fun M D cT ad hl X => ?_)
  subst hl
  refine r_lv (lv' := [(0, .ref (ad 0)), (1, .int a1), (2, .int a2), (3, .int a3)]) rfl ?_
  unfold f_X9_field at h
  refine r_iload_n X dX9_field_0 rfl 1 rfl ?_
  refine r_bipush (v := 24) X dX9_field_1 (by decide) ?_
  obtain ⟨r1, σ2, hc_12, h⟩ := bnd_of h
  refine r_callS (As := [.int a1, .int (24 : Int32)]) (rest := []) (st2 := [.int r1]) X cv_X9_91 (c_X9_isBelow M.2.1 hc_12) rfl rfl rfl (Nat.le_of_ble_eq_true rfl) ⟨⟨rfl, rfl⟩, by decide, by decide⟩ dX9_field_3 ⟨rfl, rfl⟩ rfl ?_
  refine r_if_eq X 27 dX9_field_6 (by decide) h (fun h => ?_) (fun h => ?_)
  · refine r_bipush (v := -2) X dX9_field_27 (by decide) ?_
    exact r_iretz X rfl dX9_field_29 h
  · refine r_iload_n X dX9_field_9 rfl 2 rfl ?_
    refine r_bipush (v := 6) X dX9_field_10 (by decide) ?_
    obtain ⟨r3, σ4, hc_11, h⟩ := bnd_of h
    refine r_callS (As := [.int a2, .int (6 : Int32)]) (rest := []) (st2 := [.int r3]) X cv_X9_91 (c_X9_isBelow M.2.1 hc_11) rfl rfl rfl (Nat.le_of_ble_eq_true rfl) ⟨⟨rfl, rfl⟩, by decide, by decide⟩ dX9_field_12 ⟨rfl, rfl⟩ rfl ?_
    refine r_if_eq X 27 dX9_field_15 (by decide) h (fun h => ?_) (fun h => ?_)
    · refine r_bipush (v := -2) X dX9_field_27 (by decide) ?_
      exact r_iretz X rfl dX9_field_29 h
    · refine r_iload_n X dX9_field_18 rfl 3 rfl ?_
      refine r_bipush (v := 6) X dX9_field_19 (by decide) ?_
      obtain ⟨r5, σ6, hc_10, h⟩ := bnd_of h
      refine r_callS (As := [.int a3, .int (6 : Int32)]) (rest := []) (st2 := [.int r5]) X cv_X9_91 (c_X9_isBelow M.2.1 hc_10) rfl rfl rfl (Nat.le_of_ble_eq_true rfl) ⟨⟨rfl, rfl⟩, by decide, by decide⟩ dX9_field_21 ⟨rfl, rfl⟩ rfl ?_
      refine r_if_ne X 30 dX9_field_24 (by decide) h (fun h => ?_) (fun h => ?_)
      · refine r_bipush (v := -2) X dX9_field_27 (by decide) ?_
        exact r_iretz X rfl dX9_field_29 h
      · refine r_aload_n X dX9_field_30 rfl 0 rfl ?_
        obtain ⟨r7, σ8, hc_9, h⟩ := bnd_of h
        have h0 := gd_eq h
        clear h
        obtain ⟨rfl, h⟩ := h0
        refine r_callV (As := []) (rest := []) (st2 := [.ref (ad 28)]) (c := 0) X cv_X9_163 (c_X9_asTold M.2.1 hc_9) rfl (ci := 8) rfl fX_0 rfl rfl (Nat.le_of_ble_eq_true rfl) ⟨⟨rfl, rfl⟩, by decide, by decide⟩ dX9_field_31 ⟨rfl, rfl⟩ rfl ?_
        refine r_astore X [(4, .ref (ad 28)), (0, .ref (ad 0)), (1, .int a1), (2, .int a2), (3, .int a3)] dX9_field_34 (by decide) rfl ?_
        refine r_iconst (v := 0) X dX9_field_36 (by decide) ?_
        refine r_istore X [(5, .int (0 : Int32)), (4, .ref (ad 28)), (0, .ref (ad 0)), (1, .int a1), (2, .int a2), (3, .int a3)] dX9_field_37 (by decide) rfl ?_
        refine r_sub (lv' := [(0, .ref (ad 0)), (1, .int a1), (2, .int a2), (3, .int a3), (4, .ref (ad 28)), (5, .int (0 : Int32))]) [2, 3, 4, 5, 1, 0] rfl ?_
        exact t_X9_field_l39 X 300 σ8 a1 a2 a3 (0 : Int32) h
set_option maxRecDepth 100000 in
set_option maxHeartbeats 4000000 in
theorem t_X0_openBehind_b28 {M : am_M} {D : va_G} {cT : Nat → ClassId} {ad : Nat → Nat} (X : am_X M (D, cT, ad, NX, LX) cX0_openBehind RX0 5 (some .int)) {c0 : Nat} (hc0 : Is_X0 c0) {z : Int32 × Sg} {k5 : Sg → Int32 → Int32 → Int32 → Option (Int32 × Sg)} (hk5 : ∀ (σ : Sg) (x2 : Int32) (x3 : Int32) (x4 : Int32), k5 σ x2 x3 x4 = some z → am_At M { frames := 1, cells := 0, slots := 0, locals := 23 } (D, cT, ad, NX, LX) (amQi M (D, cT, ad, NX, LX) z) 5 5 [(0, .ref (ad c0)), (1, .ref (ad 10)), (2, .int x2), (3, .int x3), (4, .int x4)] [] σ) (σ : Sg) (x2 : Int32) (x3 : Int32) (x4 : Int32) (h : f_X0_openBehind_b28 c0 k5 σ x2 x3 x4 = some z) : am_At M { frames := 1, cells := 0, slots := 0, locals := 23 } (D, cT, ad, NX, LX) (amQi M (D, cT, ad, NX, LX) z) 5 28 [(0, .ref (ad c0)), (1, .ref (ad 10)), (2, .int x2), (3, .int x3), (4, .int x4)] [] σ := by
  unfold f_X0_openBehind_b28 at h
  refine r_iinc X [(4, .int (x4 + (1 : Int32))), (0, .ref (ad c0)), (1, .ref (ad 10)), (2, .int x2), (3, .int x3)] dX0_openBehind_28 4 rfl (v := x4 + (1 : Int32)) (by rfl) (by decide) rfl ?_
  refine r_letv h (fun v1 h => ?_)
  refine r_goto X 5 dX0_openBehind_31 (by decide) ?_
  refine r_sub (lv' := [(0, .ref (ad c0)), (1, .ref (ad 10)), (2, .int x2), (3, .int x3), (4, .int v1)]) [1, 2, 3, 4, 0] rfl ?_
  exact hk5 σ x2 x3 v1 h
set_option maxRecDepth 100000 in
set_option maxHeartbeats 4000000 in
theorem t_X0_openBehind_b5 {M : am_M} {D : va_G} {cT : Nat → ClassId} {ad : Nat → Nat} (X : am_X M (D, cT, ad, NX, LX) cX0_openBehind RX0 5 (some .int)) {c0 : Nat} (hc0 : Is_X0 c0) {z : Int32 × Sg} {k5 : Sg → Int32 → Int32 → Int32 → Option (Int32 × Sg)} (hk5 : ∀ (σ : Sg) (x2 : Int32) (x3 : Int32) (x4 : Int32), k5 σ x2 x3 x4 = some z → am_At M { frames := 1, cells := 0, slots := 0, locals := 23 } (D, cT, ad, NX, LX) (amQi M (D, cT, ad, NX, LX) z) 5 5 [(0, .ref (ad c0)), (1, .ref (ad 10)), (2, .int x2), (3, .int x3), (4, .int x4)] [] σ) (σ : Sg) (x2 : Int32) (x3 : Int32) (x4 : Int32) (h : f_X0_openBehind_b5 c0 k5 σ x2 x3 x4 = some z) : am_At M { frames := 1, cells := 0, slots := 0, locals := 23 } (D, cT, ad, NX, LX) (amQi M (D, cT, ad, NX, LX) z) 5 5 [(0, .ref (ad c0)), (1, .ref (ad 10)), (2, .int x2), (3, .int x3), (4, .int x4)] [] σ := by
  unfold f_X0_openBehind_b5 at h
  refine r_iload X dX0_openBehind_5 4 rfl ?_
  refine r_aload_n X dX0_openBehind_7 rfl 1 rfl ?_
  refine r_getI X fg_X0_89_X4 fX_10 rfl dX0_openBehind_8 ?_
  refine r_icmp_ge X 34 dX0_openBehind_11 (by decide) h (fun h => ?_) (fun h => ?_)
  · refine r_iload_n X dX0_openBehind_34 rfl 3 rfl ?_
    exact r_iretz X rfl dX0_openBehind_35 h
  · refine r_aload_n X dX0_openBehind_14 rfl 0 rfl ?_
    refine r_aload_n X dX0_openBehind_15 rfl 1 rfl ?_
    refine r_iload X dX0_openBehind_16 4 rfl ?_
    refine r_iload_n X dX0_openBehind_18 rfl 2 rfl ?_
    obtain ⟨r1, σ2, hc_4, h⟩ := bnd_of h
    refine r_callV (As := [.ref (ad 10), .int x4, .int x2]) (rest := []) (st2 := [.int r1]) (c := c0) X cv_X0_116 (c_X0_isOpenBehind M.2.1 hc0 hc_4) rfl (ci := 0) rfl hc0.1 rfl rfl (Nat.le_of_ble_eq_true rfl) ⟨⟨rfl, rfl⟩, by decide, by decide⟩ dX0_openBehind_19 ⟨rfl, rfl⟩ rfl ?_
    refine r_if_eq X 28 dX0_openBehind_22 (by decide) h (fun h => ?_) (fun h => ?_)
    · exact t_X0_openBehind_b28 X hc0 hk5 σ2 x2 x3 x4 h
    · refine r_iinc X [(3, .int (x3 + (1 : Int32))), (0, .ref (ad c0)), (1, .ref (ad 10)), (2, .int x2), (4, .int x4)] dX0_openBehind_25 3 rfl (v := x3 + (1 : Int32)) (by rfl) (by decide) rfl ?_
      refine r_letv h (fun v3 h => ?_)
      refine r_sub (lv' := [(0, .ref (ad c0)), (1, .ref (ad 10)), (2, .int x2), (3, .int v3), (4, .int x4)]) [1, 2, 3, 0, 4] rfl ?_
      exact t_X0_openBehind_b28 X hc0 hk5 σ2 x2 v3 x4 h
theorem t_X0_openBehind_l5 {M : am_M} {D : va_G} {cT : Nat → ClassId} {ad : Nat → Nat} (X : am_X M (D, cT, ad, NX, LX) cX0_openBehind RX0 5 (some .int)) {c0 : Nat} (hc0 : Is_X0 c0) {z : Int32 × Sg} (n : Nat) : ∀ (σ : Sg) (x2 : Int32) (x3 : Int32) (x4 : Int32), f_X0_openBehind_l5 c0 n σ x2 x3 x4 = some z → am_At M { frames := 1, cells := 0, slots := 0, locals := 23 } (D, cT, ad, NX, LX) (amQi M (D, cT, ad, NX, LX) z) 5 5 [(0, .ref (ad c0)), (1, .ref (ad 10)), (2, .int x2), (3, .int x3), (4, .int x4)] [] σ := by
  induction n with
  | zero =>
    intro σ x2 x3 x4 h
    have h2 : (none : Option (Int32 × Sg)) = some z := h
    cases h2
  | succ n ih =>
    intro σ x2 x3 x4 h
    exact t_X0_openBehind_b5 X hc0 (k5 := f_X0_openBehind_l5 c0 n) ih σ x2 x3 x4 h
set_option maxRecDepth 100000 in
set_option maxHeartbeats 4000000 in
theorem c_X0_openBehind (l : Launch) {c0 : Nat} (hc0 : Is_X0 c0) {σ : Sg} {a2 : Int32} {z : Int32 × Sg} (h : f_X0_openBehind c0 σ a2 = some z) : am_Met l yX0_openBehind cX0_openBehind 5 (some .int) { frames := 1, cells := 0, slots := 0, locals := 23 } NX LX (fun ad => [.ref (ad c0), .ref (ad 10), .int a2]) σ z.2 (fun _ => some (.int z.1)) := by
  refine am_enter (by decide +kernel) (fun ad => Nat.le_of_ble_eq_true rfl) (fun M D cT ad hl X => ?_)
  subst hl
  refine r_lv (lv' := [(0, .ref (ad c0)), (1, .ref (ad 10)), (2, .int a2)]) rfl ?_
  unfold f_X0_openBehind at h
  refine r_iconst (v := 0) X dX0_openBehind_0 (by decide) ?_
  refine r_istore_n X [(3, .int (0 : Int32)), (0, .ref (ad c0)), (1, .ref (ad 10)), (2, .int a2)] dX0_openBehind_1 rfl (by decide) rfl ?_
  refine r_iconst (v := 0) X dX0_openBehind_2 (by decide) ?_
  refine r_istore X [(4, .int (0 : Int32)), (3, .int (0 : Int32)), (0, .ref (ad c0)), (1, .ref (ad 10)), (2, .int a2)] dX0_openBehind_3 (by decide) rfl ?_
  refine r_sub (lv' := [(0, .ref (ad c0)), (1, .ref (ad 10)), (2, .int a2), (3, .int (0 : Int32)), (4, .int (0 : Int32))]) [2, 3, 4, 1, 0] rfl ?_
  exact t_X0_openBehind_l5 X hc0 300 σ a2 (0 : Int32) (0 : Int32) h
set_option maxRecDepth 100000 in
set_option maxHeartbeats 4000000 in
theorem c_J6_bitCount_0f7a4 (l : Launch) {σ : Sg} {a0 : Int32} {z : Int32 × Sg} (h : f_J6_bitCount_0f7a4 σ a0 = some z) : am_Met l yJ6_bitCount_0f7a4 cJ6_bitCount_0f7a4 1 (some .int) { frames := 0, cells := 0, slots := 0, locals := 0 } NX LX (fun ad => [.int a0]) σ z.2 (fun _ => some (.int z.1)) := by
  refine am_enter (by decide +kernel) (fun ad => Nat.le_of_ble_eq_true rfl) (fun M D cT ad hl X => ?_)
  subst hl
  refine r_lv (lv' := [(0, .int a0)]) rfl ?_
  unfold f_J6_bitCount_0f7a4 at h
  refine r_iload_n X dJ6_bitCount_0f7a4_0 rfl 0 rfl ?_
  refine r_iload_n X dJ6_bitCount_0f7a4_1 rfl 0 rfl ?_
  refine r_iconst (v := 1) X dJ6_bitCount_0f7a4_2 (by decide) ?_
  refine r_iushr X dJ6_bitCount_0f7a4_3 ?_
  refine r_ldcw (v := 1431655765) X dJ6_bitCount_0f7a4_4 bw_249 ?_
  refine r_iand X dJ6_bitCount_0f7a4_7 ?_
  refine r_isub X dJ6_bitCount_0f7a4_8 ?_
  refine r_leti h (fun v1 h => ?_)
  refine r_istore_n X [(0, .int v1)] dJ6_bitCount_0f7a4_9 rfl (by decide) rfl ?_
  refine r_iload_n X dJ6_bitCount_0f7a4_10 rfl 0 rfl ?_
  refine r_ldcw (v := 858993459) X dJ6_bitCount_0f7a4_11 bw_250 ?_
  refine r_iand X dJ6_bitCount_0f7a4_14 ?_
  refine r_iload_n X dJ6_bitCount_0f7a4_15 rfl 0 rfl ?_
  refine r_iconst (v := 2) X dJ6_bitCount_0f7a4_16 (by decide) ?_
  refine r_iushr X dJ6_bitCount_0f7a4_17 ?_
  refine r_ldcw (v := 858993459) X dJ6_bitCount_0f7a4_18 bw_250 ?_
  refine r_iand X dJ6_bitCount_0f7a4_21 ?_
  refine r_iadd X dJ6_bitCount_0f7a4_22 ?_
  refine r_leti h (fun v2 h => ?_)
  refine r_istore_n X [(0, .int v2)] dJ6_bitCount_0f7a4_23 rfl (by decide) rfl ?_
  refine r_iload_n X dJ6_bitCount_0f7a4_24 rfl 0 rfl ?_
  refine r_iload_n X dJ6_bitCount_0f7a4_25 rfl 0 rfl ?_
  refine r_iconst (v := 4) X dJ6_bitCount_0f7a4_26 (by decide) ?_
  refine r_iushr X dJ6_bitCount_0f7a4_27 ?_
  refine r_iadd X dJ6_bitCount_0f7a4_28 ?_
  refine r_ldcw (v := 252645135) X dJ6_bitCount_0f7a4_29 bw_251 ?_
  refine r_iand X dJ6_bitCount_0f7a4_32 ?_
  refine r_leti h (fun v3 h => ?_)
  refine r_istore_n X [(0, .int v3)] dJ6_bitCount_0f7a4_33 rfl (by decide) rfl ?_
  refine r_iload_n X dJ6_bitCount_0f7a4_34 rfl 0 rfl ?_
  refine r_iload_n X dJ6_bitCount_0f7a4_35 rfl 0 rfl ?_
  refine r_bipush (v := 8) X dJ6_bitCount_0f7a4_36 (by decide) ?_
  refine r_iushr X dJ6_bitCount_0f7a4_38 ?_
  refine r_iadd X dJ6_bitCount_0f7a4_39 ?_
  refine r_leti h (fun v4 h => ?_)
  refine r_istore_n X [(0, .int v4)] dJ6_bitCount_0f7a4_40 rfl (by decide) rfl ?_
  refine r_iload_n X dJ6_bitCount_0f7a4_41 rfl 0 rfl ?_
  refine r_iload_n X dJ6_bitCount_0f7a4_42 rfl 0 rfl ?_
  refine r_bipush (v := 16) X dJ6_bitCount_0f7a4_43 (by decide) ?_
  refine r_iushr X dJ6_bitCount_0f7a4_45 ?_
  refine r_iadd X dJ6_bitCount_0f7a4_46 ?_
  refine r_leti h (fun v5 h => ?_)
  refine r_istore_n X [(0, .int v5)] dJ6_bitCount_0f7a4_47 rfl (by decide) rfl ?_
  refine r_iload_n X dJ6_bitCount_0f7a4_48 rfl 0 rfl ?_
  refine r_bipush (v := 63) X dJ6_bitCount_0f7a4_49 (by decide) ?_
  refine r_iand X dJ6_bitCount_0f7a4_51 ?_
  exact r_iretz X rfl dJ6_bitCount_0f7a4_52 h
set_option maxRecDepth 100000 in
set_option maxHeartbeats 4000000 in
theorem c_X9_up (l : Launch) {σ : Sg} {a1 : Int32} {a2 : Int32} {z : Int32 × Sg} (h : f_X9_up σ a1 a2 = some z) : am_Met l yX9_up cX9_up 4 (some .int) { frames := 4, cells := 0, slots := 0, locals := 95 } NX LX (fun ad => [.ref (ad 0), .int a1, .int a2]) σ z.2 (fun _ => some (.int z.1)) := by
  refine am_enter (by decide +kernel) (fun ad => Nat.le_of_ble_eq_true rfl) (fun M D cT ad hl X => ?_)
  subst hl
  refine r_lv (lv' := [(0, .ref (ad 0)), (1, .int a1), (2, .int a2)]) rfl ?_
  unfold f_X9_up at h
  refine r_iload_n X dX9_up_0 rfl 1 rfl ?_
  refine r_bipush (v := 24) X dX9_up_1 (by decide) ?_
  obtain ⟨r1, σ2, hc_15, h⟩ := bnd_of h
  refine r_callS (As := [.int a1, .int (24 : Int32)]) (rest := []) (st2 := [.int r1]) X cv_X9_91 (c_X9_isBelow M.2.1 hc_15) rfl rfl rfl (Nat.le_of_ble_eq_true rfl) ⟨⟨rfl, rfl⟩, by decide, by decide⟩ dX9_up_3 ⟨rfl, rfl⟩ rfl ?_
  refine r_if_eq X 17 dX9_up_6 (by decide) h (fun h => ?_) (fun h => ?_)
  · refine r_bipush (v := -2) X dX9_up_17 (by decide) ?_
    exact r_iretz X rfl dX9_up_19 h
  · refine r_iload_n X dX9_up_9 rfl 2 rfl ?_
    refine r_iconst (v := 2) X dX9_up_10 (by decide) ?_
    obtain ⟨r3, σ4, hc_14, h⟩ := bnd_of h
    refine r_callS (As := [.int a2, .int (2 : Int32)]) (rest := []) (st2 := [.int r3]) X cv_X9_91 (c_X9_isBelow M.2.1 hc_14) rfl rfl rfl (Nat.le_of_ble_eq_true rfl) ⟨⟨rfl, rfl⟩, by decide, by decide⟩ dX9_up_11 ⟨rfl, rfl⟩ rfl ?_
    refine r_if_ne X 20 dX9_up_14 (by decide) h (fun h => ?_) (fun h => ?_)
    · refine r_bipush (v := -2) X dX9_up_17 (by decide) ?_
      exact r_iretz X rfl dX9_up_19 h
    · refine r_aload_n X dX9_up_20 rfl 0 rfl ?_
      obtain ⟨r5, σ6, hc_13, h⟩ := bnd_of h
      have h0 := gd_eq h
      clear h
      obtain ⟨rfl, h⟩ := h0
      refine r_callV (As := []) (rest := []) (st2 := [.ref (ad 28)]) (c := 0) X cv_X9_163 (c_X9_asTold M.2.1 hc_13) rfl (ci := 8) rfl fX_0 rfl rfl (Nat.le_of_ble_eq_true rfl) ⟨⟨rfl, rfl⟩, by decide, by decide⟩ dX9_up_21 ⟨rfl, rfl⟩ rfl ?_
      refine r_astore_n X [(3, .ref (ad 28)), (0, .ref (ad 0)), (1, .int a1), (2, .int a2)] dX9_up_24 rfl (by decide) rfl ?_
      refine r_iload_n X dX9_up_25 rfl 3 rfl ?_
      refine r_if_ne X 41 dX9_up_26 (by decide) h (fun h => ?_) (fun h => ?_)
      · refine r_aload_n X dX9_up_29 rfl 0 rfl ?_
        refine r_getR (c1 := 32) X fg_X9_178_X0 fX_28 rfl dX9_up_30 ?_
        refine r_iload_n X dX9_up_33 rfl 2 rfl ?_
        refine r_iald X fX_32 dX9_up_34 h (fun h => ?_)
        obtain ⟨r10, σ11, hc_12, h⟩ := bnd_of h
        refine r_callS (As := [.int (σ6 32 (a1).toNatClampNeg)]) (rest := []) (st2 := [.int r10]) X cv_X9_181 (c_J6_bitCount_0f7a4 M.2.1 hc_12) rfl rfl rfl (Nat.le_of_ble_eq_true rfl) ⟨⟨rfl, rfl⟩, by decide, by decide⟩ dX9_up_35 ⟨rfl, rfl⟩ rfl ?_
        refine r_goto X 50 dX9_up_38 (by decide) ?_
        exact r_iretz X rfl dX9_up_50 h
      · refine r_aload_n X dX9_up_41 rfl 0 rfl ?_
        refine r_aload_n X dX9_up_42 rfl 1 rfl ?_
        refine r_getR (c1 := 10) X fg_X9_31_X9 fX_0 rfl dX9_up_43 ?_
        refine r_iload_n X dX9_up_46 rfl 2 rfl ?_
        obtain ⟨r7, σ8, hc_9, h⟩ := bnd_of h
        refine r_callV (As := [.ref (ad 10), .int a1]) (rest := []) (st2 := [.int r7]) (c := 28) X cv_X9_186 (c_X0_openBehind M.2.1 iX0_28 hc_9) rfl (ci := 0) rfl fX_28 rfl rfl (Nat.le_of_ble_eq_true rfl) ⟨⟨rfl, rfl⟩, by decide, by decide⟩ dX9_up_47 ⟨rfl, rfl⟩ rfl ?_
        exact r_iretz X rfl dX9_up_50 h
set_option maxRecDepth 100000 in
set_option maxHeartbeats 4000000 in
theorem c_X9_met (l : Launch) {σ : Sg} {a1 : Int32} {z : Int32 × Sg} (h : f_X9_met σ a1 = some z) : am_Met l yX9_met cX9_met 2 (some .int) { frames := 4, cells := 0, slots := 0, locals := 95 } NX LX (fun ad => [.ref (ad 0), .int a1]) σ z.2 (fun _ => some (.int z.1)) := by
  refine am_enter (by decide +kernel) (fun ad => Nat.le_of_ble_eq_true rfl) (fun M D cT ad hl X => ?_)
  subst hl
  refine r_lv (lv' := [(0, .ref (ad 0)), (1, .int a1)]) rfl ?_
  unfold f_X9_met at h
  refine r_iload_n X dX9_met_0 rfl 1 rfl ?_
  refine r_aload_n X dX9_met_1 rfl 0 rfl ?_
  refine r_getR (c1 := 10) X fg_X9_31_X9 fX_0 rfl dX9_met_2 ?_
  refine r_getI X fg_X9_128_X4 fX_10 rfl dX9_met_5 ?_
  obtain ⟨r1, σ2, hc_6, h⟩ := bnd_of h
  refine r_callS (As := [.int a1, .int (σ 10 1)]) (rest := []) (st2 := [.int r1]) X cv_X9_91 (c_X9_isBelow M.2.1 hc_6) rfl rfl rfl (Nat.le_of_ble_eq_true rfl) ⟨⟨rfl, rfl⟩, by decide, by decide⟩ dX9_met_8 ⟨rfl, rfl⟩ rfl ?_
  refine r_if_ne X 17 dX9_met_11 (by decide) h (fun h => ?_) (fun h => ?_)
  · refine r_bipush (v := -2) X dX9_met_14 (by decide) ?_
    exact r_iretz X rfl dX9_met_16 h
  · refine r_aload_n X dX9_met_17 rfl 0 rfl ?_
    obtain ⟨r3, σ4, hc_5, h⟩ := bnd_of h
    have h0 := gd_eq h
    clear h
    obtain ⟨rfl, h⟩ := h0
    refine r_callV (As := []) (rest := []) (st2 := [.ref (ad 28)]) (c := 0) X cv_X9_163 (c_X9_asTold M.2.1 hc_5) rfl (ci := 8) rfl fX_0 rfl rfl (Nat.le_of_ble_eq_true rfl) ⟨⟨rfl, rfl⟩, by decide, by decide⟩ dX9_met_18 ⟨rfl, rfl⟩ rfl ?_
    refine r_getR (c1 := 29) X fg_X9_190_X0 fX_28 rfl dX9_met_21 ?_
    refine r_iload_n X dX9_met_24 rfl 1 rfl ?_
    refine r_iald X fX_29 dX9_met_25 h (fun h => ?_)
    exact r_iretz X rfl dX9_met_26 h
set_option maxRecDepth 100000 in
set_option maxHeartbeats 4000000 in
theorem t_X0_nightsUp_b22 {M : am_M} {D : va_G} {cT : Nat → ClassId} {ad : Nat → Nat} (X : am_X M (D, cT, ad, NX, LX) cX0_nightsUp RX0 4 (some .int)) {c0 : Nat} (hc0 : Is_X0 c0) {z : Int32 × Sg} {k4 : Sg → Int32 → Int32 → Int32 → Option (Int32 × Sg)} (hk4 : ∀ (σ : Sg) (x1 : Int32) (x2 : Int32) (x3 : Int32), k4 σ x1 x2 x3 = some z → am_At M { frames := 1, cells := 0, slots := 0, locals := 22 } (D, cT, ad, NX, LX) (amQi M (D, cT, ad, NX, LX) z) 4 4 [(0, .ref (ad c0)), (1, .int x1), (2, .int x2), (3, .int x3)] [] σ) (σ : Sg) (x1 : Int32) (x2 : Int32) (x3 : Int32) (h : f_X0_nightsUp_b22 c0 k4 σ x1 x2 x3 = some z) : am_At M { frames := 1, cells := 0, slots := 0, locals := 22 } (D, cT, ad, NX, LX) (amQi M (D, cT, ad, NX, LX) z) 4 22 [(0, .ref (ad c0)), (1, .int x1), (2, .int x2), (3, .int x3)] [] σ := by
  unfold f_X0_nightsUp_b22 at h
  refine r_iinc X [(3, .int (x3 + (1 : Int32))), (0, .ref (ad c0)), (1, .int x1), (2, .int x2)] dX0_nightsUp_22 3 rfl (v := x3 + (1 : Int32)) (by rfl) (by decide) rfl ?_
  refine r_letv h (fun v1 h => ?_)
  refine r_goto X 4 dX0_nightsUp_25 (by decide) ?_
  refine r_sub (lv' := [(0, .ref (ad c0)), (1, .int x1), (2, .int x2), (3, .int v1)]) [1, 2, 3, 0] rfl ?_
  exact hk4 σ x1 x2 v1 h
set_option maxRecDepth 100000 in
set_option maxHeartbeats 4000000 in
theorem t_X0_nightsUp_b4 {M : am_M} {D : va_G} {cT : Nat → ClassId} {ad : Nat → Nat} (X : am_X M (D, cT, ad, NX, LX) cX0_nightsUp RX0 4 (some .int)) {c0 : Nat} (hc0 : Is_X0 c0) {z : Int32 × Sg} {k4 : Sg → Int32 → Int32 → Int32 → Option (Int32 × Sg)} (hk4 : ∀ (σ : Sg) (x1 : Int32) (x2 : Int32) (x3 : Int32), k4 σ x1 x2 x3 = some z → am_At M { frames := 1, cells := 0, slots := 0, locals := 22 } (D, cT, ad, NX, LX) (amQi M (D, cT, ad, NX, LX) z) 4 4 [(0, .ref (ad c0)), (1, .int x1), (2, .int x2), (3, .int x3)] [] σ) (σ : Sg) (x1 : Int32) (x2 : Int32) (x3 : Int32) (h : f_X0_nightsUp_b4 c0 k4 σ x1 x2 x3 = some z) : am_At M { frames := 1, cells := 0, slots := 0, locals := 22 } (D, cT, ad, NX, LX) (amQi M (D, cT, ad, NX, LX) z) 4 4 [(0, .ref (ad c0)), (1, .int x1), (2, .int x2), (3, .int x3)] [] σ := by
  unfold f_X0_nightsUp_b4 at h
  refine r_iload_n X dX0_nightsUp_4 rfl 3 rfl ?_
  refine r_bipush (v := 24) X dX0_nightsUp_5 (by decide) ?_
  refine r_icmp_ge X 28 dX0_nightsUp_7 (by decide) h (fun h => ?_) (fun h => ?_)
  · refine r_iload_n X dX0_nightsUp_28 rfl 2 rfl ?_
    exact r_iretz X rfl dX0_nightsUp_29 h
  · refine r_aload_n X dX0_nightsUp_10 rfl 0 rfl ?_
    refine r_iload_n X dX0_nightsUp_11 rfl 3 rfl ?_
    refine r_iload_n X dX0_nightsUp_12 rfl 1 rfl ?_
    obtain ⟨r1, σ2, hc_4, h⟩ := bnd_of h
    refine r_callV (As := [.int x3, .int x1]) (rest := []) (st2 := [.int r1]) (c := c0) X cv_X0_112 (c_X0_isUp M.2.1 hc0 hc_4) rfl (ci := 0) rfl hc0.1 rfl rfl (Nat.le_of_ble_eq_true rfl) ⟨⟨rfl, rfl⟩, by decide, by decide⟩ dX0_nightsUp_13 ⟨rfl, rfl⟩ rfl ?_
    refine r_if_eq X 22 dX0_nightsUp_16 (by decide) h (fun h => ?_) (fun h => ?_)
    · exact t_X0_nightsUp_b22 X hc0 hk4 σ2 x1 x2 x3 h
    · refine r_iinc X [(2, .int (x2 + (1 : Int32))), (0, .ref (ad c0)), (1, .int x1), (3, .int x3)] dX0_nightsUp_19 2 rfl (v := x2 + (1 : Int32)) (by rfl) (by decide) rfl ?_
      refine r_letv h (fun v3 h => ?_)
      refine r_sub (lv' := [(0, .ref (ad c0)), (1, .int x1), (2, .int v3), (3, .int x3)]) [1, 2, 0, 3] rfl ?_
      exact t_X0_nightsUp_b22 X hc0 hk4 σ2 x1 v3 x3 h
theorem t_X0_nightsUp_l4 {M : am_M} {D : va_G} {cT : Nat → ClassId} {ad : Nat → Nat} (X : am_X M (D, cT, ad, NX, LX) cX0_nightsUp RX0 4 (some .int)) {c0 : Nat} (hc0 : Is_X0 c0) {z : Int32 × Sg} (n : Nat) : ∀ (σ : Sg) (x1 : Int32) (x2 : Int32) (x3 : Int32), f_X0_nightsUp_l4 c0 n σ x1 x2 x3 = some z → am_At M { frames := 1, cells := 0, slots := 0, locals := 22 } (D, cT, ad, NX, LX) (amQi M (D, cT, ad, NX, LX) z) 4 4 [(0, .ref (ad c0)), (1, .int x1), (2, .int x2), (3, .int x3)] [] σ := by
  induction n with
  | zero =>
    intro σ x1 x2 x3 h
    have h2 : (none : Option (Int32 × Sg)) = some z := h
    cases h2
  | succ n ih =>
    intro σ x1 x2 x3 h
    exact t_X0_nightsUp_b4 X hc0 (k4 := f_X0_nightsUp_l4 c0 n) ih σ x1 x2 x3 h
set_option maxRecDepth 100000 in
set_option maxHeartbeats 4000000 in
theorem c_X0_nightsUp (l : Launch) {c0 : Nat} (hc0 : Is_X0 c0) {σ : Sg} {a1 : Int32} {z : Int32 × Sg} (h : f_X0_nightsUp c0 σ a1 = some z) : am_Met l yX0_nightsUp cX0_nightsUp 4 (some .int) { frames := 1, cells := 0, slots := 0, locals := 22 } NX LX (fun ad => [.ref (ad c0), .int a1]) σ z.2 (fun _ => some (.int z.1)) := by
  refine am_enter (by decide +kernel) (fun ad => Nat.le_of_ble_eq_true rfl) (fun M D cT ad hl X => ?_)
  subst hl
  refine r_lv (lv' := [(0, .ref (ad c0)), (1, .int a1)]) rfl ?_
  unfold f_X0_nightsUp at h
  refine r_iconst (v := 0) X dX0_nightsUp_0 (by decide) ?_
  refine r_istore_n X [(2, .int (0 : Int32)), (0, .ref (ad c0)), (1, .int a1)] dX0_nightsUp_1 rfl (by decide) rfl ?_
  refine r_iconst (v := 0) X dX0_nightsUp_2 (by decide) ?_
  refine r_istore_n X [(3, .int (0 : Int32)), (2, .int (0 : Int32)), (0, .ref (ad c0)), (1, .int a1)] dX0_nightsUp_3 rfl (by decide) rfl ?_
  refine r_sub (lv' := [(0, .ref (ad c0)), (1, .int a1), (2, .int (0 : Int32)), (3, .int (0 : Int32))]) [2, 3, 1, 0] rfl ?_
  exact t_X0_nightsUp_l4 X hc0 300 σ a1 (0 : Int32) (0 : Int32) h
set_option maxRecDepth 100000 in
set_option maxHeartbeats 4000000 in
theorem c_X9_stood (l : Launch) {σ : Sg} {a1 : Int32} {z : Int32 × Sg} (h : f_X9_stood σ a1 = some z) : am_Met l yX9_stood cX9_stood 2 (some .int) { frames := 4, cells := 0, slots := 0, locals := 95 } NX LX (fun ad => [.ref (ad 0), .int a1]) σ z.2 (fun _ => some (.int z.1)) := by
  refine am_enter (by decide +kernel) (fun ad => Nat.le_of_ble_eq_true rfl) (fun M D cT ad hl X => ?_)
  subst hl
  refine r_lv (lv' := [(0, .ref (ad 0)), (1, .int a1)]) rfl ?_
  unfold f_X9_stood at h
  refine r_iload_n X dX9_stood_0 rfl 1 rfl ?_
  refine r_aload_n X dX9_stood_1 rfl 0 rfl ?_
  refine r_getR (c1 := 5) X fg_X9_24_X9 fX_0 rfl dX9_stood_2 ?_
  refine r_getI X fg_X9_115_X2 fX_5 rfl dX9_stood_5 ?_
  obtain ⟨r1, σ2, hc_9, h⟩ := bnd_of h
  refine r_callS (As := [.int a1, .int (σ 5 1)]) (rest := []) (st2 := [.int r1]) X cv_X9_91 (c_X9_isBelow M.2.1 hc_9) rfl rfl rfl (Nat.le_of_ble_eq_true rfl) ⟨⟨rfl, rfl⟩, by decide, by decide⟩ dX9_stood_8 ⟨rfl, rfl⟩ rfl ?_
  refine r_if_ne X 17 dX9_stood_11 (by decide) h (fun h => ?_) (fun h => ?_)
  · refine r_bipush (v := -2) X dX9_stood_14 (by decide) ?_
    exact r_iretz X rfl dX9_stood_16 h
  · refine r_aload_n X dX9_stood_17 rfl 0 rfl ?_
    obtain ⟨r3, σ4, hc_8, h⟩ := bnd_of h
    have h0 := gd_eq h
    clear h
    obtain ⟨rfl, h⟩ := h0
    refine r_callV (As := []) (rest := []) (st2 := [.ref (ad 28)]) (c := 0) X cv_X9_163 (c_X9_asTold M.2.1 hc_8) rfl (ci := 8) rfl fX_0 rfl rfl (Nat.le_of_ble_eq_true rfl) ⟨⟨rfl, rfl⟩, by decide, by decide⟩ dX9_stood_18 ⟨rfl, rfl⟩ rfl ?_
    refine r_iload_n X dX9_stood_21 rfl 1 rfl ?_
    obtain ⟨r5, σ6, hc_7, h⟩ := bnd_of h
    refine r_callV (As := [.int a1]) (rest := []) (st2 := [.int r5]) (c := 28) X cv_X9_193 (c_X0_nightsUp M.2.1 iX0_28 hc_7) rfl (ci := 0) rfl fX_28 rfl rfl (Nat.le_of_ble_eq_true rfl) ⟨⟨rfl, rfl⟩, by decide, by decide⟩ dX9_stood_22 ⟨rfl, rfl⟩ rfl ?_
    exact r_iretz X rfl dX9_stood_25 h
set_option maxRecDepth 100000 in
set_option maxHeartbeats 4000000 in
theorem c_X9_wrongly (l : Launch) {σ : Sg} {z : Int32 × Sg} (h : f_X9_wrongly σ = some z) : am_Met l yX9_wrongly cX9_wrongly 1 (some .int) { frames := 4, cells := 0, slots := 0, locals := 95 } NX LX (fun ad => [.ref (ad 0)]) σ z.2 (fun _ => some (.int z.1)) := by
  refine am_enter (by decide +kernel) (fun ad => Nat.le_of_ble_eq_true rfl) (fun M D cT ad hl X => ?_)
  subst hl
  refine r_lv (lv' := [(0, .ref (ad 0))]) rfl ?_
  unfold f_X9_wrongly at h
  refine r_aload_n X dX9_wrongly_0 rfl 0 rfl ?_
  obtain ⟨r1, σ2, hc_3, h⟩ := bnd_of h
  have h0 := gd_eq h
  clear h
  obtain ⟨rfl, h⟩ := h0
  refine r_callV (As := []) (rest := []) (st2 := [.ref (ad 28)]) (c := 0) X cv_X9_163 (c_X9_asTold M.2.1 hc_3) rfl (ci := 8) rfl fX_0 rfl rfl (Nat.le_of_ble_eq_true rfl) ⟨⟨rfl, rfl⟩, by decide, by decide⟩ dX9_wrongly_1 ⟨rfl, rfl⟩ rfl ?_
  refine r_getI X fg_X9_196_X0 fX_28 rfl dX9_wrongly_4 ?_
  exact r_iretz X rfl dX9_wrongly_7 h
set_option maxRecDepth 100000 in
set_option maxHeartbeats 4000000 in
theorem c_X9_first (l : Launch) {σ : Sg} {a1 : Int32} {z : Int32 × Sg} (h : f_X9_first σ a1 = some z) : am_Met l yX9_first cX9_first 3 (some .int) { frames := 4, cells := 0, slots := 0, locals := 95 } NX LX (fun ad => [.ref (ad 0), .int a1]) σ z.2 (fun _ => some (.int z.1)) := by
  refine am_enter (by decide +kernel) (fun ad => Nat.le_of_ble_eq_true rfl) (fun M D cT ad hl X => ?_)
  subst hl
  refine r_lv (lv' := [(0, .ref (ad 0)), (1, .int a1)]) rfl ?_
  unfold f_X9_first at h
  refine r_iload_n X dX9_first_0 rfl 1 rfl ?_
  refine r_iconst (v := 2) X dX9_first_1 (by decide) ?_
  obtain ⟨r1, σ2, hc_6, h⟩ := bnd_of h
  refine r_callS (As := [.int a1, .int (2 : Int32)]) (rest := []) (st2 := [.int r1]) X cv_X9_91 (c_X9_isBelow M.2.1 hc_6) rfl rfl rfl (Nat.le_of_ble_eq_true rfl) ⟨⟨rfl, rfl⟩, by decide, by decide⟩ dX9_first_2 ⟨rfl, rfl⟩ rfl ?_
  refine r_if_ne X 11 dX9_first_5 (by decide) h (fun h => ?_) (fun h => ?_)
  · refine r_bipush (v := -2) X dX9_first_8 (by decide) ?_
    exact r_iretz X rfl dX9_first_10 h
  · refine r_aload_n X dX9_first_11 rfl 0 rfl ?_
    obtain ⟨r3, σ4, hc_5, h⟩ := bnd_of h
    have h0 := gd_eq h
    clear h
    obtain ⟨rfl, h⟩ := h0
    refine r_callV (As := []) (rest := []) (st2 := [.ref (ad 28)]) (c := 0) X cv_X9_163 (c_X9_asTold M.2.1 hc_5) rfl (ci := 8) rfl fX_0 rfl rfl (Nat.le_of_ble_eq_true rfl) ⟨⟨rfl, rfl⟩, by decide, by decide⟩ dX9_first_12 ⟨rfl, rfl⟩ rfl ?_
    refine r_astore_n X [(2, .ref (ad 28)), (0, .ref (ad 0)), (1, .int a1)] dX9_first_15 rfl (by decide) rfl ?_
    refine r_aload_n X dX9_first_16 rfl 0 rfl ?_
    refine r_getI X fg_X9_199_X0 fX_28 rfl dX9_first_17 ?_
    refine r_if_ne X 25 dX9_first_20 (by decide) h (fun h => ?_) (fun h => ?_)
    · refine r_iconst (v := -1) X dX9_first_23 (by decide) ?_
      exact r_iretz X rfl dX9_first_24 h
    · refine r_iload_n X dX9_first_25 rfl 2 rfl ?_
      refine r_if_ne X 38 dX9_first_26 (by decide) h (fun h => ?_) (fun h => ?_)
      · refine r_aload_n X dX9_first_29 rfl 0 rfl ?_
        refine r_getR (c1 := 33) X fg_X9_202_X0 fX_28 rfl dX9_first_30 ?_
        refine r_iconst (v := 0) X dX9_first_33 (by decide) ?_
        refine r_iald X fX_33 dX9_first_34 h (fun h => ?_)
        refine r_goto X 44 dX9_first_35 (by decide) ?_
        exact r_iretz X rfl dX9_first_44 h
      · refine r_aload_n X dX9_first_38 rfl 0 rfl ?_
        refine r_getR (c1 := 34) X fg_X9_205_X0 fX_28 rfl dX9_first_39 ?_
        refine r_iconst (v := 0) X dX9_first_42 (by decide) ?_
        refine r_iald X fX_34 dX9_first_43 h (fun h => ?_)
        exact r_iretz X rfl dX9_first_44 h
set_option maxRecDepth 100000 in
set_option maxHeartbeats 4000000 in
theorem t_X9_gate_b46 {M : am_M} {D : va_G} {cT : Nat → ClassId} {ad : Nat → Nat} (X : am_X M (D, cT, ad, NX, LX) cX9_gate RX9 5 (some .int)) {z : Int32 × Sg} {k12 : Sg → Int32 → Int32 → Int32 → Option (Int32 × Sg)} (hk12 : ∀ (σ : Sg) (x2 : Int32) (x3 : Int32) (x4 : Int32), k12 σ x2 x3 x4 = some z → am_At M { frames := 4, cells := 0, slots := 0, locals := 95 } (D, cT, ad, NX, LX) (amQi M (D, cT, ad, NX, LX) z) 5 12 [(0, .ref (ad 0)), (1, .ref (ad 28)), (2, .int x2), (3, .int x3), (4, .int x4)] [] σ) (σ : Sg) (x2 : Int32) (x3 : Int32) (x4 : Int32) (h : f_X9_gate_b46 k12 σ x2 x3 x4 = some z) : am_At M { frames := 4, cells := 0, slots := 0, locals := 95 } (D, cT, ad, NX, LX) (amQi M (D, cT, ad, NX, LX) z) 5 46 [(0, .ref (ad 0)), (1, .ref (ad 28)), (2, .int x2), (3, .int x3), (4, .int x4)] [] σ := by
  unfold f_X9_gate_b46 at h
  refine r_iinc X [(4, .int (x4 + (1 : Int32))), (0, .ref (ad 0)), (1, .ref (ad 28)), (2, .int x2), (3, .int x3)] dX9_gate_46 4 rfl (v := x4 + (1 : Int32)) (by rfl) (by decide) rfl ?_
  refine r_letv h (fun v1 h => ?_)
  refine r_goto X 12 dX9_gate_49 (by decide) ?_
  refine r_sub (lv' := [(0, .ref (ad 0)), (1, .ref (ad 28)), (2, .int x2), (3, .int x3), (4, .int v1)]) [1, 2, 3, 4, 0] rfl ?_
  exact hk12 σ x2 x3 v1 h
set_option maxRecDepth 100000 in
set_option maxHeartbeats 4000000 in
theorem t_X9_gate_b12 {M : am_M} {D : va_G} {cT : Nat → ClassId} {ad : Nat → Nat} (X : am_X M (D, cT, ad, NX, LX) cX9_gate RX9 5 (some .int)) {z : Int32 × Sg} {k12 : Sg → Int32 → Int32 → Int32 → Option (Int32 × Sg)} (hk12 : ∀ (σ : Sg) (x2 : Int32) (x3 : Int32) (x4 : Int32), k12 σ x2 x3 x4 = some z → am_At M { frames := 4, cells := 0, slots := 0, locals := 95 } (D, cT, ad, NX, LX) (amQi M (D, cT, ad, NX, LX) z) 5 12 [(0, .ref (ad 0)), (1, .ref (ad 28)), (2, .int x2), (3, .int x3), (4, .int x4)] [] σ) (σ : Sg) (x2 : Int32) (x3 : Int32) (x4 : Int32) (h : f_X9_gate_b12 k12 σ x2 x3 x4 = some z) : am_At M { frames := 4, cells := 0, slots := 0, locals := 95 } (D, cT, ad, NX, LX) (amQi M (D, cT, ad, NX, LX) z) 5 12 [(0, .ref (ad 0)), (1, .ref (ad 28)), (2, .int x2), (3, .int x3), (4, .int x4)] [] σ := by
  unfold f_X9_gate_b12 at h
  refine r_iload X dX9_gate_12 4 rfl ?_
  refine r_aload_n X dX9_gate_14 rfl 0 rfl ?_
  refine r_getR (c1 := 5) X fg_X9_24_X9 fX_0 rfl dX9_gate_15 ?_
  refine r_getI X fg_X9_115_X2 fX_5 rfl dX9_gate_18 ?_
  refine r_icmp_ge X 52 dX9_gate_21 (by decide) h (fun h => ?_) (fun h => ?_)
  · refine r_iload_n X dX9_gate_52 rfl 2 rfl ?_
    exact r_iretz X rfl dX9_gate_53 h
  · refine r_aload_n X dX9_gate_24 rfl 1 rfl ?_
    refine r_getR (c1 := 31) X fg_X9_208_X0 fX_28 rfl dX9_gate_25 ?_
    refine r_iload X dX9_gate_28 4 rfl ?_
    refine r_iald X fX_31 dX9_gate_30 h (fun h => ?_)
    refine r_iload_n X dX9_gate_31 rfl 3 rfl ?_
    refine r_icmp_le X 46 dX9_gate_32 (by decide) h (fun h => ?_) (fun h => ?_)
    · exact t_X9_gate_b46 X hk12 σ x2 x3 x4 h
    · refine r_aload_n X dX9_gate_35 rfl 1 rfl ?_
      refine r_getR (c1 := 31) X fg_X9_208_X0 fX_28 rfl dX9_gate_36 ?_
      refine r_iload X dX9_gate_39 4 rfl ?_
      refine r_iald X fX_31 dX9_gate_41 h (fun h => ?_)
      refine r_leti h (fun v1 h => ?_)
      refine r_istore_n X [(3, .int v1), (0, .ref (ad 0)), (1, .ref (ad 28)), (2, .int x2), (4, .int x4)] dX9_gate_42 rfl (by decide) rfl ?_
      refine r_iload X dX9_gate_43 4 rfl ?_
      refine r_istore_n X [(2, .int x4), (3, .int v1), (0, .ref (ad 0)), (1, .ref (ad 28)), (4, .int x4)] dX9_gate_45 rfl (by decide) rfl ?_
      refine r_sub (lv' := [(0, .ref (ad 0)), (1, .ref (ad 28)), (2, .int x4), (3, .int v1), (4, .int x4)]) [2, 3, 0, 1, 4] rfl ?_
      exact t_X9_gate_b46 X hk12 σ x4 v1 x4 h
theorem t_X9_gate_l12 {M : am_M} {D : va_G} {cT : Nat → ClassId} {ad : Nat → Nat} (X : am_X M (D, cT, ad, NX, LX) cX9_gate RX9 5 (some .int)) {z : Int32 × Sg} (n : Nat) : ∀ (σ : Sg) (x2 : Int32) (x3 : Int32) (x4 : Int32), f_X9_gate_l12 n σ x2 x3 x4 = some z → am_At M { frames := 4, cells := 0, slots := 0, locals := 95 } (D, cT, ad, NX, LX) (amQi M (D, cT, ad, NX, LX) z) 5 12 [(0, .ref (ad 0)), (1, .ref (ad 28)), (2, .int x2), (3, .int x3), (4, .int x4)] [] σ := by
  induction n with
  | zero =>
    intro σ x2 x3 x4 h
    have h2 : (none : Option (Int32 × Sg)) = some z := h
    cases h2
  | succ n ih =>
    intro σ x2 x3 x4 h
    exact t_X9_gate_b12 X (k12 := f_X9_gate_l12 n) ih σ x2 x3 x4 h
set_option maxRecDepth 100000 in
set_option maxHeartbeats 4000000 in
theorem c_X9_gate (l : Launch) {σ : Sg} {z : Int32 × Sg} (h : f_X9_gate σ = some z) : am_Met l yX9_gate cX9_gate 5 (some .int) { frames := 4, cells := 0, slots := 0, locals := 95 } NX LX (fun ad => [.ref (ad 0)]) σ z.2 (fun _ => some (.int z.1)) := by
  refine am_enter (by decide +kernel) (fun ad => Nat.le_of_ble_eq_true rfl) (fun M D cT ad hl X => ?_)
  subst hl
  refine r_lv (lv' := [(0, .ref (ad 0))]) rfl ?_
  unfold f_X9_gate at h
  refine r_aload_n X dX9_gate_0 rfl 0 rfl ?_
  obtain ⟨r1, σ2, hc_3, h⟩ := bnd_of h
  have h0 := gd_eq h
  clear h
  obtain ⟨rfl, h⟩ := h0
  refine r_callV (As := []) (rest := []) (st2 := [.ref (ad 28)]) (c := 0) X cv_X9_163 (c_X9_asTold M.2.1 hc_3) rfl (ci := 8) rfl fX_0 rfl rfl (Nat.le_of_ble_eq_true rfl) ⟨⟨rfl, rfl⟩, by decide, by decide⟩ dX9_gate_1 ⟨rfl, rfl⟩ rfl ?_
  refine r_astore_n X [(1, .ref (ad 28)), (0, .ref (ad 0))] dX9_gate_4 rfl (by decide) rfl ?_
  refine r_iconst (v := -1) X dX9_gate_5 (by decide) ?_
  refine r_istore_n X [(2, .int (-1 : Int32)), (1, .ref (ad 28)), (0, .ref (ad 0))] dX9_gate_6 rfl (by decide) rfl ?_
  refine r_iconst (v := 0) X dX9_gate_7 (by decide) ?_
  refine r_istore_n X [(3, .int (0 : Int32)), (2, .int (-1 : Int32)), (1, .ref (ad 28)), (0, .ref (ad 0))] dX9_gate_8 rfl (by decide) rfl ?_
  refine r_iconst (v := 0) X dX9_gate_9 (by decide) ?_
  refine r_istore X [(4, .int (0 : Int32)), (3, .int (0 : Int32)), (2, .int (-1 : Int32)), (1, .ref (ad 28)), (0, .ref (ad 0))] dX9_gate_10 (by decide) rfl ?_
  refine r_sub (lv' := [(0, .ref (ad 0)), (1, .ref (ad 28)), (2, .int (-1 : Int32)), (3, .int (0 : Int32)), (4, .int (0 : Int32))]) [4, 3, 2, 1, 0] rfl ?_
  exact t_X9_gate_l12 X 300 σ2 (-1 : Int32) (0 : Int32) (0 : Int32) h
