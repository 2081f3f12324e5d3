set_option maxRecDepth 100000 in
set_option maxHeartbeats 4000000 in
theorem c_X9_nextSeed (l : Launch) {σ : Sg} {a0 : Int32} {z : Int32 × Sg} (h : f_X9_nextSeed σ a0 = some z) : am_Met l yX9_nextSeed cX9_nextSeed 1 (some .int) { frames := 0, cells := 0, slots := 0, locals := 0 } NX LX (fun ad => [.int a0]) σ z.2 (fun _ => some (.int z.1)) := by
  refine am_enter (by decide +kernel) (fun ad => Nat.le_of_ble_eq_true rfl) (fun M D cT ad hl X => ?_)
  subst hl
  refine r_lv (lv' := [(0, .int a0)]) rfl ?_
  unfold f_X9_nextSeed at h
  refine r_ldcw (v := 1103515245) X dX9_nextSeed_0 bw_375 ?_
  refine r_iload_n X dX9_nextSeed_3 rfl 0 rfl ?_
  refine r_imul X dX9_nextSeed_4 ?_
  refine r_sipush (v := 12345) X dX9_nextSeed_5 (by decide) ?_
  refine r_iadd X dX9_nextSeed_8 ?_
  exact r_iretz X rfl dX9_nextSeed_9 h
set_option maxRecDepth 100000 in
set_option maxHeartbeats 4000000 in
theorem c_X9_upperBits (l : Launch) {σ : Sg} {a0 : Int32} {z : Int32 × Sg} (h : f_X9_upperBits σ a0 = some z) : am_Met l yX9_upperBits cX9_upperBits 1 (some .int) { frames := 0, cells := 0, slots := 0, locals := 0 } NX LX (fun ad => [.int a0]) σ z.2 (fun _ => some (.int z.1)) := by
  refine am_enter (by decide +kernel) (fun ad => Nat.le_of_ble_eq_true rfl) (fun M D cT ad hl X => ?_)
  subst hl
  refine r_lv (lv' := [(0, .int a0)]) rfl ?_
  unfold f_X9_upperBits at h
  refine r_iload_n X dX9_upperBits_0 rfl 0 rfl ?_
  refine r_bipush (v := 16) X dX9_upperBits_1 (by decide) ?_
  refine r_iushr X dX9_upperBits_3 ?_
  exact r_iretz X rfl dX9_upperBits_4 h
set_option maxRecDepth 100000 in
set_option maxHeartbeats 4000000 in
theorem t_X9_drawEvents_b13 {M : am_M} {D : va_G} {cT : Nat → ClassId} {ad : Nat → Nat} (X : am_X M (D, cT, ad, NX, LX) cX9_drawEvents RX9 8 none) {z : Unit × Sg} {k13 : Sg → Int32 → Int32 → Int32 → Option (Unit × Sg)} (hk13 : ∀ (σ : Sg) (x2 : Int32) (x3 : Int32) (x4 : Int32), k13 σ x2 x3 x4 = some z → am_At M { frames := 1, cells := 0, slots := 0, locals := 25 } (D, cT, ad, NX, LX) (amQv M (D, cT, ad, NX, LX) z) 8 13 [(0, .ref (ad 0)), (2, .int x2), (3, .int x3), (4, .int x4)] [] σ) (σ : Sg) (x2 : Int32) (x3 : Int32) (x4 : Int32) (h : f_X9_drawEvents_b13 k13 σ x2 x3 x4 = some z) : am_At M { frames := 1, cells := 0, slots := 0, locals := 25 } (D, cT, ad, NX, LX) (amQv M (D, cT, ad, NX, LX) z) 8 13 [(0, .ref (ad 0)), (2, .int x2), (3, .int x3), (4, .int x4)] [] σ := by
  unfold f_X9_drawEvents_b13 at h
  refine r_iload X dX9_drawEvents_13 3 rfl ?_
  refine r_iload_n X dX9_drawEvents_15 rfl 1 rfl ?_
  refine r_icmp_ge X 79 dX9_drawEvents_16 (by decide) h (fun h => ?_) (fun h => ?_)
  · exact r_vretz X rfl dX9_drawEvents_79 h
  · refine r_iload_n X dX9_drawEvents_19 rfl 2 rfl ?_
    obtain ⟨r1, σ2, hc_25, h⟩ := bnd_of h
    refine r_callS (As := [.int x3]) (rest := []) (st2 := [.int r1]) X cv_X9_355 (c_X9_nextSeed M.2.1 hc_25) rfl rfl rfl (Nat.le_of_ble_eq_true rfl) ⟨⟨rfl, rfl⟩, by decide, by decide⟩ dX9_drawEvents_20 ⟨rfl, rfl⟩ rfl ?_
    refine r_istore_n X [(3, .int r1), (0, .ref (ad 0)), (2, .int x2), (4, .int x4)] dX9_drawEvents_23 rfl (by decide) rfl ?_
    refine r_iload_n X dX9_drawEvents_24 rfl 0 rfl ?_
    obtain ⟨r3, σ4, hc_24, h⟩ := bnd_of h
    refine r_callS (As := [.int r1]) (rest := []) (st2 := [.int r3]) X cv_X9_358 (c_X9_upperBits M.2.1 hc_24) rfl rfl rfl (Nat.le_of_ble_eq_true rfl) ⟨⟨rfl, rfl⟩, by decide, by decide⟩ dX9_drawEvents_25 ⟨rfl, rfl⟩ rfl ?_
    refine r_iconst (v := 2) X dX9_drawEvents_28 (by decide) ?_
    refine r_irem0 X dX9_drawEvents_29 (by decide) ?_
    refine r_leti h (fun v5 h => ?_)
    refine r_istore X [(5, .int v5), (3, .int r1), (0, .ref (ad 0)), (2, .int x2), (4, .int x4)] dX9_drawEvents_30 (by decide) rfl ?_
    refine r_iload_n X dX9_drawEvents_32 rfl 1 rfl ?_
    obtain ⟨r6, σ7, hc_23, h⟩ := bnd_of h
    refine r_callS (As := [.int r1]) (rest := []) (st2 := [.int r6]) X cv_X9_355 (c_X9_nextSeed M.2.1 hc_23) rfl rfl rfl (Nat.le_of_ble_eq_true rfl) ⟨⟨rfl, rfl⟩, by decide, by decide⟩ dX9_drawEvents_33 ⟨rfl, rfl⟩ rfl ?_
    refine r_istore_n X [(3, .int r6), (5, .int v5), (0, .ref (ad 0)), (2, .int x2), (4, .int x4)] dX9_drawEvents_36 rfl (by decide) rfl ?_
    refine r_iload_n X dX9_drawEvents_37 rfl 0 rfl ?_
    obtain ⟨r8, σ9, hc_22, h⟩ := bnd_of h
    refine r_callS (As := [.int r6]) (rest := []) (st2 := [.int r8]) X cv_X9_358 (c_X9_upperBits M.2.1 hc_22) rfl rfl rfl (Nat.le_of_ble_eq_true rfl) ⟨⟨rfl, rfl⟩, by decide, by decide⟩ dX9_drawEvents_38 ⟨rfl, rfl⟩ rfl ?_
    refine r_bipush (v := 24) X dX9_drawEvents_41 (by decide) ?_
    refine r_irem0 X dX9_drawEvents_43 (by decide) ?_
    refine r_leti h (fun v10 h => ?_)
    refine r_istore X [(6, .int v10), (3, .int r6), (5, .int v5), (0, .ref (ad 0)), (2, .int x2), (4, .int x4)] dX9_drawEvents_44 (by decide) rfl ?_
    refine r_iload_n X dX9_drawEvents_46 rfl 1 rfl ?_
    obtain ⟨r11, σ12, hc_21, h⟩ := bnd_of h
    refine r_callS (As := [.int r6]) (rest := []) (st2 := [.int r11]) X cv_X9_355 (c_X9_nextSeed M.2.1 hc_21) rfl rfl rfl (Nat.le_of_ble_eq_true rfl) ⟨⟨rfl, rfl⟩, by decide, by decide⟩ dX9_drawEvents_47 ⟨rfl, rfl⟩ rfl ?_
    refine r_istore_n X [(3, .int r11), (6, .int v10), (5, .int v5), (0, .ref (ad 0)), (2, .int x2), (4, .int x4)] dX9_drawEvents_50 rfl (by decide) rfl ?_
    refine r_iload_n X dX9_drawEvents_51 rfl 0 rfl ?_
    obtain ⟨r13, σ14, hc_20, h⟩ := bnd_of h
    refine r_callS (As := [.int r11]) (rest := []) (st2 := [.int r13]) X cv_X9_358 (c_X9_upperBits M.2.1 hc_20) rfl rfl rfl (Nat.le_of_ble_eq_true rfl) ⟨⟨rfl, rfl⟩, by decide, by decide⟩ dX9_drawEvents_52 ⟨rfl, rfl⟩ rfl ?_
    refine r_bipush (v := 6) X dX9_drawEvents_55 (by decide) ?_
    refine r_irem0 X dX9_drawEvents_57 (by decide) ?_
    refine r_leti h (fun v15 h => ?_)
    refine r_istore X [(7, .int v15), (3, .int r11), (6, .int v10), (5, .int v5), (0, .ref (ad 0)), (2, .int x2), (4, .int x4)] dX9_drawEvents_58 (by decide) rfl ?_
    refine r_aload_n X dX9_drawEvents_60 rfl 4 rfl ?_
    refine r_getR (c1 := 19) X fg_X9_42_X9 fX_0 rfl dX9_drawEvents_61 ?_
    refine r_iload X dX9_drawEvents_64 3 rfl ?_
    refine r_iload X dX9_drawEvents_66 2 rfl ?_
    refine r_iload X dX9_drawEvents_68 0 rfl ?_
    obtain ⟨r16, σ17, hc_19, h⟩ := bnd_of h
    refine r_callV (As := [.int v5, .int v10, .int v15]) (rest := []) (st2 := []) (c := 19) X cv_X9_139 (c_X1_add M.2.1 iX1_19 hc_19) rfl (ci := 1) rfl fX_19 rfl rfl (Nat.le_of_ble_eq_true rfl) ⟨⟨rfl, rfl⟩, by decide, by decide⟩ dX9_drawEvents_70 ⟨rfl, rfl⟩ rfl ?_
    refine r_iinc X [(4, .int (x4 + (1 : Int32))), (7, .int v15), (3, .int r11), (6, .int v10), (5, .int v5), (0, .ref (ad 0)), (2, .int x2)] dX9_drawEvents_73 6 rfl (v := x4 + (1 : Int32)) (by rfl) (by decide) rfl ?_
    refine r_letv h (fun v18 h => ?_)
    refine r_goto X 13 dX9_drawEvents_76 (by decide) ?_
    refine r_sub (lv' := [(0, .ref (ad 0)), (2, .int x2), (3, .int r11), (4, .int v18)]) [5, 6, 2, 0] rfl ?_
    exact hk13 σ17 x2 r11 v18 h
theorem t_X9_drawEvents_l13 {M : am_M} {D : va_G} {cT : Nat → ClassId} {ad : Nat → Nat} (X : am_X M (D, cT, ad, NX, LX) cX9_drawEvents RX9 8 none) {z : Unit × Sg} (n : Nat) : ∀ (σ : Sg) (x2 : Int32) (x3 : Int32) (x4 : Int32), f_X9_drawEvents_l13 n σ x2 x3 x4 = some z → am_At M { frames := 1, cells := 0, slots := 0, locals := 25 } (D, cT, ad, NX, LX) (amQv M (D, cT, ad, NX, LX) z) 8 13 [(0, .ref (ad 0)), (2, .int x2), (3, .int x3), (4, .int x4)] [] σ := by
  induction n with
  | zero =>
    intro σ x2 x3 x4 h
    have h2 : (none : Option (Unit × Sg)) = some z := h
    cases h2
  | succ n ih =>
    intro σ x2 x3 x4 h
    exact t_X9_drawEvents_b13 X (k13 := f_X9_drawEvents_l13 n) ih σ x2 x3 x4 h
set_option maxRecDepth 100000 in
set_option maxHeartbeats 4000000 in
theorem c_X9_drawEvents (l : Launch) {σ : Sg} {a1 : Int32} {a2 : Int32} {z : Unit × Sg} (h : f_X9_drawEvents σ a1 a2 = some z) : am_Met l yX9_drawEvents cX9_drawEvents 8 none { frames := 1, cells := 0, slots := 0, locals := 25 } NX LX (fun ad => [.ref (ad 0), .int a1, .int a2]) σ z.2 (fun _ => none) := by
  refine am_enter (by decide +kernel) (fun ad => Nat.le_of_ble_eq_true rfl) (fun M D cT ad hl X => ?_)
  subst hl
  refine r_lv (lv' := [(0, .ref (ad 0)), (1, .int a1), (2, .int a2)]) rfl ?_
  unfold f_X9_drawEvents at h
  refine r_aload_n X dX9_drawEvents_0 rfl 0 rfl ?_
  refine r_getR (c1 := 19) X fg_X9_42_X9 fX_0 rfl dX9_drawEvents_1 ?_
  refine r_iconst (v := 0) X dX9_drawEvents_4 (by decide) ?_
  refine r_putI X fp_X9_138_X1 fX_19 rfl dX9_drawEvents_5 h (fun σ1 h => ?_)
  refine r_iload_n X dX9_drawEvents_8 rfl 1 rfl ?_
  refine r_istore_n X [(3, .int a1), (0, .ref (ad 0)), (1, .int a1), (2, .int a2)] dX9_drawEvents_9 rfl (by decide) rfl ?_
  refine r_iconst (v := 0) X dX9_drawEvents_10 (by decide) ?_
  refine r_istore X [(4, .int (0 : Int32)), (3, .int a1), (0, .ref (ad 0)), (1, .int a1), (2, .int a2)] dX9_drawEvents_11 (by decide) rfl ?_
  refine r_sub (lv' := [(0, .ref (ad 0)), (2, .int a2), (3, .int a1), (4, .int (0 : Int32))]) [2, 4, 1, 0] rfl ?_
  exact t_X9_drawEvents_l13 X 300 σ1 a2 a1 (0 : Int32) h
set_option maxRecDepth 100000 in
set_option maxHeartbeats 4000000 in
theorem c_X9_years (l : Launch) {σ : Sg} {a1 : Int32} {a2 : Int32} {a3 : Int32} {z : Int32 × Sg} (h : f_X9_years σ a1 a2 a3 = some z) : am_Met l yX9_years cX9_years 4 (some .int) { frames := 3, cells := 0, slots := 0, locals := 75 } NX LX (fun ad => [.ref (ad 0), .int a1, .int a2, .int a3]) σ z.2 (fun _ => some (.int z.1)) := by
  refine am_enter (by decide +kernel) (fun ad => Nat.le_of_ble_eq_true rfl) (fun M D cT ad hl X => ?_)
  subst hl
  refine r_lv (lv' := [(0, .ref (ad 0)), (1, .int a1), (2, .int a2), (3, .int a3)]) rfl ?_
  unfold f_X9_years at h
  refine r_iload_n X dX9_years_0 rfl 2 rfl ?_
  refine r_bipush (v := 9) X dX9_years_1 (by decide) ?_
  obtain ⟨r1, σ2, hc_15, h⟩ := bnd_of h
  refine r_callS (As := [.int a2, .int (9 : Int32)]) (rest := []) (st2 := [.int r1]) X cv_X9_91 (c_X9_isBelow M.2.1 hc_15) rfl rfl rfl (Nat.le_of_ble_eq_true rfl) ⟨⟨rfl, rfl⟩, by decide, by decide⟩ dX9_years_3 ⟨rfl, rfl⟩ rfl ?_
  refine r_if_eq X 17 dX9_years_6 (by decide) h (fun h => ?_) (fun h => ?_)
  · refine r_bipush (v := -2) X dX9_years_17 (by decide) ?_
    exact r_iretz X rfl dX9_years_19 h
  · refine r_iload_n X dX9_years_9 rfl 3 rfl ?_
    refine r_iconst (v := 2) X dX9_years_10 (by decide) ?_
    obtain ⟨r3, σ4, hc_14, h⟩ := bnd_of h
    refine r_callS (As := [.int a3, .int (2 : Int32)]) (rest := []) (st2 := [.int r3]) X cv_X9_91 (c_X9_isBelow M.2.1 hc_14) rfl rfl rfl (Nat.le_of_ble_eq_true rfl) ⟨⟨rfl, rfl⟩, by decide, by decide⟩ dX9_years_11 ⟨rfl, rfl⟩ rfl ?_
    refine r_if_ne X 20 dX9_years_14 (by decide) h (fun h => ?_) (fun h => ?_)
    · refine r_bipush (v := -2) X dX9_years_17 (by decide) ?_
      exact r_iretz X rfl dX9_years_19 h
    · refine r_aload_n X dX9_years_20 rfl 0 rfl ?_
      refine r_iload_n X dX9_years_21 rfl 1 rfl ?_
      refine r_iload_n X dX9_years_22 rfl 2 rfl ?_
      obtain ⟨r5, σ6, hc_13, h⟩ := bnd_of h
      refine r_callV (As := [.int a1, .int a2]) (rest := []) (st2 := []) (c := 0) X cv_X9_262 (c_X9_drawEvents M.2.1 hc_13) rfl (ci := 8) rfl fX_0 rfl rfl (Nat.le_of_ble_eq_true rfl) ⟨⟨rfl, rfl⟩, by decide, by decide⟩ dX9_years_23 ⟨rfl, rfl⟩ rfl ?_
      refine r_aload_n X dX9_years_26 rfl 0 rfl ?_
      refine r_getR (c1 := 35) X fg_X9_59_X9 fX_0 rfl dX9_years_27 ?_
      refine r_aload_n X dX9_years_30 rfl 0 rfl ?_
      refine r_getR (c1 := 5) X fg_X9_24_X9 fX_0 rfl dX9_years_31 ?_
      refine r_aload_n X dX9_years_34 rfl 0 rfl ?_
      refine r_getR (c1 := 10) X fg_X9_31_X9 fX_0 rfl dX9_years_35 ?_
      refine r_aload_n X dX9_years_38 rfl 0 rfl ?_
      refine r_getR (c1 := 19) X fg_X9_42_X9 fX_0 rfl dX9_years_39 ?_
      refine r_iconst (v := -1) X dX9_years_42 (by decide) ?_
      obtain ⟨r7, σ8, hc_12, h⟩ := bnd_of h
      refine r_callV (As := [.ref (ad 5), .ref (ad 10), .ref (ad 19), .int (-1 : Int32)]) (rest := []) (st2 := []) (c := 35) X cv_X9_235 (c_X0_run M.2.1 iX0_35 iX1_19 hc_12) rfl (ci := 0) rfl fX_35 rfl rfl (Nat.le_of_ble_eq_true rfl) ⟨⟨rfl, rfl⟩, by decide, by decide⟩ dX9_years_43 ⟨rfl, rfl⟩ rfl ?_
      refine r_iload_n X dX9_years_46 rfl 3 rfl ?_
      refine r_if_ne X 64 dX9_years_47 (by decide) h (fun h => ?_) (fun h => ?_)
      · refine r_aload_n X dX9_years_50 rfl 0 rfl ?_
        refine r_getR (c1 := 35) X fg_X9_59_X9 fX_0 rfl dX9_years_51 ?_
        refine r_aload_n X dX9_years_54 rfl 0 rfl ?_
        refine r_getR (c1 := 10) X fg_X9_31_X9 fX_0 rfl dX9_years_55 ?_
        obtain ⟨r9, σ10, hc_11, h⟩ := bnd_of h
        refine r_callV (As := [.ref (ad 10)]) (rest := []) (st2 := [.int r9]) (c := 35) X cv_X9_266 (c_X0_howManyMet M.2.1 iX0_35 hc_11) rfl (ci := 0) rfl fX_35 rfl rfl (Nat.le_of_ble_eq_true rfl) ⟨⟨rfl, rfl⟩, by decide, by decide⟩ dX9_years_58 ⟨rfl, rfl⟩ rfl ?_
        refine r_goto X 71 dX9_years_61 (by decide) ?_
        exact r_iretz X rfl dX9_years_71 h
      · refine r_aload_n X dX9_years_64 rfl 0 rfl ?_
        refine r_getR (c1 := 35) X fg_X9_59_X9 fX_0 rfl dX9_years_65 ?_
        refine r_getI X fg_X9_196_X0 fX_35 rfl dX9_years_68 ?_
        exact r_iretz X rfl dX9_years_71 h
set_option maxRecDepth 100000 in
set_option maxHeartbeats 4000000 in
theorem t_X6_makeNew_b12 {M : am_M} {D : va_G} {cT : Nat → ClassId} {ad : Nat → Nat} (X : am_X M (D, cT, ad, NX, LX) cX6_makeNew RX6 4 none) {c0 : Nat} (hc0 : Is_X6 c0) {z : Unit × Sg} {k12 : Sg → Int32 → Option (Unit × Sg)} (hk12 : ∀ (σ : Sg) (x3 : Int32), k12 σ x3 = some z → am_At M { frames := 0, cells := 0, slots := 0, locals := 0 } (D, cT, ad, NX, LX) (amQv M (D, cT, ad, NX, LX) z) 4 12 [(0, .ref (ad c0)), (3, .int x3)] [] σ) (σ : Sg) (x3 : Int32) (h : f_X6_makeNew_b12 c0 k12 σ x3 = some z) : am_At M { frames := 0, cells := 0, slots := 0, locals := 0 } (D, cT, ad, NX, LX) (amQv M (D, cT, ad, NX, LX) z) 4 12 [(0, .ref (ad c0)), (3, .int x3)] [] σ := by
  unfold f_X6_makeNew_b12 at h
  refine r_iload_n X dX6_makeNew_12 rfl 1 rfl ?_
  refine r_bipush (v := 60) X dX6_makeNew_13 (by decide) ?_
  refine r_icmp_ge X 31 dX6_makeNew_15 (by decide) h (fun h => ?_) (fun h => ?_)
  · exact r_vretz X rfl dX6_makeNew_31 h
  · refine r_aload_n X dX6_makeNew_18 rfl 0 rfl ?_
    refine r_getR (c1 := (c0 + 1)) X fg_X6_9_X6 hc0.1 rfl dX6_makeNew_19 ?_
    refine r_iload_n X dX6_makeNew_22 rfl 1 rfl ?_
    refine r_iconst (v := 0) X dX6_makeNew_23 (by decide) ?_
    refine r_iast X hc0.2 dX6_makeNew_24 h (fun σ1 h => ?_)
    refine r_iinc X [(3, .int (x3 + (1 : Int32))), (0, .ref (ad c0))] dX6_makeNew_25 1 rfl (v := x3 + (1 : Int32)) (by rfl) (by decide) rfl ?_
    refine r_letv h (fun v2 h => ?_)
    refine r_goto X 12 dX6_makeNew_28 (by decide) ?_
    refine r_sub (lv' := [(0, .ref (ad c0)), (3, .int v2)]) [1, 0] rfl ?_
    exact hk12 σ1 v2 h
theorem t_X6_makeNew_l12 {M : am_M} {D : va_G} {cT : Nat → ClassId} {ad : Nat → Nat} (X : am_X M (D, cT, ad, NX, LX) cX6_makeNew RX6 4 none) {c0 : Nat} (hc0 : Is_X6 c0) {z : Unit × Sg} (n : Nat) : ∀ (σ : Sg) (x3 : Int32), f_X6_makeNew_l12 c0 n σ x3 = some z → am_At M { frames := 0, cells := 0, slots := 0, locals := 0 } (D, cT, ad, NX, LX) (amQv M (D, cT, ad, NX, LX) z) 4 12 [(0, .ref (ad c0)), (3, .int x3)] [] σ := by
  induction n with
  | zero =>
    intro σ x3 h
    have h2 : (none : Option (Unit × Sg)) = some z := h
    cases h2
  | succ n ih =>
    intro σ x3 h
    exact t_X6_makeNew_b12 X hc0 (k12 := f_X6_makeNew_l12 c0 n) ih σ x3 h
set_option maxRecDepth 100000 in
set_option maxHeartbeats 4000000 in
theorem c_X6_makeNew (l : Launch) {c0 : Nat} (hc0 : Is_X6 c0) {σ : Sg} {a1 : Int32} {a2 : Int32} {z : Unit × Sg} (h : f_X6_makeNew c0 σ a1 a2 = some z) : am_Met l yX6_makeNew cX6_makeNew 4 none { frames := 0, cells := 0, slots := 0, locals := 0 } NX LX (fun ad => [.ref (ad c0), .int a1, .int a2]) σ z.2 (fun _ => none) := by
  refine am_enter (by decide +kernel) (fun ad => Nat.le_of_ble_eq_true rfl) (fun M D cT ad hl X => ?_)
  subst hl
  refine r_lv (lv' := [(0, .ref (ad c0)), (1, .int a1), (2, .int a2)]) rfl ?_
  unfold f_X6_makeNew at h
  refine r_aload_n X dX6_makeNew_0 rfl 0 rfl ?_
  refine r_iload_n X dX6_makeNew_1 rfl 1 rfl ?_
  refine r_putI X fp_X6_15_X6 hc0.1 rfl dX6_makeNew_2 h (fun σ1 h => ?_)
  refine r_aload_n X dX6_makeNew_5 rfl 0 rfl ?_
  refine r_iload_n X dX6_makeNew_6 rfl 2 rfl ?_
  refine r_putI X fp_X6_19_X6 hc0.1 rfl dX6_makeNew_7 h (fun σ2 h => ?_)
  refine r_iconst (v := 0) X dX6_makeNew_10 (by decide) ?_
  refine r_istore_n X [(3, .int (0 : Int32)), (0, .ref (ad c0)), (1, .int a1), (2, .int a2)] dX6_makeNew_11 rfl (by decide) rfl ?_
  refine r_sub (lv' := [(0, .ref (ad c0)), (3, .int (0 : Int32))]) [1, 0] rfl ?_
  exact t_X6_makeNew_l12 X hc0 300 σ2 (0 : Int32) h
set_option maxRecDepth 100000 in
set_option maxHeartbeats 4000000 in
theorem c_X9_sheet (l : Launch) {σ : Sg} {a1 : Int32} {a2 : Int32} {a3 : Int32} {z : Int32 × Sg} (h : f_X9_sheet σ a1 a2 a3 = some z) : am_Met l yX9_sheet cX9_sheet 4 (some .int) { frames := 1, cells := 0, slots := 0, locals := 23 } NX LX (fun ad => [.ref (ad 0), .int a1, .int a2, .int a3]) σ z.2 (fun _ => some (.int z.1)) := by
  refine am_enter (by decide +kernel) (fun ad => Nat.le_of_ble_eq_true rfl) (fun M D cT ad hl X => ?_)
  subst hl
  refine r_lv (lv' := [(0, .ref (ad 0)), (1, .int a1), (2, .int a2), (3, .int a3)]) rfl ?_
  unfold f_X9_sheet at h
  refine r_iload_n X dX9_sheet_0 rfl 1 rfl ?_
  refine r_iconst (v := 4) X dX9_sheet_1 (by decide) ?_
  obtain ⟨r1, σ2, hc_13, h⟩ := bnd_of h
  refine r_callS (As := [.int a1, .int (4 : Int32)]) (rest := []) (st2 := [.int r1]) X cv_X9_91 (c_X9_isBelow M.2.1 hc_13) rfl rfl rfl (Nat.le_of_ble_eq_true rfl) ⟨⟨rfl, rfl⟩, by decide, by decide⟩ dX9_sheet_2 ⟨rfl, rfl⟩ rfl ?_
  refine r_if_eq X 22 dX9_sheet_5 (by decide) h (fun h => ?_) (fun h => ?_)
  · refine r_bipush (v := -2) X dX9_sheet_22 (by decide) ?_
    exact r_iretz X rfl dX9_sheet_24 h
  · refine r_iload_n X dX9_sheet_8 rfl 2 rfl ?_
    refine r_iconst (v := 3) X dX9_sheet_9 (by decide) ?_
    obtain ⟨r3, σ4, hc_12, h⟩ := bnd_of h
    refine r_callS (As := [.int a2, .int (3 : Int32)]) (rest := []) (st2 := [.int r3]) X cv_X9_91 (c_X9_isBelow M.2.1 hc_12) rfl rfl rfl (Nat.le_of_ble_eq_true rfl) ⟨⟨rfl, rfl⟩, by decide, by decide⟩ dX9_sheet_10 ⟨rfl, rfl⟩ rfl ?_
    refine r_if_eq X 22 dX9_sheet_13 (by decide) h (fun h => ?_) (fun h => ?_)
    · refine r_bipush (v := -2) X dX9_sheet_22 (by decide) ?_
      exact r_iretz X rfl dX9_sheet_24 h
    · refine r_iload_n X dX9_sheet_16 rfl 3 rfl ?_
      refine r_bipush (v := 60) X dX9_sheet_17 (by decide) ?_
      refine r_icmp_le X 25 dX9_sheet_19 (by decide) h (fun h => ?_) (fun h => ?_)
      · refine r_iload_n X dX9_sheet_25 rfl 3 rfl ?_
        refine r_if_ge X 35 dX9_sheet_26 (by decide) h (fun h => ?_) (fun h => ?_)
        · refine r_aload_n X dX9_sheet_35 rfl 0 rfl ?_
          refine r_getR (c1 := 45) X fg_X9_75_X9 fX_0 rfl dX9_sheet_36 ?_
          refine r_iload_n X dX9_sheet_39 rfl 1 rfl ?_
          refine r_aald X fX_45 dX9_sheet_40 h (fun h => ?_)
          refine r_letr (v := 46 + 2 * (a1).toNatClampNeg) h (fun r5 h => ?_)
          obtain ⟨gr5, h⟩ := gd_of h
          have fr5 := isX6_of gr5
          refine r_iload_n X dX9_sheet_41 rfl 2 rfl ?_
          refine r_iload_n X dX9_sheet_42 rfl 3 rfl ?_
          obtain ⟨r6, σ7, hc_8, h⟩ := bnd_of h
          refine r_callV (As := [.int a2, .int a3]) (rest := []) (st2 := []) (c := r5) X cv_X9_270 (c_X6_makeNew M.2.1 fr5 hc_8) rfl (ci := 5) rfl fr5.1 rfl rfl (Nat.le_of_ble_eq_true rfl) ⟨⟨rfl, rfl⟩, by decide, by decide⟩ dX9_sheet_43 ⟨rfl, rfl⟩ rfl ?_
          refine r_iload_n X dX9_sheet_46 rfl 3 rfl ?_
          exact r_iretz X rfl dX9_sheet_47 h
        · refine r_aload_n X dX9_sheet_29 rfl 0 rfl ?_
          refine r_iconst (v := 5) X dX9_sheet_30 (by decide) ?_
          obtain ⟨r9, σ10, hc_11, h⟩ := bnd_of h
          refine r_callV (As := [.int (5 : Int32)]) (rest := []) (st2 := [.int r9]) (c := 0) X cv_X9_151 (c_X9_find M.2.1 hc_11) rfl (ci := 8) rfl fX_0 rfl rfl (Nat.le_of_ble_eq_true rfl) ⟨⟨rfl, rfl⟩, by decide, by decide⟩ dX9_sheet_31 ⟨rfl, rfl⟩ rfl ?_
          exact r_iretz X rfl dX9_sheet_34 h
      · refine r_bipush (v := -2) X dX9_sheet_22 (by decide) ?_
        exact r_iretz X rfl dX9_sheet_24 h
set_option maxRecDepth 100000 in
set_option maxHeartbeats 4000000 in
theorem c_X9_lose (l : Launch) {σ : Sg} {a1 : Int32} {z : Int32 × Sg} (h : f_X9_lose σ a1 = some z) : am_Met l yX9_lose cX9_lose 4 (some .int) { frames := 1, cells := 0, slots := 0, locals := 21 } NX LX (fun ad => [.ref (ad 0), .int a1]) σ z.2 (fun _ => some (.int z.1)) := by
  refine am_enter (by decide +kernel) (fun ad => Nat.le_of_ble_eq_true rfl) (fun M D cT ad hl X => ?_)
  subst hl
  refine r_lv (lv' := [(0, .ref (ad 0)), (1, .int a1)]) rfl ?_
  unfold f_X9_lose at h
  refine r_iload_n X dX9_lose_0 rfl 1 rfl ?_
  refine r_iconst (v := 4) X dX9_lose_1 (by decide) ?_
  obtain ⟨r1, σ2, hc_10, h⟩ := bnd_of h
  refine r_callS (As := [.int a1, .int (4 : Int32)]) (rest := []) (st2 := [.int r1]) X cv_X9_91 (c_X9_isBelow M.2.1 hc_10) rfl rfl rfl (Nat.le_of_ble_eq_true rfl) ⟨⟨rfl, rfl⟩, by decide, by decide⟩ dX9_lose_2 ⟨rfl, rfl⟩ rfl ?_
  refine r_if_ne X 11 dX9_lose_5 (by decide) h (fun h => ?_) (fun h => ?_)
  · refine r_bipush (v := -2) X dX9_lose_8 (by decide) ?_
    exact r_iretz X rfl dX9_lose_10 h
  · refine r_aload_n X dX9_lose_11 rfl 0 rfl ?_
    refine r_getR (c1 := 45) X fg_X9_75_X9 fX_0 rfl dX9_lose_12 ?_
    refine r_iload_n X dX9_lose_15 rfl 1 rfl ?_
    refine r_aald X fX_45 dX9_lose_16 h (fun h => ?_)
    refine r_letr (v := 46 + 2 * (a1).toNatClampNeg) h (fun r3 h => ?_)
    obtain ⟨gr3, h⟩ := gd_of h
    have fr3 := isX6_of gr3
    refine r_astore_n X [(2, .ref (ad r3)), (0, .ref (ad 0)), (1, .int a1)] dX9_lose_17 rfl (by decide) rfl ?_
    refine r_aload_n X dX9_lose_18 rfl 0 rfl ?_
    refine r_getI X fg_X9_148_X6 fr3.1 rfl dX9_lose_19 ?_
    refine r_iconst (v := -1) X dX9_lose_22 (by decide) ?_
    refine r_icmp_ne X 32 dX9_lose_23 (by decide) h (fun h => ?_) (fun h => ?_)
    · refine r_aload_n X dX9_lose_26 rfl 1 rfl ?_
      refine r_iconst (v := 1) X dX9_lose_27 (by decide) ?_
      obtain ⟨r7, σ8, hc_9, h⟩ := bnd_of h
      refine r_callV (As := [.int (1 : Int32)]) (rest := []) (st2 := [.int r7]) (c := 0) X cv_X9_151 (c_X9_find M.2.1 hc_9) rfl (ci := 8) rfl fX_0 rfl rfl (Nat.le_of_ble_eq_true rfl) ⟨⟨rfl, rfl⟩, by decide, by decide⟩ dX9_lose_28 ⟨rfl, rfl⟩ rfl ?_
      exact r_iretz X rfl dX9_lose_31 h
    · refine r_aload_n X dX9_lose_32 rfl 0 rfl ?_
      refine r_getI X fg_X9_155_X6 fr3.1 rfl dX9_lose_33 ?_
      refine r_leti h (fun v4 h => ?_)
      refine r_istore_n X [(3, .int v4), (2, .ref (ad r3)), (0, .ref (ad 0)), (1, .int a1)] dX9_lose_36 rfl (by decide) rfl ?_
      refine r_aload_n X dX9_lose_37 rfl 1 rfl ?_
      refine r_iconst (v := -1) X dX9_lose_38 (by decide) ?_
      refine r_putI X fp_X9_148_X6 fr3.1 rfl dX9_lose_39 h (fun σ5 h => ?_)
      refine r_aload_n X dX9_lose_42 rfl 1 rfl ?_
      refine r_iconst (v := 0) X dX9_lose_43 (by decide) ?_
      refine r_putI X fp_X9_155_X6 fr3.1 rfl dX9_lose_44 h (fun σ6 h => ?_)
      refine r_iload_n X dX9_lose_47 rfl 0 rfl ?_
      exact r_iretz X rfl dX9_lose_48 h
set_option maxRecDepth 100000 in
set_option maxHeartbeats 4000000 in
theorem c_X9_refuseItem (l : Launch) {σ : Sg} {a1 : Int32} {a2 : Int32} {a3 : Int32} {z : Int32 × Sg} (h : f_X9_refuseItem σ a1 a2 a3 = some z) : am_Met l yX9_refuseItem cX9_refuseItem 5 (some .int) { frames := 1, cells := 0, slots := 0, locals := 21 } NX LX (fun ad => [.ref (ad 0), .int a1, .int a2, .int a3]) σ z.2 (fun _ => some (.int z.1)) := by
  refine am_enter (by decide +kernel) (fun ad => Nat.le_of_ble_eq_true rfl) (fun M D cT ad hl X => ?_)
  subst hl
  refine r_lv (lv' := [(0, .ref (ad 0)), (1, .int a1), (2, .int a2), (3, .int a3)]) rfl ?_
  unfold f_X9_refuseItem at h
  refine r_iload_n X dX9_refuseItem_0 rfl 1 rfl ?_
  refine r_iconst (v := 4) X dX9_refuseItem_1 (by decide) ?_
  obtain ⟨r1, σ2, hc_19, h⟩ := bnd_of h
  refine r_callS (As := [.int a1, .int (4 : Int32)]) (rest := []) (st2 := [.int r1]) X cv_X9_91 (c_X9_isBelow M.2.1 hc_19) rfl rfl rfl (Nat.le_of_ble_eq_true rfl) ⟨⟨rfl, rfl⟩, by decide, by decide⟩ dX9_refuseItem_2 ⟨rfl, rfl⟩ rfl ?_
  refine r_if_eq X 16 dX9_refuseItem_5 (by decide) h (fun h => ?_) (fun h => ?_)
  · refine r_bipush (v := -2) X dX9_refuseItem_16 (by decide) ?_
    exact r_iretz X rfl dX9_refuseItem_18 h
  · refine r_iload_n X dX9_refuseItem_8 rfl 2 rfl ?_
    refine r_iconst (v := 3) X dX9_refuseItem_9 (by decide) ?_
    obtain ⟨r3, σ4, hc_18, h⟩ := bnd_of h
    refine r_callS (As := [.int a2, .int (3 : Int32)]) (rest := []) (st2 := [.int r3]) X cv_X9_91 (c_X9_isBelow M.2.1 hc_18) rfl rfl rfl (Nat.le_of_ble_eq_true rfl) ⟨⟨rfl, rfl⟩, by decide, by decide⟩ dX9_refuseItem_10 ⟨rfl, rfl⟩ rfl ?_
    refine r_if_ne X 19 dX9_refuseItem_13 (by decide) h (fun h => ?_) (fun h => ?_)
    · refine r_bipush (v := -2) X dX9_refuseItem_16 (by decide) ?_
      exact r_iretz X rfl dX9_refuseItem_18 h
    · refine r_aload_n X dX9_refuseItem_19 rfl 0 rfl ?_
      refine r_getR (c1 := 45) X fg_X9_75_X9 fX_0 rfl dX9_refuseItem_20 ?_
      refine r_iload_n X dX9_refuseItem_23 rfl 1 rfl ?_
      refine r_aald X fX_45 dX9_refuseItem_24 h (fun h => ?_)
      refine r_letr (v := 46 + 2 * (a1).toNatClampNeg) h (fun r5 h => ?_)
      obtain ⟨gr5, h⟩ := gd_of h
      have fr5 := isX6_of gr5
      refine r_astore X [(4, .ref (ad r5)), (0, .ref (ad 0)), (1, .int a1), (2, .int a2), (3, .int a3)] dX9_refuseItem_25 (by decide) rfl ?_
      refine r_aload X dX9_refuseItem_27 0 rfl ?_
      refine r_getI X fg_X9_148_X6 fr5.1 rfl dX9_refuseItem_29 ?_
      refine r_iconst (v := -1) X dX9_refuseItem_32 (by decide) ?_
      refine r_icmp_ne X 42 dX9_refuseItem_33 (by decide) h (fun h => ?_) (fun h => ?_)
      · refine r_aload_n X dX9_refuseItem_36 rfl 1 rfl ?_
        refine r_iconst (v := 1) X dX9_refuseItem_37 (by decide) ?_
        obtain ⟨r15, σ16, hc_17, h⟩ := bnd_of h
        refine r_callV (As := [.int (1 : Int32)]) (rest := []) (st2 := [.int r15]) (c := 0) X cv_X9_151 (c_X9_find M.2.1 hc_17) rfl (ci := 8) rfl fX_0 rfl rfl (Nat.le_of_ble_eq_true rfl) ⟨⟨rfl, rfl⟩, by decide, by decide⟩ dX9_refuseItem_38 ⟨rfl, rfl⟩ rfl ?_
        exact r_iretz X rfl dX9_refuseItem_41 h
      · refine r_aload X dX9_refuseItem_42 0 rfl ?_
        refine r_getI X fg_X9_148_X6 fr5.1 rfl dX9_refuseItem_44 ?_
        refine r_iload_n X dX9_refuseItem_47 rfl 3 rfl ?_
        refine r_icmp_eq X 57 dX9_refuseItem_48 (by decide) h (fun h => ?_) (fun h => ?_)
        · refine r_iload_n X dX9_refuseItem_57 rfl 4 rfl ?_
          refine r_aload X dX9_refuseItem_58 0 rfl ?_
          refine r_getI X fg_X9_155_X6 fr5.1 rfl dX9_refuseItem_60 ?_
          obtain ⟨r6, σ7, hc_11, h⟩ := bnd_of h
          refine r_callS (As := [.int a3, .int (σ4 r5 2)]) (rest := []) (st2 := [.int r6]) X cv_X9_91 (c_X9_isBelow M.2.1 hc_11) rfl rfl rfl (Nat.le_of_ble_eq_true rfl) ⟨⟨rfl, rfl⟩, by decide, by decide⟩ dX9_refuseItem_63 ⟨rfl, rfl⟩ rfl ?_
          refine r_if_eq X 73 dX9_refuseItem_66 (by decide) h (fun h => ?_) (fun h => ?_)
          · refine r_aload_n X dX9_refuseItem_73 rfl 1 rfl ?_
            refine r_iconst (v := 2) X dX9_refuseItem_74 (by decide) ?_
            obtain ⟨r8, σ9, hc_10, h⟩ := bnd_of h
            refine r_callV (As := [.int (2 : Int32)]) (rest := []) (st2 := [.int r8]) (c := 0) X cv_X9_151 (c_X9_find M.2.1 hc_10) rfl (ci := 8) rfl fX_0 rfl rfl (Nat.le_of_ble_eq_true rfl) ⟨⟨rfl, rfl⟩, by decide, by decide⟩ dX9_refuseItem_75 ⟨rfl, rfl⟩ rfl ?_
            exact r_iretz X rfl dX9_refuseItem_78 h
          · refine r_iconst (v := 0) X dX9_refuseItem_69 (by decide) ?_
            refine r_goto X 78 dX9_refuseItem_70 (by decide) ?_
            exact r_iretz X rfl dX9_refuseItem_78 h
        · refine r_aload_n X dX9_refuseItem_51 rfl 1 rfl ?_
          refine r_iconst (v := 3) X dX9_refuseItem_52 (by decide) ?_
          obtain ⟨r12, σ13, hc_14, h⟩ := bnd_of h
          refine r_callV (As := [.int (3 : Int32)]) (rest := []) (st2 := [.int r12]) (c := 0) X cv_X9_151 (c_X9_find M.2.1 hc_14) rfl (ci := 8) rfl fX_0 rfl rfl (Nat.le_of_ble_eq_true rfl) ⟨⟨rfl, rfl⟩, by decide, by decide⟩ dX9_refuseItem_53 ⟨rfl, rfl⟩ rfl ?_
          exact r_iretz X rfl dX9_refuseItem_56 h
set_option maxRecDepth 100000 in
set_option maxHeartbeats 4000000 in
theorem c_X6_narrowed (l : Launch) {c0 : Nat} (hc0 : Is_X6 c0) {σ : Sg} {a1 : Int32} {z : Int32 × Sg} (h : f_X6_narrowed c0 σ a1 = some z) : am_Met l yX6_narrowed cX6_narrowed 2 (some .int) { frames := 0, cells := 0, slots := 0, locals := 0 } NX LX (fun ad => [.ref (ad c0), .int a1]) σ z.2 (fun _ => some (.int z.1)) := by
  refine am_enter (by decide +kernel) (fun ad => Nat.le_of_ble_eq_true rfl) (fun M D cT ad hl X => ?_)
  subst hl
  refine r_lv (lv' := [(0, .ref (ad c0)), (1, .int a1)]) rfl ?_
  unfold f_X6_narrowed at h
  refine r_aload_n X dX6_narrowed_0 rfl 0 rfl ?_
  refine r_getI X fg_X6_15_X6 hc0.1 rfl dX6_narrowed_1 ?_
  obtain ⟨hA, hB⟩ := ite_of h
  by_cases q4_0 : (σ c0 1) = 0
  · have h := hA q4_0
    refine r_lookup X 32 dX6_narrowed_4 (by decide) (show Op.lookupswitch.offset [(0, 28), (1, 31)] 34 _ = 28 from by rw [q4_0]; rfl) (by decide) ?_
    refine r_iload_n X dX6_narrowed_32 rfl 1 rfl ?_
    refine r_i2b X dX6_narrowed_33 ?_
    exact r_iretz X rfl dX6_narrowed_34 h
  · have h := hB q4_0
    obtain ⟨hA, hB⟩ := ite_of h
    by_cases q4_1 : (σ c0 1) = 1
    · have h := hA q4_1
      refine r_lookup X 35 dX6_narrowed_4 (by decide) (show Op.lookupswitch.offset [(0, 28), (1, 31)] 34 _ = 31 from by rw [q4_1]; rfl) (by decide) ?_
      refine r_iload_n X dX6_narrowed_35 rfl 1 rfl ?_
      refine r_i2s X dX6_narrowed_36 ?_
      exact r_iretz X rfl dX6_narrowed_37 h
    · have h := hB q4_1
      refine r_lookup X 38 dX6_narrowed_4 (by decide) (show Op.lookupswitch.offset [(0, 28), (1, 31)] 34 _ = 34 from by rw [lv_osw q4_0 (k := 0) (by decide), lv_osw q4_1 (k := 1) (by decide)]; rfl) (by decide) ?_
      refine r_iload_n X dX6_narrowed_38 rfl 1 rfl ?_
      exact r_iretz X rfl dX6_narrowed_39 h
set_option maxRecDepth 100000 in
set_option maxHeartbeats 4000000 in
theorem c_X6_setItem (l : Launch) {c0 : Nat} (hc0 : Is_X6 c0) {σ : Sg} {a1 : Int32} {a2 : Int32} {z : Unit × Sg} (h : f_X6_setItem c0 σ a1 a2 = some z) : am_Met l yX6_setItem cX6_setItem 3 none { frames := 1, cells := 0, slots := 0, locals := 21 } NX LX (fun ad => [.ref (ad c0), .int a1, .int a2]) σ z.2 (fun _ => none) := by
  refine am_enter (by decide +kernel) (fun ad => Nat.le_of_ble_eq_true rfl) (fun M D cT ad hl X => ?_)
  subst hl
  refine r_lv (lv' := [(0, .ref (ad c0)), (1, .int a1), (2, .int a2)]) rfl ?_
  unfold f_X6_setItem at h
  refine r_iload_n X dX6_setItem_0 rfl 1 rfl ?_
  refine r_aload_n X dX6_setItem_1 rfl 0 rfl ?_
  refine r_getI X fg_X6_19_X6 hc0.1 rfl dX6_setItem_2 ?_
  obtain ⟨r1, σ2, hc_7, h⟩ := bnd_of h
  refine r_callN (As := [.int a1, .int (σ c0 2)]) (rest := []) (st2 := [.int r1]) X cv_X6_22 (c_X9_isBelow M.2.1 hc_7) rfl rfl rfl (Nat.le_of_ble_eq_true rfl) ⟨⟨rfl, rfl⟩, by decide, by decide⟩ dX6_setItem_5 ⟨rfl, rfl⟩ rfl ?_
  refine r_if_eq X 22 dX6_setItem_8 (by decide) h (fun h => ?_) (fun h => ?_)
  · exact r_vretz X rfl dX6_setItem_22 h
  · refine r_aload_n X dX6_setItem_11 rfl 0 rfl ?_
    refine r_getR (c1 := (c0 + 1)) X fg_X6_9_X6 hc0.1 rfl dX6_setItem_12 ?_
    refine r_iload_n X dX6_setItem_15 rfl 1 rfl ?_
    refine r_aload_n X dX6_setItem_16 rfl 0 rfl ?_
    refine r_iload_n X dX6_setItem_17 rfl 2 rfl ?_
    obtain ⟨r3, σ4, hc_6, h⟩ := bnd_of h
    refine r_callV (As := [.int a2]) (rest := [.int a1, .ref (ad (c0 + 1))]) (st2 := [.int r3, .int a1, .ref (ad (c0 + 1))]) (c := c0) X cv_X6_26 (c_X6_narrowed M.2.1 hc0 hc_6) rfl (ci := 5) rfl hc0.1 rfl rfl (Nat.le_of_ble_eq_true rfl) ⟨⟨rfl, rfl⟩, by decide, by decide⟩ dX6_setItem_18 ⟨rfl, rfl⟩ rfl ?_
    refine r_iast X hc0.2 dX6_setItem_21 h (fun σ5 h => ?_)
    exact r_vretz X rfl dX6_setItem_22 h
set_option maxRecDepth 100000 in
set_option maxHeartbeats 4000000 in
theorem c_X9_put (l : Launch) {σ : Sg} {a1 : Int32} {a2 : Int32} {a3 : Int32} {a4 : Int32} {z : Int32 × Sg} (h : f_X9_put σ a1 a2 a3 a4 = some z) : am_Met l yX9_put cX9_put 6 (some .int) { frames := 2, cells := 0, slots := 0, locals := 45 } NX LX (fun ad => [.ref (ad 0), .int a1, .int a2, .int a3, .int a4]) σ z.2 (fun _ => some (.int z.1)) := by
  refine am_enter (by decide +kernel) (fun ad => Nat.le_of_ble_eq_true rfl) (fun M D cT ad hl X => ?_)
  subst hl
  refine r_lv (lv' := [(0, .ref (ad 0)), (1, .int a1), (2, .int a2), (3, .int a3), (4, .int a4)]) rfl ?_
  unfold f_X9_put at h
  refine r_aload_n X dX9_put_0 rfl 0 rfl ?_
  refine r_iload_n X dX9_put_1 rfl 1 rfl ?_
  refine r_iload_n X dX9_put_2 rfl 2 rfl ?_
  refine r_iload_n X dX9_put_3 rfl 3 rfl ?_
  obtain ⟨r1, σ2, hc_7, h⟩ := bnd_of h
  refine r_callV (As := [.int a1, .int a2, .int a3]) (rest := []) (st2 := [.int r1]) (c := 0) X cv_X9_273 (c_X9_refuseItem M.2.1 hc_7) rfl (ci := 8) rfl fX_0 rfl rfl (Nat.le_of_ble_eq_true rfl) ⟨⟨rfl, rfl⟩, by decide, by decide⟩ dX9_put_4 ⟨rfl, rfl⟩ rfl ?_
  refine r_istore X [(5, .int r1), (0, .ref (ad 0)), (1, .int a1), (2, .int a2), (3, .int a3), (4, .int a4)] dX9_put_7 (by decide) rfl ?_
  refine r_iload X dX9_put_9 0 rfl ?_
  refine r_if_eq X 17 dX9_put_11 (by decide) h (fun h => ?_) (fun h => ?_)
  · refine r_aload_n X dX9_put_17 rfl 1 rfl ?_
    refine r_getR (c1 := 45) X fg_X9_75_X9 fX_0 rfl dX9_put_18 ?_
    refine r_iload_n X dX9_put_21 rfl 2 rfl ?_
    refine r_aald X fX_45 dX9_put_22 h (fun h => ?_)
    refine r_letr (v := 46 + 2 * (a1).toNatClampNeg) h (fun r3 h => ?_)
    obtain ⟨gr3, h⟩ := gd_of h
    have fr3 := isX6_of gr3
    refine r_iload_n X dX9_put_23 rfl 4 rfl ?_
    refine r_iload X dX9_put_24 5 rfl ?_
    obtain ⟨r4, σ5, hc_6, h⟩ := bnd_of h
    refine r_callV (As := [.int a3, .int a4]) (rest := []) (st2 := []) (c := r3) X cv_X9_276 (c_X6_setItem M.2.1 fr3 hc_6) rfl (ci := 5) rfl fr3.1 rfl rfl (Nat.le_of_ble_eq_true rfl) ⟨⟨rfl, rfl⟩, by decide, by decide⟩ dX9_put_26 ⟨rfl, rfl⟩ rfl ?_
    refine r_iconst (v := 1) X dX9_put_29 (by decide) ?_
    exact r_iretz X rfl dX9_put_30 h
  · refine r_iload X dX9_put_14 0 rfl ?_
    exact r_iretz X rfl dX9_put_16 h
set_option maxRecDepth 100000 in
set_option maxHeartbeats 4000000 in
theorem c_X9_get (l : Launch) {σ : Sg} {a1 : Int32} {a2 : Int32} {a3 : Int32} {z : Int32 × Sg} (h : f_X9_get σ a1 a2 a3 = some z) : am_Met l yX9_get cX9_get 4 (some .int) { frames := 2, cells := 0, slots := 0, locals := 45 } NX LX (fun ad => [.ref (ad 0), .int a1, .int a2, .int a3]) σ z.2 (fun _ => some (.int z.1)) := by
  refine am_enter (by decide +kernel) (fun ad => Nat.le_of_ble_eq_true rfl) (fun M D cT ad hl X => ?_)
  subst hl
  refine r_lv (lv' := [(0, .ref (ad 0)), (1, .int a1), (2, .int a2), (3, .int a3)]) rfl ?_
  unfold f_X9_get at h
  refine r_aload_n X dX9_get_0 rfl 0 rfl ?_
  refine r_iload_n X dX9_get_1 rfl 1 rfl ?_
  refine r_iload_n X dX9_get_2 rfl 2 rfl ?_
  refine r_iload_n X dX9_get_3 rfl 3 rfl ?_
  obtain ⟨r1, σ2, hc_4, h⟩ := bnd_of h
  refine r_callV (As := [.int a1, .int a2, .int a3]) (rest := []) (st2 := [.int r1]) (c := 0) X cv_X9_273 (c_X9_refuseItem M.2.1 hc_4) rfl (ci := 8) rfl fX_0 rfl rfl (Nat.le_of_ble_eq_true rfl) ⟨⟨rfl, rfl⟩, by decide, by decide⟩ dX9_get_4 ⟨rfl, rfl⟩ rfl ?_
  refine r_if_eq X 14 dX9_get_7 (by decide) h (fun h => ?_) (fun h => ?_)
  · refine r_aload_n X dX9_get_14 rfl 0 rfl ?_
    refine r_getR (c1 := 45) X fg_X9_75_X9 fX_0 rfl dX9_get_15 ?_
    refine r_iload_n X dX9_get_18 rfl 1 rfl ?_
    refine r_aald X fX_45 dX9_get_19 h (fun h => ?_)
    refine r_letr (v := 46 + 2 * (a1).toNatClampNeg) h (fun r3 h => ?_)
    obtain ⟨gr3, h⟩ := gd_of h
    have fr3 := isX6_of gr3
    refine r_getR (c1 := (r3 + 1)) X fg_X9_156_X6 fr3.1 rfl dX9_get_20 ?_
    refine r_iload_n X dX9_get_23 rfl 3 rfl ?_
    refine r_iald X fr3.2 dX9_get_24 h (fun h => ?_)
    exact r_iretz X rfl dX9_get_25 h
  · refine r_ldcw (v := (-2147483648)) X dX9_get_10 bw_406 ?_
    exact r_iretz X rfl dX9_get_13 h
set_option maxRecDepth 100000 in
set_option maxHeartbeats 4000000 in
theorem c_X6_hasSpan (l : Launch) {c0 : Nat} (hc0 : Is_X6 c0) {σ : Sg} {a1 : Int32} {a2 : Int32} {z : Int32 × Sg} (h : f_X6_hasSpan c0 σ a1 a2 = some z) : am_Met l yX6_hasSpan cX6_hasSpan 3 (some .boolean) { frames := 0, cells := 0, slots := 0, locals := 0 } NX LX (fun ad => [.ref (ad c0), .int a1, .int a2]) σ z.2 (fun _ => some (.int z.1)) := by
  refine am_enter (by decide +kernel) (fun ad => Nat.le_of_ble_eq_true rfl) (fun M D cT ad hl X => ?_)
  subst hl
  refine r_lv (lv' := [(0, .ref (ad c0)), (1, .int a1), (2, .int a2)]) rfl ?_
  unfold f_X6_hasSpan at h
  refine r_iload_n X dX6_hasSpan_0 rfl 1 rfl ?_
  refine r_if_lt X 30 dX6_hasSpan_1 (by decide) h (fun h => ?_) (fun h => ?_)
  · refine r_iconst (v := 0) X dX6_hasSpan_30 (by decide) ?_
    exact r_zretz X rfl (by decide) dX6_hasSpan_31 h
  · refine r_iload_n X dX6_hasSpan_4 rfl 2 rfl ?_
    refine r_if_lt X 30 dX6_hasSpan_5 (by decide) h (fun h => ?_) (fun h => ?_)
    · refine r_iconst (v := 0) X dX6_hasSpan_30 (by decide) ?_
      exact r_zretz X rfl (by decide) dX6_hasSpan_31 h
    · refine r_iload_n X dX6_hasSpan_8 rfl 2 rfl ?_
      refine r_aload_n X dX6_hasSpan_9 rfl 0 rfl ?_
      refine r_getI X fg_X6_19_X6 hc0.1 rfl dX6_hasSpan_10 ?_
      refine r_icmp_gt X 30 dX6_hasSpan_13 (by decide) h (fun h => ?_) (fun h => ?_)
      · refine r_iconst (v := 0) X dX6_hasSpan_30 (by decide) ?_
        exact r_zretz X rfl (by decide) dX6_hasSpan_31 h
      · refine r_iload_n X dX6_hasSpan_16 rfl 1 rfl ?_
        refine r_aload_n X dX6_hasSpan_17 rfl 0 rfl ?_
        refine r_getI X fg_X6_19_X6 hc0.1 rfl dX6_hasSpan_18 ?_
        refine r_iload_n X dX6_hasSpan_21 rfl 2 rfl ?_
        refine r_isub X dX6_hasSpan_22 ?_
        refine r_icmp_gt X 30 dX6_hasSpan_23 (by decide) h (fun h => ?_) (fun h => ?_)
        · refine r_iconst (v := 0) X dX6_hasSpan_30 (by decide) ?_
          exact r_zretz X rfl (by decide) dX6_hasSpan_31 h
        · refine r_iconst (v := 1) X dX6_hasSpan_26 (by decide) ?_
          refine r_goto X 31 dX6_hasSpan_27 (by decide) ?_
          exact r_zretz X rfl (by decide) dX6_hasSpan_31 h
set_option maxRecDepth 100000 in
set_option maxHeartbeats 4000000 in
theorem t_X9_copy_b53 {M : am_M} {D : va_G} {cT : Nat → ClassId} {ad : Nat → Nat} (X : am_X M (D, cT, ad, NX, LX) cX9_copy RX9 8 (some .int)) {z : Int32 × Sg} (σ : Sg) (h : f_X9_copy_b53 σ = some z) : am_At M { frames := 1, cells := 0, slots := 0, locals := 60 } (D, cT, ad, NX, LX) (amQi M (D, cT, ad, NX, LX) z) 8 53 [(0, .ref (ad 0))] [] σ := by
  unfold f_X9_copy_b53 at h
  refine r_aload_n X dX9_copy_53 rfl 0 rfl ?_
  refine r_iconst (v := 1) X dX9_copy_54 (by decide) ?_
  obtain ⟨r1, σ2, hc_3, h⟩ := bnd_of h
  refine r_callV (As := [.int (1 : Int32)]) (rest := []) (st2 := [.int r1]) (c := 0) X cv_X9_151 (c_X9_find M.2.1 hc_3) rfl (ci := 8) rfl fX_0 rfl rfl (Nat.le_of_ble_eq_true rfl) ⟨⟨rfl, rfl⟩, by decide, by decide⟩ dX9_copy_55 ⟨rfl, rfl⟩ rfl ?_
  exact r_iretz X rfl dX9_copy_58 h
set_option maxRecDepth 100000 in
set_option maxHeartbeats 4000000 in
theorem t_X9_copy_b101 {M : am_M} {D : va_G} {cT : Nat → ClassId} {ad : Nat → Nat} (X : am_X M (D, cT, ad, NX, LX) cX9_copy RX9 8 (some .int)) {z : Int32 × Sg} (σ : Sg) (h : f_X9_copy_b101 σ = some z) : am_At M { frames := 1, cells := 0, slots := 0, locals := 60 } (D, cT, ad, NX, LX) (amQi M (D, cT, ad, NX, LX) z) 8 101 [(0, .ref (ad 0))] [] σ := by
  unfold f_X9_copy_b101 at h
  refine r_aload_n X dX9_copy_101 rfl 0 rfl ?_
  refine r_iconst (v := 2) X dX9_copy_102 (by decide) ?_
  obtain ⟨r1, σ2, hc_3, h⟩ := bnd_of h
  refine r_callV (As := [.int (2 : Int32)]) (rest := []) (st2 := [.int r1]) (c := 0) X cv_X9_151 (c_X9_find M.2.1 hc_3) rfl (ci := 8) rfl fX_0 rfl rfl (Nat.le_of_ble_eq_true rfl) ⟨⟨rfl, rfl⟩, by decide, by decide⟩ dX9_copy_103 ⟨rfl, rfl⟩ rfl ?_
  exact r_iretz X rfl dX9_copy_106 h
set_option maxRecDepth 100000 in
set_option maxHeartbeats 4000000 in
theorem c_X9_copy (l : Launch) {σ : Sg} {a1 : Int32} {a2 : Int32} {a3 : Int32} {a4 : Int32} {a5 : Int32} {z : Int32 × Sg} (h : f_X9_copy σ a1 a2 a3 a4 a5 = some z) : am_Met l yX9_copy cX9_copy 8 (some .int) { frames := 1, cells := 0, slots := 0, locals := 60 } NX LX (fun ad => [.ref (ad 0), .int a1, .int a2, .int a3, .int a4, .int a5]) σ z.2 (fun _ => some (.int z.1)) := by
  refine am_enter (by decide +kernel) (fun ad => Nat.le_of_ble_eq_true rfl) (fun M D cT ad hl X => ?_)
  subst hl
  refine r_lv (lv' := [(0, .ref (ad 0)), (1, .int a1), (2, .int a2), (3, .int a3), (4, .int a4), (5, .int a5)]) rfl ?_
  unfold f_X9_copy at h
  refine r_iload_n X dX9_copy_0 rfl 1 rfl ?_
  refine r_iconst (v := 4) X dX9_copy_1 (by decide) ?_
  obtain ⟨r1, σ2, hc_18, h⟩ := bnd_of h
  refine r_callS (As := [.int a1, .int (4 : Int32)]) (rest := []) (st2 := [.int r1]) X cv_X9_91 (c_X9_isBelow M.2.1 hc_18) rfl rfl rfl (Nat.le_of_ble_eq_true rfl) ⟨⟨rfl, rfl⟩, by decide, by decide⟩ dX9_copy_2 ⟨rfl, rfl⟩ rfl ?_
  refine r_if_eq X 16 dX9_copy_5 (by decide) h (fun h => ?_) (fun h => ?_)
  · refine r_bipush (v := -2) X dX9_copy_16 (by decide) ?_
    exact r_iretz X rfl dX9_copy_18 h
  · refine r_iload_n X dX9_copy_8 rfl 3 rfl ?_
    refine r_iconst (v := 4) X dX9_copy_9 (by decide) ?_
    obtain ⟨r3, σ4, hc_17, h⟩ := bnd_of h
    refine r_callS (As := [.int a3, .int (4 : Int32)]) (rest := []) (st2 := [.int r3]) X cv_X9_91 (c_X9_isBelow M.2.1 hc_17) rfl rfl rfl (Nat.le_of_ble_eq_true rfl) ⟨⟨rfl, rfl⟩, by decide, by decide⟩ dX9_copy_10 ⟨rfl, rfl⟩ rfl ?_
    refine r_if_ne X 19 dX9_copy_13 (by decide) h (fun h => ?_) (fun h => ?_)
    · refine r_bipush (v := -2) X dX9_copy_16 (by decide) ?_
      exact r_iretz X rfl dX9_copy_18 h
    · refine r_aload_n X dX9_copy_19 rfl 0 rfl ?_
      refine r_getR (c1 := 45) X fg_X9_75_X9 fX_0 rfl dX9_copy_20 ?_
      refine r_iload_n X dX9_copy_23 rfl 1 rfl ?_
      refine r_aald X fX_45 dX9_copy_24 h (fun h => ?_)
      refine r_letr (v := 46 + 2 * (a1).toNatClampNeg) h (fun r5 h => ?_)
      obtain ⟨gr5, h⟩ := gd_of h
      have fr5 := isX6_of gr5
      refine r_astore X [(6, .ref (ad r5)), (0, .ref (ad 0)), (1, .int a1), (2, .int a2), (3, .int a3), (4, .int a4), (5, .int a5)] dX9_copy_25 (by decide) rfl ?_
      refine r_aload_n X dX9_copy_27 rfl 1 rfl ?_
      refine r_getR (c1 := 45) X fg_X9_75_X9 fX_0 rfl dX9_copy_28 ?_
      refine r_iload_n X dX9_copy_31 rfl 4 rfl ?_
      refine r_aald X fX_45 dX9_copy_32 h (fun h => ?_)
      refine r_letr (v := 46 + 2 * (a3).toNatClampNeg) h (fun r6 h => ?_)
      obtain ⟨gr6, h⟩ := gd_of h
      have fr6 := isX6_of gr6
      refine r_astore X [(7, .ref (ad r6)), (6, .ref (ad r5)), (0, .ref (ad 0)), (1, .int a1), (2, .int a2), (3, .int a3), (4, .int a4), (5, .int a5)] dX9_copy_33 (by decide) rfl ?_
      refine r_aload X dX9_copy_35 1 rfl ?_
      refine r_getI X fg_X9_148_X6 fr5.1 rfl dX9_copy_37 ?_
      refine r_iconst (v := -1) X dX9_copy_40 (by decide) ?_
      refine r_icmp_eq X 53 dX9_copy_41 (by decide) h (fun h => ?_) (fun h => ?_)
      · refine r_sub (lv' := [(0, .ref (ad 0))]) [2] rfl ?_
        exact t_X9_copy_b53 X σ4 h
      · refine r_aload X dX9_copy_44 0 rfl ?_
        refine r_getI X fg_X9_148_X6 fr6.1 rfl dX9_copy_46 ?_
        refine r_iconst (v := -1) X dX9_copy_49 (by decide) ?_
        refine r_icmp_ne X 59 dX9_copy_50 (by decide) h (fun h => ?_) (fun h => ?_)
        · refine r_sub (lv' := [(0, .ref (ad 0))]) [2] rfl ?_
          exact t_X9_copy_b53 X σ4 h
        · refine r_aload X dX9_copy_59 1 rfl ?_
          refine r_getI X fg_X9_148_X6 fr5.1 rfl dX9_copy_61 ?_
          refine r_aload X dX9_copy_64 0 rfl ?_
          refine r_getI X fg_X9_148_X6 fr6.1 rfl dX9_copy_66 ?_
          refine r_icmp_eq X 78 dX9_copy_69 (by decide) h (fun h => ?_) (fun h => ?_)
          · refine r_aload X dX9_copy_78 1 rfl ?_
            refine r_iload_n X dX9_copy_80 rfl 4 rfl ?_
            refine r_iload X dX9_copy_81 7 rfl ?_
            obtain ⟨r7, σ8, hc_13, h⟩ := bnd_of h
            refine r_callV (As := [.int a2, .int a5]) (rest := []) (st2 := [.int r7]) (c := r5) X cv_X9_280 (c_X6_hasSpan M.2.1 fr5 hc_13) rfl (ci := 5) rfl fr5.1 rfl rfl (Nat.le_of_ble_eq_true rfl) ⟨⟨rfl, rfl⟩, by decide, by decide⟩ dX9_copy_83 ⟨rfl, rfl⟩ rfl ?_
            refine r_if_eq X 101 dX9_copy_86 (by decide) h (fun h => ?_) (fun h => ?_)
            · refine r_sub (lv' := [(0, .ref (ad 0))]) [2] rfl ?_
              exact t_X9_copy_b101 X σ8 h
            · refine r_aload X dX9_copy_89 0 rfl ?_
              refine r_iload X dX9_copy_91 6 rfl ?_
              refine r_iload X dX9_copy_93 7 rfl ?_
              obtain ⟨r9, σ10, hc_12, h⟩ := bnd_of h
              refine r_callV (As := [.int a4, .int a5]) (rest := []) (st2 := [.int r9]) (c := r6) X cv_X9_280 (c_X6_hasSpan M.2.1 fr6 hc_12) rfl (ci := 5) rfl fr6.1 rfl rfl (Nat.le_of_ble_eq_true rfl) ⟨⟨rfl, rfl⟩, by decide, by decide⟩ dX9_copy_95 ⟨rfl, rfl⟩ rfl ?_
              refine r_if_ne X 107 dX9_copy_98 (by decide) h (fun h => ?_) (fun h => ?_)
              · refine r_sub (lv' := [(0, .ref (ad 0))]) [2] rfl ?_
                exact t_X9_copy_b101 X σ10 h
              · refine r_aload X dX9_copy_107 1 rfl ?_
                refine r_getR (c1 := (r5 + 1)) X fg_X9_156_X6 fr5.1 rfl dX9_copy_109 ?_
                refine r_iload_n X dX9_copy_112 rfl 4 rfl ?_
                refine r_aload X dX9_copy_113 0 rfl ?_
                refine r_getR (c1 := (r6 + 1)) X fg_X9_156_X6 fr6.1 rfl dX9_copy_115 ?_
                refine r_iload X dX9_copy_118 6 rfl ?_
                refine r_iload X dX9_copy_120 7 rfl ?_
                refine r_acopy X ⟨bw_329, bw_330, bw_331, bw_332⟩ fr5.2 fr6.2 (by decide) (by decide +kernel) dX9_copy_122 h (fun σ11 h => ?_)
                refine r_iconst (v := 1) X dX9_copy_125 (by decide) ?_
                exact r_iretz X rfl dX9_copy_126 h
          · refine r_aload_n X dX9_copy_72 rfl 2 rfl ?_
            refine r_iconst (v := 4) X dX9_copy_73 (by decide) ?_
            obtain ⟨r14, σ15, hc_16, h⟩ := bnd_of h
            refine r_callV (As := [.int (4 : Int32)]) (rest := []) (st2 := [.int r14]) (c := 0) X cv_X9_151 (c_X9_find M.2.1 hc_16) rfl (ci := 8) rfl fX_0 rfl rfl (Nat.le_of_ble_eq_true rfl) ⟨⟨rfl, rfl⟩, by decide, by decide⟩ dX9_copy_74 ⟨rfl, rfl⟩ rfl ?_
            exact r_iretz X rfl dX9_copy_77 h
set_option maxRecDepth 100000 in
set_option maxHeartbeats 4000000 in
theorem t_X9_write_b66 {M : am_M} {D : va_G} {cT : Nat → ClassId} {ad : Nat → Nat} (X : am_X M (D, cT, ad, NX, LX) cX9_write RX9 7 (some .int)) {z : Int32 × Sg} {k66 : Sg → Int32 → Nat → Int32 → Int32 → Option (Int32 × Sg)} (hk66 : ∀ (σ : Sg) (x1 : Int32) (x3 : Nat) (x5 : Int32) (x6 : Int32), k66 σ x1 x3 x5 x6 = some z → Is_X6 x3 → am_At M { frames := 4, cells := 0, slots := 0, locals := 95 } (D, cT, ad, NX, LX) (amQi M (D, cT, ad, NX, LX) z) 7 66 [(0, .ref (ad 0)), (1, .int x1), (3, .ref (ad x3)), (4, .ref (ad 28)), (5, .int x5), (6, .int x6)] [] σ) (σ : Sg) (x1 : Int32) (x3 : Nat) (x5 : Int32) (x6 : Int32) (h : f_X9_write_b66 k66 σ x1 x3 x5 x6 = some z) (fx3 : Is_X6 x3) : am_At M { frames := 4, cells := 0, slots := 0, locals := 95 } (D, cT, ad, NX, LX) (amQi M (D, cT, ad, NX, LX) z) 7 66 [(0, .ref (ad 0)), (1, .int x1), (3, .ref (ad x3)), (4, .ref (ad 28)), (5, .int x5), (6, .int x6)] [] σ := by
  unfold f_X9_write_b66 at h
  refine r_iload X dX9_write_66 5 rfl ?_
  refine r_iload X dX9_write_68 4 rfl ?_
  refine r_icmp_ge X 97 dX9_write_70 (by decide) h (fun h => ?_) (fun h => ?_)
  · refine r_iload X dX9_write_97 4 rfl ?_
    exact r_iretz X rfl dX9_write_99 h
  · refine r_aload_n X dX9_write_73 rfl 2 rfl ?_
    refine r_iload X dX9_write_74 5 rfl ?_
    refine r_aload X dX9_write_76 3 rfl ?_
    refine r_aload_n X dX9_write_78 rfl 0 rfl ?_
    refine r_getR (c1 := 10) X fg_X9_31_X9 fX_0 rfl dX9_write_79 ?_
    refine r_iload X dX9_write_82 5 rfl ?_
    refine r_iload_n X dX9_write_84 rfl 1 rfl ?_
    obtain ⟨r1, σ2, hc_7, h⟩ := bnd_of h
    refine r_callV (As := [.ref (ad 10), .int x6, .int x1]) (rest := [.int x6, .ref (ad x3)]) (st2 := [.int r1, .int x6, .ref (ad x3)]) (c := 28) X cv_X9_170 (c_X0_wantedBehind M.2.1 iX0_28 hc_7) rfl (ci := 0) rfl fX_28 rfl rfl (Nat.le_of_ble_eq_true rfl) ⟨⟨rfl, rfl⟩, by decide, by decide⟩ dX9_write_85 ⟨rfl, rfl⟩ rfl ?_
    obtain ⟨r3, σ4, hc_6, h⟩ := bnd_of h
    refine r_callV (As := [.int x6, .int r1]) (rest := []) (st2 := []) (c := x3) X cv_X9_276 (c_X6_setItem M.2.1 fx3 hc_6) rfl (ci := 5) rfl fx3.1 rfl rfl (Nat.le_of_ble_eq_true rfl) ⟨⟨rfl, rfl⟩, by decide, by decide⟩ dX9_write_88 ⟨rfl, rfl⟩ rfl ?_
    refine r_iinc X [(6, .int (x6 + (1 : Int32))), (0, .ref (ad 0)), (1, .int x1), (3, .ref (ad x3)), (4, .ref (ad 28)), (5, .int x5)] dX9_write_91 5 rfl (v := x6 + (1 : Int32)) (by rfl) (by decide) rfl ?_
    refine r_letv h (fun v5 h => ?_)
    refine r_goto X 66 dX9_write_94 (by decide) ?_
    refine r_sub (lv' := [(0, .ref (ad 0)), (1, .int x1), (3, .ref (ad x3)), (4, .ref (ad 28)), (5, .int x5), (6, .int v5)]) [1, 2, 3, 4, 5, 0] rfl ?_
    exact hk66 σ4 x1 x3 x5 v5 h fx3
theorem t_X9_write_l66 {M : am_M} {D : va_G} {cT : Nat → ClassId} {ad : Nat → Nat} (X : am_X M (D, cT, ad, NX, LX) cX9_write RX9 7 (some .int)) {z : Int32 × Sg} (n : Nat) : ∀ (σ : Sg) (x1 : Int32) (x3 : Nat) (x5 : Int32) (x6 : Int32), f_X9_write_l66 n σ x1 x3 x5 x6 = some z → Is_X6 x3 → am_At M { frames := 4, cells := 0, slots := 0, locals := 95 } (D, cT, ad, NX, LX) (amQi M (D, cT, ad, NX, LX) z) 7 66 [(0, .ref (ad 0)), (1, .int x1), (3, .ref (ad x3)), (4, .ref (ad 28)), (5, .int x5), (6, .int x6)] [] σ := by
  induction n with
  | zero =>
    intro σ x1 x3 x5 x6 h fx3
    have h2 : (none : Option (Int32 × Sg)) = some z := h
    cases h2
  | succ n ih =>
    intro σ x1 x3 x5 x6 h fx3
    exact t_X9_write_b66 X (k66 := f_X9_write_l66 n) ih σ x1 x3 x5 x6 h fx3
set_option maxRecDepth 100000 in
set_option maxHeartbeats 4000000 in
theorem c_X9_write (l : Launch) {σ : Sg} {a1 : Int32} {a2 : Int32} {z : Int32 × Sg} (h : f_X9_write σ a1 a2 = some z) : am_Met l yX9_write cX9_write 7 (some .int) { frames := 4, cells := 0, slots := 0, locals := 95 } NX LX (fun ad => [.ref (ad 0), .int a1, .int a2]) σ z.2 (fun _ => some (.int z.1)) := by
  refine am_enter (by decide +kernel) (fun ad => Nat.le_of_ble_eq_true rfl) (fun M D cT ad hl X => ?_)
  subst hl
  refine r_lv (lv' := [(0, .ref (ad 0)), (1, .int a1), (2, .int a2)]) rfl ?_
  unfold f_X9_write at h
  refine r_iload_n X dX9_write_0 rfl 1 rfl ?_
  refine r_aload_n X dX9_write_1 rfl 0 rfl ?_
  refine r_getR (c1 := 5) X fg_X9_24_X9 fX_0 rfl dX9_write_2 ?_
  refine r_getI X fg_X9_115_X2 fX_5 rfl dX9_write_5 ?_
  obtain ⟨r1, σ2, hc_14, h⟩ := bnd_of h
  refine r_callS (As := [.int a1, .int (σ 5 1)]) (rest := []) (st2 := [.int r1]) X cv_X9_91 (c_X9_isBelow M.2.1 hc_14) rfl rfl rfl (Nat.le_of_ble_eq_true rfl) ⟨⟨rfl, rfl⟩, by decide, by decide⟩ dX9_write_8 ⟨rfl, rfl⟩ rfl ?_
  refine r_if_eq X 22 dX9_write_11 (by decide) h (fun h => ?_) (fun h => ?_)
  · refine r_bipush (v := -2) X dX9_write_22 (by decide) ?_
    exact r_iretz X rfl dX9_write_24 h
  · refine r_iload_n X dX9_write_14 rfl 2 rfl ?_
    refine r_iconst (v := 4) X dX9_write_15 (by decide) ?_
    obtain ⟨r3, σ4, hc_13, h⟩ := bnd_of h
    refine r_callS (As := [.int a2, .int (4 : Int32)]) (rest := []) (st2 := [.int r3]) X cv_X9_91 (c_X9_isBelow M.2.1 hc_13) rfl rfl rfl (Nat.le_of_ble_eq_true rfl) ⟨⟨rfl, rfl⟩, by decide, by decide⟩ dX9_write_16 ⟨rfl, rfl⟩ rfl ?_
    refine r_if_ne X 25 dX9_write_19 (by decide) h (fun h => ?_) (fun h => ?_)
    · refine r_bipush (v := -2) X dX9_write_22 (by decide) ?_
      exact r_iretz X rfl dX9_write_24 h
    · refine r_aload_n X dX9_write_25 rfl 0 rfl ?_
      refine r_getR (c1 := 45) X fg_X9_75_X9 fX_0 rfl dX9_write_26 ?_
      refine r_iload_n X dX9_write_29 rfl 2 rfl ?_
      refine r_aald X fX_45 dX9_write_30 h (fun h => ?_)
      refine r_letr (v := 46 + 2 * (a2).toNatClampNeg) h (fun r5 h => ?_)
      obtain ⟨gr5, h⟩ := gd_of h
      have fr5 := isX6_of gr5
      refine r_astore_n X [(3, .ref (ad r5)), (0, .ref (ad 0)), (1, .int a1), (2, .int a2)] dX9_write_31 rfl (by decide) rfl ?_
      refine r_aload_n X dX9_write_32 rfl 0 rfl ?_
      refine r_getI X fg_X9_148_X6 fr5.1 rfl dX9_write_33 ?_
      refine r_iconst (v := -1) X dX9_write_36 (by decide) ?_
      refine r_icmp_ne X 46 dX9_write_37 (by decide) h (fun h => ?_) (fun h => ?_)
      · refine r_aload_n X dX9_write_40 rfl 1 rfl ?_
        refine r_iconst (v := 1) X dX9_write_41 (by decide) ?_
        obtain ⟨r10, σ11, hc_12, h⟩ := bnd_of h
        refine r_callV (As := [.int (1 : Int32)]) (rest := []) (st2 := [.int r10]) (c := 0) X cv_X9_151 (c_X9_find M.2.1 hc_12) rfl (ci := 8) rfl fX_0 rfl rfl (Nat.le_of_ble_eq_true rfl) ⟨⟨rfl, rfl⟩, by decide, by decide⟩ dX9_write_42 ⟨rfl, rfl⟩ rfl ?_
        exact r_iretz X rfl dX9_write_45 h
      · refine r_aload_n X dX9_write_46 rfl 1 rfl ?_
        obtain ⟨r6, σ7, hc_9, h⟩ := bnd_of h
        have h0 := gd_eq h
        clear h
        obtain ⟨rfl, h⟩ := h0
        refine r_callV (As := []) (rest := []) (st2 := [.ref (ad 28)]) (c := 0) X cv_X9_163 (c_X9_asTold M.2.1 hc_9) rfl (ci := 8) rfl fX_0 rfl rfl (Nat.le_of_ble_eq_true rfl) ⟨⟨rfl, rfl⟩, by decide, by decide⟩ dX9_write_47 ⟨rfl, rfl⟩ rfl ?_
        refine r_astore X [(4, .ref (ad 28)), (3, .ref (ad r5)), (0, .ref (ad 0)), (1, .int a1), (2, .int a2)] dX9_write_50 (by decide) rfl ?_
        refine r_aload_n X dX9_write_52 rfl 1 rfl ?_
        refine r_getI X fg_X9_155_X6 fr5.1 rfl dX9_write_53 ?_
        refine r_bipush (v := 24) X dX9_write_56 (by decide) ?_
        refine r_mmin X ⟨bw_411, bw_353, bw_343, bw_354⟩ (by decide) (Nat.le_of_ble_eq_true rfl) dX9_write_58 ?_
        refine r_leti h (fun v8 h => ?_)
        refine r_istore X [(5, .int v8), (4, .ref (ad 28)), (3, .ref (ad r5)), (0, .ref (ad 0)), (1, .int a1), (2, .int a2)] dX9_write_61 (by decide) rfl ?_
        refine r_iconst (v := 0) X dX9_write_63 (by decide) ?_
        refine r_istore X [(6, .int (0 : Int32)), (5, .int v8), (4, .ref (ad 28)), (3, .ref (ad r5)), (0, .ref (ad 0)), (1, .int a1), (2, .int a2)] dX9_write_64 (by decide) rfl ?_
        refine r_sub (lv' := [(0, .ref (ad 0)), (1, .int a1), (3, .ref (ad r5)), (4, .ref (ad 28)), (5, .int v8), (6, .int (0 : Int32))]) [4, 5, 3, 2, 1, 0] rfl ?_
        exact t_X9_write_l66 X 300 σ7 a1 r5 v8 (0 : Int32) h fr5
set_option maxRecDepth 100000 in
set_option maxHeartbeats 4000000 in
theorem c_X9_count (l : Launch) {σ : Sg} {a1 : Int32} {z : Int32 × Sg} (h : f_X9_count σ a1 = some z) : am_Met l yX9_count cX9_count 2 (some .int) { frames := 4, cells := 0, slots := 0, locals := 95 } NX LX (fun ad => [.ref (ad 0), .int a1]) σ z.2 (fun _ => some (.int z.1)) := by
  refine am_enter (by decide +kernel) (fun ad => Nat.le_of_ble_eq_true rfl) (fun M D cT ad hl X => ?_)
  subst hl
  refine r_lv (lv' := [(0, .ref (ad 0)), (1, .int a1)]) rfl ?_
  unfold f_X9_count at h
  refine r_iload_n X dX9_count_0 rfl 1 rfl ?_
  obtain ⟨hA, hB⟩ := ite_of h
  by_cases q1_0 : a1 = 0
  · have h := hA q1_0
    refine r_tabIn (kx := 0) (off := 51) X 52 dX9_count_1 q1_0 (by decide) (by decide) (by decide) (by decide) ?_
    refine r_aload_n X dX9_count_52 rfl 0 rfl ?_
    refine r_getR (c1 := 5) X fg_X9_24_X9 fX_0 rfl dX9_count_53 ?_
    refine r_getI X fg_X9_115_X2 fX_5 rfl dX9_count_56 ?_
    exact r_iretz X rfl dX9_count_59 h
  · have h := hB q1_0
    obtain ⟨hA, hB⟩ := ite_of h
    by_cases q1_1 : a1 = 1
    · have h := hA q1_1
      refine r_tabIn (kx := 1) (off := 59) X 60 dX9_count_1 q1_1 (by decide) (by decide) (by decide) (by decide) ?_
      refine r_aload_n X dX9_count_60 rfl 0 rfl ?_
      refine r_getR (c1 := 10) X fg_X9_31_X9 fX_0 rfl dX9_count_61 ?_
      refine r_getI X fg_X9_128_X4 fX_10 rfl dX9_count_64 ?_
      exact r_iretz X rfl dX9_count_67 h
    · have h := hB q1_1
      obtain ⟨hA, hB⟩ := ite_of h
      by_cases q1_2 : a1 = 2
      · have h := hA q1_2
        refine r_tabIn (kx := 2) (off := 67) X 68 dX9_count_1 q1_2 (by decide) (by decide) (by decide) (by decide) ?_
        refine r_aload_n X dX9_count_68 rfl 0 rfl ?_
        refine r_getR (c1 := 1) X fg_X9_14_X9 fX_0 rfl dX9_count_69 ?_
        refine r_getI X fg_X9_99_X8 fX_1 rfl dX9_count_72 ?_
        exact r_iretz X rfl dX9_count_75 h
      · have h := hB q1_2
        obtain ⟨hA, hB⟩ := ite_of h
        by_cases q1_3 : a1 = 3
        · have h := hA q1_3
          refine r_tabIn (kx := 3) (off := 75) X 76 dX9_count_1 q1_3 (by decide) (by decide) (by decide) (by decide) ?_
          refine r_aload_n X dX9_count_76 rfl 0 rfl ?_
          refine r_getR (c1 := 3) X fg_X9_18_X9 fX_0 rfl dX9_count_77 ?_
          refine r_getI X fg_X9_99_X8 fX_3 rfl dX9_count_80 ?_
          exact r_iretz X rfl dX9_count_83 h
        · have h := hB q1_3
          obtain ⟨hA, hB⟩ := ite_of h
          by_cases q1_4 : a1 = 4
          · have h := hA q1_4
            refine r_tabIn (kx := 4) (off := 83) X 84 dX9_count_1 q1_4 (by decide) (by decide) (by decide) (by decide) ?_
            refine r_aload_n X dX9_count_84 rfl 0 rfl ?_
            refine r_getR (c1 := 14) X fg_X9_38_X9 fX_0 rfl dX9_count_85 ?_
            refine r_getI X fg_X9_138_X1 fX_14 rfl dX9_count_88 ?_
            exact r_iretz X rfl dX9_count_91 h
          · have h := hB q1_4
            obtain ⟨hA, hB⟩ := ite_of h
            by_cases q1_5 : a1 = 5
            · have h := hA q1_5
              refine r_tabIn (kx := 5) (off := 91) X 92 dX9_count_1 q1_5 (by decide) (by decide) (by decide) (by decide) ?_
              refine r_aload_n X dX9_count_92 rfl 0 rfl ?_
              obtain ⟨r1, σ2, hc_6, h⟩ := bnd_of h
              have h0 := gd_eq h
              clear h
              obtain ⟨rfl, h⟩ := h0
              refine r_callV (As := []) (rest := []) (st2 := [.ref (ad 28)]) (c := 0) X cv_X9_163 (c_X9_asTold M.2.1 hc_6) rfl (ci := 8) rfl fX_0 rfl rfl (Nat.le_of_ble_eq_true rfl) ⟨⟨rfl, rfl⟩, by decide, by decide⟩ dX9_count_93 ⟨rfl, rfl⟩ rfl ?_
              refine r_aload_n X dX9_count_96 rfl 0 rfl ?_
              refine r_getR (c1 := 10) X fg_X9_31_X9 fX_0 rfl dX9_count_97 ?_
              obtain ⟨r3, σ4, hc_5, h⟩ := bnd_of h
              refine r_callV (As := [.ref (ad 10)]) (rest := []) (st2 := [.int r3]) (c := 28) X cv_X9_266 (c_X0_howManyMet M.2.1 iX0_28 hc_5) rfl (ci := 0) rfl fX_28 rfl rfl (Nat.le_of_ble_eq_true rfl) ⟨⟨rfl, rfl⟩, by decide, by decide⟩ dX9_count_100 ⟨rfl, rfl⟩ rfl ?_
              exact r_iretz X rfl dX9_count_103 h
            · have h := hB q1_5
              obtain ⟨hA, hB⟩ := ite_of h
              by_cases q1_6 : a1 = 6
              · have h := hA q1_6
                refine r_tabIn (kx := 6) (off := 103) X 104 dX9_count_1 q1_6 (by decide) (by decide) (by decide) (by decide) ?_
                refine r_aload_n X dX9_count_104 rfl 0 rfl ?_
                obtain ⟨r7, σ8, hc_9, h⟩ := bnd_of h
                have h0 := gd_eq h
                clear h
                obtain ⟨rfl, h⟩ := h0
                refine r_callV (As := []) (rest := []) (st2 := [.ref (ad 28)]) (c := 0) X cv_X9_163 (c_X9_asTold M.2.1 hc_9) rfl (ci := 8) rfl fX_0 rfl rfl (Nat.le_of_ble_eq_true rfl) ⟨⟨rfl, rfl⟩, by decide, by decide⟩ dX9_count_105 ⟨rfl, rfl⟩ rfl ?_
                refine r_getI X fg_X9_196_X0 fX_28 rfl dX9_count_108 ?_
                exact r_iretz X rfl dX9_count_111 h
              · have h := hB q1_6
                obtain ⟨hA, hB⟩ := ite_of h
                by_cases q1_7 : a1 = 7
                · have h := hA q1_7
                  refine r_tabIn (kx := 7) (off := 111) X 112 dX9_count_1 q1_7 (by decide) (by decide) (by decide) (by decide) ?_
                  refine r_aload_n X dX9_count_112 rfl 0 rfl ?_
                  refine r_getR (c1 := 24) X fg_X9_48_X9 fX_0 rfl dX9_count_113 ?_
                  refine r_getI X fg_X9_233_X7 fX_24 rfl dX9_count_116 ?_
                  exact r_iretz X rfl dX9_count_119 h
                · have h := hB q1_7
                  obtain ⟨hA, hB⟩ := ite_of h
                  by_cases q1_8 : a1 = 8
                  · have h := hA q1_8
                    refine r_tabIn (kx := 8) (off := 119) X 120 dX9_count_1 q1_8 (by decide) (by decide) (by decide) (by decide) ?_
                    refine r_aload_n X dX9_count_120 rfl 0 rfl ?_
                    refine r_getI X fg_X9_86_X9 fX_0 rfl dX9_count_121 ?_
                    exact r_iretz X rfl dX9_count_124 h
                  · have h := hB q1_8
                    refine r_tabOut X 125 dX9_count_1 (by have e0 := lv_neT q1_0 (show (0 : Int32).toInt = 0 from by decide); have e1 := lv_neT q1_1 (show (1 : Int32).toInt = 1 from by decide); have e2 := lv_neT q1_2 (show (2 : Int32).toInt = 2 from by decide); have e3 := lv_neT q1_3 (show (3 : Int32).toInt = 3 from by decide); have e4 := lv_neT q1_4 (show (4 : Int32).toInt = 4 from by decide); have e5 := lv_neT q1_5 (show (5 : Int32).toInt = 5 from by decide); have e6 := lv_neT q1_6 (show (6 : Int32).toInt = 6 from by decide); have e7 := lv_neT q1_7 (show (7 : Int32).toInt = 7 from by decide); have e8 := lv_neT q1_8 (show (8 : Int32).toInt = 8 from by decide); omega) (by decide) ?_
                    refine r_bipush (v := -2) X dX9_count_125 (by decide) ?_
                    exact r_iretz X rfl dX9_count_127 h
set_option maxRecDepth 100000 in
set_option maxHeartbeats 4000000 in
theorem c_X9_mix (l : Launch) {σ : Sg} {a0 : Int64} {a2 : Int64} {z : Int64 × Sg} (h : f_X9_mix σ a0 a2 = some z) : am_Met l yX9_mix cX9_mix 4 (some .long) { frames := 0, cells := 0, slots := 0, locals := 0 } NX LX (fun ad => [.long a0, .long a2]) σ z.2 (fun _ => some (.long z.1)) := by
  refine am_enter (by decide +kernel) (fun ad => Nat.le_of_ble_eq_true rfl) (fun M D cT ad hl X => ?_)
  subst hl
  refine r_lv (lv' := [(0, .long a0), (2, .long a2)]) rfl ?_
  unfold f_X9_mix at h
  refine r_ldc2 (v := 31) X dX9_mix_0 bw_417 ?_
  refine r_lload_n X dX9_mix_3 rfl 0 rfl ?_
  refine r_lmul X dX9_mix_4 ?_
  refine r_lload_n X dX9_mix_5 rfl 1 rfl ?_
  refine r_ladd X dX9_mix_6 ?_
  exact r_lretz X rfl dX9_mix_7 h
set_option maxRecDepth 100000 in
set_option maxHeartbeats 4000000 in
theorem t_X9_mixNeed_b6 {M : am_M} {D : va_G} {cT : Nat → ClassId} {ad : Nat → Nat} (X : am_X M (D, cT, ad, NX, LX) cX9_mixNeed RX9 7 (some .long)) {z : Int64 × Sg} {k6 : Sg → Int32 → Int64 → Int32 → Option (Int64 × Sg)} (hk6 : ∀ (σ : Sg) (x3 : Int32) (x4 : Int64) (x6 : Int32), k6 σ x3 x4 x6 = some z → am_At M { frames := 5, cells := 0, slots := 0, locals := 126 } (D, cT, ad, NX, LX) (amQl M (D, cT, ad, NX, LX) z) 7 6 [(0, .ref (ad 0)), (3, .int x3), (4, .long x4), (6, .int x6)] [] σ) (σ : Sg) (x3 : Int32) (x4 : Int64) (x6 : Int32) (h : f_X9_mixNeed_b6 k6 σ x3 x4 x6 = some z) : am_At M { frames := 5, cells := 0, slots := 0, locals := 126 } (D, cT, ad, NX, LX) (amQl M (D, cT, ad, NX, LX) z) 7 6 [(0, .ref (ad 0)), (3, .int x3), (4, .long x4), (6, .int x6)] [] σ := by
  unfold f_X9_mixNeed_b6 at h
  refine r_iload X dX9_mixNeed_6 3 rfl ?_
  refine r_iconst (v := 3) X dX9_mixNeed_8 (by decide) ?_
  refine r_icmp_ge X 33 dX9_mixNeed_9 (by decide) h (fun h => ?_) (fun h => ?_)
  · refine r_lload X dX9_mixNeed_33 2 rfl ?_
    refine r_aload_n X dX9_mixNeed_35 rfl 0 rfl ?_
    refine r_iload_n X dX9_mixNeed_36 rfl 1 rfl ?_
    obtain ⟨r1, σ2, hc_18, h⟩ := bnd_of h
    refine r_callV (As := [.int x3]) (rest := [.long x4]) (st2 := [.int r1, .long x4]) (c := 0) X cv_X9_367 (c_X9_met M.2.1 hc_18) rfl (ci := 8) rfl fX_0 rfl rfl (Nat.le_of_ble_eq_true rfl) ⟨⟨rfl, rfl⟩, by decide, by decide⟩ dX9_mixNeed_37 ⟨rfl, rfl⟩ rfl ?_
    refine r_i2l X dX9_mixNeed_40 ?_
    obtain ⟨r3, σ4, hc_17, h⟩ := bnd_of h
    refine r_callS (As := [.long x4, .long (r1).toInt64]) (rest := []) (st2 := [.long r3]) X cv_X9_299 (c_X9_mix M.2.1 hc_17) rfl rfl rfl (Nat.le_of_ble_eq_true rfl) ⟨⟨rfl, rfl⟩, by decide, by decide⟩ dX9_mixNeed_41 ⟨rfl, rfl⟩ rfl ?_
    refine r_lstore X [(4, .long r3), (0, .ref (ad 0)), (3, .int x3), (6, .int x6)] dX9_mixNeed_44 (by decide) rfl ?_
    refine r_lload X dX9_mixNeed_46 0 rfl ?_
    refine r_aload_n X dX9_mixNeed_48 rfl 1 rfl ?_
    refine r_iconst (v := 5) X dX9_mixNeed_49 (by decide) ?_
    refine r_iload_n X dX9_mixNeed_50 rfl 2 rfl ?_
    refine r_iconst (v := 0) X dX9_mixNeed_51 (by decide) ?_
    obtain ⟨r5, σ6, hc_16, h⟩ := bnd_of h
    refine r_callV (As := [.int (5 : Int32), .int x3, .int (0 : Int32)]) (rest := [.long r3]) (st2 := [.long r5, .long r3]) (c := 0) X cv_X9_369 (c_X9_chance M.2.1 hc_16) rfl (ci := 8) rfl fX_0 rfl rfl (Nat.le_of_ble_eq_true rfl) ⟨⟨rfl, rfl⟩, by decide, by decide⟩ dX9_mixNeed_52 ⟨rfl, rfl⟩ rfl ?_
    obtain ⟨r7, σ8, hc_15, h⟩ := bnd_of h
    refine r_callS (As := [.long r3, .long r5]) (rest := []) (st2 := [.long r7]) X cv_X9_299 (c_X9_mix M.2.1 hc_15) rfl rfl rfl (Nat.le_of_ble_eq_true rfl) ⟨⟨rfl, rfl⟩, by decide, by decide⟩ dX9_mixNeed_55 ⟨rfl, rfl⟩ rfl ?_
    refine r_aload_n X dX9_mixNeed_58 rfl 1 rfl ?_
    refine r_iconst (v := 5) X dX9_mixNeed_59 (by decide) ?_
    refine r_iload_n X dX9_mixNeed_60 rfl 2 rfl ?_
    refine r_iconst (v := 1) X dX9_mixNeed_61 (by decide) ?_
    obtain ⟨r9, σ10, hc_14, h⟩ := bnd_of h
    refine r_callV (As := [.int (5 : Int32), .int x3, .int (1 : Int32)]) (rest := [.long r7]) (st2 := [.long r9, .long r7]) (c := 0) X cv_X9_369 (c_X9_chance M.2.1 hc_14) rfl (ci := 8) rfl fX_0 rfl rfl (Nat.le_of_ble_eq_true rfl) ⟨⟨rfl, rfl⟩, by decide, by decide⟩ dX9_mixNeed_62 ⟨rfl, rfl⟩ rfl ?_
    obtain ⟨r11, σ12, hc_13, h⟩ := bnd_of h
    refine r_callS (As := [.long r7, .long r9]) (rest := []) (st2 := [.long r11]) X cv_X9_299 (c_X9_mix M.2.1 hc_13) rfl rfl rfl (Nat.le_of_ble_eq_true rfl) ⟨⟨rfl, rfl⟩, by decide, by decide⟩ dX9_mixNeed_65 ⟨rfl, rfl⟩ rfl ?_
    exact r_lretz X rfl dX9_mixNeed_68 h
  · refine r_lload X dX9_mixNeed_12 2 rfl ?_
    refine r_aload_n X dX9_mixNeed_14 rfl 0 rfl ?_
    refine r_iload_n X dX9_mixNeed_15 rfl 1 rfl ?_
    refine r_iload X dX9_mixNeed_16 3 rfl ?_
    obtain ⟨r19, σ20, hc_25, h⟩ := bnd_of h
    refine r_callV (As := [.int x3, .int x6]) (rest := [.long x4]) (st2 := [.int r19, .long x4]) (c := 0) X cv_X9_364 (c_X9_need M.2.1 hc_25) rfl (ci := 8) rfl fX_0 rfl rfl (Nat.le_of_ble_eq_true rfl) ⟨⟨rfl, rfl⟩, by decide, by decide⟩ dX9_mixNeed_18 ⟨rfl, rfl⟩ rfl ?_
    refine r_i2l X dX9_mixNeed_21 ?_
    obtain ⟨r21, σ22, hc_24, h⟩ := bnd_of h
    refine r_callS (As := [.long x4, .long (r19).toInt64]) (rest := []) (st2 := [.long r21]) X cv_X9_299 (c_X9_mix M.2.1 hc_24) rfl rfl rfl (Nat.le_of_ble_eq_true rfl) ⟨⟨rfl, rfl⟩, by decide, by decide⟩ dX9_mixNeed_22 ⟨rfl, rfl⟩ rfl ?_
    refine r_lstore X [(4, .long r21), (0, .ref (ad 0)), (3, .int x3), (6, .int x6)] dX9_mixNeed_25 (by decide) rfl ?_
    refine r_iinc X [(6, .int (x6 + (1 : Int32))), (4, .long r21), (0, .ref (ad 0)), (3, .int x3)] dX9_mixNeed_27 3 rfl (v := x6 + (1 : Int32)) (by rfl) (by decide) rfl ?_
    refine r_letv h (fun v23 h => ?_)
    refine r_goto X 6 dX9_mixNeed_30 (by decide) ?_
    refine r_sub (lv' := [(0, .ref (ad 0)), (3, .int x3), (4, .long r21), (6, .int v23)]) [2, 3, 1, 0] rfl ?_
    exact hk6 σ22 x3 r21 v23 h
theorem t_X9_mixNeed_l6 {M : am_M} {D : va_G} {cT : Nat → ClassId} {ad : Nat → Nat} (X : am_X M (D, cT, ad, NX, LX) cX9_mixNeed RX9 7 (some .long)) {z : Int64 × Sg} (n : Nat) : ∀ (σ : Sg) (x3 : Int32) (x4 : Int64) (x6 : Int32), f_X9_mixNeed_l6 n σ x3 x4 x6 = some z → am_At M { frames := 5, cells := 0, slots := 0, locals := 126 } (D, cT, ad, NX, LX) (amQl M (D, cT, ad, NX, LX) z) 7 6 [(0, .ref (ad 0)), (3, .int x3), (4, .long x4), (6, .int x6)] [] σ := by
  induction n with
  | zero =>
    intro σ x3 x4 x6 h
    have h2 : (none : Option (Int64 × Sg)) = some z := h
    cases h2
  | succ n ih =>
    intro σ x3 x4 x6 h
    exact t_X9_mixNeed_b6 X (k6 := f_X9_mixNeed_l6 n) ih σ x3 x4 x6 h
set_option maxRecDepth 100000 in
set_option maxHeartbeats 4000000 in
theorem c_X9_mixNeed (l : Launch) {σ : Sg} {a1 : Int64} {a3 : Int32} {z : Int64 × Sg} (h : f_X9_mixNeed σ a1 a3 = some z) : am_Met l yX9_mixNeed cX9_mixNeed 7 (some .long) { frames := 5, cells := 0, slots := 0, locals := 126 } NX LX (fun ad => [.ref (ad 0), .long a1, .int a3]) σ z.2 (fun _ => some (.long z.1)) := by
  refine am_enter (by decide +kernel) (fun ad => Nat.le_of_ble_eq_true rfl) (fun M D cT ad hl X => ?_)
  subst hl
  refine r_lv (lv' := [(0, .ref (ad 0)), (1, .long a1), (3, .int a3)]) rfl ?_
  unfold f_X9_mixNeed at h
  refine r_lload_n X dX9_mixNeed_0 rfl 1 rfl ?_
  refine r_lstore X [(4, .long a1), (0, .ref (ad 0)), (1, .long a1), (3, .int a3)] dX9_mixNeed_1 (by decide) rfl ?_
  refine r_iconst (v := 0) X dX9_mixNeed_3 (by decide) ?_
  refine r_istore X [(6, .int (0 : Int32)), (4, .long a1), (0, .ref (ad 0)), (1, .long a1), (3, .int a3)] dX9_mixNeed_4 (by decide) rfl ?_
  refine r_sub (lv' := [(0, .ref (ad 0)), (3, .int a3), (4, .long a1), (6, .int (0 : Int32))]) [2, 4, 1, 0] rfl ?_
  exact t_X9_mixNeed_l6 X 300 σ a3 a1 (0 : Int32) h
