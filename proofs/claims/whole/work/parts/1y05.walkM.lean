set_option maxRecDepth 100000 in
set_option maxHeartbeats 4000000 in
theorem t_X10_yearsOf_b15 {M : am_M} {D : va_G} {cT : Nat → ClassId} {ad : Nat → Nat} (X : am_X M (D, cT, ad, NM, LM) cX10_yearsOf RX10 6 (some .int)) {z : Int32 × Sg} {k15 : Sg → Int32 → Int32 → Int32 → Int32 → Option (Int32 × Sg)} (hk15 : ∀ (σ : Sg) (x2 : Int32) (x3 : Int32) (x4 : Int32) (x5 : Int32), k15 σ x2 x3 x4 x5 = some z → am_At M { frames := 7, cells := 0, slots := 0, locals := 159 } (D, cT, ad, NM, LM) (amQi M (D, cT, ad, NM, LM) z) 6 15 [(0, .ref (ad 0)), (2, .int x2), (3, .int x3), (4, .int x4), (5, .int x5)] [] σ) (σ : Sg) (x2 : Int32) (x3 : Int32) (x4 : Int32) (x5 : Int32) (h : f_X10_yearsOf_b15 k15 σ x2 x3 x4 x5 = some z) : am_At M { frames := 7, cells := 0, slots := 0, locals := 159 } (D, cT, ad, NM, LM) (amQi M (D, cT, ad, NM, LM) z) 6 15 [(0, .ref (ad 0)), (2, .int x2), (3, .int x3), (4, .int x4), (5, .int x5)] [] σ := by
  unfold f_X10_yearsOf_b15 at h
  refine r_iload X dX10_yearsOf_15 4 rfl ?_
  refine r_iload_n X dX10_yearsOf_17 rfl 1 rfl ?_
  refine r_icmp_ge X 107 dX10_yearsOf_18 (by decide) h (fun h => ?_) (fun h => ?_)
  · refine r_aload_n X dX10_yearsOf_107 rfl 0 rfl ?_
    obtain ⟨r1, σ2, hc_6, h⟩ := bnd_of h
    refine r_callV (As := []) (rest := []) (st2 := []) (c := 0) X cv_X10_232 (c_X10_runs M.2.1 hc_6) rfl (ci := 9) rfl fM_0 rfl rfl (Nat.le_of_ble_eq_true rfl) ⟨⟨rfl, rfl⟩, by decide, by decide⟩ dX10_yearsOf_108 ⟨rfl, rfl⟩ rfl ?_
    refine r_iload_n X dX10_yearsOf_111 rfl 2 rfl ?_
    refine r_if_ne X 122 dX10_yearsOf_112 (by decide) h (fun h => ?_) (fun h => ?_)
    · refine r_aload_n X dX10_yearsOf_115 rfl 0 rfl ?_
      obtain ⟨r3, σ4, hc_5, h⟩ := bnd_of h
      refine r_callV (As := []) (rest := []) (st2 := [.int r3]) (c := 0) X cv_X10_275 (c_X10_metNow M.2.1 hc_5) rfl (ci := 9) rfl fM_0 rfl rfl (Nat.le_of_ble_eq_true rfl) ⟨⟨rfl, rfl⟩, by decide, by decide⟩ dX10_yearsOf_116 ⟨rfl, rfl⟩ rfl ?_
      refine r_goto X 126 dX10_yearsOf_119 (by decide) ?_
      exact r_iretz X rfl dX10_yearsOf_126 h
    · refine r_aload_n X dX10_yearsOf_122 rfl 0 rfl ?_
      refine r_getI X fg_X10_197_X10 fM_0 rfl dX10_yearsOf_123 ?_
      exact r_iretz X rfl dX10_yearsOf_126 h
  · refine r_ldcw (v := 1103515245) X dX10_yearsOf_21 bw_810 ?_
    refine r_iload X dX10_yearsOf_24 3 rfl ?_
    refine r_imul X dX10_yearsOf_26 ?_
    refine r_sipush (v := 12345) X dX10_yearsOf_27 (by decide) ?_
    refine r_iadd X dX10_yearsOf_30 ?_
    refine r_leti h (fun v7 h => ?_)
    refine r_istore X [(4, .int v7), (0, .ref (ad 0)), (2, .int x2), (3, .int x3), (5, .int x5)] dX10_yearsOf_31 (by decide) rfl ?_
    refine r_aload_n X dX10_yearsOf_33 rfl 1 rfl ?_
    refine r_getR (c1 := 13) X fg_X10_46_X10 fM_0 rfl dX10_yearsOf_34 ?_
    refine r_iload X dX10_yearsOf_37 4 rfl ?_
    refine r_iload X dX10_yearsOf_39 0 rfl ?_
    refine r_bipush (v := 16) X dX10_yearsOf_41 (by decide) ?_
    refine r_iushr X dX10_yearsOf_43 ?_
    refine r_iconst (v := 2) X dX10_yearsOf_44 (by decide) ?_
    refine r_irem0 X dX10_yearsOf_45 (by decide) ?_
    refine r_iast X fM_13 dX10_yearsOf_46 h (fun σ8 h => ?_)
    refine r_ldcw (v := 1103515245) X dX10_yearsOf_47 bw_810 ?_
    refine r_iload X dX10_yearsOf_50 0 rfl ?_
    refine r_imul X dX10_yearsOf_52 ?_
    refine r_sipush (v := 12345) X dX10_yearsOf_53 (by decide) ?_
    refine r_iadd X dX10_yearsOf_56 ?_
    refine r_leti h (fun v9 h => ?_)
    refine r_istore X [(4, .int v9), (0, .ref (ad 0)), (2, .int x2), (3, .int x3), (5, .int x5)] dX10_yearsOf_57 (by decide) rfl ?_
    refine r_aload_n X dX10_yearsOf_59 rfl 1 rfl ?_
    refine r_getR (c1 := 14) X fg_X10_49_X10 fM_0 rfl dX10_yearsOf_60 ?_
    refine r_iload X dX10_yearsOf_63 4 rfl ?_
    refine r_iload X dX10_yearsOf_65 0 rfl ?_
    refine r_bipush (v := 16) X dX10_yearsOf_67 (by decide) ?_
    refine r_iushr X dX10_yearsOf_69 ?_
    refine r_bipush (v := 24) X dX10_yearsOf_70 (by decide) ?_
    refine r_irem0 X dX10_yearsOf_72 (by decide) ?_
    refine r_iast X fM_14 dX10_yearsOf_73 h (fun σ10 h => ?_)
    refine r_ldcw (v := 1103515245) X dX10_yearsOf_74 bw_810 ?_
    refine r_iload X dX10_yearsOf_77 0 rfl ?_
    refine r_imul X dX10_yearsOf_79 ?_
    refine r_sipush (v := 12345) X dX10_yearsOf_80 (by decide) ?_
    refine r_iadd X dX10_yearsOf_83 ?_
    refine r_leti h (fun v11 h => ?_)
    refine r_istore X [(4, .int v11), (0, .ref (ad 0)), (2, .int x2), (3, .int x3), (5, .int x5)] dX10_yearsOf_84 (by decide) rfl ?_
    refine r_aload_n X dX10_yearsOf_86 rfl 1 rfl ?_
    refine r_getR (c1 := 15) X fg_X10_52_X10 fM_0 rfl dX10_yearsOf_87 ?_
    refine r_iload X dX10_yearsOf_90 4 rfl ?_
    refine r_iload X dX10_yearsOf_92 0 rfl ?_
    refine r_bipush (v := 16) X dX10_yearsOf_94 (by decide) ?_
    refine r_iushr X dX10_yearsOf_96 ?_
    refine r_bipush (v := 6) X dX10_yearsOf_97 (by decide) ?_
    refine r_irem0 X dX10_yearsOf_99 (by decide) ?_
    refine r_iast X fM_15 dX10_yearsOf_100 h (fun σ12 h => ?_)
    refine r_iinc X [(5, .int (x5 + (1 : Int32))), (4, .int v11), (0, .ref (ad 0)), (2, .int x2), (3, .int x3)] dX10_yearsOf_101 4 rfl (v := x5 + (1 : Int32)) (by rfl) (by decide) rfl ?_
    refine r_letv h (fun v13 h => ?_)
    refine r_goto X 15 dX10_yearsOf_104 (by decide) ?_
    refine r_sub (lv' := [(0, .ref (ad 0)), (2, .int x2), (3, .int x3), (4, .int v11), (5, .int v13)]) [2, 3, 4, 1, 0] rfl ?_
    exact hk15 σ12 x2 x3 v11 v13 h
theorem t_X10_yearsOf_l15 {M : am_M} {D : va_G} {cT : Nat → ClassId} {ad : Nat → Nat} (X : am_X M (D, cT, ad, NM, LM) cX10_yearsOf RX10 6 (some .int)) {z : Int32 × Sg} (n : Nat) : ∀ (σ : Sg) (x2 : Int32) (x3 : Int32) (x4 : Int32) (x5 : Int32), f_X10_yearsOf_l15 n σ x2 x3 x4 x5 = some z → am_At M { frames := 7, cells := 0, slots := 0, locals := 159 } (D, cT, ad, NM, LM) (amQi M (D, cT, ad, NM, LM) z) 6 15 [(0, .ref (ad 0)), (2, .int x2), (3, .int x3), (4, .int x4), (5, .int x5)] [] σ := by
  induction n with
  | zero =>
    intro σ x2 x3 x4 x5 h
    have h2 : (none : Option (Int32 × Sg)) = some z := h
    cases h2
  | succ n ih =>
    intro σ x2 x3 x4 x5 h
    exact t_X10_yearsOf_b15 X (k15 := f_X10_yearsOf_l15 n) ih σ x2 x3 x4 x5 h
set_option maxRecDepth 100000 in
set_option maxHeartbeats 4000000 in
theorem c_X10_yearsOf (l : Launch) {σ : Sg} {a1 : Int32} {a2 : Int32} {a3 : Int32} {z : Int32 × Sg} (h : f_X10_yearsOf σ a1 a2 a3 = some z) : am_Met l yX10_yearsOf cX10_yearsOf 6 (some .int) { frames := 7, cells := 0, slots := 0, locals := 159 } NM LM (fun ad => [.ref (ad 0), .int a1, .int a2, .int a3]) σ z.2 (fun _ => some (.int z.1)) := by
  refine am_enter (by decide +kernel) (fun ad => Nat.le_of_ble_eq_true rfl) (fun M D cT ad hl X => ?_)
  subst hl
  refine r_lv (lv' := [(0, .ref (ad 0)), (1, .int a1), (2, .int a2), (3, .int a3)]) rfl ?_
  unfold f_X10_yearsOf at h
  refine r_aload_n X dX10_yearsOf_0 rfl 0 rfl ?_
  obtain ⟨r1, σ2, hc_4, h⟩ := bnd_of h
  refine r_callV (As := []) (rest := []) (st2 := []) (c := 0) X cv_X10_229 (c_X10_asTold M.2.1 hc_4) rfl (ci := 9) rfl fM_0 rfl rfl (Nat.le_of_ble_eq_true rfl) ⟨⟨rfl, rfl⟩, by decide, by decide⟩ dX10_yearsOf_1 ⟨rfl, rfl⟩ rfl ?_
  refine r_iload_n X dX10_yearsOf_4 rfl 1 rfl ?_
  refine r_istore X [(4, .int a1), (0, .ref (ad 0)), (1, .int a1), (2, .int a2), (3, .int a3)] dX10_yearsOf_5 (by decide) rfl ?_
  refine r_aload_n X dX10_yearsOf_7 rfl 1 rfl ?_
  refine r_iload_n X dX10_yearsOf_8 rfl 3 rfl ?_
  refine r_putI X fp_X10_184_X10 fM_0 rfl dX10_yearsOf_9 h (fun σ3 h => ?_)
  refine r_iconst (v := 0) X dX10_yearsOf_12 (by decide) ?_
  refine r_istore X [(5, .int (0 : Int32)), (4, .int a1), (0, .ref (ad 0)), (1, .int a1), (2, .int a2), (3, .int a3)] dX10_yearsOf_13 (by decide) rfl ?_
  refine r_sub (lv' := [(0, .ref (ad 0)), (2, .int a2), (3, .int a3), (4, .int a1), (5, .int (0 : Int32))]) [2, 4, 5, 1, 0] rfl ?_
  exact t_X10_yearsOf_l15 X 300 σ3 a2 a3 a1 (0 : Int32) h
set_option maxRecDepth 100000 in
set_option maxHeartbeats 4000000 in
theorem c_X10_years (l : Launch) {σ : Sg} {a1 : Int32} {a2 : Int32} {a3 : Int32} {z : Int32 × Sg} (h : f_X10_years σ a1 a2 a3 = some z) : am_Met l yX10_years cX10_years 4 (some .int) { frames := 8, cells := 0, slots := 0, locals := 184 } NM LM (fun ad => [.ref (ad 0), .int a1, .int a2, .int a3]) σ z.2 (fun _ => some (.int z.1)) := by
  refine am_enter (by decide +kernel) (fun ad => Nat.le_of_ble_eq_true rfl) (fun M D cT ad hl X => ?_)
  subst hl
  refine r_lv (lv' := [(0, .ref (ad 0)), (1, .int a1), (2, .int a2), (3, .int a3)]) rfl ?_
  unfold f_X10_years at h
  refine r_iload_n X dX10_years_0 rfl 2 rfl ?_
  refine r_iconst (v := 0) X dX10_years_1 (by decide) ?_
  refine r_bipush (v := 8) X dX10_years_2 (by decide) ?_
  obtain ⟨r1, σ2, hc_9, h⟩ := bnd_of h
  refine r_callS (As := [.int a2, .int (0 : Int32), .int (8 : Int32)]) (rest := []) (st2 := [.int r1]) X cv_X10_106 (c_X10_in M.2.1 hc_9) rfl rfl rfl (Nat.le_of_ble_eq_true rfl) ⟨⟨rfl, rfl⟩, by decide, by decide⟩ dX10_years_4 ⟨rfl, rfl⟩ rfl ?_
  refine r_if_eq X 27 dX10_years_7 (by decide) h (fun h => ?_) (fun h => ?_)
  · refine r_bipush (v := -2) X dX10_years_27 (by decide) ?_
    exact r_iretz X rfl dX10_years_29 h
  · refine r_iload_n X dX10_years_10 rfl 3 rfl ?_
    obtain ⟨r3, σ4, hc_8, h⟩ := bnd_of h
    refine r_callS (As := [.int a3]) (rest := []) (st2 := [.int r3]) X cv_X10_168 (c_X10_isTwo M.2.1 hc_8) rfl rfl rfl (Nat.le_of_ble_eq_true rfl) ⟨⟨rfl, rfl⟩, by decide, by decide⟩ dX10_years_11 ⟨rfl, rfl⟩ rfl ?_
    refine r_if_eq X 27 dX10_years_14 (by decide) h (fun h => ?_) (fun h => ?_)
    · refine r_bipush (v := -2) X dX10_years_27 (by decide) ?_
      exact r_iretz X rfl dX10_years_29 h
    · refine r_aload_n X dX10_years_17 rfl 0 rfl ?_
      refine r_iload_n X dX10_years_18 rfl 1 rfl ?_
      refine r_iload_n X dX10_years_19 rfl 2 rfl ?_
      refine r_iload_n X dX10_years_20 rfl 3 rfl ?_
      obtain ⟨r5, σ6, hc_7, h⟩ := bnd_of h
      refine r_callV (As := [.int a1, .int a2, .int a3]) (rest := []) (st2 := [.int r5]) (c := 0) X cv_X10_331 (c_X10_yearsOf M.2.1 hc_7) rfl (ci := 9) rfl fM_0 rfl rfl (Nat.le_of_ble_eq_true rfl) ⟨⟨rfl, rfl⟩, by decide, by decide⟩ dX10_years_21 ⟨rfl, rfl⟩ rfl ?_
      refine r_goto X 29 dX10_years_24 (by decide) ?_
      exact r_iretz X rfl dX10_years_29 h
set_option maxRecDepth 100000 in
set_option maxHeartbeats 4000000 in
theorem t_X10_sheet_b59 {M : am_M} {D : va_G} {cT : Nat → ClassId} {ad : Nat → Nat} (X : am_X M (D, cT, ad, NM, LM) cX10_sheet RX10 5 (some .int)) {z : Int32 × Sg} {k59 : Sg → Int32 → Int32 → Int32 → Option (Int32 × Sg)} (hk59 : ∀ (σ : Sg) (x1 : Int32) (x3 : Int32) (x4 : Int32), k59 σ x1 x3 x4 = some z → am_At M { frames := 2, cells := 0, slots := 0, locals := 42 } (D, cT, ad, NM, LM) (amQi M (D, cT, ad, NM, LM) z) 5 59 [(0, .ref (ad 0)), (1, .int x1), (3, .int x3), (4, .int x4)] [] σ) (σ : Sg) (x1 : Int32) (x3 : Int32) (x4 : Int32) (h : f_X10_sheet_b59 k59 σ x1 x3 x4 = some z) : am_At M { frames := 2, cells := 0, slots := 0, locals := 42 } (D, cT, ad, NM, LM) (amQi M (D, cT, ad, NM, LM) z) 5 59 [(0, .ref (ad 0)), (1, .int x1), (3, .int x3), (4, .int x4)] [] σ := by
  unfold f_X10_sheet_b59 at h
  refine r_iload X dX10_sheet_59 3 rfl ?_
  refine r_bipush (v := 60) X dX10_sheet_61 (by decide) ?_
  refine r_icmp_ge X 85 dX10_sheet_63 (by decide) h (fun h => ?_) (fun h => ?_)
  · refine r_iload_n X dX10_sheet_85 rfl 2 rfl ?_
    exact r_iretz X rfl dX10_sheet_86 h
  · refine r_aload_n X dX10_sheet_66 rfl 0 rfl ?_
    refine r_getR (c1 := 30) X fg_X10_98_X10 fM_0 rfl dX10_sheet_67 ?_
    refine r_bipush (v := 60) X dX10_sheet_70 (by decide) ?_
    refine r_iload_n X dX10_sheet_72 rfl 1 rfl ?_
    refine r_imul X dX10_sheet_73 ?_
    refine r_iload X dX10_sheet_74 3 rfl ?_
    refine r_iadd X dX10_sheet_76 ?_
    refine r_iconst (v := 0) X dX10_sheet_77 (by decide) ?_
    refine r_iast X fM_30 dX10_sheet_78 h (fun σ1 h => ?_)
    refine r_iinc X [(4, .int (x4 + (1 : Int32))), (0, .ref (ad 0)), (1, .int x1), (3, .int x3)] dX10_sheet_79 3 rfl (v := x4 + (1 : Int32)) (by rfl) (by decide) rfl ?_
    refine r_letv h (fun v2 h => ?_)
    refine r_goto X 59 dX10_sheet_82 (by decide) ?_
    refine r_sub (lv' := [(0, .ref (ad 0)), (1, .int x1), (3, .int x3), (4, .int v2)]) [1, 2, 3, 0] rfl ?_
    exact hk59 σ1 x1 x3 v2 h
theorem t_X10_sheet_l59 {M : am_M} {D : va_G} {cT : Nat → ClassId} {ad : Nat → Nat} (X : am_X M (D, cT, ad, NM, LM) cX10_sheet RX10 5 (some .int)) {z : Int32 × Sg} (n : Nat) : ∀ (σ : Sg) (x1 : Int32) (x3 : Int32) (x4 : Int32), f_X10_sheet_l59 n σ x1 x3 x4 = some z → am_At M { frames := 2, cells := 0, slots := 0, locals := 42 } (D, cT, ad, NM, LM) (amQi M (D, cT, ad, NM, LM) z) 5 59 [(0, .ref (ad 0)), (1, .int x1), (3, .int x3), (4, .int x4)] [] σ := by
  induction n with
  | zero =>
    intro σ x1 x3 x4 h
    have h2 : (none : Option (Int32 × Sg)) = some z := h
    cases h2
  | succ n ih =>
    intro σ x1 x3 x4 h
    exact t_X10_sheet_b59 X (k59 := f_X10_sheet_l59 n) ih σ x1 x3 x4 h
set_option maxRecDepth 100000 in
set_option maxHeartbeats 4000000 in
theorem c_X10_sheet (l : Launch) {σ : Sg} {a1 : Int32} {a2 : Int32} {a3 : Int32} {z : Int32 × Sg} (h : f_X10_sheet σ a1 a2 a3 = some z) : am_Met l yX10_sheet cX10_sheet 5 (some .int) { frames := 2, cells := 0, slots := 0, locals := 42 } NM LM (fun ad => [.ref (ad 0), .int a1, .int a2, .int a3]) σ z.2 (fun _ => some (.int z.1)) := by
  refine am_enter (by decide +kernel) (fun ad => Nat.le_of_ble_eq_true rfl) (fun M D cT ad hl X => ?_)
  subst hl
  refine r_lv (lv' := [(0, .ref (ad 0)), (1, .int a1), (2, .int a2), (3, .int a3)]) rfl ?_
  unfold f_X10_sheet at h
  refine r_iload_n X dX10_sheet_0 rfl 1 rfl ?_
  obtain ⟨r1, σ2, hc_12, h⟩ := bnd_of h
  refine r_callS (As := [.int a1]) (rest := []) (st2 := [.int r1]) X cv_X10_174 (c_X10_isSheet M.2.1 hc_12) rfl rfl rfl (Nat.le_of_ble_eq_true rfl) ⟨⟨rfl, rfl⟩, by decide, by decide⟩ dX10_sheet_1 ⟨rfl, rfl⟩ rfl ?_
  refine r_if_eq X 22 dX10_sheet_4 (by decide) h (fun h => ?_) (fun h => ?_)
  · refine r_bipush (v := -2) X dX10_sheet_22 (by decide) ?_
    exact r_iretz X rfl dX10_sheet_24 h
  · refine r_iload_n X dX10_sheet_7 rfl 2 rfl ?_
    refine r_iconst (v := 0) X dX10_sheet_8 (by decide) ?_
    refine r_iconst (v := 2) X dX10_sheet_9 (by decide) ?_
    obtain ⟨r3, σ4, hc_11, h⟩ := bnd_of h
    refine r_callS (As := [.int a2, .int (0 : Int32), .int (2 : Int32)]) (rest := []) (st2 := [.int r3]) X cv_X10_106 (c_X10_in M.2.1 hc_11) rfl rfl rfl (Nat.le_of_ble_eq_true rfl) ⟨⟨rfl, rfl⟩, by decide, by decide⟩ dX10_sheet_10 ⟨rfl, rfl⟩ rfl ?_
    refine r_if_eq X 22 dX10_sheet_13 (by decide) h (fun h => ?_) (fun h => ?_)
    · refine r_bipush (v := -2) X dX10_sheet_22 (by decide) ?_
      exact r_iretz X rfl dX10_sheet_24 h
    · refine r_iload_n X dX10_sheet_16 rfl 3 rfl ?_
      refine r_bipush (v := 60) X dX10_sheet_17 (by decide) ?_
      refine r_icmp_le X 25 dX10_sheet_19 (by decide) h (fun h => ?_) (fun h => ?_)
      · refine r_iload_n X dX10_sheet_25 rfl 3 rfl ?_
        refine r_if_ge X 35 dX10_sheet_26 (by decide) h (fun h => ?_) (fun h => ?_)
        · refine r_aload_n X dX10_sheet_35 rfl 0 rfl ?_
          refine r_getR (c1 := 27) X fg_X10_88_X10 fM_0 rfl dX10_sheet_36 ?_
          refine r_iload_n X dX10_sheet_39 rfl 1 rfl ?_
          refine r_iconst (v := 1) X dX10_sheet_40 (by decide) ?_
          refine r_zast X fM_27 (by decide) dX10_sheet_41 h (fun σ5 h => ?_)
          refine r_aload_n X dX10_sheet_42 rfl 0 rfl ?_
          refine r_getR (c1 := 28) X fg_X10_92_X10 fM_0 rfl dX10_sheet_43 ?_
          refine r_iload_n X dX10_sheet_46 rfl 1 rfl ?_
          refine r_iload_n X dX10_sheet_47 rfl 2 rfl ?_
          refine r_iast X fM_28 dX10_sheet_48 h (fun σ6 h => ?_)
          refine r_aload_n X dX10_sheet_49 rfl 0 rfl ?_
          refine r_getR (c1 := 29) X fg_X10_95_X10 fM_0 rfl dX10_sheet_50 ?_
          refine r_iload_n X dX10_sheet_53 rfl 1 rfl ?_
          refine r_iload_n X dX10_sheet_54 rfl 3 rfl ?_
          refine r_iast X fM_29 dX10_sheet_55 h (fun σ7 h => ?_)
          refine r_iconst (v := 0) X dX10_sheet_56 (by decide) ?_
          refine r_istore X [(4, .int (0 : Int32)), (0, .ref (ad 0)), (1, .int a1), (2, .int a2), (3, .int a3)] dX10_sheet_57 (by decide) rfl ?_
          refine r_sub (lv' := [(0, .ref (ad 0)), (1, .int a1), (3, .int a3), (4, .int (0 : Int32))]) [1, 2, 4, 0] rfl ?_
          exact t_X10_sheet_l59 X 300 σ7 a1 a3 (0 : Int32) h
        · refine r_aload_n X dX10_sheet_29 rfl 0 rfl ?_
          refine r_iconst (v := 5) X dX10_sheet_30 (by decide) ?_
          obtain ⟨r8, σ9, hc_10, h⟩ := bnd_of h
          refine r_callV (As := [.int (5 : Int32)]) (rest := []) (st2 := [.int r8]) (c := 0) X cv_X10_177 (c_X10_meets M.2.1 hc_10) rfl (ci := 9) rfl fM_0 rfl rfl (Nat.le_of_ble_eq_true rfl) ⟨⟨rfl, rfl⟩, by decide, by decide⟩ dX10_sheet_31 ⟨rfl, rfl⟩ rfl ?_
          exact r_iretz X rfl dX10_sheet_34 h
      · refine r_bipush (v := -2) X dX10_sheet_22 (by decide) ?_
        exact r_iretz X rfl dX10_sheet_24 h
set_option maxRecDepth 100000 in
set_option maxHeartbeats 4000000 in
theorem c_X10_lose (l : Launch) {σ : Sg} {a1 : Int32} {z : Int32 × Sg} (h : f_X10_lose σ a1 = some z) : am_Met l yX10_lose cX10_lose 2 (some .int) { frames := 2, cells := 0, slots := 0, locals := 42 } NM LM (fun ad => [.ref (ad 0), .int a1]) σ z.2 (fun _ => some (.int z.1)) := by
  refine am_enter (by decide +kernel) (fun ad => Nat.le_of_ble_eq_true rfl) (fun M D cT ad hl X => ?_)
  subst hl
  refine r_lv (lv' := [(0, .ref (ad 0)), (1, .int a1)]) rfl ?_
  unfold f_X10_lose at h
  refine r_iload_n X dX10_lose_0 rfl 1 rfl ?_
  obtain ⟨r1, σ2, hc_7, h⟩ := bnd_of h
  refine r_callS (As := [.int a1]) (rest := []) (st2 := [.int r1]) X cv_X10_174 (c_X10_isSheet M.2.1 hc_7) rfl rfl rfl (Nat.le_of_ble_eq_true rfl) ⟨⟨rfl, rfl⟩, by decide, by decide⟩ dX10_lose_1 ⟨rfl, rfl⟩ rfl ?_
  refine r_if_ne X 10 dX10_lose_4 (by decide) h (fun h => ?_) (fun h => ?_)
  · refine r_bipush (v := -2) X dX10_lose_7 (by decide) ?_
    exact r_iretz X rfl dX10_lose_9 h
  · refine r_aload_n X dX10_lose_10 rfl 0 rfl ?_
    refine r_getR (c1 := 27) X fg_X10_88_X10 fM_0 rfl dX10_lose_11 ?_
    refine r_iload_n X dX10_lose_14 rfl 1 rfl ?_
    refine r_zald X fM_27 dX10_lose_15 h (fun h => ?_)
    refine r_if_ne X 25 dX10_lose_16 (by decide) h (fun h => ?_) (fun h => ?_)
    · refine r_aload_n X dX10_lose_19 rfl 0 rfl ?_
      refine r_iconst (v := 1) X dX10_lose_20 (by decide) ?_
      obtain ⟨r4, σ5, hc_6, h⟩ := bnd_of h
      refine r_callV (As := [.int (1 : Int32)]) (rest := []) (st2 := [.int r4]) (c := 0) X cv_X10_177 (c_X10_meets M.2.1 hc_6) rfl (ci := 9) rfl fM_0 rfl rfl (Nat.le_of_ble_eq_true rfl) ⟨⟨rfl, rfl⟩, by decide, by decide⟩ dX10_lose_21 ⟨rfl, rfl⟩ rfl ?_
      exact r_iretz X rfl dX10_lose_24 h
    · refine r_aload_n X dX10_lose_25 rfl 0 rfl ?_
      refine r_getR (c1 := 27) X fg_X10_88_X10 fM_0 rfl dX10_lose_26 ?_
      refine r_iload_n X dX10_lose_29 rfl 1 rfl ?_
      refine r_iconst (v := 0) X dX10_lose_30 (by decide) ?_
      refine r_zast X fM_27 (by decide) dX10_lose_31 h (fun σ3 h => ?_)
      refine r_aload_n X dX10_lose_32 rfl 0 rfl ?_
      refine r_getR (c1 := 29) X fg_X10_95_X10 fM_0 rfl dX10_lose_33 ?_
      refine r_iload_n X dX10_lose_36 rfl 1 rfl ?_
      refine r_iald X fM_29 dX10_lose_37 h (fun h => ?_)
      exact r_iretz X rfl dX10_lose_38 h
set_option maxRecDepth 100000 in
set_option maxHeartbeats 4000000 in
theorem c_X10_lacks (l : Launch) {σ : Sg} {a1 : Int32} {a2 : Int32} {a3 : Int32} {z : Int32 × Sg} (h : f_X10_lacks σ a1 a2 a3 = some z) : am_Met l yX10_lacks cX10_lacks 4 (some .int) { frames := 1, cells := 0, slots := 0, locals := 22 } NM LM (fun ad => [.ref (ad 0), .int a1, .int a2, .int a3]) σ z.2 (fun _ => some (.int z.1)) := by
  refine am_enter (by decide +kernel) (fun ad => Nat.le_of_ble_eq_true rfl) (fun M D cT ad hl X => ?_)
  subst hl
  refine r_lv (lv' := [(0, .ref (ad 0)), (1, .int a1), (2, .int a2), (3, .int a3)]) rfl ?_
  unfold f_X10_lacks at h
  refine r_aload_n X dX10_lacks_0 rfl 0 rfl ?_
  refine r_getR (c1 := 27) X fg_X10_88_X10 fM_0 rfl dX10_lacks_1 ?_
  refine r_iload_n X dX10_lacks_4 rfl 1 rfl ?_
  refine r_zald X fM_27 dX10_lacks_5 h (fun h => ?_)
  refine r_if_ne X 13 dX10_lacks_6 (by decide) h (fun h => ?_) (fun h => ?_)
  · refine r_iconst (v := 1) X dX10_lacks_9 (by decide) ?_
    refine r_goto X 48 dX10_lacks_10 (by decide) ?_
    exact r_iretz X rfl dX10_lacks_48 h
  · refine r_aload_n X dX10_lacks_13 rfl 0 rfl ?_
    refine r_getR (c1 := 28) X fg_X10_92_X10 fM_0 rfl dX10_lacks_14 ?_
    refine r_iload_n X dX10_lacks_17 rfl 1 rfl ?_
    refine r_iald X fM_28 dX10_lacks_18 h (fun h => ?_)
    refine r_iload_n X dX10_lacks_19 rfl 2 rfl ?_
    refine r_icmp_eq X 27 dX10_lacks_20 (by decide) h (fun h => ?_) (fun h => ?_)
    · refine r_iload_n X dX10_lacks_27 rfl 3 rfl ?_
      refine r_iconst (v := 0) X dX10_lacks_28 (by decide) ?_
      refine r_aload_n X dX10_lacks_29 rfl 0 rfl ?_
      refine r_getR (c1 := 29) X fg_X10_95_X10 fM_0 rfl dX10_lacks_30 ?_
      refine r_iload_n X dX10_lacks_33 rfl 1 rfl ?_
      refine r_iald X fM_29 dX10_lacks_34 h (fun h => ?_)
      refine r_iconst (v := 1) X dX10_lacks_35 (by decide) ?_
      refine r_isub X dX10_lacks_36 ?_
      obtain ⟨r1, σ2, hc_3, h⟩ := bnd_of h
      refine r_callS (As := [.int a3, .int (0 : Int32), .int ((σ 29 (a1).toNatClampNeg) - (1 : Int32))]) (rest := []) (st2 := [.int r1]) X cv_X10_106 (c_X10_in M.2.1 hc_3) rfl rfl rfl (Nat.le_of_ble_eq_true rfl) ⟨⟨rfl, rfl⟩, by decide, by decide⟩ dX10_lacks_37 ⟨rfl, rfl⟩ rfl ?_
      refine r_if_eq X 47 dX10_lacks_40 (by decide) h (fun h => ?_) (fun h => ?_)
      · refine r_iconst (v := 2) X dX10_lacks_47 (by decide) ?_
        exact r_iretz X rfl dX10_lacks_48 h
      · refine r_iconst (v := 0) X dX10_lacks_43 (by decide) ?_
        refine r_goto X 48 dX10_lacks_44 (by decide) ?_
        exact r_iretz X rfl dX10_lacks_48 h
    · refine r_iconst (v := 3) X dX10_lacks_23 (by decide) ?_
      refine r_goto X 48 dX10_lacks_24 (by decide) ?_
      exact r_iretz X rfl dX10_lacks_48 h
set_option maxRecDepth 100000 in
set_option maxHeartbeats 4000000 in
theorem t_X10_keep_b40 {M : am_M} {D : va_G} {cT : Nat → ClassId} {ad : Nat → Nat} (X : am_X M (D, cT, ad, NM, LM) cX10_keep RX10 4 none) {z : Unit × Sg} (σ : Sg) (s0 : Int32) (s1 : Int32) (h : f_X10_keep_b40 σ s0 s1 = some z) : am_At M { frames := 0, cells := 0, slots := 0, locals := 0 } (D, cT, ad, NM, LM) (amQv M (D, cT, ad, NM, LM) z) 4 40 [] [.int s0, .int s1, .ref (ad 30)] σ := by
  unfold f_X10_keep_b40 at h
  refine r_iast X fM_30 dX10_keep_40 h (fun σ1 h => ?_)
  exact r_vretz X rfl dX10_keep_41 h
set_option maxRecDepth 100000 in
set_option maxHeartbeats 4000000 in
theorem c_X10_keep (l : Launch) {σ : Sg} {a1 : Int32} {a2 : Int32} {a3 : Int32} {z : Unit × Sg} (h : f_X10_keep σ a1 a2 a3 = some z) : am_Met l yX10_keep cX10_keep 4 none { frames := 0, cells := 0, slots := 0, locals := 0 } NM LM (fun ad => [.ref (ad 0), .int a1, .int a2, .int a3]) σ z.2 (fun _ => none) := by
  refine am_enter (by decide +kernel) (fun ad => Nat.le_of_ble_eq_true rfl) (fun M D cT ad hl X => ?_)
  subst hl
  refine r_lv (lv' := [(0, .ref (ad 0)), (1, .int a1), (2, .int a2), (3, .int a3)]) rfl ?_
  unfold f_X10_keep at h
  refine r_aload_n X dX10_keep_0 rfl 0 rfl ?_
  refine r_getR (c1 := 30) X fg_X10_98_X10 fM_0 rfl dX10_keep_1 ?_
  refine r_bipush (v := 60) X dX10_keep_4 (by decide) ?_
  refine r_iload_n X dX10_keep_6 rfl 1 rfl ?_
  refine r_imul X dX10_keep_7 ?_
  refine r_iload_n X dX10_keep_8 rfl 2 rfl ?_
  refine r_iadd X dX10_keep_9 ?_
  refine r_aload_n X dX10_keep_10 rfl 0 rfl ?_
  refine r_getR (c1 := 28) X fg_X10_92_X10 fM_0 rfl dX10_keep_11 ?_
  refine r_iload_n X dX10_keep_14 rfl 1 rfl ?_
  refine r_iald X fM_28 dX10_keep_15 h (fun h => ?_)
  refine r_if_ne X 24 dX10_keep_16 (by decide) h (fun h => ?_) (fun h => ?_)
  · refine r_iload_n X dX10_keep_19 rfl 3 rfl ?_
    refine r_i2b X dX10_keep_20 ?_
    refine r_goto X 40 dX10_keep_21 (by decide) ?_
    refine r_sub (lv' := []) [] rfl ?_
    exact t_X10_keep_b40 X σ ((a3).toInt8.toInt32) (((60 : Int32) * a1) + a2) h
  · refine r_aload_n X dX10_keep_24 rfl 0 rfl ?_
    refine r_getR (c1 := 28) X fg_X10_92_X10 fM_0 rfl dX10_keep_25 ?_
    refine r_iload_n X dX10_keep_28 rfl 1 rfl ?_
    refine r_iald X fM_28 dX10_keep_29 h (fun h => ?_)
    refine r_iconst (v := 1) X dX10_keep_30 (by decide) ?_
    refine r_icmp_ne X 39 dX10_keep_31 (by decide) h (fun h => ?_) (fun h => ?_)
    · refine r_iload_n X dX10_keep_34 rfl 3 rfl ?_
      refine r_i2s X dX10_keep_35 ?_
      refine r_goto X 40 dX10_keep_36 (by decide) ?_
      refine r_sub (lv' := []) [] rfl ?_
      exact t_X10_keep_b40 X σ ((a3).toInt16.toInt32) (((60 : Int32) * a1) + a2) h
    · refine r_iload_n X dX10_keep_39 rfl 3 rfl ?_
      refine r_sub (lv' := []) [] rfl ?_
      exact t_X10_keep_b40 X σ a3 (((60 : Int32) * a1) + a2) h
set_option maxRecDepth 100000 in
set_option maxHeartbeats 4000000 in
theorem c_X10_put (l : Launch) {σ : Sg} {a1 : Int32} {a2 : Int32} {a3 : Int32} {a4 : Int32} {z : Int32 × Sg} (h : f_X10_put σ a1 a2 a3 a4 = some z) : am_Met l yX10_put cX10_put 6 (some .int) { frames := 2, cells := 0, slots := 0, locals := 45 } NM LM (fun ad => [.ref (ad 0), .int a1, .int a2, .int a3, .int a4]) σ z.2 (fun _ => some (.int z.1)) := by
  refine am_enter (by decide +kernel) (fun ad => Nat.le_of_ble_eq_true rfl) (fun M D cT ad hl X => ?_)
  subst hl
  refine r_lv (lv' := [(0, .ref (ad 0)), (1, .int a1), (2, .int a2), (3, .int a3), (4, .int a4)]) rfl ?_
  unfold f_X10_put at h
  refine r_iload_n X dX10_put_0 rfl 1 rfl ?_
  obtain ⟨r1, σ2, hc_15, h⟩ := bnd_of h
  refine r_callS (As := [.int a1]) (rest := []) (st2 := [.int r1]) X cv_X10_174 (c_X10_isSheet M.2.1 hc_15) rfl rfl rfl (Nat.le_of_ble_eq_true rfl) ⟨⟨rfl, rfl⟩, by decide, by decide⟩ dX10_put_1 ⟨rfl, rfl⟩ rfl ?_
  refine r_if_eq X 16 dX10_put_4 (by decide) h (fun h => ?_) (fun h => ?_)
  · refine r_bipush (v := -2) X dX10_put_16 (by decide) ?_
    exact r_iretz X rfl dX10_put_18 h
  · refine r_iload_n X dX10_put_7 rfl 2 rfl ?_
    refine r_iconst (v := 0) X dX10_put_8 (by decide) ?_
    refine r_iconst (v := 2) X dX10_put_9 (by decide) ?_
    obtain ⟨r3, σ4, hc_14, h⟩ := bnd_of h
    refine r_callS (As := [.int a2, .int (0 : Int32), .int (2 : Int32)]) (rest := []) (st2 := [.int r3]) X cv_X10_106 (c_X10_in M.2.1 hc_14) rfl rfl rfl (Nat.le_of_ble_eq_true rfl) ⟨⟨rfl, rfl⟩, by decide, by decide⟩ dX10_put_10 ⟨rfl, rfl⟩ rfl ?_
    refine r_if_ne X 19 dX10_put_13 (by decide) h (fun h => ?_) (fun h => ?_)
    · refine r_bipush (v := -2) X dX10_put_16 (by decide) ?_
      exact r_iretz X rfl dX10_put_18 h
    · refine r_aload_n X dX10_put_19 rfl 0 rfl ?_
      refine r_iload_n X dX10_put_20 rfl 1 rfl ?_
      refine r_iload_n X dX10_put_21 rfl 2 rfl ?_
      refine r_iload_n X dX10_put_22 rfl 3 rfl ?_
      obtain ⟨r5, σ6, hc_13, h⟩ := bnd_of h
      refine r_callV (As := [.int a1, .int a2, .int a3]) (rest := []) (st2 := [.int r5]) (c := 0) X cv_X10_337 (c_X10_lacks M.2.1 hc_13) rfl (ci := 9) rfl fM_0 rfl rfl (Nat.le_of_ble_eq_true rfl) ⟨⟨rfl, rfl⟩, by decide, by decide⟩ dX10_put_23 ⟨rfl, rfl⟩ rfl ?_
      refine r_istore X [(5, .int r5), (0, .ref (ad 0)), (1, .int a1), (2, .int a2), (3, .int a3), (4, .int a4)] dX10_put_26 (by decide) rfl ?_
      refine r_iload X dX10_put_28 0 rfl ?_
      refine r_if_le X 40 dX10_put_30 (by decide) h (fun h => ?_) (fun h => ?_)
      · refine r_aload_n X dX10_put_40 rfl 1 rfl ?_
        refine r_iload_n X dX10_put_41 rfl 2 rfl ?_
        refine r_iload_n X dX10_put_42 rfl 4 rfl ?_
        refine r_iload X dX10_put_43 5 rfl ?_
        obtain ⟨r7, σ8, hc_9, h⟩ := bnd_of h
        refine r_callV (As := [.int a1, .int a3, .int a4]) (rest := []) (st2 := []) (c := 0) X cv_X10_340 (c_X10_keep M.2.1 hc_9) rfl (ci := 9) rfl fM_0 rfl rfl (Nat.le_of_ble_eq_true rfl) ⟨⟨rfl, rfl⟩, by decide, by decide⟩ dX10_put_45 ⟨rfl, rfl⟩ rfl ?_
        refine r_iconst (v := 1) X dX10_put_48 (by decide) ?_
        exact r_iretz X rfl dX10_put_49 h
      · refine r_aload_n X dX10_put_33 rfl 1 rfl ?_
        refine r_iload X dX10_put_34 0 rfl ?_
        obtain ⟨r10, σ11, hc_12, h⟩ := bnd_of h
        refine r_callV (As := [.int r5]) (rest := []) (st2 := [.int r10]) (c := 0) X cv_X10_177 (c_X10_meets M.2.1 hc_12) rfl (ci := 9) rfl fM_0 rfl rfl (Nat.le_of_ble_eq_true rfl) ⟨⟨rfl, rfl⟩, by decide, by decide⟩ dX10_put_36 ⟨rfl, rfl⟩ rfl ?_
        exact r_iretz X rfl dX10_put_39 h
set_option maxRecDepth 100000 in
set_option maxHeartbeats 4000000 in
theorem c_X10_get (l : Launch) {σ : Sg} {a1 : Int32} {a2 : Int32} {a3 : Int32} {z : Int32 × Sg} (h : f_X10_get σ a1 a2 a3 = some z) : am_Met l yX10_get cX10_get 5 (some .int) { frames := 2, cells := 0, slots := 0, locals := 45 } NM LM (fun ad => [.ref (ad 0), .int a1, .int a2, .int a3]) σ z.2 (fun _ => some (.int z.1)) := by
  refine am_enter (by decide +kernel) (fun ad => Nat.le_of_ble_eq_true rfl) (fun M D cT ad hl X => ?_)
  subst hl
  refine r_lv (lv' := [(0, .ref (ad 0)), (1, .int a1), (2, .int a2), (3, .int a3)]) rfl ?_
  unfold f_X10_get at h
  refine r_iload_n X dX10_get_0 rfl 1 rfl ?_
  obtain ⟨r1, σ2, hc_10, h⟩ := bnd_of h
  refine r_callS (As := [.int a1]) (rest := []) (st2 := [.int r1]) X cv_X10_174 (c_X10_isSheet M.2.1 hc_10) rfl rfl rfl (Nat.le_of_ble_eq_true rfl) ⟨⟨rfl, rfl⟩, by decide, by decide⟩ dX10_get_1 ⟨rfl, rfl⟩ rfl ?_
  refine r_if_eq X 16 dX10_get_4 (by decide) h (fun h => ?_) (fun h => ?_)
  · refine r_ldcw (v := (-2147483648)) X dX10_get_16 bw_824 ?_
    exact r_iretz X rfl dX10_get_19 h
  · refine r_iload_n X dX10_get_7 rfl 2 rfl ?_
    refine r_iconst (v := 0) X dX10_get_8 (by decide) ?_
    refine r_iconst (v := 2) X dX10_get_9 (by decide) ?_
    obtain ⟨r3, σ4, hc_9, h⟩ := bnd_of h
    refine r_callS (As := [.int a2, .int (0 : Int32), .int (2 : Int32)]) (rest := []) (st2 := [.int r3]) X cv_X10_106 (c_X10_in M.2.1 hc_9) rfl rfl rfl (Nat.le_of_ble_eq_true rfl) ⟨⟨rfl, rfl⟩, by decide, by decide⟩ dX10_get_10 ⟨rfl, rfl⟩ rfl ?_
    refine r_if_ne X 20 dX10_get_13 (by decide) h (fun h => ?_) (fun h => ?_)
    · refine r_ldcw (v := (-2147483648)) X dX10_get_16 bw_824 ?_
      exact r_iretz X rfl dX10_get_19 h
    · refine r_aload_n X dX10_get_20 rfl 0 rfl ?_
      refine r_iload_n X dX10_get_21 rfl 1 rfl ?_
      refine r_iload_n X dX10_get_22 rfl 2 rfl ?_
      refine r_iload_n X dX10_get_23 rfl 3 rfl ?_
      obtain ⟨r5, σ6, hc_8, h⟩ := bnd_of h
      refine r_callV (As := [.int a1, .int a2, .int a3]) (rest := []) (st2 := [.int r5]) (c := 0) X cv_X10_337 (c_X10_lacks M.2.1 hc_8) rfl (ci := 9) rfl fM_0 rfl rfl (Nat.le_of_ble_eq_true rfl) ⟨⟨rfl, rfl⟩, by decide, by decide⟩ dX10_get_24 ⟨rfl, rfl⟩ rfl ?_
      refine r_istore X [(4, .int r5), (0, .ref (ad 0)), (1, .int a1), (2, .int a2), (3, .int a3)] dX10_get_27 (by decide) rfl ?_
      refine r_iload X dX10_get_29 0 rfl ?_
      refine r_if_le X 44 dX10_get_31 (by decide) h (fun h => ?_) (fun h => ?_)
      · refine r_aload_n X dX10_get_44 rfl 1 rfl ?_
        refine r_getR (c1 := 30) X fg_X10_98_X10 fM_0 rfl dX10_get_45 ?_
        refine r_bipush (v := 60) X dX10_get_48 (by decide) ?_
        refine r_iload_n X dX10_get_50 rfl 2 rfl ?_
        refine r_imul X dX10_get_51 ?_
        refine r_iload_n X dX10_get_52 rfl 4 rfl ?_
        refine r_iadd X dX10_get_53 ?_
        refine r_iald X fM_30 dX10_get_54 h (fun h => ?_)
        exact r_iretz X rfl dX10_get_55 h
      · refine r_aload_n X dX10_get_34 rfl 1 rfl ?_
        refine r_iload X dX10_get_35 0 rfl ?_
        refine r_putI X fp_X10_334_X10 fM_0 rfl dX10_get_37 h (fun σ7 h => ?_)
        refine r_ldcw (v := (-2147483648)) X dX10_get_40 bw_824 ?_
        exact r_iretz X rfl dX10_get_43 h
set_option maxRecDepth 100000 in
set_option maxHeartbeats 4000000 in
theorem t_X10_copy_b35 {M : am_M} {D : va_G} {cT : Nat → ClassId} {ad : Nat → Nat} (X : am_X M (D, cT, ad, NM, LM) cX10_copy RX10 7 (some .int)) {z : Int32 × Sg} (σ : Sg) (h : f_X10_copy_b35 σ = some z) : am_At M { frames := 2, cells := 0, slots := 0, locals := 42 } (D, cT, ad, NM, LM) (amQi M (D, cT, ad, NM, LM) z) 7 35 [(0, .ref (ad 0))] [] σ := by
  unfold f_X10_copy_b35 at h
  refine r_aload_n X dX10_copy_35 rfl 0 rfl ?_
  refine r_iconst (v := 1) X dX10_copy_36 (by decide) ?_
  obtain ⟨r1, σ2, hc_3, h⟩ := bnd_of h
  refine r_callV (As := [.int (1 : Int32)]) (rest := []) (st2 := [.int r1]) (c := 0) X cv_X10_177 (c_X10_meets M.2.1 hc_3) rfl (ci := 9) rfl fM_0 rfl rfl (Nat.le_of_ble_eq_true rfl) ⟨⟨rfl, rfl⟩, by decide, by decide⟩ dX10_copy_37 ⟨rfl, rfl⟩ rfl ?_
  exact r_iretz X rfl dX10_copy_40 h
set_option maxRecDepth 100000 in
set_option maxHeartbeats 4000000 in
theorem t_X10_copy_b111 {M : am_M} {D : va_G} {cT : Nat → ClassId} {ad : Nat → Nat} (X : am_X M (D, cT, ad, NM, LM) cX10_copy RX10 7 (some .int)) {z : Int32 × Sg} (σ : Sg) (h : f_X10_copy_b111 σ = some z) : am_At M { frames := 2, cells := 0, slots := 0, locals := 42 } (D, cT, ad, NM, LM) (amQi M (D, cT, ad, NM, LM) z) 7 111 [(0, .ref (ad 0))] [] σ := by
  unfold f_X10_copy_b111 at h
  refine r_aload_n X dX10_copy_111 rfl 0 rfl ?_
  refine r_iconst (v := 2) X dX10_copy_112 (by decide) ?_
  obtain ⟨r1, σ2, hc_3, h⟩ := bnd_of h
  refine r_callV (As := [.int (2 : Int32)]) (rest := []) (st2 := [.int r1]) (c := 0) X cv_X10_177 (c_X10_meets M.2.1 hc_3) rfl (ci := 9) rfl fM_0 rfl rfl (Nat.le_of_ble_eq_true rfl) ⟨⟨rfl, rfl⟩, by decide, by decide⟩ dX10_copy_113 ⟨rfl, rfl⟩ rfl ?_
  exact r_iretz X rfl dX10_copy_116 h
set_option maxRecDepth 100000 in
set_option maxHeartbeats 4000000 in
theorem t_X10_copy_b157 {M : am_M} {D : va_G} {cT : Nat → ClassId} {ad : Nat → Nat} (X : am_X M (D, cT, ad, NM, LM) cX10_copy RX10 7 (some .int)) {z : Int32 × Sg} {k157 : Sg → Int32 → Int32 → Int32 → Int32 → Option (Int32 × Sg)} (hk157 : ∀ (σ : Sg) (x3 : Int32) (x4 : Int32) (x5 : Int32) (x6 : Int32), k157 σ x3 x4 x5 x6 = some z → am_At M { frames := 2, cells := 0, slots := 0, locals := 42 } (D, cT, ad, NM, LM) (amQi M (D, cT, ad, NM, LM) z) 7 157 [(0, .ref (ad 0)), (3, .int x3), (4, .int x4), (5, .int x5), (6, .int x6)] [] σ) (σ : Sg) (x3 : Int32) (x4 : Int32) (x5 : Int32) (x6 : Int32) (h : f_X10_copy_b157 k157 σ x3 x4 x5 x6 = some z) : am_At M { frames := 2, cells := 0, slots := 0, locals := 42 } (D, cT, ad, NM, LM) (amQi M (D, cT, ad, NM, LM) z) 7 157 [(0, .ref (ad 0)), (3, .int x3), (4, .int x4), (5, .int x5), (6, .int x6)] [] σ := by
  unfold f_X10_copy_b157 at h
  refine r_iload X dX10_copy_157 4 rfl ?_
  refine r_iload X dX10_copy_159 3 rfl ?_
  refine r_icmp_ge X 192 dX10_copy_161 (by decide) h (fun h => ?_) (fun h => ?_)
  · refine r_iconst (v := 1) X dX10_copy_192 (by decide) ?_
    exact r_iretz X rfl dX10_copy_193 h
  · refine r_aload_n X dX10_copy_164 rfl 0 rfl ?_
    refine r_getR (c1 := 30) X fg_X10_98_X10 fM_0 rfl dX10_copy_165 ?_
    refine r_bipush (v := 60) X dX10_copy_168 (by decide) ?_
    refine r_iload_n X dX10_copy_170 rfl 1 rfl ?_
    refine r_imul X dX10_copy_171 ?_
    refine r_iload X dX10_copy_172 2 rfl ?_
    refine r_iadd X dX10_copy_174 ?_
    refine r_iload X dX10_copy_175 4 rfl ?_
    refine r_iadd X dX10_copy_177 ?_
    refine r_aload_n X dX10_copy_178 rfl 0 rfl ?_
    refine r_getR (c1 := 31) X fg_X10_101_X10 fM_0 rfl dX10_copy_179 ?_
    refine r_iload X dX10_copy_182 4 rfl ?_
    refine r_iald X fM_31 dX10_copy_184 h (fun h => ?_)
    refine r_iast X fM_30 dX10_copy_185 h (fun σ1 h => ?_)
    refine r_iinc X [(6, .int (x6 + (1 : Int32))), (0, .ref (ad 0)), (3, .int x3), (4, .int x4), (5, .int x5)] dX10_copy_186 4 rfl (v := x6 + (1 : Int32)) (by rfl) (by decide) rfl ?_
    refine r_letv h (fun v2 h => ?_)
    refine r_goto X 157 dX10_copy_189 (by decide) ?_
    refine r_sub (lv' := [(0, .ref (ad 0)), (3, .int x3), (4, .int x4), (5, .int x5), (6, .int v2)]) [1, 2, 3, 4, 0] rfl ?_
    exact hk157 σ1 x3 x4 x5 v2 h
theorem t_X10_copy_l157 {M : am_M} {D : va_G} {cT : Nat → ClassId} {ad : Nat → Nat} (X : am_X M (D, cT, ad, NM, LM) cX10_copy RX10 7 (some .int)) {z : Int32 × Sg} (n : Nat) : ∀ (σ : Sg) (x3 : Int32) (x4 : Int32) (x5 : Int32) (x6 : Int32), f_X10_copy_l157 n σ x3 x4 x5 x6 = some z → am_At M { frames := 2, cells := 0, slots := 0, locals := 42 } (D, cT, ad, NM, LM) (amQi M (D, cT, ad, NM, LM) z) 7 157 [(0, .ref (ad 0)), (3, .int x3), (4, .int x4), (5, .int x5), (6, .int x6)] [] σ := by
  induction n with
  | zero =>
    intro σ x3 x4 x5 x6 h
    have h2 : (none : Option (Int32 × Sg)) = some z := h
    cases h2
  | succ n ih =>
    intro σ x3 x4 x5 x6 h
    exact t_X10_copy_b157 X (k157 := f_X10_copy_l157 n) ih σ x3 x4 x5 x6 h
set_option maxRecDepth 100000 in
set_option maxHeartbeats 4000000 in
theorem t_X10_copy_b120 {M : am_M} {D : va_G} {cT : Nat → ClassId} {ad : Nat → Nat} (X : am_X M (D, cT, ad, NM, LM) cX10_copy RX10 7 (some .int)) {z : Int32 × Sg} {k120 : Sg → Int32 → Int32 → Int32 → Int32 → Int32 → Int32 → Option (Int32 × Sg)} (hk120 : ∀ (σ : Sg) (x1 : Int32) (x2 : Int32) (x3 : Int32) (x4 : Int32) (x5 : Int32) (x6 : Int32), k120 σ x1 x2 x3 x4 x5 x6 = some z → am_At M { frames := 2, cells := 0, slots := 0, locals := 42 } (D, cT, ad, NM, LM) (amQi M (D, cT, ad, NM, LM) z) 7 120 [(0, .ref (ad 0)), (1, .int x1), (2, .int x2), (3, .int x3), (4, .int x4), (5, .int x5), (6, .int x6)] [] σ) (σ : Sg) (x1 : Int32) (x2 : Int32) (x3 : Int32) (x4 : Int32) (x5 : Int32) (x6 : Int32) (h : f_X10_copy_b120 k120 σ x1 x2 x3 x4 x5 x6 = some z) : am_At M { frames := 2, cells := 0, slots := 0, locals := 42 } (D, cT, ad, NM, LM) (amQi M (D, cT, ad, NM, LM) z) 7 120 [(0, .ref (ad 0)), (1, .int x1), (2, .int x2), (3, .int x3), (4, .int x4), (5, .int x5), (6, .int x6)] [] σ := by
  unfold f_X10_copy_b120 at h
  refine r_iload X dX10_copy_120 6 rfl ?_
  refine r_iload X dX10_copy_122 5 rfl ?_
  refine r_icmp_ge X 154 dX10_copy_124 (by decide) h (fun h => ?_) (fun h => ?_)
  · refine r_iconst (v := 0) X dX10_copy_154 (by decide) ?_
    refine r_istore X [(6, .int (0 : Int32)), (0, .ref (ad 0)), (1, .int x1), (2, .int x2), (3, .int x3), (4, .int x4), (5, .int x5)] dX10_copy_155 (by decide) rfl ?_
    refine r_sub (lv' := [(0, .ref (ad 0)), (3, .int x3), (4, .int x4), (5, .int x5), (6, .int (0 : Int32))]) [1, 4, 5, 6, 0] rfl ?_
    exact t_X10_copy_l157 X 300 σ x3 x4 x5 (0 : Int32) h
  · refine r_aload_n X dX10_copy_127 rfl 0 rfl ?_
    refine r_getR (c1 := 31) X fg_X10_101_X10 fM_0 rfl dX10_copy_128 ?_
    refine r_iload X dX10_copy_131 6 rfl ?_
    refine r_aload_n X dX10_copy_133 rfl 0 rfl ?_
    refine r_getR (c1 := 30) X fg_X10_98_X10 fM_0 rfl dX10_copy_134 ?_
    refine r_bipush (v := 60) X dX10_copy_137 (by decide) ?_
    refine r_iload_n X dX10_copy_139 rfl 1 rfl ?_
    refine r_imul X dX10_copy_140 ?_
    refine r_iload_n X dX10_copy_141 rfl 2 rfl ?_
    refine r_iadd X dX10_copy_142 ?_
    refine r_iload X dX10_copy_143 6 rfl ?_
    refine r_iadd X dX10_copy_145 ?_
    refine r_iald X fM_30 dX10_copy_146 h (fun h => ?_)
    refine r_iast X fM_31 dX10_copy_147 h (fun σ1 h => ?_)
    refine r_iinc X [(6, .int (x6 + (1 : Int32))), (0, .ref (ad 0)), (1, .int x1), (2, .int x2), (3, .int x3), (4, .int x4), (5, .int x5)] dX10_copy_148 6 rfl (v := x6 + (1 : Int32)) (by rfl) (by decide) rfl ?_
    refine r_letv h (fun v2 h => ?_)
    refine r_goto X 120 dX10_copy_151 (by decide) ?_
    refine r_sub (lv' := [(0, .ref (ad 0)), (1, .int x1), (2, .int x2), (3, .int x3), (4, .int x4), (5, .int x5), (6, .int v2)]) [1, 2, 3, 4, 5, 6, 0] rfl ?_
    exact hk120 σ1 x1 x2 x3 x4 x5 v2 h
theorem t_X10_copy_l120 {M : am_M} {D : va_G} {cT : Nat → ClassId} {ad : Nat → Nat} (X : am_X M (D, cT, ad, NM, LM) cX10_copy RX10 7 (some .int)) {z : Int32 × Sg} (n : Nat) : ∀ (σ : Sg) (x1 : Int32) (x2 : Int32) (x3 : Int32) (x4 : Int32) (x5 : Int32) (x6 : Int32), f_X10_copy_l120 n σ x1 x2 x3 x4 x5 x6 = some z → am_At M { frames := 2, cells := 0, slots := 0, locals := 42 } (D, cT, ad, NM, LM) (amQi M (D, cT, ad, NM, LM) z) 7 120 [(0, .ref (ad 0)), (1, .int x1), (2, .int x2), (3, .int x3), (4, .int x4), (5, .int x5), (6, .int x6)] [] σ := by
  induction n with
  | zero =>
    intro σ x1 x2 x3 x4 x5 x6 h
    have h2 : (none : Option (Int32 × Sg)) = some z := h
    cases h2
  | succ n ih =>
    intro σ x1 x2 x3 x4 x5 x6 h
    exact t_X10_copy_b120 X (k120 := f_X10_copy_l120 n) ih σ x1 x2 x3 x4 x5 x6 h
set_option maxRecDepth 100000 in
set_option maxHeartbeats 4000000 in
theorem c_X10_copy (l : Launch) {σ : Sg} {a1 : Int32} {a2 : Int32} {a3 : Int32} {a4 : Int32} {a5 : Int32} {z : Int32 × Sg} (h : f_X10_copy σ a1 a2 a3 a4 a5 = some z) : am_Met l yX10_copy cX10_copy 7 (some .int) { frames := 2, cells := 0, slots := 0, locals := 42 } NM LM (fun ad => [.ref (ad 0), .int a1, .int a2, .int a3, .int a4, .int a5]) σ z.2 (fun _ => some (.int z.1)) := by
  refine am_enter (by decide +kernel) (fun ad => Nat.le_of_ble_eq_true rfl) (fun M D cT ad hl X => ?_)
  subst hl
  refine r_lv (lv' := [(0, .ref (ad 0)), (1, .int a1), (2, .int a2), (3, .int a3), (4, .int a4), (5, .int a5)]) rfl ?_
  unfold f_X10_copy at h
  refine r_iload_n X dX10_copy_0 rfl 1 rfl ?_
  obtain ⟨r1, σ2, hc_9, h⟩ := bnd_of h
  refine r_callS (As := [.int a1]) (rest := []) (st2 := [.int r1]) X cv_X10_174 (c_X10_isSheet M.2.1 hc_9) rfl rfl rfl (Nat.le_of_ble_eq_true rfl) ⟨⟨rfl, rfl⟩, by decide, by decide⟩ dX10_copy_1 ⟨rfl, rfl⟩ rfl ?_
  refine r_if_eq X 14 dX10_copy_4 (by decide) h (fun h => ?_) (fun h => ?_)
  · refine r_bipush (v := -2) X dX10_copy_14 (by decide) ?_
    exact r_iretz X rfl dX10_copy_16 h
  · refine r_iload_n X dX10_copy_7 rfl 3 rfl ?_
    obtain ⟨r3, σ4, hc_8, h⟩ := bnd_of h
    refine r_callS (As := [.int a3]) (rest := []) (st2 := [.int r3]) X cv_X10_174 (c_X10_isSheet M.2.1 hc_8) rfl rfl rfl (Nat.le_of_ble_eq_true rfl) ⟨⟨rfl, rfl⟩, by decide, by decide⟩ dX10_copy_8 ⟨rfl, rfl⟩ rfl ?_
    refine r_if_ne X 17 dX10_copy_11 (by decide) h (fun h => ?_) (fun h => ?_)
    · refine r_bipush (v := -2) X dX10_copy_14 (by decide) ?_
      exact r_iretz X rfl dX10_copy_16 h
    · refine r_aload_n X dX10_copy_17 rfl 0 rfl ?_
      refine r_getR (c1 := 27) X fg_X10_88_X10 fM_0 rfl dX10_copy_18 ?_
      refine r_iload_n X dX10_copy_21 rfl 1 rfl ?_
      refine r_zald X fM_27 dX10_copy_22 h (fun h => ?_)
      refine r_if_eq X 35 dX10_copy_23 (by decide) h (fun h => ?_) (fun h => ?_)
      · refine r_sub (lv' := [(0, .ref (ad 0))]) [0] rfl ?_
        exact t_X10_copy_b35 X σ4 h
      · refine r_aload_n X dX10_copy_26 rfl 0 rfl ?_
        refine r_getR (c1 := 27) X fg_X10_88_X10 fM_0 rfl dX10_copy_27 ?_
        refine r_iload_n X dX10_copy_30 rfl 3 rfl ?_
        refine r_zald X fM_27 dX10_copy_31 h (fun h => ?_)
        refine r_if_ne X 41 dX10_copy_32 (by decide) h (fun h => ?_) (fun h => ?_)
        · refine r_sub (lv' := [(0, .ref (ad 0))]) [0] rfl ?_
          exact t_X10_copy_b35 X σ4 h
        · refine r_aload_n X dX10_copy_41 rfl 0 rfl ?_
          refine r_getR (c1 := 28) X fg_X10_92_X10 fM_0 rfl dX10_copy_42 ?_
          refine r_iload_n X dX10_copy_45 rfl 1 rfl ?_
          refine r_iald X fM_28 dX10_copy_46 h (fun h => ?_)
          refine r_aload_n X dX10_copy_47 rfl 0 rfl ?_
          refine r_getR (c1 := 28) X fg_X10_92_X10 fM_0 rfl dX10_copy_48 ?_
          refine r_iload_n X dX10_copy_51 rfl 3 rfl ?_
          refine r_iald X fM_28 dX10_copy_52 h (fun h => ?_)
          refine r_icmp_eq X 62 dX10_copy_53 (by decide) h (fun h => ?_) (fun h => ?_)
          · refine r_iload_n X dX10_copy_62 rfl 2 rfl ?_
            refine r_if_lt X 111 dX10_copy_63 (by decide) h (fun h => ?_) (fun h => ?_)
            · refine r_sub (lv' := [(0, .ref (ad 0))]) [0] rfl ?_
              exact t_X10_copy_b111 X σ4 h
            · refine r_iload X dX10_copy_66 4 rfl ?_
              refine r_if_lt X 111 dX10_copy_68 (by decide) h (fun h => ?_) (fun h => ?_)
              · refine r_sub (lv' := [(0, .ref (ad 0))]) [0] rfl ?_
                exact t_X10_copy_b111 X σ4 h
              · refine r_iload X dX10_copy_71 5 rfl ?_
                refine r_if_lt X 111 dX10_copy_73 (by decide) h (fun h => ?_) (fun h => ?_)
                · refine r_sub (lv' := [(0, .ref (ad 0))]) [0] rfl ?_
                  exact t_X10_copy_b111 X σ4 h
                · refine r_iload_n X dX10_copy_76 rfl 2 rfl ?_
                  refine r_i2l X dX10_copy_77 ?_
                  refine r_iload X dX10_copy_78 5 rfl ?_
                  refine r_i2l X dX10_copy_80 ?_
                  refine r_ladd X dX10_copy_81 ?_
                  refine r_aload_n X dX10_copy_82 rfl 0 rfl ?_
                  refine r_getR (c1 := 29) X fg_X10_95_X10 fM_0 rfl dX10_copy_83 ?_
                  refine r_iload_n X dX10_copy_86 rfl 1 rfl ?_
                  refine r_iald X fM_29 dX10_copy_87 h (fun h => ?_)
                  refine r_i2l X dX10_copy_88 ?_
                  refine r_lcmp X dX10_copy_89 ?_
                  refine r_if_gt X 111 dX10_copy_90 (by decide) h (fun h => ?_) (fun h => ?_)
                  · refine r_sub (lv' := [(0, .ref (ad 0))]) [0] rfl ?_
                    exact t_X10_copy_b111 X σ4 h
                  · refine r_iload X dX10_copy_93 4 rfl ?_
                    refine r_i2l X dX10_copy_95 ?_
                    refine r_iload X dX10_copy_96 5 rfl ?_
                    refine r_i2l X dX10_copy_98 ?_
                    refine r_ladd X dX10_copy_99 ?_
                    refine r_aload_n X dX10_copy_100 rfl 0 rfl ?_
                    refine r_getR (c1 := 29) X fg_X10_95_X10 fM_0 rfl dX10_copy_101 ?_
                    refine r_iload_n X dX10_copy_104 rfl 3 rfl ?_
                    refine r_iald X fM_29 dX10_copy_105 h (fun h => ?_)
                    refine r_i2l X dX10_copy_106 ?_
                    refine r_lcmp X dX10_copy_107 ?_
                    refine r_if_le X 117 dX10_copy_108 (by decide) h (fun h => ?_) (fun h => ?_)
                    · refine r_iconst (v := 0) X dX10_copy_117 (by decide) ?_
                      refine r_istore X [(6, .int (0 : Int32)), (0, .ref (ad 0)), (1, .int a1), (2, .int a2), (3, .int a3), (4, .int a4), (5, .int a5)] dX10_copy_118 (by decide) rfl ?_
                      refine r_sub (lv' := [(0, .ref (ad 0)), (1, .int a1), (2, .int a2), (3, .int a3), (4, .int a4), (5, .int a5), (6, .int (0 : Int32))]) [1, 2, 3, 4, 5, 6, 0] rfl ?_
                      exact t_X10_copy_l120 X 300 σ4 a1 a2 a3 a4 a5 (0 : Int32) h
                    · refine r_sub (lv' := [(0, .ref (ad 0))]) [0] rfl ?_
                      exact t_X10_copy_b111 X σ4 h
          · refine r_aload_n X dX10_copy_56 rfl 0 rfl ?_
            refine r_iconst (v := 4) X dX10_copy_57 (by decide) ?_
            obtain ⟨r5, σ6, hc_7, h⟩ := bnd_of h
            refine r_callV (As := [.int (4 : Int32)]) (rest := []) (st2 := [.int r5]) (c := 0) X cv_X10_177 (c_X10_meets M.2.1 hc_7) rfl (ci := 9) rfl fM_0 rfl rfl (Nat.le_of_ble_eq_true rfl) ⟨⟨rfl, rfl⟩, by decide, by decide⟩ dX10_copy_58 ⟨rfl, rfl⟩ rfl ?_
            exact r_iretz X rfl dX10_copy_61 h
set_option maxRecDepth 100000 in
set_option maxHeartbeats 4000000 in
theorem t_X10_write_b39 {M : am_M} {D : va_G} {cT : Nat → ClassId} {ad : Nat → Nat} (X : am_X M (D, cT, ad, NM, LM) cX10_write RX10 4 (some .int)) {z : Int32 × Sg} {k39 : Sg → Int32 → Int32 → Int32 → Option (Int32 × Sg)} (hk39 : ∀ (σ : Sg) (x1 : Int32) (x2 : Int32) (x3 : Int32), k39 σ x1 x2 x3 = some z → am_At M { frames := 8, cells := 0, slots := 0, locals := 179 } (D, cT, ad, NM, LM) (amQi M (D, cT, ad, NM, LM) z) 4 39 [(0, .ref (ad 0)), (1, .int x1), (2, .int x2), (3, .int x3)] [] σ) (σ : Sg) (x1 : Int32) (x2 : Int32) (x3 : Int32) (h : f_X10_write_b39 k39 σ x1 x2 x3 = some z) : am_At M { frames := 8, cells := 0, slots := 0, locals := 179 } (D, cT, ad, NM, LM) (amQi M (D, cT, ad, NM, LM) z) 4 39 [(0, .ref (ad 0)), (1, .int x1), (2, .int x2), (3, .int x3)] [] σ := by
  unfold f_X10_write_b39 at h
  refine r_iload_n X dX10_write_39 rfl 3 rfl ?_
  refine r_aload_n X dX10_write_40 rfl 0 rfl ?_
  refine r_getR (c1 := 29) X fg_X10_95_X10 fM_0 rfl dX10_write_41 ?_
  refine r_iload_n X dX10_write_44 rfl 2 rfl ?_
  refine r_iald X fM_29 dX10_write_45 h (fun h => ?_)
  refine r_icmp_ge X 78 dX10_write_46 (by decide) h (fun h => ?_) (fun h => ?_)
  · refine r_iload_n X dX10_write_78 rfl 3 rfl ?_
    exact r_iretz X rfl dX10_write_79 h
  · refine r_iload_n X dX10_write_49 rfl 3 rfl ?_
    refine r_bipush (v := 24) X dX10_write_50 (by decide) ?_
    refine r_icmp_ge X 78 dX10_write_52 (by decide) h (fun h => ?_) (fun h => ?_)
    · refine r_iload_n X dX10_write_78 rfl 3 rfl ?_
      exact r_iretz X rfl dX10_write_79 h
    · refine r_aload_n X dX10_write_55 rfl 0 rfl ?_
      refine r_iload_n X dX10_write_56 rfl 2 rfl ?_
      refine r_iload_n X dX10_write_57 rfl 3 rfl ?_
      refine r_aload_n X dX10_write_58 rfl 0 rfl ?_
      refine r_getR (c1 := 18) X fg_X10_61_X10 fM_0 rfl dX10_write_59 ?_
      refine r_bipush (v := 8) X dX10_write_62 (by decide) ?_
      refine r_iload_n X dX10_write_64 rfl 3 rfl ?_
      refine r_imul X dX10_write_65 ?_
      refine r_iload_n X dX10_write_66 rfl 1 rfl ?_
      refine r_iadd X dX10_write_67 ?_
      refine r_iald X fM_18 dX10_write_68 h (fun h => ?_)
      obtain ⟨r1, σ2, hc_4, h⟩ := bnd_of h
      refine r_callV (As := [.int x2, .int x3, .int (σ 18 ((((8 : Int32) * x3) + x1)).toNatClampNeg)]) (rest := []) (st2 := []) (c := 0) X cv_X10_340 (c_X10_keep M.2.1 hc_4) rfl (ci := 9) rfl fM_0 rfl rfl (Nat.le_of_ble_eq_true rfl) ⟨⟨rfl, rfl⟩, by decide, by decide⟩ dX10_write_69 ⟨rfl, rfl⟩ rfl ?_
      refine r_iinc X [(3, .int (x3 + (1 : Int32))), (0, .ref (ad 0)), (1, .int x1), (2, .int x2)] dX10_write_72 3 rfl (v := x3 + (1 : Int32)) (by rfl) (by decide) rfl ?_
      refine r_letv h (fun v3 h => ?_)
      refine r_goto X 39 dX10_write_75 (by decide) ?_
      refine r_sub (lv' := [(0, .ref (ad 0)), (1, .int x1), (2, .int x2), (3, .int v3)]) [1, 2, 3, 0] rfl ?_
      exact hk39 σ2 x1 x2 v3 h
theorem t_X10_write_l39 {M : am_M} {D : va_G} {cT : Nat → ClassId} {ad : Nat → Nat} (X : am_X M (D, cT, ad, NM, LM) cX10_write RX10 4 (some .int)) {z : Int32 × Sg} (n : Nat) : ∀ (σ : Sg) (x1 : Int32) (x2 : Int32) (x3 : Int32), f_X10_write_l39 n σ x1 x2 x3 = some z → am_At M { frames := 8, cells := 0, slots := 0, locals := 179 } (D, cT, ad, NM, LM) (amQi M (D, cT, ad, NM, LM) z) 4 39 [(0, .ref (ad 0)), (1, .int x1), (2, .int x2), (3, .int x3)] [] σ := by
  induction n with
  | zero =>
    intro σ x1 x2 x3 h
    have h2 : (none : Option (Int32 × Sg)) = some z := h
    cases h2
  | succ n ih =>
    intro σ x1 x2 x3 h
    exact t_X10_write_b39 X (k39 := f_X10_write_l39 n) ih σ x1 x2 x3 h
set_option maxRecDepth 100000 in
set_option maxHeartbeats 4000000 in
theorem c_X10_write (l : Launch) {σ : Sg} {a1 : Int32} {a2 : Int32} {z : Int32 × Sg} (h : f_X10_write σ a1 a2 = some z) : am_Met l yX10_write cX10_write 4 (some .int) { frames := 8, cells := 0, slots := 0, locals := 179 } NM LM (fun ad => [.ref (ad 0), .int a1, .int a2]) σ z.2 (fun _ => some (.int z.1)) := by
  refine am_enter (by decide +kernel) (fun ad => Nat.le_of_ble_eq_true rfl) (fun M D cT ad hl X => ?_)
  subst hl
  refine r_lv (lv' := [(0, .ref (ad 0)), (1, .int a1), (2, .int a2)]) rfl ?_
  unfold f_X10_write at h
  refine r_aload_n X dX10_write_0 rfl 0 rfl ?_
  refine r_iload_n X dX10_write_1 rfl 1 rfl ?_
  obtain ⟨r1, σ2, hc_12, h⟩ := bnd_of h
  refine r_callV (As := [.int a1]) (rest := []) (st2 := [.int r1]) (c := 0) X cv_X10_153 (c_X10_isOne M.2.1 hc_12) rfl (ci := 9) rfl fM_0 rfl rfl (Nat.le_of_ble_eq_true rfl) ⟨⟨rfl, rfl⟩, by decide, by decide⟩ dX10_write_2 ⟨rfl, rfl⟩ rfl ?_
  refine r_if_eq X 15 dX10_write_5 (by decide) h (fun h => ?_) (fun h => ?_)
  · refine r_bipush (v := -2) X dX10_write_15 (by decide) ?_
    exact r_iretz X rfl dX10_write_17 h
  · refine r_iload_n X dX10_write_8 rfl 2 rfl ?_
    obtain ⟨r3, σ4, hc_11, h⟩ := bnd_of h
    refine r_callS (As := [.int a2]) (rest := []) (st2 := [.int r3]) X cv_X10_174 (c_X10_isSheet M.2.1 hc_11) rfl rfl rfl (Nat.le_of_ble_eq_true rfl) ⟨⟨rfl, rfl⟩, by decide, by decide⟩ dX10_write_9 ⟨rfl, rfl⟩ rfl ?_
    refine r_if_ne X 18 dX10_write_12 (by decide) h (fun h => ?_) (fun h => ?_)
    · refine r_bipush (v := -2) X dX10_write_15 (by decide) ?_
      exact r_iretz X rfl dX10_write_17 h
    · refine r_aload_n X dX10_write_18 rfl 0 rfl ?_
      refine r_getR (c1 := 27) X fg_X10_88_X10 fM_0 rfl dX10_write_19 ?_
      refine r_iload_n X dX10_write_22 rfl 2 rfl ?_
      refine r_zald X fM_27 dX10_write_23 h (fun h => ?_)
      refine r_if_ne X 33 dX10_write_24 (by decide) h (fun h => ?_) (fun h => ?_)
      · refine r_aload_n X dX10_write_27 rfl 0 rfl ?_
        refine r_iconst (v := 1) X dX10_write_28 (by decide) ?_
        obtain ⟨r8, σ9, hc_10, h⟩ := bnd_of h
        refine r_callV (As := [.int (1 : Int32)]) (rest := []) (st2 := [.int r8]) (c := 0) X cv_X10_177 (c_X10_meets M.2.1 hc_10) rfl (ci := 9) rfl fM_0 rfl rfl (Nat.le_of_ble_eq_true rfl) ⟨⟨rfl, rfl⟩, by decide, by decide⟩ dX10_write_29 ⟨rfl, rfl⟩ rfl ?_
        exact r_iretz X rfl dX10_write_32 h
      · refine r_aload_n X dX10_write_33 rfl 0 rfl ?_
        obtain ⟨r5, σ6, hc_7, h⟩ := bnd_of h
        refine r_callV (As := []) (rest := []) (st2 := []) (c := 0) X cv_X10_235 (c_X10_runsTold M.2.1 hc_7) rfl (ci := 9) rfl fM_0 rfl rfl (Nat.le_of_ble_eq_true rfl) ⟨⟨rfl, rfl⟩, by decide, by decide⟩ dX10_write_34 ⟨rfl, rfl⟩ rfl ?_
        refine r_iconst (v := 0) X dX10_write_37 (by decide) ?_
        refine r_istore_n X [(3, .int (0 : Int32)), (0, .ref (ad 0)), (1, .int a1), (2, .int a2)] dX10_write_38 rfl (by decide) rfl ?_
        refine r_sub (lv' := [(0, .ref (ad 0)), (1, .int a1), (2, .int a2), (3, .int (0 : Int32))]) [1, 2, 3, 0] rfl ?_
        exact t_X10_write_l39 X 300 σ6 a1 a2 (0 : Int32) h
set_option maxRecDepth 100000 in
set_option maxHeartbeats 4000000 in
theorem c_X10_sumOf (l : Launch) {σ : Sg} {a1 : Int32} {z : Int32 × Sg} (h : f_X10_sumOf σ a1 = some z) : am_Met l yX10_sumOf cX10_sumOf 2 (some .int) { frames := 8, cells := 0, slots := 0, locals := 179 } NM LM (fun ad => [.ref (ad 0), .int a1]) σ z.2 (fun _ => some (.int z.1)) := by
  refine am_enter (by decide +kernel) (fun ad => Nat.le_of_ble_eq_true rfl) (fun M D cT ad hl X => ?_)
  subst hl
  refine r_lv (lv' := [(0, .ref (ad 0)), (1, .int a1)]) rfl ?_
  unfold f_X10_sumOf at h
  refine r_aload_n X dX10_sumOf_0 rfl 0 rfl ?_
  obtain ⟨r1, σ2, hc_6, h⟩ := bnd_of h
  refine r_callV (As := []) (rest := []) (st2 := []) (c := 0) X cv_X10_235 (c_X10_runsTold M.2.1 hc_6) rfl (ci := 9) rfl fM_0 rfl rfl (Nat.le_of_ble_eq_true rfl) ⟨⟨rfl, rfl⟩, by decide, by decide⟩ dX10_sumOf_1 ⟨rfl, rfl⟩ rfl ?_
  refine r_iload_n X dX10_sumOf_4 rfl 1 rfl ?_
  refine r_if_ne X 15 dX10_sumOf_5 (by decide) h (fun h => ?_) (fun h => ?_)
  · refine r_aload_n X dX10_sumOf_8 rfl 0 rfl ?_
    refine r_getI X fg_X10_130_X10 fM_0 rfl dX10_sumOf_9 ?_
    refine r_goto X 43 dX10_sumOf_12 (by decide) ?_
    exact r_iretz X rfl dX10_sumOf_43 h
  · refine r_iload_n X dX10_sumOf_15 rfl 1 rfl ?_
    refine r_iconst (v := 1) X dX10_sumOf_16 (by decide) ?_
    refine r_icmp_ne X 27 dX10_sumOf_17 (by decide) h (fun h => ?_) (fun h => ?_)
    · refine r_aload_n X dX10_sumOf_20 rfl 0 rfl ?_
      refine r_getI X fg_X10_134_X10 fM_0 rfl dX10_sumOf_21 ?_
      refine r_goto X 43 dX10_sumOf_24 (by decide) ?_
      exact r_iretz X rfl dX10_sumOf_43 h
    · refine r_iload_n X dX10_sumOf_27 rfl 1 rfl ?_
      refine r_iconst (v := 5) X dX10_sumOf_28 (by decide) ?_
      refine r_icmp_ne X 39 dX10_sumOf_29 (by decide) h (fun h => ?_) (fun h => ?_)
      · refine r_aload_n X dX10_sumOf_32 rfl 0 rfl ?_
        obtain ⟨r3, σ4, hc_5, h⟩ := bnd_of h
        refine r_callV (As := []) (rest := []) (st2 := [.int r3]) (c := 0) X cv_X10_275 (c_X10_metNow M.2.1 hc_5) rfl (ci := 9) rfl fM_0 rfl rfl (Nat.le_of_ble_eq_true rfl) ⟨⟨rfl, rfl⟩, by decide, by decide⟩ dX10_sumOf_33 ⟨rfl, rfl⟩ rfl ?_
        refine r_goto X 43 dX10_sumOf_36 (by decide) ?_
        exact r_iretz X rfl dX10_sumOf_43 h
      · refine r_aload_n X dX10_sumOf_39 rfl 0 rfl ?_
        refine r_getI X fg_X10_197_X10 fM_0 rfl dX10_sumOf_40 ?_
        exact r_iretz X rfl dX10_sumOf_43 h
set_option maxRecDepth 100000 in
set_option maxHeartbeats 4000000 in
theorem t_X10_count_b52 {M : am_M} {D : va_G} {cT : Nat → ClassId} {ad : Nat → Nat} (X : am_X M (D, cT, ad, NM, LM) cX10_count RX10 2 (some .int)) {z : Int32 × Sg} (σ : Sg) (x1 : Int32) (h : f_X10_count_b52 σ x1 = some z) : am_At M { frames := 9, cells := 0, slots := 0, locals := 200 } (D, cT, ad, NM, LM) (amQi M (D, cT, ad, NM, LM) z) 2 52 [(0, .ref (ad 0)), (1, .int x1)] [] σ := by
  unfold f_X10_count_b52 at h
  refine r_aload_n X dX10_count_52 rfl 0 rfl ?_
  refine r_iload_n X dX10_count_53 rfl 1 rfl ?_
  obtain ⟨r1, σ2, hc_3, h⟩ := bnd_of h
  refine r_callV (As := [.int x1]) (rest := []) (st2 := [.int r1]) (c := 0) X cv_X10_345 (c_X10_sumOf M.2.1 hc_3) rfl (ci := 9) rfl fM_0 rfl rfl (Nat.le_of_ble_eq_true rfl) ⟨⟨rfl, rfl⟩, by decide, by decide⟩ dX10_count_54 ⟨rfl, rfl⟩ rfl ?_
  exact r_iretz X rfl dX10_count_57 h
set_option maxRecDepth 100000 in
set_option maxHeartbeats 4000000 in
theorem t_X10_count_b58 {M : am_M} {D : va_G} {cT : Nat → ClassId} {ad : Nat → Nat} (X : am_X M (D, cT, ad, NM, LM) cX10_count RX10 2 (some .int)) {z : Int32 × Sg} (σ : Sg) (x1 : Int32) (h : f_X10_count_b58 σ x1 = some z) : am_At M { frames := 9, cells := 0, slots := 0, locals := 200 } (D, cT, ad, NM, LM) (amQi M (D, cT, ad, NM, LM) z) 2 58 [(0, .ref (ad 0)), (1, .int x1)] [] σ := by
  unfold f_X10_count_b58 at h
  refine r_aload_n X dX10_count_58 rfl 0 rfl ?_
  refine r_getR (c1 := 1) X fg_X10_7_X10 fM_0 rfl dX10_count_59 ?_
  refine r_iload_n X dX10_count_62 rfl 1 rfl ?_
  refine r_iconst (v := 2) X dX10_count_63 (by decide) ?_
  refine r_isub X dX10_count_64 ?_
  refine r_iald X fM_1 dX10_count_65 h (fun h => ?_)
  exact r_iretz X rfl dX10_count_66 h
set_option maxRecDepth 100000 in
set_option maxHeartbeats 4000000 in
theorem c_X10_count (l : Launch) {σ : Sg} {a1 : Int32} {z : Int32 × Sg} (h : f_X10_count σ a1 = some z) : am_Met l yX10_count cX10_count 2 (some .int) { frames := 9, cells := 0, slots := 0, locals := 200 } NM LM (fun ad => [.ref (ad 0), .int a1]) σ z.2 (fun _ => some (.int z.1)) := by
  refine am_enter (by decide +kernel) (fun ad => Nat.le_of_ble_eq_true rfl) (fun M D cT ad hl X => ?_)
  subst hl
  refine r_lv (lv' := [(0, .ref (ad 0)), (1, .int a1)]) rfl ?_
  unfold f_X10_count at h
  refine r_iload_n X dX10_count_0 rfl 1 rfl ?_
  obtain ⟨hA, hB⟩ := ite_of h
  by_cases q1_0 : a1 = 0
  · have h := hA q1_0
    refine r_tabIn (kx := 0) (off := 51) X 52 dX10_count_1 q1_0 (by decide) (by decide) (by decide) (by decide) ?_
    exact t_X10_count_b52 X σ a1 h
  · have h := hB q1_0
    obtain ⟨hA, hB⟩ := ite_of h
    by_cases q1_1 : a1 = 1
    · have h := hA q1_1
      refine r_tabIn (kx := 1) (off := 51) X 52 dX10_count_1 q1_1 (by decide) (by decide) (by decide) (by decide) ?_
      exact t_X10_count_b52 X σ a1 h
    · have h := hB q1_1
      obtain ⟨hA, hB⟩ := ite_of h
      by_cases q1_2 : a1 = 2
      · have h := hA q1_2
        refine r_tabIn (kx := 2) (off := 57) X 58 dX10_count_1 q1_2 (by decide) (by decide) (by decide) (by decide) ?_
        exact t_X10_count_b58 X σ a1 h
      · have h := hB q1_2
        obtain ⟨hA, hB⟩ := ite_of h
        by_cases q1_3 : a1 = 3
        · have h := hA q1_3
          refine r_tabIn (kx := 3) (off := 57) X 58 dX10_count_1 q1_3 (by decide) (by decide) (by decide) (by decide) ?_
          exact t_X10_count_b58 X σ a1 h
        · have h := hB q1_3
          obtain ⟨hA, hB⟩ := ite_of h
          by_cases q1_4 : a1 = 4
          · have h := hA q1_4
            refine r_tabIn (kx := 4) (off := 66) X 67 dX10_count_1 q1_4 (by decide) (by decide) (by decide) (by decide) ?_
            refine r_aload_n X dX10_count_67 rfl 0 rfl ?_
            refine r_getI X fg_X10_171_X10 fM_0 rfl dX10_count_68 ?_
            exact r_iretz X rfl dX10_count_71 h
          · have h := hB q1_4
            obtain ⟨hA, hB⟩ := ite_of h
            by_cases q1_5 : a1 = 5
            · have h := hA q1_5
              refine r_tabIn (kx := 5) (off := 51) X 52 dX10_count_1 q1_5 (by decide) (by decide) (by decide) (by decide) ?_
              exact t_X10_count_b52 X σ a1 h
            · have h := hB q1_5
              obtain ⟨hA, hB⟩ := ite_of h
              by_cases q1_6 : a1 = 6
              · have h := hA q1_6
                refine r_tabIn (kx := 6) (off := 51) X 52 dX10_count_1 q1_6 (by decide) (by decide) (by decide) (by decide) ?_
                exact t_X10_count_b52 X σ a1 h
              · have h := hB q1_6
                obtain ⟨hA, hB⟩ := ite_of h
                by_cases q1_7 : a1 = 7
                · have h := hA q1_7
                  refine r_tabIn (kx := 7) (off := 71) X 72 dX10_count_1 q1_7 (by decide) (by decide) (by decide) (by decide) ?_
                  refine r_aload_n X dX10_count_72 rfl 0 rfl ?_
                  refine r_getI X fg_X10_299_X10 fM_0 rfl dX10_count_73 ?_
                  exact r_iretz X rfl dX10_count_76 h
                · have h := hB q1_7
                  obtain ⟨hA, hB⟩ := ite_of h
                  by_cases q1_8 : a1 = 8
                  · have h := hA q1_8
                    refine r_tabIn (kx := 8) (off := 76) X 77 dX10_count_1 q1_8 (by decide) (by decide) (by decide) (by decide) ?_
                    refine r_aload_n X dX10_count_77 rfl 0 rfl ?_
                    refine r_getI X fg_X10_334_X10 fM_0 rfl dX10_count_78 ?_
                    exact r_iretz X rfl dX10_count_81 h
                  · have h := hB q1_8
                    refine r_tabOut X 82 dX10_count_1 (by have e0 := lv_neT q1_0 (show (0 : Int32).toInt = 0 from by decide); have e1 := lv_neT q1_1 (show (1 : Int32).toInt = 1 from by decide); have e2 := lv_neT q1_2 (show (2 : Int32).toInt = 2 from by decide); have e3 := lv_neT q1_3 (show (3 : Int32).toInt = 3 from by decide); have e4 := lv_neT q1_4 (show (4 : Int32).toInt = 4 from by decide); have e5 := lv_neT q1_5 (show (5 : Int32).toInt = 5 from by decide); have e6 := lv_neT q1_6 (show (6 : Int32).toInt = 6 from by decide); have e7 := lv_neT q1_7 (show (7 : Int32).toInt = 7 from by decide); have e8 := lv_neT q1_8 (show (8 : Int32).toInt = 8 from by decide); omega) (by decide) ?_
                    refine r_bipush (v := -2) X dX10_count_82 (by decide) ?_
                    exact r_iretz X rfl dX10_count_84 h
set_option maxRecDepth 100000 in
set_option maxHeartbeats 4000000 in
theorem t_X10_needDigest_b6 {M : am_M} {D : va_G} {cT : Nat → ClassId} {ad : Nat → Nat} (X : am_X M (D, cT, ad, NM, LM) cX10_needDigest RX10 7 (some .long)) {z : Int64 × Sg} {k6 : Sg → Int32 → Int64 → Int32 → Option (Int64 × Sg)} (hk6 : ∀ (σ : Sg) (x3 : Int32) (x4 : Int64) (x6 : Int32), k6 σ x3 x4 x6 = some z → am_At M { frames := 9, cells := 0, slots := 0, locals := 200 } (D, cT, ad, NM, LM) (amQl M (D, cT, ad, NM, LM) z) 7 6 [(0, .ref (ad 0)), (3, .int x3), (4, .long x4), (6, .int x6)] [] σ) (σ : Sg) (x3 : Int32) (x4 : Int64) (x6 : Int32) (h : f_X10_needDigest_b6 k6 σ x3 x4 x6 = some z) : am_At M { frames := 9, cells := 0, slots := 0, locals := 200 } (D, cT, ad, NM, LM) (amQl M (D, cT, ad, NM, LM) z) 7 6 [(0, .ref (ad 0)), (3, .int x3), (4, .long x4), (6, .int x6)] [] σ := by
  unfold f_X10_needDigest_b6 at h
  refine r_iload X dX10_needDigest_6 3 rfl ?_
  refine r_iconst (v := 3) X dX10_needDigest_8 (by decide) ?_
  refine r_icmp_ge X 35 dX10_needDigest_9 (by decide) h (fun h => ?_) (fun h => ?_)
  · refine r_ldc2 (v := 31) X dX10_needDigest_35 bw_831 ?_
    refine r_lload X dX10_needDigest_38 2 rfl ?_
    refine r_lmul X dX10_needDigest_40 ?_
    refine r_aload_n X dX10_needDigest_41 rfl 0 rfl ?_
    refine r_iload_n X dX10_needDigest_42 rfl 1 rfl ?_
    obtain ⟨r1, σ2, hc_11, h⟩ := bnd_of h
    refine r_callV (As := [.int x3]) (rest := [.long ((31 : Int64) * x4)]) (st2 := [.int r1, .long ((31 : Int64) * x4)]) (c := 0) X cv_X10_250 (c_X10_metOf M.2.1 hc_11) rfl (ci := 9) rfl fM_0 rfl rfl (Nat.le_of_ble_eq_true rfl) ⟨⟨rfl, rfl⟩, by decide, by decide⟩ dX10_needDigest_43 ⟨rfl, rfl⟩ rfl ?_
    refine r_i2l X dX10_needDigest_46 ?_
    refine r_ladd X dX10_needDigest_47 ?_
    refine r_letl h (fun v3 h => ?_)
    refine r_lstore X [(4, .long v3), (0, .ref (ad 0)), (3, .int x3), (6, .int x6)] dX10_needDigest_48 (by decide) rfl ?_
    refine r_ldc2 (v := 31) X dX10_needDigest_50 bw_831 ?_
    refine r_lload X dX10_needDigest_53 0 rfl ?_
    refine r_lmul X dX10_needDigest_55 ?_
    refine r_aload_n X dX10_needDigest_56 rfl 1 rfl ?_
    refine r_iconst (v := 5) X dX10_needDigest_57 (by decide) ?_
    refine r_iload_n X dX10_needDigest_58 rfl 2 rfl ?_
    refine r_iconst (v := 0) X dX10_needDigest_59 (by decide) ?_
    obtain ⟨r4, σ5, hc_10, h⟩ := bnd_of h
    refine r_callV (As := [.int (5 : Int32), .int x3, .int (0 : Int32)]) (rest := [.long ((31 : Int64) * v3)]) (st2 := [.long r4, .long ((31 : Int64) * v3)]) (c := 0) X cv_X10_322 (c_X10_chanceOf M.2.1 hc_10) rfl (ci := 9) rfl fM_0 rfl rfl (Nat.le_of_ble_eq_true rfl) ⟨⟨rfl, rfl⟩, by decide, by decide⟩ dX10_needDigest_60 ⟨rfl, rfl⟩ rfl ?_
    refine r_ladd X dX10_needDigest_63 ?_
    refine r_letl h (fun v6 h => ?_)
    refine r_lstore X [(4, .long v6), (0, .ref (ad 0)), (3, .int x3), (6, .int x6)] dX10_needDigest_64 (by decide) rfl ?_
    refine r_ldc2 (v := 31) X dX10_needDigest_66 bw_831 ?_
    refine r_lload X dX10_needDigest_69 0 rfl ?_
    refine r_lmul X dX10_needDigest_71 ?_
    refine r_aload_n X dX10_needDigest_72 rfl 1 rfl ?_
    refine r_iconst (v := 5) X dX10_needDigest_73 (by decide) ?_
    refine r_iload_n X dX10_needDigest_74 rfl 2 rfl ?_
    refine r_iconst (v := 1) X dX10_needDigest_75 (by decide) ?_
    obtain ⟨r7, σ8, hc_9, h⟩ := bnd_of h
    refine r_callV (As := [.int (5 : Int32), .int x3, .int (1 : Int32)]) (rest := [.long ((31 : Int64) * v6)]) (st2 := [.long r7, .long ((31 : Int64) * v6)]) (c := 0) X cv_X10_322 (c_X10_chanceOf M.2.1 hc_9) rfl (ci := 9) rfl fM_0 rfl rfl (Nat.le_of_ble_eq_true rfl) ⟨⟨rfl, rfl⟩, by decide, by decide⟩ dX10_needDigest_76 ⟨rfl, rfl⟩ rfl ?_
    refine r_ladd X dX10_needDigest_79 ?_
    exact r_lretz X rfl dX10_needDigest_80 h
  · refine r_ldc2 (v := 31) X dX10_needDigest_12 bw_831 ?_
    refine r_lload X dX10_needDigest_15 2 rfl ?_
    refine r_lmul X dX10_needDigest_17 ?_
    refine r_aload_n X dX10_needDigest_18 rfl 0 rfl ?_
    refine r_iload_n X dX10_needDigest_19 rfl 1 rfl ?_
    refine r_iload X dX10_needDigest_20 3 rfl ?_
    obtain ⟨r12, σ13, hc_16, h⟩ := bnd_of h
    refine r_callV (As := [.int x3, .int x6]) (rest := [.long ((31 : Int64) * x4)]) (st2 := [.int r12, .long ((31 : Int64) * x4)]) (c := 0) X cv_X10_165 (c_X10_needOf M.2.1 hc_16) rfl (ci := 9) rfl fM_0 rfl rfl (Nat.le_of_ble_eq_true rfl) ⟨⟨rfl, rfl⟩, by decide, by decide⟩ dX10_needDigest_22 ⟨rfl, rfl⟩ rfl ?_
    refine r_i2l X dX10_needDigest_25 ?_
    refine r_ladd X dX10_needDigest_26 ?_
    refine r_letl h (fun v14 h => ?_)
    refine r_lstore X [(4, .long v14), (0, .ref (ad 0)), (3, .int x3), (6, .int x6)] dX10_needDigest_27 (by decide) rfl ?_
    refine r_iinc X [(6, .int (x6 + (1 : Int32))), (4, .long v14), (0, .ref (ad 0)), (3, .int x3)] dX10_needDigest_29 3 rfl (v := x6 + (1 : Int32)) (by rfl) (by decide) rfl ?_
    refine r_letv h (fun v15 h => ?_)
    refine r_goto X 6 dX10_needDigest_32 (by decide) ?_
    refine r_sub (lv' := [(0, .ref (ad 0)), (3, .int x3), (4, .long v14), (6, .int v15)]) [2, 3, 1, 0] rfl ?_
    exact hk6 σ13 x3 v14 v15 h
theorem t_X10_needDigest_l6 {M : am_M} {D : va_G} {cT : Nat → ClassId} {ad : Nat → Nat} (X : am_X M (D, cT, ad, NM, LM) cX10_needDigest RX10 7 (some .long)) {z : Int64 × Sg} (n : Nat) : ∀ (σ : Sg) (x3 : Int32) (x4 : Int64) (x6 : Int32), f_X10_needDigest_l6 n σ x3 x4 x6 = some z → am_At M { frames := 9, cells := 0, slots := 0, locals := 200 } (D, cT, ad, NM, LM) (amQl M (D, cT, ad, NM, LM) z) 7 6 [(0, .ref (ad 0)), (3, .int x3), (4, .long x4), (6, .int x6)] [] σ := by
  induction n with
  | zero =>
    intro σ x3 x4 x6 h
    have h2 : (none : Option (Int64 × Sg)) = some z := h
    cases h2
  | succ n ih =>
    intro σ x3 x4 x6 h
    exact t_X10_needDigest_b6 X (k6 := f_X10_needDigest_l6 n) ih σ x3 x4 x6 h
set_option maxRecDepth 100000 in
set_option maxHeartbeats 4000000 in
theorem c_X10_needDigest (l : Launch) {σ : Sg} {a1 : Int64} {a3 : Int32} {z : Int64 × Sg} (h : f_X10_needDigest σ a1 a3 = some z) : am_Met l yX10_needDigest cX10_needDigest 7 (some .long) { frames := 9, cells := 0, slots := 0, locals := 200 } NM LM (fun ad => [.ref (ad 0), .long a1, .int a3]) σ z.2 (fun _ => some (.long z.1)) := by
  refine am_enter (by decide +kernel) (fun ad => Nat.le_of_ble_eq_true rfl) (fun M D cT ad hl X => ?_)
  subst hl
  refine r_lv (lv' := [(0, .ref (ad 0)), (1, .long a1), (3, .int a3)]) rfl ?_
  unfold f_X10_needDigest at h
  refine r_lload_n X dX10_needDigest_0 rfl 1 rfl ?_
  refine r_lstore X [(4, .long a1), (0, .ref (ad 0)), (1, .long a1), (3, .int a3)] dX10_needDigest_1 (by decide) rfl ?_
  refine r_iconst (v := 0) X dX10_needDigest_3 (by decide) ?_
  refine r_istore X [(6, .int (0 : Int32)), (4, .long a1), (0, .ref (ad 0)), (1, .long a1), (3, .int a3)] dX10_needDigest_4 (by decide) rfl ?_
  refine r_sub (lv' := [(0, .ref (ad 0)), (3, .int a3), (4, .long a1), (6, .int (0 : Int32))]) [2, 4, 1, 0] rfl ?_
  exact t_X10_needDigest_l6 X 300 σ a3 a1 (0 : Int32) h
