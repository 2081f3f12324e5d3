set_option maxRecDepth 100000 in
set_option maxHeartbeats 4000000 in
theorem c_X10_event (l : Launch) {σ : Sg} {a1 : Int32} {a2 : Int32} {a3 : Int32} {z : Int32 × Sg} (h : f_X10_event σ a1 a2 a3 = some z) : am_Met l yX10_event cX10_event 4 (some .int) { frames := 2, cells := 0, slots := 0, locals := 42 } NM LM (fun ad => [.ref (ad 0), .int a1, .int a2, .int a3]) σ z.2 (fun _ => some (.int z.1)) := by
  refine am_enter (by decide +kernel) (fun ad => Nat.le_of_ble_eq_true rfl) (fun M D cT ad hl X => ?_)
  subst hl
  refine r_lv (lv' := [(0, .ref (ad 0)), (1, .int a1), (2, .int a2), (3, .int a3)]) rfl ?_
  unfold f_X10_event at h
  refine r_iload_n X dX10_event_0 rfl 1 rfl ?_
  obtain ⟨r1, σ2, hc_13, h⟩ := bnd_of h
  refine r_callS (As := [.int a1]) (rest := []) (st2 := [.int r1]) X cv_X10_168 (c_X10_isTwo M.2.1 hc_13) rfl rfl rfl (Nat.le_of_ble_eq_true rfl) ⟨⟨rfl, rfl⟩, by decide, by decide⟩ dX10_event_1 ⟨rfl, rfl⟩ rfl ?_
  refine r_if_eq X 21 dX10_event_4 (by decide) h (fun h => ?_) (fun h => ?_)
  · refine r_bipush (v := -2) X dX10_event_21 (by decide) ?_
    exact r_iretz X rfl dX10_event_23 h
  · refine r_iload_n X dX10_event_7 rfl 2 rfl ?_
    obtain ⟨r3, σ4, hc_12, h⟩ := bnd_of h
    refine r_callS (As := [.int a2]) (rest := []) (st2 := [.int r3]) X cv_X10_127 (c_X10_isNight M.2.1 hc_12) rfl rfl rfl (Nat.le_of_ble_eq_true rfl) ⟨⟨rfl, rfl⟩, by decide, by decide⟩ dX10_event_8 ⟨rfl, rfl⟩ rfl ?_
    refine r_if_eq X 21 dX10_event_11 (by decide) h (fun h => ?_) (fun h => ?_)
    · refine r_bipush (v := -2) X dX10_event_21 (by decide) ?_
      exact r_iretz X rfl dX10_event_23 h
    · refine r_iload_n X dX10_event_14 rfl 3 rfl ?_
      obtain ⟨r5, σ6, hc_11, h⟩ := bnd_of h
      refine r_callS (As := [.int a3]) (rest := []) (st2 := [.int r5]) X cv_X10_118 (c_X10_isSix M.2.1 hc_11) rfl rfl rfl (Nat.le_of_ble_eq_true rfl) ⟨⟨rfl, rfl⟩, by decide, by decide⟩ dX10_event_15 ⟨rfl, rfl⟩ rfl ?_
      refine r_if_ne X 24 dX10_event_18 (by decide) h (fun h => ?_) (fun h => ?_)
      · refine r_bipush (v := -2) X dX10_event_21 (by decide) ?_
        exact r_iretz X rfl dX10_event_23 h
      · refine r_aload_n X dX10_event_24 rfl 0 rfl ?_
        refine r_getI X fg_X10_171_X10 fM_0 rfl dX10_event_25 ?_
        refine r_bipush (v := 8) X dX10_event_28 (by decide) ?_
        refine r_icmp_ne X 36 dX10_event_30 (by decide) h (fun h => ?_) (fun h => ?_)
        · refine r_bipush (v := -4) X dX10_event_33 (by decide) ?_
          exact r_iretz X rfl dX10_event_35 h
        · refine r_aload_n X dX10_event_36 rfl 0 rfl ?_
          refine r_getR (c1 := 10) X fg_X10_37_X10 fM_0 rfl dX10_event_37 ?_
          refine r_aload_n X dX10_event_40 rfl 0 rfl ?_
          refine r_getI X fg_X10_171_X10 fM_0 rfl dX10_event_41 ?_
          refine r_iload_n X dX10_event_44 rfl 1 rfl ?_
          refine r_iast X fM_10 dX10_event_45 h (fun σ7 h => ?_)
          refine r_aload_n X dX10_event_46 rfl 0 rfl ?_
          refine r_getR (c1 := 11) X fg_X10_40_X10 fM_0 rfl dX10_event_47 ?_
          refine r_aload_n X dX10_event_50 rfl 0 rfl ?_
          refine r_getI X fg_X10_171_X10 fM_0 rfl dX10_event_51 ?_
          refine r_iload_n X dX10_event_54 rfl 2 rfl ?_
          refine r_iast X fM_11 dX10_event_55 h (fun σ8 h => ?_)
          refine r_aload_n X dX10_event_56 rfl 0 rfl ?_
          refine r_getR (c1 := 12) X fg_X10_43_X10 fM_0 rfl dX10_event_57 ?_
          refine r_aload_n X dX10_event_60 rfl 0 rfl ?_
          refine r_getI X fg_X10_171_X10 fM_0 rfl dX10_event_61 ?_
          refine r_iload_n X dX10_event_64 rfl 3 rfl ?_
          refine r_iast X fM_12 dX10_event_65 h (fun σ9 h => ?_)
          refine r_aload_n X dX10_event_66 rfl 0 rfl ?_
          refine r_dup X dX10_event_67 rfl ?_
          refine r_getI X fg_X10_171_X10 fM_0 rfl dX10_event_68 ?_
          refine r_iconst (v := 1) X dX10_event_71 (by decide) ?_
          refine r_iadd X dX10_event_72 ?_
          refine r_putI X fp_X10_171_X10 fM_0 rfl dX10_event_73 h (fun σ10 h => ?_)
          refine r_aload_n X dX10_event_76 rfl 0 rfl ?_
          refine r_getI X fg_X10_171_X10 fM_0 rfl dX10_event_77 ?_
          exact r_iretz X rfl dX10_event_80 h
set_option maxRecDepth 100000 in
set_option maxHeartbeats 4000000 in
theorem c_X10_back (l : Launch) {σ : Sg} {z : Int32 × Sg} (h : f_X10_back σ = some z) : am_Met l yX10_back cX10_back 1 (some .int) { frames := 0, cells := 0, slots := 0, locals := 0 } NM LM (fun ad => [.ref (ad 0)]) σ z.2 (fun _ => some (.int z.1)) := by
  refine am_enter (by decide +kernel) (fun ad => Nat.le_of_ble_eq_true rfl) (fun M D cT ad hl X => ?_)
  subst hl
  refine r_lv (lv' := [(0, .ref (ad 0))]) rfl ?_
  unfold f_X10_back at h
  refine r_aload_n X dX10_back_0 rfl 0 rfl ?_
  refine r_getI X fg_X10_171_X10 fM_0 rfl dX10_back_1 ?_
  refine r_if_ne X 10 dX10_back_4 (by decide) h (fun h => ?_) (fun h => ?_)
  · refine r_bipush (v := -3) X dX10_back_7 (by decide) ?_
    exact r_iretz X rfl dX10_back_9 h
  · refine r_aload_n X dX10_back_10 rfl 0 rfl ?_
    refine r_dup X dX10_back_11 rfl ?_
    refine r_getI X fg_X10_171_X10 fM_0 rfl dX10_back_12 ?_
    refine r_iconst (v := 1) X dX10_back_15 (by decide) ?_
    refine r_isub X dX10_back_16 ?_
    refine r_putI X fp_X10_171_X10 fM_0 rfl dX10_back_17 h (fun σ1 h => ?_)
    refine r_aload_n X dX10_back_20 rfl 0 rfl ?_
    refine r_getI X fg_X10_171_X10 fM_0 rfl dX10_back_21 ?_
    exact r_iretz X rfl dX10_back_24 h
set_option maxRecDepth 100000 in
set_option maxHeartbeats 4000000 in
theorem c_X10_isSheet (l : Launch) {σ : Sg} {a0 : Int32} {z : Int32 × Sg} (h : f_X10_isSheet σ a0 = some z) : am_Met l yX10_isSheet cX10_isSheet 1 (some .boolean) { frames := 1, cells := 0, slots := 0, locals := 22 } NM LM (fun ad => [.int a0]) σ z.2 (fun _ => some (.int z.1)) := by
  refine am_enter (by decide +kernel) (fun ad => Nat.le_of_ble_eq_true rfl) (fun M D cT ad hl X => ?_)
  subst hl
  refine r_lv (lv' := [(0, .int a0)]) rfl ?_
  unfold f_X10_isSheet at h
  refine r_iload_n X dX10_isSheet_0 rfl 0 rfl ?_
  refine r_iconst (v := 0) X dX10_isSheet_1 (by decide) ?_
  refine r_iconst (v := 3) X dX10_isSheet_2 (by decide) ?_
  obtain ⟨r1, σ2, hc_3, h⟩ := bnd_of h
  refine r_callS (As := [.int a0, .int (0 : Int32), .int (3 : Int32)]) (rest := []) (st2 := [.int r1]) X cv_X10_106 (c_X10_in M.2.1 hc_3) rfl rfl rfl (Nat.le_of_ble_eq_true rfl) ⟨⟨rfl, rfl⟩, by decide, by decide⟩ dX10_isSheet_3 ⟨rfl, rfl⟩ rfl ?_
  exact r_zretg X rfl dX10_isSheet_6 h
set_option maxRecDepth 100000 in
set_option maxHeartbeats 4000000 in
theorem c_X10_meets (l : Launch) {σ : Sg} {a1 : Int32} {z : Int32 × Sg} (h : f_X10_meets σ a1 = some z) : am_Met l yX10_meets cX10_meets 2 (some .int) { frames := 0, cells := 0, slots := 0, locals := 0 } NM LM (fun ad => [.ref (ad 0), .int a1]) σ z.2 (fun _ => some (.int z.1)) := by
  refine am_enter (by decide +kernel) (fun ad => Nat.le_of_ble_eq_true rfl) (fun M D cT ad hl X => ?_)
  subst hl
  refine r_lv (lv' := [(0, .ref (ad 0)), (1, .int a1)]) rfl ?_
  unfold f_X10_meets at h
  refine r_aload_n X dX10_meets_0 rfl 0 rfl ?_
  refine r_iload_n X dX10_meets_1 rfl 1 rfl ?_
  refine r_putI X fp_X10_334_X10 fM_0 rfl dX10_meets_2 h (fun σ1 h => ?_)
  refine r_bipush (v := -10) X dX10_meets_5 (by decide) ?_
  refine r_iload_n X dX10_meets_7 rfl 1 rfl ?_
  refine r_isub X dX10_meets_8 ?_
  exact r_iretz X rfl dX10_meets_9 h
set_option maxRecDepth 100000 in
set_option maxHeartbeats 4000000 in
theorem t_X10_read_b32 {M : am_M} {D : va_G} {cT : Nat → ClassId} {ad : Nat → Nat} (X : am_X M (D, cT, ad, NM, LM) cX10_read RX10 4 (some .int)) {z : Int32 × Sg} {k32 : Sg → Int32 → Int32 → Int32 → Option (Int32 × Sg)} (hk32 : ∀ (σ : Sg) (x1 : Int32) (x2 : Int32) (x3 : Int32), k32 σ x1 x2 x3 = some z → am_At M { frames := 3, cells := 0, slots := 0, locals := 65 } (D, cT, ad, NM, LM) (amQi M (D, cT, ad, NM, LM) z) 4 32 [(0, .ref (ad 0)), (1, .int x1), (2, .int x2), (3, .int x3)] [] σ) (σ : Sg) (x1 : Int32) (x2 : Int32) (x3 : Int32) (h : f_X10_read_b32 k32 σ x1 x2 x3 = some z) : am_At M { frames := 3, cells := 0, slots := 0, locals := 65 } (D, cT, ad, NM, LM) (amQi M (D, cT, ad, NM, LM) z) 4 32 [(0, .ref (ad 0)), (1, .int x1), (2, .int x2), (3, .int x3)] [] σ := by
  unfold f_X10_read_b32 at h
  refine r_iconst (v := 3) X dX10_read_32 (by decide) ?_
  refine r_iload_n X dX10_read_33 rfl 2 rfl ?_
  refine r_imul X dX10_read_34 ?_
  refine r_iconst (v := 2) X dX10_read_35 (by decide) ?_
  refine r_iadd X dX10_read_36 ?_
  refine r_aload_n X dX10_read_37 rfl 0 rfl ?_
  refine r_getR (c1 := 29) X fg_X10_95_X10 fM_0 rfl dX10_read_38 ?_
  refine r_iload_n X dX10_read_41 rfl 1 rfl ?_
  refine r_iald X fM_29 dX10_read_42 h (fun h => ?_)
  refine r_icmp_ge X 93 dX10_read_43 (by decide) h (fun h => ?_) (fun h => ?_)
  · refine r_iload_n X dX10_read_93 rfl 2 rfl ?_
    exact r_iretz X rfl dX10_read_94 h
  · refine r_aload_n X dX10_read_46 rfl 0 rfl ?_
    refine r_aload_n X dX10_read_47 rfl 0 rfl ?_
    refine r_getR (c1 := 30) X fg_X10_98_X10 fM_0 rfl dX10_read_48 ?_
    refine r_iload_n X dX10_read_51 rfl 3 rfl ?_
    refine r_iconst (v := 3) X dX10_read_52 (by decide) ?_
    refine r_iload_n X dX10_read_53 rfl 2 rfl ?_
    refine r_imul X dX10_read_54 ?_
    refine r_iadd X dX10_read_55 ?_
    refine r_iald X fM_30 dX10_read_56 h (fun h => ?_)
    refine r_aload_n X dX10_read_57 rfl 0 rfl ?_
    refine r_getR (c1 := 30) X fg_X10_98_X10 fM_0 rfl dX10_read_58 ?_
    refine r_iload_n X dX10_read_61 rfl 3 rfl ?_
    refine r_iconst (v := 3) X dX10_read_62 (by decide) ?_
    refine r_iload_n X dX10_read_63 rfl 2 rfl ?_
    refine r_imul X dX10_read_64 ?_
    refine r_iadd X dX10_read_65 ?_
    refine r_iconst (v := 1) X dX10_read_66 (by decide) ?_
    refine r_iadd X dX10_read_67 ?_
    refine r_iald X fM_30 dX10_read_68 h (fun h => ?_)
    refine r_aload_n X dX10_read_69 rfl 0 rfl ?_
    refine r_getR (c1 := 30) X fg_X10_98_X10 fM_0 rfl dX10_read_70 ?_
    refine r_iload_n X dX10_read_73 rfl 3 rfl ?_
    refine r_iconst (v := 3) X dX10_read_74 (by decide) ?_
    refine r_iload_n X dX10_read_75 rfl 2 rfl ?_
    refine r_imul X dX10_read_76 ?_
    refine r_iadd X dX10_read_77 ?_
    refine r_iconst (v := 2) X dX10_read_78 (by decide) ?_
    refine r_iadd X dX10_read_79 ?_
    refine r_iald X fM_30 dX10_read_80 h (fun h => ?_)
    obtain ⟨r1, σ2, hc_4, h⟩ := bnd_of h
    refine r_callV (As := [.int (σ 30 ((x3 + ((3 : Int32) * x2))).toNatClampNeg), .int (σ 30 (((x3 + ((3 : Int32) * x2)) + (1 : Int32))).toNatClampNeg), .int (σ 30 (((x3 + ((3 : Int32) * x2)) + (2 : Int32))).toNatClampNeg)]) (rest := []) (st2 := [.int r1]) (c := 0) X cv_X10_180 (c_X10_event M.2.1 hc_4) rfl (ci := 9) rfl fM_0 rfl rfl (Nat.le_of_ble_eq_true rfl) ⟨⟨rfl, rfl⟩, by decide, by decide⟩ dX10_read_81 ⟨rfl, rfl⟩ rfl ?_
    refine r_if_le X 93 dX10_read_84 (by decide) h (fun h => ?_) (fun h => ?_)
    · refine r_iload_n X dX10_read_93 rfl 2 rfl ?_
      exact r_iretz X rfl dX10_read_94 h
    · refine r_iinc X [(2, .int (x2 + (1 : Int32))), (0, .ref (ad 0)), (1, .int x1), (3, .int x3)] dX10_read_87 2 rfl (v := x2 + (1 : Int32)) (by rfl) (by decide) rfl ?_
      refine r_letv h (fun v3 h => ?_)
      refine r_goto X 32 dX10_read_90 (by decide) ?_
      refine r_sub (lv' := [(0, .ref (ad 0)), (1, .int x1), (2, .int v3), (3, .int x3)]) [1, 2, 0, 3] rfl ?_
      exact hk32 σ2 x1 v3 x3 h
theorem t_X10_read_l32 {M : am_M} {D : va_G} {cT : Nat → ClassId} {ad : Nat → Nat} (X : am_X M (D, cT, ad, NM, LM) cX10_read RX10 4 (some .int)) {z : Int32 × Sg} (n : Nat) : ∀ (σ : Sg) (x1 : Int32) (x2 : Int32) (x3 : Int32), f_X10_read_l32 n σ x1 x2 x3 = some z → am_At M { frames := 3, cells := 0, slots := 0, locals := 65 } (D, cT, ad, NM, LM) (amQi M (D, cT, ad, NM, LM) z) 4 32 [(0, .ref (ad 0)), (1, .int x1), (2, .int x2), (3, .int x3)] [] σ := by
  induction n with
  | zero =>
    intro σ x1 x2 x3 h
    have h2 : (none : Option (Int32 × Sg)) = some z := h
    cases h2
  | succ n ih =>
    intro σ x1 x2 x3 h
    exact t_X10_read_b32 X (k32 := f_X10_read_l32 n) ih σ x1 x2 x3 h
set_option maxRecDepth 100000 in
set_option maxHeartbeats 4000000 in
theorem c_X10_read (l : Launch) {σ : Sg} {a1 : Int32} {z : Int32 × Sg} (h : f_X10_read σ a1 = some z) : am_Met l yX10_read cX10_read 4 (some .int) { frames := 3, cells := 0, slots := 0, locals := 65 } NM LM (fun ad => [.ref (ad 0), .int a1]) σ z.2 (fun _ => some (.int z.1)) := by
  refine am_enter (by decide +kernel) (fun ad => Nat.le_of_ble_eq_true rfl) (fun M D cT ad hl X => ?_)
  subst hl
  refine r_lv (lv' := [(0, .ref (ad 0)), (1, .int a1)]) rfl ?_
  unfold f_X10_read at h
  refine r_iload_n X dX10_read_0 rfl 1 rfl ?_
  obtain ⟨r1, σ2, hc_7, h⟩ := bnd_of h
  refine r_callS (As := [.int a1]) (rest := []) (st2 := [.int r1]) X cv_X10_174 (c_X10_isSheet M.2.1 hc_7) rfl rfl rfl (Nat.le_of_ble_eq_true rfl) ⟨⟨rfl, rfl⟩, by decide, by decide⟩ dX10_read_1 ⟨rfl, rfl⟩ rfl ?_
  refine r_if_ne X 10 dX10_read_4 (by decide) h (fun h => ?_) (fun h => ?_)
  · refine r_bipush (v := -2) X dX10_read_7 (by decide) ?_
    exact r_iretz X rfl dX10_read_9 h
  · refine r_aload_n X dX10_read_10 rfl 0 rfl ?_
    refine r_getR (c1 := 27) X fg_X10_88_X10 fM_0 rfl dX10_read_11 ?_
    refine r_iload_n X dX10_read_14 rfl 1 rfl ?_
    refine r_zald X fM_27 dX10_read_15 h (fun h => ?_)
    refine r_if_ne X 25 dX10_read_16 (by decide) h (fun h => ?_) (fun h => ?_)
    · refine r_aload_n X dX10_read_19 rfl 0 rfl ?_
      refine r_iconst (v := 1) X dX10_read_20 (by decide) ?_
      obtain ⟨r4, σ5, hc_6, h⟩ := bnd_of h
      refine r_callV (As := [.int (1 : Int32)]) (rest := []) (st2 := [.int r4]) (c := 0) X cv_X10_177 (c_X10_meets M.2.1 hc_6) rfl (ci := 9) rfl fM_0 rfl rfl (Nat.le_of_ble_eq_true rfl) ⟨⟨rfl, rfl⟩, by decide, by decide⟩ dX10_read_21 ⟨rfl, rfl⟩ rfl ?_
      exact r_iretz X rfl dX10_read_24 h
    · refine r_iconst (v := 0) X dX10_read_25 (by decide) ?_
      refine r_istore_n X [(2, .int (0 : Int32)), (0, .ref (ad 0)), (1, .int a1)] dX10_read_26 rfl (by decide) rfl ?_
      refine r_bipush (v := 60) X dX10_read_27 (by decide) ?_
      refine r_iload_n X dX10_read_29 rfl 2 rfl ?_
      refine r_imul X dX10_read_30 ?_
      refine r_leti h (fun v3 h => ?_)
      refine r_istore_n X [(3, .int v3), (2, .int (0 : Int32)), (0, .ref (ad 0)), (1, .int a1)] dX10_read_31 rfl (by decide) rfl ?_
      refine r_sub (lv' := [(0, .ref (ad 0)), (1, .int a1), (2, .int (0 : Int32)), (3, .int v3)]) [2, 3, 1, 0] rfl ?_
      exact t_X10_read_l32 X 300 σ2 a1 (0 : Int32) v3 h
set_option maxRecDepth 100000 in
set_option maxHeartbeats 4000000 in
theorem t_X10_asTold_b14 {M : am_M} {D : va_G} {cT : Nat → ClassId} {ad : Nat → Nat} (X : am_X M (D, cT, ad, NM, LM) cX10_asTold RX10 2 none) {z : Unit × Sg} {k14 : Sg → Int32 → Option (Unit × Sg)} (hk14 : ∀ (σ : Sg) (x1 : Int32), k14 σ x1 = some z → am_At M { frames := 6, cells := 0, slots := 0, locals := 138 } (D, cT, ad, NM, LM) (amQv M (D, cT, ad, NM, LM) z) 2 14 [(0, .ref (ad 0)), (1, .int x1)] [] σ) (σ : Sg) (x1 : Int32) (h : f_X10_asTold_b14 k14 σ x1 = some z) : am_At M { frames := 6, cells := 0, slots := 0, locals := 138 } (D, cT, ad, NM, LM) (amQv M (D, cT, ad, NM, LM) z) 2 14 [(0, .ref (ad 0)), (1, .int x1)] [] σ := by
  unfold f_X10_asTold_b14 at h
  refine r_iload_n X dX10_asTold_14 rfl 1 rfl ?_
  refine r_aload_n X dX10_asTold_15 rfl 0 rfl ?_
  refine r_getI X fg_X10_171_X10 fM_0 rfl dX10_asTold_16 ?_
  refine r_icmp_ge X 64 dX10_asTold_19 (by decide) h (fun h => ?_) (fun h => ?_)
  · refine r_aload_n X dX10_asTold_64 rfl 0 rfl ?_
    refine r_iconst (v := 0) X dX10_asTold_65 (by decide) ?_
    refine r_putI X fp_X10_187_X10 fM_0 rfl dX10_asTold_66 h (fun σ1 h => ?_)
    exact r_vretz X rfl dX10_asTold_69 h
  · refine r_aload_n X dX10_asTold_22 rfl 0 rfl ?_
    refine r_getR (c1 := 13) X fg_X10_46_X10 fM_0 rfl dX10_asTold_23 ?_
    refine r_iload_n X dX10_asTold_26 rfl 1 rfl ?_
    refine r_aload_n X dX10_asTold_27 rfl 0 rfl ?_
    refine r_getR (c1 := 10) X fg_X10_37_X10 fM_0 rfl dX10_asTold_28 ?_
    refine r_iload_n X dX10_asTold_31 rfl 1 rfl ?_
    refine r_iald X fM_10 dX10_asTold_32 h (fun h => ?_)
    refine r_iast X fM_13 dX10_asTold_33 h (fun σ2 h => ?_)
    refine r_aload_n X dX10_asTold_34 rfl 0 rfl ?_
    refine r_getR (c1 := 14) X fg_X10_49_X10 fM_0 rfl dX10_asTold_35 ?_
    refine r_iload_n X dX10_asTold_38 rfl 1 rfl ?_
    refine r_aload_n X dX10_asTold_39 rfl 0 rfl ?_
    refine r_getR (c1 := 11) X fg_X10_40_X10 fM_0 rfl dX10_asTold_40 ?_
    refine r_iload_n X dX10_asTold_43 rfl 1 rfl ?_
    refine r_iald X fM_11 dX10_asTold_44 h (fun h => ?_)
    refine r_iast X fM_14 dX10_asTold_45 h (fun σ3 h => ?_)
    refine r_aload_n X dX10_asTold_46 rfl 0 rfl ?_
    refine r_getR (c1 := 15) X fg_X10_52_X10 fM_0 rfl dX10_asTold_47 ?_
    refine r_iload_n X dX10_asTold_50 rfl 1 rfl ?_
    refine r_aload_n X dX10_asTold_51 rfl 0 rfl ?_
    refine r_getR (c1 := 12) X fg_X10_43_X10 fM_0 rfl dX10_asTold_52 ?_
    refine r_iload_n X dX10_asTold_55 rfl 1 rfl ?_
    refine r_iald X fM_12 dX10_asTold_56 h (fun h => ?_)
    refine r_iast X fM_15 dX10_asTold_57 h (fun σ4 h => ?_)
    refine r_iinc X [(1, .int (x1 + (1 : Int32))), (0, .ref (ad 0))] dX10_asTold_58 1 rfl (v := x1 + (1 : Int32)) (by rfl) (by decide) rfl ?_
    refine r_letv h (fun v5 h => ?_)
    refine r_goto X 14 dX10_asTold_61 (by decide) ?_
    refine r_sub (lv' := [(0, .ref (ad 0)), (1, .int v5)]) [1, 0] rfl ?_
    exact hk14 σ4 v5 h
theorem t_X10_asTold_l14 {M : am_M} {D : va_G} {cT : Nat → ClassId} {ad : Nat → Nat} (X : am_X M (D, cT, ad, NM, LM) cX10_asTold RX10 2 none) {z : Unit × Sg} (n : Nat) : ∀ (σ : Sg) (x1 : Int32), f_X10_asTold_l14 n σ x1 = some z → am_At M { frames := 6, cells := 0, slots := 0, locals := 138 } (D, cT, ad, NM, LM) (amQv M (D, cT, ad, NM, LM) z) 2 14 [(0, .ref (ad 0)), (1, .int x1)] [] σ := by
  induction n with
  | zero =>
    intro σ x1 h
    have h2 : (none : Option (Unit × Sg)) = some z := h
    cases h2
  | succ n ih =>
    intro σ x1 h
    exact t_X10_asTold_b14 X (k14 := f_X10_asTold_l14 n) ih σ x1 h
set_option maxRecDepth 100000 in
set_option maxHeartbeats 4000000 in
theorem c_X10_asTold (l : Launch) {σ : Sg} {z : Unit × Sg} (h : f_X10_asTold σ = some z) : am_Met l yX10_asTold cX10_asTold 2 none { frames := 6, cells := 0, slots := 0, locals := 138 } NM LM (fun ad => [.ref (ad 0)]) σ z.2 (fun _ => none) := by
  refine am_enter (by decide +kernel) (fun ad => Nat.le_of_ble_eq_true rfl) (fun M D cT ad hl X => ?_)
  subst hl
  refine r_lv (lv' := [(0, .ref (ad 0))]) rfl ?_
  unfold f_X10_asTold at h
  refine r_aload_n X dX10_asTold_0 rfl 0 rfl ?_
  obtain ⟨r1, σ2, hc_4, h⟩ := bnd_of h
  refine r_callV (As := []) (rest := []) (st2 := []) (c := 0) X cv_X10_150 (c_X10_reads M.2.1 hc_4) rfl (ci := 9) rfl fM_0 rfl rfl (Nat.le_of_ble_eq_true rfl) ⟨⟨rfl, rfl⟩, by decide, by decide⟩ dX10_asTold_1 ⟨rfl, rfl⟩ rfl ?_
  refine r_aload_n X dX10_asTold_4 rfl 0 rfl ?_
  refine r_aload_n X dX10_asTold_5 rfl 0 rfl ?_
  refine r_getI X fg_X10_171_X10 fM_0 rfl dX10_asTold_6 ?_
  refine r_putI X fp_X10_184_X10 fM_0 rfl dX10_asTold_9 h (fun σ3 h => ?_)
  refine r_iconst (v := 0) X dX10_asTold_12 (by decide) ?_
  refine r_istore_n X [(1, .int (0 : Int32)), (0, .ref (ad 0))] dX10_asTold_13 rfl (by decide) rfl ?_
  refine r_sub (lv' := [(0, .ref (ad 0)), (1, .int (0 : Int32))]) [1, 0] rfl ?_
  exact t_X10_asTold_l14 X 300 σ3 (0 : Int32) h
set_option maxRecDepth 100000 in
set_option maxHeartbeats 4000000 in
theorem c_X10_isIn (l : Launch) {σ : Sg} {a0 : Int32} {a1 : Int32} {z : Int32 × Sg} (h : f_X10_isIn σ a0 a1 = some z) : am_Met l yX10_isIn cX10_isIn 2 (some .boolean) { frames := 0, cells := 0, slots := 0, locals := 0 } NM LM (fun ad => [.int a0, .int a1]) σ z.2 (fun _ => some (.int z.1)) := by
  refine am_enter (by decide +kernel) (fun ad => Nat.le_of_ble_eq_true rfl) (fun M D cT ad hl X => ?_)
  subst hl
  refine r_lv (lv' := [(0, .int a0), (1, .int a1)]) rfl ?_
  unfold f_X10_isIn at h
  refine r_iload_n X dX10_isIn_0 rfl 0 rfl ?_
  refine r_iload_n X dX10_isIn_1 rfl 1 rfl ?_
  refine r_ishr X dX10_isIn_2 ?_
  refine r_iconst (v := 1) X dX10_isIn_3 (by decide) ?_
  refine r_iand X dX10_isIn_4 ?_
  refine r_iconst (v := 1) X dX10_isIn_5 (by decide) ?_
  refine r_icmp_ne X 13 dX10_isIn_6 (by decide) h (fun h => ?_) (fun h => ?_)
  · refine r_iconst (v := 1) X dX10_isIn_9 (by decide) ?_
    refine r_goto X 14 dX10_isIn_10 (by decide) ?_
    exact r_zretz X rfl (by decide) dX10_isIn_14 h
  · refine r_iconst (v := 0) X dX10_isIn_13 (by decide) ?_
    exact r_zretz X rfl (by decide) dX10_isIn_14 h
set_option maxRecDepth 100000 in
set_option maxHeartbeats 4000000 in
theorem t_X10_harrows_b34 {M : am_M} {D : va_G} {cT : Nat → ClassId} {ad : Nat → Nat} (X : am_X M (D, cT, ad, NM, LM) cX10_harrows RX10 3 none) {z : Unit × Sg} {k2 : Sg → Int32 → Int32 → Option (Unit × Sg)} (hk2 : ∀ (σ : Sg) (x1 : Int32) (x2 : Int32), k2 σ x1 x2 = some z → am_At M { frames := 0, cells := 0, slots := 0, locals := 0 } (D, cT, ad, NM, LM) (amQv M (D, cT, ad, NM, LM) z) 3 2 [(0, .ref (ad 0)), (1, .int x1), (2, .int x2)] [] σ) (σ : Sg) (x1 : Int32) (x2 : Int32) (s0 : Int32) (s1 : Int32) (h : f_X10_harrows_b34 k2 σ x1 x2 s0 s1 = some z) : am_At M { frames := 0, cells := 0, slots := 0, locals := 0 } (D, cT, ad, NM, LM) (amQv M (D, cT, ad, NM, LM) z) 3 34 [(0, .ref (ad 0)), (1, .int x1), (2, .int x2)] [.int s0, .int s1, .ref (ad 0)] σ := by
  unfold f_X10_harrows_b34 at h
  refine r_iand X dX10_harrows_34 ?_
  refine r_putI X fp_X10_200_X10 fM_0 rfl dX10_harrows_35 h (fun σ1 h => ?_)
  refine r_iinc X [(2, .int (x2 + (1 : Int32))), (0, .ref (ad 0)), (1, .int x1)] dX10_harrows_38 2 rfl (v := x2 + (1 : Int32)) (by rfl) (by decide) rfl ?_
  refine r_letv h (fun v2 h => ?_)
  refine r_goto X 2 dX10_harrows_41 (by decide) ?_
  refine r_sub (lv' := [(0, .ref (ad 0)), (1, .int x1), (2, .int v2)]) [1, 2, 0] rfl ?_
  exact hk2 σ1 x1 v2 h
set_option maxRecDepth 100000 in
set_option maxHeartbeats 4000000 in
theorem t_X10_harrows_b2 {M : am_M} {D : va_G} {cT : Nat → ClassId} {ad : Nat → Nat} (X : am_X M (D, cT, ad, NM, LM) cX10_harrows RX10 3 none) {z : Unit × Sg} {k2 : Sg → Int32 → Int32 → Option (Unit × Sg)} (hk2 : ∀ (σ : Sg) (x1 : Int32) (x2 : Int32), k2 σ x1 x2 = some z → am_At M { frames := 0, cells := 0, slots := 0, locals := 0 } (D, cT, ad, NM, LM) (amQv M (D, cT, ad, NM, LM) z) 3 2 [(0, .ref (ad 0)), (1, .int x1), (2, .int x2)] [] σ) (σ : Sg) (x1 : Int32) (x2 : Int32) (h : f_X10_harrows_b2 k2 σ x1 x2 = some z) : am_At M { frames := 0, cells := 0, slots := 0, locals := 0 } (D, cT, ad, NM, LM) (amQv M (D, cT, ad, NM, LM) z) 3 2 [(0, .ref (ad 0)), (1, .int x1), (2, .int x2)] [] σ := by
  unfold f_X10_harrows_b2 at h
  refine r_iload_n X dX10_harrows_2 rfl 2 rfl ?_
  refine r_aload_n X dX10_harrows_3 rfl 0 rfl ?_
  refine r_getI X fg_X10_130_X10 fM_0 rfl dX10_harrows_4 ?_
  refine r_icmp_ge X 44 dX10_harrows_7 (by decide) h (fun h => ?_) (fun h => ?_)
  · exact r_vretz X rfl dX10_harrows_44 h
  · refine r_aload_n X dX10_harrows_10 rfl 0 rfl ?_
    refine r_dup X dX10_harrows_11 rfl ?_
    refine r_getI X fg_X10_200_X10 fM_0 rfl dX10_harrows_12 ?_
    refine r_aload_n X dX10_harrows_15 rfl 0 rfl ?_
    refine r_getR (c1 := 5) X fg_X10_22_X10 fM_0 rfl dX10_harrows_16 ?_
    refine r_iload_n X dX10_harrows_19 rfl 2 rfl ?_
    refine r_iald X fM_5 dX10_harrows_20 h (fun h => ?_)
    refine r_iload_n X dX10_harrows_21 rfl 1 rfl ?_
    refine r_icmp_ne X 33 dX10_harrows_22 (by decide) h (fun h => ?_) (fun h => ?_)
    · refine r_iconst (v := 1) X dX10_harrows_25 (by decide) ?_
      refine r_iload_n X dX10_harrows_26 rfl 2 rfl ?_
      refine r_ishl X dX10_harrows_27 ?_
      refine r_iconst (v := -1) X dX10_harrows_28 (by decide) ?_
      refine r_ixor X dX10_harrows_29 ?_
      refine r_goto X 34 dX10_harrows_30 (by decide) ?_
      exact t_X10_harrows_b34 X hk2 σ x1 x2 (((1 : Int32) <<< (x2 &&& 31)) ^^^ (-1 : Int32)) (σ 0 20) h
    · refine r_iconst (v := -1) X dX10_harrows_33 (by decide) ?_
      exact t_X10_harrows_b34 X hk2 σ x1 x2 (-1 : Int32) (σ 0 20) h
theorem t_X10_harrows_l2 {M : am_M} {D : va_G} {cT : Nat → ClassId} {ad : Nat → Nat} (X : am_X M (D, cT, ad, NM, LM) cX10_harrows RX10 3 none) {z : Unit × Sg} (n : Nat) : ∀ (σ : Sg) (x1 : Int32) (x2 : Int32), f_X10_harrows_l2 n σ x1 x2 = some z → am_At M { frames := 0, cells := 0, slots := 0, locals := 0 } (D, cT, ad, NM, LM) (amQv M (D, cT, ad, NM, LM) z) 3 2 [(0, .ref (ad 0)), (1, .int x1), (2, .int x2)] [] σ := by
  induction n with
  | zero =>
    intro σ x1 x2 h
    have h2 : (none : Option (Unit × Sg)) = some z := h
    cases h2
  | succ n ih =>
    intro σ x1 x2 h
    exact t_X10_harrows_b2 X (k2 := f_X10_harrows_l2 n) ih σ x1 x2 h
set_option maxRecDepth 100000 in
set_option maxHeartbeats 4000000 in
theorem c_X10_harrows (l : Launch) {σ : Sg} {a1 : Int32} {z : Unit × Sg} (h : f_X10_harrows σ a1 = some z) : am_Met l yX10_harrows cX10_harrows 3 none { frames := 0, cells := 0, slots := 0, locals := 0 } NM LM (fun ad => [.ref (ad 0), .int a1]) σ z.2 (fun _ => none) := by
  refine am_enter (by decide +kernel) (fun ad => Nat.le_of_ble_eq_true rfl) (fun M D cT ad hl X => ?_)
  subst hl
  refine r_lv (lv' := [(0, .ref (ad 0)), (1, .int a1)]) rfl ?_
  unfold f_X10_harrows at h
  refine r_iconst (v := 0) X dX10_harrows_0 (by decide) ?_
  refine r_istore_n X [(2, .int (0 : Int32)), (0, .ref (ad 0)), (1, .int a1)] dX10_harrows_1 rfl (by decide) rfl ?_
  refine r_sub (lv' := [(0, .ref (ad 0)), (1, .int a1), (2, .int (0 : Int32))]) [1, 2, 0] rfl ?_
  exact t_X10_harrows_l2 X 300 σ a1 (0 : Int32) h
set_option maxRecDepth 100000 in
set_option maxHeartbeats 4000000 in
theorem c_X10_isOpen (l : Launch) {σ : Sg} {a1 : Int32} {a2 : Int32} {z : Int32 × Sg} (h : f_X10_isOpen σ a1 a2 = some z) : am_Met l yX10_isOpen cX10_isOpen 3 (some .boolean) { frames := 0, cells := 0, slots := 0, locals := 0 } NM LM (fun ad => [.ref (ad 0), .int a1, .int a2]) σ z.2 (fun _ => some (.int z.1)) := by
  refine am_enter (by decide +kernel) (fun ad => Nat.le_of_ble_eq_true rfl) (fun M D cT ad hl X => ?_)
  subst hl
  refine r_lv (lv' := [(0, .ref (ad 0)), (1, .int a1), (2, .int a2)]) rfl ?_
  unfold f_X10_isOpen at h
  refine r_aload_n X dX10_isOpen_0 rfl 0 rfl ?_
  refine r_getR (c1 := 8) X fg_X10_31_X10 fM_0 rfl dX10_isOpen_1 ?_
  refine r_iload_n X dX10_isOpen_4 rfl 1 rfl ?_
  refine r_iald X fM_8 dX10_isOpen_5 h (fun h => ?_)
  refine r_iload_n X dX10_isOpen_6 rfl 2 rfl ?_
  refine r_icmp_gt X 24 dX10_isOpen_7 (by decide) h (fun h => ?_) (fun h => ?_)
  · refine r_iconst (v := 0) X dX10_isOpen_24 (by decide) ?_
    exact r_zretz X rfl (by decide) dX10_isOpen_25 h
  · refine r_aload_n X dX10_isOpen_10 rfl 0 rfl ?_
    refine r_getR (c1 := 17) X fg_X10_58_X10 fM_0 rfl dX10_isOpen_11 ?_
    refine r_iload_n X dX10_isOpen_14 rfl 1 rfl ?_
    refine r_iald X fM_17 dX10_isOpen_15 h (fun h => ?_)
    refine r_iconst (v := -1) X dX10_isOpen_16 (by decide) ?_
    refine r_icmp_ne X 24 dX10_isOpen_17 (by decide) h (fun h => ?_) (fun h => ?_)
    · refine r_iconst (v := 1) X dX10_isOpen_20 (by decide) ?_
      refine r_goto X 25 dX10_isOpen_21 (by decide) ?_
      exact r_zretz X rfl (by decide) dX10_isOpen_25 h
    · refine r_iconst (v := 0) X dX10_isOpen_24 (by decide) ?_
      exact r_zretz X rfl (by decide) dX10_isOpen_25 h
set_option maxRecDepth 100000 in
set_option maxHeartbeats 4000000 in
theorem t_X10_wanted_b73 {M : am_M} {D : va_G} {cT : Nat → ClassId} {ad : Nat → Nat} (X : am_X M (D, cT, ad, NM, LM) cX10_wanted RX10 6 (some .int)) {z : Int32 × Sg} {k5 : Sg → Int32 → Int32 → Int32 → Int32 → Option (Int32 × Sg)} (hk5 : ∀ (σ : Sg) (x1 : Int32) (x2 : Int32) (x3 : Int32) (x4 : Int32), k5 σ x1 x2 x3 x4 = some z → am_At M { frames := 1, cells := 0, slots := 0, locals := 22 } (D, cT, ad, NM, LM) (amQi M (D, cT, ad, NM, LM) z) 6 5 [(0, .ref (ad 0)), (1, .int x1), (2, .int x2), (3, .int x3), (4, .int x4)] [] σ) (σ : Sg) (x1 : Int32) (x2 : Int32) (x4 : Int32) (s0 : Int32) (s1 : Int32) (h : f_X10_wanted_b73 k5 σ x1 x2 x4 s0 s1 = some z) : am_At M { frames := 1, cells := 0, slots := 0, locals := 22 } (D, cT, ad, NM, LM) (amQi M (D, cT, ad, NM, LM) z) 6 73 [(0, .ref (ad 0)), (1, .int x1), (2, .int x2), (4, .int x4)] [.int s0, .int s1] σ := by
  unfold f_X10_wanted_b73 at h
  refine r_iadd X dX10_wanted_73 ?_
  refine r_leti h (fun v1 h => ?_)
  refine r_istore_n X [(3, .int v1), (0, .ref (ad 0)), (1, .int x1), (2, .int x2), (4, .int x4)] dX10_wanted_74 rfl (by decide) rfl ?_
  refine r_iinc X [(4, .int (x4 + (1 : Int32))), (3, .int v1), (0, .ref (ad 0)), (1, .int x1), (2, .int x2)] dX10_wanted_75 4 rfl (v := x4 + (1 : Int32)) (by rfl) (by decide) rfl ?_
  refine r_letv h (fun v2 h => ?_)
  refine r_goto X 5 dX10_wanted_78 (by decide) ?_
  refine r_sub (lv' := [(0, .ref (ad 0)), (1, .int x1), (2, .int x2), (3, .int v1), (4, .int v2)]) [2, 3, 4, 1, 0] rfl ?_
  exact hk5 σ x1 x2 v1 v2 h
set_option maxRecDepth 100000 in
set_option maxHeartbeats 4000000 in
theorem t_X10_wanted_b72 {M : am_M} {D : va_G} {cT : Nat → ClassId} {ad : Nat → Nat} (X : am_X M (D, cT, ad, NM, LM) cX10_wanted RX10 6 (some .int)) {z : Int32 × Sg} {k5 : Sg → Int32 → Int32 → Int32 → Int32 → Option (Int32 × Sg)} (hk5 : ∀ (σ : Sg) (x1 : Int32) (x2 : Int32) (x3 : Int32) (x4 : Int32), k5 σ x1 x2 x3 x4 = some z → am_At M { frames := 1, cells := 0, slots := 0, locals := 22 } (D, cT, ad, NM, LM) (amQi M (D, cT, ad, NM, LM) z) 6 5 [(0, .ref (ad 0)), (1, .int x1), (2, .int x2), (3, .int x3), (4, .int x4)] [] σ) (σ : Sg) (x1 : Int32) (x2 : Int32) (x4 : Int32) (s0 : Int32) (h : f_X10_wanted_b72 k5 σ x1 x2 x4 s0 = some z) : am_At M { frames := 1, cells := 0, slots := 0, locals := 22 } (D, cT, ad, NM, LM) (amQi M (D, cT, ad, NM, LM) z) 6 72 [(0, .ref (ad 0)), (1, .int x1), (2, .int x2), (4, .int x4)] [.int s0] σ := by
  unfold f_X10_wanted_b72 at h
  refine r_iconst (v := 0) X dX10_wanted_72 (by decide) ?_
  exact t_X10_wanted_b73 X hk5 σ x1 x2 x4 (0 : Int32) s0 h
set_option maxRecDepth 100000 in
set_option maxHeartbeats 4000000 in
theorem t_X10_wanted_b5 {M : am_M} {D : va_G} {cT : Nat → ClassId} {ad : Nat → Nat} (X : am_X M (D, cT, ad, NM, LM) cX10_wanted RX10 6 (some .int)) {z : Int32 × Sg} {k5 : Sg → Int32 → Int32 → Int32 → Int32 → Option (Int32 × Sg)} (hk5 : ∀ (σ : Sg) (x1 : Int32) (x2 : Int32) (x3 : Int32) (x4 : Int32), k5 σ x1 x2 x3 x4 = some z → am_At M { frames := 1, cells := 0, slots := 0, locals := 22 } (D, cT, ad, NM, LM) (amQi M (D, cT, ad, NM, LM) z) 6 5 [(0, .ref (ad 0)), (1, .int x1), (2, .int x2), (3, .int x3), (4, .int x4)] [] σ) (σ : Sg) (x1 : Int32) (x2 : Int32) (x3 : Int32) (x4 : Int32) (h : f_X10_wanted_b5 k5 σ x1 x2 x3 x4 = some z) : am_At M { frames := 1, cells := 0, slots := 0, locals := 22 } (D, cT, ad, NM, LM) (amQi M (D, cT, ad, NM, LM) z) 6 5 [(0, .ref (ad 0)), (1, .int x1), (2, .int x2), (3, .int x3), (4, .int x4)] [] σ := by
  unfold f_X10_wanted_b5 at h
  refine r_iload X dX10_wanted_5 4 rfl ?_
  refine r_aload_n X dX10_wanted_7 rfl 0 rfl ?_
  refine r_getI X fg_X10_134_X10 fM_0 rfl dX10_wanted_8 ?_
  refine r_icmp_ge X 81 dX10_wanted_11 (by decide) h (fun h => ?_) (fun h => ?_)
  · refine r_iload_n X dX10_wanted_81 rfl 3 rfl ?_
    exact r_iretz X rfl dX10_wanted_82 h
  · refine r_aload_n X dX10_wanted_14 rfl 0 rfl ?_
    refine r_getR (c1 := 9) X fg_X10_34_X10 fM_0 rfl dX10_wanted_15 ?_
    refine r_iload X dX10_wanted_18 4 rfl ?_
    refine r_iald X fM_9 dX10_wanted_20 h (fun h => ?_)
    refine r_iload_n X dX10_wanted_21 rfl 2 rfl ?_
    refine r_iadd X dX10_wanted_22 ?_
    refine r_aload_n X dX10_wanted_23 rfl 0 rfl ?_
    refine r_getR (c1 := 8) X fg_X10_31_X10 fM_0 rfl dX10_wanted_24 ?_
    refine r_iload X dX10_wanted_27 4 rfl ?_
    refine r_iald X fM_8 dX10_wanted_29 h (fun h => ?_)
    refine r_isub X dX10_wanted_30 ?_
    refine r_leti h (fun v1 h => ?_)
    refine r_istore X [(5, .int v1), (0, .ref (ad 0)), (1, .int x1), (2, .int x2), (3, .int x3), (4, .int x4)] dX10_wanted_31 (by decide) rfl ?_
    refine r_iload_n X dX10_wanted_33 rfl 4 rfl ?_
    refine r_aload_n X dX10_wanted_34 rfl 1 rfl ?_
    refine r_getR (c1 := 7) X fg_X10_28_X10 fM_0 rfl dX10_wanted_35 ?_
    refine r_iload X dX10_wanted_38 5 rfl ?_
    refine r_iald X fM_7 dX10_wanted_40 h (fun h => ?_)
    refine r_iload_n X dX10_wanted_41 rfl 2 rfl ?_
    refine r_icmp_ne X 72 dX10_wanted_42 (by decide) h (fun h => ?_) (fun h => ?_)
    · refine r_aload_n X dX10_wanted_45 rfl 1 rfl ?_
      refine r_iload X dX10_wanted_46 5 rfl ?_
      refine r_iload_n X dX10_wanted_48 rfl 3 rfl ?_
      obtain ⟨r2, σ3, hc_4, h⟩ := bnd_of h
      refine r_callV (As := [.int x4, .int x2]) (rest := [.int x3]) (st2 := [.int r2, .int x3]) (c := 0) X cv_X10_190 (c_X10_isOpen M.2.1 hc_4) rfl (ci := 9) rfl fM_0 rfl rfl (Nat.le_of_ble_eq_true rfl) ⟨⟨rfl, rfl⟩, by decide, by decide⟩ dX10_wanted_49 ⟨rfl, rfl⟩ rfl ?_
      refine r_if_eq X 72 dX10_wanted_52 (by decide) h (fun h => ?_) (fun h => ?_)
      · refine r_sub (lv' := [(0, .ref (ad 0)), (1, .int x1), (2, .int x2), (4, .int x4)]) [1, 2, 3, 5] rfl ?_
        exact t_X10_wanted_b72 X hk5 σ3 x1 x2 x4 x3 h
      · refine r_iload X dX10_wanted_55 0 rfl ?_
        refine r_bipush (v := 9) X dX10_wanted_57 (by decide) ?_
        refine r_icmp_ge X 67 dX10_wanted_59 (by decide) h (fun h => ?_) (fun h => ?_)
        · refine r_bipush (v := 9) X dX10_wanted_67 (by decide) ?_
          refine r_goto X 73 dX10_wanted_69 (by decide) ?_
          refine r_sub (lv' := [(0, .ref (ad 0)), (1, .int x1), (2, .int x2), (4, .int x4)]) [1, 2, 3, 5] rfl ?_
          exact t_X10_wanted_b73 X hk5 σ3 x1 x2 x4 (9 : Int32) x3 h
        · refine r_iload X dX10_wanted_62 0 rfl ?_
          refine r_goto X 73 dX10_wanted_64 (by decide) ?_
          refine r_sub (lv' := [(0, .ref (ad 0)), (1, .int x1), (2, .int x2), (4, .int x4)]) [1, 2, 3, 5] rfl ?_
          exact t_X10_wanted_b73 X hk5 σ3 x1 x2 x4 v1 x3 h
    · refine r_sub (lv' := [(0, .ref (ad 0)), (1, .int x1), (2, .int x2), (4, .int x4)]) [1, 2, 3, 5] rfl ?_
      exact t_X10_wanted_b72 X hk5 σ x1 x2 x4 x3 h
theorem t_X10_wanted_l5 {M : am_M} {D : va_G} {cT : Nat → ClassId} {ad : Nat → Nat} (X : am_X M (D, cT, ad, NM, LM) cX10_wanted RX10 6 (some .int)) {z : Int32 × Sg} (n : Nat) : ∀ (σ : Sg) (x1 : Int32) (x2 : Int32) (x3 : Int32) (x4 : Int32), f_X10_wanted_l5 n σ x1 x2 x3 x4 = some z → am_At M { frames := 1, cells := 0, slots := 0, locals := 22 } (D, cT, ad, NM, LM) (amQi M (D, cT, ad, NM, LM) z) 6 5 [(0, .ref (ad 0)), (1, .int x1), (2, .int x2), (3, .int x3), (4, .int x4)] [] σ := by
  induction n with
  | zero =>
    intro σ x1 x2 x3 x4 h
    have h2 : (none : Option (Int32 × Sg)) = some z := h
    cases h2
  | succ n ih =>
    intro σ x1 x2 x3 x4 h
    exact t_X10_wanted_b5 X (k5 := f_X10_wanted_l5 n) ih σ x1 x2 x3 x4 h
set_option maxRecDepth 100000 in
set_option maxHeartbeats 4000000 in
theorem c_X10_wanted (l : Launch) {σ : Sg} {a1 : Int32} {a2 : Int32} {z : Int32 × Sg} (h : f_X10_wanted σ a1 a2 = some z) : am_Met l yX10_wanted cX10_wanted 6 (some .int) { frames := 1, cells := 0, slots := 0, locals := 22 } NM LM (fun ad => [.ref (ad 0), .int a1, .int a2]) σ z.2 (fun _ => some (.int z.1)) := by
  refine am_enter (by decide +kernel) (fun ad => Nat.le_of_ble_eq_true rfl) (fun M D cT ad hl X => ?_)
  subst hl
  refine r_lv (lv' := [(0, .ref (ad 0)), (1, .int a1), (2, .int a2)]) rfl ?_
  unfold f_X10_wanted at h
  refine r_iconst (v := 0) X dX10_wanted_0 (by decide) ?_
  refine r_istore_n X [(3, .int (0 : Int32)), (0, .ref (ad 0)), (1, .int a1), (2, .int a2)] dX10_wanted_1 rfl (by decide) rfl ?_
  refine r_iconst (v := 0) X dX10_wanted_2 (by decide) ?_
  refine r_istore X [(4, .int (0 : Int32)), (3, .int (0 : Int32)), (0, .ref (ad 0)), (1, .int a1), (2, .int a2)] dX10_wanted_3 (by decide) rfl ?_
  refine r_sub (lv' := [(0, .ref (ad 0)), (1, .int a1), (2, .int a2), (3, .int (0 : Int32)), (4, .int (0 : Int32))]) [2, 3, 4, 1, 0] rfl ?_
  exact t_X10_wanted_l5 X 300 σ a1 a2 (0 : Int32) (0 : Int32) h
set_option maxRecDepth 100000 in
set_option maxHeartbeats 4000000 in
theorem t_X10_comesUp_b67 {M : am_M} {D : va_G} {cT : Nat → ClassId} {ad : Nat → Nat} (X : am_X M (D, cT, ad, NM, LM) cX10_comesUp RX10 4 none) {z : Unit × Sg} {k25 : Sg → Int32 → Int32 → Int32 → Option (Unit × Sg)} (hk25 : ∀ (σ : Sg) (x1 : Int32) (x2 : Int32) (x3 : Int32), k25 σ x1 x2 x3 = some z → am_At M { frames := 2, cells := 0, slots := 0, locals := 47 } (D, cT, ad, NM, LM) (amQv M (D, cT, ad, NM, LM) z) 4 25 [(0, .ref (ad 0)), (1, .int x1), (2, .int x2), (3, .int x3)] [] σ) (σ : Sg) (x1 : Int32) (x2 : Int32) (x3 : Int32) (s0 : Int32) (s1 : Int32) (h : f_X10_comesUp_b67 k25 σ x1 x2 x3 s0 s1 = some z) : am_At M { frames := 2, cells := 0, slots := 0, locals := 47 } (D, cT, ad, NM, LM) (amQv M (D, cT, ad, NM, LM) z) 4 67 [(0, .ref (ad 0)), (1, .int x1), (2, .int x2), (3, .int x3)] [.int s0, .int s1, .ref (ad 17)] σ := by
  unfold f_X10_comesUp_b67 at h
  refine r_iast X fM_17 dX10_comesUp_67 h (fun σ1 h => ?_)
  refine r_iinc X [(3, .int (x3 + (1 : Int32))), (0, .ref (ad 0)), (1, .int x1), (2, .int x2)] dX10_comesUp_68 3 rfl (v := x3 + (1 : Int32)) (by rfl) (by decide) rfl ?_
  refine r_letv h (fun v2 h => ?_)
  refine r_goto X 25 dX10_comesUp_71 (by decide) ?_
  refine r_sub (lv' := [(0, .ref (ad 0)), (1, .int x1), (2, .int x2), (3, .int v2)]) [1, 2, 3, 0] rfl ?_
  exact hk25 σ1 x1 x2 v2 h
set_option maxRecDepth 100000 in
set_option maxHeartbeats 4000000 in
theorem t_X10_comesUp_b61 {M : am_M} {D : va_G} {cT : Nat → ClassId} {ad : Nat → Nat} (X : am_X M (D, cT, ad, NM, LM) cX10_comesUp RX10 4 none) {z : Unit × Sg} {k25 : Sg → Int32 → Int32 → Int32 → Option (Unit × Sg)} (hk25 : ∀ (σ : Sg) (x1 : Int32) (x2 : Int32) (x3 : Int32), k25 σ x1 x2 x3 = some z → am_At M { frames := 2, cells := 0, slots := 0, locals := 47 } (D, cT, ad, NM, LM) (amQv M (D, cT, ad, NM, LM) z) 4 25 [(0, .ref (ad 0)), (1, .int x1), (2, .int x2), (3, .int x3)] [] σ) (σ : Sg) (x1 : Int32) (x2 : Int32) (x3 : Int32) (s0 : Int32) (h : f_X10_comesUp_b61 k25 σ x1 x2 x3 s0 = some z) : am_At M { frames := 2, cells := 0, slots := 0, locals := 47 } (D, cT, ad, NM, LM) (amQv M (D, cT, ad, NM, LM) z) 4 61 [(0, .ref (ad 0)), (1, .int x1), (2, .int x2), (3, .int x3)] [.int s0, .ref (ad 17)] σ := by
  unfold f_X10_comesUp_b61 at h
  refine r_aload_n X dX10_comesUp_61 rfl 0 rfl ?_
  refine r_getR (c1 := 17) X fg_X10_58_X10 fM_0 rfl dX10_comesUp_62 ?_
  refine r_iload_n X dX10_comesUp_65 rfl 3 rfl ?_
  refine r_iald X fM_17 dX10_comesUp_66 h (fun h => ?_)
  exact t_X10_comesUp_b67 X hk25 σ x1 x2 x3 (σ 17 (x3).toNatClampNeg) s0 h
set_option maxRecDepth 100000 in
set_option maxHeartbeats 4000000 in
theorem t_X10_comesUp_b133 {M : am_M} {D : va_G} {cT : Nat → ClassId} {ad : Nat → Nat} (X : am_X M (D, cT, ad, NM, LM) cX10_comesUp RX10 4 none) {z : Unit × Sg} (σ : Sg) (s0 : Int32) (h : f_X10_comesUp_b133 σ s0 = some z) : am_At M { frames := 2, cells := 0, slots := 0, locals := 47 } (D, cT, ad, NM, LM) (amQv M (D, cT, ad, NM, LM) z) 4 133 [] [.int s0, .ref (ad 0)] σ := by
  unfold f_X10_comesUp_b133 at h
  refine r_putI X fp_X10_203_X10 fM_0 rfl dX10_comesUp_133 h (fun σ1 h => ?_)
  exact r_vretz X rfl dX10_comesUp_136 h
set_option maxRecDepth 100000 in
set_option maxHeartbeats 4000000 in
theorem t_X10_comesUp_b113 {M : am_M} {D : va_G} {cT : Nat → ClassId} {ad : Nat → Nat} (X : am_X M (D, cT, ad, NM, LM) cX10_comesUp RX10 4 none) {z : Unit × Sg} (σ : Sg) (x2 : Int32) (s0 : Int32) (h : f_X10_comesUp_b113 σ x2 s0 = some z) : am_At M { frames := 2, cells := 0, slots := 0, locals := 47 } (D, cT, ad, NM, LM) (amQv M (D, cT, ad, NM, LM) z) 4 113 [(0, .ref (ad 0)), (2, .int x2)] [.int s0, .ref (ad 0)] σ := by
  unfold f_X10_comesUp_b113 at h
  refine r_putI X fp_X10_206_X10 fM_0 rfl dX10_comesUp_113 h (fun σ1 h => ?_)
  refine r_aload_n X dX10_comesUp_116 rfl 0 rfl ?_
  refine r_aload_n X dX10_comesUp_117 rfl 0 rfl ?_
  refine r_getI X fg_X10_203_X10 fM_0 rfl dX10_comesUp_118 ?_
  refine r_iconst (v := -1) X dX10_comesUp_121 (by decide) ?_
  refine r_icmp_ne X 129 dX10_comesUp_122 (by decide) h (fun h => ?_) (fun h => ?_)
  · refine r_iload_n X dX10_comesUp_125 rfl 1 rfl ?_
    refine r_goto X 133 dX10_comesUp_126 (by decide) ?_
    refine r_sub (lv' := []) [] rfl ?_
    exact t_X10_comesUp_b133 X σ1 x2 h
  · refine r_aload_n X dX10_comesUp_129 rfl 0 rfl ?_
    refine r_getI X fg_X10_203_X10 fM_0 rfl dX10_comesUp_130 ?_
    refine r_sub (lv' := []) [] rfl ?_
    exact t_X10_comesUp_b133 X σ1 (σ1 0 24) h
set_option maxRecDepth 100000 in
set_option maxHeartbeats 4000000 in
theorem t_X10_comesUp_b25 {M : am_M} {D : va_G} {cT : Nat → ClassId} {ad : Nat → Nat} (X : am_X M (D, cT, ad, NM, LM) cX10_comesUp RX10 4 none) {z : Unit × Sg} {k25 : Sg → Int32 → Int32 → Int32 → Option (Unit × Sg)} (hk25 : ∀ (σ : Sg) (x1 : Int32) (x2 : Int32) (x3 : Int32), k25 σ x1 x2 x3 = some z → am_At M { frames := 2, cells := 0, slots := 0, locals := 47 } (D, cT, ad, NM, LM) (amQv M (D, cT, ad, NM, LM) z) 4 25 [(0, .ref (ad 0)), (1, .int x1), (2, .int x2), (3, .int x3)] [] σ) (σ : Sg) (x1 : Int32) (x2 : Int32) (x3 : Int32) (h : f_X10_comesUp_b25 k25 σ x1 x2 x3 = some z) : am_At M { frames := 2, cells := 0, slots := 0, locals := 47 } (D, cT, ad, NM, LM) (amQv M (D, cT, ad, NM, LM) z) 4 25 [(0, .ref (ad 0)), (1, .int x1), (2, .int x2), (3, .int x3)] [] σ := by
  unfold f_X10_comesUp_b25 at h
  refine r_iload_n X dX10_comesUp_25 rfl 3 rfl ?_
  refine r_aload_n X dX10_comesUp_26 rfl 0 rfl ?_
  refine r_getI X fg_X10_134_X10 fM_0 rfl dX10_comesUp_27 ?_
  refine r_icmp_ge X 74 dX10_comesUp_30 (by decide) h (fun h => ?_) (fun h => ?_)
  · refine r_aload_n X dX10_comesUp_74 rfl 0 rfl ?_
    refine r_dup X dX10_comesUp_75 rfl ?_
    refine r_getI X fg_X10_200_X10 fM_0 rfl dX10_comesUp_76 ?_
    refine r_iconst (v := 1) X dX10_comesUp_79 (by decide) ?_
    refine r_iload_n X dX10_comesUp_80 rfl 1 rfl ?_
    refine r_ishl X dX10_comesUp_81 ?_
    refine r_ior X dX10_comesUp_82 ?_
    refine r_putI X fp_X10_200_X10 fM_0 rfl dX10_comesUp_83 h (fun σ1 h => ?_)
    refine r_aload_n X dX10_comesUp_86 rfl 0 rfl ?_
    refine r_getR (c1 := 16) X fg_X10_55_X10 fM_0 rfl dX10_comesUp_87 ?_
    refine r_iload_n X dX10_comesUp_90 rfl 1 rfl ?_
    refine r_dup2 X dX10_comesUp_91 rfl rfl ?_
    refine r_iald X fM_16 dX10_comesUp_92 h (fun h => ?_)
    refine r_iconst (v := 1) X dX10_comesUp_93 (by decide) ?_
    refine r_iadd X dX10_comesUp_94 ?_
    refine r_iast X fM_16 dX10_comesUp_95 h (fun σ2 h => ?_)
    refine r_aload_n X dX10_comesUp_96 rfl 0 rfl ?_
    refine r_aload_n X dX10_comesUp_97 rfl 0 rfl ?_
    refine r_getI X fg_X10_203_X10 fM_0 rfl dX10_comesUp_98 ?_
    refine r_iconst (v := -1) X dX10_comesUp_101 (by decide) ?_
    refine r_icmp_ne X 109 dX10_comesUp_102 (by decide) h (fun h => ?_) (fun h => ?_)
    · refine r_iload_n X dX10_comesUp_105 rfl 1 rfl ?_
      refine r_goto X 113 dX10_comesUp_106 (by decide) ?_
      refine r_sub (lv' := [(0, .ref (ad 0)), (2, .int x2)]) [0, 2] rfl ?_
      exact t_X10_comesUp_b113 X σ2 x2 x1 h
    · refine r_aload_n X dX10_comesUp_109 rfl 0 rfl ?_
      refine r_getI X fg_X10_206_X10 fM_0 rfl dX10_comesUp_110 ?_
      refine r_sub (lv' := [(0, .ref (ad 0)), (2, .int x2)]) [0, 2] rfl ?_
      exact t_X10_comesUp_b113 X σ2 x2 (σ2 0 25) h
  · refine r_aload_n X dX10_comesUp_33 rfl 0 rfl ?_
    refine r_getR (c1 := 17) X fg_X10_58_X10 fM_0 rfl dX10_comesUp_34 ?_
    refine r_iload_n X dX10_comesUp_37 rfl 3 rfl ?_
    refine r_aload_n X dX10_comesUp_38 rfl 0 rfl ?_
    refine r_getR (c1 := 7) X fg_X10_28_X10 fM_0 rfl dX10_comesUp_39 ?_
    refine r_iload_n X dX10_comesUp_42 rfl 3 rfl ?_
    refine r_iald X fM_7 dX10_comesUp_43 h (fun h => ?_)
    refine r_iload_n X dX10_comesUp_44 rfl 1 rfl ?_
    refine r_icmp_ne X 61 dX10_comesUp_45 (by decide) h (fun h => ?_) (fun h => ?_)
    · refine r_aload_n X dX10_comesUp_48 rfl 0 rfl ?_
      refine r_iload_n X dX10_comesUp_49 rfl 3 rfl ?_
      refine r_iload_n X dX10_comesUp_50 rfl 2 rfl ?_
      obtain ⟨r3, σ4, hc_5, h⟩ := bnd_of h
      refine r_callV (As := [.int x3, .int x2]) (rest := [.int x3, .ref (ad 17)]) (st2 := [.int r3, .int x3, .ref (ad 17)]) (c := 0) X cv_X10_190 (c_X10_isOpen M.2.1 hc_5) rfl (ci := 9) rfl fM_0 rfl rfl (Nat.le_of_ble_eq_true rfl) ⟨⟨rfl, rfl⟩, by decide, by decide⟩ dX10_comesUp_51 ⟨rfl, rfl⟩ rfl ?_
      refine r_if_eq X 61 dX10_comesUp_54 (by decide) h (fun h => ?_) (fun h => ?_)
      · exact t_X10_comesUp_b61 X hk25 σ4 x1 x2 x3 x3 h
      · refine r_iload_n X dX10_comesUp_57 rfl 2 rfl ?_
        refine r_goto X 67 dX10_comesUp_58 (by decide) ?_
        exact t_X10_comesUp_b67 X hk25 σ4 x1 x2 x3 x2 x3 h
    · exact t_X10_comesUp_b61 X hk25 σ x1 x2 x3 x3 h
theorem t_X10_comesUp_l25 {M : am_M} {D : va_G} {cT : Nat → ClassId} {ad : Nat → Nat} (X : am_X M (D, cT, ad, NM, LM) cX10_comesUp RX10 4 none) {z : Unit × Sg} (n : Nat) : ∀ (σ : Sg) (x1 : Int32) (x2 : Int32) (x3 : Int32), f_X10_comesUp_l25 n σ x1 x2 x3 = some z → am_At M { frames := 2, cells := 0, slots := 0, locals := 47 } (D, cT, ad, NM, LM) (amQv M (D, cT, ad, NM, LM) z) 4 25 [(0, .ref (ad 0)), (1, .int x1), (2, .int x2), (3, .int x3)] [] σ := by
  induction n with
  | zero =>
    intro σ x1 x2 x3 h
    have h2 : (none : Option (Unit × Sg)) = some z := h
    cases h2
  | succ n ih =>
    intro σ x1 x2 x3 h
    exact t_X10_comesUp_b25 X (k25 := f_X10_comesUp_l25 n) ih σ x1 x2 x3 h
set_option maxRecDepth 100000 in
set_option maxHeartbeats 4000000 in
theorem t_X10_comesUp_b19 {M : am_M} {D : va_G} {cT : Nat → ClassId} {ad : Nat → Nat} (X : am_X M (D, cT, ad, NM, LM) cX10_comesUp RX10 4 none) {z : Unit × Sg} (σ : Sg) (x1 : Int32) (x2 : Int32) (s0 : Int32) (s1 : Int32) (h : f_X10_comesUp_b19 σ x1 x2 s0 s1 = some z) : am_At M { frames := 2, cells := 0, slots := 0, locals := 47 } (D, cT, ad, NM, LM) (amQv M (D, cT, ad, NM, LM) z) 4 19 [(0, .ref (ad 0)), (1, .int x1), (2, .int x2)] [.int s0, .int s1, .ref (ad 0)] σ := by
  unfold f_X10_comesUp_b19 at h
  refine r_iadd X dX10_comesUp_19 ?_
  refine r_putI X fp_X10_197_X10 fM_0 rfl dX10_comesUp_20 h (fun σ1 h => ?_)
  refine r_iconst (v := 0) X dX10_comesUp_23 (by decide) ?_
  refine r_istore_n X [(3, .int (0 : Int32)), (0, .ref (ad 0)), (1, .int x1), (2, .int x2)] dX10_comesUp_24 rfl (by decide) rfl ?_
  refine r_sub (lv' := [(0, .ref (ad 0)), (1, .int x1), (2, .int x2), (3, .int (0 : Int32))]) [1, 2, 3, 0] rfl ?_
  exact t_X10_comesUp_l25 X 300 σ1 x1 x2 (0 : Int32) h
set_option maxRecDepth 100000 in
set_option maxHeartbeats 4000000 in
theorem c_X10_comesUp (l : Launch) {σ : Sg} {a1 : Int32} {a2 : Int32} {z : Unit × Sg} (h : f_X10_comesUp σ a1 a2 = some z) : am_Met l yX10_comesUp cX10_comesUp 4 none { frames := 2, cells := 0, slots := 0, locals := 47 } NM LM (fun ad => [.ref (ad 0), .int a1, .int a2]) σ z.2 (fun _ => none) := by
  refine am_enter (by decide +kernel) (fun ad => Nat.le_of_ble_eq_true rfl) (fun M D cT ad hl X => ?_)
  subst hl
  refine r_lv (lv' := [(0, .ref (ad 0)), (1, .int a1), (2, .int a2)]) rfl ?_
  unfold f_X10_comesUp at h
  refine r_aload_n X dX10_comesUp_0 rfl 0 rfl ?_
  refine r_dup X dX10_comesUp_1 rfl ?_
  refine r_getI X fg_X10_197_X10 fM_0 rfl dX10_comesUp_2 ?_
  refine r_aload_n X dX10_comesUp_5 rfl 0 rfl ?_
  refine r_iload_n X dX10_comesUp_6 rfl 1 rfl ?_
  refine r_iload_n X dX10_comesUp_7 rfl 2 rfl ?_
  obtain ⟨r1, σ2, hc_3, h⟩ := bnd_of h
  refine r_callV (As := [.int a1, .int a2]) (rest := [.int (σ 0 23), .ref (ad 0)]) (st2 := [.int r1, .int (σ 0 23), .ref (ad 0)]) (c := 0) X cv_X10_194 (c_X10_wanted M.2.1 hc_3) rfl (ci := 9) rfl fM_0 rfl rfl (Nat.le_of_ble_eq_true rfl) ⟨⟨rfl, rfl⟩, by decide, by decide⟩ dX10_comesUp_8 ⟨rfl, rfl⟩ rfl ?_
  refine r_if_ne X 18 dX10_comesUp_11 (by decide) h (fun h => ?_) (fun h => ?_)
  · refine r_iconst (v := 1) X dX10_comesUp_14 (by decide) ?_
    refine r_goto X 19 dX10_comesUp_15 (by decide) ?_
    exact t_X10_comesUp_b19 X σ2 a1 a2 (1 : Int32) (σ 0 23) h
  · refine r_iconst (v := 0) X dX10_comesUp_18 (by decide) ?_
    exact t_X10_comesUp_b19 X σ2 a1 a2 (0 : Int32) (σ 0 23) h
set_option maxRecDepth 100000 in
set_option maxHeartbeats 4000000 in
theorem c_X10_pull (l : Launch) {σ : Sg} {a1 : Int32} {a2 : Int32} {z : Int32 × Sg} (h : f_X10_pull σ a1 a2 = some z) : am_Met l yX10_pull cX10_pull 4 (some .int) { frames := 2, cells := 0, slots := 0, locals := 47 } NM LM (fun ad => [.ref (ad 0), .int a1, .int a2]) σ z.2 (fun _ => some (.int z.1)) := by
  refine am_enter (by decide +kernel) (fun ad => Nat.le_of_ble_eq_true rfl) (fun M D cT ad hl X => ?_)
  subst hl
  refine r_lv (lv' := [(0, .ref (ad 0)), (1, .int a1), (2, .int a2)]) rfl ?_
  unfold f_X10_pull at h
  refine r_aload_n X dX10_pull_0 rfl 0 rfl ?_
  refine r_iload_n X dX10_pull_1 rfl 1 rfl ?_
  refine r_iload_n X dX10_pull_2 rfl 2 rfl ?_
  obtain ⟨r1, σ2, hc_3, h⟩ := bnd_of h
  refine r_callV (As := [.int a1, .int a2]) (rest := []) (st2 := [.int r1]) (c := 0) X cv_X10_194 (c_X10_wanted M.2.1 hc_3) rfl (ci := 9) rfl fM_0 rfl rfl (Nat.le_of_ble_eq_true rfl) ⟨⟨rfl, rfl⟩, by decide, by decide⟩ dX10_pull_3 ⟨rfl, rfl⟩ rfl ?_
  refine r_istore_n X [(3, .int r1), (0, .ref (ad 0)), (1, .int a1), (2, .int a2)] dX10_pull_6 rfl (by decide) rfl ?_
  refine r_aload_n X dX10_pull_7 rfl 1 rfl ?_
  refine r_getR (c1 := 3) X fg_X10_16_X10 fM_0 rfl dX10_pull_8 ?_
  refine r_iload_n X dX10_pull_11 rfl 2 rfl ?_
  refine r_iald X fM_3 dX10_pull_12 h (fun h => ?_)
  refine r_if_ne X 29 dX10_pull_13 (by decide) h (fun h => ?_) (fun h => ?_)
  · refine r_iload_n X dX10_pull_16 rfl 0 rfl ?_
    refine r_aload_n X dX10_pull_17 rfl 1 rfl ?_
    refine r_getR (c1 := 6) X fg_X10_25_X10 fM_0 rfl dX10_pull_18 ?_
    refine r_iload_n X dX10_pull_21 rfl 2 rfl ?_
    refine r_iald X fM_6 dX10_pull_22 h (fun h => ?_)
    refine r_iconst (v := 2) X dX10_pull_23 (by decide) ?_
    refine r_idiv0 X dX10_pull_24 (by decide) ?_
    refine r_isub X dX10_pull_25 ?_
    refine r_goto X 56 dX10_pull_26 (by decide) ?_
    exact r_iretz X rfl dX10_pull_56 h
  · refine r_aload_n X dX10_pull_29 rfl 1 rfl ?_
    refine r_getR (c1 := 3) X fg_X10_16_X10 fM_0 rfl dX10_pull_30 ?_
    refine r_iload_n X dX10_pull_33 rfl 2 rfl ?_
    refine r_iald X fM_3 dX10_pull_34 h (fun h => ?_)
    refine r_iconst (v := 1) X dX10_pull_35 (by decide) ?_
    refine r_icmp_ne X 50 dX10_pull_36 (by decide) h (fun h => ?_) (fun h => ?_)
    · refine r_iload_n X dX10_pull_39 rfl 0 rfl ?_
      refine r_aload_n X dX10_pull_40 rfl 1 rfl ?_
      refine r_getR (c1 := 6) X fg_X10_25_X10 fM_0 rfl dX10_pull_41 ?_
      refine r_iload_n X dX10_pull_44 rfl 2 rfl ?_
      refine r_iald X fM_6 dX10_pull_45 h (fun h => ?_)
      refine r_isub X dX10_pull_46 ?_
      refine r_goto X 56 dX10_pull_47 (by decide) ?_
      exact r_iretz X rfl dX10_pull_56 h
    · refine r_aload_n X dX10_pull_50 rfl 1 rfl ?_
      refine r_getR (c1 := 16) X fg_X10_55_X10 fM_0 rfl dX10_pull_51 ?_
      refine r_iload_n X dX10_pull_54 rfl 2 rfl ?_
      refine r_iald X fM_16 dX10_pull_55 h (fun h => ?_)
      exact r_iretz X rfl dX10_pull_56 h
set_option maxRecDepth 100000 in
set_option maxHeartbeats 4000000 in
theorem t_X10_ploughs_b121 {M : am_M} {D : va_G} {cT : Nat → ClassId} {ad : Nat → Nat} (X : am_X M (D, cT, ad, NM, LM) cX10_ploughs RX10 9 none) {z : Unit × Sg} {k8 : Sg → Int32 → Int32 → Int32 → Int32 → Int32 → Option (Unit × Sg)} (hk8 : ∀ (σ : Sg) (x1 : Int32) (x2 : Int32) (x3 : Int32) (x4 : Int32) (x5 : Int32), k8 σ x1 x2 x3 x4 x5 = some z → am_At M { frames := 3, cells := 0, slots := 0, locals := 70 } (D, cT, ad, NM, LM) (amQv M (D, cT, ad, NM, LM) z) 9 8 [(0, .ref (ad 0)), (1, .int x1), (2, .int x2), (3, .int x3), (4, .int x4), (5, .int x5)] [] σ) {k18 : Sg → Int32 → Int32 → Int32 → Int32 → Int32 → Int32 → Option (Unit × Sg)} (hk18 : ∀ (σ : Sg) (x1 : Int32) (x2 : Int32) (x3 : Int32) (x4 : Int32) (x5 : Int32) (x6 : Int32), k18 σ x1 x2 x3 x4 x5 x6 = some z → am_At M { frames := 3, cells := 0, slots := 0, locals := 70 } (D, cT, ad, NM, LM) (amQv M (D, cT, ad, NM, LM) z) 9 18 [(0, .ref (ad 0)), (1, .int x1), (2, .int x2), (3, .int x3), (4, .int x4), (5, .int x5), (6, .int x6)] [] σ) (σ : Sg) (x1 : Int32) (x2 : Int32) (x3 : Int32) (x4 : Int32) (x5 : Int32) (x6 : Int32) (h : f_X10_ploughs_b121 k8 k18 σ x1 x2 x3 x4 x5 x6 = some z) : am_At M { frames := 3, cells := 0, slots := 0, locals := 70 } (D, cT, ad, NM, LM) (amQv M (D, cT, ad, NM, LM) z) 9 121 [(0, .ref (ad 0)), (1, .int x1), (2, .int x2), (3, .int x3), (4, .int x4), (5, .int x5), (6, .int x6)] [] σ := by
  unfold f_X10_ploughs_b121 at h
  refine r_iinc X [(6, .int (x6 + (1 : Int32))), (0, .ref (ad 0)), (1, .int x1), (2, .int x2), (3, .int x3), (4, .int x4), (5, .int x5)] dX10_ploughs_121 6 rfl (v := x6 + (1 : Int32)) (by rfl) (by decide) rfl ?_
  refine r_letv h (fun v1 h => ?_)
  refine r_goto X 18 dX10_ploughs_124 (by decide) ?_
  refine r_sub (lv' := [(0, .ref (ad 0)), (1, .int x1), (2, .int x2), (3, .int x3), (4, .int x4), (5, .int x5), (6, .int v1)]) [1, 2, 3, 4, 5, 6, 0] rfl ?_
  exact hk18 σ x1 x2 x3 x4 x5 v1 h
set_option maxRecDepth 100000 in
set_option maxHeartbeats 4000000 in
theorem t_X10_ploughs_b119 {M : am_M} {D : va_G} {cT : Nat → ClassId} {ad : Nat → Nat} (X : am_X M (D, cT, ad, NM, LM) cX10_ploughs RX10 9 none) {z : Unit × Sg} {k8 : Sg → Int32 → Int32 → Int32 → Int32 → Int32 → Option (Unit × Sg)} (hk8 : ∀ (σ : Sg) (x1 : Int32) (x2 : Int32) (x3 : Int32) (x4 : Int32) (x5 : Int32), k8 σ x1 x2 x3 x4 x5 = some z → am_At M { frames := 3, cells := 0, slots := 0, locals := 70 } (D, cT, ad, NM, LM) (amQv M (D, cT, ad, NM, LM) z) 9 8 [(0, .ref (ad 0)), (1, .int x1), (2, .int x2), (3, .int x3), (4, .int x4), (5, .int x5)] [] σ) {k18 : Sg → Int32 → Int32 → Int32 → Int32 → Int32 → Int32 → Option (Unit × Sg)} (hk18 : ∀ (σ : Sg) (x1 : Int32) (x2 : Int32) (x3 : Int32) (x4 : Int32) (x5 : Int32) (x6 : Int32), k18 σ x1 x2 x3 x4 x5 x6 = some z → am_At M { frames := 3, cells := 0, slots := 0, locals := 70 } (D, cT, ad, NM, LM) (amQv M (D, cT, ad, NM, LM) z) 9 18 [(0, .ref (ad 0)), (1, .int x1), (2, .int x2), (3, .int x3), (4, .int x4), (5, .int x5), (6, .int x6)] [] σ) (σ : Sg) (x1 : Int32) (x2 : Int32) (x3 : Int32) (x5 : Int32) (x6 : Int32) (s0 : Int32) (h : f_X10_ploughs_b119 k8 k18 σ x1 x2 x3 x5 x6 s0 = some z) : am_At M { frames := 3, cells := 0, slots := 0, locals := 70 } (D, cT, ad, NM, LM) (amQv M (D, cT, ad, NM, LM) z) 9 119 [(0, .ref (ad 0)), (1, .int x1), (2, .int x2), (3, .int x3), (5, .int x5), (6, .int x6)] [.int s0] σ := by
  unfold f_X10_ploughs_b119 at h
  refine r_istore X [(4, .int s0), (0, .ref (ad 0)), (1, .int x1), (2, .int x2), (3, .int x3), (5, .int x5), (6, .int x6)] dX10_ploughs_119 (by decide) rfl ?_
  refine r_sub (lv' := [(0, .ref (ad 0)), (1, .int x1), (2, .int x2), (3, .int x3), (4, .int s0), (5, .int x5), (6, .int x6)]) [1, 2, 3, 4, 0, 5, 6] rfl ?_
  exact t_X10_ploughs_b121 X hk8 hk18 σ x1 x2 x3 s0 x5 x6 h
set_option maxRecDepth 100000 in
set_option maxHeartbeats 4000000 in
theorem t_X10_ploughs_b106 {M : am_M} {D : va_G} {cT : Nat → ClassId} {ad : Nat → Nat} (X : am_X M (D, cT, ad, NM, LM) cX10_ploughs RX10 9 none) {z : Unit × Sg} {k8 : Sg → Int32 → Int32 → Int32 → Int32 → Int32 → Option (Unit × Sg)} (hk8 : ∀ (σ : Sg) (x1 : Int32) (x2 : Int32) (x3 : Int32) (x4 : Int32) (x5 : Int32), k8 σ x1 x2 x3 x4 x5 = some z → am_At M { frames := 3, cells := 0, slots := 0, locals := 70 } (D, cT, ad, NM, LM) (amQv M (D, cT, ad, NM, LM) z) 9 8 [(0, .ref (ad 0)), (1, .int x1), (2, .int x2), (3, .int x3), (4, .int x4), (5, .int x5)] [] σ) {k18 : Sg → Int32 → Int32 → Int32 → Int32 → Int32 → Int32 → Option (Unit × Sg)} (hk18 : ∀ (σ : Sg) (x1 : Int32) (x2 : Int32) (x3 : Int32) (x4 : Int32) (x5 : Int32) (x6 : Int32), k18 σ x1 x2 x3 x4 x5 x6 = some z → am_At M { frames := 3, cells := 0, slots := 0, locals := 70 } (D, cT, ad, NM, LM) (amQv M (D, cT, ad, NM, LM) z) 9 18 [(0, .ref (ad 0)), (1, .int x1), (2, .int x2), (3, .int x3), (4, .int x4), (5, .int x5), (6, .int x6)] [] σ) (σ : Sg) (x1 : Int32) (x2 : Int32) (x4 : Int32) (x5 : Int32) (x6 : Int32) (x7 : Int32) (x8 : Int32) (s0 : Int32) (h : f_X10_ploughs_b106 k8 k18 σ x1 x2 x4 x5 x6 x7 x8 s0 = some z) : am_At M { frames := 3, cells := 0, slots := 0, locals := 70 } (D, cT, ad, NM, LM) (amQv M (D, cT, ad, NM, LM) z) 9 106 [(0, .ref (ad 0)), (1, .int x1), (2, .int x2), (4, .int x4), (5, .int x5), (6, .int x6), (7, .int x7), (8, .int x8)] [.int s0] σ := by
  unfold f_X10_ploughs_b106 at h
  refine r_istore_n X [(3, .int s0), (0, .ref (ad 0)), (1, .int x1), (2, .int x2), (4, .int x4), (5, .int x5), (6, .int x6), (7, .int x7), (8, .int x8)] dX10_ploughs_106 rfl (by decide) rfl ?_
  refine r_iload X dX10_ploughs_107 8 rfl ?_
  refine r_if_eq X 117 dX10_ploughs_109 (by decide) h (fun h => ?_) (fun h => ?_)
  · refine r_iload X dX10_ploughs_117 4 rfl ?_
    refine r_sub (lv' := [(0, .ref (ad 0)), (1, .int x1), (2, .int x2), (3, .int s0), (5, .int x5), (6, .int x6)]) [1, 2, 3, 0, 5, 6] rfl ?_
    exact t_X10_ploughs_b119 X hk8 hk18 σ x1 x2 s0 x5 x6 x4 h
  · refine r_iload X dX10_ploughs_112 7 rfl ?_
    refine r_goto X 119 dX10_ploughs_114 (by decide) ?_
    refine r_sub (lv' := [(0, .ref (ad 0)), (1, .int x1), (2, .int x2), (3, .int s0), (5, .int x5), (6, .int x6)]) [1, 2, 3, 0, 5, 6] rfl ?_
    exact t_X10_ploughs_b119 X hk8 hk18 σ x1 x2 s0 x5 x6 x7 h
set_option maxRecDepth 100000 in
set_option maxHeartbeats 4000000 in
theorem t_X10_ploughs_b93 {M : am_M} {D : va_G} {cT : Nat → ClassId} {ad : Nat → Nat} (X : am_X M (D, cT, ad, NM, LM) cX10_ploughs RX10 9 none) {z : Unit × Sg} {k8 : Sg → Int32 → Int32 → Int32 → Int32 → Int32 → Option (Unit × Sg)} (hk8 : ∀ (σ : Sg) (x1 : Int32) (x2 : Int32) (x3 : Int32) (x4 : Int32) (x5 : Int32), k8 σ x1 x2 x3 x4 x5 = some z → am_At M { frames := 3, cells := 0, slots := 0, locals := 70 } (D, cT, ad, NM, LM) (amQv M (D, cT, ad, NM, LM) z) 9 8 [(0, .ref (ad 0)), (1, .int x1), (2, .int x2), (3, .int x3), (4, .int x4), (5, .int x5)] [] σ) {k18 : Sg → Int32 → Int32 → Int32 → Int32 → Int32 → Int32 → Option (Unit × Sg)} (hk18 : ∀ (σ : Sg) (x1 : Int32) (x2 : Int32) (x3 : Int32) (x4 : Int32) (x5 : Int32) (x6 : Int32), k18 σ x1 x2 x3 x4 x5 x6 = some z → am_At M { frames := 3, cells := 0, slots := 0, locals := 70 } (D, cT, ad, NM, LM) (amQv M (D, cT, ad, NM, LM) z) 9 18 [(0, .ref (ad 0)), (1, .int x1), (2, .int x2), (3, .int x3), (4, .int x4), (5, .int x5), (6, .int x6)] [] σ) (σ : Sg) (x1 : Int32) (x2 : Int32) (x3 : Int32) (x4 : Int32) (x5 : Int32) (x6 : Int32) (x7 : Int32) (s0 : Int32) (h : f_X10_ploughs_b93 k8 k18 σ x1 x2 x3 x4 x5 x6 x7 s0 = some z) : am_At M { frames := 3, cells := 0, slots := 0, locals := 70 } (D, cT, ad, NM, LM) (amQv M (D, cT, ad, NM, LM) z) 9 93 [(0, .ref (ad 0)), (1, .int x1), (2, .int x2), (3, .int x3), (4, .int x4), (5, .int x5), (6, .int x6), (7, .int x7)] [.int s0] σ := by
  unfold f_X10_ploughs_b93 at h
  refine r_istore X [(8, .int s0), (0, .ref (ad 0)), (1, .int x1), (2, .int x2), (3, .int x3), (4, .int x4), (5, .int x5), (6, .int x6), (7, .int x7)] dX10_ploughs_93 (by decide) rfl ?_
  refine r_iload X dX10_ploughs_95 0 rfl ?_
  refine r_if_eq X 105 dX10_ploughs_97 (by decide) h (fun h => ?_) (fun h => ?_)
  · refine r_iload_n X dX10_ploughs_105 rfl 4 rfl ?_
    refine r_sub (lv' := [(0, .ref (ad 0)), (1, .int x1), (2, .int x2), (4, .int x4), (5, .int x5), (6, .int x6), (7, .int x7), (8, .int s0)]) [1, 2, 3, 5, 6, 7, 8, 0] rfl ?_
    exact t_X10_ploughs_b106 X hk8 hk18 σ x1 x2 x4 x5 x6 x7 s0 x3 h
  · refine r_iload X dX10_ploughs_100 7 rfl ?_
    refine r_goto X 106 dX10_ploughs_102 (by decide) ?_
    refine r_sub (lv' := [(0, .ref (ad 0)), (1, .int x1), (2, .int x2), (4, .int x4), (5, .int x5), (6, .int x6), (7, .int x7), (8, .int s0)]) [1, 2, 3, 5, 6, 7, 8, 0] rfl ?_
    exact t_X10_ploughs_b106 X hk8 hk18 σ x1 x2 x4 x5 x6 x7 s0 x6 h
set_option maxRecDepth 100000 in
set_option maxHeartbeats 4000000 in
theorem t_X10_ploughs_b88 {M : am_M} {D : va_G} {cT : Nat → ClassId} {ad : Nat → Nat} (X : am_X M (D, cT, ad, NM, LM) cX10_ploughs RX10 9 none) {z : Unit × Sg} {k8 : Sg → Int32 → Int32 → Int32 → Int32 → Int32 → Option (Unit × Sg)} (hk8 : ∀ (σ : Sg) (x1 : Int32) (x2 : Int32) (x3 : Int32) (x4 : Int32) (x5 : Int32), k8 σ x1 x2 x3 x4 x5 = some z → am_At M { frames := 3, cells := 0, slots := 0, locals := 70 } (D, cT, ad, NM, LM) (amQv M (D, cT, ad, NM, LM) z) 9 8 [(0, .ref (ad 0)), (1, .int x1), (2, .int x2), (3, .int x3), (4, .int x4), (5, .int x5)] [] σ) {k18 : Sg → Int32 → Int32 → Int32 → Int32 → Int32 → Int32 → Option (Unit × Sg)} (hk18 : ∀ (σ : Sg) (x1 : Int32) (x2 : Int32) (x3 : Int32) (x4 : Int32) (x5 : Int32) (x6 : Int32), k18 σ x1 x2 x3 x4 x5 x6 = some z → am_At M { frames := 3, cells := 0, slots := 0, locals := 70 } (D, cT, ad, NM, LM) (amQv M (D, cT, ad, NM, LM) z) 9 18 [(0, .ref (ad 0)), (1, .int x1), (2, .int x2), (3, .int x3), (4, .int x4), (5, .int x5), (6, .int x6)] [] σ) (σ : Sg) (x1 : Int32) (x2 : Int32) (x3 : Int32) (x4 : Int32) (x5 : Int32) (x6 : Int32) (x7 : Int32) (h : f_X10_ploughs_b88 k8 k18 σ x1 x2 x3 x4 x5 x6 x7 = some z) : am_At M { frames := 3, cells := 0, slots := 0, locals := 70 } (D, cT, ad, NM, LM) (amQv M (D, cT, ad, NM, LM) z) 9 88 [(0, .ref (ad 0)), (1, .int x1), (2, .int x2), (3, .int x3), (4, .int x4), (5, .int x5), (6, .int x6), (7, .int x7)] [] σ := by
  unfold f_X10_ploughs_b88 at h
  refine r_iconst (v := 1) X dX10_ploughs_88 (by decide) ?_
  refine r_goto X 93 dX10_ploughs_89 (by decide) ?_
  exact t_X10_ploughs_b93 X hk8 hk18 σ x1 x2 x3 x4 x5 x6 x7 (1 : Int32) h
set_option maxRecDepth 100000 in
set_option maxHeartbeats 4000000 in
theorem t_X10_ploughs_b92 {M : am_M} {D : va_G} {cT : Nat → ClassId} {ad : Nat → Nat} (X : am_X M (D, cT, ad, NM, LM) cX10_ploughs RX10 9 none) {z : Unit × Sg} {k8 : Sg → Int32 → Int32 → Int32 → Int32 → Int32 → Option (Unit × Sg)} (hk8 : ∀ (σ : Sg) (x1 : Int32) (x2 : Int32) (x3 : Int32) (x4 : Int32) (x5 : Int32), k8 σ x1 x2 x3 x4 x5 = some z → am_At M { frames := 3, cells := 0, slots := 0, locals := 70 } (D, cT, ad, NM, LM) (amQv M (D, cT, ad, NM, LM) z) 9 8 [(0, .ref (ad 0)), (1, .int x1), (2, .int x2), (3, .int x3), (4, .int x4), (5, .int x5)] [] σ) {k18 : Sg → Int32 → Int32 → Int32 → Int32 → Int32 → Int32 → Option (Unit × Sg)} (hk18 : ∀ (σ : Sg) (x1 : Int32) (x2 : Int32) (x3 : Int32) (x4 : Int32) (x5 : Int32) (x6 : Int32), k18 σ x1 x2 x3 x4 x5 x6 = some z → am_At M { frames := 3, cells := 0, slots := 0, locals := 70 } (D, cT, ad, NM, LM) (amQv M (D, cT, ad, NM, LM) z) 9 18 [(0, .ref (ad 0)), (1, .int x1), (2, .int x2), (3, .int x3), (4, .int x4), (5, .int x5), (6, .int x6)] [] σ) (σ : Sg) (x1 : Int32) (x2 : Int32) (x3 : Int32) (x4 : Int32) (x5 : Int32) (x6 : Int32) (x7 : Int32) (h : f_X10_ploughs_b92 k8 k18 σ x1 x2 x3 x4 x5 x6 x7 = some z) : am_At M { frames := 3, cells := 0, slots := 0, locals := 70 } (D, cT, ad, NM, LM) (amQv M (D, cT, ad, NM, LM) z) 9 92 [(0, .ref (ad 0)), (1, .int x1), (2, .int x2), (3, .int x3), (4, .int x4), (5, .int x5), (6, .int x6), (7, .int x7)] [] σ := by
  unfold f_X10_ploughs_b92 at h
  refine r_iconst (v := 0) X dX10_ploughs_92 (by decide) ?_
  exact t_X10_ploughs_b93 X hk8 hk18 σ x1 x2 x3 x4 x5 x6 x7 (0 : Int32) h
set_option maxRecDepth 100000 in
set_option maxHeartbeats 4000000 in
theorem t_X10_ploughs_b18 {M : am_M} {D : va_G} {cT : Nat → ClassId} {ad : Nat → Nat} (X : am_X M (D, cT, ad, NM, LM) cX10_ploughs RX10 9 none) {z : Unit × Sg} {k8 : Sg → Int32 → Int32 → Int32 → Int32 → Int32 → Option (Unit × Sg)} (hk8 : ∀ (σ : Sg) (x1 : Int32) (x2 : Int32) (x3 : Int32) (x4 : Int32) (x5 : Int32), k8 σ x1 x2 x3 x4 x5 = some z → am_At M { frames := 3, cells := 0, slots := 0, locals := 70 } (D, cT, ad, NM, LM) (amQv M (D, cT, ad, NM, LM) z) 9 8 [(0, .ref (ad 0)), (1, .int x1), (2, .int x2), (3, .int x3), (4, .int x4), (5, .int x5)] [] σ) {k18 : Sg → Int32 → Int32 → Int32 → Int32 → Int32 → Int32 → Option (Unit × Sg)} (hk18 : ∀ (σ : Sg) (x1 : Int32) (x2 : Int32) (x3 : Int32) (x4 : Int32) (x5 : Int32) (x6 : Int32), k18 σ x1 x2 x3 x4 x5 x6 = some z → am_At M { frames := 3, cells := 0, slots := 0, locals := 70 } (D, cT, ad, NM, LM) (amQv M (D, cT, ad, NM, LM) z) 9 18 [(0, .ref (ad 0)), (1, .int x1), (2, .int x2), (3, .int x3), (4, .int x4), (5, .int x5), (6, .int x6)] [] σ) (σ : Sg) (x1 : Int32) (x2 : Int32) (x3 : Int32) (x4 : Int32) (x5 : Int32) (x6 : Int32) (h : f_X10_ploughs_b18 k8 k18 σ x1 x2 x3 x4 x5 x6 = some z) : am_At M { frames := 3, cells := 0, slots := 0, locals := 70 } (D, cT, ad, NM, LM) (amQv M (D, cT, ad, NM, LM) z) 9 18 [(0, .ref (ad 0)), (1, .int x1), (2, .int x2), (3, .int x3), (4, .int x4), (5, .int x5), (6, .int x6)] [] σ := by
  unfold f_X10_ploughs_b18 at h
  refine r_iload X dX10_ploughs_18 6 rfl ?_
  refine r_aload_n X dX10_ploughs_20 rfl 0 rfl ?_
  refine r_getI X fg_X10_130_X10 fM_0 rfl dX10_ploughs_21 ?_
  refine r_icmp_ge X 127 dX10_ploughs_24 (by decide) h (fun h => ?_) (fun h => ?_)
  · refine r_iinc X [(5, .int (x5 + (1 : Int32))), (0, .ref (ad 0)), (1, .int x1), (2, .int x2), (3, .int x3), (4, .int x4), (6, .int x6)] dX10_ploughs_127 5 rfl (v := x5 + (1 : Int32)) (by rfl) (by decide) rfl ?_
    refine r_letv h (fun v1 h => ?_)
    refine r_goto X 8 dX10_ploughs_130 (by decide) ?_
    refine r_sub (lv' := [(0, .ref (ad 0)), (1, .int x1), (2, .int x2), (3, .int x3), (4, .int x4), (5, .int v1)]) [1, 2, 3, 4, 5, 0] rfl ?_
    exact hk8 σ x1 x2 x3 x4 v1 h
  · refine r_aload_n X dX10_ploughs_27 rfl 0 rfl ?_
    refine r_getR (c1 := 4) X fg_X10_19_X10 fM_0 rfl dX10_ploughs_28 ?_
    refine r_iload X dX10_ploughs_31 6 rfl ?_
    refine r_iald X fM_4 dX10_ploughs_33 h (fun h => ?_)
    refine r_iload X dX10_ploughs_34 5 rfl ?_
    refine r_icmp_ne X 121 dX10_ploughs_36 (by decide) h (fun h => ?_) (fun h => ?_)
    · refine r_aload_n X dX10_ploughs_39 rfl 0 rfl ?_
      refine r_getR (c1 := 5) X fg_X10_22_X10 fM_0 rfl dX10_ploughs_40 ?_
      refine r_iload X dX10_ploughs_43 6 rfl ?_
      refine r_iald X fM_5 dX10_ploughs_45 h (fun h => ?_)
      refine r_iload_n X dX10_ploughs_46 rfl 1 rfl ?_
      refine r_icmp_ne X 121 dX10_ploughs_47 (by decide) h (fun h => ?_) (fun h => ?_)
      · refine r_aload_n X dX10_ploughs_50 rfl 0 rfl ?_
        refine r_getI X fg_X10_200_X10 fM_0 rfl dX10_ploughs_51 ?_
        refine r_iload X dX10_ploughs_54 6 rfl ?_
        obtain ⟨r2, σ3, hc_7, h⟩ := bnd_of h
        refine r_callS (As := [.int (σ 0 20), .int x6]) (rest := []) (st2 := [.int r2]) X cv_X10_209 (c_X10_isIn M.2.1 hc_7) rfl rfl rfl (Nat.le_of_ble_eq_true rfl) ⟨⟨rfl, rfl⟩, by decide, by decide⟩ dX10_ploughs_56 ⟨rfl, rfl⟩ rfl ?_
        refine r_if_ne X 121 dX10_ploughs_59 (by decide) h (fun h => ?_) (fun h => ?_)
        · refine r_aload_n X dX10_ploughs_62 rfl 0 rfl ?_
          refine r_iload X dX10_ploughs_63 6 rfl ?_
          refine r_iload_n X dX10_ploughs_65 rfl 2 rfl ?_
          obtain ⟨r4, σ5, hc_6, h⟩ := bnd_of h
          refine r_callV (As := [.int x6, .int x2]) (rest := []) (st2 := [.int r4]) (c := 0) X cv_X10_212 (c_X10_pull M.2.1 hc_6) rfl (ci := 9) rfl fM_0 rfl rfl (Nat.le_of_ble_eq_true rfl) ⟨⟨rfl, rfl⟩, by decide, by decide⟩ dX10_ploughs_66 ⟨rfl, rfl⟩ rfl ?_
          refine r_istore X [(7, .int r4), (0, .ref (ad 0)), (1, .int x1), (2, .int x2), (3, .int x3), (4, .int x4), (5, .int x5), (6, .int x6)] dX10_ploughs_69 (by decide) rfl ?_
          refine r_iload X dX10_ploughs_71 0 rfl ?_
          refine r_if_lt X 92 dX10_ploughs_73 (by decide) h (fun h => ?_) (fun h => ?_)
          · refine r_sub (lv' := [(0, .ref (ad 0)), (1, .int x1), (2, .int x2), (3, .int x3), (4, .int x4), (5, .int x5), (6, .int x6), (7, .int r4)]) [1, 2, 3, 4, 5, 6, 7, 0] rfl ?_
            exact t_X10_ploughs_b92 X hk8 hk18 σ5 x1 x2 x3 x4 x5 x6 r4 h
          · refine r_iload_n X dX10_ploughs_76 rfl 4 rfl ?_
            refine r_iconst (v := -1) X dX10_ploughs_77 (by decide) ?_
            refine r_icmp_eq X 88 dX10_ploughs_78 (by decide) h (fun h => ?_) (fun h => ?_)
            · refine r_sub (lv' := [(0, .ref (ad 0)), (1, .int x1), (2, .int x2), (3, .int x3), (4, .int x4), (5, .int x5), (6, .int x6), (7, .int r4)]) [1, 2, 3, 4, 5, 6, 7, 0] rfl ?_
              exact t_X10_ploughs_b88 X hk8 hk18 σ5 x1 x2 x3 x4 x5 x6 r4 h
            · refine r_iload X dX10_ploughs_81 0 rfl ?_
              refine r_iload X dX10_ploughs_83 5 rfl ?_
              refine r_icmp_le X 92 dX10_ploughs_85 (by decide) h (fun h => ?_) (fun h => ?_)
              · refine r_sub (lv' := [(0, .ref (ad 0)), (1, .int x1), (2, .int x2), (3, .int x3), (4, .int x4), (5, .int x5), (6, .int x6), (7, .int r4)]) [1, 2, 3, 4, 5, 6, 7, 0] rfl ?_
                exact t_X10_ploughs_b92 X hk8 hk18 σ5 x1 x2 x3 x4 x5 x6 r4 h
              · refine r_sub (lv' := [(0, .ref (ad 0)), (1, .int x1), (2, .int x2), (3, .int x3), (4, .int x4), (5, .int x5), (6, .int x6), (7, .int r4)]) [1, 2, 3, 4, 5, 6, 7, 0] rfl ?_
                exact t_X10_ploughs_b88 X hk8 hk18 σ5 x1 x2 x3 x4 x5 x6 r4 h
        · exact t_X10_ploughs_b121 X hk8 hk18 σ3 x1 x2 x3 x4 x5 x6 h
      · exact t_X10_ploughs_b121 X hk8 hk18 σ x1 x2 x3 x4 x5 x6 h
    · exact t_X10_ploughs_b121 X hk8 hk18 σ x1 x2 x3 x4 x5 x6 h
theorem t_X10_ploughs_l18 {M : am_M} {D : va_G} {cT : Nat → ClassId} {ad : Nat → Nat} (X : am_X M (D, cT, ad, NM, LM) cX10_ploughs RX10 9 none) {z : Unit × Sg} {k8 : Sg → Int32 → Int32 → Int32 → Int32 → Int32 → Option (Unit × Sg)} (hk8 : ∀ (σ : Sg) (x1 : Int32) (x2 : Int32) (x3 : Int32) (x4 : Int32) (x5 : Int32), k8 σ x1 x2 x3 x4 x5 = some z → am_At M { frames := 3, cells := 0, slots := 0, locals := 70 } (D, cT, ad, NM, LM) (amQv M (D, cT, ad, NM, LM) z) 9 8 [(0, .ref (ad 0)), (1, .int x1), (2, .int x2), (3, .int x3), (4, .int x4), (5, .int x5)] [] σ) (n : Nat) : ∀ (σ : Sg) (x1 : Int32) (x2 : Int32) (x3 : Int32) (x4 : Int32) (x5 : Int32) (x6 : Int32), f_X10_ploughs_l18 k8 n σ x1 x2 x3 x4 x5 x6 = some z → am_At M { frames := 3, cells := 0, slots := 0, locals := 70 } (D, cT, ad, NM, LM) (amQv M (D, cT, ad, NM, LM) z) 9 18 [(0, .ref (ad 0)), (1, .int x1), (2, .int x2), (3, .int x3), (4, .int x4), (5, .int x5), (6, .int x6)] [] σ := by
  induction n with
  | zero =>
    intro σ x1 x2 x3 x4 x5 x6 h
    have h2 : (none : Option (Unit × Sg)) = some z := h
    cases h2
  | succ n ih =>
    intro σ x1 x2 x3 x4 x5 x6 h
    exact t_X10_ploughs_b18 X hk8 (k18 := f_X10_ploughs_l18 k8 n) ih σ x1 x2 x3 x4 x5 x6 h
set_option maxRecDepth 100000 in
set_option maxHeartbeats 4000000 in
theorem t_X10_ploughs_b8 {M : am_M} {D : va_G} {cT : Nat → ClassId} {ad : Nat → Nat} (X : am_X M (D, cT, ad, NM, LM) cX10_ploughs RX10 9 none) {z : Unit × Sg} {k8 : Sg → Int32 → Int32 → Int32 → Int32 → Int32 → Option (Unit × Sg)} (hk8 : ∀ (σ : Sg) (x1 : Int32) (x2 : Int32) (x3 : Int32) (x4 : Int32) (x5 : Int32), k8 σ x1 x2 x3 x4 x5 = some z → am_At M { frames := 3, cells := 0, slots := 0, locals := 70 } (D, cT, ad, NM, LM) (amQv M (D, cT, ad, NM, LM) z) 9 8 [(0, .ref (ad 0)), (1, .int x1), (2, .int x2), (3, .int x3), (4, .int x4), (5, .int x5)] [] σ) (σ : Sg) (x1 : Int32) (x2 : Int32) (x3 : Int32) (x4 : Int32) (x5 : Int32) (h : f_X10_ploughs_b8 k8 σ x1 x2 x3 x4 x5 = some z) : am_At M { frames := 3, cells := 0, slots := 0, locals := 70 } (D, cT, ad, NM, LM) (amQv M (D, cT, ad, NM, LM) z) 9 8 [(0, .ref (ad 0)), (1, .int x1), (2, .int x2), (3, .int x3), (4, .int x4), (5, .int x5)] [] σ := by
  unfold f_X10_ploughs_b8 at h
  refine r_iload X dX10_ploughs_8 5 rfl ?_
  refine r_bipush (v := 6) X dX10_ploughs_10 (by decide) ?_
  refine r_icmp_ge X 133 dX10_ploughs_12 (by decide) h (fun h => ?_) (fun h => ?_)
  · refine r_iload_n X dX10_ploughs_133 rfl 3 rfl ?_
    refine r_iconst (v := -1) X dX10_ploughs_134 (by decide) ?_
    refine r_icmp_eq X 144 dX10_ploughs_135 (by decide) h (fun h => ?_) (fun h => ?_)
    · exact r_vretz X rfl dX10_ploughs_144 h
    · refine r_aload_n X dX10_ploughs_138 rfl 0 rfl ?_
      refine r_iload_n X dX10_ploughs_139 rfl 3 rfl ?_
      refine r_iload_n X dX10_ploughs_140 rfl 2 rfl ?_
      obtain ⟨r1, σ2, hc_3, h⟩ := bnd_of h
      refine r_callV (As := [.int x3, .int x2]) (rest := []) (st2 := []) (c := 0) X cv_X10_215 (c_X10_comesUp M.2.1 hc_3) rfl (ci := 9) rfl fM_0 rfl rfl (Nat.le_of_ble_eq_true rfl) ⟨⟨rfl, rfl⟩, by decide, by decide⟩ dX10_ploughs_141 ⟨rfl, rfl⟩ rfl ?_
      exact r_vretz X rfl dX10_ploughs_144 h
  · refine r_iconst (v := 0) X dX10_ploughs_15 (by decide) ?_
    refine r_istore X [(6, .int (0 : Int32)), (0, .ref (ad 0)), (1, .int x1), (2, .int x2), (3, .int x3), (4, .int x4), (5, .int x5)] dX10_ploughs_16 (by decide) rfl ?_
    refine r_sub (lv' := [(0, .ref (ad 0)), (1, .int x1), (2, .int x2), (3, .int x3), (4, .int x4), (5, .int x5), (6, .int (0 : Int32))]) [1, 2, 3, 4, 5, 6, 0] rfl ?_
    exact t_X10_ploughs_l18 X hk8 300 σ x1 x2 x3 x4 x5 (0 : Int32) h
theorem t_X10_ploughs_l8 {M : am_M} {D : va_G} {cT : Nat → ClassId} {ad : Nat → Nat} (X : am_X M (D, cT, ad, NM, LM) cX10_ploughs RX10 9 none) {z : Unit × Sg} (n : Nat) : ∀ (σ : Sg) (x1 : Int32) (x2 : Int32) (x3 : Int32) (x4 : Int32) (x5 : Int32), f_X10_ploughs_l8 n σ x1 x2 x3 x4 x5 = some z → am_At M { frames := 3, cells := 0, slots := 0, locals := 70 } (D, cT, ad, NM, LM) (amQv M (D, cT, ad, NM, LM) z) 9 8 [(0, .ref (ad 0)), (1, .int x1), (2, .int x2), (3, .int x3), (4, .int x4), (5, .int x5)] [] σ := by
  induction n with
  | zero =>
    intro σ x1 x2 x3 x4 x5 h
    have h2 : (none : Option (Unit × Sg)) = some z := h
    cases h2
  | succ n ih =>
    intro σ x1 x2 x3 x4 x5 h
    exact t_X10_ploughs_b8 X (k8 := f_X10_ploughs_l8 n) ih σ x1 x2 x3 x4 x5 h
set_option maxRecDepth 100000 in
set_option maxHeartbeats 4000000 in
theorem c_X10_ploughs (l : Launch) {σ : Sg} {a1 : Int32} {a2 : Int32} {z : Unit × Sg} (h : f_X10_ploughs σ a1 a2 = some z) : am_Met l yX10_ploughs cX10_ploughs 9 none { frames := 3, cells := 0, slots := 0, locals := 70 } NM LM (fun ad => [.ref (ad 0), .int a1, .int a2]) σ z.2 (fun _ => none) := by
  refine am_enter (by decide +kernel) (fun ad => Nat.le_of_ble_eq_true rfl) (fun M D cT ad hl X => ?_)
  subst hl
  refine r_lv (lv' := [(0, .ref (ad 0)), (1, .int a1), (2, .int a2)]) rfl ?_
  unfold f_X10_ploughs at h
  refine r_iconst (v := -1) X dX10_ploughs_0 (by decide) ?_
  refine r_istore_n X [(3, .int (-1 : Int32)), (0, .ref (ad 0)), (1, .int a1), (2, .int a2)] dX10_ploughs_1 rfl (by decide) rfl ?_
  refine r_iconst (v := 0) X dX10_ploughs_2 (by decide) ?_
  refine r_istore X [(4, .int (0 : Int32)), (3, .int (-1 : Int32)), (0, .ref (ad 0)), (1, .int a1), (2, .int a2)] dX10_ploughs_3 (by decide) rfl ?_
  refine r_iconst (v := 0) X dX10_ploughs_5 (by decide) ?_
  refine r_istore X [(5, .int (0 : Int32)), (4, .int (0 : Int32)), (3, .int (-1 : Int32)), (0, .ref (ad 0)), (1, .int a1), (2, .int a2)] dX10_ploughs_6 (by decide) rfl ?_
  refine r_sub (lv' := [(0, .ref (ad 0)), (1, .int a1), (2, .int a2), (3, .int (-1 : Int32)), (4, .int (0 : Int32)), (5, .int (0 : Int32))]) [3, 4, 5, 2, 1, 0] rfl ?_
  exact t_X10_ploughs_l8 X 300 σ a1 a2 (-1 : Int32) (0 : Int32) (0 : Int32) h
