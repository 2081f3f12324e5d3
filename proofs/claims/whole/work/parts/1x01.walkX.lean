set_option maxRecDepth 100000 in
set_option maxHeartbeats 4000000 in
theorem c_X9_need (l : Launch) {σ : Sg} {a1 : Int32} {a2 : Int32} {z : Int32 × Sg} (h : f_X9_need σ a1 a2 = some z) : am_Met l yX9_need cX9_need 3 (some .int) { frames := 1, cells := 0, slots := 0, locals := 21 } NX LX (fun ad => [.ref (ad 0), .int a1, .int a2]) σ z.2 (fun _ => some (.int z.1)) := by
  refine am_enter (by decide +kernel) (fun ad => Nat.le_of_ble_eq_true rfl) (fun M D cT ad hl X => ?_)
  subst hl
  refine r_lv (lv' := [(0, .ref (ad 0)), (1, .int a1), (2, .int a2)]) rfl ?_
  unfold f_X9_need at h
  refine r_iload_n X dX9_need_0 rfl 1 rfl ?_
  refine r_aload_n X dX9_need_1 rfl 0 rfl ?_
  refine r_getR (c1 := 10) X fg_X9_31_X9 fX_0 rfl dX9_need_2 ?_
  refine r_getI X fg_X9_128_X4 fX_10 rfl dX9_need_5 ?_
  obtain ⟨r1, σ2, hc_6, h⟩ := bnd_of h
  refine r_callS (As := [.int a1, .int (σ 10 1)]) (rest := []) (st2 := [.int r1]) X cv_X9_91 (c_X9_isBelow M.2.1 hc_6) rfl rfl rfl (Nat.le_of_ble_eq_true rfl) ⟨⟨rfl, rfl⟩, by decide, by decide⟩ dX9_need_8 ⟨rfl, rfl⟩ rfl ?_
  refine r_if_eq X 22 dX9_need_11 (by decide) h (fun h => ?_) (fun h => ?_)
  · refine r_bipush (v := -2) X dX9_need_22 (by decide) ?_
    exact r_iretz X rfl dX9_need_24 h
  · refine r_iload_n X dX9_need_14 rfl 2 rfl ?_
    refine r_iconst (v := 3) X dX9_need_15 (by decide) ?_
    obtain ⟨r3, σ4, hc_5, h⟩ := bnd_of h
    refine r_callS (As := [.int a2, .int (3 : Int32)]) (rest := []) (st2 := [.int r3]) X cv_X9_91 (c_X9_isBelow M.2.1 hc_5) rfl rfl rfl (Nat.le_of_ble_eq_true rfl) ⟨⟨rfl, rfl⟩, by decide, by decide⟩ dX9_need_16 ⟨rfl, rfl⟩ rfl ?_
    refine r_if_ne X 25 dX9_need_19 (by decide) h (fun h => ?_) (fun h => ?_)
    · refine r_bipush (v := -2) X dX9_need_22 (by decide) ?_
      exact r_iretz X rfl dX9_need_24 h
    · refine r_iload_n X dX9_need_25 rfl 2 rfl ?_
      obtain ⟨hA, hB⟩ := ite_of h
      by_cases q26_0 : a2 = 0
      · have h := hA q26_0
        refine r_lookup X 52 dX9_need_26 (by decide) (show Op.lookupswitch.offset [(0, 26), (1, 36)] 46 _ = 26 from by rw [q26_0]; rfl) (by decide) ?_
        refine r_aload_n X dX9_need_52 rfl 0 rfl ?_
        refine r_getR (c1 := 10) X fg_X9_31_X9 fX_0 rfl dX9_need_53 ?_
        refine r_getR (c1 := 11) X fg_X9_129_X4 fX_10 rfl dX9_need_56 ?_
        refine r_iload_n X dX9_need_59 rfl 1 rfl ?_
        refine r_iald X fX_11 dX9_need_60 h (fun h => ?_)
        exact r_iretz X rfl dX9_need_61 h
      · have h := hB q26_0
        obtain ⟨hA, hB⟩ := ite_of h
        by_cases q26_1 : a2 = 1
        · have h := hA q26_1
          refine r_lookup X 62 dX9_need_26 (by decide) (show Op.lookupswitch.offset [(0, 26), (1, 36)] 46 _ = 36 from by rw [q26_1]; rfl) (by decide) ?_
          refine r_aload_n X dX9_need_62 rfl 0 rfl ?_
          refine r_getR (c1 := 10) X fg_X9_31_X9 fX_0 rfl dX9_need_63 ?_
          refine r_getR (c1 := 12) X fg_X9_132_X4 fX_10 rfl dX9_need_66 ?_
          refine r_iload_n X dX9_need_69 rfl 1 rfl ?_
          refine r_iald X fX_12 dX9_need_70 h (fun h => ?_)
          exact r_iretz X rfl dX9_need_71 h
        · have h := hB q26_1
          refine r_lookup X 72 dX9_need_26 (by decide) (show Op.lookupswitch.offset [(0, 26), (1, 36)] 46 _ = 46 from by rw [lv_osw q26_0 (k := 0) (by decide), lv_osw q26_1 (k := 1) (by decide)]; rfl) (by decide) ?_
          refine r_aload_n X dX9_need_72 rfl 0 rfl ?_
          refine r_getR (c1 := 10) X fg_X9_31_X9 fX_0 rfl dX9_need_73 ?_
          refine r_getR (c1 := 13) X fg_X9_135_X4 fX_10 rfl dX9_need_76 ?_
          refine r_iload_n X dX9_need_79 rfl 1 rfl ?_
          refine r_iald X fX_13 dX9_need_80 h (fun h => ?_)
          exact r_iretz X rfl dX9_need_81 h
set_option maxRecDepth 100000 in
set_option maxHeartbeats 4000000 in
theorem t_X1_add_b101 {M : am_M} {D : va_G} {cT : Nat → ClassId} {ad : Nat → Nat} (X : am_X M (D, cT, ad, NX, LX) cX1_add RX1 6 none) {c0 : Nat} (hc0 : Is_X1 c0) {z : Unit × Sg} (σ : Sg) (x4 : Int32) (h : f_X1_add_b101 c0 σ x4 = some z) : am_At M { frames := 0, cells := 0, slots := 0, locals := 0 } (D, cT, ad, NX, LX) (amQv M (D, cT, ad, NX, LX) z) 6 101 [(0, .ref (ad c0)), (4, .int x4)] [] σ := by
  unfold f_X1_add_b101 at h
  refine r_aload_n X dX1_add_101 rfl 0 rfl ?_
  refine r_getR (c1 := (c0 + 4)) X fg_X1_21_X1 hc0.1 rfl dX1_add_102 ?_
  refine r_iload X dX1_add_105 1 rfl ?_
  refine r_aload_n X dX1_add_107 rfl 0 rfl ?_
  refine r_getI X fg_X1_24_X1 hc0.1 rfl dX1_add_108 ?_
  refine r_iast X hc0.2.2.2.2 dX1_add_111 h (fun σ1 h => ?_)
  refine r_aload_n X dX1_add_112 rfl 0 rfl ?_
  refine r_dup X dX1_add_113 rfl ?_
  refine r_getI X fg_X1_24_X1 hc0.1 rfl dX1_add_114 ?_
  refine r_iconst (v := 1) X dX1_add_117 (by decide) ?_
  refine r_iadd X dX1_add_118 ?_
  refine r_putI X fp_X1_24_X1 hc0.1 rfl dX1_add_119 h (fun σ2 h => ?_)
  exact r_vretz X rfl dX1_add_122 h
set_option maxRecDepth 100000 in
set_option maxHeartbeats 4000000 in
theorem t_X1_add_b54 {M : am_M} {D : va_G} {cT : Nat → ClassId} {ad : Nat → Nat} (X : am_X M (D, cT, ad, NX, LX) cX1_add RX1 6 none) {c0 : Nat} (hc0 : Is_X1 c0) {z : Unit × Sg} {k54 : Sg → Int32 → Int32 → Int32 → Option (Unit × Sg)} (hk54 : ∀ (σ : Sg) (x2 : Int32) (x4 : Int32) (x5 : Int32), k54 σ x2 x4 x5 = some z → am_At M { frames := 0, cells := 0, slots := 0, locals := 0 } (D, cT, ad, NX, LX) (amQv M (D, cT, ad, NX, LX) z) 6 54 [(0, .ref (ad c0)), (2, .int x2), (4, .int x4), (5, .int x5)] [] σ) (σ : Sg) (x2 : Int32) (x4 : Int32) (x5 : Int32) (h : f_X1_add_b54 c0 k54 σ x2 x4 x5 = some z) : am_At M { frames := 0, cells := 0, slots := 0, locals := 0 } (D, cT, ad, NX, LX) (amQv M (D, cT, ad, NX, LX) z) 6 54 [(0, .ref (ad c0)), (2, .int x2), (4, .int x4), (5, .int x5)] [] σ := by
  unfold f_X1_add_b54 at h
  refine r_iload X dX1_add_54 3 rfl ?_
  refine r_if_lt X 101 dX1_add_56 (by decide) h (fun h => ?_) (fun h => ?_)
  · refine r_sub (lv' := [(0, .ref (ad c0)), (4, .int x4)]) [0, 2] rfl ?_
    exact t_X1_add_b101 X hc0 σ x4 h
  · refine r_aload_n X dX1_add_59 rfl 0 rfl ?_
    refine r_getR (c1 := (c0 + 2)) X fg_X1_15_X1 hc0.1 rfl dX1_add_60 ?_
    refine r_aload_n X dX1_add_63 rfl 0 rfl ?_
    refine r_getR (c1 := (c0 + 4)) X fg_X1_21_X1 hc0.1 rfl dX1_add_64 ?_
    refine r_iload X dX1_add_67 3 rfl ?_
    refine r_iald X hc0.2.2.2.2 dX1_add_69 h (fun h => ?_)
    refine r_iald X hc0.2.2.1 dX1_add_70 h (fun h => ?_)
    refine r_iload_n X dX1_add_71 rfl 1 rfl ?_
    refine r_icmp_le X 101 dX1_add_72 (by decide) h (fun h => ?_) (fun h => ?_)
    · refine r_sub (lv' := [(0, .ref (ad c0)), (4, .int x4)]) [0, 2] rfl ?_
      exact t_X1_add_b101 X hc0 σ x4 h
    · refine r_aload_n X dX1_add_75 rfl 0 rfl ?_
      refine r_getR (c1 := (c0 + 4)) X fg_X1_21_X1 hc0.1 rfl dX1_add_76 ?_
      refine r_iload X dX1_add_79 3 rfl ?_
      refine r_iconst (v := 1) X dX1_add_81 (by decide) ?_
      refine r_iadd X dX1_add_82 ?_
      refine r_aload_n X dX1_add_83 rfl 0 rfl ?_
      refine r_getR (c1 := (c0 + 4)) X fg_X1_21_X1 hc0.1 rfl dX1_add_84 ?_
      refine r_iload X dX1_add_87 3 rfl ?_
      refine r_iald X hc0.2.2.2.2 dX1_add_89 h (fun h => ?_)
      refine r_iast X hc0.2.2.2.2 dX1_add_90 h (fun σ1 h => ?_)
      refine r_iload X dX1_add_91 3 rfl ?_
      refine r_istore X [(4, .int x5), (0, .ref (ad c0)), (2, .int x2), (5, .int x5)] dX1_add_93 (by decide) rfl ?_
      refine r_iinc X [(5, .int (x5 + (-1 : Int32))), (4, .int x5), (0, .ref (ad c0)), (2, .int x2)] dX1_add_95 3 rfl (v := x5 + (-1 : Int32)) (by rfl) (by decide) rfl ?_
      refine r_letv h (fun v2 h => ?_)
      refine r_goto X 54 dX1_add_98 (by decide) ?_
      refine r_sub (lv' := [(0, .ref (ad c0)), (2, .int x2), (4, .int x5), (5, .int v2)]) [2, 3, 1, 0] rfl ?_
      exact hk54 σ1 x2 x5 v2 h
theorem t_X1_add_l54 {M : am_M} {D : va_G} {cT : Nat → ClassId} {ad : Nat → Nat} (X : am_X M (D, cT, ad, NX, LX) cX1_add RX1 6 none) {c0 : Nat} (hc0 : Is_X1 c0) {z : Unit × Sg} (n : Nat) : ∀ (σ : Sg) (x2 : Int32) (x4 : Int32) (x5 : Int32), f_X1_add_l54 c0 n σ x2 x4 x5 = some z → am_At M { frames := 0, cells := 0, slots := 0, locals := 0 } (D, cT, ad, NX, LX) (amQv M (D, cT, ad, NX, LX) z) 6 54 [(0, .ref (ad c0)), (2, .int x2), (4, .int x4), (5, .int x5)] [] σ := by
  induction n with
  | zero =>
    intro σ x2 x4 x5 h
    have h2 : (none : Option (Unit × Sg)) = some z := h
    cases h2
  | succ n ih =>
    intro σ x2 x4 x5 h
    exact t_X1_add_b54 X hc0 (k54 := f_X1_add_l54 c0 n) ih σ x2 x4 x5 h
set_option maxRecDepth 100000 in
set_option maxHeartbeats 4000000 in
theorem c_X1_add (l : Launch) {c0 : Nat} (hc0 : Is_X1 c0) {σ : Sg} {a1 : Int32} {a2 : Int32} {a3 : Int32} {z : Unit × Sg} (h : f_X1_add c0 σ a1 a2 a3 = some z) : am_Met l yX1_add cX1_add 6 none { frames := 0, cells := 0, slots := 0, locals := 0 } NX LX (fun ad => [.ref (ad c0), .int a1, .int a2, .int a3]) σ z.2 (fun _ => none) := by
  refine am_enter (by decide +kernel) (fun ad => Nat.le_of_ble_eq_true rfl) (fun M D cT ad hl X => ?_)
  subst hl
  refine r_lv (lv' := [(0, .ref (ad c0)), (1, .int a1), (2, .int a2), (3, .int a3)]) rfl ?_
  unfold f_X1_add at h
  refine r_aload_n X dX1_add_0 rfl 0 rfl ?_
  refine r_getI X fg_X1_24_X1 hc0.1 rfl dX1_add_1 ?_
  refine r_bipush (v := 8) X dX1_add_4 (by decide) ?_
  refine r_icmp_le X 10 dX1_add_6 (by decide) h (fun h => ?_) (fun h => ?_)
  · refine r_aload_n X dX1_add_10 rfl 0 rfl ?_
    refine r_getR (c1 := (c0 + 1)) X fg_X1_9_X1 hc0.1 rfl dX1_add_11 ?_
    refine r_aload_n X dX1_add_14 rfl 0 rfl ?_
    refine r_getI X fg_X1_24_X1 hc0.1 rfl dX1_add_15 ?_
    refine r_iload_n X dX1_add_18 rfl 1 rfl ?_
    refine r_iast X hc0.2.1 dX1_add_19 h (fun σ1 h => ?_)
    refine r_aload_n X dX1_add_20 rfl 0 rfl ?_
    refine r_getR (c1 := (c0 + 2)) X fg_X1_15_X1 hc0.1 rfl dX1_add_21 ?_
    refine r_aload_n X dX1_add_24 rfl 0 rfl ?_
    refine r_getI X fg_X1_24_X1 hc0.1 rfl dX1_add_25 ?_
    refine r_iload_n X dX1_add_28 rfl 2 rfl ?_
    refine r_iast X hc0.2.2.1 dX1_add_29 h (fun σ2 h => ?_)
    refine r_aload_n X dX1_add_30 rfl 0 rfl ?_
    refine r_getR (c1 := (c0 + 3)) X fg_X1_18_X1 hc0.1 rfl dX1_add_31 ?_
    refine r_aload_n X dX1_add_34 rfl 0 rfl ?_
    refine r_getI X fg_X1_24_X1 hc0.1 rfl dX1_add_35 ?_
    refine r_iload_n X dX1_add_38 rfl 3 rfl ?_
    refine r_iast X hc0.2.2.2.1 dX1_add_39 h (fun σ3 h => ?_)
    refine r_aload_n X dX1_add_40 rfl 0 rfl ?_
    refine r_getI X fg_X1_24_X1 hc0.1 rfl dX1_add_41 ?_
    refine r_leti h (fun v4 h => ?_)
    refine r_istore X [(4, .int v4), (0, .ref (ad c0)), (1, .int a1), (2, .int a2), (3, .int a3)] dX1_add_44 (by decide) rfl ?_
    refine r_aload_n X dX1_add_46 rfl 1 rfl ?_
    refine r_getI X fg_X1_24_X1 hc0.1 rfl dX1_add_47 ?_
    refine r_iconst (v := 1) X dX1_add_50 (by decide) ?_
    refine r_isub X dX1_add_51 ?_
    refine r_leti h (fun v5 h => ?_)
    refine r_istore X [(5, .int v5), (4, .int v4), (0, .ref (ad c0)), (1, .int a1), (2, .int a2), (3, .int a3)] dX1_add_52 (by decide) rfl ?_
    refine r_sub (lv' := [(0, .ref (ad c0)), (2, .int a2), (4, .int v4), (5, .int v5)]) [2, 4, 1, 0] rfl ?_
    exact t_X1_add_l54 X hc0 300 σ3 a2 v4 v5 h
  · exact r_vretz X rfl dX1_add_9 h
set_option maxRecDepth 100000 in
set_option maxHeartbeats 4000000 in
theorem c_X9_event (l : Launch) {σ : Sg} {a1 : Int32} {a2 : Int32} {a3 : Int32} {z : Int32 × Sg} (h : f_X9_event σ a1 a2 a3 = some z) : am_Met l yX9_event cX9_event 4 (some .int) { frames := 1, cells := 0, slots := 0, locals := 25 } NX LX (fun ad => [.ref (ad 0), .int a1, .int a2, .int a3]) σ z.2 (fun _ => some (.int z.1)) := by
  refine am_enter (by decide +kernel) (fun ad => Nat.le_of_ble_eq_true rfl) (fun M D cT ad hl X => ?_)
  subst hl
  refine r_lv (lv' := [(0, .ref (ad 0)), (1, .int a1), (2, .int a2), (3, .int a3)]) rfl ?_
  unfold f_X9_event at h
  refine r_iload_n X dX9_event_0 rfl 1 rfl ?_
  refine r_iconst (v := 2) X dX9_event_1 (by decide) ?_
  obtain ⟨r1, σ2, hc_15, h⟩ := bnd_of h
  refine r_callS (As := [.int a1, .int (2 : Int32)]) (rest := []) (st2 := [.int r1]) X cv_X9_91 (c_X9_isBelow M.2.1 hc_15) rfl rfl rfl (Nat.le_of_ble_eq_true rfl) ⟨⟨rfl, rfl⟩, by decide, by decide⟩ dX9_event_2 ⟨rfl, rfl⟩ rfl ?_
  refine r_if_eq X 26 dX9_event_5 (by decide) h (fun h => ?_) (fun h => ?_)
  · refine r_bipush (v := -2) X dX9_event_26 (by decide) ?_
    exact r_iretz X rfl dX9_event_28 h
  · refine r_iload_n X dX9_event_8 rfl 2 rfl ?_
    refine r_bipush (v := 24) X dX9_event_9 (by decide) ?_
    obtain ⟨r3, σ4, hc_14, h⟩ := bnd_of h
    refine r_callS (As := [.int a2, .int (24 : Int32)]) (rest := []) (st2 := [.int r3]) X cv_X9_91 (c_X9_isBelow M.2.1 hc_14) rfl rfl rfl (Nat.le_of_ble_eq_true rfl) ⟨⟨rfl, rfl⟩, by decide, by decide⟩ dX9_event_11 ⟨rfl, rfl⟩ rfl ?_
    refine r_if_eq X 26 dX9_event_14 (by decide) h (fun h => ?_) (fun h => ?_)
    · refine r_bipush (v := -2) X dX9_event_26 (by decide) ?_
      exact r_iretz X rfl dX9_event_28 h
    · refine r_iload_n X dX9_event_17 rfl 3 rfl ?_
      refine r_bipush (v := 6) X dX9_event_18 (by decide) ?_
      obtain ⟨r5, σ6, hc_13, h⟩ := bnd_of h
      refine r_callS (As := [.int a3, .int (6 : Int32)]) (rest := []) (st2 := [.int r5]) X cv_X9_91 (c_X9_isBelow M.2.1 hc_13) rfl rfl rfl (Nat.le_of_ble_eq_true rfl) ⟨⟨rfl, rfl⟩, by decide, by decide⟩ dX9_event_20 ⟨rfl, rfl⟩ rfl ?_
      refine r_if_ne X 29 dX9_event_23 (by decide) h (fun h => ?_) (fun h => ?_)
      · refine r_bipush (v := -2) X dX9_event_26 (by decide) ?_
        exact r_iretz X rfl dX9_event_28 h
      · refine r_aload_n X dX9_event_29 rfl 0 rfl ?_
        refine r_getR (c1 := 14) X fg_X9_38_X9 fX_0 rfl dX9_event_30 ?_
        refine r_getI X fg_X9_138_X1 fX_14 rfl dX9_event_33 ?_
        refine r_bipush (v := 8) X dX9_event_36 (by decide) ?_
        refine r_icmp_lt X 44 dX9_event_38 (by decide) h (fun h => ?_) (fun h => ?_)
        · refine r_aload_n X dX9_event_44 rfl 0 rfl ?_
          refine r_getR (c1 := 14) X fg_X9_38_X9 fX_0 rfl dX9_event_45 ?_
          refine r_iload_n X dX9_event_48 rfl 1 rfl ?_
          refine r_iload_n X dX9_event_49 rfl 2 rfl ?_
          refine r_iload_n X dX9_event_50 rfl 3 rfl ?_
          obtain ⟨r7, σ8, hc_12, h⟩ := bnd_of h
          refine r_callV (As := [.int a1, .int a2, .int a3]) (rest := []) (st2 := []) (c := 14) X cv_X9_139 (c_X1_add M.2.1 iX1_14 hc_12) rfl (ci := 1) rfl fX_14 rfl rfl (Nat.le_of_ble_eq_true rfl) ⟨⟨rfl, rfl⟩, by decide, by decide⟩ dX9_event_51 ⟨rfl, rfl⟩ rfl ?_
          refine r_aload_n X dX9_event_54 rfl 0 rfl ?_
          obtain ⟨r9, σ10, hc_11, h⟩ := bnd_of h
          refine r_callV (As := []) (rest := []) (st2 := []) (c := 0) X cv_X9_142 (c_X9_markStale M.2.1 hc_11) rfl (ci := 8) rfl fX_0 rfl rfl (Nat.le_of_ble_eq_true rfl) ⟨⟨rfl, rfl⟩, by decide, by decide⟩ dX9_event_55 ⟨rfl, rfl⟩ rfl ?_
          refine r_aload_n X dX9_event_58 rfl 0 rfl ?_
          refine r_getR (c1 := 14) X fg_X9_38_X9 fX_0 rfl dX9_event_59 ?_
          refine r_getI X fg_X9_138_X1 fX_14 rfl dX9_event_62 ?_
          exact r_iretz X rfl dX9_event_65 h
        · refine r_bipush (v := -4) X dX9_event_41 (by decide) ?_
          exact r_iretz X rfl dX9_event_43 h
set_option maxRecDepth 100000 in
set_option maxHeartbeats 4000000 in
theorem t_X1_dropLast_b50 {M : am_M} {D : va_G} {cT : Nat → ClassId} {ad : Nat → Nat} (X : am_X M (D, cT, ad, NX, LX) cX1_dropLast RX1 3 none) {c0 : Nat} (hc0 : Is_X1 c0) {z : Unit × Sg} {k12 : Sg → Int32 → Int32 → Option (Unit × Sg)} (hk12 : ∀ (σ : Sg) (x1 : Int32) (x2 : Int32), k12 σ x1 x2 = some z → am_At M { frames := 0, cells := 0, slots := 0, locals := 0 } (D, cT, ad, NX, LX) (amQv M (D, cT, ad, NX, LX) z) 3 12 [(0, .ref (ad c0)), (1, .int x1), (2, .int x2)] [] σ) (σ : Sg) (x1 : Int32) (x2 : Int32) (h : f_X1_dropLast_b50 c0 k12 σ x1 x2 = some z) : am_At M { frames := 0, cells := 0, slots := 0, locals := 0 } (D, cT, ad, NX, LX) (amQv M (D, cT, ad, NX, LX) z) 3 50 [(0, .ref (ad c0)), (1, .int x1), (2, .int x2)] [] σ := by
  unfold f_X1_dropLast_b50 at h
  refine r_iinc X [(2, .int (x2 + (1 : Int32))), (0, .ref (ad c0)), (1, .int x1)] dX1_dropLast_50 2 rfl (v := x2 + (1 : Int32)) (by rfl) (by decide) rfl ?_
  refine r_letv h (fun v1 h => ?_)
  refine r_goto X 12 dX1_dropLast_53 (by decide) ?_
  refine r_sub (lv' := [(0, .ref (ad c0)), (1, .int x1), (2, .int v1)]) [1, 2, 0] rfl ?_
  exact hk12 σ x1 v1 h
set_option maxRecDepth 100000 in
set_option maxHeartbeats 4000000 in
theorem t_X1_dropLast_b12 {M : am_M} {D : va_G} {cT : Nat → ClassId} {ad : Nat → Nat} (X : am_X M (D, cT, ad, NX, LX) cX1_dropLast RX1 3 none) {c0 : Nat} (hc0 : Is_X1 c0) {z : Unit × Sg} {k12 : Sg → Int32 → Int32 → Option (Unit × Sg)} (hk12 : ∀ (σ : Sg) (x1 : Int32) (x2 : Int32), k12 σ x1 x2 = some z → am_At M { frames := 0, cells := 0, slots := 0, locals := 0 } (D, cT, ad, NX, LX) (amQv M (D, cT, ad, NX, LX) z) 3 12 [(0, .ref (ad c0)), (1, .int x1), (2, .int x2)] [] σ) (σ : Sg) (x1 : Int32) (x2 : Int32) (h : f_X1_dropLast_b12 c0 k12 σ x1 x2 = some z) : am_At M { frames := 0, cells := 0, slots := 0, locals := 0 } (D, cT, ad, NX, LX) (amQv M (D, cT, ad, NX, LX) z) 3 12 [(0, .ref (ad c0)), (1, .int x1), (2, .int x2)] [] σ := by
  unfold f_X1_dropLast_b12 at h
  refine r_iload_n X dX1_dropLast_12 rfl 2 rfl ?_
  refine r_aload_n X dX1_dropLast_13 rfl 0 rfl ?_
  refine r_getI X fg_X1_24_X1 hc0.1 rfl dX1_dropLast_14 ?_
  refine r_icmp_ge X 56 dX1_dropLast_17 (by decide) h (fun h => ?_) (fun h => ?_)
  · refine r_aload_n X dX1_dropLast_56 rfl 0 rfl ?_
    refine r_dup X dX1_dropLast_57 rfl ?_
    refine r_getI X fg_X1_24_X1 hc0.1 rfl dX1_dropLast_58 ?_
    refine r_iconst (v := 1) X dX1_dropLast_61 (by decide) ?_
    refine r_isub X dX1_dropLast_62 ?_
    refine r_putI X fp_X1_24_X1 hc0.1 rfl dX1_dropLast_63 h (fun σ1 h => ?_)
    exact r_vretz X rfl dX1_dropLast_66 h
  · refine r_aload_n X dX1_dropLast_20 rfl 0 rfl ?_
    refine r_getR (c1 := (c0 + 4)) X fg_X1_21_X1 hc0.1 rfl dX1_dropLast_21 ?_
    refine r_iload_n X dX1_dropLast_24 rfl 2 rfl ?_
    refine r_iald X hc0.2.2.2.2 dX1_dropLast_25 h (fun h => ?_)
    refine r_aload_n X dX1_dropLast_26 rfl 0 rfl ?_
    refine r_getI X fg_X1_24_X1 hc0.1 rfl dX1_dropLast_27 ?_
    refine r_iconst (v := 1) X dX1_dropLast_30 (by decide) ?_
    refine r_isub X dX1_dropLast_31 ?_
    refine r_icmp_eq X 50 dX1_dropLast_32 (by decide) h (fun h => ?_) (fun h => ?_)
    · exact t_X1_dropLast_b50 X hc0 hk12 σ x1 x2 h
    · refine r_aload_n X dX1_dropLast_35 rfl 0 rfl ?_
      refine r_getR (c1 := (c0 + 4)) X fg_X1_21_X1 hc0.1 rfl dX1_dropLast_36 ?_
      refine r_iload_n X dX1_dropLast_39 rfl 1 rfl ?_
      refine r_aload_n X dX1_dropLast_40 rfl 0 rfl ?_
      refine r_getR (c1 := (c0 + 4)) X fg_X1_21_X1 hc0.1 rfl dX1_dropLast_41 ?_
      refine r_iload_n X dX1_dropLast_44 rfl 2 rfl ?_
      refine r_iald X hc0.2.2.2.2 dX1_dropLast_45 h (fun h => ?_)
      refine r_iast X hc0.2.2.2.2 dX1_dropLast_46 h (fun σ2 h => ?_)
      refine r_iinc X [(1, .int (x1 + (1 : Int32))), (0, .ref (ad c0)), (2, .int x2)] dX1_dropLast_47 1 rfl (v := x1 + (1 : Int32)) (by rfl) (by decide) rfl ?_
      refine r_letv h (fun v3 h => ?_)
      refine r_sub (lv' := [(0, .ref (ad c0)), (1, .int v3), (2, .int x2)]) [1, 0, 2] rfl ?_
      exact t_X1_dropLast_b50 X hc0 hk12 σ2 v3 x2 h
theorem t_X1_dropLast_l12 {M : am_M} {D : va_G} {cT : Nat → ClassId} {ad : Nat → Nat} (X : am_X M (D, cT, ad, NX, LX) cX1_dropLast RX1 3 none) {c0 : Nat} (hc0 : Is_X1 c0) {z : Unit × Sg} (n : Nat) : ∀ (σ : Sg) (x1 : Int32) (x2 : Int32), f_X1_dropLast_l12 c0 n σ x1 x2 = some z → am_At M { frames := 0, cells := 0, slots := 0, locals := 0 } (D, cT, ad, NX, LX) (amQv M (D, cT, ad, NX, LX) z) 3 12 [(0, .ref (ad c0)), (1, .int x1), (2, .int x2)] [] σ := by
  induction n with
  | zero =>
    intro σ x1 x2 h
    have h2 : (none : Option (Unit × Sg)) = some z := h
    cases h2
  | succ n ih =>
    intro σ x1 x2 h
    exact t_X1_dropLast_b12 X hc0 (k12 := f_X1_dropLast_l12 c0 n) ih σ x1 x2 h
set_option maxRecDepth 100000 in
set_option maxHeartbeats 4000000 in
theorem c_X1_dropLast (l : Launch) {c0 : Nat} (hc0 : Is_X1 c0) {σ : Sg} {z : Unit × Sg} (h : f_X1_dropLast c0 σ = some z) : am_Met l yX1_dropLast cX1_dropLast 3 none { frames := 0, cells := 0, slots := 0, locals := 0 } NX LX (fun ad => [.ref (ad c0)]) σ z.2 (fun _ => none) := by
  refine am_enter (by decide +kernel) (fun ad => Nat.le_of_ble_eq_true rfl) (fun M D cT ad hl X => ?_)
  subst hl
  refine r_lv (lv' := [(0, .ref (ad c0))]) rfl ?_
  unfold f_X1_dropLast at h
  refine r_aload_n X dX1_dropLast_0 rfl 0 rfl ?_
  refine r_getI X fg_X1_24_X1 hc0.1 rfl dX1_dropLast_1 ?_
  refine r_if_ne X 8 dX1_dropLast_4 (by decide) h (fun h => ?_) (fun h => ?_)
  · exact r_vretz X rfl dX1_dropLast_7 h
  · refine r_iconst (v := 0) X dX1_dropLast_8 (by decide) ?_
    refine r_istore_n X [(1, .int (0 : Int32)), (0, .ref (ad c0))] dX1_dropLast_9 rfl (by decide) rfl ?_
    refine r_iconst (v := 0) X dX1_dropLast_10 (by decide) ?_
    refine r_istore_n X [(2, .int (0 : Int32)), (1, .int (0 : Int32)), (0, .ref (ad c0))] dX1_dropLast_11 rfl (by decide) rfl ?_
    refine r_sub (lv' := [(0, .ref (ad c0)), (1, .int (0 : Int32)), (2, .int (0 : Int32))]) [2, 1, 0] rfl ?_
    exact t_X1_dropLast_l12 X hc0 300 σ (0 : Int32) (0 : Int32) h
set_option maxRecDepth 100000 in
set_option maxHeartbeats 4000000 in
theorem c_X9_back (l : Launch) {σ : Sg} {z : Int32 × Sg} (h : f_X9_back σ = some z) : am_Met l yX9_back cX9_back 1 (some .int) { frames := 1, cells := 0, slots := 0, locals := 22 } NX LX (fun ad => [.ref (ad 0)]) σ z.2 (fun _ => some (.int z.1)) := by
  refine am_enter (by decide +kernel) (fun ad => Nat.le_of_ble_eq_true rfl) (fun M D cT ad hl X => ?_)
  subst hl
  refine r_lv (lv' := [(0, .ref (ad 0))]) rfl ?_
  unfold f_X9_back at h
  refine r_aload_n X dX9_back_0 rfl 0 rfl ?_
  refine r_getR (c1 := 14) X fg_X9_38_X9 fX_0 rfl dX9_back_1 ?_
  refine r_getI X fg_X9_138_X1 fX_14 rfl dX9_back_4 ?_
  refine r_if_ne X 13 dX9_back_7 (by decide) h (fun h => ?_) (fun h => ?_)
  · refine r_bipush (v := -3) X dX9_back_10 (by decide) ?_
    exact r_iretz X rfl dX9_back_12 h
  · refine r_aload_n X dX9_back_13 rfl 0 rfl ?_
    refine r_getR (c1 := 14) X fg_X9_38_X9 fX_0 rfl dX9_back_14 ?_
    obtain ⟨r1, σ2, hc_6, h⟩ := bnd_of h
    refine r_callV (As := []) (rest := []) (st2 := []) (c := 14) X cv_X9_145 (c_X1_dropLast M.2.1 iX1_14 hc_6) rfl (ci := 1) rfl fX_14 rfl rfl (Nat.le_of_ble_eq_true rfl) ⟨⟨rfl, rfl⟩, by decide, by decide⟩ dX9_back_17 ⟨rfl, rfl⟩ rfl ?_
    refine r_aload_n X dX9_back_20 rfl 0 rfl ?_
    obtain ⟨r3, σ4, hc_5, h⟩ := bnd_of h
    refine r_callV (As := []) (rest := []) (st2 := []) (c := 0) X cv_X9_142 (c_X9_markStale M.2.1 hc_5) rfl (ci := 8) rfl fX_0 rfl rfl (Nat.le_of_ble_eq_true rfl) ⟨⟨rfl, rfl⟩, by decide, by decide⟩ dX9_back_21 ⟨rfl, rfl⟩ rfl ?_
    refine r_aload_n X dX9_back_24 rfl 0 rfl ?_
    refine r_getR (c1 := 14) X fg_X9_38_X9 fX_0 rfl dX9_back_25 ?_
    refine r_getI X fg_X9_138_X1 fX_14 rfl dX9_back_28 ?_
    exact r_iretz X rfl dX9_back_31 h
set_option maxRecDepth 100000 in
set_option maxHeartbeats 4000000 in
theorem c_X9_find (l : Launch) {σ : Sg} {a1 : Int32} {z : Int32 × Sg} (h : f_X9_find σ a1 = some z) : am_Met l yX9_find cX9_find 2 (some .int) { frames := 0, cells := 0, slots := 0, locals := 0 } NX LX (fun ad => [.ref (ad 0), .int a1]) σ z.2 (fun _ => some (.int z.1)) := by
  refine am_enter (by decide +kernel) (fun ad => Nat.le_of_ble_eq_true rfl) (fun M D cT ad hl X => ?_)
  subst hl
  refine r_lv (lv' := [(0, .ref (ad 0)), (1, .int a1)]) rfl ?_
  unfold f_X9_find at h
  refine r_aload_n X dX9_find_0 rfl 0 rfl ?_
  refine r_iload_n X dX9_find_1 rfl 1 rfl ?_
  refine r_putI X fp_X9_86_X9 fX_0 rfl dX9_find_2 h (fun σ1 h => ?_)
  refine r_bipush (v := -10) X dX9_find_5 (by decide) ?_
  refine r_iload_n X dX9_find_7 rfl 1 rfl ?_
  refine r_isub X dX9_find_8 ?_
  exact r_iretz X rfl dX9_find_9 h
set_option maxRecDepth 100000 in
set_option maxHeartbeats 4000000 in
theorem t_X9_read_b37 {M : am_M} {D : va_G} {cT : Nat → ClassId} {ad : Nat → Nat} (X : am_X M (D, cT, ad, NX, LX) cX9_read RX9 5 (some .int)) {z : Int32 × Sg} {k37 : Sg → Nat → Int32 → Int32 → Option (Int32 × Sg)} (hk37 : ∀ (σ : Sg) (x2 : Nat) (x3 : Int32) (x4 : Int32), k37 σ x2 x3 x4 = some z → Is_X6 x2 → am_At M { frames := 2, cells := 0, slots := 0, locals := 48 } (D, cT, ad, NX, LX) (amQi M (D, cT, ad, NX, LX) z) 5 37 [(0, .ref (ad 0)), (2, .ref (ad x2)), (3, .int x3), (4, .int x4)] [] σ) (σ : Sg) (x2 : Nat) (x3 : Int32) (x4 : Int32) (h : f_X9_read_b37 k37 σ x2 x3 x4 = some z) (fx2 : Is_X6 x2) : am_At M { frames := 2, cells := 0, slots := 0, locals := 48 } (D, cT, ad, NX, LX) (amQi M (D, cT, ad, NX, LX) z) 5 37 [(0, .ref (ad 0)), (2, .ref (ad x2)), (3, .int x3), (4, .int x4)] [] σ := by
  unfold f_X9_read_b37 at h
  refine r_iload X dX9_read_37 3 rfl ?_
  refine r_iconst (v := 2) X dX9_read_39 (by decide) ?_
  refine r_iadd X dX9_read_40 ?_
  refine r_aload_n X dX9_read_41 rfl 1 rfl ?_
  refine r_getI X fg_X9_155_X6 fx2.1 rfl dX9_read_42 ?_
  refine r_icmp_ge X 92 dX9_read_45 (by decide) h (fun h => ?_) (fun h => ?_)
  · refine r_iload_n X dX9_read_92 rfl 2 rfl ?_
    exact r_iretz X rfl dX9_read_93 h
  · refine r_aload_n X dX9_read_48 rfl 0 rfl ?_
    refine r_aload_n X dX9_read_49 rfl 1 rfl ?_
    refine r_getR (c1 := (x2 + 1)) X fg_X9_156_X6 fx2.1 rfl dX9_read_50 ?_
    refine r_iload X dX9_read_53 3 rfl ?_
    refine r_iald X fx2.2 dX9_read_55 h (fun h => ?_)
    refine r_aload_n X dX9_read_56 rfl 1 rfl ?_
    refine r_getR (c1 := (x2 + 1)) X fg_X9_156_X6 fx2.1 rfl dX9_read_57 ?_
    refine r_iload X dX9_read_60 3 rfl ?_
    refine r_iconst (v := 1) X dX9_read_62 (by decide) ?_
    refine r_iadd X dX9_read_63 ?_
    refine r_iald X fx2.2 dX9_read_64 h (fun h => ?_)
    refine r_aload_n X dX9_read_65 rfl 1 rfl ?_
    refine r_getR (c1 := (x2 + 1)) X fg_X9_156_X6 fx2.1 rfl dX9_read_66 ?_
    refine r_iload X dX9_read_69 3 rfl ?_
    refine r_iconst (v := 2) X dX9_read_71 (by decide) ?_
    refine r_iadd X dX9_read_72 ?_
    refine r_iald X fx2.2 dX9_read_73 h (fun h => ?_)
    obtain ⟨r1, σ2, hc_5, h⟩ := bnd_of h
    refine r_callV (As := [.int (σ (x2 + 1) (x4).toNatClampNeg), .int (σ (x2 + 1) ((x4 + (1 : Int32))).toNatClampNeg), .int (σ (x2 + 1) ((x4 + (2 : Int32))).toNatClampNeg)]) (rest := []) (st2 := [.int r1]) (c := 0) X cv_X9_159 (c_X9_event M.2.1 hc_5) rfl (ci := 8) rfl fX_0 rfl rfl (Nat.le_of_ble_eq_true rfl) ⟨⟨rfl, rfl⟩, by decide, by decide⟩ dX9_read_74 ⟨rfl, rfl⟩ rfl ?_
    refine r_if_ge X 83 dX9_read_77 (by decide) h (fun h => ?_) (fun h => ?_)
    · refine r_iinc X [(3, .int (x3 + (1 : Int32))), (0, .ref (ad 0)), (2, .ref (ad x2)), (4, .int x4)] dX9_read_83 2 rfl (v := x3 + (1 : Int32)) (by rfl) (by decide) rfl ?_
      refine r_letv h (fun v3 h => ?_)
      refine r_iinc X [(4, .int (x4 + (3 : Int32))), (3, .int v3), (0, .ref (ad 0)), (2, .ref (ad x2))] dX9_read_86 3 rfl (v := x4 + (3 : Int32)) (by rfl) (by decide) rfl ?_
      refine r_letv h (fun v4 h => ?_)
      refine r_goto X 37 dX9_read_89 (by decide) ?_
      refine r_sub (lv' := [(0, .ref (ad 0)), (2, .ref (ad x2)), (3, .int v3), (4, .int v4)]) [2, 3, 1, 0] rfl ?_
      exact hk37 σ2 x2 v3 v4 h fx2
    · refine r_goto X 92 dX9_read_80 (by decide) ?_
      refine r_iload_n X dX9_read_92 rfl 2 rfl ?_
      exact r_iretz X rfl dX9_read_93 h
theorem t_X9_read_l37 {M : am_M} {D : va_G} {cT : Nat → ClassId} {ad : Nat → Nat} (X : am_X M (D, cT, ad, NX, LX) cX9_read RX9 5 (some .int)) {z : Int32 × Sg} (n : Nat) : ∀ (σ : Sg) (x2 : Nat) (x3 : Int32) (x4 : Int32), f_X9_read_l37 n σ x2 x3 x4 = some z → Is_X6 x2 → am_At M { frames := 2, cells := 0, slots := 0, locals := 48 } (D, cT, ad, NX, LX) (amQi M (D, cT, ad, NX, LX) z) 5 37 [(0, .ref (ad 0)), (2, .ref (ad x2)), (3, .int x3), (4, .int x4)] [] σ := by
  induction n with
  | zero =>
    intro σ x2 x3 x4 h fx2
    have h2 : (none : Option (Int32 × Sg)) = some z := h
    cases h2
  | succ n ih =>
    intro σ x2 x3 x4 h fx2
    exact t_X9_read_b37 X (k37 := f_X9_read_l37 n) ih σ x2 x3 x4 h fx2
set_option maxRecDepth 100000 in
set_option maxHeartbeats 4000000 in
theorem c_X9_read (l : Launch) {σ : Sg} {a1 : Int32} {z : Int32 × Sg} (h : f_X9_read σ a1 = some z) : am_Met l yX9_read cX9_read 5 (some .int) { frames := 2, cells := 0, slots := 0, locals := 48 } NX LX (fun ad => [.ref (ad 0), .int a1]) σ z.2 (fun _ => some (.int z.1)) := by
  refine am_enter (by decide +kernel) (fun ad => Nat.le_of_ble_eq_true rfl) (fun M D cT ad hl X => ?_)
  subst hl
  refine r_lv (lv' := [(0, .ref (ad 0)), (1, .int a1)]) rfl ?_
  unfold f_X9_read at h
  refine r_iload_n X dX9_read_0 rfl 1 rfl ?_
  refine r_iconst (v := 4) X dX9_read_1 (by decide) ?_
  obtain ⟨r1, σ2, hc_7, h⟩ := bnd_of h
  refine r_callS (As := [.int a1, .int (4 : Int32)]) (rest := []) (st2 := [.int r1]) X cv_X9_91 (c_X9_isBelow M.2.1 hc_7) rfl rfl rfl (Nat.le_of_ble_eq_true rfl) ⟨⟨rfl, rfl⟩, by decide, by decide⟩ dX9_read_2 ⟨rfl, rfl⟩ rfl ?_
  refine r_if_ne X 11 dX9_read_5 (by decide) h (fun h => ?_) (fun h => ?_)
  · refine r_bipush (v := -2) X dX9_read_8 (by decide) ?_
    exact r_iretz X rfl dX9_read_10 h
  · refine r_aload_n X dX9_read_11 rfl 0 rfl ?_
    refine r_getR (c1 := 45) X fg_X9_75_X9 fX_0 rfl dX9_read_12 ?_
    refine r_iload_n X dX9_read_15 rfl 1 rfl ?_
    refine r_aald X fX_45 dX9_read_16 h (fun h => ?_)
    refine r_letr (v := 46 + 2 * (a1).toNatClampNeg) h (fun r3 h => ?_)
    obtain ⟨gr3, h⟩ := gd_of h
    have fr3 := isX6_of gr3
    refine r_astore_n X [(2, .ref (ad r3)), (0, .ref (ad 0)), (1, .int a1)] dX9_read_17 rfl (by decide) rfl ?_
    refine r_aload_n X dX9_read_18 rfl 0 rfl ?_
    refine r_getI X fg_X9_148_X6 fr3.1 rfl dX9_read_19 ?_
    refine r_iconst (v := -1) X dX9_read_22 (by decide) ?_
    refine r_icmp_ne X 32 dX9_read_23 (by decide) h (fun h => ?_) (fun h => ?_)
    · refine r_aload_n X dX9_read_26 rfl 1 rfl ?_
      refine r_iconst (v := 1) X dX9_read_27 (by decide) ?_
      obtain ⟨r4, σ5, hc_6, h⟩ := bnd_of h
      refine r_callV (As := [.int (1 : Int32)]) (rest := []) (st2 := [.int r4]) (c := 0) X cv_X9_151 (c_X9_find M.2.1 hc_6) rfl (ci := 8) rfl fX_0 rfl rfl (Nat.le_of_ble_eq_true rfl) ⟨⟨rfl, rfl⟩, by decide, by decide⟩ dX9_read_28 ⟨rfl, rfl⟩ rfl ?_
      exact r_iretz X rfl dX9_read_31 h
    · refine r_iconst (v := 0) X dX9_read_32 (by decide) ?_
      refine r_istore_n X [(3, .int (0 : Int32)), (2, .ref (ad r3)), (0, .ref (ad 0)), (1, .int a1)] dX9_read_33 rfl (by decide) rfl ?_
      refine r_iconst (v := 0) X dX9_read_34 (by decide) ?_
      refine r_istore X [(4, .int (0 : Int32)), (3, .int (0 : Int32)), (2, .ref (ad r3)), (0, .ref (ad 0)), (1, .int a1)] dX9_read_35 (by decide) rfl ?_
      refine r_sub (lv' := [(0, .ref (ad 0)), (2, .ref (ad r3)), (3, .int (0 : Int32)), (4, .int (0 : Int32))]) [3, 2, 1, 0] rfl ?_
      exact t_X9_read_l37 X 300 σ2 r3 (0 : Int32) (0 : Int32) h fr3
set_option maxRecDepth 100000 in
set_option maxHeartbeats 4000000 in
theorem t_X0_startAnew_b2 {M : am_M} {D : va_G} {cT : Nat → ClassId} {ad : Nat → Nat} (X : am_X M (D, cT, ad, NX, LX) cX0_startAnew RX0 2 none) {c0 : Nat} (hc0 : Is_X0 c0) {z : Unit × Sg} {k2 : Sg → Int32 → Option (Unit × Sg)} (hk2 : ∀ (σ : Sg) (x1 : Int32), k2 σ x1 = some z → am_At M { frames := 0, cells := 0, slots := 0, locals := 0 } (D, cT, ad, NX, LX) (amQv M (D, cT, ad, NX, LX) z) 2 2 [(0, .ref (ad c0)), (1, .int x1)] [] σ) (σ : Sg) (x1 : Int32) (h : f_X0_startAnew_b2 c0 k2 σ x1 = some z) : am_At M { frames := 0, cells := 0, slots := 0, locals := 0 } (D, cT, ad, NX, LX) (amQv M (D, cT, ad, NX, LX) z) 2 2 [(0, .ref (ad c0)), (1, .int x1)] [] σ := by
  unfold f_X0_startAnew_b2 at h
  refine r_iload_n X dX0_startAnew_2 rfl 1 rfl ?_
  refine r_bipush (v := 8) X dX0_startAnew_3 (by decide) ?_
  refine r_icmp_ge X 28 dX0_startAnew_5 (by decide) h (fun h => ?_) (fun h => ?_)
  · refine r_aload_n X dX0_startAnew_28 rfl 0 rfl ?_
    refine r_iconst (v := 0) X dX0_startAnew_29 (by decide) ?_
    refine r_putI X fp_X0_30_X0 hc0.1 rfl dX0_startAnew_30 h (fun σ1 h => ?_)
    refine r_aload_n X dX0_startAnew_33 rfl 0 rfl ?_
    refine r_iconst (v := 0) X dX0_startAnew_34 (by decide) ?_
    refine r_putI X fp_X0_34_X0 hc0.1 rfl dX0_startAnew_35 h (fun σ2 h => ?_)
    refine r_aload_n X dX0_startAnew_38 rfl 0 rfl ?_
    refine r_iconst (v := 0) X dX0_startAnew_39 (by decide) ?_
    refine r_putI X fp_X0_37_X0 hc0.1 rfl dX0_startAnew_40 h (fun σ3 h => ?_)
    refine r_aload_n X dX0_startAnew_43 rfl 0 rfl ?_
    refine r_iconst (v := 0) X dX0_startAnew_44 (by decide) ?_
    refine r_putI X fp_X0_40_X0 hc0.1 rfl dX0_startAnew_45 h (fun σ4 h => ?_)
    exact r_vretz X rfl dX0_startAnew_48 h
  · refine r_aload_n X dX0_startAnew_8 rfl 0 rfl ?_
    refine r_getR (c1 := (c0 + 1)) X fg_X0_9_X0 hc0.1 rfl dX0_startAnew_9 ?_
    refine r_iload_n X dX0_startAnew_12 rfl 1 rfl ?_
    refine r_iconst (v := -1) X dX0_startAnew_13 (by decide) ?_
    refine r_iast X hc0.2.1 dX0_startAnew_14 h (fun σ5 h => ?_)
    refine r_aload_n X dX0_startAnew_15 rfl 0 rfl ?_
    refine r_getR (c1 := (c0 + 3)) X fg_X0_18_X0 hc0.1 rfl dX0_startAnew_16 ?_
    refine r_iload_n X dX0_startAnew_19 rfl 1 rfl ?_
    refine r_iconst (v := 0) X dX0_startAnew_20 (by decide) ?_
    refine r_iast X hc0.2.2.2.1 dX0_startAnew_21 h (fun σ6 h => ?_)
    refine r_iinc X [(1, .int (x1 + (1 : Int32))), (0, .ref (ad c0))] dX0_startAnew_22 1 rfl (v := x1 + (1 : Int32)) (by rfl) (by decide) rfl ?_
    refine r_letv h (fun v7 h => ?_)
    refine r_goto X 2 dX0_startAnew_25 (by decide) ?_
    refine r_sub (lv' := [(0, .ref (ad c0)), (1, .int v7)]) [1, 0] rfl ?_
    exact hk2 σ6 v7 h
theorem t_X0_startAnew_l2 {M : am_M} {D : va_G} {cT : Nat → ClassId} {ad : Nat → Nat} (X : am_X M (D, cT, ad, NX, LX) cX0_startAnew RX0 2 none) {c0 : Nat} (hc0 : Is_X0 c0) {z : Unit × Sg} (n : Nat) : ∀ (σ : Sg) (x1 : Int32), f_X0_startAnew_l2 c0 n σ x1 = some z → am_At M { frames := 0, cells := 0, slots := 0, locals := 0 } (D, cT, ad, NX, LX) (amQv M (D, cT, ad, NX, LX) z) 2 2 [(0, .ref (ad c0)), (1, .int x1)] [] σ := by
  induction n with
  | zero =>
    intro σ x1 h
    have h2 : (none : Option (Unit × Sg)) = some z := h
    cases h2
  | succ n ih =>
    intro σ x1 h
    exact t_X0_startAnew_b2 X hc0 (k2 := f_X0_startAnew_l2 c0 n) ih σ x1 h
set_option maxRecDepth 100000 in
set_option maxHeartbeats 4000000 in
theorem c_X0_startAnew (l : Launch) {c0 : Nat} (hc0 : Is_X0 c0) {σ : Sg} {z : Unit × Sg} (h : f_X0_startAnew c0 σ = some z) : am_Met l yX0_startAnew cX0_startAnew 2 none { frames := 0, cells := 0, slots := 0, locals := 0 } NX LX (fun ad => [.ref (ad c0)]) σ z.2 (fun _ => none) := by
  refine am_enter (by decide +kernel) (fun ad => Nat.le_of_ble_eq_true rfl) (fun M D cT ad hl X => ?_)
  subst hl
  refine r_lv (lv' := [(0, .ref (ad c0))]) rfl ?_
  unfold f_X0_startAnew at h
  refine r_iconst (v := 0) X dX0_startAnew_0 (by decide) ?_
  refine r_istore_n X [(1, .int (0 : Int32)), (0, .ref (ad c0))] dX0_startAnew_1 rfl (by decide) rfl ?_
  refine r_sub (lv' := [(0, .ref (ad c0)), (1, .int (0 : Int32))]) [1, 0] rfl ?_
  exact t_X0_startAnew_l2 X hc0 300 σ (0 : Int32) h
set_option maxRecDepth 100000 in
set_option maxHeartbeats 4000000 in
theorem t_X0_endNightsTo_b5 {M : am_M} {D : va_G} {cT : Nat → ClassId} {ad : Nat → Nat} (X : am_X M (D, cT, ad, NX, LX) cX0_endNightsTo RX0 3 none) {c0 : Nat} (hc0 : Is_X0 c0) {z : Unit × Sg} {k5 : Sg → Int32 → Int32 → Option (Unit × Sg)} (hk5 : ∀ (σ : Sg) (x1 : Int32) (x2 : Int32), k5 σ x1 x2 = some z → am_At M { frames := 0, cells := 0, slots := 0, locals := 0 } (D, cT, ad, NX, LX) (amQv M (D, cT, ad, NX, LX) z) 3 5 [(0, .ref (ad c0)), (1, .int x1), (2, .int x2)] [] σ) (σ : Sg) (x1 : Int32) (x2 : Int32) (h : f_X0_endNightsTo_b5 c0 k5 σ x1 x2 = some z) : am_At M { frames := 0, cells := 0, slots := 0, locals := 0 } (D, cT, ad, NX, LX) (amQv M (D, cT, ad, NX, LX) z) 3 5 [(0, .ref (ad c0)), (1, .int x1), (2, .int x2)] [] σ := by
  unfold f_X0_endNightsTo_b5 at h
  refine r_iload_n X dX0_endNightsTo_5 rfl 2 rfl ?_
  refine r_iload_n X dX0_endNightsTo_6 rfl 1 rfl ?_
  refine r_icmp_ge X 26 dX0_endNightsTo_7 (by decide) h (fun h => ?_) (fun h => ?_)
  · refine r_aload_n X dX0_endNightsTo_26 rfl 0 rfl ?_
    refine r_iload_n X dX0_endNightsTo_27 rfl 1 rfl ?_
    refine r_putI X fp_X0_40_X0 hc0.1 rfl dX0_endNightsTo_28 h (fun σ1 h => ?_)
    exact r_vretz X rfl dX0_endNightsTo_31 h
  · refine r_aload_n X dX0_endNightsTo_10 rfl 0 rfl ?_
    refine r_getR (c1 := (c0 + 4)) X fg_X0_21_X0 hc0.1 rfl dX0_endNightsTo_11 ?_
    refine r_iload_n X dX0_endNightsTo_14 rfl 2 rfl ?_
    refine r_aload_n X dX0_endNightsTo_15 rfl 0 rfl ?_
    refine r_getI X fg_X0_37_X0 hc0.1 rfl dX0_endNightsTo_16 ?_
    refine r_iast X hc0.2.2.2.2.1 dX0_endNightsTo_19 h (fun σ2 h => ?_)
    refine r_iinc X [(2, .int (x2 + (1 : Int32))), (0, .ref (ad c0)), (1, .int x1)] dX0_endNightsTo_20 2 rfl (v := x2 + (1 : Int32)) (by rfl) (by decide) rfl ?_
    refine r_letv h (fun v3 h => ?_)
    refine r_goto X 5 dX0_endNightsTo_23 (by decide) ?_
    refine r_sub (lv' := [(0, .ref (ad c0)), (1, .int x1), (2, .int v3)]) [1, 2, 0] rfl ?_
    exact hk5 σ2 x1 v3 h
theorem t_X0_endNightsTo_l5 {M : am_M} {D : va_G} {cT : Nat → ClassId} {ad : Nat → Nat} (X : am_X M (D, cT, ad, NX, LX) cX0_endNightsTo RX0 3 none) {c0 : Nat} (hc0 : Is_X0 c0) {z : Unit × Sg} (n : Nat) : ∀ (σ : Sg) (x1 : Int32) (x2 : Int32), f_X0_endNightsTo_l5 c0 n σ x1 x2 = some z → am_At M { frames := 0, cells := 0, slots := 0, locals := 0 } (D, cT, ad, NX, LX) (amQv M (D, cT, ad, NX, LX) z) 3 5 [(0, .ref (ad c0)), (1, .int x1), (2, .int x2)] [] σ := by
  induction n with
  | zero =>
    intro σ x1 x2 h
    have h2 : (none : Option (Unit × Sg)) = some z := h
    cases h2
  | succ n ih =>
    intro σ x1 x2 h
    exact t_X0_endNightsTo_b5 X hc0 (k5 := f_X0_endNightsTo_l5 c0 n) ih σ x1 x2 h
set_option maxRecDepth 100000 in
set_option maxHeartbeats 4000000 in
theorem c_X0_endNightsTo (l : Launch) {c0 : Nat} (hc0 : Is_X0 c0) {σ : Sg} {a1 : Int32} {z : Unit × Sg} (h : f_X0_endNightsTo c0 σ a1 = some z) : am_Met l yX0_endNightsTo cX0_endNightsTo 3 none { frames := 0, cells := 0, slots := 0, locals := 0 } NX LX (fun ad => [.ref (ad c0), .int a1]) σ z.2 (fun _ => none) := by
  refine am_enter (by decide +kernel) (fun ad => Nat.le_of_ble_eq_true rfl) (fun M D cT ad hl X => ?_)
  subst hl
  refine r_lv (lv' := [(0, .ref (ad c0)), (1, .int a1)]) rfl ?_
  unfold f_X0_endNightsTo at h
  refine r_aload_n X dX0_endNightsTo_0 rfl 0 rfl ?_
  refine r_getI X fg_X0_40_X0 hc0.1 rfl dX0_endNightsTo_1 ?_
  refine r_leti h (fun v1 h => ?_)
  refine r_istore_n X [(2, .int v1), (0, .ref (ad c0)), (1, .int a1)] dX0_endNightsTo_4 rfl (by decide) rfl ?_
  refine r_sub (lv' := [(0, .ref (ad c0)), (1, .int a1), (2, .int v1)]) [1, 2, 0] rfl ?_
  exact t_X0_endNightsTo_l5 X hc0 300 σ a1 v1 h
set_option maxRecDepth 100000 in
set_option maxHeartbeats 4000000 in
theorem c_X4_weightOn (l : Launch) {σ : Sg} {a1 : Int32} {a2 : Int32} {z : Int32 × Sg} (h : f_X4_weightOn σ a1 a2 = some z) : am_Met l yX4_weightOn cX4_weightOn 4 (some .int) { frames := 0, cells := 0, slots := 0, locals := 0 } NX LX (fun ad => [.ref (ad 10), .int a1, .int a2]) σ z.2 (fun _ => some (.int z.1)) := by
  refine am_enter (by decide +kernel) (fun ad => Nat.le_of_ble_eq_true rfl) (fun M D cT ad hl X => ?_)
  subst hl
  refine r_lv (lv' := [(0, .ref (ad 10)), (1, .int a1), (2, .int a2)]) rfl ?_
  unfold f_X4_weightOn at h
  refine r_aload_n X dX4_weightOn_0 rfl 0 rfl ?_
  refine r_getR (c1 := 13) X fg_X4_18_X4 fX_10 rfl dX4_weightOn_1 ?_
  refine r_iload_n X dX4_weightOn_4 rfl 1 rfl ?_
  refine r_iald X fX_13 dX4_weightOn_5 h (fun h => ?_)
  refine r_iload_n X dX4_weightOn_6 rfl 2 rfl ?_
  refine r_iadd X dX4_weightOn_7 ?_
  refine r_aload_n X dX4_weightOn_8 rfl 0 rfl ?_
  refine r_getR (c1 := 12) X fg_X4_15_X4 fX_10 rfl dX4_weightOn_9 ?_
  refine r_iload_n X dX4_weightOn_12 rfl 1 rfl ?_
  refine r_iald X fX_12 dX4_weightOn_13 h (fun h => ?_)
  refine r_isub X dX4_weightOn_14 ?_
  refine r_leti h (fun v1 h => ?_)
  refine r_istore_n X [(3, .int v1), (0, .ref (ad 10)), (1, .int a1), (2, .int a2)] dX4_weightOn_15 rfl (by decide) rfl ?_
  refine r_iload_n X dX4_weightOn_16 rfl 0 rfl ?_
  refine r_bipush (v := 9) X dX4_weightOn_17 (by decide) ?_
  refine r_icmp_ge X 26 dX4_weightOn_19 (by decide) h (fun h => ?_) (fun h => ?_)
  · refine r_bipush (v := 9) X dX4_weightOn_26 (by decide) ?_
    exact r_iretz X rfl dX4_weightOn_28 h
  · refine r_iload_n X dX4_weightOn_22 rfl 0 rfl ?_
    refine r_goto X 28 dX4_weightOn_23 (by decide) ?_
    exact r_iretz X rfl dX4_weightOn_28 h
set_option maxRecDepth 100000 in
set_option maxHeartbeats 4000000 in
theorem t_X0_weighNeeds_b71 {M : am_M} {D : va_G} {cT : Nat → ClassId} {ad : Nat → Nat} (X : am_X M (D, cT, ad, NX, LX) cX0_weighNeeds RX0 4 none) {c0 : Nat} (hc0 : Is_X0 c0) {z : Unit × Sg} {k23 : Sg → Int32 → Int32 → Option (Unit × Sg)} (hk23 : ∀ (σ : Sg) (x2 : Int32) (x3 : Int32), k23 σ x2 x3 = some z → am_At M { frames := 1, cells := 0, slots := 0, locals := 23 } (D, cT, ad, NX, LX) (amQv M (D, cT, ad, NX, LX) z) 4 23 [(0, .ref (ad c0)), (1, .ref (ad 10)), (2, .int x2), (3, .int x3)] [] σ) (σ : Sg) (x2 : Int32) (x3 : Int32) (h : f_X0_weighNeeds_b71 c0 k23 σ x2 x3 = some z) : am_At M { frames := 1, cells := 0, slots := 0, locals := 23 } (D, cT, ad, NX, LX) (amQv M (D, cT, ad, NX, LX) z) 4 71 [(0, .ref (ad c0)), (1, .ref (ad 10)), (2, .int x2), (3, .int x3)] [] σ := by
  unfold f_X0_weighNeeds_b71 at h
  refine r_iinc X [(3, .int (x3 + (1 : Int32))), (0, .ref (ad c0)), (1, .ref (ad 10)), (2, .int x2)] dX0_weighNeeds_71 3 rfl (v := x3 + (1 : Int32)) (by rfl) (by decide) rfl ?_
  refine r_letv h (fun v1 h => ?_)
  refine r_goto X 23 dX0_weighNeeds_74 (by decide) ?_
  refine r_sub (lv' := [(0, .ref (ad c0)), (1, .ref (ad 10)), (2, .int x2), (3, .int v1)]) [1, 2, 3, 0] rfl ?_
  exact hk23 σ x2 v1 h
set_option maxRecDepth 100000 in
set_option maxHeartbeats 4000000 in
theorem t_X0_weighNeeds_b23 {M : am_M} {D : va_G} {cT : Nat → ClassId} {ad : Nat → Nat} (X : am_X M (D, cT, ad, NX, LX) cX0_weighNeeds RX0 4 none) {c0 : Nat} (hc0 : Is_X0 c0) {z : Unit × Sg} {k23 : Sg → Int32 → Int32 → Option (Unit × Sg)} (hk23 : ∀ (σ : Sg) (x2 : Int32) (x3 : Int32), k23 σ x2 x3 = some z → am_At M { frames := 1, cells := 0, slots := 0, locals := 23 } (D, cT, ad, NX, LX) (amQv M (D, cT, ad, NX, LX) z) 4 23 [(0, .ref (ad c0)), (1, .ref (ad 10)), (2, .int x2), (3, .int x3)] [] σ) (σ : Sg) (x2 : Int32) (x3 : Int32) (h : f_X0_weighNeeds_b23 c0 k23 σ x2 x3 = some z) : am_At M { frames := 1, cells := 0, slots := 0, locals := 23 } (D, cT, ad, NX, LX) (amQv M (D, cT, ad, NX, LX) z) 4 23 [(0, .ref (ad c0)), (1, .ref (ad 10)), (2, .int x2), (3, .int x3)] [] σ := by
  unfold f_X0_weighNeeds_b23 at h
  refine r_iload_n X dX0_weighNeeds_23 rfl 3 rfl ?_
  refine r_aload_n X dX0_weighNeeds_24 rfl 1 rfl ?_
  refine r_getI X fg_X0_89_X4 fX_10 rfl dX0_weighNeeds_25 ?_
  refine r_icmp_ge X 77 dX0_weighNeeds_28 (by decide) h (fun h => ?_) (fun h => ?_)
  · exact r_vretz X rfl dX0_weighNeeds_77 h
  · refine r_aload_n X dX0_weighNeeds_31 rfl 0 rfl ?_
    refine r_getR (c1 := (c0 + 1)) X fg_X0_9_X0 hc0.1 rfl dX0_weighNeeds_32 ?_
    refine r_iload_n X dX0_weighNeeds_35 rfl 3 rfl ?_
    refine r_iald X hc0.2.1 dX0_weighNeeds_36 h (fun h => ?_)
    refine r_iconst (v := -1) X dX0_weighNeeds_37 (by decide) ?_
    refine r_icmp_ne X 71 dX0_weighNeeds_38 (by decide) h (fun h => ?_) (fun h => ?_)
    · refine r_aload_n X dX0_weighNeeds_41 rfl 1 rfl ?_
      refine r_getR (c1 := 12) X fg_X0_92_X4 fX_10 rfl dX0_weighNeeds_42 ?_
      refine r_iload_n X dX0_weighNeeds_45 rfl 3 rfl ?_
      refine r_iald X fX_12 dX0_weighNeeds_46 h (fun h => ?_)
      refine r_iload_n X dX0_weighNeeds_47 rfl 2 rfl ?_
      refine r_icmp_gt X 71 dX0_weighNeeds_48 (by decide) h (fun h => ?_) (fun h => ?_)
      · exact t_X0_weighNeeds_b71 X hc0 hk23 σ x2 x3 h
      · refine r_aload_n X dX0_weighNeeds_51 rfl 0 rfl ?_
        refine r_getR (c1 := (c0 + 2)) X fg_X0_15_X0 hc0.1 rfl dX0_weighNeeds_52 ?_
        refine r_aload_n X dX0_weighNeeds_55 rfl 1 rfl ?_
        refine r_getR (c1 := 11) X fg_X0_93_X4 fX_10 rfl dX0_weighNeeds_56 ?_
        refine r_iload_n X dX0_weighNeeds_59 rfl 3 rfl ?_
        refine r_iald X fX_11 dX0_weighNeeds_60 h (fun h => ?_)
        refine r_dup2 X dX0_weighNeeds_61 rfl rfl ?_
        refine r_iald X hc0.2.2.1 dX0_weighNeeds_62 h (fun h => ?_)
        refine r_aload_n X dX0_weighNeeds_63 rfl 1 rfl ?_
        refine r_iload_n X dX0_weighNeeds_64 rfl 3 rfl ?_
        refine r_iload_n X dX0_weighNeeds_65 rfl 2 rfl ?_
        obtain ⟨r1, σ2, hc_4, h⟩ := bnd_of h
        refine r_callV (As := [.int x3, .int x2]) (rest := [.int (σ (c0 + 2) ((σ 11 (x3).toNatClampNeg)).toNatClampNeg), .int (σ 11 (x3).toNatClampNeg), .ref (ad (c0 + 2))]) (st2 := [.int r1, .int (σ (c0 + 2) ((σ 11 (x3).toNatClampNeg)).toNatClampNeg), .int (σ 11 (x3).toNatClampNeg), .ref (ad (c0 + 2))]) (c := 10) X cv_X0_96 (c_X4_weightOn M.2.1 hc_4) rfl (ci := 3) rfl fX_10 rfl rfl (Nat.le_of_ble_eq_true rfl) ⟨⟨rfl, rfl⟩, by decide, by decide⟩ dX0_weighNeeds_66 ⟨rfl, rfl⟩ rfl ?_
        refine r_iadd X dX0_weighNeeds_69 ?_
        refine r_iast X hc0.2.2.1 dX0_weighNeeds_70 h (fun σ3 h => ?_)
        exact t_X0_weighNeeds_b71 X hc0 hk23 σ3 x2 x3 h
    · exact t_X0_weighNeeds_b71 X hc0 hk23 σ x2 x3 h
theorem t_X0_weighNeeds_l23 {M : am_M} {D : va_G} {cT : Nat → ClassId} {ad : Nat → Nat} (X : am_X M (D, cT, ad, NX, LX) cX0_weighNeeds RX0 4 none) {c0 : Nat} (hc0 : Is_X0 c0) {z : Unit × Sg} (n : Nat) : ∀ (σ : Sg) (x2 : Int32) (x3 : Int32), f_X0_weighNeeds_l23 c0 n σ x2 x3 = some z → am_At M { frames := 1, cells := 0, slots := 0, locals := 23 } (D, cT, ad, NX, LX) (amQv M (D, cT, ad, NX, LX) z) 4 23 [(0, .ref (ad c0)), (1, .ref (ad 10)), (2, .int x2), (3, .int x3)] [] σ := by
  induction n with
  | zero =>
    intro σ x2 x3 h
    have h2 : (none : Option (Unit × Sg)) = some z := h
    cases h2
  | succ n ih =>
    intro σ x2 x3 h
    exact t_X0_weighNeeds_b23 X hc0 (k23 := f_X0_weighNeeds_l23 c0 n) ih σ x2 x3 h
set_option maxRecDepth 100000 in
set_option maxHeartbeats 4000000 in
theorem t_X0_weighNeeds_b2 {M : am_M} {D : va_G} {cT : Nat → ClassId} {ad : Nat → Nat} (X : am_X M (D, cT, ad, NX, LX) cX0_weighNeeds RX0 4 none) {c0 : Nat} (hc0 : Is_X0 c0) {z : Unit × Sg} {k2 : Sg → Int32 → Int32 → Option (Unit × Sg)} (hk2 : ∀ (σ : Sg) (x2 : Int32) (x3 : Int32), k2 σ x2 x3 = some z → am_At M { frames := 1, cells := 0, slots := 0, locals := 23 } (D, cT, ad, NX, LX) (amQv M (D, cT, ad, NX, LX) z) 4 2 [(0, .ref (ad c0)), (1, .ref (ad 10)), (2, .int x2), (3, .int x3)] [] σ) (σ : Sg) (x2 : Int32) (x3 : Int32) (h : f_X0_weighNeeds_b2 c0 k2 σ x2 x3 = some z) : am_At M { frames := 1, cells := 0, slots := 0, locals := 23 } (D, cT, ad, NX, LX) (amQv M (D, cT, ad, NX, LX) z) 4 2 [(0, .ref (ad c0)), (1, .ref (ad 10)), (2, .int x2), (3, .int x3)] [] σ := by
  unfold f_X0_weighNeeds_b2 at h
  refine r_iload_n X dX0_weighNeeds_2 rfl 3 rfl ?_
  refine r_bipush (v := 8) X dX0_weighNeeds_3 (by decide) ?_
  refine r_icmp_ge X 21 dX0_weighNeeds_5 (by decide) h (fun h => ?_) (fun h => ?_)
  · refine r_iconst (v := 0) X dX0_weighNeeds_21 (by decide) ?_
    refine r_istore_n X [(3, .int (0 : Int32)), (0, .ref (ad c0)), (1, .ref (ad 10)), (2, .int x2)] dX0_weighNeeds_22 rfl (by decide) rfl ?_
    refine r_sub (lv' := [(0, .ref (ad c0)), (1, .ref (ad 10)), (2, .int x2), (3, .int (0 : Int32))]) [1, 2, 3, 0] rfl ?_
    exact t_X0_weighNeeds_l23 X hc0 300 σ x2 (0 : Int32) h
  · refine r_aload_n X dX0_weighNeeds_8 rfl 0 rfl ?_
    refine r_getR (c1 := (c0 + 2)) X fg_X0_15_X0 hc0.1 rfl dX0_weighNeeds_9 ?_
    refine r_iload_n X dX0_weighNeeds_12 rfl 3 rfl ?_
    refine r_iconst (v := 0) X dX0_weighNeeds_13 (by decide) ?_
    refine r_iast X hc0.2.2.1 dX0_weighNeeds_14 h (fun σ1 h => ?_)
    refine r_iinc X [(3, .int (x3 + (1 : Int32))), (0, .ref (ad c0)), (1, .ref (ad 10)), (2, .int x2)] dX0_weighNeeds_15 3 rfl (v := x3 + (1 : Int32)) (by rfl) (by decide) rfl ?_
    refine r_letv h (fun v2 h => ?_)
    refine r_goto X 2 dX0_weighNeeds_18 (by decide) ?_
    refine r_sub (lv' := [(0, .ref (ad c0)), (1, .ref (ad 10)), (2, .int x2), (3, .int v2)]) [1, 2, 3, 0] rfl ?_
    exact hk2 σ1 x2 v2 h
theorem t_X0_weighNeeds_l2 {M : am_M} {D : va_G} {cT : Nat → ClassId} {ad : Nat → Nat} (X : am_X M (D, cT, ad, NX, LX) cX0_weighNeeds RX0 4 none) {c0 : Nat} (hc0 : Is_X0 c0) {z : Unit × Sg} (n : Nat) : ∀ (σ : Sg) (x2 : Int32) (x3 : Int32), f_X0_weighNeeds_l2 c0 n σ x2 x3 = some z → am_At M { frames := 1, cells := 0, slots := 0, locals := 23 } (D, cT, ad, NX, LX) (amQv M (D, cT, ad, NX, LX) z) 4 2 [(0, .ref (ad c0)), (1, .ref (ad 10)), (2, .int x2), (3, .int x3)] [] σ := by
  induction n with
  | zero =>
    intro σ x2 x3 h
    have h2 : (none : Option (Unit × Sg)) = some z := h
    cases h2
  | succ n ih =>
    intro σ x2 x3 h
    exact t_X0_weighNeeds_b2 X hc0 (k2 := f_X0_weighNeeds_l2 c0 n) ih σ x2 x3 h
set_option maxRecDepth 100000 in
set_option maxHeartbeats 4000000 in
theorem c_X0_weighNeeds (l : Launch) {c0 : Nat} (hc0 : Is_X0 c0) {σ : Sg} {a2 : Int32} {z : Unit × Sg} (h : f_X0_weighNeeds c0 σ a2 = some z) : am_Met l yX0_weighNeeds cX0_weighNeeds 4 none { frames := 1, cells := 0, slots := 0, locals := 23 } NX LX (fun ad => [.ref (ad c0), .ref (ad 10), .int a2]) σ z.2 (fun _ => none) := by
  refine am_enter (by decide +kernel) (fun ad => Nat.le_of_ble_eq_true rfl) (fun M D cT ad hl X => ?_)
  subst hl
  refine r_lv (lv' := [(0, .ref (ad c0)), (1, .ref (ad 10)), (2, .int a2)]) rfl ?_
  unfold f_X0_weighNeeds at h
  refine r_iconst (v := 0) X dX0_weighNeeds_0 (by decide) ?_
  refine r_istore_n X [(3, .int (0 : Int32)), (0, .ref (ad c0)), (1, .ref (ad 10)), (2, .int a2)] dX0_weighNeeds_1 rfl (by decide) rfl ?_
  refine r_sub (lv' := [(0, .ref (ad c0)), (1, .ref (ad 10)), (2, .int a2), (3, .int (0 : Int32))]) [1, 2, 3, 0] rfl ?_
  exact t_X0_weighNeeds_l2 X hc0 300 σ a2 (0 : Int32) h
set_option maxRecDepth 100000 in
set_option maxHeartbeats 4000000 in
theorem c_X0_pullOf (l : Launch) {c0 : Nat} (hc0 : Is_X0 c0) {σ : Sg} {a2 : Int32} {z : Int32 × Sg} (h : f_X0_pullOf c0 σ a2 = some z) : am_Met l yX0_pullOf cX0_pullOf 3 (some .int) { frames := 0, cells := 0, slots := 0, locals := 0 } NX LX (fun ad => [.ref (ad c0), .ref (ad 5), .int a2]) σ z.2 (fun _ => some (.int z.1)) := by
  refine am_enter (by decide +kernel) (fun ad => Nat.le_of_ble_eq_true rfl) (fun M D cT ad hl X => ?_)
  subst hl
  refine r_lv (lv' := [(0, .ref (ad c0)), (1, .ref (ad 5)), (2, .int a2)]) rfl ?_
  unfold f_X0_pullOf at h
  refine r_aload_n X dX0_pullOf_0 rfl 1 rfl ?_
  refine r_getR (c1 := 6) X fg_X0_106_X2 fX_5 rfl dX0_pullOf_1 ?_
  refine r_iload_n X dX0_pullOf_4 rfl 2 rfl ?_
  refine r_iald X fX_6 dX0_pullOf_5 h (fun h => ?_)
  obtain ⟨hA, hB⟩ := ite_of h
  by_cases q6_0 : (σ 6 (a2).toNatClampNeg) = 0
  · have h := hA q6_0
    refine r_lookup X 32 dX0_pullOf_6 (by decide) (show Op.lookupswitch.offset [(0, 26), (1, 42)] 56 _ = 26 from by rw [q6_0]; rfl) (by decide) ?_
    refine r_aload_n X dX0_pullOf_32 rfl 0 rfl ?_
    refine r_getR (c1 := (c0 + 2)) X fg_X0_15_X0 hc0.1 rfl dX0_pullOf_33 ?_
    refine r_iload_n X dX0_pullOf_36 rfl 2 rfl ?_
    refine r_iald X hc0.2.2.1 dX0_pullOf_37 h (fun h => ?_)
    refine r_aload_n X dX0_pullOf_38 rfl 1 rfl ?_
    refine r_getR (c1 := 9) X fg_X0_109_X2 fX_5 rfl dX0_pullOf_39 ?_
    refine r_iload_n X dX0_pullOf_42 rfl 2 rfl ?_
    refine r_iald X fX_9 dX0_pullOf_43 h (fun h => ?_)
    refine r_iconst (v := 2) X dX0_pullOf_44 (by decide) ?_
    refine r_idiv0 X dX0_pullOf_45 (by decide) ?_
    refine r_isub X dX0_pullOf_46 ?_
    exact r_iretz X rfl dX0_pullOf_47 h
  · have h := hB q6_0
    obtain ⟨hA, hB⟩ := ite_of h
    by_cases q6_1 : (σ 6 (a2).toNatClampNeg) = 1
    · have h := hA q6_1
      refine r_lookup X 48 dX0_pullOf_6 (by decide) (show Op.lookupswitch.offset [(0, 26), (1, 42)] 56 _ = 42 from by rw [q6_1]; rfl) (by decide) ?_
      refine r_aload_n X dX0_pullOf_48 rfl 0 rfl ?_
      refine r_getR (c1 := (c0 + 2)) X fg_X0_15_X0 hc0.1 rfl dX0_pullOf_49 ?_
      refine r_iload_n X dX0_pullOf_52 rfl 2 rfl ?_
      refine r_iald X hc0.2.2.1 dX0_pullOf_53 h (fun h => ?_)
      refine r_aload_n X dX0_pullOf_54 rfl 1 rfl ?_
      refine r_getR (c1 := 9) X fg_X0_109_X2 fX_5 rfl dX0_pullOf_55 ?_
      refine r_iload_n X dX0_pullOf_58 rfl 2 rfl ?_
      refine r_iald X fX_9 dX0_pullOf_59 h (fun h => ?_)
      refine r_isub X dX0_pullOf_60 ?_
      exact r_iretz X rfl dX0_pullOf_61 h
    · have h := hB q6_1
      refine r_lookup X 62 dX0_pullOf_6 (by decide) (show Op.lookupswitch.offset [(0, 26), (1, 42)] 56 _ = 56 from by rw [lv_osw q6_0 (k := 0) (by decide), lv_osw q6_1 (k := 1) (by decide)]; rfl) (by decide) ?_
      refine r_aload_n X dX0_pullOf_62 rfl 0 rfl ?_
      refine r_getR (c1 := (c0 + 3)) X fg_X0_18_X0 hc0.1 rfl dX0_pullOf_63 ?_
      refine r_iload_n X dX0_pullOf_66 rfl 2 rfl ?_
      refine r_iald X hc0.2.2.2.1 dX0_pullOf_67 h (fun h => ?_)
      exact r_iretz X rfl dX0_pullOf_68 h
set_option maxRecDepth 100000 in
set_option maxHeartbeats 4000000 in
theorem t_X0_strongestIn_b116 {M : am_M} {D : va_G} {cT : Nat → ClassId} {ad : Nat → Nat} (X : am_X M (D, cT, ad, NX, LX) cX0_strongestIn RX0 8 (some .int)) {c0 : Nat} (hc0 : Is_X0 c0) {z : Int32 × Sg} {k8 : Sg → Int32 → Int32 → Int32 → Int32 → Option (Int32 × Sg)} (hk8 : ∀ (σ : Sg) (x2 : Int32) (x3 : Int32) (x4 : Int32) (x5 : Int32), k8 σ x2 x3 x4 x5 = some z → am_At M { frames := 1, cells := 0, slots := 0, locals := 22 } (D, cT, ad, NX, LX) (amQi M (D, cT, ad, NX, LX) z) 8 8 [(0, .ref (ad c0)), (1, .ref (ad 5)), (2, .int x2), (3, .int x3), (4, .int x4), (5, .int x5)] [] σ) (σ : Sg) (x2 : Int32) (x3 : Int32) (x4 : Int32) (x5 : Int32) (h : f_X0_strongestIn_b116 c0 k8 σ x2 x3 x4 x5 = some z) : am_At M { frames := 1, cells := 0, slots := 0, locals := 22 } (D, cT, ad, NX, LX) (amQi M (D, cT, ad, NX, LX) z) 8 116 [(0, .ref (ad c0)), (1, .ref (ad 5)), (2, .int x2), (3, .int x3), (4, .int x4), (5, .int x5)] [] σ := by
  unfold f_X0_strongestIn_b116 at h
  refine r_iinc X [(5, .int (x5 + (1 : Int32))), (0, .ref (ad c0)), (1, .ref (ad 5)), (2, .int x2), (3, .int x3), (4, .int x4)] dX0_strongestIn_116 5 rfl (v := x5 + (1 : Int32)) (by rfl) (by decide) rfl ?_
  refine r_letv h (fun v1 h => ?_)
  refine r_goto X 8 dX0_strongestIn_119 (by decide) ?_
  refine r_sub (lv' := [(0, .ref (ad c0)), (1, .ref (ad 5)), (2, .int x2), (3, .int x3), (4, .int x4), (5, .int v1)]) [1, 2, 3, 4, 5, 0] rfl ?_
  exact hk8 σ x2 x3 x4 v1 h
set_option maxRecDepth 100000 in
set_option maxHeartbeats 4000000 in
theorem t_X0_strongestIn_b102 {M : am_M} {D : va_G} {cT : Nat → ClassId} {ad : Nat → Nat} (X : am_X M (D, cT, ad, NX, LX) cX0_strongestIn RX0 8 (some .int)) {c0 : Nat} (hc0 : Is_X0 c0) {z : Int32 × Sg} {k8 : Sg → Int32 → Int32 → Int32 → Int32 → Option (Int32 × Sg)} (hk8 : ∀ (σ : Sg) (x2 : Int32) (x3 : Int32) (x4 : Int32) (x5 : Int32), k8 σ x2 x3 x4 x5 = some z → am_At M { frames := 1, cells := 0, slots := 0, locals := 22 } (D, cT, ad, NX, LX) (amQi M (D, cT, ad, NX, LX) z) 8 8 [(0, .ref (ad c0)), (1, .ref (ad 5)), (2, .int x2), (3, .int x3), (4, .int x4), (5, .int x5)] [] σ) (σ : Sg) (x2 : Int32) (x3 : Int32) (x4 : Int32) (x5 : Int32) (x6 : Int32) (s0 : Int32) (h : f_X0_strongestIn_b102 c0 k8 σ x2 x3 x4 x5 x6 s0 = some z) : am_At M { frames := 1, cells := 0, slots := 0, locals := 22 } (D, cT, ad, NX, LX) (amQi M (D, cT, ad, NX, LX) z) 8 102 [(0, .ref (ad c0)), (1, .ref (ad 5)), (2, .int x2), (3, .int x3), (4, .int x4), (5, .int x5), (6, .int x6)] [.int s0] σ := by
  unfold f_X0_strongestIn_b102 at h
  refine r_istore X [(7, .int s0), (0, .ref (ad c0)), (1, .ref (ad 5)), (2, .int x2), (3, .int x3), (4, .int x4), (5, .int x5), (6, .int x6)] dX0_strongestIn_102 (by decide) rfl ?_
  refine r_iload X dX0_strongestIn_104 0 rfl ?_
  refine r_if_eq X 116 dX0_strongestIn_106 (by decide) h (fun h => ?_) (fun h => ?_)
  · refine r_sub (lv' := [(0, .ref (ad c0)), (1, .ref (ad 5)), (2, .int x2), (3, .int x3), (4, .int x4), (5, .int x5)]) [1, 2, 3, 4, 5, 6] rfl ?_
    exact t_X0_strongestIn_b116 X hc0 hk8 σ x2 x3 x4 x5 h
  · refine r_iload X dX0_strongestIn_109 7 rfl ?_
    refine r_istore X [(4, .int x6), (7, .int s0), (0, .ref (ad c0)), (1, .ref (ad 5)), (2, .int x2), (3, .int x3), (5, .int x5), (6, .int x6)] dX0_strongestIn_111 (by decide) rfl ?_
    refine r_iload X dX0_strongestIn_113 6 rfl ?_
    refine r_istore_n X [(3, .int x5), (4, .int x6), (7, .int s0), (0, .ref (ad c0)), (1, .ref (ad 5)), (2, .int x2), (5, .int x5), (6, .int x6)] dX0_strongestIn_115 rfl (by decide) rfl ?_
    refine r_sub (lv' := [(0, .ref (ad c0)), (1, .ref (ad 5)), (2, .int x2), (3, .int x5), (4, .int x6), (5, .int x5)]) [3, 4, 5, 0, 1, 6] rfl ?_
    exact t_X0_strongestIn_b116 X hc0 hk8 σ x2 x5 x6 x5 h
set_option maxRecDepth 100000 in
set_option maxHeartbeats 4000000 in
theorem t_X0_strongestIn_b97 {M : am_M} {D : va_G} {cT : Nat → ClassId} {ad : Nat → Nat} (X : am_X M (D, cT, ad, NX, LX) cX0_strongestIn RX0 8 (some .int)) {c0 : Nat} (hc0 : Is_X0 c0) {z : Int32 × Sg} {k8 : Sg → Int32 → Int32 → Int32 → Int32 → Option (Int32 × Sg)} (hk8 : ∀ (σ : Sg) (x2 : Int32) (x3 : Int32) (x4 : Int32) (x5 : Int32), k8 σ x2 x3 x4 x5 = some z → am_At M { frames := 1, cells := 0, slots := 0, locals := 22 } (D, cT, ad, NX, LX) (amQi M (D, cT, ad, NX, LX) z) 8 8 [(0, .ref (ad c0)), (1, .ref (ad 5)), (2, .int x2), (3, .int x3), (4, .int x4), (5, .int x5)] [] σ) (σ : Sg) (x2 : Int32) (x3 : Int32) (x4 : Int32) (x5 : Int32) (x6 : Int32) (h : f_X0_strongestIn_b97 c0 k8 σ x2 x3 x4 x5 x6 = some z) : am_At M { frames := 1, cells := 0, slots := 0, locals := 22 } (D, cT, ad, NX, LX) (amQi M (D, cT, ad, NX, LX) z) 8 97 [(0, .ref (ad c0)), (1, .ref (ad 5)), (2, .int x2), (3, .int x3), (4, .int x4), (5, .int x5), (6, .int x6)] [] σ := by
  unfold f_X0_strongestIn_b97 at h
  refine r_iconst (v := 1) X dX0_strongestIn_97 (by decide) ?_
  refine r_goto X 102 dX0_strongestIn_98 (by decide) ?_
  exact t_X0_strongestIn_b102 X hc0 hk8 σ x2 x3 x4 x5 x6 (1 : Int32) h
set_option maxRecDepth 100000 in
set_option maxHeartbeats 4000000 in
theorem t_X0_strongestIn_b101 {M : am_M} {D : va_G} {cT : Nat → ClassId} {ad : Nat → Nat} (X : am_X M (D, cT, ad, NX, LX) cX0_strongestIn RX0 8 (some .int)) {c0 : Nat} (hc0 : Is_X0 c0) {z : Int32 × Sg} {k8 : Sg → Int32 → Int32 → Int32 → Int32 → Option (Int32 × Sg)} (hk8 : ∀ (σ : Sg) (x2 : Int32) (x3 : Int32) (x4 : Int32) (x5 : Int32), k8 σ x2 x3 x4 x5 = some z → am_At M { frames := 1, cells := 0, slots := 0, locals := 22 } (D, cT, ad, NX, LX) (amQi M (D, cT, ad, NX, LX) z) 8 8 [(0, .ref (ad c0)), (1, .ref (ad 5)), (2, .int x2), (3, .int x3), (4, .int x4), (5, .int x5)] [] σ) (σ : Sg) (x2 : Int32) (x3 : Int32) (x4 : Int32) (x5 : Int32) (x6 : Int32) (h : f_X0_strongestIn_b101 c0 k8 σ x2 x3 x4 x5 x6 = some z) : am_At M { frames := 1, cells := 0, slots := 0, locals := 22 } (D, cT, ad, NX, LX) (amQi M (D, cT, ad, NX, LX) z) 8 101 [(0, .ref (ad c0)), (1, .ref (ad 5)), (2, .int x2), (3, .int x3), (4, .int x4), (5, .int x5), (6, .int x6)] [] σ := by
  unfold f_X0_strongestIn_b101 at h
  refine r_iconst (v := 0) X dX0_strongestIn_101 (by decide) ?_
  exact t_X0_strongestIn_b102 X hc0 hk8 σ x2 x3 x4 x5 x6 (0 : Int32) h
set_option maxRecDepth 100000 in
set_option maxHeartbeats 4000000 in
theorem t_X0_strongestIn_b8 {M : am_M} {D : va_G} {cT : Nat → ClassId} {ad : Nat → Nat} (X : am_X M (D, cT, ad, NX, LX) cX0_strongestIn RX0 8 (some .int)) {c0 : Nat} (hc0 : Is_X0 c0) {z : Int32 × Sg} {k8 : Sg → Int32 → Int32 → Int32 → Int32 → Option (Int32 × Sg)} (hk8 : ∀ (σ : Sg) (x2 : Int32) (x3 : Int32) (x4 : Int32) (x5 : Int32), k8 σ x2 x3 x4 x5 = some z → am_At M { frames := 1, cells := 0, slots := 0, locals := 22 } (D, cT, ad, NX, LX) (amQi M (D, cT, ad, NX, LX) z) 8 8 [(0, .ref (ad c0)), (1, .ref (ad 5)), (2, .int x2), (3, .int x3), (4, .int x4), (5, .int x5)] [] σ) (σ : Sg) (x2 : Int32) (x3 : Int32) (x4 : Int32) (x5 : Int32) (h : f_X0_strongestIn_b8 c0 k8 σ x2 x3 x4 x5 = some z) : am_At M { frames := 1, cells := 0, slots := 0, locals := 22 } (D, cT, ad, NX, LX) (amQi M (D, cT, ad, NX, LX) z) 8 8 [(0, .ref (ad c0)), (1, .ref (ad 5)), (2, .int x2), (3, .int x3), (4, .int x4), (5, .int x5)] [] σ := by
  unfold f_X0_strongestIn_b8 at h
  refine r_iload X dX0_strongestIn_8 5 rfl ?_
  refine r_aload_n X dX0_strongestIn_10 rfl 1 rfl ?_
  refine r_getI X fg_X0_83_X2 fX_5 rfl dX0_strongestIn_11 ?_
  refine r_icmp_ge X 122 dX0_strongestIn_14 (by decide) h (fun h => ?_) (fun h => ?_)
  · refine r_iload_n X dX0_strongestIn_122 rfl 3 rfl ?_
    exact r_iretz X rfl dX0_strongestIn_123 h
  · refine r_aload_n X dX0_strongestIn_17 rfl 1 rfl ?_
    refine r_getR (c1 := 8) X fg_X0_86_X2 fX_5 rfl dX0_strongestIn_18 ?_
    refine r_iload X dX0_strongestIn_21 5 rfl ?_
    refine r_iald X fX_8 dX0_strongestIn_23 h (fun h => ?_)
    refine r_iload_n X dX0_strongestIn_24 rfl 2 rfl ?_
    refine r_icmp_ne X 116 dX0_strongestIn_25 (by decide) h (fun h => ?_) (fun h => ?_)
    · refine r_aload_n X dX0_strongestIn_28 rfl 0 rfl ?_
      refine r_getI X fg_X0_37_X0 hc0.1 rfl dX0_strongestIn_29 ?_
      refine r_iload X dX0_strongestIn_32 5 rfl ?_
      refine r_ishr X dX0_strongestIn_34 ?_
      refine r_iconst (v := 1) X dX0_strongestIn_35 (by decide) ?_
      refine r_iand X dX0_strongestIn_36 ?_
      refine r_if_ne X 116 dX0_strongestIn_37 (by decide) h (fun h => ?_) (fun h => ?_)
      · refine r_aload_n X dX0_strongestIn_40 rfl 0 rfl ?_
        refine r_aload_n X dX0_strongestIn_41 rfl 1 rfl ?_
        refine r_iload X dX0_strongestIn_42 5 rfl ?_
        obtain ⟨r1, σ2, hc_3, h⟩ := bnd_of h
        refine r_callV (As := [.ref (ad 5), .int x5]) (rest := []) (st2 := [.int r1]) (c := c0) X cv_X0_100 (c_X0_pullOf M.2.1 hc0 hc_3) rfl (ci := 0) rfl hc0.1 rfl rfl (Nat.le_of_ble_eq_true rfl) ⟨⟨rfl, rfl⟩, by decide, by decide⟩ dX0_strongestIn_44 ⟨rfl, rfl⟩ rfl ?_
        refine r_istore X [(6, .int r1), (0, .ref (ad c0)), (1, .ref (ad 5)), (2, .int x2), (3, .int x3), (4, .int x4), (5, .int x5)] dX0_strongestIn_47 (by decide) rfl ?_
        refine r_iload_n X dX0_strongestIn_49 rfl 4 rfl ?_
        refine r_iconst (v := -1) X dX0_strongestIn_50 (by decide) ?_
        refine r_icmp_ne X 67 dX0_strongestIn_51 (by decide) h (fun h => ?_) (fun h => ?_)
        · refine r_iload X dX0_strongestIn_54 0 rfl ?_
          refine r_if_lt X 63 dX0_strongestIn_56 (by decide) h (fun h => ?_) (fun h => ?_)
          · refine r_iconst (v := 0) X dX0_strongestIn_63 (by decide) ?_
            refine r_goto X 102 dX0_strongestIn_64 (by decide) ?_
            refine r_sub (lv' := [(0, .ref (ad c0)), (1, .ref (ad 5)), (2, .int x2), (3, .int x3), (4, .int x4), (5, .int x5), (6, .int r1)]) [1, 2, 3, 4, 5, 6, 0] rfl ?_
            exact t_X0_strongestIn_b102 X hc0 hk8 σ2 x2 x3 x4 x5 r1 (0 : Int32) h
          · refine r_iconst (v := 1) X dX0_strongestIn_59 (by decide) ?_
            refine r_goto X 102 dX0_strongestIn_60 (by decide) ?_
            refine r_sub (lv' := [(0, .ref (ad c0)), (1, .ref (ad 5)), (2, .int x2), (3, .int x3), (4, .int x4), (5, .int x5), (6, .int r1)]) [1, 2, 3, 4, 5, 6, 0] rfl ?_
            exact t_X0_strongestIn_b102 X hc0 hk8 σ2 x2 x3 x4 x5 r1 (1 : Int32) h
        · refine r_iload X dX0_strongestIn_67 0 rfl ?_
          refine r_iload X dX0_strongestIn_69 5 rfl ?_
          refine r_icmp_gt X 97 dX0_strongestIn_71 (by decide) h (fun h => ?_) (fun h => ?_)
          · refine r_sub (lv' := [(0, .ref (ad c0)), (1, .ref (ad 5)), (2, .int x2), (3, .int x3), (4, .int x4), (5, .int x5), (6, .int r1)]) [1, 2, 3, 4, 5, 6, 0] rfl ?_
            exact t_X0_strongestIn_b97 X hc0 hk8 σ2 x2 x3 x4 x5 r1 h
          · refine r_iload X dX0_strongestIn_74 0 rfl ?_
            refine r_iload X dX0_strongestIn_76 5 rfl ?_
            refine r_icmp_ne X 101 dX0_strongestIn_78 (by decide) h (fun h => ?_) (fun h => ?_)
            · refine r_aload_n X dX0_strongestIn_81 rfl 2 rfl ?_
              refine r_getR (c1 := 7) X fg_X0_103_X2 fX_5 rfl dX0_strongestIn_82 ?_
              refine r_iload X dX0_strongestIn_85 6 rfl ?_
              refine r_iald X fX_7 dX0_strongestIn_87 h (fun h => ?_)
              refine r_aload_n X dX0_strongestIn_88 rfl 2 rfl ?_
              refine r_getR (c1 := 7) X fg_X0_103_X2 fX_5 rfl dX0_strongestIn_89 ?_
              refine r_iload_n X dX0_strongestIn_92 rfl 4 rfl ?_
              refine r_iald X fX_7 dX0_strongestIn_93 h (fun h => ?_)
              refine r_icmp_ge X 101 dX0_strongestIn_94 (by decide) h (fun h => ?_) (fun h => ?_)
              · refine r_sub (lv' := [(0, .ref (ad c0)), (1, .ref (ad 5)), (2, .int x2), (3, .int x3), (4, .int x4), (5, .int x5), (6, .int r1)]) [1, 2, 3, 4, 5, 6, 0] rfl ?_
                exact t_X0_strongestIn_b101 X hc0 hk8 σ2 x2 x3 x4 x5 r1 h
              · refine r_sub (lv' := [(0, .ref (ad c0)), (1, .ref (ad 5)), (2, .int x2), (3, .int x3), (4, .int x4), (5, .int x5), (6, .int r1)]) [1, 2, 3, 4, 5, 6, 0] rfl ?_
                exact t_X0_strongestIn_b97 X hc0 hk8 σ2 x2 x3 x4 x5 r1 h
            · refine r_sub (lv' := [(0, .ref (ad c0)), (1, .ref (ad 5)), (2, .int x2), (3, .int x3), (4, .int x4), (5, .int x5), (6, .int r1)]) [1, 2, 3, 4, 5, 6, 0] rfl ?_
              exact t_X0_strongestIn_b101 X hc0 hk8 σ2 x2 x3 x4 x5 r1 h
      · exact t_X0_strongestIn_b116 X hc0 hk8 σ x2 x3 x4 x5 h
    · exact t_X0_strongestIn_b116 X hc0 hk8 σ x2 x3 x4 x5 h
theorem t_X0_strongestIn_l8 {M : am_M} {D : va_G} {cT : Nat → ClassId} {ad : Nat → Nat} (X : am_X M (D, cT, ad, NX, LX) cX0_strongestIn RX0 8 (some .int)) {c0 : Nat} (hc0 : Is_X0 c0) {z : Int32 × Sg} (n : Nat) : ∀ (σ : Sg) (x2 : Int32) (x3 : Int32) (x4 : Int32) (x5 : Int32), f_X0_strongestIn_l8 c0 n σ x2 x3 x4 x5 = some z → am_At M { frames := 1, cells := 0, slots := 0, locals := 22 } (D, cT, ad, NX, LX) (amQi M (D, cT, ad, NX, LX) z) 8 8 [(0, .ref (ad c0)), (1, .ref (ad 5)), (2, .int x2), (3, .int x3), (4, .int x4), (5, .int x5)] [] σ := by
  induction n with
  | zero =>
    intro σ x2 x3 x4 x5 h
    have h2 : (none : Option (Int32 × Sg)) = some z := h
    cases h2
  | succ n ih =>
    intro σ x2 x3 x4 x5 h
    exact t_X0_strongestIn_b8 X hc0 (k8 := f_X0_strongestIn_l8 c0 n) ih σ x2 x3 x4 x5 h
set_option maxRecDepth 100000 in
set_option maxHeartbeats 4000000 in
theorem c_X0_strongestIn (l : Launch) {c0 : Nat} (hc0 : Is_X0 c0) {σ : Sg} {a2 : Int32} {z : Int32 × Sg} (h : f_X0_strongestIn c0 σ a2 = some z) : am_Met l yX0_strongestIn cX0_strongestIn 8 (some .int) { frames := 1, cells := 0, slots := 0, locals := 22 } NX LX (fun ad => [.ref (ad c0), .ref (ad 5), .int a2]) σ z.2 (fun _ => some (.int z.1)) := by
  refine am_enter (by decide +kernel) (fun ad => Nat.le_of_ble_eq_true rfl) (fun M D cT ad hl X => ?_)
  subst hl
  refine r_lv (lv' := [(0, .ref (ad c0)), (1, .ref (ad 5)), (2, .int a2)]) rfl ?_
  unfold f_X0_strongestIn at h
  refine r_iconst (v := -1) X dX0_strongestIn_0 (by decide) ?_
  refine r_istore_n X [(3, .int (-1 : Int32)), (0, .ref (ad c0)), (1, .ref (ad 5)), (2, .int a2)] dX0_strongestIn_1 rfl (by decide) rfl ?_
  refine r_iconst (v := 0) X dX0_strongestIn_2 (by decide) ?_
  refine r_istore X [(4, .int (0 : Int32)), (3, .int (-1 : Int32)), (0, .ref (ad c0)), (1, .ref (ad 5)), (2, .int a2)] dX0_strongestIn_3 (by decide) rfl ?_
  refine r_iconst (v := 0) X dX0_strongestIn_5 (by decide) ?_
  refine r_istore X [(5, .int (0 : Int32)), (4, .int (0 : Int32)), (3, .int (-1 : Int32)), (0, .ref (ad c0)), (1, .ref (ad 5)), (2, .int a2)] dX0_strongestIn_6 (by decide) rfl ?_
  refine r_sub (lv' := [(0, .ref (ad c0)), (1, .ref (ad 5)), (2, .int a2), (3, .int (-1 : Int32)), (4, .int (0 : Int32)), (5, .int (0 : Int32))]) [3, 4, 5, 2, 1, 0] rfl ?_
  exact t_X0_strongestIn_l8 X hc0 300 σ a2 (-1 : Int32) (0 : Int32) (0 : Int32) h
set_option maxRecDepth 100000 in
set_option maxHeartbeats 4000000 in
theorem t_X0_bringUp_b142 {M : am_M} {D : va_G} {cT : Nat → ClassId} {ad : Nat → Nat} (X : am_X M (D, cT, ad, NX, LX) cX0_bringUp RX0 5 none) {c0 : Nat} (hc0 : Is_X0 c0) {z : Unit × Sg} {k92 : Sg → Int32 → Int32 → Int32 → Option (Unit × Sg)} (hk92 : ∀ (σ : Sg) (x1 : Int32) (x3 : Int32) (x4 : Int32), k92 σ x1 x3 x4 = some z → am_At M { frames := 0, cells := 0, slots := 0, locals := 0 } (D, cT, ad, NX, LX) (amQv M (D, cT, ad, NX, LX) z) 5 92 [(0, .ref (ad c0)), (1, .int x1), (2, .ref (ad 10)), (3, .int x3), (4, .int x4)] [] σ) (σ : Sg) (x1 : Int32) (x3 : Int32) (x4 : Int32) (h : f_X0_bringUp_b142 c0 k92 σ x1 x3 x4 = some z) : am_At M { frames := 0, cells := 0, slots := 0, locals := 0 } (D, cT, ad, NX, LX) (amQv M (D, cT, ad, NX, LX) z) 5 142 [(0, .ref (ad c0)), (1, .int x1), (2, .ref (ad 10)), (3, .int x3), (4, .int x4)] [] σ := by
  unfold f_X0_bringUp_b142 at h
  refine r_iinc X [(4, .int (x4 + (1 : Int32))), (0, .ref (ad c0)), (1, .int x1), (2, .ref (ad 10)), (3, .int x3)] dX0_bringUp_142 4 rfl (v := x4 + (1 : Int32)) (by rfl) (by decide) rfl ?_
  refine r_letv h (fun v1 h => ?_)
  refine r_goto X 92 dX0_bringUp_145 (by decide) ?_
  refine r_sub (lv' := [(0, .ref (ad c0)), (1, .int x1), (2, .ref (ad 10)), (3, .int x3), (4, .int v1)]) [1, 2, 3, 4, 0] rfl ?_
  exact hk92 σ x1 x3 v1 h
set_option maxRecDepth 100000 in
set_option maxHeartbeats 4000000 in
theorem t_X0_bringUp_b92 {M : am_M} {D : va_G} {cT : Nat → ClassId} {ad : Nat → Nat} (X : am_X M (D, cT, ad, NX, LX) cX0_bringUp RX0 5 none) {c0 : Nat} (hc0 : Is_X0 c0) {z : Unit × Sg} {k92 : Sg → Int32 → Int32 → Int32 → Option (Unit × Sg)} (hk92 : ∀ (σ : Sg) (x1 : Int32) (x3 : Int32) (x4 : Int32), k92 σ x1 x3 x4 = some z → am_At M { frames := 0, cells := 0, slots := 0, locals := 0 } (D, cT, ad, NX, LX) (amQv M (D, cT, ad, NX, LX) z) 5 92 [(0, .ref (ad c0)), (1, .int x1), (2, .ref (ad 10)), (3, .int x3), (4, .int x4)] [] σ) (σ : Sg) (x1 : Int32) (x3 : Int32) (x4 : Int32) (h : f_X0_bringUp_b92 c0 k92 σ x1 x3 x4 = some z) : am_At M { frames := 0, cells := 0, slots := 0, locals := 0 } (D, cT, ad, NX, LX) (amQv M (D, cT, ad, NX, LX) z) 5 92 [(0, .ref (ad c0)), (1, .int x1), (2, .ref (ad 10)), (3, .int x3), (4, .int x4)] [] σ := by
  unfold f_X0_bringUp_b92 at h
  refine r_iload X dX0_bringUp_92 4 rfl ?_
  refine r_aload_n X dX0_bringUp_94 rfl 2 rfl ?_
  refine r_getI X fg_X0_89_X4 fX_10 rfl dX0_bringUp_95 ?_
  refine r_icmp_ge X 148 dX0_bringUp_98 (by decide) h (fun h => ?_) (fun h => ?_)
  · exact r_vretz X rfl dX0_bringUp_148 h
  · refine r_aload_n X dX0_bringUp_101 rfl 2 rfl ?_
    refine r_getR (c1 := 11) X fg_X0_93_X4 fX_10 rfl dX0_bringUp_102 ?_
    refine r_iload X dX0_bringUp_105 4 rfl ?_
    refine r_iald X fX_11 dX0_bringUp_107 h (fun h => ?_)
    refine r_iload_n X dX0_bringUp_108 rfl 1 rfl ?_
    refine r_icmp_ne X 142 dX0_bringUp_109 (by decide) h (fun h => ?_) (fun h => ?_)
    · refine r_aload_n X dX0_bringUp_112 rfl 0 rfl ?_
      refine r_getR (c1 := (c0 + 1)) X fg_X0_9_X0 hc0.1 rfl dX0_bringUp_113 ?_
      refine r_iload X dX0_bringUp_116 4 rfl ?_
      refine r_iald X hc0.2.1 dX0_bringUp_118 h (fun h => ?_)
      refine r_iconst (v := -1) X dX0_bringUp_119 (by decide) ?_
      refine r_icmp_ne X 142 dX0_bringUp_120 (by decide) h (fun h => ?_) (fun h => ?_)
      · refine r_aload_n X dX0_bringUp_123 rfl 2 rfl ?_
        refine r_getR (c1 := 12) X fg_X0_92_X4 fX_10 rfl dX0_bringUp_124 ?_
        refine r_iload X dX0_bringUp_127 4 rfl ?_
        refine r_iald X fX_12 dX0_bringUp_129 h (fun h => ?_)
        refine r_iload_n X dX0_bringUp_130 rfl 3 rfl ?_
        refine r_icmp_gt X 142 dX0_bringUp_131 (by decide) h (fun h => ?_) (fun h => ?_)
        · exact t_X0_bringUp_b142 X hc0 hk92 σ x1 x3 x4 h
        · refine r_aload_n X dX0_bringUp_134 rfl 0 rfl ?_
          refine r_getR (c1 := (c0 + 1)) X fg_X0_9_X0 hc0.1 rfl dX0_bringUp_135 ?_
          refine r_iload X dX0_bringUp_138 4 rfl ?_
          refine r_iload_n X dX0_bringUp_140 rfl 3 rfl ?_
          refine r_iast X hc0.2.1 dX0_bringUp_141 h (fun σ1 h => ?_)
          exact t_X0_bringUp_b142 X hc0 hk92 σ1 x1 x3 x4 h
      · exact t_X0_bringUp_b142 X hc0 hk92 σ x1 x3 x4 h
    · exact t_X0_bringUp_b142 X hc0 hk92 σ x1 x3 x4 h
theorem t_X0_bringUp_l92 {M : am_M} {D : va_G} {cT : Nat → ClassId} {ad : Nat → Nat} (X : am_X M (D, cT, ad, NX, LX) cX0_bringUp RX0 5 none) {c0 : Nat} (hc0 : Is_X0 c0) {z : Unit × Sg} (n : Nat) : ∀ (σ : Sg) (x1 : Int32) (x3 : Int32) (x4 : Int32), f_X0_bringUp_l92 c0 n σ x1 x3 x4 = some z → am_At M { frames := 0, cells := 0, slots := 0, locals := 0 } (D, cT, ad, NX, LX) (amQv M (D, cT, ad, NX, LX) z) 5 92 [(0, .ref (ad c0)), (1, .int x1), (2, .ref (ad 10)), (3, .int x3), (4, .int x4)] [] σ := by
  induction n with
  | zero =>
    intro σ x1 x3 x4 h
    have h2 : (none : Option (Unit × Sg)) = some z := h
    cases h2
  | succ n ih =>
    intro σ x1 x3 x4 h
    exact t_X0_bringUp_b92 X hc0 (k92 := f_X0_bringUp_l92 c0 n) ih σ x1 x3 x4 h
set_option maxRecDepth 100000 in
set_option maxHeartbeats 4000000 in
theorem t_X0_bringUp_b89 {M : am_M} {D : va_G} {cT : Nat → ClassId} {ad : Nat → Nat} (X : am_X M (D, cT, ad, NX, LX) cX0_bringUp RX0 5 none) {c0 : Nat} (hc0 : Is_X0 c0) {z : Unit × Sg} (σ : Sg) (x1 : Int32) (x3 : Int32) (h : f_X0_bringUp_b89 c0 σ x1 x3 = some z) : am_At M { frames := 0, cells := 0, slots := 0, locals := 0 } (D, cT, ad, NX, LX) (amQv M (D, cT, ad, NX, LX) z) 5 89 [(0, .ref (ad c0)), (1, .int x1), (2, .ref (ad 10)), (3, .int x3)] [] σ := by
  unfold f_X0_bringUp_b89 at h
  refine r_iconst (v := 0) X dX0_bringUp_89 (by decide) ?_
  refine r_istore X [(4, .int (0 : Int32)), (0, .ref (ad c0)), (1, .int x1), (2, .ref (ad 10)), (3, .int x3)] dX0_bringUp_90 (by decide) rfl ?_
  refine r_sub (lv' := [(0, .ref (ad c0)), (1, .int x1), (2, .ref (ad 10)), (3, .int x3), (4, .int (0 : Int32))]) [1, 2, 3, 4, 0] rfl ?_
  exact t_X0_bringUp_l92 X hc0 300 σ x1 x3 (0 : Int32) h
set_option maxRecDepth 100000 in
set_option maxHeartbeats 4000000 in
theorem c_X0_bringUp (l : Launch) {c0 : Nat} (hc0 : Is_X0 c0) {σ : Sg} {a1 : Int32} {a3 : Int32} {z : Unit × Sg} (h : f_X0_bringUp c0 σ a1 a3 = some z) : am_Met l yX0_bringUp cX0_bringUp 5 none { frames := 0, cells := 0, slots := 0, locals := 0 } NX LX (fun ad => [.ref (ad c0), .int a1, .ref (ad 10), .int a3]) σ z.2 (fun _ => none) := by
  refine am_enter (by decide +kernel) (fun ad => Nat.le_of_ble_eq_true rfl) (fun M D cT ad hl X => ?_)
  subst hl
  refine r_lv (lv' := [(0, .ref (ad c0)), (1, .int a1), (2, .ref (ad 10)), (3, .int a3)]) rfl ?_
  unfold f_X0_bringUp at h
  refine r_iload_n X dX0_bringUp_0 rfl 1 rfl ?_
  refine r_iconst (v := -1) X dX0_bringUp_1 (by decide) ?_
  refine r_icmp_eq X 17 dX0_bringUp_2 (by decide) h (fun h => ?_) (fun h => ?_)
  · exact r_vretz X rfl dX0_bringUp_17 h
  · refine r_aload_n X dX0_bringUp_5 rfl 0 rfl ?_
    refine r_getI X fg_X0_30_X0 hc0.1 rfl dX0_bringUp_6 ?_
    refine r_aload_n X dX0_bringUp_9 rfl 0 rfl ?_
    refine r_getR (c1 := (c0 + 6)) X fg_X0_27_X0 hc0.1 rfl dX0_bringUp_10 ?_
    refine r_alen (v := 9) X hc0.2.2.2.2.2.2 (by rfl) dX0_bringUp_13 ?_
    refine r_icmp_lt X 18 dX0_bringUp_14 (by decide) h (fun h => ?_) (fun h => ?_)
    · refine r_aload_n X dX0_bringUp_18 rfl 0 rfl ?_
      refine r_dup X dX0_bringUp_19 rfl ?_
      refine r_getI X fg_X0_37_X0 hc0.1 rfl dX0_bringUp_20 ?_
      refine r_iconst (v := 1) X dX0_bringUp_23 (by decide) ?_
      refine r_iload_n X dX0_bringUp_24 rfl 1 rfl ?_
      refine r_ishl X dX0_bringUp_25 ?_
      refine r_ior X dX0_bringUp_26 ?_
      refine r_putI X fp_X0_37_X0 hc0.1 rfl dX0_bringUp_27 h (fun σ1 h => ?_)
      refine r_aload_n X dX0_bringUp_30 rfl 0 rfl ?_
      refine r_getR (c1 := (c0 + 3)) X fg_X0_18_X0 hc0.1 rfl dX0_bringUp_31 ?_
      refine r_iload_n X dX0_bringUp_34 rfl 1 rfl ?_
      refine r_dup2 X dX0_bringUp_35 rfl rfl ?_
      refine r_iald X hc0.2.2.2.1 dX0_bringUp_36 h (fun h => ?_)
      refine r_iconst (v := 1) X dX0_bringUp_37 (by decide) ?_
      refine r_iadd X dX0_bringUp_38 ?_
      refine r_iast X hc0.2.2.2.1 dX0_bringUp_39 h (fun σ2 h => ?_)
      refine r_aload_n X dX0_bringUp_40 rfl 0 rfl ?_
      refine r_getR (c1 := (c0 + 5)) X fg_X0_24_X0 hc0.1 rfl dX0_bringUp_41 ?_
      refine r_aload_n X dX0_bringUp_44 rfl 0 rfl ?_
      refine r_getI X fg_X0_30_X0 hc0.1 rfl dX0_bringUp_45 ?_
      refine r_iload_n X dX0_bringUp_48 rfl 3 rfl ?_
      refine r_iast X hc0.2.2.2.2.2.1 dX0_bringUp_49 h (fun σ3 h => ?_)
      refine r_aload_n X dX0_bringUp_50 rfl 0 rfl ?_
      refine r_getR (c1 := (c0 + 6)) X fg_X0_27_X0 hc0.1 rfl dX0_bringUp_51 ?_
      refine r_aload_n X dX0_bringUp_54 rfl 0 rfl ?_
      refine r_getI X fg_X0_30_X0 hc0.1 rfl dX0_bringUp_55 ?_
      refine r_iload_n X dX0_bringUp_58 rfl 1 rfl ?_
      refine r_iast X hc0.2.2.2.2.2.2 dX0_bringUp_59 h (fun σ4 h => ?_)
      refine r_aload_n X dX0_bringUp_60 rfl 0 rfl ?_
      refine r_dup X dX0_bringUp_61 rfl ?_
      refine r_getI X fg_X0_30_X0 hc0.1 rfl dX0_bringUp_62 ?_
      refine r_iconst (v := 1) X dX0_bringUp_65 (by decide) ?_
      refine r_iadd X dX0_bringUp_66 ?_
      refine r_putI X fp_X0_30_X0 hc0.1 rfl dX0_bringUp_67 h (fun σ5 h => ?_)
      refine r_aload_n X dX0_bringUp_70 rfl 0 rfl ?_
      refine r_getR (c1 := (c0 + 2)) X fg_X0_15_X0 hc0.1 rfl dX0_bringUp_71 ?_
      refine r_iload_n X dX0_bringUp_74 rfl 1 rfl ?_
      refine r_iald X hc0.2.2.1 dX0_bringUp_75 h (fun h => ?_)
      refine r_if_ne X 89 dX0_bringUp_76 (by decide) h (fun h => ?_) (fun h => ?_)
      · refine r_aload_n X dX0_bringUp_79 rfl 0 rfl ?_
        refine r_dup X dX0_bringUp_80 rfl ?_
        refine r_getI X fg_X0_34_X0 hc0.1 rfl dX0_bringUp_81 ?_
        refine r_iconst (v := 1) X dX0_bringUp_84 (by decide) ?_
        refine r_iadd X dX0_bringUp_85 ?_
        refine r_putI X fp_X0_34_X0 hc0.1 rfl dX0_bringUp_86 h (fun σ6 h => ?_)
        exact t_X0_bringUp_b89 X hc0 σ6 a1 a3 h
      · exact t_X0_bringUp_b89 X hc0 σ5 a1 a3 h
    · exact r_vretz X rfl dX0_bringUp_17 h
