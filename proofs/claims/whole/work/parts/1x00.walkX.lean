set_option maxRecDepth 100000 in
set_option maxHeartbeats 4000000 in
theorem c_X9_isBelow (l : Launch) {σ : Sg} {a0 : Int32} {a1 : Int32} {z : Int32 × Sg} (h : f_X9_isBelow σ a0 a1 = some z) : am_Met l yX9_isBelow cX9_isBelow 2 (some .boolean) { frames := 0, cells := 0, slots := 0, locals := 0 } NX LX (fun ad => [.int a0, .int a1]) σ z.2 (fun _ => some (.int z.1)) := by
  refine am_enter (by decide +kernel) (fun ad => Nat.le_of_ble_eq_true rfl) (fun M D cT ad hl X => ?_)
  subst hl
  refine r_lv (lv' := [(0, .int a0), (1, .int a1)]) rfl ?_
  unfold f_X9_isBelow at h
  refine r_iload_n X dX9_isBelow_0 rfl 0 rfl ?_
  refine r_if_lt X 13 dX9_isBelow_1 (by decide) h (fun h => ?_) (fun h => ?_)
  · refine r_iconst (v := 0) X dX9_isBelow_13 (by decide) ?_
    exact r_zretz X rfl (by decide) dX9_isBelow_14 h
  · refine r_iload_n X dX9_isBelow_4 rfl 0 rfl ?_
    refine r_iload_n X dX9_isBelow_5 rfl 1 rfl ?_
    refine r_icmp_ge X 13 dX9_isBelow_6 (by decide) h (fun h => ?_) (fun h => ?_)
    · refine r_iconst (v := 0) X dX9_isBelow_13 (by decide) ?_
      exact r_zretz X rfl (by decide) dX9_isBelow_14 h
    · refine r_iconst (v := 1) X dX9_isBelow_9 (by decide) ?_
      refine r_goto X 14 dX9_isBelow_10 (by decide) ?_
      exact r_zretz X rfl (by decide) dX9_isBelow_14 h
set_option maxRecDepth 100000 in
set_option maxHeartbeats 4000000 in
theorem c_X9_textOf (l : Launch) {σ : Sg} {a1 : Int32} {z : Nat × Sg} (h : f_X9_textOf σ a1 = some z) : am_Met l yX9_textOf cX9_textOf 2 (some (.object "PloughTurns$Text")) { frames := 0, cells := 0, slots := 0, locals := 0 } NX LX (fun ad => [.ref (ad 0), .int a1]) σ z.2 (fun ad => some (.ref (ad z.1))) := by
  refine am_enter (by decide +kernel) (fun ad => Nat.le_of_ble_eq_true rfl) (fun M D cT ad hl X => ?_)
  subst hl
  refine r_lv (lv' := [(0, .ref (ad 0)), (1, .int a1)]) rfl ?_
  unfold f_X9_textOf at h
  refine r_iload_n X dX9_textOf_0 rfl 1 rfl ?_
  refine r_if_ne X 11 dX9_textOf_1 (by decide) h (fun h => ?_) (fun h => ?_)
  · refine r_aload_n X dX9_textOf_4 rfl 0 rfl ?_
    refine r_getR (c1 := 1) X fg_X9_14_X9 fX_0 rfl dX9_textOf_5 ?_
    refine r_goto X 15 dX9_textOf_8 (by decide) ?_
    exact r_aretz X rfl dX9_textOf_15 h
  · refine r_aload_n X dX9_textOf_11 rfl 0 rfl ?_
    refine r_getR (c1 := 3) X fg_X9_18_X9 fX_0 rfl dX9_textOf_12 ?_
    exact r_aretz X rfl dX9_textOf_15 h
set_option maxRecDepth 100000 in
set_option maxHeartbeats 4000000 in
theorem c_X8_add (l : Launch) {c0 : Nat} (hc0 : Is_X8 c0) {σ : Sg} {a1 : Int32} {z : Unit × Sg} (h : f_X8_add c0 σ a1 = some z) : am_Met l yX8_add cX8_add 2 none { frames := 0, cells := 0, slots := 0, locals := 0 } NX LX (fun ad => [.ref (ad c0), .int a1]) σ z.2 (fun _ => none) := by
  refine am_enter (by decide +kernel) (fun ad => Nat.le_of_ble_eq_true rfl) (fun M D cT ad hl X => ?_)
  subst hl
  refine r_lv (lv' := [(0, .ref (ad c0)), (1, .int a1)]) rfl ?_
  unfold f_X8_add at h
  refine r_aload_n X dX8_add_0 rfl 0 rfl ?_
  refine r_getI X fg_X8_15_X8 hc0.1 rfl dX8_add_1 ?_
  refine r_aload_n X dX8_add_4 rfl 0 rfl ?_
  refine r_getI X fg_X8_25_X8 hc0.1 rfl dX8_add_5 ?_
  refine r_icmp_ge X 31 dX8_add_8 (by decide) h (fun h => ?_) (fun h => ?_)
  · exact r_vretz X rfl dX8_add_31 h
  · refine r_aload_n X dX8_add_11 rfl 0 rfl ?_
    refine r_getR (c1 := (c0 + 1)) X fg_X8_9_X8 hc0.1 rfl dX8_add_12 ?_
    refine r_aload_n X dX8_add_15 rfl 0 rfl ?_
    refine r_getI X fg_X8_15_X8 hc0.1 rfl dX8_add_16 ?_
    refine r_iload_n X dX8_add_19 rfl 1 rfl ?_
    refine r_iast X hc0.2 dX8_add_20 h (fun σ1 h => ?_)
    refine r_aload_n X dX8_add_21 rfl 0 rfl ?_
    refine r_dup X dX8_add_22 rfl ?_
    refine r_getI X fg_X8_15_X8 hc0.1 rfl dX8_add_23 ?_
    refine r_iconst (v := 1) X dX8_add_26 (by decide) ?_
    refine r_iadd X dX8_add_27 ?_
    refine r_putI X fp_X8_15_X8 hc0.1 rfl dX8_add_28 h (fun σ2 h => ?_)
    exact r_vretz X rfl dX8_add_31 h
set_option maxRecDepth 100000 in
set_option maxHeartbeats 4000000 in
theorem c_X4_takesByte (l : Launch) {σ : Sg} {a1 : Int32} {a2 : Int32} {a3 : Int32} {z : Int32 × Sg} (h : f_X4_takesByte σ a1 a2 a3 = some z) : am_Met l yX4_takesByte cX4_takesByte 4 (some .boolean) { frames := 1, cells := 0, slots := 0, locals := 21 } NX LX (fun ad => [.ref (ad 10), .int a1, .int a2, .int a3]) σ z.2 (fun _ => some (.int z.1)) := by
  refine am_enter (by decide +kernel) (fun ad => Nat.le_of_ble_eq_true rfl) (fun M D cT ad hl X => ?_)
  subst hl
  refine r_lv (lv' := [(0, .ref (ad 10)), (1, .int a1), (2, .int a2), (3, .int a3)]) rfl ?_
  unfold f_X4_takesByte at h
  refine r_iload_n X dX4_takesByte_0 rfl 2 rfl ?_
  obtain ⟨hA, hB⟩ := ite_of h
  by_cases q1_0 : a2 = 0
  · have h := hA q1_0
    refine r_tabIn (kx := 0) (off := 27) X 28 dX4_takesByte_1 q1_0 (by decide) (by decide) (by decide) (by decide) ?_
    refine r_aload_n X dX4_takesByte_28 rfl 0 rfl ?_
    refine r_getR (c1 := 11) X fg_X4_9_X4 fX_10 rfl dX4_takesByte_29 ?_
    refine r_iload_n X dX4_takesByte_32 rfl 1 rfl ?_
    refine r_iload_n X dX4_takesByte_33 rfl 3 rfl ?_
    refine r_bipush (v := 48) X dX4_takesByte_34 (by decide) ?_
    refine r_isub X dX4_takesByte_36 ?_
    refine r_iast X fX_11 dX4_takesByte_37 h (fun σ1 h => ?_)
    refine r_iload_n X dX4_takesByte_38 rfl 3 rfl ?_
    refine r_bipush (v := 48) X dX4_takesByte_39 (by decide) ?_
    refine r_isub X dX4_takesByte_41 ?_
    refine r_bipush (v := 8) X dX4_takesByte_42 (by decide) ?_
    obtain ⟨r2, σ3, hc_4, h⟩ := bnd_of h
    refine r_callN (As := [.int (a3 - (48 : Int32)), .int (8 : Int32)]) (rest := []) (st2 := [.int r2]) X cv_X4_21 (c_X9_isBelow M.2.1 hc_4) rfl rfl rfl (Nat.le_of_ble_eq_true rfl) ⟨⟨rfl, rfl⟩, by decide, by decide⟩ dX4_takesByte_44 ⟨rfl, rfl⟩ rfl ?_
    exact r_zretg X rfl dX4_takesByte_47 h
  · have h := hB q1_0
    obtain ⟨hA, hB⟩ := ite_of h
    by_cases q1_1 : a2 = 1
    · have h := hA q1_1
      refine r_tabIn (kx := 1) (off := 47) X 48 dX4_takesByte_1 q1_1 (by decide) (by decide) (by decide) (by decide) ?_
      refine r_aload_n X dX4_takesByte_48 rfl 0 rfl ?_
      refine r_getR (c1 := 12) X fg_X4_15_X4 fX_10 rfl dX4_takesByte_49 ?_
      refine r_iload_n X dX4_takesByte_52 rfl 1 rfl ?_
      refine r_iload_n X dX4_takesByte_53 rfl 3 rfl ?_
      refine r_bipush (v := 97) X dX4_takesByte_54 (by decide) ?_
      refine r_isub X dX4_takesByte_56 ?_
      refine r_iast X fX_12 dX4_takesByte_57 h (fun σ5 h => ?_)
      refine r_iload_n X dX4_takesByte_58 rfl 3 rfl ?_
      refine r_bipush (v := 97) X dX4_takesByte_59 (by decide) ?_
      refine r_isub X dX4_takesByte_61 ?_
      refine r_bipush (v := 24) X dX4_takesByte_62 (by decide) ?_
      obtain ⟨r6, σ7, hc_8, h⟩ := bnd_of h
      refine r_callN (As := [.int (a3 - (97 : Int32)), .int (24 : Int32)]) (rest := []) (st2 := [.int r6]) X cv_X4_21 (c_X9_isBelow M.2.1 hc_8) rfl rfl rfl (Nat.le_of_ble_eq_true rfl) ⟨⟨rfl, rfl⟩, by decide, by decide⟩ dX4_takesByte_64 ⟨rfl, rfl⟩ rfl ?_
      exact r_zretg X rfl dX4_takesByte_67 h
    · have h := hB q1_1
      obtain ⟨hA, hB⟩ := ite_of h
      by_cases q1_2 : a2 = 2
      · have h := hA q1_2
        refine r_tabIn (kx := 2) (off := 67) X 68 dX4_takesByte_1 q1_2 (by decide) (by decide) (by decide) (by decide) ?_
        refine r_aload_n X dX4_takesByte_68 rfl 0 rfl ?_
        refine r_getR (c1 := 13) X fg_X4_18_X4 fX_10 rfl dX4_takesByte_69 ?_
        refine r_iload_n X dX4_takesByte_72 rfl 1 rfl ?_
        refine r_iload_n X dX4_takesByte_73 rfl 3 rfl ?_
        refine r_bipush (v := 48) X dX4_takesByte_74 (by decide) ?_
        refine r_isub X dX4_takesByte_76 ?_
        refine r_iast X fX_13 dX4_takesByte_77 h (fun σ9 h => ?_)
        refine r_iload_n X dX4_takesByte_78 rfl 3 rfl ?_
        refine r_bipush (v := 49) X dX4_takesByte_79 (by decide) ?_
        refine r_icmp_lt X 94 dX4_takesByte_81 (by decide) h (fun h => ?_) (fun h => ?_)
        · refine r_iconst (v := 0) X dX4_takesByte_94 (by decide) ?_
          exact r_zretz X rfl (by decide) dX4_takesByte_95 h
        · refine r_iload_n X dX4_takesByte_84 rfl 3 rfl ?_
          refine r_bipush (v := 57) X dX4_takesByte_85 (by decide) ?_
          refine r_icmp_gt X 94 dX4_takesByte_87 (by decide) h (fun h => ?_) (fun h => ?_)
          · refine r_iconst (v := 0) X dX4_takesByte_94 (by decide) ?_
            exact r_zretz X rfl (by decide) dX4_takesByte_95 h
          · refine r_iconst (v := 1) X dX4_takesByte_90 (by decide) ?_
            refine r_goto X 95 dX4_takesByte_91 (by decide) ?_
            exact r_zretz X rfl (by decide) dX4_takesByte_95 h
      · have h := hB q1_2
        refine r_tabOut X 96 dX4_takesByte_1 (by have e0 := lv_neT q1_0 (show (0 : Int32).toInt = 0 from by decide); have e1 := lv_neT q1_1 (show (1 : Int32).toInt = 1 from by decide); have e2 := lv_neT q1_2 (show (2 : Int32).toInt = 2 from by decide); omega) (by decide) ?_
        refine r_iload_n X dX4_takesByte_96 rfl 3 rfl ?_
        refine r_bipush (v := 59) X dX4_takesByte_97 (by decide) ?_
        refine r_icmp_ne X 106 dX4_takesByte_99 (by decide) h (fun h => ?_) (fun h => ?_)
        · refine r_iconst (v := 1) X dX4_takesByte_102 (by decide) ?_
          refine r_goto X 107 dX4_takesByte_103 (by decide) ?_
          exact r_zretz X rfl (by decide) dX4_takesByte_107 h
        · refine r_iconst (v := 0) X dX4_takesByte_106 (by decide) ?_
          exact r_zretz X rfl (by decide) dX4_takesByte_107 h
set_option maxRecDepth 100000 in
set_option maxHeartbeats 4000000 in
theorem t_X3_takeN_b61 {M : am_M} {D : va_G} {cT : Nat → ClassId} {ad : Nat → Nat} (X : am_X M (D, cT, ad, NX, LX) cX3_take RX3 4 none) {c1 : Nat} (hc1 : Is_X8 c1) {z : Unit × Sg} {k7 : Sg → Int32 → Option (Unit × Sg)} (hk7 : ∀ (σ : Sg) (x2 : Int32), k7 σ x2 = some z → am_At M { frames := 2, cells := 0, slots := 0, locals := 44 } (D, cT, ad, NX, LX) (amQv M (D, cT, ad, NX, LX) z) 4 7 [(0, .ref (ad 10)), (1, .ref (ad c1)), (2, .int x2)] [] σ) (σ : Sg) (x2 : Int32) (h : f_X3_takeN_b61 c1 k7 σ x2 = some z) : am_At M { frames := 2, cells := 0, slots := 0, locals := 44 } (D, cT, ad, NX, LX) (amQv M (D, cT, ad, NX, LX) z) 4 61 [(0, .ref (ad 10)), (1, .ref (ad c1)), (2, .int x2)] [] σ := by
  unfold f_X3_takeN_b61 at h
  refine r_iinc X [(2, .int (x2 + (1 : Int32))), (0, .ref (ad 10)), (1, .ref (ad c1))] dX3_take_61 2 rfl (v := x2 + (1 : Int32)) (by rfl) (by decide) rfl ?_
  refine r_letv h (fun v1 h => ?_)
  refine r_goto X 7 dX3_take_64 (by decide) ?_
  refine r_sub (lv' := [(0, .ref (ad 10)), (1, .ref (ad c1)), (2, .int v1)]) [1, 2, 0] rfl ?_
  exact hk7 σ v1 h
set_option maxRecDepth 100000 in
set_option maxHeartbeats 4000000 in
theorem t_X3_takeN_b56 {M : am_M} {D : va_G} {cT : Nat → ClassId} {ad : Nat → Nat} (X : am_X M (D, cT, ad, NX, LX) cX3_take RX3 4 none) {c1 : Nat} (hc1 : Is_X8 c1) {z : Unit × Sg} {k7 : Sg → Int32 → Option (Unit × Sg)} (hk7 : ∀ (σ : Sg) (x2 : Int32), k7 σ x2 = some z → am_At M { frames := 2, cells := 0, slots := 0, locals := 44 } (D, cT, ad, NX, LX) (amQv M (D, cT, ad, NX, LX) z) 4 7 [(0, .ref (ad 10)), (1, .ref (ad c1)), (2, .int x2)] [] σ) (σ : Sg) (x2 : Int32) (h : f_X3_takeN_b56 c1 k7 σ x2 = some z) : am_At M { frames := 2, cells := 0, slots := 0, locals := 44 } (D, cT, ad, NX, LX) (amQv M (D, cT, ad, NX, LX) z) 4 56 [(0, .ref (ad 10)), (1, .ref (ad c1)), (2, .int x2)] [] σ := by
  unfold f_X3_takeN_b56 at h
  refine r_aload_n X dX3_take_56 rfl 0 rfl ?_
  refine r_iload_n X dX3_take_57 rfl 2 rfl ?_
  refine r_putI X fp_X3_15_X4 fX_10 rfl dX3_take_58 h (fun σ1 h => ?_)
  exact t_X3_takeN_b61 X hc1 hk7 σ1 x2 h
set_option maxRecDepth 100000 in
set_option maxHeartbeats 4000000 in
theorem t_X3_takeN_b142 {M : am_M} {D : va_G} {cT : Nat → ClassId} {ad : Nat → Nat} (X : am_X M (D, cT, ad, NX, LX) cX3_take RX3 4 none) {c1 : Nat} (hc1 : Is_X8 c1) {z : Unit × Sg} (σ : Sg) (s0 : Int32) (h : f_X3_takeN_b142 c1 σ s0 = some z) : am_At M { frames := 2, cells := 0, slots := 0, locals := 44 } (D, cT, ad, NX, LX) (amQv M (D, cT, ad, NX, LX) z) 4 142 [] [.int s0, .ref (ad 10)] σ := by
  unfold f_X3_takeN_b142 at h
  refine r_putI X fp_X3_9_X4 fX_10 rfl dX3_take_142 h (fun σ1 h => ?_)
  exact r_vretz X rfl dX3_take_145 h
set_option maxRecDepth 100000 in
set_option maxHeartbeats 4000000 in
theorem t_X3_takeN_b118 {M : am_M} {D : va_G} {cT : Nat → ClassId} {ad : Nat → Nat} (X : am_X M (D, cT, ad, NX, LX) cX3_take RX3 4 none) {c1 : Nat} (hc1 : Is_X8 c1) {z : Unit × Sg} (σ : Sg) (h : f_X3_takeN_b118 c1 σ = some z) : am_At M { frames := 2, cells := 0, slots := 0, locals := 44 } (D, cT, ad, NX, LX) (amQv M (D, cT, ad, NX, LX) z) 4 118 [(0, .ref (ad 10)), (1, .ref (ad c1))] [] σ := by
  unfold f_X3_takeN_b118 at h
  refine r_aload_n X dX3_take_118 rfl 0 rfl ?_
  refine r_aload_n X dX3_take_119 rfl 0 rfl ?_
  refine r_getI X fg_X3_15_X4 fX_10 rfl dX3_take_120 ?_
  refine r_iconst (v := -1) X dX3_take_123 (by decide) ?_
  refine r_icmp_ne X 141 dX3_take_124 (by decide) h (fun h => ?_) (fun h => ?_)
  · refine r_aload_n X dX3_take_127 rfl 1 rfl ?_
    refine r_getI X fg_X3_27_X8 hc1.1 rfl dX3_take_128 ?_
    refine r_iconst (v := 1) X dX3_take_131 (by decide) ?_
    refine r_iadd X dX3_take_132 ?_
    refine r_aload_n X dX3_take_133 rfl 0 rfl ?_
    refine r_getI X fg_X3_24_X4 fX_10 rfl dX3_take_134 ?_
    refine r_idiv X dX3_take_137 h (fun h => ?_)
    refine r_goto X 142 dX3_take_138 (by decide) ?_
    refine r_sub (lv' := []) [] rfl ?_
    exact t_X3_takeN_b142 X hc1 σ (((σ c1 2) + (1 : Int32)) / (σ 10 0)) h
  · refine r_iconst (v := 0) X dX3_take_141 (by decide) ?_
    refine r_sub (lv' := []) [] rfl ?_
    exact t_X3_takeN_b142 X hc1 σ (0 : Int32) h
set_option maxRecDepth 100000 in
set_option maxHeartbeats 4000000 in
theorem t_X3_takeN_b97 {M : am_M} {D : va_G} {cT : Nat → ClassId} {ad : Nat → Nat} (X : am_X M (D, cT, ad, NX, LX) cX3_take RX3 4 none) {c1 : Nat} (hc1 : Is_X8 c1) {z : Unit × Sg} (σ : Sg) (s0 : Int32) (h : f_X3_takeN_b97 c1 σ s0 = some z) : am_At M { frames := 2, cells := 0, slots := 0, locals := 44 } (D, cT, ad, NX, LX) (amQv M (D, cT, ad, NX, LX) z) 4 97 [(0, .ref (ad 10)), (1, .ref (ad c1))] [.int s0] σ := by
  unfold f_X3_takeN_b97 at h
  refine r_istore_n X [(2, .int s0), (0, .ref (ad 10)), (1, .ref (ad c1))] dX3_take_97 rfl (by decide) rfl ?_
  refine r_aload_n X dX3_take_98 rfl 1 rfl ?_
  refine r_getI X fg_X3_15_X4 fX_10 rfl dX3_take_99 ?_
  refine r_iconst (v := -1) X dX3_take_102 (by decide) ?_
  refine r_icmp_ne X 118 dX3_take_103 (by decide) h (fun h => ?_) (fun h => ?_)
  · refine r_iload_n X dX3_take_106 rfl 0 rfl ?_
    refine r_if_ne X 118 dX3_take_107 (by decide) h (fun h => ?_) (fun h => ?_)
    · refine r_aload_n X dX3_take_110 rfl 1 rfl ?_
      refine r_aload_n X dX3_take_111 rfl 2 rfl ?_
      refine r_getI X fg_X3_27_X8 hc1.1 rfl dX3_take_112 ?_
      refine r_putI X fp_X3_15_X4 fX_10 rfl dX3_take_115 h (fun σ1 h => ?_)
      refine r_sub (lv' := [(0, .ref (ad 10)), (1, .ref (ad c1))]) [1, 2] rfl ?_
      exact t_X3_takeN_b118 X hc1 σ1 h
    · refine r_sub (lv' := [(0, .ref (ad 10)), (1, .ref (ad c1))]) [1, 2] rfl ?_
      exact t_X3_takeN_b118 X hc1 σ h
  · refine r_sub (lv' := [(0, .ref (ad 10)), (1, .ref (ad c1))]) [1, 2] rfl ?_
    exact t_X3_takeN_b118 X hc1 σ h
set_option maxRecDepth 100000 in
set_option maxHeartbeats 4000000 in
theorem t_X3_takeN_b92 {M : am_M} {D : va_G} {cT : Nat → ClassId} {ad : Nat → Nat} (X : am_X M (D, cT, ad, NX, LX) cX3_take RX3 4 none) {c1 : Nat} (hc1 : Is_X8 c1) {z : Unit × Sg} (σ : Sg) (h : f_X3_takeN_b92 c1 σ = some z) : am_At M { frames := 2, cells := 0, slots := 0, locals := 44 } (D, cT, ad, NX, LX) (amQv M (D, cT, ad, NX, LX) z) 4 92 [(0, .ref (ad 10)), (1, .ref (ad c1))] [] σ := by
  unfold f_X3_takeN_b92 at h
  refine r_iconst (v := 1) X dX3_take_92 (by decide) ?_
  refine r_goto X 97 dX3_take_93 (by decide) ?_
  exact t_X3_takeN_b97 X hc1 σ (1 : Int32) h
set_option maxRecDepth 100000 in
set_option maxHeartbeats 4000000 in
theorem t_X3_takeN_b67 {M : am_M} {D : va_G} {cT : Nat → ClassId} {ad : Nat → Nat} (X : am_X M (D, cT, ad, NX, LX) cX3_take RX3 4 none) {c1 : Nat} (hc1 : Is_X8 c1) {z : Unit × Sg} (σ : Sg) (h : f_X3_takeN_b67 c1 σ = some z) : am_At M { frames := 2, cells := 0, slots := 0, locals := 44 } (D, cT, ad, NX, LX) (amQv M (D, cT, ad, NX, LX) z) 4 67 [(0, .ref (ad 10)), (1, .ref (ad c1))] [] σ := by
  unfold f_X3_takeN_b67 at h
  refine r_aload_n X dX3_take_67 rfl 1 rfl ?_
  refine r_getI X fg_X3_27_X8 hc1.1 rfl dX3_take_68 ?_
  refine r_if_eq X 92 dX3_take_71 (by decide) h (fun h => ?_) (fun h => ?_)
  · exact t_X3_takeN_b92 X hc1 σ h
  · refine r_aload_n X dX3_take_74 rfl 1 rfl ?_
    refine r_getI X fg_X3_27_X8 hc1.1 rfl dX3_take_75 ?_
    refine r_aload_n X dX3_take_78 rfl 0 rfl ?_
    refine r_getI X fg_X3_24_X4 fX_10 rfl dX3_take_79 ?_
    refine r_irem X dX3_take_82 h (fun h => ?_)
    refine r_aload_n X dX3_take_83 rfl 0 rfl ?_
    refine r_getI X fg_X3_24_X4 fX_10 rfl dX3_take_84 ?_
    refine r_iconst (v := 1) X dX3_take_87 (by decide) ?_
    refine r_isub X dX3_take_88 ?_
    refine r_icmp_ne X 96 dX3_take_89 (by decide) h (fun h => ?_) (fun h => ?_)
    · exact t_X3_takeN_b92 X hc1 σ h
    · refine r_iconst (v := 0) X dX3_take_96 (by decide) ?_
      exact t_X3_takeN_b97 X hc1 σ (0 : Int32) h
set_option maxRecDepth 100000 in
set_option maxHeartbeats 4000000 in
theorem t_X3_takeN_b7 {M : am_M} {D : va_G} {cT : Nat → ClassId} {ad : Nat → Nat} (X : am_X M (D, cT, ad, NX, LX) cX3_take RX3 4 none) {c1 : Nat} (hc1 : Is_X8 c1) {z : Unit × Sg} {k7 : Sg → Int32 → Option (Unit × Sg)} (hk7 : ∀ (σ : Sg) (x2 : Int32), k7 σ x2 = some z → am_At M { frames := 2, cells := 0, slots := 0, locals := 44 } (D, cT, ad, NX, LX) (amQv M (D, cT, ad, NX, LX) z) 4 7 [(0, .ref (ad 10)), (1, .ref (ad c1)), (2, .int x2)] [] σ) (σ : Sg) (x2 : Int32) (h : f_X3_takeN_b7 c1 k7 σ x2 = some z) : am_At M { frames := 2, cells := 0, slots := 0, locals := 44 } (D, cT, ad, NX, LX) (amQv M (D, cT, ad, NX, LX) z) 4 7 [(0, .ref (ad 10)), (1, .ref (ad c1)), (2, .int x2)] [] σ := by
  unfold f_X3_takeN_b7 at h
  refine r_iload_n X dX3_take_7 rfl 2 rfl ?_
  refine r_aload_n X dX3_take_8 rfl 1 rfl ?_
  refine r_getI X fg_X3_27_X8 hc1.1 rfl dX3_take_9 ?_
  refine r_icmp_ge X 67 dX3_take_12 (by decide) h (fun h => ?_) (fun h => ?_)
  · refine r_sub (lv' := [(0, .ref (ad 10)), (1, .ref (ad c1))]) [0, 1] rfl ?_
    exact t_X3_takeN_b67 X hc1 σ h
  · refine r_aload_n X dX3_take_15 rfl 0 rfl ?_
    refine r_getI X fg_X3_15_X4 fX_10 rfl dX3_take_16 ?_
    refine r_iconst (v := -1) X dX3_take_19 (by decide) ?_
    refine r_icmp_ne X 67 dX3_take_20 (by decide) h (fun h => ?_) (fun h => ?_)
    · refine r_iload_n X dX3_take_23 rfl 2 rfl ?_
      refine r_aload_n X dX3_take_24 rfl 0 rfl ?_
      refine r_getI X fg_X3_24_X4 fX_10 rfl dX3_take_25 ?_
      refine r_idiv X dX3_take_28 h (fun h => ?_)
      refine r_leti h (fun v1 h => ?_)
      refine r_istore_n X [(3, .int v1), (0, .ref (ad 10)), (1, .ref (ad c1)), (2, .int x2)] dX3_take_29 rfl (by decide) rfl ?_
      refine r_iload_n X dX3_take_30 rfl 0 rfl ?_
      refine r_bipush (v := 8) X dX3_take_31 (by decide) ?_
      refine r_icmp_ge X 56 dX3_take_33 (by decide) h (fun h => ?_) (fun h => ?_)
      · refine r_sub (lv' := [(0, .ref (ad 10)), (1, .ref (ad c1)), (2, .int x2)]) [1, 2, 3] rfl ?_
        exact t_X3_takeN_b56 X hc1 hk7 σ x2 h
      · refine r_aload_n X dX3_take_36 rfl 1 rfl ?_
        refine r_iload_n X dX3_take_37 rfl 0 rfl ?_
        refine r_iload_n X dX3_take_38 rfl 3 rfl ?_
        refine r_aload_n X dX3_take_39 rfl 1 rfl ?_
        refine r_getI X fg_X3_24_X4 fX_10 rfl dX3_take_40 ?_
        refine r_irem X dX3_take_43 h (fun h => ?_)
        refine r_aload_n X dX3_take_44 rfl 2 rfl ?_
        refine r_getR (c1 := (c1 + 1)) X fg_X3_30_X8 hc1.1 rfl dX3_take_45 ?_
        refine r_iload_n X dX3_take_48 rfl 3 rfl ?_
        refine r_iald X hc1.2 dX3_take_49 h (fun h => ?_)
        obtain ⟨r2, σ3, hc_4, h⟩ := bnd_of h
        refine r_callA (As := [.int v1, .int (x2 - x2 / (σ 10 0) * (σ 10 0)), .int (σ (c1 + 1) (x2).toNatClampNeg)]) (rest := []) (st2 := [.int r2]) (c := 10) X cv_X3_34_X4 (c_X4_takesByte M.2.1 hc_4) rfl (ci := 3) rfl fX_10 rfl rfl (Nat.le_of_ble_eq_true rfl) ⟨⟨rfl, rfl⟩, by decide, by decide⟩ dX3_take_50 ⟨rfl, rfl⟩ rfl ?_
        refine r_if_ne X 61 dX3_take_53 (by decide) h (fun h => ?_) (fun h => ?_)
        · refine r_sub (lv' := [(0, .ref (ad 10)), (1, .ref (ad c1)), (2, .int x2)]) [1, 2, 3] rfl ?_
          exact t_X3_takeN_b56 X hc1 hk7 σ3 x2 h
        · refine r_sub (lv' := [(0, .ref (ad 10)), (1, .ref (ad c1)), (2, .int x2)]) [1, 2, 3] rfl ?_
          exact t_X3_takeN_b61 X hc1 hk7 σ3 x2 h
    · refine r_sub (lv' := [(0, .ref (ad 10)), (1, .ref (ad c1))]) [0, 1] rfl ?_
      exact t_X3_takeN_b67 X hc1 σ h
theorem t_X3_takeN_l7 {M : am_M} {D : va_G} {cT : Nat → ClassId} {ad : Nat → Nat} (X : am_X M (D, cT, ad, NX, LX) cX3_take RX3 4 none) {c1 : Nat} (hc1 : Is_X8 c1) {z : Unit × Sg} (n : Nat) : ∀ (σ : Sg) (x2 : Int32), f_X3_takeN_l7 c1 n σ x2 = some z → am_At M { frames := 2, cells := 0, slots := 0, locals := 44 } (D, cT, ad, NX, LX) (amQv M (D, cT, ad, NX, LX) z) 4 7 [(0, .ref (ad 10)), (1, .ref (ad c1)), (2, .int x2)] [] σ := by
  induction n with
  | zero =>
    intro σ x2 h
    have h2 : (none : Option (Unit × Sg)) = some z := h
    cases h2
  | succ n ih =>
    intro σ x2 h
    exact t_X3_takeN_b7 X hc1 (k7 := f_X3_takeN_l7 c1 n) ih σ x2 h
set_option maxRecDepth 100000 in
set_option maxHeartbeats 4000000 in
theorem c_X3_takeN (l : Launch) {c1 : Nat} (hc1 : Is_X8 c1) {σ : Sg} {z : Unit × Sg} (h : f_X3_takeN c1 σ = some z) : am_Met l yX3_take cX3_take 4 none { frames := 2, cells := 0, slots := 0, locals := 44 } NX LX (fun ad => [.ref (ad 10), .ref (ad c1)]) σ z.2 (fun _ => none) := by
  refine am_enter (by decide +kernel) (fun ad => Nat.le_of_ble_eq_true rfl) (fun M D cT ad hl X => ?_)
  subst hl
  refine r_lv (lv' := [(0, .ref (ad 10)), (1, .ref (ad c1))]) rfl ?_
  unfold f_X3_takeN at h
  refine r_aload_n X dX3_take_0 rfl 0 rfl ?_
  refine r_iconst (v := -1) X dX3_take_1 (by decide) ?_
  refine r_putI X fp_X3_15_X4 fX_10 rfl dX3_take_2 h (fun σ1 h => ?_)
  refine r_iconst (v := 0) X dX3_take_5 (by decide) ?_
  refine r_istore_n X [(2, .int (0 : Int32)), (0, .ref (ad 10)), (1, .ref (ad c1))] dX3_take_6 rfl (by decide) rfl ?_
  refine r_sub (lv' := [(0, .ref (ad 10)), (1, .ref (ad c1)), (2, .int (0 : Int32))]) [1, 2, 0] rfl ?_
  exact t_X3_takeN_l7 X hc1 300 σ1 (0 : Int32) h
set_option maxRecDepth 100000 in
set_option maxHeartbeats 4000000 in
theorem c_X2_sortOf (l : Launch) {σ : Sg} {a0 : Int32} {z : Int32 × Sg} (h : f_X2_sortOf σ a0 = some z) : am_Met l yX2_sortOf cX2_sortOf 1 (some .int) { frames := 0, cells := 0, slots := 0, locals := 0 } NX LX (fun ad => [.int a0]) σ z.2 (fun _ => some (.int z.1)) := by
  refine am_enter (by decide +kernel) (fun ad => Nat.le_of_ble_eq_true rfl) (fun M D cT ad hl X => ?_)
  subst hl
  refine r_lv (lv' := [(0, .int a0)]) rfl ?_
  unfold f_X2_sortOf at h
  refine r_iload_n X dX2_sortOf_0 rfl 0 rfl ?_
  refine r_bipush (v := 100) X dX2_sortOf_1 (by decide) ?_
  refine r_icmp_ne X 8 dX2_sortOf_3 (by decide) h (fun h => ?_) (fun h => ?_)
  · refine r_iconst (v := 0) X dX2_sortOf_6 (by decide) ?_
    exact r_iretz X rfl dX2_sortOf_7 h
  · refine r_iload_n X dX2_sortOf_8 rfl 0 rfl ?_
    refine r_bipush (v := 99) X dX2_sortOf_9 (by decide) ?_
    refine r_icmp_ne X 16 dX2_sortOf_11 (by decide) h (fun h => ?_) (fun h => ?_)
    · refine r_iconst (v := 1) X dX2_sortOf_14 (by decide) ?_
      exact r_iretz X rfl dX2_sortOf_15 h
    · refine r_iload_n X dX2_sortOf_16 rfl 0 rfl ?_
      refine r_bipush (v := 114) X dX2_sortOf_17 (by decide) ?_
      refine r_icmp_ne X 26 dX2_sortOf_19 (by decide) h (fun h => ?_) (fun h => ?_)
      · refine r_iconst (v := 2) X dX2_sortOf_22 (by decide) ?_
        refine r_goto X 27 dX2_sortOf_23 (by decide) ?_
        exact r_iretz X rfl dX2_sortOf_27 h
      · refine r_iconst (v := -1) X dX2_sortOf_26 (by decide) ?_
        exact r_iretz X rfl dX2_sortOf_27 h
set_option maxRecDepth 100000 in
set_option maxHeartbeats 4000000 in
theorem t_X2_liesAnother_b40 {M : am_M} {D : va_G} {cT : Nat → ClassId} {ad : Nat → Nat} (X : am_X M (D, cT, ad, NX, LX) cX2_liesAnother RX2 6 (some .boolean)) {z : Int32 × Sg} {k3 : Sg → Int32 → Int32 → Int32 → Int32 → Int32 → Option (Int32 × Sg)} (hk3 : ∀ (σ : Sg) (x1 : Int32) (x2 : Int32) (x3 : Int32) (x4 : Int32) (x5 : Int32), k3 σ x1 x2 x3 x4 x5 = some z → am_At M { frames := 0, cells := 0, slots := 0, locals := 0 } (D, cT, ad, NX, LX) (amQi M (D, cT, ad, NX, LX) z) 6 3 [(0, .ref (ad 5)), (1, .int x1), (2, .int x2), (3, .int x3), (4, .int x4), (5, .int x5)] [] σ) (σ : Sg) (x1 : Int32) (x2 : Int32) (x3 : Int32) (x4 : Int32) (x5 : Int32) (h : f_X2_liesAnother_b40 k3 σ x1 x2 x3 x4 x5 = some z) : am_At M { frames := 0, cells := 0, slots := 0, locals := 0 } (D, cT, ad, NX, LX) (amQi M (D, cT, ad, NX, LX) z) 6 40 [(0, .ref (ad 5)), (1, .int x1), (2, .int x2), (3, .int x3), (4, .int x4), (5, .int x5)] [] σ := by
  unfold f_X2_liesAnother_b40 at h
  refine r_iinc X [(5, .int (x5 + (1 : Int32))), (0, .ref (ad 5)), (1, .int x1), (2, .int x2), (3, .int x3), (4, .int x4)] dX2_liesAnother_40 5 rfl (v := x5 + (1 : Int32)) (by rfl) (by decide) rfl ?_
  refine r_letv h (fun v1 h => ?_)
  refine r_goto X 3 dX2_liesAnother_43 (by decide) ?_
  refine r_sub (lv' := [(0, .ref (ad 5)), (1, .int x1), (2, .int x2), (3, .int x3), (4, .int x4), (5, .int v1)]) [1, 2, 3, 4, 5, 0] rfl ?_
  exact hk3 σ x1 x2 x3 x4 v1 h
set_option maxRecDepth 100000 in
set_option maxHeartbeats 4000000 in
theorem t_X2_liesAnother_b3 {M : am_M} {D : va_G} {cT : Nat → ClassId} {ad : Nat → Nat} (X : am_X M (D, cT, ad, NX, LX) cX2_liesAnother RX2 6 (some .boolean)) {z : Int32 × Sg} {k3 : Sg → Int32 → Int32 → Int32 → Int32 → Int32 → Option (Int32 × Sg)} (hk3 : ∀ (σ : Sg) (x1 : Int32) (x2 : Int32) (x3 : Int32) (x4 : Int32) (x5 : Int32), k3 σ x1 x2 x3 x4 x5 = some z → am_At M { frames := 0, cells := 0, slots := 0, locals := 0 } (D, cT, ad, NX, LX) (amQi M (D, cT, ad, NX, LX) z) 6 3 [(0, .ref (ad 5)), (1, .int x1), (2, .int x2), (3, .int x3), (4, .int x4), (5, .int x5)] [] σ) (σ : Sg) (x1 : Int32) (x2 : Int32) (x3 : Int32) (x4 : Int32) (x5 : Int32) (h : f_X2_liesAnother_b3 k3 σ x1 x2 x3 x4 x5 = some z) : am_At M { frames := 0, cells := 0, slots := 0, locals := 0 } (D, cT, ad, NX, LX) (amQi M (D, cT, ad, NX, LX) z) 6 3 [(0, .ref (ad 5)), (1, .int x1), (2, .int x2), (3, .int x3), (4, .int x4), (5, .int x5)] [] σ := by
  unfold f_X2_liesAnother_b3 at h
  refine r_iload X dX2_liesAnother_3 5 rfl ?_
  refine r_iload X dX2_liesAnother_5 4 rfl ?_
  refine r_icmp_ge X 46 dX2_liesAnother_7 (by decide) h (fun h => ?_) (fun h => ?_)
  · refine r_iconst (v := 0) X dX2_liesAnother_46 (by decide) ?_
    exact r_zretz X rfl (by decide) dX2_liesAnother_47 h
  · refine r_iload X dX2_liesAnother_10 5 rfl ?_
    refine r_iload_n X dX2_liesAnother_12 rfl 3 rfl ?_
    refine r_icmp_eq X 40 dX2_liesAnother_13 (by decide) h (fun h => ?_) (fun h => ?_)
    · exact t_X2_liesAnother_b40 X hk3 σ x1 x2 x3 x4 x5 h
    · refine r_aload_n X dX2_liesAnother_16 rfl 0 rfl ?_
      refine r_getR (c1 := 7) X fg_X2_15_X2 fX_5 rfl dX2_liesAnother_17 ?_
      refine r_iload X dX2_liesAnother_20 5 rfl ?_
      refine r_iald X fX_7 dX2_liesAnother_22 h (fun h => ?_)
      refine r_iload_n X dX2_liesAnother_23 rfl 1 rfl ?_
      refine r_icmp_ne X 40 dX2_liesAnother_24 (by decide) h (fun h => ?_) (fun h => ?_)
      · refine r_aload_n X dX2_liesAnother_27 rfl 0 rfl ?_
        refine r_getR (c1 := 8) X fg_X2_18_X2 fX_5 rfl dX2_liesAnother_28 ?_
        refine r_iload X dX2_liesAnother_31 5 rfl ?_
        refine r_iald X fX_8 dX2_liesAnother_33 h (fun h => ?_)
        refine r_iload_n X dX2_liesAnother_34 rfl 2 rfl ?_
        refine r_icmp_ne X 40 dX2_liesAnother_35 (by decide) h (fun h => ?_) (fun h => ?_)
        · refine r_iconst (v := 1) X dX2_liesAnother_38 (by decide) ?_
          exact r_zretz X rfl (by decide) dX2_liesAnother_39 h
        · exact t_X2_liesAnother_b40 X hk3 σ x1 x2 x3 x4 x5 h
      · exact t_X2_liesAnother_b40 X hk3 σ x1 x2 x3 x4 x5 h
theorem t_X2_liesAnother_l3 {M : am_M} {D : va_G} {cT : Nat → ClassId} {ad : Nat → Nat} (X : am_X M (D, cT, ad, NX, LX) cX2_liesAnother RX2 6 (some .boolean)) {z : Int32 × Sg} (n : Nat) : ∀ (σ : Sg) (x1 : Int32) (x2 : Int32) (x3 : Int32) (x4 : Int32) (x5 : Int32), f_X2_liesAnother_l3 n σ x1 x2 x3 x4 x5 = some z → am_At M { frames := 0, cells := 0, slots := 0, locals := 0 } (D, cT, ad, NX, LX) (amQi M (D, cT, ad, NX, LX) z) 6 3 [(0, .ref (ad 5)), (1, .int x1), (2, .int x2), (3, .int x3), (4, .int x4), (5, .int x5)] [] σ := by
  induction n with
  | zero =>
    intro σ x1 x2 x3 x4 x5 h
    have h2 : (none : Option (Int32 × Sg)) = some z := h
    cases h2
  | succ n ih =>
    intro σ x1 x2 x3 x4 x5 h
    exact t_X2_liesAnother_b3 X (k3 := f_X2_liesAnother_l3 n) ih σ x1 x2 x3 x4 x5 h
set_option maxRecDepth 100000 in
set_option maxHeartbeats 4000000 in
theorem c_X2_liesAnother (l : Launch) {σ : Sg} {a1 : Int32} {a2 : Int32} {a3 : Int32} {a4 : Int32} {z : Int32 × Sg} (h : f_X2_liesAnother σ a1 a2 a3 a4 = some z) : am_Met l yX2_liesAnother cX2_liesAnother 6 (some .boolean) { frames := 0, cells := 0, slots := 0, locals := 0 } NX LX (fun ad => [.ref (ad 5), .int a1, .int a2, .int a3, .int a4]) σ z.2 (fun _ => some (.int z.1)) := by
  refine am_enter (by decide +kernel) (fun ad => Nat.le_of_ble_eq_true rfl) (fun M D cT ad hl X => ?_)
  subst hl
  refine r_lv (lv' := [(0, .ref (ad 5)), (1, .int a1), (2, .int a2), (3, .int a3), (4, .int a4)]) rfl ?_
  unfold f_X2_liesAnother at h
  refine r_iconst (v := 0) X dX2_liesAnother_0 (by decide) ?_
  refine r_istore X [(5, .int (0 : Int32)), (0, .ref (ad 5)), (1, .int a1), (2, .int a2), (3, .int a3), (4, .int a4)] dX2_liesAnother_1 (by decide) rfl ?_
  refine r_sub (lv' := [(0, .ref (ad 5)), (1, .int a1), (2, .int a2), (3, .int a3), (4, .int a4), (5, .int (0 : Int32))]) [1, 2, 3, 4, 5, 0] rfl ?_
  exact t_X2_liesAnother_l3 X 300 σ a1 a2 a3 a4 (0 : Int32) h
set_option maxRecDepth 100000 in
set_option maxHeartbeats 4000000 in
theorem c_X2_takesByte (l : Launch) {σ : Sg} {a1 : Int32} {a2 : Int32} {a3 : Int32} {z : Int32 × Sg} (h : f_X2_takesByte σ a1 a2 a3 = some z) : am_Met l yX2_takesByte cX2_takesByte 5 (some .boolean) { frames := 1, cells := 0, slots := 0, locals := 25 } NX LX (fun ad => [.ref (ad 5), .int a1, .int a2, .int a3]) σ z.2 (fun _ => some (.int z.1)) := by
  refine am_enter (by decide +kernel) (fun ad => Nat.le_of_ble_eq_true rfl) (fun M D cT ad hl X => ?_)
  subst hl
  refine r_lv (lv' := [(0, .ref (ad 5)), (1, .int a1), (2, .int a2), (3, .int a3)]) rfl ?_
  unfold f_X2_takesByte at h
  refine r_iload_n X dX2_takesByte_0 rfl 3 rfl ?_
  refine r_bipush (v := 48) X dX2_takesByte_1 (by decide) ?_
  refine r_isub X dX2_takesByte_3 ?_
  refine r_leti h (fun v1 h => ?_)
  refine r_istore X [(4, .int v1), (0, .ref (ad 5)), (1, .int a1), (2, .int a2), (3, .int a3)] dX2_takesByte_4 (by decide) rfl ?_
  refine r_iload_n X dX2_takesByte_6 rfl 3 rfl ?_
  obtain ⟨hA, hB⟩ := ite_of h
  by_cases q7_0 : a2 = 0
  · have h := hA q7_0
    refine r_tabIn (kx := 0) (off := 29) X 36 dX2_takesByte_7 q7_0 (by decide) (by decide) (by decide) (by decide) ?_
    refine r_aload_n X dX2_takesByte_36 rfl 1 rfl ?_
    refine r_getR (c1 := 6) X fg_X2_9_X2 fX_5 rfl dX2_takesByte_37 ?_
    refine r_iload_n X dX2_takesByte_40 rfl 2 rfl ?_
    refine r_iload_n X dX2_takesByte_41 rfl 4 rfl ?_
    obtain ⟨r2, σ3, hc_5, h⟩ := bnd_of h
    refine r_callS (As := [.int a3]) (rest := [.int a1, .ref (ad 6)]) (st2 := [.int r2, .int a1, .ref (ad 6)]) X cv_X2_24 (c_X2_sortOf M.2.1 hc_5) rfl rfl rfl (Nat.le_of_ble_eq_true rfl) ⟨⟨rfl, rfl⟩, by decide, by decide⟩ dX2_takesByte_42 ⟨rfl, rfl⟩ rfl ?_
    refine r_iast X fX_6 dX2_takesByte_45 h (fun σ4 h => ?_)
    refine r_aload_n X dX2_takesByte_46 rfl 1 rfl ?_
    refine r_getR (c1 := 6) X fg_X2_9_X2 fX_5 rfl dX2_takesByte_47 ?_
    refine r_iload_n X dX2_takesByte_50 rfl 2 rfl ?_
    refine r_iald X fX_6 dX2_takesByte_51 h (fun h => ?_)
    refine r_iconst (v := -1) X dX2_takesByte_52 (by decide) ?_
    refine r_icmp_eq X 60 dX2_takesByte_53 (by decide) h (fun h => ?_) (fun h => ?_)
    · refine r_iconst (v := 0) X dX2_takesByte_60 (by decide) ?_
      exact r_zretz X rfl (by decide) dX2_takesByte_61 h
    · refine r_iconst (v := 1) X dX2_takesByte_56 (by decide) ?_
      refine r_goto X 61 dX2_takesByte_57 (by decide) ?_
      exact r_zretz X rfl (by decide) dX2_takesByte_61 h
  · have h := hB q7_0
    obtain ⟨hA, hB⟩ := ite_of h
    by_cases q7_1 : a2 = 1
    · have h := hA q7_1
      refine r_tabIn (kx := 1) (off := 55) X 62 dX2_takesByte_7 q7_1 (by decide) (by decide) (by decide) (by decide) ?_
      refine r_aload_n X dX2_takesByte_62 rfl 1 rfl ?_
      refine r_getR (c1 := 7) X fg_X2_15_X2 fX_5 rfl dX2_takesByte_63 ?_
      refine r_iload_n X dX2_takesByte_66 rfl 2 rfl ?_
      refine r_iload X dX2_takesByte_67 0 rfl ?_
      refine r_iast X fX_7 dX2_takesByte_69 h (fun σ6 h => ?_)
      refine r_iload X dX2_takesByte_70 0 rfl ?_
      refine r_bipush (v := 6) X dX2_takesByte_72 (by decide) ?_
      obtain ⟨r7, σ8, hc_9, h⟩ := bnd_of h
      refine r_callN (As := [.int v1, .int (6 : Int32)]) (rest := []) (st2 := [.int r7]) X cv_X2_28 (c_X9_isBelow M.2.1 hc_9) rfl rfl rfl (Nat.le_of_ble_eq_true rfl) ⟨⟨rfl, rfl⟩, by decide, by decide⟩ dX2_takesByte_74 ⟨rfl, rfl⟩ rfl ?_
      exact r_zretg X rfl dX2_takesByte_77 h
    · have h := hB q7_1
      obtain ⟨hA, hB⟩ := ite_of h
      by_cases q7_2 : a2 = 2
      · have h := hA q7_2
        refine r_tabIn (kx := 2) (off := 71) X 78 dX2_takesByte_7 q7_2 (by decide) (by decide) (by decide) (by decide) ?_
        refine r_aload_n X dX2_takesByte_78 rfl 1 rfl ?_
        refine r_getR (c1 := 8) X fg_X2_18_X2 fX_5 rfl dX2_takesByte_79 ?_
        refine r_iload_n X dX2_takesByte_82 rfl 2 rfl ?_
        refine r_iload X dX2_takesByte_83 0 rfl ?_
        refine r_iast X fX_8 dX2_takesByte_85 h (fun σ10 h => ?_)
        refine r_iload X dX2_takesByte_86 0 rfl ?_
        refine r_bipush (v := 6) X dX2_takesByte_88 (by decide) ?_
        obtain ⟨r11, σ12, hc_16, h⟩ := bnd_of h
        refine r_callN (As := [.int v1, .int (6 : Int32)]) (rest := []) (st2 := [.int r11]) X cv_X2_28 (c_X9_isBelow M.2.1 hc_16) rfl rfl rfl (Nat.le_of_ble_eq_true rfl) ⟨⟨rfl, rfl⟩, by decide, by decide⟩ dX2_takesByte_90 ⟨rfl, rfl⟩ rfl ?_
        refine r_if_eq X 117 dX2_takesByte_93 (by decide) h (fun h => ?_) (fun h => ?_)
        · refine r_iconst (v := 0) X dX2_takesByte_117 (by decide) ?_
          exact r_zretz X rfl (by decide) dX2_takesByte_118 h
        · refine r_aload_n X dX2_takesByte_96 rfl 1 rfl ?_
          refine r_aload_n X dX2_takesByte_97 rfl 1 rfl ?_
          refine r_getR (c1 := 7) X fg_X2_15_X2 fX_5 rfl dX2_takesByte_98 ?_
          refine r_iload_n X dX2_takesByte_101 rfl 2 rfl ?_
          refine r_iald X fX_7 dX2_takesByte_102 h (fun h => ?_)
          refine r_iload X dX2_takesByte_103 0 rfl ?_
          refine r_iload_n X dX2_takesByte_105 rfl 2 rfl ?_
          refine r_iload_n X dX2_takesByte_106 rfl 2 rfl ?_
          obtain ⟨r13, σ14, hc_15, h⟩ := bnd_of h
          refine r_callV (As := [.int (σ12 7 (a1).toNatClampNeg), .int v1, .int a1, .int a1]) (rest := []) (st2 := [.int r13]) (c := 5) X cv_X2_32 (c_X2_liesAnother M.2.1 hc_15) rfl (ci := 2) rfl fX_5 rfl rfl (Nat.le_of_ble_eq_true rfl) ⟨⟨rfl, rfl⟩, by decide, by decide⟩ dX2_takesByte_107 ⟨rfl, rfl⟩ rfl ?_
          refine r_if_ne X 117 dX2_takesByte_110 (by decide) h (fun h => ?_) (fun h => ?_)
          · refine r_iconst (v := 1) X dX2_takesByte_113 (by decide) ?_
            refine r_goto X 118 dX2_takesByte_114 (by decide) ?_
            exact r_zretz X rfl (by decide) dX2_takesByte_118 h
          · refine r_iconst (v := 0) X dX2_takesByte_117 (by decide) ?_
            exact r_zretz X rfl (by decide) dX2_takesByte_118 h
      · have h := hB q7_2
        obtain ⟨hA, hB⟩ := ite_of h
        by_cases q7_3 : a2 = 3
        · have h := hA q7_3
          refine r_tabIn (kx := 3) (off := 112) X 119 dX2_takesByte_7 q7_3 (by decide) (by decide) (by decide) (by decide) ?_
          refine r_aload_n X dX2_takesByte_119 rfl 1 rfl ?_
          refine r_getR (c1 := 9) X fg_X2_21_X2 fX_5 rfl dX2_takesByte_120 ?_
          refine r_iload_n X dX2_takesByte_123 rfl 2 rfl ?_
          refine r_iload X dX2_takesByte_124 0 rfl ?_
          refine r_iast X fX_9 dX2_takesByte_126 h (fun σ17 h => ?_)
          refine r_iload X dX2_takesByte_127 0 rfl ?_
          refine r_iconst (v := 1) X dX2_takesByte_129 (by decide) ?_
          refine r_icmp_lt X 144 dX2_takesByte_130 (by decide) h (fun h => ?_) (fun h => ?_)
          · refine r_iconst (v := 0) X dX2_takesByte_144 (by decide) ?_
            exact r_zretz X rfl (by decide) dX2_takesByte_145 h
          · refine r_iload X dX2_takesByte_133 0 rfl ?_
            refine r_bipush (v := 9) X dX2_takesByte_135 (by decide) ?_
            refine r_icmp_gt X 144 dX2_takesByte_137 (by decide) h (fun h => ?_) (fun h => ?_)
            · refine r_iconst (v := 0) X dX2_takesByte_144 (by decide) ?_
              exact r_zretz X rfl (by decide) dX2_takesByte_145 h
            · refine r_iconst (v := 1) X dX2_takesByte_140 (by decide) ?_
              refine r_goto X 145 dX2_takesByte_141 (by decide) ?_
              exact r_zretz X rfl (by decide) dX2_takesByte_145 h
        · have h := hB q7_3
          refine r_tabOut X 146 dX2_takesByte_7 (by have e0 := lv_neT q7_0 (show (0 : Int32).toInt = 0 from by decide); have e1 := lv_neT q7_1 (show (1 : Int32).toInt = 1 from by decide); have e2 := lv_neT q7_2 (show (2 : Int32).toInt = 2 from by decide); have e3 := lv_neT q7_3 (show (3 : Int32).toInt = 3 from by decide); omega) (by decide) ?_
          refine r_iload_n X dX2_takesByte_146 rfl 4 rfl ?_
          refine r_bipush (v := 59) X dX2_takesByte_147 (by decide) ?_
          refine r_icmp_ne X 156 dX2_takesByte_149 (by decide) h (fun h => ?_) (fun h => ?_)
          · refine r_iconst (v := 1) X dX2_takesByte_152 (by decide) ?_
            refine r_goto X 157 dX2_takesByte_153 (by decide) ?_
            exact r_zretz X rfl (by decide) dX2_takesByte_157 h
          · refine r_iconst (v := 0) X dX2_takesByte_156 (by decide) ?_
            exact r_zretz X rfl (by decide) dX2_takesByte_157 h
set_option maxRecDepth 100000 in
set_option maxHeartbeats 4000000 in
theorem t_X3_takeG_b61 {M : am_M} {D : va_G} {cT : Nat → ClassId} {ad : Nat → Nat} (X : am_X M (D, cT, ad, NX, LX) cX3_take RX3 4 none) {c1 : Nat} (hc1 : Is_X8 c1) {z : Unit × Sg} {k7 : Sg → Int32 → Option (Unit × Sg)} (hk7 : ∀ (σ : Sg) (x2 : Int32), k7 σ x2 = some z → am_At M { frames := 2, cells := 0, slots := 0, locals := 49 } (D, cT, ad, NX, LX) (amQv M (D, cT, ad, NX, LX) z) 4 7 [(0, .ref (ad 5)), (1, .ref (ad c1)), (2, .int x2)] [] σ) (σ : Sg) (x2 : Int32) (h : f_X3_takeG_b61 c1 k7 σ x2 = some z) : am_At M { frames := 2, cells := 0, slots := 0, locals := 49 } (D, cT, ad, NX, LX) (amQv M (D, cT, ad, NX, LX) z) 4 61 [(0, .ref (ad 5)), (1, .ref (ad c1)), (2, .int x2)] [] σ := by
  unfold f_X3_takeG_b61 at h
  refine r_iinc X [(2, .int (x2 + (1 : Int32))), (0, .ref (ad 5)), (1, .ref (ad c1))] dX3_take_61 2 rfl (v := x2 + (1 : Int32)) (by rfl) (by decide) rfl ?_
  refine r_letv h (fun v1 h => ?_)
  refine r_goto X 7 dX3_take_64 (by decide) ?_
  refine r_sub (lv' := [(0, .ref (ad 5)), (1, .ref (ad c1)), (2, .int v1)]) [1, 2, 0] rfl ?_
  exact hk7 σ v1 h
set_option maxRecDepth 100000 in
set_option maxHeartbeats 4000000 in
theorem t_X3_takeG_b56 {M : am_M} {D : va_G} {cT : Nat → ClassId} {ad : Nat → Nat} (X : am_X M (D, cT, ad, NX, LX) cX3_take RX3 4 none) {c1 : Nat} (hc1 : Is_X8 c1) {z : Unit × Sg} {k7 : Sg → Int32 → Option (Unit × Sg)} (hk7 : ∀ (σ : Sg) (x2 : Int32), k7 σ x2 = some z → am_At M { frames := 2, cells := 0, slots := 0, locals := 49 } (D, cT, ad, NX, LX) (amQv M (D, cT, ad, NX, LX) z) 4 7 [(0, .ref (ad 5)), (1, .ref (ad c1)), (2, .int x2)] [] σ) (σ : Sg) (x2 : Int32) (h : f_X3_takeG_b56 c1 k7 σ x2 = some z) : am_At M { frames := 2, cells := 0, slots := 0, locals := 49 } (D, cT, ad, NX, LX) (amQv M (D, cT, ad, NX, LX) z) 4 56 [(0, .ref (ad 5)), (1, .ref (ad c1)), (2, .int x2)] [] σ := by
  unfold f_X3_takeG_b56 at h
  refine r_aload_n X dX3_take_56 rfl 0 rfl ?_
  refine r_iload_n X dX3_take_57 rfl 2 rfl ?_
  refine r_putI X fp_X3_15_X2 fX_5 rfl dX3_take_58 h (fun σ1 h => ?_)
  exact t_X3_takeG_b61 X hc1 hk7 σ1 x2 h
set_option maxRecDepth 100000 in
set_option maxHeartbeats 4000000 in
theorem t_X3_takeG_b142 {M : am_M} {D : va_G} {cT : Nat → ClassId} {ad : Nat → Nat} (X : am_X M (D, cT, ad, NX, LX) cX3_take RX3 4 none) {c1 : Nat} (hc1 : Is_X8 c1) {z : Unit × Sg} (σ : Sg) (s0 : Int32) (h : f_X3_takeG_b142 c1 σ s0 = some z) : am_At M { frames := 2, cells := 0, slots := 0, locals := 49 } (D, cT, ad, NX, LX) (amQv M (D, cT, ad, NX, LX) z) 4 142 [] [.int s0, .ref (ad 5)] σ := by
  unfold f_X3_takeG_b142 at h
  refine r_putI X fp_X3_9_X2 fX_5 rfl dX3_take_142 h (fun σ1 h => ?_)
  exact r_vretz X rfl dX3_take_145 h
set_option maxRecDepth 100000 in
set_option maxHeartbeats 4000000 in
theorem t_X3_takeG_b118 {M : am_M} {D : va_G} {cT : Nat → ClassId} {ad : Nat → Nat} (X : am_X M (D, cT, ad, NX, LX) cX3_take RX3 4 none) {c1 : Nat} (hc1 : Is_X8 c1) {z : Unit × Sg} (σ : Sg) (h : f_X3_takeG_b118 c1 σ = some z) : am_At M { frames := 2, cells := 0, slots := 0, locals := 49 } (D, cT, ad, NX, LX) (amQv M (D, cT, ad, NX, LX) z) 4 118 [(0, .ref (ad 5)), (1, .ref (ad c1))] [] σ := by
  unfold f_X3_takeG_b118 at h
  refine r_aload_n X dX3_take_118 rfl 0 rfl ?_
  refine r_aload_n X dX3_take_119 rfl 0 rfl ?_
  refine r_getI X fg_X3_15_X2 fX_5 rfl dX3_take_120 ?_
  refine r_iconst (v := -1) X dX3_take_123 (by decide) ?_
  refine r_icmp_ne X 141 dX3_take_124 (by decide) h (fun h => ?_) (fun h => ?_)
  · refine r_aload_n X dX3_take_127 rfl 1 rfl ?_
    refine r_getI X fg_X3_27_X8 hc1.1 rfl dX3_take_128 ?_
    refine r_iconst (v := 1) X dX3_take_131 (by decide) ?_
    refine r_iadd X dX3_take_132 ?_
    refine r_aload_n X dX3_take_133 rfl 0 rfl ?_
    refine r_getI X fg_X3_24_X2 fX_5 rfl dX3_take_134 ?_
    refine r_idiv X dX3_take_137 h (fun h => ?_)
    refine r_goto X 142 dX3_take_138 (by decide) ?_
    refine r_sub (lv' := []) [] rfl ?_
    exact t_X3_takeG_b142 X hc1 σ (((σ c1 2) + (1 : Int32)) / (σ 5 0)) h
  · refine r_iconst (v := 0) X dX3_take_141 (by decide) ?_
    refine r_sub (lv' := []) [] rfl ?_
    exact t_X3_takeG_b142 X hc1 σ (0 : Int32) h
set_option maxRecDepth 100000 in
set_option maxHeartbeats 4000000 in
theorem t_X3_takeG_b97 {M : am_M} {D : va_G} {cT : Nat → ClassId} {ad : Nat → Nat} (X : am_X M (D, cT, ad, NX, LX) cX3_take RX3 4 none) {c1 : Nat} (hc1 : Is_X8 c1) {z : Unit × Sg} (σ : Sg) (s0 : Int32) (h : f_X3_takeG_b97 c1 σ s0 = some z) : am_At M { frames := 2, cells := 0, slots := 0, locals := 49 } (D, cT, ad, NX, LX) (amQv M (D, cT, ad, NX, LX) z) 4 97 [(0, .ref (ad 5)), (1, .ref (ad c1))] [.int s0] σ := by
  unfold f_X3_takeG_b97 at h
  refine r_istore_n X [(2, .int s0), (0, .ref (ad 5)), (1, .ref (ad c1))] dX3_take_97 rfl (by decide) rfl ?_
  refine r_aload_n X dX3_take_98 rfl 1 rfl ?_
  refine r_getI X fg_X3_15_X2 fX_5 rfl dX3_take_99 ?_
  refine r_iconst (v := -1) X dX3_take_102 (by decide) ?_
  refine r_icmp_ne X 118 dX3_take_103 (by decide) h (fun h => ?_) (fun h => ?_)
  · refine r_iload_n X dX3_take_106 rfl 0 rfl ?_
    refine r_if_ne X 118 dX3_take_107 (by decide) h (fun h => ?_) (fun h => ?_)
    · refine r_aload_n X dX3_take_110 rfl 1 rfl ?_
      refine r_aload_n X dX3_take_111 rfl 2 rfl ?_
      refine r_getI X fg_X3_27_X8 hc1.1 rfl dX3_take_112 ?_
      refine r_putI X fp_X3_15_X2 fX_5 rfl dX3_take_115 h (fun σ1 h => ?_)
      refine r_sub (lv' := [(0, .ref (ad 5)), (1, .ref (ad c1))]) [1, 2] rfl ?_
      exact t_X3_takeG_b118 X hc1 σ1 h
    · refine r_sub (lv' := [(0, .ref (ad 5)), (1, .ref (ad c1))]) [1, 2] rfl ?_
      exact t_X3_takeG_b118 X hc1 σ h
  · refine r_sub (lv' := [(0, .ref (ad 5)), (1, .ref (ad c1))]) [1, 2] rfl ?_
    exact t_X3_takeG_b118 X hc1 σ h
set_option maxRecDepth 100000 in
set_option maxHeartbeats 4000000 in
theorem t_X3_takeG_b92 {M : am_M} {D : va_G} {cT : Nat → ClassId} {ad : Nat → Nat} (X : am_X M (D, cT, ad, NX, LX) cX3_take RX3 4 none) {c1 : Nat} (hc1 : Is_X8 c1) {z : Unit × Sg} (σ : Sg) (h : f_X3_takeG_b92 c1 σ = some z) : am_At M { frames := 2, cells := 0, slots := 0, locals := 49 } (D, cT, ad, NX, LX) (amQv M (D, cT, ad, NX, LX) z) 4 92 [(0, .ref (ad 5)), (1, .ref (ad c1))] [] σ := by
  unfold f_X3_takeG_b92 at h
  refine r_iconst (v := 1) X dX3_take_92 (by decide) ?_
  refine r_goto X 97 dX3_take_93 (by decide) ?_
  exact t_X3_takeG_b97 X hc1 σ (1 : Int32) h
set_option maxRecDepth 100000 in
set_option maxHeartbeats 4000000 in
theorem t_X3_takeG_b67 {M : am_M} {D : va_G} {cT : Nat → ClassId} {ad : Nat → Nat} (X : am_X M (D, cT, ad, NX, LX) cX3_take RX3 4 none) {c1 : Nat} (hc1 : Is_X8 c1) {z : Unit × Sg} (σ : Sg) (h : f_X3_takeG_b67 c1 σ = some z) : am_At M { frames := 2, cells := 0, slots := 0, locals := 49 } (D, cT, ad, NX, LX) (amQv M (D, cT, ad, NX, LX) z) 4 67 [(0, .ref (ad 5)), (1, .ref (ad c1))] [] σ := by
  unfold f_X3_takeG_b67 at h
  refine r_aload_n X dX3_take_67 rfl 1 rfl ?_
  refine r_getI X fg_X3_27_X8 hc1.1 rfl dX3_take_68 ?_
  refine r_if_eq X 92 dX3_take_71 (by decide) h (fun h => ?_) (fun h => ?_)
  · exact t_X3_takeG_b92 X hc1 σ h
  · refine r_aload_n X dX3_take_74 rfl 1 rfl ?_
    refine r_getI X fg_X3_27_X8 hc1.1 rfl dX3_take_75 ?_
    refine r_aload_n X dX3_take_78 rfl 0 rfl ?_
    refine r_getI X fg_X3_24_X2 fX_5 rfl dX3_take_79 ?_
    refine r_irem X dX3_take_82 h (fun h => ?_)
    refine r_aload_n X dX3_take_83 rfl 0 rfl ?_
    refine r_getI X fg_X3_24_X2 fX_5 rfl dX3_take_84 ?_
    refine r_iconst (v := 1) X dX3_take_87 (by decide) ?_
    refine r_isub X dX3_take_88 ?_
    refine r_icmp_ne X 96 dX3_take_89 (by decide) h (fun h => ?_) (fun h => ?_)
    · exact t_X3_takeG_b92 X hc1 σ h
    · refine r_iconst (v := 0) X dX3_take_96 (by decide) ?_
      exact t_X3_takeG_b97 X hc1 σ (0 : Int32) h
set_option maxRecDepth 100000 in
set_option maxHeartbeats 4000000 in
theorem t_X3_takeG_b7 {M : am_M} {D : va_G} {cT : Nat → ClassId} {ad : Nat → Nat} (X : am_X M (D, cT, ad, NX, LX) cX3_take RX3 4 none) {c1 : Nat} (hc1 : Is_X8 c1) {z : Unit × Sg} {k7 : Sg → Int32 → Option (Unit × Sg)} (hk7 : ∀ (σ : Sg) (x2 : Int32), k7 σ x2 = some z → am_At M { frames := 2, cells := 0, slots := 0, locals := 49 } (D, cT, ad, NX, LX) (amQv M (D, cT, ad, NX, LX) z) 4 7 [(0, .ref (ad 5)), (1, .ref (ad c1)), (2, .int x2)] [] σ) (σ : Sg) (x2 : Int32) (h : f_X3_takeG_b7 c1 k7 σ x2 = some z) : am_At M { frames := 2, cells := 0, slots := 0, locals := 49 } (D, cT, ad, NX, LX) (amQv M (D, cT, ad, NX, LX) z) 4 7 [(0, .ref (ad 5)), (1, .ref (ad c1)), (2, .int x2)] [] σ := by
  unfold f_X3_takeG_b7 at h
  refine r_iload_n X dX3_take_7 rfl 2 rfl ?_
  refine r_aload_n X dX3_take_8 rfl 1 rfl ?_
  refine r_getI X fg_X3_27_X8 hc1.1 rfl dX3_take_9 ?_
  refine r_icmp_ge X 67 dX3_take_12 (by decide) h (fun h => ?_) (fun h => ?_)
  · refine r_sub (lv' := [(0, .ref (ad 5)), (1, .ref (ad c1))]) [0, 1] rfl ?_
    exact t_X3_takeG_b67 X hc1 σ h
  · refine r_aload_n X dX3_take_15 rfl 0 rfl ?_
    refine r_getI X fg_X3_15_X2 fX_5 rfl dX3_take_16 ?_
    refine r_iconst (v := -1) X dX3_take_19 (by decide) ?_
    refine r_icmp_ne X 67 dX3_take_20 (by decide) h (fun h => ?_) (fun h => ?_)
    · refine r_iload_n X dX3_take_23 rfl 2 rfl ?_
      refine r_aload_n X dX3_take_24 rfl 0 rfl ?_
      refine r_getI X fg_X3_24_X2 fX_5 rfl dX3_take_25 ?_
      refine r_idiv X dX3_take_28 h (fun h => ?_)
      refine r_leti h (fun v1 h => ?_)
      refine r_istore_n X [(3, .int v1), (0, .ref (ad 5)), (1, .ref (ad c1)), (2, .int x2)] dX3_take_29 rfl (by decide) rfl ?_
      refine r_iload_n X dX3_take_30 rfl 0 rfl ?_
      refine r_bipush (v := 8) X dX3_take_31 (by decide) ?_
      refine r_icmp_ge X 56 dX3_take_33 (by decide) h (fun h => ?_) (fun h => ?_)
      · refine r_sub (lv' := [(0, .ref (ad 5)), (1, .ref (ad c1)), (2, .int x2)]) [1, 2, 3] rfl ?_
        exact t_X3_takeG_b56 X hc1 hk7 σ x2 h
      · refine r_aload_n X dX3_take_36 rfl 1 rfl ?_
        refine r_iload_n X dX3_take_37 rfl 0 rfl ?_
        refine r_iload_n X dX3_take_38 rfl 3 rfl ?_
        refine r_aload_n X dX3_take_39 rfl 1 rfl ?_
        refine r_getI X fg_X3_24_X2 fX_5 rfl dX3_take_40 ?_
        refine r_irem X dX3_take_43 h (fun h => ?_)
        refine r_aload_n X dX3_take_44 rfl 2 rfl ?_
        refine r_getR (c1 := (c1 + 1)) X fg_X3_30_X8 hc1.1 rfl dX3_take_45 ?_
        refine r_iload_n X dX3_take_48 rfl 3 rfl ?_
        refine r_iald X hc1.2 dX3_take_49 h (fun h => ?_)
        obtain ⟨r2, σ3, hc_4, h⟩ := bnd_of h
        refine r_callA (As := [.int v1, .int (x2 - x2 / (σ 5 0) * (σ 5 0)), .int (σ (c1 + 1) (x2).toNatClampNeg)]) (rest := []) (st2 := [.int r2]) (c := 5) X cv_X3_34_X2 (c_X2_takesByte M.2.1 hc_4) rfl (ci := 2) rfl fX_5 rfl rfl (Nat.le_of_ble_eq_true rfl) ⟨⟨rfl, rfl⟩, by decide, by decide⟩ dX3_take_50 ⟨rfl, rfl⟩ rfl ?_
        refine r_if_ne X 61 dX3_take_53 (by decide) h (fun h => ?_) (fun h => ?_)
        · refine r_sub (lv' := [(0, .ref (ad 5)), (1, .ref (ad c1)), (2, .int x2)]) [1, 2, 3] rfl ?_
          exact t_X3_takeG_b56 X hc1 hk7 σ3 x2 h
        · refine r_sub (lv' := [(0, .ref (ad 5)), (1, .ref (ad c1)), (2, .int x2)]) [1, 2, 3] rfl ?_
          exact t_X3_takeG_b61 X hc1 hk7 σ3 x2 h
    · refine r_sub (lv' := [(0, .ref (ad 5)), (1, .ref (ad c1))]) [0, 1] rfl ?_
      exact t_X3_takeG_b67 X hc1 σ h
theorem t_X3_takeG_l7 {M : am_M} {D : va_G} {cT : Nat → ClassId} {ad : Nat → Nat} (X : am_X M (D, cT, ad, NX, LX) cX3_take RX3 4 none) {c1 : Nat} (hc1 : Is_X8 c1) {z : Unit × Sg} (n : Nat) : ∀ (σ : Sg) (x2 : Int32), f_X3_takeG_l7 c1 n σ x2 = some z → am_At M { frames := 2, cells := 0, slots := 0, locals := 49 } (D, cT, ad, NX, LX) (amQv M (D, cT, ad, NX, LX) z) 4 7 [(0, .ref (ad 5)), (1, .ref (ad c1)), (2, .int x2)] [] σ := by
  induction n with
  | zero =>
    intro σ x2 h
    have h2 : (none : Option (Unit × Sg)) = some z := h
    cases h2
  | succ n ih =>
    intro σ x2 h
    exact t_X3_takeG_b7 X hc1 (k7 := f_X3_takeG_l7 c1 n) ih σ x2 h
set_option maxRecDepth 100000 in
set_option maxHeartbeats 4000000 in
theorem c_X3_takeG (l : Launch) {c1 : Nat} (hc1 : Is_X8 c1) {σ : Sg} {z : Unit × Sg} (h : f_X3_takeG c1 σ = some z) : am_Met l yX3_take cX3_take 4 none { frames := 2, cells := 0, slots := 0, locals := 49 } NX LX (fun ad => [.ref (ad 5), .ref (ad c1)]) σ z.2 (fun _ => none) := by
  refine am_enter (by decide +kernel) (fun ad => Nat.le_of_ble_eq_true rfl) (fun M D cT ad hl X => ?_)
  subst hl
  refine r_lv (lv' := [(0, .ref (ad 5)), (1, .ref (ad c1))]) rfl ?_
  unfold f_X3_takeG at h
  refine r_aload_n X dX3_take_0 rfl 0 rfl ?_
  refine r_iconst (v := -1) X dX3_take_1 (by decide) ?_
  refine r_putI X fp_X3_15_X2 fX_5 rfl dX3_take_2 h (fun σ1 h => ?_)
  refine r_iconst (v := 0) X dX3_take_5 (by decide) ?_
  refine r_istore_n X [(2, .int (0 : Int32)), (0, .ref (ad 5)), (1, .ref (ad c1))] dX3_take_6 rfl (by decide) rfl ?_
  refine r_sub (lv' := [(0, .ref (ad 5)), (1, .ref (ad c1)), (2, .int (0 : Int32))]) [1, 2, 0] rfl ?_
  exact t_X3_takeG_l7 X hc1 300 σ1 (0 : Int32) h
set_option maxRecDepth 100000 in
set_option maxHeartbeats 4000000 in
theorem c_X9_markStale (l : Launch) {σ : Sg} {z : Unit × Sg} (h : f_X9_markStale σ = some z) : am_Met l yX9_markStale cX9_markStale 1 none { frames := 0, cells := 0, slots := 0, locals := 0 } NX LX (fun ad => [.ref (ad 0)]) σ z.2 (fun _ => none) := by
  refine am_enter (by decide +kernel) (fun ad => Nat.le_of_ble_eq_true rfl) (fun M D cT ad hl X => ?_)
  subst hl
  refine r_lv (lv' := [(0, .ref (ad 0))]) rfl ?_
  unfold f_X9_markStale at h
  refine r_aload_n X dX9_markStale_0 rfl 0 rfl ?_
  refine r_iconst (v := 1) X dX9_markStale_1 (by decide) ?_
  refine r_putZ X fp_X9_79_X9 fX_0 rfl (by decide) dX9_markStale_2 h (fun σ1 h => ?_)
  refine r_aload_n X dX9_markStale_5 rfl 0 rfl ?_
  refine r_iconst (v := 1) X dX9_markStale_6 (by decide) ?_
  refine r_putZ X fp_X9_83_X9 fX_0 rfl (by decide) dX9_markStale_7 h (fun σ2 h => ?_)
  exact r_vretz X rfl dX9_markStale_10 h
set_option maxRecDepth 100000 in
set_option maxHeartbeats 4000000 in
theorem t_X9_takeTextAnew_b29 {M : am_M} {D : va_G} {cT : Nat → ClassId} {ad : Nat → Nat} (X : am_X M (D, cT, ad, NX, LX) cX9_takeTextAnew RX9 2 none) {z : Unit × Sg} (σ : Sg) (h : f_X9_takeTextAnew_b29 σ = some z) : am_At M { frames := 3, cells := 0, slots := 0, locals := 72 } (D, cT, ad, NX, LX) (amQv M (D, cT, ad, NX, LX) z) 2 29 [(0, .ref (ad 0))] [] σ := by
  unfold f_X9_takeTextAnew_b29 at h
  refine r_aload_n X dX9_takeTextAnew_29 rfl 0 rfl ?_
  obtain ⟨r1, σ2, hc_3, h⟩ := bnd_of h
  refine r_callV (As := []) (rest := []) (st2 := []) (c := 0) X cv_X9_142 (c_X9_markStale M.2.1 hc_3) rfl (ci := 8) rfl fX_0 rfl rfl (Nat.le_of_ble_eq_true rfl) ⟨⟨rfl, rfl⟩, by decide, by decide⟩ dX9_takeTextAnew_30 ⟨rfl, rfl⟩ rfl ?_
  exact r_vretz X rfl dX9_takeTextAnew_33 h
set_option maxRecDepth 100000 in
set_option maxHeartbeats 4000000 in
theorem c_X9_takeTextAnew (l : Launch) {σ : Sg} {a1 : Int32} {z : Unit × Sg} (h : f_X9_takeTextAnew σ a1 = some z) : am_Met l yX9_takeTextAnew cX9_takeTextAnew 2 none { frames := 3, cells := 0, slots := 0, locals := 72 } NX LX (fun ad => [.ref (ad 0), .int a1]) σ z.2 (fun _ => none) := by
  refine am_enter (by decide +kernel) (fun ad => Nat.le_of_ble_eq_true rfl) (fun M D cT ad hl X => ?_)
  subst hl
  refine r_lv (lv' := [(0, .ref (ad 0)), (1, .int a1)]) rfl ?_
  unfold f_X9_takeTextAnew at h
  refine r_iload_n X dX9_takeTextAnew_0 rfl 1 rfl ?_
  refine r_if_ne X 18 dX9_takeTextAnew_1 (by decide) h (fun h => ?_) (fun h => ?_)
  · refine r_aload_n X dX9_takeTextAnew_4 rfl 0 rfl ?_
    refine r_getR (c1 := 5) X fg_X9_24_X9 fX_0 rfl dX9_takeTextAnew_5 ?_
    refine r_aload_n X dX9_takeTextAnew_8 rfl 0 rfl ?_
    refine r_getR (c1 := 1) X fg_X9_14_X9 fX_0 rfl dX9_takeTextAnew_9 ?_
    obtain ⟨r4, σ5, hc_6, h⟩ := bnd_of h
    refine r_callU (As := [.ref (ad 1)]) (rest := []) (st2 := []) (c := 5) X cv_X9_336_X2 (c_X3_takeG M.2.1 iX8_1 hc_6) rfl (ci := 2) rfl fX_5 rfl rfl (Nat.le_of_ble_eq_true rfl) ⟨⟨rfl, rfl⟩, by decide, by decide⟩ dX9_takeTextAnew_12 ⟨rfl, rfl⟩ rfl ?_
    refine r_goto X 29 dX9_takeTextAnew_15 (by decide) ?_
    refine r_sub (lv' := [(0, .ref (ad 0))]) [0] rfl ?_
    exact t_X9_takeTextAnew_b29 X σ5 h
  · refine r_aload_n X dX9_takeTextAnew_18 rfl 0 rfl ?_
    refine r_getR (c1 := 10) X fg_X9_31_X9 fX_0 rfl dX9_takeTextAnew_19 ?_
    refine r_aload_n X dX9_takeTextAnew_22 rfl 0 rfl ?_
    refine r_getR (c1 := 3) X fg_X9_18_X9 fX_0 rfl dX9_takeTextAnew_23 ?_
    obtain ⟨r1, σ2, hc_3, h⟩ := bnd_of h
    refine r_callU (As := [.ref (ad 3)]) (rest := []) (st2 := []) (c := 10) X cv_X9_340_X4 (c_X3_takeN M.2.1 iX8_3 hc_3) rfl (ci := 3) rfl fX_10 rfl rfl (Nat.le_of_ble_eq_true rfl) ⟨⟨rfl, rfl⟩, by decide, by decide⟩ dX9_takeTextAnew_26 ⟨rfl, rfl⟩ rfl ?_
    refine r_sub (lv' := [(0, .ref (ad 0))]) [0] rfl ?_
    exact t_X9_takeTextAnew_b29 X σ2 h
set_option maxRecDepth 100000 in
set_option maxHeartbeats 4000000 in
theorem c_X9_type (l : Launch) {σ : Sg} {a1 : Int32} {a2 : Int32} {z : Int32 × Sg} (h : f_X9_type σ a1 a2 = some z) : am_Met l yX9_type cX9_type 4 (some .int) { frames := 4, cells := 0, slots := 0, locals := 93 } NX LX (fun ad => [.ref (ad 0), .int a1, .int a2]) σ z.2 (fun _ => some (.int z.1)) := by
  refine am_enter (by decide +kernel) (fun ad => Nat.le_of_ble_eq_true rfl) (fun M D cT ad hl X => ?_)
  subst hl
  refine r_lv (lv' := [(0, .ref (ad 0)), (1, .int a1), (2, .int a2)]) rfl ?_
  unfold f_X9_type at h
  refine r_iload_n X dX9_type_0 rfl 1 rfl ?_
  refine r_iconst (v := 2) X dX9_type_1 (by decide) ?_
  obtain ⟨r1, σ2, hc_15, h⟩ := bnd_of h
  refine r_callS (As := [.int a1, .int (2 : Int32)]) (rest := []) (st2 := [.int r1]) X cv_X9_91 (c_X9_isBelow M.2.1 hc_15) rfl rfl rfl (Nat.le_of_ble_eq_true rfl) ⟨⟨rfl, rfl⟩, by decide, by decide⟩ dX9_type_2 ⟨rfl, rfl⟩ rfl ?_
  refine r_if_eq X 18 dX9_type_5 (by decide) h (fun h => ?_) (fun h => ?_)
  · refine r_bipush (v := -2) X dX9_type_18 (by decide) ?_
    exact r_iretz X rfl dX9_type_20 h
  · refine r_iload_n X dX9_type_8 rfl 2 rfl ?_
    refine r_sipush (v := 256) X dX9_type_9 (by decide) ?_
    obtain ⟨r3, σ4, hc_14, h⟩ := bnd_of h
    refine r_callS (As := [.int a2, .int (256 : Int32)]) (rest := []) (st2 := [.int r3]) X cv_X9_91 (c_X9_isBelow M.2.1 hc_14) rfl rfl rfl (Nat.le_of_ble_eq_true rfl) ⟨⟨rfl, rfl⟩, by decide, by decide⟩ dX9_type_12 ⟨rfl, rfl⟩ rfl ?_
    refine r_if_ne X 21 dX9_type_15 (by decide) h (fun h => ?_) (fun h => ?_)
    · refine r_bipush (v := -2) X dX9_type_18 (by decide) ?_
      exact r_iretz X rfl dX9_type_20 h
    · refine r_aload_n X dX9_type_21 rfl 0 rfl ?_
      refine r_iload_n X dX9_type_22 rfl 1 rfl ?_
      obtain ⟨r5, σ6, hc_13, h⟩ := bnd_of h
      obtain ⟨gr5, h⟩ := gd_of h
      have fr5 := isX8_of gr5
      refine r_callV (As := [.int a1]) (rest := []) (st2 := [.ref (ad r5)]) (c := 0) X cv_X9_95 (c_X9_textOf M.2.1 hc_13) rfl (ci := 8) rfl fX_0 rfl rfl (Nat.le_of_ble_eq_true rfl) ⟨⟨rfl, rfl⟩, by decide, by decide⟩ dX9_type_23 ⟨rfl, rfl⟩ rfl ?_
      refine r_astore_n X [(3, .ref (ad r5)), (0, .ref (ad 0)), (1, .int a1), (2, .int a2)] dX9_type_26 rfl (by decide) rfl ?_
      refine r_aload_n X dX9_type_27 rfl 0 rfl ?_
      refine r_getI X fg_X9_99_X8 fr5.1 rfl dX9_type_28 ?_
      refine r_aload_n X dX9_type_31 rfl 0 rfl ?_
      refine r_getI X fg_X9_102_X8 fr5.1 rfl dX9_type_32 ?_
      refine r_icmp_lt X 41 dX9_type_35 (by decide) h (fun h => ?_) (fun h => ?_)
      · refine r_aload_n X dX9_type_41 rfl 0 rfl ?_
        refine r_iload_n X dX9_type_42 rfl 3 rfl ?_
        obtain ⟨r7, σ8, hc_12, h⟩ := bnd_of h
        refine r_callV (As := [.int a2]) (rest := []) (st2 := []) (c := r5) X cv_X9_105 (c_X8_add M.2.1 fr5 hc_12) rfl (ci := 7) rfl fr5.1 rfl rfl (Nat.le_of_ble_eq_true rfl) ⟨⟨rfl, rfl⟩, by decide, by decide⟩ dX9_type_43 ⟨rfl, rfl⟩ rfl ?_
        refine r_aload_n X dX9_type_46 rfl 1 rfl ?_
        refine r_iload_n X dX9_type_47 rfl 2 rfl ?_
        obtain ⟨r9, σ10, hc_11, h⟩ := bnd_of h
        refine r_callV (As := [.int a1]) (rest := []) (st2 := []) (c := 0) X cv_X9_108 (c_X9_takeTextAnew M.2.1 hc_11) rfl (ci := 8) rfl fX_0 rfl rfl (Nat.le_of_ble_eq_true rfl) ⟨⟨rfl, rfl⟩, by decide, by decide⟩ dX9_type_48 ⟨rfl, rfl⟩ rfl ?_
        refine r_aload_n X dX9_type_51 rfl 0 rfl ?_
        refine r_getI X fg_X9_99_X8 fr5.1 rfl dX9_type_52 ?_
        exact r_iretz X rfl dX9_type_55 h
      · refine r_bipush (v := -4) X dX9_type_38 (by decide) ?_
        exact r_iretz X rfl dX9_type_40 h
set_option maxRecDepth 100000 in
set_option maxHeartbeats 4000000 in
theorem c_X9_wipe (l : Launch) {σ : Sg} {a1 : Int32} {z : Int32 × Sg} (h : f_X9_wipe σ a1 = some z) : am_Met l yX9_wipe cX9_wipe 4 (some .int) { frames := 4, cells := 0, slots := 0, locals := 93 } NX LX (fun ad => [.ref (ad 0), .int a1]) σ z.2 (fun _ => some (.int z.1)) := by
  refine am_enter (by decide +kernel) (fun ad => Nat.le_of_ble_eq_true rfl) (fun M D cT ad hl X => ?_)
  subst hl
  refine r_lv (lv' := [(0, .ref (ad 0)), (1, .int a1)]) rfl ?_
  unfold f_X9_wipe at h
  refine r_iload_n X dX9_wipe_0 rfl 1 rfl ?_
  refine r_iconst (v := 2) X dX9_wipe_1 (by decide) ?_
  obtain ⟨r1, σ2, hc_11, h⟩ := bnd_of h
  refine r_callS (As := [.int a1, .int (2 : Int32)]) (rest := []) (st2 := [.int r1]) X cv_X9_91 (c_X9_isBelow M.2.1 hc_11) rfl rfl rfl (Nat.le_of_ble_eq_true rfl) ⟨⟨rfl, rfl⟩, by decide, by decide⟩ dX9_wipe_2 ⟨rfl, rfl⟩ rfl ?_
  refine r_if_ne X 11 dX9_wipe_5 (by decide) h (fun h => ?_) (fun h => ?_)
  · refine r_bipush (v := -2) X dX9_wipe_8 (by decide) ?_
    exact r_iretz X rfl dX9_wipe_10 h
  · refine r_aload_n X dX9_wipe_11 rfl 0 rfl ?_
    refine r_iload_n X dX9_wipe_12 rfl 1 rfl ?_
    obtain ⟨r3, σ4, hc_10, h⟩ := bnd_of h
    obtain ⟨gr3, h⟩ := gd_of h
    have fr3 := isX8_of gr3
    refine r_callV (As := [.int a1]) (rest := []) (st2 := [.ref (ad r3)]) (c := 0) X cv_X9_95 (c_X9_textOf M.2.1 hc_10) rfl (ci := 8) rfl fX_0 rfl rfl (Nat.le_of_ble_eq_true rfl) ⟨⟨rfl, rfl⟩, by decide, by decide⟩ dX9_wipe_13 ⟨rfl, rfl⟩ rfl ?_
    refine r_astore_n X [(2, .ref (ad r3)), (0, .ref (ad 0)), (1, .int a1)] dX9_wipe_16 rfl (by decide) rfl ?_
    refine r_aload_n X dX9_wipe_17 rfl 0 rfl ?_
    refine r_getI X fg_X9_99_X8 fr3.1 rfl dX9_wipe_18 ?_
    refine r_leti h (fun v5 h => ?_)
    refine r_istore_n X [(3, .int v5), (2, .ref (ad r3)), (0, .ref (ad 0)), (1, .int a1)] dX9_wipe_21 rfl (by decide) rfl ?_
    refine r_aload_n X dX9_wipe_22 rfl 1 rfl ?_
    refine r_iconst (v := 0) X dX9_wipe_23 (by decide) ?_
    refine r_putI X fp_X9_99_X8 fr3.1 rfl dX9_wipe_24 h (fun σ6 h => ?_)
    refine r_aload_n X dX9_wipe_27 rfl 2 rfl ?_
    refine r_iload_n X dX9_wipe_28 rfl 3 rfl ?_
    obtain ⟨r7, σ8, hc_9, h⟩ := bnd_of h
    refine r_callV (As := [.int a1]) (rest := []) (st2 := []) (c := 0) X cv_X9_108 (c_X9_takeTextAnew M.2.1 hc_9) rfl (ci := 8) rfl fX_0 rfl rfl (Nat.le_of_ble_eq_true rfl) ⟨⟨rfl, rfl⟩, by decide, by decide⟩ dX9_wipe_29 ⟨rfl, rfl⟩ rfl ?_
    refine r_iload_n X dX9_wipe_32 rfl 0 rfl ?_
    exact r_iretz X rfl dX9_wipe_33 h
set_option maxRecDepth 100000 in
set_option maxHeartbeats 4000000 in
theorem c_X9_undo (l : Launch) {σ : Sg} {a1 : Int32} {z : Int32 × Sg} (h : f_X9_undo σ a1 = some z) : am_Met l yX9_undo cX9_undo 3 (some .int) { frames := 4, cells := 0, slots := 0, locals := 93 } NX LX (fun ad => [.ref (ad 0), .int a1]) σ z.2 (fun _ => some (.int z.1)) := by
  refine am_enter (by decide +kernel) (fun ad => Nat.le_of_ble_eq_true rfl) (fun M D cT ad hl X => ?_)
  subst hl
  refine r_lv (lv' := [(0, .ref (ad 0)), (1, .int a1)]) rfl ?_
  unfold f_X9_undo at h
  refine r_iload_n X dX9_undo_0 rfl 1 rfl ?_
  refine r_iconst (v := 2) X dX9_undo_1 (by decide) ?_
  obtain ⟨r1, σ2, hc_10, h⟩ := bnd_of h
  refine r_callS (As := [.int a1, .int (2 : Int32)]) (rest := []) (st2 := [.int r1]) X cv_X9_91 (c_X9_isBelow M.2.1 hc_10) rfl rfl rfl (Nat.le_of_ble_eq_true rfl) ⟨⟨rfl, rfl⟩, by decide, by decide⟩ dX9_undo_2 ⟨rfl, rfl⟩ rfl ?_
  refine r_if_ne X 11 dX9_undo_5 (by decide) h (fun h => ?_) (fun h => ?_)
  · refine r_bipush (v := -2) X dX9_undo_8 (by decide) ?_
    exact r_iretz X rfl dX9_undo_10 h
  · refine r_aload_n X dX9_undo_11 rfl 0 rfl ?_
    refine r_iload_n X dX9_undo_12 rfl 1 rfl ?_
    obtain ⟨r3, σ4, hc_9, h⟩ := bnd_of h
    obtain ⟨gr3, h⟩ := gd_of h
    have fr3 := isX8_of gr3
    refine r_callV (As := [.int a1]) (rest := []) (st2 := [.ref (ad r3)]) (c := 0) X cv_X9_95 (c_X9_textOf M.2.1 hc_9) rfl (ci := 8) rfl fX_0 rfl rfl (Nat.le_of_ble_eq_true rfl) ⟨⟨rfl, rfl⟩, by decide, by decide⟩ dX9_undo_13 ⟨rfl, rfl⟩ rfl ?_
    refine r_astore_n X [(2, .ref (ad r3)), (0, .ref (ad 0)), (1, .int a1)] dX9_undo_16 rfl (by decide) rfl ?_
    refine r_aload_n X dX9_undo_17 rfl 0 rfl ?_
    refine r_getI X fg_X9_99_X8 fr3.1 rfl dX9_undo_18 ?_
    refine r_if_ne X 27 dX9_undo_21 (by decide) h (fun h => ?_) (fun h => ?_)
    · refine r_bipush (v := -3) X dX9_undo_24 (by decide) ?_
      exact r_iretz X rfl dX9_undo_26 h
    · refine r_aload_n X dX9_undo_27 rfl 0 rfl ?_
      refine r_dup X dX9_undo_28 rfl ?_
      refine r_getI X fg_X9_99_X8 fr3.1 rfl dX9_undo_29 ?_
      refine r_iconst (v := 1) X dX9_undo_32 (by decide) ?_
      refine r_isub X dX9_undo_33 ?_
      refine r_putI X fp_X9_99_X8 fr3.1 rfl dX9_undo_34 h (fun σ5 h => ?_)
      refine r_aload_n X dX9_undo_37 rfl 1 rfl ?_
      refine r_iload_n X dX9_undo_38 rfl 2 rfl ?_
      obtain ⟨r6, σ7, hc_8, h⟩ := bnd_of h
      refine r_callV (As := [.int a1]) (rest := []) (st2 := []) (c := 0) X cv_X9_108 (c_X9_takeTextAnew M.2.1 hc_8) rfl (ci := 8) rfl fX_0 rfl rfl (Nat.le_of_ble_eq_true rfl) ⟨⟨rfl, rfl⟩, by decide, by decide⟩ dX9_undo_39 ⟨rfl, rfl⟩ rfl ?_
      refine r_aload_n X dX9_undo_42 rfl 0 rfl ?_
      refine r_getI X fg_X9_99_X8 fr3.1 rfl dX9_undo_43 ?_
      exact r_iretz X rfl dX9_undo_46 h
set_option maxRecDepth 100000 in
set_option maxHeartbeats 4000000 in
theorem c_X9_fault (l : Launch) {σ : Sg} {a1 : Int32} {z : Int32 × Sg} (h : f_X9_fault σ a1 = some z) : am_Met l yX9_fault cX9_fault 2 (some .int) { frames := 1, cells := 0, slots := 0, locals := 21 } NX LX (fun ad => [.ref (ad 0), .int a1]) σ z.2 (fun _ => some (.int z.1)) := by
  refine am_enter (by decide +kernel) (fun ad => Nat.le_of_ble_eq_true rfl) (fun M D cT ad hl X => ?_)
  subst hl
  refine r_lv (lv' := [(0, .ref (ad 0)), (1, .int a1)]) rfl ?_
  unfold f_X9_fault at h
  refine r_iload_n X dX9_fault_0 rfl 1 rfl ?_
  refine r_iconst (v := 2) X dX9_fault_1 (by decide) ?_
  obtain ⟨r1, σ2, hc_3, h⟩ := bnd_of h
  refine r_callS (As := [.int a1, .int (2 : Int32)]) (rest := []) (st2 := [.int r1]) X cv_X9_91 (c_X9_isBelow M.2.1 hc_3) rfl rfl rfl (Nat.le_of_ble_eq_true rfl) ⟨⟨rfl, rfl⟩, by decide, by decide⟩ dX9_fault_2 ⟨rfl, rfl⟩ rfl ?_
  refine r_if_ne X 11 dX9_fault_5 (by decide) h (fun h => ?_) (fun h => ?_)
  · refine r_bipush (v := -2) X dX9_fault_8 (by decide) ?_
    exact r_iretz X rfl dX9_fault_10 h
  · refine r_iload_n X dX9_fault_11 rfl 1 rfl ?_
    refine r_if_ne X 25 dX9_fault_12 (by decide) h (fun h => ?_) (fun h => ?_)
    · refine r_aload_n X dX9_fault_15 rfl 0 rfl ?_
      refine r_getR (c1 := 5) X fg_X9_24_X9 fX_0 rfl dX9_fault_16 ?_
      refine r_getI X fg_X9_111_X2 fX_5 rfl dX9_fault_19 ?_
      refine r_goto X 32 dX9_fault_22 (by decide) ?_
      exact r_iretz X rfl dX9_fault_32 h
    · refine r_aload_n X dX9_fault_25 rfl 0 rfl ?_
      refine r_getR (c1 := 10) X fg_X9_31_X9 fX_0 rfl dX9_fault_26 ?_
      refine r_getI X fg_X9_114_X4 fX_10 rfl dX9_fault_29 ?_
      exact r_iretz X rfl dX9_fault_32 h
set_option maxRecDepth 100000 in
set_option maxHeartbeats 4000000 in
theorem c_X9_gone (l : Launch) {σ : Sg} {a1 : Int32} {a2 : Int32} {z : Int32 × Sg} (h : f_X9_gone σ a1 a2 = some z) : am_Met l yX9_gone cX9_gone 3 (some .int) { frames := 1, cells := 0, slots := 0, locals := 21 } NX LX (fun ad => [.ref (ad 0), .int a1, .int a2]) σ z.2 (fun _ => some (.int z.1)) := by
  refine am_enter (by decide +kernel) (fun ad => Nat.le_of_ble_eq_true rfl) (fun M D cT ad hl X => ?_)
  subst hl
  refine r_lv (lv' := [(0, .ref (ad 0)), (1, .int a1), (2, .int a2)]) rfl ?_
  unfold f_X9_gone at h
  refine r_iload_n X dX9_gone_0 rfl 1 rfl ?_
  refine r_aload_n X dX9_gone_1 rfl 0 rfl ?_
  refine r_getR (c1 := 5) X fg_X9_24_X9 fX_0 rfl dX9_gone_2 ?_
  refine r_getI X fg_X9_115_X2 fX_5 rfl dX9_gone_5 ?_
  obtain ⟨r1, σ2, hc_6, h⟩ := bnd_of h
  refine r_callS (As := [.int a1, .int (σ 5 1)]) (rest := []) (st2 := [.int r1]) X cv_X9_91 (c_X9_isBelow M.2.1 hc_6) rfl rfl rfl (Nat.le_of_ble_eq_true rfl) ⟨⟨rfl, rfl⟩, by decide, by decide⟩ dX9_gone_8 ⟨rfl, rfl⟩ rfl ?_
  refine r_if_eq X 22 dX9_gone_11 (by decide) h (fun h => ?_) (fun h => ?_)
  · refine r_bipush (v := -2) X dX9_gone_22 (by decide) ?_
    exact r_iretz X rfl dX9_gone_24 h
  · refine r_iload_n X dX9_gone_14 rfl 2 rfl ?_
    refine r_iconst (v := 4) X dX9_gone_15 (by decide) ?_
    obtain ⟨r3, σ4, hc_5, h⟩ := bnd_of h
    refine r_callS (As := [.int a2, .int (4 : Int32)]) (rest := []) (st2 := [.int r3]) X cv_X9_91 (c_X9_isBelow M.2.1 hc_5) rfl rfl rfl (Nat.le_of_ble_eq_true rfl) ⟨⟨rfl, rfl⟩, by decide, by decide⟩ dX9_gone_16 ⟨rfl, rfl⟩ rfl ?_
    refine r_if_ne X 25 dX9_gone_19 (by decide) h (fun h => ?_) (fun h => ?_)
    · refine r_bipush (v := -2) X dX9_gone_22 (by decide) ?_
      exact r_iretz X rfl dX9_gone_24 h
    · refine r_iload_n X dX9_gone_25 rfl 2 rfl ?_
      obtain ⟨hA, hB⟩ := ite_of h
      by_cases q26_0 : a2 = 0
      · have h := hA q26_0
        refine r_tabIn (kx := 0) (off := 26) X 52 dX9_gone_26 q26_0 (by decide) (by decide) (by decide) (by decide) ?_
        refine r_aload_n X dX9_gone_52 rfl 0 rfl ?_
        refine r_getR (c1 := 5) X fg_X9_24_X9 fX_0 rfl dX9_gone_53 ?_
        refine r_getR (c1 := 6) X fg_X9_116_X2 fX_5 rfl dX9_gone_56 ?_
        refine r_iload_n X dX9_gone_59 rfl 1 rfl ?_
        refine r_iald X fX_6 dX9_gone_60 h (fun h => ?_)
        exact r_iretz X rfl dX9_gone_61 h
      · have h := hB q26_0
        obtain ⟨hA, hB⟩ := ite_of h
        by_cases q26_1 : a2 = 1
        · have h := hA q26_1
          refine r_tabIn (kx := 1) (off := 36) X 62 dX9_gone_26 q26_1 (by decide) (by decide) (by decide) (by decide) ?_
          refine r_aload_n X dX9_gone_62 rfl 0 rfl ?_
          refine r_getR (c1 := 5) X fg_X9_24_X9 fX_0 rfl dX9_gone_63 ?_
          refine r_getR (c1 := 7) X fg_X9_119_X2 fX_5 rfl dX9_gone_66 ?_
          refine r_iload_n X dX9_gone_69 rfl 1 rfl ?_
          refine r_iald X fX_7 dX9_gone_70 h (fun h => ?_)
          exact r_iretz X rfl dX9_gone_71 h
        · have h := hB q26_1
          obtain ⟨hA, hB⟩ := ite_of h
          by_cases q26_2 : a2 = 2
          · have h := hA q26_2
            refine r_tabIn (kx := 2) (off := 46) X 72 dX9_gone_26 q26_2 (by decide) (by decide) (by decide) (by decide) ?_
            refine r_aload_n X dX9_gone_72 rfl 0 rfl ?_
            refine r_getR (c1 := 5) X fg_X9_24_X9 fX_0 rfl dX9_gone_73 ?_
            refine r_getR (c1 := 8) X fg_X9_122_X2 fX_5 rfl dX9_gone_76 ?_
            refine r_iload_n X dX9_gone_79 rfl 1 rfl ?_
            refine r_iald X fX_8 dX9_gone_80 h (fun h => ?_)
            exact r_iretz X rfl dX9_gone_81 h
          · have h := hB q26_2
            refine r_tabOut X 82 dX9_gone_26 (by have e0 := lv_neT q26_0 (show (0 : Int32).toInt = 0 from by decide); have e1 := lv_neT q26_1 (show (1 : Int32).toInt = 1 from by decide); have e2 := lv_neT q26_2 (show (2 : Int32).toInt = 2 from by decide); omega) (by decide) ?_
            refine r_aload_n X dX9_gone_82 rfl 0 rfl ?_
            refine r_getR (c1 := 5) X fg_X9_24_X9 fX_0 rfl dX9_gone_83 ?_
            refine r_getR (c1 := 9) X fg_X9_125_X2 fX_5 rfl dX9_gone_86 ?_
            refine r_iload_n X dX9_gone_89 rfl 1 rfl ?_
            refine r_iald X fX_9 dX9_gone_90 h (fun h => ?_)
            exact r_iretz X rfl dX9_gone_91 h
