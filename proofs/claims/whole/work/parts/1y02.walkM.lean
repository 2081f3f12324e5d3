set_option maxRecDepth 100000 in
set_option maxHeartbeats 4000000 in
theorem t_X10_goesBy_b64 {M : am_M} {D : va_G} {cT : Nat → ClassId} {ad : Nat → Nat} (X : am_X M (D, cT, ad, NM, LM) cX10_goesBy RX10 3 none) {z : Unit × Sg} {k2 : Sg → Int32 → Int32 → Option (Unit × Sg)} (hk2 : ∀ (σ : Sg) (x1 : Int32) (x2 : Int32), k2 σ x1 x2 = some z → am_At M { frames := 4, cells := 0, slots := 0, locals := 98 } (D, cT, ad, NM, LM) (amQv M (D, cT, ad, NM, LM) z) 3 2 [(0, .ref (ad 0)), (1, .int x1), (2, .int x2)] [] σ) (σ : Sg) (x1 : Int32) (x2 : Int32) (h : f_X10_goesBy_b64 k2 σ x1 x2 = some z) : am_At M { frames := 4, cells := 0, slots := 0, locals := 98 } (D, cT, ad, NM, LM) (amQv M (D, cT, ad, NM, LM) z) 3 64 [(0, .ref (ad 0)), (1, .int x1), (2, .int x2)] [] σ := by
  unfold f_X10_goesBy_b64 at h
  refine r_iinc X [(2, .int (x2 + (1 : Int32))), (0, .ref (ad 0)), (1, .int x1)] dX10_goesBy_64 2 rfl (v := x2 + (1 : Int32)) (by rfl) (by decide) rfl ?_
  refine r_letv h (fun v1 h => ?_)
  refine r_goto X 2 dX10_goesBy_67 (by decide) ?_
  refine r_sub (lv' := [(0, .ref (ad 0)), (1, .int x1), (2, .int v1)]) [1, 2, 0] rfl ?_
  exact hk2 σ x1 v1 h
set_option maxRecDepth 100000 in
set_option maxHeartbeats 4000000 in
theorem t_X10_goesBy_b118 {M : am_M} {D : va_G} {cT : Nat → ClassId} {ad : Nat → Nat} (X : am_X M (D, cT, ad, NM, LM) cX10_goesBy RX10 3 none) {z : Unit × Sg} {k89 : Sg → Int32 → Int32 → Option (Unit × Sg)} (hk89 : ∀ (σ : Sg) (x1 : Int32) (x2 : Int32), k89 σ x1 x2 = some z → am_At M { frames := 4, cells := 0, slots := 0, locals := 98 } (D, cT, ad, NM, LM) (amQv M (D, cT, ad, NM, LM) z) 3 89 [(0, .ref (ad 0)), (1, .int x1), (2, .int x2)] [] σ) (σ : Sg) (x1 : Int32) (x2 : Int32) (s0 : Int32) (s1 : Int32) (s2 : Int32) (h : f_X10_goesBy_b118 k89 σ x1 x2 s0 s1 s2 = some z) : am_At M { frames := 4, cells := 0, slots := 0, locals := 98 } (D, cT, ad, NM, LM) (amQv M (D, cT, ad, NM, LM) z) 3 118 [(0, .ref (ad 0)), (1, .int x1), (2, .int x2)] [.int s0, .int s1, .int s2, .ref (ad 21)] σ := by
  unfold f_X10_goesBy_b118 at h
  refine r_iadd X dX10_goesBy_118 ?_
  refine r_iast X fM_21 dX10_goesBy_119 h (fun σ1 h => ?_)
  refine r_iinc X [(2, .int (x2 + (1 : Int32))), (0, .ref (ad 0)), (1, .int x1)] dX10_goesBy_120 2 rfl (v := x2 + (1 : Int32)) (by rfl) (by decide) rfl ?_
  refine r_letv h (fun v2 h => ?_)
  refine r_goto X 89 dX10_goesBy_123 (by decide) ?_
  refine r_sub (lv' := [(0, .ref (ad 0)), (1, .int x1), (2, .int v2)]) [1, 2, 0] rfl ?_
  exact hk89 σ1 x1 v2 h
set_option maxRecDepth 100000 in
set_option maxHeartbeats 4000000 in
theorem t_X10_goesBy_b128 {M : am_M} {D : va_G} {cT : Nat → ClassId} {ad : Nat → Nat} (X : am_X M (D, cT, ad, NM, LM) cX10_goesBy RX10 3 none) {z : Unit × Sg} {k128 : Sg → Int32 → Int32 → Option (Unit × Sg)} (hk128 : ∀ (σ : Sg) (x1 : Int32) (x2 : Int32), k128 σ x1 x2 = some z → am_At M { frames := 4, cells := 0, slots := 0, locals := 98 } (D, cT, ad, NM, LM) (amQv M (D, cT, ad, NM, LM) z) 3 128 [(0, .ref (ad 0)), (1, .int x1), (2, .int x2)] [] σ) (σ : Sg) (x1 : Int32) (x2 : Int32) (h : f_X10_goesBy_b128 k128 σ x1 x2 = some z) : am_At M { frames := 4, cells := 0, slots := 0, locals := 98 } (D, cT, ad, NM, LM) (amQv M (D, cT, ad, NM, LM) z) 3 128 [(0, .ref (ad 0)), (1, .int x1), (2, .int x2)] [] σ := by
  unfold f_X10_goesBy_b128 at h
  refine r_iload_n X dX10_goesBy_128 rfl 2 rfl ?_
  refine r_aload_n X dX10_goesBy_129 rfl 0 rfl ?_
  refine r_getI X fg_X10_130_X10 fM_0 rfl dX10_goesBy_130 ?_
  refine r_icmp_ge X 176 dX10_goesBy_133 (by decide) h (fun h => ?_) (fun h => ?_)
  · exact r_vretz X rfl dX10_goesBy_176 h
  · refine r_aload_n X dX10_goesBy_136 rfl 0 rfl ?_
    refine r_getR (c1 := 18) X fg_X10_61_X10 fM_0 rfl dX10_goesBy_137 ?_
    refine r_bipush (v := 8) X dX10_goesBy_140 (by decide) ?_
    refine r_iload_n X dX10_goesBy_142 rfl 1 rfl ?_
    refine r_imul X dX10_goesBy_143 ?_
    refine r_iload_n X dX10_goesBy_144 rfl 2 rfl ?_
    refine r_iadd X dX10_goesBy_145 ?_
    refine r_aload_n X dX10_goesBy_146 rfl 0 rfl ?_
    refine r_iload_n X dX10_goesBy_147 rfl 2 rfl ?_
    refine r_iload_n X dX10_goesBy_148 rfl 1 rfl ?_
    obtain ⟨r1, σ2, hc_6, h⟩ := bnd_of h
    refine r_callV (As := [.int x2, .int x1]) (rest := [.int (((8 : Int32) * x1) + x2), .ref (ad 18)]) (st2 := [.int r1, .int (((8 : Int32) * x1) + x2), .ref (ad 18)]) (c := 0) X cv_X10_194 (c_X10_wanted M.2.1 hc_6) rfl (ci := 9) rfl fM_0 rfl rfl (Nat.le_of_ble_eq_true rfl) ⟨⟨rfl, rfl⟩, by decide, by decide⟩ dX10_goesBy_149 ⟨rfl, rfl⟩ rfl ?_
    refine r_iast X fM_18 dX10_goesBy_152 h (fun σ3 h => ?_)
    refine r_aload_n X dX10_goesBy_153 rfl 0 rfl ?_
    refine r_getR (c1 := 19) X fg_X10_64_X10 fM_0 rfl dX10_goesBy_154 ?_
    refine r_bipush (v := 8) X dX10_goesBy_157 (by decide) ?_
    refine r_iload_n X dX10_goesBy_159 rfl 1 rfl ?_
    refine r_imul X dX10_goesBy_160 ?_
    refine r_iload_n X dX10_goesBy_161 rfl 2 rfl ?_
    refine r_iadd X dX10_goesBy_162 ?_
    refine r_aload_n X dX10_goesBy_163 rfl 0 rfl ?_
    refine r_getR (c1 := 16) X fg_X10_55_X10 fM_0 rfl dX10_goesBy_164 ?_
    refine r_iload_n X dX10_goesBy_167 rfl 2 rfl ?_
    refine r_iald X fM_16 dX10_goesBy_168 h (fun h => ?_)
    refine r_iast X fM_19 dX10_goesBy_169 h (fun σ4 h => ?_)
    refine r_iinc X [(2, .int (x2 + (1 : Int32))), (0, .ref (ad 0)), (1, .int x1)] dX10_goesBy_170 2 rfl (v := x2 + (1 : Int32)) (by rfl) (by decide) rfl ?_
    refine r_letv h (fun v5 h => ?_)
    refine r_goto X 128 dX10_goesBy_173 (by decide) ?_
    refine r_sub (lv' := [(0, .ref (ad 0)), (1, .int x1), (2, .int v5)]) [1, 2, 0] rfl ?_
    exact hk128 σ4 x1 v5 h
theorem t_X10_goesBy_l128 {M : am_M} {D : va_G} {cT : Nat → ClassId} {ad : Nat → Nat} (X : am_X M (D, cT, ad, NM, LM) cX10_goesBy RX10 3 none) {z : Unit × Sg} (n : Nat) : ∀ (σ : Sg) (x1 : Int32) (x2 : Int32), f_X10_goesBy_l128 n σ x1 x2 = some z → am_At M { frames := 4, cells := 0, slots := 0, locals := 98 } (D, cT, ad, NM, LM) (amQv M (D, cT, ad, NM, LM) z) 3 128 [(0, .ref (ad 0)), (1, .int x1), (2, .int x2)] [] σ := by
  induction n with
  | zero =>
    intro σ x1 x2 h
    have h2 : (none : Option (Unit × Sg)) = some z := h
    cases h2
  | succ n ih =>
    intro σ x1 x2 h
    exact t_X10_goesBy_b128 X (k128 := f_X10_goesBy_l128 n) ih σ x1 x2 h
set_option maxRecDepth 100000 in
set_option maxHeartbeats 4000000 in
theorem t_X10_goesBy_b89 {M : am_M} {D : va_G} {cT : Nat → ClassId} {ad : Nat → Nat} (X : am_X M (D, cT, ad, NM, LM) cX10_goesBy RX10 3 none) {z : Unit × Sg} {k89 : Sg → Int32 → Int32 → Option (Unit × Sg)} (hk89 : ∀ (σ : Sg) (x1 : Int32) (x2 : Int32), k89 σ x1 x2 = some z → am_At M { frames := 4, cells := 0, slots := 0, locals := 98 } (D, cT, ad, NM, LM) (amQv M (D, cT, ad, NM, LM) z) 3 89 [(0, .ref (ad 0)), (1, .int x1), (2, .int x2)] [] σ) (σ : Sg) (x1 : Int32) (x2 : Int32) (h : f_X10_goesBy_b89 k89 σ x1 x2 = some z) : am_At M { frames := 4, cells := 0, slots := 0, locals := 98 } (D, cT, ad, NM, LM) (amQv M (D, cT, ad, NM, LM) z) 3 89 [(0, .ref (ad 0)), (1, .int x1), (2, .int x2)] [] σ := by
  unfold f_X10_goesBy_b89 at h
  refine r_iload_n X dX10_goesBy_89 rfl 2 rfl ?_
  refine r_aload_n X dX10_goesBy_90 rfl 0 rfl ?_
  refine r_getI X fg_X10_134_X10 fM_0 rfl dX10_goesBy_91 ?_
  refine r_icmp_ge X 126 dX10_goesBy_94 (by decide) h (fun h => ?_) (fun h => ?_)
  · refine r_iconst (v := 0) X dX10_goesBy_126 (by decide) ?_
    refine r_istore_n X [(2, .int (0 : Int32)), (0, .ref (ad 0)), (1, .int x1)] dX10_goesBy_127 rfl (by decide) rfl ?_
    refine r_sub (lv' := [(0, .ref (ad 0)), (1, .int x1), (2, .int (0 : Int32))]) [1, 2, 0] rfl ?_
    exact t_X10_goesBy_l128 X 300 σ x1 (0 : Int32) h
  · refine r_aload_n X dX10_goesBy_97 rfl 0 rfl ?_
    refine r_getR (c1 := 21) X fg_X10_70_X10 fM_0 rfl dX10_goesBy_98 ?_
    refine r_iload_n X dX10_goesBy_101 rfl 1 rfl ?_
    refine r_dup2 X dX10_goesBy_102 rfl rfl ?_
    refine r_iald X fM_21 dX10_goesBy_103 h (fun h => ?_)
    refine r_aload_n X dX10_goesBy_104 rfl 0 rfl ?_
    refine r_iload_n X dX10_goesBy_105 rfl 2 rfl ?_
    refine r_iload_n X dX10_goesBy_106 rfl 1 rfl ?_
    obtain ⟨r1, σ2, hc_3, h⟩ := bnd_of h
    refine r_callV (As := [.int x2, .int x1]) (rest := [.int (σ 21 (x1).toNatClampNeg), .int x1, .ref (ad 21)]) (st2 := [.int r1, .int (σ 21 (x1).toNatClampNeg), .int x1, .ref (ad 21)]) (c := 0) X cv_X10_190 (c_X10_isOpen M.2.1 hc_3) rfl (ci := 9) rfl fM_0 rfl rfl (Nat.le_of_ble_eq_true rfl) ⟨⟨rfl, rfl⟩, by decide, by decide⟩ dX10_goesBy_107 ⟨rfl, rfl⟩ rfl ?_
    refine r_if_eq X 117 dX10_goesBy_110 (by decide) h (fun h => ?_) (fun h => ?_)
    · refine r_iconst (v := 0) X dX10_goesBy_117 (by decide) ?_
      exact t_X10_goesBy_b118 X hk89 σ2 x1 x2 (0 : Int32) (σ 21 (x1).toNatClampNeg) x1 h
    · refine r_iconst (v := 1) X dX10_goesBy_113 (by decide) ?_
      refine r_goto X 118 dX10_goesBy_114 (by decide) ?_
      exact t_X10_goesBy_b118 X hk89 σ2 x1 x2 (1 : Int32) (σ 21 (x1).toNatClampNeg) x1 h
theorem t_X10_goesBy_l89 {M : am_M} {D : va_G} {cT : Nat → ClassId} {ad : Nat → Nat} (X : am_X M (D, cT, ad, NM, LM) cX10_goesBy RX10 3 none) {z : Unit × Sg} (n : Nat) : ∀ (σ : Sg) (x1 : Int32) (x2 : Int32), f_X10_goesBy_l89 n σ x1 x2 = some z → am_At M { frames := 4, cells := 0, slots := 0, locals := 98 } (D, cT, ad, NM, LM) (amQv M (D, cT, ad, NM, LM) z) 3 89 [(0, .ref (ad 0)), (1, .int x1), (2, .int x2)] [] σ := by
  induction n with
  | zero =>
    intro σ x1 x2 h
    have h2 : (none : Option (Unit × Sg)) = some z := h
    cases h2
  | succ n ih =>
    intro σ x1 x2 h
    exact t_X10_goesBy_b89 X (k89 := f_X10_goesBy_l89 n) ih σ x1 x2 h
set_option maxRecDepth 100000 in
set_option maxHeartbeats 4000000 in
theorem t_X10_goesBy_b2 {M : am_M} {D : va_G} {cT : Nat → ClassId} {ad : Nat → Nat} (X : am_X M (D, cT, ad, NM, LM) cX10_goesBy RX10 3 none) {z : Unit × Sg} {k2 : Sg → Int32 → Int32 → Option (Unit × Sg)} (hk2 : ∀ (σ : Sg) (x1 : Int32) (x2 : Int32), k2 σ x1 x2 = some z → am_At M { frames := 4, cells := 0, slots := 0, locals := 98 } (D, cT, ad, NM, LM) (amQv M (D, cT, ad, NM, LM) z) 3 2 [(0, .ref (ad 0)), (1, .int x1), (2, .int x2)] [] σ) (σ : Sg) (x1 : Int32) (x2 : Int32) (h : f_X10_goesBy_b2 k2 σ x1 x2 = some z) : am_At M { frames := 4, cells := 0, slots := 0, locals := 98 } (D, cT, ad, NM, LM) (amQv M (D, cT, ad, NM, LM) z) 3 2 [(0, .ref (ad 0)), (1, .int x1), (2, .int x2)] [] σ := by
  unfold f_X10_goesBy_b2 at h
  refine r_iload_n X dX10_goesBy_2 rfl 2 rfl ?_
  refine r_aload_n X dX10_goesBy_3 rfl 0 rfl ?_
  refine r_getI X fg_X10_184_X10 fM_0 rfl dX10_goesBy_4 ?_
  refine r_icmp_ge X 70 dX10_goesBy_7 (by decide) h (fun h => ?_) (fun h => ?_)
  · refine r_aload_n X dX10_goesBy_70 rfl 0 rfl ?_
    refine r_getR (c1 := 20) X fg_X10_67_X10 fM_0 rfl dX10_goesBy_71 ?_
    refine r_iload_n X dX10_goesBy_74 rfl 1 rfl ?_
    refine r_aload_n X dX10_goesBy_75 rfl 0 rfl ?_
    refine r_getI X fg_X10_200_X10 fM_0 rfl dX10_goesBy_76 ?_
    refine r_iast X fM_20 dX10_goesBy_79 h (fun σ1 h => ?_)
    refine r_aload_n X dX10_goesBy_80 rfl 0 rfl ?_
    refine r_getR (c1 := 21) X fg_X10_70_X10 fM_0 rfl dX10_goesBy_81 ?_
    refine r_iload_n X dX10_goesBy_84 rfl 1 rfl ?_
    refine r_iconst (v := 0) X dX10_goesBy_85 (by decide) ?_
    refine r_iast X fM_21 dX10_goesBy_86 h (fun σ2 h => ?_)
    refine r_iconst (v := 0) X dX10_goesBy_87 (by decide) ?_
    refine r_istore_n X [(2, .int (0 : Int32)), (0, .ref (ad 0)), (1, .int x1)] dX10_goesBy_88 rfl (by decide) rfl ?_
    refine r_sub (lv' := [(0, .ref (ad 0)), (1, .int x1), (2, .int (0 : Int32))]) [1, 2, 0] rfl ?_
    exact t_X10_goesBy_l89 X 300 σ2 x1 (0 : Int32) h
  · refine r_aload_n X dX10_goesBy_10 rfl 0 rfl ?_
    refine r_getR (c1 := 14) X fg_X10_49_X10 fM_0 rfl dX10_goesBy_11 ?_
    refine r_iload_n X dX10_goesBy_14 rfl 2 rfl ?_
    refine r_iald X fM_14 dX10_goesBy_15 h (fun h => ?_)
    refine r_iload_n X dX10_goesBy_16 rfl 1 rfl ?_
    refine r_icmp_ne X 64 dX10_goesBy_17 (by decide) h (fun h => ?_) (fun h => ?_)
    · refine r_aload_n X dX10_goesBy_20 rfl 0 rfl ?_
      refine r_getI X fg_X10_187_X10 fM_0 rfl dX10_goesBy_21 ?_
      refine r_iload_n X dX10_goesBy_24 rfl 2 rfl ?_
      obtain ⟨r3, σ4, hc_11, h⟩ := bnd_of h
      refine r_callS (As := [.int (σ 0 19), .int x2]) (rest := []) (st2 := [.int r3]) X cv_X10_209 (c_X10_isIn M.2.1 hc_11) rfl rfl rfl (Nat.le_of_ble_eq_true rfl) ⟨⟨rfl, rfl⟩, by decide, by decide⟩ dX10_goesBy_25 ⟨rfl, rfl⟩ rfl ?_
      refine r_if_ne X 64 dX10_goesBy_28 (by decide) h (fun h => ?_) (fun h => ?_)
      · refine r_aload_n X dX10_goesBy_31 rfl 0 rfl ?_
        refine r_getR (c1 := 13) X fg_X10_46_X10 fM_0 rfl dX10_goesBy_32 ?_
        refine r_iload_n X dX10_goesBy_35 rfl 2 rfl ?_
        refine r_iald X fM_13 dX10_goesBy_36 h (fun h => ?_)
        refine r_if_ne X 54 dX10_goesBy_37 (by decide) h (fun h => ?_) (fun h => ?_)
        · refine r_aload_n X dX10_goesBy_40 rfl 0 rfl ?_
          refine r_aload_n X dX10_goesBy_41 rfl 0 rfl ?_
          refine r_getR (c1 := 15) X fg_X10_52_X10 fM_0 rfl dX10_goesBy_42 ?_
          refine r_iload_n X dX10_goesBy_45 rfl 2 rfl ?_
          refine r_iald X fM_15 dX10_goesBy_46 h (fun h => ?_)
          refine r_iload_n X dX10_goesBy_47 rfl 1 rfl ?_
          obtain ⟨r8, σ9, hc_10, h⟩ := bnd_of h
          refine r_callV (As := [.int (σ4 15 (x2).toNatClampNeg), .int x1]) (rest := []) (st2 := []) (c := 0) X cv_X10_219 (c_X10_ploughs M.2.1 hc_10) rfl (ci := 9) rfl fM_0 rfl rfl (Nat.le_of_ble_eq_true rfl) ⟨⟨rfl, rfl⟩, by decide, by decide⟩ dX10_goesBy_48 ⟨rfl, rfl⟩ rfl ?_
          refine r_goto X 64 dX10_goesBy_51 (by decide) ?_
          exact t_X10_goesBy_b64 X hk2 σ9 x1 x2 h
        · refine r_aload_n X dX10_goesBy_54 rfl 0 rfl ?_
          refine r_aload_n X dX10_goesBy_55 rfl 0 rfl ?_
          refine r_getR (c1 := 15) X fg_X10_52_X10 fM_0 rfl dX10_goesBy_56 ?_
          refine r_iload_n X dX10_goesBy_59 rfl 2 rfl ?_
          refine r_iald X fM_15 dX10_goesBy_60 h (fun h => ?_)
          obtain ⟨r5, σ6, hc_7, h⟩ := bnd_of h
          refine r_callV (As := [.int (σ4 15 (x2).toNatClampNeg)]) (rest := []) (st2 := []) (c := 0) X cv_X10_222 (c_X10_harrows M.2.1 hc_7) rfl (ci := 9) rfl fM_0 rfl rfl (Nat.le_of_ble_eq_true rfl) ⟨⟨rfl, rfl⟩, by decide, by decide⟩ dX10_goesBy_61 ⟨rfl, rfl⟩ rfl ?_
          exact t_X10_goesBy_b64 X hk2 σ6 x1 x2 h
      · exact t_X10_goesBy_b64 X hk2 σ4 x1 x2 h
    · exact t_X10_goesBy_b64 X hk2 σ x1 x2 h
theorem t_X10_goesBy_l2 {M : am_M} {D : va_G} {cT : Nat → ClassId} {ad : Nat → Nat} (X : am_X M (D, cT, ad, NM, LM) cX10_goesBy RX10 3 none) {z : Unit × Sg} (n : Nat) : ∀ (σ : Sg) (x1 : Int32) (x2 : Int32), f_X10_goesBy_l2 n σ x1 x2 = some z → am_At M { frames := 4, cells := 0, slots := 0, locals := 98 } (D, cT, ad, NM, LM) (amQv M (D, cT, ad, NM, LM) z) 3 2 [(0, .ref (ad 0)), (1, .int x1), (2, .int x2)] [] σ := by
  induction n with
  | zero =>
    intro σ x1 x2 h
    have h2 : (none : Option (Unit × Sg)) = some z := h
    cases h2
  | succ n ih =>
    intro σ x1 x2 h
    exact t_X10_goesBy_b2 X (k2 := f_X10_goesBy_l2 n) ih σ x1 x2 h
set_option maxRecDepth 100000 in
set_option maxHeartbeats 4000000 in
theorem c_X10_goesBy (l : Launch) {σ : Sg} {a1 : Int32} {z : Unit × Sg} (h : f_X10_goesBy σ a1 = some z) : am_Met l yX10_goesBy cX10_goesBy 3 none { frames := 4, cells := 0, slots := 0, locals := 98 } NM LM (fun ad => [.ref (ad 0), .int a1]) σ z.2 (fun _ => none) := by
  refine am_enter (by decide +kernel) (fun ad => Nat.le_of_ble_eq_true rfl) (fun M D cT ad hl X => ?_)
  subst hl
  refine r_lv (lv' := [(0, .ref (ad 0)), (1, .int a1)]) rfl ?_
  unfold f_X10_goesBy at h
  refine r_iconst (v := 0) X dX10_goesBy_0 (by decide) ?_
  refine r_istore_n X [(2, .int (0 : Int32)), (0, .ref (ad 0)), (1, .int a1)] dX10_goesBy_1 rfl (by decide) rfl ?_
  refine r_sub (lv' := [(0, .ref (ad 0)), (1, .int a1), (2, .int (0 : Int32))]) [1, 2, 0] rfl ?_
  exact t_X10_goesBy_l2 X 300 σ a1 (0 : Int32) h
set_option maxRecDepth 100000 in
set_option maxHeartbeats 4000000 in
theorem t_X10_runs_b50 {M : am_M} {D : va_G} {cT : Nat → ClassId} {ad : Nat → Nat} (X : am_X M (D, cT, ad, NM, LM) cX10_runs RX10 2 none) {z : Unit × Sg} {k50 : Sg → Int32 → Option (Unit × Sg)} (hk50 : ∀ (σ : Sg) (x1 : Int32), k50 σ x1 = some z → am_At M { frames := 5, cells := 0, slots := 0, locals := 120 } (D, cT, ad, NM, LM) (amQv M (D, cT, ad, NM, LM) z) 2 50 [(0, .ref (ad 0)), (1, .int x1)] [] σ) (σ : Sg) (x1 : Int32) (h : f_X10_runs_b50 k50 σ x1 = some z) : am_At M { frames := 5, cells := 0, slots := 0, locals := 120 } (D, cT, ad, NM, LM) (amQv M (D, cT, ad, NM, LM) z) 2 50 [(0, .ref (ad 0)), (1, .int x1)] [] σ := by
  unfold f_X10_runs_b50 at h
  refine r_iload_n X dX10_runs_50 rfl 1 rfl ?_
  refine r_bipush (v := 24) X dX10_runs_51 (by decide) ?_
  refine r_icmp_ge X 67 dX10_runs_53 (by decide) h (fun h => ?_) (fun h => ?_)
  · exact r_vretz X rfl dX10_runs_67 h
  · refine r_aload_n X dX10_runs_56 rfl 0 rfl ?_
    refine r_iload_n X dX10_runs_57 rfl 1 rfl ?_
    obtain ⟨r1, σ2, hc_4, h⟩ := bnd_of h
    refine r_callV (As := [.int x1]) (rest := []) (st2 := []) (c := 0) X cv_X10_226 (c_X10_goesBy M.2.1 hc_4) rfl (ci := 9) rfl fM_0 rfl rfl (Nat.le_of_ble_eq_true rfl) ⟨⟨rfl, rfl⟩, by decide, by decide⟩ dX10_runs_58 ⟨rfl, rfl⟩ rfl ?_
    refine r_iinc X [(1, .int (x1 + (1 : Int32))), (0, .ref (ad 0))] dX10_runs_61 1 rfl (v := x1 + (1 : Int32)) (by rfl) (by decide) rfl ?_
    refine r_letv h (fun v3 h => ?_)
    refine r_goto X 50 dX10_runs_64 (by decide) ?_
    refine r_sub (lv' := [(0, .ref (ad 0)), (1, .int v3)]) [1, 0] rfl ?_
    exact hk50 σ2 v3 h
theorem t_X10_runs_l50 {M : am_M} {D : va_G} {cT : Nat → ClassId} {ad : Nat → Nat} (X : am_X M (D, cT, ad, NM, LM) cX10_runs RX10 2 none) {z : Unit × Sg} (n : Nat) : ∀ (σ : Sg) (x1 : Int32), f_X10_runs_l50 n σ x1 = some z → am_At M { frames := 5, cells := 0, slots := 0, locals := 120 } (D, cT, ad, NM, LM) (amQv M (D, cT, ad, NM, LM) z) 2 50 [(0, .ref (ad 0)), (1, .int x1)] [] σ := by
  induction n with
  | zero =>
    intro σ x1 h
    have h2 : (none : Option (Unit × Sg)) = some z := h
    cases h2
  | succ n ih =>
    intro σ x1 h
    exact t_X10_runs_b50 X (k50 := f_X10_runs_l50 n) ih σ x1 h
set_option maxRecDepth 100000 in
set_option maxHeartbeats 4000000 in
theorem t_X10_runs_b2 {M : am_M} {D : va_G} {cT : Nat → ClassId} {ad : Nat → Nat} (X : am_X M (D, cT, ad, NM, LM) cX10_runs RX10 2 none) {z : Unit × Sg} {k2 : Sg → Int32 → Option (Unit × Sg)} (hk2 : ∀ (σ : Sg) (x1 : Int32), k2 σ x1 = some z → am_At M { frames := 5, cells := 0, slots := 0, locals := 120 } (D, cT, ad, NM, LM) (amQv M (D, cT, ad, NM, LM) z) 2 2 [(0, .ref (ad 0)), (1, .int x1)] [] σ) (σ : Sg) (x1 : Int32) (h : f_X10_runs_b2 k2 σ x1 = some z) : am_At M { frames := 5, cells := 0, slots := 0, locals := 120 } (D, cT, ad, NM, LM) (amQv M (D, cT, ad, NM, LM) z) 2 2 [(0, .ref (ad 0)), (1, .int x1)] [] σ := by
  unfold f_X10_runs_b2 at h
  refine r_iload_n X dX10_runs_2 rfl 1 rfl ?_
  refine r_bipush (v := 8) X dX10_runs_3 (by decide) ?_
  refine r_icmp_ge X 28 dX10_runs_5 (by decide) h (fun h => ?_) (fun h => ?_)
  · refine r_aload_n X dX10_runs_28 rfl 0 rfl ?_
    refine r_iconst (v := 0) X dX10_runs_29 (by decide) ?_
    refine r_putI X fp_X10_200_X10 fM_0 rfl dX10_runs_30 h (fun σ1 h => ?_)
    refine r_aload_n X dX10_runs_33 rfl 0 rfl ?_
    refine r_iconst (v := 0) X dX10_runs_34 (by decide) ?_
    refine r_putI X fp_X10_197_X10 fM_0 rfl dX10_runs_35 h (fun σ2 h => ?_)
    refine r_aload_n X dX10_runs_38 rfl 0 rfl ?_
    refine r_iconst (v := -1) X dX10_runs_39 (by decide) ?_
    refine r_putI X fp_X10_203_X10 fM_0 rfl dX10_runs_40 h (fun σ3 h => ?_)
    refine r_aload_n X dX10_runs_43 rfl 0 rfl ?_
    refine r_iconst (v := -1) X dX10_runs_44 (by decide) ?_
    refine r_putI X fp_X10_206_X10 fM_0 rfl dX10_runs_45 h (fun σ4 h => ?_)
    refine r_iconst (v := 0) X dX10_runs_48 (by decide) ?_
    refine r_istore_n X [(1, .int (0 : Int32)), (0, .ref (ad 0))] dX10_runs_49 rfl (by decide) rfl ?_
    refine r_sub (lv' := [(0, .ref (ad 0)), (1, .int (0 : Int32))]) [1, 0] rfl ?_
    exact t_X10_runs_l50 X 300 σ4 (0 : Int32) h
  · refine r_aload_n X dX10_runs_8 rfl 0 rfl ?_
    refine r_getR (c1 := 16) X fg_X10_55_X10 fM_0 rfl dX10_runs_9 ?_
    refine r_iload_n X dX10_runs_12 rfl 1 rfl ?_
    refine r_iconst (v := 0) X dX10_runs_13 (by decide) ?_
    refine r_iast X fM_16 dX10_runs_14 h (fun σ5 h => ?_)
    refine r_aload_n X dX10_runs_15 rfl 0 rfl ?_
    refine r_getR (c1 := 17) X fg_X10_58_X10 fM_0 rfl dX10_runs_16 ?_
    refine r_iload_n X dX10_runs_19 rfl 1 rfl ?_
    refine r_iconst (v := -1) X dX10_runs_20 (by decide) ?_
    refine r_iast X fM_17 dX10_runs_21 h (fun σ6 h => ?_)
    refine r_iinc X [(1, .int (x1 + (1 : Int32))), (0, .ref (ad 0))] dX10_runs_22 1 rfl (v := x1 + (1 : Int32)) (by rfl) (by decide) rfl ?_
    refine r_letv h (fun v7 h => ?_)
    refine r_goto X 2 dX10_runs_25 (by decide) ?_
    refine r_sub (lv' := [(0, .ref (ad 0)), (1, .int v7)]) [1, 0] rfl ?_
    exact hk2 σ6 v7 h
theorem t_X10_runs_l2 {M : am_M} {D : va_G} {cT : Nat → ClassId} {ad : Nat → Nat} (X : am_X M (D, cT, ad, NM, LM) cX10_runs RX10 2 none) {z : Unit × Sg} (n : Nat) : ∀ (σ : Sg) (x1 : Int32), f_X10_runs_l2 n σ x1 = some z → am_At M { frames := 5, cells := 0, slots := 0, locals := 120 } (D, cT, ad, NM, LM) (amQv M (D, cT, ad, NM, LM) z) 2 2 [(0, .ref (ad 0)), (1, .int x1)] [] σ := by
  induction n with
  | zero =>
    intro σ x1 h
    have h2 : (none : Option (Unit × Sg)) = some z := h
    cases h2
  | succ n ih =>
    intro σ x1 h
    exact t_X10_runs_b2 X (k2 := f_X10_runs_l2 n) ih σ x1 h
set_option maxRecDepth 100000 in
set_option maxHeartbeats 4000000 in
theorem c_X10_runs (l : Launch) {σ : Sg} {z : Unit × Sg} (h : f_X10_runs σ = some z) : am_Met l yX10_runs cX10_runs 2 none { frames := 5, cells := 0, slots := 0, locals := 120 } NM LM (fun ad => [.ref (ad 0)]) σ z.2 (fun _ => none) := by
  refine am_enter (by decide +kernel) (fun ad => Nat.le_of_ble_eq_true rfl) (fun M D cT ad hl X => ?_)
  subst hl
  refine r_lv (lv' := [(0, .ref (ad 0))]) rfl ?_
  unfold f_X10_runs at h
  refine r_iconst (v := 0) X dX10_runs_0 (by decide) ?_
  refine r_istore_n X [(1, .int (0 : Int32)), (0, .ref (ad 0))] dX10_runs_1 rfl (by decide) rfl ?_
  refine r_sub (lv' := [(0, .ref (ad 0)), (1, .int (0 : Int32))]) [1, 0] rfl ?_
  exact t_X10_runs_l2 X 300 σ (0 : Int32) h
set_option maxRecDepth 100000 in
set_option maxHeartbeats 4000000 in
theorem c_X10_runsTold (l : Launch) {σ : Sg} {z : Unit × Sg} (h : f_X10_runsTold σ = some z) : am_Met l yX10_runsTold cX10_runsTold 1 none { frames := 7, cells := 0, slots := 0, locals := 159 } NM LM (fun ad => [.ref (ad 0)]) σ z.2 (fun _ => none) := by
  refine am_enter (by decide +kernel) (fun ad => Nat.le_of_ble_eq_true rfl) (fun M D cT ad hl X => ?_)
  subst hl
  refine r_lv (lv' := [(0, .ref (ad 0))]) rfl ?_
  unfold f_X10_runsTold at h
  refine r_aload_n X dX10_runsTold_0 rfl 0 rfl ?_
  obtain ⟨r1, σ2, hc_6, h⟩ := bnd_of h
  refine r_callV (As := []) (rest := []) (st2 := []) (c := 0) X cv_X10_229 (c_X10_asTold M.2.1 hc_6) rfl (ci := 9) rfl fM_0 rfl rfl (Nat.le_of_ble_eq_true rfl) ⟨⟨rfl, rfl⟩, by decide, by decide⟩ dX10_runsTold_1 ⟨rfl, rfl⟩ rfl ?_
  refine r_aload_n X dX10_runsTold_4 rfl 0 rfl ?_
  obtain ⟨r3, σ4, hc_5, h⟩ := bnd_of h
  refine r_callV (As := []) (rest := []) (st2 := []) (c := 0) X cv_X10_232 (c_X10_runs M.2.1 hc_5) rfl (ci := 9) rfl fM_0 rfl rfl (Nat.le_of_ble_eq_true rfl) ⟨⟨rfl, rfl⟩, by decide, by decide⟩ dX10_runsTold_5 ⟨rfl, rfl⟩ rfl ?_
  exact r_vretz X rfl dX10_runsTold_8 h
set_option maxRecDepth 100000 in
set_option maxHeartbeats 4000000 in
theorem c_X10_atOf (l : Launch) {σ : Sg} {a1 : Int32} {a2 : Int32} {a3 : Int32} {z : Int32 × Sg} (h : f_X10_atOf σ a1 a2 a3 = some z) : am_Met l yX10_atOf cX10_atOf 4 (some .int) { frames := 8, cells := 0, slots := 0, locals := 179 } NM LM (fun ad => [.ref (ad 0), .int a1, .int a2, .int a3]) σ z.2 (fun _ => some (.int z.1)) := by
  refine am_enter (by decide +kernel) (fun ad => Nat.le_of_ble_eq_true rfl) (fun M D cT ad hl X => ?_)
  subst hl
  refine r_lv (lv' := [(0, .ref (ad 0)), (1, .int a1), (2, .int a2), (3, .int a3)]) rfl ?_
  unfold f_X10_atOf at h
  refine r_aload_n X dX10_atOf_0 rfl 0 rfl ?_
  obtain ⟨r1, σ2, hc_6, h⟩ := bnd_of h
  refine r_callV (As := []) (rest := []) (st2 := []) (c := 0) X cv_X10_235 (c_X10_runsTold M.2.1 hc_6) rfl (ci := 9) rfl fM_0 rfl rfl (Nat.le_of_ble_eq_true rfl) ⟨⟨rfl, rfl⟩, by decide, by decide⟩ dX10_atOf_1 ⟨rfl, rfl⟩ rfl ?_
  refine r_iload_n X dX10_atOf_4 rfl 3 rfl ?_
  refine r_if_ne X 29 dX10_atOf_5 (by decide) h (fun h => ?_) (fun h => ?_)
  · refine r_aload_n X dX10_atOf_8 rfl 0 rfl ?_
    refine r_getR (c1 := 20) X fg_X10_67_X10 fM_0 rfl dX10_atOf_9 ?_
    refine r_iload_n X dX10_atOf_12 rfl 1 rfl ?_
    refine r_iald X fM_20 dX10_atOf_13 h (fun h => ?_)
    refine r_iload_n X dX10_atOf_14 rfl 2 rfl ?_
    obtain ⟨r3, σ4, hc_5, h⟩ := bnd_of h
    refine r_callS (As := [.int (σ2 20 (a1).toNatClampNeg), .int a2]) (rest := []) (st2 := [.int r3]) X cv_X10_209 (c_X10_isIn M.2.1 hc_5) rfl rfl rfl (Nat.le_of_ble_eq_true rfl) ⟨⟨rfl, rfl⟩, by decide, by decide⟩ dX10_atOf_15 ⟨rfl, rfl⟩ rfl ?_
    refine r_if_eq X 25 dX10_atOf_18 (by decide) h (fun h => ?_) (fun h => ?_)
    · refine r_iconst (v := 0) X dX10_atOf_25 (by decide) ?_
      refine r_goto X 59 dX10_atOf_26 (by decide) ?_
      exact r_iretz X rfl dX10_atOf_59 h
    · refine r_iconst (v := 1) X dX10_atOf_21 (by decide) ?_
      refine r_goto X 59 dX10_atOf_22 (by decide) ?_
      exact r_iretz X rfl dX10_atOf_59 h
  · refine r_iload_n X dX10_atOf_29 rfl 3 rfl ?_
    refine r_iconst (v := 1) X dX10_atOf_30 (by decide) ?_
    refine r_icmp_ne X 48 dX10_atOf_31 (by decide) h (fun h => ?_) (fun h => ?_)
    · refine r_aload_n X dX10_atOf_34 rfl 0 rfl ?_
      refine r_getR (c1 := 18) X fg_X10_61_X10 fM_0 rfl dX10_atOf_35 ?_
      refine r_bipush (v := 8) X dX10_atOf_38 (by decide) ?_
      refine r_iload_n X dX10_atOf_40 rfl 1 rfl ?_
      refine r_imul X dX10_atOf_41 ?_
      refine r_iload_n X dX10_atOf_42 rfl 2 rfl ?_
      refine r_iadd X dX10_atOf_43 ?_
      refine r_iald X fM_18 dX10_atOf_44 h (fun h => ?_)
      refine r_goto X 59 dX10_atOf_45 (by decide) ?_
      exact r_iretz X rfl dX10_atOf_59 h
    · refine r_aload_n X dX10_atOf_48 rfl 0 rfl ?_
      refine r_getR (c1 := 19) X fg_X10_64_X10 fM_0 rfl dX10_atOf_49 ?_
      refine r_bipush (v := 8) X dX10_atOf_52 (by decide) ?_
      refine r_iload_n X dX10_atOf_54 rfl 1 rfl ?_
      refine r_imul X dX10_atOf_55 ?_
      refine r_iload_n X dX10_atOf_56 rfl 2 rfl ?_
      refine r_iadd X dX10_atOf_57 ?_
      refine r_iald X fM_19 dX10_atOf_58 h (fun h => ?_)
      exact r_iretz X rfl dX10_atOf_59 h
set_option maxRecDepth 100000 in
set_option maxHeartbeats 4000000 in
theorem c_X10_at (l : Launch) {σ : Sg} {a1 : Int32} {a2 : Int32} {a3 : Int32} {z : Int32 × Sg} (h : f_X10_at σ a1 a2 a3 = some z) : am_Met l yX10_at cX10_at 4 (some .int) { frames := 9, cells := 0, slots := 0, locals := 202 } NM LM (fun ad => [.ref (ad 0), .int a1, .int a2, .int a3]) σ z.2 (fun _ => some (.int z.1)) := by
  refine am_enter (by decide +kernel) (fun ad => Nat.le_of_ble_eq_true rfl) (fun M D cT ad hl X => ?_)
  subst hl
  refine r_lv (lv' := [(0, .ref (ad 0)), (1, .int a1), (2, .int a2), (3, .int a3)]) rfl ?_
  unfold f_X10_at at h
  refine r_iload_n X dX10_at_0 rfl 1 rfl ?_
  obtain ⟨r1, σ2, hc_12, h⟩ := bnd_of h
  refine r_callS (As := [.int a1]) (rest := []) (st2 := [.int r1]) X cv_X10_127 (c_X10_isNight M.2.1 hc_12) rfl rfl rfl (Nat.le_of_ble_eq_true rfl) ⟨⟨rfl, rfl⟩, by decide, by decide⟩ dX10_at_1 ⟨rfl, rfl⟩ rfl ?_
  refine r_if_eq X 32 dX10_at_4 (by decide) h (fun h => ?_) (fun h => ?_)
  · refine r_bipush (v := -2) X dX10_at_32 (by decide) ?_
    exact r_iretz X rfl dX10_at_34 h
  · refine r_aload_n X dX10_at_7 rfl 0 rfl ?_
    refine r_iload_n X dX10_at_8 rfl 2 rfl ?_
    obtain ⟨r3, σ4, hc_11, h⟩ := bnd_of h
    refine r_callV (As := [.int a2]) (rest := []) (st2 := [.int r3]) (c := 0) X cv_X10_153 (c_X10_isOne M.2.1 hc_11) rfl (ci := 9) rfl fM_0 rfl rfl (Nat.le_of_ble_eq_true rfl) ⟨⟨rfl, rfl⟩, by decide, by decide⟩ dX10_at_9 ⟨rfl, rfl⟩ rfl ?_
    refine r_if_eq X 32 dX10_at_12 (by decide) h (fun h => ?_) (fun h => ?_)
    · refine r_bipush (v := -2) X dX10_at_32 (by decide) ?_
      exact r_iretz X rfl dX10_at_34 h
    · refine r_iload_n X dX10_at_15 rfl 3 rfl ?_
      obtain ⟨r5, σ6, hc_10, h⟩ := bnd_of h
      refine r_callS (As := [.int a3]) (rest := []) (st2 := [.int r5]) X cv_X10_162 (c_X10_isThree M.2.1 hc_10) rfl rfl rfl (Nat.le_of_ble_eq_true rfl) ⟨⟨rfl, rfl⟩, by decide, by decide⟩ dX10_at_16 ⟨rfl, rfl⟩ rfl ?_
      refine r_if_eq X 32 dX10_at_19 (by decide) h (fun h => ?_) (fun h => ?_)
      · refine r_bipush (v := -2) X dX10_at_32 (by decide) ?_
        exact r_iretz X rfl dX10_at_34 h
      · refine r_aload_n X dX10_at_22 rfl 0 rfl ?_
        refine r_iload_n X dX10_at_23 rfl 1 rfl ?_
        refine r_iload_n X dX10_at_24 rfl 2 rfl ?_
        refine r_iload_n X dX10_at_25 rfl 3 rfl ?_
        obtain ⟨r7, σ8, hc_9, h⟩ := bnd_of h
        refine r_callV (As := [.int a1, .int a2, .int a3]) (rest := []) (st2 := [.int r7]) (c := 0) X cv_X10_238 (c_X10_atOf M.2.1 hc_9) rfl (ci := 9) rfl fM_0 rfl rfl (Nat.le_of_ble_eq_true rfl) ⟨⟨rfl, rfl⟩, by decide, by decide⟩ dX10_at_26 ⟨rfl, rfl⟩ rfl ?_
        refine r_goto X 34 dX10_at_29 (by decide) ?_
        exact r_iretz X rfl dX10_at_34 h
set_option maxRecDepth 100000 in
set_option maxHeartbeats 4000000 in
theorem t_X10_fieldOf_b62 {M : am_M} {D : va_G} {cT : Nat → ClassId} {ad : Nat → Nat} (X : am_X M (D, cT, ad, NM, LM) cX10_fieldOf RX10 6 (some .int)) {z : Int32 × Sg} {k10 : Sg → Int32 → Int32 → Int32 → Int32 → Int32 → Option (Int32 × Sg)} (hk10 : ∀ (σ : Sg) (x1 : Int32) (x2 : Int32) (x3 : Int32) (x4 : Int32) (x5 : Int32), k10 σ x1 x2 x3 x4 x5 = some z → am_At M { frames := 8, cells := 0, slots := 0, locals := 179 } (D, cT, ad, NM, LM) (amQi M (D, cT, ad, NM, LM) z) 6 10 [(0, .ref (ad 0)), (1, .int x1), (2, .int x2), (3, .int x3), (4, .int x4), (5, .int x5)] [] σ) (σ : Sg) (x1 : Int32) (x2 : Int32) (x3 : Int32) (x5 : Int32) (s0 : Int32) (h : f_X10_fieldOf_b62 k10 σ x1 x2 x3 x5 s0 = some z) : am_At M { frames := 8, cells := 0, slots := 0, locals := 179 } (D, cT, ad, NM, LM) (amQi M (D, cT, ad, NM, LM) z) 6 62 [(0, .ref (ad 0)), (1, .int x1), (2, .int x2), (3, .int x3), (5, .int x5)] [.int s0] σ := by
  unfold f_X10_fieldOf_b62 at h
  refine r_istore X [(4, .int s0), (0, .ref (ad 0)), (1, .int x1), (2, .int x2), (3, .int x3), (5, .int x5)] dX10_fieldOf_62 (by decide) rfl ?_
  refine r_iinc X [(5, .int (x5 + (1 : Int32))), (4, .int s0), (0, .ref (ad 0)), (1, .int x1), (2, .int x2), (3, .int x3)] dX10_fieldOf_64 5 rfl (v := x5 + (1 : Int32)) (by rfl) (by decide) rfl ?_
  refine r_letv h (fun v1 h => ?_)
  refine r_goto X 10 dX10_fieldOf_67 (by decide) ?_
  refine r_sub (lv' := [(0, .ref (ad 0)), (1, .int x1), (2, .int x2), (3, .int x3), (4, .int s0), (5, .int v1)]) [2, 3, 4, 5, 1, 0] rfl ?_
  exact hk10 σ x1 x2 x3 s0 v1 h
set_option maxRecDepth 100000 in
set_option maxHeartbeats 4000000 in
theorem t_X10_fieldOf_b60 {M : am_M} {D : va_G} {cT : Nat → ClassId} {ad : Nat → Nat} (X : am_X M (D, cT, ad, NM, LM) cX10_fieldOf RX10 6 (some .int)) {z : Int32 × Sg} {k10 : Sg → Int32 → Int32 → Int32 → Int32 → Int32 → Option (Int32 × Sg)} (hk10 : ∀ (σ : Sg) (x1 : Int32) (x2 : Int32) (x3 : Int32) (x4 : Int32) (x5 : Int32), k10 σ x1 x2 x3 x4 x5 = some z → am_At M { frames := 8, cells := 0, slots := 0, locals := 179 } (D, cT, ad, NM, LM) (amQi M (D, cT, ad, NM, LM) z) 6 10 [(0, .ref (ad 0)), (1, .int x1), (2, .int x2), (3, .int x3), (4, .int x4), (5, .int x5)] [] σ) (σ : Sg) (x1 : Int32) (x2 : Int32) (x3 : Int32) (x4 : Int32) (x5 : Int32) (h : f_X10_fieldOf_b60 k10 σ x1 x2 x3 x4 x5 = some z) : am_At M { frames := 8, cells := 0, slots := 0, locals := 179 } (D, cT, ad, NM, LM) (amQi M (D, cT, ad, NM, LM) z) 6 60 [(0, .ref (ad 0)), (1, .int x1), (2, .int x2), (3, .int x3), (4, .int x4), (5, .int x5)] [] σ := by
  unfold f_X10_fieldOf_b60 at h
  refine r_iload X dX10_fieldOf_60 4 rfl ?_
  refine r_sub (lv' := [(0, .ref (ad 0)), (1, .int x1), (2, .int x2), (3, .int x3), (5, .int x5)]) [0, 1, 2, 3, 5] rfl ?_
  exact t_X10_fieldOf_b62 X hk10 σ x1 x2 x3 x5 x4 h
set_option maxRecDepth 100000 in
set_option maxHeartbeats 4000000 in
theorem t_X10_fieldOf_b10 {M : am_M} {D : va_G} {cT : Nat → ClassId} {ad : Nat → Nat} (X : am_X M (D, cT, ad, NM, LM) cX10_fieldOf RX10 6 (some .int)) {z : Int32 × Sg} {k10 : Sg → Int32 → Int32 → Int32 → Int32 → Int32 → Option (Int32 × Sg)} (hk10 : ∀ (σ : Sg) (x1 : Int32) (x2 : Int32) (x3 : Int32) (x4 : Int32) (x5 : Int32), k10 σ x1 x2 x3 x4 x5 = some z → am_At M { frames := 8, cells := 0, slots := 0, locals := 179 } (D, cT, ad, NM, LM) (amQi M (D, cT, ad, NM, LM) z) 6 10 [(0, .ref (ad 0)), (1, .int x1), (2, .int x2), (3, .int x3), (4, .int x4), (5, .int x5)] [] σ) (σ : Sg) (x1 : Int32) (x2 : Int32) (x3 : Int32) (x4 : Int32) (x5 : Int32) (h : f_X10_fieldOf_b10 k10 σ x1 x2 x3 x4 x5 = some z) : am_At M { frames := 8, cells := 0, slots := 0, locals := 179 } (D, cT, ad, NM, LM) (amQi M (D, cT, ad, NM, LM) z) 6 10 [(0, .ref (ad 0)), (1, .int x1), (2, .int x2), (3, .int x3), (4, .int x4), (5, .int x5)] [] σ := by
  unfold f_X10_fieldOf_b10 at h
  refine r_iload X dX10_fieldOf_10 5 rfl ?_
  refine r_aload_n X dX10_fieldOf_12 rfl 0 rfl ?_
  refine r_getI X fg_X10_130_X10 fM_0 rfl dX10_fieldOf_13 ?_
  refine r_icmp_ge X 70 dX10_fieldOf_16 (by decide) h (fun h => ?_) (fun h => ?_)
  · refine r_iload X dX10_fieldOf_70 4 rfl ?_
    exact r_iretz X rfl dX10_fieldOf_72 h
  · refine r_aload_n X dX10_fieldOf_19 rfl 0 rfl ?_
    refine r_getR (c1 := 20) X fg_X10_67_X10 fM_0 rfl dX10_fieldOf_20 ?_
    refine r_iload_n X dX10_fieldOf_23 rfl 1 rfl ?_
    refine r_iald X fM_20 dX10_fieldOf_24 h (fun h => ?_)
    refine r_iload X dX10_fieldOf_25 5 rfl ?_
    obtain ⟨r1, σ2, hc_3, h⟩ := bnd_of h
    refine r_callS (As := [.int (σ 20 (x1).toNatClampNeg), .int x5]) (rest := []) (st2 := [.int r1]) X cv_X10_209 (c_X10_isIn M.2.1 hc_3) rfl rfl rfl (Nat.le_of_ble_eq_true rfl) ⟨⟨rfl, rfl⟩, by decide, by decide⟩ dX10_fieldOf_27 ⟨rfl, rfl⟩ rfl ?_
    refine r_if_eq X 60 dX10_fieldOf_30 (by decide) h (fun h => ?_) (fun h => ?_)
    · exact t_X10_fieldOf_b60 X hk10 σ2 x1 x2 x3 x4 x5 h
    · refine r_aload_n X dX10_fieldOf_33 rfl 0 rfl ?_
      refine r_getR (c1 := 4) X fg_X10_19_X10 fM_0 rfl dX10_fieldOf_34 ?_
      refine r_iload X dX10_fieldOf_37 5 rfl ?_
      refine r_iald X fM_4 dX10_fieldOf_39 h (fun h => ?_)
      refine r_iload_n X dX10_fieldOf_40 rfl 2 rfl ?_
      refine r_icmp_ne X 60 dX10_fieldOf_41 (by decide) h (fun h => ?_) (fun h => ?_)
      · refine r_aload_n X dX10_fieldOf_44 rfl 0 rfl ?_
        refine r_getR (c1 := 5) X fg_X10_22_X10 fM_0 rfl dX10_fieldOf_45 ?_
        refine r_iload X dX10_fieldOf_48 5 rfl ?_
        refine r_iald X fM_5 dX10_fieldOf_50 h (fun h => ?_)
        refine r_iload_n X dX10_fieldOf_51 rfl 3 rfl ?_
        refine r_icmp_ne X 60 dX10_fieldOf_52 (by decide) h (fun h => ?_) (fun h => ?_)
        · refine r_iload X dX10_fieldOf_55 5 rfl ?_
          refine r_goto X 62 dX10_fieldOf_57 (by decide) ?_
          refine r_sub (lv' := [(0, .ref (ad 0)), (1, .int x1), (2, .int x2), (3, .int x3), (5, .int x5)]) [0, 1, 2, 3, 5] rfl ?_
          exact t_X10_fieldOf_b62 X hk10 σ2 x1 x2 x3 x5 x5 h
        · exact t_X10_fieldOf_b60 X hk10 σ2 x1 x2 x3 x4 x5 h
      · exact t_X10_fieldOf_b60 X hk10 σ2 x1 x2 x3 x4 x5 h
theorem t_X10_fieldOf_l10 {M : am_M} {D : va_G} {cT : Nat → ClassId} {ad : Nat → Nat} (X : am_X M (D, cT, ad, NM, LM) cX10_fieldOf RX10 6 (some .int)) {z : Int32 × Sg} (n : Nat) : ∀ (σ : Sg) (x1 : Int32) (x2 : Int32) (x3 : Int32) (x4 : Int32) (x5 : Int32), f_X10_fieldOf_l10 n σ x1 x2 x3 x4 x5 = some z → am_At M { frames := 8, cells := 0, slots := 0, locals := 179 } (D, cT, ad, NM, LM) (amQi M (D, cT, ad, NM, LM) z) 6 10 [(0, .ref (ad 0)), (1, .int x1), (2, .int x2), (3, .int x3), (4, .int x4), (5, .int x5)] [] σ := by
  induction n with
  | zero =>
    intro σ x1 x2 x3 x4 x5 h
    have h2 : (none : Option (Int32 × Sg)) = some z := h
    cases h2
  | succ n ih =>
    intro σ x1 x2 x3 x4 x5 h
    exact t_X10_fieldOf_b10 X (k10 := f_X10_fieldOf_l10 n) ih σ x1 x2 x3 x4 x5 h
set_option maxRecDepth 100000 in
set_option maxHeartbeats 4000000 in
theorem c_X10_fieldOf (l : Launch) {σ : Sg} {a1 : Int32} {a2 : Int32} {a3 : Int32} {z : Int32 × Sg} (h : f_X10_fieldOf σ a1 a2 a3 = some z) : am_Met l yX10_fieldOf cX10_fieldOf 6 (some .int) { frames := 8, cells := 0, slots := 0, locals := 179 } NM LM (fun ad => [.ref (ad 0), .int a1, .int a2, .int a3]) σ z.2 (fun _ => some (.int z.1)) := by
  refine am_enter (by decide +kernel) (fun ad => Nat.le_of_ble_eq_true rfl) (fun M D cT ad hl X => ?_)
  subst hl
  refine r_lv (lv' := [(0, .ref (ad 0)), (1, .int a1), (2, .int a2), (3, .int a3)]) rfl ?_
  unfold f_X10_fieldOf at h
  refine r_aload_n X dX10_fieldOf_0 rfl 0 rfl ?_
  obtain ⟨r1, σ2, hc_3, h⟩ := bnd_of h
  refine r_callV (As := []) (rest := []) (st2 := []) (c := 0) X cv_X10_235 (c_X10_runsTold M.2.1 hc_3) rfl (ci := 9) rfl fM_0 rfl rfl (Nat.le_of_ble_eq_true rfl) ⟨⟨rfl, rfl⟩, by decide, by decide⟩ dX10_fieldOf_1 ⟨rfl, rfl⟩ rfl ?_
  refine r_iconst (v := -1) X dX10_fieldOf_4 (by decide) ?_
  refine r_istore X [(4, .int (-1 : Int32)), (0, .ref (ad 0)), (1, .int a1), (2, .int a2), (3, .int a3)] dX10_fieldOf_5 (by decide) rfl ?_
  refine r_iconst (v := 0) X dX10_fieldOf_7 (by decide) ?_
  refine r_istore X [(5, .int (0 : Int32)), (4, .int (-1 : Int32)), (0, .ref (ad 0)), (1, .int a1), (2, .int a2), (3, .int a3)] dX10_fieldOf_8 (by decide) rfl ?_
  refine r_sub (lv' := [(0, .ref (ad 0)), (1, .int a1), (2, .int a2), (3, .int a3), (4, .int (-1 : Int32)), (5, .int (0 : Int32))]) [2, 3, 4, 5, 1, 0] rfl ?_
  exact t_X10_fieldOf_l10 X 300 σ2 a1 a2 a3 (-1 : Int32) (0 : Int32) h
set_option maxRecDepth 100000 in
set_option maxHeartbeats 4000000 in
theorem c_X10_field (l : Launch) {σ : Sg} {a1 : Int32} {a2 : Int32} {a3 : Int32} {z : Int32 × Sg} (h : f_X10_field σ a1 a2 a3 = some z) : am_Met l yX10_field cX10_field 4 (some .int) { frames := 9, cells := 0, slots := 0, locals := 204 } NM LM (fun ad => [.ref (ad 0), .int a1, .int a2, .int a3]) σ z.2 (fun _ => some (.int z.1)) := by
  refine am_enter (by decide +kernel) (fun ad => Nat.le_of_ble_eq_true rfl) (fun M D cT ad hl X => ?_)
  subst hl
  refine r_lv (lv' := [(0, .ref (ad 0)), (1, .int a1), (2, .int a2), (3, .int a3)]) rfl ?_
  unfold f_X10_field at h
  refine r_iload_n X dX10_field_0 rfl 1 rfl ?_
  obtain ⟨r1, σ2, hc_12, h⟩ := bnd_of h
  refine r_callS (As := [.int a1]) (rest := []) (st2 := [.int r1]) X cv_X10_127 (c_X10_isNight M.2.1 hc_12) rfl rfl rfl (Nat.le_of_ble_eq_true rfl) ⟨⟨rfl, rfl⟩, by decide, by decide⟩ dX10_field_1 ⟨rfl, rfl⟩ rfl ?_
  refine r_if_eq X 31 dX10_field_4 (by decide) h (fun h => ?_) (fun h => ?_)
  · refine r_bipush (v := -2) X dX10_field_31 (by decide) ?_
    exact r_iretz X rfl dX10_field_33 h
  · refine r_iload_n X dX10_field_7 rfl 2 rfl ?_
    obtain ⟨r3, σ4, hc_11, h⟩ := bnd_of h
    refine r_callS (As := [.int a2]) (rest := []) (st2 := [.int r3]) X cv_X10_118 (c_X10_isSix M.2.1 hc_11) rfl rfl rfl (Nat.le_of_ble_eq_true rfl) ⟨⟨rfl, rfl⟩, by decide, by decide⟩ dX10_field_8 ⟨rfl, rfl⟩ rfl ?_
    refine r_if_eq X 31 dX10_field_11 (by decide) h (fun h => ?_) (fun h => ?_)
    · refine r_bipush (v := -2) X dX10_field_31 (by decide) ?_
      exact r_iretz X rfl dX10_field_33 h
    · refine r_iload_n X dX10_field_14 rfl 3 rfl ?_
      obtain ⟨r5, σ6, hc_10, h⟩ := bnd_of h
      refine r_callS (As := [.int a3]) (rest := []) (st2 := [.int r5]) X cv_X10_118 (c_X10_isSix M.2.1 hc_10) rfl rfl rfl (Nat.le_of_ble_eq_true rfl) ⟨⟨rfl, rfl⟩, by decide, by decide⟩ dX10_field_15 ⟨rfl, rfl⟩ rfl ?_
      refine r_if_eq X 31 dX10_field_18 (by decide) h (fun h => ?_) (fun h => ?_)
      · refine r_bipush (v := -2) X dX10_field_31 (by decide) ?_
        exact r_iretz X rfl dX10_field_33 h
      · refine r_aload_n X dX10_field_21 rfl 0 rfl ?_
        refine r_iload_n X dX10_field_22 rfl 1 rfl ?_
        refine r_iload_n X dX10_field_23 rfl 2 rfl ?_
        refine r_iload_n X dX10_field_24 rfl 3 rfl ?_
        obtain ⟨r7, σ8, hc_9, h⟩ := bnd_of h
        refine r_callV (As := [.int a1, .int a2, .int a3]) (rest := []) (st2 := [.int r7]) (c := 0) X cv_X10_241 (c_X10_fieldOf M.2.1 hc_9) rfl (ci := 9) rfl fM_0 rfl rfl (Nat.le_of_ble_eq_true rfl) ⟨⟨rfl, rfl⟩, by decide, by decide⟩ dX10_field_25 ⟨rfl, rfl⟩ rfl ?_
        refine r_goto X 33 dX10_field_28 (by decide) ?_
        exact r_iretz X rfl dX10_field_33 h
set_option maxRecDepth 100000 in
set_option maxHeartbeats 4000000 in
theorem t_X10_many_b24 {M : am_M} {D : va_G} {cT : Nat → ClassId} {ad : Nat → Nat} (X : am_X M (D, cT, ad, NM, LM) cX10_many RX10 4 (some .int)) {z : Int32 × Sg} {k4 : Sg → Int32 → Int32 → Int32 → Option (Int32 × Sg)} (hk4 : ∀ (σ : Sg) (x1 : Int32) (x2 : Int32) (x3 : Int32), k4 σ x1 x2 x3 = some z → am_At M { frames := 1, cells := 0, slots := 0, locals := 21 } (D, cT, ad, NM, LM) (amQi M (D, cT, ad, NM, LM) z) 4 4 [(1, .int x1), (2, .int x2), (3, .int x3)] [] σ) (σ : Sg) (x1 : Int32) (x3 : Int32) (s0 : Int32) (s1 : Int32) (h : f_X10_many_b24 k4 σ x1 x3 s0 s1 = some z) : am_At M { frames := 1, cells := 0, slots := 0, locals := 21 } (D, cT, ad, NM, LM) (amQi M (D, cT, ad, NM, LM) z) 4 24 [(1, .int x1), (3, .int x3)] [.int s0, .int s1] σ := by
  unfold f_X10_many_b24 at h
  refine r_iadd X dX10_many_24 ?_
  refine r_leti h (fun v1 h => ?_)
  refine r_istore_n X [(2, .int v1), (1, .int x1), (3, .int x3)] dX10_many_25 rfl (by decide) rfl ?_
  refine r_iinc X [(3, .int (x3 + (1 : Int32))), (2, .int v1), (1, .int x1)] dX10_many_26 2 rfl (v := x3 + (1 : Int32)) (by rfl) (by decide) rfl ?_
  refine r_letv h (fun v2 h => ?_)
  refine r_goto X 4 dX10_many_29 (by decide) ?_
  refine r_sub (lv' := [(1, .int x1), (2, .int v1), (3, .int v2)]) [2, 1, 0] rfl ?_
  exact hk4 σ x1 v1 v2 h
set_option maxRecDepth 100000 in
set_option maxHeartbeats 4000000 in
theorem t_X10_many_b4 {M : am_M} {D : va_G} {cT : Nat → ClassId} {ad : Nat → Nat} (X : am_X M (D, cT, ad, NM, LM) cX10_many RX10 4 (some .int)) {z : Int32 × Sg} {k4 : Sg → Int32 → Int32 → Int32 → Option (Int32 × Sg)} (hk4 : ∀ (σ : Sg) (x1 : Int32) (x2 : Int32) (x3 : Int32), k4 σ x1 x2 x3 = some z → am_At M { frames := 1, cells := 0, slots := 0, locals := 21 } (D, cT, ad, NM, LM) (amQi M (D, cT, ad, NM, LM) z) 4 4 [(1, .int x1), (2, .int x2), (3, .int x3)] [] σ) (σ : Sg) (x1 : Int32) (x2 : Int32) (x3 : Int32) (h : f_X10_many_b4 k4 σ x1 x2 x3 = some z) : am_At M { frames := 1, cells := 0, slots := 0, locals := 21 } (D, cT, ad, NM, LM) (amQi M (D, cT, ad, NM, LM) z) 4 4 [(1, .int x1), (2, .int x2), (3, .int x3)] [] σ := by
  unfold f_X10_many_b4 at h
  refine r_iload_n X dX10_many_4 rfl 2 rfl ?_
  refine r_bipush (v := 8) X dX10_many_5 (by decide) ?_
  refine r_icmp_ge X 32 dX10_many_7 (by decide) h (fun h => ?_) (fun h => ?_)
  · refine r_iload_n X dX10_many_32 rfl 1 rfl ?_
    exact r_iretz X rfl dX10_many_33 h
  · refine r_iload_n X dX10_many_10 rfl 1 rfl ?_
    refine r_iload_n X dX10_many_11 rfl 0 rfl ?_
    refine r_iload_n X dX10_many_12 rfl 2 rfl ?_
    obtain ⟨r1, σ2, hc_3, h⟩ := bnd_of h
    refine r_callS (As := [.int x1, .int x3]) (rest := [.int x2]) (st2 := [.int r1, .int x2]) X cv_X10_209 (c_X10_isIn M.2.1 hc_3) rfl rfl rfl (Nat.le_of_ble_eq_true rfl) ⟨⟨rfl, rfl⟩, by decide, by decide⟩ dX10_many_13 ⟨rfl, rfl⟩ rfl ?_
    refine r_if_eq X 23 dX10_many_16 (by decide) h (fun h => ?_) (fun h => ?_)
    · refine r_iconst (v := 0) X dX10_many_23 (by decide) ?_
      refine r_sub (lv' := [(1, .int x1), (3, .int x3)]) [0, 2] rfl ?_
      exact t_X10_many_b24 X hk4 σ2 x1 x3 (0 : Int32) x2 h
    · refine r_iconst (v := 1) X dX10_many_19 (by decide) ?_
      refine r_goto X 24 dX10_many_20 (by decide) ?_
      refine r_sub (lv' := [(1, .int x1), (3, .int x3)]) [0, 2] rfl ?_
      exact t_X10_many_b24 X hk4 σ2 x1 x3 (1 : Int32) x2 h
theorem t_X10_many_l4 {M : am_M} {D : va_G} {cT : Nat → ClassId} {ad : Nat → Nat} (X : am_X M (D, cT, ad, NM, LM) cX10_many RX10 4 (some .int)) {z : Int32 × Sg} (n : Nat) : ∀ (σ : Sg) (x1 : Int32) (x2 : Int32) (x3 : Int32), f_X10_many_l4 n σ x1 x2 x3 = some z → am_At M { frames := 1, cells := 0, slots := 0, locals := 21 } (D, cT, ad, NM, LM) (amQi M (D, cT, ad, NM, LM) z) 4 4 [(1, .int x1), (2, .int x2), (3, .int x3)] [] σ := by
  induction n with
  | zero =>
    intro σ x1 x2 x3 h
    have h2 : (none : Option (Int32 × Sg)) = some z := h
    cases h2
  | succ n ih =>
    intro σ x1 x2 x3 h
    exact t_X10_many_b4 X (k4 := f_X10_many_l4 n) ih σ x1 x2 x3 h
set_option maxRecDepth 100000 in
set_option maxHeartbeats 4000000 in
theorem c_X10_many (l : Launch) {σ : Sg} {a1 : Int32} {z : Int32 × Sg} (h : f_X10_many σ a1 = some z) : am_Met l yX10_many cX10_many 4 (some .int) { frames := 1, cells := 0, slots := 0, locals := 21 } NM LM (fun ad => [.ref (ad 0), .int a1]) σ z.2 (fun _ => some (.int z.1)) := by
  refine am_enter (by decide +kernel) (fun ad => Nat.le_of_ble_eq_true rfl) (fun M D cT ad hl X => ?_)
  subst hl
  refine r_lv (lv' := [(0, .ref (ad 0)), (1, .int a1)]) rfl ?_
  unfold f_X10_many at h
  refine r_iconst (v := 0) X dX10_many_0 (by decide) ?_
  refine r_istore_n X [(2, .int (0 : Int32)), (0, .ref (ad 0)), (1, .int a1)] dX10_many_1 rfl (by decide) rfl ?_
  refine r_iconst (v := 0) X dX10_many_2 (by decide) ?_
  refine r_istore_n X [(3, .int (0 : Int32)), (2, .int (0 : Int32)), (0, .ref (ad 0)), (1, .int a1)] dX10_many_3 rfl (by decide) rfl ?_
  refine r_sub (lv' := [(1, .int a1), (2, .int (0 : Int32)), (3, .int (0 : Int32))]) [3, 1, 0] rfl ?_
  exact t_X10_many_l4 X 300 σ a1 (0 : Int32) (0 : Int32) h
set_option maxRecDepth 100000 in
set_option maxHeartbeats 4000000 in
theorem c_X10_upOf (l : Launch) {σ : Sg} {a1 : Int32} {a2 : Int32} {z : Int32 × Sg} (h : f_X10_upOf σ a1 a2 = some z) : am_Met l yX10_upOf cX10_upOf 3 (some .int) { frames := 8, cells := 0, slots := 0, locals := 179 } NM LM (fun ad => [.ref (ad 0), .int a1, .int a2]) σ z.2 (fun _ => some (.int z.1)) := by
  refine am_enter (by decide +kernel) (fun ad => Nat.le_of_ble_eq_true rfl) (fun M D cT ad hl X => ?_)
  subst hl
  refine r_lv (lv' := [(0, .ref (ad 0)), (1, .int a1), (2, .int a2)]) rfl ?_
  unfold f_X10_upOf at h
  refine r_aload_n X dX10_upOf_0 rfl 0 rfl ?_
  obtain ⟨r1, σ2, hc_6, h⟩ := bnd_of h
  refine r_callV (As := []) (rest := []) (st2 := []) (c := 0) X cv_X10_235 (c_X10_runsTold M.2.1 hc_6) rfl (ci := 9) rfl fM_0 rfl rfl (Nat.le_of_ble_eq_true rfl) ⟨⟨rfl, rfl⟩, by decide, by decide⟩ dX10_upOf_1 ⟨rfl, rfl⟩ rfl ?_
  refine r_iload_n X dX10_upOf_4 rfl 2 rfl ?_
  refine r_if_ne X 21 dX10_upOf_5 (by decide) h (fun h => ?_) (fun h => ?_)
  · refine r_aload_n X dX10_upOf_8 rfl 0 rfl ?_
    refine r_aload_n X dX10_upOf_9 rfl 0 rfl ?_
    refine r_getR (c1 := 20) X fg_X10_67_X10 fM_0 rfl dX10_upOf_10 ?_
    refine r_iload_n X dX10_upOf_13 rfl 1 rfl ?_
    refine r_iald X fM_20 dX10_upOf_14 h (fun h => ?_)
    obtain ⟨r3, σ4, hc_5, h⟩ := bnd_of h
    refine r_callV (As := [.int (σ2 20 (a1).toNatClampNeg)]) (rest := []) (st2 := [.int r3]) (c := 0) X cv_X10_244 (c_X10_many M.2.1 hc_5) rfl (ci := 9) rfl fM_0 rfl rfl (Nat.le_of_ble_eq_true rfl) ⟨⟨rfl, rfl⟩, by decide, by decide⟩ dX10_upOf_15 ⟨rfl, rfl⟩ rfl ?_
    refine r_goto X 27 dX10_upOf_18 (by decide) ?_
    exact r_iretz X rfl dX10_upOf_27 h
  · refine r_aload_n X dX10_upOf_21 rfl 0 rfl ?_
    refine r_getR (c1 := 21) X fg_X10_70_X10 fM_0 rfl dX10_upOf_22 ?_
    refine r_iload_n X dX10_upOf_25 rfl 1 rfl ?_
    refine r_iald X fM_21 dX10_upOf_26 h (fun h => ?_)
    exact r_iretz X rfl dX10_upOf_27 h
set_option maxRecDepth 100000 in
set_option maxHeartbeats 4000000 in
theorem c_X10_up (l : Launch) {σ : Sg} {a1 : Int32} {a2 : Int32} {z : Int32 × Sg} (h : f_X10_up σ a1 a2 = some z) : am_Met l yX10_up cX10_up 3 (some .int) { frames := 9, cells := 0, slots := 0, locals := 201 } NM LM (fun ad => [.ref (ad 0), .int a1, .int a2]) σ z.2 (fun _ => some (.int z.1)) := by
  refine am_enter (by decide +kernel) (fun ad => Nat.le_of_ble_eq_true rfl) (fun M D cT ad hl X => ?_)
  subst hl
  refine r_lv (lv' := [(0, .ref (ad 0)), (1, .int a1), (2, .int a2)]) rfl ?_
  unfold f_X10_up at h
  refine r_iload_n X dX10_up_0 rfl 1 rfl ?_
  obtain ⟨r1, σ2, hc_9, h⟩ := bnd_of h
  refine r_callS (As := [.int a1]) (rest := []) (st2 := [.int r1]) X cv_X10_127 (c_X10_isNight M.2.1 hc_9) rfl rfl rfl (Nat.le_of_ble_eq_true rfl) ⟨⟨rfl, rfl⟩, by decide, by decide⟩ dX10_up_1 ⟨rfl, rfl⟩ rfl ?_
  refine r_if_eq X 23 dX10_up_4 (by decide) h (fun h => ?_) (fun h => ?_)
  · refine r_bipush (v := -2) X dX10_up_23 (by decide) ?_
    exact r_iretz X rfl dX10_up_25 h
  · refine r_iload_n X dX10_up_7 rfl 2 rfl ?_
    obtain ⟨r3, σ4, hc_8, h⟩ := bnd_of h
    refine r_callS (As := [.int a2]) (rest := []) (st2 := [.int r3]) X cv_X10_168 (c_X10_isTwo M.2.1 hc_8) rfl rfl rfl (Nat.le_of_ble_eq_true rfl) ⟨⟨rfl, rfl⟩, by decide, by decide⟩ dX10_up_8 ⟨rfl, rfl⟩ rfl ?_
    refine r_if_eq X 23 dX10_up_11 (by decide) h (fun h => ?_) (fun h => ?_)
    · refine r_bipush (v := -2) X dX10_up_23 (by decide) ?_
      exact r_iretz X rfl dX10_up_25 h
    · refine r_aload_n X dX10_up_14 rfl 0 rfl ?_
      refine r_iload_n X dX10_up_15 rfl 1 rfl ?_
      refine r_iload_n X dX10_up_16 rfl 2 rfl ?_
      obtain ⟨r5, σ6, hc_7, h⟩ := bnd_of h
      refine r_callV (As := [.int a1, .int a2]) (rest := []) (st2 := [.int r5]) (c := 0) X cv_X10_247 (c_X10_upOf M.2.1 hc_7) rfl (ci := 9) rfl fM_0 rfl rfl (Nat.le_of_ble_eq_true rfl) ⟨⟨rfl, rfl⟩, by decide, by decide⟩ dX10_up_17 ⟨rfl, rfl⟩ rfl ?_
      refine r_goto X 25 dX10_up_20 (by decide) ?_
      exact r_iretz X rfl dX10_up_25 h
set_option maxRecDepth 100000 in
set_option maxHeartbeats 4000000 in
theorem c_X10_metOf (l : Launch) {σ : Sg} {a1 : Int32} {z : Int32 × Sg} (h : f_X10_metOf σ a1 = some z) : am_Met l yX10_metOf cX10_metOf 2 (some .int) { frames := 8, cells := 0, slots := 0, locals := 179 } NM LM (fun ad => [.ref (ad 0), .int a1]) σ z.2 (fun _ => some (.int z.1)) := by
  refine am_enter (by decide +kernel) (fun ad => Nat.le_of_ble_eq_true rfl) (fun M D cT ad hl X => ?_)
  subst hl
  refine r_lv (lv' := [(0, .ref (ad 0)), (1, .int a1)]) rfl ?_
  unfold f_X10_metOf at h
  refine r_aload_n X dX10_metOf_0 rfl 0 rfl ?_
  obtain ⟨r1, σ2, hc_3, h⟩ := bnd_of h
  refine r_callV (As := []) (rest := []) (st2 := []) (c := 0) X cv_X10_235 (c_X10_runsTold M.2.1 hc_3) rfl (ci := 9) rfl fM_0 rfl rfl (Nat.le_of_ble_eq_true rfl) ⟨⟨rfl, rfl⟩, by decide, by decide⟩ dX10_metOf_1 ⟨rfl, rfl⟩ rfl ?_
  refine r_aload_n X dX10_metOf_4 rfl 0 rfl ?_
  refine r_getR (c1 := 17) X fg_X10_58_X10 fM_0 rfl dX10_metOf_5 ?_
  refine r_iload_n X dX10_metOf_8 rfl 1 rfl ?_
  refine r_iald X fM_17 dX10_metOf_9 h (fun h => ?_)
  exact r_iretz X rfl dX10_metOf_10 h
set_option maxRecDepth 100000 in
set_option maxHeartbeats 4000000 in
theorem c_X10_met (l : Launch) {σ : Sg} {a1 : Int32} {z : Int32 × Sg} (h : f_X10_met σ a1 = some z) : am_Met l yX10_met cX10_met 2 (some .int) { frames := 9, cells := 0, slots := 0, locals := 200 } NM LM (fun ad => [.ref (ad 0), .int a1]) σ z.2 (fun _ => some (.int z.1)) := by
  refine am_enter (by decide +kernel) (fun ad => Nat.le_of_ble_eq_true rfl) (fun M D cT ad hl X => ?_)
  subst hl
  refine r_lv (lv' := [(0, .ref (ad 0)), (1, .int a1)]) rfl ?_
  unfold f_X10_met at h
  refine r_aload_n X dX10_met_0 rfl 0 rfl ?_
  refine r_iload_n X dX10_met_1 rfl 1 rfl ?_
  obtain ⟨r1, σ2, hc_6, h⟩ := bnd_of h
  refine r_callV (As := [.int a1]) (rest := []) (st2 := [.int r1]) (c := 0) X cv_X10_159 (c_X10_isNeed M.2.1 hc_6) rfl (ci := 9) rfl fM_0 rfl rfl (Nat.le_of_ble_eq_true rfl) ⟨⟨rfl, rfl⟩, by decide, by decide⟩ dX10_met_2 ⟨rfl, rfl⟩ rfl ?_
  refine r_if_eq X 16 dX10_met_5 (by decide) h (fun h => ?_) (fun h => ?_)
  · refine r_bipush (v := -2) X dX10_met_16 (by decide) ?_
    exact r_iretz X rfl dX10_met_18 h
  · refine r_aload_n X dX10_met_8 rfl 0 rfl ?_
    refine r_iload_n X dX10_met_9 rfl 1 rfl ?_
    obtain ⟨r3, σ4, hc_5, h⟩ := bnd_of h
    refine r_callV (As := [.int a1]) (rest := []) (st2 := [.int r3]) (c := 0) X cv_X10_250 (c_X10_metOf M.2.1 hc_5) rfl (ci := 9) rfl fM_0 rfl rfl (Nat.le_of_ble_eq_true rfl) ⟨⟨rfl, rfl⟩, by decide, by decide⟩ dX10_met_10 ⟨rfl, rfl⟩ rfl ?_
    refine r_goto X 18 dX10_met_13 (by decide) ?_
    exact r_iretz X rfl dX10_met_18 h
set_option maxRecDepth 100000 in
set_option maxHeartbeats 4000000 in
theorem t_X10_stoodNow_b29 {M : am_M} {D : va_G} {cT : Nat → ClassId} {ad : Nat → Nat} (X : am_X M (D, cT, ad, NM, LM) cX10_stoodNow RX10 4 (some .int)) {z : Int32 × Sg} {k4 : Sg → Int32 → Int32 → Int32 → Option (Int32 × Sg)} (hk4 : ∀ (σ : Sg) (x1 : Int32) (x2 : Int32) (x3 : Int32), k4 σ x1 x2 x3 = some z → am_At M { frames := 1, cells := 0, slots := 0, locals := 21 } (D, cT, ad, NM, LM) (amQi M (D, cT, ad, NM, LM) z) 4 4 [(0, .ref (ad 0)), (1, .int x1), (2, .int x2), (3, .int x3)] [] σ) (σ : Sg) (x1 : Int32) (x3 : Int32) (s0 : Int32) (s1 : Int32) (h : f_X10_stoodNow_b29 k4 σ x1 x3 s0 s1 = some z) : am_At M { frames := 1, cells := 0, slots := 0, locals := 21 } (D, cT, ad, NM, LM) (amQi M (D, cT, ad, NM, LM) z) 4 29 [(0, .ref (ad 0)), (1, .int x1), (3, .int x3)] [.int s0, .int s1] σ := by
  unfold f_X10_stoodNow_b29 at h
  refine r_iadd X dX10_stoodNow_29 ?_
  refine r_leti h (fun v1 h => ?_)
  refine r_istore_n X [(2, .int v1), (0, .ref (ad 0)), (1, .int x1), (3, .int x3)] dX10_stoodNow_30 rfl (by decide) rfl ?_
  refine r_iinc X [(3, .int (x3 + (1 : Int32))), (2, .int v1), (0, .ref (ad 0)), (1, .int x1)] dX10_stoodNow_31 3 rfl (v := x3 + (1 : Int32)) (by rfl) (by decide) rfl ?_
  refine r_letv h (fun v2 h => ?_)
  refine r_goto X 4 dX10_stoodNow_34 (by decide) ?_
  refine r_sub (lv' := [(0, .ref (ad 0)), (1, .int x1), (2, .int v1), (3, .int v2)]) [2, 3, 1, 0] rfl ?_
  exact hk4 σ x1 v1 v2 h
set_option maxRecDepth 100000 in
set_option maxHeartbeats 4000000 in
theorem t_X10_stoodNow_b4 {M : am_M} {D : va_G} {cT : Nat → ClassId} {ad : Nat → Nat} (X : am_X M (D, cT, ad, NM, LM) cX10_stoodNow RX10 4 (some .int)) {z : Int32 × Sg} {k4 : Sg → Int32 → Int32 → Int32 → Option (Int32 × Sg)} (hk4 : ∀ (σ : Sg) (x1 : Int32) (x2 : Int32) (x3 : Int32), k4 σ x1 x2 x3 = some z → am_At M { frames := 1, cells := 0, slots := 0, locals := 21 } (D, cT, ad, NM, LM) (amQi M (D, cT, ad, NM, LM) z) 4 4 [(0, .ref (ad 0)), (1, .int x1), (2, .int x2), (3, .int x3)] [] σ) (σ : Sg) (x1 : Int32) (x2 : Int32) (x3 : Int32) (h : f_X10_stoodNow_b4 k4 σ x1 x2 x3 = some z) : am_At M { frames := 1, cells := 0, slots := 0, locals := 21 } (D, cT, ad, NM, LM) (amQi M (D, cT, ad, NM, LM) z) 4 4 [(0, .ref (ad 0)), (1, .int x1), (2, .int x2), (3, .int x3)] [] σ := by
  unfold f_X10_stoodNow_b4 at h
  refine r_iload_n X dX10_stoodNow_4 rfl 3 rfl ?_
  refine r_bipush (v := 24) X dX10_stoodNow_5 (by decide) ?_
  refine r_icmp_ge X 37 dX10_stoodNow_7 (by decide) h (fun h => ?_) (fun h => ?_)
  · refine r_iload_n X dX10_stoodNow_37 rfl 2 rfl ?_
    exact r_iretz X rfl dX10_stoodNow_38 h
  · refine r_iload_n X dX10_stoodNow_10 rfl 2 rfl ?_
    refine r_aload_n X dX10_stoodNow_11 rfl 0 rfl ?_
    refine r_getR (c1 := 20) X fg_X10_67_X10 fM_0 rfl dX10_stoodNow_12 ?_
    refine r_iload_n X dX10_stoodNow_15 rfl 3 rfl ?_
    refine r_iald X fM_20 dX10_stoodNow_16 h (fun h => ?_)
    refine r_iload_n X dX10_stoodNow_17 rfl 1 rfl ?_
    obtain ⟨r1, σ2, hc_3, h⟩ := bnd_of h
    refine r_callS (As := [.int (σ 20 (x3).toNatClampNeg), .int x1]) (rest := [.int x2]) (st2 := [.int r1, .int x2]) X cv_X10_209 (c_X10_isIn M.2.1 hc_3) rfl rfl rfl (Nat.le_of_ble_eq_true rfl) ⟨⟨rfl, rfl⟩, by decide, by decide⟩ dX10_stoodNow_18 ⟨rfl, rfl⟩ rfl ?_
    refine r_if_eq X 28 dX10_stoodNow_21 (by decide) h (fun h => ?_) (fun h => ?_)
    · refine r_iconst (v := 0) X dX10_stoodNow_28 (by decide) ?_
      refine r_sub (lv' := [(0, .ref (ad 0)), (1, .int x1), (3, .int x3)]) [0, 1, 3] rfl ?_
      exact t_X10_stoodNow_b29 X hk4 σ2 x1 x3 (0 : Int32) x2 h
    · refine r_iconst (v := 1) X dX10_stoodNow_24 (by decide) ?_
      refine r_goto X 29 dX10_stoodNow_25 (by decide) ?_
      refine r_sub (lv' := [(0, .ref (ad 0)), (1, .int x1), (3, .int x3)]) [0, 1, 3] rfl ?_
      exact t_X10_stoodNow_b29 X hk4 σ2 x1 x3 (1 : Int32) x2 h
theorem t_X10_stoodNow_l4 {M : am_M} {D : va_G} {cT : Nat → ClassId} {ad : Nat → Nat} (X : am_X M (D, cT, ad, NM, LM) cX10_stoodNow RX10 4 (some .int)) {z : Int32 × Sg} (n : Nat) : ∀ (σ : Sg) (x1 : Int32) (x2 : Int32) (x3 : Int32), f_X10_stoodNow_l4 n σ x1 x2 x3 = some z → am_At M { frames := 1, cells := 0, slots := 0, locals := 21 } (D, cT, ad, NM, LM) (amQi M (D, cT, ad, NM, LM) z) 4 4 [(0, .ref (ad 0)), (1, .int x1), (2, .int x2), (3, .int x3)] [] σ := by
  induction n with
  | zero =>
    intro σ x1 x2 x3 h
    have h2 : (none : Option (Int32 × Sg)) = some z := h
    cases h2
  | succ n ih =>
    intro σ x1 x2 x3 h
    exact t_X10_stoodNow_b4 X (k4 := f_X10_stoodNow_l4 n) ih σ x1 x2 x3 h
set_option maxRecDepth 100000 in
set_option maxHeartbeats 4000000 in
theorem c_X10_stoodNow (l : Launch) {σ : Sg} {a1 : Int32} {z : Int32 × Sg} (h : f_X10_stoodNow σ a1 = some z) : am_Met l yX10_stoodNow cX10_stoodNow 4 (some .int) { frames := 1, cells := 0, slots := 0, locals := 21 } NM LM (fun ad => [.ref (ad 0), .int a1]) σ z.2 (fun _ => some (.int z.1)) := by
  refine am_enter (by decide +kernel) (fun ad => Nat.le_of_ble_eq_true rfl) (fun M D cT ad hl X => ?_)
  subst hl
  refine r_lv (lv' := [(0, .ref (ad 0)), (1, .int a1)]) rfl ?_
  unfold f_X10_stoodNow at h
  refine r_iconst (v := 0) X dX10_stoodNow_0 (by decide) ?_
  refine r_istore_n X [(2, .int (0 : Int32)), (0, .ref (ad 0)), (1, .int a1)] dX10_stoodNow_1 rfl (by decide) rfl ?_
  refine r_iconst (v := 0) X dX10_stoodNow_2 (by decide) ?_
  refine r_istore_n X [(3, .int (0 : Int32)), (2, .int (0 : Int32)), (0, .ref (ad 0)), (1, .int a1)] dX10_stoodNow_3 rfl (by decide) rfl ?_
  refine r_sub (lv' := [(0, .ref (ad 0)), (1, .int a1), (2, .int (0 : Int32)), (3, .int (0 : Int32))]) [2, 3, 1, 0] rfl ?_
  exact t_X10_stoodNow_l4 X 300 σ a1 (0 : Int32) (0 : Int32) h
set_option maxRecDepth 100000 in
set_option maxHeartbeats 4000000 in
theorem c_X10_stoodOf (l : Launch) {σ : Sg} {a1 : Int32} {z : Int32 × Sg} (h : f_X10_stoodOf σ a1 = some z) : am_Met l yX10_stoodOf cX10_stoodOf 2 (some .int) { frames := 8, cells := 0, slots := 0, locals := 179 } NM LM (fun ad => [.ref (ad 0), .int a1]) σ z.2 (fun _ => some (.int z.1)) := by
  refine am_enter (by decide +kernel) (fun ad => Nat.le_of_ble_eq_true rfl) (fun M D cT ad hl X => ?_)
  subst hl
  refine r_lv (lv' := [(0, .ref (ad 0)), (1, .int a1)]) rfl ?_
  unfold f_X10_stoodOf at h
  refine r_aload_n X dX10_stoodOf_0 rfl 0 rfl ?_
  obtain ⟨r1, σ2, hc_6, h⟩ := bnd_of h
  refine r_callV (As := []) (rest := []) (st2 := []) (c := 0) X cv_X10_235 (c_X10_runsTold M.2.1 hc_6) rfl (ci := 9) rfl fM_0 rfl rfl (Nat.le_of_ble_eq_true rfl) ⟨⟨rfl, rfl⟩, by decide, by decide⟩ dX10_stoodOf_1 ⟨rfl, rfl⟩ rfl ?_
  refine r_aload_n X dX10_stoodOf_4 rfl 0 rfl ?_
  refine r_iload_n X dX10_stoodOf_5 rfl 1 rfl ?_
  obtain ⟨r3, σ4, hc_5, h⟩ := bnd_of h
  refine r_callV (As := [.int a1]) (rest := []) (st2 := [.int r3]) (c := 0) X cv_X10_253 (c_X10_stoodNow M.2.1 hc_5) rfl (ci := 9) rfl fM_0 rfl rfl (Nat.le_of_ble_eq_true rfl) ⟨⟨rfl, rfl⟩, by decide, by decide⟩ dX10_stoodOf_6 ⟨rfl, rfl⟩ rfl ?_
  exact r_iretz X rfl dX10_stoodOf_9 h
set_option maxRecDepth 100000 in
set_option maxHeartbeats 4000000 in
theorem c_X10_stood (l : Launch) {σ : Sg} {a1 : Int32} {z : Int32 × Sg} (h : f_X10_stood σ a1 = some z) : am_Met l yX10_stood cX10_stood 2 (some .int) { frames := 9, cells := 0, slots := 0, locals := 200 } NM LM (fun ad => [.ref (ad 0), .int a1]) σ z.2 (fun _ => some (.int z.1)) := by
  refine am_enter (by decide +kernel) (fun ad => Nat.le_of_ble_eq_true rfl) (fun M D cT ad hl X => ?_)
  subst hl
  refine r_lv (lv' := [(0, .ref (ad 0)), (1, .int a1)]) rfl ?_
  unfold f_X10_stood at h
  refine r_aload_n X dX10_stood_0 rfl 0 rfl ?_
  refine r_iload_n X dX10_stood_1 rfl 1 rfl ?_
  obtain ⟨r1, σ2, hc_6, h⟩ := bnd_of h
  refine r_callV (As := [.int a1]) (rest := []) (st2 := [.int r1]) (c := 0) X cv_X10_153 (c_X10_isOne M.2.1 hc_6) rfl (ci := 9) rfl fM_0 rfl rfl (Nat.le_of_ble_eq_true rfl) ⟨⟨rfl, rfl⟩, by decide, by decide⟩ dX10_stood_2 ⟨rfl, rfl⟩ rfl ?_
  refine r_if_eq X 16 dX10_stood_5 (by decide) h (fun h => ?_) (fun h => ?_)
  · refine r_bipush (v := -2) X dX10_stood_16 (by decide) ?_
    exact r_iretz X rfl dX10_stood_18 h
  · refine r_aload_n X dX10_stood_8 rfl 0 rfl ?_
    refine r_iload_n X dX10_stood_9 rfl 1 rfl ?_
    obtain ⟨r3, σ4, hc_5, h⟩ := bnd_of h
    refine r_callV (As := [.int a1]) (rest := []) (st2 := [.int r3]) (c := 0) X cv_X10_256 (c_X10_stoodOf M.2.1 hc_5) rfl (ci := 9) rfl fM_0 rfl rfl (Nat.le_of_ble_eq_true rfl) ⟨⟨rfl, rfl⟩, by decide, by decide⟩ dX10_stood_10 ⟨rfl, rfl⟩ rfl ?_
    refine r_goto X 18 dX10_stood_13 (by decide) ?_
    exact r_iretz X rfl dX10_stood_18 h
set_option maxRecDepth 100000 in
set_option maxHeartbeats 4000000 in
theorem c_X10_wronglyOf (l : Launch) {σ : Sg} {z : Int32 × Sg} (h : f_X10_wronglyOf σ = some z) : am_Met l yX10_wronglyOf cX10_wronglyOf 1 (some .int) { frames := 8, cells := 0, slots := 0, locals := 179 } NM LM (fun ad => [.ref (ad 0)]) σ z.2 (fun _ => some (.int z.1)) := by
  refine am_enter (by decide +kernel) (fun ad => Nat.le_of_ble_eq_true rfl) (fun M D cT ad hl X => ?_)
  subst hl
  refine r_lv (lv' := [(0, .ref (ad 0))]) rfl ?_
  unfold f_X10_wronglyOf at h
  refine r_aload_n X dX10_wronglyOf_0 rfl 0 rfl ?_
  obtain ⟨r1, σ2, hc_3, h⟩ := bnd_of h
  refine r_callV (As := []) (rest := []) (st2 := []) (c := 0) X cv_X10_235 (c_X10_runsTold M.2.1 hc_3) rfl (ci := 9) rfl fM_0 rfl rfl (Nat.le_of_ble_eq_true rfl) ⟨⟨rfl, rfl⟩, by decide, by decide⟩ dX10_wronglyOf_1 ⟨rfl, rfl⟩ rfl ?_
  refine r_aload_n X dX10_wronglyOf_4 rfl 0 rfl ?_
  refine r_getI X fg_X10_197_X10 fM_0 rfl dX10_wronglyOf_5 ?_
  exact r_iretz X rfl dX10_wronglyOf_8 h
set_option maxRecDepth 100000 in
set_option maxHeartbeats 4000000 in
theorem c_X10_wrongly (l : Launch) {σ : Sg} {z : Int32 × Sg} (h : f_X10_wrongly σ = some z) : am_Met l yX10_wrongly cX10_wrongly 1 (some .int) { frames := 9, cells := 0, slots := 0, locals := 199 } NM LM (fun ad => [.ref (ad 0)]) σ z.2 (fun _ => some (.int z.1)) := by
  refine am_enter (by decide +kernel) (fun ad => Nat.le_of_ble_eq_true rfl) (fun M D cT ad hl X => ?_)
  subst hl
  refine r_lv (lv' := [(0, .ref (ad 0))]) rfl ?_
  unfold f_X10_wrongly at h
  refine r_aload_n X dX10_wrongly_0 rfl 0 rfl ?_
  obtain ⟨r1, σ2, hc_3, h⟩ := bnd_of h
  refine r_callV (As := []) (rest := []) (st2 := [.int r1]) (c := 0) X cv_X10_259 (c_X10_wronglyOf M.2.1 hc_3) rfl (ci := 9) rfl fM_0 rfl rfl (Nat.le_of_ble_eq_true rfl) ⟨⟨rfl, rfl⟩, by decide, by decide⟩ dX10_wrongly_1 ⟨rfl, rfl⟩ rfl ?_
  exact r_iretz X rfl dX10_wrongly_4 h
set_option maxRecDepth 100000 in
set_option maxHeartbeats 4000000 in
theorem c_X10_firstOf (l : Launch) {σ : Sg} {a1 : Int32} {z : Int32 × Sg} (h : f_X10_firstOf σ a1 = some z) : am_Met l yX10_firstOf cX10_firstOf 2 (some .int) { frames := 8, cells := 0, slots := 0, locals := 179 } NM LM (fun ad => [.ref (ad 0), .int a1]) σ z.2 (fun _ => some (.int z.1)) := by
  refine am_enter (by decide +kernel) (fun ad => Nat.le_of_ble_eq_true rfl) (fun M D cT ad hl X => ?_)
  subst hl
  refine r_lv (lv' := [(0, .ref (ad 0)), (1, .int a1)]) rfl ?_
  unfold f_X10_firstOf at h
  refine r_aload_n X dX10_firstOf_0 rfl 0 rfl ?_
  obtain ⟨r1, σ2, hc_3, h⟩ := bnd_of h
  refine r_callV (As := []) (rest := []) (st2 := []) (c := 0) X cv_X10_235 (c_X10_runsTold M.2.1 hc_3) rfl (ci := 9) rfl fM_0 rfl rfl (Nat.le_of_ble_eq_true rfl) ⟨⟨rfl, rfl⟩, by decide, by decide⟩ dX10_firstOf_1 ⟨rfl, rfl⟩ rfl ?_
  refine r_iload_n X dX10_firstOf_4 rfl 1 rfl ?_
  refine r_if_ne X 15 dX10_firstOf_5 (by decide) h (fun h => ?_) (fun h => ?_)
  · refine r_aload_n X dX10_firstOf_8 rfl 0 rfl ?_
    refine r_getI X fg_X10_203_X10 fM_0 rfl dX10_firstOf_9 ?_
    refine r_goto X 19 dX10_firstOf_12 (by decide) ?_
    exact r_iretz X rfl dX10_firstOf_19 h
  · refine r_aload_n X dX10_firstOf_15 rfl 0 rfl ?_
    refine r_getI X fg_X10_206_X10 fM_0 rfl dX10_firstOf_16 ?_
    exact r_iretz X rfl dX10_firstOf_19 h
set_option maxRecDepth 100000 in
set_option maxHeartbeats 4000000 in
theorem c_X10_first (l : Launch) {σ : Sg} {a1 : Int32} {z : Int32 × Sg} (h : f_X10_first σ a1 = some z) : am_Met l yX10_first cX10_first 2 (some .int) { frames := 9, cells := 0, slots := 0, locals := 200 } NM LM (fun ad => [.ref (ad 0), .int a1]) σ z.2 (fun _ => some (.int z.1)) := by
  refine am_enter (by decide +kernel) (fun ad => Nat.le_of_ble_eq_true rfl) (fun M D cT ad hl X => ?_)
  subst hl
  refine r_lv (lv' := [(0, .ref (ad 0)), (1, .int a1)]) rfl ?_
  unfold f_X10_first at h
  refine r_iload_n X dX10_first_0 rfl 1 rfl ?_
  obtain ⟨r1, σ2, hc_6, h⟩ := bnd_of h
  refine r_callS (As := [.int a1]) (rest := []) (st2 := [.int r1]) X cv_X10_168 (c_X10_isTwo M.2.1 hc_6) rfl rfl rfl (Nat.le_of_ble_eq_true rfl) ⟨⟨rfl, rfl⟩, by decide, by decide⟩ dX10_first_1 ⟨rfl, rfl⟩ rfl ?_
  refine r_if_eq X 15 dX10_first_4 (by decide) h (fun h => ?_) (fun h => ?_)
  · refine r_bipush (v := -2) X dX10_first_15 (by decide) ?_
    exact r_iretz X rfl dX10_first_17 h
  · refine r_aload_n X dX10_first_7 rfl 0 rfl ?_
    refine r_iload_n X dX10_first_8 rfl 1 rfl ?_
    obtain ⟨r3, σ4, hc_5, h⟩ := bnd_of h
    refine r_callV (As := [.int a1]) (rest := []) (st2 := [.int r3]) (c := 0) X cv_X10_263 (c_X10_firstOf M.2.1 hc_5) rfl (ci := 9) rfl fM_0 rfl rfl (Nat.le_of_ble_eq_true rfl) ⟨⟨rfl, rfl⟩, by decide, by decide⟩ dX10_first_9 ⟨rfl, rfl⟩ rfl ?_
    refine r_goto X 17 dX10_first_12 (by decide) ?_
    exact r_iretz X rfl dX10_first_17 h
set_option maxRecDepth 100000 in
set_option maxHeartbeats 4000000 in
theorem t_X10_gateOf_b54 {M : am_M} {D : va_G} {cT : Nat → ClassId} {ad : Nat → Nat} (X : am_X M (D, cT, ad, NM, LM) cX10_gateOf RX10 4 (some .int)) {z : Int32 × Sg} {k10 : Sg → Int32 → Int32 → Int32 → Option (Int32 × Sg)} (hk10 : ∀ (σ : Sg) (x1 : Int32) (x2 : Int32) (x3 : Int32), k10 σ x1 x2 x3 = some z → am_At M { frames := 8, cells := 0, slots := 0, locals := 179 } (D, cT, ad, NM, LM) (amQi M (D, cT, ad, NM, LM) z) 4 10 [(0, .ref (ad 0)), (1, .int x1), (2, .int x2), (3, .int x3)] [] σ) (σ : Sg) (x1 : Int32) (x3 : Int32) (s0 : Int32) (h : f_X10_gateOf_b54 k10 σ x1 x3 s0 = some z) : am_At M { frames := 8, cells := 0, slots := 0, locals := 179 } (D, cT, ad, NM, LM) (amQi M (D, cT, ad, NM, LM) z) 4 54 [(0, .ref (ad 0)), (1, .int x1), (3, .int x3)] [.int s0] σ := by
  unfold f_X10_gateOf_b54 at h
  refine r_istore_n X [(2, .int s0), (0, .ref (ad 0)), (1, .int x1), (3, .int x3)] dX10_gateOf_54 rfl (by decide) rfl ?_
  refine r_iinc X [(3, .int (x3 + (1 : Int32))), (2, .int s0), (0, .ref (ad 0)), (1, .int x1)] dX10_gateOf_55 3 rfl (v := x3 + (1 : Int32)) (by rfl) (by decide) rfl ?_
  refine r_letv h (fun v1 h => ?_)
  refine r_goto X 10 dX10_gateOf_58 (by decide) ?_
  refine r_sub (lv' := [(0, .ref (ad 0)), (1, .int x1), (2, .int s0), (3, .int v1)]) [2, 3, 1, 0] rfl ?_
  exact hk10 σ x1 s0 v1 h
set_option maxRecDepth 100000 in
set_option maxHeartbeats 4000000 in
theorem t_X10_gateOf_b33 {M : am_M} {D : va_G} {cT : Nat → ClassId} {ad : Nat → Nat} (X : am_X M (D, cT, ad, NM, LM) cX10_gateOf RX10 4 (some .int)) {z : Int32 × Sg} {k10 : Sg → Int32 → Int32 → Int32 → Option (Int32 × Sg)} (hk10 : ∀ (σ : Sg) (x1 : Int32) (x2 : Int32) (x3 : Int32), k10 σ x1 x2 x3 = some z → am_At M { frames := 8, cells := 0, slots := 0, locals := 179 } (D, cT, ad, NM, LM) (amQi M (D, cT, ad, NM, LM) z) 4 10 [(0, .ref (ad 0)), (1, .int x1), (2, .int x2), (3, .int x3)] [] σ) (σ : Sg) (x2 : Int32) (x3 : Int32) (s0 : Int32) (h : f_X10_gateOf_b33 k10 σ x2 x3 s0 = some z) : am_At M { frames := 8, cells := 0, slots := 0, locals := 179 } (D, cT, ad, NM, LM) (amQi M (D, cT, ad, NM, LM) z) 4 33 [(0, .ref (ad 0)), (2, .int x2), (3, .int x3)] [.int s0] σ := by
  unfold f_X10_gateOf_b33 at h
  refine r_istore_n X [(1, .int s0), (0, .ref (ad 0)), (2, .int x2), (3, .int x3)] dX10_gateOf_33 rfl (by decide) rfl ?_
  refine r_aload_n X dX10_gateOf_34 rfl 1 rfl ?_
  refine r_getR (c1 := 16) X fg_X10_55_X10 fM_0 rfl dX10_gateOf_35 ?_
  refine r_iload_n X dX10_gateOf_38 rfl 3 rfl ?_
  refine r_iald X fM_16 dX10_gateOf_39 h (fun h => ?_)
  refine r_iload_n X dX10_gateOf_40 rfl 2 rfl ?_
  refine r_icmp_le X 53 dX10_gateOf_41 (by decide) h (fun h => ?_) (fun h => ?_)
  · refine r_iload_n X dX10_gateOf_53 rfl 2 rfl ?_
    refine r_sub (lv' := [(0, .ref (ad 0)), (1, .int s0), (3, .int x3)]) [1, 0, 3] rfl ?_
    exact t_X10_gateOf_b54 X hk10 σ s0 x3 x2 h
  · refine r_aload_n X dX10_gateOf_44 rfl 1 rfl ?_
    refine r_getR (c1 := 16) X fg_X10_55_X10 fM_0 rfl dX10_gateOf_45 ?_
    refine r_iload_n X dX10_gateOf_48 rfl 3 rfl ?_
    refine r_iald X fM_16 dX10_gateOf_49 h (fun h => ?_)
    refine r_goto X 54 dX10_gateOf_50 (by decide) ?_
    refine r_sub (lv' := [(0, .ref (ad 0)), (1, .int s0), (3, .int x3)]) [1, 0, 3] rfl ?_
    exact t_X10_gateOf_b54 X hk10 σ s0 x3 (σ 16 (x3).toNatClampNeg) h
set_option maxRecDepth 100000 in
set_option maxHeartbeats 4000000 in
theorem t_X10_gateOf_b10 {M : am_M} {D : va_G} {cT : Nat → ClassId} {ad : Nat → Nat} (X : am_X M (D, cT, ad, NM, LM) cX10_gateOf RX10 4 (some .int)) {z : Int32 × Sg} {k10 : Sg → Int32 → Int32 → Int32 → Option (Int32 × Sg)} (hk10 : ∀ (σ : Sg) (x1 : Int32) (x2 : Int32) (x3 : Int32), k10 σ x1 x2 x3 = some z → am_At M { frames := 8, cells := 0, slots := 0, locals := 179 } (D, cT, ad, NM, LM) (amQi M (D, cT, ad, NM, LM) z) 4 10 [(0, .ref (ad 0)), (1, .int x1), (2, .int x2), (3, .int x3)] [] σ) (σ : Sg) (x1 : Int32) (x2 : Int32) (x3 : Int32) (h : f_X10_gateOf_b10 k10 σ x1 x2 x3 = some z) : am_At M { frames := 8, cells := 0, slots := 0, locals := 179 } (D, cT, ad, NM, LM) (amQi M (D, cT, ad, NM, LM) z) 4 10 [(0, .ref (ad 0)), (1, .int x1), (2, .int x2), (3, .int x3)] [] σ := by
  unfold f_X10_gateOf_b10 at h
  refine r_iload_n X dX10_gateOf_10 rfl 3 rfl ?_
  refine r_aload_n X dX10_gateOf_11 rfl 0 rfl ?_
  refine r_getI X fg_X10_130_X10 fM_0 rfl dX10_gateOf_12 ?_
  refine r_icmp_ge X 61 dX10_gateOf_15 (by decide) h (fun h => ?_) (fun h => ?_)
  · refine r_iload_n X dX10_gateOf_61 rfl 1 rfl ?_
    exact r_iretz X rfl dX10_gateOf_62 h
  · refine r_aload_n X dX10_gateOf_18 rfl 0 rfl ?_
    refine r_getR (c1 := 16) X fg_X10_55_X10 fM_0 rfl dX10_gateOf_19 ?_
    refine r_iload_n X dX10_gateOf_22 rfl 3 rfl ?_
    refine r_iald X fM_16 dX10_gateOf_23 h (fun h => ?_)
    refine r_iload_n X dX10_gateOf_24 rfl 2 rfl ?_
    refine r_icmp_le X 32 dX10_gateOf_25 (by decide) h (fun h => ?_) (fun h => ?_)
    · refine r_iload_n X dX10_gateOf_32 rfl 1 rfl ?_
      refine r_sub (lv' := [(0, .ref (ad 0)), (2, .int x2), (3, .int x3)]) [0, 2, 3] rfl ?_
      exact t_X10_gateOf_b33 X hk10 σ x2 x3 x1 h
    · refine r_iload_n X dX10_gateOf_28 rfl 3 rfl ?_
      refine r_goto X 33 dX10_gateOf_29 (by decide) ?_
      refine r_sub (lv' := [(0, .ref (ad 0)), (2, .int x2), (3, .int x3)]) [0, 2, 3] rfl ?_
      exact t_X10_gateOf_b33 X hk10 σ x2 x3 x3 h
theorem t_X10_gateOf_l10 {M : am_M} {D : va_G} {cT : Nat → ClassId} {ad : Nat → Nat} (X : am_X M (D, cT, ad, NM, LM) cX10_gateOf RX10 4 (some .int)) {z : Int32 × Sg} (n : Nat) : ∀ (σ : Sg) (x1 : Int32) (x2 : Int32) (x3 : Int32), f_X10_gateOf_l10 n σ x1 x2 x3 = some z → am_At M { frames := 8, cells := 0, slots := 0, locals := 179 } (D, cT, ad, NM, LM) (amQi M (D, cT, ad, NM, LM) z) 4 10 [(0, .ref (ad 0)), (1, .int x1), (2, .int x2), (3, .int x3)] [] σ := by
  induction n with
  | zero =>
    intro σ x1 x2 x3 h
    have h2 : (none : Option (Int32 × Sg)) = some z := h
    cases h2
  | succ n ih =>
    intro σ x1 x2 x3 h
    exact t_X10_gateOf_b10 X (k10 := f_X10_gateOf_l10 n) ih σ x1 x2 x3 h
set_option maxRecDepth 100000 in
set_option maxHeartbeats 4000000 in
theorem c_X10_gateOf (l : Launch) {σ : Sg} {z : Int32 × Sg} (h : f_X10_gateOf σ = some z) : am_Met l yX10_gateOf cX10_gateOf 4 (some .int) { frames := 8, cells := 0, slots := 0, locals := 179 } NM LM (fun ad => [.ref (ad 0)]) σ z.2 (fun _ => some (.int z.1)) := by
  refine am_enter (by decide +kernel) (fun ad => Nat.le_of_ble_eq_true rfl) (fun M D cT ad hl X => ?_)
  subst hl
  refine r_lv (lv' := [(0, .ref (ad 0))]) rfl ?_
  unfold f_X10_gateOf at h
  refine r_aload_n X dX10_gateOf_0 rfl 0 rfl ?_
  obtain ⟨r1, σ2, hc_3, h⟩ := bnd_of h
  refine r_callV (As := []) (rest := []) (st2 := []) (c := 0) X cv_X10_235 (c_X10_runsTold M.2.1 hc_3) rfl (ci := 9) rfl fM_0 rfl rfl (Nat.le_of_ble_eq_true rfl) ⟨⟨rfl, rfl⟩, by decide, by decide⟩ dX10_gateOf_1 ⟨rfl, rfl⟩ rfl ?_
  refine r_iconst (v := -1) X dX10_gateOf_4 (by decide) ?_
  refine r_istore_n X [(1, .int (-1 : Int32)), (0, .ref (ad 0))] dX10_gateOf_5 rfl (by decide) rfl ?_
  refine r_iconst (v := 0) X dX10_gateOf_6 (by decide) ?_
  refine r_istore_n X [(2, .int (0 : Int32)), (1, .int (-1 : Int32)), (0, .ref (ad 0))] dX10_gateOf_7 rfl (by decide) rfl ?_
  refine r_iconst (v := 0) X dX10_gateOf_8 (by decide) ?_
  refine r_istore_n X [(3, .int (0 : Int32)), (2, .int (0 : Int32)), (1, .int (-1 : Int32)), (0, .ref (ad 0))] dX10_gateOf_9 rfl (by decide) rfl ?_
  refine r_sub (lv' := [(0, .ref (ad 0)), (1, .int (-1 : Int32)), (2, .int (0 : Int32)), (3, .int (0 : Int32))]) [3, 2, 1, 0] rfl ?_
  exact t_X10_gateOf_l10 X 300 σ2 (-1 : Int32) (0 : Int32) (0 : Int32) h
set_option maxRecDepth 100000 in
set_option maxHeartbeats 4000000 in
theorem c_X10_gate (l : Launch) {σ : Sg} {z : Int32 × Sg} (h : f_X10_gate σ = some z) : am_Met l yX10_gate cX10_gate 1 (some .int) { frames := 9, cells := 0, slots := 0, locals := 202 } NM LM (fun ad => [.ref (ad 0)]) σ z.2 (fun _ => some (.int z.1)) := by
  refine am_enter (by decide +kernel) (fun ad => Nat.le_of_ble_eq_true rfl) (fun M D cT ad hl X => ?_)
  subst hl
  refine r_lv (lv' := [(0, .ref (ad 0))]) rfl ?_
  unfold f_X10_gate at h
  refine r_aload_n X dX10_gate_0 rfl 0 rfl ?_
  obtain ⟨r1, σ2, hc_3, h⟩ := bnd_of h
  refine r_callV (As := []) (rest := []) (st2 := [.int r1]) (c := 0) X cv_X10_266 (c_X10_gateOf M.2.1 hc_3) rfl (ci := 9) rfl fM_0 rfl rfl (Nat.le_of_ble_eq_true rfl) ⟨⟨rfl, rfl⟩, by decide, by decide⟩ dX10_gate_1 ⟨rfl, rfl⟩ rfl ?_
  exact r_iretz X rfl dX10_gate_4 h
set_option maxRecDepth 100000 in
set_option maxHeartbeats 4000000 in
theorem t_X10_restOf_b33 {M : am_M} {D : va_G} {cT : Nat → ClassId} {ad : Nat → Nat} (X : am_X M (D, cT, ad, NM, LM) cX10_restOf RX10 3 (some .int)) {z : Int32 × Sg} {k8 : Sg → Int32 → Int32 → Option (Int32 × Sg)} (hk8 : ∀ (σ : Sg) (x1 : Int32) (x2 : Int32), k8 σ x1 x2 = some z → am_At M { frames := 8, cells := 0, slots := 0, locals := 179 } (D, cT, ad, NM, LM) (amQi M (D, cT, ad, NM, LM) z) 3 8 [(0, .ref (ad 0)), (1, .int x1), (2, .int x2)] [] σ) (σ : Sg) (x2 : Int32) (s0 : Int32) (s1 : Int32) (h : f_X10_restOf_b33 k8 σ x2 s0 s1 = some z) : am_At M { frames := 8, cells := 0, slots := 0, locals := 179 } (D, cT, ad, NM, LM) (amQi M (D, cT, ad, NM, LM) z) 3 33 [(0, .ref (ad 0)), (2, .int x2)] [.int s0, .int s1] σ := by
  unfold f_X10_restOf_b33 at h
  refine r_ior X dX10_restOf_33 ?_
  refine r_leti h (fun v1 h => ?_)
  refine r_istore_n X [(1, .int v1), (0, .ref (ad 0)), (2, .int x2)] dX10_restOf_34 rfl (by decide) rfl ?_
  refine r_iinc X [(2, .int (x2 + (1 : Int32))), (1, .int v1), (0, .ref (ad 0))] dX10_restOf_35 2 rfl (v := x2 + (1 : Int32)) (by rfl) (by decide) rfl ?_
  refine r_letv h (fun v2 h => ?_)
  refine r_goto X 8 dX10_restOf_38 (by decide) ?_
  refine r_sub (lv' := [(0, .ref (ad 0)), (1, .int v1), (2, .int v2)]) [2, 1, 0] rfl ?_
  exact hk8 σ v1 v2 h
set_option maxRecDepth 100000 in
set_option maxHeartbeats 4000000 in
theorem t_X10_restOf_b8 {M : am_M} {D : va_G} {cT : Nat → ClassId} {ad : Nat → Nat} (X : am_X M (D, cT, ad, NM, LM) cX10_restOf RX10 3 (some .int)) {z : Int32 × Sg} {k8 : Sg → Int32 → Int32 → Option (Int32 × Sg)} (hk8 : ∀ (σ : Sg) (x1 : Int32) (x2 : Int32), k8 σ x1 x2 = some z → am_At M { frames := 8, cells := 0, slots := 0, locals := 179 } (D, cT, ad, NM, LM) (amQi M (D, cT, ad, NM, LM) z) 3 8 [(0, .ref (ad 0)), (1, .int x1), (2, .int x2)] [] σ) (σ : Sg) (x1 : Int32) (x2 : Int32) (h : f_X10_restOf_b8 k8 σ x1 x2 = some z) : am_At M { frames := 8, cells := 0, slots := 0, locals := 179 } (D, cT, ad, NM, LM) (amQi M (D, cT, ad, NM, LM) z) 3 8 [(0, .ref (ad 0)), (1, .int x1), (2, .int x2)] [] σ := by
  unfold f_X10_restOf_b8 at h
  refine r_iload_n X dX10_restOf_8 rfl 2 rfl ?_
  refine r_aload_n X dX10_restOf_9 rfl 0 rfl ?_
  refine r_getI X fg_X10_130_X10 fM_0 rfl dX10_restOf_10 ?_
  refine r_icmp_ge X 41 dX10_restOf_13 (by decide) h (fun h => ?_) (fun h => ?_)
  · refine r_iload_n X dX10_restOf_41 rfl 1 rfl ?_
    exact r_iretz X rfl dX10_restOf_42 h
  · refine r_iload_n X dX10_restOf_16 rfl 1 rfl ?_
    refine r_aload_n X dX10_restOf_17 rfl 0 rfl ?_
    refine r_getR (c1 := 16) X fg_X10_55_X10 fM_0 rfl dX10_restOf_18 ?_
    refine r_iload_n X dX10_restOf_21 rfl 2 rfl ?_
    refine r_iald X fM_16 dX10_restOf_22 h (fun h => ?_)
    refine r_if_ne X 32 dX10_restOf_23 (by decide) h (fun h => ?_) (fun h => ?_)
    · refine r_iconst (v := 1) X dX10_restOf_26 (by decide) ?_
      refine r_iload_n X dX10_restOf_27 rfl 2 rfl ?_
      refine r_ishl X dX10_restOf_28 ?_
      refine r_goto X 33 dX10_restOf_29 (by decide) ?_
      refine r_sub (lv' := [(0, .ref (ad 0)), (2, .int x2)]) [0, 2] rfl ?_
      exact t_X10_restOf_b33 X hk8 σ x2 ((1 : Int32) <<< (x2 &&& 31)) x1 h
    · refine r_iconst (v := 0) X dX10_restOf_32 (by decide) ?_
      refine r_sub (lv' := [(0, .ref (ad 0)), (2, .int x2)]) [0, 2] rfl ?_
      exact t_X10_restOf_b33 X hk8 σ x2 (0 : Int32) x1 h
theorem t_X10_restOf_l8 {M : am_M} {D : va_G} {cT : Nat → ClassId} {ad : Nat → Nat} (X : am_X M (D, cT, ad, NM, LM) cX10_restOf RX10 3 (some .int)) {z : Int32 × Sg} (n : Nat) : ∀ (σ : Sg) (x1 : Int32) (x2 : Int32), f_X10_restOf_l8 n σ x1 x2 = some z → am_At M { frames := 8, cells := 0, slots := 0, locals := 179 } (D, cT, ad, NM, LM) (amQi M (D, cT, ad, NM, LM) z) 3 8 [(0, .ref (ad 0)), (1, .int x1), (2, .int x2)] [] σ := by
  induction n with
  | zero =>
    intro σ x1 x2 h
    have h2 : (none : Option (Int32 × Sg)) = some z := h
    cases h2
  | succ n ih =>
    intro σ x1 x2 h
    exact t_X10_restOf_b8 X (k8 := f_X10_restOf_l8 n) ih σ x1 x2 h
set_option maxRecDepth 100000 in
set_option maxHeartbeats 4000000 in
theorem c_X10_restOf (l : Launch) {σ : Sg} {z : Int32 × Sg} (h : f_X10_restOf σ = some z) : am_Met l yX10_restOf cX10_restOf 3 (some .int) { frames := 8, cells := 0, slots := 0, locals := 179 } NM LM (fun ad => [.ref (ad 0)]) σ z.2 (fun _ => some (.int z.1)) := by
  refine am_enter (by decide +kernel) (fun ad => Nat.le_of_ble_eq_true rfl) (fun M D cT ad hl X => ?_)
  subst hl
  refine r_lv (lv' := [(0, .ref (ad 0))]) rfl ?_
  unfold f_X10_restOf at h
  refine r_aload_n X dX10_restOf_0 rfl 0 rfl ?_
  obtain ⟨r1, σ2, hc_3, h⟩ := bnd_of h
  refine r_callV (As := []) (rest := []) (st2 := []) (c := 0) X cv_X10_235 (c_X10_runsTold M.2.1 hc_3) rfl (ci := 9) rfl fM_0 rfl rfl (Nat.le_of_ble_eq_true rfl) ⟨⟨rfl, rfl⟩, by decide, by decide⟩ dX10_restOf_1 ⟨rfl, rfl⟩ rfl ?_
  refine r_iconst (v := 0) X dX10_restOf_4 (by decide) ?_
  refine r_istore_n X [(1, .int (0 : Int32)), (0, .ref (ad 0))] dX10_restOf_5 rfl (by decide) rfl ?_
  refine r_iconst (v := 0) X dX10_restOf_6 (by decide) ?_
  refine r_istore_n X [(2, .int (0 : Int32)), (1, .int (0 : Int32)), (0, .ref (ad 0))] dX10_restOf_7 rfl (by decide) rfl ?_
  refine r_sub (lv' := [(0, .ref (ad 0)), (1, .int (0 : Int32)), (2, .int (0 : Int32))]) [2, 1, 0] rfl ?_
  exact t_X10_restOf_l8 X 300 σ2 (0 : Int32) (0 : Int32) h
set_option maxRecDepth 100000 in
set_option maxHeartbeats 4000000 in
theorem c_X10_rest (l : Launch) {σ : Sg} {z : Int32 × Sg} (h : f_X10_rest σ = some z) : am_Met l yX10_rest cX10_rest 1 (some .int) { frames := 9, cells := 0, slots := 0, locals := 201 } NM LM (fun ad => [.ref (ad 0)]) σ z.2 (fun _ => some (.int z.1)) := by
  refine am_enter (by decide +kernel) (fun ad => Nat.le_of_ble_eq_true rfl) (fun M D cT ad hl X => ?_)
  subst hl
  refine r_lv (lv' := [(0, .ref (ad 0))]) rfl ?_
  unfold f_X10_rest at h
  refine r_aload_n X dX10_rest_0 rfl 0 rfl ?_
  obtain ⟨r1, σ2, hc_3, h⟩ := bnd_of h
  refine r_callV (As := []) (rest := []) (st2 := [.int r1]) (c := 0) X cv_X10_269 (c_X10_restOf M.2.1 hc_3) rfl (ci := 9) rfl fM_0 rfl rfl (Nat.le_of_ble_eq_true rfl) ⟨⟨rfl, rfl⟩, by decide, by decide⟩ dX10_rest_1 ⟨rfl, rfl⟩ rfl ?_
  exact r_iretz X rfl dX10_rest_4 h
