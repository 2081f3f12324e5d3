set_option maxRecDepth 100000 in
set_option maxHeartbeats 4000000 in
theorem t_X9_mixOne_b58 {M : am_M} {D : va_G} {cT : Nat → ClassId} {ad : Nat → Nat} (X : am_X M (D, cT, ad, NX, LX) cX9_mixOne RX9 9 (some .long)) {z : Int64 × Sg} {k36 : Sg → Int32 → Int64 → Int32 → Option (Int64 × Sg)} (hk36 : ∀ (σ : Sg) (x3 : Int32) (x4 : Int64) (x6 : Int32), k36 σ x3 x4 x6 = some z → am_At M { frames := 5, cells := 0, slots := 0, locals := 126 } (D, cT, ad, NX, LX) (amQl M (D, cT, ad, NX, LX) z) 9 36 [(0, .ref (ad 0)), (3, .int x3), (4, .long x4), (6, .int x6)] [] σ) {k58 : Sg → Int32 → Int64 → Int32 → Int32 → Int32 → Option (Int64 × Sg)} (hk58 : ∀ (σ : Sg) (x3 : Int32) (x4 : Int64) (x6 : Int32) (x7 : Int32) (x8 : Int32), k58 σ x3 x4 x6 x7 x8 = some z → am_At M { frames := 5, cells := 0, slots := 0, locals := 126 } (D, cT, ad, NX, LX) (amQl M (D, cT, ad, NX, LX) z) 9 58 [(0, .ref (ad 0)), (3, .int x3), (4, .long x4), (6, .int x6), (7, .int x7), (8, .int x8)] [] σ) (σ : Sg) (x3 : Int32) (x4 : Int64) (x6 : Int32) (x7 : Int32) (x8 : Int32) (h : f_X9_mixOne_b58 k36 k58 σ x3 x4 x6 x7 x8 = some z) : am_At M { frames := 5, cells := 0, slots := 0, locals := 126 } (D, cT, ad, NX, LX) (amQl M (D, cT, ad, NX, LX) z) 9 58 [(0, .ref (ad 0)), (3, .int x3), (4, .long x4), (6, .int x6), (7, .int x7), (8, .int x8)] [] σ := by
  unfold f_X9_mixOne_b58 at h
  refine r_iload X dX9_mixOne_58 5 rfl ?_
  refine r_iconst (v := 3) X dX9_mixOne_60 (by decide) ?_
  refine r_icmp_ge X 87 dX9_mixOne_61 (by decide) h (fun h => ?_) (fun h => ?_)
  · refine r_iinc X [(6, .int (x6 + (1 : Int32))), (0, .ref (ad 0)), (3, .int x3), (4, .long x4), (7, .int x7), (8, .int x8)] dX9_mixOne_87 3 rfl (v := x6 + (1 : Int32)) (by rfl) (by decide) rfl ?_
    refine r_letv h (fun v1 h => ?_)
    refine r_goto X 36 dX9_mixOne_90 (by decide) ?_
    refine r_sub (lv' := [(0, .ref (ad 0)), (3, .int x3), (4, .long x4), (6, .int v1)]) [1, 2, 3, 0] rfl ?_
    exact hk36 σ x3 x4 v1 h
  · refine r_lload X dX9_mixOne_64 2 rfl ?_
    refine r_aload_n X dX9_mixOne_66 rfl 0 rfl ?_
    refine r_iload X dX9_mixOne_67 4 rfl ?_
    refine r_iload_n X dX9_mixOne_69 rfl 1 rfl ?_
    refine r_iload X dX9_mixOne_70 5 rfl ?_
    obtain ⟨r2, σ3, hc_8, h⟩ := bnd_of h
    refine r_callV (As := [.int x7, .int x3, .int x8]) (rest := [.long x4]) (st2 := [.int r2, .long x4]) (c := 0) X cv_X9_375 (c_X9_at M.2.1 hc_8) rfl (ci := 8) rfl fX_0 rfl rfl (Nat.le_of_ble_eq_true rfl) ⟨⟨rfl, rfl⟩, by decide, by decide⟩ dX9_mixOne_72 ⟨rfl, rfl⟩ rfl ?_
    refine r_i2l X dX9_mixOne_75 ?_
    obtain ⟨r4, σ5, hc_7, h⟩ := bnd_of h
    refine r_callS (As := [.long x4, .long (r2).toInt64]) (rest := []) (st2 := [.long r4]) X cv_X9_299 (c_X9_mix M.2.1 hc_7) rfl rfl rfl (Nat.le_of_ble_eq_true rfl) ⟨⟨rfl, rfl⟩, by decide, by decide⟩ dX9_mixOne_76 ⟨rfl, rfl⟩ rfl ?_
    refine r_lstore X [(4, .long r4), (0, .ref (ad 0)), (3, .int x3), (6, .int x6), (7, .int x7), (8, .int x8)] dX9_mixOne_79 (by decide) rfl ?_
    refine r_iinc X [(8, .int (x8 + (1 : Int32))), (4, .long r4), (0, .ref (ad 0)), (3, .int x3), (6, .int x6), (7, .int x7)] dX9_mixOne_81 5 rfl (v := x8 + (1 : Int32)) (by rfl) (by decide) rfl ?_
    refine r_letv h (fun v6 h => ?_)
    refine r_goto X 58 dX9_mixOne_84 (by decide) ?_
    refine r_sub (lv' := [(0, .ref (ad 0)), (3, .int x3), (4, .long r4), (6, .int x6), (7, .int x7), (8, .int v6)]) [2, 3, 1, 4, 5, 0] rfl ?_
    exact hk58 σ5 x3 r4 x6 x7 v6 h
theorem t_X9_mixOne_l58 {M : am_M} {D : va_G} {cT : Nat → ClassId} {ad : Nat → Nat} (X : am_X M (D, cT, ad, NX, LX) cX9_mixOne RX9 9 (some .long)) {z : Int64 × Sg} {k36 : Sg → Int32 → Int64 → Int32 → Option (Int64 × Sg)} (hk36 : ∀ (σ : Sg) (x3 : Int32) (x4 : Int64) (x6 : Int32), k36 σ x3 x4 x6 = some z → am_At M { frames := 5, cells := 0, slots := 0, locals := 126 } (D, cT, ad, NX, LX) (amQl M (D, cT, ad, NX, LX) z) 9 36 [(0, .ref (ad 0)), (3, .int x3), (4, .long x4), (6, .int x6)] [] σ) (n : Nat) : ∀ (σ : Sg) (x3 : Int32) (x4 : Int64) (x6 : Int32) (x7 : Int32) (x8 : Int32), f_X9_mixOne_l58 k36 n σ x3 x4 x6 x7 x8 = some z → am_At M { frames := 5, cells := 0, slots := 0, locals := 126 } (D, cT, ad, NX, LX) (amQl M (D, cT, ad, NX, LX) z) 9 58 [(0, .ref (ad 0)), (3, .int x3), (4, .long x4), (6, .int x6), (7, .int x7), (8, .int x8)] [] σ := by
  induction n with
  | zero =>
    intro σ x3 x4 x6 x7 x8 h
    have h2 : (none : Option (Int64 × Sg)) = some z := h
    cases h2
  | succ n ih =>
    intro σ x3 x4 x6 x7 x8 h
    exact t_X9_mixOne_b58 X hk36 (k58 := f_X9_mixOne_l58 k36 n) ih σ x3 x4 x6 x7 x8 h
set_option maxRecDepth 100000 in
set_option maxHeartbeats 4000000 in
theorem t_X9_mixOne_b116 {M : am_M} {D : va_G} {cT : Nat → ClassId} {ad : Nat → Nat} (X : am_X M (D, cT, ad, NX, LX) cX9_mixOne RX9 9 (some .long)) {z : Int64 × Sg} {k116 : Sg → Int32 → Int64 → Int32 → Int32 → Option (Int64 × Sg)} (hk116 : ∀ (σ : Sg) (x3 : Int32) (x4 : Int64) (x6 : Int32) (x7 : Int32), k116 σ x3 x4 x6 x7 = some z → am_At M { frames := 5, cells := 0, slots := 0, locals := 126 } (D, cT, ad, NX, LX) (amQl M (D, cT, ad, NX, LX) z) 9 116 [(0, .ref (ad 0)), (3, .int x3), (4, .long x4), (6, .int x6), (7, .int x7)] [] σ) (σ : Sg) (x3 : Int32) (x4 : Int64) (x6 : Int32) (x7 : Int32) (h : f_X9_mixOne_b116 k116 σ x3 x4 x6 x7 = some z) : am_At M { frames := 5, cells := 0, slots := 0, locals := 126 } (D, cT, ad, NX, LX) (amQl M (D, cT, ad, NX, LX) z) 9 116 [(0, .ref (ad 0)), (3, .int x3), (4, .long x4), (6, .int x6), (7, .int x7)] [] σ := by
  unfold f_X9_mixOne_b116 at h
  refine r_iload X dX9_mixOne_116 4 rfl ?_
  refine r_iconst (v := 3) X dX9_mixOne_118 (by decide) ?_
  refine r_icmp_ge X 145 dX9_mixOne_119 (by decide) h (fun h => ?_) (fun h => ?_)
  · refine r_lload X dX9_mixOne_145 2 rfl ?_
    refine r_aload_n X dX9_mixOne_147 rfl 0 rfl ?_
    refine r_iload_n X dX9_mixOne_148 rfl 1 rfl ?_
    refine r_iconst (v := 0) X dX9_mixOne_149 (by decide) ?_
    obtain ⟨r1, σ2, hc_18, h⟩ := bnd_of h
    refine r_callV (As := [.int x3, .int (0 : Int32)]) (rest := [.long x4]) (st2 := [.int r1, .long x4]) (c := 0) X cv_X9_381 (c_X9_was M.2.1 hc_18) rfl (ci := 8) rfl fX_0 rfl rfl (Nat.le_of_ble_eq_true rfl) ⟨⟨rfl, rfl⟩, by decide, by decide⟩ dX9_mixOne_150 ⟨rfl, rfl⟩ rfl ?_
    refine r_i2l X dX9_mixOne_153 ?_
    obtain ⟨r3, σ4, hc_17, h⟩ := bnd_of h
    refine r_callS (As := [.long x4, .long (r1).toInt64]) (rest := []) (st2 := [.long r3]) X cv_X9_299 (c_X9_mix M.2.1 hc_17) rfl rfl rfl (Nat.le_of_ble_eq_true rfl) ⟨⟨rfl, rfl⟩, by decide, by decide⟩ dX9_mixOne_154 ⟨rfl, rfl⟩ rfl ?_
    refine r_aload_n X dX9_mixOne_157 rfl 0 rfl ?_
    refine r_iload_n X dX9_mixOne_158 rfl 1 rfl ?_
    refine r_iconst (v := 1) X dX9_mixOne_159 (by decide) ?_
    obtain ⟨r5, σ6, hc_16, h⟩ := bnd_of h
    refine r_callV (As := [.int x3, .int (1 : Int32)]) (rest := [.long r3]) (st2 := [.int r5, .long r3]) (c := 0) X cv_X9_381 (c_X9_was M.2.1 hc_16) rfl (ci := 8) rfl fX_0 rfl rfl (Nat.le_of_ble_eq_true rfl) ⟨⟨rfl, rfl⟩, by decide, by decide⟩ dX9_mixOne_160 ⟨rfl, rfl⟩ rfl ?_
    refine r_i2l X dX9_mixOne_163 ?_
    obtain ⟨r7, σ8, hc_15, h⟩ := bnd_of h
    refine r_callS (As := [.long r3, .long (r5).toInt64]) (rest := []) (st2 := [.long r7]) X cv_X9_299 (c_X9_mix M.2.1 hc_15) rfl rfl rfl (Nat.le_of_ble_eq_true rfl) ⟨⟨rfl, rfl⟩, by decide, by decide⟩ dX9_mixOne_164 ⟨rfl, rfl⟩ rfl ?_
    refine r_lstore X [(4, .long r7), (0, .ref (ad 0)), (3, .int x3), (6, .int x6), (7, .int x7)] dX9_mixOne_167 (by decide) rfl ?_
    refine r_lload X dX9_mixOne_169 0 rfl ?_
    refine r_aload_n X dX9_mixOne_171 rfl 1 rfl ?_
    refine r_iload_n X dX9_mixOne_172 rfl 2 rfl ?_
    obtain ⟨r9, σ10, hc_14, h⟩ := bnd_of h
    refine r_callV (As := [.int x3]) (rest := [.long r7]) (st2 := [.int r9, .long r7]) (c := 0) X cv_X9_384 (c_X9_ask M.2.1 hc_14) rfl (ci := 8) rfl fX_0 rfl rfl (Nat.le_of_ble_eq_true rfl) ⟨⟨rfl, rfl⟩, by decide, by decide⟩ dX9_mixOne_173 ⟨rfl, rfl⟩ rfl ?_
    refine r_i2l X dX9_mixOne_176 ?_
    obtain ⟨r11, σ12, hc_13, h⟩ := bnd_of h
    refine r_callS (As := [.long r7, .long (r9).toInt64]) (rest := []) (st2 := [.long r11]) X cv_X9_299 (c_X9_mix M.2.1 hc_13) rfl rfl rfl (Nat.le_of_ble_eq_true rfl) ⟨⟨rfl, rfl⟩, by decide, by decide⟩ dX9_mixOne_177 ⟨rfl, rfl⟩ rfl ?_
    exact r_lretz X rfl dX9_mixOne_180 h
  · refine r_lload X dX9_mixOne_122 2 rfl ?_
    refine r_aload_n X dX9_mixOne_124 rfl 0 rfl ?_
    refine r_iload_n X dX9_mixOne_125 rfl 1 rfl ?_
    refine r_iload X dX9_mixOne_126 3 rfl ?_
    refine r_iload X dX9_mixOne_128 4 rfl ?_
    obtain ⟨r19, σ20, hc_25, h⟩ := bnd_of h
    refine r_callV (As := [.int x3, .int x6, .int x7]) (rest := [.long x4]) (st2 := [.int r19, .long x4]) (c := 0) X cv_X9_220 (c_X9_tellCell M.2.1 hc_25) rfl (ci := 8) rfl fX_0 rfl rfl (Nat.le_of_ble_eq_true rfl) ⟨⟨rfl, rfl⟩, by decide, by decide⟩ dX9_mixOne_130 ⟨rfl, rfl⟩ rfl ?_
    refine r_i2l X dX9_mixOne_133 ?_
    obtain ⟨r21, σ22, hc_24, h⟩ := bnd_of h
    refine r_callS (As := [.long x4, .long (r19).toInt64]) (rest := []) (st2 := [.long r21]) X cv_X9_299 (c_X9_mix M.2.1 hc_24) rfl rfl rfl (Nat.le_of_ble_eq_true rfl) ⟨⟨rfl, rfl⟩, by decide, by decide⟩ dX9_mixOne_134 ⟨rfl, rfl⟩ rfl ?_
    refine r_lstore X [(4, .long r21), (0, .ref (ad 0)), (3, .int x3), (6, .int x6), (7, .int x7)] dX9_mixOne_137 (by decide) rfl ?_
    refine r_iinc X [(7, .int (x7 + (1 : Int32))), (4, .long r21), (0, .ref (ad 0)), (3, .int x3), (6, .int x6)] dX9_mixOne_139 4 rfl (v := x7 + (1 : Int32)) (by rfl) (by decide) rfl ?_
    refine r_letv h (fun v23 h => ?_)
    refine r_goto X 116 dX9_mixOne_142 (by decide) ?_
    refine r_sub (lv' := [(0, .ref (ad 0)), (3, .int x3), (4, .long r21), (6, .int x6), (7, .int v23)]) [2, 3, 1, 4, 0] rfl ?_
    exact hk116 σ22 x3 r21 x6 v23 h
theorem t_X9_mixOne_l116 {M : am_M} {D : va_G} {cT : Nat → ClassId} {ad : Nat → Nat} (X : am_X M (D, cT, ad, NX, LX) cX9_mixOne RX9 9 (some .long)) {z : Int64 × Sg} (n : Nat) : ∀ (σ : Sg) (x3 : Int32) (x4 : Int64) (x6 : Int32) (x7 : Int32), f_X9_mixOne_l116 n σ x3 x4 x6 x7 = some z → am_At M { frames := 5, cells := 0, slots := 0, locals := 126 } (D, cT, ad, NX, LX) (amQl M (D, cT, ad, NX, LX) z) 9 116 [(0, .ref (ad 0)), (3, .int x3), (4, .long x4), (6, .int x6), (7, .int x7)] [] σ := by
  induction n with
  | zero =>
    intro σ x3 x4 x6 x7 h
    have h2 : (none : Option (Int64 × Sg)) = some z := h
    cases h2
  | succ n ih =>
    intro σ x3 x4 x6 x7 h
    exact t_X9_mixOne_b116 X (k116 := f_X9_mixOne_l116 n) ih σ x3 x4 x6 x7 h
set_option maxRecDepth 100000 in
set_option maxHeartbeats 4000000 in
theorem t_X9_mixOne_b36 {M : am_M} {D : va_G} {cT : Nat → ClassId} {ad : Nat → Nat} (X : am_X M (D, cT, ad, NX, LX) cX9_mixOne RX9 9 (some .long)) {z : Int64 × Sg} {k36 : Sg → Int32 → Int64 → Int32 → Option (Int64 × Sg)} (hk36 : ∀ (σ : Sg) (x3 : Int32) (x4 : Int64) (x6 : Int32), k36 σ x3 x4 x6 = some z → am_At M { frames := 5, cells := 0, slots := 0, locals := 126 } (D, cT, ad, NX, LX) (amQl M (D, cT, ad, NX, LX) z) 9 36 [(0, .ref (ad 0)), (3, .int x3), (4, .long x4), (6, .int x6)] [] σ) (σ : Sg) (x3 : Int32) (x4 : Int64) (x6 : Int32) (h : f_X9_mixOne_b36 k36 σ x3 x4 x6 = some z) : am_At M { frames := 5, cells := 0, slots := 0, locals := 126 } (D, cT, ad, NX, LX) (amQl M (D, cT, ad, NX, LX) z) 9 36 [(0, .ref (ad 0)), (3, .int x3), (4, .long x4), (6, .int x6)] [] σ := by
  unfold f_X9_mixOne_b36 at h
  refine r_iload X dX9_mixOne_36 3 rfl ?_
  refine r_iconst (v := 3) X dX9_mixOne_38 (by decide) ?_
  refine r_icmp_gt X 93 dX9_mixOne_39 (by decide) h (fun h => ?_) (fun h => ?_)
  · refine r_lload X dX9_mixOne_93 2 rfl ?_
    refine r_aload_n X dX9_mixOne_95 rfl 0 rfl ?_
    refine r_iload_n X dX9_mixOne_96 rfl 1 rfl ?_
    obtain ⟨r1, σ2, hc_9, h⟩ := bnd_of h
    refine r_callV (As := [.int x3]) (rest := [.long x4]) (st2 := [.int r1, .long x4]) (c := 0) X cv_X9_378 (c_X9_stood M.2.1 hc_9) rfl (ci := 8) rfl fX_0 rfl rfl (Nat.le_of_ble_eq_true rfl) ⟨⟨rfl, rfl⟩, by decide, by decide⟩ dX9_mixOne_97 ⟨rfl, rfl⟩ rfl ?_
    refine r_i2l X dX9_mixOne_100 ?_
    obtain ⟨r3, σ4, hc_8, h⟩ := bnd_of h
    refine r_callS (As := [.long x4, .long (r1).toInt64]) (rest := []) (st2 := [.long r3]) X cv_X9_299 (c_X9_mix M.2.1 hc_8) rfl rfl rfl (Nat.le_of_ble_eq_true rfl) ⟨⟨rfl, rfl⟩, by decide, by decide⟩ dX9_mixOne_101 ⟨rfl, rfl⟩ rfl ?_
    refine r_lstore X [(4, .long r3), (0, .ref (ad 0)), (3, .int x3), (6, .int x6)] dX9_mixOne_104 (by decide) rfl ?_
    refine r_aload_n X dX9_mixOne_106 rfl 1 rfl ?_
    refine r_iload_n X dX9_mixOne_107 rfl 2 rfl ?_
    obtain ⟨r5, σ6, hc_7, h⟩ := bnd_of h
    refine r_callV (As := [.int x3]) (rest := []) (st2 := [.int r5]) (c := 0) X cv_X9_217 (c_X9_bestCell M.2.1 hc_7) rfl (ci := 8) rfl fX_0 rfl rfl (Nat.le_of_ble_eq_true rfl) ⟨⟨rfl, rfl⟩, by decide, by decide⟩ dX9_mixOne_108 ⟨rfl, rfl⟩ rfl ?_
    refine r_istore X [(6, .int r5), (4, .long r3), (0, .ref (ad 0)), (3, .int x3)] dX9_mixOne_111 (by decide) rfl ?_
    refine r_iconst (v := 0) X dX9_mixOne_113 (by decide) ?_
    refine r_istore X [(7, .int (0 : Int32)), (6, .int r5), (4, .long r3), (0, .ref (ad 0)), (3, .int x3)] dX9_mixOne_114 (by decide) rfl ?_
    refine r_sub (lv' := [(0, .ref (ad 0)), (3, .int x3), (4, .long r3), (6, .int r5), (7, .int (0 : Int32))]) [3, 4, 2, 1, 0] rfl ?_
    exact t_X9_mixOne_l116 X 300 σ6 x3 r3 r5 (0 : Int32) h
  · refine r_iconst (v := 0) X dX9_mixOne_42 (by decide) ?_
    refine r_bipush (v := 8) X dX9_mixOne_43 (by decide) ?_
    refine r_iload X dX9_mixOne_45 3 rfl ?_
    refine r_imul X dX9_mixOne_47 ?_
    refine r_iconst (v := 1) X dX9_mixOne_48 (by decide) ?_
    refine r_isub X dX9_mixOne_49 ?_
    refine r_mmax X ⟨bw_341, bw_342, bw_343, bw_344⟩ (by decide) (Nat.le_of_ble_eq_true rfl) dX9_mixOne_50 ?_
    refine r_leti h (fun v10 h => ?_)
    refine r_istore X [(7, .int v10), (0, .ref (ad 0)), (3, .int x3), (4, .long x4), (6, .int x6)] dX9_mixOne_53 (by decide) rfl ?_
    refine r_iconst (v := 0) X dX9_mixOne_55 (by decide) ?_
    refine r_istore X [(8, .int (0 : Int32)), (7, .int v10), (0, .ref (ad 0)), (3, .int x3), (4, .long x4), (6, .int x6)] dX9_mixOne_56 (by decide) rfl ?_
    refine r_sub (lv' := [(0, .ref (ad 0)), (3, .int x3), (4, .long x4), (6, .int x6), (7, .int v10), (8, .int (0 : Int32))]) [2, 3, 4, 5, 1, 0] rfl ?_
    exact t_X9_mixOne_l58 X hk36 300 σ x3 x4 x6 v10 (0 : Int32) h
theorem t_X9_mixOne_l36 {M : am_M} {D : va_G} {cT : Nat → ClassId} {ad : Nat → Nat} (X : am_X M (D, cT, ad, NX, LX) cX9_mixOne RX9 9 (some .long)) {z : Int64 × Sg} (n : Nat) : ∀ (σ : Sg) (x3 : Int32) (x4 : Int64) (x6 : Int32), f_X9_mixOne_l36 n σ x3 x4 x6 = some z → am_At M { frames := 5, cells := 0, slots := 0, locals := 126 } (D, cT, ad, NX, LX) (amQl M (D, cT, ad, NX, LX) z) 9 36 [(0, .ref (ad 0)), (3, .int x3), (4, .long x4), (6, .int x6)] [] σ := by
  induction n with
  | zero =>
    intro σ x3 x4 x6 h
    have h2 : (none : Option (Int64 × Sg)) = some z := h
    cases h2
  | succ n ih =>
    intro σ x3 x4 x6 h
    exact t_X9_mixOne_b36 X (k36 := f_X9_mixOne_l36 n) ih σ x3 x4 x6 h
set_option maxRecDepth 100000 in
set_option maxHeartbeats 4000000 in
theorem t_X9_mixOne_b6 {M : am_M} {D : va_G} {cT : Nat → ClassId} {ad : Nat → Nat} (X : am_X M (D, cT, ad, NX, LX) cX9_mixOne RX9 9 (some .long)) {z : Int64 × Sg} {k6 : Sg → Int32 → Int64 → Int32 → Option (Int64 × Sg)} (hk6 : ∀ (σ : Sg) (x3 : Int32) (x4 : Int64) (x6 : Int32), k6 σ x3 x4 x6 = some z → am_At M { frames := 5, cells := 0, slots := 0, locals := 126 } (D, cT, ad, NX, LX) (amQl M (D, cT, ad, NX, LX) z) 9 6 [(0, .ref (ad 0)), (3, .int x3), (4, .long x4), (6, .int x6)] [] σ) (σ : Sg) (x3 : Int32) (x4 : Int64) (x6 : Int32) (h : f_X9_mixOne_b6 k6 σ x3 x4 x6 = some z) : am_At M { frames := 5, cells := 0, slots := 0, locals := 126 } (D, cT, ad, NX, LX) (amQl M (D, cT, ad, NX, LX) z) 9 6 [(0, .ref (ad 0)), (3, .int x3), (4, .long x4), (6, .int x6)] [] σ := by
  unfold f_X9_mixOne_b6 at h
  refine r_iload X dX9_mixOne_6 3 rfl ?_
  refine r_iconst (v := 4) X dX9_mixOne_8 (by decide) ?_
  refine r_icmp_ge X 33 dX9_mixOne_9 (by decide) h (fun h => ?_) (fun h => ?_)
  · refine r_iconst (v := 0) X dX9_mixOne_33 (by decide) ?_
    refine r_istore X [(6, .int (0 : Int32)), (0, .ref (ad 0)), (3, .int x3), (4, .long x4)] dX9_mixOne_34 (by decide) rfl ?_
    refine r_sub (lv' := [(0, .ref (ad 0)), (3, .int x3), (4, .long x4), (6, .int (0 : Int32))]) [1, 2, 3, 0] rfl ?_
    exact t_X9_mixOne_l36 X 300 σ x3 x4 (0 : Int32) h
  · refine r_lload X dX9_mixOne_12 2 rfl ?_
    refine r_aload_n X dX9_mixOne_14 rfl 0 rfl ?_
    refine r_iload_n X dX9_mixOne_15 rfl 1 rfl ?_
    refine r_iload X dX9_mixOne_16 3 rfl ?_
    obtain ⟨r1, σ2, hc_7, h⟩ := bnd_of h
    refine r_callV (As := [.int x3, .int x6]) (rest := [.long x4]) (st2 := [.int r1, .long x4]) (c := 0) X cv_X9_373 (c_X9_gone M.2.1 hc_7) rfl (ci := 8) rfl fX_0 rfl rfl (Nat.le_of_ble_eq_true rfl) ⟨⟨rfl, rfl⟩, by decide, by decide⟩ dX9_mixOne_18 ⟨rfl, rfl⟩ rfl ?_
    refine r_i2l X dX9_mixOne_21 ?_
    obtain ⟨r3, σ4, hc_6, h⟩ := bnd_of h
    refine r_callS (As := [.long x4, .long (r1).toInt64]) (rest := []) (st2 := [.long r3]) X cv_X9_299 (c_X9_mix M.2.1 hc_6) rfl rfl rfl (Nat.le_of_ble_eq_true rfl) ⟨⟨rfl, rfl⟩, by decide, by decide⟩ dX9_mixOne_22 ⟨rfl, rfl⟩ rfl ?_
    refine r_lstore X [(4, .long r3), (0, .ref (ad 0)), (3, .int x3), (6, .int x6)] dX9_mixOne_25 (by decide) rfl ?_
    refine r_iinc X [(6, .int (x6 + (1 : Int32))), (4, .long r3), (0, .ref (ad 0)), (3, .int x3)] dX9_mixOne_27 3 rfl (v := x6 + (1 : Int32)) (by rfl) (by decide) rfl ?_
    refine r_letv h (fun v5 h => ?_)
    refine r_goto X 6 dX9_mixOne_30 (by decide) ?_
    refine r_sub (lv' := [(0, .ref (ad 0)), (3, .int x3), (4, .long r3), (6, .int v5)]) [2, 3, 1, 0] rfl ?_
    exact hk6 σ4 x3 r3 v5 h
theorem t_X9_mixOne_l6 {M : am_M} {D : va_G} {cT : Nat → ClassId} {ad : Nat → Nat} (X : am_X M (D, cT, ad, NX, LX) cX9_mixOne RX9 9 (some .long)) {z : Int64 × Sg} (n : Nat) : ∀ (σ : Sg) (x3 : Int32) (x4 : Int64) (x6 : Int32), f_X9_mixOne_l6 n σ x3 x4 x6 = some z → am_At M { frames := 5, cells := 0, slots := 0, locals := 126 } (D, cT, ad, NX, LX) (amQl M (D, cT, ad, NX, LX) z) 9 6 [(0, .ref (ad 0)), (3, .int x3), (4, .long x4), (6, .int x6)] [] σ := by
  induction n with
  | zero =>
    intro σ x3 x4 x6 h
    have h2 : (none : Option (Int64 × Sg)) = some z := h
    cases h2
  | succ n ih =>
    intro σ x3 x4 x6 h
    exact t_X9_mixOne_b6 X (k6 := f_X9_mixOne_l6 n) ih σ x3 x4 x6 h
set_option maxRecDepth 100000 in
set_option maxHeartbeats 4000000 in
theorem c_X9_mixOne (l : Launch) {σ : Sg} {a1 : Int64} {a3 : Int32} {z : Int64 × Sg} (h : f_X9_mixOne σ a1 a3 = some z) : am_Met l yX9_mixOne cX9_mixOne 9 (some .long) { frames := 5, cells := 0, slots := 0, locals := 126 } NX LX (fun ad => [.ref (ad 0), .long a1, .int a3]) σ z.2 (fun _ => some (.long z.1)) := by
  refine am_enter (by decide +kernel) (fun ad => Nat.le_of_ble_eq_true rfl) (fun M D cT ad hl X => ?_)
  subst hl
  refine r_lv (lv' := [(0, .ref (ad 0)), (1, .long a1), (3, .int a3)]) rfl ?_
  unfold f_X9_mixOne at h
  refine r_lload_n X dX9_mixOne_0 rfl 1 rfl ?_
  refine r_lstore X [(4, .long a1), (0, .ref (ad 0)), (1, .long a1), (3, .int a3)] dX9_mixOne_1 (by decide) rfl ?_
  refine r_iconst (v := 0) X dX9_mixOne_3 (by decide) ?_
  refine r_istore X [(6, .int (0 : Int32)), (4, .long a1), (0, .ref (ad 0)), (1, .long a1), (3, .int a3)] dX9_mixOne_4 (by decide) rfl ?_
  refine r_sub (lv' := [(0, .ref (ad 0)), (3, .int a3), (4, .long a1), (6, .int (0 : Int32))]) [2, 4, 1, 0] rfl ?_
  exact t_X9_mixOne_l6 X 300 σ a3 a1 (0 : Int32) h
set_option maxRecDepth 100000 in
set_option maxHeartbeats 4000000 in
theorem t_X9_digest_b139 {M : am_M} {D : va_G} {cT : Nat → ClassId} {ad : Nat → Nat} (X : am_X M (D, cT, ad, NX, LX) cX9_digest RX9 5 (some .long)) {z : Int64 × Sg} {k139 : Sg → Int64 → Int32 → Option (Int64 × Sg)} (hk139 : ∀ (σ : Sg) (x1 : Int64) (x3 : Int32), k139 σ x1 x3 = some z → am_At M { frames := 6, cells := 0, slots := 0, locals := 154 } (D, cT, ad, NX, LX) (amQl M (D, cT, ad, NX, LX) z) 5 139 [(0, .ref (ad 0)), (1, .long x1), (3, .int x3)] [] σ) (σ : Sg) (x1 : Int64) (x3 : Int32) (h : f_X9_digest_b139 k139 σ x1 x3 = some z) : am_At M { frames := 6, cells := 0, slots := 0, locals := 154 } (D, cT, ad, NX, LX) (amQl M (D, cT, ad, NX, LX) z) 5 139 [(0, .ref (ad 0)), (1, .long x1), (3, .int x3)] [] σ := by
  unfold f_X9_digest_b139 at h
  refine r_iload_n X dX9_digest_139 rfl 2 rfl ?_
  refine r_bipush (v := 6) X dX9_digest_140 (by decide) ?_
  refine r_icmp_ge X 177 dX9_digest_142 (by decide) h (fun h => ?_) (fun h => ?_)
  · refine r_lload_n X dX9_digest_177 rfl 1 rfl ?_
    refine r_aload_n X dX9_digest_178 rfl 0 rfl ?_
    refine r_iconst (v := 0) X dX9_digest_179 (by decide) ?_
    obtain ⟨r1, σ2, hc_66, h⟩ := bnd_of h
    refine r_callV (As := [.int (0 : Int32)]) (rest := [.long x1]) (st2 := [.int r1, .long x1]) (c := 0) X cv_X9_315 (c_X9_first M.2.1 hc_66) rfl (ci := 8) rfl fX_0 rfl rfl (Nat.le_of_ble_eq_true rfl) ⟨⟨rfl, rfl⟩, by decide, by decide⟩ dX9_digest_180 ⟨rfl, rfl⟩ rfl ?_
    refine r_i2l X dX9_digest_183 ?_
    obtain ⟨r3, σ4, hc_65, h⟩ := bnd_of h
    refine r_callS (As := [.long x1, .long (r1).toInt64]) (rest := []) (st2 := [.long r3]) X cv_X9_299 (c_X9_mix M.2.1 hc_65) rfl rfl rfl (Nat.le_of_ble_eq_true rfl) ⟨⟨rfl, rfl⟩, by decide, by decide⟩ dX9_digest_184 ⟨rfl, rfl⟩ rfl ?_
    refine r_aload_n X dX9_digest_187 rfl 0 rfl ?_
    refine r_iconst (v := 1) X dX9_digest_188 (by decide) ?_
    obtain ⟨r5, σ6, hc_64, h⟩ := bnd_of h
    refine r_callV (As := [.int (1 : Int32)]) (rest := [.long r3]) (st2 := [.int r5, .long r3]) (c := 0) X cv_X9_315 (c_X9_first M.2.1 hc_64) rfl (ci := 8) rfl fX_0 rfl rfl (Nat.le_of_ble_eq_true rfl) ⟨⟨rfl, rfl⟩, by decide, by decide⟩ dX9_digest_189 ⟨rfl, rfl⟩ rfl ?_
    refine r_i2l X dX9_digest_192 ?_
    obtain ⟨r7, σ8, hc_63, h⟩ := bnd_of h
    refine r_callS (As := [.long r3, .long (r5).toInt64]) (rest := []) (st2 := [.long r7]) X cv_X9_299 (c_X9_mix M.2.1 hc_63) rfl rfl rfl (Nat.le_of_ble_eq_true rfl) ⟨⟨rfl, rfl⟩, by decide, by decide⟩ dX9_digest_193 ⟨rfl, rfl⟩ rfl ?_
    refine r_lstore_n X [(1, .long r7), (0, .ref (ad 0)), (3, .int x3)] dX9_digest_196 rfl (by decide) rfl ?_
    refine r_lload_n X dX9_digest_197 rfl 0 rfl ?_
    refine r_aload_n X dX9_digest_198 rfl 1 rfl ?_
    obtain ⟨r9, σ10, hc_62, h⟩ := bnd_of h
    refine r_callV (As := []) (rest := [.long r7]) (st2 := [.int r9, .long r7]) (c := 0) X cv_X9_318 (c_X9_gate M.2.1 hc_62) rfl (ci := 8) rfl fX_0 rfl rfl (Nat.le_of_ble_eq_true rfl) ⟨⟨rfl, rfl⟩, by decide, by decide⟩ dX9_digest_199 ⟨rfl, rfl⟩ rfl ?_
    refine r_i2l X dX9_digest_202 ?_
    obtain ⟨r11, σ12, hc_61, h⟩ := bnd_of h
    refine r_callS (As := [.long r7, .long (r9).toInt64]) (rest := []) (st2 := [.long r11]) X cv_X9_299 (c_X9_mix M.2.1 hc_61) rfl rfl rfl (Nat.le_of_ble_eq_true rfl) ⟨⟨rfl, rfl⟩, by decide, by decide⟩ dX9_digest_203 ⟨rfl, rfl⟩ rfl ?_
    refine r_aload_n X dX9_digest_206 rfl 1 rfl ?_
    obtain ⟨r13, σ14, hc_60, h⟩ := bnd_of h
    refine r_callV (As := []) (rest := [.long r11]) (st2 := [.int r13, .long r11]) (c := 0) X cv_X9_321 (c_X9_rest M.2.1 hc_60) rfl (ci := 8) rfl fX_0 rfl rfl (Nat.le_of_ble_eq_true rfl) ⟨⟨rfl, rfl⟩, by decide, by decide⟩ dX9_digest_207 ⟨rfl, rfl⟩ rfl ?_
    refine r_i2l X dX9_digest_210 ?_
    obtain ⟨r15, σ16, hc_59, h⟩ := bnd_of h
    refine r_callS (As := [.long r11, .long (r13).toInt64]) (rest := []) (st2 := [.long r15]) X cv_X9_299 (c_X9_mix M.2.1 hc_59) rfl rfl rfl (Nat.le_of_ble_eq_true rfl) ⟨⟨rfl, rfl⟩, by decide, by decide⟩ dX9_digest_211 ⟨rfl, rfl⟩ rfl ?_
    refine r_lstore_n X [(1, .long r15), (0, .ref (ad 0)), (3, .int x3)] dX9_digest_214 rfl (by decide) rfl ?_
    refine r_lload_n X dX9_digest_215 rfl 0 rfl ?_
    refine r_aload_n X dX9_digest_216 rfl 1 rfl ?_
    refine r_bipush (v := 8) X dX9_digest_217 (by decide) ?_
    refine r_iconst (v := 0) X dX9_digest_219 (by decide) ?_
    obtain ⟨r17, σ18, hc_58, h⟩ := bnd_of h
    refine r_callV (As := [.int (8 : Int32), .int (0 : Int32)]) (rest := [.long r15]) (st2 := [.int r17, .long r15]) (c := 0) X cv_X9_324 (c_X9_plough M.2.1 hc_58) rfl (ci := 8) rfl fX_0 rfl rfl (Nat.le_of_ble_eq_true rfl) ⟨⟨rfl, rfl⟩, by decide, by decide⟩ dX9_digest_220 ⟨rfl, rfl⟩ rfl ?_
    refine r_i2l X dX9_digest_223 ?_
    obtain ⟨r19, σ20, hc_57, h⟩ := bnd_of h
    refine r_callS (As := [.long r15, .long (r17).toInt64]) (rest := []) (st2 := [.long r19]) X cv_X9_299 (c_X9_mix M.2.1 hc_57) rfl rfl rfl (Nat.le_of_ble_eq_true rfl) ⟨⟨rfl, rfl⟩, by decide, by decide⟩ dX9_digest_224 ⟨rfl, rfl⟩ rfl ?_
    refine r_aload_n X dX9_digest_227 rfl 1 rfl ?_
    refine r_bipush (v := 8) X dX9_digest_228 (by decide) ?_
    refine r_iconst (v := 1) X dX9_digest_230 (by decide) ?_
    obtain ⟨r21, σ22, hc_56, h⟩ := bnd_of h
    refine r_callV (As := [.int (8 : Int32), .int (1 : Int32)]) (rest := [.long r19]) (st2 := [.int r21, .long r19]) (c := 0) X cv_X9_324 (c_X9_plough M.2.1 hc_56) rfl (ci := 8) rfl fX_0 rfl rfl (Nat.le_of_ble_eq_true rfl) ⟨⟨rfl, rfl⟩, by decide, by decide⟩ dX9_digest_231 ⟨rfl, rfl⟩ rfl ?_
    refine r_i2l X dX9_digest_234 ?_
    obtain ⟨r23, σ24, hc_55, h⟩ := bnd_of h
    refine r_callS (As := [.long r19, .long (r21).toInt64]) (rest := []) (st2 := [.long r23]) X cv_X9_299 (c_X9_mix M.2.1 hc_55) rfl rfl rfl (Nat.le_of_ble_eq_true rfl) ⟨⟨rfl, rfl⟩, by decide, by decide⟩ dX9_digest_235 ⟨rfl, rfl⟩ rfl ?_
    refine r_lstore_n X [(1, .long r23), (0, .ref (ad 0)), (3, .int x3)] dX9_digest_238 rfl (by decide) rfl ?_
    refine r_lload_n X dX9_digest_239 rfl 0 rfl ?_
    refine r_aload_n X dX9_digest_240 rfl 1 rfl ?_
    refine r_iconst (v := -1) X dX9_digest_241 (by decide) ?_
    obtain ⟨r25, σ26, hc_54, h⟩ := bnd_of h
    refine r_callV (As := [.int (-1 : Int32)]) (rest := [.long r23]) (st2 := [.int r25, .long r23]) (c := 0) X cv_X9_327 (c_X9_spare M.2.1 hc_54) rfl (ci := 8) rfl fX_0 rfl rfl (Nat.le_of_ble_eq_true rfl) ⟨⟨rfl, rfl⟩, by decide, by decide⟩ dX9_digest_242 ⟨rfl, rfl⟩ rfl ?_
    refine r_i2l X dX9_digest_245 ?_
    obtain ⟨r27, σ28, hc_53, h⟩ := bnd_of h
    refine r_callS (As := [.long r23, .long (r25).toInt64]) (rest := []) (st2 := [.long r27]) X cv_X9_299 (c_X9_mix M.2.1 hc_53) rfl rfl rfl (Nat.le_of_ble_eq_true rfl) ⟨⟨rfl, rfl⟩, by decide, by decide⟩ dX9_digest_246 ⟨rfl, rfl⟩ rfl ?_
    refine r_aload_n X dX9_digest_249 rfl 1 rfl ?_
    refine r_iconst (v := 0) X dX9_digest_250 (by decide) ?_
    obtain ⟨r29, σ30, hc_52, h⟩ := bnd_of h
    refine r_callV (As := [.int (0 : Int32)]) (rest := [.long r27]) (st2 := [.int r29, .long r27]) (c := 0) X cv_X9_327 (c_X9_spare M.2.1 hc_52) rfl (ci := 8) rfl fX_0 rfl rfl (Nat.le_of_ble_eq_true rfl) ⟨⟨rfl, rfl⟩, by decide, by decide⟩ dX9_digest_251 ⟨rfl, rfl⟩ rfl ?_
    refine r_i2l X dX9_digest_254 ?_
    obtain ⟨r31, σ32, hc_51, h⟩ := bnd_of h
    refine r_callS (As := [.long r27, .long (r29).toInt64]) (rest := []) (st2 := [.long r31]) X cv_X9_299 (c_X9_mix M.2.1 hc_51) rfl rfl rfl (Nat.le_of_ble_eq_true rfl) ⟨⟨rfl, rfl⟩, by decide, by decide⟩ dX9_digest_255 ⟨rfl, rfl⟩ rfl ?_
    refine r_lstore_n X [(1, .long r31), (0, .ref (ad 0)), (3, .int x3)] dX9_digest_258 rfl (by decide) rfl ?_
    refine r_lload_n X dX9_digest_259 rfl 0 rfl ?_
    refine r_aload_n X dX9_digest_260 rfl 1 rfl ?_
    obtain ⟨r33, σ34, hc_50, h⟩ := bnd_of h
    refine r_callV (As := []) (rest := [.long r31]) (st2 := [.int r33, .long r31]) (c := 0) X cv_X9_330 (c_X9_never M.2.1 hc_50) rfl (ci := 8) rfl fX_0 rfl rfl (Nat.le_of_ble_eq_true rfl) ⟨⟨rfl, rfl⟩, by decide, by decide⟩ dX9_digest_261 ⟨rfl, rfl⟩ rfl ?_
    refine r_i2l X dX9_digest_264 ?_
    obtain ⟨r35, σ36, hc_49, h⟩ := bnd_of h
    refine r_callS (As := [.long r31, .long (r33).toInt64]) (rest := []) (st2 := [.long r35]) X cv_X9_299 (c_X9_mix M.2.1 hc_49) rfl rfl rfl (Nat.le_of_ble_eq_true rfl) ⟨⟨rfl, rfl⟩, by decide, by decide⟩ dX9_digest_265 ⟨rfl, rfl⟩ rfl ?_
    refine r_lstore_n X [(1, .long r35), (0, .ref (ad 0)), (3, .int x3)] dX9_digest_268 rfl (by decide) rfl ?_
    refine r_lload_n X dX9_digest_269 rfl 0 rfl ?_
    refine r_aload_n X dX9_digest_270 rfl 1 rfl ?_
    refine r_bipush (v := 7) X dX9_digest_271 (by decide) ?_
    refine r_bipush (v := 6) X dX9_digest_273 (by decide) ?_
    refine r_iconst (v := 0) X dX9_digest_275 (by decide) ?_
    obtain ⟨r37, σ38, hc_48, h⟩ := bnd_of h
    refine r_callV (As := [.int (7 : Int32), .int (6 : Int32), .int (0 : Int32)]) (rest := [.long r35]) (st2 := [.int r37, .long r35]) (c := 0) X cv_X9_333 (c_X9_years M.2.1 hc_48) rfl (ci := 8) rfl fX_0 rfl rfl (Nat.le_of_ble_eq_true rfl) ⟨⟨rfl, rfl⟩, by decide, by decide⟩ dX9_digest_276 ⟨rfl, rfl⟩ rfl ?_
    refine r_i2l X dX9_digest_279 ?_
    obtain ⟨r39, σ40, hc_47, h⟩ := bnd_of h
    refine r_callS (As := [.long r35, .long (r37).toInt64]) (rest := []) (st2 := [.long r39]) X cv_X9_299 (c_X9_mix M.2.1 hc_47) rfl rfl rfl (Nat.le_of_ble_eq_true rfl) ⟨⟨rfl, rfl⟩, by decide, by decide⟩ dX9_digest_280 ⟨rfl, rfl⟩ rfl ?_
    refine r_aload_n X dX9_digest_283 rfl 1 rfl ?_
    refine r_bipush (v := 7) X dX9_digest_284 (by decide) ?_
    refine r_bipush (v := 6) X dX9_digest_286 (by decide) ?_
    refine r_iconst (v := 1) X dX9_digest_288 (by decide) ?_
    obtain ⟨r41, σ42, hc_46, h⟩ := bnd_of h
    refine r_callV (As := [.int (7 : Int32), .int (6 : Int32), .int (1 : Int32)]) (rest := [.long r39]) (st2 := [.int r41, .long r39]) (c := 0) X cv_X9_333 (c_X9_years M.2.1 hc_46) rfl (ci := 8) rfl fX_0 rfl rfl (Nat.le_of_ble_eq_true rfl) ⟨⟨rfl, rfl⟩, by decide, by decide⟩ dX9_digest_289 ⟨rfl, rfl⟩ rfl ?_
    refine r_i2l X dX9_digest_292 ?_
    obtain ⟨r43, σ44, hc_45, h⟩ := bnd_of h
    refine r_callS (As := [.long r39, .long (r41).toInt64]) (rest := []) (st2 := [.long r43]) X cv_X9_299 (c_X9_mix M.2.1 hc_45) rfl rfl rfl (Nat.le_of_ble_eq_true rfl) ⟨⟨rfl, rfl⟩, by decide, by decide⟩ dX9_digest_293 ⟨rfl, rfl⟩ rfl ?_
    exact r_lretz X rfl dX9_digest_296 h
  · refine r_aload_n X dX9_digest_145 rfl 0 rfl ?_
    refine r_iload_n X dX9_digest_146 rfl 2 rfl ?_
    obtain ⟨r67, σ68, hc_79, h⟩ := bnd_of h
    refine r_callV (As := [.int x3]) (rest := []) (st2 := [.int r67]) (c := 0) X cv_X9_223 (c_X9_bestNight M.2.1 hc_79) rfl (ci := 8) rfl fX_0 rfl rfl (Nat.le_of_ble_eq_true rfl) ⟨⟨rfl, rfl⟩, by decide, by decide⟩ dX9_digest_147 ⟨rfl, rfl⟩ rfl ?_
    refine r_istore X [(4, .int r67), (0, .ref (ad 0)), (1, .long x1), (3, .int x3)] dX9_digest_150 (by decide) rfl ?_
    refine r_lload_n X dX9_digest_152 rfl 2 rfl ?_
    refine r_iload X dX9_digest_153 0 rfl ?_
    refine r_i2l X dX9_digest_155 ?_
    obtain ⟨r69, σ70, hc_78, h⟩ := bnd_of h
    refine r_callS (As := [.long x1, .long (r67).toInt64]) (rest := []) (st2 := [.long r69]) X cv_X9_299 (c_X9_mix M.2.1 hc_78) rfl rfl rfl (Nat.le_of_ble_eq_true rfl) ⟨⟨rfl, rfl⟩, by decide, by decide⟩ dX9_digest_156 ⟨rfl, rfl⟩ rfl ?_
    refine r_aload_n X dX9_digest_159 rfl 1 rfl ?_
    refine r_iload X dX9_digest_160 0 rfl ?_
    refine r_iload_n X dX9_digest_162 rfl 3 rfl ?_
    obtain ⟨r71, σ72, hc_77, h⟩ := bnd_of h
    refine r_callV (As := [.int r67, .int x3]) (rest := [.long r69]) (st2 := [.int r71, .long r69]) (c := 0) X cv_X9_214 (c_X9_metWithPlough M.2.1 hc_77) rfl (ci := 8) rfl fX_0 rfl rfl (Nat.le_of_ble_eq_true rfl) ⟨⟨rfl, rfl⟩, by decide, by decide⟩ dX9_digest_163 ⟨rfl, rfl⟩ rfl ?_
    refine r_i2l X dX9_digest_166 ?_
    obtain ⟨r73, σ74, hc_76, h⟩ := bnd_of h
    refine r_callS (As := [.long r69, .long (r71).toInt64]) (rest := []) (st2 := [.long r73]) X cv_X9_299 (c_X9_mix M.2.1 hc_76) rfl rfl rfl (Nat.le_of_ble_eq_true rfl) ⟨⟨rfl, rfl⟩, by decide, by decide⟩ dX9_digest_167 ⟨rfl, rfl⟩ rfl ?_
    refine r_lstore_n X [(1, .long r73), (4, .int r67), (0, .ref (ad 0)), (3, .int x3)] dX9_digest_170 rfl (by decide) rfl ?_
    refine r_iinc X [(3, .int (x3 + (1 : Int32))), (1, .long r73), (4, .int r67), (0, .ref (ad 0))] dX9_digest_171 3 rfl (v := x3 + (1 : Int32)) (by rfl) (by decide) rfl ?_
    refine r_letv h (fun v75 h => ?_)
    refine r_goto X 139 dX9_digest_174 (by decide) ?_
    refine r_sub (lv' := [(0, .ref (ad 0)), (1, .long r73), (3, .int v75)]) [3, 1, 0] rfl ?_
    exact hk139 σ74 r73 v75 h
theorem t_X9_digest_l139 {M : am_M} {D : va_G} {cT : Nat → ClassId} {ad : Nat → Nat} (X : am_X M (D, cT, ad, NX, LX) cX9_digest RX9 5 (some .long)) {z : Int64 × Sg} (n : Nat) : ∀ (σ : Sg) (x1 : Int64) (x3 : Int32), f_X9_digest_l139 n σ x1 x3 = some z → am_At M { frames := 6, cells := 0, slots := 0, locals := 154 } (D, cT, ad, NX, LX) (amQl M (D, cT, ad, NX, LX) z) 5 139 [(0, .ref (ad 0)), (1, .long x1), (3, .int x3)] [] σ := by
  induction n with
  | zero =>
    intro σ x1 x3 h
    have h2 : (none : Option (Int64 × Sg)) = some z := h
    cases h2
  | succ n ih =>
    intro σ x1 x3 h
    exact t_X9_digest_b139 X (k139 := f_X9_digest_l139 n) ih σ x1 x3 h
set_option maxRecDepth 100000 in
set_option maxHeartbeats 4000000 in
theorem t_X9_digest_b103 {M : am_M} {D : va_G} {cT : Nat → ClassId} {ad : Nat → Nat} (X : am_X M (D, cT, ad, NX, LX) cX9_digest RX9 5 (some .long)) {z : Int64 × Sg} {k103 : Sg → Int64 → Int32 → Option (Int64 × Sg)} (hk103 : ∀ (σ : Sg) (x1 : Int64) (x3 : Int32), k103 σ x1 x3 = some z → am_At M { frames := 6, cells := 0, slots := 0, locals := 154 } (D, cT, ad, NX, LX) (amQl M (D, cT, ad, NX, LX) z) 5 103 [(0, .ref (ad 0)), (1, .long x1), (3, .int x3)] [] σ) (σ : Sg) (x1 : Int64) (x3 : Int32) (h : f_X9_digest_b103 k103 σ x1 x3 = some z) : am_At M { frames := 6, cells := 0, slots := 0, locals := 154 } (D, cT, ad, NX, LX) (amQl M (D, cT, ad, NX, LX) z) 5 103 [(0, .ref (ad 0)), (1, .long x1), (3, .int x3)] [] σ := by
  unfold f_X9_digest_b103 at h
  refine r_iload_n X dX9_digest_103 rfl 2 rfl ?_
  refine r_bipush (v := 24) X dX9_digest_104 (by decide) ?_
  refine r_icmp_ge X 137 dX9_digest_106 (by decide) h (fun h => ?_) (fun h => ?_)
  · refine r_iconst (v := 0) X dX9_digest_137 (by decide) ?_
    refine r_istore_n X [(3, .int (0 : Int32)), (0, .ref (ad 0)), (1, .long x1)] dX9_digest_138 rfl (by decide) rfl ?_
    refine r_sub (lv' := [(0, .ref (ad 0)), (1, .long x1), (3, .int (0 : Int32))]) [1, 2, 0] rfl ?_
    exact t_X9_digest_l139 X 300 σ x1 (0 : Int32) h
  · refine r_lload_n X dX9_digest_109 rfl 1 rfl ?_
    refine r_aload_n X dX9_digest_110 rfl 0 rfl ?_
    refine r_iload_n X dX9_digest_111 rfl 2 rfl ?_
    refine r_iconst (v := 0) X dX9_digest_112 (by decide) ?_
    obtain ⟨r1, σ2, hc_13, h⟩ := bnd_of h
    refine r_callV (As := [.int x3, .int (0 : Int32)]) (rest := [.long x1]) (st2 := [.int r1, .long x1]) (c := 0) X cv_X9_312 (c_X9_up M.2.1 hc_13) rfl (ci := 8) rfl fX_0 rfl rfl (Nat.le_of_ble_eq_true rfl) ⟨⟨rfl, rfl⟩, by decide, by decide⟩ dX9_digest_113 ⟨rfl, rfl⟩ rfl ?_
    refine r_i2l X dX9_digest_116 ?_
    obtain ⟨r3, σ4, hc_12, h⟩ := bnd_of h
    refine r_callS (As := [.long x1, .long (r1).toInt64]) (rest := []) (st2 := [.long r3]) X cv_X9_299 (c_X9_mix M.2.1 hc_12) rfl rfl rfl (Nat.le_of_ble_eq_true rfl) ⟨⟨rfl, rfl⟩, by decide, by decide⟩ dX9_digest_117 ⟨rfl, rfl⟩ rfl ?_
    refine r_aload_n X dX9_digest_120 rfl 0 rfl ?_
    refine r_iload_n X dX9_digest_121 rfl 2 rfl ?_
    refine r_iconst (v := 1) X dX9_digest_122 (by decide) ?_
    obtain ⟨r5, σ6, hc_11, h⟩ := bnd_of h
    refine r_callV (As := [.int x3, .int (1 : Int32)]) (rest := [.long r3]) (st2 := [.int r5, .long r3]) (c := 0) X cv_X9_312 (c_X9_up M.2.1 hc_11) rfl (ci := 8) rfl fX_0 rfl rfl (Nat.le_of_ble_eq_true rfl) ⟨⟨rfl, rfl⟩, by decide, by decide⟩ dX9_digest_123 ⟨rfl, rfl⟩ rfl ?_
    refine r_i2l X dX9_digest_126 ?_
    obtain ⟨r7, σ8, hc_10, h⟩ := bnd_of h
    refine r_callS (As := [.long r3, .long (r5).toInt64]) (rest := []) (st2 := [.long r7]) X cv_X9_299 (c_X9_mix M.2.1 hc_10) rfl rfl rfl (Nat.le_of_ble_eq_true rfl) ⟨⟨rfl, rfl⟩, by decide, by decide⟩ dX9_digest_127 ⟨rfl, rfl⟩ rfl ?_
    refine r_lstore_n X [(1, .long r7), (0, .ref (ad 0)), (3, .int x3)] dX9_digest_130 rfl (by decide) rfl ?_
    refine r_iinc X [(3, .int (x3 + (1 : Int32))), (1, .long r7), (0, .ref (ad 0))] dX9_digest_131 2 rfl (v := x3 + (1 : Int32)) (by rfl) (by decide) rfl ?_
    refine r_letv h (fun v9 h => ?_)
    refine r_goto X 103 dX9_digest_134 (by decide) ?_
    refine r_sub (lv' := [(0, .ref (ad 0)), (1, .long r7), (3, .int v9)]) [2, 1, 0] rfl ?_
    exact hk103 σ8 r7 v9 h
theorem t_X9_digest_l103 {M : am_M} {D : va_G} {cT : Nat → ClassId} {ad : Nat → Nat} (X : am_X M (D, cT, ad, NX, LX) cX9_digest RX9 5 (some .long)) {z : Int64 × Sg} (n : Nat) : ∀ (σ : Sg) (x1 : Int64) (x3 : Int32), f_X9_digest_l103 n σ x1 x3 = some z → am_At M { frames := 6, cells := 0, slots := 0, locals := 154 } (D, cT, ad, NX, LX) (amQl M (D, cT, ad, NX, LX) z) 5 103 [(0, .ref (ad 0)), (1, .long x1), (3, .int x3)] [] σ := by
  induction n with
  | zero =>
    intro σ x1 x3 h
    have h2 : (none : Option (Int64 × Sg)) = some z := h
    cases h2
  | succ n ih =>
    intro σ x1 x3 h
    exact t_X9_digest_b103 X (k103 := f_X9_digest_l103 n) ih σ x1 x3 h
set_option maxRecDepth 100000 in
set_option maxHeartbeats 4000000 in
theorem t_X9_digest_b77 {M : am_M} {D : va_G} {cT : Nat → ClassId} {ad : Nat → Nat} (X : am_X M (D, cT, ad, NX, LX) cX9_digest RX9 5 (some .long)) {z : Int64 × Sg} {k77 : Sg → Int64 → Int32 → Option (Int64 × Sg)} (hk77 : ∀ (σ : Sg) (x1 : Int64) (x3 : Int32), k77 σ x1 x3 = some z → am_At M { frames := 6, cells := 0, slots := 0, locals := 154 } (D, cT, ad, NX, LX) (amQl M (D, cT, ad, NX, LX) z) 5 77 [(0, .ref (ad 0)), (1, .long x1), (3, .int x3)] [] σ) (σ : Sg) (x1 : Int64) (x3 : Int32) (h : f_X9_digest_b77 k77 σ x1 x3 = some z) : am_At M { frames := 6, cells := 0, slots := 0, locals := 154 } (D, cT, ad, NX, LX) (amQl M (D, cT, ad, NX, LX) z) 5 77 [(0, .ref (ad 0)), (1, .long x1), (3, .int x3)] [] σ := by
  unfold f_X9_digest_b77 at h
  refine r_iload_n X dX9_digest_77 rfl 2 rfl ?_
  refine r_aload_n X dX9_digest_78 rfl 0 rfl ?_
  refine r_getR (c1 := 5) X fg_X9_24_X9 fX_0 rfl dX9_digest_79 ?_
  refine r_getI X fg_X9_115_X2 fX_5 rfl dX9_digest_82 ?_
  refine r_icmp_ge X 101 dX9_digest_85 (by decide) h (fun h => ?_) (fun h => ?_)
  · refine r_iconst (v := 0) X dX9_digest_101 (by decide) ?_
    refine r_istore_n X [(3, .int (0 : Int32)), (0, .ref (ad 0)), (1, .long x1)] dX9_digest_102 rfl (by decide) rfl ?_
    refine r_sub (lv' := [(0, .ref (ad 0)), (1, .long x1), (3, .int (0 : Int32))]) [1, 2, 0] rfl ?_
    exact t_X9_digest_l103 X 300 σ x1 (0 : Int32) h
  · refine r_aload_n X dX9_digest_88 rfl 0 rfl ?_
    refine r_lload_n X dX9_digest_89 rfl 1 rfl ?_
    refine r_iload_n X dX9_digest_90 rfl 2 rfl ?_
    obtain ⟨r1, σ2, hc_4, h⟩ := bnd_of h
    refine r_callV (As := [.long x1, .int x3]) (rest := []) (st2 := [.long r1]) (c := 0) X cv_X9_309 (c_X9_mixOne M.2.1 hc_4) rfl (ci := 8) rfl fX_0 rfl rfl (Nat.le_of_ble_eq_true rfl) ⟨⟨rfl, rfl⟩, by decide, by decide⟩ dX9_digest_91 ⟨rfl, rfl⟩ rfl ?_
    refine r_lstore_n X [(1, .long r1), (0, .ref (ad 0)), (3, .int x3)] dX9_digest_94 rfl (by decide) rfl ?_
    refine r_iinc X [(3, .int (x3 + (1 : Int32))), (1, .long r1), (0, .ref (ad 0))] dX9_digest_95 2 rfl (v := x3 + (1 : Int32)) (by rfl) (by decide) rfl ?_
    refine r_letv h (fun v3 h => ?_)
    refine r_goto X 77 dX9_digest_98 (by decide) ?_
    refine r_sub (lv' := [(0, .ref (ad 0)), (1, .long r1), (3, .int v3)]) [2, 1, 0] rfl ?_
    exact hk77 σ2 r1 v3 h
theorem t_X9_digest_l77 {M : am_M} {D : va_G} {cT : Nat → ClassId} {ad : Nat → Nat} (X : am_X M (D, cT, ad, NX, LX) cX9_digest RX9 5 (some .long)) {z : Int64 × Sg} (n : Nat) : ∀ (σ : Sg) (x1 : Int64) (x3 : Int32), f_X9_digest_l77 n σ x1 x3 = some z → am_At M { frames := 6, cells := 0, slots := 0, locals := 154 } (D, cT, ad, NX, LX) (amQl M (D, cT, ad, NX, LX) z) 5 77 [(0, .ref (ad 0)), (1, .long x1), (3, .int x3)] [] σ := by
  induction n with
  | zero =>
    intro σ x1 x3 h
    have h2 : (none : Option (Int64 × Sg)) = some z := h
    cases h2
  | succ n ih =>
    intro σ x1 x3 h
    exact t_X9_digest_b77 X (k77 := f_X9_digest_l77 n) ih σ x1 x3 h
set_option maxRecDepth 100000 in
set_option maxHeartbeats 4000000 in
theorem t_X9_digest_b51 {M : am_M} {D : va_G} {cT : Nat → ClassId} {ad : Nat → Nat} (X : am_X M (D, cT, ad, NX, LX) cX9_digest RX9 5 (some .long)) {z : Int64 × Sg} {k51 : Sg → Int64 → Int32 → Option (Int64 × Sg)} (hk51 : ∀ (σ : Sg) (x1 : Int64) (x3 : Int32), k51 σ x1 x3 = some z → am_At M { frames := 6, cells := 0, slots := 0, locals := 154 } (D, cT, ad, NX, LX) (amQl M (D, cT, ad, NX, LX) z) 5 51 [(0, .ref (ad 0)), (1, .long x1), (3, .int x3)] [] σ) (σ : Sg) (x1 : Int64) (x3 : Int32) (h : f_X9_digest_b51 k51 σ x1 x3 = some z) : am_At M { frames := 6, cells := 0, slots := 0, locals := 154 } (D, cT, ad, NX, LX) (amQl M (D, cT, ad, NX, LX) z) 5 51 [(0, .ref (ad 0)), (1, .long x1), (3, .int x3)] [] σ := by
  unfold f_X9_digest_b51 at h
  refine r_iload_n X dX9_digest_51 rfl 2 rfl ?_
  refine r_aload_n X dX9_digest_52 rfl 0 rfl ?_
  refine r_getR (c1 := 10) X fg_X9_31_X9 fX_0 rfl dX9_digest_53 ?_
  refine r_getI X fg_X9_128_X4 fX_10 rfl dX9_digest_56 ?_
  refine r_icmp_ge X 75 dX9_digest_59 (by decide) h (fun h => ?_) (fun h => ?_)
  · refine r_iconst (v := 0) X dX9_digest_75 (by decide) ?_
    refine r_istore_n X [(3, .int (0 : Int32)), (0, .ref (ad 0)), (1, .long x1)] dX9_digest_76 rfl (by decide) rfl ?_
    refine r_sub (lv' := [(0, .ref (ad 0)), (1, .long x1), (3, .int (0 : Int32))]) [1, 2, 0] rfl ?_
    exact t_X9_digest_l77 X 300 σ x1 (0 : Int32) h
  · refine r_aload_n X dX9_digest_62 rfl 0 rfl ?_
    refine r_lload_n X dX9_digest_63 rfl 1 rfl ?_
    refine r_iload_n X dX9_digest_64 rfl 2 rfl ?_
    obtain ⟨r1, σ2, hc_4, h⟩ := bnd_of h
    refine r_callV (As := [.long x1, .int x3]) (rest := []) (st2 := [.long r1]) (c := 0) X cv_X9_305 (c_X9_mixNeed M.2.1 hc_4) rfl (ci := 8) rfl fX_0 rfl rfl (Nat.le_of_ble_eq_true rfl) ⟨⟨rfl, rfl⟩, by decide, by decide⟩ dX9_digest_65 ⟨rfl, rfl⟩ rfl ?_
    refine r_lstore_n X [(1, .long r1), (0, .ref (ad 0)), (3, .int x3)] dX9_digest_68 rfl (by decide) rfl ?_
    refine r_iinc X [(3, .int (x3 + (1 : Int32))), (1, .long r1), (0, .ref (ad 0))] dX9_digest_69 2 rfl (v := x3 + (1 : Int32)) (by rfl) (by decide) rfl ?_
    refine r_letv h (fun v3 h => ?_)
    refine r_goto X 51 dX9_digest_72 (by decide) ?_
    refine r_sub (lv' := [(0, .ref (ad 0)), (1, .long r1), (3, .int v3)]) [2, 1, 0] rfl ?_
    exact hk51 σ2 r1 v3 h
theorem t_X9_digest_l51 {M : am_M} {D : va_G} {cT : Nat → ClassId} {ad : Nat → Nat} (X : am_X M (D, cT, ad, NX, LX) cX9_digest RX9 5 (some .long)) {z : Int64 × Sg} (n : Nat) : ∀ (σ : Sg) (x1 : Int64) (x3 : Int32), f_X9_digest_l51 n σ x1 x3 = some z → am_At M { frames := 6, cells := 0, slots := 0, locals := 154 } (D, cT, ad, NX, LX) (amQl M (D, cT, ad, NX, LX) z) 5 51 [(0, .ref (ad 0)), (1, .long x1), (3, .int x3)] [] σ := by
  induction n with
  | zero =>
    intro σ x1 x3 h
    have h2 : (none : Option (Int64 × Sg)) = some z := h
    cases h2
  | succ n ih =>
    intro σ x1 x3 h
    exact t_X9_digest_b51 X (k51 := f_X9_digest_l51 n) ih σ x1 x3 h
set_option maxRecDepth 100000 in
set_option maxHeartbeats 4000000 in
theorem t_X9_digest_b6 {M : am_M} {D : va_G} {cT : Nat → ClassId} {ad : Nat → Nat} (X : am_X M (D, cT, ad, NX, LX) cX9_digest RX9 5 (some .long)) {z : Int64 × Sg} {k6 : Sg → Int64 → Int32 → Option (Int64 × Sg)} (hk6 : ∀ (σ : Sg) (x1 : Int64) (x3 : Int32), k6 σ x1 x3 = some z → am_At M { frames := 6, cells := 0, slots := 0, locals := 154 } (D, cT, ad, NX, LX) (amQl M (D, cT, ad, NX, LX) z) 5 6 [(0, .ref (ad 0)), (1, .long x1), (3, .int x3)] [] σ) (σ : Sg) (x1 : Int64) (x3 : Int32) (h : f_X9_digest_b6 k6 σ x1 x3 = some z) : am_At M { frames := 6, cells := 0, slots := 0, locals := 154 } (D, cT, ad, NX, LX) (amQl M (D, cT, ad, NX, LX) z) 5 6 [(0, .ref (ad 0)), (1, .long x1), (3, .int x3)] [] σ := by
  unfold f_X9_digest_b6 at h
  refine r_iload_n X dX9_digest_6 rfl 2 rfl ?_
  refine r_bipush (v := 8) X dX9_digest_7 (by decide) ?_
  refine r_icmp_ge X 29 dX9_digest_9 (by decide) h (fun h => ?_) (fun h => ?_)
  · refine r_lload_n X dX9_digest_29 rfl 1 rfl ?_
    refine r_aload_n X dX9_digest_30 rfl 0 rfl ?_
    refine r_iconst (v := 0) X dX9_digest_31 (by decide) ?_
    obtain ⟨r1, σ2, hc_12, h⟩ := bnd_of h
    refine r_callV (As := [.int (0 : Int32)]) (rest := [.long x1]) (st2 := [.int r1, .long x1]) (c := 0) X cv_X9_303 (c_X9_fault M.2.1 hc_12) rfl (ci := 8) rfl fX_0 rfl rfl (Nat.le_of_ble_eq_true rfl) ⟨⟨rfl, rfl⟩, by decide, by decide⟩ dX9_digest_32 ⟨rfl, rfl⟩ rfl ?_
    refine r_i2l X dX9_digest_35 ?_
    obtain ⟨r3, σ4, hc_11, h⟩ := bnd_of h
    refine r_callS (As := [.long x1, .long (r1).toInt64]) (rest := []) (st2 := [.long r3]) X cv_X9_299 (c_X9_mix M.2.1 hc_11) rfl rfl rfl (Nat.le_of_ble_eq_true rfl) ⟨⟨rfl, rfl⟩, by decide, by decide⟩ dX9_digest_36 ⟨rfl, rfl⟩ rfl ?_
    refine r_aload_n X dX9_digest_39 rfl 0 rfl ?_
    refine r_iconst (v := 1) X dX9_digest_40 (by decide) ?_
    obtain ⟨r5, σ6, hc_10, h⟩ := bnd_of h
    refine r_callV (As := [.int (1 : Int32)]) (rest := [.long r3]) (st2 := [.int r5, .long r3]) (c := 0) X cv_X9_303 (c_X9_fault M.2.1 hc_10) rfl (ci := 8) rfl fX_0 rfl rfl (Nat.le_of_ble_eq_true rfl) ⟨⟨rfl, rfl⟩, by decide, by decide⟩ dX9_digest_41 ⟨rfl, rfl⟩ rfl ?_
    refine r_i2l X dX9_digest_44 ?_
    obtain ⟨r7, σ8, hc_9, h⟩ := bnd_of h
    refine r_callS (As := [.long r3, .long (r5).toInt64]) (rest := []) (st2 := [.long r7]) X cv_X9_299 (c_X9_mix M.2.1 hc_9) rfl rfl rfl (Nat.le_of_ble_eq_true rfl) ⟨⟨rfl, rfl⟩, by decide, by decide⟩ dX9_digest_45 ⟨rfl, rfl⟩ rfl ?_
    refine r_lstore_n X [(1, .long r7), (0, .ref (ad 0)), (3, .int x3)] dX9_digest_48 rfl (by decide) rfl ?_
    refine r_iconst (v := 0) X dX9_digest_49 (by decide) ?_
    refine r_istore_n X [(3, .int (0 : Int32)), (1, .long r7), (0, .ref (ad 0))] dX9_digest_50 rfl (by decide) rfl ?_
    refine r_sub (lv' := [(0, .ref (ad 0)), (1, .long r7), (3, .int (0 : Int32))]) [2, 1, 0] rfl ?_
    exact t_X9_digest_l51 X 300 σ8 r7 (0 : Int32) h
  · refine r_lload_n X dX9_digest_12 rfl 1 rfl ?_
    refine r_aload_n X dX9_digest_13 rfl 0 rfl ?_
    refine r_iload_n X dX9_digest_14 rfl 2 rfl ?_
    obtain ⟨r13, σ14, hc_19, h⟩ := bnd_of h
    refine r_callV (As := [.int x3]) (rest := [.long x1]) (st2 := [.int r13, .long x1]) (c := 0) X cv_X9_296 (c_X9_count M.2.1 hc_19) rfl (ci := 8) rfl fX_0 rfl rfl (Nat.le_of_ble_eq_true rfl) ⟨⟨rfl, rfl⟩, by decide, by decide⟩ dX9_digest_15 ⟨rfl, rfl⟩ rfl ?_
    refine r_i2l X dX9_digest_18 ?_
    obtain ⟨r15, σ16, hc_18, h⟩ := bnd_of h
    refine r_callS (As := [.long x1, .long (r13).toInt64]) (rest := []) (st2 := [.long r15]) X cv_X9_299 (c_X9_mix M.2.1 hc_18) rfl rfl rfl (Nat.le_of_ble_eq_true rfl) ⟨⟨rfl, rfl⟩, by decide, by decide⟩ dX9_digest_19 ⟨rfl, rfl⟩ rfl ?_
    refine r_lstore_n X [(1, .long r15), (0, .ref (ad 0)), (3, .int x3)] dX9_digest_22 rfl (by decide) rfl ?_
    refine r_iinc X [(3, .int (x3 + (1 : Int32))), (1, .long r15), (0, .ref (ad 0))] dX9_digest_23 2 rfl (v := x3 + (1 : Int32)) (by rfl) (by decide) rfl ?_
    refine r_letv h (fun v17 h => ?_)
    refine r_goto X 6 dX9_digest_26 (by decide) ?_
    refine r_sub (lv' := [(0, .ref (ad 0)), (1, .long r15), (3, .int v17)]) [2, 1, 0] rfl ?_
    exact hk6 σ16 r15 v17 h
theorem t_X9_digest_l6 {M : am_M} {D : va_G} {cT : Nat → ClassId} {ad : Nat → Nat} (X : am_X M (D, cT, ad, NX, LX) cX9_digest RX9 5 (some .long)) {z : Int64 × Sg} (n : Nat) : ∀ (σ : Sg) (x1 : Int64) (x3 : Int32), f_X9_digest_l6 n σ x1 x3 = some z → am_At M { frames := 6, cells := 0, slots := 0, locals := 154 } (D, cT, ad, NX, LX) (amQl M (D, cT, ad, NX, LX) z) 5 6 [(0, .ref (ad 0)), (1, .long x1), (3, .int x3)] [] σ := by
  induction n with
  | zero =>
    intro σ x1 x3 h
    have h2 : (none : Option (Int64 × Sg)) = some z := h
    cases h2
  | succ n ih =>
    intro σ x1 x3 h
    exact t_X9_digest_b6 X (k6 := f_X9_digest_l6 n) ih σ x1 x3 h
set_option maxRecDepth 100000 in
set_option maxHeartbeats 4000000 in
theorem c_X9_digest (l : Launch) {σ : Sg} {z : Int64 × Sg} (h : f_X9_digest σ = some z) : am_Met l yX9_digest cX9_digest 5 (some .long) { frames := 6, cells := 0, slots := 0, locals := 154 } NX LX (fun ad => [.ref (ad 0)]) σ z.2 (fun _ => some (.long z.1)) := by
  refine am_enter (by decide +kernel) (fun ad => Nat.le_of_ble_eq_true rfl) (fun M D cT ad hl X => ?_)
  subst hl
  refine r_lv (lv' := [(0, .ref (ad 0))]) rfl ?_
  unfold f_X9_digest at h
  refine r_ldc2 (v := 17) X dX9_digest_0 bw_412 ?_
  refine r_lstore_n X [(1, .long (17 : Int64)), (0, .ref (ad 0))] dX9_digest_3 rfl (by decide) rfl ?_
  refine r_iconst (v := 0) X dX9_digest_4 (by decide) ?_
  refine r_istore_n X [(3, .int (0 : Int32)), (1, .long (17 : Int64)), (0, .ref (ad 0))] dX9_digest_5 rfl (by decide) rfl ?_
  refine r_sub (lv' := [(0, .ref (ad 0)), (1, .long (17 : Int64)), (3, .int (0 : Int32))]) [2, 1, 0] rfl ?_
  exact t_X9_digest_l6 X 300 σ (17 : Int64) (0 : Int32) h
