set_option maxRecDepth 100000 in
set_option maxHeartbeats 4000000 in
theorem t_X10_nightDigest_b6 {M : am_M} {D : va_G} {cT : Nat → ClassId} {ad : Nat → Nat} (X : am_X M (D, cT, ad, NM, LM) cX10_nightDigest RX10 8 (some .long)) {z : Int64 × Sg} {k6 : Sg → Int32 → Int32 → Int64 → Int32 → Option (Int64 × Sg)} (hk6 : ∀ (σ : Sg) (x3 : Int32) (x4 : Int32) (x5 : Int64) (x7 : Int32), k6 σ x3 x4 x5 x7 = some z → am_At M { frames := 9, cells := 0, slots := 0, locals := 202 } (D, cT, ad, NM, LM) (amQl M (D, cT, ad, NM, LM) z) 8 6 [(0, .ref (ad 0)), (3, .int x3), (4, .int x4), (5, .long x5), (7, .int x7)] [] σ) (σ : Sg) (x3 : Int32) (x4 : Int32) (x5 : Int64) (x7 : Int32) (h : f_X10_nightDigest_b6 k6 σ x3 x4 x5 x7 = some z) : am_At M { frames := 9, cells := 0, slots := 0, locals := 202 } (D, cT, ad, NM, LM) (amQl M (D, cT, ad, NM, LM) z) 8 6 [(0, .ref (ad 0)), (3, .int x3), (4, .int x4), (5, .long x5), (7, .int x7)] [] σ := by
  unfold f_X10_nightDigest_b6 at h
  refine r_iload X dX10_nightDigest_6 4 rfl ?_
  refine r_iconst (v := 3) X dX10_nightDigest_8 (by decide) ?_
  refine r_icmp_ge X 37 dX10_nightDigest_9 (by decide) h (fun h => ?_) (fun h => ?_)
  · refine r_lload X dX10_nightDigest_37 3 rfl ?_
    exact r_lretz X rfl dX10_nightDigest_39 h
  · refine r_ldc2 (v := 31) X dX10_nightDigest_12 bw_831 ?_
    refine r_lload X dX10_nightDigest_15 3 rfl ?_
    refine r_lmul X dX10_nightDigest_17 ?_
    refine r_aload_n X dX10_nightDigest_18 rfl 0 rfl ?_
    refine r_iload_n X dX10_nightDigest_19 rfl 1 rfl ?_
    refine r_iload X dX10_nightDigest_20 2 rfl ?_
    refine r_iload X dX10_nightDigest_22 4 rfl ?_
    obtain ⟨r1, σ2, hc_5, h⟩ := bnd_of h
    refine r_callV (As := [.int x3, .int x4, .int x7]) (rest := [.long ((31 : Int64) * x5)]) (st2 := [.int r1, .long ((31 : Int64) * x5)]) (c := 0) X cv_X10_238 (c_X10_atOf M.2.1 hc_5) rfl (ci := 9) rfl fM_0 rfl rfl (Nat.le_of_ble_eq_true rfl) ⟨⟨rfl, rfl⟩, by decide, by decide⟩ dX10_nightDigest_24 ⟨rfl, rfl⟩ rfl ?_
    refine r_i2l X dX10_nightDigest_27 ?_
    refine r_ladd X dX10_nightDigest_28 ?_
    refine r_letl h (fun v3 h => ?_)
    refine r_lstore X [(5, .long v3), (0, .ref (ad 0)), (3, .int x3), (4, .int x4), (7, .int x7)] dX10_nightDigest_29 (by decide) rfl ?_
    refine r_iinc X [(7, .int (x7 + (1 : Int32))), (5, .long v3), (0, .ref (ad 0)), (3, .int x3), (4, .int x4)] dX10_nightDigest_31 4 rfl (v := x7 + (1 : Int32)) (by rfl) (by decide) rfl ?_
    refine r_letv h (fun v4 h => ?_)
    refine r_goto X 6 dX10_nightDigest_34 (by decide) ?_
    refine r_sub (lv' := [(0, .ref (ad 0)), (3, .int x3), (4, .int x4), (5, .long v3), (7, .int v4)]) [2, 3, 4, 1, 0] rfl ?_
    exact hk6 σ2 x3 x4 v3 v4 h
theorem t_X10_nightDigest_l6 {M : am_M} {D : va_G} {cT : Nat → ClassId} {ad : Nat → Nat} (X : am_X M (D, cT, ad, NM, LM) cX10_nightDigest RX10 8 (some .long)) {z : Int64 × Sg} (n : Nat) : ∀ (σ : Sg) (x3 : Int32) (x4 : Int32) (x5 : Int64) (x7 : Int32), f_X10_nightDigest_l6 n σ x3 x4 x5 x7 = some z → am_At M { frames := 9, cells := 0, slots := 0, locals := 202 } (D, cT, ad, NM, LM) (amQl M (D, cT, ad, NM, LM) z) 8 6 [(0, .ref (ad 0)), (3, .int x3), (4, .int x4), (5, .long x5), (7, .int x7)] [] σ := by
  induction n with
  | zero =>
    intro σ x3 x4 x5 x7 h
    have h2 : (none : Option (Int64 × Sg)) = some z := h
    cases h2
  | succ n ih =>
    intro σ x3 x4 x5 x7 h
    exact t_X10_nightDigest_b6 X (k6 := f_X10_nightDigest_l6 n) ih σ x3 x4 x5 x7 h
set_option maxRecDepth 100000 in
set_option maxHeartbeats 4000000 in
theorem c_X10_nightDigest (l : Launch) {σ : Sg} {a1 : Int64} {a3 : Int32} {a4 : Int32} {z : Int64 × Sg} (h : f_X10_nightDigest σ a1 a3 a4 = some z) : am_Met l yX10_nightDigest cX10_nightDigest 8 (some .long) { frames := 9, cells := 0, slots := 0, locals := 202 } NM LM (fun ad => [.ref (ad 0), .long a1, .int a3, .int a4]) σ z.2 (fun _ => some (.long z.1)) := by
  refine am_enter (by decide +kernel) (fun ad => Nat.le_of_ble_eq_true rfl) (fun M D cT ad hl X => ?_)
  subst hl
  refine r_lv (lv' := [(0, .ref (ad 0)), (1, .long a1), (3, .int a3), (4, .int a4)]) rfl ?_
  unfold f_X10_nightDigest at h
  refine r_lload_n X dX10_nightDigest_0 rfl 1 rfl ?_
  refine r_lstore X [(5, .long a1), (0, .ref (ad 0)), (1, .long a1), (3, .int a3), (4, .int a4)] dX10_nightDigest_1 (by decide) rfl ?_
  refine r_iconst (v := 0) X dX10_nightDigest_3 (by decide) ?_
  refine r_istore X [(7, .int (0 : Int32)), (5, .long a1), (0, .ref (ad 0)), (1, .long a1), (3, .int a3), (4, .int a4)] dX10_nightDigest_4 (by decide) rfl ?_
  refine r_sub (lv' := [(0, .ref (ad 0)), (3, .int a3), (4, .int a4), (5, .long a1), (7, .int (0 : Int32))]) [2, 4, 5, 1, 0] rfl ?_
  exact t_X10_nightDigest_l6 X 300 σ a3 a4 a1 (0 : Int32) h
set_option maxRecDepth 100000 in
set_option maxHeartbeats 4000000 in
theorem t_X10_goneDigest_b96 {M : am_M} {D : va_G} {cT : Nat → ClassId} {ad : Nat → Nat} (X : am_X M (D, cT, ad, NM, LM) cX10_goneDigest RX10 7 (some .long)) {z : Int64 × Sg} {k96 : Sg → Int32 → Int64 → Int32 → Option (Int64 × Sg)} (hk96 : ∀ (σ : Sg) (x3 : Int32) (x4 : Int64) (x6 : Int32), k96 σ x3 x4 x6 = some z → am_At M { frames := 10, cells := 0, slots := 0, locals := 229 } (D, cT, ad, NM, LM) (amQl M (D, cT, ad, NM, LM) z) 7 96 [(0, .ref (ad 0)), (3, .int x3), (4, .long x4), (6, .int x6)] [] σ) (σ : Sg) (x3 : Int32) (x4 : Int64) (x6 : Int32) (h : f_X10_goneDigest_b96 k96 σ x3 x4 x6 = some z) : am_At M { frames := 10, cells := 0, slots := 0, locals := 229 } (D, cT, ad, NM, LM) (amQl M (D, cT, ad, NM, LM) z) 7 96 [(0, .ref (ad 0)), (3, .int x3), (4, .long x4), (6, .int x6)] [] σ := by
  unfold f_X10_goneDigest_b96 at h
  refine r_iload X dX10_goneDigest_96 3 rfl ?_
  refine r_iconst (v := 3) X dX10_goneDigest_98 (by decide) ?_
  refine r_icmp_ge X 125 dX10_goneDigest_99 (by decide) h (fun h => ?_) (fun h => ?_)
  · refine r_ldc2 (v := 31) X dX10_goneDigest_125 bw_831 ?_
    refine r_lload X dX10_goneDigest_128 2 rfl ?_
    refine r_lmul X dX10_goneDigest_130 ?_
    refine r_aload_n X dX10_goneDigest_131 rfl 0 rfl ?_
    refine r_iload_n X dX10_goneDigest_132 rfl 1 rfl ?_
    obtain ⟨r1, σ2, hc_11, h⟩ := bnd_of h
    refine r_callV (As := [.int x3]) (rest := [.long ((31 : Int64) * x4)]) (st2 := [.int r1, .long ((31 : Int64) * x4)]) (c := 0) X cv_X10_309 (c_X10_sortsBy M.2.1 hc_11) rfl (ci := 9) rfl fM_0 rfl rfl (Nat.le_of_ble_eq_true rfl) ⟨⟨rfl, rfl⟩, by decide, by decide⟩ dX10_goneDigest_133 ⟨rfl, rfl⟩ rfl ?_
    refine r_i2l X dX10_goneDigest_136 ?_
    refine r_ladd X dX10_goneDigest_137 ?_
    refine r_letl h (fun v3 h => ?_)
    refine r_lstore X [(4, .long v3), (0, .ref (ad 0)), (3, .int x3), (6, .int x6)] dX10_goneDigest_138 (by decide) rfl ?_
    refine r_ldc2 (v := 31) X dX10_goneDigest_140 bw_831 ?_
    refine r_lload X dX10_goneDigest_143 0 rfl ?_
    refine r_lmul X dX10_goneDigest_145 ?_
    refine r_aload_n X dX10_goneDigest_146 rfl 1 rfl ?_
    refine r_iload_n X dX10_goneDigest_147 rfl 2 rfl ?_
    obtain ⟨r4, σ5, hc_10, h⟩ := bnd_of h
    refine r_callV (As := [.int x3]) (rest := [.long ((31 : Int64) * v3)]) (st2 := [.int r4, .long ((31 : Int64) * v3)]) (c := 0) X cv_X10_312 (c_X10_farsBy M.2.1 hc_10) rfl (ci := 9) rfl fM_0 rfl rfl (Nat.le_of_ble_eq_true rfl) ⟨⟨rfl, rfl⟩, by decide, by decide⟩ dX10_goneDigest_148 ⟨rfl, rfl⟩ rfl ?_
    refine r_i2l X dX10_goneDigest_151 ?_
    refine r_ladd X dX10_goneDigest_152 ?_
    refine r_letl h (fun v6 h => ?_)
    refine r_lstore X [(4, .long v6), (0, .ref (ad 0)), (3, .int x3), (6, .int x6)] dX10_goneDigest_153 (by decide) rfl ?_
    refine r_ldc2 (v := 31) X dX10_goneDigest_155 bw_831 ?_
    refine r_lload X dX10_goneDigest_158 0 rfl ?_
    refine r_lmul X dX10_goneDigest_160 ?_
    refine r_aload_n X dX10_goneDigest_161 rfl 1 rfl ?_
    refine r_iload_n X dX10_goneDigest_162 rfl 2 rfl ?_
    obtain ⟨r7, σ8, hc_9, h⟩ := bnd_of h
    refine r_callV (As := [.int x3]) (rest := [.long ((31 : Int64) * v6)]) (st2 := [.int r7, .long ((31 : Int64) * v6)]) (c := 0) X cv_X10_315 (c_X10_askOf M.2.1 hc_9) rfl (ci := 9) rfl fM_0 rfl rfl (Nat.le_of_ble_eq_true rfl) ⟨⟨rfl, rfl⟩, by decide, by decide⟩ dX10_goneDigest_163 ⟨rfl, rfl⟩ rfl ?_
    refine r_i2l X dX10_goneDigest_166 ?_
    refine r_ladd X dX10_goneDigest_167 ?_
    exact r_lretz X rfl dX10_goneDigest_168 h
  · refine r_ldc2 (v := 31) X dX10_goneDigest_102 bw_831 ?_
    refine r_lload X dX10_goneDigest_105 2 rfl ?_
    refine r_lmul X dX10_goneDigest_107 ?_
    refine r_aload_n X dX10_goneDigest_108 rfl 0 rfl ?_
    refine r_iload_n X dX10_goneDigest_109 rfl 1 rfl ?_
    refine r_iload X dX10_goneDigest_110 3 rfl ?_
    obtain ⟨r12, σ13, hc_16, h⟩ := bnd_of h
    refine r_callV (As := [.int x3, .int x6]) (rest := [.long ((31 : Int64) * x4)]) (st2 := [.int r12, .long ((31 : Int64) * x4)]) (c := 0) X cv_X10_284 (c_X10_lieOf M.2.1 hc_16) rfl (ci := 9) rfl fM_0 rfl rfl (Nat.le_of_ble_eq_true rfl) ⟨⟨rfl, rfl⟩, by decide, by decide⟩ dX10_goneDigest_112 ⟨rfl, rfl⟩ rfl ?_
    refine r_i2l X dX10_goneDigest_115 ?_
    refine r_ladd X dX10_goneDigest_116 ?_
    refine r_letl h (fun v14 h => ?_)
    refine r_lstore X [(4, .long v14), (0, .ref (ad 0)), (3, .int x3), (6, .int x6)] dX10_goneDigest_117 (by decide) rfl ?_
    refine r_iinc X [(6, .int (x6 + (1 : Int32))), (4, .long v14), (0, .ref (ad 0)), (3, .int x3)] dX10_goneDigest_119 3 rfl (v := x6 + (1 : Int32)) (by rfl) (by decide) rfl ?_
    refine r_letv h (fun v15 h => ?_)
    refine r_goto X 96 dX10_goneDigest_122 (by decide) ?_
    refine r_sub (lv' := [(0, .ref (ad 0)), (3, .int x3), (4, .long v14), (6, .int v15)]) [2, 3, 1, 0] rfl ?_
    exact hk96 σ13 x3 v14 v15 h
theorem t_X10_goneDigest_l96 {M : am_M} {D : va_G} {cT : Nat → ClassId} {ad : Nat → Nat} (X : am_X M (D, cT, ad, NM, LM) cX10_goneDigest RX10 7 (some .long)) {z : Int64 × Sg} (n : Nat) : ∀ (σ : Sg) (x3 : Int32) (x4 : Int64) (x6 : Int32), f_X10_goneDigest_l96 n σ x3 x4 x6 = some z → am_At M { frames := 10, cells := 0, slots := 0, locals := 229 } (D, cT, ad, NM, LM) (amQl M (D, cT, ad, NM, LM) z) 7 96 [(0, .ref (ad 0)), (3, .int x3), (4, .long x4), (6, .int x6)] [] σ := by
  induction n with
  | zero =>
    intro σ x3 x4 x6 h
    have h2 : (none : Option (Int64 × Sg)) = some z := h
    cases h2
  | succ n ih =>
    intro σ x3 x4 x6 h
    exact t_X10_goneDigest_b96 X (k96 := f_X10_goneDigest_l96 n) ih σ x3 x4 x6 h
set_option maxRecDepth 100000 in
set_option maxHeartbeats 4000000 in
theorem t_X10_goneDigest_b6 {M : am_M} {D : va_G} {cT : Nat → ClassId} {ad : Nat → Nat} (X : am_X M (D, cT, ad, NM, LM) cX10_goneDigest RX10 7 (some .long)) {z : Int64 × Sg} {k6 : Sg → Int32 → Int64 → Int32 → Option (Int64 × Sg)} (hk6 : ∀ (σ : Sg) (x3 : Int32) (x4 : Int64) (x6 : Int32), k6 σ x3 x4 x6 = some z → am_At M { frames := 10, cells := 0, slots := 0, locals := 229 } (D, cT, ad, NM, LM) (amQl M (D, cT, ad, NM, LM) z) 7 6 [(0, .ref (ad 0)), (3, .int x3), (4, .long x4), (6, .int x6)] [] σ) (σ : Sg) (x3 : Int32) (x4 : Int64) (x6 : Int32) (h : f_X10_goneDigest_b6 k6 σ x3 x4 x6 = some z) : am_At M { frames := 10, cells := 0, slots := 0, locals := 229 } (D, cT, ad, NM, LM) (amQl M (D, cT, ad, NM, LM) z) 7 6 [(0, .ref (ad 0)), (3, .int x3), (4, .long x4), (6, .int x6)] [] σ := by
  unfold f_X10_goneDigest_b6 at h
  refine r_iload X dX10_goneDigest_6 3 rfl ?_
  refine r_iconst (v := 4) X dX10_goneDigest_8 (by decide) ?_
  refine r_icmp_ge X 35 dX10_goneDigest_9 (by decide) h (fun h => ?_) (fun h => ?_)
  · refine r_aload_n X dX10_goneDigest_35 rfl 0 rfl ?_
    refine r_lload X dX10_goneDigest_36 2 rfl ?_
    refine r_iconst (v := 0) X dX10_goneDigest_38 (by decide) ?_
    refine r_iload_n X dX10_goneDigest_39 rfl 1 rfl ?_
    obtain ⟨r1, σ2, hc_16, h⟩ := bnd_of h
    refine r_callV (As := [.long x4, .int (0 : Int32), .int x3]) (rest := []) (st2 := [.long r1]) (c := 0) X cv_X10_350 (c_X10_nightDigest M.2.1 hc_16) rfl (ci := 9) rfl fM_0 rfl rfl (Nat.le_of_ble_eq_true rfl) ⟨⟨rfl, rfl⟩, by decide, by decide⟩ dX10_goneDigest_40 ⟨rfl, rfl⟩ rfl ?_
    refine r_lstore X [(4, .long r1), (0, .ref (ad 0)), (3, .int x3), (6, .int x6)] dX10_goneDigest_43 (by decide) rfl ?_
    refine r_aload_n X dX10_goneDigest_45 rfl 1 rfl ?_
    refine r_lload X dX10_goneDigest_46 0 rfl ?_
    refine r_bipush (v := 7) X dX10_goneDigest_48 (by decide) ?_
    refine r_iload_n X dX10_goneDigest_50 rfl 2 rfl ?_
    obtain ⟨r3, σ4, hc_15, h⟩ := bnd_of h
    refine r_callV (As := [.long r1, .int (7 : Int32), .int x3]) (rest := []) (st2 := [.long r3]) (c := 0) X cv_X10_350 (c_X10_nightDigest M.2.1 hc_15) rfl (ci := 9) rfl fM_0 rfl rfl (Nat.le_of_ble_eq_true rfl) ⟨⟨rfl, rfl⟩, by decide, by decide⟩ dX10_goneDigest_51 ⟨rfl, rfl⟩ rfl ?_
    refine r_lstore X [(4, .long r3), (0, .ref (ad 0)), (3, .int x3), (6, .int x6)] dX10_goneDigest_54 (by decide) rfl ?_
    refine r_aload_n X dX10_goneDigest_56 rfl 1 rfl ?_
    refine r_lload X dX10_goneDigest_57 0 rfl ?_
    refine r_bipush (v := 15) X dX10_goneDigest_59 (by decide) ?_
    refine r_iload_n X dX10_goneDigest_61 rfl 2 rfl ?_
    obtain ⟨r5, σ6, hc_14, h⟩ := bnd_of h
    refine r_callV (As := [.long r3, .int (15 : Int32), .int x3]) (rest := []) (st2 := [.long r5]) (c := 0) X cv_X10_350 (c_X10_nightDigest M.2.1 hc_14) rfl (ci := 9) rfl fM_0 rfl rfl (Nat.le_of_ble_eq_true rfl) ⟨⟨rfl, rfl⟩, by decide, by decide⟩ dX10_goneDigest_62 ⟨rfl, rfl⟩ rfl ?_
    refine r_lstore X [(4, .long r5), (0, .ref (ad 0)), (3, .int x3), (6, .int x6)] dX10_goneDigest_65 (by decide) rfl ?_
    refine r_aload_n X dX10_goneDigest_67 rfl 1 rfl ?_
    refine r_lload X dX10_goneDigest_68 0 rfl ?_
    refine r_bipush (v := 23) X dX10_goneDigest_70 (by decide) ?_
    refine r_iload_n X dX10_goneDigest_72 rfl 2 rfl ?_
    obtain ⟨r7, σ8, hc_13, h⟩ := bnd_of h
    refine r_callV (As := [.long r5, .int (23 : Int32), .int x3]) (rest := []) (st2 := [.long r7]) (c := 0) X cv_X10_350 (c_X10_nightDigest M.2.1 hc_13) rfl (ci := 9) rfl fM_0 rfl rfl (Nat.le_of_ble_eq_true rfl) ⟨⟨rfl, rfl⟩, by decide, by decide⟩ dX10_goneDigest_73 ⟨rfl, rfl⟩ rfl ?_
    refine r_lstore X [(4, .long r7), (0, .ref (ad 0)), (3, .int x3), (6, .int x6)] dX10_goneDigest_76 (by decide) rfl ?_
    refine r_ldc2 (v := 31) X dX10_goneDigest_78 bw_831 ?_
    refine r_lload X dX10_goneDigest_81 0 rfl ?_
    refine r_lmul X dX10_goneDigest_83 ?_
    refine r_aload_n X dX10_goneDigest_84 rfl 1 rfl ?_
    refine r_iload_n X dX10_goneDigest_85 rfl 2 rfl ?_
    obtain ⟨r9, σ10, hc_12, h⟩ := bnd_of h
    refine r_callV (As := [.int x3]) (rest := [.long ((31 : Int64) * r7)]) (st2 := [.int r9, .long ((31 : Int64) * r7)]) (c := 0) X cv_X10_256 (c_X10_stoodOf M.2.1 hc_12) rfl (ci := 9) rfl fM_0 rfl rfl (Nat.le_of_ble_eq_true rfl) ⟨⟨rfl, rfl⟩, by decide, by decide⟩ dX10_goneDigest_86 ⟨rfl, rfl⟩ rfl ?_
    refine r_i2l X dX10_goneDigest_89 ?_
    refine r_ladd X dX10_goneDigest_90 ?_
    refine r_letl h (fun v11 h => ?_)
    refine r_lstore X [(4, .long v11), (0, .ref (ad 0)), (3, .int x3), (6, .int x6)] dX10_goneDigest_91 (by decide) rfl ?_
    refine r_iconst (v := 0) X dX10_goneDigest_93 (by decide) ?_
    refine r_istore X [(6, .int (0 : Int32)), (4, .long v11), (0, .ref (ad 0)), (3, .int x3)] dX10_goneDigest_94 (by decide) rfl ?_
    refine r_sub (lv' := [(0, .ref (ad 0)), (3, .int x3), (4, .long v11), (6, .int (0 : Int32))]) [2, 3, 1, 0] rfl ?_
    exact t_X10_goneDigest_l96 X 300 σ10 x3 v11 (0 : Int32) h
  · refine r_ldc2 (v := 31) X dX10_goneDigest_12 bw_831 ?_
    refine r_lload X dX10_goneDigest_15 2 rfl ?_
    refine r_lmul X dX10_goneDigest_17 ?_
    refine r_aload_n X dX10_goneDigest_18 rfl 0 rfl ?_
    refine r_iload_n X dX10_goneDigest_19 rfl 1 rfl ?_
    refine r_iload X dX10_goneDigest_20 3 rfl ?_
    obtain ⟨r17, σ18, hc_21, h⟩ := bnd_of h
    refine r_callV (As := [.int x3, .int x6]) (rest := [.long ((31 : Int64) * x4)]) (st2 := [.int r17, .long ((31 : Int64) * x4)]) (c := 0) X cv_X10_156 (c_X10_goneOf M.2.1 hc_21) rfl (ci := 9) rfl fM_0 rfl rfl (Nat.le_of_ble_eq_true rfl) ⟨⟨rfl, rfl⟩, by decide, by decide⟩ dX10_goneDigest_22 ⟨rfl, rfl⟩ rfl ?_
    refine r_i2l X dX10_goneDigest_25 ?_
    refine r_ladd X dX10_goneDigest_26 ?_
    refine r_letl h (fun v19 h => ?_)
    refine r_lstore X [(4, .long v19), (0, .ref (ad 0)), (3, .int x3), (6, .int x6)] dX10_goneDigest_27 (by decide) rfl ?_
    refine r_iinc X [(6, .int (x6 + (1 : Int32))), (4, .long v19), (0, .ref (ad 0)), (3, .int x3)] dX10_goneDigest_29 3 rfl (v := x6 + (1 : Int32)) (by rfl) (by decide) rfl ?_
    refine r_letv h (fun v20 h => ?_)
    refine r_goto X 6 dX10_goneDigest_32 (by decide) ?_
    refine r_sub (lv' := [(0, .ref (ad 0)), (3, .int x3), (4, .long v19), (6, .int v20)]) [2, 3, 1, 0] rfl ?_
    exact hk6 σ18 x3 v19 v20 h
theorem t_X10_goneDigest_l6 {M : am_M} {D : va_G} {cT : Nat → ClassId} {ad : Nat → Nat} (X : am_X M (D, cT, ad, NM, LM) cX10_goneDigest RX10 7 (some .long)) {z : Int64 × Sg} (n : Nat) : ∀ (σ : Sg) (x3 : Int32) (x4 : Int64) (x6 : Int32), f_X10_goneDigest_l6 n σ x3 x4 x6 = some z → am_At M { frames := 10, cells := 0, slots := 0, locals := 229 } (D, cT, ad, NM, LM) (amQl M (D, cT, ad, NM, LM) z) 7 6 [(0, .ref (ad 0)), (3, .int x3), (4, .long x4), (6, .int x6)] [] σ := by
  induction n with
  | zero =>
    intro σ x3 x4 x6 h
    have h2 : (none : Option (Int64 × Sg)) = some z := h
    cases h2
  | succ n ih =>
    intro σ x3 x4 x6 h
    exact t_X10_goneDigest_b6 X (k6 := f_X10_goneDigest_l6 n) ih σ x3 x4 x6 h
set_option maxRecDepth 100000 in
set_option maxHeartbeats 4000000 in
theorem c_X10_goneDigest (l : Launch) {σ : Sg} {a1 : Int64} {a3 : Int32} {z : Int64 × Sg} (h : f_X10_goneDigest σ a1 a3 = some z) : am_Met l yX10_goneDigest cX10_goneDigest 7 (some .long) { frames := 10, cells := 0, slots := 0, locals := 229 } NM LM (fun ad => [.ref (ad 0), .long a1, .int a3]) σ z.2 (fun _ => some (.long z.1)) := by
  refine am_enter (by decide +kernel) (fun ad => Nat.le_of_ble_eq_true rfl) (fun M D cT ad hl X => ?_)
  subst hl
  refine r_lv (lv' := [(0, .ref (ad 0)), (1, .long a1), (3, .int a3)]) rfl ?_
  unfold f_X10_goneDigest at h
  refine r_lload_n X dX10_goneDigest_0 rfl 1 rfl ?_
  refine r_lstore X [(4, .long a1), (0, .ref (ad 0)), (1, .long a1), (3, .int a3)] dX10_goneDigest_1 (by decide) rfl ?_
  refine r_iconst (v := 0) X dX10_goneDigest_3 (by decide) ?_
  refine r_istore X [(6, .int (0 : Int32)), (4, .long a1), (0, .ref (ad 0)), (1, .long a1), (3, .int a3)] dX10_goneDigest_4 (by decide) rfl ?_
  refine r_sub (lv' := [(0, .ref (ad 0)), (3, .int a3), (4, .long a1), (6, .int (0 : Int32))]) [2, 4, 1, 0] rfl ?_
  exact t_X10_goneDigest_l6 X 300 σ a3 a1 (0 : Int32) h
set_option maxRecDepth 100000 in
set_option maxHeartbeats 4000000 in
theorem t_X10_digest_b147 {M : am_M} {D : va_G} {cT : Nat → ClassId} {ad : Nat → Nat} (X : am_X M (D, cT, ad, NM, LM) cX10_digest RX10 4 (some .long)) {z : Int64 × Sg} {k147 : Sg → Int64 → Int32 → Option (Int64 × Sg)} (hk147 : ∀ (σ : Sg) (x1 : Int64) (x3 : Int32), k147 σ x1 x3 = some z → am_At M { frames := 11, cells := 0, slots := 0, locals := 255 } (D, cT, ad, NM, LM) (amQl M (D, cT, ad, NM, LM) z) 4 147 [(0, .ref (ad 0)), (1, .long x1), (3, .int x3)] [] σ) (σ : Sg) (x1 : Int64) (x3 : Int32) (h : f_X10_digest_b147 k147 σ x1 x3 = some z) : am_At M { frames := 11, cells := 0, slots := 0, locals := 255 } (D, cT, ad, NM, LM) (amQl M (D, cT, ad, NM, LM) z) 4 147 [(0, .ref (ad 0)), (1, .long x1), (3, .int x3)] [] σ := by
  unfold f_X10_digest_b147 at h
  refine r_iload_n X dX10_digest_147 rfl 2 rfl ?_
  refine r_bipush (v := 6) X dX10_digest_148 (by decide) ?_
  refine r_icmp_ge X 187 dX10_digest_150 (by decide) h (fun h => ?_) (fun h => ?_)
  · refine r_ldc2 (v := 31) X dX10_digest_187 bw_831 ?_
    refine r_lload_n X dX10_digest_190 rfl 1 rfl ?_
    refine r_lmul X dX10_digest_191 ?_
    refine r_aload_n X dX10_digest_192 rfl 0 rfl ?_
    refine r_iconst (v := 0) X dX10_digest_193 (by decide) ?_
    obtain ⟨r1, σ2, hc_43, h⟩ := bnd_of h
    refine r_callV (As := [.int (0 : Int32)]) (rest := [.long ((31 : Int64) * x1)]) (st2 := [.int r1, .long ((31 : Int64) * x1)]) (c := 0) X cv_X10_263 (c_X10_firstOf M.2.1 hc_43) rfl (ci := 9) rfl fM_0 rfl rfl (Nat.le_of_ble_eq_true rfl) ⟨⟨rfl, rfl⟩, by decide, by decide⟩ dX10_digest_194 ⟨rfl, rfl⟩ rfl ?_
    refine r_i2l X dX10_digest_197 ?_
    refine r_ladd X dX10_digest_198 ?_
    refine r_letl h (fun v3 h => ?_)
    refine r_lstore_n X [(1, .long v3), (0, .ref (ad 0)), (3, .int x3)] dX10_digest_199 rfl (by decide) rfl ?_
    refine r_ldc2 (v := 31) X dX10_digest_200 bw_831 ?_
    refine r_lload_n X dX10_digest_203 rfl 0 rfl ?_
    refine r_lmul X dX10_digest_204 ?_
    refine r_aload_n X dX10_digest_205 rfl 1 rfl ?_
    refine r_iconst (v := 1) X dX10_digest_206 (by decide) ?_
    obtain ⟨r4, σ5, hc_42, h⟩ := bnd_of h
    refine r_callV (As := [.int (1 : Int32)]) (rest := [.long ((31 : Int64) * v3)]) (st2 := [.int r4, .long ((31 : Int64) * v3)]) (c := 0) X cv_X10_263 (c_X10_firstOf M.2.1 hc_42) rfl (ci := 9) rfl fM_0 rfl rfl (Nat.le_of_ble_eq_true rfl) ⟨⟨rfl, rfl⟩, by decide, by decide⟩ dX10_digest_207 ⟨rfl, rfl⟩ rfl ?_
    refine r_i2l X dX10_digest_210 ?_
    refine r_ladd X dX10_digest_211 ?_
    refine r_letl h (fun v6 h => ?_)
    refine r_lstore_n X [(1, .long v6), (0, .ref (ad 0)), (3, .int x3)] dX10_digest_212 rfl (by decide) rfl ?_
    refine r_ldc2 (v := 31) X dX10_digest_213 bw_831 ?_
    refine r_lload_n X dX10_digest_216 rfl 0 rfl ?_
    refine r_lmul X dX10_digest_217 ?_
    refine r_aload_n X dX10_digest_218 rfl 1 rfl ?_
    obtain ⟨r7, σ8, hc_41, h⟩ := bnd_of h
    refine r_callV (As := []) (rest := [.long ((31 : Int64) * v6)]) (st2 := [.int r7, .long ((31 : Int64) * v6)]) (c := 0) X cv_X10_266 (c_X10_gateOf M.2.1 hc_41) rfl (ci := 9) rfl fM_0 rfl rfl (Nat.le_of_ble_eq_true rfl) ⟨⟨rfl, rfl⟩, by decide, by decide⟩ dX10_digest_219 ⟨rfl, rfl⟩ rfl ?_
    refine r_i2l X dX10_digest_222 ?_
    refine r_ladd X dX10_digest_223 ?_
    refine r_letl h (fun v9 h => ?_)
    refine r_lstore_n X [(1, .long v9), (0, .ref (ad 0)), (3, .int x3)] dX10_digest_224 rfl (by decide) rfl ?_
    refine r_ldc2 (v := 31) X dX10_digest_225 bw_831 ?_
    refine r_lload_n X dX10_digest_228 rfl 0 rfl ?_
    refine r_lmul X dX10_digest_229 ?_
    refine r_aload_n X dX10_digest_230 rfl 1 rfl ?_
    obtain ⟨r10, σ11, hc_40, h⟩ := bnd_of h
    refine r_callV (As := []) (rest := [.long ((31 : Int64) * v9)]) (st2 := [.int r10, .long ((31 : Int64) * v9)]) (c := 0) X cv_X10_269 (c_X10_restOf M.2.1 hc_40) rfl (ci := 9) rfl fM_0 rfl rfl (Nat.le_of_ble_eq_true rfl) ⟨⟨rfl, rfl⟩, by decide, by decide⟩ dX10_digest_231 ⟨rfl, rfl⟩ rfl ?_
    refine r_i2l X dX10_digest_234 ?_
    refine r_ladd X dX10_digest_235 ?_
    refine r_letl h (fun v12 h => ?_)
    refine r_lstore_n X [(1, .long v12), (0, .ref (ad 0)), (3, .int x3)] dX10_digest_236 rfl (by decide) rfl ?_
    refine r_ldc2 (v := 31) X dX10_digest_237 bw_831 ?_
    refine r_lload_n X dX10_digest_240 rfl 0 rfl ?_
    refine r_lmul X dX10_digest_241 ?_
    refine r_aload_n X dX10_digest_242 rfl 1 rfl ?_
    refine r_bipush (v := 8) X dX10_digest_243 (by decide) ?_
    refine r_iconst (v := 0) X dX10_digest_245 (by decide) ?_
    obtain ⟨r13, σ14, hc_39, h⟩ := bnd_of h
    refine r_callV (As := [.int (8 : Int32), .int (0 : Int32)]) (rest := [.long ((31 : Int64) * v12)]) (st2 := [.int r13, .long ((31 : Int64) * v12)]) (c := 0) X cv_X10_278 (c_X10_ploughOf M.2.1 hc_39) rfl (ci := 9) rfl fM_0 rfl rfl (Nat.le_of_ble_eq_true rfl) ⟨⟨rfl, rfl⟩, by decide, by decide⟩ dX10_digest_246 ⟨rfl, rfl⟩ rfl ?_
    refine r_i2l X dX10_digest_249 ?_
    refine r_ladd X dX10_digest_250 ?_
    refine r_letl h (fun v15 h => ?_)
    refine r_lstore_n X [(1, .long v15), (0, .ref (ad 0)), (3, .int x3)] dX10_digest_251 rfl (by decide) rfl ?_
    refine r_ldc2 (v := 31) X dX10_digest_252 bw_831 ?_
    refine r_lload_n X dX10_digest_255 rfl 0 rfl ?_
    refine r_lmul X dX10_digest_256 ?_
    refine r_aload_n X dX10_digest_257 rfl 1 rfl ?_
    refine r_bipush (v := 8) X dX10_digest_258 (by decide) ?_
    refine r_iconst (v := 1) X dX10_digest_260 (by decide) ?_
    obtain ⟨r16, σ17, hc_38, h⟩ := bnd_of h
    refine r_callV (As := [.int (8 : Int32), .int (1 : Int32)]) (rest := [.long ((31 : Int64) * v15)]) (st2 := [.int r16, .long ((31 : Int64) * v15)]) (c := 0) X cv_X10_278 (c_X10_ploughOf M.2.1 hc_38) rfl (ci := 9) rfl fM_0 rfl rfl (Nat.le_of_ble_eq_true rfl) ⟨⟨rfl, rfl⟩, by decide, by decide⟩ dX10_digest_261 ⟨rfl, rfl⟩ rfl ?_
    refine r_i2l X dX10_digest_264 ?_
    refine r_ladd X dX10_digest_265 ?_
    refine r_letl h (fun v18 h => ?_)
    refine r_lstore_n X [(1, .long v18), (0, .ref (ad 0)), (3, .int x3)] dX10_digest_266 rfl (by decide) rfl ?_
    refine r_aload_n X dX10_digest_267 rfl 1 rfl ?_
    obtain ⟨r19, σ20, hc_37, h⟩ := bnd_of h
    refine r_callV (As := []) (rest := []) (st2 := [.int r19]) (c := 0) X cv_X10_293 (c_X10_spareBy M.2.1 hc_37) rfl (ci := 9) rfl fM_0 rfl rfl (Nat.le_of_ble_eq_true rfl) ⟨⟨rfl, rfl⟩, by decide, by decide⟩ dX10_digest_268 ⟨rfl, rfl⟩ rfl ?_
    refine r_istore_n X [(3, .int r19), (1, .long v18), (0, .ref (ad 0))] dX10_digest_271 rfl (by decide) rfl ?_
    refine r_ldc2 (v := 31) X dX10_digest_272 bw_831 ?_
    refine r_lload_n X dX10_digest_275 rfl 1 rfl ?_
    refine r_lmul X dX10_digest_276 ?_
    refine r_iload_n X dX10_digest_277 rfl 0 rfl ?_
    refine r_i2l X dX10_digest_278 ?_
    refine r_ladd X dX10_digest_279 ?_
    refine r_letl h (fun v21 h => ?_)
    refine r_lstore_n X [(1, .long v21), (3, .int r19), (0, .ref (ad 0))] dX10_digest_280 rfl (by decide) rfl ?_
    refine r_ldc2 (v := 31) X dX10_digest_281 bw_831 ?_
    refine r_lload_n X dX10_digest_284 rfl 0 rfl ?_
    refine r_lmul X dX10_digest_285 ?_
    refine r_aload_n X dX10_digest_286 rfl 2 rfl ?_
    refine r_iload_n X dX10_digest_287 rfl 1 rfl ?_
    refine r_iconst (v := 0) X dX10_digest_288 (by decide) ?_
    obtain ⟨r22, σ23, hc_36, h⟩ := bnd_of h
    refine r_callV (As := [.int r19, .int (0 : Int32)]) (rest := [.long ((31 : Int64) * v21)]) (st2 := [.int r22, .long ((31 : Int64) * v21)]) (c := 0) X cv_X10_296 (c_X10_ofRow M.2.1 hc_36) rfl (ci := 9) rfl fM_0 rfl rfl (Nat.le_of_ble_eq_true rfl) ⟨⟨rfl, rfl⟩, by decide, by decide⟩ dX10_digest_289 ⟨rfl, rfl⟩ rfl ?_
    refine r_i2l X dX10_digest_292 ?_
    refine r_ladd X dX10_digest_293 ?_
    refine r_letl h (fun v24 h => ?_)
    refine r_lstore_n X [(1, .long v24), (3, .int r19), (0, .ref (ad 0))] dX10_digest_294 rfl (by decide) rfl ?_
    refine r_ldc2 (v := 31) X dX10_digest_295 bw_831 ?_
    refine r_lload_n X dX10_digest_298 rfl 0 rfl ?_
    refine r_lmul X dX10_digest_299 ?_
    refine r_aload_n X dX10_digest_300 rfl 2 rfl ?_
    obtain ⟨r25, σ26, hc_35, h⟩ := bnd_of h
    refine r_callV (As := []) (rest := [.long ((31 : Int64) * v24)]) (st2 := [.int r25, .long ((31 : Int64) * v24)]) (c := 0) X cv_X10_306 (c_X10_neverNow M.2.1 hc_35) rfl (ci := 9) rfl fM_0 rfl rfl (Nat.le_of_ble_eq_true rfl) ⟨⟨rfl, rfl⟩, by decide, by decide⟩ dX10_digest_301 ⟨rfl, rfl⟩ rfl ?_
    refine r_i2l X dX10_digest_304 ?_
    refine r_ladd X dX10_digest_305 ?_
    refine r_letl h (fun v27 h => ?_)
    refine r_lstore_n X [(1, .long v27), (3, .int r19), (0, .ref (ad 0))] dX10_digest_306 rfl (by decide) rfl ?_
    refine r_ldc2 (v := 31) X dX10_digest_307 bw_831 ?_
    refine r_lload_n X dX10_digest_310 rfl 0 rfl ?_
    refine r_lmul X dX10_digest_311 ?_
    refine r_aload_n X dX10_digest_312 rfl 2 rfl ?_
    refine r_bipush (v := 7) X dX10_digest_313 (by decide) ?_
    refine r_bipush (v := 6) X dX10_digest_315 (by decide) ?_
    refine r_iconst (v := 0) X dX10_digest_317 (by decide) ?_
    obtain ⟨r28, σ29, hc_34, h⟩ := bnd_of h
    refine r_callV (As := [.int (7 : Int32), .int (6 : Int32), .int (0 : Int32)]) (rest := [.long ((31 : Int64) * v27)]) (st2 := [.int r28, .long ((31 : Int64) * v27)]) (c := 0) X cv_X10_331 (c_X10_yearsOf M.2.1 hc_34) rfl (ci := 9) rfl fM_0 rfl rfl (Nat.le_of_ble_eq_true rfl) ⟨⟨rfl, rfl⟩, by decide, by decide⟩ dX10_digest_318 ⟨rfl, rfl⟩ rfl ?_
    refine r_i2l X dX10_digest_321 ?_
    refine r_ladd X dX10_digest_322 ?_
    refine r_letl h (fun v30 h => ?_)
    refine r_lstore_n X [(1, .long v30), (3, .int r19), (0, .ref (ad 0))] dX10_digest_323 rfl (by decide) rfl ?_
    refine r_ldc2 (v := 31) X dX10_digest_324 bw_831 ?_
    refine r_lload_n X dX10_digest_327 rfl 0 rfl ?_
    refine r_lmul X dX10_digest_328 ?_
    refine r_aload_n X dX10_digest_329 rfl 2 rfl ?_
    refine r_bipush (v := 7) X dX10_digest_330 (by decide) ?_
    refine r_bipush (v := 6) X dX10_digest_332 (by decide) ?_
    refine r_iconst (v := 1) X dX10_digest_334 (by decide) ?_
    obtain ⟨r31, σ32, hc_33, h⟩ := bnd_of h
    refine r_callV (As := [.int (7 : Int32), .int (6 : Int32), .int (1 : Int32)]) (rest := [.long ((31 : Int64) * v30)]) (st2 := [.int r31, .long ((31 : Int64) * v30)]) (c := 0) X cv_X10_331 (c_X10_yearsOf M.2.1 hc_33) rfl (ci := 9) rfl fM_0 rfl rfl (Nat.le_of_ble_eq_true rfl) ⟨⟨rfl, rfl⟩, by decide, by decide⟩ dX10_digest_335 ⟨rfl, rfl⟩ rfl ?_
    refine r_i2l X dX10_digest_338 ?_
    refine r_ladd X dX10_digest_339 ?_
    exact r_lretz X rfl dX10_digest_340 h
  · refine r_ldc2 (v := 31) X dX10_digest_153 bw_831 ?_
    refine r_lload_n X dX10_digest_156 rfl 1 rfl ?_
    refine r_lmul X dX10_digest_157 ?_
    refine r_aload_n X dX10_digest_158 rfl 0 rfl ?_
    refine r_iload_n X dX10_digest_159 rfl 2 rfl ?_
    refine r_iconst (v := 0) X dX10_digest_160 (by decide) ?_
    obtain ⟨r44, σ45, hc_52, h⟩ := bnd_of h
    refine r_callV (As := [.int x3, .int (0 : Int32)]) (rest := [.long ((31 : Int64) * x1)]) (st2 := [.int r44, .long ((31 : Int64) * x1)]) (c := 0) X cv_X10_287 (c_X10_whenOf M.2.1 hc_52) rfl (ci := 9) rfl fM_0 rfl rfl (Nat.le_of_ble_eq_true rfl) ⟨⟨rfl, rfl⟩, by decide, by decide⟩ dX10_digest_161 ⟨rfl, rfl⟩ rfl ?_
    refine r_i2l X dX10_digest_164 ?_
    refine r_ladd X dX10_digest_165 ?_
    refine r_letl h (fun v46 h => ?_)
    refine r_lstore_n X [(1, .long v46), (0, .ref (ad 0)), (3, .int x3)] dX10_digest_166 rfl (by decide) rfl ?_
    refine r_ldc2 (v := 31) X dX10_digest_167 bw_831 ?_
    refine r_lload_n X dX10_digest_170 rfl 0 rfl ?_
    refine r_lmul X dX10_digest_171 ?_
    refine r_aload_n X dX10_digest_172 rfl 1 rfl ?_
    refine r_iload_n X dX10_digest_173 rfl 2 rfl ?_
    refine r_iconst (v := 1) X dX10_digest_174 (by decide) ?_
    obtain ⟨r47, σ48, hc_51, h⟩ := bnd_of h
    refine r_callV (As := [.int x3, .int (1 : Int32)]) (rest := [.long ((31 : Int64) * v46)]) (st2 := [.int r47, .long ((31 : Int64) * v46)]) (c := 0) X cv_X10_287 (c_X10_whenOf M.2.1 hc_51) rfl (ci := 9) rfl fM_0 rfl rfl (Nat.le_of_ble_eq_true rfl) ⟨⟨rfl, rfl⟩, by decide, by decide⟩ dX10_digest_175 ⟨rfl, rfl⟩ rfl ?_
    refine r_i2l X dX10_digest_178 ?_
    refine r_ladd X dX10_digest_179 ?_
    refine r_letl h (fun v49 h => ?_)
    refine r_lstore_n X [(1, .long v49), (0, .ref (ad 0)), (3, .int x3)] dX10_digest_180 rfl (by decide) rfl ?_
    refine r_iinc X [(3, .int (x3 + (1 : Int32))), (1, .long v49), (0, .ref (ad 0))] dX10_digest_181 2 rfl (v := x3 + (1 : Int32)) (by rfl) (by decide) rfl ?_
    refine r_letv h (fun v50 h => ?_)
    refine r_goto X 147 dX10_digest_184 (by decide) ?_
    refine r_sub (lv' := [(0, .ref (ad 0)), (1, .long v49), (3, .int v50)]) [2, 1, 0] rfl ?_
    exact hk147 σ48 v49 v50 h
theorem t_X10_digest_l147 {M : am_M} {D : va_G} {cT : Nat → ClassId} {ad : Nat → Nat} (X : am_X M (D, cT, ad, NM, LM) cX10_digest RX10 4 (some .long)) {z : Int64 × Sg} (n : Nat) : ∀ (σ : Sg) (x1 : Int64) (x3 : Int32), f_X10_digest_l147 n σ x1 x3 = some z → am_At M { frames := 11, cells := 0, slots := 0, locals := 255 } (D, cT, ad, NM, LM) (amQl M (D, cT, ad, NM, LM) z) 4 147 [(0, .ref (ad 0)), (1, .long x1), (3, .int x3)] [] σ := by
  induction n with
  | zero =>
    intro σ x1 x3 h
    have h2 : (none : Option (Int64 × Sg)) = some z := h
    cases h2
  | succ n ih =>
    intro σ x1 x3 h
    exact t_X10_digest_b147 X (k147 := f_X10_digest_l147 n) ih σ x1 x3 h
set_option maxRecDepth 100000 in
set_option maxHeartbeats 4000000 in
theorem t_X10_digest_b105 {M : am_M} {D : va_G} {cT : Nat → ClassId} {ad : Nat → Nat} (X : am_X M (D, cT, ad, NM, LM) cX10_digest RX10 4 (some .long)) {z : Int64 × Sg} {k105 : Sg → Int64 → Int32 → Option (Int64 × Sg)} (hk105 : ∀ (σ : Sg) (x1 : Int64) (x3 : Int32), k105 σ x1 x3 = some z → am_At M { frames := 11, cells := 0, slots := 0, locals := 255 } (D, cT, ad, NM, LM) (amQl M (D, cT, ad, NM, LM) z) 4 105 [(0, .ref (ad 0)), (1, .long x1), (3, .int x3)] [] σ) (σ : Sg) (x1 : Int64) (x3 : Int32) (h : f_X10_digest_b105 k105 σ x1 x3 = some z) : am_At M { frames := 11, cells := 0, slots := 0, locals := 255 } (D, cT, ad, NM, LM) (amQl M (D, cT, ad, NM, LM) z) 4 105 [(0, .ref (ad 0)), (1, .long x1), (3, .int x3)] [] σ := by
  unfold f_X10_digest_b105 at h
  refine r_iload_n X dX10_digest_105 rfl 2 rfl ?_
  refine r_bipush (v := 24) X dX10_digest_106 (by decide) ?_
  refine r_icmp_ge X 145 dX10_digest_108 (by decide) h (fun h => ?_) (fun h => ?_)
  · refine r_iconst (v := 0) X dX10_digest_145 (by decide) ?_
    refine r_istore_n X [(3, .int (0 : Int32)), (0, .ref (ad 0)), (1, .long x1)] dX10_digest_146 rfl (by decide) rfl ?_
    refine r_sub (lv' := [(0, .ref (ad 0)), (1, .long x1), (3, .int (0 : Int32))]) [1, 2, 0] rfl ?_
    exact t_X10_digest_l147 X 300 σ x1 (0 : Int32) h
  · refine r_ldc2 (v := 31) X dX10_digest_111 bw_831 ?_
    refine r_lload_n X dX10_digest_114 rfl 1 rfl ?_
    refine r_lmul X dX10_digest_115 ?_
    refine r_aload_n X dX10_digest_116 rfl 0 rfl ?_
    refine r_iload_n X dX10_digest_117 rfl 2 rfl ?_
    refine r_iconst (v := 0) X dX10_digest_118 (by decide) ?_
    obtain ⟨r1, σ2, hc_9, h⟩ := bnd_of h
    refine r_callV (As := [.int x3, .int (0 : Int32)]) (rest := [.long ((31 : Int64) * x1)]) (st2 := [.int r1, .long ((31 : Int64) * x1)]) (c := 0) X cv_X10_247 (c_X10_upOf M.2.1 hc_9) rfl (ci := 9) rfl fM_0 rfl rfl (Nat.le_of_ble_eq_true rfl) ⟨⟨rfl, rfl⟩, by decide, by decide⟩ dX10_digest_119 ⟨rfl, rfl⟩ rfl ?_
    refine r_i2l X dX10_digest_122 ?_
    refine r_ladd X dX10_digest_123 ?_
    refine r_letl h (fun v3 h => ?_)
    refine r_lstore_n X [(1, .long v3), (0, .ref (ad 0)), (3, .int x3)] dX10_digest_124 rfl (by decide) rfl ?_
    refine r_ldc2 (v := 31) X dX10_digest_125 bw_831 ?_
    refine r_lload_n X dX10_digest_128 rfl 0 rfl ?_
    refine r_lmul X dX10_digest_129 ?_
    refine r_aload_n X dX10_digest_130 rfl 1 rfl ?_
    refine r_iload_n X dX10_digest_131 rfl 2 rfl ?_
    refine r_iconst (v := 1) X dX10_digest_132 (by decide) ?_
    obtain ⟨r4, σ5, hc_8, h⟩ := bnd_of h
    refine r_callV (As := [.int x3, .int (1 : Int32)]) (rest := [.long ((31 : Int64) * v3)]) (st2 := [.int r4, .long ((31 : Int64) * v3)]) (c := 0) X cv_X10_247 (c_X10_upOf M.2.1 hc_8) rfl (ci := 9) rfl fM_0 rfl rfl (Nat.le_of_ble_eq_true rfl) ⟨⟨rfl, rfl⟩, by decide, by decide⟩ dX10_digest_133 ⟨rfl, rfl⟩ rfl ?_
    refine r_i2l X dX10_digest_136 ?_
    refine r_ladd X dX10_digest_137 ?_
    refine r_letl h (fun v6 h => ?_)
    refine r_lstore_n X [(1, .long v6), (0, .ref (ad 0)), (3, .int x3)] dX10_digest_138 rfl (by decide) rfl ?_
    refine r_iinc X [(3, .int (x3 + (1 : Int32))), (1, .long v6), (0, .ref (ad 0))] dX10_digest_139 2 rfl (v := x3 + (1 : Int32)) (by rfl) (by decide) rfl ?_
    refine r_letv h (fun v7 h => ?_)
    refine r_goto X 105 dX10_digest_142 (by decide) ?_
    refine r_sub (lv' := [(0, .ref (ad 0)), (1, .long v6), (3, .int v7)]) [2, 1, 0] rfl ?_
    exact hk105 σ5 v6 v7 h
theorem t_X10_digest_l105 {M : am_M} {D : va_G} {cT : Nat → ClassId} {ad : Nat → Nat} (X : am_X M (D, cT, ad, NM, LM) cX10_digest RX10 4 (some .long)) {z : Int64 × Sg} (n : Nat) : ∀ (σ : Sg) (x1 : Int64) (x3 : Int32), f_X10_digest_l105 n σ x1 x3 = some z → am_At M { frames := 11, cells := 0, slots := 0, locals := 255 } (D, cT, ad, NM, LM) (amQl M (D, cT, ad, NM, LM) z) 4 105 [(0, .ref (ad 0)), (1, .long x1), (3, .int x3)] [] σ := by
  induction n with
  | zero =>
    intro σ x1 x3 h
    have h2 : (none : Option (Int64 × Sg)) = some z := h
    cases h2
  | succ n ih =>
    intro σ x1 x3 h
    exact t_X10_digest_b105 X (k105 := f_X10_digest_l105 n) ih σ x1 x3 h
set_option maxRecDepth 100000 in
set_option maxHeartbeats 4000000 in
theorem t_X10_digest_b82 {M : am_M} {D : va_G} {cT : Nat → ClassId} {ad : Nat → Nat} (X : am_X M (D, cT, ad, NM, LM) cX10_digest RX10 4 (some .long)) {z : Int64 × Sg} {k82 : Sg → Int64 → Int32 → Option (Int64 × Sg)} (hk82 : ∀ (σ : Sg) (x1 : Int64) (x3 : Int32), k82 σ x1 x3 = some z → am_At M { frames := 11, cells := 0, slots := 0, locals := 255 } (D, cT, ad, NM, LM) (amQl M (D, cT, ad, NM, LM) z) 4 82 [(0, .ref (ad 0)), (1, .long x1), (3, .int x3)] [] σ) (σ : Sg) (x1 : Int64) (x3 : Int32) (h : f_X10_digest_b82 k82 σ x1 x3 = some z) : am_At M { frames := 11, cells := 0, slots := 0, locals := 255 } (D, cT, ad, NM, LM) (amQl M (D, cT, ad, NM, LM) z) 4 82 [(0, .ref (ad 0)), (1, .long x1), (3, .int x3)] [] σ := by
  unfold f_X10_digest_b82 at h
  refine r_iload_n X dX10_digest_82 rfl 2 rfl ?_
  refine r_aload_n X dX10_digest_83 rfl 0 rfl ?_
  refine r_getI X fg_X10_130_X10 fM_0 rfl dX10_digest_84 ?_
  refine r_icmp_ge X 103 dX10_digest_87 (by decide) h (fun h => ?_) (fun h => ?_)
  · refine r_iconst (v := 0) X dX10_digest_103 (by decide) ?_
    refine r_istore_n X [(3, .int (0 : Int32)), (0, .ref (ad 0)), (1, .long x1)] dX10_digest_104 rfl (by decide) rfl ?_
    refine r_sub (lv' := [(0, .ref (ad 0)), (1, .long x1), (3, .int (0 : Int32))]) [1, 2, 0] rfl ?_
    exact t_X10_digest_l105 X 300 σ x1 (0 : Int32) h
  · refine r_aload_n X dX10_digest_90 rfl 0 rfl ?_
    refine r_lload_n X dX10_digest_91 rfl 1 rfl ?_
    refine r_iload_n X dX10_digest_92 rfl 2 rfl ?_
    obtain ⟨r1, σ2, hc_4, h⟩ := bnd_of h
    refine r_callV (As := [.long x1, .int x3]) (rest := []) (st2 := [.long r1]) (c := 0) X cv_X10_363 (c_X10_goneDigest M.2.1 hc_4) rfl (ci := 9) rfl fM_0 rfl rfl (Nat.le_of_ble_eq_true rfl) ⟨⟨rfl, rfl⟩, by decide, by decide⟩ dX10_digest_93 ⟨rfl, rfl⟩ rfl ?_
    refine r_lstore_n X [(1, .long r1), (0, .ref (ad 0)), (3, .int x3)] dX10_digest_96 rfl (by decide) rfl ?_
    refine r_iinc X [(3, .int (x3 + (1 : Int32))), (1, .long r1), (0, .ref (ad 0))] dX10_digest_97 2 rfl (v := x3 + (1 : Int32)) (by rfl) (by decide) rfl ?_
    refine r_letv h (fun v3 h => ?_)
    refine r_goto X 82 dX10_digest_100 (by decide) ?_
    refine r_sub (lv' := [(0, .ref (ad 0)), (1, .long r1), (3, .int v3)]) [2, 1, 0] rfl ?_
    exact hk82 σ2 r1 v3 h
theorem t_X10_digest_l82 {M : am_M} {D : va_G} {cT : Nat → ClassId} {ad : Nat → Nat} (X : am_X M (D, cT, ad, NM, LM) cX10_digest RX10 4 (some .long)) {z : Int64 × Sg} (n : Nat) : ∀ (σ : Sg) (x1 : Int64) (x3 : Int32), f_X10_digest_l82 n σ x1 x3 = some z → am_At M { frames := 11, cells := 0, slots := 0, locals := 255 } (D, cT, ad, NM, LM) (amQl M (D, cT, ad, NM, LM) z) 4 82 [(0, .ref (ad 0)), (1, .long x1), (3, .int x3)] [] σ := by
  induction n with
  | zero =>
    intro σ x1 x3 h
    have h2 : (none : Option (Int64 × Sg)) = some z := h
    cases h2
  | succ n ih =>
    intro σ x1 x3 h
    exact t_X10_digest_b82 X (k82 := f_X10_digest_l82 n) ih σ x1 x3 h
set_option maxRecDepth 100000 in
set_option maxHeartbeats 4000000 in
theorem t_X10_digest_b59 {M : am_M} {D : va_G} {cT : Nat → ClassId} {ad : Nat → Nat} (X : am_X M (D, cT, ad, NM, LM) cX10_digest RX10 4 (some .long)) {z : Int64 × Sg} {k59 : Sg → Int64 → Int32 → Option (Int64 × Sg)} (hk59 : ∀ (σ : Sg) (x1 : Int64) (x3 : Int32), k59 σ x1 x3 = some z → am_At M { frames := 11, cells := 0, slots := 0, locals := 255 } (D, cT, ad, NM, LM) (amQl M (D, cT, ad, NM, LM) z) 4 59 [(0, .ref (ad 0)), (1, .long x1), (3, .int x3)] [] σ) (σ : Sg) (x1 : Int64) (x3 : Int32) (h : f_X10_digest_b59 k59 σ x1 x3 = some z) : am_At M { frames := 11, cells := 0, slots := 0, locals := 255 } (D, cT, ad, NM, LM) (amQl M (D, cT, ad, NM, LM) z) 4 59 [(0, .ref (ad 0)), (1, .long x1), (3, .int x3)] [] σ := by
  unfold f_X10_digest_b59 at h
  refine r_iload_n X dX10_digest_59 rfl 2 rfl ?_
  refine r_aload_n X dX10_digest_60 rfl 0 rfl ?_
  refine r_getI X fg_X10_134_X10 fM_0 rfl dX10_digest_61 ?_
  refine r_icmp_ge X 80 dX10_digest_64 (by decide) h (fun h => ?_) (fun h => ?_)
  · refine r_iconst (v := 0) X dX10_digest_80 (by decide) ?_
    refine r_istore_n X [(3, .int (0 : Int32)), (0, .ref (ad 0)), (1, .long x1)] dX10_digest_81 rfl (by decide) rfl ?_
    refine r_sub (lv' := [(0, .ref (ad 0)), (1, .long x1), (3, .int (0 : Int32))]) [1, 2, 0] rfl ?_
    exact t_X10_digest_l82 X 300 σ x1 (0 : Int32) h
  · refine r_aload_n X dX10_digest_67 rfl 0 rfl ?_
    refine r_lload_n X dX10_digest_68 rfl 1 rfl ?_
    refine r_iload_n X dX10_digest_69 rfl 2 rfl ?_
    obtain ⟨r1, σ2, hc_4, h⟩ := bnd_of h
    refine r_callV (As := [.long x1, .int x3]) (rest := []) (st2 := [.long r1]) (c := 0) X cv_X10_359 (c_X10_needDigest M.2.1 hc_4) rfl (ci := 9) rfl fM_0 rfl rfl (Nat.le_of_ble_eq_true rfl) ⟨⟨rfl, rfl⟩, by decide, by decide⟩ dX10_digest_70 ⟨rfl, rfl⟩ rfl ?_
    refine r_lstore_n X [(1, .long r1), (0, .ref (ad 0)), (3, .int x3)] dX10_digest_73 rfl (by decide) rfl ?_
    refine r_iinc X [(3, .int (x3 + (1 : Int32))), (1, .long r1), (0, .ref (ad 0))] dX10_digest_74 2 rfl (v := x3 + (1 : Int32)) (by rfl) (by decide) rfl ?_
    refine r_letv h (fun v3 h => ?_)
    refine r_goto X 59 dX10_digest_77 (by decide) ?_
    refine r_sub (lv' := [(0, .ref (ad 0)), (1, .long r1), (3, .int v3)]) [2, 1, 0] rfl ?_
    exact hk59 σ2 r1 v3 h
theorem t_X10_digest_l59 {M : am_M} {D : va_G} {cT : Nat → ClassId} {ad : Nat → Nat} (X : am_X M (D, cT, ad, NM, LM) cX10_digest RX10 4 (some .long)) {z : Int64 × Sg} (n : Nat) : ∀ (σ : Sg) (x1 : Int64) (x3 : Int32), f_X10_digest_l59 n σ x1 x3 = some z → am_At M { frames := 11, cells := 0, slots := 0, locals := 255 } (D, cT, ad, NM, LM) (amQl M (D, cT, ad, NM, LM) z) 4 59 [(0, .ref (ad 0)), (1, .long x1), (3, .int x3)] [] σ := by
  induction n with
  | zero =>
    intro σ x1 x3 h
    have h2 : (none : Option (Int64 × Sg)) = some z := h
    cases h2
  | succ n ih =>
    intro σ x1 x3 h
    exact t_X10_digest_b59 X (k59 := f_X10_digest_l59 n) ih σ x1 x3 h
set_option maxRecDepth 100000 in
set_option maxHeartbeats 4000000 in
theorem t_X10_digest_b6 {M : am_M} {D : va_G} {cT : Nat → ClassId} {ad : Nat → Nat} (X : am_X M (D, cT, ad, NM, LM) cX10_digest RX10 4 (some .long)) {z : Int64 × Sg} {k6 : Sg → Int64 → Int32 → Option (Int64 × Sg)} (hk6 : ∀ (σ : Sg) (x1 : Int64) (x3 : Int32), k6 σ x1 x3 = some z → am_At M { frames := 11, cells := 0, slots := 0, locals := 255 } (D, cT, ad, NM, LM) (amQl M (D, cT, ad, NM, LM) z) 4 6 [(0, .ref (ad 0)), (1, .long x1), (3, .int x3)] [] σ) (σ : Sg) (x1 : Int64) (x3 : Int32) (h : f_X10_digest_b6 k6 σ x1 x3 = some z) : am_At M { frames := 11, cells := 0, slots := 0, locals := 255 } (D, cT, ad, NM, LM) (amQl M (D, cT, ad, NM, LM) z) 4 6 [(0, .ref (ad 0)), (1, .long x1), (3, .int x3)] [] σ := by
  unfold f_X10_digest_b6 at h
  refine r_iload_n X dX10_digest_6 rfl 2 rfl ?_
  refine r_bipush (v := 8) X dX10_digest_7 (by decide) ?_
  refine r_icmp_ge X 31 dX10_digest_9 (by decide) h (fun h => ?_) (fun h => ?_)
  · refine r_ldc2 (v := 31) X dX10_digest_31 bw_831 ?_
    refine r_lload_n X dX10_digest_34 rfl 1 rfl ?_
    refine r_lmul X dX10_digest_35 ?_
    refine r_aload_n X dX10_digest_36 rfl 0 rfl ?_
    refine r_iconst (v := 0) X dX10_digest_37 (by decide) ?_
    obtain ⟨r1, σ2, hc_8, h⟩ := bnd_of h
    refine r_callV (As := [.int (0 : Int32)]) (rest := [.long ((31 : Int64) * x1)]) (st2 := [.int r1, .long ((31 : Int64) * x1)]) (c := 0) X cv_X10_147 (c_X10_faultOf M.2.1 hc_8) rfl (ci := 9) rfl fM_0 rfl rfl (Nat.le_of_ble_eq_true rfl) ⟨⟨rfl, rfl⟩, by decide, by decide⟩ dX10_digest_38 ⟨rfl, rfl⟩ rfl ?_
    refine r_i2l X dX10_digest_41 ?_
    refine r_ladd X dX10_digest_42 ?_
    refine r_letl h (fun v3 h => ?_)
    refine r_lstore_n X [(1, .long v3), (0, .ref (ad 0)), (3, .int x3)] dX10_digest_43 rfl (by decide) rfl ?_
    refine r_ldc2 (v := 31) X dX10_digest_44 bw_831 ?_
    refine r_lload_n X dX10_digest_47 rfl 0 rfl ?_
    refine r_lmul X dX10_digest_48 ?_
    refine r_aload_n X dX10_digest_49 rfl 1 rfl ?_
    refine r_iconst (v := 1) X dX10_digest_50 (by decide) ?_
    obtain ⟨r4, σ5, hc_7, h⟩ := bnd_of h
    refine r_callV (As := [.int (1 : Int32)]) (rest := [.long ((31 : Int64) * v3)]) (st2 := [.int r4, .long ((31 : Int64) * v3)]) (c := 0) X cv_X10_147 (c_X10_faultOf M.2.1 hc_7) rfl (ci := 9) rfl fM_0 rfl rfl (Nat.le_of_ble_eq_true rfl) ⟨⟨rfl, rfl⟩, by decide, by decide⟩ dX10_digest_51 ⟨rfl, rfl⟩ rfl ?_
    refine r_i2l X dX10_digest_54 ?_
    refine r_ladd X dX10_digest_55 ?_
    refine r_letl h (fun v6 h => ?_)
    refine r_lstore_n X [(1, .long v6), (0, .ref (ad 0)), (3, .int x3)] dX10_digest_56 rfl (by decide) rfl ?_
    refine r_iconst (v := 0) X dX10_digest_57 (by decide) ?_
    refine r_istore_n X [(3, .int (0 : Int32)), (1, .long v6), (0, .ref (ad 0))] dX10_digest_58 rfl (by decide) rfl ?_
    refine r_sub (lv' := [(0, .ref (ad 0)), (1, .long v6), (3, .int (0 : Int32))]) [2, 1, 0] rfl ?_
    exact t_X10_digest_l59 X 300 σ5 v6 (0 : Int32) h
  · refine r_ldc2 (v := 31) X dX10_digest_12 bw_831 ?_
    refine r_lload_n X dX10_digest_15 rfl 1 rfl ?_
    refine r_lmul X dX10_digest_16 ?_
    refine r_aload_n X dX10_digest_17 rfl 0 rfl ?_
    refine r_iload_n X dX10_digest_18 rfl 2 rfl ?_
    obtain ⟨r9, σ10, hc_13, h⟩ := bnd_of h
    refine r_callV (As := [.int x3]) (rest := [.long ((31 : Int64) * x1)]) (st2 := [.int r9, .long ((31 : Int64) * x1)]) (c := 0) X cv_X10_356 (c_X10_count M.2.1 hc_13) rfl (ci := 9) rfl fM_0 rfl rfl (Nat.le_of_ble_eq_true rfl) ⟨⟨rfl, rfl⟩, by decide, by decide⟩ dX10_digest_19 ⟨rfl, rfl⟩ rfl ?_
    refine r_i2l X dX10_digest_22 ?_
    refine r_ladd X dX10_digest_23 ?_
    refine r_letl h (fun v11 h => ?_)
    refine r_lstore_n X [(1, .long v11), (0, .ref (ad 0)), (3, .int x3)] dX10_digest_24 rfl (by decide) rfl ?_
    refine r_iinc X [(3, .int (x3 + (1 : Int32))), (1, .long v11), (0, .ref (ad 0))] dX10_digest_25 2 rfl (v := x3 + (1 : Int32)) (by rfl) (by decide) rfl ?_
    refine r_letv h (fun v12 h => ?_)
    refine r_goto X 6 dX10_digest_28 (by decide) ?_
    refine r_sub (lv' := [(0, .ref (ad 0)), (1, .long v11), (3, .int v12)]) [2, 1, 0] rfl ?_
    exact hk6 σ10 v11 v12 h
theorem t_X10_digest_l6 {M : am_M} {D : va_G} {cT : Nat → ClassId} {ad : Nat → Nat} (X : am_X M (D, cT, ad, NM, LM) cX10_digest RX10 4 (some .long)) {z : Int64 × Sg} (n : Nat) : ∀ (σ : Sg) (x1 : Int64) (x3 : Int32), f_X10_digest_l6 n σ x1 x3 = some z → am_At M { frames := 11, cells := 0, slots := 0, locals := 255 } (D, cT, ad, NM, LM) (amQl M (D, cT, ad, NM, LM) z) 4 6 [(0, .ref (ad 0)), (1, .long x1), (3, .int x3)] [] σ := by
  induction n with
  | zero =>
    intro σ x1 x3 h
    have h2 : (none : Option (Int64 × Sg)) = some z := h
    cases h2
  | succ n ih =>
    intro σ x1 x3 h
    exact t_X10_digest_b6 X (k6 := f_X10_digest_l6 n) ih σ x1 x3 h
set_option maxRecDepth 100000 in
set_option maxHeartbeats 4000000 in
theorem c_X10_digest (l : Launch) {σ : Sg} {z : Int64 × Sg} (h : f_X10_digest σ = some z) : am_Met l yX10_digest cX10_digest 4 (some .long) { frames := 11, cells := 0, slots := 0, locals := 255 } NM LM (fun ad => [.ref (ad 0)]) σ z.2 (fun _ => some (.long z.1)) := by
  refine am_enter (by decide +kernel) (fun ad => Nat.le_of_ble_eq_true rfl) (fun M D cT ad hl X => ?_)
  subst hl
  refine r_lv (lv' := [(0, .ref (ad 0))]) rfl ?_
  unfold f_X10_digest at h
  refine r_ldc2 (v := 17) X dX10_digest_0 bw_830 ?_
  refine r_lstore_n X [(1, .long (17 : Int64)), (0, .ref (ad 0))] dX10_digest_3 rfl (by decide) rfl ?_
  refine r_iconst (v := 0) X dX10_digest_4 (by decide) ?_
  refine r_istore_n X [(3, .int (0 : Int32)), (1, .long (17 : Int64)), (0, .ref (ad 0))] dX10_digest_5 rfl (by decide) rfl ?_
  refine r_sub (lv' := [(0, .ref (ad 0)), (1, .long (17 : Int64)), (3, .int (0 : Int32))]) [2, 1, 0] rfl ?_
  exact t_X10_digest_l6 X 300 σ (17 : Int64) (0 : Int32) h
