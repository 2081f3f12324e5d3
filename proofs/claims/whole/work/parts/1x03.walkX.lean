set_option maxRecDepth 100000 in
set_option maxHeartbeats 4000000 in
theorem t_X9_rest_b35 {M : am_M} {D : va_G} {cT : Nat → ClassId} {ad : Nat → Nat} (X : am_X M (D, cT, ad, NX, LX) cX9_rest RX9 4 (some .int)) {z : Int32 × Sg} {k9 : Sg → Int32 → Int32 → Option (Int32 × Sg)} (hk9 : ∀ (σ : Sg) (x2 : Int32) (x3 : Int32), k9 σ x2 x3 = some z → am_At M { frames := 4, cells := 0, slots := 0, locals := 95 } (D, cT, ad, NX, LX) (amQi M (D, cT, ad, NX, LX) z) 4 9 [(0, .ref (ad 0)), (1, .ref (ad 28)), (2, .int x2), (3, .int x3)] [] σ) (σ : Sg) (x2 : Int32) (x3 : Int32) (h : f_X9_rest_b35 k9 σ x2 x3 = some z) : am_At M { frames := 4, cells := 0, slots := 0, locals := 95 } (D, cT, ad, NX, LX) (amQi M (D, cT, ad, NX, LX) z) 4 35 [(0, .ref (ad 0)), (1, .ref (ad 28)), (2, .int x2), (3, .int x3)] [] σ := by
  unfold f_X9_rest_b35 at h
  refine r_iinc X [(3, .int (x3 + (1 : Int32))), (0, .ref (ad 0)), (1, .ref (ad 28)), (2, .int x2)] dX9_rest_35 3 rfl (v := x3 + (1 : Int32)) (by rfl) (by decide) rfl ?_
  refine r_letv h (fun v1 h => ?_)
  refine r_goto X 9 dX9_rest_38 (by decide) ?_
  refine r_sub (lv' := [(0, .ref (ad 0)), (1, .ref (ad 28)), (2, .int x2), (3, .int v1)]) [1, 2, 3, 0] rfl ?_
  exact hk9 σ x2 v1 h
set_option maxRecDepth 100000 in
set_option maxHeartbeats 4000000 in
theorem t_X9_rest_b9 {M : am_M} {D : va_G} {cT : Nat → ClassId} {ad : Nat → Nat} (X : am_X M (D, cT, ad, NX, LX) cX9_rest RX9 4 (some .int)) {z : Int32 × Sg} {k9 : Sg → Int32 → Int32 → Option (Int32 × Sg)} (hk9 : ∀ (σ : Sg) (x2 : Int32) (x3 : Int32), k9 σ x2 x3 = some z → am_At M { frames := 4, cells := 0, slots := 0, locals := 95 } (D, cT, ad, NX, LX) (amQi M (D, cT, ad, NX, LX) z) 4 9 [(0, .ref (ad 0)), (1, .ref (ad 28)), (2, .int x2), (3, .int x3)] [] σ) (σ : Sg) (x2 : Int32) (x3 : Int32) (h : f_X9_rest_b9 k9 σ x2 x3 = some z) : am_At M { frames := 4, cells := 0, slots := 0, locals := 95 } (D, cT, ad, NX, LX) (amQi M (D, cT, ad, NX, LX) z) 4 9 [(0, .ref (ad 0)), (1, .ref (ad 28)), (2, .int x2), (3, .int x3)] [] σ := by
  unfold f_X9_rest_b9 at h
  refine r_iload_n X dX9_rest_9 rfl 3 rfl ?_
  refine r_aload_n X dX9_rest_10 rfl 0 rfl ?_
  refine r_getR (c1 := 5) X fg_X9_24_X9 fX_0 rfl dX9_rest_11 ?_
  refine r_getI X fg_X9_115_X2 fX_5 rfl dX9_rest_14 ?_
  refine r_icmp_ge X 41 dX9_rest_17 (by decide) h (fun h => ?_) (fun h => ?_)
  · refine r_iload_n X dX9_rest_41 rfl 2 rfl ?_
    exact r_iretz X rfl dX9_rest_42 h
  · refine r_aload_n X dX9_rest_20 rfl 1 rfl ?_
    refine r_getR (c1 := 31) X fg_X9_208_X0 fX_28 rfl dX9_rest_21 ?_
    refine r_iload_n X dX9_rest_24 rfl 3 rfl ?_
    refine r_iald X fX_31 dX9_rest_25 h (fun h => ?_)
    refine r_if_ne X 35 dX9_rest_26 (by decide) h (fun h => ?_) (fun h => ?_)
    · refine r_iload_n X dX9_rest_29 rfl 2 rfl ?_
      refine r_iconst (v := 1) X dX9_rest_30 (by decide) ?_
      refine r_iload_n X dX9_rest_31 rfl 3 rfl ?_
      refine r_ishl X dX9_rest_32 ?_
      refine r_ior X dX9_rest_33 ?_
      refine r_leti h (fun v1 h => ?_)
      refine r_istore_n X [(2, .int v1), (0, .ref (ad 0)), (1, .ref (ad 28)), (3, .int x3)] dX9_rest_34 rfl (by decide) rfl ?_
      refine r_sub (lv' := [(0, .ref (ad 0)), (1, .ref (ad 28)), (2, .int v1), (3, .int x3)]) [1, 2, 0, 3] rfl ?_
      exact t_X9_rest_b35 X hk9 σ v1 x3 h
    · exact t_X9_rest_b35 X hk9 σ x2 x3 h
theorem t_X9_rest_l9 {M : am_M} {D : va_G} {cT : Nat → ClassId} {ad : Nat → Nat} (X : am_X M (D, cT, ad, NX, LX) cX9_rest RX9 4 (some .int)) {z : Int32 × Sg} (n : Nat) : ∀ (σ : Sg) (x2 : Int32) (x3 : Int32), f_X9_rest_l9 n σ x2 x3 = some z → am_At M { frames := 4, cells := 0, slots := 0, locals := 95 } (D, cT, ad, NX, LX) (amQi M (D, cT, ad, NX, LX) z) 4 9 [(0, .ref (ad 0)), (1, .ref (ad 28)), (2, .int x2), (3, .int x3)] [] σ := by
  induction n with
  | zero =>
    intro σ x2 x3 h
    have h2 : (none : Option (Int32 × Sg)) = some z := h
    cases h2
  | succ n ih =>
    intro σ x2 x3 h
    exact t_X9_rest_b9 X (k9 := f_X9_rest_l9 n) ih σ x2 x3 h
set_option maxRecDepth 100000 in
set_option maxHeartbeats 4000000 in
theorem c_X9_rest (l : Launch) {σ : Sg} {z : Int32 × Sg} (h : f_X9_rest σ = some z) : am_Met l yX9_rest cX9_rest 4 (some .int) { frames := 4, cells := 0, slots := 0, locals := 95 } NX LX (fun ad => [.ref (ad 0)]) σ z.2 (fun _ => some (.int z.1)) := by
  refine am_enter (by decide +kernel) (fun ad => Nat.le_of_ble_eq_true rfl) (fun M D cT ad hl X => ?_)
  subst hl
  refine r_lv (lv' := [(0, .ref (ad 0))]) rfl ?_
  unfold f_X9_rest at h
  refine r_aload_n X dX9_rest_0 rfl 0 rfl ?_
  obtain ⟨r1, σ2, hc_3, h⟩ := bnd_of h
  have h0 := gd_eq h
  clear h
  obtain ⟨rfl, h⟩ := h0
  refine r_callV (As := []) (rest := []) (st2 := [.ref (ad 28)]) (c := 0) X cv_X9_163 (c_X9_asTold M.2.1 hc_3) rfl (ci := 8) rfl fX_0 rfl rfl (Nat.le_of_ble_eq_true rfl) ⟨⟨rfl, rfl⟩, by decide, by decide⟩ dX9_rest_1 ⟨rfl, rfl⟩ rfl ?_
  refine r_astore_n X [(1, .ref (ad 28)), (0, .ref (ad 0))] dX9_rest_4 rfl (by decide) rfl ?_
  refine r_iconst (v := 0) X dX9_rest_5 (by decide) ?_
  refine r_istore_n X [(2, .int (0 : Int32)), (1, .ref (ad 28)), (0, .ref (ad 0))] dX9_rest_6 rfl (by decide) rfl ?_
  refine r_iconst (v := 0) X dX9_rest_7 (by decide) ?_
  refine r_istore_n X [(3, .int (0 : Int32)), (2, .int (0 : Int32)), (1, .ref (ad 28)), (0, .ref (ad 0))] dX9_rest_8 rfl (by decide) rfl ?_
  refine r_sub (lv' := [(0, .ref (ad 0)), (1, .ref (ad 28)), (2, .int (0 : Int32)), (3, .int (0 : Int32))]) [3, 2, 1, 0] rfl ?_
  exact t_X9_rest_l9 X 300 σ2 (0 : Int32) (0 : Int32) h
set_option maxRecDepth 100000 in
set_option maxHeartbeats 4000000 in
theorem t_X0_howManyMet_b25 {M : am_M} {D : va_G} {cT : Nat → ClassId} {ad : Nat → Nat} (X : am_X M (D, cT, ad, NX, LX) cX0_howManyMet RX0 4 (some .int)) {c0 : Nat} (hc0 : Is_X0 c0) {z : Int32 × Sg} {k4 : Sg → Int32 → Int32 → Option (Int32 × Sg)} (hk4 : ∀ (σ : Sg) (x2 : Int32) (x3 : Int32), k4 σ x2 x3 = some z → am_At M { frames := 0, cells := 0, slots := 0, locals := 0 } (D, cT, ad, NX, LX) (amQi M (D, cT, ad, NX, LX) z) 4 4 [(0, .ref (ad c0)), (1, .ref (ad 10)), (2, .int x2), (3, .int x3)] [] σ) (σ : Sg) (x2 : Int32) (x3 : Int32) (h : f_X0_howManyMet_b25 c0 k4 σ x2 x3 = some z) : am_At M { frames := 0, cells := 0, slots := 0, locals := 0 } (D, cT, ad, NX, LX) (amQi M (D, cT, ad, NX, LX) z) 4 25 [(0, .ref (ad c0)), (1, .ref (ad 10)), (2, .int x2), (3, .int x3)] [] σ := by
  unfold f_X0_howManyMet_b25 at h
  refine r_iinc X [(3, .int (x3 + (1 : Int32))), (0, .ref (ad c0)), (1, .ref (ad 10)), (2, .int x2)] dX0_howManyMet_25 3 rfl (v := x3 + (1 : Int32)) (by rfl) (by decide) rfl ?_
  refine r_letv h (fun v1 h => ?_)
  refine r_goto X 4 dX0_howManyMet_28 (by decide) ?_
  refine r_sub (lv' := [(0, .ref (ad c0)), (1, .ref (ad 10)), (2, .int x2), (3, .int v1)]) [1, 2, 3, 0] rfl ?_
  exact hk4 σ x2 v1 h
set_option maxRecDepth 100000 in
set_option maxHeartbeats 4000000 in
theorem t_X0_howManyMet_b4 {M : am_M} {D : va_G} {cT : Nat → ClassId} {ad : Nat → Nat} (X : am_X M (D, cT, ad, NX, LX) cX0_howManyMet RX0 4 (some .int)) {c0 : Nat} (hc0 : Is_X0 c0) {z : Int32 × Sg} {k4 : Sg → Int32 → Int32 → Option (Int32 × Sg)} (hk4 : ∀ (σ : Sg) (x2 : Int32) (x3 : Int32), k4 σ x2 x3 = some z → am_At M { frames := 0, cells := 0, slots := 0, locals := 0 } (D, cT, ad, NX, LX) (amQi M (D, cT, ad, NX, LX) z) 4 4 [(0, .ref (ad c0)), (1, .ref (ad 10)), (2, .int x2), (3, .int x3)] [] σ) (σ : Sg) (x2 : Int32) (x3 : Int32) (h : f_X0_howManyMet_b4 c0 k4 σ x2 x3 = some z) : am_At M { frames := 0, cells := 0, slots := 0, locals := 0 } (D, cT, ad, NX, LX) (amQi M (D, cT, ad, NX, LX) z) 4 4 [(0, .ref (ad c0)), (1, .ref (ad 10)), (2, .int x2), (3, .int x3)] [] σ := by
  unfold f_X0_howManyMet_b4 at h
  refine r_iload_n X dX0_howManyMet_4 rfl 3 rfl ?_
  refine r_aload_n X dX0_howManyMet_5 rfl 1 rfl ?_
  refine r_getI X fg_X0_89_X4 fX_10 rfl dX0_howManyMet_6 ?_
  refine r_icmp_ge X 31 dX0_howManyMet_9 (by decide) h (fun h => ?_) (fun h => ?_)
  · refine r_iload_n X dX0_howManyMet_31 rfl 2 rfl ?_
    exact r_iretz X rfl dX0_howManyMet_32 h
  · refine r_aload_n X dX0_howManyMet_12 rfl 0 rfl ?_
    refine r_getR (c1 := (c0 + 1)) X fg_X0_9_X0 hc0.1 rfl dX0_howManyMet_13 ?_
    refine r_iload_n X dX0_howManyMet_16 rfl 3 rfl ?_
    refine r_iald X hc0.2.1 dX0_howManyMet_17 h (fun h => ?_)
    refine r_iconst (v := -1) X dX0_howManyMet_18 (by decide) ?_
    refine r_icmp_eq X 25 dX0_howManyMet_19 (by decide) h (fun h => ?_) (fun h => ?_)
    · exact t_X0_howManyMet_b25 X hc0 hk4 σ x2 x3 h
    · refine r_iinc X [(2, .int (x2 + (1 : Int32))), (0, .ref (ad c0)), (1, .ref (ad 10)), (3, .int x3)] dX0_howManyMet_22 2 rfl (v := x2 + (1 : Int32)) (by rfl) (by decide) rfl ?_
      refine r_letv h (fun v1 h => ?_)
      refine r_sub (lv' := [(0, .ref (ad c0)), (1, .ref (ad 10)), (2, .int v1), (3, .int x3)]) [1, 2, 0, 3] rfl ?_
      exact t_X0_howManyMet_b25 X hc0 hk4 σ v1 x3 h
theorem t_X0_howManyMet_l4 {M : am_M} {D : va_G} {cT : Nat → ClassId} {ad : Nat → Nat} (X : am_X M (D, cT, ad, NX, LX) cX0_howManyMet RX0 4 (some .int)) {c0 : Nat} (hc0 : Is_X0 c0) {z : Int32 × Sg} (n : Nat) : ∀ (σ : Sg) (x2 : Int32) (x3 : Int32), f_X0_howManyMet_l4 c0 n σ x2 x3 = some z → am_At M { frames := 0, cells := 0, slots := 0, locals := 0 } (D, cT, ad, NX, LX) (amQi M (D, cT, ad, NX, LX) z) 4 4 [(0, .ref (ad c0)), (1, .ref (ad 10)), (2, .int x2), (3, .int x3)] [] σ := by
  induction n with
  | zero =>
    intro σ x2 x3 h
    have h2 : (none : Option (Int32 × Sg)) = some z := h
    cases h2
  | succ n ih =>
    intro σ x2 x3 h
    exact t_X0_howManyMet_b4 X hc0 (k4 := f_X0_howManyMet_l4 c0 n) ih σ x2 x3 h
set_option maxRecDepth 100000 in
set_option maxHeartbeats 4000000 in
theorem c_X0_howManyMet (l : Launch) {c0 : Nat} (hc0 : Is_X0 c0) {σ : Sg} {z : Int32 × Sg} (h : f_X0_howManyMet c0 σ = some z) : am_Met l yX0_howManyMet cX0_howManyMet 4 (some .int) { frames := 0, cells := 0, slots := 0, locals := 0 } NX LX (fun ad => [.ref (ad c0), .ref (ad 10)]) σ z.2 (fun _ => some (.int z.1)) := by
  refine am_enter (by decide +kernel) (fun ad => Nat.le_of_ble_eq_true rfl) (fun M D cT ad hl X => ?_)
  subst hl
  refine r_lv (lv' := [(0, .ref (ad c0)), (1, .ref (ad 10))]) rfl ?_
  unfold f_X0_howManyMet at h
  refine r_iconst (v := 0) X dX0_howManyMet_0 (by decide) ?_
  refine r_istore_n X [(2, .int (0 : Int32)), (0, .ref (ad c0)), (1, .ref (ad 10))] dX0_howManyMet_1 rfl (by decide) rfl ?_
  refine r_iconst (v := 0) X dX0_howManyMet_2 (by decide) ?_
  refine r_istore_n X [(3, .int (0 : Int32)), (2, .int (0 : Int32)), (0, .ref (ad c0)), (1, .ref (ad 10))] dX0_howManyMet_3 rfl (by decide) rfl ?_
  refine r_sub (lv' := [(0, .ref (ad c0)), (1, .ref (ad 10)), (2, .int (0 : Int32)), (3, .int (0 : Int32))]) [2, 3, 1, 0] rfl ?_
  exact t_X0_howManyMet_l4 X hc0 300 σ (0 : Int32) (0 : Int32) h
set_option maxRecDepth 100000 in
set_option maxHeartbeats 4000000 in
theorem c_X9_metWithPlough (l : Launch) {σ : Sg} {a1 : Int32} {a2 : Int32} {z : Int32 × Sg} (h : f_X9_metWithPlough σ a1 a2 = some z) : am_Met l yX9_metWithPlough cX9_metWithPlough 3 (some .int) { frames := 3, cells := 0, slots := 0, locals := 75 } NX LX (fun ad => [.ref (ad 0), .int a1, .int a2]) σ z.2 (fun _ => some (.int z.1)) := by
  refine am_enter (by decide +kernel) (fun ad => Nat.le_of_ble_eq_true rfl) (fun M D cT ad hl X => ?_)
  subst hl
  refine r_lv (lv' := [(0, .ref (ad 0)), (1, .int a1), (2, .int a2)]) rfl ?_
  unfold f_X9_metWithPlough at h
  refine r_aload_n X dX9_metWithPlough_0 rfl 0 rfl ?_
  refine r_getR (c1 := 14) X fg_X9_38_X9 fX_0 rfl dX9_metWithPlough_1 ?_
  refine r_iconst (v := 0) X dX9_metWithPlough_4 (by decide) ?_
  refine r_iload_n X dX9_metWithPlough_5 rfl 1 rfl ?_
  refine r_iload_n X dX9_metWithPlough_6 rfl 2 rfl ?_
  obtain ⟨r1, σ2, hc_12, h⟩ := bnd_of h
  refine r_callV (As := [.int (0 : Int32), .int a1, .int a2]) (rest := []) (st2 := []) (c := 14) X cv_X9_139 (c_X1_add M.2.1 iX1_14 hc_12) rfl (ci := 1) rfl fX_14 rfl rfl (Nat.le_of_ble_eq_true rfl) ⟨⟨rfl, rfl⟩, by decide, by decide⟩ dX9_metWithPlough_7 ⟨rfl, rfl⟩ rfl ?_
  refine r_aload_n X dX9_metWithPlough_10 rfl 0 rfl ?_
  refine r_getR (c1 := 35) X fg_X9_59_X9 fX_0 rfl dX9_metWithPlough_11 ?_
  refine r_aload_n X dX9_metWithPlough_14 rfl 0 rfl ?_
  refine r_getR (c1 := 5) X fg_X9_24_X9 fX_0 rfl dX9_metWithPlough_15 ?_
  refine r_aload_n X dX9_metWithPlough_18 rfl 0 rfl ?_
  refine r_getR (c1 := 10) X fg_X9_31_X9 fX_0 rfl dX9_metWithPlough_19 ?_
  refine r_aload_n X dX9_metWithPlough_22 rfl 0 rfl ?_
  refine r_getR (c1 := 14) X fg_X9_38_X9 fX_0 rfl dX9_metWithPlough_23 ?_
  refine r_iconst (v := -1) X dX9_metWithPlough_26 (by decide) ?_
  obtain ⟨r3, σ4, hc_11, h⟩ := bnd_of h
  refine r_callV (As := [.ref (ad 5), .ref (ad 10), .ref (ad 14), .int (-1 : Int32)]) (rest := []) (st2 := []) (c := 35) X cv_X9_235 (c_X0_run M.2.1 iX0_35 iX1_14 hc_11) rfl (ci := 0) rfl fX_35 rfl rfl (Nat.le_of_ble_eq_true rfl) ⟨⟨rfl, rfl⟩, by decide, by decide⟩ dX9_metWithPlough_27 ⟨rfl, rfl⟩ rfl ?_
  refine r_aload_n X dX9_metWithPlough_30 rfl 0 rfl ?_
  refine r_getR (c1 := 14) X fg_X9_38_X9 fX_0 rfl dX9_metWithPlough_31 ?_
  obtain ⟨r5, σ6, hc_10, h⟩ := bnd_of h
  refine r_callV (As := []) (rest := []) (st2 := []) (c := 14) X cv_X9_145 (c_X1_dropLast M.2.1 iX1_14 hc_10) rfl (ci := 1) rfl fX_14 rfl rfl (Nat.le_of_ble_eq_true rfl) ⟨⟨rfl, rfl⟩, by decide, by decide⟩ dX9_metWithPlough_34 ⟨rfl, rfl⟩ rfl ?_
  refine r_aload_n X dX9_metWithPlough_37 rfl 0 rfl ?_
  refine r_getR (c1 := 35) X fg_X9_59_X9 fX_0 rfl dX9_metWithPlough_38 ?_
  refine r_aload_n X dX9_metWithPlough_41 rfl 0 rfl ?_
  refine r_getR (c1 := 10) X fg_X9_31_X9 fX_0 rfl dX9_metWithPlough_42 ?_
  obtain ⟨r7, σ8, hc_9, h⟩ := bnd_of h
  refine r_callV (As := [.ref (ad 10)]) (rest := []) (st2 := [.int r7]) (c := 35) X cv_X9_266 (c_X0_howManyMet M.2.1 iX0_35 hc_9) rfl (ci := 0) rfl fX_35 rfl rfl (Nat.le_of_ble_eq_true rfl) ⟨⟨rfl, rfl⟩, by decide, by decide⟩ dX9_metWithPlough_45 ⟨rfl, rfl⟩ rfl ?_
  exact r_iretz X rfl dX9_metWithPlough_48 h
set_option maxRecDepth 100000 in
set_option maxHeartbeats 4000000 in
theorem t_X9_bestFurrow_b35 {M : am_M} {D : va_G} {cT : Nat → ClassId} {ad : Nat → Nat} (X : am_X M (D, cT, ad, NX, LX) cX9_bestFurrow RX9 6 (some .int)) {z : Int32 × Sg} {k7 : Sg → Int32 → Int32 → Int32 → Int32 → Option (Int32 × Sg)} (hk7 : ∀ (σ : Sg) (x1 : Int32) (x2 : Int32) (x3 : Int32) (x4 : Int32), k7 σ x1 x2 x3 x4 = some z → am_At M { frames := 4, cells := 0, slots := 0, locals := 97 } (D, cT, ad, NX, LX) (amQi M (D, cT, ad, NX, LX) z) 6 7 [(0, .ref (ad 0)), (1, .int x1), (2, .int x2), (3, .int x3), (4, .int x4)] [] σ) (σ : Sg) (x1 : Int32) (x2 : Int32) (x3 : Int32) (x4 : Int32) (h : f_X9_bestFurrow_b35 k7 σ x1 x2 x3 x4 = some z) : am_At M { frames := 4, cells := 0, slots := 0, locals := 97 } (D, cT, ad, NX, LX) (amQi M (D, cT, ad, NX, LX) z) 6 35 [(0, .ref (ad 0)), (1, .int x1), (2, .int x2), (3, .int x3), (4, .int x4)] [] σ := by
  unfold f_X9_bestFurrow_b35 at h
  refine r_iinc X [(4, .int (x4 + (1 : Int32))), (0, .ref (ad 0)), (1, .int x1), (2, .int x2), (3, .int x3)] dX9_bestFurrow_35 4 rfl (v := x4 + (1 : Int32)) (by rfl) (by decide) rfl ?_
  refine r_letv h (fun v1 h => ?_)
  refine r_goto X 7 dX9_bestFurrow_38 (by decide) ?_
  refine r_sub (lv' := [(0, .ref (ad 0)), (1, .int x1), (2, .int x2), (3, .int x3), (4, .int v1)]) [1, 2, 3, 4, 0] rfl ?_
  exact hk7 σ x1 x2 x3 v1 h
set_option maxRecDepth 100000 in
set_option maxHeartbeats 4000000 in
theorem t_X9_bestFurrow_b7 {M : am_M} {D : va_G} {cT : Nat → ClassId} {ad : Nat → Nat} (X : am_X M (D, cT, ad, NX, LX) cX9_bestFurrow RX9 6 (some .int)) {z : Int32 × Sg} {k7 : Sg → Int32 → Int32 → Int32 → Int32 → Option (Int32 × Sg)} (hk7 : ∀ (σ : Sg) (x1 : Int32) (x2 : Int32) (x3 : Int32) (x4 : Int32), k7 σ x1 x2 x3 x4 = some z → am_At M { frames := 4, cells := 0, slots := 0, locals := 97 } (D, cT, ad, NX, LX) (amQi M (D, cT, ad, NX, LX) z) 6 7 [(0, .ref (ad 0)), (1, .int x1), (2, .int x2), (3, .int x3), (4, .int x4)] [] σ) (σ : Sg) (x1 : Int32) (x2 : Int32) (x3 : Int32) (x4 : Int32) (h : f_X9_bestFurrow_b7 k7 σ x1 x2 x3 x4 = some z) : am_At M { frames := 4, cells := 0, slots := 0, locals := 97 } (D, cT, ad, NX, LX) (amQi M (D, cT, ad, NX, LX) z) 6 7 [(0, .ref (ad 0)), (1, .int x1), (2, .int x2), (3, .int x3), (4, .int x4)] [] σ := by
  unfold f_X9_bestFurrow_b7 at h
  refine r_iload X dX9_bestFurrow_7 4 rfl ?_
  refine r_bipush (v := 6) X dX9_bestFurrow_9 (by decide) ?_
  refine r_icmp_ge X 41 dX9_bestFurrow_11 (by decide) h (fun h => ?_) (fun h => ?_)
  · refine r_iload_n X dX9_bestFurrow_41 rfl 2 rfl ?_
    exact r_iretz X rfl dX9_bestFurrow_42 h
  · refine r_aload_n X dX9_bestFurrow_14 rfl 0 rfl ?_
    refine r_iload_n X dX9_bestFurrow_15 rfl 1 rfl ?_
    refine r_iload X dX9_bestFurrow_16 4 rfl ?_
    obtain ⟨r1, σ2, hc_3, h⟩ := bnd_of h
    refine r_callV (As := [.int x1, .int x4]) (rest := []) (st2 := [.int r1]) (c := 0) X cv_X9_214 (c_X9_metWithPlough M.2.1 hc_3) rfl (ci := 8) rfl fX_0 rfl rfl (Nat.le_of_ble_eq_true rfl) ⟨⟨rfl, rfl⟩, by decide, by decide⟩ dX9_bestFurrow_18 ⟨rfl, rfl⟩ rfl ?_
    refine r_istore X [(5, .int r1), (0, .ref (ad 0)), (1, .int x1), (2, .int x2), (3, .int x3), (4, .int x4)] dX9_bestFurrow_21 (by decide) rfl ?_
    refine r_iload X dX9_bestFurrow_23 0 rfl ?_
    refine r_iload_n X dX9_bestFurrow_25 rfl 4 rfl ?_
    refine r_icmp_le X 35 dX9_bestFurrow_26 (by decide) h (fun h => ?_) (fun h => ?_)
    · refine r_sub (lv' := [(0, .ref (ad 0)), (1, .int x1), (2, .int x2), (3, .int x3), (4, .int x4)]) [1, 2, 3, 4, 5] rfl ?_
      exact t_X9_bestFurrow_b35 X hk7 σ2 x1 x2 x3 x4 h
    · refine r_iload X dX9_bestFurrow_29 0 rfl ?_
      refine r_istore_n X [(3, .int r1), (5, .int r1), (0, .ref (ad 0)), (1, .int x1), (2, .int x2), (4, .int x4)] dX9_bestFurrow_31 rfl (by decide) rfl ?_
      refine r_iload X dX9_bestFurrow_32 5 rfl ?_
      refine r_istore_n X [(2, .int x4), (3, .int r1), (5, .int r1), (0, .ref (ad 0)), (1, .int x1), (4, .int x4)] dX9_bestFurrow_34 rfl (by decide) rfl ?_
      refine r_sub (lv' := [(0, .ref (ad 0)), (1, .int x1), (2, .int x4), (3, .int r1), (4, .int x4)]) [3, 4, 0, 1, 5] rfl ?_
      exact t_X9_bestFurrow_b35 X hk7 σ2 x1 x4 r1 x4 h
theorem t_X9_bestFurrow_l7 {M : am_M} {D : va_G} {cT : Nat → ClassId} {ad : Nat → Nat} (X : am_X M (D, cT, ad, NX, LX) cX9_bestFurrow RX9 6 (some .int)) {z : Int32 × Sg} (n : Nat) : ∀ (σ : Sg) (x1 : Int32) (x2 : Int32) (x3 : Int32) (x4 : Int32), f_X9_bestFurrow_l7 n σ x1 x2 x3 x4 = some z → am_At M { frames := 4, cells := 0, slots := 0, locals := 97 } (D, cT, ad, NX, LX) (amQi M (D, cT, ad, NX, LX) z) 6 7 [(0, .ref (ad 0)), (1, .int x1), (2, .int x2), (3, .int x3), (4, .int x4)] [] σ := by
  induction n with
  | zero =>
    intro σ x1 x2 x3 x4 h
    have h2 : (none : Option (Int32 × Sg)) = some z := h
    cases h2
  | succ n ih =>
    intro σ x1 x2 x3 x4 h
    exact t_X9_bestFurrow_b7 X (k7 := f_X9_bestFurrow_l7 n) ih σ x1 x2 x3 x4 h
set_option maxRecDepth 100000 in
set_option maxHeartbeats 4000000 in
theorem c_X9_bestFurrow (l : Launch) {σ : Sg} {a1 : Int32} {z : Int32 × Sg} (h : f_X9_bestFurrow σ a1 = some z) : am_Met l yX9_bestFurrow cX9_bestFurrow 6 (some .int) { frames := 4, cells := 0, slots := 0, locals := 97 } NX LX (fun ad => [.ref (ad 0), .int a1]) σ z.2 (fun _ => some (.int z.1)) := by
  refine am_enter (by decide +kernel) (fun ad => Nat.le_of_ble_eq_true rfl) (fun M D cT ad hl X => ?_)
  subst hl
  refine r_lv (lv' := [(0, .ref (ad 0)), (1, .int a1)]) rfl ?_
  unfold f_X9_bestFurrow at h
  refine r_iconst (v := 0) X dX9_bestFurrow_0 (by decide) ?_
  refine r_istore_n X [(2, .int (0 : Int32)), (0, .ref (ad 0)), (1, .int a1)] dX9_bestFurrow_1 rfl (by decide) rfl ?_
  refine r_iconst (v := -1) X dX9_bestFurrow_2 (by decide) ?_
  refine r_istore_n X [(3, .int (-1 : Int32)), (2, .int (0 : Int32)), (0, .ref (ad 0)), (1, .int a1)] dX9_bestFurrow_3 rfl (by decide) rfl ?_
  refine r_iconst (v := 0) X dX9_bestFurrow_4 (by decide) ?_
  refine r_istore X [(4, .int (0 : Int32)), (3, .int (-1 : Int32)), (2, .int (0 : Int32)), (0, .ref (ad 0)), (1, .int a1)] dX9_bestFurrow_5 (by decide) rfl ?_
  refine r_sub (lv' := [(0, .ref (ad 0)), (1, .int a1), (2, .int (0 : Int32)), (3, .int (-1 : Int32)), (4, .int (0 : Int32))]) [3, 4, 2, 1, 0] rfl ?_
  exact t_X9_bestFurrow_l7 X 300 σ a1 (0 : Int32) (-1 : Int32) (0 : Int32) h
set_option maxRecDepth 100000 in
set_option maxHeartbeats 4000000 in
theorem c_X9_plough (l : Launch) {σ : Sg} {a1 : Int32} {a2 : Int32} {z : Int32 × Sg} (h : f_X9_plough σ a1 a2 = some z) : am_Met l yX9_plough cX9_plough 4 (some .int) { frames := 5, cells := 0, slots := 0, locals := 122 } NX LX (fun ad => [.ref (ad 0), .int a1, .int a2]) σ z.2 (fun _ => some (.int z.1)) := by
  refine am_enter (by decide +kernel) (fun ad => Nat.le_of_ble_eq_true rfl) (fun M D cT ad hl X => ?_)
  subst hl
  refine r_lv (lv' := [(0, .ref (ad 0)), (1, .int a1), (2, .int a2)]) rfl ?_
  unfold f_X9_plough at h
  refine r_iload_n X dX9_plough_0 rfl 1 rfl ?_
  refine r_bipush (v := 24) X dX9_plough_1 (by decide) ?_
  obtain ⟨r1, σ2, hc_12, h⟩ := bnd_of h
  refine r_callS (As := [.int a1, .int (24 : Int32)]) (rest := []) (st2 := [.int r1]) X cv_X9_91 (c_X9_isBelow M.2.1 hc_12) rfl rfl rfl (Nat.le_of_ble_eq_true rfl) ⟨⟨rfl, rfl⟩, by decide, by decide⟩ dX9_plough_3 ⟨rfl, rfl⟩ rfl ?_
  refine r_if_eq X 17 dX9_plough_6 (by decide) h (fun h => ?_) (fun h => ?_)
  · refine r_bipush (v := -2) X dX9_plough_17 (by decide) ?_
    exact r_iretz X rfl dX9_plough_19 h
  · refine r_iload_n X dX9_plough_9 rfl 2 rfl ?_
    refine r_iconst (v := 2) X dX9_plough_10 (by decide) ?_
    obtain ⟨r3, σ4, hc_11, h⟩ := bnd_of h
    refine r_callS (As := [.int a2, .int (2 : Int32)]) (rest := []) (st2 := [.int r3]) X cv_X9_91 (c_X9_isBelow M.2.1 hc_11) rfl rfl rfl (Nat.le_of_ble_eq_true rfl) ⟨⟨rfl, rfl⟩, by decide, by decide⟩ dX9_plough_11 ⟨rfl, rfl⟩ rfl ?_
    refine r_if_ne X 20 dX9_plough_14 (by decide) h (fun h => ?_) (fun h => ?_)
    · refine r_bipush (v := -2) X dX9_plough_17 (by decide) ?_
      exact r_iretz X rfl dX9_plough_19 h
    · refine r_aload_n X dX9_plough_20 rfl 0 rfl ?_
      refine r_iload_n X dX9_plough_21 rfl 1 rfl ?_
      obtain ⟨r5, σ6, hc_10, h⟩ := bnd_of h
      refine r_callV (As := [.int a1]) (rest := []) (st2 := [.int r5]) (c := 0) X cv_X9_211 (c_X9_bestFurrow M.2.1 hc_10) rfl (ci := 8) rfl fX_0 rfl rfl (Nat.le_of_ble_eq_true rfl) ⟨⟨rfl, rfl⟩, by decide, by decide⟩ dX9_plough_22 ⟨rfl, rfl⟩ rfl ?_
      refine r_istore_n X [(3, .int r5), (0, .ref (ad 0)), (1, .int a1), (2, .int a2)] dX9_plough_25 rfl (by decide) rfl ?_
      refine r_iload_n X dX9_plough_26 rfl 3 rfl ?_
      refine r_if_ne X 34 dX9_plough_27 (by decide) h (fun h => ?_) (fun h => ?_)
      · refine r_iload_n X dX9_plough_30 rfl 0 rfl ?_
        refine r_goto X 40 dX9_plough_31 (by decide) ?_
        exact r_iretz X rfl dX9_plough_40 h
      · refine r_aload_n X dX9_plough_34 rfl 1 rfl ?_
        refine r_iload_n X dX9_plough_35 rfl 2 rfl ?_
        refine r_iload_n X dX9_plough_36 rfl 0 rfl ?_
        obtain ⟨r7, σ8, hc_9, h⟩ := bnd_of h
        refine r_callV (As := [.int a1, .int r5]) (rest := []) (st2 := [.int r7]) (c := 0) X cv_X9_214 (c_X9_metWithPlough M.2.1 hc_9) rfl (ci := 8) rfl fX_0 rfl rfl (Nat.le_of_ble_eq_true rfl) ⟨⟨rfl, rfl⟩, by decide, by decide⟩ dX9_plough_37 ⟨rfl, rfl⟩ rfl ?_
        exact r_iretz X rfl dX9_plough_40 h
set_option maxRecDepth 100000 in
set_option maxHeartbeats 4000000 in
theorem c_X9_nightsUpFrom (l : Launch) {σ : Sg} {a1 : Int32} {a2 : Int32} {z : Int32 × Sg} (h : f_X9_nightsUpFrom σ a1 a2 = some z) : am_Met l yX9_nightsUpFrom cX9_nightsUpFrom 5 (some .int) { frames := 3, cells := 0, slots := 0, locals := 75 } NX LX (fun ad => [.ref (ad 0), .int a1, .int a2]) σ z.2 (fun _ => some (.int z.1)) := by
  refine am_enter (by decide +kernel) (fun ad => Nat.le_of_ble_eq_true rfl) (fun M D cT ad hl X => ?_)
  subst hl
  refine r_lv (lv' := [(0, .ref (ad 0)), (1, .int a1), (2, .int a2)]) rfl ?_
  unfold f_X9_nightsUpFrom at h
  refine r_aload_n X dX9_nightsUpFrom_0 rfl 0 rfl ?_
  refine r_getR (c1 := 5) X fg_X9_24_X9 fX_0 rfl dX9_nightsUpFrom_1 ?_
  refine r_getR (c1 := 7) X fg_X9_119_X2 fX_5 rfl dX9_nightsUpFrom_4 ?_
  refine r_iload_n X dX9_nightsUpFrom_7 rfl 1 rfl ?_
  refine r_iald X fX_7 dX9_nightsUpFrom_8 h (fun h => ?_)
  refine r_leti h (fun v1 h => ?_)
  refine r_istore_n X [(3, .int v1), (0, .ref (ad 0)), (1, .int a1), (2, .int a2)] dX9_nightsUpFrom_9 rfl (by decide) rfl ?_
  refine r_aload_n X dX9_nightsUpFrom_10 rfl 1 rfl ?_
  refine r_getR (c1 := 5) X fg_X9_24_X9 fX_0 rfl dX9_nightsUpFrom_11 ?_
  refine r_getR (c1 := 8) X fg_X9_122_X2 fX_5 rfl dX9_nightsUpFrom_14 ?_
  refine r_iload_n X dX9_nightsUpFrom_17 rfl 2 rfl ?_
  refine r_iald X fX_8 dX9_nightsUpFrom_18 h (fun h => ?_)
  refine r_leti h (fun v2 h => ?_)
  refine r_istore X [(4, .int v2), (3, .int v1), (0, .ref (ad 0)), (1, .int a1), (2, .int a2)] dX9_nightsUpFrom_19 (by decide) rfl ?_
  refine r_aload_n X dX9_nightsUpFrom_21 rfl 2 rfl ?_
  refine r_getR (c1 := 5) X fg_X9_24_X9 fX_0 rfl dX9_nightsUpFrom_22 ?_
  refine r_getR (c1 := 7) X fg_X9_119_X2 fX_5 rfl dX9_nightsUpFrom_25 ?_
  refine r_iload_n X dX9_nightsUpFrom_28 rfl 3 rfl ?_
  refine r_iload_n X dX9_nightsUpFrom_29 rfl 4 rfl ?_
  refine r_bipush (v := 6) X dX9_nightsUpFrom_30 (by decide) ?_
  refine r_idiv0 X dX9_nightsUpFrom_32 (by decide) ?_
  refine r_iast X fX_7 dX9_nightsUpFrom_33 h (fun σ3 h => ?_)
  refine r_aload_n X dX9_nightsUpFrom_34 rfl 2 rfl ?_
  refine r_getR (c1 := 5) X fg_X9_24_X9 fX_0 rfl dX9_nightsUpFrom_35 ?_
  refine r_getR (c1 := 8) X fg_X9_122_X2 fX_5 rfl dX9_nightsUpFrom_38 ?_
  refine r_iload_n X dX9_nightsUpFrom_41 rfl 3 rfl ?_
  refine r_iload_n X dX9_nightsUpFrom_42 rfl 4 rfl ?_
  refine r_bipush (v := 6) X dX9_nightsUpFrom_43 (by decide) ?_
  refine r_irem0 X dX9_nightsUpFrom_45 (by decide) ?_
  refine r_iast X fX_8 dX9_nightsUpFrom_46 h (fun σ4 h => ?_)
  refine r_aload_n X dX9_nightsUpFrom_47 rfl 2 rfl ?_
  refine r_getR (c1 := 35) X fg_X9_59_X9 fX_0 rfl dX9_nightsUpFrom_48 ?_
  refine r_aload_n X dX9_nightsUpFrom_51 rfl 2 rfl ?_
  refine r_getR (c1 := 5) X fg_X9_24_X9 fX_0 rfl dX9_nightsUpFrom_52 ?_
  refine r_aload_n X dX9_nightsUpFrom_55 rfl 2 rfl ?_
  refine r_getR (c1 := 10) X fg_X9_31_X9 fX_0 rfl dX9_nightsUpFrom_56 ?_
  refine r_aload_n X dX9_nightsUpFrom_59 rfl 2 rfl ?_
  refine r_getR (c1 := 14) X fg_X9_38_X9 fX_0 rfl dX9_nightsUpFrom_60 ?_
  refine r_iconst (v := -1) X dX9_nightsUpFrom_63 (by decide) ?_
  obtain ⟨r5, σ6, hc_12, h⟩ := bnd_of h
  refine r_callV (As := [.ref (ad 5), .ref (ad 10), .ref (ad 14), .int (-1 : Int32)]) (rest := []) (st2 := []) (c := 35) X cv_X9_235 (c_X0_run M.2.1 iX0_35 iX1_14 hc_12) rfl (ci := 0) rfl fX_35 rfl rfl (Nat.le_of_ble_eq_true rfl) ⟨⟨rfl, rfl⟩, by decide, by decide⟩ dX9_nightsUpFrom_64 ⟨rfl, rfl⟩ rfl ?_
  refine r_aload_n X dX9_nightsUpFrom_67 rfl 2 rfl ?_
  refine r_getR (c1 := 5) X fg_X9_24_X9 fX_0 rfl dX9_nightsUpFrom_68 ?_
  refine r_getR (c1 := 7) X fg_X9_119_X2 fX_5 rfl dX9_nightsUpFrom_71 ?_
  refine r_iload_n X dX9_nightsUpFrom_74 rfl 3 rfl ?_
  refine r_iload_n X dX9_nightsUpFrom_75 rfl 1 rfl ?_
  refine r_iast X fX_7 dX9_nightsUpFrom_76 h (fun σ7 h => ?_)
  refine r_aload_n X dX9_nightsUpFrom_77 rfl 2 rfl ?_
  refine r_getR (c1 := 5) X fg_X9_24_X9 fX_0 rfl dX9_nightsUpFrom_78 ?_
  refine r_getR (c1 := 8) X fg_X9_122_X2 fX_5 rfl dX9_nightsUpFrom_81 ?_
  refine r_iload_n X dX9_nightsUpFrom_84 rfl 3 rfl ?_
  refine r_iload X dX9_nightsUpFrom_85 0 rfl ?_
  refine r_iast X fX_8 dX9_nightsUpFrom_87 h (fun σ8 h => ?_)
  refine r_aload_n X dX9_nightsUpFrom_88 rfl 2 rfl ?_
  refine r_getR (c1 := 35) X fg_X9_59_X9 fX_0 rfl dX9_nightsUpFrom_89 ?_
  refine r_getR (c1 := 38) X fg_X9_208_X0 fX_35 rfl dX9_nightsUpFrom_92 ?_
  refine r_iload_n X dX9_nightsUpFrom_95 rfl 3 rfl ?_
  refine r_iald X fX_38 dX9_nightsUpFrom_96 h (fun h => ?_)
  refine r_if_ne X 104 dX9_nightsUpFrom_97 (by decide) h (fun h => ?_) (fun h => ?_)
  · refine r_iconst (v := -1) X dX9_nightsUpFrom_100 (by decide) ?_
    refine r_goto X 112 dX9_nightsUpFrom_101 (by decide) ?_
    exact r_iretz X rfl dX9_nightsUpFrom_112 h
  · refine r_aload_n X dX9_nightsUpFrom_104 rfl 2 rfl ?_
    refine r_getR (c1 := 35) X fg_X9_59_X9 fX_0 rfl dX9_nightsUpFrom_105 ?_
    refine r_iload_n X dX9_nightsUpFrom_108 rfl 3 rfl ?_
    obtain ⟨r9, σ10, hc_11, h⟩ := bnd_of h
    refine r_callV (As := [.int a1]) (rest := []) (st2 := [.int r9]) (c := 35) X cv_X9_193 (c_X0_nightsUp M.2.1 iX0_35 hc_11) rfl (ci := 0) rfl fX_35 rfl rfl (Nat.le_of_ble_eq_true rfl) ⟨⟨rfl, rfl⟩, by decide, by decide⟩ dX9_nightsUpFrom_109 ⟨rfl, rfl⟩ rfl ?_
    exact r_iretz X rfl dX9_nightsUpFrom_112 h
set_option maxRecDepth 100000 in
set_option maxHeartbeats 4000000 in
theorem t_X9_bestCell_b70 {M : am_M} {D : va_G} {cT : Nat → ClassId} {ad : Nat → Nat} (X : am_X M (D, cT, ad, NX, LX) cX9_bestCell RX9 6 (some .int)) {z : Int32 × Sg} {k8 : Sg → Int32 → Int32 → Int32 → Int32 → Option (Int32 × Sg)} (hk8 : ∀ (σ : Sg) (x1 : Int32) (x2 : Int32) (x3 : Int32) (x4 : Int32), k8 σ x1 x2 x3 x4 = some z → am_At M { frames := 4, cells := 0, slots := 0, locals := 99 } (D, cT, ad, NX, LX) (amQi M (D, cT, ad, NX, LX) z) 6 8 [(0, .ref (ad 0)), (1, .int x1), (2, .int x2), (3, .int x3), (4, .int x4)] [] σ) (σ : Sg) (x1 : Int32) (x2 : Int32) (x3 : Int32) (x4 : Int32) (h : f_X9_bestCell_b70 k8 σ x1 x2 x3 x4 = some z) : am_At M { frames := 4, cells := 0, slots := 0, locals := 99 } (D, cT, ad, NX, LX) (amQi M (D, cT, ad, NX, LX) z) 6 70 [(0, .ref (ad 0)), (1, .int x1), (2, .int x2), (3, .int x3), (4, .int x4)] [] σ := by
  unfold f_X9_bestCell_b70 at h
  refine r_iinc X [(4, .int (x4 + (1 : Int32))), (0, .ref (ad 0)), (1, .int x1), (2, .int x2), (3, .int x3)] dX9_bestCell_70 4 rfl (v := x4 + (1 : Int32)) (by rfl) (by decide) rfl ?_
  refine r_letv h (fun v1 h => ?_)
  refine r_goto X 8 dX9_bestCell_73 (by decide) ?_
  refine r_sub (lv' := [(0, .ref (ad 0)), (1, .int x1), (2, .int x2), (3, .int x3), (4, .int v1)]) [1, 2, 3, 4, 0] rfl ?_
  exact hk8 σ x1 x2 x3 v1 h
set_option maxRecDepth 100000 in
set_option maxHeartbeats 4000000 in
theorem t_X9_bestCell_b8 {M : am_M} {D : va_G} {cT : Nat → ClassId} {ad : Nat → Nat} (X : am_X M (D, cT, ad, NX, LX) cX9_bestCell RX9 6 (some .int)) {z : Int32 × Sg} {k8 : Sg → Int32 → Int32 → Int32 → Int32 → Option (Int32 × Sg)} (hk8 : ∀ (σ : Sg) (x1 : Int32) (x2 : Int32) (x3 : Int32) (x4 : Int32), k8 σ x1 x2 x3 x4 = some z → am_At M { frames := 4, cells := 0, slots := 0, locals := 99 } (D, cT, ad, NX, LX) (amQi M (D, cT, ad, NX, LX) z) 6 8 [(0, .ref (ad 0)), (1, .int x1), (2, .int x2), (3, .int x3), (4, .int x4)] [] σ) (σ : Sg) (x1 : Int32) (x2 : Int32) (x3 : Int32) (x4 : Int32) (h : f_X9_bestCell_b8 k8 σ x1 x2 x3 x4 = some z) : am_At M { frames := 4, cells := 0, slots := 0, locals := 99 } (D, cT, ad, NX, LX) (amQi M (D, cT, ad, NX, LX) z) 6 8 [(0, .ref (ad 0)), (1, .int x1), (2, .int x2), (3, .int x3), (4, .int x4)] [] σ := by
  unfold f_X9_bestCell_b8 at h
  refine r_iload X dX9_bestCell_8 4 rfl ?_
  refine r_bipush (v := 36) X dX9_bestCell_10 (by decide) ?_
  refine r_icmp_ge X 76 dX9_bestCell_12 (by decide) h (fun h => ?_) (fun h => ?_)
  · refine r_iload_n X dX9_bestCell_76 rfl 2 rfl ?_
    exact r_iretz X rfl dX9_bestCell_77 h
  · refine r_aload_n X dX9_bestCell_15 rfl 0 rfl ?_
    refine r_getR (c1 := 5) X fg_X9_24_X9 fX_0 rfl dX9_bestCell_16 ?_
    refine r_iload X dX9_bestCell_19 4 rfl ?_
    refine r_bipush (v := 6) X dX9_bestCell_21 (by decide) ?_
    refine r_idiv0 X dX9_bestCell_23 (by decide) ?_
    refine r_iload X dX9_bestCell_24 4 rfl ?_
    refine r_bipush (v := 6) X dX9_bestCell_26 (by decide) ?_
    refine r_irem0 X dX9_bestCell_28 (by decide) ?_
    refine r_iload_n X dX9_bestCell_29 rfl 1 rfl ?_
    refine r_aload_n X dX9_bestCell_30 rfl 0 rfl ?_
    refine r_getR (c1 := 5) X fg_X9_24_X9 fX_0 rfl dX9_bestCell_31 ?_
    refine r_getI X fg_X9_115_X2 fX_5 rfl dX9_bestCell_34 ?_
    obtain ⟨r1, σ2, hc_6, h⟩ := bnd_of h
    refine r_callV (As := [.int (x4 / (6 : Int32)), .int (x4 - x4 / (6 : Int32) * (6 : Int32)), .int x1, .int (σ 5 1)]) (rest := []) (st2 := [.int r1]) (c := 5) X cv_X9_341 (c_X2_liesAnother M.2.1 hc_6) rfl (ci := 2) rfl fX_5 rfl rfl (Nat.le_of_ble_eq_true rfl) ⟨⟨rfl, rfl⟩, by decide, by decide⟩ dX9_bestCell_37 ⟨rfl, rfl⟩ rfl ?_
    refine r_if_ne X 70 dX9_bestCell_40 (by decide) h (fun h => ?_) (fun h => ?_)
    · refine r_aload_n X dX9_bestCell_43 rfl 0 rfl ?_
      refine r_iload_n X dX9_bestCell_44 rfl 1 rfl ?_
      refine r_iload X dX9_bestCell_45 4 rfl ?_
      obtain ⟨r3, σ4, hc_5, h⟩ := bnd_of h
      refine r_callV (As := [.int x1, .int x4]) (rest := []) (st2 := [.int r3]) (c := 0) X cv_X9_345 (c_X9_nightsUpFrom M.2.1 hc_5) rfl (ci := 8) rfl fX_0 rfl rfl (Nat.le_of_ble_eq_true rfl) ⟨⟨rfl, rfl⟩, by decide, by decide⟩ dX9_bestCell_47 ⟨rfl, rfl⟩ rfl ?_
      refine r_istore X [(5, .int r3), (0, .ref (ad 0)), (1, .int x1), (2, .int x2), (3, .int x3), (4, .int x4)] dX9_bestCell_50 (by decide) rfl ?_
      refine r_iload X dX9_bestCell_52 0 rfl ?_
      refine r_iconst (v := -1) X dX9_bestCell_54 (by decide) ?_
      refine r_icmp_eq X 70 dX9_bestCell_55 (by decide) h (fun h => ?_) (fun h => ?_)
      · refine r_sub (lv' := [(0, .ref (ad 0)), (1, .int x1), (2, .int x2), (3, .int x3), (4, .int x4)]) [1, 2, 3, 4, 5] rfl ?_
        exact t_X9_bestCell_b70 X hk8 σ4 x1 x2 x3 x4 h
      · refine r_iload X dX9_bestCell_58 0 rfl ?_
        refine r_iload_n X dX9_bestCell_60 rfl 4 rfl ?_
        refine r_icmp_ge X 70 dX9_bestCell_61 (by decide) h (fun h => ?_) (fun h => ?_)
        · refine r_sub (lv' := [(0, .ref (ad 0)), (1, .int x1), (2, .int x2), (3, .int x3), (4, .int x4)]) [1, 2, 3, 4, 5] rfl ?_
          exact t_X9_bestCell_b70 X hk8 σ4 x1 x2 x3 x4 h
        · refine r_iload X dX9_bestCell_64 0 rfl ?_
          refine r_istore_n X [(3, .int r3), (5, .int r3), (0, .ref (ad 0)), (1, .int x1), (2, .int x2), (4, .int x4)] dX9_bestCell_66 rfl (by decide) rfl ?_
          refine r_iload X dX9_bestCell_67 5 rfl ?_
          refine r_istore_n X [(2, .int x4), (3, .int r3), (5, .int r3), (0, .ref (ad 0)), (1, .int x1), (4, .int x4)] dX9_bestCell_69 rfl (by decide) rfl ?_
          refine r_sub (lv' := [(0, .ref (ad 0)), (1, .int x1), (2, .int x4), (3, .int r3), (4, .int x4)]) [3, 4, 0, 1, 5] rfl ?_
          exact t_X9_bestCell_b70 X hk8 σ4 x1 x4 r3 x4 h
    · exact t_X9_bestCell_b70 X hk8 σ2 x1 x2 x3 x4 h
theorem t_X9_bestCell_l8 {M : am_M} {D : va_G} {cT : Nat → ClassId} {ad : Nat → Nat} (X : am_X M (D, cT, ad, NX, LX) cX9_bestCell RX9 6 (some .int)) {z : Int32 × Sg} (n : Nat) : ∀ (σ : Sg) (x1 : Int32) (x2 : Int32) (x3 : Int32) (x4 : Int32), f_X9_bestCell_l8 n σ x1 x2 x3 x4 = some z → am_At M { frames := 4, cells := 0, slots := 0, locals := 99 } (D, cT, ad, NX, LX) (amQi M (D, cT, ad, NX, LX) z) 6 8 [(0, .ref (ad 0)), (1, .int x1), (2, .int x2), (3, .int x3), (4, .int x4)] [] σ := by
  induction n with
  | zero =>
    intro σ x1 x2 x3 x4 h
    have h2 : (none : Option (Int32 × Sg)) = some z := h
    cases h2
  | succ n ih =>
    intro σ x1 x2 x3 x4 h
    exact t_X9_bestCell_b8 X (k8 := f_X9_bestCell_l8 n) ih σ x1 x2 x3 x4 h
set_option maxRecDepth 100000 in
set_option maxHeartbeats 4000000 in
theorem c_X9_bestCell (l : Launch) {σ : Sg} {a1 : Int32} {z : Int32 × Sg} (h : f_X9_bestCell σ a1 = some z) : am_Met l yX9_bestCell cX9_bestCell 6 (some .int) { frames := 4, cells := 0, slots := 0, locals := 99 } NX LX (fun ad => [.ref (ad 0), .int a1]) σ z.2 (fun _ => some (.int z.1)) := by
  refine am_enter (by decide +kernel) (fun ad => Nat.le_of_ble_eq_true rfl) (fun M D cT ad hl X => ?_)
  subst hl
  refine r_lv (lv' := [(0, .ref (ad 0)), (1, .int a1)]) rfl ?_
  unfold f_X9_bestCell at h
  refine r_iconst (v := -1) X dX9_bestCell_0 (by decide) ?_
  refine r_istore_n X [(2, .int (-1 : Int32)), (0, .ref (ad 0)), (1, .int a1)] dX9_bestCell_1 rfl (by decide) rfl ?_
  refine r_bipush (v := 25) X dX9_bestCell_2 (by decide) ?_
  refine r_istore_n X [(3, .int (25 : Int32)), (2, .int (-1 : Int32)), (0, .ref (ad 0)), (1, .int a1)] dX9_bestCell_4 rfl (by decide) rfl ?_
  refine r_iconst (v := 0) X dX9_bestCell_5 (by decide) ?_
  refine r_istore X [(4, .int (0 : Int32)), (3, .int (25 : Int32)), (2, .int (-1 : Int32)), (0, .ref (ad 0)), (1, .int a1)] dX9_bestCell_6 (by decide) rfl ?_
  refine r_sub (lv' := [(0, .ref (ad 0)), (1, .int a1), (2, .int (-1 : Int32)), (3, .int (25 : Int32)), (4, .int (0 : Int32))]) [3, 4, 2, 1, 0] rfl ?_
  exact t_X9_bestCell_l8 X 300 σ a1 (-1 : Int32) (25 : Int32) (0 : Int32) h
set_option maxRecDepth 100000 in
set_option maxHeartbeats 4000000 in
theorem c_X9_tellCell (l : Launch) {σ : Sg} {a1 : Int32} {a2 : Int32} {a3 : Int32} {z : Int32 × Sg} (h : f_X9_tellCell σ a1 a2 a3 = some z) : am_Met l yX9_tellCell cX9_tellCell 4 (some .int) { frames := 4, cells := 0, slots := 0, locals := 99 } NX LX (fun ad => [.ref (ad 0), .int a1, .int a2, .int a3]) σ z.2 (fun _ => some (.int z.1)) := by
  refine am_enter (by decide +kernel) (fun ad => Nat.le_of_ble_eq_true rfl) (fun M D cT ad hl X => ?_)
  subst hl
  refine r_lv (lv' := [(0, .ref (ad 0)), (1, .int a1), (2, .int a2), (3, .int a3)]) rfl ?_
  unfold f_X9_tellCell at h
  refine r_iload_n X dX9_tellCell_0 rfl 2 rfl ?_
  refine r_iconst (v := -1) X dX9_tellCell_1 (by decide) ?_
  refine r_icmp_ne X 7 dX9_tellCell_2 (by decide) h (fun h => ?_) (fun h => ?_)
  · refine r_iconst (v := -1) X dX9_tellCell_5 (by decide) ?_
    exact r_iretz X rfl dX9_tellCell_6 h
  · refine r_iload_n X dX9_tellCell_7 rfl 3 rfl ?_
    obtain ⟨hA, hB⟩ := ite_of h
    by_cases q8_0 : a3 = 0
    · have h := hA q8_0
      refine r_lookup X 36 dX9_tellCell_8 (by decide) (show Op.lookupswitch.offset [(0, 28), (1, 33)] 38 _ = 28 from by rw [q8_0]; rfl) (by decide) ?_
      refine r_iload_n X dX9_tellCell_36 rfl 2 rfl ?_
      refine r_bipush (v := 6) X dX9_tellCell_37 (by decide) ?_
      refine r_idiv0 X dX9_tellCell_39 (by decide) ?_
      exact r_iretz X rfl dX9_tellCell_40 h
    · have h := hB q8_0
      obtain ⟨hA, hB⟩ := ite_of h
      by_cases q8_1 : a3 = 1
      · have h := hA q8_1
        refine r_lookup X 41 dX9_tellCell_8 (by decide) (show Op.lookupswitch.offset [(0, 28), (1, 33)] 38 _ = 33 from by rw [q8_1]; rfl) (by decide) ?_
        refine r_iload_n X dX9_tellCell_41 rfl 2 rfl ?_
        refine r_bipush (v := 6) X dX9_tellCell_42 (by decide) ?_
        refine r_irem0 X dX9_tellCell_44 (by decide) ?_
        exact r_iretz X rfl dX9_tellCell_45 h
      · have h := hB q8_1
        refine r_lookup X 46 dX9_tellCell_8 (by decide) (show Op.lookupswitch.offset [(0, 28), (1, 33)] 38 _ = 38 from by rw [lv_osw q8_0 (k := 0) (by decide), lv_osw q8_1 (k := 1) (by decide)]; rfl) (by decide) ?_
        refine r_aload_n X dX9_tellCell_46 rfl 0 rfl ?_
        refine r_iload_n X dX9_tellCell_47 rfl 1 rfl ?_
        refine r_iload_n X dX9_tellCell_48 rfl 2 rfl ?_
        obtain ⟨r1, σ2, hc_3, h⟩ := bnd_of h
        refine r_callV (As := [.int a1, .int a2]) (rest := []) (st2 := [.int r1]) (c := 0) X cv_X9_345 (c_X9_nightsUpFrom M.2.1 hc_3) rfl (ci := 8) rfl fX_0 rfl rfl (Nat.le_of_ble_eq_true rfl) ⟨⟨rfl, rfl⟩, by decide, by decide⟩ dX9_tellCell_49 ⟨rfl, rfl⟩ rfl ?_
        exact r_iretz X rfl dX9_tellCell_52 h
set_option maxRecDepth 100000 in
set_option maxHeartbeats 4000000 in
theorem c_X9_lie (l : Launch) {σ : Sg} {a1 : Int32} {a2 : Int32} {z : Int32 × Sg} (h : f_X9_lie σ a1 a2 = some z) : am_Met l yX9_lie cX9_lie 3 (some .int) { frames := 5, cells := 0, slots := 0, locals := 124 } NX LX (fun ad => [.ref (ad 0), .int a1, .int a2]) σ z.2 (fun _ => some (.int z.1)) := by
  refine am_enter (by decide +kernel) (fun ad => Nat.le_of_ble_eq_true rfl) (fun M D cT ad hl X => ?_)
  subst hl
  refine r_lv (lv' := [(0, .ref (ad 0)), (1, .int a1), (2, .int a2)]) rfl ?_
  unfold f_X9_lie at h
  refine r_iload_n X dX9_lie_0 rfl 1 rfl ?_
  refine r_aload_n X dX9_lie_1 rfl 0 rfl ?_
  refine r_getR (c1 := 5) X fg_X9_24_X9 fX_0 rfl dX9_lie_2 ?_
  refine r_getI X fg_X9_115_X2 fX_5 rfl dX9_lie_5 ?_
  obtain ⟨r1, σ2, hc_12, h⟩ := bnd_of h
  refine r_callS (As := [.int a1, .int (σ 5 1)]) (rest := []) (st2 := [.int r1]) X cv_X9_91 (c_X9_isBelow M.2.1 hc_12) rfl rfl rfl (Nat.le_of_ble_eq_true rfl) ⟨⟨rfl, rfl⟩, by decide, by decide⟩ dX9_lie_8 ⟨rfl, rfl⟩ rfl ?_
  refine r_if_eq X 22 dX9_lie_11 (by decide) h (fun h => ?_) (fun h => ?_)
  · refine r_bipush (v := -2) X dX9_lie_22 (by decide) ?_
    exact r_iretz X rfl dX9_lie_24 h
  · refine r_iload_n X dX9_lie_14 rfl 2 rfl ?_
    refine r_iconst (v := 3) X dX9_lie_15 (by decide) ?_
    obtain ⟨r3, σ4, hc_11, h⟩ := bnd_of h
    refine r_callS (As := [.int a2, .int (3 : Int32)]) (rest := []) (st2 := [.int r3]) X cv_X9_91 (c_X9_isBelow M.2.1 hc_11) rfl rfl rfl (Nat.le_of_ble_eq_true rfl) ⟨⟨rfl, rfl⟩, by decide, by decide⟩ dX9_lie_16 ⟨rfl, rfl⟩ rfl ?_
    refine r_if_ne X 25 dX9_lie_19 (by decide) h (fun h => ?_) (fun h => ?_)
    · refine r_bipush (v := -2) X dX9_lie_22 (by decide) ?_
      exact r_iretz X rfl dX9_lie_24 h
    · refine r_aload_n X dX9_lie_25 rfl 0 rfl ?_
      refine r_iload_n X dX9_lie_26 rfl 1 rfl ?_
      refine r_aload_n X dX9_lie_27 rfl 0 rfl ?_
      refine r_iload_n X dX9_lie_28 rfl 1 rfl ?_
      obtain ⟨r5, σ6, hc_10, h⟩ := bnd_of h
      refine r_callV (As := [.int a1]) (rest := [.int a1, .ref (ad 0)]) (st2 := [.int r5, .int a1, .ref (ad 0)]) (c := 0) X cv_X9_217 (c_X9_bestCell M.2.1 hc_10) rfl (ci := 8) rfl fX_0 rfl rfl (Nat.le_of_ble_eq_true rfl) ⟨⟨rfl, rfl⟩, by decide, by decide⟩ dX9_lie_29 ⟨rfl, rfl⟩ rfl ?_
      refine r_iload_n X dX9_lie_32 rfl 2 rfl ?_
      obtain ⟨r7, σ8, hc_9, h⟩ := bnd_of h
      refine r_callV (As := [.int a1, .int r5, .int a2]) (rest := []) (st2 := [.int r7]) (c := 0) X cv_X9_220 (c_X9_tellCell M.2.1 hc_9) rfl (ci := 8) rfl fX_0 rfl rfl (Nat.le_of_ble_eq_true rfl) ⟨⟨rfl, rfl⟩, by decide, by decide⟩ dX9_lie_33 ⟨rfl, rfl⟩ rfl ?_
      exact r_iretz X rfl dX9_lie_36 h
set_option maxRecDepth 100000 in
set_option maxHeartbeats 4000000 in
theorem t_X9_bestNight_b35 {M : am_M} {D : va_G} {cT : Nat → ClassId} {ad : Nat → Nat} (X : am_X M (D, cT, ad, NX, LX) cX9_bestNight RX9 6 (some .int)) {z : Int32 × Sg} {k7 : Sg → Int32 → Int32 → Int32 → Int32 → Option (Int32 × Sg)} (hk7 : ∀ (σ : Sg) (x1 : Int32) (x2 : Int32) (x3 : Int32) (x4 : Int32), k7 σ x1 x2 x3 x4 = some z → am_At M { frames := 4, cells := 0, slots := 0, locals := 97 } (D, cT, ad, NX, LX) (amQi M (D, cT, ad, NX, LX) z) 6 7 [(0, .ref (ad 0)), (1, .int x1), (2, .int x2), (3, .int x3), (4, .int x4)] [] σ) (σ : Sg) (x1 : Int32) (x2 : Int32) (x3 : Int32) (x4 : Int32) (h : f_X9_bestNight_b35 k7 σ x1 x2 x3 x4 = some z) : am_At M { frames := 4, cells := 0, slots := 0, locals := 97 } (D, cT, ad, NX, LX) (amQi M (D, cT, ad, NX, LX) z) 6 35 [(0, .ref (ad 0)), (1, .int x1), (2, .int x2), (3, .int x3), (4, .int x4)] [] σ := by
  unfold f_X9_bestNight_b35 at h
  refine r_iinc X [(4, .int (x4 + (1 : Int32))), (0, .ref (ad 0)), (1, .int x1), (2, .int x2), (3, .int x3)] dX9_bestNight_35 4 rfl (v := x4 + (1 : Int32)) (by rfl) (by decide) rfl ?_
  refine r_letv h (fun v1 h => ?_)
  refine r_goto X 7 dX9_bestNight_38 (by decide) ?_
  refine r_sub (lv' := [(0, .ref (ad 0)), (1, .int x1), (2, .int x2), (3, .int x3), (4, .int v1)]) [1, 2, 3, 4, 0] rfl ?_
  exact hk7 σ x1 x2 x3 v1 h
set_option maxRecDepth 100000 in
set_option maxHeartbeats 4000000 in
theorem t_X9_bestNight_b7 {M : am_M} {D : va_G} {cT : Nat → ClassId} {ad : Nat → Nat} (X : am_X M (D, cT, ad, NX, LX) cX9_bestNight RX9 6 (some .int)) {z : Int32 × Sg} {k7 : Sg → Int32 → Int32 → Int32 → Int32 → Option (Int32 × Sg)} (hk7 : ∀ (σ : Sg) (x1 : Int32) (x2 : Int32) (x3 : Int32) (x4 : Int32), k7 σ x1 x2 x3 x4 = some z → am_At M { frames := 4, cells := 0, slots := 0, locals := 97 } (D, cT, ad, NX, LX) (amQi M (D, cT, ad, NX, LX) z) 6 7 [(0, .ref (ad 0)), (1, .int x1), (2, .int x2), (3, .int x3), (4, .int x4)] [] σ) (σ : Sg) (x1 : Int32) (x2 : Int32) (x3 : Int32) (x4 : Int32) (h : f_X9_bestNight_b7 k7 σ x1 x2 x3 x4 = some z) : am_At M { frames := 4, cells := 0, slots := 0, locals := 97 } (D, cT, ad, NX, LX) (amQi M (D, cT, ad, NX, LX) z) 6 7 [(0, .ref (ad 0)), (1, .int x1), (2, .int x2), (3, .int x3), (4, .int x4)] [] σ := by
  unfold f_X9_bestNight_b7 at h
  refine r_iload X dX9_bestNight_7 4 rfl ?_
  refine r_bipush (v := 24) X dX9_bestNight_9 (by decide) ?_
  refine r_icmp_ge X 41 dX9_bestNight_11 (by decide) h (fun h => ?_) (fun h => ?_)
  · refine r_iload_n X dX9_bestNight_41 rfl 2 rfl ?_
    exact r_iretz X rfl dX9_bestNight_42 h
  · refine r_aload_n X dX9_bestNight_14 rfl 0 rfl ?_
    refine r_iload X dX9_bestNight_15 4 rfl ?_
    refine r_iload_n X dX9_bestNight_17 rfl 1 rfl ?_
    obtain ⟨r1, σ2, hc_3, h⟩ := bnd_of h
    refine r_callV (As := [.int x4, .int x1]) (rest := []) (st2 := [.int r1]) (c := 0) X cv_X9_214 (c_X9_metWithPlough M.2.1 hc_3) rfl (ci := 8) rfl fX_0 rfl rfl (Nat.le_of_ble_eq_true rfl) ⟨⟨rfl, rfl⟩, by decide, by decide⟩ dX9_bestNight_18 ⟨rfl, rfl⟩ rfl ?_
    refine r_istore X [(5, .int r1), (0, .ref (ad 0)), (1, .int x1), (2, .int x2), (3, .int x3), (4, .int x4)] dX9_bestNight_21 (by decide) rfl ?_
    refine r_iload X dX9_bestNight_23 0 rfl ?_
    refine r_iload_n X dX9_bestNight_25 rfl 4 rfl ?_
    refine r_icmp_le X 35 dX9_bestNight_26 (by decide) h (fun h => ?_) (fun h => ?_)
    · refine r_sub (lv' := [(0, .ref (ad 0)), (1, .int x1), (2, .int x2), (3, .int x3), (4, .int x4)]) [1, 2, 3, 4, 5] rfl ?_
      exact t_X9_bestNight_b35 X hk7 σ2 x1 x2 x3 x4 h
    · refine r_iload X dX9_bestNight_29 0 rfl ?_
      refine r_istore_n X [(3, .int r1), (5, .int r1), (0, .ref (ad 0)), (1, .int x1), (2, .int x2), (4, .int x4)] dX9_bestNight_31 rfl (by decide) rfl ?_
      refine r_iload X dX9_bestNight_32 5 rfl ?_
      refine r_istore_n X [(2, .int x4), (3, .int r1), (5, .int r1), (0, .ref (ad 0)), (1, .int x1), (4, .int x4)] dX9_bestNight_34 rfl (by decide) rfl ?_
      refine r_sub (lv' := [(0, .ref (ad 0)), (1, .int x1), (2, .int x4), (3, .int r1), (4, .int x4)]) [3, 4, 0, 1, 5] rfl ?_
      exact t_X9_bestNight_b35 X hk7 σ2 x1 x4 r1 x4 h
theorem t_X9_bestNight_l7 {M : am_M} {D : va_G} {cT : Nat → ClassId} {ad : Nat → Nat} (X : am_X M (D, cT, ad, NX, LX) cX9_bestNight RX9 6 (some .int)) {z : Int32 × Sg} (n : Nat) : ∀ (σ : Sg) (x1 : Int32) (x2 : Int32) (x3 : Int32) (x4 : Int32), f_X9_bestNight_l7 n σ x1 x2 x3 x4 = some z → am_At M { frames := 4, cells := 0, slots := 0, locals := 97 } (D, cT, ad, NX, LX) (amQi M (D, cT, ad, NX, LX) z) 6 7 [(0, .ref (ad 0)), (1, .int x1), (2, .int x2), (3, .int x3), (4, .int x4)] [] σ := by
  induction n with
  | zero =>
    intro σ x1 x2 x3 x4 h
    have h2 : (none : Option (Int32 × Sg)) = some z := h
    cases h2
  | succ n ih =>
    intro σ x1 x2 x3 x4 h
    exact t_X9_bestNight_b7 X (k7 := f_X9_bestNight_l7 n) ih σ x1 x2 x3 x4 h
set_option maxRecDepth 100000 in
set_option maxHeartbeats 4000000 in
theorem c_X9_bestNight (l : Launch) {σ : Sg} {a1 : Int32} {z : Int32 × Sg} (h : f_X9_bestNight σ a1 = some z) : am_Met l yX9_bestNight cX9_bestNight 6 (some .int) { frames := 4, cells := 0, slots := 0, locals := 97 } NX LX (fun ad => [.ref (ad 0), .int a1]) σ z.2 (fun _ => some (.int z.1)) := by
  refine am_enter (by decide +kernel) (fun ad => Nat.le_of_ble_eq_true rfl) (fun M D cT ad hl X => ?_)
  subst hl
  refine r_lv (lv' := [(0, .ref (ad 0)), (1, .int a1)]) rfl ?_
  unfold f_X9_bestNight at h
  refine r_iconst (v := 0) X dX9_bestNight_0 (by decide) ?_
  refine r_istore_n X [(2, .int (0 : Int32)), (0, .ref (ad 0)), (1, .int a1)] dX9_bestNight_1 rfl (by decide) rfl ?_
  refine r_iconst (v := -1) X dX9_bestNight_2 (by decide) ?_
  refine r_istore_n X [(3, .int (-1 : Int32)), (2, .int (0 : Int32)), (0, .ref (ad 0)), (1, .int a1)] dX9_bestNight_3 rfl (by decide) rfl ?_
  refine r_iconst (v := 0) X dX9_bestNight_4 (by decide) ?_
  refine r_istore X [(4, .int (0 : Int32)), (3, .int (-1 : Int32)), (2, .int (0 : Int32)), (0, .ref (ad 0)), (1, .int a1)] dX9_bestNight_5 (by decide) rfl ?_
  refine r_sub (lv' := [(0, .ref (ad 0)), (1, .int a1), (2, .int (0 : Int32)), (3, .int (-1 : Int32)), (4, .int (0 : Int32))]) [3, 4, 2, 1, 0] rfl ?_
  exact t_X9_bestNight_l7 X 300 σ a1 (0 : Int32) (-1 : Int32) (0 : Int32) h
set_option maxRecDepth 100000 in
set_option maxHeartbeats 4000000 in
theorem c_X9_when (l : Launch) {σ : Sg} {a1 : Int32} {a2 : Int32} {z : Int32 × Sg} (h : f_X9_when σ a1 a2 = some z) : am_Met l yX9_when cX9_when 4 (some .int) { frames := 5, cells := 0, slots := 0, locals := 122 } NX LX (fun ad => [.ref (ad 0), .int a1, .int a2]) σ z.2 (fun _ => some (.int z.1)) := by
  refine am_enter (by decide +kernel) (fun ad => Nat.le_of_ble_eq_true rfl) (fun M D cT ad hl X => ?_)
  subst hl
  refine r_lv (lv' := [(0, .ref (ad 0)), (1, .int a1), (2, .int a2)]) rfl ?_
  unfold f_X9_when at h
  refine r_iload_n X dX9_when_0 rfl 1 rfl ?_
  refine r_bipush (v := 6) X dX9_when_1 (by decide) ?_
  obtain ⟨r1, σ2, hc_12, h⟩ := bnd_of h
  refine r_callS (As := [.int a1, .int (6 : Int32)]) (rest := []) (st2 := [.int r1]) X cv_X9_91 (c_X9_isBelow M.2.1 hc_12) rfl rfl rfl (Nat.le_of_ble_eq_true rfl) ⟨⟨rfl, rfl⟩, by decide, by decide⟩ dX9_when_3 ⟨rfl, rfl⟩ rfl ?_
  refine r_if_eq X 17 dX9_when_6 (by decide) h (fun h => ?_) (fun h => ?_)
  · refine r_bipush (v := -2) X dX9_when_17 (by decide) ?_
    exact r_iretz X rfl dX9_when_19 h
  · refine r_iload_n X dX9_when_9 rfl 2 rfl ?_
    refine r_iconst (v := 2) X dX9_when_10 (by decide) ?_
    obtain ⟨r3, σ4, hc_11, h⟩ := bnd_of h
    refine r_callS (As := [.int a2, .int (2 : Int32)]) (rest := []) (st2 := [.int r3]) X cv_X9_91 (c_X9_isBelow M.2.1 hc_11) rfl rfl rfl (Nat.le_of_ble_eq_true rfl) ⟨⟨rfl, rfl⟩, by decide, by decide⟩ dX9_when_11 ⟨rfl, rfl⟩ rfl ?_
    refine r_if_ne X 20 dX9_when_14 (by decide) h (fun h => ?_) (fun h => ?_)
    · refine r_bipush (v := -2) X dX9_when_17 (by decide) ?_
      exact r_iretz X rfl dX9_when_19 h
    · refine r_aload_n X dX9_when_20 rfl 0 rfl ?_
      refine r_iload_n X dX9_when_21 rfl 1 rfl ?_
      obtain ⟨r5, σ6, hc_10, h⟩ := bnd_of h
      refine r_callV (As := [.int a1]) (rest := []) (st2 := [.int r5]) (c := 0) X cv_X9_223 (c_X9_bestNight M.2.1 hc_10) rfl (ci := 8) rfl fX_0 rfl rfl (Nat.le_of_ble_eq_true rfl) ⟨⟨rfl, rfl⟩, by decide, by decide⟩ dX9_when_22 ⟨rfl, rfl⟩ rfl ?_
      refine r_istore_n X [(3, .int r5), (0, .ref (ad 0)), (1, .int a1), (2, .int a2)] dX9_when_25 rfl (by decide) rfl ?_
      refine r_iload_n X dX9_when_26 rfl 3 rfl ?_
      refine r_if_ne X 34 dX9_when_27 (by decide) h (fun h => ?_) (fun h => ?_)
      · refine r_iload_n X dX9_when_30 rfl 0 rfl ?_
        refine r_goto X 40 dX9_when_31 (by decide) ?_
        exact r_iretz X rfl dX9_when_40 h
      · refine r_aload_n X dX9_when_34 rfl 1 rfl ?_
        refine r_iload_n X dX9_when_35 rfl 0 rfl ?_
        refine r_iload_n X dX9_when_36 rfl 2 rfl ?_
        obtain ⟨r7, σ8, hc_9, h⟩ := bnd_of h
        refine r_callV (As := [.int r5, .int a1]) (rest := []) (st2 := [.int r7]) (c := 0) X cv_X9_214 (c_X9_metWithPlough M.2.1 hc_9) rfl (ci := 8) rfl fX_0 rfl rfl (Nat.le_of_ble_eq_true rfl) ⟨⟨rfl, rfl⟩, by decide, by decide⟩ dX9_when_37 ⟨rfl, rfl⟩ rfl ?_
        exact r_iretz X rfl dX9_when_40 h
set_option maxRecDepth 100000 in
set_option maxHeartbeats 4000000 in
theorem c_X9_isRightWithout (l : Launch) {σ : Sg} {a1 : Int32} {z : Int32 × Sg} (h : f_X9_isRightWithout σ a1 = some z) : am_Met l yX9_isRightWithout cX9_isRightWithout 2 (some .boolean) { frames := 3, cells := 0, slots := 0, locals := 75 } NX LX (fun ad => [.ref (ad 0), .int a1]) σ z.2 (fun _ => some (.int z.1)) := by
  refine am_enter (by decide +kernel) (fun ad => Nat.le_of_ble_eq_true rfl) (fun M D cT ad hl X => ?_)
  subst hl
  refine r_lv (lv' := [(0, .ref (ad 0)), (1, .int a1)]) rfl ?_
  unfold f_X9_isRightWithout at h
  refine r_aload_n X dX9_isRightWithout_0 rfl 0 rfl ?_
  refine r_getR (c1 := 35) X fg_X9_59_X9 fX_0 rfl dX9_isRightWithout_1 ?_
  refine r_aload_n X dX9_isRightWithout_4 rfl 0 rfl ?_
  refine r_getR (c1 := 5) X fg_X9_24_X9 fX_0 rfl dX9_isRightWithout_5 ?_
  refine r_aload_n X dX9_isRightWithout_8 rfl 0 rfl ?_
  refine r_getR (c1 := 10) X fg_X9_31_X9 fX_0 rfl dX9_isRightWithout_9 ?_
  refine r_aload_n X dX9_isRightWithout_12 rfl 0 rfl ?_
  refine r_getR (c1 := 14) X fg_X9_38_X9 fX_0 rfl dX9_isRightWithout_13 ?_
  refine r_iload_n X dX9_isRightWithout_16 rfl 1 rfl ?_
  refine r_iconst (v := -1) X dX9_isRightWithout_17 (by decide) ?_
  refine r_ixor X dX9_isRightWithout_18 ?_
  obtain ⟨r1, σ2, hc_3, h⟩ := bnd_of h
  refine r_callV (As := [.ref (ad 5), .ref (ad 10), .ref (ad 14), .int (a1 ^^^ (-1 : Int32))]) (rest := []) (st2 := []) (c := 35) X cv_X9_235 (c_X0_run M.2.1 iX0_35 iX1_14 hc_3) rfl (ci := 0) rfl fX_35 rfl rfl (Nat.le_of_ble_eq_true rfl) ⟨⟨rfl, rfl⟩, by decide, by decide⟩ dX9_isRightWithout_19 ⟨rfl, rfl⟩ rfl ?_
  refine r_aload_n X dX9_isRightWithout_22 rfl 0 rfl ?_
  refine r_getR (c1 := 35) X fg_X9_59_X9 fX_0 rfl dX9_isRightWithout_23 ?_
  refine r_getI X fg_X9_196_X0 fX_35 rfl dX9_isRightWithout_26 ?_
  refine r_if_ne X 36 dX9_isRightWithout_29 (by decide) h (fun h => ?_) (fun h => ?_)
  · refine r_iconst (v := 1) X dX9_isRightWithout_32 (by decide) ?_
    refine r_goto X 37 dX9_isRightWithout_33 (by decide) ?_
    exact r_zretz X rfl (by decide) dX9_isRightWithout_37 h
  · refine r_iconst (v := 0) X dX9_isRightWithout_36 (by decide) ?_
    exact r_zretz X rfl (by decide) dX9_isRightWithout_37 h
set_option maxRecDepth 100000 in
set_option maxHeartbeats 4000000 in
theorem t_X9_spareEvents_b60 {M : am_M} {D : va_G} {cT : Nat → ClassId} {ad : Nat → Nat} (X : am_X M (D, cT, ad, NX, LX) cX9_spareEvents RX9 4 (some .int)) {z : Int32 × Sg} {k45 : Sg → Int32 → Option (Int32 × Sg)} (hk45 : ∀ (σ : Sg) (x1 : Int32), k45 σ x1 = some z → am_At M { frames := 4, cells := 0, slots := 0, locals := 96 } (D, cT, ad, NX, LX) (amQi M (D, cT, ad, NX, LX) z) 4 45 [(0, .ref (ad 0)), (1, .int x1)] [] σ) {k60 : Sg → Int32 → Int32 → Option (Int32 × Sg)} (hk60 : ∀ (σ : Sg) (x1 : Int32) (x2 : Int32), k60 σ x1 x2 = some z → am_At M { frames := 4, cells := 0, slots := 0, locals := 96 } (D, cT, ad, NX, LX) (amQi M (D, cT, ad, NX, LX) z) 4 60 [(0, .ref (ad 0)), (1, .int x1), (2, .int x2)] [] σ) (σ : Sg) (x1 : Int32) (x2 : Int32) (h : f_X9_spareEvents_b60 k45 k60 σ x1 x2 = some z) : am_At M { frames := 4, cells := 0, slots := 0, locals := 96 } (D, cT, ad, NX, LX) (amQi M (D, cT, ad, NX, LX) z) 4 60 [(0, .ref (ad 0)), (1, .int x1), (2, .int x2)] [] σ := by
  unfold f_X9_spareEvents_b60 at h
  refine r_iload_n X dX9_spareEvents_60 rfl 2 rfl ?_
  refine r_aload_n X dX9_spareEvents_61 rfl 0 rfl ?_
  refine r_getR (c1 := 14) X fg_X9_38_X9 fX_0 rfl dX9_spareEvents_62 ?_
  refine r_getI X fg_X9_138_X1 fX_14 rfl dX9_spareEvents_65 ?_
  refine r_icmp_ge X 95 dX9_spareEvents_68 (by decide) h (fun h => ?_) (fun h => ?_)
  · refine r_iinc X [(1, .int (x1 + (1 : Int32))), (0, .ref (ad 0)), (2, .int x2)] dX9_spareEvents_95 1 rfl (v := x1 + (1 : Int32)) (by rfl) (by decide) rfl ?_
    refine r_letv h (fun v1 h => ?_)
    refine r_goto X 45 dX9_spareEvents_98 (by decide) ?_
    refine r_sub (lv' := [(0, .ref (ad 0)), (1, .int v1)]) [1, 0] rfl ?_
    exact hk45 σ v1 h
  · refine r_iconst (v := 1) X dX9_spareEvents_71 (by decide) ?_
    refine r_iload_n X dX9_spareEvents_72 rfl 1 rfl ?_
    refine r_ishl X dX9_spareEvents_73 ?_
    refine r_iconst (v := 1) X dX9_spareEvents_74 (by decide) ?_
    refine r_iload_n X dX9_spareEvents_75 rfl 2 rfl ?_
    refine r_ishl X dX9_spareEvents_76 ?_
    refine r_ior X dX9_spareEvents_77 ?_
    refine r_leti h (fun v2 h => ?_)
    refine r_istore_n X [(3, .int v2), (0, .ref (ad 0)), (1, .int x1), (2, .int x2)] dX9_spareEvents_78 rfl (by decide) rfl ?_
    refine r_aload_n X dX9_spareEvents_79 rfl 1 rfl ?_
    refine r_iload_n X dX9_spareEvents_80 rfl 0 rfl ?_
    obtain ⟨r3, σ4, hc_6, h⟩ := bnd_of h
    refine r_callV (As := [.int v2]) (rest := []) (st2 := [.int r3]) (c := 0) X cv_X9_348 (c_X9_isRightWithout M.2.1 hc_6) rfl (ci := 8) rfl fX_0 rfl rfl (Nat.le_of_ble_eq_true rfl) ⟨⟨rfl, rfl⟩, by decide, by decide⟩ dX9_spareEvents_81 ⟨rfl, rfl⟩ rfl ?_
    refine r_if_eq X 89 dX9_spareEvents_84 (by decide) h (fun h => ?_) (fun h => ?_)
    · refine r_iinc X [(2, .int (x2 + (1 : Int32))), (3, .int v2), (0, .ref (ad 0)), (1, .int x1)] dX9_spareEvents_89 3 rfl (v := x2 + (1 : Int32)) (by rfl) (by decide) rfl ?_
      refine r_letv h (fun v5 h => ?_)
      refine r_goto X 60 dX9_spareEvents_92 (by decide) ?_
      refine r_sub (lv' := [(0, .ref (ad 0)), (1, .int x1), (2, .int v5)]) [2, 3, 0] rfl ?_
      exact hk60 σ4 x1 v5 h
    · refine r_iload_n X dX9_spareEvents_87 rfl 0 rfl ?_
      exact r_iretz X rfl dX9_spareEvents_88 h
theorem t_X9_spareEvents_l60 {M : am_M} {D : va_G} {cT : Nat → ClassId} {ad : Nat → Nat} (X : am_X M (D, cT, ad, NX, LX) cX9_spareEvents RX9 4 (some .int)) {z : Int32 × Sg} {k45 : Sg → Int32 → Option (Int32 × Sg)} (hk45 : ∀ (σ : Sg) (x1 : Int32), k45 σ x1 = some z → am_At M { frames := 4, cells := 0, slots := 0, locals := 96 } (D, cT, ad, NX, LX) (amQi M (D, cT, ad, NX, LX) z) 4 45 [(0, .ref (ad 0)), (1, .int x1)] [] σ) (n : Nat) : ∀ (σ : Sg) (x1 : Int32) (x2 : Int32), f_X9_spareEvents_l60 k45 n σ x1 x2 = some z → am_At M { frames := 4, cells := 0, slots := 0, locals := 96 } (D, cT, ad, NX, LX) (amQi M (D, cT, ad, NX, LX) z) 4 60 [(0, .ref (ad 0)), (1, .int x1), (2, .int x2)] [] σ := by
  induction n with
  | zero =>
    intro σ x1 x2 h
    have h2 : (none : Option (Int32 × Sg)) = some z := h
    cases h2
  | succ n ih =>
    intro σ x1 x2 h
    exact t_X9_spareEvents_b60 X hk45 (k60 := f_X9_spareEvents_l60 k45 n) ih σ x1 x2 h
set_option maxRecDepth 100000 in
set_option maxHeartbeats 4000000 in
theorem t_X9_spareEvents_b45 {M : am_M} {D : va_G} {cT : Nat → ClassId} {ad : Nat → Nat} (X : am_X M (D, cT, ad, NX, LX) cX9_spareEvents RX9 4 (some .int)) {z : Int32 × Sg} {k45 : Sg → Int32 → Option (Int32 × Sg)} (hk45 : ∀ (σ : Sg) (x1 : Int32), k45 σ x1 = some z → am_At M { frames := 4, cells := 0, slots := 0, locals := 96 } (D, cT, ad, NX, LX) (amQi M (D, cT, ad, NX, LX) z) 4 45 [(0, .ref (ad 0)), (1, .int x1)] [] σ) (σ : Sg) (x1 : Int32) (h : f_X9_spareEvents_b45 k45 σ x1 = some z) : am_At M { frames := 4, cells := 0, slots := 0, locals := 96 } (D, cT, ad, NX, LX) (amQi M (D, cT, ad, NX, LX) z) 4 45 [(0, .ref (ad 0)), (1, .int x1)] [] σ := by
  unfold f_X9_spareEvents_b45 at h
  refine r_iload_n X dX9_spareEvents_45 rfl 1 rfl ?_
  refine r_aload_n X dX9_spareEvents_46 rfl 0 rfl ?_
  refine r_getR (c1 := 14) X fg_X9_38_X9 fX_0 rfl dX9_spareEvents_47 ?_
  refine r_getI X fg_X9_138_X1 fX_14 rfl dX9_spareEvents_50 ?_
  refine r_icmp_ge X 101 dX9_spareEvents_53 (by decide) h (fun h => ?_) (fun h => ?_)
  · refine r_iconst (v := -1) X dX9_spareEvents_101 (by decide) ?_
    exact r_iretz X rfl dX9_spareEvents_102 h
  · refine r_iload_n X dX9_spareEvents_56 rfl 1 rfl ?_
    refine r_iconst (v := 1) X dX9_spareEvents_57 (by decide) ?_
    refine r_iadd X dX9_spareEvents_58 ?_
    refine r_leti h (fun v1 h => ?_)
    refine r_istore_n X [(2, .int v1), (0, .ref (ad 0)), (1, .int x1)] dX9_spareEvents_59 rfl (by decide) rfl ?_
    refine r_sub (lv' := [(0, .ref (ad 0)), (1, .int x1), (2, .int v1)]) [1, 2, 0] rfl ?_
    exact t_X9_spareEvents_l60 X hk45 300 σ x1 v1 h
theorem t_X9_spareEvents_l45 {M : am_M} {D : va_G} {cT : Nat → ClassId} {ad : Nat → Nat} (X : am_X M (D, cT, ad, NX, LX) cX9_spareEvents RX9 4 (some .int)) {z : Int32 × Sg} (n : Nat) : ∀ (σ : Sg) (x1 : Int32), f_X9_spareEvents_l45 n σ x1 = some z → am_At M { frames := 4, cells := 0, slots := 0, locals := 96 } (D, cT, ad, NX, LX) (amQi M (D, cT, ad, NX, LX) z) 4 45 [(0, .ref (ad 0)), (1, .int x1)] [] σ := by
  induction n with
  | zero =>
    intro σ x1 h
    have h2 : (none : Option (Int32 × Sg)) = some z := h
    cases h2
  | succ n ih =>
    intro σ x1 h
    exact t_X9_spareEvents_b45 X (k45 := f_X9_spareEvents_l45 n) ih σ x1 h
set_option maxRecDepth 100000 in
set_option maxHeartbeats 4000000 in
theorem t_X9_spareEvents_b12 {M : am_M} {D : va_G} {cT : Nat → ClassId} {ad : Nat → Nat} (X : am_X M (D, cT, ad, NX, LX) cX9_spareEvents RX9 4 (some .int)) {z : Int32 × Sg} {k12 : Sg → Int32 → Option (Int32 × Sg)} (hk12 : ∀ (σ : Sg) (x1 : Int32), k12 σ x1 = some z → am_At M { frames := 4, cells := 0, slots := 0, locals := 96 } (D, cT, ad, NX, LX) (amQi M (D, cT, ad, NX, LX) z) 4 12 [(0, .ref (ad 0)), (1, .int x1)] [] σ) (σ : Sg) (x1 : Int32) (h : f_X9_spareEvents_b12 k12 σ x1 = some z) : am_At M { frames := 4, cells := 0, slots := 0, locals := 96 } (D, cT, ad, NX, LX) (amQi M (D, cT, ad, NX, LX) z) 4 12 [(0, .ref (ad 0)), (1, .int x1)] [] σ := by
  unfold f_X9_spareEvents_b12 at h
  refine r_iload_n X dX9_spareEvents_12 rfl 1 rfl ?_
  refine r_aload_n X dX9_spareEvents_13 rfl 0 rfl ?_
  refine r_getR (c1 := 14) X fg_X9_38_X9 fX_0 rfl dX9_spareEvents_14 ?_
  refine r_getI X fg_X9_138_X1 fX_14 rfl dX9_spareEvents_17 ?_
  refine r_icmp_ge X 43 dX9_spareEvents_20 (by decide) h (fun h => ?_) (fun h => ?_)
  · refine r_iconst (v := 0) X dX9_spareEvents_43 (by decide) ?_
    refine r_istore_n X [(1, .int (0 : Int32)), (0, .ref (ad 0))] dX9_spareEvents_44 rfl (by decide) rfl ?_
    refine r_sub (lv' := [(0, .ref (ad 0)), (1, .int (0 : Int32))]) [1, 0] rfl ?_
    exact t_X9_spareEvents_l45 X 300 σ (0 : Int32) h
  · refine r_aload_n X dX9_spareEvents_23 rfl 0 rfl ?_
    refine r_iconst (v := 1) X dX9_spareEvents_24 (by decide) ?_
    refine r_iload_n X dX9_spareEvents_25 rfl 1 rfl ?_
    refine r_ishl X dX9_spareEvents_26 ?_
    obtain ⟨r1, σ2, hc_4, h⟩ := bnd_of h
    refine r_callV (As := [.int ((1 : Int32) <<< (x1 &&& 31))]) (rest := []) (st2 := [.int r1]) (c := 0) X cv_X9_348 (c_X9_isRightWithout M.2.1 hc_4) rfl (ci := 8) rfl fX_0 rfl rfl (Nat.le_of_ble_eq_true rfl) ⟨⟨rfl, rfl⟩, by decide, by decide⟩ dX9_spareEvents_27 ⟨rfl, rfl⟩ rfl ?_
    refine r_if_eq X 37 dX9_spareEvents_30 (by decide) h (fun h => ?_) (fun h => ?_)
    · refine r_iinc X [(1, .int (x1 + (1 : Int32))), (0, .ref (ad 0))] dX9_spareEvents_37 1 rfl (v := x1 + (1 : Int32)) (by rfl) (by decide) rfl ?_
      refine r_letv h (fun v3 h => ?_)
      refine r_goto X 12 dX9_spareEvents_40 (by decide) ?_
      refine r_sub (lv' := [(0, .ref (ad 0)), (1, .int v3)]) [1, 0] rfl ?_
      exact hk12 σ2 v3 h
    · refine r_iconst (v := 1) X dX9_spareEvents_33 (by decide) ?_
      refine r_iload_n X dX9_spareEvents_34 rfl 1 rfl ?_
      refine r_ishl X dX9_spareEvents_35 ?_
      exact r_iretz X rfl dX9_spareEvents_36 h
theorem t_X9_spareEvents_l12 {M : am_M} {D : va_G} {cT : Nat → ClassId} {ad : Nat → Nat} (X : am_X M (D, cT, ad, NX, LX) cX9_spareEvents RX9 4 (some .int)) {z : Int32 × Sg} (n : Nat) : ∀ (σ : Sg) (x1 : Int32), f_X9_spareEvents_l12 n σ x1 = some z → am_At M { frames := 4, cells := 0, slots := 0, locals := 96 } (D, cT, ad, NX, LX) (amQi M (D, cT, ad, NX, LX) z) 4 12 [(0, .ref (ad 0)), (1, .int x1)] [] σ := by
  induction n with
  | zero =>
    intro σ x1 h
    have h2 : (none : Option (Int32 × Sg)) = some z := h
    cases h2
  | succ n ih =>
    intro σ x1 h
    exact t_X9_spareEvents_b12 X (k12 := f_X9_spareEvents_l12 n) ih σ x1 h
set_option maxRecDepth 100000 in
set_option maxHeartbeats 4000000 in
theorem c_X9_spareEvents (l : Launch) {σ : Sg} {z : Int32 × Sg} (h : f_X9_spareEvents σ = some z) : am_Met l yX9_spareEvents cX9_spareEvents 4 (some .int) { frames := 4, cells := 0, slots := 0, locals := 96 } NX LX (fun ad => [.ref (ad 0)]) σ z.2 (fun _ => some (.int z.1)) := by
  refine am_enter (by decide +kernel) (fun ad => Nat.le_of_ble_eq_true rfl) (fun M D cT ad hl X => ?_)
  subst hl
  refine r_lv (lv' := [(0, .ref (ad 0))]) rfl ?_
  unfold f_X9_spareEvents at h
  refine r_aload_n X dX9_spareEvents_0 rfl 0 rfl ?_
  refine r_iconst (v := 0) X dX9_spareEvents_1 (by decide) ?_
  obtain ⟨r1, σ2, hc_3, h⟩ := bnd_of h
  refine r_callV (As := [.int (0 : Int32)]) (rest := []) (st2 := [.int r1]) (c := 0) X cv_X9_348 (c_X9_isRightWithout M.2.1 hc_3) rfl (ci := 8) rfl fX_0 rfl rfl (Nat.le_of_ble_eq_true rfl) ⟨⟨rfl, rfl⟩, by decide, by decide⟩ dX9_spareEvents_2 ⟨rfl, rfl⟩ rfl ?_
  refine r_if_eq X 10 dX9_spareEvents_5 (by decide) h (fun h => ?_) (fun h => ?_)
  · refine r_iconst (v := 0) X dX9_spareEvents_10 (by decide) ?_
    refine r_istore_n X [(1, .int (0 : Int32)), (0, .ref (ad 0))] dX9_spareEvents_11 rfl (by decide) rfl ?_
    refine r_sub (lv' := [(0, .ref (ad 0)), (1, .int (0 : Int32))]) [1, 0] rfl ?_
    exact t_X9_spareEvents_l12 X 300 σ2 (0 : Int32) h
  · refine r_iconst (v := 0) X dX9_spareEvents_8 (by decide) ?_
    exact r_iretz X rfl dX9_spareEvents_9 h
set_option maxRecDepth 100000 in
set_option maxHeartbeats 4000000 in
theorem t_X9_placeOfBit_b28 {M : am_M} {D : va_G} {cT : Nat → ClassId} {ad : Nat → Nat} (X : am_X M (D, cT, ad, NX, LX) cX9_placeOfBit RX9 4 (some .int)) {z : Int32 × Sg} {k4 : Sg → Int32 → Int32 → Int32 → Int32 → Option (Int32 × Sg)} (hk4 : ∀ (σ : Sg) (x0 : Int32) (x1 : Int32) (x2 : Int32) (x3 : Int32), k4 σ x0 x1 x2 x3 = some z → am_At M { frames := 0, cells := 0, slots := 0, locals := 0 } (D, cT, ad, NX, LX) (amQi M (D, cT, ad, NX, LX) z) 4 4 [(0, .int x0), (1, .int x1), (2, .int x2), (3, .int x3)] [] σ) (σ : Sg) (x0 : Int32) (x1 : Int32) (x2 : Int32) (x3 : Int32) (h : f_X9_placeOfBit_b28 k4 σ x0 x1 x2 x3 = some z) : am_At M { frames := 0, cells := 0, slots := 0, locals := 0 } (D, cT, ad, NX, LX) (amQi M (D, cT, ad, NX, LX) z) 4 28 [(0, .int x0), (1, .int x1), (2, .int x2), (3, .int x3)] [] σ := by
  unfold f_X9_placeOfBit_b28 at h
  refine r_iinc X [(3, .int (x3 + (1 : Int32))), (0, .int x0), (1, .int x1), (2, .int x2)] dX9_placeOfBit_28 3 rfl (v := x3 + (1 : Int32)) (by rfl) (by decide) rfl ?_
  refine r_letv h (fun v1 h => ?_)
  refine r_goto X 4 dX9_placeOfBit_31 (by decide) ?_
  refine r_sub (lv' := [(0, .int x0), (1, .int x1), (2, .int x2), (3, .int v1)]) [1, 2, 3, 0] rfl ?_
  exact hk4 σ x0 x1 x2 v1 h
set_option maxRecDepth 100000 in
set_option maxHeartbeats 4000000 in
theorem t_X9_placeOfBit_b4 {M : am_M} {D : va_G} {cT : Nat → ClassId} {ad : Nat → Nat} (X : am_X M (D, cT, ad, NX, LX) cX9_placeOfBit RX9 4 (some .int)) {z : Int32 × Sg} {k4 : Sg → Int32 → Int32 → Int32 → Int32 → Option (Int32 × Sg)} (hk4 : ∀ (σ : Sg) (x0 : Int32) (x1 : Int32) (x2 : Int32) (x3 : Int32), k4 σ x0 x1 x2 x3 = some z → am_At M { frames := 0, cells := 0, slots := 0, locals := 0 } (D, cT, ad, NX, LX) (amQi M (D, cT, ad, NX, LX) z) 4 4 [(0, .int x0), (1, .int x1), (2, .int x2), (3, .int x3)] [] σ) (σ : Sg) (x0 : Int32) (x1 : Int32) (x2 : Int32) (x3 : Int32) (h : f_X9_placeOfBit_b4 k4 σ x0 x1 x2 x3 = some z) : am_At M { frames := 0, cells := 0, slots := 0, locals := 0 } (D, cT, ad, NX, LX) (amQi M (D, cT, ad, NX, LX) z) 4 4 [(0, .int x0), (1, .int x1), (2, .int x2), (3, .int x3)] [] σ := by
  unfold f_X9_placeOfBit_b4 at h
  refine r_iload_n X dX9_placeOfBit_4 rfl 3 rfl ?_
  refine r_bipush (v := 8) X dX9_placeOfBit_5 (by decide) ?_
  refine r_icmp_ge X 34 dX9_placeOfBit_7 (by decide) h (fun h => ?_) (fun h => ?_)
  · refine r_iconst (v := -1) X dX9_placeOfBit_34 (by decide) ?_
    exact r_iretz X rfl dX9_placeOfBit_35 h
  · refine r_iload_n X dX9_placeOfBit_10 rfl 0 rfl ?_
    refine r_iload_n X dX9_placeOfBit_11 rfl 3 rfl ?_
    refine r_ishr X dX9_placeOfBit_12 ?_
    refine r_iconst (v := 1) X dX9_placeOfBit_13 (by decide) ?_
    refine r_iand X dX9_placeOfBit_14 ?_
    refine r_if_eq X 28 dX9_placeOfBit_15 (by decide) h (fun h => ?_) (fun h => ?_)
    · exact t_X9_placeOfBit_b28 X hk4 σ x0 x1 x2 x3 h
    · refine r_iload_n X dX9_placeOfBit_18 rfl 2 rfl ?_
      refine r_iload_n X dX9_placeOfBit_19 rfl 1 rfl ?_
      refine r_icmp_ne X 25 dX9_placeOfBit_20 (by decide) h (fun h => ?_) (fun h => ?_)
      · refine r_iload_n X dX9_placeOfBit_23 rfl 3 rfl ?_
        exact r_iretz X rfl dX9_placeOfBit_24 h
      · refine r_iinc X [(2, .int (x2 + (1 : Int32))), (0, .int x0), (1, .int x1), (3, .int x3)] dX9_placeOfBit_25 2 rfl (v := x2 + (1 : Int32)) (by rfl) (by decide) rfl ?_
        refine r_letv h (fun v1 h => ?_)
        refine r_sub (lv' := [(0, .int x0), (1, .int x1), (2, .int v1), (3, .int x3)]) [1, 2, 0, 3] rfl ?_
        exact t_X9_placeOfBit_b28 X hk4 σ x0 x1 v1 x3 h
theorem t_X9_placeOfBit_l4 {M : am_M} {D : va_G} {cT : Nat → ClassId} {ad : Nat → Nat} (X : am_X M (D, cT, ad, NX, LX) cX9_placeOfBit RX9 4 (some .int)) {z : Int32 × Sg} (n : Nat) : ∀ (σ : Sg) (x0 : Int32) (x1 : Int32) (x2 : Int32) (x3 : Int32), f_X9_placeOfBit_l4 n σ x0 x1 x2 x3 = some z → am_At M { frames := 0, cells := 0, slots := 0, locals := 0 } (D, cT, ad, NX, LX) (amQi M (D, cT, ad, NX, LX) z) 4 4 [(0, .int x0), (1, .int x1), (2, .int x2), (3, .int x3)] [] σ := by
  induction n with
  | zero =>
    intro σ x0 x1 x2 x3 h
    have h2 : (none : Option (Int32 × Sg)) = some z := h
    cases h2
  | succ n ih =>
    intro σ x0 x1 x2 x3 h
    exact t_X9_placeOfBit_b4 X (k4 := f_X9_placeOfBit_l4 n) ih σ x0 x1 x2 x3 h
set_option maxRecDepth 100000 in
set_option maxHeartbeats 4000000 in
theorem c_X9_placeOfBit (l : Launch) {σ : Sg} {a0 : Int32} {a1 : Int32} {z : Int32 × Sg} (h : f_X9_placeOfBit σ a0 a1 = some z) : am_Met l yX9_placeOfBit cX9_placeOfBit 4 (some .int) { frames := 0, cells := 0, slots := 0, locals := 0 } NX LX (fun ad => [.int a0, .int a1]) σ z.2 (fun _ => some (.int z.1)) := by
  refine am_enter (by decide +kernel) (fun ad => Nat.le_of_ble_eq_true rfl) (fun M D cT ad hl X => ?_)
  subst hl
  refine r_lv (lv' := [(0, .int a0), (1, .int a1)]) rfl ?_
  unfold f_X9_placeOfBit at h
  refine r_iconst (v := 0) X dX9_placeOfBit_0 (by decide) ?_
  refine r_istore_n X [(2, .int (0 : Int32)), (0, .int a0), (1, .int a1)] dX9_placeOfBit_1 rfl (by decide) rfl ?_
  refine r_iconst (v := 0) X dX9_placeOfBit_2 (by decide) ?_
  refine r_istore_n X [(3, .int (0 : Int32)), (2, .int (0 : Int32)), (0, .int a0), (1, .int a1)] dX9_placeOfBit_3 rfl (by decide) rfl ?_
  refine r_sub (lv' := [(0, .int a0), (1, .int a1), (2, .int (0 : Int32)), (3, .int (0 : Int32))]) [2, 3, 1, 0] rfl ?_
  exact t_X9_placeOfBit_l4 X 300 σ a0 a1 (0 : Int32) (0 : Int32) h
set_option maxRecDepth 100000 in
set_option maxHeartbeats 4000000 in
theorem t_X9_spare_b16 {M : am_M} {D : va_G} {cT : Nat → ClassId} {ad : Nat → Nat} (X : am_X M (D, cT, ad, NX, LX) cX9_spare RX9 3 (some .int)) {z : Int32 × Sg} (σ : Sg) (x1 : Int32) (h : f_X9_spare_b16 σ x1 = some z) : am_At M { frames := 5, cells := 0, slots := 0, locals := 119 } (D, cT, ad, NX, LX) (amQi M (D, cT, ad, NX, LX) z) 3 16 [(0, .ref (ad 0)), (1, .int x1)] [] σ := by
  unfold f_X9_spare_b16 at h
  refine r_aload_n X dX9_spare_16 rfl 0 rfl ?_
  obtain ⟨r1, σ2, hc_9, h⟩ := bnd_of h
  refine r_callV (As := []) (rest := []) (st2 := [.int r1]) (c := 0) X cv_X9_226 (c_X9_spareEvents M.2.1 hc_9) rfl (ci := 8) rfl fX_0 rfl rfl (Nat.le_of_ble_eq_true rfl) ⟨⟨rfl, rfl⟩, by decide, by decide⟩ dX9_spare_17 ⟨rfl, rfl⟩ rfl ?_
  refine r_istore_n X [(2, .int r1), (0, .ref (ad 0)), (1, .int x1)] dX9_spare_20 rfl (by decide) rfl ?_
  refine r_iload_n X dX9_spare_21 rfl 0 rfl ?_
  refine r_iconst (v := -1) X dX9_spare_22 (by decide) ?_
  refine r_icmp_ne X 28 dX9_spare_23 (by decide) h (fun h => ?_) (fun h => ?_)
  · refine r_iconst (v := -1) X dX9_spare_26 (by decide) ?_
    exact r_iretz X rfl dX9_spare_27 h
  · refine r_iload_n X dX9_spare_28 rfl 2 rfl ?_
    refine r_iconst (v := -1) X dX9_spare_29 (by decide) ?_
    refine r_icmp_ne X 40 dX9_spare_30 (by decide) h (fun h => ?_) (fun h => ?_)
    · refine r_iload_n X dX9_spare_33 rfl 0 rfl ?_
      obtain ⟨r6, σ7, hc_8, h⟩ := bnd_of h
      refine r_callS (As := [.int r1]) (rest := []) (st2 := [.int r6]) X cv_X9_181 (c_J6_bitCount_0f7a4 M.2.1 hc_8) rfl rfl rfl (Nat.le_of_ble_eq_true rfl) ⟨⟨rfl, rfl⟩, by decide, by decide⟩ dX9_spare_34 ⟨rfl, rfl⟩ rfl ?_
      refine r_goto X 45 dX9_spare_37 (by decide) ?_
      exact r_iretz X rfl dX9_spare_45 h
    · refine r_iload_n X dX9_spare_40 rfl 0 rfl ?_
      refine r_iload_n X dX9_spare_41 rfl 2 rfl ?_
      obtain ⟨r3, σ4, hc_5, h⟩ := bnd_of h
      refine r_callS (As := [.int r1, .int x1]) (rest := []) (st2 := [.int r3]) X cv_X9_230 (c_X9_placeOfBit M.2.1 hc_5) rfl rfl rfl (Nat.le_of_ble_eq_true rfl) ⟨⟨rfl, rfl⟩, by decide, by decide⟩ dX9_spare_42 ⟨rfl, rfl⟩ rfl ?_
      exact r_iretz X rfl dX9_spare_45 h
set_option maxRecDepth 100000 in
set_option maxHeartbeats 4000000 in
theorem c_X9_spare (l : Launch) {σ : Sg} {a1 : Int32} {z : Int32 × Sg} (h : f_X9_spare σ a1 = some z) : am_Met l yX9_spare cX9_spare 3 (some .int) { frames := 5, cells := 0, slots := 0, locals := 119 } NX LX (fun ad => [.ref (ad 0), .int a1]) σ z.2 (fun _ => some (.int z.1)) := by
  refine am_enter (by decide +kernel) (fun ad => Nat.le_of_ble_eq_true rfl) (fun M D cT ad hl X => ?_)
  subst hl
  refine r_lv (lv' := [(0, .ref (ad 0)), (1, .int a1)]) rfl ?_
  unfold f_X9_spare at h
  refine r_iload_n X dX9_spare_0 rfl 1 rfl ?_
  refine r_iconst (v := -1) X dX9_spare_1 (by decide) ?_
  refine r_icmp_eq X 16 dX9_spare_2 (by decide) h (fun h => ?_) (fun h => ?_)
  · exact t_X9_spare_b16 X σ a1 h
  · refine r_iload_n X dX9_spare_5 rfl 1 rfl ?_
    refine r_iconst (v := 2) X dX9_spare_6 (by decide) ?_
    obtain ⟨r1, σ2, hc_3, h⟩ := bnd_of h
    refine r_callS (As := [.int a1, .int (2 : Int32)]) (rest := []) (st2 := [.int r1]) X cv_X9_91 (c_X9_isBelow M.2.1 hc_3) rfl rfl rfl (Nat.le_of_ble_eq_true rfl) ⟨⟨rfl, rfl⟩, by decide, by decide⟩ dX9_spare_7 ⟨rfl, rfl⟩ rfl ?_
    refine r_if_ne X 16 dX9_spare_10 (by decide) h (fun h => ?_) (fun h => ?_)
    · refine r_bipush (v := -2) X dX9_spare_13 (by decide) ?_
      exact r_iretz X rfl dX9_spare_15 h
    · exact t_X9_spare_b16 X σ2 a1 h
set_option maxRecDepth 100000 in
set_option maxHeartbeats 4000000 in
theorem c_X7_add (l : Launch) {σ : Sg} {a1 : Int32} {a2 : Int32} {a3 : Int32} {z : Unit × Sg} (h : f_X7_add σ a1 a2 a3 = some z) : am_Met l yX7_add cX7_add 4 none { frames := 0, cells := 0, slots := 0, locals := 0 } NX LX (fun ad => [.ref (ad 24), .int a1, .int a2, .int a3]) σ z.2 (fun _ => none) := by
  refine am_enter (by decide +kernel) (fun ad => Nat.le_of_ble_eq_true rfl) (fun M D cT ad hl X => ?_)
  subst hl
  refine r_lv (lv' := [(0, .ref (ad 24)), (1, .int a1), (2, .int a2), (3, .int a3)]) rfl ?_
  unfold f_X7_add at h
  refine r_aload_n X dX7_add_0 rfl 0 rfl ?_
  refine r_getI X fg_X7_21_X7 fX_24 rfl dX7_add_1 ?_
  refine r_bipush (v := 8) X dX7_add_4 (by decide) ?_
  refine r_icmp_ge X 49 dX7_add_6 (by decide) h (fun h => ?_) (fun h => ?_)
  · exact r_vretz X rfl dX7_add_49 h
  · refine r_aload_n X dX7_add_9 rfl 0 rfl ?_
    refine r_getR (c1 := 25) X fg_X7_9_X7 fX_24 rfl dX7_add_10 ?_
    refine r_aload_n X dX7_add_13 rfl 0 rfl ?_
    refine r_getI X fg_X7_21_X7 fX_24 rfl dX7_add_14 ?_
    refine r_iload_n X dX7_add_17 rfl 1 rfl ?_
    refine r_iast X fX_25 dX7_add_18 h (fun σ1 h => ?_)
    refine r_aload_n X dX7_add_19 rfl 0 rfl ?_
    refine r_getR (c1 := 26) X fg_X7_15_X7 fX_24 rfl dX7_add_20 ?_
    refine r_aload_n X dX7_add_23 rfl 0 rfl ?_
    refine r_getI X fg_X7_21_X7 fX_24 rfl dX7_add_24 ?_
    refine r_iload_n X dX7_add_27 rfl 2 rfl ?_
    refine r_iast X fX_26 dX7_add_28 h (fun σ2 h => ?_)
    refine r_aload_n X dX7_add_29 rfl 0 rfl ?_
    refine r_getR (c1 := 27) X fg_X7_18_X7 fX_24 rfl dX7_add_30 ?_
    refine r_aload_n X dX7_add_33 rfl 0 rfl ?_
    refine r_getI X fg_X7_21_X7 fX_24 rfl dX7_add_34 ?_
    refine r_iload_n X dX7_add_37 rfl 3 rfl ?_
    refine r_iast X fX_27 dX7_add_38 h (fun σ3 h => ?_)
    refine r_aload_n X dX7_add_39 rfl 0 rfl ?_
    refine r_dup X dX7_add_40 rfl ?_
    refine r_getI X fg_X7_21_X7 fX_24 rfl dX7_add_41 ?_
    refine r_iconst (v := 1) X dX7_add_44 (by decide) ?_
    refine r_iadd X dX7_add_45 ?_
    refine r_putI X fp_X7_21_X7 fX_24 rfl dX7_add_46 h (fun σ4 h => ?_)
    exact r_vretz X rfl dX7_add_49 h
set_option maxRecDepth 100000 in
set_option maxHeartbeats 4000000 in
theorem c_X9_seen (l : Launch) {σ : Sg} {a1 : Int32} {a2 : Int32} {a3 : Int32} {z : Int32 × Sg} (h : f_X9_seen σ a1 a2 a3 = some z) : am_Met l yX9_seen cX9_seen 4 (some .int) { frames := 1, cells := 0, slots := 0, locals := 23 } NX LX (fun ad => [.ref (ad 0), .int a1, .int a2, .int a3]) σ z.2 (fun _ => some (.int z.1)) := by
  refine am_enter (by decide +kernel) (fun ad => Nat.le_of_ble_eq_true rfl) (fun M D cT ad hl X => ?_)
  subst hl
  refine r_lv (lv' := [(0, .ref (ad 0)), (1, .int a1), (2, .int a2), (3, .int a3)]) rfl ?_
  unfold f_X9_seen at h
  refine r_iload_n X dX9_seen_0 rfl 1 rfl ?_
  refine r_bipush (v := 24) X dX9_seen_1 (by decide) ?_
  obtain ⟨r1, σ2, hc_12, h⟩ := bnd_of h
  refine r_callS (As := [.int a1, .int (24 : Int32)]) (rest := []) (st2 := [.int r1]) X cv_X9_91 (c_X9_isBelow M.2.1 hc_12) rfl rfl rfl (Nat.le_of_ble_eq_true rfl) ⟨⟨rfl, rfl⟩, by decide, by decide⟩ dX9_seen_3 ⟨rfl, rfl⟩ rfl ?_
  refine r_if_eq X 26 dX9_seen_6 (by decide) h (fun h => ?_) (fun h => ?_)
  · refine r_bipush (v := -2) X dX9_seen_26 (by decide) ?_
    exact r_iretz X rfl dX9_seen_28 h
  · refine r_iload_n X dX9_seen_9 rfl 2 rfl ?_
    refine r_bipush (v := 8) X dX9_seen_10 (by decide) ?_
    obtain ⟨r3, σ4, hc_11, h⟩ := bnd_of h
    refine r_callS (As := [.int a2, .int (8 : Int32)]) (rest := []) (st2 := [.int r3]) X cv_X9_91 (c_X9_isBelow M.2.1 hc_11) rfl rfl rfl (Nat.le_of_ble_eq_true rfl) ⟨⟨rfl, rfl⟩, by decide, by decide⟩ dX9_seen_12 ⟨rfl, rfl⟩ rfl ?_
    refine r_if_eq X 26 dX9_seen_15 (by decide) h (fun h => ?_) (fun h => ?_)
    · refine r_bipush (v := -2) X dX9_seen_26 (by decide) ?_
      exact r_iretz X rfl dX9_seen_28 h
    · refine r_iload_n X dX9_seen_18 rfl 3 rfl ?_
      refine r_iconst (v := 2) X dX9_seen_19 (by decide) ?_
      obtain ⟨r5, σ6, hc_10, h⟩ := bnd_of h
      refine r_callS (As := [.int a3, .int (2 : Int32)]) (rest := []) (st2 := [.int r5]) X cv_X9_91 (c_X9_isBelow M.2.1 hc_10) rfl rfl rfl (Nat.le_of_ble_eq_true rfl) ⟨⟨rfl, rfl⟩, by decide, by decide⟩ dX9_seen_20 ⟨rfl, rfl⟩ rfl ?_
      refine r_if_ne X 29 dX9_seen_23 (by decide) h (fun h => ?_) (fun h => ?_)
      · refine r_bipush (v := -2) X dX9_seen_26 (by decide) ?_
        exact r_iretz X rfl dX9_seen_28 h
      · refine r_aload_n X dX9_seen_29 rfl 0 rfl ?_
        refine r_getR (c1 := 24) X fg_X9_48_X9 fX_0 rfl dX9_seen_30 ?_
        refine r_getI X fg_X9_233_X7 fX_24 rfl dX9_seen_33 ?_
        refine r_bipush (v := 8) X dX9_seen_36 (by decide) ?_
        refine r_icmp_lt X 44 dX9_seen_38 (by decide) h (fun h => ?_) (fun h => ?_)
        · refine r_aload_n X dX9_seen_44 rfl 0 rfl ?_
          refine r_getR (c1 := 24) X fg_X9_48_X9 fX_0 rfl dX9_seen_45 ?_
          refine r_iload_n X dX9_seen_48 rfl 1 rfl ?_
          refine r_iload_n X dX9_seen_49 rfl 2 rfl ?_
          refine r_iload_n X dX9_seen_50 rfl 3 rfl ?_
          obtain ⟨r7, σ8, hc_9, h⟩ := bnd_of h
          refine r_callV (As := [.int a1, .int a2, .int a3]) (rest := []) (st2 := []) (c := 24) X cv_X9_234 (c_X7_add M.2.1 hc_9) rfl (ci := 6) rfl fX_24 rfl rfl (Nat.le_of_ble_eq_true rfl) ⟨⟨rfl, rfl⟩, by decide, by decide⟩ dX9_seen_51 ⟨rfl, rfl⟩ rfl ?_
          refine r_aload_n X dX9_seen_54 rfl 0 rfl ?_
          refine r_getR (c1 := 24) X fg_X9_48_X9 fX_0 rfl dX9_seen_55 ?_
          refine r_getI X fg_X9_233_X7 fX_24 rfl dX9_seen_58 ?_
          exact r_iretz X rfl dX9_seen_61 h
        · refine r_bipush (v := -4) X dX9_seen_41 (by decide) ?_
          exact r_iretz X rfl dX9_seen_43 h
set_option maxRecDepth 100000 in
set_option maxHeartbeats 4000000 in
theorem c_X9_forget (l : Launch) {σ : Sg} {z : Int32 × Sg} (h : f_X9_forget σ = some z) : am_Met l yX9_forget cX9_forget 2 (some .int) { frames := 0, cells := 0, slots := 0, locals := 0 } NX LX (fun ad => [.ref (ad 0)]) σ z.2 (fun _ => some (.int z.1)) := by
  refine am_enter (by decide +kernel) (fun ad => Nat.le_of_ble_eq_true rfl) (fun M D cT ad hl X => ?_)
  subst hl
  refine r_lv (lv' := [(0, .ref (ad 0))]) rfl ?_
  unfold f_X9_forget at h
  refine r_aload_n X dX9_forget_0 rfl 0 rfl ?_
  refine r_getR (c1 := 24) X fg_X9_48_X9 fX_0 rfl dX9_forget_1 ?_
  refine r_getI X fg_X9_233_X7 fX_24 rfl dX9_forget_4 ?_
  refine r_leti h (fun v1 h => ?_)
  refine r_istore_n X [(1, .int v1), (0, .ref (ad 0))] dX9_forget_7 rfl (by decide) rfl ?_
  refine r_aload_n X dX9_forget_8 rfl 1 rfl ?_
  refine r_getR (c1 := 24) X fg_X9_48_X9 fX_0 rfl dX9_forget_9 ?_
  refine r_iconst (v := 0) X dX9_forget_12 (by decide) ?_
  refine r_putI X fp_X9_233_X7 fX_24 rfl dX9_forget_13 h (fun σ2 h => ?_)
  refine r_iload_n X dX9_forget_16 rfl 0 rfl ?_
  exact r_iretz X rfl dX9_forget_17 h
