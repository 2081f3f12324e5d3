set_option maxRecDepth 100000 in
set_option maxHeartbeats 4000000 in
theorem c_X10_in (l : Launch) {σ : Sg} {a0 : Int32} {a1 : Int32} {a2 : Int32} {z : Int32 × Sg} (h : f_X10_in σ a0 a1 a2 = some z) : am_Met l yX10_in cX10_in 3 (some .boolean) { frames := 0, cells := 0, slots := 0, locals := 0 } NM LM (fun ad => [.int a0, .int a1, .int a2]) σ z.2 (fun _ => some (.int z.1)) := by
  refine am_enter (by decide +kernel) (fun ad => Nat.le_of_ble_eq_true rfl) (fun M D cT ad hl X => ?_)
  subst hl
  refine r_lv (lv' := [(0, .int a0), (1, .int a1), (2, .int a2)]) rfl ?_
  unfold f_X10_in at h
  refine r_iload_n X dX10_in_0 rfl 0 rfl ?_
  refine r_iload_n X dX10_in_1 rfl 1 rfl ?_
  refine r_icmp_lt X 14 dX10_in_2 (by decide) h (fun h => ?_) (fun h => ?_)
  · refine r_iconst (v := 0) X dX10_in_14 (by decide) ?_
    exact r_zretz X rfl (by decide) dX10_in_15 h
  · refine r_iload_n X dX10_in_5 rfl 0 rfl ?_
    refine r_iload_n X dX10_in_6 rfl 2 rfl ?_
    refine r_icmp_gt X 14 dX10_in_7 (by decide) h (fun h => ?_) (fun h => ?_)
    · refine r_iconst (v := 0) X dX10_in_14 (by decide) ?_
      exact r_zretz X rfl (by decide) dX10_in_15 h
    · refine r_iconst (v := 1) X dX10_in_10 (by decide) ?_
      refine r_goto X 15 dX10_in_11 (by decide) ?_
      exact r_zretz X rfl (by decide) dX10_in_15 h
set_option maxRecDepth 100000 in
set_option maxHeartbeats 4000000 in
theorem c_X10_isText (l : Launch) {σ : Sg} {a0 : Int32} {z : Int32 × Sg} (h : f_X10_isText σ a0 = some z) : am_Met l yX10_isText cX10_isText 1 (some .boolean) { frames := 1, cells := 0, slots := 0, locals := 22 } NM LM (fun ad => [.int a0]) σ z.2 (fun _ => some (.int z.1)) := by
  refine am_enter (by decide +kernel) (fun ad => Nat.le_of_ble_eq_true rfl) (fun M D cT ad hl X => ?_)
  subst hl
  refine r_lv (lv' := [(0, .int a0)]) rfl ?_
  unfold f_X10_isText at h
  refine r_iload_n X dX10_isText_0 rfl 0 rfl ?_
  refine r_iconst (v := 0) X dX10_isText_1 (by decide) ?_
  refine r_iconst (v := 1) X dX10_isText_2 (by decide) ?_
  obtain ⟨r1, σ2, hc_3, h⟩ := bnd_of h
  refine r_callS (As := [.int a0, .int (0 : Int32), .int (1 : Int32)]) (rest := []) (st2 := [.int r1]) X cv_X10_106 (c_X10_in M.2.1 hc_3) rfl rfl rfl (Nat.le_of_ble_eq_true rfl) ⟨⟨rfl, rfl⟩, by decide, by decide⟩ dX10_isText_3 ⟨rfl, rfl⟩ rfl ?_
  exact r_zretg X rfl dX10_isText_6 h
set_option maxRecDepth 100000 in
set_option maxHeartbeats 4000000 in
theorem t_X10_type_b38 {M : am_M} {D : va_G} {cT : Nat → ClassId} {ad : Nat → Nat} (X : am_X M (D, cT, ad, NM, LM) cX10_type RX10 3 (some .int)) {z : Int32 × Sg} (σ : Sg) (x1 : Int32) (x2 : Int32) (s0 : Int32) (s1 : Int32) (h : f_X10_type_b38 σ x1 x2 s0 s1 = some z) : am_At M { frames := 2, cells := 0, slots := 0, locals := 42 } (D, cT, ad, NM, LM) (amQi M (D, cT, ad, NM, LM) z) 3 38 [(0, .ref (ad 0)), (1, .int x1), (2, .int x2)] [.int s0, .int s1] σ := by
  unfold f_X10_type_b38 at h
  refine r_icmp_ne X 44 dX10_type_38 (by decide) h (fun h => ?_) (fun h => ?_)
  · refine r_bipush (v := -4) X dX10_type_41 (by decide) ?_
    exact r_iretz X rfl dX10_type_43 h
  · refine r_aload_n X dX10_type_44 rfl 0 rfl ?_
    refine r_getR (c1 := 2) X fg_X10_13_X10 fM_0 rfl dX10_type_45 ?_
    refine r_bipush (v := 39) X dX10_type_48 (by decide) ?_
    refine r_iload_n X dX10_type_50 rfl 1 rfl ?_
    refine r_imul X dX10_type_51 ?_
    refine r_aload_n X dX10_type_52 rfl 0 rfl ?_
    refine r_getR (c1 := 1) X fg_X10_7_X10 fM_0 rfl dX10_type_53 ?_
    refine r_iload_n X dX10_type_56 rfl 1 rfl ?_
    refine r_iald X fM_1 dX10_type_57 h (fun h => ?_)
    refine r_iadd X dX10_type_58 ?_
    refine r_iload_n X dX10_type_59 rfl 2 rfl ?_
    refine r_iast X fM_2 dX10_type_60 h (fun σ1 h => ?_)
    refine r_aload_n X dX10_type_61 rfl 0 rfl ?_
    refine r_getR (c1 := 1) X fg_X10_7_X10 fM_0 rfl dX10_type_62 ?_
    refine r_iload_n X dX10_type_65 rfl 1 rfl ?_
    refine r_dup2 X dX10_type_66 rfl rfl ?_
    refine r_iald X fM_1 dX10_type_67 h (fun h => ?_)
    refine r_iconst (v := 1) X dX10_type_68 (by decide) ?_
    refine r_iadd X dX10_type_69 ?_
    refine r_iast X fM_1 dX10_type_70 h (fun σ2 h => ?_)
    refine r_aload_n X dX10_type_71 rfl 0 rfl ?_
    refine r_getR (c1 := 1) X fg_X10_7_X10 fM_0 rfl dX10_type_72 ?_
    refine r_iload_n X dX10_type_75 rfl 1 rfl ?_
    refine r_iald X fM_1 dX10_type_76 h (fun h => ?_)
    exact r_iretz X rfl dX10_type_77 h
set_option maxRecDepth 100000 in
set_option maxHeartbeats 4000000 in
theorem c_X10_type (l : Launch) {σ : Sg} {a1 : Int32} {a2 : Int32} {z : Int32 × Sg} (h : f_X10_type σ a1 a2 = some z) : am_Met l yX10_type cX10_type 3 (some .int) { frames := 2, cells := 0, slots := 0, locals := 42 } NM LM (fun ad => [.ref (ad 0), .int a1, .int a2]) σ z.2 (fun _ => some (.int z.1)) := by
  refine am_enter (by decide +kernel) (fun ad => Nat.le_of_ble_eq_true rfl) (fun M D cT ad hl X => ?_)
  subst hl
  refine r_lv (lv' := [(0, .ref (ad 0)), (1, .int a1), (2, .int a2)]) rfl ?_
  unfold f_X10_type at h
  refine r_iload_n X dX10_type_0 rfl 1 rfl ?_
  obtain ⟨r1, σ2, hc_6, h⟩ := bnd_of h
  refine r_callS (As := [.int a1]) (rest := []) (st2 := [.int r1]) X cv_X10_110 (c_X10_isText M.2.1 hc_6) rfl rfl rfl (Nat.le_of_ble_eq_true rfl) ⟨⟨rfl, rfl⟩, by decide, by decide⟩ dX10_type_1 ⟨rfl, rfl⟩ rfl ?_
  refine r_if_eq X 18 dX10_type_4 (by decide) h (fun h => ?_) (fun h => ?_)
  · refine r_bipush (v := -2) X dX10_type_18 (by decide) ?_
    exact r_iretz X rfl dX10_type_20 h
  · refine r_iload_n X dX10_type_7 rfl 2 rfl ?_
    refine r_iconst (v := 0) X dX10_type_8 (by decide) ?_
    refine r_sipush (v := 255) X dX10_type_9 (by decide) ?_
    obtain ⟨r3, σ4, hc_5, h⟩ := bnd_of h
    refine r_callS (As := [.int a2, .int (0 : Int32), .int (255 : Int32)]) (rest := []) (st2 := [.int r3]) X cv_X10_106 (c_X10_in M.2.1 hc_5) rfl rfl rfl (Nat.le_of_ble_eq_true rfl) ⟨⟨rfl, rfl⟩, by decide, by decide⟩ dX10_type_12 ⟨rfl, rfl⟩ rfl ?_
    refine r_if_ne X 21 dX10_type_15 (by decide) h (fun h => ?_) (fun h => ?_)
    · refine r_bipush (v := -2) X dX10_type_18 (by decide) ?_
      exact r_iretz X rfl dX10_type_20 h
    · refine r_aload_n X dX10_type_21 rfl 0 rfl ?_
      refine r_getR (c1 := 1) X fg_X10_7_X10 fM_0 rfl dX10_type_22 ?_
      refine r_iload_n X dX10_type_25 rfl 1 rfl ?_
      refine r_iald X fM_1 dX10_type_26 h (fun h => ?_)
      refine r_iload_n X dX10_type_27 rfl 1 rfl ?_
      refine r_if_ne X 36 dX10_type_28 (by decide) h (fun h => ?_) (fun h => ?_)
      · refine r_bipush (v := 39) X dX10_type_31 (by decide) ?_
        refine r_goto X 38 dX10_type_33 (by decide) ?_
        exact t_X10_type_b38 X σ4 a1 a2 (39 : Int32) (σ4 1 (a1).toNatClampNeg) h
      · refine r_bipush (v := 31) X dX10_type_36 (by decide) ?_
        exact t_X10_type_b38 X σ4 a1 a2 (31 : Int32) (σ4 1 (a1).toNatClampNeg) h
set_option maxRecDepth 100000 in
set_option maxHeartbeats 4000000 in
theorem c_X10_wipe (l : Launch) {σ : Sg} {a1 : Int32} {z : Int32 × Sg} (h : f_X10_wipe σ a1 = some z) : am_Met l yX10_wipe cX10_wipe 3 (some .int) { frames := 2, cells := 0, slots := 0, locals := 42 } NM LM (fun ad => [.ref (ad 0), .int a1]) σ z.2 (fun _ => some (.int z.1)) := by
  refine am_enter (by decide +kernel) (fun ad => Nat.le_of_ble_eq_true rfl) (fun M D cT ad hl X => ?_)
  subst hl
  refine r_lv (lv' := [(0, .ref (ad 0)), (1, .int a1)]) rfl ?_
  unfold f_X10_wipe at h
  refine r_iload_n X dX10_wipe_0 rfl 1 rfl ?_
  obtain ⟨r1, σ2, hc_5, h⟩ := bnd_of h
  refine r_callS (As := [.int a1]) (rest := []) (st2 := [.int r1]) X cv_X10_110 (c_X10_isText M.2.1 hc_5) rfl rfl rfl (Nat.le_of_ble_eq_true rfl) ⟨⟨rfl, rfl⟩, by decide, by decide⟩ dX10_wipe_1 ⟨rfl, rfl⟩ rfl ?_
  refine r_if_ne X 10 dX10_wipe_4 (by decide) h (fun h => ?_) (fun h => ?_)
  · refine r_bipush (v := -2) X dX10_wipe_7 (by decide) ?_
    exact r_iretz X rfl dX10_wipe_9 h
  · refine r_aload_n X dX10_wipe_10 rfl 0 rfl ?_
    refine r_getR (c1 := 1) X fg_X10_7_X10 fM_0 rfl dX10_wipe_11 ?_
    refine r_iload_n X dX10_wipe_14 rfl 1 rfl ?_
    refine r_iald X fM_1 dX10_wipe_15 h (fun h => ?_)
    refine r_leti h (fun v3 h => ?_)
    refine r_istore_n X [(2, .int v3), (0, .ref (ad 0)), (1, .int a1)] dX10_wipe_16 rfl (by decide) rfl ?_
    refine r_aload_n X dX10_wipe_17 rfl 1 rfl ?_
    refine r_getR (c1 := 1) X fg_X10_7_X10 fM_0 rfl dX10_wipe_18 ?_
    refine r_iload_n X dX10_wipe_21 rfl 2 rfl ?_
    refine r_iconst (v := 0) X dX10_wipe_22 (by decide) ?_
    refine r_iast X fM_1 dX10_wipe_23 h (fun σ4 h => ?_)
    refine r_iload_n X dX10_wipe_24 rfl 0 rfl ?_
    exact r_iretz X rfl dX10_wipe_25 h
set_option maxRecDepth 100000 in
set_option maxHeartbeats 4000000 in
theorem c_X10_undo (l : Launch) {σ : Sg} {a1 : Int32} {z : Int32 × Sg} (h : f_X10_undo σ a1 = some z) : am_Met l yX10_undo cX10_undo 2 (some .int) { frames := 2, cells := 0, slots := 0, locals := 42 } NM LM (fun ad => [.ref (ad 0), .int a1]) σ z.2 (fun _ => some (.int z.1)) := by
  refine am_enter (by decide +kernel) (fun ad => Nat.le_of_ble_eq_true rfl) (fun M D cT ad hl X => ?_)
  subst hl
  refine r_lv (lv' := [(0, .ref (ad 0)), (1, .int a1)]) rfl ?_
  unfold f_X10_undo at h
  refine r_iload_n X dX10_undo_0 rfl 1 rfl ?_
  obtain ⟨r1, σ2, hc_4, h⟩ := bnd_of h
  refine r_callS (As := [.int a1]) (rest := []) (st2 := [.int r1]) X cv_X10_110 (c_X10_isText M.2.1 hc_4) rfl rfl rfl (Nat.le_of_ble_eq_true rfl) ⟨⟨rfl, rfl⟩, by decide, by decide⟩ dX10_undo_1 ⟨rfl, rfl⟩ rfl ?_
  refine r_if_ne X 10 dX10_undo_4 (by decide) h (fun h => ?_) (fun h => ?_)
  · refine r_bipush (v := -2) X dX10_undo_7 (by decide) ?_
    exact r_iretz X rfl dX10_undo_9 h
  · refine r_aload_n X dX10_undo_10 rfl 0 rfl ?_
    refine r_getR (c1 := 1) X fg_X10_7_X10 fM_0 rfl dX10_undo_11 ?_
    refine r_iload_n X dX10_undo_14 rfl 1 rfl ?_
    refine r_iald X fM_1 dX10_undo_15 h (fun h => ?_)
    refine r_if_ne X 22 dX10_undo_16 (by decide) h (fun h => ?_) (fun h => ?_)
    · refine r_bipush (v := -3) X dX10_undo_19 (by decide) ?_
      exact r_iretz X rfl dX10_undo_21 h
    · refine r_aload_n X dX10_undo_22 rfl 0 rfl ?_
      refine r_getR (c1 := 1) X fg_X10_7_X10 fM_0 rfl dX10_undo_23 ?_
      refine r_iload_n X dX10_undo_26 rfl 1 rfl ?_
      refine r_dup2 X dX10_undo_27 rfl rfl ?_
      refine r_iald X fM_1 dX10_undo_28 h (fun h => ?_)
      refine r_iconst (v := 1) X dX10_undo_29 (by decide) ?_
      refine r_isub X dX10_undo_30 ?_
      refine r_iast X fM_1 dX10_undo_31 h (fun σ3 h => ?_)
      refine r_aload_n X dX10_undo_32 rfl 0 rfl ?_
      refine r_getR (c1 := 1) X fg_X10_7_X10 fM_0 rfl dX10_undo_33 ?_
      refine r_iload_n X dX10_undo_36 rfl 1 rfl ?_
      refine r_iald X fM_1 dX10_undo_37 h (fun h => ?_)
      exact r_iretz X rfl dX10_undo_38 h
set_option maxRecDepth 100000 in
set_option maxHeartbeats 4000000 in
theorem c_X10_byteAt (l : Launch) {σ : Sg} {a1 : Int32} {a2 : Int32} {z : Int32 × Sg} (h : f_X10_byteAt σ a1 a2 = some z) : am_Met l yX10_byteAt cX10_byteAt 3 (some .int) { frames := 0, cells := 0, slots := 0, locals := 0 } NM LM (fun ad => [.ref (ad 0), .int a1, .int a2]) σ z.2 (fun _ => some (.int z.1)) := by
  refine am_enter (by decide +kernel) (fun ad => Nat.le_of_ble_eq_true rfl) (fun M D cT ad hl X => ?_)
  subst hl
  refine r_lv (lv' := [(0, .ref (ad 0)), (1, .int a1), (2, .int a2)]) rfl ?_
  unfold f_X10_byteAt at h
  refine r_iload_n X dX10_byteAt_0 rfl 2 rfl ?_
  refine r_aload_n X dX10_byteAt_1 rfl 0 rfl ?_
  refine r_getR (c1 := 1) X fg_X10_7_X10 fM_0 rfl dX10_byteAt_2 ?_
  refine r_iload_n X dX10_byteAt_5 rfl 1 rfl ?_
  refine r_iald X fM_1 dX10_byteAt_6 h (fun h => ?_)
  refine r_icmp_ge X 24 dX10_byteAt_7 (by decide) h (fun h => ?_) (fun h => ?_)
  · refine r_iconst (v := -1) X dX10_byteAt_24 (by decide) ?_
    exact r_iretz X rfl dX10_byteAt_25 h
  · refine r_aload_n X dX10_byteAt_10 rfl 0 rfl ?_
    refine r_getR (c1 := 2) X fg_X10_13_X10 fM_0 rfl dX10_byteAt_11 ?_
    refine r_bipush (v := 39) X dX10_byteAt_14 (by decide) ?_
    refine r_iload_n X dX10_byteAt_16 rfl 1 rfl ?_
    refine r_imul X dX10_byteAt_17 ?_
    refine r_iload_n X dX10_byteAt_18 rfl 2 rfl ?_
    refine r_iadd X dX10_byteAt_19 ?_
    refine r_iald X fM_2 dX10_byteAt_20 h (fun h => ?_)
    refine r_goto X 25 dX10_byteAt_21 (by decide) ?_
    exact r_iretz X rfl dX10_byteAt_25 h
set_option maxRecDepth 100000 in
set_option maxHeartbeats 4000000 in
theorem c_X10_isEight (l : Launch) {σ : Sg} {a0 : Int32} {z : Int32 × Sg} (h : f_X10_isEight σ a0 = some z) : am_Met l yX10_isEight cX10_isEight 1 (some .boolean) { frames := 1, cells := 0, slots := 0, locals := 22 } NM LM (fun ad => [.int a0]) σ z.2 (fun _ => some (.int z.1)) := by
  refine am_enter (by decide +kernel) (fun ad => Nat.le_of_ble_eq_true rfl) (fun M D cT ad hl X => ?_)
  subst hl
  refine r_lv (lv' := [(0, .int a0)]) rfl ?_
  unfold f_X10_isEight at h
  refine r_iload_n X dX10_isEight_0 rfl 0 rfl ?_
  refine r_iconst (v := 0) X dX10_isEight_1 (by decide) ?_
  refine r_bipush (v := 7) X dX10_isEight_2 (by decide) ?_
  obtain ⟨r1, σ2, hc_3, h⟩ := bnd_of h
  refine r_callS (As := [.int a0, .int (0 : Int32), .int (7 : Int32)]) (rest := []) (st2 := [.int r1]) X cv_X10_106 (c_X10_in M.2.1 hc_3) rfl rfl rfl (Nat.le_of_ble_eq_true rfl) ⟨⟨rfl, rfl⟩, by decide, by decide⟩ dX10_isEight_4 ⟨rfl, rfl⟩ rfl ?_
  exact r_zretg X rfl dX10_isEight_7 h
set_option maxRecDepth 100000 in
set_option maxHeartbeats 4000000 in
theorem c_X10_isNight (l : Launch) {σ : Sg} {a0 : Int32} {z : Int32 × Sg} (h : f_X10_isNight σ a0 = some z) : am_Met l yX10_isNight cX10_isNight 1 (some .boolean) { frames := 1, cells := 0, slots := 0, locals := 22 } NM LM (fun ad => [.int a0]) σ z.2 (fun _ => some (.int z.1)) := by
  refine am_enter (by decide +kernel) (fun ad => Nat.le_of_ble_eq_true rfl) (fun M D cT ad hl X => ?_)
  subst hl
  refine r_lv (lv' := [(0, .int a0)]) rfl ?_
  unfold f_X10_isNight at h
  refine r_iload_n X dX10_isNight_0 rfl 0 rfl ?_
  refine r_iconst (v := 0) X dX10_isNight_1 (by decide) ?_
  refine r_bipush (v := 23) X dX10_isNight_2 (by decide) ?_
  obtain ⟨r1, σ2, hc_3, h⟩ := bnd_of h
  refine r_callS (As := [.int a0, .int (0 : Int32), .int (23 : Int32)]) (rest := []) (st2 := [.int r1]) X cv_X10_106 (c_X10_in M.2.1 hc_3) rfl rfl rfl (Nat.le_of_ble_eq_true rfl) ⟨⟨rfl, rfl⟩, by decide, by decide⟩ dX10_isNight_4 ⟨rfl, rfl⟩ rfl ?_
  exact r_zretg X rfl dX10_isNight_7 h
set_option maxRecDepth 100000 in
set_option maxHeartbeats 4000000 in
theorem c_X10_readsNeed (l : Launch) {σ : Sg} {a1 : Int32} {a2 : Int32} {z : Int32 × Sg} (h : f_X10_readsNeed σ a1 a2 = some z) : am_Met l yX10_readsNeed cX10_readsNeed 6 (some .int) { frames := 2, cells := 0, slots := 0, locals := 42 } NM LM (fun ad => [.ref (ad 0), .int a1, .int a2]) σ z.2 (fun _ => some (.int z.1)) := by
  refine am_enter (by decide +kernel) (fun ad => Nat.le_of_ble_eq_true rfl) (fun M D cT ad hl X => ?_)
  subst hl
  refine r_lv (lv' := [(0, .ref (ad 0)), (1, .int a1), (2, .int a2)]) rfl ?_
  unfold f_X10_readsNeed at h
  refine r_aload_n X dX10_readsNeed_0 rfl 0 rfl ?_
  refine r_iconst (v := 1) X dX10_readsNeed_1 (by decide) ?_
  refine r_iload_n X dX10_readsNeed_2 rfl 2 rfl ?_
  obtain ⟨r1, σ2, hc_24, h⟩ := bnd_of h
  refine r_callV (As := [.int (1 : Int32), .int a2]) (rest := []) (st2 := [.int r1]) (c := 0) X cv_X10_114 (c_X10_byteAt M.2.1 hc_24) rfl (ci := 9) rfl fM_0 rfl rfl (Nat.le_of_ble_eq_true rfl) ⟨⟨rfl, rfl⟩, by decide, by decide⟩ dX10_readsNeed_3 ⟨rfl, rfl⟩ rfl ?_
  refine r_bipush (v := 48) X dX10_readsNeed_6 (by decide) ?_
  refine r_isub X dX10_readsNeed_8 ?_
  refine r_leti h (fun v3 h => ?_)
  refine r_istore_n X [(3, .int v3), (0, .ref (ad 0)), (1, .int a1), (2, .int a2)] dX10_readsNeed_9 rfl (by decide) rfl ?_
  refine r_aload_n X dX10_readsNeed_10 rfl 1 rfl ?_
  refine r_iconst (v := 1) X dX10_readsNeed_11 (by decide) ?_
  refine r_iload_n X dX10_readsNeed_12 rfl 3 rfl ?_
  refine r_iconst (v := 1) X dX10_readsNeed_13 (by decide) ?_
  refine r_iadd X dX10_readsNeed_14 ?_
  obtain ⟨r4, σ5, hc_23, h⟩ := bnd_of h
  refine r_callV (As := [.int (1 : Int32), .int (a2 + (1 : Int32))]) (rest := []) (st2 := [.int r4]) (c := 0) X cv_X10_114 (c_X10_byteAt M.2.1 hc_23) rfl (ci := 9) rfl fM_0 rfl rfl (Nat.le_of_ble_eq_true rfl) ⟨⟨rfl, rfl⟩, by decide, by decide⟩ dX10_readsNeed_15 ⟨rfl, rfl⟩ rfl ?_
  refine r_bipush (v := 97) X dX10_readsNeed_18 (by decide) ?_
  refine r_isub X dX10_readsNeed_20 ?_
  refine r_leti h (fun v6 h => ?_)
  refine r_istore X [(4, .int v6), (3, .int v3), (0, .ref (ad 0)), (1, .int a1), (2, .int a2)] dX10_readsNeed_21 (by decide) rfl ?_
  refine r_aload_n X dX10_readsNeed_23 rfl 2 rfl ?_
  refine r_iconst (v := 1) X dX10_readsNeed_24 (by decide) ?_
  refine r_iload_n X dX10_readsNeed_25 rfl 4 rfl ?_
  refine r_iconst (v := 2) X dX10_readsNeed_26 (by decide) ?_
  refine r_iadd X dX10_readsNeed_27 ?_
  obtain ⟨r7, σ8, hc_22, h⟩ := bnd_of h
  refine r_callV (As := [.int (1 : Int32), .int (a2 + (2 : Int32))]) (rest := []) (st2 := [.int r7]) (c := 0) X cv_X10_114 (c_X10_byteAt M.2.1 hc_22) rfl (ci := 9) rfl fM_0 rfl rfl (Nat.le_of_ble_eq_true rfl) ⟨⟨rfl, rfl⟩, by decide, by decide⟩ dX10_readsNeed_28 ⟨rfl, rfl⟩ rfl ?_
  refine r_bipush (v := 48) X dX10_readsNeed_31 (by decide) ?_
  refine r_isub X dX10_readsNeed_33 ?_
  refine r_leti h (fun v9 h => ?_)
  refine r_istore X [(5, .int v9), (4, .int v6), (3, .int v3), (0, .ref (ad 0)), (1, .int a1), (2, .int a2)] dX10_readsNeed_34 (by decide) rfl ?_
  refine r_iload_n X dX10_readsNeed_36 rfl 4 rfl ?_
  refine r_bipush (v := 8) X dX10_readsNeed_37 (by decide) ?_
  refine r_icmp_eq X 49 dX10_readsNeed_39 (by decide) h (fun h => ?_) (fun h => ?_)
  · refine r_iconst (v := 0) X dX10_readsNeed_49 (by decide) ?_
    exact r_iretz X rfl dX10_readsNeed_50 h
  · refine r_iload_n X dX10_readsNeed_42 rfl 2 rfl ?_
    obtain ⟨r10, σ11, hc_21, h⟩ := bnd_of h
    refine r_callS (As := [.int v3]) (rest := []) (st2 := [.int r10]) X cv_X10_124 (c_X10_isEight M.2.1 hc_21) rfl rfl rfl (Nat.le_of_ble_eq_true rfl) ⟨⟨rfl, rfl⟩, by decide, by decide⟩ dX10_readsNeed_43 ⟨rfl, rfl⟩ rfl ?_
    refine r_if_ne X 51 dX10_readsNeed_46 (by decide) h (fun h => ?_) (fun h => ?_)
    · refine r_iconst (v := 0) X dX10_readsNeed_49 (by decide) ?_
      exact r_iretz X rfl dX10_readsNeed_50 h
    · refine r_iload X dX10_readsNeed_51 1 rfl ?_
      obtain ⟨r12, σ13, hc_20, h⟩ := bnd_of h
      refine r_callS (As := [.int v6]) (rest := []) (st2 := [.int r12]) X cv_X10_127 (c_X10_isNight M.2.1 hc_20) rfl rfl rfl (Nat.le_of_ble_eq_true rfl) ⟨⟨rfl, rfl⟩, by decide, by decide⟩ dX10_readsNeed_53 ⟨rfl, rfl⟩ rfl ?_
      refine r_if_ne X 61 dX10_readsNeed_56 (by decide) h (fun h => ?_) (fun h => ?_)
      · refine r_iconst (v := 1) X dX10_readsNeed_59 (by decide) ?_
        exact r_iretz X rfl dX10_readsNeed_60 h
      · refine r_iload X dX10_readsNeed_61 0 rfl ?_
        refine r_iconst (v := 1) X dX10_readsNeed_63 (by decide) ?_
        refine r_bipush (v := 9) X dX10_readsNeed_64 (by decide) ?_
        obtain ⟨r14, σ15, hc_19, h⟩ := bnd_of h
        refine r_callS (As := [.int v9, .int (1 : Int32), .int (9 : Int32)]) (rest := []) (st2 := [.int r14]) X cv_X10_106 (c_X10_in M.2.1 hc_19) rfl rfl rfl (Nat.le_of_ble_eq_true rfl) ⟨⟨rfl, rfl⟩, by decide, by decide⟩ dX10_readsNeed_66 ⟨rfl, rfl⟩ rfl ?_
        refine r_if_ne X 74 dX10_readsNeed_69 (by decide) h (fun h => ?_) (fun h => ?_)
        · refine r_iconst (v := 2) X dX10_readsNeed_72 (by decide) ?_
          exact r_iretz X rfl dX10_readsNeed_73 h
        · refine r_aload_n X dX10_readsNeed_74 rfl 3 rfl ?_
          refine r_getR (c1 := 7) X fg_X10_28_X10 fM_0 rfl dX10_readsNeed_75 ?_
          refine r_iload_n X dX10_readsNeed_78 rfl 4 rfl ?_
          refine r_iload_n X dX10_readsNeed_79 rfl 2 rfl ?_
          refine r_iast X fM_7 dX10_readsNeed_80 h (fun σ16 h => ?_)
          refine r_aload_n X dX10_readsNeed_81 rfl 3 rfl ?_
          refine r_getR (c1 := 8) X fg_X10_31_X10 fM_0 rfl dX10_readsNeed_82 ?_
          refine r_iload_n X dX10_readsNeed_85 rfl 4 rfl ?_
          refine r_iload X dX10_readsNeed_86 1 rfl ?_
          refine r_iast X fM_8 dX10_readsNeed_88 h (fun σ17 h => ?_)
          refine r_aload_n X dX10_readsNeed_89 rfl 3 rfl ?_
          refine r_getR (c1 := 9) X fg_X10_34_X10 fM_0 rfl dX10_readsNeed_90 ?_
          refine r_iload_n X dX10_readsNeed_93 rfl 4 rfl ?_
          refine r_iload X dX10_readsNeed_94 0 rfl ?_
          refine r_iast X fM_9 dX10_readsNeed_96 h (fun σ18 h => ?_)
          refine r_iconst (v := 3) X dX10_readsNeed_97 (by decide) ?_
          exact r_iretz X rfl dX10_readsNeed_98 h
set_option maxRecDepth 100000 in
set_option maxHeartbeats 4000000 in
theorem c_X10_isSix (l : Launch) {σ : Sg} {a0 : Int32} {z : Int32 × Sg} (h : f_X10_isSix σ a0 = some z) : am_Met l yX10_isSix cX10_isSix 1 (some .boolean) { frames := 1, cells := 0, slots := 0, locals := 22 } NM LM (fun ad => [.int a0]) σ z.2 (fun _ => some (.int z.1)) := by
  refine am_enter (by decide +kernel) (fun ad => Nat.le_of_ble_eq_true rfl) (fun M D cT ad hl X => ?_)
  subst hl
  refine r_lv (lv' := [(0, .int a0)]) rfl ?_
  unfold f_X10_isSix at h
  refine r_iload_n X dX10_isSix_0 rfl 0 rfl ?_
  refine r_iconst (v := 0) X dX10_isSix_1 (by decide) ?_
  refine r_iconst (v := 5) X dX10_isSix_2 (by decide) ?_
  obtain ⟨r1, σ2, hc_3, h⟩ := bnd_of h
  refine r_callS (As := [.int a0, .int (0 : Int32), .int (5 : Int32)]) (rest := []) (st2 := [.int r1]) X cv_X10_106 (c_X10_in M.2.1 hc_3) rfl rfl rfl (Nat.le_of_ble_eq_true rfl) ⟨⟨rfl, rfl⟩, by decide, by decide⟩ dX10_isSix_3 ⟨rfl, rfl⟩ rfl ?_
  exact r_zretg X rfl dX10_isSix_6 h
set_option maxRecDepth 100000 in
set_option maxHeartbeats 4000000 in
theorem t_X10_isTaken_b44 {M : am_M} {D : va_G} {cT : Nat → ClassId} {ad : Nat → Nat} (X : am_X M (D, cT, ad, NM, LM) cX10_isTaken RX10 6 (some .boolean)) {z : Int32 × Sg} {k6 : Sg → Int32 → Int32 → Int32 → Int32 → Int32 → Option (Int32 × Sg)} (hk6 : ∀ (σ : Sg) (x1 : Int32) (x2 : Int32) (x3 : Int32) (x4 : Int32) (x5 : Int32), k6 σ x1 x2 x3 x4 x5 = some z → am_At M { frames := 0, cells := 0, slots := 0, locals := 0 } (D, cT, ad, NM, LM) (amQi M (D, cT, ad, NM, LM) z) 6 6 [(0, .ref (ad 0)), (1, .int x1), (2, .int x2), (3, .int x3), (4, .int x4), (5, .int x5)] [] σ) (σ : Sg) (x1 : Int32) (x2 : Int32) (x3 : Int32) (x5 : Int32) (s0 : Int32) (h : f_X10_isTaken_b44 k6 σ x1 x2 x3 x5 s0 = some z) : am_At M { frames := 0, cells := 0, slots := 0, locals := 0 } (D, cT, ad, NM, LM) (amQi M (D, cT, ad, NM, LM) z) 6 44 [(0, .ref (ad 0)), (1, .int x1), (2, .int x2), (3, .int x3), (5, .int x5)] [.int s0] σ := by
  unfold f_X10_isTaken_b44 at h
  refine r_istore X [(4, .int s0), (0, .ref (ad 0)), (1, .int x1), (2, .int x2), (3, .int x3), (5, .int x5)] dX10_isTaken_44 (by decide) rfl ?_
  refine r_iinc X [(5, .int (x5 + (1 : Int32))), (4, .int s0), (0, .ref (ad 0)), (1, .int x1), (2, .int x2), (3, .int x3)] dX10_isTaken_46 5 rfl (v := x5 + (1 : Int32)) (by rfl) (by decide) rfl ?_
  refine r_letv h (fun v1 h => ?_)
  refine r_goto X 6 dX10_isTaken_49 (by decide) ?_
  refine r_sub (lv' := [(0, .ref (ad 0)), (1, .int x1), (2, .int x2), (3, .int x3), (4, .int s0), (5, .int v1)]) [2, 3, 4, 5, 1, 0] rfl ?_
  exact hk6 σ x1 x2 x3 s0 v1 h
set_option maxRecDepth 100000 in
set_option maxHeartbeats 4000000 in
theorem t_X10_isTaken_b39 {M : am_M} {D : va_G} {cT : Nat → ClassId} {ad : Nat → Nat} (X : am_X M (D, cT, ad, NM, LM) cX10_isTaken RX10 6 (some .boolean)) {z : Int32 × Sg} {k6 : Sg → Int32 → Int32 → Int32 → Int32 → Int32 → Option (Int32 × Sg)} (hk6 : ∀ (σ : Sg) (x1 : Int32) (x2 : Int32) (x3 : Int32) (x4 : Int32) (x5 : Int32), k6 σ x1 x2 x3 x4 x5 = some z → am_At M { frames := 0, cells := 0, slots := 0, locals := 0 } (D, cT, ad, NM, LM) (amQi M (D, cT, ad, NM, LM) z) 6 6 [(0, .ref (ad 0)), (1, .int x1), (2, .int x2), (3, .int x3), (4, .int x4), (5, .int x5)] [] σ) (σ : Sg) (x1 : Int32) (x2 : Int32) (x3 : Int32) (x5 : Int32) (h : f_X10_isTaken_b39 k6 σ x1 x2 x3 x5 = some z) : am_At M { frames := 0, cells := 0, slots := 0, locals := 0 } (D, cT, ad, NM, LM) (amQi M (D, cT, ad, NM, LM) z) 6 39 [(0, .ref (ad 0)), (1, .int x1), (2, .int x2), (3, .int x3), (5, .int x5)] [] σ := by
  unfold f_X10_isTaken_b39 at h
  refine r_iconst (v := 1) X dX10_isTaken_39 (by decide) ?_
  refine r_goto X 44 dX10_isTaken_40 (by decide) ?_
  exact t_X10_isTaken_b44 X hk6 σ x1 x2 x3 x5 (1 : Int32) h
set_option maxRecDepth 100000 in
set_option maxHeartbeats 4000000 in
theorem t_X10_isTaken_b43 {M : am_M} {D : va_G} {cT : Nat → ClassId} {ad : Nat → Nat} (X : am_X M (D, cT, ad, NM, LM) cX10_isTaken RX10 6 (some .boolean)) {z : Int32 × Sg} {k6 : Sg → Int32 → Int32 → Int32 → Int32 → Int32 → Option (Int32 × Sg)} (hk6 : ∀ (σ : Sg) (x1 : Int32) (x2 : Int32) (x3 : Int32) (x4 : Int32) (x5 : Int32), k6 σ x1 x2 x3 x4 x5 = some z → am_At M { frames := 0, cells := 0, slots := 0, locals := 0 } (D, cT, ad, NM, LM) (amQi M (D, cT, ad, NM, LM) z) 6 6 [(0, .ref (ad 0)), (1, .int x1), (2, .int x2), (3, .int x3), (4, .int x4), (5, .int x5)] [] σ) (σ : Sg) (x1 : Int32) (x2 : Int32) (x3 : Int32) (x5 : Int32) (h : f_X10_isTaken_b43 k6 σ x1 x2 x3 x5 = some z) : am_At M { frames := 0, cells := 0, slots := 0, locals := 0 } (D, cT, ad, NM, LM) (amQi M (D, cT, ad, NM, LM) z) 6 43 [(0, .ref (ad 0)), (1, .int x1), (2, .int x2), (3, .int x3), (5, .int x5)] [] σ := by
  unfold f_X10_isTaken_b43 at h
  refine r_iconst (v := 0) X dX10_isTaken_43 (by decide) ?_
  exact t_X10_isTaken_b44 X hk6 σ x1 x2 x3 x5 (0 : Int32) h
set_option maxRecDepth 100000 in
set_option maxHeartbeats 4000000 in
theorem t_X10_isTaken_b6 {M : am_M} {D : va_G} {cT : Nat → ClassId} {ad : Nat → Nat} (X : am_X M (D, cT, ad, NM, LM) cX10_isTaken RX10 6 (some .boolean)) {z : Int32 × Sg} {k6 : Sg → Int32 → Int32 → Int32 → Int32 → Int32 → Option (Int32 × Sg)} (hk6 : ∀ (σ : Sg) (x1 : Int32) (x2 : Int32) (x3 : Int32) (x4 : Int32) (x5 : Int32), k6 σ x1 x2 x3 x4 x5 = some z → am_At M { frames := 0, cells := 0, slots := 0, locals := 0 } (D, cT, ad, NM, LM) (amQi M (D, cT, ad, NM, LM) z) 6 6 [(0, .ref (ad 0)), (1, .int x1), (2, .int x2), (3, .int x3), (4, .int x4), (5, .int x5)] [] σ) (σ : Sg) (x1 : Int32) (x2 : Int32) (x3 : Int32) (x4 : Int32) (x5 : Int32) (h : f_X10_isTaken_b6 k6 σ x1 x2 x3 x4 x5 = some z) : am_At M { frames := 0, cells := 0, slots := 0, locals := 0 } (D, cT, ad, NM, LM) (amQi M (D, cT, ad, NM, LM) z) 6 6 [(0, .ref (ad 0)), (1, .int x1), (2, .int x2), (3, .int x3), (4, .int x4), (5, .int x5)] [] σ := by
  unfold f_X10_isTaken_b6 at h
  refine r_iload X dX10_isTaken_6 5 rfl ?_
  refine r_iload_n X dX10_isTaken_8 rfl 1 rfl ?_
  refine r_icmp_ge X 52 dX10_isTaken_9 (by decide) h (fun h => ?_) (fun h => ?_)
  · refine r_iload X dX10_isTaken_52 4 rfl ?_
    exact r_zretg X rfl dX10_isTaken_54 h
  · refine r_iload X dX10_isTaken_12 4 rfl ?_
    refine r_if_ne X 39 dX10_isTaken_14 (by decide) h (fun h => ?_) (fun h => ?_)
    · refine r_aload_n X dX10_isTaken_17 rfl 0 rfl ?_
      refine r_getR (c1 := 4) X fg_X10_19_X10 fM_0 rfl dX10_isTaken_18 ?_
      refine r_iload X dX10_isTaken_21 5 rfl ?_
      refine r_iald X fM_4 dX10_isTaken_23 h (fun h => ?_)
      refine r_iload_n X dX10_isTaken_24 rfl 2 rfl ?_
      refine r_icmp_ne X 43 dX10_isTaken_25 (by decide) h (fun h => ?_) (fun h => ?_)
      · refine r_aload_n X dX10_isTaken_28 rfl 0 rfl ?_
        refine r_getR (c1 := 5) X fg_X10_22_X10 fM_0 rfl dX10_isTaken_29 ?_
        refine r_iload X dX10_isTaken_32 5 rfl ?_
        refine r_iald X fM_5 dX10_isTaken_34 h (fun h => ?_)
        refine r_iload_n X dX10_isTaken_35 rfl 3 rfl ?_
        refine r_icmp_ne X 43 dX10_isTaken_36 (by decide) h (fun h => ?_) (fun h => ?_)
        · refine r_sub (lv' := [(0, .ref (ad 0)), (1, .int x1), (2, .int x2), (3, .int x3), (5, .int x5)]) [0, 1, 2, 3, 5] rfl ?_
          exact t_X10_isTaken_b39 X hk6 σ x1 x2 x3 x5 h
        · refine r_sub (lv' := [(0, .ref (ad 0)), (1, .int x1), (2, .int x2), (3, .int x3), (5, .int x5)]) [0, 1, 2, 3, 5] rfl ?_
          exact t_X10_isTaken_b43 X hk6 σ x1 x2 x3 x5 h
      · refine r_sub (lv' := [(0, .ref (ad 0)), (1, .int x1), (2, .int x2), (3, .int x3), (5, .int x5)]) [0, 1, 2, 3, 5] rfl ?_
        exact t_X10_isTaken_b43 X hk6 σ x1 x2 x3 x5 h
    · refine r_sub (lv' := [(0, .ref (ad 0)), (1, .int x1), (2, .int x2), (3, .int x3), (5, .int x5)]) [0, 1, 2, 3, 5] rfl ?_
      exact t_X10_isTaken_b39 X hk6 σ x1 x2 x3 x5 h
theorem t_X10_isTaken_l6 {M : am_M} {D : va_G} {cT : Nat → ClassId} {ad : Nat → Nat} (X : am_X M (D, cT, ad, NM, LM) cX10_isTaken RX10 6 (some .boolean)) {z : Int32 × Sg} (n : Nat) : ∀ (σ : Sg) (x1 : Int32) (x2 : Int32) (x3 : Int32) (x4 : Int32) (x5 : Int32), f_X10_isTaken_l6 n σ x1 x2 x3 x4 x5 = some z → am_At M { frames := 0, cells := 0, slots := 0, locals := 0 } (D, cT, ad, NM, LM) (amQi M (D, cT, ad, NM, LM) z) 6 6 [(0, .ref (ad 0)), (1, .int x1), (2, .int x2), (3, .int x3), (4, .int x4), (5, .int x5)] [] σ := by
  induction n with
  | zero =>
    intro σ x1 x2 x3 x4 x5 h
    have h2 : (none : Option (Int32 × Sg)) = some z := h
    cases h2
  | succ n ih =>
    intro σ x1 x2 x3 x4 x5 h
    exact t_X10_isTaken_b6 X (k6 := f_X10_isTaken_l6 n) ih σ x1 x2 x3 x4 x5 h
set_option maxRecDepth 100000 in
set_option maxHeartbeats 4000000 in
theorem c_X10_isTaken (l : Launch) {σ : Sg} {a1 : Int32} {a2 : Int32} {a3 : Int32} {z : Int32 × Sg} (h : f_X10_isTaken σ a1 a2 a3 = some z) : am_Met l yX10_isTaken cX10_isTaken 6 (some .boolean) { frames := 0, cells := 0, slots := 0, locals := 0 } NM LM (fun ad => [.ref (ad 0), .int a1, .int a2, .int a3]) σ z.2 (fun _ => some (.int z.1)) := by
  refine am_enter (by decide +kernel) (fun ad => Nat.le_of_ble_eq_true rfl) (fun M D cT ad hl X => ?_)
  subst hl
  refine r_lv (lv' := [(0, .ref (ad 0)), (1, .int a1), (2, .int a2), (3, .int a3)]) rfl ?_
  unfold f_X10_isTaken at h
  refine r_iconst (v := 0) X dX10_isTaken_0 (by decide) ?_
  refine r_istore X [(4, .int (0 : Int32)), (0, .ref (ad 0)), (1, .int a1), (2, .int a2), (3, .int a3)] dX10_isTaken_1 (by decide) rfl ?_
  refine r_iconst (v := 0) X dX10_isTaken_3 (by decide) ?_
  refine r_istore X [(5, .int (0 : Int32)), (4, .int (0 : Int32)), (0, .ref (ad 0)), (1, .int a1), (2, .int a2), (3, .int a3)] dX10_isTaken_4 (by decide) rfl ?_
  refine r_sub (lv' := [(0, .ref (ad 0)), (1, .int a1), (2, .int a2), (3, .int a3), (4, .int (0 : Int32)), (5, .int (0 : Int32))]) [2, 3, 4, 5, 1, 0] rfl ?_
  exact t_X10_isTaken_l6 X 300 σ a1 a2 a3 (0 : Int32) (0 : Int32) h
set_option maxRecDepth 100000 in
set_option maxHeartbeats 4000000 in
theorem t_X10_readsGone_b38 {M : am_M} {D : va_G} {cT : Nat → ClassId} {ad : Nat → Nat} (X : am_X M (D, cT, ad, NM, LM) cX10_readsGone RX10 8 (some .int)) {z : Int32 × Sg} (σ : Sg) (x1 : Int32) (x2 : Int32) (s0 : Int32) (h : f_X10_readsGone_b38 σ x1 x2 s0 = some z) : am_At M { frames := 2, cells := 0, slots := 0, locals := 42 } (D, cT, ad, NM, LM) (amQi M (D, cT, ad, NM, LM) z) 8 38 [(0, .ref (ad 0)), (1, .int x1), (2, .int x2)] [.int s0] σ := by
  unfold f_X10_readsGone_b38 at h
  refine r_istore X [(4, .int s0), (0, .ref (ad 0)), (1, .int x1), (2, .int x2)] dX10_readsGone_38 (by decide) rfl ?_
  refine r_aload_n X dX10_readsGone_40 rfl 1 rfl ?_
  refine r_iconst (v := 0) X dX10_readsGone_41 (by decide) ?_
  refine r_iload_n X dX10_readsGone_42 rfl 3 rfl ?_
  refine r_iconst (v := 1) X dX10_readsGone_43 (by decide) ?_
  refine r_iadd X dX10_readsGone_44 ?_
  obtain ⟨r1, σ2, hc_28, h⟩ := bnd_of h
  refine r_callV (As := [.int (0 : Int32), .int (x2 + (1 : Int32))]) (rest := []) (st2 := [.int r1]) (c := 0) X cv_X10_114 (c_X10_byteAt M.2.1 hc_28) rfl (ci := 9) rfl fM_0 rfl rfl (Nat.le_of_ble_eq_true rfl) ⟨⟨rfl, rfl⟩, by decide, by decide⟩ dX10_readsGone_45 ⟨rfl, rfl⟩ rfl ?_
  refine r_bipush (v := 48) X dX10_readsGone_48 (by decide) ?_
  refine r_isub X dX10_readsGone_50 ?_
  refine r_leti h (fun v3 h => ?_)
  refine r_istore X [(5, .int v3), (4, .int s0), (0, .ref (ad 0)), (1, .int x1), (2, .int x2)] dX10_readsGone_51 (by decide) rfl ?_
  refine r_aload_n X dX10_readsGone_53 rfl 2 rfl ?_
  refine r_iconst (v := 0) X dX10_readsGone_54 (by decide) ?_
  refine r_iload_n X dX10_readsGone_55 rfl 4 rfl ?_
  refine r_iconst (v := 2) X dX10_readsGone_56 (by decide) ?_
  refine r_iadd X dX10_readsGone_57 ?_
  obtain ⟨r4, σ5, hc_27, h⟩ := bnd_of h
  refine r_callV (As := [.int (0 : Int32), .int (x2 + (2 : Int32))]) (rest := []) (st2 := [.int r4]) (c := 0) X cv_X10_114 (c_X10_byteAt M.2.1 hc_27) rfl (ci := 9) rfl fM_0 rfl rfl (Nat.le_of_ble_eq_true rfl) ⟨⟨rfl, rfl⟩, by decide, by decide⟩ dX10_readsGone_58 ⟨rfl, rfl⟩ rfl ?_
  refine r_bipush (v := 48) X dX10_readsGone_61 (by decide) ?_
  refine r_isub X dX10_readsGone_63 ?_
  refine r_leti h (fun v6 h => ?_)
  refine r_istore X [(6, .int v6), (5, .int v3), (4, .int s0), (0, .ref (ad 0)), (1, .int x1), (2, .int x2)] dX10_readsGone_64 (by decide) rfl ?_
  refine r_aload_n X dX10_readsGone_66 rfl 3 rfl ?_
  refine r_iconst (v := 0) X dX10_readsGone_67 (by decide) ?_
  refine r_iload_n X dX10_readsGone_68 rfl 5 rfl ?_
  refine r_iconst (v := 3) X dX10_readsGone_69 (by decide) ?_
  refine r_iadd X dX10_readsGone_70 ?_
  obtain ⟨r7, σ8, hc_26, h⟩ := bnd_of h
  refine r_callV (As := [.int (0 : Int32), .int (x2 + (3 : Int32))]) (rest := []) (st2 := [.int r7]) (c := 0) X cv_X10_114 (c_X10_byteAt M.2.1 hc_26) rfl (ci := 9) rfl fM_0 rfl rfl (Nat.le_of_ble_eq_true rfl) ⟨⟨rfl, rfl⟩, by decide, by decide⟩ dX10_readsGone_71 ⟨rfl, rfl⟩ rfl ?_
  refine r_bipush (v := 48) X dX10_readsGone_74 (by decide) ?_
  refine r_isub X dX10_readsGone_76 ?_
  refine r_leti h (fun v9 h => ?_)
  refine r_istore X [(7, .int v9), (6, .int v6), (5, .int v3), (4, .int s0), (0, .ref (ad 0)), (1, .int x1), (2, .int x2)] dX10_readsGone_77 (by decide) rfl ?_
  refine r_iload_n X dX10_readsGone_79 rfl 5 rfl ?_
  refine r_bipush (v := 8) X dX10_readsGone_80 (by decide) ?_
  refine r_icmp_eq X 91 dX10_readsGone_82 (by decide) h (fun h => ?_) (fun h => ?_)
  · refine r_iconst (v := 0) X dX10_readsGone_91 (by decide) ?_
    exact r_iretz X rfl dX10_readsGone_92 h
  · refine r_iload X dX10_readsGone_85 3 rfl ?_
    refine r_iconst (v := -1) X dX10_readsGone_87 (by decide) ?_
    refine r_icmp_ne X 93 dX10_readsGone_88 (by decide) h (fun h => ?_) (fun h => ?_)
    · refine r_iconst (v := 0) X dX10_readsGone_91 (by decide) ?_
      exact r_iretz X rfl dX10_readsGone_92 h
    · refine r_iload X dX10_readsGone_93 2 rfl ?_
      obtain ⟨r10, σ11, hc_25, h⟩ := bnd_of h
      refine r_callS (As := [.int v3]) (rest := []) (st2 := [.int r10]) X cv_X10_118 (c_X10_isSix M.2.1 hc_25) rfl rfl rfl (Nat.le_of_ble_eq_true rfl) ⟨⟨rfl, rfl⟩, by decide, by decide⟩ dX10_readsGone_95 ⟨rfl, rfl⟩ rfl ?_
      refine r_if_ne X 103 dX10_readsGone_98 (by decide) h (fun h => ?_) (fun h => ?_)
      · refine r_iconst (v := 1) X dX10_readsGone_101 (by decide) ?_
        exact r_iretz X rfl dX10_readsGone_102 h
      · refine r_iload X dX10_readsGone_103 1 rfl ?_
        obtain ⟨r12, σ13, hc_24, h⟩ := bnd_of h
        refine r_callS (As := [.int v6]) (rest := []) (st2 := [.int r12]) X cv_X10_118 (c_X10_isSix M.2.1 hc_24) rfl rfl rfl (Nat.le_of_ble_eq_true rfl) ⟨⟨rfl, rfl⟩, by decide, by decide⟩ dX10_readsGone_105 ⟨rfl, rfl⟩ rfl ?_
        refine r_if_eq X 123 dX10_readsGone_108 (by decide) h (fun h => ?_) (fun h => ?_)
        · refine r_iconst (v := 2) X dX10_readsGone_123 (by decide) ?_
          exact r_iretz X rfl dX10_readsGone_124 h
        · refine r_aload_n X dX10_readsGone_111 rfl 4 rfl ?_
          refine r_iload_n X dX10_readsGone_112 rfl 5 rfl ?_
          refine r_iload X dX10_readsGone_113 2 rfl ?_
          refine r_iload X dX10_readsGone_115 1 rfl ?_
          obtain ⟨r14, σ15, hc_23, h⟩ := bnd_of h
          refine r_callV (As := [.int x1, .int v3, .int v6]) (rest := []) (st2 := [.int r14]) (c := 0) X cv_X10_121 (c_X10_isTaken M.2.1 hc_23) rfl (ci := 9) rfl fM_0 rfl rfl (Nat.le_of_ble_eq_true rfl) ⟨⟨rfl, rfl⟩, by decide, by decide⟩ dX10_readsGone_117 ⟨rfl, rfl⟩ rfl ?_
          refine r_if_eq X 125 dX10_readsGone_120 (by decide) h (fun h => ?_) (fun h => ?_)
          · refine r_iload X dX10_readsGone_125 0 rfl ?_
            refine r_iconst (v := 1) X dX10_readsGone_127 (by decide) ?_
            refine r_bipush (v := 9) X dX10_readsGone_128 (by decide) ?_
            obtain ⟨r16, σ17, hc_22, h⟩ := bnd_of h
            refine r_callS (As := [.int v9, .int (1 : Int32), .int (9 : Int32)]) (rest := []) (st2 := [.int r16]) X cv_X10_106 (c_X10_in M.2.1 hc_22) rfl rfl rfl (Nat.le_of_ble_eq_true rfl) ⟨⟨rfl, rfl⟩, by decide, by decide⟩ dX10_readsGone_130 ⟨rfl, rfl⟩ rfl ?_
            refine r_if_ne X 138 dX10_readsGone_133 (by decide) h (fun h => ?_) (fun h => ?_)
            · refine r_iconst (v := 3) X dX10_readsGone_136 (by decide) ?_
              exact r_iretz X rfl dX10_readsGone_137 h
            · refine r_aload_n X dX10_readsGone_138 rfl 4 rfl ?_
              refine r_getR (c1 := 3) X fg_X10_16_X10 fM_0 rfl dX10_readsGone_139 ?_
              refine r_iload_n X dX10_readsGone_142 rfl 5 rfl ?_
              refine r_iload X dX10_readsGone_143 3 rfl ?_
              refine r_iast X fM_3 dX10_readsGone_145 h (fun σ18 h => ?_)
              refine r_aload_n X dX10_readsGone_146 rfl 4 rfl ?_
              refine r_getR (c1 := 4) X fg_X10_19_X10 fM_0 rfl dX10_readsGone_147 ?_
              refine r_iload_n X dX10_readsGone_150 rfl 5 rfl ?_
              refine r_iload X dX10_readsGone_151 2 rfl ?_
              refine r_iast X fM_4 dX10_readsGone_153 h (fun σ19 h => ?_)
              refine r_aload_n X dX10_readsGone_154 rfl 4 rfl ?_
              refine r_getR (c1 := 5) X fg_X10_22_X10 fM_0 rfl dX10_readsGone_155 ?_
              refine r_iload_n X dX10_readsGone_158 rfl 5 rfl ?_
              refine r_iload X dX10_readsGone_159 1 rfl ?_
              refine r_iast X fM_5 dX10_readsGone_161 h (fun σ20 h => ?_)
              refine r_aload_n X dX10_readsGone_162 rfl 4 rfl ?_
              refine r_getR (c1 := 6) X fg_X10_25_X10 fM_0 rfl dX10_readsGone_163 ?_
              refine r_iload_n X dX10_readsGone_166 rfl 5 rfl ?_
              refine r_iload X dX10_readsGone_167 0 rfl ?_
              refine r_iast X fM_6 dX10_readsGone_169 h (fun σ21 h => ?_)
              refine r_iconst (v := 4) X dX10_readsGone_170 (by decide) ?_
              exact r_iretz X rfl dX10_readsGone_171 h
          · refine r_iconst (v := 2) X dX10_readsGone_123 (by decide) ?_
            exact r_iretz X rfl dX10_readsGone_124 h
set_option maxRecDepth 100000 in
set_option maxHeartbeats 4000000 in
theorem c_X10_readsGone (l : Launch) {σ : Sg} {a1 : Int32} {a2 : Int32} {z : Int32 × Sg} (h : f_X10_readsGone σ a1 a2 = some z) : am_Met l yX10_readsGone cX10_readsGone 8 (some .int) { frames := 2, cells := 0, slots := 0, locals := 42 } NM LM (fun ad => [.ref (ad 0), .int a1, .int a2]) σ z.2 (fun _ => some (.int z.1)) := by
  refine am_enter (by decide +kernel) (fun ad => Nat.le_of_ble_eq_true rfl) (fun M D cT ad hl X => ?_)
  subst hl
  refine r_lv (lv' := [(0, .ref (ad 0)), (1, .int a1), (2, .int a2)]) rfl ?_
  unfold f_X10_readsGone at h
  refine r_aload_n X dX10_readsGone_0 rfl 0 rfl ?_
  refine r_iconst (v := 0) X dX10_readsGone_1 (by decide) ?_
  refine r_iload_n X dX10_readsGone_2 rfl 2 rfl ?_
  obtain ⟨r1, σ2, hc_3, h⟩ := bnd_of h
  refine r_callV (As := [.int (0 : Int32), .int a2]) (rest := []) (st2 := [.int r1]) (c := 0) X cv_X10_114 (c_X10_byteAt M.2.1 hc_3) rfl (ci := 9) rfl fM_0 rfl rfl (Nat.le_of_ble_eq_true rfl) ⟨⟨rfl, rfl⟩, by decide, by decide⟩ dX10_readsGone_3 ⟨rfl, rfl⟩ rfl ?_
  refine r_istore_n X [(3, .int r1), (0, .ref (ad 0)), (1, .int a1), (2, .int a2)] dX10_readsGone_6 rfl (by decide) rfl ?_
  refine r_iload_n X dX10_readsGone_7 rfl 0 rfl ?_
  refine r_bipush (v := 100) X dX10_readsGone_8 (by decide) ?_
  refine r_icmp_ne X 17 dX10_readsGone_10 (by decide) h (fun h => ?_) (fun h => ?_)
  · refine r_iconst (v := 0) X dX10_readsGone_13 (by decide) ?_
    refine r_goto X 38 dX10_readsGone_14 (by decide) ?_
    refine r_sub (lv' := [(0, .ref (ad 0)), (1, .int a1), (2, .int a2)]) [1, 2, 3] rfl ?_
    exact t_X10_readsGone_b38 X σ2 a1 a2 (0 : Int32) h
  · refine r_iload_n X dX10_readsGone_17 rfl 0 rfl ?_
    refine r_bipush (v := 99) X dX10_readsGone_18 (by decide) ?_
    refine r_icmp_ne X 27 dX10_readsGone_20 (by decide) h (fun h => ?_) (fun h => ?_)
    · refine r_iconst (v := 1) X dX10_readsGone_23 (by decide) ?_
      refine r_goto X 38 dX10_readsGone_24 (by decide) ?_
      refine r_sub (lv' := [(0, .ref (ad 0)), (1, .int a1), (2, .int a2)]) [1, 2, 3] rfl ?_
      exact t_X10_readsGone_b38 X σ2 a1 a2 (1 : Int32) h
    · refine r_iload_n X dX10_readsGone_27 rfl 0 rfl ?_
      refine r_bipush (v := 114) X dX10_readsGone_28 (by decide) ?_
      refine r_icmp_ne X 37 dX10_readsGone_30 (by decide) h (fun h => ?_) (fun h => ?_)
      · refine r_iconst (v := 2) X dX10_readsGone_33 (by decide) ?_
        refine r_goto X 38 dX10_readsGone_34 (by decide) ?_
        refine r_sub (lv' := [(0, .ref (ad 0)), (1, .int a1), (2, .int a2)]) [1, 2, 3] rfl ?_
        exact t_X10_readsGone_b38 X σ2 a1 a2 (2 : Int32) h
      · refine r_iconst (v := -1) X dX10_readsGone_37 (by decide) ?_
        refine r_sub (lv' := [(0, .ref (ad 0)), (1, .int a1), (2, .int a2)]) [1, 2, 3] rfl ?_
        exact t_X10_readsGone_b38 X σ2 a1 a2 (-1 : Int32) h
set_option maxRecDepth 100000 in
set_option maxHeartbeats 4000000 in
theorem t_X10_readsParts_b149 {M : am_M} {D : va_G} {cT : Nat → ClassId} {ad : Nat → Nat} (X : am_X M (D, cT, ad, NM, LM) cX10_readsParts RX10 6 (some .int)) {z : Int32 × Sg} (σ : Sg) (s0 : Int32) (h : f_X10_readsParts_b149 σ s0 = some z) : am_At M { frames := 3, cells := 0, slots := 0, locals := 69 } (D, cT, ad, NM, LM) (amQi M (D, cT, ad, NM, LM) z) 6 149 [] [.int s0, .ref (ad 0)] σ := by
  unfold f_X10_readsParts_b149 at h
  refine r_putI X fp_X10_134_X10 fM_0 rfl dX10_readsParts_149 h (fun σ1 h => ?_)
  refine r_iconst (v := -1) X dX10_readsParts_152 (by decide) ?_
  exact r_iretz X rfl dX10_readsParts_153 h
set_option maxRecDepth 100000 in
set_option maxHeartbeats 4000000 in
theorem t_X10_readsParts_b132 {M : am_M} {D : va_G} {cT : Nat → ClassId} {ad : Nat → Nat} (X : am_X M (D, cT, ad, NM, LM) cX10_readsParts RX10 6 (some .int)) {z : Int32 × Sg} (σ : Sg) (x1 : Int32) (x3 : Int32) (s0 : Int32) (h : f_X10_readsParts_b132 σ x1 x3 s0 = some z) : am_At M { frames := 3, cells := 0, slots := 0, locals := 69 } (D, cT, ad, NM, LM) (amQi M (D, cT, ad, NM, LM) z) 6 132 [(0, .ref (ad 0)), (1, .int x1), (3, .int x3)] [.int s0, .ref (ad 0)] σ := by
  unfold f_X10_readsParts_b132 at h
  refine r_putI X fp_X10_130_X10 fM_0 rfl dX10_readsParts_132 h (fun σ1 h => ?_)
  refine r_aload_n X dX10_readsParts_135 rfl 0 rfl ?_
  refine r_iload_n X dX10_readsParts_136 rfl 1 rfl ?_
  refine r_iconst (v := 1) X dX10_readsParts_137 (by decide) ?_
  refine r_icmp_ne X 145 dX10_readsParts_138 (by decide) h (fun h => ?_) (fun h => ?_)
  · refine r_iload_n X dX10_readsParts_141 rfl 2 rfl ?_
    refine r_goto X 149 dX10_readsParts_142 (by decide) ?_
    refine r_sub (lv' := []) [] rfl ?_
    exact t_X10_readsParts_b149 X σ1 x3 h
  · refine r_aload_n X dX10_readsParts_145 rfl 0 rfl ?_
    refine r_getI X fg_X10_134_X10 fM_0 rfl dX10_readsParts_146 ?_
    refine r_sub (lv' := []) [] rfl ?_
    exact t_X10_readsParts_b149 X σ1 (σ1 0 7) h
set_option maxRecDepth 100000 in
set_option maxHeartbeats 4000000 in
theorem t_X10_readsParts_b85 {M : am_M} {D : va_G} {cT : Nat → ClassId} {ad : Nat → Nat} (X : am_X M (D, cT, ad, NM, LM) cX10_readsParts RX10 6 (some .int)) {z : Int32 × Sg} {k48 : Sg → Int32 → Int32 → Int32 → Int32 → Option (Int32 × Sg)} (hk48 : ∀ (σ : Sg) (x1 : Int32) (x2 : Int32) (x3 : Int32) (x4 : Int32), k48 σ x1 x2 x3 x4 = some z → am_At M { frames := 3, cells := 0, slots := 0, locals := 69 } (D, cT, ad, NM, LM) (amQi M (D, cT, ad, NM, LM) z) 6 48 [(0, .ref (ad 0)), (1, .int x1), (2, .int x2), (3, .int x3), (4, .int x4)] [] σ) (σ : Sg) (x1 : Int32) (x2 : Int32) (x3 : Int32) (x4 : Int32) (s0 : Int32) (h : f_X10_readsParts_b85 k48 σ x1 x2 x3 x4 s0 = some z) : am_At M { frames := 3, cells := 0, slots := 0, locals := 69 } (D, cT, ad, NM, LM) (amQi M (D, cT, ad, NM, LM) z) 6 85 [(0, .ref (ad 0)), (1, .int x1), (2, .int x2), (3, .int x3), (4, .int x4)] [.int s0] σ := by
  unfold f_X10_readsParts_b85 at h
  refine r_istore X [(5, .int s0), (0, .ref (ad 0)), (1, .int x1), (2, .int x2), (3, .int x3), (4, .int x4)] dX10_readsParts_85 (by decide) rfl ?_
  refine r_iload X dX10_readsParts_87 0 rfl ?_
  refine r_iload_n X dX10_readsParts_89 rfl 3 rfl ?_
  refine r_icmp_ge X 99 dX10_readsParts_90 (by decide) h (fun h => ?_) (fun h => ?_)
  · refine r_iinc X [(3, .int (x3 + (1 : Int32))), (5, .int s0), (0, .ref (ad 0)), (1, .int x1), (2, .int x2), (4, .int x4)] dX10_readsParts_99 4 rfl (v := x3 + (1 : Int32)) (by rfl) (by decide) rfl ?_
    refine r_letv h (fun v1 h => ?_)
    refine r_iload X dX10_readsParts_102 5 rfl ?_
    refine r_iload_n X dX10_readsParts_104 rfl 4 rfl ?_
    refine r_iadd X dX10_readsParts_105 ?_
    refine r_leti h (fun v2 h => ?_)
    refine r_istore X [(4, .int v2), (3, .int v1), (5, .int s0), (0, .ref (ad 0)), (1, .int x1), (2, .int x2)] dX10_readsParts_106 (by decide) rfl ?_
    refine r_iload X dX10_readsParts_108 0 rfl ?_
    refine r_aload_n X dX10_readsParts_110 rfl 3 rfl ?_
    refine r_getR (c1 := 1) X fg_X10_7_X10 fM_0 rfl dX10_readsParts_111 ?_
    refine r_iload_n X dX10_readsParts_114 rfl 4 rfl ?_
    refine r_iald X fM_1 dX10_readsParts_115 h (fun h => ?_)
    refine r_icmp_ne X 154 dX10_readsParts_116 (by decide) h (fun h => ?_) (fun h => ?_)
    · refine r_aload_n X dX10_readsParts_119 rfl 3 rfl ?_
      refine r_iload_n X dX10_readsParts_120 rfl 4 rfl ?_
      refine r_if_ne X 128 dX10_readsParts_121 (by decide) h (fun h => ?_) (fun h => ?_)
      · refine r_iload_n X dX10_readsParts_124 rfl 1 rfl ?_
        refine r_goto X 132 dX10_readsParts_125 (by decide) ?_
        refine r_sub (lv' := [(0, .ref (ad 0)), (1, .int x1), (3, .int v1)]) [3, 4, 1] rfl ?_
        exact t_X10_readsParts_b132 X σ x1 v1 v1 h
      · refine r_aload_n X dX10_readsParts_128 rfl 3 rfl ?_
        refine r_getI X fg_X10_130_X10 fM_0 rfl dX10_readsParts_129 ?_
        refine r_sub (lv' := [(0, .ref (ad 0)), (1, .int x1), (3, .int v1)]) [3, 4, 1] rfl ?_
        exact t_X10_readsParts_b132 X σ x1 v1 (σ 0 2) h
    · refine r_aload_n X dX10_readsParts_154 rfl 3 rfl ?_
      refine r_iload_n X dX10_readsParts_155 rfl 4 rfl ?_
      refine r_iload X dX10_readsParts_156 0 rfl ?_
      obtain ⟨r3, σ4, hc_6, h⟩ := bnd_of h
      refine r_callV (As := [.int x1, .int v2]) (rest := []) (st2 := [.int r3]) (c := 0) X cv_X10_114 (c_X10_byteAt M.2.1 hc_6) rfl (ci := 9) rfl fM_0 rfl rfl (Nat.le_of_ble_eq_true rfl) ⟨⟨rfl, rfl⟩, by decide, by decide⟩ dX10_readsParts_158 ⟨rfl, rfl⟩ rfl ?_
      refine r_bipush (v := 59) X dX10_readsParts_161 (by decide) ?_
      refine r_icmp_eq X 169 dX10_readsParts_163 (by decide) h (fun h => ?_) (fun h => ?_)
      · refine r_iinc X [(4, .int (v2 + (1 : Int32))), (3, .int v1), (5, .int s0), (0, .ref (ad 0)), (1, .int x1), (2, .int x2)] dX10_readsParts_169 0 rfl (v := v2 + (1 : Int32)) (by rfl) (by decide) rfl ?_
        refine r_letv h (fun v5 h => ?_)
        refine r_goto X 48 dX10_readsParts_172 (by decide) ?_
        refine r_sub (lv' := [(0, .ref (ad 0)), (1, .int x1), (2, .int x2), (3, .int v1), (4, .int v5)]) [3, 4, 5, 1, 0] rfl ?_
        exact hk48 σ4 x1 x2 v1 v5 h
      · refine r_iload X dX10_readsParts_166 0 rfl ?_
        exact r_iretz X rfl dX10_readsParts_168 h
  · refine r_iload X dX10_readsParts_93 5 rfl ?_
    refine r_iload X dX10_readsParts_95 0 rfl ?_
    refine r_iadd X dX10_readsParts_97 ?_
    exact r_iretz X rfl dX10_readsParts_98 h
set_option maxRecDepth 100000 in
set_option maxHeartbeats 4000000 in
theorem t_X10_readsParts_b64 {M : am_M} {D : va_G} {cT : Nat → ClassId} {ad : Nat → Nat} (X : am_X M (D, cT, ad, NM, LM) cX10_readsParts RX10 6 (some .int)) {z : Int32 × Sg} {k48 : Sg → Int32 → Int32 → Int32 → Int32 → Option (Int32 × Sg)} (hk48 : ∀ (σ : Sg) (x1 : Int32) (x2 : Int32) (x3 : Int32) (x4 : Int32), k48 σ x1 x2 x3 x4 = some z → am_At M { frames := 3, cells := 0, slots := 0, locals := 69 } (D, cT, ad, NM, LM) (amQi M (D, cT, ad, NM, LM) z) 6 48 [(0, .ref (ad 0)), (1, .int x1), (2, .int x2), (3, .int x3), (4, .int x4)] [] σ) (σ : Sg) (x1 : Int32) (x2 : Int32) (x3 : Int32) (x4 : Int32) (h : f_X10_readsParts_b64 k48 σ x1 x2 x3 x4 = some z) : am_At M { frames := 3, cells := 0, slots := 0, locals := 69 } (D, cT, ad, NM, LM) (amQi M (D, cT, ad, NM, LM) z) 6 64 [(0, .ref (ad 0)), (1, .int x1), (2, .int x2), (3, .int x3), (4, .int x4)] [] σ := by
  unfold f_X10_readsParts_b64 at h
  refine r_iload_n X dX10_readsParts_64 rfl 1 rfl ?_
  refine r_if_ne X 78 dX10_readsParts_65 (by decide) h (fun h => ?_) (fun h => ?_)
  · refine r_aload_n X dX10_readsParts_68 rfl 0 rfl ?_
    refine r_iload_n X dX10_readsParts_69 rfl 3 rfl ?_
    refine r_iload X dX10_readsParts_70 4 rfl ?_
    obtain ⟨r4, σ5, hc_6, h⟩ := bnd_of h
    refine r_callV (As := [.int x3, .int x4]) (rest := []) (st2 := [.int r4]) (c := 0) X cv_X10_137 (c_X10_readsGone M.2.1 hc_6) rfl (ci := 9) rfl fM_0 rfl rfl (Nat.le_of_ble_eq_true rfl) ⟨⟨rfl, rfl⟩, by decide, by decide⟩ dX10_readsParts_72 ⟨rfl, rfl⟩ rfl ?_
    refine r_goto X 85 dX10_readsParts_75 (by decide) ?_
    exact t_X10_readsParts_b85 X hk48 σ5 x1 x2 x3 x4 r4 h
  · refine r_aload_n X dX10_readsParts_78 rfl 0 rfl ?_
    refine r_iload_n X dX10_readsParts_79 rfl 3 rfl ?_
    refine r_iload X dX10_readsParts_80 4 rfl ?_
    obtain ⟨r1, σ2, hc_3, h⟩ := bnd_of h
    refine r_callV (As := [.int x3, .int x4]) (rest := []) (st2 := [.int r1]) (c := 0) X cv_X10_140 (c_X10_readsNeed M.2.1 hc_3) rfl (ci := 9) rfl fM_0 rfl rfl (Nat.le_of_ble_eq_true rfl) ⟨⟨rfl, rfl⟩, by decide, by decide⟩ dX10_readsParts_82 ⟨rfl, rfl⟩ rfl ?_
    exact t_X10_readsParts_b85 X hk48 σ2 x1 x2 x3 x4 r1 h
set_option maxRecDepth 100000 in
set_option maxHeartbeats 4000000 in
theorem t_X10_readsParts_b48 {M : am_M} {D : va_G} {cT : Nat → ClassId} {ad : Nat → Nat} (X : am_X M (D, cT, ad, NM, LM) cX10_readsParts RX10 6 (some .int)) {z : Int32 × Sg} {k48 : Sg → Int32 → Int32 → Int32 → Int32 → Option (Int32 × Sg)} (hk48 : ∀ (σ : Sg) (x1 : Int32) (x2 : Int32) (x3 : Int32) (x4 : Int32), k48 σ x1 x2 x3 x4 = some z → am_At M { frames := 3, cells := 0, slots := 0, locals := 69 } (D, cT, ad, NM, LM) (amQi M (D, cT, ad, NM, LM) z) 6 48 [(0, .ref (ad 0)), (1, .int x1), (2, .int x2), (3, .int x3), (4, .int x4)] [] σ) (σ : Sg) (x1 : Int32) (x2 : Int32) (x3 : Int32) (x4 : Int32) (h : f_X10_readsParts_b48 k48 σ x1 x2 x3 x4 = some z) : am_At M { frames := 3, cells := 0, slots := 0, locals := 69 } (D, cT, ad, NM, LM) (amQi M (D, cT, ad, NM, LM) z) 6 48 [(0, .ref (ad 0)), (1, .int x1), (2, .int x2), (3, .int x3), (4, .int x4)] [] σ := by
  unfold f_X10_readsParts_b48 at h
  refine r_iload X dX10_readsParts_48 4 rfl ?_
  refine r_aload_n X dX10_readsParts_50 rfl 0 rfl ?_
  refine r_getR (c1 := 1) X fg_X10_7_X10 fM_0 rfl dX10_readsParts_51 ?_
  refine r_iload_n X dX10_readsParts_54 rfl 1 rfl ?_
  refine r_iald X fM_1 dX10_readsParts_55 h (fun h => ?_)
  refine r_icmp_lt X 64 dX10_readsParts_56 (by decide) h (fun h => ?_) (fun h => ?_)
  · exact t_X10_readsParts_b64 X hk48 σ x1 x2 x3 x4 h
  · refine r_iload X dX10_readsParts_59 4 rfl ?_
    refine r_if_le X 175 dX10_readsParts_61 (by decide) h (fun h => ?_) (fun h => ?_)
    · refine r_iconst (v := -1) X dX10_readsParts_175 (by decide) ?_
      exact r_iretz X rfl dX10_readsParts_176 h
    · exact t_X10_readsParts_b64 X hk48 σ x1 x2 x3 x4 h
theorem t_X10_readsParts_l48 {M : am_M} {D : va_G} {cT : Nat → ClassId} {ad : Nat → Nat} (X : am_X M (D, cT, ad, NM, LM) cX10_readsParts RX10 6 (some .int)) {z : Int32 × Sg} (n : Nat) : ∀ (σ : Sg) (x1 : Int32) (x2 : Int32) (x3 : Int32) (x4 : Int32), f_X10_readsParts_l48 n σ x1 x2 x3 x4 = some z → am_At M { frames := 3, cells := 0, slots := 0, locals := 69 } (D, cT, ad, NM, LM) (amQi M (D, cT, ad, NM, LM) z) 6 48 [(0, .ref (ad 0)), (1, .int x1), (2, .int x2), (3, .int x3), (4, .int x4)] [] σ := by
  induction n with
  | zero =>
    intro σ x1 x2 x3 x4 h
    have h2 : (none : Option (Int32 × Sg)) = some z := h
    cases h2
  | succ n ih =>
    intro σ x1 x2 x3 x4 h
    exact t_X10_readsParts_b48 X (k48 := f_X10_readsParts_l48 n) ih σ x1 x2 x3 x4 h
set_option maxRecDepth 100000 in
set_option maxHeartbeats 4000000 in
theorem t_X10_readsParts_b45 {M : am_M} {D : va_G} {cT : Nat → ClassId} {ad : Nat → Nat} (X : am_X M (D, cT, ad, NM, LM) cX10_readsParts RX10 6 (some .int)) {z : Int32 × Sg} (σ : Sg) (x1 : Int32) (x2 : Int32) (x3 : Int32) (x4 : Int32) (s0 : Int32) (h : f_X10_readsParts_b45 σ x1 x2 x3 x4 s0 = some z) : am_At M { frames := 3, cells := 0, slots := 0, locals := 69 } (D, cT, ad, NM, LM) (amQi M (D, cT, ad, NM, LM) z) 6 45 [(0, .ref (ad 0)), (1, .int x1), (2, .int x2), (3, .int x3), (4, .int x4)] [.int s0, .ref (ad 0)] σ := by
  unfold f_X10_readsParts_b45 at h
  refine r_putI X fp_X10_134_X10 fM_0 rfl dX10_readsParts_45 h (fun σ1 h => ?_)
  exact t_X10_readsParts_l48 X 300 σ1 x1 x2 x3 x4 h
set_option maxRecDepth 100000 in
set_option maxHeartbeats 4000000 in
theorem t_X10_readsParts_b28 {M : am_M} {D : va_G} {cT : Nat → ClassId} {ad : Nat → Nat} (X : am_X M (D, cT, ad, NM, LM) cX10_readsParts RX10 6 (some .int)) {z : Int32 × Sg} (σ : Sg) (x1 : Int32) (x2 : Int32) (x3 : Int32) (x4 : Int32) (s0 : Int32) (h : f_X10_readsParts_b28 σ x1 x2 x3 x4 s0 = some z) : am_At M { frames := 3, cells := 0, slots := 0, locals := 69 } (D, cT, ad, NM, LM) (amQi M (D, cT, ad, NM, LM) z) 6 28 [(0, .ref (ad 0)), (1, .int x1), (2, .int x2), (3, .int x3), (4, .int x4)] [.int s0, .ref (ad 0)] σ := by
  unfold f_X10_readsParts_b28 at h
  refine r_putI X fp_X10_130_X10 fM_0 rfl dX10_readsParts_28 h (fun σ1 h => ?_)
  refine r_aload_n X dX10_readsParts_31 rfl 0 rfl ?_
  refine r_iload_n X dX10_readsParts_32 rfl 1 rfl ?_
  refine r_iconst (v := 1) X dX10_readsParts_33 (by decide) ?_
  refine r_icmp_ne X 41 dX10_readsParts_34 (by decide) h (fun h => ?_) (fun h => ?_)
  · refine r_iconst (v := 0) X dX10_readsParts_37 (by decide) ?_
    refine r_goto X 45 dX10_readsParts_38 (by decide) ?_
    exact t_X10_readsParts_b45 X σ1 x1 x2 x3 x4 (0 : Int32) h
  · refine r_aload_n X dX10_readsParts_41 rfl 0 rfl ?_
    refine r_getI X fg_X10_134_X10 fM_0 rfl dX10_readsParts_42 ?_
    exact t_X10_readsParts_b45 X σ1 x1 x2 x3 x4 (σ1 0 7) h
set_option maxRecDepth 100000 in
set_option maxHeartbeats 4000000 in
theorem t_X10_readsParts_b9 {M : am_M} {D : va_G} {cT : Nat → ClassId} {ad : Nat → Nat} (X : am_X M (D, cT, ad, NM, LM) cX10_readsParts RX10 6 (some .int)) {z : Int32 × Sg} (σ : Sg) (x1 : Int32) (s0 : Int32) (h : f_X10_readsParts_b9 σ x1 s0 = some z) : am_At M { frames := 3, cells := 0, slots := 0, locals := 69 } (D, cT, ad, NM, LM) (amQi M (D, cT, ad, NM, LM) z) 6 9 [(0, .ref (ad 0)), (1, .int x1)] [.int s0] σ := by
  unfold f_X10_readsParts_b9 at h
  refine r_istore_n X [(2, .int s0), (0, .ref (ad 0)), (1, .int x1)] dX10_readsParts_9 rfl (by decide) rfl ?_
  refine r_iconst (v := 0) X dX10_readsParts_10 (by decide) ?_
  refine r_istore_n X [(3, .int (0 : Int32)), (2, .int s0), (0, .ref (ad 0)), (1, .int x1)] dX10_readsParts_11 rfl (by decide) rfl ?_
  refine r_iconst (v := 0) X dX10_readsParts_12 (by decide) ?_
  refine r_istore X [(4, .int (0 : Int32)), (3, .int (0 : Int32)), (2, .int s0), (0, .ref (ad 0)), (1, .int x1)] dX10_readsParts_13 (by decide) rfl ?_
  refine r_aload_n X dX10_readsParts_15 rfl 3 rfl ?_
  refine r_iload_n X dX10_readsParts_16 rfl 4 rfl ?_
  refine r_if_ne X 24 dX10_readsParts_17 (by decide) h (fun h => ?_) (fun h => ?_)
  · refine r_iconst (v := 0) X dX10_readsParts_20 (by decide) ?_
    refine r_goto X 28 dX10_readsParts_21 (by decide) ?_
    refine r_sub (lv' := [(0, .ref (ad 0)), (1, .int x1), (2, .int s0), (3, .int (0 : Int32)), (4, .int (0 : Int32))]) [3, 4, 2, 1, 0] rfl ?_
    exact t_X10_readsParts_b28 X σ x1 s0 (0 : Int32) (0 : Int32) (0 : Int32) h
  · refine r_aload_n X dX10_readsParts_24 rfl 3 rfl ?_
    refine r_getI X fg_X10_130_X10 fM_0 rfl dX10_readsParts_25 ?_
    refine r_sub (lv' := [(0, .ref (ad 0)), (1, .int x1), (2, .int s0), (3, .int (0 : Int32)), (4, .int (0 : Int32))]) [3, 4, 2, 1, 0] rfl ?_
    exact t_X10_readsParts_b28 X σ x1 s0 (0 : Int32) (0 : Int32) (σ 0 2) h
set_option maxRecDepth 100000 in
set_option maxHeartbeats 4000000 in
theorem c_X10_readsParts (l : Launch) {σ : Sg} {a1 : Int32} {z : Int32 × Sg} (h : f_X10_readsParts σ a1 = some z) : am_Met l yX10_readsParts cX10_readsParts 6 (some .int) { frames := 3, cells := 0, slots := 0, locals := 69 } NM LM (fun ad => [.ref (ad 0), .int a1]) σ z.2 (fun _ => some (.int z.1)) := by
  refine am_enter (by decide +kernel) (fun ad => Nat.le_of_ble_eq_true rfl) (fun M D cT ad hl X => ?_)
  subst hl
  refine r_lv (lv' := [(0, .ref (ad 0)), (1, .int a1)]) rfl ?_
  unfold f_X10_readsParts at h
  refine r_iload_n X dX10_readsParts_0 rfl 1 rfl ?_
  refine r_if_ne X 8 dX10_readsParts_1 (by decide) h (fun h => ?_) (fun h => ?_)
  · refine r_iconst (v := 4) X dX10_readsParts_4 (by decide) ?_
    refine r_goto X 9 dX10_readsParts_5 (by decide) ?_
    exact t_X10_readsParts_b9 X σ a1 (4 : Int32) h
  · refine r_iconst (v := 3) X dX10_readsParts_8 (by decide) ?_
    exact t_X10_readsParts_b9 X σ a1 (3 : Int32) h
set_option maxRecDepth 100000 in
set_option maxHeartbeats 4000000 in
theorem c_X10_faultOf (l : Launch) {σ : Sg} {a1 : Int32} {z : Int32 × Sg} (h : f_X10_faultOf σ a1 = some z) : am_Met l yX10_faultOf cX10_faultOf 4 (some .int) { frames := 4, cells := 0, slots := 0, locals := 94 } NM LM (fun ad => [.ref (ad 0), .int a1]) σ z.2 (fun _ => some (.int z.1)) := by
  refine am_enter (by decide +kernel) (fun ad => Nat.le_of_ble_eq_true rfl) (fun M D cT ad hl X => ?_)
  subst hl
  refine r_lv (lv' := [(0, .ref (ad 0)), (1, .int a1)]) rfl ?_
  unfold f_X10_faultOf at h
  refine r_aload_n X dX10_faultOf_0 rfl 0 rfl ?_
  refine r_iconst (v := 0) X dX10_faultOf_1 (by decide) ?_
  obtain ⟨r1, σ2, hc_6, h⟩ := bnd_of h
  refine r_callV (As := [.int (0 : Int32)]) (rest := []) (st2 := [.int r1]) (c := 0) X cv_X10_143 (c_X10_readsParts M.2.1 hc_6) rfl (ci := 9) rfl fM_0 rfl rfl (Nat.le_of_ble_eq_true rfl) ⟨⟨rfl, rfl⟩, by decide, by decide⟩ dX10_faultOf_2 ⟨rfl, rfl⟩ rfl ?_
  refine r_istore_n X [(2, .int r1), (0, .ref (ad 0)), (1, .int a1)] dX10_faultOf_5 rfl (by decide) rfl ?_
  refine r_aload_n X dX10_faultOf_6 rfl 1 rfl ?_
  refine r_iconst (v := 1) X dX10_faultOf_7 (by decide) ?_
  obtain ⟨r3, σ4, hc_5, h⟩ := bnd_of h
  refine r_callV (As := [.int (1 : Int32)]) (rest := []) (st2 := [.int r3]) (c := 0) X cv_X10_143 (c_X10_readsParts M.2.1 hc_5) rfl (ci := 9) rfl fM_0 rfl rfl (Nat.le_of_ble_eq_true rfl) ⟨⟨rfl, rfl⟩, by decide, by decide⟩ dX10_faultOf_8 ⟨rfl, rfl⟩ rfl ?_
  refine r_istore_n X [(3, .int r3), (2, .int r1), (0, .ref (ad 0)), (1, .int a1)] dX10_faultOf_11 rfl (by decide) rfl ?_
  refine r_iload_n X dX10_faultOf_12 rfl 3 rfl ?_
  refine r_if_ne X 20 dX10_faultOf_13 (by decide) h (fun h => ?_) (fun h => ?_)
  · refine r_iload_n X dX10_faultOf_16 rfl 1 rfl ?_
    refine r_goto X 21 dX10_faultOf_17 (by decide) ?_
    exact r_iretz X rfl dX10_faultOf_21 h
  · refine r_iload_n X dX10_faultOf_20 rfl 0 rfl ?_
    exact r_iretz X rfl dX10_faultOf_21 h
set_option maxRecDepth 100000 in
set_option maxHeartbeats 4000000 in
theorem c_X10_fault (l : Launch) {σ : Sg} {a1 : Int32} {z : Int32 × Sg} (h : f_X10_fault σ a1 = some z) : am_Met l yX10_fault cX10_fault 2 (some .int) { frames := 5, cells := 0, slots := 0, locals := 117 } NM LM (fun ad => [.ref (ad 0), .int a1]) σ z.2 (fun _ => some (.int z.1)) := by
  refine am_enter (by decide +kernel) (fun ad => Nat.le_of_ble_eq_true rfl) (fun M D cT ad hl X => ?_)
  subst hl
  refine r_lv (lv' := [(0, .ref (ad 0)), (1, .int a1)]) rfl ?_
  unfold f_X10_fault at h
  refine r_iload_n X dX10_fault_0 rfl 1 rfl ?_
  obtain ⟨r1, σ2, hc_6, h⟩ := bnd_of h
  refine r_callS (As := [.int a1]) (rest := []) (st2 := [.int r1]) X cv_X10_110 (c_X10_isText M.2.1 hc_6) rfl rfl rfl (Nat.le_of_ble_eq_true rfl) ⟨⟨rfl, rfl⟩, by decide, by decide⟩ dX10_fault_1 ⟨rfl, rfl⟩ rfl ?_
  refine r_if_eq X 15 dX10_fault_4 (by decide) h (fun h => ?_) (fun h => ?_)
  · refine r_bipush (v := -2) X dX10_fault_15 (by decide) ?_
    exact r_iretz X rfl dX10_fault_17 h
  · refine r_aload_n X dX10_fault_7 rfl 0 rfl ?_
    refine r_iload_n X dX10_fault_8 rfl 1 rfl ?_
    obtain ⟨r3, σ4, hc_5, h⟩ := bnd_of h
    refine r_callV (As := [.int a1]) (rest := []) (st2 := [.int r3]) (c := 0) X cv_X10_147 (c_X10_faultOf M.2.1 hc_5) rfl (ci := 9) rfl fM_0 rfl rfl (Nat.le_of_ble_eq_true rfl) ⟨⟨rfl, rfl⟩, by decide, by decide⟩ dX10_fault_9 ⟨rfl, rfl⟩ rfl ?_
    refine r_goto X 17 dX10_fault_12 (by decide) ?_
    exact r_iretz X rfl dX10_fault_17 h
set_option maxRecDepth 100000 in
set_option maxHeartbeats 4000000 in
theorem c_X10_reads (l : Launch) {σ : Sg} {z : Unit × Sg} (h : f_X10_reads σ = some z) : am_Met l yX10_reads cX10_reads 2 none { frames := 5, cells := 0, slots := 0, locals := 117 } NM LM (fun ad => [.ref (ad 0)]) σ z.2 (fun _ => none) := by
  refine am_enter (by decide +kernel) (fun ad => Nat.le_of_ble_eq_true rfl) (fun M D cT ad hl X => ?_)
  subst hl
  refine r_lv (lv' := [(0, .ref (ad 0))]) rfl ?_
  unfold f_X10_reads at h
  refine r_aload_n X dX10_reads_0 rfl 0 rfl ?_
  refine r_iconst (v := 0) X dX10_reads_1 (by decide) ?_
  obtain ⟨r1, σ2, hc_3, h⟩ := bnd_of h
  refine r_callV (As := [.int (0 : Int32)]) (rest := []) (st2 := [.int r1]) (c := 0) X cv_X10_147 (c_X10_faultOf M.2.1 hc_3) rfl (ci := 9) rfl fM_0 rfl rfl (Nat.le_of_ble_eq_true rfl) ⟨⟨rfl, rfl⟩, by decide, by decide⟩ dX10_reads_2 ⟨rfl, rfl⟩ rfl ?_
  refine r_istore_n X [(1, .int r1), (0, .ref (ad 0))] dX10_reads_5 rfl (by decide) rfl ?_
  exact r_vretz X rfl dX10_reads_6 h
set_option maxRecDepth 100000 in
set_option maxHeartbeats 4000000 in
theorem c_X10_isOne (l : Launch) {σ : Sg} {a1 : Int32} {z : Int32 × Sg} (h : f_X10_isOne σ a1 = some z) : am_Met l yX10_isOne cX10_isOne 2 (some .boolean) { frames := 6, cells := 0, slots := 0, locals := 138 } NM LM (fun ad => [.ref (ad 0), .int a1]) σ z.2 (fun _ => some (.int z.1)) := by
  refine am_enter (by decide +kernel) (fun ad => Nat.le_of_ble_eq_true rfl) (fun M D cT ad hl X => ?_)
  subst hl
  refine r_lv (lv' := [(0, .ref (ad 0)), (1, .int a1)]) rfl ?_
  unfold f_X10_isOne at h
  refine r_aload_n X dX10_isOne_0 rfl 0 rfl ?_
  obtain ⟨r1, σ2, hc_6, h⟩ := bnd_of h
  refine r_callV (As := []) (rest := []) (st2 := []) (c := 0) X cv_X10_150 (c_X10_reads M.2.1 hc_6) rfl (ci := 9) rfl fM_0 rfl rfl (Nat.le_of_ble_eq_true rfl) ⟨⟨rfl, rfl⟩, by decide, by decide⟩ dX10_isOne_1 ⟨rfl, rfl⟩ rfl ?_
  refine r_iload_n X dX10_isOne_4 rfl 1 rfl ?_
  refine r_iconst (v := 0) X dX10_isOne_5 (by decide) ?_
  refine r_aload_n X dX10_isOne_6 rfl 0 rfl ?_
  refine r_getI X fg_X10_130_X10 fM_0 rfl dX10_isOne_7 ?_
  refine r_iconst (v := 1) X dX10_isOne_10 (by decide) ?_
  refine r_isub X dX10_isOne_11 ?_
  obtain ⟨r3, σ4, hc_5, h⟩ := bnd_of h
  refine r_callS (As := [.int a1, .int (0 : Int32), .int ((σ2 0 2) - (1 : Int32))]) (rest := []) (st2 := [.int r3]) X cv_X10_106 (c_X10_in M.2.1 hc_5) rfl rfl rfl (Nat.le_of_ble_eq_true rfl) ⟨⟨rfl, rfl⟩, by decide, by decide⟩ dX10_isOne_12 ⟨rfl, rfl⟩ rfl ?_
  exact r_zretg X rfl dX10_isOne_15 h
set_option maxRecDepth 100000 in
set_option maxHeartbeats 4000000 in
theorem c_X10_goneOf (l : Launch) {σ : Sg} {a1 : Int32} {a2 : Int32} {z : Int32 × Sg} (h : f_X10_goneOf σ a1 a2 = some z) : am_Met l yX10_goneOf cX10_goneOf 3 (some .int) { frames := 0, cells := 0, slots := 0, locals := 0 } NM LM (fun ad => [.ref (ad 0), .int a1, .int a2]) σ z.2 (fun _ => some (.int z.1)) := by
  refine am_enter (by decide +kernel) (fun ad => Nat.le_of_ble_eq_true rfl) (fun M D cT ad hl X => ?_)
  subst hl
  refine r_lv (lv' := [(0, .ref (ad 0)), (1, .int a1), (2, .int a2)]) rfl ?_
  unfold f_X10_goneOf at h
  refine r_iload_n X dX10_goneOf_0 rfl 2 rfl ?_
  refine r_if_ne X 13 dX10_goneOf_1 (by decide) h (fun h => ?_) (fun h => ?_)
  · refine r_aload_n X dX10_goneOf_4 rfl 0 rfl ?_
    refine r_getR (c1 := 3) X fg_X10_16_X10 fM_0 rfl dX10_goneOf_5 ?_
    refine r_iload_n X dX10_goneOf_8 rfl 1 rfl ?_
    refine r_iald X fM_3 dX10_goneOf_9 h (fun h => ?_)
    refine r_goto X 47 dX10_goneOf_10 (by decide) ?_
    exact r_iretz X rfl dX10_goneOf_47 h
  · refine r_iload_n X dX10_goneOf_13 rfl 2 rfl ?_
    refine r_iconst (v := 1) X dX10_goneOf_14 (by decide) ?_
    refine r_icmp_ne X 27 dX10_goneOf_15 (by decide) h (fun h => ?_) (fun h => ?_)
    · refine r_aload_n X dX10_goneOf_18 rfl 0 rfl ?_
      refine r_getR (c1 := 4) X fg_X10_19_X10 fM_0 rfl dX10_goneOf_19 ?_
      refine r_iload_n X dX10_goneOf_22 rfl 1 rfl ?_
      refine r_iald X fM_4 dX10_goneOf_23 h (fun h => ?_)
      refine r_goto X 47 dX10_goneOf_24 (by decide) ?_
      exact r_iretz X rfl dX10_goneOf_47 h
    · refine r_iload_n X dX10_goneOf_27 rfl 2 rfl ?_
      refine r_iconst (v := 2) X dX10_goneOf_28 (by decide) ?_
      refine r_icmp_ne X 41 dX10_goneOf_29 (by decide) h (fun h => ?_) (fun h => ?_)
      · refine r_aload_n X dX10_goneOf_32 rfl 0 rfl ?_
        refine r_getR (c1 := 5) X fg_X10_22_X10 fM_0 rfl dX10_goneOf_33 ?_
        refine r_iload_n X dX10_goneOf_36 rfl 1 rfl ?_
        refine r_iald X fM_5 dX10_goneOf_37 h (fun h => ?_)
        refine r_goto X 47 dX10_goneOf_38 (by decide) ?_
        exact r_iretz X rfl dX10_goneOf_47 h
      · refine r_aload_n X dX10_goneOf_41 rfl 0 rfl ?_
        refine r_getR (c1 := 6) X fg_X10_25_X10 fM_0 rfl dX10_goneOf_42 ?_
        refine r_iload_n X dX10_goneOf_45 rfl 1 rfl ?_
        refine r_iald X fM_6 dX10_goneOf_46 h (fun h => ?_)
        exact r_iretz X rfl dX10_goneOf_47 h
set_option maxRecDepth 100000 in
set_option maxHeartbeats 4000000 in
theorem c_X10_gone (l : Launch) {σ : Sg} {a1 : Int32} {a2 : Int32} {z : Int32 × Sg} (h : f_X10_gone σ a1 a2 = some z) : am_Met l yX10_gone cX10_gone 3 (some .int) { frames := 7, cells := 0, slots := 0, locals := 159 } NM LM (fun ad => [.ref (ad 0), .int a1, .int a2]) σ z.2 (fun _ => some (.int z.1)) := by
  refine am_enter (by decide +kernel) (fun ad => Nat.le_of_ble_eq_true rfl) (fun M D cT ad hl X => ?_)
  subst hl
  refine r_lv (lv' := [(0, .ref (ad 0)), (1, .int a1), (2, .int a2)]) rfl ?_
  unfold f_X10_gone at h
  refine r_aload_n X dX10_gone_0 rfl 0 rfl ?_
  refine r_iload_n X dX10_gone_1 rfl 1 rfl ?_
  obtain ⟨r1, σ2, hc_9, h⟩ := bnd_of h
  refine r_callV (As := [.int a1]) (rest := []) (st2 := [.int r1]) (c := 0) X cv_X10_153 (c_X10_isOne M.2.1 hc_9) rfl (ci := 9) rfl fM_0 rfl rfl (Nat.le_of_ble_eq_true rfl) ⟨⟨rfl, rfl⟩, by decide, by decide⟩ dX10_gone_2 ⟨rfl, rfl⟩ rfl ?_
  refine r_if_eq X 26 dX10_gone_5 (by decide) h (fun h => ?_) (fun h => ?_)
  · refine r_bipush (v := -2) X dX10_gone_26 (by decide) ?_
    exact r_iretz X rfl dX10_gone_28 h
  · refine r_iload_n X dX10_gone_8 rfl 2 rfl ?_
    refine r_iconst (v := 0) X dX10_gone_9 (by decide) ?_
    refine r_iconst (v := 3) X dX10_gone_10 (by decide) ?_
    obtain ⟨r3, σ4, hc_8, h⟩ := bnd_of h
    refine r_callS (As := [.int a2, .int (0 : Int32), .int (3 : Int32)]) (rest := []) (st2 := [.int r3]) X cv_X10_106 (c_X10_in M.2.1 hc_8) rfl rfl rfl (Nat.le_of_ble_eq_true rfl) ⟨⟨rfl, rfl⟩, by decide, by decide⟩ dX10_gone_11 ⟨rfl, rfl⟩ rfl ?_
    refine r_if_eq X 26 dX10_gone_14 (by decide) h (fun h => ?_) (fun h => ?_)
    · refine r_bipush (v := -2) X dX10_gone_26 (by decide) ?_
      exact r_iretz X rfl dX10_gone_28 h
    · refine r_aload_n X dX10_gone_17 rfl 0 rfl ?_
      refine r_iload_n X dX10_gone_18 rfl 1 rfl ?_
      refine r_iload_n X dX10_gone_19 rfl 2 rfl ?_
      obtain ⟨r5, σ6, hc_7, h⟩ := bnd_of h
      refine r_callV (As := [.int a1, .int a2]) (rest := []) (st2 := [.int r5]) (c := 0) X cv_X10_156 (c_X10_goneOf M.2.1 hc_7) rfl (ci := 9) rfl fM_0 rfl rfl (Nat.le_of_ble_eq_true rfl) ⟨⟨rfl, rfl⟩, by decide, by decide⟩ dX10_gone_20 ⟨rfl, rfl⟩ rfl ?_
      refine r_goto X 28 dX10_gone_23 (by decide) ?_
      exact r_iretz X rfl dX10_gone_28 h
set_option maxRecDepth 100000 in
set_option maxHeartbeats 4000000 in
theorem c_X10_isNeed (l : Launch) {σ : Sg} {a1 : Int32} {z : Int32 × Sg} (h : f_X10_isNeed σ a1 = some z) : am_Met l yX10_isNeed cX10_isNeed 2 (some .boolean) { frames := 6, cells := 0, slots := 0, locals := 138 } NM LM (fun ad => [.ref (ad 0), .int a1]) σ z.2 (fun _ => some (.int z.1)) := by
  refine am_enter (by decide +kernel) (fun ad => Nat.le_of_ble_eq_true rfl) (fun M D cT ad hl X => ?_)
  subst hl
  refine r_lv (lv' := [(0, .ref (ad 0)), (1, .int a1)]) rfl ?_
  unfold f_X10_isNeed at h
  refine r_aload_n X dX10_isNeed_0 rfl 0 rfl ?_
  obtain ⟨r1, σ2, hc_6, h⟩ := bnd_of h
  refine r_callV (As := []) (rest := []) (st2 := []) (c := 0) X cv_X10_150 (c_X10_reads M.2.1 hc_6) rfl (ci := 9) rfl fM_0 rfl rfl (Nat.le_of_ble_eq_true rfl) ⟨⟨rfl, rfl⟩, by decide, by decide⟩ dX10_isNeed_1 ⟨rfl, rfl⟩ rfl ?_
  refine r_iload_n X dX10_isNeed_4 rfl 1 rfl ?_
  refine r_iconst (v := 0) X dX10_isNeed_5 (by decide) ?_
  refine r_aload_n X dX10_isNeed_6 rfl 0 rfl ?_
  refine r_getI X fg_X10_134_X10 fM_0 rfl dX10_isNeed_7 ?_
  refine r_iconst (v := 1) X dX10_isNeed_10 (by decide) ?_
  refine r_isub X dX10_isNeed_11 ?_
  obtain ⟨r3, σ4, hc_5, h⟩ := bnd_of h
  refine r_callS (As := [.int a1, .int (0 : Int32), .int ((σ2 0 7) - (1 : Int32))]) (rest := []) (st2 := [.int r3]) X cv_X10_106 (c_X10_in M.2.1 hc_5) rfl rfl rfl (Nat.le_of_ble_eq_true rfl) ⟨⟨rfl, rfl⟩, by decide, by decide⟩ dX10_isNeed_12 ⟨rfl, rfl⟩ rfl ?_
  exact r_zretg X rfl dX10_isNeed_15 h
set_option maxRecDepth 100000 in
set_option maxHeartbeats 4000000 in
theorem c_X10_isThree (l : Launch) {σ : Sg} {a0 : Int32} {z : Int32 × Sg} (h : f_X10_isThree σ a0 = some z) : am_Met l yX10_isThree cX10_isThree 1 (some .boolean) { frames := 1, cells := 0, slots := 0, locals := 22 } NM LM (fun ad => [.int a0]) σ z.2 (fun _ => some (.int z.1)) := by
  refine am_enter (by decide +kernel) (fun ad => Nat.le_of_ble_eq_true rfl) (fun M D cT ad hl X => ?_)
  subst hl
  refine r_lv (lv' := [(0, .int a0)]) rfl ?_
  unfold f_X10_isThree at h
  refine r_iload_n X dX10_isThree_0 rfl 0 rfl ?_
  refine r_iconst (v := 0) X dX10_isThree_1 (by decide) ?_
  refine r_iconst (v := 2) X dX10_isThree_2 (by decide) ?_
  obtain ⟨r1, σ2, hc_3, h⟩ := bnd_of h
  refine r_callS (As := [.int a0, .int (0 : Int32), .int (2 : Int32)]) (rest := []) (st2 := [.int r1]) X cv_X10_106 (c_X10_in M.2.1 hc_3) rfl rfl rfl (Nat.le_of_ble_eq_true rfl) ⟨⟨rfl, rfl⟩, by decide, by decide⟩ dX10_isThree_3 ⟨rfl, rfl⟩ rfl ?_
  exact r_zretg X rfl dX10_isThree_6 h
set_option maxRecDepth 100000 in
set_option maxHeartbeats 4000000 in
theorem c_X10_needOf (l : Launch) {σ : Sg} {a1 : Int32} {a2 : Int32} {z : Int32 × Sg} (h : f_X10_needOf σ a1 a2 = some z) : am_Met l yX10_needOf cX10_needOf 3 (some .int) { frames := 0, cells := 0, slots := 0, locals := 0 } NM LM (fun ad => [.ref (ad 0), .int a1, .int a2]) σ z.2 (fun _ => some (.int z.1)) := by
  refine am_enter (by decide +kernel) (fun ad => Nat.le_of_ble_eq_true rfl) (fun M D cT ad hl X => ?_)
  subst hl
  refine r_lv (lv' := [(0, .ref (ad 0)), (1, .int a1), (2, .int a2)]) rfl ?_
  unfold f_X10_needOf at h
  refine r_iload_n X dX10_needOf_0 rfl 2 rfl ?_
  refine r_if_ne X 13 dX10_needOf_1 (by decide) h (fun h => ?_) (fun h => ?_)
  · refine r_aload_n X dX10_needOf_4 rfl 0 rfl ?_
    refine r_getR (c1 := 7) X fg_X10_28_X10 fM_0 rfl dX10_needOf_5 ?_
    refine r_iload_n X dX10_needOf_8 rfl 1 rfl ?_
    refine r_iald X fM_7 dX10_needOf_9 h (fun h => ?_)
    refine r_goto X 33 dX10_needOf_10 (by decide) ?_
    exact r_iretz X rfl dX10_needOf_33 h
  · refine r_iload_n X dX10_needOf_13 rfl 2 rfl ?_
    refine r_iconst (v := 1) X dX10_needOf_14 (by decide) ?_
    refine r_icmp_ne X 27 dX10_needOf_15 (by decide) h (fun h => ?_) (fun h => ?_)
    · refine r_aload_n X dX10_needOf_18 rfl 0 rfl ?_
      refine r_getR (c1 := 8) X fg_X10_31_X10 fM_0 rfl dX10_needOf_19 ?_
      refine r_iload_n X dX10_needOf_22 rfl 1 rfl ?_
      refine r_iald X fM_8 dX10_needOf_23 h (fun h => ?_)
      refine r_goto X 33 dX10_needOf_24 (by decide) ?_
      exact r_iretz X rfl dX10_needOf_33 h
    · refine r_aload_n X dX10_needOf_27 rfl 0 rfl ?_
      refine r_getR (c1 := 9) X fg_X10_34_X10 fM_0 rfl dX10_needOf_28 ?_
      refine r_iload_n X dX10_needOf_31 rfl 1 rfl ?_
      refine r_iald X fM_9 dX10_needOf_32 h (fun h => ?_)
      exact r_iretz X rfl dX10_needOf_33 h
set_option maxRecDepth 100000 in
set_option maxHeartbeats 4000000 in
theorem c_X10_need (l : Launch) {σ : Sg} {a1 : Int32} {a2 : Int32} {z : Int32 × Sg} (h : f_X10_need σ a1 a2 = some z) : am_Met l yX10_need cX10_need 3 (some .int) { frames := 7, cells := 0, slots := 0, locals := 159 } NM LM (fun ad => [.ref (ad 0), .int a1, .int a2]) σ z.2 (fun _ => some (.int z.1)) := by
  refine am_enter (by decide +kernel) (fun ad => Nat.le_of_ble_eq_true rfl) (fun M D cT ad hl X => ?_)
  subst hl
  refine r_lv (lv' := [(0, .ref (ad 0)), (1, .int a1), (2, .int a2)]) rfl ?_
  unfold f_X10_need at h
  refine r_aload_n X dX10_need_0 rfl 0 rfl ?_
  refine r_iload_n X dX10_need_1 rfl 1 rfl ?_
  obtain ⟨r1, σ2, hc_9, h⟩ := bnd_of h
  refine r_callV (As := [.int a1]) (rest := []) (st2 := [.int r1]) (c := 0) X cv_X10_159 (c_X10_isNeed M.2.1 hc_9) rfl (ci := 9) rfl fM_0 rfl rfl (Nat.le_of_ble_eq_true rfl) ⟨⟨rfl, rfl⟩, by decide, by decide⟩ dX10_need_2 ⟨rfl, rfl⟩ rfl ?_
  refine r_if_eq X 24 dX10_need_5 (by decide) h (fun h => ?_) (fun h => ?_)
  · refine r_bipush (v := -2) X dX10_need_24 (by decide) ?_
    exact r_iretz X rfl dX10_need_26 h
  · refine r_iload_n X dX10_need_8 rfl 2 rfl ?_
    obtain ⟨r3, σ4, hc_8, h⟩ := bnd_of h
    refine r_callS (As := [.int a2]) (rest := []) (st2 := [.int r3]) X cv_X10_162 (c_X10_isThree M.2.1 hc_8) rfl rfl rfl (Nat.le_of_ble_eq_true rfl) ⟨⟨rfl, rfl⟩, by decide, by decide⟩ dX10_need_9 ⟨rfl, rfl⟩ rfl ?_
    refine r_if_eq X 24 dX10_need_12 (by decide) h (fun h => ?_) (fun h => ?_)
    · refine r_bipush (v := -2) X dX10_need_24 (by decide) ?_
      exact r_iretz X rfl dX10_need_26 h
    · refine r_aload_n X dX10_need_15 rfl 0 rfl ?_
      refine r_iload_n X dX10_need_16 rfl 1 rfl ?_
      refine r_iload_n X dX10_need_17 rfl 2 rfl ?_
      obtain ⟨r5, σ6, hc_7, h⟩ := bnd_of h
      refine r_callV (As := [.int a1, .int a2]) (rest := []) (st2 := [.int r5]) (c := 0) X cv_X10_165 (c_X10_needOf M.2.1 hc_7) rfl (ci := 9) rfl fM_0 rfl rfl (Nat.le_of_ble_eq_true rfl) ⟨⟨rfl, rfl⟩, by decide, by decide⟩ dX10_need_18 ⟨rfl, rfl⟩ rfl ?_
      refine r_goto X 26 dX10_need_21 (by decide) ?_
      exact r_iretz X rfl dX10_need_26 h
set_option maxRecDepth 100000 in
set_option maxHeartbeats 4000000 in
theorem c_X10_isTwo (l : Launch) {σ : Sg} {a0 : Int32} {z : Int32 × Sg} (h : f_X10_isTwo σ a0 = some z) : am_Met l yX10_isTwo cX10_isTwo 1 (some .boolean) { frames := 1, cells := 0, slots := 0, locals := 22 } NM LM (fun ad => [.int a0]) σ z.2 (fun _ => some (.int z.1)) := by
  refine am_enter (by decide +kernel) (fun ad => Nat.le_of_ble_eq_true rfl) (fun M D cT ad hl X => ?_)
  subst hl
  refine r_lv (lv' := [(0, .int a0)]) rfl ?_
  unfold f_X10_isTwo at h
  refine r_iload_n X dX10_isTwo_0 rfl 0 rfl ?_
  refine r_iconst (v := 0) X dX10_isTwo_1 (by decide) ?_
  refine r_iconst (v := 1) X dX10_isTwo_2 (by decide) ?_
  obtain ⟨r1, σ2, hc_3, h⟩ := bnd_of h
  refine r_callS (As := [.int a0, .int (0 : Int32), .int (1 : Int32)]) (rest := []) (st2 := [.int r1]) X cv_X10_106 (c_X10_in M.2.1 hc_3) rfl rfl rfl (Nat.le_of_ble_eq_true rfl) ⟨⟨rfl, rfl⟩, by decide, by decide⟩ dX10_isTwo_3 ⟨rfl, rfl⟩ rfl ?_
  exact r_zretg X rfl dX10_isTwo_6 h
