theorem bw_1135 : Cond.classLink RL 7 RX9 ∈ bigw := lt_1 15 (by decide +kernel) rfl
theorem bw_1136 : Cond.instantiable RX9 15 ∈ bigw := lt_1 16 (by decide +kernel) rfl
theorem bw_1137 : Cond.classLink RL 10 RX10 ∈ bigw := lt_3 238 (by decide +kernel) rfl
theorem bw_1138 : Cond.instantiable RX10 42 ∈ bigw := lt_3 239 (by decide +kernel) rfl
theorem bw_1139 : Cond.code yX9_init cX9_init 2 none ∈ bigw := lt_1 19 (by decide +kernel) rfl
theorem bw_1140 : Cond.methodLink RL 9 yX9_init ∈ bigw := lt_1 17 (by decide +kernel) rfl
theorem bw_1141 : Cond.instanceMethod yX9_init ∈ bigw := lt_1 18 (by decide +kernel) rfl
theorem bw_1142 : Cond.code yX10_init cX10_init 1 none ∈ bigw := lt_4 2 (by decide +kernel) rfl
theorem bw_1143 : Cond.methodLink RL 12 yX10_init ∈ bigw := lt_4 0 (by decide +kernel) rfl
theorem bw_1144 : Cond.instanceMethod yX10_init ∈ bigw := lt_4 1 (by decide +kernel) rfl
theorem ci_L_9 : ct_Ci RL 9 yX9_init cX9_init 2 0 := ⟨bg_S bw_1139, Or.inl bw_1140, bw_1141, bw_1, by decide, by decide +kernel⟩
theorem ci_L_12 : ct_Ci RL 12 yX10_init cX10_init 1 0 := ⟨bg_S bw_1142, Or.inl bw_1143, bw_1144, bw_498, by decide, by decide +kernel⟩
theorem tm_1 {w : Cond} (i : Nat) (h : tables_1_1[i]? = some w) : w ∈ lw_tbl := List.mem_append_right _ (List.mem_append_left _ (List.mem_of_getElem? h))
theorem tm_2 {w : Cond} (i : Nat) (h : tables_1_2[i]? = some w) : w ∈ lw_tbl := List.mem_append_right _ (List.mem_append_right _ (List.mem_append_left _ (List.mem_of_getElem? h)))
theorem tm_3 {w : Cond} (i : Nat) (h : tables_1_3[i]? = some w) : w ∈ lw_tbl := List.mem_append_right _ (List.mem_append_right _ (List.mem_append_right _ (List.mem_append_left _ (List.mem_of_getElem? h))))
theorem st_ne {args : Array Value} {s : State} (hts : ∀ w ∈ lw_tbl, w.before args s = true) : am_Ne s := by
  refine ⟨List.forall_mem_cons.mpr ⟨va_Nw.of rfl (hts _ (tm_1 126 (by decide +kernel))), List.forall_mem_cons.mpr ⟨va_Nw.of rfl (hts _ (tm_1 155 (by decide +kernel))), List.forall_mem_cons.mpr ⟨va_Nw.of rfl (hts _ (tm_1 175 (by decide +kernel))), List.forall_mem_cons.mpr ⟨va_Nw.of rfl (hts _ (tm_1 220 (by decide +kernel))), List.forall_mem_cons.mpr ⟨va_Nw.of rfl (hts _ (tm_1 231 (by decide +kernel))), List.forall_mem_cons.mpr ⟨va_Nw.of rfl (hts _ (tm_2 88 (by decide +kernel))), List.forall_mem_cons.mpr ⟨va_Nw.of rfl (hts _ (tm_2 96 (by decide +kernel))), List.forall_mem_cons.mpr ⟨va_Nw.of rfl (hts _ (tm_3 176 (by decide +kernel))), fun _ h => absurd h List.not_mem_nil⟩⟩⟩⟩⟩⟩⟩⟩, List.forall_mem_cons.mpr ⟨va_Nw.of rfl (hts _ (tm_2 80 (by decide +kernel))), fun _ h => absurd h List.not_mem_nil⟩⟩
theorem st_K {args : Array Value} {s : State} (hts : ∀ w ∈ lw_tbl, w.before args s = true) : ∃ (D : va_G) (cT : Nat → ClassId), va_K D vwCl (am_tys cT) s := by
  have hbw : ∀ w ∈ bigw, w.before args s = true := fun w h => hts w (bigw_in h)
  have h : ∀ k : Nat, ∃ (c : ClassId) (i : Nat → Nat), ∀ q : vw_C, vwCl[k]? = some q → u_Kn s q.1 q.2.1 q.2.2 c i := by
    intro k
    match k with
    | 0 => obtain ⟨c0, i0, h0⟩ := u_known (C := RX0) (T := TX0) (N := 10) (n := 10) hbw inX0 (hbw _ bw_886); exact ⟨c0, i0, fun q hq => by cases hq; exact h0⟩
    | 1 => obtain ⟨c0, i0, h0⟩ := u_known (C := RX1) (T := TX1) (N := 5) (n := 5) hbw inX1 (hbw _ bw_876); exact ⟨c0, i0, fun q hq => by cases hq; exact h0⟩
    | 2 => obtain ⟨c0, i0, h0⟩ := u_known (C := RX2) (T := TX2) (N := 7) (n := 7) hbw inX2 (hbw _ bw_860); exact ⟨c0, i0, fun q hq => by cases hq; exact h0⟩
    | 3 => obtain ⟨c0, i0, h0⟩ := u_known (C := RX4) (T := TX4) (N := 6) (n := 6) hbw inX4 (hbw _ bw_870); exact ⟨c0, i0, fun q hq => by cases hq; exact h0⟩
    | 4 => obtain ⟨c0, i0, h0⟩ := u_known (C := RX5) (T := TX5) (N := 1) (n := 1) hbw inX5 (hbw _ bw_891); exact ⟨c0, i0, fun q hq => by cases hq; exact h0⟩
    | 5 => obtain ⟨c0, i0, h0⟩ := u_known (C := RX6) (T := TX6) (N := 3) (n := 3) hbw inX6 (hbw _ bw_896); exact ⟨c0, i0, fun q hq => by cases hq; exact h0⟩
    | 6 => obtain ⟨c0, i0, h0⟩ := u_known (C := RX7) (T := TX7) (N := 4) (n := 4) hbw inX7 (hbw _ bw_881); exact ⟨c0, i0, fun q hq => by cases hq; exact h0⟩
    | 7 => obtain ⟨c0, i0, h0⟩ := u_known (C := RX8) (T := TX8) (N := 3) (n := 3) hbw inX8 (hbw _ bw_852); exact ⟨c0, i0, fun q hq => by cases hq; exact h0⟩
    | 8 => obtain ⟨c0, i0, h0⟩ := u_known (C := RX9) (T := TX9) (N := 15) (n := 15) hbw inX9 (hbw _ bw_1136); exact ⟨c0, i0, fun q hq => by cases hq; exact h0⟩
    | 9 => obtain ⟨c0, i0, h0⟩ := u_known (C := RX10) (T := TX10) (N := 42) (n := 42) hbw inX10 (hbw _ bw_1138); exact ⟨c0, i0, fun q hq => by cases hq; exact h0⟩
    | k + 10 => exact ⟨0, fun _ => 0, fun q hq => by simp [vwCl] at hq⟩
  have arr : ∀ ty : FieldType, (∀ C, ty ≠ .object C) → (Cond.arrayClass ty).before args s = true → ∃ c : ClassId, ArrOfT s c ty ∧ va_RA s c ty := by
    intro ty hno hw
    obtain ⟨c, k, comp, h1, h2, h3⟩ := Cond.arrayClass_spec hw
    refine ⟨c, fun n z => ⟨(fun k h => by cases h), k, h2, comp, h3⟩, ?_⟩
    cases ty with
    | object C => exact absurd rfl (hno C)
    | _ => exact h1
  obtain ⟨cI, aI1, aI2⟩ := arr .int (fun C h => by cases h) (hbw _ bw_854)
  obtain ⟨cZ, aZ1, aZ2⟩ := arr .boolean (fun C h => by cases h) (hbw _ bw_901)
  obtain ⟨comp, cO, kO, o1, -, o2, o3, o4⟩ := Cond.arrayOver_spec (hts (Cond.arrayOver (.object RX6)) (tm_1 229 (by decide +kernel)))
  refine ⟨(fun k => Classical.choose (h k), fun k => Classical.choose (Classical.choose_spec (h k))), fun k => if k = 0 then cI else if k = 1 then cZ else cO, fun k q hq => Classical.choose_spec (Classical.choose_spec (h k)) q hq, fun k q hq => ?_⟩
  match k, hq with
  | 0, hq => cases hq; exact ⟨aI1, aI2⟩
  | 1, hq => cases hq; exact ⟨aZ1, aZ2⟩
  | 2, hq => cases hq; exact ⟨fun n z => ⟨(fun k h => by cases h), kO, o2, comp, o3⟩, kO, comp, o2, o3, o1, o4⟩
  | k + 3, hq => simp [am_tys] at hq
theorem st_left {A : Nat → Prop} {w1 w2 : va_W} (h : va_D A (w1 ++ w2)) : va_D A w1 := ⟨fun i j p q hi hj e => h.1 i j p q (by rw [List.getElem?_append_left (List.getElem?_eq_some_iff.mp hi).1]; exact hi) (by rw [List.getElem?_append_left (List.getElem?_eq_some_iff.mp hj).1]; exact hj) e, fun k q hk => h.2 k q (by rw [List.getElem?_append_left (List.getElem?_eq_some_iff.mp hk).1]; exact hk)⟩
theorem st_right {A : Nat → Prop} {w1 w2 : va_W} (h : va_D A (w1 ++ w2)) : va_D A w2 := ⟨fun i j p q hi hj e => by
  have := h.1 (w1.length + i) (w1.length + j) p q (by rw [List.getElem?_append_right (by omega), Nat.add_sub_cancel_left]; exact hi) (by rw [List.getElem?_append_right (by omega), Nat.add_sub_cancel_left]; exact hj) e
  omega, fun k q hk => h.2 (w1.length + k) q (by rw [List.getElem?_append_right (by omega), Nat.add_sub_cancel_left]; exact hk)⟩
theorem st_apart {A : Nat → Prop} {w1 w2 : va_W} (h : va_D A (w1 ++ w2)) {i j : Nat} {p q : Nat × va_E} (hi : w1[i]? = some p) (hj : w2[j]? = some q) : p.1 ≠ q.1 := fun e => by
  have hl := (List.getElem?_eq_some_iff.mp hi).1
  have := h.1 i (w1.length + j) p q (by rw [List.getElem?_append_left hl]; exact hi) (by rw [List.getElem?_append_right (by omega), Nat.add_sub_cancel_left]; exact hj) e
  omega
theorem st_pl {D : va_G} {cl : List vw_C} {w1 w2 : va_W} {H : Heap} (h : va_P D cl (w1 ++ w2) H) : va_P D cl w1 H := fun k q hk => h k q (by rw [List.getElem?_append_left (List.getElem?_eq_some_iff.mp hk).1]; exact hk)
theorem st_pr {D : va_G} {cl : List vw_C} {w1 w2 : va_W} {H : Heap} (h : va_P D cl (w1 ++ w2) H) : va_P D cl w2 H := fun k q hk => h (w1.length + k) q (by rw [List.getElem?_append_right (by omega), Nat.add_sub_cancel_left]; exact hk)
theorem st_len (O : am_O) (σ : Sg) : (am_ws O σ).length = O.2.2.2.1 := by simp [am_ws]
theorem st_maps (l : va_W) (x : Nat × va_E) : (List.range l.length).map (fun i => (l ++ [x])[i]?) = l.map some := by
  apply List.ext_getElem?
  intro i
  by_cases hi : i < l.length
  · simp [List.getElem?_map, List.getElem?_range hi, List.getElem?_append_left hi, hi]
  · have h1 : ((List.range l.length).map (fun i => (l ++ [x])[i]?))[i]? = none := by simp; omega
    have h2 : (l.map some)[i]? = none := by simp; omega
    rw [h1, h2]
set_option maxHeartbeats 8000000 in
set_option maxRecDepth 100000 in
/-- the law from its entry, where its function comes to its end -/
theorem whole_start_open (hp : ∀ (xs : Nat → Int32) (L : Nat), L ≤ 3072 → f_law_l18 xs L 600 σX0 σM0 0 = some ()) {p : Program} {e : Env} {s : State} {m : MethodId} {below : List Frame} {meth : Method} {c : Code} (l : Launch) {b L : Nat} {xs : Nat → Int32} (hL : L ≤ 3072) (C0 : lw_At p s m meth c b L xs) : W p l e room_1 s m #[Value.ref b] below meth c s.heap [] 0 0 (lw_Z below #[Value.ref b] s) (entryFrame m ([Value.ref b] : List Value).toArray 4) := by
  obtain ⟨hx, hb, hr, hml, hown, hts, hX, hbl, hlocks, hgv⟩ := id C0
  have hbw : ∀ w ∈ bigw, w.before #[Value.ref b] s = true := fun w h => hts w (bigw_in h)
  have hN := st_ne hts
  obtain ⟨D, cT, hK⟩ := st_K hts
  have hO : va_AO RX6 s := va_AO.of (hts (Cond.arrayOver (.object RX6)) (tm_1 229 (by decide +kernel)))
  have X : ct_X (p, l, e, s, m, #[Value.ref b], below, meth, c) D cT (fun q => s.heap.size ≤ q) code RL 4 False := ⟨hx, hb, hml, hown, hbw, hK, fun _ h => h, fun h => h.elim, hlocks, hN, hO, fun h => h.elim⟩
  have hl := lv_entry ([.ref b]) (n := 4) (Nat.le_of_ble_eq_true rfl)
  rw [lg_entry_eq]
  generalize (lg_sl ([.ref b]) ++ List.replicate (4 - (lg_sl ([.ref b])).length) Slot.unset).toArray = ls at hl ⊢
  have hl : lv_has ls 4 [(0, .ref b)] := hl
  suffices K : ct_At (p, l, e, s, m, #[Value.ref b], below, meth, c) room_1 D (fun q => s.heap.size ≤ q) (lw_Z below #[Value.ref b] s) 4 0 0 0 [(0, .ref b)] [] [] from
    K s.heap [] ls (fun k q h => by simp at h) ⟨fun i j p q h => by simp at h, fun k q h => by simp at h⟩ va_S.rf hl
  refine ct_new (ci := 8) X tyX9 tyX9_ok rfl inX9 bw_1135 bw_1136 bw_1 [.null, .null, .null, .null, .null, .null, .null, .null, .null, .null, .null, .null, .int 0, .int 0, .int 0] (fun j hj => by rcases (show j = 0 ∨ j = 1 ∨ j = 2 ∨ j = 3 ∨ j = 4 ∨ j = 5 ∨ j = 6 ∨ j = 7 ∨ j = 8 ∨ j = 9 ∨ j = 10 ∨ j = 11 ∨ j = 12 ∨ j = 13 ∨ j = 14 by omega) with rfl | rfl | rfl | rfl | rfl | rfl | rfl | rfl | rfl | rfl | rfl | rfl | rfl | rfl | rfl <;> rfl) (by decide) (by decide) dL_law_0 (fun q0 => ?_)
  refine ct_ws (ws' := [(q0, .inr (8, [.null, .null, .null, .null, .null, .null, .null, .null, .null, .null, .null, .null, .int 0, .int 0, .int 0]))]) rfl ?_
  refine ct_dup X dL_law_3 rfl ?_
  refine ct_callI (avs := []) (rest := [.ref q0]) (wr := []) X ci_L_9 (c_X9_init_X9 l) [0] [] rfl rfl (by decide) (by decide) rfl rfl (Nat.le_of_ble_eq_true rfl) ⟨⟨rfl, rfl⟩, by decide, by decide⟩ ⟨by decide, by decide⟩ dL_law_4 (fun ax => ?_)
  have e0 : (fun k => if k = 0 then q0 else ax k) 0 = q0 := rfl
  generalize hax : (fun k => if k = 0 then q0 else ax k) = adX at e0 ⊢
  subst e0
  clear hax
  refine ct_ws (ws' := am_ws (D, cT, adX, NX, LX) σX0) rfl ?_
  refine ct_astore_n X [(1, .ref (adX 0)), (0, .ref b)] dL_law_7 rfl (by decide) rfl ?_
  have hlen : (am_ws (D, cT, adX, NX, LX) σX0).length = NX := st_len _ _
  generalize hwX : am_ws (D, cT, adX, NX, LX) σX0 = wX at hlen ⊢
  refine ct_new (ci := 9) X tyX10 tyX10_ok rfl inX10 bw_1137 bw_1138 bw_498 [.null, .null, .int 0, .null, .null, .null, .null, .int 0, .null, .null, .null, .int 0, .null, .null, .null, .int 0, .null, .null, .null, .int 0, .int 0, .null, .null, .int 0, .int 0, .int 0, .null, .null, .null, .null, .null, .int 0, .null, .null, .null, .null, .null, .null, .null, .null, .null, .int 0] (fun j hj => by rcases (show j = 0 ∨ j = 1 ∨ j = 2 ∨ j = 3 ∨ j = 4 ∨ j = 5 ∨ j = 6 ∨ j = 7 ∨ j = 8 ∨ j = 9 ∨ j = 10 ∨ j = 11 ∨ j = 12 ∨ j = 13 ∨ j = 14 ∨ j = 15 ∨ j = 16 ∨ j = 17 ∨ j = 18 ∨ j = 19 ∨ j = 20 ∨ j = 21 ∨ j = 22 ∨ j = 23 ∨ j = 24 ∨ j = 25 ∨ j = 26 ∨ j = 27 ∨ j = 28 ∨ j = 29 ∨ j = 30 ∨ j = 31 ∨ j = 32 ∨ j = 33 ∨ j = 34 ∨ j = 35 ∨ j = 36 ∨ j = 37 ∨ j = 38 ∨ j = 39 ∨ j = 40 ∨ j = 41 by omega) with rfl | rfl | rfl | rfl | rfl | rfl | rfl | rfl | rfl | rfl | rfl | rfl | rfl | rfl | rfl | rfl | rfl | rfl | rfl | rfl | rfl | rfl | rfl | rfl | rfl | rfl | rfl | rfl | rfl | rfl | rfl | rfl | rfl | rfl | rfl | rfl | rfl | rfl | rfl | rfl | rfl | rfl <;> rfl) (by decide) (by decide) dL_law_8 (fun q1 => ?_)
  refine ct_dup X dL_law_11 rfl ?_
  refine ct_callI (avs := []) (rest := [.ref q1]) (wr := wX) X ci_L_12 (c_X10_init_X10 l) [wX.length] (List.range wX.length) (by simp) (st_maps wX _) (by rw [hlen]; decide) (fun i hi hi2 => by rw [List.mem_singleton] at hi2; rw [List.mem_range] at hi; omega) rfl rfl (Nat.le_of_ble_eq_true rfl) ⟨⟨rfl, rfl⟩, by decide, by decide⟩ ⟨by decide, by decide⟩ dL_law_12 (fun am => ?_)
  have e1 : (fun k => if k = 0 then q1 else am k) 0 = q1 := rfl
  generalize ham : (fun k => if k = 0 then q1 else am k) = adM at e1 ⊢
  subst e1
  clear ham
  refine ct_ws (ws' := wX ++ am_ws (D, cT, adM, NM, LM) σM0) rfl ?_
  refine ct_astore_n X [(2, .ref (adM 0)), (1, .ref (adX 0)), (0, .ref b)] dL_law_15 rfl (by decide) rfl ?_
  refine ct_iconst (v := 0) X dL_law_16 (by decide) ?_
  refine ct_istore_n X [(3, .int 0), (2, .ref (adM 0)), (1, .ref (adX 0)), (0, .ref b)] dL_law_17 rfl (by decide) rfl ?_
  intro H locs ls hP hD hS hl
  rw [← hwX] at hP hD
  have XL : lw_X (p, l, e, s, m, #[Value.ref b], below, meth, c) (D, cT, adX, NX, LX) (D, cT, adM, NM, LM) b L xs := by
    refine ⟨hx, hb, hml, hown, hbw, ⟨hK, hK⟩, ⟨am_Dj_of (st_left hD), am_Dj_of (st_right hD)⟩, fun i j hi hj => st_apart hD (am_get (D, cT, adX, NX, LX) σX0 hi) (am_get (D, cT, adM, NM, LM) σM0 hj), ⟨fun i hi => (st_left hD).2 i _ (am_get (D, cT, adX, NX, LX) σX0 hi), fun i hi => (st_right hD).2 i _ (am_get (D, cT, adM, NM, LM) σM0 hi)⟩, hN, ⟨hX, hbl⟩, hr, hlocks⟩
  refine W.widen (k := 600000) (n := 7302250) (Nat.le_of_ble_eq_true rfl) (Nat.le_of_ble_eq_true rfl) ?_
  exact t_law_l18 XL 600 σX0 σM0 0 (hp xs L hL) H locs ls (st_pl hP) (st_pr hP) hS (lv_sub hl [3, 2, 1, 0] rfl)
