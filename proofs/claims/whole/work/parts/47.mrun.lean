/-! the reference's run of the nights -/
theorem and_m1 (x : Int32) : x &&& (-1 : Int32) = x := by
  apply Int32.toBitVec_inj.mp
  simp
theorem harrows_ok {D τ : Sg} {p q : Nat} (hp : p ≤ 8) (hG : MG D τ p q) (fur : Int32) : Ret (f_X10_harrows τ fur) (fun _ τ' => (∀ c, c ≠ 0 → τ' c = τ c) ∧ (∀ k, k ≠ 20 → τ' 0 k = τ 0 k) ∧ τ' 0 20 = downS D fur (τ 0 20) p) := by
  unfold f_X10_harrows
  refine i_X10_harrows_l2 p (fun i σ2 x1 x2 => x1 = fur ∧ x2 = nI i ∧ (∀ c, c ≠ 0 → σ2 c = τ c) ∧ (∀ k, k ≠ 20 → σ2 0 k = τ 0 k) ∧ σ2 0 20 = downS D fur (τ 0 20) i) (fun σ2 x1 x2 r => Ret r _) ?_ 300 0 (by omega) (by omega) τ fur 0 ⟨rfl, rfl, fun _ _ => rfl, fun _ _ => rfl, rfl⟩
  intro i k σ2 x1 x2 hi hI ih
  obtain ⟨rfl, rfl, hs, hk, hu⟩ := hI
  unfold f_X10_harrows_b2 f_X10_harrows_b34
  rw [hk 2 (by omega), hG.1]
  rcases Nat.lt_or_ge i p with hlt | hge
  · rw [at_go hlt (by omega), gd_in (by omega) (by omega), cl_nI (by omega), hs 5 (by omega), (hG.2.2.1 i hlt).2.2.1]
    simp only [amlet_eq, nI_1]
    have go : ∀ v, v = downS D x1 (τ 0 20) (i + 1) → Ret (k (up2 σ2 0 20 v) x1 (nI (i + 1))) (fun _ τ' => (∀ c, c ≠ 0 → τ' c = τ c) ∧ (∀ k, k ≠ 20 → τ' 0 k = τ 0 k) ∧ τ' 0 20 = downS D x1 (τ 0 20) p) := fun v hv => ih _ _ _ hlt ⟨rfl, rfl, fun c h => by rw [up2_off h]; exact hs c h, fun k h => by rw [up2_at, upd_off h]; exact hk k h, by rw [up2_at, upd_at]; exact hv⟩
    by_cases hy : D 8 i = x1
    · rw [if_pos hy]
      exact go _ (by rw [downS_s, if_pos hy, hu])
    · rw [if_neg hy]
      exact go _ (by rw [downS_s, if_neg hy, and_m1, hu])
  · have e : i = p := by omega
    subst e
    rw [at_end (Nat.le_refl _) (by omega)]
    exact ret_some.mpr ⟨hs, hk, hu⟩
def openR (D : Sg) (t : Int32) (s : RS) : Nat → Int32
  | 0 => 0
  | k + 1 => openR D t s k + (if opAt D s.2.2.1 t k then 1 else 0)
def selM (nt : Int32) (e : Nat) : Bool := decide (¬ ((nt >>> (nI e &&& 31)) &&& (1 : Int32)) = 1)
def runF (D : Sg) (p q : Nat) (ek ef : Nat → Int32) (en : Nat → Nat) (s : RS) (es : List Nat) : RS := es.foldl (fun s e => evS D p q (ek e) (ef e) (nI (en e)) s) s
def EM (τ : Sg) (n : Nat) (ek ef : Nat → Int32) (en : Nat → Nat) : Prop := n ≤ 9 ∧ τ 0 15 = nI n ∧ ∀ e, e < n → τ 13 e = ek e ∧ (ek e = 0 ∨ ek e = 1) ∧ τ 14 e = nI (en e) ∧ en e < 24 ∧ τ 15 e = ef e
theorem EM.move {τ τ' : Sg} {n : Nat} {ek ef : Nat → Int32} {en : Nat → Nat} (h : EM τ n ek ef en) (e0 : τ' 0 15 = τ 0 15) (e : ∀ c, 13 ≤ c → c ≤ 15 → τ' c = τ c) : EM τ' n ek ef en := by
  obtain ⟨h1, h2, h3⟩ := h
  refine ⟨h1, e0.trans h2, fun x hx => ?_⟩
  rw [e 13 (by omega) (by omega), e 14 (by omega) (by omega), e 15 (by omega) (by omega)]
  exact h3 x hx
theorem MR.keep {τ τ' : Sg} {s : RS} (h : MR τ s) (h0 : ∀ k, τ' 0 k = τ 0 k) (h16 : τ' 16 = τ 16) (h17 : τ' 17 = τ 17) : MR τ' s := by
  obtain ⟨r1, r2, r3, r4, r5, r6⟩ := h
  unfold MR
  rw [h0 20, h0 23, h0 24, h0 25, h16, h17]
  exact ⟨r1, r2, r3, r4, r5, r6⟩
/-- behind the events of a night: what is noted of it -/
theorem notes_ok {D τ : Sg} {p q t : Nat} {s : RS} (hD : DOK D p q) (hG : MG D τ p q) (hR : MR τ s) (ht : t < 24) (h21 : τ 21 t = 0) : Ret (f_X10_goesBy_l89 300 τ (nI t) (0 : Int32)) (fun _ τ' =>
    (∀ c, c ≠ 18 → c ≠ 19 → c ≠ 21 → τ' c = τ c) ∧ τ' 21 t = openR D (nI t) s q ∧ (∀ j, j ≠ t → τ' 21 j = τ 21 j) ∧
    (∀ k, k < p → τ' 18 (8 * t + k) = wantR D q (nI t) s k ∧ τ' 19 (8 * t + k) = s.2.2.2.1 k) ∧ ∀ j, (j < 8 * t ∨ 8 * t + p ≤ j) → τ' 18 j = τ 18 j ∧ τ' 19 j = τ 19 j) := by
  have hp8 := hD.1
  have hq8 := hD.2.1
  have two : ∀ σ1 : Sg, (∀ c, c ≠ 21 → σ1 c = τ c) → σ1 21 t = openR D (nI t) s q → (∀ j, j ≠ t → σ1 21 j = τ 21 j) → Ret (f_X10_goesBy_l128 300 σ1 (nI t) (0 : Int32)) (fun _ τ' =>
      (∀ c, c ≠ 18 → c ≠ 19 → c ≠ 21 → τ' c = τ c) ∧ τ' 21 t = openR D (nI t) s q ∧ (∀ j, j ≠ t → τ' 21 j = τ 21 j) ∧
      (∀ k, k < p → τ' 18 (8 * t + k) = wantR D q (nI t) s k ∧ τ' 19 (8 * t + k) = s.2.2.2.1 k) ∧ ∀ j, (j < 8 * t ∨ 8 * t + p ≤ j) → τ' 18 j = τ 18 j ∧ τ' 19 j = τ 19 j) := by
    intro σ1 a1 a2 a3
    refine i_X10_goesBy_l128 p (fun i σ2 x1 x2 => x1 = nI t ∧ x2 = nI i ∧ (∀ c, c ≠ 18 → c ≠ 19 → σ2 c = σ1 c) ∧ (∀ k, k < i → σ2 18 (8 * t + k) = wantR D q (nI t) s k ∧ σ2 19 (8 * t + k) = s.2.2.2.1 k) ∧ ∀ j, (j < 8 * t ∨ 8 * t + i ≤ j) → σ2 18 j = τ 18 j ∧ σ2 19 j = τ 19 j) (fun σ2 x1 x2 r => Ret r _) ?_ 300 0 (by omega) (by omega) σ1 (nI t) 0 ⟨rfl, rfl, fun _ _ _ => rfl, fun k h => absurd h (Nat.not_lt_zero _), fun j _ => by rw [a1 18 (by omega), a1 19 (by omega)]; exact ⟨rfl, rfl⟩⟩
    intro i k σ2 x1 x2 hi hI ih
    obtain ⟨rfl, rfl, hs, h1, h2⟩ := hI
    have hs0 : ∀ c, c ≠ 18 → c ≠ 19 → c ≠ 21 → σ2 c = τ c := fun c g1 g2 g3 => by rw [hs c g1 g2, a1 c g3]
    have hG2 : MG D σ2 p q := hG.move (fun k _ => by rw [hs0 0 (by omega) (by omega) (by omega)]) (fun c g1 g2 => hs0 c (by omega) (by omega) (by omega))
    unfold f_X10_goesBy_b128
    rw [hG2.1]
    rcases Nat.lt_or_ge i p with hlt | hge
    · have e8 : (8 : Int32) * nI t + nI i = nI (8 * t + i) := by rw [n_lit 8, pk_mul, nI_add]
      rw [at_go hlt (by omega), wanted_eq hG2 hq8, bnd_some, e8]
      simp only [amlet_eq, nI_1, gd_in (show 8 * t + i < 192 by omega) (show 192 < 2 ^ 31 by omega), gd_in (show i < 8 by omega) (show 8 < 2 ^ 31 by omega), cl_nI (show i < 2147483648 by omega), cl_nI (show 8 * t + i < 2147483648 by omega)]
      have hw : wantS D (opAt D (σ2 17) (nI t)) (nI i) (nI t) q = wantR D q (nI t) s i := by
        unfold wantR
        refine wantS_congr fun k hk => ⟨rfl, rfl, rfl, ?_⟩
        show (D 12 k ≤ nI t ∧ σ2 17 k = -1) ↔ (D 12 k ≤ nI t ∧ s.2.2.1 k = -1)
        rw [hs0 17 (by omega) (by omega) (by omega), hR.2.2.1 k (by omega)]
      rw [hw, up2_off (show (16 : Nat) ≠ 18 by omega), hs0 16 (by omega) (by omega) (by omega), hR.2.2.2.1 i (by omega)]
      refine ih _ _ _ hlt ⟨rfl, rfl, fun c g1 g2 => by rw [up2_off g2, up2_off g1]; exact hs c g1 g2, fun j hj => ?_, fun j hj => ?_⟩
      · rw [up2_off (show (18 : Nat) ≠ 19 by omega), up2_at, up2_at, up2_off (show (19 : Nat) ≠ 18 by omega)]
        by_cases e : j = i
        · subst e; rw [upd_at, upd_at]; exact ⟨rfl, rfl⟩
        · rw [upd_off (by omega), upd_off (by omega)]; exact h1 j (by omega)
      · rw [up2_off (show (18 : Nat) ≠ 19 by omega), up2_at, up2_at, up2_off (show (19 : Nat) ≠ 18 by omega), upd_off (by omega), upd_off (by omega)]
        exact h2 j (by omega)
    · have e : i = p := by omega
      subst e
      rw [at_end (Nat.le_refl _) (by omega)]
      exact ret_some.mpr ⟨hs0, by rw [hs 21 (by omega) (by omega)]; exact a2, fun j hj => by rw [hs 21 (by omega) (by omega)]; exact a3 j hj, h1, h2⟩
  refine i_X10_goesBy_l89 q (fun i σ2 x1 x2 => x1 = nI t ∧ x2 = nI i ∧ (∀ c, c ≠ 21 → σ2 c = τ c) ∧ σ2 21 t = openR D (nI t) s i ∧ ∀ j, j ≠ t → σ2 21 j = τ 21 j) (fun σ2 x1 x2 r => Ret r _) ?_ 300 0 (by omega) (by omega) τ (nI t) 0 ⟨rfl, rfl, fun _ _ => rfl, h21, fun _ _ => rfl⟩
  intro i k σ2 x1 x2 hi hI ih
  obtain ⟨rfl, rfl, hs, h1, h2⟩ := hI
  have hG2 : MG D σ2 p q := hG.move (fun k _ => by rw [hs 0 (by omega)]) (fun c g1 g2 => hs c (by omega))
  unfold f_X10_goesBy_b89 f_X10_goesBy_b118
  rw [hG2.2.1]
  rcases Nat.lt_or_ge i q with hlt | hge
  · rw [at_go hlt (by omega), gd_in ht (by omega), isOpen_eq hG2 hq8 hlt, bnd_some]
    simp only [amlet_eq, nI_1, gd_in ht (show 24 < 2 ^ 31 by omega), cl_nI (show t < 2147483648 by omega), h1]
    have go : ∀ v, v = openR D (nI t) s (i + 1) → Ret (k (up2 σ2 21 t v) (nI t) (nI (i + 1))) _ := fun v hv => ih _ _ _ hlt ⟨rfl, rfl, fun c h => by rw [up2_off h]; exact hs c h, by rw [up2_at, upd_at]; exact hv, fun j hj => by rw [up2_at, upd_off hj]; exact h2 j hj⟩
    have ho : opAt D (σ2 17) (nI t) i ↔ opAt D s.2.2.1 (nI t) i := by
      show (D 12 i ≤ nI t ∧ σ2 17 i = -1) ↔ (D 12 i ≤ nI t ∧ s.2.2.1 i = -1)
      rw [hs 17 (by omega), hR.2.2.1 i (by omega)]
    by_cases h : opAt D s.2.2.1 (nI t) i
    · rw [if_pos (ho.mpr h), if_neg (by decide)]
      exact go _ (by show _ = openR D (nI t) s i + _; rw [if_pos h])
    · rw [if_neg (fun q => h (ho.mp q)), if_pos rfl]
      exact go _ (by show _ = openR D (nI t) s i + _; rw [if_neg h])
  · have e : i = q := by omega
    subst e
    rw [at_end (Nat.le_refl _) (by omega)]
    exact two σ2 hs h1 h2
theorem goesBy_ok {D τ : Sg} {p q n t : Nat} {s : RS} {ek ef : Nat → Int32} {en : Nat → Nat} (hD : DOK D p q) (hG : MG D τ p q) (hE : EM τ n ek ef en) (hR : MR τ s) (ht : t < 24) : Ret (f_X10_goesBy τ (nI t)) (fun _ τ' =>
    (∀ c, (c < 16 ∨ 21 < c) → c ≠ 0 → τ' c = τ c) ∧ (∀ k, k ≠ 20 → k ≠ 23 → k ≠ 24 → k ≠ 25 → τ' 0 k = τ 0 k) ∧ MR τ' (runF D p q ek ef en s (((List.range n).filter (fun e => decide (en e = t))).filter (selM (τ 0 19)))) ∧
    (τ' 20 t = (runF D p q ek ef en s (((List.range n).filter (fun e => decide (en e = t))).filter (selM (τ 0 19)))).1 ∧ ∀ j, j ≠ t → τ' 20 j = τ 20 j) ∧
    (τ' 21 t = openR D (nI t) (runF D p q ek ef en s (((List.range n).filter (fun e => decide (en e = t))).filter (selM (τ 0 19)))) q ∧ ∀ j, j ≠ t → τ' 21 j = τ 21 j) ∧
    (∀ k, k < p → τ' 18 (8 * t + k) = wantR D q (nI t) (runF D p q ek ef en s (((List.range n).filter (fun e => decide (en e = t))).filter (selM (τ 0 19)))) k ∧ τ' 19 (8 * t + k) = (runF D p q ek ef en s (((List.range n).filter (fun e => decide (en e = t))).filter (selM (τ 0 19)))).2.2.2.1 k) ∧
    ∀ j, (j < 8 * t ∨ 8 * t + p ≤ j) → τ' 18 j = τ 18 j ∧ τ' 19 j = τ 19 j) := by
  have hn9 := hE.1
  unfold f_X10_goesBy
  refine i_X10_goesBy_l2 n (fun i σ2 x1 x2 => x1 = nI t ∧ x2 = nI i ∧ (∀ c, c ≠ 0 → c ≠ 16 → c ≠ 17 → σ2 c = τ c) ∧ (∀ k, k ≠ 20 → k ≠ 23 → k ≠ 24 → k ≠ 25 → σ2 0 k = τ 0 k) ∧ MR σ2 (runF D p q ek ef en s (((List.range i).filter (fun e => decide (en e = t))).filter (selM (τ 0 19))))) (fun σ2 x1 x2 r => Ret r _) ?_ 300 0 (by omega) (by omega) τ (nI t) 0 ⟨rfl, rfl, fun _ _ _ _ => rfl, fun _ _ _ _ _ => rfl, hR⟩
  intro i k σ2 x1 x2 hi hI ih
  obtain ⟨rfl, rfl, hs, h0, hR2⟩ := hI
  have hG2 : MG D σ2 p q := hG.move (fun k hk => h0 k (by omega) (by omega) (by omega) (by omega)) (fun c g1 g2 => hs c (by omega) (by omega) (by omega))
  have hE2 : EM σ2 n ek ef en := hE.move (h0 15 (by omega) (by omega) (by omega) (by omega)) (fun c g1 g2 => hs c (by omega) (by omega) (by omega))
  unfold f_X10_goesBy_b2 f_X10_goesBy_b64
  rw [hE2.2.1]
  rcases Nat.lt_or_ge i n with hlt | hge
  · obtain ⟨ee1, ee2, ee3, ee4, ee5⟩ := hE2.2.2 i hlt
    rw [at_go hlt (by omega)]
    simp only [amlet_eq, nI_1, gd_in (show i < 9 by omega) (show 9 < 2 ^ 31 by omega), cl_nI (show i < 2147483648 by omega), ee3]
    have hrange : (List.range (i + 1)).filter (fun e => decide (en e = t)) = (List.range i).filter (fun e => decide (en e = t)) ++ (if en i = t then [i] else []) := by
      rw [List.range_succ, List.filter_append]
      by_cases e : en i = t <;> simp [e]
    by_cases ht2 : nI (en i) = nI t
    · have ht3 : en i = t := nI_inj (by omega) (by omega) ht2
      rw [if_pos ht2, isIn_eq, bnd_some, h0 19 (by omega) (by omega) (by omega) (by omega)]
      rw [if_pos ht3] at hrange
      by_cases hsel : ((τ 0 19 >>> (nI i &&& 31)) &&& (1 : Int32)) = 1
      · rw [if_pos hsel, if_neg (by decide)]
        refine ih _ _ _ hlt ⟨rfl, rfl, hs, h0, ?_⟩
        rw [hrange, List.filter_append]
        simp only [selM, hsel, List.filter_cons, not_true_eq_false, decide_false, Bool.false_eq_true, if_false, List.filter_nil, List.append_nil]
        exact hR2
      · rw [if_neg hsel, if_pos rfl, ee1, ee5]
        have hadd : ∀ s' : RS, evS D p q (ek i) (ef i) (nI t) (runF D p q ek ef en s (((List.range i).filter (fun e => decide (en e = t))).filter (selM (τ 0 19)))) = s' → runF D p q ek ef en s (((List.range (i + 1)).filter (fun e => decide (en e = t))).filter (selM (τ 0 19))) = s' := fun s' hs' => by
          rw [hrange, List.filter_append, show ([i].filter (selM (τ 0 19))) = [i] from by simp [selM, hsel]]
          unfold runF
          rw [List.foldl_append]
          simp only [List.foldl_cons, List.foldl_nil, ht3]
          exact hs'
        rcases ee2 with hk0 | hk1
        · rw [if_pos hk0]
          refine ret_bnd (ploughs_ok hD hG2 hR2 (ef i) (nI t) (n_ne (by omega))) (fun _ σ9 h9 => ?_)
          obtain ⟨b1, b2, b3⟩ := h9
          refine ih _ _ _ hlt ⟨rfl, rfl, fun c g1 g2 g3 => by rw [b1 c g1 g2 g3]; exact hs c g1 g2 g3, fun k g1 g2 g3 g4 => by rw [b2 k g1 g2 g3 g4]; exact h0 k g1 g2 g3 g4, ?_⟩
          rw [hadd _ (by unfold evS; rw [if_neg (by rw [hk0]; decide)])]
          exact b3
        · rw [if_neg (by rw [hk1]; decide)]
          refine ret_bnd (harrows_ok hD.1 hG2 (ef i)) (fun _ σ6 h6 => ?_)
          obtain ⟨b1, b2, b3⟩ := h6
          refine ih _ _ _ hlt ⟨rfl, rfl, fun c g1 g2 g3 => by rw [b1 c g1]; exact hs c g1 g2 g3, fun k g1 g2 g3 g4 => by rw [b2 k g1]; exact h0 k g1 g2 g3 g4, ?_⟩
          rw [hadd _ (by unfold evS; rw [if_pos hk1])]
          obtain ⟨r1, r2, r3, r4, r5, r6⟩ := hR2
          refine ⟨by rw [b3, r1], by rw [b2 23 (by omega)]; exact r2, by rw [b1 17 (by omega)]; exact r3, by rw [b1 16 (by omega)]; exact r4, by rw [b2 24 (by omega), b2 25 (by omega)]; exact r5, by rw [b2 24 (by omega), b2 25 (by omega)]; exact r6⟩
    · rw [if_neg ht2]
      rw [if_neg (fun e => ht2 (by rw [e]))] at hrange
      refine ih _ _ _ hlt ⟨rfl, rfl, hs, h0, ?_⟩
      rw [hrange, List.append_nil]
      exact hR2
  · have e : i = n := by omega
    subst e
    rw [at_end (Nat.le_refl _) (by omega), gd_in ht (by omega), amlet_eq, gd_in ht (by omega), amlet_eq, cl_nI (by omega)]
    have z : ∀ v w c, c ≠ 20 → c ≠ 21 → up2 (up2 σ2 20 t v) 21 t w c = σ2 c := fun v w c g1 g2 => by rw [up2_off g2, up2_off g1]
    refine ret_mono (notes_ok hD (hG2.move (fun k _ => by rw [z _ _ 0 (by omega) (by omega)]) (fun c g1 g2 => z _ _ c (by omega) (by omega))) (hR2.keep (fun k => by rw [z _ _ 0 (by omega) (by omega)]) (z _ _ 16 (by omega) (by omega)) (z _ _ 17 (by omega) (by omega))) ht (by rw [up2_at, upd_at])) (fun _ τ' h => ?_)
    obtain ⟨c1, c2, c3, c4, c5⟩ := h
    refine ⟨fun c g1 g2 => ?_, fun k g1 g2 g3 g4 => ?_, ?_, ⟨?_, fun j hj => ?_⟩, ⟨c2, fun j hj => ?_⟩, c4, fun j hj => ?_⟩
    · rw [c1 c (by omega) (by omega) (by omega), z _ _ c (by omega) (by omega)]
      exact hs c g2 (by omega) (by omega)
    · rw [c1 0 (by omega) (by omega) (by omega), z _ _ 0 (by omega) (by omega)]
      exact h0 k g1 g2 g3 g4
    · exact hR2.keep (fun k => by rw [c1 0 (by omega) (by omega) (by omega), z _ _ 0 (by omega) (by omega)]) (by rw [c1 16 (by omega) (by omega) (by omega), z _ _ 16 (by omega) (by omega)]) (by rw [c1 17 (by omega) (by omega) (by omega), z _ _ 17 (by omega) (by omega)])
    · rw [c1 20 (by omega) (by omega) (by omega), up2_off (by omega), up2_at, upd_at]
      exact hR2.1
    · rw [c1 20 (by omega) (by omega) (by omega), up2_off (by omega), up2_at, upd_off hj, hs 20 (by omega) (by omega) (by omega)]
    · rw [c3 j hj, up2_at, upd_off hj, up2_off (by omega), hs 21 (by omega) (by omega) (by omega)]
    · rw [(c5 j hj).1, (c5 j hj).2, z _ _ 18 (by omega) (by omega), z _ _ 19 (by omega) (by omega), hs 18 (by omega) (by omega) (by omega), hs 19 (by omega) (by omega) (by omega)]
      exact ⟨rfl, rfl⟩
