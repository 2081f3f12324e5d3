def ordT (n : Nat) (en : Nat → Nat) (m : Nat) : List Nat := (List.range m).flatMap (fun t => (List.range n).filter (fun e => decide (en e = t)))
theorem ordT_s (n : Nat) (en : Nat → Nat) (m : Nat) : ordT n en (m + 1) = ordT n en m ++ (List.range n).filter (fun e => decide (en e = m)) := by
  unfold ordT
  rw [List.range_succ, List.flatMap_append]
  simp only [List.flatMap_cons, List.flatMap_nil, List.append_nil]
theorem ordT_le (n : Nat) (en : Nat → Nat) (t : Nat) : ∀ m, t < m → (ordT n en m).filter (fun e => decide (en e ≤ t)) = ordT n en (t + 1)
  | 0, h => absurd h (Nat.not_lt_zero _)
  | m + 1, h => by
    rw [ordT_s, List.filter_append]
    by_cases e : m = t
    · subst e
      rw [ordT_s]
      congr 1
      · refine List.filter_eq_self.mpr (fun x hx => ?_)
        have := (ord_sorted1 n en m).2 x hx
        simp only [decide_eq_true_eq]; omega
      · refine List.filter_eq_self.mpr (fun x hx => ?_)
        have := (List.mem_filter.mp hx).2
        simp only [decide_eq_true_eq] at this ⊢; omega
    · rw [ordT_le n en t m (by omega)]
      rw [List.filter_eq_nil_iff.mpr (fun x hx => by
        have := (List.mem_filter.mp hx).2
        simp only [decide_eq_true_eq] at this ⊢; omega), List.append_nil]
theorem ordL_T (n : Nat) (en : Nat → Nat) : ordL n en = ordT n en 24 := rfl
def RN (D : Sg) (p q n : Nat) (ek ef : Nat → Int32) (en : Nat → Nat) (sel : Nat → Bool) (m : Nat) : RS := runL D p q ek ef en ((ordT n en m).filter sel)
theorem RN_s (D : Sg) (p q n : Nat) (ek ef : Nat → Int32) (en : Nat → Nat) (sel : Nat → Bool) (m : Nat) : RN D p q n ek ef en sel (m + 1) = runF D p q ek ef en (RN D p q n ek ef en sel m) (((List.range n).filter (fun e => decide (en e = m))).filter sel) := by
  unfold RN runL runF
  rw [ordT_s, List.filter_append, List.foldl_append]
/-- what the reference's cells hold behind a run: of each night, and in all -/
def MN (D τ : Sg) (p q : Nat) (R : Nat → RS) (m : Nat) : Prop := ∀ t, t < m → τ 20 t = (R (t + 1)).1 ∧ τ 21 t = openR D (nI t) (R (t + 1)) q ∧ ∀ k, k < p → τ 18 (8 * t + k) = wantR D q (nI t) (R (t + 1)) k ∧ τ 19 (8 * t + k) = (R (t + 1)).2.2.2.1 k
theorem runs_ok {D τ : Sg} {p q n : Nat} {ek ef : Nat → Int32} {en : Nat → Nat} (hD : DOK D p q) (hG : MG D τ p q) (hE : EM τ n ek ef en) : Ret (f_X10_runs τ) (fun _ τ' =>
    (∀ c, (c < 16 ∨ 21 < c) → c ≠ 0 → τ' c = τ c) ∧ (∀ k, k ≠ 20 → k ≠ 23 → k ≠ 24 → k ≠ 25 → τ' 0 k = τ 0 k) ∧ MR τ' (RN D p q n ek ef en (selM (τ 0 19)) 24) ∧ MN D τ' p q (RN D p q n ek ef en (selM (τ 0 19))) 24) := by
  have hp8 := hD.1
  have loop : ∀ σ1 : Sg, (∀ c, (c < 16 ∨ 21 < c) → c ≠ 0 → σ1 c = τ c) → (∀ k, k ≠ 20 → k ≠ 23 → k ≠ 24 → k ≠ 25 → σ1 0 k = τ 0 k) → MR σ1 r0 → Ret (f_X10_runs_l50 300 σ1 (0 : Int32)) (fun _ τ' =>
    (∀ c, (c < 16 ∨ 21 < c) → c ≠ 0 → τ' c = τ c) ∧ (∀ k, k ≠ 20 → k ≠ 23 → k ≠ 24 → k ≠ 25 → τ' 0 k = τ 0 k) ∧ MR τ' (RN D p q n ek ef en (selM (τ 0 19)) 24) ∧ MN D τ' p q (RN D p q n ek ef en (selM (τ 0 19))) 24) := by
    intro σ1 a1 a2 a3
    refine i_X10_runs_l50 24 (fun t σ2 x1 => x1 = nI t ∧ (∀ c, (c < 16 ∨ 21 < c) → c ≠ 0 → σ2 c = τ c) ∧ (∀ k, k ≠ 20 → k ≠ 23 → k ≠ 24 → k ≠ 25 → σ2 0 k = τ 0 k) ∧ MR σ2 (RN D p q n ek ef en (selM (τ 0 19)) t) ∧ MN D σ2 p q (RN D p q n ek ef en (selM (τ 0 19))) t) (fun σ2 x1 r => Ret r _) ?_ 300 0 (by omega) (by omega) σ1 0 ⟨rfl, a1, a2, a3, fun t h => absurd h (Nat.not_lt_zero _)⟩
    intro t k σ2 x1 ht hI ih
    obtain ⟨rfl, hs, h0, hR, hN⟩ := hI
    unfold f_X10_runs_b50
    rw [n_lit 24]
    rcases Nat.lt_or_ge t 24 with hlt | hge
    · rw [at_go hlt (by omega)]
      have hG2 : MG D σ2 p q := hG.move (fun k hk => h0 k (by omega) (by omega) (by omega) (by omega)) (fun c g1 g2 => hs c (by omega) (by omega))
      have hE2 : EM σ2 n ek ef en := hE.move (h0 15 (by omega) (by omega) (by omega) (by omega)) (fun c g1 g2 => hs c (by omega) (by omega))
      refine ret_bnd (goesBy_ok hD hG2 hE2 hR hlt) (fun _ σ3 h3 => ?_)
      rw [h0 19 (by omega) (by omega) (by omega) (by omega), ← RN_s] at h3
      obtain ⟨b1, b2, b3, ⟨b4, b5⟩, ⟨b6, b7⟩, b8, b9⟩ := h3
      rw [amlet_eq, nI_1]
      refine ih _ _ hlt ⟨rfl, fun c g1 g2 => by rw [b1 c g1 g2]; exact hs c g1 g2, fun k g1 g2 g3 g4 => by rw [b2 k g1 g2 g3 g4]; exact h0 k g1 g2 g3 g4, b3, fun t2 ht2 => ?_⟩
      by_cases e : t2 = t
      · subst e
        exact ⟨b4, b6, b8⟩
      · obtain ⟨c1, c2, c3⟩ := hN t2 (by omega)
        refine ⟨by rw [b5 t2 e]; exact c1, by rw [b7 t2 e]; exact c2, fun k hk => ?_⟩
        rw [(b9 (8 * t2 + k) (by omega)).1, (b9 (8 * t2 + k) (by omega)).2]
        exact c3 k hk
    · have e : t = 24 := by omega
      subst e
      rw [at_end (Nat.le_refl _) (by omega)]
      exact ret_some.mpr ⟨hs, h0, hR, hN⟩
  unfold f_X10_runs
  refine i_X10_runs_l2 8 (fun i σ2 x1 => x1 = nI i ∧ (∀ c, c ≠ 16 → c ≠ 17 → σ2 c = τ c) ∧ ∀ k, k < i → σ2 17 k = -1 ∧ σ2 16 k = 0) (fun σ2 x1 r => Ret r _) ?_ 300 0 (by omega) (by omega) τ 0 ⟨rfl, fun _ _ _ => rfl, fun k h => absurd h (Nat.not_lt_zero _)⟩
  intro i k σ2 x1 hi hI ih
  obtain ⟨rfl, hs, hz⟩ := hI
  unfold f_X10_runs_b2
  rw [n_lit 8]
  rcases Nat.lt_or_ge i 8 with hlt | hge
  · rw [at_go hlt (by omega), gd_in hlt (by omega), cl_nI (by omega)]
    simp only [amlet_eq, nI_1]
    rw [gd_in hlt (by omega)]
    refine ih _ _ hlt ⟨rfl, fun c g1 g2 => by rw [up2_off g2, up2_off g1]; exact hs c g1 g2, fun j hj => ?_⟩
    rw [up2_at, up2_off (show (17 : Nat) ≠ 16 by omega), up2_off (show (16 : Nat) ≠ 17 by omega), up2_at]
    by_cases e : j = i
    · subst e; exact ⟨upd_at _ _ _, upd_at _ _ _⟩
    · rw [upd_off e, upd_off e]; exact hz j (by omega)
  · have e : i = 8 := by omega
    subst e
    rw [at_end (Nat.le_refl _) (by omega)]
    simp only [amlet_eq]
    refine loop _ (fun c g1 g2 => by simp only [up2_off g2]; exact hs c (by omega) (by omega)) (fun k g1 g2 g3 g4 => ?_) ⟨?_, ?_, fun k hk => ?_, fun k hk => ?_, fun _ => ⟨?_, ?_⟩, fun x l h => by cases h⟩
    · simp only [up2_at]
      rw [upd_off g4, upd_off g3, upd_off g2, upd_off g1, hs 0 (by omega) (by omega)]
    · simp [up2_at, upd, r0]
    · simp [up2_at, upd, r0]
    · simp only [up2_off (show (17 : Nat) ≠ 0 by omega)]
      exact (hz k hk).1
    · simp only [up2_off (show (16 : Nat) ≠ 0 by omega)]
      exact (hz k hk).2
    · simp [up2_at, upd]
    · simp [up2_at, upd]
