/-- what a need's night of being met becomes -/
def metS (D : Sg) (met : Nat → Int32) (one t : Int32) (k : Nat) : Int32 := if D 11 k = one ∧ met k = -1 ∧ D 12 k ≤ t then t else met k
theorem bringUp_no (σ : Sg) (c0 : Nat) (t : Int32) : f_X0_bringUp c0 σ (-1) t = some ((), σ) := by
  unfold f_X0_bringUp
  rw [if_pos rfl]
theorem bringMet_ok {σ : Sg} {p q c0 : Nat} (hD : DOK σ p q) (hc : 28 ≤ c0) (one t : Int32) : Ret (f_X0_bringUp_b89 c0 σ one t) (fun _ σ' => (∀ c, c ≠ c0 + 1 → σ' c = σ c) ∧ (∀ k, k < q → σ' (c0 + 1) k = metS σ (σ (c0 + 1)) one t k) ∧ ∀ k, q ≤ k → σ' (c0 + 1) k = σ (c0 + 1) k) := by
  obtain ⟨-, hq, -, hq1, -, -⟩ := hD
  unfold f_X0_bringUp_b89
  refine i_X0_bringUp_l92 c0 q (fun i σ2 x1 x3 x4 => x1 = one ∧ x3 = t ∧ x4 = nI i ∧ (∀ c, c ≠ c0 + 1 → σ2 c = σ c) ∧ (∀ k, k < i → σ2 (c0 + 1) k = metS σ (σ (c0 + 1)) one t k) ∧ ∀ k, i ≤ k → σ2 (c0 + 1) k = σ (c0 + 1) k) (fun σ2 x1 x3 x4 r => Ret r _) ?_ 300 0 (by omega) (by omega) σ one t 0 ⟨rfl, rfl, rfl, fun _ _ => rfl, fun k h => absurd h (Nat.not_lt_zero _), fun _ _ => rfl⟩
  intro i k σ2 x1 x3 x4 hi hI ih
  obtain ⟨rfl, rfl, rfl, hs, h1, h2⟩ := hI
  unfold f_X0_bringUp_b92 f_X0_bringUp_b142
  rw [hs 10 (by omega), hq1]
  rcases Nat.lt_or_ge i q with hlt | hge
  · rw [at_go hlt (by omega)]
    simp only [gd_in (show i < 8 by omega) (show 8 < 2 ^ 31 by omega), cl_nI (show i < 2147483648 by omega), hs 11 (by omega), hs 12 (by omega), amlet_eq, nI_1]
    rw [h2 i (Nat.le_refl _)]
    have stay : ¬ (σ 11 i = x1 ∧ σ (c0 + 1) i = -1 ∧ σ 12 i ≤ x3) → Ret (k σ2 x1 x3 (nI (i + 1))) (fun _ σ' => (∀ c, c ≠ c0 + 1 → σ' c = σ c) ∧ (∀ k, k < q → σ' (c0 + 1) k = metS σ (σ (c0 + 1)) x1 x3 k) ∧ ∀ k, q ≤ k → σ' (c0 + 1) k = σ (c0 + 1) k) := fun hno => by
      refine ih σ2 x1 x3 _ hlt ⟨rfl, rfl, rfl, hs, fun j hj => ?_, fun j hj => h2 j (by omega)⟩
      by_cases e : j = i
      · subst e
        rw [h2 j (Nat.le_refl _)]
        unfold metS
        rw [if_neg hno]
      · exact h1 j (by omega)
    by_cases ha : σ 11 i = x1
    · rw [if_pos ha]
      by_cases hb : σ (c0 + 1) i = -1
      · rw [if_pos hb]
        by_cases ht : x3 < σ 12 i
        · rw [if_pos ht]
          exact stay (fun q => by have := q.2.2; grind)
        · rw [if_neg ht]
          refine ih _ x1 x3 _ hlt ⟨rfl, rfl, rfl, fun c h => by rw [up2_off h]; exact hs c h, fun j hj => ?_, fun j hj => ?_⟩
          · rw [up2_at]
            by_cases e : j = i
            · subst e
              rw [upd_at]
              unfold metS
              rw [if_pos ⟨ha, hb, by grind⟩]
            · rw [upd_off e]; exact h1 j (by omega)
          · rw [up2_at, upd_off (by omega)]; exact h2 j (by omega)
      · rw [if_neg hb]
        exact stay (fun q => hb q.2.1)
    · rw [if_neg ha]
      exact stay (fun q => ha q.1)
  · have e : i = q := by omega
    subst e
    rw [at_end (Nat.le_refl _) (by omega)]
    exact ret_some.mpr ⟨hs, h1, h2⟩
theorem DOK.move {D D' : Sg} {p q : Nat} (h : DOK D p q) (e : ∀ c, 5 ≤ c → c ≤ 13 → D' c = D c) : DOK D' p q := by
  obtain ⟨h1, h2, h3, h4, h5, h6⟩ := h
  refine ⟨h1, h2, by rw [e 5 (by omega) (by omega)]; exact h3, by rw [e 10 (by omega) (by omega)]; exact h4, fun k hk => ?_, fun k hk => ?_⟩
  · rw [e 6 (by omega) (by omega), e 7 (by omega) (by omega), e 8 (by omega) (by omega), e 9 (by omega) (by omega)]; exact h5 k hk
  · rw [e 11 (by omega) (by omega), e 12 (by omega) (by omega), e 13 (by omega) (by omega)]; exact h6 k hk
theorem bringUp_ok {σ : Sg} {p q c0 b cm : Nat} (hD : DOK σ p q) (hc : 28 ≤ c0) (hb : b < 8) (hcm : cm < 9) (e6 : σ c0 6 = nI cm) (t : Int32) : Ret (f_X0_bringUp c0 σ (nI b) t) (fun _ σ' =>
    (∀ c, (c < c0 ∨ c0 + 6 < c ∨ c = c0 + 2 ∨ c = c0 + 4) → σ' c = σ c) ∧ (∀ k, k ≠ 6 → k ≠ 7 → k ≠ 8 → σ' c0 k = σ c0 k) ∧ σ' c0 8 = σ c0 8 ||| ((1 : Int32) <<< (nI b &&& 31)) ∧ σ' c0 6 = nI (cm + 1) ∧ σ' c0 7 = σ c0 7 + (if σ (c0 + 2) b = 0 then 1 else 0) ∧
    σ' (c0 + 3) = upd (σ (c0 + 3)) b (σ (c0 + 3) b + 1) ∧ σ' (c0 + 5) = upd (σ (c0 + 5)) cm t ∧ σ' (c0 + 6) = upd (σ (c0 + 6)) cm (nI b) ∧ (∀ k, k < q → σ' (c0 + 1) k = metS σ (σ (c0 + 1)) (nI b) t k) ∧ ∀ k, q ≤ k → σ' (c0 + 1) k = σ (c0 + 1) k) := by
  unfold f_X0_bringUp
  rw [if_neg (n_ne (by omega)), e6, if_pos (show nI cm < (9 : Int32) by rw [n_lit 9, p_lt (by omega) (by omega)]; omega)]
  simp only [amlet_eq, gd_in hb (show 8 < 2 ^ 31 by omega), cl_nI (show b < 2147483648 by omega)]
  have e1 : up2 σ c0 8 (σ c0 8 ||| (1 : Int32) <<< (nI b &&& 31)) (c0 + 3) = σ (c0 + 3) := up2_off (by omega)
  rw [e1]
  have e2 : ∀ v w, up2 (up2 σ c0 8 v) (c0 + 3) b w c0 6 = nI cm := fun v w => by rw [up2_off (by omega), up2_at, upd_off (by omega), e6]
  rw [e2, gd_in hcm (by omega), cl_nI (show cm < 2147483648 by omega)]
  have e3 : ∀ v w x, up2 (up2 (up2 σ c0 8 v) (c0 + 3) b w) (c0 + 5) cm x c0 6 = nI cm := fun v w x => by rw [up2_off (by omega), e2]
  rw [e3, gd_in hcm (by omega), cl_nI (show cm < 2147483648 by omega)]
  have e4 : ∀ v w x y, up2 (up2 (up2 (up2 σ c0 8 v) (c0 + 3) b w) (c0 + 5) cm x) (c0 + 6) cm y c0 6 = nI cm := fun v w x y => by rw [up2_off (by omega), e3]
  rw [e4, nI_1]
  generalize hσ5 : up2 (up2 (up2 (up2 (up2 σ c0 8 (σ c0 8 ||| (1 : Int32) <<< (nI b &&& 31))) (c0 + 3) b (σ (c0 + 3) b + 1)) (c0 + 5) cm t) (c0 + 6) cm (nI b)) c0 6 (nI (cm + 1)) = σ5
  have a0 : ∀ c, (c < c0 ∨ c0 + 6 < c ∨ c = c0 + 1 ∨ c = c0 + 2 ∨ c = c0 + 4) → σ5 c = σ c := fun c h => by
    rw [← hσ5, up2_off (by omega), up2_off (by omega), up2_off (by omega), up2_off (by omega), up2_off (by omega)]
  have a1 : ∀ k, k ≠ 6 → k ≠ 8 → σ5 c0 k = σ c0 k := fun k h6 h8 => by
    rw [← hσ5, up2_at, upd_off h6, up2_off (by omega), up2_off (by omega), up2_off (by omega), up2_at, upd_off h8]
  have a2 : σ5 c0 8 = σ c0 8 ||| ((1 : Int32) <<< (nI b &&& 31)) := by
    rw [← hσ5, up2_at, upd_off (by omega), up2_off (by omega), up2_off (by omega), up2_off (by omega), up2_at, upd_at]
  have a3 : σ5 c0 6 = nI (cm + 1) := by rw [← hσ5, up2_at, upd_at]
  have a4 : σ5 (c0 + 3) = upd (σ (c0 + 3)) b (σ (c0 + 3) b + 1) := by
    rw [← hσ5, up2_off (by omega), up2_off (by omega), up2_off (by omega), up2_at, up2_off (by omega)]
  have a5 : σ5 (c0 + 5) = upd (σ (c0 + 5)) cm t := by
    rw [← hσ5, up2_off (by omega), up2_off (by omega), up2_at, up2_off (by omega), up2_off (by omega)]
  have a6 : σ5 (c0 + 6) = upd (σ (c0 + 6)) cm (nI b) := by
    rw [← hσ5, up2_off (by omega), up2_at, up2_off (by omega), up2_off (by omega), up2_off (by omega)]
  have fin : ∀ (σ6 : Sg) (w : Int32), (∀ c, c ≠ c0 → σ6 c = σ5 c) → (∀ k, k ≠ 7 → σ6 c0 k = σ5 c0 k) → σ6 c0 7 = σ5 c0 7 + w → w = (if σ (c0 + 2) b = 0 then 1 else 0) → Ret (f_X0_bringUp_b89 c0 σ6 (nI b) t) (fun _ σ' =>
    (∀ c, (c < c0 ∨ c0 + 6 < c ∨ c = c0 + 2 ∨ c = c0 + 4) → σ' c = σ c) ∧ (∀ k, k ≠ 6 → k ≠ 7 → k ≠ 8 → σ' c0 k = σ c0 k) ∧ σ' c0 8 = σ c0 8 ||| ((1 : Int32) <<< (nI b &&& 31)) ∧ σ' c0 6 = nI (cm + 1) ∧ σ' c0 7 = σ c0 7 + (if σ (c0 + 2) b = 0 then 1 else 0) ∧
    σ' (c0 + 3) = upd (σ (c0 + 3)) b (σ (c0 + 3) b + 1) ∧ σ' (c0 + 5) = upd (σ (c0 + 5)) cm t ∧ σ' (c0 + 6) = upd (σ (c0 + 6)) cm (nI b) ∧ (∀ k, k < q → σ' (c0 + 1) k = metS σ (σ (c0 + 1)) (nI b) t k) ∧ ∀ k, q ≤ k → σ' (c0 + 1) k = σ (c0 + 1) k) := by
    intro σ6 w g1 g2 g3 g4
    refine ret_mono (bringMet_ok (hD.move fun c h1 h2 => by rw [g1 c (by omega), a0 c (by omega)]) hc (nI b) t) (fun _ σ' h => ?_)
    obtain ⟨m1, m2, m3⟩ := h
    have e11 : σ6 (c0 + 1) = σ (c0 + 1) := by rw [g1 _ (by omega), a0 _ (by omega)]
    refine ⟨fun c h => by rw [m1 c (by omega), g1 c (by omega), a0 c (by omega)], fun k h6 h7 h8 => by rw [m1 c0 (by omega), g2 k h7, a1 k h6 h8], by rw [m1 c0 (by omega), g2 8 (by omega), a2], by rw [m1 c0 (by omega), g2 6 (by omega), a3], by rw [m1 c0 (by omega), g3, a1 7 (by omega) (by omega), g4], by rw [m1 _ (by omega), g1 _ (by omega), a4], by rw [m1 _ (by omega), g1 _ (by omega), a5], by rw [m1 _ (by omega), g1 _ (by omega), a6], fun k hk => ?_, fun k hk => by rw [m3 k hk, e11]⟩
    rw [m2 k hk, e11]
    unfold metS
    rw [g1 11 (by omega), g1 12 (by omega), a0 11 (by omega), a0 12 (by omega)]
  rw [a0 (c0 + 2) (by omega)]
  by_cases hz : σ (c0 + 2) b = 0
  · rw [if_pos hz]
    exact fin _ 1 (fun c h => up2_off h) (fun k h => by rw [up2_at, upd_off h]) (by rw [up2_at, upd_at]) (by rw [if_pos hz])
  · rw [if_neg hz]
    exact fin _ 0 (fun c h => rfl) (fun k h => rfl) (by simp) (by rw [if_neg hz])
