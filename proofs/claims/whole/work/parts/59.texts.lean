/-! a text typed, wiped, undone -/
/-- the class takes text 0 anew -/
theorem retext0 {D : Sg} {p q n0 n1 n m : Nat} {ek ef : Nat → Int32} {en : Nat → Nat} {σ σ1 : Sg} {n' : Nat} (h : XI D p q n0 n1 n m ek ef en σ) (hn : n' ≤ 39) (e1 : σ1 1 1 = nI 39) (e2 : σ1 1 2 = nI n') (e : ∀ c, c ≠ 1 → c ≠ 2 → σ1 c = σ c) : Ret (f_X9_takeTextAnew σ1 (0 : Int32)) (fun _ σ' =>
    σ' 1 = σ1 1 ∧ σ' 2 = σ1 2 ∧ (∀ c, (24 ≤ c ∧ c ≤ 27) ∨ 45 ≤ c → σ' c = D c) ∧ σ' 4 = D 4 ∧ σ' 0 14 = D 0 14 ∧ ∃ p', XI σ' p' q n' n1 n m ek ef en σ') := by
  obtain ⟨⟨t1, t2, t3, t4, t5, t6, t7, t8, t9, t10, t11, t12, t13, t14⟩, h2, h3, h4, h5, h6, h7, h8, h9⟩ := h
  unfold f_X9_takeTextAnew f_X9_takeTextAnew_b29
  rw [if_pos (show (0 : Int32) = 0 from rfl)]
  have eL : σ1 5 = D 5 := by rw [e 5 (by omega) (by omega), h5 5 (by omega)]
  refine ret_bnd (takeG_ok hn e2 (by rw [eL]; exact t7)) (fun _ σ2 b => ?_)
  obtain ⟨b1, b2, b3, b4, b5⟩ := b
  unfold f_X9_markStale
  simp only [amlet_eq, bnd_some]
  generalize hσ : up2 (up2 σ2 0 12 (1 : Int32)) 0 13 (1 : Int32) = σ'
  have z : ∀ c, c ≠ 0 → σ' c = σ2 c := fun c hc => by rw [← hσ, up2_off hc, up2_off hc]
  have z2 : ∀ c, c ≠ 0 → (c < 5 ∨ 9 < c) → σ' c = σ1 c := fun c g1 g2 => by rw [z c g1, b1 c g2]
  have zD : ∀ c, ((1 ≤ c ∧ c ≤ 13) ∨ (24 ≤ c ∧ c ≤ 27) ∨ 45 ≤ c) → c ≠ 1 → c ≠ 2 → (c < 5 ∨ 9 < c) → σ' c = D c := fun c g1 g2 g3 g4 => by rw [z2 c (by omega) g4, e c g2 g3, h5 c g1]
  have y12 : σ' 0 12 = 1 := by rw [← hσ, up2_at, upd_off (by omega), up2_at, upd_at]
  have y13 : σ' 0 13 = 1 := by rw [← hσ, up2_at, upd_at]
  have y14 : σ' 0 14 = D 0 14 := by rw [← hσ, up2_at, upd_off (by omega), up2_at, upd_off (by omega), b1 0 (by omega), e 0 (by omega) (by omega), h6]
  refine ret_some.mpr ⟨z2 1 (by omega) (by omega), z2 2 (by omega) (by omega), fun c hc => zD c (by omega) (by omega) (by omega) (by omega), zD 4 (by omega) (by omega) (by omega) (by omega), y14, ?_⟩
  have hF : FL (gG (σ' 2)) 5 n' (σ' 5 2) := by rw [z2 2 (by omega) (by omega), z 5 (by omega)]; exact b3
  have hS : (σ' 5 2 = -1 ∧ σ' 5 1 = nI ((n' + 1) / 5)) ∨ (¬ σ' 5 2 = -1 ∧ σ' 5 1 = 0) := by rw [z 5 (by omega)]; exact b4
  have hV : σ' 5 2 = -1 → vG (σ' 2) σ' n' := fun hm => by
    rw [z2 2 (by omega) (by omega)]
    rw [z 5 (by omega)] at hm
    exact (b5 hm).move (fun c g1 g2 => z c (by omega))
  have hC : σ' 1 1 = nI 39 ∧ σ' 1 2 = nI n' := by rw [z2 1 (by omega) (by omega)]; exact ⟨e1, e2⟩
  have h0 : σ' 5 0 = nI 5 := by rw [z 5 (by omega), b2, eL]; exact t7
  have hO : ∀ c, (c = 3 ∨ c = 4 ∨ (10 ≤ c ∧ c ≤ 13)) → σ' c = D c := fun c hc => zD c (by omega) (by omega) (by omega) (by omega)
  have rest : ∀ P, TX σ' P q n' n1 → XI σ' P q n' n1 n m ek ef en σ' := fun P hT => ⟨hT, ⟨h2.1, by rw [zD 24 (by omega) (by omega) (by omega) (by omega)]; exact h2.2.1, fun k hk => by
      rw [zD 25 (by omega) (by omega) (by omega) (by omega), zD 26 (by omega) (by omega) (by omega) (by omega), zD 27 (by omega) (by omega) (by omega) (by omega)]; exact h2.2.2 k hk⟩, fun s hs => by
      rw [zD (46 + 2 * s) (by omega) (by omega) (by omega) (by omega)]; exact h3 s hs, h4, fun _ _ => rfl, rfl, h7.move (fun c g1 g2 => by rw [z2 c (by omega) (by omega), e c (by omega) (by omega)]), fun g => absurd (y12.symm.trans g) (by decide), fun g => absurd (y13.symm.trans g) (by decide)⟩
  rcases hS with ⟨hm, hs⟩ | ⟨hm, hs⟩
  · exact ⟨(n' + 1) / 5, rest _ (⟨hn, t2, hC.1, by rw [hO 3 (by omega)]; exact t4, hC.2, by rw [hO 3 (by omega)]; exact t6, h0, by rw [hO 10 (by omega)]; exact t8, hs, by rw [hO 10 (by omega)]; exact t10, hF, by rw [hO 4 (by omega), hO 10 (by omega)]; exact t12, Or.inl ⟨hm, rfl, hV hm⟩, by
      rw [hO 10 (by omega), hO 4 (by omega)]
      rcases t14 with ⟨q1, q2, q3⟩ | q1
      · exact Or.inl ⟨q1, q2, q3.move (fun c g1 g2 => hO c (by omega))⟩
      · exact Or.inr q1⟩)⟩
  · exact ⟨0, rest _ (⟨hn, t2, hC.1, by rw [hO 3 (by omega)]; exact t4, hC.2, by rw [hO 3 (by omega)]; exact t6, h0, by rw [hO 10 (by omega)]; exact t8, hs, by rw [hO 10 (by omega)]; exact t10, hF, by rw [hO 4 (by omega), hO 10 (by omega)]; exact t12, Or.inr ⟨hm, rfl⟩, by
      rw [hO 10 (by omega), hO 4 (by omega)]
      rcases t14 with ⟨q1, q2, q3⟩ | q1
      · exact Or.inl ⟨q1, q2, q3.move (fun c g1 g2 => hO c (by omega))⟩
      · exact Or.inr q1⟩)⟩
/-- the class takes text 1 anew -/
theorem retext1 {D : Sg} {p q n0 n1 n m : Nat} {ek ef : Nat → Int32} {en : Nat → Nat} {σ σ1 : Sg} {n' : Nat} (h : XI D p q n0 n1 n m ek ef en σ) (hn : n' ≤ 31) (e1 : σ1 3 1 = nI 31) (e2 : σ1 3 2 = nI n') (e : ∀ c, c ≠ 3 → c ≠ 4 → σ1 c = σ c) : Ret (f_X9_takeTextAnew σ1 (1 : Int32)) (fun _ σ' =>
    σ' 3 = σ1 3 ∧ σ' 4 = σ1 4 ∧ (∀ c, (24 ≤ c ∧ c ≤ 27) ∨ 45 ≤ c → σ' c = D c) ∧ σ' 2 = D 2 ∧ σ' 0 14 = D 0 14 ∧ ∃ q', XI σ' p q' n0 n' n m ek ef en σ') := by
  obtain ⟨⟨t1, t2, t3, t4, t5, t6, t7, t8, t9, t10, t11, t12, t13, t14⟩, h2, h3, h4, h5, h6, h7, h8, h9⟩ := h
  unfold f_X9_takeTextAnew f_X9_takeTextAnew_b29
  rw [if_neg (show ¬ (1 : Int32) = 0 by decide)]
  have eL : σ1 10 = D 10 := by rw [e 10 (by omega) (by omega), h5 10 (by omega)]
  refine ret_bnd (takeN_ok hn e2 (by rw [eL]; exact t8)) (fun _ σ2 b => ?_)
  obtain ⟨b1, b2, b3, b4, b5⟩ := b
  unfold f_X9_markStale
  simp only [amlet_eq, bnd_some]
  generalize hσ : up2 (up2 σ2 0 12 (1 : Int32)) 0 13 (1 : Int32) = σ'
  have z : ∀ c, c ≠ 0 → σ' c = σ2 c := fun c hc => by rw [← hσ, up2_off hc, up2_off hc]
  have z2 : ∀ c, c ≠ 0 → (c < 10 ∨ 13 < c) → σ' c = σ1 c := fun c g1 g2 => by rw [z c g1, b1 c g2]
  have zD : ∀ c, ((1 ≤ c ∧ c ≤ 13) ∨ (24 ≤ c ∧ c ≤ 27) ∨ 45 ≤ c) → c ≠ 3 → c ≠ 4 → (c < 10 ∨ 13 < c) → σ' c = D c := fun c g1 g2 g3 g4 => by rw [z2 c (by omega) g4, e c g2 g3, h5 c g1]
  have y12 : σ' 0 12 = 1 := by rw [← hσ, up2_at, upd_off (by omega), up2_at, upd_at]
  have y13 : σ' 0 13 = 1 := by rw [← hσ, up2_at, upd_at]
  have y14 : σ' 0 14 = D 0 14 := by rw [← hσ, up2_at, upd_off (by omega), up2_at, upd_off (by omega), b1 0 (by omega), e 0 (by omega) (by omega), h6]
  refine ret_some.mpr ⟨z2 3 (by omega) (by omega), z2 4 (by omega) (by omega), fun c hc => zD c (by omega) (by omega) (by omega) (by omega), zD 2 (by omega) (by omega) (by omega) (by omega), y14, ?_⟩
  have hF : FL (gN (σ' 4)) 4 n' (σ' 10 2) := by rw [z2 4 (by omega) (by omega), z 10 (by omega)]; exact b3
  have hS : (σ' 10 2 = -1 ∧ σ' 10 1 = nI ((n' + 1) / 4)) ∨ (¬ σ' 10 2 = -1 ∧ σ' 10 1 = 0) := by rw [z 10 (by omega)]; exact b4
  have hV : σ' 10 2 = -1 → vN (σ' 4) σ' n' := fun hm => by
    rw [z2 4 (by omega) (by omega)]
    rw [z 10 (by omega)] at hm
    exact (b5 hm).move (fun c g1 g2 => z c (by omega))
  have hC : σ' 3 1 = nI 31 ∧ σ' 3 2 = nI n' := by rw [z2 3 (by omega) (by omega)]; exact ⟨e1, e2⟩
  have h0 : σ' 10 0 = nI 4 := by rw [z 10 (by omega), b2, eL]; exact t8
  have hO : ∀ c, (c = 1 ∨ c = 2 ∨ (5 ≤ c ∧ c ≤ 9)) → σ' c = D c := fun c hc => zD c (by omega) (by omega) (by omega) (by omega)
  have rest : ∀ P, TX σ' p P n0 n' → XI σ' p P n0 n' n m ek ef en σ' := fun P hT => ⟨hT, ⟨h2.1, by rw [zD 24 (by omega) (by omega) (by omega) (by omega)]; exact h2.2.1, fun k hk => by
      rw [zD 25 (by omega) (by omega) (by omega) (by omega), zD 26 (by omega) (by omega) (by omega) (by omega), zD 27 (by omega) (by omega) (by omega) (by omega)]; exact h2.2.2 k hk⟩, fun s hs => by
      rw [zD (46 + 2 * s) (by omega) (by omega) (by omega) (by omega)]; exact h3 s hs, h4, fun _ _ => rfl, rfl, h7.move (fun c g1 g2 => by rw [z2 c (by omega) (by omega), e c (by omega) (by omega)]), fun g => absurd (y12.symm.trans g) (by decide), fun g => absurd (y13.symm.trans g) (by decide)⟩
  rcases hS with ⟨hm, hs⟩ | ⟨hm, hs⟩
  · exact ⟨(n' + 1) / 4, rest _ (⟨t1, hn, by rw [hO 1 (by omega)]; exact t3, hC.1, by rw [hO 1 (by omega)]; exact t5, hC.2, by rw [hO 5 (by omega)]; exact t7, h0, by rw [hO 5 (by omega)]; exact t9, hs, by rw [hO 2 (by omega), hO 5 (by omega)]; exact t11, hF, by
      rw [hO 5 (by omega), hO 2 (by omega)]
      rcases t13 with ⟨q1, q2, q3⟩ | q1
      · exact Or.inl ⟨q1, q2, q3.move (fun c g1 g2 => hO c (by omega))⟩
      · exact Or.inr q1, Or.inl ⟨hm, rfl, hV hm⟩⟩)⟩
  · exact ⟨0, rest _ (⟨t1, hn, by rw [hO 1 (by omega)]; exact t3, hC.1, by rw [hO 1 (by omega)]; exact t5, hC.2, by rw [hO 5 (by omega)]; exact t7, h0, by rw [hO 5 (by omega)]; exact t9, hs, by rw [hO 2 (by omega), hO 5 (by omega)]; exact t11, hF, by
      rw [hO 5 (by omega), hO 2 (by omega)]
      rcases t13 with ⟨q1, q2, q3⟩ | q1
      · exact Or.inl ⟨q1, q2, q3.move (fun c g1 g2 => hO c (by omega))⟩
      · exact Or.inr q1, Or.inr ⟨hm, rfl⟩⟩)⟩
