/-! event, back, read, seen, forget -/
theorem XI.stale {D : Sg} {p q n0 n1 n m : Nat} {ek ef : Nat → Int32} {en : Nat → Nat} {σ σ' : Sg} {n' : Nat} {ek' ef' : Nat → Int32} {en' : Nat → Nat} (h : XI D p q n0 n1 n m ek ef en σ) (hn : n' ≤ 8) (hc : ∀ c, ((1 ≤ c ∧ c ≤ 13) ∨ (24 ≤ c ∧ c ≤ 27) ∨ 45 ≤ c) → σ' c = σ c) (h14 : σ' 0 14 = σ 0 14) (hE : EOK σ' 14 n' ek' ef' en') (h12 : σ' 0 12 = 1) (h13 : σ' 0 13 = 1) : XI D p q n0 n1 n' m ek' ef' en' σ' := by
  obtain ⟨h1, h2, h3, h4, h5, h6, h7, h8, h9⟩ := h
  exact ⟨h1, h2, h3, hn, fun c g => (hc c g).trans (h5 c g), h14.trans h6, hE, fun g => absurd (h12.symm.trans g) (by decide), fun g => absurd (h13.symm.trans g) (by decide)⟩
theorem marked {σ σ' : Sg} (h : f_X9_markStale σ = some ((), σ')) : (∀ c, c ≠ 0 → σ' c = σ c) ∧ σ' 0 14 = σ 0 14 ∧ σ' 0 12 = 1 ∧ σ' 0 13 = 1 := by
  unfold f_X9_markStale at h
  simp only [amlet_eq, Option.some.injEq, Prod.mk.injEq, true_and] at h
  subst h
  exact ⟨fun c hc => by rw [up2_off hc, up2_off hc], by rw [up2_at, upd_off (by omega), up2_at, upd_off (by omega)], by rw [up2_at, upd_off (by omega), up2_at, upd_at], by rw [up2_at, upd_at]⟩
theorem event_ok {D : Sg} {p q n0 n1 n m : Nat} {ek ef : Nat → Int32} {en : Nat → Nat} {σ τ : Sg} (h : XI D p q n0 n1 n m ek ef en σ) (g : MI D p q n0 n1 n m ek ef en τ) (a1 a2 a3 : Int32) : ∃ (r : Int32) (σ' τ' : Sg) (n' : Nat) (ek' ef' : Nat → Int32) (en' : Nat → Nat), f_X9_event σ a1 a2 a3 = some (r, σ') ∧ f_X10_event τ a1 a2 a3 = some (r, τ') ∧ (r < 0 ∨ 0 < r) ∧ XI D p q n0 n1 n' m ek' ef' en' σ' ∧ MI D p q n0 n1 n' m ek' ef' en' τ' := by
  unfold f_X9_event f_X10_event
  simp only [isBelow_eq, isTwo_eq, isNight_eq, isSix_eq, bnd_some, one_if]
  by_cases h1 : 0 ≤ a1 ∧ a1 < 2
  rotate_left
  · rw [if_neg h1, if_neg h1]; exact ⟨-2, σ, τ, n, ek, ef, en, rfl, rfl, Or.inl (by decide), h, g⟩
  rw [if_pos h1, if_pos h1]
  by_cases h2 : 0 ≤ a2 ∧ a2 < 24
  rotate_left
  · rw [if_neg h2, if_neg h2]; exact ⟨-2, σ, τ, n, ek, ef, en, rfl, rfl, Or.inl (by decide), h, g⟩
  rw [if_pos h2, if_pos h2]
  by_cases h3 : 0 ≤ a3 ∧ a3 < 6
  rotate_left
  · rw [if_neg h3, if_neg h3]; exact ⟨-2, σ, τ, n, ek, ef, en, rfl, rfl, Or.inl (by decide), h, g⟩
  rw [if_pos h3, if_pos h3]
  have hn8 := h.2.2.2.1
  have hE := h.eok
  have g11 := g.2.2.2.2.2.1
  rw [hE.2.1, g11]
  by_cases h8 : n = 8
  · rw [if_neg (by rw [h8]; decide), if_pos (by rw [h8]; rfl)]
    exact ⟨-4, σ, τ, n, ek, ef, en, rfl, rfl, Or.inl (by decide), h, g⟩
  · rw [if_pos (by rw [n_lit 8, p_lt (by omega) (by omega)]; omega), if_neg (by rw [n_lit 8, p_eq (by omega) (by omega)]; exact h8)]
    obtain ⟨t, ht, rfl⟩ := below_of (N := 24) (by omega) h2
    obtain ⟨u, σ1, e1, b1, b2⟩ := add_ok hE hn8 (fur := a3) (two_of h1) ht
    obtain ⟨σ2, e2⟩ : ∃ σ2, f_X9_markStale σ1 = some ((), σ2) := ⟨_, rfl⟩
    obtain ⟨c1, c2, c3, c4⟩ := marked e2
    rw [e1, bnd_some, e2, bnd_some]
    have hE2 : EOK σ2 14 (n + 1) (upd ek n a1) (upd ef n a3) (updn en n t) := b2.move (fun c g1 g2 => c1 c (by omega))
    have hX := h.stale (show n + 1 ≤ 8 by omega) (fun c hc => by rw [c1 c (by omega), b1 c (by omega)]) (by rw [c2, b1 0 (by omega)]) hE2 c3 c4
    rw [gd_in (show n < 9 by omega) (by omega), cl_nI (by omega)]
    simp only [amlet_eq]
    have y1 : ∀ v, up2 τ 10 n v 0 11 = nI n := fun v => by rw [up2_off (by omega), g11]
    rw [y1, gd_in (show n < 9 by omega) (by omega), cl_nI (by omega)]
    have y2 : ∀ v w, up2 (up2 τ 10 n v) 11 n w 0 11 = nI n := fun v w => by rw [up2_off (by omega), y1]
    rw [y2, gd_in (show n < 9 by omega) (by omega), cl_nI (by omega)]
    have y3 : ∀ v w x, up2 (up2 (up2 τ 10 n v) 11 n w) 12 n x 0 11 = nI n := fun v w x => by rw [up2_off (by omega), y2]
    rw [y3, nI_1, up2_at, upd_at, hE2.2.1]
    refine ⟨nI (n + 1), σ2, _, n + 1, upd ek n a1, upd ef n a3, updn en n t, rfl, rfl, Or.inr (by show nI 0 < _; rw [p_lt (by omega) (by omega)]; omega), hX, ?_⟩
    obtain ⟨g1, g2, g3, g4, ⟨t1, t2, t3, t4⟩, g6, g7, g8, g9, g10, g11⟩ := g
    have w : ∀ c, c ≠ 0 → c ≠ 10 → c ≠ 11 → c ≠ 12 → up2 (up2 (up2 (up2 τ 10 n a1) 11 n (nI t)) 12 n a3) 0 11 (nI (n + 1)) c = τ c := fun c q1 q2 q3 q4 => by rw [up2_off q1, up2_off q4, up2_off q3, up2_off q2]
    have w0 : ∀ k, k ≠ 11 → up2 (up2 (up2 (up2 τ 10 n a1) 11 n (nI t)) 12 n a3) 0 11 (nI (n + 1)) 0 k = τ 0 k := fun k q => by rw [up2_at, upd_off q, up2_off (by omega), up2_off (by omega), up2_off (by omega)]
    refine ⟨g1, g2, g3, by omega, ⟨?_, ?_, fun k hk => ?_, fun k hk => ?_⟩, by rw [up2_at, upd_at], fun e he => ?_, ?_, fun k hk => ?_, ?_, fun s hs => ?_⟩
    · rw [w 1 (by omega) (by omega) (by omega) (by omega)]; exact t1
    · rw [w 1 (by omega) (by omega) (by omega) (by omega)]; exact t2
    · rw [w 2 (by omega) (by omega) (by omega) (by omega)]; exact t3 k hk
    · rw [w 2 (by omega) (by omega) (by omega) (by omega)]; exact t4 k hk
    · simp only [up2_off (show (10 : Nat) ≠ 0 by omega), up2_off (show (10 : Nat) ≠ 12 by omega), up2_off (show (10 : Nat) ≠ 11 by omega), up2_off (show (11 : Nat) ≠ 0 by omega), up2_off (show (11 : Nat) ≠ 12 by omega), up2_off (show (11 : Nat) ≠ 10 by omega), up2_off (show (12 : Nat) ≠ 0 by omega), up2_off (show (12 : Nat) ≠ 10 by omega), up2_off (show (12 : Nat) ≠ 11 by omega), up2_at]
      by_cases q : e = n
      · subst q
        rw [upd_at, upd_at, upd_at, upd_at, upd_at, updn_at]
        exact ⟨rfl, two_of h1, rfl, ht, rfl⟩
      · rw [upd_off q, upd_off q, upd_off q, upd_off q, upd_off q, updn_off q]
        exact g7 e (by omega)
    · rw [w0 31 (by omega)]; exact g8
    · rw [w 23 (by omega) (by omega) (by omega) (by omega), w 24 (by omega) (by omega) (by omega) (by omega), w 25 (by omega) (by omega) (by omega) (by omega)]; exact g9 k hk
    · rw [w0 41 (by omega)]; exact g10
    · rw [w 27 (by omega) (by omega) (by omega) (by omega), w 28 (by omega) (by omega) (by omega) (by omega), w 29 (by omega) (by omega) (by omega) (by omega), w 30 (by omega) (by omega) (by omega) (by omega)]; exact g11 s hs
theorem ag_event {D : Sg} {p q n0 n1 n m : Nat} {ek ef : Nat → Int32} {en : Nat → Nat} {σ τ : Sg} (h : XI D p q n0 n1 n m ek ef en σ) (g : MI D p q n0 n1 n m ek ef en τ) (a1 a2 a3 : Int32) : Agr (f_X9_event σ a1 a2 a3) (f_X10_event τ a1 a2 a3) := by
  obtain ⟨r, σ', τ', n', ek', ef', en', e1, e2, -, hX, hM⟩ := event_ok h g a1 a2 a3
  exact ⟨r, σ', τ', e1, e2, D, p, q, n0, n1, n', m, ek', ef', en', hX, hM⟩
theorem ag_back {D : Sg} {p q n0 n1 n m : Nat} {ek ef : Nat → Int32} {en : Nat → Nat} {σ τ : Sg} (h : XI D p q n0 n1 n m ek ef en σ) (g : MI D p q n0 n1 n m ek ef en τ) : Agr (f_X9_back σ) (f_X10_back τ) := by
  have hn8 := h.2.2.2.1
  have hE := h.eok
  have g11 := g.2.2.2.2.2.1
  unfold f_X9_back f_X10_back
  rw [hE.2.1, g11]
  rcases n with _ | n
  · rw [if_pos nI_0, if_pos nI_0]
    exact agr_of (xv_some h) (mu_some g)
  · rw [if_neg (nI_ne0 (by omega) (by omega)), if_neg (nI_ne0 (by omega) (by omega))]
    obtain ⟨u, σ1, e1, b1, b2⟩ := dropLast_ok hE
    obtain ⟨σ2, e2⟩ : ∃ σ2, f_X9_markStale σ1 = some ((), σ2) := ⟨_, rfl⟩
    obtain ⟨c1, c2, c3, c4⟩ := marked e2
    rw [e1, bnd_some, e2, bnd_some]
    have hE2 : EOK σ2 14 n ek ef en := b2.move (fun c g1 g2 => c1 c (by omega))
    have hX := h.stale (show n ≤ 8 by omega) (fun c hc => by rw [c1 c (by omega), b1 c (by omega)]) (by rw [c2, b1 0 (by omega)]) hE2 c3 c4
    simp only [amlet_eq]
    rw [nI_pred, up2_at, upd_at, hE2.2.1]
    refine ⟨nI n, σ2, _, rfl, rfl, D, p, q, n0, n1, n, m, ek, ef, en, hX, ?_⟩
    obtain ⟨g1, g2, g3, g4, ⟨t1, t2, t3, t4⟩, g6, g7, g8, g9, g10, g11⟩ := g
    have w : ∀ c, c ≠ 0 → up2 τ 0 11 (nI n) c = τ c := fun c q1 => by rw [up2_off q1]
    have w0 : ∀ k, k ≠ 11 → up2 τ 0 11 (nI n) 0 k = τ 0 k := fun k q => by rw [up2_at, upd_off q]
    refine ⟨g1, g2, g3, by omega, ⟨?_, ?_, fun k hk => ?_, fun k hk => ?_⟩, by rw [up2_at, upd_at], fun e he => ?_, ?_, fun k hk => ?_, ?_, fun s hs => ?_⟩
    · rw [w 1 (by omega)]; exact t1
    · rw [w 1 (by omega)]; exact t2
    · rw [w 2 (by omega)]; exact t3 k hk
    · rw [w 2 (by omega)]; exact t4 k hk
    · rw [w 10 (by omega), w 11 (by omega), w 12 (by omega)]; exact g7 e (by omega)
    · rw [w0 31 (by omega)]; exact g8
    · rw [w 23 (by omega), w 24 (by omega), w 25 (by omega)]; exact g9 k hk
    · rw [w0 41 (by omega)]; exact g10
    · rw [w 27 (by omega), w 28 (by omega), w 29 (by omega), w 30 (by omega)]; exact g11 s hs
/-- a snapshot that differs beside the gone and the needs -/
theorem wantR_D {D D' : Sg} {q : Nat} (h : ∀ c, 5 ≤ c → c ≤ 13 → D' c = D c) (t : Int32) (s : RS) (one : Nat) : wantR D' q t s one = wantR D q t s one := by
  unfold wantR
  refine wantS_congr fun k hk => ⟨by rw [h 11 (by omega) (by omega)], by rw [h 12 (by omega) (by omega)], by rw [h 13 (by omega) (by omega)], ?_⟩
  show (D' 12 k ≤ t ∧ _) ↔ (D 12 k ≤ t ∧ _)
  rw [h 12 (by omega) (by omega)]
theorem evS_D {D D' : Sg} {p q : Nat} (hp : p ≤ 8) (h : ∀ c, 5 ≤ c → c ≤ 13 → D' c = D c) (kd fur t : Int32) (s : RS) : evS D' p q kd fur t s = evS D p q kd fur t s := by
  have hb : bestR D' p q fur t s = bestR D p q fur t s := by
    unfold bestR
    refine congrArg Prod.fst (bestS_congr hp fun k hk => ⟨by rw [h 6 (by omega) (by omega)], by rw [h 7 (by omega) (by omega)], by rw [h 8 (by omega) (by omega)], by rw [h 9 (by omega) (by omega)], wantR_D h t s k, rfl⟩)
  have hd : downS D' fur s.1 p = downS D fur s.1 p := downS_congr fun k hk => by rw [h 8 (by omega) (by omega)]
  have hm : ∀ x k, metS D' s.2.2.1 x t k = metS D s.2.2.1 x t k := fun x k => by
    unfold metS
    rw [h 11 (by omega) (by omega), h 12 (by omega) (by omega)]
  unfold evS plS
  rw [hb, hd, wantR_D h]
  simp only [hm]
theorem RN_D {D D' : Sg} {p q n : Nat} {ek ef : Nat → Int32} {en : Nat → Nat} {sel : Nat → Bool} (hp : p ≤ 8) (h : ∀ c, 5 ≤ c → c ≤ 13 → D' c = D c) (m : Nat) : RN D' p q n ek ef en sel m = RN D p q n ek ef en sel m := by
  unfold RN runL
  congr 1
  funext s e
  exact evS_D hp h _ _ _ _
theorem TX.move {D D' : Sg} {p q n0 n1 : Nat} (h : TX D p q n0 n1) (e : ∀ c, 1 ≤ c → c ≤ 13 → D' c = D c) : TX D' p q n0 n1 := by
  obtain ⟨t1, t2, t3, t4, t5, t6, t7, t8, t9, t10, t11, t12, t13, t14⟩ := h
  unfold TX
  rw [e 1 (by omega) (by omega), e 2 (by omega) (by omega), e 3 (by omega) (by omega), e 4 (by omega) (by omega), e 5 (by omega) (by omega), e 10 (by omega) (by omega)]
  refine ⟨t1, t2, t3, t4, t5, t6, t7, t8, t9, t10, t11, t12, t13.imp (fun q => ⟨q.1, q.2.1, q.2.2.move fun c g1 g2 => e c (by omega) (by omega)⟩) id, t14.imp (fun q => ⟨q.1, q.2.1, q.2.2.move fun c g1 g2 => e c (by omega) (by omega)⟩) id⟩
theorem XI.re {D : Sg} {p q n0 n1 n m : Nat} {ek ef : Nat → Int32} {en : Nat → Nat} {σ σ' : Sg} {m' : Nat} (h : XI D p q n0 n1 n m ek ef en σ) (e : ∀ c, 1 ≤ c → c ≤ 44 → ¬ (24 ≤ c ∧ c ≤ 27) → σ' c = σ c) (e0 : ∀ k, k = 12 ∨ k = 13 → σ' 0 k = σ 0 k) (hS : SE σ' m') (hH : SH σ') : XI σ' p q n0 n1 n m' ek ef en σ' := by
  obtain ⟨h1, h2, h3, h4, h5, h6, h7, h8, h9⟩ := h
  have hD : ∀ c, 1 ≤ c → c ≤ 13 → σ' c = D c := fun c g1 g2 => by rw [e c g1 (by omega) (by omega), h5 c (Or.inl ⟨g1, g2⟩)]
  have hp := h1.sizes.1
  have hR : ∀ sel k, RN σ' p q n ek ef en sel k = RN D p q n ek ef en sel k := fun sel k => RN_D hp (fun c g1 g2 => hD c (by omega) g2) k
  refine ⟨h1.move hD, hS, hH, h4, fun _ _ => rfl, rfl, h7.move (fun c g1 g2 => e c (by omega) (by omega) (by omega)), fun g => ?_, fun g => ?_⟩
  · rw [e0 12 (Or.inl rfl)] at g
    have hc : HC D p q n ek ef en selT σ' 28 := (h8 g).move (fun c g1 g2 => e c (by omega) (by omega) (by omega))
    unfold HC at hc ⊢
    simp only [hR]
    exact hc
  · rw [e0 13 (Or.inr rfl)] at g
    intro k num g1 g2
    rw [e 43 (by omega) (by omega) (by omega)]
    unfold setsC
    simp only [hR]
    exact h9 g k num g1 g2
theorem MI.re2 {D : Sg} {p q n0 n1 n m : Nat} {ek ef : Nat → Int32} {en : Nat → Nat} {τ τ' D' : Sg} {m' : Nat} (h : MI D p q n0 n1 n m ek ef en τ) (hD : ∀ c, 1 ≤ c → c ≤ 13 → D' c = D c) (hS : SE D' m') (hH : SH D') (e : ∀ c, (c = 1 ∨ c = 2 ∨ c = 10 ∨ c = 11 ∨ c = 12) → τ' c = τ c) (e0 : τ' 0 11 = τ 0 11) (s1 : τ' 0 31 = nI m') (s2 : ∀ k, k < m' → τ' 23 k = D' 25 k ∧ τ' 24 k = D' 26 k ∧ τ' 25 k = D' 27 k) (s3 : τ' 0 41 = D' 0 14)
    (s4 : ∀ s, s < 4 → (D' (46 + 2 * s) 1 = -1 ∧ τ' 27 s = 0) ∨ (¬ D' (46 + 2 * s) 1 = -1 ∧ τ' 27 s = 1 ∧ τ' 28 s = D' (46 + 2 * s) 1 ∧ τ' 29 s = D' (46 + 2 * s) 2 ∧ ∀ i, i < 60 → τ' 30 (60 * s + i) = D' (47 + 2 * s) i)) : MI D' p q n0 n1 n m' ek ef en τ' := by
  obtain ⟨h1, h2, h3, h4, ⟨t1, t2, t3, t4⟩, h6, h7, h8, h9, h10, h11⟩ := h
  refine ⟨h1.move hD, hS, hH, h4, ⟨?_, ?_, fun k hk => ?_, fun k hk => ?_⟩, by rw [e0]; exact h6, fun k hk => ?_, s1, s2, s3, s4⟩
  · rw [e 1 (by omega)]; exact t1
  · rw [e 1 (by omega)]; exact t2
  · rw [e 2 (by omega), hD 2 (by omega) (by omega)]; exact t3 k hk
  · rw [e 2 (by omega), hD 4 (by omega) (by omega)]; exact t4 k hk
  · rw [e 10 (by omega), e 11 (by omega), e 12 (by omega)]; exact h7 k hk
theorem XI.core {D : Sg} {p q n0 n1 n m : Nat} {ek ef : Nat → Int32} {en : Nat → Nat} {σ : Sg} (h : XI D p q n0 n1 n m ek ef en σ) {c : Nat} (hc : (1 ≤ c ∧ c ≤ 13) ∨ (24 ≤ c ∧ c ≤ 27) ∨ 45 ≤ c) : σ c = D c := h.2.2.2.2.1 c hc
theorem XI.se {D : Sg} {p q n0 n1 n m : Nat} {ek ef : Nat → Int32} {en : Nat → Nat} {σ : Sg} (h : XI D p q n0 n1 n m ek ef en σ) : SE σ m := by
  obtain ⟨q1, q2, q3⟩ := h.2.1
  refine ⟨q1, by rw [h.core (by omega)]; exact q2, fun k hk => ?_⟩
  rw [h.core (c := 25) (by omega), h.core (c := 26) (by omega), h.core (c := 27) (by omega)]
  exact q3 k hk
theorem XI.sh {D : Sg} {p q n0 n1 n m : Nat} {ek ef : Nat → Int32} {en : Nat → Nat} {σ : Sg} (h : XI D p q n0 n1 n m ek ef en σ) : SH σ := fun s hs => by
  rw [h.core (c := 46 + 2 * s) (by omega)]
  exact h.2.2.1 s hs
theorem SE.move {D D' : Sg} {m : Nat} (h : SE D m) (e : ∀ c, 24 ≤ c → c ≤ 27 → D' c = D c) : SE D' m := by
  obtain ⟨q1, q2, q3⟩ := h
  refine ⟨q1, by rw [e 24 (by omega) (by omega)]; exact q2, fun k hk => ?_⟩
  rw [e 25 (by omega) (by omega), e 26 (by omega) (by omega), e 27 (by omega) (by omega)]
  exact q3 k hk
theorem SH.move {D D' : Sg} (h : SH D) (e : ∀ c, 45 ≤ c → D' c = D c) : SH D' := fun s hs => by
  rw [e (46 + 2 * s) (by omega)]
  exact h s hs
/-- the links, told of the class's own cells -/
theorem link_se {D : Sg} {p q n0 n1 n m : Nat} {ek ef : Nat → Int32} {en : Nat → Nat} {σ τ : Sg} (h : XI D p q n0 n1 n m ek ef en σ) (g : MI D p q n0 n1 n m ek ef en τ) : τ 0 31 = nI m ∧ ∀ k, k < m → τ 23 k = σ 25 k ∧ τ 24 k = σ 26 k ∧ τ 25 k = σ 27 k := by
  obtain ⟨g1, g2, g3, g4, g5, g6, g7, g8, g9, g10, g11⟩ := g
  refine ⟨g8, fun k hk => ?_⟩
  rw [h.core (c := 25) (by omega), h.core (c := 26) (by omega), h.core (c := 27) (by omega)]
  exact g9 k hk
theorem link_sh {D : Sg} {p q n0 n1 n m : Nat} {ek ef : Nat → Int32} {en : Nat → Nat} {σ τ : Sg} (h : XI D p q n0 n1 n m ek ef en σ) (g : MI D p q n0 n1 n m ek ef en τ) : ∀ s, s < 4 → (σ (46 + 2 * s) 1 = -1 ∧ τ 27 s = 0) ∨ (¬ σ (46 + 2 * s) 1 = -1 ∧ τ 27 s = 1 ∧ τ 28 s = σ (46 + 2 * s) 1 ∧ τ 29 s = σ (46 + 2 * s) 2 ∧ ∀ i, i < 60 → τ 30 (60 * s + i) = σ (47 + 2 * s) i) := fun s hs => by
  rw [h.core (c := 46 + 2 * s) (by omega), h.core (c := 47 + 2 * s) (by omega)]
  exact g.2.2.2.2.2.2.2.2.2.2 s hs
theorem link_fd {D : Sg} {p q n0 n1 n m : Nat} {ek ef : Nat → Int32} {en : Nat → Nat} {σ τ : Sg} (h : XI D p q n0 n1 n m ek ef en σ) (g : MI D p q n0 n1 n m ek ef en τ) : τ 0 41 = σ 0 14 := by
  rw [h.2.2.2.2.2.1]
  exact g.2.2.2.2.2.2.2.2.2.1
theorem ag_seen {D : Sg} {p q n0 n1 n m : Nat} {ek ef : Nat → Int32} {en : Nat → Nat} {σ τ : Sg} (h : XI D p q n0 n1 n m ek ef en σ) (g : MI D p q n0 n1 n m ek ef en τ) (a1 a2 a3 : Int32) : Agr (f_X9_seen σ a1 a2 a3) (f_X10_seen τ a1 a2 a3) := by
  unfold f_X9_seen f_X10_seen
  simp only [isBelow_eq, isTwo_eq, isNight_eq, isEight_eq, bnd_some, one_if]
  by_cases h1 : 0 ≤ a1 ∧ a1 < 24
  rotate_left
  · rw [if_neg h1, if_neg h1]; exact agr_of (xv_some h) (mu_some g)
  rw [if_pos h1, if_pos h1]
  by_cases h2 : 0 ≤ a2 ∧ a2 < 8
  rotate_left
  · rw [if_neg h2, if_neg h2]; exact agr_of (xv_some h) (mu_some g)
  rw [if_pos h2, if_pos h2]
  by_cases h3 : 0 ≤ a3 ∧ a3 < 2
  rotate_left
  · rw [if_neg h3, if_neg h3]; exact agr_of (xv_some h) (mu_some g)
  rw [if_pos h3, if_pos h3]
  obtain ⟨m8, e3, hse⟩ := h.se
  obtain ⟨l1, l2⟩ := link_se h g
  have l3 := link_sh h g
  have l4 := link_fd h g
  rw [e3, l1]
  by_cases h8 : m = 8
  · rw [if_neg (by rw [h8]; decide), if_pos (by rw [h8]; rfl)]
    exact agr_of (xv_some h) (mu_some g)
  · rw [if_pos (by rw [n_lit 8, p_lt (by omega) (by omega)]; omega), if_neg (by rw [n_lit 8, p_eq (by omega) (by omega)]; exact h8)]
    unfold f_X7_add
    rw [e3, if_neg (by rw [n_lit 8, p_le (by omega) (by omega)]; omega), gd_in (show m < 8 by omega) (by omega), cl_nI (by omega)]
    simp only [amlet_eq]
    have x1 : ∀ v, up2 σ 25 m v 24 3 = nI m := fun v => by rw [up2_off (by omega), e3]
    rw [x1, gd_in (show m < 8 by omega) (by omega), cl_nI (by omega)]
    have x2 : ∀ v w, up2 (up2 σ 25 m v) 26 m w 24 3 = nI m := fun v w => by rw [up2_off (by omega), x1]
    rw [x2, gd_in (show m < 8 by omega) (by omega), cl_nI (by omega)]
    have x3 : ∀ v w x, up2 (up2 (up2 σ 25 m v) 26 m w) 27 m x 24 3 = nI m := fun v w x => by rw [up2_off (by omega), x2]
    rw [x3, nI_1, bnd_some, up2_at, upd_at, gd_in (show m < 8 by omega) (by omega)]
    have y1 : ∀ v, up2 τ 23 m v 0 31 = nI m := fun v => by rw [up2_off (by omega), l1]
    rw [y1, gd_in (show m < 8 by omega) (by omega), cl_nI (by omega)]
    have y2 : ∀ v w, up2 (up2 τ 23 m v) 24 m w 0 31 = nI m := fun v w => by rw [up2_off (by omega), y1]
    rw [y2, gd_in (show m < 8 by omega) (by omega), cl_nI (by omega)]
    have y3 : ∀ v w x, up2 (up2 (up2 τ 23 m v) 24 m w) 25 m x 0 31 = nI m := fun v w x => by rw [up2_off (by omega), y2]
    rw [y3, nI_1, up2_at _ 0, upd_at]
    generalize hσ : up2 (up2 (up2 (up2 σ 25 m a1) 26 m a2) 27 m a3) 24 3 (nI (m + 1)) = σ'
    generalize hτ : up2 (up2 (up2 (up2 τ 23 m a1) 24 m a2) 25 m a3) 0 31 (nI (m + 1)) = τ'
    have w : ∀ c, (c < 24 ∨ 27 < c) → σ' c = σ c := fun c hc => by rw [← hσ, up2_off (by omega), up2_off (by omega), up2_off (by omega), up2_off (by omega)]
    have w25 : σ' 25 = upd (σ 25) m a1 := by rw [← hσ, up2_off (by omega), up2_off (by omega), up2_off (by omega), up2_at]
    have w26 : σ' 26 = upd (σ 26) m a2 := by rw [← hσ, up2_off (by omega), up2_off (by omega), up2_at, up2_off (by omega)]
    have w27 : σ' 27 = upd (σ 27) m a3 := by rw [← hσ, up2_off (by omega), up2_at, up2_off (by omega), up2_off (by omega)]
    have w24 : σ' 24 3 = nI (m + 1) := by rw [← hσ, up2_at, upd_at]
    have u : ∀ c, c ≠ 0 → (c < 23 ∨ 25 < c) → τ' c = τ c := fun c q hc => by rw [← hτ, up2_off (by omega), up2_off (by omega), up2_off (by omega), up2_off (by omega)]
    have u0 : ∀ k, k ≠ 31 → τ' 0 k = τ 0 k := fun k hk => by rw [← hτ, up2_at, upd_off hk, up2_off (by omega), up2_off (by omega), up2_off (by omega)]
    have u31 : τ' 0 31 = nI (m + 1) := by rw [← hτ, up2_at, upd_at]
    have u23 : τ' 23 = upd (τ 23) m a1 := by rw [← hτ, up2_off (by omega), up2_off (by omega), up2_off (by omega), up2_at]
    have u24 : τ' 24 = upd (τ 24) m a2 := by rw [← hτ, up2_off (by omega), up2_off (by omega), up2_at, up2_off (by omega)]
    have u25 : τ' 25 = upd (τ 25) m a3 := by rw [← hτ, up2_off (by omega), up2_at, up2_off (by omega), up2_off (by omega)]
    have hS : SE σ' (m + 1) := by
      refine ⟨by omega, w24, fun k hk => ?_⟩
      rw [w25, w26, w27]
      by_cases e : k = m
      · subst e
        rw [upd_at, upd_at, upd_at]
        exact ⟨below_of (N := 24) (by omega) h1, below_of (N := 8) (by omega) h2, two_of h3⟩
      · rw [upd_off e, upd_off e, upd_off e]
        exact hse k (by omega)
    have hH : SH σ' := h.sh.move fun c hc => w c (by omega)
    refine ⟨nI (m + 1), σ', τ', rfl, rfl, σ', p, q, n0, n1, n, m + 1, ek, ef, en, h.re (fun c g1 g2 g3 => w c (by omega)) (fun k _ => by rw [w 0 (by omega)]) hS hH, g.re2 (fun c g1 g2 => by rw [w c (by omega), h.core (by omega)]) hS hH (fun c hc => u c (by omega) (by omega)) (u0 11 (by omega)) u31 (fun k hk => ?_) (by rw [u0 41 (by omega), w 0 (by omega)]; exact l4) (fun s hs => ?_)⟩
    · rw [u23, u24, u25, w25, w26, w27]
      by_cases e : k = m
      · subst e
        rw [upd_at, upd_at, upd_at, upd_at, upd_at, upd_at]
        exact ⟨rfl, rfl, rfl⟩
      · rw [upd_off e, upd_off e, upd_off e, upd_off e, upd_off e, upd_off e]
        exact l2 k (by omega)
    · rw [u 27 (by omega) (by omega), u 28 (by omega) (by omega), u 29 (by omega) (by omega), u 30 (by omega) (by omega), w (46 + 2 * s) (by omega), w (47 + 2 * s) (by omega)]
      exact l3 s hs
theorem ag_forget {D : Sg} {p q n0 n1 n m : Nat} {ek ef : Nat → Int32} {en : Nat → Nat} {σ τ : Sg} (h : XI D p q n0 n1 n m ek ef en σ) (g : MI D p q n0 n1 n m ek ef en τ) : Agr (f_X9_forget σ) (f_X10_forget τ) := by
  unfold f_X9_forget f_X10_forget
  obtain ⟨m8, e3, hse⟩ := h.se
  obtain ⟨l1, l2⟩ := link_se h g
  have l3 := link_sh h g
  have l4 := link_fd h g
  simp only [amlet_eq]
  rw [e3, l1]
  have hS : SE (up2 σ 24 3 (0 : Int32)) 0 := ⟨by omega, by rw [up2_at, upd_at]; rfl, fun k hk => absurd hk (Nat.not_lt_zero _)⟩
  have hH : SH (up2 σ 24 3 (0 : Int32)) := h.sh.move fun c hc => up2_off (by omega)
  refine ⟨nI m, _, _, rfl, rfl, up2 σ 24 3 (0 : Int32), p, q, n0, n1, n, 0, ek, ef, en, h.re (fun c g1 g2 g3 => up2_off (by omega)) (fun k _ => by rw [up2_off (by omega)]) hS hH, g.re2 (fun c g1 g2 => by rw [up2_off (by omega), h.core (by omega)]) hS hH (fun c hc => up2_off (by omega)) (by rw [up2_at, upd_off (by omega)]) (by rw [up2_at, upd_at]; rfl) (fun k hk => absurd hk (Nat.not_lt_zero _)) (by rw [up2_at, upd_off (by omega), up2_off (by omega)]; exact l4) (fun s hs => ?_)⟩
  rw [up2_off (show (27 : Nat) ≠ 0 by omega), up2_off (show (28 : Nat) ≠ 0 by omega), up2_off (show (29 : Nat) ≠ 0 by omega), up2_off (show (30 : Nat) ≠ 0 by omega), up2_off (show 46 + 2 * s ≠ 24 by omega), up2_off (show 47 + 2 * s ≠ 24 by omega)]
  exact l3 s hs
