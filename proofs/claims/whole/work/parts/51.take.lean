def vG (f : Nat → Int32) (σ : Sg) (n : Nat) : Prop := ∀ j, j < n → (j % 5 = 0 → σ 6 (j / 5) = sortV (f j)) ∧ (j % 5 = 1 → σ 7 (j / 5) = f j - 48) ∧ (j % 5 = 2 → σ 8 (j / 5) = f j - 48) ∧ (j % 5 = 3 → σ 9 (j / 5) = f j - 48)
theorem vG.move {f : Nat → Int32} {σ σ' : Sg} {n : Nat} (h : vG f σ n) (e : ∀ c, 6 ≤ c → c ≤ 9 → σ' c = σ c) : vG f σ' n := fun j hj => by
  rw [e 6 (by omega) (by omega), e 7 (by omega) (by omega), e 8 (by omega) (by omega), e 9 (by omega) (by omega)]
  exact h j hj
/-! the class takes a text anew: the gone -/
theorem takeG_tail {σ σ1 : Sg} {f : Nat → Int32} {n0 : Nat} (hn : n0 ≤ 39) (h2 : σ1 1 2 = nI n0) (h5 : σ1 5 0 = nI 5) (hF : (σ1 5 2 = -1 ∧ ∀ j, j < n0 → gG f j) ∨ ∃ p, p < n0 ∧ (∀ j, j < p → gG f j) ∧ ¬ gG f p ∧ σ1 5 2 = nI p) {P : Unit → Sg → Prop}
    (hk : ∀ σ', (∀ c, c ≠ 5 → σ' c = σ1 c) → σ' 5 0 = σ1 5 0 → FL (gG f) 5 n0 (σ' 5 2) → ((σ' 5 2 = -1 ∧ σ' 5 1 = nI ((n0 + 1) / 5)) ∨ (¬ σ' 5 2 = -1 ∧ σ' 5 1 = 0)) → P () σ') : Ret (f_X3_takeG_b67 1 σ1) P := by
  unfold f_X3_takeG_b67 f_X3_takeG_b92 f_X3_takeG_b97 f_X3_takeG_b118 f_X3_takeG_b142
  have g5 : decide (nI 5 ≠ 0) = true := by decide
  have q1 : ((nI n0 - nI n0 / nI 5 * nI 5) = (nI 5 - (1 : Int32))) = (n0 % 5 = 5 - 1) := by
    rw [pk_rem (by omega) (by omega) (by omega), show nI 5 - (1 : Int32) = nI (5 - 1) from by decide, p_eq (by omega) (by omega)]
  simp only [amlet_eq, h2, h5, gd_true g5, q1]
  have z1 : ∀ v w, up2 (up2 σ1 5 2 v) 5 1 w 5 2 = v := fun v w => by rw [up2_at, upd_off (by omega), up2_at, upd_at]
  have z2 : ∀ v, up2 σ1 5 2 v 5 2 = v := fun v => by rw [up2_at, upd_at]
  have z3 : ∀ v, up2 σ1 5 2 v 5 0 = nI 5 := fun v => by rw [up2_at, upd_off (by omega), h5]
  have z4 : ∀ v, up2 σ1 5 2 v 1 2 = nI n0 := fun v => by rw [up2_off (by omega), h2]
  simp only [z2, z3, z4, gd_true g5]
  have hsz : (nI n0 + (1 : Int32)) / nI 5 = nI ((n0 + 1) / 5) := by rw [nI_1, pk_div (by omega) (by omega) (by omega)]
  rw [hsz]
  have fin : ∀ (v w : Int32), FL (gG f) 5 n0 v → ((v = -1 ∧ w = nI ((n0 + 1) / 5)) ∨ (¬ v = -1 ∧ w = 0)) → ∀ σ2 : Sg, (∀ c, c ≠ 5 → σ2 c = σ1 c) → σ2 5 0 = σ1 5 0 → σ2 5 2 = v → Ret (some ((), up2 σ2 5 1 w)) P := by
    intro v w a1 a2 σ2 b1 b2 b3
    refine ret_some.mpr (hk _ (fun c h => by rw [up2_off h, b1 c h]) (by rw [up2_at, upd_off (by omega), b2]) ?_ ?_)
    · rw [up2_at, upd_off (by omega), b3]; exact a1
    · rw [up2_at, upd_off (by omega), upd_at, b3]; exact a2
  have e0 : (nI n0 = 0) = (n0 = 0) := p_eq (b := 0) (by omega) (by omega)
  simp only [e0]
  rcases hF with ⟨hm, hg⟩ | ⟨p, hp, hg1, hg2, hm⟩
  · simp only [hm, if_pos trivial]
    by_cases h0 : n0 = 0
    · simp only [if_pos h0, if_neg (show ¬ (1 : Int32) = 0 by decide)]
      exact fin (-1) _ (Or.inr ⟨hg, Or.inl ⟨Or.inl h0, rfl⟩⟩) (Or.inl ⟨rfl, rfl⟩) σ1 (fun _ _ => rfl) rfl hm
    · simp only [if_neg h0]
      by_cases h4 : n0 % 5 = 5 - 1
      · simp only [if_pos h4, if_neg (show ¬ (1 : Int32) = 0 by decide)]
        exact fin (-1) _ (Or.inr ⟨hg, Or.inl ⟨Or.inr h4, rfl⟩⟩) (Or.inl ⟨rfl, rfl⟩) σ1 (fun _ _ => rfl) rfl hm
      · simp only [if_neg h4, if_neg (n_ne (show n0 < 2147483648 by omega))]
        exact fin (nI n0) 0 (Or.inr ⟨hg, Or.inr ⟨fun q => q.elim h0 h4, rfl⟩⟩) (Or.inr ⟨n_ne (by omega), rfl⟩) _ (fun c h => up2_off h) (by rw [up2_at, upd_off (by omega)]) (by rw [up2_at, upd_at])
  · simp only [hm, if_neg (n_ne (show p < 2147483648 by omega))]
    have f1 := fin (nI p) 0 (Or.inl ⟨p, hp, hg1, hg2, rfl⟩) (Or.inr ⟨n_ne (by omega), rfl⟩) σ1 (fun _ _ => rfl) rfl hm
    repeat' split
    all_goals exact f1
theorem takeG_ok {σ : Sg} {n0 : Nat} (hn : n0 ≤ 39) (h2 : σ 1 2 = nI n0) (h5 : σ 5 0 = nI 5) : Ret (f_X3_takeG 1 σ) (fun _ σ' =>
    (∀ c, (c < 5 ∨ 9 < c) → σ' c = σ c) ∧ σ' 5 0 = σ 5 0 ∧ FL (gG (σ 2)) 5 n0 (σ' 5 2) ∧ ((σ' 5 2 = -1 ∧ σ' 5 1 = nI ((n0 + 1) / 5)) ∨ (¬ σ' 5 2 = -1 ∧ σ' 5 1 = 0)) ∧ (σ' 5 2 = -1 → vG (σ 2) σ' n0)) := by
  unfold f_X3_takeG
  rw [amlet_eq]
  refine i_X3_takeG_l7 1 n0 (fun i σ2 x2 => x2 = nI i ∧ (∀ c, (c < 5 ∨ 9 < c) → σ2 c = σ c) ∧ σ2 5 0 = σ 5 0 ∧ ((σ2 5 2 = -1 ∧ (∀ j, j < i → gG (σ 2) j) ∧ vG (σ 2) σ2 i) ∨ ∃ p, p + 1 = i ∧ p < n0 ∧ (∀ j, j < p → gG (σ 2) j) ∧ ¬ gG (σ 2) p ∧ σ2 5 2 = nI p)) (fun σ2 x2 r => Ret r _) ?_ 300 0 (by omega) (by omega) _ 0 ⟨rfl, fun c h => up2_off (by omega), by rw [up2_at, upd_off (by omega)], Or.inl ⟨by rw [up2_at, upd_at], fun j h => absurd h (Nat.not_lt_zero _), fun j h => absurd h (Nat.not_lt_zero _)⟩⟩
  intro i k σ2 x2 hi hI ih
  obtain ⟨rfl, hs, h0, hF⟩ := hI
  have e2 : σ2 1 2 = nI n0 := by rw [hs 1 (by omega), h2]
  have e5 : σ2 5 0 = nI 5 := by rw [h0, h5]
  have tail : ((σ2 5 2 = -1 ∧ (∀ j, j < n0 → gG (σ 2) j) ∧ vG (σ 2) σ2 n0) ∨ ∃ p, p < n0 ∧ (∀ j, j < p → gG (σ 2) j) ∧ ¬ gG (σ 2) p ∧ σ2 5 2 = nI p) → Ret (f_X3_takeG_b67 1 σ2) (fun _ σ' =>
    (∀ c, (c < 5 ∨ 9 < c) → σ' c = σ c) ∧ σ' 5 0 = σ 5 0 ∧ FL (gG (σ 2)) 5 n0 (σ' 5 2) ∧ ((σ' 5 2 = -1 ∧ σ' 5 1 = nI ((n0 + 1) / 5)) ∨ (¬ σ' 5 2 = -1 ∧ σ' 5 1 = 0)) ∧ (σ' 5 2 = -1 → vG (σ 2) σ' n0)) := by
    intro hF2
    refine takeG_tail (σ := σ) hn e2 e5 (hF2.imp (fun q => ⟨q.1, q.2.1⟩) id) (fun σ' a1 a2 a3 a4 => ⟨fun c h => by rw [a1 c (by omega), hs c h], a2.trans h0, a3, a4, fun hm => ?_⟩)
    rcases hF2 with ⟨-, -, hv⟩ | ⟨p, hp, b1, b2, -⟩
    · exact hv.move (fun c h1 h2 => a1 c (by omega))
    · exfalso
      rcases a3 with ⟨p', c1, c2, c3, c4⟩ | ⟨c1, -⟩
      · rw [c4] at hm; exact n_ne (by omega) hm
      · exact b2 (c1 p hp)
  unfold f_X3_takeG_b7 f_X3_takeG_b56 f_X3_takeG_b61
  rw [e2]
  rcases Nat.lt_or_ge i n0 with hlt | hge
  · rw [at_go hlt (by omega)]
    rcases hF with ⟨hm, hg, hv⟩ | ⟨p, hp1, hp, b1, b2, hm⟩
    · rw [if_pos hm, e5]
      have g5 : decide (nI 5 ≠ 0) = true := by decide
      rw [pk_rem (show i < 2 ^ 31 by omega) (show 0 < 5 by omega) (show 5 < 2 ^ 31 by omega)]
      simp only [gd_true g5, amlet_eq, gd_in (show i < 39 by omega) (show 39 < 2 ^ 31 by omega), pk_div (show i < 2 ^ 31 by omega) (show 0 < 5 by omega) (show 5 < 2 ^ 31 by omega), cl_nI (show i < 2147483648 by omega), nI_1]
      rw [n_lit 8, at_go (by omega) (by omega), hs 2 (by omega)]
      refine ret_bnd (takesG_ok (by omega) (fun j hj => ⟨(hv j hj).2.1, (hv j hj).2.2.1⟩)) (fun v σ3 h3 => ?_)
      have hv' : vG (σ 2) σ3 (i + 1) := by
        obtain ⟨d1, -, d3, d4, d5, d6, d7, d8, d9, d10⟩ := h3
        intro j hj
        by_cases e : j = i
        · subst e; exact ⟨d3, d4, d5, d6⟩
        · obtain ⟨v1, v2, v3, v4⟩ := hv j (by omega)
          exact ⟨fun q => by rw [d7 _ (by omega)]; exact v1 q, fun q => by rw [d8 _ (by omega)]; exact v2 q, fun q => by rw [d9 _ (by omega)]; exact v3 q, fun q => by rw [d10 _ (by omega)]; exact v4 q⟩
      obtain ⟨c1, c2, -⟩ := h3
      have k1 : ∀ c, (c < 5 ∨ 9 < c) → σ3 c = σ c := fun c h => by rw [c1 c (by omega) (by omega) (by omega) (by omega), hs c h]
      have k2 : σ3 5 = σ2 5 := c1 5 (by omega) (by omega) (by omega) (by omega)
      rcases c2 with ⟨ev, hno⟩ | ⟨ev, hyes⟩
      · rw [if_pos ev]
        exact ih _ _ hlt ⟨rfl, fun c h => by rw [up2_off (by omega)]; exact k1 c h, by rw [up2_at, upd_off (by omega), k2, h0], Or.inr ⟨i, rfl, hlt, hg, hno, by rw [up2_at, upd_at]⟩⟩
      · rw [if_neg (by rw [ev]; decide)]
        exact ih _ _ hlt ⟨rfl, k1, by rw [k2, h0], Or.inl ⟨by rw [k2, hm], fun j hj => by
          by_cases e : j = i
          · subst e; exact hyes
          · exact hg j (by omega), hv'⟩⟩
    · rw [if_neg (by rw [hm]; exact n_ne (by omega))]
      exact tail (Or.inr ⟨p, hp, b1, b2, hm⟩)
  · have e : i = n0 := by omega
    subst e
    rw [at_end (Nat.le_refl _) (by omega)]
    exact tail (hF.imp id (fun ⟨p, _, q⟩ => ⟨p, q⟩))
/-- a byte of the needs -/
theorem takesN_ok {σ : Sg} {f : Nat → Int32} {p : Nat} (hp : p < 32) : Ret (f_X4_takesByte σ (nI (p / 4)) (nI (p % 4)) (f p)) (fun v σ' =>
    (∀ c, c ≠ 11 → c ≠ 12 → c ≠ 13 → σ' c = σ c) ∧ ((v = 0 ∧ ¬ gN f p) ∨ (v = 1 ∧ gN f p)) ∧
    (p % 4 = 0 → σ' 11 (p / 4) = f p - 48) ∧ (p % 4 = 1 → σ' 12 (p / 4) = f p - 97) ∧ (p % 4 = 2 → σ' 13 (p / 4) = f p - 48) ∧
    (∀ t, (t ≠ p / 4 ∨ p % 4 ≠ 0) → σ' 11 t = σ 11 t) ∧ (∀ t, (t ≠ p / 4 ∨ p % 4 ≠ 1) → σ' 12 t = σ 12 t) ∧ (∀ t, (t ≠ p / 4 ∨ p % 4 ≠ 2) → σ' 13 t = σ 13 t)) := by
  have ht : p / 4 < 8 := by omega
  unfold f_X4_takesByte
  simp only [amlet_eq, gd_in ht (show 8 < 2 ^ 31 by omega), cl_nI (show p / 4 < 2147483648 by omega)]
  have hr : p % 4 = 0 ∨ p % 4 = 1 ∨ p % 4 = 2 ∨ p % 4 = 3 := by omega
  rcases hr with h | h | h | h
  · rw [h, if_pos (show nI 0 = 0 from rfl), isBelow_eq, bnd_some, gd_bool]
    have hg : gN f p ↔ (0 ≤ f p - 48 ∧ f p - 48 < 8) := by unfold gN; rw [if_pos h]
    refine ret_some.mpr ⟨fun c h1 h2 h3 => up2_off h1, ?_, fun _ => by rw [up2_at, upd_at], fun q => by omega, fun q => by omega, fun t q => by rw [up2_at, upd_off (by omega)], fun t _ => by rw [up2_off (by omega)], fun t _ => by rw [up2_off (by omega)]⟩
    by_cases hb : 0 ≤ f p - 48 ∧ f p - 48 < 8
    · rw [if_pos hb]; exact Or.inr ⟨rfl, hg.mpr hb⟩
    · rw [if_neg hb]; exact Or.inl ⟨rfl, fun q => hb (hg.mp q)⟩
  · rw [h, if_neg (show ¬ nI 1 = 0 by decide), if_pos (show nI 1 = 1 from rfl), isBelow_eq, bnd_some, gd_bool]
    have hg : gN f p ↔ (0 ≤ f p - 97 ∧ f p - 97 < 24) := by unfold gN; rw [if_neg (by omega), if_pos h]
    refine ret_some.mpr ⟨fun c h1 h2 h3 => up2_off h2, ?_, fun q => by omega, fun _ => by rw [up2_at, upd_at], fun q => by omega, fun t _ => by rw [up2_off (by omega)], fun t q => by rw [up2_at, upd_off (by omega)], fun t _ => by rw [up2_off (by omega)]⟩
    by_cases hb : 0 ≤ f p - 97 ∧ f p - 97 < 24
    · rw [if_pos hb]; exact Or.inr ⟨rfl, hg.mpr hb⟩
    · rw [if_neg hb]; exact Or.inl ⟨rfl, fun q => hb (hg.mp q)⟩
  · rw [h, if_neg (show ¬ nI 2 = 0 by decide), if_neg (show ¬ nI 2 = 1 by decide), if_pos (show nI 2 = 2 from rfl)]
    have hg : gN f p ↔ (¬ f p < 49 ∧ ¬ 57 < f p) := by unfold gN; rw [if_neg (by omega), if_neg (by omega), if_pos h]
    have hw : ∀ v : Int32, ((v = 0 ∧ ¬ gN f p) ∨ (v = 1 ∧ gN f p)) → Ret (some (v, up2 σ 13 (p / 4) (f p - 48))) (fun v σ' => (∀ c, c ≠ 11 → c ≠ 12 → c ≠ 13 → σ' c = σ c) ∧ ((v = 0 ∧ ¬ gN f p) ∨ (v = 1 ∧ gN f p)) ∧
    (2 = 0 → σ' 11 (p / 4) = f p - 48) ∧ (2 = 1 → σ' 12 (p / 4) = f p - 97) ∧ (2 = 2 → σ' 13 (p / 4) = f p - 48) ∧
    (∀ t, (t ≠ p / 4 ∨ 2 ≠ 0) → σ' 11 t = σ 11 t) ∧ (∀ t, (t ≠ p / 4 ∨ 2 ≠ 1) → σ' 12 t = σ 12 t) ∧ (∀ t, (t ≠ p / 4 ∨ 2 ≠ 2) → σ' 13 t = σ 13 t)) := fun v hv2 => ret_some.mpr ⟨fun c h1 h2 h3 => up2_off h3, hv2, fun q => by omega, fun q => by omega, fun _ => by rw [up2_at, upd_at], fun t _ => by rw [up2_off (by omega)], fun t _ => by rw [up2_off (by omega)], fun t q => by rw [up2_at, upd_off (by omega)]⟩
    by_cases h1 : f p < 49
    · rw [if_pos h1]; exact hw 0 (Or.inl ⟨rfl, fun q => (hg.mp q).1 h1⟩)
    · rw [if_neg h1]
      by_cases h2 : 57 < f p
      · rw [if_pos h2]; exact hw 0 (Or.inl ⟨rfl, fun q => (hg.mp q).2 h2⟩)
      · rw [if_neg h2]; exact hw 1 (Or.inr ⟨rfl, hg.mpr ⟨h1, h2⟩⟩)
  · rw [h, if_neg (show ¬ nI 3 = 0 by decide), if_neg (show ¬ nI 3 = 1 by decide), if_neg (show ¬ nI 3 = 2 by decide)]
    have hg : gN f p ↔ f p = 59 := by unfold gN; rw [if_neg (by omega), if_neg (by omega), if_neg (by omega)]
    by_cases h1 : f p = 59
    · rw [if_pos h1]
      exact ret_some.mpr ⟨fun _ _ _ _ => rfl, Or.inr ⟨rfl, hg.mpr h1⟩, fun q => by omega, fun q => by omega, fun q => by omega, fun _ _ => rfl, fun _ _ => rfl, fun _ _ => rfl⟩
    · rw [if_neg h1]
      exact ret_some.mpr ⟨fun _ _ _ _ => rfl, Or.inl ⟨rfl, fun q => h1 (hg.mp q)⟩, fun q => by omega, fun q => by omega, fun q => by omega, fun _ _ => rfl, fun _ _ => rfl, fun _ _ => rfl⟩
def vN (f : Nat → Int32) (σ : Sg) (n : Nat) : Prop := ∀ j, j < n → (j % 4 = 0 → σ 11 (j / 4) = f j - 48) ∧ (j % 4 = 1 → σ 12 (j / 4) = f j - 97) ∧ (j % 4 = 2 → σ 13 (j / 4) = f j - 48)
theorem vN.move {f : Nat → Int32} {σ σ' : Sg} {n : Nat} (h : vN f σ n) (e : ∀ c, 11 ≤ c → c ≤ 13 → σ' c = σ c) : vN f σ' n := fun j hj => by
  rw [e 11 (by omega) (by omega), e 12 (by omega) (by omega), e 13 (by omega) (by omega)]
  exact h j hj
/-! the class takes a text anew: the needs -/
theorem takeN_tail {σ σ1 : Sg} {f : Nat → Int32} {n0 : Nat} (hn : n0 ≤ 31) (h2 : σ1 3 2 = nI n0) (h5 : σ1 10 0 = nI 4) (hF : (σ1 10 2 = -1 ∧ ∀ j, j < n0 → gN f j) ∨ ∃ p, p < n0 ∧ (∀ j, j < p → gN f j) ∧ ¬ gN f p ∧ σ1 10 2 = nI p) {P : Unit → Sg → Prop}
    (hk : ∀ σ', (∀ c, c ≠ 10 → σ' c = σ1 c) → σ' 10 0 = σ1 10 0 → FL (gN f) 4 n0 (σ' 10 2) → ((σ' 10 2 = -1 ∧ σ' 10 1 = nI ((n0 + 1) / 4)) ∨ (¬ σ' 10 2 = -1 ∧ σ' 10 1 = 0)) → P () σ') : Ret (f_X3_takeN_b67 3 σ1) P := by
  unfold f_X3_takeN_b67 f_X3_takeN_b92 f_X3_takeN_b97 f_X3_takeN_b118 f_X3_takeN_b142
  have g5 : decide (nI 4 ≠ 0) = true := by decide
  have q1 : ((nI n0 - nI n0 / nI 4 * nI 4) = (nI 4 - (1 : Int32))) = (n0 % 4 = 4 - 1) := by
    rw [pk_rem (by omega) (by omega) (by omega), show nI 4 - (1 : Int32) = nI (4 - 1) from by decide, p_eq (by omega) (by omega)]
  simp only [amlet_eq, h2, h5, gd_true g5, q1]
  have z1 : ∀ v w, up2 (up2 σ1 10 2 v) 10 1 w 10 2 = v := fun v w => by rw [up2_at, upd_off (by omega), up2_at, upd_at]
  have z2 : ∀ v, up2 σ1 10 2 v 10 2 = v := fun v => by rw [up2_at, upd_at]
  have z3 : ∀ v, up2 σ1 10 2 v 10 0 = nI 4 := fun v => by rw [up2_at, upd_off (by omega), h5]
  have z4 : ∀ v, up2 σ1 10 2 v 3 2 = nI n0 := fun v => by rw [up2_off (by omega), h2]
  simp only [z2, z3, z4, gd_true g5]
  have hsz : (nI n0 + (1 : Int32)) / nI 4 = nI ((n0 + 1) / 4) := by rw [nI_1, pk_div (by omega) (by omega) (by omega)]
  rw [hsz]
  have fin : ∀ (v w : Int32), FL (gN f) 4 n0 v → ((v = -1 ∧ w = nI ((n0 + 1) / 4)) ∨ (¬ v = -1 ∧ w = 0)) → ∀ σ2 : Sg, (∀ c, c ≠ 10 → σ2 c = σ1 c) → σ2 10 0 = σ1 10 0 → σ2 10 2 = v → Ret (some ((), up2 σ2 10 1 w)) P := by
    intro v w a1 a2 σ2 b1 b2 b3
    refine ret_some.mpr (hk _ (fun c h => by rw [up2_off h, b1 c h]) (by rw [up2_at, upd_off (by omega), b2]) ?_ ?_)
    · rw [up2_at, upd_off (by omega), b3]; exact a1
    · rw [up2_at, upd_off (by omega), upd_at, b3]; exact a2
  have e0 : (nI n0 = 0) = (n0 = 0) := p_eq (b := 0) (by omega) (by omega)
  simp only [e0]
  rcases hF with ⟨hm, hg⟩ | ⟨p, hp, hg1, hg2, hm⟩
  · simp only [hm, if_pos trivial]
    by_cases h0 : n0 = 0
    · simp only [if_pos h0, if_neg (show ¬ (1 : Int32) = 0 by decide)]
      exact fin (-1) _ (Or.inr ⟨hg, Or.inl ⟨Or.inl h0, rfl⟩⟩) (Or.inl ⟨rfl, rfl⟩) σ1 (fun _ _ => rfl) rfl hm
    · simp only [if_neg h0]
      by_cases h4 : n0 % 4 = 4 - 1
      · simp only [if_pos h4, if_neg (show ¬ (1 : Int32) = 0 by decide)]
        exact fin (-1) _ (Or.inr ⟨hg, Or.inl ⟨Or.inr h4, rfl⟩⟩) (Or.inl ⟨rfl, rfl⟩) σ1 (fun _ _ => rfl) rfl hm
      · simp only [if_neg h4, if_neg (n_ne (show n0 < 2147483648 by omega))]
        exact fin (nI n0) 0 (Or.inr ⟨hg, Or.inr ⟨fun q => q.elim h0 h4, rfl⟩⟩) (Or.inr ⟨n_ne (by omega), rfl⟩) _ (fun c h => up2_off h) (by rw [up2_at, upd_off (by omega)]) (by rw [up2_at, upd_at])
  · simp only [hm, if_neg (n_ne (show p < 2147483648 by omega))]
    have f1 := fin (nI p) 0 (Or.inl ⟨p, hp, hg1, hg2, rfl⟩) (Or.inr ⟨n_ne (by omega), rfl⟩) σ1 (fun _ _ => rfl) rfl hm
    repeat' split
    all_goals exact f1
theorem takeN_ok {σ : Sg} {n0 : Nat} (hn : n0 ≤ 31) (h2 : σ 3 2 = nI n0) (h5 : σ 10 0 = nI 4) : Ret (f_X3_takeN 3 σ) (fun _ σ' =>
    (∀ c, (c < 10 ∨ 13 < c) → σ' c = σ c) ∧ σ' 10 0 = σ 10 0 ∧ FL (gN (σ 4)) 4 n0 (σ' 10 2) ∧ ((σ' 10 2 = -1 ∧ σ' 10 1 = nI ((n0 + 1) / 4)) ∨ (¬ σ' 10 2 = -1 ∧ σ' 10 1 = 0)) ∧ (σ' 10 2 = -1 → vN (σ 4) σ' n0)) := by
  unfold f_X3_takeN
  rw [amlet_eq]
  refine i_X3_takeN_l7 3 n0 (fun i σ2 x2 => x2 = nI i ∧ (∀ c, (c < 10 ∨ 13 < c) → σ2 c = σ c) ∧ σ2 10 0 = σ 10 0 ∧ ((σ2 10 2 = -1 ∧ (∀ j, j < i → gN (σ 4) j) ∧ vN (σ 4) σ2 i) ∨ ∃ p, p + 1 = i ∧ p < n0 ∧ (∀ j, j < p → gN (σ 4) j) ∧ ¬ gN (σ 4) p ∧ σ2 10 2 = nI p)) (fun σ2 x2 r => Ret r _) ?_ 300 0 (by omega) (by omega) _ 0 ⟨rfl, fun c h => up2_off (by omega), by rw [up2_at, upd_off (by omega)], Or.inl ⟨by rw [up2_at, upd_at], fun j h => absurd h (Nat.not_lt_zero _), fun j h => absurd h (Nat.not_lt_zero _)⟩⟩
  intro i k σ2 x2 hi hI ih
  obtain ⟨rfl, hs, h0, hF⟩ := hI
  have e2 : σ2 3 2 = nI n0 := by rw [hs 3 (by omega), h2]
  have e5 : σ2 10 0 = nI 4 := by rw [h0, h5]
  have tail : ((σ2 10 2 = -1 ∧ (∀ j, j < n0 → gN (σ 4) j) ∧ vN (σ 4) σ2 n0) ∨ ∃ p, p < n0 ∧ (∀ j, j < p → gN (σ 4) j) ∧ ¬ gN (σ 4) p ∧ σ2 10 2 = nI p) → Ret (f_X3_takeN_b67 3 σ2) (fun _ σ' =>
    (∀ c, (c < 10 ∨ 13 < c) → σ' c = σ c) ∧ σ' 10 0 = σ 10 0 ∧ FL (gN (σ 4)) 4 n0 (σ' 10 2) ∧ ((σ' 10 2 = -1 ∧ σ' 10 1 = nI ((n0 + 1) / 4)) ∨ (¬ σ' 10 2 = -1 ∧ σ' 10 1 = 0)) ∧ (σ' 10 2 = -1 → vN (σ 4) σ' n0)) := by
    intro hF2
    refine takeN_tail (σ := σ) hn e2 e5 (hF2.imp (fun q => ⟨q.1, q.2.1⟩) id) (fun σ' a1 a2 a3 a4 => ⟨fun c h => by rw [a1 c (by omega), hs c h], a2.trans h0, a3, a4, fun hm => ?_⟩)
    rcases hF2 with ⟨-, -, hv⟩ | ⟨p, hp, b1, b2, -⟩
    · exact hv.move (fun c h1 h2 => a1 c (by omega))
    · exfalso
      rcases a3 with ⟨p', c1, c2, c3, c4⟩ | ⟨c1, -⟩
      · rw [c4] at hm; exact n_ne (by omega) hm
      · exact b2 (c1 p hp)
  unfold f_X3_takeN_b7 f_X3_takeN_b56 f_X3_takeN_b61
  rw [e2]
  rcases Nat.lt_or_ge i n0 with hlt | hge
  · rw [at_go hlt (by omega)]
    rcases hF with ⟨hm, hg, hv⟩ | ⟨p, hp1, hp, b1, b2, hm⟩
    · rw [if_pos hm, e5]
      have g5 : decide (nI 4 ≠ 0) = true := by decide
      rw [pk_rem (show i < 2 ^ 31 by omega) (show 0 < 4 by omega) (show 4 < 2 ^ 31 by omega)]
      simp only [gd_true g5, amlet_eq, gd_in (show i < 39 by omega) (show 39 < 2 ^ 31 by omega), pk_div (show i < 2 ^ 31 by omega) (show 0 < 4 by omega) (show 4 < 2 ^ 31 by omega), cl_nI (show i < 2147483648 by omega), nI_1]
      rw [n_lit 8, at_go (by omega) (by omega), hs 4 (by omega)]
      refine ret_bnd (takesN_ok (by omega)) (fun v σ3 h3 => ?_)
      have hv' : vN (σ 4) σ3 (i + 1) := by
        obtain ⟨d1, -, d3, d4, d5, d7, d8, d9⟩ := h3
        intro j hj
        by_cases e : j = i
        · subst e; exact ⟨d3, d4, d5⟩
        · obtain ⟨v1, v2, v3⟩ := hv j (by omega)
          exact ⟨fun q => by rw [d7 _ (by omega)]; exact v1 q, fun q => by rw [d8 _ (by omega)]; exact v2 q, fun q => by rw [d9 _ (by omega)]; exact v3 q⟩
      obtain ⟨c1, c2, -⟩ := h3
      have k1 : ∀ c, (c < 10 ∨ 13 < c) → σ3 c = σ c := fun c h => by rw [c1 c (by omega) (by omega) (by omega), hs c h]
      have k2 : σ3 10 = σ2 10 := c1 10 (by omega) (by omega) (by omega)
      rcases c2 with ⟨ev, hno⟩ | ⟨ev, hyes⟩
      · rw [if_pos ev]
        exact ih _ _ hlt ⟨rfl, fun c h => by rw [up2_off (by omega)]; exact k1 c h, by rw [up2_at, upd_off (by omega), k2, h0], Or.inr ⟨i, rfl, hlt, hg, hno, by rw [up2_at, upd_at]⟩⟩
      · rw [if_neg (by rw [ev]; decide)]
        exact ih _ _ hlt ⟨rfl, k1, by rw [k2, h0], Or.inl ⟨by rw [k2, hm], fun j hj => by
          by_cases e : j = i
          · subst e; exact hyes
          · exact hg j (by omega), hv'⟩⟩
    · rw [if_neg (by rw [hm]; exact n_ne (by omega))]
      exact tail (Or.inr ⟨p, hp, b1, b2, hm⟩)
  · have e : i = n0 := by omega
    subst e
    rw [at_end (Nat.le_refl _) (by omega)]
    exact tail (hF.imp id (fun ⟨p, _, q⟩ => ⟨p, q⟩))
