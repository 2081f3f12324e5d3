/-! type, wipe, undo -/
theorem MI.re {D : Sg} {p q n0 n1 n m : Nat} {ek ef : Nat → Int32} {en : Nat → Nat} {τ τ' D' : Sg} {p' q' n0' n1' : Nat} (h : MI D p q n0 n1 n m ek ef en τ) (hT : TX D' p' q' n0' n1') (hc : ∀ c, (24 ≤ c ∧ c ≤ 27) ∨ 45 ≤ c → D' c = D c) (h14 : D' 0 14 = D 0 14) (hTM : TM D' n0' n1' τ') (e : ∀ c, c ≠ 1 → c ≠ 2 → τ' c = τ c) : MI D' p' q' n0' n1' n m ek ef en τ' := by
  obtain ⟨h1, h2, h3, h4, h5, h6, h7, h8, h9, h10, h11⟩ := h
  refine ⟨hT, ⟨h2.1, by rw [hc 24 (by omega)]; exact h2.2.1, fun k hk => by rw [hc 25 (by omega), hc 26 (by omega), hc 27 (by omega)]; exact h2.2.2 k hk⟩, fun s hs => by rw [hc (46 + 2 * s) (by omega)]; exact h3 s hs, h4, hTM, ?_, fun k hk => ?_, ?_, fun k hk => ?_, ?_, fun s hs => ?_⟩
  · rw [e 0 (by omega) (by omega)]; exact h6
  · rw [e 10 (by omega) (by omega), e 11 (by omega) (by omega), e 12 (by omega) (by omega)]; exact h7 k hk
  · rw [e 0 (by omega) (by omega)]; exact h8
  · rw [e 23 (by omega) (by omega), e 24 (by omega) (by omega), e 25 (by omega) (by omega), hc 25 (by omega), hc 26 (by omega), hc 27 (by omega)]; exact h9 k hk
  · rw [e 0 (by omega) (by omega), h14]; exact h10
  · rw [e 27 (by omega) (by omega), e 28 (by omega) (by omega), e 29 (by omega) (by omega), e 30 (by omega) (by omega), hc (46 + 2 * s) (by omega), hc (47 + 2 * s) (by omega)]; exact h11 s hs
theorem two_of {a : Int32} (h : 0 ≤ a ∧ a < 2) : a = 0 ∨ a = 1 := by
  obtain ⟨k, hk, rfl⟩ := below_of (N := 2) (by omega) h
  rcases (show k = 0 ∨ k = 1 by omega) with e | e
  · subst e; exact Or.inl rfl
  · subst e; exact Or.inr rfl

/-- behind a change of text 0: both worlds -/
theorem changed0 {D : Sg} {p q n0 n1 n m : Nat} {ek ef : Nat → Int32} {en : Nat → Nat} {σ τ σ1 τ1 : Sg} {n' : Nat} {k : Unit → Sg → Option (Int32 × Sg)} {r : Int32} (h : XI D p q n0 n1 n m ek ef en σ) (g : MI D p q n0 n1 n m ek ef en τ) (hn : n' ≤ 39) (e1 : σ1 1 1 = nI 39) (e2 : σ1 1 2 = nI n') (e : ∀ c, c ≠ 1 → c ≠ 2 → σ1 c = σ c)
    (hk : ∀ u σ', σ' 1 = σ1 1 → k u σ' = some (r, σ')) (t1 : τ1 1 0 = nI n') (t2 : τ1 1 1 = τ 1 1) (t3 : ∀ j, j < n' → τ1 2 (j) = σ1 2 j) (t4 : ∀ j, j < n1 → τ1 2 (39 + j) = τ 2 (39 + j)) (t5 : ∀ c, c ≠ 1 → c ≠ 2 → τ1 c = τ c) :
    Agr (bnd (f_X9_takeTextAnew σ1 (0 : Int32)) k) (some (r, τ1)) := by
  obtain ⟨u, σ', eq, b1, b2, b3, b4, b5, P, hX⟩ := retext0 h hn e1 e2 e
  rw [eq, bnd_some, hk u σ' b1]
  refine ⟨r, σ', τ1, rfl, rfl, σ', P, q, n', n1, n, m, ek, ef, en, hX, g.re hX.1 b3 b5 ?_ t5⟩
  obtain ⟨q1, q2, q3, q4⟩ := g.2.2.2.2.1
  exact ⟨t1, by rw [t2]; exact q2, fun j hj => by rw [b2]; exact t3 j hj, fun j hj => by rw [t4 j hj, b4]; exact q4 j hj⟩
theorem ag_type0 {D : Sg} {p q n0 n1 n m : Nat} {ek ef : Nat → Int32} {en : Nat → Nat} {σ τ : Sg} (h : XI D p q n0 n1 n m ek ef en σ) (g : MI D p q n0 n1 n m ek ef en τ) (b : Int32) (hb : 0 ≤ b ∧ b < 256) : Agr (f_X9_type σ (0 : Int32) b) (f_X10_type τ (0 : Int32) b) := by
  have hT := h.1
  obtain ⟨t1, t2, t3, t4, t5, t6, -⟩ := hT
  have hTM := g.2.2.2.2.1
  obtain ⟨q1, q2, q3, q4⟩ := hTM
  have hc1 : σ 1 = D 1 := h.2.2.2.2.1 1 (by omega)
  have hc2 : σ 2 = D 2 := h.2.2.2.2.1 2 (by omega)
  unfold f_X9_type f_X10_type f_X9_textOf f_X10_type_b38
  simp only [isBelow_eq, isText_eq, in_eq, bnd_some, one_if]
  have hb2 : 0 ≤ b ∧ b ≤ (255 : Int32) := ⟨hb.1, by rw [show (255 : Int32) = nI 255 from rfl, up_to b 255 (by omega)]; exact hb.2⟩
  rw [if_pos (show 0 ≤ (0 : Int32) ∧ (0 : Int32) < 2 by decide), if_pos hb, if_pos (show 0 ≤ (0 : Int32) ∧ (0 : Int32) < 2 by decide), if_pos hb2]
  simp only [gd_true (show inB (0 : Int32) 2 = true by decide), show ((0 : Int32)).toNatClampNeg = 0 from by decide, if_true, bnd_some, gd_true (show isX8 1 = true by decide)]
  rw [hc1, t5, t3, q1]
  by_cases hlt : n0 < 39
  · rw [if_pos (by rw [p_lt (by omega) (by omega)]; exact hlt), if_neg (by rw [n_lit 39, p_eq (by omega) (by omega)]; omega)]
    unfold f_X8_add
    rw [hc1, t5, t3, if_neg (by rw [p_le (by omega) (by omega)]; omega), gd_in (by omega) (by omega), cl_nI (by omega)]
    simp only [amlet_eq, bnd_some]
    have ep : (39 : Int32) * (0 : Int32) + nI n0 = nI (n0) := by simp
    simp only [ep, gd_in (show n0 < 78 by omega) (show 78 < 2 ^ 31 by omega), cl_nI (show n0 < 2147483648 by omega)]
    rw [up2_off (σ := τ) (show (1 : Nat) ≠ 2 by omega), q1, up2_at (up2 τ 2 _ b), upd_at, up2_off (σ := σ) (show 1 ≠ 1 + 1 by omega), hc1, t5]
    simp only [nI_1]
    refine changed0 h g (n' := n0 + 1) (by omega) ?_ ?_ ?_ ?_ ?_ ?_ ?_ ?_ ?_
    · rw [up2_at, upd_off (by omega), up2_off (by omega), hc1, t3]
    · rw [up2_at, upd_at]
    · exact fun c hc hc' => by rw [up2_off hc, up2_off hc']
    · exact fun u σ' es => by rw [es, up2_at, upd_at]
    · rw [up2_at, upd_at]
    · rw [up2_at, upd_off (by omega), up2_off (by omega)]
    · intro j hj
      rw [up2_off (by omega), up2_at, up2_off (show 2 ≠ 1 by omega), up2_at, hc2]
      by_cases e : j = n0
      · subst e; rw [upd_at, upd_at]
      · rw [upd_off (by omega), upd_off e]; exact q3 j (by omega)
    · intro j hj
      rw [up2_off (by omega), up2_at, upd_off (by omega)]
    · exact fun c hc hc' => by rw [up2_off hc, up2_off hc']
  · have e : n0 = 39 := by omega
    rw [if_neg (by rw [p_lt (by omega) (by omega)]; exact hlt), if_pos (by rw [e]; rfl)]
    exact agr_of (xv_some h) (mu_some g)
theorem ag_wipe0 {D : Sg} {p q n0 n1 n m : Nat} {ek ef : Nat → Int32} {en : Nat → Nat} {σ τ : Sg} (h : XI D p q n0 n1 n m ek ef en σ) (g : MI D p q n0 n1 n m ek ef en τ) : Agr (f_X9_wipe σ (0 : Int32)) (f_X10_wipe τ (0 : Int32)) := by
  have hT := h.1
  obtain ⟨t1, t2, t3, t4, t5, t6, -⟩ := hT
  have hTM := g.2.2.2.2.1
  obtain ⟨q1, q2, q3, q4⟩ := hTM
  have hc1 : σ 1 = D 1 := h.2.2.2.2.1 1 (by omega)
  have hc2 : σ 2 = D 2 := h.2.2.2.2.1 2 (by omega)
  unfold f_X9_wipe f_X10_wipe f_X9_textOf
  simp only [isBelow_eq, isText_eq, bnd_some, one_if]
  rw [if_pos (show 0 ≤ (0 : Int32) ∧ (0 : Int32) < 2 by decide), if_pos (show 0 ≤ (0 : Int32) ∧ (0 : Int32) < 2 by decide)]
  simp only [gd_true (show inB (0 : Int32) 2 = true by decide), show ((0 : Int32)).toNatClampNeg = 0 from by decide, if_true, bnd_some, gd_true (show isX8 1 = true by decide), amlet_eq]
  rw [hc1, t5, q1]
  refine changed0 h g (n' := 0) (by omega) ?_ ?_ ?_ ?_ ?_ ?_ ?_ ?_ ?_
  · rw [up2_at, upd_off (by omega), hc1, t3]
  · rw [up2_at, upd_at]; rfl
  · exact fun c hc hc' => by rw [up2_off hc]
  · exact fun u σ' es => rfl
  · rw [up2_at, upd_at]; rfl
  · rw [up2_at, upd_off (by omega)]
  · exact fun j hj => absurd hj (Nat.not_lt_zero _)
  · exact fun j hj => by rw [up2_off (by omega)]
  · exact fun c hc hc' => by rw [up2_off hc]
theorem ag_undo0 {D : Sg} {p q n0 n1 n m : Nat} {ek ef : Nat → Int32} {en : Nat → Nat} {σ τ : Sg} (h : XI D p q n0 n1 n m ek ef en σ) (g : MI D p q n0 n1 n m ek ef en τ) : Agr (f_X9_undo σ (0 : Int32)) (f_X10_undo τ (0 : Int32)) := by
  have hT := h.1
  obtain ⟨t1, t2, t3, t4, t5, t6, -⟩ := hT
  have hTM := g.2.2.2.2.1
  obtain ⟨q1, q2, q3, q4⟩ := hTM
  have hc1 : σ 1 = D 1 := h.2.2.2.2.1 1 (by omega)
  have hc2 : σ 2 = D 2 := h.2.2.2.2.1 2 (by omega)
  unfold f_X9_undo f_X10_undo f_X9_textOf
  simp only [isBelow_eq, isText_eq, bnd_some, one_if]
  rw [if_pos (show 0 ≤ (0 : Int32) ∧ (0 : Int32) < 2 by decide), if_pos (show 0 ≤ (0 : Int32) ∧ (0 : Int32) < 2 by decide)]
  simp only [gd_true (show inB (0 : Int32) 2 = true by decide), show ((0 : Int32)).toNatClampNeg = 0 from by decide, if_true, bnd_some, gd_true (show isX8 1 = true by decide), amlet_eq]
  rw [hc1, t5, q1]
  by_cases h0 : n0 = 0
  · rw [if_pos (by rw [h0]; rfl), if_pos (by rw [h0]; rfl)]
    exact agr_of (xv_some h) (mu_some g)
  · have hne : ¬ nI n0 = 0 := fun e => h0 (by
      have e : nI n0 = nI 0 := e
      rwa [p_eq (by omega) (by omega)] at e)
    rw [if_neg hne, if_neg hne, up2_at, upd_at]
    have hpr : nI n0 - 1 = nI (n0 - 1) := by rw [show nI n0 = nI (n0 - 1 + 1) from by congr 1; omega, nI_pred]
    rw [hpr]
    refine changed0 h g (n' := n0 - 1) (by omega) ?_ ?_ ?_ ?_ ?_ ?_ ?_ ?_ ?_
    · rw [up2_at, upd_off (by omega), hc1, t3]
    · rw [up2_at, upd_at]
    · exact fun c hc hc' => by rw [up2_off hc]
    · exact fun u σ' es => by rw [es, up2_at, upd_at]
    · rw [up2_at, upd_at]
    · rw [up2_at, upd_off (by omega)]
    · exact fun j hj => by rw [up2_off (by omega), up2_off (by omega), hc2]; exact q3 j (by omega)
    · exact fun j hj => by rw [up2_off (by omega)]
    · exact fun c hc hc' => by rw [up2_off hc]

/-- behind a change of text 1: both worlds -/
theorem changed1 {D : Sg} {p q n0 n1 n m : Nat} {ek ef : Nat → Int32} {en : Nat → Nat} {σ τ σ1 τ1 : Sg} {n' : Nat} {k : Unit → Sg → Option (Int32 × Sg)} {r : Int32} (h : XI D p q n0 n1 n m ek ef en σ) (g : MI D p q n0 n1 n m ek ef en τ) (hn : n' ≤ 31) (e1 : σ1 3 1 = nI 31) (e2 : σ1 3 2 = nI n') (e : ∀ c, c ≠ 3 → c ≠ 4 → σ1 c = σ c)
    (hk : ∀ u σ', σ' 3 = σ1 3 → k u σ' = some (r, σ')) (t1 : τ1 1 1 = nI n') (t2 : τ1 1 0 = τ 1 0) (t3 : ∀ j, j < n' → τ1 2 (39 + j) = σ1 4 j) (t4 : ∀ j, j < n0 → τ1 2 (j) = τ 2 (j)) (t5 : ∀ c, c ≠ 1 → c ≠ 2 → τ1 c = τ c) :
    Agr (bnd (f_X9_takeTextAnew σ1 (1 : Int32)) k) (some (r, τ1)) := by
  obtain ⟨u, σ', eq, b1, b2, b3, b4, b5, P, hX⟩ := retext1 h hn e1 e2 e
  rw [eq, bnd_some, hk u σ' b1]
  refine ⟨r, σ', τ1, rfl, rfl, σ', p, P, n0, n', n, m, ek, ef, en, hX, g.re hX.1 b3 b5 ?_ t5⟩
  obtain ⟨q1, q2, q3, q4⟩ := g.2.2.2.2.1
  exact ⟨by rw [t2]; exact q1, t1, fun j hj => by rw [t4 j hj, b4]; exact q3 j hj, fun j hj => by rw [b2]; exact t3 j hj⟩
theorem ag_type1 {D : Sg} {p q n0 n1 n m : Nat} {ek ef : Nat → Int32} {en : Nat → Nat} {σ τ : Sg} (h : XI D p q n0 n1 n m ek ef en σ) (g : MI D p q n0 n1 n m ek ef en τ) (b : Int32) (hb : 0 ≤ b ∧ b < 256) : Agr (f_X9_type σ (1 : Int32) b) (f_X10_type τ (1 : Int32) b) := by
  have hT := h.1
  obtain ⟨t1, t2, t3, t4, t5, t6, -⟩ := hT
  have hTM := g.2.2.2.2.1
  obtain ⟨q1, q2, q3, q4⟩ := hTM
  have hc1 : σ 3 = D 3 := h.2.2.2.2.1 3 (by omega)
  have hc2 : σ 4 = D 4 := h.2.2.2.2.1 4 (by omega)
  unfold f_X9_type f_X10_type f_X9_textOf f_X10_type_b38
  simp only [isBelow_eq, isText_eq, in_eq, bnd_some, one_if]
  have hb2 : 0 ≤ b ∧ b ≤ (255 : Int32) := ⟨hb.1, by rw [show (255 : Int32) = nI 255 from rfl, up_to b 255 (by omega)]; exact hb.2⟩
  rw [if_pos (show 0 ≤ (1 : Int32) ∧ (1 : Int32) < 2 by decide), if_pos hb, if_pos (show 0 ≤ (1 : Int32) ∧ (1 : Int32) < 2 by decide), if_pos hb2]
  simp only [gd_true (show inB (1 : Int32) 2 = true by decide), show ((1 : Int32)).toNatClampNeg = 1 from by decide, if_neg (show ¬ (1 : Int32) = 0 by decide), bnd_some, gd_true (show isX8 3 = true by decide)]
  rw [hc1, t6, t4, q2]
  by_cases hlt : n1 < 31
  · rw [if_pos (by rw [p_lt (by omega) (by omega)]; exact hlt), if_neg (by rw [n_lit 31, p_eq (by omega) (by omega)]; omega)]
    unfold f_X8_add
    rw [hc1, t6, t4, if_neg (by rw [p_le (by omega) (by omega)]; omega), gd_in (by omega) (by omega), cl_nI (by omega)]
    simp only [amlet_eq, bnd_some]
    have ep : (39 : Int32) * (1 : Int32) + nI n1 = nI (39 + n1) := by rw [show (39 : Int32) * (1 : Int32) = nI 39 from by decide, nI_add]
    simp only [ep, gd_in (show 39 + n1 < 78 by omega) (show 78 < 2 ^ 31 by omega), cl_nI (show 39 + n1 < 2147483648 by omega)]
    rw [up2_off (σ := τ) (show (1 : Nat) ≠ 2 by omega), q2, up2_at (up2 τ 2 _ b), upd_at, up2_off (σ := σ) (show 3 ≠ 3 + 1 by omega), hc1, t6]
    simp only [nI_1]
    refine changed1 h g (n' := n1 + 1) (by omega) ?_ ?_ ?_ ?_ ?_ ?_ ?_ ?_ ?_
    · rw [up2_at, upd_off (by omega), up2_off (by omega), hc1, t4]
    · rw [up2_at, upd_at]
    · exact fun c hc hc' => by rw [up2_off hc, up2_off hc']
    · exact fun u σ' es => by rw [es, up2_at, upd_at]
    · rw [up2_at, upd_at]
    · rw [up2_at, upd_off (by omega), up2_off (by omega)]
    · intro j hj
      rw [up2_off (by omega), up2_at, up2_off (show 4 ≠ 3 by omega), up2_at, hc2]
      by_cases e : j = n1
      · subst e; rw [upd_at, upd_at]
      · rw [upd_off (by omega), upd_off e]; exact q4 j (by omega)
    · intro j hj
      rw [up2_off (by omega), up2_at, upd_off (by omega)]
    · exact fun c hc hc' => by rw [up2_off hc, up2_off hc']
  · have e : n1 = 31 := by omega
    rw [if_neg (by rw [p_lt (by omega) (by omega)]; exact hlt), if_pos (by rw [e]; rfl)]
    exact agr_of (xv_some h) (mu_some g)
theorem ag_wipe1 {D : Sg} {p q n0 n1 n m : Nat} {ek ef : Nat → Int32} {en : Nat → Nat} {σ τ : Sg} (h : XI D p q n0 n1 n m ek ef en σ) (g : MI D p q n0 n1 n m ek ef en τ) : Agr (f_X9_wipe σ (1 : Int32)) (f_X10_wipe τ (1 : Int32)) := by
  have hT := h.1
  obtain ⟨t1, t2, t3, t4, t5, t6, -⟩ := hT
  have hTM := g.2.2.2.2.1
  obtain ⟨q1, q2, q3, q4⟩ := hTM
  have hc1 : σ 3 = D 3 := h.2.2.2.2.1 3 (by omega)
  have hc2 : σ 4 = D 4 := h.2.2.2.2.1 4 (by omega)
  unfold f_X9_wipe f_X10_wipe f_X9_textOf
  simp only [isBelow_eq, isText_eq, bnd_some, one_if]
  rw [if_pos (show 0 ≤ (1 : Int32) ∧ (1 : Int32) < 2 by decide), if_pos (show 0 ≤ (1 : Int32) ∧ (1 : Int32) < 2 by decide)]
  simp only [gd_true (show inB (1 : Int32) 2 = true by decide), show ((1 : Int32)).toNatClampNeg = 1 from by decide, if_neg (show ¬ (1 : Int32) = 0 by decide), bnd_some, gd_true (show isX8 3 = true by decide), amlet_eq]
  rw [hc1, t6, q2]
  refine changed1 h g (n' := 0) (by omega) ?_ ?_ ?_ ?_ ?_ ?_ ?_ ?_ ?_
  · rw [up2_at, upd_off (by omega), hc1, t4]
  · rw [up2_at, upd_at]; rfl
  · exact fun c hc hc' => by rw [up2_off hc]
  · exact fun u σ' es => rfl
  · rw [up2_at, upd_at]; rfl
  · rw [up2_at, upd_off (by omega)]
  · exact fun j hj => absurd hj (Nat.not_lt_zero _)
  · exact fun j hj => by rw [up2_off (by omega)]
  · exact fun c hc hc' => by rw [up2_off hc]
theorem ag_undo1 {D : Sg} {p q n0 n1 n m : Nat} {ek ef : Nat → Int32} {en : Nat → Nat} {σ τ : Sg} (h : XI D p q n0 n1 n m ek ef en σ) (g : MI D p q n0 n1 n m ek ef en τ) : Agr (f_X9_undo σ (1 : Int32)) (f_X10_undo τ (1 : Int32)) := by
  have hT := h.1
  obtain ⟨t1, t2, t3, t4, t5, t6, -⟩ := hT
  have hTM := g.2.2.2.2.1
  obtain ⟨q1, q2, q3, q4⟩ := hTM
  have hc1 : σ 3 = D 3 := h.2.2.2.2.1 3 (by omega)
  have hc2 : σ 4 = D 4 := h.2.2.2.2.1 4 (by omega)
  unfold f_X9_undo f_X10_undo f_X9_textOf
  simp only [isBelow_eq, isText_eq, bnd_some, one_if]
  rw [if_pos (show 0 ≤ (1 : Int32) ∧ (1 : Int32) < 2 by decide), if_pos (show 0 ≤ (1 : Int32) ∧ (1 : Int32) < 2 by decide)]
  simp only [gd_true (show inB (1 : Int32) 2 = true by decide), show ((1 : Int32)).toNatClampNeg = 1 from by decide, if_neg (show ¬ (1 : Int32) = 0 by decide), bnd_some, gd_true (show isX8 3 = true by decide), amlet_eq]
  rw [hc1, t6, q2]
  by_cases h0 : n1 = 0
  · rw [if_pos (by rw [h0]; rfl), if_pos (by rw [h0]; rfl)]
    exact agr_of (xv_some h) (mu_some g)
  · have hne : ¬ nI n1 = 0 := fun e => h0 (by
      have e : nI n1 = nI 0 := e
      rwa [p_eq (by omega) (by omega)] at e)
    rw [if_neg hne, if_neg hne, up2_at, upd_at]
    have hpr : nI n1 - 1 = nI (n1 - 1) := by rw [show nI n1 = nI (n1 - 1 + 1) from by congr 1; omega, nI_pred]
    rw [hpr]
    refine changed1 h g (n' := n1 - 1) (by omega) ?_ ?_ ?_ ?_ ?_ ?_ ?_ ?_ ?_
    · rw [up2_at, upd_off (by omega), hc1, t4]
    · rw [up2_at, upd_at]
    · exact fun c hc hc' => by rw [up2_off hc]
    · exact fun u σ' es => by rw [es, up2_at, upd_at]
    · rw [up2_at, upd_at]
    · rw [up2_at, upd_off (by omega)]
    · exact fun j hj => by rw [up2_off (by omega), up2_off (by omega), hc2]; exact q4 j (by omega)
    · exact fun j hj => by rw [up2_off (by omega)]
    · exact fun c hc hc' => by rw [up2_off hc]

theorem ag_type {D : Sg} {p q n0 n1 n m : Nat} {ek ef : Nat → Int32} {en : Nat → Nat} {σ τ : Sg} (h : XI D p q n0 n1 n m ek ef en σ) (g : MI D p q n0 n1 n m ek ef en τ) (a b : Int32) : Agr (f_X9_type σ a b) (f_X10_type τ a b) := by
  by_cases h1 : 0 ≤ a ∧ a < 2
  · by_cases h2 : 0 ≤ b ∧ b < 256
    · rcases two_of h1 with e | e
      · rw [e]; exact ag_type0 h g b h2
      · rw [e]; exact ag_type1 h g b h2
    · unfold f_X9_type f_X10_type
      simp only [isBelow_eq, isText_eq, in_eq, bnd_some, one_if]
      rw [if_pos h1, if_neg h2, if_pos h1, if_neg (by rw [show (255 : Int32) = nI 255 from rfl, up_to b 255 (by omega)]; exact h2)]
      exact agr_of (xv_some h) (mu_some g)
  · unfold f_X9_type f_X10_type
    simp only [isBelow_eq, isText_eq, in_eq, bnd_some, one_if]
    rw [if_neg h1, if_neg h1]
    exact agr_of (xv_some h) (mu_some g)
theorem ag_wipe {D : Sg} {p q n0 n1 n m : Nat} {ek ef : Nat → Int32} {en : Nat → Nat} {σ τ : Sg} (h : XI D p q n0 n1 n m ek ef en σ) (g : MI D p q n0 n1 n m ek ef en τ) (a : Int32) : Agr (f_X9_wipe σ a) (f_X10_wipe τ a) := by
  by_cases h1 : 0 ≤ a ∧ a < 2
  · rcases two_of h1 with e | e
    · rw [e]; exact ag_wipe0 h g
    · rw [e]; exact ag_wipe1 h g
  · unfold f_X9_wipe f_X10_wipe
    simp only [isBelow_eq, isText_eq, bnd_some, one_if]
    rw [if_neg h1, if_neg h1]
    exact agr_of (xv_some h) (mu_some g)
theorem ag_undo {D : Sg} {p q n0 n1 n m : Nat} {ek ef : Nat → Int32} {en : Nat → Nat} {σ τ : Sg} (h : XI D p q n0 n1 n m ek ef en σ) (g : MI D p q n0 n1 n m ek ef en τ) (a : Int32) : Agr (f_X9_undo σ a) (f_X10_undo τ a) := by
  by_cases h1 : 0 ≤ a ∧ a < 2
  · rcases two_of h1 with e | e
    · rw [e]; exact ag_undo0 h g
    · rw [e]; exact ag_undo1 h g
  · unfold f_X9_undo f_X10_undo
    simp only [isBelow_eq, isText_eq, bnd_some, one_if]
    rw [if_neg h1, if_neg h1]
    exact agr_of (xv_some h) (mu_some g)
