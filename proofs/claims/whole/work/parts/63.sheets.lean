/-! sheets -/
theorem inv_sheets {D : Sg} {p q n0 n1 n m : Nat} {ek ef : Nat → Int32} {en : Nat → Nat} {σ τ σ' τ' : Sg} (h : XI D p q n0 n1 n m ek ef en σ) (g : MI D p q n0 n1 n m ek ef en τ) (e : ∀ c, 1 ≤ c → c ≤ 44 → σ' c = σ c) (e0 : ∀ k, k = 12 ∨ k = 13 → σ' 0 k = σ 0 k) (hH : SH σ') (u : ∀ c, (c = 1 ∨ c = 2 ∨ c = 10 ∨ c = 11 ∨ c = 12 ∨ c = 23 ∨ c = 24 ∨ c = 25) → τ' c = τ c) (u0 : ∀ k, k = 11 ∨ k = 31 → τ' 0 k = τ 0 k) (hf : τ' 0 41 = σ' 0 14)
    (hl : ∀ s, s < 4 → (σ' (46 + 2 * s) 1 = -1 ∧ τ' 27 s = 0) ∨ (¬ σ' (46 + 2 * s) 1 = -1 ∧ τ' 27 s = 1 ∧ τ' 28 s = σ' (46 + 2 * s) 1 ∧ τ' 29 s = σ' (46 + 2 * s) 2 ∧ ∀ i, i < 60 → τ' 30 (60 * s + i) = σ' (47 + 2 * s) i)) : Inv σ' τ' := by
  obtain ⟨l1, l2⟩ := link_se h g
  have hS : SE σ' m := h.se.move fun c g1 g2 => e c (by omega) (by omega)
  refine ⟨σ', p, q, n0, n1, n, m, ek, ef, en, h.re (fun c g1 g2 g3 => e c g1 g2) e0 hS hH, g.re2 (fun c g1 g2 => by rw [e c g1 (by omega), h.core (by omega)]) hS hH (fun c hc => u c (by omega)) (u0 11 (by omega)) (by rw [u0 31 (by omega)]; exact l1) (fun k hk => ?_) hf hl⟩
  rw [u 23 (by omega), u 24 (by omega), u 25 (by omega), e 25 (by omega) (by omega), e 26 (by omega) (by omega), e 27 (by omega) (by omega)]
  exact l2 k hk
theorem inv_find {D : Sg} {p q n0 n1 n m : Nat} {ek ef : Nat → Int32} {en : Nat → Nat} {σ τ : Sg} (h : XI D p q n0 n1 n m ek ef en σ) (g : MI D p q n0 n1 n m ek ef en τ) (v : Int32) : Inv (up2 σ 0 14 v) (up2 τ 0 41 v) := by
  refine inv_sheets h g (fun c g1 g2 => up2_off (by omega)) (fun k hk => by rw [up2_at, upd_off (by omega)]) (h.sh.move fun c hc => up2_off (by omega)) (fun c hc => up2_off (by omega)) (fun k hk => by rw [up2_at, upd_off (by omega)]) (by rw [up2_at, upd_at, up2_at, upd_at]) (fun s hs => ?_)
  rw [up2_off (show 46 + 2 * s ≠ 0 by omega), up2_off (show 47 + 2 * s ≠ 0 by omega), up2_off (show (27 : Nat) ≠ 0 by omega), up2_off (show (28 : Nat) ≠ 0 by omega), up2_off (show (29 : Nat) ≠ 0 by omega), up2_off (show (30 : Nat) ≠ 0 by omega)]
  exact link_sh h g s hs
theorem find_eq (σ : Sg) (v : Int32) : f_X9_find σ v = some (-10 - v, up2 σ 0 14 v) := rfl
theorem meets_eq (τ : Sg) (v : Int32) : f_X10_meets τ v = some (-10 - v, up2 τ 0 41 v) := rfl
theorem ag_find {D : Sg} {p q n0 n1 n m : Nat} {ek ef : Nat → Int32} {en : Nat → Nat} {σ τ : Sg} (h : XI D p q n0 n1 n m ek ef en σ) (g : MI D p q n0 n1 n m ek ef en τ) (v : Int32) {α : Type} (r : α) : Agr (some (r, up2 σ 0 14 v)) (some (r, up2 τ 0 41 v)) := ⟨r, _, _, rfl, rfl, inv_find h g v⟩
theorem isX6_s : ∀ s, s < 4 → isX6 (46 + 2 * s) = true := by decide
theorem three_of {a : Int32} : (0 ≤ a ∧ a ≤ (2 : Int32)) ↔ (0 ≤ a ∧ a < 3) := by
  rw [show (2 : Int32) = nI 2 from rfl, up_to a 2 (by omega)]
  exact Iff.rfl
theorem makeNew_ok (σ : Sg) (c0 : Nat) (f z : Int32) : Ret (f_X6_makeNew c0 σ f z) (fun _ σ' => (∀ c, c ≠ c0 → c ≠ c0 + 1 → σ' c = σ c) ∧ σ' c0 1 = f ∧ σ' c0 2 = z ∧ ∀ i, i < 60 → σ' (c0 + 1) i = 0) := by
  unfold f_X6_makeNew
  rw [amlet_eq, amlet_eq]
  refine i_X6_makeNew_l12 c0 60 (fun i σ2 x3 => x3 = nI i ∧ (∀ c, c ≠ c0 → c ≠ c0 + 1 → σ2 c = σ c) ∧ σ2 c0 1 = f ∧ σ2 c0 2 = z ∧ ∀ j, j < i → σ2 (c0 + 1) j = 0) (fun σ2 x3 r => Ret r _) ?_ 300 0 (by omega) (by omega) _ 0 ⟨rfl, fun c g1 g2 => by rw [up2_off g1, up2_off g1], by rw [up2_at, upd_off (by omega), up2_at, upd_at], by rw [up2_at, upd_at], fun j hj => absurd hj (Nat.not_lt_zero _)⟩
  intro i k σ2 x3 hi hI ih
  obtain ⟨rfl, b1, b2, b3, b4⟩ := hI
  unfold f_X6_makeNew_b12
  rw [n_lit 60]
  rcases Nat.lt_or_ge i 60 with hlt | hge
  · rw [at_go hlt (by omega), gd_in hlt (by omega), cl_nI (by omega)]
    simp only [amlet_eq, nI_1]
    refine ih _ _ hlt ⟨rfl, fun c g1 g2 => by rw [up2_off g2]; exact b1 c g1 g2, by rw [up2_off (by omega)]; exact b2, by rw [up2_off (by omega)]; exact b3, fun j hj => ?_⟩
    rw [up2_at]
    by_cases e : j = i
    · subst e; rw [upd_at]
    · rw [upd_off e]; exact b4 j (by omega)
  · have e : i = 60 := by omega
    subst e
    rw [at_end (Nat.le_refl _) (by omega)]
    exact ret_some.mpr ⟨b1, b2, b3, b4⟩
theorem zeroed_ok {s z : Nat} (hs : s < 4) : ∀ τ1 : Sg, Ret (f_X10_sheet_l59 300 τ1 (nI s) (nI z) (0 : Int32)) (fun r τ' => r = nI z ∧ (∀ c, c ≠ 30 → τ' c = τ1 c) ∧ (∀ i, i < 60 → τ' 30 (60 * s + i) = 0) ∧ ∀ j, (j < 60 * s ∨ 60 * s + 60 ≤ j) → τ' 30 j = τ1 30 j) := by
  intro τ1
  refine i_X10_sheet_l59 60 (fun i σ2 x1 x3 x4 => x1 = nI s ∧ x3 = nI z ∧ x4 = nI i ∧ (∀ c, c ≠ 30 → σ2 c = τ1 c) ∧ (∀ j, j < i → σ2 30 (60 * s + j) = 0) ∧ ∀ j, (j < 60 * s ∨ 60 * s + 60 ≤ j) → σ2 30 j = τ1 30 j) (fun σ2 x1 x3 x4 r => Ret r _) ?_ 300 0 (by omega) (by omega) τ1 (nI s) (nI z) 0 ⟨rfl, rfl, rfl, fun _ _ => rfl, fun j hj => absurd hj (Nat.not_lt_zero _), fun _ _ => rfl⟩
  intro i k σ2 x1 x3 x4 hi hI ih
  obtain ⟨rfl, rfl, rfl, b1, b2, b3⟩ := hI
  unfold f_X10_sheet_b59
  rw [n_lit 60]
  rcases Nat.lt_or_ge i 60 with hlt | hge
  · rw [at_go hlt (by omega), pk_mul, nI_add, gd_in (show 60 * s + i < 240 by omega) (by omega), cl_nI (by omega)]
    simp only [amlet_eq, nI_1]
    refine ih _ _ _ _ hlt ⟨rfl, rfl, rfl, fun c hc => by rw [up2_off hc]; exact b1 c hc, fun j hj => ?_, fun j hj => ?_⟩
    · rw [up2_at]
      by_cases e : j = i
      · subst e; rw [upd_at]
      · rw [upd_off (by omega)]; exact b2 j (by omega)
    · rw [up2_at, upd_off (by omega)]; exact b3 j hj
  · have e : i = 60 := by omega
    subst e
    rw [at_end (Nat.le_refl _) (by omega)]
    exact ret_some.mpr ⟨rfl, b1, b2, b3⟩
theorem ag_sheet {D : Sg} {p q n0 n1 n m : Nat} {ek ef : Nat → Int32} {en : Nat → Nat} {σ τ : Sg} (h : XI D p q n0 n1 n m ek ef en σ) (g : MI D p q n0 n1 n m ek ef en τ) (a1 a2 a3 : Int32) : Agr (f_X9_sheet σ a1 a2 a3) (f_X10_sheet τ a1 a2 a3) := by
  unfold f_X9_sheet f_X10_sheet
  simp only [isBelow_eq, isSheet_eq, in_eq, bnd_some, one_if, three_of]
  by_cases h1 : 0 ≤ a1 ∧ a1 < 4
  rotate_left
  · rw [if_neg h1, if_neg h1]; exact agr_of (xv_some h) (mu_some g)
  rw [if_pos h1, if_pos h1]
  by_cases h2 : 0 ≤ a2 ∧ a2 < 3
  rotate_left
  · rw [if_neg h2, if_neg h2]; exact agr_of (xv_some h) (mu_some g)
  rw [if_pos h2, if_pos h2]
  by_cases h3 : a3 ≤ (60 : Int32)
  rotate_left
  · rw [if_neg h3, if_neg h3]; exact agr_of (xv_some h) (mu_some g)
  rw [if_pos h3, if_pos h3]
  by_cases h4 : 0 ≤ a3
  rotate_left
  · rw [if_neg h4, if_neg h4, find_eq, meets_eq, bnd_some, bnd_some]; exact ag_find h g 5 _
  rw [if_pos h4, if_pos h4]
  obtain ⟨s, hs, rfl⟩ := below_of (N := 4) (by omega) h1
  obtain ⟨f, hf, rfl⟩ := below_of (N := 3) (by omega) h2
  obtain ⟨z, hz, rfl⟩ := below_nat (n := 61) (by omega) h4 (by rw [← up_to a3 60 (by omega)]; exact h3)
  rw [gd_in hs (by omega), cl_nI (by omega)]
  simp only [amlet_eq]
  rw [gd_true (isX6_s s hs)]
  obtain ⟨u, σ', e1, b1, b2, b3, b4⟩ := makeNew_ok σ (46 + 2 * s) (nI f) (nI z)
  have es : 46 + 2 * s + 1 = 47 + 2 * s := by omega
  rw [es] at b1 b4
  rw [e1, bnd_some, gd_in hs (by omega), gd_in hs (by omega), gd_in hs (by omega)]
  obtain ⟨r, τ', e2, er, c1, c2, c3⟩ := zeroed_ok (z := z) hs (up2 (up2 (up2 τ 27 s (1 : Int32)) 28 s (nI f)) 29 s (nI z))
  rw [e2, er]
  have w : ∀ c, c ≠ 27 → c ≠ 28 → c ≠ 29 → c ≠ 30 → τ' c = τ c := fun c q1 q2 q3 q4 => by rw [c1 c q4, up2_off q3, up2_off q2, up2_off q1]
  refine ⟨nI z, σ', τ', rfl, rfl, inv_sheets h g (fun c q1 q2 => b1 c (by omega) (by omega)) (fun k hk => by rw [b1 0 (by omega) (by omega)]) (fun s' hs' => ?_) (fun c hc => w c (by omega) (by omega) (by omega) (by omega)) (fun k hk => by rw [w 0 (by omega) (by omega) (by omega) (by omega)]) (by rw [w 0 (by omega) (by omega) (by omega) (by omega), b1 0 (by omega) (by omega)]; exact link_fd h g) (fun s' hs' => ?_)⟩
  · by_cases e : s' = s
    · subst e
      rw [b2, b3]
      exact ⟨Or.inr ⟨f, hf, rfl⟩, z, by omega, rfl⟩
    · rw [b1 (46 + 2 * s') (by omega) (by omega)]
      exact h.sh s' hs'
  · rw [c1 27 (by omega), c1 28 (by omega), c1 29 (by omega), up2_off (show (27 : Nat) ≠ 29 by omega), up2_off (show (27 : Nat) ≠ 28 by omega), up2_at, up2_off (show (28 : Nat) ≠ 29 by omega), up2_at, up2_off (show (28 : Nat) ≠ 27 by omega), up2_at, up2_off (show (29 : Nat) ≠ 28 by omega), up2_off (show (29 : Nat) ≠ 27 by omega)]
    by_cases e : s' = s
    · subst e
      rw [upd_at, upd_at, upd_at, b2, b3]
      exact Or.inr ⟨n_ne (by omega), rfl, rfl, rfl, fun i hi => by rw [c2 i hi, b4 i hi]⟩
    · rw [upd_off e, upd_off e, upd_off e, b1 (46 + 2 * s') (by omega) (by omega), b1 (47 + 2 * s') (by omega) (by omega)]
      rcases link_sh h g s' hs' with q | ⟨q1, q2, q3, q4, q5⟩
      · exact Or.inl q
      · refine Or.inr ⟨q1, q2, q3, q4, fun i hi => ?_⟩
        rw [c3 _ (by omega), up2_off (by omega), up2_off (by omega), up2_off (by omega)]
        exact q5 i hi
theorem ag_lose {D : Sg} {p q n0 n1 n m : Nat} {ek ef : Nat → Int32} {en : Nat → Nat} {σ τ : Sg} (h : XI D p q n0 n1 n m ek ef en σ) (g : MI D p q n0 n1 n m ek ef en τ) (a1 : Int32) : Agr (f_X9_lose σ a1) (f_X10_lose τ a1) := by
  unfold f_X9_lose f_X10_lose
  simp only [isBelow_eq, isSheet_eq, bnd_some, one_if]
  by_cases h1 : 0 ≤ a1 ∧ a1 < 4
  rotate_left
  · rw [if_neg h1, if_neg h1]; exact agr_of (xv_some h) (mu_some g)
  rw [if_pos h1, if_pos h1]
  obtain ⟨s, hs, rfl⟩ := below_of (N := 4) (by omega) h1
  simp only [gd_in hs (show 4 < 2 ^ 31 by omega), cl_nI (show s < 2147483648 by omega), amlet_eq, gd_true (isX6_s s hs)]
  rcases link_sh h g s hs with ⟨q1, q2⟩ | ⟨q1, q2, q3, q4, q5⟩
  · rw [if_pos q1, if_pos q2, find_eq, meets_eq, bnd_some, bnd_some]
    exact ag_find h g 1 _
  · rw [if_neg q1, if_neg (by rw [q2]; decide), up2_off (show (29 : Nat) ≠ 27 by omega), q4]
    refine ⟨σ (46 + 2 * s) 2, _, _, rfl, rfl, inv_sheets h g (fun c q1 q2 => by rw [up2_off (by omega), up2_off (by omega)]) (fun k hk => by rw [up2_off (by omega), up2_off (by omega)]) (fun s' hs' => ?_) (fun c hc => up2_off (by omega)) (fun k hk => by rw [up2_off (by omega)]) (by rw [up2_off (by omega), up2_off (by omega), up2_off (by omega)]; exact link_fd h g) (fun s' hs' => ?_)⟩
    · by_cases e : s' = s
      · subst e
        rw [up2_at, upd_off (by omega), up2_at, upd_at, upd_at]
        exact ⟨Or.inl rfl, 0, by omega, rfl⟩
      · rw [up2_off (by omega), up2_off (by omega)]
        exact h.sh s' hs'
    · by_cases e : s' = s
      · subst e
        rw [up2_at, upd_off (by omega), up2_at, upd_at, up2_at, upd_at]
        exact Or.inl ⟨rfl, rfl⟩
      · rw [up2_off (show 46 + 2 * s' ≠ 46 + 2 * s by omega), up2_off (show 46 + 2 * s' ≠ 46 + 2 * s by omega), up2_off (show 47 + 2 * s' ≠ 46 + 2 * s by omega), up2_off (show 47 + 2 * s' ≠ 46 + 2 * s by omega), up2_at, upd_off e, up2_off (show (28 : Nat) ≠ 27 by omega), up2_off (show (29 : Nat) ≠ 27 by omega), up2_off (show (30 : Nat) ≠ 27 by omega)]
        exact link_sh h g s' hs'
/-- an item kept -/
def nar (f v : Int32) : Int32 := if f = 0 then v.toInt8.toInt32 else if f = 1 then v.toInt16.toInt32 else v
theorem setItem_eq {σ : Sg} {c0 i z : Nat} (hz : z ≤ 60) (hi : i < z) (e : σ c0 2 = nI z) (v : Int32) : f_X6_setItem c0 σ (nI i) v = some ((), up2 σ (c0 + 1) i (nar (σ c0 1) v)) := by
  unfold f_X6_setItem f_X6_narrowed nar
  rw [isBelow_eq, bnd_some, one_if, e, if_pos (of_below hi (by omega))]
  simp only [gd_in (show i < 60 by omega) (show 60 < 2 ^ 31 by omega), cl_nI (show i < 2147483648 by omega)]
  by_cases h0 : σ c0 1 = 0
  · rw [if_pos h0, if_pos h0]; rfl
  · rw [if_neg h0, if_neg h0]
    by_cases h1 : σ c0 1 = 1
    · rw [if_pos h1, if_pos h1]; rfl
    · rw [if_neg h1, if_neg h1]; rfl
theorem keep_eq {τ : Sg} {s i : Nat} (hs : s < 4) (hi : i < 60) (v : Int32) : f_X10_keep τ (nI s) (nI i) v = some ((), up2 τ 30 (60 * s + i) (nar (τ 28 s) v)) := by
  unfold f_X10_keep f_X10_keep_b40 nar
  have e : (60 : Int32) * nI s + nI i = nI (60 * s + i) := by rw [n_lit 60, pk_mul, nI_add]
  simp only [e, gd_in hs (show 4 < 2 ^ 31 by omega), gd_in (show 60 * s + i < 240 by omega) (show 240 < 2 ^ 31 by omega), cl_nI (show s < 2147483648 by omega), cl_nI (show 60 * s + i < 2147483648 by omega), amlet_eq]
  by_cases h0 : τ 28 s = 0
  · rw [if_pos h0, if_pos h0]
  · rw [if_neg h0, if_neg h0]
    by_cases h1 : τ 28 s = 1
    · rw [if_pos h1, if_pos h1]
    · rw [if_neg h1, if_neg h1]
/-- put and get refuse alike -/
theorem refuse_ok {D : Sg} {p q n0 n1 n m : Nat} {ek ef : Nat → Int32} {en : Nat → Nat} {σ τ : Sg} (h : XI D p q n0 n1 n m ek ef en σ) (g : MI D p q n0 n1 n m ek ef en τ) {s : Nat} (hs : s < 4) {a2 : Int32} (h2 : 0 ≤ a2 ∧ a2 < 3) (a3 : Int32) :
    (∃ v, 0 < v ∧ ¬ -10 - v = 0 ∧ f_X9_refuseItem σ (nI s) a2 a3 = some (-10 - v, up2 σ 0 14 v) ∧ f_X10_lacks τ (nI s) a2 a3 = some (v, τ)) ∨
    (∃ i z, z ≤ 60 ∧ i < z ∧ a3 = nI i ∧ f_X9_refuseItem σ (nI s) a2 a3 = some (0, σ) ∧ f_X10_lacks τ (nI s) a2 a3 = some (0, τ) ∧ σ (46 + 2 * s) 2 = nI z ∧ ¬ σ (46 + 2 * s) 1 = -1 ∧ τ 27 s = 1 ∧ τ 28 s = σ (46 + 2 * s) 1 ∧ τ 29 s = σ (46 + 2 * s) 2 ∧ ∀ i, i < 60 → τ 30 (60 * s + i) = σ (47 + 2 * s) i) := by
  unfold f_X9_refuseItem f_X10_lacks
  simp only [isBelow_eq, bnd_some, one_if, in_eq, find_eq]
  rw [if_pos (show 0 ≤ nI s ∧ nI s < (4 : Int32) from of_below (N := 4) hs (by omega)), if_pos h2]
  simp only [gd_in hs (show 4 < 2 ^ 31 by omega), cl_nI (show s < 2147483648 by omega), amlet_eq, gd_true (isX6_s s hs)]
  rcases link_sh h g s hs with ⟨q1, q2⟩ | ⟨q1, q2, q3, q4, q5⟩
  · rw [if_pos q1, if_pos q2]
    exact Or.inl ⟨1, by decide, by decide, rfl, rfl⟩
  · rw [if_neg q1, if_neg (show ¬ τ 27 s = 0 by rw [q2]; decide), q3]
    by_cases hf : σ (46 + 2 * s) 1 = a2
    · rw [if_pos hf, if_pos hf]
      obtain ⟨z, hz, ez⟩ := (h.sh s hs).2
      rw [q4, ez]
      simp only [le_pred (show z < 1000 by omega)]
      by_cases hi : 0 ≤ a3 ∧ a3 < nI z
      · rw [if_pos hi, if_pos hi]
        obtain ⟨i, hi2, rfl⟩ := below_of (N := z) (by omega) hi
        exact Or.inr ⟨i, z, hz, hi2, rfl, rfl, rfl, rfl, q1, q2, trivial, trivial, q5⟩
      · rw [if_neg hi, if_neg hi]
        exact Or.inl ⟨2, by decide, by decide, rfl, rfl⟩
    · rw [if_neg hf, if_neg hf]
      exact Or.inl ⟨3, by decide, by decide, rfl, rfl⟩
theorem ag_put {D : Sg} {p q n0 n1 n m : Nat} {ek ef : Nat → Int32} {en : Nat → Nat} {σ τ : Sg} (h : XI D p q n0 n1 n m ek ef en σ) (g : MI D p q n0 n1 n m ek ef en τ) (a1 a2 a3 a4 : Int32) : Agr (f_X9_put σ a1 a2 a3 a4) (f_X10_put τ a1 a2 a3 a4) := by
  have ref : ¬ ((0 ≤ a1 ∧ a1 < 4) ∧ (0 ≤ a2 ∧ a2 < 3)) → f_X9_put σ a1 a2 a3 a4 = some (-2, σ) := fun hno => by
    unfold f_X9_put f_X9_refuseItem
    simp only [isBelow_eq, bnd_some, one_if]
    by_cases h1 : 0 ≤ a1 ∧ a1 < 4
    · rw [if_pos h1, if_neg (fun q => hno ⟨h1, q⟩)]; rfl
    · rw [if_neg h1]; rfl
  by_cases h1 : 0 ≤ a1 ∧ a1 < 4
  rotate_left
  · rw [ref fun q => h1 q.1]
    unfold f_X10_put
    rw [isSheet_eq, bnd_some, one_if, if_neg h1]
    exact agr_of (xv_some h) (mu_some g)
  by_cases h2 : 0 ≤ a2 ∧ a2 < 3
  rotate_left
  · rw [ref fun q => h2 q.2]
    unfold f_X10_put
    simp only [isSheet_eq, bnd_some, one_if, in_eq, three_of]
    rw [if_pos h1, if_neg h2]
    exact agr_of (xv_some h) (mu_some g)
  obtain ⟨s, hs, rfl⟩ := below_of (N := 4) (by omega) h1
  unfold f_X9_put f_X10_put
  simp only [isSheet_eq, bnd_some, one_if, in_eq, three_of]
  rw [if_pos h1, if_pos h2]
  rcases refuse_ok h g hs h2 a3 with ⟨v, v0, v1, e1, e2⟩ | ⟨i, z, hz, hi, rfl, e1, e2, ez, q1, q2, q3, q4, q5⟩
  · rw [e1, e2, bnd_some, bnd_some, if_neg v1, if_neg (by grind)]
    exact ag_find h g v _
  · rw [e1, e2, bnd_some, bnd_some, if_pos rfl, if_pos (by decide), gd_in hs (by omega), cl_nI (by omega)]
    simp only [amlet_eq]
    rw [gd_true (isX6_s s hs), setItem_eq hz hi ez, keep_eq hs (by omega), bnd_some, bnd_some]
    refine ⟨1, _, _, rfl, rfl, inv_sheets h g (fun c q1 q2 => up2_off (by omega)) (fun k hk => by rw [up2_off (by omega)]) (fun s' hs' => ?_) (fun c hc => up2_off (by omega)) (fun k hk => by rw [up2_off (by omega)]) (by rw [up2_off (by omega), up2_off (by omega)]; exact link_fd h g) (fun s' hs' => ?_)⟩
    · rw [up2_off (show 46 + 2 * s' ≠ 46 + 2 * s + 1 by omega)]
      exact h.sh s' hs'
    · rw [up2_off (show 46 + 2 * s' ≠ 46 + 2 * s + 1 by omega), up2_off (show (27 : Nat) ≠ 30 by omega), up2_off (show (28 : Nat) ≠ 30 by omega), up2_off (show (29 : Nat) ≠ 30 by omega), up2_at]
      rcases link_sh h g s' hs' with w | ⟨w1, w2, w3, w4, w5⟩
      · exact Or.inl w
      · refine Or.inr ⟨w1, w2, w3, w4, fun j hj => ?_⟩
        by_cases e : s' = s
        · subst e
          rw [show 47 + 2 * s' = 46 + 2 * s' + 1 by omega, up2_at, q3]
          by_cases e2 : j = i
          · subst e2; rw [upd_at, upd_at]
          · rw [upd_off (by omega), upd_off e2, show 46 + 2 * s' + 1 = 47 + 2 * s' by omega]
            exact w5 j hj
        · rw [up2_off (by omega), upd_off (by omega)]
          exact w5 j hj
theorem ag_get {D : Sg} {p q n0 n1 n m : Nat} {ek ef : Nat → Int32} {en : Nat → Nat} {σ τ : Sg} (h : XI D p q n0 n1 n m ek ef en σ) (g : MI D p q n0 n1 n m ek ef en τ) (a1 a2 a3 : Int32) : Agr (f_X9_get σ a1 a2 a3) (f_X10_get τ a1 a2 a3) := by
  have ref : ¬ ((0 ≤ a1 ∧ a1 < 4) ∧ (0 ≤ a2 ∧ a2 < 3)) → f_X9_get σ a1 a2 a3 = some (-2147483648, σ) := fun hno => by
    unfold f_X9_get f_X9_refuseItem
    simp only [isBelow_eq, bnd_some, one_if]
    by_cases h1 : 0 ≤ a1 ∧ a1 < 4
    · rw [if_pos h1, if_neg (fun q => hno ⟨h1, q⟩)]; rfl
    · rw [if_neg h1]; rfl
  by_cases h1 : 0 ≤ a1 ∧ a1 < 4
  rotate_left
  · rw [ref fun q => h1 q.1]
    unfold f_X10_get
    rw [isSheet_eq, bnd_some, one_if, if_neg h1]
    exact agr_of (xv_some h) (mu_some g)
  by_cases h2 : 0 ≤ a2 ∧ a2 < 3
  rotate_left
  · rw [ref fun q => h2 q.2]
    unfold f_X10_get
    simp only [isSheet_eq, bnd_some, one_if, in_eq, three_of]
    rw [if_pos h1, if_neg h2]
    exact agr_of (xv_some h) (mu_some g)
  obtain ⟨s, hs, rfl⟩ := below_of (N := 4) (by omega) h1
  unfold f_X9_get f_X10_get
  simp only [isSheet_eq, bnd_some, one_if, in_eq, three_of]
  rw [if_pos h1, if_pos h2]
  rcases refuse_ok h g hs h2 a3 with ⟨v, v0, v1, e1, e2⟩ | ⟨i, z, hz, hi, rfl, e1, e2, ez, q1, q2, q3, q4, q5⟩
  · rw [e1, e2, bnd_some, bnd_some, if_neg v1, if_neg (by grind)]
    exact ag_find h g v _
  · rw [e1, e2, bnd_some, bnd_some, if_pos rfl, if_pos (by decide), gd_in hs (by omega), cl_nI (by omega), n_lit 60, pk_mul, nI_add]
    simp only [amlet_eq]
    rw [gd_true (isX6_s s hs), gd_in (show i < 60 by omega) (by omega), gd_in (show 60 * s + i < 240 by omega) (by omega), cl_nI (by omega), cl_nI (by omega), q5 i (by omega), show 46 + 2 * s + 1 = 47 + 2 * s by omega]
    exact agr_of (xv_some h) (mu_some g)
