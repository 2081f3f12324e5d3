/-! the nights told -/
def XV (D : Sg) (p q n0 n1 n m : Nat) (ek ef : Nat → Int32) (en : Nat → Nat) {α : Type} (x : Option (α × Sg)) (v : α) : Prop := Ret x (fun r σ' => r = v ∧ XI D p q n0 n1 n m ek ef en σ')
def MV (D : Sg) (p q n0 n1 n m : Nat) (ek ef : Nat → Int32) (en : Nat → Nat) {α : Type} (y : Option (α × Sg)) (v : α) : Prop := Ret y (fun r τ' => r = v ∧ MI D p q n0 n1 n m ek ef en τ' ∧ MG D τ' p q)
def MU (D : Sg) (p q n0 n1 n m : Nat) (ek ef : Nat → Int32) (en : Nat → Nat) {α : Type} (y : Option (α × Sg)) (v : α) : Prop := Ret y (fun r τ' => r = v ∧ MI D p q n0 n1 n m ek ef en τ')
theorem MV.u {D : Sg} {p q n0 n1 n m : Nat} {ek ef : Nat → Int32} {en : Nat → Nat} {α : Type} {y : Option (α × Sg)} {v : α} (h : MV D p q n0 n1 n m ek ef en y v) : MU D p q n0 n1 n m ek ef en y v := ret_mono h (fun _ _ b => ⟨b.1, b.2.1⟩)
def Inv (σ τ : Sg) : Prop := ∃ (D : Sg) (p q n0 n1 n m : Nat) (ek ef : Nat → Int32) (en : Nat → Nat), XI D p q n0 n1 n m ek ef en σ ∧ MI D p q n0 n1 n m ek ef en τ
def Agr {α : Type} (x y : Option (α × Sg)) : Prop := ∃ (r : α) (σ' τ' : Sg), x = some (r, σ') ∧ y = some (r, τ') ∧ Inv σ' τ'
theorem agr_of {D : Sg} {p q n0 n1 n m : Nat} {ek ef : Nat → Int32} {en : Nat → Nat} {α : Type} {x y : Option (α × Sg)} {v : α} (h : XV D p q n0 n1 n m ek ef en x v) (h' : MU D p q n0 n1 n m ek ef en y v) : Agr x y := by
  obtain ⟨r, σ', e, rfl, hX⟩ := h
  obtain ⟨r', τ', e', rfl, hM⟩ := h'
  exact ⟨r', σ', τ', e, e', D, p, q, n0, n1, n, m, ek, ef, en, hX, hM⟩
theorem xv_some {D : Sg} {p q n0 n1 n m : Nat} {ek ef : Nat → Int32} {en : Nat → Nat} {σ : Sg} {α : Type} {v : α} (h : XI D p q n0 n1 n m ek ef en σ) : XV D p q n0 n1 n m ek ef en (some (v, σ)) v := ret_some.mpr ⟨rfl, h⟩
theorem mv_some {D : Sg} {p q n0 n1 n m : Nat} {ek ef : Nat → Int32} {en : Nat → Nat} {τ : Sg} {α : Type} {v : α} (h : MI D p q n0 n1 n m ek ef en τ) (g : MG D τ p q) : MV D p q n0 n1 n m ek ef en (some (v, τ)) v := ret_some.mpr ⟨rfl, h, g⟩
theorem mu_some {D : Sg} {p q n0 n1 n m : Nat} {ek ef : Nat → Int32} {en : Nat → Nat} {τ : Sg} {α : Type} {v : α} (h : MI D p q n0 n1 n m ek ef en τ) : MU D p q n0 n1 n m ek ef en (some (v, τ)) v := ret_some.mpr ⟨rfl, h⟩
theorem mu_id {D : Sg} {p q n0 n1 n m : Nat} {ek ef : Nat → Int32} {en : Nat → Nat} {α : Type} {y : Option (α × Sg)} {v : α} (h : MU D p q n0 n1 n m ek ef en y v) : MU D p q n0 n1 n m ek ef en (bnd y (fun r τ => some (r, τ))) v := ret_bnd h (fun r τ b => ret_some.mpr b)
theorem mv_id {D : Sg} {p q n0 n1 n m : Nat} {ek ef : Nat → Int32} {en : Nat → Nat} {α : Type} {y : Option (α × Sg)} {v : α} (h : MV D p q n0 n1 n m ek ef en y v) : MV D p q n0 n1 n m ek ef en (bnd y (fun r τ => some (r, τ))) v := ret_bnd h (fun r τ b => ret_some.mpr b)
theorem XI.h5 {D : Sg} {p q n0 n1 n m : Nat} {ek ef : Nat → Int32} {en : Nat → Nat} {σ : Sg} (h : XI D p q n0 n1 n m ek ef en σ) : σ 5 1 = nI p := by rw [h.sd 5 (by omega) (by omega)]; exact h.dok.2.2.1
theorem XI.h10 {D : Sg} {p q n0 n1 n m : Nat} {ek ef : Nat → Int32} {en : Nat → Nat} {σ : Sg} (h : XI D p q n0 n1 n m ek ef en σ) : σ 10 1 = nI q := by rw [h.sd 10 (by omega) (by omega)]; exact h.dok.2.2.2.1
theorem gd28 {α : Type} {r : Nat} {k : Option α} (h : r = 28) : gd (decide (r = 28)) k = k := gd_true (by rw [h]; rfl)
theorem below_of {a : Int32} {N : Nat} (hN : N < 1000) (h : 0 ≤ a ∧ a < nI N) : ∃ k, k < N ∧ a = nI k := below_nat hN h.1 h.2
theorem of_below {k N : Nat} (h : k < N) (hN : N < 1000) : 0 ≤ nI k ∧ nI k < nI N := by
  refine ⟨?_, ?_⟩
  · show nI 0 ≤ nI k
    rw [p_le (by omega) (by omega)]; omega
  · rw [p_lt (by omega) (by omega)]; exact h
theorem XI.came {D : Sg} {p q n0 n1 n m : Nat} {ek ef : Nat → Int32} {en : Nat → Nat} {σ : Sg} (h : XI D p q n0 n1 n m ek ef en σ) : (RN D p q n ek ef en selT 24).2.2.2.2.length ≤ 9 := by
  have h1 := runL_came D p q ek ef en ((ordT n en 24).filter selT)
  have h2 := List.length_filter_le selT (ordT n en 24)
  have h3 : (ordL n en).length = n := ord_len (fun e he => (h.eok.2.2.1 e he).2.2.2.1)
  rw [ordL_T] at h3
  have := h.2.2.2.1
  unfold RN
  omega
/-- at -/
noncomputable def vAt (D : Sg) (p q n : Nat) (ek ef : Nat → Int32) (en : Nat → Nat) (t k : Nat) (a : Int32) : Int32 := if a = 0 then b2 (bt (RN D p q n ek ef en selT (t + 1)).1 (nI k)) else if a = 1 then wantR D q (nI t) (RN D p q n ek ef en selT (t + 1)) k else (RN D p q n ek ef en selT (t + 1)).2.2.2.1 k
theorem at_x {D : Sg} {p q n0 n1 n m : Nat} {ek ef : Nat → Int32} {en : Nat → Nat} {σ : Sg} (h : XI D p q n0 n1 n m ek ef en σ) {t k : Nat} (ht : t < 24) (hk : k < p) {a : Int32} (ha : 0 ≤ a ∧ a < 3) : XV D p q n0 n1 n m ek ef en (f_X9_at σ (nI t) (nI k) a) (vAt D p q n ek ef en t k a) := by
  have hp8 := h.1.sizes
  unfold f_X9_at
  simp only [isBelow_eq, bnd_some, one_if]
  rw [if_pos (show 0 ≤ nI t ∧ nI t < (24 : Int32) from of_below (N := 24) ht (by omega)), h.h5, if_pos (of_below hk (by omega)), if_pos ha]
  obtain ⟨r, σ1, e, er, hX, hc⟩ := asTold_x h
  rw [e, bnd_some, gd28 er]
  unfold vAt
  by_cases h0 : a = 0
  · rw [if_pos h0, if_pos h0, isUp_b ht (hc.2 t ht), bnd_some, b2_0]
    by_cases hb : bt (RN D p q n ek ef en selT (t + 1)).1 (nI k)
    · rw [if_pos hb, b2_pos hb]; exact xv_some hX
    · rw [if_neg hb, b2_neg hb]; exact xv_some hX
  · rw [if_neg h0, if_neg h0]
    by_cases h1 : a = 1
    · rw [if_pos h1, if_pos h1, wantedBehind_ok hX.dok hX.sd hc ht, bnd_some]
      exact xv_some hX
    · rw [if_neg h1, if_neg h1, timesUpBy_ok hX.dok hc h.came ht (by omega), bnd_some]
      exact xv_some hX
theorem at_m {D : Sg} {p q n0 n1 n m : Nat} {ek ef : Nat → Int32} {en : Nat → Nat} {τ : Sg} (h : MI D p q n0 n1 n m ek ef en τ) {t k : Nat} (ht : t < 24) (hk : k < p) (a : Int32) : MV D p q n0 n1 n m ek ef en (f_X10_atOf τ (nI t) (nI k) a) (vAt D p q n ek ef en t k a) := by
  have hp8 := h.1.sizes
  unfold f_X10_atOf
  obtain ⟨r, τ1, e, hM, hG, hR, hN⟩ := runsTold_m h
  rw [e, bnd_some]
  obtain ⟨n1', n2', n3'⟩ := hN t ht
  obtain ⟨m1, m2⟩ := n3' k hk
  have e8 : (8 : Int32) * nI t + nI k = nI (8 * t + k) := by rw [n_lit 8, pk_mul, nI_add]
  simp only [gd_in ht (show 24 < 2 ^ 31 by omega), cl_nI (show t < 2147483648 by omega), e8, gd_in (show 8 * t + k < 192 by omega) (show 192 < 2 ^ 31 by omega), cl_nI (show 8 * t + k < 2147483648 by omega), m1, m2, n1']
  unfold vAt
  by_cases h0 : a = 0
  · rw [if_pos h0, if_pos h0, isIn_b, bnd_some, b2_0]
    by_cases hb : bt (RN D p q n ek ef en selT (t + 1)).1 (nI k)
    · rw [if_pos hb, b2_pos hb]; exact mv_some hM hG
    · rw [if_neg hb, b2_neg hb]; exact mv_some hM hG
  · rw [if_neg h0, if_neg h0]
    by_cases h1 : a = 1
    · rw [if_pos h1, if_pos h1]; exact mv_some hM hG
    · rw [if_neg h1, if_neg h1]; exact mv_some hM hG
theorem ag_at {D : Sg} {p q n0 n1 n m : Nat} {ek ef : Nat → Int32} {en : Nat → Nat} {σ τ : Sg} (h : XI D p q n0 n1 n m ek ef en σ) (g : MI D p q n0 n1 n m ek ef en τ) (a1 a2 a3 : Int32) : Agr (f_X9_at σ a1 a2 a3) (f_X10_at τ a1 a2 a3) := by
  have hp8 := h.1.sizes
  have ref : (¬ ((0 ≤ a1 ∧ a1 < 24) ∧ (0 ≤ a2 ∧ a2 < nI p) ∧ (0 ≤ a3 ∧ a3 < 3))) → XV D p q n0 n1 n m ek ef en (f_X9_at σ a1 a2 a3) (-2) := fun hno => by
    unfold f_X9_at
    simp only [isBelow_eq, bnd_some, one_if, h.h5]
    by_cases h1 : 0 ≤ a1 ∧ a1 < 24
    · rw [if_pos h1]
      by_cases h2 : 0 ≤ a2 ∧ a2 < nI p
      · rw [if_pos h2, if_neg (fun q => hno ⟨h1, h2, q⟩)]; exact xv_some h
      · rw [if_neg h2]; exact xv_some h
    · rw [if_neg h1]; exact xv_some h
  unfold f_X10_at
  rw [isNight_eq, bnd_some, one_if]
  by_cases h1 : 0 ≤ a1 ∧ a1 < 24
  rotate_left
  · rw [if_neg h1]; exact agr_of (ref fun q => h1 q.1) (mu_some g)
  rw [if_pos h1]
  obtain ⟨r, τ1, e, g1, -, rfl⟩ := isOne_ok g a2
  rw [e, bnd_some, one_if]
  by_cases h2 : 0 ≤ a2 ∧ a2 < nI p
  rotate_left
  · rw [if_neg h2]; exact agr_of (ref fun q => h2 q.2.1) (mu_some g1)
  rw [if_pos h2, isThree_eq, bnd_some, one_if]
  by_cases h3 : 0 ≤ a3 ∧ a3 < 3
  rotate_left
  · rw [if_neg h3]; exact agr_of (ref fun q => h3 q.2.2) (mu_some g1)
  rw [if_pos h3]
  obtain ⟨t, ht, rfl⟩ := below_of (N := 24) (by omega) h1
  obtain ⟨k, hk, rfl⟩ := below_of (N := p) (by omega) h2
  exact agr_of (at_x h ht hk h3) (mu_id (at_m g1 ht hk a3).u)
/-- field -/
def vField (D : Sg) (up x y : Int32) : Nat → Int32
  | 0 => -1
  | i + 1 => if D 7 i = x ∧ D 8 i = y ∧ bt up (nI i) then nI i else vField D up x y i
theorem vField_yes {D : Sg} {up x y : Int32} {i : Nat} (h : D 7 i = x ∧ D 8 i = y ∧ bt up (nI i)) : vField D up x y (i + 1) = nI i := by
  exact if_pos h
theorem vField_no {D : Sg} {up x y : Int32} {i : Nat} (h : ¬ (D 7 i = x ∧ D 8 i = y ∧ bt up (nI i))) : vField D up x y (i + 1) = vField D up x y i := by
  exact if_neg h
theorem vField_at {D : Sg} {up x y : Int32} {p i : Nat} (hd : DI D p) (hi : i < p) (h : D 7 i = x ∧ D 8 i = y ∧ bt up (nI i)) : ∀ j, i < j → j ≤ p → vField D up x y j = nI i
  | 0, q, _ => absurd q (Nat.not_lt_zero _)
  | j + 1, q, q2 => by
    by_cases e : i = j
    · subst e; exact vField_yes h
    · rw [vField_no (fun hh => hd i j (by omega) (by omega) ⟨h.1.trans hh.1.symm, h.2.1.trans hh.2.1.symm⟩)]
      exact vField_at hd hi h j (by omega) (by omega)
theorem vField_none {D : Sg} {up x y : Int32} : ∀ j, (∀ i, i < j → ¬ (D 7 i = x ∧ D 8 i = y ∧ bt up (nI i))) → vField D up x y j = -1
  | 0, _ => rfl
  | j + 1, h => by rw [vField_no (h j (by omega)), vField_none j (fun i hi => h i (by omega))]
theorem ag_field {D : Sg} {p q n0 n1 n m : Nat} {ek ef : Nat → Int32} {en : Nat → Nat} {σ τ : Sg} (h : XI D p q n0 n1 n m ek ef en σ) (g : MI D p q n0 n1 n m ek ef en τ) (a1 a2 a3 : Int32) : Agr (f_X9_field σ a1 a2 a3) (f_X10_field τ a1 a2 a3) := by
  have hp8 := h.1.sizes
  unfold f_X9_field f_X10_field
  simp only [isBelow_eq, isNight_eq, isSix_eq, bnd_some, one_if]
  by_cases h1 : 0 ≤ a1 ∧ a1 < 24
  rotate_left
  · rw [if_neg h1, if_neg h1]; exact agr_of (xv_some h) (mu_some g)
  rw [if_pos h1, if_pos h1]
  by_cases h2 : 0 ≤ a2 ∧ a2 < 6
  rotate_left
  · rw [if_neg h2, if_neg h2]; exact agr_of (xv_some h) (mu_some g)
  rw [if_pos h2, if_pos h2]
  by_cases h3 : 0 ≤ a3 ∧ a3 < 6
  rotate_left
  · rw [if_neg h3, if_neg h3]; exact agr_of (xv_some h) (mu_some g)
  rw [if_pos h3, if_pos h3]
  obtain ⟨t, ht, rfl⟩ := below_of (N := 24) (by omega) h1
  have hX : XV D p q n0 n1 n m ek ef en (bnd (f_X9_asTold σ) (fun r7 σ8 => gd (decide (r7 = 28)) (f_X9_field_l39 300 σ8 (nI t) a2 a3 (0 : Int32)))) (vField D (RN D p q n ek ef en selT (t + 1)).1 a2 a3 p) := by
    obtain ⟨r, σ1, e, er, hX, hc⟩ := asTold_x h
    rw [e, bnd_some, gd28 er]
    refine i_X9_field_l39 p (fun i σ2 x1 x2 x3 x5 => σ2 = σ1 ∧ x1 = nI t ∧ x2 = a2 ∧ x3 = a3 ∧ x5 = nI i ∧ ∀ j, j < i → ¬ (D 7 j = a2 ∧ D 8 j = a3 ∧ bt (RN D p q n ek ef en selT (t + 1)).1 (nI j))) (fun σ2 x1 x2 x3 x5 r => XV D p q n0 n1 n m ek ef en r _) ?_ 300 0 (by omega) (by omega) σ1 (nI t) a2 a3 0 ⟨rfl, rfl, rfl, rfl, rfl, fun j hj => absurd hj (Nat.not_lt_zero _)⟩
    intro i k σ2 x1 x2 x3 x5 hi hI ih
    obtain ⟨rfl, rfl, rfl, rfl, rfl, hno⟩ := hI
    unfold f_X9_field_b39 f_X9_field_b93
    rw [hX.h5]
    rcases Nat.lt_or_ge i p with hlt | hge
    · rw [at_go hlt (by omega)]
      simp only [amlet_eq, nI_1, gd_in (show i < 8 by omega) (show 8 < 2 ^ 31 by omega), cl_nI (show i < 2147483648 by omega), hX.sd 7 (by omega) (by omega), hX.sd 8 (by omega) (by omega)]
      have go : ¬ (D 7 i = x2 ∧ D 8 i = x3 ∧ bt (RN D p q n ek ef en selT (t + 1)).1 (nI i)) → XV D p q n0 n1 n m ek ef en (k σ2 (nI t) x2 x3 (nI (i + 1))) _ := fun hn => ih _ _ _ _ _ hlt ⟨rfl, rfl, rfl, rfl, rfl, fun j hj => by
        by_cases e : j = i
        · subst e; exact hn
        · exact hno j (by omega)⟩
      by_cases q1 : D 7 i = x2
      · rw [if_pos q1]
        by_cases q2 : D 8 i = x3
        · rw [if_pos q2, isUp_b ht (hc.2 t ht), bnd_some]
          by_cases q3 : bt (RN D p q n ek ef en selT (t + 1)).1 (nI i)
          · rw [b2_pos q3, if_neg (by decide), vField_at hX.1.di hlt ⟨q1, q2, q3⟩ p hlt (Nat.le_refl _)]
            exact xv_some hX
          · rw [b2_neg q3, if_pos rfl]
            exact go fun q => q3 q.2.2
        · rw [if_neg q2]
          exact go fun q => q2 q.2.1
      · rw [if_neg q1]
        exact go fun q => q1 q.1
    · have e : i = p := by omega
      subst e
      rw [at_end (Nat.le_refl _) (by omega), vField_none i hno]
      exact xv_some hX
  refine agr_of hX (mu_id ?_)
  unfold f_X10_fieldOf
  obtain ⟨r, τ1, e, hM, hG, hR, hN⟩ := runsTold_m g
  rw [e, bnd_some]
  refine i_X10_fieldOf_l10 p (fun i σ2 x1 x2 x3 x4 x5 => σ2 = τ1 ∧ x1 = nI t ∧ x2 = a2 ∧ x3 = a3 ∧ x4 = vField D (RN D p q n ek ef en selT (t + 1)).1 a2 a3 i ∧ x5 = nI i) (fun σ2 x1 x2 x3 x4 x5 r => MU D p q n0 n1 n m ek ef en r _) ?_ 300 0 (by omega) (by omega) τ1 (nI t) a2 a3 _ 0 ⟨rfl, rfl, rfl, rfl, rfl, rfl⟩
  intro i k σ2 x1 x2 x3 x4 x5 hi hI ih
  obtain ⟨rfl, rfl, rfl, rfl, rfl, rfl⟩ := hI
  unfold f_X10_fieldOf_b10 f_X10_fieldOf_b60 f_X10_fieldOf_b62
  rw [hG.1]
  rcases Nat.lt_or_ge i p with hlt | hge
  · obtain ⟨-, g4, g5, -⟩ := hG.2.2.1 i hlt
    rw [at_go hlt (by omega), gd_in ht (by omega), cl_nI (by omega), (hN t ht).1, isIn_b, bnd_some]
    simp only [amlet_eq, nI_1, gd_in (show i < 9 by omega) (show 9 < 2 ^ 31 by omega), cl_nI (show i < 2147483648 by omega), g4, g5]
    have go : ¬ (D 7 i = x2 ∧ D 8 i = x3 ∧ bt (RN D p q n ek ef en selT (t + 1)).1 (nI i)) → MU D p q n0 n1 n m ek ef en (k σ2 (nI t) x2 x3 (vField D (RN D p q n ek ef en selT (t + 1)).1 x2 x3 i) (nI (i + 1))) _ := fun hn => ih _ _ _ _ _ _ hlt ⟨rfl, rfl, rfl, rfl, (vField_no hn).symm, rfl⟩
    by_cases q3 : bt (RN D p q n ek ef en selT (t + 1)).1 (nI i)
    · rw [b2_pos q3, if_neg (by decide)]
      by_cases q1 : D 7 i = x2
      · rw [if_pos q1]
        by_cases q2 : D 8 i = x3
        · rw [if_pos q2]
          exact ih _ _ _ _ _ _ hlt ⟨rfl, rfl, rfl, rfl, (vField_yes ⟨q1, q2, q3⟩).symm, rfl⟩
        · rw [if_neg q2]
          exact go fun q => q2 q.2.1
      · rw [if_neg q1]
        exact go fun q => q1 q.1
    · rw [b2_neg q3, if_pos rfl]
      exact go fun q => q3 q.2.2
  · have e : i = p := by omega
    subst e
    rw [at_end (Nat.le_refl _) (by omega)]
    exact mu_some hM
/-- how many bits -/
def bcV (a0 : Int32) : Int32 :=
  let v1 := a0 - ((am_ushr a0 (1 : Int32)) &&& (1431655765 : Int32))
  let v2 := (v1 &&& (858993459 : Int32)) + ((am_ushr v1 (2 : Int32)) &&& (858993459 : Int32))
  let v3 := (v2 + (am_ushr v2 (4 : Int32))) &&& (252645135 : Int32)
  let v4 := v3 + (am_ushr v3 (8 : Int32))
  let v5 := v4 + (am_ushr v4 (16 : Int32))
  v5 &&& (63 : Int32)
theorem bitCount_eq (σ : Sg) (a : Int32) : f_J6_bitCount_0f7a4 σ a = some (bcV a, σ) := rfl
def manyC (x : Int32) : Nat → Int32
  | 0 => 0
  | k + 1 => manyC x k + (if ((x >>> (nI k &&& 31)) &&& (1 : Int32)) = 1 then 1 else 0)
theorem manyC_s (x : Int32) (k : Nat) : manyC x (k + 1) = manyC x k + (if bt x (nI k) then 1 else 0) := by
  rfl
theorem bc_many : ∀ v, v < 256 → bcV (nI v) = manyC (nI v) 8 := by decide +kernel
theorem of_255 {x : Int32} (h : x &&& 255 = x) : ∃ v, v < 256 ∧ x = nI v := by
  refine ⟨x.toBitVec.toNat % 256, by omega, ?_⟩
  have e : x.toBitVec &&& 255#32 = x.toBitVec := by
    have := congrArg Int32.toBitVec h
    rw [Int32.toBitVec_and] at this
    exact this
  have e2 : x.toBitVec.toNat % 256 = x.toBitVec.toNat := by
    have := congrArg BitVec.toNat e
    rw [BitVec.toNat_and, BitVec.toNat_ofNat, show 255 % 2 ^ 32 = 2 ^ 8 - 1 from rfl, Nat.and_two_pow_sub_one_eq_mod] at this
    exact this
  rw [e2]
  apply Int32.toBitVec_inj.mp
  show x.toBitVec = BitVec.ofNat 32 x.toBitVec.toNat
  rw [BitVec.ofNat_toNat, BitVec.setWidth_eq]
theorem many_ok (τ : Sg) (x : Int32) : f_X10_many τ x = some (manyC x 8, τ) := by
  unfold f_X10_many
  refine i_X10_many_l4 8 (fun i σ2 x1 x2 x3 => σ2 = τ ∧ x1 = x ∧ x2 = manyC x i ∧ x3 = nI i) (fun σ2 x1 x2 x3 r => r = some (manyC x 8, τ)) ?_ 300 0 (by omega) (by omega) τ x 0 0 ⟨rfl, rfl, rfl, rfl⟩
  intro i k σ2 x1 x2 x3 hi hI ih
  obtain ⟨rfl, rfl, rfl, rfl⟩ := hI
  unfold f_X10_many_b4 f_X10_many_b24
  rw [n_lit 8]
  rcases Nat.lt_or_ge i 8 with hlt | hge
  · rw [at_go hlt (by omega), isIn_b, bnd_some]
    simp only [amlet_eq, nI_1]
    have ss : manyC x1 (i + 1) = manyC x1 i + b2 (bt x1 (nI i)) := by
      by_cases hb : bt x1 (nI i)
      · rw [b2_pos hb]
        exact congrArg (manyC x1 i + ·) (if_pos hb)
      · rw [b2_neg hb]
        exact congrArg (manyC x1 i + ·) (if_neg hb)
    by_cases hb : bt x1 (nI i)
    · rw [b2_pos hb] at ss ⊢
      rw [if_neg (by decide)]
      exact ih _ _ _ _ hlt ⟨rfl, rfl, ss.symm, rfl⟩
    · rw [b2_neg hb] at ss ⊢
      rw [if_pos rfl]
      exact ih _ _ _ _ hlt ⟨rfl, rfl, ss.symm, rfl⟩
  · have e : i = 8 := by omega
    subst e
    rw [at_end (Nat.le_refl _) (by omega)]
/-- up -/
def vUp (D : Sg) (p q n : Nat) (ek ef : Nat → Int32) (en : Nat → Nat) (t : Nat) (a : Int32) : Int32 := if a = 0 then manyC (RN D p q n ek ef en selT (t + 1)).1 8 else openR D (nI t) (RN D p q n ek ef en selT (t + 1)) q
theorem up_x {D : Sg} {p q n0 n1 n m : Nat} {ek ef : Nat → Int32} {en : Nat → Nat} {σ : Sg} (h : XI D p q n0 n1 n m ek ef en σ) {t : Nat} (ht : t < 24) {a : Int32} (ha : 0 ≤ a ∧ a < 2) : XV D p q n0 n1 n m ek ef en (f_X9_up σ (nI t) a) (vUp D p q n ek ef en t a) := by
  unfold f_X9_up
  simp only [isBelow_eq, bnd_some, one_if]
  rw [if_pos (show 0 ≤ nI t ∧ nI t < (24 : Int32) from of_below (N := 24) ht (by omega)), if_pos ha]
  obtain ⟨r, σ1, e, er, hX, hc⟩ := asTold_x h
  rw [e, bnd_some, gd28 er]
  unfold vUp
  by_cases h0 : a = 0
  · obtain ⟨v, hv, ev⟩ := of_255 (RN_good (D := D) (q := q) (n := n) (ek := ek) (ef := ef) (en := en) (sel := selT) h.dok.1 (t + 1) (by omega)).2.2.2
    rw [if_pos h0, if_pos h0, gd_in ht (by omega), cl_nI (by omega), bitCount_eq, bnd_some, show σ1 32 t = _ from hc.2 t ht, ev, bc_many v hv]
    exact xv_some hX
  · rw [if_neg h0, if_neg h0, openBehind_ok hX.dok hX.sd hc ht, bnd_some]
    exact xv_some hX
theorem up_m {D : Sg} {p q n0 n1 n m : Nat} {ek ef : Nat → Int32} {en : Nat → Nat} {τ : Sg} (h : MI D p q n0 n1 n m ek ef en τ) {t : Nat} (ht : t < 24) (a : Int32) : MV D p q n0 n1 n m ek ef en (f_X10_upOf τ (nI t) a) (vUp D p q n ek ef en t a) := by
  unfold f_X10_upOf
  obtain ⟨r, τ1, e, hM, hG, hR, hN⟩ := runsTold_m h
  rw [e, bnd_some]
  obtain ⟨n1', n2', n3'⟩ := hN t ht
  simp only [gd_in ht (show 24 < 2 ^ 31 by omega), cl_nI (show t < 2147483648 by omega), n1', n2', many_ok, bnd_some]
  unfold vUp
  by_cases h0 : a = 0
  · rw [if_pos h0, if_pos h0]; exact mv_some hM hG
  · rw [if_neg h0, if_neg h0]; exact mv_some hM hG
theorem ag_up {D : Sg} {p q n0 n1 n m : Nat} {ek ef : Nat → Int32} {en : Nat → Nat} {σ τ : Sg} (h : XI D p q n0 n1 n m ek ef en σ) (g : MI D p q n0 n1 n m ek ef en τ) (a1 a2 : Int32) : Agr (f_X9_up σ a1 a2) (f_X10_up τ a1 a2) := by
  have ref : (¬ ((0 ≤ a1 ∧ a1 < 24) ∧ (0 ≤ a2 ∧ a2 < 2))) → XV D p q n0 n1 n m ek ef en (f_X9_up σ a1 a2) (-2) := fun hno => by
    unfold f_X9_up
    simp only [isBelow_eq, bnd_some, one_if]
    by_cases h1 : 0 ≤ a1 ∧ a1 < 24
    · rw [if_pos h1, if_neg (fun q => hno ⟨h1, q⟩)]; exact xv_some h
    · rw [if_neg h1]; exact xv_some h
  unfold f_X10_up
  simp only [isNight_eq, isTwo_eq, bnd_some, one_if]
  by_cases h1 : 0 ≤ a1 ∧ a1 < 24
  rotate_left
  · rw [if_neg h1]; exact agr_of (ref fun q => h1 q.1) (mu_some g)
  rw [if_pos h1]
  by_cases h2 : 0 ≤ a2 ∧ a2 < 2
  rotate_left
  · rw [if_neg h2]; exact agr_of (ref fun q => h2 q.2) (mu_some g)
  rw [if_pos h2]
  obtain ⟨t, ht, rfl⟩ := below_of (N := 24) (by omega) h1
  exact agr_of (up_x h ht h2) (mu_id (up_m g ht a2).u)
