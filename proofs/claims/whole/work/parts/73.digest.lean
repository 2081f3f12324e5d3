/-! digest -/
def mx (h : Int64) (v : Int32) : Int64 := (31 : Int64) * h + v.toInt64
def mxl (h : Int64) (v : Int64) : Int64 := (31 : Int64) * h + v
theorem mx_f (h : Int64) (v : Int32) : (31 : Int64) * h + v.toInt64 = mx h v := rfl
theorem mxl_f (h : Int64) (v : Int64) : (31 : Int64) * h + v = mxl h v := rfl
theorem mix_b {β : Type} (σ : Sg) (h : Int64) (v : Int32) (k : Int64 → Sg → Option β) : bnd (f_X9_mix σ h v.toInt64) k = k (mx h v) σ := rfl
def fo (f : Nat → Int64 → Int64) (h : Int64) : Nat → Int64
  | 0 => h
  | i + 1 => f i (fo f h i)
theorem xv_bnd {D : Sg} {p q n0 n1 n m : Nat} {ek ef : Nat → Int32} {en : Nat → Nat} {α β : Type} {x : Option (α × Sg)} {v : α} {k : α → Sg → Option (β × Sg)} {w : β} (h : XV D p q n0 n1 n m ek ef en x v) (hk : ∀ σ', XI D p q n0 n1 n m ek ef en σ' → XV D p q n0 n1 n m ek ef en (k v σ') w) : XV D p q n0 n1 n m ek ef en (bnd x k) w := by
  obtain ⟨r, σ', e, er, hX⟩ := h
  rw [e, bnd_some, er]
  exact hk σ' hX
theorem xv_mix {D : Sg} {p q n0 n1 n m : Nat} {ek ef : Nat → Int32} {en : Nat → Nat} {x : Option (Int32 × Sg)} {v : Int32} {hh : Int64} {k : Int64 → Sg → Option (Int64 × Sg)} {w : Int64} (h : XV D p q n0 n1 n m ek ef en x v) (hk : ∀ σ', XI D p q n0 n1 n m ek ef en σ' → XV D p q n0 n1 n m ek ef en (k (mx hh v) σ') w) : XV D p q n0 n1 n m ek ef en (bnd x (fun r σ => bnd (f_X9_mix σ hh r.toInt64) k)) w := xv_bnd h hk
theorem xv_mixl {D : Sg} {p q n0 n1 n m : Nat} {ek ef : Nat → Int32} {en : Nat → Nat} {x : Option (Int64 × Sg)} {v : Int64} {hh : Int64} {k : Int64 → Sg → Option (Int64 × Sg)} {w : Int64} (h : XV D p q n0 n1 n m ek ef en x v) (hk : ∀ σ', XI D p q n0 n1 n m ek ef en σ' → XV D p q n0 n1 n m ek ef en (k (mxl hh v) σ') w) : XV D p q n0 n1 n m ek ef en (bnd x (fun r σ => bnd (f_X9_mix σ hh r) k)) w := xv_bnd h hk
theorem mv_bnd {D : Sg} {p q n0 n1 n m : Nat} {ek ef : Nat → Int32} {en : Nat → Nat} {α β : Type} {x : Option (α × Sg)} {v : α} {k : α → Sg → Option (β × Sg)} {w : β} (h : MV D p q n0 n1 n m ek ef en x v) (hk : ∀ τ', MI D p q n0 n1 n m ek ef en τ' → MG D τ' p q → MV D p q n0 n1 n m ek ef en (k v τ') w) : MV D p q n0 n1 n m ek ef en (bnd x k) w := by
  obtain ⟨r, σ', e, er, hM, hG⟩ := h
  rw [e, bnd_some, er]
  exact hk σ' hM hG
theorem mv_mix {D : Sg} {p q n0 n1 n m : Nat} {ek ef : Nat → Int32} {en : Nat → Nat} {y : Option (Int32 × Sg)} {v : Int32} {hh : Int64} {k : Int64 → Sg → Option (Int64 × Sg)} {w : Int64} (h : MV D p q n0 n1 n m ek ef en y v) (hk : ∀ τ', MI D p q n0 n1 n m ek ef en τ' → MG D τ' p q → MV D p q n0 n1 n m ek ef en (k (mx hh v) τ') w) : MV D p q n0 n1 n m ek ef en (bnd y (fun r τ => amlet ((31 : Int64) * hh + r.toInt64) (fun v => k v τ))) w := mv_bnd h hk
theorem mv_mixl {D : Sg} {p q n0 n1 n m : Nat} {ek ef : Nat → Int32} {en : Nat → Nat} {y : Option (Int64 × Sg)} {v : Int64} {hh : Int64} {k : Int64 → Sg → Option (Int64 × Sg)} {w : Int64} (h : MV D p q n0 n1 n m ek ef en y v) (hk : ∀ τ', MI D p q n0 n1 n m ek ef en τ' → MG D τ' p q → MV D p q n0 n1 n m ek ef en (k (mxl hh v) τ') w) : MV D p q n0 n1 n m ek ef en (bnd y (fun r τ => amlet ((31 : Int64) * hh + r) (fun v => k v τ))) w := mv_bnd h hk
theorem mu_mix {D : Sg} {p q n0 n1 n m : Nat} {ek ef : Nat → Int32} {en : Nat → Nat} {y : Option (Int32 × Sg)} {v : Int32} {hh : Int64} {k : Int64 → Sg → Option (Int64 × Sg)} {w : Int64} (h : MU D p q n0 n1 n m ek ef en y v) (hk : ∀ τ', MI D p q n0 n1 n m ek ef en τ' → MV D p q n0 n1 n m ek ef en (k (mx hh v) τ') w) : MV D p q n0 n1 n m ek ef en (bnd y (fun r τ => amlet ((31 : Int64) * hh + r.toInt64) (fun v => k v τ))) w := by
  obtain ⟨r, σ', e, er, hM⟩ := h
  rw [e, bnd_some, er]
  exact hk σ' hM
theorem z01 : (0 : Int32) ≤ 0 ∧ (0 : Int32) < 2 := by decide
theorem z11 : (0 : Int32) ≤ 1 ∧ (1 : Int32) < 2 := by decide
/-- what a need brings, what one brings -/
noncomputable def dg_need (D : Sg) (p q n : Nat) (ek ef : Nat → Int32) (en : Nat → Nat) (k : Nat) (h : Int64) : Int64 := mxl (mxl (mx (fo (fun w v => mx v (vNeed D k (nI w))) h 3) ((RN D p q n ek ef en selT 24).2.2.1 k)) (vCh D p q n ek ef en 5 k 0)) (vCh D p q n ek ef en 5 k 1)
noncomputable def dg_at (D : Sg) (p q n : Nat) (ek ef : Nat → Int32) (en : Nat → Nat) (t k : Nat) (h : Int64) : Int64 := fo (fun w v => mx v (vAt D p q n ek ef en t k (nI w))) h 3
noncomputable def dg_nts (D : Sg) (p q n : Nat) (ek ef : Nat → Int32) (en : Nat → Nat) (k : Nat) (h : Int64) : Nat → Int64 := fo (fun i v => dg_at D p q n ek ef en (8 * i - 1) k v) h
noncomputable def dg_one (D : Sg) (p q n m : Nat) (ek ef : Nat → Int32) (en : Nat → Nat) (k : Nat) (h : Int64) : Int64 := mx (mx (mx (fo (fun w v => mx v (vLie D p q n ek ef en k (nI w))) (mx (dg_nts D p q n ek ef en k (fo (fun w v => mx v (vGone D k (nI w))) h 4) 4) (stS (RN D p q n ek ef en selT) (nI k))) 3) (bitS (fp6 D p q n m ek ef en k) 0 3)) (bitS (fp9 D p q n m ek ef en k) 1 9)) (vAsk D p q n m ek ef en k)
theorem mixNeed_x {D : Sg} {p q n0 n1 n m : Nat} {ek ef : Nat → Int32} {en : Nat → Nat} {σ : Sg} (h : XI D p q n0 n1 n m ek ef en σ) {k : Nat} (hk : k < q) (hh : Int64) : XV D p q n0 n1 n m ek ef en (f_X9_mixNeed σ hh (nI k)) (dg_need D p q n ek ef en k hh) := by
  have hp8 := h.1.sizes
  unfold f_X9_mixNeed
  refine i_X9_mixNeed_l6 3 (fun i σ2 x3 x4 x6 => x3 = nI k ∧ x4 = fo (fun w v => mx v (vNeed D k (nI w))) hh i ∧ x6 = nI i ∧ XI D p q n0 n1 n m ek ef en σ2) (fun σ2 x3 x4 x6 r => XV D p q n0 n1 n m ek ef en r _) ?_ 300 0 (by omega) (by omega) σ (nI k) hh 0 ⟨rfl, rfl, rfl, h⟩
  intro i k6 σ2 x3 x4 x6 hi hI ih
  obtain ⟨rfl, rfl, rfl, hX⟩ := hI
  unfold f_X9_mixNeed_b6
  rw [n_lit 3]
  rcases Nat.lt_or_ge i 3 with hlt | hge
  · rw [at_go hlt (by omega)]
    refine xv_mix (need_x hX hk (a := nI i) (of_below (N := 3) hlt (by omega))) (fun σ3 h3 => ?_)
    rw [amlet_eq, nI_1]
    exact ih _ _ _ _ hlt ⟨rfl, rfl, rfl, h3⟩
  · have e3 : i = 3 := by omega
    subst e3
    rw [at_end (Nat.le_refl _) (by omega)]
    refine xv_mix (met_x hX hk) (fun σ3 h3 => ?_)
    refine xv_mixl (chance_x h3 (c := 5) (by omega) hk (a := 0) z01) (fun σ4 h4 => ?_)
    refine xv_mixl (chance_x h4 (c := 5) (by omega) hk (a := 1) z11) (fun σ5 h5 => ?_)
    exact xv_some h5
theorem needDigest_m {D : Sg} {p q n0 n1 n m : Nat} {ek ef : Nat → Int32} {en : Nat → Nat} {τ : Sg} (h : MI D p q n0 n1 n m ek ef en τ) (hG : MG D τ p q) {k : Nat} (hk : k < q) (hh : Int64) : MV D p q n0 n1 n m ek ef en (f_X10_needDigest τ hh (nI k)) (dg_need D p q n ek ef en k hh) := by
  have hp8 := h.1.sizes
  unfold f_X10_needDigest
  refine i_X10_needDigest_l6 3 (fun i σ2 x3 x4 x6 => x3 = nI k ∧ x4 = fo (fun w v => mx v (vNeed D k (nI w))) hh i ∧ x6 = nI i ∧ MI D p q n0 n1 n m ek ef en σ2 ∧ MG D σ2 p q) (fun σ2 x3 x4 x6 r => MV D p q n0 n1 n m ek ef en r _) ?_ 300 0 (by omega) (by omega) τ (nI k) hh 0 ⟨rfl, rfl, rfl, h, hG⟩
  intro i k6 σ2 x3 x4 x6 hi hI ih
  obtain ⟨rfl, rfl, rfl, hM, hG⟩ := hI
  unfold f_X10_needDigest_b6
  rw [n_lit 3]
  rcases Nat.lt_or_ge i 3 with hlt | hge
  · rw [at_go hlt (by omega)]
    refine mv_mix (need_m hM hG hk (nI i)) (fun σ3 h3 g3 => ?_)
    rw [amlet_eq, nI_1]
    exact ih _ _ _ _ hlt ⟨rfl, rfl, rfl, h3, g3⟩
  · have e3 : i = 3 := by omega
    subst e3
    rw [at_end (Nat.le_refl _) (by omega)]
    refine mv_mix (met_m hM hk) (fun σ3 h3 g3 => ?_)
    refine mv_mixl (chance_m h3 (c := 5) (by omega) hk 0) (fun σ4 h4 g4 => ?_)
    refine mv_bnd (chance_m h4 (c := 5) (by omega) hk 1) (fun σ5 h5 g5 => ?_)
    exact mv_some h5 g5
theorem nightDigest_m {D : Sg} {p q n0 n1 n m : Nat} {ek ef : Nat → Int32} {en : Nat → Nat} {τ : Sg} (h : MI D p q n0 n1 n m ek ef en τ) (hG : MG D τ p q) {t k : Nat} (ht : t < 24) (hk : k < p) (hh : Int64) : MV D p q n0 n1 n m ek ef en (f_X10_nightDigest τ hh (nI t) (nI k)) (dg_at D p q n ek ef en t k hh) := by
  have hp8 := h.1.sizes
  unfold f_X10_nightDigest
  refine i_X10_nightDigest_l6 3 (fun i σ2 x3 x4 x5 x7 => x3 = nI t ∧ x4 = nI k ∧ x5 = fo (fun w v => mx v (vAt D p q n ek ef en t k (nI w))) hh i ∧ x7 = nI i ∧ MI D p q n0 n1 n m ek ef en σ2 ∧ MG D σ2 p q) (fun σ2 x3 x4 x5 x7 r => MV D p q n0 n1 n m ek ef en r _) ?_ 300 0 (by omega) (by omega) τ (nI t) (nI k) hh 0 ⟨rfl, rfl, rfl, rfl, h, hG⟩
  intro i k6 σ2 x3 x4 x5 x7 hi hI ih
  obtain ⟨rfl, rfl, rfl, rfl, hM, hG⟩ := hI
  unfold f_X10_nightDigest_b6
  rw [n_lit 3]
  rcases Nat.lt_or_ge i 3 with hlt | hge
  · rw [at_go hlt (by omega)]
    refine mv_mix (at_m hM ht hk (nI i)) (fun σ3 h3 g3 => ?_)
    rw [amlet_eq, nI_1]
    exact ih _ _ _ _ _ hlt ⟨rfl, rfl, rfl, rfl, h3, g3⟩
  · have e3 : i = 3 := by omega
    subst e3
    rw [at_end (Nat.le_refl _) (by omega)]
    exact mv_some hM hG
theorem goneDigest_m {D : Sg} {p q n0 n1 n m : Nat} {ek ef : Nat → Int32} {en : Nat → Nat} {τ : Sg} (h : MI D p q n0 n1 n m ek ef en τ) (hG : MG D τ p q) {k : Nat} (hk : k < p) (hh : Int64) : MV D p q n0 n1 n m ek ef en (f_X10_goneDigest τ hh (nI k)) (dg_one D p q n m ek ef en k hh) := by
  have hp8 := h.1.sizes
  generalize hW : dg_one D p q n m ek ef en k hh = Wv
  unfold f_X10_goneDigest
  refine i_X10_goneDigest_l6 4 (fun i σ2 x3 x4 x6 => x3 = nI k ∧ x4 = fo (fun w v => mx v (vGone D k (nI w))) hh i ∧ x6 = nI i ∧ MI D p q n0 n1 n m ek ef en σ2 ∧ MG D σ2 p q) (fun σ2 x3 x4 x6 r => MV D p q n0 n1 n m ek ef en r Wv) ?_ 300 0 (by omega) (by omega) τ (nI k) hh 0 ⟨rfl, rfl, rfl, h, hG⟩
  intro i k6 σ2 x3 x4 x6 hi hI ih
  obtain ⟨rfl, rfl, rfl, hM, hG⟩ := hI
  unfold f_X10_goneDigest_b6
  rw [n_lit 4]
  rcases Nat.lt_or_ge i 4 with hlt | hge
  · rw [at_go hlt (by omega)]
    refine mv_mix (gone_m hM hG hk (nI i)) (fun σ3 h3 g3 => ?_)
    rw [amlet_eq, nI_1]
    exact ih _ _ _ _ hlt ⟨rfl, rfl, rfl, h3, g3⟩
  · have e3 : i = 4 := by omega
    subst e3
    rw [at_end (Nat.le_refl _) (by omega)]
    refine mv_bnd (nightDigest_m hM hG (t := 0) (by omega) hk _) (fun σ3 h3 g3 => ?_)
    refine mv_bnd (nightDigest_m h3 g3 (t := 7) (by omega) hk _) (fun σ4 h4 g4 => ?_)
    refine mv_bnd (nightDigest_m h4 g4 (t := 15) (by omega) hk _) (fun σ5 h5 g5 => ?_)
    refine mv_bnd (nightDigest_m h5 g5 (t := 23) (by omega) hk _) (fun σ6 h6 g6 => ?_)
    refine mv_mix (stood_m h6 k) (fun σ7 h7 g7 => ?_)
    have e4 : ∀ x, dg_at D p q n ek ef en 23 k (dg_at D p q n ek ef en 15 k (dg_at D p q n ek ef en 7 k (dg_at D p q n ek ef en 0 k x))) = dg_nts D p q n ek ef en k x 4 := fun x => rfl
    rw [e4]
    generalize hx : mx (dg_nts D p q n ek ef en k (fo (fun w v => mx v (vGone D k (nI w))) hh 4) 4) (stS (RN D p q n ek ef en selT) (nI k)) = X
    have fin : Wv = mx (mx (mx (fo (fun w v => mx v (vLie D p q n ek ef en k (nI w))) X 3) (bitS (fp6 D p q n m ek ef en k) 0 3)) (bitS (fp9 D p q n m ek ef en k) 1 9)) (vAsk D p q n m ek ef en k) := by
      rw [← hW, ← hx]; rfl
    refine i_X10_goneDigest_l96 3 (fun i σ2 x3 x4 x6 => x3 = nI k ∧ x4 = fo (fun w v => mx v (vLie D p q n ek ef en k (nI w))) X i ∧ x6 = nI i ∧ MI D p q n0 n1 n m ek ef en σ2) (fun σ2 x3 x4 x6 r => MV D p q n0 n1 n m ek ef en r Wv) ?_ 300 0 (by omega) (by omega) σ7 (nI k) X 0 ⟨rfl, rfl, rfl, h7⟩
    intro i k96 σ2 x3 x4 x6 hi hI ih2
    obtain ⟨rfl, rfl, rfl, hM2⟩ := hI
    unfold f_X10_goneDigest_b96
    rw [n_lit 3]
    rcases Nat.lt_or_ge i 3 with hlt | hge
    · rw [at_go hlt (by omega)]
      refine mv_mix (lie_m hM2 hk (nI i)) (fun σ3 h3 g3 => ?_)
      rw [amlet_eq, nI_1]
      exact ih2 _ _ _ _ hlt ⟨rfl, rfl, rfl, h3⟩
    · have e3 : i = 3 := by omega
      subst e3
      rw [at_end (Nat.le_refl _) (by omega)]
      refine mv_mix (sorts_m hM2 hk) (fun σ3 h3 g3 => ?_)
      refine mv_mix (ret_mono (fars_m h3 hk) (fun _ _ b => ⟨b.1, b.2.1, b.2.2.1⟩)) (fun σ4 h4 g4 => ?_)
      refine mv_bnd (ask_m h4 hk) (fun σ5 h5 g5 => ?_)
      rw [fin]; exact mv_some h5 g5
theorem eighths : ∀ i, i < 4 → (if (0 : Int32) < ((8 : Int32) * nI i) - (1 : Int32) then ((8 : Int32) * nI i) - (1 : Int32) else (0 : Int32)) = nI (8 * i - 1) := by decide +kernel
theorem mixOne_x {D : Sg} {p q n0 n1 n m : Nat} {ek ef : Nat → Int32} {en : Nat → Nat} {σ : Sg} (h : XI D p q n0 n1 n m ek ef en σ) {k : Nat} (hk : k < p) (hh : Int64) : XV D p q n0 n1 n m ek ef en (f_X9_mixOne σ hh (nI k)) (dg_one D p q n m ek ef en k hh) := by
  have hp8 := h.1.sizes
  generalize hW : dg_one D p q n m ek ef en k hh = Wv
  unfold f_X9_mixOne
  refine i_X9_mixOne_l6 4 (fun i σ2 x3 x4 x6 => x3 = nI k ∧ x4 = fo (fun w v => mx v (vGone D k (nI w))) hh i ∧ x6 = nI i ∧ XI D p q n0 n1 n m ek ef en σ2) (fun σ2 x3 x4 x6 r => XV D p q n0 n1 n m ek ef en r Wv) ?_ 300 0 (by omega) (by omega) σ (nI k) hh 0 ⟨rfl, rfl, rfl, h⟩
  intro i k6 σ2 x3 x4 x6 hi hI ih
  obtain ⟨rfl, rfl, rfl, hX⟩ := hI
  unfold f_X9_mixOne_b6
  rw [n_lit 4]
  rcases Nat.lt_or_ge i 4 with hlt | hge
  · rw [at_go hlt (by omega)]
    refine xv_mix (gone_x hX hk (a := nI i) (of_below (N := 4) hlt (by omega))) (fun σ3 h3 => ?_)
    rw [amlet_eq, nI_1]
    exact ih _ _ _ _ hlt ⟨rfl, rfl, rfl, h3⟩
  · have e3 : i = 4 := by omega
    subst e3
    rw [at_end (Nat.le_refl _) (by omega)]
    generalize hy : fo (fun w v => mx v (vGone D k (nI w))) hh 4 = Y
    refine i_X9_mixOne_l36 4 (fun i σ2 x3 x4 x6 => x3 = nI k ∧ x4 = dg_nts D p q n ek ef en k Y i ∧ x6 = nI i ∧ XI D p q n0 n1 n m ek ef en σ2) (fun σ2 x3 x4 x6 r => XV D p q n0 n1 n m ek ef en r Wv) ?_ 300 0 (by omega) (by omega) σ2 (nI k) Y 0 ⟨rfl, rfl, rfl, hX⟩
    intro i k36 σ3 x3 x4 x6 hi hI ih2
    obtain ⟨rfl, rfl, rfl, hX3⟩ := hI
    unfold f_X9_mixOne_b36
    rcases Nat.lt_or_ge i 4 with hlt | hge
    · rw [if_neg (show ¬ (3 : Int32) < nI i by rw [n_lit 3, p_lt (by omega) (by omega)]; omega), amlet_eq, eighths i hlt]
      refine i_X9_mixOne_l58 k36 3 (fun j σ4 x3 x4 x6 x7 x8 => x3 = nI k ∧ x4 = fo (fun w v => mx v (vAt D p q n ek ef en (8 * i - 1) k (nI w))) (dg_nts D p q n ek ef en k Y i) j ∧ x6 = nI i ∧ x7 = nI (8 * i - 1) ∧ x8 = nI j ∧ XI D p q n0 n1 n m ek ef en σ4) (fun σ4 x3 x4 x6 x7 x8 r => XV D p q n0 n1 n m ek ef en r Wv) ?_ 300 0 (by omega) (by omega) σ3 (nI k) _ (nI i) _ 0 ⟨rfl, rfl, rfl, rfl, rfl, hX3⟩
      intro j k58 σ4 x3 x4 x6 x7 x8 hj hJ ih3
      obtain ⟨rfl, rfl, rfl, rfl, rfl, hX4⟩ := hJ
      unfold f_X9_mixOne_b58
      rw [n_lit 3]
      rcases Nat.lt_or_ge j 3 with hlt3 | hge3
      · rw [at_go hlt3 (by omega)]
        refine xv_mix (at_x hX4 (t := 8 * i - 1) (by omega) hk (a := nI j) (of_below (N := 3) hlt3 (by omega))) (fun σ5 h5 => ?_)
        rw [amlet_eq, nI_1]
        exact ih3 _ _ _ _ _ _ hlt3 ⟨rfl, rfl, rfl, rfl, rfl, h5⟩
      · have e3 : j = 3 := by omega
        subst e3
        rw [at_end (Nat.le_refl _) (by omega), amlet_eq, nI_1]
        exact ih2 _ _ _ _ hlt ⟨rfl, rfl, rfl, hX4⟩
    · have e3 : i = 4 := by omega
      subst e3
      rw [if_pos (show (3 : Int32) < nI 4 by decide)]
      refine xv_mix (stood_x hX3 hk) (fun σ4 h4 => ?_)
      refine xv_bnd (bestCell_x h4 hk) (fun σ5 h5 => ?_)
      generalize hx : mx (dg_nts D p q n ek ef en k Y 4) (stS (RN D p q n ek ef en selT) (nI k)) = X
      have fin : Wv = mx (mx (mx (fo (fun w v => mx v (vLie D p q n ek ef en k (nI w))) X 3) (bitS (fp6 D p q n m ek ef en k) 0 3)) (bitS (fp9 D p q n m ek ef en k) 1 9)) (vAsk D p q n m ek ef en k) := by
        rw [← hW, ← hx, ← hy]; rfl
      refine i_X9_mixOne_l116 3 (fun i σ2 x3 x4 x6 x7 => x3 = nI k ∧ x4 = fo (fun w v => mx v (vLie D p q n ek ef en k (nI w))) X i ∧ x6 = (lieS D p q n ek ef en k 36).1 ∧ x7 = nI i ∧ XI D p q n0 n1 n m ek ef en σ2) (fun σ2 x3 x4 x6 x7 r => XV D p q n0 n1 n m ek ef en r Wv) ?_ 300 0 (by omega) (by omega) σ5 (nI k) X _ 0 ⟨rfl, rfl, rfl, rfl, h5⟩
      intro i k116 σ6 x3 x4 x6 x7 hi hI ih4
      obtain ⟨rfl, rfl, rfl, rfl, hX6⟩ := hI
      unfold f_X9_mixOne_b116
      rw [n_lit 3]
      rcases Nat.lt_or_ge i 3 with hlt | hge
      · rw [at_go hlt (by omega)]
        refine xv_mix (tellCell_x hX6 hk (nI i)) (fun σ7 h7 => ?_)
        rw [amlet_eq, nI_1]
        exact ih4 _ _ _ _ _ hlt ⟨rfl, rfl, rfl, rfl, h7⟩
      · have e3 : i = 3 := by omega
        subst e3
        rw [at_end (Nat.le_refl _) (by omega)]
        refine xv_mix (was_x hX6 hk (a := 0) z01) (fun σ7 h7 => ?_)
        refine xv_mix (was_x h7 hk (a := 1) z11) (fun σ8 h8 => ?_)
        refine xv_mix (ask_x h8 hk) (fun σ9 h9 => ?_)
        have w0 : vWas D p q n m ek ef en k 0 = bitS (fp6 D p q n m ek ef en k) 0 3 := if_pos rfl
        have w1 : vWas D p q n m ek ef en k 1 = bitS (fp9 D p q n m ek ef en k) 1 9 := if_neg (by decide)
        rw [w0, w1]
        rw [fin]; exact xv_some h9
/-- the end of it, from the furrows on -/
noncomputable def dg_fur (D : Sg) (p q n : Nat) (ek ef : Nat → Int32) (en : Nat → Nat) (h : Int64) : Nat → Int64 := fo (fun y v => mx (mx v (bfS (fun t => mP D p q n ek ef en t (nI y)) (-1) 24).1) (bfS (fun t => mP D p q n ek ef en t (nI y)) (-1) 24).2) h
noncomputable def dg_pl (D : Sg) (p q n : Nat) (ek ef : Nat → Int32) (en : Nat → Nat) (a : Int32) : Int32 := if a = 0 then (bfS (fun y => mP D p q n ek ef en 8 (nI y)) (-1) 6).1 else (bfS (fun y => mP D p q n ek ef en 8 (nI y)) (-1) 6).2
noncomputable def dg_end (D : Sg) (p q n m : Nat) (ek ef : Nat → Int32) (en : Nat → Nat) (c a b : Nat) (h : Int64) : Int64 := mx (mx (mx (mx (mx (mx (mx (mx (mx (mx (mx h (vFirst (RN D p q n ek ef en selT 24).2.2.2.2 0)) (vFirst (RN D p q n ek ef en selT 24).2.2.2.2 1)) (gS (RN D p q n ek ef en selT 24).2.2.2.1 p).1) (rS (RN D p q n ek ef en selT 24).2.2.2.1 p)) (dg_pl D p q n ek ef en 0)) (dg_pl D p q n ek ef en 1)) (vSpare c a b (-1))) (vSpare c a b 0)) (bitS (nvP D p q n m ek ef en) 0 n)) (vYe D p q 7 6 0)) (vYe D p q 7 6 1)
theorem dgE_x {D : Sg} {p q n0 n1 n m : Nat} {ek ef : Nat → Int32} {en : Nat → Nat} {σ : Sg} (h : XI D p q n0 n1 n m ek ef en σ) {c a b : Nat} (hS : SP (gR D p q n ek ef en) n c a b) (hh : Int64) : XV D p q n0 n1 n m ek ef en (f_X9_digest_l139 300 σ hh (0 : Int32)) (dg_end D p q n m ek ef en c a b (dg_fur D p q n ek ef en hh 6)) := by
  have hp8 := h.1.sizes
  refine i_X9_digest_l139 6 (fun i σ2 x1 x3 => x1 = dg_fur D p q n ek ef en hh i ∧ x3 = nI i ∧ XI D p q n0 n1 n m ek ef en σ2) (fun σ2 x1 x3 r => XV D p q n0 n1 n m ek ef en r _) ?_ 300 0 (by omega) (by omega) σ hh 0 ⟨rfl, rfl, h⟩
  intro i k σ2 x1 x3 hi hI ih
  obtain ⟨rfl, rfl, hX⟩ := hI
  unfold f_X9_digest_b139
  rw [n_lit 6]
  rcases Nat.lt_or_ge i 6 with hlt | hge
  · rw [at_go hlt (by omega)]
    obtain ⟨r, σ3, e, er, h3⟩ := bestNight_x hX i
    obtain ⟨j, hj, ej⟩ := bfS_at (f := fun t => mP D p q n ek ef en t (nI i)) (-1) (mP_pos D p q n ek ef en 0 (nI i) hp8.2) 23
    have er2 : r = nI j := by
      rw [er, bfS_same 0 (-1) (mP_pos D p q n ek ef en 0 (nI i) hp8.2) 23, ej]
    rw [e, bnd_some, er2, mix_b]
    refine xv_mix (metP_x h3 (show j < 24 by omega) (nI i)) (fun σ4 h4 => ?_)
    rw [amlet_eq, nI_1]
    refine ih _ _ _ hlt ⟨?_, rfl, h4⟩
    show _ = mx (mx (dg_fur D p q n ek ef en hh i) (bfS (fun t => mP D p q n ek ef en t (nI i)) (-1) (23 + 1)).1) (bfS (fun t => mP D p q n ek ef en t (nI i)) (-1) (23 + 1)).2
    rw [ej]
  · have e3 : i = 6 := by omega
    subst e3
    rw [at_end (Nat.le_refl _) (by omega)]
    refine xv_mix (first_x hX (a := 0) z01) (fun σ3 h3 => ?_)
    refine xv_mix (first_x h3 (a := 1) z11) (fun σ4 h4 => ?_)
    refine xv_mix (gate_x h4) (fun σ5 h5 => ?_)
    refine xv_mix (rest_x h5) (fun σ6 h6 => ?_)
    refine xv_mix (plough_x h6 (t := 8) (by omega) (a := 0) z01) (fun σ7 h7 => ?_)
    refine xv_mix (plough_x h7 (t := 8) (by omega) (a := 1) z11) (fun σ8 h8 => ?_)
    refine xv_mix (spare_x h8 hS (i := -1) (Or.inl rfl)) (fun σ9 h9 => ?_)
    refine xv_mix (spare_x h9 hS (i := 0) (Or.inr (Or.inl rfl))) (fun σ10 h10 => ?_)
    refine xv_mix (never_x h10) (fun σ11 h11 => ?_)
    refine xv_mix (years_x h11 7 (N := 6) (by omega) (a := 0) z01) (fun σ12 h12 => ?_)
    refine xv_mix (years_x h12 7 (N := 6) (by omega) (a := 1) z11) (fun σ13 h13 => ?_)
    exact xv_some h13
theorem dgE_m {D : Sg} {p q n0 n1 n m : Nat} {ek ef : Nat → Int32} {en : Nat → Nat} {τ : Sg} (h : MI D p q n0 n1 n m ek ef en τ) {c a b : Nat} (hS : SP (gR D p q n ek ef en) n c a b) (hh : Int64) : MV D p q n0 n1 n m ek ef en (f_X10_digest_l147 300 τ hh (0 : Int32)) (dg_end D p q n m ek ef en c a b (dg_fur D p q n ek ef en hh 6)) := by
  have hp8 := h.1.sizes
  refine i_X10_digest_l147 6 (fun i σ2 x1 x3 => x1 = dg_fur D p q n ek ef en hh i ∧ x3 = nI i ∧ MI D p q n0 n1 n m ek ef en σ2) (fun σ2 x1 x3 r => MV D p q n0 n1 n m ek ef en r _) ?_ 300 0 (by omega) (by omega) τ hh 0 ⟨rfl, rfl, h⟩
  intro i k σ2 x1 x3 hi hI ih
  obtain ⟨rfl, rfl, hM⟩ := hI
  unfold f_X10_digest_b147
  rw [n_lit 6]
  rcases Nat.lt_or_ge i 6 with hlt | hge
  · rw [at_go hlt (by omega)]
    refine mv_mix (when_m hM i 0) (fun σ3 h3 g3 => ?_)
    refine mv_mix (when_m h3 i 1) (fun σ4 h4 g4 => ?_)
    rw [amlet_eq, nI_1]
    refine ih _ _ _ hlt ⟨?_, rfl, h4⟩
    have i0 : ∀ x y : Int32, (if (0 : Int32) = 0 then x else y) = x := fun x y => if_pos rfl
    have i1 : ∀ x y : Int32, (if (1 : Int32) = 0 then x else y) = y := fun x y => if_neg (by decide)
    rw [i0, i1]
    rfl
  · have e3 : i = 6 := by omega
    subst e3
    rw [at_end (Nat.le_refl _) (by omega)]
    refine mv_mix (first_m hM 0) (fun σ3 h3 _ => ?_)
    refine mv_mix (first_m h3 1) (fun σ4 h4 _ => ?_)
    refine mv_mix (gate_m h4) (fun σ5 h5 _ => ?_)
    refine mv_mix (rest_m h5) (fun σ6 h6 _ => ?_)
    refine mv_mix (plough_m h6 (t := 8) (by omega) 0) (fun σ7 h7 _ => ?_)
    refine mv_mix (plough_m h7 (t := 8) (by omega) 1) (fun σ8 h8 _ => ?_)
    obtain ⟨r, σ9, e, er, h9, g9, hR⟩ := spareBy_v h8 hS
    rw [e, bnd_some, er, amlet_eq, mx_f, ofRow_eq hR (SP_le hS) (i := 0) (Or.inr (Or.inl rfl)), bnd_some, amlet_eq, mx_f, ← (show vSpare c a b (-1) = (if c = 3 then -1 else nI c) from if_pos rfl)]
    refine mv_mix (never_m h9) (fun σ10 h10 _ => ?_)
    refine mv_mix (years_m h10 7 (N := 6) (by omega) 0) (fun σ11 h11 _ => ?_)
    refine mv_bnd (years_m h11 7 (N := 6) (by omega) 1) (fun σ12 h12 g12 => ?_)
    exact mv_some h12 g12
/-- all of it -/
noncomputable def dg_ups (D : Sg) (p q n : Nat) (ek ef : Nat → Int32) (en : Nat → Nat) (h : Int64) : Nat → Int64 := fo (fun t v => mx (mx v (vUp D p q n ek ef en t 0)) (vUp D p q n ek ef en t 1)) h
noncomputable def dg_needs (D : Sg) (p q n : Nat) (ek ef : Nat → Int32) (en : Nat → Nat) (h : Int64) : Nat → Int64 := fo (fun k v => dg_need D p q n ek ef en k v) h
noncomputable def dg_ones (D : Sg) (p q n m : Nat) (ek ef : Nat → Int32) (en : Nat → Nat) (h : Int64) : Nat → Int64 := fo (fun k v => dg_one D p q n m ek ef en k v) h
noncomputable def dg_cnt (D : Sg) (p q n0 n1 n m : Nat) (ek ef : Nat → Int32) (en : Nat → Nat) : Nat → Int64 := fo (fun w v => mx v (vCount D p q n0 n1 n m ek ef en (nI w))) (17 : Int64)
noncomputable def dg_all (D : Sg) (p q n0 n1 n m : Nat) (ek ef : Nat → Int32) (en : Nat → Nat) (c a b : Nat) : Int64 := dg_end D p q n m ek ef en c a b (dg_fur D p q n ek ef en (dg_ups D p q n ek ef en (dg_ones D p q n m ek ef en (dg_needs D p q n ek ef en (mx (mx (dg_cnt D p q n0 n1 n m ek ef en 8) (if (0 : Int32) = 0 then D 5 2 else D 10 2)) (if (1 : Int32) = 0 then D 5 2 else D 10 2)) q) p) 24) 6)
theorem digest_x {D : Sg} {p q n0 n1 n m : Nat} {ek ef : Nat → Int32} {en : Nat → Nat} {σ : Sg} (h : XI D p q n0 n1 n m ek ef en σ) {c a b : Nat} (hS : SP (gR D p q n ek ef en) n c a b) : XV D p q n0 n1 n m ek ef en (f_X9_digest σ) (dg_all D p q n0 n1 n m ek ef en c a b) := by
  have hp8 := h.1.sizes
  unfold f_X9_digest
  refine i_X9_digest_l6 8 (fun i σ2 x1 x3 => x1 = dg_cnt D p q n0 n1 n m ek ef en i ∧ x3 = nI i ∧ XI D p q n0 n1 n m ek ef en σ2) (fun σ2 x1 x3 r => XV D p q n0 n1 n m ek ef en r _) ?_ 300 0 (by omega) (by omega) σ 17 0 ⟨rfl, rfl, h⟩
  intro i k σ2 x1 x3 hi hI ih
  obtain ⟨rfl, rfl, hX⟩ := hI
  unfold f_X9_digest_b6
  rw [n_lit 8]
  rcases Nat.lt_or_ge i 8 with hlt | hge
  · rw [at_go hlt (by omega)]
    refine xv_mix (count_x hX (nI i)) (fun σ3 h3 => ?_)
    rw [amlet_eq, nI_1]
    exact ih _ _ _ hlt ⟨rfl, rfl, h3⟩
  have e3 : i = 8 := by omega
  subst e3
  rw [at_end (Nat.le_refl _) (by omega)]
  refine xv_mix (fault_x hX (a := 0) z01) (fun σ3 h3 => ?_)
  refine xv_mix (fault_x h3 (a := 1) z11) (fun σ4 h4 => ?_)
  unfold dg_all
  generalize mx (mx (dg_cnt D p q n0 n1 n m ek ef en 8) (if (0 : Int32) = 0 then D 5 2 else D 10 2)) (if (1 : Int32) = 0 then D 5 2 else D 10 2) = X0
  refine i_X9_digest_l51 q (fun i σ2 x1 x3 => x1 = dg_needs D p q n ek ef en X0 i ∧ x3 = nI i ∧ XI D p q n0 n1 n m ek ef en σ2) (fun σ2 x1 x3 r => XV D p q n0 n1 n m ek ef en r _) ?_ 300 0 (by omega) (by omega) σ4 X0 0 ⟨rfl, rfl, h4⟩
  intro i k σ5 x1 x3 hi hI ih
  obtain ⟨rfl, rfl, hX⟩ := hI
  unfold f_X9_digest_b51
  rw [hX.h10]
  rcases Nat.lt_or_ge i q with hlt | hge
  · rw [at_go hlt (by omega)]
    refine xv_bnd (mixNeed_x hX hlt _) (fun σ3 h3 => ?_)
    rw [amlet_eq, nI_1]
    exact ih _ _ _ hlt ⟨rfl, rfl, h3⟩
  have e3 : i = q := by omega
  subst e3
  rw [at_end (Nat.le_refl _) (by omega)]
  generalize dg_needs D p i n ek ef en X0 i = X1
  refine i_X9_digest_l77 p (fun j σ2 x1 x3 => x1 = dg_ones D p i n m ek ef en X1 j ∧ x3 = nI j ∧ XI D p i n0 n1 n m ek ef en σ2) (fun σ2 x1 x3 r => XV D p i n0 n1 n m ek ef en r _) ?_ 300 0 (by omega) (by omega) σ5 X1 0 ⟨rfl, rfl, hX⟩
  intro j k σ6 x1 x3 hj hI ih
  obtain ⟨rfl, rfl, hX⟩ := hI
  unfold f_X9_digest_b77
  rw [hX.h5]
  rcases Nat.lt_or_ge j p with hlt | hge
  · rw [at_go hlt (by omega)]
    refine xv_bnd (mixOne_x hX hlt _) (fun σ3 h3 => ?_)
    rw [amlet_eq, nI_1]
    exact ih _ _ _ hlt ⟨rfl, rfl, h3⟩
  have e3 : j = p := by omega
  rw [e3, at_end (Nat.le_refl _) (by omega)]
  generalize dg_ones D p i n m ek ef en X1 p = X2
  refine i_X9_digest_l103 24 (fun t σ2 x1 x3 => x1 = dg_ups D p i n ek ef en X2 t ∧ x3 = nI t ∧ XI D p i n0 n1 n m ek ef en σ2) (fun σ2 x1 x3 r => XV D p i n0 n1 n m ek ef en r _) ?_ 300 0 (by omega) (by omega) σ6 X2 0 ⟨rfl, rfl, hX⟩
  intro t k σ7 x1 x3 ht hI ih
  obtain ⟨rfl, rfl, hX⟩ := hI
  unfold f_X9_digest_b103
  rw [n_lit 24]
  rcases Nat.lt_or_ge t 24 with hlt | hge
  · rw [at_go hlt (by omega)]
    refine xv_mix (up_x hX hlt (a := 0) z01) (fun σ3 h3 => ?_)
    refine xv_mix (up_x h3 hlt (a := 1) z11) (fun σ4 h4 => ?_)
    rw [amlet_eq, nI_1]
    exact ih _ _ _ hlt ⟨rfl, rfl, h4⟩
  have e3 : t = 24 := by omega
  subst e3
  rw [at_end (Nat.le_refl _) (by omega)]
  exact dgE_x hX hS _
theorem digest_m {D : Sg} {p q n0 n1 n m : Nat} {ek ef : Nat → Int32} {en : Nat → Nat} {τ : Sg} (h : MI D p q n0 n1 n m ek ef en τ) {c a b : Nat} (hS : SP (gR D p q n ek ef en) n c a b) : MV D p q n0 n1 n m ek ef en (f_X10_digest τ) (dg_all D p q n0 n1 n m ek ef en c a b) := by
  have hp8 := h.1.sizes
  unfold f_X10_digest
  refine i_X10_digest_l6 8 (fun i σ2 x1 x3 => x1 = dg_cnt D p q n0 n1 n m ek ef en i ∧ x3 = nI i ∧ MI D p q n0 n1 n m ek ef en σ2) (fun σ2 x1 x3 r => MV D p q n0 n1 n m ek ef en r _) ?_ 300 0 (by omega) (by omega) τ 17 0 ⟨rfl, rfl, h⟩
  intro i k σ2 x1 x3 hi hI ih
  obtain ⟨rfl, rfl, hM⟩ := hI
  unfold f_X10_digest_b6
  rw [n_lit 8]
  rcases Nat.lt_or_ge i 8 with hlt | hge
  · rw [at_go hlt (by omega)]
    refine mu_mix (ret_mono (count_m hM (nI i)) (fun _ _ b => ⟨b.1, b.2.1⟩)) (fun σ3 h3 => ?_)
    rw [amlet_eq, nI_1]
    exact ih _ _ _ hlt ⟨rfl, rfl, h3⟩
  have e3 : i = 8 := by omega
  subst e3
  rw [at_end (Nat.le_refl _) (by omega)]
  refine mv_mix (fault_m hM 0) (fun σ3 h3 _ => ?_)
  refine mv_mix (fault_m h3 1) (fun σ4 h4 g4 => ?_)
  unfold dg_all
  generalize mx (mx (dg_cnt D p q n0 n1 n m ek ef en 8) (if (0 : Int32) = 0 then D 5 2 else D 10 2)) (if (1 : Int32) = 0 then D 5 2 else D 10 2) = X0
  refine i_X10_digest_l59 q (fun i σ2 x1 x3 => x1 = dg_needs D p q n ek ef en X0 i ∧ x3 = nI i ∧ MI D p q n0 n1 n m ek ef en σ2 ∧ MG D σ2 p q) (fun σ2 x1 x3 r => MV D p q n0 n1 n m ek ef en r _) ?_ 300 0 (by omega) (by omega) σ4 X0 0 ⟨rfl, rfl, h4, g4⟩
  intro i k σ5 x1 x3 hi hI ih
  obtain ⟨rfl, rfl, hM, hG⟩ := hI
  unfold f_X10_digest_b59
  rw [hG.2.1]
  rcases Nat.lt_or_ge i q with hlt | hge
  · rw [at_go hlt (by omega)]
    refine mv_bnd (needDigest_m hM hG hlt _) (fun σ3 h3 g3 => ?_)
    rw [amlet_eq, nI_1]
    exact ih _ _ _ hlt ⟨rfl, rfl, h3, g3⟩
  have e3 : i = q := by omega
  subst e3
  rw [at_end (Nat.le_refl _) (by omega)]
  generalize dg_needs D p i n ek ef en X0 i = X1
  refine i_X10_digest_l82 p (fun j σ2 x1 x3 => x1 = dg_ones D p i n m ek ef en X1 j ∧ x3 = nI j ∧ MI D p i n0 n1 n m ek ef en σ2 ∧ MG D σ2 p i) (fun σ2 x1 x3 r => MV D p i n0 n1 n m ek ef en r _) ?_ 300 0 (by omega) (by omega) σ5 X1 0 ⟨rfl, rfl, hM, hG⟩
  intro j k σ6 x1 x3 hj hI ih
  obtain ⟨rfl, rfl, hM, hG⟩ := hI
  unfold f_X10_digest_b82
  rw [hG.1]
  rcases Nat.lt_or_ge j p with hlt | hge
  · rw [at_go hlt (by omega)]
    refine mv_bnd (goneDigest_m hM hG hlt _) (fun σ3 h3 g3 => ?_)
    rw [amlet_eq, nI_1]
    exact ih _ _ _ hlt ⟨rfl, rfl, h3, g3⟩
  have e3 : j = p := by omega
  rw [e3, at_end (Nat.le_refl _) (by omega)]
  generalize dg_ones D p i n m ek ef en X1 p = X2
  refine i_X10_digest_l105 24 (fun t σ2 x1 x3 => x1 = dg_ups D p i n ek ef en X2 t ∧ x3 = nI t ∧ MI D p i n0 n1 n m ek ef en σ2) (fun σ2 x1 x3 r => MV D p i n0 n1 n m ek ef en r _) ?_ 300 0 (by omega) (by omega) σ6 X2 0 ⟨rfl, rfl, hM⟩
  intro t k σ7 x1 x3 ht hI ih
  obtain ⟨rfl, rfl, hM⟩ := hI
  unfold f_X10_digest_b105
  rw [n_lit 24]
  rcases Nat.lt_or_ge t 24 with hlt | hge
  · rw [at_go hlt (by omega)]
    refine mv_mix (up_m hM hlt 0) (fun σ3 h3 _ => ?_)
    refine mv_mix (up_m h3 hlt 1) (fun σ4 h4 _ => ?_)
    rw [amlet_eq, nI_1]
    exact ih _ _ _ hlt ⟨rfl, rfl, h4⟩
  have e3 : t = 24 := by omega
  subst e3
  rw [at_end (Nat.le_refl _) (by omega)]
  exact dgE_m hM hS _
theorem ag_digest {D : Sg} {p q n0 n1 n m : Nat} {ek ef : Nat → Int32} {en : Nat → Nat} {σ τ : Sg} (h : XI D p q n0 n1 n m ek ef en σ) (g : MI D p q n0 n1 n m ek ef en τ) : Agr (f_X9_digest σ) (f_X10_digest τ) := by
  obtain ⟨r0, σ0, -, -, c, a, b, hS, -⟩ := spareEvents_x h
  exact agr_of (digest_x h hS) (digest_m g hS).u
