/-! the course of nights: the class's steps -/
/-- what the gone and the needs are, in their cells -/
def DOK (D : Sg) (p q : Nat) : Prop := p ≤ 8 ∧ q ≤ 8 ∧ D 5 1 = nI p ∧ D 10 1 = nI q ∧
  (∀ k, k < p → (D 6 k = 0 ∨ D 6 k = 1 ∨ D 6 k = 2) ∧ (∃ x, x < 6 ∧ D 7 k = nI x) ∧ (∃ y, y < 6 ∧ D 8 k = nI y) ∧ (∃ f, 1 ≤ f ∧ f ≤ 9 ∧ D 9 k = nI f)) ∧
  (∀ k, k < q → (∃ w, w < 8 ∧ D 11 k = nI w) ∧ (∃ t, t < 24 ∧ D 12 k = nI t) ∧ (∃ m, 1 ≤ m ∧ m ≤ 9 ∧ D 13 k = nI m))
def wt (D : Sg) (k : Nat) (t : Int32) : Int32 := if 9 ≤ (D 13 k + t) - D 12 k then 9 else (D 13 k + t) - D 12 k
def wantS (D : Sg) (op : Nat → Prop) [DecidablePred op] (one t : Int32) : Nat → Int32
  | 0 => 0
  | k + 1 => wantS D op one t k + (if D 11 k = one ∧ op k then wt D k t else 0)
theorem weightOn_eq {σ : Sg} {k : Nat} (hk : k < 8) (t : Int32) : f_X4_weightOn σ (nI k) t = some (wt σ k t, σ) := by
  unfold f_X4_weightOn
  rw [gd_in hk (by omega), gd_in hk (by omega), amlet_eq, cl_nI (by omega)]
  unfold wt
  by_cases h : 9 ≤ (σ 13 k + t) - σ 12 k
  · rw [if_pos h, if_pos h]
  · rw [if_neg h, if_neg h]
abbrev opAt (D : Sg) (met : Nat → Int32) (t : Int32) : Nat → Prop := fun k => D 12 k ≤ t ∧ met k = -1
theorem weigh_ok {σ : Sg} {p q c0 : Nat} (hD : DOK σ p q) (hc : 28 ≤ c0) (t : Int32) : Ret (f_X0_weighNeeds c0 σ t) (fun _ σ' => (∀ c, c ≠ c0 + 2 → σ' c = σ c) ∧ ∀ one, one < 8 → σ' (c0 + 2) one = wantS σ (opAt σ (σ (c0 + 1)) t) (nI one) t q) := by
  obtain ⟨hp, hq, -, hq1, -, hn⟩ := hD
  unfold f_X0_weighNeeds
  have inner : ∀ σ1 : Sg, (∀ c, c ≠ c0 + 2 → σ1 c = σ c) → (∀ j, j < 8 → σ1 (c0 + 2) j = 0) → Ret (f_X0_weighNeeds_l23 c0 300 σ1 t (0 : Int32)) (fun _ σ' => (∀ c, c ≠ c0 + 2 → σ' c = σ c) ∧ ∀ one, one < 8 → σ' (c0 + 2) one = wantS σ (opAt σ (σ (c0 + 1)) t) (nI one) t q) := by
    intro σ1 h1 h2
    refine i_X0_weighNeeds_l23 c0 q (fun i σ2 x2 x3 => x2 = t ∧ x3 = nI i ∧ (∀ c, c ≠ c0 + 2 → σ2 c = σ c) ∧ ∀ one, one < 8 → σ2 (c0 + 2) one = wantS σ (opAt σ (σ (c0 + 1)) t) (nI one) t i) (fun σ2 x2 x3 r => Ret r _) ?_ 300 0 (by omega) (by omega) σ1 t 0 ⟨rfl, rfl, h1, fun one h => by rw [h2 one h]; rfl⟩
    intro i k σ2 x2 x3 hi hI ih
    obtain ⟨rfl, rfl, hs, hw⟩ := hI
    unfold f_X0_weighNeeds_b23 f_X0_weighNeeds_b71
    rw [hs 10 (by omega), hq1]
    rcases Nat.lt_or_ge i q with hlt | hge
    · rw [at_go hlt (by omega), gd_in (by omega) (by omega), cl_nI (by omega), hs 11 (by omega), hs 12 (by omega), hs (c0 + 1) (by omega)]
      obtain ⟨⟨w, hw8, ew⟩, -, -⟩ := hn i hlt
      rw [ew]
      simp only [amlet_eq, nI_1]
      have stay : ¬ (σ 12 i ≤ x2 ∧ σ (c0 + 1) i = -1) → Ret (k σ2 x2 (nI (i + 1))) (fun _ σ' => (∀ c, c ≠ c0 + 2 → σ' c = σ c) ∧ ∀ one, one < 8 → σ' (c0 + 2) one = wantS σ (opAt σ (σ (c0 + 1)) x2) (nI one) x2 q) := by
        intro hno
        refine ih σ2 x2 (nI (i + 1)) hlt ⟨rfl, rfl, hs, fun one h1 => ?_⟩
        rw [hw one h1]
        show _ = wantS σ _ (nI one) x2 i + _
        rw [if_neg (fun q => hno ⟨q.2.1, q.2.2⟩)]
        simp
      by_cases hm : σ (c0 + 1) i = (-1 : Int32)
      · rw [if_pos hm, gd_in (by omega) (by omega)]
        by_cases ht : x2 < σ 12 i
        · rw [if_pos ht]
          exact stay (fun q => by have := q.1; grind)
        · rw [if_neg ht, gd_in (by omega) (by omega), gd_in hw8 (by omega), weightOn_eq (by omega), bnd_some, gd_in hw8 (by omega), cl_nI (by omega)]
          refine ih _ x2 (nI (i + 1)) hlt ⟨rfl, rfl, fun c hc2 => by rw [up2_off hc2]; exact hs c hc2, fun one h1 => ?_⟩
          rw [up2_at]
          show _ = wantS σ _ (nI one) x2 i + _
          have ewt : wt σ2 i x2 = wt σ i x2 := by unfold wt; rw [hs 13 (by omega), hs 12 (by omega)]
          by_cases ho : one = w
          · subst ho
            rw [upd_at, hw one h1, ewt, if_pos ⟨ew, by grind, hm⟩]
          · rw [upd_off ho, hw one h1, if_neg (fun q => ho (by have := q.1; rw [ew, p_eq (by omega) (by omega)] at this; exact this.symm))]
            simp
      · rw [if_neg hm]
        exact stay (fun q => hm q.2)
    · have e : i = q := by omega
      subst e
      rw [at_end (Nat.le_refl _) (by omega)]
      exact ret_some.mpr ⟨hs, hw⟩
  refine i_X0_weighNeeds_l2 c0 8 (fun i σ2 x2 x3 => x2 = t ∧ x3 = nI i ∧ (∀ c, c ≠ c0 + 2 → σ2 c = σ c) ∧ ∀ j, j < i → σ2 (c0 + 2) j = 0) (fun σ2 x2 x3 r => Ret r _) ?_ 300 0 (by omega) (by omega) σ t 0 ⟨rfl, rfl, fun _ _ => rfl, fun j h => absurd h (Nat.not_lt_zero _)⟩
  intro i k σ2 x2 x3 hi hI ih
  obtain ⟨rfl, rfl, hs, hz⟩ := hI
  unfold f_X0_weighNeeds_b2
  rw [n_lit 8]
  rcases Nat.lt_or_ge i 8 with hlt | hge
  · rw [at_go hlt (by omega), gd_in hlt (by omega), cl_nI (by omega)]
    simp only [amlet_eq, nI_1]
    refine ih _ x2 _ hlt ⟨rfl, rfl, fun c hc2 => by rw [up2_off hc2]; exact hs c hc2, fun j hj => ?_⟩
    rw [up2_at]
    by_cases e : j = i
    · subst e; rw [upd_at]
    · rw [upd_off e]; exact hz j (by omega)
  · have e : i = 8 := by omega
    subst e
    rw [at_end (Nat.le_refl _) (by omega)]
    exact inner σ2 hs hz

def pullS (D : Sg) (wanted times : Nat → Int32) (k : Nat) : Int32 := if D 6 k = 0 then wanted k - D 9 k / 2 else if D 6 k = 1 then wanted k - D 9 k else times k
theorem pullOf_eq {σ : Sg} {c0 k : Nat} (hk : k < 8) : f_X0_pullOf c0 σ (nI k) = some (pullS σ (σ (c0 + 2)) (σ (c0 + 3)) k, σ) := by
  unfold f_X0_pullOf pullS
  simp only [gd_in hk (show 8 < 2 ^ 31 by omega), cl_nI (show k < 2147483648 by omega)]
  by_cases h : σ 6 k = 0
  · rw [if_pos h, if_pos h]
  · rw [if_neg h, if_neg h]
    by_cases h1 : σ 6 k = 1
    · rw [if_pos h1, if_pos h1]
    · rw [if_neg h1, if_neg h1]
/-- whether one lies in the furrow -/
abbrev liesIn (D : Sg) (up fur : Int32) (k : Nat) : Prop := D 8 k = fur ∧ ((up >>> (nI k &&& 31)) &&& 1) = 0
def bestS (D : Sg) (wanted times : Nat → Int32) (up fur : Int32) : Nat → Int32 × Int32
  | 0 => (-1, 0)
  | k + 1 =>
    if liesIn D up fur k then
      (if (bestS D wanted times up fur k).1 = -1 then (if pullS D wanted times k < 0 then bestS D wanted times up fur k else (nI k, pullS D wanted times k))
       else if (bestS D wanted times up fur k).2 < pullS D wanted times k then (nI k, pullS D wanted times k)
       else if pullS D wanted times k = (bestS D wanted times up fur k).2 then (if D 7 (bestS D wanted times up fur k).1.toNatClampNeg ≤ D 7 k then bestS D wanted times up fur k else (nI k, pullS D wanted times k))
       else bestS D wanted times up fur k)
    else bestS D wanted times up fur k
theorem bestS_in (D : Sg) (wanted times : Nat → Int32) (up fur : Int32) : ∀ k, (bestS D wanted times up fur k).1 = -1 ∨ ∃ j, j < k ∧ (bestS D wanted times up fur k).1 = nI j
  | 0 => Or.inl rfl
  | k + 1 => by
    have ih := bestS_in D wanted times up fur k
    have ih2 : (bestS D wanted times up fur k).1 = -1 ∨ ∃ j, j < k + 1 ∧ (bestS D wanted times up fur k).1 = nI j := ih.imp id (fun ⟨j, h, e⟩ => ⟨j, by omega, e⟩)
    have new : ((nI k, pullS D wanted times k) : Int32 × Int32).1 = -1 ∨ ∃ j, j < k + 1 ∧ ((nI k, pullS D wanted times k) : Int32 × Int32).1 = nI j := Or.inr ⟨k, by omega, rfl⟩
    unfold bestS
    repeat' split
    all_goals first | exact ih2 | exact new
theorem strongest_eq {σ : Sg} {p q c0 : Nat} (hD : DOK σ p q) (fur : Int32) : f_X0_strongestIn c0 σ fur = some ((bestS σ (σ (c0 + 2)) (σ (c0 + 3)) (σ c0 8) fur p).1, σ) := by
  obtain ⟨hp, -, hp1, -, -, -⟩ := hD
  unfold f_X0_strongestIn
  generalize hB : bestS σ (σ (c0 + 2)) (σ (c0 + 3)) (σ c0 8) fur = B
  have hin := bestS_in σ (σ (c0 + 2)) (σ (c0 + 3)) (σ c0 8) fur
  rw [hB] at hin
  refine i_X0_strongestIn_l8 c0 p (fun i σ2 x2 x3 x4 x5 => σ2 = σ ∧ x2 = fur ∧ x3 = (B i).1 ∧ x4 = (B i).2 ∧ x5 = nI i) (fun σ2 x2 x3 x4 x5 r => r = some ((B p).1, σ)) ?_ 300 0 (by omega) (by omega) σ fur (-1) 0 0 ⟨rfl, rfl, by rw [← hB]; rfl, by rw [← hB]; rfl, rfl⟩
  intro i k σ2 x2 x3 x4 x5 hi hI ih
  obtain ⟨rfl, rfl, rfl, rfl, rfl⟩ := hI
  unfold f_X0_strongestIn_b8 f_X0_strongestIn_b97 f_X0_strongestIn_b101 f_X0_strongestIn_b102 f_X0_strongestIn_b116
  rw [hp1]
  rcases Nat.lt_or_ge i p with hlt | hge
  · rw [at_go hlt (by omega), gd_in (by omega) (by omega), cl_nI (by omega)]
    simp only [amlet_eq, nI_1]
    have go : ∀ b : Int32 × Int32, B (i + 1) = b → k σ2 x2 b.1 b.2 (nI (i + 1)) = some ((B p).1, σ2) := fun b hb => ih σ2 x2 b.1 b.2 (nI (i + 1)) hlt ⟨rfl, rfl, by rw [hb], by rw [hb], rfl⟩
    have hs : B (i + 1) = bestS σ2 (σ2 (c0 + 2)) (σ2 (c0 + 3)) (σ2 c0 8) x2 (i + 1) := by rw [hB]
    unfold bestS at hs
    rw [hB] at hs
    by_cases hy : σ2 8 i = x2
    · rw [if_pos hy]
      by_cases hu : ((σ2 c0 8 >>> (nI i &&& 31)) &&& 1) = 0
      · rw [if_pos hu, pullOf_eq (by omega), bnd_some]
        rw [if_pos ⟨hy, hu⟩] at hs
        by_cases hb : (B i).1 = -1
        · rw [if_pos hb]
          rw [if_pos hb] at hs
          by_cases hn : pullS σ2 (σ2 (c0 + 2)) (σ2 (c0 + 3)) i < 0
          · rw [if_pos hn] at hs ⊢
            rw [if_pos trivial]
            exact go _ hs
          · rw [if_neg hn] at hs ⊢
            rw [if_neg (by decide)]
            exact go _ hs
        · rw [if_neg hb]
          rw [if_neg hb] at hs
          by_cases hl : (B i).2 < pullS σ2 (σ2 (c0 + 2)) (σ2 (c0 + 3)) i
          · rw [if_pos hl] at hs ⊢
            rw [if_neg (by decide)]
            exact go _ hs
          · rw [if_neg hl] at hs ⊢
            by_cases he : pullS σ2 (σ2 (c0 + 2)) (σ2 (c0 + 3)) i = (B i).2
            · rw [if_pos he] at hs ⊢
              obtain ⟨j, hj, ej⟩ := (hin i).resolve_left hb
              rw [gd_in (by omega) (by omega), ej, gd_in (by omega) (by omega)]
              rw [ej] at hs
              by_cases hx : σ2 7 (nI j).toNatClampNeg ≤ σ2 7 i
              · rw [if_pos hx] at hs ⊢
                rw [if_pos trivial, ← ej]
                exact go _ hs
              · rw [if_neg hx] at hs ⊢
                rw [if_neg (by decide)]
                exact go _ hs
            · rw [if_neg he] at hs ⊢
              rw [if_pos trivial]
              exact go _ hs
      · rw [if_neg hu]
        rw [if_neg (fun q => hu q.2)] at hs
        exact go _ hs
    · rw [if_neg hy]
      rw [if_neg (fun q => hy q.1)] at hs
      exact go _ hs
  · have e : i = p := by omega
    subst e
    rw [at_end (Nat.le_refl _) (by omega)]

def downS (D : Sg) (fur : Int32) (up : Int32) : Nat → Int32
  | 0 => up
  | k + 1 => if D 8 k = fur then downS D fur up k &&& (((1 : Int32) <<< (nI k &&& 31)) ^^^ (-1 : Int32)) else downS D fur up k
theorem downS_s (D : Sg) (fur up : Int32) (k : Nat) : downS D fur up (k + 1) = if D 8 k = fur then downS D fur up k &&& (((1 : Int32) <<< (nI k &&& 31)) ^^^ (-1 : Int32)) else downS D fur up k := rfl
theorem layDown_ok {σ : Sg} {p q c0 : Nat} (hD : DOK σ p q) (hc : 28 ≤ c0) (fur : Int32) : Ret (f_X0_layDown c0 σ fur) (fun _ σ' => (∀ c, c ≠ c0 → σ' c = σ c) ∧ (∀ k, k ≠ 8 → σ' c0 k = σ c0 k) ∧ σ' c0 8 = downS σ fur (σ c0 8) p) := by
  obtain ⟨hp, -, hp1, -, -, -⟩ := hD
  unfold f_X0_layDown
  refine i_X0_layDown_l2 c0 p (fun i σ2 x2 x3 => x2 = fur ∧ x3 = nI i ∧ (∀ c, c ≠ c0 → σ2 c = σ c) ∧ (∀ k, k ≠ 8 → σ2 c0 k = σ c0 k) ∧ σ2 c0 8 = downS σ fur (σ c0 8) i) (fun σ2 x2 x3 r => Ret r _) ?_ 300 0 (by omega) (by omega) σ fur 0 ⟨rfl, rfl, fun _ _ => rfl, fun _ _ => rfl, rfl⟩
  intro i k σ2 x2 x3 hi hI ih
  obtain ⟨rfl, rfl, hs, hk, hu⟩ := hI
  unfold f_X0_layDown_b2 f_X0_layDown_b34
  rw [hs 5 (by omega), hp1]
  rcases Nat.lt_or_ge i p with hlt | hge
  · rw [at_go hlt (by omega), gd_in (by omega) (by omega), cl_nI (by omega), hs 8 (by omega)]
    simp only [amlet_eq, nI_1]
    by_cases hy : σ 8 i = x2
    · rw [if_pos hy]
      refine ih _ x2 _ hlt ⟨rfl, rfl, fun c h => by rw [up2_off h]; exact hs c h, fun k h => by rw [up2_at, upd_off h]; exact hk k h, ?_⟩
      rw [up2_at, upd_at, hu, downS_s, if_pos hy]
    · rw [if_neg hy]
      refine ih _ x2 _ hlt ⟨rfl, rfl, hs, hk, ?_⟩
      rw [hu, downS_s, if_neg hy]
  · have e : i = p := by omega
    subst e
    rw [at_end (Nat.le_refl _) (by omega)]
    exact ret_some.mpr ⟨hs, hk, hu⟩
theorem endNights_ok {σ : Sg} {c0 a b : Nat} (ha : σ c0 9 = nI a) (hab : a ≤ b) (hb : b ≤ 24) : Ret (f_X0_endNightsTo c0 σ (nI b)) (fun _ σ' => (∀ c, c ≠ c0 → c ≠ c0 + 4 → σ' c = σ c) ∧ (∀ k, k ≠ 9 → σ' c0 k = σ c0 k) ∧ σ' c0 9 = nI b ∧ (∀ t, a ≤ t → t < b → σ' (c0 + 4) t = σ c0 8) ∧ ∀ t, (t < a ∨ b ≤ t) → σ' (c0 + 4) t = σ (c0 + 4) t) := by
  unfold f_X0_endNightsTo
  rw [amlet_eq, ha]
  refine i_X0_endNightsTo_l5 c0 b (fun i σ2 x1 x2 => x1 = nI b ∧ x2 = nI i ∧ a ≤ i ∧ (∀ c, c ≠ c0 + 4 → σ2 c = σ c) ∧ (∀ t, a ≤ t → t < i → σ2 (c0 + 4) t = σ c0 8) ∧ ∀ t, (t < a ∨ i ≤ t) → σ2 (c0 + 4) t = σ (c0 + 4) t) (fun σ2 x1 x2 r => Ret r _) ?_ 300 a (by omega) hab σ (nI b) (nI a) ⟨rfl, rfl, Nat.le_refl _, fun _ _ => rfl, fun t h1 h2 => by omega, fun _ _ => rfl⟩
  intro i k σ2 x1 x2 hi hI ih
  obtain ⟨rfl, rfl, hai, hs, h1, h2⟩ := hI
  unfold f_X0_endNightsTo_b5
  rcases Nat.lt_or_ge i b with hlt | hge
  · rw [at_go hlt (by omega), gd_in (by omega) (by omega), cl_nI (by omega)]
    simp only [amlet_eq, nI_1]
    refine ih _ _ _ hlt ⟨rfl, rfl, by omega, fun c h => by rw [up2_off h]; exact hs c h, fun t g1 g2 => ?_, fun t g => ?_⟩
    · rw [up2_at]
      by_cases e : t = i
      · subst e; rw [upd_at, hs c0 (by omega)]
      · rw [upd_off e]; exact h1 t g1 (by omega)
    · rw [up2_at, upd_off (by omega)]
      exact h2 t (by omega)
  · have e : i = b := by omega
    subst e
    rw [at_end (Nat.le_refl _) (by omega), amlet_eq]
    refine ret_some.mpr ⟨fun c g1 g2 => by rw [up2_off g1]; exact hs c g2, fun k h => by rw [up2_at, upd_off h, hs c0 (by omega)], by rw [up2_at, upd_at], fun t g1 g2 => by rw [up2_off (by omega)]; exact h1 t g1 g2, fun t g => by rw [up2_off (by omega)]; exact h2 t g⟩
theorem startAnew_ok (σ : Sg) (c0 : Nat) : Ret (f_X0_startAnew c0 σ) (fun _ σ' => (∀ c, c ≠ c0 → c ≠ c0 + 1 → c ≠ c0 + 3 → σ' c = σ c) ∧ (∀ k, k < 6 → σ' c0 k = σ c0 k) ∧ σ' c0 6 = 0 ∧ σ' c0 7 = 0 ∧ σ' c0 8 = 0 ∧ σ' c0 9 = 0 ∧ ∀ k, k < 8 → σ' (c0 + 1) k = -1 ∧ σ' (c0 + 3) k = 0) := by
  unfold f_X0_startAnew
  refine i_X0_startAnew_l2 c0 8 (fun i σ2 x1 => x1 = nI i ∧ (∀ c, c ≠ c0 + 1 → c ≠ c0 + 3 → σ2 c = σ c) ∧ ∀ k, k < i → σ2 (c0 + 1) k = -1 ∧ σ2 (c0 + 3) k = 0) (fun σ2 x1 r => Ret r _) ?_ 300 0 (by omega) (by omega) σ 0 ⟨rfl, fun _ _ _ => rfl, fun k h => absurd h (Nat.not_lt_zero _)⟩
  intro i k σ2 x1 hi hI ih
  obtain ⟨rfl, hs, hz⟩ := hI
  unfold f_X0_startAnew_b2
  rw [n_lit 8]
  rcases Nat.lt_or_ge i 8 with hlt | hge
  · rw [at_go hlt (by omega), gd_in hlt (by omega), cl_nI (by omega)]
    simp only [amlet_eq, nI_1]
    rw [gd_in hlt (by omega)]
    refine ih _ _ hlt ⟨rfl, fun c h1 h2 => by rw [up2_off h2, up2_off h1]; exact hs c h1 h2, fun j hj => ?_⟩
    rw [up2_off (show c0 + 1 ≠ c0 + 3 by omega), up2_at, up2_at, up2_off (show c0 + 3 ≠ c0 + 1 by omega)]
    by_cases e : j = i
    · subst e; exact ⟨upd_at _ _ _, upd_at _ _ _⟩
    · rw [upd_off e, upd_off e]; exact hz j (by omega)
  · have e : i = 8 := by omega
    subst e
    rw [at_end (Nat.le_refl _) (by omega)]
    simp only [amlet_eq]
    refine ret_some.mpr ⟨fun c h1 h2 h3 => by simp only [up2_off h1]; exact hs c h2 h3, fun k h => ?_, ?_, ?_, ?_, ?_, fun k h => ?_⟩
    · simp only [up2_at]
      rw [upd_off (by omega), upd_off (by omega), upd_off (by omega), upd_off (by omega), hs c0 (by omega) (by omega)]
    · simp [up2_at, upd]
    · simp [up2_at, upd]
    · simp [up2_at, upd]
    · simp [up2_at, upd]
    · simp only [up2_off (show c0 + 1 ≠ c0 by omega), up2_off (show c0 + 3 ≠ c0 by omega)]
      exact hz k h
