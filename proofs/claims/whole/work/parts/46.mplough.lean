/-! the strongest of a furrow: by index, by place -/
def btr (pl : Nat → Int32) (xn : Nat → Nat) (j k : Nat) : Prop := (pl k).toInt < (pl j).toInt ∨ ((pl k).toInt = (pl j).toInt ∧ (xn j < xn k ∨ (xn j = xn k ∧ j < k)))
def isBest (pl : Nat → Int32) (xn : Nat → Nat) (S : Nat → Prop) (r : Int32 × Int32) : Prop := (r.1 = -1 ∧ ∀ k, ¬ S k) ∨ ∃ j, r.1 = nI j ∧ S j ∧ r.2 = pl j ∧ ∀ k, S k → k ≠ j → btr pl xn j k
theorem isBest_congr {pl : Nat → Int32} {xn : Nat → Nat} {S S' : Nat → Prop} {r : Int32 × Int32} (h : isBest pl xn S r) (e : ∀ k, S k ↔ S' k) : isBest pl xn S' r := by
  rcases h with ⟨h1, h2⟩ | ⟨j, h1, h2, h3, h4⟩
  · exact Or.inl ⟨h1, fun k hk => h2 k ((e k).mpr hk)⟩
  · exact Or.inr ⟨j, h1, (e j).mp h2, h3, fun k hk => h4 k ((e k).mpr hk)⟩
theorem isBest_one {pl : Nat → Int32} {xn : Nat → Nat} {S : Nat → Prop} {r r' : Int32 × Int32} (hS : ∀ k, S k → k < 8) (h : isBest pl xn S r) (h' : isBest pl xn S r') : r.1 = r'.1 := by
  rcases h with ⟨h1, h2⟩ | ⟨j, h1, h2, h3, h4⟩
  · rcases h' with ⟨g1, g2⟩ | ⟨i, g1, g2, g3, g4⟩
    · rw [h1, g1]
    · exact absurd g2 (h2 i)
  · rcases h' with ⟨g1, g2⟩ | ⟨i, g1, g2, g3, g4⟩
    · exact absurd h2 (g2 j)
    · by_cases e : i = j
      · rw [h1, g1, e]
      · have a := h4 i g2 e
        have b := g4 j h2 (fun q => e q.symm)
        unfold btr at a b
        omega
/-- one more: it comes ahead of all so far, or it doesn't -/
theorem isBest_add {pl : Nat → Int32} {xn : Nat → Nat} {S : Nat → Prop} {r : Int32 × Int32} {k : Nat} (h : isBest pl xn S r) (hk : ∀ j, r.1 = nI j → S j → btr pl xn k j ) : isBest pl xn (fun i => S i ∨ i = k) (nI k, pl k) := by
  refine Or.inr ⟨k, rfl, Or.inr rfl, rfl, fun i hi hne => ?_⟩
  rcases hi with hi | hi
  · rcases h with ⟨h1, h2⟩ | ⟨j, h1, h2, h3, h4⟩
    · exact absurd hi (h2 i)
    · have a := hk j h1 h2
      by_cases e : i = j
      · rw [e]; exact a
      · have b := h4 i hi e
        unfold btr at a b ⊢
        omega
  · exact absurd hi hne
theorem isBest_no {pl : Nat → Int32} {xn : Nat → Nat} {S : Nat → Prop} {r : Int32 × Int32} {k : Nat} (h : isBest pl xn S r) (hk : ∃ j, r.1 = nI j ∧ S j ∧ r.2 = pl j ∧ btr pl xn j k ∧ ∀ i, S i → i ≠ j → btr pl xn j i) : isBest pl xn (fun i => S i ∨ i = k) r := by
  obtain ⟨j, h1, h2, h3, h4, h5⟩ := hk
  refine Or.inr ⟨j, h1, Or.inl h2, h3, fun i hi hne => ?_⟩
  rcases hi with hi | hi
  · exact h5 i hi hne
  · rw [hi]; exact h4
theorem i32_lt (a b : Int32) : a < b ↔ a.toInt < b.toInt := Int32.lt_iff_toInt_lt
theorem i32_eq (a b : Int32) : a = b ↔ a.toInt = b.toInt := (Int32.toInt_inj).symm
theorem i32_le (a b : Int32) : a ≤ b ↔ a.toInt ≤ b.toInt := Int32.le_iff_toInt_le
theorem nI_inj {a b : Nat} (ha : a < 2147483648) (hb : b < 2147483648) (h : nI a = nI b) : a = b := (nI_eq ha hb).mp h
/-- the class's order -/
theorem bestS_isBest {D : Sg} {w tm : Nat → Int32} {up fur : Int32} {xn : Nat → Nat} {p : Nat} (hp : p ≤ 8) (hx : ∀ k, k < p → D 7 k = nI (xn k) ∧ xn k < 6) : ∀ n, n ≤ p → isBest (pullS D w tm) xn (fun k => k < n ∧ liesIn D up fur k ∧ ¬ pullS D w tm k < 0) (bestS D w tm up fur n)
  | 0, _ => Or.inl ⟨rfl, fun k h => absurd h.1 (Nat.not_lt_zero _)⟩
  | n + 1, hn => by
    have ih := bestS_isBest (w := w) (tm := tm) (up := up) (fur := fur) hp hx n (by omega)
    rw [bestS_s]
    generalize hB : bestS D w tm up fur n = B at ih ⊢
    have skip : ¬ (liesIn D up fur n ∧ ¬ pullS D w tm n < 0) → isBest (pullS D w tm) xn (fun k => k < n + 1 ∧ liesIn D up fur k ∧ ¬ pullS D w tm k < 0) B := fun hno => isBest_congr ih (fun k => ⟨fun h => ⟨by omega, h.2⟩, fun h => ⟨by
      have h1 := h.1
      by_cases e : k = n
      · rw [e] at h; exact absurd h.2 hno
      · omega, h.2⟩⟩)
    by_cases hl : liesIn D up fur n
    · rw [if_pos hl]
      by_cases hng : pullS D w tm n < 0
      · have hB0 : isBest (pullS D w tm) xn (fun k => k < n + 1 ∧ liesIn D up fur k ∧ ¬ pullS D w tm k < 0) B := skip (fun q => q.2 hng)
        by_cases hb : B.1 = -1
        · rw [if_pos hb, if_pos hng]; exact hB0
        · rw [if_neg hb]
          rcases ih with ⟨h1, -⟩ | ⟨j, h1, h2, h3, h4⟩
          · exact absurd h1 hb
          · have hj := h2.2.2
            rw [if_neg (by rw [h3]; rw [i32_lt] at hng hj ⊢; omega), if_neg (by rw [h3]; intro q; rw [q] at hng; exact hj hng)]
            exact hB0
      · have cong : ∀ r, isBest (pullS D w tm) xn (fun i => (i < n ∧ liesIn D up fur i ∧ ¬ pullS D w tm i < 0) ∨ i = n) r → isBest (pullS D w tm) xn (fun k => k < n + 1 ∧ liesIn D up fur k ∧ ¬ pullS D w tm k < 0) r := fun r h => isBest_congr h (fun k => ⟨fun h => h.elim (fun h => ⟨by omega, h.2⟩) (fun h => by rw [h]; exact ⟨by omega, hl, hng⟩), fun h => by
          by_cases e : k = n
          · exact Or.inr e
          · exact Or.inl ⟨by omega, h.2⟩⟩)
        by_cases hb : B.1 = -1
        · rw [if_pos hb, if_neg hng]
          exact cong _ (isBest_add ih (fun j h _ => absurd (h.symm.trans hb) (by
            rcases Nat.lt_or_ge j 2147483648 with q | q
            · exact n_ne q
            · rename_i hSj
              omega)))
        · rw [if_neg hb]
          rcases ih with ⟨h1, -⟩ | ⟨j, h1, h2, h3, h4⟩
          · exact absurd h1 hb
          · have ih2 : isBest (pullS D w tm) xn (fun k => k < n ∧ liesIn D up fur k ∧ ¬ pullS D w tm k < 0) B := Or.inr ⟨j, h1, h2, h3, h4⟩
            have hjn := h2.1
            have ejx := hx j (by omega)
            have enx := hx n (by omega)
            have add : btr (pullS D w tm) xn n j → isBest (pullS D w tm) xn (fun k => k < n + 1 ∧ liesIn D up fur k ∧ ¬ pullS D w tm k < 0) (nI n, pullS D w tm n) := fun hbt => cong _ (isBest_add ih2 (fun i hi hSi => by
              have : i = j := nI_inj (by omega) (by omega) (hi.symm.trans h1)
              rw [this]; exact hbt))
            have no : btr (pullS D w tm) xn j n → isBest (pullS D w tm) xn (fun k => k < n + 1 ∧ liesIn D up fur k ∧ ¬ pullS D w tm k < 0) B := fun hbt => cong _ (isBest_no ih2 ⟨j, h1, h2, h3, hbt, h4⟩)
            rw [h3]
            by_cases hlt : pullS D w tm j < pullS D w tm n
            · rw [if_pos hlt]
              exact add (Or.inl ((i32_lt _ _).mp hlt))
            · rw [if_neg hlt]
              rw [i32_lt] at hlt
              by_cases heq : pullS D w tm n = pullS D w tm j
              · rw [if_pos heq, h1, cl_nI (by omega), ejx.1, enx.1]
                rw [i32_eq] at heq
                by_cases hxx : nI (xn j) ≤ nI (xn n)
                · rw [if_pos hxx]
                  rw [p_le (by omega) (by omega)] at hxx
                  exact no (Or.inr ⟨heq, by omega⟩)
                · rw [if_neg hxx]
                  rw [p_le (by omega) (by omega)] at hxx
                  exact add (Or.inr ⟨heq.symm, by omega⟩)
              · rw [if_neg heq]
                rw [i32_eq] at heq
                exact no (Or.inl (by omega))
    · rw [if_neg hl]
      exact skip (fun q => hl q.1)

theorem ploughs_ok {D τ : Sg} {p q : Nat} {s : RS} (hD : DOK D p q) (hG : MG D τ p q) (hR : MR τ s) (fur t : Int32) (ht : ¬ t = -1) : Ret (f_X10_ploughs τ fur t) (fun _ τ' =>
    (∀ c, c ≠ 0 → c ≠ 16 → c ≠ 17 → τ' c = τ c) ∧ (∀ k, k ≠ 20 → k ≠ 23 → k ≠ 24 → k ≠ 25 → τ' 0 k = τ 0 k) ∧ MR τ' (plS D p q fur t s)) := by
  have hp8 := hD.1
  have hq8 := hD.2.1
  obtain ⟨xn, hxn⟩ : ∃ xn : Nat → Nat, ∀ k, k < p → D 7 k = nI (xn k) ∧ xn k < 6 := by
    refine ⟨fun k => if h : k < p then Classical.choose (hD.2.2.2.2.1 k h).2.1 else 0, fun k hk => ?_⟩
    have := Classical.choose_spec (hD.2.2.2.2.1 k hk).2.1
    simp only [dif_pos hk]
    exact ⟨this.2, this.1⟩
  have hXb := bestS_isBest (w := wantR D q t s) (tm := s.2.2.2.1) (up := s.1) (fur := fur) hp8 hxn p (Nat.le_refl _)
  generalize hpl : pullS D (wantR D q t s) s.2.2.2.1 = pl at hXb
  have hpull : ∀ k, k < p → f_X10_pull τ (nI k) t = some (pl k, τ) := fun k hk => by
    rw [pull_eq hG hp8 hq8 hk, ← hpl]
    refine congrArg (fun v => some (v, τ)) ?_
    unfold pullS
    rw [hR.2.2.2.1 k (by omega)]
    have hw : wantS D (opAt D (τ 17) t) (nI k) t q = wantR D q t s k := by
      unfold wantR
      refine wantS_congr fun k hk => ⟨rfl, rfl, rfl, ?_⟩
      show (D 12 k ≤ t ∧ τ 17 k = -1) ↔ (D 12 k ≤ t ∧ s.2.2.1 k = -1)
      rw [hR.2.2.1 k (by omega)]
    simp only [hw]
  unfold f_X10_ploughs
  refine i_X10_ploughs_l8 6 (fun X σ2 x1 x2 x3 x4 x5 => σ2 = τ ∧ x1 = fur ∧ x2 = t ∧ x5 = nI X ∧ isBest pl xn (fun k => (k < p ∧ liesIn D s.1 fur k ∧ ¬ pl k < 0) ∧ xn k < X) (x3, x4)) (fun σ2 x1 x2 x3 x4 x5 r => Ret r _) ?_ 300 0 (by omega) (by omega) τ fur t (-1) 0 0 ⟨rfl, rfl, rfl, rfl, Or.inl ⟨rfl, fun k h => absurd h.2 (Nat.not_lt_zero _)⟩⟩
  intro X k8 σ2 x1 x2 x3 x4 x5 hX hI ih8
  obtain ⟨rfl, rfl, rfl, rfl, hb⟩ := hI
  unfold f_X10_ploughs_b8
  rw [n_lit 6]
  rcases Nat.lt_or_ge X 6 with hlt | hge
  · rw [at_go hlt (by omega)]
    refine i_X10_ploughs_l18 k8 p (fun K σ3 y1 y2 y3 y4 y5 y6 => σ3 = σ2 ∧ y1 = x1 ∧ y2 = x2 ∧ y5 = nI X ∧ y6 = nI K ∧ isBest pl xn (fun k => (k < p ∧ liesIn D s.1 x1 k ∧ ¬ pl k < 0) ∧ (xn k < X ∨ (xn k = X ∧ k < K))) (y3, y4)) (fun σ3 y1 y2 y3 y4 y5 y6 r => Ret r _) ?_ 300 0 (by omega) (by omega) σ2 x1 x2 x3 x4 (nI X) 0 ⟨rfl, rfl, rfl, rfl, rfl, isBest_congr hb (fun k => ⟨fun h => ⟨h.1, Or.inl h.2⟩, fun h => ⟨h.1, by have := h.2; omega⟩⟩)⟩
    intro K k σ3 y1 y2 y3 y4 y5 y6 hK hI2 ih
    obtain ⟨rfl, rfl, rfl, rfl, rfl, hb2⟩ := hI2
    unfold f_X10_ploughs_b18 f_X10_ploughs_b88 f_X10_ploughs_b92 f_X10_ploughs_b93 f_X10_ploughs_b106 f_X10_ploughs_b119 f_X10_ploughs_b121
    rw [hG.1]
    rcases Nat.lt_or_ge K p with hk | hk
    · obtain ⟨g1, g2, g3, g4⟩ := hG.2.2.1 K hk
      rw [at_go hk (by omega)]
      simp only [amlet_eq, nI_1, gd_in (show K < 9 by omega) (show 9 < 2 ^ 31 by omega), cl_nI (show K < 2147483648 by omega), g2, g3, (hxn K hk).1]
      have xK := (hxn K hk).2
      have hskip : ¬ (xn K = X ∧ liesIn D s.1 y1 K ∧ ¬ pl K < 0) → ∀ a b, a = y3 → b = y4 → Ret (k σ3 y1 y2 a b (nI X) (nI (K + 1))) (fun _ τ' => (∀ c, c ≠ 0 → c ≠ 16 → c ≠ 17 → τ' c = σ3 c) ∧ (∀ k, k ≠ 20 → k ≠ 23 → k ≠ 24 → k ≠ 25 → τ' 0 k = σ3 0 k) ∧ MR τ' (plS D p q y1 y2 s)) := by
        intro hno a b ea eb
        rw [ea, eb]
        refine ih σ3 y1 y2 y3 y4 (nI X) (nI (K + 1)) hk ⟨rfl, rfl, rfl, rfl, rfl, isBest_congr hb2 (fun i => ⟨fun h => ⟨h.1, by have := h.2; omega⟩, fun h => ⟨h.1, ?_⟩⟩)⟩
        by_cases e : i = K
        · rw [e] at h ⊢
          have h2 := h.2
          by_cases e2 : xn K = X
          · exact absurd ⟨e2, h.1.2⟩ hno
          · omega
        · have := h.2; omega
      by_cases hx : nI (xn K) = nI X
      · rw [if_pos hx]
        have hx2 := nI_inj (by omega) (by omega) hx
        by_cases hy : D 8 K = y1
        · rw [if_pos hy, isIn_eq, bnd_some, hR.1]
          have hbit : (((s.1 >>> (nI K &&& 31)) &&& (1 : Int32)) = 1) ↔ ¬ (((s.1 >>> (nI K &&& 31)) &&& (1 : Int32)) = 0) := by
            generalize (s.1 >>> (nI K &&& 31)) = z
            rcases pk_andE z (m := 1) 1 (by decide) with ⟨j, hj, e⟩
            rw [e]
            have : j = 0 ∨ j = 1 := by omega
            rcases this with rfl | rfl <;> decide
          by_cases hu : ((s.1 >>> (nI K &&& 31)) &&& (1 : Int32)) = 0
          · rw [if_neg (fun q => hbit.mp q hu), if_pos rfl, hpull K hk, bnd_some]
            have hl : liesIn D s.1 y1 K := ⟨hy, hu⟩
            by_cases hn : pl K < 0
            · rw [if_pos hn]
              simp only [if_true]
              exact hskip (fun q => q.2.2 hn) _ _ rfl rfl
            · rw [if_neg hn]
              have cong : ∀ a b, isBest pl xn (fun i => ((i < p ∧ liesIn D s.1 y1 i ∧ ¬ pl i < 0) ∧ (xn i < X ∨ (xn i = X ∧ i < K))) ∨ i = K) (a, b) → Ret (k σ3 y1 y2 a b (nI X) (nI (K + 1))) (fun _ τ' => (∀ c, c ≠ 0 → c ≠ 16 → c ≠ 17 → τ' c = σ3 c) ∧ (∀ k, k ≠ 20 → k ≠ 23 → k ≠ 24 → k ≠ 25 → τ' 0 k = σ3 0 k) ∧ MR τ' (plS D p q y1 y2 s)) := fun a b h => ih σ3 y1 y2 a b (nI X) (nI (K + 1)) hk ⟨rfl, rfl, rfl, rfl, rfl, isBest_congr h (fun i => ⟨fun h => h.elim (fun h => ⟨h.1, by have := h.2; omega⟩) (fun h => by rw [h]; exact ⟨⟨hk, hl, hn⟩, by omega⟩), fun h => by
                by_cases e : i = K
                · exact Or.inr e
                · exact Or.inl ⟨h.1, by have := h.2; omega⟩⟩)⟩
              by_cases hb3 : y3 = -1
              · rw [if_pos hb3]
                simp only [if_neg (show ¬ (1 : Int32) = 0 by decide)]
                exact cong _ _ (isBest_add hb2 (fun j h hSj => absurd (h.symm.trans hb3) (n_ne (by have := hSj.1.1; omega))))
              · rw [if_neg hb3]
                rcases hb2 with ⟨h1, -⟩ | ⟨j, h1, h2, h3, h4⟩
                · exact absurd h1 hb3
                · have hb2' : isBest pl xn (fun k => (k < p ∧ liesIn D s.1 y1 k ∧ ¬ pl k < 0) ∧ (xn k < X ∨ (xn k = X ∧ k < K))) (y3, y4) := Or.inr ⟨j, h1, h2, h3, h4⟩
                  have h3' : y4 = pl j := h3
                  by_cases hle : pl K ≤ y4
                  · rw [if_pos hle]
                    simp only [if_true]
                    refine cong _ _ (isBest_no hb2' ⟨j, h1, h2, h3, ?_, h4⟩)
                    rw [h3', i32_le] at hle
                    have := h2.2
                    unfold btr
                    omega
                  · rw [if_neg hle]
                    simp only [if_neg (show ¬ (1 : Int32) = 0 by decide)]
                    refine cong _ _ (isBest_add hb2' (fun i hi hSi => ?_))
                    have e : i = j := nI_inj (by have := hSi.1.1; omega) (by have := h2.1.1; omega) (hi.symm.trans h1)
                    rw [e]
                    rw [h3', i32_le] at hle
                    unfold btr
                    omega
          · rw [if_pos (hbit.mpr hu), if_neg (by decide)]
            exact hskip (fun q => hu q.2.1.2) _ _ rfl rfl
        · rw [if_neg hy]
          exact hskip (fun q => hy q.2.1.1) _ _ rfl rfl
      · rw [if_neg hx]
        exact hskip (fun q => hx (by rw [q.1])) _ _ rfl rfl
    · have e : K = p := by omega
      subst e
      rw [at_end (Nat.le_refl _) (by omega), amlet_eq, nI_1]
      refine ih8 _ _ _ _ _ _ hlt ⟨rfl, rfl, rfl, rfl, isBest_congr hb2 (fun i => ⟨fun h => ⟨h.1, by have := h.2; omega⟩, fun h => ⟨h.1, by have := h.2; have := h.1.1; omega⟩⟩)⟩
  · have e : X = 6 := by omega
    subst e
    rw [at_end (Nat.le_refl _) (by omega)]
    have hfin : x3 = bestR D p q x1 x2 s := by
      have h1 : isBest pl xn (fun k => k < p ∧ liesIn D s.1 x1 k ∧ ¬ pl k < 0) (x3, x4) := isBest_congr hb (fun i => ⟨fun h => h.1, fun h => ⟨h, (hxn i h.1).2⟩⟩)
      exact isBest_one (fun k hk => by have := hk.1; omega) h1 hXb
    rw [hfin]
    unfold plS
    rcases bestS_in D (wantR D q x2 s) s.2.2.2.1 s.1 x1 p with hno | ⟨b, hbp, eb⟩
    · have hno : bestR D p q x1 x2 s = -1 := hno
      rw [if_pos hno, if_pos hno]
      exact ret_some.mpr ⟨fun _ _ _ _ => rfl, fun _ _ _ _ _ => rfl, hR⟩
    · have eb : bestR D p q x1 x2 s = nI b := eb
      rw [eb, if_neg (n_ne (by omega)), if_neg (n_ne (by omega)), cl_nI (by omega)]
      exact ret_bnd (comesUp_ok hG hq8 (by omega) hR x2 ht) (fun _ τ' h => ret_some.mpr h)
