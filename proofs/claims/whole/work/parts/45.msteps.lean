/-! the reference's steps -/
def MG (D τ : Sg) (p q : Nat) : Prop := τ 0 2 = nI p ∧ τ 0 7 = nI q ∧ (∀ k, k < p → τ 3 k = D 6 k ∧ τ 4 k = D 7 k ∧ τ 5 k = D 8 k ∧ τ 6 k = D 9 k) ∧ ∀ k, k < q → τ 7 k = D 11 k ∧ τ 8 k = D 12 k ∧ τ 9 k = D 13 k
theorem MG.move {D τ τ' : Sg} {p q : Nat} (h : MG D τ p q) (e0 : ∀ k, k = 2 ∨ k = 7 → τ' 0 k = τ 0 k) (e : ∀ c, 3 ≤ c → c ≤ 9 → τ' c = τ c) : MG D τ' p q := by
  obtain ⟨h1, h2, h3, h4⟩ := h
  refine ⟨by rw [e0 2 (Or.inl rfl)]; exact h1, by rw [e0 7 (Or.inr rfl)]; exact h2, fun k hk => ?_, fun k hk => ?_⟩
  · rw [e 3 (by omega) (by omega), e 4 (by omega) (by omega), e 5 (by omega) (by omega), e 6 (by omega) (by omega)]; exact h3 k hk
  · rw [e 7 (by omega) (by omega), e 8 (by omega) (by omega), e 9 (by omega) (by omega)]; exact h4 k hk
theorem isIn_eq (σ : Sg) (a b : Int32) : f_X10_isIn σ a b = some (if ((a >>> (b &&& 31)) &&& (1 : Int32)) = 1 then 1 else 0, σ) := by
  unfold f_X10_isIn
  by_cases h : ((a >>> (b &&& 31)) &&& (1 : Int32)) = 1
  · rw [if_pos h, if_pos h]
  · rw [if_neg h, if_neg h]
theorem isOpen_eq {D τ : Sg} {p q k : Nat} (hG : MG D τ p q) (hq : q ≤ 8) (hk : k < q) (t : Int32) : f_X10_isOpen τ (nI k) t = some (if opAt D (τ 17) t k then 1 else 0, τ) := by
  unfold f_X10_isOpen
  rw [gd_in (by omega) (by omega), cl_nI (by omega), (hG.2.2.2 k hk).2.1, gd_in (by omega) (by omega)]
  by_cases h1 : t < D 12 k
  · rw [if_pos h1, if_neg (fun h => by have := h.1; grind)]
  · rw [if_neg h1]
    by_cases h2 : τ 17 k = -1
    · rw [if_pos h2, if_pos ⟨by grind, h2⟩]
    · rw [if_neg h2, if_neg (fun h => h2 h.2)]
theorem wantS_s (D : Sg) (op : Nat → Prop) [DecidablePred op] (one t : Int32) (k : Nat) : wantS D op one t (k + 1) = wantS D op one t k + (if D 11 k = one ∧ op k then wt D k t else 0) := rfl
theorem wanted_eq {D τ : Sg} {p q : Nat} (hG : MG D τ p q) (hq : q ≤ 8) (one t : Int32) : f_X10_wanted τ one t = some (wantS D (opAt D (τ 17) t) one t q, τ) := by
  unfold f_X10_wanted
  refine i_X10_wanted_l5 q (fun i σ2 x1 x2 x3 x4 => σ2 = τ ∧ x1 = one ∧ x2 = t ∧ x3 = wantS D (opAt D (τ 17) t) one t i ∧ x4 = nI i) (fun σ2 x1 x2 x3 x4 r => r = some (wantS D (opAt D (τ 17) t) one t q, τ)) ?_ 300 0 (by omega) (by omega) τ one t 0 0 ⟨rfl, rfl, rfl, rfl, rfl⟩
  intro i k σ2 x1 x2 x3 x4 hi hI ih
  obtain ⟨rfl, rfl, rfl, rfl, rfl⟩ := hI
  unfold f_X10_wanted_b5 f_X10_wanted_b72 f_X10_wanted_b73
  rw [hG.2.1]
  rcases Nat.lt_or_ge i q with hlt | hge
  · obtain ⟨g1, g2, g3⟩ := hG.2.2.2 i hlt
    rw [at_go hlt (by omega)]
    simp only [amlet_eq, nI_1, gd_in (show i < 9 by omega) (show 9 < 2 ^ 31 by omega), cl_nI (show i < 2147483648 by omega), g1, g2, g3]
    have go : ∀ v, wantS D (opAt D (σ2 17) x2) x1 x2 (i + 1) = wantS D (opAt D (σ2 17) x2) x1 x2 i + v → k σ2 x1 x2 (wantS D (opAt D (σ2 17) x2) x1 x2 i + v) (nI (i + 1)) = some (wantS D (opAt D (σ2 17) x2) x1 x2 q, σ2) := fun v hv => ih σ2 x1 x2 _ _ hlt ⟨rfl, rfl, rfl, hv.symm, rfl⟩
    have hs := wantS_s D (opAt D (σ2 17) x2) x1 x2 i
    by_cases hw : D 11 i = x1
    · rw [if_pos hw, isOpen_eq hG hq hlt, bnd_some]
      by_cases ho : opAt D (σ2 17) x2 i
      · rw [if_pos ho, if_neg (by decide)]
        rw [if_pos ⟨hw, ho⟩] at hs
        unfold wt at hs
        by_cases h9 : 9 ≤ (D 13 i + x2) - D 12 i
        · rw [if_pos h9] at hs ⊢
          exact go _ hs
        · rw [if_neg h9] at hs ⊢
          exact go _ hs
      · rw [if_neg ho, if_pos rfl]
        rw [if_neg (fun q => ho q.2)] at hs
        exact go _ hs
    · rw [if_neg hw]
      rw [if_neg (fun q => hw q.1)] at hs
      exact go _ hs
  · have e : i = q := by omega
    subst e
    rw [at_end (Nat.le_refl _) (by omega)]
theorem pull_eq {D τ : Sg} {p q k : Nat} (hG : MG D τ p q) (hp : p ≤ 8) (hq : q ≤ 8) (hk : k < p) (t : Int32) : f_X10_pull τ (nI k) t = some (pullS D (fun one => wantS D (opAt D (τ 17) t) (nI one) t q) (τ 16) k, τ) := by
  unfold f_X10_pull
  rw [wanted_eq hG hq, bnd_some]
  obtain ⟨g1, g2, g3, g4⟩ := hG.2.2.1 k hk
  simp only [gd_in (show k < 9 by omega) (show 9 < 2 ^ 31 by omega), gd_in (show k < 8 by omega) (show 8 < 2 ^ 31 by omega), cl_nI (show k < 2147483648 by omega), g1, g4]
  unfold pullS
  by_cases h : D 6 k = 0
  · rw [if_pos h, if_pos h]
  · rw [if_neg h, if_neg h]
    by_cases h1 : D 6 k = 1
    · rw [if_pos h1, if_pos h1]
    · rw [if_neg h1, if_neg h1]
/-- the reference's cells hold a state -/
def MR (τ : Sg) (s : RS) : Prop := τ 0 20 = s.1 ∧ τ 0 23 = s.2.1 ∧ (∀ k, k < 8 → τ 17 k = s.2.2.1 k) ∧ (∀ k, k < 8 → τ 16 k = s.2.2.2.1 k) ∧ (s.2.2.2.2 = [] → τ 0 24 = -1 ∧ τ 0 25 = -1) ∧ ∀ x l, s.2.2.2.2 = x :: l → (τ 0 24 = x.1 ∧ ¬ x.1 = -1) ∧ τ 0 25 = x.2 ∧ ¬ x.2 = -1
theorem isOpen_eq2 {D τ : Sg} {p q k : Nat} (hG : MG D τ p q) (hq : q ≤ 8) (hk : k < q) (t : Int32) (o : Bool) (ho : o = decide (opAt D (τ 17) t k)) : f_X10_isOpen τ (nI k) t = some (if o = true then 1 else 0, τ) := by
  rw [isOpen_eq hG hq hk, ho]
  simp only [decide_eq_true_eq]
theorem comesMet_ok {D τ : Sg} {p q b : Nat} (hG : MG D τ p q) (hq : q ≤ 8) (t : Int32) (τ0 : Nat → Int32) (h0 : τ 17 = τ0) (Pp : Unit → Sg → Prop)
    (hk : ∀ τ', (∀ c, c ≠ 17 → τ' c = τ c) → (∀ k, k < q → τ' 17 k = metS D τ0 (nI b) t k) → (∀ k, q ≤ k → τ' 17 k = τ0 k) → Ret (f_X10_comesUp_b25 (fun _ _ _ _ => none) τ' (nI b) t (nI q)) Pp) : Ret (f_X10_comesUp_l25 300 τ (nI b) t (0 : Int32)) Pp := by
  refine i_X10_comesUp_l25 q (fun i σ2 x1 x2 x3 => x1 = nI b ∧ x2 = t ∧ x3 = nI i ∧ (∀ c, c ≠ 17 → σ2 c = τ c) ∧ (∀ k, k < i → σ2 17 k = metS D τ0 (nI b) t k) ∧ ∀ k, i ≤ k → σ2 17 k = τ0 k) (fun σ2 x1 x2 x3 r => Ret r Pp) ?_ 300 0 (by omega) (by omega) τ (nI b) t 0 ⟨rfl, rfl, rfl, fun _ _ => rfl, fun k h => absurd h (Nat.not_lt_zero _), fun k _ => by rw [h0]⟩
  intro i k σ2 x1 x2 x3 hi hI ih
  obtain ⟨rfl, rfl, rfl, hs, h1, h2⟩ := hI
  have hG2 : MG D σ2 p q := hG.move (fun k _ => by rw [hs 0 (by omega)]) (fun c g1 g2 => hs c (by omega))
  rcases Nat.lt_or_ge i q with hlt | hge
  · unfold f_X10_comesUp_b25 f_X10_comesUp_b61 f_X10_comesUp_b67
    obtain ⟨g1, g2, g3⟩ := hG2.2.2.2 i hlt
    rw [hG2.2.1, at_go hlt (by omega)]
    simp only [amlet_eq, nI_1, gd_in (show i < 9 by omega) (show 9 < 2 ^ 31 by omega), gd_in (show i < 8 by omega) (show 8 < 2 ^ 31 by omega), cl_nI (show i < 2147483648 by omega), g1]
    have go : ∀ v, v = metS D τ0 (nI b) x2 i → Ret (k (up2 σ2 17 i v) (nI b) x2 (nI (i + 1))) Pp := fun v hv => by
      refine ih _ _ _ _ hlt ⟨rfl, rfl, rfl, fun c h => by rw [up2_off h]; exact hs c h, fun j hj => ?_, fun j hj => ?_⟩
      · rw [up2_at]
        by_cases e : j = i
        · subst e; rw [upd_at, hv]
        · rw [upd_off e]; exact h1 j (by omega)
      · rw [up2_at, upd_off (by omega)]; exact h2 j (by omega)
    by_cases hw : D 11 i = nI b
    · rw [if_pos hw, isOpen_eq hG2 hq hlt, bnd_some]
      by_cases ho : opAt D (σ2 17) x2 i
      · rw [if_pos ho, if_neg (by decide)]
        refine go _ ?_
        unfold metS
        rw [if_pos ⟨hw, by rw [← h2 i (Nat.le_refl _)]; exact ho.2, ho.1⟩]
      · rw [if_neg ho, if_pos rfl]
        refine go _ ?_
        rw [h2 i (Nat.le_refl _)]
        unfold metS
        rw [if_neg (fun q => ho ⟨q.2.2, by rw [h2 i (Nat.le_refl _)]; exact q.2.1⟩)]
    · rw [if_neg hw]
      refine go _ ?_
      rw [h2 i (Nat.le_refl _)]
      unfold metS
      rw [if_neg (fun q => hw q.1)]
  · have e : i = q := by omega
    subst e
    have h := hk σ2 hs h1 h2
    unfold f_X10_comesUp_b25 at h ⊢
    rw [hG2.2.1, at_end (Nat.le_refl _) (by omega)] at h ⊢
    exact h
theorem comesUp_ok {D τ : Sg} {p q b : Nat} {s : RS} (hG : MG D τ p q) (hq : q ≤ 8) (hb : b < 8) (hR : MR τ s) (t : Int32) (ht : ¬ t = -1) : Ret (f_X10_comesUp τ (nI b) t) (fun _ τ' =>
    (∀ c, c ≠ 0 → c ≠ 16 → c ≠ 17 → τ' c = τ c) ∧ (∀ k, k ≠ 20 → k ≠ 23 → k ≠ 24 → k ≠ 25 → τ' 0 k = τ 0 k) ∧
    MR τ' (s.1 ||| ((1 : Int32) <<< (nI b &&& 31)), s.2.1 + (if wantR D q t s b = 0 then 1 else 0), fun k => if k < q then metS D s.2.2.1 (nI b) t k else s.2.2.1 k, upd s.2.2.2.1 b (s.2.2.2.1 b + 1), s.2.2.2.2 ++ [(t, nI b)])) := by
  obtain ⟨r1, r2, r3, r4, r5, r6⟩ := hR
  unfold f_X10_comesUp
  rw [wanted_eq hG hq, bnd_some]
  have hw : wantS D (opAt D (τ 17) t) (nI b) t q = wantR D q t s b := by
    unfold wantR
    refine wantS_congr fun k hk => ⟨rfl, rfl, rfl, ?_⟩
    show (D 12 k ≤ t ∧ τ 17 k = -1) ↔ (D 12 k ≤ t ∧ s.2.2.1 k = -1)
    rw [r3 k (by omega)]
  rw [hw]
  have fin : ∀ w : Int32, w = (if wantR D q t s b = 0 then 1 else 0) → Ret (f_X10_comesUp_b19 τ (nI b) t w (τ 0 23)) (fun _ τ' =>
    (∀ c, c ≠ 0 → c ≠ 16 → c ≠ 17 → τ' c = τ c) ∧ (∀ k, k ≠ 20 → k ≠ 23 → k ≠ 24 → k ≠ 25 → τ' 0 k = τ 0 k) ∧
    MR τ' (s.1 ||| ((1 : Int32) <<< (nI b &&& 31)), s.2.1 + (if wantR D q t s b = 0 then 1 else 0), fun k => if k < q then metS D s.2.2.1 (nI b) t k else s.2.2.1 k, upd s.2.2.2.1 b (s.2.2.2.1 b + 1), s.2.2.2.2 ++ [(t, nI b)])) := by
    intro w hw2
    unfold f_X10_comesUp_b19
    rw [amlet_eq]
    have hG1 : MG D (up2 τ 0 23 (τ 0 23 + w)) p q := hG.move (fun k hk => by rw [up2_at, upd_off (by omega)]) (fun c g1 g2 => up2_off (by omega))
    refine comesMet_ok hG1 hq t (τ 17) (up2_off (by omega)) _ (fun τ' m1 m2 m3 => ?_)
    unfold f_X10_comesUp_b25 f_X10_comesUp_b113 f_X10_comesUp_b133
    have z0 : ∀ k, τ' 0 k = up2 τ 0 23 (τ 0 23 + w) 0 k := fun k => by rw [m1 0 (by omega)]
    have z1 : ∀ k, k ≠ 23 → τ' 0 k = τ 0 k := fun k h => by rw [z0, up2_at, upd_off h]
    rw [z1 7 (by omega), hG.2.1, at_end (Nat.le_refl _) (by omega)]
    simp only [amlet_eq, gd_in hb (show 8 < 2 ^ 31 by omega), cl_nI (show b < 2147483648 by omega)]
    have y1 : ∀ v, up2 τ' 0 20 v 16 = τ 16 := fun v => by rw [up2_off (by omega), m1 16 (by omega), up2_off (by omega)]
    rw [y1]
    have y2 : ∀ v w, up2 (up2 τ' 0 20 v) 16 b w 0 24 = τ 0 24 := fun v w => by rw [up2_off (by omega), up2_at, upd_off (by omega), z1 24 (by omega)]
    have y3 : ∀ v w, up2 (up2 τ' 0 20 v) 16 b w 0 25 = τ 0 25 := fun v w => by rw [up2_off (by omega), up2_at, upd_off (by omega), z1 25 (by omega)]
    rw [y2, y3, z1 20 (by omega)]
    have y4 : ∀ v w x, up2 (up2 (up2 τ' 0 20 v) 16 b w) 0 25 x 0 24 = τ 0 24 := fun v w x => by rw [up2_at, upd_off (by omega), y2]
    simp only [y4]
    have done : ∀ x y : Int32, (s.2.2.2.2 = [] → x = nI b ∧ y = t) → (∀ z l, s.2.2.2.2 = z :: l → x = z.2 ∧ y = z.1) → Ret (some ((), up2 (up2 (up2 (up2 τ' 0 20 (τ 0 20 ||| (1 : Int32) <<< (nI b &&& 31))) 16 b (τ 16 b + 1)) 0 25 x) 0 24 y)) (fun _ τ' =>
      (∀ c, c ≠ 0 → c ≠ 16 → c ≠ 17 → τ' c = τ c) ∧ (∀ k, k ≠ 20 → k ≠ 23 → k ≠ 24 → k ≠ 25 → τ' 0 k = τ 0 k) ∧
      MR τ' (s.1 ||| ((1 : Int32) <<< (nI b &&& 31)), s.2.1 + (if wantR D q t s b = 0 then 1 else 0), fun k => if k < q then metS D s.2.2.1 (nI b) t k else s.2.2.1 k, upd s.2.2.2.1 b (s.2.2.2.1 b + 1), s.2.2.2.2 ++ [(t, nI b)])) := by
      intro x y hx hy
      refine ret_some.mpr ⟨fun c g1 g2 g3 => by rw [up2_off g1, up2_off g1, up2_off g2, up2_off g1, m1 c g3, up2_off g1], fun k g1 g2 g3 g4 => by rw [up2_at, upd_off g3, up2_at, upd_off g4, up2_off (by omega), up2_at, upd_off g1, z1 k g2], ?_, ?_, fun k hk => ?_, fun k hk => ?_, fun h => by simp at h, fun z l h => ?_⟩
      · rw [up2_at, upd_off (by omega), up2_at, upd_off (by omega), up2_off (by omega), up2_at, upd_at, r1]
      · rw [up2_at, upd_off (by omega), up2_at, upd_off (by omega), up2_off (by omega), up2_at, upd_off (by omega), z0, up2_at, upd_at, r2, hw2]
      · rw [up2_off (by omega), up2_off (by omega), up2_off (by omega), up2_off (by omega)]
        show _ = if k < q then _ else _
        by_cases hkq : k < q
        · rw [if_pos hkq, m2 k hkq]
          unfold metS
          rw [r3 k hk]
        · rw [if_neg hkq, m3 k (by omega), r3 k hk]
      · rw [up2_off (by omega), up2_off (by omega), up2_at, up2_off (by omega), m1 16 (by omega), up2_off (by omega)]
        show upd _ b _ k = upd _ b _ k
        by_cases e : k = b
        · subst e; rw [upd_at, upd_at, r4 k hk]
        · rw [upd_off e, upd_off e, r4 k hk]
      · rw [up2_at, upd_at, upd_off (by omega), up2_at, upd_at]
        have h : s.2.2.2.2 ++ [(t, nI b)] = z :: l := h
        cases hc : s.2.2.2.2 with
        | nil =>
          rw [hc] at h
          obtain ⟨hx1, hy1⟩ := hx hc
          simp only [List.nil_append, List.cons.injEq] at h
          rw [← h.1, hx1, hy1]
          exact ⟨⟨rfl, ht⟩, rfl, n_ne (by omega)⟩
        | cons z2 l2 =>
          rw [hc] at h
          obtain ⟨hx1, hy1⟩ := hy z2 l2 hc
          obtain ⟨⟨q1, q2⟩, q3, q4⟩ := r6 z2 l2 hc
          simp only [List.cons_append, List.cons.injEq] at h
          rw [← h.1, hx1, hy1]
          exact ⟨⟨rfl, q2⟩, rfl, q4⟩
    cases hc : s.2.2.2.2 with
    | nil =>
      obtain ⟨f1, f2⟩ := r5 hc
      rw [if_pos f1, if_pos f1]
      exact (hc ▸ done (nI b) t (fun _ => ⟨rfl, rfl⟩) (fun z l h => by rw [hc] at h; cases h))
    | cons z l =>
      obtain ⟨⟨f1, f2⟩, f3, f4⟩ := r6 z l hc
      rw [if_neg (by rw [f1]; exact f2), if_neg (by rw [f1]; exact f2)]
      exact (hc ▸ done (τ 0 25) (τ 0 24) (fun h => by rw [hc] at h; cases h) (fun z2 l2 h => by rw [hc] at h; cases h; exact ⟨f3, f1⟩))
  by_cases hz : wantR D q t s b = 0
  · rw [if_pos hz]
    exact fin 1 (by rw [if_pos hz])
  · rw [if_neg hz]
    exact fin 0 (by rw [if_neg hz])
