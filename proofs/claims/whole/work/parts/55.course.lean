/-! what a course and the reference's cells tell of a run -/
def HC (D : Sg) (p q n : Nat) (ek ef : Nat → Int32) (en : Nat → Nat) (sel : Nat → Bool) (σ : Sg) (c0 : Nat) : Prop := CR σ c0 (RN D p q n ek ef en sel 24) ∧ ∀ t, t < 24 → σ (c0 + 4) t = (RN D p q n ek ef en sel (t + 1)).1
theorem run_hc {D σ : Sg} {p q c0 c3 n : Nat} {ek ef : Nat → Int32} {en : Nat → Nat} (hD : DOK D p q) (hs : SD D σ) (hE : EOK σ c3 n ek ef en) (hc : 28 ≤ c0) (hc3 : c3 + 4 < 28) (set : Int32) : Ret (f_X0_run c0 c3 σ set) (fun _ σ' => (∀ c, (c < c0 ∨ c0 + 6 < c) → σ' c = σ c) ∧ HC D p q n ek ef en (selI set) σ' c0) := by
  refine ret_mono (run_ok hD hs hE hc hc3 set) (fun _ σ' h => ?_)
  obtain ⟨h1, h2, h3⟩ := h
  refine ⟨h1, h2, fun t ht => ?_⟩
  rw [h3 t ht, ordL_T, ordT_le n en t 24 ht]
  rfl
theorem RN_sel {D : Sg} {p q n : Nat} {ek ef : Nat → Int32} {en : Nat → Nat} {sel sel' : Nat → Bool} (h : ∀ e, e < n → sel e = sel' e) (m : Nat) : RN D p q n ek ef en sel m = RN D p q n ek ef en sel' m := by
  unfold RN
  congr 1
  refine List.filter_congr (fun x hx => h x ?_)
  unfold ordT at hx
  obtain ⟨t, -, h2⟩ := List.mem_flatMap.mp hx
  exact List.mem_range.mp (List.mem_filter.mp h2).1
theorem HC.sel {D σ : Sg} {p q n c0 : Nat} {ek ef : Nat → Int32} {en : Nat → Nat} {sel sel' : Nat → Bool} (h : HC D p q n ek ef en sel σ c0) (e : ∀ e, e < n → sel e = sel' e) : HC D p q n ek ef en sel' σ c0 := by
  obtain ⟨h1, h2⟩ := h
  refine ⟨by rw [← RN_sel e]; exact h1, fun t ht => by rw [← RN_sel e]; exact h2 t ht⟩
theorem HC.move {D σ σ' : Sg} {p q n c0 : Nat} {ek ef : Nat → Int32} {en : Nat → Nat} {sel : Nat → Bool} (h : HC D p q n ek ef en sel σ c0) (e : ∀ c, c0 ≤ c → c ≤ c0 + 6 → σ' c = σ c) : HC D p q n ek ef en sel σ' c0 := by
  obtain ⟨⟨r1, r2, r3, r4, r5, r6⟩, h2⟩ := h
  unfold HC CR
  rw [e c0 (by omega) (by omega), e (c0 + 1) (by omega) (by omega), e (c0 + 3) (by omega) (by omega), e (c0 + 4) (by omega) (by omega), e (c0 + 5) (by omega) (by omega), e (c0 + 6) (by omega) (by omega)]
  exact ⟨⟨r1, r2, r3, r4, r5, r6⟩, h2⟩
theorem and_1 (x : Int32) : x &&& 1 = 0 ∨ x &&& 1 = 1 := by
  have h : ∀ v : BitVec 32, v &&& 1#32 = 0#32 ∨ v &&& 1#32 = 1#32 := by
    intro v
    have e : v &&& 1#32 = BitVec.ofNat 32 (v.toNat % 2) := by
      apply BitVec.eq_of_toNat_eq
      rw [BitVec.toNat_and, BitVec.toNat_ofNat, BitVec.toNat_ofNat, show 1 % 2 ^ 32 = 2 ^ 1 - 1 from rfl, Nat.and_two_pow_sub_one_eq_mod]
      omega
    rw [e]
    rcases Nat.mod_two_eq_zero_or_one v.toNat with q | q
    · rw [q]; exact Or.inl rfl
    · rw [q]; exact Or.inr rfl
  rcases h x.toBitVec with q | q
  · exact Or.inl (Int32.toBitVec_inj.mp (by rw [Int32.toBitVec_and]; exact q))
  · exact Or.inr (Int32.toBitVec_inj.mp (by rw [Int32.toBitVec_and]; exact q))
/-- whether a bit is set -/
abbrev bt (x k : Int32) : Prop := ((x >>> (k &&& 31)) &&& (1 : Int32)) = 1
theorem bt_no {x k : Int32} : ((x >>> (k &&& 31)) &&& (1 : Int32)) = 0 ↔ ¬ bt x k := by
  unfold bt
  rcases and_1 (x >>> (k &&& 31)) with h | h
  · rw [h]; decide
  · rw [h]; decide
noncomputable def b2 (P : Prop) : Int32 := by classical exact if P then 1 else 0
theorem b2_pos {P : Prop} (h : P) : b2 P = 1 := by unfold b2; exact if_pos h
theorem b2_neg {P : Prop} (h : ¬ P) : b2 P = 0 := by unfold b2; exact if_neg h
theorem b2_if {P : Prop} [Decidable P] : b2 P = if P then 1 else 0 := by
  by_cases h : P
  · rw [b2_pos h, if_pos h]
  · rw [b2_neg h, if_neg h]
theorem b2_0 {P : Prop} {α : Type} {x y : α} [Decidable P] : (if b2 P = 0 then x else y) = if P then y else x := by
  by_cases h : P
  · rw [b2_pos h, if_pos h, if_neg (by decide)]
  · rw [b2_neg h, if_neg h, if_pos rfl]
theorem isIn_b (τ : Sg) (a b : Int32) : f_X10_isIn τ a b = some (b2 (bt a b), τ) := by
  rw [isIn_eq]
  by_cases h : bt a b
  · rw [b2_pos h]
    exact congrArg (fun v => some (v, τ)) (if_pos h)
  · rw [b2_neg h]
    exact congrArg (fun v => some (v, τ)) (if_neg h)
def sumI (f : Nat → Int32) : Nat → Int32
  | 0 => 0
  | k + 1 => sumI f k + f k
theorem sumI_s (f : Nat → Int32) (k : Nat) : sumI f (k + 1) = sumI f k + f k := rfl
theorem sumI_congr {f g : Nat → Int32} : ∀ {n : Nat}, (∀ k, k < n → f k = g k) → sumI f n = sumI g n
  | 0, _ => rfl
  | n + 1, h => by rw [sumI_s, sumI_s, sumI_congr (fun k hk => h k (by omega)), h n (by omega)]
/-- the class -/
theorem isUp_b {σ : Sg} {c0 t : Nat} {v x : Int32} (ht : t < 24) (h : σ (c0 + 4) t = v) : f_X0_isUp c0 σ (nI t) x = some (b2 (bt v x), σ) := by
  unfold f_X0_isUp
  rw [gd_in ht (by omega), cl_nI (by omega), h]
  by_cases hb : bt v x
  · rw [b2_pos hb, if_neg (fun q => bt_no.mp q hb)]
  · rw [b2_neg hb, if_pos (bt_no.mpr hb)]
theorem isOpenBehind_ok {σ : Sg} {D : Sg} {p q n : Nat} {ek ef : Nat → Int32} {en : Nat → Nat} {sel : Nat → Bool} {c0 t k : Nat} (hD : DOK D p q) (hs : SD D σ) (h : HC D p q n ek ef en sel σ c0) (ht : t < 24) (hk : k < q) : f_X0_isOpenBehind c0 σ (nI k) (nI t) = some (b2 (opAt D (RN D p q n ek ef en sel (t + 1)).2.2.1 (nI t) k), σ) := by
  have hq8 := hD.2.1
  unfold f_X0_isOpenBehind f_X0_isOpenBehind_b30
  have ob := open_behind (D := D) (q := q) (n := n) (k := k) (ek := ek) (ef := ef) (en := en) (sel := sel) hD.1 ht
  simp only [gd_in (show k < 8 by omega) (show 8 < 2 ^ 31 by omega), cl_nI (show k < 2147483648 by omega), hs 12 (by omega) (by omega), h.1.2.2.1 k (by omega)]
  by_cases h1 : nI t < D 12 k
  · rw [if_pos h1, b2_neg (fun q => by have := (ob.mpr q).1; grind)]
  · rw [if_neg h1]
    by_cases h2 : (RN D p q n ek ef en sel 24).2.2.1 k = -1
    · rw [if_pos h2, b2_pos (ob.mp ⟨by grind, Or.inl h2⟩)]
    · rw [if_neg h2]
      by_cases h3 : (RN D p q n ek ef en sel 24).2.2.1 k ≤ nI t
      · rw [if_pos h3, b2_neg (fun q => by
          rcases (ob.mpr q).2 with g | g
          · exact h2 g
          · grind)]
      · rw [if_neg h3, b2_pos (ob.mp ⟨by grind, Or.inr (by grind)⟩)]
theorem wantedBehind_ok {σ : Sg} {D : Sg} {p q n : Nat} {ek ef : Nat → Int32} {en : Nat → Nat} {sel : Nat → Bool} {c0 t : Nat} (hD : DOK D p q) (hs : SD D σ) (h : HC D p q n ek ef en sel σ c0) (ht : t < 24) (one : Int32) : f_X0_wantedBehind c0 σ (nI t) one = some (wantS D (opAt D (RN D p q n ek ef en sel (t + 1)).2.2.1 (nI t)) one (nI t) q, σ) := by
  have hq8 := hD.2.1
  unfold f_X0_wantedBehind
  refine i_X0_wantedBehind_l6 c0 q (fun i σ2 x2 x3 x4 x5 => σ2 = σ ∧ x2 = nI t ∧ x3 = one ∧ x4 = wantS D (opAt D (RN D p q n ek ef en sel (t + 1)).2.2.1 (nI t)) one (nI t) i ∧ x5 = nI i) (fun σ2 x2 x3 x4 x5 r => r = some (wantS D (opAt D (RN D p q n ek ef en sel (t + 1)).2.2.1 (nI t)) one (nI t) q, σ)) ?_ 300 0 (by omega) (by omega) σ (nI t) one 0 0 ⟨rfl, rfl, rfl, rfl, rfl⟩
  intro i k σ2 x2 x3 x4 x5 hi hI ih
  obtain ⟨rfl, rfl, rfl, rfl, rfl⟩ := hI
  unfold f_X0_wantedBehind_b6 f_X0_wantedBehind_b49
  rw [hs 10 (by omega) (by omega), hD.2.2.2.1]
  rcases Nat.lt_or_ge i q with hlt | hge
  · rw [at_go hlt (by omega)]
    simp only [amlet_eq, nI_1, gd_in (show i < 8 by omega) (show 8 < 2 ^ 31 by omega), cl_nI (show i < 2147483648 by omega), hs 11 (by omega) (by omega)]
    have sw := wantS_s D (opAt D (RN D p q n ek ef en sel (t + 1)).2.2.1 (nI t)) x3 (nI t) i
    by_cases h1 : D 11 i = x3
    · rw [if_pos h1, isOpenBehind_ok hD hs h ht hlt, bnd_some, b2_0]
      by_cases h2 : opAt D (RN D p q n ek ef en sel (t + 1)).2.2.1 (nI t) i
      · rw [if_pos h2, weightOn_eq (by omega), bnd_some]
        rw [if_pos ⟨h1, h2⟩] at sw
        refine ih _ _ _ _ _ hlt ⟨rfl, rfl, rfl, ?_, rfl⟩
        rw [sw]
        unfold wt
        rw [hs 12 (by omega) (by omega), hs 13 (by omega) (by omega)]
      · rw [if_neg h2]
        rw [if_neg (fun q => h2 q.2)] at sw
        exact ih _ _ _ _ _ hlt ⟨rfl, rfl, rfl, by rw [sw]; simp, rfl⟩
    · rw [if_neg h1]
      rw [if_neg (fun q => h1 q.1)] at sw
      exact ih _ _ _ _ _ hlt ⟨rfl, rfl, rfl, by rw [sw]; simp, rfl⟩
  · have e : i = q := by omega
    subst e
    rw [at_end (Nat.le_refl _) (by omega)]
theorem openBehind_ok {σ : Sg} {D : Sg} {p q n : Nat} {ek ef : Nat → Int32} {en : Nat → Nat} {sel : Nat → Bool} {c0 t : Nat} (hD : DOK D p q) (hs : SD D σ) (h : HC D p q n ek ef en sel σ c0) (ht : t < 24) : f_X0_openBehind c0 σ (nI t) = some (openR D (nI t) (RN D p q n ek ef en sel (t + 1)) q, σ) := by
  have hq8 := hD.2.1
  unfold f_X0_openBehind
  refine i_X0_openBehind_l5 c0 q (fun i σ2 x2 x3 x4 => σ2 = σ ∧ x2 = nI t ∧ x3 = openR D (nI t) (RN D p q n ek ef en sel (t + 1)) i ∧ x4 = nI i) (fun σ2 x2 x3 x4 r => r = some (openR D (nI t) (RN D p q n ek ef en sel (t + 1)) q, σ)) ?_ 300 0 (by omega) (by omega) σ (nI t) 0 0 ⟨rfl, rfl, rfl, rfl⟩
  intro i k σ2 x2 x3 x4 hi hI ih
  obtain ⟨rfl, rfl, rfl, rfl⟩ := hI
  unfold f_X0_openBehind_b5 f_X0_openBehind_b28
  rw [hs 10 (by omega) (by omega), hD.2.2.2.1]
  rcases Nat.lt_or_ge i q with hlt | hge
  · rw [at_go hlt (by omega), isOpenBehind_ok hD hs h ht hlt, bnd_some, b2_0]
    simp only [amlet_eq, nI_1]
    have so : openR D (nI t) (RN D p q n ek ef en sel (t + 1)) (i + 1) = openR D (nI t) (RN D p q n ek ef en sel (t + 1)) i + (if opAt D (RN D p q n ek ef en sel (t + 1)).2.2.1 (nI t) i then 1 else 0) := rfl
    by_cases h2 : opAt D (RN D p q n ek ef en sel (t + 1)).2.2.1 (nI t) i
    · rw [if_pos h2]
      rw [if_pos h2] at so
      exact ih _ _ _ _ hlt ⟨rfl, rfl, so.symm, rfl⟩
    · rw [if_neg h2]
      rw [if_neg h2] at so
      exact ih _ _ _ _ hlt ⟨rfl, rfl, by rw [so]; simp, rfl⟩
  · have e : i = q := by omega
    subst e
    rw [at_end (Nat.le_refl _) (by omega)]
theorem timesUpBy_ok {σ : Sg} {D : Sg} {p q n : Nat} {ek ef : Nat → Int32} {en : Nat → Nat} {sel : Nat → Bool} {c0 t k : Nat} (hD : DOK D p q) (h : HC D p q n ek ef en sel σ c0) (hl : (RN D p q n ek ef en sel 24).2.2.2.2.length ≤ 9) (ht : t < 24) (hk : k < 8) : f_X0_timesUpBy c0 σ (nI t) (nI k) = some ((RN D p q n ek ef en sel (t + 1)).2.2.2.1 k, σ) := by
  rw [← times_behind hD.1 ht hk]
  obtain ⟨⟨-, -, -, -, h5, h6⟩, -⟩ := h
  generalize (RN D p q n ek ef en sel 24).2.2.2.2 = l at h5 h6 hl ⊢
  unfold f_X0_timesUpBy
  refine i_X0_timesUpBy_l5 c0 l.length (fun i σ2 x1 x2 x3 x4 => σ2 = σ ∧ x1 = nI t ∧ x2 = nI k ∧ x3 = nI ((l.take i).countP (fun x => decide (x.2 = nI k ∧ x.1 ≤ nI t))) ∧ x4 = nI i) (fun σ2 x1 x2 x3 x4 r => r = some (nI (l.countP (fun x => decide (x.2 = nI k ∧ x.1 ≤ nI t))), σ)) ?_ 300 0 (by omega) (by omega) σ (nI t) (nI k) 0 0 ⟨rfl, rfl, rfl, rfl, rfl⟩
  intro i kk σ2 x1 x2 x3 x4 hi hI ih
  obtain ⟨rfl, rfl, rfl, rfl, rfl⟩ := hI
  unfold f_X0_timesUpBy_b5 f_X0_timesUpBy_b39
  rw [h5]
  rcases Nat.lt_or_ge i l.length with hlt | hge
  · rw [at_go hlt (by omega)]
    simp only [amlet_eq, nI_1, gd_in (show i < 9 by omega) (show 9 < 2 ^ 31 by omega), cl_nI (show i < 2147483648 by omega)]
    have e1 : l.take (i + 1) = l.take i ++ [(σ2 (c0 + 5) i, σ2 (c0 + 6) i)] := by
      rw [List.take_add_one, h6 i hlt]
      rfl
    have e2 : (l.take (i + 1)).countP (fun x => decide (x.2 = nI k ∧ x.1 ≤ nI t)) = (l.take i).countP (fun x => decide (x.2 = nI k ∧ x.1 ≤ nI t)) + (if σ2 (c0 + 6) i = nI k ∧ σ2 (c0 + 5) i ≤ nI t then 1 else 0) := by
      rw [e1, List.countP_append, List.countP_singleton]
      simp only [decide_eq_true_eq]
    by_cases h1 : σ2 (c0 + 6) i = nI k
    · rw [if_pos h1]
      by_cases h2 : nI t < σ2 (c0 + 5) i
      · rw [if_pos h2]
        rw [if_neg (fun q => by have := q.2; grind)] at e2
        exact ih _ _ _ _ _ hlt ⟨rfl, rfl, rfl, by rw [e2]; rfl, rfl⟩
      · rw [if_neg h2]
        rw [if_pos ⟨h1, by grind⟩] at e2
        exact ih _ _ _ _ _ hlt ⟨rfl, rfl, rfl, by rw [e2], rfl⟩
    · rw [if_neg h1]
      rw [if_neg (fun q => h1 q.1)] at e2
      exact ih _ _ _ _ _ hlt ⟨rfl, rfl, rfl, by rw [e2]; rfl, rfl⟩
  · have e : i = l.length := by omega
    subst e
    rw [at_end (Nat.le_refl _) (by omega), List.take_length]
noncomputable def stS (R : Nat → RS) (k : Int32) : Int32 := sumI (fun t => b2 (bt (R (t + 1)).1 k)) 24
theorem nightsUp_ok {σ : Sg} {R : Nat → RS} {c0 : Nat} (h : ∀ t, t < 24 → σ (c0 + 4) t = (R (t + 1)).1) (k : Int32) : f_X0_nightsUp c0 σ k = some (stS R k, σ) := by
  unfold f_X0_nightsUp
  refine i_X0_nightsUp_l4 c0 24 (fun i σ2 x1 x2 x3 => σ2 = σ ∧ x1 = k ∧ x2 = sumI (fun t => b2 (bt (R (t + 1)).1 k)) i ∧ x3 = nI i) (fun σ2 x1 x2 x3 r => r = some (stS R k, σ)) ?_ 300 0 (by omega) (by omega) σ k 0 0 ⟨rfl, rfl, rfl, rfl⟩
  intro i kk σ2 x1 x2 x3 hi hI ih
  obtain ⟨rfl, rfl, rfl, rfl⟩ := hI
  unfold f_X0_nightsUp_b4 f_X0_nightsUp_b22
  rw [n_lit 24]
  rcases Nat.lt_or_ge i 24 with hlt | hge
  · rw [at_go hlt (by omega), isUp_b hlt (h i hlt), bnd_some]
    simp only [amlet_eq, nI_1]
    have ss := sumI_s (fun t => b2 (bt (R (t + 1)).1 x1)) i
    by_cases hb : bt (R (i + 1)).1 x1
    · simp only [b2_pos hb] at ss ⊢
      rw [if_neg (by decide)]
      exact ih _ _ _ _ hlt ⟨rfl, rfl, ss.symm, rfl⟩
    · simp only [b2_neg hb] at ss ⊢
      rw [if_pos trivial]
      exact ih _ _ _ _ hlt ⟨rfl, rfl, by rw [ss]; simp, rfl⟩
  · have e : i = 24 := by omega
    subst e
    rw [at_end (Nat.le_refl _) (by omega)]
    rfl
noncomputable def mtS (f : Nat → Int32) (q : Nat) : Int32 := sumI (fun k => b2 (¬ f k = -1)) q
theorem howManyMet_ok {σ : Sg} {f : Nat → Int32} {q c0 : Nat} (hq : q ≤ 8) (h10 : σ 10 1 = nI q) (h : ∀ k, k < 8 → σ (c0 + 1) k = f k) : f_X0_howManyMet c0 σ = some (mtS f q, σ) := by
  unfold f_X0_howManyMet
  refine i_X0_howManyMet_l4 c0 q (fun i σ2 x2 x3 => σ2 = σ ∧ x2 = sumI (fun k => b2 (¬ f k = -1)) i ∧ x3 = nI i) (fun σ2 x2 x3 r => r = some (mtS f q, σ)) ?_ 300 0 (by omega) (by omega) σ 0 0 ⟨rfl, rfl, rfl⟩
  intro i kk σ2 x2 x3 hi hI ih
  obtain ⟨rfl, rfl, rfl⟩ := hI
  unfold f_X0_howManyMet_b4 f_X0_howManyMet_b25
  rw [h10]
  rcases Nat.lt_or_ge i q with hlt | hge
  · rw [at_go hlt (by omega)]
    simp only [amlet_eq, nI_1, gd_in (show i < 8 by omega) (show 8 < 2 ^ 31 by omega), cl_nI (show i < 2147483648 by omega), h i (by omega)]
    have ss := sumI_s (fun k => b2 (¬ f k = -1)) i
    by_cases hb : f i = -1
    · rw [if_pos hb]
      rw [show b2 (¬ f i = -1) = 0 from b2_neg (fun q => q hb)] at ss
      exact ih _ _ _ hlt ⟨rfl, by rw [ss]; simp, rfl⟩
    · rw [if_neg hb]
      rw [show b2 (¬ f i = -1) = 1 from b2_pos hb] at ss
      exact ih _ _ _ hlt ⟨rfl, ss.symm, rfl⟩
  · have e : i = q := by omega
    subst e
    rw [at_end (Nat.le_refl _) (by omega)]
    rfl
/-- the reference -/
theorem stoodNow_ok {τ : Sg} {R : Nat → RS} (h : ∀ t, t < 24 → τ 20 t = (R (t + 1)).1) (k : Int32) : f_X10_stoodNow τ k = some (stS R k, τ) := by
  unfold f_X10_stoodNow
  refine i_X10_stoodNow_l4 24 (fun i σ2 x1 x2 x3 => σ2 = τ ∧ x1 = k ∧ x2 = sumI (fun t => b2 (bt (R (t + 1)).1 k)) i ∧ x3 = nI i) (fun σ2 x1 x2 x3 r => r = some (stS R k, τ)) ?_ 300 0 (by omega) (by omega) τ k 0 0 ⟨rfl, rfl, rfl, rfl⟩
  intro i kk σ2 x1 x2 x3 hi hI ih
  obtain ⟨rfl, rfl, rfl, rfl⟩ := hI
  unfold f_X10_stoodNow_b4 f_X10_stoodNow_b29
  rw [n_lit 24]
  rcases Nat.lt_or_ge i 24 with hlt | hge
  · rw [at_go hlt (by omega), gd_in hlt (by omega), cl_nI (by omega), h i hlt, isIn_b, bnd_some]
    simp only [amlet_eq, nI_1]
    have ss := sumI_s (fun t => b2 (bt (R (t + 1)).1 x1)) i
    by_cases hb : bt (R (i + 1)).1 x1
    · simp only [b2_pos hb] at ss ⊢
      rw [if_neg (by decide)]
      exact ih _ _ _ _ hlt ⟨rfl, rfl, ss.symm, rfl⟩
    · simp only [b2_neg hb] at ss ⊢
      rw [if_pos trivial]
      exact ih _ _ _ _ hlt ⟨rfl, rfl, ss.symm, rfl⟩
  · have e : i = 24 := by omega
    subst e
    rw [at_end (Nat.le_refl _) (by omega)]
    rfl
theorem metNow_ok {τ : Sg} {f : Nat → Int32} {q : Nat} (hq : q ≤ 8) (h7 : τ 0 7 = nI q) (h : ∀ k, k < 8 → τ 17 k = f k) : f_X10_metNow τ = some (mtS f q, τ) := by
  unfold f_X10_metNow
  refine i_X10_metNow_l4 q (fun i σ2 x2 x3 => σ2 = τ ∧ x2 = sumI (fun k => b2 (¬ f k = -1)) i ∧ x3 = nI i) (fun σ2 x2 x3 r => r = some (mtS f q, τ)) ?_ 300 0 (by omega) (by omega) τ 0 0 ⟨rfl, rfl, rfl⟩
  intro i kk σ2 x2 x3 hi hI ih
  obtain ⟨rfl, rfl, rfl⟩ := hI
  unfold f_X10_metNow_b4 f_X10_metNow_b28
  rw [h7]
  rcases Nat.lt_or_ge i q with hlt | hge
  · rw [at_go hlt (by omega)]
    simp only [amlet_eq, nI_1, gd_in (show i < 8 by omega) (show 8 < 2 ^ 31 by omega), cl_nI (show i < 2147483648 by omega), h i (by omega)]
    have ss := sumI_s (fun k => b2 (¬ f k = -1)) i
    by_cases hb : f i = -1
    · rw [if_pos hb]
      rw [show b2 (¬ f i = -1) = 0 from b2_neg (fun q => q hb)] at ss
      exact ih _ _ _ hlt ⟨rfl, ss.symm, rfl⟩
    · rw [if_neg hb]
      rw [show b2 (¬ f i = -1) = 1 from b2_pos hb] at ss
      exact ih _ _ _ hlt ⟨rfl, ss.symm, rfl⟩
  · have e : i = q := by omega
    subst e
    rw [at_end (Nat.le_refl _) (by omega)]
    rfl
