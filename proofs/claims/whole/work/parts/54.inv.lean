/-! what holds between the calls: the class's cells, the reference's cells, by one snapshot D -/
def DI (D : Sg) (p : Nat) : Prop := ∀ j k, j < k → k < p → ¬ (D 7 j = D 7 k ∧ D 8 j = D 8 k)
def TX (D : Sg) (p q n0 n1 : Nat) : Prop := n0 ≤ 39 ∧ n1 ≤ 31 ∧ D 1 1 = nI 39 ∧ D 3 1 = nI 31 ∧ D 1 2 = nI n0 ∧ D 3 2 = nI n1 ∧ D 5 0 = nI 5 ∧ D 10 0 = nI 4 ∧ D 5 1 = nI p ∧ D 10 1 = nI q ∧
  FL (gG (D 2)) 5 n0 (D 5 2) ∧ FL (gN (D 4)) 4 n1 (D 10 2) ∧ ((D 5 2 = -1 ∧ p = (n0 + 1) / 5 ∧ vG (D 2) D n0) ∨ (¬ D 5 2 = -1 ∧ p = 0)) ∧ ((D 10 2 = -1 ∧ q = (n1 + 1) / 4 ∧ vN (D 4) D n1) ∨ (¬ D 10 2 = -1 ∧ q = 0))
theorem FL_all {g : Nat → Prop} {st n : Nat} {F : Int32} (h : FL g st n F) (hm : F = -1) (hn : n < 1000) : (∀ j, j < n → g j) ∧ (n = 0 ∨ n % st = st - 1) := by
  rcases h with ⟨p, hp, -, -, e⟩ | ⟨h1, h2⟩
  · rw [e] at hm; exact absurd hm (n_ne (by omega))
  · rcases h2 with ⟨h2, -⟩ | ⟨-, e⟩
    · exact ⟨h1, h2⟩
    · rw [e] at hm; exact absurd hm (n_ne (by omega))
theorem below_nat {x : Int32} {n : Nat} (hn : n < 1000) (h0 : 0 ≤ x) (h : x < nI n) : ∃ m, m < n ∧ x = nI m := by
  rcases pk_ix x (n := n) (by omega) with q | q | q
  · grind
  · grind
  · exact q
theorem sort_three {b : Int32} (h : ¬ sortV b = -1) : sortV b = 0 ∨ sortV b = 1 ∨ sortV b = 2 := by
  unfold sortV at h ⊢
  by_cases h1 : b = 100
  · rw [if_pos h1]; exact Or.inl rfl
  · rw [if_neg h1] at h ⊢
    by_cases h2 : b = 99
    · rw [if_pos h2]; exact Or.inr (Or.inl rfl)
    · rw [if_neg h2] at h ⊢
      by_cases h3 : b = 114
      · rw [if_pos h3]; exact Or.inr (Or.inr rfl)
      · rw [if_neg h3] at h; exact absurd rfl h
theorem TX.goods {D : Sg} {p q n0 n1 : Nat} (h : TX D p q n0 n1) (k : Nat) (hk : k < p) : (∀ r, r < 4 → gG (D 2) (5 * k + r)) ∧ D 6 k = sortV (D 2 (5 * k)) ∧ D 7 k = D 2 (5 * k + 1) - 48 ∧ D 8 k = D 2 (5 * k + 2) - 48 ∧ D 9 k = D 2 (5 * k + 3) - 48 := by
  obtain ⟨h1, h2, h3, h4, h5, h6, h7, h8, h9, h10, hF, hF2, hp, hq⟩ := h
  rcases hp with ⟨hm, ep, hv⟩ | ⟨-, ep⟩
  · obtain ⟨a1, a2⟩ := FL_all hF hm (by omega)
    have hlt : 5 * k + 3 < n0 := by omega
    refine ⟨fun r hr => a1 _ (by omega), ?_, ?_, ?_, ?_⟩
    · have := (hv (5 * k) (by omega)).1 (by omega)
      rwa [show 5 * k / 5 = k by omega] at this
    · have := (hv (5 * k + 1) (by omega)).2.1 (by omega)
      rwa [show (5 * k + 1) / 5 = k by omega] at this
    · have := (hv (5 * k + 2) (by omega)).2.2.1 (by omega)
      rwa [show (5 * k + 2) / 5 = k by omega] at this
    · have := (hv (5 * k + 3) (by omega)).2.2.2 (by omega)
      rwa [show (5 * k + 3) / 5 = k by omega] at this
  · omega
theorem TX.goodn {D : Sg} {p q n0 n1 : Nat} (h : TX D p q n0 n1) (k : Nat) (hk : k < q) : (∀ r, r < 3 → gN (D 4) (4 * k + r)) ∧ D 11 k = D 4 (4 * k) - 48 ∧ D 12 k = D 4 (4 * k + 1) - 97 ∧ D 13 k = D 4 (4 * k + 2) - 48 := by
  obtain ⟨h1, h2, h3, h4, h5, h6, h7, h8, h9, h10, hF, hF2, hp, hq⟩ := h
  rcases hq with ⟨hm, ep, hv⟩ | ⟨-, ep⟩
  · obtain ⟨a1, a2⟩ := FL_all hF2 hm (by omega)
    have hlt : 4 * k + 2 < n1 := by omega
    refine ⟨fun r hr => a1 _ (by omega), ?_, ?_, ?_⟩
    · have := (hv (4 * k) (by omega)).1 (by omega)
      rwa [show 4 * k / 4 = k by omega] at this
    · have := (hv (4 * k + 1) (by omega)).2.1 (by omega)
      rwa [show (4 * k + 1) / 4 = k by omega] at this
    · have := (hv (4 * k + 2) (by omega)).2.2 (by omega)
      rwa [show (4 * k + 2) / 4 = k by omega] at this
  · omega
theorem TX.sizes {D : Sg} {p q n0 n1 : Nat} (h : TX D p q n0 n1) : p ≤ 8 ∧ q ≤ 8 := by
  obtain ⟨h1, h2, h3, h4, h5, h6, h7, h8, h9, h10, hF, hF2, hp, hq⟩ := h
  omega
theorem one_nine {x : Int32} (h1 : ¬ x < 1) (h2 : ¬ 9 < x) : ∃ f, 1 ≤ f ∧ f ≤ 9 ∧ x = nI f := by
  obtain ⟨m, hm, e⟩ := below_nat (x := x) (n := 10) (by omega) (by grind) (by show x < (10 : Int32); grind)
  refine ⟨m, ?_, by omega, e⟩
  rw [e, n_lit 1, p_lt (by omega) (by omega)] at h1
  omega
theorem TX.dok {D : Sg} {p q n0 n1 : Nat} (h : TX D p q n0 n1) : DOK D p q := by
  refine ⟨h.sizes.1, h.sizes.2, ?_, ?_, fun k hk => ?_, fun k hk => ?_⟩
  · obtain ⟨h1, h2, h3, h4, h5, h6, h7, h8, h9, h10, -⟩ := h; exact h9
  · obtain ⟨h1, h2, h3, h4, h5, h6, h7, h8, h9, h10, -⟩ := h; exact h10
  · obtain ⟨g, e6, e7, e8, e9⟩ := h.goods k hk
    have g0 := g 0 (by omega)
    have g1 := g 1 (by omega)
    have g2 := g 2 (by omega)
    have g3 := g 3 (by omega)
    unfold gG at g0 g1 g2 g3
    rw [if_pos (by omega)] at g0
    rw [if_neg (by omega), if_pos (by omega)] at g1
    rw [if_neg (by omega), if_neg (by omega), if_pos (by omega)] at g2
    rw [if_neg (by omega), if_neg (by omega), if_neg (by omega), if_pos (by omega)] at g3
    rw [e6, e7, e8, e9]
    exact ⟨sort_three g0, below_nat (n := 6) (by omega) g1.1 g1.2, below_nat (n := 6) (by omega) g2.1.1 g2.1.2, one_nine g3.1 g3.2⟩
  · obtain ⟨g, e6, e7, e8⟩ := h.goodn k hk
    have g0 := g 0 (by omega)
    have g1 := g 1 (by omega)
    have g2 := g 2 (by omega)
    unfold gN at g0 g1 g2
    rw [if_pos (by omega)] at g0
    rw [if_neg (by omega), if_pos (by omega)] at g1
    rw [if_neg (by omega), if_neg (by omega), if_pos (by omega), fig_eq] at g2
    rw [e6, e7, e8]
    exact ⟨below_nat (n := 8) (by omega) g0.1 g0.2, below_nat (n := 24) (by omega) g1.1 g1.2, one_nine (by grind) (by grind)⟩
theorem TX.di {D : Sg} {p q n0 n1 : Nat} (h : TX D p q n0 n1) : DI D p := by
  intro j k hjk hk hh
  obtain ⟨-, -, e7, e8, -⟩ := h.goods j (by omega)
  obtain ⟨g, -, e7', e8', -⟩ := h.goods k hk
  have g2 := g 2 (by omega)
  unfold gG at g2
  rw [if_neg (by omega), if_neg (by omega), if_pos (by omega), show (5 * k + 2) / 5 = k by omega, show 5 * k + 2 - 1 = 5 * k + 1 by omega] at g2
  exact g2.2 ⟨j, hjk, by rw [← e7, ← e7', hh.1], by rw [← e8, ← e8', hh.2]⟩
def TM (D : Sg) (n0 n1 : Nat) (τ : Sg) : Prop := τ 1 0 = nI n0 ∧ τ 1 1 = nI n1 ∧ (∀ k, k < n0 → τ 2 k = D 2 k) ∧ ∀ k, k < n1 → τ 2 (39 + k) = D 4 k
theorem faultOf_ok {D τ : Sg} {p q n0 n1 : Nat} (h : TX D p q n0 n1) (hT : TM D n0 n1 τ) (a : Int32) : Ret (f_X10_faultOf τ a) (fun r τ' => (∀ c, (c < 3 ∨ 9 < c) → c ≠ 0 → τ' c = τ c) ∧ (∀ k, k ≠ 2 → k ≠ 7 → τ' 0 k = τ 0 k) ∧ MG D τ' p q ∧ r = if a = 0 then D 5 2 else D 10 2) := by
  have hc := h
  have hg := h.goods
  have hn := h.goodn
  obtain ⟨h1, h2, h3, h4, h5, h6, h7, h8, h9, h10, hF, hF2, hp, hq⟩ := h
  obtain ⟨t1, t2, t3, t4⟩ := hT
  unfold f_X10_faultOf
  refine ret_bnd (partsG_ok h1 t1 t3) (fun F τ2 a2 => ?_)
  obtain ⟨a1, a2, a3, a4⟩ := a2
  have eF := FL_one hF a3
  refine ret_bnd (partsN_ok (τ := τ2) (f := D 4) h2 (by rw [a1 1 (by omega) (by omega)]; exact t2) (fun k hk => by rw [a1 2 (by omega) (by omega)]; exact t4 k hk)) (fun F' τ3 b => ?_)
  obtain ⟨b1, b2, b3, b4⟩ := b
  have eF' := FL_one hF2 b3
  have hG : MG D τ3 p q := by
    refine ⟨?_, ?_, fun k hk => ?_, fun k hk => ?_⟩
    · rw [b2 2 (by omega)]
      rcases a4 with ⟨q1, q2, -⟩ | ⟨q1, q2⟩
      · rw [q2]
        rcases hp with ⟨-, e, -⟩ | ⟨e, -⟩
        · rw [e]
        · exact absurd (eF.trans q1) e
      · rw [q2]
        rcases hp with ⟨e, -, -⟩ | ⟨-, e⟩
        · exact absurd (eF.symm.trans e) q1
        · rw [e]; rfl
    · rcases b4 with ⟨q1, q2, -⟩ | ⟨q1, q2⟩
      · rw [q2]
        rcases hq with ⟨-, e, -⟩ | ⟨e, -⟩
        · rw [e]
        · exact absurd (eF'.trans q1) e
      · rw [q2]
        rcases hq with ⟨e, -, -⟩ | ⟨-, e⟩
        · exact absurd (eF'.symm.trans e) q1
        · rw [e]; rfl
    · obtain ⟨-, e6, e7, e8, e9⟩ := hg k hk
      rw [b1 3 (by omega) (by omega), b1 4 (by omega) (by omega), b1 5 (by omega) (by omega), b1 6 (by omega) (by omega), e6, e7, e8, e9]
      rcases a4 with ⟨q1, q2, q3⟩ | ⟨q1, q2⟩
      · refine q3 k ?_
        rcases hp with ⟨-, e, -⟩ | ⟨-, e⟩ <;> omega
      · rcases hp with ⟨e, -, -⟩ | ⟨-, e⟩
        · exact absurd (eF.symm.trans e) q1
        · omega
    · obtain ⟨-, e6, e7, e8⟩ := hn k hk
      rw [e6, e7, e8]
      rcases b4 with ⟨q1, q2, q3⟩ | ⟨q1, q2⟩
      · refine q3 k ?_
        rcases hq with ⟨-, e, -⟩ | ⟨-, e⟩ <;> omega
      · rcases hq with ⟨e, -, -⟩ | ⟨-, e⟩
        · exact absurd (eF'.symm.trans e) q1
        · omega
  have fr : (∀ c, (c < 3 ∨ 9 < c) → c ≠ 0 → τ3 c = τ c) ∧ (∀ k, k ≠ 2 → k ≠ 7 → τ3 0 k = τ 0 k) := ⟨fun c g1 g2 => by rw [b1 c (by omega) g2, a1 c (by omega) g2], fun k g1 g2 => by rw [b2 k g2, a2 k g1]⟩
  by_cases ha : a = 0
  · rw [if_pos ha, if_pos ha]
    exact ret_some.mpr ⟨fr.1, fr.2, hG, eF.symm⟩
  · rw [if_neg ha, if_neg ha]
    exact ret_some.mpr ⟨fr.1, fr.2, hG, eF'.symm⟩
theorem reads_ok {D τ : Sg} {p q n0 n1 : Nat} (h : TX D p q n0 n1) (hT : TM D n0 n1 τ) : Ret (f_X10_reads τ) (fun _ τ' => (∀ c, (c < 3 ∨ 9 < c) → c ≠ 0 → τ' c = τ c) ∧ (∀ k, k ≠ 2 → k ≠ 7 → τ' 0 k = τ 0 k) ∧ MG D τ' p q) := by
  unfold f_X10_reads
  exact ret_bnd (faultOf_ok h hT 0) (fun r τ' b => ret_some.mpr ⟨b.1, b.2.1, b.2.2.1⟩)
