/-! chance: numbers -/
theorem sumN_s (f : Nat → Nat) (k : Nat) : sumN f (k + 1) = sumN f k + f k := rfl
theorem sumN_congr {f g : Nat → Nat} : ∀ {n : Nat}, (∀ k, k < n → f k = g k) → sumN f n = sumN g n
  | 0, _ => rfl
  | n + 1, h => by rw [sumN_s, sumN_s, sumN_congr (fun k hk => h k (by omega)), h n (by omega)]
theorem sumN_add (f g : Nat → Nat) : ∀ n, sumN (fun i => f i + g i) n = sumN f n + sumN g n
  | 0 => rfl
  | n + 1 => by rw [sumN_s, sumN_s, sumN_s, sumN_add f g n]; omega
theorem sumN_head (f : Nat → Nat) : ∀ n, sumN f (n + 1) = f 0 + sumN (fun i => f (i + 1)) n
  | 0 => by rw [sumN_s]; show 0 + f 0 = f 0 + 0; omega
  | n + 1 => by rw [sumN_s, sumN_head f n, sumN_s]; omega
theorem sumN_rev : ∀ (n : Nat) (f : Nat → Nat), sumN (fun s => f (n - s)) (n + 1) = sumN f (n + 1)
  | 0, f => rfl
  | n + 1, f => by
    rw [sumN_head, sumN_s f (n + 1), Nat.sub_zero, ← sumN_rev n f]
    have : sumN (fun i => f (n + 1 - (i + 1))) (n + 1) = sumN (fun s => f (n - s)) (n + 1) := sumN_congr fun k hk => by rw [show n + 1 - (k + 1) = n - k by omega]
    rw [this]
    omega
theorem sumN_le {f : Nat → Nat} {c : Nat} : ∀ {n : Nat}, (∀ i, i < n → f i ≤ c) → sumN f n ≤ n * c
  | 0, _ => Nat.zero_le _
  | n + 1, h => by
    have h1 := sumN_le (n := n) (fun i hi => h i (by omega))
    have h2 := h n (by omega)
    rw [sumN_s, Nat.succ_mul]
    omega
theorem sumN_delta (x : Nat) (P : Prop) [Decidable P] (W : Nat → Nat) : ∀ m, sumN (fun num => (if x = num ∧ P then 1 else 0) * W num) m = if P ∧ x < m then W x else 0
  | 0 => by rw [if_neg (fun q => Nat.not_lt_zero _ q.2)]; rfl
  | m + 1 => by
    rw [sumN_s, sumN_delta x P W m]
    by_cases hP : P
    · by_cases h : x = m
      · rw [if_neg (show ¬ (P ∧ x < m) from fun q => by have := q.2; omega), if_pos (show x = m ∧ P from ⟨h, hP⟩), if_pos (show P ∧ x < m + 1 from ⟨hP, by omega⟩), h]; omega
      · by_cases h2 : x < m
        · rw [if_pos (show P ∧ x < m from ⟨hP, h2⟩), if_neg (show ¬ (x = m ∧ P) from fun q => h q.1), if_pos (show P ∧ x < m + 1 from ⟨hP, by omega⟩)]; omega
        · rw [if_neg (show ¬ (P ∧ x < m) from fun q => h2 q.2), if_neg (show ¬ (x = m ∧ P) from fun q => h q.1), if_neg (show ¬ (P ∧ x < m + 1) from fun q => by have := q.2; omega)]; omega
    · rw [if_neg (show ¬ (P ∧ x < m) from fun q => hP q.1), if_neg (show ¬ (x = m ∧ P) from fun q => hP q.2), if_neg (show ¬ (P ∧ x < m + 1) from fun q => hP q.1)]; omega
theorem sumN_mulr (f : Nat → Nat) (c : Nat) : ∀ n, sumN f n * c = sumN (fun i => f i * c) n
  | 0 => Nat.zero_mul _
  | n + 1 => by rw [sumN_s, sumN_s, Nat.add_mul, sumN_mulr f c n]
theorem sumN_swap (pc : Nat → Nat) (P : Nat → Prop) [DecidablePred P] (W : Nat → Nat) (m : Nat) : ∀ N, sumN (fun num => sumN (fun s => if pc s = num ∧ P s then 1 else 0) N * W num) m = sumN (fun s => if P s ∧ pc s < m then W (pc s) else 0) N
  | 0 => by
    have : ∀ m, sumN (fun num => sumN (fun s => if pc s = num ∧ P s then 1 else 0) 0 * W num) m = 0 := fun m => by
      induction m with
      | zero => rfl
      | succ m ih => rw [sumN_s, ih]; show 0 + 0 * W m = 0; omega
    exact this m
  | N + 1 => by
    rw [sumN_s, ← sumN_swap pc P W m N, ← sumN_delta (pc N) (P N) W m, ← sumN_add]
    refine sumN_congr fun k hk => ?_
    rw [sumN_s, Nat.add_mul]
/-- sets of at most eight -/
theorem fa1 : ∀ n, n < 9 → ∀ s, s < 2 ^ n → popc s ≤ n ∧ popc (2 ^ n - 1 - s) = n - popc s ∧ bcV (nI s) = nI (popc s) ∧ sumN (fun i => if s.testBit i = true then 1 else 0) n = popc s := by decide +kernel
theorem fa2 : ∀ n, n < 9 → ∀ s, s < 2 ^ n → ∀ e, e < n → selM (nI s) e = selB (2 ^ n - 1 - s) e ∧ selI (nI s) e = selB s e ∧ (bt (nI s) (nI e) ↔ s.testBit e = true) := by decide +kernel
theorem fa3 : ∀ n, n < 9 → (1 : Int32) <<< (nI n &&& 31) = nI (2 ^ n) ∧ (1 : Int64) <<< (((4 : Int32) * nI n).toInt64 &&& 63) = lN (16 ^ n) ∧ 2 ^ n ≤ 256 ∧ 16 ^ n ≤ 4294967296 ∧ 16 ^ n = 2 ^ (4 * n) := by decide +kernel
def WN (c n num : Nat) : Nat := c ^ num * (16 - c) ^ (n - num)
def wN (c s : Nat) : Nat → Nat
  | 0 => 1
  | e + 1 => wN c s e * (if s.testBit e = true then 16 - c else c)
theorem wN_s (c s e : Nat) : wN c s (e + 1) = wN c s e * (if s.testBit e = true then 16 - c else c) := rfl
theorem wN_le (c s : Nat) (hc : c ≤ 16) : ∀ e, wN c s e ≤ 16 ^ e
  | 0 => Nat.le_refl _
  | e + 1 => by
    rw [wN_s, Nat.pow_succ]
    refine Nat.mul_le_mul (wN_le c s hc e) ?_
    by_cases h : s.testBit e = true
    · rw [if_pos h]; omega
    · rw [if_neg h]; exact hc
theorem ps_le (s : Nat) : ∀ e, sumN (fun i => if s.testBit i = true then 1 else 0) e ≤ e
  | 0 => Nat.le_refl _
  | e + 1 => by
    have := ps_le s e
    rw [sumN_s]
    by_cases h : s.testBit e = true
    · rw [if_pos h]; omega
    · rw [if_neg h]; omega
theorem wN_eq (c s : Nat) : ∀ e, wN c s e = c ^ (e - sumN (fun i => if s.testBit i = true then 1 else 0) e) * (16 - c) ^ (sumN (fun i => if s.testBit i = true then 1 else 0) e)
  | 0 => rfl
  | e + 1 => by
    have hle := ps_le s e
    rw [wN_s, wN_eq c s e, sumN_s]
    generalize sumN (fun i => if s.testBit i = true then 1 else 0) e = P at hle
    by_cases h : s.testBit e = true
    · rw [if_pos h, if_pos h, show e + 1 - (P + 1) = e - P by omega, Nat.pow_succ, Nat.mul_assoc]
    · rw [if_neg h, if_neg h, show e + 1 - (P + 0) = (e - P) + 1 by omega, Nat.pow_succ, Nat.add_zero, Nat.mul_assoc, Nat.mul_assoc, Nat.mul_comm c]
theorem wN_W {c n s : Nat} (hn : n < 9) (hs : s < 2 ^ n) : wN c s n = WN c n (popc (2 ^ n - 1 - s)) := by
  obtain ⟨h1, h2, h3, h4⟩ := fa1 n hn s hs
  rw [wN_eq, h4, h2]
  unfold WN
  rw [show n - (n - popc s) = popc s by omega]
/-- what is met by a set, weighed: by sizes, by sets -/
def chA (D : Sg) (p q n : Nat) (ek ef : Nat → Int32) (en : Nat → Nat) (c k : Nat) (m : Nat) : Nat := sumN (fun num => setsC D p q n ek ef en k num * WN c n num) m
def chS (D : Sg) (p q n : Nat) (ek ef : Nat → Int32) (en : Nat → Nat) (c k : Nat) (N : Nat) : Nat := sumN (fun s => if (RN D p q n ek ef en (selM (nI s)) 24).2.2.1 k = -1 then 0 else wN c s n) N
theorem ch_same (D : Sg) (p q n : Nat) (ek ef : Nat → Int32) (en : Nat → Nat) (c k : Nat) (hn : n < 9) : chS D p q n ek ef en c k (2 ^ n) = chA D p q n ek ef en c k (n + 1) := by
  have h1 : chA D p q n ek ef en c k (n + 1) = sumN (fun s => if (RN D p q n ek ef en (selB s) 24).2.2.1 k = -1 then 0 else WN c n (popc s)) (2 ^ n) := by
    unfold chA setsC
    rw [sumN_swap popc (fun s => ¬ (RN D p q n ek ef en (selB s) 24).2.2.1 k = -1) (WN c n) (n + 1) (2 ^ n)]
    refine sumN_congr fun s hs => ?_
    have := (fa1 n hn s hs).1
    by_cases h : (RN D p q n ek ef en (selB s) 24).2.2.1 k = -1
    · rw [if_neg (fun q => q.1 h), if_pos h]
    · rw [if_pos ⟨h, by omega⟩, if_neg h]
  rw [h1]
  have hp : 2 ^ n = (2 ^ n - 1) + 1 := by have := Nat.two_pow_pos n; omega
  have h2 := sumN_rev (2 ^ n - 1) (fun s => if (RN D p q n ek ef en (selB s) 24).2.2.1 k = -1 then 0 else WN c n (popc s))
  rw [← hp] at h2
  rw [← h2]
  unfold chS
  refine sumN_congr fun s hs => ?_
  rw [RN_sel (sel' := selB (2 ^ n - 1 - s)) (fun e he => (fa2 n hn s hs e he).1), wN_W hn hs]
theorem chS_le (D : Sg) (p q n : Nat) (ek ef : Nat → Int32) (en : Nat → Nat) (c k N : Nat) (hc : c ≤ 16) : chS D p q n ek ef en c k N ≤ N * 16 ^ n := sumN_le fun i hi => by
  by_cases h : (RN D p q n ek ef en (selM (nI i)) 24).2.2.1 k = -1
  · rw [if_pos h]; exact Nat.zero_le _
  · rw [if_neg h]; exact wN_le c i hc n
/-- in lowest terms -/
theorem low_fin {A B a b j : Nat} (hA : A = a * 2 ^ j) (hB : B = b * 2 ^ j) (h : Nat.gcd a b = 1) : A / Nat.gcd A B = a ∧ B / Nat.gcd A B = b := by
  have hp := Nat.two_pow_pos j
  rw [hA, hB, Nat.gcd_mul_right, h, Nat.one_mul]
  exact ⟨Nat.mul_div_cancel a hp, Nat.mul_div_cancel b hp⟩
theorem odd_gcd {a e : Nat} (h : ¬ a % 2 = 0) : Nat.gcd a (2 ^ e) = 1 := by
  have h2 : Nat.Coprime a 2 := by
    show Nat.gcd a 2 = 1
    rw [Nat.gcd_comm, Nat.gcd_rec, show a % 2 = 1 by omega]
    decide
  exact Nat.Coprime.pow_right e h2
theorem euclid (σ : Sg) {A B : Nat} (hA : A < 2 ^ 63) (hB : B < 2 ^ 63) (x4 : Int32) : ∀ (k N x y : Nat), k ≤ 62 → y < 2 ^ k → 2 * k < N → x < 2 ^ 63 → (0 < x ∨ 0 < y) → f_X10_lowest_l6 N σ (lN A) (lN B) x4 (lN x) (lN y) = some (if x4 = 0 then lN (A / Nat.gcd x y) else lN (B / Nat.gcd x y), σ) := by
  have z : ∀ (N x : Nat), 0 < N → x < 2 ^ 63 → 0 < x → f_X10_lowest_l6 N σ (lN A) (lN B) x4 (lN x) (lN 0) = some (if x4 = 0 then lN (A / Nat.gcd x 0) else lN (B / Nat.gcd x 0), σ) := by
    intro N x hN hx h0
    obtain ⟨N, rfl⟩ : ∃ N', N = N' + 1 := ⟨N - 1, by omega⟩
    show f_X10_lowest_b6 (f_X10_lowest_l6 N) σ (lN A) (lN B) x4 (lN x) (lN 0) = _
    unfold f_X10_lowest_b6
    have hne : ¬ lN x = 0 := fun q => by
      have q : lN x = lN 0 := q
      rw [pk_lEQ hx (by omega)] at q; omega
    rw [if_pos (by decide), Nat.gcd_zero_right, gd_true (decide_eq_true hne), gd_true (decide_eq_true hne), pk_lDiv hA h0 hx, pk_lDiv hB h0 hx]
    by_cases h : x4 = 0
    · rw [if_pos h, if_pos h]
    · rw [if_neg h, if_neg h]
  have st : ∀ (N x y : Nat), 0 < N → x < 2 ^ 63 → y < 2 ^ 63 → 0 < y → f_X10_lowest_l6 N σ (lN A) (lN B) x4 (lN x) (lN y) = f_X10_lowest_l6 (N - 1) σ (lN A) (lN B) x4 (lN y) (lN (x % y)) := by
    intro N x y hN hx hy h0
    obtain ⟨N, rfl⟩ : ∃ N', N = N' + 1 := ⟨N - 1, by omega⟩
    show f_X10_lowest_b6 (f_X10_lowest_l6 N) σ (lN A) (lN B) x4 (lN x) (lN y) = f_X10_lowest_l6 N σ (lN A) (lN B) x4 (lN y) (lN (x % y))
    unfold f_X10_lowest_b6
    have hne : ¬ lN y = 0 := fun q => by
      have q : lN y = lN 0 := q
      rw [pk_lEQ hy (by omega)] at q; omega
    rw [if_neg (fun q => hne ((lg_cmp_eq _ _).mp q)), gd_true (decide_eq_true hne), pk_lRem hx h0 hy, amlet_eq]
  intro k
  induction k with
  | zero =>
    intro N x y hk hy hN hx h0
    have : y = 0 := by simpa using hy
    subst this
    exact z N x (by omega) hx (by omega)
  | succ k ih =>
    intro N x y hk hy hN hx h0
    have hyb : y < 2 ^ 63 := Nat.lt_of_lt_of_le hy (Nat.pow_le_pow_right (by omega) (by omega))
    by_cases e : y = 0
    · subst e
      exact z N x (by omega) hx (by omega)
    · rw [st N x y (by omega) hx hyb (by omega)]
      have hr : x % y < y := Nat.mod_lt _ (by omega)
      have g1 : Nat.gcd x y = Nat.gcd y (x % y) := by rw [Nat.gcd_comm x y, Nat.gcd_rec y x, Nat.gcd_comm]
      rw [g1]
      by_cases e2 : x % y = 0
      · rw [e2]
        exact z (N - 1) y (by omega) hyb (by omega)
      · rw [st (N - 1) y (x % y) (by omega) hyb (by omega) (by omega)]
        have g2 : Nat.gcd y (x % y) = Nat.gcd (x % y) (y % (x % y)) := by rw [Nat.gcd_comm y, Nat.gcd_rec (x % y) y, Nat.gcd_comm]
        rw [g2]
        generalize hrr : x % y = r at *
        have h1 : y % r < r := Nat.mod_lt _ (by omega)
        have h2 : y % r + r ≤ y := by
          have := Nat.mod_add_div y r
          have h3 : 1 ≤ y / r := Nat.div_pos (by omega) (by omega)
          have h4 : r * 1 ≤ r * (y / r) := Nat.mul_le_mul (Nat.le_refl _) h3
          omega
        rw [Nat.pow_succ] at hy
        exact ih (N - 1 - 1) r (y % r) (by omega) (by omega) (by omega) (by omega) (by omega)
noncomputable def vCh (D : Sg) (p q n : Nat) (ek ef : Nat → Int32) (en : Nat → Nat) (c k : Nat) (a : Int32) : Int64 := if a = 0 then lN (chA D p q n ek ef en c k (n + 1) / Nat.gcd (chA D p q n ek ef en c k (n + 1)) (16 ^ n)) else lN (16 ^ n / Nat.gcd (chA D p q n ek ef en c k (n + 1)) (16 ^ n))
/-- the class counts the sets -/
abbrev valS (D : Sg) (p q n : Nat) (ek ef : Nat → Int32) (en : Nat → Nat) (k num s : Nat) : Nat := sumN (fun s => if popc s = num ∧ ¬ (RN D p q n ek ef en (selB s) 24).2.2.1 k = -1 then 1 else 0) s
theorem tally_ok {D : Sg} {p q n0 n1 n m : Nat} {ek ef : Nat → Int32} {en : Nat → Nat} {σ : Sg} (h : XI D p q n0 n1 n m ek ef en σ) : Ret (f_X5_tally 14 35 σ) (fun _ σ' => (∀ c, (c < 35 ∨ (41 < c ∧ c ≠ 43)) → σ' c = σ c) ∧ OC D p q n ek ef en σ') := by
  have hn8 := h.2.2.2.1
  have hp8 := h.1.sizes
  obtain ⟨f1, f2, f3, f4, f5⟩ := fa3 n (by omega)
  have main : ∀ σ1 : Sg, (∀ c, (c < 35 ∨ (41 < c ∧ c ≠ 43)) → σ1 c = σ c) → (∀ x, x < 72 → σ1 43 x = 0) → Ret (f_X5_tally_l40 14 35 300 σ1 (nI (2 ^ n)) (0 : Int32)) (fun _ σ' => (∀ c, (c < 35 ∨ (41 < c ∧ c ≠ 43)) → σ' c = σ c) ∧ OC D p q n ek ef en σ') := by
    intro σ1 a1 a2
    refine i_X5_tally_l40 14 35 (2 ^ n) (fun s σ2 x5 x6 => x5 = nI (2 ^ n) ∧ x6 = nI s ∧ (∀ c, (c < 35 ∨ (41 < c ∧ c ≠ 43)) → σ2 c = σ c) ∧ ∀ k num, k < q → num < 9 → σ2 43 (9 * k + num) = nI (valS D p q n ek ef en k num s)) (fun σ2 x5 x6 r => Ret r _) ?_ 300 0 (by omega) (Nat.zero_le _) σ1 _ 0 ⟨rfl, rfl, a1, fun k num hk hm => by rw [a2 _ (by omega)]; rfl⟩
    intro s k40 σ2 x5 x6 hs hI ih
    obtain ⟨rfl, rfl, b1, b2⟩ := hI
    unfold f_X5_tally_b40
    rcases Nat.lt_or_ge s (2 ^ n) with hlt | hge
    · obtain ⟨g1, g2, g3, g4⟩ := fa1 n (by omega) s hlt
      rw [at_go hlt (by omega)]
      obtain ⟨u, σ3, e3, c1, c2⟩ := run_hc (c0 := 35) (σ := σ2) h.dok (fun c q1 q2 => by rw [b1 c (by omega)]; exact h.sd c q1 q2) (h.eok.move fun c q1 q2 => b1 c (by omega)) (by omega) (by omega) (nI s)
      have hH := c2.sel (sel' := selB s) fun e he => (fa2 n (by omega) s hlt e he).2.1
      rw [e3, bnd_some, bitCount_eq, bnd_some, g3]
      refine i_X5_tally_l67 14 35 k40 q (fun k σ4 x5 x6 x7 x8 => x5 = nI (2 ^ n) ∧ x6 = nI s ∧ x7 = nI (popc s) ∧ x8 = nI k ∧ (∀ c, c ≠ 43 → σ4 c = σ3 c) ∧ ∀ k' num, k' < q → num < 9 → σ4 43 (9 * k' + num) = nI (if k' < k then valS D p q n ek ef en k' num (s + 1) else valS D p q n ek ef en k' num s)) (fun σ4 x5 x6 x7 x8 r => Ret r _) ?_ 300 0 (by omega) (by omega) σ3 _ _ _ 0 ⟨rfl, rfl, rfl, rfl, fun _ _ => rfl, fun k' num hk hm => by rw [if_neg (Nat.not_lt_zero _), c1 43 (by omega)]; exact b2 k' num hk hm⟩
      intro k k67 σ4 x5 x6 x7 x8 hk hI2 ih2
      obtain ⟨rfl, rfl, rfl, rfl, d1, d2⟩ := hI2
      unfold f_X5_tally_b67 f_X5_tally_b105
      rw [d1 10 (by omega), c1 10 (by omega), b1 10 (by omega), h.h10]
      rcases Nat.lt_or_ge k q with hlt2 | hge2
      · rw [at_go hlt2 (by omega), gd_in (show k < 8 by omega) (by omega), cl_nI (show k < 2147483648 by omega), d1 (35 + 1) (by omega), hH.1.2.2.1 k (by omega)]
        have e9 : nI k * (9 : Int32) + nI (popc s) = nI (k * 9 + popc s) := by rw [n_lit 9, pk_mul, nI_add]
        rw [e9, gd_in (show k * 9 + popc s < 72 by omega) (by omega), gd_in (show k * 9 + popc s < 72 by omega) (by omega), cl_nI (show k * 9 + popc s < 2147483648 by omega), amlet_eq, amlet_eq, amlet_eq, nI_1]
        have vs : ∀ num, valS D p q n ek ef en k num (s + 1) = valS D p q n ek ef en k num s + (if popc s = num ∧ ¬ (RN D p q n ek ef en (selB s) 24).2.2.1 k = -1 then 1 else 0) := fun num => rfl
        by_cases hm : (RN D p q n ek ef en (selB s) 24).2.2.1 k = -1
        · rw [if_pos hm]
          refine ih2 _ _ _ _ _ hlt2 ⟨rfl, rfl, rfl, rfl, d1, fun k' num q1 q2 => ?_⟩
          rw [d2 k' num q1 q2]
          by_cases e : k' = k
          · subst e
            rw [if_neg (Nat.lt_irrefl _), if_pos (Nat.lt_succ_self _), vs, if_neg (fun q => q.2 hm)]
            rfl
          · by_cases e2 : k' < k
            · rw [if_pos e2, if_pos (by omega)]
            · rw [if_neg e2, if_neg (by omega)]
        · rw [if_neg hm]
          refine ih2 _ _ _ _ _ hlt2 ⟨rfl, rfl, rfl, rfl, fun c hc => by rw [up2_off hc]; exact d1 c hc, fun k' num q1 q2 => ?_⟩
          rw [up2_at]
          by_cases e : k' = k
          · subst e
            rw [if_pos (Nat.lt_succ_self _), vs]
            by_cases e2 : popc s = num
            · subst e2
              rw [show k' * 9 + popc s = 9 * k' + popc s by omega, upd_at, d2 k' _ q1 q2, if_neg (Nat.lt_irrefl _), if_pos ⟨rfl, hm⟩, nI_1]
            · rw [upd_off (by omega), d2 k' num q1 q2, if_neg (Nat.lt_irrefl _), if_neg (fun q => e2 q.1)]
              rfl
          · rw [upd_off (by omega), d2 k' num q1 q2]
            by_cases e2 : k' < k
            · rw [if_pos e2, if_pos (by omega)]
            · rw [if_neg e2, if_neg (by omega)]
      · have e : k = q := by omega
        subst e
        rw [at_end (Nat.le_refl _) (by omega), amlet_eq, nI_1]
        refine ih _ _ _ hlt ⟨rfl, rfl, fun c hc => by rw [d1 c (by omega), c1 c (by omega), b1 c hc], fun k' num q1 q2 => ?_⟩
        rw [d2 k' num q1 q2, if_pos q1]
    · have e : s = 2 ^ n := by omega
      subst e
      rw [at_end (Nat.le_refl _) (by omega)]
      exact ret_some.mpr ⟨b1, fun k num q1 q2 => b2 k num q1 (by omega)⟩
  unfold f_X5_tally
  refine i_X5_tally_l3 14 35 72 (fun i σ2 x5 => x5 = nI i ∧ (∀ c, (c < 35 ∨ (41 < c ∧ c ≠ 43)) → σ2 c = σ c) ∧ ∀ x, x < i → σ2 43 x = 0) (fun σ2 x5 r => Ret r _) ?_ 300 0 (by omega) (by omega) σ 0 ⟨rfl, fun _ _ => rfl, fun x hx => absurd hx (Nat.not_lt_zero _)⟩
  intro i k σ2 x5 hi hI ih
  obtain ⟨rfl, b1, b2⟩ := hI
  unfold f_X5_tally_b3
  rw [n_lit 72]
  rcases Nat.lt_or_ge i 72 with hlt | hge
  · rw [at_go hlt (by omega), gd_in hlt (by omega), cl_nI (by omega), amlet_eq, amlet_eq, nI_1]
    refine ih _ _ hlt ⟨rfl, fun c hc => by rw [up2_off (by omega)]; exact b1 c hc, fun x hx => ?_⟩
    rw [up2_at]
    by_cases e : x = i
    · subst e; rw [upd_at]
    · rw [upd_off e]; exact b2 x (by omega)
  · have e : i = 72 := by omega
    subst e
    rw [at_end (Nat.le_refl _) (by omega), b1 14 (by omega), h.eok.2.1, if_neg (show ¬ (8 : Int32) < nI n by rw [n_lit 8, p_lt (by omega) (by omega)]; omega), f1, amlet_eq]
    exact main σ2 b1 b2
theorem power_ok (σ : Sg) (b e : Nat) (hb : b ≤ 16) (he : e ≤ 8) : f_X5_power σ (nI b) (nI e) = some (lN (b ^ e), σ) := by
  unfold f_X5_power
  have gen : ∀ E, E = e → f_X5_power_l5 300 σ (nI b) (nI e) (1 : Int64) (0 : Int32) = some (lN (b ^ E), σ) := fun E hE => by
    refine i_X5_power_l5 e (fun i σ2 x0 x1 x2 x4 => σ2 = σ ∧ x0 = nI b ∧ x1 = nI e ∧ x2 = lN (b ^ i) ∧ x4 = nI i) (fun σ2 x0 x1 x2 x4 r => r = some (lN (b ^ E), σ)) ?_ 300 0 (by omega) (by omega) σ _ _ 1 0 ⟨rfl, rfl, rfl, rfl, rfl⟩
    intro i k σ2 x0 x1 x2 x4 hi hI ih
    obtain ⟨rfl, rfl, rfl, rfl, rfl⟩ := hI
    unfold f_X5_power_b5
    rcases Nat.lt_or_ge i e with hlt | hge
    · rw [at_go hlt (by omega), amlet_eq, amlet_eq, nI_1, nI_l (by omega), lN_mul, ← Nat.pow_succ]
      exact ih _ _ _ _ _ hlt ⟨rfl, rfl, rfl, rfl, rfl⟩
    · have e2 : i = e := by omega
      rw [e2, at_end (Nat.le_refl _) (by omega), hE]
  exact gen e rfl
theorem tell_ok {D : Sg} {p q n0 n1 n m : Nat} {ek ef : Nat → Int32} {en : Nat → Nat} {σ : Sg} (h : XI D p q n0 n1 n m ek ef en σ) (hO : OC D p q n ek ef en σ) {c k : Nat} (hc : c ≤ 16) (hk : k < q) (a : Int32) : f_X5_tell σ (nI k) (nI c) (nI n) a = some (vCh D p q n ek ef en c k a, σ) := by
  have hn8 := h.2.2.2.1
  have hp8 := h.1.sizes
  obtain ⟨f1, f2, f3, f4, f5⟩ := fa3 n (by omega)
  have hle : chA D p q n ek ef en c k (n + 1) ≤ 256 * 4294967296 := by
    rw [← ch_same D p q n ek ef en c k (by omega)]
    exact Nat.le_trans (chS_le D p q n ek ef en c k (2 ^ n) hc) (Nat.mul_le_mul f3 f4)
  have fin : ∀ A, A = chA D p q n ek ef en c k (n + 1) → f_X5_tell_b66 σ (nI n) a (lN A) = some (vCh D p q n ek ef en c k a, σ) := by
    intro A hA
    unfold f_X5_tell_b66
    rw [show (16 : Int32) = nI 16 from rfl, power_ok σ 16 n (by omega) hn8, bnd_some]
    unfold vCh
    rw [← hA]
    rw [← hA] at hle
    generalize hB : 16 ^ n = B at f4 f5
    refine i_X5_tell_l77 (4 * n) (fun j σ2 x4 x5 x7 x9 => σ2 = σ ∧ x4 = a ∧ x9 = nI j ∧ ∃ a' b', x5 = lN a' ∧ x7 = lN b' ∧ A = a' * 2 ^ j ∧ B = b' * 2 ^ j ∧ b' = 2 ^ (4 * n - j)) (fun σ2 x4 x5 x7 x9 r => r = some (if a = 0 then lN (A / Nat.gcd A B) else lN (B / Nat.gcd A B), σ)) ?_ 300 0 (by omega) (by omega) σ a (lN A) (lN B) 0 ⟨rfl, rfl, rfl, A, B, rfl, rfl, by rw [Nat.pow_zero, Nat.mul_one], by rw [Nat.pow_zero, Nat.mul_one], by rw [Nat.sub_zero]; exact f5⟩
    intro j kk σ2 x4 x5 x7 x9 hj hI ih
    obtain ⟨rfl, rfl, rfl, a', b', rfl, rfl, hA', hB', hb'⟩ := hI
    have out : Nat.gcd a' b' = 1 → f_X5_tell_b124 σ2 x4 (lN a') (lN b') = some (if x4 = 0 then lN (A / Nat.gcd A B) else lN (B / Nat.gcd A B), σ2) := fun hg => by
      obtain ⟨z1, z2⟩ := low_fin hA' hB' hg
      unfold f_X5_tell_b124
      rw [z1, z2]
      by_cases h0 : x4 = 0
      · rw [if_pos h0, if_pos h0]
      · rw [if_neg h0, if_neg h0]
    have hpj := Nat.two_pow_pos j
    have hal : a' < 2 ^ 63 := by
      have : a' * 1 ≤ a' * 2 ^ j := Nat.mul_le_mul (Nat.le_refl _) hpj
      omega
    have hbl : b' < 2 ^ 63 := by
      have : b' * 1 ≤ b' * 2 ^ j := Nat.mul_le_mul (Nat.le_refl _) hpj
      omega
    unfold f_X5_tell_b77
    rw [n_lit 32]
    by_cases h32 : 32 ≤ j
    · rw [at_end h32 (by omega)]
      refine out ?_
      rw [hb', show 4 * n - j = 0 by omega]
      exact Nat.gcd_one_right a'
    rw [at_go (by omega) (by omega)]
    by_cases h1 : b' ≤ 1
    · rw [if_pos (by rw [lg_cmp_le]; show lN b' ≤ lN 1; rw [pk_lLE hbl (by omega)]; exact h1)]
      refine out ?_
      have : 0 < b' := by rw [hb']; exact Nat.two_pow_pos _
      rw [show b' = 1 by omega]
      exact Nat.gcd_one_right a'
    rw [if_neg (by rw [lg_cmp_le]; show ¬ lN b' ≤ lN 1; rw [pk_lLE hbl (by omega)]; exact h1)]
    have erem : lN a' - lN a' / (2 : Int64) * (2 : Int64) = lN (a' % 2) := pk_lRem (b := 2) hal (by omega) (by omega)
    have ediv : lN a' / (2 : Int64) = lN (a' / 2) := pk_lDiv (b := 2) hal (by omega) (by omega)
    have edivb : lN b' / (2 : Int64) = lN (b' / 2) := pk_lDiv (b := 2) hbl (by omega) (by omega)
    rw [erem, ediv, edivb]
    by_cases h2 : a' % 2 = 0
    · rw [if_pos (by rw [h2]; decide), amlet_eq, amlet_eq, amlet_eq, nI_1]
      have hj2 : j < 4 * n := by
        refine Nat.lt_of_le_of_ne hj fun e => h1 ?_
        rw [hb', e, Nat.sub_self]
        exact Nat.le_refl _
      have eb : b' = 2 ^ (4 * n - (j + 1)) * 2 := by rw [hb', ← Nat.pow_succ]; congr 1; omega
      refine ih _ _ _ _ _ hj2 ⟨rfl, rfl, rfl, a' / 2, b' / 2, rfl, rfl, ?_, ?_, ?_⟩
      · rw [hA', Nat.pow_succ, show a' = a' / 2 * 2 by omega, Nat.mul_div_cancel _ (by omega : 0 < 2), Nat.mul_assoc, Nat.mul_comm 2]
      · rw [hB', eb, Nat.mul_div_cancel _ (by omega : 0 < 2), Nat.pow_succ, Nat.mul_assoc, Nat.mul_comm 2]
      · rw [eb, Nat.mul_div_cancel _ (by omega : 0 < 2)]
    · rw [if_neg (fun q => h2 (by
        have q : lN (a' % 2) = lN 0 := (lg_cmp_eq _ _).mp q
        rwa [pk_lEQ (by omega) (by omega)] at q))]
      refine out ?_
      rw [hb']
      exact odd_gcd h2
  unfold f_X5_tell
  refine i_X5_tell_l6 (n + 1) (fun i σ2 x1 x2 x3 x4 x5 x7 => σ2 = σ ∧ x1 = nI k ∧ x2 = nI c ∧ x3 = nI n ∧ x4 = a ∧ x5 = lN (chA D p q n ek ef en c k i) ∧ x7 = nI i) (fun σ2 x1 x2 x3 x4 x5 x7 r => r = some (vCh D p q n ek ef en c k a, σ)) ?_ 300 0 (by omega) (by omega) σ _ _ _ a 0 0 ⟨rfl, rfl, rfl, rfl, rfl, rfl, rfl⟩
  intro i kk σ2 x1 x2 x3 x4 x5 x7 hi hI ih
  obtain ⟨rfl, rfl, rfl, rfl, rfl, rfl, rfl⟩ := hI
  unfold f_X5_tell_b6
  by_cases h1 : n < i
  · have e : i = n + 1 := by omega
    rw [if_pos (show nI n < nI i by rw [p_lt (by omega) (by omega)]; exact h1)]
    exact fin _ (by rw [e])
  · rw [if_neg (show ¬ nI n < nI i by rw [p_lt (by omega) (by omega)]; exact h1), n_lit 9, at_go (show i < 9 by omega) (by omega), power_ok _ c i hc (by omega), bnd_some, n_lit 16, pk_sub hc, pk_sub (show i ≤ n by omega), power_ok _ (16 - c) (n - i) (by omega) (by omega), bnd_some, amlet_eq, pk_mul, nI_add, gd_in (show k * 9 + i < 72 by omega) (by omega), cl_nI (show k * 9 + i < 2147483648 by omega), amlet_eq, amlet_eq, nI_1, show k * 9 + i = 9 * k + i by omega, hO k i hk (by omega)]
    have hs : setsC D p q n ek ef en k i ≤ 256 := by
      refine Nat.le_trans (sumN_le (c := 1) fun s hs => ?_) (by omega)
      by_cases q : popc s = i ∧ ¬ (RN D p q n ek ef en (selB s) 24).2.2.1 k = -1
      · rw [if_pos q]; exact Nat.le_refl _
      · rw [if_neg q]; exact Nat.zero_le _
    rw [nI_l (by omega), lN_mul, lN_mul, lN_add]
    exact ih _ _ _ _ _ _ _ (by omega) ⟨rfl, rfl, rfl, rfl, rfl, rfl, rfl⟩
theorem chance_x {D : Sg} {p q n0 n1 n m : Nat} {ek ef : Nat → Int32} {en : Nat → Nat} {σ : Sg} (h : XI D p q n0 n1 n m ek ef en σ) {c k : Nat} (hc : c < 17) (hk : k < q) {a : Int32} (ha : 0 ≤ a ∧ a < 2) : XV D p q n0 n1 n m ek ef en (f_X9_chance σ (nI c) (nI k) a) (vCh D p q n ek ef en c k a) := by
  have hp8 := h.1.sizes
  unfold f_X9_chance f_X9_chance_b70
  rw [isBelow_eq, bnd_some, one_if, if_pos (show 0 ≤ nI c ∧ nI c < (17 : Int32) from of_below (N := 17) hc (by omega)), isBelow_eq, bnd_some, one_if, h.h10, if_pos (of_below hk (by omega)), isBelow_eq, bnd_some, one_if, if_pos ha]
  by_cases h0 : σ 0 13 = 0
  · rw [if_pos h0, h.eok.2.1, tell_ok h (h.2.2.2.2.2.2.2.2 h0) (by omega) hk, bnd_some]
    exact xv_some h
  · rw [if_neg h0]
    obtain ⟨u, σ1, e, b1, b2⟩ := tally_ok h
    rw [e, bnd_some, amlet_eq]
    have z : ∀ c, c ≠ 0 → (c < 35 ∨ (41 < c ∧ c ≠ 43)) → up2 σ1 0 13 (0 : Int32) c = σ c := fun c g1 g2 => by rw [up2_off g1, b1 c g2]
    have z0 : ∀ k, k ≠ 13 → up2 σ1 0 13 (0 : Int32) 0 k = σ 0 k := fun k hk => by rw [up2_at, upd_off hk, b1 0 (by omega)]
    have hO : OC D p q n ek ef en (up2 σ1 0 13 (0 : Int32)) := fun k num g1 g2 => by rw [up2_off (by omega)]; exact b2 k num g1 g2
    have hX : XI D p q n0 n1 n m ek ef en (up2 σ1 0 13 (0 : Int32)) := by
      obtain ⟨h1, h2, h3, h4, h5, h6, h7, h8, h9⟩ := h
      refine ⟨h1, h2, h3, h4, fun c hc => by rw [z c (by omega) (by omega)]; exact h5 c hc, by rw [z0 14 (by omega)]; exact h6, h7.move (fun c g1 g2 => z c (by omega) (by omega)), fun g => ?_, fun _ => hO⟩
      rw [z0 12 (by omega)] at g
      exact (h8 g).move (fun c g1 g2 => z c (by omega) (by omega))
    rw [hX.eok.2.1, tell_ok hX hO (by omega) hk, bnd_some]
    exact xv_some hX
theorem chance_m {D : Sg} {p q n0 n1 n m : Nat} {ek ef : Nat → Int32} {en : Nat → Nat} {τ : Sg} (h : MI D p q n0 n1 n m ek ef en τ) {c k : Nat} (hc : c < 17) (hk : k < q) (a : Int32) : MV D p q n0 n1 n m ek ef en (f_X10_chanceOf τ (nI c) (nI k) a) (vCh D p q n ek ef en c k a) := by
  have hp8 := h.1.sizes
  have hn8 := h.2.2.2.1
  obtain ⟨f1, f2, f3, f4, f5⟩ := fa3 n (by omega)
  have hle : chA D p q n ek ef en c k (n + 1) ≤ 256 * 4294967296 := by
    rw [← ch_same D p q n ek ef en c k (by omega)]
    exact Nat.le_trans (chS_le D p q n ek ef en c k (2 ^ n) (by omega)) (Nat.mul_le_mul f3 f4)
  have hb0 : 0 < 16 ^ n := Nat.pow_pos (by omega)
  unfold f_X10_chanceOf
  obtain ⟨u, τ1, e1, hM1, hG1, hE1, -⟩ := asTold_m h
  rw [e1, bnd_some]
  refine i_X10_chanceOf_l10 (2 ^ n) (fun s σ2 x1 x2 x3 x4 x6 => x1 = nI c ∧ x2 = nI k ∧ x3 = a ∧ x4 = lN (chS D p q n ek ef en c k s) ∧ x6 = nI s ∧ MI D p q n0 n1 n m ek ef en σ2 ∧ MG D σ2 p q ∧ EM σ2 n ek ef en) (fun σ2 x1 x2 x3 x4 x6 r => MV D p q n0 n1 n m ek ef en r _) ?_ 300 0 (by omega) (Nat.zero_le _) τ1 _ _ a 0 0 ⟨rfl, rfl, rfl, rfl, rfl, hM1, hG1, hE1⟩
  intro s k10 σ2 x1 x2 x3 x4 x6 hs hI ih
  obtain ⟨rfl, rfl, rfl, rfl, rfl, hM, hG, hE⟩ := hI
  unfold f_X10_chanceOf_b10
  rw [hM.2.2.2.2.2.1, f1, f2]
  rcases Nat.lt_or_ge s (2 ^ n) with hlt | hge
  · rw [at_go hlt (by omega)]
    refine i_X10_chanceOf_l27 k10 n (fun e σ3 y1 y2 y3 y4 y6 y7 y9 => σ3 = σ2 ∧ y1 = nI c ∧ y2 = nI k ∧ y3 = x3 ∧ y4 = lN (chS D p q n ek ef en c k s) ∧ y6 = nI s ∧ y7 = lN (wN c s e) ∧ y9 = nI e) (fun σ3 x1 x2 x3 x4 x6 x7 x9 r => MV D p q n0 n1 n m ek ef en r _) ?_ 300 0 (by omega) (by omega) σ2 _ _ _ _ _ 1 0 ⟨rfl, rfl, rfl, rfl, rfl, rfl, rfl, rfl⟩
    intro e k27 σ3 y1 y2 y3 y4 y6 y7 y9 he hI2 ih2
    obtain ⟨rfl, rfl, rfl, rfl, rfl, rfl, rfl, rfl⟩ := hI2
    unfold f_X10_chanceOf_b27 f_X10_chanceOf_b105 f_X10_chanceOf_b102 f_X10_chanceOf_b58 f_X10_chanceOf_b105
    rw [hM.2.2.2.2.2.1]
    rcases Nat.lt_or_ge e n with hlt2 | hge2
    · rw [at_go hlt2 (by omega), isIn_b, bnd_some, b2_0]
      have ht := (fa2 n (by omega) s hlt e hlt2).2.2
      have ws := wN_s c s e
      simp only [amlet_eq, nI_1]
      by_cases hb : s.testBit e = true
      · rw [if_pos hb] at ws
        rw [if_pos (ht.mpr hb), n_lit 16, pk_sub (show c ≤ 16 by omega), nI_l (by omega), lN_mul]
        exact ih2 _ _ _ _ _ _ _ _ hlt2 ⟨rfl, rfl, rfl, rfl, rfl, rfl, by rw [ws], rfl⟩
      · rw [if_neg hb] at ws
        rw [if_neg (fun q => hb (ht.mp q)), nI_l (by omega), lN_mul]
        exact ih2 _ _ _ _ _ _ _ _ hlt2 ⟨rfl, rfl, rfl, rfl, rfl, rfl, by rw [ws], rfl⟩
    · have e2 : e = n := by omega
      subst e2
      rw [at_end (Nat.le_refl _) (by omega)]
      have hw := wN_le c s (by omega) e
      have cs : chS D p q e ek ef en c k (s + 1) = chS D p q e ek ef en c k s + (if (RN D p q e ek ef en (selM (nI s)) 24).2.2.1 k = -1 then 0 else wN c s e) := rfl
      simp only [amlet_eq, nI_1]
      by_cases hz : wN c s e = 0
      · rw [if_pos (by rw [hz]; decide)]
        refine ih _ _ _ _ _ _ hlt ⟨rfl, rfl, rfl, ?_, rfl, hM, hG, hE⟩
        rw [cs, hz, ite_self]; rfl
      · rw [if_neg (by rw [lg_cmp_le]; show ¬ lN _ ≤ lN 0; rw [pk_lLE (by omega) (by omega)]; omega)]
        have w : ∀ c, c ≠ 0 → up2 σ3 0 19 (nI s) c = σ3 c := fun c hc => up2_off hc
        have w0 : ∀ k, k ≠ 19 → up2 σ3 0 19 (nI s) 0 k = σ3 0 k := fun k hk => by rw [up2_at, upd_off hk]
        obtain ⟨u, τ2, e2, b1, b2, b3, b4, b5, b6, b7, b8⟩ := runs_m (hM.fr (τ' := up2 σ3 0 19 (nI s)) (fun c hc => w c (by omega)) (fun k hk => w0 k (by omega))) hM.1.dok (hG.move (fun k hk => w0 k (by omega)) (fun c g1 g2 => w c (by omega))) (hE.move (w0 15 (by omega)) (fun c g1 g2 => w c (by omega)))
        rw [up2_at, upd_at] at b7
        rw [e2, bnd_some, gd_in (show k < 8 by omega) (by omega), cl_nI (by omega), b7.2.2.1 k (by omega)]
        by_cases hm : (RN D p q e ek ef en (selM (nI s)) 24).2.2.1 k = -1
        · rw [if_pos hm] at cs ⊢
          exact ih _ _ _ _ _ _ hlt ⟨rfl, rfl, rfl, by rw [cs]; simp, rfl, b1, b2, b3⟩
        · rw [if_neg hm] at cs ⊢
          exact ih _ _ _ _ _ _ hlt ⟨rfl, rfl, rfl, by rw [cs, lN_add], rfl, b1, b2, b3⟩
  · have e : s = 2 ^ n := by omega
    subst e
    rw [at_end (Nat.le_refl _) (by omega), ch_same D p q n ek ef en c k (by omega)]
    unfold f_X10_lowest
    rw [euclid σ2 (A := chA D p q n ek ef en c k (n + 1)) (B := 16 ^ n) (by omega) (by omega) x3 33 300 (chA D p q n ek ef en c k (n + 1)) (16 ^ n) (by omega) (by omega) (by omega) (by omega) (Or.inr hb0), bnd_some]
    exact mv_some hM hG
theorem ag_chance {D : Sg} {p q n0 n1 n m : Nat} {ek ef : Nat → Int32} {en : Nat → Nat} {σ τ : Sg} (h : XI D p q n0 n1 n m ek ef en σ) (g : MI D p q n0 n1 n m ek ef en τ) (a1 a2 a3 : Int32) : Agr (f_X9_chance σ a1 a2 a3) (f_X10_chance τ a1 a2 a3) := by
  have hp8 := h.1.sizes
  have ref : (¬ ((0 ≤ a1 ∧ a1 < 17) ∧ (0 ≤ a2 ∧ a2 < nI q) ∧ (0 ≤ a3 ∧ a3 < 2))) → XV D p q n0 n1 n m ek ef en (f_X9_chance σ a1 a2 a3) (-9223372036854775806) := fun hno => by
    unfold f_X9_chance
    rw [isBelow_eq, bnd_some, one_if]
    by_cases h1 : 0 ≤ a1 ∧ a1 < 17
    · rw [if_pos h1, isBelow_eq, bnd_some, one_if, h.h10]
      by_cases h2 : 0 ≤ a2 ∧ a2 < nI q
      · rw [if_pos h2, isBelow_eq, bnd_some, one_if, if_neg (fun q => hno ⟨h1, h2, q⟩)]; exact xv_some h
      · rw [if_neg h2]; exact xv_some h
    · rw [if_neg h1]; exact xv_some h
  have no : ∀ τ1 : Sg, MI D p q n0 n1 n m ek ef en τ1 → MU D p q n0 n1 n m ek ef en (f_X10_chance_b35 τ1) (-9223372036854775806) := fun τ1 g1 => by
    unfold f_X10_chance_b35 f_X10_no
    rw [bnd_some, show (-9223372036854775808 : Int64) - (-2 : Int32).toInt64 = -9223372036854775806 from by decide]
    exact mu_some g1
  unfold f_X10_chance
  rw [in_eq, bnd_some, one_if]
  have e16 : (0 ≤ a1 ∧ a1 ≤ (16 : Int32)) = (0 ≤ a1 ∧ a1 < 17) := by
    rw [n_lit 16, up_to a1 16 (by omega)]
    rfl
  by_cases h1 : 0 ≤ a1 ∧ a1 < 17
  rotate_left
  · rw [if_neg (by rw [e16]; exact h1)]; exact agr_of (ref fun q => h1 q.1) (no τ g)
  rw [if_pos (by rw [e16]; exact h1)]
  obtain ⟨r, τ1, e, g1, gG, rfl⟩ := isNeed_ok g a2
  rw [e, bnd_some, one_if]
  by_cases h2 : 0 ≤ a2 ∧ a2 < nI q
  rotate_left
  · rw [if_neg h2]; exact agr_of (ref fun q => h2 q.2.1) (no τ1 g1)
  rw [if_pos h2, isTwo_eq, bnd_some, one_if]
  by_cases h3 : 0 ≤ a3 ∧ a3 < 2
  rotate_left
  · rw [if_neg h3]; exact agr_of (ref fun q => h3 q.2.2) (no τ1 g1)
  rw [if_pos h3]
  obtain ⟨c, hc, rfl⟩ := below_of (N := 17) (by omega) h1
  obtain ⟨k, hk, rfl⟩ := below_of (N := q) (by omega) h2
  exact agr_of (chance_x h hc hk h3) (mu_id (chance_m g1 hc hk a3).u)
