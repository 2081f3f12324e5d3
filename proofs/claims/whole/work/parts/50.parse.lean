/-! texts: the first byte with which one cannot go on -/
def FL (g : Nat → Prop) (st n : Nat) (F : Int32) : Prop := (∃ p, p < n ∧ (∀ j, j < p → g j) ∧ ¬ g p ∧ F = nI p) ∨ ((∀ j, j < n → g j) ∧ (((n = 0 ∨ n % st = st - 1) ∧ F = -1) ∨ (¬ (n = 0 ∨ n % st = st - 1) ∧ F = nI n)))
theorem FL_one {g : Nat → Prop} {st n : Nat} {F F' : Int32} (h : FL g st n F) (h' : FL g st n F') : F = F' := by
  rcases h with ⟨p, a1, a2, a3, a4⟩ | ⟨a1, a2⟩
  · rcases h' with ⟨p', b1, b2, b3, b4⟩ | ⟨b1, b2⟩
    · have : p = p' := by
        rcases Nat.lt_trichotomy p p' with q | q | q
        · exact absurd (b2 p q) a3
        · exact q
        · exact absurd (a2 p' q) b3
      rw [a4, b4, this]
    · exact absurd (b1 p a1) a3
  · rcases h' with ⟨p', b1, b2, b3, b4⟩ | ⟨b1, b2⟩
    · exact absurd (a1 p' b1) b3
    · rcases a2 with ⟨a2, a3⟩ | ⟨a2, a3⟩ <;> rcases b2 with ⟨b2, b3⟩ | ⟨b2, b3⟩
      · rw [a3, b3]
      · exact absurd a2 b2
      · exact absurd b2 a2
      · rw [a3, b3]
def sortV (b : Int32) : Int32 := if b = 100 then 0 else if b = 99 then 1 else if b = 114 then 2 else -1
def gG (f : Nat → Int32) (p : Nat) : Prop :=
  if p % 5 = 0 then ¬ sortV (f p) = -1
  else if p % 5 = 1 then (0 ≤ f p - 48 ∧ f p - 48 < 6)
  else if p % 5 = 2 then ((0 ≤ f p - 48 ∧ f p - 48 < 6) ∧ ¬ ∃ j, j < p / 5 ∧ f (5 * j + 1) - 48 = f (p - 1) - 48 ∧ f (5 * j + 2) - 48 = f p - 48)
  else if p % 5 = 3 then (¬ f p - 48 < 1 ∧ ¬ 9 < f p - 48)
  else f p = 59
def gN (f : Nat → Int32) (p : Nat) : Prop :=
  if p % 4 = 0 then (0 ≤ f p - 48 ∧ f p - 48 < 8)
  else if p % 4 = 1 then (0 ≤ f p - 97 ∧ f p - 97 < 24)
  else if p % 4 = 2 then (¬ f p < 49 ∧ ¬ 57 < f p)
  else f p = 59
theorem sortOf_eq (σ : Sg) (b : Int32) : f_X2_sortOf σ b = some (sortV b, σ) := by
  unfold f_X2_sortOf sortV
  by_cases h1 : b = 100
  · rw [if_pos h1, if_pos h1]
  · rw [if_neg h1, if_neg h1]
    by_cases h2 : b = 99
    · rw [if_pos h2, if_pos h2]
    · rw [if_neg h2, if_neg h2]
      by_cases h3 : b = 114
      · rw [if_pos h3, if_pos h3]
      · rw [if_neg h3, if_neg h3]
theorem liesAnother_ok (σ : Sg) (x y : Int32) (one n : Nat) (ho : one < 100) (hn : n ≤ 8) : ∃ v : Int32, f_X2_liesAnother σ x y (nI one) (nI n) = some (v, σ) ∧ ((v = 0 ∧ ¬ ∃ j, j < n ∧ j ≠ one ∧ σ 7 j = x ∧ σ 8 j = y) ∨ (v = 1 ∧ ∃ j, j < n ∧ j ≠ one ∧ σ 7 j = x ∧ σ 8 j = y)) := by
  unfold f_X2_liesAnother
  refine i_X2_liesAnother_l3 n (fun i σ2 x1 x2 x3 x4 x5 => σ2 = σ ∧ x1 = x ∧ x2 = y ∧ x3 = nI one ∧ x4 = nI n ∧ x5 = nI i ∧ ¬ ∃ j, j < i ∧ j ≠ one ∧ σ 7 j = x ∧ σ 8 j = y) (fun σ2 x1 x2 x3 x4 x5 r => ∃ v : Int32, r = some (v, σ) ∧ ((v = 0 ∧ ¬ ∃ j, j < n ∧ j ≠ one ∧ σ 7 j = x ∧ σ 8 j = y) ∨ (v = 1 ∧ ∃ j, j < n ∧ j ≠ one ∧ σ 7 j = x ∧ σ 8 j = y))) ?_ 300 0 (by omega) (by omega) σ x y (nI one) (nI n) 0 ⟨rfl, rfl, rfl, rfl, rfl, rfl, fun ⟨j, h, _⟩ => absurd h (Nat.not_lt_zero _)⟩
  intro i k σ2 x1 x2 x3 x4 x5 hi hI ih
  obtain ⟨rfl, rfl, rfl, rfl, rfl, rfl, hno⟩ := hI
  unfold f_X2_liesAnother_b3 f_X2_liesAnother_b40
  rcases Nat.lt_or_ge i n with hlt | hge
  · rw [at_go hlt (by omega)]
    simp only [amlet_eq, nI_1, gd_in (show i < 8 by omega) (show 8 < 2 ^ 31 by omega), cl_nI (show i < 2147483648 by omega)]
    have go : ¬ (i ≠ one ∧ σ2 7 i = x1 ∧ σ2 8 i = x2) → ∃ v : Int32, k σ2 x1 x2 (nI one) (nI n) (nI (i + 1)) = some (v, σ2) ∧ ((v = 0 ∧ ¬ ∃ j, j < n ∧ j ≠ one ∧ σ2 7 j = x1 ∧ σ2 8 j = x2) ∨ (v = 1 ∧ ∃ j, j < n ∧ j ≠ one ∧ σ2 7 j = x1 ∧ σ2 8 j = x2)) := fun hno2 => ih _ _ _ _ _ _ hlt ⟨rfl, rfl, rfl, rfl, rfl, rfl, fun ⟨j, h1, h2⟩ => by
      by_cases e : j = i
      · rw [e] at h2; exact hno2 h2
      · exact hno ⟨j, by omega, h2⟩⟩
    by_cases h1 : nI i = nI one
    · rw [if_pos h1]
      exact go (fun q => q.1 (nI_inj (by omega) (by omega) h1))
    · rw [if_neg h1]
      by_cases h2 : σ2 7 i = x1
      · rw [if_pos h2]
        by_cases h3 : σ2 8 i = x2
        · rw [if_pos h3]
          exact ⟨1, rfl, Or.inr ⟨rfl, i, hlt, fun e => h1 (by rw [e]), h2, h3⟩⟩
        · rw [if_neg h3]
          exact go (fun q => h3 q.2.2)
      · rw [if_neg h2]
        exact go (fun q => h2 q.2.1)
  · have e : i = n := by omega
    subst e
    rw [at_end (Nat.le_refl _) (by omega)]
    exact ⟨0, rfl, Or.inl ⟨rfl, hno⟩⟩
theorem below_if {a b : Int32} {α : Type} {x y : α} : (if (if 0 ≤ a ∧ a < b then (1 : Int32) else 0) = 0 then x else y) = if 0 ≤ a ∧ a < b then y else x := by
  by_cases h : 0 ≤ a ∧ a < b
  · simp only [if_pos h]
    rw [if_neg (by decide)]
  · simp only [if_neg h]
    rw [if_pos trivial]
theorem gd_bool {α : Type} {c : Prop} [Decidable c] {k : Option α} : gd (decide ((if c then (1 : Int32) else 0) = 0 ∨ (if c then (1 : Int32) else 0) = 1)) k = k := by
  refine gd_true ?_
  by_cases h : c
  · simp only [if_pos h]; decide
  · simp only [if_neg h]; decide
/-- a byte of the gone: what it writes, whether it is well -/
theorem takesG_ok {σ : Sg} {f : Nat → Int32} {p : Nat} (hp : p < 40) (hv : ∀ j, j < p → (j % 5 = 1 → σ 7 (j / 5) = f j - 48) ∧ (j % 5 = 2 → σ 8 (j / 5) = f j - 48)) : Ret (f_X2_takesByte σ (nI (p / 5)) (nI (p % 5)) (f p)) (fun v σ' =>
    (∀ c, c ≠ 6 → c ≠ 7 → c ≠ 8 → c ≠ 9 → σ' c = σ c) ∧ ((v = 0 ∧ ¬ gG f p) ∨ (v = 1 ∧ gG f p)) ∧
    (p % 5 = 0 → σ' 6 (p / 5) = sortV (f p)) ∧ (p % 5 = 1 → σ' 7 (p / 5) = f p - 48) ∧ (p % 5 = 2 → σ' 8 (p / 5) = f p - 48) ∧ (p % 5 = 3 → σ' 9 (p / 5) = f p - 48) ∧
    (∀ t, (t ≠ p / 5 ∨ p % 5 ≠ 0) → σ' 6 t = σ 6 t) ∧ (∀ t, (t ≠ p / 5 ∨ p % 5 ≠ 1) → σ' 7 t = σ 7 t) ∧ (∀ t, (t ≠ p / 5 ∨ p % 5 ≠ 2) → σ' 8 t = σ 8 t) ∧ (∀ t, (t ≠ p / 5 ∨ p % 5 ≠ 3) → σ' 9 t = σ 9 t)) := by
  have ht : p / 5 < 8 := by omega
  unfold f_X2_takesByte
  simp only [amlet_eq, gd_in ht (show 8 < 2 ^ 31 by omega), cl_nI (show p / 5 < 2147483648 by omega)]
  have hr : p % 5 = 0 ∨ p % 5 = 1 ∨ p % 5 = 2 ∨ p % 5 = 3 ∨ p % 5 = 4 := by omega
  rcases hr with h | h | h | h | h
  · rw [h, if_pos (show nI 0 = 0 from rfl), sortOf_eq, bnd_some, up2_at, upd_at]
    have hg : gG f p ↔ ¬ sortV (f p) = -1 := by unfold gG; rw [if_pos h]
    by_cases hs : sortV (f p) = -1
    · rw [if_pos hs]
      refine ret_some.mpr ⟨fun c h1 h2 h3 h4 => up2_off h1, Or.inl ⟨rfl, fun q => hg.mp q hs⟩, fun _ => by rw [up2_at, upd_at], fun q => by omega, fun q => by omega, fun q => by omega, fun t q => by rw [up2_at, upd_off (by omega)], fun t _ => by rw [up2_off (by omega)], fun t _ => by rw [up2_off (by omega)], fun t _ => by rw [up2_off (by omega)]⟩
    · rw [if_neg hs]
      refine ret_some.mpr ⟨fun c h1 h2 h3 h4 => up2_off h1, Or.inr ⟨rfl, hg.mpr hs⟩, fun _ => by rw [up2_at, upd_at], fun q => by omega, fun q => by omega, fun q => by omega, fun t q => by rw [up2_at, upd_off (by omega)], fun t _ => by rw [up2_off (by omega)], fun t _ => by rw [up2_off (by omega)], fun t _ => by rw [up2_off (by omega)]⟩
  · rw [h, if_neg (show ¬ nI 1 = 0 by decide), if_pos (show nI 1 = 1 from rfl), isBelow_eq, bnd_some, gd_bool]
    have hg : gG f p ↔ (0 ≤ f p - 48 ∧ f p - 48 < 6) := by unfold gG; rw [if_neg (by omega), if_pos h]
    refine ret_some.mpr ⟨fun c h1 h2 h3 h4 => up2_off h2, ?_, fun q => by omega, fun _ => by rw [up2_at, upd_at], fun q => by omega, fun q => by omega, fun t _ => by rw [up2_off (by omega)], fun t q => by rw [up2_at, upd_off (by omega)], fun t _ => by rw [up2_off (by omega)], fun t _ => by rw [up2_off (by omega)]⟩
    by_cases hb : 0 ≤ f p - 48 ∧ f p - 48 < 6
    · rw [if_pos hb]; exact Or.inr ⟨rfl, hg.mpr hb⟩
    · rw [if_neg hb]; exact Or.inl ⟨rfl, fun q => hb (hg.mp q)⟩
  · rw [h, if_neg (show ¬ nI 2 = 0 by decide), if_neg (show ¬ nI 2 = 1 by decide), if_pos (show nI 2 = 2 from rfl), isBelow_eq, bnd_some, below_if]
    have hg : gG f p ↔ ((0 ≤ f p - 48 ∧ f p - 48 < 6) ∧ ¬ ∃ j, j < p / 5 ∧ f (5 * j + 1) - 48 = f (p - 1) - 48 ∧ f (5 * j + 2) - 48 = f p - 48) := by unfold gG; rw [if_neg (by omega), if_neg (by omega), if_pos h]
    have hw : (∀ c, c ≠ 6 → c ≠ 7 → c ≠ 8 → c ≠ 9 → up2 σ 8 (p / 5) (f p - 48) c = σ c) ∧ ∀ v : Int32, ((v = 0 ∧ ¬ gG f p) ∨ (v = 1 ∧ gG f p)) →
      (((v = 0 ∧ ¬ gG f p) ∨ (v = 1 ∧ gG f p)) ∧ (p % 5 = 0 → up2 σ 8 (p / 5) (f p - 48) 6 (p / 5) = sortV (f p)) ∧ (p % 5 = 1 → up2 σ 8 (p / 5) (f p - 48) 7 (p / 5) = f p - 48) ∧ (p % 5 = 2 → up2 σ 8 (p / 5) (f p - 48) 8 (p / 5) = f p - 48) ∧ (p % 5 = 3 → up2 σ 8 (p / 5) (f p - 48) 9 (p / 5) = f p - 48) ∧
    (∀ t, (t ≠ p / 5 ∨ p % 5 ≠ 0) → up2 σ 8 (p / 5) (f p - 48) 6 t = σ 6 t) ∧ (∀ t, (t ≠ p / 5 ∨ p % 5 ≠ 1) → up2 σ 8 (p / 5) (f p - 48) 7 t = σ 7 t) ∧ (∀ t, (t ≠ p / 5 ∨ p % 5 ≠ 2) → up2 σ 8 (p / 5) (f p - 48) 8 t = σ 8 t) ∧ (∀ t, (t ≠ p / 5 ∨ p % 5 ≠ 3) → up2 σ 8 (p / 5) (f p - 48) 9 t = σ 9 t)) :=
      ⟨fun c h1 h2 h3 h4 => up2_off h3, fun v hv2 => ⟨hv2, fun q => by omega, fun q => by omega, fun _ => by rw [up2_at, upd_at], fun q => by omega, fun t _ => by rw [up2_off (by omega)], fun t _ => by rw [up2_off (by omega)], fun t q => by rw [up2_at, upd_off (by omega)], fun t _ => by rw [up2_off (by omega)]⟩⟩
    rw [← h] at hw ⊢
    by_cases hb : 0 ≤ f p - 48 ∧ f p - 48 < 6
    · rw [if_pos hb]
      obtain ⟨v, hv1, hv2⟩ := liesAnother_ok (up2 σ 8 (p / 5) (f p - 48)) (up2 σ 8 (p / 5) (f p - 48) 7 (p / 5)) (f p - 48) (p / 5) (p / 5) (by omega) (by omega)
      rw [hv1, bnd_some]
      have ex : (∃ j, j < p / 5 ∧ j ≠ p / 5 ∧ up2 σ 8 (p / 5) (f p - 48) 7 j = up2 σ 8 (p / 5) (f p - 48) 7 (p / 5) ∧ up2 σ 8 (p / 5) (f p - 48) 8 j = f p - 48) ↔ ∃ j, j < p / 5 ∧ f (5 * j + 1) - 48 = f (p - 1) - 48 ∧ f (5 * j + 2) - 48 = f p - 48 := by
        refine exists_congr fun j => and_congr_right fun hj => ?_
        rw [up2_off (show (7 : Nat) ≠ 8 by omega), up2_at, upd_off (by omega)]
        have e1 := (hv (5 * j + 1) (by omega)).1 (by omega)
        have e2 := (hv (5 * j + 2) (by omega)).2 (by omega)
        have e3 := (hv (p - 1) (by omega)).1 (by omega)
        rw [show (5 * j + 1) / 5 = j by omega] at e1
        rw [show (5 * j + 2) / 5 = j by omega] at e2
        rw [show (p - 1) / 5 = p / 5 by omega] at e3
        rw [e1, e2, e3]
        exact ⟨fun q => q.2, fun q => ⟨by omega, q⟩⟩
      rcases hv2 with ⟨e, hno⟩ | ⟨e, hyes⟩
      · rw [e, if_pos rfl]
        exact ret_some.mpr ⟨hw.1, hw.2 1 (Or.inr ⟨rfl, hg.mpr ⟨hb, fun q => hno (ex.mpr q)⟩⟩)⟩
      · rw [e, if_neg (by decide)]
        exact ret_some.mpr ⟨hw.1, hw.2 0 (Or.inl ⟨rfl, fun q => (hg.mp q).2 (ex.mp hyes)⟩)⟩
    · rw [if_neg hb]
      exact ret_some.mpr ⟨hw.1, hw.2 0 (Or.inl ⟨rfl, fun q => hb (hg.mp q).1⟩)⟩
  · rw [h, if_neg (show ¬ nI 3 = 0 by decide), if_neg (show ¬ nI 3 = 1 by decide), if_neg (show ¬ nI 3 = 2 by decide), if_pos (show nI 3 = 3 from rfl)]
    have hg : gG f p ↔ (¬ f p - 48 < 1 ∧ ¬ 9 < f p - 48) := by unfold gG; rw [if_neg (by omega), if_neg (by omega), if_neg (by omega), if_pos h]
    have hw : ∀ v : Int32, ((v = 0 ∧ ¬ gG f p) ∨ (v = 1 ∧ gG f p)) → Ret (some (v, up2 σ 9 (p / 5) (f p - 48))) (fun v σ' => (∀ c, c ≠ 6 → c ≠ 7 → c ≠ 8 → c ≠ 9 → σ' c = σ c) ∧ ((v = 0 ∧ ¬ gG f p) ∨ (v = 1 ∧ gG f p)) ∧
    (3 = 0 → σ' 6 (p / 5) = sortV (f p)) ∧ (3 = 1 → σ' 7 (p / 5) = f p - 48) ∧ (3 = 2 → σ' 8 (p / 5) = f p - 48) ∧ (3 = 3 → σ' 9 (p / 5) = f p - 48) ∧
    (∀ t, (t ≠ p / 5 ∨ 3 ≠ 0) → σ' 6 t = σ 6 t) ∧ (∀ t, (t ≠ p / 5 ∨ 3 ≠ 1) → σ' 7 t = σ 7 t) ∧ (∀ t, (t ≠ p / 5 ∨ 3 ≠ 2) → σ' 8 t = σ 8 t) ∧ (∀ t, (t ≠ p / 5 ∨ 3 ≠ 3) → σ' 9 t = σ 9 t)) := fun v hv2 => ret_some.mpr ⟨fun c h1 h2 h3 h4 => up2_off h4, hv2, fun q => by omega, fun q => by omega, fun q => by omega, fun _ => by rw [up2_at, upd_at], fun t _ => by rw [up2_off (by omega)], fun t _ => by rw [up2_off (by omega)], fun t _ => by rw [up2_off (by omega)], fun t q => by rw [up2_at, upd_off (by omega)]⟩
    by_cases h1 : f p - 48 < 1
    · rw [if_pos h1]; exact hw 0 (Or.inl ⟨rfl, fun q => (hg.mp q).1 h1⟩)
    · rw [if_neg h1]
      by_cases h2 : 9 < f p - 48
      · rw [if_pos h2]; exact hw 0 (Or.inl ⟨rfl, fun q => (hg.mp q).2 h2⟩)
      · rw [if_neg h2]; exact hw 1 (Or.inr ⟨rfl, hg.mpr ⟨h1, h2⟩⟩)
  · rw [h, if_neg (show ¬ nI 4 = 0 by decide), if_neg (show ¬ nI 4 = 1 by decide), if_neg (show ¬ nI 4 = 2 by decide), if_neg (show ¬ nI 4 = 3 by decide)]
    have hg : gG f p ↔ f p = 59 := by unfold gG; rw [if_neg (by omega), if_neg (by omega), if_neg (by omega), if_neg (by omega)]
    by_cases h1 : f p = 59
    · rw [if_pos h1]
      exact ret_some.mpr ⟨fun _ _ _ _ _ => rfl, Or.inr ⟨rfl, hg.mpr h1⟩, fun q => by omega, fun q => by omega, fun q => by omega, fun q => by omega, fun _ _ => rfl, fun _ _ => rfl, fun _ _ => rfl, fun _ _ => rfl⟩
    · rw [if_neg h1]
      exact ret_some.mpr ⟨fun _ _ _ _ _ => rfl, Or.inl ⟨rfl, fun q => h1 (hg.mp q)⟩, fun q => by omega, fun q => by omega, fun q => by omega, fun q => by omega, fun _ _ => rfl, fun _ _ => rfl, fun _ _ => rfl, fun _ _ => rfl⟩
