/-! the pure part: what a function's answer and cells are -/
def Ret {α : Type} (x : Option (α × Sg)) (P : α → Sg → Prop) : Prop := ∃ (r : α) (σ' : Sg), x = some (r, σ') ∧ P r σ'
theorem ret_some {α : Type} {r : α} {σ : Sg} {P : α → Sg → Prop} : Ret (some (r, σ)) P ↔ P r σ := by
  constructor
  · rintro ⟨r', σ', h, hp⟩
    obtain ⟨rfl, rfl⟩ := Prod.mk.inj (Option.some.inj h)
    exact hp
  · exact fun h => ⟨r, σ, rfl, h⟩
theorem ret_mono {α : Type} {x : Option (α × Sg)} {P Q : α → Sg → Prop} (h : Ret x P) (hPQ : ∀ r σ, P r σ → Q r σ) : Ret x Q := by
  obtain ⟨r, σ, e, hp⟩ := h
  exact ⟨r, σ, e, hPQ r σ hp⟩
theorem ret_bnd {α β : Type} {x : Option (α × Sg)} {k : α → Sg → Option (β × Sg)} {P : β → Sg → Prop} {Q : α → Sg → Prop} (h : Ret x Q) (hk : ∀ r σ, Q r σ → Ret (k r σ) P) : Ret (bnd x k) P := by
  obtain ⟨r, σ, e, hp⟩ := h
  rw [e]
  exact hk r σ hp
theorem bnd_some {α β : Type} {r : α} {σ : Sg} {k : α → Sg → Option β} : bnd (some (r, σ)) k = k r σ := rfl
theorem gd_true {α : Type} {b : Bool} {k : Option α} (h : b = true) : gd b k = k := by unfold gd; rw [if_pos h]
theorem gd_in {α : Type} {i n : Nat} {k : Option α} (h : i < n) (hn : n < 2 ^ 31) : gd (inB (nI i) n) k = k := gd_true (inB_of (vp_in_nI h hn))
theorem amlet_eq {α β : Type} {v : α} {k : α → β} : amlet v k = k v := rfl
/-- numbers -/
theorem cl_nI {n : Nat} (h : n < 2147483648) : (nI n).toNatClampNeg = n := nI_clamp h
theorem p_le {a b : Nat} (ha : a < 2147483648) (hb : b < 2147483648) : (nI a ≤ nI b) = (a ≤ b) := propext (nI_leI ha hb)
theorem p_lt {a b : Nat} (ha : a < 2147483648) (hb : b < 2147483648) : (nI a < nI b) = (a < b) := propext (nI_ltI ha hb)
theorem p_eq {a b : Nat} (ha : a < 2147483648) (hb : b < 2147483648) : (nI a = nI b) = (a = b) := propext (nI_eq ha hb)
theorem n_lit (n : Nat) : (OfNat.ofNat n : Int32) = nI n := rfl
theorem n_add (a b : Nat) : nI a + nI b = nI (a + b) := nI_add a b
theorem n_ne {n : Nat} (h : n < 2147483648) : ¬ nI n = (-1 : Int32) := fun e => by
  have h1 := nI_toInt h
  rw [e] at h1
  have h2 : (-1 : Int32).toInt = -1 := by decide
  omega
theorem ite_p {α : Type} {c d : Prop} [Decidable c] [Decidable d] {a b : α} (h : c = d) : (if c then a else b) = (if d then a else b) := by
  by_cases hc : c
  · rw [if_pos hc, if_pos (h ▸ hc)]
  · rw [if_neg hc, if_neg (h ▸ hc)]
/-- where the bound is reached, where it isn't yet: a literal bound, a counted one -/
theorem at_end {α : Type} {n i : Nat} {a b : α} (h : n ≤ i) (hi : i < 2147483648) : (if nI n ≤ nI i then a else b) = a := if_pos (by rw [p_le (by omega) hi]; exact h)
theorem at_go {α : Type} {n i : Nat} {a b : α} (h : i < n) (hn : n < 2147483648) : (if nI n ≤ nI i then a else b) = b := if_neg (by rw [p_le hn (by omega)]; omega)
theorem up2_at (σ : Sg) (c k : Nat) (v : Int32) : up2 σ c k v c = upd (σ c) k v := by simp [up2]
theorem up2_off {σ : Sg} {c c' k : Nat} {v : Int32} (h : c' ≠ c) : up2 σ c k v c' = σ c' := by simp [up2, h]
theorem upd_at (f : Nat → Int32) (k : Nat) (v : Int32) : upd f k v k = v := by simp [upd]
theorem upd_off {f : Nat → Int32} {k j : Nat} {v : Int32} (h : j ≠ k) : upd f k v j = f j := by simp [upd, h]
/-- the small functions -/
theorem isBelow_eq (σ : Sg) (a b : Int32) : f_X9_isBelow σ a b = some (if 0 ≤ a ∧ a < b then 1 else 0, σ) := by
  unfold f_X9_isBelow
  by_cases h : a < 0
  · simp [h, show ¬ (0 ≤ a ∧ a < b) from fun q => by have := q.1; grind]
  · by_cases h2 : b ≤ a
    · simp [h, h2, show ¬ (0 ≤ a ∧ a < b) from fun q => by have := q.2; grind]
    · simp [h, h2, show (0 ≤ a ∧ a < b) from ⟨by grind, by grind⟩]
theorem in_eq (σ : Sg) (a b c : Int32) : f_X10_in σ a b c = some (if b ≤ a ∧ a ≤ c then 1 else 0, σ) := by
  unfold f_X10_in
  by_cases h : a < b
  · simp [h, show ¬ (b ≤ a ∧ a ≤ c) from fun q => by have := q.1; grind]
  · by_cases h2 : c < a
    · simp [h, h2, show ¬ (b ≤ a ∧ a ≤ c) from fun q => by have := q.2; grind]
    · simp [h, h2, show (b ≤ a ∧ a ≤ c) from ⟨by grind, by grind⟩]
