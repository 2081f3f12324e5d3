/-! the reference reads the texts -/
theorem up_to (a : Int32) (n : Nat) (hn : n < 1000) : (a ≤ nI n) = (a < nI (n + 1)) := by
  rw [i32_le, i32_lt, nI_toInt (by omega), nI_toInt (by omega)]
  exact propext ⟨fun h => by omega, fun h => by omega⟩
theorem is_eq (σ : Sg) (a : Int32) (n : Nat) (hn : n < 1000) : (bnd (f_X10_in σ a (0 : Int32) (nI n)) (fun r1 σ2 => gd (decide (r1 = 0 ∨ r1 = 1)) (some (r1, σ2)))) = some (if 0 ≤ a ∧ a < nI (n + 1) then 1 else 0, σ) := by
  rw [in_eq, bnd_some, gd_bool]
  simp only [up_to a n hn]
theorem isText_eq (σ : Sg) (a : Int32) : f_X10_isText σ a = some (if 0 ≤ a ∧ a < 2 then 1 else 0, σ) := is_eq σ a 1 (by omega)
theorem isTwo_eq (σ : Sg) (a : Int32) : f_X10_isTwo σ a = some (if 0 ≤ a ∧ a < 2 then 1 else 0, σ) := is_eq σ a 1 (by omega)
theorem isThree_eq (σ : Sg) (a : Int32) : f_X10_isThree σ a = some (if 0 ≤ a ∧ a < 3 then 1 else 0, σ) := is_eq σ a 2 (by omega)
theorem isSix_eq (σ : Sg) (a : Int32) : f_X10_isSix σ a = some (if 0 ≤ a ∧ a < 6 then 1 else 0, σ) := is_eq σ a 5 (by omega)
theorem isEight_eq (σ : Sg) (a : Int32) : f_X10_isEight σ a = some (if 0 ≤ a ∧ a < 8 then 1 else 0, σ) := is_eq σ a 7 (by omega)
theorem isNight_eq (σ : Sg) (a : Int32) : f_X10_isNight σ a = some (if 0 ≤ a ∧ a < 24 then 1 else 0, σ) := is_eq σ a 23 (by omega)
theorem isSheet_eq (σ : Sg) (a : Int32) : f_X10_isSheet σ a = some (if 0 ≤ a ∧ a < 4 then 1 else 0, σ) := is_eq σ a 3 (by omega)
theorem one_if {c : Prop} [Decidable c] {α : Type} {x y : α} : (if (if c then (1 : Int32) else 0) = 0 then x else y) = if c then y else x := by
  by_cases h : c
  · simp only [if_pos h]
    rw [if_neg (by decide)]
  · simp only [if_neg h]
    rw [if_pos trivial]
def xF (f : Nat → Int32) (n : Nat) (j : Nat) : Int32 := if j < n then f j else -1
theorem byteAt0 {τ : Sg} {f : Nat → Int32} {n j : Nat} (hn : n ≤ 39) (ht : τ 1 0 = nI n) (hf : ∀ k, k < n → τ 2 k = f k) (hj : j < 1000) : f_X10_byteAt τ (0 : Int32) (nI j) = some (xF f n j, τ) := by
  unfold f_X10_byteAt xF
  have e0 : (0 : Int32).toNatClampNeg = 0 := by decide
  rw [gd_true (by decide), e0, ht]
  by_cases h : j < n
  · rw [at_go h (by omega), show (39 : Int32) * 0 + nI j = nI j from by simp, gd_in (by omega) (by omega), cl_nI (by omega), if_pos h, hf j h]
  · rw [at_end (by omega) (by omega), if_neg h]
theorem byteAt1 {τ : Sg} {f : Nat → Int32} {n j : Nat} (hn : n ≤ 31) (ht : τ 1 1 = nI n) (hf : ∀ k, k < n → τ 2 (39 + k) = f k) (hj : j < 1000) : f_X10_byteAt τ (1 : Int32) (nI j) = some (xF f n j, τ) := by
  unfold f_X10_byteAt xF
  have e0 : (1 : Int32).toNatClampNeg = 1 := by decide
  rw [gd_true (by decide), e0, ht]
  by_cases h : j < n
  · rw [at_go h (by omega), show (39 : Int32) * 1 + nI j = nI (39 + j) from by rw [← nI_add]; rfl, gd_in (by omega) (by omega), cl_nI (by omega), if_pos h, hf j h]
  · rw [at_end (by omega) (by omega), if_neg h]
theorem isTaken_ok (τ : Sg) (n : Nat) (hn : n ≤ 8) (x y : Int32) : f_X10_isTaken τ (nI n) x y = some (if ∃ j, j < n ∧ τ 4 j = x ∧ τ 5 j = y then 1 else 0, τ) := by
  unfold f_X10_isTaken
  refine i_X10_isTaken_l6 n (fun i σ2 x1 x2 x3 x4 x5 => σ2 = τ ∧ x1 = nI n ∧ x2 = x ∧ x3 = y ∧ x4 = (if ∃ j, j < i ∧ τ 4 j = x ∧ τ 5 j = y then 1 else 0) ∧ x5 = nI i) (fun σ2 x1 x2 x3 x4 x5 r => r = some (if ∃ j, j < n ∧ τ 4 j = x ∧ τ 5 j = y then 1 else 0, τ)) ?_ 300 0 (by omega) (by omega) τ (nI n) x y 0 0 ⟨rfl, rfl, rfl, rfl, (if_neg (fun ⟨j, h, _⟩ => absurd h (Nat.not_lt_zero _))).symm, rfl⟩
  intro i k σ2 x1 x2 x3 x4 x5 hi hI ih
  obtain ⟨rfl, rfl, rfl, rfl, rfl, rfl⟩ := hI
  unfold f_X10_isTaken_b6 f_X10_isTaken_b39 f_X10_isTaken_b43 f_X10_isTaken_b44
  rcases Nat.lt_or_ge i n with hlt | hge
  · rw [at_go hlt (by omega), one_if]
    simp only [amlet_eq, nI_1, gd_in (show i < 9 by omega) (show 9 < 2 ^ 31 by omega), cl_nI (show i < 2147483648 by omega)]
    have go : ∀ v : Int32, v = (if ∃ j, j < i + 1 ∧ σ2 4 j = x2 ∧ σ2 5 j = x3 then 1 else 0) → k σ2 (nI n) x2 x3 v (nI (i + 1)) = _ := fun v hv => ih _ _ _ _ _ _ hlt ⟨rfl, rfl, rfl, rfl, hv, rfl⟩
    by_cases hE : ∃ j, j < i ∧ σ2 4 j = x2 ∧ σ2 5 j = x3
    · rw [if_pos hE]
      obtain ⟨j, hj, hh⟩ := hE
      exact go 1 (if_pos ⟨j, by omega, hh⟩).symm
    · rw [if_neg hE]
      have no : ¬ (σ2 4 i = x2 ∧ σ2 5 i = x3) → (0 : Int32) = (if ∃ j, j < i + 1 ∧ σ2 4 j = x2 ∧ σ2 5 j = x3 then 1 else 0) := fun hno => (if_neg (fun ⟨j, hj, hh⟩ => by
        by_cases e : j = i
        · rw [e] at hh; exact hno hh
        · exact hE ⟨j, by omega, hh⟩)).symm
      by_cases h1 : σ2 4 i = x2
      · rw [if_pos h1]
        by_cases h2 : σ2 5 i = x3
        · rw [if_pos h2]
          exact go 1 (if_pos ⟨i, by omega, h1, h2⟩).symm
        · rw [if_neg h2]
          exact go 0 (no fun q => h2 q.2)
      · rw [if_neg h1]
        exact go 0 (no fun q => h1 q.1)
  · have e : i = n := by omega
    subst e
    rw [at_end (Nat.le_refl _) (by omega), gd_bool]
def rG (f : Nat → Int32) (τ : Sg) (i : Nat) : Prop := ∀ k, k < i → τ 3 k = sortV (f (5 * k)) ∧ τ 4 k = f (5 * k + 1) - 48 ∧ τ 5 k = f (5 * k + 2) - 48 ∧ τ 6 k = f (5 * k + 3) - 48
def rN (f : Nat → Int32) (τ : Sg) (i : Nat) : Prop := ∀ k, k < i → τ 7 k = f (4 * k) - 48 ∧ τ 8 k = f (4 * k + 1) - 97 ∧ τ 9 k = f (4 * k + 2) - 48
theorem nI_2 (a : Nat) : nI a + (2 : Int32) = nI (a + 2) := nI_add a 2
theorem nI_3 (a : Nat) : nI a + (3 : Int32) = nI (a + 3) := nI_add a 3
theorem fig_eq (b : Int32) : (¬ b < 49 ∧ ¬ 57 < b) ↔ (1 ≤ b - 48 ∧ b - 48 ≤ 9) := by
  constructor
  · intro h
    obtain ⟨m, hm, rfl⟩ := nI_of2 (M := 57) (n := 57) (by decide) (show ¬ b < 0 by have := h.1; grind) (by have := h.2; grind)
    have h1 : ¬ nI m < nI 49 := h.1
    rw [p_lt (by omega) (by omega)] at h1
    rw [n_lit 48, pk_sub (by omega)]
    show nI 1 ≤ _ ∧ _ ≤ nI 9
    rw [p_le (by omega) (by omega), p_le (by omega) (by omega)]
    omega
  · intro h
    obtain ⟨m, hm, e⟩ := nI_of2 (M := 9) (n := 9) (x := b - 48) (by decide) (by have := h.1; grind) h.2
    have h1 : nI 1 ≤ b - 48 := h.1
    rw [e, p_le (by omega) (by omega)] at h1
    have eb : b = nI (m + 48) := by
      rw [← nI_add, ← e]
      simp [nI]
    rw [eb]
    show ¬ _ < nI 49 ∧ ¬ nI 57 < _
    rw [p_lt (by omega) (by omega), p_lt (by omega) (by omega)]
    omega
theorem readsGone_ok {τ : Sg} {f : Nat → Int32} {n0 i : Nat} (hn : n0 ≤ 39) (ht : τ 1 0 = nI n0) (hf : ∀ k, k < n0 → τ 2 k = f k) (hi : i < 8) (hr : rG (xF f n0) τ i) : Ret (f_X10_readsGone τ (nI i) (nI (5 * i))) (fun r τ' =>
    (∃ t, t < 4 ∧ r = nI t ∧ τ' = τ ∧ (∀ j, j < t → gG (xF f n0) (5 * i + j)) ∧ ¬ gG (xF f n0) (5 * i + t)) ∨
    (r = nI 4 ∧ (∀ j, j < 4 → gG (xF f n0) (5 * i + j)) ∧ (∀ c, (c < 3 ∨ 6 < c) → τ' c = τ c) ∧ rG (xF f n0) τ' (i + 1))) := by
  generalize hF : xF f n0 = F at hr ⊢
  have hby : ∀ j, j < 1000 → f_X10_byteAt τ (0 : Int32) (nI j) = some (F j, τ) := fun j hj => by rw [← hF]; exact byteAt0 hn ht hf hj
  have g0 : gG F (5 * i) ↔ ¬ sortV (F (5 * i)) = -1 := by unfold gG; rw [if_pos (by omega)]
  have g1 : gG F (5 * i + 1) ↔ (0 ≤ F (5 * i + 1) - 48 ∧ F (5 * i + 1) - 48 < 6) := by unfold gG; rw [if_neg (by omega), if_pos (by omega)]
  have g2 : gG F (5 * i + 2) ↔ ((0 ≤ F (5 * i + 2) - 48 ∧ F (5 * i + 2) - 48 < 6) ∧ ¬ ∃ j, j < i ∧ τ 4 j = F (5 * i + 1) - 48 ∧ τ 5 j = F (5 * i + 2) - 48) := by
    unfold gG
    rw [if_neg (by omega), if_neg (by omega), if_pos (by omega), show (5 * i + 2) / 5 = i by omega, show 5 * i + 2 - 1 = 5 * i + 1 by omega]
    refine and_congr_right fun _ => not_congr (exists_congr fun j => and_congr_right fun hj => ?_)
    obtain ⟨-, q1, q2, -⟩ := hr j hj
    rw [q1, q2]
  have g3 : gG F (5 * i + 3) ↔ (1 ≤ F (5 * i + 3) - 48 ∧ F (5 * i + 3) - 48 ≤ 9) := by
    unfold gG
    rw [if_neg (by omega), if_neg (by omega), if_neg (by omega), if_pos (by omega)]
    grind
  have upto : ∀ t, t < 4 → ¬ gG F (5 * i + t) → (∀ j, j < t → gG F (5 * i + j)) → Ret (some (nI t, τ)) (fun r τ' =>
    (∃ t, t < 4 ∧ r = nI t ∧ τ' = τ ∧ (∀ j, j < t → gG F (5 * i + j)) ∧ ¬ gG F (5 * i + t)) ∨
    (r = nI 4 ∧ (∀ j, j < 4 → gG F (5 * i + j)) ∧ (∀ c, (c < 3 ∨ 6 < c) → τ' c = τ c) ∧ rG F τ' (i + 1))) := fun t h1 h2 h3 => ret_some.mpr (Or.inl ⟨t, h1, rfl, rfl, h3, h2⟩)
  unfold f_X10_readsGone
  rw [hby _ (by omega), bnd_some]
  have hs : (if F (5 * i) = (100 : Int32) then (f_X10_readsGone_b38 τ (nI i) (nI (5 * i)) (0 : Int32)) else (if F (5 * i) = (99 : Int32) then (f_X10_readsGone_b38 τ (nI i) (nI (5 * i)) (1 : Int32)) else (if F (5 * i) = (114 : Int32) then (f_X10_readsGone_b38 τ (nI i) (nI (5 * i)) (2 : Int32)) else (f_X10_readsGone_b38 τ (nI i) (nI (5 * i)) (-1 : Int32))))) = f_X10_readsGone_b38 τ (nI i) (nI (5 * i)) (sortV (F (5 * i))) := by
    unfold sortV
    repeat' split
    all_goals rfl
  rw [hs]
  unfold f_X10_readsGone_b38
  rw [nI_1, hby _ (by omega), bnd_some, amlet_eq, nI_2, hby _ (by omega), bnd_some, amlet_eq, nI_3, hby _ (by omega), bnd_some, amlet_eq, if_neg (show ¬ nI i = (8 : Int32) from by rw [n_lit 8, p_eq (by omega) (by omega)]; omega)]
  by_cases h0 : sortV (F (5 * i)) = -1
  · rw [if_pos h0]
    exact upto 0 (by omega) (fun q => g0.mp q h0) (fun j h => absurd h (Nat.not_lt_zero _))
  rw [if_neg h0, isSix_eq, bnd_some, one_if]
  by_cases h1 : 0 ≤ F (5 * i + 1) - 48 ∧ F (5 * i + 1) - 48 < 6
  rotate_left
  · rw [if_neg h1]
    exact upto 1 (by omega) (fun q => h1 (g1.mp q)) (fun j h => by rw [show j = 0 by omega]; exact g0.mpr h0)
  rw [if_pos h1, isSix_eq, bnd_some, one_if]
  have b2 : ∀ j, j < 2 → gG F (5 * i + j) := fun j h => by
    rcases (show j = 0 ∨ j = 1 by omega) with e | e
    · rw [e]; exact g0.mpr h0
    · rw [e]; exact g1.mpr h1
  by_cases h2 : 0 ≤ F (5 * i + 2) - 48 ∧ F (5 * i + 2) - 48 < 6
  rotate_left
  · rw [if_neg h2]
    exact upto 2 (by omega) (fun q => h2 (g2.mp q).1) b2
  rw [if_pos h2, isTaken_ok _ _ (by omega), bnd_some, one_if]
  by_cases hT : ∃ j, j < i ∧ τ 4 j = F (5 * i + 1) - 48 ∧ τ 5 j = F (5 * i + 2) - 48
  · rw [if_pos hT]
    exact upto 2 (by omega) (fun q => (g2.mp q).2 hT) b2
  rw [if_neg hT, in_eq, bnd_some, one_if]
  have b3 : ∀ j, j < 3 → gG F (5 * i + j) := fun j h => by
    rcases (show j < 2 ∨ j = 2 by omega) with e | e
    · exact b2 j e
    · rw [e]; exact g2.mpr ⟨h2, hT⟩
  by_cases h3 : 1 ≤ F (5 * i + 3) - 48 ∧ F (5 * i + 3) - 48 ≤ 9
  rotate_left
  · rw [if_neg h3]
    exact upto 3 (by omega) (fun q => h3 (g3.mp q)) b3
  rw [if_pos h3]
  simp only [amlet_eq, gd_in (show i < 9 by omega) (show 9 < 2 ^ 31 by omega), cl_nI (show i < 2147483648 by omega)]
  refine ret_some.mpr (Or.inr ⟨rfl, fun j h => ?_, fun c h => by rw [up2_off (by omega), up2_off (by omega), up2_off (by omega), up2_off (by omega)], fun k hk => ?_⟩)
  · rcases (show j < 3 ∨ j = 3 by omega) with e | e
    · exact b3 j e
    · rw [e]; exact g3.mpr h3
  · rw [up2_off (show (3 : Nat) ≠ 6 by omega), up2_off (show (3 : Nat) ≠ 5 by omega), up2_off (show (3 : Nat) ≠ 4 by omega), up2_at, up2_off (show (4 : Nat) ≠ 6 by omega), up2_off (show (4 : Nat) ≠ 5 by omega), up2_at, up2_off (show (4 : Nat) ≠ 3 by omega), up2_off (show (5 : Nat) ≠ 6 by omega), up2_at, up2_off (show (5 : Nat) ≠ 4 by omega), up2_off (show (5 : Nat) ≠ 3 by omega), up2_at, up2_off (show (6 : Nat) ≠ 5 by omega), up2_off (show (6 : Nat) ≠ 4 by omega), up2_off (show (6 : Nat) ≠ 3 by omega)]
    by_cases e : k = i
    · subst e; rw [upd_at, upd_at, upd_at, upd_at]; exact ⟨rfl, rfl, rfl, rfl⟩
    · rw [upd_off e, upd_off e, upd_off e, upd_off e]; exact hr k (by omega)
theorem readsNeed_ok {τ : Sg} {f : Nat → Int32} {n0 i : Nat} (hn : n0 ≤ 31) (ht : τ 1 1 = nI n0) (hf : ∀ k, k < n0 → τ 2 (39 + k) = f k) (hi : i < 8) (hr : rN (xF f n0) τ i) : Ret (f_X10_readsNeed τ (nI i) (nI (4 * i))) (fun r τ' =>
    (∃ t, t < 3 ∧ r = nI t ∧ τ' = τ ∧ (∀ j, j < t → gN (xF f n0) (4 * i + j)) ∧ ¬ gN (xF f n0) (4 * i + t)) ∨
    (r = nI 3 ∧ (∀ j, j < 3 → gN (xF f n0) (4 * i + j)) ∧ (∀ c, (c < 7 ∨ 9 < c) → τ' c = τ c) ∧ rN (xF f n0) τ' (i + 1))) := by
  generalize hF : xF f n0 = F at hr ⊢
  have hby : ∀ j, j < 1000 → f_X10_byteAt τ (1 : Int32) (nI j) = some (F j, τ) := fun j hj => by rw [← hF]; exact byteAt1 hn ht hf hj
  have g0 : gN F (4 * i) ↔ (0 ≤ F (4 * i) - 48 ∧ F (4 * i) - 48 < 8) := by unfold gN; rw [if_pos (by omega)]
  have g1 : gN F (4 * i + 1) ↔ (0 ≤ F (4 * i + 1) - 97 ∧ F (4 * i + 1) - 97 < 24) := by unfold gN; rw [if_neg (by omega), if_pos (by omega)]
  have g2 : gN F (4 * i + 2) ↔ (1 ≤ F (4 * i + 2) - 48 ∧ F (4 * i + 2) - 48 ≤ 9) := by
    unfold gN
    rw [if_neg (by omega), if_neg (by omega), if_pos (by omega)]
    exact fig_eq _
  have upto : ∀ t, t < 3 → ¬ gN F (4 * i + t) → (∀ j, j < t → gN F (4 * i + j)) → Ret (some (nI t, τ)) (fun r τ' =>
    (∃ t, t < 3 ∧ r = nI t ∧ τ' = τ ∧ (∀ j, j < t → gN F (4 * i + j)) ∧ ¬ gN F (4 * i + t)) ∨
    (r = nI 3 ∧ (∀ j, j < 3 → gN F (4 * i + j)) ∧ (∀ c, (c < 7 ∨ 9 < c) → τ' c = τ c) ∧ rN F τ' (i + 1))) := fun t h1 h2 h3 => ret_some.mpr (Or.inl ⟨t, h1, rfl, rfl, h3, h2⟩)
  unfold f_X10_readsNeed
  rw [hby _ (by omega), bnd_some, amlet_eq, nI_1, hby _ (by omega), bnd_some, amlet_eq, nI_2, hby _ (by omega), bnd_some, amlet_eq, if_neg (show ¬ nI i = (8 : Int32) from by rw [n_lit 8, p_eq (by omega) (by omega)]; omega)]
  rw [isEight_eq, bnd_some, one_if]
  by_cases h0 : 0 ≤ F (4 * i) - 48 ∧ F (4 * i) - 48 < 8
  rotate_left
  · rw [if_neg h0]
    exact upto 0 (by omega) (fun q => h0 (g0.mp q)) (fun j h => absurd h (Nat.not_lt_zero _))
  rw [if_pos h0, isNight_eq, bnd_some, one_if]
  by_cases h1 : 0 ≤ F (4 * i + 1) - 97 ∧ F (4 * i + 1) - 97 < 24
  rotate_left
  · rw [if_neg h1]
    exact upto 1 (by omega) (fun q => h1 (g1.mp q)) (fun j h => by rw [show j = 0 by omega]; exact g0.mpr h0)
  rw [if_pos h1, in_eq, bnd_some, one_if]
  have b2 : ∀ j, j < 2 → gN F (4 * i + j) := fun j h => by
    rcases (show j = 0 ∨ j = 1 by omega) with e | e
    · rw [e]; exact g0.mpr h0
    · rw [e]; exact g1.mpr h1
  by_cases h3 : 1 ≤ F (4 * i + 2) - 48 ∧ F (4 * i + 2) - 48 ≤ 9
  rotate_left
  · rw [if_neg h3]
    exact upto 2 (by omega) (fun q => h3 (g2.mp q)) b2
  rw [if_pos h3]
  simp only [amlet_eq, gd_in (show i < 9 by omega) (show 9 < 2 ^ 31 by omega), cl_nI (show i < 2147483648 by omega)]
  refine ret_some.mpr (Or.inr ⟨rfl, fun j h => ?_, fun c h => by rw [up2_off (by omega), up2_off (by omega), up2_off (by omega)], fun k hk => ?_⟩)
  · rcases (show j < 2 ∨ j = 2 by omega) with e | e
    · exact b2 j e
    · rw [e]; exact g2.mpr h3
  · rw [up2_off (show (7 : Nat) ≠ 9 by omega), up2_off (show (7 : Nat) ≠ 8 by omega), up2_at, up2_off (show (8 : Nat) ≠ 9 by omega), up2_at, up2_off (show (8 : Nat) ≠ 7 by omega), up2_at, up2_off (show (9 : Nat) ≠ 8 by omega), up2_off (show (9 : Nat) ≠ 7 by omega)]
    by_cases e : k = i
    · subst e; rw [upd_at, upd_at, upd_at]; exact ⟨rfl, rfl, rfl⟩
    · rw [upd_off e, upd_off e, upd_off e]; exact hr k (by omega)
