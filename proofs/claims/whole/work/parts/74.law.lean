/-! the law's loop -/
theorem inv0 : Inv σX0 σM0 := by
  have hT : TX σX0 0 0 0 0 := by
    refine ⟨by decide, by decide, rfl, rfl, rfl, rfl, rfl, rfl, rfl, rfl, ?_, ?_, Or.inl ⟨rfl, rfl, fun j hj => absurd hj (Nat.not_lt_zero _)⟩, Or.inl ⟨rfl, rfl, fun j hj => absurd hj (Nat.not_lt_zero _)⟩⟩
    · exact Or.inr ⟨fun j hj => absurd hj (Nat.not_lt_zero _), Or.inl ⟨Or.inl rfl, rfl⟩⟩
    · exact Or.inr ⟨fun j hj => absurd hj (Nat.not_lt_zero _), Or.inl ⟨Or.inl rfl, rfl⟩⟩
  have hE : SE σX0 0 := ⟨by decide, rfl, fun k hk => absurd hk (Nat.not_lt_zero _)⟩
  have four : ∀ s, s < 4 → s = 0 ∨ s = 1 ∨ s = 2 ∨ s = 3 := fun s hs => by omega
  have hH : SH σX0 := by
    intro s hs
    rcases four s hs with rfl | rfl | rfl | rfl <;> exact ⟨Or.inl rfl, 0, by decide, rfl⟩
  refine ⟨σX0, 0, 0, 0, 0, 0, 0, fun _ => 0, fun _ => 0, fun _ => 0, ?_, ?_⟩
  · refine ⟨hT, hE, hH, by decide, fun c _ => rfl, rfl, ⟨by decide, rfl, fun e he => absurd he (Nat.not_lt_zero _), fun k e he => by rw [ord_0] at he; simp at he⟩, fun g => absurd g ?_, fun g => absurd g ?_⟩
    · show ¬ (1 : Int32) = 0
      decide
    · show ¬ (1 : Int32) = 0
      decide
  · refine ⟨hT, hE, hH, by decide, ⟨rfl, rfl, fun k hk => absurd hk (Nat.not_lt_zero _), fun k hk => absurd hk (Nat.not_lt_zero _)⟩, rfl, fun e he => absurd he (Nat.not_lt_zero _), rfl, fun k hk => absurd hk (Nat.not_lt_zero _), rfl, fun s hs => Or.inl ?_⟩
    rcases four s hs with rfl | rfl | rfl | rfl <;> exact ⟨rfl, rfl⟩
theorem law_st {α : Type} [∀ a b : α, Decidable (a = b)] {x y : Option (α × Sg)} {k : Sg → Sg → Int32 → Option Unit} {z : Int32} (h : Agr x y) (hk : ∀ σ τ, Inv σ τ → k σ τ z = some ()) : bnd x (fun r1 σ2 => bnd y (fun r4 τ5 => if r1 = r4 then k σ2 τ5 z else none)) = some () := by
  obtain ⟨r, σ', τ', e, e', hI⟩ := h
  rw [e, bnd_some, e', bnd_some, if_pos rfl]
  exact hk _ _ hI
theorem nI_4 (a : Nat) : nI a + (4 : Int32) = nI (a + 4) := nI_add a 4
theorem nI_5 (a : Nat) : nI a + (5 : Int32) = nI (a + 5) := nI_add a 5
theorem nI_6 (a : Nat) : nI a + (6 : Int32) = nI (a + 6) := nI_add a 6
theorem law_c0 (xs : Nat → Int32) {L w : Nat} (hL : L ≤ 3072) (hw : w + 6 ≤ L) {k : Sg → Sg → Int32 → Option Unit} {σ τ : Sg} (hI : Inv σ τ) (hk : ∀ σ τ, Inv σ τ → k σ τ (nI w + (6 : Int32)) = some ()) : f_law_0 xs L k σ τ (nI w) = some () := by
  obtain ⟨D, p, q, n0, n1, n, m, ek, ef, en, h, g⟩ := hI
  unfold f_law_0
  simp only [nI_1, nI_2, gd_in (show w + 1 < L by omega) (show L < 2 ^ 31 by omega), gd_in (show w + 2 < L by omega) (show L < 2 ^ 31 by omega), cl_nI (show w + 1 < 2147483648 by omega), cl_nI (show w + 2 < 2147483648 by omega)]
  exact law_st (ag_type h g (xs (w + 1)) (xs (w + 2))) hk
theorem law_c1 (xs : Nat → Int32) {L w : Nat} (hL : L ≤ 3072) (hw : w + 6 ≤ L) {k : Sg → Sg → Int32 → Option Unit} {σ τ : Sg} (hI : Inv σ τ) (hk : ∀ σ τ, Inv σ τ → k σ τ (nI w + (6 : Int32)) = some ()) : f_law_1 xs L k σ τ (nI w) = some () := by
  obtain ⟨D, p, q, n0, n1, n, m, ek, ef, en, h, g⟩ := hI
  unfold f_law_1
  simp only [nI_1, gd_in (show w + 1 < L by omega) (show L < 2 ^ 31 by omega), cl_nI (show w + 1 < 2147483648 by omega)]
  exact law_st (ag_wipe h g (xs (w + 1))) hk
theorem law_c2 (xs : Nat → Int32) {L w : Nat} (hL : L ≤ 3072) (hw : w + 6 ≤ L) {k : Sg → Sg → Int32 → Option Unit} {σ τ : Sg} (hI : Inv σ τ) (hk : ∀ σ τ, Inv σ τ → k σ τ (nI w + (6 : Int32)) = some ()) : f_law_2 xs L k σ τ (nI w) = some () := by
  obtain ⟨D, p, q, n0, n1, n, m, ek, ef, en, h, g⟩ := hI
  unfold f_law_2
  simp only [nI_1, gd_in (show w + 1 < L by omega) (show L < 2 ^ 31 by omega), cl_nI (show w + 1 < 2147483648 by omega)]
  exact law_st (ag_undo h g (xs (w + 1))) hk
theorem law_c3 (xs : Nat → Int32) {L w : Nat} (hL : L ≤ 3072) (hw : w + 6 ≤ L) {k : Sg → Sg → Int32 → Option Unit} {σ τ : Sg} (hI : Inv σ τ) (hk : ∀ σ τ, Inv σ τ → k σ τ (nI w + (6 : Int32)) = some ()) : f_law_3 xs L k σ τ (nI w) = some () := by
  obtain ⟨D, p, q, n0, n1, n, m, ek, ef, en, h, g⟩ := hI
  unfold f_law_3
  simp only [nI_1, gd_in (show w + 1 < L by omega) (show L < 2 ^ 31 by omega), cl_nI (show w + 1 < 2147483648 by omega)]
  exact law_st (ag_fault h g (xs (w + 1))) hk
theorem law_c4 (xs : Nat → Int32) {L w : Nat} (hL : L ≤ 3072) (hw : w + 6 ≤ L) {k : Sg → Sg → Int32 → Option Unit} {σ τ : Sg} (hI : Inv σ τ) (hk : ∀ σ τ, Inv σ τ → k σ τ (nI w + (6 : Int32)) = some ()) : f_law_4 xs L k σ τ (nI w) = some () := by
  obtain ⟨D, p, q, n0, n1, n, m, ek, ef, en, h, g⟩ := hI
  unfold f_law_4
  simp only [nI_1, nI_2, gd_in (show w + 1 < L by omega) (show L < 2 ^ 31 by omega), gd_in (show w + 2 < L by omega) (show L < 2 ^ 31 by omega), cl_nI (show w + 1 < 2147483648 by omega), cl_nI (show w + 2 < 2147483648 by omega)]
  exact law_st (ag_gone h g (xs (w + 1)) (xs (w + 2))) hk
theorem law_c5 (xs : Nat → Int32) {L w : Nat} (hL : L ≤ 3072) (hw : w + 6 ≤ L) {k : Sg → Sg → Int32 → Option Unit} {σ τ : Sg} (hI : Inv σ τ) (hk : ∀ σ τ, Inv σ τ → k σ τ (nI w + (6 : Int32)) = some ()) : f_law_5 xs L k σ τ (nI w) = some () := by
  obtain ⟨D, p, q, n0, n1, n, m, ek, ef, en, h, g⟩ := hI
  unfold f_law_5
  simp only [nI_1, nI_2, gd_in (show w + 1 < L by omega) (show L < 2 ^ 31 by omega), gd_in (show w + 2 < L by omega) (show L < 2 ^ 31 by omega), cl_nI (show w + 1 < 2147483648 by omega), cl_nI (show w + 2 < 2147483648 by omega)]
  exact law_st (ag_need h g (xs (w + 1)) (xs (w + 2))) hk
theorem law_c6 (xs : Nat → Int32) {L w : Nat} (hL : L ≤ 3072) (hw : w + 6 ≤ L) {k : Sg → Sg → Int32 → Option Unit} {σ τ : Sg} (hI : Inv σ τ) (hk : ∀ σ τ, Inv σ τ → k σ τ (nI w + (6 : Int32)) = some ()) : f_law_6 xs L k σ τ (nI w) = some () := by
  obtain ⟨D, p, q, n0, n1, n, m, ek, ef, en, h, g⟩ := hI
  unfold f_law_6
  simp only [nI_1, nI_2, nI_3, gd_in (show w + 1 < L by omega) (show L < 2 ^ 31 by omega), gd_in (show w + 2 < L by omega) (show L < 2 ^ 31 by omega), gd_in (show w + 3 < L by omega) (show L < 2 ^ 31 by omega), cl_nI (show w + 1 < 2147483648 by omega), cl_nI (show w + 2 < 2147483648 by omega), cl_nI (show w + 3 < 2147483648 by omega)]
  exact law_st (ag_event h g (xs (w + 1)) (xs (w + 2)) (xs (w + 3))) hk
theorem law_c7 (xs : Nat → Int32) {L w : Nat} (hL : L ≤ 3072) (hw : w + 6 ≤ L) {k : Sg → Sg → Int32 → Option Unit} {σ τ : Sg} (hI : Inv σ τ) (hk : ∀ σ τ, Inv σ τ → k σ τ (nI w + (6 : Int32)) = some ()) : f_law_7 xs L k σ τ (nI w) = some () := by
  obtain ⟨D, p, q, n0, n1, n, m, ek, ef, en, h, g⟩ := hI
  unfold f_law_7
  exact law_st (ag_back h g) hk
theorem law_c8 (xs : Nat → Int32) {L w : Nat} (hL : L ≤ 3072) (hw : w + 6 ≤ L) {k : Sg → Sg → Int32 → Option Unit} {σ τ : Sg} (hI : Inv σ τ) (hk : ∀ σ τ, Inv σ τ → k σ τ (nI w + (6 : Int32)) = some ()) : f_law_8 xs L k σ τ (nI w) = some () := by
  obtain ⟨D, p, q, n0, n1, n, m, ek, ef, en, h, g⟩ := hI
  unfold f_law_8
  simp only [nI_1, gd_in (show w + 1 < L by omega) (show L < 2 ^ 31 by omega), cl_nI (show w + 1 < 2147483648 by omega)]
  exact law_st (ag_read h g (xs (w + 1))) hk
theorem law_c9 (xs : Nat → Int32) {L w : Nat} (hL : L ≤ 3072) (hw : w + 6 ≤ L) {k : Sg → Sg → Int32 → Option Unit} {σ τ : Sg} (hI : Inv σ τ) (hk : ∀ σ τ, Inv σ τ → k σ τ (nI w + (6 : Int32)) = some ()) : f_law_9 xs L k σ τ (nI w) = some () := by
  obtain ⟨D, p, q, n0, n1, n, m, ek, ef, en, h, g⟩ := hI
  unfold f_law_9
  simp only [nI_1, nI_2, nI_3, gd_in (show w + 1 < L by omega) (show L < 2 ^ 31 by omega), gd_in (show w + 2 < L by omega) (show L < 2 ^ 31 by omega), gd_in (show w + 3 < L by omega) (show L < 2 ^ 31 by omega), cl_nI (show w + 1 < 2147483648 by omega), cl_nI (show w + 2 < 2147483648 by omega), cl_nI (show w + 3 < 2147483648 by omega)]
  exact law_st (ag_at h g (xs (w + 1)) (xs (w + 2)) (xs (w + 3))) hk
theorem law_c10 (xs : Nat → Int32) {L w : Nat} (hL : L ≤ 3072) (hw : w + 6 ≤ L) {k : Sg → Sg → Int32 → Option Unit} {σ τ : Sg} (hI : Inv σ τ) (hk : ∀ σ τ, Inv σ τ → k σ τ (nI w + (6 : Int32)) = some ()) : f_law_10 xs L k σ τ (nI w) = some () := by
  obtain ⟨D, p, q, n0, n1, n, m, ek, ef, en, h, g⟩ := hI
  unfold f_law_10
  simp only [nI_1, nI_2, nI_3, gd_in (show w + 1 < L by omega) (show L < 2 ^ 31 by omega), gd_in (show w + 2 < L by omega) (show L < 2 ^ 31 by omega), gd_in (show w + 3 < L by omega) (show L < 2 ^ 31 by omega), cl_nI (show w + 1 < 2147483648 by omega), cl_nI (show w + 2 < 2147483648 by omega), cl_nI (show w + 3 < 2147483648 by omega)]
  exact law_st (ag_field h g (xs (w + 1)) (xs (w + 2)) (xs (w + 3))) hk
theorem law_c11 (xs : Nat → Int32) {L w : Nat} (hL : L ≤ 3072) (hw : w + 6 ≤ L) {k : Sg → Sg → Int32 → Option Unit} {σ τ : Sg} (hI : Inv σ τ) (hk : ∀ σ τ, Inv σ τ → k σ τ (nI w + (6 : Int32)) = some ()) : f_law_11 xs L k σ τ (nI w) = some () := by
  obtain ⟨D, p, q, n0, n1, n, m, ek, ef, en, h, g⟩ := hI
  unfold f_law_11
  simp only [nI_1, nI_2, gd_in (show w + 1 < L by omega) (show L < 2 ^ 31 by omega), gd_in (show w + 2 < L by omega) (show L < 2 ^ 31 by omega), cl_nI (show w + 1 < 2147483648 by omega), cl_nI (show w + 2 < 2147483648 by omega)]
  exact law_st (ag_up h g (xs (w + 1)) (xs (w + 2))) hk
theorem law_c12 (xs : Nat → Int32) {L w : Nat} (hL : L ≤ 3072) (hw : w + 6 ≤ L) {k : Sg → Sg → Int32 → Option Unit} {σ τ : Sg} (hI : Inv σ τ) (hk : ∀ σ τ, Inv σ τ → k σ τ (nI w + (6 : Int32)) = some ()) : f_law_12 xs L k σ τ (nI w) = some () := by
  obtain ⟨D, p, q, n0, n1, n, m, ek, ef, en, h, g⟩ := hI
  unfold f_law_12
  simp only [nI_1, gd_in (show w + 1 < L by omega) (show L < 2 ^ 31 by omega), cl_nI (show w + 1 < 2147483648 by omega)]
  exact law_st (ag_met h g (xs (w + 1))) hk
theorem law_c13 (xs : Nat → Int32) {L w : Nat} (hL : L ≤ 3072) (hw : w + 6 ≤ L) {k : Sg → Sg → Int32 → Option Unit} {σ τ : Sg} (hI : Inv σ τ) (hk : ∀ σ τ, Inv σ τ → k σ τ (nI w + (6 : Int32)) = some ()) : f_law_13 xs L k σ τ (nI w) = some () := by
  obtain ⟨D, p, q, n0, n1, n, m, ek, ef, en, h, g⟩ := hI
  unfold f_law_13
  simp only [nI_1, gd_in (show w + 1 < L by omega) (show L < 2 ^ 31 by omega), cl_nI (show w + 1 < 2147483648 by omega)]
  exact law_st (ag_stood h g (xs (w + 1))) hk
theorem law_c14 (xs : Nat → Int32) {L w : Nat} (hL : L ≤ 3072) (hw : w + 6 ≤ L) {k : Sg → Sg → Int32 → Option Unit} {σ τ : Sg} (hI : Inv σ τ) (hk : ∀ σ τ, Inv σ τ → k σ τ (nI w + (6 : Int32)) = some ()) : f_law_14 xs L k σ τ (nI w) = some () := by
  obtain ⟨D, p, q, n0, n1, n, m, ek, ef, en, h, g⟩ := hI
  unfold f_law_14
  exact law_st (ag_wrongly h g) hk
theorem law_c15 (xs : Nat → Int32) {L w : Nat} (hL : L ≤ 3072) (hw : w + 6 ≤ L) {k : Sg → Sg → Int32 → Option Unit} {σ τ : Sg} (hI : Inv σ τ) (hk : ∀ σ τ, Inv σ τ → k σ τ (nI w + (6 : Int32)) = some ()) : f_law_15 xs L k σ τ (nI w) = some () := by
  obtain ⟨D, p, q, n0, n1, n, m, ek, ef, en, h, g⟩ := hI
  unfold f_law_15
  simp only [nI_1, gd_in (show w + 1 < L by omega) (show L < 2 ^ 31 by omega), cl_nI (show w + 1 < 2147483648 by omega)]
  exact law_st (ag_first h g (xs (w + 1))) hk
theorem law_c16 (xs : Nat → Int32) {L w : Nat} (hL : L ≤ 3072) (hw : w + 6 ≤ L) {k : Sg → Sg → Int32 → Option Unit} {σ τ : Sg} (hI : Inv σ τ) (hk : ∀ σ τ, Inv σ τ → k σ τ (nI w + (6 : Int32)) = some ()) : f_law_16 xs L k σ τ (nI w) = some () := by
  obtain ⟨D, p, q, n0, n1, n, m, ek, ef, en, h, g⟩ := hI
  unfold f_law_16
  exact law_st (ag_gate h g) hk
theorem law_c17 (xs : Nat → Int32) {L w : Nat} (hL : L ≤ 3072) (hw : w + 6 ≤ L) {k : Sg → Sg → Int32 → Option Unit} {σ τ : Sg} (hI : Inv σ τ) (hk : ∀ σ τ, Inv σ τ → k σ τ (nI w + (6 : Int32)) = some ()) : f_law_17 xs L k σ τ (nI w) = some () := by
  obtain ⟨D, p, q, n0, n1, n, m, ek, ef, en, h, g⟩ := hI
  unfold f_law_17
  exact law_st (ag_rest h g) hk
theorem law_c18 (xs : Nat → Int32) {L w : Nat} (hL : L ≤ 3072) (hw : w + 6 ≤ L) {k : Sg → Sg → Int32 → Option Unit} {σ τ : Sg} (hI : Inv σ τ) (hk : ∀ σ τ, Inv σ τ → k σ τ (nI w + (6 : Int32)) = some ()) : f_law_18 xs L k σ τ (nI w) = some () := by
  obtain ⟨D, p, q, n0, n1, n, m, ek, ef, en, h, g⟩ := hI
  unfold f_law_18
  simp only [nI_1, nI_2, gd_in (show w + 1 < L by omega) (show L < 2 ^ 31 by omega), gd_in (show w + 2 < L by omega) (show L < 2 ^ 31 by omega), cl_nI (show w + 1 < 2147483648 by omega), cl_nI (show w + 2 < 2147483648 by omega)]
  exact law_st (ag_plough h g (xs (w + 1)) (xs (w + 2))) hk
theorem law_c19 (xs : Nat → Int32) {L w : Nat} (hL : L ≤ 3072) (hw : w + 6 ≤ L) {k : Sg → Sg → Int32 → Option Unit} {σ τ : Sg} (hI : Inv σ τ) (hk : ∀ σ τ, Inv σ τ → k σ τ (nI w + (6 : Int32)) = some ()) : f_law_19 xs L k σ τ (nI w) = some () := by
  obtain ⟨D, p, q, n0, n1, n, m, ek, ef, en, h, g⟩ := hI
  unfold f_law_19
  simp only [nI_1, nI_2, gd_in (show w + 1 < L by omega) (show L < 2 ^ 31 by omega), gd_in (show w + 2 < L by omega) (show L < 2 ^ 31 by omega), cl_nI (show w + 1 < 2147483648 by omega), cl_nI (show w + 2 < 2147483648 by omega)]
  exact law_st (ag_lie h g (xs (w + 1)) (xs (w + 2))) hk
theorem law_c20 (xs : Nat → Int32) {L w : Nat} (hL : L ≤ 3072) (hw : w + 6 ≤ L) {k : Sg → Sg → Int32 → Option Unit} {σ τ : Sg} (hI : Inv σ τ) (hk : ∀ σ τ, Inv σ τ → k σ τ (nI w + (6 : Int32)) = some ()) : f_law_20 xs L k σ τ (nI w) = some () := by
  obtain ⟨D, p, q, n0, n1, n, m, ek, ef, en, h, g⟩ := hI
  unfold f_law_20
  simp only [nI_1, nI_2, gd_in (show w + 1 < L by omega) (show L < 2 ^ 31 by omega), gd_in (show w + 2 < L by omega) (show L < 2 ^ 31 by omega), cl_nI (show w + 1 < 2147483648 by omega), cl_nI (show w + 2 < 2147483648 by omega)]
  exact law_st (ag_when h g (xs (w + 1)) (xs (w + 2))) hk
theorem law_c21 (xs : Nat → Int32) {L w : Nat} (hL : L ≤ 3072) (hw : w + 6 ≤ L) {k : Sg → Sg → Int32 → Option Unit} {σ τ : Sg} (hI : Inv σ τ) (hk : ∀ σ τ, Inv σ τ → k σ τ (nI w + (6 : Int32)) = some ()) : f_law_21 xs L k σ τ (nI w) = some () := by
  obtain ⟨D, p, q, n0, n1, n, m, ek, ef, en, h, g⟩ := hI
  unfold f_law_21
  simp only [nI_1, gd_in (show w + 1 < L by omega) (show L < 2 ^ 31 by omega), cl_nI (show w + 1 < 2147483648 by omega)]
  exact law_st (ag_spare h g (xs (w + 1))) hk
theorem law_c22 (xs : Nat → Int32) {L w : Nat} (hL : L ≤ 3072) (hw : w + 6 ≤ L) {k : Sg → Sg → Int32 → Option Unit} {σ τ : Sg} (hI : Inv σ τ) (hk : ∀ σ τ, Inv σ τ → k σ τ (nI w + (6 : Int32)) = some ()) : f_law_22 xs L k σ τ (nI w) = some () := by
  obtain ⟨D, p, q, n0, n1, n, m, ek, ef, en, h, g⟩ := hI
  unfold f_law_22
  simp only [nI_1, nI_2, nI_3, gd_in (show w + 1 < L by omega) (show L < 2 ^ 31 by omega), gd_in (show w + 2 < L by omega) (show L < 2 ^ 31 by omega), gd_in (show w + 3 < L by omega) (show L < 2 ^ 31 by omega), cl_nI (show w + 1 < 2147483648 by omega), cl_nI (show w + 2 < 2147483648 by omega), cl_nI (show w + 3 < 2147483648 by omega)]
  exact law_st (ag_seen h g (xs (w + 1)) (xs (w + 2)) (xs (w + 3))) hk
theorem law_c23 (xs : Nat → Int32) {L w : Nat} (hL : L ≤ 3072) (hw : w + 6 ≤ L) {k : Sg → Sg → Int32 → Option Unit} {σ τ : Sg} (hI : Inv σ τ) (hk : ∀ σ τ, Inv σ τ → k σ τ (nI w + (6 : Int32)) = some ()) : f_law_23 xs L k σ τ (nI w) = some () := by
  obtain ⟨D, p, q, n0, n1, n, m, ek, ef, en, h, g⟩ := hI
  unfold f_law_23
  exact law_st (ag_forget h g) hk
theorem law_c24 (xs : Nat → Int32) {L w : Nat} (hL : L ≤ 3072) (hw : w + 6 ≤ L) {k : Sg → Sg → Int32 → Option Unit} {σ τ : Sg} (hI : Inv σ τ) (hk : ∀ σ τ, Inv σ τ → k σ τ (nI w + (6 : Int32)) = some ()) : f_law_24 xs L k σ τ (nI w) = some () := by
  obtain ⟨D, p, q, n0, n1, n, m, ek, ef, en, h, g⟩ := hI
  unfold f_law_24
  exact law_st (ag_never h g) hk
theorem law_c25 (xs : Nat → Int32) {L w : Nat} (hL : L ≤ 3072) (hw : w + 6 ≤ L) {k : Sg → Sg → Int32 → Option Unit} {σ τ : Sg} (hI : Inv σ τ) (hk : ∀ σ τ, Inv σ τ → k σ τ (nI w + (6 : Int32)) = some ()) : f_law_25 xs L k σ τ (nI w) = some () := by
  obtain ⟨D, p, q, n0, n1, n, m, ek, ef, en, h, g⟩ := hI
  unfold f_law_25
  simp only [nI_1, nI_2, gd_in (show w + 1 < L by omega) (show L < 2 ^ 31 by omega), gd_in (show w + 2 < L by omega) (show L < 2 ^ 31 by omega), cl_nI (show w + 1 < 2147483648 by omega), cl_nI (show w + 2 < 2147483648 by omega)]
  exact law_st (ag_was h g (xs (w + 1)) (xs (w + 2))) hk
theorem law_c26 (xs : Nat → Int32) {L w : Nat} (hL : L ≤ 3072) (hw : w + 6 ≤ L) {k : Sg → Sg → Int32 → Option Unit} {σ τ : Sg} (hI : Inv σ τ) (hk : ∀ σ τ, Inv σ τ → k σ τ (nI w + (6 : Int32)) = some ()) : f_law_26 xs L k σ τ (nI w) = some () := by
  obtain ⟨D, p, q, n0, n1, n, m, ek, ef, en, h, g⟩ := hI
  unfold f_law_26
  simp only [nI_1, gd_in (show w + 1 < L by omega) (show L < 2 ^ 31 by omega), cl_nI (show w + 1 < 2147483648 by omega)]
  exact law_st (ag_ask h g (xs (w + 1))) hk
theorem law_c27 (xs : Nat → Int32) {L w : Nat} (hL : L ≤ 3072) (hw : w + 6 ≤ L) {k : Sg → Sg → Int32 → Option Unit} {σ τ : Sg} (hI : Inv σ τ) (hk : ∀ σ τ, Inv σ τ → k σ τ (nI w + (6 : Int32)) = some ()) : f_law_27 xs L k σ τ (nI w) = some () := by
  obtain ⟨D, p, q, n0, n1, n, m, ek, ef, en, h, g⟩ := hI
  unfold f_law_27
  simp only [nI_1, nI_2, nI_3, gd_in (show w + 1 < L by omega) (show L < 2 ^ 31 by omega), gd_in (show w + 2 < L by omega) (show L < 2 ^ 31 by omega), gd_in (show w + 3 < L by omega) (show L < 2 ^ 31 by omega), cl_nI (show w + 1 < 2147483648 by omega), cl_nI (show w + 2 < 2147483648 by omega), cl_nI (show w + 3 < 2147483648 by omega)]
  exact law_st (ag_chance h g (xs (w + 1)) (xs (w + 2)) (xs (w + 3))) hk
theorem law_c28 (xs : Nat → Int32) {L w : Nat} (hL : L ≤ 3072) (hw : w + 6 ≤ L) {k : Sg → Sg → Int32 → Option Unit} {σ τ : Sg} (hI : Inv σ τ) (hk : ∀ σ τ, Inv σ τ → k σ τ (nI w + (6 : Int32)) = some ()) : f_law_28 xs L k σ τ (nI w) = some () := by
  obtain ⟨D, p, q, n0, n1, n, m, ek, ef, en, h, g⟩ := hI
  unfold f_law_28
  simp only [nI_1, nI_2, nI_3, gd_in (show w + 1 < L by omega) (show L < 2 ^ 31 by omega), gd_in (show w + 2 < L by omega) (show L < 2 ^ 31 by omega), gd_in (show w + 3 < L by omega) (show L < 2 ^ 31 by omega), cl_nI (show w + 1 < 2147483648 by omega), cl_nI (show w + 2 < 2147483648 by omega), cl_nI (show w + 3 < 2147483648 by omega)]
  exact law_st (ag_years h g (xs (w + 1)) (xs (w + 2)) (xs (w + 3))) hk
theorem law_c29 (xs : Nat → Int32) {L w : Nat} (hL : L ≤ 3072) (hw : w + 6 ≤ L) {k : Sg → Sg → Int32 → Option Unit} {σ τ : Sg} (hI : Inv σ τ) (hk : ∀ σ τ, Inv σ τ → k σ τ (nI w + (6 : Int32)) = some ()) : f_law_29 xs L k σ τ (nI w) = some () := by
  obtain ⟨D, p, q, n0, n1, n, m, ek, ef, en, h, g⟩ := hI
  unfold f_law_29
  simp only [nI_1, nI_2, nI_3, gd_in (show w + 1 < L by omega) (show L < 2 ^ 31 by omega), gd_in (show w + 2 < L by omega) (show L < 2 ^ 31 by omega), gd_in (show w + 3 < L by omega) (show L < 2 ^ 31 by omega), cl_nI (show w + 1 < 2147483648 by omega), cl_nI (show w + 2 < 2147483648 by omega), cl_nI (show w + 3 < 2147483648 by omega)]
  exact law_st (ag_sheet h g (xs (w + 1)) (xs (w + 2)) (xs (w + 3))) hk
theorem law_c30 (xs : Nat → Int32) {L w : Nat} (hL : L ≤ 3072) (hw : w + 6 ≤ L) {k : Sg → Sg → Int32 → Option Unit} {σ τ : Sg} (hI : Inv σ τ) (hk : ∀ σ τ, Inv σ τ → k σ τ (nI w + (6 : Int32)) = some ()) : f_law_30 xs L k σ τ (nI w) = some () := by
  obtain ⟨D, p, q, n0, n1, n, m, ek, ef, en, h, g⟩ := hI
  unfold f_law_30
  simp only [nI_1, gd_in (show w + 1 < L by omega) (show L < 2 ^ 31 by omega), cl_nI (show w + 1 < 2147483648 by omega)]
  exact law_st (ag_lose h g (xs (w + 1))) hk
theorem law_c31 (xs : Nat → Int32) {L w : Nat} (hL : L ≤ 3072) (hw : w + 6 ≤ L) {k : Sg → Sg → Int32 → Option Unit} {σ τ : Sg} (hI : Inv σ τ) (hk : ∀ σ τ, Inv σ τ → k σ τ (nI w + (6 : Int32)) = some ()) : f_law_31 xs L k σ τ (nI w) = some () := by
  obtain ⟨D, p, q, n0, n1, n, m, ek, ef, en, h, g⟩ := hI
  unfold f_law_31
  simp only [nI_1, nI_2, nI_3, nI_4, gd_in (show w + 1 < L by omega) (show L < 2 ^ 31 by omega), gd_in (show w + 2 < L by omega) (show L < 2 ^ 31 by omega), gd_in (show w + 3 < L by omega) (show L < 2 ^ 31 by omega), gd_in (show w + 4 < L by omega) (show L < 2 ^ 31 by omega), cl_nI (show w + 1 < 2147483648 by omega), cl_nI (show w + 2 < 2147483648 by omega), cl_nI (show w + 3 < 2147483648 by omega), cl_nI (show w + 4 < 2147483648 by omega)]
  exact law_st (ag_put h g (xs (w + 1)) (xs (w + 2)) (xs (w + 3)) (xs (w + 4))) hk
theorem law_c32 (xs : Nat → Int32) {L w : Nat} (hL : L ≤ 3072) (hw : w + 6 ≤ L) {k : Sg → Sg → Int32 → Option Unit} {σ τ : Sg} (hI : Inv σ τ) (hk : ∀ σ τ, Inv σ τ → k σ τ (nI w + (6 : Int32)) = some ()) : f_law_32 xs L k σ τ (nI w) = some () := by
  obtain ⟨D, p, q, n0, n1, n, m, ek, ef, en, h, g⟩ := hI
  unfold f_law_32
  simp only [nI_1, nI_2, nI_3, gd_in (show w + 1 < L by omega) (show L < 2 ^ 31 by omega), gd_in (show w + 2 < L by omega) (show L < 2 ^ 31 by omega), gd_in (show w + 3 < L by omega) (show L < 2 ^ 31 by omega), cl_nI (show w + 1 < 2147483648 by omega), cl_nI (show w + 2 < 2147483648 by omega), cl_nI (show w + 3 < 2147483648 by omega)]
  exact law_st (ag_get h g (xs (w + 1)) (xs (w + 2)) (xs (w + 3))) hk
theorem law_c33 (xs : Nat → Int32) {L w : Nat} (hL : L ≤ 3072) (hw : w + 6 ≤ L) {k : Sg → Sg → Int32 → Option Unit} {σ τ : Sg} (hI : Inv σ τ) (hk : ∀ σ τ, Inv σ τ → k σ τ (nI w + (6 : Int32)) = some ()) : f_law_33 xs L k σ τ (nI w) = some () := by
  obtain ⟨D, p, q, n0, n1, n, m, ek, ef, en, h, g⟩ := hI
  unfold f_law_33
  simp only [nI_1, nI_2, nI_3, nI_4, nI_5, gd_in (show w + 1 < L by omega) (show L < 2 ^ 31 by omega), gd_in (show w + 2 < L by omega) (show L < 2 ^ 31 by omega), gd_in (show w + 3 < L by omega) (show L < 2 ^ 31 by omega), gd_in (show w + 4 < L by omega) (show L < 2 ^ 31 by omega), gd_in (show w + 5 < L by omega) (show L < 2 ^ 31 by omega), cl_nI (show w + 1 < 2147483648 by omega), cl_nI (show w + 2 < 2147483648 by omega), cl_nI (show w + 3 < 2147483648 by omega), cl_nI (show w + 4 < 2147483648 by omega), cl_nI (show w + 5 < 2147483648 by omega)]
  exact law_st (ag_copy h g (xs (w + 1)) (xs (w + 2)) (xs (w + 3)) (xs (w + 4)) (xs (w + 5))) hk
theorem law_c34 (xs : Nat → Int32) {L w : Nat} (hL : L ≤ 3072) (hw : w + 6 ≤ L) {k : Sg → Sg → Int32 → Option Unit} {σ τ : Sg} (hI : Inv σ τ) (hk : ∀ σ τ, Inv σ τ → k σ τ (nI w + (6 : Int32)) = some ()) : f_law_34 xs L k σ τ (nI w) = some () := by
  obtain ⟨D, p, q, n0, n1, n, m, ek, ef, en, h, g⟩ := hI
  unfold f_law_34
  simp only [nI_1, nI_2, gd_in (show w + 1 < L by omega) (show L < 2 ^ 31 by omega), gd_in (show w + 2 < L by omega) (show L < 2 ^ 31 by omega), cl_nI (show w + 1 < 2147483648 by omega), cl_nI (show w + 2 < 2147483648 by omega)]
  exact law_st (ag_write h g (xs (w + 1)) (xs (w + 2))) hk
theorem law_c35 (xs : Nat → Int32) {L w : Nat} (hL : L ≤ 3072) (hw : w + 6 ≤ L) {k : Sg → Sg → Int32 → Option Unit} {σ τ : Sg} (hI : Inv σ τ) (hk : ∀ σ τ, Inv σ τ → k σ τ (nI w + (6 : Int32)) = some ()) : f_law_35 xs L k σ τ (nI w) = some () := by
  obtain ⟨D, p, q, n0, n1, n, m, ek, ef, en, h, g⟩ := hI
  unfold f_law_35
  simp only [nI_1, gd_in (show w + 1 < L by omega) (show L < 2 ^ 31 by omega), cl_nI (show w + 1 < 2147483648 by omega)]
  exact law_st (ag_count h g (xs (w + 1))) hk
theorem law_c36 (xs : Nat → Int32) {L w : Nat} (hL : L ≤ 3072) (hw : w + 6 ≤ L) {k : Sg → Sg → Int32 → Option Unit} {σ τ : Sg} (hI : Inv σ τ) (hk : ∀ σ τ, Inv σ τ → k σ τ (nI w + (6 : Int32)) = some ()) : f_law_36 xs L k σ τ (nI w) = some () := by
  obtain ⟨D, p, q, n0, n1, n, m, ek, ef, en, h, g⟩ := hI
  unfold f_law_36
  exact law_st (ag_digest h g) hk
theorem law_stop {L w : Nat} (hL : L ≤ 3072) (hw : w ≤ L) : (nI L - (6 : Int32) < nI w) ↔ ¬ w + 6 ≤ L := by
  rw [i32_lt, n_lit 6, pk_sub_toInt (by omega) (by omega), nI_toInt (by omega)]
  omega
theorem law_step (xs : Nat → Int32) {L w : Nat} (hL : L ≤ 3072) (hwL : w ≤ L) {k : Sg → Sg → Int32 → Option Unit} {σ τ : Sg} (hI : Inv σ τ) (hk : w + 6 ≤ L → ∀ σ τ, Inv σ τ → k σ τ (nI w + (6 : Int32)) = some ()) : f_law_b18 xs L k σ τ (nI w) = some () := by
  unfold f_law_b18
  by_cases hw : w + 6 ≤ L
  rotate_left
  · rw [if_pos ((law_stop hL hwL).mpr hw)]
  rw [if_neg (fun q => (law_stop hL hwL).mp q hw), gd_in (show w < L by omega) (show L < 2 ^ 31 by omega), cl_nI (show w < 2147483648 by omega)]
  have hk := hk hw
  generalize xs w &&& (63 : Int32) = sw
  by_cases c0 : sw = 0
  · rw [if_pos c0]; exact law_c0 xs hL hw hI hk
  rw [if_neg c0]
  by_cases c1 : sw = 1
  · rw [if_pos c1]; exact law_c1 xs hL hw hI hk
  rw [if_neg c1]
  by_cases c2 : sw = 2
  · rw [if_pos c2]; exact law_c2 xs hL hw hI hk
  rw [if_neg c2]
  by_cases c3 : sw = 3
  · rw [if_pos c3]; exact law_c3 xs hL hw hI hk
  rw [if_neg c3]
  by_cases c4 : sw = 4
  · rw [if_pos c4]; exact law_c4 xs hL hw hI hk
  rw [if_neg c4]
  by_cases c5 : sw = 5
  · rw [if_pos c5]; exact law_c5 xs hL hw hI hk
  rw [if_neg c5]
  by_cases c6 : sw = 6
  · rw [if_pos c6]; exact law_c6 xs hL hw hI hk
  rw [if_neg c6]
  by_cases c7 : sw = 7
  · rw [if_pos c7]; exact law_c7 xs hL hw hI hk
  rw [if_neg c7]
  by_cases c8 : sw = 8
  · rw [if_pos c8]; exact law_c8 xs hL hw hI hk
  rw [if_neg c8]
  by_cases c9 : sw = 9
  · rw [if_pos c9]; exact law_c9 xs hL hw hI hk
  rw [if_neg c9]
  by_cases c10 : sw = 10
  · rw [if_pos c10]; exact law_c10 xs hL hw hI hk
  rw [if_neg c10]
  by_cases c11 : sw = 11
  · rw [if_pos c11]; exact law_c11 xs hL hw hI hk
  rw [if_neg c11]
  by_cases c12 : sw = 12
  · rw [if_pos c12]; exact law_c12 xs hL hw hI hk
  rw [if_neg c12]
  by_cases c13 : sw = 13
  · rw [if_pos c13]; exact law_c13 xs hL hw hI hk
  rw [if_neg c13]
  by_cases c14 : sw = 14
  · rw [if_pos c14]; exact law_c14 xs hL hw hI hk
  rw [if_neg c14]
  by_cases c15 : sw = 15
  · rw [if_pos c15]; exact law_c15 xs hL hw hI hk
  rw [if_neg c15]
  by_cases c16 : sw = 16
  · rw [if_pos c16]; exact law_c16 xs hL hw hI hk
  rw [if_neg c16]
  by_cases c17 : sw = 17
  · rw [if_pos c17]; exact law_c17 xs hL hw hI hk
  rw [if_neg c17]
  by_cases c18 : sw = 18
  · rw [if_pos c18]; exact law_c18 xs hL hw hI hk
  rw [if_neg c18]
  by_cases c19 : sw = 19
  · rw [if_pos c19]; exact law_c19 xs hL hw hI hk
  rw [if_neg c19]
  by_cases c20 : sw = 20
  · rw [if_pos c20]; exact law_c20 xs hL hw hI hk
  rw [if_neg c20]
  by_cases c21 : sw = 21
  · rw [if_pos c21]; exact law_c21 xs hL hw hI hk
  rw [if_neg c21]
  by_cases c22 : sw = 22
  · rw [if_pos c22]; exact law_c22 xs hL hw hI hk
  rw [if_neg c22]
  by_cases c23 : sw = 23
  · rw [if_pos c23]; exact law_c23 xs hL hw hI hk
  rw [if_neg c23]
  by_cases c24 : sw = 24
  · rw [if_pos c24]; exact law_c24 xs hL hw hI hk
  rw [if_neg c24]
  by_cases c25 : sw = 25
  · rw [if_pos c25]; exact law_c25 xs hL hw hI hk
  rw [if_neg c25]
  by_cases c26 : sw = 26
  · rw [if_pos c26]; exact law_c26 xs hL hw hI hk
  rw [if_neg c26]
  by_cases c27 : sw = 27
  · rw [if_pos c27]; exact law_c27 xs hL hw hI hk
  rw [if_neg c27]
  by_cases c28 : sw = 28
  · rw [if_pos c28]; exact law_c28 xs hL hw hI hk
  rw [if_neg c28]
  by_cases c29 : sw = 29
  · rw [if_pos c29]; exact law_c29 xs hL hw hI hk
  rw [if_neg c29]
  by_cases c30 : sw = 30
  · rw [if_pos c30]; exact law_c30 xs hL hw hI hk
  rw [if_neg c30]
  by_cases c31 : sw = 31
  · rw [if_pos c31]; exact law_c31 xs hL hw hI hk
  rw [if_neg c31]
  by_cases c32 : sw = 32
  · rw [if_pos c32]; exact law_c32 xs hL hw hI hk
  rw [if_neg c32]
  by_cases c33 : sw = 33
  · rw [if_pos c33]; exact law_c33 xs hL hw hI hk
  rw [if_neg c33]
  by_cases c34 : sw = 34
  · rw [if_pos c34]; exact law_c34 xs hL hw hI hk
  rw [if_neg c34]
  by_cases c35 : sw = 35
  · rw [if_pos c35]; exact law_c35 xs hL hw hI hk
  rw [if_neg c35]
  by_cases c36 : sw = 36
  · rw [if_pos c36]; exact law_c36 xs hL hw hI hk
  rw [if_neg c36]
  exact hk _ _ hI
theorem law_run (xs : Nat → Int32) {L : Nat} (hL : L ≤ 3072) : ∀ (N i : Nat) (σ τ : Sg), i ≤ L / 6 → L / 6 - i < N → Inv σ τ → f_law_l18 xs L N σ τ (nI (6 * i)) = some ()
  | 0, i, σ, τ, hi, hN, hI => absurd hN (Nat.not_lt_zero _)
  | N + 1, i, σ, τ, hi, hN, hI => by
    show f_law_b18 xs L (f_law_l18 xs L N) σ τ (nI (6 * i)) = some ()
    refine law_step xs hL (by omega) hI (fun hw σ' τ' hI' => ?_)
    rw [nI_6, show 6 * i + 6 = 6 * (i + 1) by omega]
    exact law_run xs hL N (i + 1) σ' τ' (by omega) (by omega) hI'
theorem pure_law (xs : Nat → Int32) (L : Nat) (hL : L ≤ 3072) : f_law_l18 xs L 600 σX0 σM0 0 = some () := law_run xs hL 600 0 σX0 σM0 (by omega) (by omega) inv0
