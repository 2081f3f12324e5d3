/-- a loop of a function, by an index: what holds at each round, what is said of the rest of the loop -/
theorem am_rec_0 {γ : Type} (b : γ) (F : γ → γ) : am_rec b F 0 = b := rfl
theorem am_rec_s {γ : Type} (b : γ) (F : γ → γ) (n : Nat) : am_rec b F (n + 1) = F (am_rec b F n) := rfl
theorem i_X3_takeN_l7 (c1 : Nat) (e : Nat) (I : Nat → Sg → Int32 → Prop) (P : Sg → Int32 → Option (Unit × Sg) → Prop) (step : ∀ (i : Nat) (k : Sg → Int32 → Option (Unit × Sg)) (σ : Sg) (x0 : Int32), i ≤ e → I i σ x0 → (∀ (σ' : Sg) (x0' : Int32), i < e → I (i + 1) σ' x0' → P σ' x0' (k σ' x0')) → P σ x0 (f_X3_takeN_b7 c1 k σ x0)) : ∀ (n i : Nat), e - i < n → i ≤ e → ∀ (σ : Sg) (x0 : Int32), I i σ x0 → P σ x0 (f_X3_takeN_l7 c1 n σ x0) := by
  intro n
  induction n with
  | zero => intro i h; exact absurd h (Nat.not_lt_zero _)
  | succ n ih => intro i h hi σ x0 hI; exact step i (f_X3_takeN_l7 c1 n) σ x0 hi hI (fun σ' x0' hlt hI2 => ih (i + 1) (by omega) hlt σ' x0' hI2)
theorem i_X2_liesAnother_l3 (e : Nat) (I : Nat → Sg → Int32 → Int32 → Int32 → Int32 → Int32 → Prop) (P : Sg → Int32 → Int32 → Int32 → Int32 → Int32 → Option (Int32 × Sg) → Prop) (step : ∀ (i : Nat) (k : Sg → Int32 → Int32 → Int32 → Int32 → Int32 → Option (Int32 × Sg)) (σ : Sg) (x0 : Int32) (x1 : Int32) (x2 : Int32) (x3 : Int32) (x4 : Int32), i ≤ e → I i σ x0 x1 x2 x3 x4 → (∀ (σ' : Sg) (x0' : Int32) (x1' : Int32) (x2' : Int32) (x3' : Int32) (x4' : Int32), i < e → I (i + 1) σ' x0' x1' x2' x3' x4' → P σ' x0' x1' x2' x3' x4' (k σ' x0' x1' x2' x3' x4')) → P σ x0 x1 x2 x3 x4 (f_X2_liesAnother_b3 k σ x0 x1 x2 x3 x4)) : ∀ (n i : Nat), e - i < n → i ≤ e → ∀ (σ : Sg) (x0 : Int32) (x1 : Int32) (x2 : Int32) (x3 : Int32) (x4 : Int32), I i σ x0 x1 x2 x3 x4 → P σ x0 x1 x2 x3 x4 (f_X2_liesAnother_l3 n σ x0 x1 x2 x3 x4) := by
  intro n
  induction n with
  | zero => intro i h; exact absurd h (Nat.not_lt_zero _)
  | succ n ih => intro i h hi σ x0 x1 x2 x3 x4 hI; exact step i (f_X2_liesAnother_l3 n) σ x0 x1 x2 x3 x4 hi hI (fun σ' x0' x1' x2' x3' x4' hlt hI2 => ih (i + 1) (by omega) hlt σ' x0' x1' x2' x3' x4' hI2)
theorem i_X3_takeG_l7 (c1 : Nat) (e : Nat) (I : Nat → Sg → Int32 → Prop) (P : Sg → Int32 → Option (Unit × Sg) → Prop) (step : ∀ (i : Nat) (k : Sg → Int32 → Option (Unit × Sg)) (σ : Sg) (x0 : Int32), i ≤ e → I i σ x0 → (∀ (σ' : Sg) (x0' : Int32), i < e → I (i + 1) σ' x0' → P σ' x0' (k σ' x0')) → P σ x0 (f_X3_takeG_b7 c1 k σ x0)) : ∀ (n i : Nat), e - i < n → i ≤ e → ∀ (σ : Sg) (x0 : Int32), I i σ x0 → P σ x0 (f_X3_takeG_l7 c1 n σ x0) := by
  intro n
  induction n with
  | zero => intro i h; exact absurd h (Nat.not_lt_zero _)
  | succ n ih => intro i h hi σ x0 hI; exact step i (f_X3_takeG_l7 c1 n) σ x0 hi hI (fun σ' x0' hlt hI2 => ih (i + 1) (by omega) hlt σ' x0' hI2)
theorem i_X1_add_l54 (c0 : Nat) (e : Nat) (I : Nat → Sg → Int32 → Int32 → Int32 → Prop) (P : Sg → Int32 → Int32 → Int32 → Option (Unit × Sg) → Prop) (step : ∀ (i : Nat) (k : Sg → Int32 → Int32 → Int32 → Option (Unit × Sg)) (σ : Sg) (x0 : Int32) (x1 : Int32) (x2 : Int32), i ≤ e → I i σ x0 x1 x2 → (∀ (σ' : Sg) (x0' : Int32) (x1' : Int32) (x2' : Int32), i < e → I (i + 1) σ' x0' x1' x2' → P σ' x0' x1' x2' (k σ' x0' x1' x2')) → P σ x0 x1 x2 (f_X1_add_b54 c0 k σ x0 x1 x2)) : ∀ (n i : Nat), e - i < n → i ≤ e → ∀ (σ : Sg) (x0 : Int32) (x1 : Int32) (x2 : Int32), I i σ x0 x1 x2 → P σ x0 x1 x2 (f_X1_add_l54 c0 n σ x0 x1 x2) := by
  intro n
  induction n with
  | zero => intro i h; exact absurd h (Nat.not_lt_zero _)
  | succ n ih => intro i h hi σ x0 x1 x2 hI; exact step i (f_X1_add_l54 c0 n) σ x0 x1 x2 hi hI (fun σ' x0' x1' x2' hlt hI2 => ih (i + 1) (by omega) hlt σ' x0' x1' x2' hI2)
theorem i_X1_dropLast_l12 (c0 : Nat) (e : Nat) (I : Nat → Sg → Int32 → Int32 → Prop) (P : Sg → Int32 → Int32 → Option (Unit × Sg) → Prop) (step : ∀ (i : Nat) (k : Sg → Int32 → Int32 → Option (Unit × Sg)) (σ : Sg) (x0 : Int32) (x1 : Int32), i ≤ e → I i σ x0 x1 → (∀ (σ' : Sg) (x0' : Int32) (x1' : Int32), i < e → I (i + 1) σ' x0' x1' → P σ' x0' x1' (k σ' x0' x1')) → P σ x0 x1 (f_X1_dropLast_b12 c0 k σ x0 x1)) : ∀ (n i : Nat), e - i < n → i ≤ e → ∀ (σ : Sg) (x0 : Int32) (x1 : Int32), I i σ x0 x1 → P σ x0 x1 (f_X1_dropLast_l12 c0 n σ x0 x1) := by
  intro n
  induction n with
  | zero => intro i h; exact absurd h (Nat.not_lt_zero _)
  | succ n ih => intro i h hi σ x0 x1 hI; exact step i (f_X1_dropLast_l12 c0 n) σ x0 x1 hi hI (fun σ' x0' x1' hlt hI2 => ih (i + 1) (by omega) hlt σ' x0' x1' hI2)
theorem i_X9_read_l37 (e : Nat) (I : Nat → Sg → Nat → Int32 → Int32 → Prop) (P : Sg → Nat → Int32 → Int32 → Option (Int32 × Sg) → Prop) (step : ∀ (i : Nat) (k : Sg → Nat → Int32 → Int32 → Option (Int32 × Sg)) (σ : Sg) (x0 : Nat) (x1 : Int32) (x2 : Int32), i ≤ e → I i σ x0 x1 x2 → (∀ (σ' : Sg) (x0' : Nat) (x1' : Int32) (x2' : Int32), i < e → I (i + 1) σ' x0' x1' x2' → P σ' x0' x1' x2' (k σ' x0' x1' x2')) → P σ x0 x1 x2 (f_X9_read_b37 k σ x0 x1 x2)) : ∀ (n i : Nat), e - i < n → i ≤ e → ∀ (σ : Sg) (x0 : Nat) (x1 : Int32) (x2 : Int32), I i σ x0 x1 x2 → P σ x0 x1 x2 (f_X9_read_l37 n σ x0 x1 x2) := by
  intro n
  induction n with
  | zero => intro i h; exact absurd h (Nat.not_lt_zero _)
  | succ n ih => intro i h hi σ x0 x1 x2 hI; exact step i (f_X9_read_l37 n) σ x0 x1 x2 hi hI (fun σ' x0' x1' x2' hlt hI2 => ih (i + 1) (by omega) hlt σ' x0' x1' x2' hI2)
theorem i_X0_startAnew_l2 (c0 : Nat) (e : Nat) (I : Nat → Sg → Int32 → Prop) (P : Sg → Int32 → Option (Unit × Sg) → Prop) (step : ∀ (i : Nat) (k : Sg → Int32 → Option (Unit × Sg)) (σ : Sg) (x0 : Int32), i ≤ e → I i σ x0 → (∀ (σ' : Sg) (x0' : Int32), i < e → I (i + 1) σ' x0' → P σ' x0' (k σ' x0')) → P σ x0 (f_X0_startAnew_b2 c0 k σ x0)) : ∀ (n i : Nat), e - i < n → i ≤ e → ∀ (σ : Sg) (x0 : Int32), I i σ x0 → P σ x0 (f_X0_startAnew_l2 c0 n σ x0) := by
  intro n
  induction n with
  | zero => intro i h; exact absurd h (Nat.not_lt_zero _)
  | succ n ih => intro i h hi σ x0 hI; exact step i (f_X0_startAnew_l2 c0 n) σ x0 hi hI (fun σ' x0' hlt hI2 => ih (i + 1) (by omega) hlt σ' x0' hI2)
theorem i_X0_endNightsTo_l5 (c0 : Nat) (e : Nat) (I : Nat → Sg → Int32 → Int32 → Prop) (P : Sg → Int32 → Int32 → Option (Unit × Sg) → Prop) (step : ∀ (i : Nat) (k : Sg → Int32 → Int32 → Option (Unit × Sg)) (σ : Sg) (x0 : Int32) (x1 : Int32), i ≤ e → I i σ x0 x1 → (∀ (σ' : Sg) (x0' : Int32) (x1' : Int32), i < e → I (i + 1) σ' x0' x1' → P σ' x0' x1' (k σ' x0' x1')) → P σ x0 x1 (f_X0_endNightsTo_b5 c0 k σ x0 x1)) : ∀ (n i : Nat), e - i < n → i ≤ e → ∀ (σ : Sg) (x0 : Int32) (x1 : Int32), I i σ x0 x1 → P σ x0 x1 (f_X0_endNightsTo_l5 c0 n σ x0 x1) := by
  intro n
  induction n with
  | zero => intro i h; exact absurd h (Nat.not_lt_zero _)
  | succ n ih => intro i h hi σ x0 x1 hI; exact step i (f_X0_endNightsTo_l5 c0 n) σ x0 x1 hi hI (fun σ' x0' x1' hlt hI2 => ih (i + 1) (by omega) hlt σ' x0' x1' hI2)
theorem i_X0_weighNeeds_l23 (c0 : Nat) (e : Nat) (I : Nat → Sg → Int32 → Int32 → Prop) (P : Sg → Int32 → Int32 → Option (Unit × Sg) → Prop) (step : ∀ (i : Nat) (k : Sg → Int32 → Int32 → Option (Unit × Sg)) (σ : Sg) (x0 : Int32) (x1 : Int32), i ≤ e → I i σ x0 x1 → (∀ (σ' : Sg) (x0' : Int32) (x1' : Int32), i < e → I (i + 1) σ' x0' x1' → P σ' x0' x1' (k σ' x0' x1')) → P σ x0 x1 (f_X0_weighNeeds_b23 c0 k σ x0 x1)) : ∀ (n i : Nat), e - i < n → i ≤ e → ∀ (σ : Sg) (x0 : Int32) (x1 : Int32), I i σ x0 x1 → P σ x0 x1 (f_X0_weighNeeds_l23 c0 n σ x0 x1) := by
  intro n
  induction n with
  | zero => intro i h; exact absurd h (Nat.not_lt_zero _)
  | succ n ih => intro i h hi σ x0 x1 hI; exact step i (f_X0_weighNeeds_l23 c0 n) σ x0 x1 hi hI (fun σ' x0' x1' hlt hI2 => ih (i + 1) (by omega) hlt σ' x0' x1' hI2)
theorem i_X0_weighNeeds_l2 (c0 : Nat) (e : Nat) (I : Nat → Sg → Int32 → Int32 → Prop) (P : Sg → Int32 → Int32 → Option (Unit × Sg) → Prop) (step : ∀ (i : Nat) (k : Sg → Int32 → Int32 → Option (Unit × Sg)) (σ : Sg) (x0 : Int32) (x1 : Int32), i ≤ e → I i σ x0 x1 → (∀ (σ' : Sg) (x0' : Int32) (x1' : Int32), i < e → I (i + 1) σ' x0' x1' → P σ' x0' x1' (k σ' x0' x1')) → P σ x0 x1 (f_X0_weighNeeds_b2 c0 k σ x0 x1)) : ∀ (n i : Nat), e - i < n → i ≤ e → ∀ (σ : Sg) (x0 : Int32) (x1 : Int32), I i σ x0 x1 → P σ x0 x1 (f_X0_weighNeeds_l2 c0 n σ x0 x1) := by
  intro n
  induction n with
  | zero => intro i h; exact absurd h (Nat.not_lt_zero _)
  | succ n ih => intro i h hi σ x0 x1 hI; exact step i (f_X0_weighNeeds_l2 c0 n) σ x0 x1 hi hI (fun σ' x0' x1' hlt hI2 => ih (i + 1) (by omega) hlt σ' x0' x1' hI2)
theorem i_X0_strongestIn_l8 (c0 : Nat) (e : Nat) (I : Nat → Sg → Int32 → Int32 → Int32 → Int32 → Prop) (P : Sg → Int32 → Int32 → Int32 → Int32 → Option (Int32 × Sg) → Prop) (step : ∀ (i : Nat) (k : Sg → Int32 → Int32 → Int32 → Int32 → Option (Int32 × Sg)) (σ : Sg) (x0 : Int32) (x1 : Int32) (x2 : Int32) (x3 : Int32), i ≤ e → I i σ x0 x1 x2 x3 → (∀ (σ' : Sg) (x0' : Int32) (x1' : Int32) (x2' : Int32) (x3' : Int32), i < e → I (i + 1) σ' x0' x1' x2' x3' → P σ' x0' x1' x2' x3' (k σ' x0' x1' x2' x3')) → P σ x0 x1 x2 x3 (f_X0_strongestIn_b8 c0 k σ x0 x1 x2 x3)) : ∀ (n i : Nat), e - i < n → i ≤ e → ∀ (σ : Sg) (x0 : Int32) (x1 : Int32) (x2 : Int32) (x3 : Int32), I i σ x0 x1 x2 x3 → P σ x0 x1 x2 x3 (f_X0_strongestIn_l8 c0 n σ x0 x1 x2 x3) := by
  intro n
  induction n with
  | zero => intro i h; exact absurd h (Nat.not_lt_zero _)
  | succ n ih => intro i h hi σ x0 x1 x2 x3 hI; exact step i (f_X0_strongestIn_l8 c0 n) σ x0 x1 x2 x3 hi hI (fun σ' x0' x1' x2' x3' hlt hI2 => ih (i + 1) (by omega) hlt σ' x0' x1' x2' x3' hI2)
theorem i_X0_bringUp_l92 (c0 : Nat) (e : Nat) (I : Nat → Sg → Int32 → Int32 → Int32 → Prop) (P : Sg → Int32 → Int32 → Int32 → Option (Unit × Sg) → Prop) (step : ∀ (i : Nat) (k : Sg → Int32 → Int32 → Int32 → Option (Unit × Sg)) (σ : Sg) (x0 : Int32) (x1 : Int32) (x2 : Int32), i ≤ e → I i σ x0 x1 x2 → (∀ (σ' : Sg) (x0' : Int32) (x1' : Int32) (x2' : Int32), i < e → I (i + 1) σ' x0' x1' x2' → P σ' x0' x1' x2' (k σ' x0' x1' x2')) → P σ x0 x1 x2 (f_X0_bringUp_b92 c0 k σ x0 x1 x2)) : ∀ (n i : Nat), e - i < n → i ≤ e → ∀ (σ : Sg) (x0 : Int32) (x1 : Int32) (x2 : Int32), I i σ x0 x1 x2 → P σ x0 x1 x2 (f_X0_bringUp_l92 c0 n σ x0 x1 x2) := by
  intro n
  induction n with
  | zero => intro i h; exact absurd h (Nat.not_lt_zero _)
  | succ n ih => intro i h hi σ x0 x1 x2 hI; exact step i (f_X0_bringUp_l92 c0 n) σ x0 x1 x2 hi hI (fun σ' x0' x1' x2' hlt hI2 => ih (i + 1) (by omega) hlt σ' x0' x1' x2' hI2)
theorem i_X0_layDown_l2 (c0 : Nat) (e : Nat) (I : Nat → Sg → Int32 → Int32 → Prop) (P : Sg → Int32 → Int32 → Option (Unit × Sg) → Prop) (step : ∀ (i : Nat) (k : Sg → Int32 → Int32 → Option (Unit × Sg)) (σ : Sg) (x0 : Int32) (x1 : Int32), i ≤ e → I i σ x0 x1 → (∀ (σ' : Sg) (x0' : Int32) (x1' : Int32), i < e → I (i + 1) σ' x0' x1' → P σ' x0' x1' (k σ' x0' x1')) → P σ x0 x1 (f_X0_layDown_b2 c0 k σ x0 x1)) : ∀ (n i : Nat), e - i < n → i ≤ e → ∀ (σ : Sg) (x0 : Int32) (x1 : Int32), I i σ x0 x1 → P σ x0 x1 (f_X0_layDown_l2 c0 n σ x0 x1) := by
  intro n
  induction n with
  | zero => intro i h; exact absurd h (Nat.not_lt_zero _)
  | succ n ih => intro i h hi σ x0 x1 hI; exact step i (f_X0_layDown_l2 c0 n) σ x0 x1 hi hI (fun σ' x0' x1' hlt hI2 => ih (i + 1) (by omega) hlt σ' x0' x1' hI2)
theorem i_X0_run_l7 (c0 : Nat) (c3 : Nat) (e : Nat) (I : Nat → Sg → Int32 → Int32 → Prop) (P : Sg → Int32 → Int32 → Option (Unit × Sg) → Prop) (step : ∀ (i : Nat) (k : Sg → Int32 → Int32 → Option (Unit × Sg)) (σ : Sg) (x0 : Int32) (x1 : Int32), i ≤ e → I i σ x0 x1 → (∀ (σ' : Sg) (x0' : Int32) (x1' : Int32), i < e → I (i + 1) σ' x0' x1' → P σ' x0' x1' (k σ' x0' x1')) → P σ x0 x1 (f_X0_run_b7 c0 c3 k σ x0 x1)) : ∀ (n i : Nat), e - i < n → i ≤ e → ∀ (σ : Sg) (x0 : Int32) (x1 : Int32), I i σ x0 x1 → P σ x0 x1 (f_X0_run_l7 c0 c3 n σ x0 x1) := by
  intro n
  induction n with
  | zero => intro i h; exact absurd h (Nat.not_lt_zero _)
  | succ n ih => intro i h hi σ x0 x1 hI; exact step i (f_X0_run_l7 c0 c3 n) σ x0 x1 hi hI (fun σ' x0' x1' hlt hI2 => ih (i + 1) (by omega) hlt σ' x0' x1' hI2)
theorem i_X0_wantedBehind_l6 (c0 : Nat) (e : Nat) (I : Nat → Sg → Int32 → Int32 → Int32 → Int32 → Prop) (P : Sg → Int32 → Int32 → Int32 → Int32 → Option (Int32 × Sg) → Prop) (step : ∀ (i : Nat) (k : Sg → Int32 → Int32 → Int32 → Int32 → Option (Int32 × Sg)) (σ : Sg) (x0 : Int32) (x1 : Int32) (x2 : Int32) (x3 : Int32), i ≤ e → I i σ x0 x1 x2 x3 → (∀ (σ' : Sg) (x0' : Int32) (x1' : Int32) (x2' : Int32) (x3' : Int32), i < e → I (i + 1) σ' x0' x1' x2' x3' → P σ' x0' x1' x2' x3' (k σ' x0' x1' x2' x3')) → P σ x0 x1 x2 x3 (f_X0_wantedBehind_b6 c0 k σ x0 x1 x2 x3)) : ∀ (n i : Nat), e - i < n → i ≤ e → ∀ (σ : Sg) (x0 : Int32) (x1 : Int32) (x2 : Int32) (x3 : Int32), I i σ x0 x1 x2 x3 → P σ x0 x1 x2 x3 (f_X0_wantedBehind_l6 c0 n σ x0 x1 x2 x3) := by
  intro n
  induction n with
  | zero => intro i h; exact absurd h (Nat.not_lt_zero _)
  | succ n ih => intro i h hi σ x0 x1 x2 x3 hI; exact step i (f_X0_wantedBehind_l6 c0 n) σ x0 x1 x2 x3 hi hI (fun σ' x0' x1' x2' x3' hlt hI2 => ih (i + 1) (by omega) hlt σ' x0' x1' x2' x3' hI2)
theorem i_X0_timesUpBy_l5 (c0 : Nat) (e : Nat) (I : Nat → Sg → Int32 → Int32 → Int32 → Int32 → Prop) (P : Sg → Int32 → Int32 → Int32 → Int32 → Option (Int32 × Sg) → Prop) (step : ∀ (i : Nat) (k : Sg → Int32 → Int32 → Int32 → Int32 → Option (Int32 × Sg)) (σ : Sg) (x0 : Int32) (x1 : Int32) (x2 : Int32) (x3 : Int32), i ≤ e → I i σ x0 x1 x2 x3 → (∀ (σ' : Sg) (x0' : Int32) (x1' : Int32) (x2' : Int32) (x3' : Int32), i < e → I (i + 1) σ' x0' x1' x2' x3' → P σ' x0' x1' x2' x3' (k σ' x0' x1' x2' x3')) → P σ x0 x1 x2 x3 (f_X0_timesUpBy_b5 c0 k σ x0 x1 x2 x3)) : ∀ (n i : Nat), e - i < n → i ≤ e → ∀ (σ : Sg) (x0 : Int32) (x1 : Int32) (x2 : Int32) (x3 : Int32), I i σ x0 x1 x2 x3 → P σ x0 x1 x2 x3 (f_X0_timesUpBy_l5 c0 n σ x0 x1 x2 x3) := by
  intro n
  induction n with
  | zero => intro i h; exact absurd h (Nat.not_lt_zero _)
  | succ n ih => intro i h hi σ x0 x1 x2 x3 hI; exact step i (f_X0_timesUpBy_l5 c0 n) σ x0 x1 x2 x3 hi hI (fun σ' x0' x1' x2' x3' hlt hI2 => ih (i + 1) (by omega) hlt σ' x0' x1' x2' x3' hI2)
theorem i_X9_field_l39 (e : Nat) (I : Nat → Sg → Int32 → Int32 → Int32 → Int32 → Prop) (P : Sg → Int32 → Int32 → Int32 → Int32 → Option (Int32 × Sg) → Prop) (step : ∀ (i : Nat) (k : Sg → Int32 → Int32 → Int32 → Int32 → Option (Int32 × Sg)) (σ : Sg) (x0 : Int32) (x1 : Int32) (x2 : Int32) (x3 : Int32), i ≤ e → I i σ x0 x1 x2 x3 → (∀ (σ' : Sg) (x0' : Int32) (x1' : Int32) (x2' : Int32) (x3' : Int32), i < e → I (i + 1) σ' x0' x1' x2' x3' → P σ' x0' x1' x2' x3' (k σ' x0' x1' x2' x3')) → P σ x0 x1 x2 x3 (f_X9_field_b39 k σ x0 x1 x2 x3)) : ∀ (n i : Nat), e - i < n → i ≤ e → ∀ (σ : Sg) (x0 : Int32) (x1 : Int32) (x2 : Int32) (x3 : Int32), I i σ x0 x1 x2 x3 → P σ x0 x1 x2 x3 (f_X9_field_l39 n σ x0 x1 x2 x3) := by
  intro n
  induction n with
  | zero => intro i h; exact absurd h (Nat.not_lt_zero _)
  | succ n ih => intro i h hi σ x0 x1 x2 x3 hI; exact step i (f_X9_field_l39 n) σ x0 x1 x2 x3 hi hI (fun σ' x0' x1' x2' x3' hlt hI2 => ih (i + 1) (by omega) hlt σ' x0' x1' x2' x3' hI2)
theorem i_X0_openBehind_l5 (c0 : Nat) (e : Nat) (I : Nat → Sg → Int32 → Int32 → Int32 → Prop) (P : Sg → Int32 → Int32 → Int32 → Option (Int32 × Sg) → Prop) (step : ∀ (i : Nat) (k : Sg → Int32 → Int32 → Int32 → Option (Int32 × Sg)) (σ : Sg) (x0 : Int32) (x1 : Int32) (x2 : Int32), i ≤ e → I i σ x0 x1 x2 → (∀ (σ' : Sg) (x0' : Int32) (x1' : Int32) (x2' : Int32), i < e → I (i + 1) σ' x0' x1' x2' → P σ' x0' x1' x2' (k σ' x0' x1' x2')) → P σ x0 x1 x2 (f_X0_openBehind_b5 c0 k σ x0 x1 x2)) : ∀ (n i : Nat), e - i < n → i ≤ e → ∀ (σ : Sg) (x0 : Int32) (x1 : Int32) (x2 : Int32), I i σ x0 x1 x2 → P σ x0 x1 x2 (f_X0_openBehind_l5 c0 n σ x0 x1 x2) := by
  intro n
  induction n with
  | zero => intro i h; exact absurd h (Nat.not_lt_zero _)
  | succ n ih => intro i h hi σ x0 x1 x2 hI; exact step i (f_X0_openBehind_l5 c0 n) σ x0 x1 x2 hi hI (fun σ' x0' x1' x2' hlt hI2 => ih (i + 1) (by omega) hlt σ' x0' x1' x2' hI2)
theorem i_X0_nightsUp_l4 (c0 : Nat) (e : Nat) (I : Nat → Sg → Int32 → Int32 → Int32 → Prop) (P : Sg → Int32 → Int32 → Int32 → Option (Int32 × Sg) → Prop) (step : ∀ (i : Nat) (k : Sg → Int32 → Int32 → Int32 → Option (Int32 × Sg)) (σ : Sg) (x0 : Int32) (x1 : Int32) (x2 : Int32), i ≤ e → I i σ x0 x1 x2 → (∀ (σ' : Sg) (x0' : Int32) (x1' : Int32) (x2' : Int32), i < e → I (i + 1) σ' x0' x1' x2' → P σ' x0' x1' x2' (k σ' x0' x1' x2')) → P σ x0 x1 x2 (f_X0_nightsUp_b4 c0 k σ x0 x1 x2)) : ∀ (n i : Nat), e - i < n → i ≤ e → ∀ (σ : Sg) (x0 : Int32) (x1 : Int32) (x2 : Int32), I i σ x0 x1 x2 → P σ x0 x1 x2 (f_X0_nightsUp_l4 c0 n σ x0 x1 x2) := by
  intro n
  induction n with
  | zero => intro i h; exact absurd h (Nat.not_lt_zero _)
  | succ n ih => intro i h hi σ x0 x1 x2 hI; exact step i (f_X0_nightsUp_l4 c0 n) σ x0 x1 x2 hi hI (fun σ' x0' x1' x2' hlt hI2 => ih (i + 1) (by omega) hlt σ' x0' x1' x2' hI2)
theorem i_X9_gate_l12 (e : Nat) (I : Nat → Sg → Int32 → Int32 → Int32 → Prop) (P : Sg → Int32 → Int32 → Int32 → Option (Int32 × Sg) → Prop) (step : ∀ (i : Nat) (k : Sg → Int32 → Int32 → Int32 → Option (Int32 × Sg)) (σ : Sg) (x0 : Int32) (x1 : Int32) (x2 : Int32), i ≤ e → I i σ x0 x1 x2 → (∀ (σ' : Sg) (x0' : Int32) (x1' : Int32) (x2' : Int32), i < e → I (i + 1) σ' x0' x1' x2' → P σ' x0' x1' x2' (k σ' x0' x1' x2')) → P σ x0 x1 x2 (f_X9_gate_b12 k σ x0 x1 x2)) : ∀ (n i : Nat), e - i < n → i ≤ e → ∀ (σ : Sg) (x0 : Int32) (x1 : Int32) (x2 : Int32), I i σ x0 x1 x2 → P σ x0 x1 x2 (f_X9_gate_l12 n σ x0 x1 x2) := by
  intro n
  induction n with
  | zero => intro i h; exact absurd h (Nat.not_lt_zero _)
  | succ n ih => intro i h hi σ x0 x1 x2 hI; exact step i (f_X9_gate_l12 n) σ x0 x1 x2 hi hI (fun σ' x0' x1' x2' hlt hI2 => ih (i + 1) (by omega) hlt σ' x0' x1' x2' hI2)
theorem i_X9_rest_l9 (e : Nat) (I : Nat → Sg → Int32 → Int32 → Prop) (P : Sg → Int32 → Int32 → Option (Int32 × Sg) → Prop) (step : ∀ (i : Nat) (k : Sg → Int32 → Int32 → Option (Int32 × Sg)) (σ : Sg) (x0 : Int32) (x1 : Int32), i ≤ e → I i σ x0 x1 → (∀ (σ' : Sg) (x0' : Int32) (x1' : Int32), i < e → I (i + 1) σ' x0' x1' → P σ' x0' x1' (k σ' x0' x1')) → P σ x0 x1 (f_X9_rest_b9 k σ x0 x1)) : ∀ (n i : Nat), e - i < n → i ≤ e → ∀ (σ : Sg) (x0 : Int32) (x1 : Int32), I i σ x0 x1 → P σ x0 x1 (f_X9_rest_l9 n σ x0 x1) := by
  intro n
  induction n with
  | zero => intro i h; exact absurd h (Nat.not_lt_zero _)
  | succ n ih => intro i h hi σ x0 x1 hI; exact step i (f_X9_rest_l9 n) σ x0 x1 hi hI (fun σ' x0' x1' hlt hI2 => ih (i + 1) (by omega) hlt σ' x0' x1' hI2)
theorem i_X0_howManyMet_l4 (c0 : Nat) (e : Nat) (I : Nat → Sg → Int32 → Int32 → Prop) (P : Sg → Int32 → Int32 → Option (Int32 × Sg) → Prop) (step : ∀ (i : Nat) (k : Sg → Int32 → Int32 → Option (Int32 × Sg)) (σ : Sg) (x0 : Int32) (x1 : Int32), i ≤ e → I i σ x0 x1 → (∀ (σ' : Sg) (x0' : Int32) (x1' : Int32), i < e → I (i + 1) σ' x0' x1' → P σ' x0' x1' (k σ' x0' x1')) → P σ x0 x1 (f_X0_howManyMet_b4 c0 k σ x0 x1)) : ∀ (n i : Nat), e - i < n → i ≤ e → ∀ (σ : Sg) (x0 : Int32) (x1 : Int32), I i σ x0 x1 → P σ x0 x1 (f_X0_howManyMet_l4 c0 n σ x0 x1) := by
  intro n
  induction n with
  | zero => intro i h; exact absurd h (Nat.not_lt_zero _)
  | succ n ih => intro i h hi σ x0 x1 hI; exact step i (f_X0_howManyMet_l4 c0 n) σ x0 x1 hi hI (fun σ' x0' x1' hlt hI2 => ih (i + 1) (by omega) hlt σ' x0' x1' hI2)
theorem i_X9_bestFurrow_l7 (e : Nat) (I : Nat → Sg → Int32 → Int32 → Int32 → Int32 → Prop) (P : Sg → Int32 → Int32 → Int32 → Int32 → Option (Int32 × Sg) → Prop) (step : ∀ (i : Nat) (k : Sg → Int32 → Int32 → Int32 → Int32 → Option (Int32 × Sg)) (σ : Sg) (x0 : Int32) (x1 : Int32) (x2 : Int32) (x3 : Int32), i ≤ e → I i σ x0 x1 x2 x3 → (∀ (σ' : Sg) (x0' : Int32) (x1' : Int32) (x2' : Int32) (x3' : Int32), i < e → I (i + 1) σ' x0' x1' x2' x3' → P σ' x0' x1' x2' x3' (k σ' x0' x1' x2' x3')) → P σ x0 x1 x2 x3 (f_X9_bestFurrow_b7 k σ x0 x1 x2 x3)) : ∀ (n i : Nat), e - i < n → i ≤ e → ∀ (σ : Sg) (x0 : Int32) (x1 : Int32) (x2 : Int32) (x3 : Int32), I i σ x0 x1 x2 x3 → P σ x0 x1 x2 x3 (f_X9_bestFurrow_l7 n σ x0 x1 x2 x3) := by
  intro n
  induction n with
  | zero => intro i h; exact absurd h (Nat.not_lt_zero _)
  | succ n ih => intro i h hi σ x0 x1 x2 x3 hI; exact step i (f_X9_bestFurrow_l7 n) σ x0 x1 x2 x3 hi hI (fun σ' x0' x1' x2' x3' hlt hI2 => ih (i + 1) (by omega) hlt σ' x0' x1' x2' x3' hI2)
theorem i_X9_bestCell_l8 (e : Nat) (I : Nat → Sg → Int32 → Int32 → Int32 → Int32 → Prop) (P : Sg → Int32 → Int32 → Int32 → Int32 → Option (Int32 × Sg) → Prop) (step : ∀ (i : Nat) (k : Sg → Int32 → Int32 → Int32 → Int32 → Option (Int32 × Sg)) (σ : Sg) (x0 : Int32) (x1 : Int32) (x2 : Int32) (x3 : Int32), i ≤ e → I i σ x0 x1 x2 x3 → (∀ (σ' : Sg) (x0' : Int32) (x1' : Int32) (x2' : Int32) (x3' : Int32), i < e → I (i + 1) σ' x0' x1' x2' x3' → P σ' x0' x1' x2' x3' (k σ' x0' x1' x2' x3')) → P σ x0 x1 x2 x3 (f_X9_bestCell_b8 k σ x0 x1 x2 x3)) : ∀ (n i : Nat), e - i < n → i ≤ e → ∀ (σ : Sg) (x0 : Int32) (x1 : Int32) (x2 : Int32) (x3 : Int32), I i σ x0 x1 x2 x3 → P σ x0 x1 x2 x3 (f_X9_bestCell_l8 n σ x0 x1 x2 x3) := by
  intro n
  induction n with
  | zero => intro i h; exact absurd h (Nat.not_lt_zero _)
  | succ n ih => intro i h hi σ x0 x1 x2 x3 hI; exact step i (f_X9_bestCell_l8 n) σ x0 x1 x2 x3 hi hI (fun σ' x0' x1' x2' x3' hlt hI2 => ih (i + 1) (by omega) hlt σ' x0' x1' x2' x3' hI2)
theorem i_X9_bestNight_l7 (e : Nat) (I : Nat → Sg → Int32 → Int32 → Int32 → Int32 → Prop) (P : Sg → Int32 → Int32 → Int32 → Int32 → Option (Int32 × Sg) → Prop) (step : ∀ (i : Nat) (k : Sg → Int32 → Int32 → Int32 → Int32 → Option (Int32 × Sg)) (σ : Sg) (x0 : Int32) (x1 : Int32) (x2 : Int32) (x3 : Int32), i ≤ e → I i σ x0 x1 x2 x3 → (∀ (σ' : Sg) (x0' : Int32) (x1' : Int32) (x2' : Int32) (x3' : Int32), i < e → I (i + 1) σ' x0' x1' x2' x3' → P σ' x0' x1' x2' x3' (k σ' x0' x1' x2' x3')) → P σ x0 x1 x2 x3 (f_X9_bestNight_b7 k σ x0 x1 x2 x3)) : ∀ (n i : Nat), e - i < n → i ≤ e → ∀ (σ : Sg) (x0 : Int32) (x1 : Int32) (x2 : Int32) (x3 : Int32), I i σ x0 x1 x2 x3 → P σ x0 x1 x2 x3 (f_X9_bestNight_l7 n σ x0 x1 x2 x3) := by
  intro n
  induction n with
  | zero => intro i h; exact absurd h (Nat.not_lt_zero _)
  | succ n ih => intro i h hi σ x0 x1 x2 x3 hI; exact step i (f_X9_bestNight_l7 n) σ x0 x1 x2 x3 hi hI (fun σ' x0' x1' x2' x3' hlt hI2 => ih (i + 1) (by omega) hlt σ' x0' x1' x2' x3' hI2)
theorem i_X9_spareEvents_l60 (k45 : Sg → Int32 → Option (Int32 × Sg)) (e : Nat) (I : Nat → Sg → Int32 → Int32 → Prop) (P : Sg → Int32 → Int32 → Option (Int32 × Sg) → Prop) (step : ∀ (i : Nat) (k : Sg → Int32 → Int32 → Option (Int32 × Sg)) (σ : Sg) (x0 : Int32) (x1 : Int32), i ≤ e → I i σ x0 x1 → (∀ (σ' : Sg) (x0' : Int32) (x1' : Int32), i < e → I (i + 1) σ' x0' x1' → P σ' x0' x1' (k σ' x0' x1')) → P σ x0 x1 (f_X9_spareEvents_b60 k45 k σ x0 x1)) : ∀ (n i : Nat), e - i < n → i ≤ e → ∀ (σ : Sg) (x0 : Int32) (x1 : Int32), I i σ x0 x1 → P σ x0 x1 (f_X9_spareEvents_l60 k45 n σ x0 x1) := by
  intro n
  induction n with
  | zero => intro i h; exact absurd h (Nat.not_lt_zero _)
  | succ n ih => intro i h hi σ x0 x1 hI; exact step i (f_X9_spareEvents_l60 k45 n) σ x0 x1 hi hI (fun σ' x0' x1' hlt hI2 => ih (i + 1) (by omega) hlt σ' x0' x1' hI2)
theorem i_X9_spareEvents_l45 (e : Nat) (I : Nat → Sg → Int32 → Prop) (P : Sg → Int32 → Option (Int32 × Sg) → Prop) (step : ∀ (i : Nat) (k : Sg → Int32 → Option (Int32 × Sg)) (σ : Sg) (x0 : Int32), i ≤ e → I i σ x0 → (∀ (σ' : Sg) (x0' : Int32), i < e → I (i + 1) σ' x0' → P σ' x0' (k σ' x0')) → P σ x0 (f_X9_spareEvents_b45 k σ x0)) : ∀ (n i : Nat), e - i < n → i ≤ e → ∀ (σ : Sg) (x0 : Int32), I i σ x0 → P σ x0 (f_X9_spareEvents_l45 n σ x0) := by
  intro n
  induction n with
  | zero => intro i h; exact absurd h (Nat.not_lt_zero _)
  | succ n ih => intro i h hi σ x0 hI; exact step i (f_X9_spareEvents_l45 n) σ x0 hi hI (fun σ' x0' hlt hI2 => ih (i + 1) (by omega) hlt σ' x0' hI2)
theorem i_X9_spareEvents_l12 (e : Nat) (I : Nat → Sg → Int32 → Prop) (P : Sg → Int32 → Option (Int32 × Sg) → Prop) (step : ∀ (i : Nat) (k : Sg → Int32 → Option (Int32 × Sg)) (σ : Sg) (x0 : Int32), i ≤ e → I i σ x0 → (∀ (σ' : Sg) (x0' : Int32), i < e → I (i + 1) σ' x0' → P σ' x0' (k σ' x0')) → P σ x0 (f_X9_spareEvents_b12 k σ x0)) : ∀ (n i : Nat), e - i < n → i ≤ e → ∀ (σ : Sg) (x0 : Int32), I i σ x0 → P σ x0 (f_X9_spareEvents_l12 n σ x0) := by
  intro n
  induction n with
  | zero => intro i h; exact absurd h (Nat.not_lt_zero _)
  | succ n ih => intro i h hi σ x0 hI; exact step i (f_X9_spareEvents_l12 n) σ x0 hi hI (fun σ' x0' hlt hI2 => ih (i + 1) (by omega) hlt σ' x0' hI2)
theorem i_X9_placeOfBit_l4 (e : Nat) (I : Nat → Sg → Int32 → Int32 → Int32 → Int32 → Prop) (P : Sg → Int32 → Int32 → Int32 → Int32 → Option (Int32 × Sg) → Prop) (step : ∀ (i : Nat) (k : Sg → Int32 → Int32 → Int32 → Int32 → Option (Int32 × Sg)) (σ : Sg) (x0 : Int32) (x1 : Int32) (x2 : Int32) (x3 : Int32), i ≤ e → I i σ x0 x1 x2 x3 → (∀ (σ' : Sg) (x0' : Int32) (x1' : Int32) (x2' : Int32) (x3' : Int32), i < e → I (i + 1) σ' x0' x1' x2' x3' → P σ' x0' x1' x2' x3' (k σ' x0' x1' x2' x3')) → P σ x0 x1 x2 x3 (f_X9_placeOfBit_b4 k σ x0 x1 x2 x3)) : ∀ (n i : Nat), e - i < n → i ≤ e → ∀ (σ : Sg) (x0 : Int32) (x1 : Int32) (x2 : Int32) (x3 : Int32), I i σ x0 x1 x2 x3 → P σ x0 x1 x2 x3 (f_X9_placeOfBit_l4 n σ x0 x1 x2 x3) := by
  intro n
  induction n with
  | zero => intro i h; exact absurd h (Nat.not_lt_zero _)
  | succ n ih => intro i h hi σ x0 x1 x2 x3 hI; exact step i (f_X9_placeOfBit_l4 n) σ x0 x1 x2 x3 hi hI (fun σ' x0' x1' x2' x3' hlt hI2 => ih (i + 1) (by omega) hlt σ' x0' x1' x2' x3' hI2)
theorem i_X7_fit_l2 (c1 : Nat) (e : Nat) (I : Nat → Sg → Int32 → Int32 → Prop) (P : Sg → Int32 → Int32 → Option (Int32 × Sg) → Prop) (step : ∀ (i : Nat) (k : Sg → Int32 → Int32 → Option (Int32 × Sg)) (σ : Sg) (x0 : Int32) (x1 : Int32), i ≤ e → I i σ x0 x1 → (∀ (σ' : Sg) (x0' : Int32) (x1' : Int32), i < e → I (i + 1) σ' x0' x1' → P σ' x0' x1' (k σ' x0' x1')) → P σ x0 x1 (f_X7_fit_b2 c1 k σ x0 x1)) : ∀ (n i : Nat), e - i < n → i ≤ e → ∀ (σ : Sg) (x0 : Int32) (x1 : Int32), I i σ x0 x1 → P σ x0 x1 (f_X7_fit_l2 c1 n σ x0 x1) := by
  intro n
  induction n with
  | zero => intro i h; exact absurd h (Nat.not_lt_zero _)
  | succ n ih => intro i h hi σ x0 x1 hI; exact step i (f_X7_fit_l2 c1 n) σ x0 x1 hi hI (fun σ' x0' x1' hlt hI2 => ih (i + 1) (by omega) hlt σ' x0' x1' hI2)
theorem i_X9_never_l4 (e : Nat) (I : Nat → Sg → Int32 → Int32 → Prop) (P : Sg → Int32 → Int32 → Option (Int32 × Sg) → Prop) (step : ∀ (i : Nat) (k : Sg → Int32 → Int32 → Option (Int32 × Sg)) (σ : Sg) (x0 : Int32) (x1 : Int32), i ≤ e → I i σ x0 x1 → (∀ (σ' : Sg) (x0' : Int32) (x1' : Int32), i < e → I (i + 1) σ' x0' x1' → P σ' x0' x1' (k σ' x0' x1')) → P σ x0 x1 (f_X9_never_b4 k σ x0 x1)) : ∀ (n i : Nat), e - i < n → i ≤ e → ∀ (σ : Sg) (x0 : Int32) (x1 : Int32), I i σ x0 x1 → P σ x0 x1 (f_X9_never_l4 n σ x0 x1) := by
  intro n
  induction n with
  | zero => intro i h; exact absurd h (Nat.not_lt_zero _)
  | succ n ih => intro i h hi σ x0 x1 hI; exact step i (f_X9_never_l4 n) σ x0 x1 hi hI (fun σ' x0' x1' hlt hI2 => ih (i + 1) (by omega) hlt σ' x0' x1' hI2)
theorem i_X9_fittingFars_l18 (e : Nat) (I : Nat → Sg → Int32 → Int32 → Int32 → Int32 → Int32 → Prop) (P : Sg → Int32 → Int32 → Int32 → Int32 → Int32 → Option (Int32 × Sg) → Prop) (step : ∀ (i : Nat) (k : Sg → Int32 → Int32 → Int32 → Int32 → Int32 → Option (Int32 × Sg)) (σ : Sg) (x0 : Int32) (x1 : Int32) (x2 : Int32) (x3 : Int32) (x4 : Int32), i ≤ e → I i σ x0 x1 x2 x3 x4 → (∀ (σ' : Sg) (x0' : Int32) (x1' : Int32) (x2' : Int32) (x3' : Int32) (x4' : Int32), i < e → I (i + 1) σ' x0' x1' x2' x3' x4' → P σ' x0' x1' x2' x3' x4' (k σ' x0' x1' x2' x3' x4')) → P σ x0 x1 x2 x3 x4 (f_X9_fittingFars_b18 k σ x0 x1 x2 x3 x4)) : ∀ (n i : Nat), e - i < n → i ≤ e → ∀ (σ : Sg) (x0 : Int32) (x1 : Int32) (x2 : Int32) (x3 : Int32) (x4 : Int32), I i σ x0 x1 x2 x3 x4 → P σ x0 x1 x2 x3 x4 (f_X9_fittingFars_l18 n σ x0 x1 x2 x3 x4) := by
  intro n
  induction n with
  | zero => intro i h; exact absurd h (Nat.not_lt_zero _)
  | succ n ih => intro i h hi σ x0 x1 x2 x3 x4 hI; exact step i (f_X9_fittingFars_l18 n) σ x0 x1 x2 x3 x4 hi hI (fun σ' x0' x1' x2' x3' x4' hlt hI2 => ih (i + 1) (by omega) hlt σ' x0' x1' x2' x3' x4' hI2)
theorem i_X9_fittingSorts_l15 (e : Nat) (I : Nat → Sg → Int32 → Int32 → Int32 → Int32 → Prop) (P : Sg → Int32 → Int32 → Int32 → Int32 → Option (Int32 × Sg) → Prop) (step : ∀ (i : Nat) (k : Sg → Int32 → Int32 → Int32 → Int32 → Option (Int32 × Sg)) (σ : Sg) (x0 : Int32) (x1 : Int32) (x2 : Int32) (x3 : Int32), i ≤ e → I i σ x0 x1 x2 x3 → (∀ (σ' : Sg) (x0' : Int32) (x1' : Int32) (x2' : Int32) (x3' : Int32), i < e → I (i + 1) σ' x0' x1' x2' x3' → P σ' x0' x1' x2' x3' (k σ' x0' x1' x2' x3')) → P σ x0 x1 x2 x3 (f_X9_fittingSorts_b15 k σ x0 x1 x2 x3)) : ∀ (n i : Nat), e - i < n → i ≤ e → ∀ (σ : Sg) (x0 : Int32) (x1 : Int32) (x2 : Int32) (x3 : Int32), I i σ x0 x1 x2 x3 → P σ x0 x1 x2 x3 (f_X9_fittingSorts_l15 n σ x0 x1 x2 x3) := by
  intro n
  induction n with
  | zero => intro i h; exact absurd h (Nat.not_lt_zero _)
  | succ n ih => intro i h hi σ x0 x1 x2 x3 hI; exact step i (f_X9_fittingSorts_l15 n) σ x0 x1 x2 x3 hi hI (fun σ' x0' x1' x2' x3' hlt hI2 => ih (i + 1) (by omega) hlt σ' x0' x1' x2' x3' hI2)
theorem i_X9_greatestAlike_l17 (k5 : Sg → Int32 → Int32 → Int32 → Int32 → Option (Int32 × Sg)) (e : Nat) (I : Nat → Sg → Int32 → Int32 → Int32 → Int32 → Int32 → Int32 → Prop) (P : Sg → Int32 → Int32 → Int32 → Int32 → Int32 → Int32 → Option (Int32 × Sg) → Prop) (step : ∀ (i : Nat) (k : Sg → Int32 → Int32 → Int32 → Int32 → Int32 → Int32 → Option (Int32 × Sg)) (σ : Sg) (x0 : Int32) (x1 : Int32) (x2 : Int32) (x3 : Int32) (x4 : Int32) (x5 : Int32), i ≤ e → I i σ x0 x1 x2 x3 x4 x5 → (∀ (σ' : Sg) (x0' : Int32) (x1' : Int32) (x2' : Int32) (x3' : Int32) (x4' : Int32) (x5' : Int32), i < e → I (i + 1) σ' x0' x1' x2' x3' x4' x5' → P σ' x0' x1' x2' x3' x4' x5' (k σ' x0' x1' x2' x3' x4' x5')) → P σ x0 x1 x2 x3 x4 x5 (f_X9_greatestAlike_b17 k5 k σ x0 x1 x2 x3 x4 x5)) : ∀ (n i : Nat), e - i < n → i ≤ e → ∀ (σ : Sg) (x0 : Int32) (x1 : Int32) (x2 : Int32) (x3 : Int32) (x4 : Int32) (x5 : Int32), I i σ x0 x1 x2 x3 x4 x5 → P σ x0 x1 x2 x3 x4 x5 (f_X9_greatestAlike_l17 k5 n σ x0 x1 x2 x3 x4 x5) := by
  intro n
  induction n with
  | zero => intro i h; exact absurd h (Nat.not_lt_zero _)
  | succ n ih => intro i h hi σ x0 x1 x2 x3 x4 x5 hI; exact step i (f_X9_greatestAlike_l17 k5 n) σ x0 x1 x2 x3 x4 x5 hi hI (fun σ' x0' x1' x2' x3' x4' x5' hlt hI2 => ih (i + 1) (by omega) hlt σ' x0' x1' x2' x3' x4' x5' hI2)
theorem i_X9_greatestAlike_l5 (e : Nat) (I : Nat → Sg → Int32 → Int32 → Int32 → Int32 → Prop) (P : Sg → Int32 → Int32 → Int32 → Int32 → Option (Int32 × Sg) → Prop) (step : ∀ (i : Nat) (k : Sg → Int32 → Int32 → Int32 → Int32 → Option (Int32 × Sg)) (σ : Sg) (x0 : Int32) (x1 : Int32) (x2 : Int32) (x3 : Int32), i ≤ e → I i σ x0 x1 x2 x3 → (∀ (σ' : Sg) (x0' : Int32) (x1' : Int32) (x2' : Int32) (x3' : Int32), i < e → I (i + 1) σ' x0' x1' x2' x3' → P σ' x0' x1' x2' x3' (k σ' x0' x1' x2' x3')) → P σ x0 x1 x2 x3 (f_X9_greatestAlike_b5 k σ x0 x1 x2 x3)) : ∀ (n i : Nat), e - i < n → i ≤ e → ∀ (σ : Sg) (x0 : Int32) (x1 : Int32) (x2 : Int32) (x3 : Int32), I i σ x0 x1 x2 x3 → P σ x0 x1 x2 x3 (f_X9_greatestAlike_l5 n σ x0 x1 x2 x3) := by
  intro n
  induction n with
  | zero => intro i h; exact absurd h (Nat.not_lt_zero _)
  | succ n ih => intro i h hi σ x0 x1 x2 x3 hI; exact step i (f_X9_greatestAlike_l5 n) σ x0 x1 x2 x3 hi hI (fun σ' x0' x1' x2' x3' hlt hI2 => ih (i + 1) (by omega) hlt σ' x0' x1' x2' x3' hI2)
theorem i_X9_ask_l35 (e : Nat) (I : Nat → Sg → Int32 → Int32 → Int32 → Int32 → Prop) (P : Sg → Int32 → Int32 → Int32 → Int32 → Option (Int32 × Sg) → Prop) (step : ∀ (i : Nat) (k : Sg → Int32 → Int32 → Int32 → Int32 → Option (Int32 × Sg)) (σ : Sg) (x0 : Int32) (x1 : Int32) (x2 : Int32) (x3 : Int32), i ≤ e → I i σ x0 x1 x2 x3 → (∀ (σ' : Sg) (x0' : Int32) (x1' : Int32) (x2' : Int32) (x3' : Int32), i < e → I (i + 1) σ' x0' x1' x2' x3' → P σ' x0' x1' x2' x3' (k σ' x0' x1' x2' x3')) → P σ x0 x1 x2 x3 (f_X9_ask_b35 k σ x0 x1 x2 x3)) : ∀ (n i : Nat), e - i < n → i ≤ e → ∀ (σ : Sg) (x0 : Int32) (x1 : Int32) (x2 : Int32) (x3 : Int32), I i σ x0 x1 x2 x3 → P σ x0 x1 x2 x3 (f_X9_ask_l35 n σ x0 x1 x2 x3) := by
  intro n
  induction n with
  | zero => intro i h; exact absurd h (Nat.not_lt_zero _)
  | succ n ih => intro i h hi σ x0 x1 x2 x3 hI; exact step i (f_X9_ask_l35 n) σ x0 x1 x2 x3 hi hI (fun σ' x0' x1' x2' x3' hlt hI2 => ih (i + 1) (by omega) hlt σ' x0' x1' x2' x3' hI2)
theorem i_X5_tally_l67 (c3 : Nat) (c4 : Nat) (k40 : Sg → Int32 → Int32 → Option (Unit × Sg)) (e : Nat) (I : Nat → Sg → Int32 → Int32 → Int32 → Int32 → Prop) (P : Sg → Int32 → Int32 → Int32 → Int32 → Option (Unit × Sg) → Prop) (step : ∀ (i : Nat) (k : Sg → Int32 → Int32 → Int32 → Int32 → Option (Unit × Sg)) (σ : Sg) (x0 : Int32) (x1 : Int32) (x2 : Int32) (x3 : Int32), i ≤ e → I i σ x0 x1 x2 x3 → (∀ (σ' : Sg) (x0' : Int32) (x1' : Int32) (x2' : Int32) (x3' : Int32), i < e → I (i + 1) σ' x0' x1' x2' x3' → P σ' x0' x1' x2' x3' (k σ' x0' x1' x2' x3')) → P σ x0 x1 x2 x3 (f_X5_tally_b67 c3 c4 k40 k σ x0 x1 x2 x3)) : ∀ (n i : Nat), e - i < n → i ≤ e → ∀ (σ : Sg) (x0 : Int32) (x1 : Int32) (x2 : Int32) (x3 : Int32), I i σ x0 x1 x2 x3 → P σ x0 x1 x2 x3 (f_X5_tally_l67 c3 c4 k40 n σ x0 x1 x2 x3) := by
  intro n
  induction n with
  | zero => intro i h; exact absurd h (Nat.not_lt_zero _)
  | succ n ih => intro i h hi σ x0 x1 x2 x3 hI; exact step i (f_X5_tally_l67 c3 c4 k40 n) σ x0 x1 x2 x3 hi hI (fun σ' x0' x1' x2' x3' hlt hI2 => ih (i + 1) (by omega) hlt σ' x0' x1' x2' x3' hI2)
theorem i_X5_tally_l40 (c3 : Nat) (c4 : Nat) (e : Nat) (I : Nat → Sg → Int32 → Int32 → Prop) (P : Sg → Int32 → Int32 → Option (Unit × Sg) → Prop) (step : ∀ (i : Nat) (k : Sg → Int32 → Int32 → Option (Unit × Sg)) (σ : Sg) (x0 : Int32) (x1 : Int32), i ≤ e → I i σ x0 x1 → (∀ (σ' : Sg) (x0' : Int32) (x1' : Int32), i < e → I (i + 1) σ' x0' x1' → P σ' x0' x1' (k σ' x0' x1')) → P σ x0 x1 (f_X5_tally_b40 c3 c4 k σ x0 x1)) : ∀ (n i : Nat), e - i < n → i ≤ e → ∀ (σ : Sg) (x0 : Int32) (x1 : Int32), I i σ x0 x1 → P σ x0 x1 (f_X5_tally_l40 c3 c4 n σ x0 x1) := by
  intro n
  induction n with
  | zero => intro i h; exact absurd h (Nat.not_lt_zero _)
  | succ n ih => intro i h hi σ x0 x1 hI; exact step i (f_X5_tally_l40 c3 c4 n) σ x0 x1 hi hI (fun σ' x0' x1' hlt hI2 => ih (i + 1) (by omega) hlt σ' x0' x1' hI2)
theorem i_X5_tally_l3 (c3 : Nat) (c4 : Nat) (e : Nat) (I : Nat → Sg → Int32 → Prop) (P : Sg → Int32 → Option (Unit × Sg) → Prop) (step : ∀ (i : Nat) (k : Sg → Int32 → Option (Unit × Sg)) (σ : Sg) (x0 : Int32), i ≤ e → I i σ x0 → (∀ (σ' : Sg) (x0' : Int32), i < e → I (i + 1) σ' x0' → P σ' x0' (k σ' x0')) → P σ x0 (f_X5_tally_b3 c3 c4 k σ x0)) : ∀ (n i : Nat), e - i < n → i ≤ e → ∀ (σ : Sg) (x0 : Int32), I i σ x0 → P σ x0 (f_X5_tally_l3 c3 c4 n σ x0) := by
  intro n
  induction n with
  | zero => intro i h; exact absurd h (Nat.not_lt_zero _)
  | succ n ih => intro i h hi σ x0 hI; exact step i (f_X5_tally_l3 c3 c4 n) σ x0 hi hI (fun σ' x0' hlt hI2 => ih (i + 1) (by omega) hlt σ' x0' hI2)
theorem i_X5_power_l5 (e : Nat) (I : Nat → Sg → Int32 → Int32 → Int64 → Int32 → Prop) (P : Sg → Int32 → Int32 → Int64 → Int32 → Option (Int64 × Sg) → Prop) (step : ∀ (i : Nat) (k : Sg → Int32 → Int32 → Int64 → Int32 → Option (Int64 × Sg)) (σ : Sg) (x0 : Int32) (x1 : Int32) (x2 : Int64) (x3 : Int32), i ≤ e → I i σ x0 x1 x2 x3 → (∀ (σ' : Sg) (x0' : Int32) (x1' : Int32) (x2' : Int64) (x3' : Int32), i < e → I (i + 1) σ' x0' x1' x2' x3' → P σ' x0' x1' x2' x3' (k σ' x0' x1' x2' x3')) → P σ x0 x1 x2 x3 (f_X5_power_b5 k σ x0 x1 x2 x3)) : ∀ (n i : Nat), e - i < n → i ≤ e → ∀ (σ : Sg) (x0 : Int32) (x1 : Int32) (x2 : Int64) (x3 : Int32), I i σ x0 x1 x2 x3 → P σ x0 x1 x2 x3 (f_X5_power_l5 n σ x0 x1 x2 x3) := by
  intro n
  induction n with
  | zero => intro i h; exact absurd h (Nat.not_lt_zero _)
  | succ n ih => intro i h hi σ x0 x1 x2 x3 hI; exact step i (f_X5_power_l5 n) σ x0 x1 x2 x3 hi hI (fun σ' x0' x1' x2' x3' hlt hI2 => ih (i + 1) (by omega) hlt σ' x0' x1' x2' x3' hI2)
theorem i_X5_tell_l77 (e : Nat) (I : Nat → Sg → Int32 → Int64 → Int64 → Int32 → Prop) (P : Sg → Int32 → Int64 → Int64 → Int32 → Option (Int64 × Sg) → Prop) (step : ∀ (i : Nat) (k : Sg → Int32 → Int64 → Int64 → Int32 → Option (Int64 × Sg)) (σ : Sg) (x0 : Int32) (x1 : Int64) (x2 : Int64) (x3 : Int32), i ≤ e → I i σ x0 x1 x2 x3 → (∀ (σ' : Sg) (x0' : Int32) (x1' : Int64) (x2' : Int64) (x3' : Int32), i < e → I (i + 1) σ' x0' x1' x2' x3' → P σ' x0' x1' x2' x3' (k σ' x0' x1' x2' x3')) → P σ x0 x1 x2 x3 (f_X5_tell_b77 k σ x0 x1 x2 x3)) : ∀ (n i : Nat), e - i < n → i ≤ e → ∀ (σ : Sg) (x0 : Int32) (x1 : Int64) (x2 : Int64) (x3 : Int32), I i σ x0 x1 x2 x3 → P σ x0 x1 x2 x3 (f_X5_tell_l77 n σ x0 x1 x2 x3) := by
  intro n
  induction n with
  | zero => intro i h; exact absurd h (Nat.not_lt_zero _)
  | succ n ih => intro i h hi σ x0 x1 x2 x3 hI; exact step i (f_X5_tell_l77 n) σ x0 x1 x2 x3 hi hI (fun σ' x0' x1' x2' x3' hlt hI2 => ih (i + 1) (by omega) hlt σ' x0' x1' x2' x3' hI2)
theorem i_X5_tell_l6 (e : Nat) (I : Nat → Sg → Int32 → Int32 → Int32 → Int32 → Int64 → Int32 → Prop) (P : Sg → Int32 → Int32 → Int32 → Int32 → Int64 → Int32 → Option (Int64 × Sg) → Prop) (step : ∀ (i : Nat) (k : Sg → Int32 → Int32 → Int32 → Int32 → Int64 → Int32 → Option (Int64 × Sg)) (σ : Sg) (x0 : Int32) (x1 : Int32) (x2 : Int32) (x3 : Int32) (x4 : Int64) (x5 : Int32), i ≤ e → I i σ x0 x1 x2 x3 x4 x5 → (∀ (σ' : Sg) (x0' : Int32) (x1' : Int32) (x2' : Int32) (x3' : Int32) (x4' : Int64) (x5' : Int32), i < e → I (i + 1) σ' x0' x1' x2' x3' x4' x5' → P σ' x0' x1' x2' x3' x4' x5' (k σ' x0' x1' x2' x3' x4' x5')) → P σ x0 x1 x2 x3 x4 x5 (f_X5_tell_b6 k σ x0 x1 x2 x3 x4 x5)) : ∀ (n i : Nat), e - i < n → i ≤ e → ∀ (σ : Sg) (x0 : Int32) (x1 : Int32) (x2 : Int32) (x3 : Int32) (x4 : Int64) (x5 : Int32), I i σ x0 x1 x2 x3 x4 x5 → P σ x0 x1 x2 x3 x4 x5 (f_X5_tell_l6 n σ x0 x1 x2 x3 x4 x5) := by
  intro n
  induction n with
  | zero => intro i h; exact absurd h (Nat.not_lt_zero _)
  | succ n ih => intro i h hi σ x0 x1 x2 x3 x4 x5 hI; exact step i (f_X5_tell_l6 n) σ x0 x1 x2 x3 x4 x5 hi hI (fun σ' x0' x1' x2' x3' x4' x5' hlt hI2 => ih (i + 1) (by omega) hlt σ' x0' x1' x2' x3' x4' x5' hI2)
theorem i_X9_drawEvents_l13 (e : Nat) (I : Nat → Sg → Int32 → Int32 → Int32 → Prop) (P : Sg → Int32 → Int32 → Int32 → Option (Unit × Sg) → Prop) (step : ∀ (i : Nat) (k : Sg → Int32 → Int32 → Int32 → Option (Unit × Sg)) (σ : Sg) (x0 : Int32) (x1 : Int32) (x2 : Int32), i ≤ e → I i σ x0 x1 x2 → (∀ (σ' : Sg) (x0' : Int32) (x1' : Int32) (x2' : Int32), i < e → I (i + 1) σ' x0' x1' x2' → P σ' x0' x1' x2' (k σ' x0' x1' x2')) → P σ x0 x1 x2 (f_X9_drawEvents_b13 k σ x0 x1 x2)) : ∀ (n i : Nat), e - i < n → i ≤ e → ∀ (σ : Sg) (x0 : Int32) (x1 : Int32) (x2 : Int32), I i σ x0 x1 x2 → P σ x0 x1 x2 (f_X9_drawEvents_l13 n σ x0 x1 x2) := by
  intro n
  induction n with
  | zero => intro i h; exact absurd h (Nat.not_lt_zero _)
  | succ n ih => intro i h hi σ x0 x1 x2 hI; exact step i (f_X9_drawEvents_l13 n) σ x0 x1 x2 hi hI (fun σ' x0' x1' x2' hlt hI2 => ih (i + 1) (by omega) hlt σ' x0' x1' x2' hI2)
theorem i_X6_makeNew_l12 (c0 : Nat) (e : Nat) (I : Nat → Sg → Int32 → Prop) (P : Sg → Int32 → Option (Unit × Sg) → Prop) (step : ∀ (i : Nat) (k : Sg → Int32 → Option (Unit × Sg)) (σ : Sg) (x0 : Int32), i ≤ e → I i σ x0 → (∀ (σ' : Sg) (x0' : Int32), i < e → I (i + 1) σ' x0' → P σ' x0' (k σ' x0')) → P σ x0 (f_X6_makeNew_b12 c0 k σ x0)) : ∀ (n i : Nat), e - i < n → i ≤ e → ∀ (σ : Sg) (x0 : Int32), I i σ x0 → P σ x0 (f_X6_makeNew_l12 c0 n σ x0) := by
  intro n
  induction n with
  | zero => intro i h; exact absurd h (Nat.not_lt_zero _)
  | succ n ih => intro i h hi σ x0 hI; exact step i (f_X6_makeNew_l12 c0 n) σ x0 hi hI (fun σ' x0' hlt hI2 => ih (i + 1) (by omega) hlt σ' x0' hI2)
theorem i_X9_write_l66 (e : Nat) (I : Nat → Sg → Int32 → Nat → Int32 → Int32 → Prop) (P : Sg → Int32 → Nat → Int32 → Int32 → Option (Int32 × Sg) → Prop) (step : ∀ (i : Nat) (k : Sg → Int32 → Nat → Int32 → Int32 → Option (Int32 × Sg)) (σ : Sg) (x0 : Int32) (x1 : Nat) (x2 : Int32) (x3 : Int32), i ≤ e → I i σ x0 x1 x2 x3 → (∀ (σ' : Sg) (x0' : Int32) (x1' : Nat) (x2' : Int32) (x3' : Int32), i < e → I (i + 1) σ' x0' x1' x2' x3' → P σ' x0' x1' x2' x3' (k σ' x0' x1' x2' x3')) → P σ x0 x1 x2 x3 (f_X9_write_b66 k σ x0 x1 x2 x3)) : ∀ (n i : Nat), e - i < n → i ≤ e → ∀ (σ : Sg) (x0 : Int32) (x1 : Nat) (x2 : Int32) (x3 : Int32), I i σ x0 x1 x2 x3 → P σ x0 x1 x2 x3 (f_X9_write_l66 n σ x0 x1 x2 x3) := by
  intro n
  induction n with
  | zero => intro i h; exact absurd h (Nat.not_lt_zero _)
  | succ n ih => intro i h hi σ x0 x1 x2 x3 hI; exact step i (f_X9_write_l66 n) σ x0 x1 x2 x3 hi hI (fun σ' x0' x1' x2' x3' hlt hI2 => ih (i + 1) (by omega) hlt σ' x0' x1' x2' x3' hI2)
theorem i_X9_mixNeed_l6 (e : Nat) (I : Nat → Sg → Int32 → Int64 → Int32 → Prop) (P : Sg → Int32 → Int64 → Int32 → Option (Int64 × Sg) → Prop) (step : ∀ (i : Nat) (k : Sg → Int32 → Int64 → Int32 → Option (Int64 × Sg)) (σ : Sg) (x0 : Int32) (x1 : Int64) (x2 : Int32), i ≤ e → I i σ x0 x1 x2 → (∀ (σ' : Sg) (x0' : Int32) (x1' : Int64) (x2' : Int32), i < e → I (i + 1) σ' x0' x1' x2' → P σ' x0' x1' x2' (k σ' x0' x1' x2')) → P σ x0 x1 x2 (f_X9_mixNeed_b6 k σ x0 x1 x2)) : ∀ (n i : Nat), e - i < n → i ≤ e → ∀ (σ : Sg) (x0 : Int32) (x1 : Int64) (x2 : Int32), I i σ x0 x1 x2 → P σ x0 x1 x2 (f_X9_mixNeed_l6 n σ x0 x1 x2) := by
  intro n
  induction n with
  | zero => intro i h; exact absurd h (Nat.not_lt_zero _)
  | succ n ih => intro i h hi σ x0 x1 x2 hI; exact step i (f_X9_mixNeed_l6 n) σ x0 x1 x2 hi hI (fun σ' x0' x1' x2' hlt hI2 => ih (i + 1) (by omega) hlt σ' x0' x1' x2' hI2)
theorem i_X9_mixOne_l58 (k36 : Sg → Int32 → Int64 → Int32 → Option (Int64 × Sg)) (e : Nat) (I : Nat → Sg → Int32 → Int64 → Int32 → Int32 → Int32 → Prop) (P : Sg → Int32 → Int64 → Int32 → Int32 → Int32 → Option (Int64 × Sg) → Prop) (step : ∀ (i : Nat) (k : Sg → Int32 → Int64 → Int32 → Int32 → Int32 → Option (Int64 × Sg)) (σ : Sg) (x0 : Int32) (x1 : Int64) (x2 : Int32) (x3 : Int32) (x4 : Int32), i ≤ e → I i σ x0 x1 x2 x3 x4 → (∀ (σ' : Sg) (x0' : Int32) (x1' : Int64) (x2' : Int32) (x3' : Int32) (x4' : Int32), i < e → I (i + 1) σ' x0' x1' x2' x3' x4' → P σ' x0' x1' x2' x3' x4' (k σ' x0' x1' x2' x3' x4')) → P σ x0 x1 x2 x3 x4 (f_X9_mixOne_b58 k36 k σ x0 x1 x2 x3 x4)) : ∀ (n i : Nat), e - i < n → i ≤ e → ∀ (σ : Sg) (x0 : Int32) (x1 : Int64) (x2 : Int32) (x3 : Int32) (x4 : Int32), I i σ x0 x1 x2 x3 x4 → P σ x0 x1 x2 x3 x4 (f_X9_mixOne_l58 k36 n σ x0 x1 x2 x3 x4) := by
  intro n
  induction n with
  | zero => intro i h; exact absurd h (Nat.not_lt_zero _)
  | succ n ih => intro i h hi σ x0 x1 x2 x3 x4 hI; exact step i (f_X9_mixOne_l58 k36 n) σ x0 x1 x2 x3 x4 hi hI (fun σ' x0' x1' x2' x3' x4' hlt hI2 => ih (i + 1) (by omega) hlt σ' x0' x1' x2' x3' x4' hI2)
theorem i_X9_mixOne_l116 (e : Nat) (I : Nat → Sg → Int32 → Int64 → Int32 → Int32 → Prop) (P : Sg → Int32 → Int64 → Int32 → Int32 → Option (Int64 × Sg) → Prop) (step : ∀ (i : Nat) (k : Sg → Int32 → Int64 → Int32 → Int32 → Option (Int64 × Sg)) (σ : Sg) (x0 : Int32) (x1 : Int64) (x2 : Int32) (x3 : Int32), i ≤ e → I i σ x0 x1 x2 x3 → (∀ (σ' : Sg) (x0' : Int32) (x1' : Int64) (x2' : Int32) (x3' : Int32), i < e → I (i + 1) σ' x0' x1' x2' x3' → P σ' x0' x1' x2' x3' (k σ' x0' x1' x2' x3')) → P σ x0 x1 x2 x3 (f_X9_mixOne_b116 k σ x0 x1 x2 x3)) : ∀ (n i : Nat), e - i < n → i ≤ e → ∀ (σ : Sg) (x0 : Int32) (x1 : Int64) (x2 : Int32) (x3 : Int32), I i σ x0 x1 x2 x3 → P σ x0 x1 x2 x3 (f_X9_mixOne_l116 n σ x0 x1 x2 x3) := by
  intro n
  induction n with
  | zero => intro i h; exact absurd h (Nat.not_lt_zero _)
  | succ n ih => intro i h hi σ x0 x1 x2 x3 hI; exact step i (f_X9_mixOne_l116 n) σ x0 x1 x2 x3 hi hI (fun σ' x0' x1' x2' x3' hlt hI2 => ih (i + 1) (by omega) hlt σ' x0' x1' x2' x3' hI2)
theorem i_X9_mixOne_l36 (e : Nat) (I : Nat → Sg → Int32 → Int64 → Int32 → Prop) (P : Sg → Int32 → Int64 → Int32 → Option (Int64 × Sg) → Prop) (step : ∀ (i : Nat) (k : Sg → Int32 → Int64 → Int32 → Option (Int64 × Sg)) (σ : Sg) (x0 : Int32) (x1 : Int64) (x2 : Int32), i ≤ e → I i σ x0 x1 x2 → (∀ (σ' : Sg) (x0' : Int32) (x1' : Int64) (x2' : Int32), i < e → I (i + 1) σ' x0' x1' x2' → P σ' x0' x1' x2' (k σ' x0' x1' x2')) → P σ x0 x1 x2 (f_X9_mixOne_b36 k σ x0 x1 x2)) : ∀ (n i : Nat), e - i < n → i ≤ e → ∀ (σ : Sg) (x0 : Int32) (x1 : Int64) (x2 : Int32), I i σ x0 x1 x2 → P σ x0 x1 x2 (f_X9_mixOne_l36 n σ x0 x1 x2) := by
  intro n
  induction n with
  | zero => intro i h; exact absurd h (Nat.not_lt_zero _)
  | succ n ih => intro i h hi σ x0 x1 x2 hI; exact step i (f_X9_mixOne_l36 n) σ x0 x1 x2 hi hI (fun σ' x0' x1' x2' hlt hI2 => ih (i + 1) (by omega) hlt σ' x0' x1' x2' hI2)
theorem i_X9_mixOne_l6 (e : Nat) (I : Nat → Sg → Int32 → Int64 → Int32 → Prop) (P : Sg → Int32 → Int64 → Int32 → Option (Int64 × Sg) → Prop) (step : ∀ (i : Nat) (k : Sg → Int32 → Int64 → Int32 → Option (Int64 × Sg)) (σ : Sg) (x0 : Int32) (x1 : Int64) (x2 : Int32), i ≤ e → I i σ x0 x1 x2 → (∀ (σ' : Sg) (x0' : Int32) (x1' : Int64) (x2' : Int32), i < e → I (i + 1) σ' x0' x1' x2' → P σ' x0' x1' x2' (k σ' x0' x1' x2')) → P σ x0 x1 x2 (f_X9_mixOne_b6 k σ x0 x1 x2)) : ∀ (n i : Nat), e - i < n → i ≤ e → ∀ (σ : Sg) (x0 : Int32) (x1 : Int64) (x2 : Int32), I i σ x0 x1 x2 → P σ x0 x1 x2 (f_X9_mixOne_l6 n σ x0 x1 x2) := by
  intro n
  induction n with
  | zero => intro i h; exact absurd h (Nat.not_lt_zero _)
  | succ n ih => intro i h hi σ x0 x1 x2 hI; exact step i (f_X9_mixOne_l6 n) σ x0 x1 x2 hi hI (fun σ' x0' x1' x2' hlt hI2 => ih (i + 1) (by omega) hlt σ' x0' x1' x2' hI2)
theorem i_X9_digest_l139 (e : Nat) (I : Nat → Sg → Int64 → Int32 → Prop) (P : Sg → Int64 → Int32 → Option (Int64 × Sg) → Prop) (step : ∀ (i : Nat) (k : Sg → Int64 → Int32 → Option (Int64 × Sg)) (σ : Sg) (x0 : Int64) (x1 : Int32), i ≤ e → I i σ x0 x1 → (∀ (σ' : Sg) (x0' : Int64) (x1' : Int32), i < e → I (i + 1) σ' x0' x1' → P σ' x0' x1' (k σ' x0' x1')) → P σ x0 x1 (f_X9_digest_b139 k σ x0 x1)) : ∀ (n i : Nat), e - i < n → i ≤ e → ∀ (σ : Sg) (x0 : Int64) (x1 : Int32), I i σ x0 x1 → P σ x0 x1 (f_X9_digest_l139 n σ x0 x1) := by
  intro n
  induction n with
  | zero => intro i h; exact absurd h (Nat.not_lt_zero _)
  | succ n ih => intro i h hi σ x0 x1 hI; exact step i (f_X9_digest_l139 n) σ x0 x1 hi hI (fun σ' x0' x1' hlt hI2 => ih (i + 1) (by omega) hlt σ' x0' x1' hI2)
theorem i_X9_digest_l103 (e : Nat) (I : Nat → Sg → Int64 → Int32 → Prop) (P : Sg → Int64 → Int32 → Option (Int64 × Sg) → Prop) (step : ∀ (i : Nat) (k : Sg → Int64 → Int32 → Option (Int64 × Sg)) (σ : Sg) (x0 : Int64) (x1 : Int32), i ≤ e → I i σ x0 x1 → (∀ (σ' : Sg) (x0' : Int64) (x1' : Int32), i < e → I (i + 1) σ' x0' x1' → P σ' x0' x1' (k σ' x0' x1')) → P σ x0 x1 (f_X9_digest_b103 k σ x0 x1)) : ∀ (n i : Nat), e - i < n → i ≤ e → ∀ (σ : Sg) (x0 : Int64) (x1 : Int32), I i σ x0 x1 → P σ x0 x1 (f_X9_digest_l103 n σ x0 x1) := by
  intro n
  induction n with
  | zero => intro i h; exact absurd h (Nat.not_lt_zero _)
  | succ n ih => intro i h hi σ x0 x1 hI; exact step i (f_X9_digest_l103 n) σ x0 x1 hi hI (fun σ' x0' x1' hlt hI2 => ih (i + 1) (by omega) hlt σ' x0' x1' hI2)
theorem i_X9_digest_l77 (e : Nat) (I : Nat → Sg → Int64 → Int32 → Prop) (P : Sg → Int64 → Int32 → Option (Int64 × Sg) → Prop) (step : ∀ (i : Nat) (k : Sg → Int64 → Int32 → Option (Int64 × Sg)) (σ : Sg) (x0 : Int64) (x1 : Int32), i ≤ e → I i σ x0 x1 → (∀ (σ' : Sg) (x0' : Int64) (x1' : Int32), i < e → I (i + 1) σ' x0' x1' → P σ' x0' x1' (k σ' x0' x1')) → P σ x0 x1 (f_X9_digest_b77 k σ x0 x1)) : ∀ (n i : Nat), e - i < n → i ≤ e → ∀ (σ : Sg) (x0 : Int64) (x1 : Int32), I i σ x0 x1 → P σ x0 x1 (f_X9_digest_l77 n σ x0 x1) := by
  intro n
  induction n with
  | zero => intro i h; exact absurd h (Nat.not_lt_zero _)
  | succ n ih => intro i h hi σ x0 x1 hI; exact step i (f_X9_digest_l77 n) σ x0 x1 hi hI (fun σ' x0' x1' hlt hI2 => ih (i + 1) (by omega) hlt σ' x0' x1' hI2)
theorem i_X9_digest_l51 (e : Nat) (I : Nat → Sg → Int64 → Int32 → Prop) (P : Sg → Int64 → Int32 → Option (Int64 × Sg) → Prop) (step : ∀ (i : Nat) (k : Sg → Int64 → Int32 → Option (Int64 × Sg)) (σ : Sg) (x0 : Int64) (x1 : Int32), i ≤ e → I i σ x0 x1 → (∀ (σ' : Sg) (x0' : Int64) (x1' : Int32), i < e → I (i + 1) σ' x0' x1' → P σ' x0' x1' (k σ' x0' x1')) → P σ x0 x1 (f_X9_digest_b51 k σ x0 x1)) : ∀ (n i : Nat), e - i < n → i ≤ e → ∀ (σ : Sg) (x0 : Int64) (x1 : Int32), I i σ x0 x1 → P σ x0 x1 (f_X9_digest_l51 n σ x0 x1) := by
  intro n
  induction n with
  | zero => intro i h; exact absurd h (Nat.not_lt_zero _)
  | succ n ih => intro i h hi σ x0 x1 hI; exact step i (f_X9_digest_l51 n) σ x0 x1 hi hI (fun σ' x0' x1' hlt hI2 => ih (i + 1) (by omega) hlt σ' x0' x1' hI2)
theorem i_X9_digest_l6 (e : Nat) (I : Nat → Sg → Int64 → Int32 → Prop) (P : Sg → Int64 → Int32 → Option (Int64 × Sg) → Prop) (step : ∀ (i : Nat) (k : Sg → Int64 → Int32 → Option (Int64 × Sg)) (σ : Sg) (x0 : Int64) (x1 : Int32), i ≤ e → I i σ x0 x1 → (∀ (σ' : Sg) (x0' : Int64) (x1' : Int32), i < e → I (i + 1) σ' x0' x1' → P σ' x0' x1' (k σ' x0' x1')) → P σ x0 x1 (f_X9_digest_b6 k σ x0 x1)) : ∀ (n i : Nat), e - i < n → i ≤ e → ∀ (σ : Sg) (x0 : Int64) (x1 : Int32), I i σ x0 x1 → P σ x0 x1 (f_X9_digest_l6 n σ x0 x1) := by
  intro n
  induction n with
  | zero => intro i h; exact absurd h (Nat.not_lt_zero _)
  | succ n ih => intro i h hi σ x0 x1 hI; exact step i (f_X9_digest_l6 n) σ x0 x1 hi hI (fun σ' x0' x1' hlt hI2 => ih (i + 1) (by omega) hlt σ' x0' x1' hI2)
theorem i_X10_isTaken_l6 (e : Nat) (I : Nat → Sg → Int32 → Int32 → Int32 → Int32 → Int32 → Prop) (P : Sg → Int32 → Int32 → Int32 → Int32 → Int32 → Option (Int32 × Sg) → Prop) (step : ∀ (i : Nat) (k : Sg → Int32 → Int32 → Int32 → Int32 → Int32 → Option (Int32 × Sg)) (σ : Sg) (x0 : Int32) (x1 : Int32) (x2 : Int32) (x3 : Int32) (x4 : Int32), i ≤ e → I i σ x0 x1 x2 x3 x4 → (∀ (σ' : Sg) (x0' : Int32) (x1' : Int32) (x2' : Int32) (x3' : Int32) (x4' : Int32), i < e → I (i + 1) σ' x0' x1' x2' x3' x4' → P σ' x0' x1' x2' x3' x4' (k σ' x0' x1' x2' x3' x4')) → P σ x0 x1 x2 x3 x4 (f_X10_isTaken_b6 k σ x0 x1 x2 x3 x4)) : ∀ (n i : Nat), e - i < n → i ≤ e → ∀ (σ : Sg) (x0 : Int32) (x1 : Int32) (x2 : Int32) (x3 : Int32) (x4 : Int32), I i σ x0 x1 x2 x3 x4 → P σ x0 x1 x2 x3 x4 (f_X10_isTaken_l6 n σ x0 x1 x2 x3 x4) := by
  intro n
  induction n with
  | zero => intro i h; exact absurd h (Nat.not_lt_zero _)
  | succ n ih => intro i h hi σ x0 x1 x2 x3 x4 hI; exact step i (f_X10_isTaken_l6 n) σ x0 x1 x2 x3 x4 hi hI (fun σ' x0' x1' x2' x3' x4' hlt hI2 => ih (i + 1) (by omega) hlt σ' x0' x1' x2' x3' x4' hI2)
theorem i_X10_readsParts_l48 (e : Nat) (I : Nat → Sg → Int32 → Int32 → Int32 → Int32 → Prop) (P : Sg → Int32 → Int32 → Int32 → Int32 → Option (Int32 × Sg) → Prop) (step : ∀ (i : Nat) (k : Sg → Int32 → Int32 → Int32 → Int32 → Option (Int32 × Sg)) (σ : Sg) (x0 : Int32) (x1 : Int32) (x2 : Int32) (x3 : Int32), i ≤ e → I i σ x0 x1 x2 x3 → (∀ (σ' : Sg) (x0' : Int32) (x1' : Int32) (x2' : Int32) (x3' : Int32), i < e → I (i + 1) σ' x0' x1' x2' x3' → P σ' x0' x1' x2' x3' (k σ' x0' x1' x2' x3')) → P σ x0 x1 x2 x3 (f_X10_readsParts_b48 k σ x0 x1 x2 x3)) : ∀ (n i : Nat), e - i < n → i ≤ e → ∀ (σ : Sg) (x0 : Int32) (x1 : Int32) (x2 : Int32) (x3 : Int32), I i σ x0 x1 x2 x3 → P σ x0 x1 x2 x3 (f_X10_readsParts_l48 n σ x0 x1 x2 x3) := by
  intro n
  induction n with
  | zero => intro i h; exact absurd h (Nat.not_lt_zero _)
  | succ n ih => intro i h hi σ x0 x1 x2 x3 hI; exact step i (f_X10_readsParts_l48 n) σ x0 x1 x2 x3 hi hI (fun σ' x0' x1' x2' x3' hlt hI2 => ih (i + 1) (by omega) hlt σ' x0' x1' x2' x3' hI2)
theorem i_X10_read_l32 (e : Nat) (I : Nat → Sg → Int32 → Int32 → Int32 → Prop) (P : Sg → Int32 → Int32 → Int32 → Option (Int32 × Sg) → Prop) (step : ∀ (i : Nat) (k : Sg → Int32 → Int32 → Int32 → Option (Int32 × Sg)) (σ : Sg) (x0 : Int32) (x1 : Int32) (x2 : Int32), i ≤ e → I i σ x0 x1 x2 → (∀ (σ' : Sg) (x0' : Int32) (x1' : Int32) (x2' : Int32), i < e → I (i + 1) σ' x0' x1' x2' → P σ' x0' x1' x2' (k σ' x0' x1' x2')) → P σ x0 x1 x2 (f_X10_read_b32 k σ x0 x1 x2)) : ∀ (n i : Nat), e - i < n → i ≤ e → ∀ (σ : Sg) (x0 : Int32) (x1 : Int32) (x2 : Int32), I i σ x0 x1 x2 → P σ x0 x1 x2 (f_X10_read_l32 n σ x0 x1 x2) := by
  intro n
  induction n with
  | zero => intro i h; exact absurd h (Nat.not_lt_zero _)
  | succ n ih => intro i h hi σ x0 x1 x2 hI; exact step i (f_X10_read_l32 n) σ x0 x1 x2 hi hI (fun σ' x0' x1' x2' hlt hI2 => ih (i + 1) (by omega) hlt σ' x0' x1' x2' hI2)
theorem i_X10_asTold_l14 (e : Nat) (I : Nat → Sg → Int32 → Prop) (P : Sg → Int32 → Option (Unit × Sg) → Prop) (step : ∀ (i : Nat) (k : Sg → Int32 → Option (Unit × Sg)) (σ : Sg) (x0 : Int32), i ≤ e → I i σ x0 → (∀ (σ' : Sg) (x0' : Int32), i < e → I (i + 1) σ' x0' → P σ' x0' (k σ' x0')) → P σ x0 (f_X10_asTold_b14 k σ x0)) : ∀ (n i : Nat), e - i < n → i ≤ e → ∀ (σ : Sg) (x0 : Int32), I i σ x0 → P σ x0 (f_X10_asTold_l14 n σ x0) := by
  intro n
  induction n with
  | zero => intro i h; exact absurd h (Nat.not_lt_zero _)
  | succ n ih => intro i h hi σ x0 hI; exact step i (f_X10_asTold_l14 n) σ x0 hi hI (fun σ' x0' hlt hI2 => ih (i + 1) (by omega) hlt σ' x0' hI2)
theorem i_X10_harrows_l2 (e : Nat) (I : Nat → Sg → Int32 → Int32 → Prop) (P : Sg → Int32 → Int32 → Option (Unit × Sg) → Prop) (step : ∀ (i : Nat) (k : Sg → Int32 → Int32 → Option (Unit × Sg)) (σ : Sg) (x0 : Int32) (x1 : Int32), i ≤ e → I i σ x0 x1 → (∀ (σ' : Sg) (x0' : Int32) (x1' : Int32), i < e → I (i + 1) σ' x0' x1' → P σ' x0' x1' (k σ' x0' x1')) → P σ x0 x1 (f_X10_harrows_b2 k σ x0 x1)) : ∀ (n i : Nat), e - i < n → i ≤ e → ∀ (σ : Sg) (x0 : Int32) (x1 : Int32), I i σ x0 x1 → P σ x0 x1 (f_X10_harrows_l2 n σ x0 x1) := by
  intro n
  induction n with
  | zero => intro i h; exact absurd h (Nat.not_lt_zero _)
  | succ n ih => intro i h hi σ x0 x1 hI; exact step i (f_X10_harrows_l2 n) σ x0 x1 hi hI (fun σ' x0' x1' hlt hI2 => ih (i + 1) (by omega) hlt σ' x0' x1' hI2)
theorem i_X10_wanted_l5 (e : Nat) (I : Nat → Sg → Int32 → Int32 → Int32 → Int32 → Prop) (P : Sg → Int32 → Int32 → Int32 → Int32 → Option (Int32 × Sg) → Prop) (step : ∀ (i : Nat) (k : Sg → Int32 → Int32 → Int32 → Int32 → Option (Int32 × Sg)) (σ : Sg) (x0 : Int32) (x1 : Int32) (x2 : Int32) (x3 : Int32), i ≤ e → I i σ x0 x1 x2 x3 → (∀ (σ' : Sg) (x0' : Int32) (x1' : Int32) (x2' : Int32) (x3' : Int32), i < e → I (i + 1) σ' x0' x1' x2' x3' → P σ' x0' x1' x2' x3' (k σ' x0' x1' x2' x3')) → P σ x0 x1 x2 x3 (f_X10_wanted_b5 k σ x0 x1 x2 x3)) : ∀ (n i : Nat), e - i < n → i ≤ e → ∀ (σ : Sg) (x0 : Int32) (x1 : Int32) (x2 : Int32) (x3 : Int32), I i σ x0 x1 x2 x3 → P σ x0 x1 x2 x3 (f_X10_wanted_l5 n σ x0 x1 x2 x3) := by
  intro n
  induction n with
  | zero => intro i h; exact absurd h (Nat.not_lt_zero _)
  | succ n ih => intro i h hi σ x0 x1 x2 x3 hI; exact step i (f_X10_wanted_l5 n) σ x0 x1 x2 x3 hi hI (fun σ' x0' x1' x2' x3' hlt hI2 => ih (i + 1) (by omega) hlt σ' x0' x1' x2' x3' hI2)
theorem i_X10_comesUp_l25 (e : Nat) (I : Nat → Sg → Int32 → Int32 → Int32 → Prop) (P : Sg → Int32 → Int32 → Int32 → Option (Unit × Sg) → Prop) (step : ∀ (i : Nat) (k : Sg → Int32 → Int32 → Int32 → Option (Unit × Sg)) (σ : Sg) (x0 : Int32) (x1 : Int32) (x2 : Int32), i ≤ e → I i σ x0 x1 x2 → (∀ (σ' : Sg) (x0' : Int32) (x1' : Int32) (x2' : Int32), i < e → I (i + 1) σ' x0' x1' x2' → P σ' x0' x1' x2' (k σ' x0' x1' x2')) → P σ x0 x1 x2 (f_X10_comesUp_b25 k σ x0 x1 x2)) : ∀ (n i : Nat), e - i < n → i ≤ e → ∀ (σ : Sg) (x0 : Int32) (x1 : Int32) (x2 : Int32), I i σ x0 x1 x2 → P σ x0 x1 x2 (f_X10_comesUp_l25 n σ x0 x1 x2) := by
  intro n
  induction n with
  | zero => intro i h; exact absurd h (Nat.not_lt_zero _)
  | succ n ih => intro i h hi σ x0 x1 x2 hI; exact step i (f_X10_comesUp_l25 n) σ x0 x1 x2 hi hI (fun σ' x0' x1' x2' hlt hI2 => ih (i + 1) (by omega) hlt σ' x0' x1' x2' hI2)
theorem i_X10_ploughs_l18 (k8 : Sg → Int32 → Int32 → Int32 → Int32 → Int32 → Option (Unit × Sg)) (e : Nat) (I : Nat → Sg → Int32 → Int32 → Int32 → Int32 → Int32 → Int32 → Prop) (P : Sg → Int32 → Int32 → Int32 → Int32 → Int32 → Int32 → Option (Unit × Sg) → Prop) (step : ∀ (i : Nat) (k : Sg → Int32 → Int32 → Int32 → Int32 → Int32 → Int32 → Option (Unit × Sg)) (σ : Sg) (x0 : Int32) (x1 : Int32) (x2 : Int32) (x3 : Int32) (x4 : Int32) (x5 : Int32), i ≤ e → I i σ x0 x1 x2 x3 x4 x5 → (∀ (σ' : Sg) (x0' : Int32) (x1' : Int32) (x2' : Int32) (x3' : Int32) (x4' : Int32) (x5' : Int32), i < e → I (i + 1) σ' x0' x1' x2' x3' x4' x5' → P σ' x0' x1' x2' x3' x4' x5' (k σ' x0' x1' x2' x3' x4' x5')) → P σ x0 x1 x2 x3 x4 x5 (f_X10_ploughs_b18 k8 k σ x0 x1 x2 x3 x4 x5)) : ∀ (n i : Nat), e - i < n → i ≤ e → ∀ (σ : Sg) (x0 : Int32) (x1 : Int32) (x2 : Int32) (x3 : Int32) (x4 : Int32) (x5 : Int32), I i σ x0 x1 x2 x3 x4 x5 → P σ x0 x1 x2 x3 x4 x5 (f_X10_ploughs_l18 k8 n σ x0 x1 x2 x3 x4 x5) := by
  intro n
  induction n with
  | zero => intro i h; exact absurd h (Nat.not_lt_zero _)
  | succ n ih => intro i h hi σ x0 x1 x2 x3 x4 x5 hI; exact step i (f_X10_ploughs_l18 k8 n) σ x0 x1 x2 x3 x4 x5 hi hI (fun σ' x0' x1' x2' x3' x4' x5' hlt hI2 => ih (i + 1) (by omega) hlt σ' x0' x1' x2' x3' x4' x5' hI2)
theorem i_X10_ploughs_l8 (e : Nat) (I : Nat → Sg → Int32 → Int32 → Int32 → Int32 → Int32 → Prop) (P : Sg → Int32 → Int32 → Int32 → Int32 → Int32 → Option (Unit × Sg) → Prop) (step : ∀ (i : Nat) (k : Sg → Int32 → Int32 → Int32 → Int32 → Int32 → Option (Unit × Sg)) (σ : Sg) (x0 : Int32) (x1 : Int32) (x2 : Int32) (x3 : Int32) (x4 : Int32), i ≤ e → I i σ x0 x1 x2 x3 x4 → (∀ (σ' : Sg) (x0' : Int32) (x1' : Int32) (x2' : Int32) (x3' : Int32) (x4' : Int32), i < e → I (i + 1) σ' x0' x1' x2' x3' x4' → P σ' x0' x1' x2' x3' x4' (k σ' x0' x1' x2' x3' x4')) → P σ x0 x1 x2 x3 x4 (f_X10_ploughs_b8 k σ x0 x1 x2 x3 x4)) : ∀ (n i : Nat), e - i < n → i ≤ e → ∀ (σ : Sg) (x0 : Int32) (x1 : Int32) (x2 : Int32) (x3 : Int32) (x4 : Int32), I i σ x0 x1 x2 x3 x4 → P σ x0 x1 x2 x3 x4 (f_X10_ploughs_l8 n σ x0 x1 x2 x3 x4) := by
  intro n
  induction n with
  | zero => intro i h; exact absurd h (Nat.not_lt_zero _)
  | succ n ih => intro i h hi σ x0 x1 x2 x3 x4 hI; exact step i (f_X10_ploughs_l8 n) σ x0 x1 x2 x3 x4 hi hI (fun σ' x0' x1' x2' x3' x4' hlt hI2 => ih (i + 1) (by omega) hlt σ' x0' x1' x2' x3' x4' hI2)
theorem i_X10_goesBy_l128 (e : Nat) (I : Nat → Sg → Int32 → Int32 → Prop) (P : Sg → Int32 → Int32 → Option (Unit × Sg) → Prop) (step : ∀ (i : Nat) (k : Sg → Int32 → Int32 → Option (Unit × Sg)) (σ : Sg) (x0 : Int32) (x1 : Int32), i ≤ e → I i σ x0 x1 → (∀ (σ' : Sg) (x0' : Int32) (x1' : Int32), i < e → I (i + 1) σ' x0' x1' → P σ' x0' x1' (k σ' x0' x1')) → P σ x0 x1 (f_X10_goesBy_b128 k σ x0 x1)) : ∀ (n i : Nat), e - i < n → i ≤ e → ∀ (σ : Sg) (x0 : Int32) (x1 : Int32), I i σ x0 x1 → P σ x0 x1 (f_X10_goesBy_l128 n σ x0 x1) := by
  intro n
  induction n with
  | zero => intro i h; exact absurd h (Nat.not_lt_zero _)
  | succ n ih => intro i h hi σ x0 x1 hI; exact step i (f_X10_goesBy_l128 n) σ x0 x1 hi hI (fun σ' x0' x1' hlt hI2 => ih (i + 1) (by omega) hlt σ' x0' x1' hI2)
theorem i_X10_goesBy_l89 (e : Nat) (I : Nat → Sg → Int32 → Int32 → Prop) (P : Sg → Int32 → Int32 → Option (Unit × Sg) → Prop) (step : ∀ (i : Nat) (k : Sg → Int32 → Int32 → Option (Unit × Sg)) (σ : Sg) (x0 : Int32) (x1 : Int32), i ≤ e → I i σ x0 x1 → (∀ (σ' : Sg) (x0' : Int32) (x1' : Int32), i < e → I (i + 1) σ' x0' x1' → P σ' x0' x1' (k σ' x0' x1')) → P σ x0 x1 (f_X10_goesBy_b89 k σ x0 x1)) : ∀ (n i : Nat), e - i < n → i ≤ e → ∀ (σ : Sg) (x0 : Int32) (x1 : Int32), I i σ x0 x1 → P σ x0 x1 (f_X10_goesBy_l89 n σ x0 x1) := by
  intro n
  induction n with
  | zero => intro i h; exact absurd h (Nat.not_lt_zero _)
  | succ n ih => intro i h hi σ x0 x1 hI; exact step i (f_X10_goesBy_l89 n) σ x0 x1 hi hI (fun σ' x0' x1' hlt hI2 => ih (i + 1) (by omega) hlt σ' x0' x1' hI2)
theorem i_X10_goesBy_l2 (e : Nat) (I : Nat → Sg → Int32 → Int32 → Prop) (P : Sg → Int32 → Int32 → Option (Unit × Sg) → Prop) (step : ∀ (i : Nat) (k : Sg → Int32 → Int32 → Option (Unit × Sg)) (σ : Sg) (x0 : Int32) (x1 : Int32), i ≤ e → I i σ x0 x1 → (∀ (σ' : Sg) (x0' : Int32) (x1' : Int32), i < e → I (i + 1) σ' x0' x1' → P σ' x0' x1' (k σ' x0' x1')) → P σ x0 x1 (f_X10_goesBy_b2 k σ x0 x1)) : ∀ (n i : Nat), e - i < n → i ≤ e → ∀ (σ : Sg) (x0 : Int32) (x1 : Int32), I i σ x0 x1 → P σ x0 x1 (f_X10_goesBy_l2 n σ x0 x1) := by
  intro n
  induction n with
  | zero => intro i h; exact absurd h (Nat.not_lt_zero _)
  | succ n ih => intro i h hi σ x0 x1 hI; exact step i (f_X10_goesBy_l2 n) σ x0 x1 hi hI (fun σ' x0' x1' hlt hI2 => ih (i + 1) (by omega) hlt σ' x0' x1' hI2)
theorem i_X10_runs_l50 (e : Nat) (I : Nat → Sg → Int32 → Prop) (P : Sg → Int32 → Option (Unit × Sg) → Prop) (step : ∀ (i : Nat) (k : Sg → Int32 → Option (Unit × Sg)) (σ : Sg) (x0 : Int32), i ≤ e → I i σ x0 → (∀ (σ' : Sg) (x0' : Int32), i < e → I (i + 1) σ' x0' → P σ' x0' (k σ' x0')) → P σ x0 (f_X10_runs_b50 k σ x0)) : ∀ (n i : Nat), e - i < n → i ≤ e → ∀ (σ : Sg) (x0 : Int32), I i σ x0 → P σ x0 (f_X10_runs_l50 n σ x0) := by
  intro n
  induction n with
  | zero => intro i h; exact absurd h (Nat.not_lt_zero _)
  | succ n ih => intro i h hi σ x0 hI; exact step i (f_X10_runs_l50 n) σ x0 hi hI (fun σ' x0' hlt hI2 => ih (i + 1) (by omega) hlt σ' x0' hI2)
theorem i_X10_runs_l2 (e : Nat) (I : Nat → Sg → Int32 → Prop) (P : Sg → Int32 → Option (Unit × Sg) → Prop) (step : ∀ (i : Nat) (k : Sg → Int32 → Option (Unit × Sg)) (σ : Sg) (x0 : Int32), i ≤ e → I i σ x0 → (∀ (σ' : Sg) (x0' : Int32), i < e → I (i + 1) σ' x0' → P σ' x0' (k σ' x0')) → P σ x0 (f_X10_runs_b2 k σ x0)) : ∀ (n i : Nat), e - i < n → i ≤ e → ∀ (σ : Sg) (x0 : Int32), I i σ x0 → P σ x0 (f_X10_runs_l2 n σ x0) := by
  intro n
  induction n with
  | zero => intro i h; exact absurd h (Nat.not_lt_zero _)
  | succ n ih => intro i h hi σ x0 hI; exact step i (f_X10_runs_l2 n) σ x0 hi hI (fun σ' x0' hlt hI2 => ih (i + 1) (by omega) hlt σ' x0' hI2)
theorem i_X10_fieldOf_l10 (e : Nat) (I : Nat → Sg → Int32 → Int32 → Int32 → Int32 → Int32 → Prop) (P : Sg → Int32 → Int32 → Int32 → Int32 → Int32 → Option (Int32 × Sg) → Prop) (step : ∀ (i : Nat) (k : Sg → Int32 → Int32 → Int32 → Int32 → Int32 → Option (Int32 × Sg)) (σ : Sg) (x0 : Int32) (x1 : Int32) (x2 : Int32) (x3 : Int32) (x4 : Int32), i ≤ e → I i σ x0 x1 x2 x3 x4 → (∀ (σ' : Sg) (x0' : Int32) (x1' : Int32) (x2' : Int32) (x3' : Int32) (x4' : Int32), i < e → I (i + 1) σ' x0' x1' x2' x3' x4' → P σ' x0' x1' x2' x3' x4' (k σ' x0' x1' x2' x3' x4')) → P σ x0 x1 x2 x3 x4 (f_X10_fieldOf_b10 k σ x0 x1 x2 x3 x4)) : ∀ (n i : Nat), e - i < n → i ≤ e → ∀ (σ : Sg) (x0 : Int32) (x1 : Int32) (x2 : Int32) (x3 : Int32) (x4 : Int32), I i σ x0 x1 x2 x3 x4 → P σ x0 x1 x2 x3 x4 (f_X10_fieldOf_l10 n σ x0 x1 x2 x3 x4) := by
  intro n
  induction n with
  | zero => intro i h; exact absurd h (Nat.not_lt_zero _)
  | succ n ih => intro i h hi σ x0 x1 x2 x3 x4 hI; exact step i (f_X10_fieldOf_l10 n) σ x0 x1 x2 x3 x4 hi hI (fun σ' x0' x1' x2' x3' x4' hlt hI2 => ih (i + 1) (by omega) hlt σ' x0' x1' x2' x3' x4' hI2)
theorem i_X10_many_l4 (e : Nat) (I : Nat → Sg → Int32 → Int32 → Int32 → Prop) (P : Sg → Int32 → Int32 → Int32 → Option (Int32 × Sg) → Prop) (step : ∀ (i : Nat) (k : Sg → Int32 → Int32 → Int32 → Option (Int32 × Sg)) (σ : Sg) (x0 : Int32) (x1 : Int32) (x2 : Int32), i ≤ e → I i σ x0 x1 x2 → (∀ (σ' : Sg) (x0' : Int32) (x1' : Int32) (x2' : Int32), i < e → I (i + 1) σ' x0' x1' x2' → P σ' x0' x1' x2' (k σ' x0' x1' x2')) → P σ x0 x1 x2 (f_X10_many_b4 k σ x0 x1 x2)) : ∀ (n i : Nat), e - i < n → i ≤ e → ∀ (σ : Sg) (x0 : Int32) (x1 : Int32) (x2 : Int32), I i σ x0 x1 x2 → P σ x0 x1 x2 (f_X10_many_l4 n σ x0 x1 x2) := by
  intro n
  induction n with
  | zero => intro i h; exact absurd h (Nat.not_lt_zero _)
  | succ n ih => intro i h hi σ x0 x1 x2 hI; exact step i (f_X10_many_l4 n) σ x0 x1 x2 hi hI (fun σ' x0' x1' x2' hlt hI2 => ih (i + 1) (by omega) hlt σ' x0' x1' x2' hI2)
theorem i_X10_stoodNow_l4 (e : Nat) (I : Nat → Sg → Int32 → Int32 → Int32 → Prop) (P : Sg → Int32 → Int32 → Int32 → Option (Int32 × Sg) → Prop) (step : ∀ (i : Nat) (k : Sg → Int32 → Int32 → Int32 → Option (Int32 × Sg)) (σ : Sg) (x0 : Int32) (x1 : Int32) (x2 : Int32), i ≤ e → I i σ x0 x1 x2 → (∀ (σ' : Sg) (x0' : Int32) (x1' : Int32) (x2' : Int32), i < e → I (i + 1) σ' x0' x1' x2' → P σ' x0' x1' x2' (k σ' x0' x1' x2')) → P σ x0 x1 x2 (f_X10_stoodNow_b4 k σ x0 x1 x2)) : ∀ (n i : Nat), e - i < n → i ≤ e → ∀ (σ : Sg) (x0 : Int32) (x1 : Int32) (x2 : Int32), I i σ x0 x1 x2 → P σ x0 x1 x2 (f_X10_stoodNow_l4 n σ x0 x1 x2) := by
  intro n
  induction n with
  | zero => intro i h; exact absurd h (Nat.not_lt_zero _)
  | succ n ih => intro i h hi σ x0 x1 x2 hI; exact step i (f_X10_stoodNow_l4 n) σ x0 x1 x2 hi hI (fun σ' x0' x1' x2' hlt hI2 => ih (i + 1) (by omega) hlt σ' x0' x1' x2' hI2)
theorem i_X10_gateOf_l10 (e : Nat) (I : Nat → Sg → Int32 → Int32 → Int32 → Prop) (P : Sg → Int32 → Int32 → Int32 → Option (Int32 × Sg) → Prop) (step : ∀ (i : Nat) (k : Sg → Int32 → Int32 → Int32 → Option (Int32 × Sg)) (σ : Sg) (x0 : Int32) (x1 : Int32) (x2 : Int32), i ≤ e → I i σ x0 x1 x2 → (∀ (σ' : Sg) (x0' : Int32) (x1' : Int32) (x2' : Int32), i < e → I (i + 1) σ' x0' x1' x2' → P σ' x0' x1' x2' (k σ' x0' x1' x2')) → P σ x0 x1 x2 (f_X10_gateOf_b10 k σ x0 x1 x2)) : ∀ (n i : Nat), e - i < n → i ≤ e → ∀ (σ : Sg) (x0 : Int32) (x1 : Int32) (x2 : Int32), I i σ x0 x1 x2 → P σ x0 x1 x2 (f_X10_gateOf_l10 n σ x0 x1 x2) := by
  intro n
  induction n with
  | zero => intro i h; exact absurd h (Nat.not_lt_zero _)
  | succ n ih => intro i h hi σ x0 x1 x2 hI; exact step i (f_X10_gateOf_l10 n) σ x0 x1 x2 hi hI (fun σ' x0' x1' x2' hlt hI2 => ih (i + 1) (by omega) hlt σ' x0' x1' x2' hI2)
theorem i_X10_restOf_l8 (e : Nat) (I : Nat → Sg → Int32 → Int32 → Prop) (P : Sg → Int32 → Int32 → Option (Int32 × Sg) → Prop) (step : ∀ (i : Nat) (k : Sg → Int32 → Int32 → Option (Int32 × Sg)) (σ : Sg) (x0 : Int32) (x1 : Int32), i ≤ e → I i σ x0 x1 → (∀ (σ' : Sg) (x0' : Int32) (x1' : Int32), i < e → I (i + 1) σ' x0' x1' → P σ' x0' x1' (k σ' x0' x1')) → P σ x0 x1 (f_X10_restOf_b8 k σ x0 x1)) : ∀ (n i : Nat), e - i < n → i ≤ e → ∀ (σ : Sg) (x0 : Int32) (x1 : Int32), I i σ x0 x1 → P σ x0 x1 (f_X10_restOf_l8 n σ x0 x1) := by
  intro n
  induction n with
  | zero => intro i h; exact absurd h (Nat.not_lt_zero _)
  | succ n ih => intro i h hi σ x0 x1 hI; exact step i (f_X10_restOf_l8 n) σ x0 x1 hi hI (fun σ' x0' x1' hlt hI2 => ih (i + 1) (by omega) hlt σ' x0' x1' hI2)
theorem i_X10_metNow_l4 (e : Nat) (I : Nat → Sg → Int32 → Int32 → Prop) (P : Sg → Int32 → Int32 → Option (Int32 × Sg) → Prop) (step : ∀ (i : Nat) (k : Sg → Int32 → Int32 → Option (Int32 × Sg)) (σ : Sg) (x0 : Int32) (x1 : Int32), i ≤ e → I i σ x0 x1 → (∀ (σ' : Sg) (x0' : Int32) (x1' : Int32), i < e → I (i + 1) σ' x0' x1' → P σ' x0' x1' (k σ' x0' x1')) → P σ x0 x1 (f_X10_metNow_b4 k σ x0 x1)) : ∀ (n i : Nat), e - i < n → i ≤ e → ∀ (σ : Sg) (x0 : Int32) (x1 : Int32), I i σ x0 x1 → P σ x0 x1 (f_X10_metNow_l4 n σ x0 x1) := by
  intro n
  induction n with
  | zero => intro i h; exact absurd h (Nat.not_lt_zero _)
  | succ n ih => intro i h hi σ x0 x1 hI; exact step i (f_X10_metNow_l4 n) σ x0 x1 hi hI (fun σ' x0' x1' hlt hI2 => ih (i + 1) (by omega) hlt σ' x0' x1' hI2)
theorem i_X10_ploughOf_l12 (e : Nat) (I : Nat → Sg → Int32 → Int32 → Int32 → Int32 → Int32 → Prop) (P : Sg → Int32 → Int32 → Int32 → Int32 → Int32 → Option (Int32 × Sg) → Prop) (step : ∀ (i : Nat) (k : Sg → Int32 → Int32 → Int32 → Int32 → Int32 → Option (Int32 × Sg)) (σ : Sg) (x0 : Int32) (x1 : Int32) (x2 : Int32) (x3 : Int32) (x4 : Int32), i ≤ e → I i σ x0 x1 x2 x3 x4 → (∀ (σ' : Sg) (x0' : Int32) (x1' : Int32) (x2' : Int32) (x3' : Int32) (x4' : Int32), i < e → I (i + 1) σ' x0' x1' x2' x3' x4' → P σ' x0' x1' x2' x3' x4' (k σ' x0' x1' x2' x3' x4')) → P σ x0 x1 x2 x3 x4 (f_X10_ploughOf_b12 k σ x0 x1 x2 x3 x4)) : ∀ (n i : Nat), e - i < n → i ≤ e → ∀ (σ : Sg) (x0 : Int32) (x1 : Int32) (x2 : Int32) (x3 : Int32) (x4 : Int32), I i σ x0 x1 x2 x3 x4 → P σ x0 x1 x2 x3 x4 (f_X10_ploughOf_l12 n σ x0 x1 x2 x3 x4) := by
  intro n
  induction n with
  | zero => intro i h; exact absurd h (Nat.not_lt_zero _)
  | succ n ih => intro i h hi σ x0 x1 x2 x3 x4 hI; exact step i (f_X10_ploughOf_l12 n) σ x0 x1 x2 x3 x4 hi hI (fun σ' x0' x1' x2' x3' x4' hlt hI2 => ih (i + 1) (by omega) hlt σ' x0' x1' x2' x3' x4' hI2)
theorem i_X10_isOther_l6 (e : Nat) (I : Nat → Sg → Int32 → Int32 → Int32 → Int32 → Int32 → Prop) (P : Sg → Int32 → Int32 → Int32 → Int32 → Int32 → Option (Int32 × Sg) → Prop) (step : ∀ (i : Nat) (k : Sg → Int32 → Int32 → Int32 → Int32 → Int32 → Option (Int32 × Sg)) (σ : Sg) (x0 : Int32) (x1 : Int32) (x2 : Int32) (x3 : Int32) (x4 : Int32), i ≤ e → I i σ x0 x1 x2 x3 x4 → (∀ (σ' : Sg) (x0' : Int32) (x1' : Int32) (x2' : Int32) (x3' : Int32) (x4' : Int32), i < e → I (i + 1) σ' x0' x1' x2' x3' x4' → P σ' x0' x1' x2' x3' x4' (k σ' x0' x1' x2' x3' x4')) → P σ x0 x1 x2 x3 x4 (f_X10_isOther_b6 k σ x0 x1 x2 x3 x4)) : ∀ (n i : Nat), e - i < n → i ≤ e → ∀ (σ : Sg) (x0 : Int32) (x1 : Int32) (x2 : Int32) (x3 : Int32) (x4 : Int32), I i σ x0 x1 x2 x3 x4 → P σ x0 x1 x2 x3 x4 (f_X10_isOther_l6 n σ x0 x1 x2 x3 x4) := by
  intro n
  induction n with
  | zero => intro i h; exact absurd h (Nat.not_lt_zero _)
  | succ n ih => intro i h hi σ x0 x1 x2 x3 x4 hI; exact step i (f_X10_isOther_l6 n) σ x0 x1 x2 x3 x4 hi hI (fun σ' x0' x1' x2' x3' x4' hlt hI2 => ih (i + 1) (by omega) hlt σ' x0' x1' x2' x3' x4' hI2)
theorem i_X10_lieOf_l28 (e : Nat) (I : Nat → Sg → Int32 → Int32 → Int32 → Int32 → Int32 → Int32 → Int32 → Prop) (P : Sg → Int32 → Int32 → Int32 → Int32 → Int32 → Int32 → Int32 → Option (Int32 × Sg) → Prop) (step : ∀ (i : Nat) (k : Sg → Int32 → Int32 → Int32 → Int32 → Int32 → Int32 → Int32 → Option (Int32 × Sg)) (σ : Sg) (x0 : Int32) (x1 : Int32) (x2 : Int32) (x3 : Int32) (x4 : Int32) (x5 : Int32) (x6 : Int32), i ≤ e → I i σ x0 x1 x2 x3 x4 x5 x6 → (∀ (σ' : Sg) (x0' : Int32) (x1' : Int32) (x2' : Int32) (x3' : Int32) (x4' : Int32) (x5' : Int32) (x6' : Int32), i < e → I (i + 1) σ' x0' x1' x2' x3' x4' x5' x6' → P σ' x0' x1' x2' x3' x4' x5' x6' (k σ' x0' x1' x2' x3' x4' x5' x6')) → P σ x0 x1 x2 x3 x4 x5 x6 (f_X10_lieOf_b28 k σ x0 x1 x2 x3 x4 x5 x6)) : ∀ (n i : Nat), e - i < n → i ≤ e → ∀ (σ : Sg) (x0 : Int32) (x1 : Int32) (x2 : Int32) (x3 : Int32) (x4 : Int32) (x5 : Int32) (x6 : Int32), I i σ x0 x1 x2 x3 x4 x5 x6 → P σ x0 x1 x2 x3 x4 x5 x6 (f_X10_lieOf_l28 n σ x0 x1 x2 x3 x4 x5 x6) := by
  intro n
  induction n with
  | zero => intro i h; exact absurd h (Nat.not_lt_zero _)
  | succ n ih => intro i h hi σ x0 x1 x2 x3 x4 x5 x6 hI; exact step i (f_X10_lieOf_l28 n) σ x0 x1 x2 x3 x4 x5 x6 hi hI (fun σ' x0' x1' x2' x3' x4' x5' x6' hlt hI2 => ih (i + 1) (by omega) hlt σ' x0' x1' x2' x3' x4' x5' x6' hI2)
theorem i_X10_whenOf_l12 (e : Nat) (I : Nat → Sg → Int32 → Int32 → Int32 → Int32 → Int32 → Prop) (P : Sg → Int32 → Int32 → Int32 → Int32 → Int32 → Option (Int32 × Sg) → Prop) (step : ∀ (i : Nat) (k : Sg → Int32 → Int32 → Int32 → Int32 → Int32 → Option (Int32 × Sg)) (σ : Sg) (x0 : Int32) (x1 : Int32) (x2 : Int32) (x3 : Int32) (x4 : Int32), i ≤ e → I i σ x0 x1 x2 x3 x4 → (∀ (σ' : Sg) (x0' : Int32) (x1' : Int32) (x2' : Int32) (x3' : Int32) (x4' : Int32), i < e → I (i + 1) σ' x0' x1' x2' x3' x4' → P σ' x0' x1' x2' x3' x4' (k σ' x0' x1' x2' x3' x4')) → P σ x0 x1 x2 x3 x4 (f_X10_whenOf_b12 k σ x0 x1 x2 x3 x4)) : ∀ (n i : Nat), e - i < n → i ≤ e → ∀ (σ : Sg) (x0 : Int32) (x1 : Int32) (x2 : Int32) (x3 : Int32) (x4 : Int32), I i σ x0 x1 x2 x3 x4 → P σ x0 x1 x2 x3 x4 (f_X10_whenOf_l12 n σ x0 x1 x2 x3 x4) := by
  intro n
  induction n with
  | zero => intro i h; exact absurd h (Nat.not_lt_zero _)
  | succ n ih => intro i h hi σ x0 x1 x2 x3 x4 hI; exact step i (f_X10_whenOf_l12 n) σ x0 x1 x2 x3 x4 hi hI (fun σ' x0' x1' x2' x3' x4' hlt hI2 => ih (i + 1) (by omega) hlt σ' x0' x1' x2' x3' x4' hI2)
theorem i_X10_spareBy_l63 (k51 : Sg → Int32 → Option (Int32 × Sg)) (e : Nat) (I : Nat → Sg → Int32 → Int32 → Prop) (P : Sg → Int32 → Int32 → Option (Int32 × Sg) → Prop) (step : ∀ (i : Nat) (k : Sg → Int32 → Int32 → Option (Int32 × Sg)) (σ : Sg) (x0 : Int32) (x1 : Int32), i ≤ e → I i σ x0 x1 → (∀ (σ' : Sg) (x0' : Int32) (x1' : Int32), i < e → I (i + 1) σ' x0' x1' → P σ' x0' x1' (k σ' x0' x1')) → P σ x0 x1 (f_X10_spareBy_b63 k51 k σ x0 x1)) : ∀ (n i : Nat), e - i < n → i ≤ e → ∀ (σ : Sg) (x0 : Int32) (x1 : Int32), I i σ x0 x1 → P σ x0 x1 (f_X10_spareBy_l63 k51 n σ x0 x1) := by
  intro n
  induction n with
  | zero => intro i h; exact absurd h (Nat.not_lt_zero _)
  | succ n ih => intro i h hi σ x0 x1 hI; exact step i (f_X10_spareBy_l63 k51 n) σ x0 x1 hi hI (fun σ' x0' x1' hlt hI2 => ih (i + 1) (by omega) hlt σ' x0' x1' hI2)
theorem i_X10_spareBy_l51 (e : Nat) (I : Nat → Sg → Int32 → Prop) (P : Sg → Int32 → Option (Int32 × Sg) → Prop) (step : ∀ (i : Nat) (k : Sg → Int32 → Option (Int32 × Sg)) (σ : Sg) (x0 : Int32), i ≤ e → I i σ x0 → (∀ (σ' : Sg) (x0' : Int32), i < e → I (i + 1) σ' x0' → P σ' x0' (k σ' x0')) → P σ x0 (f_X10_spareBy_b51 k σ x0)) : ∀ (n i : Nat), e - i < n → i ≤ e → ∀ (σ : Sg) (x0 : Int32), I i σ x0 → P σ x0 (f_X10_spareBy_l51 n σ x0) := by
  intro n
  induction n with
  | zero => intro i h; exact absurd h (Nat.not_lt_zero _)
  | succ n ih => intro i h hi σ x0 hI; exact step i (f_X10_spareBy_l51 n) σ x0 hi hI (fun σ' x0' hlt hI2 => ih (i + 1) (by omega) hlt σ' x0' hI2)
theorem i_X10_spareBy_l16 (e : Nat) (I : Nat → Sg → Int32 → Prop) (P : Sg → Int32 → Option (Int32 × Sg) → Prop) (step : ∀ (i : Nat) (k : Sg → Int32 → Option (Int32 × Sg)) (σ : Sg) (x0 : Int32), i ≤ e → I i σ x0 → (∀ (σ' : Sg) (x0' : Int32), i < e → I (i + 1) σ' x0' → P σ' x0' (k σ' x0')) → P σ x0 (f_X10_spareBy_b16 k σ x0)) : ∀ (n i : Nat), e - i < n → i ≤ e → ∀ (σ : Sg) (x0 : Int32), I i σ x0 → P σ x0 (f_X10_spareBy_l16 n σ x0) := by
  intro n
  induction n with
  | zero => intro i h; exact absurd h (Nat.not_lt_zero _)
  | succ n ih => intro i h hi σ x0 hI; exact step i (f_X10_spareBy_l16 n) σ x0 hi hI (fun σ' x0' hlt hI2 => ih (i + 1) (by omega) hlt σ' x0' hI2)
theorem i_X10_isSeen_l8 (e : Nat) (I : Nat → Sg → Int32 → Int32 → Prop) (P : Sg → Int32 → Int32 → Option (Int32 × Sg) → Prop) (step : ∀ (i : Nat) (k : Sg → Int32 → Int32 → Option (Int32 × Sg)) (σ : Sg) (x0 : Int32) (x1 : Int32), i ≤ e → I i σ x0 x1 → (∀ (σ' : Sg) (x0' : Int32) (x1' : Int32), i < e → I (i + 1) σ' x0' x1' → P σ' x0' x1' (k σ' x0' x1')) → P σ x0 x1 (f_X10_isSeen_b8 k σ x0 x1)) : ∀ (n i : Nat), e - i < n → i ≤ e → ∀ (σ : Sg) (x0 : Int32) (x1 : Int32), I i σ x0 x1 → P σ x0 x1 (f_X10_isSeen_l8 n σ x0 x1) := by
  intro n
  induction n with
  | zero => intro i h; exact absurd h (Nat.not_lt_zero _)
  | succ n ih => intro i h hi σ x0 x1 hI; exact step i (f_X10_isSeen_l8 n) σ x0 x1 hi hI (fun σ' x0' x1' hlt hI2 => ih (i + 1) (by omega) hlt σ' x0' x1' hI2)
theorem i_X10_neverNow_l8 (e : Nat) (I : Nat → Sg → Int32 → Int32 → Prop) (P : Sg → Int32 → Int32 → Option (Int32 × Sg) → Prop) (step : ∀ (i : Nat) (k : Sg → Int32 → Int32 → Option (Int32 × Sg)) (σ : Sg) (x0 : Int32) (x1 : Int32), i ≤ e → I i σ x0 x1 → (∀ (σ' : Sg) (x0' : Int32) (x1' : Int32), i < e → I (i + 1) σ' x0' x1' → P σ' x0' x1' (k σ' x0' x1')) → P σ x0 x1 (f_X10_neverNow_b8 k σ x0 x1)) : ∀ (n i : Nat), e - i < n → i ≤ e → ∀ (σ : Sg) (x0 : Int32) (x1 : Int32), I i σ x0 x1 → P σ x0 x1 (f_X10_neverNow_l8 n σ x0 x1) := by
  intro n
  induction n with
  | zero => intro i h; exact absurd h (Nat.not_lt_zero _)
  | succ n ih => intro i h hi σ x0 x1 hI; exact step i (f_X10_neverNow_l8 n) σ x0 x1 hi hI (fun σ' x0' x1' hlt hI2 => ih (i + 1) (by omega) hlt σ' x0' x1' hI2)
theorem i_X10_farsBy_l52 (k16 : Sg → Int32 → Int32 → Int32 → Int32 → Option (Int32 × Sg)) (e : Nat) (I : Nat → Sg → Int32 → Int32 → Int32 → Int32 → Int32 → Prop) (P : Sg → Int32 → Int32 → Int32 → Int32 → Int32 → Option (Int32 × Sg) → Prop) (step : ∀ (i : Nat) (k : Sg → Int32 → Int32 → Int32 → Int32 → Int32 → Option (Int32 × Sg)) (σ : Sg) (x0 : Int32) (x1 : Int32) (x2 : Int32) (x3 : Int32) (x4 : Int32), i ≤ e → I i σ x0 x1 x2 x3 x4 → (∀ (σ' : Sg) (x0' : Int32) (x1' : Int32) (x2' : Int32) (x3' : Int32) (x4' : Int32), i < e → I (i + 1) σ' x0' x1' x2' x3' x4' → P σ' x0' x1' x2' x3' x4' (k σ' x0' x1' x2' x3' x4')) → P σ x0 x1 x2 x3 x4 (f_X10_farsBy_b52 k16 k σ x0 x1 x2 x3 x4)) : ∀ (n i : Nat), e - i < n → i ≤ e → ∀ (σ : Sg) (x0 : Int32) (x1 : Int32) (x2 : Int32) (x3 : Int32) (x4 : Int32), I i σ x0 x1 x2 x3 x4 → P σ x0 x1 x2 x3 x4 (f_X10_farsBy_l52 k16 n σ x0 x1 x2 x3 x4) := by
  intro n
  induction n with
  | zero => intro i h; exact absurd h (Nat.not_lt_zero _)
  | succ n ih => intro i h hi σ x0 x1 x2 x3 x4 hI; exact step i (f_X10_farsBy_l52 k16 n) σ x0 x1 x2 x3 x4 hi hI (fun σ' x0' x1' x2' x3' x4' hlt hI2 => ih (i + 1) (by omega) hlt σ' x0' x1' x2' x3' x4' hI2)
theorem i_X10_farsBy_l16 (e : Nat) (I : Nat → Sg → Int32 → Int32 → Int32 → Int32 → Prop) (P : Sg → Int32 → Int32 → Int32 → Int32 → Option (Int32 × Sg) → Prop) (step : ∀ (i : Nat) (k : Sg → Int32 → Int32 → Int32 → Int32 → Option (Int32 × Sg)) (σ : Sg) (x0 : Int32) (x1 : Int32) (x2 : Int32) (x3 : Int32), i ≤ e → I i σ x0 x1 x2 x3 → (∀ (σ' : Sg) (x0' : Int32) (x1' : Int32) (x2' : Int32) (x3' : Int32), i < e → I (i + 1) σ' x0' x1' x2' x3' → P σ' x0' x1' x2' x3' (k σ' x0' x1' x2' x3')) → P σ x0 x1 x2 x3 (f_X10_farsBy_b16 k σ x0 x1 x2 x3)) : ∀ (n i : Nat), e - i < n → i ≤ e → ∀ (σ : Sg) (x0 : Int32) (x1 : Int32) (x2 : Int32) (x3 : Int32), I i σ x0 x1 x2 x3 → P σ x0 x1 x2 x3 (f_X10_farsBy_l16 n σ x0 x1 x2 x3) := by
  intro n
  induction n with
  | zero => intro i h; exact absurd h (Nat.not_lt_zero _)
  | succ n ih => intro i h hi σ x0 x1 x2 x3 hI; exact step i (f_X10_farsBy_l16 n) σ x0 x1 x2 x3 hi hI (fun σ' x0' x1' x2' x3' hlt hI2 => ih (i + 1) (by omega) hlt σ' x0' x1' x2' x3' hI2)
theorem i_X10_sortsBy_l16 (e : Nat) (I : Nat → Sg → Int32 → Int32 → Int32 → Int32 → Prop) (P : Sg → Int32 → Int32 → Int32 → Int32 → Option (Int32 × Sg) → Prop) (step : ∀ (i : Nat) (k : Sg → Int32 → Int32 → Int32 → Int32 → Option (Int32 × Sg)) (σ : Sg) (x0 : Int32) (x1 : Int32) (x2 : Int32) (x3 : Int32), i ≤ e → I i σ x0 x1 x2 x3 → (∀ (σ' : Sg) (x0' : Int32) (x1' : Int32) (x2' : Int32) (x3' : Int32), i < e → I (i + 1) σ' x0' x1' x2' x3' → P σ' x0' x1' x2' x3' (k σ' x0' x1' x2' x3')) → P σ x0 x1 x2 x3 (f_X10_sortsBy_b16 k σ x0 x1 x2 x3)) : ∀ (n i : Nat), e - i < n → i ≤ e → ∀ (σ : Sg) (x0 : Int32) (x1 : Int32) (x2 : Int32) (x3 : Int32), I i σ x0 x1 x2 x3 → P σ x0 x1 x2 x3 (f_X10_sortsBy_l16 n σ x0 x1 x2 x3) := by
  intro n
  induction n with
  | zero => intro i h; exact absurd h (Nat.not_lt_zero _)
  | succ n ih => intro i h hi σ x0 x1 x2 x3 hI; exact step i (f_X10_sortsBy_l16 n) σ x0 x1 x2 x3 hi hI (fun σ' x0' x1' x2' x3' hlt hI2 => ih (i + 1) (by omega) hlt σ' x0' x1' x2' x3' hI2)
theorem i_X10_askOf_l40 (k14 : Sg → Int32 → Int32 → Int32 → Int32 → Option (Int32 × Sg)) (k27 : Sg → Int32 → Int32 → Int32 → Int32 → Int32 → Int32 → Option (Int32 × Sg)) (e : Nat) (I : Nat → Sg → Int32 → Int32 → Int32 → Int32 → Int32 → Int32 → Int32 → Int32 → Prop) (P : Sg → Int32 → Int32 → Int32 → Int32 → Int32 → Int32 → Int32 → Int32 → Option (Int32 × Sg) → Prop) (step : ∀ (i : Nat) (k : Sg → Int32 → Int32 → Int32 → Int32 → Int32 → Int32 → Int32 → Int32 → Option (Int32 × Sg)) (σ : Sg) (x0 : Int32) (x1 : Int32) (x2 : Int32) (x3 : Int32) (x4 : Int32) (x5 : Int32) (x6 : Int32) (x7 : Int32), i ≤ e → I i σ x0 x1 x2 x3 x4 x5 x6 x7 → (∀ (σ' : Sg) (x0' : Int32) (x1' : Int32) (x2' : Int32) (x3' : Int32) (x4' : Int32) (x5' : Int32) (x6' : Int32) (x7' : Int32), i < e → I (i + 1) σ' x0' x1' x2' x3' x4' x5' x6' x7' → P σ' x0' x1' x2' x3' x4' x5' x6' x7' (k σ' x0' x1' x2' x3' x4' x5' x6' x7')) → P σ x0 x1 x2 x3 x4 x5 x6 x7 (f_X10_askOf_b40 k14 k27 k σ x0 x1 x2 x3 x4 x5 x6 x7)) : ∀ (n i : Nat), e - i < n → i ≤ e → ∀ (σ : Sg) (x0 : Int32) (x1 : Int32) (x2 : Int32) (x3 : Int32) (x4 : Int32) (x5 : Int32) (x6 : Int32) (x7 : Int32), I i σ x0 x1 x2 x3 x4 x5 x6 x7 → P σ x0 x1 x2 x3 x4 x5 x6 x7 (f_X10_askOf_l40 k14 k27 n σ x0 x1 x2 x3 x4 x5 x6 x7) := by
  intro n
  induction n with
  | zero => intro i h; exact absurd h (Nat.not_lt_zero _)
  | succ n ih => intro i h hi σ x0 x1 x2 x3 x4 x5 x6 x7 hI; exact step i (f_X10_askOf_l40 k14 k27 n) σ x0 x1 x2 x3 x4 x5 x6 x7 hi hI (fun σ' x0' x1' x2' x3' x4' x5' x6' x7' hlt hI2 => ih (i + 1) (by omega) hlt σ' x0' x1' x2' x3' x4' x5' x6' x7' hI2)
theorem i_X10_askOf_l27 (k14 : Sg → Int32 → Int32 → Int32 → Int32 → Option (Int32 × Sg)) (e : Nat) (I : Nat → Sg → Int32 → Int32 → Int32 → Int32 → Int32 → Int32 → Prop) (P : Sg → Int32 → Int32 → Int32 → Int32 → Int32 → Int32 → Option (Int32 × Sg) → Prop) (step : ∀ (i : Nat) (k : Sg → Int32 → Int32 → Int32 → Int32 → Int32 → Int32 → Option (Int32 × Sg)) (σ : Sg) (x0 : Int32) (x1 : Int32) (x2 : Int32) (x3 : Int32) (x4 : Int32) (x5 : Int32), i ≤ e → I i σ x0 x1 x2 x3 x4 x5 → (∀ (σ' : Sg) (x0' : Int32) (x1' : Int32) (x2' : Int32) (x3' : Int32) (x4' : Int32) (x5' : Int32), i < e → I (i + 1) σ' x0' x1' x2' x3' x4' x5' → P σ' x0' x1' x2' x3' x4' x5' (k σ' x0' x1' x2' x3' x4' x5')) → P σ x0 x1 x2 x3 x4 x5 (f_X10_askOf_b27 k14 k σ x0 x1 x2 x3 x4 x5)) : ∀ (n i : Nat), e - i < n → i ≤ e → ∀ (σ : Sg) (x0 : Int32) (x1 : Int32) (x2 : Int32) (x3 : Int32) (x4 : Int32) (x5 : Int32), I i σ x0 x1 x2 x3 x4 x5 → P σ x0 x1 x2 x3 x4 x5 (f_X10_askOf_l27 k14 n σ x0 x1 x2 x3 x4 x5) := by
  intro n
  induction n with
  | zero => intro i h; exact absurd h (Nat.not_lt_zero _)
  | succ n ih => intro i h hi σ x0 x1 x2 x3 x4 x5 hI; exact step i (f_X10_askOf_l27 k14 n) σ x0 x1 x2 x3 x4 x5 hi hI (fun σ' x0' x1' x2' x3' x4' x5' hlt hI2 => ih (i + 1) (by omega) hlt σ' x0' x1' x2' x3' x4' x5' hI2)
theorem i_X10_askOf_l14 (e : Nat) (I : Nat → Sg → Int32 → Int32 → Int32 → Int32 → Prop) (P : Sg → Int32 → Int32 → Int32 → Int32 → Option (Int32 × Sg) → Prop) (step : ∀ (i : Nat) (k : Sg → Int32 → Int32 → Int32 → Int32 → Option (Int32 × Sg)) (σ : Sg) (x0 : Int32) (x1 : Int32) (x2 : Int32) (x3 : Int32), i ≤ e → I i σ x0 x1 x2 x3 → (∀ (σ' : Sg) (x0' : Int32) (x1' : Int32) (x2' : Int32) (x3' : Int32), i < e → I (i + 1) σ' x0' x1' x2' x3' → P σ' x0' x1' x2' x3' (k σ' x0' x1' x2' x3')) → P σ x0 x1 x2 x3 (f_X10_askOf_b14 k σ x0 x1 x2 x3)) : ∀ (n i : Nat), e - i < n → i ≤ e → ∀ (σ : Sg) (x0 : Int32) (x1 : Int32) (x2 : Int32) (x3 : Int32), I i σ x0 x1 x2 x3 → P σ x0 x1 x2 x3 (f_X10_askOf_l14 n σ x0 x1 x2 x3) := by
  intro n
  induction n with
  | zero => intro i h; exact absurd h (Nat.not_lt_zero _)
  | succ n ih => intro i h hi σ x0 x1 x2 x3 hI; exact step i (f_X10_askOf_l14 n) σ x0 x1 x2 x3 hi hI (fun σ' x0' x1' x2' x3' hlt hI2 => ih (i + 1) (by omega) hlt σ' x0' x1' x2' x3' hI2)
theorem i_X10_lowest_l6 (e : Nat) (I : Nat → Sg → Int64 → Int64 → Int32 → Int64 → Int64 → Prop) (P : Sg → Int64 → Int64 → Int32 → Int64 → Int64 → Option (Int64 × Sg) → Prop) (step : ∀ (i : Nat) (k : Sg → Int64 → Int64 → Int32 → Int64 → Int64 → Option (Int64 × Sg)) (σ : Sg) (x0 : Int64) (x1 : Int64) (x2 : Int32) (x3 : Int64) (x4 : Int64), i ≤ e → I i σ x0 x1 x2 x3 x4 → (∀ (σ' : Sg) (x0' : Int64) (x1' : Int64) (x2' : Int32) (x3' : Int64) (x4' : Int64), i < e → I (i + 1) σ' x0' x1' x2' x3' x4' → P σ' x0' x1' x2' x3' x4' (k σ' x0' x1' x2' x3' x4')) → P σ x0 x1 x2 x3 x4 (f_X10_lowest_b6 k σ x0 x1 x2 x3 x4)) : ∀ (n i : Nat), e - i < n → i ≤ e → ∀ (σ : Sg) (x0 : Int64) (x1 : Int64) (x2 : Int32) (x3 : Int64) (x4 : Int64), I i σ x0 x1 x2 x3 x4 → P σ x0 x1 x2 x3 x4 (f_X10_lowest_l6 n σ x0 x1 x2 x3 x4) := by
  intro n
  induction n with
  | zero => intro i h; exact absurd h (Nat.not_lt_zero _)
  | succ n ih => intro i h hi σ x0 x1 x2 x3 x4 hI; exact step i (f_X10_lowest_l6 n) σ x0 x1 x2 x3 x4 hi hI (fun σ' x0' x1' x2' x3' x4' hlt hI2 => ih (i + 1) (by omega) hlt σ' x0' x1' x2' x3' x4' hI2)
theorem i_X10_chanceOf_l27 (k10 : Sg → Int32 → Int32 → Int32 → Int64 → Int32 → Option (Int64 × Sg)) (e : Nat) (I : Nat → Sg → Int32 → Int32 → Int32 → Int64 → Int32 → Int64 → Int32 → Prop) (P : Sg → Int32 → Int32 → Int32 → Int64 → Int32 → Int64 → Int32 → Option (Int64 × Sg) → Prop) (step : ∀ (i : Nat) (k : Sg → Int32 → Int32 → Int32 → Int64 → Int32 → Int64 → Int32 → Option (Int64 × Sg)) (σ : Sg) (x0 : Int32) (x1 : Int32) (x2 : Int32) (x3 : Int64) (x4 : Int32) (x5 : Int64) (x6 : Int32), i ≤ e → I i σ x0 x1 x2 x3 x4 x5 x6 → (∀ (σ' : Sg) (x0' : Int32) (x1' : Int32) (x2' : Int32) (x3' : Int64) (x4' : Int32) (x5' : Int64) (x6' : Int32), i < e → I (i + 1) σ' x0' x1' x2' x3' x4' x5' x6' → P σ' x0' x1' x2' x3' x4' x5' x6' (k σ' x0' x1' x2' x3' x4' x5' x6')) → P σ x0 x1 x2 x3 x4 x5 x6 (f_X10_chanceOf_b27 k10 k σ x0 x1 x2 x3 x4 x5 x6)) : ∀ (n i : Nat), e - i < n → i ≤ e → ∀ (σ : Sg) (x0 : Int32) (x1 : Int32) (x2 : Int32) (x3 : Int64) (x4 : Int32) (x5 : Int64) (x6 : Int32), I i σ x0 x1 x2 x3 x4 x5 x6 → P σ x0 x1 x2 x3 x4 x5 x6 (f_X10_chanceOf_l27 k10 n σ x0 x1 x2 x3 x4 x5 x6) := by
  intro n
  induction n with
  | zero => intro i h; exact absurd h (Nat.not_lt_zero _)
  | succ n ih => intro i h hi σ x0 x1 x2 x3 x4 x5 x6 hI; exact step i (f_X10_chanceOf_l27 k10 n) σ x0 x1 x2 x3 x4 x5 x6 hi hI (fun σ' x0' x1' x2' x3' x4' x5' x6' hlt hI2 => ih (i + 1) (by omega) hlt σ' x0' x1' x2' x3' x4' x5' x6' hI2)
theorem i_X10_chanceOf_l10 (e : Nat) (I : Nat → Sg → Int32 → Int32 → Int32 → Int64 → Int32 → Prop) (P : Sg → Int32 → Int32 → Int32 → Int64 → Int32 → Option (Int64 × Sg) → Prop) (step : ∀ (i : Nat) (k : Sg → Int32 → Int32 → Int32 → Int64 → Int32 → Option (Int64 × Sg)) (σ : Sg) (x0 : Int32) (x1 : Int32) (x2 : Int32) (x3 : Int64) (x4 : Int32), i ≤ e → I i σ x0 x1 x2 x3 x4 → (∀ (σ' : Sg) (x0' : Int32) (x1' : Int32) (x2' : Int32) (x3' : Int64) (x4' : Int32), i < e → I (i + 1) σ' x0' x1' x2' x3' x4' → P σ' x0' x1' x2' x3' x4' (k σ' x0' x1' x2' x3' x4')) → P σ x0 x1 x2 x3 x4 (f_X10_chanceOf_b10 k σ x0 x1 x2 x3 x4)) : ∀ (n i : Nat), e - i < n → i ≤ e → ∀ (σ : Sg) (x0 : Int32) (x1 : Int32) (x2 : Int32) (x3 : Int64) (x4 : Int32), I i σ x0 x1 x2 x3 x4 → P σ x0 x1 x2 x3 x4 (f_X10_chanceOf_l10 n σ x0 x1 x2 x3 x4) := by
  intro n
  induction n with
  | zero => intro i h; exact absurd h (Nat.not_lt_zero _)
  | succ n ih => intro i h hi σ x0 x1 x2 x3 x4 hI; exact step i (f_X10_chanceOf_l10 n) σ x0 x1 x2 x3 x4 hi hI (fun σ' x0' x1' x2' x3' x4' hlt hI2 => ih (i + 1) (by omega) hlt σ' x0' x1' x2' x3' x4' hI2)
theorem i_X10_yearsOf_l15 (e : Nat) (I : Nat → Sg → Int32 → Int32 → Int32 → Int32 → Prop) (P : Sg → Int32 → Int32 → Int32 → Int32 → Option (Int32 × Sg) → Prop) (step : ∀ (i : Nat) (k : Sg → Int32 → Int32 → Int32 → Int32 → Option (Int32 × Sg)) (σ : Sg) (x0 : Int32) (x1 : Int32) (x2 : Int32) (x3 : Int32), i ≤ e → I i σ x0 x1 x2 x3 → (∀ (σ' : Sg) (x0' : Int32) (x1' : Int32) (x2' : Int32) (x3' : Int32), i < e → I (i + 1) σ' x0' x1' x2' x3' → P σ' x0' x1' x2' x3' (k σ' x0' x1' x2' x3')) → P σ x0 x1 x2 x3 (f_X10_yearsOf_b15 k σ x0 x1 x2 x3)) : ∀ (n i : Nat), e - i < n → i ≤ e → ∀ (σ : Sg) (x0 : Int32) (x1 : Int32) (x2 : Int32) (x3 : Int32), I i σ x0 x1 x2 x3 → P σ x0 x1 x2 x3 (f_X10_yearsOf_l15 n σ x0 x1 x2 x3) := by
  intro n
  induction n with
  | zero => intro i h; exact absurd h (Nat.not_lt_zero _)
  | succ n ih => intro i h hi σ x0 x1 x2 x3 hI; exact step i (f_X10_yearsOf_l15 n) σ x0 x1 x2 x3 hi hI (fun σ' x0' x1' x2' x3' hlt hI2 => ih (i + 1) (by omega) hlt σ' x0' x1' x2' x3' hI2)
theorem i_X10_sheet_l59 (e : Nat) (I : Nat → Sg → Int32 → Int32 → Int32 → Prop) (P : Sg → Int32 → Int32 → Int32 → Option (Int32 × Sg) → Prop) (step : ∀ (i : Nat) (k : Sg → Int32 → Int32 → Int32 → Option (Int32 × Sg)) (σ : Sg) (x0 : Int32) (x1 : Int32) (x2 : Int32), i ≤ e → I i σ x0 x1 x2 → (∀ (σ' : Sg) (x0' : Int32) (x1' : Int32) (x2' : Int32), i < e → I (i + 1) σ' x0' x1' x2' → P σ' x0' x1' x2' (k σ' x0' x1' x2')) → P σ x0 x1 x2 (f_X10_sheet_b59 k σ x0 x1 x2)) : ∀ (n i : Nat), e - i < n → i ≤ e → ∀ (σ : Sg) (x0 : Int32) (x1 : Int32) (x2 : Int32), I i σ x0 x1 x2 → P σ x0 x1 x2 (f_X10_sheet_l59 n σ x0 x1 x2) := by
  intro n
  induction n with
  | zero => intro i h; exact absurd h (Nat.not_lt_zero _)
  | succ n ih => intro i h hi σ x0 x1 x2 hI; exact step i (f_X10_sheet_l59 n) σ x0 x1 x2 hi hI (fun σ' x0' x1' x2' hlt hI2 => ih (i + 1) (by omega) hlt σ' x0' x1' x2' hI2)
theorem i_X10_copy_l157 (e : Nat) (I : Nat → Sg → Int32 → Int32 → Int32 → Int32 → Prop) (P : Sg → Int32 → Int32 → Int32 → Int32 → Option (Int32 × Sg) → Prop) (step : ∀ (i : Nat) (k : Sg → Int32 → Int32 → Int32 → Int32 → Option (Int32 × Sg)) (σ : Sg) (x0 : Int32) (x1 : Int32) (x2 : Int32) (x3 : Int32), i ≤ e → I i σ x0 x1 x2 x3 → (∀ (σ' : Sg) (x0' : Int32) (x1' : Int32) (x2' : Int32) (x3' : Int32), i < e → I (i + 1) σ' x0' x1' x2' x3' → P σ' x0' x1' x2' x3' (k σ' x0' x1' x2' x3')) → P σ x0 x1 x2 x3 (f_X10_copy_b157 k σ x0 x1 x2 x3)) : ∀ (n i : Nat), e - i < n → i ≤ e → ∀ (σ : Sg) (x0 : Int32) (x1 : Int32) (x2 : Int32) (x3 : Int32), I i σ x0 x1 x2 x3 → P σ x0 x1 x2 x3 (f_X10_copy_l157 n σ x0 x1 x2 x3) := by
  intro n
  induction n with
  | zero => intro i h; exact absurd h (Nat.not_lt_zero _)
  | succ n ih => intro i h hi σ x0 x1 x2 x3 hI; exact step i (f_X10_copy_l157 n) σ x0 x1 x2 x3 hi hI (fun σ' x0' x1' x2' x3' hlt hI2 => ih (i + 1) (by omega) hlt σ' x0' x1' x2' x3' hI2)
theorem i_X10_copy_l120 (e : Nat) (I : Nat → Sg → Int32 → Int32 → Int32 → Int32 → Int32 → Int32 → Prop) (P : Sg → Int32 → Int32 → Int32 → Int32 → Int32 → Int32 → Option (Int32 × Sg) → Prop) (step : ∀ (i : Nat) (k : Sg → Int32 → Int32 → Int32 → Int32 → Int32 → Int32 → Option (Int32 × Sg)) (σ : Sg) (x0 : Int32) (x1 : Int32) (x2 : Int32) (x3 : Int32) (x4 : Int32) (x5 : Int32), i ≤ e → I i σ x0 x1 x2 x3 x4 x5 → (∀ (σ' : Sg) (x0' : Int32) (x1' : Int32) (x2' : Int32) (x3' : Int32) (x4' : Int32) (x5' : Int32), i < e → I (i + 1) σ' x0' x1' x2' x3' x4' x5' → P σ' x0' x1' x2' x3' x4' x5' (k σ' x0' x1' x2' x3' x4' x5')) → P σ x0 x1 x2 x3 x4 x5 (f_X10_copy_b120 k σ x0 x1 x2 x3 x4 x5)) : ∀ (n i : Nat), e - i < n → i ≤ e → ∀ (σ : Sg) (x0 : Int32) (x1 : Int32) (x2 : Int32) (x3 : Int32) (x4 : Int32) (x5 : Int32), I i σ x0 x1 x2 x3 x4 x5 → P σ x0 x1 x2 x3 x4 x5 (f_X10_copy_l120 n σ x0 x1 x2 x3 x4 x5) := by
  intro n
  induction n with
  | zero => intro i h; exact absurd h (Nat.not_lt_zero _)
  | succ n ih => intro i h hi σ x0 x1 x2 x3 x4 x5 hI; exact step i (f_X10_copy_l120 n) σ x0 x1 x2 x3 x4 x5 hi hI (fun σ' x0' x1' x2' x3' x4' x5' hlt hI2 => ih (i + 1) (by omega) hlt σ' x0' x1' x2' x3' x4' x5' hI2)
theorem i_X10_write_l39 (e : Nat) (I : Nat → Sg → Int32 → Int32 → Int32 → Prop) (P : Sg → Int32 → Int32 → Int32 → Option (Int32 × Sg) → Prop) (step : ∀ (i : Nat) (k : Sg → Int32 → Int32 → Int32 → Option (Int32 × Sg)) (σ : Sg) (x0 : Int32) (x1 : Int32) (x2 : Int32), i ≤ e → I i σ x0 x1 x2 → (∀ (σ' : Sg) (x0' : Int32) (x1' : Int32) (x2' : Int32), i < e → I (i + 1) σ' x0' x1' x2' → P σ' x0' x1' x2' (k σ' x0' x1' x2')) → P σ x0 x1 x2 (f_X10_write_b39 k σ x0 x1 x2)) : ∀ (n i : Nat), e - i < n → i ≤ e → ∀ (σ : Sg) (x0 : Int32) (x1 : Int32) (x2 : Int32), I i σ x0 x1 x2 → P σ x0 x1 x2 (f_X10_write_l39 n σ x0 x1 x2) := by
  intro n
  induction n with
  | zero => intro i h; exact absurd h (Nat.not_lt_zero _)
  | succ n ih => intro i h hi σ x0 x1 x2 hI; exact step i (f_X10_write_l39 n) σ x0 x1 x2 hi hI (fun σ' x0' x1' x2' hlt hI2 => ih (i + 1) (by omega) hlt σ' x0' x1' x2' hI2)
theorem i_X10_needDigest_l6 (e : Nat) (I : Nat → Sg → Int32 → Int64 → Int32 → Prop) (P : Sg → Int32 → Int64 → Int32 → Option (Int64 × Sg) → Prop) (step : ∀ (i : Nat) (k : Sg → Int32 → Int64 → Int32 → Option (Int64 × Sg)) (σ : Sg) (x0 : Int32) (x1 : Int64) (x2 : Int32), i ≤ e → I i σ x0 x1 x2 → (∀ (σ' : Sg) (x0' : Int32) (x1' : Int64) (x2' : Int32), i < e → I (i + 1) σ' x0' x1' x2' → P σ' x0' x1' x2' (k σ' x0' x1' x2')) → P σ x0 x1 x2 (f_X10_needDigest_b6 k σ x0 x1 x2)) : ∀ (n i : Nat), e - i < n → i ≤ e → ∀ (σ : Sg) (x0 : Int32) (x1 : Int64) (x2 : Int32), I i σ x0 x1 x2 → P σ x0 x1 x2 (f_X10_needDigest_l6 n σ x0 x1 x2) := by
  intro n
  induction n with
  | zero => intro i h; exact absurd h (Nat.not_lt_zero _)
  | succ n ih => intro i h hi σ x0 x1 x2 hI; exact step i (f_X10_needDigest_l6 n) σ x0 x1 x2 hi hI (fun σ' x0' x1' x2' hlt hI2 => ih (i + 1) (by omega) hlt σ' x0' x1' x2' hI2)
theorem i_X10_nightDigest_l6 (e : Nat) (I : Nat → Sg → Int32 → Int32 → Int64 → Int32 → Prop) (P : Sg → Int32 → Int32 → Int64 → Int32 → Option (Int64 × Sg) → Prop) (step : ∀ (i : Nat) (k : Sg → Int32 → Int32 → Int64 → Int32 → Option (Int64 × Sg)) (σ : Sg) (x0 : Int32) (x1 : Int32) (x2 : Int64) (x3 : Int32), i ≤ e → I i σ x0 x1 x2 x3 → (∀ (σ' : Sg) (x0' : Int32) (x1' : Int32) (x2' : Int64) (x3' : Int32), i < e → I (i + 1) σ' x0' x1' x2' x3' → P σ' x0' x1' x2' x3' (k σ' x0' x1' x2' x3')) → P σ x0 x1 x2 x3 (f_X10_nightDigest_b6 k σ x0 x1 x2 x3)) : ∀ (n i : Nat), e - i < n → i ≤ e → ∀ (σ : Sg) (x0 : Int32) (x1 : Int32) (x2 : Int64) (x3 : Int32), I i σ x0 x1 x2 x3 → P σ x0 x1 x2 x3 (f_X10_nightDigest_l6 n σ x0 x1 x2 x3) := by
  intro n
  induction n with
  | zero => intro i h; exact absurd h (Nat.not_lt_zero _)
  | succ n ih => intro i h hi σ x0 x1 x2 x3 hI; exact step i (f_X10_nightDigest_l6 n) σ x0 x1 x2 x3 hi hI (fun σ' x0' x1' x2' x3' hlt hI2 => ih (i + 1) (by omega) hlt σ' x0' x1' x2' x3' hI2)
theorem i_X10_goneDigest_l96 (e : Nat) (I : Nat → Sg → Int32 → Int64 → Int32 → Prop) (P : Sg → Int32 → Int64 → Int32 → Option (Int64 × Sg) → Prop) (step : ∀ (i : Nat) (k : Sg → Int32 → Int64 → Int32 → Option (Int64 × Sg)) (σ : Sg) (x0 : Int32) (x1 : Int64) (x2 : Int32), i ≤ e → I i σ x0 x1 x2 → (∀ (σ' : Sg) (x0' : Int32) (x1' : Int64) (x2' : Int32), i < e → I (i + 1) σ' x0' x1' x2' → P σ' x0' x1' x2' (k σ' x0' x1' x2')) → P σ x0 x1 x2 (f_X10_goneDigest_b96 k σ x0 x1 x2)) : ∀ (n i : Nat), e - i < n → i ≤ e → ∀ (σ : Sg) (x0 : Int32) (x1 : Int64) (x2 : Int32), I i σ x0 x1 x2 → P σ x0 x1 x2 (f_X10_goneDigest_l96 n σ x0 x1 x2) := by
  intro n
  induction n with
  | zero => intro i h; exact absurd h (Nat.not_lt_zero _)
  | succ n ih => intro i h hi σ x0 x1 x2 hI; exact step i (f_X10_goneDigest_l96 n) σ x0 x1 x2 hi hI (fun σ' x0' x1' x2' hlt hI2 => ih (i + 1) (by omega) hlt σ' x0' x1' x2' hI2)
theorem i_X10_goneDigest_l6 (e : Nat) (I : Nat → Sg → Int32 → Int64 → Int32 → Prop) (P : Sg → Int32 → Int64 → Int32 → Option (Int64 × Sg) → Prop) (step : ∀ (i : Nat) (k : Sg → Int32 → Int64 → Int32 → Option (Int64 × Sg)) (σ : Sg) (x0 : Int32) (x1 : Int64) (x2 : Int32), i ≤ e → I i σ x0 x1 x2 → (∀ (σ' : Sg) (x0' : Int32) (x1' : Int64) (x2' : Int32), i < e → I (i + 1) σ' x0' x1' x2' → P σ' x0' x1' x2' (k σ' x0' x1' x2')) → P σ x0 x1 x2 (f_X10_goneDigest_b6 k σ x0 x1 x2)) : ∀ (n i : Nat), e - i < n → i ≤ e → ∀ (σ : Sg) (x0 : Int32) (x1 : Int64) (x2 : Int32), I i σ x0 x1 x2 → P σ x0 x1 x2 (f_X10_goneDigest_l6 n σ x0 x1 x2) := by
  intro n
  induction n with
  | zero => intro i h; exact absurd h (Nat.not_lt_zero _)
  | succ n ih => intro i h hi σ x0 x1 x2 hI; exact step i (f_X10_goneDigest_l6 n) σ x0 x1 x2 hi hI (fun σ' x0' x1' x2' hlt hI2 => ih (i + 1) (by omega) hlt σ' x0' x1' x2' hI2)
theorem i_X10_digest_l147 (e : Nat) (I : Nat → Sg → Int64 → Int32 → Prop) (P : Sg → Int64 → Int32 → Option (Int64 × Sg) → Prop) (step : ∀ (i : Nat) (k : Sg → Int64 → Int32 → Option (Int64 × Sg)) (σ : Sg) (x0 : Int64) (x1 : Int32), i ≤ e → I i σ x0 x1 → (∀ (σ' : Sg) (x0' : Int64) (x1' : Int32), i < e → I (i + 1) σ' x0' x1' → P σ' x0' x1' (k σ' x0' x1')) → P σ x0 x1 (f_X10_digest_b147 k σ x0 x1)) : ∀ (n i : Nat), e - i < n → i ≤ e → ∀ (σ : Sg) (x0 : Int64) (x1 : Int32), I i σ x0 x1 → P σ x0 x1 (f_X10_digest_l147 n σ x0 x1) := by
  intro n
  induction n with
  | zero => intro i h; exact absurd h (Nat.not_lt_zero _)
  | succ n ih => intro i h hi σ x0 x1 hI; exact step i (f_X10_digest_l147 n) σ x0 x1 hi hI (fun σ' x0' x1' hlt hI2 => ih (i + 1) (by omega) hlt σ' x0' x1' hI2)
theorem i_X10_digest_l105 (e : Nat) (I : Nat → Sg → Int64 → Int32 → Prop) (P : Sg → Int64 → Int32 → Option (Int64 × Sg) → Prop) (step : ∀ (i : Nat) (k : Sg → Int64 → Int32 → Option (Int64 × Sg)) (σ : Sg) (x0 : Int64) (x1 : Int32), i ≤ e → I i σ x0 x1 → (∀ (σ' : Sg) (x0' : Int64) (x1' : Int32), i < e → I (i + 1) σ' x0' x1' → P σ' x0' x1' (k σ' x0' x1')) → P σ x0 x1 (f_X10_digest_b105 k σ x0 x1)) : ∀ (n i : Nat), e - i < n → i ≤ e → ∀ (σ : Sg) (x0 : Int64) (x1 : Int32), I i σ x0 x1 → P σ x0 x1 (f_X10_digest_l105 n σ x0 x1) := by
  intro n
  induction n with
  | zero => intro i h; exact absurd h (Nat.not_lt_zero _)
  | succ n ih => intro i h hi σ x0 x1 hI; exact step i (f_X10_digest_l105 n) σ x0 x1 hi hI (fun σ' x0' x1' hlt hI2 => ih (i + 1) (by omega) hlt σ' x0' x1' hI2)
theorem i_X10_digest_l82 (e : Nat) (I : Nat → Sg → Int64 → Int32 → Prop) (P : Sg → Int64 → Int32 → Option (Int64 × Sg) → Prop) (step : ∀ (i : Nat) (k : Sg → Int64 → Int32 → Option (Int64 × Sg)) (σ : Sg) (x0 : Int64) (x1 : Int32), i ≤ e → I i σ x0 x1 → (∀ (σ' : Sg) (x0' : Int64) (x1' : Int32), i < e → I (i + 1) σ' x0' x1' → P σ' x0' x1' (k σ' x0' x1')) → P σ x0 x1 (f_X10_digest_b82 k σ x0 x1)) : ∀ (n i : Nat), e - i < n → i ≤ e → ∀ (σ : Sg) (x0 : Int64) (x1 : Int32), I i σ x0 x1 → P σ x0 x1 (f_X10_digest_l82 n σ x0 x1) := by
  intro n
  induction n with
  | zero => intro i h; exact absurd h (Nat.not_lt_zero _)
  | succ n ih => intro i h hi σ x0 x1 hI; exact step i (f_X10_digest_l82 n) σ x0 x1 hi hI (fun σ' x0' x1' hlt hI2 => ih (i + 1) (by omega) hlt σ' x0' x1' hI2)
theorem i_X10_digest_l59 (e : Nat) (I : Nat → Sg → Int64 → Int32 → Prop) (P : Sg → Int64 → Int32 → Option (Int64 × Sg) → Prop) (step : ∀ (i : Nat) (k : Sg → Int64 → Int32 → Option (Int64 × Sg)) (σ : Sg) (x0 : Int64) (x1 : Int32), i ≤ e → I i σ x0 x1 → (∀ (σ' : Sg) (x0' : Int64) (x1' : Int32), i < e → I (i + 1) σ' x0' x1' → P σ' x0' x1' (k σ' x0' x1')) → P σ x0 x1 (f_X10_digest_b59 k σ x0 x1)) : ∀ (n i : Nat), e - i < n → i ≤ e → ∀ (σ : Sg) (x0 : Int64) (x1 : Int32), I i σ x0 x1 → P σ x0 x1 (f_X10_digest_l59 n σ x0 x1) := by
  intro n
  induction n with
  | zero => intro i h; exact absurd h (Nat.not_lt_zero _)
  | succ n ih => intro i h hi σ x0 x1 hI; exact step i (f_X10_digest_l59 n) σ x0 x1 hi hI (fun σ' x0' x1' hlt hI2 => ih (i + 1) (by omega) hlt σ' x0' x1' hI2)
theorem i_X10_digest_l6 (e : Nat) (I : Nat → Sg → Int64 → Int32 → Prop) (P : Sg → Int64 → Int32 → Option (Int64 × Sg) → Prop) (step : ∀ (i : Nat) (k : Sg → Int64 → Int32 → Option (Int64 × Sg)) (σ : Sg) (x0 : Int64) (x1 : Int32), i ≤ e → I i σ x0 x1 → (∀ (σ' : Sg) (x0' : Int64) (x1' : Int32), i < e → I (i + 1) σ' x0' x1' → P σ' x0' x1' (k σ' x0' x1')) → P σ x0 x1 (f_X10_digest_b6 k σ x0 x1)) : ∀ (n i : Nat), e - i < n → i ≤ e → ∀ (σ : Sg) (x0 : Int64) (x1 : Int32), I i σ x0 x1 → P σ x0 x1 (f_X10_digest_l6 n σ x0 x1) := by
  intro n
  induction n with
  | zero => intro i h; exact absurd h (Nat.not_lt_zero _)
  | succ n ih => intro i h hi σ x0 x1 hI; exact step i (f_X10_digest_l6 n) σ x0 x1 hi hI (fun σ' x0' x1' hlt hI2 => ih (i + 1) (by omega) hlt σ' x0' x1' hI2)
