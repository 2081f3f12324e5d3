theorem gG_congr {f f' : Nat → Int32} {p : Nat} (h : ∀ j, j ≤ p → f j = f' j) : gG f p ↔ gG f' p := by
  unfold gG
  by_cases h0 : p % 5 = 0
  · rw [if_pos h0, if_pos h0, h p (Nat.le_refl _)]
  · rw [if_neg h0, if_neg h0]
    by_cases h1 : p % 5 = 1
    · rw [if_pos h1, if_pos h1, h p (Nat.le_refl _)]
    · rw [if_neg h1, if_neg h1]
      by_cases h2 : p % 5 = 2
      · rw [if_pos h2, if_pos h2, h p (Nat.le_refl _), h (p - 1) (by omega)]
        refine and_congr_right fun _ => not_congr (exists_congr fun j => and_congr_right fun hj => ?_)
        rw [h (5 * j + 1) (by omega), h (5 * j + 2) (by omega)]
      · rw [if_neg h2, if_neg h2, h p (Nat.le_refl _)]
theorem gG_m1 {f : Nat → Int32} {p : Nat} (h : f p = -1) : ¬ gG f p := by
  unfold gG
  rw [h]
  repeat' split
  · exact fun q => q (by decide)
  · exact fun q => absurd q.1 (by decide)
  · exact fun q => absurd q.1.1 (by decide)
  · exact fun q => absurd q.1 (by decide)
  · decide
theorem gN_congr {f f' : Nat → Int32} {p : Nat} (h : ∀ j, j ≤ p → f j = f' j) : gN f p ↔ gN f' p := by
  unfold gN
  rw [h p (Nat.le_refl _)]
theorem gN_m1 {f : Nat → Int32} {p : Nat} (h : f p = -1) : ¬ gN f p := by
  unfold gN
  rw [h]
  repeat' split
  · exact fun q => absurd q.1 (by decide)
  · exact fun q => absurd q.1 (by decide)
  · exact fun q => absurd q.1 (by decide)
  · decide
/-- the reference's parts of a text -/
theorem faultG {f : Nat → Int32} {n0 P : Nat} (h1 : ∀ j, j < P → gG (xF f n0) j) (h2 : ¬ gG (xF f n0) P) (h3 : ¬ (P = n0 ∧ (n0 = 0 ∨ n0 % 5 = 5 - 1))) : FL (gG f) 5 n0 (nI P) := by
  have cg : ∀ p, p < n0 → (gG (xF f n0) p ↔ gG f p) := fun p hp => gG_congr fun j hj => by unfold xF; rw [if_pos (by omega)]
  rcases Nat.lt_trichotomy P n0 with q | q | q
  · exact Or.inl ⟨P, q, fun j hj => (cg j (by omega)).mp (h1 j hj), fun g => h2 ((cg P q).mpr g), rfl⟩
  · subst q
    exact Or.inr ⟨fun j hj => (cg j hj).mp (h1 j hj), Or.inr ⟨fun q => h3 ⟨rfl, q⟩, rfl⟩⟩
  · exact absurd (h1 n0 q) (gG_m1 (by unfold xF; rw [if_neg (by omega)]))
theorem partsG_ok {τ : Sg} {f : Nat → Int32} {n0 : Nat} (hn : n0 ≤ 39) (ht : τ 1 0 = nI n0) (hf : ∀ k, k < n0 → τ 2 (k) = f k) : Ret (f_X10_readsParts τ (0 : Int32)) (fun F τ' =>
    (∀ c, (c < 3 ∨ 6 < c) → c ≠ 0 → τ' c = τ c) ∧ (∀ k, k ≠ 2 → τ' 0 k = τ 0 k) ∧ FL (gG f) 5 n0 F ∧ ((F = -1 ∧ τ' 0 2 = nI ((n0 + 1) / 5) ∧ rG f τ' ((n0 + 1) / 5)) ∨ (¬ F = -1 ∧ τ' 0 2 = 0))) := by
  unfold f_X10_readsParts f_X10_readsParts_b9 f_X10_readsParts_b28 f_X10_readsParts_b45
  rw [if_pos (show (0 : Int32) = 0 from rfl), if_pos (show (0 : Int32) = 0 from rfl)]
  simp only [amlet_eq]
  generalize hτ1 : up2 (up2 τ 0 2 (0 : Int32)) 0 7 (up2 τ 0 2 (0 : Int32) 0 7) = τ1
  have z0 : ∀ k, k ≠ 2 → τ1 0 k = τ 0 k := fun k h => by 
    rw [← hτ1, up2_at]
    by_cases e : k = 7
    · subst e; rw [upd_at, up2_at, upd_off (by omega)]
    · rw [upd_off e, up2_at, upd_off h]
  have z1 : ∀ c, c ≠ 0 → τ1 c = τ c := fun c h => by rw [← hτ1, up2_off h, up2_off h]
  have z2 : τ1 0 2 = 0 := by rw [← hτ1, up2_at, upd_off (by omega), up2_at, upd_at]
  refine i_X10_readsParts_l48 8 (fun i σ2 x1 x2 x3 x4 => x1 = (0 : Int32) ∧ x2 = nI 4 ∧ x3 = nI i ∧ x4 = nI (5 * i) ∧ (∀ c, (c < 3 ∨ 6 < c) → c ≠ 0 → σ2 c = τ c) ∧ (∀ k, k ≠ 2 → σ2 0 k = τ 0 k) ∧ σ2 0 2 = 0 ∧ rG (xF f n0) σ2 i ∧ (∀ j, j < 5 * i → gG (xF f n0) j) ∧ 5 * i ≤ n0) (fun σ2 x1 x2 x3 x4 r => Ret r _) ?_ 300 0 (by omega) (by omega) τ1 0 4 0 0 ⟨rfl, rfl, rfl, rfl, fun c h h' => z1 c h', z0, z2, fun k h => absurd h (Nat.not_lt_zero _), fun j h => absurd h (Nat.not_lt_zero _), Nat.zero_le _⟩
  intro i k σ2 x1 x2 x3 x4 hi hI ih
  obtain ⟨rfl, rfl, rfl, rfl, hs, h0, hN, hr, hg, hle⟩ := hI
  have ht2 : σ2 1 0 = nI n0 := by rw [hs 1 (by omega) (by omega)]; exact ht
  have hf2 : ∀ k, k < n0 → σ2 2 (k) = f k := fun k hk => by rw [hs 2 (by omega) (by omega)]; exact hf k hk
  have cT : (0 : Int32).toNatClampNeg = 0 := by decide
  have hi8 : i < 8 := by omega
  have bd : (0 < n0 → Ret (f_X10_readsParts_b64 k σ2 (0 : Int32) (nI 4) (nI i) (nI (5 * i))) (fun F τ' =>
    (∀ c, (c < 3 ∨ 6 < c) → c ≠ 0 → τ' c = τ c) ∧ (∀ k, k ≠ 2 → τ' 0 k = τ 0 k) ∧ FL (gG f) 5 n0 F ∧ ((F = -1 ∧ τ' 0 2 = nI ((n0 + 1) / 5) ∧ rG f τ' ((n0 + 1) / 5)) ∨ (¬ F = -1 ∧ τ' 0 2 = 0)))) := by
    intro hpos
    have bad : ∀ P, (∀ j, j < P → gG (xF f n0) j) → ¬ gG (xF f n0) P → ¬ (P = n0 ∧ (n0 = 0 ∨ n0 % 5 = 5 - 1)) → P < 1000 → ∀ σ3 : Sg, (∀ c, (c < 3 ∨ 6 < c) → c ≠ 0 → σ3 c = τ c) → (∀ k, k ≠ 2 → σ3 0 k = τ 0 k) → σ3 0 2 = 0 → Ret (some (nI P, σ3)) (fun F τ' =>
    (∀ c, (c < 3 ∨ 6 < c) → c ≠ 0 → τ' c = τ c) ∧ (∀ k, k ≠ 2 → τ' 0 k = τ 0 k) ∧ FL (gG f) 5 n0 F ∧ ((F = -1 ∧ τ' 0 2 = nI ((n0 + 1) / 5) ∧ rG f τ' ((n0 + 1) / 5)) ∨ (¬ F = -1 ∧ τ' 0 2 = 0))) := fun P a1 a2 a3 a4 σ3 b1 b2 b3 => ret_some.mpr ⟨b1, b2, faultG a1 a2 a3, Or.inr ⟨n_ne (by omega), b3⟩⟩
    unfold f_X10_readsParts_b64 f_X10_readsParts_b85
    rw [if_pos (show (0 : Int32) = 0 from rfl)]
    refine ret_bnd (readsGone_ok hn ht2 hf2 hi8 hr) (fun r σ3 h3 => ?_)
    rcases h3 with ⟨t, ht4, er, es, c1, c2⟩ | ⟨er, c1, c2, c3⟩
    · subst er
      subst es
      rw [if_neg (show ¬ nI 4 ≤ nI t from by rw [p_le (by omega) (by omega)]; omega), nI_add]
      refine bad _ (fun j hj => ?_) c2 (by omega) (by omega) σ3 hs h0 hN
      by_cases e : j < 5 * i
      · exact hg j e
      · rw [show j = 5 * i + (j - 5 * i) by omega]; exact c1 _ (by omega)
    · subst er
      have hs3 : ∀ c, (c < 3 ∨ 6 < c) → c ≠ 0 → σ3 c = τ c := fun c h h' => by rw [c2 c h, hs c h h']
      have h03 : σ3 0 = σ2 0 := c2 0 (by omega)
      have hg4 : ∀ j, j < 5 * i + 4 → gG (xF f n0) j := fun j hj => by
        by_cases e : j < 5 * i
        · exact hg j e
        · rw [show j = 5 * i + (j - 5 * i) by omega]; exact c1 _ (by omega)
      have hle4 : 5 * i + 4 ≤ n0 := by
        refine Nat.le_of_not_lt fun q => ?_
        exact absurd (hg4 n0 q) (gG_m1 (by unfold xF; rw [if_neg (by omega)]))
      have ht3 : σ3 1 0 = nI n0 := by rw [hs3 1 (by omega) (by omega)]; exact ht
      have hf3 : ∀ k, k < n0 → σ3 2 (k) = f k := fun k hk => by rw [hs3 2 (by omega) (by omega)]; exact hf k hk
      rw [if_pos (by rw [p_le (by omega) (by omega)]; omega)]
      simp only [amlet_eq, nI_1, nI_add, cT]
      rw [gd_true (by decide), ht3, byteAt0 hn ht3 hf3 (show 5 * i + 4 < 1000 by omega), bnd_some]
      by_cases he : 5 * i + 4 = n0
      · rw [if_pos (show nI (5 * i + 4) = nI n0 from by rw [he]), if_pos trivial]
        unfold f_X10_readsParts_b132 f_X10_readsParts_b149
        simp only [amlet_eq]
        rw [if_neg (show ¬ (0 : Int32) = 1 by decide)]
        have hq : (n0 + 1) / 5 = i + 1 := by omega
        refine ret_some.mpr ⟨fun c h h' => by rw [up2_off h', up2_off h']; exact hs3 c h h', fun k hk => by 
          by_cases e : k = 7
          · subst e; rw [up2_at, upd_at, up2_at, upd_off (by omega), h03]; exact h0 7 (by omega)
          · rw [up2_at, upd_off e, up2_at, upd_off hk, h03]; exact h0 k hk, Or.inr ⟨fun j hj => (gG_congr fun j' hj' => by unfold xF; rw [if_pos (by omega)]).mp (hg4 j (by omega)), Or.inl ⟨Or.inr (by omega), rfl⟩⟩, Or.inl ⟨rfl, by rw [up2_at, upd_off (by omega), up2_at, upd_at, hq], ?_⟩⟩
        rw [hq]
        intro k hk
        obtain ⟨d1, d2, d3, d4⟩ := c3 k hk
        rw [up2_off (by omega), up2_off (by omega), up2_off (by omega), up2_off (by omega), up2_off (by omega), up2_off (by omega), up2_off (by omega), up2_off (by omega), d1, d2, d3, d4]
        unfold xF
        rw [if_pos (by omega), if_pos (by omega), if_pos (by omega), if_pos (by omega)]
        exact ⟨rfl, rfl, rfl, rfl⟩
      · rw [if_neg (show ¬ nI (5 * i + 4) = nI n0 from fun q => he (nI_inj (by omega) (by omega) q))]
        by_cases h59 : xF f n0 (5 * i + 4) = (59 : Int32)
        · rw [if_pos h59, show 5 * i + 4 + 1 = 5 * (i + 1) by omega]
          refine ih _ _ _ _ _ (by omega) ⟨rfl, rfl, rfl, rfl, hs3, fun k hk => by rw [h03]; exact h0 k hk, by rw [h03]; exact hN, c3, fun j hj => ?_, by omega⟩
          by_cases e : j < 5 * i + 4
          · exact hg4 j e
          · rw [show j = 5 * i + 4 by omega]
            unfold gG
            rw [if_neg (by omega), if_neg (by omega), if_neg (by omega), if_neg (by omega)]
            exact h59
        · rw [if_neg h59]
          refine bad _ hg4 (fun q => h59 ?_) (by omega) (by omega) σ3 hs3 (fun k hk => by rw [h03]; exact h0 k hk) (by rw [h03]; exact hN)
          unfold gG at q
          rw [if_neg (by omega), if_neg (by omega), if_neg (by omega), if_neg (by omega)] at q
          exact q
  unfold f_X10_readsParts_b48
  rw [gd_true (by decide), cT, ht2]
  by_cases hlt : 5 * i < n0
  · rw [if_pos (by rw [p_lt (by omega) (by omega)]; exact hlt)]
    exact bd (by omega)
  · rw [if_neg (by rw [p_lt (by omega) (by omega)]; exact hlt)]
    by_cases hz : i = 0
    · subst hz
      have hn0 : n0 = 0 := by omega
      subst hn0
      rw [if_pos (by decide)]
      exact ret_some.mpr ⟨hs, h0, Or.inr ⟨fun j h => absurd h (Nat.not_lt_zero _), Or.inl ⟨Or.inl rfl, rfl⟩⟩, Or.inl ⟨rfl, hN, fun k h => by omega⟩⟩
    · rw [if_neg (by rw [show (0 : Int32) = nI 0 from rfl, p_le (by omega) (by omega)]; omega)]
      exact bd (by omega)
/-- the reference's parts of a text -/
theorem faultN {f : Nat → Int32} {n0 P : Nat} (h1 : ∀ j, j < P → gN (xF f n0) j) (h2 : ¬ gN (xF f n0) P) (h3 : ¬ (P = n0 ∧ (n0 = 0 ∨ n0 % 4 = 4 - 1))) : FL (gN f) 4 n0 (nI P) := by
  have cg : ∀ p, p < n0 → (gN (xF f n0) p ↔ gN f p) := fun p hp => gN_congr fun j hj => by unfold xF; rw [if_pos (by omega)]
  rcases Nat.lt_trichotomy P n0 with q | q | q
  · exact Or.inl ⟨P, q, fun j hj => (cg j (by omega)).mp (h1 j hj), fun g => h2 ((cg P q).mpr g), rfl⟩
  · subst q
    exact Or.inr ⟨fun j hj => (cg j hj).mp (h1 j hj), Or.inr ⟨fun q => h3 ⟨rfl, q⟩, rfl⟩⟩
  · exact absurd (h1 n0 q) (gN_m1 (by unfold xF; rw [if_neg (by omega)]))
theorem partsN_ok {τ : Sg} {f : Nat → Int32} {n0 : Nat} (hn : n0 ≤ 31) (ht : τ 1 1 = nI n0) (hf : ∀ k, k < n0 → τ 2 (39 + k) = f k) : Ret (f_X10_readsParts τ (1 : Int32)) (fun F τ' =>
    (∀ c, (c < 7 ∨ 9 < c) → c ≠ 0 → τ' c = τ c) ∧ (∀ k, k ≠ 7 → τ' 0 k = τ 0 k) ∧ FL (gN f) 4 n0 F ∧ ((F = -1 ∧ τ' 0 7 = nI ((n0 + 1) / 4) ∧ rN f τ' ((n0 + 1) / 4)) ∨ (¬ F = -1 ∧ τ' 0 7 = 0))) := by
  unfold f_X10_readsParts f_X10_readsParts_b9 f_X10_readsParts_b28 f_X10_readsParts_b45
  rw [if_neg (show ¬ (1 : Int32) = 0 by decide), if_neg (show ¬ (1 : Int32) = 0 by decide)]
  simp only [amlet_eq]
  generalize hτ1 : up2 (up2 τ 0 2 (τ 0 2)) 0 7 (0 : Int32) = τ1
  have z0 : ∀ k, k ≠ 7 → τ1 0 k = τ 0 k := fun k h => by 
    rw [← hτ1, up2_at, upd_off h, up2_at]
    by_cases e : k = 2
    · subst e; rw [upd_at]
    · rw [upd_off e]
  have z1 : ∀ c, c ≠ 0 → τ1 c = τ c := fun c h => by rw [← hτ1, up2_off h, up2_off h]
  have z2 : τ1 0 7 = 0 := by rw [← hτ1, up2_at, upd_at]
  refine i_X10_readsParts_l48 8 (fun i σ2 x1 x2 x3 x4 => x1 = (1 : Int32) ∧ x2 = nI 3 ∧ x3 = nI i ∧ x4 = nI (4 * i) ∧ (∀ c, (c < 7 ∨ 9 < c) → c ≠ 0 → σ2 c = τ c) ∧ (∀ k, k ≠ 7 → σ2 0 k = τ 0 k) ∧ σ2 0 7 = 0 ∧ rN (xF f n0) σ2 i ∧ (∀ j, j < 4 * i → gN (xF f n0) j) ∧ 4 * i ≤ n0) (fun σ2 x1 x2 x3 x4 r => Ret r _) ?_ 300 0 (by omega) (by omega) τ1 1 3 0 0 ⟨rfl, rfl, rfl, rfl, fun c h h' => z1 c h', z0, z2, fun k h => absurd h (Nat.not_lt_zero _), fun j h => absurd h (Nat.not_lt_zero _), Nat.zero_le _⟩
  intro i k σ2 x1 x2 x3 x4 hi hI ih
  obtain ⟨rfl, rfl, rfl, rfl, hs, h0, hN, hr, hg, hle⟩ := hI
  have ht2 : σ2 1 1 = nI n0 := by rw [hs 1 (by omega) (by omega)]; exact ht
  have hf2 : ∀ k, k < n0 → σ2 2 (39 + k) = f k := fun k hk => by rw [hs 2 (by omega) (by omega)]; exact hf k hk
  have cT : (1 : Int32).toNatClampNeg = 1 := by decide
  have hi8 : i < 8 := by omega
  have bd : (0 < n0 → Ret (f_X10_readsParts_b64 k σ2 (1 : Int32) (nI 3) (nI i) (nI (4 * i))) (fun F τ' =>
    (∀ c, (c < 7 ∨ 9 < c) → c ≠ 0 → τ' c = τ c) ∧ (∀ k, k ≠ 7 → τ' 0 k = τ 0 k) ∧ FL (gN f) 4 n0 F ∧ ((F = -1 ∧ τ' 0 7 = nI ((n0 + 1) / 4) ∧ rN f τ' ((n0 + 1) / 4)) ∨ (¬ F = -1 ∧ τ' 0 7 = 0)))) := by
    intro hpos
    have bad : ∀ P, (∀ j, j < P → gN (xF f n0) j) → ¬ gN (xF f n0) P → ¬ (P = n0 ∧ (n0 = 0 ∨ n0 % 4 = 4 - 1)) → P < 1000 → ∀ σ3 : Sg, (∀ c, (c < 7 ∨ 9 < c) → c ≠ 0 → σ3 c = τ c) → (∀ k, k ≠ 7 → σ3 0 k = τ 0 k) → σ3 0 7 = 0 → Ret (some (nI P, σ3)) (fun F τ' =>
    (∀ c, (c < 7 ∨ 9 < c) → c ≠ 0 → τ' c = τ c) ∧ (∀ k, k ≠ 7 → τ' 0 k = τ 0 k) ∧ FL (gN f) 4 n0 F ∧ ((F = -1 ∧ τ' 0 7 = nI ((n0 + 1) / 4) ∧ rN f τ' ((n0 + 1) / 4)) ∨ (¬ F = -1 ∧ τ' 0 7 = 0))) := fun P a1 a2 a3 a4 σ3 b1 b2 b3 => ret_some.mpr ⟨b1, b2, faultN a1 a2 a3, Or.inr ⟨n_ne (by omega), b3⟩⟩
    unfold f_X10_readsParts_b64 f_X10_readsParts_b85
    rw [if_neg (show ¬ (1 : Int32) = 0 by decide)]
    refine ret_bnd (readsNeed_ok hn ht2 hf2 hi8 hr) (fun r σ3 h3 => ?_)
    rcases h3 with ⟨t, ht4, er, es, c1, c2⟩ | ⟨er, c1, c2, c3⟩
    · subst er
      subst es
      rw [if_neg (show ¬ nI 3 ≤ nI t from by rw [p_le (by omega) (by omega)]; omega), nI_add]
      refine bad _ (fun j hj => ?_) c2 (by omega) (by omega) σ3 hs h0 hN
      by_cases e : j < 4 * i
      · exact hg j e
      · rw [show j = 4 * i + (j - 4 * i) by omega]; exact c1 _ (by omega)
    · subst er
      have hs3 : ∀ c, (c < 7 ∨ 9 < c) → c ≠ 0 → σ3 c = τ c := fun c h h' => by rw [c2 c h, hs c h h']
      have h03 : σ3 0 = σ2 0 := c2 0 (by omega)
      have hg4 : ∀ j, j < 4 * i + 3 → gN (xF f n0) j := fun j hj => by
        by_cases e : j < 4 * i
        · exact hg j e
        · rw [show j = 4 * i + (j - 4 * i) by omega]; exact c1 _ (by omega)
      have hle4 : 4 * i + 3 ≤ n0 := by
        refine Nat.le_of_not_lt fun q => ?_
        exact absurd (hg4 n0 q) (gN_m1 (by unfold xF; rw [if_neg (by omega)]))
      have ht3 : σ3 1 1 = nI n0 := by rw [hs3 1 (by omega) (by omega)]; exact ht
      have hf3 : ∀ k, k < n0 → σ3 2 (39 + k) = f k := fun k hk => by rw [hs3 2 (by omega) (by omega)]; exact hf k hk
      rw [if_pos (by rw [p_le (by omega) (by omega)]; omega)]
      simp only [amlet_eq, nI_1, nI_add, cT]
      rw [gd_true (by decide), ht3, byteAt1 hn ht3 hf3 (show 4 * i + 3 < 1000 by omega), bnd_some]
      by_cases he : 4 * i + 3 = n0
      · rw [if_pos (show nI (4 * i + 3) = nI n0 from by rw [he]), if_neg (show ¬ (1 : Int32) = 0 by decide)]
        unfold f_X10_readsParts_b132 f_X10_readsParts_b149
        simp only [amlet_eq]
        rw [if_pos trivial]
        have hq : (n0 + 1) / 4 = i + 1 := by omega
        refine ret_some.mpr ⟨fun c h h' => by rw [up2_off h', up2_off h']; exact hs3 c h h', fun k hk => by 
          by_cases e : k = 2
          · subst e; rw [up2_at, upd_off hk, up2_at, upd_at, h03]; exact h0 2 (by omega)
          · rw [up2_at, upd_off hk, up2_at, upd_off e, h03]; exact h0 k hk, Or.inr ⟨fun j hj => (gN_congr fun j' hj' => by unfold xF; rw [if_pos (by omega)]).mp (hg4 j (by omega)), Or.inl ⟨Or.inr (by omega), rfl⟩⟩, Or.inl ⟨rfl, by rw [up2_at, upd_at, hq], ?_⟩⟩
        rw [hq]
        intro k hk
        obtain ⟨d1, d2, d3⟩ := c3 k hk
        rw [up2_off (by omega), up2_off (by omega), up2_off (by omega), up2_off (by omega), up2_off (by omega), up2_off (by omega), d1, d2, d3]
        unfold xF
        rw [if_pos (by omega), if_pos (by omega), if_pos (by omega)]
        exact ⟨rfl, rfl, rfl⟩
      · rw [if_neg (show ¬ nI (4 * i + 3) = nI n0 from fun q => he (nI_inj (by omega) (by omega) q))]
        by_cases h59 : xF f n0 (4 * i + 3) = (59 : Int32)
        · rw [if_pos h59, show 4 * i + 3 + 1 = 4 * (i + 1) by omega]
          refine ih _ _ _ _ _ (by omega) ⟨rfl, rfl, rfl, rfl, hs3, fun k hk => by rw [h03]; exact h0 k hk, by rw [h03]; exact hN, c3, fun j hj => ?_, by omega⟩
          by_cases e : j < 4 * i + 3
          · exact hg4 j e
          · rw [show j = 4 * i + 3 by omega]
            unfold gN
            rw [if_neg (by omega), if_neg (by omega), if_neg (by omega)]
            exact h59
        · rw [if_neg h59]
          refine bad _ hg4 (fun q => h59 ?_) (by omega) (by omega) σ3 hs3 (fun k hk => by rw [h03]; exact h0 k hk) (by rw [h03]; exact hN)
          unfold gN at q
          rw [if_neg (by omega), if_neg (by omega), if_neg (by omega)] at q
          exact q
  unfold f_X10_readsParts_b48
  rw [gd_true (by decide), cT, ht2]
  by_cases hlt : 4 * i < n0
  · rw [if_pos (by rw [p_lt (by omega) (by omega)]; exact hlt)]
    exact bd (by omega)
  · rw [if_neg (by rw [p_lt (by omega) (by omega)]; exact hlt)]
    by_cases hz : i = 0
    · subst hz
      have hn0 : n0 = 0 := by omega
      subst hn0
      rw [if_pos (by decide)]
      exact ret_some.mpr ⟨hs, h0, Or.inr ⟨fun j h => absurd h (Nat.not_lt_zero _), Or.inl ⟨Or.inl rfl, rfl⟩⟩, Or.inl ⟨rfl, hN, fun k h => by omega⟩⟩
    · rw [if_neg (by rw [show (0 : Int32) = nI 0 from rfl, p_le (by omega) (by omega)]; omega)]
      exact bd (by omega)
