/-! lie -/
theorem upd_back (f : Nat → Int32) (k : Nat) (v : Int32) : upd (upd f k v) k (f k) = f := by
  funext j
  by_cases e : j = k
  · subst e; rw [upd_at]
  · rw [upd_off e, upd_off e]
theorem SD.up2 {D σ : Sg} (h : SD D σ) (c k : Nat) (v : Int32) : SD (up2 D c k v) (up2 σ c k v) := fun c' g1 g2 => by
  by_cases e : c' = c
  · subst e; rw [up2_at, up2_at, h c' g1 g2]
  · rw [up2_off e, up2_off e, h c' g1 g2]
def cellD (D : Sg) (k c : Nat) : Sg := up2 (up2 D 7 k (nI (c / 6))) 8 k (nI (c % 6))
theorem cellD_off {D : Sg} {k c c' : Nat} (g1 : c' ≠ 7) (g2 : c' ≠ 8) : cellD D k c c' = D c' := by
  unfold cellD
  rw [up2_off g2, up2_off g1]
theorem cellD_7 (D : Sg) (k c : Nat) : cellD D k c 7 = upd (D 7) k (nI (c / 6)) := by
  unfold cellD
  rw [up2_off (by omega), up2_at]
theorem cellD_8 (D : Sg) (k c : Nat) : cellD D k c 8 = upd (D 8) k (nI (c % 6)) := by
  unfold cellD
  rw [up2_at, up2_off (by omega)]
theorem DOK.cell {D : Sg} {p q : Nat} (h : DOK D p q) (k : Nat) {c : Nat} (hc : c < 36) : DOK (cellD D k c) p q := by
  obtain ⟨h1, h2, h3, h4, h5, h6⟩ := h
  have z : ∀ c', c' ≠ 7 → c' ≠ 8 → cellD D k c c' = D c' := fun c' g1 g2 => cellD_off g1 g2
  refine ⟨h1, h2, by rw [z 5 (by omega) (by omega)]; exact h3, by rw [z 10 (by omega) (by omega)]; exact h4, fun j hj => ?_, fun j hj => ?_⟩
  · obtain ⟨a1, a2, a3, a4⟩ := h5 j hj
    rw [z 6 (by omega) (by omega), z 9 (by omega) (by omega), cellD_7, cellD_8]
    by_cases e : j = k
    · subst e
      rw [upd_at, upd_at]
      exact ⟨a1, ⟨c / 6, by omega, rfl⟩, ⟨c % 6, by omega, rfl⟩, a4⟩
    · rw [upd_off e, upd_off e]
      exact ⟨a1, a2, a3, a4⟩
  · rw [z 11 (by omega) (by omega), z 12 (by omega) (by omega), z 13 (by omega) (by omega)]
    exact h6 j hj
abbrev RC (D : Sg) (p q n : Nat) (ek ef : Nat → Int32) (en : Nat → Nat) (k c : Nat) : Nat → RS := RN (cellD D k c) p q n ek ef en selT
theorem RN_came {D : Sg} {p q n : Nat} {ek ef : Nat → Int32} {en : Nat → Nat} {sel : Nat → Bool} (h : ∀ e, e < n → en e < 24) : (RN D p q n ek ef en sel 24).2.2.2.2.length ≤ n := by
  have h1 := runL_came D p q ek ef en ((ordT n en 24).filter sel)
  have h2 := List.length_filter_le sel (ordT n en 24)
  have h3 : (ordL n en).length = n := ord_len h
  rw [ordL_T] at h3
  unfold RN
  omega
theorem tm_nat {D : Sg} {p q n : Nat} {ek ef : Nat → Int32} {en : Nat → Nat} {sel : Nat → Bool} (hp : p ≤ 8) (h : ∀ e, e < n → en e < 24) (hn : n ≤ 9) {k : Nat} (hk : k < 8) : ∃ c, c ≤ 9 ∧ (RN D p q n ek ef en sel 24).2.2.2.1 k = nI c := by
  have h1 := (RN_good (D := D) (q := q) (n := n) (ek := ek) (ef := ef) (en := en) (sel := sel) hp 24 (by omega)).2.2.1 k hk
  have h2 := RN_came (D := D) (p := p) (q := q) (ek := ek) (ef := ef) (sel := sel) h
  refine ⟨_, ?_, h1⟩
  exact Nat.le_trans List.countP_le_length (by omega)
theorem b2_nat (P : Prop) : b2 P = nI 0 ∨ b2 P = nI 1 := by
  by_cases h : P
  · rw [b2_pos h]; exact Or.inr rfl
  · rw [b2_neg h]; exact Or.inl rfl
theorem sum_nat (P : Nat → Prop) : ∀ q, ∃ k, k ≤ q ∧ sumI (fun i => b2 (P i)) q = nI k
  | 0 => ⟨0, by omega, rfl⟩
  | q + 1 => by
    obtain ⟨k, hk, e⟩ := sum_nat P q
    rw [sumI_s, e]
    rcases b2_nat (P q) with hb | hb
    · rw [hb, nI_add]; exact ⟨k + 0, by omega, rfl⟩
    · rw [hb, nI_add]; exact ⟨k + 1, by omega, rfl⟩
theorem st_nat (R : Nat → RS) (k : Int32) : ∃ c, c ≤ 24 ∧ stS R k = nI c := sum_nat _ 24
noncomputable def nuF (D : Sg) (p q n : Nat) (ek ef : Nat → Int32) (en : Nat → Nat) (k c : Nat) : Int32 := if (RC D p q n ek ef en k c 24).2.2.2.1 k = 0 then -1 else stS (RC D p q n ek ef en k c) (nI k)
theorem nightsUpFrom_x {D : Sg} {p q n0 n1 n m : Nat} {ek ef : Nat → Int32} {en : Nat → Nat} {σ : Sg} (h : XI D p q n0 n1 n m ek ef en σ) {k c : Nat} (hk : k < p) (hc : c < 36) : XV D p q n0 n1 n m ek ef en (f_X9_nightsUpFrom σ (nI k) (nI c)) (nuF D p q n ek ef en k c) := by
  have hp8 := h.1.sizes
  have hn8 := h.2.2.2.1
  unfold f_X9_nightsUpFrom
  have d6 : nI c / (6 : Int32) = nI (c / 6) := by rw [n_lit 6, pk_div (by omega) (by omega) (by omega)]
  have m6 : nI c - nI c / (6 : Int32) * (6 : Int32) = nI (c % 6) := by rw [n_lit 6, pk_rem (by omega) (by omega) (by omega)]
  rw [m6, d6, gd_in (show k < 8 by omega) (by omega), cl_nI (by omega), amlet_eq, gd_in (show k < 8 by omega) (by omega), amlet_eq, gd_in (show k < 8 by omega) (by omega), amlet_eq, gd_in (show k < 8 by omega) (by omega), amlet_eq]
  have hSD : SD (cellD D k c) (up2 (up2 σ 7 k (nI (c / 6))) 8 k (nI (c % 6))) := (h.sd.up2 7 k _).up2 8 k _
  obtain ⟨u, σ6, e1, b1, b2⟩ := run_hc (c0 := 35) (h.dok.cell k hc) hSD (h.eok.move (σ' := up2 (up2 σ 7 k (nI (c / 6))) 8 k (nI (c % 6))) fun c g1 g2 => by rw [up2_off (by omega), up2_off (by omega)]) (by omega) (by omega) (-1)
  rw [e1, bnd_some, gd_in (show k < 8 by omega) (by omega), amlet_eq, gd_in (show k < 8 by omega) (by omega), amlet_eq, gd_in (show k < 8 by omega) (by omega)]
  generalize hσ : up2 (up2 σ6 7 k (σ 7 k)) 8 k (σ 8 k) = σ8
  have hσ8 : ∀ c', (c' < 35 ∨ 41 < c') → σ8 c' = σ c' := fun c' hc' => by
    rw [← hσ]
    by_cases e8 : c' = 8
    · subst e8
      rw [up2_at, up2_off (by omega), b1 8 (by omega), up2_at, up2_off (show (8 : Nat) ≠ 7 by omega), upd_back]
    · rw [up2_off e8]
      by_cases e7 : c' = 7
      · subst e7
        rw [up2_at, b1 7 (by omega), up2_off (by omega), up2_at, upd_back]
      · rw [up2_off e7, b1 c' hc', up2_off e8, up2_off e7]
  have hH : HC (cellD D k c) p q n ek ef en selT σ8 35 := (b2.sel fun e he => selI_T e (by omega)).move fun c' g1 g2 => by rw [← hσ, up2_off (by omega), up2_off (by omega)]
  have hX : XI D p q n0 n1 n m ek ef en σ8 := h.fr fun c' hc' => hσ8 c' (by omega)
  have e38 : σ8 38 k = (RC D p q n ek ef en k c 24).2.2.2.1 k := hH.1.2.2.2.1 k (by omega)
  rw [e38]
  unfold nuF
  by_cases h0 : (RC D p q n ek ef en k c 24).2.2.2.1 k = 0
  · rw [if_pos h0, if_pos h0]; exact xv_some hX
  · rw [if_neg h0, if_neg h0, nightsUp_ok (R := RC D p q n ek ef en k c) (fun t ht => hH.2 t ht), bnd_some]
    exact xv_some hX
def othB (D : Sg) (p k c : Nat) : Bool := decide (∃ j, j < p ∧ j ≠ k ∧ D 7 j = nI (c / 6) ∧ D 8 j = nI (c % 6))
def lS (oth : Nat → Bool) (tm st : Nat → Int32) : Nat → Int32 × Int32
  | 0 => (-1, 0)
  | c + 1 => if oth c = true then lS oth tm st c else if tm c = 0 then lS oth tm st c else if (lS oth tm st c).1 = -1 then (nI c, st c) else if (lS oth tm st c).2 ≤ st c then lS oth tm st c else (nI c, st c)
theorem lS_s (oth : Nat → Bool) (tm st : Nat → Int32) (c : Nat) : lS oth tm st (c + 1) = if oth c = true then lS oth tm st c else if tm c = 0 then lS oth tm st c else if (lS oth tm st c).1 = -1 then (nI c, st c) else if (lS oth tm st c).2 ≤ st c then lS oth tm st c else (nI c, st c) := rfl
theorem lS_in (oth : Nat → Bool) (tm st : Nat → Int32) : ∀ i, (lS oth tm st i).1 = -1 ∨ ∃ c, c < i ∧ lS oth tm st i = (nI c, st c) ∧ ¬ tm c = 0
  | 0 => Or.inl rfl
  | i + 1 => by
    have ih := lS_in oth tm st i
    have ih2 : (lS oth tm st i).1 = -1 ∨ ∃ c, c < i + 1 ∧ lS oth tm st i = (nI c, st c) ∧ ¬ tm c = 0 := ih.imp id fun ⟨c, h, q⟩ => ⟨c, by omega, q⟩
    rw [lS_s]
    by_cases h1 : oth i = true
    · rw [if_pos h1]; exact ih2
    rw [if_neg h1]
    by_cases h2 : tm i = 0
    · rw [if_pos h2]; exact ih2
    rw [if_neg h2]
    by_cases h3 : (lS oth tm st i).1 = -1
    · rw [if_pos h3]; exact Or.inr ⟨i, by omega, rfl, h2⟩
    rw [if_neg h3]
    by_cases h4 : (lS oth tm st i).2 ≤ st i
    · rw [if_pos h4]; exact ih2
    · rw [if_neg h4]; exact Or.inr ⟨i, by omega, rfl, h2⟩
noncomputable def lieS (D : Sg) (p q n : Nat) (ek ef : Nat → Int32) (en : Nat → Nat) (k : Nat) : Nat → Int32 × Int32 := lS (othB D p k) (fun c => (RC D p q n ek ef en k c 24).2.2.2.1 k) (fun c => stS (RC D p q n ek ef en k c) (nI k))
theorem lieS_s (D : Sg) (p q n : Nat) (ek ef : Nat → Int32) (en : Nat → Nat) (k c : Nat) : lieS D p q n ek ef en k (c + 1) = if othB D p k c = true then lieS D p q n ek ef en k c else if (RC D p q n ek ef en k c 24).2.2.2.1 k = 0 then lieS D p q n ek ef en k c else if (lieS D p q n ek ef en k c).1 = -1 then (nI c, stS (RC D p q n ek ef en k c) (nI k)) else if (lieS D p q n ek ef en k c).2 ≤ stS (RC D p q n ek ef en k c) (nI k) then lieS D p q n ek ef en k c else (nI c, stS (RC D p q n ek ef en k c) (nI k)) := rfl
theorem lieS_in (D : Sg) (p q n : Nat) (ek ef : Nat → Int32) (en : Nat → Nat) (k i : Nat) : (lieS D p q n ek ef en k i).1 = -1 ∨ ∃ c, c < i ∧ lieS D p q n ek ef en k i = (nI c, stS (RC D p q n ek ef en k c) (nI k)) ∧ ¬ (RC D p q n ek ef en k c 24).2.2.2.1 k = 0 := lS_in _ _ _ i
theorem bestCell_x {D : Sg} {p q n0 n1 n m : Nat} {ek ef : Nat → Int32} {en : Nat → Nat} {σ : Sg} (h : XI D p q n0 n1 n m ek ef en σ) {k : Nat} (hk : k < p) : XV D p q n0 n1 n m ek ef en (f_X9_bestCell σ (nI k)) (lieS D p q n ek ef en k 36).1 := by
  have hp8 := h.1.sizes
  have hn8 := h.2.2.2.1
  unfold f_X9_bestCell
  have gen : ∀ N, N = 36 → XV D p q n0 n1 n m ek ef en (f_X9_bestCell_l8 300 σ (nI k) (-1 : Int32) (25 : Int32) (0 : Int32)) (lieS D p q n ek ef en k N).1 := fun N hN => by
    refine i_X9_bestCell_l8 36 (fun i σ2 x1 x2 x3 x4 => x1 = nI k ∧ x2 = (lieS D p q n ek ef en k i).1 ∧ ((lieS D p q n ek ef en k i).1 = -1 → x3 = 25) ∧ (¬ (lieS D p q n ek ef en k i).1 = -1 → x3 = (lieS D p q n ek ef en k i).2) ∧ x4 = nI i ∧ XI D p q n0 n1 n m ek ef en σ2) (fun σ2 x1 x2 x3 x4 r => XV D p q n0 n1 n m ek ef en r (lieS D p q n ek ef en k N).1) ?_ 300 0 (by omega) (by omega) σ (nI k) (-1) 25 0 ⟨rfl, rfl, fun _ => rfl, fun q => absurd rfl q, rfl, h⟩
    intro i kk σ2 x1 x2 x3 x4 hi hI ih
    obtain ⟨rfl, rfl, hx3, hx3', rfl, hX⟩ := hI
    unfold f_X9_bestCell_b8 f_X9_bestCell_b70
    rw [n_lit 36]
    rcases Nat.lt_or_ge i 36 with hlt | hge
    · have d6 : nI i / (6 : Int32) = nI (i / 6) := by rw [n_lit 6, pk_div (by omega) (by omega) (by omega)]
      have m6 : nI i - nI i / (6 : Int32) * (6 : Int32) = nI (i % 6) := by rw [n_lit 6, pk_rem (by omega) (by omega) (by omega)]
      rw [at_go hlt (by omega), m6, d6, hX.h5, nI_1]
      simp only [amlet_eq]
      obtain ⟨v, e1, hv⟩ := liesAnother_ok σ2 (nI (i / 6)) (nI (i % 6)) k p (by omega) hp8.1
      rw [e1, bnd_some]
      have eo : (∃ j, j < p ∧ j ≠ k ∧ σ2 7 j = nI (i / 6) ∧ σ2 8 j = nI (i % 6)) ↔ othB D p k i = true := by
        unfold othB
        rw [decide_eq_true_eq, hX.sd 7 (by omega) (by omega), hX.sd 8 (by omega) (by omega)]
      have ss := lieS_s D p q n ek ef en k i
      rcases hv with ⟨rfl, hno⟩ | ⟨rfl, hyes⟩
      · rw [if_neg (fun q => hno (eo.mpr q))] at ss
        rw [if_pos rfl]
        obtain ⟨r, σ3, e2, er, hX3⟩ := nightsUpFrom_x hX hk hlt
        rw [e2, bnd_some, er]
        unfold nuF
        obtain ⟨st, hst, est⟩ := st_nat (RC D p q n ek ef en k i) (nI k)
        by_cases h0 : (RC D p q n ek ef en k i 24).2.2.2.1 k = 0
        · rw [if_pos h0] at ss
          simp only [if_pos h0]
          rw [if_pos trivial]
          exact ih _ _ _ _ _ hlt ⟨rfl, by rw [ss], by rw [ss]; exact hx3, by rw [ss]; exact hx3', rfl, hX3⟩
        · rw [if_neg h0] at ss
          simp only [if_neg h0]
          rw [if_neg (show ¬ stS (RC D p q n ek ef en k i) (nI k) = -1 by rw [est]; exact n_ne (by omega))]
          by_cases hb : (lieS D p q n ek ef en k i).1 = -1
          · rw [if_pos hb] at ss
            rw [hx3 hb, if_neg (show ¬ (25 : Int32) ≤ stS (RC D p q n ek ef en k i) (nI k) by rw [est, n_lit 25, p_le (by omega) (by omega)]; omega)]
            exact ih _ _ _ _ _ hlt ⟨rfl, by rw [ss], fun q => absurd (by rw [ss] at q; exact q) (n_ne (show i < 2147483648 by omega)), fun _ => by rw [ss], rfl, hX3⟩
          · rw [if_neg hb] at ss
            rw [hx3' hb]
            by_cases hl : (lieS D p q n ek ef en k i).2 ≤ stS (RC D p q n ek ef en k i) (nI k)
            · rw [if_pos hl] at ss ⊢
              exact ih _ _ _ _ _ hlt ⟨rfl, by rw [ss], fun q => absurd (by rw [ss] at q; exact q) hb, fun _ => by rw [ss], rfl, hX3⟩
            · rw [if_neg hl] at ss ⊢
              exact ih _ _ _ _ _ hlt ⟨rfl, by rw [ss], fun q => absurd (by rw [ss] at q; exact q) (n_ne (show i < 2147483648 by omega)), fun _ => by rw [ss], rfl, hX3⟩
      · rw [if_pos (eo.mp hyes)] at ss
        rw [if_neg (by decide)]
        exact ih _ _ _ _ _ hlt ⟨rfl, by rw [ss], by rw [ss]; exact hx3, by rw [ss]; exact hx3', rfl, hX⟩
    · have e : i = 36 := by omega
      rw [e, at_end (Nat.le_refl _) (by omega), ← hN]
      exact xv_some hX
  exact gen 36 rfl
noncomputable def vLie (D : Sg) (p q n : Nat) (ek ef : Nat → Int32) (en : Nat → Nat) (k : Nat) (a : Int32) : Int32 := if (lieS D p q n ek ef en k 36).1 = -1 then -1 else if a = 0 then (lieS D p q n ek ef en k 36).1 / 6 else if a = 1 then (lieS D p q n ek ef en k 36).1 - (lieS D p q n ek ef en k 36).1 / 6 * 6 else (lieS D p q n ek ef en k 36).2
theorem tellCell_x {D : Sg} {p q n0 n1 n m : Nat} {ek ef : Nat → Int32} {en : Nat → Nat} {σ : Sg} (h : XI D p q n0 n1 n m ek ef en σ) {k : Nat} (hk : k < p) (a : Int32) : XV D p q n0 n1 n m ek ef en (f_X9_tellCell σ (nI k) (lieS D p q n ek ef en k 36).1 a) (vLie D p q n ek ef en k a) := by
  unfold f_X9_tellCell vLie
  rcases lieS_in D p q n ek ef en k 36 with hb | ⟨c, hc, e, ht⟩
  · rw [if_pos hb, if_pos hb]; exact xv_some h
  · rw [e, if_neg (n_ne (show c < 2147483648 by omega)), if_neg (n_ne (show c < 2147483648 by omega))]
    by_cases h0 : a = 0
    · rw [if_pos h0, if_pos h0]; exact xv_some h
    rw [if_neg h0, if_neg h0]
    by_cases h1 : a = 1
    · rw [if_pos h1, if_pos h1]; exact xv_some h
    rw [if_neg h1, if_neg h1]
    obtain ⟨r, σ3, e2, er, hX3⟩ := nightsUpFrom_x h hk hc
    rw [e2, bnd_some, er]
    unfold nuF
    rw [if_neg ht]
    exact xv_some hX3
theorem lie_x {D : Sg} {p q n0 n1 n m : Nat} {ek ef : Nat → Int32} {en : Nat → Nat} {σ : Sg} (h : XI D p q n0 n1 n m ek ef en σ) {k : Nat} (hk : k < p) {a : Int32} (ha : 0 ≤ a ∧ a < 3) : XV D p q n0 n1 n m ek ef en (f_X9_lie σ (nI k) a) (vLie D p q n ek ef en k a) := by
  have hp8 := h.1.sizes
  unfold f_X9_lie
  simp only [isBelow_eq, bnd_some, one_if]
  rw [h.h5, if_pos (of_below hk (by omega)), if_pos ha]
  obtain ⟨r, σ1, e, er, hX⟩ := bestCell_x h hk
  rw [e, bnd_some, er]
  obtain ⟨r2, σ2, e2, er2, hX2⟩ := tellCell_x hX hk a
  rw [e2, bnd_some, er2]
  exact xv_some hX2
/-- the reference -/
theorem isOther_ok (τ : Sg) (k n : Nat) (hn : n ≤ 8) (hk : k < 100) (h2 : τ 0 2 = nI n) (x y : Int32) : f_X10_isOther τ (nI k) x y = some (if ∃ j, j < n ∧ j ≠ k ∧ τ 4 j = x ∧ τ 5 j = y then 1 else 0, τ) := by
  unfold f_X10_isOther
  refine i_X10_isOther_l6 n (fun i σ2 x1 x2 x3 x4 x5 => σ2 = τ ∧ x1 = nI k ∧ x2 = x ∧ x3 = y ∧ x4 = (if ∃ j, j < i ∧ j ≠ k ∧ τ 4 j = x ∧ τ 5 j = y then 1 else 0) ∧ x5 = nI i) (fun σ2 x1 x2 x3 x4 x5 r => r = some (if ∃ j, j < n ∧ j ≠ k ∧ τ 4 j = x ∧ τ 5 j = y then 1 else 0, τ)) ?_ 300 0 (by omega) (by omega) τ (nI k) x y 0 0 ⟨rfl, rfl, rfl, rfl, (if_neg (fun ⟨j, h, _⟩ => absurd h (Nat.not_lt_zero _))).symm, rfl⟩
  intro i kk σ2 x1 x2 x3 x4 x5 hi hI ih
  obtain ⟨rfl, rfl, rfl, rfl, rfl, rfl⟩ := hI
  unfold f_X10_isOther_b6 f_X10_isOther_b48 f_X10_isOther_b52 f_X10_isOther_b53
  rw [h2]
  rcases Nat.lt_or_ge i n with hlt | hge
  · rw [at_go hlt (by omega), one_if]
    simp only [amlet_eq, nI_1, gd_in (show i < 9 by omega) (show 9 < 2 ^ 31 by omega), cl_nI (show i < 2147483648 by omega)]
    have go : ∀ v : Int32, v = (if ∃ j, j < i + 1 ∧ j ≠ k ∧ σ2 4 j = x2 ∧ σ2 5 j = x3 then 1 else 0) → kk σ2 (nI k) x2 x3 v (nI (i + 1)) = _ := fun v hv => ih _ _ _ _ _ _ hlt ⟨rfl, rfl, rfl, rfl, hv, rfl⟩
    by_cases hE : ∃ j, j < i ∧ j ≠ k ∧ σ2 4 j = x2 ∧ σ2 5 j = x3
    · rw [if_pos hE]
      obtain ⟨j, hj, hh⟩ := hE
      exact go 1 (if_pos ⟨j, by omega, hh⟩).symm
    · rw [if_neg hE]
      have no : ¬ (i ≠ k ∧ σ2 4 i = x2 ∧ σ2 5 i = x3) → (0 : Int32) = (if ∃ j, j < i + 1 ∧ j ≠ k ∧ σ2 4 j = x2 ∧ σ2 5 j = x3 then 1 else 0) := fun hno => (if_neg (fun ⟨j, hj, hh⟩ => by
        by_cases e : j = i
        · rw [e] at hh; exact hno hh
        · exact hE ⟨j, by omega, hh⟩)).symm
      by_cases h0 : nI i = nI k
      · rw [if_pos h0]
        exact go 0 (no fun q => q.1 (nI_inj (by omega) (by omega) h0))
      rw [if_neg h0]
      by_cases h1 : σ2 4 i = x2
      · rw [if_pos h1]
        by_cases h2 : σ2 5 i = x3
        · rw [if_pos h2]
          exact go 1 (if_pos ⟨i, by omega, fun q => h0 (by rw [q]), h1, h2⟩).symm
        · rw [if_neg h2]
          exact go 0 (no fun q => h2 q.2.2)
      · rw [if_neg h1]
        exact go 0 (no fun q => h1 q.2.1)
  · have e : i = n := by omega
    subst e
    rw [at_end (Nat.le_refl _) (by omega), gd_bool]
theorem MG.cell {D D' τ : Sg} {p q k c : Nat} (h : MG D' τ p q) (e : ∀ c, c ≠ 7 → c ≠ 8 → D' c = D c) (e7 : ∀ j, j ≠ k → D' 7 j = D 7 j ∧ D' 8 j = D 8 j) (x y : Int32) : MG (up2 (up2 D 7 k x) 8 k y) (up2 (up2 τ 4 k x) 5 k y) p q := by
  obtain ⟨h1, h2, h3, h4⟩ := h
  refine ⟨by rw [up2_off (by omega), up2_off (by omega)]; exact h1, by rw [up2_off (by omega), up2_off (by omega)]; exact h2, fun j hj => ?_, fun j hj => ?_⟩
  · obtain ⟨a1, a2, a3, a4⟩ := h3 j hj
    rw [up2_off (show (3 : Nat) ≠ 5 by omega), up2_off (show (3 : Nat) ≠ 4 by omega), up2_off (show (4 : Nat) ≠ 5 by omega), up2_at, up2_at, up2_off (show (5 : Nat) ≠ 4 by omega), up2_off (show (6 : Nat) ≠ 5 by omega), up2_off (show (6 : Nat) ≠ 4 by omega), up2_off (show (6 : Nat) ≠ 8 by omega), up2_off (show (6 : Nat) ≠ 7 by omega), up2_off (show (7 : Nat) ≠ 8 by omega), up2_at, up2_at, up2_off (show (8 : Nat) ≠ 7 by omega), up2_off (show (9 : Nat) ≠ 8 by omega), up2_off (show (9 : Nat) ≠ 7 by omega), ← e 6 (by omega) (by omega), ← e 9 (by omega) (by omega)]
    by_cases q : j = k
    · subst q; rw [upd_at, upd_at, upd_at, upd_at]; exact ⟨a1, rfl, rfl, a4⟩
    · rw [upd_off q, upd_off q, upd_off q, upd_off q, ← (e7 j q).1, ← (e7 j q).2]; exact ⟨a1, a2, a3, a4⟩
  · obtain ⟨a1, a2, a3⟩ := h4 j hj
    rw [up2_off (show (7 : Nat) ≠ 5 by omega), up2_off (show (7 : Nat) ≠ 4 by omega), up2_off (show (8 : Nat) ≠ 5 by omega), up2_off (show (8 : Nat) ≠ 4 by omega), up2_off (show (9 : Nat) ≠ 5 by omega), up2_off (show (9 : Nat) ≠ 4 by omega), up2_off (show (11 : Nat) ≠ 8 by omega), up2_off (show (11 : Nat) ≠ 7 by omega), up2_off (show (12 : Nat) ≠ 8 by omega), up2_off (show (12 : Nat) ≠ 7 by omega), up2_off (show (13 : Nat) ≠ 8 by omega), up2_off (show (13 : Nat) ≠ 7 by omega), ← e 11 (by omega) (by omega), ← e 12 (by omega) (by omega), ← e 13 (by omega) (by omega)]
    exact ⟨a1, a2, a3⟩
theorem up2_self (D : Sg) (c k : Nat) : up2 D c k (D c k) = D := by
  funext c'
  by_cases e : c' = c
  · subst e
    rw [up2_at]
    funext j
    by_cases q : j = k
    · subst q; rw [upd_at]
    · rw [upd_off q]
  · rw [up2_off e]
theorem lie_m {D : Sg} {p q n0 n1 n m : Nat} {ek ef : Nat → Int32} {en : Nat → Nat} {τ : Sg} (h : MI D p q n0 n1 n m ek ef en τ) {k : Nat} (hk : k < p) (a : Int32) : MV D p q n0 n1 n m ek ef en (f_X10_lieOf τ (nI k) a) (vLie D p q n ek ef en k a) := by
  have hp8 := h.1.sizes
  have hn8 := h.2.2.2.1
  have hen : ∀ e, e < n → en e < 24 := fun e he => (h.2.2.2.2.2.2.1 e he).2.2.2.1
  unfold f_X10_lieOf
  obtain ⟨u, τ1, e1, hM1, hG1, hE1, h19⟩ := asTold_m h
  obtain ⟨-, e4, e5, -⟩ := hG1.2.2.1 k hk
  rw [e1, bnd_some, gd_in (show k < 9 by omega) (by omega), cl_nI (by omega), amlet_eq, gd_in (show k < 9 by omega) (by omega), amlet_eq, e4, e5]
  have gen : ∀ N, N = 36 → MV D p q n0 n1 n m ek ef en (f_X10_lieOf_l28 300 τ1 (nI k) a (D 7 k) (D 8 k) (-1 : Int32) (0 : Int32) (0 : Int32)) (if (lieS D p q n ek ef en k N).1 = -1 then -1 else if a = 0 then (lieS D p q n ek ef en k N).1 / 6 else if a = 1 then (lieS D p q n ek ef en k N).1 - (lieS D p q n ek ef en k N).1 / 6 * 6 else (lieS D p q n ek ef en k N).2) := fun N hN => by
    refine i_X10_lieOf_l28 36 (fun i σ2 x1 x2 x3 x4 x5 x6 x7 => x1 = nI k ∧ x2 = a ∧ x3 = D 7 k ∧ x4 = D 8 k ∧ x5 = (lieS D p q n ek ef en k i).1 ∧ x6 = (lieS D p q n ek ef en k i).2 ∧ x7 = nI i ∧ MI D p q n0 n1 n m ek ef en σ2 ∧ (∃ D', MG D' σ2 p q ∧ (∀ c, c ≠ 7 → c ≠ 8 → D' c = D c) ∧ ∀ j, j ≠ k → D' 7 j = D 7 j ∧ D' 8 j = D 8 j) ∧ EM σ2 n ek ef en ∧ σ2 0 19 = 0) (fun σ2 x1 x2 x3 x4 x5 x6 x7 r => MV D p q n0 n1 n m ek ef en r (if (lieS D p q n ek ef en k N).1 = -1 then -1 else if a = 0 then (lieS D p q n ek ef en k N).1 / 6 else if a = 1 then (lieS D p q n ek ef en k N).1 - (lieS D p q n ek ef en k N).1 / 6 * 6 else (lieS D p q n ek ef en k N).2)) ?_ 300 0 (by omega) (by omega) τ1 (nI k) a (D 7 k) (D 8 k) (-1) 0 0 ⟨rfl, rfl, rfl, rfl, rfl, rfl, rfl, hM1, ⟨D, hG1, fun _ _ _ => rfl, fun _ _ => ⟨rfl, rfl⟩⟩, hE1, h19⟩
    intro i kk σ2 x1 x2 x3 x4 x5 x6 x7 hi hI ih
    obtain ⟨rfl, rfl, rfl, rfl, rfl, rfl, rfl, hM, ⟨D', hG, hD, hD7⟩, hE, h19⟩ := hI
    unfold f_X10_lieOf_b28 f_X10_lieOf_b143 f_X10_lieOf_b112 f_X10_lieOf_b108 f_X10_lieOf_b113 f_X10_lieOf_b127 f_X10_lieOf_b141 f_X10_lieOf_b143
    rw [n_lit 36]
    rcases Nat.lt_or_ge i 36 with hlt | hge
    · have d6 : nI i / (6 : Int32) = nI (i / 6) := by rw [n_lit 6, pk_div (by omega) (by omega) (by omega)]
      have m6 : nI i - nI i / (6 : Int32) * (6 : Int32) = nI (i % 6) := by rw [n_lit 6, pk_rem (by omega) (by omega) (by omega)]
      rw [at_go hlt (by omega), m6, d6, nI_1, isOther_ok σ2 k p hp8.1 (by omega) hG.1, bnd_some, one_if]
      have eo : (∃ j, j < p ∧ j ≠ k ∧ σ2 4 j = nI (i / 6) ∧ σ2 5 j = nI (i % 6)) ↔ othB D p k i = true := by
        unfold othB
        rw [decide_eq_true_eq]
        refine exists_congr fun j => and_congr_right fun hj => and_congr_right fun hjk => ?_
        obtain ⟨-, g4, g5, -⟩ := hG.2.2.1 j hj
        rw [g4, g5, (hD7 j hjk).1, (hD7 j hjk).2]
      have ss := lieS_s D p q n ek ef en k i
      simp only [amlet_eq]
      by_cases ho : othB D p k i = true
      · rw [if_pos (eo.mpr ho)]
        rw [if_pos ho] at ss
        exact ih _ _ _ _ _ _ _ _ hlt ⟨rfl, rfl, rfl, rfl, by rw [ss], by rw [ss], rfl, hM, ⟨D', hG, hD, hD7⟩, hE, h19⟩
      · rw [if_neg (fun q => ho (eo.mp q))]
        rw [if_neg ho] at ss
        rw [gd_in (show k < 9 by omega) (by omega), cl_nI (by omega), gd_in (show k < 9 by omega) (by omega)]
        have hGc : MG (cellD D k i) (up2 (up2 σ2 4 k (nI (i / 6))) 5 k (nI (i % 6))) p q := hG.cell (c := i) hD hD7 (nI (i / 6)) (nI (i % 6))
        generalize hτ : up2 (up2 σ2 4 k (nI (i / 6))) 5 k (nI (i % 6)) = τ3 at hGc
        have w : ∀ c, c ≠ 4 → c ≠ 5 → τ3 c = σ2 c := fun c g1 g2 => by rw [← hτ, up2_off g2, up2_off g1]
        obtain ⟨u4, τ4, e4, c1, c2, c3, c4, c5, c6, c7, c8⟩ := runs_m (D' := cellD D k i) (hM.fr (τ' := τ3) (fun c hc => w c (by omega) (by omega)) (fun k hk => by rw [w 0 (by omega) (by omega)])) (hM.1.dok.cell k hlt) hGc (hE.move (by rw [w 0 (by omega) (by omega)]) (fun c g1 g2 => w c (by omega) (by omega)))
        rw [w 0 (by omega) (by omega), h19, RN_selF (sel' := selT) (fun e he => selM_T e (by omega))] at c7 c8
        rw [e4, bnd_some, stoodNow_ok (R := RC D p q n ek ef en k i) (fun t ht => (c8 t ht).1), bnd_some, gd_in (show k < 8 by omega) (by omega), c7.2.2.2.1 k (by omega)]
        have hst : MI D p q n0 n1 n m ek ef en τ4 ∧ (∃ D', MG D' τ4 p q ∧ (∀ c, c ≠ 7 → c ≠ 8 → D' c = D c) ∧ ∀ j, j ≠ k → D' 7 j = D 7 j ∧ D' 8 j = D 8 j) ∧ EM τ4 n ek ef en ∧ τ4 0 19 = 0 := by
          refine ⟨c1, ⟨cellD D k i, c2, fun c g1 g2 => cellD_off g1 g2, fun j hj => ?_⟩, c3, by rw [c4, w 0 (by omega) (by omega), h19]⟩
          rw [cellD_7, cellD_8, upd_off hj, upd_off hj]
          exact ⟨rfl, rfl⟩
        obtain ⟨tm, htm, etm⟩ := tm_nat (D := cellD D k i) (p := p) (q := q) (n := n) (ek := ek) (ef := ef) (en := en) (sel := selT) hp8.1 hen (by omega) (show k < 8 by omega)
        simp only [etm] at ss ⊢
        by_cases h0 : tm = 0
        · rw [if_pos (show nI tm ≤ 0 by rw [h0]; decide), if_pos trivial]
          rw [if_pos (show nI tm = 0 by rw [h0]; rfl)] at ss
          simp only [if_true]
          exact ih _ _ _ _ _ _ _ _ hlt ⟨rfl, rfl, rfl, rfl, by rw [ss], by rw [ss], rfl, hst⟩
        · rw [if_neg (show ¬ nI tm ≤ 0 by rw [show (0 : Int32) = nI 0 from rfl, p_le (by omega) (by omega)]; omega)]
          rw [if_neg (nI_ne0 (by omega) (by omega))] at ss
          simp only [if_neg (show ¬ (1 : Int32) = 0 by decide), if_true]
          by_cases hb : (lieS D p q n ek ef en k i).1 = -1
          · rw [if_pos hb] at ss ⊢
            exact ih _ _ _ _ _ _ _ _ hlt ⟨rfl, rfl, rfl, rfl, by rw [ss], by rw [ss], rfl, hst⟩
          · rw [if_neg hb] at ss ⊢
            by_cases hl : (lieS D p q n ek ef en k i).2 ≤ stS (RC D p q n ek ef en k i) (nI k)
            · rw [if_pos hl] at ss ⊢
              exact ih _ _ _ _ _ _ _ _ hlt ⟨rfl, rfl, rfl, rfl, by rw [ss], by rw [ss], rfl, hst⟩
            · rw [if_neg hl] at ss ⊢
              exact ih _ _ _ _ _ _ _ _ hlt ⟨rfl, rfl, rfl, rfl, by rw [ss], by rw [ss], rfl, hst⟩
    · have e : i = 36 := by omega
      rw [e, at_end (Nat.le_refl _) (by omega), ← hN, gd_in (show k < 9 by omega) (by omega), cl_nI (by omega), amlet_eq, gd_in (show k < 9 by omega) (by omega), amlet_eq]
      have hGc := hG.cell (c := i) hD hD7 (D 7 k) (D 8 k)
      have e78 : up2 (up2 D 7 k (D 7 k)) 8 k (D 8 k) = D := by rw [up2_self, up2_self]
      rw [e78] at hGc
      generalize hτ : up2 (up2 σ2 4 k (D 7 k)) 5 k (D 8 k) = τ3 at hGc ⊢
      have hM3 : MI D p q n0 n1 n m ek ef en τ3 := hM.fr (fun c hc => by rw [← hτ, up2_off (by omega), up2_off (by omega)]) (fun k hk => by rw [← hτ, up2_off (by omega), up2_off (by omega)])
      by_cases hb : (lieS D p q n ek ef en k N).1 = -1
      · rw [if_pos hb, if_pos hb]; exact mv_some hM3 hGc
      rw [if_neg hb, if_neg hb]
      by_cases h0 : x2 = 0
      · rw [if_pos h0, if_pos h0]; exact mv_some hM3 hGc
      rw [if_neg h0, if_neg h0]
      by_cases h1 : x2 = 1
      · rw [if_pos h1, if_pos h1]; exact mv_some hM3 hGc
      rw [if_neg h1, if_neg h1]
      exact mv_some hM3 hGc
  exact gen 36 rfl
theorem ag_lie {D : Sg} {p q n0 n1 n m : Nat} {ek ef : Nat → Int32} {en : Nat → Nat} {σ τ : Sg} (h : XI D p q n0 n1 n m ek ef en σ) (g : MI D p q n0 n1 n m ek ef en τ) (a1 a2 : Int32) : Agr (f_X9_lie σ a1 a2) (f_X10_lie τ a1 a2) := by
  have hp8 := h.1.sizes
  have ref : (¬ ((0 ≤ a1 ∧ a1 < nI p) ∧ (0 ≤ a2 ∧ a2 < 3))) → XV D p q n0 n1 n m ek ef en (f_X9_lie σ a1 a2) (-2) := fun hno => by
    unfold f_X9_lie
    simp only [isBelow_eq, bnd_some, one_if, h.h5]
    by_cases h1 : 0 ≤ a1 ∧ a1 < nI p
    · rw [if_pos h1, if_neg (fun q => hno ⟨h1, q⟩)]; exact xv_some h
    · rw [if_neg h1]; exact xv_some h
  unfold f_X10_lie
  obtain ⟨r, τ1, e, g1, gG, rfl⟩ := isOne_ok g a1
  rw [e, bnd_some, one_if, isThree_eq, bnd_some, one_if]
  by_cases h1 : 0 ≤ a1 ∧ a1 < nI p
  rotate_left
  · rw [if_neg h1]; exact agr_of (ref fun q => h1 q.1) (mu_some g1)
  rw [if_pos h1]
  by_cases h2 : 0 ≤ a2 ∧ a2 < 3
  rotate_left
  · rw [if_neg h2]; exact agr_of (ref fun q => h2 q.2) (mu_some g1)
  rw [if_pos h2]
  obtain ⟨k, hk, rfl⟩ := below_of (N := p) (by omega) h1
  exact agr_of (lie_x h hk h2) (mu_id (lie_m g1 hk a2).u)
