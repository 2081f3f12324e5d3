/-! met, stood, wrongly, first, gate, rest, gone, need, count -/
theorem met_x {D : Sg} {p q n0 n1 n m : Nat} {ek ef : Nat → Int32} {en : Nat → Nat} {σ : Sg} (h : XI D p q n0 n1 n m ek ef en σ) {k : Nat} (hk : k < q) : XV D p q n0 n1 n m ek ef en (f_X9_met σ (nI k)) ((RN D p q n ek ef en selT 24).2.2.1 k) := by
  have hp8 := h.1.sizes
  unfold f_X9_met
  rw [isBelow_eq, bnd_some, one_if, h.h10, if_pos (of_below hk (by omega))]
  obtain ⟨r, σ1, e, er, hX, hc⟩ := asTold_x h
  rw [e, bnd_some, gd28 er, gd_in (show k < 8 by omega) (by omega), cl_nI (by omega), show σ1 29 k = _ from hc.1.2.2.1 k (by omega)]
  exact xv_some hX
theorem met_m {D : Sg} {p q n0 n1 n m : Nat} {ek ef : Nat → Int32} {en : Nat → Nat} {τ : Sg} (h : MI D p q n0 n1 n m ek ef en τ) {k : Nat} (hk : k < q) : MV D p q n0 n1 n m ek ef en (f_X10_metOf τ (nI k)) ((RN D p q n ek ef en selT 24).2.2.1 k) := by
  have hp8 := h.1.sizes
  unfold f_X10_metOf
  obtain ⟨r, τ1, e, hM, hG, hR, hN⟩ := runsTold_m h
  rw [e, bnd_some, gd_in (show k < 8 by omega) (by omega), cl_nI (by omega), hR.2.2.1 k (by omega)]
  exact mv_some hM hG
theorem ag_met {D : Sg} {p q n0 n1 n m : Nat} {ek ef : Nat → Int32} {en : Nat → Nat} {σ τ : Sg} (h : XI D p q n0 n1 n m ek ef en σ) (g : MI D p q n0 n1 n m ek ef en τ) (a1 : Int32) : Agr (f_X9_met σ a1) (f_X10_met τ a1) := by
  have hp8 := h.1.sizes
  unfold f_X10_met
  obtain ⟨r, τ1, e, g1, -, rfl⟩ := isNeed_ok g a1
  rw [e, bnd_some, one_if]
  by_cases h1 : 0 ≤ a1 ∧ a1 < nI q
  · rw [if_pos h1]
    obtain ⟨k, hk, rfl⟩ := below_of (N := q) (by omega) h1
    exact agr_of (met_x h hk) (mu_id (met_m g1 hk).u)
  · rw [if_neg h1]
    refine agr_of (v := -2) ?_ (mu_some g1)
    unfold f_X9_met
    rw [isBelow_eq, bnd_some, one_if, h.h10, if_neg h1]
    exact xv_some h
theorem stood_x {D : Sg} {p q n0 n1 n m : Nat} {ek ef : Nat → Int32} {en : Nat → Nat} {σ : Sg} (h : XI D p q n0 n1 n m ek ef en σ) {k : Nat} (hk : k < p) : XV D p q n0 n1 n m ek ef en (f_X9_stood σ (nI k)) (stS (RN D p q n ek ef en selT) (nI k)) := by
  have hp8 := h.1.sizes
  unfold f_X9_stood
  rw [isBelow_eq, bnd_some, one_if, h.h5, if_pos (of_below hk (by omega))]
  obtain ⟨r, σ1, e, er, hX, hc⟩ := asTold_x h
  rw [e, bnd_some, gd28 er, nightsUp_ok (R := RN D p q n ek ef en selT) (fun t ht => hc.2 t ht), bnd_some]
  exact xv_some hX
theorem stood_m {D : Sg} {p q n0 n1 n m : Nat} {ek ef : Nat → Int32} {en : Nat → Nat} {τ : Sg} (h : MI D p q n0 n1 n m ek ef en τ) (k : Nat) : MV D p q n0 n1 n m ek ef en (f_X10_stoodOf τ (nI k)) (stS (RN D p q n ek ef en selT) (nI k)) := by
  unfold f_X10_stoodOf
  obtain ⟨r, τ1, e, hM, hG, hR, hN⟩ := runsTold_m h
  rw [e, bnd_some, stoodNow_ok (R := RN D p q n ek ef en selT) (fun t ht => (hN t ht).1), bnd_some]
  exact mv_some hM hG
theorem ag_stood {D : Sg} {p q n0 n1 n m : Nat} {ek ef : Nat → Int32} {en : Nat → Nat} {σ τ : Sg} (h : XI D p q n0 n1 n m ek ef en σ) (g : MI D p q n0 n1 n m ek ef en τ) (a1 : Int32) : Agr (f_X9_stood σ a1) (f_X10_stood τ a1) := by
  have hp8 := h.1.sizes
  unfold f_X10_stood
  obtain ⟨r, τ1, e, g1, -, rfl⟩ := isOne_ok g a1
  rw [e, bnd_some, one_if]
  by_cases h1 : 0 ≤ a1 ∧ a1 < nI p
  · rw [if_pos h1]
    obtain ⟨k, hk, rfl⟩ := below_of (N := p) (by omega) h1
    exact agr_of (stood_x h hk) (mu_id (stood_m g1 k).u)
  · rw [if_neg h1]
    refine agr_of (v := -2) ?_ (mu_some g1)
    unfold f_X9_stood
    rw [isBelow_eq, bnd_some, one_if, h.h5, if_neg h1]
    exact xv_some h
theorem ag_wrongly {D : Sg} {p q n0 n1 n m : Nat} {ek ef : Nat → Int32} {en : Nat → Nat} {σ τ : Sg} (h : XI D p q n0 n1 n m ek ef en σ) (g : MI D p q n0 n1 n m ek ef en τ) : Agr (f_X9_wrongly σ) (f_X10_wrongly τ) := by
  refine agr_of (D := D) (p := p) (q := q) (n0 := n0) (n1 := n1) (n := n) (m := m) (ek := ek) (ef := ef) (en := en) (v := (RN D p q n ek ef en selT 24).2.1) ?_ ?_
  · unfold f_X9_wrongly
    obtain ⟨r, σ1, e, er, hX, hc⟩ := asTold_x h
    rw [e, bnd_some, gd28 er, hc.1.2.1]
    exact xv_some hX
  · unfold f_X10_wrongly f_X10_wronglyOf
    obtain ⟨r, τ1, e, hM, hG, hR, hN⟩ := runsTold_m g
    rw [e, bnd_some, bnd_some, hR.2.1]
    exact mu_some hM
def vFirst (l : List (Int32 × Int32)) (a : Int32) : Int32 := match l with
  | [] => -1
  | x :: _ => if a = 0 then x.1 else x.2
theorem first_x {D : Sg} {p q n0 n1 n m : Nat} {ek ef : Nat → Int32} {en : Nat → Nat} {σ : Sg} (h : XI D p q n0 n1 n m ek ef en σ) {a : Int32} (ha : 0 ≤ a ∧ a < 2) : XV D p q n0 n1 n m ek ef en (f_X9_first σ a) (vFirst (RN D p q n ek ef en selT 24).2.2.2.2 a) := by
  unfold f_X9_first
  rw [isBelow_eq, bnd_some, one_if, if_pos ha]
  obtain ⟨r, σ1, e, er, hX, hc⟩ := asTold_x h
  have hl := h.came
  rw [e, bnd_some, gd28 er]
  obtain ⟨-, -, -, -, c5, c6⟩ := hc.1
  rw [c5]
  generalize (RN D p q n ek ef en selT 24).2.2.2.2 = l at c5 c6 hl ⊢
  cases l with
  | nil =>
    rw [if_pos (show nI ([] : List (Int32 × Int32)).length = 0 from rfl)]
    exact xv_some hX
  | cons x l =>
    have e0 := c6 0 (by simp)
    simp only [List.getElem?_cons_zero, Option.some.injEq] at e0
    have lh : (x :: l).length = l.length + 1 := rfl
    rw [if_neg (show ¬ nI (x :: l).length = 0 from fun q => by
      have : nI (x :: l).length = nI 0 := q
      rw [p_eq (by omega) (by omega)] at this; omega)]
    rw [gd_true (by decide), gd_true (by decide), show (0 : Int32).toNatClampNeg = 0 from by decide]
    show XV D p q n0 n1 n m ek ef en (if a = 0 then some (σ1 33 0, σ1) else some (σ1 34 0, σ1)) (if a = 0 then x.1 else x.2)
    rw [e0]
    by_cases h0 : a = 0
    · rw [if_pos h0, if_pos h0]; exact xv_some hX
    · rw [if_neg h0, if_neg h0]; exact xv_some hX
theorem first_m {D : Sg} {p q n0 n1 n m : Nat} {ek ef : Nat → Int32} {en : Nat → Nat} {τ : Sg} (h : MI D p q n0 n1 n m ek ef en τ) (a : Int32) : MV D p q n0 n1 n m ek ef en (f_X10_firstOf τ a) (vFirst (RN D p q n ek ef en selT 24).2.2.2.2 a) := by
  unfold f_X10_firstOf
  obtain ⟨r, τ1, e, hM, hG, hR, hN⟩ := runsTold_m h
  rw [e, bnd_some]
  obtain ⟨-, -, -, -, r5, r6⟩ := hR
  generalize (RN D p q n ek ef en selT 24).2.2.2.2 = l at r5 r6 ⊢
  cases l with
  | nil =>
    obtain ⟨f1, f2⟩ := r5 rfl
    rw [f1, f2, ite_self]
    exact mv_some hM hG
  | cons x l =>
    obtain ⟨⟨f1, -⟩, f2, -⟩ := r6 x l rfl
    rw [f1, f2]
    show MV D p q n0 n1 n m ek ef en (if a = 0 then some (x.1, τ1) else some (x.2, τ1)) (if a = 0 then x.1 else x.2)
    by_cases h0 : a = 0
    · rw [if_pos h0, if_pos h0]; exact mv_some hM hG
    · rw [if_neg h0, if_neg h0]; exact mv_some hM hG
theorem ag_first {D : Sg} {p q n0 n1 n m : Nat} {ek ef : Nat → Int32} {en : Nat → Nat} {σ τ : Sg} (h : XI D p q n0 n1 n m ek ef en σ) (g : MI D p q n0 n1 n m ek ef en τ) (a1 : Int32) : Agr (f_X9_first σ a1) (f_X10_first τ a1) := by
  unfold f_X10_first
  rw [isTwo_eq, bnd_some, one_if]
  by_cases h1 : 0 ≤ a1 ∧ a1 < 2
  · rw [if_pos h1]
    exact agr_of (first_x h h1) (mu_id (first_m g a1).u)
  · rw [if_neg h1]
    refine agr_of (v := -2) ?_ (mu_some g)
    unfold f_X9_first
    rw [isBelow_eq, bnd_some, one_if, if_neg h1]
    exact xv_some h
def gS (f : Nat → Int32) : Nat → Int32 × Int32
  | 0 => (-1, 0)
  | k + 1 => if f k ≤ (gS f k).2 then gS f k else (nI k, f k)
theorem gS_s (f : Nat → Int32) (k : Nat) : gS f (k + 1) = if f k ≤ (gS f k).2 then gS f k else (nI k, f k) := rfl
theorem gate_x {D : Sg} {p q n0 n1 n m : Nat} {ek ef : Nat → Int32} {en : Nat → Nat} {σ : Sg} (h : XI D p q n0 n1 n m ek ef en σ) : XV D p q n0 n1 n m ek ef en (f_X9_gate σ) (gS (RN D p q n ek ef en selT 24).2.2.2.1 p).1 := by
  have hp8 := h.1.sizes
  unfold f_X9_gate
  obtain ⟨r, σ1, e, er, hX, hc⟩ := asTold_x h
  rw [e, bnd_some, gd28 er]
  obtain ⟨-, -, -, c4, -, -⟩ := hc.1
  generalize (RN D p q n ek ef en selT 24).2.2.2.1 = f at c4 ⊢
  refine i_X9_gate_l12 p (fun i σ2 x2 x3 x4 => σ2 = σ1 ∧ x2 = (gS f i).1 ∧ x3 = (gS f i).2 ∧ x4 = nI i) (fun σ2 x2 x3 x4 r => XV D p q n0 n1 n m ek ef en r _) ?_ 300 0 (by omega) (by omega) σ1 _ 0 0 ⟨rfl, rfl, rfl, rfl⟩
  intro i k σ2 x2 x3 x4 hi hI ih
  obtain ⟨rfl, rfl, rfl, rfl⟩ := hI
  unfold f_X9_gate_b12 f_X9_gate_b46
  rw [hX.h5]
  rcases Nat.lt_or_ge i p with hlt | hge
  · rw [at_go hlt (by omega)]
    simp only [amlet_eq, nI_1, gd_in (show i < 8 by omega) (show 8 < 2 ^ 31 by omega), cl_nI (show i < 2147483648 by omega), show σ2 31 i = f i from c4 i (by omega)]
    have ss := gS_s f i
    by_cases hb : f i ≤ (gS f i).2
    · rw [if_pos hb] at ss ⊢
      exact ih _ _ _ _ hlt ⟨rfl, by rw [ss], by rw [ss], rfl⟩
    · rw [if_neg hb] at ss ⊢
      exact ih _ _ _ _ hlt ⟨rfl, by rw [ss], by rw [ss], rfl⟩
  · have e : i = p := by omega
    subst e
    rw [at_end (Nat.le_refl _) (by omega)]
    exact xv_some hX
theorem gate_m {D : Sg} {p q n0 n1 n m : Nat} {ek ef : Nat → Int32} {en : Nat → Nat} {τ : Sg} (h : MI D p q n0 n1 n m ek ef en τ) : MV D p q n0 n1 n m ek ef en (f_X10_gateOf τ) (gS (RN D p q n ek ef en selT 24).2.2.2.1 p).1 := by
  have hp8 := h.1.sizes
  unfold f_X10_gateOf
  obtain ⟨r, τ1, e, hM, hG, hR, hN⟩ := runsTold_m h
  rw [e, bnd_some]
  obtain ⟨-, -, -, c4, -, -⟩ := hR
  generalize (RN D p q n ek ef en selT 24).2.2.2.1 = f at c4 ⊢
  refine i_X10_gateOf_l10 p (fun i σ2 x2 x3 x4 => σ2 = τ1 ∧ x2 = (gS f i).1 ∧ x3 = (gS f i).2 ∧ x4 = nI i) (fun σ2 x2 x3 x4 r => MV D p q n0 n1 n m ek ef en r _) ?_ 300 0 (by omega) (by omega) τ1 _ 0 0 ⟨rfl, rfl, rfl, rfl⟩
  intro i k σ2 x2 x3 x4 hi hI ih
  obtain ⟨rfl, rfl, rfl, rfl⟩ := hI
  unfold f_X10_gateOf_b10 f_X10_gateOf_b33 f_X10_gateOf_b54
  rw [hG.1]
  rcases Nat.lt_or_ge i p with hlt | hge
  · rw [at_go hlt (by omega)]
    simp only [amlet_eq, nI_1, gd_in (show i < 8 by omega) (show 8 < 2 ^ 31 by omega), cl_nI (show i < 2147483648 by omega), c4 i (by omega)]
    have ss := gS_s f i
    by_cases hb : f i ≤ (gS f i).2
    · simp only [if_pos hb] at ss ⊢
      exact ih _ _ _ _ hlt ⟨rfl, by rw [ss], by rw [ss], rfl⟩
    · simp only [if_neg hb] at ss ⊢
      exact ih _ _ _ _ hlt ⟨rfl, by rw [ss], by rw [ss], rfl⟩
  · have e : i = p := by omega
    subst e
    rw [at_end (Nat.le_refl _) (by omega)]
    exact mv_some hM hG
theorem ag_gate {D : Sg} {p q n0 n1 n m : Nat} {ek ef : Nat → Int32} {en : Nat → Nat} {σ τ : Sg} (h : XI D p q n0 n1 n m ek ef en σ) (g : MI D p q n0 n1 n m ek ef en τ) : Agr (f_X9_gate σ) (f_X10_gate τ) := agr_of (gate_x h) (by unfold f_X10_gate; exact mu_id (gate_m g).u)
def rS (f : Nat → Int32) : Nat → Int32
  | 0 => 0
  | k + 1 => if f k = 0 then rS f k ||| ((1 : Int32) <<< (nI k &&& 31)) else rS f k
theorem rS_s (f : Nat → Int32) (k : Nat) : rS f (k + 1) = if f k = 0 then rS f k ||| ((1 : Int32) <<< (nI k &&& 31)) else rS f k := rfl
theorem or_0 (x : Int32) : x ||| (0 : Int32) = x := by
  apply Int32.toBitVec_inj.mp
  simp
theorem rest_x {D : Sg} {p q n0 n1 n m : Nat} {ek ef : Nat → Int32} {en : Nat → Nat} {σ : Sg} (h : XI D p q n0 n1 n m ek ef en σ) : XV D p q n0 n1 n m ek ef en (f_X9_rest σ) (rS (RN D p q n ek ef en selT 24).2.2.2.1 p) := by
  have hp8 := h.1.sizes
  unfold f_X9_rest
  obtain ⟨r, σ1, e, er, hX, hc⟩ := asTold_x h
  rw [e, bnd_some, gd28 er]
  obtain ⟨-, -, -, c4, -, -⟩ := hc.1
  generalize (RN D p q n ek ef en selT 24).2.2.2.1 = f at c4 ⊢
  refine i_X9_rest_l9 p (fun i σ2 x2 x3 => σ2 = σ1 ∧ x2 = rS f i ∧ x3 = nI i) (fun σ2 x2 x3 r => XV D p q n0 n1 n m ek ef en r _) ?_ 300 0 (by omega) (by omega) σ1 _ 0 ⟨rfl, rfl, rfl⟩
  intro i k σ2 x2 x3 hi hI ih
  obtain ⟨rfl, rfl, rfl⟩ := hI
  unfold f_X9_rest_b9 f_X9_rest_b35
  rw [hX.h5]
  rcases Nat.lt_or_ge i p with hlt | hge
  · rw [at_go hlt (by omega)]
    simp only [amlet_eq, nI_1, gd_in (show i < 8 by omega) (show 8 < 2 ^ 31 by omega), cl_nI (show i < 2147483648 by omega), show σ2 31 i = f i from c4 i (by omega)]
    have ss := rS_s f i
    by_cases hb : f i = 0
    · rw [if_pos hb] at ss ⊢
      exact ih _ _ _ hlt ⟨rfl, ss.symm, rfl⟩
    · rw [if_neg hb] at ss ⊢
      exact ih _ _ _ hlt ⟨rfl, ss.symm, rfl⟩
  · have e : i = p := by omega
    subst e
    rw [at_end (Nat.le_refl _) (by omega)]
    exact xv_some hX
theorem rest_m {D : Sg} {p q n0 n1 n m : Nat} {ek ef : Nat → Int32} {en : Nat → Nat} {τ : Sg} (h : MI D p q n0 n1 n m ek ef en τ) : MV D p q n0 n1 n m ek ef en (f_X10_restOf τ) (rS (RN D p q n ek ef en selT 24).2.2.2.1 p) := by
  have hp8 := h.1.sizes
  unfold f_X10_restOf
  obtain ⟨r, τ1, e, hM, hG, hR, hN⟩ := runsTold_m h
  rw [e, bnd_some]
  obtain ⟨-, -, -, c4, -, -⟩ := hR
  generalize (RN D p q n ek ef en selT 24).2.2.2.1 = f at c4 ⊢
  refine i_X10_restOf_l8 p (fun i σ2 x2 x3 => σ2 = τ1 ∧ x2 = rS f i ∧ x3 = nI i) (fun σ2 x2 x3 r => MV D p q n0 n1 n m ek ef en r _) ?_ 300 0 (by omega) (by omega) τ1 _ 0 ⟨rfl, rfl, rfl⟩
  intro i k σ2 x2 x3 hi hI ih
  obtain ⟨rfl, rfl, rfl⟩ := hI
  unfold f_X10_restOf_b8 f_X10_restOf_b33
  rw [hG.1]
  rcases Nat.lt_or_ge i p with hlt | hge
  · rw [at_go hlt (by omega)]
    simp only [amlet_eq, nI_1, gd_in (show i < 8 by omega) (show 8 < 2 ^ 31 by omega), cl_nI (show i < 2147483648 by omega), c4 i (by omega), or_0]
    have ss := rS_s f i
    by_cases hb : f i = 0
    · rw [if_pos hb] at ss ⊢
      exact ih _ _ _ hlt ⟨rfl, ss.symm, rfl⟩
    · rw [if_neg hb] at ss ⊢
      exact ih _ _ _ hlt ⟨rfl, ss.symm, rfl⟩
  · have e : i = p := by omega
    subst e
    rw [at_end (Nat.le_refl _) (by omega)]
    exact mv_some hM hG
theorem ag_rest {D : Sg} {p q n0 n1 n m : Nat} {ek ef : Nat → Int32} {en : Nat → Nat} {σ τ : Sg} (h : XI D p q n0 n1 n m ek ef en σ) (g : MI D p q n0 n1 n m ek ef en τ) : Agr (f_X9_rest σ) (f_X10_rest τ) := agr_of (rest_x h) (by unfold f_X10_rest; exact mu_id (rest_m g).u)
/-- gone, need, fault -/
def vGone (D : Sg) (k : Nat) (a : Int32) : Int32 := if a = 0 then D 6 k else if a = 1 then D 7 k else if a = 2 then D 8 k else D 9 k
theorem gone_x {D : Sg} {p q n0 n1 n m : Nat} {ek ef : Nat → Int32} {en : Nat → Nat} {σ : Sg} (h : XI D p q n0 n1 n m ek ef en σ) {k : Nat} (hk : k < p) {a : Int32} (ha : 0 ≤ a ∧ a < 4) : XV D p q n0 n1 n m ek ef en (f_X9_gone σ (nI k) a) (vGone D k a) := by
  have hp8 := h.1.sizes
  unfold f_X9_gone
  simp only [isBelow_eq, bnd_some, one_if]
  rw [h.h5, if_pos (of_below hk (by omega)), if_pos ha]
  simp only [gd_in (show k < 8 by omega) (show 8 < 2 ^ 31 by omega), cl_nI (show k < 2147483648 by omega), h.sd 6 (by omega) (by omega), h.sd 7 (by omega) (by omega), h.sd 8 (by omega) (by omega), h.sd 9 (by omega) (by omega)]
  unfold vGone
  by_cases h0 : a = 0
  · rw [if_pos h0, if_pos h0]; exact xv_some h
  · rw [if_neg h0, if_neg h0]
    by_cases h1 : a = 1
    · rw [if_pos h1, if_pos h1]; exact xv_some h
    · rw [if_neg h1, if_neg h1]
      by_cases h2 : a = 2
      · rw [if_pos h2, if_pos h2]; exact xv_some h
      · rw [if_neg h2, if_neg h2]; exact xv_some h
theorem gone_m {D : Sg} {p q n0 n1 n m : Nat} {ek ef : Nat → Int32} {en : Nat → Nat} {τ : Sg} (h : MI D p q n0 n1 n m ek ef en τ) (g : MG D τ p q) {k : Nat} (hk : k < p) (a : Int32) : MV D p q n0 n1 n m ek ef en (f_X10_goneOf τ (nI k) a) (vGone D k a) := by
  have hp8 := h.1.sizes
  unfold f_X10_goneOf
  obtain ⟨g3, g4, g5, g6⟩ := g.2.2.1 k hk
  simp only [gd_in (show k < 9 by omega) (show 9 < 2 ^ 31 by omega), cl_nI (show k < 2147483648 by omega), g3, g4, g5, g6]
  unfold vGone
  by_cases h0 : a = 0
  · rw [if_pos h0, if_pos h0]; exact mv_some h g
  · rw [if_neg h0, if_neg h0]
    by_cases h1 : a = 1
    · rw [if_pos h1, if_pos h1]; exact mv_some h g
    · rw [if_neg h1, if_neg h1]
      by_cases h2 : a = 2
      · rw [if_pos h2, if_pos h2]; exact mv_some h g
      · rw [if_neg h2, if_neg h2]; exact mv_some h g
theorem ag_gone {D : Sg} {p q n0 n1 n m : Nat} {ek ef : Nat → Int32} {en : Nat → Nat} {σ τ : Sg} (h : XI D p q n0 n1 n m ek ef en σ) (g : MI D p q n0 n1 n m ek ef en τ) (a1 a2 : Int32) : Agr (f_X9_gone σ a1 a2) (f_X10_gone τ a1 a2) := by
  have hp8 := h.1.sizes
  have ref : (¬ ((0 ≤ a1 ∧ a1 < nI p) ∧ (0 ≤ a2 ∧ a2 < 4))) → XV D p q n0 n1 n m ek ef en (f_X9_gone σ a1 a2) (-2) := fun hno => by
    unfold f_X9_gone
    simp only [isBelow_eq, bnd_some, one_if, h.h5]
    by_cases h1 : 0 ≤ a1 ∧ a1 < nI p
    · rw [if_pos h1, if_neg (fun q => hno ⟨h1, q⟩)]; exact xv_some h
    · rw [if_neg h1]; exact xv_some h
  unfold f_X10_gone
  obtain ⟨r, τ1, e, g1, gG, rfl⟩ := isOne_ok g a1
  rw [e, bnd_some, one_if, in_eq, bnd_some, one_if]
  by_cases h1 : 0 ≤ a1 ∧ a1 < nI p
  rotate_left
  · rw [if_neg h1]; exact agr_of (ref fun q => h1 q.1) (mu_some g1)
  rw [if_pos h1]
  have e3 : (0 ≤ a2 ∧ a2 ≤ (3 : Int32)) = (0 ≤ a2 ∧ a2 < 4) := by
    rw [n_lit 3, up_to a2 3 (by omega)]
    rfl
  by_cases h2 : 0 ≤ a2 ∧ a2 < 4
  rotate_left
  · rw [if_neg (by rw [e3]; exact h2)]; exact agr_of (ref fun q => h2 q.2) (mu_some g1)
  rw [if_pos (by rw [e3]; exact h2)]
  obtain ⟨k, hk, rfl⟩ := below_of (N := p) (by omega) h1
  exact agr_of (gone_x h hk h2) (mu_id (gone_m g1 gG hk a2).u)
def vNeed (D : Sg) (k : Nat) (a : Int32) : Int32 := if a = 0 then D 11 k else if a = 1 then D 12 k else D 13 k
theorem need_x {D : Sg} {p q n0 n1 n m : Nat} {ek ef : Nat → Int32} {en : Nat → Nat} {σ : Sg} (h : XI D p q n0 n1 n m ek ef en σ) {k : Nat} (hk : k < q) {a : Int32} (ha : 0 ≤ a ∧ a < 3) : XV D p q n0 n1 n m ek ef en (f_X9_need σ (nI k) a) (vNeed D k a) := by
  have hp8 := h.1.sizes
  unfold f_X9_need
  simp only [isBelow_eq, bnd_some, one_if]
  rw [h.h10, if_pos (of_below hk (by omega)), if_pos ha]
  simp only [gd_in (show k < 8 by omega) (show 8 < 2 ^ 31 by omega), cl_nI (show k < 2147483648 by omega), h.sd 11 (by omega) (by omega), h.sd 12 (by omega) (by omega), h.sd 13 (by omega) (by omega)]
  unfold vNeed
  by_cases h0 : a = 0
  · rw [if_pos h0, if_pos h0]; exact xv_some h
  · rw [if_neg h0, if_neg h0]
    by_cases h1 : a = 1
    · rw [if_pos h1, if_pos h1]; exact xv_some h
    · rw [if_neg h1, if_neg h1]; exact xv_some h
theorem need_m {D : Sg} {p q n0 n1 n m : Nat} {ek ef : Nat → Int32} {en : Nat → Nat} {τ : Sg} (h : MI D p q n0 n1 n m ek ef en τ) (g : MG D τ p q) {k : Nat} (hk : k < q) (a : Int32) : MV D p q n0 n1 n m ek ef en (f_X10_needOf τ (nI k) a) (vNeed D k a) := by
  have hp8 := h.1.sizes
  unfold f_X10_needOf
  obtain ⟨g3, g4, g5⟩ := g.2.2.2 k hk
  simp only [gd_in (show k < 9 by omega) (show 9 < 2 ^ 31 by omega), cl_nI (show k < 2147483648 by omega), g3, g4, g5]
  unfold vNeed
  by_cases h0 : a = 0
  · rw [if_pos h0, if_pos h0]; exact mv_some h g
  · rw [if_neg h0, if_neg h0]
    by_cases h1 : a = 1
    · rw [if_pos h1, if_pos h1]; exact mv_some h g
    · rw [if_neg h1, if_neg h1]; exact mv_some h g
theorem ag_need {D : Sg} {p q n0 n1 n m : Nat} {ek ef : Nat → Int32} {en : Nat → Nat} {σ τ : Sg} (h : XI D p q n0 n1 n m ek ef en σ) (g : MI D p q n0 n1 n m ek ef en τ) (a1 a2 : Int32) : Agr (f_X9_need σ a1 a2) (f_X10_need τ a1 a2) := by
  have hp8 := h.1.sizes
  have ref : (¬ ((0 ≤ a1 ∧ a1 < nI q) ∧ (0 ≤ a2 ∧ a2 < 3))) → XV D p q n0 n1 n m ek ef en (f_X9_need σ a1 a2) (-2) := fun hno => by
    unfold f_X9_need
    simp only [isBelow_eq, bnd_some, one_if, h.h10]
    by_cases h1 : 0 ≤ a1 ∧ a1 < nI q
    · rw [if_pos h1, if_neg (fun q => hno ⟨h1, q⟩)]; exact xv_some h
    · rw [if_neg h1]; exact xv_some h
  unfold f_X10_need
  obtain ⟨r, τ1, e, g1, gG, rfl⟩ := isNeed_ok g a1
  rw [e, bnd_some, one_if, isThree_eq, bnd_some, one_if]
  by_cases h1 : 0 ≤ a1 ∧ a1 < nI q
  rotate_left
  · rw [if_neg h1]; exact agr_of (ref fun q => h1 q.1) (mu_some g1)
  rw [if_pos h1]
  by_cases h2 : 0 ≤ a2 ∧ a2 < 3
  rotate_left
  · rw [if_neg h2]; exact agr_of (ref fun q => h2 q.2) (mu_some g1)
  rw [if_pos h2]
  obtain ⟨k, hk, rfl⟩ := below_of (N := q) (by omega) h1
  exact agr_of (need_x h hk h2) (mu_id (need_m g1 gG hk a2).u)
theorem fault_x {D : Sg} {p q n0 n1 n m : Nat} {ek ef : Nat → Int32} {en : Nat → Nat} {σ : Sg} (h : XI D p q n0 n1 n m ek ef en σ) {a : Int32} (ha : 0 ≤ a ∧ a < 2) : XV D p q n0 n1 n m ek ef en (f_X9_fault σ a) (if a = 0 then D 5 2 else D 10 2) := by
  unfold f_X9_fault
  rw [isBelow_eq, bnd_some, one_if, if_pos ha, h.sd 5 (by omega) (by omega), h.sd 10 (by omega) (by omega)]
  by_cases h0 : a = 0
  · rw [if_pos h0, if_pos h0]; exact xv_some h
  · rw [if_neg h0, if_neg h0]; exact xv_some h
theorem fault_m {D : Sg} {p q n0 n1 n m : Nat} {ek ef : Nat → Int32} {en : Nat → Nat} {τ : Sg} (h : MI D p q n0 n1 n m ek ef en τ) (a : Int32) : MV D p q n0 n1 n m ek ef en (f_X10_faultOf τ a) (if a = 0 then D 5 2 else D 10 2) := by
  refine ret_mono (faultOf_ok h.1 h.2.2.2.2.1 a) (fun r τ' b => ?_)
  obtain ⟨b1, b2, b3, b4⟩ := b
  exact ⟨b4, h.fr (fun c hc => b1 c (by omega) (by omega)) (fun k hk => b2 k (by omega) (by omega)), b3⟩
theorem ag_fault {D : Sg} {p q n0 n1 n m : Nat} {ek ef : Nat → Int32} {en : Nat → Nat} {σ τ : Sg} (h : XI D p q n0 n1 n m ek ef en σ) (g : MI D p q n0 n1 n m ek ef en τ) (a1 : Int32) : Agr (f_X9_fault σ a1) (f_X10_fault τ a1) := by
  unfold f_X10_fault
  rw [isText_eq, bnd_some, one_if]
  by_cases h1 : 0 ≤ a1 ∧ a1 < 2
  · rw [if_pos h1]
    exact agr_of (fault_x h h1) (mu_id (fault_m g a1).u)
  · rw [if_neg h1]
    refine agr_of (v := -2) ?_ (mu_some g)
    unfold f_X9_fault
    rw [isBelow_eq, bnd_some, one_if, if_neg h1]
    exact xv_some h
/-- count -/
noncomputable def vCount (D : Sg) (p q n0 n1 n m : Nat) (ek ef : Nat → Int32) (en : Nat → Nat) (a : Int32) : Int32 :=
  if a = 0 then nI p else if a = 1 then nI q else if a = 2 then nI n0 else if a = 3 then nI n1 else if a = 4 then nI n else if a = 5 then mtS (RN D p q n ek ef en selT 24).2.2.1 q else if a = 6 then (RN D p q n ek ef en selT 24).2.1 else if a = 7 then nI m else if a = 8 then D 0 14 else -2
theorem count_x {D : Sg} {p q n0 n1 n m : Nat} {ek ef : Nat → Int32} {en : Nat → Nat} {σ : Sg} (h : XI D p q n0 n1 n m ek ef en σ) (a : Int32) : XV D p q n0 n1 n m ek ef en (f_X9_count σ a) (vCount D p q n0 n1 n m ek ef en a) := by
  have hp8 := h.1.sizes
  have hc := h.2.2.2.2.1
  obtain ⟨t1, t2, t3, t4, t5, t6, -⟩ := h.1
  unfold f_X9_count vCount
  by_cases h0 : a = 0
  · rw [if_pos h0, if_pos h0, h.h5]; exact xv_some h
  rw [if_neg h0, if_neg h0]
  by_cases h1 : a = 1
  · rw [if_pos h1, if_pos h1, h.h10]; exact xv_some h
  rw [if_neg h1, if_neg h1]
  by_cases h2 : a = 2
  · rw [if_pos h2, if_pos h2, hc 1 (by omega), t5]; exact xv_some h
  rw [if_neg h2, if_neg h2]
  by_cases h3 : a = 3
  · rw [if_pos h3, if_pos h3, hc 3 (by omega), t6]; exact xv_some h
  rw [if_neg h3, if_neg h3]
  by_cases h4 : a = 4
  · rw [if_pos h4, if_pos h4, h.eok.2.1]; exact xv_some h
  rw [if_neg h4, if_neg h4]
  by_cases h5 : a = 5
  · rw [if_pos h5, if_pos h5]
    obtain ⟨r, σ1, e, er, hX, hcc⟩ := asTold_x h
    rw [e, bnd_some, gd28 er, howManyMet_ok (f := (RN D p q n ek ef en selT 24).2.2.1) hp8.2 hX.h10 (fun k hk => hcc.1.2.2.1 k hk), bnd_some]
    exact xv_some hX
  rw [if_neg h5, if_neg h5]
  by_cases h6 : a = 6
  · rw [if_pos h6, if_pos h6]
    obtain ⟨r, σ1, e, er, hX, hcc⟩ := asTold_x h
    rw [e, bnd_some, gd28 er, hcc.1.2.1]
    exact xv_some hX
  rw [if_neg h6, if_neg h6]
  by_cases h7 : a = 7
  · rw [if_pos h7, if_pos h7, hc 24 (by omega), h.2.1.2.1]; exact xv_some h
  rw [if_neg h7, if_neg h7]
  by_cases h8 : a = 8
  · rw [if_pos h8, if_pos h8, h.2.2.2.2.2.1]; exact xv_some h
  rw [if_neg h8, if_neg h8]
  exact xv_some h
def MK (D : Sg) (p q n0 n1 n m : Nat) (ek ef : Nat → Int32) (en : Nat → Nat) (τ : Sg) (y : Option (Int32 × Sg)) (v : Int32) : Prop := Ret y (fun r τ' => r = v ∧ MI D p q n0 n1 n m ek ef en τ' ∧ (MG D τ p q → MG D τ' p q))
theorem mk_some {D : Sg} {p q n0 n1 n m : Nat} {ek ef : Nat → Int32} {en : Nat → Nat} {τ : Sg} {v : Int32} (h : MI D p q n0 n1 n m ek ef en τ) : MK D p q n0 n1 n m ek ef en τ (some (v, τ)) v := ret_some.mpr ⟨rfl, h, id⟩
theorem count_m {D : Sg} {p q n0 n1 n m : Nat} {ek ef : Nat → Int32} {en : Nat → Nat} {τ : Sg} (h : MI D p q n0 n1 n m ek ef en τ) (a : Int32) : MK D p q n0 n1 n m ek ef en τ (f_X10_count τ a) (vCount D p q n0 n1 n m ek ef en a) := by
  have hp8 := h.1.sizes
  obtain ⟨t1, t2, -⟩ := h.2.2.2.2.1
  have sum : ∀ v : Int32, (∀ τ1 : Sg, RT D p q n0 n1 n m ek ef en τ1 → Ret (if a = 0 then some ((τ1 0 2), τ1) else (if a = (1 : Int32) then some ((τ1 0 7), τ1) else (if a = (5 : Int32) then bnd (f_X10_metNow τ1) (fun r3 σ4 => some (r3, σ4)) else some ((τ1 0 23), τ1)))) (fun r τ' => r = v ∧ MI D p q n0 n1 n m ek ef en τ' ∧ MG D τ' p q)) → MK D p q n0 n1 n m ek ef en τ (f_X10_count_b52 τ a) v := fun v hv => by
    unfold f_X10_count_b52 f_X10_sumOf
    obtain ⟨r, τ1, e, hT⟩ := runsTold_m h
    rw [e, bnd_some]
    obtain ⟨r2, τ2, e2, b1, b2, b3⟩ := hv τ1 hT
    rw [e2, bnd_some]
    exact ret_some.mpr ⟨b1, b2, fun _ => b3⟩
  unfold f_X10_count vCount
  by_cases h0 : a = 0
  · rw [if_pos h0, if_pos h0]
    refine sum _ fun τ1 hT => ?_
    rw [if_pos h0, hT.2.1.1]
    exact ret_some.mpr ⟨rfl, hT.1, hT.2.1⟩
  rw [if_neg h0, if_neg h0]
  by_cases h1 : a = 1
  · rw [if_pos h1, if_pos h1]
    refine sum _ fun τ1 hT => ?_
    rw [if_neg h0, if_pos h1, hT.2.1.2.1]
    exact ret_some.mpr ⟨rfl, hT.1, hT.2.1⟩
  rw [if_neg h1, if_neg h1]
  by_cases h2 : a = 2
  · rw [if_pos h2, if_pos h2]
    unfold f_X10_count_b58
    rw [h2, gd_true (by decide), show ((2 : Int32) - 2).toNatClampNeg = 0 from by decide, t1]
    exact mk_some h
  rw [if_neg h2, if_neg h2]
  by_cases h3 : a = 3
  · rw [if_pos h3, if_pos h3]
    unfold f_X10_count_b58
    rw [h3, gd_true (by decide), show ((3 : Int32) - 2).toNatClampNeg = 1 from by decide, t2]
    exact mk_some h
  rw [if_neg h3, if_neg h3]
  by_cases h4 : a = 4
  · rw [if_pos h4, if_pos h4, h.2.2.2.2.2.1]; exact mk_some h
  rw [if_neg h4, if_neg h4]
  by_cases h5 : a = 5
  · rw [if_pos h5, if_pos h5]
    refine sum _ fun τ1 hT => ?_
    rw [if_neg h0, if_neg h1, if_pos h5, metNow_ok hp8.2 hT.2.1.2.1 hT.2.2.1.2.2.1, bnd_some]
    exact ret_some.mpr ⟨rfl, hT.1, hT.2.1⟩
  rw [if_neg h5, if_neg h5]
  by_cases h6 : a = 6
  · rw [if_pos h6, if_pos h6]
    refine sum _ fun τ1 hT => ?_
    rw [if_neg h0, if_neg h1, if_neg h5, hT.2.2.1.2.1]
    exact ret_some.mpr ⟨rfl, hT.1, hT.2.1⟩
  rw [if_neg h6, if_neg h6]
  by_cases h7 : a = 7
  · rw [if_pos h7, if_pos h7, h.2.2.2.2.2.2.2.1]; exact mk_some h
  rw [if_neg h7, if_neg h7]
  by_cases h8 : a = 8
  · rw [if_pos h8, if_pos h8, h.2.2.2.2.2.2.2.2.2.1]; exact mk_some h
  rw [if_neg h8, if_neg h8]
  exact mk_some h
theorem ag_count {D : Sg} {p q n0 n1 n m : Nat} {ek ef : Nat → Int32} {en : Nat → Nat} {σ τ : Sg} (h : XI D p q n0 n1 n m ek ef en σ) (g : MI D p q n0 n1 n m ek ef en τ) (a1 : Int32) : Agr (f_X9_count σ a1) (f_X10_count τ a1) := agr_of (count_x h a1) (ret_mono (count_m g a1) (fun _ _ b => ⟨b.1, b.2.1⟩))
