/-! one plough more -/
theorem EOK.congr {σ : Sg} {c3 n : Nat} {ek ef ek' ef' : Nat → Int32} {en en' : Nat → Nat} (h : EOK σ c3 n ek' ef' en') (e : ∀ e, e < n → ek' e = ek e ∧ ef' e = ef e ∧ en' e = en e) : EOK σ c3 n ek ef en := by
  obtain ⟨h1, h2, h3, h4⟩ := h
  have ho : ordL n en = ordL n en' := by
    unfold ordL
    congr 1
    funext t
    refine List.filter_congr fun x hx => ?_
    rw [(e x (List.mem_range.mp hx)).2.2]
  refine ⟨h1, h2, fun x hx => ?_, by rw [ho]; exact h4⟩
  obtain ⟨e1, e2, e3⟩ := e x hx
  rw [← e1, ← e2, ← e3]
  exact h3 x hx
theorem XI.fe {D : Sg} {p q n0 n1 n m : Nat} {ek ef : Nat → Int32} {en : Nat → Nat} {σ σ' : Sg} (h : XI D p q n0 n1 n m ek ef en σ) (e : ∀ c, (c < 14 ∨ (23 < c ∧ c < 35) ∨ (41 < c ∧ c ≠ 44)) → σ' c = σ c) (hE : EOK σ' 14 n ek ef en) : XI D p q n0 n1 n m ek ef en σ' := by
  obtain ⟨h1, h2, h3, h4, h5, h6, h7, h8, h9⟩ := h
  refine ⟨h1, h2, h3, h4, fun c hc => by rw [e c (by omega)]; exact h5 c hc, by rw [e 0 (by omega)]; exact h6, hE, fun g => ?_, fun g => ?_⟩
  · rw [e 0 (by omega)] at g
    exact (h8 g).move (fun c g1 g2 => e c (by omega))
  · rw [e 0 (by omega)] at g
    intro k num g1 g2
    rw [e 43 (by omega)]
    exact h9 g k num g1 g2
abbrev RM1 (D : Sg) (p q n : Nat) (ek ef : Nat → Int32) (en : Nat → Nat) (t : Nat) (fur : Int32) : Nat → RS := RN D p q (n + 1) (upd ek n 0) (upd ef n fur) (updn en n t) selT
noncomputable def mP (D : Sg) (p q n : Nat) (ek ef : Nat → Int32) (en : Nat → Nat) (t : Nat) (fur : Int32) : Int32 := mtS (RM1 D p q n ek ef en t fur 24).2.2.1 q
theorem metP_x {D : Sg} {p q n0 n1 n m : Nat} {ek ef : Nat → Int32} {en : Nat → Nat} {σ : Sg} (h : XI D p q n0 n1 n m ek ef en σ) {t : Nat} (ht : t < 24) (fur : Int32) : XV D p q n0 n1 n m ek ef en (f_X9_metWithPlough σ (nI t) fur) (mP D p q n ek ef en t fur) := by
  have hn8 := h.2.2.2.1
  have hp8 := h.1.sizes
  unfold f_X9_metWithPlough
  obtain ⟨u, σ2, e1, a1, a2⟩ := add_ok h.eok hn8 (fur := fur) (Or.inl rfl) ht
  rw [e1, bnd_some]
  obtain ⟨u, σ4, e2, b1, b2⟩ := run_hc (c0 := 35) h.dok (fun c g1 g2 => by rw [a1 c (by omega)]; exact h.sd c g1 g2) a2 (by omega) (by omega) (-1)
  rw [e2, bnd_some]
  obtain ⟨u, σ6, e3, c1, c2⟩ := dropLast_ok (a2.move (σ' := σ4) fun c g1 g2 => b1 c (by omega))
  rw [e3, bnd_some]
  have hH : HC D p q (n + 1) (upd ek n 0) (upd ef n fur) (updn en n t) selT σ6 35 := (b2.sel fun e he => selI_T e (by omega)).move fun c g1 g2 => c1 c (by omega)
  have hX : XI D p q n0 n1 n m ek ef en σ6 := h.fe (fun c hc => by rw [c1 c (by omega), b1 c (by omega), a1 c (by omega)]) (c2.congr fun e he => ⟨upd_off (by omega), upd_off (by omega), updn_off (by omega)⟩)
  rw [howManyMet_ok hp8.2 hX.h10 (fun k hk => hH.1.2.2.1 k hk), bnd_some]
  exact xv_some hX
def ES (n : Nat) (ek ef : Nat → Int32) (en : Nat → Nat) (τ : Sg) : Prop := ∀ e, e < n → τ 13 e = ek e ∧ τ 14 e = nI (en e) ∧ τ 15 e = ef e
theorem EM.es {τ : Sg} {n : Nat} {ek ef : Nat → Int32} {en : Nat → Nat} (h : EM τ n ek ef en) : ES n ek ef en τ := fun e he => by
  obtain ⟨h1, h2, h3, h4, h5⟩ := h.2.2 e he
  exact ⟨h1, h3, h5⟩
theorem more_m {D : Sg} {p q n0 n1 n m : Nat} {ek ef : Nat → Int32} {en : Nat → Nat} {τ : Sg} (h : MI D p q n0 n1 n m ek ef en τ) (hG : MG D τ p q) (hE : ES n ek ef en τ) (h19 : τ 0 19 = 0) {t : Nat} (ht : t < 24) (fur : Int32) : Ret (f_X10_more τ (nI t) fur) (fun _ τ' => MI D p q n0 n1 n m ek ef en τ' ∧ MG D τ' p q ∧ ES n ek ef en τ' ∧ τ' 0 19 = 0 ∧ MR τ' (RM1 D p q n ek ef en t fur 24)) := by
  have hn8 := h.2.2.2.1
  have hev := h.2.2.2.2.2.2.1
  unfold f_X10_more
  rw [h.2.2.2.2.2.1, nI_1, amlet_eq]
  have y0 : ∀ v, up2 τ 0 15 v 0 11 = nI n := fun v => by rw [up2_at, upd_off (by omega), h.2.2.2.2.2.1]
  rw [y0, gd_in (show n < 9 by omega) (by omega), cl_nI (by omega), amlet_eq]
  have y1 : ∀ v w, up2 (up2 τ 0 15 v) 13 n w 0 11 = nI n := fun v w => by rw [up2_off (by omega), y0]
  rw [y1, gd_in (show n < 9 by omega) (by omega), cl_nI (by omega), amlet_eq]
  have y2 : ∀ v w x, up2 (up2 (up2 τ 0 15 v) 13 n w) 14 n x 0 11 = nI n := fun v w x => by rw [up2_off (by omega), y1]
  rw [y2, gd_in (show n < 9 by omega) (by omega), cl_nI (by omega), amlet_eq]
  generalize hτ : up2 (up2 (up2 (up2 τ 0 15 (nI (n + 1))) 13 n (0 : Int32)) 14 n (nI t)) 15 n fur = τ1
  have w : ∀ c, c ≠ 0 → (c < 13 ∨ 15 < c) → τ1 c = τ c := fun c g1 g2 => by rw [← hτ, up2_off (by omega), up2_off (by omega), up2_off (by omega), up2_off (by omega)]
  have w0 : ∀ k, k ≠ 15 → τ1 0 k = τ 0 k := fun k hk => by rw [← hτ, up2_off (by omega), up2_off (by omega), up2_off (by omega), up2_at, upd_off hk]
  have w15 : τ1 0 15 = nI (n + 1) := by rw [← hτ, up2_off (by omega), up2_off (by omega), up2_off (by omega), up2_at, upd_at]
  have v13 : τ1 13 = upd (τ 13) n 0 := by rw [← hτ, up2_off (by omega), up2_off (by omega), up2_at, up2_off (by omega)]
  have v14 : τ1 14 = upd (τ 14) n (nI t) := by rw [← hτ, up2_off (by omega), up2_at, up2_off (by omega), up2_off (by omega)]
  have v15 : τ1 15 = upd (τ 15) n fur := by rw [← hτ, up2_at, up2_off (by omega), up2_off (by omega), up2_off (by omega)]
  have hM1 : MI D p q n0 n1 n m ek ef en τ1 := h.fr (fun c hc => w c (by omega) (by omega)) (fun k hk => w0 k (by omega))
  have hE1 : EM τ1 (n + 1) (upd ek n 0) (upd ef n fur) (updn en n t) := by
    refine ⟨by omega, w15, fun e he => ?_⟩
    rw [v13, v14, v15]
    by_cases q : e = n
    · subst q
      rw [upd_at, upd_at, upd_at, upd_at, upd_at, updn_at]
      exact ⟨rfl, Or.inl rfl, rfl, ht, rfl⟩
    · rw [upd_off q, upd_off q, upd_off q, upd_off q, upd_off q, updn_off q]
      obtain ⟨e1, e2, e3, e4, e5⟩ := hev e (by omega)
      obtain ⟨f1, f2, f3⟩ := hE e (by omega)
      exact ⟨f1, e2, f2, e4, f3⟩
  refine ret_bnd (runs_m hM1 hM1.1.dok (hG.move (fun k hk => w0 k (by omega)) (fun c g1 g2 => w c (by omega) (by omega))) hE1) (fun _ τ2 b => ?_)
  obtain ⟨b1, b2, b3, b4, b5, b6, b7, b8⟩ := b
  rw [w0 19 (by omega), h19, RN_selF (sel' := selT) (fun e he => selM_T e (by omega))] at b7
  refine ret_some.mpr ⟨b1, b2, fun e he => ?_, by rw [b4, w0 19 (by omega), h19], b7⟩
  rw [b5 13 (by omega) (by omega), b5 14 (by omega) (by omega), b5 15 (by omega) (by omega), v13, v14, v15, upd_off (by omega), upd_off (by omega), upd_off (by omega)]
  exact hE e he
/-- the first that meets most -/
def bfS (f : Nat → Int32) (b : Int32) : Nat → Int32 × Int32
  | 0 => (b, -1)
  | i + 1 => if f i ≤ (bfS f b i).2 then bfS f b i else (nI i, f i)
theorem bfS_s (f : Nat → Int32) (b : Int32) (i : Nat) : bfS f b (i + 1) = if f i ≤ (bfS f b i).2 then bfS f b i else (nI i, f i) := rfl
theorem bfS_at {f : Nat → Int32} (b : Int32) (h : ¬ f 0 ≤ -1) : ∀ i, ∃ j, j < i + 1 ∧ bfS f b (i + 1) = (nI j, f j)
  | 0 => ⟨0, by omega, by rw [bfS_s]; exact if_neg h⟩
  | i + 1 => by
    obtain ⟨j, hj, e⟩ := bfS_at b h i
    rw [bfS_s]
    by_cases q : f (i + 1) ≤ (bfS f b (i + 1)).2
    · rw [if_pos q]; exact ⟨j, by omega, e⟩
    · rw [if_neg q]; exact ⟨i + 1, by omega, rfl⟩
theorem bfS_same {f : Nat → Int32} (b b' : Int32) (h : ¬ f 0 ≤ -1) : ∀ i, bfS f b (i + 1) = bfS f b' (i + 1)
  | 0 => by rw [bfS_s, bfS_s]; exact (if_neg h).trans (if_neg h).symm
  | i + 1 => by rw [bfS_s, bfS_same b b' h i, ← bfS_s]
theorem mtS_nat (f : Nat → Int32) : ∀ q, ∃ k, k ≤ q ∧ mtS f q = nI k
  | 0 => ⟨0, by omega, rfl⟩
  | q + 1 => by
    obtain ⟨k, hk, e⟩ := mtS_nat f q
    have s : mtS f (q + 1) = mtS f q + b2 (¬ f q = -1) := rfl
    rw [s, e]
    by_cases hb : f q = -1
    · rw [b2_neg (fun g => g hb)]; exact ⟨k, by omega, by simp⟩
    · rw [b2_pos hb]; exact ⟨k + 1, by omega, nI_1 k⟩
theorem mP_pos (D : Sg) (p q n : Nat) (ek ef : Nat → Int32) (en : Nat → Nat) (t : Nat) (fur : Int32) (hq : q ≤ 8) : ¬ mP D p q n ek ef en t fur ≤ -1 := by
  obtain ⟨k, hk, e⟩ := mtS_nat (RM1 D p q n ek ef en t fur 24).2.2.1 q
  unfold mP
  rw [e, i32_le, nI_toInt (by omega)]
  have : (-1 : Int32).toInt = -1 := by decide
  omega
theorem bestFurrow_x {D : Sg} {p q n0 n1 n m : Nat} {ek ef : Nat → Int32} {en : Nat → Nat} {σ : Sg} (h : XI D p q n0 n1 n m ek ef en σ) {t : Nat} (ht : t < 24) : XV D p q n0 n1 n m ek ef en (f_X9_bestFurrow σ (nI t)) (bfS (fun y => mP D p q n ek ef en t (nI y)) 0 6).1 := by
  unfold f_X9_bestFurrow
  have gen : ∀ N, N = 6 → XV D p q n0 n1 n m ek ef en (f_X9_bestFurrow_l7 300 σ (nI t) (0 : Int32) (-1 : Int32) (0 : Int32)) (bfS (fun y => mP D p q n ek ef en t (nI y)) 0 N).1 := fun N hN => by
    refine i_X9_bestFurrow_l7 6 (fun i σ2 x1 x2 x3 x4 => x1 = nI t ∧ x2 = (bfS (fun y => mP D p q n ek ef en t (nI y)) 0 i).1 ∧ x3 = (bfS (fun y => mP D p q n ek ef en t (nI y)) 0 i).2 ∧ x4 = nI i ∧ XI D p q n0 n1 n m ek ef en σ2) (fun σ2 x1 x2 x3 x4 r => XV D p q n0 n1 n m ek ef en r (bfS (fun y => mP D p q n ek ef en t (nI y)) 0 N).1) ?_ 300 0 (by omega) (by omega) σ (nI t) 0 (-1) 0 ⟨rfl, rfl, rfl, rfl, h⟩
    intro i k σ2 x1 x2 x3 x4 hi hI ih
    obtain ⟨rfl, rfl, rfl, rfl, hX⟩ := hI
    unfold f_X9_bestFurrow_b7 f_X9_bestFurrow_b35
    rw [n_lit 6]
    rcases Nat.lt_or_ge i 6 with hlt | hge
    · rw [at_go hlt (by omega)]
      obtain ⟨r, σ3, e, er, hX3⟩ := metP_x hX ht (nI i)
      rw [e, bnd_some, er]
      simp only [amlet_eq, nI_1]
      have ss := bfS_s (fun y => mP D p q n ek ef en t (nI y)) 0 i
      by_cases q : mP D p q n ek ef en t (nI i) ≤ (bfS (fun y => mP D p q n ek ef en t (nI y)) 0 i).2
      · rw [if_pos q] at ss ⊢
        exact ih _ _ _ _ _ hlt ⟨rfl, by rw [ss], by rw [ss], rfl, hX3⟩
      · rw [if_neg q] at ss ⊢
        exact ih _ _ _ _ _ hlt ⟨rfl, by rw [ss], by rw [ss], rfl, hX3⟩
    · have e : i = 6 := by omega
      rw [e, at_end (Nat.le_refl _) (by omega), ← hN]
      exact xv_some hX
  exact gen 6 rfl
theorem plough_m {D : Sg} {p q n0 n1 n m : Nat} {ek ef : Nat → Int32} {en : Nat → Nat} {τ : Sg} (h : MI D p q n0 n1 n m ek ef en τ) {t : Nat} (ht : t < 24) (a : Int32) : MV D p q n0 n1 n m ek ef en (f_X10_ploughOf τ (nI t) a) (if a = 0 then (bfS (fun y => mP D p q n ek ef en t (nI y)) (-1) 6).1 else (bfS (fun y => mP D p q n ek ef en t (nI y)) (-1) 6).2) := by
  unfold f_X10_ploughOf
  obtain ⟨u, τ1, e, hM1, hG1, hE1, h19⟩ := asTold_m h
  rw [e, bnd_some]
  have hp8 := h.1.sizes
  have gen : ∀ N, N = 6 → MV D p q n0 n1 n m ek ef en (f_X10_ploughOf_l12 300 τ1 (nI t) a (-1 : Int32) (-1 : Int32) (0 : Int32)) (if a = 0 then (bfS (fun y => mP D p q n ek ef en t (nI y)) (-1) N).1 else (bfS (fun y => mP D p q n ek ef en t (nI y)) (-1) N).2) := fun N hN => by
    refine i_X10_ploughOf_l12 6 (fun i σ2 x1 x2 x3 x4 x5 => x1 = nI t ∧ x2 = a ∧ x3 = (bfS (fun y => mP D p q n ek ef en t (nI y)) (-1) i).1 ∧ x4 = (bfS (fun y => mP D p q n ek ef en t (nI y)) (-1) i).2 ∧ x5 = nI i ∧ MI D p q n0 n1 n m ek ef en σ2 ∧ MG D σ2 p q ∧ ES n ek ef en σ2 ∧ σ2 0 19 = 0) (fun σ2 x1 x2 x3 x4 x5 r => MV D p q n0 n1 n m ek ef en r (if a = 0 then (bfS (fun y => mP D p q n ek ef en t (nI y)) (-1) N).1 else (bfS (fun y => mP D p q n ek ef en t (nI y)) (-1) N).2)) ?_ 300 0 (by omega) (by omega) τ1 (nI t) a (-1) (-1) 0 ⟨rfl, rfl, rfl, rfl, rfl, hM1, hG1, hE1.es, h19⟩
    intro i k σ2 x1 x2 x3 x4 x5 hi hI ih
    obtain ⟨rfl, rfl, rfl, rfl, rfl, hM, hG, hE, h19⟩ := hI
    unfold f_X10_ploughOf_b12 f_X10_ploughOf_b45 f_X10_ploughOf_b60
    rw [n_lit 6]
    rcases Nat.lt_or_ge i 6 with hlt | hge
    · rw [at_go hlt (by omega)]
      obtain ⟨r, σ3, e, hM3, hG3, hE3, h193, hR3⟩ := more_m hM hG hE h19 ht (nI i)
      rw [e, bnd_some, metNow_ok (f := (RM1 D p q n ek ef en t (nI i) 24).2.2.1) hp8.2 hG3.2.1 (fun k hk => hR3.2.2.1 k hk), bnd_some]
      simp only [amlet_eq, nI_1]
      have ss := bfS_s (fun y => mP D p q n ek ef en t (nI y)) (-1) i
      show MV D p q n0 n1 n m ek ef en (if mP D p q n ek ef en t (nI i) ≤ _ then (if mP D p q n ek ef en t (nI i) ≤ _ then _ else _) else (if mP D p q n ek ef en t (nI i) ≤ _ then _ else _)) _
      by_cases q : mP D p q n ek ef en t (nI i) ≤ (bfS (fun y => mP D p q n ek ef en t (nI y)) (-1) i).2
      · rw [if_pos q] at ss ⊢
        rw [if_pos q]
        exact ih _ _ _ _ _ _ hlt ⟨rfl, rfl, by rw [ss], by rw [ss], rfl, hM3, hG3, hE3, h193⟩
      · rw [if_neg q] at ss ⊢
        rw [if_neg q]
        exact ih _ _ _ _ _ _ hlt ⟨rfl, rfl, by rw [ss], by rw [ss]; rfl, rfl, hM3, hG3, hE3, h193⟩
    · have e : i = 6 := by omega
      rw [e, at_end (Nat.le_refl _) (by omega), ← hN]
      by_cases h0 : x2 = 0
      · rw [if_pos h0, if_pos h0]; exact mv_some hM hG
      · rw [if_neg h0, if_neg h0]; exact mv_some hM hG
  exact gen 6 rfl
theorem bestNight_x {D : Sg} {p q n0 n1 n m : Nat} {ek ef : Nat → Int32} {en : Nat → Nat} {σ : Sg} (h : XI D p q n0 n1 n m ek ef en σ) (y : Nat) : XV D p q n0 n1 n m ek ef en (f_X9_bestNight σ (nI y)) (bfS (fun t => mP D p q n ek ef en t (nI y)) 0 24).1 := by
  unfold f_X9_bestNight
  have gen : ∀ N, N = 24 → XV D p q n0 n1 n m ek ef en (f_X9_bestNight_l7 300 σ (nI y) (0 : Int32) (-1 : Int32) (0 : Int32)) (bfS (fun t => mP D p q n ek ef en t (nI y)) 0 N).1 := fun N hN => by
    refine i_X9_bestNight_l7 24 (fun i σ2 x1 x2 x3 x4 => x1 = nI y ∧ x2 = (bfS (fun t => mP D p q n ek ef en t (nI y)) 0 i).1 ∧ x3 = (bfS (fun t => mP D p q n ek ef en t (nI y)) 0 i).2 ∧ x4 = nI i ∧ XI D p q n0 n1 n m ek ef en σ2) (fun σ2 x1 x2 x3 x4 r => XV D p q n0 n1 n m ek ef en r (bfS (fun t => mP D p q n ek ef en t (nI y)) 0 N).1) ?_ 300 0 (by omega) (by omega) σ (nI y) 0 (-1) 0 ⟨rfl, rfl, rfl, rfl, h⟩
    intro i k σ2 x1 x2 x3 x4 hi hI ih
    obtain ⟨rfl, rfl, rfl, rfl, hX⟩ := hI
    unfold f_X9_bestNight_b7 f_X9_bestNight_b35
    rw [n_lit 24]
    rcases Nat.lt_or_ge i 24 with hlt | hge
    · rw [at_go hlt (by omega)]
      obtain ⟨r, σ3, e, er, hX3⟩ := metP_x hX hlt (nI y)
      rw [e, bnd_some, er]
      simp only [amlet_eq, nI_1]
      have ss := bfS_s (fun t => mP D p q n ek ef en t (nI y)) 0 i
      by_cases q : mP D p q n ek ef en i (nI y) ≤ (bfS (fun t => mP D p q n ek ef en t (nI y)) 0 i).2
      · rw [if_pos q] at ss ⊢
        exact ih _ _ _ _ _ hlt ⟨rfl, by rw [ss], by rw [ss], rfl, hX3⟩
      · rw [if_neg q] at ss ⊢
        exact ih _ _ _ _ _ hlt ⟨rfl, by rw [ss], by rw [ss], rfl, hX3⟩
    · have e : i = 24 := by omega
      rw [e, at_end (Nat.le_refl _) (by omega), ← hN]
      exact xv_some hX
  exact gen 24 rfl
theorem when_m {D : Sg} {p q n0 n1 n m : Nat} {ek ef : Nat → Int32} {en : Nat → Nat} {τ : Sg} (h : MI D p q n0 n1 n m ek ef en τ) (y : Nat) (a : Int32) : MV D p q n0 n1 n m ek ef en (f_X10_whenOf τ (nI y) a) (if a = 0 then (bfS (fun t => mP D p q n ek ef en t (nI y)) (-1) 24).1 else (bfS (fun t => mP D p q n ek ef en t (nI y)) (-1) 24).2) := by
  unfold f_X10_whenOf
  obtain ⟨u, τ1, e, hM1, hG1, hE1, h19⟩ := asTold_m h
  rw [e, bnd_some]
  have hp8 := h.1.sizes
  have gen : ∀ N, N = 24 → MV D p q n0 n1 n m ek ef en (f_X10_whenOf_l12 300 τ1 (nI y) a (-1 : Int32) (-1 : Int32) (0 : Int32)) (if a = 0 then (bfS (fun t => mP D p q n ek ef en t (nI y)) (-1) N).1 else (bfS (fun t => mP D p q n ek ef en t (nI y)) (-1) N).2) := fun N hN => by
    refine i_X10_whenOf_l12 24 (fun i σ2 x1 x2 x3 x4 x5 => x1 = nI y ∧ x2 = a ∧ x3 = (bfS (fun t => mP D p q n ek ef en t (nI y)) (-1) i).1 ∧ x4 = (bfS (fun t => mP D p q n ek ef en t (nI y)) (-1) i).2 ∧ x5 = nI i ∧ MI D p q n0 n1 n m ek ef en σ2 ∧ MG D σ2 p q ∧ ES n ek ef en σ2 ∧ σ2 0 19 = 0) (fun σ2 x1 x2 x3 x4 x5 r => MV D p q n0 n1 n m ek ef en r (if a = 0 then (bfS (fun t => mP D p q n ek ef en t (nI y)) (-1) N).1 else (bfS (fun t => mP D p q n ek ef en t (nI y)) (-1) N).2)) ?_ 300 0 (by omega) (by omega) τ1 (nI y) a (-1) (-1) 0 ⟨rfl, rfl, rfl, rfl, rfl, hM1, hG1, hE1.es, h19⟩
    intro i k σ2 x1 x2 x3 x4 x5 hi hI ih
    obtain ⟨rfl, rfl, rfl, rfl, rfl, hM, hG, hE, h19⟩ := hI
    unfold f_X10_whenOf_b12 f_X10_whenOf_b45 f_X10_whenOf_b60
    rw [n_lit 24]
    rcases Nat.lt_or_ge i 24 with hlt | hge
    · rw [at_go hlt (by omega)]
      obtain ⟨r, σ3, e, hM3, hG3, hE3, h193, hR3⟩ := more_m hM hG hE h19 hlt (nI y)
      rw [e, bnd_some, metNow_ok (f := (RM1 D p q n ek ef en i (nI y) 24).2.2.1) hp8.2 hG3.2.1 (fun k hk => hR3.2.2.1 k hk), bnd_some]
      simp only [amlet_eq, nI_1]
      have ss := bfS_s (fun t => mP D p q n ek ef en t (nI y)) (-1) i
      show MV D p q n0 n1 n m ek ef en (if mP D p q n ek ef en i (nI y) ≤ _ then (if mP D p q n ek ef en i (nI y) ≤ _ then _ else _) else (if mP D p q n ek ef en i (nI y) ≤ _ then _ else _)) _
      by_cases q : mP D p q n ek ef en i (nI y) ≤ (bfS (fun t => mP D p q n ek ef en t (nI y)) (-1) i).2
      · rw [if_pos q] at ss ⊢
        rw [if_pos q]
        exact ih _ _ _ _ _ _ hlt ⟨rfl, rfl, by rw [ss], by rw [ss], rfl, hM3, hG3, hE3, h193⟩
      · rw [if_neg q] at ss ⊢
        rw [if_neg q]
        exact ih _ _ _ _ _ _ hlt ⟨rfl, rfl, by rw [ss], by rw [ss]; rfl, rfl, hM3, hG3, hE3, h193⟩
    · have e : i = 24 := by omega
      rw [e, at_end (Nat.le_refl _) (by omega), ← hN]
      by_cases h0 : x2 = 0
      · rw [if_pos h0, if_pos h0]; exact mv_some hM hG
      · rw [if_neg h0, if_neg h0]; exact mv_some hM hG
  exact gen 24 rfl
theorem plough_x {D : Sg} {p q n0 n1 n m : Nat} {ek ef : Nat → Int32} {en : Nat → Nat} {σ : Sg} (h : XI D p q n0 n1 n m ek ef en σ) {t : Nat} (ht : t < 24) {a : Int32} (ha : 0 ≤ a ∧ a < 2) : XV D p q n0 n1 n m ek ef en (f_X9_plough σ (nI t) a) (if a = 0 then (bfS (fun y => mP D p q n ek ef en t (nI y)) (-1) 6).1 else (bfS (fun y => mP D p q n ek ef en t (nI y)) (-1) 6).2) := by
  have hp8 := h.1.sizes
  unfold f_X9_plough
  simp only [isBelow_eq, bnd_some, one_if]
  rw [if_pos (show 0 ≤ nI t ∧ nI t < (24 : Int32) from of_below (N := 24) ht (by omega)), if_pos ha]
  obtain ⟨r, σ1, e, er, hX⟩ := bestFurrow_x h ht
  rw [e, bnd_some, er, bfS_same 0 (-1) (mP_pos D p q n ek ef en t (nI 0) hp8.2) 5]
  obtain ⟨j, hj, ej⟩ := bfS_at (f := fun y => mP D p q n ek ef en t (nI y)) (-1) (mP_pos D p q n ek ef en t (nI 0) hp8.2) 5
  rw [ej]
  by_cases h0 : a = 0
  · rw [if_pos h0, if_pos h0]; exact xv_some hX
  · rw [if_neg h0, if_neg h0]
    obtain ⟨r2, σ2, e2, er2, hX2⟩ := metP_x hX ht (nI j)
    rw [e2, bnd_some, er2]
    exact xv_some hX2
theorem ag_plough {D : Sg} {p q n0 n1 n m : Nat} {ek ef : Nat → Int32} {en : Nat → Nat} {σ τ : Sg} (h : XI D p q n0 n1 n m ek ef en σ) (g : MI D p q n0 n1 n m ek ef en τ) (a1 a2 : Int32) : Agr (f_X9_plough σ a1 a2) (f_X10_plough τ a1 a2) := by
  have ref : (¬ ((0 ≤ a1 ∧ a1 < 24) ∧ (0 ≤ a2 ∧ a2 < 2))) → XV D p q n0 n1 n m ek ef en (f_X9_plough σ a1 a2) (-2) := fun hno => by
    unfold f_X9_plough
    simp only [isBelow_eq, bnd_some, one_if]
    by_cases h1 : 0 ≤ a1 ∧ a1 < 24
    · rw [if_pos h1, if_neg (fun q => hno ⟨h1, q⟩)]; exact xv_some h
    · rw [if_neg h1]; exact xv_some h
  unfold f_X10_plough
  simp only [isNight_eq, isTwo_eq, bnd_some, one_if]
  by_cases h1 : 0 ≤ a1 ∧ a1 < 24
  rotate_left
  · rw [if_neg h1]; exact agr_of (ref fun q => h1 q.1) (mu_some g)
  rw [if_pos h1]
  by_cases h2 : 0 ≤ a2 ∧ a2 < 2
  rotate_left
  · rw [if_neg h2]; exact agr_of (ref fun q => h2 q.2) (mu_some g)
  rw [if_pos h2]
  obtain ⟨t, ht, rfl⟩ := below_of (N := 24) (by omega) h1
  exact agr_of (plough_x h ht h2) (mu_id (plough_m g ht a2).u)
theorem when_x {D : Sg} {p q n0 n1 n m : Nat} {ek ef : Nat → Int32} {en : Nat → Nat} {σ : Sg} (h : XI D p q n0 n1 n m ek ef en σ) {y : Nat} (hy : y < 6) {a : Int32} (ha : 0 ≤ a ∧ a < 2) : XV D p q n0 n1 n m ek ef en (f_X9_when σ (nI y) a) (if a = 0 then (bfS (fun t => mP D p q n ek ef en t (nI y)) (-1) 24).1 else (bfS (fun t => mP D p q n ek ef en t (nI y)) (-1) 24).2) := by
  have hp8 := h.1.sizes
  unfold f_X9_when
  simp only [isBelow_eq, bnd_some, one_if]
  rw [if_pos (show 0 ≤ nI y ∧ nI y < (6 : Int32) from of_below (N := 6) hy (by omega)), if_pos ha]
  obtain ⟨r, σ1, e, er, hX⟩ := bestNight_x h y
  rw [e, bnd_some, er, bfS_same 0 (-1) (mP_pos D p q n ek ef en 0 (nI y) hp8.2) 23]
  obtain ⟨j, hj, ej⟩ := bfS_at (f := fun t => mP D p q n ek ef en t (nI y)) (-1) (mP_pos D p q n ek ef en 0 (nI y) hp8.2) 23
  rw [ej]
  by_cases h0 : a = 0
  · rw [if_pos h0, if_pos h0]; exact xv_some hX
  · rw [if_neg h0, if_neg h0]
    obtain ⟨r2, σ2, e2, er2, hX2⟩ := metP_x hX (show j < 24 by omega) (nI y)
    rw [e2, bnd_some, er2]
    exact xv_some hX2
theorem ag_when {D : Sg} {p q n0 n1 n m : Nat} {ek ef : Nat → Int32} {en : Nat → Nat} {σ τ : Sg} (h : XI D p q n0 n1 n m ek ef en σ) (g : MI D p q n0 n1 n m ek ef en τ) (a1 a2 : Int32) : Agr (f_X9_when σ a1 a2) (f_X10_when τ a1 a2) := by
  have ref : (¬ ((0 ≤ a1 ∧ a1 < 6) ∧ (0 ≤ a2 ∧ a2 < 2))) → XV D p q n0 n1 n m ek ef en (f_X9_when σ a1 a2) (-2) := fun hno => by
    unfold f_X9_when
    simp only [isBelow_eq, bnd_some, one_if]
    by_cases h1 : 0 ≤ a1 ∧ a1 < 6
    · rw [if_pos h1, if_neg (fun q => hno ⟨h1, q⟩)]; exact xv_some h
    · rw [if_neg h1]; exact xv_some h
  unfold f_X10_when
  simp only [isSix_eq, isTwo_eq, bnd_some, one_if]
  by_cases h1 : 0 ≤ a1 ∧ a1 < 6
  rotate_left
  · rw [if_neg h1]; exact agr_of (ref fun q => h1 q.1) (mu_some g)
  rw [if_pos h1]
  by_cases h2 : 0 ≤ a2 ∧ a2 < 2
  rotate_left
  · rw [if_neg h2]; exact agr_of (ref fun q => h2 q.2) (mu_some g)
  rw [if_pos h2]
  obtain ⟨y, hy, rfl⟩ := below_of (N := 6) (by omega) h1
  exact agr_of (when_x h hy h2) (mu_id (when_m g y a2).u)
