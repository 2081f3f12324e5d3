/-! was: by sort, by far -/
theorem DOK.c6 {D : Sg} {p q : Nat} (h : DOK D p q) (k : Nat) {v : Nat} (hv : v < 3) : DOK (up2 D 6 k (nI v)) p q := by
  obtain ⟨h1, h2, h3, h4, h5, h6⟩ := h
  refine ⟨h1, h2, by rw [up2_off (by omega)]; exact h3, by rw [up2_off (by omega)]; exact h4, fun j hj => ?_, fun j hj => ?_⟩
  · obtain ⟨a1, a2, a3, a4⟩ := h5 j hj
    rw [up2_off (show (7 : Nat) ≠ 6 by omega), up2_off (show (8 : Nat) ≠ 6 by omega), up2_off (show (9 : Nat) ≠ 6 by omega), up2_at]
    by_cases e : j = k
    · subst e
      rw [upd_at]
      exact ⟨by rcases (show v = 0 ∨ v = 1 ∨ v = 2 by omega) with q | q | q <;> (subst q; first | exact Or.inl rfl | exact Or.inr (Or.inl rfl) | exact Or.inr (Or.inr rfl)), a2, a3, a4⟩
    · rw [upd_off e]
      exact ⟨a1, a2, a3, a4⟩
  · rw [up2_off (show (11 : Nat) ≠ 6 by omega), up2_off (show (12 : Nat) ≠ 6 by omega), up2_off (show (13 : Nat) ≠ 6 by omega)]
    exact h6 j hj
theorem MG.c6 {D D' τ : Sg} {p q k : Nat} (h : MG D' τ p q) (e : ∀ c, c ≠ 6 → D' c = D c) (e7 : ∀ j, j ≠ k → D' 6 j = D 6 j) (x : Int32) : MG (up2 D 6 k x) (up2 τ 3 k x) p q := by
  obtain ⟨h1, h2, h3, h4⟩ := h
  refine ⟨by rw [up2_off (by omega)]; exact h1, by rw [up2_off (by omega)]; exact h2, fun j hj => ?_, fun j hj => ?_⟩
  · obtain ⟨a1, a2, a3, a4⟩ := h3 j hj
    rw [up2_off (show (4 : Nat) ≠ 3 by omega), up2_off (show (5 : Nat) ≠ 3 by omega), up2_off (show (6 : Nat) ≠ 3 by omega), up2_off (show (7 : Nat) ≠ 6 by omega), up2_off (show (8 : Nat) ≠ 6 by omega), up2_off (show (9 : Nat) ≠ 6 by omega), up2_at, up2_at, ← e 7 (by omega), ← e 8 (by omega), ← e 9 (by omega)]
    by_cases q : j = k
    · subst q; rw [upd_at, upd_at]; exact ⟨rfl, a2, a3, a4⟩
    · rw [upd_off q, upd_off q, ← e7 j q]; exact ⟨a1, a2, a3, a4⟩
  · obtain ⟨a1, a2, a3⟩ := h4 j hj
    rw [up2_off (show (7 : Nat) ≠ 3 by omega), up2_off (show (8 : Nat) ≠ 3 by omega), up2_off (show (9 : Nat) ≠ 3 by omega), up2_off (show (11 : Nat) ≠ 6 by omega), up2_off (show (12 : Nat) ≠ 6 by omega), up2_off (show (13 : Nat) ≠ 6 by omega), ← e 11 (by omega), ← e 12 (by omega), ← e 13 (by omega)]
    exact ⟨a1, a2, a3⟩
/-- who is up behind a night by a value -/
def u6 (D : Sg) (p q n : Nat) (ek ef : Nat → Int32) (en : Nat → Nat) (k v t : Nat) : Int32 := (RN (up2 D 6 k (nI v)) p q n ek ef en selT (t + 1)).1
def fp6 (D : Sg) (p q n m : Nat) (ek ef : Nat → Int32) (en : Nat → Nat) (k v : Nat) : Prop := fitS D p m (u6 D p q n ek ef en k v)
/-- the class tries a value -/
theorem try6_x {D : Sg} {p q n0 n1 n m : Nat} {ek ef : Nat → Int32} {en : Nat → Nat} {σ σ2 : Sg} (h : XI D p q n0 n1 n m ek ef en σ) {k v : Nat} (hv : v < 3) (hs : ∀ c, (c < 35 ∨ 41 < c) → c ≠ 6 → c ≠ 44 → σ2 c = σ c) (hs9 : ∀ j, j ≠ k → σ2 6 j = σ 6 j) {K : Int32 → Sg → Option (Int32 × Sg)} : ∃ σ6 : Sg, bnd (f_X0_run 35 14 (up2 σ2 6 k (nI v)) (-1 : Int32)) (fun _ σ4 => bnd (f_X7_fit 35 σ4 (σ4 5 1)) K) = K (b2 (fp6 D p q n m ek ef en k v)) σ6 ∧ (∀ c, (c < 35 ∨ 41 < c) → c ≠ 6 → σ6 c = σ2 c) ∧ (∀ j, j ≠ k → σ6 6 j = σ 6 j) ∧ ∀ t, t < 24 → σ6 39 t = u6 D p q n ek ef en k v t := by
  have hn8 := h.2.2.2.1
  have hSD : SD (up2 D 6 k (nI v)) (up2 σ2 6 k (nI v)) := fun c g1 g2 => by
    by_cases e : c = 6
    · subst e
      rw [up2_at, up2_at]
      funext j
      by_cases q : j = k
      · subst q; rw [upd_at, upd_at]
      · rw [upd_off q, upd_off q, hs9 j q, h.sd 6 (by omega) (by omega)]
    · rw [up2_off e, up2_off e, hs c (by omega) e (by omega), h.sd c g1 g2]
  obtain ⟨u, σ6, e1, b1, b2'⟩ := run_hc (c0 := 35) (h.dok.c6 k hv) hSD (h.eok.move (σ' := up2 σ2 6 k (nI v)) fun c g1 g2 => by rw [up2_off (by omega), hs c (by omega) (by omega) (by omega)]) (by omega) (by omega) (-1)
  have hH := b2'.sel (sel' := selT) fun e he => selI_T e (by omega)
  have f1 : ∀ c, (c < 35 ∨ 41 < c) → c ≠ 6 → σ6 c = σ2 c := fun c g1 g2 => by rw [b1 c g1, up2_off g2]
  have f2 : ∀ c, (c < 35 ∨ 41 < c) → c ≠ 6 → c ≠ 44 → σ6 c = σ c := fun c g1 g2 g3 => by rw [f1 c g1 g2, hs c g1 g2 g3]
  rw [e1, bnd_some, f2 5 (by omega) (by omega) (by omega), h.h5, fit_ok (D := D) (m := m) (up := u6 D p q n ek ef en k v) h.2.1 (fun c g1 g2 => by rw [f2 c (by omega) (by omega) (by omega), h.core (by omega)]) (fun t ht => hH.2 t ht), bnd_some]
  exact ⟨σ6, rfl, f1, fun j hj => by rw [b1 6 (by omega), up2_at, upd_off hj, hs9 j hj], fun t ht => hH.2 t ht⟩
/-- the class's own value again -/
theorem back6_x {D : Sg} {p q n0 n1 n m : Nat} {ek ef : Nat → Int32} {en : Nat → Nat} {σ σ2 : Sg} (h : XI D p q n0 n1 n m ek ef en σ) {k : Nat} (hs : ∀ c, (c < 35 ∨ 41 < c) → c ≠ 6 → c ≠ 44 → σ2 c = σ c) (hs9 : ∀ j, j ≠ k → σ2 6 j = σ 6 j) : XI D p q n0 n1 n m ek ef en (up2 σ2 6 k (D 6 k)) := by
  refine h.fr fun c hc => ?_
  by_cases e : c = 6
  · subst e
    rw [up2_at]
    funext j
    by_cases q : j = k
    · subst q; rw [upd_at, h.sd 6 (by omega) (by omega)]
    · rw [upd_off q, hs9 j q]
  · rw [up2_off e, hs c (by omega) e (by omega)]
/-- the reference tries a value -/
theorem try6_m {D : Sg} {p q n0 n1 n m : Nat} {ek ef : Nat → Int32} {en : Nat → Nat} {τ : Sg} (h : MI D p q n0 n1 n m ek ef en τ) {k v : Nat} (hv : v < 3) (hG : ∃ D', MG D' τ p q ∧ (∀ c, c ≠ 6 → D' c = D c) ∧ ∀ j, j ≠ k → D' 6 j = D 6 j) (hE : EM τ n ek ef en) (h19 : τ 0 19 = 0) : Ret (f_X10_isSeen (up2 τ 3 k (nI v))) (fun r τ' => r = b2 (fp6 D p q n m ek ef en k v) ∧ MI D p q n0 n1 n m ek ef en τ' ∧ (∃ D', MG D' τ' p q ∧ (∀ c, c ≠ 6 → D' c = D c) ∧ ∀ j, j ≠ k → D' 6 j = D 6 j) ∧ EM τ' n ek ef en ∧ τ' 0 19 = 0 ∧ τ' 26 = τ 26 ∧ ∀ t, t < 24 → τ' 20 t = u6 D p q n ek ef en k v t) := by
  have hn8 := h.2.2.2.1
  obtain ⟨D', hG, hD, hD9⟩ := hG
  have w : ∀ c, c ≠ 3 → up2 τ 3 k (nI v) c = τ c := fun c hc => up2_off hc
  obtain ⟨r, τ', e, er, b1, b3, b4, b5, b6, b7⟩ := isSeen_m (h.fr (τ' := up2 τ 3 k (nI v)) (fun c hc => w c (by omega)) (fun k hk => by rw [w 0 (by omega)])) (h.1.dok.c6 k hv) (hG.c6 hD hD9 (nI v)) (hE.move (by rw [w 0 (by omega)]) (fun c g1 g2 => w c (by omega)))
  rw [w 0 (by omega), h19, RN_selF (sel' := selT) (fun e he => selM_T e (by omega))] at er b7
  exact ⟨r, τ', e, er, b1, ⟨up2 D 6 k (nI v), b3, fun c hc => up2_off hc, fun j hj => by rw [up2_at, upd_off hj]⟩, b4, by rw [b5, w 0 (by omega), h19], by rw [b6, w 26 (by omega)], b7⟩
theorem DOK.c9 {D : Sg} {p q : Nat} (h : DOK D p q) (k : Nat) {v : Nat} (hv : 1 ≤ v ∧ v ≤ 9) : DOK (up2 D 9 k (nI v)) p q := by
  obtain ⟨h1, h2, h3, h4, h5, h6⟩ := h
  refine ⟨h1, h2, by rw [up2_off (by omega)]; exact h3, by rw [up2_off (by omega)]; exact h4, fun j hj => ?_, fun j hj => ?_⟩
  · obtain ⟨a1, a2, a3, a4⟩ := h5 j hj
    rw [up2_off (show (6 : Nat) ≠ 9 by omega), up2_off (show (7 : Nat) ≠ 9 by omega), up2_off (show (8 : Nat) ≠ 9 by omega), up2_at]
    by_cases e : j = k
    · subst e
      rw [upd_at]
      exact ⟨a1, a2, a3, v, hv.1, hv.2, rfl⟩
    · rw [upd_off e]
      exact ⟨a1, a2, a3, a4⟩
  · rw [up2_off (show (11 : Nat) ≠ 9 by omega), up2_off (show (12 : Nat) ≠ 9 by omega), up2_off (show (13 : Nat) ≠ 9 by omega)]
    exact h6 j hj
theorem MG.c9 {D D' τ : Sg} {p q k : Nat} (h : MG D' τ p q) (e : ∀ c, c ≠ 9 → D' c = D c) (e7 : ∀ j, j ≠ k → D' 9 j = D 9 j) (x : Int32) : MG (up2 D 9 k x) (up2 τ 6 k x) p q := by
  obtain ⟨h1, h2, h3, h4⟩ := h
  refine ⟨by rw [up2_off (by omega)]; exact h1, by rw [up2_off (by omega)]; exact h2, fun j hj => ?_, fun j hj => ?_⟩
  · obtain ⟨a1, a2, a3, a4⟩ := h3 j hj
    rw [up2_off (show (3 : Nat) ≠ 6 by omega), up2_off (show (4 : Nat) ≠ 6 by omega), up2_off (show (5 : Nat) ≠ 6 by omega), up2_off (show (6 : Nat) ≠ 9 by omega), up2_off (show (7 : Nat) ≠ 9 by omega), up2_off (show (8 : Nat) ≠ 9 by omega), up2_at, up2_at, ← e 6 (by omega), ← e 7 (by omega), ← e 8 (by omega)]
    by_cases q : j = k
    · subst q; rw [upd_at, upd_at]; exact ⟨a1, a2, a3, rfl⟩
    · rw [upd_off q, upd_off q, ← e7 j q]; exact ⟨a1, a2, a3, a4⟩
  · obtain ⟨a1, a2, a3⟩ := h4 j hj
    rw [up2_off (show (7 : Nat) ≠ 6 by omega), up2_off (show (8 : Nat) ≠ 6 by omega), up2_off (show (9 : Nat) ≠ 6 by omega), up2_off (show (11 : Nat) ≠ 9 by omega), up2_off (show (12 : Nat) ≠ 9 by omega), up2_off (show (13 : Nat) ≠ 9 by omega), ← e 11 (by omega), ← e 12 (by omega), ← e 13 (by omega)]
    exact ⟨a1, a2, a3⟩
/-- who is up behind a night by a value -/
def u9 (D : Sg) (p q n : Nat) (ek ef : Nat → Int32) (en : Nat → Nat) (k v t : Nat) : Int32 := (RN (up2 D 9 k (nI v)) p q n ek ef en selT (t + 1)).1
def fp9 (D : Sg) (p q n m : Nat) (ek ef : Nat → Int32) (en : Nat → Nat) (k v : Nat) : Prop := fitS D p m (u9 D p q n ek ef en k v)
/-- the class tries a value -/
theorem try9_x {D : Sg} {p q n0 n1 n m : Nat} {ek ef : Nat → Int32} {en : Nat → Nat} {σ σ2 : Sg} (h : XI D p q n0 n1 n m ek ef en σ) {k v : Nat} (hv : 1 ≤ v ∧ v ≤ 9) (hs : ∀ c, (c < 35 ∨ 41 < c) → c ≠ 9 → c ≠ 44 → σ2 c = σ c) (hs9 : ∀ j, j ≠ k → σ2 9 j = σ 9 j) {K : Int32 → Sg → Option (Int32 × Sg)} : ∃ σ6 : Sg, bnd (f_X0_run 35 14 (up2 σ2 9 k (nI v)) (-1 : Int32)) (fun _ σ4 => bnd (f_X7_fit 35 σ4 (σ4 5 1)) K) = K (b2 (fp9 D p q n m ek ef en k v)) σ6 ∧ (∀ c, (c < 35 ∨ 41 < c) → c ≠ 9 → σ6 c = σ2 c) ∧ (∀ j, j ≠ k → σ6 9 j = σ 9 j) ∧ ∀ t, t < 24 → σ6 39 t = u9 D p q n ek ef en k v t := by
  have hn8 := h.2.2.2.1
  have hSD : SD (up2 D 9 k (nI v)) (up2 σ2 9 k (nI v)) := fun c g1 g2 => by
    by_cases e : c = 9
    · subst e
      rw [up2_at, up2_at]
      funext j
      by_cases q : j = k
      · subst q; rw [upd_at, upd_at]
      · rw [upd_off q, upd_off q, hs9 j q, h.sd 9 (by omega) (by omega)]
    · rw [up2_off e, up2_off e, hs c (by omega) e (by omega), h.sd c g1 g2]
  obtain ⟨u, σ6, e1, b1, b2'⟩ := run_hc (c0 := 35) (h.dok.c9 k hv) hSD (h.eok.move (σ' := up2 σ2 9 k (nI v)) fun c g1 g2 => by rw [up2_off (by omega), hs c (by omega) (by omega) (by omega)]) (by omega) (by omega) (-1)
  have hH := b2'.sel (sel' := selT) fun e he => selI_T e (by omega)
  have f1 : ∀ c, (c < 35 ∨ 41 < c) → c ≠ 9 → σ6 c = σ2 c := fun c g1 g2 => by rw [b1 c g1, up2_off g2]
  have f2 : ∀ c, (c < 35 ∨ 41 < c) → c ≠ 9 → c ≠ 44 → σ6 c = σ c := fun c g1 g2 g3 => by rw [f1 c g1 g2, hs c g1 g2 g3]
  rw [e1, bnd_some, f2 5 (by omega) (by omega) (by omega), h.h5, fit_ok (D := D) (m := m) (up := u9 D p q n ek ef en k v) h.2.1 (fun c g1 g2 => by rw [f2 c (by omega) (by omega) (by omega), h.core (by omega)]) (fun t ht => hH.2 t ht), bnd_some]
  exact ⟨σ6, rfl, f1, fun j hj => by rw [b1 9 (by omega), up2_at, upd_off hj, hs9 j hj], fun t ht => hH.2 t ht⟩
/-- the class's own value again -/
theorem back9_x {D : Sg} {p q n0 n1 n m : Nat} {ek ef : Nat → Int32} {en : Nat → Nat} {σ σ2 : Sg} (h : XI D p q n0 n1 n m ek ef en σ) {k : Nat} (hs : ∀ c, (c < 35 ∨ 41 < c) → c ≠ 9 → c ≠ 44 → σ2 c = σ c) (hs9 : ∀ j, j ≠ k → σ2 9 j = σ 9 j) : XI D p q n0 n1 n m ek ef en (up2 σ2 9 k (D 9 k)) := by
  refine h.fr fun c hc => ?_
  by_cases e : c = 9
  · subst e
    rw [up2_at]
    funext j
    by_cases q : j = k
    · subst q; rw [upd_at, h.sd 9 (by omega) (by omega)]
    · rw [upd_off q, hs9 j q]
  · rw [up2_off e, hs c (by omega) e (by omega)]
/-- the reference tries a value -/
theorem try9_m {D : Sg} {p q n0 n1 n m : Nat} {ek ef : Nat → Int32} {en : Nat → Nat} {τ : Sg} (h : MI D p q n0 n1 n m ek ef en τ) {k v : Nat} (hv : 1 ≤ v ∧ v ≤ 9) (hG : ∃ D', MG D' τ p q ∧ (∀ c, c ≠ 9 → D' c = D c) ∧ ∀ j, j ≠ k → D' 9 j = D 9 j) (hE : EM τ n ek ef en) (h19 : τ 0 19 = 0) : Ret (f_X10_isSeen (up2 τ 6 k (nI v))) (fun r τ' => r = b2 (fp9 D p q n m ek ef en k v) ∧ MI D p q n0 n1 n m ek ef en τ' ∧ (∃ D', MG D' τ' p q ∧ (∀ c, c ≠ 9 → D' c = D c) ∧ ∀ j, j ≠ k → D' 9 j = D 9 j) ∧ EM τ' n ek ef en ∧ τ' 0 19 = 0 ∧ τ' 26 = τ 26 ∧ ∀ t, t < 24 → τ' 20 t = u9 D p q n ek ef en k v t) := by
  have hn8 := h.2.2.2.1
  obtain ⟨D', hG, hD, hD9⟩ := hG
  have w : ∀ c, c ≠ 6 → up2 τ 6 k (nI v) c = τ c := fun c hc => up2_off hc
  obtain ⟨r, τ', e, er, b1, b3, b4, b5, b6, b7⟩ := isSeen_m (h.fr (τ' := up2 τ 6 k (nI v)) (fun c hc => w c (by omega)) (fun k hk => by rw [w 0 (by omega)])) (h.1.dok.c9 k hv) (hG.c9 hD hD9 (nI v)) (hE.move (by rw [w 0 (by omega)]) (fun c g1 g2 => w c (by omega)))
  rw [w 0 (by omega), h19, RN_selF (sel' := selT) (fun e he => selM_T e (by omega))] at er b7
  exact ⟨r, τ', e, er, b1, ⟨up2 D 9 k (nI v), b3, fun c hc => up2_off hc, fun j hj => by rw [up2_at, upd_off hj]⟩, b4, by rw [b5, w 0 (by omega), h19], by rw [b6, w 26 (by omega)], b7⟩

/-- was: sorts -/
theorem sorts_x {D : Sg} {p q n0 n1 n m : Nat} {ek ef : Nat → Int32} {en : Nat → Nat} {σ : Sg} (h : XI D p q n0 n1 n m ek ef en σ) {k : Nat} (hk : k < p) : XV D p q n0 n1 n m ek ef en (f_X9_fittingSorts σ (nI k)) (bitS (fp6 D p q n m ek ef en k) 0 3) := by
  have hp8 := h.1.sizes
  unfold f_X9_fittingSorts
  rw [gd_in (show k < 8 by omega) (by omega), cl_nI (by omega), amlet_eq, h.sd 6 (by omega) (by omega)]
  have gen : ∀ N, N = 3 → XV D p q n0 n1 n m ek ef en (f_X9_fittingSorts_l15 300 σ (nI k) (D 6 k) (0 : Int32) (0 : Int32)) (bitS (fp6 D p q n m ek ef en k) 0 N) := fun N hN => by
    refine i_X9_fittingSorts_l15 3 (fun i σ2 x1 x2 x3 x4 => x1 = nI k ∧ x2 = D 6 k ∧ x3 = bitS (fp6 D p q n m ek ef en k) 0 i ∧ x4 = nI i ∧ (∀ c, (c < 35 ∨ 41 < c) → c ≠ 6 → c ≠ 44 → σ2 c = σ c) ∧ ∀ j, j ≠ k → σ2 6 j = σ 6 j) (fun σ2 x1 x2 x3 x4 r => XV D p q n0 n1 n m ek ef en r (bitS (fp6 D p q n m ek ef en k) 0 N)) ?_ 300 0 (by omega) (by omega) σ (nI k) (D 6 k) 0 0 ⟨rfl, rfl, rfl, rfl, fun _ _ _ _ => rfl, fun _ _ => rfl⟩
    intro i kk σ2 x1 x2 x3 x4 hi hI ih
    obtain ⟨rfl, rfl, rfl, rfl, hs, hs6⟩ := hI
    unfold f_X9_fittingSorts_b15 f_X9_fittingSorts_b80
    rw [n_lit 3]
    rcases Nat.lt_or_ge i 3 with hlt | hge
    · rw [at_go hlt (by omega), gd_in (show k < 8 by omega) (by omega), cl_nI (by omega), amlet_eq]
      obtain ⟨σ6, e, f1, f2, f3⟩ := try6_x h (v := i) hlt hs hs6 (K := fun r5 σ6 => (if r5 = 0 then amlet (nI i + (1 : Int32)) (fun v1 => (kk σ6 (nI k) (D 6 k) (bitS (fp6 D p q n m ek ef en k) 0 i) v1)) else amlet (bitS (fp6 D p q n m ek ef en k) 0 i ||| ((1 : Int32) <<< (nI i &&& 31))) (fun v7 => amlet (nI i + (1 : Int32)) (fun v1 => (kk σ6 (nI k) (D 6 k) v7 v1)))))
      rw [e]
      simp only [amlet_eq, nI_1]
      have ss := bitS_s (fp6 D p q n m ek ef en k) 0 i
      rw [Nat.zero_add] at ss
      have nx : (∀ c, (c < 35 ∨ 41 < c) → c ≠ 6 → c ≠ 44 → σ6 c = σ c) ∧ ∀ j, j ≠ k → σ6 6 j = σ 6 j := ⟨fun c g1 g2 g3 => by rw [f1 c g1 g2, hs c g1 g2 g3], f2⟩
      by_cases hb : b2 (fp6 D p q n m ek ef en k i) = 0
      · rw [if_pos hb] at ss ⊢
        exact ih _ _ _ _ _ hlt ⟨rfl, rfl, ss.symm, rfl, nx⟩
      · rw [if_neg hb] at ss ⊢
        exact ih _ _ _ _ _ hlt ⟨rfl, rfl, ss.symm, rfl, nx⟩
    · have e : i = 3 := by omega
      rw [e, at_end (Nat.le_refl _) (by omega), hN, gd_in (show k < 8 by omega) (by omega), cl_nI (by omega), amlet_eq]
      exact xv_some (back6_x h hs hs6)
  exact gen 3 rfl
theorem sorts_m {D : Sg} {p q n0 n1 n m : Nat} {ek ef : Nat → Int32} {en : Nat → Nat} {τ : Sg} (h : MI D p q n0 n1 n m ek ef en τ) {k : Nat} (hk : k < p) : MV D p q n0 n1 n m ek ef en (f_X10_sortsBy τ (nI k)) (bitS (fp6 D p q n m ek ef en k) 0 3) := by
  have hp8 := h.1.sizes
  unfold f_X10_sortsBy
  obtain ⟨u, τ1, e1, hM1, hG1, hE1, h19⟩ := asTold_m h
  rw [e1, bnd_some, gd_in (show k < 9 by omega) (by omega), cl_nI (by omega), amlet_eq, (hG1.2.2.1 k hk).1]
  have gen : ∀ N, N = 3 → MV D p q n0 n1 n m ek ef en (f_X10_sortsBy_l16 300 τ1 (nI k) (D 6 k) (0 : Int32) (0 : Int32)) (bitS (fp6 D p q n m ek ef en k) 0 N) := fun N hN => by
    refine i_X10_sortsBy_l16 3 (fun i σ2 x1 x2 x3 x4 => x1 = nI k ∧ x2 = D 6 k ∧ x3 = bitS (fp6 D p q n m ek ef en k) 0 i ∧ x4 = nI i ∧ MI D p q n0 n1 n m ek ef en σ2 ∧ (∃ D', MG D' σ2 p q ∧ (∀ c, c ≠ 6 → D' c = D c) ∧ ∀ j, j ≠ k → D' 6 j = D 6 j) ∧ EM σ2 n ek ef en ∧ σ2 0 19 = 0) (fun σ2 x1 x2 x3 x4 r => MV D p q n0 n1 n m ek ef en r (bitS (fp6 D p q n m ek ef en k) 0 N)) ?_ 300 0 (by omega) (by omega) τ1 (nI k) (D 6 k) 0 0 ⟨rfl, rfl, rfl, rfl, hM1, ⟨D, hG1, fun _ _ => rfl, fun _ _ => rfl⟩, hE1, h19⟩
    intro i kk σ2 x1 x2 x3 x4 hi hI ih
    obtain ⟨rfl, rfl, rfl, rfl, hM, hG, hE, h19⟩ := hI
    unfold f_X10_sortsBy_b16 f_X10_sortsBy_b46
    rw [n_lit 3]
    rcases Nat.lt_or_ge i 3 with hlt | hge
    · rw [at_go hlt (by omega), gd_in (show k < 9 by omega) (by omega), cl_nI (by omega), amlet_eq]
      obtain ⟨r, τ2, e, er, b1, b3, b4, b5, -, -⟩ := try6_m hM (v := i) hlt hG hE h19
      rw [e, bnd_some, er]
      simp only [amlet_eq, nI_1, or_0]
      have ss := bitS_s (fp6 D p q n m ek ef en k) 0 i
      rw [Nat.zero_add] at ss
      by_cases hb : b2 (fp6 D p q n m ek ef en k i) = 0
      · rw [if_pos hb] at ss ⊢
        exact ih _ _ _ _ _ hlt ⟨rfl, rfl, ss.symm, rfl, b1, b3, b4, b5⟩
      · rw [if_neg hb] at ss ⊢
        exact ih _ _ _ _ _ hlt ⟨rfl, rfl, ss.symm, rfl, b1, b3, b4, b5⟩
    · have e : i = 3 := by omega
      rw [e, at_end (Nat.le_refl _) (by omega), hN, gd_in (show k < 9 by omega) (by omega), cl_nI (by omega), amlet_eq]
      obtain ⟨D', hG, hD, hD6⟩ := hG
      have hGc := hG.c6 hD hD6 (D 6 k)
      rw [up2_self] at hGc
      exact mv_some (hM.fr (fun c hc => up2_off (by omega)) (fun k hk => by rw [up2_off (by omega)])) hGc
  exact gen 3 rfl
/-- was: fars, and who is up by each -/
noncomputable def kl (P : Nat → Prop) : Nat → List Nat
  | 0 => []
  | i + 1 => if b2 (P (1 + i)) = 0 then kl P i else kl P i ++ [1 + i]
theorem kl_s (P : Nat → Prop) (i : Nat) : kl P (i + 1) = if b2 (P (1 + i)) = 0 then kl P i else kl P i ++ [1 + i] := rfl
theorem kl_len (P : Nat → Prop) : ∀ i, (kl P i).length ≤ i
  | 0 => Nat.le_refl _
  | i + 1 => by
    rw [kl_s]
    by_cases h : b2 (P (1 + i)) = 0
    · rw [if_pos h]; exact Nat.le_trans (kl_len P i) (Nat.le_succ i)
    · rw [if_neg h, List.length_append]; exact Nat.succ_le_succ (kl_len P i)
theorem fars_x {D : Sg} {p q n0 n1 n m : Nat} {ek ef : Nat → Int32} {en : Nat → Nat} {σ : Sg} (h : XI D p q n0 n1 n m ek ef en σ) {k : Nat} (hk : k < p) : Ret (f_X9_fittingFars σ (nI k)) (fun r σ' => r = bitS (fp9 D p q n m ek ef en k) 1 9 ∧ XI D p q n0 n1 n m ek ef en σ' ∧ ∀ j v, (kl (fp9 D p q n m ek ef en k) 9)[j]? = some v → ∀ t, t < 24 → σ' 44 (j * 24 + t) = u9 D p q n ek ef en k v t) := by
  have hp8 := h.1.sizes
  unfold f_X9_fittingFars
  rw [gd_in (show k < 8 by omega) (by omega), cl_nI (by omega), amlet_eq, h.sd 9 (by omega) (by omega)]
  have gen : ∀ N, N = 9 → Ret (f_X9_fittingFars_l18 300 σ (nI k) (D 9 k) (0 : Int32) (0 : Int32) (1 : Int32)) (fun r σ' => r = bitS (fp9 D p q n m ek ef en k) 1 N ∧ XI D p q n0 n1 n m ek ef en σ' ∧ ∀ j v, (kl (fp9 D p q n m ek ef en k) N)[j]? = some v → ∀ t, t < 24 → σ' 44 (j * 24 + t) = u9 D p q n ek ef en k v t) := fun N hN => by
    refine i_X9_fittingFars_l18 9 (fun i σ2 x1 x2 x3 x4 x5 => x1 = nI k ∧ x2 = D 9 k ∧ x3 = bitS (fp9 D p q n m ek ef en k) 1 i ∧ x4 = nI (kl (fp9 D p q n m ek ef en k) i).length ∧ x5 = nI (1 + i) ∧ (∀ c, (c < 35 ∨ 41 < c) → c ≠ 9 → c ≠ 44 → σ2 c = σ c) ∧ (∀ j, j ≠ k → σ2 9 j = σ 9 j) ∧ ∀ j v, (kl (fp9 D p q n m ek ef en k) i)[j]? = some v → ∀ t, t < 24 → σ2 44 (j * 24 + t) = u9 D p q n ek ef en k v t) (fun σ2 x1 x2 x3 x4 x5 r => Ret r (fun r σ' => r = bitS (fp9 D p q n m ek ef en k) 1 N ∧ XI D p q n0 n1 n m ek ef en σ' ∧ ∀ j v, (kl (fp9 D p q n m ek ef en k) N)[j]? = some v → ∀ t, t < 24 → σ' 44 (j * 24 + t) = u9 D p q n ek ef en k v t)) ?_ 300 0 (by omega) (by omega) σ (nI k) (D 9 k) 0 0 1 ⟨rfl, rfl, rfl, rfl, rfl, fun _ _ _ _ => rfl, fun _ _ => rfl, fun j v hj => by simp [kl] at hj⟩
    intro i kk σ2 x1 x2 x3 x4 x5 hi hI ih
    obtain ⟨rfl, rfl, rfl, rfl, rfl, hs, hs9, hlk⟩ := hI
    unfold f_X9_fittingFars_b18 f_X9_fittingFars_b109
    rcases Nat.lt_or_ge i 9 with hlt | hge
    · rw [if_neg (show ¬ (9 : Int32) < nI (1 + i) by rw [n_lit 9, p_lt (by omega) (by omega)]; omega), gd_in (show k < 8 by omega) (by omega), cl_nI (show k < 2147483648 by omega), amlet_eq]
      have hkl := kl_len (fp9 D p q n m ek ef en k) i
      generalize hL : (kl (fp9 D p q n m ek ef en k) i).length = L at hkl
      obtain ⟨σ6, e, f1, f2, f3⟩ := try9_x h (v := 1 + i) ⟨by omega, by omega⟩ hs hs9 (K := fun r5 σ6 => (if r5 = 0 then amlet (nI (1 + i) + (1 : Int32)) (fun v1 => (kk σ6 (nI k) (D 9 k) (bitS (fp9 D p q n m ek ef en k) 1 i) (nI L) v1)) else amlet (bitS (fp9 D p q n m ek ef en k) 1 i ||| ((1 : Int32) <<< (nI (1 + i) &&& 31))) (fun v7 => gd (decide (¬ (0 : Int32) < 0 ∧ ¬ (nI L * (24 : Int32)) < 0 ∧ ¬ (24 : Int32) < 0 ∧ ((0 : Int32)).toNatClampNeg + ((24 : Int32)).toNatClampNeg ≤ 24 ∧ ((nI L * (24 : Int32))).toNatClampNeg + ((24 : Int32)).toNatClampNeg ≤ 216)) (amlet (cp2 σ6 39 ((0 : Int32)).toNatClampNeg 44 ((nI L * (24 : Int32))).toNatClampNeg ((24 : Int32)).toNatClampNeg) (fun σ8 => amlet (nI L + (1 : Int32)) (fun v9 => amlet (nI (1 + i) + (1 : Int32)) (fun v1 => (kk σ8 (nI k) (D 9 k) v7 v9 v1))))))))
      rw [e]
      have k0 : (0 : Int32).toNatClampNeg = 0 := by decide
      have k24 : (24 : Int32).toNatClampNeg = 24 := by decide
      have e24 : nI L * (24 : Int32) = nI (L * 24) := by rw [n_lit 24, pk_mul]
      rw [e24, k0, k24, cl_nI (show L * 24 < 2147483648 by omega)]
      simp only [amlet_eq, nI_1]
      have ss := bitS_s (fp9 D p q n m ek ef en k) 1 i
      have sk := kl_s (fp9 D p q n m ek ef en k) i
      have nx : (∀ c, (c < 35 ∨ 41 < c) → c ≠ 9 → c ≠ 44 → σ6 c = σ c) ∧ (∀ j, j ≠ k → σ6 9 j = σ 9 j) := ⟨fun c g1 g2 g3 => by rw [f1 c g1 g2, hs c g1 g2 g3], f2⟩
      by_cases hb : b2 (fp9 D p q n m ek ef en k (1 + i)) = 0
      · rw [if_pos hb] at ss sk ⊢
        exact ih _ _ _ _ _ _ hlt ⟨rfl, rfl, ss.symm, by rw [sk, hL], rfl, nx.1, nx.2, fun j v hj t ht => by
          rw [sk] at hj
          rw [f1 44 (by omega) (by omega)]
          exact hlk j v hj t ht⟩
      · rw [if_neg hb] at ss sk ⊢
        rw [gd_true (decide_eq_true (show ¬ (0 : Int32) < 0 ∧ ¬ nI (L * 24) < 0 ∧ ¬ (24 : Int32) < 0 ∧ 0 + 24 ≤ 24 ∧ L * 24 + 24 ≤ 216 from ⟨by decide, nI_pos (by omega), by decide, by omega, by omega⟩))]
        refine ih _ _ _ _ _ _ hlt ⟨rfl, rfl, ss.symm, by rw [sk, List.length_append, hL]; rfl, rfl, fun c g1 g2 g3 => by rw [cp2_off g3]; exact nx.1 c g1 g2 g3, fun j hj => by rw [cp2_off (by omega)]; exact nx.2 j hj, fun j v hj t ht => ?_⟩
        rw [sk] at hj
        rw [cp2_at]
        rcases Nat.lt_trichotomy j L with q | q | q
        · rw [List.getElem?_append_left (by omega)] at hj
          rw [if_neg (by omega), f1 44 (by omega) (by omega)]
          exact hlk j v hj t ht
        · subst q
          rw [List.getElem?_append_right (by omega), hL, Nat.sub_self] at hj
          simp only [List.getElem?_cons_zero, Option.some.injEq] at hj
          rw [if_pos (by omega), show 0 + (j * 24 + t - j * 24) = t by omega, ← hj]
          exact f3 t ht
        · rw [List.getElem?_append_right (by omega), List.getElem?_eq_none (by rw [List.length_singleton]; omega)] at hj
          cases hj
    · have e : i = 9 := by omega
      rw [e, if_pos (show (9 : Int32) < nI (1 + 9) by decide), gd_in (show k < 8 by omega) (by omega), cl_nI (by omega), amlet_eq, hN]
      rw [e] at hlk
      exact ret_some.mpr ⟨rfl, back9_x h hs hs9, fun j v hj t ht => by rw [up2_off (by omega)]; exact hlk j v hj t ht⟩
  exact gen 9 rfl
theorem fars_m {D : Sg} {p q n0 n1 n m : Nat} {ek ef : Nat → Int32} {en : Nat → Nat} {τ : Sg} (h : MI D p q n0 n1 n m ek ef en τ) {k : Nat} (hk : k < p) : Ret (f_X10_farsBy τ (nI k)) (fun r τ' => r = bitS (fp9 D p q n m ek ef en k) 1 9 ∧ MI D p q n0 n1 n m ek ef en τ' ∧ MG D τ' p q ∧ ∀ v, 1 ≤ v → v < 1 + 9 → ∀ t, t < 24 → τ' 26 (24 * v + t) = u9 D p q n ek ef en k v t) := by
  have hp8 := h.1.sizes
  unfold f_X10_farsBy
  obtain ⟨u, τ1, e1, hM1, hG1, hE1, h19⟩ := asTold_m h
  rw [e1, bnd_some, gd_in (show k < 9 by omega) (by omega), cl_nI (by omega), amlet_eq, (hG1.2.2.1 k hk).2.2.2]
  have gen : ∀ N, N = 9 → Ret (f_X10_farsBy_l16 300 τ1 (nI k) (D 9 k) (0 : Int32) (1 : Int32)) (fun r τ' => r = bitS (fp9 D p q n m ek ef en k) 1 N ∧ MI D p q n0 n1 n m ek ef en τ' ∧ MG D τ' p q ∧ ∀ v, 1 ≤ v → v < 1 + N → ∀ t, t < 24 → τ' 26 (24 * v + t) = u9 D p q n ek ef en k v t) := fun N hN => by
    refine i_X10_farsBy_l16 9 (fun i σ2 x1 x2 x3 x4 => x1 = nI k ∧ x2 = D 9 k ∧ x3 = bitS (fp9 D p q n m ek ef en k) 1 i ∧ x4 = nI (1 + i) ∧ MI D p q n0 n1 n m ek ef en σ2 ∧ (∃ D', MG D' σ2 p q ∧ (∀ c, c ≠ 9 → D' c = D c) ∧ ∀ j, j ≠ k → D' 9 j = D 9 j) ∧ EM σ2 n ek ef en ∧ σ2 0 19 = 0 ∧ ∀ v, 1 ≤ v → v < 1 + i → ∀ t, t < 24 → σ2 26 (24 * v + t) = u9 D p q n ek ef en k v t) (fun σ2 x1 x2 x3 x4 r => Ret r (fun r τ' => r = bitS (fp9 D p q n m ek ef en k) 1 N ∧ MI D p q n0 n1 n m ek ef en τ' ∧ MG D τ' p q ∧ ∀ v, 1 ≤ v → v < 1 + N → ∀ t, t < 24 → τ' 26 (24 * v + t) = u9 D p q n ek ef en k v t)) ?_ 300 0 (by omega) (by omega) τ1 (nI k) (D 9 k) 0 1 ⟨rfl, rfl, rfl, rfl, hM1, ⟨D, hG1, fun _ _ => rfl, fun _ _ => rfl⟩, hE1, h19, fun v h1 h2 => by omega⟩
    intro i kk σ2 x1 x2 x3 x4 hi hI ih
    obtain ⟨rfl, rfl, rfl, rfl, hM, hG, hE, h19, hup⟩ := hI
    unfold f_X10_farsBy_b16 f_X10_farsBy_b47
    rw [n_lit 10]
    rcases Nat.lt_or_ge i 9 with hlt | hge
    · rw [at_go (show 1 + i < 10 by omega) (by omega), gd_in (show k < 9 by omega) (by omega), cl_nI (show k < 2147483648 by omega), amlet_eq]
      obtain ⟨r, τ2, e, er, b1, b3, b4, b5, b6, b7⟩ := try9_m hM (v := 1 + i) ⟨by omega, by omega⟩ hG hE h19
      rw [e, bnd_some, er]
      have ss := bitS_s (fp9 D p q n m ek ef en k) 1 i
      have inner : Ret (f_X10_farsBy_l52 kk 300 τ2 (nI k) (D 9 k) (bitS (fp9 D p q n m ek ef en k) 1 (i + 1)) (nI (1 + i)) (0 : Int32)) (fun r τ' => r = bitS (fp9 D p q n m ek ef en k) 1 N ∧ MI D p q n0 n1 n m ek ef en τ' ∧ MG D τ' p q ∧ ∀ v, 1 ≤ v → v < 1 + N → ∀ t, t < 24 → τ' 26 (24 * v + t) = u9 D p q n ek ef en k v t) := by
        refine i_X10_farsBy_l52 kk 24 (fun t σ3 x1 x2 x3 x4 x5 => x1 = nI k ∧ x2 = D 9 k ∧ x3 = bitS (fp9 D p q n m ek ef en k) 1 (i + 1) ∧ x4 = nI (1 + i) ∧ x5 = nI t ∧ (∀ c, c ≠ 26 → σ3 c = τ2 c) ∧ (∀ t', t' < t → σ3 26 (24 * (1 + i) + t') = u9 D p q n ek ef en k (1 + i) t') ∧ ∀ x, x < 24 * (1 + i) → σ3 26 x = τ2 26 x) (fun σ3 x1 x2 x3 x4 x5 r => Ret r _) ?_ 300 0 (by omega) (by omega) τ2 _ _ _ _ 0 ⟨rfl, rfl, rfl, rfl, rfl, fun _ _ => rfl, fun t' h => absurd h (Nat.not_lt_zero _), fun _ _ => rfl⟩
        intro t k2 σ3 x1 x2 x3 x4 x5 ht hI2 ih2
        obtain ⟨rfl, rfl, rfl, rfl, rfl, c1, c2, c3⟩ := hI2
        unfold f_X10_farsBy_b52
        rw [n_lit 24]
        rcases Nat.lt_or_ge t 24 with hlt2 | hge2
        · rw [at_go hlt2 (by omega), pk_mul, nI_add, gd_in hlt2 (by omega), gd_in (show 24 * (1 + i) + t < 240 by omega) (by omega), cl_nI (show t < 2147483648 by omega), cl_nI (show 24 * (1 + i) + t < 2147483648 by omega), amlet_eq, amlet_eq, nI_1, c1 20 (by omega), b7 t hlt2]
          refine ih2 _ _ _ _ _ _ hlt2 ⟨rfl, rfl, rfl, rfl, rfl, fun c hc => by rw [up2_off hc]; exact c1 c hc, fun t' ht' => ?_, fun x hx => ?_⟩
          · rw [up2_at]
            by_cases e : t' = t
            · subst e; rw [upd_at]
            · rw [upd_off (by omega)]; exact c2 t' (by omega)
          · rw [up2_at, upd_off (by omega)]; exact c3 x hx
        · have e : t = 24 := by omega
          subst e
          rw [at_end (Nat.le_refl _) (by omega), amlet_eq, nI_1, show 1 + i + 1 = 1 + (i + 1) by omega]
          obtain ⟨D', hG', hD, hD9⟩ := b3
          refine ih _ _ _ _ _ hlt ⟨rfl, rfl, rfl, rfl, b1.fr (fun c hc => c1 c (by omega)) (fun k hk => by rw [c1 0 (by omega)]), ⟨D', hG'.move (fun k hk => by rw [c1 0 (by omega)]) (fun c g1 g2 => c1 c (by omega)), hD, hD9⟩, b4.move (by rw [c1 0 (by omega)]) (fun c g1 g2 => c1 c (by omega)), by rw [c1 0 (by omega)]; exact b5, fun v h1 h2 t ht => ?_⟩
          by_cases e : v = 1 + i
          · subst e; exact c2 t ht
          · rw [c3 _ (by omega), b6]
            exact hup v h1 (by omega) t ht
      simp only [amlet_eq, or_0]
      by_cases hb : b2 (fp9 D p q n m ek ef en k (1 + i)) = 0
      · rw [if_pos hb] at ss ⊢
        rw [ss] at inner
        exact inner
      · rw [if_neg hb] at ss ⊢
        rw [ss] at inner
        exact inner
    · have e : i = 9 := by omega
      rw [e, at_end (show 10 ≤ 1 + 9 by omega) (by omega), gd_in (show k < 9 by omega) (by omega), cl_nI (by omega), amlet_eq, hN]
      rw [e] at hup
      obtain ⟨D', hG, hD, hD9⟩ := hG
      have hGc := hG.c9 hD hD9 (D 9 k)
      rw [up2_self] at hGc
      exact ret_some.mpr ⟨rfl, hM.fr (fun c hc => up2_off (by omega)) (fun k hk => by rw [up2_off (by omega)]), hGc, fun v h1 h2 t ht => by rw [up2_off (by omega)]; exact hup v h1 h2 t ht⟩
  exact gen 9 rfl
noncomputable def vWas (D : Sg) (p q n m : Nat) (ek ef : Nat → Int32) (en : Nat → Nat) (k : Nat) (a : Int32) : Int32 := if a = 0 then bitS (fp6 D p q n m ek ef en k) 0 3 else bitS (fp9 D p q n m ek ef en k) 1 9
theorem was_x {D : Sg} {p q n0 n1 n m : Nat} {ek ef : Nat → Int32} {en : Nat → Nat} {σ : Sg} (h : XI D p q n0 n1 n m ek ef en σ) {k : Nat} (hk : k < p) {a : Int32} (ha : 0 ≤ a ∧ a < 2) : XV D p q n0 n1 n m ek ef en (f_X9_was σ (nI k) a) (vWas D p q n m ek ef en k a) := by
  have hp8 := h.1.sizes
  unfold f_X9_was vWas
  simp only [isBelow_eq, bnd_some, one_if]
  rw [h.h5, if_pos (of_below hk (by omega)), if_pos ha]
  by_cases h0 : a = 0
  · rw [if_pos h0, if_pos h0]
    obtain ⟨r, σ1, e, er, hX⟩ := sorts_x h hk
    rw [e, bnd_some, er]
    exact xv_some hX
  · rw [if_neg h0, if_neg h0]
    obtain ⟨r, σ1, e, er, hX, -⟩ := fars_x h hk
    rw [e, bnd_some, er]
    exact xv_some hX
theorem ag_was {D : Sg} {p q n0 n1 n m : Nat} {ek ef : Nat → Int32} {en : Nat → Nat} {σ τ : Sg} (h : XI D p q n0 n1 n m ek ef en σ) (g : MI D p q n0 n1 n m ek ef en τ) (a1 a2 : Int32) : Agr (f_X9_was σ a1 a2) (f_X10_was τ a1 a2) := by
  have hp8 := h.1.sizes
  have ref : (¬ ((0 ≤ a1 ∧ a1 < nI p) ∧ (0 ≤ a2 ∧ a2 < 2))) → XV D p q n0 n1 n m ek ef en (f_X9_was σ a1 a2) (-2) := fun hno => by
    unfold f_X9_was
    simp only [isBelow_eq, bnd_some, one_if, h.h5]
    by_cases h1 : 0 ≤ a1 ∧ a1 < nI p
    · rw [if_pos h1, if_neg (fun q => hno ⟨h1, q⟩)]; exact xv_some h
    · rw [if_neg h1]; exact xv_some h
  unfold f_X10_was
  obtain ⟨r, τ1, e, g1, gG, rfl⟩ := isOne_ok g a1
  rw [e, bnd_some, one_if, isTwo_eq, bnd_some, one_if]
  by_cases h1 : 0 ≤ a1 ∧ a1 < nI p
  rotate_left
  · rw [if_neg h1]; exact agr_of (ref fun q => h1 q.1) (mu_some g1)
  rw [if_pos h1]
  by_cases h2 : 0 ≤ a2 ∧ a2 < 2
  rotate_left
  · rw [if_neg h2]; exact agr_of (ref fun q => h2 q.2) (mu_some g1)
  rw [if_pos h2]
  obtain ⟨k, hk, rfl⟩ := below_of (N := p) (by omega) h1
  refine agr_of (was_x h hk h2) ?_
  unfold vWas
  by_cases h0 : a2 = 0
  · rw [if_pos h0, if_pos h0]
    exact mu_id (sorts_m g1 hk).u
  · rw [if_neg h0, if_neg h0]
    obtain ⟨r, τ2, e, er, hM, -⟩ := fars_m g1 hk
    rw [e, bnd_some, er]
    exact mu_some hM
