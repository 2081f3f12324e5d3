/-! what was seen: never, was -/
def fitS (D : Sg) (p m : Nat) (up : Nat → Int32) : Prop := ∀ k, k < m → ¬ nI p ≤ D 26 k ∧ b2 (bt (up (D 25 k).toNatClampNeg) (D 26 k)) = if D 27 k = 1 then 1 else 0
theorem fit_ok {D σ : Sg} {p m c0 : Nat} {up : Nat → Int32} (hS : SE D m) (hc : ∀ c, 24 ≤ c → c ≤ 27 → σ c = D c) (hu : ∀ t, t < 24 → σ (c0 + 4) t = up t) : f_X7_fit c0 σ (nI p) = some (b2 (fitS D p m up), σ) := by
  obtain ⟨hm, h24, hk⟩ := hS
  unfold f_X7_fit
  refine i_X7_fit_l2 c0 m (fun i σ2 x2 x3 => σ2 = σ ∧ x2 = nI p ∧ x3 = nI i ∧ ∀ k, k < i → ¬ nI p ≤ D 26 k ∧ b2 (bt (up (D 25 k).toNatClampNeg) (D 26 k)) = if D 27 k = 1 then 1 else 0) (fun σ2 x2 x3 r => r = some (b2 (fitS D p m up), σ)) ?_ 300 0 (by omega) (by omega) σ (nI p) 0 ⟨rfl, rfl, rfl, fun k hk => absurd hk (Nat.not_lt_zero _)⟩
  intro i k σ2 x2 x3 hi hI ih
  obtain ⟨rfl, rfl, rfl, hyes⟩ := hI
  unfold f_X7_fit_b2 f_X7_fit_b58 f_X7_fit_b51 f_X7_fit_b58 f_X7_fit_b59
  rw [hc 24 (by omega) (by omega), h24]
  rcases Nat.lt_or_ge i m with hlt | hge
  · obtain ⟨⟨t, ht, et⟩, ⟨o, ho, eo⟩, h27⟩ := hk i hlt
    rw [at_go hlt (by omega)]
    simp only [gd_in (show i < 8 by omega) (show 8 < 2 ^ 31 by omega), cl_nI (show i < 2147483648 by omega), hc 25 (by omega) (by omega), hc 26 (by omega) (by omega), hc 27 (by omega) (by omega), amlet_eq, nI_1]
    have no : ¬ (¬ nI p ≤ D 26 i ∧ b2 (bt (up (D 25 i).toNatClampNeg) (D 26 i)) = if D 27 i = 1 then 1 else 0) → b2 (fitS D p m up) = 0 := fun hn => b2_neg (fun q => hn (q i hlt))
    have go : (¬ nI p ≤ D 26 i ∧ b2 (bt (up (D 25 i).toNatClampNeg) (D 26 i)) = if D 27 i = 1 then 1 else 0) → k σ2 (nI p) (nI (i + 1)) = some (b2 (fitS D p m up), σ2) := fun hy => ih _ _ _ hlt ⟨rfl, rfl, rfl, fun j hj => by
      by_cases e : j = i
      · subst e; exact hy
      · exact hyes j (by omega)⟩
    by_cases h1 : nI p ≤ D 26 i
    · rw [if_pos h1, if_pos trivial, no fun q => q.1 h1]
    · rw [if_neg h1]
      have hup : f_X0_isUp c0 σ2 (D 25 i) (D 26 i) = some (b2 (bt (up (D 25 i).toNatClampNeg) (D 26 i)), σ2) := by
        rw [et, cl_nI (by omega)]
        exact isUp_b ht (hu t ht)
      rw [hup, bnd_some]
      simp only [hc 27 (by omega) (by omega)]
      by_cases h2 : D 27 i = 1
      · rw [if_pos h2]
        rw [if_pos h2] at no go
        by_cases h3 : b2 (bt (up (D 25 i).toNatClampNeg) (D 26 i)) = 1
        · rw [if_pos h3, if_neg (by decide)]
          exact go ⟨h1, h3⟩
        · rw [if_neg h3, if_pos trivial, no fun q => h3 q.2]
      · rw [if_neg h2]
        rw [if_neg h2] at no go
        by_cases h3 : b2 (bt (up (D 25 i).toNatClampNeg) (D 26 i)) = 0
        · rw [if_pos h3, if_neg (by decide)]
          exact go ⟨h1, h3⟩
        · rw [if_neg h3, if_pos trivial, no fun q => h3 q.2]
  · have e : i = m := by omega
    subst e
    rw [at_end (Nat.le_refl _) (by omega), b2_pos (show fitS D p i up from hyes)]
theorem seenL_ok {D : Sg} {p q n0 n1 n m : Nat} {ek ef : Nat → Int32} {en : Nat → Nat} {τ : Sg} {up : Nat → Int32} (h : MI D p q n0 n1 n m ek ef en τ) (h2 : τ 0 2 = nI p) (hu : ∀ t, t < 24 → τ 20 t = up t) : f_X10_isSeen_l8 300 τ (1 : Int32) (0 : Int32) = some (b2 (fitS D p m up), τ) := by
  obtain ⟨hm, h24, hk⟩ := h.2.1
  have h31 := h.2.2.2.2.2.2.2.1
  have hl := h.2.2.2.2.2.2.2.2.1
  refine i_X10_isSeen_l8 m (fun i σ2 x1 x2 => σ2 = τ ∧ x2 = nI i ∧ ((x1 = 1 ∧ ∀ k, k < i → ¬ nI p ≤ D 26 k ∧ b2 (bt (up (D 25 k).toNatClampNeg) (D 26 k)) = if D 27 k = 1 then 1 else 0) ∨ (x1 = 0 ∧ ¬ fitS D p m up))) (fun σ2 x1 x2 r => r = some (b2 (fitS D p m up), τ)) ?_ 300 0 (by omega) (by omega) τ 1 0 ⟨rfl, rfl, Or.inl ⟨rfl, fun k hk => absurd hk (Nat.not_lt_zero _)⟩⟩
  intro i k σ2 x1 x2 hi hI ih
  obtain ⟨rfl, rfl, hx⟩ := hI
  unfold f_X10_isSeen_b8 f_X10_isSeen_b75 f_X10_isSeen_b68 f_X10_isSeen_b75 f_X10_isSeen_b76
  rw [h31]
  rcases Nat.lt_or_ge i m with hlt | hge
  · rw [at_go hlt (by omega)]
    rcases hx with ⟨rfl, hyes⟩ | ⟨rfl, hno⟩
    rotate_left
    · rw [if_pos rfl, gd_true (by decide), b2_neg hno]
    obtain ⟨⟨t, ht, et⟩, ⟨o, ho, eo⟩, h27⟩ := hk i hlt
    obtain ⟨l1, l2, l3⟩ := hl i hlt
    rw [if_neg (by decide)]
    simp only [gd_in (show i < 8 by omega) (show 8 < 2 ^ 31 by omega), cl_nI (show i < 2147483648 by omega), l1, l2, l3, amlet_eq, nI_1, h2]
    have no : ¬ (¬ nI p ≤ D 26 i ∧ b2 (bt (up (D 25 i).toNatClampNeg) (D 26 i)) = if D 27 i = 1 then 1 else 0) → k σ2 (0 : Int32) (nI (i + 1)) = some (b2 (fitS D p m up), σ2) := fun hn => ih _ _ _ hlt ⟨rfl, rfl, Or.inr ⟨rfl, fun q => hn (q i hlt)⟩⟩
    have go : (¬ nI p ≤ D 26 i ∧ b2 (bt (up (D 25 i).toNatClampNeg) (D 26 i)) = if D 27 i = 1 then 1 else 0) → k σ2 (1 : Int32) (nI (i + 1)) = some (b2 (fitS D p m up), σ2) := fun hy => ih _ _ _ hlt ⟨rfl, rfl, Or.inl ⟨rfl, fun j hj => by
      by_cases e : j = i
      · subst e; exact hy
      · exact hyes j (by omega)⟩⟩
    by_cases h1 : nI p ≤ D 26 i
    · rw [if_pos h1]
      exact no fun q => q.1 h1
    · rw [if_neg h1]
      have e20 : gd (inB (D 25 i) 24) (bnd (f_X10_isIn σ2 (σ2 20 (D 25 i).toNatClampNeg) (D 26 i)) (fun r1 σ2 => gd (inB (nI i) 8) (if σ2 25 i = 1 then if r1 = 1 then k σ2 1 (nI (i + 1)) else k σ2 0 (nI (i + 1)) else if r1 = 0 then k σ2 1 (nI (i + 1)) else k σ2 0 (nI (i + 1))))) = (if D 27 i = 1 then if b2 (bt (up (D 25 i).toNatClampNeg) (D 26 i)) = 1 then k σ2 1 (nI (i + 1)) else k σ2 0 (nI (i + 1)) else if b2 (bt (up (D 25 i).toNatClampNeg) (D 26 i)) = 0 then k σ2 1 (nI (i + 1)) else k σ2 0 (nI (i + 1))) := by
        rw [et, gd_in ht (by omega), cl_nI (by omega), hu t ht, isIn_b, bnd_some, gd_in (show i < 8 by omega) (by omega), l3]
      simp only [gd_in (show i < 8 by omega) (show 8 < 2 ^ 31 by omega)] at e20
      rw [e20]
      by_cases h2 : D 27 i = 1
      · rw [if_pos h2]
        rw [if_pos h2] at no go
        by_cases h3 : b2 (bt (up (D 25 i).toNatClampNeg) (D 26 i)) = 1
        · rw [if_pos h3]
          exact go ⟨h1, h3⟩
        · rw [if_neg h3]
          exact no fun q => h3 q.2
      · rw [if_neg h2]
        rw [if_neg h2] at no go
        by_cases h3 : b2 (bt (up (D 25 i).toNatClampNeg) (D 26 i)) = 0
        · rw [if_pos h3]
          exact go ⟨h1, h3⟩
        · rw [if_neg h3]
          exact no fun q => h3 q.2
  · have e : i = m := by omega
    subst e
    rw [at_end (Nat.le_refl _) (by omega)]
    rcases hx with ⟨rfl, hyes⟩ | ⟨rfl, hno⟩
    · rw [gd_true (by decide), b2_pos (show fitS D p i up from hyes)]
    · rw [gd_true (by decide), b2_neg hno]
/-- the reference runs, and looks -/
theorem isSeen_m {D : Sg} {p q n0 n1 n m : Nat} {ek ef : Nat → Int32} {en : Nat → Nat} {τ : Sg} (h : MI D p q n0 n1 n m ek ef en τ) {D' : Sg} (hD : DOK D' p q) (hG : MG D' τ p q) (hE : EM τ n ek ef en) : Ret (f_X10_isSeen τ) (fun r τ' => r = b2 (fitS D p m (fun t => (RN D' p q n ek ef en (selM (τ 0 19)) (t + 1)).1)) ∧ MI D p q n0 n1 n m ek ef en τ' ∧ MG D' τ' p q ∧ EM τ' n ek ef en ∧ τ' 0 19 = τ 0 19 ∧ τ' 26 = τ 26 ∧ ∀ t, t < 24 → τ' 20 t = (RN D' p q n ek ef en (selM (τ 0 19)) (t + 1)).1) := by
  unfold f_X10_isSeen
  obtain ⟨u, τ2, e, b1, b2, b3, b4, b5, b6, b7, b8⟩ := runs_m h hD hG hE
  rw [e, bnd_some, seenL_ok (up := fun t => (RN D' p q n ek ef en (selM (τ 0 19)) (t + 1)).1) b1 b2.1 (fun t ht => (b8 t ht).1)]
  exact ret_some.mpr ⟨rfl, b1, b2, b3, b4, b5 26 (by omega) (by omega), fun t ht => (b8 t ht).1⟩
/-- bits gathered -/
noncomputable def bitS (P : Nat → Prop) (a : Nat) : Nat → Int32
  | 0 => 0
  | k + 1 => if b2 (P (a + k)) = 0 then bitS P a k else bitS P a k ||| ((1 : Int32) <<< (nI (a + k) &&& 31))
theorem bitS_s (P : Nat → Prop) (a k : Nat) : bitS P a (k + 1) = if b2 (P (a + k)) = 0 then bitS P a k else bitS P a k ||| ((1 : Int32) <<< (nI (a + k) &&& 31)) := rfl
/-- never -/
def nvP (D : Sg) (p q n m : Nat) (ek ef : Nat → Int32) (en : Nat → Nat) (e : Nat) : Prop := fitS D p m (fun t => (RN D p q n ek ef en (selM (nI (2 ^ e))) (t + 1)).1)
theorem never_x {D : Sg} {p q n0 n1 n m : Nat} {ek ef : Nat → Int32} {en : Nat → Nat} {σ : Sg} (h : XI D p q n0 n1 n m ek ef en σ) : XV D p q n0 n1 n m ek ef en (f_X9_never σ) (bitS (nvP D p q n m ek ef en) 0 n) := by
  have hn8 := h.2.2.2.1
  unfold f_X9_never
  refine i_X9_never_l4 n (fun i σ2 x1 x2 => x1 = bitS (nvP D p q n m ek ef en) 0 i ∧ x2 = nI i ∧ XI D p q n0 n1 n m ek ef en σ2) (fun σ2 x1 x2 r => XV D p q n0 n1 n m ek ef en r _) ?_ 300 0 (by omega) (by omega) σ 0 0 ⟨rfl, rfl, h⟩
  intro i k σ2 x1 x2 hi hI ih
  obtain ⟨rfl, rfl, hX⟩ := hI
  unfold f_X9_never_b4 f_X9_never_b66
  rw [hX.eok.2.1]
  rcases Nat.lt_or_ge i n with hlt | hge
  · rw [at_go hlt (by omega), sh1 i (by omega)]
    obtain ⟨u, σ3, e1, b1, b2'⟩ := run_hc (c0 := 35) hX.dok hX.sd hX.eok (by omega) (by omega) (nI (2 ^ i) ^^^ (-1))
    have hH := b2'.sel (sel' := selM (nI (2 ^ i))) fun e he => selX _ (p1 i (by omega)) e (by omega)
    have hX3 : XI D p q n0 n1 n m ek ef en σ3 := hX.fr fun c hc => b1 c (by omega)
    rw [e1, bnd_some, hX3.h5, fit_ok (D := D) (m := m) (up := fun t => (RN D p q n ek ef en (selM (nI (2 ^ i))) (t + 1)).1) h.2.1 (fun c g1 g2 => hX3.core (by omega)) (fun t ht => hH.2 t ht), bnd_some]
    simp only [amlet_eq, nI_1]
    have ss := bitS_s (nvP D p q n m ek ef en) 0 i
    rw [Nat.zero_add, sh1 i (by omega)] at ss
    unfold nvP at ss
    by_cases hb : b2 (fitS D p m (fun t => (RN D p q n ek ef en (selM (nI (2 ^ i))) (t + 1)).1)) = 0
    · rw [if_pos hb] at ss ⊢
      exact ih _ _ _ hlt ⟨ss.symm, rfl, hX3⟩
    · rw [if_neg hb] at ss ⊢
      exact ih _ _ _ hlt ⟨ss.symm, rfl, hX3⟩
  · have e : i = n := by omega
    subst e
    rw [at_end (Nat.le_refl _) (by omega)]
    exact xv_some hX
theorem never_m {D : Sg} {p q n0 n1 n m : Nat} {ek ef : Nat → Int32} {en : Nat → Nat} {τ : Sg} (h : MI D p q n0 n1 n m ek ef en τ) : MV D p q n0 n1 n m ek ef en (f_X10_neverNow τ) (bitS (nvP D p q n m ek ef en) 0 n) := by
  have hn8 := h.2.2.2.1
  unfold f_X10_neverNow
  obtain ⟨u, τ1, e1, hM1, hG1, hE1, -⟩ := asTold_m h
  rw [e1, bnd_some]
  refine i_X10_neverNow_l8 n (fun i σ2 x1 x2 => x1 = bitS (nvP D p q n m ek ef en) 0 i ∧ x2 = nI i ∧ MI D p q n0 n1 n m ek ef en σ2 ∧ MG D σ2 p q ∧ EM σ2 n ek ef en) (fun σ2 x1 x2 r => MV D p q n0 n1 n m ek ef en r _) ?_ 300 0 (by omega) (by omega) τ1 0 0 ⟨rfl, rfl, hM1, hG1, hE1⟩
  intro i k σ2 x1 x2 hi hI ih
  obtain ⟨rfl, rfl, hM, hG, hE⟩ := hI
  unfold f_X10_neverNow_b8 f_X10_neverNow_b38
  rw [hM.2.2.2.2.2.1]
  rcases Nat.lt_or_ge i n with hlt | hge
  · rw [at_go hlt (by omega), sh1 i (by omega), amlet_eq]
    have w : ∀ c, c ≠ 0 → up2 σ2 0 19 (nI (2 ^ i)) c = σ2 c := fun c hc => up2_off hc
    have w0 : ∀ k, k ≠ 19 → up2 σ2 0 19 (nI (2 ^ i)) 0 k = σ2 0 k := fun k hk => by rw [up2_at, upd_off hk]
    obtain ⟨r, τ2, e2, er, b1, b3, b4, b5, b6, b7⟩ := isSeen_m (hM.fr (fun c hc => w c (by omega)) (fun k hk => w0 k (by omega))) hM.1.dok (hG.move (fun k hk => w0 k (by omega)) (fun c g1 g2 => w c (by omega))) (hE.move (w0 15 (by omega)) (fun c g1 g2 => w c (by omega)))
    rw [up2_at, upd_at] at er
    rw [e2, bnd_some, er]
    simp only [amlet_eq, nI_1, or_0]
    have ss := bitS_s (nvP D p q n m ek ef en) 0 i
    rw [Nat.zero_add, sh1 i (by omega)] at ss
    unfold nvP at ss
    by_cases hb : b2 (fitS D p m (fun t => (RN D p q n ek ef en (selM (nI (2 ^ i))) (t + 1)).1)) = 0
    · rw [if_pos hb] at ss ⊢
      exact ih _ _ _ hlt ⟨ss.symm, rfl, b1, b3, b4⟩
    · rw [if_neg hb] at ss ⊢
      exact ih _ _ _ hlt ⟨ss.symm, rfl, b1, b3, b4⟩
  · have e : i = n := by omega
    subst e
    rw [at_end (Nat.le_refl _) (by omega)]
    exact mv_some hM hG
theorem ag_never {D : Sg} {p q n0 n1 n m : Nat} {ek ef : Nat → Int32} {en : Nat → Nat} {σ τ : Sg} (h : XI D p q n0 n1 n m ek ef en σ) (g : MI D p q n0 n1 n m ek ef en τ) : Agr (f_X9_never σ) (f_X10_never τ) := agr_of (never_x h) (by unfold f_X10_never; exact mu_id (never_m g).u)
