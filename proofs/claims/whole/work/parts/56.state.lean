/-! the class's cells and the reference's between calls -/
def selT : Nat → Bool := fun _ => true
def sumN (f : Nat → Nat) : Nat → Nat
  | 0 => 0
  | k + 1 => sumN f k + f k
def popc (s : Nat) : Nat := sumN (fun i => if s.testBit i = true then 1 else 0) 8
def selB (s : Nat) : Nat → Bool := fun e => s.testBit e
def setsC (D : Sg) (p q n : Nat) (ek ef : Nat → Int32) (en : Nat → Nat) (k num : Nat) : Nat := sumN (fun s => if popc s = num ∧ ¬ (RN D p q n ek ef en (selB s) 24).2.2.1 k = -1 then 1 else 0) (2 ^ n)
def SE (D : Sg) (m : Nat) : Prop := m ≤ 8 ∧ D 24 3 = nI m ∧ ∀ k, k < m → (∃ t, t < 24 ∧ D 25 k = nI t) ∧ (∃ o, o < 8 ∧ D 26 k = nI o) ∧ (D 27 k = 0 ∨ D 27 k = 1)
def SH (D : Sg) : Prop := ∀ s, s < 4 → (D (46 + 2 * s) 1 = -1 ∨ ∃ f, f < 3 ∧ D (46 + 2 * s) 1 = nI f) ∧ ∃ z, z ≤ 60 ∧ D (46 + 2 * s) 2 = nI z
def OC (D : Sg) (p q n : Nat) (ek ef : Nat → Int32) (en : Nat → Nat) (σ : Sg) : Prop := ∀ k num, k < q → num ≤ n → σ 43 (9 * k + num) = nI (setsC D p q n ek ef en k num)
def XI (D : Sg) (p q n0 n1 n m : Nat) (ek ef : Nat → Int32) (en : Nat → Nat) (σ : Sg) : Prop :=
  TX D p q n0 n1 ∧ SE D m ∧ SH D ∧ n ≤ 8 ∧ (∀ c, ((1 ≤ c ∧ c ≤ 13) ∨ (24 ≤ c ∧ c ≤ 27) ∨ 45 ≤ c) → σ c = D c) ∧ σ 0 14 = D 0 14 ∧ EOK σ 14 n ek ef en ∧ (σ 0 12 = 0 → HC D p q n ek ef en selT σ 28) ∧ (σ 0 13 = 0 → OC D p q n ek ef en σ)
def MI (D : Sg) (p q n0 n1 n m : Nat) (ek ef : Nat → Int32) (en : Nat → Nat) (τ : Sg) : Prop :=
  TX D p q n0 n1 ∧ SE D m ∧ SH D ∧ n ≤ 8 ∧ TM D n0 n1 τ ∧ τ 0 11 = nI n ∧ (∀ e, e < n → τ 10 e = ek e ∧ (ek e = 0 ∨ ek e = 1) ∧ τ 11 e = nI (en e) ∧ en e < 24 ∧ τ 12 e = ef e) ∧ τ 0 31 = nI m ∧ (∀ k, k < m → τ 23 k = D 25 k ∧ τ 24 k = D 26 k ∧ τ 25 k = D 27 k) ∧ τ 0 41 = D 0 14 ∧
  ∀ s, s < 4 → (D (46 + 2 * s) 1 = -1 ∧ τ 27 s = 0) ∨ (¬ D (46 + 2 * s) 1 = -1 ∧ τ 27 s = 1 ∧ τ 28 s = D (46 + 2 * s) 1 ∧ τ 29 s = D (46 + 2 * s) 2 ∧ ∀ i, i < 60 → τ 30 (60 * s + i) = D (47 + 2 * s) i)
theorem XI.sd {D : Sg} {p q n0 n1 n m : Nat} {ek ef : Nat → Int32} {en : Nat → Nat} {σ : Sg} (h : XI D p q n0 n1 n m ek ef en σ) : SD D σ := fun c h1 h2 => h.2.2.2.2.1 c (Or.inl ⟨by omega, h2⟩)
theorem XI.dok {D : Sg} {p q n0 n1 n m : Nat} {ek ef : Nat → Int32} {en : Nat → Nat} {σ : Sg} (h : XI D p q n0 n1 n m ek ef en σ) : DOK D p q := h.1.dok
theorem XI.eok {D : Sg} {p q n0 n1 n m : Nat} {ek ef : Nat → Int32} {en : Nat → Nat} {σ : Sg} (h : XI D p q n0 n1 n m ek ef en σ) : EOK σ 14 n ek ef en := h.2.2.2.2.2.2.1
theorem EOK.move {σ σ' : Sg} {c3 n : Nat} {ek ef : Nat → Int32} {en : Nat → Nat} (h : EOK σ c3 n ek ef en) (e : ∀ c, c3 ≤ c → c ≤ c3 + 4 → σ' c = σ c) : EOK σ' c3 n ek ef en := by
  obtain ⟨h1, h2, h3, h4⟩ := h
  unfold EOK
  rw [e c3 (by omega) (by omega), e (c3 + 1) (by omega) (by omega), e (c3 + 2) (by omega) (by omega), e (c3 + 3) (by omega) (by omega), e (c3 + 4) (by omega) (by omega)]
  exact ⟨h1, h2, h3, h4⟩
theorem XI.fr {D : Sg} {p q n0 n1 n m : Nat} {ek ef : Nat → Int32} {en : Nat → Nat} {σ σ' : Sg} (h : XI D p q n0 n1 n m ek ef en σ) (e : ∀ c, (c < 19 ∨ (23 < c ∧ c < 35) ∨ (41 < c ∧ c ≠ 44)) → σ' c = σ c) : XI D p q n0 n1 n m ek ef en σ' := by
  obtain ⟨h1, h2, h3, h4, h5, h6, h7, h8, h9⟩ := h
  refine ⟨h1, h2, h3, h4, fun c hc => by rw [e c (by omega)]; exact h5 c hc, by rw [e 0 (by omega)]; exact h6, h7.move (fun c g1 g2 => e c (by omega)), fun g => ?_, fun g => ?_⟩
  · rw [e 0 (by omega)] at g
    exact (h8 g).move (fun c g1 g2 => e c (by omega))
  · rw [e 0 (by omega)] at g
    intro k num g1 g2
    rw [e 43 (by omega)]
    exact h9 g k num g1 g2
theorem selI_T : ∀ e, e < 9 → selI (-1) e = selT e := by decide +kernel
theorem selM_T : ∀ e, e < 9 → selM 0 e = selT e := by decide +kernel
theorem asTold_x {D : Sg} {p q n0 n1 n m : Nat} {ek ef : Nat → Int32} {en : Nat → Nat} {σ : Sg} (h : XI D p q n0 n1 n m ek ef en σ) : Ret (f_X9_asTold σ) (fun r σ' => r = 28 ∧ XI D p q n0 n1 n m ek ef en σ' ∧ HC D p q n ek ef en selT σ' 28) := by
  unfold f_X9_asTold f_X9_asTold_b32
  by_cases h0 : σ 0 12 = 0
  · rw [if_pos h0]
    exact ret_some.mpr ⟨rfl, h, h.2.2.2.2.2.2.2.1 h0⟩
  · rw [if_neg h0]
    refine ret_bnd (run_hc h.dok h.sd h.eok (Nat.le_refl 28) (by omega) (-1)) (fun _ σ' b => ?_)
    obtain ⟨b1, b2⟩ := b
    rw [amlet_eq]
    obtain ⟨h1, h2, h3, h4, h5, h6, h7, h8, h9⟩ := h
    have hH : HC D p q n ek ef en selT (up2 σ' 0 12 (0 : Int32)) 28 := (b2.sel (fun e he => selI_T e (by omega))).move (fun c g1 g2 => up2_off (by omega))
    have z : ∀ c, c ≠ 0 → (c < 28 ∨ 34 < c) → up2 σ' 0 12 (0 : Int32) c = σ c := fun c g1 g2 => by rw [up2_off g1, b1 c g2]
    refine ret_some.mpr ⟨rfl, ⟨h1, h2, h3, h4, fun c hc => by rw [z c (by omega) (by omega)]; exact h5 c hc, ?_, h7.move (fun c g1 g2 => z c (by omega) (by omega)), fun _ => hH, fun g k num g1 g2 => ?_⟩, hH⟩
    · rw [up2_at, upd_off (by omega), b1 0 (by omega)]; exact h6
    · rw [up2_at, upd_off (by omega), b1 0 (by omega)] at g
      rw [z 43 (by omega) (by omega)]
      exact h9 g k num g1 g2
theorem MI.fr {D : Sg} {p q n0 n1 n m : Nat} {ek ef : Nat → Int32} {en : Nat → Nat} {τ τ' : Sg} (h : MI D p q n0 n1 n m ek ef en τ) (e : ∀ c, (c = 1 ∨ c = 2 ∨ (10 ≤ c ∧ c ≤ 12) ∨ (23 ≤ c ∧ c ≤ 25) ∨ (27 ≤ c ∧ c ≤ 30)) → τ' c = τ c) (e0 : ∀ k, (k = 11 ∨ k = 31 ∨ k = 41) → τ' 0 k = τ 0 k) : MI D p q n0 n1 n m ek ef en τ' := by
  obtain ⟨h1, h2, h3, h4, ⟨t1, t2, t3, t4⟩, h6, h7, h8, h9, h10, h11⟩ := h
  refine ⟨h1, h2, h3, h4, ⟨?_, ?_, fun k hk => ?_, fun k hk => ?_⟩, ?_, fun k hk => ?_, ?_, fun k hk => ?_, ?_, fun s hs => ?_⟩
  · rw [e 1 (by omega)]; exact t1
  · rw [e 1 (by omega)]; exact t2
  · rw [e 2 (by omega)]; exact t3 k hk
  · rw [e 2 (by omega)]; exact t4 k hk
  · rw [e0 11 (by omega)]; exact h6
  · rw [e 10 (by omega), e 11 (by omega), e 12 (by omega)]; exact h7 k hk
  · rw [e0 31 (by omega)]; exact h8
  · rw [e 23 (by omega), e 24 (by omega), e 25 (by omega)]; exact h9 k hk
  · rw [e0 41 (by omega)]; exact h10
  · rw [e 27 (by omega), e 28 (by omega), e 29 (by omega), e 30 (by omega)]; exact h11 s hs
theorem MI.reads {D : Sg} {p q n0 n1 n m : Nat} {ek ef : Nat → Int32} {en : Nat → Nat} {τ : Sg} (h : MI D p q n0 n1 n m ek ef en τ) : Ret (f_X10_reads τ) (fun _ τ' => MI D p q n0 n1 n m ek ef en τ' ∧ MG D τ' p q ∧ τ' 0 19 = τ 0 19) := by
  refine ret_mono (reads_ok h.1 h.2.2.2.2.1) (fun _ τ' b => ?_)
  obtain ⟨b1, b2, b3⟩ := b
  exact ⟨h.fr (fun c hc => b1 c (by omega) (by omega)) (fun k hk => b2 k (by omega) (by omega)), b3, b2 19 (by omega) (by omega)⟩
theorem le_pred {a : Int32} {p : Nat} (hp : p < 1000) : (0 ≤ a ∧ a ≤ nI p - 1) ↔ (0 ≤ a ∧ a < nI p) := by
  rcases p with _ | p
  · have e : nI 0 - 1 = (-1 : Int32) := by decide
    have e2 : nI 0 = (0 : Int32) := rfl
    rw [e, e2]
    constructor
    · intro h; have := h.1; have := h.2; grind
    · intro h; have := h.1; have := h.2; grind
  · rw [nI_pred]
    refine and_congr_right fun _ => ?_
    rw [up_to a p (by omega)]
theorem isOne_ok {D : Sg} {p q n0 n1 n m : Nat} {ek ef : Nat → Int32} {en : Nat → Nat} {τ : Sg} (h : MI D p q n0 n1 n m ek ef en τ) (a : Int32) : Ret (f_X10_isOne τ a) (fun r τ' => MI D p q n0 n1 n m ek ef en τ' ∧ MG D τ' p q ∧ r = if 0 ≤ a ∧ a < nI p then 1 else 0) := by
  unfold f_X10_isOne
  have hp8 := h.1.sizes
  refine ret_bnd h.reads (fun _ τ' b => ?_)
  rw [in_eq, bnd_some, gd_bool, b.2.1.1]
  refine ret_some.mpr ⟨b.1, b.2.1, ?_⟩
  simp only [le_pred (show p < 1000 by omega)]
theorem isNeed_ok {D : Sg} {p q n0 n1 n m : Nat} {ek ef : Nat → Int32} {en : Nat → Nat} {τ : Sg} (h : MI D p q n0 n1 n m ek ef en τ) (a : Int32) : Ret (f_X10_isNeed τ a) (fun r τ' => MI D p q n0 n1 n m ek ef en τ' ∧ MG D τ' p q ∧ r = if 0 ≤ a ∧ a < nI q then 1 else 0) := by
  unfold f_X10_isNeed
  have hp8 := h.1.sizes
  refine ret_bnd h.reads (fun _ τ' b => ?_)
  rw [in_eq, bnd_some, gd_bool, b.2.1.2.1]
  refine ret_some.mpr ⟨b.1, b.2.1, ?_⟩
  simp only [le_pred (show q < 1000 by omega)]
theorem asTold_m {D : Sg} {p q n0 n1 n m : Nat} {ek ef : Nat → Int32} {en : Nat → Nat} {τ : Sg} (h : MI D p q n0 n1 n m ek ef en τ) : Ret (f_X10_asTold τ) (fun _ τ' => MI D p q n0 n1 n m ek ef en τ' ∧ MG D τ' p q ∧ EM τ' n ek ef en ∧ τ' 0 19 = 0) := by
  unfold f_X10_asTold
  refine ret_bnd h.reads (fun _ τ1 b => ?_)
  obtain ⟨b1, b2, -⟩ := b
  rw [amlet_eq]
  have hn8 := b1.2.2.2.1
  have h11 := b1.2.2.2.2.2.1
  have hev := b1.2.2.2.2.2.2.1
  have z0 : ∀ k, k ≠ 15 → up2 τ1 0 15 (τ1 0 11) 0 k = τ1 0 k := fun k hk => by rw [up2_at, upd_off hk]
  refine i_X10_asTold_l14 n (fun i σ2 x1 => x1 = nI i ∧ (∀ c, (c < 13 ∨ 15 < c) → σ2 c = up2 τ1 0 15 (τ1 0 11) c) ∧ ∀ e, e < i → σ2 13 e = ek e ∧ σ2 14 e = nI (en e) ∧ σ2 15 e = ef e) (fun σ2 x1 r => Ret r _) ?_ 300 0 (by omega) (by omega) _ 0 ⟨rfl, fun _ _ => rfl, fun k hk => absurd hk (Nat.not_lt_zero _)⟩
  intro i k σ2 x1 hi hI ih
  obtain ⟨rfl, hs, hv⟩ := hI
  unfold f_X10_asTold_b14
  rw [hs 0 (by omega), z0 11 (by omega), h11]
  rcases Nat.lt_or_ge i n with hlt | hge
  · rw [at_go hlt (by omega)]
    simp only [amlet_eq, nI_1, gd_in (show i < 9 by omega) (show 9 < 2 ^ 31 by omega), cl_nI (show i < 2147483648 by omega)]
    obtain ⟨e1, e2, e3, e4, e5⟩ := hev i hlt
    refine ih _ _ hlt ⟨rfl, fun c hc => by rw [up2_off (by omega), up2_off (by omega), up2_off (by omega)]; exact hs c hc, fun e he => ?_⟩
    simp only [up2_off (show (13 : Nat) ≠ 15 by omega), up2_off (show (13 : Nat) ≠ 14 by omega), up2_off (show (14 : Nat) ≠ 15 by omega), up2_off (show (14 : Nat) ≠ 13 by omega), up2_off (show (15 : Nat) ≠ 14 by omega), up2_off (show (15 : Nat) ≠ 13 by omega), up2_at, up2_off (show (11 : Nat) ≠ 13 by omega), up2_off (show (12 : Nat) ≠ 13 by omega), up2_off (show (12 : Nat) ≠ 14 by omega), hs 10 (by omega), hs 11 (by omega), hs 12 (by omega), up2_off (show (10 : Nat) ≠ 0 by omega), up2_off (show (11 : Nat) ≠ 0 by omega), up2_off (show (12 : Nat) ≠ 0 by omega)]
    by_cases q : e = i
    · subst q
      rw [upd_at, upd_at, upd_at]; exact ⟨e1, e3, e5⟩
    · rw [upd_off q, upd_off q, upd_off q]; exact hv e (by omega)
  · have e : i = n := by omega
    subst e
    rw [at_end (Nat.le_refl _) (by omega), amlet_eq]
    have y : ∀ c, c ≠ 0 → (c < 13 ∨ 15 < c) → up2 σ2 0 19 (0 : Int32) c = τ1 c := fun c g1 g2 => by rw [up2_off g1, hs c g2, up2_off g1]
    have y0 : ∀ k, k ≠ 19 → k ≠ 15 → up2 σ2 0 19 (0 : Int32) 0 k = τ1 0 k := fun k g1 g2 => by rw [up2_at, upd_off g1, hs 0 (by omega), z0 k g2]
    refine ret_some.mpr ⟨b1.fr (fun c hc => y c (by omega) (by omega)) (fun k hk => y0 k (by omega) (by omega)), b2.move (fun k hk => y0 k (by omega) (by omega)) (fun c g1 g2 => y c (by omega) (by omega)), ⟨by omega, ?_, fun e he => ?_⟩, by rw [up2_at, upd_at]⟩
    · rw [up2_at, upd_off (by omega), hs 0 (by omega), up2_at, upd_at, h11]
    · rw [up2_off (by omega), up2_off (by omega), up2_off (by omega)]
      obtain ⟨e1, e2, e3, e4, e5⟩ := hev e he
      obtain ⟨f1, f2, f3⟩ := hv e he
      exact ⟨f1, e2, f2, e4, f3⟩
/-- behind a run of the reference with a set of events that don't count -/
theorem runs_m {D : Sg} {p q n0 n1 n m : Nat} {ek ef : Nat → Int32} {en : Nat → Nat} {τ : Sg} (h : MI D p q n0 n1 n m ek ef en τ) {D' : Sg} {n' : Nat} {ek' ef' : Nat → Int32} {en' : Nat → Nat} (hD : DOK D' p q) (hG : MG D' τ p q) (hE : EM τ n' ek' ef' en') : Ret (f_X10_runs τ) (fun _ τ' =>
    MI D p q n0 n1 n m ek ef en τ' ∧ MG D' τ' p q ∧ EM τ' n' ek' ef' en' ∧ τ' 0 19 = τ 0 19 ∧ (∀ c, (c < 16 ∨ 21 < c) → c ≠ 0 → τ' c = τ c) ∧ (∀ k, k ≠ 20 → k ≠ 23 → k ≠ 24 → k ≠ 25 → τ' 0 k = τ 0 k) ∧ MR τ' (RN D' p q n' ek' ef' en' (selM (τ 0 19)) 24) ∧ MN D' τ' p q (RN D' p q n' ek' ef' en' (selM (τ 0 19))) 24) := by
  refine ret_mono (runs_ok hD hG hE) (fun _ τ' b => ?_)
  obtain ⟨b1, b2, b3, b4⟩ := b
  exact ⟨h.fr (fun c hc => b1 c (by omega) (by omega)) (fun k hk => b2 k (by omega) (by omega) (by omega) (by omega)), hG.move (fun k hk => b2 k (by omega) (by omega) (by omega) (by omega)) (fun c g1 g2 => b1 c (by omega) (by omega)), hE.move (b2 15 (by omega) (by omega) (by omega) (by omega)) (fun c g1 g2 => b1 c (by omega) (by omega)), b2 19 (by omega) (by omega) (by omega) (by omega), b1, b2, b3, b4⟩
def RT (D : Sg) (p q n0 n1 n m : Nat) (ek ef : Nat → Int32) (en : Nat → Nat) (τ : Sg) : Prop := MI D p q n0 n1 n m ek ef en τ ∧ MG D τ p q ∧ MR τ (RN D p q n ek ef en selT 24) ∧ MN D τ p q (RN D p q n ek ef en selT) 24
theorem RN_selF {D : Sg} {p q n : Nat} {ek ef : Nat → Int32} {en : Nat → Nat} {sel sel' : Nat → Bool} (h : ∀ e, e < n → sel e = sel' e) : RN D p q n ek ef en sel = RN D p q n ek ef en sel' := funext fun m => RN_sel h m
theorem runsTold_m {D : Sg} {p q n0 n1 n m : Nat} {ek ef : Nat → Int32} {en : Nat → Nat} {τ : Sg} (h : MI D p q n0 n1 n m ek ef en τ) : Ret (f_X10_runsTold τ) (fun _ τ' => RT D p q n0 n1 n m ek ef en τ') := by
  unfold f_X10_runsTold
  refine ret_bnd (asTold_m h) (fun _ τ1 b => ?_)
  obtain ⟨b1, b2, b3, b4⟩ := b
  have hn8 := b1.2.2.2.1
  refine ret_bnd (runs_m b1 b1.1.dok b2 b3) (fun _ τ2 c => ?_)
  obtain ⟨c1, c2, -, -, -, -, c7, c8⟩ := c
  rw [b4, RN_selF (sel' := selT) (fun e he => selM_T e (by omega))] at c7 c8
  exact ret_some.mpr ⟨c1, c2, c7, c8⟩
