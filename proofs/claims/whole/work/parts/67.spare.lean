/-! spare -/
theorem selX : ∀ s, s < 256 → ∀ e, e < 9 → selI (nI s ^^^ (-1 : Int32)) e = selM (nI s) e := by decide +kernel
theorem sh1 : ∀ a, a < 8 → (1 : Int32) <<< (nI a &&& 31) = nI (2 ^ a) := by decide +kernel
theorem sh2 : ∀ a, a < 8 → ∀ b, b < 8 → a < b → ((1 : Int32) <<< (nI a &&& 31)) ||| ((1 : Int32) <<< (nI b &&& 31)) = nI (2 ^ a + 2 ^ b) := by decide +kernel
theorem p1 : ∀ a, a < 8 → 2 ^ a < 256 := by decide
theorem p2 : ∀ a, a < 8 → ∀ b, b < 8 → a < b → 2 ^ a + 2 ^ b < 256 := by decide
abbrev gR (D : Sg) (p q n : Nat) (ek ef : Nat → Int32) (en : Nat → Nat) (s : Nat) : Prop := (RN D p q n ek ef en (selM (nI s)) 24).2.1 = 0
def SP (G : Nat → Prop) (n c a b : Nat) : Prop := (c = 0 ∧ G 0) ∨ (c = 1 ∧ ¬ G 0 ∧ a < n ∧ G (2 ^ a) ∧ ∀ x, x < a → ¬ G (2 ^ x)) ∨
  (c = 2 ∧ ¬ G 0 ∧ (∀ x, x < n → ¬ G (2 ^ x)) ∧ a < b ∧ b < n ∧ G (2 ^ a + 2 ^ b) ∧ (∀ x y, x < a → x < y → y < n → ¬ G (2 ^ x + 2 ^ y)) ∧ ∀ y, a < y → y < b → ¬ G (2 ^ a + 2 ^ y)) ∨
  (c = 3 ∧ ¬ G 0 ∧ (∀ x, x < n → ¬ G (2 ^ x)) ∧ ∀ x y, x < y → y < n → ¬ G (2 ^ x + 2 ^ y))
theorem SP_one {G : Nat → Prop} {n c a b c' a' b' : Nat} (h : SP G n c a b) (h' : SP G n c' a' b') : c = c' ∧ (c = 1 → a = a') ∧ (c = 2 → a = a' ∧ b = b') := by
  rcases h with ⟨rfl, g0⟩ | ⟨rfl, g0, g1, g2, g3⟩ | ⟨rfl, g0, g1, g2, g3, g4, g5, g6⟩ | ⟨rfl, g0, g1, g2⟩
  · rcases h' with ⟨rfl, k0⟩ | ⟨rfl, k0, k1, k2, k3⟩ | ⟨rfl, k0, k1, k2, k3, k4, k5, k6⟩ | ⟨rfl, k0, k1, k2⟩
    · exact ⟨rfl, fun q => by omega, fun q => by omega⟩
    · exact absurd g0 k0
    · exact absurd g0 k0
    · exact absurd g0 k0
  · rcases h' with ⟨rfl, k0⟩ | ⟨rfl, k0, k1, k2, k3⟩ | ⟨rfl, k0, k1, k2, k3, k4, k5, k6⟩ | ⟨rfl, k0, k1, k2⟩
    · exact absurd k0 g0
    · refine ⟨rfl, fun _ => ?_, fun q => by omega⟩
      rcases Nat.lt_trichotomy a a' with q | q | q
      · exact absurd g2 (k3 a q)
      · exact q
      · exact absurd k2 (g3 a' q)
    · exact absurd g2 (k1 a g1)
    · exact absurd g2 (k1 a g1)
  · rcases h' with ⟨rfl, k0⟩ | ⟨rfl, k0, k1, k2, k3⟩ | ⟨rfl, k0, k1, k2, k3, k4, k5, k6⟩ | ⟨rfl, k0, k1, k2⟩
    · exact absurd k0 g0
    · exact absurd k2 (g1 a' k1)
    · refine ⟨rfl, fun q => by omega, fun _ => ?_⟩
      rcases Nat.lt_trichotomy a a' with q | q | q
      · exact absurd g4 (k5 a b q g2 g3)
      · subst q
        rcases Nat.lt_trichotomy b b' with q | q | q
        · exact absurd g4 (k6 b g2 q)
        · exact ⟨rfl, q⟩
        · exact absurd k4 (g6 b' k2 q)
      · exact absurd k4 (g5 a' b' q k2 k3)
    · exact absurd g4 (k2 a b g2 g3)
  · rcases h' with ⟨rfl, k0⟩ | ⟨rfl, k0, k1, k2, k3⟩ | ⟨rfl, k0, k1, k2, k3, k4, k5, k6⟩ | ⟨rfl, k0, k1, k2⟩
    · exact absurd k0 g0
    · exact absurd k2 (g1 a' k1)
    · exact absurd k4 (g2 a' b' k2 k3)
    · exact ⟨rfl, fun q => by omega, fun q => by omega⟩
theorem isRight_x {D : Sg} {p q n0 n1 n m : Nat} {ek ef : Nat → Int32} {en : Nat → Nat} {σ : Sg} (h : XI D p q n0 n1 n m ek ef en σ) {s : Nat} (hs : s < 256) : XV D p q n0 n1 n m ek ef en (f_X9_isRightWithout σ (nI s)) (if gR D p q n ek ef en s then 1 else 0) := by
  have hn8 := h.2.2.2.1
  unfold f_X9_isRightWithout
  obtain ⟨u, σ2, e1, b1, b2⟩ := run_hc (c0 := 35) h.dok h.sd h.eok (by omega) (by omega) (nI s ^^^ (-1))
  have hH := b2.sel (sel' := selM (nI s)) fun e he => selX s hs e (by omega)
  have hX : XI D p q n0 n1 n m ek ef en σ2 := h.fr fun c hc => b1 c (by omega)
  rw [e1, bnd_some, hH.1.2.1]
  by_cases h0 : gR D p q n ek ef en s
  · rw [if_pos h0, if_pos h0]; exact xv_some hX
  · rw [if_neg h0, if_neg h0]; exact xv_some hX
def encX (c a b : Nat) : Int32 := if c = 3 then -1 else if c = 0 then 0 else if c = 1 then nI (2 ^ a) else nI (2 ^ a + 2 ^ b)
theorem spareEvents_x {D : Sg} {p q n0 n1 n m : Nat} {ek ef : Nat → Int32} {en : Nat → Nat} {σ : Sg} (h : XI D p q n0 n1 n m ek ef en σ) : Ret (f_X9_spareEvents σ) (fun r σ' => XI D p q n0 n1 n m ek ef en σ' ∧ ∃ c a b, SP (gR D p q n ek ef en) n c a b ∧ r = encX c a b) := by
  have hn8 := h.2.2.2.1
  have h4 : ∀ σ2 : Sg, XI D p q n0 n1 n m ek ef en σ2 → σ2 14 4 = nI n := fun σ2 hX => hX.eok.2.1
  unfold f_X9_spareEvents
  obtain ⟨r, σ1, e1, er, hX1⟩ := isRight_x h (s := 0) (by omega)
  have e1 : f_X9_isRightWithout σ (0 : Int32) = some (r, σ1) := e1
  rw [e1, bnd_some, er, one_if]
  by_cases g0 : gR D p q n ek ef en 0
  · rw [if_pos g0]
    exact ret_some.mpr ⟨hX1, 0, 0, 0, Or.inl ⟨rfl, g0⟩, rfl⟩
  rw [if_neg g0]
  have two : ∀ σ2 : Sg, XI D p q n0 n1 n m ek ef en σ2 → (∀ x, x < n → ¬ gR D p q n ek ef en (2 ^ x)) → Ret (f_X9_spareEvents_l45 300 σ2 (0 : Int32)) (fun r σ' => XI D p q n0 n1 n m ek ef en σ' ∧ ∃ c a b, SP (gR D p q n ek ef en) n c a b ∧ r = encX c a b) := by
    intro σ2 hX2 g1
    refine i_X9_spareEvents_l45 n (fun a σ3 x1 => x1 = nI a ∧ XI D p q n0 n1 n m ek ef en σ3 ∧ ∀ x y, x < a → x < y → y < n → ¬ gR D p q n ek ef en (2 ^ x + 2 ^ y)) (fun σ3 x1 r => Ret r _) ?_ 300 0 (by omega) (by omega) σ2 0 ⟨rfl, hX2, fun x y hx => absurd hx (Nat.not_lt_zero _)⟩
    intro a k σ3 x1 ha hI ih
    obtain ⟨rfl, hX3, g2⟩ := hI
    unfold f_X9_spareEvents_b45
    rw [h4 σ3 hX3]
    rcases Nat.lt_or_ge a n with hlt | hge
    · rw [at_go hlt (by omega), amlet_eq, nI_1]
      refine i_X9_spareEvents_l60 k n (fun b σ4 x1 x2 => x1 = nI a ∧ x2 = nI b ∧ a < b ∧ XI D p q n0 n1 n m ek ef en σ4 ∧ ∀ y, a < y → y < b → ¬ gR D p q n ek ef en (2 ^ a + 2 ^ y)) (fun σ4 x1 x2 r => Ret r _) ?_ 300 (a + 1) (by omega) (by omega) σ3 (nI a) (nI (a + 1)) ⟨rfl, rfl, by omega, hX3, fun y h1 h2 => by omega⟩
      intro b k2 σ4 x1 x2 hb hI2 ih2
      obtain ⟨rfl, rfl, hab, hX4, g3⟩ := hI2
      unfold f_X9_spareEvents_b60
      rw [h4 σ4 hX4]
      rcases Nat.lt_or_ge b n with hlt2 | hge2
      · rw [at_go hlt2 (by omega), sh2 a (by omega) b (by omega) hab, amlet_eq]
        obtain ⟨r, σ5, e5, er5, hX5⟩ := isRight_x hX4 (p2 a (by omega) b (by omega) hab)
        rw [e5, bnd_some, er5, one_if]
        by_cases g : gR D p q n ek ef en (2 ^ a + 2 ^ b)
        · rw [if_pos g]
          exact ret_some.mpr ⟨hX5, 2, a, b, Or.inr (Or.inr (Or.inl ⟨rfl, g0, g1, hab, hlt2, g, g2, g3⟩)), rfl⟩
        · rw [if_neg g, amlet_eq, nI_1]
          refine ih2 _ _ _ hlt2 ⟨rfl, rfl, by omega, hX5, fun y h1 h2 => ?_⟩
          by_cases e : y = b
          · subst e; exact g
          · exact g3 y h1 (by omega)
      · have e : b = n := by omega
        subst e
        rw [at_end (Nat.le_refl _) (by omega), amlet_eq, nI_1]
        refine ih _ _ hlt ⟨rfl, hX4, fun x y h1 h2 h3 => ?_⟩
        by_cases e : x = a
        · subst e; exact g3 y h2 h3
        · exact g2 x y (by omega) h2 h3
    · have e : a = n := by omega
      subst e
      rw [at_end (Nat.le_refl _) (by omega)]
      exact ret_some.mpr ⟨hX3, 3, 0, 0, Or.inr (Or.inr (Or.inr ⟨rfl, g0, g1, fun x y h1 h2 => g2 x y (by omega) h1 h2⟩)), rfl⟩
  refine i_X9_spareEvents_l12 n (fun a σ3 x1 => x1 = nI a ∧ XI D p q n0 n1 n m ek ef en σ3 ∧ ∀ x, x < a → ¬ gR D p q n ek ef en (2 ^ x)) (fun σ3 x1 r => Ret r _) ?_ 300 0 (by omega) (by omega) σ1 0 ⟨rfl, hX1, fun x hx => absurd hx (Nat.not_lt_zero _)⟩
  intro a k σ3 x1 ha hI ih
  obtain ⟨rfl, hX3, g1⟩ := hI
  unfold f_X9_spareEvents_b12
  rw [h4 σ3 hX3]
  rcases Nat.lt_or_ge a n with hlt | hge
  · rw [at_go hlt (by omega), sh1 a (by omega)]
    obtain ⟨r, σ5, e5, er5, hX5⟩ := isRight_x hX3 (p1 a (by omega))
    rw [e5, bnd_some, er5, one_if]
    by_cases g : gR D p q n ek ef en (2 ^ a)
    · rw [if_pos g]
      exact ret_some.mpr ⟨hX5, 1, a, 0, Or.inr (Or.inl ⟨rfl, g0, hlt, g, g1⟩), rfl⟩
    · rw [if_neg g, amlet_eq, nI_1]
      refine ih _ _ hlt ⟨rfl, hX5, fun x hx => ?_⟩
      by_cases e : x = a
      · subst e; exact g
      · exact g1 x (by omega)
  · have e : a = n := by omega
    subst e
    rw [at_end (Nat.le_refl _) (by omega)]
    exact two σ3 hX3 g1
/-- the reference -/
theorem isSpared_m {D : Sg} {p q n0 n1 n m : Nat} {ek ef : Nat → Int32} {en : Nat → Nat} {τ : Sg} (h : MI D p q n0 n1 n m ek ef en τ) (hG : MG D τ p q) (hE : EM τ n ek ef en) (s : Nat) : Ret (f_X10_isSpared τ (nI s)) (fun r τ' => r = (if gR D p q n ek ef en s then 1 else 0) ∧ MI D p q n0 n1 n m ek ef en τ' ∧ MG D τ' p q ∧ EM τ' n ek ef en ∧ τ' 22 = τ 22) := by
  unfold f_X10_isSpared
  rw [amlet_eq]
  have w : ∀ c, c ≠ 0 → up2 τ 0 19 (nI s) c = τ c := fun c hc => up2_off hc
  have w0 : ∀ k, k ≠ 19 → up2 τ 0 19 (nI s) 0 k = τ 0 k := fun k hk => by rw [up2_at, upd_off hk]
  obtain ⟨u, τ2, e, b1, b2, b3, b4, b5, b6, b7, b8⟩ := runs_m (h.fr (fun c hc => w c (by omega)) (fun k hk => w0 k (by omega))) h.1.dok (hG.move (fun k hk => w0 k (by omega)) (fun c g1 g2 => w c (by omega))) (hE.move (w0 15 (by omega)) (fun c g1 g2 => w c (by omega)))
  rw [up2_at, upd_at] at b7
  rw [e, bnd_some, b7.2.1]
  have e22 : τ2 22 = τ 22 := by rw [b5 22 (by omega) (by omega), w 22 (by omega)]
  by_cases h0 : gR D p q n ek ef en s
  · rw [if_pos h0, if_pos h0]; exact ret_some.mpr ⟨rfl, b1, b2, b3, e22⟩
  · rw [if_neg h0, if_neg h0]; exact ret_some.mpr ⟨rfl, b1, b2, b3, e22⟩
theorem MI.f22 {D : Sg} {p q n0 n1 n m : Nat} {ek ef : Nat → Int32} {en : Nat → Nat} {τ : Sg} (h : MI D p q n0 n1 n m ek ef en τ) (k : Nat) (v : Int32) : MI D p q n0 n1 n m ek ef en (up2 τ 22 k v) := h.fr (fun c hc => up2_off (by omega)) (fun k hk => by rw [up2_off (by omega)])
theorem MG.f22 {D τ : Sg} {p q : Nat} (h : MG D τ p q) (k : Nat) (v : Int32) : MG D (up2 τ 22 k v) p q := h.move (fun k hk => by rw [up2_off (by omega)]) (fun c g1 g2 => up2_off (by omega))
theorem EM.f22 {τ : Sg} {n : Nat} {ek ef : Nat → Int32} {en : Nat → Nat} (h : EM τ n ek ef en) (k : Nat) (v : Int32) : EM (up2 τ 22 k v) n ek ef en := h.move (by rw [up2_off (by omega)]) (fun c g1 g2 => up2_off (by omega))
theorem spareBy_m {D : Sg} {p q n0 n1 n m : Nat} {ek ef : Nat → Int32} {en : Nat → Nat} {τ : Sg} (h : MI D p q n0 n1 n m ek ef en τ) : Ret (f_X10_spareBy τ) (fun r τ' => MI D p q n0 n1 n m ek ef en τ' ∧ MG D τ' p q ∧ ∃ c a b, SP (gR D p q n ek ef en) n c a b ∧ r = (if c = 3 then -1 else nI c) ∧ (c = 1 → τ' 22 0 = nI a) ∧ (c = 2 → τ' 22 0 = nI a ∧ τ' 22 1 = nI b)) := by
  have hn8 := h.2.2.2.1
  have h11 : ∀ τ2 : Sg, MI D p q n0 n1 n m ek ef en τ2 → τ2 0 11 = nI n := fun τ2 hX => hX.2.2.2.2.2.1
  unfold f_X10_spareBy
  obtain ⟨u, τ0, e0, hM0, hG0, hE0, -⟩ := asTold_m h
  obtain ⟨r, τ1, e1, er, hM1, hG1, hE1, -⟩ := isSpared_m hM0 hG0 hE0 0
  have e1 : f_X10_isSpared τ0 (0 : Int32) = some (r, τ1) := e1
  rw [e0, bnd_some, e1, bnd_some, er, one_if]
  by_cases g0 : gR D p q n ek ef en 0
  · rw [if_pos g0]
    exact ret_some.mpr ⟨hM1, hG1, 0, 0, 0, Or.inl ⟨rfl, g0⟩, rfl, fun q => by omega, fun q => by omega⟩
  rw [if_neg g0]
  have c0 : inB (0 : Int32) 2 = true := by decide
  have c1 : inB (1 : Int32) 2 = true := by decide
  have k0 : (0 : Int32).toNatClampNeg = 0 := by decide
  have k1 : (1 : Int32).toNatClampNeg = 1 := by decide
  have two : ∀ τ2 : Sg, MI D p q n0 n1 n m ek ef en τ2 → MG D τ2 p q → EM τ2 n ek ef en → (∀ x, x < n → ¬ gR D p q n ek ef en (2 ^ x)) → Ret (f_X10_spareBy_l51 300 τ2 (0 : Int32)) (fun r τ' => MI D p q n0 n1 n m ek ef en τ' ∧ MG D τ' p q ∧ ∃ c a b, SP (gR D p q n ek ef en) n c a b ∧ r = (if c = 3 then -1 else nI c) ∧ (c = 1 → τ' 22 0 = nI a) ∧ (c = 2 → τ' 22 0 = nI a ∧ τ' 22 1 = nI b)) := by
    intro τ2 hM2 hG2 hE2 g1
    refine i_X10_spareBy_l51 n (fun a σ3 x1 => x1 = nI a ∧ MI D p q n0 n1 n m ek ef en σ3 ∧ MG D σ3 p q ∧ EM σ3 n ek ef en ∧ ∀ x y, x < a → x < y → y < n → ¬ gR D p q n ek ef en (2 ^ x + 2 ^ y)) (fun σ3 x1 r => Ret r _) ?_ 300 0 (by omega) (by omega) τ2 0 ⟨rfl, hM2, hG2, hE2, fun x y hx => absurd hx (Nat.not_lt_zero _)⟩
    intro a k σ3 x1 ha hI ih
    obtain ⟨rfl, hM3, hG3, hE3, g2⟩ := hI
    unfold f_X10_spareBy_b51
    rw [h11 σ3 hM3]
    rcases Nat.lt_or_ge a n with hlt | hge
    · rw [at_go hlt (by omega), amlet_eq, nI_1]
      refine i_X10_spareBy_l63 k n (fun b σ4 x1 x2 => x1 = nI a ∧ x2 = nI b ∧ a < b ∧ MI D p q n0 n1 n m ek ef en σ4 ∧ MG D σ4 p q ∧ EM σ4 n ek ef en ∧ ∀ y, a < y → y < b → ¬ gR D p q n ek ef en (2 ^ a + 2 ^ y)) (fun σ4 x1 x2 r => Ret r _) ?_ 300 (a + 1) (by omega) (by omega) σ3 (nI a) (nI (a + 1)) ⟨rfl, rfl, by omega, hM3, hG3, hE3, fun y h1 h2 => by omega⟩
      intro b k2 σ4 x1 x2 hb hI2 ih2
      obtain ⟨rfl, rfl, hab, hM4, hG4, hE4, g3⟩ := hI2
      unfold f_X10_spareBy_b63
      rw [h11 σ4 hM4]
      rcases Nat.lt_or_ge b n with hlt2 | hge2
      · rw [at_go hlt2 (by omega), sh2 a (by omega) b (by omega) hab, gd_true c0, k0, amlet_eq, gd_true c1, k1, amlet_eq]
        obtain ⟨r, σ5, e5, er5, hM5, hG5, hE5, e22⟩ := isSpared_m ((hM4.f22 0 (nI a)).f22 1 (nI b)) ((hG4.f22 0 (nI a)).f22 1 (nI b)) ((hE4.f22 0 (nI a)).f22 1 (nI b)) (2 ^ a + 2 ^ b)
        rw [e5, bnd_some, er5, one_if]
        by_cases g : gR D p q n ek ef en (2 ^ a + 2 ^ b)
        · rw [if_pos g]
          refine ret_some.mpr ⟨hM5, hG5, 2, a, b, Or.inr (Or.inr (Or.inl ⟨rfl, g0, g1, hab, hlt2, g, g2, g3⟩)), rfl, fun q => by omega, fun _ => ?_⟩
          rw [e22, up2_at, upd_off (by omega), upd_at, up2_at, upd_at]
          exact ⟨rfl, rfl⟩
        · rw [if_neg g, amlet_eq, nI_1]
          refine ih2 _ _ _ hlt2 ⟨rfl, rfl, by omega, hM5, hG5, hE5, fun y h1 h2 => ?_⟩
          by_cases e : y = b
          · subst e; exact g
          · exact g3 y h1 (by omega)
      · have e : b = n := by omega
        subst e
        rw [at_end (Nat.le_refl _) (by omega), amlet_eq, nI_1]
        refine ih _ _ hlt ⟨rfl, hM4, hG4, hE4, fun x y h1 h2 h3 => ?_⟩
        by_cases e : x = a
        · subst e; exact g3 y h2 h3
        · exact g2 x y (by omega) h2 h3
    · have e : a = n := by omega
      subst e
      rw [at_end (Nat.le_refl _) (by omega)]
      exact ret_some.mpr ⟨hM3, hG3, 3, 0, 0, Or.inr (Or.inr (Or.inr ⟨rfl, g0, g1, fun x y h1 h2 => g2 x y (by omega) h1 h2⟩)), rfl, fun q => by omega, fun q => by omega⟩
  refine i_X10_spareBy_l16 n (fun a σ3 x1 => x1 = nI a ∧ MI D p q n0 n1 n m ek ef en σ3 ∧ MG D σ3 p q ∧ EM σ3 n ek ef en ∧ ∀ x, x < a → ¬ gR D p q n ek ef en (2 ^ x)) (fun σ3 x1 r => Ret r _) ?_ 300 0 (by omega) (by omega) τ1 0 ⟨rfl, hM1, hG1, hE1, fun x hx => absurd hx (Nat.not_lt_zero _)⟩
  intro a k σ3 x1 ha hI ih
  obtain ⟨rfl, hM3, hG3, hE3, g1⟩ := hI
  unfold f_X10_spareBy_b16
  rw [h11 σ3 hM3]
  rcases Nat.lt_or_ge a n with hlt | hge
  · rw [at_go hlt (by omega), sh1 a (by omega), gd_true c0, k0, amlet_eq]
    obtain ⟨r, σ5, e5, er5, hM5, hG5, hE5, e22⟩ := isSpared_m (hM3.f22 0 (nI a)) (hG3.f22 0 (nI a)) (hE3.f22 0 (nI a)) (2 ^ a)
    rw [e5, bnd_some, er5, one_if]
    by_cases g : gR D p q n ek ef en (2 ^ a)
    · rw [if_pos g]
      exact ret_some.mpr ⟨hM5, hG5, 1, a, 0, Or.inr (Or.inl ⟨rfl, g0, hlt, g, g1⟩), rfl, fun _ => by rw [e22, up2_at, upd_at], fun q => by omega⟩
    · rw [if_neg g, amlet_eq, nI_1]
      refine ih _ _ hlt ⟨rfl, hM5, hG5, hE5, fun x hx => ?_⟩
      by_cases e : x = a
      · subst e; exact g
      · exact g1 x (by omega)
  · have e : a = n := by omega
    subst e
    rw [at_end (Nat.le_refl _) (by omega)]
    exact two σ3 hM3 hG3 hE3 g1
/-- the place of a bit -/
def plR (x i : Int32) : Nat → Nat → Int32 → Int32
  | 0, _, _ => -1
  | d + 1, k, ps => if ((x >>> (nI k &&& 31)) &&& (1 : Int32)) = 0 then plR x i d (k + 1) ps else if ps = i then nI k else plR x i d (k + 1) (ps + 1)
theorem place_ok (σ : Sg) (x i : Int32) : ∀ (d N k : Nat) (ps : Int32), k + d = 8 → d < N → f_X9_placeOfBit_l4 N σ x i ps (nI k) = some (plR x i d k ps, σ)
  | d, 0, k, ps, _, hN => absurd hN (Nat.not_lt_zero _)
  | 0, N + 1, k, ps, hk, _ => by
    show f_X9_placeOfBit_b4 (f_X9_placeOfBit_l4 N) σ x i ps (nI k) = _
    unfold f_X9_placeOfBit_b4
    rw [n_lit 8, at_end (by omega) (by omega)]
    rfl
  | d + 1, N + 1, k, ps, hk, hN => by
    show f_X9_placeOfBit_b4 (f_X9_placeOfBit_l4 N) σ x i ps (nI k) = _
    unfold f_X9_placeOfBit_b4 f_X9_placeOfBit_b28 plR
    rw [n_lit 8, at_go (by omega) (by omega), amlet_eq, amlet_eq, amlet_eq, nI_1, place_ok σ x i d N (k + 1) ps (by omega) (by omega), place_ok σ x i d N (k + 1) (ps + 1) (by omega) (by omega)]
    by_cases h1 : ((x >>> (nI k &&& 31)) &&& (1 : Int32)) = 0
    · rw [if_pos h1, if_pos h1]
    · rw [if_neg h1, if_neg h1]
      by_cases h2 : ps = i
      · rw [if_pos h2, if_pos h2]
      · rw [if_neg h2, if_neg h2]
theorem placeOfBit_eq (σ : Sg) (x i : Int32) : f_X9_placeOfBit σ x i = some (plR x i 8 0 0, σ) := place_ok σ x i 8 300 0 0 (by omega) (by omega)
theorem pl0 : plR 0 0 8 0 0 = -1 ∧ plR 0 1 8 0 0 = -1 ∧ bcV 0 = 0 := by decide +kernel
theorem pl1 : ∀ a, a < 8 → plR (nI (2 ^ a)) 0 8 0 0 = nI a ∧ plR (nI (2 ^ a)) 1 8 0 0 = -1 ∧ bcV (nI (2 ^ a)) = 1 := by decide +kernel
theorem pl2 : ∀ a, a < 8 → ∀ b, b < 8 → a < b → plR (nI (2 ^ a + 2 ^ b)) 0 8 0 0 = nI a ∧ plR (nI (2 ^ a + 2 ^ b)) 1 8 0 0 = nI b ∧ bcV (nI (2 ^ a + 2 ^ b)) = 2 := by decide +kernel
def vSpare (c a b : Nat) (i : Int32) : Int32 := if i = -1 then (if c = 3 then -1 else nI c) else if c = 1 then (if i = 0 then nI a else -1) else if c = 2 then (if i = 0 then nI a else nI b) else -1
theorem spare_x {D : Sg} {p q n0 n1 n m : Nat} {ek ef : Nat → Int32} {en : Nat → Nat} {σ : Sg} (h : XI D p q n0 n1 n m ek ef en σ) {c a b : Nat} (hS : SP (gR D p q n ek ef en) n c a b) {i : Int32} (hi : i = -1 ∨ i = 0 ∨ i = 1) : XV D p q n0 n1 n m ek ef en (f_X9_spare σ i) (vSpare c a b i) := by
  have hn8 := h.2.2.2.1
  have e : f_X9_spare σ i = f_X9_spare_b16 σ i := by
    unfold f_X9_spare
    rcases hi with rfl | rfl | rfl
    · rw [if_pos rfl]
    · rw [if_neg (by decide), isBelow_eq, bnd_some, one_if, if_pos (by decide)]
    · rw [if_neg (by decide), isBelow_eq, bnd_some, one_if, if_pos (by decide)]
  rw [e]
  unfold f_X9_spare_b16
  obtain ⟨r, σ1, e1, hX, c', a', b', hS', er⟩ := spareEvents_x h
  rw [e1, bnd_some]
  obtain ⟨q1, q2, q3⟩ := SP_one hS hS'
  subst q1
  have hr : r = encX c a b := by
    rw [er]
    unfold encX
    by_cases h1 : c = 1
    · rw [← q2 h1, if_neg (by omega), if_neg (by omega), if_pos h1, if_neg (by omega), if_neg (by omega), if_pos h1]
    · by_cases h2 : c = 2
      · rw [← (q3 h2).1, ← (q3 h2).2]
      · by_cases h3 : c = 3
        · rw [if_pos h3, if_pos h3]
        · by_cases h0 : c = 0
          · rw [if_neg h3, if_neg h3, if_pos h0, if_pos h0]
          · rcases hS with q | q | q | q <;> omega
  rw [hr]
  simp only [bitCount_eq, placeOfBit_eq, bnd_some]
  rcases hS with ⟨rfl, g0⟩ | ⟨rfl, g0, g1, g2, g3⟩ | ⟨rfl, g0, g1, g2, g3, g4, g5, g6⟩ | ⟨rfl, g0, g1, g2⟩
  · rw [show encX 0 a b = 0 from rfl, show vSpare 0 a b i = (if i = -1 then nI 0 else -1) from rfl, if_neg (by decide), pl0.2.2]
    rcases hi with rfl | rfl | rfl
    · rw [if_pos rfl, if_pos rfl]; exact xv_some hX
    · rw [if_neg (by decide), if_neg (by decide), pl0.1]; exact xv_some hX
    · rw [if_neg (by decide), if_neg (by decide), pl0.2.1]; exact xv_some hX
  · obtain ⟨z1, z2, z3⟩ := pl1 a (by omega)
    have := p1 a (by omega)
    rw [show encX 1 a b = nI (2 ^ a) from rfl, show vSpare 1 a b i = (if i = -1 then nI 1 else if i = 0 then nI a else -1) from rfl, if_neg (n_ne (show 2 ^ a < 2147483648 by omega)), z3]
    rcases hi with rfl | rfl | rfl
    · rw [if_pos rfl, if_pos rfl]; exact xv_some hX
    · rw [if_neg (by decide), if_neg (by decide), z1, if_pos rfl]; exact xv_some hX
    · rw [if_neg (by decide), if_neg (by decide), z2, if_neg (by decide)]; exact xv_some hX
  · obtain ⟨z1, z2, z3⟩ := pl2 a (by omega) b (by omega) g2
    have := p2 a (by omega) b (by omega) g2
    rw [show encX 2 a b = nI (2 ^ a + 2 ^ b) from rfl, show vSpare 2 a b i = (if i = -1 then nI 2 else if i = 0 then nI a else nI b) from rfl, if_neg (n_ne (show 2 ^ a + 2 ^ b < 2147483648 by omega)), z3]
    rcases hi with rfl | rfl | rfl
    · rw [if_pos rfl, if_pos rfl]; exact xv_some hX
    · rw [if_neg (by decide), if_neg (by decide), z1, if_pos rfl]; exact xv_some hX
    · rw [if_neg (by decide), if_neg (by decide), z2, if_neg (by decide)]; exact xv_some hX
  · rw [show encX 3 a b = -1 from rfl, show vSpare 3 a b i = (if i = -1 then -1 else -1) from rfl, if_pos rfl, ite_self]
    exact xv_some hX
/-- what the row holds behind it -/
def RW (τ : Sg) (c a b : Nat) : Prop := (c = 1 → τ 22 0 = nI a) ∧ (c = 2 → τ 22 0 = nI a ∧ τ 22 1 = nI b)
theorem spareBy_v {D : Sg} {p q n0 n1 n m : Nat} {ek ef : Nat → Int32} {en : Nat → Nat} {τ : Sg} (h : MI D p q n0 n1 n m ek ef en τ) {c a b : Nat} (hS : SP (gR D p q n ek ef en) n c a b) : Ret (f_X10_spareBy τ) (fun r τ' => r = (if c = 3 then -1 else nI c) ∧ MI D p q n0 n1 n m ek ef en τ' ∧ MG D τ' p q ∧ RW τ' c a b) := by
  refine ret_mono (spareBy_m h) (fun r τ' q => ?_)
  obtain ⟨q1, q2, c', a', b', hS', er, w1, w2⟩ := q
  obtain ⟨k1, k2, k3⟩ := SP_one hS hS'
  subst k1
  exact ⟨er, q1, q2, fun e => by rw [k2 e]; exact w1 e, fun e => by rw [(k3 e).1, (k3 e).2]; exact w2 e⟩
theorem ofRow_eq {τ : Sg} {c a b : Nat} (hR : RW τ c a b) (hc : c ≤ 3) {i : Int32} (hi : i = -1 ∨ i = 0 ∨ i = 1) : f_X10_ofRow τ (if c = 3 then -1 else nI c) i = some (vSpare c a b i, τ) := by
  unfold f_X10_ofRow vSpare
  have k0 : (0 : Int32).toNatClampNeg = 0 := by decide
  have k1 : (1 : Int32).toNatClampNeg = 1 := by decide
  rcases (show c = 0 ∨ c = 1 ∨ c = 2 ∨ c = 3 by omega) with rfl | rfl | rfl | rfl
  · rcases hi with rfl | rfl | rfl
    · rfl
    · rfl
    · rfl
  · rcases hi with rfl | rfl | rfl
    · rfl
    · rw [if_neg (by decide), if_neg (by decide), gd_true (by decide), k0, hR.1 rfl]; rfl
    · rfl
  · rcases hi with rfl | rfl | rfl
    · rfl
    · rw [if_neg (by decide), if_neg (by decide), gd_true (by decide), k0, (hR.2 rfl).1]; rfl
    · rw [if_neg (by decide), if_neg (by decide), gd_true (by decide), k1, (hR.2 rfl).2]; rfl
  · rcases hi with rfl | rfl | rfl
    · rfl
    · rfl
    · rfl
theorem SP_le {G : Nat → Prop} {n c a b : Nat} (h : SP G n c a b) : c ≤ 3 := by
  rcases h with q | q | q | q <;> omega
theorem i_three (i : Int32) : ((-1 : Int32) ≤ i ∧ i ≤ 1) ↔ (i = -1 ∨ i = 0 ∨ i = 1) := by
  constructor
  · rintro ⟨h1, h2⟩
    rw [i32_le] at h1 h2
    have e1 : (-1 : Int32).toInt = -1 := by decide
    have e2 : (1 : Int32).toInt = 1 := by decide
    have e0 : (0 : Int32).toInt = 0 := by decide
    rw [e1] at h1
    rw [e2] at h2
    rcases (show i.toInt = -1 ∨ i.toInt = 0 ∨ i.toInt = 1 by omega) with q | q | q
    · exact Or.inl (Int32.toInt_inj.mp (q.trans e1.symm))
    · exact Or.inr (Or.inl (Int32.toInt_inj.mp (q.trans e0.symm)))
    · exact Or.inr (Or.inr (Int32.toInt_inj.mp (q.trans e2.symm)))
  · rintro (rfl | rfl | rfl) <;> decide
theorem ag_spare {D : Sg} {p q n0 n1 n m : Nat} {ek ef : Nat → Int32} {en : Nat → Nat} {σ τ : Sg} (h : XI D p q n0 n1 n m ek ef en σ) (g : MI D p q n0 n1 n m ek ef en τ) (i : Int32) : Agr (f_X9_spare σ i) (f_X10_spare τ i) := by
  unfold f_X10_spare
  rw [in_eq, bnd_some, one_if]
  by_cases hi : i = -1 ∨ i = 0 ∨ i = 1
  · rw [if_pos ((i_three i).mpr hi)]
    obtain ⟨r0, σ0, -, -, c, a, b, hS, -⟩ := spareEvents_x h
    obtain ⟨r, τ1, e, er, hM, hG, hR⟩ := spareBy_v g hS
    rw [e, bnd_some, er, ofRow_eq hR (SP_le hS) hi, bnd_some]
    exact agr_of (spare_x h hS hi) (mu_some hM)
  · rw [if_neg (fun q => hi ((i_three i).mp q))]
    refine agr_of (v := -2) ?_ (mu_some g)
    unfold f_X9_spare
    rw [if_neg (fun q => hi (Or.inl q)), isBelow_eq, bnd_some, one_if, if_neg (fun q => by
      rcases two_of q with e | e
      · exact hi (Or.inr (Or.inl e))
      · exact hi (Or.inr (Or.inr e)))]
    exact xv_some h
