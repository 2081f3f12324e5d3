/-! years -/
theorem ushr_nat (x : Int32) : ∃ r, r < 65536 ∧ am_ushr x (16 : Int32) = nI r := by
  refine ⟨(x.toUInt32 >>> ((16 : Int32).toUInt32 &&& Int32.toUInt32 31)).toNat, ?_, ?_⟩
  · rw [UInt32.toNat_shiftRight, show ((16 : Int32).toUInt32 &&& Int32.toUInt32 31).toNat % 32 = 16 from by decide, Nat.shiftRight_eq_div_pow]
    have := x.toUInt32.toNat_lt
    omega
  · unfold am_ushr
    generalize x.toUInt32 >>> ((16 : Int32).toUInt32 &&& Int32.toUInt32 31) = u
    show u.toInt32 = Int32.ofNat u.toNat
    show u.toInt32 = (UInt32.ofNat u.toNat).toInt32
    rw [UInt32.ofNat_toNat]
noncomputable def uN (x : Int32) : Nat := (ushr_nat x).choose
theorem uN_lt (x : Int32) : uN x < 65536 := (ushr_nat x).choose_spec.1
theorem uN_eq (x : Int32) : am_ushr x (16 : Int32) = nI (uN x) := (ushr_nat x).choose_spec.2
theorem u_rem (x : Int32) {d : Nat} (h0 : 0 < d) (hd : d < 1000) : nI (uN x) - nI (uN x) / nI d * nI d = nI (uN x % d) := by
  have := uN_lt x
  exact pk_rem (by omega) h0 (by omega)
def sd1 (s : Int32) : Int32 := (1103515245 : Int32) * s + (12345 : Int32)
def yS (s : Int32) : Nat → Int32
  | 0 => s
  | k + 1 => sd1 (sd1 (sd1 (yS s k)))
noncomputable def yk (s : Int32) (k : Nat) : Int32 := nI (uN (sd1 (yS s k)) % 2)
noncomputable def yn (s : Int32) (k : Nat) : Nat := uN (sd1 (sd1 (yS s k))) % 24
noncomputable def yf (s : Int32) (k : Nat) : Int32 := nI (uN (sd1 (sd1 (sd1 (yS s k)))) % 6)
theorem yk_2 (s : Int32) (k : Nat) : yk s k = 0 ∨ yk s k = 1 := by
  unfold yk
  rcases (show uN (sd1 (yS s k)) % 2 = 0 ∨ uN (sd1 (yS s k)) % 2 = 1 by omega) with e | e
  · rw [e]; exact Or.inl rfl
  · rw [e]; exact Or.inr rfl
theorem yn_24 (s : Int32) (k : Nat) : yn s k < 24 := by
  unfold yn; omega
theorem seed_eq (σ : Sg) (s : Int32) : f_X9_nextSeed σ s = some (sd1 s, σ) := rfl
theorem upper_eq (σ : Sg) (s : Int32) : f_X9_upperBits σ s = some (nI (uN s), σ) := by
  unfold f_X9_upperBits
  rw [uN_eq]
theorem ord_0 (en : Nat → Nat) : ordL 0 en = [] := by
  have h := ord_len (n := 0) (en := en) (fun e he => absurd he (Nat.not_lt_zero _))
  exact List.eq_nil_of_length_eq_zero h
theorem draw_ok {σ : Sg} (s : Int32) {N : Nat} (hN : N ≤ 8) : Ret (f_X9_drawEvents σ s (nI N)) (fun _ σ' => (∀ c, (c < 19 ∨ 23 < c) → σ' c = σ c) ∧ EOK σ' 19 N (yk s) (yf s) (yn s)) := by
  unfold f_X9_drawEvents
  rw [amlet_eq]
  refine i_X9_drawEvents_l13 N (fun i σ2 x2 x3 x4 => x2 = nI N ∧ x3 = yS s i ∧ x4 = nI i ∧ (∀ c, (c < 19 ∨ 23 < c) → σ2 c = σ c) ∧ EOK σ2 19 i (yk s) (yf s) (yn s)) (fun σ2 x2 x3 x4 r => Ret r _) ?_ 300 0 (by omega) (by omega) _ (nI N) s 0 ⟨rfl, rfl, rfl, fun c hc => up2_off (by omega), by omega, by rw [up2_at, upd_at]; rfl, fun e he => absurd he (Nat.not_lt_zero _), fun k e he => by rw [ord_0] at he; simp at he⟩
  intro i k σ2 x2 x3 x4 hi hI ih
  obtain ⟨rfl, rfl, rfl, h1, h2⟩ := hI
  unfold f_X9_drawEvents_b13
  rcases Nat.lt_or_ge i N with hlt | hge
  · rw [at_go hlt (by omega), seed_eq, bnd_some, upper_eq, bnd_some, amlet_eq, n_lit 2, u_rem _ (by omega) (by omega), seed_eq, bnd_some, upper_eq, bnd_some, amlet_eq, n_lit 24, u_rem _ (by omega) (by omega), seed_eq, bnd_some, upper_eq, bnd_some, amlet_eq, n_lit 6, u_rem _ (by omega) (by omega)]
    obtain ⟨u, σ3, e, a1, a2⟩ := add_ok h2 (by omega) (kd := yk s i) (fur := yf s i) (t := yn s i) (yk_2 s i) (yn_24 s i)
    have e' : f_X1_add 19 σ2 (nI (uN (sd1 (yS s i)) % 2)) (nI (uN (sd1 (sd1 (yS s i))) % 24)) (nI (uN (sd1 (sd1 (sd1 (yS s i)))) % 6)) = some (u, σ3) := e
    rw [e', bnd_some, amlet_eq, nI_1]
    refine ih _ _ _ _ hlt ⟨rfl, rfl, rfl, fun c hc => by rw [a1 c (by omega)]; exact h1 c hc, a2.congr fun e he => ?_⟩
    by_cases q : e = i
    · subst q
      rw [upd_at, upd_at, updn_at]
      exact ⟨rfl, rfl, rfl⟩
    · rw [upd_off q, upd_off q, updn_off q]
      exact ⟨rfl, rfl, rfl⟩
  · have e : i = N := by omega
    subst e
    rw [at_end (Nat.le_refl _) (by omega)]
    exact ret_some.mpr ⟨h1, h2⟩
noncomputable def vYe (D : Sg) (p q : Nat) (s : Int32) (N : Nat) (a : Int32) : Int32 := if a = 0 then mtS (RN D p q N (yk s) (yf s) (yn s) selT 24).2.2.1 q else (RN D p q N (yk s) (yf s) (yn s) selT 24).2.1
theorem years_x {D : Sg} {p q n0 n1 n m : Nat} {ek ef : Nat → Int32} {en : Nat → Nat} {σ : Sg} (h : XI D p q n0 n1 n m ek ef en σ) (s : Int32) {N : Nat} (hN : N < 9) {a : Int32} (ha : 0 ≤ a ∧ a < 2) : XV D p q n0 n1 n m ek ef en (f_X9_years σ s (nI N) a) (vYe D p q s N a) := by
  have hp8 := h.1.sizes
  unfold f_X9_years
  rw [isBelow_eq, bnd_some, one_if, if_pos (show 0 ≤ nI N ∧ nI N < (9 : Int32) from of_below (N := 9) hN (by omega)), isBelow_eq, bnd_some, one_if, if_pos ha]
  obtain ⟨u, σ2, e1, a1, a2⟩ := draw_ok (σ := σ) s (N := N) (by omega)
  rw [e1, bnd_some]
  obtain ⟨u, σ4, e2, b1, b2⟩ := run_hc (c0 := 35) h.dok (fun c g1 g2 => by rw [a1 c (by omega)]; exact h.sd c g1 g2) a2 (by omega) (by omega) (-1)
  rw [e2, bnd_some]
  have hH : HC D p q N (yk s) (yf s) (yn s) selT σ4 35 := b2.sel fun e he => selI_T e (by omega)
  have hX : XI D p q n0 n1 n m ek ef en σ4 := h.fr (fun c hc => by rw [b1 c (by omega), a1 c (by omega)])
  unfold vYe
  by_cases h0 : a = 0
  · rw [if_pos h0, if_pos h0, howManyMet_ok hp8.2 hX.h10 (fun k hk => hH.1.2.2.1 k hk), bnd_some]
    exact xv_some hX
  · rw [if_neg h0, if_neg h0, hH.1.2.1]
    exact xv_some hX
theorem years_m {D : Sg} {p q n0 n1 n m : Nat} {ek ef : Nat → Int32} {en : Nat → Nat} {τ : Sg} (h : MI D p q n0 n1 n m ek ef en τ) (s : Int32) {N : Nat} (hN : N < 9) (a : Int32) : MV D p q n0 n1 n m ek ef en (f_X10_yearsOf τ s (nI N) a) (vYe D p q s N a) := by
  have hp8 := h.1.sizes
  unfold f_X10_yearsOf
  obtain ⟨u, τ1, e1, hM1, hG1, hE1, h19⟩ := asTold_m h
  rw [e1, bnd_some, amlet_eq]
  refine i_X10_yearsOf_l15 N (fun i σ2 x2 x3 x4 x5 => x2 = nI N ∧ x3 = a ∧ x4 = yS s i ∧ x5 = nI i ∧ (∀ c, c ≠ 0 → (c < 13 ∨ 15 < c) → σ2 c = τ1 c) ∧ (∀ k, k ≠ 15 → σ2 0 k = τ1 0 k) ∧ σ2 0 15 = nI N ∧ ∀ e, e < i → σ2 13 e = yk s e ∧ σ2 14 e = nI (yn s e) ∧ σ2 15 e = yf s e) (fun σ2 x2 x3 x4 x5 r => MV D p q n0 n1 n m ek ef en r _) ?_ 300 0 (by omega) (by omega) _ (nI N) a s 0 ⟨rfl, rfl, rfl, rfl, fun c g1 g2 => up2_off g1, fun k hk => by rw [up2_at, upd_off hk], by rw [up2_at, upd_at], fun e he => absurd he (Nat.not_lt_zero _)⟩
  intro i k σ2 x2 x3 x4 x5 hi hI ih
  obtain ⟨rfl, rfl, rfl, rfl, c1, c2, c3, c4⟩ := hI
  unfold f_X10_yearsOf_b15
  rcases Nat.lt_or_ge i N with hlt | hge
  · rw [at_go hlt (by omega)]
    have s1 : ∀ x : Int32, (1103515245 : Int32) * x + (12345 : Int32) = sd1 x := fun x => rfl
    simp only [amlet_eq, s1, uN_eq, gd_in (show i < 9 by omega) (show 9 < 2 ^ 31 by omega), cl_nI (show i < 2147483648 by omega), nI_1]
    rw [n_lit 2, u_rem _ (by omega) (by omega), n_lit 24, u_rem _ (by omega) (by omega), n_lit 6, u_rem _ (by omega) (by omega)]
    refine ih _ _ _ _ _ hlt ⟨rfl, rfl, rfl, rfl, fun c g1 g2 => by rw [up2_off (by omega), up2_off (by omega), up2_off (by omega)]; exact c1 c g1 g2, fun k hk => by rw [up2_off (by omega), up2_off (by omega), up2_off (by omega)]; exact c2 k hk, by rw [up2_off (by omega), up2_off (by omega), up2_off (by omega)]; exact c3, fun e he => ?_⟩
    simp only [up2_off (show (13 : Nat) ≠ 15 by omega), up2_off (show (13 : Nat) ≠ 14 by omega), up2_off (show (14 : Nat) ≠ 15 by omega), up2_off (show (14 : Nat) ≠ 13 by omega), up2_off (show (15 : Nat) ≠ 14 by omega), up2_off (show (15 : Nat) ≠ 13 by omega), up2_at]
    by_cases q : e = i
    · subst q
      rw [upd_at, upd_at, upd_at]
      exact ⟨rfl, rfl, rfl⟩
    · rw [upd_off q, upd_off q, upd_off q]; exact c4 e (by omega)
  · have e : i = N := by omega
    subst e
    rw [at_end (Nat.le_refl _) (by omega)]
    have hM : MI D p q n0 n1 n m ek ef en σ2 := hM1.fr (fun c hc => c1 c (by omega) (by omega)) (fun k hk => c2 k (by omega))
    have hG : MG D σ2 p q := hG1.move (fun k hk => c2 k (by omega)) (fun c g1 g2 => c1 c (by omega) (by omega))
    have hE : EM σ2 i (yk s) (yf s) (yn s) := ⟨by omega, c3, fun e he => by
      obtain ⟨d1, d2, d3⟩ := c4 e he
      exact ⟨d1, yk_2 s e, d2, yn_24 s e, d3⟩⟩
    obtain ⟨u, τ2, e2, b1, b2, b3, b4, b5, b6, b7, b8⟩ := runs_m hM hM.1.dok hG hE
    rw [c2 19 (by omega), h19, RN_selF (sel' := selT) (fun e he => selM_T e (by omega))] at b7
    rw [e2, bnd_some]
    unfold vYe
    by_cases h0 : x3 = 0
    · rw [if_pos h0, if_pos h0, metNow_ok hp8.2 b2.2.1 b7.2.2.1, bnd_some]
      exact mv_some b1 b2
    · rw [if_neg h0, if_neg h0, b7.2.1]
      exact mv_some b1 b2
theorem ag_years {D : Sg} {p q n0 n1 n m : Nat} {ek ef : Nat → Int32} {en : Nat → Nat} {σ τ : Sg} (h : XI D p q n0 n1 n m ek ef en σ) (g : MI D p q n0 n1 n m ek ef en τ) (a1 a2 a3 : Int32) : Agr (f_X9_years σ a1 a2 a3) (f_X10_years τ a1 a2 a3) := by
  have e8 : (0 ≤ a2 ∧ a2 ≤ (8 : Int32)) = (0 ≤ a2 ∧ a2 < 9) := by
    rw [n_lit 8, up_to a2 8 (by omega)]
    rfl
  have ref : (¬ ((0 ≤ a2 ∧ a2 < 9) ∧ (0 ≤ a3 ∧ a3 < 2))) → XV D p q n0 n1 n m ek ef en (f_X9_years σ a1 a2 a3) (-2) := fun hno => by
    unfold f_X9_years
    rw [isBelow_eq, bnd_some, one_if]
    by_cases h1 : 0 ≤ a2 ∧ a2 < 9
    · rw [if_pos h1, isBelow_eq, bnd_some, one_if, if_neg (fun q => hno ⟨h1, q⟩)]; exact xv_some h
    · rw [if_neg h1]; exact xv_some h
  unfold f_X10_years
  rw [in_eq, bnd_some, one_if]
  by_cases h1 : 0 ≤ a2 ∧ a2 < 9
  rotate_left
  · rw [if_neg (by rw [e8]; exact h1)]; exact agr_of (ref fun q => h1 q.1) (mu_some g)
  rw [if_pos (by rw [e8]; exact h1), isTwo_eq, bnd_some, one_if]
  by_cases h3 : 0 ≤ a3 ∧ a3 < 2
  rotate_left
  · rw [if_neg h3]; exact agr_of (ref fun q => h3 q.2) (mu_some g)
  rw [if_pos h3]
  obtain ⟨N, hN, rfl⟩ := below_of (N := 9) (by omega) h1
  exact agr_of (years_x h a1 hN h3) (mu_id (years_m g a1 hN a3).u)
