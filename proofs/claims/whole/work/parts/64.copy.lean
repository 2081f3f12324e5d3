/-! copy, write, read -/
theorem span_of {a n : Int32} {z : Nat} (hz : z ≤ 60) : (¬ a < 0 ∧ ¬ n < 0 ∧ lg_cmp (a.toInt64 + n.toInt64) ((nI z).toInt64) ≤ 0) ↔ ∃ i k, i + k ≤ z ∧ a = nI i ∧ n = nI k := by
  constructor
  · rintro ⟨h1, h2, h3⟩
    obtain ⟨i, hi, rfl⟩ := nI_of h1
    obtain ⟨k, hk, rfl⟩ := nI_of h2
    rw [nI_l hi, nI_l hk, nI_l (by omega), lN_add, lg_cmp_le, pk_lLE (by omega) (by omega)] at h3
    exact ⟨i, k, h3, rfl, rfl⟩
  · rintro ⟨i, k, h, rfl, rfl⟩
    refine ⟨nI_pos (by omega), nI_pos (by omega), ?_⟩
    rw [nI_l (by omega), nI_l (by omega), nI_l (by omega), lN_add, lg_cmp_le, pk_lLE (by omega) (by omega)]
    exact h
theorem hasSpan_ok {σ : Sg} {c0 z : Nat} (hz : z ≤ 60) (e : σ c0 2 = nI z) (a n : Int32) : ∃ v : Int32, f_X6_hasSpan c0 σ a n = some (v, σ) ∧ ((v = 1 ∧ ∃ i k, i + k ≤ z ∧ a = nI i ∧ n = nI k) ∨ (v = 0 ∧ ¬ ∃ i k, i + k ≤ z ∧ a = nI i ∧ n = nI k)) := by
  unfold f_X6_hasSpan
  rw [e]
  by_cases h1 : a < 0
  · rw [if_pos h1]
    exact ⟨0, rfl, Or.inr ⟨rfl, fun ⟨i, k, q1, q2, q3⟩ => by rw [q2] at h1; exact nI_pos (by omega) h1⟩⟩
  rw [if_neg h1]
  by_cases h2 : n < 0
  · rw [if_pos h2]
    exact ⟨0, rfl, Or.inr ⟨rfl, fun ⟨i, k, q1, q2, q3⟩ => by rw [q3] at h2; exact nI_pos (by omega) h2⟩⟩
  rw [if_neg h2]
  obtain ⟨i, hi, rfl⟩ := nI_of h1
  obtain ⟨k, hk, rfl⟩ := nI_of h2
  by_cases h3 : z < k
  · rw [if_pos (by rw [p_lt (by omega) hk]; exact h3)]
    exact ⟨0, rfl, Or.inr ⟨rfl, fun ⟨i', k', q1, q2, q3⟩ => by have := nI_inj hk (by omega) q3; omega⟩⟩
  rw [if_neg (by rw [p_lt (by omega) hk]; exact h3), pk_sub (by omega)]
  by_cases h4 : z - k < i
  · rw [if_pos (by rw [p_lt (by omega) hi]; exact h4)]
    exact ⟨0, rfl, Or.inr ⟨rfl, fun ⟨i', k', q1, q2, q3⟩ => by
      have := nI_inj hk (by omega) q3
      have := nI_inj hi (by omega) q2
      omega⟩⟩
  · rw [if_neg (by rw [p_lt (by omega) hi]; exact h4)]
    exact ⟨1, rfl, Or.inl ⟨rfl, i, k, by omega, rfl, rfl⟩⟩
theorem moved_ok (τ : Sg) {s i t j k : Nat} (hs : s < 4) (ht : t < 4) (hi : i + k ≤ 60) (hj : j + k ≤ 60) : Ret (f_X10_copy_l120 300 τ (nI s) (nI i) (nI t) (nI j) (nI k) (0 : Int32)) (fun r τ' => r = 1 ∧ (∀ c, c ≠ 30 → c ≠ 31 → τ' c = τ c) ∧ (∀ x, x < k → τ' 30 (60 * t + j + x) = τ 30 (60 * s + i + x)) ∧ ∀ x, (x < 60 * t + j ∨ 60 * t + j + k ≤ x) → τ' 30 x = τ 30 x) := by
  have two : ∀ τ1 : Sg, (∀ c, c ≠ 31 → τ1 c = τ c) → (∀ x, x < k → τ1 31 x = τ 30 (60 * s + i + x)) → Ret (f_X10_copy_l157 300 τ1 (nI t) (nI j) (nI k) (0 : Int32)) (fun r τ' => r = 1 ∧ (∀ c, c ≠ 30 → c ≠ 31 → τ' c = τ c) ∧ (∀ x, x < k → τ' 30 (60 * t + j + x) = τ 30 (60 * s + i + x)) ∧ ∀ x, (x < 60 * t + j ∨ 60 * t + j + k ≤ x) → τ' 30 x = τ 30 x) := by
    intro τ1 a1 a2
    refine i_X10_copy_l157 k (fun y σ2 x3 x4 x5 x6 => x3 = nI t ∧ x4 = nI j ∧ x5 = nI k ∧ x6 = nI y ∧ (∀ c, c ≠ 30 → σ2 c = τ1 c) ∧ (∀ x, x < y → σ2 30 (60 * t + j + x) = τ 30 (60 * s + i + x)) ∧ ∀ x, (x < 60 * t + j ∨ 60 * t + j + k ≤ x) → σ2 30 x = τ 30 x) (fun σ2 x3 x4 x5 x6 r => Ret r _) ?_ 300 0 (by omega) (by omega) τ1 (nI t) (nI j) (nI k) 0 ⟨rfl, rfl, rfl, rfl, fun _ _ => rfl, fun x hx => absurd hx (Nat.not_lt_zero _), fun x _ => by rw [a1 30 (by omega)]⟩
    intro y kk σ2 x3 x4 x5 x6 hy hI ih
    obtain ⟨rfl, rfl, rfl, rfl, b1, b2, b3⟩ := hI
    unfold f_X10_copy_b157
    rcases Nat.lt_or_ge y k with hlt | hge
    · rw [at_go hlt (by omega), n_lit 60, pk_mul, nI_add, nI_add, gd_in (show y < 60 by omega) (by omega), gd_in (show 60 * t + j + y < 240 by omega) (by omega), cl_nI (show 60 * t + j + y < 2147483648 by omega), cl_nI (show y < 2147483648 by omega), b1 31 (by omega), a2 y hlt]
      simp only [amlet_eq, nI_1]
      refine ih _ _ _ _ _ hlt ⟨rfl, rfl, rfl, rfl, fun c hc => by rw [up2_off hc]; exact b1 c hc, fun x hx => ?_, fun x hx => ?_⟩
      · rw [up2_at]
        by_cases e : x = y
        · subst e; rw [upd_at]
        · rw [upd_off (by omega)]; exact b2 x (by omega)
      · rw [up2_at, upd_off (by omega)]; exact b3 x hx
    · have e : y = k := by omega
      subst e
      rw [at_end (Nat.le_refl _) (by omega)]
      exact ret_some.mpr ⟨rfl, fun c g1 g2 => by rw [b1 c g1, a1 c g2], b2, b3⟩
  refine i_X10_copy_l120 k (fun y σ2 x1 x2 x3 x4 x5 x6 => x1 = nI s ∧ x2 = nI i ∧ x3 = nI t ∧ x4 = nI j ∧ x5 = nI k ∧ x6 = nI y ∧ (∀ c, c ≠ 31 → σ2 c = τ c) ∧ ∀ x, x < y → σ2 31 x = τ 30 (60 * s + i + x)) (fun σ2 x1 x2 x3 x4 x5 x6 r => Ret r _) ?_ 300 0 (by omega) (by omega) τ (nI s) (nI i) (nI t) (nI j) (nI k) 0 ⟨rfl, rfl, rfl, rfl, rfl, rfl, fun _ _ => rfl, fun x hx => absurd hx (Nat.not_lt_zero _)⟩
  intro y kk σ2 x1 x2 x3 x4 x5 x6 hy hI ih
  obtain ⟨rfl, rfl, rfl, rfl, rfl, rfl, b1, b2⟩ := hI
  unfold f_X10_copy_b120
  rcases Nat.lt_or_ge y k with hlt | hge
  · rw [at_go hlt (by omega), n_lit 60, pk_mul, nI_add, nI_add, gd_in (show 60 * s + i + y < 240 by omega) (by omega), gd_in (show y < 60 by omega) (by omega), cl_nI (show 60 * s + i + y < 2147483648 by omega), cl_nI (show y < 2147483648 by omega), b1 30 (by omega), amlet_eq, amlet_eq, nI_1]
    refine ih _ _ _ _ _ _ _ hlt ⟨rfl, rfl, rfl, rfl, rfl, rfl, fun c hc => by rw [up2_off hc]; exact b1 c hc, fun x hx => ?_⟩
    rw [up2_at]
    by_cases e : x = y
    · subst e; rw [upd_at]
    · rw [upd_off e]; exact b2 x (by omega)
  · have e : y = k := by omega
    subst e
    rw [at_end (Nat.le_refl _) (by omega)]
    exact two σ2 b1 b2
theorem cp2_at (σ : Sg) (c0 s0 c1 d0 n x : Nat) : cp2 σ c0 s0 c1 d0 n c1 x = if d0 ≤ x ∧ x < d0 + n then σ c0 (s0 + (x - d0)) else σ c1 x := by
  unfold cp2
  rw [if_pos rfl]
  rfl
theorem cp2_off {σ : Sg} {c0 s0 c1 d0 n c : Nat} (h : c ≠ c1) : cp2 σ c0 s0 c1 d0 n c = σ c := by
  unfold cp2
  rw [if_neg h]
theorem ag_copy {D : Sg} {p q n0 n1 n m : Nat} {ek ef : Nat → Int32} {en : Nat → Nat} {σ τ : Sg} (h : XI D p q n0 n1 n m ek ef en σ) (g : MI D p q n0 n1 n m ek ef en τ) (a1 a2 a3 a4 a5 : Int32) : Agr (f_X9_copy σ a1 a2 a3 a4 a5) (f_X10_copy τ a1 a2 a3 a4 a5) := by
  unfold f_X9_copy f_X10_copy f_X9_copy_b53 f_X9_copy_b101 f_X10_copy_b35 f_X10_copy_b111
  rw [isBelow_eq, isSheet_eq, bnd_some, bnd_some, one_if, one_if]
  by_cases h1 : 0 ≤ a1 ∧ a1 < 4
  rotate_left
  · rw [if_neg h1, if_neg h1]; exact agr_of (xv_some h) (mu_some g)
  rw [if_pos h1, if_pos h1, isBelow_eq, isSheet_eq, bnd_some, bnd_some, one_if, one_if]
  by_cases h3 : 0 ≤ a3 ∧ a3 < 4
  rotate_left
  · rw [if_neg h3, if_neg h3]; exact agr_of (xv_some h) (mu_some g)
  rw [if_pos h3, if_pos h3]
  obtain ⟨s, hs, rfl⟩ := below_of (N := 4) (by omega) h1
  obtain ⟨t, ht, rfl⟩ := below_of (N := 4) (by omega) h3
  have cs := cl_nI (show s < 2147483648 by omega)
  have ct := cl_nI (show t < 2147483648 by omega)
  rw [gd_in hs (by omega), amlet_eq, cs, gd_true (isX6_s s hs), gd_in ht (by omega), amlet_eq, ct, gd_true (isX6_s t ht), gd_in hs (by omega)]
  rcases link_sh h g s hs with ⟨q1, q2⟩ | ⟨q1, q2, q3, q4, q5⟩
  · rw [if_pos q1, if_pos q2, find_eq, meets_eq, bnd_some, bnd_some]
    exact ag_find h g 1 _
  rw [if_neg q1, if_neg (show ¬ τ 27 s = 0 by rw [q2]; decide), gd_in ht (by omega)]
  rcases link_sh h g t ht with ⟨r1, r2⟩ | ⟨r1, r2, r3, r4, r5⟩
  · rw [if_pos r1, if_pos r2, find_eq, meets_eq, bnd_some, bnd_some]
    exact ag_find h g 1 _
  rw [if_neg r1, if_neg (show ¬ τ 27 t = 0 by rw [r2]; decide), gd_in hs (by omega), gd_in ht (by omega), q3, r3]
  by_cases hf : σ (46 + 2 * s) 1 = σ (46 + 2 * t) 1
  rotate_left
  · rw [if_neg hf, if_neg hf, find_eq, meets_eq, bnd_some, bnd_some]
    exact ag_find h g 4 _
  rw [if_pos hf, if_pos hf]
  obtain ⟨z, hz, ez⟩ := (h.sh s hs).2
  obtain ⟨y, hy, ey⟩ := (h.sh t ht).2
  have bad : ¬ ((∃ i k, i + k ≤ z ∧ a2 = nI i ∧ a5 = nI k) ∧ ∃ i k, i + k ≤ y ∧ a4 = nI i ∧ a5 = nI k) → (if a2 < 0 then bnd (f_X10_meets τ (2 : Int32)) (fun r1 σ2 => some (r1, σ2)) else (if a4 < 0 then bnd (f_X10_meets τ (2 : Int32)) (fun r1 σ2 => some (r1, σ2)) else (if a5 < 0 then bnd (f_X10_meets τ (2 : Int32)) (fun r1 σ2 => some (r1, σ2)) else gd (inB (nI s) 4) ((if 0 < (lg_cmp ((a2).toInt64 + (a5).toInt64) ((nI z).toInt64)) then bnd (f_X10_meets τ (2 : Int32)) (fun r1 σ2 => some (r1, σ2)) else gd (inB (nI t) 4) ((if (lg_cmp ((a4).toInt64 + (a5).toInt64) ((nI y).toInt64)) ≤ 0 then (f_X10_copy_l120 300 τ (nI s) a2 (nI t) a4 a5 (0 : Int32)) else bnd (f_X10_meets τ (2 : Int32)) (fun r1 σ2 => some (r1, σ2)))))))))  = some (-10 - 2, up2 τ 0 41 2) := by
    intro hno
    by_cases w1 : a2 < 0
    · rw [if_pos w1]; rfl
    rw [if_neg w1]
    by_cases w2 : a4 < 0
    · rw [if_pos w2]; rfl
    rw [if_neg w2]
    by_cases w3 : a5 < 0
    · rw [if_pos w3]; rfl
    rw [if_neg w3, gd_in hs (by omega)]
    by_cases w4 : 0 < lg_cmp (a2.toInt64 + a5.toInt64) ((nI z).toInt64)
    · rw [if_pos w4]; rfl
    rw [if_neg w4, gd_in ht (by omega)]
    by_cases w5 : lg_cmp (a4.toInt64 + a5.toInt64) ((nI y).toInt64) ≤ 0
    · exact absurd ⟨(span_of hz).mp ⟨w1, w3, by grind⟩, (span_of hy).mp ⟨w2, w3, w5⟩⟩ hno
    · rw [if_neg w5]; rfl
  rw [q4, r4, ez, ey]
  obtain ⟨v, e1, hv⟩ := hasSpan_ok hz ez a2 a5
  rw [e1, bnd_some]
  rcases hv with ⟨rfl, hg1⟩ | ⟨rfl, hno⟩
  rotate_left
  · rw [if_pos rfl, find_eq, bnd_some, bad fun q => hno q.1]
    exact ag_find h g 2 _
  rw [if_neg (by decide)]
  obtain ⟨v, e2, hv⟩ := hasSpan_ok hy ey a4 a5
  rw [e2, bnd_some]
  rcases hv with ⟨rfl, hg2⟩ | ⟨rfl, hno⟩
  rotate_left
  · rw [if_pos rfl, find_eq, bnd_some, bad fun q => hno q.2]
    exact ag_find h g 2 _
  have s1 := (span_of (n := a5) hz).mpr hg1
  have s2 := (span_of (n := a5) hy).mpr hg2
  rw [if_neg (by decide), if_neg s1.1, if_neg s2.1, if_neg s1.2.1, gd_in hs (by omega), if_neg (by have := s1.2.2; grind), gd_in ht (by omega), if_pos s2.2.2]
  obtain ⟨i, k, hik, rfl, rfl⟩ := hg1
  obtain ⟨j, k', hjk, rfl, ek⟩ := hg2
  have ekk := nI_inj (by omega) (by omega) ek
  subst ekk
  have ci := cl_nI (show i < 2147483648 by omega)
  have cj := cl_nI (show j < 2147483648 by omega)
  have ck := cl_nI (show k < 2147483648 by omega)
  rw [ci, cj, ck, gd_true (decide_eq_true ⟨nI_pos (by omega), nI_pos (by omega), nI_pos (by omega), by omega, by omega⟩), amlet_eq]
  obtain ⟨r, τ', e3, er, c1, c2, c3⟩ := moved_ok τ hs ht (show i + k ≤ 60 by omega) (show j + k ≤ 60 by omega)
  rw [e3, er]
  refine ⟨1, _, τ', rfl, rfl, inv_sheets h g (fun c g1 g2 => cp2_off (by omega)) (fun k hk => by rw [cp2_off (by omega)]) (fun s' hs' => ?_) (fun c hc => c1 c (by omega) (by omega)) (fun k hk => by rw [c1 0 (by omega) (by omega)]) (by rw [c1 0 (by omega) (by omega), cp2_off (by omega)]; exact link_fd h g) (fun s' hs' => ?_)⟩
  · rw [cp2_off (show 46 + 2 * s' ≠ 46 + 2 * t + 1 by omega)]
    exact h.sh s' hs'
  · rw [cp2_off (show 46 + 2 * s' ≠ 46 + 2 * t + 1 by omega), c1 27 (by omega) (by omega), c1 28 (by omega) (by omega), c1 29 (by omega) (by omega)]
    rcases link_sh h g s' hs' with w | ⟨w1, w2, w3, w4, w5⟩
    · exact Or.inl w
    · refine Or.inr ⟨w1, w2, w3, w4, fun x hx => ?_⟩
      by_cases e : s' = t
      · subst e
        rw [show 47 + 2 * s' = 46 + 2 * s' + 1 by omega, cp2_at]
        by_cases hx2 : j ≤ x ∧ x < j + k
        · rw [if_pos hx2, show 60 * s' + x = 60 * s' + j + (x - j) by omega, c2 _ (by omega), show 60 * s + i + (x - j) = 60 * s + (i + (x - j)) by omega, q5 _ (by omega), show 47 + 2 * s = 46 + 2 * s + 1 by omega]
        · rw [if_neg hx2, c3 _ (by omega), show 46 + 2 * s' + 1 = 47 + 2 * s' by omega]
          exact w5 x hx
      · rw [cp2_off (by omega), c3 _ (by omega)]
        exact w5 x hx
/-- write -/
theorem write_x {D : Sg} {p q n0 n1 n m : Nat} {ek ef : Nat → Int32} {en : Nat → Nat} {σ : Sg} (h : XI D p q n0 n1 n m ek ef en σ) (hc : HC D p q n ek ef en selT σ 28) {s k z : Nat} (hs : s < 4) (hz : z ≤ 60) (ez : σ (46 + 2 * s) 2 = nI z) {N : Nat} (hN : N ≤ 24) (hNz : N ≤ z) : Ret (f_X9_write_l66 300 σ (nI k) (46 + 2 * s) (nI N) (0 : Int32)) (fun r σ' => r = nI N ∧ (∀ c, c ≠ 46 + 2 * s + 1 → σ' c = σ c) ∧ ∀ x, σ' (46 + 2 * s + 1) x = if x < N then nar (σ (46 + 2 * s) 1) (wantR D q (nI x) (RN D p q n ek ef en selT (x + 1)) k) else σ (46 + 2 * s + 1) x) := by
  refine i_X9_write_l66 N (fun i σ2 x1 x3 x5 x6 => x1 = nI k ∧ x3 = 46 + 2 * s ∧ x5 = nI N ∧ x6 = nI i ∧ (∀ c, c ≠ 46 + 2 * s + 1 → σ2 c = σ c) ∧ ∀ x, σ2 (46 + 2 * s + 1) x = if x < i then nar (σ (46 + 2 * s) 1) (wantR D q (nI x) (RN D p q n ek ef en selT (x + 1)) k) else σ (46 + 2 * s + 1) x) (fun σ2 x1 x3 x5 x6 r => Ret r _) ?_ 300 0 (by omega) (by omega) σ (nI k) (46 + 2 * s) (nI N) 0 ⟨rfl, rfl, rfl, rfl, fun _ _ => rfl, fun x => (if_neg (Nat.not_lt_zero _)).symm⟩
  intro i kk σ2 x1 x3 x5 x6 hi hI ih
  obtain ⟨rfl, rfl, rfl, rfl, b1, b2⟩ := hI
  unfold f_X9_write_b66
  rcases Nat.lt_or_ge i N with hlt | hge
  · rw [at_go hlt (by omega), wantedBehind_ok h.dok (fun c g1 g2 => by rw [b1 c (by omega)]; exact h.sd c g1 g2) (hc.move fun c g1 g2 => b1 c (by omega)) (show i < 24 by omega), bnd_some, setItem_eq hz (show i < z by omega) (by rw [b1 _ (by omega)]; exact ez), bnd_some, amlet_eq, nI_1, b1 (46 + 2 * s) (by omega)]
    refine ih _ _ _ _ _ hlt ⟨rfl, rfl, rfl, rfl, fun c hc => by rw [up2_off hc]; exact b1 c hc, fun x => ?_⟩
    rw [up2_at]
    by_cases e : x = i
    · subst e
      rw [upd_at, if_pos (by omega)]
      rfl
    · rw [upd_off e, b2 x]
      by_cases e2 : x < i
      · rw [if_pos e2, if_pos (by omega)]
      · rw [if_neg e2, if_neg (by omega)]
  · have e : i = N := by omega
    subst e
    rw [at_end (Nat.le_refl _) (by omega)]
    exact ret_some.mpr ⟨rfl, b1, b2⟩
theorem write_m {D : Sg} {p q n0 n1 n m : Nat} {ek ef : Nat → Int32} {en : Nat → Nat} {τ : Sg} (h : RT D p q n0 n1 n m ek ef en τ) {s k z : Nat} (hs : s < 4) (hz : z ≤ 60) (ez : τ 29 s = nI z) (hk : k < p) {N : Nat} (hN : N = if 24 < z then 24 else z) : Ret (f_X10_write_l39 300 τ (nI k) (nI s) (0 : Int32)) (fun r τ' => r = nI N ∧ (∀ c, c ≠ 30 → τ' c = τ c) ∧ ∀ x, τ' 30 x = if 60 * s ≤ x ∧ x < 60 * s + N then nar (τ 28 s) (wantR D q (nI (x - 60 * s)) (RN D p q n ek ef en selT (x - 60 * s + 1)) k) else τ 30 x) := by
  have hp8 := h.1.1.sizes
  have hN2 : N ≤ 24 ∧ N ≤ z ∧ (N = 24 ∨ N = z) := by
    by_cases q : 24 < z
    · rw [if_pos q] at hN; omega
    · rw [if_neg q] at hN; omega
  refine i_X10_write_l39 N (fun i σ2 x1 x2 x3 => x1 = nI k ∧ x2 = nI s ∧ x3 = nI i ∧ (∀ c, c ≠ 30 → σ2 c = τ c) ∧ ∀ x, σ2 30 x = if 60 * s ≤ x ∧ x < 60 * s + i then nar (τ 28 s) (wantR D q (nI (x - 60 * s)) (RN D p q n ek ef en selT (x - 60 * s + 1)) k) else τ 30 x) (fun σ2 x1 x2 x3 r => Ret r _) ?_ 300 0 (by omega) (by omega) τ (nI k) (nI s) 0 ⟨rfl, rfl, rfl, fun _ _ => rfl, fun x => (if_neg (by omega)).symm⟩
  intro i kk σ2 x1 x2 x3 hi hI ih
  obtain ⟨rfl, rfl, rfl, b1, b2⟩ := hI
  unfold f_X10_write_b39
  rw [gd_in hs (by omega), cl_nI (show s < 2147483648 by omega), b1 29 (by omega), ez]
  rcases Nat.lt_or_ge i N with hlt | hge
  · obtain ⟨m1, m2⟩ := (h.2.2.2 i (by omega)).2.2 k hk
    rw [at_go (show i < z by omega) (by omega), n_lit 24, at_go (show i < 24 by omega) (by omega), n_lit 8, pk_mul, nI_add, gd_in (show 8 * i + k < 192 by omega) (by omega), cl_nI (show 8 * i + k < 2147483648 by omega), b1 18 (by omega), m1, keep_eq hs (by omega), bnd_some, amlet_eq, nI_1, b1 28 (by omega)]
    refine ih _ _ _ _ hlt ⟨rfl, rfl, rfl, fun c hc => by rw [up2_off hc]; exact b1 c hc, fun x => ?_⟩
    rw [up2_at]
    by_cases e : x = 60 * s + i
    · subst e
      rw [upd_at, if_pos (by omega), show 60 * s + i - 60 * s = i by omega]
    · rw [upd_off e, b2 x]
      by_cases e2 : 60 * s ≤ x ∧ x < 60 * s + i
      · rw [if_pos e2, if_pos (by omega)]
      · rw [if_neg e2, if_neg (by omega)]
  · have e : i = N := by omega
    subst e
    rcases hN2.2.2 with e | e
    · by_cases q : z ≤ i
      · rw [at_end q (by omega)]
        exact ret_some.mpr ⟨rfl, b1, b2⟩
      · rw [at_go (by omega) (by omega), n_lit 24, at_end (by omega) (by omega)]
        exact ret_some.mpr ⟨rfl, b1, b2⟩
    · rw [at_end (by omega) (by omega)]
      exact ret_some.mpr ⟨rfl, b1, b2⟩
theorem ag_write {D : Sg} {p q n0 n1 n m : Nat} {ek ef : Nat → Int32} {en : Nat → Nat} {σ τ : Sg} (h : XI D p q n0 n1 n m ek ef en σ) (g : MI D p q n0 n1 n m ek ef en τ) (a1 a2 : Int32) : Agr (f_X9_write σ a1 a2) (f_X10_write τ a1 a2) := by
  have hp8 := h.1.sizes
  unfold f_X9_write f_X10_write
  obtain ⟨r, τ1, e, g1, -, rfl⟩ := isOne_ok g a1
  rw [e, isBelow_eq, bnd_some, bnd_some, one_if, one_if, h.h5]
  by_cases h1 : 0 ≤ a1 ∧ a1 < nI p
  rotate_left
  · rw [if_neg h1, if_neg h1]; exact agr_of (xv_some h) (mu_some g1)
  rw [if_pos h1, if_pos h1, isBelow_eq, isSheet_eq, bnd_some, bnd_some, one_if, one_if]
  by_cases h2 : 0 ≤ a2 ∧ a2 < 4
  rotate_left
  · rw [if_neg h2, if_neg h2]; exact agr_of (xv_some h) (mu_some g1)
  rw [if_pos h2, if_pos h2]
  obtain ⟨k, hk, rfl⟩ := below_of (N := p) (by omega) h1
  obtain ⟨s, hs, rfl⟩ := below_of (N := 4) (by omega) h2
  have cs := cl_nI (show s < 2147483648 by omega)
  rw [gd_in hs (by omega), amlet_eq, cs, gd_true (isX6_s s hs), gd_in hs (by omega)]
  rcases link_sh h g1 s hs with ⟨q1, q2⟩ | ⟨q1, q2, q3, q4, q5⟩
  · rw [if_pos q1, if_pos q2, find_eq, meets_eq, bnd_some, bnd_some]
    exact ag_find h g1 1 _
  rw [if_neg q1, if_neg (show ¬ τ1 27 s = 0 by rw [q2]; decide)]
  obtain ⟨r, σ2, e2, er, hX, hc⟩ := asTold_x h
  obtain ⟨r2, τ2, e3, hT⟩ := runsTold_m g1
  have g2 := hT.1
  rw [e2, bnd_some, gd28 er, e3, bnd_some, amlet_eq]
  obtain ⟨z, hz, ez⟩ := (hX.sh s hs).2
  rw [ez]
  have f1 : σ (46 + 2 * s) 1 = σ2 (46 + 2 * s) 1 := by rw [h.core (by omega), hX.core (by omega)]
  have q1' : ¬ σ2 (46 + 2 * s) 1 = -1 := by rw [← f1]; exact q1
  obtain ⟨q2, q3, q4, q5⟩ : τ2 27 s = 1 ∧ τ2 28 s = σ2 (46 + 2 * s) 1 ∧ τ2 29 s = σ2 (46 + 2 * s) 2 ∧ ∀ i, i < 60 → τ2 30 (60 * s + i) = σ2 (47 + 2 * s) i := by
    rcases link_sh hX g2 s hs with q | q
    · exact absurd q.1 q1'
    · exact q.2
  have hm : (if (24 : Int32) < nI z then (24 : Int32) else nI z) = nI (if 24 < z then 24 else z) := by
    by_cases q : 24 < z
    · rw [if_pos q, if_pos (show (24 : Int32) < nI z by rw [n_lit 24, p_lt (by omega) (by omega)]; exact q)]
      rfl
    · rw [if_neg q, if_neg (show ¬ (24 : Int32) < nI z by rw [n_lit 24, p_lt (by omega) (by omega)]; exact q)]
  rw [hm]
  generalize hN : (if 24 < z then 24 else z) = N
  have hN2 : N ≤ 24 ∧ N ≤ z := by
    by_cases q : 24 < z
    · rw [if_pos q] at hN; omega
    · rw [if_neg q] at hN; omega
  obtain ⟨r3, σ3, e4, er3, b1, b2⟩ := write_x (k := k) hX hc hs hz ez hN2.1 hN2.2
  obtain ⟨r4, τ3, e5, er4, c1, c2⟩ := write_m (k := k) hT hs hz (by rw [q4, ez]) hk hN.symm
  rw [e4, e5, er3, er4]
  refine ⟨nI N, σ3, τ3, rfl, rfl, inv_sheets hX g2 (fun c w1 w2 => b1 c (by omega)) (fun k hk => by rw [b1 0 (by omega)]) (fun s' hs' => ?_) (fun c hc => c1 c (by omega)) (fun k hk => by rw [c1 0 (by omega)]) (by rw [c1 0 (by omega), b1 0 (by omega)]; exact link_fd hX g2) (fun s' hs' => ?_)⟩
  · rw [b1 (46 + 2 * s') (by omega)]
    exact hX.sh s' hs'
  · rw [b1 (46 + 2 * s') (by omega), c1 27 (by omega), c1 28 (by omega), c1 29 (by omega)]
    rcases link_sh hX g2 s' hs' with w | ⟨w1, w2, w3, w4, w5⟩
    · exact Or.inl w
    · refine Or.inr ⟨w1, w2, w3, w4, fun x hx => ?_⟩
      by_cases e : s' = s
      · subst e
        rw [show 47 + 2 * s' = 46 + 2 * s' + 1 by omega, b2 x, c2, show 60 * s' + x - 60 * s' = x by omega, w3]
        by_cases q : x < N
        · rw [if_pos q, if_pos (by omega)]
        · rw [if_neg q, if_neg (by omega), show 46 + 2 * s' + 1 = 47 + 2 * s' by omega]
          exact w5 x hx
      · rw [b1 (47 + 2 * s') (by omega), c2, if_neg (by omega)]
        exact w5 x hx
/-- read -/
theorem read_both {D : Sg} {p q n0 n1 m s z : Nat} (hs : s < 4) (hz : z ≤ 60) (h1 : ¬ D (46 + 2 * s) 1 = -1) (h2 : D (46 + 2 * s) 2 = nI z) : ∀ (d j N1 N2 : Nat) (n : Nat) (ek ef : Nat → Int32) (en : Nat → Nat) (σ τ : Sg), j + d = 21 → d < N1 → d < N2 → XI D p q n0 n1 n m ek ef en σ → MI D p q n0 n1 n m ek ef en τ → Agr (f_X9_read_l37 N1 σ (46 + 2 * s) (nI j) (nI (3 * j))) (f_X10_read_l32 N2 τ (nI s) (nI j) (nI (60 * s)))
  | d, j, 0, N2, n, ek, ef, en, σ, τ, _, hd, _, _, _ => absurd hd (Nat.not_lt_zero _)
  | d, j, N1 + 1, 0, n, ek, ef, en, σ, τ, _, _, hd, _, _ => absurd hd (Nat.not_lt_zero _)
  | d, j, N1 + 1, N2 + 1, n, ek, ef, en, σ, τ, hj, hd1, hd2, h, g => by
    show Agr (f_X9_read_b37 (f_X9_read_l37 N1) σ (46 + 2 * s) (nI j) (nI (3 * j))) (f_X10_read_b32 (f_X10_read_l32 N2) τ (nI s) (nI j) (nI (60 * s)))
    unfold f_X9_read_b37 f_X10_read_b32
    have e1 : σ (46 + 2 * s) = D (46 + 2 * s) := h.core (by omega)
    obtain ⟨q1, q2, q3, q4, q5⟩ : ¬ D (46 + 2 * s) 1 = -1 ∧ τ 27 s = 1 ∧ τ 28 s = D (46 + 2 * s) 1 ∧ τ 29 s = D (46 + 2 * s) 2 ∧ ∀ i, i < 60 → τ 30 (60 * s + i) = D (47 + 2 * s) i := by
      rcases g.2.2.2.2.2.2.2.2.2.2 s hs with q | q
      · exact absurd q.1 h1
      · exact q
    have m3 : (3 : Int32) * nI j = nI (3 * j) := by rw [n_lit 3, pk_mul]
    rw [gd_in hs (by omega), cl_nI (show s < 2147483648 by omega), e1, q4, h2, m3, nI_2]
    rcases Nat.lt_or_ge (3 * j + 2) z with hlt | hge
    · rw [at_go hlt (by omega), at_go hlt (by omega)]
      simp only [nI_add, nI_1, nI_2]
      rw [gd_in (show 3 * j < 60 by omega) (by omega), gd_in (show 3 * j + 1 < 60 by omega) (by omega), gd_in (show 3 * j + 2 < 60 by omega) (by omega), gd_in (show 60 * s + 3 * j < 240 by omega) (by omega), gd_in (show 60 * s + 3 * j + 1 < 240 by omega) (by omega), gd_in (show 60 * s + 3 * j + 2 < 240 by omega) (by omega)]
      rw [cl_nI (show 3 * j < 2147483648 by omega), cl_nI (show 3 * j + 1 < 2147483648 by omega), cl_nI (show 3 * j + 2 < 2147483648 by omega), cl_nI (show 60 * s + 3 * j < 2147483648 by omega), cl_nI (show 60 * s + 3 * j + 1 < 2147483648 by omega), cl_nI (show 60 * s + 3 * j + 2 < 2147483648 by omega)]
      rw [show 60 * s + 3 * j + 1 = 60 * s + (3 * j + 1) by omega, show 60 * s + 3 * j + 2 = 60 * s + (3 * j + 2) by omega, q5 _ (by omega), q5 _ (by omega), q5 _ (by omega), show 46 + 2 * s + 1 = 47 + 2 * s by omega, h.core (c := 47 + 2 * s) (by omega)]
      obtain ⟨r, σ', τ', n', ek', ef', en', x1, x2, hr, hX, hM⟩ := event_ok h g (D (47 + 2 * s) (3 * j)) (D (47 + 2 * s) (3 * j + 1)) (D (47 + 2 * s) (3 * j + 2))
      rw [x1, x2, bnd_some, bnd_some]
      rcases hr with hr | hr
      · rw [if_neg (by grind), if_pos (by grind)]
        exact agr_of (xv_some hX) (mu_some hM)
      · rw [if_pos (by grind), if_neg (by grind), amlet_eq, amlet_eq, amlet_eq, nI_3, show 3 * j + 3 = 3 * (j + 1) by omega]
        exact read_both hs hz h1 h2 (d - 1) (j + 1) N1 N2 n' ek' ef' en' σ' τ' (by omega) (by omega) (by omega) hX hM
    · rw [at_end hge (by omega), at_end hge (by omega)]
      exact agr_of (xv_some h) (mu_some g)
theorem ag_read {D : Sg} {p q n0 n1 n m : Nat} {ek ef : Nat → Int32} {en : Nat → Nat} {σ τ : Sg} (h : XI D p q n0 n1 n m ek ef en σ) (g : MI D p q n0 n1 n m ek ef en τ) (a1 : Int32) : Agr (f_X9_read σ a1) (f_X10_read τ a1) := by
  unfold f_X9_read f_X10_read
  rw [isBelow_eq, isSheet_eq, bnd_some, bnd_some, one_if, one_if]
  by_cases h1 : 0 ≤ a1 ∧ a1 < 4
  rotate_left
  · rw [if_neg h1, if_neg h1]; exact agr_of (xv_some h) (mu_some g)
  rw [if_pos h1, if_pos h1]
  obtain ⟨s, hs, rfl⟩ := below_of (N := 4) (by omega) h1
  have cs := cl_nI (show s < 2147483648 by omega)
  rw [gd_in hs (by omega), amlet_eq, cs, gd_true (isX6_s s hs), gd_in hs (by omega)]
  have e1 : σ (46 + 2 * s) = D (46 + 2 * s) := h.core (by omega)
  rcases link_sh h g s hs with ⟨q1, q2⟩ | ⟨q1, q2, q3, q4, q5⟩
  · rw [if_pos q1, if_pos q2, find_eq, meets_eq, bnd_some, bnd_some]
    exact ag_find h g 1 _
  rw [if_neg q1, if_neg (show ¬ τ 27 s = 0 by rw [q2]; decide), amlet_eq, n_lit 60, pk_mul]
  obtain ⟨z, hz, ez⟩ := (h.sh s hs).2
  exact read_both hs hz (by rw [← e1]; exact q1) (by rw [← e1]; exact ez) 21 0 300 300 n ek ef en σ τ (by omega) (by omega) (by omega) h g
