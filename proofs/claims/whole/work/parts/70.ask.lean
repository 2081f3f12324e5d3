/-! ask -/
theorem mkb : ∀ w, w < 10 → ∀ M, M < 2 ^ w → nI M ||| ((1 : Int32) <<< (nI w &&& 31)) = nI (M + 2 ^ w) ∧ bcV (nI (M + 2 ^ w)) = bcV (nI M) + 1 := by decide +kernel
theorem mkt : ∀ w, w < 10 → ∀ M, M < 2 ^ w → ∀ v, v < 10 → (bt (nI (M + 2 ^ w)) (nI v) ↔ (bt (nI M) (nI v) ∨ v = w)) := by decide +kernel
theorem kl_mem (P : Nat → Prop) : ∀ i v, v ∈ kl P i ↔ (1 ≤ v ∧ v < 1 + i ∧ P v)
  | 0, v => ⟨fun h => by simp [kl] at h, fun h => by omega⟩
  | i + 1, v => by
    rw [kl_s]
    by_cases hb : P (1 + i)
    · rw [b2_pos hb, if_neg (by decide), List.mem_append, kl_mem P i v, List.mem_singleton]
      constructor
      · rintro (⟨h1, h2, h3⟩ | h)
        · exact ⟨h1, by omega, h3⟩
        · subst h; exact ⟨by omega, by omega, hb⟩
      · rintro ⟨h1, h2, h3⟩
        by_cases e : v = 1 + i
        · exact Or.inr e
        · exact Or.inl ⟨h1, by omega, h3⟩
    · rw [b2_neg hb, if_pos rfl, kl_mem P i v]
      constructor
      · rintro ⟨h1, h2, h3⟩; exact ⟨h1, by omega, h3⟩
      · rintro ⟨h1, h2, h3⟩
        refine ⟨h1, ?_, h3⟩
        by_cases e : v = 1 + i
        · subst e; exact absurd h3 hb
        · omega
theorem mask_ok (P : Nat → Prop) : ∀ i, i ≤ 9 → ∃ M, M < 2 ^ (1 + i) ∧ bitS P 1 i = nI M ∧ bcV (nI M) = nI (kl P i).length ∧ ∀ v, v < 10 → (bt (nI M) (nI v) ↔ v ∈ kl P i)
  | 0, _ => ⟨0, by decide, rfl, by show bcV (nI 0) = nI 0; decide +kernel, fun v hv => by
      have h : ∀ v, v < 10 → ¬ bt (nI 0) (nI v) := by decide
      simp [kl, h v hv]⟩
  | i + 1, hi => by
    obtain ⟨M, h1, h2, h3, h4⟩ := mask_ok P i (by omega)
    rw [bitS_s, kl_s]
    by_cases hb : b2 (P (1 + i)) = 0
    · rw [if_pos hb, if_pos hb]
      exact ⟨M, Nat.lt_of_lt_of_le h1 (Nat.pow_le_pow_right (by omega) (by omega)), h2, h3, h4⟩
    · rw [if_neg hb, if_neg hb]
      obtain ⟨e1, e2⟩ := mkb (1 + i) (by omega) M h1
      refine ⟨M + 2 ^ (1 + i), ?_, by rw [h2, e1], by rw [e2, h3, List.length_append, nI_1]; rfl, fun v hv => ?_⟩
      · rw [show 1 + (i + 1) = (1 + i) + 1 by omega, Nat.pow_succ]; omega
      · rw [mkt (1 + i) (by omega) M h1 v hv, h4 v hv, List.mem_append, List.mem_singleton]
/-- how many are alike; the most -/
def cnS (u : Nat → Nat → Int32) (L : List Nat) (t v : Nat) : Nat := L.countP (fun w => decide (u w t = u v t))
def mxS (u : Nat → Nat → Int32) (L : List Nat) (t : Nat) (l : List Nat) : Nat := l.foldl (fun M v => if M < cnS u L t v then cnS u L t v else M) 0
theorem mxS_add (u : Nat → Nat → Int32) (L : List Nat) (t : Nat) (l : List Nat) (v : Nat) : mxS u L t (l ++ [v]) = if mxS u L t l < cnS u L t v then cnS u L t v else mxS u L t l := by
  unfold mxS
  rw [List.foldl_append]
  rfl
theorem mxS_le (u : Nat → Nat → Int32) (L : List Nat) (t : Nat) : ∀ (l : List Nat) (M : Nat), M ≤ L.length → l.foldl (fun M v => if M < cnS u L t v then cnS u L t v else M) M ≤ L.length
  | [], M, h => h
  | v :: l, M, h => by
    rw [List.foldl_cons]
    refine mxS_le u L t l _ ?_
    by_cases q : M < cnS u L t v
    · rw [if_pos q]; exact List.countP_le_length
    · rw [if_neg q]; exact h
theorem greatest_ok {σ : Sg} {u : Nat → Nat → Int32} {L : List Nat} {t : Nat} (hL : L.length ≤ 9) (ht : t < 24) (hl : ∀ j v, L[j]? = some v → σ 44 (j * 24 + t) = u v t) : f_X9_greatestAlike σ (nI t) (nI L.length) = some (nI (mxS u L t L), σ) := by
  unfold f_X9_greatestAlike
  have gen : ∀ L', L' = L → f_X9_greatestAlike_l5 300 σ (nI t) (nI L.length) (0 : Int32) (0 : Int32) = some (nI (mxS u L t L'), σ) := fun L' hL' => by
    refine i_X9_greatestAlike_l5 L.length (fun a σ2 x1 x2 x3 x4 => σ2 = σ ∧ x1 = nI t ∧ x2 = nI L.length ∧ x3 = nI (mxS u L t (L.take a)) ∧ x4 = nI a) (fun σ2 x1 x2 x3 x4 r => r = some (nI (mxS u L t L'), σ)) ?_ 300 0 (by omega) (by omega) σ (nI t) _ 0 0 ⟨rfl, rfl, rfl, rfl, rfl⟩
    intro a k σ2 x1 x2 x3 x4 ha hI ih
    obtain ⟨rfl, rfl, rfl, rfl, rfl⟩ := hI
    unfold f_X9_greatestAlike_b5
    rcases Nat.lt_or_ge a L.length with hlt | hge
    · rw [at_go hlt (by omega)]
      have hoa : L[a]? = some L[a] := List.getElem?_eq_getElem hlt
      have hta : L.take (a + 1) = L.take a ++ [L[a]] := by rw [List.take_add_one, hoa]; rfl
      refine i_X9_greatestAlike_l17 k L.length (fun b σ3 x1 x2 x3 x4 x5 x6 => σ3 = σ2 ∧ x1 = nI t ∧ x2 = nI L.length ∧ x3 = nI (mxS u L t (L.take a)) ∧ x4 = nI a ∧ x5 = nI ((L.take b).countP (fun w => decide (u w t = u L[a] t))) ∧ x6 = nI b) (fun σ3 x1 x2 x3 x4 x5 x6 r => r = some (nI (mxS u L t L'), σ2)) ?_ 300 0 (by omega) (by omega) σ2 _ _ _ _ 0 0 ⟨rfl, rfl, rfl, rfl, rfl, rfl, rfl⟩
      intro b k2 σ3 x1 x2 x3 x4 x5 x6 hb hI2 ih2
      obtain ⟨rfl, rfl, rfl, rfl, rfl, rfl, rfl⟩ := hI2
      unfold f_X9_greatestAlike_b17 f_X9_greatestAlike_b53
      rcases Nat.lt_or_ge b L.length with hlt2 | hge2
      · have hob : L[b]? = some L[b] := List.getElem?_eq_getElem hlt2
        have htb : L.take (b + 1) = L.take b ++ [L[b]] := by rw [List.take_add_one, hob]; rfl
        have hcn : (L.take (b + 1)).countP (fun w => decide (u w t = u L[a] t)) = (L.take b).countP (fun w => decide (u w t = u L[a] t)) + (if u L[b] t = u L[a] t then 1 else 0) := by
          rw [htb, List.countP_append, List.countP_singleton]
          simp only [decide_eq_true_eq]
        rw [at_go hlt2 (by omega), n_lit 24, pk_mul, pk_mul, nI_add, nI_add, gd_in (show a * 24 + t < 216 by omega) (by omega), gd_in (show b * 24 + t < 216 by omega) (by omega), cl_nI (by omega), cl_nI (by omega), hl a _ hoa, hl b _ hob, amlet_eq, amlet_eq, amlet_eq, nI_1, nI_1]
        by_cases he : u L[a] t = u L[b] t
        · rw [if_pos he]
          rw [if_pos he.symm] at hcn
          exact ih2 _ _ _ _ _ _ _ hlt2 ⟨rfl, rfl, rfl, rfl, rfl, by rw [hcn], rfl⟩
        · rw [if_neg he]
          rw [if_neg (fun q => he q.symm)] at hcn
          exact ih2 _ _ _ _ _ _ _ hlt2 ⟨rfl, rfl, rfl, rfl, rfl, by rw [hcn]; rfl, rfl⟩
      · have e : b = L.length := by omega
        subst e
        rw [at_end (Nat.le_refl _) (by omega), amlet_eq, amlet_eq, nI_1, List.take_length]
        refine ih _ _ _ _ _ hlt ⟨rfl, rfl, rfl, ?_, rfl⟩
        rw [hta, mxS_add]
        have hm : mxS u L t (L.take a) ≤ L.length := mxS_le u L t _ 0 (by omega)
        have hc : cnS u L t L[a] ≤ L.length := List.countP_le_length
        show (if nI (mxS u L t (L.take a)) < nI (cnS u L t L[a]) then nI (cnS u L t L[a]) else nI (mxS u L t (L.take a))) = _
        by_cases q : mxS u L t (L.take a) < cnS u L t L[a]
        · rw [if_pos q, if_pos (by rw [p_lt (by omega) (by omega)]; exact q)]
        · rw [if_neg q, if_neg (by rw [p_lt (by omega) (by omega)]; exact q)]
    · have e : a = L.length := by omega
      subst e
      rw [at_end (Nat.le_refl _) (by omega), hL', List.take_length]
  exact gen L rfl
/-- the first night by which it's least -/
def amS (g : Nat → Nat) : Nat → Int32 × Int32
  | 0 => (-1, 0)
  | i + 1 => if (amS g i).1 = -1 then (nI i, nI (g i)) else if (amS g i).2 ≤ nI (g i) then amS g i else (nI i, nI (g i))
theorem amS_s (g : Nat → Nat) (i : Nat) : amS g (i + 1) = if (amS g i).1 = -1 then (nI i, nI (g i)) else if (amS g i).2 ≤ nI (g i) then amS g i else (nI i, nI (g i)) := rfl
theorem amS_ne (g : Nat → Nat) : ∀ i, i < 1000 → ¬ (amS g (i + 1)).1 = -1
  | 0, _ => n_ne (n := 0) (by omega)
  | i + 1, hi => by
    have ih := amS_ne g i (by omega)
    rw [amS_s, if_neg ih]
    by_cases q : (amS g (i + 1)).2 ≤ nI (g (i + 1))
    · rw [if_pos q]; exact ih
    · rw [if_neg q]; exact n_ne (by omega)
noncomputable def vAsk (D : Sg) (p q n m : Nat) (ek ef : Nat → Int32) (en : Nat → Nat) (k : Nat) : Int32 := (amS (fun t => mxS (u9 D p q n ek ef en k) (kl (fp9 D p q n m ek ef en k) 9) t (kl (fp9 D p q n m ek ef en k) 9)) 24).1
theorem ask_x {D : Sg} {p q n0 n1 n m : Nat} {ek ef : Nat → Int32} {en : Nat → Nat} {σ : Sg} (h : XI D p q n0 n1 n m ek ef en σ) {k : Nat} (hk : k < p) : XV D p q n0 n1 n m ek ef en (f_X9_ask σ (nI k)) (vAsk D p q n m ek ef en k) := by
  have hp8 := h.1.sizes
  unfold f_X9_ask
  rw [isBelow_eq, bnd_some, one_if, h.h5, if_pos (of_below hk (by omega))]
  obtain ⟨r, σ1, e, er, hX, hlk⟩ := fars_x h hk
  obtain ⟨M, m1, m2, m3, m4⟩ := mask_ok (fp9 D p q n m ek ef en k) 9 (Nat.le_refl _)
  have hL := kl_len (fp9 D p q n m ek ef en k) 9
  rw [e, bnd_some, er, m2, bitCount_eq, bnd_some, m3]
  unfold vAsk
  generalize kl (fp9 D p q n m ek ef en k) 9 = L at hlk m3 m4 hL ⊢
  generalize hu : u9 D p q n ek ef en k = u at hlk ⊢
  have gen : ∀ N, N = 24 → XV D p q n0 n1 n m ek ef en (f_X9_ask_l35 300 σ1 (nI L.length) (0 : Int32) (10 : Int32) (0 : Int32)) (amS (fun t => mxS u L t L) N).1 := fun N hN => by
    refine i_X9_ask_l35 24 (fun i σ2 x2 x3 x4 x5 => σ2 = σ1 ∧ x2 = nI L.length ∧ x5 = nI i ∧ ((i = 0 ∧ x3 = 0 ∧ x4 = 10) ∨ (0 < i ∧ x3 = (amS (fun t => mxS u L t L) i).1 ∧ x4 = (amS (fun t => mxS u L t L) i).2))) (fun σ2 x2 x3 x4 x5 r => XV D p q n0 n1 n m ek ef en r (amS (fun t => mxS u L t L) N).1) ?_ 300 0 (by omega) (by omega) σ1 _ 0 10 0 ⟨rfl, rfl, rfl, Or.inl ⟨rfl, rfl, rfl⟩⟩
    intro i kk σ2 x2 x3 x4 x5 hi hI ih
    obtain ⟨rfl, rfl, rfl, hx⟩ := hI
    unfold f_X9_ask_b35 f_X9_ask_b65
    rw [n_lit 24]
    rcases Nat.lt_or_ge i 24 with hlt | hge
    · rw [at_go hlt (by omega), greatest_ok (u := u) hL hlt (fun j v hj => hlk j v hj i hlt), bnd_some]
      simp only [amlet_eq, nI_1]
      have ss := amS_s (fun t => mxS u L t L) i
      have hm : mxS u L i L ≤ 9 := Nat.le_trans (mxS_le u L i L 0 (by omega)) hL
      rcases hx with ⟨rfl, rfl, rfl⟩ | ⟨h0, rfl, rfl⟩
      · rw [if_neg (show ¬ (10 : Int32) ≤ nI (mxS u L 0 L) by rw [n_lit 10, p_le (by omega) (by omega)]; omega)]
        exact ih _ _ _ _ _ hlt ⟨rfl, rfl, rfl, Or.inr ⟨by omega, rfl, rfl⟩⟩
      · obtain ⟨j, rfl⟩ : ∃ j, i = j + 1 := ⟨i - 1, by omega⟩
        rw [if_neg (amS_ne _ j (by omega))] at ss
        by_cases q : (amS (fun t => mxS u L t L) (j + 1)).2 ≤ nI (mxS u L (j + 1) L)
        · rw [if_pos q] at ss ⊢
          exact ih _ _ _ _ _ hlt ⟨rfl, rfl, rfl, Or.inr ⟨by omega, by rw [ss], by rw [ss]⟩⟩
        · rw [if_neg q] at ss ⊢
          exact ih _ _ _ _ _ hlt ⟨rfl, rfl, rfl, Or.inr ⟨by omega, by rw [ss], by rw [ss]⟩⟩
    · have e : i = 24 := by omega
      rw [e, at_end (Nat.le_refl _) (by omega), hN]
      rcases hx with ⟨h0, -⟩ | ⟨-, h1, -⟩
      · omega
      · rw [h1, e]
        exact xv_some hX
  exact gen 24 rfl
theorem ask_m {D : Sg} {p q n0 n1 n m : Nat} {ek ef : Nat → Int32} {en : Nat → Nat} {τ : Sg} (h : MI D p q n0 n1 n m ek ef en τ) {k : Nat} (hk : k < p) : MV D p q n0 n1 n m ek ef en (f_X10_askOf τ (nI k)) (vAsk D p q n m ek ef en k) := by
  have hp8 := h.1.sizes
  unfold f_X10_askOf
  obtain ⟨r, τ1, e, er, hM, hG, hup⟩ := fars_m h hk
  obtain ⟨M, m1, m2, m3, m4⟩ := mask_ok (fp9 D p q n m ek ef en k) 9 (Nat.le_refl _)
  rw [e, bnd_some, er, m2]
  unfold vAsk
  generalize hu : u9 D p q n ek ef en k = u at hup ⊢
  generalize fp9 D p q n m ek ef en k = P at m4 ⊢
  have hL := kl_len P 9
  have gen : ∀ N, N = 24 → MV D p q n0 n1 n m ek ef en (f_X10_askOf_l14 300 τ1 (nI M) (-1 : Int32) (0 : Int32) (0 : Int32)) (amS (fun t => mxS u (kl P 9) t (kl P 9)) N).1 := fun N hN => by
    refine i_X10_askOf_l14 24 (fun t σ2 x2 x3 x4 x5 => σ2 = τ1 ∧ x2 = nI M ∧ x3 = (amS (fun t => mxS u (kl P 9) t (kl P 9)) t).1 ∧ x4 = (amS (fun t => mxS u (kl P 9) t (kl P 9)) t).2 ∧ x5 = nI t) (fun σ2 x2 x3 x4 x5 r => MV D p q n0 n1 n m ek ef en r (amS (fun t => mxS u (kl P 9) t (kl P 9)) N).1) ?_ 300 0 (by omega) (by omega) τ1 _ (-1) 0 0 ⟨rfl, rfl, rfl, rfl, rfl⟩
    intro t k14 σ2 x2 x3 x4 x5 ht hI ih
    obtain ⟨rfl, rfl, rfl, rfl, rfl⟩ := hI
    unfold f_X10_askOf_b14
    rw [n_lit 24]
    rcases Nat.lt_or_ge t 24 with hlt | hge
    · rw [at_go hlt (by omega)]
      have ss := amS_s (fun t => mxS u (kl P 9) t (kl P 9)) t
      generalize amS (fun t => mxS u (kl P 9) t (kl P 9)) t = A at ss ⊢
      refine i_X10_askOf_l27 k14 9 (fun i σ3 x2 x3 x4 x5 x6 x7 => σ3 = σ2 ∧ x2 = nI M ∧ x3 = A.1 ∧ x4 = A.2 ∧ x5 = nI t ∧ x6 = nI (mxS u (kl P 9) t (kl P i)) ∧ x7 = nI (1 + i)) (fun σ3 x2 x3 x4 x5 x6 x7 r => MV D p q n0 n1 n m ek ef en r (amS (fun t => mxS u (kl P 9) t (kl P 9)) N).1) ?_ 300 0 (by omega) (by omega) σ2 _ _ _ _ 0 1 ⟨rfl, rfl, rfl, rfl, rfl, rfl, rfl⟩
      intro i k27 σ3 x2 x3 x4 x5 x6 x7 hi hI2 ih2
      obtain ⟨rfl, rfl, rfl, rfl, rfl, rfl, rfl⟩ := hI2
      unfold f_X10_askOf_b27
      rw [n_lit 10]
      have hmi : mxS u (kl P 9) t (kl P i) ≤ 9 := Nat.le_trans (mxS_le u (kl P 9) t (kl P i) 0 (by omega)) hL
      rcases Nat.lt_or_ge i 9 with hlt2 | hge2
      · rw [at_go (show 1 + i < 10 by omega) (by omega)]
        have mi := m4 (1 + i) (by omega)
        refine i_X10_askOf_l40 k14 k27 9 (fun j σ4 x2 x3 x4 x5 x6 x7 x8 x9 => σ4 = σ3 ∧ x2 = nI M ∧ x3 = A.1 ∧ x4 = A.2 ∧ x5 = nI t ∧ x6 = nI (mxS u (kl P 9) t (kl P i)) ∧ x7 = nI (1 + i) ∧ x8 = (if 1 + i ∈ kl P 9 then nI ((kl P j).countP (fun w => decide (u w t = u (1 + i) t))) else 0) ∧ x9 = nI (1 + j)) (fun σ4 x2 x3 x4 x5 x6 x7 x8 x9 r => MV D p q n0 n1 n m ek ef en r (amS (fun t => mxS u (kl P 9) t (kl P 9)) N).1) ?_ 300 0 (by omega) (by omega) σ3 _ _ _ _ _ _ 0 1 ⟨rfl, rfl, rfl, rfl, rfl, rfl, rfl, by by_cases q : 1 + i ∈ kl P 9 <;> simp [q, kl, nI_0], rfl⟩
        intro j k40 σ4 x2 x3 x4 x5 x6 x7 x8 x9 hj hI3 ih3
        obtain ⟨rfl, rfl, rfl, rfl, rfl, rfl, rfl, rfl, rfl⟩ := hI3
        unfold f_X10_askOf_b40 f_X10_askOf_b100 f_X10_askOf_b101 f_X10_askOf_b124
        rw [n_lit 10]
        rcases Nat.lt_or_ge j 9 with hlt3 | hge3
        · have mj := m4 (1 + j) (by omega)
          have eij : (24 : Int32) * nI (1 + i) + nI t = nI (24 * (1 + i) + t) := by rw [n_lit 24, pk_mul, nI_add]
          have ejj : (24 : Int32) * nI (1 + j) + nI t = nI (24 * (1 + j) + t) := by rw [n_lit 24, pk_mul, nI_add]
          rw [at_go (show 1 + j < 10 by omega) (by omega), isIn_b, bnd_some, b2_0, isIn_b, bnd_some, b2_0, eij, ejj, gd_in (show 24 * (1 + i) + t < 240 by omega) (by omega), gd_in (show 24 * (1 + j) + t < 240 by omega) (by omega), cl_nI (by omega), cl_nI (by omega), hup (1 + i) (by omega) (by omega) t hlt, hup (1 + j) (by omega) (by omega) t hlt]
          simp only [amlet_eq, nI_1]
          have sk := kl_s P j
          by_cases ha : 1 + i ∈ kl P 9
          · rw [if_pos (mi.mpr ha), if_pos ha]
            by_cases hbj : 1 + j ∈ kl P 9
            · have hPj := ((kl_mem P 9 (1 + j)).mp hbj).2.2
              rw [b2_pos hPj, if_neg (by decide)] at sk
              rw [if_pos (mj.mpr hbj)]
              have hcn : (kl P (j + 1)).countP (fun w => decide (u w t = u (1 + i) t)) = (kl P j).countP (fun w => decide (u w t = u (1 + i) t)) + (if u (1 + j) t = u (1 + i) t then 1 else 0) := by
                rw [sk, List.countP_append, List.countP_singleton]
                simp only [decide_eq_true_eq]
              by_cases he : u (1 + i) t = u (1 + j) t
              · rw [if_pos he]
                rw [if_pos he.symm] at hcn
                exact ih3 _ _ _ _ _ _ _ _ _ hlt3 ⟨rfl, rfl, rfl, rfl, rfl, rfl, rfl, by rw [if_pos ha, hcn, nI_1], by rw [show 1 + j + 1 = 1 + (j + 1) by omega]⟩
              · rw [if_neg he]
                rw [if_neg (fun q => he q.symm)] at hcn
                exact ih3 _ _ _ _ _ _ _ _ _ hlt3 ⟨rfl, rfl, rfl, rfl, rfl, rfl, rfl, by rw [if_pos ha, hcn]; simp, by rw [show 1 + j + 1 = 1 + (j + 1) by omega]⟩
            · have hPj : ¬ P (1 + j) := fun q => hbj ((kl_mem P 9 (1 + j)).mpr ⟨by omega, by omega, q⟩)
              rw [b2_neg hPj, if_pos rfl] at sk
              rw [if_neg (fun q => hbj (mj.mp q))]
              exact ih3 _ _ _ _ _ _ _ _ _ hlt3 ⟨rfl, rfl, rfl, rfl, rfl, rfl, rfl, by rw [if_pos ha, sk]; simp, by rw [show 1 + j + 1 = 1 + (j + 1) by omega]⟩
          · rw [if_neg (fun q => ha (mi.mp q)), if_neg ha]
            exact ih3 _ _ _ _ _ _ _ _ _ hlt3 ⟨rfl, rfl, rfl, rfl, rfl, rfl, rfl, by rw [if_neg ha]; simp, by rw [show 1 + j + 1 = 1 + (j + 1) by omega]⟩
        · have e : j = 9 := by omega
          rw [e, at_end (show 10 ≤ 1 + 9 by omega) (by omega)]
          simp only [amlet_eq, nI_1]
          have sk := kl_s P i
          rw [show 1 + i + 1 = 1 + (i + 1) by omega]
          by_cases ha : 1 + i ∈ kl P 9
          · have hPi := ((kl_mem P 9 (1 + i)).mp ha).2.2
            rw [b2_pos hPi, if_neg (by decide)] at sk
            rw [if_pos ha]
            have hadd := mxS_add u (kl P 9) t (kl P i) (1 + i)
            rw [← sk] at hadd
            have hc : cnS u (kl P 9) t (1 + i) ≤ 9 := Nat.le_trans List.countP_le_length hL
            show MV D p q n0 n1 n m ek ef en (if nI (cnS u (kl P 9) t (1 + i)) ≤ nI (mxS u (kl P 9) t (kl P i)) then _ else k27 _ _ _ _ _ (nI (cnS u (kl P 9) t (1 + i))) _) _
            by_cases q : mxS u (kl P 9) t (kl P i) < cnS u (kl P 9) t (1 + i)
            · rw [if_pos q] at hadd
              rw [if_neg (by rw [p_le (by omega) (by omega)]; omega)]
              exact ih2 _ _ _ _ _ _ _ hlt2 ⟨rfl, rfl, rfl, rfl, rfl, by rw [hadd], rfl⟩
            · rw [if_neg q] at hadd
              rw [if_pos (by rw [p_le (by omega) (by omega)]; omega)]
              exact ih2 _ _ _ _ _ _ _ hlt2 ⟨rfl, rfl, rfl, rfl, rfl, by rw [hadd], rfl⟩
          · have hPi : ¬ P (1 + i) := fun q => ha ((kl_mem P 9 (1 + i)).mpr ⟨by omega, by omega, q⟩)
            rw [b2_neg hPi, if_pos rfl] at sk
            rw [if_neg ha, if_pos (show (0 : Int32) ≤ nI (mxS u (kl P 9) t (kl P i)) by show nI 0 ≤ _; rw [p_le (by omega) (by omega)]; omega)]
            exact ih2 _ _ _ _ _ _ _ hlt2 ⟨rfl, rfl, rfl, rfl, rfl, by rw [sk], rfl⟩
      · have e : i = 9 := by omega
        subst e
        rw [at_end (show 10 ≤ 1 + 9 by omega) (by omega)]
        unfold f_X10_askOf_b144 f_X10_askOf_b149 f_X10_askOf_b162 f_X10_askOf_b175
        simp only [amlet_eq, nI_1]
        by_cases h1 : A.1 = -1
        · rw [if_pos h1] at ss
          simp only [if_pos h1, if_neg (show ¬ (1 : Int32) = 0 by decide)]
          exact ih _ _ _ _ _ hlt ⟨rfl, rfl, by rw [ss], by rw [ss], rfl⟩
        · rw [if_neg h1] at ss
          simp only [if_neg h1, if_neg (show ¬ (1 : Int32) = 0 by decide), if_true]
          by_cases h2 : A.2 ≤ nI (mxS u (kl P 9) t (kl P 9))
          · rw [if_pos h2] at ss ⊢
            exact ih _ _ _ _ _ hlt ⟨rfl, rfl, by rw [ss], by rw [ss], rfl⟩
          · rw [if_neg h2] at ss ⊢
            exact ih _ _ _ _ _ hlt ⟨rfl, rfl, by rw [ss], by rw [ss], rfl⟩
    · have e : t = 24 := by omega
      rw [e, at_end (Nat.le_refl _) (by omega), hN]
      exact mv_some hM hG
  exact gen 24 rfl
theorem ag_ask {D : Sg} {p q n0 n1 n m : Nat} {ek ef : Nat → Int32} {en : Nat → Nat} {σ τ : Sg} (h : XI D p q n0 n1 n m ek ef en σ) (g : MI D p q n0 n1 n m ek ef en τ) (a1 : Int32) : Agr (f_X9_ask σ a1) (f_X10_ask τ a1) := by
  have hp8 := h.1.sizes
  unfold f_X10_ask
  obtain ⟨r, τ1, e, g1, -, rfl⟩ := isOne_ok g a1
  rw [e, bnd_some, one_if]
  by_cases h1 : 0 ≤ a1 ∧ a1 < nI p
  · rw [if_pos h1]
    obtain ⟨k, hk, rfl⟩ := below_of (N := p) (by omega) h1
    exact agr_of (ask_x h hk) (mu_id (ask_m g1 hk).u)
  · rw [if_neg h1]
    refine agr_of (v := -2) ?_ (mu_some g1)
    unfold f_X9_ask
    rw [isBelow_eq, bnd_some, one_if, h.h5, if_neg h1]
    exact xv_some h
