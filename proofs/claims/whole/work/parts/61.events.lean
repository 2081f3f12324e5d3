/-! the row of events: one more, one less -/
def updn (f : Nat → Nat) (k v : Nat) : Nat → Nat := fun j => if j = k then v else f j
theorem updn_at (f : Nat → Nat) (k v : Nat) : updn f k v k = v := if_pos rfl
theorem updn_off {f : Nat → Nat} {k v j : Nat} (h : j ≠ k) : updn f k v j = f j := if_neg h
theorem range_more (n m t : Nat) (en : Nat → Nat) : (List.range (n + 1)).filter (fun e => decide (updn en n t e = m)) = (List.range n).filter (fun e => decide (en e = m)) ++ (if t = m then [n] else []) := by
  rw [List.range_succ, List.filter_append]
  congr 1
  · refine List.filter_congr fun x hx => ?_
    have := List.mem_range.mp hx
    rw [updn_off (by omega)]
  · by_cases h : t = m
    · simp [updn_at, h]
    · simp [updn_at, h]
theorem ordT_more (n t : Nat) (en : Nat → Nat) : ∀ m, ordT (n + 1) (updn en n t) m = (ordT n en m).filter (fun e => decide (en e ≤ t)) ++ ((if t < m then [n] else []) ++ (ordT n en m).filter (fun e => decide (t < en e)))
  | 0 => by
    rw [if_neg (Nat.not_lt_zero _)]
    rfl
  | m + 1 => by
    rw [ordT_s, ordT_more n t en m, range_more, ordT_s, List.filter_append, List.filter_append]
    have mem : ∀ x ∈ (List.range n).filter (fun e => decide (en e = m)), en x = m := fun x hx => by simpa using (List.mem_filter.mp hx).2
    have memT : ∀ x ∈ ordT n en m, en x < m := fun x hx => (ord_sorted1 n en m).2 x hx
    rcases Nat.lt_trichotomy m t with q | q | q
    · have z1 : (ordT n en m).filter (fun e => decide (t < en e)) = [] := List.filter_eq_nil_iff.mpr fun x hx => by have := memT x hx; simp only [decide_eq_true_eq]; omega
      have z2 : ((List.range n).filter (fun e => decide (en e = m))).filter (fun e => decide (t < en e)) = [] := List.filter_eq_nil_iff.mpr fun x hx => by have := mem x hx; simp only [decide_eq_true_eq]; omega
      have z3 : ((List.range n).filter (fun e => decide (en e = m))).filter (fun e => decide (en e ≤ t)) = (List.range n).filter (fun e => decide (en e = m)) := List.filter_eq_self.mpr fun x hx => by have := mem x hx; simp only [decide_eq_true_eq]; omega
      rw [z1, z2, z3, if_neg (by omega), if_neg (by omega), if_neg (by omega)]
      simp
    · subst q
      have z1 : (ordT n en m).filter (fun e => decide (m < en e)) = [] := List.filter_eq_nil_iff.mpr fun x hx => by have := memT x hx; simp only [decide_eq_true_eq]; omega
      have z2 : ((List.range n).filter (fun e => decide (en e = m))).filter (fun e => decide (m < en e)) = [] := List.filter_eq_nil_iff.mpr fun x hx => by have := mem x hx; simp only [decide_eq_true_eq]; omega
      have z3 : ((List.range n).filter (fun e => decide (en e = m))).filter (fun e => decide (en e ≤ m)) = (List.range n).filter (fun e => decide (en e = m)) := List.filter_eq_self.mpr fun x hx => by have := mem x hx; simp only [decide_eq_true_eq]; omega
      rw [z1, z2, z3, if_neg (by omega), if_pos rfl, if_pos (by omega)]
      simp
    · have z2 : ((List.range n).filter (fun e => decide (en e = m))).filter (fun e => decide (t < en e)) = (List.range n).filter (fun e => decide (en e = m)) := List.filter_eq_self.mpr fun x hx => by have := mem x hx; simp only [decide_eq_true_eq]; omega
      have z3 : ((List.range n).filter (fun e => decide (en e = m))).filter (fun e => decide (en e ≤ t)) = [] := List.filter_eq_nil_iff.mpr fun x hx => by have := mem x hx; simp only [decide_eq_true_eq]; omega
      rw [z2, z3, if_pos (by omega), if_neg (by omega), if_pos (by omega)]
      simp
theorem ordT_less (n : Nat) (en : Nat → Nat) : ∀ m, (ordT (n + 1) en m).filter (fun e => decide (e ≠ n)) = ordT n en m
  | 0 => rfl
  | m + 1 => by
    rw [ordT_s, List.filter_append, ordT_less n en m, ordT_s]
    congr 1
    rw [List.range_succ, List.filter_append, List.filter_append]
    have z1 : ((List.range n).filter (fun e => decide (en e = m))).filter (fun e => decide (e ≠ n)) = (List.range n).filter (fun e => decide (en e = m)) := List.filter_eq_self.mpr fun x hx => by
      have := List.mem_range.mp (List.mem_filter.mp hx).1
      simp only [decide_eq_true_eq]; omega
    have z2 : ([n].filter (fun e => decide (en e = m))).filter (fun e => decide (e ≠ n)) = [] := List.filter_eq_nil_iff.mpr fun x hx => by
      have := List.mem_singleton.mp (List.mem_filter.mp hx).1
      simp only [decide_eq_true_eq]; omega
    rw [z1, z2, List.append_nil]
theorem cut_at {l : List Nat} {en : Nat → Nat} {t i : Nat} (h1 : ∀ x ∈ l.take i, en x ≤ t) (h2 : ∀ x ∈ l.drop i, t < en x) : l.filter (fun e => decide (en e ≤ t)) = l.take i ∧ l.filter (fun e => decide (t < en e)) = l.drop i := by
  have e : l = l.take i ++ l.drop i := (List.take_append_drop i l).symm
  have a1 : (l.take i).filter (fun e => decide (en e ≤ t)) = l.take i := List.filter_eq_self.mpr fun x hx => by have := h1 x hx; simp only [decide_eq_true_eq]; omega
  have a2 : (l.drop i).filter (fun e => decide (en e ≤ t)) = [] := List.filter_eq_nil_iff.mpr fun x hx => by have := h2 x hx; simp only [decide_eq_true_eq]; omega
  have a3 : (l.take i).filter (fun e => decide (t < en e)) = [] := List.filter_eq_nil_iff.mpr fun x hx => by have := h1 x hx; simp only [decide_eq_true_eq]; omega
  have a4 : (l.drop i).filter (fun e => decide (t < en e)) = l.drop i := List.filter_eq_self.mpr fun x hx => by have := h2 x hx; simp only [decide_eq_true_eq]; omega
  constructor
  · conv => lhs; rw [e]
    rw [List.filter_append, a1, a2, List.append_nil]
  · conv => lhs; rw [e]
    rw [List.filter_append, a3, a4, List.nil_append]
theorem add_ok {σ : Sg} {c3 n : Nat} {ek ef : Nat → Int32} {en : Nat → Nat} (hE : EOK σ c3 n ek ef en) (hn : n ≤ 8) {kd fur : Int32} {t : Nat} (hk : kd = 0 ∨ kd = 1) (ht : t < 24) : Ret (f_X1_add c3 σ kd (nI t) fur) (fun _ σ' =>
    (∀ c, (c < c3 ∨ c3 + 4 < c) → σ' c = σ c) ∧ EOK σ' c3 (n + 1) (upd ek n kd) (upd ef n fur) (updn en n t)) := by
  obtain ⟨-, e4, hev, hord⟩ := hE
  have hlen : (ordL n en).length = n := ord_len (fun e he => (hev e he).2.2.2.1)
  have hsort := ord_sorted n en
  have hmem : ∀ e ∈ ordL n en, e < n := fun e he => ord_mem he
  have hmore := ordT_more n t en 24
  rw [if_pos ht, ← ordL_T, ← ordL_T] at hmore
  generalize ordL n en = ord at hlen hsort hmem hord hmore
  unfold f_X1_add
  rw [e4, if_pos (by rw [n_lit 8, p_le (by omega) (by omega)]; exact hn), gd_in (show n < 9 by omega) (by omega), cl_nI (by omega)]
  simp only [amlet_eq]
  have z4 : ∀ c v w, c ≠ c3 → up2 σ c v w c3 4 = nI n := fun c v w h => by rw [up2_off (by omega), e4]
  rw [z4 _ _ _ (by omega), gd_in (show n < 9 by omega) (by omega), cl_nI (by omega)]
  have z5 : ∀ v w v' w', up2 (up2 σ (c3 + 1) v w) (c3 + 2) v' w' c3 4 = nI n := fun v w v' w' => by rw [up2_off (by omega), up2_off (by omega), e4]
  rw [z5, gd_in (show n < 9 by omega) (by omega), cl_nI (by omega)]
  have z6 : ∀ v w v' w' v'' w'', up2 (up2 (up2 σ (c3 + 1) v w) (c3 + 2) v' w') (c3 + 3) v'' w'' c3 4 = nI n := fun v w v' w' v'' w'' => by rw [up2_off (by omega), z5]
  rw [z6]
  generalize hσ1 : up2 (up2 (up2 σ (c3 + 1) n kd) (c3 + 2) n (nI t)) (c3 + 3) n fur = σ1
  have f0 : ∀ c, (c < c3 ∨ c3 + 3 < c ∨ c = c3) → σ1 c = σ c := fun c hc => by rw [← hσ1, up2_off (by omega), up2_off (by omega), up2_off (by omega)]
  have f1 : σ1 (c3 + 1) = upd (σ (c3 + 1)) n kd := by rw [← hσ1, up2_off (by omega), up2_off (by omega), up2_at]
  have f2 : σ1 (c3 + 2) = upd (σ (c3 + 2)) n (nI t) := by rw [← hσ1, up2_off (by omega), up2_at, up2_off (by omega)]
  have f3 : σ1 (c3 + 3) = upd (σ (c3 + 3)) n fur := by rw [← hσ1, up2_at, up2_off (by omega), up2_off (by omega)]
  have fin : ∀ (σ2 : Sg) (i : Nat), i ≤ n → (∀ c, c ≠ c3 + 4 → σ2 c = σ1 c) → (∀ j, j < i → ∀ e, ord[j]? = some e → σ2 (c3 + 4) j = nI e) → (∀ j, i ≤ j → ∀ e, ord[j]? = some e → σ2 (c3 + 4) (j + 1) = nI e) → (∀ x ∈ ord.take i, en x ≤ t) → (∀ x ∈ ord.drop i, t < en x) → Ret (f_X1_add_b101 c3 σ2 (nI i)) (fun _ σ' =>
    (∀ c, (c < c3 ∨ c3 + 4 < c) → σ' c = σ c) ∧ EOK σ' c3 (n + 1) (upd ek n kd) (upd ef n fur) (updn en n t)) := by
    intro σ2 i hi a1 a2 a3 a4 a5
    obtain ⟨b1, b2⟩ := cut_at a4 a5
    rw [b1, b2] at hmore
    unfold f_X1_add_b101
    rw [gd_in (show i < 9 by omega) (by omega), cl_nI (by omega), a1 c3 (by omega), f0 c3 (by omega), e4]
    simp only [amlet_eq]
    rw [up2_off (show c3 ≠ c3 + 4 by omega), a1 c3 (by omega), f0 c3 (by omega), e4, nI_1]
    have y : ∀ c, c ≠ c3 → c ≠ c3 + 4 → up2 (up2 σ2 (c3 + 4) i (nI n)) c3 4 (nI (n + 1)) c = σ1 c := fun c h1 h2 => by rw [up2_off h1, up2_off h2, a1 c h2]
    refine ret_some.mpr ⟨fun c hc => by rw [y c (by omega) (by omega), f0 c (by omega)], by omega, by rw [up2_at, upd_at], fun e he => ?_, fun k e hke => ?_⟩
    · rw [y (c3 + 1) (by omega) (by omega), y (c3 + 2) (by omega) (by omega), y (c3 + 3) (by omega) (by omega), f1, f2, f3]
      by_cases q : e = n
      · subst q
        rw [upd_at, upd_at, upd_at, upd_at, upd_at, updn_at]
        exact ⟨rfl, hk, rfl, ht, rfl⟩
      · rw [upd_off q, upd_off q, upd_off q, upd_off q, upd_off q, updn_off q]
        exact hev e (by omega)
    · rw [up2_off (show c3 + 4 ≠ c3 by omega), up2_at]
      rw [ordL_T, ← ordL_T, hmore] at hke
      have lt : (ord.take i).length = i := by rw [List.length_take]; omega
      rcases Nat.lt_trichotomy k i with q | q | q
      · rw [List.getElem?_append_left (by omega), List.getElem?_take, if_pos q] at hke
        rw [upd_off (by omega)]
        exact a2 k q e hke
      · subst q
        rw [List.getElem?_append_right (by omega), lt, Nat.sub_self] at hke
        simp only [List.cons_append, List.nil_append, List.getElem?_cons_zero, Option.some.injEq] at hke
        rw [upd_at, hke]
      · rw [List.getElem?_append_right (by omega), lt, show k - i = (k - i - 1) + 1 by omega] at hke
        simp only [List.cons_append, List.nil_append, List.getElem?_cons_succ, List.getElem?_drop] at hke
        rw [upd_off (by omega)]
        have := a3 (k - 1) (by omega) e (by rw [show k - 1 = i + (k - i - 1) by omega]; exact hke)
        rwa [show k - 1 + 1 = k by omega] at this
  refine i_X1_add_l54 c3 n (fun d σ2 x2 x4 x5 => x2 = nI t ∧ x4 = nI (n - d) ∧ x5 = nI (n - d) - 1 ∧ (∀ c, c ≠ c3 + 4 → σ2 c = σ1 c) ∧ (∀ j, j < n - d → ∀ e, ord[j]? = some e → σ2 (c3 + 4) j = nI e) ∧ (∀ j, n - d ≤ j → ∀ e, ord[j]? = some e → σ2 (c3 + 4) (j + 1) = nI e) ∧ ∀ x ∈ ord.drop (n - d), t < en x) (fun σ2 x2 x4 x5 r => Ret r _) ?_ 300 0 (by omega) (by omega) σ1 (nI t) (nI n) (nI n - 1) ⟨rfl, rfl, rfl, fun _ _ => rfl, fun j hj e he => by rw [f0 (c3 + 4) (by omega)]; exact hord j e he, fun j hj e he => ?_, fun x hx => ?_⟩
  · intro d k σ2 x2 x4 x5 hd hI ih
    obtain ⟨rfl, rfl, rfl, a1, a2, a3, a5⟩ := hI
    unfold f_X1_add_b54
    rcases Nat.eq_or_lt_of_le hd with q | q
    · subst q
      rw [Nat.sub_self] at a2 a3 a5 ⊢
      rw [if_pos (by decide)]
      exact fin σ2 0 (by omega) a1 a2 a3 (fun x hx => by simp at hx) a5
    · have ep : n - d = (n - d - 1) + 1 := by omega
      generalize hj : n - d - 1 = j at ep
      rw [ep] at a2 a3 a5 ⊢
      rw [nI_pred, if_neg (nI_pos (by omega)), gd_in (show j < 9 by omega) (by omega), cl_nI (by omega)]
      have hjl : j < ord.length := by omega
      have hoj : ord[j]? = some ord[j] := List.getElem?_eq_getElem hjl
      have hmj : ord[j] < n := hmem _ (List.getElem_mem hjl)
      rw [a2 j (by omega) _ hoj, gd_in (show ord[j] < 9 by omega) (by omega), cl_nI (by omega), a1 (c3 + 2) (by omega), f2, upd_off (by omega), (hev _ hmj).2.2.1]
      have hen := (hev _ hmj).2.2.2.1
      by_cases hle : en ord[j] ≤ t
      · rw [if_pos (show nI (en ord[j]) ≤ nI t by rw [p_le (by omega) (by omega)]; exact hle)]
        refine fin σ2 (j + 1) (by omega) a1 a2 a3 (fun x hx => ?_) a5
        obtain ⟨i, hi, rfl⟩ := List.mem_iff_getElem.mp hx
        rw [List.length_take] at hi
        rw [List.getElem_take]
        by_cases e : i = j
        · subst e; exact hle
        · exact Nat.le_trans (List.pairwise_iff_getElem.mp hsort i j (by omega) hjl (by omega)) hle
      · rw [if_neg (show ¬ nI (en ord[j]) ≤ nI t by rw [p_le (by omega) (by omega)]; exact hle), gd_in (show j < 9 by omega) (by omega), nI_1, gd_in (show j + 1 < 9 by omega) (by omega)]
        simp only [amlet_eq, cl_nI (show j + 1 < 2147483648 by omega)]
        have hnd : n - (d + 1) = j := by omega
        refine ih _ _ _ _ q ⟨rfl, by rw [hnd], by rw [hnd]; exact (Int32.sub_eq_add_neg _ _).symm, fun c hc => by rw [up2_off hc]; exact a1 c hc, fun i hi e he => ?_, fun i hi e he => ?_, fun x hx => ?_⟩
        · rw [hnd] at hi
          rw [up2_at, upd_off (by omega)]
          exact a2 i (by omega) e he
        · rw [hnd] at hi
          rw [up2_at]
          by_cases e2 : i = j
          · subst e2
            rw [upd_at]
            rw [hoj] at he
            rw [Option.some.inj he]
          · rw [upd_off (by omega)]
            exact a3 i (by omega) e he
        · rw [hnd, List.drop_eq_getElem_cons hjl] at hx
          rcases List.mem_cons.mp hx with e | e
          · rw [e]; omega
          · exact a5 x e
  · rw [Nat.sub_zero] at hj
    have := List.getElem?_eq_none (l := ord) (i := j) (by omega)
    rw [this] at he; cases he
  · rw [Nat.sub_zero, List.drop_eq_nil_of_le (by omega)] at hx
    cases hx
theorem dropLast_ok {σ : Sg} {c3 n : Nat} {ek ef : Nat → Int32} {en : Nat → Nat} (hE : EOK σ c3 (n + 1) ek ef en) : Ret (f_X1_dropLast c3 σ) (fun _ σ' =>
    (∀ c, (c < c3 ∨ c3 + 4 < c) → σ' c = σ c) ∧ EOK σ' c3 n ek ef en) := by
  obtain ⟨hn9, e4, hev, hord⟩ := hE
  have hlen : (ordL (n + 1) en).length = n + 1 := ord_len (fun e he => (hev e he).2.2.2.1)
  have hmem : ∀ e ∈ ordL (n + 1) en, e < n + 1 := fun e he => ord_mem he
  have hless := ordT_less n en 24
  rw [← ordL_T, ← ordL_T] at hless
  generalize ordL (n + 1) en = ord at hlen hmem hord hless
  unfold f_X1_dropLast
  rw [e4, if_neg (nI_ne0 (by omega) (by omega))]
  refine i_X1_dropLast_l12 c3 (n + 1) (fun i σ2 x1 x2 => x1 = nI ((ord.take i).filter (fun e => decide (e ≠ n))).length ∧ x2 = nI i ∧ (∀ c, c ≠ c3 + 4 → σ2 c = σ c) ∧ (∀ j e, ((ord.take i).filter (fun e => decide (e ≠ n)))[j]? = some e → σ2 (c3 + 4) j = nI e) ∧ ∀ j, i ≤ j → σ2 (c3 + 4) j = σ (c3 + 4) j) (fun σ2 x1 x2 r => Ret r _) ?_ 300 0 (by omega) (by omega) σ 0 0 ⟨rfl, rfl, fun _ _ => rfl, fun j e h => by simp at h, fun _ _ => rfl⟩
  intro i k σ2 x1 x2 hi hI ih
  obtain ⟨rfl, rfl, hs, ha, hb⟩ := hI
  unfold f_X1_dropLast_b12 f_X1_dropLast_b50
  rw [hs c3 (by omega), e4]
  have hfl : ((ord.take i).filter (fun e => decide (e ≠ n))).length ≤ i := Nat.le_trans (List.length_filter_le _ _) (by rw [List.length_take]; omega)
  rcases Nat.lt_or_ge i (n + 1) with hlt | hge
  · rw [at_go hlt (by omega), gd_in (show i < 9 by omega) (by omega), cl_nI (by omega), nI_pred, hb i (Nat.le_refl _)]
    have hil : i < ord.length := by omega
    have hoi : ord[i]? = some ord[i] := List.getElem?_eq_getElem hil
    have hmi : ord[i] < n + 1 := hmem _ (List.getElem_mem hil)
    have htake : ord.take (i + 1) = ord.take i ++ [ord[i]] := by rw [List.take_add_one, hoi]; rfl
    rw [hord i _ hoi]
    simp only [amlet_eq, nI_1]
    by_cases he : ord[i] = n
    · rw [if_pos (show nI ord[i] = nI n by rw [he])]
      have hf : (ord.take (i + 1)).filter (fun e => decide (e ≠ n)) = (ord.take i).filter (fun e => decide (e ≠ n)) := by rw [htake, List.filter_append, he]; simp
      exact ih _ _ _ hlt ⟨by rw [hf], rfl, hs, fun j e h => by rw [hf] at h; exact ha j e h, fun j hj => hb j (by omega)⟩
    · rw [if_neg (show ¬ nI ord[i] = nI n from fun q => he (nI_inj (by omega) (by omega) q)), gd_in (show i < 9 by omega) (by omega), gd_in (show ((ord.take i).filter (fun e => decide (e ≠ n))).length < 9 by omega) (by omega), cl_nI (show ((ord.take i).filter (fun e => decide (e ≠ n))).length < 2147483648 by omega)]
      have hf : (ord.take (i + 1)).filter (fun e => decide (e ≠ n)) = (ord.take i).filter (fun e => decide (e ≠ n)) ++ [ord[i]] := by rw [htake, List.filter_append]; simp [he]
      refine ih _ _ _ hlt ⟨by rw [hf, List.length_append]; rfl, rfl, fun c hc => by rw [up2_off hc]; exact hs c hc, fun j e h => ?_, fun j hj => by rw [up2_at, upd_off (by omega)]; exact hb j (by omega)⟩
      rw [hf] at h
      rw [up2_at]
      by_cases q : j = ((ord.take i).filter (fun e => decide (e ≠ n))).length
      · rw [q, List.getElem?_append_right (Nat.le_refl _), Nat.sub_self] at h
        simp only [List.getElem?_cons_zero, Option.some.injEq] at h
        rw [q, upd_at, h]
      · rw [upd_off q]
        refine ha j e ?_
        rcases Nat.lt_or_ge j ((ord.take i).filter (fun e => decide (e ≠ n))).length with q2 | q2
        · rwa [List.getElem?_append_left q2] at h
        · rw [List.getElem?_append_right (by omega), List.getElem?_eq_none (by rw [List.length_singleton]; omega)] at h
          cases h
  · have e : i = n + 1 := by omega
    subst e
    rw [at_end (Nat.le_refl _) (by omega), nI_pred]
    simp only [amlet_eq]
    rw [List.take_of_length_le (by omega), hless] at ha
    refine ret_some.mpr ⟨fun c hc => by rw [up2_off (by omega), hs c (by omega)], by omega, by rw [up2_at, upd_at], fun e he => ?_, fun j e h => ?_⟩
    · rw [up2_off (by omega), up2_off (by omega), up2_off (by omega), hs _ (by omega), hs _ (by omega), hs _ (by omega)]
      exact hev e (by omega)
    · rw [up2_off (by omega)]
      exact ha j e h
