/-! the class's run of the nights -/
def ordL (n : Nat) (en : Nat → Nat) : List Nat := (List.range 24).flatMap (fun t => (List.range n).filter (fun e => decide (en e = t)))
def selI (set : Int32) (e : Nat) : Bool := decide (¬ ((set >>> (nI e &&& 31)) &&& (1 : Int32)) = 0)
theorem filt_len (l : List Nat) (p q r : Nat → Bool) (h : ∀ x, r x = (p x || q x)) (hd : ∀ x, ¬ (p x = true ∧ q x = true)) : (l.filter p).length + (l.filter q).length = (l.filter r).length := by
  induction l with
  | nil => rfl
  | cons x l ih =>
    simp only [List.filter_cons, h x]
    have := hd x
    cases hp : p x <;> cases hq : q x <;> simp_all <;> omega
theorem ord_len1 (n : Nat) (en : Nat → Nat) : ∀ m, ((List.range m).flatMap (fun t => (List.range n).filter (fun e => decide (en e = t)))).length = ((List.range n).filter (fun e => decide (en e < m))).length
  | 0 => by rw [List.filter_eq_nil_iff.mpr (by simp)]; rfl
  | m + 1 => by
    rw [List.range_succ, List.flatMap_append, List.length_append, ord_len1 n en m]
    simp only [List.flatMap_cons, List.flatMap_nil, List.append_nil]
    refine filt_len _ _ _ _ (fun x => ?_) (fun x h => ?_)
    · rw [← Bool.decide_or]; exact decide_eq_decide.mpr (by omega)
    · simp only [decide_eq_true_eq] at h; omega
theorem ord_len {n : Nat} {en : Nat → Nat} (h : ∀ e, e < n → en e < 24) : (ordL n en).length = n := by
  unfold ordL
  rw [ord_len1, List.filter_eq_self.mpr (fun x hx => by simp only [decide_eq_true_eq]; exact h x (List.mem_range.mp hx)), List.length_range]
theorem ord_mem {n : Nat} {en : Nat → Nat} {e : Nat} (h : e ∈ ordL n en) : e < n := by
  unfold ordL at h
  obtain ⟨t, -, h2⟩ := List.mem_flatMap.mp h
  exact List.mem_range.mp (List.mem_filter.mp h2).1
theorem ord_sorted1 (n : Nat) (en : Nat → Nat) : ∀ m, ((List.range m).flatMap (fun t => (List.range n).filter (fun e => decide (en e = t)))).Pairwise (fun a b => en a ≤ en b) ∧ ∀ e ∈ (List.range m).flatMap (fun t => (List.range n).filter (fun e => decide (en e = t))), en e < m
  | 0 => by simp
  | m + 1 => by
    obtain ⟨h1, h2⟩ := ord_sorted1 n en m
    rw [List.range_succ, List.flatMap_append]
    simp only [List.flatMap_cons, List.flatMap_nil, List.append_nil]
    have h3 : ∀ e ∈ (List.range n).filter (fun e => decide (en e = m)), en e = m := fun e he => by simpa using (List.mem_filter.mp he).2
    refine ⟨List.pairwise_append.mpr ⟨h1, ?_, fun a ha b hb => by rw [h3 b hb]; exact Nat.le_of_lt (h2 a ha)⟩, fun e he => ?_⟩
    · exact ((List.pairwise_lt_range (n := n)).filter _).imp_of_mem (fun {a b} ha hb _ => by rw [h3 a ha, h3 b hb]; exact Nat.le_refl _)
    · rcases List.mem_append.mp he with h | h
      · have := h2 e h; omega
      · rw [h3 e h]; omega
theorem ord_sorted (n : Nat) (en : Nat → Nat) : (ordL n en).Pairwise (fun a b => en a ≤ en b) := (ord_sorted1 n en 24).1
theorem runL_add (D : Sg) (p q : Nat) (ek ef : Nat → Int32) (en : Nat → Nat) (l : List Nat) (e : Nat) : runL D p q ek ef en (l ++ [e]) = evS D p q (ek e) (ef e) (nI (en e)) (runL D p q ek ef en l) := by
  unfold runL
  rw [List.foldl_append]
  rfl
theorem evS_came (D : Sg) (p q : Nat) (kd fur t : Int32) (s : RS) : (evS D p q kd fur t s).2.2.2.2.length ≤ s.2.2.2.2.length + 1 := by
  unfold evS
  by_cases h : kd = 1
  · rw [if_pos h]; show s.2.2.2.2.length ≤ _; omega
  · rw [if_neg h]
    unfold plS
    by_cases h2 : bestR D p q fur t s = -1
    · rw [if_pos h2]; omega
    · rw [if_neg h2]; simp
theorem foldl_came (D : Sg) (p q : Nat) (ek ef : Nat → Int32) (en : Nat → Nat) : ∀ (l : List Nat) (s : RS), (l.foldl (fun s e => evS D p q (ek e) (ef e) (nI (en e)) s) s).2.2.2.2.length ≤ s.2.2.2.2.length + l.length
  | [], s => by simp
  | e :: l, s => by
    have h1 := foldl_came D p q ek ef en l (evS D p q (ek e) (ef e) (nI (en e)) s)
    have h2 := evS_came D p q (ek e) (ef e) (nI (en e)) s
    simp only [List.foldl_cons, List.length_cons]
    omega
theorem runL_came (D : Sg) (p q : Nat) (ek ef : Nat → Int32) (en : Nat → Nat) (l : List Nat) : (runL D p q ek ef en l).2.2.2.2.length ≤ l.length := by
  have h := foldl_came D p q ek ef en l r0
  have : r0.2.2.2.2.length = 0 := rfl
  unfold runL
  omega
def EOK (σ : Sg) (c3 n : Nat) (ek ef : Nat → Int32) (en : Nat → Nat) : Prop := n ≤ 9 ∧ σ c3 4 = nI n ∧ (∀ e, e < n → σ (c3 + 1) e = ek e ∧ (ek e = 0 ∨ ek e = 1) ∧ σ (c3 + 2) e = nI (en e) ∧ en e < 24 ∧ σ (c3 + 3) e = ef e) ∧ ∀ k e, (ordL n en)[k]? = some e → σ (c3 + 4) k = nI e
theorem CR.keep {σ σ' : Sg} {c0 : Nat} {s : RS} (h : CR σ c0 s) (h1 : ∀ k, k ≠ 9 → σ' c0 k = σ c0 k) (h2 : ∀ c, c0 < c → c ≠ c0 + 4 → σ' c = σ c) : CR σ' c0 s := by
  obtain ⟨r1, r2, r3, r4, r5, r6⟩ := h
  unfold CR
  rw [h1 8 (by omega), h1 7 (by omega), h1 6 (by omega), h2 (c0 + 1) (by omega) (by omega), h2 (c0 + 3) (by omega) (by omega), h2 (c0 + 5) (by omega) (by omega), h2 (c0 + 6) (by omega) (by omega)]
  exact ⟨r1, r2, r3, r4, r5, r6⟩
theorem run_ok {D σ : Sg} {p q c0 c3 n : Nat} {ek ef : Nat → Int32} {en : Nat → Nat} (hD : DOK D p q) (hs : SD D σ) (hE : EOK σ c3 n ek ef en) (hc : 28 ≤ c0) (hc3 : c3 + 4 < 28) (set : Int32) :
    Ret (f_X0_run c0 c3 σ set) (fun _ σ' => (∀ c, (c < c0 ∨ c0 + 6 < c) → σ' c = σ c) ∧ CR σ' c0 (runL D p q ek ef en ((ordL n en).filter (selI set))) ∧ ∀ t, t < 24 → σ' (c0 + 4) t = (runL D p q ek ef en (((ordL n en).filter (fun e => decide (en e ≤ t))).filter (selI set))).1) := by
  obtain ⟨hn9, hE1, hE2, hE3⟩ := hE
  have hlen : (ordL n en).length = n := ord_len (fun e he => (hE2 e he).2.2.2.1)
  have hsort := ord_sorted n en
  have hmem : ∀ e ∈ ordL n en, e < n := fun e he => ord_mem he
  generalize ordL n en = ord at hlen hsort hmem hE3 ⊢
  unfold f_X0_run
  refine ret_bnd (startAnew_ok σ c0) (fun _ σ1 h1 => ?_)
  obtain ⟨a1, a2, a3, a4, a5, a6, a7⟩ := h1
  refine i_X0_run_l7 c0 c3 n (fun i σ2 x4 x5 => x4 = set ∧ x5 = nI i ∧ (∀ c, (c < c0 ∨ c0 + 6 < c) → σ2 c = σ c) ∧ ∃ a, a ≤ 24 ∧ σ2 c0 9 = nI a ∧ CR σ2 c0 (runL D p q ek ef en ((ord.take i).filter (selI set))) ∧ (∀ e ∈ (ord.take i).filter (selI set), en e ≤ a) ∧ (∀ e ∈ ord.drop i, a ≤ en e) ∧ ∀ t, t < a → σ2 (c0 + 4) t = (runL D p q ek ef en ((ord.filter (fun e => decide (en e ≤ t))).filter (selI set))).1)
    (fun σ2 x4 x5 r => Ret r _) ?_ 300 0 (by omega) (by omega) σ1 set 0 ⟨rfl, rfl, fun c h => a1 c (by omega) (by omega) (by omega), 0, by omega, by rw [a6]; rfl, ?_, by simp, by simp, fun t h => absurd h (Nat.not_lt_zero _)⟩
  · intro i k σ2 x4 x5 hi hI ih
    obtain ⟨rfl, rfl, hf, a, ha24, ha, hR, hpa, hda, hst⟩ := hI
    have hs2 : SD D σ2 := fun c h1 h2 => by rw [hf c (by omega)]; exact hs c h1 h2
    unfold f_X0_run_b7 f_X0_run_b108
    rw [hf c3 (by omega), hE1]
    rcases Nat.lt_or_ge i n with hlt | hge
    · have hilen : i < ord.length := by omega
      obtain ⟨e, he⟩ : ∃ e, ord[i]? = some e := ⟨ord[i], List.getElem?_eq_getElem hilen⟩
      have hen : e < n := hmem e (List.mem_of_getElem? he)
      have htake : ord.take (i + 1) = ord.take i ++ [e] := by rw [List.take_add_one, he]; rfl
      have hdrop : ord.drop i = e :: ord.drop (i + 1) := by
        rw [List.drop_eq_getElem_cons hilen]
        congr 1
        have := List.getElem?_eq_getElem hilen
        rw [this] at he
        exact Option.some.inj he
      obtain ⟨ee1, ee2, ee3, ee4, ee5⟩ := hE2 e hen
      rw [at_go hlt (by omega), gd_in (by omega) (by omega), cl_nI (by omega), hf (c3 + 4) (by omega), hE3 i e he]
      simp only [amlet_eq, nI_1, gd_in (show e < 9 by omega) (show 9 < 2 ^ 31 by omega), cl_nI (show e < 2147483648 by omega)]
      by_cases hsel : ((x4 >>> (nI e &&& 31)) &&& (1 : Int32)) = 0
      · rw [if_pos hsel]
        have hf0 : (ord.take (i + 1)).filter (selI x4) = (ord.take i).filter (selI x4) := by
          rw [htake, List.filter_append]
          simp [selI, hsel]
        refine ih σ2 x4 _ hlt ⟨rfl, rfl, hf, a, ha24, ha, by rw [hf0]; exact hR, by rw [hf0]; exact hpa, fun x hx => hda x (by rw [hdrop]; exact List.mem_cons_of_mem _ hx), hst⟩
      · rw [if_neg hsel, hf (c3 + 2) (by omega), ee3]
        have hae : a ≤ en e := hda e (by rw [hdrop]; exact List.mem_cons_self)
        have hf1 : (ord.take (i + 1)).filter (selI x4) = (ord.take i).filter (selI x4) ++ [e] := by
          rw [htake, List.filter_append]
          simp [selI, hsel]
        refine ret_bnd (endNights_ok ha hae (by omega)) (fun _ σ6 h6 => ?_)
        obtain ⟨b1, b2, b3, b4, b5⟩ := h6
        have hf6 : ∀ c, (c < c0 ∨ c0 + 6 < c) → σ6 c = σ c := fun c h => by rw [b1 c (by omega) (by omega)]; exact hf c h
        have hs6 : SD D σ6 := fun c h1 h2 => by rw [hf6 c (by omega)]; exact hs c h1 h2
        have hR6 : CR σ6 c0 (runL D p q ek ef en ((ord.take i).filter (selI x4))) := hR.keep b2 (fun c h1 h2 => b1 c (by omega) h2)
        have hall : ∀ x ∈ (ord.take (i + 1)).filter (selI x4), en x ≤ en e := fun x hx => by
          rw [hf1] at hx
          rcases List.mem_append.mp hx with h | h
          · exact Nat.le_trans (hpa x h) hae
          · rw [List.mem_singleton.mp h]; exact Nat.le_refl _
        have hpost : ∀ x ∈ ord.drop (i + 1), en e ≤ en x := fun x hx => by
          have hp2 : (ord.drop i).Pairwise (fun a b => en a ≤ en b) := hsort.sublist (List.drop_sublist _ _)
          rw [hdrop] at hp2
          exact (List.pairwise_cons.mp hp2).1 x hx
        have hst6 : ∀ t, t < en e → σ6 (c0 + 4) t = (runL D p q ek ef en ((ord.filter (fun e => decide (en e ≤ t))).filter (selI x4))).1 := fun t ht => by
          by_cases hta : t < a
          · rw [b5 t (Or.inl hta)]; exact hst t hta
          · rw [b4 t (by omega) ht, hR.1]
            congr 2
            have h0 : ord = ord.take i ++ ord.drop i := (List.take_append_drop i ord).symm
            conv => rhs; rw [h0]
            rw [List.filter_append, List.filter_append]
            have hd0 : (ord.drop i).filter (fun e => decide (en e ≤ t)) = [] := List.filter_eq_nil_iff.mpr (fun x hx => by
              simp only [decide_eq_true_eq]
              rw [hdrop] at hx
              rcases List.mem_cons.mp hx with h | h
              · rw [h]; omega
              · have := hpost x h; omega)
            rw [hd0]
            simp only [List.filter_nil, List.append_nil]
            rw [List.filter_filter]
            refine (List.filter_congr (fun x hx => ?_)).symm
            by_cases hsx : selI x4 x = true
            · have := hpa x (List.mem_filter.mpr ⟨hx, hsx⟩)
              simp only [hsx, Bool.true_and, decide_eq_true_eq]; omega
            · simp [hsx]
        rw [hf6 (c3 + 1) (by omega), ee1]
        by_cases hk1 : ek e = 1
        · rw [if_pos hk1]
          refine ret_bnd (layDown_ok (hD.move hs6) hc (σ6 (c3 + 3) e)) (fun _ σ17 h17 => ?_)
          obtain ⟨d1, d2, d3⟩ := h17
          refine ih σ17 x4 _ hlt ⟨rfl, rfl, fun c h => by rw [d1 c (by omega)]; exact hf6 c h, en e, by omega, by rw [d2 9 (by omega)]; exact b3, ?_, hall, hpost, fun t ht => by rw [d1 (c0 + 4) (by omega)]; exact hst6 t ht⟩
          rw [hf1, runL_add]
          unfold evS
          rw [if_pos hk1]
          obtain ⟨r1, r2, r3, r4, r5, r6⟩ := hR6
          refine ⟨?_, by rw [d2 7 (by omega)]; exact r2, by rw [d1 (c0 + 1) (by omega)]; exact r3, by rw [d1 (c0 + 3) (by omega)]; exact r4, by rw [d2 6 (by omega)]; exact r5, by rw [d1 (c0 + 5) (by omega), d1 (c0 + 6) (by omega)]; exact r6⟩
          rw [d3, r1, hf6 (c3 + 3) (by omega), ee5]
          exact downS_congr (fun k _ => by rw [hs6 8 (by omega) (by omega)])
        · rw [if_neg hk1, hf6 (c3 + 2) (by omega), ee3]
          refine plough_ok hD hs6 hc hR6 ?_ (ef e) (nI (en e)) _ (fun σ' g1 g2 g3 g4 => ?_) (fun σ8 => σ8 (c3 + 3) e) (fun σ10 => σ10 (c3 + 2) e) (fun σ' g => by rw [g (c3 + 3) (by omega), hf6 (c3 + 3) (by omega), ee5]) (fun σ' g => by rw [g (c3 + 2) (by omega), hf6 (c3 + 2) (by omega), ee3])
          · have h1 := runL_came D p q ek ef en ((ord.take i).filter (selI x4))
            have h2 := List.length_filter_le (selI x4) (ord.take i)
            have h3 : (ord.take i).length ≤ i := by rw [List.length_take]; omega
            omega
          · refine ih σ' x4 _ hlt ⟨rfl, rfl, fun c h => by rw [g1 c h]; exact hf6 c h, en e, by omega, by rw [g2]; exact b3, ?_, hall, hpost, fun t ht => by rw [g3]; exact hst6 t ht⟩
            rw [hf1, runL_add]
            unfold evS
            rw [if_neg hk1]
            exact g4
    · have e : i = n := by omega
      subst e
      rw [at_end (Nat.le_refl _) (by omega)]
      have htk : ord.take i = ord := by rw [List.take_of_length_le (by omega)]
      rw [htk] at hR hpa
      refine ret_bnd (endNights_ok (b := 24) ha ha24 (by omega)) (fun _ σ6 h6 => ret_some.mpr ?_)
      obtain ⟨b1, b2, b3, b4, b5⟩ := h6
      refine ⟨fun c h => by rw [b1 c (by omega) (by omega)]; exact hf c h, hR.keep b2 (fun c h1 h2 => b1 c (by omega) h2), fun t ht => ?_⟩
      by_cases hta : t < a
      · rw [b5 t (Or.inl hta)]; exact hst t hta
      · rw [b4 t (by omega) ht, hR.1]
        congr 2
        rw [List.filter_filter]
        refine (List.filter_congr (fun x hx => ?_)).symm
        by_cases hsx : selI x4 x = true
        · have := hpa x (List.mem_filter.mpr ⟨hx, hsx⟩)
          simp only [hsx, Bool.true_and, decide_eq_true_eq]; omega
        · simp [hsx]
  · refine ⟨a5, a4, fun k hk => (a7 k hk).1, fun k hk => (a7 k hk).2, by rw [a3]; rfl, fun i hi => ?_⟩
    simp [runL, r0] at hi
