/-! nights as such: a state, an event, a row of events -/
/-- up, wrongly, met, times, who came (night, one) -/
abbrev RS : Type := Int32 × Int32 × (Nat → Int32) × (Nat → Int32) × List (Int32 × Int32)
def r0 : RS := (0, 0, fun _ => -1, fun _ => 0, [])
def wantR (D : Sg) (q : Nat) (t : Int32) (s : RS) (one : Nat) : Int32 := wantS D (opAt D s.2.2.1 t) (nI one) t q
def bestR (D : Sg) (p q : Nat) (fur t : Int32) (s : RS) : Int32 := (bestS D (wantR D q t s) s.2.2.2.1 s.1 fur p).1
def plS (D : Sg) (p q : Nat) (fur t : Int32) (s : RS) : RS :=
  if bestR D p q fur t s = -1 then s
  else (s.1 ||| ((1 : Int32) <<< (bestR D p q fur t s &&& 31)), s.2.1 + (if wantR D q t s (bestR D p q fur t s).toNatClampNeg = 0 then 1 else 0), fun k => if k < q then metS D s.2.2.1 (bestR D p q fur t s) t k else s.2.2.1 k,
    upd s.2.2.2.1 (bestR D p q fur t s).toNatClampNeg (s.2.2.2.1 (bestR D p q fur t s).toNatClampNeg + 1), s.2.2.2.2 ++ [(t, bestR D p q fur t s)])
def evS (D : Sg) (p q : Nat) (kind fur t : Int32) (s : RS) : RS := if kind = 1 then (downS D fur s.1 p, s.2) else plS D p q fur t s
def runL (D : Sg) (p q : Nat) (ek ef : Nat → Int32) (en : Nat → Nat) (es : List Nat) : RS := es.foldl (fun s e => evS D p q (ek e) (ef e) (nI (en e)) s) r0
theorem wantS_congr {D D' : Sg} {op op' : Nat → Prop} [DecidablePred op] [DecidablePred op'] {one t : Int32} : ∀ {n : Nat}, (∀ k, k < n → D 11 k = D' 11 k ∧ D 12 k = D' 12 k ∧ D 13 k = D' 13 k ∧ (op k ↔ op' k)) → wantS D op one t n = wantS D' op' one t n
  | 0, _ => rfl
  | n + 1, h => by
    have ih := wantS_congr (one := one) (t := t) (n := n) (fun k hk => h k (by omega))
    obtain ⟨h1, h2, h3, h4⟩ := h n (by omega)
    unfold wantS wt
    rw [ih, h1, h2, h3]
    congr 1
    by_cases ho : op n
    · have ho' := h4.mp ho
      simp only [ho, ho', and_true]
    · have ho' : ¬ op' n := fun q => ho (h4.mpr q)
      simp only [ho, ho', and_false, if_false]
theorem bestS_s (D : Sg) (wanted times : Nat → Int32) (up fur : Int32) (k : Nat) : bestS D wanted times up fur (k + 1) =
    if liesIn D up fur k then
      (if (bestS D wanted times up fur k).1 = -1 then (if pullS D wanted times k < 0 then bestS D wanted times up fur k else (nI k, pullS D wanted times k))
       else if (bestS D wanted times up fur k).2 < pullS D wanted times k then (nI k, pullS D wanted times k)
       else if pullS D wanted times k = (bestS D wanted times up fur k).2 then (if D 7 (bestS D wanted times up fur k).1.toNatClampNeg ≤ D 7 k then bestS D wanted times up fur k else (nI k, pullS D wanted times k))
       else bestS D wanted times up fur k)
    else bestS D wanted times up fur k := rfl
theorem bestS_congr {D D' : Sg} {w w' tm tm' : Nat → Int32} {up fur : Int32} : ∀ {n : Nat}, n ≤ 8 → (∀ k, k < n → D 6 k = D' 6 k ∧ D 7 k = D' 7 k ∧ D 8 k = D' 8 k ∧ D 9 k = D' 9 k ∧ w k = w' k ∧ tm k = tm' k) → bestS D w tm up fur n = bestS D' w' tm' up fur n
  | 0, _, _ => rfl
  | n + 1, hn, h => by
    have ih := bestS_congr (up := up) (fur := fur) (n := n) (by omega) (fun k hk => h k (by omega))
    obtain ⟨h1, h2, h3, h4, h5, h6⟩ := h n (by omega)
    rw [bestS_s, bestS_s, ih]
    have hpl : pullS D w tm n = pullS D' w' tm' n := by unfold pullS; rw [h1, h4, h5, h6]
    rw [hpl]
    have hx : ¬ (bestS D' w' tm' up fur n).1 = -1 → D 7 (bestS D' w' tm' up fur n).1.toNatClampNeg = D' 7 (bestS D' w' tm' up fur n).1.toNatClampNeg := fun hno => by
      obtain ⟨j, hj, ej⟩ := (bestS_in D' w' tm' up fur n).resolve_left hno
      rw [ej, cl_nI (by omega)]
      exact (h j (by omega)).2.1
    by_cases hl : liesIn D' up fur n
    · rw [if_pos hl, if_pos (show liesIn D up fur n from ⟨by rw [h3]; exact hl.1, hl.2⟩)]
      by_cases hb : (bestS D' w' tm' up fur n).1 = -1
      · rw [if_pos hb, if_pos hb]
      · rw [if_neg hb, if_neg hb, hx hb, h2]
    · rw [if_neg hl, if_neg (show ¬ liesIn D up fur n from fun q => hl ⟨by rw [← h3]; exact q.1, q.2⟩)]
theorem downS_congr {D D' : Sg} {fur up : Int32} : ∀ {n : Nat}, (∀ k, k < n → D 8 k = D' 8 k) → downS D fur up n = downS D' fur up n
  | 0, _ => rfl
  | n + 1, h => by rw [downS_s, downS_s, downS_congr (fun k hk => h k (by omega)), h n (by omega)]
/-- the cells of a course hold a state -/
def CR (σ : Sg) (c0 : Nat) (s : RS) : Prop := σ c0 8 = s.1 ∧ σ c0 7 = s.2.1 ∧ (∀ k, k < 8 → σ (c0 + 1) k = s.2.2.1 k) ∧ (∀ k, k < 8 → σ (c0 + 3) k = s.2.2.2.1 k) ∧ σ c0 6 = nI s.2.2.2.2.length ∧ ∀ i, i < s.2.2.2.2.length → s.2.2.2.2[i]? = some (σ (c0 + 5) i, σ (c0 + 6) i)
/-- the same gone and needs -/
def SD (D σ : Sg) : Prop := ∀ c, 5 ≤ c → c ≤ 13 → σ c = D c
theorem plough_ok {D σ : Sg} {p q c0 : Nat} {s : RS} (hD : DOK D p q) (hs : SD D σ) (hc : 28 ≤ c0) (hR : CR σ c0 s) (hl : s.2.2.2.2.length < 9) (fur t : Int32) (k : Unit → Sg → Option (Unit × Sg)) {P : Unit → Sg → Prop}
    (hk : ∀ σ', (∀ c, (c < c0 ∨ c0 + 6 < c) → σ' c = σ c) → σ' c0 9 = σ c0 9 → σ' (c0 + 4) = σ (c0 + 4) → CR σ' c0 (plS D p q fur t s) → Ret (k () σ') P)
    (f1 f2 : Sg → Int32) (g1 : ∀ σ', (∀ c, (c < c0 ∨ c0 + 6 < c) → σ' c = σ c) → f1 σ' = fur) (g2 : ∀ σ', (∀ c, (c < c0 ∨ c0 + 6 < c) → σ' c = σ c) → f2 σ' = t) :
    Ret (bnd (f_X0_weighNeeds c0 σ t) (fun _ σ8 => bnd (f_X0_strongestIn c0 σ8 (f1 σ8)) (fun r9 σ10 => bnd (f_X0_bringUp c0 σ10 r9 (f2 σ10)) k))) P := by
  have hDs : DOK σ p q := hD.move hs
  obtain ⟨r1, r2, r3, r4, r5, r6⟩ := hR
  have hp8 := hD.1
  have hq8 := hD.2.1
  refine ret_bnd (weigh_ok hDs hc t) (fun _ σ8 h8 => ?_)
  obtain ⟨a1, a2⟩ := h8
  have hD8 : DOK σ8 p q := hDs.move fun c h1 h2 => a1 c (by omega)
  have off8 : ∀ c, (c < c0 ∨ c0 + 6 < c) → σ8 c = σ c := fun c h => a1 c (by omega)
  rw [g1 σ8 off8, strongest_eq hD8, bnd_some, g2 σ8 off8]
  have hw : ∀ one, one < 8 → σ8 (c0 + 2) one = wantR D q t s one := fun one h1 => by
    rw [a2 one h1]
    unfold wantR
    refine wantS_congr fun k hk => ⟨by rw [hs 11 (by omega) (by omega)], by rw [hs 12 (by omega) (by omega)], by rw [hs 13 (by omega) (by omega)], ?_⟩
    show (σ 12 k ≤ t ∧ σ (c0 + 1) k = -1) ↔ (D 12 k ≤ t ∧ s.2.2.1 k = -1)
    rw [hs 12 (by omega) (by omega), r3 k (by omega)]
  have hb : (bestS σ8 (σ8 (c0 + 2)) (σ8 (c0 + 3)) (σ8 c0 8) fur p).1 = bestR D p q fur t s := by
    unfold bestR
    rw [a1 c0 (by omega), r1]
    refine congrArg Prod.fst (bestS_congr hp8 fun k hk => ?_)
    rw [off8 6 (by omega), off8 7 (by omega), off8 8 (by omega), off8 9 (by omega), hs 6 (by omega) (by omega), hs 7 (by omega) (by omega), hs 8 (by omega) (by omega), hs 9 (by omega) (by omega), hw k (by omega), a1 (c0 + 3) (by omega), r4 k (by omega)]
    exact ⟨rfl, rfl, rfl, rfl, rfl, rfl⟩
  rw [hb]
  rcases bestS_in D (wantR D q t s) s.2.2.2.1 s.1 fur p with hno | ⟨b, hbp, eb⟩
  · have hno : bestR D p q fur t s = -1 := hno
    rw [hno, bringUp_no, bnd_some]
    refine hk σ8 off8 (by rw [a1 c0 (by omega)]) (by rw [a1 (c0 + 4) (by omega)]) ?_
    unfold plS
    rw [if_pos hno]
    unfold CR
    rw [a1 c0 (by omega), a1 (c0 + 1) (by omega), a1 (c0 + 3) (by omega), a1 (c0 + 5) (by omega), a1 (c0 + 6) (by omega)]
    exact ⟨r1, r2, r3, r4, r5, r6⟩
  · have eb : bestR D p q fur t s = nI b := eb
    rw [eb]
    refine ret_bnd (bringUp_ok hD8 hc (by omega) hl (by rw [a1 c0 (by omega)]; exact r5) t) (fun _ σ9 h9 => ?_)
    obtain ⟨b1, b2, b3, b4, b5, b6, b7, b8, b9, b10⟩ := h9
    refine hk σ9 (fun c h => by rw [b1 c (by omega), off8 c h]) (by rw [b2 9 (by omega) (by omega) (by omega), a1 c0 (by omega)]) (by rw [b1 (c0 + 4) (by omega), a1 (c0 + 4) (by omega)]) ?_
    unfold plS
    rw [if_neg (by rw [eb]; exact n_ne (by omega)), eb, cl_nI (by omega)]
    refine ⟨by rw [b3, a1 c0 (by omega), r1], by rw [b5, a1 c0 (by omega), r2, hw b (by omega)], fun k hk8 => ?_, fun k hk8 => ?_, by rw [b4]; simp, fun i hi => ?_⟩
    · show _ = if k < q then _ else _
      by_cases hkq : k < q
      · rw [if_pos hkq, b9 k hkq]
        unfold metS
        rw [off8 11 (by omega), off8 12 (by omega), a1 (c0 + 1) (by omega), hs 11 (by omega) (by omega), hs 12 (by omega) (by omega), r3 k hk8]
      · rw [if_neg hkq, b10 k (by omega), a1 (c0 + 1) (by omega), r3 k hk8]
    · rw [b6, a1 (c0 + 3) (by omega)]
      show upd _ b _ k = upd _ b _ k
      by_cases e : k = b
      · subst e; rw [upd_at, upd_at, r4 k hk8]
      · rw [upd_off e, upd_off e, r4 k hk8]
    · rw [b7, b8, a1 (c0 + 5) (by omega), a1 (c0 + 6) (by omega)]
      show (s.2.2.2.2 ++ [(t, nI b)])[i]? = _
      have hi2 : i < s.2.2.2.2.length + 1 := by simpa using hi
      by_cases e : i = s.2.2.2.2.length
      · subst e; rw [upd_at, upd_at]; simp
      · rw [upd_off e, upd_off e, List.getElem?_append_left (by omega), r6 i (by omega)]
