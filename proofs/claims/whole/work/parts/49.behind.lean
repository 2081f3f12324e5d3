/-! what later nights leave as it was -/
theorem and255_or {a b : Int32} (ha : a &&& 255 = a) (hb : b &&& 255 = b) : (a ||| b) &&& 255 = a ||| b := by
  have h1 : (a.toBitVec ||| b.toBitVec) &&& (255#32) = (a.toBitVec &&& 255#32) ||| (b.toBitVec &&& 255#32) := by
    apply BitVec.eq_of_getLsbD_eq
    intro i _
    simp only [BitVec.getLsbD_and, BitVec.getLsbD_or]
    cases a.toBitVec.getLsbD i <;> cases b.toBitVec.getLsbD i <;> cases (255#32).getLsbD i <;> rfl
  have ha2 : a.toBitVec &&& 255#32 = a.toBitVec := congrArg Int32.toBitVec ha
  have hb2 : b.toBitVec &&& 255#32 = b.toBitVec := congrArg Int32.toBitVec hb
  apply Int32.toBitVec_inj.mp
  show (a.toBitVec ||| b.toBitVec) &&& (255#32) = a.toBitVec ||| b.toBitVec
  rw [h1, ha2, hb2]
theorem and255_and {a b : Int32} (ha : a &&& 255 = a) : (a &&& b) &&& 255 = a &&& b := by
  have ha2 : a.toBitVec &&& 255#32 = a.toBitVec := congrArg Int32.toBitVec ha
  apply Int32.toBitVec_inj.mp
  show (a.toBitVec &&& b.toBitVec) &&& (255#32) = a.toBitVec &&& b.toBitVec
  have h1 : (a.toBitVec &&& b.toBitVec) &&& (255#32) = (a.toBitVec &&& 255#32) &&& b.toBitVec := by
    apply BitVec.eq_of_getLsbD_eq
    intro i _
    simp only [BitVec.getLsbD_and]
    cases a.toBitVec.getLsbD i <;> cases b.toBitVec.getLsbD i <;> cases (255#32).getLsbD i <;> rfl
  rw [h1, ha2]
theorem sh255 : ∀ b, b < 8 → ((1 : Int32) <<< (nI b &&& 31)) &&& 255 = (1 : Int32) <<< (nI b &&& 31) := by decide +kernel
theorem down255 {D : Sg} {fur up : Int32} (h : up &&& 255 = up) : ∀ k, downS D fur up k &&& 255 = downS D fur up k
  | 0 => h
  | k + 1 => by
    rw [downS_s]
    by_cases e : D 8 k = fur
    · rw [if_pos e]; exact and255_and (down255 h k)
    · rw [if_neg e]; exact down255 h k
/-- a state behind nights below m -/
def Good (m : Nat) (s : RS) : Prop := (∀ k, s.2.2.1 k = -1 ∨ ∃ t, t < m ∧ s.2.2.1 k = nI t) ∧ (∀ x ∈ s.2.2.2.2, ∃ t b, t < m ∧ b < 8 ∧ x = (nI t, nI b)) ∧ (∀ k, k < 8 → s.2.2.2.1 k = nI (s.2.2.2.2.countP (fun x => decide (x.2 = nI k)))) ∧ s.1 &&& 255 = s.1
/-- what nights from m on may change -/
def Ext (m : Nat) (s s' : RS) : Prop := (∀ k, s'.2.2.1 k = s.2.2.1 k ∨ (s.2.2.1 k = -1 ∧ ∃ t, m ≤ t ∧ t < 24 ∧ s'.2.2.1 k = nI t)) ∧ ∃ l, s'.2.2.2.2 = s.2.2.2.2 ++ l ∧ ∀ x ∈ l, ∃ t, m ≤ t ∧ t < 24 ∧ x.1 = nI t
theorem Good.up {m m' : Nat} {s : RS} (h : Good m s) (hm : m ≤ m') : Good m' s := by
  obtain ⟨h1, h2, h3, h4⟩ := h
  exact ⟨fun k => (h1 k).imp id (fun ⟨t, a, b⟩ => ⟨t, by omega, b⟩), fun x hx => by
    obtain ⟨t, b, a1, a2, a3⟩ := h2 x hx
    exact ⟨t, b, by omega, a2, a3⟩, h3, h4⟩
theorem good_0 : Good 0 r0 := ⟨fun _ => Or.inl rfl, fun x hx => (by cases hx), fun _ _ => rfl, by decide⟩
theorem Ext.rf (m : Nat) (s : RS) : Ext m s s := ⟨fun _ => Or.inl rfl, [], by simp, fun x hx => by cases hx⟩
theorem Ext.trans {m m' : Nat} {s s1 s2 : RS} (hm : m ≤ m') (h1 : Ext m s s1) (h2 : Ext m' s1 s2) : Ext m s s2 := by
  obtain ⟨a1, l1, a2, a3⟩ := h1
  obtain ⟨b1, l2, b2, b3⟩ := h2
  refine ⟨fun k => ?_, l1 ++ l2, by rw [b2, a2, List.append_assoc], fun x hx => ?_⟩
  · rcases b1 k with h | ⟨h, t, g1, g2, g3⟩
    · rcases a1 k with h3 | ⟨h3, t, g1, g2, g3⟩
      · exact Or.inl (h.trans h3)
      · exact Or.inr ⟨h3, t, g1, g2, h.trans g3⟩
    · rcases a1 k with h3 | ⟨h3, t2, e1, e2, e3⟩
      · exact Or.inr ⟨h3.symm.trans h, t, by omega, g2, g3⟩
      · exact Or.inr ⟨h3, t, by omega, g2, g3⟩
  · rcases List.mem_append.mp hx with h | h
    · exact a3 x h
    · obtain ⟨t, g1, g2, g3⟩ := b3 x h
      exact ⟨t, by omega, g2, g3⟩
theorem ev_good {D : Sg} {p q t m : Nat} {kd fur : Int32} {s : RS} (hp : p ≤ 8) (ht : t < m) (ht24 : t < 24) (h : Good m s) : Good m (evS D p q kd fur (nI t) s) ∧ Ext t s (evS D p q kd fur (nI t) s) := by
  unfold evS
  by_cases hk : kd = 1
  · rw [if_pos hk]
    obtain ⟨h1, h2, h3, h4⟩ := h
    exact ⟨⟨h1, h2, h3, down255 h4 p⟩, fun _ => Or.inl rfl, [], by simp, fun x hx => by cases hx⟩
  · rw [if_neg hk]
    unfold plS
    rcases bestS_in D (wantR D q (nI t) s) s.2.2.2.1 s.1 fur p with hno | ⟨b, hbp, eb⟩
    · have hno : bestR D p q fur (nI t) s = -1 := hno
      rw [if_pos hno]
      exact ⟨h, Ext.rf _ _⟩
    · have eb : bestR D p q fur (nI t) s = nI b := eb
      rw [eb, if_neg (n_ne (by omega)), cl_nI (by omega)]
      obtain ⟨h1, h2, h3, h4⟩ := h
      have hmet : ∀ k, (if k < q then metS D s.2.2.1 (nI b) (nI t) k else s.2.2.1 k) = s.2.2.1 k ∨ (s.2.2.1 k = -1 ∧ (if k < q then metS D s.2.2.1 (nI b) (nI t) k else s.2.2.1 k) = nI t) := fun k => by
        by_cases hkq : k < q
        · rw [if_pos hkq]
          unfold metS
          by_cases hc : D 11 k = nI b ∧ s.2.2.1 k = -1 ∧ D 12 k ≤ nI t
          · rw [if_pos hc]; exact Or.inr ⟨hc.2.1, rfl⟩
          · rw [if_neg hc]; exact Or.inl rfl
        · rw [if_neg hkq]; exact Or.inl rfl
      refine ⟨⟨fun k => ?_, fun x hx => ?_, fun k hk8 => ?_, and255_or h4 (sh255 b (by omega))⟩, fun k => ?_, [(nI t, nI b)], rfl, fun x hx => ?_⟩
      · rcases hmet k with e | ⟨-, e⟩
        · exact (h1 k).imp (fun h => e.trans h) (fun ⟨t, a, c⟩ => ⟨t, a, e.trans c⟩)
        · exact Or.inr ⟨t, ht, e⟩
      · rcases List.mem_append.mp hx with h | h
        · exact h2 x h
        · rw [List.mem_singleton.mp h]
          exact ⟨t, b, ht, by omega, rfl⟩
      · show upd _ b _ k = nI ((s.2.2.2.2 ++ [(nI t, nI b)]).countP _)
        rw [List.countP_append]
        by_cases e : k = b
        · subst e
          rw [upd_at, h3 k hk8]
          simp only [List.countP_cons, List.countP_nil, decide_true, if_true, Nat.zero_add]
          exact nI_1 _
        · rw [upd_off e, h3 k hk8]
          simp only [List.countP_cons, List.countP_nil, Nat.zero_add]
          rw [if_neg (by simp only [decide_eq_true_eq]; intro q; exact e (nI_inj (by omega) (by omega) q).symm), Nat.add_zero]
      · rcases hmet k with e | ⟨e0, e⟩
        · exact Or.inl e
        · exact Or.inr ⟨e0, t, Nat.le_refl _, ht24, e⟩
      · rw [List.mem_singleton.mp hx]
        exact ⟨t, Nat.le_refl _, ht24, rfl⟩
theorem runF_good {D : Sg} {p q t m : Nat} {ek ef : Nat → Int32} {en : Nat → Nat} (hp : p ≤ 8) (ht : t < m) (ht24 : t < 24) : ∀ (l : List Nat) (s : RS), (∀ e ∈ l, en e = t) → Good m s → Good m (runF D p q ek ef en s l) ∧ Ext t s (runF D p q ek ef en s l)
  | [], s, _, h => ⟨h, Ext.rf _ _⟩
  | e :: l, s, hl, h => by
    have e1 := hl e List.mem_cons_self
    obtain ⟨a1, a2⟩ := ev_good (D := D) (q := q) (kd := ek e) (fur := ef e) hp ht ht24 h
    have ih := runF_good (D := D) (q := q) (ek := ek) (ef := ef) (en := en) hp ht ht24 l (evS D p q (ek e) (ef e) (nI t) s) (fun x hx => hl x (List.mem_cons_of_mem _ hx)) a1
    unfold runF at ih ⊢
    rw [List.foldl_cons, e1]
    exact ⟨ih.1, Ext.trans (Nat.le_refl _) a2 ih.2⟩
theorem night_mem {n m : Nat} {en : Nat → Nat} {sel : Nat → Bool} : ∀ e ∈ (((List.range n).filter (fun e => decide (en e = m))).filter sel), en e = m := fun e he => by
  have := (List.mem_filter.mp (List.mem_filter.mp he).1).2
  simpa using this
theorem RN_good {D : Sg} {p q n : Nat} {ek ef : Nat → Int32} {en : Nat → Nat} {sel : Nat → Bool} (hp : p ≤ 8) : ∀ m, m ≤ 24 → Good m (RN D p q n ek ef en sel m)
  | 0, _ => good_0
  | m + 1, h => by
    rw [RN_s]
    exact (runF_good hp (Nat.lt_succ_self m) (by omega) _ _ night_mem ((RN_good hp m (by omega)).up (Nat.le_succ m))).1
theorem RN_ext {D : Sg} {p q n : Nat} {ek ef : Nat → Int32} {en : Nat → Nat} {sel : Nat → Bool} (hp : p ≤ 8) (m : Nat) : ∀ m', m ≤ m' → m' ≤ 24 → Ext m (RN D p q n ek ef en sel m) (RN D p q n ek ef en sel m')
  | 0, h, _ => by
    have : m = 0 := by omega
    subst this; exact Ext.rf _ _
  | m' + 1, h, h24 => by
    by_cases e : m = m' + 1
    · subst e; exact Ext.rf _ _
    · have ih := RN_ext (D := D) (p := p) (q := q) (n := n) (ek := ek) (ef := ef) (en := en) (sel := sel) hp m m' (by omega) (by omega)
      rw [RN_s]
      exact Ext.trans (by omega) ih (runF_good hp (Nat.lt_succ_self m') (by omega) _ _ night_mem ((RN_good hp m' (by omega)).up (Nat.le_succ m'))).2
/-- open behind a night: by the night it was met on -/
theorem open_behind {D : Sg} {p q n t k : Nat} {ek ef : Nat → Int32} {en : Nat → Nat} {sel : Nat → Bool} (hp : p ≤ 8) (ht : t < 24) :
    (D 12 k ≤ nI t ∧ ((RN D p q n ek ef en sel 24).2.2.1 k = -1 ∨ nI t < (RN D p q n ek ef en sel 24).2.2.1 k)) ↔ opAt D (RN D p q n ek ef en sel (t + 1)).2.2.1 (nI t) k := by
  have h1 := (RN_good (D := D) (q := q) (n := n) (ek := ek) (ef := ef) (en := en) (sel := sel) hp (t + 1) (by omega)).1 k
  have h2 := (RN_ext (D := D) (q := q) (n := n) (ek := ek) (ef := ef) (en := en) (sel := sel) hp (t + 1) 24 (by omega) (by omega)).1 k
  show _ ↔ (D 12 k ≤ nI t ∧ (RN D p q n ek ef en sel (t + 1)).2.2.1 k = -1)
  refine and_congr Iff.rfl ⟨fun h => ?_, fun h => ?_⟩
  · rcases h1 with e | ⟨u, hu, e⟩
    · exact e
    · rcases h2 with g | ⟨g, -⟩
      · rcases h with h | h
        · rw [g, e] at h; exact absurd h (n_ne (by omega))
        · rw [g, e, p_lt (by omega) (by omega)] at h; omega
      · exact g
  · rcases h2 with g | ⟨-, u, g1, g2, g3⟩
    · exact Or.inl (g.trans h)
    · right
      rw [g3, p_lt (by omega) (by omega)]; omega
theorem times_behind {D : Sg} {p q n t k : Nat} {ek ef : Nat → Int32} {en : Nat → Nat} {sel : Nat → Bool} (hp : p ≤ 8) (ht : t < 24) (hk : k < 8) :
    nI ((RN D p q n ek ef en sel 24).2.2.2.2.countP (fun x => decide (x.2 = nI k ∧ x.1 ≤ nI t))) = (RN D p q n ek ef en sel (t + 1)).2.2.2.1 k := by
  obtain ⟨-, h1, h2, -⟩ := RN_good (D := D) (q := q) (n := n) (ek := ek) (ef := ef) (en := en) (sel := sel) hp (t + 1) (by omega)
  obtain ⟨-, l, e, hl⟩ := RN_ext (D := D) (q := q) (n := n) (ek := ek) (ef := ef) (en := en) (sel := sel) hp (t + 1) 24 (by omega) (by omega)
  rw [h2 k hk, e, List.countP_append]
  have z : l.countP (fun x => decide (x.2 = nI k ∧ x.1 ≤ nI t)) = 0 := List.countP_eq_zero.mpr (fun x hx => by
    obtain ⟨u, g1, g2, g3⟩ := hl x hx
    simp only [decide_eq_true_eq]
    rw [g3, p_le (by omega) (by omega)]; omega)
  rw [z, Nat.add_zero]
  congr 1
  refine List.countP_congr (fun x hx => ?_)
  obtain ⟨u, b, g1, g2, g3⟩ := h1 x hx
  simp only [decide_eq_true_eq, g3, p_le (show u < 2147483648 by omega) (show t < 2147483648 by omega)]
  exact ⟨fun h => h.1, fun h => ⟨h, by omega⟩⟩
