/-- the good words of the tables -/
def bigw : List Cond := lw_tbl.filter goodWord
theorem bigw_of {w : Cond} (h : w ∈ lw_tbl) (g : goodWord w = true) : w ∈ bigw := List.mem_filter.mpr ⟨h, g⟩
theorem bigw_in {w : Cond} (h : w ∈ bigw) : w ∈ lw_tbl := (List.mem_filter.mp h).1
theorem bigw_good {ws : List Cond} (h : ∀ w ∈ ws, w ∈ bigw) : GoodIn bigw ws := fun w hw => ⟨h w hw, good_of_word (List.mem_filter.mp (h w hw)).2⟩
theorem lt_0s {w : Cond} (i : Nat) (h : (k2_sels lw_privs)[i]? = some w) (g : goodWord w = true) : w ∈ bigw := bigw_of (List.mem_append_left _ (List.mem_of_getElem? h)) g
theorem lt_1 {w : Cond} (i : Nat) (h : tables_1_1[i]? = some w) (g : goodWord w = true) : w ∈ bigw := bigw_of (List.mem_append_right _ (List.mem_append_left _ (List.mem_of_getElem? h))) g
theorem lt_2 {w : Cond} (i : Nat) (h : tables_1_2[i]? = some w) (g : goodWord w = true) : w ∈ bigw := bigw_of (List.mem_append_right _ (List.mem_append_right _ (List.mem_append_left _ (List.mem_of_getElem? h)))) g
theorem lt_3 {w : Cond} (i : Nat) (h : tables_1_3[i]? = some w) (g : goodWord w = true) : w ∈ bigw := bigw_of (List.mem_append_right _ (List.mem_append_right _ (List.mem_append_right _ (List.mem_append_left _ (List.mem_of_getElem? h))))) g
theorem lt_4 {w : Cond} (i : Nat) (h : tables_1_4[i]? = some w) (g : goodWord w = true) : w ∈ bigw := bigw_of (List.mem_append_right _ (List.mem_append_right _ (List.mem_append_right _ (List.mem_append_right _ (List.mem_append_left _ (List.mem_of_getElem? h)))))) g
theorem lt_5 {w : Cond} (i : Nat) (h : tables_1_5[i]? = some w) (g : goodWord w = true) : w ∈ bigw := bigw_of (List.mem_append_right _ (List.mem_append_right _ (List.mem_append_right _ (List.mem_append_right _ (List.mem_append_right _ (List.mem_append_left _ (List.mem_of_getElem? h))))))) g
theorem lt_6 {w : Cond} (i : Nat) (h : tables_1_6[i]? = some w) (g : goodWord w = true) : w ∈ bigw := bigw_of (List.mem_append_right _ (List.mem_append_right _ (List.mem_append_right _ (List.mem_append_right _ (List.mem_append_right _ (List.mem_append_right _ (List.mem_of_getElem? h))))))) g
/-! the abstract machine: a system's cells by number, what they hold a function of cell and place; a walk as a judgement without the heap -/
abbrev Sg : Type := Nat → Nat → Int32
def up2 (σ : Sg) (c k : Nat) (v : Int32) : Sg := fun c' => if c' = c then upd (σ c) k v else σ c'
def cp2 (σ : Sg) (c0 s0 c1 d0 n : Nat) : Sg := fun c' => if c' = c1 then va_cpy (σ c0) (σ c1) s0 d0 n else σ c'
def inB (i : Int32) (n : Nat) : Bool := !(decide (i < 0) || decide (n ≤ i.toNatClampNeg))
theorem inB_in {i : Int32} {n : Nat} (h : inB i n = true) : vp_in i n := by
  simp only [inB, Bool.not_eq_true', Bool.or_eq_false_iff, decide_eq_false_iff_not] at h
  exact fun q => q.elim h.1 h.2
theorem inB_of {i : Int32} {n : Nat} (h : vp_in i n) : inB i n = true := by
  simp only [inB, Bool.not_eq_true', Bool.or_eq_false_iff, decide_eq_false_iff_not]
  exact ⟨fun q => h (Or.inl q), fun q => h (Or.inr q)⟩
def gd {α : Type} (b : Bool) (k : Option α) : Option α := if b = true then k else none
theorem gd_of {α : Type} {b : Bool} {k : Option α} {z : α} (h : gd b k = some z) : b = true ∧ k = some z := by
  unfold gd at h
  by_cases q : b = true
  · rw [if_pos q] at h; exact ⟨q, h⟩
  · rw [if_neg q] at h; cases h
def bnd {α β : Type} (x : Option (α × Sg)) (k : α → Sg → Option β) : Option β := match x with
  | none => none
  | some u => k u.1 u.2
theorem bnd_of {α β : Type} {x : Option (α × Sg)} {k : α → Sg → Option β} {z : β} (h : bnd x k = some z) : ∃ (r : α) (σ1 : Sg), x = some (r, σ1) ∧ k r σ1 = some z := by
  cases x with
  | none => cases h
  | some u => exact ⟨u.1, u.2, rfl, h⟩
def amlet {α β : Type} (v : α) (k : α → β) : β := k v
theorem ite_of {α : Type} {c : Prop} [Decidable c] {a b : α} {z : α} (h : (if c then a else b) = z) : (c → a = z) ∧ (¬ c → b = z) := ⟨fun q => by rw [if_pos q] at h; exact h, fun q => by rw [if_neg q] at h; exact h⟩
/-- a cell's kind: an object (class, fields, which of them lead where), an array of ints or booleans (type, length), a row of references -/
abbrev am_C : Type := (Nat × Nat × (Nat → Option Nat)) ⊕ ((Nat × Nat) ⊕ (Nat × Nat × (Nat → Nat)))
abbrev a_I (n : Nat) : am_C := .inr (.inl (0, n))
abbrev a_Z (n : Nat) : am_C := .inr (.inl (1, n))
abbrev am_O : Type := va_G × (Nat → ClassId) × (Nat → Nat) × Nat × (Nat → am_C)
abbrev am_tys (cT : Nat → ClassId) : List (ClassId × FieldType) := [(cT 0, .int), (cT 1, .boolean), (cT 2, .object RX6)]
def am_v (ad : Nat → Nat) (σ : Sg) (rf : Nat → Option Nat) (c k : Nat) : Value := match rf k with
  | none => .int (σ c k)
  | some c' => .ref (ad c')
def am_e (cT : Nat → ClassId) (ad : Nat → Nat) (σ : Sg) (c : Nat) (x : am_C) : va_E := match x with
  | .inl (ci, n, rf) => .inr (ci, (List.range n).map (am_v ad σ rf c))
  | .inr (.inl (ti, n)) => .inl (cT ti, n, .inl (σ c))
  | .inr (.inr (ti, n, g)) => .inl (cT ti, n, .inr (.inr (.inr (.inr (fun j => some (ad (g j)))))))
def am_ws (O : am_O) (σ : Sg) : va_W := (List.range O.2.2.2.1).map fun c => (O.2.2.1 c, am_e O.2.1 O.2.2.1 σ c (O.2.2.2.2 c))
theorem am_get (O : am_O) (σ : Sg) {c : Nat} (hc : c < O.2.2.2.1) : (am_ws O σ)[c]? = some (O.2.2.1 c, am_e O.2.1 O.2.2.1 σ c (O.2.2.2.2 c)) := by
  simp [am_ws, List.getElem?_map, List.getElem?_range hc]
theorem am_get_iff (O : am_O) (σ : Sg) {c : Nat} {q : Nat × va_E} (h : (am_ws O σ)[c]? = some q) : c < O.2.2.2.1 ∧ q = (O.2.2.1 c, am_e O.2.1 O.2.2.1 σ c (O.2.2.2.2 c)) := by
  have hl : c < O.2.2.2.1 := by
    have h1 := (List.getElem?_eq_some_iff.mp h).1
    simpa [am_ws] using h1
  rw [am_get O σ hl] at h
  exact ⟨hl, (Option.some.inj h).symm⟩
/-- the cells by their addresses alone -/
def am_A (O : am_O) (sz : Nat) : Nat → Prop := fun q => (∃ c, c < O.2.2.2.1 ∧ q = O.2.2.1 c) ∨ sz ≤ q
def am_K (O : am_O) (U : State) : Prop := va_K O.1 vwCl (am_tys O.2.1) U
def am_P (O : am_O) (σ : Sg) (H : Heap) : Prop := va_P O.1 vwCl (am_ws O σ) H
def am_Dj (O : am_O) : Prop := ∀ i j, i < O.2.2.2.1 → j < O.2.2.2.1 → O.2.2.1 i = O.2.2.1 j → i = j
theorem am_D {O : am_O} (h : am_Dj O) (σ : Sg) (sz : Nat) : va_D (am_A O sz) (am_ws O σ) := by
  refine ⟨fun i j p q hi hj e => ?_, fun k q hk => ?_⟩
  · obtain ⟨h1, rfl⟩ := am_get_iff O σ hi
    obtain ⟨h2, rfl⟩ := am_get_iff O σ hj
    exact h i j h1 h2 e
  · obtain ⟨h1, rfl⟩ := am_get_iff O σ hk
    exact Or.inl ⟨k, h1, rfl⟩
theorem am_Dj_of {O : am_O} {A : Nat → Prop} {σ : Sg} (h : va_D A (am_ws O σ)) : am_Dj O := fun i j hi hj e => h.1 i j _ _ (am_get O σ hi) (am_get O σ hj) e
/-- a put in an object is an update of what the cells hold -/
theorem am_putO (O : am_O) (σ : Sg) {c ci n k : Nat} {rf : Nat → Option Nat} (hL : O.2.2.2.2 c = .inl (ci, n, rf)) (hk : rf k = none) (hkn : k < n) (v : Int32) :
    (am_ws O σ).set c (O.2.2.1 c, .inr (ci, ((List.range n).map (am_v O.2.2.1 σ rf c)).set k (.int v))) = am_ws O (up2 σ c k v) := by
  apply List.ext_getElem?
  intro i
  rw [List.getElem?_set]
  by_cases hi : i < O.2.2.2.1
  · rw [am_get O (up2 σ c k v) hi]
    by_cases e : c = i
    · subst e
      rw [if_pos rfl, if_pos (by simpa [am_ws] using hi), hL]
      refine congrArg some (congrArg (Prod.mk _) ?_)
      show (Sum.inr (ci, _) : va_E) = Sum.inr (ci, _)
      refine congrArg (fun l => (Sum.inr (ci, l) : va_E)) ?_
      apply List.ext_getElem?
      intro j
      rw [List.getElem?_set]
      by_cases hj : j < n
      · simp only [List.getElem?_map, List.getElem?_range hj, Option.map_some]
        by_cases e2 : k = j
        · subst e2
          rw [if_pos rfl, if_pos (by simpa using hj)]
          simp [am_v, hk, up2, upd]
        · rw [if_neg e2]
          unfold am_v
          cases rf j with
          | some c' => rfl
          | none => simp [up2, upd, Ne.symm e2]
      · have h0 : ((List.range n).map (am_v O.2.2.1 (up2 σ c k v) rf c))[j]? = none := by simp; omega
        have h1 : ((List.range n).map (am_v O.2.2.1 σ rf c))[j]? = none := by simp; omega
        rw [h0]
        by_cases e2 : k = j
        · subst e2; exact absurd hkn hj
        · rw [if_neg e2, h1]
    · rw [if_neg e, am_get O σ hi]
      have e3 : (up2 σ c k v) i = σ i := by simp [up2, Ne.symm e]
      refine congrArg some (congrArg (Prod.mk _) ?_)
      unfold am_e
      cases hx : O.2.2.2.2 i with
      | inl x =>
        have e4 : ∀ rf, am_v O.2.2.1 σ rf i = am_v O.2.2.1 (up2 σ c k v) rf i := fun rf => by funext k; unfold am_v; rw [e3]
        simp only [e4]
      | inr x => cases x with
        | inl y => simp only [e3]
        | inr y => rfl
  · have h0 : (am_ws O (up2 σ c k v))[i]? = none := by simp [am_ws]; omega
    have h1 : (am_ws O σ)[i]? = none := by simp [am_ws]; omega
    rw [h0]
    by_cases e : c = i
    · rw [if_pos e, if_neg (by subst e; simpa [am_ws] using hi)]
    · rw [if_neg e, h1]
/-- a row's contents exchanged -/
theorem am_putF (O : am_O) (σ σ' : Sg) {c ti n : Nat} (hL : O.2.2.2.2 c = .inr (.inl (ti, n))) (ho : ∀ i, i ≠ c → σ' i = σ i) :
    (am_ws O σ).set c (O.2.2.1 c, .inl (O.2.1 ti, n, .inl (σ' c))) = am_ws O σ' := by
  apply List.ext_getElem?
  intro i
  rw [List.getElem?_set]
  by_cases hi : i < O.2.2.2.1
  · rw [am_get O σ' hi]
    by_cases e : c = i
    · subst e
      rw [if_pos rfl, if_pos (by simpa [am_ws] using hi), hL]
      rfl
    · rw [if_neg e, am_get O σ hi]
      have e3 : σ' i = σ i := ho i (Ne.symm e)
      refine congrArg some (congrArg (Prod.mk _) ?_)
      unfold am_e
      cases hx : O.2.2.2.2 i with
      | inl x =>
        have e4 : ∀ rf, am_v O.2.2.1 σ rf i = am_v O.2.2.1 σ' rf i := fun rf => by funext k; unfold am_v; rw [e3]
        simp only [e4]
      | inr x => cases x with
        | inl y => simp only [e3]
        | inr y => rfl
  · have h0 : (am_ws O σ')[i]? = none := by simp [am_ws]; omega
    have h1 : (am_ws O σ)[i]? = none := by simp [am_ws]; omega
    rw [h0]
    by_cases e : c = i
    · rw [if_pos e, if_neg (by subst e; simpa [am_ws] using hi)]
    · rw [if_neg e, h1]
theorem am_putA (O : am_O) (σ : Sg) {c ti n : Nat} (hL : O.2.2.2.2 c = .inr (.inl (ti, n))) (k : Nat) (v : Int32) :
    (am_ws O σ).set c (O.2.2.1 c, .inl (O.2.1 ti, n, .inl (upd (σ c) k v))) = am_ws O (up2 σ c k v) := by
  have h := am_putF O σ (up2 σ c k v) hL (fun i hi => by simp [up2, hi])
  have e : (up2 σ c k v) c = upd (σ c) k v := by simp [up2]
  rw [e] at h
  exact h
theorem am_cpA (O : am_O) (σ : Sg) {c1 ti n : Nat} (hL : O.2.2.2.2 c1 = .inr (.inl (ti, n))) (c0 s0 d0 w : Nat) :
    (am_ws O σ).set c1 (O.2.2.1 c1, .inl (O.2.1 ti, n, .inl (va_cpy (σ c0) (σ c1) s0 d0 w))) = am_ws O (cp2 σ c0 s0 c1 d0 w) := by
  have h := am_putF O σ (cp2 σ c0 s0 c1 d0 w) hL (fun i hi => by simp [cp2, hi])
  have e : (cp2 σ c0 s0 c1 d0 w) c1 = va_cpy (σ c0) (σ c1) s0 d0 w := by simp [cp2]
  rw [e] at h
  exact h
/-- the tables' words that a callee's own words can't hold -/
def ne_links : List (String × Nat × MethodName × String) := [(RX9, 37, yX1_init, RX9), (RX9, 47, yX7_init, RX9), (RX9, 54, yX0_init, RX9), (RX9, 64, yX5_init, RX9), (RX9, 90, yX6_init, RX9), (RX2, 28, yX9_isBelow, RX9), (RX4, 21, yX9_isBelow, RX9), (RX6, 22, yX9_isBelow, RX9)]
def ne_decl : List MethodName := [⟨RX3, "takesByte", "(III)Z"⟩]
def am_Ne (U : State) : Prop := (∀ q ∈ ne_links, va_Nw (.methodLinkNest q.1 q.2.1 q.2.2.1 q.2.2.2) U) ∧ ∀ x ∈ ne_decl, va_Nw (.declares x) U
theorem am_Ne.warm {s U : State} (hW : s.WarmedH U.vm) (h : am_Ne s) : am_Ne U := ⟨fun q hq => va_Nw.warmM hW (h.1 q hq), fun x hx => va_Nw.warmD hW (h.2 x hx)⟩
theorem am_Ne.same {u U : State} (e : u.vm = U.vm) (h : am_Ne u) : am_Ne U := ⟨fun q hq => va_Nw.same rfl e (h.1 q hq), fun x hx => va_Nw.same rfl e (h.2 x hx)⟩
/-- the machine's part of a walk -/
abbrev am_M := Program × Launch × Env × State × MethodId × Array Value × List Frame × Method × Code
/-- what holds of a walk throughout: machine, code, class, words, tables, addresses, answer's type -/
def am_X (M : am_M) (O : am_O) (cc : ByteArray) (own : String) (nL : Nat) (ret : Option FieldType) : Prop :=
  M.1.tables.exec = Jvm.exec ∧ M.2.2.2.2.2.2.2.2.code = cc ∧ M.2.2.2.2.2.2.2.2.maxLocals = nL ∧ M.2.2.2.1.vm.findClass own = some M.2.2.2.2.1.cls ∧ (∀ w ∈ bigw, w.before M.2.2.2.2.2.1 M.2.2.2.1 = true) ∧
  am_K O M.2.2.2.1 ∧ am_Dj O ∧ M.2.2.2.2.2.2.2.1.sig.returnType = ret ∧ M.2.2.2.2.2.2.2.1.locks = false ∧ am_Ne M.2.2.2.1
/-- from every heap that holds the cells, at this place, with these locals, the walk comes to its end -/
def am_At (M : am_M) (R : Room) (O : am_O) (Q : State → Prop) (nL : Nat) (pc : Nat) (lv : List (Nat × Value)) (st : List Value) (σ : Sg) : Prop :=
  ∀ (H : Heap) (locs : List Loc) (ls : Array Slot), am_P O σ H → va_S (am_A O M.2.2.2.1.heap.size) M.2.2.2.1.heap H locs → lv_has ls nL lv →
    W M.1 M.2.1 M.2.2.1 R M.2.2.2.1 M.2.2.2.2.1 M.2.2.2.2.2.1 M.2.2.2.2.2.2.1 M.2.2.2.2.2.2.2.1 M.2.2.2.2.2.2.2.2 H locs 0 0 Q (F0 M.2.2.2.2.1 pc ls st)
/-- the end of a method: this answer, these cells, nothing else touched -/
def am_Qc (O : am_O) (A : Nat → Prop) (σ' : Sg) (rv : Option Value) : Array Value → State → Outcome → State → Prop := fun _ st oc t =>
  (oc = .returned rv ∧ am_P O σ' t.heap) ∧ va_F A st t
abbrev am_Q (M : am_M) (O : am_O) (σ' : Sg) (rv : Option Value) : State → Prop := MQ M.2.2.2.2.2.2.1 (am_Qc O (am_A O M.2.2.2.1.heap.size) σ' rv) M.2.2.2.2.2.1 M.2.2.2.1 0 0 (am_A O M.2.2.2.1.heap.size)
def am_Pre (O : am_O) (σ : Sg) (sz : Nat) (U : State) : Prop := U.heap.size = sz ∧ am_P O σ U.heap ∧ am_K O U ∧ am_Dj O ∧ am_Ne U
/-- a method's contract: from these cells with these arguments it returns this answer and leaves these cells -/
def am_Met (l : Launch) (y : MethodName) (cc : ByteArray) (maxL : Nat) (ret : Option FieldType) (rm : Room) (NC : Nat) (LY : Nat → am_C) (av : (Nat → Nat) → List Value) (σ σ' : Sg) (rv : (Nat → Nat) → Option Value) : Prop :=
  ∀ (D : va_G) (cT : Nat → ClassId) (ad : Nat → Nat) (sz : Nat), Met l y (.code y cc maxL ret :: bigw) rm (va_Pc (av ad) (am_Pre (D, cT, ad, NC, LY) σ sz)) (am_Qc (D, cT, ad, NC, LY) (am_A (D, cT, ad, NC, LY) sz) σ' (rv ad)) 0 0 (am_A (D, cT, ad, NC, LY) sz)
