/-! constructors: a growing world, a list of cells; a walk as a judgement on it -/
def ct_X (M : am_M) (D : va_G) (cT : Nat → ClassId) (A : Nat → Prop) (cc : ByteArray) (own : String) (nL : Nat) (P : Prop) : Prop :=
  M.1.tables.exec = Jvm.exec ∧ M.2.2.2.2.2.2.2.2.code = cc ∧ M.2.2.2.2.2.2.2.2.maxLocals = nL ∧ M.2.2.2.1.vm.findClass own = some M.2.2.2.2.1.cls ∧ (∀ w ∈ bigw, w.before M.2.2.2.2.2.1 M.2.2.2.1 = true) ∧
  va_K D vwCl (am_tys cT) M.2.2.2.1 ∧ (∀ q, M.2.2.2.1.heap.size ≤ q → A q) ∧ (P → M.2.2.2.2.2.2.2.1.sig.returnType = none) ∧ M.2.2.2.2.2.2.2.1.locks = false ∧ am_Ne M.2.2.2.1 ∧ va_AO RX6 M.2.2.2.1 ∧ (P → M.2.2.2.2.2.2.2.1.name = "<init>")
def ct_At (M : am_M) (R : Room) (D : va_G) (A : Nat → Prop) (Q : State → Prop) (nL cells slots pc : Nat) (lv : List (Nat × Value)) (st : List Value) (ws : va_W) : Prop :=
  ∀ (H : Heap) (locs : List Loc) (ls : Array Slot), va_P D vwCl ws H → va_D A ws → va_S A M.2.2.2.1.heap H locs → lv_has ls nL lv →
    W M.1 M.2.1 M.2.2.1 R M.2.2.2.1 M.2.2.2.2.1 M.2.2.2.2.2.1 M.2.2.2.2.2.2.1 M.2.2.2.2.2.2.2.1 M.2.2.2.2.2.2.2.2 H locs cells slots Q (F0 M.2.2.2.2.1 pc ls st)
theorem am_tyI {D : va_G} {cT : Nat → ClassId} {s : State} {cA : ClassId} {ty : FieldType} {i : Nat} (h : va_K D vwCl (am_tys cT ++ [(cA, ty)]) s) (hi : (am_tys cT)[i]? = some (cT i, ty)) : cA = cT i := by
  have h1 := (h.2 3 (cA, ty) rfl).2
  have hlt : i < (am_tys cT).length := (List.getElem?_eq_some_iff.mp hi).1
  have h2 := (h.2 i (cT i, ty) (by rw [List.getElem?_append_left hlt]; exact hi)).2
  cases ty with
  | object C =>
    obtain ⟨-, -, -, -, -, h3⟩ := h1
    obtain ⟨-, -, -, -, -, h4⟩ := h2
    exact Option.some.inj (h3.symm.trans h4)
  | _ =>
    have h3 : s.vm.findClass _ = some cA := h1
    have h4 : s.vm.findClass _ = some (cT i) := h2
    exact Option.some.inj (h3.symm.trans h4)
section CT
variable {M : am_M} {R : Room} {D : va_G} {cT : Nat → ClassId} {A : Nat → Prop} {Q : State → Prop} {nL cells slots : Nat} {cc : ByteArray} {own : String} {pc : Nat} {lv : List (Nat × Value)} {st : List Value} {ws : va_W} {P : Prop}
theorem ct_ws {ws' : va_W} (e : ws = ws') (k : ct_At M R D A Q nL cells slots pc lv st ws') : ct_At M R D A Q nL cells slots pc lv st ws := e ▸ k
theorem ct_top {v v' : Value} (e : v = v') (k : ct_At M R D A Q nL cells slots pc lv (v' :: st) ws) : ct_At M R D A Q nL cells slots pc lv (v :: st) ws := e ▸ k
theorem ct_lv {lv' : List (Nat × Value)} (e : lv = lv') (k : ct_At M R D A Q nL cells slots pc lv' st ws) : ct_At M R D A Q nL cells slots pc lv st ws := e ▸ k
theorem ct_iconst (X : ct_X M D cT A cc own nL P) {n : Int} {v : Int32} (hdg : decode cc pc = .ok (.iconst n, 1)) (hv : Int32.ofInt n = v) (k : ct_At M R D A Q nL cells slots (pc + 1) lv (.int v :: st) ws) : ct_At M R D A Q nL cells slots pc lv st ws := fun H locs ls hP hD hS hl => lv_iconst X.1 X.2.1 hdg hv (k H locs ls hP hD hS hl)
theorem ct_bipush (X : ct_X M D cT A cc own nL P) {n : Int} {v : Int32} (hdg : decode cc pc = .ok (.bipush n, 2)) (hv : (Int8.ofInt n).toInt32 = v) (k : ct_At M R D A Q nL cells slots (pc + 2) lv (.int v :: st) ws) : ct_At M R D A Q nL cells slots pc lv st ws := fun H locs ls hP hD hS hl => lv_bipush X.1 X.2.1 hdg hv (k H locs ls hP hD hS hl)
theorem ct_sipush (X : ct_X M D cT A cc own nL P) {n : Int} {v : Int32} (hdg : decode cc pc = .ok (.sipush n, 3)) (hv : (Int16.ofInt n).toInt32 = v) (k : ct_At M R D A Q nL cells slots (pc + 3) lv (.int v :: st) ws) : ct_At M R D A Q nL cells slots pc lv st ws := fun H locs ls hP hD hS hl => lv_sipush X.1 X.2.1 hdg hv (k H locs ls hP hD hS hl)
theorem ct_iload_n (X : ct_X M D cT A cc own nL P) {k : Fin 4} {i : Nat} {x : Int32} (hdg : decode cc pc = .ok (.iload_n k, 1)) (hi : (k : Nat) = i) (j : Nat) (hj : lv[j]? = some (i, .int x)) (kk : ct_At M R D A Q nL cells slots (pc + 1) lv (.int x :: st) ws) : ct_At M R D A Q nL cells slots pc lv st ws := fun H locs ls hP hD hS hl => lv_iload_n X.1 X.2.1 hdg hi (lv_at hl j hj) (kk H locs ls hP hD hS hl)
theorem ct_aload_n (X : ct_X M D cT A cc own nL P) {k : Fin 4} {i : Nat} {x : Nat} (hdg : decode cc pc = .ok (.aload_n k, 1)) (hi : (k : Nat) = i) (j : Nat) (hj : lv[j]? = some (i, .ref x)) (kk : ct_At M R D A Q nL cells slots (pc + 1) lv (.ref x :: st) ws) : ct_At M R D A Q nL cells slots pc lv st ws := fun H locs ls hP hD hS hl => lv_aload_n X.1 X.2.1 hdg hi (lv_at hl j hj) (kk H locs ls hP hD hS hl)
theorem ct_istore_n (X : ct_X M D cT A cc own nL P) {k : Fin 4} {i : Nat} {x : Int32} (lv' : List (Nat × Value)) (hdg : decode cc pc = .ok (.istore_n k, 1)) (hi : (k : Nat) = i) (hn : i < nL) (hf : (i, Value.int x) :: lv.filter (fun q => !(q.1 == i) && !(q.1 + 1 == i && q.2.category == 2)) = lv') (kk : ct_At M R D A Q nL cells slots (pc + 1) lv' st ws) : ct_At M R D A Q nL cells slots pc lv (.int x :: st) ws := fun H locs ls hP hD hS hl => lv_istore_n X.1 X.2.1 hdg hi hl hn hf (fun ls hl => kk H locs ls hP hD hS hl)
theorem ct_iinc (X : ct_X M D cT A cc own nL P) {i : Nat} {n : Int} {x v : Int32} (lv' : List (Nat × Value)) (hdg : decode cc pc = .ok (.iinc i n, 3)) (j : Nat) (hj : lv[j]? = some (i, .int x)) (hv : x + Int32.ofInt n = v) (hn : i < nL) (hf : (i, Value.int v) :: lv.filter (fun q => !(q.1 == i) && !(q.1 + 1 == i && q.2.category == 2)) = lv') (kk : ct_At M R D A Q nL cells slots (pc + 3) lv' st ws) : ct_At M R D A Q nL cells slots pc lv st ws := fun H locs ls hP hD hS hl => lv_iinc X.1 X.2.1 hdg hl hj hv hn hf (fun ls hl => kk H locs ls hP hD hS hl)
theorem ct_astore_n (X : ct_X M D cT A cc own nL P) {k : Fin 4} {i : Nat} {x : Nat} (lv' : List (Nat × Value)) (hdg : decode cc pc = .ok (.astore_n k, 1)) (hi : (k : Nat) = i) (hn : i < nL) (hf : (i, Value.ref x) :: lv.filter (fun q => !(q.1 == i) && !(q.1 + 1 == i && q.2.category == 2)) = lv') (kk : ct_At M R D A Q nL cells slots (pc + 1) lv' st ws) : ct_At M R D A Q nL cells slots pc lv (.ref x :: st) ws := fun H locs ls hP hD hS hl => lv_astore_n X.1 X.2.1 hdg hi hl hn hf (fun ls hl => kk H locs ls hP hD hS hl)
theorem ct_dup (X : ct_X M D cT A cc own nL P) {va : Value} (hdg : decode cc pc = .ok (.dup, 1)) (hva : va.category = 1) (k : ct_At M R D A Q nL cells slots (pc + 1) lv (va :: va :: st) ws) : ct_At M R D A Q nL cells slots pc lv (va :: st) ws := fun H locs ls hP hD hS hl => lv_dup X.1 X.2.1 hdg hva (k H locs ls hP hD hS hl)
theorem ct_goto (X : ct_X M D cT A cc own nL P) {off : Int} (tgt : Nat) (hdg : decode cc pc = .ok (.goto off, 3)) (ht : (pc : Int) + off = (tgt : Int)) (k : ct_At M R D A Q nL cells slots tgt lv st ws) : ct_At M R D A Q nL cells slots pc lv st ws := fun H locs ls hP hD hS hl => lv_goto X.1 X.2.1 hdg ht (k H locs ls hP hD hS hl)
theorem ct_geT (X : ct_X M D cT A cc own nL P) {x y : Int32} {off : Int} (tgt : Nat) (hdg : decode cc pc = .ok (.if_icmp .ge off, 3)) (ht : (pc : Int) + off = (tgt : Int)) (hc : y ≤ x) (k : ct_At M R D A Q nL cells slots tgt lv st ws) : ct_At M R D A Q nL cells slots pc lv (.int y :: .int x :: st) ws := fun H locs ls hP hD hS hl => lv_icmp_ge X.1 X.2.1 hdg ht (fun _ => k H locs ls hP hD hS hl) (fun q => absurd hc q)
theorem ct_geF (X : ct_X M D cT A cc own nL P) {x y : Int32} {off : Int} (tgt : Nat) (hdg : decode cc pc = .ok (.if_icmp .ge off, 3)) (ht : (pc : Int) + off = (tgt : Int)) (hc : ¬ y ≤ x) (k : ct_At M R D A Q nL cells slots (pc + 3) lv st ws) : ct_At M R D A Q nL cells slots pc lv (.int y :: .int x :: st) ws := fun H locs ls hP hD hS hl => lv_icmp_ge X.1 X.2.1 hdg ht (fun q => absurd q hc) (fun _ => k H locs ls hP hD hS hl)
theorem ct_objInit (X : ct_X M D cT A cc own nL P) {idx a : Nat} (h1 : Cond.methodLink own idx objectInit ∈ bigw) (h2 : Cond.instanceMethod objectInit ∈ bigw) (h3 : Cond.code objectInit ⟨#[0xb1]⟩ 1 none ∈ bigw) (hf : 1 ≤ R.frames) (hlo : (st.map fun v => v.category).sum + 12 ≤ R.locals) (hdg : decode cc pc = .ok (.invokespecial idx, 3)) (k : ct_At M R D A Q nL cells slots (pc + 3) lv st ws) : ct_At M R D A Q nL cells slots pc lv (.ref a :: st) ws := fun H locs ls hP hD hS hl =>
  W.objInit X.1 X.2.1 X.2.2.2.1 (X.2.2.2.2.1 _ h1) (X.2.2.2.2.1 _ h2) (X.2.2.2.2.1 _ h3) rfl (hl.1.trans X.2.2.1.symm) rfl hdg hf (by show 2 * 0 + _ + 12 ≤ _; omega) (k H locs ls hP hD hS hl)
theorem ct_new (X : ct_X M D cT A cc own nL P) {idx ci N : Nat} {C : String} {T : u_T} (ty : Nat → FieldType) (hty : ∀ k, k < N → parseFieldDescriptor (T k).2.2.1 = some (ty k)) (hcl : vwCl[ci]? = some (C, T, N)) (hin : ∀ w ∈ u_ws C T N, w ∈ bigw) (h1 : Cond.classLink own idx C ∈ bigw) (h2 : Cond.instantiable C N ∈ bigw) (h3 : Cond.initialized C ∈ bigw) (fs : List Value) (hfs : ∀ j, j < N → defaultValue (ty j) = vp_V fs j) (hc : cells + 1 ≤ R.cells) (hs : slots + N ≤ R.slots) (hdg : decode cc pc = .ok (.new idx, 3))
    (k : ∀ q : Nat, ct_At M R D A Q nL (cells + 1) (slots + N) (pc + 3) lv (.ref q :: st) (ws ++ [(q, .inr (ci, fs))])) : ct_At M R D A Q nL cells slots pc lv st ws := fun H locs ls hP hD hS hl =>
  va_new (D := D) X.1 X.2.1 X.2.2.2.2.1 hin ty hty X.2.2.2.1 (X.2.2.2.2.1 _ h1) (X.2.2.2.2.1 _ h2) (X.2.2.2.2.1 _ h3) X.2.2.2.2.2.1 hP hD hS X.2.2.2.2.2.2.1 hcl hfs hc hs hdg (fun q H1 hP hD hS => k q H1 locs ls hP hD hS hl)
theorem ct_newI (X : ct_X M D cT A cc own nL P) {n : Int32} (N : Nat) (hw : Cond.arrayClass .int ∈ bigw) (hn : ¬ n < 0) (hN : n.toNatClampNeg = N) (hby : N * componentBytes .int ≤ 536870912) (hc : cells + 1 ≤ R.cells) (hs : slots + N ≤ R.slots) (hdg : decode cc pc = .ok (.newarray .int, 2))
    (k : ∀ q : Nat, ct_At M R D A Q nL (cells + 1) (slots + N) (pc + 2) lv (.ref q :: st) (ws ++ [(q, .inl (cT 0, N, .inl (fun _ => 0)))])) : ct_At M R D A Q nL cells slots pc lv (.int n :: st) ws := fun H locs ls hP hD hS hl => by
  refine va_newa (D := D) (atype := .int) (ty := .int) (a0 := (N, .inl (fun _ => 0))) X.1 X.2.1 (X.2.2.2.2.1 _ hw) rfl X.2.2.2.2.2.1 hP hD hS X.2.2.2.2.2.2.1 (fun _ => rfl) hn hN hby hc hs hdg (fun q cA H1 hK1 hP1 hD1 hS1 => ?_)
  have e := am_tyI (i := 0) hK1 rfl
  subst e
  exact k q H1 locs ls hP1 hD1 hS1 hl
theorem ct_newZ (X : ct_X M D cT A cc own nL P) {n : Int32} (N : Nat) (hw : Cond.arrayClass .boolean ∈ bigw) (hn : ¬ n < 0) (hN : n.toNatClampNeg = N) (hby : N * componentBytes .boolean ≤ 536870912) (hc : cells + 1 ≤ R.cells) (hs : slots + N ≤ R.slots) (hdg : decode cc pc = .ok (.newarray .boolean, 2))
    (k : ∀ q : Nat, ct_At M R D A Q nL (cells + 1) (slots + N) (pc + 2) lv (.ref q :: st) (ws ++ [(q, .inl (cT 1, N, .inl (fun _ => 0)))])) : ct_At M R D A Q nL cells slots pc lv (.int n :: st) ws := fun H locs ls hP hD hS hl => by
  refine va_newa (D := D) (atype := .boolean) (ty := .boolean) (a0 := (N, .inl (fun _ => 0))) X.1 X.2.1 (X.2.2.2.2.1 _ hw) rfl X.2.2.2.2.2.1 hP hD hS X.2.2.2.2.2.2.1 (fun _ => rfl) hn hN hby hc hs hdg (fun q cA H1 hK1 hP1 hD1 hS1 => ?_)
  have e := am_tyI (i := 1) hK1 rfl
  subst e
  exact k q H1 locs ls hP1 hD1 hS1 hl
theorem ct_anew (X : ct_X M D cT A cc own nL P) {n : Int32} {idx : Nat} (N : Nat) (h1 : Cond.classLink own idx RX6 ∈ bigw) (hn : ¬ n < 0) (hN : n.toNatClampNeg = N) (hby : N * 4 ≤ 536870912) (hc : cells + 1 ≤ R.cells) (hs : slots + N ≤ R.slots) (hdg : decode cc pc = .ok (.anewarray idx, 3))
    (k : ∀ q : Nat, ct_At M R D A Q nL (cells + 1) (slots + N) (pc + 3) lv (.ref q :: st) (ws ++ [(q, .inl (cT 2, N, .inr (.inr (.inr (.inr (fun _ => none))))))])) : ct_At M R D A Q nL cells slots pc lv (.int n :: st) ws := fun H locs ls hP hD hS hl => by
  refine va_newq (D := D) X.1 X.2.1 X.2.2.2.1 (X.2.2.2.2.1 _ h1) X.2.2.2.2.2.2.2.2.2.2.1 X.2.2.2.2.2.1 hP hD hS X.2.2.2.2.2.2.1 hn hN hby hc hs hdg (fun q cA H1 hK1 hP1 hD1 hS1 => ?_)
  have e := am_tyI (i := 2) hK1 rfl
  subst e
  exact k q H1 locs ls hP1 hD1 hS1 hl
/-- a final field that the constructor puts -/
def ct_Ff (own : String) (idx ci k N : Nat) (ty : FieldType) : Prop := ∃ (C : String) (T : u_T) (ref : String) (ty0 : Nat → FieldType), vwCl[ci]? = some (C, T, N) ∧ (∀ w ∈ u_ws C T N, w ∈ bigw) ∧ k < N ∧ Cond.fieldLink own idx ref (T k).2.1 (T k).2.2.1 ∈ bigw ∧ ((T k).1 = ref ∨ Cond.sameField ref (T k).1 (T k).2.1 (T k).2.2.1 ∈ bigw) ∧
  (∀ k, k < N → parseFieldDescriptor (T k).2.2.1 = some (ty0 k)) ∧ (∀ a, a < N → ∀ b, b < N → a ≠ b → (T a).2.1 ≠ (T b).2.1) ∧ (T k).2.2.2 = true ∧ parseFieldDescriptor (T k).2.2.1 = some ty ∧ (T k).1 = own
theorem ct_put (X : ct_X M D cT A cc own nL P) {idx ci k N a : Nat} {ty : FieldType} {v : Value} {fs : List Value} (F : am_Fp own idx ci k N ty) (q0 : Nat) (he : ws[q0]? = some (a, .inr (ci, fs))) (hn : narrow ty v = v) (hfit : fits ty v = true) (hl2 : k < fs.length) (hdg : decode cc pc = .ok (.putfield idx, 3)) {ws' : va_W} (hws : ws.set q0 (a, .inr (ci, fs.set k v)) = ws') (kk : ct_At M R D A Q nL cells slots (pc + 3) lv st ws') : ct_At M R D A Q nL cells slots pc lv (v :: .ref a :: st) ws := fun H locs ls hP hD hS hl => by
  obtain ⟨C, T, ref, ty0, h1, h2, h3, h4, h5, h6, h7, h8, h9⟩ := F
  subst hws
  exact va_put (D := D) X.1 X.2.1 X.2.2.2.2.1 h2 ty0 h6 h7 X.2.2.2.1 X.2.2.2.2.2.1 hP hD hS q0 he h1 k h3 (X.2.2.2.2.1 _ h4) (am_same X.2.2.2.2.1 h5) h8 h9 hn hfit hl2 hdg (fun H1 locs1 hP1 hD1 hS1 => kk H1 locs1 ls hP1 hD1 hS1 hl)
theorem ct_putF (X : ct_X M D cT A cc own nL True) {idx ci k N a : Nat} {ty : FieldType} {v : Value} {fs : List Value} (F : ct_Ff own idx ci k N ty) (q0 : Nat) (he : ws[q0]? = some (a, .inr (ci, fs))) (hn : narrow ty v = v) (hfit : fits ty v = true) (hl2 : k < fs.length) (hdg : decode cc pc = .ok (.putfield idx, 3)) {ws' : va_W} (hws : ws.set q0 (a, .inr (ci, fs.set k v)) = ws') (kk : ct_At M R D A Q nL cells slots (pc + 3) lv st ws') : ct_At M R D A Q nL cells slots pc lv (v :: .ref a :: st) ws := fun H locs ls hP hD hS hl => by
  obtain ⟨C, T, ref, ty0, h1, h2, h3, h4, h5, h6, h7, h8, h9, h10⟩ := F
  subst hws
  exact va_putF (D := D) X.1 X.2.1 X.2.2.2.2.1 h2 ty0 h6 h7 X.2.2.2.1 X.2.2.2.2.2.1 hP hD hS q0 he h1 k h3 (X.2.2.2.2.1 _ h4) (am_same X.2.2.2.2.1 h5) h8 (X.2.2.2.2.2.2.2.2.2.2.2 trivial) h10 h9 hn hfit hl2 hdg (fun H1 locs1 hP1 hD1 hS1 => kk H1 locs1 ls hP1 hD1 hS1 hl)
theorem ct_get (X : ct_X M D cT A cc own nL P) {idx ci k N a : Nat} {v : Value} {fs : List Value} (F : am_Fg own idx ci k N) (q0 : Nat) (he : ws[q0]? = some (a, .inr (ci, fs))) (hv : fs[k]? = some v) (hdg : decode cc pc = .ok (.getfield idx, 3)) (kk : ct_At M R D A Q nL cells slots (pc + 3) lv (v :: st) ws) : ct_At M R D A Q nL cells slots pc lv (.ref a :: st) ws := fun H locs ls hP hD hS hl => by
  obtain ⟨C, T, ref, h1, h2, h3, h4, h5⟩ := F
  exact va_get (D := D) X.1 X.2.1 X.2.2.2.2.1 h2 X.2.2.2.1 X.2.2.2.2.2.1 hP q0 he h1 k h3 (X.2.2.2.2.1 _ h4) (am_same X.2.2.2.2.1 h5) hv hdg (kk H locs ls hP hD hS hl)
theorem ct_aast (X : ct_X M D cT A cc own nL P) {a v n : Nat} {vs : List Value} {f : Nat → Option Nat} {i : Int32} (q0 qk : Nat) (ha : ws[q0]? = some (a, .inl (cT 2, n, .inr (.inr (.inr (.inr f)))))) (hv : ws[qk]? = some (v, .inr (5, vs))) (hin : vp_in i n) (hdg : decode cc pc = .ok (.aastore, 1)) {ws' : va_W} (hws : ws.set q0 (a, .inl (cT 2, n, .inr (.inr (.inr (.inr (va_up f i.toNatClampNeg (some v))))))) = ws') (kk : ct_At M R D A Q nL cells slots (pc + 1) lv st ws') : ct_At M R D A Q nL cells slots pc lv (.ref v :: .int i :: .ref a :: st) ws := fun H locs ls hP hD hS hl => by
  subst hws
  exact va_astq (D := D) X.1 X.2.1 X.2.2.2.2.2.1 hP hD hS q0 2 qk 5 (r := (RX6, TX6, 3)) ha rfl hv rfl hin hdg (fun H1 locs1 hP1 hD1 hS1 => kk H1 locs1 ls hP1 hD1 hS1 hl)
theorem ct_mmax (X : ct_X M D cT A cc own nL P) {idx : Nat} {x y : Int32} (hw : Cond.methodLink own idx Lib.Math.max.name ∈ bigw ∧ Cond.static Lib.Math.max.name ∈ bigw ∧ Cond.initialized "java/lang/Math" ∈ bigw ∧ Cond.code Lib.Math.max.name Lib.Math.max.code 2 (some .int) ∈ bigw) (hf : 1 ≤ R.frames) (hlo : (st.map fun v => v.category).sum + 13 ≤ R.locals) (hc : cells ≤ R.cells) (hs : slots ≤ R.slots) (hdg : decode cc pc = .ok (.invokestatic idx, 3)) (k : ct_At M R D A Q nL cells slots (pc + 3) lv (.int (if x < y then y else x) :: st) ws) : ct_At M R D A Q nL cells slots pc lv (.int y :: .int x :: st) ws := fun H locs ls hP hD hS hl =>
  va_mmax X.1 X.2.1 (X.2.2.1.trans hl.1.symm) X.2.2.2.1 (X.2.2.2.2.1 _ hw.1) (X.2.2.2.2.1 _ hw.2.1) (X.2.2.2.2.1 _ hw.2.2.1) (X.2.2.2.2.1 _ hw.2.2.2) hf hlo hc hs hdg (k H locs ls hP hD hS hl)
theorem ct_mmin (X : ct_X M D cT A cc own nL P) {idx : Nat} {x y : Int32} (hw : Cond.methodLink own idx Lib.Math.min.name ∈ bigw ∧ Cond.static Lib.Math.min.name ∈ bigw ∧ Cond.initialized "java/lang/Math" ∈ bigw ∧ Cond.code Lib.Math.min.name Lib.Math.min.code 2 (some .int) ∈ bigw) (hf : 1 ≤ R.frames) (hlo : (st.map fun v => v.category).sum + 13 ≤ R.locals) (hc : cells ≤ R.cells) (hs : slots ≤ R.slots) (hdg : decode cc pc = .ok (.invokestatic idx, 3)) (k : ct_At M R D A Q nL cells slots (pc + 3) lv (.int (if y < x then y else x) :: st) ws) : ct_At M R D A Q nL cells slots pc lv (.int y :: .int x :: st) ws := fun H locs ls hP hD hS hl =>
  va_mmin X.1 X.2.1 (X.2.2.1.trans hl.1.symm) X.2.2.2.1 (X.2.2.2.2.1 _ hw.1) (X.2.2.2.2.1 _ hw.2.1) (X.2.2.2.2.1 _ hw.2.2.1) (X.2.2.2.2.1 _ hw.2.2.2) hf hlo hc hs hdg (k H locs ls hP hD hS hl)
/-- a constructor's contract: the object as it was born; the cells behind it -/
def ct_Pre (D : va_G) (cT : Nat → ClassId) (w0 : va_W) (sz : Nat) (U : State) : Prop := U.heap.size = sz ∧ va_P D vwCl w0 U.heap ∧ va_K D vwCl (am_tys cT) U ∧ va_D (fun _ => True) w0 ∧ am_Ne U ∧ va_AO RX6 U
def ct_Qc (D : va_G) (A : Nat → Prop) (w1 : (Nat → Nat) → va_W) : Array Value → State → Outcome → State → Prop := fun _ st oc t => (∃ ad : Nat → Nat, oc = .returned none ∧ va_P D vwCl (w1 ad) t.heap ∧ va_D A (w1 ad)) ∧ va_F A st t
def ct_Met (l : Launch) (y : MethodName) (cY : ByteArray) (mY : Nat) (rm : Room) (avs : List Value) (ci : Nat) (fs : List Value) (w1 : (Nat → ClassId) → Nat → (Nat → Nat) → va_W) (mc ms : Nat) : Prop :=
  ∀ (D : va_G) (cT : Nat → ClassId) (h0 : Nat) (sz : Nat), Met l y (.code y cY mY none :: bigw) rm (va_Pc (.ref h0 :: avs) (ct_Pre D cT [(h0, .inr (ci, fs))] sz)) (ct_Qc D (va_A [(h0, .inr (ci, fs))] sz) (w1 cT h0)) mc ms (va_A [(h0, .inr (ci, fs))] sz)
theorem ct_blind {cT : Nat → ClassId} {D : va_G} {w0 : va_W} {sz : Nat} {av : List Value} : FrameBlind (va_Pc av (ct_Pre D cT w0 sz)) := fun a U g mk q => by
  obtain ⟨h1, h2, h3, h4, h5, h6, h7⟩ := q
  exact ⟨h1, h2, h3, va_K.moved (u := U) (U := U.calling g mk a) (Vm.Alike.refl U.vm) h4, h5, h6.same rfl, va_AO.moved (u := U) (U := U.calling g mk a) (Vm.Alike.refl U.vm) h7⟩
theorem ct_back {H : Heap} {locs : List Loc} {ls : Array Slot} {st0 rest : List Value} {w1 : (Nat → Nat) → va_W} {wc wr : va_W} {mc ms : Nat} {a : Array Value} (X : ct_X M D cT A cc own nL P) (hP : va_P D vwCl ws H) (hD : va_D A ws) (hS : va_S A M.2.2.2.1.heap H locs) (hl : lv_has ls nL lv)
    (isC isR : List Nat) (hC : isC.map (fun i => ws[i]?) = wc.map some) (hR : isR.map (fun i => ws[i]?) = wr.map some) (hn : va_nd isR = true) (hdis : ∀ i ∈ isR, i ∉ isC)
    (hr : va_Run M.1 M.2.1 M.2.2.1 R M.2.2.2.1 M.2.2.2.2.1 M.2.2.2.2.2.1 M.2.2.2.2.2.2.1 M.2.2.2.2.2.2.2.1 M.2.2.2.2.2.2.2.2 H locs cells slots mc ms (F0 M.2.2.2.2.1 pc ls st0) rest (ct_Qc D (va_A wc H.size) w1 a) (va_A wc H.size))
    (kk : ∀ ad : Nat → Nat, ct_At M R D A Q nL (cells + mc) (slots + ms) (pc + 3) lv rest (wr ++ w1 ad)) : W M.1 M.2.1 M.2.2.1 R M.2.2.2.1 M.2.2.2.2.1 M.2.2.2.2.2.1 M.2.2.2.2.2.2.1 M.2.2.2.2.2.2.2.1 M.2.2.2.2.2.2.2.2 H locs cells slots Q (F0 M.2.2.2.2.1 pc ls st0) := by
  intro T hT XX
  obtain ⟨v, st₀, t, T', L, h0, X', hL, e1, e2, ⟨⟨ad, hv, hp, hd⟩, hz, hk⟩, st⟩ := hr T hT XX
  cases hv
  rw [h0] at hz hk
  have hA : ∀ q, va_A wc H.size q → A q := va_free hD hS X.2.2.2.2.2.2.1 isC hC
  have hk1 : ∀ q : Nat, q < H.size → ¬ va_A wc H.size q → T'.heap[q]? = H[q]? := fun q h1 h2 => by rw [e1]; exact hk q h1 h2
  obtain ⟨hP2, hD2⟩ := va_join hP hD isC isR hC hR hn hdis hk1 hA (by rw [← e1] at hp; exact hp) hd
  obtain ⟨t2, a1, b1⟩ := kk ad T'.heap (locs ++ L) ls hP2 hD2 ⟨Nat.le_trans hS.1 (by rw [e1]; exact hz), fun q h1 h2 => by rw [hk1 q (Nat.lt_of_lt_of_le h1 hS.1) (fun z => h2 (hA q z))]; exact hS.2.1 q h1 h2, fun q hq => by
      rcases List.mem_append.mp hq with h | h
      · exact hS.2.2 q h
      · exact hA _ (hL q h)⟩ hl T' rfl X'
  exact ⟨t2, st t2 a1, b1⟩
def ct_Ci (own : String) (idx : Nat) (y : MethodName) (cY : ByteArray) (mY n : Nat) : Prop := GoodIn bigw (.code y cY mY none :: bigw) ∧ (Cond.methodLink own idx y ∈ bigw ∨ (own, idx, y, RX9) ∈ ne_links) ∧ Cond.instanceMethod y ∈ bigw ∧ Cond.initialized y.cls ∈ bigw ∧ y.name = "<init>" ∧ (y.cls ≠ "java/lang/invoke/MethodHandle" ∧ y.cls ≠ "java/lang/invoke/VarHandle" ∧ (parseMethodDescriptor y.desc).map (fun d => d.parameters.length) = some n)
theorem ct_callI (X : ct_X M D cT A cc own nL P) {idx ci c mY n mc ms : Nat} {y : MethodName} {cY : ByteArray} {rm : Room} {avs fs rest : List Value} {w1 : (Nat → ClassId) → Nat → (Nat → Nat) → va_W} {wr : va_W} (cw : ct_Ci own idx y cY mY n) (hM : ct_Met M.2.1 y cY mY rm avs ci fs w1 mc ms) (isC isR : List Nat) (hC : isC.map (fun i => ws[i]?) = ([(c, .inr (ci, fs))] : va_W).map some) (hR : isR.map (fun i => ws[i]?) = wr.map some) (hnd : va_nd isR = true) (hdis : ∀ i ∈ isR, i ∉ isC)
    (hn : avs.length = n) (hst : st = avs.reverse ++ .ref c :: rest) (hw : (rest.map fun v => v.category).sum ≤ 8) (hRm : (rm.cells = mc ∧ rm.slots = ms) ∧ rm.frames + 1 ≤ R.frames ∧ 8 + (mY + 11) + rm.locals ≤ R.locals) (hcr : cells + mc ≤ R.cells ∧ slots + ms ≤ R.slots) (hdg : decode cc pc = .ok (.invokespecial idx, 3))
    (kk : ∀ ad : Nat → Nat, ct_At M R D A Q nL (cells + mc) (slots + ms) (pc + 3) lv rest (wr ++ w1 cT c ad)) : ct_At M R D A Q nL cells slots pc lv st ws := fun H locs ls hP hD hS hl => by
  have hMM := hM D cT c H.size
  have hPc : va_P D vwCl [(c, .inr (ci, fs))] H := fun k q hk => by
    have hz : k < 1 := (List.getElem?_eq_some_iff.mp hk).1
    have h1 : (isC.map (fun i => ws[i]?))[k]? = some (some q) := by rw [hC, List.getElem?_map, hk]; rfl
    rw [List.getElem?_map] at h1
    cases hi : isC[k]? with
    | none => rw [hi] at h1; cases h1
    | some i => rw [hi] at h1; exact hP i q (Option.some.inj h1)
  have hDc : va_D (fun _ => True) ([(c, .inr (ci, fs))] : va_W) := ⟨fun i j p q hi hj _ => by
    have h1 : i < 1 := (List.getElem?_eq_some_iff.mp hi).1
    have h2 : j < 1 := (List.getElem?_eq_some_iff.mp hj).1
    omega, fun _ _ _ => trivial⟩
  refine ct_back (a := (Value.ref c :: avs).toArray) X hP hD hS hl isC isR hC hR hnd hdis ?_ kk
  have hpre : PreS M.2.2.2.1 H (va_Pc (.ref c :: avs) (ct_Pre D cT [(c, .inr (ci, fs))] H.size)) (.ref c :: avs) := ⟨ct_blind, fun U hU hW => ⟨rfl, by rw [hU], by rw [hU]; exact hPc, va_K.moved hW.alike X.2.2.2.2.2.1, hDc, X.2.2.2.2.2.2.2.2.2.1.warm hW, va_AO.moved hW.alike X.2.2.2.2.2.2.2.2.2.2.1⟩⟩
  rcases cw.2.1 with hlk | hlk
  · exact va_runI (As := avs) (rest := rest) (b := c) ⟨X.1, X.2.1, X.2.2.1, X.2.2.2.1, X.2.2.2.2.1⟩ hMM (cwI n X.2.2.2.2.1 cw.1 rfl hRm.1.1 hRm.1.2 (X.2.2.2.2.1 _ cw.2.2.2.1) (X.2.2.2.2.1 _ hlk) (X.2.2.2.2.1 _ cw.2.2.1) cw.2.2.2.2.1 cw.2.2.2.2.2 hRm.2) hpre rfl hn hl.1 hst (lv_room hw) hdg hcr
  · exact va_runIN (host := RX9) (As := avs) (rest := rest) (b := c) ⟨X.1, X.2.1, X.2.2.1, X.2.2.2.1, X.2.2.2.2.1⟩ hMM ⟨va_cnB n X.2.2.2.2.1 cw.1 rfl hRm.1.1 hRm.1.2 (X.2.2.2.2.2.2.2.2.2.1.1 _ hlk) (X.2.2.2.2.1 _ cw.2.2.2.1) cw.2.2.2.2.2 hRm.2, cw.2.2.2.2.1, X.2.2.2.2.1 _ cw.2.2.1⟩ hpre rfl hn hl.1 hst (lv_room hw) hdg hcr
abbrev ct_Q (M : am_M) (D : va_G) (A : Nat → Prop) (w1 : (Nat → Nat) → va_W) (mc ms : Nat) : State → Prop := MQ M.2.2.2.2.2.2.1 (ct_Qc D A w1) M.2.2.2.2.2.1 M.2.2.2.1 mc ms A
theorem ct_ret (X : ct_X M D cT A cc own nL True) {w1 : (Nat → Nat) → va_W} (ad : Nat → Nat) (hw : ws = w1 ad) (hdg : decode cc pc = .ok (.return_, 1)) : ct_At M R D A (ct_Q M D A w1 cells slots) nL cells slots pc lv [] ws := fun H locs ls hP hD hS hl => by
  subst hw
  exact W.vret X.1 X.2.1 (X.2.2.2.2.2.2.2.1 trivial) (fun t ht hW => ⟨⟨ad, rfl, by rw [ht]; exact hP, hD⟩, hS.F ht⟩) hS.2.2 hdg X.2.2.2.2.2.2.2.2.1
end CT
theorem ct_enter {l : Launch} {y : MethodName} {cY : ByteArray} {mY : Nat} {rm : Room} {avs : List Value} {ci : Nat} {fs : List Value} {w1 : (Nat → ClassId) → Nat → (Nat → Nat) → va_W} {mc ms : Nat} (hy : plainName y.cls = true) (hname : y.name = "<init>") (hav : ∀ h0, (lg_sl (.ref h0 :: avs)).length ≤ mY)
    (body : ∀ (M : am_M) (D : va_G) (cT : Nat → ClassId) (A : Nat → Prop) (h0 : Nat), M.2.1 = l → ct_X M D cT A cY y.cls mY True → ct_At M rm D A (ct_Q M D A (w1 cT h0) mc ms) mY 0 0 0 (lv_args 0 (.ref h0 :: avs)) [] [(h0, .inr (ci, fs))]) : ct_Met l y cY mY rm avs ci fs w1 mc ms := by
  intro D cT h0 sz
  refine Met.ofW (cc := cY) (maxL := mY) (ret := none) hy rfl ?_
  intro p e s m args below meth c s₁ B hml hv
  obtain ⟨rfl, hsz, hP, hK, hD, hN, hO⟩ := hv
  subst hsz
  have hts := atoms_spec (ws := .code y cY mY none :: bigw) B.pre
  have hl := lv_entry (.ref h0 :: avs) (hav h0)
  rw [lg_entry_eq]
  exact body (p, l, e, s, m, _, below, meth, c) D cT _ h0 rfl ⟨B.exec, B.bytes, hml, findClass_of_methodNamed B.named, fun w h => hts w (List.mem_cons_of_mem _ h), hK, fun q h => Or.inr h, fun _ => B.returns, B.notSynchronized, hN, hO, fun _ => (name_of_methodNamed B.named B.method).1.trans hname⟩ s.heap [] _ hP (hD.self (sz := s.heap.size)) va_S.rf hl
theorem ct_rowq {M : am_M} {R : Room} {D : va_G} {cT : Nat → ClassId} {A : Nat → Prop} {Q : State → Prop} {nL cells slots pc : Nat} {lv : List (Nat × Value)} {st : List Value} {ws ws' : va_W} {a n : Nat} {f f' : Nat → Option Nat} (q0 : Nat) (he : ws[q0]? = some (a, .inl (cT 2, n, .inr (.inr (.inr (.inr f)))))) (hf : ∀ j, j < n → f j = f' j) (hws : ws.set q0 (a, .inl (cT 2, n, .inr (.inr (.inr (.inr f'))))) = ws') (k : ct_At M R D A Q nL cells slots pc lv st ws') : ct_At M R D A Q nL cells slots pc lv st ws := fun H locs ls hP hD hS hl => by
  subst hws
  refine k H locs ls (hP.set hD he ?_ (fun _ _ => rfl)) (hD.set he) hS hl
  have h1 : H[a]? = some (vp_cell (cT 2) (n, .inr (.inr (.inr (.inr f))))) := hP q0 _ he
  show H[a]? = some (vp_cell (cT 2) (n, .inr (.inr (.inr (.inr f')))))
  rw [h1]
  refine congrArg some ?_
  show arrV (cT 2) n (fun j => va_rf (f j)) = arrV (cT 2) n (fun j => va_rf (f' j))
  unfold arrV
  have e : (fun j : Fin n => va_rf (f j.val)) = (fun j : Fin n => va_rf (f' j.val)) := funext fun j => by rw [hf j.val j.isLt]
  rw [e]
