/-! THE CLAIM OUT OF ONE WALK OF THE LAW'S BODY. Your part is whole_start (and what it stands on); all else here is the same for every law, but numbers. -/
def R_law : String := "PloughTurnsLaw"
def lw_P (b : Addr) (xs : List Int32) (args : Array Value) (s : State) : Prop := args = #[.ref b] ∧ s.IntsAt b xs ∧ xs.length ≤ 3072 ∧ (Jvm.Cond.and given_1 narrow_1).before args s = true
def lw_Q (_ : Array Value) (s : State) (o : Outcome) (t : State) : Prop := o = .returned (some (.int 1)) ∧ Framed s o t [] 600000 7302250
def lw_Z (below : List Frame) (a : Array Value) (s : State) : State → Prop := fun t => ∃ o, t.status = .running ∧ Ended t below o ∧ lw_Q a s o t
/-- the law's own end, with 1 on the stack, nothing written that was there before, its room as the claim has it -/
theorem lw_ret {p : Program} {l : Launch} {e : Env} {s : State} {m : MethodId} {below : List Frame} {meth : Method} {c : Code} {b : Nat} (hx : p.tables.exec = Jvm.exec) (hb : c.code = code) (hr : meth.sig.returnType = ret) (hlocks : meth.locks = false) {pc : Nat} {H : Heap} {ls : Array Slot} (hdg : decode code pc = .ok (.ireturn, 1)) : W p l e room_1 s m #[Value.ref b] below meth c H [] 600000 7302250 (lw_Z below #[Value.ref b] s) (F0 m pc ls [.int 1]) := by
  intro T hT X
  obtain ⟨fs, hret, hrun, hended, hW, hframe⟩ := X.leave (v := some (.int 1)) (hlocks := hlocks) (fun h => by rw [hr] at h; cases h)
  have hmeth' : T.vm.method? m = some meth := X.method'
  refine ⟨T.setFrames fs, ?_, .returned (some (.int 1)), hrun, hended, rfl, ⟨_, rfl⟩, hW, hframe⟩
  jvm_step X.here [X.here.top, hx, hb, hdg, hmeth', hr, ret, narrow_b1]
  (try refine ⟨rfl, ?_⟩); (try refine ⟨rfl, ?_⟩)
  first | (intro acts; rw [hret _ acts rfl rfl rfl]) | rw [hret _ _ rfl rfl rfl]
  exact Steps.refl _
/-- what holds at the law's entry: the machine, the code, the tables' words (any of lw_tbl by 'hts w (by decide +kernel)'), the script of L ints xs at the cell b, what the Statement gives of the start (any of its parts by flat_of_before) -/
def lw_At (p : Program) (s : State) (m : MethodId) (meth : Method) (c : Code) (b L : Nat) (xs : Nat → Int32) : Prop :=
  p.tables.exec = Jvm.exec ∧ c.code = code ∧ meth.sig.returnType = ret ∧ c.maxLocals = 4 ∧ s.vm.findClass R_law = some m.cls ∧ (∀ w ∈ lw_tbl, w.before #[Value.ref b] s = true) ∧ va_X b L xs s s.heap ∧ b < s.heap.size ∧ meth.locks = false ∧ (Jvm.Cond.and given_1 narrow_1).before #[Value.ref b] s = true

/-- the law's walk: from every heap that holds both systems -/
def lw_J (M : am_M) (OX OM : am_O) (b : Nat) (pc : Nat) (lv : List (Nat × Value)) (st : List Value) (σ τ : Sg) : Prop :=
  ∀ (H : Heap) (locs : List Loc) (ls : Array Slot), am_P OX σ H → am_P OM τ H → va_S (fun q => M.2.2.2.1.heap.size ≤ q) M.2.2.2.1.heap H locs → lv_has ls 4 lv →
    W M.1 M.2.1 M.2.2.1 room_1 M.2.2.2.1 M.2.2.2.2.1 #[Value.ref b] M.2.2.2.2.2.2.1 M.2.2.2.2.2.2.2.1 M.2.2.2.2.2.2.2.2 H locs 600000 7302250 (lw_Z M.2.2.2.2.2.2.1 #[Value.ref b] M.2.2.2.1) (F0 M.2.2.2.2.1 pc ls st)
def lw_X (M : am_M) (OX OM : am_O) (b L : Nat) (xs : Nat → Int32) : Prop :=
  M.1.tables.exec = Jvm.exec ∧ M.2.2.2.2.2.2.2.2.code = code ∧ M.2.2.2.2.2.2.2.2.maxLocals = 4 ∧ M.2.2.2.1.vm.findClass RL = some M.2.2.2.2.1.cls ∧ (∀ w ∈ bigw, w.before #[Value.ref b] M.2.2.2.1 = true) ∧
  (am_K OX M.2.2.2.1 ∧ am_K OM M.2.2.2.1) ∧ (am_Dj OX ∧ am_Dj OM) ∧ (∀ i j, i < OX.2.2.2.1 → j < OM.2.2.2.1 → OX.2.2.1 i ≠ OM.2.2.1 j) ∧ ((∀ i, i < OX.2.2.2.1 → M.2.2.2.1.heap.size ≤ OX.2.2.1 i) ∧ (∀ i, i < OM.2.2.2.1 → M.2.2.2.1.heap.size ≤ OM.2.2.1 i)) ∧ am_Ne M.2.2.2.1 ∧
  (va_X b L xs M.2.2.2.1 M.2.2.2.1.heap ∧ b < M.2.2.2.1.heap.size) ∧ M.2.2.2.2.2.2.2.1.sig.returnType = ret ∧ M.2.2.2.2.2.2.2.1.locks = false
theorem lw_cmp {x y : Int64} (h : lg_cmp x y = 0) : x = y := by
  unfold lg_cmp at h
  by_cases h1 : x > y
  · rw [if_pos h1] at h; exact absurd h (by decide)
  · rw [if_neg h1] at h
    by_cases h2 : x = y
    · exact h2
    · rw [if_neg h2] at h; exact absurd h (by decide)
section LW
variable {M : am_M} {OX OM : am_O} {b L : Nat} {xs : Nat → Int32} {pc : Nat} {lv : List (Nat × Value)} {st : List Value} {σ τ : Sg} {β : Type} {z : β}
theorem lw_iconst (X : lw_X M OX OM b L xs) {n : Int} {v : Int32} (hdg : decode code pc = .ok (.iconst n, 1)) (hv : Int32.ofInt n = v) (k : lw_J M OX OM b (pc + 1) lv (.int v :: st) σ τ) : lw_J M OX OM b pc lv (st) σ τ := fun H locs ls hP hM hS hl => lv_iconst X.1 X.2.1 hdg hv (k H locs ls hP hM hS hl)
theorem lw_bipush (X : lw_X M OX OM b L xs) {n : Int} {v : Int32} (hdg : decode code pc = .ok (.bipush n, 2)) (hv : (Int8.ofInt n).toInt32 = v) (k : lw_J M OX OM b (pc + 2) lv (.int v :: st) σ τ) : lw_J M OX OM b pc lv (st) σ τ := fun H locs ls hP hM hS hl => lv_bipush X.1 X.2.1 hdg hv (k H locs ls hP hM hS hl)
theorem lw_iload_n (X : lw_X M OX OM b L xs) {k : Fin 4} {i : Nat} {x : Int32} (hdg : decode code pc = .ok (.iload_n k, 1)) (hi : (k : Nat) = i) (j : Nat) (hj : lv[j]? = some (i, .int x)) (kk : lw_J M OX OM b (pc + 1) lv (.int x :: st) σ τ) : lw_J M OX OM b pc lv (st) σ τ := fun H locs ls hP hM hS hl => lv_iload_n X.1 X.2.1 hdg hi (lv_at hl j hj) (kk H locs ls hP hM hS hl)
theorem lw_aload_n (X : lw_X M OX OM b L xs) {k : Fin 4} {i : Nat} {x : Nat} (hdg : decode code pc = .ok (.aload_n k, 1)) (hi : (k : Nat) = i) (j : Nat) (hj : lv[j]? = some (i, .ref x)) (kk : lw_J M OX OM b (pc + 1) lv (.ref x :: st) σ τ) : lw_J M OX OM b pc lv (st) σ τ := fun H locs ls hP hM hS hl => lv_aload_n X.1 X.2.1 hdg hi (lv_at hl j hj) (kk H locs ls hP hM hS hl)
theorem lw_iadd (X : lw_X M OX OM b L xs) {x y : Int32} (hdg : decode code pc = .ok (.iadd, 1))  (k : lw_J M OX OM b (pc + 1) lv (.int (x + y) :: st) σ τ) : lw_J M OX OM b pc lv (.int y :: .int x :: st) σ τ := fun H locs ls hP hM hS hl => lv_iadd X.1 X.2.1 hdg (k H locs ls hP hM hS hl)
theorem lw_isub (X : lw_X M OX OM b L xs) {x y : Int32} (hdg : decode code pc = .ok (.isub, 1))  (k : lw_J M OX OM b (pc + 1) lv (.int (x - y) :: st) σ τ) : lw_J M OX OM b pc lv (.int y :: .int x :: st) σ τ := fun H locs ls hP hM hS hl => lv_isub X.1 X.2.1 hdg (k H locs ls hP hM hS hl)
theorem lw_iand (X : lw_X M OX OM b L xs) {x y : Int32} (hdg : decode code pc = .ok (.iand, 1))  (k : lw_J M OX OM b (pc + 1) lv (.int (x &&& y) :: st) σ τ) : lw_J M OX OM b pc lv (.int y :: .int x :: st) σ τ := fun H locs ls hP hM hS hl => lv_iand X.1 X.2.1 hdg (k H locs ls hP hM hS hl)
theorem lw_lcmp (X : lw_X M OX OM b L xs) {x y : Int64} (hdg : decode code pc = .ok (.lcmp, 1))  (k : lw_J M OX OM b (pc + 1) lv (.int (lg_cmp x y) :: st) σ τ) : lw_J M OX OM b pc lv (.long y :: .long x :: st) σ τ := fun H locs ls hP hM hS hl => W.lcmp X.1 X.2.1 hdg (k H locs ls hP hM hS hl)
theorem lw_iinc (X : lw_X M OX OM b L xs) {i : Nat} {n : Int} {x v : Int32} (lv' : List (Nat × Value)) (hdg : decode code pc = .ok (.iinc i n, 3)) (j : Nat) (hj : lv[j]? = some (i, .int x)) (hv : x + Int32.ofInt n = v) (hn : i < 4) (hf : (i, Value.int v) :: lv.filter (fun q => !(q.1 == i) && !(q.1 + 1 == i && q.2.category == 2)) = lv') (k : lw_J M OX OM b (pc + 3) lv' (st) σ τ) : lw_J M OX OM b pc lv (st) σ τ := fun H locs ls hP hM hS hl => lv_iinc X.1 X.2.1 hdg hl hj hv hn hf (fun ls hl => k H locs ls hP hM hS hl)
theorem lw_goto (X : lw_X M OX OM b L xs) {off : Int} (tgt : Nat) (hdg : decode code pc = .ok (.goto off, 3)) (ht : (pc : Int) + off = (tgt : Int)) (k : lw_J M OX OM b tgt lv st σ τ) : lw_J M OX OM b pc lv st σ τ := fun H locs ls hP hM hS hl => lv_goto X.1 X.2.1 hdg ht (k H locs ls hP hM hS hl)
theorem lw_gt (X : lw_X M OX OM b L xs) {x y : Int32} {off : Int} (tgt : Nat) (hdg : decode code pc = .ok (.if_icmp .gt off, 3)) (ht : (pc : Int) + off = (tgt : Int)) {A B : Option β} (h : (if y < x then A else B) = some z) (kt : A = some z → lw_J M OX OM b tgt lv st σ τ) (kf : B = some z → lw_J M OX OM b (pc + 3) lv st σ τ) : lw_J M OX OM b pc lv (.int y :: .int x :: st) σ τ := fun H locs ls hP hM hS hl => lv_icmp_gt X.1 X.2.1 hdg ht (fun q => kt ((ite_of h).1 q) H locs ls hP hM hS hl) (fun q => kf ((ite_of h).2 q) H locs ls hP hM hS hl)
theorem lw_eq (X : lw_X M OX OM b L xs) {x y : Int32} {off : Int} (tgt : Nat) (hdg : decode code pc = .ok (.if_icmp .eq off, 3)) (ht : (pc : Int) + off = (tgt : Int)) {A : Option β} (h : (if x = y then A else none) = some z) (kt : A = some z → lw_J M OX OM b tgt lv st σ τ) : lw_J M OX OM b pc lv (.int y :: .int x :: st) σ τ := fun H locs ls hP hM hS hl => lv_icmp_eq X.1 X.2.1 hdg ht (fun q => kt ((ite_of h).1 q) H locs ls hP hM hS hl) (fun q => by have h2 := (ite_of h).2 q; cases h2)
theorem lw_eq0 (X : lw_X M OX OM b L xs) {x y : Int64} {off : Int} (tgt : Nat) (hdg : decode code pc = .ok (.ifCond .eq off, 3)) (ht : (pc : Int) + off = (tgt : Int)) {A : Option β} (h : (if x = y then A else none) = some z) (kt : A = some z → lw_J M OX OM b tgt lv st σ τ) : lw_J M OX OM b pc lv (.int (lg_cmp x y) :: st) σ τ := fun H locs ls hP hM hS hl => lv_if_eq X.1 X.2.1 hdg ht (fun q => kt ((ite_of h).1 (lw_cmp q)) H locs ls hP hM hS hl) (fun q => by have h2 := (ite_of h).2 (fun e => q (by rw [e]; simp [lg_cmp])); cases h2)
theorem lw_tabIn (X : lw_X M OX OM b L xs) {dflt lo hi : Int} {offs : Array Int} {len : Nat} {x kx : Int32} {off : Int} (tgt : Nat) (hdg : decode code pc = .ok (.tableswitch dflt lo hi offs, len)) (hx : x = kx) (h1 : ¬ kx.toInt < lo) (h2 : ¬ hi < kx.toInt) (ho : offs[(kx.toInt - lo).toNat]? = some off) (ht : (pc : Int) + off = (tgt : Int)) (k : lw_J M OX OM b tgt lv st σ τ) : lw_J M OX OM b pc lv (.int x :: st) σ τ := fun H locs ls hP hM hS hl => lv_tableIn X.1 X.2.1 hdg (by rw [hx]; exact h1) (by rw [hx]; exact h2) (by rw [hx]; exact ho) ht (k H locs ls hP hM hS hl)
theorem lw_tabOut (X : lw_X M OX OM b L xs) {dflt lo hi : Int} {offs : Array Int} {len : Nat} {x : Int32} (tgt : Nat) (hdg : decode code pc = .ok (.tableswitch dflt lo hi offs, len)) (hx : x.toInt < lo ∨ hi < x.toInt) (ht : (pc : Int) + dflt = (tgt : Int)) (k : lw_J M OX OM b tgt lv st σ τ) : lw_J M OX OM b pc lv (.int x :: st) σ τ := fun H locs ls hP hM hS hl => lv_tableOut X.1 X.2.1 hdg hx ht (k H locs ls hP hM hS hl)
theorem lw_sld (X : lw_X M OX OM b L xs) {i : Int32} (hdg : decode code pc = .ok (.iaload, 1)) {A : Option β} (h : gd (inB i L) A = some z) (k : A = some z → lw_J M OX OM b (pc + 1) lv (.int (xs i.toNatClampNeg) :: st) σ τ) : lw_J M OX OM b pc lv (.int i :: .ref b :: st) σ τ := fun H locs ls hP hM hS hl => va_sld X.1 X.2.1 X.2.2.2.2.2.2.2.2.2.2.1.1 X.2.2.2.2.2.2.2.2.2.2.1.2 (Nat.not_le.mpr X.2.2.2.2.2.2.2.2.2.2.1.2) hS (inB_in (gd_of h).1) hdg (k (gd_of h).2 H locs ls hP hM hS hl)
theorem lw_slen (X : lw_X M OX OM b L xs) (hdg : decode code pc = .ok (.arraylength, 1)) (k : lw_J M OX OM b (pc + 1) lv (.int (nI L) :: st) σ τ) : lw_J M OX OM b pc lv (.ref b :: st) σ τ := fun H locs ls hP hM hS hl => va_slen X.1 X.2.1 X.2.2.2.2.2.2.2.2.2.2.1.1 X.2.2.2.2.2.2.2.2.2.2.1.2 (Nat.not_le.mpr X.2.2.2.2.2.2.2.2.2.2.1.2) hS hdg (k H locs ls hP hM hS hl)
theorem lw_end (X : lw_X M OX OM b L xs) (hdg : decode code pc = .ok (.ireturn, 1)) : lw_J M OX OM b pc lv [.int 1] σ τ := fun H locs ls hP hM hS hl => va_forget (fun q hq => hS.2.2 q hq) (lw_ret X.1 X.2.1 X.2.2.2.2.2.2.2.2.2.2.2.1 X.2.2.2.2.2.2.2.2.2.2.2.2 hdg)
theorem lw_callX (X : lw_X M OX OM b L xs) {idx c : Nat} {rf : Nat → Option Nat} {y : MethodName} {cY : ByteArray} {mY n : Nat} {rY : Option FieldType} {rm : Room} {avf : (Nat → Nat) → List Value} {rvf : (Nat → Nat) → Option Value} {σ' : Sg} {As rest : List Value} (cw : am_Cv RL idx RX9 y cY mY rY n) (hMt : am_Met M.2.1 y cY mY rY rm OX.2.2.2.1 OX.2.2.2.2 avf σ σ' rvf) (hav : avf OX.2.2.1 = .ref (OX.2.2.1 c) :: As) (hc : c < OX.2.2.2.1 ∧ OX.2.2.2.2 c = .inl (8, 15, rf)) (hn : As.length = n) (hst : st = As.reverse ++ .ref (OX.2.2.1 c) :: rest) (hw : (rest.map fun v => v.category).sum ≤ 8) (hR : am_room room_1 rm mY) (hdg : decode code pc = .ok (.invokevirtual idx, 3))
    {st2 : List Value} (h2 : (rvf OX.2.2.1).toList ++ rest = st2) (kk : lw_J M OX OM b (pc + 3) lv st2 σ' τ) : lw_J M OX OM b pc lv st σ τ := fun H locs ls hP hM hS hl => by
  have hMM := hMt OX.1 OX.2.1 OX.2.2.1 H.size
  rw [hav] at hMM
  have hr := va_runV (p := M.1) (l := M.2.1) (e := M.2.2.1) (R := room_1) (below := M.2.2.2.2.2.2.1) (meth := M.2.2.2.2.2.2.2.1) (H := H) (locs := locs) (cells := 600000) (slots := 7302250) (g := F0 M.2.2.2.2.1 pc ls st) (As := As) (rest := rest) (b := OX.2.2.1 c) ⟨X.1, X.2.1, X.2.2.1, X.2.2.2.1, X.2.2.2.2.1⟩ hMM (cwV n X.2.2.2.2.1 cw.1 rfl hR.1.1 hR.1.2 cw.2 hR.2) ⟨am_blind, va_recv (D := OX.1) (q := (RX9, TX9, 15)) X.2.2.2.2.2.1.1 hP rfl (q0 := c) (ci := 8) (fs := (List.range 15).map (am_v OX.2.2.1 σ rf c)) (by rw [am_get OX σ hc.1, hc.2]; rfl), fun U hU hW => ⟨rfl, by rw [hU], by rw [hU]; exact hP, va_K.moved hW.alike X.2.2.2.2.2.1.1, X.2.2.2.2.2.2.1.1, X.2.2.2.2.2.2.2.2.2.1.warm hW⟩⟩ rfl hn hl.1 hst (lv_room hw) hdg ⟨Nat.le_refl _, Nat.le_refl _⟩
  intro T hT XX
  obtain ⟨v, st₀, t, T', L0, h0, X', hL, e1, e2, ⟨⟨hv, hp⟩, hz, hk⟩, stp⟩ := hr T hT XX
  cases hv
  rw [h0] at hz hk
  have hA : ∀ q, am_A OX H.size q → M.2.2.2.1.heap.size ≤ q := fun q h => h.elim (fun ⟨c0, hc0, e0⟩ => e0 ▸ X.2.2.2.2.2.2.2.2.1.1 c0 hc0) (fun g => Nat.le_trans hS.1 g)
  have hp2 : am_P OX σ' T'.heap := by rw [e1]; exact hp
  have ho : am_P OM τ T'.heap := fun k q hq => by
    obtain ⟨k1, k2⟩ := am_get_iff OM τ hq
    have hlt := (hM k q hq).lt
    have hno : ¬ am_A OX H.size q.1 := by
      intro h
      rcases h with ⟨c0, hc0, e0⟩ | h
      · have e9 : OM.2.2.1 k = OX.2.2.1 c0 := by rw [k2] at e0; exact e0
        exact X.2.2.2.2.2.2.2.1 c0 k hc0 k1 e9.symm
      · omega
    exact (hM k q hq).kept (by rw [e1]; exact hk q.1 hlt hno)
  obtain ⟨t2, a1, b1⟩ := (h2 ▸ kk : lw_J M OX OM b (pc + 3) lv ((rvf OX.2.2.1).toList ++ rest) σ' τ) T'.heap (locs ++ L0) ls hp2 ho ⟨Nat.le_trans hS.1 (by rw [e1]; exact hz), fun q h1 h2 => by rw [e1, hk q (Nat.lt_of_lt_of_le h1 hS.1) (fun z => h2 (hA q z))]; exact hS.2.1 q h1 h2, fun q hq => by
      rcases List.mem_append.mp hq with h | h
      · exact hS.2.2 q h
      · exact hA _ (hL q h)⟩ hl T' rfl X'
  exact ⟨t2, stp t2 a1, b1⟩
theorem lw_callM (X : lw_X M OX OM b L xs) {idx c : Nat} {rf : Nat → Option Nat} {y : MethodName} {cY : ByteArray} {mY n : Nat} {rY : Option FieldType} {rm : Room} {avf : (Nat → Nat) → List Value} {rvf : (Nat → Nat) → Option Value} {τ' : Sg} {As rest : List Value} (cw : am_Cv RL idx RX10 y cY mY rY n) (hMt : am_Met M.2.1 y cY mY rY rm OM.2.2.2.1 OM.2.2.2.2 avf τ τ' rvf) (hav : avf OM.2.2.1 = .ref (OM.2.2.1 c) :: As) (hc : c < OM.2.2.2.1 ∧ OM.2.2.2.2 c = .inl (9, 42, rf)) (hn : As.length = n) (hst : st = As.reverse ++ .ref (OM.2.2.1 c) :: rest) (hw : (rest.map fun v => v.category).sum ≤ 8) (hR : am_room room_1 rm mY) (hdg : decode code pc = .ok (.invokevirtual idx, 3))
    {st2 : List Value} (h2 : (rvf OM.2.2.1).toList ++ rest = st2) (kk : lw_J M OX OM b (pc + 3) lv st2 σ τ') : lw_J M OX OM b pc lv st σ τ := fun H locs ls hP hM hS hl => by
  have hMM := hMt OM.1 OM.2.1 OM.2.2.1 H.size
  rw [hav] at hMM
  have hr := va_runV (p := M.1) (l := M.2.1) (e := M.2.2.1) (R := room_1) (below := M.2.2.2.2.2.2.1) (meth := M.2.2.2.2.2.2.2.1) (H := H) (locs := locs) (cells := 600000) (slots := 7302250) (g := F0 M.2.2.2.2.1 pc ls st) (As := As) (rest := rest) (b := OM.2.2.1 c) ⟨X.1, X.2.1, X.2.2.1, X.2.2.2.1, X.2.2.2.2.1⟩ hMM (cwV n X.2.2.2.2.1 cw.1 rfl hR.1.1 hR.1.2 cw.2 hR.2) ⟨am_blind, va_recv (D := OM.1) (q := (RX10, TX10, 42)) X.2.2.2.2.2.1.2 hM rfl (q0 := c) (ci := 9) (fs := (List.range 42).map (am_v OM.2.2.1 τ rf c)) (by rw [am_get OM τ hc.1, hc.2]; rfl), fun U hU hW => ⟨rfl, by rw [hU], by rw [hU]; exact hM, va_K.moved hW.alike X.2.2.2.2.2.1.2, X.2.2.2.2.2.2.1.2, X.2.2.2.2.2.2.2.2.2.1.warm hW⟩⟩ rfl hn hl.1 hst (lv_room hw) hdg ⟨Nat.le_refl _, Nat.le_refl _⟩
  intro T hT XX
  obtain ⟨v, st₀, t, T', L0, h0, X', hL, e1, e2, ⟨⟨hv, hp⟩, hz, hk⟩, stp⟩ := hr T hT XX
  cases hv
  rw [h0] at hz hk
  have hA : ∀ q, am_A OM H.size q → M.2.2.2.1.heap.size ≤ q := fun q h => h.elim (fun ⟨c0, hc0, e0⟩ => e0 ▸ X.2.2.2.2.2.2.2.2.1.2 c0 hc0) (fun g => Nat.le_trans hS.1 g)
  have hp2 : am_P OM τ' T'.heap := by rw [e1]; exact hp
  have ho : am_P OX σ T'.heap := fun k q hq => by
    obtain ⟨k1, k2⟩ := am_get_iff OX σ hq
    have hlt := (hP k q hq).lt
    have hno : ¬ am_A OM H.size q.1 := by
      intro h
      rcases h with ⟨c0, hc0, e0⟩ | h
      · have e9 : OX.2.2.1 k = OM.2.2.1 c0 := by rw [k2] at e0; exact e0
        exact X.2.2.2.2.2.2.2.1 k c0 k1 hc0 e9
      · omega
    exact (hP k q hq).kept (by rw [e1]; exact hk q.1 hlt hno)
  obtain ⟨t2, a1, b1⟩ := (h2 ▸ kk : lw_J M OX OM b (pc + 3) lv ((rvf OM.2.2.1).toList ++ rest) σ τ') T'.heap (locs ++ L0) ls ho hp2 ⟨Nat.le_trans hS.1 (by rw [e1]; exact hz), fun q h1 h2 => by rw [e1, hk q (Nat.lt_of_lt_of_le h1 hS.1) (fun z => h2 (hA q z))]; exact hS.2.1 q h1 h2, fun q hq => by
      rcases List.mem_append.mp hq with h | h
      · exact hS.2.2 q h
      · exact hA _ (hL q h)⟩ hl T' rfl X'
  exact ⟨t2, stp t2 a1, b1⟩
end LW
