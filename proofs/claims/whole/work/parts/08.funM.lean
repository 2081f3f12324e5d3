def f_X10_in (σ : Sg) (a0 : Int32) (a1 : Int32) (a2 : Int32) : Option (Int32 × Sg) :=
  (if a0 < a1 then some ((0 : Int32), σ) else (if a2 < a0 then some ((0 : Int32), σ) else some ((1 : Int32), σ)))
def f_X10_isText (σ : Sg) (a0 : Int32) : Option (Int32 × Sg) :=
  bnd (f_X10_in σ a0 (0 : Int32) (1 : Int32)) (fun r1 σ2 => gd (decide (r1 = 0 ∨ r1 = 1)) (some (r1, σ2)))
def f_X10_type_b38 (σ : Sg) (x1 : Int32) (x2 : Int32) (s0 : Int32) (s1 : Int32) : Option (Int32 × Sg) :=
  (if s1 = s0 then some ((-4 : Int32), σ) else gd (inB x1 2) (gd (inB (((39 : Int32) * x1) + (σ 1 (x1).toNatClampNeg)) 78) (amlet (up2 σ 2 ((((39 : Int32) * x1) + (σ 1 (x1).toNatClampNeg))).toNatClampNeg x2) (fun σ1 => gd (inB x1 2) (gd (inB x1 2) (amlet (up2 σ1 1 (x1).toNatClampNeg ((σ1 1 (x1).toNatClampNeg) + (1 : Int32))) (fun σ2 => gd (inB x1 2) (some ((σ2 1 (x1).toNatClampNeg), σ2)))))))))
def f_X10_type (σ : Sg) (a1 : Int32) (a2 : Int32) : Option (Int32 × Sg) :=
  bnd (f_X10_isText σ a1) (fun r1 σ2 => (if r1 = 0 then some ((-2 : Int32), σ2) else bnd (f_X10_in σ2 a2 (0 : Int32) (255 : Int32)) (fun r3 σ4 => (if r3 = 0 then some ((-2 : Int32), σ4) else gd (inB a1 2) ((if a1 = 0 then (f_X10_type_b38 σ4 a1 a2 (39 : Int32) (σ4 1 (a1).toNatClampNeg)) else (f_X10_type_b38 σ4 a1 a2 (31 : Int32) (σ4 1 (a1).toNatClampNeg))))))))
def f_X10_wipe (σ : Sg) (a1 : Int32) : Option (Int32 × Sg) :=
  bnd (f_X10_isText σ a1) (fun r1 σ2 => (if r1 = 0 then some ((-2 : Int32), σ2) else gd (inB a1 2) (amlet (σ2 1 (a1).toNatClampNeg) (fun v3 => gd (inB a1 2) (amlet (up2 σ2 1 (a1).toNatClampNeg (0 : Int32)) (fun σ4 => some (v3, σ4)))))))
def f_X10_undo (σ : Sg) (a1 : Int32) : Option (Int32 × Sg) :=
  bnd (f_X10_isText σ a1) (fun r1 σ2 => (if r1 = 0 then some ((-2 : Int32), σ2) else gd (inB a1 2) ((if (σ2 1 (a1).toNatClampNeg) = 0 then some ((-3 : Int32), σ2) else gd (inB a1 2) (gd (inB a1 2) (amlet (up2 σ2 1 (a1).toNatClampNeg ((σ2 1 (a1).toNatClampNeg) - (1 : Int32))) (fun σ3 => gd (inB a1 2) (some ((σ3 1 (a1).toNatClampNeg), σ3)))))))))
def f_X10_byteAt (σ : Sg) (a1 : Int32) (a2 : Int32) : Option (Int32 × Sg) :=
  gd (inB a1 2) ((if (σ 1 (a1).toNatClampNeg) ≤ a2 then some ((-1 : Int32), σ) else gd (inB (((39 : Int32) * a1) + a2) 78) (some ((σ 2 ((((39 : Int32) * a1) + a2)).toNatClampNeg), σ))))
def f_X10_isEight (σ : Sg) (a0 : Int32) : Option (Int32 × Sg) :=
  bnd (f_X10_in σ a0 (0 : Int32) (7 : Int32)) (fun r1 σ2 => gd (decide (r1 = 0 ∨ r1 = 1)) (some (r1, σ2)))
def f_X10_isNight (σ : Sg) (a0 : Int32) : Option (Int32 × Sg) :=
  bnd (f_X10_in σ a0 (0 : Int32) (23 : Int32)) (fun r1 σ2 => gd (decide (r1 = 0 ∨ r1 = 1)) (some (r1, σ2)))
def f_X10_readsNeed (σ : Sg) (a1 : Int32) (a2 : Int32) : Option (Int32 × Sg) :=
  bnd (f_X10_byteAt σ (1 : Int32) a2) (fun r1 σ2 => amlet (r1 - (48 : Int32)) (fun v3 => bnd (f_X10_byteAt σ2 (1 : Int32) (a2 + (1 : Int32))) (fun r4 σ5 => amlet (r4 - (97 : Int32)) (fun v6 => bnd (f_X10_byteAt σ5 (1 : Int32) (a2 + (2 : Int32))) (fun r7 σ8 => amlet (r7 - (48 : Int32)) (fun v9 => (if a1 = (8 : Int32) then some ((0 : Int32), σ8) else bnd (f_X10_isEight σ8 v3) (fun r10 σ11 => (if r10 = 0 then some ((0 : Int32), σ11) else bnd (f_X10_isNight σ11 v6) (fun r12 σ13 => (if r12 = 0 then some ((1 : Int32), σ13) else bnd (f_X10_in σ13 v9 (1 : Int32) (9 : Int32)) (fun r14 σ15 => (if r14 = 0 then some ((2 : Int32), σ15) else gd (inB a1 9) (amlet (up2 σ15 7 (a1).toNatClampNeg v3) (fun σ16 => gd (inB a1 9) (amlet (up2 σ16 8 (a1).toNatClampNeg v6) (fun σ17 => gd (inB a1 9) (amlet (up2 σ17 9 (a1).toNatClampNeg v9) (fun σ18 => some ((3 : Int32), σ18))))))))))))))))))))
def f_X10_isSix (σ : Sg) (a0 : Int32) : Option (Int32 × Sg) :=
  bnd (f_X10_in σ a0 (0 : Int32) (5 : Int32)) (fun r1 σ2 => gd (decide (r1 = 0 ∨ r1 = 1)) (some (r1, σ2)))
def f_X10_isTaken_b44 (k6 : Sg → Int32 → Int32 → Int32 → Int32 → Int32 → Option (Int32 × Sg)) (σ : Sg) (x1 : Int32) (x2 : Int32) (x3 : Int32) (x5 : Int32) (s0 : Int32) : Option (Int32 × Sg) :=
  amlet (x5 + (1 : Int32)) (fun v1 => (k6 σ x1 x2 x3 s0 v1))
def f_X10_isTaken_b39 (k6 : Sg → Int32 → Int32 → Int32 → Int32 → Int32 → Option (Int32 × Sg)) (σ : Sg) (x1 : Int32) (x2 : Int32) (x3 : Int32) (x5 : Int32) : Option (Int32 × Sg) :=
  (f_X10_isTaken_b44 k6 σ x1 x2 x3 x5 (1 : Int32))
def f_X10_isTaken_b43 (k6 : Sg → Int32 → Int32 → Int32 → Int32 → Int32 → Option (Int32 × Sg)) (σ : Sg) (x1 : Int32) (x2 : Int32) (x3 : Int32) (x5 : Int32) : Option (Int32 × Sg) :=
  (f_X10_isTaken_b44 k6 σ x1 x2 x3 x5 (0 : Int32))
def f_X10_isTaken_b6 (k6 : Sg → Int32 → Int32 → Int32 → Int32 → Int32 → Option (Int32 × Sg)) (σ : Sg) (x1 : Int32) (x2 : Int32) (x3 : Int32) (x4 : Int32) (x5 : Int32) : Option (Int32 × Sg) :=
  (if x1 ≤ x5 then gd (decide (x4 = 0 ∨ x4 = 1)) (some (x4, σ)) else (if x4 = 0 then gd (inB x5 9) ((if (σ 4 (x5).toNatClampNeg) = x2 then gd (inB x5 9) ((if (σ 5 (x5).toNatClampNeg) = x3 then (f_X10_isTaken_b39 k6 σ x1 x2 x3 x5) else (f_X10_isTaken_b43 k6 σ x1 x2 x3 x5))) else (f_X10_isTaken_b43 k6 σ x1 x2 x3 x5))) else (f_X10_isTaken_b39 k6 σ x1 x2 x3 x5)))
def f_X10_isTaken_l6 (n : Nat) : Sg → Int32 → Int32 → Int32 → Int32 → Int32 → Option (Int32 × Sg) := am_rec (fun _ _ _ _ _ _ => none) (fun k => f_X10_isTaken_b6 k) n
def f_X10_isTaken (σ : Sg) (a1 : Int32) (a2 : Int32) (a3 : Int32) : Option (Int32 × Sg) :=
  (f_X10_isTaken_l6 300 σ a1 a2 a3 (0 : Int32) (0 : Int32))
def f_X10_readsGone_b38 (σ : Sg) (x1 : Int32) (x2 : Int32) (s0 : Int32) : Option (Int32 × Sg) :=
  bnd (f_X10_byteAt σ (0 : Int32) (x2 + (1 : Int32))) (fun r1 σ2 => amlet (r1 - (48 : Int32)) (fun v3 => bnd (f_X10_byteAt σ2 (0 : Int32) (x2 + (2 : Int32))) (fun r4 σ5 => amlet (r4 - (48 : Int32)) (fun v6 => bnd (f_X10_byteAt σ5 (0 : Int32) (x2 + (3 : Int32))) (fun r7 σ8 => amlet (r7 - (48 : Int32)) (fun v9 => (if x1 = (8 : Int32) then some ((0 : Int32), σ8) else (if s0 = (-1 : Int32) then some ((0 : Int32), σ8) else bnd (f_X10_isSix σ8 v3) (fun r10 σ11 => (if r10 = 0 then some ((1 : Int32), σ11) else bnd (f_X10_isSix σ11 v6) (fun r12 σ13 => (if r12 = 0 then some ((2 : Int32), σ13) else bnd (f_X10_isTaken σ13 x1 v3 v6) (fun r14 σ15 => (if r14 = 0 then bnd (f_X10_in σ15 v9 (1 : Int32) (9 : Int32)) (fun r16 σ17 => (if r16 = 0 then some ((3 : Int32), σ17) else gd (inB x1 9) (amlet (up2 σ17 3 (x1).toNatClampNeg s0) (fun σ18 => gd (inB x1 9) (amlet (up2 σ18 4 (x1).toNatClampNeg v3) (fun σ19 => gd (inB x1 9) (amlet (up2 σ19 5 (x1).toNatClampNeg v6) (fun σ20 => gd (inB x1 9) (amlet (up2 σ20 6 (x1).toNatClampNeg v9) (fun σ21 => some ((4 : Int32), σ21))))))))))) else some ((2 : Int32), σ15)))))))))))))))
def f_X10_readsGone (σ : Sg) (a1 : Int32) (a2 : Int32) : Option (Int32 × Sg) :=
  bnd (f_X10_byteAt σ (0 : Int32) a2) (fun r1 σ2 => (if r1 = (100 : Int32) then (f_X10_readsGone_b38 σ2 a1 a2 (0 : Int32)) else (if r1 = (99 : Int32) then (f_X10_readsGone_b38 σ2 a1 a2 (1 : Int32)) else (if r1 = (114 : Int32) then (f_X10_readsGone_b38 σ2 a1 a2 (2 : Int32)) else (f_X10_readsGone_b38 σ2 a1 a2 (-1 : Int32))))))
def f_X10_readsParts_b149 (σ : Sg) (s0 : Int32) : Option (Int32 × Sg) :=
  amlet (up2 σ 0 7 s0) (fun σ1 => some ((-1 : Int32), σ1))
def f_X10_readsParts_b132 (σ : Sg) (x1 : Int32) (x3 : Int32) (s0 : Int32) : Option (Int32 × Sg) :=
  amlet (up2 σ 0 2 s0) (fun σ1 => (if x1 = (1 : Int32) then (f_X10_readsParts_b149 σ1 x3) else (f_X10_readsParts_b149 σ1 (σ1 0 7))))
def f_X10_readsParts_b85 (k48 : Sg → Int32 → Int32 → Int32 → Int32 → Option (Int32 × Sg)) (σ : Sg) (x1 : Int32) (x2 : Int32) (x3 : Int32) (x4 : Int32) (s0 : Int32) : Option (Int32 × Sg) :=
  (if x2 ≤ s0 then amlet (x3 + (1 : Int32)) (fun v1 => amlet (x4 + x2) (fun v2 => gd (inB x1 2) ((if v2 = (σ 1 (x1).toNatClampNeg) then (if x1 = 0 then (f_X10_readsParts_b132 σ x1 v1 v1) else (f_X10_readsParts_b132 σ x1 v1 (σ 0 2))) else bnd (f_X10_byteAt σ x1 v2) (fun r3 σ4 => (if r3 = (59 : Int32) then amlet (v2 + (1 : Int32)) (fun v5 => (k48 σ4 x1 x2 v1 v5)) else some (v2, σ4))))))) else some ((x4 + s0), σ))
def f_X10_readsParts_b64 (k48 : Sg → Int32 → Int32 → Int32 → Int32 → Option (Int32 × Sg)) (σ : Sg) (x1 : Int32) (x2 : Int32) (x3 : Int32) (x4 : Int32) : Option (Int32 × Sg) :=
  (if x1 = 0 then bnd (f_X10_readsGone σ x3 x4) (fun r4 σ5 => (f_X10_readsParts_b85 k48 σ5 x1 x2 x3 x4 r4)) else bnd (f_X10_readsNeed σ x3 x4) (fun r1 σ2 => (f_X10_readsParts_b85 k48 σ2 x1 x2 x3 x4 r1)))
def f_X10_readsParts_b48 (k48 : Sg → Int32 → Int32 → Int32 → Int32 → Option (Int32 × Sg)) (σ : Sg) (x1 : Int32) (x2 : Int32) (x3 : Int32) (x4 : Int32) : Option (Int32 × Sg) :=
  gd (inB x1 2) ((if x4 < (σ 1 (x1).toNatClampNeg) then (f_X10_readsParts_b64 k48 σ x1 x2 x3 x4) else (if x4 ≤ 0 then some ((-1 : Int32), σ) else (f_X10_readsParts_b64 k48 σ x1 x2 x3 x4))))
def f_X10_readsParts_l48 (n : Nat) : Sg → Int32 → Int32 → Int32 → Int32 → Option (Int32 × Sg) := am_rec (fun _ _ _ _ _ => none) (fun k => f_X10_readsParts_b48 k) n
def f_X10_readsParts_b45 (σ : Sg) (x1 : Int32) (x2 : Int32) (x3 : Int32) (x4 : Int32) (s0 : Int32) : Option (Int32 × Sg) :=
  amlet (up2 σ 0 7 s0) (fun σ1 => (f_X10_readsParts_l48 300 σ1 x1 x2 x3 x4))
def f_X10_readsParts_b28 (σ : Sg) (x1 : Int32) (x2 : Int32) (x3 : Int32) (x4 : Int32) (s0 : Int32) : Option (Int32 × Sg) :=
  amlet (up2 σ 0 2 s0) (fun σ1 => (if x1 = (1 : Int32) then (f_X10_readsParts_b45 σ1 x1 x2 x3 x4 (0 : Int32)) else (f_X10_readsParts_b45 σ1 x1 x2 x3 x4 (σ1 0 7))))
def f_X10_readsParts_b9 (σ : Sg) (x1 : Int32) (s0 : Int32) : Option (Int32 × Sg) :=
  (if x1 = 0 then (f_X10_readsParts_b28 σ x1 s0 (0 : Int32) (0 : Int32) (0 : Int32)) else (f_X10_readsParts_b28 σ x1 s0 (0 : Int32) (0 : Int32) (σ 0 2)))
def f_X10_readsParts (σ : Sg) (a1 : Int32) : Option (Int32 × Sg) :=
  (if a1 = 0 then (f_X10_readsParts_b9 σ a1 (4 : Int32)) else (f_X10_readsParts_b9 σ a1 (3 : Int32)))
def f_X10_faultOf (σ : Sg) (a1 : Int32) : Option (Int32 × Sg) :=
  bnd (f_X10_readsParts σ (0 : Int32)) (fun r1 σ2 => bnd (f_X10_readsParts σ2 (1 : Int32)) (fun r3 σ4 => (if a1 = 0 then some (r1, σ4) else some (r3, σ4))))
def f_X10_fault (σ : Sg) (a1 : Int32) : Option (Int32 × Sg) :=
  bnd (f_X10_isText σ a1) (fun r1 σ2 => (if r1 = 0 then some ((-2 : Int32), σ2) else bnd (f_X10_faultOf σ2 a1) (fun r3 σ4 => some (r3, σ4))))
def f_X10_reads (σ : Sg) : Option (Unit × Sg) :=
  bnd (f_X10_faultOf σ (0 : Int32)) (fun r1 σ2 => some ((), σ2))
def f_X10_isOne (σ : Sg) (a1 : Int32) : Option (Int32 × Sg) :=
  bnd (f_X10_reads σ) (fun _ σ2 => bnd (f_X10_in σ2 a1 (0 : Int32) ((σ2 0 2) - (1 : Int32))) (fun r3 σ4 => gd (decide (r3 = 0 ∨ r3 = 1)) (some (r3, σ4))))
def f_X10_goneOf (σ : Sg) (a1 : Int32) (a2 : Int32) : Option (Int32 × Sg) :=
  (if a2 = 0 then gd (inB a1 9) (some ((σ 3 (a1).toNatClampNeg), σ)) else (if a2 = (1 : Int32) then gd (inB a1 9) (some ((σ 4 (a1).toNatClampNeg), σ)) else (if a2 = (2 : Int32) then gd (inB a1 9) (some ((σ 5 (a1).toNatClampNeg), σ)) else gd (inB a1 9) (some ((σ 6 (a1).toNatClampNeg), σ)))))
def f_X10_gone (σ : Sg) (a1 : Int32) (a2 : Int32) : Option (Int32 × Sg) :=
  bnd (f_X10_isOne σ a1) (fun r1 σ2 => (if r1 = 0 then some ((-2 : Int32), σ2) else bnd (f_X10_in σ2 a2 (0 : Int32) (3 : Int32)) (fun r3 σ4 => (if r3 = 0 then some ((-2 : Int32), σ4) else bnd (f_X10_goneOf σ4 a1 a2) (fun r5 σ6 => some (r5, σ6))))))
def f_X10_isNeed (σ : Sg) (a1 : Int32) : Option (Int32 × Sg) :=
  bnd (f_X10_reads σ) (fun _ σ2 => bnd (f_X10_in σ2 a1 (0 : Int32) ((σ2 0 7) - (1 : Int32))) (fun r3 σ4 => gd (decide (r3 = 0 ∨ r3 = 1)) (some (r3, σ4))))
def f_X10_isThree (σ : Sg) (a0 : Int32) : Option (Int32 × Sg) :=
  bnd (f_X10_in σ a0 (0 : Int32) (2 : Int32)) (fun r1 σ2 => gd (decide (r1 = 0 ∨ r1 = 1)) (some (r1, σ2)))
def f_X10_needOf (σ : Sg) (a1 : Int32) (a2 : Int32) : Option (Int32 × Sg) :=
  (if a2 = 0 then gd (inB a1 9) (some ((σ 7 (a1).toNatClampNeg), σ)) else (if a2 = (1 : Int32) then gd (inB a1 9) (some ((σ 8 (a1).toNatClampNeg), σ)) else gd (inB a1 9) (some ((σ 9 (a1).toNatClampNeg), σ))))
def f_X10_need (σ : Sg) (a1 : Int32) (a2 : Int32) : Option (Int32 × Sg) :=
  bnd (f_X10_isNeed σ a1) (fun r1 σ2 => (if r1 = 0 then some ((-2 : Int32), σ2) else bnd (f_X10_isThree σ2 a2) (fun r3 σ4 => (if r3 = 0 then some ((-2 : Int32), σ4) else bnd (f_X10_needOf σ4 a1 a2) (fun r5 σ6 => some (r5, σ6))))))
def f_X10_isTwo (σ : Sg) (a0 : Int32) : Option (Int32 × Sg) :=
  bnd (f_X10_in σ a0 (0 : Int32) (1 : Int32)) (fun r1 σ2 => gd (decide (r1 = 0 ∨ r1 = 1)) (some (r1, σ2)))
def f_X10_event (σ : Sg) (a1 : Int32) (a2 : Int32) (a3 : Int32) : Option (Int32 × Sg) :=
  bnd (f_X10_isTwo σ a1) (fun r1 σ2 => (if r1 = 0 then some ((-2 : Int32), σ2) else bnd (f_X10_isNight σ2 a2) (fun r3 σ4 => (if r3 = 0 then some ((-2 : Int32), σ4) else bnd (f_X10_isSix σ4 a3) (fun r5 σ6 => (if r5 = 0 then some ((-2 : Int32), σ6) else (if (σ6 0 11) = (8 : Int32) then some ((-4 : Int32), σ6) else gd (inB (σ6 0 11) 9) (amlet (up2 σ6 10 ((σ6 0 11)).toNatClampNeg a1) (fun σ7 => gd (inB (σ7 0 11) 9) (amlet (up2 σ7 11 ((σ7 0 11)).toNatClampNeg a2) (fun σ8 => gd (inB (σ8 0 11) 9) (amlet (up2 σ8 12 ((σ8 0 11)).toNatClampNeg a3) (fun σ9 => amlet (up2 σ9 0 11 ((σ9 0 11) + (1 : Int32))) (fun σ10 => some ((σ10 0 11), σ10)))))))))))))))
def f_X10_back (σ : Sg) : Option (Int32 × Sg) :=
  (if (σ 0 11) = 0 then some ((-3 : Int32), σ) else amlet (up2 σ 0 11 ((σ 0 11) - (1 : Int32))) (fun σ1 => some ((σ1 0 11), σ1)))
def f_X10_isSheet (σ : Sg) (a0 : Int32) : Option (Int32 × Sg) :=
  bnd (f_X10_in σ a0 (0 : Int32) (3 : Int32)) (fun r1 σ2 => gd (decide (r1 = 0 ∨ r1 = 1)) (some (r1, σ2)))
def f_X10_meets (σ : Sg) (a1 : Int32) : Option (Int32 × Sg) :=
  amlet (up2 σ 0 41 a1) (fun σ1 => some (((-10 : Int32) - a1), σ1))
def f_X10_read_b32 (k32 : Sg → Int32 → Int32 → Int32 → Option (Int32 × Sg)) (σ : Sg) (x1 : Int32) (x2 : Int32) (x3 : Int32) : Option (Int32 × Sg) :=
  gd (inB x1 4) ((if (σ 29 (x1).toNatClampNeg) ≤ (((3 : Int32) * x2) + (2 : Int32)) then some (x2, σ) else gd (inB (x3 + ((3 : Int32) * x2)) 240) (gd (inB ((x3 + ((3 : Int32) * x2)) + (1 : Int32)) 240) (gd (inB ((x3 + ((3 : Int32) * x2)) + (2 : Int32)) 240) (bnd (f_X10_event σ (σ 30 ((x3 + ((3 : Int32) * x2))).toNatClampNeg) (σ 30 (((x3 + ((3 : Int32) * x2)) + (1 : Int32))).toNatClampNeg) (σ 30 (((x3 + ((3 : Int32) * x2)) + (2 : Int32))).toNatClampNeg)) (fun r1 σ2 => (if r1 ≤ 0 then some (x2, σ2) else amlet (x2 + (1 : Int32)) (fun v3 => (k32 σ2 x1 v3 x3)))))))))
def f_X10_read_l32 (n : Nat) : Sg → Int32 → Int32 → Int32 → Option (Int32 × Sg) := am_rec (fun _ _ _ _ => none) (fun k => f_X10_read_b32 k) n
def f_X10_read (σ : Sg) (a1 : Int32) : Option (Int32 × Sg) :=
  bnd (f_X10_isSheet σ a1) (fun r1 σ2 => (if r1 = 0 then some ((-2 : Int32), σ2) else gd (inB a1 4) ((if (σ2 27 (a1).toNatClampNeg) = 0 then bnd (f_X10_meets σ2 (1 : Int32)) (fun r4 σ5 => some (r4, σ5)) else amlet ((60 : Int32) * a1) (fun v3 => (f_X10_read_l32 300 σ2 a1 (0 : Int32) v3))))))
def f_X10_asTold_b14 (k14 : Sg → Int32 → Option (Unit × Sg)) (σ : Sg) (x1 : Int32) : Option (Unit × Sg) :=
  (if (σ 0 11) ≤ x1 then amlet (up2 σ 0 19 (0 : Int32)) (fun σ1 => some ((), σ1)) else gd (inB x1 9) (gd (inB x1 9) (amlet (up2 σ 13 (x1).toNatClampNeg (σ 10 (x1).toNatClampNeg)) (fun σ2 => gd (inB x1 9) (gd (inB x1 9) (amlet (up2 σ2 14 (x1).toNatClampNeg (σ2 11 (x1).toNatClampNeg)) (fun σ3 => gd (inB x1 9) (gd (inB x1 9) (amlet (up2 σ3 15 (x1).toNatClampNeg (σ3 12 (x1).toNatClampNeg)) (fun σ4 => amlet (x1 + (1 : Int32)) (fun v5 => (k14 σ4 v5))))))))))))
def f_X10_asTold_l14 (n : Nat) : Sg → Int32 → Option (Unit × Sg) := am_rec (fun _ _ => none) (fun k => f_X10_asTold_b14 k) n
def f_X10_asTold (σ : Sg) : Option (Unit × Sg) :=
  bnd (f_X10_reads σ) (fun _ σ2 => amlet (up2 σ2 0 15 (σ2 0 11)) (fun σ3 => (f_X10_asTold_l14 300 σ3 (0 : Int32))))
def f_X10_isIn (σ : Sg) (a0 : Int32) (a1 : Int32) : Option (Int32 × Sg) :=
  (if ((a0 >>> (a1 &&& 31)) &&& (1 : Int32)) = (1 : Int32) then some ((1 : Int32), σ) else some ((0 : Int32), σ))
def f_X10_harrows_b34 (k2 : Sg → Int32 → Int32 → Option (Unit × Sg)) (σ : Sg) (x1 : Int32) (x2 : Int32) (s0 : Int32) (s1 : Int32) : Option (Unit × Sg) :=
  amlet (up2 σ 0 20 (s1 &&& s0)) (fun σ1 => amlet (x2 + (1 : Int32)) (fun v2 => (k2 σ1 x1 v2)))
def f_X10_harrows_b2 (k2 : Sg → Int32 → Int32 → Option (Unit × Sg)) (σ : Sg) (x1 : Int32) (x2 : Int32) : Option (Unit × Sg) :=
  (if (σ 0 2) ≤ x2 then some ((), σ) else gd (inB x2 9) ((if (σ 5 (x2).toNatClampNeg) = x1 then (f_X10_harrows_b34 k2 σ x1 x2 (((1 : Int32) <<< (x2 &&& 31)) ^^^ (-1 : Int32)) (σ 0 20)) else (f_X10_harrows_b34 k2 σ x1 x2 (-1 : Int32) (σ 0 20)))))
def f_X10_harrows_l2 (n : Nat) : Sg → Int32 → Int32 → Option (Unit × Sg) := am_rec (fun _ _ _ => none) (fun k => f_X10_harrows_b2 k) n
def f_X10_harrows (σ : Sg) (a1 : Int32) : Option (Unit × Sg) :=
  (f_X10_harrows_l2 300 σ a1 (0 : Int32))
def f_X10_isOpen (σ : Sg) (a1 : Int32) (a2 : Int32) : Option (Int32 × Sg) :=
  gd (inB a1 9) ((if a2 < (σ 8 (a1).toNatClampNeg) then some ((0 : Int32), σ) else gd (inB a1 8) ((if (σ 17 (a1).toNatClampNeg) = (-1 : Int32) then some ((1 : Int32), σ) else some ((0 : Int32), σ)))))
def f_X10_wanted_b73 (k5 : Sg → Int32 → Int32 → Int32 → Int32 → Option (Int32 × Sg)) (σ : Sg) (x1 : Int32) (x2 : Int32) (x4 : Int32) (s0 : Int32) (s1 : Int32) : Option (Int32 × Sg) :=
  amlet (s1 + s0) (fun v1 => amlet (x4 + (1 : Int32)) (fun v2 => (k5 σ x1 x2 v1 v2)))
def f_X10_wanted_b72 (k5 : Sg → Int32 → Int32 → Int32 → Int32 → Option (Int32 × Sg)) (σ : Sg) (x1 : Int32) (x2 : Int32) (x4 : Int32) (s0 : Int32) : Option (Int32 × Sg) :=
  (f_X10_wanted_b73 k5 σ x1 x2 x4 (0 : Int32) s0)
def f_X10_wanted_b5 (k5 : Sg → Int32 → Int32 → Int32 → Int32 → Option (Int32 × Sg)) (σ : Sg) (x1 : Int32) (x2 : Int32) (x3 : Int32) (x4 : Int32) : Option (Int32 × Sg) :=
  (if (σ 0 7) ≤ x4 then some (x3, σ) else gd (inB x4 9) (gd (inB x4 9) (amlet (((σ 9 (x4).toNatClampNeg) + x2) - (σ 8 (x4).toNatClampNeg)) (fun v1 => gd (inB x4 9) ((if (σ 7 (x4).toNatClampNeg) = x1 then bnd (f_X10_isOpen σ x4 x2) (fun r2 σ3 => (if r2 = 0 then (f_X10_wanted_b72 k5 σ3 x1 x2 x4 x3) else (if (9 : Int32) ≤ v1 then (f_X10_wanted_b73 k5 σ3 x1 x2 x4 (9 : Int32) x3) else (f_X10_wanted_b73 k5 σ3 x1 x2 x4 v1 x3)))) else (f_X10_wanted_b72 k5 σ x1 x2 x4 x3)))))))
def f_X10_wanted_l5 (n : Nat) : Sg → Int32 → Int32 → Int32 → Int32 → Option (Int32 × Sg) := am_rec (fun _ _ _ _ _ => none) (fun k => f_X10_wanted_b5 k) n
def f_X10_wanted (σ : Sg) (a1 : Int32) (a2 : Int32) : Option (Int32 × Sg) :=
  (f_X10_wanted_l5 300 σ a1 a2 (0 : Int32) (0 : Int32))
def f_X10_comesUp_b67 (k25 : Sg → Int32 → Int32 → Int32 → Option (Unit × Sg)) (σ : Sg) (x1 : Int32) (x2 : Int32) (x3 : Int32) (s0 : Int32) (s1 : Int32) : Option (Unit × Sg) :=
  gd (inB s1 8) (amlet (up2 σ 17 (s1).toNatClampNeg s0) (fun σ1 => amlet (x3 + (1 : Int32)) (fun v2 => (k25 σ1 x1 x2 v2))))
def f_X10_comesUp_b61 (k25 : Sg → Int32 → Int32 → Int32 → Option (Unit × Sg)) (σ : Sg) (x1 : Int32) (x2 : Int32) (x3 : Int32) (s0 : Int32) : Option (Unit × Sg) :=
  gd (inB x3 8) ((f_X10_comesUp_b67 k25 σ x1 x2 x3 (σ 17 (x3).toNatClampNeg) s0))
def f_X10_comesUp_b133 (σ : Sg) (s0 : Int32) : Option (Unit × Sg) :=
  amlet (up2 σ 0 24 s0) (fun σ1 => some ((), σ1))
def f_X10_comesUp_b113 (σ : Sg) (x2 : Int32) (s0 : Int32) : Option (Unit × Sg) :=
  amlet (up2 σ 0 25 s0) (fun σ1 => (if (σ1 0 24) = (-1 : Int32) then (f_X10_comesUp_b133 σ1 x2) else (f_X10_comesUp_b133 σ1 (σ1 0 24))))
def f_X10_comesUp_b25 (k25 : Sg → Int32 → Int32 → Int32 → Option (Unit × Sg)) (σ : Sg) (x1 : Int32) (x2 : Int32) (x3 : Int32) : Option (Unit × Sg) :=
  (if (σ 0 7) ≤ x3 then amlet (up2 σ 0 20 ((σ 0 20) ||| ((1 : Int32) <<< (x1 &&& 31)))) (fun σ1 => gd (inB x1 8) (gd (inB x1 8) (amlet (up2 σ1 16 (x1).toNatClampNeg ((σ1 16 (x1).toNatClampNeg) + (1 : Int32))) (fun σ2 => (if (σ2 0 24) = (-1 : Int32) then (f_X10_comesUp_b113 σ2 x2 x1) else (f_X10_comesUp_b113 σ2 x2 (σ2 0 25))))))) else gd (inB x3 9) ((if (σ 7 (x3).toNatClampNeg) = x1 then bnd (f_X10_isOpen σ x3 x2) (fun r3 σ4 => (if r3 = 0 then (f_X10_comesUp_b61 k25 σ4 x1 x2 x3 x3) else (f_X10_comesUp_b67 k25 σ4 x1 x2 x3 x2 x3))) else (f_X10_comesUp_b61 k25 σ x1 x2 x3 x3))))
def f_X10_comesUp_l25 (n : Nat) : Sg → Int32 → Int32 → Int32 → Option (Unit × Sg) := am_rec (fun _ _ _ _ => none) (fun k => f_X10_comesUp_b25 k) n
def f_X10_comesUp_b19 (σ : Sg) (x1 : Int32) (x2 : Int32) (s0 : Int32) (s1 : Int32) : Option (Unit × Sg) :=
  amlet (up2 σ 0 23 (s1 + s0)) (fun σ1 => (f_X10_comesUp_l25 300 σ1 x1 x2 (0 : Int32)))
def f_X10_comesUp (σ : Sg) (a1 : Int32) (a2 : Int32) : Option (Unit × Sg) :=
  bnd (f_X10_wanted σ a1 a2) (fun r1 σ2 => (if r1 = 0 then (f_X10_comesUp_b19 σ2 a1 a2 (1 : Int32) (σ 0 23)) else (f_X10_comesUp_b19 σ2 a1 a2 (0 : Int32) (σ 0 23))))
def f_X10_pull (σ : Sg) (a1 : Int32) (a2 : Int32) : Option (Int32 × Sg) :=
  bnd (f_X10_wanted σ a1 a2) (fun r1 σ2 => gd (inB a1 9) ((if (σ2 3 (a1).toNatClampNeg) = 0 then gd (inB a1 9) (some ((r1 - ((σ2 6 (a1).toNatClampNeg) / (2 : Int32))), σ2)) else gd (inB a1 9) ((if (σ2 3 (a1).toNatClampNeg) = (1 : Int32) then gd (inB a1 9) (some ((r1 - (σ2 6 (a1).toNatClampNeg)), σ2)) else gd (inB a1 8) (some ((σ2 16 (a1).toNatClampNeg), σ2)))))))
def f_X10_ploughs_b121 (k8 : Sg → Int32 → Int32 → Int32 → Int32 → Int32 → Option (Unit × Sg)) (k18 : Sg → Int32 → Int32 → Int32 → Int32 → Int32 → Int32 → Option (Unit × Sg)) (σ : Sg) (x1 : Int32) (x2 : Int32) (x3 : Int32) (x4 : Int32) (x5 : Int32) (x6 : Int32) : Option (Unit × Sg) :=
  amlet (x6 + (1 : Int32)) (fun v1 => (k18 σ x1 x2 x3 x4 x5 v1))
def f_X10_ploughs_b119 (k8 : Sg → Int32 → Int32 → Int32 → Int32 → Int32 → Option (Unit × Sg)) (k18 : Sg → Int32 → Int32 → Int32 → Int32 → Int32 → Int32 → Option (Unit × Sg)) (σ : Sg) (x1 : Int32) (x2 : Int32) (x3 : Int32) (x5 : Int32) (x6 : Int32) (s0 : Int32) : Option (Unit × Sg) :=
  (f_X10_ploughs_b121 k8 k18 σ x1 x2 x3 s0 x5 x6)
def f_X10_ploughs_b106 (k8 : Sg → Int32 → Int32 → Int32 → Int32 → Int32 → Option (Unit × Sg)) (k18 : Sg → Int32 → Int32 → Int32 → Int32 → Int32 → Int32 → Option (Unit × Sg)) (σ : Sg) (x1 : Int32) (x2 : Int32) (x4 : Int32) (x5 : Int32) (x6 : Int32) (x7 : Int32) (x8 : Int32) (s0 : Int32) : Option (Unit × Sg) :=
  (if x8 = 0 then (f_X10_ploughs_b119 k8 k18 σ x1 x2 s0 x5 x6 x4) else (f_X10_ploughs_b119 k8 k18 σ x1 x2 s0 x5 x6 x7))
def f_X10_ploughs_b93 (k8 : Sg → Int32 → Int32 → Int32 → Int32 → Int32 → Option (Unit × Sg)) (k18 : Sg → Int32 → Int32 → Int32 → Int32 → Int32 → Int32 → Option (Unit × Sg)) (σ : Sg) (x1 : Int32) (x2 : Int32) (x3 : Int32) (x4 : Int32) (x5 : Int32) (x6 : Int32) (x7 : Int32) (s0 : Int32) : Option (Unit × Sg) :=
  (if s0 = 0 then (f_X10_ploughs_b106 k8 k18 σ x1 x2 x4 x5 x6 x7 s0 x3) else (f_X10_ploughs_b106 k8 k18 σ x1 x2 x4 x5 x6 x7 s0 x6))
def f_X10_ploughs_b88 (k8 : Sg → Int32 → Int32 → Int32 → Int32 → Int32 → Option (Unit × Sg)) (k18 : Sg → Int32 → Int32 → Int32 → Int32 → Int32 → Int32 → Option (Unit × Sg)) (σ : Sg) (x1 : Int32) (x2 : Int32) (x3 : Int32) (x4 : Int32) (x5 : Int32) (x6 : Int32) (x7 : Int32) : Option (Unit × Sg) :=
  (f_X10_ploughs_b93 k8 k18 σ x1 x2 x3 x4 x5 x6 x7 (1 : Int32))
def f_X10_ploughs_b92 (k8 : Sg → Int32 → Int32 → Int32 → Int32 → Int32 → Option (Unit × Sg)) (k18 : Sg → Int32 → Int32 → Int32 → Int32 → Int32 → Int32 → Option (Unit × Sg)) (σ : Sg) (x1 : Int32) (x2 : Int32) (x3 : Int32) (x4 : Int32) (x5 : Int32) (x6 : Int32) (x7 : Int32) : Option (Unit × Sg) :=
  (f_X10_ploughs_b93 k8 k18 σ x1 x2 x3 x4 x5 x6 x7 (0 : Int32))
def f_X10_ploughs_b18 (k8 : Sg → Int32 → Int32 → Int32 → Int32 → Int32 → Option (Unit × Sg)) (k18 : Sg → Int32 → Int32 → Int32 → Int32 → Int32 → Int32 → Option (Unit × Sg)) (σ : Sg) (x1 : Int32) (x2 : Int32) (x3 : Int32) (x4 : Int32) (x5 : Int32) (x6 : Int32) : Option (Unit × Sg) :=
  (if (σ 0 2) ≤ x6 then amlet (x5 + (1 : Int32)) (fun v1 => (k8 σ x1 x2 x3 x4 v1)) else gd (inB x6 9) ((if (σ 4 (x6).toNatClampNeg) = x5 then gd (inB x6 9) ((if (σ 5 (x6).toNatClampNeg) = x1 then bnd (f_X10_isIn σ (σ 0 20) x6) (fun r2 σ3 => (if r2 = 0 then bnd (f_X10_pull σ3 x6 x2) (fun r4 σ5 => (if r4 < 0 then (f_X10_ploughs_b92 k8 k18 σ5 x1 x2 x3 x4 x5 x6 r4) else (if x3 = (-1 : Int32) then (f_X10_ploughs_b88 k8 k18 σ5 x1 x2 x3 x4 x5 x6 r4) else (if r4 ≤ x4 then (f_X10_ploughs_b92 k8 k18 σ5 x1 x2 x3 x4 x5 x6 r4) else (f_X10_ploughs_b88 k8 k18 σ5 x1 x2 x3 x4 x5 x6 r4))))) else (f_X10_ploughs_b121 k8 k18 σ3 x1 x2 x3 x4 x5 x6))) else (f_X10_ploughs_b121 k8 k18 σ x1 x2 x3 x4 x5 x6))) else (f_X10_ploughs_b121 k8 k18 σ x1 x2 x3 x4 x5 x6))))
def f_X10_ploughs_l18 (k8 : Sg → Int32 → Int32 → Int32 → Int32 → Int32 → Option (Unit × Sg)) (n : Nat) : Sg → Int32 → Int32 → Int32 → Int32 → Int32 → Int32 → Option (Unit × Sg) := am_rec (fun _ _ _ _ _ _ _ => none) (fun k => f_X10_ploughs_b18 k8 k) n
def f_X10_ploughs_b8 (k8 : Sg → Int32 → Int32 → Int32 → Int32 → Int32 → Option (Unit × Sg)) (σ : Sg) (x1 : Int32) (x2 : Int32) (x3 : Int32) (x4 : Int32) (x5 : Int32) : Option (Unit × Sg) :=
  (if (6 : Int32) ≤ x5 then (if x3 = (-1 : Int32) then some ((), σ) else bnd (f_X10_comesUp σ x3 x2) (fun _ σ2 => some ((), σ2))) else (f_X10_ploughs_l18 k8 300 σ x1 x2 x3 x4 x5 (0 : Int32)))
def f_X10_ploughs_l8 (n : Nat) : Sg → Int32 → Int32 → Int32 → Int32 → Int32 → Option (Unit × Sg) := am_rec (fun _ _ _ _ _ _ => none) (fun k => f_X10_ploughs_b8 k) n
def f_X10_ploughs (σ : Sg) (a1 : Int32) (a2 : Int32) : Option (Unit × Sg) :=
  (f_X10_ploughs_l8 300 σ a1 a2 (-1 : Int32) (0 : Int32) (0 : Int32))
def f_X10_goesBy_b64 (k2 : Sg → Int32 → Int32 → Option (Unit × Sg)) (σ : Sg) (x1 : Int32) (x2 : Int32) : Option (Unit × Sg) :=
  amlet (x2 + (1 : Int32)) (fun v1 => (k2 σ x1 v1))
def f_X10_goesBy_b118 (k89 : Sg → Int32 → Int32 → Option (Unit × Sg)) (σ : Sg) (x1 : Int32) (x2 : Int32) (s0 : Int32) (s1 : Int32) (s2 : Int32) : Option (Unit × Sg) :=
  gd (inB s2 24) (amlet (up2 σ 21 (s2).toNatClampNeg (s1 + s0)) (fun σ1 => amlet (x2 + (1 : Int32)) (fun v2 => (k89 σ1 x1 v2))))
def f_X10_goesBy_b128 (k128 : Sg → Int32 → Int32 → Option (Unit × Sg)) (σ : Sg) (x1 : Int32) (x2 : Int32) : Option (Unit × Sg) :=
  (if (σ 0 2) ≤ x2 then some ((), σ) else bnd (f_X10_wanted σ x2 x1) (fun r1 σ2 => gd (inB (((8 : Int32) * x1) + x2) 192) (amlet (up2 σ2 18 ((((8 : Int32) * x1) + x2)).toNatClampNeg r1) (fun σ3 => gd (inB x2 8) (gd (inB (((8 : Int32) * x1) + x2) 192) (amlet (up2 σ3 19 ((((8 : Int32) * x1) + x2)).toNatClampNeg (σ3 16 (x2).toNatClampNeg)) (fun σ4 => amlet (x2 + (1 : Int32)) (fun v5 => (k128 σ4 x1 v5)))))))))
def f_X10_goesBy_l128 (n : Nat) : Sg → Int32 → Int32 → Option (Unit × Sg) := am_rec (fun _ _ _ => none) (fun k => f_X10_goesBy_b128 k) n
def f_X10_goesBy_b89 (k89 : Sg → Int32 → Int32 → Option (Unit × Sg)) (σ : Sg) (x1 : Int32) (x2 : Int32) : Option (Unit × Sg) :=
  (if (σ 0 7) ≤ x2 then (f_X10_goesBy_l128 300 σ x1 (0 : Int32)) else gd (inB x1 24) (bnd (f_X10_isOpen σ x2 x1) (fun r1 σ2 => (if r1 = 0 then (f_X10_goesBy_b118 k89 σ2 x1 x2 (0 : Int32) (σ 21 (x1).toNatClampNeg) x1) else (f_X10_goesBy_b118 k89 σ2 x1 x2 (1 : Int32) (σ 21 (x1).toNatClampNeg) x1)))))
def f_X10_goesBy_l89 (n : Nat) : Sg → Int32 → Int32 → Option (Unit × Sg) := am_rec (fun _ _ _ => none) (fun k => f_X10_goesBy_b89 k) n
def f_X10_goesBy_b2 (k2 : Sg → Int32 → Int32 → Option (Unit × Sg)) (σ : Sg) (x1 : Int32) (x2 : Int32) : Option (Unit × Sg) :=
  (if (σ 0 15) ≤ x2 then gd (inB x1 24) (amlet (up2 σ 20 (x1).toNatClampNeg (σ 0 20)) (fun σ1 => gd (inB x1 24) (amlet (up2 σ1 21 (x1).toNatClampNeg (0 : Int32)) (fun σ2 => (f_X10_goesBy_l89 300 σ2 x1 (0 : Int32)))))) else gd (inB x2 9) ((if (σ 14 (x2).toNatClampNeg) = x1 then bnd (f_X10_isIn σ (σ 0 19) x2) (fun r3 σ4 => (if r3 = 0 then gd (inB x2 9) ((if (σ4 13 (x2).toNatClampNeg) = 0 then gd (inB x2 9) (bnd (f_X10_ploughs σ4 (σ4 15 (x2).toNatClampNeg) x1) (fun _ σ9 => (f_X10_goesBy_b64 k2 σ9 x1 x2))) else gd (inB x2 9) (bnd (f_X10_harrows σ4 (σ4 15 (x2).toNatClampNeg)) (fun _ σ6 => (f_X10_goesBy_b64 k2 σ6 x1 x2))))) else (f_X10_goesBy_b64 k2 σ4 x1 x2))) else (f_X10_goesBy_b64 k2 σ x1 x2))))
def f_X10_goesBy_l2 (n : Nat) : Sg → Int32 → Int32 → Option (Unit × Sg) := am_rec (fun _ _ _ => none) (fun k => f_X10_goesBy_b2 k) n
def f_X10_goesBy (σ : Sg) (a1 : Int32) : Option (Unit × Sg) :=
  (f_X10_goesBy_l2 300 σ a1 (0 : Int32))
def f_X10_runs_b50 (k50 : Sg → Int32 → Option (Unit × Sg)) (σ : Sg) (x1 : Int32) : Option (Unit × Sg) :=
  (if (24 : Int32) ≤ x1 then some ((), σ) else bnd (f_X10_goesBy σ x1) (fun _ σ2 => amlet (x1 + (1 : Int32)) (fun v3 => (k50 σ2 v3))))
def f_X10_runs_l50 (n : Nat) : Sg → Int32 → Option (Unit × Sg) := am_rec (fun _ _ => none) (fun k => f_X10_runs_b50 k) n
def f_X10_runs_b2 (k2 : Sg → Int32 → Option (Unit × Sg)) (σ : Sg) (x1 : Int32) : Option (Unit × Sg) :=
  (if (8 : Int32) ≤ x1 then amlet (up2 σ 0 20 (0 : Int32)) (fun σ1 => amlet (up2 σ1 0 23 (0 : Int32)) (fun σ2 => amlet (up2 σ2 0 24 (-1 : Int32)) (fun σ3 => amlet (up2 σ3 0 25 (-1 : Int32)) (fun σ4 => (f_X10_runs_l50 300 σ4 (0 : Int32)))))) else gd (inB x1 8) (amlet (up2 σ 16 (x1).toNatClampNeg (0 : Int32)) (fun σ5 => gd (inB x1 8) (amlet (up2 σ5 17 (x1).toNatClampNeg (-1 : Int32)) (fun σ6 => amlet (x1 + (1 : Int32)) (fun v7 => (k2 σ6 v7)))))))
def f_X10_runs_l2 (n : Nat) : Sg → Int32 → Option (Unit × Sg) := am_rec (fun _ _ => none) (fun k => f_X10_runs_b2 k) n
def f_X10_runs (σ : Sg) : Option (Unit × Sg) :=
  (f_X10_runs_l2 300 σ (0 : Int32))
def f_X10_runsTold (σ : Sg) : Option (Unit × Sg) :=
  bnd (f_X10_asTold σ) (fun _ σ2 => bnd (f_X10_runs σ2) (fun _ σ4 => some ((), σ4)))
def f_X10_atOf (σ : Sg) (a1 : Int32) (a2 : Int32) (a3 : Int32) : Option (Int32 × Sg) :=
  bnd (f_X10_runsTold σ) (fun _ σ2 => (if a3 = 0 then gd (inB a1 24) (bnd (f_X10_isIn σ2 (σ2 20 (a1).toNatClampNeg) a2) (fun r3 σ4 => (if r3 = 0 then some ((0 : Int32), σ4) else some ((1 : Int32), σ4)))) else (if a3 = (1 : Int32) then gd (inB (((8 : Int32) * a1) + a2) 192) (some ((σ2 18 ((((8 : Int32) * a1) + a2)).toNatClampNeg), σ2)) else gd (inB (((8 : Int32) * a1) + a2) 192) (some ((σ2 19 ((((8 : Int32) * a1) + a2)).toNatClampNeg), σ2)))))
def f_X10_at (σ : Sg) (a1 : Int32) (a2 : Int32) (a3 : Int32) : Option (Int32 × Sg) :=
  bnd (f_X10_isNight σ a1) (fun r1 σ2 => (if r1 = 0 then some ((-2 : Int32), σ2) else bnd (f_X10_isOne σ2 a2) (fun r3 σ4 => (if r3 = 0 then some ((-2 : Int32), σ4) else bnd (f_X10_isThree σ4 a3) (fun r5 σ6 => (if r5 = 0 then some ((-2 : Int32), σ6) else bnd (f_X10_atOf σ6 a1 a2 a3) (fun r7 σ8 => some (r7, σ8))))))))
def f_X10_fieldOf_b62 (k10 : Sg → Int32 → Int32 → Int32 → Int32 → Int32 → Option (Int32 × Sg)) (σ : Sg) (x1 : Int32) (x2 : Int32) (x3 : Int32) (x5 : Int32) (s0 : Int32) : Option (Int32 × Sg) :=
  amlet (x5 + (1 : Int32)) (fun v1 => (k10 σ x1 x2 x3 s0 v1))
def f_X10_fieldOf_b60 (k10 : Sg → Int32 → Int32 → Int32 → Int32 → Int32 → Option (Int32 × Sg)) (σ : Sg) (x1 : Int32) (x2 : Int32) (x3 : Int32) (x4 : Int32) (x5 : Int32) : Option (Int32 × Sg) :=
  (f_X10_fieldOf_b62 k10 σ x1 x2 x3 x5 x4)
def f_X10_fieldOf_b10 (k10 : Sg → Int32 → Int32 → Int32 → Int32 → Int32 → Option (Int32 × Sg)) (σ : Sg) (x1 : Int32) (x2 : Int32) (x3 : Int32) (x4 : Int32) (x5 : Int32) : Option (Int32 × Sg) :=
  (if (σ 0 2) ≤ x5 then some (x4, σ) else gd (inB x1 24) (bnd (f_X10_isIn σ (σ 20 (x1).toNatClampNeg) x5) (fun r1 σ2 => (if r1 = 0 then (f_X10_fieldOf_b60 k10 σ2 x1 x2 x3 x4 x5) else gd (inB x5 9) ((if (σ2 4 (x5).toNatClampNeg) = x2 then gd (inB x5 9) ((if (σ2 5 (x5).toNatClampNeg) = x3 then (f_X10_fieldOf_b62 k10 σ2 x1 x2 x3 x5 x5) else (f_X10_fieldOf_b60 k10 σ2 x1 x2 x3 x4 x5))) else (f_X10_fieldOf_b60 k10 σ2 x1 x2 x3 x4 x5)))))))
def f_X10_fieldOf_l10 (n : Nat) : Sg → Int32 → Int32 → Int32 → Int32 → Int32 → Option (Int32 × Sg) := am_rec (fun _ _ _ _ _ _ => none) (fun k => f_X10_fieldOf_b10 k) n
def f_X10_fieldOf (σ : Sg) (a1 : Int32) (a2 : Int32) (a3 : Int32) : Option (Int32 × Sg) :=
  bnd (f_X10_runsTold σ) (fun _ σ2 => (f_X10_fieldOf_l10 300 σ2 a1 a2 a3 (-1 : Int32) (0 : Int32)))
def f_X10_field (σ : Sg) (a1 : Int32) (a2 : Int32) (a3 : Int32) : Option (Int32 × Sg) :=
  bnd (f_X10_isNight σ a1) (fun r1 σ2 => (if r1 = 0 then some ((-2 : Int32), σ2) else bnd (f_X10_isSix σ2 a2) (fun r3 σ4 => (if r3 = 0 then some ((-2 : Int32), σ4) else bnd (f_X10_isSix σ4 a3) (fun r5 σ6 => (if r5 = 0 then some ((-2 : Int32), σ6) else bnd (f_X10_fieldOf σ6 a1 a2 a3) (fun r7 σ8 => some (r7, σ8))))))))
def f_X10_many_b24 (k4 : Sg → Int32 → Int32 → Int32 → Option (Int32 × Sg)) (σ : Sg) (x1 : Int32) (x3 : Int32) (s0 : Int32) (s1 : Int32) : Option (Int32 × Sg) :=
  amlet (s1 + s0) (fun v1 => amlet (x3 + (1 : Int32)) (fun v2 => (k4 σ x1 v1 v2)))
def f_X10_many_b4 (k4 : Sg → Int32 → Int32 → Int32 → Option (Int32 × Sg)) (σ : Sg) (x1 : Int32) (x2 : Int32) (x3 : Int32) : Option (Int32 × Sg) :=
  (if (8 : Int32) ≤ x3 then some (x2, σ) else bnd (f_X10_isIn σ x1 x3) (fun r1 σ2 => (if r1 = 0 then (f_X10_many_b24 k4 σ2 x1 x3 (0 : Int32) x2) else (f_X10_many_b24 k4 σ2 x1 x3 (1 : Int32) x2))))
def f_X10_many_l4 (n : Nat) : Sg → Int32 → Int32 → Int32 → Option (Int32 × Sg) := am_rec (fun _ _ _ _ => none) (fun k => f_X10_many_b4 k) n
def f_X10_many (σ : Sg) (a1 : Int32) : Option (Int32 × Sg) :=
  (f_X10_many_l4 300 σ a1 (0 : Int32) (0 : Int32))
def f_X10_upOf (σ : Sg) (a1 : Int32) (a2 : Int32) : Option (Int32 × Sg) :=
  bnd (f_X10_runsTold σ) (fun _ σ2 => (if a2 = 0 then gd (inB a1 24) (bnd (f_X10_many σ2 (σ2 20 (a1).toNatClampNeg)) (fun r3 σ4 => some (r3, σ4))) else gd (inB a1 24) (some ((σ2 21 (a1).toNatClampNeg), σ2))))
def f_X10_up (σ : Sg) (a1 : Int32) (a2 : Int32) : Option (Int32 × Sg) :=
  bnd (f_X10_isNight σ a1) (fun r1 σ2 => (if r1 = 0 then some ((-2 : Int32), σ2) else bnd (f_X10_isTwo σ2 a2) (fun r3 σ4 => (if r3 = 0 then some ((-2 : Int32), σ4) else bnd (f_X10_upOf σ4 a1 a2) (fun r5 σ6 => some (r5, σ6))))))
def f_X10_metOf (σ : Sg) (a1 : Int32) : Option (Int32 × Sg) :=
  bnd (f_X10_runsTold σ) (fun _ σ2 => gd (inB a1 8) (some ((σ2 17 (a1).toNatClampNeg), σ2)))
def f_X10_met (σ : Sg) (a1 : Int32) : Option (Int32 × Sg) :=
  bnd (f_X10_isNeed σ a1) (fun r1 σ2 => (if r1 = 0 then some ((-2 : Int32), σ2) else bnd (f_X10_metOf σ2 a1) (fun r3 σ4 => some (r3, σ4))))
def f_X10_stoodNow_b29 (k4 : Sg → Int32 → Int32 → Int32 → Option (Int32 × Sg)) (σ : Sg) (x1 : Int32) (x3 : Int32) (s0 : Int32) (s1 : Int32) : Option (Int32 × Sg) :=
  amlet (s1 + s0) (fun v1 => amlet (x3 + (1 : Int32)) (fun v2 => (k4 σ x1 v1 v2)))
def f_X10_stoodNow_b4 (k4 : Sg → Int32 → Int32 → Int32 → Option (Int32 × Sg)) (σ : Sg) (x1 : Int32) (x2 : Int32) (x3 : Int32) : Option (Int32 × Sg) :=
  (if (24 : Int32) ≤ x3 then some (x2, σ) else gd (inB x3 24) (bnd (f_X10_isIn σ (σ 20 (x3).toNatClampNeg) x1) (fun r1 σ2 => (if r1 = 0 then (f_X10_stoodNow_b29 k4 σ2 x1 x3 (0 : Int32) x2) else (f_X10_stoodNow_b29 k4 σ2 x1 x3 (1 : Int32) x2)))))
def f_X10_stoodNow_l4 (n : Nat) : Sg → Int32 → Int32 → Int32 → Option (Int32 × Sg) := am_rec (fun _ _ _ _ => none) (fun k => f_X10_stoodNow_b4 k) n
def f_X10_stoodNow (σ : Sg) (a1 : Int32) : Option (Int32 × Sg) :=
  (f_X10_stoodNow_l4 300 σ a1 (0 : Int32) (0 : Int32))
def f_X10_stoodOf (σ : Sg) (a1 : Int32) : Option (Int32 × Sg) :=
  bnd (f_X10_runsTold σ) (fun _ σ2 => bnd (f_X10_stoodNow σ2 a1) (fun r3 σ4 => some (r3, σ4)))
def f_X10_stood (σ : Sg) (a1 : Int32) : Option (Int32 × Sg) :=
  bnd (f_X10_isOne σ a1) (fun r1 σ2 => (if r1 = 0 then some ((-2 : Int32), σ2) else bnd (f_X10_stoodOf σ2 a1) (fun r3 σ4 => some (r3, σ4))))
def f_X10_wronglyOf (σ : Sg) : Option (Int32 × Sg) :=
  bnd (f_X10_runsTold σ) (fun _ σ2 => some ((σ2 0 23), σ2))
def f_X10_wrongly (σ : Sg) : Option (Int32 × Sg) :=
  bnd (f_X10_wronglyOf σ) (fun r1 σ2 => some (r1, σ2))
def f_X10_firstOf (σ : Sg) (a1 : Int32) : Option (Int32 × Sg) :=
  bnd (f_X10_runsTold σ) (fun _ σ2 => (if a1 = 0 then some ((σ2 0 24), σ2) else some ((σ2 0 25), σ2)))
def f_X10_first (σ : Sg) (a1 : Int32) : Option (Int32 × Sg) :=
  bnd (f_X10_isTwo σ a1) (fun r1 σ2 => (if r1 = 0 then some ((-2 : Int32), σ2) else bnd (f_X10_firstOf σ2 a1) (fun r3 σ4 => some (r3, σ4))))
def f_X10_gateOf_b54 (k10 : Sg → Int32 → Int32 → Int32 → Option (Int32 × Sg)) (σ : Sg) (x1 : Int32) (x3 : Int32) (s0 : Int32) : Option (Int32 × Sg) :=
  amlet (x3 + (1 : Int32)) (fun v1 => (k10 σ x1 s0 v1))
def f_X10_gateOf_b33 (k10 : Sg → Int32 → Int32 → Int32 → Option (Int32 × Sg)) (σ : Sg) (x2 : Int32) (x3 : Int32) (s0 : Int32) : Option (Int32 × Sg) :=
  gd (inB x3 8) ((if (σ 16 (x3).toNatClampNeg) ≤ x2 then (f_X10_gateOf_b54 k10 σ s0 x3 x2) else gd (inB x3 8) ((f_X10_gateOf_b54 k10 σ s0 x3 (σ 16 (x3).toNatClampNeg)))))
def f_X10_gateOf_b10 (k10 : Sg → Int32 → Int32 → Int32 → Option (Int32 × Sg)) (σ : Sg) (x1 : Int32) (x2 : Int32) (x3 : Int32) : Option (Int32 × Sg) :=
  (if (σ 0 2) ≤ x3 then some (x1, σ) else gd (inB x3 8) ((if (σ 16 (x3).toNatClampNeg) ≤ x2 then (f_X10_gateOf_b33 k10 σ x2 x3 x1) else (f_X10_gateOf_b33 k10 σ x2 x3 x3))))
def f_X10_gateOf_l10 (n : Nat) : Sg → Int32 → Int32 → Int32 → Option (Int32 × Sg) := am_rec (fun _ _ _ _ => none) (fun k => f_X10_gateOf_b10 k) n
def f_X10_gateOf (σ : Sg) : Option (Int32 × Sg) :=
  bnd (f_X10_runsTold σ) (fun _ σ2 => (f_X10_gateOf_l10 300 σ2 (-1 : Int32) (0 : Int32) (0 : Int32)))
def f_X10_gate (σ : Sg) : Option (Int32 × Sg) :=
  bnd (f_X10_gateOf σ) (fun r1 σ2 => some (r1, σ2))
def f_X10_restOf_b33 (k8 : Sg → Int32 → Int32 → Option (Int32 × Sg)) (σ : Sg) (x2 : Int32) (s0 : Int32) (s1 : Int32) : Option (Int32 × Sg) :=
  amlet (s1 ||| s0) (fun v1 => amlet (x2 + (1 : Int32)) (fun v2 => (k8 σ v1 v2)))
def f_X10_restOf_b8 (k8 : Sg → Int32 → Int32 → Option (Int32 × Sg)) (σ : Sg) (x1 : Int32) (x2 : Int32) : Option (Int32 × Sg) :=
  (if (σ 0 2) ≤ x2 then some (x1, σ) else gd (inB x2 8) ((if (σ 16 (x2).toNatClampNeg) = 0 then (f_X10_restOf_b33 k8 σ x2 ((1 : Int32) <<< (x2 &&& 31)) x1) else (f_X10_restOf_b33 k8 σ x2 (0 : Int32) x1))))
def f_X10_restOf_l8 (n : Nat) : Sg → Int32 → Int32 → Option (Int32 × Sg) := am_rec (fun _ _ _ => none) (fun k => f_X10_restOf_b8 k) n
def f_X10_restOf (σ : Sg) : Option (Int32 × Sg) :=
  bnd (f_X10_runsTold σ) (fun _ σ2 => (f_X10_restOf_l8 300 σ2 (0 : Int32) (0 : Int32)))
def f_X10_rest (σ : Sg) : Option (Int32 × Sg) :=
  bnd (f_X10_restOf σ) (fun r1 σ2 => some (r1, σ2))
def f_X10_more (σ : Sg) (a1 : Int32) (a2 : Int32) : Option (Unit × Sg) :=
  amlet (up2 σ 0 15 ((σ 0 11) + (1 : Int32))) (fun σ1 => gd (inB (σ1 0 11) 9) (amlet (up2 σ1 13 ((σ1 0 11)).toNatClampNeg (0 : Int32)) (fun σ2 => gd (inB (σ2 0 11) 9) (amlet (up2 σ2 14 ((σ2 0 11)).toNatClampNeg a1) (fun σ3 => gd (inB (σ3 0 11) 9) (amlet (up2 σ3 15 ((σ3 0 11)).toNatClampNeg a2) (fun σ4 => bnd (f_X10_runs σ4) (fun _ σ6 => some ((), σ6)))))))))
def f_X10_metNow_b28 (k4 : Sg → Int32 → Int32 → Option (Int32 × Sg)) (σ : Sg) (x2 : Int32) (s0 : Int32) (s1 : Int32) : Option (Int32 × Sg) :=
  amlet (s1 + s0) (fun v1 => amlet (x2 + (1 : Int32)) (fun v2 => (k4 σ v1 v2)))
def f_X10_metNow_b4 (k4 : Sg → Int32 → Int32 → Option (Int32 × Sg)) (σ : Sg) (x1 : Int32) (x2 : Int32) : Option (Int32 × Sg) :=
  (if (σ 0 7) ≤ x2 then some (x1, σ) else gd (inB x2 8) ((if (σ 17 (x2).toNatClampNeg) = (-1 : Int32) then (f_X10_metNow_b28 k4 σ x2 (0 : Int32) x1) else (f_X10_metNow_b28 k4 σ x2 (1 : Int32) x1))))
def f_X10_metNow_l4 (n : Nat) : Sg → Int32 → Int32 → Option (Int32 × Sg) := am_rec (fun _ _ _ => none) (fun k => f_X10_metNow_b4 k) n
def f_X10_metNow (σ : Sg) : Option (Int32 × Sg) :=
  (f_X10_metNow_l4 300 σ (0 : Int32) (0 : Int32))
def f_X10_ploughOf_b60 (k12 : Sg → Int32 → Int32 → Int32 → Int32 → Int32 → Option (Int32 × Sg)) (σ : Sg) (x1 : Int32) (x2 : Int32) (x3 : Int32) (x5 : Int32) (s0 : Int32) : Option (Int32 × Sg) :=
  amlet (x5 + (1 : Int32)) (fun v1 => (k12 σ x1 x2 x3 s0 v1))
def f_X10_ploughOf_b45 (k12 : Sg → Int32 → Int32 → Int32 → Int32 → Int32 → Option (Int32 × Sg)) (σ : Sg) (x1 : Int32) (x2 : Int32) (x4 : Int32) (x5 : Int32) (x6 : Int32) (s0 : Int32) : Option (Int32 × Sg) :=
  (if x6 ≤ x4 then (f_X10_ploughOf_b60 k12 σ x1 x2 s0 x5 x4) else (f_X10_ploughOf_b60 k12 σ x1 x2 s0 x5 x6))
def f_X10_ploughOf_b12 (k12 : Sg → Int32 → Int32 → Int32 → Int32 → Int32 → Option (Int32 × Sg)) (σ : Sg) (x1 : Int32) (x2 : Int32) (x3 : Int32) (x4 : Int32) (x5 : Int32) : Option (Int32 × Sg) :=
  (if (6 : Int32) ≤ x5 then (if x2 = 0 then some (x3, σ) else some (x4, σ)) else bnd (f_X10_more σ x1 x5) (fun _ σ2 => bnd (f_X10_metNow σ2) (fun r3 σ4 => (if r3 ≤ x4 then (f_X10_ploughOf_b45 k12 σ4 x1 x2 x4 x5 r3 x3) else (f_X10_ploughOf_b45 k12 σ4 x1 x2 x4 x5 r3 x5)))))
def f_X10_ploughOf_l12 (n : Nat) : Sg → Int32 → Int32 → Int32 → Int32 → Int32 → Option (Int32 × Sg) := am_rec (fun _ _ _ _ _ _ => none) (fun k => f_X10_ploughOf_b12 k) n
def f_X10_ploughOf (σ : Sg) (a1 : Int32) (a2 : Int32) : Option (Int32 × Sg) :=
  bnd (f_X10_asTold σ) (fun _ σ2 => (f_X10_ploughOf_l12 300 σ2 a1 a2 (-1 : Int32) (-1 : Int32) (0 : Int32)))
def f_X10_plough (σ : Sg) (a1 : Int32) (a2 : Int32) : Option (Int32 × Sg) :=
  bnd (f_X10_isNight σ a1) (fun r1 σ2 => (if r1 = 0 then some ((-2 : Int32), σ2) else bnd (f_X10_isTwo σ2 a2) (fun r3 σ4 => (if r3 = 0 then some ((-2 : Int32), σ4) else bnd (f_X10_ploughOf σ4 a1 a2) (fun r5 σ6 => some (r5, σ6))))))
def f_X10_isOther_b53 (k6 : Sg → Int32 → Int32 → Int32 → Int32 → Int32 → Option (Int32 × Sg)) (σ : Sg) (x1 : Int32) (x2 : Int32) (x3 : Int32) (x5 : Int32) (s0 : Int32) : Option (Int32 × Sg) :=
  amlet (x5 + (1 : Int32)) (fun v1 => (k6 σ x1 x2 x3 s0 v1))
def f_X10_isOther_b48 (k6 : Sg → Int32 → Int32 → Int32 → Int32 → Int32 → Option (Int32 × Sg)) (σ : Sg) (x1 : Int32) (x2 : Int32) (x3 : Int32) (x5 : Int32) : Option (Int32 × Sg) :=
  (f_X10_isOther_b53 k6 σ x1 x2 x3 x5 (1 : Int32))
def f_X10_isOther_b52 (k6 : Sg → Int32 → Int32 → Int32 → Int32 → Int32 → Option (Int32 × Sg)) (σ : Sg) (x1 : Int32) (x2 : Int32) (x3 : Int32) (x5 : Int32) : Option (Int32 × Sg) :=
  (f_X10_isOther_b53 k6 σ x1 x2 x3 x5 (0 : Int32))
def f_X10_isOther_b6 (k6 : Sg → Int32 → Int32 → Int32 → Int32 → Int32 → Option (Int32 × Sg)) (σ : Sg) (x1 : Int32) (x2 : Int32) (x3 : Int32) (x4 : Int32) (x5 : Int32) : Option (Int32 × Sg) :=
  (if (σ 0 2) ≤ x5 then gd (decide (x4 = 0 ∨ x4 = 1)) (some (x4, σ)) else (if x4 = 0 then (if x5 = x1 then (f_X10_isOther_b52 k6 σ x1 x2 x3 x5) else gd (inB x5 9) ((if (σ 4 (x5).toNatClampNeg) = x2 then gd (inB x5 9) ((if (σ 5 (x5).toNatClampNeg) = x3 then (f_X10_isOther_b48 k6 σ x1 x2 x3 x5) else (f_X10_isOther_b52 k6 σ x1 x2 x3 x5))) else (f_X10_isOther_b52 k6 σ x1 x2 x3 x5)))) else (f_X10_isOther_b48 k6 σ x1 x2 x3 x5)))
def f_X10_isOther_l6 (n : Nat) : Sg → Int32 → Int32 → Int32 → Int32 → Int32 → Option (Int32 × Sg) := am_rec (fun _ _ _ _ _ _ => none) (fun k => f_X10_isOther_b6 k) n
def f_X10_isOther (σ : Sg) (a1 : Int32) (a2 : Int32) (a3 : Int32) : Option (Int32 × Sg) :=
  (f_X10_isOther_l6 300 σ a1 a2 a3 (0 : Int32) (0 : Int32))
def f_X10_lieOf_b143 (k28 : Sg → Int32 → Int32 → Int32 → Int32 → Int32 → Int32 → Int32 → Option (Int32 × Sg)) (σ : Sg) (x1 : Int32) (x2 : Int32) (x3 : Int32) (x4 : Int32) (x5 : Int32) (x6 : Int32) (x7 : Int32) : Option (Int32 × Sg) :=
  amlet (x7 + (1 : Int32)) (fun v1 => (k28 σ x1 x2 x3 x4 x5 x6 v1))
def f_X10_lieOf_b141 (k28 : Sg → Int32 → Int32 → Int32 → Int32 → Int32 → Int32 → Int32 → Option (Int32 × Sg)) (σ : Sg) (x1 : Int32) (x2 : Int32) (x3 : Int32) (x4 : Int32) (x5 : Int32) (x7 : Int32) (s0 : Int32) : Option (Int32 × Sg) :=
  (f_X10_lieOf_b143 k28 σ x1 x2 x3 x4 x5 s0 x7)
def f_X10_lieOf_b127 (k28 : Sg → Int32 → Int32 → Int32 → Int32 → Int32 → Int32 → Int32 → Option (Int32 × Sg)) (σ : Sg) (x1 : Int32) (x2 : Int32) (x3 : Int32) (x4 : Int32) (x6 : Int32) (x7 : Int32) (x8 : Int32) (x9 : Int32) (s0 : Int32) : Option (Int32 × Sg) :=
  (if x9 = 0 then (f_X10_lieOf_b141 k28 σ x1 x2 x3 x4 s0 x7 x6) else (f_X10_lieOf_b141 k28 σ x1 x2 x3 x4 s0 x7 x8))
def f_X10_lieOf_b113 (k28 : Sg → Int32 → Int32 → Int32 → Int32 → Int32 → Int32 → Int32 → Option (Int32 × Sg)) (σ : Sg) (x1 : Int32) (x2 : Int32) (x3 : Int32) (x4 : Int32) (x5 : Int32) (x6 : Int32) (x7 : Int32) (x8 : Int32) (s0 : Int32) : Option (Int32 × Sg) :=
  (if s0 = 0 then (f_X10_lieOf_b127 k28 σ x1 x2 x3 x4 x6 x7 x8 s0 x5) else (f_X10_lieOf_b127 k28 σ x1 x2 x3 x4 x6 x7 x8 s0 x7))
def f_X10_lieOf_b108 (k28 : Sg → Int32 → Int32 → Int32 → Int32 → Int32 → Int32 → Int32 → Option (Int32 × Sg)) (σ : Sg) (x1 : Int32) (x2 : Int32) (x3 : Int32) (x4 : Int32) (x5 : Int32) (x6 : Int32) (x7 : Int32) (x8 : Int32) : Option (Int32 × Sg) :=
  (f_X10_lieOf_b113 k28 σ x1 x2 x3 x4 x5 x6 x7 x8 (1 : Int32))
def f_X10_lieOf_b112 (k28 : Sg → Int32 → Int32 → Int32 → Int32 → Int32 → Int32 → Int32 → Option (Int32 × Sg)) (σ : Sg) (x1 : Int32) (x2 : Int32) (x3 : Int32) (x4 : Int32) (x5 : Int32) (x6 : Int32) (x7 : Int32) (x8 : Int32) : Option (Int32 × Sg) :=
  (f_X10_lieOf_b113 k28 σ x1 x2 x3 x4 x5 x6 x7 x8 (0 : Int32))
def f_X10_lieOf_b28 (k28 : Sg → Int32 → Int32 → Int32 → Int32 → Int32 → Int32 → Int32 → Option (Int32 × Sg)) (σ : Sg) (x1 : Int32) (x2 : Int32) (x3 : Int32) (x4 : Int32) (x5 : Int32) (x6 : Int32) (x7 : Int32) : Option (Int32 × Sg) :=
  (if (36 : Int32) ≤ x7 then gd (inB x1 9) (amlet (up2 σ 4 (x1).toNatClampNeg x3) (fun σ1 => gd (inB x1 9) (amlet (up2 σ1 5 (x1).toNatClampNeg x4) (fun σ2 => (if x5 = (-1 : Int32) then some ((-1 : Int32), σ2) else (if x2 = 0 then some ((x5 / (6 : Int32)), σ2) else (if x2 = (1 : Int32) then some ((x5 - x5 / (6 : Int32) * (6 : Int32)), σ2) else some (x6, σ2)))))))) else bnd (f_X10_isOther σ x1 (x7 / (6 : Int32)) (x7 - x7 / (6 : Int32) * (6 : Int32))) (fun r3 σ4 => (if r3 = 0 then gd (inB x1 9) (amlet (up2 σ4 4 (x1).toNatClampNeg (x7 / (6 : Int32))) (fun σ5 => gd (inB x1 9) (amlet (up2 σ5 5 (x1).toNatClampNeg (x7 - x7 / (6 : Int32) * (6 : Int32))) (fun σ6 => bnd (f_X10_runs σ6) (fun _ σ8 => bnd (f_X10_stoodNow σ8 x1) (fun r9 σ10 => gd (inB x1 8) ((if (σ10 16 (x1).toNatClampNeg) ≤ 0 then (f_X10_lieOf_b112 k28 σ10 x1 x2 x3 x4 x5 x6 x7 r9) else (if x5 = (-1 : Int32) then (f_X10_lieOf_b108 k28 σ10 x1 x2 x3 x4 x5 x6 x7 r9) else (if x6 ≤ r9 then (f_X10_lieOf_b112 k28 σ10 x1 x2 x3 x4 x5 x6 x7 r9) else (f_X10_lieOf_b108 k28 σ10 x1 x2 x3 x4 x5 x6 x7 r9))))))))))) else (f_X10_lieOf_b143 k28 σ4 x1 x2 x3 x4 x5 x6 x7))))
def f_X10_lieOf_l28 (n : Nat) : Sg → Int32 → Int32 → Int32 → Int32 → Int32 → Int32 → Int32 → Option (Int32 × Sg) := am_rec (fun _ _ _ _ _ _ _ _ => none) (fun k => f_X10_lieOf_b28 k) n
def f_X10_lieOf (σ : Sg) (a1 : Int32) (a2 : Int32) : Option (Int32 × Sg) :=
  bnd (f_X10_asTold σ) (fun _ σ2 => gd (inB a1 9) (amlet (σ2 4 (a1).toNatClampNeg) (fun v3 => gd (inB a1 9) (amlet (σ2 5 (a1).toNatClampNeg) (fun v4 => (f_X10_lieOf_l28 300 σ2 a1 a2 v3 v4 (-1 : Int32) (0 : Int32) (0 : Int32)))))))
def f_X10_lie (σ : Sg) (a1 : Int32) (a2 : Int32) : Option (Int32 × Sg) :=
  bnd (f_X10_isOne σ a1) (fun r1 σ2 => (if r1 = 0 then some ((-2 : Int32), σ2) else bnd (f_X10_isThree σ2 a2) (fun r3 σ4 => (if r3 = 0 then some ((-2 : Int32), σ4) else bnd (f_X10_lieOf σ4 a1 a2) (fun r5 σ6 => some (r5, σ6))))))
def f_X10_whenOf_b60 (k12 : Sg → Int32 → Int32 → Int32 → Int32 → Int32 → Option (Int32 × Sg)) (σ : Sg) (x1 : Int32) (x2 : Int32) (x3 : Int32) (x5 : Int32) (s0 : Int32) : Option (Int32 × Sg) :=
  amlet (x5 + (1 : Int32)) (fun v1 => (k12 σ x1 x2 x3 s0 v1))
def f_X10_whenOf_b45 (k12 : Sg → Int32 → Int32 → Int32 → Int32 → Int32 → Option (Int32 × Sg)) (σ : Sg) (x1 : Int32) (x2 : Int32) (x4 : Int32) (x5 : Int32) (x6 : Int32) (s0 : Int32) : Option (Int32 × Sg) :=
  (if x6 ≤ x4 then (f_X10_whenOf_b60 k12 σ x1 x2 s0 x5 x4) else (f_X10_whenOf_b60 k12 σ x1 x2 s0 x5 x6))
def f_X10_whenOf_b12 (k12 : Sg → Int32 → Int32 → Int32 → Int32 → Int32 → Option (Int32 × Sg)) (σ : Sg) (x1 : Int32) (x2 : Int32) (x3 : Int32) (x4 : Int32) (x5 : Int32) : Option (Int32 × Sg) :=
  (if (24 : Int32) ≤ x5 then (if x2 = 0 then some (x3, σ) else some (x4, σ)) else bnd (f_X10_more σ x5 x1) (fun _ σ2 => bnd (f_X10_metNow σ2) (fun r3 σ4 => (if r3 ≤ x4 then (f_X10_whenOf_b45 k12 σ4 x1 x2 x4 x5 r3 x3) else (f_X10_whenOf_b45 k12 σ4 x1 x2 x4 x5 r3 x5)))))
def f_X10_whenOf_l12 (n : Nat) : Sg → Int32 → Int32 → Int32 → Int32 → Int32 → Option (Int32 × Sg) := am_rec (fun _ _ _ _ _ _ => none) (fun k => f_X10_whenOf_b12 k) n
def f_X10_whenOf (σ : Sg) (a1 : Int32) (a2 : Int32) : Option (Int32 × Sg) :=
  bnd (f_X10_asTold σ) (fun _ σ2 => (f_X10_whenOf_l12 300 σ2 a1 a2 (-1 : Int32) (-1 : Int32) (0 : Int32)))
def f_X10_when (σ : Sg) (a1 : Int32) (a2 : Int32) : Option (Int32 × Sg) :=
  bnd (f_X10_isSix σ a1) (fun r1 σ2 => (if r1 = 0 then some ((-2 : Int32), σ2) else bnd (f_X10_isTwo σ2 a2) (fun r3 σ4 => (if r3 = 0 then some ((-2 : Int32), σ4) else bnd (f_X10_whenOf σ4 a1 a2) (fun r5 σ6 => some (r5, σ6))))))
def f_X10_isSpared (σ : Sg) (a1 : Int32) : Option (Int32 × Sg) :=
  amlet (up2 σ 0 19 a1) (fun σ1 => bnd (f_X10_runs σ1) (fun _ σ3 => (if (σ3 0 23) = 0 then some ((1 : Int32), σ3) else some ((0 : Int32), σ3))))
def f_X10_spareBy_b63 (k51 : Sg → Int32 → Option (Int32 × Sg)) (k63 : Sg → Int32 → Int32 → Option (Int32 × Sg)) (σ : Sg) (x1 : Int32) (x2 : Int32) : Option (Int32 × Sg) :=
  (if (σ 0 11) ≤ x2 then amlet (x1 + (1 : Int32)) (fun v1 => (k51 σ v1)) else gd (inB (0 : Int32) 2) (amlet (up2 σ 22 ((0 : Int32)).toNatClampNeg x1) (fun σ2 => gd (inB (1 : Int32) 2) (amlet (up2 σ2 22 ((1 : Int32)).toNatClampNeg x2) (fun σ3 => bnd (f_X10_isSpared σ3 (((1 : Int32) <<< (x1 &&& 31)) ||| ((1 : Int32) <<< (x2 &&& 31)))) (fun r4 σ5 => (if r4 = 0 then amlet (x2 + (1 : Int32)) (fun v6 => (k63 σ5 x1 v6)) else some ((2 : Int32), σ5))))))))
def f_X10_spareBy_l63 (k51 : Sg → Int32 → Option (Int32 × Sg)) (n : Nat) : Sg → Int32 → Int32 → Option (Int32 × Sg) := am_rec (fun _ _ _ => none) (fun k => f_X10_spareBy_b63 k51 k) n
def f_X10_spareBy_b51 (k51 : Sg → Int32 → Option (Int32 × Sg)) (σ : Sg) (x1 : Int32) : Option (Int32 × Sg) :=
  (if (σ 0 11) ≤ x1 then some ((-1 : Int32), σ) else amlet (x1 + (1 : Int32)) (fun v1 => (f_X10_spareBy_l63 k51 300 σ x1 v1)))
def f_X10_spareBy_l51 (n : Nat) : Sg → Int32 → Option (Int32 × Sg) := am_rec (fun _ _ => none) (fun k => f_X10_spareBy_b51 k) n
def f_X10_spareBy_b16 (k16 : Sg → Int32 → Option (Int32 × Sg)) (σ : Sg) (x1 : Int32) : Option (Int32 × Sg) :=
  (if (σ 0 11) ≤ x1 then (f_X10_spareBy_l51 300 σ (0 : Int32)) else gd (inB (0 : Int32) 2) (amlet (up2 σ 22 ((0 : Int32)).toNatClampNeg x1) (fun σ1 => bnd (f_X10_isSpared σ1 ((1 : Int32) <<< (x1 &&& 31))) (fun r2 σ3 => (if r2 = 0 then amlet (x1 + (1 : Int32)) (fun v4 => (k16 σ3 v4)) else some ((1 : Int32), σ3))))))
def f_X10_spareBy_l16 (n : Nat) : Sg → Int32 → Option (Int32 × Sg) := am_rec (fun _ _ => none) (fun k => f_X10_spareBy_b16 k) n
def f_X10_spareBy (σ : Sg) : Option (Int32 × Sg) :=
  bnd (f_X10_asTold σ) (fun _ σ2 => bnd (f_X10_isSpared σ2 (0 : Int32)) (fun r3 σ4 => (if r3 = 0 then (f_X10_spareBy_l16 300 σ4 (0 : Int32)) else some ((0 : Int32), σ4))))
def f_X10_ofRow (σ : Sg) (a1 : Int32) (a2 : Int32) : Option (Int32 × Sg) :=
  (if a2 = (-1 : Int32) then some (a1, σ) else (if a1 ≤ a2 then some ((-1 : Int32), σ) else gd (inB a2 2) (some ((σ 22 (a2).toNatClampNeg), σ))))
def f_X10_spare (σ : Sg) (a1 : Int32) : Option (Int32 × Sg) :=
  bnd (f_X10_in σ a1 (-1 : Int32) (1 : Int32)) (fun r1 σ2 => (if r1 = 0 then some ((-2 : Int32), σ2) else bnd (f_X10_spareBy σ2) (fun r3 σ4 => bnd (f_X10_ofRow σ4 r3 a1) (fun r5 σ6 => some (r5, σ6)))))
def f_X10_seen (σ : Sg) (a1 : Int32) (a2 : Int32) (a3 : Int32) : Option (Int32 × Sg) :=
  bnd (f_X10_isNight σ a1) (fun r1 σ2 => (if r1 = 0 then some ((-2 : Int32), σ2) else bnd (f_X10_isEight σ2 a2) (fun r3 σ4 => (if r3 = 0 then some ((-2 : Int32), σ4) else bnd (f_X10_isTwo σ4 a3) (fun r5 σ6 => (if r5 = 0 then some ((-2 : Int32), σ6) else (if (σ6 0 31) = (8 : Int32) then some ((-4 : Int32), σ6) else gd (inB (σ6 0 31) 8) (amlet (up2 σ6 23 ((σ6 0 31)).toNatClampNeg a1) (fun σ7 => gd (inB (σ7 0 31) 8) (amlet (up2 σ7 24 ((σ7 0 31)).toNatClampNeg a2) (fun σ8 => gd (inB (σ8 0 31) 8) (amlet (up2 σ8 25 ((σ8 0 31)).toNatClampNeg a3) (fun σ9 => amlet (up2 σ9 0 31 ((σ9 0 31) + (1 : Int32))) (fun σ10 => some ((σ10 0 31), σ10)))))))))))))))
def f_X10_forget (σ : Sg) : Option (Int32 × Sg) :=
  amlet (σ 0 31) (fun v1 => amlet (up2 σ 0 31 (0 : Int32)) (fun σ2 => some (v1, σ2)))
def f_X10_isSeen_b76 (k8 : Sg → Int32 → Int32 → Option (Int32 × Sg)) (σ : Sg) (x2 : Int32) (s0 : Int32) : Option (Int32 × Sg) :=
  amlet (x2 + (1 : Int32)) (fun v1 => (k8 σ s0 v1))
def f_X10_isSeen_b75 (k8 : Sg → Int32 → Int32 → Option (Int32 × Sg)) (σ : Sg) (x2 : Int32) : Option (Int32 × Sg) :=
  (f_X10_isSeen_b76 k8 σ x2 (0 : Int32))
def f_X10_isSeen_b68 (k8 : Sg → Int32 → Int32 → Option (Int32 × Sg)) (σ : Sg) (x2 : Int32) (s0 : Int32) (s1 : Int32) : Option (Int32 × Sg) :=
  (if s1 = s0 then (f_X10_isSeen_b76 k8 σ x2 (1 : Int32)) else (f_X10_isSeen_b75 k8 σ x2))
def f_X10_isSeen_b8 (k8 : Sg → Int32 → Int32 → Option (Int32 × Sg)) (σ : Sg) (x1 : Int32) (x2 : Int32) : Option (Int32 × Sg) :=
  (if (σ 0 31) ≤ x2 then gd (decide (x1 = 0 ∨ x1 = 1)) (some (x1, σ)) else (if x1 = 0 then gd (decide (x1 = 0 ∨ x1 = 1)) (some (x1, σ)) else gd (inB x2 8) ((if (σ 0 2) ≤ (σ 24 (x2).toNatClampNeg) then (f_X10_isSeen_b75 k8 σ x2) else gd (inB x2 8) (gd (inB (σ 23 (x2).toNatClampNeg) 24) (gd (inB x2 8) (bnd (f_X10_isIn σ (σ 20 ((σ 23 (x2).toNatClampNeg)).toNatClampNeg) (σ 24 (x2).toNatClampNeg)) (fun r1 σ2 => gd (inB x2 8) ((if (σ2 25 (x2).toNatClampNeg) = (1 : Int32) then (f_X10_isSeen_b68 k8 σ2 x2 (1 : Int32) r1) else (f_X10_isSeen_b68 k8 σ2 x2 (0 : Int32) r1)))))))))))
def f_X10_isSeen_l8 (n : Nat) : Sg → Int32 → Int32 → Option (Int32 × Sg) := am_rec (fun _ _ _ => none) (fun k => f_X10_isSeen_b8 k) n
def f_X10_isSeen (σ : Sg) : Option (Int32 × Sg) :=
  bnd (f_X10_runs σ) (fun _ σ2 => (f_X10_isSeen_l8 300 σ2 (1 : Int32) (0 : Int32)))
def f_X10_neverNow_b38 (k8 : Sg → Int32 → Int32 → Option (Int32 × Sg)) (σ : Sg) (x2 : Int32) (s0 : Int32) (s1 : Int32) : Option (Int32 × Sg) :=
  amlet (s1 ||| s0) (fun v1 => amlet (x2 + (1 : Int32)) (fun v2 => (k8 σ v1 v2)))
def f_X10_neverNow_b8 (k8 : Sg → Int32 → Int32 → Option (Int32 × Sg)) (σ : Sg) (x1 : Int32) (x2 : Int32) : Option (Int32 × Sg) :=
  (if (σ 0 11) ≤ x2 then some (x1, σ) else amlet (up2 σ 0 19 ((1 : Int32) <<< (x2 &&& 31))) (fun σ1 => bnd (f_X10_isSeen σ1) (fun r2 σ3 => (if r2 = 0 then (f_X10_neverNow_b38 k8 σ3 x2 (0 : Int32) x1) else (f_X10_neverNow_b38 k8 σ3 x2 ((1 : Int32) <<< (x2 &&& 31)) x1)))))
def f_X10_neverNow_l8 (n : Nat) : Sg → Int32 → Int32 → Option (Int32 × Sg) := am_rec (fun _ _ _ => none) (fun k => f_X10_neverNow_b8 k) n
def f_X10_neverNow (σ : Sg) : Option (Int32 × Sg) :=
  bnd (f_X10_asTold σ) (fun _ σ2 => (f_X10_neverNow_l8 300 σ2 (0 : Int32) (0 : Int32)))
def f_X10_never (σ : Sg) : Option (Int32 × Sg) :=
  bnd (f_X10_neverNow σ) (fun r1 σ2 => some (r1, σ2))
def f_X10_farsBy_b52 (k16 : Sg → Int32 → Int32 → Int32 → Int32 → Option (Int32 × Sg)) (k52 : Sg → Int32 → Int32 → Int32 → Int32 → Int32 → Option (Int32 × Sg)) (σ : Sg) (x1 : Int32) (x2 : Int32) (x3 : Int32) (x4 : Int32) (x5 : Int32) : Option (Int32 × Sg) :=
  (if (24 : Int32) ≤ x5 then amlet (x4 + (1 : Int32)) (fun v1 => (k16 σ x1 x2 x3 v1)) else gd (inB x5 24) (gd (inB (((24 : Int32) * x4) + x5) 240) (amlet (up2 σ 26 ((((24 : Int32) * x4) + x5)).toNatClampNeg (σ 20 (x5).toNatClampNeg)) (fun σ2 => amlet (x5 + (1 : Int32)) (fun v3 => (k52 σ2 x1 x2 x3 x4 v3))))))
def f_X10_farsBy_l52 (k16 : Sg → Int32 → Int32 → Int32 → Int32 → Option (Int32 × Sg)) (n : Nat) : Sg → Int32 → Int32 → Int32 → Int32 → Int32 → Option (Int32 × Sg) := am_rec (fun _ _ _ _ _ _ => none) (fun k => f_X10_farsBy_b52 k16 k) n
def f_X10_farsBy_b47 (k16 : Sg → Int32 → Int32 → Int32 → Int32 → Option (Int32 × Sg)) (σ : Sg) (x1 : Int32) (x2 : Int32) (x4 : Int32) (s0 : Int32) (s1 : Int32) : Option (Int32 × Sg) :=
  amlet (s1 ||| s0) (fun v1 => (f_X10_farsBy_l52 k16 300 σ x1 x2 v1 x4 (0 : Int32)))
def f_X10_farsBy_b16 (k16 : Sg → Int32 → Int32 → Int32 → Int32 → Option (Int32 × Sg)) (σ : Sg) (x1 : Int32) (x2 : Int32) (x3 : Int32) (x4 : Int32) : Option (Int32 × Sg) :=
  (if (10 : Int32) ≤ x4 then gd (inB x1 9) (amlet (up2 σ 6 (x1).toNatClampNeg x2) (fun σ1 => some (x3, σ1))) else gd (inB x1 9) (amlet (up2 σ 6 (x1).toNatClampNeg x4) (fun σ2 => bnd (f_X10_isSeen σ2) (fun r3 σ4 => (if r3 = 0 then (f_X10_farsBy_b47 k16 σ4 x1 x2 x4 (0 : Int32) x3) else (f_X10_farsBy_b47 k16 σ4 x1 x2 x4 ((1 : Int32) <<< (x4 &&& 31)) x3))))))
def f_X10_farsBy_l16 (n : Nat) : Sg → Int32 → Int32 → Int32 → Int32 → Option (Int32 × Sg) := am_rec (fun _ _ _ _ _ => none) (fun k => f_X10_farsBy_b16 k) n
def f_X10_farsBy (σ : Sg) (a1 : Int32) : Option (Int32 × Sg) :=
  bnd (f_X10_asTold σ) (fun _ σ2 => gd (inB a1 9) (amlet (σ2 6 (a1).toNatClampNeg) (fun v3 => (f_X10_farsBy_l16 300 σ2 a1 v3 (0 : Int32) (1 : Int32)))))
def f_X10_sortsBy_b46 (k16 : Sg → Int32 → Int32 → Int32 → Int32 → Option (Int32 × Sg)) (σ : Sg) (x1 : Int32) (x2 : Int32) (x4 : Int32) (s0 : Int32) (s1 : Int32) : Option (Int32 × Sg) :=
  amlet (s1 ||| s0) (fun v1 => amlet (x4 + (1 : Int32)) (fun v2 => (k16 σ x1 x2 v1 v2)))
def f_X10_sortsBy_b16 (k16 : Sg → Int32 → Int32 → Int32 → Int32 → Option (Int32 × Sg)) (σ : Sg) (x1 : Int32) (x2 : Int32) (x3 : Int32) (x4 : Int32) : Option (Int32 × Sg) :=
  (if (3 : Int32) ≤ x4 then gd (inB x1 9) (amlet (up2 σ 3 (x1).toNatClampNeg x2) (fun σ1 => some (x3, σ1))) else gd (inB x1 9) (amlet (up2 σ 3 (x1).toNatClampNeg x4) (fun σ2 => bnd (f_X10_isSeen σ2) (fun r3 σ4 => (if r3 = 0 then (f_X10_sortsBy_b46 k16 σ4 x1 x2 x4 (0 : Int32) x3) else (f_X10_sortsBy_b46 k16 σ4 x1 x2 x4 ((1 : Int32) <<< (x4 &&& 31)) x3))))))
def f_X10_sortsBy_l16 (n : Nat) : Sg → Int32 → Int32 → Int32 → Int32 → Option (Int32 × Sg) := am_rec (fun _ _ _ _ _ => none) (fun k => f_X10_sortsBy_b16 k) n
def f_X10_sortsBy (σ : Sg) (a1 : Int32) : Option (Int32 × Sg) :=
  bnd (f_X10_asTold σ) (fun _ σ2 => gd (inB a1 9) (amlet (σ2 3 (a1).toNatClampNeg) (fun v3 => (f_X10_sortsBy_l16 300 σ2 a1 v3 (0 : Int32) (0 : Int32)))))
def f_X10_was (σ : Sg) (a1 : Int32) (a2 : Int32) : Option (Int32 × Sg) :=
  bnd (f_X10_isOne σ a1) (fun r1 σ2 => (if r1 = 0 then some ((-2 : Int32), σ2) else bnd (f_X10_isTwo σ2 a2) (fun r3 σ4 => (if r3 = 0 then some ((-2 : Int32), σ4) else (if a2 = 0 then bnd (f_X10_sortsBy σ4 a1) (fun r8 σ9 => some (r8, σ9)) else bnd (f_X10_farsBy σ4 a1) (fun r5 σ6 => some (r5, σ6)))))))
def f_X10_askOf_b101 (k14 : Sg → Int32 → Int32 → Int32 → Int32 → Option (Int32 × Sg)) (k27 : Sg → Int32 → Int32 → Int32 → Int32 → Int32 → Int32 → Option (Int32 × Sg)) (k40 : Sg → Int32 → Int32 → Int32 → Int32 → Int32 → Int32 → Int32 → Int32 → Option (Int32 × Sg)) (σ : Sg) (x2 : Int32) (x3 : Int32) (x4 : Int32) (x5 : Int32) (x6 : Int32) (x7 : Int32) (x9 : Int32) (s0 : Int32) (s1 : Int32) : Option (Int32 × Sg) :=
  amlet (s1 + s0) (fun v1 => amlet (x9 + (1 : Int32)) (fun v2 => (k40 σ x2 x3 x4 x5 x6 x7 v1 v2)))
def f_X10_askOf_b100 (k14 : Sg → Int32 → Int32 → Int32 → Int32 → Option (Int32 × Sg)) (k27 : Sg → Int32 → Int32 → Int32 → Int32 → Int32 → Int32 → Option (Int32 × Sg)) (k40 : Sg → Int32 → Int32 → Int32 → Int32 → Int32 → Int32 → Int32 → Int32 → Option (Int32 × Sg)) (σ : Sg) (x2 : Int32) (x3 : Int32) (x4 : Int32) (x5 : Int32) (x6 : Int32) (x7 : Int32) (x9 : Int32) (s0 : Int32) : Option (Int32 × Sg) :=
  (f_X10_askOf_b101 k14 k27 k40 σ x2 x3 x4 x5 x6 x7 x9 (0 : Int32) s0)
def f_X10_askOf_b124 (k14 : Sg → Int32 → Int32 → Int32 → Int32 → Option (Int32 × Sg)) (k27 : Sg → Int32 → Int32 → Int32 → Int32 → Int32 → Int32 → Option (Int32 × Sg)) (σ : Sg) (x2 : Int32) (x3 : Int32) (x4 : Int32) (x5 : Int32) (x7 : Int32) (s0 : Int32) : Option (Int32 × Sg) :=
  amlet (x7 + (1 : Int32)) (fun v1 => (k27 σ x2 x3 x4 x5 s0 v1))
def f_X10_askOf_b40 (k14 : Sg → Int32 → Int32 → Int32 → Int32 → Option (Int32 × Sg)) (k27 : Sg → Int32 → Int32 → Int32 → Int32 → Int32 → Int32 → Option (Int32 × Sg)) (k40 : Sg → Int32 → Int32 → Int32 → Int32 → Int32 → Int32 → Int32 → Int32 → Option (Int32 × Sg)) (σ : Sg) (x2 : Int32) (x3 : Int32) (x4 : Int32) (x5 : Int32) (x6 : Int32) (x7 : Int32) (x8 : Int32) (x9 : Int32) : Option (Int32 × Sg) :=
  (if (10 : Int32) ≤ x9 then (if x8 ≤ x6 then (f_X10_askOf_b124 k14 k27 σ x2 x3 x4 x5 x7 x6) else (f_X10_askOf_b124 k14 k27 σ x2 x3 x4 x5 x7 x8)) else bnd (f_X10_isIn σ x2 x7) (fun r1 σ2 => (if r1 = 0 then (f_X10_askOf_b100 k14 k27 k40 σ2 x2 x3 x4 x5 x6 x7 x9 x8) else bnd (f_X10_isIn σ2 x2 x9) (fun r3 σ4 => (if r3 = 0 then (f_X10_askOf_b100 k14 k27 k40 σ4 x2 x3 x4 x5 x6 x7 x9 x8) else gd (inB (((24 : Int32) * x7) + x5) 240) (gd (inB (((24 : Int32) * x9) + x5) 240) ((if (σ4 26 ((((24 : Int32) * x7) + x5)).toNatClampNeg) = (σ4 26 ((((24 : Int32) * x9) + x5)).toNatClampNeg) then (f_X10_askOf_b101 k14 k27 k40 σ4 x2 x3 x4 x5 x6 x7 x9 (1 : Int32) x8) else (f_X10_askOf_b100 k14 k27 k40 σ4 x2 x3 x4 x5 x6 x7 x9 x8)))))))))
def f_X10_askOf_l40 (k14 : Sg → Int32 → Int32 → Int32 → Int32 → Option (Int32 × Sg)) (k27 : Sg → Int32 → Int32 → Int32 → Int32 → Int32 → Int32 → Option (Int32 × Sg)) (n : Nat) : Sg → Int32 → Int32 → Int32 → Int32 → Int32 → Int32 → Int32 → Int32 → Option (Int32 × Sg) := am_rec (fun _ _ _ _ _ _ _ _ _ => none) (fun k => f_X10_askOf_b40 k14 k27 k) n
def f_X10_askOf_b175 (k14 : Sg → Int32 → Int32 → Int32 → Int32 → Option (Int32 × Sg)) (σ : Sg) (x2 : Int32) (x3 : Int32) (x5 : Int32) (s0 : Int32) : Option (Int32 × Sg) :=
  amlet (x5 + (1 : Int32)) (fun v1 => (k14 σ x2 x3 s0 v1))
def f_X10_askOf_b162 (k14 : Sg → Int32 → Int32 → Int32 → Int32 → Option (Int32 × Sg)) (σ : Sg) (x2 : Int32) (x4 : Int32) (x5 : Int32) (x6 : Int32) (x7 : Int32) (s0 : Int32) : Option (Int32 × Sg) :=
  (if x7 = 0 then (f_X10_askOf_b175 k14 σ x2 s0 x5 x4) else (f_X10_askOf_b175 k14 σ x2 s0 x5 x6))
def f_X10_askOf_b149 (k14 : Sg → Int32 → Int32 → Int32 → Int32 → Option (Int32 × Sg)) (σ : Sg) (x2 : Int32) (x3 : Int32) (x4 : Int32) (x5 : Int32) (x6 : Int32) (s0 : Int32) : Option (Int32 × Sg) :=
  (if s0 = 0 then (f_X10_askOf_b162 k14 σ x2 x4 x5 x6 s0 x3) else (f_X10_askOf_b162 k14 σ x2 x4 x5 x6 s0 x5))
def f_X10_askOf_b144 (k14 : Sg → Int32 → Int32 → Int32 → Int32 → Option (Int32 × Sg)) (σ : Sg) (x2 : Int32) (x3 : Int32) (x4 : Int32) (x5 : Int32) (x6 : Int32) : Option (Int32 × Sg) :=
  (f_X10_askOf_b149 k14 σ x2 x3 x4 x5 x6 (1 : Int32))
def f_X10_askOf_b27 (k14 : Sg → Int32 → Int32 → Int32 → Int32 → Option (Int32 × Sg)) (k27 : Sg → Int32 → Int32 → Int32 → Int32 → Int32 → Int32 → Option (Int32 × Sg)) (σ : Sg) (x2 : Int32) (x3 : Int32) (x4 : Int32) (x5 : Int32) (x6 : Int32) (x7 : Int32) : Option (Int32 × Sg) :=
  (if (10 : Int32) ≤ x7 then (if x3 = (-1 : Int32) then (f_X10_askOf_b144 k14 σ x2 x3 x4 x5 x6) else (if x4 ≤ x6 then (f_X10_askOf_b149 k14 σ x2 x3 x4 x5 x6 (0 : Int32)) else (f_X10_askOf_b144 k14 σ x2 x3 x4 x5 x6))) else (f_X10_askOf_l40 k14 k27 300 σ x2 x3 x4 x5 x6 x7 (0 : Int32) (1 : Int32)))
def f_X10_askOf_l27 (k14 : Sg → Int32 → Int32 → Int32 → Int32 → Option (Int32 × Sg)) (n : Nat) : Sg → Int32 → Int32 → Int32 → Int32 → Int32 → Int32 → Option (Int32 × Sg) := am_rec (fun _ _ _ _ _ _ _ => none) (fun k => f_X10_askOf_b27 k14 k) n
def f_X10_askOf_b14 (k14 : Sg → Int32 → Int32 → Int32 → Int32 → Option (Int32 × Sg)) (σ : Sg) (x2 : Int32) (x3 : Int32) (x4 : Int32) (x5 : Int32) : Option (Int32 × Sg) :=
  (if (24 : Int32) ≤ x5 then some (x3, σ) else (f_X10_askOf_l27 k14 300 σ x2 x3 x4 x5 (0 : Int32) (1 : Int32)))
def f_X10_askOf_l14 (n : Nat) : Sg → Int32 → Int32 → Int32 → Int32 → Option (Int32 × Sg) := am_rec (fun _ _ _ _ _ => none) (fun k => f_X10_askOf_b14 k) n
def f_X10_askOf (σ : Sg) (a1 : Int32) : Option (Int32 × Sg) :=
  bnd (f_X10_farsBy σ a1) (fun r1 σ2 => (f_X10_askOf_l14 300 σ2 r1 (-1 : Int32) (0 : Int32) (0 : Int32)))
def f_X10_ask (σ : Sg) (a1 : Int32) : Option (Int32 × Sg) :=
  bnd (f_X10_isOne σ a1) (fun r1 σ2 => (if r1 = 0 then some ((-2 : Int32), σ2) else bnd (f_X10_askOf σ2 a1) (fun r3 σ4 => some (r3, σ4))))
def f_X10_lowest_b6 (k6 : Sg → Int64 → Int64 → Int32 → Int64 → Int64 → Option (Int64 × Sg)) (σ : Sg) (x0 : Int64) (x2 : Int64) (x4 : Int32) (x5 : Int64) (x7 : Int64) : Option (Int64 × Sg) :=
  (if (lg_cmp x7 (0 : Int64)) = 0 then (if x4 = 0 then gd (decide (x5 ≠ 0)) (some ((x0 / x5), σ)) else gd (decide (x5 ≠ 0)) (some ((x2 / x5), σ))) else gd (decide (x7 ≠ 0)) (amlet (x5 - x5 / x7 * x7) (fun v1 => (k6 σ x0 x2 x4 x7 v1))))
def f_X10_lowest_l6 (n : Nat) : Sg → Int64 → Int64 → Int32 → Int64 → Int64 → Option (Int64 × Sg) := am_rec (fun _ _ _ _ _ _ => none) (fun k => f_X10_lowest_b6 k) n
def f_X10_lowest (σ : Sg) (a0 : Int64) (a2 : Int64) (a4 : Int32) : Option (Int64 × Sg) :=
  (f_X10_lowest_l6 300 σ a0 a2 a4 a0 a2)
def f_X10_chanceOf_b58 (k10 : Sg → Int32 → Int32 → Int32 → Int64 → Int32 → Option (Int64 × Sg)) (k27 : Sg → Int32 → Int32 → Int32 → Int64 → Int32 → Int64 → Int32 → Option (Int64 × Sg)) (σ : Sg) (x1 : Int32) (x2 : Int32) (x3 : Int32) (x4 : Int64) (x6 : Int32) (x9 : Int32) (s0 : Int64) (s1 : Int64) : Option (Int64 × Sg) :=
  amlet (s1 * s0) (fun v1 => amlet (x9 + (1 : Int32)) (fun v2 => (k27 σ x1 x2 x3 x4 x6 v1 v2)))
def f_X10_chanceOf_b105 (k10 : Sg → Int32 → Int32 → Int32 → Int64 → Int32 → Option (Int64 × Sg)) (σ : Sg) (x1 : Int32) (x2 : Int32) (x3 : Int32) (x4 : Int64) (x6 : Int32) : Option (Int64 × Sg) :=
  amlet (x6 + (1 : Int32)) (fun v1 => (k10 σ x1 x2 x3 x4 v1))
def f_X10_chanceOf_b102 (k10 : Sg → Int32 → Int32 → Int32 → Int64 → Int32 → Option (Int64 × Sg)) (σ : Sg) (x1 : Int32) (x2 : Int32) (x3 : Int32) (x6 : Int32) (s0 : Int64) (s1 : Int64) : Option (Int64 × Sg) :=
  amlet (s1 + s0) (fun v1 => (f_X10_chanceOf_b105 k10 σ x1 x2 x3 v1 x6))
def f_X10_chanceOf_b27 (k10 : Sg → Int32 → Int32 → Int32 → Int64 → Int32 → Option (Int64 × Sg)) (k27 : Sg → Int32 → Int32 → Int32 → Int64 → Int32 → Int64 → Int32 → Option (Int64 × Sg)) (σ : Sg) (x1 : Int32) (x2 : Int32) (x3 : Int32) (x4 : Int64) (x6 : Int32) (x7 : Int64) (x9 : Int32) : Option (Int64 × Sg) :=
  (if (σ 0 11) ≤ x9 then (if (lg_cmp x7 (0 : Int64)) ≤ 0 then (f_X10_chanceOf_b105 k10 σ x1 x2 x3 x4 x6) else amlet (up2 σ 0 19 x6) (fun σ1 => bnd (f_X10_runs σ1) (fun _ σ3 => gd (inB x2 8) ((if (σ3 17 (x2).toNatClampNeg) = (-1 : Int32) then (f_X10_chanceOf_b102 k10 σ3 x1 x2 x3 x6 (0 : Int64) x4) else (f_X10_chanceOf_b102 k10 σ3 x1 x2 x3 x6 x7 x4)))))) else bnd (f_X10_isIn σ x6 x9) (fun r5 σ6 => (if r5 = 0 then (f_X10_chanceOf_b58 k10 k27 σ6 x1 x2 x3 x4 x6 x9 ((x1).toInt64) x7) else (f_X10_chanceOf_b58 k10 k27 σ6 x1 x2 x3 x4 x6 x9 ((((16 : Int32) - x1)).toInt64) x7))))
def f_X10_chanceOf_l27 (k10 : Sg → Int32 → Int32 → Int32 → Int64 → Int32 → Option (Int64 × Sg)) (n : Nat) : Sg → Int32 → Int32 → Int32 → Int64 → Int32 → Int64 → Int32 → Option (Int64 × Sg) := am_rec (fun _ _ _ _ _ _ _ _ => none) (fun k => f_X10_chanceOf_b27 k10 k) n
def f_X10_chanceOf_b10 (k10 : Sg → Int32 → Int32 → Int32 → Int64 → Int32 → Option (Int64 × Sg)) (σ : Sg) (x1 : Int32) (x2 : Int32) (x3 : Int32) (x4 : Int64) (x6 : Int32) : Option (Int64 × Sg) :=
  (if ((1 : Int32) <<< ((σ 0 11) &&& 31)) ≤ x6 then bnd (f_X10_lowest σ x4 ((1 : Int64) <<< ((((4 : Int32) * (σ 0 11))).toInt64 &&& 63)) x3) (fun r1 σ2 => some (r1, σ2)) else (f_X10_chanceOf_l27 k10 300 σ x1 x2 x3 x4 x6 (1 : Int64) (0 : Int32)))
def f_X10_chanceOf_l10 (n : Nat) : Sg → Int32 → Int32 → Int32 → Int64 → Int32 → Option (Int64 × Sg) := am_rec (fun _ _ _ _ _ _ => none) (fun k => f_X10_chanceOf_b10 k) n
def f_X10_chanceOf (σ : Sg) (a1 : Int32) (a2 : Int32) (a3 : Int32) : Option (Int64 × Sg) :=
  bnd (f_X10_asTold σ) (fun _ σ2 => (f_X10_chanceOf_l10 300 σ2 a1 a2 a3 (0 : Int64) (0 : Int32)))
def f_X10_no (σ : Sg) (a0 : Int32) : Option (Int64 × Sg) :=
  some (((-9223372036854775808 : Int64) - (a0).toInt64), σ)
def f_X10_chance_b35 (σ : Sg) : Option (Int64 × Sg) :=
  bnd (f_X10_no σ (-2 : Int32)) (fun r1 σ2 => some (r1, σ2))
def f_X10_chance (σ : Sg) (a1 : Int32) (a2 : Int32) (a3 : Int32) : Option (Int64 × Sg) :=
  bnd (f_X10_in σ a1 (0 : Int32) (16 : Int32)) (fun r1 σ2 => (if r1 = 0 then (f_X10_chance_b35 σ2) else bnd (f_X10_isNeed σ2 a2) (fun r3 σ4 => (if r3 = 0 then (f_X10_chance_b35 σ4) else bnd (f_X10_isTwo σ4 a3) (fun r5 σ6 => (if r5 = 0 then (f_X10_chance_b35 σ6) else bnd (f_X10_chanceOf σ6 a1 a2 a3) (fun r7 σ8 => some (r7, σ8))))))))
def f_X10_yearsOf_b15 (k15 : Sg → Int32 → Int32 → Int32 → Int32 → Option (Int32 × Sg)) (σ : Sg) (x2 : Int32) (x3 : Int32) (x4 : Int32) (x5 : Int32) : Option (Int32 × Sg) :=
  (if x2 ≤ x5 then bnd (f_X10_runs σ) (fun _ σ2 => (if x3 = 0 then bnd (f_X10_metNow σ2) (fun r3 σ4 => some (r3, σ4)) else some ((σ2 0 23), σ2))) else amlet (((1103515245 : Int32) * x4) + (12345 : Int32)) (fun v7 => gd (inB x5 9) (amlet (up2 σ 13 (x5).toNatClampNeg ((am_ushr v7 (16 : Int32)) - (am_ushr v7 (16 : Int32)) / (2 : Int32) * (2 : Int32))) (fun σ8 => amlet (((1103515245 : Int32) * v7) + (12345 : Int32)) (fun v9 => gd (inB x5 9) (amlet (up2 σ8 14 (x5).toNatClampNeg ((am_ushr v9 (16 : Int32)) - (am_ushr v9 (16 : Int32)) / (24 : Int32) * (24 : Int32))) (fun σ10 => amlet (((1103515245 : Int32) * v9) + (12345 : Int32)) (fun v11 => gd (inB x5 9) (amlet (up2 σ10 15 (x5).toNatClampNeg ((am_ushr v11 (16 : Int32)) - (am_ushr v11 (16 : Int32)) / (6 : Int32) * (6 : Int32))) (fun σ12 => amlet (x5 + (1 : Int32)) (fun v13 => (k15 σ12 x2 x3 v11 v13))))))))))))
def f_X10_yearsOf_l15 (n : Nat) : Sg → Int32 → Int32 → Int32 → Int32 → Option (Int32 × Sg) := am_rec (fun _ _ _ _ _ => none) (fun k => f_X10_yearsOf_b15 k) n
def f_X10_yearsOf (σ : Sg) (a1 : Int32) (a2 : Int32) (a3 : Int32) : Option (Int32 × Sg) :=
  bnd (f_X10_asTold σ) (fun _ σ2 => amlet (up2 σ2 0 15 a2) (fun σ3 => (f_X10_yearsOf_l15 300 σ3 a2 a3 a1 (0 : Int32))))
def f_X10_years (σ : Sg) (a1 : Int32) (a2 : Int32) (a3 : Int32) : Option (Int32 × Sg) :=
  bnd (f_X10_in σ a2 (0 : Int32) (8 : Int32)) (fun r1 σ2 => (if r1 = 0 then some ((-2 : Int32), σ2) else bnd (f_X10_isTwo σ2 a3) (fun r3 σ4 => (if r3 = 0 then some ((-2 : Int32), σ4) else bnd (f_X10_yearsOf σ4 a1 a2 a3) (fun r5 σ6 => some (r5, σ6))))))
def f_X10_sheet_b59 (k59 : Sg → Int32 → Int32 → Int32 → Option (Int32 × Sg)) (σ : Sg) (x1 : Int32) (x3 : Int32) (x4 : Int32) : Option (Int32 × Sg) :=
  (if (60 : Int32) ≤ x4 then some (x3, σ) else gd (inB (((60 : Int32) * x1) + x4) 240) (amlet (up2 σ 30 ((((60 : Int32) * x1) + x4)).toNatClampNeg (0 : Int32)) (fun σ1 => amlet (x4 + (1 : Int32)) (fun v2 => (k59 σ1 x1 x3 v2)))))
def f_X10_sheet_l59 (n : Nat) : Sg → Int32 → Int32 → Int32 → Option (Int32 × Sg) := am_rec (fun _ _ _ _ => none) (fun k => f_X10_sheet_b59 k) n
def f_X10_sheet (σ : Sg) (a1 : Int32) (a2 : Int32) (a3 : Int32) : Option (Int32 × Sg) :=
  bnd (f_X10_isSheet σ a1) (fun r1 σ2 => (if r1 = 0 then some ((-2 : Int32), σ2) else bnd (f_X10_in σ2 a2 (0 : Int32) (2 : Int32)) (fun r3 σ4 => (if r3 = 0 then some ((-2 : Int32), σ4) else (if a3 ≤ (60 : Int32) then (if 0 ≤ a3 then gd (inB a1 4) (amlet (up2 σ4 27 (a1).toNatClampNeg (1 : Int32)) (fun σ5 => gd (inB a1 4) (amlet (up2 σ5 28 (a1).toNatClampNeg a2) (fun σ6 => gd (inB a1 4) (amlet (up2 σ6 29 (a1).toNatClampNeg a3) (fun σ7 => (f_X10_sheet_l59 300 σ7 a1 a3 (0 : Int32)))))))) else bnd (f_X10_meets σ4 (5 : Int32)) (fun r8 σ9 => some (r8, σ9))) else some ((-2 : Int32), σ4))))))
def f_X10_lose (σ : Sg) (a1 : Int32) : Option (Int32 × Sg) :=
  bnd (f_X10_isSheet σ a1) (fun r1 σ2 => (if r1 = 0 then some ((-2 : Int32), σ2) else gd (inB a1 4) ((if (σ2 27 (a1).toNatClampNeg) = 0 then bnd (f_X10_meets σ2 (1 : Int32)) (fun r4 σ5 => some (r4, σ5)) else gd (inB a1 4) (amlet (up2 σ2 27 (a1).toNatClampNeg (0 : Int32)) (fun σ3 => gd (inB a1 4) (some ((σ3 29 (a1).toNatClampNeg), σ3))))))))
def f_X10_lacks (σ : Sg) (a1 : Int32) (a2 : Int32) (a3 : Int32) : Option (Int32 × Sg) :=
  gd (inB a1 4) ((if (σ 27 (a1).toNatClampNeg) = 0 then some ((1 : Int32), σ) else gd (inB a1 4) ((if (σ 28 (a1).toNatClampNeg) = a2 then gd (inB a1 4) (bnd (f_X10_in σ a3 (0 : Int32) ((σ 29 (a1).toNatClampNeg) - (1 : Int32))) (fun r1 σ2 => (if r1 = 0 then some ((2 : Int32), σ2) else some ((0 : Int32), σ2)))) else some ((3 : Int32), σ)))))
def f_X10_keep_b40 (σ : Sg) (s0 : Int32) (s1 : Int32) : Option (Unit × Sg) :=
  gd (inB s1 240) (amlet (up2 σ 30 (s1).toNatClampNeg s0) (fun σ1 => some ((), σ1)))
def f_X10_keep (σ : Sg) (a1 : Int32) (a2 : Int32) (a3 : Int32) : Option (Unit × Sg) :=
  gd (inB a1 4) ((if (σ 28 (a1).toNatClampNeg) = 0 then (f_X10_keep_b40 σ ((a3).toInt8.toInt32) (((60 : Int32) * a1) + a2)) else gd (inB a1 4) ((if (σ 28 (a1).toNatClampNeg) = (1 : Int32) then (f_X10_keep_b40 σ ((a3).toInt16.toInt32) (((60 : Int32) * a1) + a2)) else (f_X10_keep_b40 σ a3 (((60 : Int32) * a1) + a2))))))
def f_X10_put (σ : Sg) (a1 : Int32) (a2 : Int32) (a3 : Int32) (a4 : Int32) : Option (Int32 × Sg) :=
  bnd (f_X10_isSheet σ a1) (fun r1 σ2 => (if r1 = 0 then some ((-2 : Int32), σ2) else bnd (f_X10_in σ2 a2 (0 : Int32) (2 : Int32)) (fun r3 σ4 => (if r3 = 0 then some ((-2 : Int32), σ4) else bnd (f_X10_lacks σ4 a1 a2 a3) (fun r5 σ6 => (if r5 ≤ 0 then bnd (f_X10_keep σ6 a1 a3 a4) (fun _ σ8 => some ((1 : Int32), σ8)) else bnd (f_X10_meets σ6 r5) (fun r10 σ11 => some (r10, σ11))))))))
def f_X10_get (σ : Sg) (a1 : Int32) (a2 : Int32) (a3 : Int32) : Option (Int32 × Sg) :=
  bnd (f_X10_isSheet σ a1) (fun r1 σ2 => (if r1 = 0 then some ((-2147483648 : Int32), σ2) else bnd (f_X10_in σ2 a2 (0 : Int32) (2 : Int32)) (fun r3 σ4 => (if r3 = 0 then some ((-2147483648 : Int32), σ4) else bnd (f_X10_lacks σ4 a1 a2 a3) (fun r5 σ6 => (if r5 ≤ 0 then gd (inB (((60 : Int32) * a1) + a3) 240) (some ((σ6 30 ((((60 : Int32) * a1) + a3)).toNatClampNeg), σ6)) else amlet (up2 σ6 0 41 r5) (fun σ7 => some ((-2147483648 : Int32), σ7))))))))
def f_X10_copy_b35 (σ : Sg) : Option (Int32 × Sg) :=
  bnd (f_X10_meets σ (1 : Int32)) (fun r1 σ2 => some (r1, σ2))
def f_X10_copy_b111 (σ : Sg) : Option (Int32 × Sg) :=
  bnd (f_X10_meets σ (2 : Int32)) (fun r1 σ2 => some (r1, σ2))
def f_X10_copy_b157 (k157 : Sg → Int32 → Int32 → Int32 → Int32 → Option (Int32 × Sg)) (σ : Sg) (x3 : Int32) (x4 : Int32) (x5 : Int32) (x6 : Int32) : Option (Int32 × Sg) :=
  (if x5 ≤ x6 then some ((1 : Int32), σ) else gd (inB x6 60) (gd (inB ((((60 : Int32) * x3) + x4) + x6) 240) (amlet (up2 σ 30 (((((60 : Int32) * x3) + x4) + x6)).toNatClampNeg (σ 31 (x6).toNatClampNeg)) (fun σ1 => amlet (x6 + (1 : Int32)) (fun v2 => (k157 σ1 x3 x4 x5 v2))))))
def f_X10_copy_l157 (n : Nat) : Sg → Int32 → Int32 → Int32 → Int32 → Option (Int32 × Sg) := am_rec (fun _ _ _ _ _ => none) (fun k => f_X10_copy_b157 k) n
def f_X10_copy_b120 (k120 : Sg → Int32 → Int32 → Int32 → Int32 → Int32 → Int32 → Option (Int32 × Sg)) (σ : Sg) (x1 : Int32) (x2 : Int32) (x3 : Int32) (x4 : Int32) (x5 : Int32) (x6 : Int32) : Option (Int32 × Sg) :=
  (if x5 ≤ x6 then (f_X10_copy_l157 300 σ x3 x4 x5 (0 : Int32)) else gd (inB ((((60 : Int32) * x1) + x2) + x6) 240) (gd (inB x6 60) (amlet (up2 σ 31 (x6).toNatClampNeg (σ 30 (((((60 : Int32) * x1) + x2) + x6)).toNatClampNeg)) (fun σ1 => amlet (x6 + (1 : Int32)) (fun v2 => (k120 σ1 x1 x2 x3 x4 x5 v2))))))
def f_X10_copy_l120 (n : Nat) : Sg → Int32 → Int32 → Int32 → Int32 → Int32 → Int32 → Option (Int32 × Sg) := am_rec (fun _ _ _ _ _ _ _ => none) (fun k => f_X10_copy_b120 k) n
def f_X10_copy (σ : Sg) (a1 : Int32) (a2 : Int32) (a3 : Int32) (a4 : Int32) (a5 : Int32) : Option (Int32 × Sg) :=
  bnd (f_X10_isSheet σ a1) (fun r1 σ2 => (if r1 = 0 then some ((-2 : Int32), σ2) else bnd (f_X10_isSheet σ2 a3) (fun r3 σ4 => (if r3 = 0 then some ((-2 : Int32), σ4) else gd (inB a1 4) ((if (σ4 27 (a1).toNatClampNeg) = 0 then (f_X10_copy_b35 σ4) else gd (inB a3 4) ((if (σ4 27 (a3).toNatClampNeg) = 0 then (f_X10_copy_b35 σ4) else gd (inB a1 4) (gd (inB a3 4) ((if (σ4 28 (a1).toNatClampNeg) = (σ4 28 (a3).toNatClampNeg) then (if a2 < 0 then (f_X10_copy_b111 σ4) else (if a4 < 0 then (f_X10_copy_b111 σ4) else (if a5 < 0 then (f_X10_copy_b111 σ4) else gd (inB a1 4) ((if 0 < (lg_cmp ((a2).toInt64 + (a5).toInt64) (((σ4 29 (a1).toNatClampNeg)).toInt64)) then (f_X10_copy_b111 σ4) else gd (inB a3 4) ((if (lg_cmp ((a4).toInt64 + (a5).toInt64) (((σ4 29 (a3).toNatClampNeg)).toInt64)) ≤ 0 then (f_X10_copy_l120 300 σ4 a1 a2 a3 a4 a5 (0 : Int32)) else (f_X10_copy_b111 σ4)))))))) else bnd (f_X10_meets σ4 (4 : Int32)) (fun r5 σ6 => some (r5, σ6)))))))))))))
def f_X10_write_b39 (k39 : Sg → Int32 → Int32 → Int32 → Option (Int32 × Sg)) (σ : Sg) (x1 : Int32) (x2 : Int32) (x3 : Int32) : Option (Int32 × Sg) :=
  gd (inB x2 4) ((if (σ 29 (x2).toNatClampNeg) ≤ x3 then some (x3, σ) else (if (24 : Int32) ≤ x3 then some (x3, σ) else gd (inB (((8 : Int32) * x3) + x1) 192) (bnd (f_X10_keep σ x2 x3 (σ 18 ((((8 : Int32) * x3) + x1)).toNatClampNeg)) (fun _ σ2 => amlet (x3 + (1 : Int32)) (fun v3 => (k39 σ2 x1 x2 v3)))))))
def f_X10_write_l39 (n : Nat) : Sg → Int32 → Int32 → Int32 → Option (Int32 × Sg) := am_rec (fun _ _ _ _ => none) (fun k => f_X10_write_b39 k) n
def f_X10_write (σ : Sg) (a1 : Int32) (a2 : Int32) : Option (Int32 × Sg) :=
  bnd (f_X10_isOne σ a1) (fun r1 σ2 => (if r1 = 0 then some ((-2 : Int32), σ2) else bnd (f_X10_isSheet σ2 a2) (fun r3 σ4 => (if r3 = 0 then some ((-2 : Int32), σ4) else gd (inB a2 4) ((if (σ4 27 (a2).toNatClampNeg) = 0 then bnd (f_X10_meets σ4 (1 : Int32)) (fun r8 σ9 => some (r8, σ9)) else bnd (f_X10_runsTold σ4) (fun _ σ6 => (f_X10_write_l39 300 σ6 a1 a2 (0 : Int32)))))))))
def f_X10_sumOf (σ : Sg) (a1 : Int32) : Option (Int32 × Sg) :=
  bnd (f_X10_runsTold σ) (fun _ σ2 => (if a1 = 0 then some ((σ2 0 2), σ2) else (if a1 = (1 : Int32) then some ((σ2 0 7), σ2) else (if a1 = (5 : Int32) then bnd (f_X10_metNow σ2) (fun r3 σ4 => some (r3, σ4)) else some ((σ2 0 23), σ2)))))
def f_X10_count_b52 (σ : Sg) (x1 : Int32) : Option (Int32 × Sg) :=
  bnd (f_X10_sumOf σ x1) (fun r1 σ2 => some (r1, σ2))
def f_X10_count_b58 (σ : Sg) (x1 : Int32) : Option (Int32 × Sg) :=
  gd (inB (x1 - (2 : Int32)) 2) (some ((σ 1 ((x1 - (2 : Int32))).toNatClampNeg), σ))
def f_X10_count (σ : Sg) (a1 : Int32) : Option (Int32 × Sg) :=
  (if a1 = 0 then (f_X10_count_b52 σ a1) else (if a1 = 1 then (f_X10_count_b52 σ a1) else (if a1 = 2 then (f_X10_count_b58 σ a1) else (if a1 = 3 then (f_X10_count_b58 σ a1) else (if a1 = 4 then some ((σ 0 11), σ) else (if a1 = 5 then (f_X10_count_b52 σ a1) else (if a1 = 6 then (f_X10_count_b52 σ a1) else (if a1 = 7 then some ((σ 0 31), σ) else (if a1 = 8 then some ((σ 0 41), σ) else some ((-2 : Int32), σ))))))))))
def f_X10_needDigest_b6 (k6 : Sg → Int32 → Int64 → Int32 → Option (Int64 × Sg)) (σ : Sg) (x3 : Int32) (x4 : Int64) (x6 : Int32) : Option (Int64 × Sg) :=
  (if (3 : Int32) ≤ x6 then bnd (f_X10_metOf σ x3) (fun r1 σ2 => amlet (((31 : Int64) * x4) + (r1).toInt64) (fun v3 => bnd (f_X10_chanceOf σ2 (5 : Int32) x3 (0 : Int32)) (fun r4 σ5 => amlet (((31 : Int64) * v3) + r4) (fun v6 => bnd (f_X10_chanceOf σ5 (5 : Int32) x3 (1 : Int32)) (fun r7 σ8 => some ((((31 : Int64) * v6) + r7), σ8)))))) else bnd (f_X10_needOf σ x3 x6) (fun r12 σ13 => amlet (((31 : Int64) * x4) + (r12).toInt64) (fun v14 => amlet (x6 + (1 : Int32)) (fun v15 => (k6 σ13 x3 v14 v15)))))
def f_X10_needDigest_l6 (n : Nat) : Sg → Int32 → Int64 → Int32 → Option (Int64 × Sg) := am_rec (fun _ _ _ _ => none) (fun k => f_X10_needDigest_b6 k) n
def f_X10_needDigest (σ : Sg) (a1 : Int64) (a3 : Int32) : Option (Int64 × Sg) :=
  (f_X10_needDigest_l6 300 σ a3 a1 (0 : Int32))
def f_X10_nightDigest_b6 (k6 : Sg → Int32 → Int32 → Int64 → Int32 → Option (Int64 × Sg)) (σ : Sg) (x3 : Int32) (x4 : Int32) (x5 : Int64) (x7 : Int32) : Option (Int64 × Sg) :=
  (if (3 : Int32) ≤ x7 then some (x5, σ) else bnd (f_X10_atOf σ x3 x4 x7) (fun r1 σ2 => amlet (((31 : Int64) * x5) + (r1).toInt64) (fun v3 => amlet (x7 + (1 : Int32)) (fun v4 => (k6 σ2 x3 x4 v3 v4)))))
def f_X10_nightDigest_l6 (n : Nat) : Sg → Int32 → Int32 → Int64 → Int32 → Option (Int64 × Sg) := am_rec (fun _ _ _ _ _ => none) (fun k => f_X10_nightDigest_b6 k) n
def f_X10_nightDigest (σ : Sg) (a1 : Int64) (a3 : Int32) (a4 : Int32) : Option (Int64 × Sg) :=
  (f_X10_nightDigest_l6 300 σ a3 a4 a1 (0 : Int32))
def f_X10_goneDigest_b96 (k96 : Sg → Int32 → Int64 → Int32 → Option (Int64 × Sg)) (σ : Sg) (x3 : Int32) (x4 : Int64) (x6 : Int32) : Option (Int64 × Sg) :=
  (if (3 : Int32) ≤ x6 then bnd (f_X10_sortsBy σ x3) (fun r1 σ2 => amlet (((31 : Int64) * x4) + (r1).toInt64) (fun v3 => bnd (f_X10_farsBy σ2 x3) (fun r4 σ5 => amlet (((31 : Int64) * v3) + (r4).toInt64) (fun v6 => bnd (f_X10_askOf σ5 x3) (fun r7 σ8 => some ((((31 : Int64) * v6) + (r7).toInt64), σ8)))))) else bnd (f_X10_lieOf σ x3 x6) (fun r12 σ13 => amlet (((31 : Int64) * x4) + (r12).toInt64) (fun v14 => amlet (x6 + (1 : Int32)) (fun v15 => (k96 σ13 x3 v14 v15)))))
def f_X10_goneDigest_l96 (n : Nat) : Sg → Int32 → Int64 → Int32 → Option (Int64 × Sg) := am_rec (fun _ _ _ _ => none) (fun k => f_X10_goneDigest_b96 k) n
def f_X10_goneDigest_b6 (k6 : Sg → Int32 → Int64 → Int32 → Option (Int64 × Sg)) (σ : Sg) (x3 : Int32) (x4 : Int64) (x6 : Int32) : Option (Int64 × Sg) :=
  (if (4 : Int32) ≤ x6 then bnd (f_X10_nightDigest σ x4 (0 : Int32) x3) (fun r1 σ2 => bnd (f_X10_nightDigest σ2 r1 (7 : Int32) x3) (fun r3 σ4 => bnd (f_X10_nightDigest σ4 r3 (15 : Int32) x3) (fun r5 σ6 => bnd (f_X10_nightDigest σ6 r5 (23 : Int32) x3) (fun r7 σ8 => bnd (f_X10_stoodOf σ8 x3) (fun r9 σ10 => amlet (((31 : Int64) * r7) + (r9).toInt64) (fun v11 => (f_X10_goneDigest_l96 300 σ10 x3 v11 (0 : Int32)))))))) else bnd (f_X10_goneOf σ x3 x6) (fun r17 σ18 => amlet (((31 : Int64) * x4) + (r17).toInt64) (fun v19 => amlet (x6 + (1 : Int32)) (fun v20 => (k6 σ18 x3 v19 v20)))))
def f_X10_goneDigest_l6 (n : Nat) : Sg → Int32 → Int64 → Int32 → Option (Int64 × Sg) := am_rec (fun _ _ _ _ => none) (fun k => f_X10_goneDigest_b6 k) n
def f_X10_goneDigest (σ : Sg) (a1 : Int64) (a3 : Int32) : Option (Int64 × Sg) :=
  (f_X10_goneDigest_l6 300 σ a3 a1 (0 : Int32))
def f_X10_digest_b147 (k147 : Sg → Int64 → Int32 → Option (Int64 × Sg)) (σ : Sg) (x1 : Int64) (x3 : Int32) : Option (Int64 × Sg) :=
  (if (6 : Int32) ≤ x3 then bnd (f_X10_firstOf σ (0 : Int32)) (fun r1 σ2 => amlet (((31 : Int64) * x1) + (r1).toInt64) (fun v3 => bnd (f_X10_firstOf σ2 (1 : Int32)) (fun r4 σ5 => amlet (((31 : Int64) * v3) + (r4).toInt64) (fun v6 => bnd (f_X10_gateOf σ5) (fun r7 σ8 => amlet (((31 : Int64) * v6) + (r7).toInt64) (fun v9 => bnd (f_X10_restOf σ8) (fun r10 σ11 => amlet (((31 : Int64) * v9) + (r10).toInt64) (fun v12 => bnd (f_X10_ploughOf σ11 (8 : Int32) (0 : Int32)) (fun r13 σ14 => amlet (((31 : Int64) * v12) + (r13).toInt64) (fun v15 => bnd (f_X10_ploughOf σ14 (8 : Int32) (1 : Int32)) (fun r16 σ17 => amlet (((31 : Int64) * v15) + (r16).toInt64) (fun v18 => bnd (f_X10_spareBy σ17) (fun r19 σ20 => amlet (((31 : Int64) * v18) + (r19).toInt64) (fun v21 => bnd (f_X10_ofRow σ20 r19 (0 : Int32)) (fun r22 σ23 => amlet (((31 : Int64) * v21) + (r22).toInt64) (fun v24 => bnd (f_X10_neverNow σ23) (fun r25 σ26 => amlet (((31 : Int64) * v24) + (r25).toInt64) (fun v27 => bnd (f_X10_yearsOf σ26 (7 : Int32) (6 : Int32) (0 : Int32)) (fun r28 σ29 => amlet (((31 : Int64) * v27) + (r28).toInt64) (fun v30 => bnd (f_X10_yearsOf σ29 (7 : Int32) (6 : Int32) (1 : Int32)) (fun r31 σ32 => some ((((31 : Int64) * v30) + (r31).toInt64), σ32)))))))))))))))))))))) else bnd (f_X10_whenOf σ x3 (0 : Int32)) (fun r44 σ45 => amlet (((31 : Int64) * x1) + (r44).toInt64) (fun v46 => bnd (f_X10_whenOf σ45 x3 (1 : Int32)) (fun r47 σ48 => amlet (((31 : Int64) * v46) + (r47).toInt64) (fun v49 => amlet (x3 + (1 : Int32)) (fun v50 => (k147 σ48 v49 v50)))))))
def f_X10_digest_l147 (n : Nat) : Sg → Int64 → Int32 → Option (Int64 × Sg) := am_rec (fun _ _ _ => none) (fun k => f_X10_digest_b147 k) n
def f_X10_digest_b105 (k105 : Sg → Int64 → Int32 → Option (Int64 × Sg)) (σ : Sg) (x1 : Int64) (x3 : Int32) : Option (Int64 × Sg) :=
  (if (24 : Int32) ≤ x3 then (f_X10_digest_l147 300 σ x1 (0 : Int32)) else bnd (f_X10_upOf σ x3 (0 : Int32)) (fun r1 σ2 => amlet (((31 : Int64) * x1) + (r1).toInt64) (fun v3 => bnd (f_X10_upOf σ2 x3 (1 : Int32)) (fun r4 σ5 => amlet (((31 : Int64) * v3) + (r4).toInt64) (fun v6 => amlet (x3 + (1 : Int32)) (fun v7 => (k105 σ5 v6 v7)))))))
def f_X10_digest_l105 (n : Nat) : Sg → Int64 → Int32 → Option (Int64 × Sg) := am_rec (fun _ _ _ => none) (fun k => f_X10_digest_b105 k) n
def f_X10_digest_b82 (k82 : Sg → Int64 → Int32 → Option (Int64 × Sg)) (σ : Sg) (x1 : Int64) (x3 : Int32) : Option (Int64 × Sg) :=
  (if (σ 0 2) ≤ x3 then (f_X10_digest_l105 300 σ x1 (0 : Int32)) else bnd (f_X10_goneDigest σ x1 x3) (fun r1 σ2 => amlet (x3 + (1 : Int32)) (fun v3 => (k82 σ2 r1 v3))))
def f_X10_digest_l82 (n : Nat) : Sg → Int64 → Int32 → Option (Int64 × Sg) := am_rec (fun _ _ _ => none) (fun k => f_X10_digest_b82 k) n
def f_X10_digest_b59 (k59 : Sg → Int64 → Int32 → Option (Int64 × Sg)) (σ : Sg) (x1 : Int64) (x3 : Int32) : Option (Int64 × Sg) :=
  (if (σ 0 7) ≤ x3 then (f_X10_digest_l82 300 σ x1 (0 : Int32)) else bnd (f_X10_needDigest σ x1 x3) (fun r1 σ2 => amlet (x3 + (1 : Int32)) (fun v3 => (k59 σ2 r1 v3))))
def f_X10_digest_l59 (n : Nat) : Sg → Int64 → Int32 → Option (Int64 × Sg) := am_rec (fun _ _ _ => none) (fun k => f_X10_digest_b59 k) n
def f_X10_digest_b6 (k6 : Sg → Int64 → Int32 → Option (Int64 × Sg)) (σ : Sg) (x1 : Int64) (x3 : Int32) : Option (Int64 × Sg) :=
  (if (8 : Int32) ≤ x3 then bnd (f_X10_faultOf σ (0 : Int32)) (fun r1 σ2 => amlet (((31 : Int64) * x1) + (r1).toInt64) (fun v3 => bnd (f_X10_faultOf σ2 (1 : Int32)) (fun r4 σ5 => amlet (((31 : Int64) * v3) + (r4).toInt64) (fun v6 => (f_X10_digest_l59 300 σ5 v6 (0 : Int32)))))) else bnd (f_X10_count σ x3) (fun r9 σ10 => amlet (((31 : Int64) * x1) + (r9).toInt64) (fun v11 => amlet (x3 + (1 : Int32)) (fun v12 => (k6 σ10 v11 v12)))))
def f_X10_digest_l6 (n : Nat) : Sg → Int64 → Int32 → Option (Int64 × Sg) := am_rec (fun _ _ _ => none) (fun k => f_X10_digest_b6 k) n
def f_X10_digest (σ : Sg) : Option (Int64 × Sg) :=
  (f_X10_digest_l6 300 σ (17 : Int64) (0 : Int32))
