def f_X9_isBelow (σ : Sg) (a0 : Int32) (a1 : Int32) : Option (Int32 × Sg) :=
  (if a0 < 0 then some ((0 : Int32), σ) else (if a1 ≤ a0 then some ((0 : Int32), σ) else some ((1 : Int32), σ)))
def f_X9_textOf (σ : Sg) (a1 : Int32) : Option (Nat × Sg) :=
  (if a1 = 0 then some (1, σ) else some (3, σ))
def f_X8_add (c0 : Nat) (σ : Sg) (a1 : Int32) : Option (Unit × Sg) :=
  (if (σ c0 1) ≤ (σ c0 2) then some ((), σ) else gd (inB (σ c0 2) 39) (amlet (up2 σ (c0 + 1) ((σ c0 2)).toNatClampNeg a1) (fun σ1 => amlet (up2 σ1 c0 2 ((σ1 c0 2) + (1 : Int32))) (fun σ2 => some ((), σ2)))))
def f_X4_takesByte (σ : Sg) (a1 : Int32) (a2 : Int32) (a3 : Int32) : Option (Int32 × Sg) :=
  (if a2 = 0 then gd (inB a1 8) (amlet (up2 σ 11 (a1).toNatClampNeg (a3 - (48 : Int32))) (fun σ1 => bnd (f_X9_isBelow σ1 (a3 - (48 : Int32)) (8 : Int32)) (fun r2 σ3 => gd (decide (r2 = 0 ∨ r2 = 1)) (some (r2, σ3))))) else (if a2 = 1 then gd (inB a1 8) (amlet (up2 σ 12 (a1).toNatClampNeg (a3 - (97 : Int32))) (fun σ5 => bnd (f_X9_isBelow σ5 (a3 - (97 : Int32)) (24 : Int32)) (fun r6 σ7 => gd (decide (r6 = 0 ∨ r6 = 1)) (some (r6, σ7))))) else (if a2 = 2 then gd (inB a1 8) (amlet (up2 σ 13 (a1).toNatClampNeg (a3 - (48 : Int32))) (fun σ9 => (if a3 < (49 : Int32) then some ((0 : Int32), σ9) else (if (57 : Int32) < a3 then some ((0 : Int32), σ9) else some ((1 : Int32), σ9))))) else (if a3 = (59 : Int32) then some ((1 : Int32), σ) else some ((0 : Int32), σ)))))
def f_X3_takeN_b61 (c1 : Nat) (k7 : Sg → Int32 → Option (Unit × Sg)) (σ : Sg) (x2 : Int32) : Option (Unit × Sg) :=
  amlet (x2 + (1 : Int32)) (fun v1 => (k7 σ v1))
def f_X3_takeN_b56 (c1 : Nat) (k7 : Sg → Int32 → Option (Unit × Sg)) (σ : Sg) (x2 : Int32) : Option (Unit × Sg) :=
  amlet (up2 σ 10 2 x2) (fun σ1 => (f_X3_takeN_b61 c1 k7 σ1 x2))
def f_X3_takeN_b142 (c1 : Nat) (σ : Sg) (s0 : Int32) : Option (Unit × Sg) :=
  amlet (up2 σ 10 1 s0) (fun σ1 => some ((), σ1))
def f_X3_takeN_b118 (c1 : Nat) (σ : Sg) : Option (Unit × Sg) :=
  (if (σ 10 2) = (-1 : Int32) then gd (decide ((σ 10 0) ≠ 0)) ((f_X3_takeN_b142 c1 σ (((σ c1 2) + (1 : Int32)) / (σ 10 0)))) else (f_X3_takeN_b142 c1 σ (0 : Int32)))
def f_X3_takeN_b97 (c1 : Nat) (σ : Sg) (s0 : Int32) : Option (Unit × Sg) :=
  (if (σ 10 2) = (-1 : Int32) then (if s0 = 0 then amlet (up2 σ 10 2 (σ c1 2)) (fun σ1 => (f_X3_takeN_b118 c1 σ1)) else (f_X3_takeN_b118 c1 σ)) else (f_X3_takeN_b118 c1 σ))
def f_X3_takeN_b92 (c1 : Nat) (σ : Sg) : Option (Unit × Sg) :=
  (f_X3_takeN_b97 c1 σ (1 : Int32))
def f_X3_takeN_b67 (c1 : Nat) (σ : Sg) : Option (Unit × Sg) :=
  (if (σ c1 2) = 0 then (f_X3_takeN_b92 c1 σ) else gd (decide ((σ 10 0) ≠ 0)) ((if ((σ c1 2) - (σ c1 2) / (σ 10 0) * (σ 10 0)) = ((σ 10 0) - (1 : Int32)) then (f_X3_takeN_b92 c1 σ) else (f_X3_takeN_b97 c1 σ (0 : Int32)))))
def f_X3_takeN_b7 (c1 : Nat) (k7 : Sg → Int32 → Option (Unit × Sg)) (σ : Sg) (x2 : Int32) : Option (Unit × Sg) :=
  (if (σ c1 2) ≤ x2 then (f_X3_takeN_b67 c1 σ) else (if (σ 10 2) = (-1 : Int32) then gd (decide ((σ 10 0) ≠ 0)) (amlet (x2 / (σ 10 0)) (fun v1 => (if (8 : Int32) ≤ v1 then (f_X3_takeN_b56 c1 k7 σ x2) else gd (decide ((σ 10 0) ≠ 0)) (gd (inB x2 39) (bnd (f_X4_takesByte σ v1 (x2 - x2 / (σ 10 0) * (σ 10 0)) (σ (c1 + 1) (x2).toNatClampNeg)) (fun r2 σ3 => (if r2 = 0 then (f_X3_takeN_b56 c1 k7 σ3 x2) else (f_X3_takeN_b61 c1 k7 σ3 x2)))))))) else (f_X3_takeN_b67 c1 σ)))
def f_X3_takeN_l7 (c1 : Nat) (n : Nat) : Sg → Int32 → Option (Unit × Sg) := am_rec (fun _ _ => none) (fun k => f_X3_takeN_b7 c1 k) n
def f_X3_takeN (c1 : Nat) (σ : Sg) : Option (Unit × Sg) :=
  amlet (up2 σ 10 2 (-1 : Int32)) (fun σ1 => (f_X3_takeN_l7 c1 300 σ1 (0 : Int32)))
def f_X2_sortOf (σ : Sg) (a0 : Int32) : Option (Int32 × Sg) :=
  (if a0 = (100 : Int32) then some ((0 : Int32), σ) else (if a0 = (99 : Int32) then some ((1 : Int32), σ) else (if a0 = (114 : Int32) then some ((2 : Int32), σ) else some ((-1 : Int32), σ))))
def f_X2_liesAnother_b40 (k3 : Sg → Int32 → Int32 → Int32 → Int32 → Int32 → Option (Int32 × Sg)) (σ : Sg) (x1 : Int32) (x2 : Int32) (x3 : Int32) (x4 : Int32) (x5 : Int32) : Option (Int32 × Sg) :=
  amlet (x5 + (1 : Int32)) (fun v1 => (k3 σ x1 x2 x3 x4 v1))
def f_X2_liesAnother_b3 (k3 : Sg → Int32 → Int32 → Int32 → Int32 → Int32 → Option (Int32 × Sg)) (σ : Sg) (x1 : Int32) (x2 : Int32) (x3 : Int32) (x4 : Int32) (x5 : Int32) : Option (Int32 × Sg) :=
  (if x4 ≤ x5 then some ((0 : Int32), σ) else (if x5 = x3 then (f_X2_liesAnother_b40 k3 σ x1 x2 x3 x4 x5) else gd (inB x5 8) ((if (σ 7 (x5).toNatClampNeg) = x1 then gd (inB x5 8) ((if (σ 8 (x5).toNatClampNeg) = x2 then some ((1 : Int32), σ) else (f_X2_liesAnother_b40 k3 σ x1 x2 x3 x4 x5))) else (f_X2_liesAnother_b40 k3 σ x1 x2 x3 x4 x5)))))
def f_X2_liesAnother_l3 (n : Nat) : Sg → Int32 → Int32 → Int32 → Int32 → Int32 → Option (Int32 × Sg) := am_rec (fun _ _ _ _ _ _ => none) (fun k => f_X2_liesAnother_b3 k) n
def f_X2_liesAnother (σ : Sg) (a1 : Int32) (a2 : Int32) (a3 : Int32) (a4 : Int32) : Option (Int32 × Sg) :=
  (f_X2_liesAnother_l3 300 σ a1 a2 a3 a4 (0 : Int32))
def f_X2_takesByte (σ : Sg) (a1 : Int32) (a2 : Int32) (a3 : Int32) : Option (Int32 × Sg) :=
  amlet (a3 - (48 : Int32)) (fun v1 => (if a2 = 0 then bnd (f_X2_sortOf σ a3) (fun r2 σ3 => gd (inB a1 8) (amlet (up2 σ3 6 (a1).toNatClampNeg r2) (fun σ4 => gd (inB a1 8) ((if (σ4 6 (a1).toNatClampNeg) = (-1 : Int32) then some ((0 : Int32), σ4) else some ((1 : Int32), σ4)))))) else (if a2 = 1 then gd (inB a1 8) (amlet (up2 σ 7 (a1).toNatClampNeg v1) (fun σ6 => bnd (f_X9_isBelow σ6 v1 (6 : Int32)) (fun r7 σ8 => gd (decide (r7 = 0 ∨ r7 = 1)) (some (r7, σ8))))) else (if a2 = 2 then gd (inB a1 8) (amlet (up2 σ 8 (a1).toNatClampNeg v1) (fun σ10 => bnd (f_X9_isBelow σ10 v1 (6 : Int32)) (fun r11 σ12 => (if r11 = 0 then some ((0 : Int32), σ12) else gd (inB a1 8) (bnd (f_X2_liesAnother σ12 (σ12 7 (a1).toNatClampNeg) v1 a1 a1) (fun r13 σ14 => (if r13 = 0 then some ((1 : Int32), σ14) else some ((0 : Int32), σ14)))))))) else (if a2 = 3 then gd (inB a1 8) (amlet (up2 σ 9 (a1).toNatClampNeg v1) (fun σ17 => (if v1 < (1 : Int32) then some ((0 : Int32), σ17) else (if (9 : Int32) < v1 then some ((0 : Int32), σ17) else some ((1 : Int32), σ17))))) else (if a3 = (59 : Int32) then some ((1 : Int32), σ) else some ((0 : Int32), σ)))))))
def f_X3_takeG_b61 (c1 : Nat) (k7 : Sg → Int32 → Option (Unit × Sg)) (σ : Sg) (x2 : Int32) : Option (Unit × Sg) :=
  amlet (x2 + (1 : Int32)) (fun v1 => (k7 σ v1))
def f_X3_takeG_b56 (c1 : Nat) (k7 : Sg → Int32 → Option (Unit × Sg)) (σ : Sg) (x2 : Int32) : Option (Unit × Sg) :=
  amlet (up2 σ 5 2 x2) (fun σ1 => (f_X3_takeG_b61 c1 k7 σ1 x2))
def f_X3_takeG_b142 (c1 : Nat) (σ : Sg) (s0 : Int32) : Option (Unit × Sg) :=
  amlet (up2 σ 5 1 s0) (fun σ1 => some ((), σ1))
def f_X3_takeG_b118 (c1 : Nat) (σ : Sg) : Option (Unit × Sg) :=
  (if (σ 5 2) = (-1 : Int32) then gd (decide ((σ 5 0) ≠ 0)) ((f_X3_takeG_b142 c1 σ (((σ c1 2) + (1 : Int32)) / (σ 5 0)))) else (f_X3_takeG_b142 c1 σ (0 : Int32)))
def f_X3_takeG_b97 (c1 : Nat) (σ : Sg) (s0 : Int32) : Option (Unit × Sg) :=
  (if (σ 5 2) = (-1 : Int32) then (if s0 = 0 then amlet (up2 σ 5 2 (σ c1 2)) (fun σ1 => (f_X3_takeG_b118 c1 σ1)) else (f_X3_takeG_b118 c1 σ)) else (f_X3_takeG_b118 c1 σ))
def f_X3_takeG_b92 (c1 : Nat) (σ : Sg) : Option (Unit × Sg) :=
  (f_X3_takeG_b97 c1 σ (1 : Int32))
def f_X3_takeG_b67 (c1 : Nat) (σ : Sg) : Option (Unit × Sg) :=
  (if (σ c1 2) = 0 then (f_X3_takeG_b92 c1 σ) else gd (decide ((σ 5 0) ≠ 0)) ((if ((σ c1 2) - (σ c1 2) / (σ 5 0) * (σ 5 0)) = ((σ 5 0) - (1 : Int32)) then (f_X3_takeG_b92 c1 σ) else (f_X3_takeG_b97 c1 σ (0 : Int32)))))
def f_X3_takeG_b7 (c1 : Nat) (k7 : Sg → Int32 → Option (Unit × Sg)) (σ : Sg) (x2 : Int32) : Option (Unit × Sg) :=
  (if (σ c1 2) ≤ x2 then (f_X3_takeG_b67 c1 σ) else (if (σ 5 2) = (-1 : Int32) then gd (decide ((σ 5 0) ≠ 0)) (amlet (x2 / (σ 5 0)) (fun v1 => (if (8 : Int32) ≤ v1 then (f_X3_takeG_b56 c1 k7 σ x2) else gd (decide ((σ 5 0) ≠ 0)) (gd (inB x2 39) (bnd (f_X2_takesByte σ v1 (x2 - x2 / (σ 5 0) * (σ 5 0)) (σ (c1 + 1) (x2).toNatClampNeg)) (fun r2 σ3 => (if r2 = 0 then (f_X3_takeG_b56 c1 k7 σ3 x2) else (f_X3_takeG_b61 c1 k7 σ3 x2)))))))) else (f_X3_takeG_b67 c1 σ)))
def f_X3_takeG_l7 (c1 : Nat) (n : Nat) : Sg → Int32 → Option (Unit × Sg) := am_rec (fun _ _ => none) (fun k => f_X3_takeG_b7 c1 k) n
def f_X3_takeG (c1 : Nat) (σ : Sg) : Option (Unit × Sg) :=
  amlet (up2 σ 5 2 (-1 : Int32)) (fun σ1 => (f_X3_takeG_l7 c1 300 σ1 (0 : Int32)))
def f_X9_markStale (σ : Sg) : Option (Unit × Sg) :=
  amlet (up2 σ 0 12 (1 : Int32)) (fun σ1 => amlet (up2 σ1 0 13 (1 : Int32)) (fun σ2 => some ((), σ2)))
def f_X9_takeTextAnew_b29 (σ : Sg) : Option (Unit × Sg) :=
  bnd (f_X9_markStale σ) (fun _ σ2 => some ((), σ2))
def f_X9_takeTextAnew (σ : Sg) (a1 : Int32) : Option (Unit × Sg) :=
  (if a1 = 0 then bnd (f_X3_takeG 1 σ) (fun _ σ5 => (f_X9_takeTextAnew_b29 σ5)) else bnd (f_X3_takeN 3 σ) (fun _ σ2 => (f_X9_takeTextAnew_b29 σ2)))
def f_X9_type (σ : Sg) (a1 : Int32) (a2 : Int32) : Option (Int32 × Sg) :=
  bnd (f_X9_isBelow σ a1 (2 : Int32)) (fun r1 σ2 => (if r1 = 0 then some ((-2 : Int32), σ2) else bnd (f_X9_isBelow σ2 a2 (256 : Int32)) (fun r3 σ4 => (if r3 = 0 then some ((-2 : Int32), σ4) else bnd (f_X9_textOf σ4 a1) (fun r5 σ6 => gd (isX8 r5) ((if (σ6 r5 2) < (σ6 r5 1) then bnd (f_X8_add r5 σ6 a2) (fun _ σ8 => bnd (f_X9_takeTextAnew σ8 a1) (fun _ σ10 => some ((σ10 r5 2), σ10))) else some ((-4 : Int32), σ6))))))))
def f_X9_wipe (σ : Sg) (a1 : Int32) : Option (Int32 × Sg) :=
  bnd (f_X9_isBelow σ a1 (2 : Int32)) (fun r1 σ2 => (if r1 = 0 then some ((-2 : Int32), σ2) else bnd (f_X9_textOf σ2 a1) (fun r3 σ4 => gd (isX8 r3) (amlet (σ4 r3 2) (fun v5 => amlet (up2 σ4 r3 2 (0 : Int32)) (fun σ6 => bnd (f_X9_takeTextAnew σ6 a1) (fun _ σ8 => some (v5, σ8))))))))
def f_X9_undo (σ : Sg) (a1 : Int32) : Option (Int32 × Sg) :=
  bnd (f_X9_isBelow σ a1 (2 : Int32)) (fun r1 σ2 => (if r1 = 0 then some ((-2 : Int32), σ2) else bnd (f_X9_textOf σ2 a1) (fun r3 σ4 => gd (isX8 r3) ((if (σ4 r3 2) = 0 then some ((-3 : Int32), σ4) else amlet (up2 σ4 r3 2 ((σ4 r3 2) - (1 : Int32))) (fun σ5 => bnd (f_X9_takeTextAnew σ5 a1) (fun _ σ7 => some ((σ7 r3 2), σ7))))))))
def f_X9_fault (σ : Sg) (a1 : Int32) : Option (Int32 × Sg) :=
  bnd (f_X9_isBelow σ a1 (2 : Int32)) (fun r1 σ2 => (if r1 = 0 then some ((-2 : Int32), σ2) else (if a1 = 0 then some ((σ2 5 2), σ2) else some ((σ2 10 2), σ2))))
def f_X9_gone (σ : Sg) (a1 : Int32) (a2 : Int32) : Option (Int32 × Sg) :=
  bnd (f_X9_isBelow σ a1 (σ 5 1)) (fun r1 σ2 => (if r1 = 0 then some ((-2 : Int32), σ2) else bnd (f_X9_isBelow σ2 a2 (4 : Int32)) (fun r3 σ4 => (if r3 = 0 then some ((-2 : Int32), σ4) else (if a2 = 0 then gd (inB a1 8) (some ((σ4 6 (a1).toNatClampNeg), σ4)) else (if a2 = 1 then gd (inB a1 8) (some ((σ4 7 (a1).toNatClampNeg), σ4)) else (if a2 = 2 then gd (inB a1 8) (some ((σ4 8 (a1).toNatClampNeg), σ4)) else gd (inB a1 8) (some ((σ4 9 (a1).toNatClampNeg), σ4)))))))))
def f_X9_need (σ : Sg) (a1 : Int32) (a2 : Int32) : Option (Int32 × Sg) :=
  bnd (f_X9_isBelow σ a1 (σ 10 1)) (fun r1 σ2 => (if r1 = 0 then some ((-2 : Int32), σ2) else bnd (f_X9_isBelow σ2 a2 (3 : Int32)) (fun r3 σ4 => (if r3 = 0 then some ((-2 : Int32), σ4) else (if a2 = 0 then gd (inB a1 8) (some ((σ4 11 (a1).toNatClampNeg), σ4)) else (if a2 = 1 then gd (inB a1 8) (some ((σ4 12 (a1).toNatClampNeg), σ4)) else gd (inB a1 8) (some ((σ4 13 (a1).toNatClampNeg), σ4))))))))
def f_X1_add_b101 (c0 : Nat) (σ : Sg) (x4 : Int32) : Option (Unit × Sg) :=
  gd (inB x4 9) (amlet (up2 σ (c0 + 4) (x4).toNatClampNeg (σ c0 4)) (fun σ1 => amlet (up2 σ1 c0 4 ((σ1 c0 4) + (1 : Int32))) (fun σ2 => some ((), σ2))))
def f_X1_add_b54 (c0 : Nat) (k54 : Sg → Int32 → Int32 → Int32 → Option (Unit × Sg)) (σ : Sg) (x2 : Int32) (x4 : Int32) (x5 : Int32) : Option (Unit × Sg) :=
  (if x5 < 0 then (f_X1_add_b101 c0 σ x4) else gd (inB x5 9) (gd (inB (σ (c0 + 4) (x5).toNatClampNeg) 9) ((if (σ (c0 + 2) ((σ (c0 + 4) (x5).toNatClampNeg)).toNatClampNeg) ≤ x2 then (f_X1_add_b101 c0 σ x4) else gd (inB x5 9) (gd (inB (x5 + (1 : Int32)) 9) (amlet (up2 σ (c0 + 4) ((x5 + (1 : Int32))).toNatClampNeg (σ (c0 + 4) (x5).toNatClampNeg)) (fun σ1 => amlet (x5 + (-1 : Int32)) (fun v2 => (k54 σ1 x2 x5 v2)))))))))
def f_X1_add_l54 (c0 : Nat) (n : Nat) : Sg → Int32 → Int32 → Int32 → Option (Unit × Sg) := am_rec (fun _ _ _ _ => none) (fun k => f_X1_add_b54 c0 k) n
def f_X1_add (c0 : Nat) (σ : Sg) (a1 : Int32) (a2 : Int32) (a3 : Int32) : Option (Unit × Sg) :=
  (if (σ c0 4) ≤ (8 : Int32) then gd (inB (σ c0 4) 9) (amlet (up2 σ (c0 + 1) ((σ c0 4)).toNatClampNeg a1) (fun σ1 => gd (inB (σ1 c0 4) 9) (amlet (up2 σ1 (c0 + 2) ((σ1 c0 4)).toNatClampNeg a2) (fun σ2 => gd (inB (σ2 c0 4) 9) (amlet (up2 σ2 (c0 + 3) ((σ2 c0 4)).toNatClampNeg a3) (fun σ3 => amlet (σ3 c0 4) (fun v4 => amlet ((σ3 c0 4) - (1 : Int32)) (fun v5 => (f_X1_add_l54 c0 300 σ3 a2 v4 v5))))))))) else some ((), σ))
def f_X9_event (σ : Sg) (a1 : Int32) (a2 : Int32) (a3 : Int32) : Option (Int32 × Sg) :=
  bnd (f_X9_isBelow σ a1 (2 : Int32)) (fun r1 σ2 => (if r1 = 0 then some ((-2 : Int32), σ2) else bnd (f_X9_isBelow σ2 a2 (24 : Int32)) (fun r3 σ4 => (if r3 = 0 then some ((-2 : Int32), σ4) else bnd (f_X9_isBelow σ4 a3 (6 : Int32)) (fun r5 σ6 => (if r5 = 0 then some ((-2 : Int32), σ6) else (if (σ6 14 4) < (8 : Int32) then bnd (f_X1_add 14 σ6 a1 a2 a3) (fun _ σ8 => bnd (f_X9_markStale σ8) (fun _ σ10 => some ((σ10 14 4), σ10))) else some ((-4 : Int32), σ6))))))))
def f_X1_dropLast_b50 (c0 : Nat) (k12 : Sg → Int32 → Int32 → Option (Unit × Sg)) (σ : Sg) (x1 : Int32) (x2 : Int32) : Option (Unit × Sg) :=
  amlet (x2 + (1 : Int32)) (fun v1 => (k12 σ x1 v1))
def f_X1_dropLast_b12 (c0 : Nat) (k12 : Sg → Int32 → Int32 → Option (Unit × Sg)) (σ : Sg) (x1 : Int32) (x2 : Int32) : Option (Unit × Sg) :=
  (if (σ c0 4) ≤ x2 then amlet (up2 σ c0 4 ((σ c0 4) - (1 : Int32))) (fun σ1 => some ((), σ1)) else gd (inB x2 9) ((if (σ (c0 + 4) (x2).toNatClampNeg) = ((σ c0 4) - (1 : Int32)) then (f_X1_dropLast_b50 c0 k12 σ x1 x2) else gd (inB x2 9) (gd (inB x1 9) (amlet (up2 σ (c0 + 4) (x1).toNatClampNeg (σ (c0 + 4) (x2).toNatClampNeg)) (fun σ2 => amlet (x1 + (1 : Int32)) (fun v3 => (f_X1_dropLast_b50 c0 k12 σ2 v3 x2))))))))
def f_X1_dropLast_l12 (c0 : Nat) (n : Nat) : Sg → Int32 → Int32 → Option (Unit × Sg) := am_rec (fun _ _ _ => none) (fun k => f_X1_dropLast_b12 c0 k) n
def f_X1_dropLast (c0 : Nat) (σ : Sg) : Option (Unit × Sg) :=
  (if (σ c0 4) = 0 then some ((), σ) else (f_X1_dropLast_l12 c0 300 σ (0 : Int32) (0 : Int32)))
def f_X9_back (σ : Sg) : Option (Int32 × Sg) :=
  (if (σ 14 4) = 0 then some ((-3 : Int32), σ) else bnd (f_X1_dropLast 14 σ) (fun _ σ2 => bnd (f_X9_markStale σ2) (fun _ σ4 => some ((σ4 14 4), σ4))))
def f_X9_find (σ : Sg) (a1 : Int32) : Option (Int32 × Sg) :=
  amlet (up2 σ 0 14 a1) (fun σ1 => some (((-10 : Int32) - a1), σ1))
def f_X9_read_b37 (k37 : Sg → Nat → Int32 → Int32 → Option (Int32 × Sg)) (σ : Sg) (x2 : Nat) (x3 : Int32) (x4 : Int32) : Option (Int32 × Sg) :=
  (if (σ x2 2) ≤ (x4 + (2 : Int32)) then some (x3, σ) else gd (inB x4 60) (gd (inB (x4 + (1 : Int32)) 60) (gd (inB (x4 + (2 : Int32)) 60) (bnd (f_X9_event σ (σ (x2 + 1) (x4).toNatClampNeg) (σ (x2 + 1) ((x4 + (1 : Int32))).toNatClampNeg) (σ (x2 + 1) ((x4 + (2 : Int32))).toNatClampNeg)) (fun r1 σ2 => (if 0 ≤ r1 then amlet (x3 + (1 : Int32)) (fun v3 => amlet (x4 + (3 : Int32)) (fun v4 => (k37 σ2 x2 v3 v4))) else some (x3, σ2)))))))
def f_X9_read_l37 (n : Nat) : Sg → Nat → Int32 → Int32 → Option (Int32 × Sg) := am_rec (fun _ _ _ _ => none) (fun k => f_X9_read_b37 k) n
def f_X9_read (σ : Sg) (a1 : Int32) : Option (Int32 × Sg) :=
  bnd (f_X9_isBelow σ a1 (4 : Int32)) (fun r1 σ2 => (if r1 = 0 then some ((-2 : Int32), σ2) else gd (inB a1 4) (amlet (46 + 2 * (a1).toNatClampNeg) (fun r3 => gd (isX6 r3) ((if (σ2 r3 1) = (-1 : Int32) then bnd (f_X9_find σ2 (1 : Int32)) (fun r4 σ5 => some (r4, σ5)) else (f_X9_read_l37 300 σ2 r3 (0 : Int32) (0 : Int32))))))))
def f_X0_startAnew_b2 (c0 : Nat) (k2 : Sg → Int32 → Option (Unit × Sg)) (σ : Sg) (x1 : Int32) : Option (Unit × Sg) :=
  (if (8 : Int32) ≤ x1 then amlet (up2 σ c0 6 (0 : Int32)) (fun σ1 => amlet (up2 σ1 c0 7 (0 : Int32)) (fun σ2 => amlet (up2 σ2 c0 8 (0 : Int32)) (fun σ3 => amlet (up2 σ3 c0 9 (0 : Int32)) (fun σ4 => some ((), σ4))))) else gd (inB x1 8) (amlet (up2 σ (c0 + 1) (x1).toNatClampNeg (-1 : Int32)) (fun σ5 => gd (inB x1 8) (amlet (up2 σ5 (c0 + 3) (x1).toNatClampNeg (0 : Int32)) (fun σ6 => amlet (x1 + (1 : Int32)) (fun v7 => (k2 σ6 v7)))))))
def f_X0_startAnew_l2 (c0 : Nat) (n : Nat) : Sg → Int32 → Option (Unit × Sg) := am_rec (fun _ _ => none) (fun k => f_X0_startAnew_b2 c0 k) n
def f_X0_startAnew (c0 : Nat) (σ : Sg) : Option (Unit × Sg) :=
  (f_X0_startAnew_l2 c0 300 σ (0 : Int32))
def f_X0_endNightsTo_b5 (c0 : Nat) (k5 : Sg → Int32 → Int32 → Option (Unit × Sg)) (σ : Sg) (x1 : Int32) (x2 : Int32) : Option (Unit × Sg) :=
  (if x1 ≤ x2 then amlet (up2 σ c0 9 x1) (fun σ1 => some ((), σ1)) else gd (inB x2 24) (amlet (up2 σ (c0 + 4) (x2).toNatClampNeg (σ c0 8)) (fun σ2 => amlet (x2 + (1 : Int32)) (fun v3 => (k5 σ2 x1 v3)))))
def f_X0_endNightsTo_l5 (c0 : Nat) (n : Nat) : Sg → Int32 → Int32 → Option (Unit × Sg) := am_rec (fun _ _ _ => none) (fun k => f_X0_endNightsTo_b5 c0 k) n
def f_X0_endNightsTo (c0 : Nat) (σ : Sg) (a1 : Int32) : Option (Unit × Sg) :=
  amlet (σ c0 9) (fun v1 => (f_X0_endNightsTo_l5 c0 300 σ a1 v1))
def f_X4_weightOn (σ : Sg) (a1 : Int32) (a2 : Int32) : Option (Int32 × Sg) :=
  gd (inB a1 8) (gd (inB a1 8) (amlet (((σ 13 (a1).toNatClampNeg) + a2) - (σ 12 (a1).toNatClampNeg)) (fun v1 => (if (9 : Int32) ≤ v1 then some ((9 : Int32), σ) else some (v1, σ)))))
def f_X0_weighNeeds_b71 (c0 : Nat) (k23 : Sg → Int32 → Int32 → Option (Unit × Sg)) (σ : Sg) (x2 : Int32) (x3 : Int32) : Option (Unit × Sg) :=
  amlet (x3 + (1 : Int32)) (fun v1 => (k23 σ x2 v1))
def f_X0_weighNeeds_b23 (c0 : Nat) (k23 : Sg → Int32 → Int32 → Option (Unit × Sg)) (σ : Sg) (x2 : Int32) (x3 : Int32) : Option (Unit × Sg) :=
  (if (σ 10 1) ≤ x3 then some ((), σ) else gd (inB x3 8) ((if (σ (c0 + 1) (x3).toNatClampNeg) = (-1 : Int32) then gd (inB x3 8) ((if x2 < (σ 12 (x3).toNatClampNeg) then (f_X0_weighNeeds_b71 c0 k23 σ x2 x3) else gd (inB x3 8) (gd (inB (σ 11 (x3).toNatClampNeg) 8) (bnd (f_X4_weightOn σ x3 x2) (fun r1 σ2 => gd (inB (σ 11 (x3).toNatClampNeg) 8) (amlet (up2 σ2 (c0 + 2) ((σ 11 (x3).toNatClampNeg)).toNatClampNeg ((σ (c0 + 2) ((σ 11 (x3).toNatClampNeg)).toNatClampNeg) + r1)) (fun σ3 => (f_X0_weighNeeds_b71 c0 k23 σ3 x2 x3)))))))) else (f_X0_weighNeeds_b71 c0 k23 σ x2 x3))))
def f_X0_weighNeeds_l23 (c0 : Nat) (n : Nat) : Sg → Int32 → Int32 → Option (Unit × Sg) := am_rec (fun _ _ _ => none) (fun k => f_X0_weighNeeds_b23 c0 k) n
def f_X0_weighNeeds_b2 (c0 : Nat) (k2 : Sg → Int32 → Int32 → Option (Unit × Sg)) (σ : Sg) (x2 : Int32) (x3 : Int32) : Option (Unit × Sg) :=
  (if (8 : Int32) ≤ x3 then (f_X0_weighNeeds_l23 c0 300 σ x2 (0 : Int32)) else gd (inB x3 8) (amlet (up2 σ (c0 + 2) (x3).toNatClampNeg (0 : Int32)) (fun σ1 => amlet (x3 + (1 : Int32)) (fun v2 => (k2 σ1 x2 v2)))))
def f_X0_weighNeeds_l2 (c0 : Nat) (n : Nat) : Sg → Int32 → Int32 → Option (Unit × Sg) := am_rec (fun _ _ _ => none) (fun k => f_X0_weighNeeds_b2 c0 k) n
def f_X0_weighNeeds (c0 : Nat) (σ : Sg) (a2 : Int32) : Option (Unit × Sg) :=
  (f_X0_weighNeeds_l2 c0 300 σ a2 (0 : Int32))
def f_X0_pullOf (c0 : Nat) (σ : Sg) (a2 : Int32) : Option (Int32 × Sg) :=
  gd (inB a2 8) ((if (σ 6 (a2).toNatClampNeg) = 0 then gd (inB a2 8) (gd (inB a2 8) (some (((σ (c0 + 2) (a2).toNatClampNeg) - ((σ 9 (a2).toNatClampNeg) / (2 : Int32))), σ))) else (if (σ 6 (a2).toNatClampNeg) = 1 then gd (inB a2 8) (gd (inB a2 8) (some (((σ (c0 + 2) (a2).toNatClampNeg) - (σ 9 (a2).toNatClampNeg)), σ))) else gd (inB a2 8) (some ((σ (c0 + 3) (a2).toNatClampNeg), σ)))))
def f_X0_strongestIn_b116 (c0 : Nat) (k8 : Sg → Int32 → Int32 → Int32 → Int32 → Option (Int32 × Sg)) (σ : Sg) (x2 : Int32) (x3 : Int32) (x4 : Int32) (x5 : Int32) : Option (Int32 × Sg) :=
  amlet (x5 + (1 : Int32)) (fun v1 => (k8 σ x2 x3 x4 v1))
def f_X0_strongestIn_b102 (c0 : Nat) (k8 : Sg → Int32 → Int32 → Int32 → Int32 → Option (Int32 × Sg)) (σ : Sg) (x2 : Int32) (x3 : Int32) (x4 : Int32) (x5 : Int32) (x6 : Int32) (s0 : Int32) : Option (Int32 × Sg) :=
  (if s0 = 0 then (f_X0_strongestIn_b116 c0 k8 σ x2 x3 x4 x5) else (f_X0_strongestIn_b116 c0 k8 σ x2 x5 x6 x5))
def f_X0_strongestIn_b97 (c0 : Nat) (k8 : Sg → Int32 → Int32 → Int32 → Int32 → Option (Int32 × Sg)) (σ : Sg) (x2 : Int32) (x3 : Int32) (x4 : Int32) (x5 : Int32) (x6 : Int32) : Option (Int32 × Sg) :=
  (f_X0_strongestIn_b102 c0 k8 σ x2 x3 x4 x5 x6 (1 : Int32))
def f_X0_strongestIn_b101 (c0 : Nat) (k8 : Sg → Int32 → Int32 → Int32 → Int32 → Option (Int32 × Sg)) (σ : Sg) (x2 : Int32) (x3 : Int32) (x4 : Int32) (x5 : Int32) (x6 : Int32) : Option (Int32 × Sg) :=
  (f_X0_strongestIn_b102 c0 k8 σ x2 x3 x4 x5 x6 (0 : Int32))
def f_X0_strongestIn_b8 (c0 : Nat) (k8 : Sg → Int32 → Int32 → Int32 → Int32 → Option (Int32 × Sg)) (σ : Sg) (x2 : Int32) (x3 : Int32) (x4 : Int32) (x5 : Int32) : Option (Int32 × Sg) :=
  (if (σ 5 1) ≤ x5 then some (x3, σ) else gd (inB x5 8) ((if (σ 8 (x5).toNatClampNeg) = x2 then (if (((σ c0 8) >>> (x5 &&& 31)) &&& (1 : Int32)) = 0 then bnd (f_X0_pullOf c0 σ x5) (fun r1 σ2 => (if x3 = (-1 : Int32) then (if r1 < 0 then (f_X0_strongestIn_b102 c0 k8 σ2 x2 x3 x4 x5 r1 (0 : Int32)) else (f_X0_strongestIn_b102 c0 k8 σ2 x2 x3 x4 x5 r1 (1 : Int32))) else (if x4 < r1 then (f_X0_strongestIn_b97 c0 k8 σ2 x2 x3 x4 x5 r1) else (if r1 = x4 then gd (inB x5 8) (gd (inB x3 8) ((if (σ2 7 (x3).toNatClampNeg) ≤ (σ2 7 (x5).toNatClampNeg) then (f_X0_strongestIn_b101 c0 k8 σ2 x2 x3 x4 x5 r1) else (f_X0_strongestIn_b97 c0 k8 σ2 x2 x3 x4 x5 r1)))) else (f_X0_strongestIn_b101 c0 k8 σ2 x2 x3 x4 x5 r1))))) else (f_X0_strongestIn_b116 c0 k8 σ x2 x3 x4 x5)) else (f_X0_strongestIn_b116 c0 k8 σ x2 x3 x4 x5))))
def f_X0_strongestIn_l8 (c0 : Nat) (n : Nat) : Sg → Int32 → Int32 → Int32 → Int32 → Option (Int32 × Sg) := am_rec (fun _ _ _ _ _ => none) (fun k => f_X0_strongestIn_b8 c0 k) n
def f_X0_strongestIn (c0 : Nat) (σ : Sg) (a2 : Int32) : Option (Int32 × Sg) :=
  (f_X0_strongestIn_l8 c0 300 σ a2 (-1 : Int32) (0 : Int32) (0 : Int32))
def f_X0_bringUp_b142 (c0 : Nat) (k92 : Sg → Int32 → Int32 → Int32 → Option (Unit × Sg)) (σ : Sg) (x1 : Int32) (x3 : Int32) (x4 : Int32) : Option (Unit × Sg) :=
  amlet (x4 + (1 : Int32)) (fun v1 => (k92 σ x1 x3 v1))
def f_X0_bringUp_b92 (c0 : Nat) (k92 : Sg → Int32 → Int32 → Int32 → Option (Unit × Sg)) (σ : Sg) (x1 : Int32) (x3 : Int32) (x4 : Int32) : Option (Unit × Sg) :=
  (if (σ 10 1) ≤ x4 then some ((), σ) else gd (inB x4 8) ((if (σ 11 (x4).toNatClampNeg) = x1 then gd (inB x4 8) ((if (σ (c0 + 1) (x4).toNatClampNeg) = (-1 : Int32) then gd (inB x4 8) ((if x3 < (σ 12 (x4).toNatClampNeg) then (f_X0_bringUp_b142 c0 k92 σ x1 x3 x4) else gd (inB x4 8) (amlet (up2 σ (c0 + 1) (x4).toNatClampNeg x3) (fun σ1 => (f_X0_bringUp_b142 c0 k92 σ1 x1 x3 x4))))) else (f_X0_bringUp_b142 c0 k92 σ x1 x3 x4))) else (f_X0_bringUp_b142 c0 k92 σ x1 x3 x4))))
def f_X0_bringUp_l92 (c0 : Nat) (n : Nat) : Sg → Int32 → Int32 → Int32 → Option (Unit × Sg) := am_rec (fun _ _ _ _ => none) (fun k => f_X0_bringUp_b92 c0 k) n
def f_X0_bringUp_b89 (c0 : Nat) (σ : Sg) (x1 : Int32) (x3 : Int32) : Option (Unit × Sg) :=
  (f_X0_bringUp_l92 c0 300 σ x1 x3 (0 : Int32))
def f_X0_bringUp (c0 : Nat) (σ : Sg) (a1 : Int32) (a3 : Int32) : Option (Unit × Sg) :=
  (if a1 = (-1 : Int32) then some ((), σ) else (if (σ c0 6) < (9 : Int32) then amlet (up2 σ c0 8 ((σ c0 8) ||| ((1 : Int32) <<< (a1 &&& 31)))) (fun σ1 => gd (inB a1 8) (gd (inB a1 8) (amlet (up2 σ1 (c0 + 3) (a1).toNatClampNeg ((σ1 (c0 + 3) (a1).toNatClampNeg) + (1 : Int32))) (fun σ2 => gd (inB (σ2 c0 6) 9) (amlet (up2 σ2 (c0 + 5) ((σ2 c0 6)).toNatClampNeg a3) (fun σ3 => gd (inB (σ3 c0 6) 9) (amlet (up2 σ3 (c0 + 6) ((σ3 c0 6)).toNatClampNeg a1) (fun σ4 => amlet (up2 σ4 c0 6 ((σ4 c0 6) + (1 : Int32))) (fun σ5 => gd (inB a1 8) ((if (σ5 (c0 + 2) (a1).toNatClampNeg) = 0 then amlet (up2 σ5 c0 7 ((σ5 c0 7) + (1 : Int32))) (fun σ6 => (f_X0_bringUp_b89 c0 σ6 a1 a3)) else (f_X0_bringUp_b89 c0 σ5 a1 a3)))))))))))) else some ((), σ)))
def f_X0_layDown_b34 (c0 : Nat) (k2 : Sg → Int32 → Int32 → Option (Unit × Sg)) (σ : Sg) (x2 : Int32) (x3 : Int32) : Option (Unit × Sg) :=
  amlet (x3 + (1 : Int32)) (fun v1 => (k2 σ x2 v1))
def f_X0_layDown_b2 (c0 : Nat) (k2 : Sg → Int32 → Int32 → Option (Unit × Sg)) (σ : Sg) (x2 : Int32) (x3 : Int32) : Option (Unit × Sg) :=
  (if (σ 5 1) ≤ x3 then some ((), σ) else gd (inB x3 8) ((if (σ 8 (x3).toNatClampNeg) = x2 then amlet (up2 σ c0 8 ((σ c0 8) &&& (((1 : Int32) <<< (x3 &&& 31)) ^^^ (-1 : Int32)))) (fun σ1 => (f_X0_layDown_b34 c0 k2 σ1 x2 x3)) else (f_X0_layDown_b34 c0 k2 σ x2 x3))))
def f_X0_layDown_l2 (c0 : Nat) (n : Nat) : Sg → Int32 → Int32 → Option (Unit × Sg) := am_rec (fun _ _ _ => none) (fun k => f_X0_layDown_b2 c0 k) n
def f_X0_layDown (c0 : Nat) (σ : Sg) (a2 : Int32) : Option (Unit × Sg) :=
  (f_X0_layDown_l2 c0 300 σ a2 (0 : Int32))
def f_X0_run_b108 (c0 : Nat) (c3 : Nat) (k7 : Sg → Int32 → Int32 → Option (Unit × Sg)) (σ : Sg) (x4 : Int32) (x5 : Int32) : Option (Unit × Sg) :=
  amlet (x5 + (1 : Int32)) (fun v1 => (k7 σ x4 v1))
def f_X0_run_b7 (c0 : Nat) (c3 : Nat) (k7 : Sg → Int32 → Int32 → Option (Unit × Sg)) (σ : Sg) (x4 : Int32) (x5 : Int32) : Option (Unit × Sg) :=
  (if (σ c3 4) ≤ x5 then bnd (f_X0_endNightsTo c0 σ (24 : Int32)) (fun _ σ2 => some ((), σ2)) else gd (inB x5 9) (amlet (σ (c3 + 4) (x5).toNatClampNeg) (fun v4 => (if ((x4 >>> (v4 &&& 31)) &&& (1 : Int32)) = 0 then (f_X0_run_b108 c0 c3 k7 σ x4 x5) else gd (inB v4 9) (bnd (f_X0_endNightsTo c0 σ (σ (c3 + 2) (v4).toNatClampNeg)) (fun _ σ6 => gd (inB v4 9) ((if (σ6 (c3 + 1) (v4).toNatClampNeg) = (1 : Int32) then gd (inB v4 9) (bnd (f_X0_layDown c0 σ6 (σ6 (c3 + 3) (v4).toNatClampNeg)) (fun _ σ17 => (f_X0_run_b108 c0 c3 k7 σ17 x4 x5))) else gd (inB v4 9) (bnd (f_X0_weighNeeds c0 σ6 (σ6 (c3 + 2) (v4).toNatClampNeg)) (fun _ σ8 => gd (inB v4 9) (bnd (f_X0_strongestIn c0 σ8 (σ8 (c3 + 3) (v4).toNatClampNeg)) (fun r9 σ10 => gd (inB v4 9) (bnd (f_X0_bringUp c0 σ10 r9 (σ10 (c3 + 2) (v4).toNatClampNeg)) (fun _ σ12 => (f_X0_run_b108 c0 c3 k7 σ12 x4 x5)))))))))))))))
def f_X0_run_l7 (c0 : Nat) (c3 : Nat) (n : Nat) : Sg → Int32 → Int32 → Option (Unit × Sg) := am_rec (fun _ _ _ => none) (fun k => f_X0_run_b7 c0 c3 k) n
def f_X0_run (c0 : Nat) (c3 : Nat) (σ : Sg) (a4 : Int32) : Option (Unit × Sg) :=
  bnd (f_X0_startAnew c0 σ) (fun _ σ2 => (f_X0_run_l7 c0 c3 300 σ2 a4 (0 : Int32)))
def f_X9_asTold_b32 (σ : Sg) : Option (Nat × Sg) :=
  some (28, σ)
def f_X9_asTold (σ : Sg) : Option (Nat × Sg) :=
  (if (σ 0 12) = 0 then (f_X9_asTold_b32 σ) else bnd (f_X0_run 28 14 σ (-1 : Int32)) (fun _ σ2 => amlet (up2 σ2 0 12 (0 : Int32)) (fun σ3 => (f_X9_asTold_b32 σ3))))
def f_X0_isUp (c0 : Nat) (σ : Sg) (a1 : Int32) (a2 : Int32) : Option (Int32 × Sg) :=
  gd (inB a1 24) ((if (((σ (c0 + 4) (a1).toNatClampNeg) >>> (a2 &&& 31)) &&& (1 : Int32)) = 0 then some ((0 : Int32), σ) else some ((1 : Int32), σ)))
def f_X0_isOpenBehind_b30 (c0 : Nat) (σ : Sg) : Option (Int32 × Sg) :=
  some ((1 : Int32), σ)
def f_X0_isOpenBehind (c0 : Nat) (σ : Sg) (a2 : Int32) (a3 : Int32) : Option (Int32 × Sg) :=
  gd (inB a2 8) ((if a3 < (σ 12 (a2).toNatClampNeg) then some ((0 : Int32), σ) else gd (inB a2 8) ((if (σ (c0 + 1) (a2).toNatClampNeg) = (-1 : Int32) then (f_X0_isOpenBehind_b30 c0 σ) else gd (inB a2 8) ((if (σ (c0 + 1) (a2).toNatClampNeg) ≤ a3 then some ((0 : Int32), σ) else (f_X0_isOpenBehind_b30 c0 σ)))))))
def f_X0_wantedBehind_b49 (c0 : Nat) (k6 : Sg → Int32 → Int32 → Int32 → Int32 → Option (Int32 × Sg)) (σ : Sg) (x2 : Int32) (x3 : Int32) (x4 : Int32) (x5 : Int32) : Option (Int32 × Sg) :=
  amlet (x5 + (1 : Int32)) (fun v1 => (k6 σ x2 x3 x4 v1))
def f_X0_wantedBehind_b6 (c0 : Nat) (k6 : Sg → Int32 → Int32 → Int32 → Int32 → Option (Int32 × Sg)) (σ : Sg) (x2 : Int32) (x3 : Int32) (x4 : Int32) (x5 : Int32) : Option (Int32 × Sg) :=
  (if (σ 10 1) ≤ x5 then some (x4, σ) else gd (inB x5 8) ((if (σ 11 (x5).toNatClampNeg) = x3 then bnd (f_X0_isOpenBehind c0 σ x5 x2) (fun r1 σ2 => (if r1 = 0 then (f_X0_wantedBehind_b49 c0 k6 σ2 x2 x3 x4 x5) else bnd (f_X4_weightOn σ2 x5 x2) (fun r3 σ4 => amlet (x4 + r3) (fun v5 => (f_X0_wantedBehind_b49 c0 k6 σ4 x2 x3 v5 x5))))) else (f_X0_wantedBehind_b49 c0 k6 σ x2 x3 x4 x5))))
def f_X0_wantedBehind_l6 (c0 : Nat) (n : Nat) : Sg → Int32 → Int32 → Int32 → Int32 → Option (Int32 × Sg) := am_rec (fun _ _ _ _ _ => none) (fun k => f_X0_wantedBehind_b6 c0 k) n
def f_X0_wantedBehind (c0 : Nat) (σ : Sg) (a2 : Int32) (a3 : Int32) : Option (Int32 × Sg) :=
  (f_X0_wantedBehind_l6 c0 300 σ a2 a3 (0 : Int32) (0 : Int32))
def f_X0_timesUpBy_b39 (c0 : Nat) (k5 : Sg → Int32 → Int32 → Int32 → Int32 → Option (Int32 × Sg)) (σ : Sg) (x1 : Int32) (x2 : Int32) (x3 : Int32) (x4 : Int32) : Option (Int32 × Sg) :=
  amlet (x4 + (1 : Int32)) (fun v1 => (k5 σ x1 x2 x3 v1))
def f_X0_timesUpBy_b5 (c0 : Nat) (k5 : Sg → Int32 → Int32 → Int32 → Int32 → Option (Int32 × Sg)) (σ : Sg) (x1 : Int32) (x2 : Int32) (x3 : Int32) (x4 : Int32) : Option (Int32 × Sg) :=
  (if (σ c0 6) ≤ x4 then some (x3, σ) else gd (inB x4 9) ((if (σ (c0 + 6) (x4).toNatClampNeg) = x2 then gd (inB x4 9) ((if x1 < (σ (c0 + 5) (x4).toNatClampNeg) then (f_X0_timesUpBy_b39 c0 k5 σ x1 x2 x3 x4) else amlet (x3 + (1 : Int32)) (fun v1 => (f_X0_timesUpBy_b39 c0 k5 σ x1 x2 v1 x4)))) else (f_X0_timesUpBy_b39 c0 k5 σ x1 x2 x3 x4))))
def f_X0_timesUpBy_l5 (c0 : Nat) (n : Nat) : Sg → Int32 → Int32 → Int32 → Int32 → Option (Int32 × Sg) := am_rec (fun _ _ _ _ _ => none) (fun k => f_X0_timesUpBy_b5 c0 k) n
def f_X0_timesUpBy (c0 : Nat) (σ : Sg) (a1 : Int32) (a2 : Int32) : Option (Int32 × Sg) :=
  (f_X0_timesUpBy_l5 c0 300 σ a1 a2 (0 : Int32) (0 : Int32))
def f_X9_at (σ : Sg) (a1 : Int32) (a2 : Int32) (a3 : Int32) : Option (Int32 × Sg) :=
  bnd (f_X9_isBelow σ a1 (24 : Int32)) (fun r1 σ2 => (if r1 = 0 then some ((-2 : Int32), σ2) else bnd (f_X9_isBelow σ2 a2 (σ2 5 1)) (fun r3 σ4 => (if r3 = 0 then some ((-2 : Int32), σ4) else bnd (f_X9_isBelow σ4 a3 (3 : Int32)) (fun r5 σ6 => (if r5 = 0 then some ((-2 : Int32), σ6) else bnd (f_X9_asTold σ6) (fun r7 σ8 => gd (decide (r7 = 28)) ((if a3 = 0 then bnd (f_X0_isUp 28 σ8 a1 a2) (fun r9 σ10 => (if r9 = 0 then some ((0 : Int32), σ10) else some ((1 : Int32), σ10))) else (if a3 = 1 then bnd (f_X0_wantedBehind 28 σ8 a1 a2) (fun r12 σ13 => some (r12, σ13)) else bnd (f_X0_timesUpBy 28 σ8 a1 a2) (fun r15 σ16 => some (r15, σ16))))))))))))
def f_X9_field_b93 (k39 : Sg → Int32 → Int32 → Int32 → Int32 → Option (Int32 × Sg)) (σ : Sg) (x1 : Int32) (x2 : Int32) (x3 : Int32) (x5 : Int32) : Option (Int32 × Sg) :=
  amlet (x5 + (1 : Int32)) (fun v1 => (k39 σ x1 x2 x3 v1))
def f_X9_field_b39 (k39 : Sg → Int32 → Int32 → Int32 → Int32 → Option (Int32 × Sg)) (σ : Sg) (x1 : Int32) (x2 : Int32) (x3 : Int32) (x5 : Int32) : Option (Int32 × Sg) :=
  (if (σ 5 1) ≤ x5 then some ((-1 : Int32), σ) else gd (inB x5 8) ((if (σ 7 (x5).toNatClampNeg) = x2 then gd (inB x5 8) ((if (σ 8 (x5).toNatClampNeg) = x3 then bnd (f_X0_isUp 28 σ x1 x5) (fun r1 σ2 => (if r1 = 0 then (f_X9_field_b93 k39 σ2 x1 x2 x3 x5) else some (x5, σ2))) else (f_X9_field_b93 k39 σ x1 x2 x3 x5))) else (f_X9_field_b93 k39 σ x1 x2 x3 x5))))
def f_X9_field_l39 (n : Nat) : Sg → Int32 → Int32 → Int32 → Int32 → Option (Int32 × Sg) := am_rec (fun _ _ _ _ _ => none) (fun k => f_X9_field_b39 k) n
def f_X9_field (σ : Sg) (a1 : Int32) (a2 : Int32) (a3 : Int32) : Option (Int32 × Sg) :=
  bnd (f_X9_isBelow σ a1 (24 : Int32)) (fun r1 σ2 => (if r1 = 0 then some ((-2 : Int32), σ2) else bnd (f_X9_isBelow σ2 a2 (6 : Int32)) (fun r3 σ4 => (if r3 = 0 then some ((-2 : Int32), σ4) else bnd (f_X9_isBelow σ4 a3 (6 : Int32)) (fun r5 σ6 => (if r5 = 0 then some ((-2 : Int32), σ6) else bnd (f_X9_asTold σ6) (fun r7 σ8 => gd (decide (r7 = 28)) ((f_X9_field_l39 300 σ8 a1 a2 a3 (0 : Int32))))))))))
def f_X0_openBehind_b28 (c0 : Nat) (k5 : Sg → Int32 → Int32 → Int32 → Option (Int32 × Sg)) (σ : Sg) (x2 : Int32) (x3 : Int32) (x4 : Int32) : Option (Int32 × Sg) :=
  amlet (x4 + (1 : Int32)) (fun v1 => (k5 σ x2 x3 v1))
def f_X0_openBehind_b5 (c0 : Nat) (k5 : Sg → Int32 → Int32 → Int32 → Option (Int32 × Sg)) (σ : Sg) (x2 : Int32) (x3 : Int32) (x4 : Int32) : Option (Int32 × Sg) :=
  (if (σ 10 1) ≤ x4 then some (x3, σ) else bnd (f_X0_isOpenBehind c0 σ x4 x2) (fun r1 σ2 => (if r1 = 0 then (f_X0_openBehind_b28 c0 k5 σ2 x2 x3 x4) else amlet (x3 + (1 : Int32)) (fun v3 => (f_X0_openBehind_b28 c0 k5 σ2 x2 v3 x4)))))
def f_X0_openBehind_l5 (c0 : Nat) (n : Nat) : Sg → Int32 → Int32 → Int32 → Option (Int32 × Sg) := am_rec (fun _ _ _ _ => none) (fun k => f_X0_openBehind_b5 c0 k) n
def f_X0_openBehind (c0 : Nat) (σ : Sg) (a2 : Int32) : Option (Int32 × Sg) :=
  (f_X0_openBehind_l5 c0 300 σ a2 (0 : Int32) (0 : Int32))
def f_J6_bitCount_0f7a4 (σ : Sg) (a0 : Int32) : Option (Int32 × Sg) :=
  amlet (a0 - ((am_ushr a0 (1 : Int32)) &&& (1431655765 : Int32))) (fun v1 => amlet ((v1 &&& (858993459 : Int32)) + ((am_ushr v1 (2 : Int32)) &&& (858993459 : Int32))) (fun v2 => amlet ((v2 + (am_ushr v2 (4 : Int32))) &&& (252645135 : Int32)) (fun v3 => amlet (v3 + (am_ushr v3 (8 : Int32))) (fun v4 => amlet (v4 + (am_ushr v4 (16 : Int32))) (fun v5 => some ((v5 &&& (63 : Int32)), σ))))))
def f_X9_up (σ : Sg) (a1 : Int32) (a2 : Int32) : Option (Int32 × Sg) :=
  bnd (f_X9_isBelow σ a1 (24 : Int32)) (fun r1 σ2 => (if r1 = 0 then some ((-2 : Int32), σ2) else bnd (f_X9_isBelow σ2 a2 (2 : Int32)) (fun r3 σ4 => (if r3 = 0 then some ((-2 : Int32), σ4) else bnd (f_X9_asTold σ4) (fun r5 σ6 => gd (decide (r5 = 28)) ((if a2 = 0 then gd (inB a1 24) (bnd (f_J6_bitCount_0f7a4 σ6 (σ6 32 (a1).toNatClampNeg)) (fun r10 σ11 => some (r10, σ11))) else bnd (f_X0_openBehind 28 σ6 a1) (fun r7 σ8 => some (r7, σ8)))))))))
def f_X9_met (σ : Sg) (a1 : Int32) : Option (Int32 × Sg) :=
  bnd (f_X9_isBelow σ a1 (σ 10 1)) (fun r1 σ2 => (if r1 = 0 then some ((-2 : Int32), σ2) else bnd (f_X9_asTold σ2) (fun r3 σ4 => gd (decide (r3 = 28)) (gd (inB a1 8) (some ((σ4 29 (a1).toNatClampNeg), σ4))))))
def f_X0_nightsUp_b22 (c0 : Nat) (k4 : Sg → Int32 → Int32 → Int32 → Option (Int32 × Sg)) (σ : Sg) (x1 : Int32) (x2 : Int32) (x3 : Int32) : Option (Int32 × Sg) :=
  amlet (x3 + (1 : Int32)) (fun v1 => (k4 σ x1 x2 v1))
def f_X0_nightsUp_b4 (c0 : Nat) (k4 : Sg → Int32 → Int32 → Int32 → Option (Int32 × Sg)) (σ : Sg) (x1 : Int32) (x2 : Int32) (x3 : Int32) : Option (Int32 × Sg) :=
  (if (24 : Int32) ≤ x3 then some (x2, σ) else bnd (f_X0_isUp c0 σ x3 x1) (fun r1 σ2 => (if r1 = 0 then (f_X0_nightsUp_b22 c0 k4 σ2 x1 x2 x3) else amlet (x2 + (1 : Int32)) (fun v3 => (f_X0_nightsUp_b22 c0 k4 σ2 x1 v3 x3)))))
def f_X0_nightsUp_l4 (c0 : Nat) (n : Nat) : Sg → Int32 → Int32 → Int32 → Option (Int32 × Sg) := am_rec (fun _ _ _ _ => none) (fun k => f_X0_nightsUp_b4 c0 k) n
def f_X0_nightsUp (c0 : Nat) (σ : Sg) (a1 : Int32) : Option (Int32 × Sg) :=
  (f_X0_nightsUp_l4 c0 300 σ a1 (0 : Int32) (0 : Int32))
def f_X9_stood (σ : Sg) (a1 : Int32) : Option (Int32 × Sg) :=
  bnd (f_X9_isBelow σ a1 (σ 5 1)) (fun r1 σ2 => (if r1 = 0 then some ((-2 : Int32), σ2) else bnd (f_X9_asTold σ2) (fun r3 σ4 => gd (decide (r3 = 28)) (bnd (f_X0_nightsUp 28 σ4 a1) (fun r5 σ6 => some (r5, σ6))))))
def f_X9_wrongly (σ : Sg) : Option (Int32 × Sg) :=
  bnd (f_X9_asTold σ) (fun r1 σ2 => gd (decide (r1 = 28)) (some ((σ2 28 7), σ2)))
def f_X9_first (σ : Sg) (a1 : Int32) : Option (Int32 × Sg) :=
  bnd (f_X9_isBelow σ a1 (2 : Int32)) (fun r1 σ2 => (if r1 = 0 then some ((-2 : Int32), σ2) else bnd (f_X9_asTold σ2) (fun r3 σ4 => gd (decide (r3 = 28)) ((if (σ4 28 6) = 0 then some ((-1 : Int32), σ4) else (if a1 = 0 then gd (inB (0 : Int32) 9) (some ((σ4 33 ((0 : Int32)).toNatClampNeg), σ4)) else gd (inB (0 : Int32) 9) (some ((σ4 34 ((0 : Int32)).toNatClampNeg), σ4))))))))
def f_X9_gate_b46 (k12 : Sg → Int32 → Int32 → Int32 → Option (Int32 × Sg)) (σ : Sg) (x2 : Int32) (x3 : Int32) (x4 : Int32) : Option (Int32 × Sg) :=
  amlet (x4 + (1 : Int32)) (fun v1 => (k12 σ x2 x3 v1))
def f_X9_gate_b12 (k12 : Sg → Int32 → Int32 → Int32 → Option (Int32 × Sg)) (σ : Sg) (x2 : Int32) (x3 : Int32) (x4 : Int32) : Option (Int32 × Sg) :=
  (if (σ 5 1) ≤ x4 then some (x2, σ) else gd (inB x4 8) ((if (σ 31 (x4).toNatClampNeg) ≤ x3 then (f_X9_gate_b46 k12 σ x2 x3 x4) else gd (inB x4 8) (amlet (σ 31 (x4).toNatClampNeg) (fun v1 => (f_X9_gate_b46 k12 σ x4 v1 x4))))))
def f_X9_gate_l12 (n : Nat) : Sg → Int32 → Int32 → Int32 → Option (Int32 × Sg) := am_rec (fun _ _ _ _ => none) (fun k => f_X9_gate_b12 k) n
def f_X9_gate (σ : Sg) : Option (Int32 × Sg) :=
  bnd (f_X9_asTold σ) (fun r1 σ2 => gd (decide (r1 = 28)) ((f_X9_gate_l12 300 σ2 (-1 : Int32) (0 : Int32) (0 : Int32))))
def f_X9_rest_b35 (k9 : Sg → Int32 → Int32 → Option (Int32 × Sg)) (σ : Sg) (x2 : Int32) (x3 : Int32) : Option (Int32 × Sg) :=
  amlet (x3 + (1 : Int32)) (fun v1 => (k9 σ x2 v1))
def f_X9_rest_b9 (k9 : Sg → Int32 → Int32 → Option (Int32 × Sg)) (σ : Sg) (x2 : Int32) (x3 : Int32) : Option (Int32 × Sg) :=
  (if (σ 5 1) ≤ x3 then some (x2, σ) else gd (inB x3 8) ((if (σ 31 (x3).toNatClampNeg) = 0 then amlet (x2 ||| ((1 : Int32) <<< (x3 &&& 31))) (fun v1 => (f_X9_rest_b35 k9 σ v1 x3)) else (f_X9_rest_b35 k9 σ x2 x3))))
def f_X9_rest_l9 (n : Nat) : Sg → Int32 → Int32 → Option (Int32 × Sg) := am_rec (fun _ _ _ => none) (fun k => f_X9_rest_b9 k) n
def f_X9_rest (σ : Sg) : Option (Int32 × Sg) :=
  bnd (f_X9_asTold σ) (fun r1 σ2 => gd (decide (r1 = 28)) ((f_X9_rest_l9 300 σ2 (0 : Int32) (0 : Int32))))
def f_X0_howManyMet_b25 (c0 : Nat) (k4 : Sg → Int32 → Int32 → Option (Int32 × Sg)) (σ : Sg) (x2 : Int32) (x3 : Int32) : Option (Int32 × Sg) :=
  amlet (x3 + (1 : Int32)) (fun v1 => (k4 σ x2 v1))
def f_X0_howManyMet_b4 (c0 : Nat) (k4 : Sg → Int32 → Int32 → Option (Int32 × Sg)) (σ : Sg) (x2 : Int32) (x3 : Int32) : Option (Int32 × Sg) :=
  (if (σ 10 1) ≤ x3 then some (x2, σ) else gd (inB x3 8) ((if (σ (c0 + 1) (x3).toNatClampNeg) = (-1 : Int32) then (f_X0_howManyMet_b25 c0 k4 σ x2 x3) else amlet (x2 + (1 : Int32)) (fun v1 => (f_X0_howManyMet_b25 c0 k4 σ v1 x3)))))
def f_X0_howManyMet_l4 (c0 : Nat) (n : Nat) : Sg → Int32 → Int32 → Option (Int32 × Sg) := am_rec (fun _ _ _ => none) (fun k => f_X0_howManyMet_b4 c0 k) n
def f_X0_howManyMet (c0 : Nat) (σ : Sg) : Option (Int32 × Sg) :=
  (f_X0_howManyMet_l4 c0 300 σ (0 : Int32) (0 : Int32))
def f_X9_metWithPlough (σ : Sg) (a1 : Int32) (a2 : Int32) : Option (Int32 × Sg) :=
  bnd (f_X1_add 14 σ (0 : Int32) a1 a2) (fun _ σ2 => bnd (f_X0_run 35 14 σ2 (-1 : Int32)) (fun _ σ4 => bnd (f_X1_dropLast 14 σ4) (fun _ σ6 => bnd (f_X0_howManyMet 35 σ6) (fun r7 σ8 => some (r7, σ8)))))
def f_X9_bestFurrow_b35 (k7 : Sg → Int32 → Int32 → Int32 → Int32 → Option (Int32 × Sg)) (σ : Sg) (x1 : Int32) (x2 : Int32) (x3 : Int32) (x4 : Int32) : Option (Int32 × Sg) :=
  amlet (x4 + (1 : Int32)) (fun v1 => (k7 σ x1 x2 x3 v1))
def f_X9_bestFurrow_b7 (k7 : Sg → Int32 → Int32 → Int32 → Int32 → Option (Int32 × Sg)) (σ : Sg) (x1 : Int32) (x2 : Int32) (x3 : Int32) (x4 : Int32) : Option (Int32 × Sg) :=
  (if (6 : Int32) ≤ x4 then some (x2, σ) else bnd (f_X9_metWithPlough σ x1 x4) (fun r1 σ2 => (if r1 ≤ x3 then (f_X9_bestFurrow_b35 k7 σ2 x1 x2 x3 x4) else (f_X9_bestFurrow_b35 k7 σ2 x1 x4 r1 x4))))
def f_X9_bestFurrow_l7 (n : Nat) : Sg → Int32 → Int32 → Int32 → Int32 → Option (Int32 × Sg) := am_rec (fun _ _ _ _ _ => none) (fun k => f_X9_bestFurrow_b7 k) n
def f_X9_bestFurrow (σ : Sg) (a1 : Int32) : Option (Int32 × Sg) :=
  (f_X9_bestFurrow_l7 300 σ a1 (0 : Int32) (-1 : Int32) (0 : Int32))
def f_X9_plough (σ : Sg) (a1 : Int32) (a2 : Int32) : Option (Int32 × Sg) :=
  bnd (f_X9_isBelow σ a1 (24 : Int32)) (fun r1 σ2 => (if r1 = 0 then some ((-2 : Int32), σ2) else bnd (f_X9_isBelow σ2 a2 (2 : Int32)) (fun r3 σ4 => (if r3 = 0 then some ((-2 : Int32), σ4) else bnd (f_X9_bestFurrow σ4 a1) (fun r5 σ6 => (if a2 = 0 then some (r5, σ6) else bnd (f_X9_metWithPlough σ6 a1 r5) (fun r7 σ8 => some (r7, σ8))))))))
def f_X9_nightsUpFrom (σ : Sg) (a1 : Int32) (a2 : Int32) : Option (Int32 × Sg) :=
  gd (inB a1 8) (amlet (σ 7 (a1).toNatClampNeg) (fun v1 => gd (inB a1 8) (amlet (σ 8 (a1).toNatClampNeg) (fun v2 => gd (inB a1 8) (amlet (up2 σ 7 (a1).toNatClampNeg (a2 / (6 : Int32))) (fun σ3 => gd (inB a1 8) (amlet (up2 σ3 8 (a1).toNatClampNeg (a2 - a2 / (6 : Int32) * (6 : Int32))) (fun σ4 => bnd (f_X0_run 35 14 σ4 (-1 : Int32)) (fun _ σ6 => gd (inB a1 8) (amlet (up2 σ6 7 (a1).toNatClampNeg v1) (fun σ7 => gd (inB a1 8) (amlet (up2 σ7 8 (a1).toNatClampNeg v2) (fun σ8 => gd (inB a1 8) ((if (σ8 38 (a1).toNatClampNeg) = 0 then some ((-1 : Int32), σ8) else bnd (f_X0_nightsUp 35 σ8 a1) (fun r9 σ10 => some (r9, σ10)))))))))))))))))
def f_X9_bestCell_b70 (k8 : Sg → Int32 → Int32 → Int32 → Int32 → Option (Int32 × Sg)) (σ : Sg) (x1 : Int32) (x2 : Int32) (x3 : Int32) (x4 : Int32) : Option (Int32 × Sg) :=
  amlet (x4 + (1 : Int32)) (fun v1 => (k8 σ x1 x2 x3 v1))
def f_X9_bestCell_b8 (k8 : Sg → Int32 → Int32 → Int32 → Int32 → Option (Int32 × Sg)) (σ : Sg) (x1 : Int32) (x2 : Int32) (x3 : Int32) (x4 : Int32) : Option (Int32 × Sg) :=
  (if (36 : Int32) ≤ x4 then some (x2, σ) else bnd (f_X2_liesAnother σ (x4 / (6 : Int32)) (x4 - x4 / (6 : Int32) * (6 : Int32)) x1 (σ 5 1)) (fun r1 σ2 => (if r1 = 0 then bnd (f_X9_nightsUpFrom σ2 x1 x4) (fun r3 σ4 => (if r3 = (-1 : Int32) then (f_X9_bestCell_b70 k8 σ4 x1 x2 x3 x4) else (if x3 ≤ r3 then (f_X9_bestCell_b70 k8 σ4 x1 x2 x3 x4) else (f_X9_bestCell_b70 k8 σ4 x1 x4 r3 x4)))) else (f_X9_bestCell_b70 k8 σ2 x1 x2 x3 x4))))
def f_X9_bestCell_l8 (n : Nat) : Sg → Int32 → Int32 → Int32 → Int32 → Option (Int32 × Sg) := am_rec (fun _ _ _ _ _ => none) (fun k => f_X9_bestCell_b8 k) n
def f_X9_bestCell (σ : Sg) (a1 : Int32) : Option (Int32 × Sg) :=
  (f_X9_bestCell_l8 300 σ a1 (-1 : Int32) (25 : Int32) (0 : Int32))
def f_X9_tellCell (σ : Sg) (a1 : Int32) (a2 : Int32) (a3 : Int32) : Option (Int32 × Sg) :=
  (if a2 = (-1 : Int32) then some ((-1 : Int32), σ) else (if a3 = 0 then some ((a2 / (6 : Int32)), σ) else (if a3 = 1 then some ((a2 - a2 / (6 : Int32) * (6 : Int32)), σ) else bnd (f_X9_nightsUpFrom σ a1 a2) (fun r1 σ2 => some (r1, σ2)))))
def f_X9_lie (σ : Sg) (a1 : Int32) (a2 : Int32) : Option (Int32 × Sg) :=
  bnd (f_X9_isBelow σ a1 (σ 5 1)) (fun r1 σ2 => (if r1 = 0 then some ((-2 : Int32), σ2) else bnd (f_X9_isBelow σ2 a2 (3 : Int32)) (fun r3 σ4 => (if r3 = 0 then some ((-2 : Int32), σ4) else bnd (f_X9_bestCell σ4 a1) (fun r5 σ6 => bnd (f_X9_tellCell σ6 a1 r5 a2) (fun r7 σ8 => some (r7, σ8)))))))
def f_X9_bestNight_b35 (k7 : Sg → Int32 → Int32 → Int32 → Int32 → Option (Int32 × Sg)) (σ : Sg) (x1 : Int32) (x2 : Int32) (x3 : Int32) (x4 : Int32) : Option (Int32 × Sg) :=
  amlet (x4 + (1 : Int32)) (fun v1 => (k7 σ x1 x2 x3 v1))
def f_X9_bestNight_b7 (k7 : Sg → Int32 → Int32 → Int32 → Int32 → Option (Int32 × Sg)) (σ : Sg) (x1 : Int32) (x2 : Int32) (x3 : Int32) (x4 : Int32) : Option (Int32 × Sg) :=
  (if (24 : Int32) ≤ x4 then some (x2, σ) else bnd (f_X9_metWithPlough σ x4 x1) (fun r1 σ2 => (if r1 ≤ x3 then (f_X9_bestNight_b35 k7 σ2 x1 x2 x3 x4) else (f_X9_bestNight_b35 k7 σ2 x1 x4 r1 x4))))
def f_X9_bestNight_l7 (n : Nat) : Sg → Int32 → Int32 → Int32 → Int32 → Option (Int32 × Sg) := am_rec (fun _ _ _ _ _ => none) (fun k => f_X9_bestNight_b7 k) n
def f_X9_bestNight (σ : Sg) (a1 : Int32) : Option (Int32 × Sg) :=
  (f_X9_bestNight_l7 300 σ a1 (0 : Int32) (-1 : Int32) (0 : Int32))
def f_X9_when (σ : Sg) (a1 : Int32) (a2 : Int32) : Option (Int32 × Sg) :=
  bnd (f_X9_isBelow σ a1 (6 : Int32)) (fun r1 σ2 => (if r1 = 0 then some ((-2 : Int32), σ2) else bnd (f_X9_isBelow σ2 a2 (2 : Int32)) (fun r3 σ4 => (if r3 = 0 then some ((-2 : Int32), σ4) else bnd (f_X9_bestNight σ4 a1) (fun r5 σ6 => (if a2 = 0 then some (r5, σ6) else bnd (f_X9_metWithPlough σ6 r5 a1) (fun r7 σ8 => some (r7, σ8))))))))
def f_X9_isRightWithout (σ : Sg) (a1 : Int32) : Option (Int32 × Sg) :=
  bnd (f_X0_run 35 14 σ (a1 ^^^ (-1 : Int32))) (fun _ σ2 => (if (σ2 35 7) = 0 then some ((1 : Int32), σ2) else some ((0 : Int32), σ2)))
def f_X9_spareEvents_b60 (k45 : Sg → Int32 → Option (Int32 × Sg)) (k60 : Sg → Int32 → Int32 → Option (Int32 × Sg)) (σ : Sg) (x1 : Int32) (x2 : Int32) : Option (Int32 × Sg) :=
  (if (σ 14 4) ≤ x2 then amlet (x1 + (1 : Int32)) (fun v1 => (k45 σ v1)) else amlet (((1 : Int32) <<< (x1 &&& 31)) ||| ((1 : Int32) <<< (x2 &&& 31))) (fun v2 => bnd (f_X9_isRightWithout σ v2) (fun r3 σ4 => (if r3 = 0 then amlet (x2 + (1 : Int32)) (fun v5 => (k60 σ4 x1 v5)) else some (v2, σ4)))))
def f_X9_spareEvents_l60 (k45 : Sg → Int32 → Option (Int32 × Sg)) (n : Nat) : Sg → Int32 → Int32 → Option (Int32 × Sg) := am_rec (fun _ _ _ => none) (fun k => f_X9_spareEvents_b60 k45 k) n
def f_X9_spareEvents_b45 (k45 : Sg → Int32 → Option (Int32 × Sg)) (σ : Sg) (x1 : Int32) : Option (Int32 × Sg) :=
  (if (σ 14 4) ≤ x1 then some ((-1 : Int32), σ) else amlet (x1 + (1 : Int32)) (fun v1 => (f_X9_spareEvents_l60 k45 300 σ x1 v1)))
def f_X9_spareEvents_l45 (n : Nat) : Sg → Int32 → Option (Int32 × Sg) := am_rec (fun _ _ => none) (fun k => f_X9_spareEvents_b45 k) n
def f_X9_spareEvents_b12 (k12 : Sg → Int32 → Option (Int32 × Sg)) (σ : Sg) (x1 : Int32) : Option (Int32 × Sg) :=
  (if (σ 14 4) ≤ x1 then (f_X9_spareEvents_l45 300 σ (0 : Int32)) else bnd (f_X9_isRightWithout σ ((1 : Int32) <<< (x1 &&& 31))) (fun r1 σ2 => (if r1 = 0 then amlet (x1 + (1 : Int32)) (fun v3 => (k12 σ2 v3)) else some (((1 : Int32) <<< (x1 &&& 31)), σ2))))
def f_X9_spareEvents_l12 (n : Nat) : Sg → Int32 → Option (Int32 × Sg) := am_rec (fun _ _ => none) (fun k => f_X9_spareEvents_b12 k) n
def f_X9_spareEvents (σ : Sg) : Option (Int32 × Sg) :=
  bnd (f_X9_isRightWithout σ (0 : Int32)) (fun r1 σ2 => (if r1 = 0 then (f_X9_spareEvents_l12 300 σ2 (0 : Int32)) else some ((0 : Int32), σ2)))
def f_X9_placeOfBit_b28 (k4 : Sg → Int32 → Int32 → Int32 → Int32 → Option (Int32 × Sg)) (σ : Sg) (x0 : Int32) (x1 : Int32) (x2 : Int32) (x3 : Int32) : Option (Int32 × Sg) :=
  amlet (x3 + (1 : Int32)) (fun v1 => (k4 σ x0 x1 x2 v1))
def f_X9_placeOfBit_b4 (k4 : Sg → Int32 → Int32 → Int32 → Int32 → Option (Int32 × Sg)) (σ : Sg) (x0 : Int32) (x1 : Int32) (x2 : Int32) (x3 : Int32) : Option (Int32 × Sg) :=
  (if (8 : Int32) ≤ x3 then some ((-1 : Int32), σ) else (if ((x0 >>> (x3 &&& 31)) &&& (1 : Int32)) = 0 then (f_X9_placeOfBit_b28 k4 σ x0 x1 x2 x3) else (if x2 = x1 then some (x3, σ) else amlet (x2 + (1 : Int32)) (fun v1 => (f_X9_placeOfBit_b28 k4 σ x0 x1 v1 x3)))))
def f_X9_placeOfBit_l4 (n : Nat) : Sg → Int32 → Int32 → Int32 → Int32 → Option (Int32 × Sg) := am_rec (fun _ _ _ _ _ => none) (fun k => f_X9_placeOfBit_b4 k) n
def f_X9_placeOfBit (σ : Sg) (a0 : Int32) (a1 : Int32) : Option (Int32 × Sg) :=
  (f_X9_placeOfBit_l4 300 σ a0 a1 (0 : Int32) (0 : Int32))
def f_X9_spare_b16 (σ : Sg) (x1 : Int32) : Option (Int32 × Sg) :=
  bnd (f_X9_spareEvents σ) (fun r1 σ2 => (if r1 = (-1 : Int32) then some ((-1 : Int32), σ2) else (if x1 = (-1 : Int32) then bnd (f_J6_bitCount_0f7a4 σ2 r1) (fun r6 σ7 => some (r6, σ7)) else bnd (f_X9_placeOfBit σ2 r1 x1) (fun r3 σ4 => some (r3, σ4)))))
def f_X9_spare (σ : Sg) (a1 : Int32) : Option (Int32 × Sg) :=
  (if a1 = (-1 : Int32) then (f_X9_spare_b16 σ a1) else bnd (f_X9_isBelow σ a1 (2 : Int32)) (fun r1 σ2 => (if r1 = 0 then some ((-2 : Int32), σ2) else (f_X9_spare_b16 σ2 a1))))
def f_X7_add (σ : Sg) (a1 : Int32) (a2 : Int32) (a3 : Int32) : Option (Unit × Sg) :=
  (if (8 : Int32) ≤ (σ 24 3) then some ((), σ) else gd (inB (σ 24 3) 8) (amlet (up2 σ 25 ((σ 24 3)).toNatClampNeg a1) (fun σ1 => gd (inB (σ1 24 3) 8) (amlet (up2 σ1 26 ((σ1 24 3)).toNatClampNeg a2) (fun σ2 => gd (inB (σ2 24 3) 8) (amlet (up2 σ2 27 ((σ2 24 3)).toNatClampNeg a3) (fun σ3 => amlet (up2 σ3 24 3 ((σ3 24 3) + (1 : Int32))) (fun σ4 => some ((), σ4)))))))))
def f_X9_seen (σ : Sg) (a1 : Int32) (a2 : Int32) (a3 : Int32) : Option (Int32 × Sg) :=
  bnd (f_X9_isBelow σ a1 (24 : Int32)) (fun r1 σ2 => (if r1 = 0 then some ((-2 : Int32), σ2) else bnd (f_X9_isBelow σ2 a2 (8 : Int32)) (fun r3 σ4 => (if r3 = 0 then some ((-2 : Int32), σ4) else bnd (f_X9_isBelow σ4 a3 (2 : Int32)) (fun r5 σ6 => (if r5 = 0 then some ((-2 : Int32), σ6) else (if (σ6 24 3) < (8 : Int32) then bnd (f_X7_add σ6 a1 a2 a3) (fun _ σ8 => some ((σ8 24 3), σ8)) else some ((-4 : Int32), σ6))))))))
def f_X9_forget (σ : Sg) : Option (Int32 × Sg) :=
  amlet (σ 24 3) (fun v1 => amlet (up2 σ 24 3 (0 : Int32)) (fun σ2 => some (v1, σ2)))
def f_X7_fit_b59 (c1 : Nat) (k2 : Sg → Int32 → Int32 → Option (Int32 × Sg)) (σ : Sg) (x2 : Int32) (x3 : Int32) (s0 : Int32) : Option (Int32 × Sg) :=
  (if s0 = 0 then some ((0 : Int32), σ) else amlet (x3 + (1 : Int32)) (fun v1 => (k2 σ x2 v1)))
def f_X7_fit_b58 (c1 : Nat) (k2 : Sg → Int32 → Int32 → Option (Int32 × Sg)) (σ : Sg) (x2 : Int32) (x3 : Int32) : Option (Int32 × Sg) :=
  (f_X7_fit_b59 c1 k2 σ x2 x3 (0 : Int32))
def f_X7_fit_b51 (c1 : Nat) (k2 : Sg → Int32 → Int32 → Option (Int32 × Sg)) (σ : Sg) (x2 : Int32) (x3 : Int32) (s0 : Int32) (s1 : Int32) : Option (Int32 × Sg) :=
  (if s1 = s0 then (f_X7_fit_b59 c1 k2 σ x2 x3 (1 : Int32)) else (f_X7_fit_b58 c1 k2 σ x2 x3))
def f_X7_fit_b2 (c1 : Nat) (k2 : Sg → Int32 → Int32 → Option (Int32 × Sg)) (σ : Sg) (x2 : Int32) (x3 : Int32) : Option (Int32 × Sg) :=
  (if (σ 24 3) ≤ x3 then some ((1 : Int32), σ) else gd (inB x3 8) ((if x2 ≤ (σ 26 (x3).toNatClampNeg) then (f_X7_fit_b58 c1 k2 σ x2 x3) else gd (inB x3 8) (gd (inB x3 8) (bnd (f_X0_isUp c1 σ (σ 25 (x3).toNatClampNeg) (σ 26 (x3).toNatClampNeg)) (fun r1 σ2 => gd (inB x3 8) ((if (σ2 27 (x3).toNatClampNeg) = (1 : Int32) then (f_X7_fit_b51 c1 k2 σ2 x2 x3 (1 : Int32) r1) else (f_X7_fit_b51 c1 k2 σ2 x2 x3 (0 : Int32) r1)))))))))
def f_X7_fit_l2 (c1 : Nat) (n : Nat) : Sg → Int32 → Int32 → Option (Int32 × Sg) := am_rec (fun _ _ _ => none) (fun k => f_X7_fit_b2 c1 k) n
def f_X7_fit (c1 : Nat) (σ : Sg) (a2 : Int32) : Option (Int32 × Sg) :=
  (f_X7_fit_l2 c1 300 σ a2 (0 : Int32))
def f_X9_never_b66 (k4 : Sg → Int32 → Int32 → Option (Int32 × Sg)) (σ : Sg) (x1 : Int32) (x2 : Int32) : Option (Int32 × Sg) :=
  amlet (x2 + (1 : Int32)) (fun v1 => (k4 σ x1 v1))
def f_X9_never_b4 (k4 : Sg → Int32 → Int32 → Option (Int32 × Sg)) (σ : Sg) (x1 : Int32) (x2 : Int32) : Option (Int32 × Sg) :=
  (if (σ 14 4) ≤ x2 then some (x1, σ) else bnd (f_X0_run 35 14 σ (((1 : Int32) <<< (x2 &&& 31)) ^^^ (-1 : Int32))) (fun _ σ2 => bnd (f_X7_fit 35 σ2 (σ2 5 1)) (fun r3 σ4 => (if r3 = 0 then (f_X9_never_b66 k4 σ4 x1 x2) else amlet (x1 ||| ((1 : Int32) <<< (x2 &&& 31))) (fun v5 => (f_X9_never_b66 k4 σ4 v5 x2))))))
def f_X9_never_l4 (n : Nat) : Sg → Int32 → Int32 → Option (Int32 × Sg) := am_rec (fun _ _ _ => none) (fun k => f_X9_never_b4 k) n
def f_X9_never (σ : Sg) : Option (Int32 × Sg) :=
  (f_X9_never_l4 300 σ (0 : Int32) (0 : Int32))
def f_X9_fittingFars_b109 (k18 : Sg → Int32 → Int32 → Int32 → Int32 → Int32 → Option (Int32 × Sg)) (σ : Sg) (x1 : Int32) (x2 : Int32) (x3 : Int32) (x4 : Int32) (x5 : Int32) : Option (Int32 × Sg) :=
  amlet (x5 + (1 : Int32)) (fun v1 => (k18 σ x1 x2 x3 x4 v1))
def f_X9_fittingFars_b18 (k18 : Sg → Int32 → Int32 → Int32 → Int32 → Int32 → Option (Int32 × Sg)) (σ : Sg) (x1 : Int32) (x2 : Int32) (x3 : Int32) (x4 : Int32) (x5 : Int32) : Option (Int32 × Sg) :=
  (if (9 : Int32) < x5 then gd (inB x1 8) (amlet (up2 σ 9 (x1).toNatClampNeg x2) (fun σ1 => some (x3, σ1))) else gd (inB x1 8) (amlet (up2 σ 9 (x1).toNatClampNeg x5) (fun σ2 => bnd (f_X0_run 35 14 σ2 (-1 : Int32)) (fun _ σ4 => bnd (f_X7_fit 35 σ4 (σ4 5 1)) (fun r5 σ6 => (if r5 = 0 then (f_X9_fittingFars_b109 k18 σ6 x1 x2 x3 x4 x5) else amlet (x3 ||| ((1 : Int32) <<< (x5 &&& 31))) (fun v7 => gd (decide (¬ (0 : Int32) < 0 ∧ ¬ (x4 * (24 : Int32)) < 0 ∧ ¬ (24 : Int32) < 0 ∧ ((0 : Int32)).toNatClampNeg + ((24 : Int32)).toNatClampNeg ≤ 24 ∧ ((x4 * (24 : Int32))).toNatClampNeg + ((24 : Int32)).toNatClampNeg ≤ 216)) (amlet (cp2 σ6 39 ((0 : Int32)).toNatClampNeg 44 ((x4 * (24 : Int32))).toNatClampNeg ((24 : Int32)).toNatClampNeg) (fun σ8 => amlet (x4 + (1 : Int32)) (fun v9 => (f_X9_fittingFars_b109 k18 σ8 x1 x2 v7 v9 x5)))))))))))
def f_X9_fittingFars_l18 (n : Nat) : Sg → Int32 → Int32 → Int32 → Int32 → Int32 → Option (Int32 × Sg) := am_rec (fun _ _ _ _ _ _ => none) (fun k => f_X9_fittingFars_b18 k) n
def f_X9_fittingFars (σ : Sg) (a1 : Int32) : Option (Int32 × Sg) :=
  gd (inB a1 8) (amlet (σ 9 (a1).toNatClampNeg) (fun v1 => (f_X9_fittingFars_l18 300 σ a1 v1 (0 : Int32) (0 : Int32) (1 : Int32))))
def f_X9_fittingSorts_b80 (k15 : Sg → Int32 → Int32 → Int32 → Int32 → Option (Int32 × Sg)) (σ : Sg) (x1 : Int32) (x2 : Int32) (x3 : Int32) (x4 : Int32) : Option (Int32 × Sg) :=
  amlet (x4 + (1 : Int32)) (fun v1 => (k15 σ x1 x2 x3 v1))
def f_X9_fittingSorts_b15 (k15 : Sg → Int32 → Int32 → Int32 → Int32 → Option (Int32 × Sg)) (σ : Sg) (x1 : Int32) (x2 : Int32) (x3 : Int32) (x4 : Int32) : Option (Int32 × Sg) :=
  (if (3 : Int32) ≤ x4 then gd (inB x1 8) (amlet (up2 σ 6 (x1).toNatClampNeg x2) (fun σ1 => some (x3, σ1))) else gd (inB x1 8) (amlet (up2 σ 6 (x1).toNatClampNeg x4) (fun σ2 => bnd (f_X0_run 35 14 σ2 (-1 : Int32)) (fun _ σ4 => bnd (f_X7_fit 35 σ4 (σ4 5 1)) (fun r5 σ6 => (if r5 = 0 then (f_X9_fittingSorts_b80 k15 σ6 x1 x2 x3 x4) else amlet (x3 ||| ((1 : Int32) <<< (x4 &&& 31))) (fun v7 => (f_X9_fittingSorts_b80 k15 σ6 x1 x2 v7 x4))))))))
def f_X9_fittingSorts_l15 (n : Nat) : Sg → Int32 → Int32 → Int32 → Int32 → Option (Int32 × Sg) := am_rec (fun _ _ _ _ _ => none) (fun k => f_X9_fittingSorts_b15 k) n
def f_X9_fittingSorts (σ : Sg) (a1 : Int32) : Option (Int32 × Sg) :=
  gd (inB a1 8) (amlet (σ 6 (a1).toNatClampNeg) (fun v1 => (f_X9_fittingSorts_l15 300 σ a1 v1 (0 : Int32) (0 : Int32))))
def f_X9_was (σ : Sg) (a1 : Int32) (a2 : Int32) : Option (Int32 × Sg) :=
  bnd (f_X9_isBelow σ a1 (σ 5 1)) (fun r1 σ2 => (if r1 = 0 then some ((-2 : Int32), σ2) else bnd (f_X9_isBelow σ2 a2 (2 : Int32)) (fun r3 σ4 => (if r3 = 0 then some ((-2 : Int32), σ4) else (if a2 = 0 then bnd (f_X9_fittingSorts σ4 a1) (fun r8 σ9 => some (r8, σ9)) else bnd (f_X9_fittingFars σ4 a1) (fun r5 σ6 => some (r5, σ6)))))))
def f_X9_greatestAlike_b53 (k5 : Sg → Int32 → Int32 → Int32 → Int32 → Option (Int32 × Sg)) (k17 : Sg → Int32 → Int32 → Int32 → Int32 → Int32 → Int32 → Option (Int32 × Sg)) (σ : Sg) (x1 : Int32) (x2 : Int32) (x3 : Int32) (x4 : Int32) (x5 : Int32) (x6 : Int32) : Option (Int32 × Sg) :=
  amlet (x6 + (1 : Int32)) (fun v1 => (k17 σ x1 x2 x3 x4 x5 v1))
def f_X9_greatestAlike_b17 (k5 : Sg → Int32 → Int32 → Int32 → Int32 → Option (Int32 × Sg)) (k17 : Sg → Int32 → Int32 → Int32 → Int32 → Int32 → Int32 → Option (Int32 × Sg)) (σ : Sg) (x1 : Int32) (x2 : Int32) (x3 : Int32) (x4 : Int32) (x5 : Int32) (x6 : Int32) : Option (Int32 × Sg) :=
  (if x2 ≤ x6 then amlet (if x3 < x5 then x5 else x3) (fun v1 => amlet (x4 + (1 : Int32)) (fun v2 => (k5 σ x1 x2 v1 v2))) else gd (inB ((x4 * (24 : Int32)) + x1) 216) (gd (inB ((x6 * (24 : Int32)) + x1) 216) ((if (σ 44 (((x4 * (24 : Int32)) + x1)).toNatClampNeg) = (σ 44 (((x6 * (24 : Int32)) + x1)).toNatClampNeg) then amlet (x5 + (1 : Int32)) (fun v3 => (f_X9_greatestAlike_b53 k5 k17 σ x1 x2 x3 x4 v3 x6)) else (f_X9_greatestAlike_b53 k5 k17 σ x1 x2 x3 x4 x5 x6)))))
def f_X9_greatestAlike_l17 (k5 : Sg → Int32 → Int32 → Int32 → Int32 → Option (Int32 × Sg)) (n : Nat) : Sg → Int32 → Int32 → Int32 → Int32 → Int32 → Int32 → Option (Int32 × Sg) := am_rec (fun _ _ _ _ _ _ _ => none) (fun k => f_X9_greatestAlike_b17 k5 k) n
def f_X9_greatestAlike_b5 (k5 : Sg → Int32 → Int32 → Int32 → Int32 → Option (Int32 × Sg)) (σ : Sg) (x1 : Int32) (x2 : Int32) (x3 : Int32) (x4 : Int32) : Option (Int32 × Sg) :=
  (if x2 ≤ x4 then some (x3, σ) else (f_X9_greatestAlike_l17 k5 300 σ x1 x2 x3 x4 (0 : Int32) (0 : Int32)))
def f_X9_greatestAlike_l5 (n : Nat) : Sg → Int32 → Int32 → Int32 → Int32 → Option (Int32 × Sg) := am_rec (fun _ _ _ _ _ => none) (fun k => f_X9_greatestAlike_b5 k) n
def f_X9_greatestAlike (σ : Sg) (a1 : Int32) (a2 : Int32) : Option (Int32 × Sg) :=
  (f_X9_greatestAlike_l5 300 σ a1 a2 (0 : Int32) (0 : Int32))
def f_X9_ask_b65 (k35 : Sg → Int32 → Int32 → Int32 → Int32 → Option (Int32 × Sg)) (σ : Sg) (x2 : Int32) (x3 : Int32) (x4 : Int32) (x5 : Int32) : Option (Int32 × Sg) :=
  amlet (x5 + (1 : Int32)) (fun v1 => (k35 σ x2 x3 x4 v1))
def f_X9_ask_b35 (k35 : Sg → Int32 → Int32 → Int32 → Int32 → Option (Int32 × Sg)) (σ : Sg) (x2 : Int32) (x3 : Int32) (x4 : Int32) (x5 : Int32) : Option (Int32 × Sg) :=
  (if (24 : Int32) ≤ x5 then some (x3, σ) else bnd (f_X9_greatestAlike σ x5 x2) (fun r1 σ2 => (if x4 ≤ r1 then (f_X9_ask_b65 k35 σ2 x2 x3 x4 x5) else (f_X9_ask_b65 k35 σ2 x2 x5 r1 x5))))
def f_X9_ask_l35 (n : Nat) : Sg → Int32 → Int32 → Int32 → Int32 → Option (Int32 × Sg) := am_rec (fun _ _ _ _ _ => none) (fun k => f_X9_ask_b35 k) n
def f_X9_ask (σ : Sg) (a1 : Int32) : Option (Int32 × Sg) :=
  bnd (f_X9_isBelow σ a1 (σ 5 1)) (fun r1 σ2 => (if r1 = 0 then some ((-2 : Int32), σ2) else bnd (f_X9_fittingFars σ2 a1) (fun r3 σ4 => bnd (f_J6_bitCount_0f7a4 σ4 r3) (fun r5 σ6 => (f_X9_ask_l35 300 σ6 r5 (0 : Int32) (10 : Int32) (0 : Int32))))))
def f_X5_tally_b105 (c3 : Nat) (c4 : Nat) (k40 : Sg → Int32 → Int32 → Option (Unit × Sg)) (k67 : Sg → Int32 → Int32 → Int32 → Int32 → Option (Unit × Sg)) (σ : Sg) (x5 : Int32) (x6 : Int32) (x7 : Int32) (x8 : Int32) : Option (Unit × Sg) :=
  amlet (x8 + (1 : Int32)) (fun v1 => (k67 σ x5 x6 x7 v1))
def f_X5_tally_b67 (c3 : Nat) (c4 : Nat) (k40 : Sg → Int32 → Int32 → Option (Unit × Sg)) (k67 : Sg → Int32 → Int32 → Int32 → Int32 → Option (Unit × Sg)) (σ : Sg) (x5 : Int32) (x6 : Int32) (x7 : Int32) (x8 : Int32) : Option (Unit × Sg) :=
  (if (σ 10 1) ≤ x8 then amlet (x6 + (1 : Int32)) (fun v1 => (k40 σ x5 v1)) else gd (inB x8 8) ((if (σ (c4 + 1) (x8).toNatClampNeg) = (-1 : Int32) then (f_X5_tally_b105 c3 c4 k40 k67 σ x5 x6 x7 x8) else gd (inB ((x8 * (9 : Int32)) + x7) 72) (gd (inB ((x8 * (9 : Int32)) + x7) 72) (amlet (up2 σ 43 (((x8 * (9 : Int32)) + x7)).toNatClampNeg ((σ 43 (((x8 * (9 : Int32)) + x7)).toNatClampNeg) + (1 : Int32))) (fun σ2 => (f_X5_tally_b105 c3 c4 k40 k67 σ2 x5 x6 x7 x8)))))))
def f_X5_tally_l67 (c3 : Nat) (c4 : Nat) (k40 : Sg → Int32 → Int32 → Option (Unit × Sg)) (n : Nat) : Sg → Int32 → Int32 → Int32 → Int32 → Option (Unit × Sg) := am_rec (fun _ _ _ _ _ => none) (fun k => f_X5_tally_b67 c3 c4 k40 k) n
def f_X5_tally_b40 (c3 : Nat) (c4 : Nat) (k40 : Sg → Int32 → Int32 → Option (Unit × Sg)) (σ : Sg) (x5 : Int32) (x6 : Int32) : Option (Unit × Sg) :=
  (if x5 ≤ x6 then some ((), σ) else bnd (f_X0_run c4 c3 σ x6) (fun _ σ2 => bnd (f_J6_bitCount_0f7a4 σ2 x6) (fun r3 σ4 => (f_X5_tally_l67 c3 c4 k40 300 σ4 x5 x6 r3 (0 : Int32)))))
def f_X5_tally_l40 (c3 : Nat) (c4 : Nat) (n : Nat) : Sg → Int32 → Int32 → Option (Unit × Sg) := am_rec (fun _ _ _ => none) (fun k => f_X5_tally_b40 c3 c4 k) n
def f_X5_tally_b3 (c3 : Nat) (c4 : Nat) (k3 : Sg → Int32 → Option (Unit × Sg)) (σ : Sg) (x5 : Int32) : Option (Unit × Sg) :=
  (if (72 : Int32) ≤ x5 then amlet ((1 : Int32) <<< ((if (8 : Int32) < (σ c3 4) then (8 : Int32) else (σ c3 4)) &&& 31)) (fun v1 => (f_X5_tally_l40 c3 c4 300 σ v1 (0 : Int32))) else gd (inB x5 72) (amlet (up2 σ 43 (x5).toNatClampNeg (0 : Int32)) (fun σ2 => amlet (x5 + (1 : Int32)) (fun v3 => (k3 σ2 v3)))))
def f_X5_tally_l3 (c3 : Nat) (c4 : Nat) (n : Nat) : Sg → Int32 → Option (Unit × Sg) := am_rec (fun _ _ => none) (fun k => f_X5_tally_b3 c3 c4 k) n
def f_X5_tally (c3 : Nat) (c4 : Nat) (σ : Sg) : Option (Unit × Sg) :=
  (f_X5_tally_l3 c3 c4 300 σ (0 : Int32))
def f_X5_power_b5 (k5 : Sg → Int32 → Int32 → Int64 → Int32 → Option (Int64 × Sg)) (σ : Sg) (x0 : Int32) (x1 : Int32) (x2 : Int64) (x4 : Int32) : Option (Int64 × Sg) :=
  (if x1 ≤ x4 then some (x2, σ) else amlet (x2 * (x0).toInt64) (fun v1 => amlet (x4 + (1 : Int32)) (fun v2 => (k5 σ x0 x1 v1 v2))))
def f_X5_power_l5 (n : Nat) : Sg → Int32 → Int32 → Int64 → Int32 → Option (Int64 × Sg) := am_rec (fun _ _ _ _ _ => none) (fun k => f_X5_power_b5 k) n
def f_X5_power (σ : Sg) (a0 : Int32) (a1 : Int32) : Option (Int64 × Sg) :=
  (f_X5_power_l5 300 σ a0 a1 (1 : Int64) (0 : Int32))
def f_X5_tell_b124 (σ : Sg) (x4 : Int32) (x5 : Int64) (x7 : Int64) : Option (Int64 × Sg) :=
  (if x4 = 0 then some (x5, σ) else some (x7, σ))
def f_X5_tell_b77 (k77 : Sg → Int32 → Int64 → Int64 → Int32 → Option (Int64 × Sg)) (σ : Sg) (x4 : Int32) (x5 : Int64) (x7 : Int64) (x9 : Int32) : Option (Int64 × Sg) :=
  (if (32 : Int32) ≤ x9 then (f_X5_tell_b124 σ x4 x5 x7) else (if (lg_cmp x7 (1 : Int64)) ≤ 0 then (f_X5_tell_b124 σ x4 x5 x7) else (if (lg_cmp (x5 - x5 / (2 : Int64) * (2 : Int64)) (0 : Int64)) = 0 then amlet (x5 / (2 : Int64)) (fun v1 => amlet (x7 / (2 : Int64)) (fun v2 => amlet (x9 + (1 : Int32)) (fun v3 => (k77 σ x4 v1 v2 v3)))) else (f_X5_tell_b124 σ x4 x5 x7))))
def f_X5_tell_l77 (n : Nat) : Sg → Int32 → Int64 → Int64 → Int32 → Option (Int64 × Sg) := am_rec (fun _ _ _ _ _ => none) (fun k => f_X5_tell_b77 k) n
def f_X5_tell_b66 (σ : Sg) (x3 : Int32) (x4 : Int32) (x5 : Int64) : Option (Int64 × Sg) :=
  bnd (f_X5_power σ (16 : Int32) x3) (fun r1 σ2 => (f_X5_tell_l77 300 σ2 x4 x5 r1 (0 : Int32)))
def f_X5_tell_b6 (k6 : Sg → Int32 → Int32 → Int32 → Int32 → Int64 → Int32 → Option (Int64 × Sg)) (σ : Sg) (x1 : Int32) (x2 : Int32) (x3 : Int32) (x4 : Int32) (x5 : Int64) (x7 : Int32) : Option (Int64 × Sg) :=
  (if x3 < x7 then (f_X5_tell_b66 σ x3 x4 x5) else (if (9 : Int32) ≤ x7 then (f_X5_tell_b66 σ x3 x4 x5) else bnd (f_X5_power σ x2 x7) (fun r1 σ2 => bnd (f_X5_power σ2 ((16 : Int32) - x2) (x3 - x7)) (fun r3 σ4 => amlet (r1 * r3) (fun v5 => gd (inB ((x1 * (9 : Int32)) + x7) 72) (amlet (x5 + (((σ4 43 (((x1 * (9 : Int32)) + x7)).toNatClampNeg)).toInt64 * v5)) (fun v6 => amlet (x7 + (1 : Int32)) (fun v7 => (k6 σ4 x1 x2 x3 x4 v6 v7)))))))))
def f_X5_tell_l6 (n : Nat) : Sg → Int32 → Int32 → Int32 → Int32 → Int64 → Int32 → Option (Int64 × Sg) := am_rec (fun _ _ _ _ _ _ _ => none) (fun k => f_X5_tell_b6 k) n
def f_X5_tell (σ : Sg) (a1 : Int32) (a2 : Int32) (a3 : Int32) (a4 : Int32) : Option (Int64 × Sg) :=
  (f_X5_tell_l6 300 σ a1 a2 a3 a4 (0 : Int64) (0 : Int32))
def f_X9_chance_b70 (σ : Sg) (x1 : Int32) (x2 : Int32) (x3 : Int32) : Option (Int64 × Sg) :=
  bnd (f_X5_tell σ x2 x1 (σ 14 4) x3) (fun r1 σ2 => some (r1, σ2))
def f_X9_chance (σ : Sg) (a1 : Int32) (a2 : Int32) (a3 : Int32) : Option (Int64 × Sg) :=
  bnd (f_X9_isBelow σ a1 (17 : Int32)) (fun r1 σ2 => (if r1 = 0 then some ((-9223372036854775806 : Int64), σ2) else bnd (f_X9_isBelow σ2 a2 (σ2 10 1)) (fun r3 σ4 => (if r3 = 0 then some ((-9223372036854775806 : Int64), σ4) else bnd (f_X9_isBelow σ4 a3 (2 : Int32)) (fun r5 σ6 => (if r5 = 0 then some ((-9223372036854775806 : Int64), σ6) else (if (σ6 0 13) = 0 then (f_X9_chance_b70 σ6 a1 a2 a3) else bnd (f_X5_tally 14 35 σ6) (fun _ σ8 => amlet (up2 σ8 0 13 (0 : Int32)) (fun σ9 => (f_X9_chance_b70 σ9 a1 a2 a3))))))))))
def f_X9_nextSeed (σ : Sg) (a0 : Int32) : Option (Int32 × Sg) :=
  some ((((1103515245 : Int32) * a0) + (12345 : Int32)), σ)
def f_X9_upperBits (σ : Sg) (a0 : Int32) : Option (Int32 × Sg) :=
  some ((am_ushr a0 (16 : Int32)), σ)
def f_X9_drawEvents_b13 (k13 : Sg → Int32 → Int32 → Int32 → Option (Unit × Sg)) (σ : Sg) (x2 : Int32) (x3 : Int32) (x4 : Int32) : Option (Unit × Sg) :=
  (if x2 ≤ x4 then some ((), σ) else bnd (f_X9_nextSeed σ x3) (fun r1 σ2 => bnd (f_X9_upperBits σ2 r1) (fun r3 σ4 => amlet (r3 - r3 / (2 : Int32) * (2 : Int32)) (fun v5 => bnd (f_X9_nextSeed σ4 r1) (fun r6 σ7 => bnd (f_X9_upperBits σ7 r6) (fun r8 σ9 => amlet (r8 - r8 / (24 : Int32) * (24 : Int32)) (fun v10 => bnd (f_X9_nextSeed σ9 r6) (fun r11 σ12 => bnd (f_X9_upperBits σ12 r11) (fun r13 σ14 => amlet (r13 - r13 / (6 : Int32) * (6 : Int32)) (fun v15 => bnd (f_X1_add 19 σ14 v5 v10 v15) (fun _ σ17 => amlet (x4 + (1 : Int32)) (fun v18 => (k13 σ17 x2 r11 v18)))))))))))))
def f_X9_drawEvents_l13 (n : Nat) : Sg → Int32 → Int32 → Int32 → Option (Unit × Sg) := am_rec (fun _ _ _ _ => none) (fun k => f_X9_drawEvents_b13 k) n
def f_X9_drawEvents (σ : Sg) (a1 : Int32) (a2 : Int32) : Option (Unit × Sg) :=
  amlet (up2 σ 19 4 (0 : Int32)) (fun σ1 => (f_X9_drawEvents_l13 300 σ1 a2 a1 (0 : Int32)))
def f_X9_years (σ : Sg) (a1 : Int32) (a2 : Int32) (a3 : Int32) : Option (Int32 × Sg) :=
  bnd (f_X9_isBelow σ a2 (9 : Int32)) (fun r1 σ2 => (if r1 = 0 then some ((-2 : Int32), σ2) else bnd (f_X9_isBelow σ2 a3 (2 : Int32)) (fun r3 σ4 => (if r3 = 0 then some ((-2 : Int32), σ4) else bnd (f_X9_drawEvents σ4 a1 a2) (fun _ σ6 => bnd (f_X0_run 35 19 σ6 (-1 : Int32)) (fun _ σ8 => (if a3 = 0 then bnd (f_X0_howManyMet 35 σ8) (fun r9 σ10 => some (r9, σ10)) else some ((σ8 35 7), σ8))))))))
def f_X6_makeNew_b12 (c0 : Nat) (k12 : Sg → Int32 → Option (Unit × Sg)) (σ : Sg) (x3 : Int32) : Option (Unit × Sg) :=
  (if (60 : Int32) ≤ x3 then some ((), σ) else gd (inB x3 60) (amlet (up2 σ (c0 + 1) (x3).toNatClampNeg (0 : Int32)) (fun σ1 => amlet (x3 + (1 : Int32)) (fun v2 => (k12 σ1 v2)))))
def f_X6_makeNew_l12 (c0 : Nat) (n : Nat) : Sg → Int32 → Option (Unit × Sg) := am_rec (fun _ _ => none) (fun k => f_X6_makeNew_b12 c0 k) n
def f_X6_makeNew (c0 : Nat) (σ : Sg) (a1 : Int32) (a2 : Int32) : Option (Unit × Sg) :=
  amlet (up2 σ c0 1 a1) (fun σ1 => amlet (up2 σ1 c0 2 a2) (fun σ2 => (f_X6_makeNew_l12 c0 300 σ2 (0 : Int32))))
def f_X9_sheet (σ : Sg) (a1 : Int32) (a2 : Int32) (a3 : Int32) : Option (Int32 × Sg) :=
  bnd (f_X9_isBelow σ a1 (4 : Int32)) (fun r1 σ2 => (if r1 = 0 then some ((-2 : Int32), σ2) else bnd (f_X9_isBelow σ2 a2 (3 : Int32)) (fun r3 σ4 => (if r3 = 0 then some ((-2 : Int32), σ4) else (if a3 ≤ (60 : Int32) then (if 0 ≤ a3 then gd (inB a1 4) (amlet (46 + 2 * (a1).toNatClampNeg) (fun r5 => gd (isX6 r5) (bnd (f_X6_makeNew r5 σ4 a2 a3) (fun _ σ7 => some (a3, σ7))))) else bnd (f_X9_find σ4 (5 : Int32)) (fun r9 σ10 => some (r9, σ10))) else some ((-2 : Int32), σ4))))))
def f_X9_lose (σ : Sg) (a1 : Int32) : Option (Int32 × Sg) :=
  bnd (f_X9_isBelow σ a1 (4 : Int32)) (fun r1 σ2 => (if r1 = 0 then some ((-2 : Int32), σ2) else gd (inB a1 4) (amlet (46 + 2 * (a1).toNatClampNeg) (fun r3 => gd (isX6 r3) ((if (σ2 r3 1) = (-1 : Int32) then bnd (f_X9_find σ2 (1 : Int32)) (fun r7 σ8 => some (r7, σ8)) else amlet (σ2 r3 2) (fun v4 => amlet (up2 σ2 r3 1 (-1 : Int32)) (fun σ5 => amlet (up2 σ5 r3 2 (0 : Int32)) (fun σ6 => some (v4, σ6))))))))))
def f_X9_refuseItem (σ : Sg) (a1 : Int32) (a2 : Int32) (a3 : Int32) : Option (Int32 × Sg) :=
  bnd (f_X9_isBelow σ a1 (4 : Int32)) (fun r1 σ2 => (if r1 = 0 then some ((-2 : Int32), σ2) else bnd (f_X9_isBelow σ2 a2 (3 : Int32)) (fun r3 σ4 => (if r3 = 0 then some ((-2 : Int32), σ4) else gd (inB a1 4) (amlet (46 + 2 * (a1).toNatClampNeg) (fun r5 => gd (isX6 r5) ((if (σ4 r5 1) = (-1 : Int32) then bnd (f_X9_find σ4 (1 : Int32)) (fun r15 σ16 => some (r15, σ16)) else (if (σ4 r5 1) = a2 then bnd (f_X9_isBelow σ4 a3 (σ4 r5 2)) (fun r6 σ7 => (if r6 = 0 then bnd (f_X9_find σ7 (2 : Int32)) (fun r8 σ9 => some (r8, σ9)) else some ((0 : Int32), σ7))) else bnd (f_X9_find σ4 (3 : Int32)) (fun r12 σ13 => some (r12, σ13)))))))))))
def f_X6_narrowed (c0 : Nat) (σ : Sg) (a1 : Int32) : Option (Int32 × Sg) :=
  (if (σ c0 1) = 0 then some ((a1).toInt8.toInt32, σ) else (if (σ c0 1) = 1 then some ((a1).toInt16.toInt32, σ) else some (a1, σ)))
def f_X6_setItem (c0 : Nat) (σ : Sg) (a1 : Int32) (a2 : Int32) : Option (Unit × Sg) :=
  bnd (f_X9_isBelow σ a1 (σ c0 2)) (fun r1 σ2 => (if r1 = 0 then some ((), σ2) else bnd (f_X6_narrowed c0 σ2 a2) (fun r3 σ4 => gd (inB a1 60) (amlet (up2 σ4 (c0 + 1) (a1).toNatClampNeg r3) (fun σ5 => some ((), σ5))))))
def f_X9_put (σ : Sg) (a1 : Int32) (a2 : Int32) (a3 : Int32) (a4 : Int32) : Option (Int32 × Sg) :=
  bnd (f_X9_refuseItem σ a1 a2 a3) (fun r1 σ2 => (if r1 = 0 then gd (inB a1 4) (amlet (46 + 2 * (a1).toNatClampNeg) (fun r3 => gd (isX6 r3) (bnd (f_X6_setItem r3 σ2 a3 a4) (fun _ σ5 => some ((1 : Int32), σ5))))) else some (r1, σ2)))
def f_X9_get (σ : Sg) (a1 : Int32) (a2 : Int32) (a3 : Int32) : Option (Int32 × Sg) :=
  bnd (f_X9_refuseItem σ a1 a2 a3) (fun r1 σ2 => (if r1 = 0 then gd (inB a1 4) (amlet (46 + 2 * (a1).toNatClampNeg) (fun r3 => gd (isX6 r3) (gd (inB a3 60) (some ((σ2 (r3 + 1) (a3).toNatClampNeg), σ2))))) else some ((-2147483648 : Int32), σ2)))
def f_X6_hasSpan (c0 : Nat) (σ : Sg) (a1 : Int32) (a2 : Int32) : Option (Int32 × Sg) :=
  (if a1 < 0 then some ((0 : Int32), σ) else (if a2 < 0 then some ((0 : Int32), σ) else (if (σ c0 2) < a2 then some ((0 : Int32), σ) else (if ((σ c0 2) - a2) < a1 then some ((0 : Int32), σ) else some ((1 : Int32), σ)))))
def f_X9_copy_b53 (σ : Sg) : Option (Int32 × Sg) :=
  bnd (f_X9_find σ (1 : Int32)) (fun r1 σ2 => some (r1, σ2))
def f_X9_copy_b101 (σ : Sg) : Option (Int32 × Sg) :=
  bnd (f_X9_find σ (2 : Int32)) (fun r1 σ2 => some (r1, σ2))
def f_X9_copy (σ : Sg) (a1 : Int32) (a2 : Int32) (a3 : Int32) (a4 : Int32) (a5 : Int32) : Option (Int32 × Sg) :=
  bnd (f_X9_isBelow σ a1 (4 : Int32)) (fun r1 σ2 => (if r1 = 0 then some ((-2 : Int32), σ2) else bnd (f_X9_isBelow σ2 a3 (4 : Int32)) (fun r3 σ4 => (if r3 = 0 then some ((-2 : Int32), σ4) else gd (inB a1 4) (amlet (46 + 2 * (a1).toNatClampNeg) (fun r5 => gd (isX6 r5) (gd (inB a3 4) (amlet (46 + 2 * (a3).toNatClampNeg) (fun r6 => gd (isX6 r6) ((if (σ4 r5 1) = (-1 : Int32) then (f_X9_copy_b53 σ4) else (if (σ4 r6 1) = (-1 : Int32) then (f_X9_copy_b53 σ4) else (if (σ4 r5 1) = (σ4 r6 1) then bnd (f_X6_hasSpan r5 σ4 a2 a5) (fun r7 σ8 => (if r7 = 0 then (f_X9_copy_b101 σ8) else bnd (f_X6_hasSpan r6 σ8 a4 a5) (fun r9 σ10 => (if r9 = 0 then (f_X9_copy_b101 σ10) else gd (decide (¬ a2 < 0 ∧ ¬ a4 < 0 ∧ ¬ a5 < 0 ∧ (a2).toNatClampNeg + (a5).toNatClampNeg ≤ 60 ∧ (a4).toNatClampNeg + (a5).toNatClampNeg ≤ 60)) (amlet (cp2 σ10 (r5 + 1) (a2).toNatClampNeg (r6 + 1) (a4).toNatClampNeg (a5).toNatClampNeg) (fun σ11 => some ((1 : Int32), σ11))))))) else bnd (f_X9_find σ4 (4 : Int32)) (fun r14 σ15 => some (r14, σ15)))))))))))))))
def f_X9_write_b66 (k66 : Sg → Int32 → Nat → Int32 → Int32 → Option (Int32 × Sg)) (σ : Sg) (x1 : Int32) (x3 : Nat) (x5 : Int32) (x6 : Int32) : Option (Int32 × Sg) :=
  (if x5 ≤ x6 then some (x5, σ) else bnd (f_X0_wantedBehind 28 σ x6 x1) (fun r1 σ2 => bnd (f_X6_setItem x3 σ2 x6 r1) (fun _ σ4 => amlet (x6 + (1 : Int32)) (fun v5 => (k66 σ4 x1 x3 x5 v5)))))
def f_X9_write_l66 (n : Nat) : Sg → Int32 → Nat → Int32 → Int32 → Option (Int32 × Sg) := am_rec (fun _ _ _ _ _ => none) (fun k => f_X9_write_b66 k) n
def f_X9_write (σ : Sg) (a1 : Int32) (a2 : Int32) : Option (Int32 × Sg) :=
  bnd (f_X9_isBelow σ a1 (σ 5 1)) (fun r1 σ2 => (if r1 = 0 then some ((-2 : Int32), σ2) else bnd (f_X9_isBelow σ2 a2 (4 : Int32)) (fun r3 σ4 => (if r3 = 0 then some ((-2 : Int32), σ4) else gd (inB a2 4) (amlet (46 + 2 * (a2).toNatClampNeg) (fun r5 => gd (isX6 r5) ((if (σ4 r5 1) = (-1 : Int32) then bnd (f_X9_find σ4 (1 : Int32)) (fun r10 σ11 => some (r10, σ11)) else bnd (f_X9_asTold σ4) (fun r6 σ7 => gd (decide (r6 = 28)) (amlet (if (24 : Int32) < (σ7 r5 2) then (24 : Int32) else (σ7 r5 2)) (fun v8 => (f_X9_write_l66 300 σ7 a1 r5 v8 (0 : Int32)))))))))))))
def f_X9_count (σ : Sg) (a1 : Int32) : Option (Int32 × Sg) :=
  (if a1 = 0 then some ((σ 5 1), σ) else (if a1 = 1 then some ((σ 10 1), σ) else (if a1 = 2 then some ((σ 1 2), σ) else (if a1 = 3 then some ((σ 3 2), σ) else (if a1 = 4 then some ((σ 14 4), σ) else (if a1 = 5 then bnd (f_X9_asTold σ) (fun r1 σ2 => gd (decide (r1 = 28)) (bnd (f_X0_howManyMet 28 σ2) (fun r3 σ4 => some (r3, σ4)))) else (if a1 = 6 then bnd (f_X9_asTold σ) (fun r7 σ8 => gd (decide (r7 = 28)) (some ((σ8 28 7), σ8))) else (if a1 = 7 then some ((σ 24 3), σ) else (if a1 = 8 then some ((σ 0 14), σ) else some ((-2 : Int32), σ))))))))))
def f_X9_mix (σ : Sg) (a0 : Int64) (a2 : Int64) : Option (Int64 × Sg) :=
  some ((((31 : Int64) * a0) + a2), σ)
def f_X9_mixNeed_b6 (k6 : Sg → Int32 → Int64 → Int32 → Option (Int64 × Sg)) (σ : Sg) (x3 : Int32) (x4 : Int64) (x6 : Int32) : Option (Int64 × Sg) :=
  (if (3 : Int32) ≤ x6 then bnd (f_X9_met σ x3) (fun r1 σ2 => bnd (f_X9_mix σ2 x4 ((r1).toInt64)) (fun r3 σ4 => bnd (f_X9_chance σ4 (5 : Int32) x3 (0 : Int32)) (fun r5 σ6 => bnd (f_X9_mix σ6 r3 r5) (fun r7 σ8 => bnd (f_X9_chance σ8 (5 : Int32) x3 (1 : Int32)) (fun r9 σ10 => bnd (f_X9_mix σ10 r7 r9) (fun r11 σ12 => some (r11, σ12))))))) else bnd (f_X9_need σ x3 x6) (fun r19 σ20 => bnd (f_X9_mix σ20 x4 ((r19).toInt64)) (fun r21 σ22 => amlet (x6 + (1 : Int32)) (fun v23 => (k6 σ22 x3 r21 v23)))))
def f_X9_mixNeed_l6 (n : Nat) : Sg → Int32 → Int64 → Int32 → Option (Int64 × Sg) := am_rec (fun _ _ _ _ => none) (fun k => f_X9_mixNeed_b6 k) n
def f_X9_mixNeed (σ : Sg) (a1 : Int64) (a3 : Int32) : Option (Int64 × Sg) :=
  (f_X9_mixNeed_l6 300 σ a3 a1 (0 : Int32))
def f_X9_mixOne_b58 (k36 : Sg → Int32 → Int64 → Int32 → Option (Int64 × Sg)) (k58 : Sg → Int32 → Int64 → Int32 → Int32 → Int32 → Option (Int64 × Sg)) (σ : Sg) (x3 : Int32) (x4 : Int64) (x6 : Int32) (x7 : Int32) (x8 : Int32) : Option (Int64 × Sg) :=
  (if (3 : Int32) ≤ x8 then amlet (x6 + (1 : Int32)) (fun v1 => (k36 σ x3 x4 v1)) else bnd (f_X9_at σ x7 x3 x8) (fun r2 σ3 => bnd (f_X9_mix σ3 x4 ((r2).toInt64)) (fun r4 σ5 => amlet (x8 + (1 : Int32)) (fun v6 => (k58 σ5 x3 r4 x6 x7 v6)))))
def f_X9_mixOne_l58 (k36 : Sg → Int32 → Int64 → Int32 → Option (Int64 × Sg)) (n : Nat) : Sg → Int32 → Int64 → Int32 → Int32 → Int32 → Option (Int64 × Sg) := am_rec (fun _ _ _ _ _ _ => none) (fun k => f_X9_mixOne_b58 k36 k) n
def f_X9_mixOne_b116 (k116 : Sg → Int32 → Int64 → Int32 → Int32 → Option (Int64 × Sg)) (σ : Sg) (x3 : Int32) (x4 : Int64) (x6 : Int32) (x7 : Int32) : Option (Int64 × Sg) :=
  (if (3 : Int32) ≤ x7 then bnd (f_X9_was σ x3 (0 : Int32)) (fun r1 σ2 => bnd (f_X9_mix σ2 x4 ((r1).toInt64)) (fun r3 σ4 => bnd (f_X9_was σ4 x3 (1 : Int32)) (fun r5 σ6 => bnd (f_X9_mix σ6 r3 ((r5).toInt64)) (fun r7 σ8 => bnd (f_X9_ask σ8 x3) (fun r9 σ10 => bnd (f_X9_mix σ10 r7 ((r9).toInt64)) (fun r11 σ12 => some (r11, σ12))))))) else bnd (f_X9_tellCell σ x3 x6 x7) (fun r19 σ20 => bnd (f_X9_mix σ20 x4 ((r19).toInt64)) (fun r21 σ22 => amlet (x7 + (1 : Int32)) (fun v23 => (k116 σ22 x3 r21 x6 v23)))))
def f_X9_mixOne_l116 (n : Nat) : Sg → Int32 → Int64 → Int32 → Int32 → Option (Int64 × Sg) := am_rec (fun _ _ _ _ _ => none) (fun k => f_X9_mixOne_b116 k) n
def f_X9_mixOne_b36 (k36 : Sg → Int32 → Int64 → Int32 → Option (Int64 × Sg)) (σ : Sg) (x3 : Int32) (x4 : Int64) (x6 : Int32) : Option (Int64 × Sg) :=
  (if (3 : Int32) < x6 then bnd (f_X9_stood σ x3) (fun r1 σ2 => bnd (f_X9_mix σ2 x4 ((r1).toInt64)) (fun r3 σ4 => bnd (f_X9_bestCell σ4 x3) (fun r5 σ6 => (f_X9_mixOne_l116 300 σ6 x3 r3 r5 (0 : Int32))))) else amlet (if (0 : Int32) < (((8 : Int32) * x6) - (1 : Int32)) then (((8 : Int32) * x6) - (1 : Int32)) else (0 : Int32)) (fun v10 => (f_X9_mixOne_l58 k36 300 σ x3 x4 x6 v10 (0 : Int32))))
def f_X9_mixOne_l36 (n : Nat) : Sg → Int32 → Int64 → Int32 → Option (Int64 × Sg) := am_rec (fun _ _ _ _ => none) (fun k => f_X9_mixOne_b36 k) n
def f_X9_mixOne_b6 (k6 : Sg → Int32 → Int64 → Int32 → Option (Int64 × Sg)) (σ : Sg) (x3 : Int32) (x4 : Int64) (x6 : Int32) : Option (Int64 × Sg) :=
  (if (4 : Int32) ≤ x6 then (f_X9_mixOne_l36 300 σ x3 x4 (0 : Int32)) else bnd (f_X9_gone σ x3 x6) (fun r1 σ2 => bnd (f_X9_mix σ2 x4 ((r1).toInt64)) (fun r3 σ4 => amlet (x6 + (1 : Int32)) (fun v5 => (k6 σ4 x3 r3 v5)))))
def f_X9_mixOne_l6 (n : Nat) : Sg → Int32 → Int64 → Int32 → Option (Int64 × Sg) := am_rec (fun _ _ _ _ => none) (fun k => f_X9_mixOne_b6 k) n
def f_X9_mixOne (σ : Sg) (a1 : Int64) (a3 : Int32) : Option (Int64 × Sg) :=
  (f_X9_mixOne_l6 300 σ a3 a1 (0 : Int32))
def f_X9_digest_b139 (k139 : Sg → Int64 → Int32 → Option (Int64 × Sg)) (σ : Sg) (x1 : Int64) (x3 : Int32) : Option (Int64 × Sg) :=
  (if (6 : Int32) ≤ x3 then bnd (f_X9_first σ (0 : Int32)) (fun r1 σ2 => bnd (f_X9_mix σ2 x1 ((r1).toInt64)) (fun r3 σ4 => bnd (f_X9_first σ4 (1 : Int32)) (fun r5 σ6 => bnd (f_X9_mix σ6 r3 ((r5).toInt64)) (fun r7 σ8 => bnd (f_X9_gate σ8) (fun r9 σ10 => bnd (f_X9_mix σ10 r7 ((r9).toInt64)) (fun r11 σ12 => bnd (f_X9_rest σ12) (fun r13 σ14 => bnd (f_X9_mix σ14 r11 ((r13).toInt64)) (fun r15 σ16 => bnd (f_X9_plough σ16 (8 : Int32) (0 : Int32)) (fun r17 σ18 => bnd (f_X9_mix σ18 r15 ((r17).toInt64)) (fun r19 σ20 => bnd (f_X9_plough σ20 (8 : Int32) (1 : Int32)) (fun r21 σ22 => bnd (f_X9_mix σ22 r19 ((r21).toInt64)) (fun r23 σ24 => bnd (f_X9_spare σ24 (-1 : Int32)) (fun r25 σ26 => bnd (f_X9_mix σ26 r23 ((r25).toInt64)) (fun r27 σ28 => bnd (f_X9_spare σ28 (0 : Int32)) (fun r29 σ30 => bnd (f_X9_mix σ30 r27 ((r29).toInt64)) (fun r31 σ32 => bnd (f_X9_never σ32) (fun r33 σ34 => bnd (f_X9_mix σ34 r31 ((r33).toInt64)) (fun r35 σ36 => bnd (f_X9_years σ36 (7 : Int32) (6 : Int32) (0 : Int32)) (fun r37 σ38 => bnd (f_X9_mix σ38 r35 ((r37).toInt64)) (fun r39 σ40 => bnd (f_X9_years σ40 (7 : Int32) (6 : Int32) (1 : Int32)) (fun r41 σ42 => bnd (f_X9_mix σ42 r39 ((r41).toInt64)) (fun r43 σ44 => some (r43, σ44))))))))))))))))))))))) else bnd (f_X9_bestNight σ x3) (fun r67 σ68 => bnd (f_X9_mix σ68 x1 ((r67).toInt64)) (fun r69 σ70 => bnd (f_X9_metWithPlough σ70 r67 x3) (fun r71 σ72 => bnd (f_X9_mix σ72 r69 ((r71).toInt64)) (fun r73 σ74 => amlet (x3 + (1 : Int32)) (fun v75 => (k139 σ74 r73 v75)))))))
def f_X9_digest_l139 (n : Nat) : Sg → Int64 → Int32 → Option (Int64 × Sg) := am_rec (fun _ _ _ => none) (fun k => f_X9_digest_b139 k) n
def f_X9_digest_b103 (k103 : Sg → Int64 → Int32 → Option (Int64 × Sg)) (σ : Sg) (x1 : Int64) (x3 : Int32) : Option (Int64 × Sg) :=
  (if (24 : Int32) ≤ x3 then (f_X9_digest_l139 300 σ x1 (0 : Int32)) else bnd (f_X9_up σ x3 (0 : Int32)) (fun r1 σ2 => bnd (f_X9_mix σ2 x1 ((r1).toInt64)) (fun r3 σ4 => bnd (f_X9_up σ4 x3 (1 : Int32)) (fun r5 σ6 => bnd (f_X9_mix σ6 r3 ((r5).toInt64)) (fun r7 σ8 => amlet (x3 + (1 : Int32)) (fun v9 => (k103 σ8 r7 v9)))))))
def f_X9_digest_l103 (n : Nat) : Sg → Int64 → Int32 → Option (Int64 × Sg) := am_rec (fun _ _ _ => none) (fun k => f_X9_digest_b103 k) n
def f_X9_digest_b77 (k77 : Sg → Int64 → Int32 → Option (Int64 × Sg)) (σ : Sg) (x1 : Int64) (x3 : Int32) : Option (Int64 × Sg) :=
  (if (σ 5 1) ≤ x3 then (f_X9_digest_l103 300 σ x1 (0 : Int32)) else bnd (f_X9_mixOne σ x1 x3) (fun r1 σ2 => amlet (x3 + (1 : Int32)) (fun v3 => (k77 σ2 r1 v3))))
def f_X9_digest_l77 (n : Nat) : Sg → Int64 → Int32 → Option (Int64 × Sg) := am_rec (fun _ _ _ => none) (fun k => f_X9_digest_b77 k) n
def f_X9_digest_b51 (k51 : Sg → Int64 → Int32 → Option (Int64 × Sg)) (σ : Sg) (x1 : Int64) (x3 : Int32) : Option (Int64 × Sg) :=
  (if (σ 10 1) ≤ x3 then (f_X9_digest_l77 300 σ x1 (0 : Int32)) else bnd (f_X9_mixNeed σ x1 x3) (fun r1 σ2 => amlet (x3 + (1 : Int32)) (fun v3 => (k51 σ2 r1 v3))))
def f_X9_digest_l51 (n : Nat) : Sg → Int64 → Int32 → Option (Int64 × Sg) := am_rec (fun _ _ _ => none) (fun k => f_X9_digest_b51 k) n
def f_X9_digest_b6 (k6 : Sg → Int64 → Int32 → Option (Int64 × Sg)) (σ : Sg) (x1 : Int64) (x3 : Int32) : Option (Int64 × Sg) :=
  (if (8 : Int32) ≤ x3 then bnd (f_X9_fault σ (0 : Int32)) (fun r1 σ2 => bnd (f_X9_mix σ2 x1 ((r1).toInt64)) (fun r3 σ4 => bnd (f_X9_fault σ4 (1 : Int32)) (fun r5 σ6 => bnd (f_X9_mix σ6 r3 ((r5).toInt64)) (fun r7 σ8 => (f_X9_digest_l51 300 σ8 r7 (0 : Int32)))))) else bnd (f_X9_count σ x3) (fun r13 σ14 => bnd (f_X9_mix σ14 x1 ((r13).toInt64)) (fun r15 σ16 => amlet (x3 + (1 : Int32)) (fun v17 => (k6 σ16 r15 v17)))))
def f_X9_digest_l6 (n : Nat) : Sg → Int64 → Int32 → Option (Int64 × Sg) := am_rec (fun _ _ _ => none) (fun k => f_X9_digest_b6 k) n
def f_X9_digest (σ : Sg) : Option (Int64 × Sg) :=
  (f_X9_digest_l6 300 σ (17 : Int64) (0 : Int32))
