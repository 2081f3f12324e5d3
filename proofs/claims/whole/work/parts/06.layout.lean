def o_X0 (c : Nat) : am_C := .inl (0, 10, fun k => ([some (c + 1), some (c + 2), some (c + 3), some (c + 4), some (c + 5), some (c + 6), none, none, none, none] : List (Option Nat)).getD k none)
def o_X1 (c : Nat) : am_C := .inl (1, 5, fun k => ([some (c + 1), some (c + 2), some (c + 3), some (c + 4), none] : List (Option Nat)).getD k none)
def o_X2 (c : Nat) : am_C := .inl (2, 7, fun k => ([none, none, none, some (c + 1), some (c + 2), some (c + 3), some (c + 4)] : List (Option Nat)).getD k none)
def o_X4 (c : Nat) : am_C := .inl (3, 6, fun k => ([none, none, none, some (c + 1), some (c + 2), some (c + 3)] : List (Option Nat)).getD k none)
def o_X5 (c : Nat) : am_C := .inl (4, 1, fun k => ([some (c + 1)] : List (Option Nat)).getD k none)
def o_X6 (c : Nat) : am_C := .inl (5, 3, fun k => ([some (c + 1), none, none] : List (Option Nat)).getD k none)
def o_X7 (c : Nat) : am_C := .inl (6, 4, fun k => ([some (c + 1), some (c + 2), some (c + 3), none] : List (Option Nat)).getD k none)
def o_X8 (c : Nat) : am_C := .inl (7, 3, fun k => ([some (c + 1), none, none] : List (Option Nat)).getD k none)
def o_X9 : am_C := .inl (8, 15, fun k => ([some 1, some 3, some 5, some 10, some 14, some 19, some 24, some 28, some 35, some 42, some 44, some 45, none, none, none] : List (Option Nat)).getD k none)
def o_X10 : am_C := .inl (9, 42, fun k => ([some 1, some 2, none, some 3, some 4, some 5, some 6, none, some 7, some 8, some 9, none, some 10, some 11, some 12, none, some 13, some 14, some 15, none, none, some 16, some 17, none, none, none, some 18, some 19, some 20, some 21, some 22, none, some 23, some 24, some 25, some 26, some 27, some 28, some 29, some 30, some 31, none] : List (Option Nat)).getD k none)
def LXl : List am_C := [o_X9, o_X8 1, a_I 39, o_X8 3, a_I 39, o_X2 5, a_I 8, a_I 8, a_I 8, a_I 8, o_X4 10, a_I 8, a_I 8, a_I 8, o_X1 14, a_I 9, a_I 9, a_I 9, a_I 9, o_X1 19, a_I 9, a_I 9, a_I 9, a_I 9, o_X7 24, a_I 8, a_I 8, a_I 8, o_X0 28, a_I 8, a_I 8, a_I 8, a_I 24, a_I 9, a_I 9, o_X0 35, a_I 8, a_I 8, a_I 8, a_I 24, a_I 9, a_I 9, o_X5 42, a_I 72, a_I 216, .inr (.inr (2, 4, fun j => 46 + 2 * j)), o_X6 46, a_I 60, o_X6 48, a_I 60, o_X6 50, a_I 60, o_X6 52, a_I 60]
def NX : Nat := 54
def LX : Nat → am_C := fun c => LXl.getD c (a_I 0)
theorem fX_0 : 0 < NX ∧ LX 0 = o_X9 := ⟨by decide, rfl⟩
theorem fX_1 : 1 < NX ∧ LX 1 = o_X8 1 := ⟨by decide, rfl⟩
theorem fX_2 : 2 < NX ∧ LX 2 = a_I 39 := ⟨by decide, rfl⟩
theorem fX_3 : 3 < NX ∧ LX 3 = o_X8 3 := ⟨by decide, rfl⟩
theorem fX_4 : 4 < NX ∧ LX 4 = a_I 39 := ⟨by decide, rfl⟩
theorem fX_5 : 5 < NX ∧ LX 5 = o_X2 5 := ⟨by decide, rfl⟩
theorem fX_6 : 6 < NX ∧ LX 6 = a_I 8 := ⟨by decide, rfl⟩
theorem fX_7 : 7 < NX ∧ LX 7 = a_I 8 := ⟨by decide, rfl⟩
theorem fX_8 : 8 < NX ∧ LX 8 = a_I 8 := ⟨by decide, rfl⟩
theorem fX_9 : 9 < NX ∧ LX 9 = a_I 8 := ⟨by decide, rfl⟩
theorem fX_10 : 10 < NX ∧ LX 10 = o_X4 10 := ⟨by decide, rfl⟩
theorem fX_11 : 11 < NX ∧ LX 11 = a_I 8 := ⟨by decide, rfl⟩
theorem fX_12 : 12 < NX ∧ LX 12 = a_I 8 := ⟨by decide, rfl⟩
theorem fX_13 : 13 < NX ∧ LX 13 = a_I 8 := ⟨by decide, rfl⟩
theorem fX_14 : 14 < NX ∧ LX 14 = o_X1 14 := ⟨by decide, rfl⟩
theorem fX_15 : 15 < NX ∧ LX 15 = a_I 9 := ⟨by decide, rfl⟩
theorem fX_16 : 16 < NX ∧ LX 16 = a_I 9 := ⟨by decide, rfl⟩
theorem fX_17 : 17 < NX ∧ LX 17 = a_I 9 := ⟨by decide, rfl⟩
theorem fX_18 : 18 < NX ∧ LX 18 = a_I 9 := ⟨by decide, rfl⟩
theorem fX_19 : 19 < NX ∧ LX 19 = o_X1 19 := ⟨by decide, rfl⟩
theorem fX_20 : 20 < NX ∧ LX 20 = a_I 9 := ⟨by decide, rfl⟩
theorem fX_21 : 21 < NX ∧ LX 21 = a_I 9 := ⟨by decide, rfl⟩
theorem fX_22 : 22 < NX ∧ LX 22 = a_I 9 := ⟨by decide, rfl⟩
theorem fX_23 : 23 < NX ∧ LX 23 = a_I 9 := ⟨by decide, rfl⟩
theorem fX_24 : 24 < NX ∧ LX 24 = o_X7 24 := ⟨by decide, rfl⟩
theorem fX_25 : 25 < NX ∧ LX 25 = a_I 8 := ⟨by decide, rfl⟩
theorem fX_26 : 26 < NX ∧ LX 26 = a_I 8 := ⟨by decide, rfl⟩
theorem fX_27 : 27 < NX ∧ LX 27 = a_I 8 := ⟨by decide, rfl⟩
theorem fX_28 : 28 < NX ∧ LX 28 = o_X0 28 := ⟨by decide, rfl⟩
theorem fX_29 : 29 < NX ∧ LX 29 = a_I 8 := ⟨by decide, rfl⟩
theorem fX_30 : 30 < NX ∧ LX 30 = a_I 8 := ⟨by decide, rfl⟩
theorem fX_31 : 31 < NX ∧ LX 31 = a_I 8 := ⟨by decide, rfl⟩
theorem fX_32 : 32 < NX ∧ LX 32 = a_I 24 := ⟨by decide, rfl⟩
theorem fX_33 : 33 < NX ∧ LX 33 = a_I 9 := ⟨by decide, rfl⟩
theorem fX_34 : 34 < NX ∧ LX 34 = a_I 9 := ⟨by decide, rfl⟩
theorem fX_35 : 35 < NX ∧ LX 35 = o_X0 35 := ⟨by decide, rfl⟩
theorem fX_36 : 36 < NX ∧ LX 36 = a_I 8 := ⟨by decide, rfl⟩
theorem fX_37 : 37 < NX ∧ LX 37 = a_I 8 := ⟨by decide, rfl⟩
theorem fX_38 : 38 < NX ∧ LX 38 = a_I 8 := ⟨by decide, rfl⟩
theorem fX_39 : 39 < NX ∧ LX 39 = a_I 24 := ⟨by decide, rfl⟩
theorem fX_40 : 40 < NX ∧ LX 40 = a_I 9 := ⟨by decide, rfl⟩
theorem fX_41 : 41 < NX ∧ LX 41 = a_I 9 := ⟨by decide, rfl⟩
theorem fX_42 : 42 < NX ∧ LX 42 = o_X5 42 := ⟨by decide, rfl⟩
theorem fX_43 : 43 < NX ∧ LX 43 = a_I 72 := ⟨by decide, rfl⟩
theorem fX_44 : 44 < NX ∧ LX 44 = a_I 216 := ⟨by decide, rfl⟩
theorem fX_45 : 45 < NX ∧ LX 45 = .inr (.inr (2, 4, fun j => 46 + 2 * j)) := ⟨by decide, rfl⟩
theorem fX_46 : 46 < NX ∧ LX 46 = o_X6 46 := ⟨by decide, rfl⟩
theorem fX_47 : 47 < NX ∧ LX 47 = a_I 60 := ⟨by decide, rfl⟩
theorem fX_48 : 48 < NX ∧ LX 48 = o_X6 48 := ⟨by decide, rfl⟩
theorem fX_49 : 49 < NX ∧ LX 49 = a_I 60 := ⟨by decide, rfl⟩
theorem fX_50 : 50 < NX ∧ LX 50 = o_X6 50 := ⟨by decide, rfl⟩
theorem fX_51 : 51 < NX ∧ LX 51 = a_I 60 := ⟨by decide, rfl⟩
theorem fX_52 : 52 < NX ∧ LX 52 = o_X6 52 := ⟨by decide, rfl⟩
theorem fX_53 : 53 < NX ∧ LX 53 = a_I 60 := ⟨by decide, rfl⟩
def LMl : List am_C := [o_X10, a_I 2, a_I 78, a_I 9, a_I 9, a_I 9, a_I 9, a_I 9, a_I 9, a_I 9, a_I 9, a_I 9, a_I 9, a_I 9, a_I 9, a_I 9, a_I 8, a_I 8, a_I 192, a_I 192, a_I 24, a_I 24, a_I 2, a_I 8, a_I 8, a_I 8, a_I 240, a_Z 4, a_I 4, a_I 4, a_I 240, a_I 60]
def NM : Nat := 32
def LM : Nat → am_C := fun c => LMl.getD c (a_I 0)
theorem fM_0 : 0 < NM ∧ LM 0 = o_X10 := ⟨by decide, rfl⟩
theorem fM_1 : 1 < NM ∧ LM 1 = a_I 2 := ⟨by decide, rfl⟩
theorem fM_2 : 2 < NM ∧ LM 2 = a_I 78 := ⟨by decide, rfl⟩
theorem fM_3 : 3 < NM ∧ LM 3 = a_I 9 := ⟨by decide, rfl⟩
theorem fM_4 : 4 < NM ∧ LM 4 = a_I 9 := ⟨by decide, rfl⟩
theorem fM_5 : 5 < NM ∧ LM 5 = a_I 9 := ⟨by decide, rfl⟩
theorem fM_6 : 6 < NM ∧ LM 6 = a_I 9 := ⟨by decide, rfl⟩
theorem fM_7 : 7 < NM ∧ LM 7 = a_I 9 := ⟨by decide, rfl⟩
theorem fM_8 : 8 < NM ∧ LM 8 = a_I 9 := ⟨by decide, rfl⟩
theorem fM_9 : 9 < NM ∧ LM 9 = a_I 9 := ⟨by decide, rfl⟩
theorem fM_10 : 10 < NM ∧ LM 10 = a_I 9 := ⟨by decide, rfl⟩
theorem fM_11 : 11 < NM ∧ LM 11 = a_I 9 := ⟨by decide, rfl⟩
theorem fM_12 : 12 < NM ∧ LM 12 = a_I 9 := ⟨by decide, rfl⟩
theorem fM_13 : 13 < NM ∧ LM 13 = a_I 9 := ⟨by decide, rfl⟩
theorem fM_14 : 14 < NM ∧ LM 14 = a_I 9 := ⟨by decide, rfl⟩
theorem fM_15 : 15 < NM ∧ LM 15 = a_I 9 := ⟨by decide, rfl⟩
theorem fM_16 : 16 < NM ∧ LM 16 = a_I 8 := ⟨by decide, rfl⟩
theorem fM_17 : 17 < NM ∧ LM 17 = a_I 8 := ⟨by decide, rfl⟩
theorem fM_18 : 18 < NM ∧ LM 18 = a_I 192 := ⟨by decide, rfl⟩
theorem fM_19 : 19 < NM ∧ LM 19 = a_I 192 := ⟨by decide, rfl⟩
theorem fM_20 : 20 < NM ∧ LM 20 = a_I 24 := ⟨by decide, rfl⟩
theorem fM_21 : 21 < NM ∧ LM 21 = a_I 24 := ⟨by decide, rfl⟩
theorem fM_22 : 22 < NM ∧ LM 22 = a_I 2 := ⟨by decide, rfl⟩
theorem fM_23 : 23 < NM ∧ LM 23 = a_I 8 := ⟨by decide, rfl⟩
theorem fM_24 : 24 < NM ∧ LM 24 = a_I 8 := ⟨by decide, rfl⟩
theorem fM_25 : 25 < NM ∧ LM 25 = a_I 8 := ⟨by decide, rfl⟩
theorem fM_26 : 26 < NM ∧ LM 26 = a_I 240 := ⟨by decide, rfl⟩
theorem fM_27 : 27 < NM ∧ LM 27 = a_Z 4 := ⟨by decide, rfl⟩
theorem fM_28 : 28 < NM ∧ LM 28 = a_I 4 := ⟨by decide, rfl⟩
theorem fM_29 : 29 < NM ∧ LM 29 = a_I 4 := ⟨by decide, rfl⟩
theorem fM_30 : 30 < NM ∧ LM 30 = a_I 240 := ⟨by decide, rfl⟩
theorem fM_31 : 31 < NM ∧ LM 31 = a_I 60 := ⟨by decide, rfl⟩
def Is_X8 (c : Nat) : Prop := (c < NX ∧ LX c = o_X8 c) ∧ (c + 1 < NX ∧ LX (c + 1) = a_I 39)
theorem iX8_1 : Is_X8 1 := ⟨fX_1, fX_2⟩
theorem iX8_3 : Is_X8 3 := ⟨fX_3, fX_4⟩
def isX8 (c : Nat) : Bool := c == 1 || c == 3
theorem isX8_of {c : Nat} (h : isX8 c = true) : Is_X8 c := by
  simp only [isX8, Bool.or_eq_true, beq_iff_eq] at h
  rcases h with rfl | rfl
  · exact iX8_1
  · exact iX8_3
def Is_X1 (c : Nat) : Prop := (c < NX ∧ LX c = o_X1 c) ∧ (c + 1 < NX ∧ LX (c + 1) = a_I 9) ∧ (c + 2 < NX ∧ LX (c + 2) = a_I 9) ∧ (c + 3 < NX ∧ LX (c + 3) = a_I 9) ∧ (c + 4 < NX ∧ LX (c + 4) = a_I 9)
theorem iX1_14 : Is_X1 14 := ⟨fX_14, fX_15, fX_16, fX_17, fX_18⟩
theorem iX1_19 : Is_X1 19 := ⟨fX_19, fX_20, fX_21, fX_22, fX_23⟩
def isX1 (c : Nat) : Bool := c == 14 || c == 19
theorem isX1_of {c : Nat} (h : isX1 c = true) : Is_X1 c := by
  simp only [isX1, Bool.or_eq_true, beq_iff_eq] at h
  rcases h with rfl | rfl
  · exact iX1_14
  · exact iX1_19
def Is_X0 (c : Nat) : Prop := (c < NX ∧ LX c = o_X0 c) ∧ (c + 1 < NX ∧ LX (c + 1) = a_I 8) ∧ (c + 2 < NX ∧ LX (c + 2) = a_I 8) ∧ (c + 3 < NX ∧ LX (c + 3) = a_I 8) ∧ (c + 4 < NX ∧ LX (c + 4) = a_I 24) ∧ (c + 5 < NX ∧ LX (c + 5) = a_I 9) ∧ (c + 6 < NX ∧ LX (c + 6) = a_I 9)
theorem iX0_28 : Is_X0 28 := ⟨fX_28, fX_29, fX_30, fX_31, fX_32, fX_33, fX_34⟩
theorem iX0_35 : Is_X0 35 := ⟨fX_35, fX_36, fX_37, fX_38, fX_39, fX_40, fX_41⟩
def isX0 (c : Nat) : Bool := c == 28 || c == 35
theorem isX0_of {c : Nat} (h : isX0 c = true) : Is_X0 c := by
  simp only [isX0, Bool.or_eq_true, beq_iff_eq] at h
  rcases h with rfl | rfl
  · exact iX0_28
  · exact iX0_35
def Is_X6 (c : Nat) : Prop := (c < NX ∧ LX c = o_X6 c) ∧ (c + 1 < NX ∧ LX (c + 1) = a_I 60)
theorem iX6_46 : Is_X6 46 := ⟨fX_46, fX_47⟩
theorem iX6_48 : Is_X6 48 := ⟨fX_48, fX_49⟩
theorem iX6_50 : Is_X6 50 := ⟨fX_50, fX_51⟩
theorem iX6_52 : Is_X6 52 := ⟨fX_52, fX_53⟩
def isX6 (c : Nat) : Bool := c == 46 || c == 48 || c == 50 || c == 52
theorem isX6_of {c : Nat} (h : isX6 c = true) : Is_X6 c := by
  simp only [isX6, Bool.or_eq_true, beq_iff_eq] at h
  rcases h with ((rfl | rfl) | rfl) | rfl
  · exact iX6_46
  · exact iX6_48
  · exact iX6_50
  · exact iX6_52
abbrev amQi (M : am_M) (O : am_O) (z : Int32 × Sg) : State → Prop := am_Q M O z.2 (some (.int z.1))
abbrev amQl (M : am_M) (O : am_O) (z : Int64 × Sg) : State → Prop := am_Q M O z.2 (some (.long z.1))
abbrev amQv (M : am_M) (O : am_O) (z : Unit × Sg) : State → Prop := am_Q M O z.2 none
abbrev amQr (M : am_M) (O : am_O) (z : Nat × Sg) : State → Prop := am_Q M O z.2 (some (.ref (O.2.2.1 z.1)))
theorem gd_eq {β : Type} {r k : Nat} {A : Option β} {z : β} (h : gd (decide (r = k)) A = some z) : r = k ∧ A = some z := ⟨of_decide_eq_true (gd_of h).1, (gd_of h).2⟩
theorem r_letr {M : am_M} {R : Room} {O : am_O} {Q : State → Prop} {nL pc : Nat} {lv : List (Nat × Value)} {st : List Value} {σ : Sg} {β : Type} {z : β} {v : Nat} {A : Nat → Option β} (h : amlet v A = some z) (k : ∀ c1 : Nat, A c1 = some z → am_At M R O Q nL pc lv (.ref (O.2.2.1 c1) :: st) σ) : am_At M R O Q nL pc lv (.ref (O.2.2.1 v) :: st) σ := k v h
theorem cv_X9_91 : am_Cs RX9 91 yX9_isBelow cX9_isBelow 2 (some .boolean) 2 := ⟨bg_S bw_0, bw_2, bw_3, bw_1, by decide +kernel⟩
theorem inX9 : ∀ w ∈ u_ws RX9 TX9 15, w ∈ bigw := by
  rw [show u_ws RX9 TX9 15 = [Cond.laysFinal RX9 "PloughTurns" "goneText" "LPloughTurns$Text;", Cond.laysFinal RX9 "PloughTurns" "needText" "LPloughTurns$Text;", Cond.laysFinal RX9 "PloughTurns" "gone" "LPloughTurns$Gone;", Cond.laysFinal RX9 "PloughTurns" "needs" "LPloughTurns$Needs;", Cond.laysFinal RX9 "PloughTurns" "events" "LPloughTurns$Events;", Cond.laysFinal RX9 "PloughTurns" "drawn" "LPloughTurns$Events;", Cond.laysFinal RX9 "PloughTurns" "sightings" "LPloughTurns$Sightings;", Cond.laysFinal RX9 "PloughTurns" "told" "LPloughTurns$Course;", Cond.laysFinal RX9 "PloughTurns" "trial" "LPloughTurns$Course;", Cond.laysFinal RX9 "PloughTurns" "odds" "LPloughTurns$Odds;", Cond.laysFinal RX9 "PloughTurns" "looks" "[I", Cond.laysFinal RX9 "PloughTurns" "sheets" "[LPloughTurns$Sheet;", Cond.lays RX9 "PloughTurns" "toldIsStale" "Z", Cond.lays RX9 "PloughTurns" "oddsAreStale" "Z", Cond.lays RX9 "PloughTurns" "latestFinding" "I"] from by decide +kernel]
  exact List.forall_mem_cons.mpr ⟨bw_4, List.forall_mem_cons.mpr ⟨bw_5, List.forall_mem_cons.mpr ⟨bw_6, List.forall_mem_cons.mpr ⟨bw_7, List.forall_mem_cons.mpr ⟨bw_8, List.forall_mem_cons.mpr ⟨bw_9, List.forall_mem_cons.mpr ⟨bw_10, List.forall_mem_cons.mpr ⟨bw_11, List.forall_mem_cons.mpr ⟨bw_12, List.forall_mem_cons.mpr ⟨bw_13, List.forall_mem_cons.mpr ⟨bw_14, List.forall_mem_cons.mpr ⟨bw_15, List.forall_mem_cons.mpr ⟨bw_16, List.forall_mem_cons.mpr ⟨bw_17, List.forall_mem_cons.mpr ⟨bw_18, fun _ h => absurd h List.not_mem_nil⟩⟩⟩⟩⟩⟩⟩⟩⟩⟩⟩⟩⟩⟩⟩
theorem fg_X9_18_X9 : am_Fg RX9 18 8 1 15 := ⟨RX9, TX9, "PloughTurns", rfl, inX9, by decide, bw_19, Or.inl rfl⟩
theorem fg_X9_14_X9 : am_Fg RX9 14 8 0 15 := ⟨RX9, TX9, "PloughTurns", rfl, inX9, by decide, bw_20, Or.inl rfl⟩
theorem cv_X9_95 : am_Cv RX9 95 RX9 yX9_textOf cX9_textOf 2 (some (.object "PloughTurns$Text")) 1 := ⟨bg_V bw_22 bw_23 bw_24 bw_1 bw_21, by decide +kernel⟩
theorem inX8 : ∀ w ∈ u_ws RX8 TX8 3, w ∈ bigw := by
  rw [show u_ws RX8 TX8 3 = [Cond.laysFinal RX8 "PloughTurns$Text" "bytes" "[I", Cond.laysFinal RX8 "PloughTurns$Text" "room" "I", Cond.lays RX8 "PloughTurns$Text" "size" "I"] from by decide +kernel]
  exact List.forall_mem_cons.mpr ⟨bw_25, List.forall_mem_cons.mpr ⟨bw_26, List.forall_mem_cons.mpr ⟨bw_27, fun _ h => absurd h List.not_mem_nil⟩⟩⟩
theorem fg_X9_99_X8 : am_Fg RX9 99 7 2 3 := ⟨RX8, TX8, "PloughTurns$Text", rfl, inX8, by decide, bw_28, Or.inl rfl⟩
theorem fg_X9_102_X8 : am_Fg RX9 102 7 1 3 := ⟨RX8, TX8, "PloughTurns$Text", rfl, inX8, by decide, bw_29, Or.inl rfl⟩
theorem fg_X8_15_X8 : am_Fg RX8 15 7 2 3 := ⟨RX8, TX8, "PloughTurns$Text", rfl, inX8, by decide, bw_30, Or.inl rfl⟩
theorem fg_X8_25_X8 : am_Fg RX8 25 7 1 3 := ⟨RX8, TX8, "PloughTurns$Text", rfl, inX8, by decide, bw_31, Or.inl rfl⟩
theorem fg_X8_9_X8 : am_Fg RX8 9 7 0 3 := ⟨RX8, TX8, "PloughTurns$Text", rfl, inX8, by decide, bw_32, Or.inl rfl⟩
theorem fp_X8_15_X8 : am_Fp RX8 15 7 2 3 .int := ⟨RX8, TX8, "PloughTurns$Text", tyX8, rfl, inX8, by decide, bw_30, Or.inl rfl, tyX8_ok, nmX8, rfl, by decide +kernel⟩
theorem cv_X9_105 : am_Cv RX9 105 RX8 yX8_add cX8_add 2 none 1 := ⟨bg_V bw_35 bw_36 bw_37 bw_34 bw_33, by decide +kernel⟩
theorem fg_X9_31_X9 : am_Fg RX9 31 8 3 15 := ⟨RX9, TX9, "PloughTurns", rfl, inX9, by decide, bw_38, Or.inl rfl⟩
theorem inX4 : ∀ w ∈ u_ws RX4 TX4 6, w ∈ bigw := by
  rw [show u_ws RX4 TX4 6 = [Cond.laysFinal RX4 "PloughTurns$Listing" "step" "I", Cond.lays RX4 "PloughTurns$Listing" "size" "I", Cond.lays RX4 "PloughTurns$Listing" "fault" "I", Cond.laysFinal RX4 "PloughTurns$Needs" "who" "[I", Cond.laysFinal RX4 "PloughTurns$Needs" "night" "[I", Cond.laysFinal RX4 "PloughTurns$Needs" "much" "[I"] from by decide +kernel]
  exact List.forall_mem_cons.mpr ⟨bw_39, List.forall_mem_cons.mpr ⟨bw_40, List.forall_mem_cons.mpr ⟨bw_41, List.forall_mem_cons.mpr ⟨bw_42, List.forall_mem_cons.mpr ⟨bw_43, List.forall_mem_cons.mpr ⟨bw_44, fun _ h => absurd h List.not_mem_nil⟩⟩⟩⟩⟩⟩
theorem fp_X3_15_X4 : am_Fp RX3 15 3 2 6 .int := ⟨RX4, TX4, "PloughTurns$Listing", tyX4, rfl, inX4, by decide, bw_45, Or.inl rfl, tyX4_ok, nmX4, rfl, by decide +kernel⟩
theorem fg_X3_27_X8 : am_Fg RX3 27 7 2 3 := ⟨RX8, TX8, "PloughTurns$Text", rfl, inX8, by decide, bw_46, Or.inl rfl⟩
theorem fg_X3_15_X4 : am_Fg RX3 15 3 2 6 := ⟨RX4, TX4, "PloughTurns$Listing", rfl, inX4, by decide, bw_45, Or.inl rfl⟩
theorem fg_X3_24_X4 : am_Fg RX3 24 3 0 6 := ⟨RX4, TX4, "PloughTurns$Listing", rfl, inX4, by decide, bw_47, Or.inl rfl⟩
theorem fg_X3_30_X8 : am_Fg RX3 30 7 0 3 := ⟨RX8, TX8, "PloughTurns$Text", rfl, inX8, by decide, bw_48, Or.inl rfl⟩
theorem fg_X4_9_X4 : am_Fg RX4 9 3 3 6 := ⟨RX4, TX4, "PloughTurns$Needs", rfl, inX4, by decide, bw_49, Or.inl rfl⟩
theorem cv_X4_21 : am_Cn RX4 21 RX9 yX9_isBelow cX9_isBelow 2 (some .boolean) 2 := ⟨bg_S bw_0, by decide +kernel, bw_3, bw_1, by decide +kernel⟩
theorem fg_X4_15_X4 : am_Fg RX4 15 3 4 6 := ⟨RX4, TX4, "PloughTurns$Needs", rfl, inX4, by decide, bw_50, Or.inl rfl⟩
theorem fg_X4_18_X4 : am_Fg RX4 18 3 5 6 := ⟨RX4, TX4, "PloughTurns$Needs", rfl, inX4, by decide, bw_51, Or.inl rfl⟩
theorem cv_X3_34_X4 : am_Ca RX3 34 RX4 RX3 ⟨RX3, "takesByte", "(III)Z"⟩ yX4_takesByte cX4_takesByte 4 (some .boolean) 3 := ⟨bg_U bw_54 bw_55 bw_56 bw_57 bw_53 bw_52, by decide +kernel, by decide +kernel⟩
theorem fp_X3_9_X4 : am_Fp RX3 9 3 1 6 .int := ⟨RX4, TX4, "PloughTurns$Listing", tyX4, rfl, inX4, by decide, bw_58, Or.inl rfl, tyX4_ok, nmX4, rfl, by decide +kernel⟩
theorem cv_X9_340_X4 : am_Cu RX9 340 RX4 RX3 ⟨RX4, "take", "(LPloughTurns$Text;)V"⟩ yX3_take cX3_take 4 none 1 := ⟨bg_U bw_61 bw_62 bw_63 bw_64 bw_60 bw_59, by decide +kernel, by decide +kernel⟩
theorem fg_X9_24_X9 : am_Fg RX9 24 8 2 15 := ⟨RX9, TX9, "PloughTurns", rfl, inX9, by decide, bw_65, Or.inl rfl⟩
theorem inX2 : ∀ w ∈ u_ws RX2 TX2 7, w ∈ bigw := by
  rw [show u_ws RX2 TX2 7 = [Cond.laysFinal RX2 "PloughTurns$Listing" "step" "I", Cond.lays RX2 "PloughTurns$Listing" "size" "I", Cond.lays RX2 "PloughTurns$Listing" "fault" "I", Cond.laysFinal RX2 "PloughTurns$Gone" "sort" "[I", Cond.laysFinal RX2 "PloughTurns$Gone" "x" "[I", Cond.laysFinal RX2 "PloughTurns$Gone" "y" "[I", Cond.laysFinal RX2 "PloughTurns$Gone" "far" "[I"] from by decide +kernel]
  exact List.forall_mem_cons.mpr ⟨bw_66, List.forall_mem_cons.mpr ⟨bw_67, List.forall_mem_cons.mpr ⟨bw_68, List.forall_mem_cons.mpr ⟨bw_69, List.forall_mem_cons.mpr ⟨bw_70, List.forall_mem_cons.mpr ⟨bw_71, List.forall_mem_cons.mpr ⟨bw_72, fun _ h => absurd h List.not_mem_nil⟩⟩⟩⟩⟩⟩⟩
theorem fp_X3_15_X2 : am_Fp RX3 15 2 2 7 .int := ⟨RX2, TX2, "PloughTurns$Listing", tyX2, rfl, inX2, by decide, bw_45, Or.inl rfl, tyX2_ok, nmX2, rfl, by decide +kernel⟩
theorem fg_X3_15_X2 : am_Fg RX3 15 2 2 7 := ⟨RX2, TX2, "PloughTurns$Listing", rfl, inX2, by decide, bw_45, Or.inl rfl⟩
theorem fg_X3_24_X2 : am_Fg RX3 24 2 0 7 := ⟨RX2, TX2, "PloughTurns$Listing", rfl, inX2, by decide, bw_47, Or.inl rfl⟩
theorem fg_X2_9_X2 : am_Fg RX2 9 2 3 7 := ⟨RX2, TX2, "PloughTurns$Gone", rfl, inX2, by decide, bw_73, Or.inl rfl⟩
theorem cv_X2_24 : am_Cs RX2 24 yX2_sortOf cX2_sortOf 1 (some .int) 1 := ⟨bg_S bw_74, bw_76, bw_77, bw_75, by decide +kernel⟩
theorem fg_X2_15_X2 : am_Fg RX2 15 2 4 7 := ⟨RX2, TX2, "PloughTurns$Gone", rfl, inX2, by decide, bw_78, Or.inl rfl⟩
theorem cv_X2_28 : am_Cn RX2 28 RX9 yX9_isBelow cX9_isBelow 2 (some .boolean) 2 := ⟨bg_S bw_0, by decide +kernel, bw_3, bw_1, by decide +kernel⟩
theorem fg_X2_18_X2 : am_Fg RX2 18 2 5 7 := ⟨RX2, TX2, "PloughTurns$Gone", rfl, inX2, by decide, bw_79, Or.inl rfl⟩
theorem cv_X2_32 : am_Cv RX2 32 RX2 yX2_liesAnother cX2_liesAnother 6 (some .boolean) 4 := ⟨bg_V bw_81 bw_82 bw_83 bw_75 bw_80, by decide +kernel⟩
theorem fg_X2_21_X2 : am_Fg RX2 21 2 6 7 := ⟨RX2, TX2, "PloughTurns$Gone", rfl, inX2, by decide, bw_84, Or.inl rfl⟩
theorem cv_X3_34_X2 : am_Ca RX3 34 RX2 RX3 ⟨RX3, "takesByte", "(III)Z"⟩ yX2_takesByte cX2_takesByte 5 (some .boolean) 3 := ⟨bg_U bw_54 bw_55 bw_86 bw_87 bw_75 bw_85, by decide +kernel, by decide +kernel⟩
theorem fp_X3_9_X2 : am_Fp RX3 9 2 1 7 .int := ⟨RX2, TX2, "PloughTurns$Listing", tyX2, rfl, inX2, by decide, bw_58, Or.inl rfl, tyX2_ok, nmX2, rfl, by decide +kernel⟩
theorem cv_X9_336_X2 : am_Cu RX9 336 RX2 RX3 ⟨RX2, "take", "(LPloughTurns$Text;)V"⟩ yX3_take cX3_take 4 none 1 := ⟨bg_U bw_88 bw_89 bw_90 bw_64 bw_60 bw_59, by decide +kernel, by decide +kernel⟩
theorem fp_X9_79_X9 : am_Fp RX9 79 8 12 15 .boolean := ⟨RX9, TX9, "PloughTurns", tyX9, rfl, inX9, by decide, bw_91, Or.inl rfl, tyX9_ok, nmX9, rfl, by decide +kernel⟩
theorem fp_X9_83_X9 : am_Fp RX9 83 8 13 15 .boolean := ⟨RX9, TX9, "PloughTurns", tyX9, rfl, inX9, by decide, bw_92, Or.inl rfl, tyX9_ok, nmX9, rfl, by decide +kernel⟩
theorem cv_X9_142 : am_Cv RX9 142 RX9 yX9_markStale cX9_markStale 1 none 0 := ⟨bg_V bw_94 bw_95 bw_96 bw_1 bw_93, by decide +kernel⟩
theorem cv_X9_108 : am_Cv RX9 108 RX9 yX9_takeTextAnew cX9_takeTextAnew 2 none 1 := ⟨bg_V bw_98 bw_99 bw_100 bw_1 bw_97, by decide +kernel⟩
theorem fp_X9_99_X8 : am_Fp RX9 99 7 2 3 .int := ⟨RX8, TX8, "PloughTurns$Text", tyX8, rfl, inX8, by decide, bw_28, Or.inl rfl, tyX8_ok, nmX8, rfl, by decide +kernel⟩
theorem fg_X9_114_X4 : am_Fg RX9 114 3 2 6 := ⟨RX4, TX4, "PloughTurns$Needs", rfl, inX4, by decide, bw_101, Or.inr bw_102⟩
theorem fg_X9_111_X2 : am_Fg RX9 111 2 2 7 := ⟨RX2, TX2, "PloughTurns$Gone", rfl, inX2, by decide, bw_103, Or.inr bw_104⟩
theorem fg_X9_115_X2 : am_Fg RX9 115 2 1 7 := ⟨RX2, TX2, "PloughTurns$Gone", rfl, inX2, by decide, bw_105, Or.inr bw_106⟩
theorem fg_X9_116_X2 : am_Fg RX9 116 2 3 7 := ⟨RX2, TX2, "PloughTurns$Gone", rfl, inX2, by decide, bw_107, Or.inl rfl⟩
theorem fg_X9_119_X2 : am_Fg RX9 119 2 4 7 := ⟨RX2, TX2, "PloughTurns$Gone", rfl, inX2, by decide, bw_108, Or.inl rfl⟩
theorem fg_X9_122_X2 : am_Fg RX9 122 2 5 7 := ⟨RX2, TX2, "PloughTurns$Gone", rfl, inX2, by decide, bw_109, Or.inl rfl⟩
theorem fg_X9_125_X2 : am_Fg RX9 125 2 6 7 := ⟨RX2, TX2, "PloughTurns$Gone", rfl, inX2, by decide, bw_110, Or.inl rfl⟩
theorem fg_X9_128_X4 : am_Fg RX9 128 3 1 6 := ⟨RX4, TX4, "PloughTurns$Needs", rfl, inX4, by decide, bw_111, Or.inr bw_112⟩
theorem fg_X9_129_X4 : am_Fg RX9 129 3 3 6 := ⟨RX4, TX4, "PloughTurns$Needs", rfl, inX4, by decide, bw_113, Or.inl rfl⟩
theorem fg_X9_132_X4 : am_Fg RX9 132 3 4 6 := ⟨RX4, TX4, "PloughTurns$Needs", rfl, inX4, by decide, bw_114, Or.inl rfl⟩
theorem fg_X9_135_X4 : am_Fg RX9 135 3 5 6 := ⟨RX4, TX4, "PloughTurns$Needs", rfl, inX4, by decide, bw_115, Or.inl rfl⟩
theorem fg_X9_38_X9 : am_Fg RX9 38 8 4 15 := ⟨RX9, TX9, "PloughTurns", rfl, inX9, by decide, bw_116, Or.inl rfl⟩
theorem inX1 : ∀ w ∈ u_ws RX1 TX1 5, w ∈ bigw := by
  rw [show u_ws RX1 TX1 5 = [Cond.laysFinal RX1 "PloughTurns$Events" "kind" "[I", Cond.laysFinal RX1 "PloughTurns$Events" "night" "[I", Cond.laysFinal RX1 "PloughTurns$Events" "furrow" "[I", Cond.laysFinal RX1 "PloughTurns$Events" "order" "[I", Cond.lays RX1 "PloughTurns$Events" "size" "I"] from by decide +kernel]
  exact List.forall_mem_cons.mpr ⟨bw_117, List.forall_mem_cons.mpr ⟨bw_118, List.forall_mem_cons.mpr ⟨bw_119, List.forall_mem_cons.mpr ⟨bw_120, List.forall_mem_cons.mpr ⟨bw_121, fun _ h => absurd h List.not_mem_nil⟩⟩⟩⟩⟩
theorem fg_X9_138_X1 : am_Fg RX9 138 1 4 5 := ⟨RX1, TX1, "PloughTurns$Events", rfl, inX1, by decide, bw_122, Or.inl rfl⟩
theorem fg_X1_24_X1 : am_Fg RX1 24 1 4 5 := ⟨RX1, TX1, "PloughTurns$Events", rfl, inX1, by decide, bw_123, Or.inl rfl⟩
theorem fg_X1_9_X1 : am_Fg RX1 9 1 0 5 := ⟨RX1, TX1, "PloughTurns$Events", rfl, inX1, by decide, bw_124, Or.inl rfl⟩
theorem fg_X1_15_X1 : am_Fg RX1 15 1 1 5 := ⟨RX1, TX1, "PloughTurns$Events", rfl, inX1, by decide, bw_125, Or.inl rfl⟩
theorem fg_X1_18_X1 : am_Fg RX1 18 1 2 5 := ⟨RX1, TX1, "PloughTurns$Events", rfl, inX1, by decide, bw_126, Or.inl rfl⟩
theorem fg_X1_21_X1 : am_Fg RX1 21 1 3 5 := ⟨RX1, TX1, "PloughTurns$Events", rfl, inX1, by decide, bw_127, Or.inl rfl⟩
theorem fp_X1_24_X1 : am_Fp RX1 24 1 4 5 .int := ⟨RX1, TX1, "PloughTurns$Events", tyX1, rfl, inX1, by decide, bw_123, Or.inl rfl, tyX1_ok, nmX1, rfl, by decide +kernel⟩
theorem cv_X9_139 : am_Cv RX9 139 RX1 yX1_add cX1_add 6 none 3 := ⟨bg_V bw_130 bw_131 bw_132 bw_129 bw_128, by decide +kernel⟩
theorem cv_X9_145 : am_Cv RX9 145 RX1 yX1_dropLast cX1_dropLast 3 none 0 := ⟨bg_V bw_134 bw_135 bw_136 bw_129 bw_133, by decide +kernel⟩
theorem fg_X9_75_X9 : am_Fg RX9 75 8 11 15 := ⟨RX9, TX9, "PloughTurns", rfl, inX9, by decide, bw_137, Or.inl rfl⟩
theorem inX6 : ∀ w ∈ u_ws RX6 TX6 3, w ∈ bigw := by
  rw [show u_ws RX6 TX6 3 = [Cond.laysFinal RX6 "PloughTurns$Sheet" "items" "[I", Cond.lays RX6 "PloughTurns$Sheet" "form" "I", Cond.lays RX6 "PloughTurns$Sheet" "size" "I"] from by decide +kernel]
  exact List.forall_mem_cons.mpr ⟨bw_138, List.forall_mem_cons.mpr ⟨bw_139, List.forall_mem_cons.mpr ⟨bw_140, fun _ h => absurd h List.not_mem_nil⟩⟩⟩
theorem fg_X9_148_X6 : am_Fg RX9 148 5 1 3 := ⟨RX6, TX6, "PloughTurns$Sheet", rfl, inX6, by decide, bw_141, Or.inl rfl⟩
theorem fp_X9_86_X9 : am_Fp RX9 86 8 14 15 .int := ⟨RX9, TX9, "PloughTurns", tyX9, rfl, inX9, by decide, bw_142, Or.inl rfl, tyX9_ok, nmX9, rfl, by decide +kernel⟩
theorem cv_X9_151 : am_Cv RX9 151 RX9 yX9_find cX9_find 2 (some .int) 1 := ⟨bg_V bw_144 bw_145 bw_146 bw_1 bw_143, by decide +kernel⟩
theorem fg_X9_155_X6 : am_Fg RX9 155 5 2 3 := ⟨RX6, TX6, "PloughTurns$Sheet", rfl, inX6, by decide, bw_147, Or.inl rfl⟩
theorem fg_X9_156_X6 : am_Fg RX9 156 5 0 3 := ⟨RX6, TX6, "PloughTurns$Sheet", rfl, inX6, by decide, bw_148, Or.inl rfl⟩
theorem cv_X9_159 : am_Cv RX9 159 RX9 yX9_event cX9_event 4 (some .int) 3 := ⟨bg_V bw_150 bw_151 bw_152 bw_1 bw_149, by decide +kernel⟩
theorem fg_X9_79_X9 : am_Fg RX9 79 8 12 15 := ⟨RX9, TX9, "PloughTurns", rfl, inX9, by decide, bw_91, Or.inl rfl⟩
theorem fg_X9_55_X9 : am_Fg RX9 55 8 7 15 := ⟨RX9, TX9, "PloughTurns", rfl, inX9, by decide, bw_153, Or.inl rfl⟩
theorem inX0 : ∀ w ∈ u_ws RX0 TX0 10, w ∈ bigw := by
  rw [show u_ws RX0 TX0 10 = [Cond.laysFinal RX0 "PloughTurns$Course" "met" "[I", Cond.laysFinal RX0 "PloughTurns$Course" "wanted" "[I", Cond.laysFinal RX0 "PloughTurns$Course" "times" "[I", Cond.laysFinal RX0 "PloughTurns$Course" "standing" "[I", Cond.laysFinal RX0 "PloughTurns$Course" "cameNight" "[I", Cond.laysFinal RX0 "PloughTurns$Course" "cameOne" "[I", Cond.lays RX0 "PloughTurns$Course" "came" "I", Cond.lays RX0 "PloughTurns$Course" "wrong" "I", Cond.lays RX0 "PloughTurns$Course" "upNow" "I", Cond.lays RX0 "PloughTurns$Course" "nightsOver" "I"] from by decide +kernel]
  exact List.forall_mem_cons.mpr ⟨bw_154, List.forall_mem_cons.mpr ⟨bw_155, List.forall_mem_cons.mpr ⟨bw_156, List.forall_mem_cons.mpr ⟨bw_157, List.forall_mem_cons.mpr ⟨bw_158, List.forall_mem_cons.mpr ⟨bw_159, List.forall_mem_cons.mpr ⟨bw_160, List.forall_mem_cons.mpr ⟨bw_161, List.forall_mem_cons.mpr ⟨bw_162, List.forall_mem_cons.mpr ⟨bw_163, fun _ h => absurd h List.not_mem_nil⟩⟩⟩⟩⟩⟩⟩⟩⟩⟩
theorem fp_X0_30_X0 : am_Fp RX0 30 0 6 10 .int := ⟨RX0, TX0, "PloughTurns$Course", tyX0, rfl, inX0, by decide, bw_164, Or.inl rfl, tyX0_ok, nmX0, rfl, by decide +kernel⟩
theorem fp_X0_34_X0 : am_Fp RX0 34 0 7 10 .int := ⟨RX0, TX0, "PloughTurns$Course", tyX0, rfl, inX0, by decide, bw_165, Or.inl rfl, tyX0_ok, nmX0, rfl, by decide +kernel⟩
theorem fp_X0_37_X0 : am_Fp RX0 37 0 8 10 .int := ⟨RX0, TX0, "PloughTurns$Course", tyX0, rfl, inX0, by decide, bw_166, Or.inl rfl, tyX0_ok, nmX0, rfl, by decide +kernel⟩
theorem fp_X0_40_X0 : am_Fp RX0 40 0 9 10 .int := ⟨RX0, TX0, "PloughTurns$Course", tyX0, rfl, inX0, by decide, bw_167, Or.inl rfl, tyX0_ok, nmX0, rfl, by decide +kernel⟩
theorem fg_X0_9_X0 : am_Fg RX0 9 0 0 10 := ⟨RX0, TX0, "PloughTurns$Course", rfl, inX0, by decide, bw_168, Or.inl rfl⟩
theorem fg_X0_18_X0 : am_Fg RX0 18 0 2 10 := ⟨RX0, TX0, "PloughTurns$Course", rfl, inX0, by decide, bw_169, Or.inl rfl⟩
theorem cv_X0_43 : am_Cv RX0 43 RX0 yX0_startAnew cX0_startAnew 2 none 0 := ⟨bg_V bw_172 bw_173 bw_174 bw_171 bw_170, by decide +kernel⟩
theorem fg_X0_46_X1 : am_Fg RX0 46 1 4 5 := ⟨RX1, TX1, "PloughTurns$Events", rfl, inX1, by decide, bw_175, Or.inl rfl⟩
theorem fg_X0_40_X0 : am_Fg RX0 40 0 9 10 := ⟨RX0, TX0, "PloughTurns$Course", rfl, inX0, by decide, bw_167, Or.inl rfl⟩
theorem fg_X0_21_X0 : am_Fg RX0 21 0 3 10 := ⟨RX0, TX0, "PloughTurns$Course", rfl, inX0, by decide, bw_176, Or.inl rfl⟩
theorem fg_X0_37_X0 : am_Fg RX0 37 0 8 10 := ⟨RX0, TX0, "PloughTurns$Course", rfl, inX0, by decide, bw_166, Or.inl rfl⟩
theorem cv_X0_57 : am_Cv RX0 57 RX0 yX0_endNightsTo cX0_endNightsTo 3 none 1 := ⟨bg_V bw_178 bw_179 bw_180 bw_171 bw_177, by decide +kernel⟩
theorem fg_X0_51_X1 : am_Fg RX0 51 1 3 5 := ⟨RX1, TX1, "PloughTurns$Events", rfl, inX1, by decide, bw_181, Or.inl rfl⟩
theorem fg_X0_54_X1 : am_Fg RX0 54 1 1 5 := ⟨RX1, TX1, "PloughTurns$Events", rfl, inX1, by decide, bw_182, Or.inl rfl⟩
theorem fg_X0_61_X1 : am_Fg RX0 61 1 0 5 := ⟨RX1, TX1, "PloughTurns$Events", rfl, inX1, by decide, bw_183, Or.inl rfl⟩
theorem fg_X0_15_X0 : am_Fg RX0 15 0 1 10 := ⟨RX0, TX0, "PloughTurns$Course", rfl, inX0, by decide, bw_184, Or.inl rfl⟩
theorem fg_X0_89_X4 : am_Fg RX0 89 3 1 6 := ⟨RX4, TX4, "PloughTurns$Needs", rfl, inX4, by decide, bw_185, Or.inr bw_112⟩
theorem fg_X0_92_X4 : am_Fg RX0 92 3 4 6 := ⟨RX4, TX4, "PloughTurns$Needs", rfl, inX4, by decide, bw_186, Or.inl rfl⟩
theorem fg_X0_93_X4 : am_Fg RX0 93 3 3 6 := ⟨RX4, TX4, "PloughTurns$Needs", rfl, inX4, by decide, bw_187, Or.inl rfl⟩
theorem cv_X0_96 : am_Cv RX0 96 RX4 yX4_weightOn cX4_weightOn 4 (some .int) 2 := ⟨bg_V bw_189 bw_190 bw_191 bw_53 bw_188, by decide +kernel⟩
theorem cv_X0_71 : am_Cv RX0 71 RX0 yX0_weighNeeds cX0_weighNeeds 4 none 2 := ⟨bg_V bw_193 bw_194 bw_195 bw_171 bw_192, by decide +kernel⟩
theorem fg_X0_64_X1 : am_Fg RX0 64 1 2 5 := ⟨RX1, TX1, "PloughTurns$Events", rfl, inX1, by decide, bw_196, Or.inl rfl⟩
theorem fg_X0_83_X2 : am_Fg RX0 83 2 1 7 := ⟨RX2, TX2, "PloughTurns$Gone", rfl, inX2, by decide, bw_197, Or.inr bw_106⟩
theorem fg_X0_86_X2 : am_Fg RX0 86 2 5 7 := ⟨RX2, TX2, "PloughTurns$Gone", rfl, inX2, by decide, bw_198, Or.inl rfl⟩
theorem fg_X0_106_X2 : am_Fg RX0 106 2 3 7 := ⟨RX2, TX2, "PloughTurns$Gone", rfl, inX2, by decide, bw_199, Or.inl rfl⟩
theorem fg_X0_109_X2 : am_Fg RX0 109 2 6 7 := ⟨RX2, TX2, "PloughTurns$Gone", rfl, inX2, by decide, bw_200, Or.inl rfl⟩
theorem cv_X0_100 : am_Cv RX0 100 RX0 yX0_pullOf cX0_pullOf 3 (some .int) 2 := ⟨bg_V bw_202 bw_203 bw_204 bw_171 bw_201, by decide +kernel⟩
theorem fg_X0_103_X2 : am_Fg RX0 103 2 4 7 := ⟨RX2, TX2, "PloughTurns$Gone", rfl, inX2, by decide, bw_205, Or.inl rfl⟩
theorem cv_X0_75 : am_Cv RX0 75 RX0 yX0_strongestIn cX0_strongestIn 8 (some .int) 2 := ⟨bg_V bw_207 bw_208 bw_209 bw_171 bw_206, by decide +kernel⟩
theorem fg_X0_30_X0 : am_Fg RX0 30 0 6 10 := ⟨RX0, TX0, "PloughTurns$Course", rfl, inX0, by decide, bw_164, Or.inl rfl⟩
theorem fg_X0_27_X0 : am_Fg RX0 27 0 5 10 := ⟨RX0, TX0, "PloughTurns$Course", rfl, inX0, by decide, bw_210, Or.inl rfl⟩
theorem fg_X0_24_X0 : am_Fg RX0 24 0 4 10 := ⟨RX0, TX0, "PloughTurns$Course", rfl, inX0, by decide, bw_211, Or.inl rfl⟩
theorem fg_X0_34_X0 : am_Fg RX0 34 0 7 10 := ⟨RX0, TX0, "PloughTurns$Course", rfl, inX0, by decide, bw_165, Or.inl rfl⟩
theorem cv_X0_79 : am_Cv RX0 79 RX0 yX0_bringUp cX0_bringUp 5 none 3 := ⟨bg_V bw_213 bw_214 bw_215 bw_171 bw_212, by decide +kernel⟩
theorem cv_X0_67 : am_Cv RX0 67 RX0 yX0_layDown cX0_layDown 4 none 2 := ⟨bg_V bw_217 bw_218 bw_219 bw_171 bw_216, by decide +kernel⟩
theorem cv_X9_235 : am_Cv RX9 235 RX0 yX0_run cX0_run 7 none 4 := ⟨bg_V bw_221 bw_222 bw_223 bw_171 bw_220, by decide +kernel⟩
theorem cv_X9_163 : am_Cv RX9 163 RX9 yX9_asTold cX9_asTold 1 (some (.object "PloughTurns$Course")) 0 := ⟨bg_V bw_225 bw_226 bw_227 bw_1 bw_224, by decide +kernel⟩
theorem cv_X9_167 : am_Cv RX9 167 RX0 yX0_isUp cX0_isUp 3 (some .boolean) 2 := ⟨bg_V bw_229 bw_230 bw_231 bw_171 bw_228, by decide +kernel⟩
theorem cv_X0_116 : am_Cv RX0 116 RX0 yX0_isOpenBehind cX0_isOpenBehind 4 (some .boolean) 3 := ⟨bg_V bw_233 bw_234 bw_235 bw_171 bw_232, by decide +kernel⟩
theorem cv_X9_170 : am_Cv RX9 170 RX0 yX0_wantedBehind cX0_wantedBehind 6 (some .int) 3 := ⟨bg_V bw_237 bw_238 bw_239 bw_171 bw_236, by decide +kernel⟩
theorem cv_X9_174 : am_Cv RX9 174 RX0 yX0_timesUpBy cX0_timesUpBy 5 (some .int) 2 := ⟨bg_V bw_241 bw_242 bw_243 bw_171 bw_240, by decide +kernel⟩
theorem cv_X9_186 : am_Cv RX9 186 RX0 yX0_openBehind cX0_openBehind 5 (some .int) 2 := ⟨bg_V bw_245 bw_246 bw_247 bw_171 bw_244, by decide +kernel⟩
theorem fg_X9_178_X0 : am_Fg RX9 178 0 3 10 := ⟨RX0, TX0, "PloughTurns$Course", rfl, inX0, by decide, bw_248, Or.inl rfl⟩
theorem cv_X9_181 : am_Cs RX9 181 yJ6_bitCount_0f7a4 cJ6_bitCount_0f7a4 1 (some .int) 1 := ⟨bg_S bw_252, bw_254, bw_255, bw_253, by decide +kernel⟩
theorem fg_X9_190_X0 : am_Fg RX9 190 0 0 10 := ⟨RX0, TX0, "PloughTurns$Course", rfl, inX0, by decide, bw_256, Or.inl rfl⟩
theorem cv_X0_112 : am_Cv RX0 112 RX0 yX0_isUp cX0_isUp 3 (some .boolean) 2 := ⟨bg_V bw_257 bw_230 bw_231 bw_171 bw_228, by decide +kernel⟩
theorem cv_X9_193 : am_Cv RX9 193 RX0 yX0_nightsUp cX0_nightsUp 4 (some .int) 1 := ⟨bg_V bw_259 bw_260 bw_261 bw_171 bw_258, by decide +kernel⟩
theorem fg_X9_196_X0 : am_Fg RX9 196 0 7 10 := ⟨RX0, TX0, "PloughTurns$Course", rfl, inX0, by decide, bw_262, Or.inl rfl⟩
theorem fg_X9_199_X0 : am_Fg RX9 199 0 6 10 := ⟨RX0, TX0, "PloughTurns$Course", rfl, inX0, by decide, bw_263, Or.inl rfl⟩
theorem fg_X9_205_X0 : am_Fg RX9 205 0 5 10 := ⟨RX0, TX0, "PloughTurns$Course", rfl, inX0, by decide, bw_264, Or.inl rfl⟩
theorem fg_X9_202_X0 : am_Fg RX9 202 0 4 10 := ⟨RX0, TX0, "PloughTurns$Course", rfl, inX0, by decide, bw_265, Or.inl rfl⟩
theorem fg_X9_208_X0 : am_Fg RX9 208 0 2 10 := ⟨RX0, TX0, "PloughTurns$Course", rfl, inX0, by decide, bw_266, Or.inl rfl⟩
theorem fg_X9_59_X9 : am_Fg RX9 59 8 8 15 := ⟨RX9, TX9, "PloughTurns", rfl, inX9, by decide, bw_267, Or.inl rfl⟩
theorem cv_X9_266 : am_Cv RX9 266 RX0 yX0_howManyMet cX0_howManyMet 4 (some .int) 1 := ⟨bg_V bw_269 bw_270 bw_271 bw_171 bw_268, by decide +kernel⟩
theorem cv_X9_214 : am_Cv RX9 214 RX9 yX9_metWithPlough cX9_metWithPlough 3 (some .int) 2 := ⟨bg_V bw_273 bw_274 bw_275 bw_1 bw_272, by decide +kernel⟩
theorem cv_X9_211 : am_Cv RX9 211 RX9 yX9_bestFurrow cX9_bestFurrow 6 (some .int) 1 := ⟨bg_V bw_277 bw_278 bw_279 bw_1 bw_276, by decide +kernel⟩
theorem cv_X9_341 : am_Cv RX9 341 RX2 yX2_liesAnother cX2_liesAnother 6 (some .boolean) 4 := ⟨bg_V bw_280 bw_82 bw_83 bw_75 bw_80, by decide +kernel⟩
theorem cv_X9_345 : am_Cv RX9 345 RX9 yX9_nightsUpFrom cX9_nightsUpFrom 5 (some .int) 2 := ⟨bg_V bw_282 bw_283 bw_284 bw_1 bw_281, by decide +kernel⟩
theorem cv_X9_217 : am_Cv RX9 217 RX9 yX9_bestCell cX9_bestCell 6 (some .int) 1 := ⟨bg_V bw_286 bw_287 bw_288 bw_1 bw_285, by decide +kernel⟩
theorem cv_X9_220 : am_Cv RX9 220 RX9 yX9_tellCell cX9_tellCell 4 (some .int) 3 := ⟨bg_V bw_290 bw_291 bw_292 bw_1 bw_289, by decide +kernel⟩
theorem cv_X9_223 : am_Cv RX9 223 RX9 yX9_bestNight cX9_bestNight 6 (some .int) 1 := ⟨bg_V bw_294 bw_295 bw_296 bw_1 bw_293, by decide +kernel⟩
theorem cv_X9_348 : am_Cv RX9 348 RX9 yX9_isRightWithout cX9_isRightWithout 2 (some .boolean) 1 := ⟨bg_V bw_298 bw_299 bw_300 bw_1 bw_297, by decide +kernel⟩
theorem cv_X9_226 : am_Cv RX9 226 RX9 yX9_spareEvents cX9_spareEvents 4 (some .int) 0 := ⟨bg_V bw_302 bw_303 bw_304 bw_1 bw_301, by decide +kernel⟩
theorem cv_X9_230 : am_Cs RX9 230 yX9_placeOfBit cX9_placeOfBit 4 (some .int) 2 := ⟨bg_S bw_305, bw_306, bw_307, bw_1, by decide +kernel⟩
theorem fg_X9_48_X9 : am_Fg RX9 48 8 6 15 := ⟨RX9, TX9, "PloughTurns", rfl, inX9, by decide, bw_308, Or.inl rfl⟩
theorem inX7 : ∀ w ∈ u_ws RX7 TX7 4, w ∈ bigw := by
  rw [show u_ws RX7 TX7 4 = [Cond.laysFinal RX7 "PloughTurns$Sightings" "night" "[I", Cond.laysFinal RX7 "PloughTurns$Sightings" "one" "[I", Cond.laysFinal RX7 "PloughTurns$Sightings" "isUp" "[I", Cond.lays RX7 "PloughTurns$Sightings" "size" "I"] from by decide +kernel]
  exact List.forall_mem_cons.mpr ⟨bw_309, List.forall_mem_cons.mpr ⟨bw_310, List.forall_mem_cons.mpr ⟨bw_311, List.forall_mem_cons.mpr ⟨bw_312, fun _ h => absurd h List.not_mem_nil⟩⟩⟩⟩
theorem fg_X9_233_X7 : am_Fg RX9 233 6 3 4 := ⟨RX7, TX7, "PloughTurns$Sightings", rfl, inX7, by decide, bw_313, Or.inl rfl⟩
theorem fg_X7_21_X7 : am_Fg RX7 21 6 3 4 := ⟨RX7, TX7, "PloughTurns$Sightings", rfl, inX7, by decide, bw_314, Or.inl rfl⟩
theorem fg_X7_9_X7 : am_Fg RX7 9 6 0 4 := ⟨RX7, TX7, "PloughTurns$Sightings", rfl, inX7, by decide, bw_315, Or.inl rfl⟩
theorem fg_X7_15_X7 : am_Fg RX7 15 6 1 4 := ⟨RX7, TX7, "PloughTurns$Sightings", rfl, inX7, by decide, bw_316, Or.inl rfl⟩
theorem fg_X7_18_X7 : am_Fg RX7 18 6 2 4 := ⟨RX7, TX7, "PloughTurns$Sightings", rfl, inX7, by decide, bw_317, Or.inl rfl⟩
theorem fp_X7_21_X7 : am_Fp RX7 21 6 3 4 .int := ⟨RX7, TX7, "PloughTurns$Sightings", tyX7, rfl, inX7, by decide, bw_314, Or.inl rfl, tyX7_ok, nmX7, rfl, by decide +kernel⟩
theorem cv_X9_234 : am_Cv RX9 234 RX7 yX7_add cX7_add 4 none 3 := ⟨bg_V bw_320 bw_321 bw_322 bw_319 bw_318, by decide +kernel⟩
theorem fp_X9_233_X7 : am_Fp RX9 233 6 3 4 .int := ⟨RX7, TX7, "PloughTurns$Sightings", tyX7, rfl, inX7, by decide, bw_313, Or.inl rfl, tyX7_ok, nmX7, rfl, by decide +kernel⟩
theorem cv_X7_25 : am_Cv RX7 25 RX0 yX0_isUp cX0_isUp 3 (some .boolean) 2 := ⟨bg_V bw_323 bw_230 bw_231 bw_171 bw_228, by decide +kernel⟩
theorem cv_X9_239 : am_Cv RX9 239 RX7 yX7_fit cX7_fit 5 (some .boolean) 2 := ⟨bg_V bw_325 bw_326 bw_327 bw_319 bw_324, by decide +kernel⟩
theorem fg_X9_69_X9 : am_Fg RX9 69 8 10 15 := ⟨RX9, TX9, "PloughTurns", rfl, inX9, by decide, bw_328, Or.inl rfl⟩
theorem cv_X9_246 : am_Cv RX9 246 RX9 yX9_fittingFars cX9_fittingFars 6 (some .int) 1 := ⟨bg_V bw_334 bw_335 bw_336 bw_1 bw_333, by decide +kernel⟩
theorem cv_X9_243 : am_Cv RX9 243 RX9 yX9_fittingSorts cX9_fittingSorts 5 (some .int) 1 := ⟨bg_V bw_338 bw_339 bw_340 bw_1 bw_337, by decide +kernel⟩
theorem cv_X9_249 : am_Cv RX9 249 RX9 yX9_greatestAlike cX9_greatestAlike 7 (some .int) 2 := ⟨bg_V bw_346 bw_347 bw_348 bw_1 bw_345, by decide +kernel⟩
theorem fg_X9_83_X9 : am_Fg RX9 83 8 13 15 := ⟨RX9, TX9, "PloughTurns", rfl, inX9, by decide, bw_92, Or.inl rfl⟩
theorem fg_X9_65_X9 : am_Fg RX9 65 8 9 15 := ⟨RX9, TX9, "PloughTurns", rfl, inX9, by decide, bw_350, Or.inl rfl⟩
theorem fg_X5_15_X1 : am_Fg RX5 15 1 4 5 := ⟨RX1, TX1, "PloughTurns$Events", rfl, inX1, by decide, bw_351, Or.inl rfl⟩
theorem inX5 : ∀ w ∈ u_ws RX5 TX5 1, w ∈ bigw := by
  rw [show u_ws RX5 TX5 1 = [Cond.laysFinal RX5 "PloughTurns$Odds" "sets" "[I"] from by decide +kernel]
  exact List.forall_mem_cons.mpr ⟨bw_355, fun _ h => absurd h List.not_mem_nil⟩
theorem fg_X5_11_X5 : am_Fg RX5 11 4 0 1 := ⟨RX5, TX5, "PloughTurns$Odds", rfl, inX5, by decide, bw_356, Or.inl rfl⟩
theorem cv_X5_27 : am_Cv RX5 27 RX0 yX0_run cX0_run 7 none 4 := ⟨bg_V bw_357 bw_222 bw_223 bw_171 bw_220, by decide +kernel⟩
theorem cv_X5_33 : am_Cs RX5 33 yJ6_bitCount_0f7a4 cJ6_bitCount_0f7a4 1 (some .int) 1 := ⟨bg_S bw_252, bw_358, bw_255, bw_253, by decide +kernel⟩
theorem fg_X5_39_X4 : am_Fg RX5 39 3 1 6 := ⟨RX4, TX4, "PloughTurns$Needs", rfl, inX4, by decide, bw_359, Or.inr bw_112⟩
theorem fg_X5_42_X0 : am_Fg RX5 42 0 0 10 := ⟨RX0, TX0, "PloughTurns$Course", rfl, inX0, by decide, bw_360, Or.inl rfl⟩
theorem cv_X9_254 : am_Cv RX9 254 RX5 yX5_tally cX5_tally 9 none 4 := ⟨bg_V bw_363 bw_364 bw_365 bw_362 bw_361, by decide +kernel⟩
theorem cv_X5_45 : am_Cs RX5 45 yX5_power cX5_power 5 (some .long) 2 := ⟨bg_S bw_366, bw_367, bw_368, bw_362, by decide +kernel⟩
theorem cv_X9_258 : am_Cv RX9 258 RX5 yX5_tell cX5_tell 10 (some .long) 4 := ⟨bg_V bw_371 bw_372 bw_373 bw_362 bw_370, by decide +kernel⟩
theorem fg_X9_42_X9 : am_Fg RX9 42 8 5 15 := ⟨RX9, TX9, "PloughTurns", rfl, inX9, by decide, bw_374, Or.inl rfl⟩
theorem fp_X9_138_X1 : am_Fp RX9 138 1 4 5 .int := ⟨RX1, TX1, "PloughTurns$Events", tyX1, rfl, inX1, by decide, bw_122, Or.inl rfl, tyX1_ok, nmX1, rfl, by decide +kernel⟩
theorem cv_X9_355 : am_Cs RX9 355 yX9_nextSeed cX9_nextSeed 1 (some .int) 1 := ⟨bg_S bw_376, bw_377, bw_378, bw_1, by decide +kernel⟩
theorem cv_X9_358 : am_Cs RX9 358 yX9_upperBits cX9_upperBits 1 (some .int) 1 := ⟨bg_S bw_379, bw_380, bw_381, bw_1, by decide +kernel⟩
theorem cv_X9_262 : am_Cv RX9 262 RX9 yX9_drawEvents cX9_drawEvents 8 none 2 := ⟨bg_V bw_383 bw_384 bw_385 bw_1 bw_382, by decide +kernel⟩
theorem fp_X6_15_X6 : am_Fp RX6 15 5 1 3 .int := ⟨RX6, TX6, "PloughTurns$Sheet", tyX6, rfl, inX6, by decide, bw_386, Or.inl rfl, tyX6_ok, nmX6, rfl, by decide +kernel⟩
theorem fp_X6_19_X6 : am_Fp RX6 19 5 2 3 .int := ⟨RX6, TX6, "PloughTurns$Sheet", tyX6, rfl, inX6, by decide, bw_387, Or.inl rfl, tyX6_ok, nmX6, rfl, by decide +kernel⟩
theorem fg_X6_9_X6 : am_Fg RX6 9 5 0 3 := ⟨RX6, TX6, "PloughTurns$Sheet", rfl, inX6, by decide, bw_388, Or.inl rfl⟩
theorem cv_X9_270 : am_Cv RX9 270 RX6 yX6_makeNew cX6_makeNew 4 none 2 := ⟨bg_V bw_391 bw_392 bw_393 bw_390 bw_389, by decide +kernel⟩
theorem fp_X9_148_X6 : am_Fp RX9 148 5 1 3 .int := ⟨RX6, TX6, "PloughTurns$Sheet", tyX6, rfl, inX6, by decide, bw_141, Or.inl rfl, tyX6_ok, nmX6, rfl, by decide +kernel⟩
theorem fp_X9_155_X6 : am_Fp RX9 155 5 2 3 .int := ⟨RX6, TX6, "PloughTurns$Sheet", tyX6, rfl, inX6, by decide, bw_147, Or.inl rfl, tyX6_ok, nmX6, rfl, by decide +kernel⟩
theorem cv_X9_273 : am_Cv RX9 273 RX9 yX9_refuseItem cX9_refuseItem 5 (some .int) 3 := ⟨bg_V bw_395 bw_396 bw_397 bw_1 bw_394, by decide +kernel⟩
theorem fg_X6_19_X6 : am_Fg RX6 19 5 2 3 := ⟨RX6, TX6, "PloughTurns$Sheet", rfl, inX6, by decide, bw_387, Or.inl rfl⟩
theorem cv_X6_22 : am_Cn RX6 22 RX9 yX9_isBelow cX9_isBelow 2 (some .boolean) 2 := ⟨bg_S bw_0, by decide +kernel, bw_3, bw_1, by decide +kernel⟩
theorem fg_X6_15_X6 : am_Fg RX6 15 5 1 3 := ⟨RX6, TX6, "PloughTurns$Sheet", rfl, inX6, by decide, bw_386, Or.inl rfl⟩
theorem cv_X6_26 : am_Cv RX6 26 RX6 yX6_narrowed cX6_narrowed 2 (some .int) 1 := ⟨bg_V bw_399 bw_400 bw_401 bw_390 bw_398, by decide +kernel⟩
theorem cv_X9_276 : am_Cv RX9 276 RX6 yX6_setItem cX6_setItem 3 none 2 := ⟨bg_V bw_403 bw_404 bw_405 bw_390 bw_402, by decide +kernel⟩
theorem cv_X9_280 : am_Cv RX9 280 RX6 yX6_hasSpan cX6_hasSpan 3 (some .boolean) 2 := ⟨bg_V bw_408 bw_409 bw_410 bw_390 bw_407, by decide +kernel⟩
theorem fg_X9_86_X9 : am_Fg RX9 86 8 14 15 := ⟨RX9, TX9, "PloughTurns", rfl, inX9, by decide, bw_142, Or.inl rfl⟩
theorem cv_X9_303 : am_Cv RX9 303 RX9 yX9_fault cX9_fault 2 (some .int) 1 := ⟨bg_V bw_414 bw_415 bw_416 bw_1 bw_413, by decide +kernel⟩
theorem cv_X9_299 : am_Cs RX9 299 yX9_mix cX9_mix 4 (some .long) 2 := ⟨bg_S bw_418, bw_419, bw_420, bw_1, by decide +kernel⟩
theorem cv_X9_296 : am_Cv RX9 296 RX9 yX9_count cX9_count 2 (some .int) 1 := ⟨bg_V bw_422 bw_423 bw_424 bw_1 bw_421, by decide +kernel⟩
theorem cv_X9_367 : am_Cv RX9 367 RX9 yX9_met cX9_met 2 (some .int) 1 := ⟨bg_V bw_426 bw_427 bw_428 bw_1 bw_425, by decide +kernel⟩
theorem cv_X9_369 : am_Cv RX9 369 RX9 yX9_chance cX9_chance 4 (some .long) 3 := ⟨bg_V bw_430 bw_431 bw_432 bw_1 bw_429, by decide +kernel⟩
theorem cv_X9_364 : am_Cv RX9 364 RX9 yX9_need cX9_need 3 (some .int) 2 := ⟨bg_V bw_434 bw_435 bw_436 bw_1 bw_433, by decide +kernel⟩
theorem cv_X9_305 : am_Cv RX9 305 RX9 yX9_mixNeed cX9_mixNeed 7 (some .long) 2 := ⟨bg_V bw_438 bw_439 bw_440 bw_1 bw_437, by decide +kernel⟩
theorem cv_X9_373 : am_Cv RX9 373 RX9 yX9_gone cX9_gone 3 (some .int) 2 := ⟨bg_V bw_442 bw_443 bw_444 bw_1 bw_441, by decide +kernel⟩
theorem cv_X9_378 : am_Cv RX9 378 RX9 yX9_stood cX9_stood 2 (some .int) 1 := ⟨bg_V bw_446 bw_447 bw_448 bw_1 bw_445, by decide +kernel⟩
theorem cv_X9_375 : am_Cv RX9 375 RX9 yX9_at cX9_at 5 (some .int) 3 := ⟨bg_V bw_450 bw_451 bw_452 bw_1 bw_449, by decide +kernel⟩
theorem cv_X9_381 : am_Cv RX9 381 RX9 yX9_was cX9_was 3 (some .int) 2 := ⟨bg_V bw_454 bw_455 bw_456 bw_1 bw_453, by decide +kernel⟩
theorem cv_X9_384 : am_Cv RX9 384 RX9 yX9_ask cX9_ask 7 (some .int) 1 := ⟨bg_V bw_458 bw_459 bw_460 bw_1 bw_457, by decide +kernel⟩
theorem cv_X9_309 : am_Cv RX9 309 RX9 yX9_mixOne cX9_mixOne 9 (some .long) 2 := ⟨bg_V bw_462 bw_463 bw_464 bw_1 bw_461, by decide +kernel⟩
theorem cv_X9_312 : am_Cv RX9 312 RX9 yX9_up cX9_up 4 (some .int) 2 := ⟨bg_V bw_466 bw_467 bw_468 bw_1 bw_465, by decide +kernel⟩
theorem cv_X9_315 : am_Cv RX9 315 RX9 yX9_first cX9_first 3 (some .int) 1 := ⟨bg_V bw_470 bw_471 bw_472 bw_1 bw_469, by decide +kernel⟩
theorem cv_X9_318 : am_Cv RX9 318 RX9 yX9_gate cX9_gate 5 (some .int) 0 := ⟨bg_V bw_474 bw_475 bw_476 bw_1 bw_473, by decide +kernel⟩
theorem cv_X9_321 : am_Cv RX9 321 RX9 yX9_rest cX9_rest 4 (some .int) 0 := ⟨bg_V bw_478 bw_479 bw_480 bw_1 bw_477, by decide +kernel⟩
theorem cv_X9_324 : am_Cv RX9 324 RX9 yX9_plough cX9_plough 4 (some .int) 2 := ⟨bg_V bw_482 bw_483 bw_484 bw_1 bw_481, by decide +kernel⟩
theorem cv_X9_327 : am_Cv RX9 327 RX9 yX9_spare cX9_spare 3 (some .int) 1 := ⟨bg_V bw_486 bw_487 bw_488 bw_1 bw_485, by decide +kernel⟩
theorem cv_X9_330 : am_Cv RX9 330 RX9 yX9_never cX9_never 3 (some .int) 0 := ⟨bg_V bw_490 bw_491 bw_492 bw_1 bw_489, by decide +kernel⟩
theorem cv_X9_333 : am_Cv RX9 333 RX9 yX9_years cX9_years 4 (some .int) 3 := ⟨bg_V bw_494 bw_495 bw_496 bw_1 bw_493, by decide +kernel⟩
theorem cv_X10_106 : am_Cs RX10 106 yX10_in cX10_in 3 (some .boolean) 3 := ⟨bg_S bw_497, bw_499, bw_500, bw_498, by decide +kernel⟩
theorem cv_X10_110 : am_Cs RX10 110 yX10_isText cX10_isText 1 (some .boolean) 1 := ⟨bg_S bw_501, bw_502, bw_503, bw_498, by decide +kernel⟩
theorem inX10 : ∀ w ∈ u_ws RX10 TX10 42, w ∈ bigw := by
  rw [show u_ws RX10 TX10 42 = [Cond.laysFinal RX10 "PloughTurnsModel" "typed" "[I", Cond.laysFinal RX10 "PloughTurnsModel" "texts" "[I", Cond.lays RX10 "PloughTurnsModel" "people" "I", Cond.laysFinal RX10 "PloughTurnsModel" "sorts" "[I", Cond.laysFinal RX10 "PloughTurnsModel" "xs" "[I", Cond.laysFinal RX10 "PloughTurnsModel" "ys" "[I", Cond.laysFinal RX10 "PloughTurnsModel" "fars" "[I", Cond.lays RX10 "PloughTurnsModel" "needs" "I", Cond.laysFinal RX10 "PloughTurnsModel" "whos" "[I", Cond.laysFinal RX10 "PloughTurnsModel" "since" "[I", Cond.laysFinal RX10 "PloughTurnsModel" "muchs" "[I", Cond.lays RX10 "PloughTurnsModel" "events" "I", Cond.laysFinal RX10 "PloughTurnsModel" "eventKind" "[I", Cond.laysFinal RX10 "PloughTurnsModel" "eventNight" "[I", Cond.laysFinal RX10 "PloughTurnsModel" "eventFurrow" "[I", Cond.lays RX10 "PloughTurnsModel" "eventsNow" "I", Cond.laysFinal RX10 "PloughTurnsModel" "kindNow" "[I", Cond.laysFinal RX10 "PloughTurnsModel" "nightNow" "[I", Cond.laysFinal RX10 "PloughTurnsModel" "furrowNow" "[I", Cond.lays RX10 "PloughTurnsModel" "notEvents" "I", Cond.lays RX10 "PloughTurnsModel" "upBits" "I", Cond.laysFinal RX10 "PloughTurnsModel" "often" "[I", Cond.laysFinal RX10 "PloughTurnsModel" "metAt" "[I", Cond.lays RX10 "PloughTurnsModel" "wrongNow" "I", Cond.lays RX10 "PloughTurnsModel" "firstNight" "I", Cond.lays RX10 "PloughTurnsModel" "firstOne" "I", Cond.laysFinal RX10 "PloughTurnsModel" "wantAt" "[I", Cond.laysFinal RX10 "PloughTurnsModel" "oftenAt" "[I", Cond.laysFinal RX10 "PloughTurnsModel" "upAt" "[I", Cond.laysFinal RX10 "PloughTurnsModel" "openAt" "[I", Cond.laysFinal RX10 "PloughTurnsModel" "planRow" "[I", Cond.lays RX10 "PloughTurnsModel" "seens" "I", Cond.laysFinal RX10 "PloughTurnsModel" "seenNight" "[I", Cond.laysFinal RX10 "PloughTurnsModel" "seenOne" "[I", Cond.laysFinal RX10 "PloughTurnsModel" "seenUp" "[I", Cond.laysFinal RX10 "PloughTurnsModel" "upBy" "[I", Cond.laysFinal RX10 "PloughTurnsModel" "isThere" "[Z", Cond.laysFinal RX10 "PloughTurnsModel" "forms" "[I", Cond.laysFinal RX10 "PloughTurnsModel" "sizes" "[I", Cond.laysFinal RX10 "PloughTurnsModel" "items" "[I", Cond.laysFinal RX10 "PloughTurnsModel" "moved" "[I", Cond.lays RX10 "PloughTurnsModel" "finding" "I"] from by decide +kernel]
  exact List.forall_mem_cons.mpr ⟨bw_504, List.forall_mem_cons.mpr ⟨bw_505, List.forall_mem_cons.mpr ⟨bw_506, List.forall_mem_cons.mpr ⟨bw_507, List.forall_mem_cons.mpr ⟨bw_508, List.forall_mem_cons.mpr ⟨bw_509, List.forall_mem_cons.mpr ⟨bw_510, List.forall_mem_cons.mpr ⟨bw_511, List.forall_mem_cons.mpr ⟨bw_512, List.forall_mem_cons.mpr ⟨bw_513, List.forall_mem_cons.mpr ⟨bw_514, List.forall_mem_cons.mpr ⟨bw_515, List.forall_mem_cons.mpr ⟨bw_516, List.forall_mem_cons.mpr ⟨bw_517, List.forall_mem_cons.mpr ⟨bw_518, List.forall_mem_cons.mpr ⟨bw_519, List.forall_mem_cons.mpr ⟨bw_520, List.forall_mem_cons.mpr ⟨bw_521, List.forall_mem_cons.mpr ⟨bw_522, List.forall_mem_cons.mpr ⟨bw_523, List.forall_mem_cons.mpr ⟨bw_524, List.forall_mem_cons.mpr ⟨bw_525, List.forall_mem_cons.mpr ⟨bw_526, List.forall_mem_cons.mpr ⟨bw_527, List.forall_mem_cons.mpr ⟨bw_528, List.forall_mem_cons.mpr ⟨bw_529, List.forall_mem_cons.mpr ⟨bw_530, List.forall_mem_cons.mpr ⟨bw_531, List.forall_mem_cons.mpr ⟨bw_532, List.forall_mem_cons.mpr ⟨bw_533, List.forall_mem_cons.mpr ⟨bw_534, List.forall_mem_cons.mpr ⟨bw_535, List.forall_mem_cons.mpr ⟨bw_536, List.forall_mem_cons.mpr ⟨bw_537, List.forall_mem_cons.mpr ⟨bw_538, List.forall_mem_cons.mpr ⟨bw_539, List.forall_mem_cons.mpr ⟨bw_540, List.forall_mem_cons.mpr ⟨bw_541, List.forall_mem_cons.mpr ⟨bw_542, List.forall_mem_cons.mpr ⟨bw_543, List.forall_mem_cons.mpr ⟨bw_544, List.forall_mem_cons.mpr ⟨bw_545, fun _ h => absurd h List.not_mem_nil⟩⟩⟩⟩⟩⟩⟩⟩⟩⟩⟩⟩⟩⟩⟩⟩⟩⟩⟩⟩⟩⟩⟩⟩⟩⟩⟩⟩⟩⟩⟩⟩⟩⟩⟩⟩⟩⟩⟩⟩⟩⟩
theorem fg_X10_7_X10 : am_Fg RX10 7 9 0 42 := ⟨RX10, TX10, "PloughTurnsModel", rfl, inX10, by decide, bw_546, Or.inl rfl⟩
theorem fg_X10_13_X10 : am_Fg RX10 13 9 1 42 := ⟨RX10, TX10, "PloughTurnsModel", rfl, inX10, by decide, bw_547, Or.inl rfl⟩
theorem fg_X10_130_X10 : am_Fg RX10 130 9 2 42 := ⟨RX10, TX10, "PloughTurnsModel", rfl, inX10, by decide, bw_548, Or.inl rfl⟩
theorem fp_X10_130_X10 : am_Fp RX10 130 9 2 42 .int := ⟨RX10, TX10, "PloughTurnsModel", tyX10, rfl, inX10, by decide, bw_548, Or.inl rfl, tyX10_ok, nmX10, rfl, by decide +kernel⟩
theorem fg_X10_134_X10 : am_Fg RX10 134 9 7 42 := ⟨RX10, TX10, "PloughTurnsModel", rfl, inX10, by decide, bw_549, Or.inl rfl⟩
theorem fp_X10_134_X10 : am_Fp RX10 134 9 7 42 .int := ⟨RX10, TX10, "PloughTurnsModel", tyX10, rfl, inX10, by decide, bw_549, Or.inl rfl, tyX10_ok, nmX10, rfl, by decide +kernel⟩
theorem cv_X10_114 : am_Cv RX10 114 RX10 yX10_byteAt cX10_byteAt 3 (some .int) 2 := ⟨bg_V bw_551 bw_552 bw_553 bw_498 bw_550, by decide +kernel⟩
theorem cv_X10_124 : am_Cs RX10 124 yX10_isEight cX10_isEight 1 (some .boolean) 1 := ⟨bg_S bw_554, bw_555, bw_556, bw_498, by decide +kernel⟩
theorem cv_X10_127 : am_Cs RX10 127 yX10_isNight cX10_isNight 1 (some .boolean) 1 := ⟨bg_S bw_557, bw_558, bw_559, bw_498, by decide +kernel⟩
theorem fg_X10_28_X10 : am_Fg RX10 28 9 8 42 := ⟨RX10, TX10, "PloughTurnsModel", rfl, inX10, by decide, bw_560, Or.inl rfl⟩
theorem fg_X10_31_X10 : am_Fg RX10 31 9 9 42 := ⟨RX10, TX10, "PloughTurnsModel", rfl, inX10, by decide, bw_561, Or.inl rfl⟩
theorem fg_X10_34_X10 : am_Fg RX10 34 9 10 42 := ⟨RX10, TX10, "PloughTurnsModel", rfl, inX10, by decide, bw_562, Or.inl rfl⟩
theorem cv_X10_140 : am_Cv RX10 140 RX10 yX10_readsNeed cX10_readsNeed 6 (some .int) 2 := ⟨bg_V bw_564 bw_565 bw_566 bw_498 bw_563, by decide +kernel⟩
theorem cv_X10_118 : am_Cs RX10 118 yX10_isSix cX10_isSix 1 (some .boolean) 1 := ⟨bg_S bw_567, bw_568, bw_569, bw_498, by decide +kernel⟩
theorem fg_X10_19_X10 : am_Fg RX10 19 9 4 42 := ⟨RX10, TX10, "PloughTurnsModel", rfl, inX10, by decide, bw_570, Or.inl rfl⟩
theorem fg_X10_22_X10 : am_Fg RX10 22 9 5 42 := ⟨RX10, TX10, "PloughTurnsModel", rfl, inX10, by decide, bw_571, Or.inl rfl⟩
theorem cv_X10_121 : am_Cv RX10 121 RX10 yX10_isTaken cX10_isTaken 6 (some .boolean) 3 := ⟨bg_V bw_573 bw_574 bw_575 bw_498 bw_572, by decide +kernel⟩
theorem fg_X10_16_X10 : am_Fg RX10 16 9 3 42 := ⟨RX10, TX10, "PloughTurnsModel", rfl, inX10, by decide, bw_576, Or.inl rfl⟩
theorem fg_X10_25_X10 : am_Fg RX10 25 9 6 42 := ⟨RX10, TX10, "PloughTurnsModel", rfl, inX10, by decide, bw_577, Or.inl rfl⟩
theorem cv_X10_137 : am_Cv RX10 137 RX10 yX10_readsGone cX10_readsGone 8 (some .int) 2 := ⟨bg_V bw_579 bw_580 bw_581 bw_498 bw_578, by decide +kernel⟩
theorem cv_X10_143 : am_Cv RX10 143 RX10 yX10_readsParts cX10_readsParts 6 (some .int) 1 := ⟨bg_V bw_583 bw_584 bw_585 bw_498 bw_582, by decide +kernel⟩
theorem cv_X10_147 : am_Cv RX10 147 RX10 yX10_faultOf cX10_faultOf 4 (some .int) 1 := ⟨bg_V bw_587 bw_588 bw_589 bw_498 bw_586, by decide +kernel⟩
theorem cv_X10_150 : am_Cv RX10 150 RX10 yX10_reads cX10_reads 2 none 0 := ⟨bg_V bw_591 bw_592 bw_593 bw_498 bw_590, by decide +kernel⟩
theorem cv_X10_153 : am_Cv RX10 153 RX10 yX10_isOne cX10_isOne 2 (some .boolean) 1 := ⟨bg_V bw_595 bw_596 bw_597 bw_498 bw_594, by decide +kernel⟩
theorem cv_X10_156 : am_Cv RX10 156 RX10 yX10_goneOf cX10_goneOf 3 (some .int) 2 := ⟨bg_V bw_599 bw_600 bw_601 bw_498 bw_598, by decide +kernel⟩
theorem cv_X10_159 : am_Cv RX10 159 RX10 yX10_isNeed cX10_isNeed 2 (some .boolean) 1 := ⟨bg_V bw_603 bw_604 bw_605 bw_498 bw_602, by decide +kernel⟩
theorem cv_X10_162 : am_Cs RX10 162 yX10_isThree cX10_isThree 1 (some .boolean) 1 := ⟨bg_S bw_606, bw_607, bw_608, bw_498, by decide +kernel⟩
theorem cv_X10_165 : am_Cv RX10 165 RX10 yX10_needOf cX10_needOf 3 (some .int) 2 := ⟨bg_V bw_610 bw_611 bw_612 bw_498 bw_609, by decide +kernel⟩
theorem cv_X10_168 : am_Cs RX10 168 yX10_isTwo cX10_isTwo 1 (some .boolean) 1 := ⟨bg_S bw_613, bw_614, bw_615, bw_498, by decide +kernel⟩
theorem fg_X10_171_X10 : am_Fg RX10 171 9 11 42 := ⟨RX10, TX10, "PloughTurnsModel", rfl, inX10, by decide, bw_616, Or.inl rfl⟩
theorem fg_X10_37_X10 : am_Fg RX10 37 9 12 42 := ⟨RX10, TX10, "PloughTurnsModel", rfl, inX10, by decide, bw_617, Or.inl rfl⟩
theorem fg_X10_40_X10 : am_Fg RX10 40 9 13 42 := ⟨RX10, TX10, "PloughTurnsModel", rfl, inX10, by decide, bw_618, Or.inl rfl⟩
theorem fg_X10_43_X10 : am_Fg RX10 43 9 14 42 := ⟨RX10, TX10, "PloughTurnsModel", rfl, inX10, by decide, bw_619, Or.inl rfl⟩
theorem fp_X10_171_X10 : am_Fp RX10 171 9 11 42 .int := ⟨RX10, TX10, "PloughTurnsModel", tyX10, rfl, inX10, by decide, bw_616, Or.inl rfl, tyX10_ok, nmX10, rfl, by decide +kernel⟩
theorem cv_X10_174 : am_Cs RX10 174 yX10_isSheet cX10_isSheet 1 (some .boolean) 1 := ⟨bg_S bw_620, bw_621, bw_622, bw_498, by decide +kernel⟩
theorem fg_X10_88_X10 : am_Fg RX10 88 9 36 42 := ⟨RX10, TX10, "PloughTurnsModel", rfl, inX10, by decide, bw_623, Or.inl rfl⟩
theorem fp_X10_334_X10 : am_Fp RX10 334 9 41 42 .int := ⟨RX10, TX10, "PloughTurnsModel", tyX10, rfl, inX10, by decide, bw_624, Or.inl rfl, tyX10_ok, nmX10, rfl, by decide +kernel⟩
theorem cv_X10_177 : am_Cv RX10 177 RX10 yX10_meets cX10_meets 2 (some .int) 1 := ⟨bg_V bw_626 bw_627 bw_628 bw_498 bw_625, by decide +kernel⟩
theorem fg_X10_95_X10 : am_Fg RX10 95 9 38 42 := ⟨RX10, TX10, "PloughTurnsModel", rfl, inX10, by decide, bw_629, Or.inl rfl⟩
theorem fg_X10_98_X10 : am_Fg RX10 98 9 39 42 := ⟨RX10, TX10, "PloughTurnsModel", rfl, inX10, by decide, bw_630, Or.inl rfl⟩
theorem cv_X10_180 : am_Cv RX10 180 RX10 yX10_event cX10_event 4 (some .int) 3 := ⟨bg_V bw_632 bw_633 bw_634 bw_498 bw_631, by decide +kernel⟩
theorem fp_X10_184_X10 : am_Fp RX10 184 9 15 42 .int := ⟨RX10, TX10, "PloughTurnsModel", tyX10, rfl, inX10, by decide, bw_635, Or.inl rfl, tyX10_ok, nmX10, rfl, by decide +kernel⟩
theorem fp_X10_187_X10 : am_Fp RX10 187 9 19 42 .int := ⟨RX10, TX10, "PloughTurnsModel", tyX10, rfl, inX10, by decide, bw_636, Or.inl rfl, tyX10_ok, nmX10, rfl, by decide +kernel⟩
theorem fg_X10_46_X10 : am_Fg RX10 46 9 16 42 := ⟨RX10, TX10, "PloughTurnsModel", rfl, inX10, by decide, bw_637, Or.inl rfl⟩
theorem fg_X10_49_X10 : am_Fg RX10 49 9 17 42 := ⟨RX10, TX10, "PloughTurnsModel", rfl, inX10, by decide, bw_638, Or.inl rfl⟩
theorem fg_X10_52_X10 : am_Fg RX10 52 9 18 42 := ⟨RX10, TX10, "PloughTurnsModel", rfl, inX10, by decide, bw_639, Or.inl rfl⟩
theorem cv_X10_229 : am_Cv RX10 229 RX10 yX10_asTold cX10_asTold 2 none 0 := ⟨bg_V bw_641 bw_642 bw_643 bw_498 bw_640, by decide +kernel⟩
theorem fp_X10_200_X10 : am_Fp RX10 200 9 20 42 .int := ⟨RX10, TX10, "PloughTurnsModel", tyX10, rfl, inX10, by decide, bw_644, Or.inl rfl, tyX10_ok, nmX10, rfl, by decide +kernel⟩
theorem fp_X10_197_X10 : am_Fp RX10 197 9 23 42 .int := ⟨RX10, TX10, "PloughTurnsModel", tyX10, rfl, inX10, by decide, bw_645, Or.inl rfl, tyX10_ok, nmX10, rfl, by decide +kernel⟩
theorem fp_X10_203_X10 : am_Fp RX10 203 9 24 42 .int := ⟨RX10, TX10, "PloughTurnsModel", tyX10, rfl, inX10, by decide, bw_646, Or.inl rfl, tyX10_ok, nmX10, rfl, by decide +kernel⟩
theorem fp_X10_206_X10 : am_Fp RX10 206 9 25 42 .int := ⟨RX10, TX10, "PloughTurnsModel", tyX10, rfl, inX10, by decide, bw_647, Or.inl rfl, tyX10_ok, nmX10, rfl, by decide +kernel⟩
theorem fg_X10_55_X10 : am_Fg RX10 55 9 21 42 := ⟨RX10, TX10, "PloughTurnsModel", rfl, inX10, by decide, bw_648, Or.inl rfl⟩
theorem fg_X10_58_X10 : am_Fg RX10 58 9 22 42 := ⟨RX10, TX10, "PloughTurnsModel", rfl, inX10, by decide, bw_649, Or.inl rfl⟩
theorem fg_X10_184_X10 : am_Fg RX10 184 9 15 42 := ⟨RX10, TX10, "PloughTurnsModel", rfl, inX10, by decide, bw_635, Or.inl rfl⟩
theorem fg_X10_67_X10 : am_Fg RX10 67 9 28 42 := ⟨RX10, TX10, "PloughTurnsModel", rfl, inX10, by decide, bw_650, Or.inl rfl⟩
theorem fg_X10_200_X10 : am_Fg RX10 200 9 20 42 := ⟨RX10, TX10, "PloughTurnsModel", rfl, inX10, by decide, bw_644, Or.inl rfl⟩
theorem fg_X10_70_X10 : am_Fg RX10 70 9 29 42 := ⟨RX10, TX10, "PloughTurnsModel", rfl, inX10, by decide, bw_651, Or.inl rfl⟩
theorem fg_X10_187_X10 : am_Fg RX10 187 9 19 42 := ⟨RX10, TX10, "PloughTurnsModel", rfl, inX10, by decide, bw_636, Or.inl rfl⟩
theorem cv_X10_209 : am_Cs RX10 209 yX10_isIn cX10_isIn 2 (some .boolean) 2 := ⟨bg_S bw_652, bw_653, bw_654, bw_498, by decide +kernel⟩
theorem cv_X10_222 : am_Cv RX10 222 RX10 yX10_harrows cX10_harrows 3 none 1 := ⟨bg_V bw_656 bw_657 bw_658 bw_498 bw_655, by decide +kernel⟩
theorem fg_X10_197_X10 : am_Fg RX10 197 9 23 42 := ⟨RX10, TX10, "PloughTurnsModel", rfl, inX10, by decide, bw_645, Or.inl rfl⟩
theorem cv_X10_190 : am_Cv RX10 190 RX10 yX10_isOpen cX10_isOpen 3 (some .boolean) 2 := ⟨bg_V bw_660 bw_661 bw_662 bw_498 bw_659, by decide +kernel⟩
theorem cv_X10_194 : am_Cv RX10 194 RX10 yX10_wanted cX10_wanted 6 (some .int) 2 := ⟨bg_V bw_664 bw_665 bw_666 bw_498 bw_663, by decide +kernel⟩
theorem fg_X10_203_X10 : am_Fg RX10 203 9 24 42 := ⟨RX10, TX10, "PloughTurnsModel", rfl, inX10, by decide, bw_646, Or.inl rfl⟩
theorem fg_X10_206_X10 : am_Fg RX10 206 9 25 42 := ⟨RX10, TX10, "PloughTurnsModel", rfl, inX10, by decide, bw_647, Or.inl rfl⟩
theorem cv_X10_215 : am_Cv RX10 215 RX10 yX10_comesUp cX10_comesUp 4 none 2 := ⟨bg_V bw_668 bw_669 bw_670 bw_498 bw_667, by decide +kernel⟩
theorem cv_X10_212 : am_Cv RX10 212 RX10 yX10_pull cX10_pull 4 (some .int) 2 := ⟨bg_V bw_672 bw_673 bw_674 bw_498 bw_671, by decide +kernel⟩
theorem cv_X10_219 : am_Cv RX10 219 RX10 yX10_ploughs cX10_ploughs 9 none 2 := ⟨bg_V bw_676 bw_677 bw_678 bw_498 bw_675, by decide +kernel⟩
theorem fg_X10_61_X10 : am_Fg RX10 61 9 26 42 := ⟨RX10, TX10, "PloughTurnsModel", rfl, inX10, by decide, bw_679, Or.inl rfl⟩
theorem fg_X10_64_X10 : am_Fg RX10 64 9 27 42 := ⟨RX10, TX10, "PloughTurnsModel", rfl, inX10, by decide, bw_680, Or.inl rfl⟩
theorem cv_X10_226 : am_Cv RX10 226 RX10 yX10_goesBy cX10_goesBy 3 none 1 := ⟨bg_V bw_682 bw_683 bw_684 bw_498 bw_681, by decide +kernel⟩
theorem cv_X10_232 : am_Cv RX10 232 RX10 yX10_runs cX10_runs 2 none 0 := ⟨bg_V bw_686 bw_687 bw_688 bw_498 bw_685, by decide +kernel⟩
theorem cv_X10_235 : am_Cv RX10 235 RX10 yX10_runsTold cX10_runsTold 1 none 0 := ⟨bg_V bw_690 bw_691 bw_692 bw_498 bw_689, by decide +kernel⟩
theorem cv_X10_238 : am_Cv RX10 238 RX10 yX10_atOf cX10_atOf 4 (some .int) 3 := ⟨bg_V bw_694 bw_695 bw_696 bw_498 bw_693, by decide +kernel⟩
theorem cv_X10_241 : am_Cv RX10 241 RX10 yX10_fieldOf cX10_fieldOf 6 (some .int) 3 := ⟨bg_V bw_698 bw_699 bw_700 bw_498 bw_697, by decide +kernel⟩
theorem cv_X10_244 : am_Cv RX10 244 RX10 yX10_many cX10_many 4 (some .int) 1 := ⟨bg_V bw_702 bw_703 bw_704 bw_498 bw_701, by decide +kernel⟩
theorem cv_X10_247 : am_Cv RX10 247 RX10 yX10_upOf cX10_upOf 3 (some .int) 2 := ⟨bg_V bw_706 bw_707 bw_708 bw_498 bw_705, by decide +kernel⟩
theorem cv_X10_250 : am_Cv RX10 250 RX10 yX10_metOf cX10_metOf 2 (some .int) 1 := ⟨bg_V bw_710 bw_711 bw_712 bw_498 bw_709, by decide +kernel⟩
theorem cv_X10_253 : am_Cv RX10 253 RX10 yX10_stoodNow cX10_stoodNow 4 (some .int) 1 := ⟨bg_V bw_714 bw_715 bw_716 bw_498 bw_713, by decide +kernel⟩
theorem cv_X10_256 : am_Cv RX10 256 RX10 yX10_stoodOf cX10_stoodOf 2 (some .int) 1 := ⟨bg_V bw_718 bw_719 bw_720 bw_498 bw_717, by decide +kernel⟩
theorem cv_X10_259 : am_Cv RX10 259 RX10 yX10_wronglyOf cX10_wronglyOf 1 (some .int) 0 := ⟨bg_V bw_722 bw_723 bw_724 bw_498 bw_721, by decide +kernel⟩
theorem cv_X10_263 : am_Cv RX10 263 RX10 yX10_firstOf cX10_firstOf 2 (some .int) 1 := ⟨bg_V bw_726 bw_727 bw_728 bw_498 bw_725, by decide +kernel⟩
theorem cv_X10_266 : am_Cv RX10 266 RX10 yX10_gateOf cX10_gateOf 4 (some .int) 0 := ⟨bg_V bw_730 bw_731 bw_732 bw_498 bw_729, by decide +kernel⟩
theorem cv_X10_269 : am_Cv RX10 269 RX10 yX10_restOf cX10_restOf 3 (some .int) 0 := ⟨bg_V bw_734 bw_735 bw_736 bw_498 bw_733, by decide +kernel⟩
theorem cv_X10_272 : am_Cv RX10 272 RX10 yX10_more cX10_more 3 none 2 := ⟨bg_V bw_738 bw_739 bw_740 bw_498 bw_737, by decide +kernel⟩
theorem cv_X10_275 : am_Cv RX10 275 RX10 yX10_metNow cX10_metNow 3 (some .int) 0 := ⟨bg_V bw_742 bw_743 bw_744 bw_498 bw_741, by decide +kernel⟩
theorem cv_X10_278 : am_Cv RX10 278 RX10 yX10_ploughOf cX10_ploughOf 7 (some .int) 2 := ⟨bg_V bw_746 bw_747 bw_748 bw_498 bw_745, by decide +kernel⟩
theorem cv_X10_281 : am_Cv RX10 281 RX10 yX10_isOther cX10_isOther 6 (some .boolean) 3 := ⟨bg_V bw_750 bw_751 bw_752 bw_498 bw_749, by decide +kernel⟩
theorem cv_X10_284 : am_Cv RX10 284 RX10 yX10_lieOf cX10_lieOf 10 (some .int) 2 := ⟨bg_V bw_754 bw_755 bw_756 bw_498 bw_753, by decide +kernel⟩
theorem cv_X10_287 : am_Cv RX10 287 RX10 yX10_whenOf cX10_whenOf 7 (some .int) 2 := ⟨bg_V bw_758 bw_759 bw_760 bw_498 bw_757, by decide +kernel⟩
theorem cv_X10_290 : am_Cv RX10 290 RX10 yX10_isSpared cX10_isSpared 2 (some .boolean) 1 := ⟨bg_V bw_762 bw_763 bw_764 bw_498 bw_761, by decide +kernel⟩
theorem fg_X10_73_X10 : am_Fg RX10 73 9 30 42 := ⟨RX10, TX10, "PloughTurnsModel", rfl, inX10, by decide, bw_765, Or.inl rfl⟩
theorem cv_X10_293 : am_Cv RX10 293 RX10 yX10_spareBy cX10_spareBy 3 (some .int) 0 := ⟨bg_V bw_767 bw_768 bw_769 bw_498 bw_766, by decide +kernel⟩
theorem cv_X10_296 : am_Cv RX10 296 RX10 yX10_ofRow cX10_ofRow 3 (some .int) 2 := ⟨bg_V bw_771 bw_772 bw_773 bw_498 bw_770, by decide +kernel⟩
theorem fg_X10_299_X10 : am_Fg RX10 299 9 31 42 := ⟨RX10, TX10, "PloughTurnsModel", rfl, inX10, by decide, bw_774, Or.inl rfl⟩
theorem fg_X10_76_X10 : am_Fg RX10 76 9 32 42 := ⟨RX10, TX10, "PloughTurnsModel", rfl, inX10, by decide, bw_775, Or.inl rfl⟩
theorem fg_X10_79_X10 : am_Fg RX10 79 9 33 42 := ⟨RX10, TX10, "PloughTurnsModel", rfl, inX10, by decide, bw_776, Or.inl rfl⟩
theorem fg_X10_82_X10 : am_Fg RX10 82 9 34 42 := ⟨RX10, TX10, "PloughTurnsModel", rfl, inX10, by decide, bw_777, Or.inl rfl⟩
theorem fp_X10_299_X10 : am_Fp RX10 299 9 31 42 .int := ⟨RX10, TX10, "PloughTurnsModel", tyX10, rfl, inX10, by decide, bw_774, Or.inl rfl, tyX10_ok, nmX10, rfl, by decide +kernel⟩
theorem cv_X10_302 : am_Cv RX10 302 RX10 yX10_isSeen cX10_isSeen 3 (some .boolean) 0 := ⟨bg_V bw_779 bw_780 bw_781 bw_498 bw_778, by decide +kernel⟩
theorem cv_X10_306 : am_Cv RX10 306 RX10 yX10_neverNow cX10_neverNow 3 (some .int) 0 := ⟨bg_V bw_783 bw_784 bw_785 bw_498 bw_782, by decide +kernel⟩
theorem fg_X10_85_X10 : am_Fg RX10 85 9 35 42 := ⟨RX10, TX10, "PloughTurnsModel", rfl, inX10, by decide, bw_786, Or.inl rfl⟩
theorem cv_X10_312 : am_Cv RX10 312 RX10 yX10_farsBy cX10_farsBy 6 (some .int) 1 := ⟨bg_V bw_788 bw_789 bw_790 bw_498 bw_787, by decide +kernel⟩
theorem cv_X10_309 : am_Cv RX10 309 RX10 yX10_sortsBy cX10_sortsBy 5 (some .int) 1 := ⟨bg_V bw_792 bw_793 bw_794 bw_498 bw_791, by decide +kernel⟩
theorem cv_X10_315 : am_Cv RX10 315 RX10 yX10_askOf cX10_askOf 10 (some .int) 1 := ⟨bg_V bw_796 bw_797 bw_798 bw_498 bw_795, by decide +kernel⟩
theorem cv_X10_318 : am_Cs RX10 318 yX10_lowest cX10_lowest 11 (some .long) 3 := ⟨bg_S bw_799, bw_800, bw_801, bw_498, by decide +kernel⟩
theorem cv_X10_322 : am_Cv RX10 322 RX10 yX10_chanceOf cX10_chanceOf 10 (some .long) 3 := ⟨bg_V bw_803 bw_804 bw_805 bw_498 bw_802, by decide +kernel⟩
theorem cv_X10_326 : am_Cs RX10 326 yX10_no cX10_no 1 (some .long) 1 := ⟨bg_S bw_807, bw_808, bw_809, bw_498, by decide +kernel⟩
theorem cv_X10_331 : am_Cv RX10 331 RX10 yX10_yearsOf cX10_yearsOf 6 (some .int) 3 := ⟨bg_V bw_812 bw_813 bw_814 bw_498 bw_811, by decide +kernel⟩
theorem fg_X10_92_X10 : am_Fg RX10 92 9 37 42 := ⟨RX10, TX10, "PloughTurnsModel", rfl, inX10, by decide, bw_815, Or.inl rfl⟩
theorem cv_X10_337 : am_Cv RX10 337 RX10 yX10_lacks cX10_lacks 4 (some .int) 3 := ⟨bg_V bw_817 bw_818 bw_819 bw_498 bw_816, by decide +kernel⟩
theorem cv_X10_340 : am_Cv RX10 340 RX10 yX10_keep cX10_keep 4 none 3 := ⟨bg_V bw_821 bw_822 bw_823 bw_498 bw_820, by decide +kernel⟩
theorem fg_X10_101_X10 : am_Fg RX10 101 9 40 42 := ⟨RX10, TX10, "PloughTurnsModel", rfl, inX10, by decide, bw_825, Or.inl rfl⟩
theorem fg_X10_334_X10 : am_Fg RX10 334 9 41 42 := ⟨RX10, TX10, "PloughTurnsModel", rfl, inX10, by decide, bw_624, Or.inl rfl⟩
theorem cv_X10_345 : am_Cv RX10 345 RX10 yX10_sumOf cX10_sumOf 2 (some .int) 1 := ⟨bg_V bw_827 bw_828 bw_829 bw_498 bw_826, by decide +kernel⟩
theorem cv_X10_356 : am_Cv RX10 356 RX10 yX10_count cX10_count 2 (some .int) 1 := ⟨bg_V bw_833 bw_834 bw_835 bw_498 bw_832, by decide +kernel⟩
theorem cv_X10_359 : am_Cv RX10 359 RX10 yX10_needDigest cX10_needDigest 7 (some .long) 2 := ⟨bg_V bw_837 bw_838 bw_839 bw_498 bw_836, by decide +kernel⟩
theorem cv_X10_350 : am_Cv RX10 350 RX10 yX10_nightDigest cX10_nightDigest 8 (some .long) 3 := ⟨bg_V bw_841 bw_842 bw_843 bw_498 bw_840, by decide +kernel⟩
theorem cv_X10_363 : am_Cv RX10 363 RX10 yX10_goneDigest cX10_goneDigest 7 (some .long) 2 := ⟨bg_V bw_845 bw_846 bw_847 bw_498 bw_844, by decide +kernel⟩
