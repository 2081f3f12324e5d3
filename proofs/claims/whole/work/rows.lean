section
-- ===== PART A: goes FIRST, ahead of the names: the tables' words, and 'selects' of the private methods out of them =====
/-- a private method of a class that the tables say can be made, by its rows of tables_1 -/
def lw_okq (q : MethodName × Nat) : Prop := (q.1.cls ≠ "java/lang/invoke/MethodHandle" ∧ q.1.cls ≠ "java/lang/invoke/VarHandle") ∧ Cond.instantiable q.1.cls q.2 ∈ tables_1 ∧ Cond.privateMethod q.1 ∈ tables_1 ∧ Cond.instanceMethod q.1 ∈ tables_1
theorem lw_p0 : lw_okq (⟨"PloughTurns", "textOf", "(I)LPloughTurns$Text;"⟩, 15) := ⟨⟨by decide +kernel, by decide +kernel⟩, List.mem_of_getElem? (i := 16) (by decide +kernel), List.mem_of_getElem? (i := 302) (by decide +kernel), List.mem_of_getElem? (i := 303) (by decide +kernel)⟩
theorem lw_p1 : lw_okq (⟨"PloughTurns", "takeTextAnew", "(I)V"⟩, 15) := ⟨⟨by decide +kernel, by decide +kernel⟩, List.mem_of_getElem? (i := 16) (by decide +kernel), List.mem_of_getElem? (i := 310) (by decide +kernel), List.mem_of_getElem? (i := 311) (by decide +kernel)⟩
theorem lw_p2 : lw_okq (⟨"PloughTurns", "markStale", "()V"⟩, 15) := ⟨⟨by decide +kernel, by decide +kernel⟩, List.mem_of_getElem? (i := 16) (by decide +kernel), List.mem_of_getElem? (i := 341) (by decide +kernel), List.mem_of_getElem? (i := 342) (by decide +kernel)⟩
theorem lw_p3 : lw_okq (⟨"PloughTurns", "find", "(I)I"⟩, 15) := ⟨⟨by decide +kernel, by decide +kernel⟩, List.mem_of_getElem? (i := 16) (by decide +kernel), List.mem_of_getElem? (i := 385) (by decide +kernel), List.mem_of_getElem? (i := 386) (by decide +kernel)⟩
theorem lw_p4 : lw_okq (⟨"PloughTurns", "asTold", "()LPloughTurns$Course;"⟩, 15) := ⟨⟨by decide +kernel, by decide +kernel⟩, List.mem_of_getElem? (i := 16) (by decide +kernel), List.mem_of_getElem? (i := 394) (by decide +kernel), List.mem_of_getElem? (i := 395) (by decide +kernel)⟩
theorem lw_p5 : lw_okq (⟨"PloughTurns$Course", "startAnew", "()V"⟩, 10) := ⟨⟨by decide +kernel, by decide +kernel⟩, List.mem_of_getElem? (i := 174) (by decide +kernel), List.mem_of_getElem? (i := 402) (by decide +kernel), List.mem_of_getElem? (i := 403) (by decide +kernel)⟩
theorem lw_p6 : lw_okq (⟨"PloughTurns$Course", "endNightsTo", "(I)V"⟩, 10) := ⟨⟨by decide +kernel, by decide +kernel⟩, List.mem_of_getElem? (i := 174) (by decide +kernel), List.mem_of_getElem? (i := 406) (by decide +kernel), List.mem_of_getElem? (i := 407) (by decide +kernel)⟩
theorem lw_p7 : lw_okq (⟨"PloughTurns$Course", "layDown", "(LPloughTurns$Gone;I)V"⟩, 10) := ⟨⟨by decide +kernel, by decide +kernel⟩, List.mem_of_getElem? (i := 174) (by decide +kernel), List.mem_of_getElem? (i := 410) (by decide +kernel), List.mem_of_getElem? (i := 411) (by decide +kernel)⟩
theorem lw_p8 : lw_okq (⟨"PloughTurns$Course", "weighNeeds", "(LPloughTurns$Needs;I)V"⟩, 10) := ⟨⟨by decide +kernel, by decide +kernel⟩, List.mem_of_getElem? (i := 174) (by decide +kernel), List.mem_of_getElem? (i := 414) (by decide +kernel), List.mem_of_getElem? (i := 415) (by decide +kernel)⟩
theorem lw_p9 : lw_okq (⟨"PloughTurns$Course", "strongestIn", "(LPloughTurns$Gone;I)I"⟩, 10) := ⟨⟨by decide +kernel, by decide +kernel⟩, List.mem_of_getElem? (i := 174) (by decide +kernel), List.mem_of_getElem? (i := 422) (by decide +kernel), List.mem_of_getElem? (i := 423) (by decide +kernel)⟩
theorem lw_p10 : lw_okq (⟨"PloughTurns$Course", "pullOf", "(LPloughTurns$Gone;I)I"⟩, 10) := ⟨⟨by decide +kernel, by decide +kernel⟩, List.mem_of_getElem? (i := 174) (by decide +kernel), List.mem_of_getElem? (i := 426) (by decide +kernel), List.mem_of_getElem? (i := 427) (by decide +kernel)⟩
theorem lw_p11 : lw_okq (⟨"PloughTurns$Course", "bringUp", "(ILPloughTurns$Needs;I)V"⟩, 10) := ⟨⟨by decide +kernel, by decide +kernel⟩, List.mem_of_getElem? (i := 174) (by decide +kernel), List.mem_of_getElem? (i := 430) (by decide +kernel), List.mem_of_getElem? (i := 431) (by decide +kernel)⟩
theorem lw_p12 : lw_okq (⟨"PloughTurns$Course", "isOpenBehind", "(LPloughTurns$Needs;II)Z"⟩, 10) := ⟨⟨by decide +kernel, by decide +kernel⟩, List.mem_of_getElem? (i := 174) (by decide +kernel), List.mem_of_getElem? (i := 442) (by decide +kernel), List.mem_of_getElem? (i := 443) (by decide +kernel)⟩
theorem lw_p13 : lw_okq (⟨"PloughTurns", "bestFurrow", "(I)I"⟩, 15) := ⟨⟨by decide +kernel, by decide +kernel⟩, List.mem_of_getElem? (i := 16) (by decide +kernel), List.mem_of_getElem? (i := 501) (by decide +kernel), List.mem_of_getElem? (i := 502) (by decide +kernel)⟩
theorem lw_p14 : lw_okq (⟨"PloughTurns", "metWithPlough", "(II)I"⟩, 15) := ⟨⟨by decide +kernel, by decide +kernel⟩, List.mem_of_getElem? (i := 16) (by decide +kernel), List.mem_of_getElem? (i := 505) (by decide +kernel), List.mem_of_getElem? (i := 506) (by decide +kernel)⟩
theorem lw_p15 : lw_okq (⟨"PloughTurns", "bestCell", "(I)I"⟩, 15) := ⟨⟨by decide +kernel, by decide +kernel⟩, List.mem_of_getElem? (i := 16) (by decide +kernel), List.mem_of_getElem? (i := 517) (by decide +kernel), List.mem_of_getElem? (i := 518) (by decide +kernel)⟩
def lw_privs_1 : List (MethodName × Nat) := [(⟨"PloughTurns", "textOf", "(I)LPloughTurns$Text;"⟩, 15), (⟨"PloughTurns", "takeTextAnew", "(I)V"⟩, 15), (⟨"PloughTurns", "markStale", "()V"⟩, 15), (⟨"PloughTurns", "find", "(I)I"⟩, 15), (⟨"PloughTurns", "asTold", "()LPloughTurns$Course;"⟩, 15), (⟨"PloughTurns$Course", "startAnew", "()V"⟩, 10), (⟨"PloughTurns$Course", "endNightsTo", "(I)V"⟩, 10), (⟨"PloughTurns$Course", "layDown", "(LPloughTurns$Gone;I)V"⟩, 10), (⟨"PloughTurns$Course", "weighNeeds", "(LPloughTurns$Needs;I)V"⟩, 10), (⟨"PloughTurns$Course", "strongestIn", "(LPloughTurns$Gone;I)I"⟩, 10), (⟨"PloughTurns$Course", "pullOf", "(LPloughTurns$Gone;I)I"⟩, 10), (⟨"PloughTurns$Course", "bringUp", "(ILPloughTurns$Needs;I)V"⟩, 10), (⟨"PloughTurns$Course", "isOpenBehind", "(LPloughTurns$Needs;II)Z"⟩, 10), (⟨"PloughTurns", "bestFurrow", "(I)I"⟩, 15), (⟨"PloughTurns", "metWithPlough", "(II)I"⟩, 15), (⟨"PloughTurns", "bestCell", "(I)I"⟩, 15)]
theorem lw_r1 : ∀ q ∈ lw_privs_1, lw_okq q := List.forall_mem_cons.mpr ⟨lw_p0, List.forall_mem_cons.mpr ⟨lw_p1, List.forall_mem_cons.mpr ⟨lw_p2, List.forall_mem_cons.mpr ⟨lw_p3, List.forall_mem_cons.mpr ⟨lw_p4, List.forall_mem_cons.mpr ⟨lw_p5, List.forall_mem_cons.mpr ⟨lw_p6, List.forall_mem_cons.mpr ⟨lw_p7, List.forall_mem_cons.mpr ⟨lw_p8, List.forall_mem_cons.mpr ⟨lw_p9, List.forall_mem_cons.mpr ⟨lw_p10, List.forall_mem_cons.mpr ⟨lw_p11, List.forall_mem_cons.mpr ⟨lw_p12, List.forall_mem_cons.mpr ⟨lw_p13, List.forall_mem_cons.mpr ⟨lw_p14, List.forall_mem_cons.mpr ⟨lw_p15, fun _ h => absurd h List.not_mem_nil⟩⟩⟩⟩⟩⟩⟩⟩⟩⟩⟩⟩⟩⟩⟩⟩
theorem lw_p16 : lw_okq (⟨"PloughTurns", "nightsUpFrom", "(II)I"⟩, 15) := ⟨⟨by decide +kernel, by decide +kernel⟩, List.mem_of_getElem? (i := 16) (by decide +kernel), List.mem_of_getElem? (i := 522) (by decide +kernel), List.mem_of_getElem? (i := 523) (by decide +kernel)⟩
theorem lw_p17 : lw_okq (⟨"PloughTurns", "tellCell", "(III)I"⟩, 15) := ⟨⟨by decide +kernel, by decide +kernel⟩, List.mem_of_getElem? (i := 16) (by decide +kernel), List.mem_of_getElem? (i := 526) (by decide +kernel), List.mem_of_getElem? (i := 527) (by decide +kernel)⟩
theorem lw_p18 : lw_okq (⟨"PloughTurns", "bestNight", "(I)I"⟩, 15) := ⟨⟨by decide +kernel, by decide +kernel⟩, List.mem_of_getElem? (i := 16) (by decide +kernel), List.mem_of_getElem? (i := 534) (by decide +kernel), List.mem_of_getElem? (i := 535) (by decide +kernel)⟩
theorem lw_p19 : lw_okq (⟨"PloughTurns", "spareEvents", "()I"⟩, 15) := ⟨⟨by decide +kernel, by decide +kernel⟩, List.mem_of_getElem? (i := 16) (by decide +kernel), List.mem_of_getElem? (i := 542) (by decide +kernel), List.mem_of_getElem? (i := 543) (by decide +kernel)⟩
theorem lw_p20 : lw_okq (⟨"PloughTurns", "isRightWithout", "(I)Z"⟩, 15) := ⟨⟨by decide +kernel, by decide +kernel⟩, List.mem_of_getElem? (i := 16) (by decide +kernel), List.mem_of_getElem? (i := 546) (by decide +kernel), List.mem_of_getElem? (i := 547) (by decide +kernel)⟩
theorem lw_p21 : lw_okq (⟨"PloughTurns", "fittingSorts", "(I)I"⟩, 15) := ⟨⟨by decide +kernel, by decide +kernel⟩, List.mem_of_getElem? (i := 16) (by decide +kernel), List.mem_of_getElem? (i := 578) (by decide +kernel), List.mem_of_getElem? (i := 579) (by decide +kernel)⟩
theorem lw_p22 : lw_okq (⟨"PloughTurns", "fittingFars", "(I)I"⟩, 15) := ⟨⟨by decide +kernel, by decide +kernel⟩, List.mem_of_getElem? (i := 16) (by decide +kernel), List.mem_of_getElem? (i := 582) (by decide +kernel), List.mem_of_getElem? (i := 583) (by decide +kernel)⟩
theorem lw_p23 : lw_okq (⟨"PloughTurns", "greatestAlike", "(II)I"⟩, 15) := ⟨⟨by decide +kernel, by decide +kernel⟩, List.mem_of_getElem? (i := 16) (by decide +kernel), List.mem_of_getElem? (i := 593) (by decide +kernel), List.mem_of_getElem? (i := 594) (by decide +kernel)⟩
theorem lw_p24 : lw_okq (⟨"PloughTurns", "drawEvents", "(II)V"⟩, 15) := ⟨⟨by decide +kernel, by decide +kernel⟩, List.mem_of_getElem? (i := 16) (by decide +kernel), List.mem_of_getElem? (i := 622) (by decide +kernel), List.mem_of_getElem? (i := 623) (by decide +kernel)⟩
theorem lw_p25 : lw_okq (⟨"PloughTurns", "refuseItem", "(III)I"⟩, 15) := ⟨⟨by decide +kernel, by decide +kernel⟩, List.mem_of_getElem? (i := 16) (by decide +kernel), List.mem_of_getElem? (i := 649) (by decide +kernel), List.mem_of_getElem? (i := 650) (by decide +kernel)⟩
theorem lw_p26 : lw_okq (⟨"PloughTurns$Sheet", "narrowed", "(I)I"⟩, 3) := ⟨⟨by decide +kernel, by decide +kernel⟩, List.mem_of_getElem? (i := 230) (by decide +kernel), List.mem_of_getElem? (i := 658) (by decide +kernel), List.mem_of_getElem? (i := 659) (by decide +kernel)⟩
theorem lw_p27 : lw_okq (⟨"PloughTurns", "mixNeed", "(JI)J"⟩, 15) := ⟨⟨by decide +kernel, by decide +kernel⟩, List.mem_of_getElem? (i := 16) (by decide +kernel), List.mem_of_getElem? (i := 695) (by decide +kernel), List.mem_of_getElem? (i := 696) (by decide +kernel)⟩
theorem lw_p28 : lw_okq (⟨"PloughTurns", "mixOne", "(JI)J"⟩, 15) := ⟨⟨by decide +kernel, by decide +kernel⟩, List.mem_of_getElem? (i := 16) (by decide +kernel), List.mem_of_getElem? (i := 702) (by decide +kernel), List.mem_of_getElem? (i := 703) (by decide +kernel)⟩
theorem lw_p29 : lw_okq (⟨"PloughTurnsModel", "faultOf", "(I)I"⟩, 42) := ⟨⟨by decide +kernel, by decide +kernel⟩, List.mem_of_getElem? (i := 719) (by decide +kernel), List.mem_of_getElem? (i := 875) (by decide +kernel), List.mem_of_getElem? (i := 876) (by decide +kernel)⟩
theorem lw_p30 : lw_okq (⟨"PloughTurnsModel", "readsParts", "(I)I"⟩, 42) := ⟨⟨by decide +kernel, by decide +kernel⟩, List.mem_of_getElem? (i := 719) (by decide +kernel), List.mem_of_getElem? (i := 879) (by decide +kernel), List.mem_of_getElem? (i := 880) (by decide +kernel)⟩
theorem lw_p31 : lw_okq (⟨"PloughTurnsModel", "readsGone", "(II)I"⟩, 42) := ⟨⟨by decide +kernel, by decide +kernel⟩, List.mem_of_getElem? (i := 719) (by decide +kernel), List.mem_of_getElem? (i := 883) (by decide +kernel), List.mem_of_getElem? (i := 884) (by decide +kernel)⟩
def lw_privs_2 : List (MethodName × Nat) := [(⟨"PloughTurns", "nightsUpFrom", "(II)I"⟩, 15), (⟨"PloughTurns", "tellCell", "(III)I"⟩, 15), (⟨"PloughTurns", "bestNight", "(I)I"⟩, 15), (⟨"PloughTurns", "spareEvents", "()I"⟩, 15), (⟨"PloughTurns", "isRightWithout", "(I)Z"⟩, 15), (⟨"PloughTurns", "fittingSorts", "(I)I"⟩, 15), (⟨"PloughTurns", "fittingFars", "(I)I"⟩, 15), (⟨"PloughTurns", "greatestAlike", "(II)I"⟩, 15), (⟨"PloughTurns", "drawEvents", "(II)V"⟩, 15), (⟨"PloughTurns", "refuseItem", "(III)I"⟩, 15), (⟨"PloughTurns$Sheet", "narrowed", "(I)I"⟩, 3), (⟨"PloughTurns", "mixNeed", "(JI)J"⟩, 15), (⟨"PloughTurns", "mixOne", "(JI)J"⟩, 15), (⟨"PloughTurnsModel", "faultOf", "(I)I"⟩, 42), (⟨"PloughTurnsModel", "readsParts", "(I)I"⟩, 42), (⟨"PloughTurnsModel", "readsGone", "(II)I"⟩, 42)]
theorem lw_r2 : ∀ q ∈ lw_privs_2, lw_okq q := List.forall_mem_cons.mpr ⟨lw_p16, List.forall_mem_cons.mpr ⟨lw_p17, List.forall_mem_cons.mpr ⟨lw_p18, List.forall_mem_cons.mpr ⟨lw_p19, List.forall_mem_cons.mpr ⟨lw_p20, List.forall_mem_cons.mpr ⟨lw_p21, List.forall_mem_cons.mpr ⟨lw_p22, List.forall_mem_cons.mpr ⟨lw_p23, List.forall_mem_cons.mpr ⟨lw_p24, List.forall_mem_cons.mpr ⟨lw_p25, List.forall_mem_cons.mpr ⟨lw_p26, List.forall_mem_cons.mpr ⟨lw_p27, List.forall_mem_cons.mpr ⟨lw_p28, List.forall_mem_cons.mpr ⟨lw_p29, List.forall_mem_cons.mpr ⟨lw_p30, List.forall_mem_cons.mpr ⟨lw_p31, fun _ h => absurd h List.not_mem_nil⟩⟩⟩⟩⟩⟩⟩⟩⟩⟩⟩⟩⟩⟩⟩⟩
theorem lw_p32 : lw_okq (⟨"PloughTurnsModel", "byteAt", "(II)I"⟩, 42) := ⟨⟨by decide +kernel, by decide +kernel⟩, List.mem_of_getElem? (i := 719) (by decide +kernel), List.mem_of_getElem? (i := 887) (by decide +kernel), List.mem_of_getElem? (i := 888) (by decide +kernel)⟩
theorem lw_p33 : lw_okq (⟨"PloughTurnsModel", "isTaken", "(III)Z"⟩, 42) := ⟨⟨by decide +kernel, by decide +kernel⟩, List.mem_of_getElem? (i := 719) (by decide +kernel), List.mem_of_getElem? (i := 894) (by decide +kernel), List.mem_of_getElem? (i := 895) (by decide +kernel)⟩
theorem lw_p34 : lw_okq (⟨"PloughTurnsModel", "readsNeed", "(II)I"⟩, 42) := ⟨⟨by decide +kernel, by decide +kernel⟩, List.mem_of_getElem? (i := 719) (by decide +kernel), List.mem_of_getElem? (i := 898) (by decide +kernel), List.mem_of_getElem? (i := 899) (by decide +kernel)⟩
theorem lw_p35 : lw_okq (⟨"PloughTurnsModel", "isOne", "(I)Z"⟩, 42) := ⟨⟨by decide +kernel, by decide +kernel⟩, List.mem_of_getElem? (i := 719) (by decide +kernel), List.mem_of_getElem? (i := 912) (by decide +kernel), List.mem_of_getElem? (i := 913) (by decide +kernel)⟩
theorem lw_p36 : lw_okq (⟨"PloughTurnsModel", "reads", "()V"⟩, 42) := ⟨⟨by decide +kernel, by decide +kernel⟩, List.mem_of_getElem? (i := 719) (by decide +kernel), List.mem_of_getElem? (i := 916) (by decide +kernel), List.mem_of_getElem? (i := 917) (by decide +kernel)⟩
theorem lw_p37 : lw_okq (⟨"PloughTurnsModel", "goneOf", "(II)I"⟩, 42) := ⟨⟨by decide +kernel, by decide +kernel⟩, List.mem_of_getElem? (i := 719) (by decide +kernel), List.mem_of_getElem? (i := 920) (by decide +kernel), List.mem_of_getElem? (i := 921) (by decide +kernel)⟩
theorem lw_p38 : lw_okq (⟨"PloughTurnsModel", "isNeed", "(I)Z"⟩, 42) := ⟨⟨by decide +kernel, by decide +kernel⟩, List.mem_of_getElem? (i := 719) (by decide +kernel), List.mem_of_getElem? (i := 928) (by decide +kernel), List.mem_of_getElem? (i := 929) (by decide +kernel)⟩
theorem lw_p39 : lw_okq (⟨"PloughTurnsModel", "needOf", "(II)I"⟩, 42) := ⟨⟨by decide +kernel, by decide +kernel⟩, List.mem_of_getElem? (i := 719) (by decide +kernel), List.mem_of_getElem? (i := 935) (by decide +kernel), List.mem_of_getElem? (i := 936) (by decide +kernel)⟩
theorem lw_p40 : lw_okq (⟨"PloughTurnsModel", "meets", "(I)I"⟩, 42) := ⟨⟨by decide +kernel, by decide +kernel⟩, List.mem_of_getElem? (i := 719) (by decide +kernel), List.mem_of_getElem? (i := 957) (by decide +kernel), List.mem_of_getElem? (i := 958) (by decide +kernel)⟩
theorem lw_p41 : lw_okq (⟨"PloughTurnsModel", "atOf", "(III)I"⟩, 42) := ⟨⟨by decide +kernel, by decide +kernel⟩, List.mem_of_getElem? (i := 719) (by decide +kernel), List.mem_of_getElem? (i := 966) (by decide +kernel), List.mem_of_getElem? (i := 967) (by decide +kernel)⟩
theorem lw_p42 : lw_okq (⟨"PloughTurnsModel", "runsTold", "()V"⟩, 42) := ⟨⟨by decide +kernel, by decide +kernel⟩, List.mem_of_getElem? (i := 719) (by decide +kernel), List.mem_of_getElem? (i := 970) (by decide +kernel), List.mem_of_getElem? (i := 971) (by decide +kernel)⟩
theorem lw_p43 : lw_okq (⟨"PloughTurnsModel", "asTold", "()V"⟩, 42) := ⟨⟨by decide +kernel, by decide +kernel⟩, List.mem_of_getElem? (i := 719) (by decide +kernel), List.mem_of_getElem? (i := 974) (by decide +kernel), List.mem_of_getElem? (i := 975) (by decide +kernel)⟩
theorem lw_p44 : lw_okq (⟨"PloughTurnsModel", "runs", "()V"⟩, 42) := ⟨⟨by decide +kernel, by decide +kernel⟩, List.mem_of_getElem? (i := 719) (by decide +kernel), List.mem_of_getElem? (i := 978) (by decide +kernel), List.mem_of_getElem? (i := 979) (by decide +kernel)⟩
theorem lw_p45 : lw_okq (⟨"PloughTurnsModel", "goesBy", "(I)V"⟩, 42) := ⟨⟨by decide +kernel, by decide +kernel⟩, List.mem_of_getElem? (i := 719) (by decide +kernel), List.mem_of_getElem? (i := 982) (by decide +kernel), List.mem_of_getElem? (i := 983) (by decide +kernel)⟩
theorem lw_p46 : lw_okq (⟨"PloughTurnsModel", "ploughs", "(II)V"⟩, 42) := ⟨⟨by decide +kernel, by decide +kernel⟩, List.mem_of_getElem? (i := 719) (by decide +kernel), List.mem_of_getElem? (i := 989) (by decide +kernel), List.mem_of_getElem? (i := 990) (by decide +kernel)⟩
theorem lw_p47 : lw_okq (⟨"PloughTurnsModel", "pull", "(II)I"⟩, 42) := ⟨⟨by decide +kernel, by decide +kernel⟩, List.mem_of_getElem? (i := 719) (by decide +kernel), List.mem_of_getElem? (i := 993) (by decide +kernel), List.mem_of_getElem? (i := 994) (by decide +kernel)⟩
def lw_privs_3 : List (MethodName × Nat) := [(⟨"PloughTurnsModel", "byteAt", "(II)I"⟩, 42), (⟨"PloughTurnsModel", "isTaken", "(III)Z"⟩, 42), (⟨"PloughTurnsModel", "readsNeed", "(II)I"⟩, 42), (⟨"PloughTurnsModel", "isOne", "(I)Z"⟩, 42), (⟨"PloughTurnsModel", "reads", "()V"⟩, 42), (⟨"PloughTurnsModel", "goneOf", "(II)I"⟩, 42), (⟨"PloughTurnsModel", "isNeed", "(I)Z"⟩, 42), (⟨"PloughTurnsModel", "needOf", "(II)I"⟩, 42), (⟨"PloughTurnsModel", "meets", "(I)I"⟩, 42), (⟨"PloughTurnsModel", "atOf", "(III)I"⟩, 42), (⟨"PloughTurnsModel", "runsTold", "()V"⟩, 42), (⟨"PloughTurnsModel", "asTold", "()V"⟩, 42), (⟨"PloughTurnsModel", "runs", "()V"⟩, 42), (⟨"PloughTurnsModel", "goesBy", "(I)V"⟩, 42), (⟨"PloughTurnsModel", "ploughs", "(II)V"⟩, 42), (⟨"PloughTurnsModel", "pull", "(II)I"⟩, 42)]
theorem lw_r3 : ∀ q ∈ lw_privs_3, lw_okq q := List.forall_mem_cons.mpr ⟨lw_p32, List.forall_mem_cons.mpr ⟨lw_p33, List.forall_mem_cons.mpr ⟨lw_p34, List.forall_mem_cons.mpr ⟨lw_p35, List.forall_mem_cons.mpr ⟨lw_p36, List.forall_mem_cons.mpr ⟨lw_p37, List.forall_mem_cons.mpr ⟨lw_p38, List.forall_mem_cons.mpr ⟨lw_p39, List.forall_mem_cons.mpr ⟨lw_p40, List.forall_mem_cons.mpr ⟨lw_p41, List.forall_mem_cons.mpr ⟨lw_p42, List.forall_mem_cons.mpr ⟨lw_p43, List.forall_mem_cons.mpr ⟨lw_p44, List.forall_mem_cons.mpr ⟨lw_p45, List.forall_mem_cons.mpr ⟨lw_p46, List.forall_mem_cons.mpr ⟨lw_p47, fun _ h => absurd h List.not_mem_nil⟩⟩⟩⟩⟩⟩⟩⟩⟩⟩⟩⟩⟩⟩⟩⟩
theorem lw_p48 : lw_okq (⟨"PloughTurnsModel", "wanted", "(II)I"⟩, 42) := ⟨⟨by decide +kernel, by decide +kernel⟩, List.mem_of_getElem? (i := 719) (by decide +kernel), List.mem_of_getElem? (i := 997) (by decide +kernel), List.mem_of_getElem? (i := 998) (by decide +kernel)⟩
theorem lw_p49 : lw_okq (⟨"PloughTurnsModel", "isOpen", "(II)Z"⟩, 42) := ⟨⟨by decide +kernel, by decide +kernel⟩, List.mem_of_getElem? (i := 719) (by decide +kernel), List.mem_of_getElem? (i := 1001) (by decide +kernel), List.mem_of_getElem? (i := 1002) (by decide +kernel)⟩
theorem lw_p50 : lw_okq (⟨"PloughTurnsModel", "comesUp", "(II)V"⟩, 42) := ⟨⟨by decide +kernel, by decide +kernel⟩, List.mem_of_getElem? (i := 719) (by decide +kernel), List.mem_of_getElem? (i := 1005) (by decide +kernel), List.mem_of_getElem? (i := 1006) (by decide +kernel)⟩
theorem lw_p51 : lw_okq (⟨"PloughTurnsModel", "harrows", "(I)V"⟩, 42) := ⟨⟨by decide +kernel, by decide +kernel⟩, List.mem_of_getElem? (i := 719) (by decide +kernel), List.mem_of_getElem? (i := 1009) (by decide +kernel), List.mem_of_getElem? (i := 1010) (by decide +kernel)⟩
theorem lw_p52 : lw_okq (⟨"PloughTurnsModel", "fieldOf", "(III)I"⟩, 42) := ⟨⟨by decide +kernel, by decide +kernel⟩, List.mem_of_getElem? (i := 719) (by decide +kernel), List.mem_of_getElem? (i := 1017) (by decide +kernel), List.mem_of_getElem? (i := 1018) (by decide +kernel)⟩
theorem lw_p53 : lw_okq (⟨"PloughTurnsModel", "upOf", "(II)I"⟩, 42) := ⟨⟨by decide +kernel, by decide +kernel⟩, List.mem_of_getElem? (i := 719) (by decide +kernel), List.mem_of_getElem? (i := 1025) (by decide +kernel), List.mem_of_getElem? (i := 1026) (by decide +kernel)⟩
theorem lw_p54 : lw_okq (⟨"PloughTurnsModel", "many", "(I)I"⟩, 42) := ⟨⟨by decide +kernel, by decide +kernel⟩, List.mem_of_getElem? (i := 719) (by decide +kernel), List.mem_of_getElem? (i := 1029) (by decide +kernel), List.mem_of_getElem? (i := 1030) (by decide +kernel)⟩
theorem lw_p55 : lw_okq (⟨"PloughTurnsModel", "metOf", "(I)I"⟩, 42) := ⟨⟨by decide +kernel, by decide +kernel⟩, List.mem_of_getElem? (i := 719) (by decide +kernel), List.mem_of_getElem? (i := 1037) (by decide +kernel), List.mem_of_getElem? (i := 1038) (by decide +kernel)⟩
theorem lw_p56 : lw_okq (⟨"PloughTurnsModel", "stoodOf", "(I)I"⟩, 42) := ⟨⟨by decide +kernel, by decide +kernel⟩, List.mem_of_getElem? (i := 719) (by decide +kernel), List.mem_of_getElem? (i := 1045) (by decide +kernel), List.mem_of_getElem? (i := 1046) (by decide +kernel)⟩
theorem lw_p57 : lw_okq (⟨"PloughTurnsModel", "stoodNow", "(I)I"⟩, 42) := ⟨⟨by decide +kernel, by decide +kernel⟩, List.mem_of_getElem? (i := 719) (by decide +kernel), List.mem_of_getElem? (i := 1049) (by decide +kernel), List.mem_of_getElem? (i := 1050) (by decide +kernel)⟩
theorem lw_p58 : lw_okq (⟨"PloughTurnsModel", "wronglyOf", "()I"⟩, 42) := ⟨⟨by decide +kernel, by decide +kernel⟩, List.mem_of_getElem? (i := 719) (by decide +kernel), List.mem_of_getElem? (i := 1057) (by decide +kernel), List.mem_of_getElem? (i := 1058) (by decide +kernel)⟩
theorem lw_p59 : lw_okq (⟨"PloughTurnsModel", "firstOf", "(I)I"⟩, 42) := ⟨⟨by decide +kernel, by decide +kernel⟩, List.mem_of_getElem? (i := 719) (by decide +kernel), List.mem_of_getElem? (i := 1065) (by decide +kernel), List.mem_of_getElem? (i := 1066) (by decide +kernel)⟩
theorem lw_p60 : lw_okq (⟨"PloughTurnsModel", "gateOf", "()I"⟩, 42) := ⟨⟨by decide +kernel, by decide +kernel⟩, List.mem_of_getElem? (i := 719) (by decide +kernel), List.mem_of_getElem? (i := 1073) (by decide +kernel), List.mem_of_getElem? (i := 1074) (by decide +kernel)⟩
theorem lw_p61 : lw_okq (⟨"PloughTurnsModel", "restOf", "()I"⟩, 42) := ⟨⟨by decide +kernel, by decide +kernel⟩, List.mem_of_getElem? (i := 719) (by decide +kernel), List.mem_of_getElem? (i := 1081) (by decide +kernel), List.mem_of_getElem? (i := 1082) (by decide +kernel)⟩
theorem lw_p62 : lw_okq (⟨"PloughTurnsModel", "ploughOf", "(II)I"⟩, 42) := ⟨⟨by decide +kernel, by decide +kernel⟩, List.mem_of_getElem? (i := 719) (by decide +kernel), List.mem_of_getElem? (i := 1089) (by decide +kernel), List.mem_of_getElem? (i := 1090) (by decide +kernel)⟩
theorem lw_p63 : lw_okq (⟨"PloughTurnsModel", "more", "(II)V"⟩, 42) := ⟨⟨by decide +kernel, by decide +kernel⟩, List.mem_of_getElem? (i := 719) (by decide +kernel), List.mem_of_getElem? (i := 1093) (by decide +kernel), List.mem_of_getElem? (i := 1094) (by decide +kernel)⟩
def lw_privs_4 : List (MethodName × Nat) := [(⟨"PloughTurnsModel", "wanted", "(II)I"⟩, 42), (⟨"PloughTurnsModel", "isOpen", "(II)Z"⟩, 42), (⟨"PloughTurnsModel", "comesUp", "(II)V"⟩, 42), (⟨"PloughTurnsModel", "harrows", "(I)V"⟩, 42), (⟨"PloughTurnsModel", "fieldOf", "(III)I"⟩, 42), (⟨"PloughTurnsModel", "upOf", "(II)I"⟩, 42), (⟨"PloughTurnsModel", "many", "(I)I"⟩, 42), (⟨"PloughTurnsModel", "metOf", "(I)I"⟩, 42), (⟨"PloughTurnsModel", "stoodOf", "(I)I"⟩, 42), (⟨"PloughTurnsModel", "stoodNow", "(I)I"⟩, 42), (⟨"PloughTurnsModel", "wronglyOf", "()I"⟩, 42), (⟨"PloughTurnsModel", "firstOf", "(I)I"⟩, 42), (⟨"PloughTurnsModel", "gateOf", "()I"⟩, 42), (⟨"PloughTurnsModel", "restOf", "()I"⟩, 42), (⟨"PloughTurnsModel", "ploughOf", "(II)I"⟩, 42), (⟨"PloughTurnsModel", "more", "(II)V"⟩, 42)]
theorem lw_r4 : ∀ q ∈ lw_privs_4, lw_okq q := List.forall_mem_cons.mpr ⟨lw_p48, List.forall_mem_cons.mpr ⟨lw_p49, List.forall_mem_cons.mpr ⟨lw_p50, List.forall_mem_cons.mpr ⟨lw_p51, List.forall_mem_cons.mpr ⟨lw_p52, List.forall_mem_cons.mpr ⟨lw_p53, List.forall_mem_cons.mpr ⟨lw_p54, List.forall_mem_cons.mpr ⟨lw_p55, List.forall_mem_cons.mpr ⟨lw_p56, List.forall_mem_cons.mpr ⟨lw_p57, List.forall_mem_cons.mpr ⟨lw_p58, List.forall_mem_cons.mpr ⟨lw_p59, List.forall_mem_cons.mpr ⟨lw_p60, List.forall_mem_cons.mpr ⟨lw_p61, List.forall_mem_cons.mpr ⟨lw_p62, List.forall_mem_cons.mpr ⟨lw_p63, fun _ h => absurd h List.not_mem_nil⟩⟩⟩⟩⟩⟩⟩⟩⟩⟩⟩⟩⟩⟩⟩⟩
theorem lw_p64 : lw_okq (⟨"PloughTurnsModel", "metNow", "()I"⟩, 42) := ⟨⟨by decide +kernel, by decide +kernel⟩, List.mem_of_getElem? (i := 719) (by decide +kernel), List.mem_of_getElem? (i := 1097) (by decide +kernel), List.mem_of_getElem? (i := 1098) (by decide +kernel)⟩
theorem lw_p65 : lw_okq (⟨"PloughTurnsModel", "lieOf", "(II)I"⟩, 42) := ⟨⟨by decide +kernel, by decide +kernel⟩, List.mem_of_getElem? (i := 719) (by decide +kernel), List.mem_of_getElem? (i := 1105) (by decide +kernel), List.mem_of_getElem? (i := 1106) (by decide +kernel)⟩
theorem lw_p66 : lw_okq (⟨"PloughTurnsModel", "isOther", "(III)Z"⟩, 42) := ⟨⟨by decide +kernel, by decide +kernel⟩, List.mem_of_getElem? (i := 719) (by decide +kernel), List.mem_of_getElem? (i := 1109) (by decide +kernel), List.mem_of_getElem? (i := 1110) (by decide +kernel)⟩
theorem lw_p67 : lw_okq (⟨"PloughTurnsModel", "whenOf", "(II)I"⟩, 42) := ⟨⟨by decide +kernel, by decide +kernel⟩, List.mem_of_getElem? (i := 719) (by decide +kernel), List.mem_of_getElem? (i := 1117) (by decide +kernel), List.mem_of_getElem? (i := 1118) (by decide +kernel)⟩
theorem lw_p68 : lw_okq (⟨"PloughTurnsModel", "spareBy", "()I"⟩, 42) := ⟨⟨by decide +kernel, by decide +kernel⟩, List.mem_of_getElem? (i := 719) (by decide +kernel), List.mem_of_getElem? (i := 1125) (by decide +kernel), List.mem_of_getElem? (i := 1126) (by decide +kernel)⟩
theorem lw_p69 : lw_okq (⟨"PloughTurnsModel", "isSpared", "(I)Z"⟩, 42) := ⟨⟨by decide +kernel, by decide +kernel⟩, List.mem_of_getElem? (i := 719) (by decide +kernel), List.mem_of_getElem? (i := 1129) (by decide +kernel), List.mem_of_getElem? (i := 1130) (by decide +kernel)⟩
theorem lw_p70 : lw_okq (⟨"PloughTurnsModel", "ofRow", "(II)I"⟩, 42) := ⟨⟨by decide +kernel, by decide +kernel⟩, List.mem_of_getElem? (i := 719) (by decide +kernel), List.mem_of_getElem? (i := 1133) (by decide +kernel), List.mem_of_getElem? (i := 1134) (by decide +kernel)⟩
theorem lw_p71 : lw_okq (⟨"PloughTurnsModel", "neverNow", "()I"⟩, 42) := ⟨⟨by decide +kernel, by decide +kernel⟩, List.mem_of_getElem? (i := 719) (by decide +kernel), List.mem_of_getElem? (i := 1149) (by decide +kernel), List.mem_of_getElem? (i := 1150) (by decide +kernel)⟩
theorem lw_p72 : lw_okq (⟨"PloughTurnsModel", "isSeen", "()Z"⟩, 42) := ⟨⟨by decide +kernel, by decide +kernel⟩, List.mem_of_getElem? (i := 719) (by decide +kernel), List.mem_of_getElem? (i := 1153) (by decide +kernel), List.mem_of_getElem? (i := 1154) (by decide +kernel)⟩
theorem lw_p73 : lw_okq (⟨"PloughTurnsModel", "sortsBy", "(I)I"⟩, 42) := ⟨⟨by decide +kernel, by decide +kernel⟩, List.mem_of_getElem? (i := 719) (by decide +kernel), List.mem_of_getElem? (i := 1161) (by decide +kernel), List.mem_of_getElem? (i := 1162) (by decide +kernel)⟩
theorem lw_p74 : lw_okq (⟨"PloughTurnsModel", "farsBy", "(I)I"⟩, 42) := ⟨⟨by decide +kernel, by decide +kernel⟩, List.mem_of_getElem? (i := 719) (by decide +kernel), List.mem_of_getElem? (i := 1165) (by decide +kernel), List.mem_of_getElem? (i := 1166) (by decide +kernel)⟩
theorem lw_p75 : lw_okq (⟨"PloughTurnsModel", "askOf", "(I)I"⟩, 42) := ⟨⟨by decide +kernel, by decide +kernel⟩, List.mem_of_getElem? (i := 719) (by decide +kernel), List.mem_of_getElem? (i := 1173) (by decide +kernel), List.mem_of_getElem? (i := 1174) (by decide +kernel)⟩
theorem lw_p76 : lw_okq (⟨"PloughTurnsModel", "chanceOf", "(III)J"⟩, 42) := ⟨⟨by decide +kernel, by decide +kernel⟩, List.mem_of_getElem? (i := 719) (by decide +kernel), List.mem_of_getElem? (i := 1181) (by decide +kernel), List.mem_of_getElem? (i := 1182) (by decide +kernel)⟩
theorem lw_p77 : lw_okq (⟨"PloughTurnsModel", "yearsOf", "(III)I"⟩, 42) := ⟨⟨by decide +kernel, by decide +kernel⟩, List.mem_of_getElem? (i := 719) (by decide +kernel), List.mem_of_getElem? (i := 1196) (by decide +kernel), List.mem_of_getElem? (i := 1197) (by decide +kernel)⟩
theorem lw_p78 : lw_okq (⟨"PloughTurnsModel", "lacks", "(III)I"⟩, 42) := ⟨⟨by decide +kernel, by decide +kernel⟩, List.mem_of_getElem? (i := 719) (by decide +kernel), List.mem_of_getElem? (i := 1213) (by decide +kernel), List.mem_of_getElem? (i := 1214) (by decide +kernel)⟩
theorem lw_p79 : lw_okq (⟨"PloughTurnsModel", "keep", "(III)V"⟩, 42) := ⟨⟨by decide +kernel, by decide +kernel⟩, List.mem_of_getElem? (i := 719) (by decide +kernel), List.mem_of_getElem? (i := 1217) (by decide +kernel), List.mem_of_getElem? (i := 1218) (by decide +kernel)⟩
def lw_privs_5 : List (MethodName × Nat) := [(⟨"PloughTurnsModel", "metNow", "()I"⟩, 42), (⟨"PloughTurnsModel", "lieOf", "(II)I"⟩, 42), (⟨"PloughTurnsModel", "isOther", "(III)Z"⟩, 42), (⟨"PloughTurnsModel", "whenOf", "(II)I"⟩, 42), (⟨"PloughTurnsModel", "spareBy", "()I"⟩, 42), (⟨"PloughTurnsModel", "isSpared", "(I)Z"⟩, 42), (⟨"PloughTurnsModel", "ofRow", "(II)I"⟩, 42), (⟨"PloughTurnsModel", "neverNow", "()I"⟩, 42), (⟨"PloughTurnsModel", "isSeen", "()Z"⟩, 42), (⟨"PloughTurnsModel", "sortsBy", "(I)I"⟩, 42), (⟨"PloughTurnsModel", "farsBy", "(I)I"⟩, 42), (⟨"PloughTurnsModel", "askOf", "(I)I"⟩, 42), (⟨"PloughTurnsModel", "chanceOf", "(III)J"⟩, 42), (⟨"PloughTurnsModel", "yearsOf", "(III)I"⟩, 42), (⟨"PloughTurnsModel", "lacks", "(III)I"⟩, 42), (⟨"PloughTurnsModel", "keep", "(III)V"⟩, 42)]
theorem lw_r5 : ∀ q ∈ lw_privs_5, lw_okq q := List.forall_mem_cons.mpr ⟨lw_p64, List.forall_mem_cons.mpr ⟨lw_p65, List.forall_mem_cons.mpr ⟨lw_p66, List.forall_mem_cons.mpr ⟨lw_p67, List.forall_mem_cons.mpr ⟨lw_p68, List.forall_mem_cons.mpr ⟨lw_p69, List.forall_mem_cons.mpr ⟨lw_p70, List.forall_mem_cons.mpr ⟨lw_p71, List.forall_mem_cons.mpr ⟨lw_p72, List.forall_mem_cons.mpr ⟨lw_p73, List.forall_mem_cons.mpr ⟨lw_p74, List.forall_mem_cons.mpr ⟨lw_p75, List.forall_mem_cons.mpr ⟨lw_p76, List.forall_mem_cons.mpr ⟨lw_p77, List.forall_mem_cons.mpr ⟨lw_p78, List.forall_mem_cons.mpr ⟨lw_p79, fun _ h => absurd h List.not_mem_nil⟩⟩⟩⟩⟩⟩⟩⟩⟩⟩⟩⟩⟩⟩⟩⟩
theorem lw_p80 : lw_okq (⟨"PloughTurnsModel", "sumOf", "(I)I"⟩, 42) := ⟨⟨by decide +kernel, by decide +kernel⟩, List.mem_of_getElem? (i := 719) (by decide +kernel), List.mem_of_getElem? (i := 1238) (by decide +kernel), List.mem_of_getElem? (i := 1239) (by decide +kernel)⟩
theorem lw_p81 : lw_okq (⟨"PloughTurnsModel", "needDigest", "(JI)J"⟩, 42) := ⟨⟨by decide +kernel, by decide +kernel⟩, List.mem_of_getElem? (i := 719) (by decide +kernel), List.mem_of_getElem? (i := 1249) (by decide +kernel), List.mem_of_getElem? (i := 1250) (by decide +kernel)⟩
theorem lw_p82 : lw_okq (⟨"PloughTurnsModel", "goneDigest", "(JI)J"⟩, 42) := ⟨⟨by decide +kernel, by decide +kernel⟩, List.mem_of_getElem? (i := 719) (by decide +kernel), List.mem_of_getElem? (i := 1253) (by decide +kernel), List.mem_of_getElem? (i := 1254) (by decide +kernel)⟩
theorem lw_p83 : lw_okq (⟨"PloughTurnsModel", "nightDigest", "(JII)J"⟩, 42) := ⟨⟨by decide +kernel, by decide +kernel⟩, List.mem_of_getElem? (i := 719) (by decide +kernel), List.mem_of_getElem? (i := 1257) (by decide +kernel), List.mem_of_getElem? (i := 1258) (by decide +kernel)⟩
def lw_privs_6 : List (MethodName × Nat) := [(⟨"PloughTurnsModel", "sumOf", "(I)I"⟩, 42), (⟨"PloughTurnsModel", "needDigest", "(JI)J"⟩, 42), (⟨"PloughTurnsModel", "goneDigest", "(JI)J"⟩, 42), (⟨"PloughTurnsModel", "nightDigest", "(JII)J"⟩, 42)]
theorem lw_r6 : ∀ q ∈ lw_privs_6, lw_okq q := List.forall_mem_cons.mpr ⟨lw_p80, List.forall_mem_cons.mpr ⟨lw_p81, List.forall_mem_cons.mpr ⟨lw_p82, List.forall_mem_cons.mpr ⟨lw_p83, fun _ h => absurd h List.not_mem_nil⟩⟩⟩⟩
def lw_privs : List (MethodName × Nat) := lw_privs_1 ++ (lw_privs_2 ++ (lw_privs_3 ++ (lw_privs_4 ++ (lw_privs_5 ++ (lw_privs_6)))))
def lw_tbl : List Cond := k2_sels lw_privs ++ tables_1
theorem lw_privs_ok : ∀ q ∈ lw_privs, lw_okq q := by
  show ∀ q ∈ lw_privs_1 ++ (lw_privs_2 ++ (lw_privs_3 ++ (lw_privs_4 ++ (lw_privs_5 ++ (lw_privs_6))))), lw_okq q
  exact List.forall_mem_append.mpr ⟨lw_r1, List.forall_mem_append.mpr ⟨lw_r2, List.forall_mem_append.mpr ⟨lw_r3, List.forall_mem_append.mpr ⟨lw_r4, List.forall_mem_append.mpr ⟨lw_r5, lw_r6⟩⟩⟩⟩⟩
end
section
def RX0 : String := "PloughTurns$Course"
def TX0 : u_T := fun k => match k with
  | 0 => ("PloughTurns$Course", "met", "[I", true)
  | 1 => ("PloughTurns$Course", "wanted", "[I", true)
  | 2 => ("PloughTurns$Course", "times", "[I", true)
  | 3 => ("PloughTurns$Course", "standing", "[I", true)
  | 4 => ("PloughTurns$Course", "cameNight", "[I", true)
  | 5 => ("PloughTurns$Course", "cameOne", "[I", true)
  | 6 => ("PloughTurns$Course", "came", "I", false)
  | 7 => ("PloughTurns$Course", "wrong", "I", false)
  | 8 => ("PloughTurns$Course", "upNow", "I", false)
  | _ => ("PloughTurns$Course", "nightsOver", "I", false)
def tyX0 : Nat → FieldType := fun k => match k with
  | 0 => .array .int
  | 1 => .array .int
  | 2 => .array .int
  | 3 => .array .int
  | 4 => .array .int
  | 5 => .array .int
  | 6 => .int
  | 7 => .int
  | 8 => .int
  | _ => .int
abbrev wsX00 : List Cond := u_ws RX0 TX0 10
theorem nmX0 : ∀ a, a < 10 → ∀ b, b < 10 → a ≠ b → (TX0 a).2.1 ≠ (TX0 b).2.1 := by decide +kernel
theorem tyX0_ok : ∀ k, k < 10 → parseFieldDescriptor (TX0 k).2.2.1 = some (tyX0 k) := by decide +kernel
abbrev cX0_init : ByteArray := prog_2_method_1_code
def yX0_init : MethodName := ⟨RX0, "<init>", "()V"⟩
abbrev cX0_run : ByteArray := prog_2_method_2_code
def yX0_run : MethodName := ⟨RX0, "run", "(LPloughTurns$Gone;LPloughTurns$Needs;LPloughTurns$Events;I)V"⟩
abbrev cX0_startAnew : ByteArray := prog_2_method_3_code
def yX0_startAnew : MethodName := ⟨RX0, "startAnew", "()V"⟩
abbrev cX0_endNightsTo : ByteArray := prog_2_method_4_code
def yX0_endNightsTo : MethodName := ⟨RX0, "endNightsTo", "(I)V"⟩
abbrev cX0_layDown : ByteArray := prog_2_method_5_code
def yX0_layDown : MethodName := ⟨RX0, "layDown", "(LPloughTurns$Gone;I)V"⟩
abbrev cX0_weighNeeds : ByteArray := prog_2_method_6_code
def yX0_weighNeeds : MethodName := ⟨RX0, "weighNeeds", "(LPloughTurns$Needs;I)V"⟩
abbrev cX0_strongestIn : ByteArray := prog_2_method_7_code
def yX0_strongestIn : MethodName := ⟨RX0, "strongestIn", "(LPloughTurns$Gone;I)I"⟩
abbrev cX0_pullOf : ByteArray := prog_2_method_8_code
def yX0_pullOf : MethodName := ⟨RX0, "pullOf", "(LPloughTurns$Gone;I)I"⟩
abbrev cX0_bringUp : ByteArray := prog_2_method_9_code
def yX0_bringUp : MethodName := ⟨RX0, "bringUp", "(ILPloughTurns$Needs;I)V"⟩
abbrev cX0_isUp : ByteArray := prog_2_method_10_code
def yX0_isUp : MethodName := ⟨RX0, "isUp", "(II)Z"⟩
abbrev cX0_nightsUp : ByteArray := prog_2_method_11_code
def yX0_nightsUp : MethodName := ⟨RX0, "nightsUp", "(I)I"⟩
abbrev cX0_timesUpBy : ByteArray := prog_2_method_12_code
def yX0_timesUpBy : MethodName := ⟨RX0, "timesUpBy", "(II)I"⟩
abbrev cX0_isOpenBehind : ByteArray := prog_2_method_13_code
def yX0_isOpenBehind : MethodName := ⟨RX0, "isOpenBehind", "(LPloughTurns$Needs;II)Z"⟩
abbrev cX0_wantedBehind : ByteArray := prog_2_method_14_code
def yX0_wantedBehind : MethodName := ⟨RX0, "wantedBehind", "(LPloughTurns$Needs;II)I"⟩
abbrev cX0_openBehind : ByteArray := prog_2_method_15_code
def yX0_openBehind : MethodName := ⟨RX0, "openBehind", "(LPloughTurns$Needs;I)I"⟩
abbrev cX0_howManyMet : ByteArray := prog_2_method_16_code
def yX0_howManyMet : MethodName := ⟨RX0, "howManyMet", "(LPloughTurns$Needs;)I"⟩
def RX1 : String := "PloughTurns$Events"
def TX1 : u_T := fun k => match k with
  | 0 => ("PloughTurns$Events", "kind", "[I", true)
  | 1 => ("PloughTurns$Events", "night", "[I", true)
  | 2 => ("PloughTurns$Events", "furrow", "[I", true)
  | 3 => ("PloughTurns$Events", "order", "[I", true)
  | _ => ("PloughTurns$Events", "size", "I", false)
def tyX1 : Nat → FieldType := fun k => match k with
  | 0 => .array .int
  | 1 => .array .int
  | 2 => .array .int
  | 3 => .array .int
  | _ => .int
abbrev wsX10 : List Cond := u_ws RX1 TX1 5
theorem nmX1 : ∀ a, a < 5 → ∀ b, b < 5 → a ≠ b → (TX1 a).2.1 ≠ (TX1 b).2.1 := by decide +kernel
theorem tyX1_ok : ∀ k, k < 5 → parseFieldDescriptor (TX1 k).2.2.1 = some (tyX1 k) := by decide +kernel
abbrev cX1_init : ByteArray := prog_3_method_1_code
def yX1_init : MethodName := ⟨RX1, "<init>", "()V"⟩
abbrev cX1_add : ByteArray := prog_3_method_2_code
def yX1_add : MethodName := ⟨RX1, "add", "(III)V"⟩
abbrev cX1_dropLast : ByteArray := prog_3_method_3_code
def yX1_dropLast : MethodName := ⟨RX1, "dropLast", "()V"⟩
def RX2 : String := "PloughTurns$Gone"
def TX2 : u_T := fun k => match k with
  | 0 => ("PloughTurns$Listing", "step", "I", true)
  | 1 => ("PloughTurns$Listing", "size", "I", false)
  | 2 => ("PloughTurns$Listing", "fault", "I", false)
  | 3 => ("PloughTurns$Gone", "sort", "[I", true)
  | 4 => ("PloughTurns$Gone", "x", "[I", true)
  | 5 => ("PloughTurns$Gone", "y", "[I", true)
  | _ => ("PloughTurns$Gone", "far", "[I", true)
def tyX2 : Nat → FieldType := fun k => match k with
  | 0 => .int
  | 1 => .int
  | 2 => .int
  | 3 => .array .int
  | 4 => .array .int
  | 5 => .array .int
  | _ => .array .int
abbrev wsX20 : List Cond := u_ws RX2 TX2 7
theorem nmX2 : ∀ a, a < 7 → ∀ b, b < 7 → a ≠ b → (TX2 a).2.1 ≠ (TX2 b).2.1 := by decide +kernel
theorem tyX2_ok : ∀ k, k < 7 → parseFieldDescriptor (TX2 k).2.2.1 = some (tyX2 k) := by decide +kernel
abbrev cX2_init : ByteArray := prog_4_method_1_code
def yX2_init : MethodName := ⟨RX2, "<init>", "()V"⟩
abbrev cX2_takesByte : ByteArray := prog_4_method_2_code
def yX2_takesByte : MethodName := ⟨RX2, "takesByte", "(III)Z"⟩
abbrev cX2_sortOf : ByteArray := prog_4_method_3_code
def yX2_sortOf : MethodName := ⟨RX2, "sortOf", "(I)I"⟩
abbrev cX2_liesAnother : ByteArray := prog_4_method_4_code
def yX2_liesAnother : MethodName := ⟨RX2, "liesAnother", "(IIII)Z"⟩
def RX3 : String := "PloughTurns$Listing"
def TX3 : u_T := fun k => match k with
  | _ => ("", "", "", false)
def tyX3 : Nat → FieldType := fun k => match k with
  | _ => .int
abbrev wsX30 : List Cond := u_ws RX3 TX3 0
theorem nmX3 : ∀ a, a < 0 → ∀ b, b < 0 → a ≠ b → (TX3 a).2.1 ≠ (TX3 b).2.1 := by decide +kernel
theorem tyX3_ok : ∀ k, k < 0 → parseFieldDescriptor (TX3 k).2.2.1 = some (tyX3 k) := by decide +kernel
abbrev cX3_init : ByteArray := prog_5_method_1_code
def yX3_init : MethodName := ⟨RX3, "<init>", "(I)V"⟩
abbrev cX3_take : ByteArray := prog_5_method_2_code
def yX3_take : MethodName := ⟨RX3, "take", "(LPloughTurns$Text;)V"⟩
def RX4 : String := "PloughTurns$Needs"
def TX4 : u_T := fun k => match k with
  | 0 => ("PloughTurns$Listing", "step", "I", true)
  | 1 => ("PloughTurns$Listing", "size", "I", false)
  | 2 => ("PloughTurns$Listing", "fault", "I", false)
  | 3 => ("PloughTurns$Needs", "who", "[I", true)
  | 4 => ("PloughTurns$Needs", "night", "[I", true)
  | _ => ("PloughTurns$Needs", "much", "[I", true)
def tyX4 : Nat → FieldType := fun k => match k with
  | 0 => .int
  | 1 => .int
  | 2 => .int
  | 3 => .array .int
  | 4 => .array .int
  | _ => .array .int
abbrev wsX40 : List Cond := u_ws RX4 TX4 6
theorem nmX4 : ∀ a, a < 6 → ∀ b, b < 6 → a ≠ b → (TX4 a).2.1 ≠ (TX4 b).2.1 := by decide +kernel
theorem tyX4_ok : ∀ k, k < 6 → parseFieldDescriptor (TX4 k).2.2.1 = some (tyX4 k) := by decide +kernel
abbrev cX4_init : ByteArray := prog_6_method_1_code
def yX4_init : MethodName := ⟨RX4, "<init>", "()V"⟩
abbrev cX4_takesByte : ByteArray := prog_6_method_2_code
def yX4_takesByte : MethodName := ⟨RX4, "takesByte", "(III)Z"⟩
abbrev cX4_weightOn : ByteArray := prog_6_method_3_code
def yX4_weightOn : MethodName := ⟨RX4, "weightOn", "(II)I"⟩
def RX5 : String := "PloughTurns$Odds"
def TX5 : u_T := fun k => match k with
  | _ => ("PloughTurns$Odds", "sets", "[I", true)
def tyX5 : Nat → FieldType := fun k => match k with
  | _ => .array .int
abbrev wsX50 : List Cond := u_ws RX5 TX5 1
theorem nmX5 : ∀ a, a < 1 → ∀ b, b < 1 → a ≠ b → (TX5 a).2.1 ≠ (TX5 b).2.1 := by decide +kernel
theorem tyX5_ok : ∀ k, k < 1 → parseFieldDescriptor (TX5 k).2.2.1 = some (tyX5 k) := by decide +kernel
abbrev cX5_init : ByteArray := prog_7_method_1_code
def yX5_init : MethodName := ⟨RX5, "<init>", "()V"⟩
abbrev cX5_tally : ByteArray := prog_7_method_2_code
def yX5_tally : MethodName := ⟨RX5, "tally", "(LPloughTurns$Gone;LPloughTurns$Needs;LPloughTurns$Events;LPloughTurns$Course;)V"⟩
abbrev cX5_tell : ByteArray := prog_7_method_3_code
def yX5_tell : MethodName := ⟨RX5, "tell", "(IIII)J"⟩
abbrev cX5_power : ByteArray := prog_7_method_4_code
def yX5_power : MethodName := ⟨RX5, "power", "(II)J"⟩
def RX6 : String := "PloughTurns$Sheet"
def TX6 : u_T := fun k => match k with
  | 0 => ("PloughTurns$Sheet", "items", "[I", true)
  | 1 => ("PloughTurns$Sheet", "form", "I", false)
  | _ => ("PloughTurns$Sheet", "size", "I", false)
def tyX6 : Nat → FieldType := fun k => match k with
  | 0 => .array .int
  | 1 => .int
  | _ => .int
abbrev wsX60 : List Cond := u_ws RX6 TX6 3
theorem nmX6 : ∀ a, a < 3 → ∀ b, b < 3 → a ≠ b → (TX6 a).2.1 ≠ (TX6 b).2.1 := by decide +kernel
theorem tyX6_ok : ∀ k, k < 3 → parseFieldDescriptor (TX6 k).2.2.1 = some (tyX6 k) := by decide +kernel
abbrev cX6_init : ByteArray := prog_8_method_1_code
def yX6_init : MethodName := ⟨RX6, "<init>", "()V"⟩
abbrev cX6_makeNew : ByteArray := prog_8_method_2_code
def yX6_makeNew : MethodName := ⟨RX6, "makeNew", "(II)V"⟩
abbrev cX6_setItem : ByteArray := prog_8_method_3_code
def yX6_setItem : MethodName := ⟨RX6, "setItem", "(II)V"⟩
abbrev cX6_narrowed : ByteArray := prog_8_method_4_code
def yX6_narrowed : MethodName := ⟨RX6, "narrowed", "(I)I"⟩
abbrev cX6_hasSpan : ByteArray := prog_8_method_5_code
def yX6_hasSpan : MethodName := ⟨RX6, "hasSpan", "(II)Z"⟩
def RX7 : String := "PloughTurns$Sightings"
def TX7 : u_T := fun k => match k with
  | 0 => ("PloughTurns$Sightings", "night", "[I", true)
  | 1 => ("PloughTurns$Sightings", "one", "[I", true)
  | 2 => ("PloughTurns$Sightings", "isUp", "[I", true)
  | _ => ("PloughTurns$Sightings", "size", "I", false)
def tyX7 : Nat → FieldType := fun k => match k with
  | 0 => .array .int
  | 1 => .array .int
  | 2 => .array .int
  | _ => .int
abbrev wsX70 : List Cond := u_ws RX7 TX7 4
theorem nmX7 : ∀ a, a < 4 → ∀ b, b < 4 → a ≠ b → (TX7 a).2.1 ≠ (TX7 b).2.1 := by decide +kernel
theorem tyX7_ok : ∀ k, k < 4 → parseFieldDescriptor (TX7 k).2.2.1 = some (tyX7 k) := by decide +kernel
abbrev cX7_init : ByteArray := prog_9_method_1_code
def yX7_init : MethodName := ⟨RX7, "<init>", "()V"⟩
abbrev cX7_add : ByteArray := prog_9_method_2_code
def yX7_add : MethodName := ⟨RX7, "add", "(III)V"⟩
abbrev cX7_fit : ByteArray := prog_9_method_3_code
def yX7_fit : MethodName := ⟨RX7, "fit", "(LPloughTurns$Course;I)Z"⟩
def RX8 : String := "PloughTurns$Text"
def TX8 : u_T := fun k => match k with
  | 0 => ("PloughTurns$Text", "bytes", "[I", true)
  | 1 => ("PloughTurns$Text", "room", "I", true)
  | _ => ("PloughTurns$Text", "size", "I", false)
def tyX8 : Nat → FieldType := fun k => match k with
  | 0 => .array .int
  | 1 => .int
  | _ => .int
abbrev wsX80 : List Cond := u_ws RX8 TX8 3
theorem nmX8 : ∀ a, a < 3 → ∀ b, b < 3 → a ≠ b → (TX8 a).2.1 ≠ (TX8 b).2.1 := by decide +kernel
theorem tyX8_ok : ∀ k, k < 3 → parseFieldDescriptor (TX8 k).2.2.1 = some (tyX8 k) := by decide +kernel
abbrev cX8_init : ByteArray := prog_10_method_1_code
def yX8_init : MethodName := ⟨RX8, "<init>", "(I)V"⟩
abbrev cX8_add : ByteArray := prog_10_method_2_code
def yX8_add : MethodName := ⟨RX8, "add", "(I)V"⟩
def RX9 : String := "PloughTurns"
def TX9 : u_T := fun k => match k with
  | 0 => ("PloughTurns", "goneText", "LPloughTurns$Text;", true)
  | 1 => ("PloughTurns", "needText", "LPloughTurns$Text;", true)
  | 2 => ("PloughTurns", "gone", "LPloughTurns$Gone;", true)
  | 3 => ("PloughTurns", "needs", "LPloughTurns$Needs;", true)
  | 4 => ("PloughTurns", "events", "LPloughTurns$Events;", true)
  | 5 => ("PloughTurns", "drawn", "LPloughTurns$Events;", true)
  | 6 => ("PloughTurns", "sightings", "LPloughTurns$Sightings;", true)
  | 7 => ("PloughTurns", "told", "LPloughTurns$Course;", true)
  | 8 => ("PloughTurns", "trial", "LPloughTurns$Course;", true)
  | 9 => ("PloughTurns", "odds", "LPloughTurns$Odds;", true)
  | 10 => ("PloughTurns", "looks", "[I", true)
  | 11 => ("PloughTurns", "sheets", "[LPloughTurns$Sheet;", true)
  | 12 => ("PloughTurns", "toldIsStale", "Z", false)
  | 13 => ("PloughTurns", "oddsAreStale", "Z", false)
  | _ => ("PloughTurns", "latestFinding", "I", false)
def tyX9 : Nat → FieldType := fun k => match k with
  | 0 => .object "PloughTurns$Text"
  | 1 => .object "PloughTurns$Text"
  | 2 => .object "PloughTurns$Gone"
  | 3 => .object "PloughTurns$Needs"
  | 4 => .object "PloughTurns$Events"
  | 5 => .object "PloughTurns$Events"
  | 6 => .object "PloughTurns$Sightings"
  | 7 => .object "PloughTurns$Course"
  | 8 => .object "PloughTurns$Course"
  | 9 => .object "PloughTurns$Odds"
  | 10 => .array .int
  | 11 => .array (.object "PloughTurns$Sheet")
  | 12 => .boolean
  | 13 => .boolean
  | _ => .int
abbrev wsX90 : List Cond := u_ws RX9 TX9 15
theorem nmX9 : ∀ a, a < 15 → ∀ b, b < 15 → a ≠ b → (TX9 a).2.1 ≠ (TX9 b).2.1 := by decide +kernel
theorem tyX9_ok : ∀ k, k < 15 → parseFieldDescriptor (TX9 k).2.2.1 = some (tyX9 k) := by decide +kernel
abbrev cX9_init : ByteArray := prog_1_method_1_code
def yX9_init : MethodName := ⟨RX9, "<init>", "()V"⟩
abbrev cX9_type : ByteArray := prog_1_method_2_code
def yX9_type : MethodName := ⟨RX9, "type", "(II)I"⟩
abbrev cX9_wipe : ByteArray := prog_1_method_3_code
def yX9_wipe : MethodName := ⟨RX9, "wipe", "(I)I"⟩
abbrev cX9_undo : ByteArray := prog_1_method_4_code
def yX9_undo : MethodName := ⟨RX9, "undo", "(I)I"⟩
abbrev cX9_fault : ByteArray := prog_1_method_5_code
def yX9_fault : MethodName := ⟨RX9, "fault", "(I)I"⟩
abbrev cX9_gone : ByteArray := prog_1_method_6_code
def yX9_gone : MethodName := ⟨RX9, "gone", "(II)I"⟩
abbrev cX9_need : ByteArray := prog_1_method_7_code
def yX9_need : MethodName := ⟨RX9, "need", "(II)I"⟩
abbrev cX9_event : ByteArray := prog_1_method_8_code
def yX9_event : MethodName := ⟨RX9, "event", "(III)I"⟩
abbrev cX9_back : ByteArray := prog_1_method_9_code
def yX9_back : MethodName := ⟨RX9, "back", "()I"⟩
abbrev cX9_read : ByteArray := prog_1_method_10_code
def yX9_read : MethodName := ⟨RX9, "read", "(I)I"⟩
abbrev cX9_at : ByteArray := prog_1_method_11_code
def yX9_at : MethodName := ⟨RX9, "at", "(III)I"⟩
abbrev cX9_field : ByteArray := prog_1_method_12_code
def yX9_field : MethodName := ⟨RX9, "field", "(III)I"⟩
abbrev cX9_up : ByteArray := prog_1_method_13_code
def yX9_up : MethodName := ⟨RX9, "up", "(II)I"⟩
abbrev cX9_met : ByteArray := prog_1_method_14_code
def yX9_met : MethodName := ⟨RX9, "met", "(I)I"⟩
abbrev cX9_stood : ByteArray := prog_1_method_15_code
def yX9_stood : MethodName := ⟨RX9, "stood", "(I)I"⟩
abbrev cX9_wrongly : ByteArray := prog_1_method_16_code
def yX9_wrongly : MethodName := ⟨RX9, "wrongly", "()I"⟩
abbrev cX9_first : ByteArray := prog_1_method_17_code
def yX9_first : MethodName := ⟨RX9, "first", "(I)I"⟩
abbrev cX9_gate : ByteArray := prog_1_method_18_code
def yX9_gate : MethodName := ⟨RX9, "gate", "()I"⟩
abbrev cX9_rest : ByteArray := prog_1_method_19_code
def yX9_rest : MethodName := ⟨RX9, "rest", "()I"⟩
abbrev cX9_plough : ByteArray := prog_1_method_20_code
def yX9_plough : MethodName := ⟨RX9, "plough", "(II)I"⟩
abbrev cX9_lie : ByteArray := prog_1_method_21_code
def yX9_lie : MethodName := ⟨RX9, "lie", "(II)I"⟩
abbrev cX9_when : ByteArray := prog_1_method_22_code
def yX9_when : MethodName := ⟨RX9, "when", "(II)I"⟩
abbrev cX9_spare : ByteArray := prog_1_method_23_code
def yX9_spare : MethodName := ⟨RX9, "spare", "(I)I"⟩
abbrev cX9_seen : ByteArray := prog_1_method_24_code
def yX9_seen : MethodName := ⟨RX9, "seen", "(III)I"⟩
abbrev cX9_forget : ByteArray := prog_1_method_25_code
def yX9_forget : MethodName := ⟨RX9, "forget", "()I"⟩
abbrev cX9_never : ByteArray := prog_1_method_26_code
def yX9_never : MethodName := ⟨RX9, "never", "()I"⟩
abbrev cX9_was : ByteArray := prog_1_method_27_code
def yX9_was : MethodName := ⟨RX9, "was", "(II)I"⟩
abbrev cX9_ask : ByteArray := prog_1_method_28_code
def yX9_ask : MethodName := ⟨RX9, "ask", "(I)I"⟩
abbrev cX9_chance : ByteArray := prog_1_method_29_code
def yX9_chance : MethodName := ⟨RX9, "chance", "(III)J"⟩
abbrev cX9_years : ByteArray := prog_1_method_30_code
def yX9_years : MethodName := ⟨RX9, "years", "(III)I"⟩
abbrev cX9_sheet : ByteArray := prog_1_method_31_code
def yX9_sheet : MethodName := ⟨RX9, "sheet", "(III)I"⟩
abbrev cX9_lose : ByteArray := prog_1_method_32_code
def yX9_lose : MethodName := ⟨RX9, "lose", "(I)I"⟩
abbrev cX9_put : ByteArray := prog_1_method_33_code
def yX9_put : MethodName := ⟨RX9, "put", "(IIII)I"⟩
abbrev cX9_get : ByteArray := prog_1_method_34_code
def yX9_get : MethodName := ⟨RX9, "get", "(III)I"⟩
abbrev cX9_copy : ByteArray := prog_1_method_35_code
def yX9_copy : MethodName := ⟨RX9, "copy", "(IIIII)I"⟩
abbrev cX9_write : ByteArray := prog_1_method_36_code
def yX9_write : MethodName := ⟨RX9, "write", "(II)I"⟩
abbrev cX9_count : ByteArray := prog_1_method_37_code
def yX9_count : MethodName := ⟨RX9, "count", "(I)I"⟩
abbrev cX9_digest : ByteArray := prog_1_method_38_code
def yX9_digest : MethodName := ⟨RX9, "digest", "()J"⟩
abbrev cX9_isBelow : ByteArray := prog_1_method_39_code
def yX9_isBelow : MethodName := ⟨RX9, "isBelow", "(II)Z"⟩
abbrev cX9_find : ByteArray := prog_1_method_40_code
def yX9_find : MethodName := ⟨RX9, "find", "(I)I"⟩
abbrev cX9_textOf : ByteArray := prog_1_method_41_code
def yX9_textOf : MethodName := ⟨RX9, "textOf", "(I)LPloughTurns$Text;"⟩
abbrev cX9_takeTextAnew : ByteArray := prog_1_method_42_code
def yX9_takeTextAnew : MethodName := ⟨RX9, "takeTextAnew", "(I)V"⟩
abbrev cX9_markStale : ByteArray := prog_1_method_43_code
def yX9_markStale : MethodName := ⟨RX9, "markStale", "()V"⟩
abbrev cX9_asTold : ByteArray := prog_1_method_44_code
def yX9_asTold : MethodName := ⟨RX9, "asTold", "()LPloughTurns$Course;"⟩
abbrev cX9_metWithPlough : ByteArray := prog_1_method_45_code
def yX9_metWithPlough : MethodName := ⟨RX9, "metWithPlough", "(II)I"⟩
abbrev cX9_bestFurrow : ByteArray := prog_1_method_46_code
def yX9_bestFurrow : MethodName := ⟨RX9, "bestFurrow", "(I)I"⟩
abbrev cX9_bestNight : ByteArray := prog_1_method_47_code
def yX9_bestNight : MethodName := ⟨RX9, "bestNight", "(I)I"⟩
abbrev cX9_bestCell : ByteArray := prog_1_method_48_code
def yX9_bestCell : MethodName := ⟨RX9, "bestCell", "(I)I"⟩
abbrev cX9_nightsUpFrom : ByteArray := prog_1_method_49_code
def yX9_nightsUpFrom : MethodName := ⟨RX9, "nightsUpFrom", "(II)I"⟩
abbrev cX9_tellCell : ByteArray := prog_1_method_50_code
def yX9_tellCell : MethodName := ⟨RX9, "tellCell", "(III)I"⟩
abbrev cX9_spareEvents : ByteArray := prog_1_method_51_code
def yX9_spareEvents : MethodName := ⟨RX9, "spareEvents", "()I"⟩
abbrev cX9_placeOfBit : ByteArray := prog_1_method_52_code
def yX9_placeOfBit : MethodName := ⟨RX9, "placeOfBit", "(II)I"⟩
abbrev cX9_isRightWithout : ByteArray := prog_1_method_53_code
def yX9_isRightWithout : MethodName := ⟨RX9, "isRightWithout", "(I)Z"⟩
abbrev cX9_fittingSorts : ByteArray := prog_1_method_54_code
def yX9_fittingSorts : MethodName := ⟨RX9, "fittingSorts", "(I)I"⟩
abbrev cX9_fittingFars : ByteArray := prog_1_method_55_code
def yX9_fittingFars : MethodName := ⟨RX9, "fittingFars", "(I)I"⟩
abbrev cX9_greatestAlike : ByteArray := prog_1_method_56_code
def yX9_greatestAlike : MethodName := ⟨RX9, "greatestAlike", "(II)I"⟩
abbrev cX9_drawEvents : ByteArray := prog_1_method_57_code
def yX9_drawEvents : MethodName := ⟨RX9, "drawEvents", "(II)V"⟩
abbrev cX9_nextSeed : ByteArray := prog_1_method_58_code
def yX9_nextSeed : MethodName := ⟨RX9, "nextSeed", "(I)I"⟩
abbrev cX9_upperBits : ByteArray := prog_1_method_59_code
def yX9_upperBits : MethodName := ⟨RX9, "upperBits", "(I)I"⟩
abbrev cX9_refuseItem : ByteArray := prog_1_method_60_code
def yX9_refuseItem : MethodName := ⟨RX9, "refuseItem", "(III)I"⟩
abbrev cX9_mix : ByteArray := prog_1_method_61_code
def yX9_mix : MethodName := ⟨RX9, "mix", "(JJ)J"⟩
abbrev cX9_mixNeed : ByteArray := prog_1_method_62_code
def yX9_mixNeed : MethodName := ⟨RX9, "mixNeed", "(JI)J"⟩
abbrev cX9_mixOne : ByteArray := prog_1_method_63_code
def yX9_mixOne : MethodName := ⟨RX9, "mixOne", "(JI)J"⟩
def RX10 : String := "PloughTurnsModel"
def TX10 : u_T := fun k => match k with
  | 0 => ("PloughTurnsModel", "typed", "[I", true)
  | 1 => ("PloughTurnsModel", "texts", "[I", true)
  | 2 => ("PloughTurnsModel", "people", "I", false)
  | 3 => ("PloughTurnsModel", "sorts", "[I", true)
  | 4 => ("PloughTurnsModel", "xs", "[I", true)
  | 5 => ("PloughTurnsModel", "ys", "[I", true)
  | 6 => ("PloughTurnsModel", "fars", "[I", true)
  | 7 => ("PloughTurnsModel", "needs", "I", false)
  | 8 => ("PloughTurnsModel", "whos", "[I", true)
  | 9 => ("PloughTurnsModel", "since", "[I", true)
  | 10 => ("PloughTurnsModel", "muchs", "[I", true)
  | 11 => ("PloughTurnsModel", "events", "I", false)
  | 12 => ("PloughTurnsModel", "eventKind", "[I", true)
  | 13 => ("PloughTurnsModel", "eventNight", "[I", true)
  | 14 => ("PloughTurnsModel", "eventFurrow", "[I", true)
  | 15 => ("PloughTurnsModel", "eventsNow", "I", false)
  | 16 => ("PloughTurnsModel", "kindNow", "[I", true)
  | 17 => ("PloughTurnsModel", "nightNow", "[I", true)
  | 18 => ("PloughTurnsModel", "furrowNow", "[I", true)
  | 19 => ("PloughTurnsModel", "notEvents", "I", false)
  | 20 => ("PloughTurnsModel", "upBits", "I", false)
  | 21 => ("PloughTurnsModel", "often", "[I", true)
  | 22 => ("PloughTurnsModel", "metAt", "[I", true)
  | 23 => ("PloughTurnsModel", "wrongNow", "I", false)
  | 24 => ("PloughTurnsModel", "firstNight", "I", false)
  | 25 => ("PloughTurnsModel", "firstOne", "I", false)
  | 26 => ("PloughTurnsModel", "wantAt", "[I", true)
  | 27 => ("PloughTurnsModel", "oftenAt", "[I", true)
  | 28 => ("PloughTurnsModel", "upAt", "[I", true)
  | 29 => ("PloughTurnsModel", "openAt", "[I", true)
  | 30 => ("PloughTurnsModel", "planRow", "[I", true)
  | 31 => ("PloughTurnsModel", "seens", "I", false)
  | 32 => ("PloughTurnsModel", "seenNight", "[I", true)
  | 33 => ("PloughTurnsModel", "seenOne", "[I", true)
  | 34 => ("PloughTurnsModel", "seenUp", "[I", true)
  | 35 => ("PloughTurnsModel", "upBy", "[I", true)
  | 36 => ("PloughTurnsModel", "isThere", "[Z", true)
  | 37 => ("PloughTurnsModel", "forms", "[I", true)
  | 38 => ("PloughTurnsModel", "sizes", "[I", true)
  | 39 => ("PloughTurnsModel", "items", "[I", true)
  | 40 => ("PloughTurnsModel", "moved", "[I", true)
  | _ => ("PloughTurnsModel", "finding", "I", false)
def tyX10 : Nat → FieldType := fun k => match k with
  | 0 => .array .int
  | 1 => .array .int
  | 2 => .int
  | 3 => .array .int
  | 4 => .array .int
  | 5 => .array .int
  | 6 => .array .int
  | 7 => .int
  | 8 => .array .int
  | 9 => .array .int
  | 10 => .array .int
  | 11 => .int
  | 12 => .array .int
  | 13 => .array .int
  | 14 => .array .int
  | 15 => .int
  | 16 => .array .int
  | 17 => .array .int
  | 18 => .array .int
  | 19 => .int
  | 20 => .int
  | 21 => .array .int
  | 22 => .array .int
  | 23 => .int
  | 24 => .int
  | 25 => .int
  | 26 => .array .int
  | 27 => .array .int
  | 28 => .array .int
  | 29 => .array .int
  | 30 => .array .int
  | 31 => .int
  | 32 => .array .int
  | 33 => .array .int
  | 34 => .array .int
  | 35 => .array .int
  | 36 => .array .boolean
  | 37 => .array .int
  | 38 => .array .int
  | 39 => .array .int
  | 40 => .array .int
  | _ => .int
abbrev wsX100 : List Cond := u_ws RX10 TX10 42
theorem nmX10 : ∀ a, a < 42 → ∀ b, b < 42 → a ≠ b → (TX10 a).2.1 ≠ (TX10 b).2.1 := by decide +kernel
theorem tyX10_ok : ∀ k, k < 42 → parseFieldDescriptor (TX10 k).2.2.1 = some (tyX10 k) := by decide +kernel
abbrev cX10_init : ByteArray := prog_12_method_1_code
def yX10_init : MethodName := ⟨RX10, "<init>", "()V"⟩
abbrev cX10_in : ByteArray := prog_12_method_3_code
def yX10_in : MethodName := ⟨RX10, "in", "(III)Z"⟩
abbrev cX10_isIn : ByteArray := prog_12_method_4_code
def yX10_isIn : MethodName := ⟨RX10, "isIn", "(II)Z"⟩
abbrev cX10_no : ByteArray := prog_12_method_5_code
def yX10_no : MethodName := ⟨RX10, "no", "(I)J"⟩
abbrev cX10_lowest : ByteArray := prog_12_method_6_code
def yX10_lowest : MethodName := ⟨RX10, "lowest", "(JJI)J"⟩
abbrev cX10_isText : ByteArray := prog_12_method_7_code
def yX10_isText : MethodName := ⟨RX10, "isText", "(I)Z"⟩
abbrev cX10_isNight : ByteArray := prog_12_method_8_code
def yX10_isNight : MethodName := ⟨RX10, "isNight", "(I)Z"⟩
abbrev cX10_isTwo : ByteArray := prog_12_method_9_code
def yX10_isTwo : MethodName := ⟨RX10, "isTwo", "(I)Z"⟩
abbrev cX10_isThree : ByteArray := prog_12_method_10_code
def yX10_isThree : MethodName := ⟨RX10, "isThree", "(I)Z"⟩
abbrev cX10_isSix : ByteArray := prog_12_method_11_code
def yX10_isSix : MethodName := ⟨RX10, "isSix", "(I)Z"⟩
abbrev cX10_isEight : ByteArray := prog_12_method_12_code
def yX10_isEight : MethodName := ⟨RX10, "isEight", "(I)Z"⟩
abbrev cX10_type : ByteArray := prog_12_method_13_code
def yX10_type : MethodName := ⟨RX10, "type", "(II)I"⟩
abbrev cX10_wipe : ByteArray := prog_12_method_14_code
def yX10_wipe : MethodName := ⟨RX10, "wipe", "(I)I"⟩
abbrev cX10_undo : ByteArray := prog_12_method_15_code
def yX10_undo : MethodName := ⟨RX10, "undo", "(I)I"⟩
abbrev cX10_byteAt : ByteArray := prog_12_method_16_code
def yX10_byteAt : MethodName := ⟨RX10, "byteAt", "(II)I"⟩
abbrev cX10_isTaken : ByteArray := prog_12_method_17_code
def yX10_isTaken : MethodName := ⟨RX10, "isTaken", "(III)Z"⟩
abbrev cX10_readsGone : ByteArray := prog_12_method_18_code
def yX10_readsGone : MethodName := ⟨RX10, "readsGone", "(II)I"⟩
abbrev cX10_readsNeed : ByteArray := prog_12_method_19_code
def yX10_readsNeed : MethodName := ⟨RX10, "readsNeed", "(II)I"⟩
abbrev cX10_readsParts : ByteArray := prog_12_method_20_code
def yX10_readsParts : MethodName := ⟨RX10, "readsParts", "(I)I"⟩
abbrev cX10_faultOf : ByteArray := prog_12_method_21_code
def yX10_faultOf : MethodName := ⟨RX10, "faultOf", "(I)I"⟩
abbrev cX10_reads : ByteArray := prog_12_method_22_code
def yX10_reads : MethodName := ⟨RX10, "reads", "()V"⟩
abbrev cX10_fault : ByteArray := prog_12_method_23_code
def yX10_fault : MethodName := ⟨RX10, "fault", "(I)I"⟩
abbrev cX10_isOne : ByteArray := prog_12_method_24_code
def yX10_isOne : MethodName := ⟨RX10, "isOne", "(I)Z"⟩
abbrev cX10_isNeed : ByteArray := prog_12_method_25_code
def yX10_isNeed : MethodName := ⟨RX10, "isNeed", "(I)Z"⟩
abbrev cX10_goneOf : ByteArray := prog_12_method_26_code
def yX10_goneOf : MethodName := ⟨RX10, "goneOf", "(II)I"⟩
abbrev cX10_gone : ByteArray := prog_12_method_27_code
def yX10_gone : MethodName := ⟨RX10, "gone", "(II)I"⟩
abbrev cX10_needOf : ByteArray := prog_12_method_28_code
def yX10_needOf : MethodName := ⟨RX10, "needOf", "(II)I"⟩
abbrev cX10_need : ByteArray := prog_12_method_29_code
def yX10_need : MethodName := ⟨RX10, "need", "(II)I"⟩
abbrev cX10_event : ByteArray := prog_12_method_30_code
def yX10_event : MethodName := ⟨RX10, "event", "(III)I"⟩
abbrev cX10_back : ByteArray := prog_12_method_31_code
def yX10_back : MethodName := ⟨RX10, "back", "()I"⟩
abbrev cX10_read : ByteArray := prog_12_method_32_code
def yX10_read : MethodName := ⟨RX10, "read", "(I)I"⟩
abbrev cX10_asTold : ByteArray := prog_12_method_33_code
def yX10_asTold : MethodName := ⟨RX10, "asTold", "()V"⟩
abbrev cX10_isOpen : ByteArray := prog_12_method_34_code
def yX10_isOpen : MethodName := ⟨RX10, "isOpen", "(II)Z"⟩
abbrev cX10_wanted : ByteArray := prog_12_method_35_code
def yX10_wanted : MethodName := ⟨RX10, "wanted", "(II)I"⟩
abbrev cX10_pull : ByteArray := prog_12_method_36_code
def yX10_pull : MethodName := ⟨RX10, "pull", "(II)I"⟩
abbrev cX10_comesUp : ByteArray := prog_12_method_37_code
def yX10_comesUp : MethodName := ⟨RX10, "comesUp", "(II)V"⟩
abbrev cX10_ploughs : ByteArray := prog_12_method_38_code
def yX10_ploughs : MethodName := ⟨RX10, "ploughs", "(II)V"⟩
abbrev cX10_harrows : ByteArray := prog_12_method_39_code
def yX10_harrows : MethodName := ⟨RX10, "harrows", "(I)V"⟩
abbrev cX10_goesBy : ByteArray := prog_12_method_40_code
def yX10_goesBy : MethodName := ⟨RX10, "goesBy", "(I)V"⟩
abbrev cX10_runs : ByteArray := prog_12_method_41_code
def yX10_runs : MethodName := ⟨RX10, "runs", "()V"⟩
abbrev cX10_runsTold : ByteArray := prog_12_method_42_code
def yX10_runsTold : MethodName := ⟨RX10, "runsTold", "()V"⟩
abbrev cX10_atOf : ByteArray := prog_12_method_43_code
def yX10_atOf : MethodName := ⟨RX10, "atOf", "(III)I"⟩
abbrev cX10_at : ByteArray := prog_12_method_44_code
def yX10_at : MethodName := ⟨RX10, "at", "(III)I"⟩
abbrev cX10_fieldOf : ByteArray := prog_12_method_45_code
def yX10_fieldOf : MethodName := ⟨RX10, "fieldOf", "(III)I"⟩
abbrev cX10_field : ByteArray := prog_12_method_46_code
def yX10_field : MethodName := ⟨RX10, "field", "(III)I"⟩
abbrev cX10_many : ByteArray := prog_12_method_47_code
def yX10_many : MethodName := ⟨RX10, "many", "(I)I"⟩
abbrev cX10_upOf : ByteArray := prog_12_method_48_code
def yX10_upOf : MethodName := ⟨RX10, "upOf", "(II)I"⟩
abbrev cX10_up : ByteArray := prog_12_method_49_code
def yX10_up : MethodName := ⟨RX10, "up", "(II)I"⟩
abbrev cX10_metOf : ByteArray := prog_12_method_50_code
def yX10_metOf : MethodName := ⟨RX10, "metOf", "(I)I"⟩
abbrev cX10_met : ByteArray := prog_12_method_51_code
def yX10_met : MethodName := ⟨RX10, "met", "(I)I"⟩
abbrev cX10_stoodNow : ByteArray := prog_12_method_52_code
def yX10_stoodNow : MethodName := ⟨RX10, "stoodNow", "(I)I"⟩
abbrev cX10_stoodOf : ByteArray := prog_12_method_53_code
def yX10_stoodOf : MethodName := ⟨RX10, "stoodOf", "(I)I"⟩
abbrev cX10_stood : ByteArray := prog_12_method_54_code
def yX10_stood : MethodName := ⟨RX10, "stood", "(I)I"⟩
abbrev cX10_wronglyOf : ByteArray := prog_12_method_55_code
def yX10_wronglyOf : MethodName := ⟨RX10, "wronglyOf", "()I"⟩
abbrev cX10_wrongly : ByteArray := prog_12_method_56_code
def yX10_wrongly : MethodName := ⟨RX10, "wrongly", "()I"⟩
abbrev cX10_firstOf : ByteArray := prog_12_method_57_code
def yX10_firstOf : MethodName := ⟨RX10, "firstOf", "(I)I"⟩
abbrev cX10_first : ByteArray := prog_12_method_58_code
def yX10_first : MethodName := ⟨RX10, "first", "(I)I"⟩
abbrev cX10_gateOf : ByteArray := prog_12_method_59_code
def yX10_gateOf : MethodName := ⟨RX10, "gateOf", "()I"⟩
abbrev cX10_gate : ByteArray := prog_12_method_60_code
def yX10_gate : MethodName := ⟨RX10, "gate", "()I"⟩
abbrev cX10_restOf : ByteArray := prog_12_method_61_code
def yX10_restOf : MethodName := ⟨RX10, "restOf", "()I"⟩
abbrev cX10_rest : ByteArray := prog_12_method_62_code
def yX10_rest : MethodName := ⟨RX10, "rest", "()I"⟩
abbrev cX10_metNow : ByteArray := prog_12_method_63_code
def yX10_metNow : MethodName := ⟨RX10, "metNow", "()I"⟩
abbrev cX10_more : ByteArray := prog_12_method_64_code
def yX10_more : MethodName := ⟨RX10, "more", "(II)V"⟩
abbrev cX10_ploughOf : ByteArray := prog_12_method_65_code
def yX10_ploughOf : MethodName := ⟨RX10, "ploughOf", "(II)I"⟩
abbrev cX10_plough : ByteArray := prog_12_method_66_code
def yX10_plough : MethodName := ⟨RX10, "plough", "(II)I"⟩
abbrev cX10_isOther : ByteArray := prog_12_method_67_code
def yX10_isOther : MethodName := ⟨RX10, "isOther", "(III)Z"⟩
abbrev cX10_lieOf : ByteArray := prog_12_method_68_code
def yX10_lieOf : MethodName := ⟨RX10, "lieOf", "(II)I"⟩
abbrev cX10_lie : ByteArray := prog_12_method_69_code
def yX10_lie : MethodName := ⟨RX10, "lie", "(II)I"⟩
abbrev cX10_whenOf : ByteArray := prog_12_method_70_code
def yX10_whenOf : MethodName := ⟨RX10, "whenOf", "(II)I"⟩
abbrev cX10_when : ByteArray := prog_12_method_71_code
def yX10_when : MethodName := ⟨RX10, "when", "(II)I"⟩
abbrev cX10_isSpared : ByteArray := prog_12_method_72_code
def yX10_isSpared : MethodName := ⟨RX10, "isSpared", "(I)Z"⟩
abbrev cX10_spareBy : ByteArray := prog_12_method_73_code
def yX10_spareBy : MethodName := ⟨RX10, "spareBy", "()I"⟩
abbrev cX10_ofRow : ByteArray := prog_12_method_74_code
def yX10_ofRow : MethodName := ⟨RX10, "ofRow", "(II)I"⟩
abbrev cX10_spare : ByteArray := prog_12_method_75_code
def yX10_spare : MethodName := ⟨RX10, "spare", "(I)I"⟩
abbrev cX10_seen : ByteArray := prog_12_method_76_code
def yX10_seen : MethodName := ⟨RX10, "seen", "(III)I"⟩
abbrev cX10_forget : ByteArray := prog_12_method_77_code
def yX10_forget : MethodName := ⟨RX10, "forget", "()I"⟩
abbrev cX10_isSeen : ByteArray := prog_12_method_78_code
def yX10_isSeen : MethodName := ⟨RX10, "isSeen", "()Z"⟩
abbrev cX10_neverNow : ByteArray := prog_12_method_79_code
def yX10_neverNow : MethodName := ⟨RX10, "neverNow", "()I"⟩
abbrev cX10_never : ByteArray := prog_12_method_80_code
def yX10_never : MethodName := ⟨RX10, "never", "()I"⟩
abbrev cX10_sortsBy : ByteArray := prog_12_method_81_code
def yX10_sortsBy : MethodName := ⟨RX10, "sortsBy", "(I)I"⟩
abbrev cX10_farsBy : ByteArray := prog_12_method_82_code
def yX10_farsBy : MethodName := ⟨RX10, "farsBy", "(I)I"⟩
abbrev cX10_was : ByteArray := prog_12_method_83_code
def yX10_was : MethodName := ⟨RX10, "was", "(II)I"⟩
abbrev cX10_askOf : ByteArray := prog_12_method_84_code
def yX10_askOf : MethodName := ⟨RX10, "askOf", "(I)I"⟩
abbrev cX10_ask : ByteArray := prog_12_method_85_code
def yX10_ask : MethodName := ⟨RX10, "ask", "(I)I"⟩
abbrev cX10_chanceOf : ByteArray := prog_12_method_86_code
def yX10_chanceOf : MethodName := ⟨RX10, "chanceOf", "(III)J"⟩
abbrev cX10_chance : ByteArray := prog_12_method_87_code
def yX10_chance : MethodName := ⟨RX10, "chance", "(III)J"⟩
abbrev cX10_yearsOf : ByteArray := prog_12_method_88_code
def yX10_yearsOf : MethodName := ⟨RX10, "yearsOf", "(III)I"⟩
abbrev cX10_years : ByteArray := prog_12_method_89_code
def yX10_years : MethodName := ⟨RX10, "years", "(III)I"⟩
abbrev cX10_meets : ByteArray := prog_12_method_90_code
def yX10_meets : MethodName := ⟨RX10, "meets", "(I)I"⟩
abbrev cX10_isSheet : ByteArray := prog_12_method_91_code
def yX10_isSheet : MethodName := ⟨RX10, "isSheet", "(I)Z"⟩
abbrev cX10_sheet : ByteArray := prog_12_method_92_code
def yX10_sheet : MethodName := ⟨RX10, "sheet", "(III)I"⟩
abbrev cX10_lose : ByteArray := prog_12_method_93_code
def yX10_lose : MethodName := ⟨RX10, "lose", "(I)I"⟩
abbrev cX10_lacks : ByteArray := prog_12_method_94_code
def yX10_lacks : MethodName := ⟨RX10, "lacks", "(III)I"⟩
abbrev cX10_keep : ByteArray := prog_12_method_95_code
def yX10_keep : MethodName := ⟨RX10, "keep", "(III)V"⟩
abbrev cX10_put : ByteArray := prog_12_method_96_code
def yX10_put : MethodName := ⟨RX10, "put", "(IIII)I"⟩
abbrev cX10_get : ByteArray := prog_12_method_97_code
def yX10_get : MethodName := ⟨RX10, "get", "(III)I"⟩
abbrev cX10_copy : ByteArray := prog_12_method_98_code
def yX10_copy : MethodName := ⟨RX10, "copy", "(IIIII)I"⟩
abbrev cX10_write : ByteArray := prog_12_method_99_code
def yX10_write : MethodName := ⟨RX10, "write", "(II)I"⟩
abbrev cX10_sumOf : ByteArray := prog_12_method_100_code
def yX10_sumOf : MethodName := ⟨RX10, "sumOf", "(I)I"⟩
abbrev cX10_count : ByteArray := prog_12_method_101_code
def yX10_count : MethodName := ⟨RX10, "count", "(I)I"⟩
abbrev cX10_needDigest : ByteArray := prog_12_method_102_code
def yX10_needDigest : MethodName := ⟨RX10, "needDigest", "(JI)J"⟩
abbrev cX10_nightDigest : ByteArray := prog_12_method_103_code
def yX10_nightDigest : MethodName := ⟨RX10, "nightDigest", "(JII)J"⟩
abbrev cX10_goneDigest : ByteArray := prog_12_method_104_code
def yX10_goneDigest : MethodName := ⟨RX10, "goneDigest", "(JI)J"⟩
abbrev cX10_digest : ByteArray := prog_12_method_105_code
def yX10_digest : MethodName := ⟨RX10, "digest", "()J"⟩
def RJ6 : String := "java/lang/Integer"
def TJ6 : u_T := fun k => match k with
  | _ => ("", "", "", false)
def tyJ6 : Nat → FieldType := fun k => match k with
  | _ => .int
theorem nmJ6 : ∀ a, a < 0 → ∀ b, b < 0 → a ≠ b → (TJ6 a).2.1 ≠ (TJ6 b).2.1 := by decide +kernel
theorem tyJ6_ok : ∀ k, k < 0 → parseFieldDescriptor (TJ6 k).2.2.1 = some (tyJ6 k) := by decide +kernel
abbrev cJ6_bitCount_0f7a4 : ByteArray := prog_13_method_49_code
def yJ6_bitCount_0f7a4 : MethodName := ⟨RJ6, "bitCount", "(I)I"⟩
def RJ9 : String := "java/lang/Math"
def TJ9 : u_T := fun k => match k with
  | _ => ("", "", "", false)
def tyJ9 : Nat → FieldType := fun k => match k with
  | _ => .int
theorem nmJ9 : ∀ a, a < 0 → ∀ b, b < 0 → a ≠ b → (TJ9 a).2.1 ≠ (TJ9 b).2.1 := by decide +kernel
theorem tyJ9_ok : ∀ k, k < 0 → parseFieldDescriptor (TJ9 k).2.2.1 = some (tyJ9 k) := by decide +kernel
abbrev cJ9_max_7cf53 : ByteArray := prog_14_method_65_code
def yJ9_max_7cf53 : MethodName := ⟨RJ9, "max", "(II)I"⟩
abbrev cJ9_min_7cf53 : ByteArray := prog_14_method_69_code
def yJ9_min_7cf53 : MethodName := ⟨RJ9, "min", "(II)I"⟩
def RJ10 : String := "java/lang/System"
def TJ10 : u_T := fun k => match k with
  | _ => ("", "", "", false)
def tyJ10 : Nat → FieldType := fun k => match k with
  | _ => .int
theorem nmJ10 : ∀ a, a < 0 → ∀ b, b < 0 → a ≠ b → (TJ10 a).2.1 ≠ (TJ10 b).2.1 := by decide +kernel
theorem tyJ10_ok : ∀ k, k < 0 → parseFieldDescriptor (TJ10 k).2.2.1 = some (tyJ10 k) := by decide +kernel
def RL : String := "PloughTurnsLaw"
abbrev cL_law : ByteArray := code
def yL_law : MethodName := ⟨RL, "law", "([I)Z"⟩
abbrev vwCl : List vw_C := [(RX0, TX0, 10), (RX1, TX1, 5), (RX2, TX2, 7), (RX4, TX4, 6), (RX5, TX5, 1), (RX6, TX6, 3), (RX7, TX7, 4), (RX8, TX8, 3), (RX9, TX9, 15), (RX10, TX10, 42)]
end
section
/-- the good words of the tables -/
def bigw : List Cond := lw_tbl.filter goodWord
theorem bigw_of {w : Cond} (h : w ∈ lw_tbl) (g : goodWord w = true) : w ∈ bigw := List.mem_filter.mpr ⟨h, g⟩
theorem bigw_in {w : Cond} (h : w ∈ bigw) : w ∈ lw_tbl := (List.mem_filter.mp h).1
theorem bigw_good {ws : List Cond} (h : ∀ w ∈ ws, w ∈ bigw) : GoodIn bigw ws := fun w hw => ⟨h w hw, good_of_word (List.mem_filter.mp (h w hw)).2⟩
theorem lt_0s {w : Cond} (i : Nat) (h : (k2_sels lw_privs)[i]? = some w) (g : goodWord w = true) : w ∈ bigw := bigw_of (List.mem_append_left _ (List.mem_of_getElem? h)) g
theorem lt_1 {w : Cond} (i : Nat) (h : tables_1_1[i]? = some w) (g : goodWord w = true) : w ∈ bigw := bigw_of (List.mem_append_right _ (List.mem_append_left _ (List.mem_of_getElem? h))) g
theorem lt_2 {w : Cond} (i : Nat) (h : tables_1_2[i]? = some w) (g : goodWord w = true) : w ∈ bigw := bigw_of (List.mem_append_right _ (List.mem_append_right _ (List.mem_append_left _ (List.mem_of_getElem? h)))) g
theorem lt_3 {w : Cond} (i : Nat) (h : tables_1_3[i]? = some w) (g : goodWord w = true) : w ∈ bigw := bigw_of (List.mem_append_right _ (List.mem_append_right _ (List.mem_append_right _ (List.mem_append_left _ (List.mem_of_getElem? h))))) g
theorem lt_4 {w : Cond} (i : Nat) (h : tables_1_4[i]? = some w) (g : goodWord w = true) : w ∈ bigw := bigw_of (List.mem_append_right _ (List.mem_append_right _ (List.mem_append_right _ (List.mem_append_right _ (List.mem_append_left _ (List.mem_of_getElem? h)))))) g
theorem lt_5 {w : Cond} (i : Nat) (h : tables_1_5[i]? = some w) (g : goodWord w = true) : w ∈ bigw := bigw_of (List.mem_append_right _ (List.mem_append_right _ (List.mem_append_right _ (List.mem_append_right _ (List.mem_append_right _ (List.mem_append_left _ (List.mem_of_getElem? h))))))) g
theorem lt_6 {w : Cond} (i : Nat) (h : tables_1_6[i]? = some w) (g : goodWord w = true) : w ∈ bigw := bigw_of (List.mem_append_right _ (List.mem_append_right _ (List.mem_append_right _ (List.mem_append_right _ (List.mem_append_right _ (List.mem_append_right _ (List.mem_of_getElem? h))))))) g
/-! the abstract machine: a system's cells by number, what they hold a function of cell and place; a walk as a judgement without the heap -/
abbrev Sg : Type := Nat → Nat → Int32
def up2 (σ : Sg) (c k : Nat) (v : Int32) : Sg := fun c' => if c' = c then upd (σ c) k v else σ c'
def cp2 (σ : Sg) (c0 s0 c1 d0 n : Nat) : Sg := fun c' => if c' = c1 then va_cpy (σ c0) (σ c1) s0 d0 n else σ c'
def inB (i : Int32) (n : Nat) : Bool := !(decide (i < 0) || decide (n ≤ i.toNatClampNeg))
theorem inB_in {i : Int32} {n : Nat} (h : inB i n = true) : vp_in i n := by
  simp only [inB, Bool.not_eq_true', Bool.or_eq_false_iff, decide_eq_false_iff_not] at h
  exact fun q => q.elim h.1 h.2
theorem inB_of {i : Int32} {n : Nat} (h : vp_in i n) : inB i n = true := by
  simp only [inB, Bool.not_eq_true', Bool.or_eq_false_iff, decide_eq_false_iff_not]
  exact ⟨fun q => h (Or.inl q), fun q => h (Or.inr q)⟩
def gd {α : Type} (b : Bool) (k : Option α) : Option α := if b = true then k else none
theorem gd_of {α : Type} {b : Bool} {k : Option α} {z : α} (h : gd b k = some z) : b = true ∧ k = some z := by
  unfold gd at h
  by_cases q : b = true
  · rw [if_pos q] at h; exact ⟨q, h⟩
  · rw [if_neg q] at h; cases h
def bnd {α β : Type} (x : Option (α × Sg)) (k : α → Sg → Option β) : Option β := match x with
  | none => none
  | some u => k u.1 u.2
theorem bnd_of {α β : Type} {x : Option (α × Sg)} {k : α → Sg → Option β} {z : β} (h : bnd x k = some z) : ∃ (r : α) (σ1 : Sg), x = some (r, σ1) ∧ k r σ1 = some z := by
  cases x with
  | none => cases h
  | some u => exact ⟨u.1, u.2, rfl, h⟩
def amlet {α β : Type} (v : α) (k : α → β) : β := k v
theorem ite_of {α : Type} {c : Prop} [Decidable c] {a b : α} {z : α} (h : (if c then a else b) = z) : (c → a = z) ∧ (¬ c → b = z) := ⟨fun q => by rw [if_pos q] at h; exact h, fun q => by rw [if_neg q] at h; exact h⟩
/-- a cell's kind: an object (class, fields, which of them lead where), an array of ints or booleans (type, length), a row of references -/
abbrev am_C : Type := (Nat × Nat × (Nat → Option Nat)) ⊕ ((Nat × Nat) ⊕ (Nat × Nat × (Nat → Nat)))
abbrev a_I (n : Nat) : am_C := .inr (.inl (0, n))
abbrev a_Z (n : Nat) : am_C := .inr (.inl (1, n))
abbrev am_O : Type := va_G × (Nat → ClassId) × (Nat → Nat) × Nat × (Nat → am_C)
abbrev am_tys (cT : Nat → ClassId) : List (ClassId × FieldType) := [(cT 0, .int), (cT 1, .boolean), (cT 2, .object RX6)]
def am_v (ad : Nat → Nat) (σ : Sg) (rf : Nat → Option Nat) (c k : Nat) : Value := match rf k with
  | none => .int (σ c k)
  | some c' => .ref (ad c')
def am_e (cT : Nat → ClassId) (ad : Nat → Nat) (σ : Sg) (c : Nat) (x : am_C) : va_E := match x with
  | .inl (ci, n, rf) => .inr (ci, (List.range n).map (am_v ad σ rf c))
  | .inr (.inl (ti, n)) => .inl (cT ti, n, .inl (σ c))
  | .inr (.inr (ti, n, g)) => .inl (cT ti, n, .inr (.inr (.inr (.inr (fun j => some (ad (g j)))))))
def am_ws (O : am_O) (σ : Sg) : va_W := (List.range O.2.2.2.1).map fun c => (O.2.2.1 c, am_e O.2.1 O.2.2.1 σ c (O.2.2.2.2 c))
theorem am_get (O : am_O) (σ : Sg) {c : Nat} (hc : c < O.2.2.2.1) : (am_ws O σ)[c]? = some (O.2.2.1 c, am_e O.2.1 O.2.2.1 σ c (O.2.2.2.2 c)) := by
  simp [am_ws, List.getElem?_map, List.getElem?_range hc]
theorem am_get_iff (O : am_O) (σ : Sg) {c : Nat} {q : Nat × va_E} (h : (am_ws O σ)[c]? = some q) : c < O.2.2.2.1 ∧ q = (O.2.2.1 c, am_e O.2.1 O.2.2.1 σ c (O.2.2.2.2 c)) := by
  have hl : c < O.2.2.2.1 := by
    have h1 := (List.getElem?_eq_some_iff.mp h).1
    simpa [am_ws] using h1
  rw [am_get O σ hl] at h
  exact ⟨hl, (Option.some.inj h).symm⟩
/-- the cells by their addresses alone -/
def am_A (O : am_O) (sz : Nat) : Nat → Prop := fun q => (∃ c, c < O.2.2.2.1 ∧ q = O.2.2.1 c) ∨ sz ≤ q
def am_K (O : am_O) (U : State) : Prop := va_K O.1 vwCl (am_tys O.2.1) U
def am_P (O : am_O) (σ : Sg) (H : Heap) : Prop := va_P O.1 vwCl (am_ws O σ) H
def am_Dj (O : am_O) : Prop := ∀ i j, i < O.2.2.2.1 → j < O.2.2.2.1 → O.2.2.1 i = O.2.2.1 j → i = j
theorem am_D {O : am_O} (h : am_Dj O) (σ : Sg) (sz : Nat) : va_D (am_A O sz) (am_ws O σ) := by
  refine ⟨fun i j p q hi hj e => ?_, fun k q hk => ?_⟩
  · obtain ⟨h1, rfl⟩ := am_get_iff O σ hi
    obtain ⟨h2, rfl⟩ := am_get_iff O σ hj
    exact h i j h1 h2 e
  · obtain ⟨h1, rfl⟩ := am_get_iff O σ hk
    exact Or.inl ⟨k, h1, rfl⟩
theorem am_Dj_of {O : am_O} {A : Nat → Prop} {σ : Sg} (h : va_D A (am_ws O σ)) : am_Dj O := fun i j hi hj e => h.1 i j _ _ (am_get O σ hi) (am_get O σ hj) e
/-- a put in an object is an update of what the cells hold -/
theorem am_putO (O : am_O) (σ : Sg) {c ci n k : Nat} {rf : Nat → Option Nat} (hL : O.2.2.2.2 c = .inl (ci, n, rf)) (hk : rf k = none) (hkn : k < n) (v : Int32) :
    (am_ws O σ).set c (O.2.2.1 c, .inr (ci, ((List.range n).map (am_v O.2.2.1 σ rf c)).set k (.int v))) = am_ws O (up2 σ c k v) := by
  apply List.ext_getElem?
  intro i
  rw [List.getElem?_set]
  by_cases hi : i < O.2.2.2.1
  · rw [am_get O (up2 σ c k v) hi]
    by_cases e : c = i
    · subst e
      rw [if_pos rfl, if_pos (by simpa [am_ws] using hi), hL]
      refine congrArg some (congrArg (Prod.mk _) ?_)
      show (Sum.inr (ci, _) : va_E) = Sum.inr (ci, _)
      refine congrArg (fun l => (Sum.inr (ci, l) : va_E)) ?_
      apply List.ext_getElem?
      intro j
      rw [List.getElem?_set]
      by_cases hj : j < n
      · simp only [List.getElem?_map, List.getElem?_range hj, Option.map_some]
        by_cases e2 : k = j
        · subst e2
          rw [if_pos rfl, if_pos (by simpa using hj)]
          simp [am_v, hk, up2, upd]
        · rw [if_neg e2]
          unfold am_v
          cases rf j with
          | some c' => rfl
          | none => simp [up2, upd, Ne.symm e2]
      · have h0 : ((List.range n).map (am_v O.2.2.1 (up2 σ c k v) rf c))[j]? = none := by simp; omega
        have h1 : ((List.range n).map (am_v O.2.2.1 σ rf c))[j]? = none := by simp; omega
        rw [h0]
        by_cases e2 : k = j
        · subst e2; exact absurd hkn hj
        · rw [if_neg e2, h1]
    · rw [if_neg e, am_get O σ hi]
      have e3 : (up2 σ c k v) i = σ i := by simp [up2, Ne.symm e]
      refine congrArg some (congrArg (Prod.mk _) ?_)
      unfold am_e
      cases hx : O.2.2.2.2 i with
      | inl x =>
        have e4 : ∀ rf, am_v O.2.2.1 σ rf i = am_v O.2.2.1 (up2 σ c k v) rf i := fun rf => by funext k; unfold am_v; rw [e3]
        simp only [e4]
      | inr x => cases x with
        | inl y => simp only [e3]
        | inr y => rfl
  · have h0 : (am_ws O (up2 σ c k v))[i]? = none := by simp [am_ws]; omega
    have h1 : (am_ws O σ)[i]? = none := by simp [am_ws]; omega
    rw [h0]
    by_cases e : c = i
    · rw [if_pos e, if_neg (by subst e; simpa [am_ws] using hi)]
    · rw [if_neg e, h1]
/-- a row's contents exchanged -/
theorem am_putF (O : am_O) (σ σ' : Sg) {c ti n : Nat} (hL : O.2.2.2.2 c = .inr (.inl (ti, n))) (ho : ∀ i, i ≠ c → σ' i = σ i) :
    (am_ws O σ).set c (O.2.2.1 c, .inl (O.2.1 ti, n, .inl (σ' c))) = am_ws O σ' := by
  apply List.ext_getElem?
  intro i
  rw [List.getElem?_set]
  by_cases hi : i < O.2.2.2.1
  · rw [am_get O σ' hi]
    by_cases e : c = i
    · subst e
      rw [if_pos rfl, if_pos (by simpa [am_ws] using hi), hL]
      rfl
    · rw [if_neg e, am_get O σ hi]
      have e3 : σ' i = σ i := ho i (Ne.symm e)
      refine congrArg some (congrArg (Prod.mk _) ?_)
      unfold am_e
      cases hx : O.2.2.2.2 i with
      | inl x =>
        have e4 : ∀ rf, am_v O.2.2.1 σ rf i = am_v O.2.2.1 σ' rf i := fun rf => by funext k; unfold am_v; rw [e3]
        simp only [e4]
      | inr x => cases x with
        | inl y => simp only [e3]
        | inr y => rfl
  · have h0 : (am_ws O σ')[i]? = none := by simp [am_ws]; omega
    have h1 : (am_ws O σ)[i]? = none := by simp [am_ws]; omega
    rw [h0]
    by_cases e : c = i
    · rw [if_pos e, if_neg (by subst e; simpa [am_ws] using hi)]
    · rw [if_neg e, h1]
theorem am_putA (O : am_O) (σ : Sg) {c ti n : Nat} (hL : O.2.2.2.2 c = .inr (.inl (ti, n))) (k : Nat) (v : Int32) :
    (am_ws O σ).set c (O.2.2.1 c, .inl (O.2.1 ti, n, .inl (upd (σ c) k v))) = am_ws O (up2 σ c k v) := by
  have h := am_putF O σ (up2 σ c k v) hL (fun i hi => by simp [up2, hi])
  have e : (up2 σ c k v) c = upd (σ c) k v := by simp [up2]
  rw [e] at h
  exact h
theorem am_cpA (O : am_O) (σ : Sg) {c1 ti n : Nat} (hL : O.2.2.2.2 c1 = .inr (.inl (ti, n))) (c0 s0 d0 w : Nat) :
    (am_ws O σ).set c1 (O.2.2.1 c1, .inl (O.2.1 ti, n, .inl (va_cpy (σ c0) (σ c1) s0 d0 w))) = am_ws O (cp2 σ c0 s0 c1 d0 w) := by
  have h := am_putF O σ (cp2 σ c0 s0 c1 d0 w) hL (fun i hi => by simp [cp2, hi])
  have e : (cp2 σ c0 s0 c1 d0 w) c1 = va_cpy (σ c0) (σ c1) s0 d0 w := by simp [cp2]
  rw [e] at h
  exact h
/-- the tables' words that a callee's own words can't hold -/
def ne_links : List (String × Nat × MethodName × String) := [(RX9, 37, yX1_init, RX9), (RX9, 47, yX7_init, RX9), (RX9, 54, yX0_init, RX9), (RX9, 64, yX5_init, RX9), (RX9, 90, yX6_init, RX9), (RX2, 28, yX9_isBelow, RX9), (RX4, 21, yX9_isBelow, RX9), (RX6, 22, yX9_isBelow, RX9)]
def ne_decl : List MethodName := [⟨RX3, "takesByte", "(III)Z"⟩]
def am_Ne (U : State) : Prop := (∀ q ∈ ne_links, va_Nw (.methodLinkNest q.1 q.2.1 q.2.2.1 q.2.2.2) U) ∧ ∀ x ∈ ne_decl, va_Nw (.declares x) U
theorem am_Ne.warm {s U : State} (hW : s.WarmedH U.vm) (h : am_Ne s) : am_Ne U := ⟨fun q hq => va_Nw.warmM hW (h.1 q hq), fun x hx => va_Nw.warmD hW (h.2 x hx)⟩
theorem am_Ne.same {u U : State} (e : u.vm = U.vm) (h : am_Ne u) : am_Ne U := ⟨fun q hq => va_Nw.same rfl e (h.1 q hq), fun x hx => va_Nw.same rfl e (h.2 x hx)⟩
/-- the machine's part of a walk -/
abbrev am_M := Program × Launch × Env × State × MethodId × Array Value × List Frame × Method × Code
/-- what holds of a walk throughout: machine, code, class, words, tables, addresses, answer's type -/
def am_X (M : am_M) (O : am_O) (cc : ByteArray) (own : String) (nL : Nat) (ret : Option FieldType) : Prop :=
  M.1.tables.exec = Jvm.exec ∧ M.2.2.2.2.2.2.2.2.code = cc ∧ M.2.2.2.2.2.2.2.2.maxLocals = nL ∧ M.2.2.2.1.vm.findClass own = some M.2.2.2.2.1.cls ∧ (∀ w ∈ bigw, w.before M.2.2.2.2.2.1 M.2.2.2.1 = true) ∧
  am_K O M.2.2.2.1 ∧ am_Dj O ∧ M.2.2.2.2.2.2.2.1.sig.returnType = ret ∧ M.2.2.2.2.2.2.2.1.locks = false ∧ am_Ne M.2.2.2.1
/-- from every heap that holds the cells, at this place, with these locals, the walk comes to its end -/
def am_At (M : am_M) (R : Room) (O : am_O) (Q : State → Prop) (nL : Nat) (pc : Nat) (lv : List (Nat × Value)) (st : List Value) (σ : Sg) : Prop :=
  ∀ (H : Heap) (locs : List Loc) (ls : Array Slot), am_P O σ H → va_S (am_A O M.2.2.2.1.heap.size) M.2.2.2.1.heap H locs → lv_has ls nL lv →
    W M.1 M.2.1 M.2.2.1 R M.2.2.2.1 M.2.2.2.2.1 M.2.2.2.2.2.1 M.2.2.2.2.2.2.1 M.2.2.2.2.2.2.2.1 M.2.2.2.2.2.2.2.2 H locs 0 0 Q (F0 M.2.2.2.2.1 pc ls st)
/-- the end of a method: this answer, these cells, nothing else touched -/
def am_Qc (O : am_O) (A : Nat → Prop) (σ' : Sg) (rv : Option Value) : Array Value → State → Outcome → State → Prop := fun _ st oc t =>
  (oc = .returned rv ∧ am_P O σ' t.heap) ∧ va_F A st t
abbrev am_Q (M : am_M) (O : am_O) (σ' : Sg) (rv : Option Value) : State → Prop := MQ M.2.2.2.2.2.2.1 (am_Qc O (am_A O M.2.2.2.1.heap.size) σ' rv) M.2.2.2.2.2.1 M.2.2.2.1 0 0 (am_A O M.2.2.2.1.heap.size)
def am_Pre (O : am_O) (σ : Sg) (sz : Nat) (U : State) : Prop := U.heap.size = sz ∧ am_P O σ U.heap ∧ am_K O U ∧ am_Dj O ∧ am_Ne U
/-- a method's contract: from these cells with these arguments it returns this answer and leaves these cells -/
def am_Met (l : Launch) (y : MethodName) (cc : ByteArray) (maxL : Nat) (ret : Option FieldType) (rm : Room) (NC : Nat) (LY : Nat → am_C) (av : (Nat → Nat) → List Value) (σ σ' : Sg) (rv : (Nat → Nat) → Option Value) : Prop :=
  ∀ (D : va_G) (cT : Nat → ClassId) (ad : Nat → Nat) (sz : Nat), Met l y (.code y cc maxL ret :: bigw) rm (va_Pc (av ad) (am_Pre (D, cT, ad, NC, LY) σ sz)) (am_Qc (D, cT, ad, NC, LY) (am_A (D, cT, ad, NC, LY) sz) σ' (rv ad)) 0 0 (am_A (D, cT, ad, NC, LY) sz)
end
section
/-! rows: an instruction each, on the judgement without the heap -/
section AM
variable {M : am_M} {R : Room} {O : am_O} {Q : State → Prop} {nL : Nat} {cc : ByteArray} {own : String} {ret : Option FieldType} {pc : Nat} {lv : List (Nat × Value)} {st : List Value} {σ : Sg} {β : Type} {z : β}
theorem r_iconst (X : am_X M O cc own nL ret) {n : Int} {v : Int32} (hdg : decode cc pc = .ok (.iconst n, 1)) (hv : Int32.ofInt n = v) (k : am_At M R O Q nL (pc + 1) lv (.int v :: st) σ) : am_At M R O Q nL pc lv (st) σ := fun H locs ls hP hS hl => lv_iconst X.1 X.2.1 hdg hv (k H locs ls hP hS hl)
theorem r_bipush (X : am_X M O cc own nL ret) {n : Int} {v : Int32} (hdg : decode cc pc = .ok (.bipush n, 2)) (hv : (Int8.ofInt n).toInt32 = v) (k : am_At M R O Q nL (pc + 2) lv (.int v :: st) σ) : am_At M R O Q nL pc lv (st) σ := fun H locs ls hP hS hl => lv_bipush X.1 X.2.1 hdg hv (k H locs ls hP hS hl)
theorem r_sipush (X : am_X M O cc own nL ret) {n : Int} {v : Int32} (hdg : decode cc pc = .ok (.sipush n, 3)) (hv : (Int16.ofInt n).toInt32 = v) (k : am_At M R O Q nL (pc + 3) lv (.int v :: st) σ) : am_At M R O Q nL pc lv (st) σ := fun H locs ls hP hS hl => lv_sipush X.1 X.2.1 hdg hv (k H locs ls hP hS hl)
theorem r_lconst (X : am_X M O cc own nL ret) {n : Fin 2} {v : Int64} (hdg : decode cc pc = .ok (.lconst n, 1)) (hv : Int64.ofNat (n : Nat) = v) (k : am_At M R O Q nL (pc + 1) lv (.long v :: st) σ) : am_At M R O Q nL pc lv (st) σ := fun H locs ls hP hS hl => lv_lconst X.1 X.2.1 hdg hv (k H locs ls hP hS hl)
theorem r_ldcw (X : am_X M O cc own nL ret) {i : Nat} {v : Int32} (hdg : decode cc pc = .ok (.ldc_w i, 3)) (hw : Cond.constant own i v ∈ bigw) (k : am_At M R O Q nL (pc + 3) lv (.int v :: st) σ) : am_At M R O Q nL pc lv (st) σ := fun H locs ls hP hS hl => lv_ldcw X.1 X.2.1 X.2.2.2.1 (X.2.2.2.2.1 _ hw) hdg (k H locs ls hP hS hl)
theorem r_ldc2 (X : am_X M O cc own nL ret) {i : Nat} {v : Int64} (hdg : decode cc pc = .ok (.ldc2_w i, 3)) (hw : Cond.constantLong own i v ∈ bigw) (k : am_At M R O Q nL (pc + 3) lv (.long v :: st) σ) : am_At M R O Q nL pc lv (st) σ := fun H locs ls hP hS hl => lv_ldc2 X.1 X.2.1 X.2.2.2.1 (X.2.2.2.2.1 _ hw) hdg (k H locs ls hP hS hl)
theorem r_iload_n (X : am_X M O cc own nL ret) {k : Fin 4} {i : Nat} {x : Int32} (hdg : decode cc pc = .ok (.iload_n k, 1)) (hi : (k : Nat) = i) (j : Nat) (hj : lv[j]? = some (i, .int x)) (kk : am_At M R O Q nL (pc + 1) lv (.int x :: st) σ) : am_At M R O Q nL pc lv (st) σ := fun H locs ls hP hS hl => lv_iload_n X.1 X.2.1 hdg hi (lv_at hl j hj) (kk H locs ls hP hS hl)
theorem r_iload (X : am_X M O cc own nL ret) {i : Nat} {x : Int32} (hdg : decode cc pc = .ok (.iload i, 2)) (j : Nat) (hj : lv[j]? = some (i, .int x)) (k : am_At M R O Q nL (pc + 2) lv (.int x :: st) σ) : am_At M R O Q nL pc lv (st) σ := fun H locs ls hP hS hl => lv_iload X.1 X.2.1 hdg (lv_at hl j hj) (k H locs ls hP hS hl)
theorem r_istore_n (X : am_X M O cc own nL ret) {k : Fin 4} {i : Nat} {x : Int32} (lv' : List (Nat × Value)) (hdg : decode cc pc = .ok (.istore_n k, 1)) (hi : (k : Nat) = i) (hn : i < nL) (hf : (i, Value.int x) :: lv.filter (fun q => !(q.1 == i) && !(q.1 + 1 == i && q.2.category == 2)) = lv') (kk : am_At M R O Q nL (pc + 1) lv' (st) σ) : am_At M R O Q nL pc lv (.int x :: st) σ := fun H locs ls hP hS hl => lv_istore_n X.1 X.2.1 hdg hi hl hn hf (fun ls hl => kk H locs ls hP hS hl)
theorem r_istore (X : am_X M O cc own nL ret) {i : Nat} {x : Int32} (lv' : List (Nat × Value)) (hdg : decode cc pc = .ok (.istore i, 2)) (hn : i < nL) (hf : (i, Value.int x) :: lv.filter (fun q => !(q.1 == i) && !(q.1 + 1 == i && q.2.category == 2)) = lv') (k : am_At M R O Q nL (pc + 2) lv' (st) σ) : am_At M R O Q nL pc lv (.int x :: st) σ := fun H locs ls hP hS hl => lv_istore X.1 X.2.1 hdg hl hn hf (fun ls hl => k H locs ls hP hS hl)
theorem r_lload_n (X : am_X M O cc own nL ret) {k : Fin 4} {i : Nat} {x : Int64} (hdg : decode cc pc = .ok (.lload_n k, 1)) (hi : (k : Nat) = i) (j : Nat) (hj : lv[j]? = some (i, .long x)) (kk : am_At M R O Q nL (pc + 1) lv (.long x :: st) σ) : am_At M R O Q nL pc lv (st) σ := fun H locs ls hP hS hl => lv_lload_n X.1 X.2.1 hdg hi (lv_at hl j hj) (kk H locs ls hP hS hl)
theorem r_lload (X : am_X M O cc own nL ret) {i : Nat} {x : Int64} (hdg : decode cc pc = .ok (.lload i, 2)) (j : Nat) (hj : lv[j]? = some (i, .long x)) (k : am_At M R O Q nL (pc + 2) lv (.long x :: st) σ) : am_At M R O Q nL pc lv (st) σ := fun H locs ls hP hS hl => lv_lload X.1 X.2.1 hdg (lv_at hl j hj) (k H locs ls hP hS hl)
theorem r_lstore_n (X : am_X M O cc own nL ret) {k : Fin 4} {i : Nat} {x : Int64} (lv' : List (Nat × Value)) (hdg : decode cc pc = .ok (.lstore_n k, 1)) (hi : (k : Nat) = i) (hn : i + 1 < nL) (hf : (i, Value.long x) :: lv.filter (fun q => !(q.1 == i) && (!(q.1 == i + 1) && !(q.1 + 1 == i && q.2.category == 2))) = lv') (kk : am_At M R O Q nL (pc + 1) lv' (st) σ) : am_At M R O Q nL pc lv (.long x :: st) σ := fun H locs ls hP hS hl => lv_lstore_n X.1 X.2.1 hdg hi hl hn hf (fun ls hl => kk H locs ls hP hS hl)
theorem r_lstore (X : am_X M O cc own nL ret) {i : Nat} {x : Int64} (lv' : List (Nat × Value)) (hdg : decode cc pc = .ok (.lstore i, 2)) (hn : i + 1 < nL) (hf : (i, Value.long x) :: lv.filter (fun q => !(q.1 == i) && (!(q.1 == i + 1) && !(q.1 + 1 == i && q.2.category == 2))) = lv') (k : am_At M R O Q nL (pc + 2) lv' (st) σ) : am_At M R O Q nL pc lv (.long x :: st) σ := fun H locs ls hP hS hl => lv_lstore X.1 X.2.1 hdg hl hn hf (fun ls hl => k H locs ls hP hS hl)
theorem r_aload_n (X : am_X M O cc own nL ret) {k : Fin 4} {i : Nat} {x : Nat} (hdg : decode cc pc = .ok (.aload_n k, 1)) (hi : (k : Nat) = i) (j : Nat) (hj : lv[j]? = some (i, .ref x)) (kk : am_At M R O Q nL (pc + 1) lv (.ref x :: st) σ) : am_At M R O Q nL pc lv (st) σ := fun H locs ls hP hS hl => lv_aload_n X.1 X.2.1 hdg hi (lv_at hl j hj) (kk H locs ls hP hS hl)
theorem r_aload (X : am_X M O cc own nL ret) {i : Nat} {x : Nat} (hdg : decode cc pc = .ok (.aload i, 2)) (j : Nat) (hj : lv[j]? = some (i, .ref x)) (k : am_At M R O Q nL (pc + 2) lv (.ref x :: st) σ) : am_At M R O Q nL pc lv (st) σ := fun H locs ls hP hS hl => lv_aload X.1 X.2.1 hdg (lv_at hl j hj) (k H locs ls hP hS hl)
theorem r_astore_n (X : am_X M O cc own nL ret) {k : Fin 4} {i : Nat} {x : Nat} (lv' : List (Nat × Value)) (hdg : decode cc pc = .ok (.astore_n k, 1)) (hi : (k : Nat) = i) (hn : i < nL) (hf : (i, Value.ref x) :: lv.filter (fun q => !(q.1 == i) && !(q.1 + 1 == i && q.2.category == 2)) = lv') (kk : am_At M R O Q nL (pc + 1) lv' (st) σ) : am_At M R O Q nL pc lv (.ref x :: st) σ := fun H locs ls hP hS hl => lv_astore_n X.1 X.2.1 hdg hi hl hn hf (fun ls hl => kk H locs ls hP hS hl)
theorem r_astore (X : am_X M O cc own nL ret) {i : Nat} {x : Nat} (lv' : List (Nat × Value)) (hdg : decode cc pc = .ok (.astore i, 2)) (hn : i < nL) (hf : (i, Value.ref x) :: lv.filter (fun q => !(q.1 == i) && !(q.1 + 1 == i && q.2.category == 2)) = lv') (k : am_At M R O Q nL (pc + 2) lv' (st) σ) : am_At M R O Q nL pc lv (.ref x :: st) σ := fun H locs ls hP hS hl => lv_astore X.1 X.2.1 hdg hl hn hf (fun ls hl => k H locs ls hP hS hl)
theorem r_iinc (X : am_X M O cc own nL ret) {i : Nat} {n : Int} {x v : Int32} (lv' : List (Nat × Value)) (hdg : decode cc pc = .ok (.iinc i n, 3)) (j : Nat) (hj : lv[j]? = some (i, .int x)) (hv : x + Int32.ofInt n = v) (hn : i < nL) (hf : (i, Value.int v) :: lv.filter (fun q => !(q.1 == i) && !(q.1 + 1 == i && q.2.category == 2)) = lv') (k : am_At M R O Q nL (pc + 3) lv' (st) σ) : am_At M R O Q nL pc lv (st) σ := fun H locs ls hP hS hl => lv_iinc X.1 X.2.1 hdg hl hj hv hn hf (fun ls hl => k H locs ls hP hS hl)
theorem r_iadd (X : am_X M O cc own nL ret) {x y : Int32} (hdg : decode cc pc = .ok (.iadd, 1))  (k : am_At M R O Q nL (pc + 1) lv (.int (x + y) :: st) σ) : am_At M R O Q nL pc lv (.int y :: .int x :: st) σ := fun H locs ls hP hS hl => lv_iadd X.1 X.2.1 hdg (k H locs ls hP hS hl)
theorem r_isub (X : am_X M O cc own nL ret) {x y : Int32} (hdg : decode cc pc = .ok (.isub, 1))  (k : am_At M R O Q nL (pc + 1) lv (.int (x - y) :: st) σ) : am_At M R O Q nL pc lv (.int y :: .int x :: st) σ := fun H locs ls hP hS hl => lv_isub X.1 X.2.1 hdg (k H locs ls hP hS hl)
theorem r_imul (X : am_X M O cc own nL ret) {x y : Int32} (hdg : decode cc pc = .ok (.imul, 1))  (k : am_At M R O Q nL (pc + 1) lv (.int (x * y) :: st) σ) : am_At M R O Q nL pc lv (.int y :: .int x :: st) σ := fun H locs ls hP hS hl => lv_imul X.1 X.2.1 hdg (k H locs ls hP hS hl)
theorem r_iand (X : am_X M O cc own nL ret) {x y : Int32} (hdg : decode cc pc = .ok (.iand, 1))  (k : am_At M R O Q nL (pc + 1) lv (.int (x &&& y) :: st) σ) : am_At M R O Q nL pc lv (.int y :: .int x :: st) σ := fun H locs ls hP hS hl => lv_iand X.1 X.2.1 hdg (k H locs ls hP hS hl)
theorem r_ior (X : am_X M O cc own nL ret) {x y : Int32} (hdg : decode cc pc = .ok (.ior, 1))  (k : am_At M R O Q nL (pc + 1) lv (.int (x ||| y) :: st) σ) : am_At M R O Q nL pc lv (.int y :: .int x :: st) σ := fun H locs ls hP hS hl => lv_ior X.1 X.2.1 hdg (k H locs ls hP hS hl)
theorem r_ixor (X : am_X M O cc own nL ret) {x y : Int32} (hdg : decode cc pc = .ok (.ixor, 1))  (k : am_At M R O Q nL (pc + 1) lv (.int (x ^^^ y) :: st) σ) : am_At M R O Q nL pc lv (.int y :: .int x :: st) σ := fun H locs ls hP hS hl => lv_ixor X.1 X.2.1 hdg (k H locs ls hP hS hl)
theorem r_ishl (X : am_X M O cc own nL ret) {x y : Int32} (hdg : decode cc pc = .ok (.ishl, 1))  (k : am_At M R O Q nL (pc + 1) lv (.int (x <<< (y &&& 31)) :: st) σ) : am_At M R O Q nL pc lv (.int y :: .int x :: st) σ := fun H locs ls hP hS hl => lv_ishl X.1 X.2.1 hdg (k H locs ls hP hS hl)
theorem r_ishr (X : am_X M O cc own nL ret) {x y : Int32} (hdg : decode cc pc = .ok (.ishr, 1))  (k : am_At M R O Q nL (pc + 1) lv (.int (x >>> (y &&& 31)) :: st) σ) : am_At M R O Q nL pc lv (.int y :: .int x :: st) σ := fun H locs ls hP hS hl => lv_ishr X.1 X.2.1 hdg (k H locs ls hP hS hl)
theorem r_ladd (X : am_X M O cc own nL ret) {x y : Int64} (hdg : decode cc pc = .ok (.ladd, 1))  (k : am_At M R O Q nL (pc + 1) lv (.long (x + y) :: st) σ) : am_At M R O Q nL pc lv (.long y :: .long x :: st) σ := fun H locs ls hP hS hl => lv_ladd X.1 X.2.1 hdg (k H locs ls hP hS hl)
theorem r_lsub (X : am_X M O cc own nL ret) {x y : Int64} (hdg : decode cc pc = .ok (.lsub, 1))  (k : am_At M R O Q nL (pc + 1) lv (.long (x - y) :: st) σ) : am_At M R O Q nL pc lv (.long y :: .long x :: st) σ := fun H locs ls hP hS hl => lv_lsub X.1 X.2.1 hdg (k H locs ls hP hS hl)
theorem r_lmul (X : am_X M O cc own nL ret) {x y : Int64} (hdg : decode cc pc = .ok (.lmul, 1))  (k : am_At M R O Q nL (pc + 1) lv (.long (x * y) :: st) σ) : am_At M R O Q nL pc lv (.long y :: .long x :: st) σ := fun H locs ls hP hS hl => lv_lmul X.1 X.2.1 hdg (k H locs ls hP hS hl)
def am_ushr (x y : Int32) : Int32 := (x.toUInt32 >>> (y.toUInt32 &&& Int32.toUInt32 31)).toInt32
theorem r_iushr (X : am_X M O cc own nL ret) {x y : Int32} (hdg : decode cc pc = .ok (.iushr, 1))  (k : am_At M R O Q nL (pc + 1) lv (.int (am_ushr x y) :: st) σ) : am_At M R O Q nL pc lv (.int y :: .int x :: st) σ := fun H locs ls hP hS hl => lv_iushr X.1 X.2.1 hdg rfl (k H locs ls hP hS hl)
theorem r_lshl (X : am_X M O cc own nL ret) {x : Int64} {y : Int32} (hdg : decode cc pc = .ok (.lshl, 1))  (k : am_At M R O Q nL (pc + 1) lv (.long (x <<< (y.toInt64 &&& 63)) :: st) σ) : am_At M R O Q nL pc lv (.int y :: .long x :: st) σ := fun H locs ls hP hS hl => lv_lshl X.1 X.2.1 hdg rfl (k H locs ls hP hS hl)
theorem r_i2l (X : am_X M O cc own nL ret) {x : Int32} (hdg : decode cc pc = .ok (.i2l, 1))  (k : am_At M R O Q nL (pc + 1) lv (.long x.toInt64 :: st) σ) : am_At M R O Q nL pc lv (.int x :: st) σ := fun H locs ls hP hS hl => lv_i2l X.1 X.2.1 hdg rfl (k H locs ls hP hS hl)
theorem r_i2b (X : am_X M O cc own nL ret) {x : Int32} (hdg : decode cc pc = .ok (.i2b, 1))  (k : am_At M R O Q nL (pc + 1) lv (.int x.toInt8.toInt32 :: st) σ) : am_At M R O Q nL pc lv (.int x :: st) σ := fun H locs ls hP hS hl => lv_i2b X.1 X.2.1 hdg rfl (k H locs ls hP hS hl)
theorem r_i2s (X : am_X M O cc own nL ret) {x : Int32} (hdg : decode cc pc = .ok (.i2s, 1))  (k : am_At M R O Q nL (pc + 1) lv (.int x.toInt16.toInt32 :: st) σ) : am_At M R O Q nL pc lv (.int x :: st) σ := fun H locs ls hP hS hl => lv_i2s X.1 X.2.1 hdg rfl (k H locs ls hP hS hl)
theorem r_lcmp (X : am_X M O cc own nL ret) {x y : Int64} (hdg : decode cc pc = .ok (.lcmp, 1))  (k : am_At M R O Q nL (pc + 1) lv (.int (lg_cmp x y) :: st) σ) : am_At M R O Q nL pc lv (.long y :: .long x :: st) σ := fun H locs ls hP hS hl => W.lcmp X.1 X.2.1 hdg (k H locs ls hP hS hl)
theorem r_dup (X : am_X M O cc own nL ret) {va : Value} (hdg : decode cc pc = .ok (.dup, 1)) (hva : va.category = 1) (k : am_At M R O Q nL (pc + 1) lv (va :: va :: st) σ) : am_At M R O Q nL pc lv (va :: st) σ := fun H locs ls hP hS hl => lv_dup X.1 X.2.1 hdg hva (k H locs ls hP hS hl)
theorem r_dup2 (X : am_X M O cc own nL ret) {va vb : Value} (hdg : decode cc pc = .ok (.dup2, 1)) (hva : va.category = 1) (hvb : vb.category = 1) (k : am_At M R O Q nL (pc + 1) lv (va :: vb :: va :: vb :: st) σ) : am_At M R O Q nL pc lv (va :: vb :: st) σ := fun H locs ls hP hS hl => lv_dup2_11 X.1 X.2.1 hdg hva hvb (k H locs ls hP hS hl)
theorem r_idiv (X : am_X M O cc own nL ret) {x y : Int32} (hdg : decode cc pc = .ok (.idiv, 1)) {A : Option β} (h : gd (decide (y ≠ 0)) A = some z) (k : A = some z → am_At M R O Q nL (pc + 1) lv (.int (x / y) :: st) σ) : am_At M R O Q nL pc lv (.int y :: .int x :: st) σ := fun H locs ls hP hS hl => lv_idiv X.1 X.2.1 hdg (of_decide_eq_true (gd_of h).1) (k (gd_of h).2 H locs ls hP hS hl)
theorem r_idiv0 (X : am_X M O cc own nL ret) {x y : Int32} (hdg : decode cc pc = .ok (.idiv, 1)) (hy : ¬ y = 0) (k : am_At M R O Q nL (pc + 1) lv (.int (x / y) :: st) σ) : am_At M R O Q nL pc lv (.int y :: .int x :: st) σ := fun H locs ls hP hS hl => lv_idiv X.1 X.2.1 hdg hy (k H locs ls hP hS hl)
theorem r_irem (X : am_X M O cc own nL ret) {x y : Int32} (hdg : decode cc pc = .ok (.irem, 1)) {A : Option β} (h : gd (decide (y ≠ 0)) A = some z) (k : A = some z → am_At M R O Q nL (pc + 1) lv (.int (x - x / y * y) :: st) σ) : am_At M R O Q nL pc lv (.int y :: .int x :: st) σ := fun H locs ls hP hS hl => lv_irem X.1 X.2.1 hdg (of_decide_eq_true (gd_of h).1) (k (gd_of h).2 H locs ls hP hS hl)
theorem r_irem0 (X : am_X M O cc own nL ret) {x y : Int32} (hdg : decode cc pc = .ok (.irem, 1)) (hy : ¬ y = 0) (k : am_At M R O Q nL (pc + 1) lv (.int (x - x / y * y) :: st) σ) : am_At M R O Q nL pc lv (.int y :: .int x :: st) σ := fun H locs ls hP hS hl => lv_irem X.1 X.2.1 hdg hy (k H locs ls hP hS hl)
theorem r_ldiv (X : am_X M O cc own nL ret) {x y : Int64} (hdg : decode cc pc = .ok (.ldiv, 1)) {A : Option β} (h : gd (decide (y ≠ 0)) A = some z) (k : A = some z → am_At M R O Q nL (pc + 1) lv (.long (x / y) :: st) σ) : am_At M R O Q nL pc lv (.long y :: .long x :: st) σ := fun H locs ls hP hS hl => lv_ldiv X.1 X.2.1 hdg (of_decide_eq_true (gd_of h).1) (k (gd_of h).2 H locs ls hP hS hl)
theorem r_ldiv0 (X : am_X M O cc own nL ret) {x y : Int64} (hdg : decode cc pc = .ok (.ldiv, 1)) (hy : ¬ y = 0) (k : am_At M R O Q nL (pc + 1) lv (.long (x / y) :: st) σ) : am_At M R O Q nL pc lv (.long y :: .long x :: st) σ := fun H locs ls hP hS hl => lv_ldiv X.1 X.2.1 hdg hy (k H locs ls hP hS hl)
theorem r_lrem (X : am_X M O cc own nL ret) {x y : Int64} (hdg : decode cc pc = .ok (.lrem, 1)) {A : Option β} (h : gd (decide (y ≠ 0)) A = some z) (k : A = some z → am_At M R O Q nL (pc + 1) lv (.long (x - x / y * y) :: st) σ) : am_At M R O Q nL pc lv (.long y :: .long x :: st) σ := fun H locs ls hP hS hl => lv_lrem X.1 X.2.1 hdg (of_decide_eq_true (gd_of h).1) (k (gd_of h).2 H locs ls hP hS hl)
theorem r_lrem0 (X : am_X M O cc own nL ret) {x y : Int64} (hdg : decode cc pc = .ok (.lrem, 1)) (hy : ¬ y = 0) (k : am_At M R O Q nL (pc + 1) lv (.long (x - x / y * y) :: st) σ) : am_At M R O Q nL pc lv (.long y :: .long x :: st) σ := fun H locs ls hP hS hl => lv_lrem X.1 X.2.1 hdg hy (k H locs ls hP hS hl)
theorem r_if_eq (X : am_X M O cc own nL ret) {x : Int32} {off : Int} (tgt : Nat) (hdg : decode cc pc = .ok (.ifCond .eq off, 3)) (ht : (pc : Int) + off = (tgt : Int)) {A B : Option β} (h : (if x = 0 then A else B) = some z) (kt : A = some z → am_At M R O Q nL tgt lv st σ) (kf : B = some z → am_At M R O Q nL (pc + 3) lv st σ) : am_At M R O Q nL pc lv (.int x :: st) σ := fun H locs ls hP hS hl => lv_if_eq X.1 X.2.1 hdg ht (fun q => kt ((ite_of h).1 q) H locs ls hP hS hl) (fun q => kf ((ite_of h).2 q) H locs ls hP hS hl)
theorem r_icmp_eq (X : am_X M O cc own nL ret) {x y : Int32} {off : Int} (tgt : Nat) (hdg : decode cc pc = .ok (.if_icmp .eq off, 3)) (ht : (pc : Int) + off = (tgt : Int)) {A B : Option β} (h : (if x = y then A else B) = some z) (kt : A = some z → am_At M R O Q nL tgt lv st σ) (kf : B = some z → am_At M R O Q nL (pc + 3) lv st σ) : am_At M R O Q nL pc lv (.int y :: .int x :: st) σ := fun H locs ls hP hS hl => lv_icmp_eq X.1 X.2.1 hdg ht (fun q => kt ((ite_of h).1 q) H locs ls hP hS hl) (fun q => kf ((ite_of h).2 q) H locs ls hP hS hl)
theorem r_if_ne (X : am_X M O cc own nL ret) {x : Int32} {off : Int} (tgt : Nat) (hdg : decode cc pc = .ok (.ifCond .ne off, 3)) (ht : (pc : Int) + off = (tgt : Int)) {A B : Option β} (h : (if x = 0 then A else B) = some z) (kf : A = some z → am_At M R O Q nL (pc + 3) lv st σ) (kt : B = some z → am_At M R O Q nL tgt lv st σ) : am_At M R O Q nL pc lv (.int x :: st) σ := fun H locs ls hP hS hl => lv_if_ne X.1 X.2.1 hdg ht (fun q => kt ((ite_of h).2 q) H locs ls hP hS hl) (fun q => kf ((ite_of h).1 q) H locs ls hP hS hl)
theorem r_icmp_ne (X : am_X M O cc own nL ret) {x y : Int32} {off : Int} (tgt : Nat) (hdg : decode cc pc = .ok (.if_icmp .ne off, 3)) (ht : (pc : Int) + off = (tgt : Int)) {A B : Option β} (h : (if x = y then A else B) = some z) (kf : A = some z → am_At M R O Q nL (pc + 3) lv st σ) (kt : B = some z → am_At M R O Q nL tgt lv st σ) : am_At M R O Q nL pc lv (.int y :: .int x :: st) σ := fun H locs ls hP hS hl => lv_icmp_ne X.1 X.2.1 hdg ht (fun q => kt ((ite_of h).2 q) H locs ls hP hS hl) (fun q => kf ((ite_of h).1 q) H locs ls hP hS hl)
theorem r_if_lt (X : am_X M O cc own nL ret) {x : Int32} {off : Int} (tgt : Nat) (hdg : decode cc pc = .ok (.ifCond .lt off, 3)) (ht : (pc : Int) + off = (tgt : Int)) {A B : Option β} (h : (if x < 0 then A else B) = some z) (kt : A = some z → am_At M R O Q nL tgt lv st σ) (kf : B = some z → am_At M R O Q nL (pc + 3) lv st σ) : am_At M R O Q nL pc lv (.int x :: st) σ := fun H locs ls hP hS hl => lv_if_lt X.1 X.2.1 hdg ht (fun q => kt ((ite_of h).1 q) H locs ls hP hS hl) (fun q => kf ((ite_of h).2 q) H locs ls hP hS hl)
theorem r_icmp_lt (X : am_X M O cc own nL ret) {x y : Int32} {off : Int} (tgt : Nat) (hdg : decode cc pc = .ok (.if_icmp .lt off, 3)) (ht : (pc : Int) + off = (tgt : Int)) {A B : Option β} (h : (if x < y then A else B) = some z) (kt : A = some z → am_At M R O Q nL tgt lv st σ) (kf : B = some z → am_At M R O Q nL (pc + 3) lv st σ) : am_At M R O Q nL pc lv (.int y :: .int x :: st) σ := fun H locs ls hP hS hl => lv_icmp_lt X.1 X.2.1 hdg ht (fun q => kt ((ite_of h).1 q) H locs ls hP hS hl) (fun q => kf ((ite_of h).2 q) H locs ls hP hS hl)
theorem r_if_ge (X : am_X M O cc own nL ret) {x : Int32} {off : Int} (tgt : Nat) (hdg : decode cc pc = .ok (.ifCond .ge off, 3)) (ht : (pc : Int) + off = (tgt : Int)) {A B : Option β} (h : (if 0 ≤ x then A else B) = some z) (kt : A = some z → am_At M R O Q nL tgt lv st σ) (kf : B = some z → am_At M R O Q nL (pc + 3) lv st σ) : am_At M R O Q nL pc lv (.int x :: st) σ := fun H locs ls hP hS hl => lv_if_ge X.1 X.2.1 hdg ht (fun q => kt ((ite_of h).1 q) H locs ls hP hS hl) (fun q => kf ((ite_of h).2 q) H locs ls hP hS hl)
theorem r_icmp_ge (X : am_X M O cc own nL ret) {x y : Int32} {off : Int} (tgt : Nat) (hdg : decode cc pc = .ok (.if_icmp .ge off, 3)) (ht : (pc : Int) + off = (tgt : Int)) {A B : Option β} (h : (if y ≤ x then A else B) = some z) (kt : A = some z → am_At M R O Q nL tgt lv st σ) (kf : B = some z → am_At M R O Q nL (pc + 3) lv st σ) : am_At M R O Q nL pc lv (.int y :: .int x :: st) σ := fun H locs ls hP hS hl => lv_icmp_ge X.1 X.2.1 hdg ht (fun q => kt ((ite_of h).1 q) H locs ls hP hS hl) (fun q => kf ((ite_of h).2 q) H locs ls hP hS hl)
theorem r_if_gt (X : am_X M O cc own nL ret) {x : Int32} {off : Int} (tgt : Nat) (hdg : decode cc pc = .ok (.ifCond .gt off, 3)) (ht : (pc : Int) + off = (tgt : Int)) {A B : Option β} (h : (if 0 < x then A else B) = some z) (kt : A = some z → am_At M R O Q nL tgt lv st σ) (kf : B = some z → am_At M R O Q nL (pc + 3) lv st σ) : am_At M R O Q nL pc lv (.int x :: st) σ := fun H locs ls hP hS hl => lv_if_gt X.1 X.2.1 hdg ht (fun q => kt ((ite_of h).1 q) H locs ls hP hS hl) (fun q => kf ((ite_of h).2 q) H locs ls hP hS hl)
theorem r_icmp_gt (X : am_X M O cc own nL ret) {x y : Int32} {off : Int} (tgt : Nat) (hdg : decode cc pc = .ok (.if_icmp .gt off, 3)) (ht : (pc : Int) + off = (tgt : Int)) {A B : Option β} (h : (if y < x then A else B) = some z) (kt : A = some z → am_At M R O Q nL tgt lv st σ) (kf : B = some z → am_At M R O Q nL (pc + 3) lv st σ) : am_At M R O Q nL pc lv (.int y :: .int x :: st) σ := fun H locs ls hP hS hl => lv_icmp_gt X.1 X.2.1 hdg ht (fun q => kt ((ite_of h).1 q) H locs ls hP hS hl) (fun q => kf ((ite_of h).2 q) H locs ls hP hS hl)
theorem r_if_le (X : am_X M O cc own nL ret) {x : Int32} {off : Int} (tgt : Nat) (hdg : decode cc pc = .ok (.ifCond .le off, 3)) (ht : (pc : Int) + off = (tgt : Int)) {A B : Option β} (h : (if x ≤ 0 then A else B) = some z) (kt : A = some z → am_At M R O Q nL tgt lv st σ) (kf : B = some z → am_At M R O Q nL (pc + 3) lv st σ) : am_At M R O Q nL pc lv (.int x :: st) σ := fun H locs ls hP hS hl => lv_if_le X.1 X.2.1 hdg ht (fun q => kt ((ite_of h).1 q) H locs ls hP hS hl) (fun q => kf ((ite_of h).2 q) H locs ls hP hS hl)
theorem r_icmp_le (X : am_X M O cc own nL ret) {x y : Int32} {off : Int} (tgt : Nat) (hdg : decode cc pc = .ok (.if_icmp .le off, 3)) (ht : (pc : Int) + off = (tgt : Int)) {A B : Option β} (h : (if x ≤ y then A else B) = some z) (kt : A = some z → am_At M R O Q nL tgt lv st σ) (kf : B = some z → am_At M R O Q nL (pc + 3) lv st σ) : am_At M R O Q nL pc lv (.int y :: .int x :: st) σ := fun H locs ls hP hS hl => lv_icmp_le X.1 X.2.1 hdg ht (fun q => kt ((ite_of h).1 q) H locs ls hP hS hl) (fun q => kf ((ite_of h).2 q) H locs ls hP hS hl)
theorem r_goto (X : am_X M O cc own nL ret) {off : Int} (tgt : Nat) (hdg : decode cc pc = .ok (.goto off, 3)) (ht : (pc : Int) + off = (tgt : Int)) (k : am_At M R O Q nL tgt lv st σ) : am_At M R O Q nL pc lv st σ := fun H locs ls hP hS hl => lv_goto X.1 X.2.1 hdg ht (k H locs ls hP hS hl)
theorem r_tabIn (X : am_X M O cc own nL ret) {dflt lo hi : Int} {offs : Array Int} {len : Nat} {x kx : Int32} {off : Int} (tgt : Nat) (hdg : decode cc pc = .ok (.tableswitch dflt lo hi offs, len)) (hx : x = kx) (h1 : ¬ kx.toInt < lo) (h2 : ¬ hi < kx.toInt) (ho : offs[(kx.toInt - lo).toNat]? = some off) (ht : (pc : Int) + off = (tgt : Int)) (k : am_At M R O Q nL tgt lv st σ) : am_At M R O Q nL pc lv (.int x :: st) σ := fun H locs ls hP hS hl => lv_tableIn X.1 X.2.1 hdg (by rw [hx]; exact h1) (by rw [hx]; exact h2) (by rw [hx]; exact ho) ht (k H locs ls hP hS hl)
theorem r_tabOut (X : am_X M O cc own nL ret) {dflt lo hi : Int} {offs : Array Int} {len : Nat} {x : Int32} (tgt : Nat) (hdg : decode cc pc = .ok (.tableswitch dflt lo hi offs, len)) (hx : x.toInt < lo ∨ hi < x.toInt) (ht : (pc : Int) + dflt = (tgt : Int)) (k : am_At M R O Q nL tgt lv st σ) : am_At M R O Q nL pc lv (.int x :: st) σ := fun H locs ls hP hS hl => lv_tableOut X.1 X.2.1 hdg hx ht (k H locs ls hP hS hl)
theorem r_lookup (X : am_X M O cc own nL ret) {dflt : Int} {ps : Array (Int × Int)} {len : Nat} {x : Int32} {off : Int} (tgt : Nat) (hdg : decode cc pc = .ok (.lookupswitch dflt ps, len)) (hp : (ps.toList.zip (ps.toList.drop 1)).all (fun (a, next) => a.1 < next.1) = true) (ho : Op.lookupswitch.offset ps.toList dflt x.toInt = off) (ht : (pc : Int) + off = (tgt : Int)) (k : am_At M R O Q nL tgt lv st σ) : am_At M R O Q nL pc lv (.int x :: st) σ := fun H locs ls hP hS hl => lv_lookup X.1 X.2.1 hdg hp ho ht (k H locs ls hP hS hl)
theorem r_leti {v : Int32} {A : Int32 → Option β} (h : amlet v A = some z) (k : ∀ x1 : Int32, A x1 = some z → am_At M R O Q nL pc lv (.int x1 :: st) σ) : am_At M R O Q nL pc lv (.int v :: st) σ := k v h
theorem r_letl {v : Int64} {A : Int64 → Option β} (h : amlet v A = some z) (k : ∀ x1 : Int64, A x1 = some z → am_At M R O Q nL pc lv (.long x1 :: st) σ) : am_At M R O Q nL pc lv (.long v :: st) σ := k v h
theorem r_letv {v : Int32} {i : Nat} {A : Int32 → Option β} (h : amlet v A = some z) (k : ∀ x1 : Int32, A x1 = some z → am_At M R O Q nL pc ((i, .int x1) :: lv) st σ) : am_At M R O Q nL pc ((i, .int v) :: lv) st σ := k v h
theorem r_sub {lv' : List (Nat × Value)} (ks : List Nat) (hk : lv_pick lv ks = lv') (k : am_At M R O Q nL pc lv' st σ) : am_At M R O Q nL pc lv st σ := fun H locs ls hP hS hl => k H locs ls hP hS (lv_sub hl ks hk)
theorem r_pc {pc2 : Nat} (e : pc = pc2) (k : am_At M R O Q nL pc2 lv st σ) : am_At M R O Q nL pc lv st σ := e ▸ k
/-- a field's words: read through the entry idx of own, place k of class ci -/
def am_Fg (own : String) (idx ci k N : Nat) : Prop := ∃ (C : String) (T : u_T) (ref : String), vwCl[ci]? = some (C, T, N) ∧ (∀ w ∈ u_ws C T N, w ∈ bigw) ∧ k < N ∧ Cond.fieldLink own idx ref (T k).2.1 (T k).2.2.1 ∈ bigw ∧ ((T k).1 = ref ∨ Cond.sameField ref (T k).1 (T k).2.1 (T k).2.2.1 ∈ bigw)
theorem am_same {args : Array Value} {s : State} {ref o n d : String} (hts : ∀ w ∈ bigw, w.before args s = true) (h : o = ref ∨ Cond.sameField ref o n d ∈ bigw) : ∀ x, s.fieldFound? o n d = some x → s.fieldFound? ref n d = some x := by
  rcases h with rfl | h
  · exact fun _ q => q
  · exact fun x q => u_same (hts _ h) x q
/-- a field that may be put, too: of type ty -/
def am_Fp (own : String) (idx ci k N : Nat) (ty : FieldType) : Prop := ∃ (C : String) (T : u_T) (ref : String) (ty0 : Nat → FieldType), vwCl[ci]? = some (C, T, N) ∧ (∀ w ∈ u_ws C T N, w ∈ bigw) ∧ k < N ∧ Cond.fieldLink own idx ref (T k).2.1 (T k).2.2.1 ∈ bigw ∧ ((T k).1 = ref ∨ Cond.sameField ref (T k).1 (T k).2.1 (T k).2.2.1 ∈ bigw) ∧
  (∀ k, k < N → parseFieldDescriptor (T k).2.2.1 = some (ty0 k)) ∧ (∀ a, a < N → ∀ b, b < N → a ≠ b → (T a).2.1 ≠ (T b).2.1) ∧ (T k).2.2.2 = false ∧ parseFieldDescriptor (T k).2.2.1 = some ty
theorem r_getI (X : am_X M O cc own nL ret) {c idx ci k N : Nat} {rf : Nat → Option Nat} (F : am_Fg own idx ci k N) (hc : c < O.2.2.2.1 ∧ O.2.2.2.2 c = .inl (ci, N, rf)) (hk : rf k = none) (hdg : decode cc pc = .ok (.getfield idx, 3)) (kk : am_At M R O Q nL (pc + 3) lv (.int (σ c k) :: st) σ) : am_At M R O Q nL pc lv (.ref (O.2.2.1 c) :: st) σ := fun H locs ls hP hS hl => by
  obtain ⟨C, T, ref, h1, h2, h3, h4, h5⟩ := F
  refine va_get (D := O.1) (ws := am_ws O σ) X.1 X.2.1 X.2.2.2.2.1 h2 X.2.2.2.1 X.2.2.2.2.2.1 hP c (fs := (List.range N).map (am_v O.2.2.1 σ rf c)) (by rw [am_get O σ hc.1, hc.2]; rfl) h1 k h3 (X.2.2.2.2.1 _ h4) (am_same X.2.2.2.2.1 h5) (v := .int (σ c k)) (by simp [List.getElem?_map, List.getElem?_range h3, am_v, hk]) hdg (kk H locs ls hP hS hl)
theorem r_getR (X : am_X M O cc own nL ret) {c c1 idx ci k N : Nat} {rf : Nat → Option Nat} (F : am_Fg own idx ci k N) (hc : c < O.2.2.2.1 ∧ O.2.2.2.2 c = .inl (ci, N, rf)) (hk : rf k = some c1) (hdg : decode cc pc = .ok (.getfield idx, 3)) (kk : am_At M R O Q nL (pc + 3) lv (.ref (O.2.2.1 c1) :: st) σ) : am_At M R O Q nL pc lv (.ref (O.2.2.1 c) :: st) σ := fun H locs ls hP hS hl => by
  obtain ⟨C, T, ref, h1, h2, h3, h4, h5⟩ := F
  refine va_get (D := O.1) (ws := am_ws O σ) X.1 X.2.1 X.2.2.2.2.1 h2 X.2.2.2.1 X.2.2.2.2.2.1 hP c (fs := (List.range N).map (am_v O.2.2.1 σ rf c)) (by rw [am_get O σ hc.1, hc.2]; rfl) h1 k h3 (X.2.2.2.2.1 _ h4) (am_same X.2.2.2.2.1 h5) (v := .ref (O.2.2.1 c1)) (by simp [List.getElem?_map, List.getElem?_range h3, am_v, hk]) hdg (kk H locs ls hP hS hl)
theorem r_putI (X : am_X M O cc own nL ret) {c idx ci k N : Nat} {v : Int32} {rf : Nat → Option Nat} (F : am_Fp own idx ci k N .int) (hc : c < O.2.2.2.1 ∧ O.2.2.2.2 c = .inl (ci, N, rf)) (hk : rf k = none) (hdg : decode cc pc = .ok (.putfield idx, 3)) {A : Sg → Option β} (h : amlet (up2 σ c k v) A = some z) (kk : ∀ σ1, A σ1 = some z → am_At M R O Q nL (pc + 3) lv st σ1) : am_At M R O Q nL pc lv (.int v :: .ref (O.2.2.1 c) :: st) σ := fun H locs ls hP hS hl => by
  obtain ⟨C, T, ref, ty0, h1, h2, h3, h4, h5, h6, h7, h8, h9⟩ := F
  refine va_put (D := O.1) (ws := am_ws O σ) X.1 X.2.1 X.2.2.2.2.1 h2 ty0 h6 h7 X.2.2.2.1 X.2.2.2.2.2.1 hP (am_D X.2.2.2.2.2.2.1 σ _) hS c (fs := (List.range N).map (am_v O.2.2.1 σ rf c)) (by rw [am_get O σ hc.1, hc.2]; rfl) h1 k h3 (X.2.2.2.2.1 _ h4) (am_same X.2.2.2.2.1 h5) h8 (v := .int v) h9 rfl rfl (by simpa using h3) hdg (fun H1 locs1 hP1 _ hS1 => ?_)
  rw [am_putO O σ hc.2 hk h3 v] at hP1
  exact kk _ h H1 locs1 ls hP1 hS1 hl
theorem r_putZ (X : am_X M O cc own nL ret) {c idx ci k N : Nat} {v : Int32} {rf : Nat → Option Nat} (F : am_Fp own idx ci k N .boolean) (hc : c < O.2.2.2.1 ∧ O.2.2.2.2 c = .inl (ci, N, rf)) (hk : rf k = none) (hv : narrow .boolean (.int v) = .int v ∧ fits .boolean (.int v) = true) (hdg : decode cc pc = .ok (.putfield idx, 3)) {A : Sg → Option β} (h : amlet (up2 σ c k v) A = some z) (kk : ∀ σ1, A σ1 = some z → am_At M R O Q nL (pc + 3) lv st σ1) : am_At M R O Q nL pc lv (.int v :: .ref (O.2.2.1 c) :: st) σ := fun H locs ls hP hS hl => by
  obtain ⟨C, T, ref, ty0, h1, h2, h3, h4, h5, h6, h7, h8, h9⟩ := F
  refine va_put (D := O.1) (ws := am_ws O σ) X.1 X.2.1 X.2.2.2.2.1 h2 ty0 h6 h7 X.2.2.2.1 X.2.2.2.2.2.1 hP (am_D X.2.2.2.2.2.2.1 σ _) hS c (fs := (List.range N).map (am_v O.2.2.1 σ rf c)) (by rw [am_get O σ hc.1, hc.2]; rfl) h1 k h3 (X.2.2.2.2.1 _ h4) (am_same X.2.2.2.2.1 h5) h8 (v := .int v) h9 hv.1 hv.2 (by simpa using h3) hdg (fun H1 locs1 hP1 _ hS1 => ?_)
  rw [am_putO O σ hc.2 hk h3 v] at hP1
  exact kk _ h H1 locs1 ls hP1 hS1 hl
theorem r_iald (X : am_X M O cc own nL ret) {c n : Nat} {i : Int32} (hc : c < O.2.2.2.1 ∧ O.2.2.2.2 c = a_I n) (hdg : decode cc pc = .ok (.iaload, 1)) {A : Option β} (h : gd (inB i n) A = some z) (k : A = some z → am_At M R O Q nL (pc + 1) lv (.int (σ c i.toNatClampNeg) :: st) σ) : am_At M R O Q nL pc lv (.int i :: .ref (O.2.2.1 c) :: st) σ := fun H locs ls hP hS hl =>
  va_iald (D := O.1) (ws := am_ws O σ) (f := σ c) X.1 X.2.1 X.2.2.2.2.2.1 hP c 0 (by rw [am_get O σ hc.1, hc.2]; rfl) rfl (inB_in (gd_of h).1) hdg (k (gd_of h).2 H locs ls hP hS hl)
theorem r_zald (X : am_X M O cc own nL ret) {c n : Nat} {i : Int32} (hc : c < O.2.2.2.1 ∧ O.2.2.2.2 c = a_Z n) (hdg : decode cc pc = .ok (.baload, 1)) {A : Option β} (h : gd (inB i n) A = some z) (k : A = some z → am_At M R O Q nL (pc + 1) lv (.int (σ c i.toNatClampNeg) :: st) σ) : am_At M R O Q nL pc lv (.int i :: .ref (O.2.2.1 c) :: st) σ := fun H locs ls hP hS hl =>
  va_zald (D := O.1) (ws := am_ws O σ) (f := σ c) X.1 X.2.1 X.2.2.2.2.2.1 hP c 1 (by rw [am_get O σ hc.1, hc.2]; rfl) rfl (inB_in (gd_of h).1) hdg (k (gd_of h).2 H locs ls hP hS hl)
theorem r_iast (X : am_X M O cc own nL ret) {c n : Nat} {i v : Int32} (hc : c < O.2.2.2.1 ∧ O.2.2.2.2 c = a_I n) (hdg : decode cc pc = .ok (.iastore, 1)) {A : Sg → Option β} (h : gd (inB i n) (amlet (up2 σ c i.toNatClampNeg v) A) = some z) (k : ∀ σ1, A σ1 = some z → am_At M R O Q nL (pc + 1) lv st σ1) : am_At M R O Q nL pc lv (.int v :: .int i :: .ref (O.2.2.1 c) :: st) σ := fun H locs ls hP hS hl => by
  refine va_iast (D := O.1) (ws := am_ws O σ) (f := σ c) X.1 X.2.1 X.2.2.2.2.2.1 hP (am_D X.2.2.2.2.2.2.1 σ _) hS c 0 (by rw [am_get O σ hc.1, hc.2]; rfl) rfl (inB_in (gd_of h).1) hdg (fun H1 locs1 hP1 _ hS1 => ?_)
  rw [am_putA O σ (ti := 0) (n := n) hc.2] at hP1
  exact k _ (gd_of h).2 H1 locs1 ls hP1 hS1 hl
theorem r_zast (X : am_X M O cc own nL ret) {c n : Nat} {i v : Int32} (hc : c < O.2.2.2.1 ∧ O.2.2.2.2 c = a_Z n) (hv : vp_nar .boolean v = v) (hdg : decode cc pc = .ok (.bastore, 1)) {A : Sg → Option β} (h : gd (inB i n) (amlet (up2 σ c i.toNatClampNeg v) A) = some z) (k : ∀ σ1, A σ1 = some z → am_At M R O Q nL (pc + 1) lv st σ1) : am_At M R O Q nL pc lv (.int v :: .int i :: .ref (O.2.2.1 c) :: st) σ := fun H locs ls hP hS hl => by
  refine va_zast (D := O.1) (ws := am_ws O σ) (f := σ c) X.1 X.2.1 X.2.2.2.2.2.1 hP (am_D X.2.2.2.2.2.2.1 σ _) hS c 1 (by rw [am_get O σ hc.1, hc.2]; rfl) rfl (inB_in (gd_of h).1) hdg (fun H1 locs1 hP1 _ hS1 => ?_)
  rw [hv, am_putA O σ (ti := 1) (n := n) hc.2] at hP1
  exact k _ (gd_of h).2 H1 locs1 ls hP1 hS1 hl
theorem r_aald (X : am_X M O cc own nL ret) {c n : Nat} {g : Nat → Nat} {i : Int32} (hc : c < O.2.2.2.1 ∧ O.2.2.2.2 c = .inr (.inr (2, n, g))) (hdg : decode cc pc = .ok (.aaload, 1)) {A : Option β} (h : gd (inB i n) A = some z) (k : A = some z → am_At M R O Q nL (pc + 1) lv (.ref (O.2.2.1 (g i.toNatClampNeg)) :: st) σ) : am_At M R O Q nL pc lv (.int i :: .ref (O.2.2.1 c) :: st) σ := fun H locs ls hP hS hl =>
  va_aldq (D := O.1) (ws := am_ws O σ) (f := fun j => some (O.2.2.1 (g j))) X.1 X.2.1 X.2.2.2.2.2.1 hP c 2 (by rw [am_get O σ hc.1, hc.2]; rfl) rfl (inB_in (gd_of h).1) hdg (k (gd_of h).2 H locs ls hP hS hl)
theorem r_alen (X : am_X M O cc own nL ret) {c n : Nat} {v : Int32} (hc : c < O.2.2.2.1 ∧ O.2.2.2.2 c = a_I n) (hv : Int32.ofNat n = v) (hdg : decode cc pc = .ok (.arraylength, 1)) (k : am_At M R O Q nL (pc + 1) lv (.int v :: st) σ) : am_At M R O Q nL pc lv (.ref (O.2.2.1 c) :: st) σ := fun H locs ls hP hS hl =>
  va_alen (D := O.1) (ws := am_ws O σ) (x := (n, .inl (σ c))) X.1 X.2.1 X.2.2.2.2.2.1 hP c 0 (by rw [am_get O σ hc.1, hc.2]; rfl) rfl hv hdg (k H locs ls hP hS hl)
theorem r_iret (X : am_X M O cc own nL ret) {v : Int32} (hret : ret = some .int) {σ' : Sg} {rv : Option Value} (hσ : σ = σ') (hrv : some (.int v) = rv) (hdg : decode cc pc = .ok (.ireturn, 1)) : am_At M R O (am_Q M O σ' rv) nL pc lv [.int v] σ := fun H locs ls hP hS hl => by
  subst hσ; subst hrv
  exact W.iret X.1 X.2.1 (X.2.2.2.2.2.2.2.1.trans hret) (fun t ht hW => ⟨⟨rfl, by rw [ht]; exact hP⟩, hS.F ht⟩) hS.2.2 hdg X.2.2.2.2.2.2.2.2.1
theorem r_zret (X : am_X M O cc own nL ret) {v : Int32} (hret : ret = some .boolean) (hv : narrow .boolean (.int v) = .int v) {σ' : Sg} {rv : Option Value} (hσ : σ = σ') (hrv : some (.int v) = rv) (hdg : decode cc pc = .ok (.ireturn, 1)) : am_At M R O (am_Q M O σ' rv) nL pc lv [.int v] σ := fun H locs ls hP hS hl => by
  subst hσ; subst hrv
  exact W.zret X.1 X.2.1 (X.2.2.2.2.2.2.2.1.trans hret) hv (fun t ht hW => ⟨⟨rfl, by rw [ht]; exact hP⟩, hS.F ht⟩) hS.2.2 hdg X.2.2.2.2.2.2.2.2.1
theorem r_lret (X : am_X M O cc own nL ret) {v : Int64} (hret : ret = some .long) {σ' : Sg} {rv : Option Value} (hσ : σ = σ') (hrv : some (.long v) = rv) (hdg : decode cc pc = .ok (.lreturn, 1)) : am_At M R O (am_Q M O σ' rv) nL pc lv [.long v] σ := fun H locs ls hP hS hl => by
  subst hσ; subst hrv
  exact W.lret X.1 X.2.1 (X.2.2.2.2.2.2.2.1.trans hret) (fun t ht hW => ⟨⟨rfl, by rw [ht]; exact hP⟩, hS.F ht⟩) hS.2.2 hdg X.2.2.2.2.2.2.2.2.1
theorem r_vret (X : am_X M O cc own nL ret)  (hret : ret = none) {σ' : Sg} {rv : Option Value} (hσ : σ = σ') (hrv : none = rv) (hdg : decode cc pc = .ok (.return_, 1)) : am_At M R O (am_Q M O σ' rv) nL pc lv [] σ := fun H locs ls hP hS hl => by
  subst hσ; subst hrv
  exact W.vret X.1 X.2.1 (X.2.2.2.2.2.2.2.1.trans hret) (fun t ht hW => ⟨⟨rfl, by rw [ht]; exact hP⟩, hS.F ht⟩) hS.2.2 hdg X.2.2.2.2.2.2.2.2.1
theorem r_aret (X : am_X M O cc own nL ret) {v : Nat} {C : String} (hret : ret = some (.object C)) {σ' : Sg} {rv : Option Value} (hσ : σ = σ') (hrv : some (.ref v) = rv) (hdg : decode cc pc = .ok (.areturn, 1)) : am_At M R O (am_Q M O σ' rv) nL pc lv [.ref v] σ := fun H locs ls hP hS hl => by
  subst hσ; subst hrv
  exact W.aret X.1 X.2.1 (X.2.2.2.2.2.2.2.1.trans hret) (Or.inl ⟨_, rfl⟩) (Or.inr ⟨_, rfl⟩) (fun t ht hW => ⟨⟨rfl, by rw [ht]; exact hP⟩, hS.F ht⟩) hS.2.2 hdg X.2.2.2.2.2.2.2.2.1
theorem am_back (X : am_X M O cc own nL ret) {H : Heap} {locs : List Loc} {ls : Array Slot} {st0 rest : List Value} {σ' : Sg} {rv : Option Value} {a : Array Value} (hS : va_S (am_A O M.2.2.2.1.heap.size) M.2.2.2.1.heap H locs) (hl : lv_has ls nL lv)
    (hr : va_Run M.1 M.2.1 M.2.2.1 R M.2.2.2.1 M.2.2.2.2.1 M.2.2.2.2.2.1 M.2.2.2.2.2.2.1 M.2.2.2.2.2.2.2.1 M.2.2.2.2.2.2.2.2 H locs 0 0 0 0 (F0 M.2.2.2.2.1 pc ls st0) rest (am_Qc O (am_A O H.size) σ' rv a) (am_A O H.size))
    (kk : am_At M R O Q nL (pc + 3) lv (rv.toList ++ rest) σ') : W M.1 M.2.1 M.2.2.1 R M.2.2.2.1 M.2.2.2.2.1 M.2.2.2.2.2.1 M.2.2.2.2.2.2.1 M.2.2.2.2.2.2.2.1 M.2.2.2.2.2.2.2.2 H locs 0 0 Q (F0 M.2.2.2.2.1 pc ls st0) := by
  intro T hT XX
  obtain ⟨v, st₀, t, T', L, h0, X', hL, e1, e2, ⟨⟨hv, hp⟩, hz, hk⟩, st⟩ := hr T hT XX
  cases hv
  rw [h0] at hz hk
  have hA : ∀ q, am_A O H.size q → am_A O M.2.2.2.1.heap.size q := fun q h => h.elim Or.inl (fun g => Or.inr (Nat.le_trans hS.1 g))
  obtain ⟨t2, a1, b1⟩ := kk T'.heap (locs ++ L) ls (by rw [e1]; exact hp) ⟨Nat.le_trans hS.1 (by rw [e1]; exact hz), fun q h1 h2 => by rw [e1, hk q (Nat.lt_of_lt_of_le h1 hS.1) (fun z => h2 (hA q z))]; exact hS.2.1 q h1 h2, fun q hq => by
      rcases List.mem_append.mp hq with h | h
      · exact hS.2.2 q h
      · exact hA _ (hL q h)⟩ hl T' rfl X'
  exact ⟨t2, st t2 a1, b1⟩
theorem am_blind {O : am_O} {σ : Sg} {sz : Nat} {av : List Value} : FrameBlind (va_Pc av (am_Pre O σ sz)) := fun a U g mk q => by
  obtain ⟨h1, h2, h3, h4, h5, h6⟩ := q
  exact ⟨h1, h2, h3, va_K.moved (u := U) (U := U.calling g mk a) (Vm.Alike.refl U.vm) h4, h5, h6.same rfl⟩
/-- a call's words: kind V (own class), S (static), U (inherited, or a kind's own) -/
def am_Cv (own : String) (idx : Nat) (C : String) (y : MethodName) (cY : ByteArray) (mY : Nat) (rY : Option FieldType) (n : Nat) : Prop := GoodIn bigw (wsV own idx C y (.code y cY mY rY :: bigw)) ∧ (y.cls = C ∧ y.cls ≠ "java/lang/invoke/MethodHandle" ∧ y.cls ≠ "java/lang/invoke/VarHandle" ∧ (parseMethodDescriptor y.desc).map (fun d => d.parameters.length) = some n)
def am_Cs (own : String) (idx : Nat) (y : MethodName) (cY : ByteArray) (mY : Nat) (rY : Option FieldType) (n : Nat) : Prop := GoodIn bigw (.code y cY mY rY :: bigw) ∧ Cond.methodLink own idx y ∈ bigw ∧ Cond.static y ∈ bigw ∧ Cond.initialized y.cls ∈ bigw ∧ (y.cls ≠ "java/lang/invoke/MethodHandle" ∧ y.cls ≠ "java/lang/invoke/VarHandle" ∧ (parseMethodDescriptor y.desc).map (fun d => d.parameters.length) = some n)
def am_Cu (own : String) (idx : Nat) (C owner : String) (x y : MethodName) (cY : ByteArray) (mY : Nat) (rY : Option FieldType) (n : Nat) : Prop := GoodIn bigw (va_wsU own idx C owner x y (.code y cY mY rY :: bigw)) ∧ y = ⟨owner, x.name, x.desc⟩ ∧ (owner ≠ "java/lang/invoke/MethodHandle" ∧ owner ≠ "java/lang/invoke/VarHandle" ∧ (parseMethodDescriptor x.desc).map (fun d => d.parameters.length) = some n)
abbrev am_room (R rm : Room) (mY : Nat) : Prop := (rm.cells = 0 ∧ rm.slots = 0) ∧ rm.frames + 1 ≤ R.frames ∧ 8 + (mY + 11) + rm.locals ≤ R.locals
theorem r_callV (X : am_X M O cc own nL ret) {idx ci c N : Nat} {T : u_T} {C : String} {rf : Nat → Option Nat} {y : MethodName} {cY : ByteArray} {mY n : Nat} {rY : Option FieldType} {rm : Room} {avf : (Nat → Nat) → List Value} {rvf : (Nat → Nat) → Option Value} {σ' : Sg} {As rest : List Value} (cw : am_Cv own idx C y cY mY rY n) (hM : am_Met M.2.1 y cY mY rY rm O.2.2.2.1 O.2.2.2.2 avf σ σ' rvf) (hav : avf O.2.2.1 = .ref (O.2.2.1 c) :: As) (hcl : vwCl[ci]? = some (C, T, N)) (hc : c < O.2.2.2.1 ∧ O.2.2.2.2 c = .inl (ci, N, rf)) (hn : As.length = n) (hst : st = As.reverse ++ .ref (O.2.2.1 c) :: rest) (hw : (rest.map fun v => v.category).sum ≤ 8) (hR : am_room R rm mY) (hdg : decode cc pc = .ok (.invokevirtual idx, 3)) (hcr : R.cells = 0 ∧ R.slots = 0)
    {st2 : List Value} (h2 : (rvf O.2.2.1).toList ++ rest = st2) (kk : am_At M R O Q nL (pc + 3) lv st2 σ') : am_At M R O Q nL pc lv st σ := fun H locs ls hP hS hl => by
  have hMM := hM O.1 O.2.1 O.2.2.1 H.size
  rw [hav] at hMM
  refine am_back (a := (Value.ref (O.2.2.1 c) :: As).toArray) X hS hl ?_ (by rw [h2]; exact kk)
  exact va_runV (As := As) (rest := rest) (b := O.2.2.1 c) ⟨X.1, X.2.1, X.2.2.1, X.2.2.2.1, X.2.2.2.2.1⟩ hMM (cwV n X.2.2.2.2.1 cw.1 rfl hR.1.1 hR.1.2 cw.2 hR.2) ⟨am_blind, va_recv (q := (C, T, N)) X.2.2.2.2.2.1 hP hcl (q0 := c) (fs := (List.range N).map (am_v O.2.2.1 σ rf c)) (by rw [am_get O σ hc.1, hc.2]; rfl), fun U hU hW => ⟨rfl, by rw [hU], by rw [hU]; exact hP, va_K.moved hW.alike X.2.2.2.2.2.1, X.2.2.2.2.2.2.1, X.2.2.2.2.2.2.2.2.2.warm hW⟩⟩ rfl hn hl.1 hst (lv_room hw) hdg ⟨by rw [hcr.1]; exact Nat.le_refl 0, by rw [hcr.2]; exact Nat.le_refl 0⟩
theorem r_callS (X : am_X M O cc own nL ret) {idx : Nat} {y : MethodName} {cY : ByteArray} {mY n : Nat} {rY : Option FieldType} {rm : Room} {avf : (Nat → Nat) → List Value} {rvf : (Nat → Nat) → Option Value} {σ' : Sg} {As rest : List Value} (cw : am_Cs own idx y cY mY rY n) (hM : am_Met M.2.1 y cY mY rY rm O.2.2.2.1 O.2.2.2.2 avf σ σ' rvf) (hav : avf O.2.2.1 = As) (hn : As.length = n) (hst : st = As.reverse ++ rest) (hw : (rest.map fun v => v.category).sum ≤ 8) (hR : am_room R rm mY) (hdg : decode cc pc = .ok (.invokestatic idx, 3)) (hcr : R.cells = 0 ∧ R.slots = 0)
    {st2 : List Value} (h2 : (rvf O.2.2.1).toList ++ rest = st2) (kk : am_At M R O Q nL (pc + 3) lv st2 σ') : am_At M R O Q nL pc lv st σ := fun H locs ls hP hS hl => by
  have hMM := hM O.1 O.2.1 O.2.2.1 H.size
  rw [hav] at hMM
  refine am_back (a := As.toArray) X hS hl ?_ (by rw [h2]; exact kk)
  exact va_runS (As := As) (rest := rest) ⟨X.1, X.2.1, X.2.2.1, X.2.2.2.1, X.2.2.2.2.1⟩ hMM ⟨callB_of n X.2.2.2.2.1 cw.1 rfl hR.1.1 hR.1.2 (X.2.2.2.2.1 _ cw.2.2.2.1) (X.2.2.2.2.1 _ cw.2.1) cw.2.2.2.2 hR.2, X.2.2.2.2.1 _ cw.2.2.1⟩ ⟨am_blind, fun U hU hW => ⟨rfl, by rw [hU], by rw [hU]; exact hP, va_K.moved hW.alike X.2.2.2.2.2.1, X.2.2.2.2.2.2.1, X.2.2.2.2.2.2.2.2.2.warm hW⟩⟩ rfl hn hl.1 hst (lv_room hw) hdg ⟨by rw [hcr.1]; exact Nat.le_refl 0, by rw [hcr.2]; exact Nat.le_refl 0⟩
theorem r_callU (X : am_X M O cc own nL ret) {idx ci c N : Nat} {T : u_T} {C owner : String} {x : MethodName} {rf : Nat → Option Nat} {y : MethodName} {cY : ByteArray} {mY n : Nat} {rY : Option FieldType} {rm : Room} {avf : (Nat → Nat) → List Value} {rvf : (Nat → Nat) → Option Value} {σ' : Sg} {As rest : List Value} (cw : am_Cu own idx C owner x y cY mY rY n) (hM : am_Met M.2.1 y cY mY rY rm O.2.2.2.1 O.2.2.2.2 avf σ σ' rvf) (hav : avf O.2.2.1 = .ref (O.2.2.1 c) :: As) (hcl : vwCl[ci]? = some (C, T, N)) (hc : c < O.2.2.2.1 ∧ O.2.2.2.2 c = .inl (ci, N, rf)) (hn : As.length = n) (hst : st = As.reverse ++ .ref (O.2.2.1 c) :: rest) (hw : (rest.map fun v => v.category).sum ≤ 8) (hR : am_room R rm mY) (hdg : decode cc pc = .ok (.invokevirtual idx, 3)) (hcr : R.cells = 0 ∧ R.slots = 0)
    {st2 : List Value} (h2 : (rvf O.2.2.1).toList ++ rest = st2) (kk : am_At M R O Q nL (pc + 3) lv st2 σ') : am_At M R O Q nL pc lv st σ := fun H locs ls hP hS hl => by
  have hMM := hM O.1 O.2.1 O.2.2.1 H.size
  rw [hav] at hMM
  refine am_back (a := (Value.ref (O.2.2.1 c) :: As).toArray) X hS hl ?_ (by rw [h2]; exact kk)
  exact va_runU (As := As) (rest := rest) (b := O.2.2.1 c) ⟨X.1, X.2.1, X.2.2.1, X.2.2.2.1, X.2.2.2.2.1⟩ hMM (va_cwU n X.2.2.2.2.1 cw.1 rfl hR.1.1 hR.1.2 cw.2.1 cw.2.2 hR.2) ⟨am_blind, va_recv (q := (C, T, N)) X.2.2.2.2.2.1 hP hcl (q0 := c) (fs := (List.range N).map (am_v O.2.2.1 σ rf c)) (by rw [am_get O σ hc.1, hc.2]; rfl), fun U hU hW => ⟨rfl, by rw [hU], by rw [hU]; exact hP, va_K.moved hW.alike X.2.2.2.2.2.1, X.2.2.2.2.2.2.1, X.2.2.2.2.2.2.2.2.2.warm hW⟩⟩ rfl hn hl.1 hst (lv_room hw) hdg ⟨by rw [hcr.1]; exact Nat.le_refl 0, by rw [hcr.2]; exact Nat.le_refl 0⟩
def am_Cn (own : String) (idx : Nat) (host : String) (y : MethodName) (cY : ByteArray) (mY : Nat) (rY : Option FieldType) (n : Nat) : Prop := GoodIn bigw (.code y cY mY rY :: bigw) ∧ (own, idx, y, host) ∈ ne_links ∧ Cond.static y ∈ bigw ∧ Cond.initialized y.cls ∈ bigw ∧ (y.cls ≠ "java/lang/invoke/MethodHandle" ∧ y.cls ≠ "java/lang/invoke/VarHandle" ∧ (parseMethodDescriptor y.desc).map (fun d => d.parameters.length) = some n)
def am_Ca (own : String) (idx : Nat) (C owner : String) (x y : MethodName) (cY : ByteArray) (mY : Nat) (rY : Option FieldType) (n : Nat) : Prop := GoodIn bigw (va_wsU own idx C owner x y (.code y cY mY rY :: bigw)) ∧ (⟨owner, x.name, x.desc⟩ : MethodName) ∈ ne_decl ∧ (owner ≠ "java/lang/invoke/MethodHandle" ∧ owner ≠ "java/lang/invoke/VarHandle" ∧ (parseMethodDescriptor x.desc).map (fun d => d.parameters.length) = some n)
theorem r_callN (X : am_X M O cc own nL ret) {idx : Nat} {host : String} {y : MethodName} {cY : ByteArray} {mY n : Nat} {rY : Option FieldType} {rm : Room} {avf : (Nat → Nat) → List Value} {rvf : (Nat → Nat) → Option Value} {σ' : Sg} {As rest : List Value} (cw : am_Cn own idx host y cY mY rY n) (hM : am_Met M.2.1 y cY mY rY rm O.2.2.2.1 O.2.2.2.2 avf σ σ' rvf) (hav : avf O.2.2.1 = As) (hn : As.length = n) (hst : st = As.reverse ++ rest) (hw : (rest.map fun v => v.category).sum ≤ 8) (hR : am_room R rm mY) (hdg : decode cc pc = .ok (.invokestatic idx, 3)) (hcr : R.cells = 0 ∧ R.slots = 0)
    {st2 : List Value} (h2 : (rvf O.2.2.1).toList ++ rest = st2) (kk : am_At M R O Q nL (pc + 3) lv st2 σ') : am_At M R O Q nL pc lv st σ := fun H locs ls hP hS hl => by
  have hMM := hM O.1 O.2.1 O.2.2.1 H.size
  rw [hav] at hMM
  refine am_back (a := As.toArray) X hS hl ?_ (by rw [h2]; exact kk)
  exact va_runSN (host := host) (As := As) (rest := rest) ⟨X.1, X.2.1, X.2.2.1, X.2.2.2.1, X.2.2.2.2.1⟩ hMM ⟨va_cnB n X.2.2.2.2.1 cw.1 rfl hR.1.1 hR.1.2 (X.2.2.2.2.2.2.2.2.2.1 _ cw.2.1) (X.2.2.2.2.1 _ cw.2.2.2.1) cw.2.2.2.2 hR.2, X.2.2.2.2.1 _ cw.2.2.1, trivial⟩ ⟨am_blind, fun U hU hW => ⟨rfl, by rw [hU], by rw [hU]; exact hP, va_K.moved hW.alike X.2.2.2.2.2.1, X.2.2.2.2.2.2.1, X.2.2.2.2.2.2.2.2.2.warm hW⟩⟩ rfl hn hl.1 hst (lv_room hw) hdg ⟨by rw [hcr.1]; exact Nat.le_refl 0, by rw [hcr.2]; exact Nat.le_refl 0⟩
theorem r_callA (X : am_X M O cc own nL ret) {idx ci c N : Nat} {T : u_T} {C owner : String} {x : MethodName} {rf : Nat → Option Nat} {y : MethodName} {cY : ByteArray} {mY n : Nat} {rY : Option FieldType} {rm : Room} {avf : (Nat → Nat) → List Value} {rvf : (Nat → Nat) → Option Value} {σ' : Sg} {As rest : List Value} (cw : am_Ca own idx C owner x y cY mY rY n) (hM : am_Met M.2.1 y cY mY rY rm O.2.2.2.1 O.2.2.2.2 avf σ σ' rvf) (hav : avf O.2.2.1 = .ref (O.2.2.1 c) :: As) (hcl : vwCl[ci]? = some (C, T, N)) (hc : c < O.2.2.2.1 ∧ O.2.2.2.2 c = .inl (ci, N, rf)) (hn : As.length = n) (hst : st = As.reverse ++ .ref (O.2.2.1 c) :: rest) (hw : (rest.map fun v => v.category).sum ≤ 8) (hR : am_room R rm mY) (hdg : decode cc pc = .ok (.invokevirtual idx, 3)) (hcr : R.cells = 0 ∧ R.slots = 0)
    {st2 : List Value} (h2 : (rvf O.2.2.1).toList ++ rest = st2) (kk : am_At M R O Q nL (pc + 3) lv st2 σ') : am_At M R O Q nL pc lv st σ := fun H locs ls hP hS hl => by
  have hMM := hM O.1 O.2.1 O.2.2.1 H.size
  rw [hav] at hMM
  refine am_back (a := (Value.ref (O.2.2.1 c) :: As).toArray) X hS hl ?_ (by rw [h2]; exact kk)
  exact va_runU (As := As) (rest := rest) (b := O.2.2.1 c) ⟨X.1, X.2.1, X.2.2.1, X.2.2.2.1, X.2.2.2.2.1⟩ hMM (va_cwA n X.2.2.2.2.1 cw.1 rfl hR.1.1 hR.1.2 (X.2.2.2.2.2.2.2.2.2.2 _ cw.2.1) cw.2.2 hR.2) ⟨am_blind, va_recv (q := (C, T, N)) X.2.2.2.2.2.1 hP hcl (q0 := c) (fs := (List.range N).map (am_v O.2.2.1 σ rf c)) (by rw [am_get O σ hc.1, hc.2]; rfl), fun U hU hW => ⟨rfl, by rw [hU], by rw [hU]; exact hP, va_K.moved hW.alike X.2.2.2.2.2.1, X.2.2.2.2.2.2.1, X.2.2.2.2.2.2.2.2.2.warm hW⟩⟩ rfl hn hl.1 hst (lv_room hw) hdg ⟨by rw [hcr.1]; exact Nat.le_refl 0, by rw [hcr.2]; exact Nat.le_refl 0⟩
theorem r_mmax (X : am_X M O cc own nL ret) {idx : Nat} {x y : Int32} (hw : Cond.methodLink own idx Lib.Math.max.name ∈ bigw ∧ Cond.static Lib.Math.max.name ∈ bigw ∧ Cond.initialized "java/lang/Math" ∈ bigw ∧ Cond.code Lib.Math.max.name Lib.Math.max.code 2 (some .int) ∈ bigw) (hf : 1 ≤ R.frames) (hlo : (st.map fun v => v.category).sum + 13 ≤ R.locals) (hdg : decode cc pc = .ok (.invokestatic idx, 3)) (k : am_At M R O Q nL (pc + 3) lv (.int (if x < y then y else x) :: st) σ) : am_At M R O Q nL pc lv (.int y :: .int x :: st) σ := fun H locs ls hP hS hl =>
  va_mmax X.1 X.2.1 (X.2.2.1.trans hl.1.symm) X.2.2.2.1 (X.2.2.2.2.1 _ hw.1) (X.2.2.2.2.1 _ hw.2.1) (X.2.2.2.2.1 _ hw.2.2.1) (X.2.2.2.2.1 _ hw.2.2.2) hf hlo (Nat.zero_le _) (Nat.zero_le _) hdg (k H locs ls hP hS hl)
theorem r_mmin (X : am_X M O cc own nL ret) {idx : Nat} {x y : Int32} (hw : Cond.methodLink own idx Lib.Math.min.name ∈ bigw ∧ Cond.static Lib.Math.min.name ∈ bigw ∧ Cond.initialized "java/lang/Math" ∈ bigw ∧ Cond.code Lib.Math.min.name Lib.Math.min.code 2 (some .int) ∈ bigw) (hf : 1 ≤ R.frames) (hlo : (st.map fun v => v.category).sum + 13 ≤ R.locals) (hdg : decode cc pc = .ok (.invokestatic idx, 3)) (k : am_At M R O Q nL (pc + 3) lv (.int (if y < x then y else x) :: st) σ) : am_At M R O Q nL pc lv (.int y :: .int x :: st) σ := fun H locs ls hP hS hl =>
  va_mmin X.1 X.2.1 (X.2.2.1.trans hl.1.symm) X.2.2.2.1 (X.2.2.2.2.1 _ hw.1) (X.2.2.2.2.1 _ hw.2.1) (X.2.2.2.2.1 _ hw.2.2.1) (X.2.2.2.2.1 _ hw.2.2.2) hf hlo (Nat.zero_le _) (Nat.zero_le _) hdg (k H locs ls hP hS hl)
/-- System.arraycopy of int rows -/
theorem r_acopy (X : am_X M O cc own nL ret) {idx c0 c1 n0 n1 : Nat} {sp dp n : Int32} (hw : Cond.methodLink own idx arraycopyName ∈ bigw ∧ Cond.native arraycopyName ∈ bigw ∧ Cond.static arraycopyName ∈ bigw ∧ Cond.initialized "java/lang/System" ∈ bigw) (h0 : c0 < O.2.2.2.1 ∧ O.2.2.2.2 c0 = a_I n0) (h1 : c1 < O.2.2.2.1 ∧ O.2.2.2.2 c1 = a_I n1) (hf : 1 ≤ R.frames) (hlo : (st.map fun v => v.category).sum + (nativeFrameWords "java/lang/System" "arraycopy" 5 + 11) ≤ R.locals) (hdg : decode cc pc = .ok (.invokestatic idx, 3))
    {A : Sg → Option β} (h : gd (decide (¬ sp < 0 ∧ ¬ dp < 0 ∧ ¬ n < 0 ∧ sp.toNatClampNeg + n.toNatClampNeg ≤ n0 ∧ dp.toNatClampNeg + n.toNatClampNeg ≤ n1)) (amlet (cp2 σ c0 sp.toNatClampNeg c1 dp.toNatClampNeg n.toNatClampNeg) A) = some z) (k : ∀ σ1, A σ1 = some z → am_At M R O Q nL (pc + 3) lv st σ1) : am_At M R O Q nL pc lv (.int n :: .int dp :: .ref (O.2.2.1 c1) :: .int sp :: .ref (O.2.2.1 c0) :: st) σ := fun H locs ls hP hS hl => by
  obtain ⟨g1, g2, g3, g4, g5⟩ := of_decide_eq_true (gd_of h).1
  refine va_copyi (D := O.1) (ws := am_ws O σ) (f := σ c0) (g := σ c1) X.1 X.2.1 (X.2.2.1.trans hl.1.symm) X.2.2.2.1 (X.2.2.2.2.1 _ hw.1) (X.2.2.2.2.1 _ hw.2.1) (X.2.2.2.2.1 _ hw.2.2.1) (X.2.2.2.2.1 _ hw.2.2.2) X.2.2.2.2.2.1 hP (am_D X.2.2.2.2.2.2.1 σ _) hS c0 c1 0 0 (by rw [am_get O σ h0.1, h0.2]; rfl) (by rw [am_get O σ h1.1, h1.2]; rfl) rfl rfl rfl g1 g2 g3 g4 g5 (fun _ _ => rfl) hf hlo hdg (fun H1 locs1 hP1 _ hS1 => ?_)
  rw [am_cpA O σ (ti := 0) (n := n1) h1.2] at hP1
  exact k _ (gd_of h).2 H1 locs1 ls hP1 hS1 hl
/-- a method's contract out of the walk of its body -/
theorem am_enter {l : Launch} {y : MethodName} {cY : ByteArray} {mY : Nat} {rY : Option FieldType} {rm : Room} {NC : Nat} {LY : Nat → am_C} {av : (Nat → Nat) → List Value} {σ σ' : Sg} {rv : (Nat → Nat) → Option Value} (hy : plainName y.cls = true) (hav : ∀ ad, (lg_sl (av ad)).length ≤ mY)
    (body : ∀ (M : am_M) (D : va_G) (cT : Nat → ClassId) (ad : Nat → Nat), M.2.1 = l → am_X M (D, cT, ad, NC, LY) cY y.cls mY rY → am_At M rm (D, cT, ad, NC, LY) (am_Q M (D, cT, ad, NC, LY) σ' (rv ad)) mY 0 (lv_args 0 (av ad)) [] σ) : am_Met l y cY mY rY rm NC LY av σ σ' rv := by
  intro D cT ad sz
  refine Met.ofW (cc := cY) (maxL := mY) (ret := rY) hy rfl ?_
  intro p e s m args below meth c s₁ B hml hv
  obtain ⟨rfl, hsz, hP, hK, hD, hN⟩ := hv
  subst hsz
  have hts := atoms_spec (ws := .code y cY mY rY :: bigw) B.pre
  have hl := lv_entry (av ad) (hav ad)
  rw [lg_entry_eq]
  exact body (p, l, e, s, m, _, below, meth, c) D cT ad rfl ⟨B.exec, B.bytes, hml, findClass_of_methodNamed B.named, fun w h => hts w (List.mem_cons_of_mem _ h), hK, hD, B.returns, B.notSynchronized, hN⟩ s.heap [] _ hP va_S.rf hl
end AM
section AMZ
variable {M : am_M} {R : Room} {O : am_O} {nL : Nat} {cc : ByteArray} {own : String} {ret : Option FieldType} {pc : Nat} {lv : List (Nat × Value)} {σ : Sg}
theorem r_iretz (X : am_X M O cc own nL ret) {v : Int32} {z : Int32 × Sg} (hret : ret = some .int) (hdg : decode cc pc = .ok (.ireturn, 1)) (h : some (v, σ) = some z) : am_At M R O (am_Q M O z.2 (some (.int z.1))) nL pc lv [.int v] σ := by
  obtain rfl := Option.some.inj h
  exact r_iret X hret rfl rfl hdg
theorem r_zretz (X : am_X M O cc own nL ret) {v : Int32} {z : Int32 × Sg} (hret : ret = some .boolean) (hv : narrow .boolean (.int v) = .int v) (hdg : decode cc pc = .ok (.ireturn, 1)) (h : some (v, σ) = some z) : am_At M R O (am_Q M O z.2 (some (.int z.1))) nL pc lv [.int v] σ := by
  obtain rfl := Option.some.inj h
  exact r_zret X hret hv rfl rfl hdg
theorem am_bool {v : Int32} (h : v = 0 ∨ v = 1) : narrow .boolean (.int v) = .int v := by
  rcases h with rfl | rfl <;> decide
theorem r_zretg (X : am_X M O cc own nL ret) {v : Int32} {z : Int32 × Sg} (hret : ret = some .boolean) (hdg : decode cc pc = .ok (.ireturn, 1)) (h : gd (decide (v = 0 ∨ v = 1)) (some (v, σ)) = some z) : am_At M R O (am_Q M O z.2 (some (.int z.1))) nL pc lv [.int v] σ :=
  r_zretz X hret (am_bool (of_decide_eq_true (gd_of h).1)) hdg (gd_of h).2
theorem r_lretz (X : am_X M O cc own nL ret) {v : Int64} {z : Int64 × Sg} (hret : ret = some .long) (hdg : decode cc pc = .ok (.lreturn, 1)) (h : some (v, σ) = some z) : am_At M R O (am_Q M O z.2 (some (.long z.1))) nL pc lv [.long v] σ := by
  obtain rfl := Option.some.inj h
  exact r_lret X hret rfl rfl hdg
theorem r_vretz (X : am_X M O cc own nL ret) {z : Unit × Sg} (hret : ret = none) (hdg : decode cc pc = .ok (.return_, 1)) (h : some ((), σ) = some z) : am_At M R O (am_Q M O z.2 none) nL pc lv [] σ := by
  obtain rfl := Option.some.inj h
  exact r_vret X hret rfl rfl hdg
theorem r_aretz (X : am_X M O cc own nL ret) {v : Nat} {z : Nat × Sg} {C : String} (hret : ret = some (.object C)) (hdg : decode cc pc = .ok (.areturn, 1)) (h : some (v, σ) = some z) : am_At M R O (am_Q M O z.2 (some (.ref (O.2.2.1 z.1)))) nL pc lv [.ref (O.2.2.1 v)] σ := by
  obtain rfl := Option.some.inj h
  exact r_aret X hret rfl rfl hdg
theorem r_lv {Q : State → Prop} {st : List Value} {lv' : List (Nat × Value)} (e : lv = lv') (k : am_At M R O Q nL pc lv' st σ) : am_At M R O Q nL pc lv st σ := e ▸ k
end AMZ
def am_rec {γ : Type} (b : γ) (F : γ → γ) : Nat → γ
  | 0 => b
  | n + 1 => F (am_rec b F n)
end
section
theorem zz_last : 1 + 1 = 2 := rfl
end
