-- ===== PART A: goes FIRST, ahead of the names: the tables' words, and 'selects' of the private methods out of them =====
/-- a private method of a class that the tables say can be made, by its rows of tables_1 -/
def lw_okq (q : MethodName × Nat) : Prop := (q.1.cls ≠ "java/lang/invoke/MethodHandle" ∧ q.1.cls ≠ "java/lang/invoke/VarHandle") ∧ Cond.instantiable q.1.cls q.2 ∈ tables_1 ∧ Cond.privateMethod q.1 ∈ tables_1 ∧ Cond.instanceMethod q.1 ∈ tables_1
theorem lw_p0 : lw_okq (⟨"RosterLanes$Pattern", "readChoice", "(I)I"⟩, 7) := ⟨⟨by decide +kernel, by decide +kernel⟩, List.mem_of_getElem? (i := 340) (by decide +kernel), List.mem_of_getElem? (i := 414) (by decide +kernel), List.mem_of_getElem? (i := 415) (by decide +kernel)⟩
theorem lw_p1 : lw_okq (⟨"RosterLanes$Pattern", "readChain", "(I)I"⟩, 7) := ⟨⟨by decide +kernel, by decide +kernel⟩, List.mem_of_getElem? (i := 340) (by decide +kernel), List.mem_of_getElem? (i := 418) (by decide +kernel), List.mem_of_getElem? (i := 419) (by decide +kernel)⟩
theorem lw_p2 : lw_okq (⟨"RosterLanes$Pattern", "readRepeat", "(I)I"⟩, 7) := ⟨⟨by decide +kernel, by decide +kernel⟩, List.mem_of_getElem? (i := 340) (by decide +kernel), List.mem_of_getElem? (i := 422) (by decide +kernel), List.mem_of_getElem? (i := 423) (by decide +kernel)⟩
theorem lw_p3 : lw_okq (⟨"RosterLanes$Pattern", "readAtom", "(I)I"⟩, 7) := ⟨⟨by decide +kernel, by decide +kernel⟩, List.mem_of_getElem? (i := 340) (by decide +kernel), List.mem_of_getElem? (i := 426) (by decide +kernel), List.mem_of_getElem? (i := 427) (by decide +kernel)⟩
theorem lw_p4 : lw_okq (⟨"RosterLanes$Pattern", "signHere", "()I"⟩, 7) := ⟨⟨by decide +kernel, by decide +kernel⟩, List.mem_of_getElem? (i := 340) (by decide +kernel), List.mem_of_getElem? (i := 430) (by decide +kernel), List.mem_of_getElem? (i := 431) (by decide +kernel)⟩
theorem lw_p5 : lw_okq (⟨"RosterLanes$Pattern", "readBracket", "(I)I"⟩, 7) := ⟨⟨by decide +kernel, by decide +kernel⟩, List.mem_of_getElem? (i := 340) (by decide +kernel), List.mem_of_getElem? (i := 438) (by decide +kernel), List.mem_of_getElem? (i := 439) (by decide +kernel)⟩
theorem lw_p6 : lw_okq (⟨"RosterLanes$Pattern", "hasLetterLeft", "()Z"⟩, 7) := ⟨⟨by decide +kernel, by decide +kernel⟩, List.mem_of_getElem? (i := 340) (by decide +kernel), List.mem_of_getElem? (i := 442) (by decide +kernel), List.mem_of_getElem? (i := 443) (by decide +kernel)⟩
theorem lw_p7 : lw_okq (⟨"RosterLanes$Pattern", "link", "(II)V"⟩, 7) := ⟨⟨by decide +kernel, by decide +kernel⟩, List.mem_of_getElem? (i := 340) (by decide +kernel), List.mem_of_getElem? (i := 456) (by decide +kernel), List.mem_of_getElem? (i := 457) (by decide +kernel)⟩
theorem lw_p8 : lw_okq (⟨"RosterLanes$Pattern", "oneBehind", "(II)I"⟩, 7) := ⟨⟨by decide +kernel, by decide +kernel⟩, List.mem_of_getElem? (i := 340) (by decide +kernel), List.mem_of_getElem? (i := 466) (by decide +kernel), List.mem_of_getElem? (i := 467) (by decide +kernel)⟩
theorem lw_p9 : lw_okq (⟨"RosterLanes", "addRule", "(I)I"⟩, 11) := ⟨⟨by decide +kernel, by decide +kernel⟩, List.mem_of_getElem? (i := 18) (by decide +kernel), List.mem_of_getElem? (i := 473) (by decide +kernel), List.mem_of_getElem? (i := 474) (by decide +kernel)⟩
theorem lw_p10 : lw_okq (⟨"RosterLanes$Pattern", "settle", "(II)I"⟩, 7) := ⟨⟨by decide +kernel, by decide +kernel⟩, List.mem_of_getElem? (i := 340) (by decide +kernel), List.mem_of_getElem? (i := 485) (by decide +kernel), List.mem_of_getElem? (i := 486) (by decide +kernel)⟩
theorem lw_p11 : lw_okq (⟨"RosterLanes$Maker", "startWith", "(I)V"⟩, 12) := ⟨⟨by decide +kernel, by decide +kernel⟩, List.mem_of_getElem? (i := 334) (by decide +kernel), List.mem_of_getElem? (i := 493) (by decide +kernel), List.mem_of_getElem? (i := 494) (by decide +kernel)⟩
theorem lw_p12 : lw_okq (⟨"RosterLanes$Maker", "placeOf", "(II)I"⟩, 12) := ⟨⟨by decide +kernel, by decide +kernel⟩, List.mem_of_getElem? (i := 334) (by decide +kernel), List.mem_of_getElem? (i := 498) (by decide +kernel), List.mem_of_getElem? (i := 499) (by decide +kernel)⟩
theorem lw_p13 : lw_okq (⟨"RosterLanes$Maker", "addPlace", "(III)I"⟩, 12) := ⟨⟨by decide +kernel, by decide +kernel⟩, List.mem_of_getElem? (i := 334) (by decide +kernel), List.mem_of_getElem? (i := 503) (by decide +kernel), List.mem_of_getElem? (i := 504) (by decide +kernel)⟩
theorem lw_p14 : lw_okq (⟨"RosterLanes$Maker", "leastMachine", "()LRosterLanes$Machine;"⟩, 12) := ⟨⟨by decide +kernel, by decide +kernel⟩, List.mem_of_getElem? (i := 334) (by decide +kernel), List.mem_of_getElem? (i := 516) (by decide +kernel), List.mem_of_getElem? (i := 517) (by decide +kernel)⟩
theorem lw_p15 : lw_okq (⟨"RosterLanes$Maker", "refine", "()Z"⟩, 12) := ⟨⟨by decide +kernel, by decide +kernel⟩, List.mem_of_getElem? (i := 334) (by decide +kernel), List.mem_of_getElem? (i := 520) (by decide +kernel), List.mem_of_getElem? (i := 521) (by decide +kernel)⟩
def lw_privs_1 : List (MethodName × Nat) := [(⟨"RosterLanes$Pattern", "readChoice", "(I)I"⟩, 7), (⟨"RosterLanes$Pattern", "readChain", "(I)I"⟩, 7), (⟨"RosterLanes$Pattern", "readRepeat", "(I)I"⟩, 7), (⟨"RosterLanes$Pattern", "readAtom", "(I)I"⟩, 7), (⟨"RosterLanes$Pattern", "signHere", "()I"⟩, 7), (⟨"RosterLanes$Pattern", "readBracket", "(I)I"⟩, 7), (⟨"RosterLanes$Pattern", "hasLetterLeft", "()Z"⟩, 7), (⟨"RosterLanes$Pattern", "link", "(II)V"⟩, 7), (⟨"RosterLanes$Pattern", "oneBehind", "(II)I"⟩, 7), (⟨"RosterLanes", "addRule", "(I)I"⟩, 11), (⟨"RosterLanes$Pattern", "settle", "(II)I"⟩, 7), (⟨"RosterLanes$Maker", "startWith", "(I)V"⟩, 12), (⟨"RosterLanes$Maker", "placeOf", "(II)I"⟩, 12), (⟨"RosterLanes$Maker", "addPlace", "(III)I"⟩, 12), (⟨"RosterLanes$Maker", "leastMachine", "()LRosterLanes$Machine;"⟩, 12), (⟨"RosterLanes$Maker", "refine", "()Z"⟩, 12)]
theorem lw_r1 : ∀ q ∈ lw_privs_1, lw_okq q := List.forall_mem_cons.mpr ⟨lw_p0, List.forall_mem_cons.mpr ⟨lw_p1, List.forall_mem_cons.mpr ⟨lw_p2, List.forall_mem_cons.mpr ⟨lw_p3, List.forall_mem_cons.mpr ⟨lw_p4, List.forall_mem_cons.mpr ⟨lw_p5, List.forall_mem_cons.mpr ⟨lw_p6, List.forall_mem_cons.mpr ⟨lw_p7, List.forall_mem_cons.mpr ⟨lw_p8, List.forall_mem_cons.mpr ⟨lw_p9, List.forall_mem_cons.mpr ⟨lw_p10, List.forall_mem_cons.mpr ⟨lw_p11, List.forall_mem_cons.mpr ⟨lw_p12, List.forall_mem_cons.mpr ⟨lw_p13, List.forall_mem_cons.mpr ⟨lw_p14, List.forall_mem_cons.mpr ⟨lw_p15, fun _ h => absurd h List.not_mem_nil⟩⟩⟩⟩⟩⟩⟩⟩⟩⟩⟩⟩⟩⟩⟩⟩
theorem lw_p16 : lw_okq (⟨"RosterLanes$Maker", "classOf", "(I)I"⟩, 12) := ⟨⟨by decide +kernel, by decide +kernel⟩, List.mem_of_getElem? (i := 334) (by decide +kernel), List.mem_of_getElem? (i := 524) (by decide +kernel), List.mem_of_getElem? (i := 525) (by decide +kernel)⟩
theorem lw_p17 : lw_okq (⟨"RosterLanes$Maker", "addSign", "(II)I"⟩, 12) := ⟨⟨by decide +kernel, by decide +kernel⟩, List.mem_of_getElem? (i := 334) (by decide +kernel), List.mem_of_getElem? (i := 528) (by decide +kernel), List.mem_of_getElem? (i := 529) (by decide +kernel)⟩
theorem lw_p18 : lw_okq (⟨"RosterLanes$Maker", "machineOfClasses", "()LRosterLanes$Machine;"⟩, 12) := ⟨⟨by decide +kernel, by decide +kernel⟩, List.mem_of_getElem? (i := 334) (by decide +kernel), List.mem_of_getElem? (i := 532) (by decide +kernel), List.mem_of_getElem? (i := 533) (by decide +kernel)⟩
theorem lw_p19 : lw_okq (⟨"RosterLanes$Maker", "allAccept", "(II)Z"⟩, 12) := ⟨⟨by decide +kernel, by decide +kernel⟩, List.mem_of_getElem? (i := 334) (by decide +kernel), List.mem_of_getElem? (i := 541) (by decide +kernel), List.mem_of_getElem? (i := 542) (by decide +kernel)⟩
theorem lw_p20 : lw_okq (⟨"RosterLanes$Maker", "allAfter", "(III)I"⟩, 12) := ⟨⟨by decide +kernel, by decide +kernel⟩, List.mem_of_getElem? (i := 334) (by decide +kernel), List.mem_of_getElem? (i := 549) (by decide +kernel), List.mem_of_getElem? (i := 550) (by decide +kernel)⟩
theorem lw_p21 : lw_okq (⟨"RosterLanes", "readWord", "(LRosterLanes$Machine;)I"⟩, 11) := ⟨⟨by decide +kernel, by decide +kernel⟩, List.mem_of_getElem? (i := 18) (by decide +kernel), List.mem_of_getElem? (i := 674) (by decide +kernel), List.mem_of_getElem? (i := 675) (by decide +kernel)⟩
theorem lw_p22 : lw_okq (⟨"RosterLanes$BestRow", "weighEnds", "(LRosterLanes$Plan;)V"⟩, 4) := ⟨⟨by decide +kernel, by decide +kernel⟩, List.mem_of_getElem? (i := 146) (by decide +kernel), List.mem_of_getElem? (i := 731) (by decide +kernel), List.mem_of_getElem? (i := 732) (by decide +kernel)⟩
theorem lw_p23 : lw_okq (⟨"RosterLanes$BestRow", "weighDay", "(LRosterLanes$Plan;II)V"⟩, 4) := ⟨⟨by decide +kernel, by decide +kernel⟩, List.mem_of_getElem? (i := 146) (by decide +kernel), List.mem_of_getElem? (i := 740) (by decide +kernel), List.mem_of_getElem? (i := 741) (by decide +kernel)⟩
theorem lw_p24 : lw_okq (⟨"RosterLanes$BestRow", "weighOnward", "(LRosterLanes$Plan;III)V"⟩, 4) := ⟨⟨by decide +kernel, by decide +kernel⟩, List.mem_of_getElem? (i := 146) (by decide +kernel), List.mem_of_getElem? (i := 744) (by decide +kernel), List.mem_of_getElem? (i := 745) (by decide +kernel)⟩
theorem lw_p25 : lw_okq (⟨"RosterLanes$BestRow", "leastOnward", "(LRosterLanes$Plan;I)I"⟩, 4) := ⟨⟨by decide +kernel, by decide +kernel⟩, List.mem_of_getElem? (i := 146) (by decide +kernel), List.mem_of_getElem? (i := 750) (by decide +kernel), List.mem_of_getElem? (i := 751) (by decide +kernel)⟩
theorem lw_p26 : lw_okq (⟨"RosterLanes$BestRow", "walk", "(LRosterLanes$Plan;I)V"⟩, 4) := ⟨⟨by decide +kernel, by decide +kernel⟩, List.mem_of_getElem? (i := 146) (by decide +kernel), List.mem_of_getElem? (i := 755) (by decide +kernel), List.mem_of_getElem? (i := 756) (by decide +kernel)⟩
theorem lw_p27 : lw_okq (⟨"RosterLanes$Mends", "countSpare", "(LRosterLanes$Plan;)V"⟩, 6) := ⟨⟨by decide +kernel, by decide +kernel⟩, List.mem_of_getElem? (i := 167) (by decide +kernel), List.mem_of_getElem? (i := 806) (by decide +kernel), List.mem_of_getElem? (i := 807) (by decide +kernel)⟩
theorem lw_p28 : lw_okq (⟨"RosterLanes$Mends", "lookAtDay", "(LRosterLanes$Plan;II)V"⟩, 6) := ⟨⟨by decide +kernel, by decide +kernel⟩, List.mem_of_getElem? (i := 167) (by decide +kernel), List.mem_of_getElem? (i := 812) (by decide +kernel), List.mem_of_getElem? (i := 813) (by decide +kernel)⟩
theorem lw_p29 : lw_okq (⟨"RosterLanes$Mends", "lookAtRow", "(LRosterLanes$Plan;II)V"⟩, 6) := ⟨⟨by decide +kernel, by decide +kernel⟩, List.mem_of_getElem? (i := 167) (by decide +kernel), List.mem_of_getElem? (i := 817) (by decide +kernel), List.mem_of_getElem? (i := 818) (by decide +kernel)⟩
theorem lw_p30 : lw_okq (⟨"RosterLanes", "isSwap", "(IIII)Z"⟩, 11) := ⟨⟨by decide +kernel, by decide +kernel⟩, List.mem_of_getElem? (i := 18) (by decide +kernel), List.mem_of_getElem? (i := 831) (by decide +kernel), List.mem_of_getElem? (i := 832) (by decide +kernel)⟩
theorem lw_p31 : lw_okq (⟨"RosterLanes$Exchanges", "weighPair", "(LRosterLanes$Plan;II)V"⟩, 7) := ⟨⟨by decide +kernel, by decide +kernel⟩, List.mem_of_getElem? (i := 195) (by decide +kernel), List.mem_of_getElem? (i := 874) (by decide +kernel), List.mem_of_getElem? (i := 875) (by decide +kernel)⟩
def lw_privs_2 : List (MethodName × Nat) := [(⟨"RosterLanes$Maker", "classOf", "(I)I"⟩, 12), (⟨"RosterLanes$Maker", "addSign", "(II)I"⟩, 12), (⟨"RosterLanes$Maker", "machineOfClasses", "()LRosterLanes$Machine;"⟩, 12), (⟨"RosterLanes$Maker", "allAccept", "(II)Z"⟩, 12), (⟨"RosterLanes$Maker", "allAfter", "(III)I"⟩, 12), (⟨"RosterLanes", "readWord", "(LRosterLanes$Machine;)I"⟩, 11), (⟨"RosterLanes$BestRow", "weighEnds", "(LRosterLanes$Plan;)V"⟩, 4), (⟨"RosterLanes$BestRow", "weighDay", "(LRosterLanes$Plan;II)V"⟩, 4), (⟨"RosterLanes$BestRow", "weighOnward", "(LRosterLanes$Plan;III)V"⟩, 4), (⟨"RosterLanes$BestRow", "leastOnward", "(LRosterLanes$Plan;I)I"⟩, 4), (⟨"RosterLanes$BestRow", "walk", "(LRosterLanes$Plan;I)V"⟩, 4), (⟨"RosterLanes$Mends", "countSpare", "(LRosterLanes$Plan;)V"⟩, 6), (⟨"RosterLanes$Mends", "lookAtDay", "(LRosterLanes$Plan;II)V"⟩, 6), (⟨"RosterLanes$Mends", "lookAtRow", "(LRosterLanes$Plan;II)V"⟩, 6), (⟨"RosterLanes", "isSwap", "(IIII)Z"⟩, 11), (⟨"RosterLanes$Exchanges", "weighPair", "(LRosterLanes$Plan;II)V"⟩, 7)]
theorem lw_r2 : ∀ q ∈ lw_privs_2, lw_okq q := List.forall_mem_cons.mpr ⟨lw_p16, List.forall_mem_cons.mpr ⟨lw_p17, List.forall_mem_cons.mpr ⟨lw_p18, List.forall_mem_cons.mpr ⟨lw_p19, List.forall_mem_cons.mpr ⟨lw_p20, List.forall_mem_cons.mpr ⟨lw_p21, List.forall_mem_cons.mpr ⟨lw_p22, List.forall_mem_cons.mpr ⟨lw_p23, List.forall_mem_cons.mpr ⟨lw_p24, List.forall_mem_cons.mpr ⟨lw_p25, List.forall_mem_cons.mpr ⟨lw_p26, List.forall_mem_cons.mpr ⟨lw_p27, List.forall_mem_cons.mpr ⟨lw_p28, List.forall_mem_cons.mpr ⟨lw_p29, List.forall_mem_cons.mpr ⟨lw_p30, List.forall_mem_cons.mpr ⟨lw_p31, fun _ h => absurd h List.not_mem_nil⟩⟩⟩⟩⟩⟩⟩⟩⟩⟩⟩⟩⟩⟩⟩⟩
theorem lw_p32 : lw_okq (⟨"RosterLanes$Exchanges", "lookFrom", "(LRosterLanes$Plan;III)V"⟩, 7) := ⟨⟨by decide +kernel, by decide +kernel⟩, List.mem_of_getElem? (i := 195) (by decide +kernel), List.mem_of_getElem? (i := 878) (by decide +kernel), List.mem_of_getElem? (i := 879) (by decide +kernel)⟩
theorem lw_p33 : lw_okq (⟨"RosterLanes", "dayLost", "(II)I"⟩, 11) := ⟨⟨by decide +kernel, by decide +kernel⟩, List.mem_of_getElem? (i := 18) (by decide +kernel), List.mem_of_getElem? (i := 915) (by decide +kernel), List.mem_of_getElem? (i := 916) (by decide +kernel)⟩
theorem lw_p34 : lw_okq (⟨"RosterLanes", "spellPattern", "(LRosterLanes$Rule;)I"⟩, 11) := ⟨⟨by decide +kernel, by decide +kernel⟩, List.mem_of_getElem? (i := 18) (by decide +kernel), List.mem_of_getElem? (i := 931) (by decide +kernel), List.mem_of_getElem? (i := 932) (by decide +kernel)⟩
theorem lw_p35 : lw_okq (⟨"RosterLanes", "spellRow", "(I)I"⟩, 11) := ⟨⟨by decide +kernel, by decide +kernel⟩, List.mem_of_getElem? (i := 18) (by decide +kernel), List.mem_of_getElem? (i := 935) (by decide +kernel), List.mem_of_getElem? (i := 936) (by decide +kernel)⟩
theorem lw_p36 : lw_okq (⟨"RosterLanesModel", "builds", "()V"⟩, 50) := ⟨⟨by decide +kernel, by decide +kernel⟩, List.mem_of_getElem? (i := 989) (by decide +kernel), List.mem_of_getElem? (i := 995) (by decide +kernel), List.mem_of_getElem? (i := 996) (by decide +kernel)⟩
theorem lw_p37 : lw_okq (⟨"RosterLanesModel", "reads", "()V"⟩, 50) := ⟨⟨by decide +kernel, by decide +kernel⟩, List.mem_of_getElem? (i := 989) (by decide +kernel), List.mem_of_getElem? (i := 999) (by decide +kernel), List.mem_of_getElem? (i := 1000) (by decide +kernel)⟩
theorem lw_p38 : lw_okq (⟨"RosterLanesModel", "either", "()I"⟩, 50) := ⟨⟨by decide +kernel, by decide +kernel⟩, List.mem_of_getElem? (i := 989) (by decide +kernel), List.mem_of_getElem? (i := 1003) (by decide +kernel), List.mem_of_getElem? (i := 1004) (by decide +kernel)⟩
theorem lw_p39 : lw_okq (⟨"RosterLanesModel", "row", "()I"⟩, 50) := ⟨⟨by decide +kernel, by decide +kernel⟩, List.mem_of_getElem? (i := 989) (by decide +kernel), List.mem_of_getElem? (i := 1007) (by decide +kernel), List.mem_of_getElem? (i := 1008) (by decide +kernel)⟩
theorem lw_p40 : lw_okq (⟨"RosterLanesModel", "piece", "()I"⟩, 50) := ⟨⟨by decide +kernel, by decide +kernel⟩, List.mem_of_getElem? (i := 989) (by decide +kernel), List.mem_of_getElem? (i := 1011) (by decide +kernel), List.mem_of_getElem? (i := 1012) (by decide +kernel)⟩
theorem lw_p41 : lw_okq (⟨"RosterLanesModel", "atom", "()I"⟩, 50) := ⟨⟨by decide +kernel, by decide +kernel⟩, List.mem_of_getElem? (i := 989) (by decide +kernel), List.mem_of_getElem? (i := 1015) (by decide +kernel), List.mem_of_getElem? (i := 1016) (by decide +kernel)⟩
theorem lw_p42 : lw_okq (⟨"RosterLanesModel", "mayBegin", "()Z"⟩, 50) := ⟨⟨by decide +kernel, by decide +kernel⟩, List.mem_of_getElem? (i := 989) (by decide +kernel), List.mem_of_getElem? (i := 1019) (by decide +kernel), List.mem_of_getElem? (i := 1020) (by decide +kernel)⟩
theorem lw_p43 : lw_okq (⟨"RosterLanesModel", "here", "()I"⟩, 50) := ⟨⟨by decide +kernel, by decide +kernel⟩, List.mem_of_getElem? (i := 989) (by decide +kernel), List.mem_of_getElem? (i := 1023) (by decide +kernel), List.mem_of_getElem? (i := 1024) (by decide +kernel)⟩
theorem lw_p44 : lw_okq (⟨"RosterLanesModel", "part", "(III)I"⟩, 50) := ⟨⟨by decide +kernel, by decide +kernel⟩, List.mem_of_getElem? (i := 989) (by decide +kernel), List.mem_of_getElem? (i := 1030) (by decide +kernel), List.mem_of_getElem? (i := 1031) (by decide +kernel)⟩
theorem lw_p45 : lw_okq (⟨"RosterLanesModel", "links", "(II)V"⟩, 50) := ⟨⟨by decide +kernel, by decide +kernel⟩, List.mem_of_getElem? (i := 989) (by decide +kernel), List.mem_of_getElem? (i := 1034) (by decide +kernel), List.mem_of_getElem? (i := 1035) (by decide +kernel)⟩
theorem lw_p46 : lw_okq (⟨"RosterLanesModel", "laysRaw", "(I)V"⟩, 50) := ⟨⟨by decide +kernel, by decide +kernel⟩, List.mem_of_getElem? (i := 989) (by decide +kernel), List.mem_of_getElem? (i := 1038) (by decide +kernel), List.mem_of_getElem? (i := 1039) (by decide +kernel)⟩
theorem lw_p47 : lw_okq (⟨"RosterLanesModel", "rawOf", "(II)I"⟩, 50) := ⟨⟨by decide +kernel, by decide +kernel⟩, List.mem_of_getElem? (i := 989) (by decide +kernel), List.mem_of_getElem? (i := 1042) (by decide +kernel), List.mem_of_getElem? (i := 1043) (by decide +kernel)⟩
def lw_privs_3 : List (MethodName × Nat) := [(⟨"RosterLanes$Exchanges", "lookFrom", "(LRosterLanes$Plan;III)V"⟩, 7), (⟨"RosterLanes", "dayLost", "(II)I"⟩, 11), (⟨"RosterLanes", "spellPattern", "(LRosterLanes$Rule;)I"⟩, 11), (⟨"RosterLanes", "spellRow", "(I)I"⟩, 11), (⟨"RosterLanesModel", "builds", "()V"⟩, 50), (⟨"RosterLanesModel", "reads", "()V"⟩, 50), (⟨"RosterLanesModel", "either", "()I"⟩, 50), (⟨"RosterLanesModel", "row", "()I"⟩, 50), (⟨"RosterLanesModel", "piece", "()I"⟩, 50), (⟨"RosterLanesModel", "atom", "()I"⟩, 50), (⟨"RosterLanesModel", "mayBegin", "()Z"⟩, 50), (⟨"RosterLanesModel", "here", "()I"⟩, 50), (⟨"RosterLanesModel", "part", "(III)I"⟩, 50), (⟨"RosterLanesModel", "links", "(II)V"⟩, 50), (⟨"RosterLanesModel", "laysRaw", "(I)V"⟩, 50), (⟨"RosterLanesModel", "rawOf", "(II)I"⟩, 50)]
theorem lw_r3 : ∀ q ∈ lw_privs_3, lw_okq q := List.forall_mem_cons.mpr ⟨lw_p32, List.forall_mem_cons.mpr ⟨lw_p33, List.forall_mem_cons.mpr ⟨lw_p34, List.forall_mem_cons.mpr ⟨lw_p35, List.forall_mem_cons.mpr ⟨lw_p36, List.forall_mem_cons.mpr ⟨lw_p37, List.forall_mem_cons.mpr ⟨lw_p38, List.forall_mem_cons.mpr ⟨lw_p39, List.forall_mem_cons.mpr ⟨lw_p40, List.forall_mem_cons.mpr ⟨lw_p41, List.forall_mem_cons.mpr ⟨lw_p42, List.forall_mem_cons.mpr ⟨lw_p43, List.forall_mem_cons.mpr ⟨lw_p44, List.forall_mem_cons.mpr ⟨lw_p45, List.forall_mem_cons.mpr ⟨lw_p46, List.forall_mem_cons.mpr ⟨lw_p47, fun _ h => absurd h List.not_mem_nil⟩⟩⟩⟩⟩⟩⟩⟩⟩⟩⟩⟩⟩⟩⟩⟩
theorem lw_p48 : lw_okq (⟨"RosterLanesModel", "isGood", "(II)Z"⟩, 50) := ⟨⟨by decide +kernel, by decide +kernel⟩, List.mem_of_getElem? (i := 989) (by decide +kernel), List.mem_of_getElem? (i := 1046) (by decide +kernel), List.mem_of_getElem? (i := 1047) (by decide +kernel)⟩
theorem lw_p49 : lw_okq (⟨"RosterLanesModel", "stepped", "(III)I"⟩, 50) := ⟨⟨by decide +kernel, by decide +kernel⟩, List.mem_of_getElem? (i := 989) (by decide +kernel), List.mem_of_getElem? (i := 1050) (by decide +kernel), List.mem_of_getElem? (i := 1051) (by decide +kernel)⟩
theorem lw_p50 : lw_okq (⟨"RosterLanesModel", "least", "(I)Z"⟩, 50) := ⟨⟨by decide +kernel, by decide +kernel⟩, List.mem_of_getElem? (i := 989) (by decide +kernel), List.mem_of_getElem? (i := 1054) (by decide +kernel), List.mem_of_getElem? (i := 1055) (by decide +kernel)⟩
theorem lw_p51 : lw_okq (⟨"RosterLanesModel", "groups", "()I"⟩, 50) := ⟨⟨by decide +kernel, by decide +kernel⟩, List.mem_of_getElem? (i := 989) (by decide +kernel), List.mem_of_getElem? (i := 1058) (by decide +kernel), List.mem_of_getElem? (i := 1059) (by decide +kernel)⟩
theorem lw_p52 : lw_okq (⟨"RosterLanesModel", "isAlike", "(II)Z"⟩, 50) := ⟨⟨by decide +kernel, by decide +kernel⟩, List.mem_of_getElem? (i := 989) (by decide +kernel), List.mem_of_getElem? (i := 1062) (by decide +kernel), List.mem_of_getElem? (i := 1063) (by decide +kernel)⟩
theorem lw_p53 : lw_okq (⟨"RosterLanesModel", "numbers", "(I)V"⟩, 50) := ⟨⟨by decide +kernel, by decide +kernel⟩, List.mem_of_getElem? (i := 989) (by decide +kernel), List.mem_of_getElem? (i := 1066) (by decide +kernel), List.mem_of_getElem? (i := 1067) (by decide +kernel)⟩
theorem lw_p54 : lw_okq (⟨"RosterLanesModel", "joins", "()Z"⟩, 50) := ⟨⟨by decide +kernel, by decide +kernel⟩, List.mem_of_getElem? (i := 989) (by decide +kernel), List.mem_of_getElem? (i := 1070) (by decide +kernel), List.mem_of_getElem? (i := 1071) (by decide +kernel)⟩
theorem lw_p55 : lw_okq (⟨"RosterLanesModel", "spot", "()I"⟩, 50) := ⟨⟨by decide +kernel, by decide +kernel⟩, List.mem_of_getElem? (i := 989) (by decide +kernel), List.mem_of_getElem? (i := 1074) (by decide +kernel), List.mem_of_getElem? (i := 1075) (by decide +kernel)⟩
theorem lw_p56 : lw_okq (⟨"RosterLanesModel", "isSpot", "(I)Z"⟩, 50) := ⟨⟨by decide +kernel, by decide +kernel⟩, List.mem_of_getElem? (i := 989) (by decide +kernel), List.mem_of_getElem? (i := 1078) (by decide +kernel), List.mem_of_getElem? (i := 1079) (by decide +kernel)⟩
theorem lw_p57 : lw_okq (⟨"RosterLanesModel", "nextIn", "(III)I"⟩, 50) := ⟨⟨by decide +kernel, by decide +kernel⟩, List.mem_of_getElem? (i := 989) (by decide +kernel), List.mem_of_getElem? (i := 1082) (by decide +kernel), List.mem_of_getElem? (i := 1083) (by decide +kernel)⟩
theorem lw_p58 : lw_okq (⟨"RosterLanesModel", "becomes", "(II)I"⟩, 50) := ⟨⟨by decide +kernel, by decide +kernel⟩, List.mem_of_getElem? (i := 989) (by decide +kernel), List.mem_of_getElem? (i := 1246) (by decide +kernel), List.mem_of_getElem? (i := 1247) (by decide +kernel)⟩
theorem lw_p59 : lw_okq (⟨"RosterLanesModel", "isOne", "(I)Z"⟩, 50) := ⟨⟨by decide +kernel, by decide +kernel⟩, List.mem_of_getElem? (i := 989) (by decide +kernel), List.mem_of_getElem? (i := 1254) (by decide +kernel), List.mem_of_getElem? (i := 1255) (by decide +kernel)⟩
theorem lw_p60 : lw_okq (⟨"RosterLanesModel", "isDay", "(I)Z"⟩, 50) := ⟨⟨by decide +kernel, by decide +kernel⟩, List.mem_of_getElem? (i := 989) (by decide +kernel), List.mem_of_getElem? (i := 1258) (by decide +kernel), List.mem_of_getElem? (i := 1259) (by decide +kernel)⟩
theorem lw_p61 : lw_okq (⟨"RosterLanesModel", "isRule", "(I)Z"⟩, 50) := ⟨⟨by decide +kernel, by decide +kernel⟩, List.mem_of_getElem? (i := 989) (by decide +kernel), List.mem_of_getElem? (i := 1313) (by decide +kernel), List.mem_of_getElem? (i := 1314) (by decide +kernel)⟩
theorem lw_p62 : lw_okq (⟨"RosterLanesModel", "runs", "(I)I"⟩, 50) := ⟨⟨by decide +kernel, by decide +kernel⟩, List.mem_of_getElem? (i := 989) (by decide +kernel), List.mem_of_getElem? (i := 1326) (by decide +kernel), List.mem_of_getElem? (i := 1327) (by decide +kernel)⟩
theorem lw_p63 : lw_okq (⟨"RosterLanesModel", "penaltyOf", "(I)I"⟩, 50) := ⟨⟨by decide +kernel, by decide +kernel⟩, List.mem_of_getElem? (i := 989) (by decide +kernel), List.mem_of_getElem? (i := 1338) (by decide +kernel), List.mem_of_getElem? (i := 1339) (by decide +kernel)⟩
def lw_privs_4 : List (MethodName × Nat) := [(⟨"RosterLanesModel", "isGood", "(II)Z"⟩, 50), (⟨"RosterLanesModel", "stepped", "(III)I"⟩, 50), (⟨"RosterLanesModel", "least", "(I)Z"⟩, 50), (⟨"RosterLanesModel", "groups", "()I"⟩, 50), (⟨"RosterLanesModel", "isAlike", "(II)Z"⟩, 50), (⟨"RosterLanesModel", "numbers", "(I)V"⟩, 50), (⟨"RosterLanesModel", "joins", "()Z"⟩, 50), (⟨"RosterLanesModel", "spot", "()I"⟩, 50), (⟨"RosterLanesModel", "isSpot", "(I)Z"⟩, 50), (⟨"RosterLanesModel", "nextIn", "(III)I"⟩, 50), (⟨"RosterLanesModel", "becomes", "(II)I"⟩, 50), (⟨"RosterLanesModel", "isOne", "(I)Z"⟩, 50), (⟨"RosterLanesModel", "isDay", "(I)Z"⟩, 50), (⟨"RosterLanesModel", "isRule", "(I)Z"⟩, 50), (⟨"RosterLanesModel", "runs", "(I)I"⟩, 50), (⟨"RosterLanesModel", "penaltyOf", "(I)I"⟩, 50)]
theorem lw_r4 : ∀ q ∈ lw_privs_4, lw_okq q := List.forall_mem_cons.mpr ⟨lw_p48, List.forall_mem_cons.mpr ⟨lw_p49, List.forall_mem_cons.mpr ⟨lw_p50, List.forall_mem_cons.mpr ⟨lw_p51, List.forall_mem_cons.mpr ⟨lw_p52, List.forall_mem_cons.mpr ⟨lw_p53, List.forall_mem_cons.mpr ⟨lw_p54, List.forall_mem_cons.mpr ⟨lw_p55, List.forall_mem_cons.mpr ⟨lw_p56, List.forall_mem_cons.mpr ⟨lw_p57, List.forall_mem_cons.mpr ⟨lw_p58, List.forall_mem_cons.mpr ⟨lw_p59, List.forall_mem_cons.mpr ⟨lw_p60, List.forall_mem_cons.mpr ⟨lw_p61, List.forall_mem_cons.mpr ⟨lw_p62, List.forall_mem_cons.mpr ⟨lw_p63, fun _ h => absurd h List.not_mem_nil⟩⟩⟩⟩⟩⟩⟩⟩⟩⟩⟩⟩⟩⟩⟩⟩
theorem lw_p64 : lw_okq (⟨"RosterLanesModel", "shiftOf", "(II)I"⟩, 50) := ⟨⟨by decide +kernel, by decide +kernel⟩, List.mem_of_getElem? (i := 989) (by decide +kernel), List.mem_of_getElem? (i := 1342) (by decide +kernel), List.mem_of_getElem? (i := 1343) (by decide +kernel)⟩
theorem lw_p65 : lw_okq (⟨"RosterLanesModel", "reckons", "()V"⟩, 50) := ⟨⟨by decide +kernel, by decide +kernel⟩, List.mem_of_getElem? (i := 989) (by decide +kernel), List.mem_of_getElem? (i := 1359) (by decide +kernel), List.mem_of_getElem? (i := 1360) (by decide +kernel)⟩
theorem lw_p66 : lw_okq (⟨"RosterLanesModel", "stateOf", "(II)I"⟩, 50) := ⟨⟨by decide +kernel, by decide +kernel⟩, List.mem_of_getElem? (i := 989) (by decide +kernel), List.mem_of_getElem? (i := 1363) (by decide +kernel), List.mem_of_getElem? (i := 1364) (by decide +kernel)⟩
theorem lw_p67 : lw_okq (⟨"RosterLanesModel", "waysBy", "(III)J"⟩, 50) := ⟨⟨by decide +kernel, by decide +kernel⟩, List.mem_of_getElem? (i := 989) (by decide +kernel), List.mem_of_getElem? (i := 1371) (by decide +kernel), List.mem_of_getElem? (i := 1372) (by decide +kernel)⟩
theorem lw_p68 : lw_okq (⟨"RosterLanesModel", "laysBest", "(I)I"⟩, 50) := ⟨⟨by decide +kernel, by decide +kernel⟩, List.mem_of_getElem? (i := 989) (by decide +kernel), List.mem_of_getElem? (i := 1391) (by decide +kernel), List.mem_of_getElem? (i := 1392) (by decide +kernel)⟩
theorem lw_p69 : lw_okq (⟨"RosterLanesModel", "leastOf", "(I)I"⟩, 50) := ⟨⟨by decide +kernel, by decide +kernel⟩, List.mem_of_getElem? (i := 989) (by decide +kernel), List.mem_of_getElem? (i := 1395) (by decide +kernel), List.mem_of_getElem? (i := 1396) (by decide +kernel)⟩
theorem lw_p70 : lw_okq (⟨"RosterLanesModel", "leastShift", "(IIII)I"⟩, 50) := ⟨⟨by decide +kernel, by decide +kernel⟩, List.mem_of_getElem? (i := 989) (by decide +kernel), List.mem_of_getElem? (i := 1403) (by decide +kernel), List.mem_of_getElem? (i := 1404) (by decide +kernel)⟩
theorem lw_p71 : lw_okq (⟨"RosterLanesModel", "costBy", "(IIIII)I"⟩, 50) := ⟨⟨by decide +kernel, by decide +kernel⟩, List.mem_of_getElem? (i := 989) (by decide +kernel), List.mem_of_getElem? (i := 1407) (by decide +kernel), List.mem_of_getElem? (i := 1408) (by decide +kernel)⟩
theorem lw_p72 : lw_okq (⟨"RosterLanesModel", "isAccepted", "(I)Z"⟩, 50) := ⟨⟨by decide +kernel, by decide +kernel⟩, List.mem_of_getElem? (i := 989) (by decide +kernel), List.mem_of_getElem? (i := 1419) (by decide +kernel), List.mem_of_getElem? (i := 1420) (by decide +kernel)⟩
theorem lw_p73 : lw_okq (⟨"RosterLanesModel", "shortInAll", "()I"⟩, 50) := ⟨⟨by decide +kernel, by decide +kernel⟩, List.mem_of_getElem? (i := 989) (by decide +kernel), List.mem_of_getElem? (i := 1427) (by decide +kernel), List.mem_of_getElem? (i := 1428) (by decide +kernel)⟩
theorem lw_p74 : lw_okq (⟨"RosterLanesModel", "shortOf", "(II)I"⟩, 50) := ⟨⟨by decide +kernel, by decide +kernel⟩, List.mem_of_getElem? (i := 989) (by decide +kernel), List.mem_of_getElem? (i := 1431) (by decide +kernel), List.mem_of_getElem? (i := 1432) (by decide +kernel)⟩
theorem lw_p75 : lw_okq (⟨"RosterLanesModel", "findMend", "()V"⟩, 50) := ⟨⟨by decide +kernel, by decide +kernel⟩, List.mem_of_getElem? (i := 989) (by decide +kernel), List.mem_of_getElem? (i := 1439) (by decide +kernel), List.mem_of_getElem? (i := 1440) (by decide +kernel)⟩
theorem lw_p76 : lw_okq (⟨"RosterLanesModel", "isSwap", "(IIII)Z"⟩, 50) := ⟨⟨by decide +kernel, by decide +kernel⟩, List.mem_of_getElem? (i := 989) (by decide +kernel), List.mem_of_getElem? (i := 1452) (by decide +kernel), List.mem_of_getElem? (i := 1453) (by decide +kernel)⟩
theorem lw_p77 : lw_okq (⟨"RosterLanesModel", "gains", "(IIII)I"⟩, 50) := ⟨⟨by decide +kernel, by decide +kernel⟩, List.mem_of_getElem? (i := 989) (by decide +kernel), List.mem_of_getElem? (i := 1456) (by decide +kernel), List.mem_of_getElem? (i := 1457) (by decide +kernel)⟩
theorem lw_p78 : lw_okq (⟨"RosterLanesModel", "changes", "(IIII)V"⟩, 50) := ⟨⟨by decide +kernel, by decide +kernel⟩, List.mem_of_getElem? (i := 989) (by decide +kernel), List.mem_of_getElem? (i := 1465) (by decide +kernel), List.mem_of_getElem? (i := 1466) (by decide +kernel)⟩
theorem lw_p79 : lw_okq (⟨"RosterLanesModel", "findSwap", "()Z"⟩, 50) := ⟨⟨by decide +kernel, by decide +kernel⟩, List.mem_of_getElem? (i := 989) (by decide +kernel), List.mem_of_getElem? (i := 1474) (by decide +kernel), List.mem_of_getElem? (i := 1475) (by decide +kernel)⟩
def lw_privs_5 : List (MethodName × Nat) := [(⟨"RosterLanesModel", "shiftOf", "(II)I"⟩, 50), (⟨"RosterLanesModel", "reckons", "()V"⟩, 50), (⟨"RosterLanesModel", "stateOf", "(II)I"⟩, 50), (⟨"RosterLanesModel", "waysBy", "(III)J"⟩, 50), (⟨"RosterLanesModel", "laysBest", "(I)I"⟩, 50), (⟨"RosterLanesModel", "leastOf", "(I)I"⟩, 50), (⟨"RosterLanesModel", "leastShift", "(IIII)I"⟩, 50), (⟨"RosterLanesModel", "costBy", "(IIIII)I"⟩, 50), (⟨"RosterLanesModel", "isAccepted", "(I)Z"⟩, 50), (⟨"RosterLanesModel", "shortInAll", "()I"⟩, 50), (⟨"RosterLanesModel", "shortOf", "(II)I"⟩, 50), (⟨"RosterLanesModel", "findMend", "()V"⟩, 50), (⟨"RosterLanesModel", "isSwap", "(IIII)Z"⟩, 50), (⟨"RosterLanesModel", "gains", "(IIII)I"⟩, 50), (⟨"RosterLanesModel", "changes", "(IIII)V"⟩, 50), (⟨"RosterLanesModel", "findSwap", "()Z"⟩, 50)]
theorem lw_r5 : ∀ q ∈ lw_privs_5, lw_okq q := List.forall_mem_cons.mpr ⟨lw_p64, List.forall_mem_cons.mpr ⟨lw_p65, List.forall_mem_cons.mpr ⟨lw_p66, List.forall_mem_cons.mpr ⟨lw_p67, List.forall_mem_cons.mpr ⟨lw_p68, List.forall_mem_cons.mpr ⟨lw_p69, List.forall_mem_cons.mpr ⟨lw_p70, List.forall_mem_cons.mpr ⟨lw_p71, List.forall_mem_cons.mpr ⟨lw_p72, List.forall_mem_cons.mpr ⟨lw_p73, List.forall_mem_cons.mpr ⟨lw_p74, List.forall_mem_cons.mpr ⟨lw_p75, List.forall_mem_cons.mpr ⟨lw_p76, List.forall_mem_cons.mpr ⟨lw_p77, List.forall_mem_cons.mpr ⟨lw_p78, List.forall_mem_cons.mpr ⟨lw_p79, fun _ h => absurd h List.not_mem_nil⟩⟩⟩⟩⟩⟩⟩⟩⟩⟩⟩⟩⟩⟩⟩⟩
theorem lw_p80 : lw_okq (⟨"RosterLanesModel", "isPlace", "(IJ)Z"⟩, 50) := ⟨⟨by decide +kernel, by decide +kernel⟩, List.mem_of_getElem? (i := 989) (by decide +kernel), List.mem_of_getElem? (i := 1498) (by decide +kernel), List.mem_of_getElem? (i := 1499) (by decide +kernel)⟩
theorem lw_p81 : lw_okq (⟨"RosterLanesModel", "allPenalties", "()I"⟩, 50) := ⟨⟨by decide +kernel, by decide +kernel⟩, List.mem_of_getElem? (i := 989) (by decide +kernel), List.mem_of_getElem? (i := 1529) (by decide +kernel), List.mem_of_getElem? (i := 1530) (by decide +kernel)⟩
def lw_privs_6 : List (MethodName × Nat) := [(⟨"RosterLanesModel", "isPlace", "(IJ)Z"⟩, 50), (⟨"RosterLanesModel", "allPenalties", "()I"⟩, 50)]
theorem lw_r6 : ∀ q ∈ lw_privs_6, lw_okq q := List.forall_mem_cons.mpr ⟨lw_p80, List.forall_mem_cons.mpr ⟨lw_p81, fun _ h => absurd h List.not_mem_nil⟩⟩
def lw_privs : List (MethodName × Nat) := lw_privs_1 ++ (lw_privs_2 ++ (lw_privs_3 ++ (lw_privs_4 ++ (lw_privs_5 ++ (lw_privs_6)))))
def lw_tbl : List Cond := k2_sels lw_privs ++ tables_1
theorem lw_privs_ok : ∀ q ∈ lw_privs, lw_okq q := by
  show ∀ q ∈ lw_privs_1 ++ (lw_privs_2 ++ (lw_privs_3 ++ (lw_privs_4 ++ (lw_privs_5 ++ (lw_privs_6))))), lw_okq q
  exact List.forall_mem_append.mpr ⟨lw_r1, List.forall_mem_append.mpr ⟨lw_r2, List.forall_mem_append.mpr ⟨lw_r3, List.forall_mem_append.mpr ⟨lw_r4, List.forall_mem_append.mpr ⟨lw_r5, lw_r6⟩⟩⟩⟩⟩
def RX0 : String := "RosterLanes$BestRow"
def TX0 : u_T := fun k => match k with
  | 0 => ("RosterLanes$BestRow", "shifts", "[I", true)
  | 1 => ("RosterLanes$BestRow", "cost", "I", false)
  | 2 => ("RosterLanes$BestRow", "costs", "[I", true)
  | _ => ("RosterLanes$BestRow", "onward", "[I", true)
def tyX0 : Nat → FieldType := fun k => match k with
  | 0 => .array .int
  | 1 => .int
  | 2 => .array .int
  | _ => .array .int
theorem nmX0 : ∀ a, a < 4 → ∀ b, b < 4 → a ≠ b → (TX0 a).2.1 ≠ (TX0 b).2.1 := by decide +kernel
theorem tyX0_ok : ∀ k, k < 4 → parseFieldDescriptor (TX0 k).2.2.1 = some (tyX0 k) := by decide +kernel
abbrev cX0_init : ByteArray := prog_2_method_1_code
def yX0_init : MethodName := ⟨RX0, "<init>", "()V"⟩
abbrev cX0_find : ByteArray := prog_2_method_2_code
def yX0_find : MethodName := ⟨RX0, "find", "(LRosterLanes$Plan;I)Z"⟩
abbrev cX0_costPlace : ByteArray := prog_2_method_3_code
def yX0_costPlace : MethodName := ⟨RX0, "costPlace", "(III)I"⟩
abbrev cX0_weighEnds : ByteArray := prog_2_method_4_code
def yX0_weighEnds : MethodName := ⟨RX0, "weighEnds", "(LRosterLanes$Plan;)V"⟩
abbrev cX0_weighDay : ByteArray := prog_2_method_5_code
def yX0_weighDay : MethodName := ⟨RX0, "weighDay", "(LRosterLanes$Plan;II)V"⟩
abbrev cX0_weighOnward : ByteArray := prog_2_method_6_code
def yX0_weighOnward : MethodName := ⟨RX0, "weighOnward", "(LRosterLanes$Plan;III)V"⟩
abbrev cX0_leastOnward : ByteArray := prog_2_method_7_code
def yX0_leastOnward : MethodName := ⟨RX0, "leastOnward", "(LRosterLanes$Plan;I)I"⟩
abbrev cX0_walk : ByteArray := prog_2_method_8_code
def yX0_walk : MethodName := ⟨RX0, "walk", "(LRosterLanes$Plan;I)V"⟩
def RX1 : String := "RosterLanes$Exchanges"
def TX1 : u_T := fun k => match k with
  | 0 => ("RosterLanes$Exchanges", "one", "I", false)
  | 1 => ("RosterLanes$Exchanges", "other", "I", false)
  | 2 => ("RosterLanes$Exchanges", "first", "I", false)
  | 3 => ("RosterLanes$Exchanges", "last", "I", false)
  | 4 => ("RosterLanes$Exchanges", "gain", "I", false)
  | 5 => ("RosterLanes$Exchanges", "wishGains", "[I", true)
  | _ => ("RosterLanes$Exchanges", "seamGains", "[I", true)
def tyX1 : Nat → FieldType := fun k => match k with
  | 0 => .int
  | 1 => .int
  | 2 => .int
  | 3 => .int
  | 4 => .int
  | 5 => .array .int
  | _ => .array .int
theorem nmX1 : ∀ a, a < 7 → ∀ b, b < 7 → a ≠ b → (TX1 a).2.1 ≠ (TX1 b).2.1 := by decide +kernel
theorem tyX1_ok : ∀ k, k < 7 → parseFieldDescriptor (TX1 k).2.2.1 = some (tyX1 k) := by decide +kernel
abbrev cX1_init : ByteArray := prog_3_method_1_code
def yX1_init : MethodName := ⟨RX1, "<init>", "()V"⟩
abbrev cX1_find : ByteArray := prog_3_method_2_code
def yX1_find : MethodName := ⟨RX1, "find", "(LRosterLanes$Plan;)Z"⟩
abbrev cX1_weighPair : ByteArray := prog_3_method_3_code
def yX1_weighPair : MethodName := ⟨RX1, "weighPair", "(LRosterLanes$Plan;II)V"⟩
abbrev cX1_lookFrom : ByteArray := prog_3_method_4_code
def yX1_lookFrom : MethodName := ⟨RX1, "lookFrom", "(LRosterLanes$Plan;III)V"⟩
abbrev cX1_gainIfItMay : ByteArray := prog_3_method_5_code
def yX1_gainIfItMay : MethodName := ⟨RX1, "gainIfItMay", "(LRosterLanes$Plan;IIII)I"⟩
abbrev cX1_wishGain : ByteArray := prog_3_method_6_code
def yX1_wishGain : MethodName := ⟨RX1, "wishGain", "(LRosterLanes$Plan;III)I"⟩
abbrev cX1_seamGain : ByteArray := prog_3_method_7_code
def yX1_seamGain : MethodName := ⟨RX1, "seamGain", "(LRosterLanes$Plan;III)I"⟩
abbrev cX1_bothAccepted : ByteArray := prog_3_method_8_code
def yX1_bothAccepted : MethodName := ⟨RX1, "bothAccepted", "(LRosterLanes$Plan;IIII)Z"⟩
abbrev cX1_isMixAccepted : ByteArray := prog_3_method_9_code
def yX1_isMixAccepted : MethodName := ⟨RX1, "isMixAccepted", "(LRosterLanes$Plan;IIII)Z"⟩
def RX2 : String := "RosterLanes$Lists"
def TX2 : u_T := fun k => match k with
  | 0 => ("RosterLanes$Lists", "values", "[J", true)
  | _ => ("RosterLanes$Lists", "sizes", "[I", true)
def tyX2 : Nat → FieldType := fun k => match k with
  | 0 => .array .long
  | _ => .array .int
theorem nmX2 : ∀ a, a < 2 → ∀ b, b < 2 → a ≠ b → (TX2 a).2.1 ≠ (TX2 b).2.1 := by decide +kernel
theorem tyX2_ok : ∀ k, k < 2 → parseFieldDescriptor (TX2 k).2.2.1 = some (tyX2 k) := by decide +kernel
abbrev cX2_init : ByteArray := prog_4_method_1_code
def yX2_init : MethodName := ⟨RX2, "<init>", "()V"⟩
abbrev cX2_isList : ByteArray := prog_4_method_2_code
def yX2_isList : MethodName := ⟨RX2, "isList", "(I)Z"⟩
abbrev cX2_holds : ByteArray := prog_4_method_3_code
def yX2_holds : MethodName := ⟨RX2, "holds", "(I)Z"⟩
abbrev cX2_sizeOf : ByteArray := prog_4_method_4_code
def yX2_sizeOf : MethodName := ⟨RX2, "sizeOf", "(I)I"⟩
abbrev cX2_makeRow : ByteArray := prog_4_method_5_code
def yX2_makeRow : MethodName := ⟨RX2, "makeRow", "(II)V"⟩
abbrev cX2_valueAt : ByteArray := prog_4_method_6_code
def yX2_valueAt : MethodName := ⟨RX2, "valueAt", "(II)J"⟩
abbrev cX2_setValue : ByteArray := prog_4_method_7_code
def yX2_setValue : MethodName := ⟨RX2, "setValue", "(IIJ)V"⟩
def RX3 : String := "RosterLanes$Machine"
def TX3 : u_T := fun k => match k with
  | 0 => ("RosterLanes$Machine", "size", "I", true)
  | 1 => ("RosterLanes$Machine", "steps", "[I", true)
  | _ => ("RosterLanes$Machine", "accepting", "J", true)
def tyX3 : Nat → FieldType := fun k => match k with
  | 0 => .int
  | 1 => .array .int
  | _ => .long
theorem nmX3 : ∀ a, a < 3 → ∀ b, b < 3 → a ≠ b → (TX3 a).2.1 ≠ (TX3 b).2.1 := by decide +kernel
theorem tyX3_ok : ∀ k, k < 3 → parseFieldDescriptor (TX3 k).2.2.1 = some (tyX3 k) := by decide +kernel
abbrev cX3_init : ByteArray := prog_5_method_1_code
def yX3_init : MethodName := ⟨RX3, "<init>", "([IJ)V"⟩
abbrev cX3_after : ByteArray := prog_5_method_2_code
def yX3_after : MethodName := ⟨RX3, "after", "(II)I"⟩
abbrev cX3_accepts : ByteArray := prog_5_method_3_code
def yX3_accepts : MethodName := ⟨RX3, "accepts", "(I)Z"⟩
def RX4 : String := "RosterLanes$Maker"
def TX4 : u_T := fun k => match k with
  | 0 => ("RosterLanes$Maker", "pattern", "LRosterLanes$Pattern;", true)
  | 1 => ("RosterLanes$Maker", "codes", "[I", true)
  | 2 => ("RosterLanes$Maker", "slots", "[I", true)
  | 3 => ("RosterLanes$Maker", "steps", "[I", true)
  | 4 => ("RosterLanes$Maker", "ends", "[Z", true)
  | 5 => ("RosterLanes$Maker", "sides", "[LRosterLanes$Machine;", true)
  | 6 => ("RosterLanes$Maker", "classes", "[I", false)
  | 7 => ("RosterLanes$Maker", "finer", "[I", false)
  | 8 => ("RosterLanes$Maker", "signs", "[I", true)
  | 9 => ("RosterLanes$Maker", "signSlots", "[I", true)
  | 10 => ("RosterLanes$Maker", "size", "I", false)
  | _ => ("RosterLanes$Maker", "signCount", "I", false)
def tyX4 : Nat → FieldType := fun k => match k with
  | 0 => .object "RosterLanes$Pattern"
  | 1 => .array .int
  | 2 => .array .int
  | 3 => .array .int
  | 4 => .array .boolean
  | 5 => .array (.object "RosterLanes$Machine")
  | 6 => .array .int
  | 7 => .array .int
  | 8 => .array .int
  | 9 => .array .int
  | 10 => .int
  | _ => .int
theorem nmX4 : ∀ a, a < 12 → ∀ b, b < 12 → a ≠ b → (TX4 a).2.1 ≠ (TX4 b).2.1 := by decide +kernel
theorem tyX4_ok : ∀ k, k < 12 → parseFieldDescriptor (TX4 k).2.2.1 = some (tyX4 k) := by decide +kernel
abbrev cX4_init : ByteArray := prog_6_method_1_code
def yX4_init : MethodName := ⟨RX4, "<init>", "()V"⟩
abbrev cX4_machineOfPattern : ByteArray := prog_6_method_2_code
def yX4_machineOfPattern : MethodName := ⟨RX4, "machineOfPattern", "(I)LRosterLanes$Machine;"⟩
abbrev cX4_machineOfAll : ByteArray := prog_6_method_3_code
def yX4_machineOfAll : MethodName := ⟨RX4, "machineOfAll", "([LRosterLanes$Rule;ILRosterLanes$Machine;)LRosterLanes$Machine;"⟩
abbrev cX4_allAccept : ByteArray := prog_6_method_4_code
def yX4_allAccept : MethodName := ⟨RX4, "allAccept", "(II)Z"⟩
abbrev cX4_allAfter : ByteArray := prog_6_method_5_code
def yX4_allAfter : MethodName := ⟨RX4, "allAfter", "(III)I"⟩
abbrev cX4_startWith : ByteArray := prog_6_method_6_code
def yX4_startWith : MethodName := ⟨RX4, "startWith", "(I)V"⟩
abbrev cX4_placeOf : ByteArray := prog_6_method_7_code
def yX4_placeOf : MethodName := ⟨RX4, "placeOf", "(II)I"⟩
abbrev cX4_addPlace : ByteArray := prog_6_method_8_code
def yX4_addPlace : MethodName := ⟨RX4, "addPlace", "(III)I"⟩
abbrev cX4_leastMachine : ByteArray := prog_6_method_9_code
def yX4_leastMachine : MethodName := ⟨RX4, "leastMachine", "()LRosterLanes$Machine;"⟩
abbrev cX4_refine : ByteArray := prog_6_method_10_code
def yX4_refine : MethodName := ⟨RX4, "refine", "()Z"⟩
abbrev cX4_classOf : ByteArray := prog_6_method_11_code
def yX4_classOf : MethodName := ⟨RX4, "classOf", "(I)I"⟩
abbrev cX4_addSign : ByteArray := prog_6_method_12_code
def yX4_addSign : MethodName := ⟨RX4, "addSign", "(II)I"⟩
abbrev cX4_machineOfClasses : ByteArray := prog_6_method_13_code
def yX4_machineOfClasses : MethodName := ⟨RX4, "machineOfClasses", "()LRosterLanes$Machine;"⟩
def RX5 : String := "RosterLanes$Mends"
def TX5 : u_T := fun k => match k with
  | 0 => ("RosterLanes$Mends", "one", "I", false)
  | 1 => ("RosterLanes$Mends", "day", "I", false)
  | 2 => ("RosterLanes$Mends", "shift", "I", false)
  | 3 => ("RosterLanes$Mends", "cost", "I", false)
  | 4 => ("RosterLanes$Mends", "found", "Z", false)
  | _ => ("RosterLanes$Mends", "spare", "[I", true)
def tyX5 : Nat → FieldType := fun k => match k with
  | 0 => .int
  | 1 => .int
  | 2 => .int
  | 3 => .int
  | 4 => .boolean
  | _ => .array .int
theorem nmX5 : ∀ a, a < 6 → ∀ b, b < 6 → a ≠ b → (TX5 a).2.1 ≠ (TX5 b).2.1 := by decide +kernel
theorem tyX5_ok : ∀ k, k < 6 → parseFieldDescriptor (TX5 k).2.2.1 = some (tyX5 k) := by decide +kernel
abbrev cX5_init : ByteArray := prog_7_method_1_code
def yX5_init : MethodName := ⟨RX5, "<init>", "()V"⟩
abbrev cX5_find : ByteArray := prog_7_method_2_code
def yX5_find : MethodName := ⟨RX5, "find", "(LRosterLanes$Plan;)Z"⟩
abbrev cX5_countSpare : ByteArray := prog_7_method_3_code
def yX5_countSpare : MethodName := ⟨RX5, "countSpare", "(LRosterLanes$Plan;)V"⟩
abbrev cX5_lookAtDay : ByteArray := prog_7_method_4_code
def yX5_lookAtDay : MethodName := ⟨RX5, "lookAtDay", "(LRosterLanes$Plan;II)V"⟩
abbrev cX5_lookAtRow : ByteArray := prog_7_method_5_code
def yX5_lookAtRow : MethodName := ⟨RX5, "lookAtRow", "(LRosterLanes$Plan;II)V"⟩
def RX6 : String := "RosterLanes$Pattern"
def TX6 : u_T := fun k => match k with
  | 0 => ("RosterLanes$Pattern", "follow", "[I", true)
  | 1 => ("RosterLanes$Pattern", "readers", "[I", true)
  | 2 => ("RosterLanes$Pattern", "text", "LRosterLanes$Text;", false)
  | 3 => ("RosterLanes$Pattern", "place", "I", false)
  | 4 => ("RosterLanes$Pattern", "letters", "I", false)
  | 5 => ("RosterLanes$Pattern", "first", "I", false)
  | _ => ("RosterLanes$Pattern", "ends", "I", false)
def tyX6 : Nat → FieldType := fun k => match k with
  | 0 => .array .int
  | 1 => .array .int
  | 2 => .object "RosterLanes$Text"
  | 3 => .int
  | 4 => .int
  | 5 => .int
  | _ => .int
theorem nmX6 : ∀ a, a < 7 → ∀ b, b < 7 → a ≠ b → (TX6 a).2.1 ≠ (TX6 b).2.1 := by decide +kernel
theorem tyX6_ok : ∀ k, k < 7 → parseFieldDescriptor (TX6 k).2.2.1 = some (tyX6 k) := by decide +kernel
abbrev cX6_init : ByteArray := prog_8_method_1_code
def yX6_init : MethodName := ⟨RX6, "<init>", "()V"⟩
abbrev cX6_faultOf : ByteArray := prog_8_method_2_code
def yX6_faultOf : MethodName := ⟨RX6, "faultOf", "(LRosterLanes$Text;)I"⟩
abbrev cX6_isMatch : ByteArray := prog_8_method_3_code
def yX6_isMatch : MethodName := ⟨RX6, "isMatch", "(I)Z"⟩
abbrev cX6_startOf : ByteArray := prog_8_method_4_code
def yX6_startOf : MethodName := ⟨RX6, "startOf", "(I)I"⟩
abbrev cX6_lettersBehind : ByteArray := prog_8_method_5_code
def yX6_lettersBehind : MethodName := ⟨RX6, "lettersBehind", "(I)I"⟩
abbrev cX6_after : ByteArray := prog_8_method_6_code
def yX6_after : MethodName := ⟨RX6, "after", "(IIII)I"⟩
abbrev cX6_settle : ByteArray := prog_8_method_7_code
def yX6_settle : MethodName := ⟨RX6, "settle", "(II)I"⟩
abbrev cX6_partOf : ByteArray := prog_8_method_8_code
def yX6_partOf : MethodName := ⟨RX6, "partOf", "(IIZ)I"⟩
abbrev cX6_firstOf : ByteArray := prog_8_method_9_code
def yX6_firstOf : MethodName := ⟨RX6, "firstOf", "(I)I"⟩
abbrev cX6_lastOf : ByteArray := prog_8_method_10_code
def yX6_lastOf : MethodName := ⟨RX6, "lastOf", "(I)I"⟩
abbrev cX6_isOptional : ByteArray := prog_8_method_11_code
def yX6_isOptional : MethodName := ⟨RX6, "isOptional", "(I)Z"⟩
abbrev cX6_readChoice : ByteArray := prog_8_method_12_code
def yX6_readChoice : MethodName := ⟨RX6, "readChoice", "(I)I"⟩
abbrev cX6_readChain : ByteArray := prog_8_method_13_code
def yX6_readChain : MethodName := ⟨RX6, "readChain", "(I)I"⟩
abbrev cX6_oneBehind : ByteArray := prog_8_method_14_code
def yX6_oneBehind : MethodName := ⟨RX6, "oneBehind", "(II)I"⟩
abbrev cX6_link : ByteArray := prog_8_method_15_code
def yX6_link : MethodName := ⟨RX6, "link", "(II)V"⟩
abbrev cX6_readRepeat : ByteArray := prog_8_method_16_code
def yX6_readRepeat : MethodName := ⟨RX6, "readRepeat", "(I)I"⟩
abbrev cX6_readAtom : ByteArray := prog_8_method_17_code
def yX6_readAtom : MethodName := ⟨RX6, "readAtom", "(I)I"⟩
abbrev cX6_readBracket : ByteArray := prog_8_method_18_code
def yX6_readBracket : MethodName := ⟨RX6, "readBracket", "(I)I"⟩
abbrev cX6_hasLetterLeft : ByteArray := prog_8_method_19_code
def yX6_hasLetterLeft : MethodName := ⟨RX6, "hasLetterLeft", "()Z"⟩
abbrev cX6_signHere : ByteArray := prog_8_method_20_code
def yX6_signHere : MethodName := ⟨RX6, "signHere", "()I"⟩
abbrev cX6_beginsPart : ByteArray := prog_8_method_21_code
def yX6_beginsPart : MethodName := ⟨RX6, "beginsPart", "(I)Z"⟩
def RX7 : String := "RosterLanes$Plan"
def TX7 : u_T := fun k => match k with
  | 0 => ("RosterLanes$Plan", "people", "I", false)
  | 1 => ("RosterLanes$Plan", "days", "I", false)
  | 2 => ("RosterLanes$Plan", "ruleCount", "I", false)
  | 3 => ("RosterLanes$Plan", "rules", "[LRosterLanes$Rule;", true)
  | 4 => ("RosterLanes$Plan", "wishes", "[I", true)
  | 5 => ("RosterLanes$Plan", "changes", "[I", true)
  | 6 => ("RosterLanes$Plan", "needs", "[I", true)
  | 7 => ("RosterLanes$Plan", "roster", "[I", true)
  | 8 => ("RosterLanes$Plan", "free", "LRosterLanes$Machine;", true)
  | _ => ("RosterLanes$Plan", "machine", "LRosterLanes$Machine;", false)
def tyX7 : Nat → FieldType := fun k => match k with
  | 0 => .int
  | 1 => .int
  | 2 => .int
  | 3 => .array (.object "RosterLanes$Rule")
  | 4 => .array .int
  | 5 => .array .int
  | 6 => .array .int
  | 7 => .array .int
  | 8 => .object "RosterLanes$Machine"
  | _ => .object "RosterLanes$Machine"
theorem nmX7 : ∀ a, a < 10 → ∀ b, b < 10 → a ≠ b → (TX7 a).2.1 ≠ (TX7 b).2.1 := by decide +kernel
theorem tyX7_ok : ∀ k, k < 10 → parseFieldDescriptor (TX7 k).2.2.1 = some (tyX7 k) := by decide +kernel
abbrev cX7_init : ByteArray := prog_9_method_1_code
def yX7_init : MethodName := ⟨RX7, "<init>", "()V"⟩
abbrev cX7_startAnew : ByteArray := prog_9_method_2_code
def yX7_startAnew : MethodName := ⟨RX7, "startAnew", "(II)V"⟩
abbrev cX7_takeAll : ByteArray := prog_9_method_3_code
def yX7_takeAll : MethodName := ⟨RX7, "takeAll", "(LRosterLanes$Plan;)V"⟩
abbrev cX7_hasPerson : ByteArray := prog_9_method_4_code
def yX7_hasPerson : MethodName := ⟨RX7, "hasPerson", "(I)Z"⟩
abbrev cX7_hasDay : ByteArray := prog_9_method_5_code
def yX7_hasDay : MethodName := ⟨RX7, "hasDay", "(I)Z"⟩
abbrev cX7_ruleAt : ByteArray := prog_9_method_6_code
def yX7_ruleAt : MethodName := ⟨RX7, "ruleAt", "(I)LRosterLanes$Rule;"⟩
abbrev cX7_addRule : ByteArray := prog_9_method_7_code
def yX7_addRule : MethodName := ⟨RX7, "addRule", "(LRosterLanes$Rule;)I"⟩
abbrev cX7_dropRule : ByteArray := prog_9_method_8_code
def yX7_dropRule : MethodName := ⟨RX7, "dropRule", "()V"⟩
abbrev cX7_shiftAt : ByteArray := prog_9_method_9_code
def yX7_shiftAt : MethodName := ⟨RX7, "shiftAt", "(II)I"⟩
abbrev cX7_wishOf : ByteArray := prog_9_method_10_code
def yX7_wishOf : MethodName := ⟨RX7, "wishOf", "(III)I"⟩
abbrev cX7_changeOf : ByteArray := prog_9_method_11_code
def yX7_changeOf : MethodName := ⟨RX7, "changeOf", "(II)I"⟩
abbrev cX7_penaltyOf : ByteArray := prog_9_method_12_code
def yX7_penaltyOf : MethodName := ⟨RX7, "penaltyOf", "(I)I"⟩
abbrev cX7_allPenalties : ByteArray := prog_9_method_13_code
def yX7_allPenalties : MethodName := ⟨RX7, "allPenalties", "()I"⟩
abbrev cX7_worseThan : ByteArray := prog_9_method_14_code
def yX7_worseThan : MethodName := ⟨RX7, "worseThan", "(I)I"⟩
abbrev cX7_stateAhead : ByteArray := prog_9_method_15_code
def yX7_stateAhead : MethodName := ⟨RX7, "stateAhead", "(II)I"⟩
abbrev cX7_isAccepted : ByteArray := prog_9_method_16_code
def yX7_isAccepted : MethodName := ⟨RX7, "isAccepted", "(I)Z"⟩
abbrev cX7_isLawful : ByteArray := prog_9_method_17_code
def yX7_isLawful : MethodName := ⟨RX7, "isLawful", "()Z"⟩
abbrev cX7_howManyHave : ByteArray := prog_9_method_18_code
def yX7_howManyHave : MethodName := ⟨RX7, "howManyHave", "(II)I"⟩
abbrev cX7_shortOf : ByteArray := prog_9_method_19_code
def yX7_shortOf : MethodName := ⟨RX7, "shortOf", "(II)I"⟩
abbrev cX7_shortInAll : ByteArray := prog_9_method_20_code
def yX7_shortInAll : MethodName := ⟨RX7, "shortInAll", "()I"⟩
abbrev cX7_exchangeDays : ByteArray := prog_9_method_21_code
def yX7_exchangeDays : MethodName := ⟨RX7, "exchangeDays", "(IIII)V"⟩
def RX8 : String := "RosterLanes$Rule"
def TX8 : u_T := fun k => match k with
  | 0 => ("RosterLanes$Rule", "kind", "I", true)
  | 1 => ("RosterLanes$Rule", "pattern", "[B", true)
  | 2 => ("RosterLanes$Rule", "alone", "LRosterLanes$Machine;", true)
  | _ => ("RosterLanes$Rule", "joined", "LRosterLanes$Machine;", true)
def tyX8 : Nat → FieldType := fun k => match k with
  | 0 => .int
  | 1 => .array .byte
  | 2 => .object "RosterLanes$Machine"
  | _ => .object "RosterLanes$Machine"
theorem nmX8 : ∀ a, a < 4 → ∀ b, b < 4 → a ≠ b → (TX8 a).2.1 ≠ (TX8 b).2.1 := by decide +kernel
theorem tyX8_ok : ∀ k, k < 4 → parseFieldDescriptor (TX8 k).2.2.1 = some (tyX8 k) := by decide +kernel
abbrev cX8_init : ByteArray := prog_10_method_1_code
def yX8_init : MethodName := ⟨RX8, "<init>", "(I[BLRosterLanes$Machine;LRosterLanes$Machine;)V"⟩
def RX9 : String := "RosterLanes$Text"
def TX9 : u_T := fun k => match k with
  | 0 => ("RosterLanes$Text", "bytes", "[B", true)
  | _ => ("RosterLanes$Text", "size", "I", false)
def tyX9 : Nat → FieldType := fun k => match k with
  | 0 => .array .byte
  | _ => .int
theorem nmX9 : ∀ a, a < 2 → ∀ b, b < 2 → a ≠ b → (TX9 a).2.1 ≠ (TX9 b).2.1 := by decide +kernel
theorem tyX9_ok : ∀ k, k < 2 → parseFieldDescriptor (TX9 k).2.2.1 = some (tyX9 k) := by decide +kernel
abbrev cX9_init : ByteArray := prog_11_method_1_code
def yX9_init : MethodName := ⟨RX9, "<init>", "()V"⟩
abbrev cX9_add : ByteArray := prog_11_method_2_code
def yX9_add : MethodName := ⟨RX9, "add", "(I)V"⟩
abbrev cX9_empty : ByteArray := prog_11_method_3_code
def yX9_empty : MethodName := ⟨RX9, "empty", "()I"⟩
abbrev cX9_byteAt : ByteArray := prog_11_method_4_code
def yX9_byteAt : MethodName := ⟨RX9, "byteAt", "(I)I"⟩
abbrev cX9_firstOther : ByteArray := prog_11_method_5_code
def yX9_firstOther : MethodName := ⟨RX9, "firstOther", "()I"⟩
abbrev cX9_copyOfBytes : ByteArray := prog_11_method_6_code
def yX9_copyOfBytes : MethodName := ⟨RX9, "copyOfBytes", "()[B"⟩
def RX10 : String := "RosterLanes$Ways"
def TX10 : u_T := fun k => match k with
  | 0 => ("RosterLanes$Ways", "table", "[I", true)
  | _ => ("RosterLanes$Ways", "machine", "LRosterLanes$Machine;", false)
def tyX10 : Nat → FieldType := fun k => match k with
  | 0 => .array .int
  | _ => .object "RosterLanes$Machine"
theorem nmX10 : ∀ a, a < 2 → ∀ b, b < 2 → a ≠ b → (TX10 a).2.1 ≠ (TX10 b).2.1 := by decide +kernel
theorem tyX10_ok : ∀ k, k < 2 → parseFieldDescriptor (TX10 k).2.2.1 = some (tyX10 k) := by decide +kernel
abbrev cX10_init : ByteArray := prog_12_method_1_code
def yX10_init : MethodName := ⟨RX10, "<init>", "()V"⟩
abbrev cX10_lookAt : ByteArray := prog_12_method_2_code
def yX10_lookAt : MethodName := ⟨RX10, "lookAt", "(LRosterLanes$Machine;)V"⟩
abbrev cX10_behind : ByteArray := prog_12_method_3_code
def yX10_behind : MethodName := ⟨RX10, "behind", "(II)I"⟩
abbrev cX10_shiftOfNth : ByteArray := prog_12_method_4_code
def yX10_shiftOfNth : MethodName := ⟨RX10, "shiftOfNth", "(JII)I"⟩
def RX11 : String := "RosterLanes"
def TX11 : u_T := fun k => match k with
  | 0 => ("RosterLanes", "plan", "LRosterLanes$Plan;", true)
  | 1 => ("RosterLanes", "kept", "LRosterLanes$Plan;", true)
  | 2 => ("RosterLanes", "hasKept", "Z", false)
  | 3 => ("RosterLanes", "tape", "LRosterLanes$Text;", true)
  | 4 => ("RosterLanes", "sheet", "LRosterLanes$Text;", true)
  | 5 => ("RosterLanes", "lists", "LRosterLanes$Lists;", true)
  | 6 => ("RosterLanes", "ways", "LRosterLanes$Ways;", true)
  | 7 => ("RosterLanes", "bestRow", "LRosterLanes$BestRow;", true)
  | 8 => ("RosterLanes", "mends", "LRosterLanes$Mends;", true)
  | 9 => ("RosterLanes", "exchanges", "LRosterLanes$Exchanges;", true)
  | _ => ("RosterLanes", "maker", "LRosterLanes$Maker;", false)
def tyX11 : Nat → FieldType := fun k => match k with
  | 0 => .object "RosterLanes$Plan"
  | 1 => .object "RosterLanes$Plan"
  | 2 => .boolean
  | 3 => .object "RosterLanes$Text"
  | 4 => .object "RosterLanes$Text"
  | 5 => .object "RosterLanes$Lists"
  | 6 => .object "RosterLanes$Ways"
  | 7 => .object "RosterLanes$BestRow"
  | 8 => .object "RosterLanes$Mends"
  | 9 => .object "RosterLanes$Exchanges"
  | _ => .object "RosterLanes$Maker"
theorem nmX11 : ∀ a, a < 11 → ∀ b, b < 11 → a ≠ b → (TX11 a).2.1 ≠ (TX11 b).2.1 := by decide +kernel
theorem tyX11_ok : ∀ k, k < 11 → parseFieldDescriptor (TX11 k).2.2.1 = some (tyX11 k) := by decide +kernel
abbrev cX11_init : ByteArray := prog_1_method_1_code
def yX11_init : MethodName := ⟨RX11, "<init>", "()V"⟩
abbrev cX11_begin : ByteArray := prog_1_method_2_code
def yX11_begin : MethodName := ⟨RX11, "begin", "(II)I"⟩
abbrev cX11_wish : ByteArray := prog_1_method_3_code
def yX11_wish : MethodName := ⟨RX11, "wish", "(IIII)I"⟩
abbrev cX11_change : ByteArray := prog_1_method_4_code
def yX11_change : MethodName := ⟨RX11, "change", "(III)I"⟩
abbrev cX11_need : ByteArray := prog_1_method_5_code
def yX11_need : MethodName := ⟨RX11, "need", "(III)I"⟩
abbrev cX11_wished : ByteArray := prog_1_method_6_code
def yX11_wished : MethodName := ⟨RX11, "wished", "(III)I"⟩
abbrev cX11_changed : ByteArray := prog_1_method_7_code
def yX11_changed : MethodName := ⟨RX11, "changed", "(II)I"⟩
abbrev cX11_needed : ByteArray := prog_1_method_8_code
def yX11_needed : MethodName := ⟨RX11, "needed", "(II)I"⟩
abbrev cX11_feed : ByteArray := prog_1_method_9_code
def yX11_feed : MethodName := ⟨RX11, "feed", "(I)I"⟩
abbrev cX11_clear : ByteArray := prog_1_method_10_code
def yX11_clear : MethodName := ⟨RX11, "clear", "()I"⟩
abbrev cX11_rule : ByteArray := prog_1_method_11_code
def yX11_rule : MethodName := ⟨RX11, "rule", "(I)I"⟩
abbrev cX11_addRule : ByteArray := prog_1_method_12_code
def yX11_addRule : MethodName := ⟨RX11, "addRule", "(I)I"⟩
abbrev cX11_drop : ByteArray := prog_1_method_13_code
def yX11_drop : MethodName := ⟨RX11, "drop", "()I"⟩
abbrev cX11_row : ByteArray := prog_1_method_14_code
def yX11_row : MethodName := ⟨RX11, "row", "(I)I"⟩
abbrev cX11_put : ByteArray := prog_1_method_15_code
def yX11_put : MethodName := ⟨RX11, "put", "(III)I"⟩
abbrev cX11_at : ByteArray := prog_1_method_16_code
def yX11_at : MethodName := ⟨RX11, "at", "(II)I"⟩
abbrev cX11_states : ByteArray := prog_1_method_17_code
def yX11_states : MethodName := ⟨RX11, "states", "(I)I"⟩
abbrev cX11_next : ByteArray := prog_1_method_18_code
def yX11_next : MethodName := ⟨RX11, "next", "(II)I"⟩
abbrev cX11_run : ByteArray := prog_1_method_19_code
def yX11_run : MethodName := ⟨RX11, "run", "()I"⟩
abbrev cX11_allows : ByteArray := prog_1_method_20_code
def yX11_allows : MethodName := ⟨RX11, "allows", "(I)I"⟩
abbrev cX11_readWord : ByteArray := prog_1_method_21_code
def yX11_readWord : MethodName := ⟨RX11, "readWord", "(LRosterLanes$Machine;)I"⟩
abbrev cX11_count : ByteArray := prog_1_method_22_code
def yX11_count : MethodName := ⟨RX11, "count", "(II)J"⟩
abbrev cX11_nth : ByteArray := prog_1_method_23_code
def yX11_nth : MethodName := ⟨RX11, "nth", "(JI)I"⟩
abbrev cX11_ahead : ByteArray := prog_1_method_24_code
def yX11_ahead : MethodName := ⟨RX11, "ahead", "(I)J"⟩
abbrev cX11_may : ByteArray := prog_1_method_25_code
def yX11_may : MethodName := ⟨RX11, "may", "(II)I"⟩
abbrev cX11_penalty : ByteArray := prog_1_method_26_code
def yX11_penalty : MethodName := ⟨RX11, "penalty", "(I)I"⟩
abbrev cX11_best : ByteArray := prog_1_method_27_code
def yX11_best : MethodName := ⟨RX11, "best", "(II)I"⟩
abbrev cX11_better : ByteArray := prog_1_method_28_code
def yX11_better : MethodName := ⟨RX11, "better", "(I)I"⟩
abbrev cX11_accepted : ByteArray := prog_1_method_29_code
def yX11_accepted : MethodName := ⟨RX11, "accepted", "(I)I"⟩
abbrev cX11_lacks : ByteArray := prog_1_method_30_code
def yX11_lacks : MethodName := ⟨RX11, "lacks", "(II)I"⟩
abbrev cX11_mend : ByteArray := prog_1_method_31_code
def yX11_mend : MethodName := ⟨RX11, "mend", "(I)I"⟩
abbrev cX11_repair : ByteArray := prog_1_method_32_code
def yX11_repair : MethodName := ⟨RX11, "repair", "(I)I"⟩
abbrev cX11_swap : ByteArray := prog_1_method_33_code
def yX11_swap : MethodName := ⟨RX11, "swap", "(IIII)I"⟩
abbrev cX11_swaps : ByteArray := prog_1_method_34_code
def yX11_swaps : MethodName := ⟨RX11, "swaps", "(IIII)I"⟩
abbrev cX11_isSwap : ByteArray := prog_1_method_35_code
def yX11_isSwap : MethodName := ⟨RX11, "isSwap", "(IIII)Z"⟩
abbrev cX11_bestSwap : ByteArray := prog_1_method_36_code
def yX11_bestSwap : MethodName := ⟨RX11, "bestSwap", "(I)I"⟩
abbrev cX11_improve : ByteArray := prog_1_method_37_code
def yX11_improve : MethodName := ⟨RX11, "improve", "(I)I"⟩
abbrev cX11_worst : ByteArray := prog_1_method_38_code
def yX11_worst : MethodName := ⟨RX11, "worst", "(I)I"⟩
abbrev cX11_judge : ByteArray := prog_1_method_39_code
def yX11_judge : MethodName := ⟨RX11, "judge", "(II)I"⟩
abbrev cX11_dayLost : ByteArray := prog_1_method_40_code
def yX11_dayLost : MethodName := ⟨RX11, "dayLost", "(II)I"⟩
abbrev cX11_lay : ByteArray := prog_1_method_41_code
def yX11_lay : MethodName := ⟨RX11, "lay", "(III)I"⟩
abbrev cX11_spell : ByteArray := prog_1_method_42_code
def yX11_spell : MethodName := ⟨RX11, "spell", "(II)I"⟩
abbrev cX11_spellPattern : ByteArray := prog_1_method_43_code
def yX11_spellPattern : MethodName := ⟨RX11, "spellPattern", "(LRosterLanes$Rule;)I"⟩
abbrev cX11_spellRow : ByteArray := prog_1_method_44_code
def yX11_spellRow : MethodName := ⟨RX11, "spellRow", "(I)I"⟩
abbrev cX11_paper : ByteArray := prog_1_method_45_code
def yX11_paper : MethodName := ⟨RX11, "paper", "(I)I"⟩
abbrev cX11_sums : ByteArray := prog_1_method_46_code
def yX11_sums : MethodName := ⟨RX11, "sums", "(I)I"⟩
abbrev cX11_list : ByteArray := prog_1_method_47_code
def yX11_list : MethodName := ⟨RX11, "list", "(II)I"⟩
abbrev cX11_set : ByteArray := prog_1_method_48_code
def yX11_set : MethodName := ⟨RX11, "set", "(IIJ)I"⟩
abbrev cX11_get : ByteArray := prog_1_method_49_code
def yX11_get : MethodName := ⟨RX11, "get", "(II)J"⟩
abbrev cX11_image : ByteArray := prog_1_method_50_code
def yX11_image : MethodName := ⟨RX11, "image", "()I"⟩
abbrev cX11_undo : ByteArray := prog_1_method_51_code
def yX11_undo : MethodName := ⟨RX11, "undo", "()I"⟩
abbrev cX11_isShift : ByteArray := prog_1_method_52_code
def yX11_isShift : MethodName := ⟨RX11, "isShift", "(I)Z"⟩
abbrev cX11_shiftOf : ByteArray := prog_1_method_53_code
def yX11_shiftOf : MethodName := ⟨RX11, "shiftOf", "(I)I"⟩
abbrev cX11_letterOf : ByteArray := prog_1_method_54_code
def yX11_letterOf : MethodName := ⟨RX11, "letterOf", "(I)I"⟩
abbrev cX11_wishPlace : ByteArray := prog_1_method_55_code
def yX11_wishPlace : MethodName := ⟨RX11, "wishPlace", "(III)I"⟩
abbrev cX11_rosterPlace : ByteArray := prog_1_method_56_code
def yX11_rosterPlace : MethodName := ⟨RX11, "rosterPlace", "(II)I"⟩
abbrev cX11_exchange : ByteArray := prog_1_method_57_code
def yX11_exchange : MethodName := ⟨RX11, "exchange", "([III)I"⟩
def RX12 : String := "RosterLanesModel"
def TX12 : u_T := fun k => match k with
  | 0 => ("RosterLanesModel", "g", "[I", true)
  | 1 => ("RosterLanesModel", "kept", "[I", true)
  | 2 => ("RosterLanesModel", "isKept", "Z", false)
  | 3 => ("RosterLanesModel", "tape", "[I", true)
  | 4 => ("RosterLanesModel", "fed", "I", false)
  | 5 => ("RosterLanesModel", "text", "[I", true)
  | 6 => ("RosterLanesModel", "mayBeNothing", "[I", true)
  | 7 => ("RosterLanesModel", "begins", "[I", true)
  | 8 => ("RosterLanesModel", "ends", "[I", true)
  | 9 => ("RosterLanesModel", "signs", "[I", true)
  | 10 => ("RosterLanesModel", "behind", "[I", true)
  | 11 => ("RosterLanesModel", "size", "I", false)
  | 12 => ("RosterLanesModel", "at", "I", false)
  | 13 => ("RosterLanesModel", "fault", "I", false)
  | 14 => ("RosterLanesModel", "letters", "I", false)
  | 15 => ("RosterLanesModel", "open", "I", false)
  | 16 => ("RosterLanesModel", "parts", "I", false)
  | 17 => ("RosterLanesModel", "whole", "I", false)
  | 18 => ("RosterLanesModel", "states", "[I", true)
  | 19 => ("RosterLanesModel", "nexts", "[I", true)
  | 20 => ("RosterLanesModel", "goods", "[I", true)
  | 21 => ("RosterLanesModel", "raw", "[I", true)
  | 22 => ("RosterLanesModel", "rawGood", "[I", true)
  | 23 => ("RosterLanesModel", "sets", "[I", true)
  | 24 => ("RosterLanesModel", "indexOf", "[I", true)
  | 25 => ("RosterLanesModel", "group", "[I", true)
  | 26 => ("RosterLanesModel", "parting", "[I", true)
  | 27 => ("RosterLanesModel", "heads", "[I", true)
  | 28 => ("RosterLanesModel", "number", "[I", true)
  | 29 => ("RosterLanesModel", "order", "[I", true)
  | 30 => ("RosterLanesModel", "spots", "[I", true)
  | 31 => ("RosterLanesModel", "seek", "[I", true)
  | 32 => ("RosterLanesModel", "raws", "I", false)
  | 33 => ("RosterLanesModel", "wordFault", "I", false)
  | 34 => ("RosterLanesModel", "swapA", "I", false)
  | 35 => ("RosterLanesModel", "swapB", "I", false)
  | 36 => ("RosterLanesModel", "swapI", "I", false)
  | 37 => ("RosterLanesModel", "swapJ", "I", false)
  | 38 => ("RosterLanesModel", "ways", "[J", true)
  | 39 => ("RosterLanesModel", "costs", "[I", true)
  | 40 => ("RosterLanesModel", "bestRow", "[I", true)
  | 41 => ("RosterLanesModel", "mendOne", "I", false)
  | 42 => ("RosterLanesModel", "mendDay", "I", false)
  | 43 => ("RosterLanesModel", "mendShift", "I", false)
  | 44 => ("RosterLanesModel", "mendShort", "I", false)
  | 45 => ("RosterLanesModel", "found", "[I", true)
  | 46 => ("RosterLanesModel", "sizes", "[I", true)
  | 47 => ("RosterLanesModel", "items", "[J", true)
  | 48 => ("RosterLanesModel", "paper", "[I", true)
  | _ => ("RosterLanesModel", "papered", "I", false)
def tyX12 : Nat → FieldType := fun k => match k with
  | 0 => .array .int
  | 1 => .array .int
  | 2 => .boolean
  | 3 => .array .int
  | 4 => .int
  | 5 => .array .int
  | 6 => .array .int
  | 7 => .array .int
  | 8 => .array .int
  | 9 => .array .int
  | 10 => .array .int
  | 11 => .int
  | 12 => .int
  | 13 => .int
  | 14 => .int
  | 15 => .int
  | 16 => .int
  | 17 => .int
  | 18 => .array .int
  | 19 => .array .int
  | 20 => .array .int
  | 21 => .array .int
  | 22 => .array .int
  | 23 => .array .int
  | 24 => .array .int
  | 25 => .array .int
  | 26 => .array .int
  | 27 => .array .int
  | 28 => .array .int
  | 29 => .array .int
  | 30 => .array .int
  | 31 => .array .int
  | 32 => .int
  | 33 => .int
  | 34 => .int
  | 35 => .int
  | 36 => .int
  | 37 => .int
  | 38 => .array .long
  | 39 => .array .int
  | 40 => .array .int
  | 41 => .int
  | 42 => .int
  | 43 => .int
  | 44 => .int
  | 45 => .array .int
  | 46 => .array .int
  | 47 => .array .long
  | 48 => .array .int
  | _ => .int
theorem nmX12 : ∀ a, a < 50 → ∀ b, b < 50 → a ≠ b → (TX12 a).2.1 ≠ (TX12 b).2.1 := by decide +kernel
theorem tyX12_ok : ∀ k, k < 50 → parseFieldDescriptor (TX12 k).2.2.1 = some (tyX12 k) := by decide +kernel
abbrev cX12_init : ByteArray := prog_14_method_1_code
def yX12_init : MethodName := ⟨RX12, "<init>", "()V"⟩
abbrev cX12_in : ByteArray := prog_14_method_2_code
def yX12_in : MethodName := ⟨RX12, "in", "(JJJ)Z"⟩
abbrev cX12_isOne : ByteArray := prog_14_method_3_code
def yX12_isOne : MethodName := ⟨RX12, "isOne", "(I)Z"⟩
abbrev cX12_isDay : ByteArray := prog_14_method_4_code
def yX12_isDay : MethodName := ⟨RX12, "isDay", "(I)Z"⟩
abbrev cX12_isShift : ByteArray := prog_14_method_5_code
def yX12_isShift : MethodName := ⟨RX12, "isShift", "(J)Z"⟩
abbrev cX12_isRule : ByteArray := prog_14_method_6_code
def yX12_isRule : MethodName := ⟨RX12, "isRule", "(I)Z"⟩
abbrev cX12_becomes : ByteArray := prog_14_method_7_code
def yX12_becomes : MethodName := ⟨RX12, "becomes", "(II)I"⟩
abbrev cX12_wishAt : ByteArray := prog_14_method_8_code
def yX12_wishAt : MethodName := ⟨RX12, "wishAt", "(III)I"⟩
abbrev cX12_begin : ByteArray := prog_14_method_9_code
def yX12_begin : MethodName := ⟨RX12, "begin", "(II)I"⟩
abbrev cX12_wish : ByteArray := prog_14_method_10_code
def yX12_wish : MethodName := ⟨RX12, "wish", "(IIII)I"⟩
abbrev cX12_change : ByteArray := prog_14_method_11_code
def yX12_change : MethodName := ⟨RX12, "change", "(III)I"⟩
abbrev cX12_need : ByteArray := prog_14_method_12_code
def yX12_need : MethodName := ⟨RX12, "need", "(III)I"⟩
abbrev cX12_wished : ByteArray := prog_14_method_13_code
def yX12_wished : MethodName := ⟨RX12, "wished", "(III)I"⟩
abbrev cX12_changed : ByteArray := prog_14_method_14_code
def yX12_changed : MethodName := ⟨RX12, "changed", "(II)I"⟩
abbrev cX12_needed : ByteArray := prog_14_method_15_code
def yX12_needed : MethodName := ⟨RX12, "needed", "(II)I"⟩
abbrev cX12_feed : ByteArray := prog_14_method_16_code
def yX12_feed : MethodName := ⟨RX12, "feed", "(I)I"⟩
abbrev cX12_clear : ByteArray := prog_14_method_17_code
def yX12_clear : MethodName := ⟨RX12, "clear", "()I"⟩
abbrev cX12_here : ByteArray := prog_14_method_18_code
def yX12_here : MethodName := ⟨RX12, "here", "()I"⟩
abbrev cX12_signOf : ByteArray := prog_14_method_19_code
def yX12_signOf : MethodName := ⟨RX12, "signOf", "(I)I"⟩
abbrev cX12_part : ByteArray := prog_14_method_20_code
def yX12_part : MethodName := ⟨RX12, "part", "(III)I"⟩
abbrev cX12_links : ByteArray := prog_14_method_21_code
def yX12_links : MethodName := ⟨RX12, "links", "(II)V"⟩
abbrev cX12_mayBegin : ByteArray := prog_14_method_22_code
def yX12_mayBegin : MethodName := ⟨RX12, "mayBegin", "()Z"⟩
abbrev cX12_atom : ByteArray := prog_14_method_23_code
def yX12_atom : MethodName := ⟨RX12, "atom", "()I"⟩
abbrev cX12_piece : ByteArray := prog_14_method_24_code
def yX12_piece : MethodName := ⟨RX12, "piece", "()I"⟩
abbrev cX12_row : ByteArray := prog_14_method_25_code
def yX12_row : MethodName := ⟨RX12, "row", "()I"⟩
abbrev cX12_either : ByteArray := prog_14_method_26_code
def yX12_either : MethodName := ⟨RX12, "either", "()I"⟩
abbrev cX12_reads : ByteArray := prog_14_method_27_code
def yX12_reads : MethodName := ⟨RX12, "reads", "()V"⟩
abbrev cX12_stepped : ByteArray := prog_14_method_28_code
def yX12_stepped : MethodName := ⟨RX12, "stepped", "(III)I"⟩
abbrev cX12_isGood : ByteArray := prog_14_method_29_code
def yX12_isGood : MethodName := ⟨RX12, "isGood", "(II)Z"⟩
abbrev cX12_rawOf : ByteArray := prog_14_method_30_code
def yX12_rawOf : MethodName := ⟨RX12, "rawOf", "(II)I"⟩
abbrev cX12_laysRaw : ByteArray := prog_14_method_31_code
def yX12_laysRaw : MethodName := ⟨RX12, "laysRaw", "(I)V"⟩
abbrev cX12_isAlike : ByteArray := prog_14_method_32_code
def yX12_isAlike : MethodName := ⟨RX12, "isAlike", "(II)Z"⟩
abbrev cX12_groups : ByteArray := prog_14_method_33_code
def yX12_groups : MethodName := ⟨RX12, "groups", "()I"⟩
abbrev cX12_least : ByteArray := prog_14_method_34_code
def yX12_least : MethodName := ⟨RX12, "least", "(I)Z"⟩
abbrev cX12_numbers : ByteArray := prog_14_method_35_code
def yX12_numbers : MethodName := ⟨RX12, "numbers", "(I)V"⟩
abbrev cX12_nextIn : ByteArray := prog_14_method_36_code
def yX12_nextIn : MethodName := ⟨RX12, "nextIn", "(III)I"⟩
abbrev cX12_isSpot : ByteArray := prog_14_method_37_code
def yX12_isSpot : MethodName := ⟨RX12, "isSpot", "(I)Z"⟩
abbrev cX12_spot : ByteArray := prog_14_method_38_code
def yX12_spot : MethodName := ⟨RX12, "spot", "()I"⟩
abbrev cX12_joins : ByteArray := prog_14_method_39_code
def yX12_joins : MethodName := ⟨RX12, "joins", "()Z"⟩
abbrev cX12_builds : ByteArray := prog_14_method_40_code
def yX12_builds : MethodName := ⟨RX12, "builds", "()V"⟩
abbrev cX12_rule : ByteArray := prog_14_method_41_code
def yX12_rule : MethodName := ⟨RX12, "rule", "(I)I"⟩
abbrev cX12_drop : ByteArray := prog_14_method_42_code
def yX12_drop : MethodName := ⟨RX12, "drop", "()I"⟩
abbrev cX12_states : ByteArray := prog_14_method_43_code
def yX12_states : MethodName := ⟨RX12, "states", "(I)I"⟩
abbrev cX12_next : ByteArray := prog_14_method_44_code
def yX12_next : MethodName := ⟨RX12, "next", "(II)I"⟩
abbrev cX12_runs : ByteArray := prog_14_method_45_code
def yX12_runs : MethodName := ⟨RX12, "runs", "(I)I"⟩
abbrev cX12_run : ByteArray := prog_14_method_46_code
def yX12_run : MethodName := ⟨RX12, "run", "()I"⟩
abbrev cX12_allows : ByteArray := prog_14_method_47_code
def yX12_allows : MethodName := ⟨RX12, "allows", "(I)I"⟩
abbrev cX12_shiftOf : ByteArray := prog_14_method_48_code
def yX12_shiftOf : MethodName := ⟨RX12, "shiftOf", "(II)I"⟩
abbrev cX12_stateOf : ByteArray := prog_14_method_49_code
def yX12_stateOf : MethodName := ⟨RX12, "stateOf", "(II)I"⟩
abbrev cX12_isAccepted : ByteArray := prog_14_method_50_code
def yX12_isAccepted : MethodName := ⟨RX12, "isAccepted", "(I)Z"⟩
abbrev cX12_penaltyOf : ByteArray := prog_14_method_51_code
def yX12_penaltyOf : MethodName := ⟨RX12, "penaltyOf", "(I)I"⟩
abbrev cX12_row_ : ByteArray := prog_14_method_52_code
def yX12_row_ : MethodName := ⟨RX12, "row", "(I)I"⟩
abbrev cX12_put : ByteArray := prog_14_method_53_code
def yX12_put : MethodName := ⟨RX12, "put", "(III)I"⟩
abbrev cX12_at : ByteArray := prog_14_method_54_code
def yX12_at : MethodName := ⟨RX12, "at", "(II)I"⟩
abbrev cX12_reckons : ByteArray := prog_14_method_55_code
def yX12_reckons : MethodName := ⟨RX12, "reckons", "()V"⟩
abbrev cX12_waysBy : ByteArray := prog_14_method_56_code
def yX12_waysBy : MethodName := ⟨RX12, "waysBy", "(III)J"⟩
abbrev cX12_count : ByteArray := prog_14_method_57_code
def yX12_count : MethodName := ⟨RX12, "count", "(II)J"⟩
abbrev cX12_nth : ByteArray := prog_14_method_58_code
def yX12_nth : MethodName := ⟨RX12, "nth", "(JI)I"⟩
abbrev cX12_ahead : ByteArray := prog_14_method_59_code
def yX12_ahead : MethodName := ⟨RX12, "ahead", "(I)J"⟩
abbrev cX12_may : ByteArray := prog_14_method_60_code
def yX12_may : MethodName := ⟨RX12, "may", "(II)I"⟩
abbrev cX12_costAt : ByteArray := prog_14_method_61_code
def yX12_costAt : MethodName := ⟨RX12, "costAt", "(III)I"⟩
abbrev cX12_costBy : ByteArray := prog_14_method_62_code
def yX12_costBy : MethodName := ⟨RX12, "costBy", "(IIIII)I"⟩
abbrev cX12_leastShift : ByteArray := prog_14_method_63_code
def yX12_leastShift : MethodName := ⟨RX12, "leastShift", "(IIII)I"⟩
abbrev cX12_leastOf : ByteArray := prog_14_method_64_code
def yX12_leastOf : MethodName := ⟨RX12, "leastOf", "(I)I"⟩
abbrev cX12_laysBest : ByteArray := prog_14_method_65_code
def yX12_laysBest : MethodName := ⟨RX12, "laysBest", "(I)I"⟩
abbrev cX12_penalty : ByteArray := prog_14_method_66_code
def yX12_penalty : MethodName := ⟨RX12, "penalty", "(I)I"⟩
abbrev cX12_best : ByteArray := prog_14_method_67_code
def yX12_best : MethodName := ⟨RX12, "best", "(II)I"⟩
abbrev cX12_better : ByteArray := prog_14_method_68_code
def yX12_better : MethodName := ⟨RX12, "better", "(I)I"⟩
abbrev cX12_accepted : ByteArray := prog_14_method_69_code
def yX12_accepted : MethodName := ⟨RX12, "accepted", "(I)I"⟩
abbrev cX12_shortOf : ByteArray := prog_14_method_70_code
def yX12_shortOf : MethodName := ⟨RX12, "shortOf", "(II)I"⟩
abbrev cX12_shortInAll : ByteArray := prog_14_method_71_code
def yX12_shortInAll : MethodName := ⟨RX12, "shortInAll", "()I"⟩
abbrev cX12_lacks : ByteArray := prog_14_method_72_code
def yX12_lacks : MethodName := ⟨RX12, "lacks", "(II)I"⟩
abbrev cX12_findMend : ByteArray := prog_14_method_73_code
def yX12_findMend : MethodName := ⟨RX12, "findMend", "()V"⟩
abbrev cX12_mend : ByteArray := prog_14_method_74_code
def yX12_mend : MethodName := ⟨RX12, "mend", "(I)I"⟩
abbrev cX12_repair : ByteArray := prog_14_method_75_code
def yX12_repair : MethodName := ⟨RX12, "repair", "(I)I"⟩
abbrev cX12_gains : ByteArray := prog_14_method_76_code
def yX12_gains : MethodName := ⟨RX12, "gains", "(IIII)I"⟩
abbrev cX12_isSwap : ByteArray := prog_14_method_77_code
def yX12_isSwap : MethodName := ⟨RX12, "isSwap", "(IIII)Z"⟩
abbrev cX12_changes : ByteArray := prog_14_method_78_code
def yX12_changes : MethodName := ⟨RX12, "changes", "(IIII)V"⟩
abbrev cX12_swap : ByteArray := prog_14_method_79_code
def yX12_swap : MethodName := ⟨RX12, "swap", "(IIII)I"⟩
abbrev cX12_swaps : ByteArray := prog_14_method_80_code
def yX12_swaps : MethodName := ⟨RX12, "swaps", "(IIII)I"⟩
abbrev cX12_findSwap : ByteArray := prog_14_method_81_code
def yX12_findSwap : MethodName := ⟨RX12, "findSwap", "()Z"⟩
abbrev cX12_bestSwap : ByteArray := prog_14_method_82_code
def yX12_bestSwap : MethodName := ⟨RX12, "bestSwap", "(I)I"⟩
abbrev cX12_improve : ByteArray := prog_14_method_83_code
def yX12_improve : MethodName := ⟨RX12, "improve", "(I)I"⟩
abbrev cX12_worst : ByteArray := prog_14_method_84_code
def yX12_worst : MethodName := ⟨RX12, "worst", "(I)I"⟩
abbrev cX12_isList : ByteArray := prog_14_method_85_code
def yX12_isList : MethodName := ⟨RX12, "isList", "(I)Z"⟩
abbrev cX12_isPlace : ByteArray := prog_14_method_86_code
def yX12_isPlace : MethodName := ⟨RX12, "isPlace", "(IJ)Z"⟩
abbrev cX12_list : ByteArray := prog_14_method_87_code
def yX12_list : MethodName := ⟨RX12, "list", "(II)I"⟩
abbrev cX12_set : ByteArray := prog_14_method_88_code
def yX12_set : MethodName := ⟨RX12, "set", "(IIJ)I"⟩
abbrev cX12_get : ByteArray := prog_14_method_89_code
def yX12_get : MethodName := ⟨RX12, "get", "(II)J"⟩
abbrev cX12_judge : ByteArray := prog_14_method_90_code
def yX12_judge : MethodName := ⟨RX12, "judge", "(II)I"⟩
abbrev cX12_lay : ByteArray := prog_14_method_91_code
def yX12_lay : MethodName := ⟨RX12, "lay", "(III)I"⟩
abbrev cX12_letterOf : ByteArray := prog_14_method_92_code
def yX12_letterOf : MethodName := ⟨RX12, "letterOf", "(I)I"⟩
abbrev cX12_spell : ByteArray := prog_14_method_93_code
def yX12_spell : MethodName := ⟨RX12, "spell", "(II)I"⟩
abbrev cX12_paper : ByteArray := prog_14_method_94_code
def yX12_paper : MethodName := ⟨RX12, "paper", "(I)I"⟩
abbrev cX12_allPenalties : ByteArray := prog_14_method_95_code
def yX12_allPenalties : MethodName := ⟨RX12, "allPenalties", "()I"⟩
abbrev cX12_sums : ByteArray := prog_14_method_96_code
def yX12_sums : MethodName := ⟨RX12, "sums", "(I)I"⟩
abbrev cX12_copies : ByteArray := prog_14_method_97_code
def yX12_copies : MethodName := ⟨RX12, "copies", "([I[I)V"⟩
abbrev cX12_image : ByteArray := prog_14_method_98_code
def yX12_image : MethodName := ⟨RX12, "image", "()I"⟩
abbrev cX12_undo : ByteArray := prog_14_method_99_code
def yX12_undo : MethodName := ⟨RX12, "undo", "()I"⟩
def RJx8e188 : String := "java/lang/Cloneable"
def TJx8e188 : u_T := fun k => match k with
  | _ => ("", "", "", false)
def tyJx8e188 : Nat → FieldType := fun k => match k with
  | _ => .int
theorem nmJx8e188 : ∀ a, a < 0 → ∀ b, b < 0 → a ≠ b → (TJx8e188 a).2.1 ≠ (TJx8e188 b).2.1 := by decide +kernel
theorem tyJx8e188_ok : ∀ k, k < 0 → parseFieldDescriptor (TJx8e188 k).2.2.1 = some (tyJx8e188 k) := by decide +kernel
def RJ9 : String := "java/lang/Math"
def TJ9 : u_T := fun k => match k with
  | _ => ("", "", "", false)
def tyJ9 : Nat → FieldType := fun k => match k with
  | _ => .int
theorem nmJ9 : ∀ a, a < 0 → ∀ b, b < 0 → a ≠ b → (TJ9 a).2.1 ≠ (TJ9 b).2.1 := by decide +kernel
theorem tyJ9_ok : ∀ k, k < 0 → parseFieldDescriptor (TJ9 k).2.2.1 = some (tyJ9 k) := by decide +kernel
abbrev cJ9_max_7cf53 : ByteArray := prog_16_method_65_code
def yJ9_max_7cf53 : MethodName := ⟨RJ9, "max", "(II)I"⟩
abbrev cJ9_min_7cf53 : ByteArray := prog_16_method_69_code
def yJ9_min_7cf53 : MethodName := ⟨RJ9, "min", "(II)I"⟩
def RJ10 : String := "java/lang/System"
def TJ10 : u_T := fun k => match k with
  | _ => ("", "", "", false)
def tyJ10 : Nat → FieldType := fun k => match k with
  | _ => .int
theorem nmJ10 : ∀ a, a < 0 → ∀ b, b < 0 → a ≠ b → (TJ10 a).2.1 ≠ (TJ10 b).2.1 := by decide +kernel
theorem tyJ10_ok : ∀ k, k < 0 → parseFieldDescriptor (TJ10 k).2.2.1 = some (tyJ10 k) := by decide +kernel
def RJ7 : String := "java/util/Arrays"
def TJ7 : u_T := fun k => match k with
  | _ => ("", "", "", false)
def tyJ7 : Nat → FieldType := fun k => match k with
  | _ => .int
theorem nmJ7 : ∀ a, a < 0 → ∀ b, b < 0 → a ≠ b → (TJ7 a).2.1 ≠ (TJ7 b).2.1 := by decide +kernel
theorem tyJ7_ok : ∀ k, k < 0 → parseFieldDescriptor (TJ7 k).2.2.1 = some (tyJ7 k) := by decide +kernel
abbrev cJ7_rangeCheck_23922 : ByteArray := prog_18_method_30_code
def yJ7_rangeCheck_23922 : MethodName := ⟨RJ7, "rangeCheck", "(III)V"⟩
abbrev cJ7_fill_bad5a : ByteArray := prog_18_method_102_code
def yJ7_fill_bad5a : MethodName := ⟨RJ7, "fill", "([JIIJ)V"⟩
abbrev cJ7_fill_53178 : ByteArray := prog_18_method_103_code
def yJ7_fill_53178 : MethodName := ⟨RJ7, "fill", "([II)V"⟩
abbrev cJ7_copyOf_9075b : ByteArray := prog_18_method_121_code
def yJ7_copyOf_9075b : MethodName := ⟨RJ7, "copyOf", "([BI)[B"⟩
def RL : String := "RosterLanesLaw"
abbrev cL_law : ByteArray := code
def yL_law : MethodName := ⟨RL, "law", "([I)Z"⟩
abbrev vwCl : List vw_C := [(RX0, TX0, 4), (RX1, TX1, 7), (RX2, TX2, 2), (RX3, TX3, 3), (RX4, TX4, 12), (RX5, TX5, 6), (RX6, TX6, 7), (RX7, TX7, 10), (RX8, TX8, 4), (RX9, TX9, 2), (RX10, TX10, 2), (RX11, TX11, 11), (RX12, TX12, 50)]
