section
-- ===== PART A: goes FIRST, ahead of the names: the tables' words, and 'selects' of the private methods out of them =====
/-- a private method of a class that the tables say can be made, by its rows of tables_1 -/
def lw_okq (q : MethodName × Nat) : Prop := (q.1.cls ≠ "java/lang/invoke/MethodHandle" ∧ q.1.cls ≠ "java/lang/invoke/VarHandle") ∧ Cond.instantiable q.1.cls q.2 ∈ tables_1 ∧ Cond.privateMethod q.1 ∈ tables_1 ∧ Cond.instanceMethod q.1 ∈ tables_1
theorem lw_p0 : lw_okq (⟨"FerryRounds$River", "roundAt", "(I)LFerryRounds$Row;"⟩, 7) := ⟨⟨by decide +kernel, by decide +kernel⟩, List.mem_of_getElem? (i := 24) (by decide +kernel), List.mem_of_getElem? (i := 170) (by decide +kernel), List.mem_of_getElem? (i := 171) (by decide +kernel)⟩
theorem lw_p1 : lw_okq (⟨"FerryRounds", "addBank", "(I)I"⟩, 11) := ⟨⟨by decide +kernel, by decide +kernel⟩, List.mem_of_getElem? (i := 16) (by decide +kernel), List.mem_of_getElem? (i := 174) (by decide +kernel), List.mem_of_getElem? (i := 175) (by decide +kernel)⟩
theorem lw_p2 : lw_okq (⟨"FerryRounds", "refuse", "(II)I"⟩, 11) := ⟨⟨by decide +kernel, by decide +kernel⟩, List.mem_of_getElem? (i := 16) (by decide +kernel), List.mem_of_getElem? (i := 186) (by decide +kernel), List.mem_of_getElem? (i := 187) (by decide +kernel)⟩
theorem lw_p3 : lw_okq (⟨"FerryRounds", "settle", "(I)I"⟩, 11) := ⟨⟨by decide +kernel, by decide +kernel⟩, List.mem_of_getElem? (i := 16) (by decide +kernel), List.mem_of_getElem? (i := 195) (by decide +kernel), List.mem_of_getElem? (i := 196) (by decide +kernel)⟩
theorem lw_p4 : lw_okq (⟨"FerryRounds", "setWeight", "(II)I"⟩, 11) := ⟨⟨by decide +kernel, by decide +kernel⟩, List.mem_of_getElem? (i := 16) (by decide +kernel), List.mem_of_getElem? (i := 210) (by decide +kernel), List.mem_of_getElem? (i := 211) (by decide +kernel)⟩
theorem lw_p5 : lw_okq (⟨"FerryRounds", "joinBanks", "(II)I"⟩, 11) := ⟨⟨by decide +kernel, by decide +kernel⟩, List.mem_of_getElem? (i := 16) (by decide +kernel), List.mem_of_getElem? (i := 235) (by decide +kernel), List.mem_of_getElem? (i := 236) (by decide +kernel)⟩
theorem lw_p6 : lw_okq (⟨"FerryRounds", "areThere", "(II)Z"⟩, 11) := ⟨⟨by decide +kernel, by decide +kernel⟩, List.mem_of_getElem? (i := 16) (by decide +kernel), List.mem_of_getElem? (i := 239) (by decide +kernel), List.mem_of_getElem? (i := 240) (by decide +kernel)⟩
theorem lw_p7 : lw_okq (⟨"FerryRounds", "cutRope", "(II)I"⟩, 11) := ⟨⟨by decide +kernel, by decide +kernel⟩, List.mem_of_getElem? (i := 16) (by decide +kernel), List.mem_of_getElem? (i := 311) (by decide +kernel), List.mem_of_getElem? (i := 312) (by decide +kernel)⟩
theorem lw_p8 : lw_okq (⟨"FerryRounds", "turnRound", "(I)I"⟩, 11) := ⟨⟨by decide +kernel, by decide +kernel⟩, List.mem_of_getElem? (i := 16) (by decide +kernel), List.mem_of_getElem? (i := 341) (by decide +kernel), List.mem_of_getElem? (i := 342) (by decide +kernel)⟩
theorem lw_p9 : lw_okq (⟨"FerryRounds", "raisePart", "(II)I"⟩, 11) := ⟨⟨by decide +kernel, by decide +kernel⟩, List.mem_of_getElem? (i := 16) (by decide +kernel), List.mem_of_getElem? (i := 353) (by decide +kernel), List.mem_of_getElem? (i := 354) (by decide +kernel)⟩
theorem lw_p10 : lw_okq (⟨"FerryRounds$River", "partsAheadOf", "(I)I"⟩, 7) := ⟨⟨by decide +kernel, by decide +kernel⟩, List.mem_of_getElem? (i := 24) (by decide +kernel), List.mem_of_getElem? (i := 504) (by decide +kernel), List.mem_of_getElem? (i := 505) (by decide +kernel)⟩
theorem lw_p11 : lw_okq (⟨"FerryRounds$River", "ranksAhead", "(II)Z"⟩, 7) := ⟨⟨by decide +kernel, by decide +kernel⟩, List.mem_of_getElem? (i := 24) (by decide +kernel), List.mem_of_getElem? (i := 508) (by decide +kernel), List.mem_of_getElem? (i := 509) (by decide +kernel)⟩
theorem lw_p12 : lw_okq (⟨"FerryRounds$Script", "takeCommand", "(LFerryRounds$Row;)Z"⟩, 5) := ⟨⟨by decide +kernel, by decide +kernel⟩, List.mem_of_getElem? (i := 88) (by decide +kernel), List.mem_of_getElem? (i := 543) (by decide +kernel), List.mem_of_getElem? (i := 544) (by decide +kernel)⟩
theorem lw_p13 : lw_okq (⟨"FerryRounds$Script", "takeNumber", "(LFerryRounds$Row;)Z"⟩, 5) := ⟨⟨by decide +kernel, by decide +kernel⟩, List.mem_of_getElem? (i := 88) (by decide +kernel), List.mem_of_getElem? (i := 551) (by decide +kernel), List.mem_of_getElem? (i := 552) (by decide +kernel)⟩
theorem lw_p14 : lw_okq (⟨"FerryRounds", "carryOut", "(I)I"⟩, 11) := ⟨⟨by decide +kernel, by decide +kernel⟩, List.mem_of_getElem? (i := 16) (by decide +kernel), List.mem_of_getElem? (i := 567) (by decide +kernel), List.mem_of_getElem? (i := 568) (by decide +kernel)⟩
theorem lw_p15 : lw_okq (⟨"FerryRounds$River", "leavesOverEachRope", "(I)Z"⟩, 7) := ⟨⟨by decide +kernel, by decide +kernel⟩, List.mem_of_getElem? (i := 24) (by decide +kernel), List.mem_of_getElem? (i := 637) (by decide +kernel), List.mem_of_getElem? (i := 638) (by decide +kernel)⟩
def lw_privs_1 : List (MethodName × Nat) := [(⟨"FerryRounds$River", "roundAt", "(I)LFerryRounds$Row;"⟩, 7), (⟨"FerryRounds", "addBank", "(I)I"⟩, 11), (⟨"FerryRounds", "refuse", "(II)I"⟩, 11), (⟨"FerryRounds", "settle", "(I)I"⟩, 11), (⟨"FerryRounds", "setWeight", "(II)I"⟩, 11), (⟨"FerryRounds", "joinBanks", "(II)I"⟩, 11), (⟨"FerryRounds", "areThere", "(II)Z"⟩, 11), (⟨"FerryRounds", "cutRope", "(II)I"⟩, 11), (⟨"FerryRounds", "turnRound", "(I)I"⟩, 11), (⟨"FerryRounds", "raisePart", "(II)I"⟩, 11), (⟨"FerryRounds$River", "partsAheadOf", "(I)I"⟩, 7), (⟨"FerryRounds$River", "ranksAhead", "(II)Z"⟩, 7), (⟨"FerryRounds$Script", "takeCommand", "(LFerryRounds$Row;)Z"⟩, 5), (⟨"FerryRounds$Script", "takeNumber", "(LFerryRounds$Row;)Z"⟩, 5), (⟨"FerryRounds", "carryOut", "(I)I"⟩, 11), (⟨"FerryRounds$River", "leavesOverEachRope", "(I)Z"⟩, 7)]
theorem lw_r1 : ∀ q ∈ lw_privs_1, lw_okq q := List.forall_mem_cons.mpr ⟨lw_p0, List.forall_mem_cons.mpr ⟨lw_p1, List.forall_mem_cons.mpr ⟨lw_p2, List.forall_mem_cons.mpr ⟨lw_p3, List.forall_mem_cons.mpr ⟨lw_p4, List.forall_mem_cons.mpr ⟨lw_p5, List.forall_mem_cons.mpr ⟨lw_p6, List.forall_mem_cons.mpr ⟨lw_p7, List.forall_mem_cons.mpr ⟨lw_p8, List.forall_mem_cons.mpr ⟨lw_p9, List.forall_mem_cons.mpr ⟨lw_p10, List.forall_mem_cons.mpr ⟨lw_p11, List.forall_mem_cons.mpr ⟨lw_p12, List.forall_mem_cons.mpr ⟨lw_p13, List.forall_mem_cons.mpr ⟨lw_p14, List.forall_mem_cons.mpr ⟨lw_p15, fun _ h => absurd h List.not_mem_nil⟩⟩⟩⟩⟩⟩⟩⟩⟩⟩⟩⟩⟩⟩⟩⟩
theorem lw_p16 : lw_okq (⟨"FerryRoundsModel", "refuse", "(ZII)Z"⟩, 21) := ⟨⟨by decide +kernel, by decide +kernel⟩, List.mem_of_getElem? (i := 675) (by decide +kernel), List.mem_of_getElem? (i := 755) (by decide +kernel), List.mem_of_getElem? (i := 756) (by decide +kernel)⟩
theorem lw_p17 : lw_okq (⟨"FerryRoundsModel", "change", "()V"⟩, 21) := ⟨⟨by decide +kernel, by decide +kernel⟩, List.mem_of_getElem? (i := 675) (by decide +kernel), List.mem_of_getElem? (i := 759) (by decide +kernel), List.mem_of_getElem? (i := 760) (by decide +kernel)⟩
theorem lw_p18 : lw_okq (⟨"FerryRoundsModel", "remember", "([I)V"⟩, 21) := ⟨⟨by decide +kernel, by decide +kernel⟩, List.mem_of_getElem? (i := 675) (by decide +kernel), List.mem_of_getElem? (i := 763) (by decide +kernel), List.mem_of_getElem? (i := 764) (by decide +kernel)⟩
theorem lw_p19 : lw_okq (⟨"FerryRoundsModel", "emptyRound", "()I"⟩, 21) := ⟨⟨by decide +kernel, by decide +kernel⟩, List.mem_of_getElem? (i := 675) (by decide +kernel), List.mem_of_getElem? (i := 770) (by decide +kernel), List.mem_of_getElem? (i := 771) (by decide +kernel)⟩
theorem lw_p20 : lw_okq (⟨"FerryRoundsModel", "size", "(I)I"⟩, 21) := ⟨⟨by decide +kernel, by decide +kernel⟩, List.mem_of_getElem? (i := 675) (by decide +kernel), List.mem_of_getElem? (i := 774) (by decide +kernel), List.mem_of_getElem? (i := 775) (by decide +kernel)⟩
theorem lw_p21 : lw_okq (⟨"FerryRoundsModel", "setSize", "(II)V"⟩, 21) := ⟨⟨by decide +kernel, by decide +kernel⟩, List.mem_of_getElem? (i := 675) (by decide +kernel), List.mem_of_getElem? (i := 778) (by decide +kernel), List.mem_of_getElem? (i := 779) (by decide +kernel)⟩
theorem lw_p22 : lw_okq (⟨"FerryRoundsModel", "setPlace", "(III)V"⟩, 21) := ⟨⟨by decide +kernel, by decide +kernel⟩, List.mem_of_getElem? (i := 675) (by decide +kernel), List.mem_of_getElem? (i := 782) (by decide +kernel), List.mem_of_getElem? (i := 783) (by decide +kernel)⟩
theorem lw_p23 : lw_okq (⟨"FerryRoundsModel", "isBank", "(I)Z"⟩, 21) := ⟨⟨by decide +kernel, by decide +kernel⟩, List.mem_of_getElem? (i := 675) (by decide +kernel), List.mem_of_getElem? (i := 790) (by decide +kernel), List.mem_of_getElem? (i := 791) (by decide +kernel)⟩
theorem lw_p24 : lw_okq (⟨"FerryRoundsModel", "weight", "(I)I"⟩, 21) := ⟨⟨by decide +kernel, by decide +kernel⟩, List.mem_of_getElem? (i := 675) (by decide +kernel), List.mem_of_getElem? (i := 794) (by decide +kernel), List.mem_of_getElem? (i := 795) (by decide +kernel)⟩
theorem lw_p25 : lw_okq (⟨"FerryRoundsModel", "areOne", "(II)Z"⟩, 21) := ⟨⟨by decide +kernel, by decide +kernel⟩, List.mem_of_getElem? (i := 675) (by decide +kernel), List.mem_of_getElem? (i := 802) (by decide +kernel), List.mem_of_getElem? (i := 803) (by decide +kernel)⟩
theorem lw_p26 : lw_okq (⟨"FerryRoundsModel", "roundOf", "(I)I"⟩, 21) := ⟨⟨by decide +kernel, by decide +kernel⟩, List.mem_of_getElem? (i := 675) (by decide +kernel), List.mem_of_getElem? (i := 806) (by decide +kernel), List.mem_of_getElem? (i := 807) (by decide +kernel)⟩
theorem lw_p27 : lw_okq (⟨"FerryRoundsModel", "firstIn", "(II)I"⟩, 21) := ⟨⟨by decide +kernel, by decide +kernel⟩, List.mem_of_getElem? (i := 675) (by decide +kernel), List.mem_of_getElem? (i := 810) (by decide +kernel), List.mem_of_getElem? (i := 811) (by decide +kernel)⟩
theorem lw_p28 : lw_okq (⟨"FerryRoundsModel", "place", "(II)I"⟩, 21) := ⟨⟨by decide +kernel, by decide +kernel⟩, List.mem_of_getElem? (i := 675) (by decide +kernel), List.mem_of_getElem? (i := 814) (by decide +kernel), List.mem_of_getElem? (i := 815) (by decide +kernel)⟩
theorem lw_p29 : lw_okq (⟨"FerryRoundsModel", "root", "(I)I"⟩, 21) := ⟨⟨by decide +kernel, by decide +kernel⟩, List.mem_of_getElem? (i := 675) (by decide +kernel), List.mem_of_getElem? (i := 818) (by decide +kernel), List.mem_of_getElem? (i := 819) (by decide +kernel)⟩
theorem lw_p30 : lw_okq (⟨"FerryRoundsModel", "putIn", "(II)V"⟩, 21) := ⟨⟨by decide +kernel, by decide +kernel⟩, List.mem_of_getElem? (i := 675) (by decide +kernel), List.mem_of_getElem? (i := 822) (by decide +kernel), List.mem_of_getElem? (i := 823) (by decide +kernel)⟩
theorem lw_p31 : lw_okq (⟨"FerryRoundsModel", "turnTo", "(I)V"⟩, 21) := ⟨⟨by decide +kernel, by decide +kernel⟩, List.mem_of_getElem? (i := 675) (by decide +kernel), List.mem_of_getElem? (i := 826) (by decide +kernel), List.mem_of_getElem? (i := 827) (by decide +kernel)⟩
def lw_privs_2 : List (MethodName × Nat) := [(⟨"FerryRoundsModel", "refuse", "(ZII)Z"⟩, 21), (⟨"FerryRoundsModel", "change", "()V"⟩, 21), (⟨"FerryRoundsModel", "remember", "([I)V"⟩, 21), (⟨"FerryRoundsModel", "emptyRound", "()I"⟩, 21), (⟨"FerryRoundsModel", "size", "(I)I"⟩, 21), (⟨"FerryRoundsModel", "setSize", "(II)V"⟩, 21), (⟨"FerryRoundsModel", "setPlace", "(III)V"⟩, 21), (⟨"FerryRoundsModel", "isBank", "(I)Z"⟩, 21), (⟨"FerryRoundsModel", "weight", "(I)I"⟩, 21), (⟨"FerryRoundsModel", "areOne", "(II)Z"⟩, 21), (⟨"FerryRoundsModel", "roundOf", "(I)I"⟩, 21), (⟨"FerryRoundsModel", "firstIn", "(II)I"⟩, 21), (⟨"FerryRoundsModel", "place", "(II)I"⟩, 21), (⟨"FerryRoundsModel", "root", "(I)I"⟩, 21), (⟨"FerryRoundsModel", "putIn", "(II)V"⟩, 21), (⟨"FerryRoundsModel", "turnTo", "(I)V"⟩, 21)]
theorem lw_r2 : ∀ q ∈ lw_privs_2, lw_okq q := List.forall_mem_cons.mpr ⟨lw_p16, List.forall_mem_cons.mpr ⟨lw_p17, List.forall_mem_cons.mpr ⟨lw_p18, List.forall_mem_cons.mpr ⟨lw_p19, List.forall_mem_cons.mpr ⟨lw_p20, List.forall_mem_cons.mpr ⟨lw_p21, List.forall_mem_cons.mpr ⟨lw_p22, List.forall_mem_cons.mpr ⟨lw_p23, List.forall_mem_cons.mpr ⟨lw_p24, List.forall_mem_cons.mpr ⟨lw_p25, List.forall_mem_cons.mpr ⟨lw_p26, List.forall_mem_cons.mpr ⟨lw_p27, List.forall_mem_cons.mpr ⟨lw_p28, List.forall_mem_cons.mpr ⟨lw_p29, List.forall_mem_cons.mpr ⟨lw_p30, List.forall_mem_cons.mpr ⟨lw_p31, fun _ h => absurd h List.not_mem_nil⟩⟩⟩⟩⟩⟩⟩⟩⟩⟩⟩⟩⟩⟩⟩⟩
theorem lw_p32 : lw_okq (⟨"FerryRoundsModel", "banksOf", "(I)I"⟩, 21) := ⟨⟨by decide +kernel, by decide +kernel⟩, List.mem_of_getElem? (i := 675) (by decide +kernel), List.mem_of_getElem? (i := 830) (by decide +kernel), List.mem_of_getElem? (i := 831) (by decide +kernel)⟩
theorem lw_p33 : lw_okq (⟨"FerryRoundsModel", "isTied", "(II)Z"⟩, 21) := ⟨⟨by decide +kernel, by decide +kernel⟩, List.mem_of_getElem? (i := 675) (by decide +kernel), List.mem_of_getElem? (i := 838) (by decide +kernel), List.mem_of_getElem? (i := 839) (by decide +kernel)⟩
theorem lw_p34 : lw_okq (⟨"FerryRoundsModel", "lower", "(II)I"⟩, 21) := ⟨⟨by decide +kernel, by decide +kernel⟩, List.mem_of_getElem? (i := 675) (by decide +kernel), List.mem_of_getElem? (i := 842) (by decide +kernel), List.mem_of_getElem? (i := 843) (by decide +kernel)⟩
theorem lw_p35 : lw_okq (⟨"FerryRoundsModel", "first", "(I)I"⟩, 21) := ⟨⟨by decide +kernel, by decide +kernel⟩, List.mem_of_getElem? (i := 675) (by decide +kernel), List.mem_of_getElem? (i := 846) (by decide +kernel), List.mem_of_getElem? (i := 847) (by decide +kernel)⟩
theorem lw_p36 : lw_okq (⟨"FerryRoundsModel", "last", "(I)I"⟩, 21) := ⟨⟨by decide +kernel, by decide +kernel⟩, List.mem_of_getElem? (i := 675) (by decide +kernel), List.mem_of_getElem? (i := 850) (by decide +kernel), List.mem_of_getElem? (i := 851) (by decide +kernel)⟩
theorem lw_p37 : lw_okq (⟨"FerryRoundsModel", "risen", "(II)I"⟩, 21) := ⟨⟨by decide +kernel, by decide +kernel⟩, List.mem_of_getElem? (i := 675) (by decide +kernel), List.mem_of_getElem? (i := 862) (by decide +kernel), List.mem_of_getElem? (i := 863) (by decide +kernel)⟩
theorem lw_p38 : lw_okq (⟨"FerryRoundsModel", "depth", "(I)I"⟩, 21) := ⟨⟨by decide +kernel, by decide +kernel⟩, List.mem_of_getElem? (i := 675) (by decide +kernel), List.mem_of_getElem? (i := 879) (by decide +kernel), List.mem_of_getElem? (i := 880) (by decide +kernel)⟩
theorem lw_p39 : lw_okq (⟨"FerryRoundsModel", "below", "(II)Z"⟩, 21) := ⟨⟨by decide +kernel, by decide +kernel⟩, List.mem_of_getElem? (i := 675) (by decide +kernel), List.mem_of_getElem? (i := 883) (by decide +kernel), List.mem_of_getElem? (i := 884) (by decide +kernel)⟩
theorem lw_p40 : lw_okq (⟨"FerryRoundsModel", "ropes", "(I)I"⟩, 21) := ⟨⟨by decide +kernel, by decide +kernel⟩, List.mem_of_getElem? (i := 675) (by decide +kernel), List.mem_of_getElem? (i := 887) (by decide +kernel), List.mem_of_getElem? (i := 888) (by decide +kernel)⟩
theorem lw_p41 : lw_okq (⟨"FerryRoundsModel", "above", "(I)I"⟩, 21) := ⟨⟨by decide +kernel, by decide +kernel⟩, List.mem_of_getElem? (i := 675) (by decide +kernel), List.mem_of_getElem? (i := 891) (by decide +kernel), List.mem_of_getElem? (i := 892) (by decide +kernel)⟩
theorem lw_p42 : lw_okq (⟨"FerryRoundsModel", "countBelow", "(I)I"⟩, 21) := ⟨⟨by decide +kernel, by decide +kernel⟩, List.mem_of_getElem? (i := 675) (by decide +kernel), List.mem_of_getElem? (i := 895) (by decide +kernel), List.mem_of_getElem? (i := 896) (by decide +kernel)⟩
theorem lw_p43 : lw_okq (⟨"FerryRoundsModel", "sumBelow", "(I)I"⟩, 21) := ⟨⟨by decide +kernel, by decide +kernel⟩, List.mem_of_getElem? (i := 675) (by decide +kernel), List.mem_of_getElem? (i := 899) (by decide +kernel), List.mem_of_getElem? (i := 900) (by decide +kernel)⟩
theorem lw_p44 : lw_okq (⟨"FerryRoundsModel", "greatestDepth", "(I)I"⟩, 21) := ⟨⟨by decide +kernel, by decide +kernel⟩, List.mem_of_getElem? (i := 675) (by decide +kernel), List.mem_of_getElem? (i := 915) (by decide +kernel), List.mem_of_getElem? (i := 916) (by decide +kernel)⟩
theorem lw_p45 : lw_okq (⟨"FerryRoundsModel", "heaviest", "(I)I"⟩, 21) := ⟨⟨by decide +kernel, by decide +kernel⟩, List.mem_of_getElem? (i := 675) (by decide +kernel), List.mem_of_getElem? (i := 919) (by decide +kernel), List.mem_of_getElem? (i := 920) (by decide +kernel)⟩
theorem lw_p46 : lw_okq (⟨"FerryRoundsModel", "meeting", "(II)I"⟩, 21) := ⟨⟨by decide +kernel, by decide +kernel⟩, List.mem_of_getElem? (i := 675) (by decide +kernel), List.mem_of_getElem? (i := 935) (by decide +kernel), List.mem_of_getElem? (i := 936) (by decide +kernel)⟩
theorem lw_p47 : lw_okq (⟨"FerryRoundsModel", "climb", "(II)I"⟩, 21) := ⟨⟨by decide +kernel, by decide +kernel⟩, List.mem_of_getElem? (i := 675) (by decide +kernel), List.mem_of_getElem? (i := 943) (by decide +kernel), List.mem_of_getElem? (i := 944) (by decide +kernel)⟩
def lw_privs_3 : List (MethodName × Nat) := [(⟨"FerryRoundsModel", "banksOf", "(I)I"⟩, 21), (⟨"FerryRoundsModel", "isTied", "(II)Z"⟩, 21), (⟨"FerryRoundsModel", "lower", "(II)I"⟩, 21), (⟨"FerryRoundsModel", "first", "(I)I"⟩, 21), (⟨"FerryRoundsModel", "last", "(I)I"⟩, 21), (⟨"FerryRoundsModel", "risen", "(II)I"⟩, 21), (⟨"FerryRoundsModel", "depth", "(I)I"⟩, 21), (⟨"FerryRoundsModel", "below", "(II)Z"⟩, 21), (⟨"FerryRoundsModel", "ropes", "(I)I"⟩, 21), (⟨"FerryRoundsModel", "above", "(I)I"⟩, 21), (⟨"FerryRoundsModel", "countBelow", "(I)I"⟩, 21), (⟨"FerryRoundsModel", "sumBelow", "(I)I"⟩, 21), (⟨"FerryRoundsModel", "greatestDepth", "(I)I"⟩, 21), (⟨"FerryRoundsModel", "heaviest", "(I)I"⟩, 21), (⟨"FerryRoundsModel", "meeting", "(II)I"⟩, 21), (⟨"FerryRoundsModel", "climb", "(II)I"⟩, 21)]
theorem lw_r3 : ∀ q ∈ lw_privs_3, lw_okq q := List.forall_mem_cons.mpr ⟨lw_p32, List.forall_mem_cons.mpr ⟨lw_p33, List.forall_mem_cons.mpr ⟨lw_p34, List.forall_mem_cons.mpr ⟨lw_p35, List.forall_mem_cons.mpr ⟨lw_p36, List.forall_mem_cons.mpr ⟨lw_p37, List.forall_mem_cons.mpr ⟨lw_p38, List.forall_mem_cons.mpr ⟨lw_p39, List.forall_mem_cons.mpr ⟨lw_p40, List.forall_mem_cons.mpr ⟨lw_p41, List.forall_mem_cons.mpr ⟨lw_p42, List.forall_mem_cons.mpr ⟨lw_p43, List.forall_mem_cons.mpr ⟨lw_p44, List.forall_mem_cons.mpr ⟨lw_p45, List.forall_mem_cons.mpr ⟨lw_p46, List.forall_mem_cons.mpr ⟨lw_p47, fun _ h => absurd h List.not_mem_nil⟩⟩⟩⟩⟩⟩⟩⟩⟩⟩⟩⟩⟩⟩⟩⟩
theorem lw_p48 : lw_okq (⟨"FerryRoundsModel", "heaviestLeft", "(I)I"⟩, 21) := ⟨⟨by decide +kernel, by decide +kernel⟩, List.mem_of_getElem? (i := 675) (by decide +kernel), List.mem_of_getElem? (i := 959) (by decide +kernel), List.mem_of_getElem? (i := 960) (by decide +kernel)⟩
theorem lw_p49 : lw_okq (⟨"FerryRoundsModel", "isAhead", "(II)Z"⟩, 21) := ⟨⟨by decide +kernel, by decide +kernel⟩, List.mem_of_getElem? (i := 675) (by decide +kernel), List.mem_of_getElem? (i := 967) (by decide +kernel), List.mem_of_getElem? (i := 968) (by decide +kernel)⟩
theorem lw_p50 : lw_okq (⟨"FerryRoundsModel", "writeNumber", "(I)V"⟩, 21) := ⟨⟨by decide +kernel, by decide +kernel⟩, List.mem_of_getElem? (i := 675) (by decide +kernel), List.mem_of_getElem? (i := 975) (by decide +kernel), List.mem_of_getElem? (i := 976) (by decide +kernel)⟩
theorem lw_p51 : lw_okq (⟨"FerryRoundsModel", "write", "(C)V"⟩, 21) := ⟨⟨by decide +kernel, by decide +kernel⟩, List.mem_of_getElem? (i := 675) (by decide +kernel), List.mem_of_getElem? (i := 979) (by decide +kernel), List.mem_of_getElem? (i := 980) (by decide +kernel)⟩
theorem lw_p52 : lw_okq (⟨"FerryRoundsModel", "countCommands", "()I"⟩, 21) := ⟨⟨by decide +kernel, by decide +kernel⟩, List.mem_of_getElem? (i := 675) (by decide +kernel), List.mem_of_getElem? (i := 999) (by decide +kernel), List.mem_of_getElem? (i := 1000) (by decide +kernel)⟩
theorem lw_p53 : lw_okq (⟨"FerryRoundsModel", "readCommand", "()V"⟩, 21) := ⟨⟨by decide +kernel, by decide +kernel⟩, List.mem_of_getElem? (i := 675) (by decide +kernel), List.mem_of_getElem? (i := 1003) (by decide +kernel), List.mem_of_getElem? (i := 1004) (by decide +kernel)⟩
theorem lw_p54 : lw_okq (⟨"FerryRoundsModel", "readNumber", "()I"⟩, 21) := ⟨⟨by decide +kernel, by decide +kernel⟩, List.mem_of_getElem? (i := 675) (by decide +kernel), List.mem_of_getElem? (i := 1090) (by decide +kernel), List.mem_of_getElem? (i := 1091) (by decide +kernel)⟩
theorem lw_p55 : lw_okq (⟨"FerryRoundsModel", "sees", "(II)Z"⟩, 21) := ⟨⟨by decide +kernel, by decide +kernel⟩, List.mem_of_getElem? (i := 675) (by decide +kernel), List.mem_of_getElem? (i := 1094) (by decide +kernel), List.mem_of_getElem? (i := 1095) (by decide +kernel)⟩
theorem lw_p56 : lw_okq (⟨"FerryRoundsModel", "readBehind", "(I)V"⟩, 21) := ⟨⟨by decide +kernel, by decide +kernel⟩, List.mem_of_getElem? (i := 675) (by decide +kernel), List.mem_of_getElem? (i := 1098) (by decide +kernel), List.mem_of_getElem? (i := 1099) (by decide +kernel)⟩
theorem lw_p57 : lw_okq (⟨"FerryRoundsModel", "must", "(I)V"⟩, 21) := ⟨⟨by decide +kernel, by decide +kernel⟩, List.mem_of_getElem? (i := 675) (by decide +kernel), List.mem_of_getElem? (i := 1102) (by decide +kernel), List.mem_of_getElem? (i := 1103) (by decide +kernel)⟩
theorem lw_p58 : lw_okq (⟨"FerryRoundsModel", "readRise", "()V"⟩, 21) := ⟨⟨by decide +kernel, by decide +kernel⟩, List.mem_of_getElem? (i := 675) (by decide +kernel), List.mem_of_getElem? (i := 1106) (by decide +kernel), List.mem_of_getElem? (i := 1107) (by decide +kernel)⟩
theorem lw_p59 : lw_okq (⟨"FerryRoundsModel", "carryOut", "()I"⟩, 21) := ⟨⟨by decide +kernel, by decide +kernel⟩, List.mem_of_getElem? (i := 675) (by decide +kernel), List.mem_of_getElem? (i := 1110) (by decide +kernel), List.mem_of_getElem? (i := 1111) (by decide +kernel)⟩
theorem lw_p60 : lw_okq (⟨"FerryRoundsModel", "parts", "()I"⟩, 21) := ⟨⟨by decide +kernel, by decide +kernel⟩, List.mem_of_getElem? (i := 675) (by decide +kernel), List.mem_of_getElem? (i := 1129) (by decide +kernel), List.mem_of_getElem? (i := 1130) (by decide +kernel)⟩
theorem lw_p61 : lw_okq (⟨"FerryRoundsModel", "allWeights", "()I"⟩, 21) := ⟨⟨by decide +kernel, by decide +kernel⟩, List.mem_of_getElem? (i := 675) (by decide +kernel), List.mem_of_getElem? (i := 1133) (by decide +kernel), List.mem_of_getElem? (i := 1134) (by decide +kernel)⟩
theorem lw_p62 : lw_okq (⟨"FerryRoundsModel", "allPlaces", "()I"⟩, 21) := ⟨⟨by decide +kernel, by decide +kernel⟩, List.mem_of_getElem? (i := 675) (by decide +kernel), List.mem_of_getElem? (i := 1137) (by decide +kernel), List.mem_of_getElem? (i := 1138) (by decide +kernel)⟩
theorem lw_p63 : lw_okq (⟨"FerryRoundsModel", "deepest", "()I"⟩, 21) := ⟨⟨by decide +kernel, by decide +kernel⟩, List.mem_of_getElem? (i := 675) (by decide +kernel), List.mem_of_getElem? (i := 1141) (by decide +kernel), List.mem_of_getElem? (i := 1142) (by decide +kernel)⟩
def lw_privs_4 : List (MethodName × Nat) := [(⟨"FerryRoundsModel", "heaviestLeft", "(I)I"⟩, 21), (⟨"FerryRoundsModel", "isAhead", "(II)Z"⟩, 21), (⟨"FerryRoundsModel", "writeNumber", "(I)V"⟩, 21), (⟨"FerryRoundsModel", "write", "(C)V"⟩, 21), (⟨"FerryRoundsModel", "countCommands", "()I"⟩, 21), (⟨"FerryRoundsModel", "readCommand", "()V"⟩, 21), (⟨"FerryRoundsModel", "readNumber", "()I"⟩, 21), (⟨"FerryRoundsModel", "sees", "(II)Z"⟩, 21), (⟨"FerryRoundsModel", "readBehind", "(I)V"⟩, 21), (⟨"FerryRoundsModel", "must", "(I)V"⟩, 21), (⟨"FerryRoundsModel", "readRise", "()V"⟩, 21), (⟨"FerryRoundsModel", "carryOut", "()I"⟩, 21), (⟨"FerryRoundsModel", "parts", "()I"⟩, 21), (⟨"FerryRoundsModel", "allWeights", "()I"⟩, 21), (⟨"FerryRoundsModel", "allPlaces", "()I"⟩, 21), (⟨"FerryRoundsModel", "deepest", "()I"⟩, 21)]
theorem lw_r4 : ∀ q ∈ lw_privs_4, lw_okq q := List.forall_mem_cons.mpr ⟨lw_p48, List.forall_mem_cons.mpr ⟨lw_p49, List.forall_mem_cons.mpr ⟨lw_p50, List.forall_mem_cons.mpr ⟨lw_p51, List.forall_mem_cons.mpr ⟨lw_p52, List.forall_mem_cons.mpr ⟨lw_p53, List.forall_mem_cons.mpr ⟨lw_p54, List.forall_mem_cons.mpr ⟨lw_p55, List.forall_mem_cons.mpr ⟨lw_p56, List.forall_mem_cons.mpr ⟨lw_p57, List.forall_mem_cons.mpr ⟨lw_p58, List.forall_mem_cons.mpr ⟨lw_p59, List.forall_mem_cons.mpr ⟨lw_p60, List.forall_mem_cons.mpr ⟨lw_p61, List.forall_mem_cons.mpr ⟨lw_p62, List.forall_mem_cons.mpr ⟨lw_p63, fun _ h => absurd h List.not_mem_nil⟩⟩⟩⟩⟩⟩⟩⟩⟩⟩⟩⟩⟩⟩⟩⟩
def lw_privs : List (MethodName × Nat) := lw_privs_1 ++ (lw_privs_2 ++ (lw_privs_3 ++ (lw_privs_4)))
def lw_tbl : List Cond := k2_sels lw_privs ++ tables_1
theorem lw_privs_ok : ∀ q ∈ lw_privs, lw_okq q := by
  show ∀ q ∈ lw_privs_1 ++ (lw_privs_2 ++ (lw_privs_3 ++ (lw_privs_4))), lw_okq q
  exact List.forall_mem_append.mpr ⟨lw_r1, List.forall_mem_append.mpr ⟨lw_r2, List.forall_mem_append.mpr ⟨lw_r3, lw_r4⟩⟩⟩
/-- the streams that the claim lets the run draw from -/
abbrev lw_cs : List Choice := [Jvm.Choice.named "NaN.bits"]
theorem lw_bits : nanBits ∈ lw_cs := by first | decide | exact List.mem_cons_self | simp [lw_cs, nanBits]
-- ===== end of PART A; then your names; then what follows =====
end
section
/-! ===== BEGIN words of one list among another's, by their places ===== -/
theorem goodIn_r {big : List Cond} (ws : List Cond) (ps : List Nat) (hp : ws = ps.filterMap (fun i => big[i]?)) (h : ws.all goodWord = true) : GoodIn big ws := by
  intro w hw
  have h1 := List.all_eq_true.mp h w hw
  rw [hp] at hw
  obtain ⟨i, -, hi⟩ := List.mem_filterMap.mp hw
  have hm : w ∈ big := by first | exact List.mem_of_getElem? hi | exact List.getElem?_mem hi
  exact ⟨hm, good_of_word h1⟩
theorem goodIn_app {big a b : List Cond} (ha : GoodIn big a) (hb : GoodIn big b) : GoodIn big (a ++ b) := fun w h => (List.mem_append.mp h).elim (ha w) (hb w)
theorem goodIn_ca {big a b : List Cond} {c : Cond} (ha : GoodIn big (c :: a)) (hb : GoodIn big b) : GoodIn big (c :: (a ++ b)) := fun w h => (List.mem_cons.mp h).elim (fun e => ha w (List.mem_cons.mpr (Or.inl e))) (fun h => (List.mem_append.mp h).elim (fun h => ha w (List.mem_cons.mpr (Or.inr h))) (hb w))
theorem goodIn_sub {big ws : List Cond} (hm : ∀ w ∈ ws, w ∈ big) (h : ws.all goodWord = true) : GoodIn big ws := fun w hw => ⟨hm w hw, good_of_word (List.all_eq_true.mp h w hw)⟩
/-! ===== END ===== -/

def va_AOA (ty : FieldType) (U : State) : Prop := (Cond.arrayOver (.array ty)).before #[] U = true
theorem va_AOA.of {ty : FieldType} {A : Array Value} {U : State} (h : (Cond.arrayOver (.array ty)).before A U = true) : va_AOA ty U := h
theorem va_AOA.use {ty : FieldType} {A : Array Value} {U : State} (h : va_AOA ty U) : (Cond.arrayOver (.array ty)).before A U = true := h
/-! ===== BEGIN new T[n][m]: the outer array a place, the inner ones among the pooled ===== -/
/-- f, but v at every address of l -/
def vr_up {α : Type} (f : Nat → α) (l : List Nat) (v : α) : Nat → α := fun a => if a ∈ l then v else f a
theorem vr_up_in {α : Type} {f : Nat → α} {l : List Nat} {v : α} {a : Nat} (h : a ∈ l) : vr_up f l v a = v := if_pos h
theorem vr_up_ne {α : Type} {f : Nat → α} {l : List Nat} {v : α} {a : Nat} (h : a ∉ l) : vr_up f l v a = f a := if_neg h
theorem vr_rows {L l : List Nat} {f : Nat → va_E} {e : va_E} (h : ∀ a, a ∈ l → a ∉ L) : va_pl L f ++ l.map (fun a => (a, e)) = va_pl (L ++ l) (vr_up f l e) := by
  unfold va_pl
  rw [List.map_append]
  congr 1
  · apply List.map_congr_left
    intro a ha
    rw [vr_up_ne (fun q => h a q ha)]
  · apply List.map_congr_left
    intro a ha
    rw [vr_up_in ha]
theorem vr_lay {X rows : va_W} {x : Nat × va_E} {pl : va_W} {D : va_G} {cl : List vw_C} {H : Heap} (hP : va_P D cl (((X ++ pl) ++ [x]) ++ rows) H) : va_P D cl ((X ++ [x]) ++ (pl ++ rows)) H := by
  rw [List.append_assoc (X ++ pl)] at hP
  have h := va_P.swap hP
  rw [← List.append_assoc X] at h
  have h2 := va_P.swap h
  rw [List.append_assoc (X ++ [x])] at h2
  exact h2
theorem vr_layD {X rows : va_W} {x : Nat × va_E} {pl : va_W} {A : Nat → Prop} (hD : va_D A (((X ++ pl) ++ [x]) ++ rows)) : va_D A ((X ++ [x]) ++ (pl ++ rows)) := by
  rw [List.append_assoc (X ++ pl)] at hD
  have h := va_D.swap hD
  rw [← List.append_assoc X] at h
  have h2 := va_D.swap h
  rw [List.append_assoc (X ++ [x])] at h2
  exact h2
theorem vr_outer (c : ClassId) (N h0 : Nat) : ∀ i : Nat, Jvm.Free.Multi.outerC c N h0 i = arrV c N (fun j => va_rf (if j < i then some (h0 + 1 + j) else none))
  | 0 => by
    show ({ cls := c, slots := Array.replicate N .null, vm := .none } : Cell) = _
    rw [arrV_new]
    refine congrArg (arrV c N) (funext fun j => ?_)
    simp [va_rf]
  | i + 1 => by
    show (Jvm.Free.Multi.outerC c N h0 i).setSlot i (.ref (h0 + 1 + i)) = _
    rw [vr_outer c N h0 i, arrV_store]
    refine congrArg (arrV c N) (funext fun j => ?_)
    by_cases e : j = i
    · subst e
      simp [updV, va_rf]
    · by_cases h : j < i
      · simp [updV, e, h, Nat.lt_succ_of_lt h]
      · simp [updV, e, h, show ¬ j < i + 1 by omega]
section VGM
variable {p : Program} {l : Launch} {e : Env} {R : Room} {s : State} {m : MethodId} {args : Array Value} {below : List Frame} {meth : Method} {c : Code} {H : Heap} {locs : List Loc} {cells slots : Nat} {Q : State → Prop}
variable {cc : ByteArray} {pc : Nat} {ls : Array Slot} {rest : List Value} {D : va_G} {cl : List vw_C} {A : Nat → Prop} {a : Nat} {tys : List (ClassId × FieldType)} {ws : va_W} {H0 : Heap}
theorem va_mna {X : va_W} {L : List Nat} {f : Nat → va_E} {cc : ByteArray} (hexec : p.tables.exec = Jvm.exec) (hb : c.code = cc) {own : String} {index : Nat} {ty : FieldType} {cy : ClassId} (hown : s.vm.findClass own = some m.cls) (hclink : (Cond.classLink own index ("[" ++ (FieldType.array ty).toString)).before args s = true) (hover : va_AOA ty s) (harr : (Cond.arrayClass ty).before args s = true) (hcy : s.vm.findClass (FieldType.array ty).toString = some cy)
    (hK : va_K D cl tys s) (hP : va_P D cl (X ++ va_pl L f) H) (hD : va_D A (X ++ va_pl L f)) (hS : va_S A H0 H locs) (hA : ∀ q, H0.size ≤ q → A q) {n k : Int32} {N' K' : Nat} {z : vp_A} (hn : ¬ n < 0) (hk : ¬ k < 0) (hN : n.toNatClampNeg = N') (hM : k.toNatClampNeg = K')
    (hb1 : N' * 4 ≤ 536870912) (hb2 : K' * componentBytes ty ≤ 536870912) (hb3 : K' ≤ 536870912) (hdf : fits ty (defaultValue ty) = true) (hdd : (defaultValue ty).isDefault = true) (hcells : cells + (1 + N') ≤ R.cells) (hslots : slots + (N' + N' * K') ≤ R.slots) (hz : ∀ c : ClassId, Jvm.Free.Multi.innerC c K' (defaultValue ty) = vp_cell c z) (hdg : decode cc pc = .ok (.multianewarray index 2, 4))
    (kk : ∀ (q : Nat) (r : Nat → Nat) (cA : ClassId) (H1 : Heap), (∀ i j : Nat, i < N' → j < N' → r i = r j → i = j) → (∀ i : Nat, i < N' → r i ∉ L) → va_K D cl (tys ++ [(cA, .array ty)]) s →
      va_P D cl ((X ++ [(q, .inl (cA, N', .inr (.inr (.inr (.inr (fun i => if i < N' then some (r i) else none))))))]) ++ va_pl (L ++ (List.range N').map r) (vr_up f ((List.range N').map r) (.inl (cy, z)))) H1 → va_D A ((X ++ [(q, .inl (cA, N', .inr (.inr (.inr (.inr (fun i => if i < N' then some (r i) else none))))))]) ++ va_pl (L ++ (List.range N').map r) (vr_up f ((List.range N').map r) (.inl (cy, z)))) → va_S A H0 H1 locs →
      W p l e R s m args below meth c H1 locs (cells + 1 + N') (slots + N' + N' * K') Q (F0 m (pc + 4) ls (.ref q :: rest))) : W p l e R s m args below meth c H locs cells slots Q (F0 m pc ls (.int k :: .int n :: rest)) := by
  subst hN
  subst hM
  intro T hT Xs
  obtain ⟨vm₁, cA, comp, -, fA, fC, hO, -, X', step⟩ := Xs.multianewarray2F hexec hown hclink (va_AOA.use hover) harr (g := F0 m pc ls (.int k :: .int n :: rest)) rfl (by rw [hb]; exact hdg) rfl hn hk hb1 hb2 hb3 hdf hdd hcells hslots
  have ec : some cy = some comp := hcy.symm.trans fC
  cases ec
  generalize hF : Jvm.Free.Multi.fill (T.setVm vm₁) cA cy n.toNatClampNeg k.toNatClampNeg (defaultValue ty) n.toNatClampNeg = F at X' step
  have hTh : (T.setVm vm₁).heap = H := hT
  obtain ⟨f1, f2, -, -⟩ := Jvm.Free.Multi.fill_facts (T.setVm vm₁) cA cy n.toNatClampNeg k.toNatClampNeg (defaultValue ty) n.toNatClampNeg
  rw [hF, hTh] at f1 f2
  have hold : ∀ x : Nat, x < H.size → F.heap[x]? = H[x]? := fun x hx => by
    have := Jvm.Free.Multi.fill_old (T.setVm vm₁) cA cy n.toNatClampNeg k.toNatClampNeg (defaultValue ty) (a := x) (by rw [hTh]; exact hx) n.toNatClampNeg
    rw [hF, hTh] at this
    exact this
  have hrow : ∀ j : Nat, j < n.toNatClampNeg → F.heap[H.size + 1 + j]? = some (vp_cell cy z) := fun j hj => by
    have := Jvm.Free.Multi.fill_inner (T.setVm vm₁) cA cy n.toNatClampNeg k.toNatClampNeg (defaultValue ty) n.toNatClampNeg j hj
    rw [hF, hTh, hz] at this
    exact this
  have hout : Jvm.Free.Multi.outerC cA n.toNatClampNeg H.size n.toNatClampNeg = vp_cell cA (n.toNatClampNeg, .inr (.inr (.inr (.inr (fun i => if i < n.toNatClampNeg then some (H.size + 1 + i) else none))))) := by
    rw [vp_cell_q]
    exact vr_outer cA n.toNatClampNeg H.size n.toNatClampNeg
  rw [hout] at f2
  have hlt : ∀ a, a ∈ L → a < H.size := fun a ha => by
    obtain ⟨k9, hk9⟩ := va_pl_get (X := X) (f := f) ha
    exact (hP k9 _ hk9).lt
  have hnl : ∀ i : Nat, i < n.toNatClampNeg → H.size + 1 + i ∉ L := fun i _ h => by
    have := hlt _ h
    omega
  have hnm : ∀ a, a ∈ (List.range n.toNatClampNeg).map (fun i => H.size + 1 + i) → a ∉ L := fun a ha h => by
    obtain ⟨i, -, rfl⟩ := List.mem_map.mp ha
    have := hlt _ h
    omega
  have hP0 : va_P D cl (X ++ va_pl L f) F.heap := hP.kept (fun k9 x hx => hold x.1 ((hP k9 x hx).lt))
  have hP1 : va_P D cl ((X ++ va_pl L f) ++ [(H.size, .inl (cA, n.toNatClampNeg, .inr (.inr (.inr (.inr (fun i => if i < n.toNatClampNeg then some (H.size + 1 + i) else none))))))]) F.heap := hP0.app (fun k9 x hx => by
    have h0 : k9 < 1 := (List.getElem?_eq_some_iff.mp hx).1
    rw [show k9 = 0 by omega] at hx
    cases hx
    exact f2)
  have hP2 : va_P D cl (((X ++ va_pl L f) ++ [(H.size, .inl (cA, n.toNatClampNeg, .inr (.inr (.inr (.inr (fun i => if i < n.toNatClampNeg then some (H.size + 1 + i) else none))))))]) ++ ((List.range n.toNatClampNeg).map (fun i => H.size + 1 + i)).map (fun a => (a, .inl (cy, z)))) F.heap := hP1.app (fun k9 x hx => by
    obtain ⟨a, ha, rfl⟩ := List.mem_map.mp (List.mem_of_getElem? hx)
    obtain ⟨i, hi, rfl⟩ := List.mem_map.mp ha
    exact hrow i (List.mem_range.mp hi))
  have hD2 : va_D A (((X ++ va_pl L f) ++ [(H.size, .inl (cA, n.toNatClampNeg, .inr (.inr (.inr (.inr (fun i => if i < n.toNatClampNeg then some (H.size + 1 + i) else none))))))]) ++ ((List.range n.toNatClampNeg).map (fun i => H.size + 1 + i)).map (fun a => (a, .inl (cy, z)))) := by
    have hD1 := hD.push (e := .inl (cA, n.toNatClampNeg, .inr (.inr (.inr (.inr (fun i => if i < n.toNatClampNeg then some (H.size + 1 + i) else none)))))) hP rfl (hA _ hS.1)
    generalize hW1 : (X ++ va_pl L f) ++ [(H.size, .inl (cA, n.toNatClampNeg, .inr (.inr (.inr (.inr (fun i => if i < n.toNatClampNeg then some (H.size + 1 + i) else none))))))] = W1 at hD1 hP1 ⊢
    have hle : ∀ (k9 : Nat) (x : Nat × va_E), W1[k9]? = some x → x.1 ≤ H.size := fun k9 x hx => by
      rw [← hW1] at hx
      by_cases hl : k9 < (X ++ va_pl L f).length
      · rw [List.getElem?_append_left hl] at hx
        exact Nat.le_of_lt ((hP k9 x hx).lt)
      · rw [List.getElem?_append_right (by omega)] at hx
        have h0 : k9 - (X ++ va_pl L f).length < 1 := (List.getElem?_eq_some_iff.mp hx).1
        rw [show k9 - (X ++ va_pl L f).length = 0 by omega] at hx
        cases hx
        exact Nat.le_refl _
    have hr : ∀ (k9 : Nat) (x : Nat × va_E), (((List.range n.toNatClampNeg).map (fun i => H.size + 1 + i)).map (fun a => ((a, .inl (cy, z)) : Nat × va_E)))[k9]? = some x → x.1 = H.size + 1 + k9 := fun k9 x hx => by
      rw [List.getElem?_map, List.getElem?_map] at hx
      by_cases h9 : k9 < n.toNatClampNeg
      · rw [List.getElem?_range h9] at hx
        cases hx
        rfl
      · have hn0 : (List.range n.toNatClampNeg)[k9]? = none := List.getElem?_eq_none (by rw [List.length_range]; omega)
        rw [hn0] at hx
        cases hx
    refine ⟨fun i j x y hi hj hxy => ?_, fun k9 x hx => ?_⟩
    · by_cases h1 : i < W1.length <;> by_cases h2 : j < W1.length
      · rw [List.getElem?_append_left h1] at hi
        rw [List.getElem?_append_left h2] at hj
        exact hD1.1 i j x y hi hj hxy
      · rw [List.getElem?_append_left h1] at hi
        rw [List.getElem?_append_right (by omega)] at hj
        have := hle _ _ hi
        have := hr _ _ hj
        omega
      · rw [List.getElem?_append_right (by omega)] at hi
        rw [List.getElem?_append_left h2] at hj
        have := hle _ _ hj
        have := hr _ _ hi
        omega
      · rw [List.getElem?_append_right (by omega)] at hi hj
        have := hr _ _ hi
        have := hr _ _ hj
        omega
    · by_cases h1 : k9 < W1.length
      · rw [List.getElem?_append_left h1] at hx
        exact hD1.2 k9 x hx
      · rw [List.getElem?_append_right (by omega)] at hx
        have := hr _ _ hx
        exact hA _ (by have := hS.1; omega)
  have hAr : ArrOfT s cA (.array ty) := fun N9 z9 => by
    obtain ⟨-, k9, hk9, cm9, hkk9⟩ := (hO 0 0 0).1
    exact ⟨(fun q hq => by cases hq), k9, hk9, cm9, hkk9⟩
  have hK2 : va_K D cl (tys ++ [(cA, .array ty)]) s := ⟨hK.1, fun k9 x hx => by
    by_cases hl : k9 < tys.length
    · rw [List.getElem?_append_left hl] at hx
      exact hK.2 k9 x hx
    · rw [List.getElem?_append_right (by omega)] at hx
      have h0 : k9 - tys.length < 1 := (List.getElem?_eq_some_iff.mp hx).1
      rw [show k9 - tys.length = 0 by omega] at hx
      cases hx
      exact ⟨hAr, fA⟩⟩
  obtain ⟨t, a1, b1⟩ := kk H.size (fun i => H.size + 1 + i) cA F.heap (fun i j _ _ h => by have h9 : H.size + 1 + i = H.size + 1 + j := h; omega) hnl hK2 (by rw [← vr_rows hnm]; exact vr_lay hP2) (by rw [← vr_rows hnm]; exact vr_layD hD2) ⟨by rw [f1]; have := hS.1; omega, fun x h1 h2 => (hold x (Nat.lt_of_lt_of_le h1 hS.1)).trans (hS.2.1 x h1 h2), hS.2.2⟩ F rfl X'
  refine ⟨t, step t ?_, b1⟩
  have e : T.heap.size = H.size := by rw [hT]
  rw [e]
  exact a1
end VGM
/-! ===== END ===== -/

/-! ===== BEGIN printed: names, fields, word lists, decode rows ===== -/
def RX0 : String := "FerryRounds$Past"
def TX0 : u_T := fun k => match k with
  | 0 => ("FerryRounds$Past", "states", "[LFerryRounds$River;", true)
  | 1 => ("FerryRounds$Past", "next", "I", false)
  | _ => ("FerryRounds$Past", "count", "I", false)
def tyX0 : Nat → FieldType := fun k => match k with
  | 0 => .array (.object "FerryRounds$River")
  | 1 => .int
  | _ => .int
abbrev wsX00 : List Cond := u_ws RX0 TX0 3
theorem nmX0 : ∀ a, a < 3 → ∀ b, b < 3 → a ≠ b → (TX0 a).2.1 ≠ (TX0 b).2.1 := by decide +kernel
theorem tyX0_ok : ∀ k, k < 3 → parseFieldDescriptor (TX0 k).2.2.1 = some (tyX0 k) := by decide +kernel
abbrev cX0_init : ByteArray := prog_2_method_1_code
def yX0_init : MethodName := ⟨RX0, "<init>", "()V"⟩
abbrev cX0_count : ByteArray := prog_2_method_2_code
def yX0_count : MethodName := ⟨RX0, "count", "()I"⟩
abbrev cX0_note : ByteArray := prog_2_method_3_code
def yX0_note : MethodName := ⟨RX0, "note", "(LFerryRounds$River;)V"⟩
abbrev cX0_takeBack : ByteArray := prog_2_method_4_code
def yX0_takeBack : MethodName := ⟨RX0, "takeBack", "(LFerryRounds$River;)V"⟩
abbrev cX0_confirm : ByteArray := prog_2_method_5_code
def yX0_confirm : MethodName := ⟨RX0, "confirm", "()V"⟩
abbrev cX0_goBack : ByteArray := prog_2_method_6_code
def yX0_goBack : MethodName := ⟨RX0, "goBack", "(LFerryRounds$River;)Z"⟩
abbrev cX0_forget : ByteArray := prog_2_method_7_code
def yX0_forget : MethodName := ⟨RX0, "forget", "()V"⟩
def RX1 : String := "FerryRounds$River"
def TX1 : u_T := fun k => match k with
  | 0 => ("FerryRounds$River", "weights", "LFerryRounds$Row;", true)
  | 1 => ("FerryRounds$River", "ropes", "LFerryRounds$Row;", true)
  | 2 => ("FerryRounds$River", "rounds", "[LFerryRounds$Row;", true)
  | 3 => ("FerryRounds$River", "noRound", "LFerryRounds$Row;", true)
  | 4 => ("FerryRounds$River", "joins", "I", false)
  | 5 => ("FerryRounds$River", "cuts", "I", false)
  | _ => ("FerryRounds$River", "turns", "I", false)
def tyX1 : Nat → FieldType := fun k => match k with
  | 0 => .object "FerryRounds$Row"
  | 1 => .object "FerryRounds$Row"
  | 2 => .array (.object "FerryRounds$Row")
  | 3 => .object "FerryRounds$Row"
  | 4 => .int
  | 5 => .int
  | _ => .int
abbrev wsX10 : List Cond := u_ws RX1 TX1 7
theorem nmX1 : ∀ a, a < 7 → ∀ b, b < 7 → a ≠ b → (TX1 a).2.1 ≠ (TX1 b).2.1 := by decide +kernel
theorem tyX1_ok : ∀ k, k < 7 → parseFieldDescriptor (TX1 k).2.2.1 = some (tyX1 k) := by decide +kernel
abbrev cX1_init : ByteArray := prog_3_method_1_code
def yX1_init : MethodName := ⟨RX1, "<init>", "()V"⟩
abbrev cX1_copyFrom : ByteArray := prog_3_method_2_code
def yX1_copyFrom : MethodName := ⟨RX1, "copyFrom", "(LFerryRounds$River;)V"⟩
abbrev cX1_banks : ByteArray := prog_3_method_3_code
def yX1_banks : MethodName := ⟨RX1, "banks", "()I"⟩
abbrev cX1_has : ByteArray := prog_3_method_4_code
def yX1_has : MethodName := ⟨RX1, "has", "(I)Z"⟩
abbrev cX1_allBanks : ByteArray := prog_3_method_5_code
def yX1_allBanks : MethodName := ⟨RX1, "allBanks", "()I"⟩
abbrev cX1_weightOf : ByteArray := prog_3_method_6_code
def yX1_weightOf : MethodName := ⟨RX1, "weightOf", "(I)I"⟩
abbrev cX1_weightOfAll : ByteArray := prog_3_method_7_code
def yX1_weightOfAll : MethodName := ⟨RX1, "weightOfAll", "(I)I"⟩
abbrev cX1_ropesOf : ByteArray := prog_3_method_8_code
def yX1_ropesOf : MethodName := ⟨RX1, "ropesOf", "(I)I"⟩
abbrev cX1_isTied : ByteArray := prog_3_method_9_code
def yX1_isTied : MethodName := ⟨RX1, "isTied", "(II)Z"⟩
abbrev cX1_ropes : ByteArray := prog_3_method_10_code
def yX1_ropes : MethodName := ⟨RX1, "ropes", "()I"⟩
abbrev cX1_joinsSoFar : ByteArray := prog_3_method_11_code
def yX1_joinsSoFar : MethodName := ⟨RX1, "joinsSoFar", "()I"⟩
abbrev cX1_cutsSoFar : ByteArray := prog_3_method_12_code
def yX1_cutsSoFar : MethodName := ⟨RX1, "cutsSoFar", "()I"⟩
abbrev cX1_turnsSoFar : ByteArray := prog_3_method_13_code
def yX1_turnsSoFar : MethodName := ⟨RX1, "turnsSoFar", "()I"⟩
abbrev cX1_addBankOf : ByteArray := prog_3_method_14_code
def yX1_addBankOf : MethodName := ⟨RX1, "addBankOf", "(I)I"⟩
abbrev cX1_putWeight : ByteArray := prog_3_method_15_code
def yX1_putWeight : MethodName := ⟨RX1, "putWeight", "(II)V"⟩
abbrev cX1_raiseAll : ByteArray := prog_3_method_16_code
def yX1_raiseAll : MethodName := ⟨RX1, "raiseAll", "(II)I"⟩
abbrev cX1_turnTo : ByteArray := prog_3_method_17_code
def yX1_turnTo : MethodName := ⟨RX1, "turnTo", "(I)V"⟩
abbrev cX1_countTurn : ByteArray := prog_3_method_18_code
def yX1_countTurn : MethodName := ⟨RX1, "countTurn", "()V"⟩
abbrev cX1_tie : ByteArray := prog_3_method_19_code
def yX1_tie : MethodName := ⟨RX1, "tie", "(II)V"⟩
abbrev cX1_untie : ByteArray := prog_3_method_20_code
def yX1_untie : MethodName := ⟨RX1, "untie", "(II)V"⟩
abbrev cX1_roundAt : ByteArray := prog_3_method_21_code
def yX1_roundAt : MethodName := ⟨RX1, "roundAt", "(I)LFerryRounds$Row;"⟩
abbrev cX1_rootOf : ByteArray := prog_3_method_22_code
def yX1_rootOf : MethodName := ⟨RX1, "rootOf", "(I)I"⟩
abbrev cX1_roundOf : ByteArray := prog_3_method_23_code
def yX1_roundOf : MethodName := ⟨RX1, "roundOf", "(I)LFerryRounds$Row;"⟩
abbrev cX1_isRoot : ByteArray := prog_3_method_24_code
def yX1_isRoot : MethodName := ⟨RX1, "isRoot", "(I)Z"⟩
abbrev cX1_parts : ByteArray := prog_3_method_25_code
def yX1_parts : MethodName := ⟨RX1, "parts", "()I"⟩
abbrev cX1_places : ByteArray := prog_3_method_26_code
def yX1_places : MethodName := ⟨RX1, "places", "()I"⟩
abbrev cX1_banksWith : ByteArray := prog_3_method_27_code
def yX1_banksWith : MethodName := ⟨RX1, "banksWith", "(I)I"⟩
abbrev cX1_isOnePart : ByteArray := prog_3_method_28_code
def yX1_isOnePart : MethodName := ⟨RX1, "isOnePart", "(II)Z"⟩
abbrev cX1_aboveOf : ByteArray := prog_3_method_29_code
def yX1_aboveOf : MethodName := ⟨RX1, "aboveOf", "(I)I"⟩
abbrev cX1_belowOf : ByteArray := prog_3_method_30_code
def yX1_belowOf : MethodName := ⟨RX1, "belowOf", "(I)I"⟩
abbrev cX1_depthOf : ByteArray := prog_3_method_31_code
def yX1_depthOf : MethodName := ⟨RX1, "depthOf", "(I)I"⟩
abbrev cX1_justAbove : ByteArray := prog_3_method_32_code
def yX1_justAbove : MethodName := ⟨RX1, "justAbove", "(I)I"⟩
abbrev cX1_stepsAbove : ByteArray := prog_3_method_33_code
def yX1_stepsAbove : MethodName := ⟨RX1, "stepsAbove", "(II)I"⟩
abbrev cX1_greatestDepth : ByteArray := prog_3_method_34_code
def yX1_greatestDepth : MethodName := ⟨RX1, "greatestDepth", "(I)I"⟩
abbrev cX1_sumOfDepths : ByteArray := prog_3_method_35_code
def yX1_sumOfDepths : MethodName := ⟨RX1, "sumOfDepths", "()I"⟩
abbrev cX1_heaviestWith : ByteArray := prog_3_method_36_code
def yX1_heaviestWith : MethodName := ⟨RX1, "heaviestWith", "(I)I"⟩
abbrev cX1_meetingOf : ByteArray := prog_3_method_37_code
def yX1_meetingOf : MethodName := ⟨RX1, "meetingOf", "(II)I"⟩
abbrev cX1_lowerOf : ByteArray := prog_3_method_38_code
def yX1_lowerOf : MethodName := ⟨RX1, "lowerOf", "(II)I"⟩
abbrev cX1_reached : ByteArray := prog_3_method_39_code
def yX1_reached : MethodName := ⟨RX1, "reached", "(II)I"⟩
abbrev cX1_reachedBelow : ByteArray := prog_3_method_40_code
def yX1_reachedBelow : MethodName := ⟨RX1, "reachedBelow", "(I)I"⟩
abbrev cX1_heaviestLeftWithout : ByteArray := prog_3_method_41_code
def yX1_heaviestLeftWithout : MethodName := ⟨RX1, "heaviestLeftWithout", "(I)I"⟩
abbrev cX1_middleWith : ByteArray := prog_3_method_42_code
def yX1_middleWith : MethodName := ⟨RX1, "middleWith", "(I)I"⟩
abbrev cX1_rootRanked : ByteArray := prog_3_method_43_code
def yX1_rootRanked : MethodName := ⟨RX1, "rootRanked", "(I)I"⟩
abbrev cX1_partsAheadOf : ByteArray := prog_3_method_44_code
def yX1_partsAheadOf : MethodName := ⟨RX1, "partsAheadOf", "(I)I"⟩
abbrev cX1_ranksAhead : ByteArray := prog_3_method_45_code
def yX1_ranksAhead : MethodName := ⟨RX1, "ranksAhead", "(II)Z"⟩
abbrev cX1_isSound : ByteArray := prog_3_method_46_code
def yX1_isSound : MethodName := ⟨RX1, "isSound", "()Z"⟩
abbrev cX1_leavesOverEachRope : ByteArray := prog_3_method_47_code
def yX1_leavesOverEachRope : MethodName := ⟨RX1, "leavesOverEachRope", "(I)Z"⟩
def RX2 : String := "FerryRounds$Row"
def TX2 : u_T := fun k => match k with
  | 0 => ("FerryRounds$Row", "numbers", "[I", true)
  | _ => ("FerryRounds$Row", "length", "I", false)
def tyX2 : Nat → FieldType := fun k => match k with
  | 0 => .array .int
  | _ => .int
abbrev wsX20 : List Cond := u_ws RX2 TX2 2
theorem nmX2 : ∀ a, a < 2 → ∀ b, b < 2 → a ≠ b → (TX2 a).2.1 ≠ (TX2 b).2.1 := by decide +kernel
theorem tyX2_ok : ∀ k, k < 2 → parseFieldDescriptor (TX2 k).2.2.1 = some (tyX2 k) := by decide +kernel
abbrev cX2_init : ByteArray := prog_4_method_1_code
def yX2_init : MethodName := ⟨RX2, "<init>", "(I)V"⟩
abbrev cX2_length : ByteArray := prog_4_method_2_code
def yX2_length : MethodName := ⟨RX2, "length", "()I"⟩
abbrev cX2_get : ByteArray := prog_4_method_3_code
def yX2_get : MethodName := ⟨RX2, "get", "(I)I"⟩
abbrev cX2_put : ByteArray := prog_4_method_4_code
def yX2_put : MethodName := ⟨RX2, "put", "(II)V"⟩
abbrev cX2_add : ByteArray := prog_4_method_5_code
def yX2_add : MethodName := ⟨RX2, "add", "(I)V"⟩
abbrev cX2_addDigits : ByteArray := prog_4_method_6_code
def yX2_addDigits : MethodName := ⟨RX2, "addDigits", "(I)V"⟩
abbrev cX2_addPlaces : ByteArray := prog_4_method_7_code
def yX2_addPlaces : MethodName := ⟨RX2, "addPlaces", "(LFerryRounds$Row;II)V"⟩
abbrev cX2_dropPlaces : ByteArray := prog_4_method_8_code
def yX2_dropPlaces : MethodName := ⟨RX2, "dropPlaces", "(II)V"⟩
abbrev cX2_shorten : ByteArray := prog_4_method_9_code
def yX2_shorten : MethodName := ⟨RX2, "shorten", "(I)V"⟩
abbrev cX2_clear : ByteArray := prog_4_method_10_code
def yX2_clear : MethodName := ⟨RX2, "clear", "()V"⟩
abbrev cX2_copyFrom : ByteArray := prog_4_method_11_code
def yX2_copyFrom : MethodName := ⟨RX2, "copyFrom", "(LFerryRounds$Row;)V"⟩
abbrev cX2_firstOf : ByteArray := prog_4_method_12_code
def yX2_firstOf : MethodName := ⟨RX2, "firstOf", "(I)I"⟩
abbrev cX2_lastOf : ByteArray := prog_4_method_13_code
def yX2_lastOf : MethodName := ⟨RX2, "lastOf", "(I)I"⟩
abbrev cX2_setOfAll : ByteArray := prog_4_method_14_code
def yX2_setOfAll : MethodName := ⟨RX2, "setOfAll", "()I"⟩
abbrev cX2_setOf : ByteArray := prog_4_method_15_code
def yX2_setOf : MethodName := ⟨RX2, "setOf", "(II)I"⟩
def RX3 : String := "FerryRounds$Script"
def TX3 : u_T := fun k => match k with
  | 0 => ("FerryRounds$Script", "kinds", "LFerryRounds$Row;", true)
  | 1 => ("FerryRounds$Script", "firsts", "LFerryRounds$Row;", true)
  | 2 => ("FerryRounds$Script", "seconds", "LFerryRounds$Row;", true)
  | 3 => ("FerryRounds$Script", "at", "I", false)
  | _ => ("FerryRounds$Script", "number", "I", false)
def tyX3 : Nat → FieldType := fun k => match k with
  | 0 => .object "FerryRounds$Row"
  | 1 => .object "FerryRounds$Row"
  | 2 => .object "FerryRounds$Row"
  | 3 => .int
  | _ => .int
abbrev wsX30 : List Cond := u_ws RX3 TX3 5
theorem nmX3 : ∀ a, a < 5 → ∀ b, b < 5 → a ≠ b → (TX3 a).2.1 ≠ (TX3 b).2.1 := by decide +kernel
theorem tyX3_ok : ∀ k, k < 5 → parseFieldDescriptor (TX3 k).2.2.1 = some (tyX3 k) := by decide +kernel
abbrev cX3_init : ByteArray := prog_5_method_1_code
def yX3_init : MethodName := ⟨RX3, "<init>", "()V"⟩
abbrev cX3_commands : ByteArray := prog_5_method_2_code
def yX3_commands : MethodName := ⟨RX3, "commands", "()I"⟩
abbrev cX3_kindOf : ByteArray := prog_5_method_3_code
def yX3_kindOf : MethodName := ⟨RX3, "kindOf", "(I)I"⟩
abbrev cX3_firstOf : ByteArray := prog_5_method_4_code
def yX3_firstOf : MethodName := ⟨RX3, "firstOf", "(I)I"⟩
abbrev cX3_secondOf : ByteArray := prog_5_method_5_code
def yX3_secondOf : MethodName := ⟨RX3, "secondOf", "(I)I"⟩
abbrev cX3_faultIn : ByteArray := prog_5_method_6_code
def yX3_faultIn : MethodName := ⟨RX3, "faultIn", "(LFerryRounds$Row;)I"⟩
abbrev cX3_takeCommand : ByteArray := prog_5_method_7_code
def yX3_takeCommand : MethodName := ⟨RX3, "takeCommand", "(LFerryRounds$Row;)Z"⟩
abbrev cX3_takeNumber : ByteArray := prog_5_method_8_code
def yX3_takeNumber : MethodName := ⟨RX3, "takeNumber", "(LFerryRounds$Row;)Z"⟩
abbrev cX3_isKind : ByteArray := prog_5_method_9_code
def yX3_isKind : MethodName := ⟨RX3, "isKind", "(I)Z"⟩
abbrev cX3_fits : ByteArray := prog_5_method_10_code
def yX3_fits : MethodName := ⟨RX3, "fits", "(II)Z"⟩
abbrev cX3_isDigit : ByteArray := prog_5_method_11_code
def yX3_isDigit : MethodName := ⟨RX3, "isDigit", "(I)Z"⟩
def RX4 : String := "FerryRounds"
def TX4 : u_T := fun k => match k with
  | 0 => ("FerryRounds", "river", "LFerryRounds$River;", true)
  | 1 => ("FerryRounds", "snapshot", "LFerryRounds$River;", true)
  | 2 => ("FerryRounds", "past", "LFerryRounds$Past;", true)
  | 3 => ("FerryRounds", "line", "LFerryRounds$Row;", true)
  | 4 => ("FerryRounds", "text", "LFerryRounds$Row;", true)
  | 5 => ("FerryRounds", "script", "LFerryRounds$Script;", true)
  | 6 => ("FerryRounds", "isSaved", "Z", false)
  | 7 => ("FerryRounds", "reason", "I", false)
  | 8 => ("FerryRounds", "reasonDetail", "I", false)
  | 9 => ("FerryRounds", "reasonCommand", "I", false)
  | _ => ("FerryRounds", "commandNow", "I", false)
def tyX4 : Nat → FieldType := fun k => match k with
  | 0 => .object "FerryRounds$River"
  | 1 => .object "FerryRounds$River"
  | 2 => .object "FerryRounds$Past"
  | 3 => .object "FerryRounds$Row"
  | 4 => .object "FerryRounds$Row"
  | 5 => .object "FerryRounds$Script"
  | 6 => .boolean
  | 7 => .int
  | 8 => .int
  | 9 => .int
  | _ => .int
abbrev wsX40 : List Cond := u_ws RX4 TX4 11
theorem nmX4 : ∀ a, a < 11 → ∀ b, b < 11 → a ≠ b → (TX4 a).2.1 ≠ (TX4 b).2.1 := by decide +kernel
theorem tyX4_ok : ∀ k, k < 11 → parseFieldDescriptor (TX4 k).2.2.1 = some (tyX4 k) := by decide +kernel
abbrev cX4_init : ByteArray := prog_1_method_1_code
def yX4_init : MethodName := ⟨RX4, "<init>", "()V"⟩
abbrev cX4_bank : ByteArray := prog_1_method_2_code
def yX4_bank : MethodName := ⟨RX4, "bank", "(I)I"⟩
abbrev cX4_weigh : ByteArray := prog_1_method_3_code
def yX4_weigh : MethodName := ⟨RX4, "weigh", "(II)I"⟩
abbrev cX4_join : ByteArray := prog_1_method_4_code
def yX4_join : MethodName := ⟨RX4, "join", "(II)I"⟩
abbrev cX4_cut : ByteArray := prog_1_method_5_code
def yX4_cut : MethodName := ⟨RX4, "cut", "(II)I"⟩
abbrev cX4_turn : ByteArray := prog_1_method_6_code
def yX4_turn : MethodName := ⟨RX4, "turn", "(I)I"⟩
abbrev cX4_rise : ByteArray := prog_1_method_7_code
def yX4_rise : MethodName := ⟨RX4, "rise", "(II)I"⟩
abbrev cX4_areJoined : ByteArray := prog_1_method_8_code
def yX4_areJoined : MethodName := ⟨RX4, "areJoined", "(II)I"⟩
abbrev cX4_areJoinedAgain : ByteArray := prog_1_method_9_code
def yX4_areJoinedAgain : MethodName := ⟨RX4, "areJoinedAgain", "(II)I"⟩
abbrev cX4_bankOf : ByteArray := prog_1_method_10_code
def yX4_bankOf : MethodName := ⟨RX4, "bankOf", "(II)I"⟩
abbrev cX4_belowAgain : ByteArray := prog_1_method_11_code
def yX4_belowAgain : MethodName := ⟨RX4, "belowAgain", "(I)I"⟩
abbrev cX4_inRound : ByteArray := prog_1_method_12_code
def yX4_inRound : MethodName := ⟨RX4, "inRound", "(II)I"⟩
abbrev cX4_partOf : ByteArray := prog_1_method_13_code
def yX4_partOf : MethodName := ⟨RX4, "partOf", "(II)I"⟩
abbrev cX4_isRope : ByteArray := prog_1_method_14_code
def yX4_isRope : MethodName := ⟨RX4, "isRope", "(II)I"⟩
abbrev cX4_isBelow : ByteArray := prog_1_method_15_code
def yX4_isBelow : MethodName := ⟨RX4, "isBelow", "(II)I"⟩
abbrev cX4_meet : ByteArray := prog_1_method_16_code
def yX4_meet : MethodName := ⟨RX4, "meet", "(II)I"⟩
abbrev cX4_way : ByteArray := prog_1_method_17_code
def yX4_way : MethodName := ⟨RX4, "way", "(III)I"⟩
abbrev cX4_would : ByteArray := prog_1_method_18_code
def yX4_would : MethodName := ⟨RX4, "would", "(II)I"⟩
abbrev cX4_wouldDiffer : ByteArray := prog_1_method_19_code
def yX4_wouldDiffer : MethodName := ⟨RX4, "wouldDiffer", "(II)I"⟩
abbrev cX4_middle : ByteArray := prog_1_method_20_code
def yX4_middle : MethodName := ⟨RX4, "middle", "(I)I"⟩
abbrev cX4_ranked : ByteArray := prog_1_method_21_code
def yX4_ranked : MethodName := ⟨RX4, "ranked", "(I)I"⟩
abbrev cX4_describe : ByteArray := prog_1_method_22_code
def yX4_describe : MethodName := ⟨RX4, "describe", "(I)I"⟩
abbrev cX4_tell : ByteArray := prog_1_method_23_code
def yX4_tell : MethodName := ⟨RX4, "tell", "(I)I"⟩
abbrev cX4_sign : ByteArray := prog_1_method_24_code
def yX4_sign : MethodName := ⟨RX4, "sign", "(I)I"⟩
abbrev cX4_append : ByteArray := prog_1_method_25_code
def yX4_append : MethodName := ⟨RX4, "append", "(I)I"⟩
abbrev cX4_read : ByteArray := prog_1_method_26_code
def yX4_read : MethodName := ⟨RX4, "read", "()I"⟩
abbrev cX4_refusal : ByteArray := prog_1_method_27_code
def yX4_refusal : MethodName := ⟨RX4, "refusal", "(I)I"⟩
abbrev cX4_account : ByteArray := prog_1_method_28_code
def yX4_account : MethodName := ⟨RX4, "account", "(I)I"⟩
abbrev cX4_isWell : ByteArray := prog_1_method_29_code
def yX4_isWell : MethodName := ⟨RX4, "isWell", "()I"⟩
abbrev cX4_mean : ByteArray := prog_1_method_30_code
def yX4_mean : MethodName := ⟨RX4, "mean", "()I"⟩
abbrev cX4_undo : ByteArray := prog_1_method_31_code
def yX4_undo : MethodName := ⟨RX4, "undo", "()I"⟩
abbrev cX4_save : ByteArray := prog_1_method_32_code
def yX4_save : MethodName := ⟨RX4, "save", "()I"⟩
abbrev cX4_restore : ByteArray := prog_1_method_33_code
def yX4_restore : MethodName := ⟨RX4, "restore", "()I"⟩
abbrev cX4_addBank : ByteArray := prog_1_method_34_code
def yX4_addBank : MethodName := ⟨RX4, "addBank", "(I)I"⟩
abbrev cX4_setWeight : ByteArray := prog_1_method_35_code
def yX4_setWeight : MethodName := ⟨RX4, "setWeight", "(II)I"⟩
abbrev cX4_joinBanks : ByteArray := prog_1_method_36_code
def yX4_joinBanks : MethodName := ⟨RX4, "joinBanks", "(II)I"⟩
abbrev cX4_cutRope : ByteArray := prog_1_method_37_code
def yX4_cutRope : MethodName := ⟨RX4, "cutRope", "(II)I"⟩
abbrev cX4_turnRound : ByteArray := prog_1_method_38_code
def yX4_turnRound : MethodName := ⟨RX4, "turnRound", "(I)I"⟩
abbrev cX4_raisePart : ByteArray := prog_1_method_39_code
def yX4_raisePart : MethodName := ⟨RX4, "raisePart", "(II)I"⟩
abbrev cX4_carryOut : ByteArray := prog_1_method_40_code
def yX4_carryOut : MethodName := ⟨RX4, "carryOut", "(I)I"⟩
abbrev cX4_refuse : ByteArray := prog_1_method_41_code
def yX4_refuse : MethodName := ⟨RX4, "refuse", "(II)I"⟩
abbrev cX4_settle : ByteArray := prog_1_method_42_code
def yX4_settle : MethodName := ⟨RX4, "settle", "(I)I"⟩
abbrev cX4_areThere : ByteArray := prog_1_method_43_code
def yX4_areThere : MethodName := ⟨RX4, "areThere", "(II)Z"⟩
abbrev cX4_bit : ByteArray := prog_1_method_44_code
def yX4_bit : MethodName := ⟨RX4, "bit", "(I)I"⟩
abbrev cX4_lowestIn : ByteArray := prog_1_method_45_code
def yX4_lowestIn : MethodName := ⟨RX4, "lowestIn", "(I)I"⟩
abbrev cX4_bitsOf : ByteArray := prog_1_method_46_code
def yX4_bitsOf : MethodName := ⟨RX4, "bitsOf", "(F)I"⟩
def RX5 : String := "FerryRoundsModel"
def TX5 : u_T := fun k => match k with
  | 0 => ("FerryRoundsModel", "now", "[I", true)
  | 1 => ("FerryRoundsModel", "saved", "[I", true)
  | 2 => ("FerryRoundsModel", "before", "[I", true)
  | 3 => ("FerryRoundsModel", "history", "[[I", true)
  | 4 => ("FerryRoundsModel", "kept", "I", false)
  | 5 => ("FerryRoundsModel", "reason", "I", false)
  | 6 => ("FerryRoundsModel", "detail", "I", false)
  | 7 => ("FerryRoundsModel", "inText", "I", false)
  | 8 => ("FerryRoundsModel", "command", "I", false)
  | 9 => ("FerryRoundsModel", "isSaved", "Z", false)
  | 10 => ("FerryRoundsModel", "isInText", "Z", false)
  | 11 => ("FerryRoundsModel", "made", "[I", true)
  | 12 => ("FerryRoundsModel", "line", "[C", true)
  | 13 => ("FerryRoundsModel", "written", "I", false)
  | 14 => ("FerryRoundsModel", "text", "[I", true)
  | 15 => ("FerryRoundsModel", "length", "I", false)
  | 16 => ("FerryRoundsModel", "at", "I", false)
  | 17 => ("FerryRoundsModel", "toldOne", "I", false)
  | 18 => ("FerryRoundsModel", "toldTwo", "I", false)
  | 19 => ("FerryRoundsModel", "told", "I", false)
  | _ => ("FerryRoundsModel", "isWrong", "Z", false)
def tyX5 : Nat → FieldType := fun k => match k with
  | 0 => .array .int
  | 1 => .array .int
  | 2 => .array .int
  | 3 => .array (.array .int)
  | 4 => .int
  | 5 => .int
  | 6 => .int
  | 7 => .int
  | 8 => .int
  | 9 => .boolean
  | 10 => .boolean
  | 11 => .array .int
  | 12 => .array .char
  | 13 => .int
  | 14 => .array .int
  | 15 => .int
  | 16 => .int
  | 17 => .int
  | 18 => .int
  | 19 => .int
  | _ => .boolean
abbrev wsX50 : List Cond := u_ws RX5 TX5 21
theorem nmX5 : ∀ a, a < 21 → ∀ b, b < 21 → a ≠ b → (TX5 a).2.1 ≠ (TX5 b).2.1 := by decide +kernel
theorem tyX5_ok : ∀ k, k < 21 → parseFieldDescriptor (TX5 k).2.2.1 = some (tyX5 k) := by decide +kernel
abbrev cX5_init : ByteArray := prog_7_method_1_code
def yX5_init : MethodName := ⟨RX5, "<init>", "()V"⟩
abbrev cX5_isBetween : ByteArray := prog_7_method_2_code
def yX5_isBetween : MethodName := ⟨RX5, "isBetween", "(III)Z"⟩
abbrev cX5_copyRow : ByteArray := prog_7_method_3_code
def yX5_copyRow : MethodName := ⟨RX5, "copyRow", "([I[I)V"⟩
abbrev cX5_refuse : ByteArray := prog_7_method_4_code
def yX5_refuse : MethodName := ⟨RX5, "refuse", "(ZII)Z"⟩
abbrev cX5_remember : ByteArray := prog_7_method_5_code
def yX5_remember : MethodName := ⟨RX5, "remember", "([I)V"⟩
abbrev cX5_change : ByteArray := prog_7_method_6_code
def yX5_change : MethodName := ⟨RX5, "change", "()V"⟩
abbrev cX5_isBank : ByteArray := prog_7_method_7_code
def yX5_isBank : MethodName := ⟨RX5, "isBank", "(I)Z"⟩
abbrev cX5_weight : ByteArray := prog_7_method_8_code
def yX5_weight : MethodName := ⟨RX5, "weight", "(I)I"⟩
abbrev cX5_size : ByteArray := prog_7_method_9_code
def yX5_size : MethodName := ⟨RX5, "size", "(I)I"⟩
abbrev cX5_place : ByteArray := prog_7_method_10_code
def yX5_place : MethodName := ⟨RX5, "place", "(II)I"⟩
abbrev cX5_setPlace : ByteArray := prog_7_method_11_code
def yX5_setPlace : MethodName := ⟨RX5, "setPlace", "(III)V"⟩
abbrev cX5_setSize : ByteArray := prog_7_method_12_code
def yX5_setSize : MethodName := ⟨RX5, "setSize", "(II)V"⟩
abbrev cX5_firstIn : ByteArray := prog_7_method_13_code
def yX5_firstIn : MethodName := ⟨RX5, "firstIn", "(II)I"⟩
abbrev cX5_roundOf : ByteArray := prog_7_method_14_code
def yX5_roundOf : MethodName := ⟨RX5, "roundOf", "(I)I"⟩
abbrev cX5_first : ByteArray := prog_7_method_15_code
def yX5_first : MethodName := ⟨RX5, "first", "(I)I"⟩
abbrev cX5_last : ByteArray := prog_7_method_16_code
def yX5_last : MethodName := ⟨RX5, "last", "(I)I"⟩
abbrev cX5_root : ByteArray := prog_7_method_17_code
def yX5_root : MethodName := ⟨RX5, "root", "(I)I"⟩
abbrev cX5_emptyRound : ByteArray := prog_7_method_18_code
def yX5_emptyRound : MethodName := ⟨RX5, "emptyRound", "()I"⟩
abbrev cX5_banksOf : ByteArray := prog_7_method_19_code
def yX5_banksOf : MethodName := ⟨RX5, "banksOf", "(I)I"⟩
abbrev cX5_areOne : ByteArray := prog_7_method_20_code
def yX5_areOne : MethodName := ⟨RX5, "areOne", "(II)Z"⟩
abbrev cX5_isTied : ByteArray := prog_7_method_21_code
def yX5_isTied : MethodName := ⟨RX5, "isTied", "(II)Z"⟩
abbrev cX5_bank : ByteArray := prog_7_method_22_code
def yX5_bank : MethodName := ⟨RX5, "bank", "(I)I"⟩
abbrev cX5_weigh : ByteArray := prog_7_method_23_code
def yX5_weigh : MethodName := ⟨RX5, "weigh", "(II)I"⟩
abbrev cX5_turnTo : ByteArray := prog_7_method_24_code
def yX5_turnTo : MethodName := ⟨RX5, "turnTo", "(I)V"⟩
abbrev cX5_putIn : ByteArray := prog_7_method_25_code
def yX5_putIn : MethodName := ⟨RX5, "putIn", "(II)V"⟩
abbrev cX5_join : ByteArray := prog_7_method_26_code
def yX5_join : MethodName := ⟨RX5, "join", "(II)I"⟩
abbrev cX5_lower : ByteArray := prog_7_method_27_code
def yX5_lower : MethodName := ⟨RX5, "lower", "(II)I"⟩
abbrev cX5_cut : ByteArray := prog_7_method_28_code
def yX5_cut : MethodName := ⟨RX5, "cut", "(II)I"⟩
abbrev cX5_turn : ByteArray := prog_7_method_29_code
def yX5_turn : MethodName := ⟨RX5, "turn", "(I)I"⟩
abbrev cX5_risen : ByteArray := prog_7_method_30_code
def yX5_risen : MethodName := ⟨RX5, "risen", "(II)I"⟩
abbrev cX5_rise : ByteArray := prog_7_method_31_code
def yX5_rise : MethodName := ⟨RX5, "rise", "(II)I"⟩
abbrev cX5_below : ByteArray := prog_7_method_32_code
def yX5_below : MethodName := ⟨RX5, "below", "(II)Z"⟩
abbrev cX5_depth : ByteArray := prog_7_method_33_code
def yX5_depth : MethodName := ⟨RX5, "depth", "(I)I"⟩
abbrev cX5_above : ByteArray := prog_7_method_34_code
def yX5_above : MethodName := ⟨RX5, "above", "(I)I"⟩
abbrev cX5_countBelow : ByteArray := prog_7_method_35_code
def yX5_countBelow : MethodName := ⟨RX5, "countBelow", "(I)I"⟩
abbrev cX5_sumBelow : ByteArray := prog_7_method_36_code
def yX5_sumBelow : MethodName := ⟨RX5, "sumBelow", "(I)I"⟩
abbrev cX5_ropes : ByteArray := prog_7_method_37_code
def yX5_ropes : MethodName := ⟨RX5, "ropes", "(I)I"⟩
abbrev cX5_areJoined : ByteArray := prog_7_method_38_code
def yX5_areJoined : MethodName := ⟨RX5, "areJoined", "(II)I"⟩
abbrev cX5_areJoinedAgain : ByteArray := prog_7_method_39_code
def yX5_areJoinedAgain : MethodName := ⟨RX5, "areJoinedAgain", "(II)I"⟩
abbrev cX5_bankOf : ByteArray := prog_7_method_40_code
def yX5_bankOf : MethodName := ⟨RX5, "bankOf", "(II)I"⟩
abbrev cX5_belowAgain : ByteArray := prog_7_method_41_code
def yX5_belowAgain : MethodName := ⟨RX5, "belowAgain", "(I)I"⟩
abbrev cX5_inRound : ByteArray := prog_7_method_42_code
def yX5_inRound : MethodName := ⟨RX5, "inRound", "(II)I"⟩
abbrev cX5_greatestDepth : ByteArray := prog_7_method_43_code
def yX5_greatestDepth : MethodName := ⟨RX5, "greatestDepth", "(I)I"⟩
abbrev cX5_heaviest : ByteArray := prog_7_method_44_code
def yX5_heaviest : MethodName := ⟨RX5, "heaviest", "(I)I"⟩
abbrev cX5_partOf : ByteArray := prog_7_method_45_code
def yX5_partOf : MethodName := ⟨RX5, "partOf", "(II)I"⟩
abbrev cX5_isRope : ByteArray := prog_7_method_46_code
def yX5_isRope : MethodName := ⟨RX5, "isRope", "(II)I"⟩
abbrev cX5_isBelow : ByteArray := prog_7_method_47_code
def yX5_isBelow : MethodName := ⟨RX5, "isBelow", "(II)I"⟩
abbrev cX5_meeting : ByteArray := prog_7_method_48_code
def yX5_meeting : MethodName := ⟨RX5, "meeting", "(II)I"⟩
abbrev cX5_meet : ByteArray := prog_7_method_49_code
def yX5_meet : MethodName := ⟨RX5, "meet", "(II)I"⟩
abbrev cX5_climb : ByteArray := prog_7_method_50_code
def yX5_climb : MethodName := ⟨RX5, "climb", "(II)I"⟩
abbrev cX5_way : ByteArray := prog_7_method_51_code
def yX5_way : MethodName := ⟨RX5, "way", "(III)I"⟩
abbrev cX5_would : ByteArray := prog_7_method_52_code
def yX5_would : MethodName := ⟨RX5, "would", "(II)I"⟩
abbrev cX5_wouldDiffer : ByteArray := prog_7_method_53_code
def yX5_wouldDiffer : MethodName := ⟨RX5, "wouldDiffer", "(II)I"⟩
abbrev cX5_heaviestLeft : ByteArray := prog_7_method_54_code
def yX5_heaviestLeft : MethodName := ⟨RX5, "heaviestLeft", "(I)I"⟩
abbrev cX5_middle : ByteArray := prog_7_method_55_code
def yX5_middle : MethodName := ⟨RX5, "middle", "(I)I"⟩
abbrev cX5_isAhead : ByteArray := prog_7_method_56_code
def yX5_isAhead : MethodName := ⟨RX5, "isAhead", "(II)Z"⟩
abbrev cX5_ranked : ByteArray := prog_7_method_57_code
def yX5_ranked : MethodName := ⟨RX5, "ranked", "(I)I"⟩
abbrev cX5_write : ByteArray := prog_7_method_58_code
def yX5_write : MethodName := ⟨RX5, "write", "(C)V"⟩
abbrev cX5_writeNumber : ByteArray := prog_7_method_59_code
def yX5_writeNumber : MethodName := ⟨RX5, "writeNumber", "(I)V"⟩
abbrev cX5_describe : ByteArray := prog_7_method_60_code
def yX5_describe : MethodName := ⟨RX5, "describe", "(I)I"⟩
abbrev cX5_tell : ByteArray := prog_7_method_61_code
def yX5_tell : MethodName := ⟨RX5, "tell", "(I)I"⟩
abbrev cX5_sign : ByteArray := prog_7_method_62_code
def yX5_sign : MethodName := ⟨RX5, "sign", "(I)I"⟩
abbrev cX5_append : ByteArray := prog_7_method_63_code
def yX5_append : MethodName := ⟨RX5, "append", "(I)I"⟩
abbrev cX5_sees : ByteArray := prog_7_method_64_code
def yX5_sees : MethodName := ⟨RX5, "sees", "(II)Z"⟩
abbrev cX5_must : ByteArray := prog_7_method_65_code
def yX5_must : MethodName := ⟨RX5, "must", "(I)V"⟩
abbrev cX5_readNumber : ByteArray := prog_7_method_66_code
def yX5_readNumber : MethodName := ⟨RX5, "readNumber", "()I"⟩
abbrev cX5_readBehind : ByteArray := prog_7_method_67_code
def yX5_readBehind : MethodName := ⟨RX5, "readBehind", "(I)V"⟩
abbrev cX5_readRise : ByteArray := prog_7_method_68_code
def yX5_readRise : MethodName := ⟨RX5, "readRise", "()V"⟩
abbrev cX5_readCommand : ByteArray := prog_7_method_69_code
def yX5_readCommand : MethodName := ⟨RX5, "readCommand", "()V"⟩
abbrev cX5_countCommands : ByteArray := prog_7_method_70_code
def yX5_countCommands : MethodName := ⟨RX5, "countCommands", "()I"⟩
abbrev cX5_carryOut : ByteArray := prog_7_method_71_code
def yX5_carryOut : MethodName := ⟨RX5, "carryOut", "()I"⟩
abbrev cX5_read : ByteArray := prog_7_method_72_code
def yX5_read : MethodName := ⟨RX5, "read", "()I"⟩
abbrev cX5_refusal : ByteArray := prog_7_method_73_code
def yX5_refusal : MethodName := ⟨RX5, "refusal", "(I)I"⟩
abbrev cX5_parts : ByteArray := prog_7_method_74_code
def yX5_parts : MethodName := ⟨RX5, "parts", "()I"⟩
abbrev cX5_allWeights : ByteArray := prog_7_method_75_code
def yX5_allWeights : MethodName := ⟨RX5, "allWeights", "()I"⟩
abbrev cX5_allPlaces : ByteArray := prog_7_method_76_code
def yX5_allPlaces : MethodName := ⟨RX5, "allPlaces", "()I"⟩
abbrev cX5_deepest : ByteArray := prog_7_method_77_code
def yX5_deepest : MethodName := ⟨RX5, "deepest", "()I"⟩
abbrev cX5_account : ByteArray := prog_7_method_78_code
def yX5_account : MethodName := ⟨RX5, "account", "(I)I"⟩
abbrev cX5_isWell : ByteArray := prog_7_method_79_code
def yX5_isWell : MethodName := ⟨RX5, "isWell", "()I"⟩
abbrev cX5_mean : ByteArray := prog_7_method_80_code
def yX5_mean : MethodName := ⟨RX5, "mean", "()I"⟩
abbrev cX5_undo : ByteArray := prog_7_method_81_code
def yX5_undo : MethodName := ⟨RX5, "undo", "()I"⟩
abbrev cX5_save : ByteArray := prog_7_method_82_code
def yX5_save : MethodName := ⟨RX5, "save", "()I"⟩
abbrev cX5_restore : ByteArray := prog_7_method_83_code
def yX5_restore : MethodName := ⟨RX5, "restore", "()I"⟩
def RJ11 : String := "java/lang/Character"
def TJ11 : u_T := fun k => match k with
  | _ => ("", "", "", false)
def tyJ11 : Nat → FieldType := fun k => match k with
  | _ => .int
abbrev wsJ110 : List Cond := u_ws RJ11 TJ11 0
theorem nmJ11 : ∀ a, a < 0 → ∀ b, b < 0 → a ≠ b → (TJ11 a).2.1 ≠ (TJ11 b).2.1 := by decide +kernel
theorem tyJ11_ok : ∀ k, k < 0 → parseFieldDescriptor (TJ11 k).2.2.1 = some (tyJ11 k) := by decide +kernel
abbrev cJ11_isValidCodePoint_9a6ad : ByteArray := prog_8_method_11_code
def yJ11_isValidCodePoint_9a6ad : MethodName := ⟨RJ11, "isValidCodePoint", "(I)Z"⟩
abbrev cJ11_highSurrogate_5068e : ByteArray := prog_8_method_28_code
def yJ11_highSurrogate_5068e : MethodName := ⟨RJ11, "highSurrogate", "(I)C"⟩
abbrev cJ11_lowSurrogate_5068e : ByteArray := prog_8_method_29_code
def yJ11_lowSurrogate_5068e : MethodName := ⟨RJ11, "lowSurrogate", "(I)C"⟩
def RJxf58ca : String := "java/lang/Float"
def TJxf58ca : u_T := fun k => match k with
  | _ => ("", "", "", false)
def tyJxf58ca : Nat → FieldType := fun k => match k with
  | _ => .int
abbrev wsJxf58ca0 : List Cond := u_ws RJxf58ca TJxf58ca 0
theorem nmJxf58ca : ∀ a, a < 0 → ∀ b, b < 0 → a ≠ b → (TJxf58ca a).2.1 ≠ (TJxf58ca b).2.1 := by decide +kernel
theorem tyJxf58ca_ok : ∀ k, k < 0 → parseFieldDescriptor (TJxf58ca k).2.2.1 = some (tyJxf58ca k) := by decide +kernel
abbrev cJxf58ca_isNaN_12338 : ByteArray := prog_9_method_6_code
def yJxf58ca_isNaN_12338 : MethodName := ⟨RJxf58ca, "isNaN", "(F)Z"⟩
abbrev cJxf58ca_floatToIntBits_5c35a : ByteArray := prog_9_method_24_code
def yJxf58ca_floatToIntBits_5c35a : MethodName := ⟨RJxf58ca, "floatToIntBits", "(F)I"⟩
def RJ6 : String := "java/lang/Integer"
def TJ6 : u_T := fun k => match k with
  | _ => ("", "", "", false)
def tyJ6 : Nat → FieldType := fun k => match k with
  | _ => .int
abbrev wsJ60 : List Cond := u_ws RJ6 TJ6 0
theorem nmJ6 : ∀ a, a < 0 → ∀ b, b < 0 → a ≠ b → (TJ6 a).2.1 ≠ (TJ6 b).2.1 := by decide +kernel
theorem tyJ6_ok : ∀ k, k < 0 → parseFieldDescriptor (TJ6 k).2.2.1 = some (tyJ6 k) := by decide +kernel
abbrev cJ6_bitCount_0f7a4 : ByteArray := prog_10_method_49_code
def yJ6_bitCount_0f7a4 : MethodName := ⟨RJ6, "bitCount", "(I)I"⟩
def RJ9 : String := "java/lang/Math"
def TJ9 : u_T := fun k => match k with
  | _ => ("", "", "", false)
def tyJ9 : Nat → FieldType := fun k => match k with
  | _ => .int
abbrev wsJ90 : List Cond := u_ws RJ9 TJ9 0
theorem nmJ9 : ∀ a, a < 0 → ∀ b, b < 0 → a ≠ b → (TJ9 a).2.1 ≠ (TJ9 b).2.1 := by decide +kernel
theorem tyJ9_ok : ∀ k, k < 0 → parseFieldDescriptor (TJ9 k).2.2.1 = some (tyJ9 k) := by decide +kernel
abbrev cJ9_abs_0f7a4 : ByteArray := prog_11_method_59_code
def yJ9_abs_0f7a4 : MethodName := ⟨RJ9, "abs", "(I)I"⟩
abbrev cJ9_max_7cf53 : ByteArray := prog_11_method_65_code
def yJ9_max_7cf53 : MethodName := ⟨RJ9, "max", "(II)I"⟩
abbrev cJ9_min_7cf53 : ByteArray := prog_11_method_69_code
def yJ9_min_7cf53 : MethodName := ⟨RJ9, "min", "(II)I"⟩
def RJ0 : String := "java/lang/String"
def TJ0 : u_T := fun k => match k with
  | _ => ("", "", "", false)
def tyJ0 : Nat → FieldType := fun k => match k with
  | _ => .int
abbrev wsJ00 : List Cond := u_ws RJ0 TJ0 0
theorem nmJ0 : ∀ a, a < 0 → ∀ b, b < 0 → a ≠ b → (TJ0 a).2.1 ≠ (TJ0 b).2.1 := by decide +kernel
theorem tyJ0_ok : ∀ k, k < 0 → parseFieldDescriptor (TJ0 k).2.2.1 = some (tyJ0 k) := by decide +kernel
abbrev cJ0_length_8abf5 : ByteArray := prog_12_method_54_code
def yJ0_length_8abf5 : MethodName := ⟨RJ0, "length", "()I"⟩
abbrev cJ0_indexOf_0f7a4 : ByteArray := prog_12_method_79_code
def yJ0_indexOf_0f7a4 : MethodName := ⟨RJ0, "indexOf", "(I)I"⟩
abbrev cJ0_indexOf_7cf53 : ByteArray := prog_12_method_80_code
def yJ0_indexOf_7cf53 : MethodName := ⟨RJ0, "indexOf", "(II)I"⟩
abbrev cJ0_coder_7d493 : ByteArray := prog_12_method_152_code
def yJ0_coder_7d493 : MethodName := ⟨RJ0, "coder", "()B"⟩
abbrev cJ0_isLatin1_aae02 : ByteArray := prog_12_method_154_code
def yJ0_isLatin1_aae02 : MethodName := ⟨RJ0, "isLatin1", "()Z"⟩
abbrev cJ0_checkBoundsBeginEnd_23922 : ByteArray := prog_12_method_158_code
def yJ0_checkBoundsBeginEnd_23922 : MethodName := ⟨RJ0, "checkBoundsBeginEnd", "(III)V"⟩
def RJ1 : String := "java/lang/StringLatin1"
def TJ1 : u_T := fun k => match k with
  | _ => ("", "", "", false)
def tyJ1 : Nat → FieldType := fun k => match k with
  | _ => .int
abbrev wsJ10 : List Cond := u_ws RJ1 TJ1 0
theorem nmJ1 : ∀ a, a < 0 → ∀ b, b < 0 → a ≠ b → (TJ1 a).2.1 ≠ (TJ1 b).2.1 := by decide +kernel
theorem tyJ1_ok : ∀ k, k < 0 → parseFieldDescriptor (TJ1 k).2.2.1 = some (tyJ1 k) := by decide +kernel
abbrev cJ1_canEncode_9a6ad : ByteArray := prog_13_method_4_code
def yJ1_canEncode_9a6ad : MethodName := ⟨RJ1, "canEncode", "(I)Z"⟩
abbrev cJ1_indexOf_4cfef : ByteArray := prog_13_method_22_code
def yJ1_indexOf_4cfef : MethodName := ⟨RJ1, "indexOf", "([BIII)I"⟩
abbrev cJ1_indexOfChar_4cfef : ByteArray := prog_13_method_23_code
def yJ1_indexOfChar_4cfef : MethodName := ⟨RJ1, "indexOfChar", "([BIII)I"⟩
def RJ2 : String := "java/lang/StringUTF16"
def TJ2 : u_T := fun k => match k with
  | _ => ("", "", "", false)
def tyJ2 : Nat → FieldType := fun k => match k with
  | _ => .int
abbrev wsJ20 : List Cond := u_ws RJ2 TJ2 0
theorem nmJ2 : ∀ a, a < 0 → ∀ b, b < 0 → a ≠ b → (TJ2 a).2.1 ≠ (TJ2 b).2.1 := by decide +kernel
theorem tyJ2_ok : ∀ k, k < 0 → parseFieldDescriptor (TJ2 k).2.2.1 = some (tyJ2 k) := by decide +kernel
abbrev cJ2_getChar_3b067 : ByteArray := prog_14_method_5_code
def yJ2_getChar_3b067 : MethodName := ⟨RJ2, "getChar", "([BI)C"⟩
abbrev cJ2_length_9d52b : ByteArray := prog_14_method_6_code
def yJ2_length_9d52b : MethodName := ⟨RJ2, "length", "([B)I"⟩
abbrev cJ2_indexOf_4cfef : ByteArray := prog_14_method_40_code
def yJ2_indexOf_4cfef : MethodName := ⟨RJ2, "indexOf", "([BIII)I"⟩
abbrev cJ2_indexOfChar_4cfef : ByteArray := prog_14_method_47_code
def yJ2_indexOfChar_4cfef : MethodName := ⟨RJ2, "indexOfChar", "([BIII)I"⟩
abbrev cJ2_indexOfCharUnsafe_4cfef : ByteArray := prog_14_method_48_code
def yJ2_indexOfCharUnsafe_4cfef : MethodName := ⟨RJ2, "indexOfCharUnsafe", "([BIII)I"⟩
abbrev cJ2_indexOfSupplementary_4cfef : ByteArray := prog_14_method_49_code
def yJ2_indexOfSupplementary_4cfef : MethodName := ⟨RJ2, "indexOfSupplementary", "([BIII)I"⟩
abbrev cJ2_checkBoundsBeginEnd_d044e : ByteArray := prog_14_method_93_code
def yJ2_checkBoundsBeginEnd_d044e : MethodName := ⟨RJ2, "checkBoundsBeginEnd", "(II[B)V"⟩
def RJ3 : String := "jdk/internal/util/Preconditions"
def TJ3 : u_T := fun k => match k with
  | _ => ("", "", "", false)
def tyJ3 : Nat → FieldType := fun k => match k with
  | _ => .int
abbrev wsJ30 : List Cond := u_ws RJ3 TJ3 0
theorem nmJ3 : ∀ a, a < 0 → ∀ b, b < 0 → a ≠ b → (TJ3 a).2.1 ≠ (TJ3 b).2.1 := by decide +kernel
theorem tyJ3_ok : ∀ k, k < 0 → parseFieldDescriptor (TJ3 k).2.2.1 = some (tyJ3 k) := by decide +kernel
abbrev cJ3_checkFromToIndex_8c36e : ByteArray := prog_15_method_12_code
def yJ3_checkFromToIndex_8c36e : MethodName := ⟨RJ3, "checkFromToIndex", "(IIILjava/util/function/BiFunction;)I"⟩
def RL : String := "FerryRoundsLaw"
abbrev cL_law : ByteArray := code
def yL_law : MethodName := ⟨RL, "law", "([I)Z"⟩
theorem dX0_init_0 : decode cX0_init 0 = .ok (.aload_n 0, 1) := by decide +kernel
theorem dX0_init_1 : decode cX0_init 1 = .ok (.invokespecial 3, 3) := by decide +kernel
theorem dX0_init_4 : decode cX0_init 4 = .ok (.aload_n 0, 1) := by decide +kernel
theorem dX0_init_5 : decode cX0_init 5 = .ok (.bipush 9, 2) := by decide +kernel
theorem dX0_init_7 : decode cX0_init 7 = .ok (.anewarray 11, 3) := by decide +kernel
theorem dX0_init_10 : decode cX0_init 10 = .ok (.putfield 13, 3) := by decide +kernel
theorem dX0_init_13 : decode cX0_init 13 = .ok (.iconst 0, 1) := by decide +kernel
theorem dX0_init_14 : decode cX0_init 14 = .ok (.istore_n 1, 1) := by decide +kernel
theorem dX0_init_15 : decode cX0_init 15 = .ok (.iload_n 1, 1) := by decide +kernel
theorem dX0_init_16 : decode cX0_init 16 = .ok (.aload_n 0, 1) := by decide +kernel
theorem dX0_init_17 : decode cX0_init 17 = .ok (.getfield 13, 3) := by decide +kernel
theorem dX0_init_20 : decode cX0_init 20 = .ok (.arraylength, 1) := by decide +kernel
theorem dX0_init_21 : decode cX0_init 21 = .ok (.if_icmp .ge 22, 3) := by decide +kernel
theorem dX0_init_24 : decode cX0_init 24 = .ok (.aload_n 0, 1) := by decide +kernel
theorem dX0_init_25 : decode cX0_init 25 = .ok (.getfield 13, 3) := by decide +kernel
theorem dX0_init_28 : decode cX0_init 28 = .ok (.iload_n 1, 1) := by decide +kernel
theorem dX0_init_29 : decode cX0_init 29 = .ok (.new 11, 3) := by decide +kernel
theorem dX0_init_32 : decode cX0_init 32 = .ok (.dup, 1) := by decide +kernel
theorem dX0_init_33 : decode cX0_init 33 = .ok (.invokespecial 17, 3) := by decide +kernel
theorem dX0_init_36 : decode cX0_init 36 = .ok (.aastore, 1) := by decide +kernel
theorem dX0_init_37 : decode cX0_init 37 = .ok (.iinc 1 1, 3) := by decide +kernel
theorem dX0_init_40 : decode cX0_init 40 = .ok (.goto (-25), 3) := by decide +kernel
theorem dX0_init_43 : decode cX0_init 43 = .ok (.return_, 1) := by decide +kernel
theorem dX0_count_0 : decode cX0_count 0 = .ok (.aload_n 0, 1) := by decide +kernel
theorem dX0_count_1 : decode cX0_count 1 = .ok (.getfield 18, 3) := by decide +kernel
theorem dX0_count_4 : decode cX0_count 4 = .ok (.ireturn, 1) := by decide +kernel
theorem dX0_note_0 : decode cX0_note 0 = .ok (.aload_n 0, 1) := by decide +kernel
theorem dX0_note_1 : decode cX0_note 1 = .ok (.getfield 22, 3) := by decide +kernel
theorem dX0_note_4 : decode cX0_note 4 = .ok (.ifCond .lt 15, 3) := by decide +kernel
theorem dX0_note_7 : decode cX0_note 7 = .ok (.aload_n 0, 1) := by decide +kernel
theorem dX0_note_8 : decode cX0_note 8 = .ok (.getfield 22, 3) := by decide +kernel
theorem dX0_note_11 : decode cX0_note 11 = .ok (.aload_n 0, 1) := by decide +kernel
theorem dX0_note_12 : decode cX0_note 12 = .ok (.getfield 13, 3) := by decide +kernel
theorem dX0_note_15 : decode cX0_note 15 = .ok (.arraylength, 1) := by decide +kernel
theorem dX0_note_16 : decode cX0_note 16 = .ok (.if_icmp .lt 4, 3) := by decide +kernel
theorem dX0_note_19 : decode cX0_note 19 = .ok (.return_, 1) := by decide +kernel
theorem dX0_note_20 : decode cX0_note 20 = .ok (.aload_n 0, 1) := by decide +kernel
theorem dX0_note_21 : decode cX0_note 21 = .ok (.getfield 13, 3) := by decide +kernel
theorem dX0_note_24 : decode cX0_note 24 = .ok (.aload_n 0, 1) := by decide +kernel
theorem dX0_note_25 : decode cX0_note 25 = .ok (.getfield 22, 3) := by decide +kernel
theorem dX0_note_28 : decode cX0_note 28 = .ok (.aaload, 1) := by decide +kernel
theorem dX0_note_29 : decode cX0_note 29 = .ok (.astore_n 2, 1) := by decide +kernel
theorem dX0_note_30 : decode cX0_note 30 = .ok (.aload_n 2, 1) := by decide +kernel
theorem dX0_note_31 : decode cX0_note 31 = .ok (.ifnull 8, 3) := by decide +kernel
theorem dX0_note_34 : decode cX0_note 34 = .ok (.aload_n 2, 1) := by decide +kernel
theorem dX0_note_35 : decode cX0_note 35 = .ok (.aload_n 1, 1) := by decide +kernel
theorem dX0_note_36 : decode cX0_note 36 = .ok (.invokevirtual 25, 3) := by decide +kernel
theorem dX0_note_39 : decode cX0_note 39 = .ok (.return_, 1) := by decide +kernel
theorem dX0_takeBack_0 : decode cX0_takeBack 0 = .ok (.aload_n 1, 1) := by decide +kernel
theorem dX0_takeBack_1 : decode cX0_takeBack 1 = .ok (.ifnull 35, 3) := by decide +kernel
theorem dX0_takeBack_4 : decode cX0_takeBack 4 = .ok (.aload_n 0, 1) := by decide +kernel
theorem dX0_takeBack_5 : decode cX0_takeBack 5 = .ok (.getfield 22, 3) := by decide +kernel
theorem dX0_takeBack_8 : decode cX0_takeBack 8 = .ok (.ifCond .lt 28, 3) := by decide +kernel
theorem dX0_takeBack_11 : decode cX0_takeBack 11 = .ok (.aload_n 0, 1) := by decide +kernel
theorem dX0_takeBack_12 : decode cX0_takeBack 12 = .ok (.getfield 22, 3) := by decide +kernel
theorem dX0_takeBack_15 : decode cX0_takeBack 15 = .ok (.aload_n 0, 1) := by decide +kernel
theorem dX0_takeBack_16 : decode cX0_takeBack 16 = .ok (.getfield 13, 3) := by decide +kernel
theorem dX0_takeBack_19 : decode cX0_takeBack 19 = .ok (.arraylength, 1) := by decide +kernel
theorem dX0_takeBack_20 : decode cX0_takeBack 20 = .ok (.if_icmp .ge 16, 3) := by decide +kernel
theorem dX0_takeBack_23 : decode cX0_takeBack 23 = .ok (.aload_n 1, 1) := by decide +kernel
theorem dX0_takeBack_24 : decode cX0_takeBack 24 = .ok (.aload_n 0, 1) := by decide +kernel
theorem dX0_takeBack_25 : decode cX0_takeBack 25 = .ok (.getfield 13, 3) := by decide +kernel
theorem dX0_takeBack_28 : decode cX0_takeBack 28 = .ok (.aload_n 0, 1) := by decide +kernel
theorem dX0_takeBack_29 : decode cX0_takeBack 29 = .ok (.getfield 22, 3) := by decide +kernel
theorem dX0_takeBack_32 : decode cX0_takeBack 32 = .ok (.aaload, 1) := by decide +kernel
theorem dX0_takeBack_33 : decode cX0_takeBack 33 = .ok (.invokevirtual 25, 3) := by decide +kernel
theorem dX0_takeBack_36 : decode cX0_takeBack 36 = .ok (.return_, 1) := by decide +kernel
theorem dX0_confirm_0 : decode cX0_confirm 0 = .ok (.aload_n 0, 1) := by decide +kernel
theorem dX0_confirm_1 : decode cX0_confirm 1 = .ok (.aload_n 0, 1) := by decide +kernel
theorem dX0_confirm_2 : decode cX0_confirm 2 = .ok (.getfield 22, 3) := by decide +kernel
theorem dX0_confirm_5 : decode cX0_confirm 5 = .ok (.iconst 1, 1) := by decide +kernel
theorem dX0_confirm_6 : decode cX0_confirm 6 = .ok (.iadd, 1) := by decide +kernel
theorem dX0_confirm_7 : decode cX0_confirm 7 = .ok (.bipush 9, 2) := by decide +kernel
theorem dX0_confirm_9 : decode cX0_confirm 9 = .ok (.irem, 1) := by decide +kernel
theorem dX0_confirm_10 : decode cX0_confirm 10 = .ok (.putfield 22, 3) := by decide +kernel
theorem dX0_confirm_13 : decode cX0_confirm 13 = .ok (.aload_n 0, 1) := by decide +kernel
theorem dX0_confirm_14 : decode cX0_confirm 14 = .ok (.bipush 8, 2) := by decide +kernel
theorem dX0_confirm_16 : decode cX0_confirm 16 = .ok (.aload_n 0, 1) := by decide +kernel
theorem dX0_confirm_17 : decode cX0_confirm 17 = .ok (.getfield 18, 3) := by decide +kernel
theorem dX0_confirm_20 : decode cX0_confirm 20 = .ok (.iconst 1, 1) := by decide +kernel
theorem dX0_confirm_21 : decode cX0_confirm 21 = .ok (.iadd, 1) := by decide +kernel
theorem dX0_confirm_22 : decode cX0_confirm 22 = .ok (.invokestatic 29, 3) := by decide +kernel
theorem dX0_confirm_25 : decode cX0_confirm 25 = .ok (.putfield 18, 3) := by decide +kernel
theorem dX0_confirm_28 : decode cX0_confirm 28 = .ok (.return_, 1) := by decide +kernel
theorem dX0_goBack_0 : decode cX0_goBack 0 = .ok (.aload_n 0, 1) := by decide +kernel
theorem dX0_goBack_1 : decode cX0_goBack 1 = .ok (.getfield 18, 3) := by decide +kernel
theorem dX0_goBack_4 : decode cX0_goBack 4 = .ok (.ifCond .gt 5, 3) := by decide +kernel
theorem dX0_goBack_7 : decode cX0_goBack 7 = .ok (.iconst 0, 1) := by decide +kernel
theorem dX0_goBack_8 : decode cX0_goBack 8 = .ok (.ireturn, 1) := by decide +kernel
theorem dX0_goBack_9 : decode cX0_goBack 9 = .ok (.aload_n 0, 1) := by decide +kernel
theorem dX0_goBack_10 : decode cX0_goBack 10 = .ok (.dup, 1) := by decide +kernel
theorem dX0_goBack_11 : decode cX0_goBack 11 = .ok (.getfield 18, 3) := by decide +kernel
theorem dX0_goBack_14 : decode cX0_goBack 14 = .ok (.iconst 1, 1) := by decide +kernel
theorem dX0_goBack_15 : decode cX0_goBack 15 = .ok (.isub, 1) := by decide +kernel
theorem dX0_goBack_16 : decode cX0_goBack 16 = .ok (.putfield 18, 3) := by decide +kernel
theorem dX0_goBack_19 : decode cX0_goBack 19 = .ok (.aload_n 0, 1) := by decide +kernel
theorem dX0_goBack_20 : decode cX0_goBack 20 = .ok (.aload_n 0, 1) := by decide +kernel
theorem dX0_goBack_21 : decode cX0_goBack 21 = .ok (.getfield 22, 3) := by decide +kernel
theorem dX0_goBack_24 : decode cX0_goBack 24 = .ok (.bipush 9, 2) := by decide +kernel
theorem dX0_goBack_26 : decode cX0_goBack 26 = .ok (.iadd, 1) := by decide +kernel
theorem dX0_goBack_27 : decode cX0_goBack 27 = .ok (.iconst 1, 1) := by decide +kernel
theorem dX0_goBack_28 : decode cX0_goBack 28 = .ok (.isub, 1) := by decide +kernel
theorem dX0_goBack_29 : decode cX0_goBack 29 = .ok (.bipush 9, 2) := by decide +kernel
theorem dX0_goBack_31 : decode cX0_goBack 31 = .ok (.irem, 1) := by decide +kernel
theorem dX0_goBack_32 : decode cX0_goBack 32 = .ok (.putfield 22, 3) := by decide +kernel
theorem dX0_goBack_35 : decode cX0_goBack 35 = .ok (.aload_n 0, 1) := by decide +kernel
theorem dX0_goBack_36 : decode cX0_goBack 36 = .ok (.aload_n 1, 1) := by decide +kernel
theorem dX0_goBack_37 : decode cX0_goBack 37 = .ok (.invokevirtual 35, 3) := by decide +kernel
theorem dX0_goBack_40 : decode cX0_goBack 40 = .ok (.iconst 1, 1) := by decide +kernel
theorem dX0_goBack_41 : decode cX0_goBack 41 = .ok (.ireturn, 1) := by decide +kernel
theorem dX0_forget_0 : decode cX0_forget 0 = .ok (.aload_n 0, 1) := by decide +kernel
theorem dX0_forget_1 : decode cX0_forget 1 = .ok (.iconst 0, 1) := by decide +kernel
theorem dX0_forget_2 : decode cX0_forget 2 = .ok (.putfield 18, 3) := by decide +kernel
theorem dX0_forget_5 : decode cX0_forget 5 = .ok (.return_, 1) := by decide +kernel
theorem dX1_init_0 : decode cX1_init 0 = .ok (.aload_n 0, 1) := by decide +kernel
theorem dX1_init_1 : decode cX1_init 1 = .ok (.invokespecial 3, 3) := by decide +kernel
theorem dX1_init_4 : decode cX1_init 4 = .ok (.aload_n 0, 1) := by decide +kernel
theorem dX1_init_5 : decode cX1_init 5 = .ok (.new 9, 3) := by decide +kernel
theorem dX1_init_8 : decode cX1_init 8 = .ok (.dup, 1) := by decide +kernel
theorem dX1_init_9 : decode cX1_init 9 = .ok (.bipush 12, 2) := by decide +kernel
theorem dX1_init_11 : decode cX1_init 11 = .ok (.invokespecial 11, 3) := by decide +kernel
theorem dX1_init_14 : decode cX1_init 14 = .ok (.putfield 14, 3) := by decide +kernel
theorem dX1_init_17 : decode cX1_init 17 = .ok (.aload_n 0, 1) := by decide +kernel
theorem dX1_init_18 : decode cX1_init 18 = .ok (.new 9, 3) := by decide +kernel
theorem dX1_init_21 : decode cX1_init 21 = .ok (.dup, 1) := by decide +kernel
theorem dX1_init_22 : decode cX1_init 22 = .ok (.bipush 12, 2) := by decide +kernel
theorem dX1_init_24 : decode cX1_init 24 = .ok (.invokespecial 11, 3) := by decide +kernel
theorem dX1_init_27 : decode cX1_init 27 = .ok (.putfield 20, 3) := by decide +kernel
theorem dX1_init_30 : decode cX1_init 30 = .ok (.aload_n 0, 1) := by decide +kernel
theorem dX1_init_31 : decode cX1_init 31 = .ok (.bipush 12, 2) := by decide +kernel
theorem dX1_init_33 : decode cX1_init 33 = .ok (.anewarray 9, 3) := by decide +kernel
theorem dX1_init_36 : decode cX1_init 36 = .ok (.putfield 23, 3) := by decide +kernel
theorem dX1_init_39 : decode cX1_init 39 = .ok (.aload_n 0, 1) := by decide +kernel
theorem dX1_init_40 : decode cX1_init 40 = .ok (.new 9, 3) := by decide +kernel
theorem dX1_init_43 : decode cX1_init 43 = .ok (.dup, 1) := by decide +kernel
theorem dX1_init_44 : decode cX1_init 44 = .ok (.iconst 0, 1) := by decide +kernel
theorem dX1_init_45 : decode cX1_init 45 = .ok (.invokespecial 11, 3) := by decide +kernel
theorem dX1_init_48 : decode cX1_init 48 = .ok (.putfield 27, 3) := by decide +kernel
theorem dX1_init_51 : decode cX1_init 51 = .ok (.iconst 0, 1) := by decide +kernel
theorem dX1_init_52 : decode cX1_init 52 = .ok (.istore_n 1, 1) := by decide +kernel
theorem dX1_init_53 : decode cX1_init 53 = .ok (.iload_n 1, 1) := by decide +kernel
theorem dX1_init_54 : decode cX1_init 54 = .ok (.aload_n 0, 1) := by decide +kernel
theorem dX1_init_55 : decode cX1_init 55 = .ok (.getfield 23, 3) := by decide +kernel
theorem dX1_init_58 : decode cX1_init 58 = .ok (.arraylength, 1) := by decide +kernel
theorem dX1_init_59 : decode cX1_init 59 = .ok (.if_icmp .ge 24, 3) := by decide +kernel
theorem dX1_init_62 : decode cX1_init 62 = .ok (.aload_n 0, 1) := by decide +kernel
theorem dX1_init_63 : decode cX1_init 63 = .ok (.getfield 23, 3) := by decide +kernel
theorem dX1_init_66 : decode cX1_init 66 = .ok (.iload_n 1, 1) := by decide +kernel
theorem dX1_init_67 : decode cX1_init 67 = .ok (.new 9, 3) := by decide +kernel
theorem dX1_init_70 : decode cX1_init 70 = .ok (.dup, 1) := by decide +kernel
theorem dX1_init_71 : decode cX1_init 71 = .ok (.bipush 23, 2) := by decide +kernel
theorem dX1_init_73 : decode cX1_init 73 = .ok (.invokespecial 11, 3) := by decide +kernel
theorem dX1_init_76 : decode cX1_init 76 = .ok (.aastore, 1) := by decide +kernel
theorem dX1_init_77 : decode cX1_init 77 = .ok (.iinc 1 1, 3) := by decide +kernel
theorem dX1_init_80 : decode cX1_init 80 = .ok (.goto (-27), 3) := by decide +kernel
theorem dX1_init_83 : decode cX1_init 83 = .ok (.return_, 1) := by decide +kernel
theorem dX1_copyFrom_0 : decode cX1_copyFrom 0 = .ok (.aload_n 1, 1) := by decide +kernel
theorem dX1_copyFrom_1 : decode cX1_copyFrom 1 = .ok (.ifnonnull 4, 3) := by decide +kernel
theorem dX1_copyFrom_4 : decode cX1_copyFrom 4 = .ok (.return_, 1) := by decide +kernel
theorem dX1_copyFrom_5 : decode cX1_copyFrom 5 = .ok (.aload_n 0, 1) := by decide +kernel
theorem dX1_copyFrom_6 : decode cX1_copyFrom 6 = .ok (.getfield 14, 3) := by decide +kernel
theorem dX1_copyFrom_9 : decode cX1_copyFrom 9 = .ok (.aload_n 1, 1) := by decide +kernel
theorem dX1_copyFrom_10 : decode cX1_copyFrom 10 = .ok (.getfield 14, 3) := by decide +kernel
theorem dX1_copyFrom_13 : decode cX1_copyFrom 13 = .ok (.invokevirtual 30, 3) := by decide +kernel
theorem dX1_copyFrom_16 : decode cX1_copyFrom 16 = .ok (.aload_n 0, 1) := by decide +kernel
theorem dX1_copyFrom_17 : decode cX1_copyFrom 17 = .ok (.getfield 20, 3) := by decide +kernel
theorem dX1_copyFrom_20 : decode cX1_copyFrom 20 = .ok (.aload_n 1, 1) := by decide +kernel
theorem dX1_copyFrom_21 : decode cX1_copyFrom 21 = .ok (.getfield 20, 3) := by decide +kernel
theorem dX1_copyFrom_24 : decode cX1_copyFrom 24 = .ok (.invokevirtual 30, 3) := by decide +kernel
theorem dX1_copyFrom_27 : decode cX1_copyFrom 27 = .ok (.iconst 0, 1) := by decide +kernel
theorem dX1_copyFrom_28 : decode cX1_copyFrom 28 = .ok (.istore_n 2, 1) := by decide +kernel
theorem dX1_copyFrom_29 : decode cX1_copyFrom 29 = .ok (.iload_n 2, 1) := by decide +kernel
theorem dX1_copyFrom_30 : decode cX1_copyFrom 30 = .ok (.bipush 12, 2) := by decide +kernel
theorem dX1_copyFrom_32 : decode cX1_copyFrom 32 = .ok (.if_icmp .ge 22, 3) := by decide +kernel
theorem dX1_copyFrom_35 : decode cX1_copyFrom 35 = .ok (.aload_n 0, 1) := by decide +kernel
theorem dX1_copyFrom_36 : decode cX1_copyFrom 36 = .ok (.iload_n 2, 1) := by decide +kernel
theorem dX1_copyFrom_37 : decode cX1_copyFrom 37 = .ok (.invokevirtual 34, 3) := by decide +kernel
theorem dX1_copyFrom_40 : decode cX1_copyFrom 40 = .ok (.aload_n 1, 1) := by decide +kernel
theorem dX1_copyFrom_41 : decode cX1_copyFrom 41 = .ok (.iload_n 2, 1) := by decide +kernel
theorem dX1_copyFrom_42 : decode cX1_copyFrom 42 = .ok (.invokevirtual 34, 3) := by decide +kernel
theorem dX1_copyFrom_45 : decode cX1_copyFrom 45 = .ok (.invokevirtual 30, 3) := by decide +kernel
theorem dX1_copyFrom_48 : decode cX1_copyFrom 48 = .ok (.iinc 2 1, 3) := by decide +kernel
theorem dX1_copyFrom_51 : decode cX1_copyFrom 51 = .ok (.goto (-22), 3) := by decide +kernel
theorem dX1_copyFrom_54 : decode cX1_copyFrom 54 = .ok (.aload_n 0, 1) := by decide +kernel
theorem dX1_copyFrom_55 : decode cX1_copyFrom 55 = .ok (.aload_n 1, 1) := by decide +kernel
theorem dX1_copyFrom_56 : decode cX1_copyFrom 56 = .ok (.getfield 38, 3) := by decide +kernel
theorem dX1_copyFrom_59 : decode cX1_copyFrom 59 = .ok (.putfield 38, 3) := by decide +kernel
theorem dX1_copyFrom_62 : decode cX1_copyFrom 62 = .ok (.aload_n 0, 1) := by decide +kernel
theorem dX1_copyFrom_63 : decode cX1_copyFrom 63 = .ok (.aload_n 1, 1) := by decide +kernel
theorem dX1_copyFrom_64 : decode cX1_copyFrom 64 = .ok (.getfield 42, 3) := by decide +kernel
theorem dX1_copyFrom_67 : decode cX1_copyFrom 67 = .ok (.putfield 42, 3) := by decide +kernel
theorem dX1_copyFrom_70 : decode cX1_copyFrom 70 = .ok (.aload_n 0, 1) := by decide +kernel
theorem dX1_copyFrom_71 : decode cX1_copyFrom 71 = .ok (.aload_n 1, 1) := by decide +kernel
theorem dX1_copyFrom_72 : decode cX1_copyFrom 72 = .ok (.getfield 45, 3) := by decide +kernel
theorem dX1_copyFrom_75 : decode cX1_copyFrom 75 = .ok (.putfield 45, 3) := by decide +kernel
theorem dX1_copyFrom_78 : decode cX1_copyFrom 78 = .ok (.return_, 1) := by decide +kernel
theorem dX1_banks_0 : decode cX1_banks 0 = .ok (.aload_n 0, 1) := by decide +kernel
theorem dX1_banks_1 : decode cX1_banks 1 = .ok (.getfield 14, 3) := by decide +kernel
theorem dX1_banks_4 : decode cX1_banks 4 = .ok (.invokevirtual 48, 3) := by decide +kernel
theorem dX1_banks_7 : decode cX1_banks 7 = .ok (.ireturn, 1) := by decide +kernel
theorem dX1_has_0 : decode cX1_has 0 = .ok (.iload_n 1, 1) := by decide +kernel
theorem dX1_has_1 : decode cX1_has 1 = .ok (.ifCond .lt 18, 3) := by decide +kernel
theorem dX1_has_4 : decode cX1_has 4 = .ok (.iload_n 1, 1) := by decide +kernel
theorem dX1_has_5 : decode cX1_has 5 = .ok (.aload_n 0, 1) := by decide +kernel
theorem dX1_has_6 : decode cX1_has 6 = .ok (.getfield 14, 3) := by decide +kernel
theorem dX1_has_9 : decode cX1_has 9 = .ok (.invokevirtual 48, 3) := by decide +kernel
theorem dX1_has_12 : decode cX1_has 12 = .ok (.if_icmp .ge 7, 3) := by decide +kernel
theorem dX1_has_15 : decode cX1_has 15 = .ok (.iconst 1, 1) := by decide +kernel
theorem dX1_has_16 : decode cX1_has 16 = .ok (.goto 4, 3) := by decide +kernel
theorem dX1_has_19 : decode cX1_has 19 = .ok (.iconst 0, 1) := by decide +kernel
theorem dX1_has_20 : decode cX1_has 20 = .ok (.ireturn, 1) := by decide +kernel
theorem dX1_allBanks_0 : decode cX1_allBanks 0 = .ok (.iconst 1, 1) := by decide +kernel
theorem dX1_allBanks_1 : decode cX1_allBanks 1 = .ok (.aload_n 0, 1) := by decide +kernel
theorem dX1_allBanks_2 : decode cX1_allBanks 2 = .ok (.getfield 14, 3) := by decide +kernel
theorem dX1_allBanks_5 : decode cX1_allBanks 5 = .ok (.invokevirtual 48, 3) := by decide +kernel
theorem dX1_allBanks_8 : decode cX1_allBanks 8 = .ok (.ishl, 1) := by decide +kernel
theorem dX1_allBanks_9 : decode cX1_allBanks 9 = .ok (.iconst 1, 1) := by decide +kernel
theorem dX1_allBanks_10 : decode cX1_allBanks 10 = .ok (.isub, 1) := by decide +kernel
theorem dX1_allBanks_11 : decode cX1_allBanks 11 = .ok (.ireturn, 1) := by decide +kernel
theorem dX1_weightOf_0 : decode cX1_weightOf 0 = .ok (.aload_n 0, 1) := by decide +kernel
theorem dX1_weightOf_1 : decode cX1_weightOf 1 = .ok (.getfield 14, 3) := by decide +kernel
theorem dX1_weightOf_4 : decode cX1_weightOf 4 = .ok (.iload_n 1, 1) := by decide +kernel
theorem dX1_weightOf_5 : decode cX1_weightOf 5 = .ok (.invokevirtual 52, 3) := by decide +kernel
theorem dX1_weightOf_8 : decode cX1_weightOf 8 = .ok (.ireturn, 1) := by decide +kernel
theorem dX1_weightOfAll_0 : decode cX1_weightOfAll 0 = .ok (.iconst 0, 1) := by decide +kernel
theorem dX1_weightOfAll_1 : decode cX1_weightOfAll 1 = .ok (.istore_n 2, 1) := by decide +kernel
theorem dX1_weightOfAll_2 : decode cX1_weightOfAll 2 = .ok (.iconst 0, 1) := by decide +kernel
theorem dX1_weightOfAll_3 : decode cX1_weightOfAll 3 = .ok (.istore_n 3, 1) := by decide +kernel
theorem dX1_weightOfAll_4 : decode cX1_weightOfAll 4 = .ok (.iload_n 3, 1) := by decide +kernel
theorem dX1_weightOfAll_5 : decode cX1_weightOfAll 5 = .ok (.aload_n 0, 1) := by decide +kernel
theorem dX1_weightOfAll_6 : decode cX1_weightOfAll 6 = .ok (.getfield 14, 3) := by decide +kernel
theorem dX1_weightOfAll_9 : decode cX1_weightOfAll 9 = .ok (.invokevirtual 48, 3) := by decide +kernel
theorem dX1_weightOfAll_12 : decode cX1_weightOfAll 12 = .ok (.if_icmp .ge 29, 3) := by decide +kernel
theorem dX1_weightOfAll_15 : decode cX1_weightOfAll 15 = .ok (.iload_n 1, 1) := by decide +kernel
theorem dX1_weightOfAll_16 : decode cX1_weightOfAll 16 = .ok (.iload_n 3, 1) := by decide +kernel
theorem dX1_weightOfAll_17 : decode cX1_weightOfAll 17 = .ok (.invokestatic 56, 3) := by decide +kernel
theorem dX1_weightOfAll_20 : decode cX1_weightOfAll 20 = .ok (.iand, 1) := by decide +kernel
theorem dX1_weightOfAll_21 : decode cX1_weightOfAll 21 = .ok (.ifCond .eq 14, 3) := by decide +kernel
theorem dX1_weightOfAll_24 : decode cX1_weightOfAll 24 = .ok (.iload_n 2, 1) := by decide +kernel
theorem dX1_weightOfAll_25 : decode cX1_weightOfAll 25 = .ok (.aload_n 0, 1) := by decide +kernel
theorem dX1_weightOfAll_26 : decode cX1_weightOfAll 26 = .ok (.getfield 14, 3) := by decide +kernel
theorem dX1_weightOfAll_29 : decode cX1_weightOfAll 29 = .ok (.iload_n 3, 1) := by decide +kernel
theorem dX1_weightOfAll_30 : decode cX1_weightOfAll 30 = .ok (.invokevirtual 52, 3) := by decide +kernel
theorem dX1_weightOfAll_33 : decode cX1_weightOfAll 33 = .ok (.iadd, 1) := by decide +kernel
theorem dX1_weightOfAll_34 : decode cX1_weightOfAll 34 = .ok (.istore_n 2, 1) := by decide +kernel
theorem dX1_weightOfAll_35 : decode cX1_weightOfAll 35 = .ok (.iinc 3 1, 3) := by decide +kernel
theorem dX1_weightOfAll_38 : decode cX1_weightOfAll 38 = .ok (.goto (-34), 3) := by decide +kernel
theorem dX1_weightOfAll_41 : decode cX1_weightOfAll 41 = .ok (.iload_n 2, 1) := by decide +kernel
theorem dX1_weightOfAll_42 : decode cX1_weightOfAll 42 = .ok (.ireturn, 1) := by decide +kernel
theorem dX1_ropesOf_0 : decode cX1_ropesOf 0 = .ok (.aload_n 0, 1) := by decide +kernel
theorem dX1_ropesOf_1 : decode cX1_ropesOf 1 = .ok (.iload_n 1, 1) := by decide +kernel
theorem dX1_ropesOf_2 : decode cX1_ropesOf 2 = .ok (.invokevirtual 59, 3) := by decide +kernel
theorem dX1_ropesOf_5 : decode cX1_ropesOf 5 = .ok (.ifCond .eq 14, 3) := by decide +kernel
theorem dX1_ropesOf_8 : decode cX1_ropesOf 8 = .ok (.aload_n 0, 1) := by decide +kernel
theorem dX1_ropesOf_9 : decode cX1_ropesOf 9 = .ok (.getfield 20, 3) := by decide +kernel
theorem dX1_ropesOf_12 : decode cX1_ropesOf 12 = .ok (.iload_n 1, 1) := by decide +kernel
theorem dX1_ropesOf_13 : decode cX1_ropesOf 13 = .ok (.invokevirtual 52, 3) := by decide +kernel
theorem dX1_ropesOf_16 : decode cX1_ropesOf 16 = .ok (.goto 4, 3) := by decide +kernel
theorem dX1_ropesOf_19 : decode cX1_ropesOf 19 = .ok (.iconst 0, 1) := by decide +kernel
theorem dX1_ropesOf_20 : decode cX1_ropesOf 20 = .ok (.ireturn, 1) := by decide +kernel
theorem dX1_isTied_0 : decode cX1_isTied 0 = .ok (.aload_n 0, 1) := by decide +kernel
theorem dX1_isTied_1 : decode cX1_isTied 1 = .ok (.iload_n 1, 1) := by decide +kernel
theorem dX1_isTied_2 : decode cX1_isTied 2 = .ok (.invokevirtual 63, 3) := by decide +kernel
theorem dX1_isTied_5 : decode cX1_isTied 5 = .ok (.iload_n 2, 1) := by decide +kernel
theorem dX1_isTied_6 : decode cX1_isTied 6 = .ok (.invokestatic 56, 3) := by decide +kernel
theorem dX1_isTied_9 : decode cX1_isTied 9 = .ok (.iand, 1) := by decide +kernel
theorem dX1_isTied_10 : decode cX1_isTied 10 = .ok (.ifCond .eq 7, 3) := by decide +kernel
theorem dX1_isTied_13 : decode cX1_isTied 13 = .ok (.iconst 1, 1) := by decide +kernel
theorem dX1_isTied_14 : decode cX1_isTied 14 = .ok (.goto 4, 3) := by decide +kernel
theorem dX1_isTied_17 : decode cX1_isTied 17 = .ok (.iconst 0, 1) := by decide +kernel
theorem dX1_isTied_18 : decode cX1_isTied 18 = .ok (.ireturn, 1) := by decide +kernel
theorem dX1_ropes_0 : decode cX1_ropes 0 = .ok (.iconst 0, 1) := by decide +kernel
theorem dX1_ropes_1 : decode cX1_ropes 1 = .ok (.istore_n 1, 1) := by decide +kernel
theorem dX1_ropes_2 : decode cX1_ropes 2 = .ok (.iconst 0, 1) := by decide +kernel
theorem dX1_ropes_3 : decode cX1_ropes 3 = .ok (.istore_n 2, 1) := by decide +kernel
theorem dX1_ropes_4 : decode cX1_ropes 4 = .ok (.iload_n 2, 1) := by decide +kernel
theorem dX1_ropes_5 : decode cX1_ropes 5 = .ok (.aload_n 0, 1) := by decide +kernel
theorem dX1_ropes_6 : decode cX1_ropes 6 = .ok (.getfield 20, 3) := by decide +kernel
theorem dX1_ropes_9 : decode cX1_ropes 9 = .ok (.invokevirtual 48, 3) := by decide +kernel
theorem dX1_ropes_12 : decode cX1_ropes 12 = .ok (.if_icmp .ge 23, 3) := by decide +kernel
theorem dX1_ropes_15 : decode cX1_ropes 15 = .ok (.iload_n 1, 1) := by decide +kernel
theorem dX1_ropes_16 : decode cX1_ropes 16 = .ok (.aload_n 0, 1) := by decide +kernel
theorem dX1_ropes_17 : decode cX1_ropes 17 = .ok (.getfield 20, 3) := by decide +kernel
theorem dX1_ropes_20 : decode cX1_ropes 20 = .ok (.iload_n 2, 1) := by decide +kernel
theorem dX1_ropes_21 : decode cX1_ropes 21 = .ok (.invokevirtual 52, 3) := by decide +kernel
theorem dX1_ropes_24 : decode cX1_ropes 24 = .ok (.invokestatic 66, 3) := by decide +kernel
theorem dX1_ropes_27 : decode cX1_ropes 27 = .ok (.iadd, 1) := by decide +kernel
theorem dX1_ropes_28 : decode cX1_ropes 28 = .ok (.istore_n 1, 1) := by decide +kernel
theorem dX1_ropes_29 : decode cX1_ropes 29 = .ok (.iinc 2 1, 3) := by decide +kernel
theorem dX1_ropes_32 : decode cX1_ropes 32 = .ok (.goto (-28), 3) := by decide +kernel
theorem dX1_ropes_35 : decode cX1_ropes 35 = .ok (.iload_n 1, 1) := by decide +kernel
theorem dX1_ropes_36 : decode cX1_ropes 36 = .ok (.iconst 2, 1) := by decide +kernel
theorem dX1_ropes_37 : decode cX1_ropes 37 = .ok (.idiv, 1) := by decide +kernel
theorem dX1_ropes_38 : decode cX1_ropes 38 = .ok (.ireturn, 1) := by decide +kernel
theorem dX1_joinsSoFar_0 : decode cX1_joinsSoFar 0 = .ok (.aload_n 0, 1) := by decide +kernel
theorem dX1_joinsSoFar_1 : decode cX1_joinsSoFar 1 = .ok (.getfield 38, 3) := by decide +kernel
theorem dX1_joinsSoFar_4 : decode cX1_joinsSoFar 4 = .ok (.ireturn, 1) := by decide +kernel
theorem dX1_cutsSoFar_0 : decode cX1_cutsSoFar 0 = .ok (.aload_n 0, 1) := by decide +kernel
theorem dX1_cutsSoFar_1 : decode cX1_cutsSoFar 1 = .ok (.getfield 42, 3) := by decide +kernel
theorem dX1_cutsSoFar_4 : decode cX1_cutsSoFar 4 = .ok (.ireturn, 1) := by decide +kernel
theorem dX1_turnsSoFar_0 : decode cX1_turnsSoFar 0 = .ok (.aload_n 0, 1) := by decide +kernel
theorem dX1_turnsSoFar_1 : decode cX1_turnsSoFar 1 = .ok (.getfield 45, 3) := by decide +kernel
theorem dX1_turnsSoFar_4 : decode cX1_turnsSoFar 4 = .ok (.ireturn, 1) := by decide +kernel
theorem dX1_addBankOf_0 : decode cX1_addBankOf 0 = .ok (.aload_n 0, 1) := by decide +kernel
theorem dX1_addBankOf_1 : decode cX1_addBankOf 1 = .ok (.getfield 14, 3) := by decide +kernel
theorem dX1_addBankOf_4 : decode cX1_addBankOf 4 = .ok (.invokevirtual 48, 3) := by decide +kernel
theorem dX1_addBankOf_7 : decode cX1_addBankOf 7 = .ok (.istore_n 2, 1) := by decide +kernel
theorem dX1_addBankOf_8 : decode cX1_addBankOf 8 = .ok (.aload_n 0, 1) := by decide +kernel
theorem dX1_addBankOf_9 : decode cX1_addBankOf 9 = .ok (.getfield 14, 3) := by decide +kernel
theorem dX1_addBankOf_12 : decode cX1_addBankOf 12 = .ok (.iload_n 1, 1) := by decide +kernel
theorem dX1_addBankOf_13 : decode cX1_addBankOf 13 = .ok (.invokevirtual 71, 3) := by decide +kernel
theorem dX1_addBankOf_16 : decode cX1_addBankOf 16 = .ok (.aload_n 0, 1) := by decide +kernel
theorem dX1_addBankOf_17 : decode cX1_addBankOf 17 = .ok (.getfield 20, 3) := by decide +kernel
theorem dX1_addBankOf_20 : decode cX1_addBankOf 20 = .ok (.iconst 0, 1) := by decide +kernel
theorem dX1_addBankOf_21 : decode cX1_addBankOf 21 = .ok (.invokevirtual 71, 3) := by decide +kernel
theorem dX1_addBankOf_24 : decode cX1_addBankOf 24 = .ok (.aload_n 0, 1) := by decide +kernel
theorem dX1_addBankOf_25 : decode cX1_addBankOf 25 = .ok (.iload_n 2, 1) := by decide +kernel
theorem dX1_addBankOf_26 : decode cX1_addBankOf 26 = .ok (.invokevirtual 34, 3) := by decide +kernel
theorem dX1_addBankOf_29 : decode cX1_addBankOf 29 = .ok (.iload_n 2, 1) := by decide +kernel
theorem dX1_addBankOf_30 : decode cX1_addBankOf 30 = .ok (.invokevirtual 71, 3) := by decide +kernel
theorem dX1_addBankOf_33 : decode cX1_addBankOf 33 = .ok (.iload_n 2, 1) := by decide +kernel
theorem dX1_addBankOf_34 : decode cX1_addBankOf 34 = .ok (.ireturn, 1) := by decide +kernel
theorem dX1_putWeight_0 : decode cX1_putWeight 0 = .ok (.aload_n 0, 1) := by decide +kernel
theorem dX1_putWeight_1 : decode cX1_putWeight 1 = .ok (.getfield 14, 3) := by decide +kernel
theorem dX1_putWeight_4 : decode cX1_putWeight 4 = .ok (.iload_n 1, 1) := by decide +kernel
theorem dX1_putWeight_5 : decode cX1_putWeight 5 = .ok (.iload_n 2, 1) := by decide +kernel
theorem dX1_putWeight_6 : decode cX1_putWeight 6 = .ok (.invokevirtual 74, 3) := by decide +kernel
theorem dX1_putWeight_9 : decode cX1_putWeight 9 = .ok (.return_, 1) := by decide +kernel
theorem dX1_raiseAll_0 : decode cX1_raiseAll 0 = .ok (.iconst 0, 1) := by decide +kernel
theorem dX1_raiseAll_1 : decode cX1_raiseAll 1 = .ok (.istore_n 3, 1) := by decide +kernel
theorem dX1_raiseAll_2 : decode cX1_raiseAll 2 = .ok (.iconst 0, 1) := by decide +kernel
theorem dX1_raiseAll_3 : decode cX1_raiseAll 3 = .ok (.istore 4, 2) := by decide +kernel
theorem dX1_raiseAll_5 : decode cX1_raiseAll 5 = .ok (.iload 4, 2) := by decide +kernel
theorem dX1_raiseAll_7 : decode cX1_raiseAll 7 = .ok (.aload_n 0, 1) := by decide +kernel
theorem dX1_raiseAll_8 : decode cX1_raiseAll 8 = .ok (.getfield 14, 3) := by decide +kernel
theorem dX1_raiseAll_11 : decode cX1_raiseAll 11 = .ok (.invokevirtual 48, 3) := by decide +kernel
theorem dX1_raiseAll_14 : decode cX1_raiseAll 14 = .ok (.if_icmp .ge 66, 3) := by decide +kernel
theorem dX1_raiseAll_17 : decode cX1_raiseAll 17 = .ok (.aload_n 0, 1) := by decide +kernel
theorem dX1_raiseAll_18 : decode cX1_raiseAll 18 = .ok (.getfield 14, 3) := by decide +kernel
theorem dX1_raiseAll_21 : decode cX1_raiseAll 21 = .ok (.iload 4, 2) := by decide +kernel
theorem dX1_raiseAll_23 : decode cX1_raiseAll 23 = .ok (.invokevirtual 52, 3) := by decide +kernel
theorem dX1_raiseAll_26 : decode cX1_raiseAll 26 = .ok (.istore 5, 2) := by decide +kernel
theorem dX1_raiseAll_28 : decode cX1_raiseAll 28 = .ok (.iconst 0, 1) := by decide +kernel
theorem dX1_raiseAll_29 : decode cX1_raiseAll 29 = .ok (.bipush 99, 2) := by decide +kernel
theorem dX1_raiseAll_31 : decode cX1_raiseAll 31 = .ok (.iload 5, 2) := by decide +kernel
theorem dX1_raiseAll_33 : decode cX1_raiseAll 33 = .ok (.iload_n 2, 1) := by decide +kernel
theorem dX1_raiseAll_34 : decode cX1_raiseAll 34 = .ok (.iadd, 1) := by decide +kernel
theorem dX1_raiseAll_35 : decode cX1_raiseAll 35 = .ok (.invokestatic 78, 3) := by decide +kernel
theorem dX1_raiseAll_38 : decode cX1_raiseAll 38 = .ok (.invokestatic 84, 3) := by decide +kernel
theorem dX1_raiseAll_41 : decode cX1_raiseAll 41 = .ok (.istore 6, 2) := by decide +kernel
theorem dX1_raiseAll_43 : decode cX1_raiseAll 43 = .ok (.iload_n 1, 1) := by decide +kernel
theorem dX1_raiseAll_44 : decode cX1_raiseAll 44 = .ok (.iload 4, 2) := by decide +kernel
theorem dX1_raiseAll_46 : decode cX1_raiseAll 46 = .ok (.invokestatic 56, 3) := by decide +kernel
theorem dX1_raiseAll_49 : decode cX1_raiseAll 49 = .ok (.iand, 1) := by decide +kernel
theorem dX1_raiseAll_50 : decode cX1_raiseAll 50 = .ok (.ifCond .eq 24, 3) := by decide +kernel
theorem dX1_raiseAll_53 : decode cX1_raiseAll 53 = .ok (.iload 6, 2) := by decide +kernel
theorem dX1_raiseAll_55 : decode cX1_raiseAll 55 = .ok (.iload 5, 2) := by decide +kernel
theorem dX1_raiseAll_57 : decode cX1_raiseAll 57 = .ok (.if_icmp .eq 17, 3) := by decide +kernel
theorem dX1_raiseAll_60 : decode cX1_raiseAll 60 = .ok (.aload_n 0, 1) := by decide +kernel
theorem dX1_raiseAll_61 : decode cX1_raiseAll 61 = .ok (.getfield 14, 3) := by decide +kernel
theorem dX1_raiseAll_64 : decode cX1_raiseAll 64 = .ok (.iload 4, 2) := by decide +kernel
theorem dX1_raiseAll_66 : decode cX1_raiseAll 66 = .ok (.iload 6, 2) := by decide +kernel
theorem dX1_raiseAll_68 : decode cX1_raiseAll 68 = .ok (.invokevirtual 74, 3) := by decide +kernel
theorem dX1_raiseAll_71 : decode cX1_raiseAll 71 = .ok (.iinc 3 1, 3) := by decide +kernel
theorem dX1_raiseAll_74 : decode cX1_raiseAll 74 = .ok (.iinc 4 1, 3) := by decide +kernel
theorem dX1_raiseAll_77 : decode cX1_raiseAll 77 = .ok (.goto (-72), 3) := by decide +kernel
theorem dX1_raiseAll_80 : decode cX1_raiseAll 80 = .ok (.iload_n 3, 1) := by decide +kernel
theorem dX1_raiseAll_81 : decode cX1_raiseAll 81 = .ok (.ireturn, 1) := by decide +kernel
theorem dX1_turnTo_0 : decode cX1_turnTo 0 = .ok (.aload_n 0, 1) := by decide +kernel
theorem dX1_turnTo_1 : decode cX1_turnTo 1 = .ok (.iload_n 1, 1) := by decide +kernel
theorem dX1_turnTo_2 : decode cX1_turnTo 2 = .ok (.invokevirtual 87, 3) := by decide +kernel
theorem dX1_turnTo_5 : decode cX1_turnTo 5 = .ok (.astore_n 2, 1) := by decide +kernel
theorem dX1_turnTo_6 : decode cX1_turnTo 6 = .ok (.aload_n 0, 1) := by decide +kernel
theorem dX1_turnTo_7 : decode cX1_turnTo 7 = .ok (.iload_n 1, 1) := by decide +kernel
theorem dX1_turnTo_8 : decode cX1_turnTo 8 = .ok (.invokevirtual 34, 3) := by decide +kernel
theorem dX1_turnTo_11 : decode cX1_turnTo 11 = .ok (.astore_n 3, 1) := by decide +kernel
theorem dX1_turnTo_12 : decode cX1_turnTo 12 = .ok (.aload_n 2, 1) := by decide +kernel
theorem dX1_turnTo_13 : decode cX1_turnTo 13 = .ok (.iload_n 1, 1) := by decide +kernel
theorem dX1_turnTo_14 : decode cX1_turnTo 14 = .ok (.invokevirtual 90, 3) := by decide +kernel
theorem dX1_turnTo_17 : decode cX1_turnTo 17 = .ok (.istore 4, 2) := by decide +kernel
theorem dX1_turnTo_19 : decode cX1_turnTo 19 = .ok (.iload 4, 2) := by decide +kernel
theorem dX1_turnTo_21 : decode cX1_turnTo 21 = .ok (.ifCond .gt 4, 3) := by decide +kernel
theorem dX1_turnTo_24 : decode cX1_turnTo 24 = .ok (.return_, 1) := by decide +kernel
theorem dX1_turnTo_25 : decode cX1_turnTo 25 = .ok (.aload_n 3, 1) := by decide +kernel
theorem dX1_turnTo_26 : decode cX1_turnTo 26 = .ok (.aload_n 2, 1) := by decide +kernel
theorem dX1_turnTo_27 : decode cX1_turnTo 27 = .ok (.iload 4, 2) := by decide +kernel
theorem dX1_turnTo_29 : decode cX1_turnTo 29 = .ok (.aload_n 2, 1) := by decide +kernel
theorem dX1_turnTo_30 : decode cX1_turnTo 30 = .ok (.invokevirtual 48, 3) := by decide +kernel
theorem dX1_turnTo_33 : decode cX1_turnTo 33 = .ok (.iconst 1, 1) := by decide +kernel
theorem dX1_turnTo_34 : decode cX1_turnTo 34 = .ok (.isub, 1) := by decide +kernel
theorem dX1_turnTo_35 : decode cX1_turnTo 35 = .ok (.invokevirtual 93, 3) := by decide +kernel
theorem dX1_turnTo_38 : decode cX1_turnTo 38 = .ok (.aload_n 3, 1) := by decide +kernel
theorem dX1_turnTo_39 : decode cX1_turnTo 39 = .ok (.aload_n 2, 1) := by decide +kernel
theorem dX1_turnTo_40 : decode cX1_turnTo 40 = .ok (.iconst 1, 1) := by decide +kernel
theorem dX1_turnTo_41 : decode cX1_turnTo 41 = .ok (.iload 4, 2) := by decide +kernel
theorem dX1_turnTo_43 : decode cX1_turnTo 43 = .ok (.invokevirtual 93, 3) := by decide +kernel
theorem dX1_turnTo_46 : decode cX1_turnTo 46 = .ok (.aload_n 2, 1) := by decide +kernel
theorem dX1_turnTo_47 : decode cX1_turnTo 47 = .ok (.invokevirtual 97, 3) := by decide +kernel
theorem dX1_turnTo_50 : decode cX1_turnTo 50 = .ok (.return_, 1) := by decide +kernel
theorem dX1_countTurn_0 : decode cX1_countTurn 0 = .ok (.aload_n 0, 1) := by decide +kernel
theorem dX1_countTurn_1 : decode cX1_countTurn 1 = .ok (.dup, 1) := by decide +kernel
theorem dX1_countTurn_2 : decode cX1_countTurn 2 = .ok (.getfield 45, 3) := by decide +kernel
theorem dX1_countTurn_5 : decode cX1_countTurn 5 = .ok (.iconst 1, 1) := by decide +kernel
theorem dX1_countTurn_6 : decode cX1_countTurn 6 = .ok (.iadd, 1) := by decide +kernel
theorem dX1_countTurn_7 : decode cX1_countTurn 7 = .ok (.putfield 45, 3) := by decide +kernel
theorem dX1_countTurn_10 : decode cX1_countTurn 10 = .ok (.return_, 1) := by decide +kernel
theorem dX1_tie_0 : decode cX1_tie 0 = .ok (.aload_n 0, 1) := by decide +kernel
theorem dX1_tie_1 : decode cX1_tie 1 = .ok (.iload_n 2, 1) := by decide +kernel
theorem dX1_tie_2 : decode cX1_tie 2 = .ok (.invokevirtual 34, 3) := by decide +kernel
theorem dX1_tie_5 : decode cX1_tie 5 = .ok (.astore_n 3, 1) := by decide +kernel
theorem dX1_tie_6 : decode cX1_tie 6 = .ok (.aload_n 0, 1) := by decide +kernel
theorem dX1_tie_7 : decode cX1_tie 7 = .ok (.iload_n 1, 1) := by decide +kernel
theorem dX1_tie_8 : decode cX1_tie 8 = .ok (.invokevirtual 87, 3) := by decide +kernel
theorem dX1_tie_11 : decode cX1_tie 11 = .ok (.astore 4, 2) := by decide +kernel
theorem dX1_tie_13 : decode cX1_tie 13 = .ok (.aload 4, 2) := by decide +kernel
theorem dX1_tie_15 : decode cX1_tie 15 = .ok (.iload_n 1, 1) := by decide +kernel
theorem dX1_tie_16 : decode cX1_tie 16 = .ok (.invokevirtual 90, 3) := by decide +kernel
theorem dX1_tie_19 : decode cX1_tie 19 = .ok (.istore 5, 2) := by decide +kernel
theorem dX1_tie_21 : decode cX1_tie 21 = .ok (.aload_n 3, 1) := by decide +kernel
theorem dX1_tie_22 : decode cX1_tie 22 = .ok (.iload_n 1, 1) := by decide +kernel
theorem dX1_tie_23 : decode cX1_tie 23 = .ok (.invokevirtual 71, 3) := by decide +kernel
theorem dX1_tie_26 : decode cX1_tie 26 = .ok (.aload_n 3, 1) := by decide +kernel
theorem dX1_tie_27 : decode cX1_tie 27 = .ok (.aload 4, 2) := by decide +kernel
theorem dX1_tie_29 : decode cX1_tie 29 = .ok (.iload 5, 2) := by decide +kernel
theorem dX1_tie_31 : decode cX1_tie 31 = .ok (.iconst 1, 1) := by decide +kernel
theorem dX1_tie_32 : decode cX1_tie 32 = .ok (.iadd, 1) := by decide +kernel
theorem dX1_tie_33 : decode cX1_tie 33 = .ok (.aload 4, 2) := by decide +kernel
theorem dX1_tie_35 : decode cX1_tie 35 = .ok (.invokevirtual 48, 3) := by decide +kernel
theorem dX1_tie_38 : decode cX1_tie 38 = .ok (.iconst 1, 1) := by decide +kernel
theorem dX1_tie_39 : decode cX1_tie 39 = .ok (.isub, 1) := by decide +kernel
theorem dX1_tie_40 : decode cX1_tie 40 = .ok (.invokevirtual 93, 3) := by decide +kernel
theorem dX1_tie_43 : decode cX1_tie 43 = .ok (.aload 4, 2) := by decide +kernel
theorem dX1_tie_45 : decode cX1_tie 45 = .ok (.iload 5, 2) := by decide +kernel
theorem dX1_tie_47 : decode cX1_tie 47 = .ok (.iconst 1, 1) := by decide +kernel
theorem dX1_tie_48 : decode cX1_tie 48 = .ok (.iadd, 1) := by decide +kernel
theorem dX1_tie_49 : decode cX1_tie 49 = .ok (.invokevirtual 100, 3) := by decide +kernel
theorem dX1_tie_52 : decode cX1_tie 52 = .ok (.aload 4, 2) := by decide +kernel
theorem dX1_tie_54 : decode cX1_tie 54 = .ok (.aload_n 3, 1) := by decide +kernel
theorem dX1_tie_55 : decode cX1_tie 55 = .ok (.iconst 0, 1) := by decide +kernel
theorem dX1_tie_56 : decode cX1_tie 56 = .ok (.aload_n 3, 1) := by decide +kernel
theorem dX1_tie_57 : decode cX1_tie 57 = .ok (.invokevirtual 48, 3) := by decide +kernel
theorem dX1_tie_60 : decode cX1_tie 60 = .ok (.iconst 1, 1) := by decide +kernel
theorem dX1_tie_61 : decode cX1_tie 61 = .ok (.isub, 1) := by decide +kernel
theorem dX1_tie_62 : decode cX1_tie 62 = .ok (.invokevirtual 93, 3) := by decide +kernel
theorem dX1_tie_65 : decode cX1_tie 65 = .ok (.aload_n 3, 1) := by decide +kernel
theorem dX1_tie_66 : decode cX1_tie 66 = .ok (.invokevirtual 97, 3) := by decide +kernel
theorem dX1_tie_69 : decode cX1_tie 69 = .ok (.aload_n 0, 1) := by decide +kernel
theorem dX1_tie_70 : decode cX1_tie 70 = .ok (.getfield 20, 3) := by decide +kernel
theorem dX1_tie_73 : decode cX1_tie 73 = .ok (.iload_n 1, 1) := by decide +kernel
theorem dX1_tie_74 : decode cX1_tie 74 = .ok (.aload_n 0, 1) := by decide +kernel
theorem dX1_tie_75 : decode cX1_tie 75 = .ok (.iload_n 1, 1) := by decide +kernel
theorem dX1_tie_76 : decode cX1_tie 76 = .ok (.invokevirtual 63, 3) := by decide +kernel
theorem dX1_tie_79 : decode cX1_tie 79 = .ok (.iload_n 2, 1) := by decide +kernel
theorem dX1_tie_80 : decode cX1_tie 80 = .ok (.invokestatic 56, 3) := by decide +kernel
theorem dX1_tie_83 : decode cX1_tie 83 = .ok (.ior, 1) := by decide +kernel
theorem dX1_tie_84 : decode cX1_tie 84 = .ok (.invokevirtual 74, 3) := by decide +kernel
theorem dX1_tie_87 : decode cX1_tie 87 = .ok (.aload_n 0, 1) := by decide +kernel
theorem dX1_tie_88 : decode cX1_tie 88 = .ok (.getfield 20, 3) := by decide +kernel
theorem dX1_tie_91 : decode cX1_tie 91 = .ok (.iload_n 2, 1) := by decide +kernel
theorem dX1_tie_92 : decode cX1_tie 92 = .ok (.aload_n 0, 1) := by decide +kernel
theorem dX1_tie_93 : decode cX1_tie 93 = .ok (.iload_n 2, 1) := by decide +kernel
theorem dX1_tie_94 : decode cX1_tie 94 = .ok (.invokevirtual 63, 3) := by decide +kernel
theorem dX1_tie_97 : decode cX1_tie 97 = .ok (.iload_n 1, 1) := by decide +kernel
theorem dX1_tie_98 : decode cX1_tie 98 = .ok (.invokestatic 56, 3) := by decide +kernel
theorem dX1_tie_101 : decode cX1_tie 101 = .ok (.ior, 1) := by decide +kernel
theorem dX1_tie_102 : decode cX1_tie 102 = .ok (.invokevirtual 74, 3) := by decide +kernel
theorem dX1_tie_105 : decode cX1_tie 105 = .ok (.aload_n 0, 1) := by decide +kernel
theorem dX1_tie_106 : decode cX1_tie 106 = .ok (.dup, 1) := by decide +kernel
theorem dX1_tie_107 : decode cX1_tie 107 = .ok (.getfield 38, 3) := by decide +kernel
theorem dX1_tie_110 : decode cX1_tie 110 = .ok (.iconst 1, 1) := by decide +kernel
theorem dX1_tie_111 : decode cX1_tie 111 = .ok (.iadd, 1) := by decide +kernel
theorem dX1_tie_112 : decode cX1_tie 112 = .ok (.putfield 38, 3) := by decide +kernel
theorem dX1_tie_115 : decode cX1_tie 115 = .ok (.return_, 1) := by decide +kernel
theorem dX1_untie_0 : decode cX1_untie 0 = .ok (.aload_n 0, 1) := by decide +kernel
theorem dX1_untie_1 : decode cX1_untie 1 = .ok (.iload_n 1, 1) := by decide +kernel
theorem dX1_untie_2 : decode cX1_untie 2 = .ok (.invokevirtual 87, 3) := by decide +kernel
theorem dX1_untie_5 : decode cX1_untie 5 = .ok (.astore_n 3, 1) := by decide +kernel
theorem dX1_untie_6 : decode cX1_untie 6 = .ok (.aload_n 3, 1) := by decide +kernel
theorem dX1_untie_7 : decode cX1_untie 7 = .ok (.iload_n 1, 1) := by decide +kernel
theorem dX1_untie_8 : decode cX1_untie 8 = .ok (.invokevirtual 90, 3) := by decide +kernel
theorem dX1_untie_11 : decode cX1_untie 11 = .ok (.istore 4, 2) := by decide +kernel
theorem dX1_untie_13 : decode cX1_untie 13 = .ok (.aload_n 3, 1) := by decide +kernel
theorem dX1_untie_14 : decode cX1_untie 14 = .ok (.iload_n 1, 1) := by decide +kernel
theorem dX1_untie_15 : decode cX1_untie 15 = .ok (.invokevirtual 103, 3) := by decide +kernel
theorem dX1_untie_18 : decode cX1_untie 18 = .ok (.istore 5, 2) := by decide +kernel
theorem dX1_untie_20 : decode cX1_untie 20 = .ok (.aload_n 0, 1) := by decide +kernel
theorem dX1_untie_21 : decode cX1_untie 21 = .ok (.iload_n 1, 1) := by decide +kernel
theorem dX1_untie_22 : decode cX1_untie 22 = .ok (.invokevirtual 34, 3) := by decide +kernel
theorem dX1_untie_25 : decode cX1_untie 25 = .ok (.aload_n 3, 1) := by decide +kernel
theorem dX1_untie_26 : decode cX1_untie 26 = .ok (.iload 4, 2) := by decide +kernel
theorem dX1_untie_28 : decode cX1_untie 28 = .ok (.iload 5, 2) := by decide +kernel
theorem dX1_untie_30 : decode cX1_untie 30 = .ok (.invokevirtual 93, 3) := by decide +kernel
theorem dX1_untie_33 : decode cX1_untie 33 = .ok (.aload_n 3, 1) := by decide +kernel
theorem dX1_untie_34 : decode cX1_untie 34 = .ok (.iload 4, 2) := by decide +kernel
theorem dX1_untie_36 : decode cX1_untie 36 = .ok (.iload 5, 2) := by decide +kernel
theorem dX1_untie_38 : decode cX1_untie 38 = .ok (.iconst 1, 1) := by decide +kernel
theorem dX1_untie_39 : decode cX1_untie 39 = .ok (.iadd, 1) := by decide +kernel
theorem dX1_untie_40 : decode cX1_untie 40 = .ok (.invokevirtual 106, 3) := by decide +kernel
theorem dX1_untie_43 : decode cX1_untie 43 = .ok (.aload_n 0, 1) := by decide +kernel
theorem dX1_untie_44 : decode cX1_untie 44 = .ok (.getfield 20, 3) := by decide +kernel
theorem dX1_untie_47 : decode cX1_untie 47 = .ok (.iload_n 1, 1) := by decide +kernel
theorem dX1_untie_48 : decode cX1_untie 48 = .ok (.aload_n 0, 1) := by decide +kernel
theorem dX1_untie_49 : decode cX1_untie 49 = .ok (.iload_n 1, 1) := by decide +kernel
theorem dX1_untie_50 : decode cX1_untie 50 = .ok (.invokevirtual 63, 3) := by decide +kernel
theorem dX1_untie_53 : decode cX1_untie 53 = .ok (.iload_n 2, 1) := by decide +kernel
theorem dX1_untie_54 : decode cX1_untie 54 = .ok (.invokestatic 56, 3) := by decide +kernel
theorem dX1_untie_57 : decode cX1_untie 57 = .ok (.iconst (-1), 1) := by decide +kernel
theorem dX1_untie_58 : decode cX1_untie 58 = .ok (.ixor, 1) := by decide +kernel
theorem dX1_untie_59 : decode cX1_untie 59 = .ok (.iand, 1) := by decide +kernel
theorem dX1_untie_60 : decode cX1_untie 60 = .ok (.invokevirtual 74, 3) := by decide +kernel
theorem dX1_untie_63 : decode cX1_untie 63 = .ok (.aload_n 0, 1) := by decide +kernel
theorem dX1_untie_64 : decode cX1_untie 64 = .ok (.getfield 20, 3) := by decide +kernel
theorem dX1_untie_67 : decode cX1_untie 67 = .ok (.iload_n 2, 1) := by decide +kernel
theorem dX1_untie_68 : decode cX1_untie 68 = .ok (.aload_n 0, 1) := by decide +kernel
theorem dX1_untie_69 : decode cX1_untie 69 = .ok (.iload_n 2, 1) := by decide +kernel
theorem dX1_untie_70 : decode cX1_untie 70 = .ok (.invokevirtual 63, 3) := by decide +kernel
theorem dX1_untie_73 : decode cX1_untie 73 = .ok (.iload_n 1, 1) := by decide +kernel
theorem dX1_untie_74 : decode cX1_untie 74 = .ok (.invokestatic 56, 3) := by decide +kernel
theorem dX1_untie_77 : decode cX1_untie 77 = .ok (.iconst (-1), 1) := by decide +kernel
theorem dX1_untie_78 : decode cX1_untie 78 = .ok (.ixor, 1) := by decide +kernel
theorem dX1_untie_79 : decode cX1_untie 79 = .ok (.iand, 1) := by decide +kernel
theorem dX1_untie_80 : decode cX1_untie 80 = .ok (.invokevirtual 74, 3) := by decide +kernel
theorem dX1_untie_83 : decode cX1_untie 83 = .ok (.aload_n 0, 1) := by decide +kernel
theorem dX1_untie_84 : decode cX1_untie 84 = .ok (.dup, 1) := by decide +kernel
theorem dX1_untie_85 : decode cX1_untie 85 = .ok (.getfield 42, 3) := by decide +kernel
theorem dX1_untie_88 : decode cX1_untie 88 = .ok (.iconst 1, 1) := by decide +kernel
theorem dX1_untie_89 : decode cX1_untie 89 = .ok (.iadd, 1) := by decide +kernel
theorem dX1_untie_90 : decode cX1_untie 90 = .ok (.putfield 42, 3) := by decide +kernel
theorem dX1_untie_93 : decode cX1_untie 93 = .ok (.return_, 1) := by decide +kernel
theorem dX1_roundAt_0 : decode cX1_roundAt 0 = .ok (.iload_n 1, 1) := by decide +kernel
theorem dX1_roundAt_1 : decode cX1_roundAt 1 = .ok (.ifCond .lt 12, 3) := by decide +kernel
theorem dX1_roundAt_4 : decode cX1_roundAt 4 = .ok (.iload_n 1, 1) := by decide +kernel
theorem dX1_roundAt_5 : decode cX1_roundAt 5 = .ok (.aload_n 0, 1) := by decide +kernel
theorem dX1_roundAt_6 : decode cX1_roundAt 6 = .ok (.getfield 23, 3) := by decide +kernel
theorem dX1_roundAt_9 : decode cX1_roundAt 9 = .ok (.arraylength, 1) := by decide +kernel
theorem dX1_roundAt_10 : decode cX1_roundAt 10 = .ok (.if_icmp .lt 8, 3) := by decide +kernel
theorem dX1_roundAt_13 : decode cX1_roundAt 13 = .ok (.aload_n 0, 1) := by decide +kernel
theorem dX1_roundAt_14 : decode cX1_roundAt 14 = .ok (.getfield 27, 3) := by decide +kernel
theorem dX1_roundAt_17 : decode cX1_roundAt 17 = .ok (.areturn, 1) := by decide +kernel
theorem dX1_roundAt_18 : decode cX1_roundAt 18 = .ok (.aload_n 0, 1) := by decide +kernel
theorem dX1_roundAt_19 : decode cX1_roundAt 19 = .ok (.getfield 23, 3) := by decide +kernel
theorem dX1_roundAt_22 : decode cX1_roundAt 22 = .ok (.iload_n 1, 1) := by decide +kernel
theorem dX1_roundAt_23 : decode cX1_roundAt 23 = .ok (.aaload, 1) := by decide +kernel
theorem dX1_roundAt_24 : decode cX1_roundAt 24 = .ok (.astore_n 2, 1) := by decide +kernel
theorem dX1_roundAt_25 : decode cX1_roundAt 25 = .ok (.aload_n 2, 1) := by decide +kernel
theorem dX1_roundAt_26 : decode cX1_roundAt 26 = .ok (.ifnonnull 10, 3) := by decide +kernel
theorem dX1_roundAt_29 : decode cX1_roundAt 29 = .ok (.aload_n 0, 1) := by decide +kernel
theorem dX1_roundAt_30 : decode cX1_roundAt 30 = .ok (.getfield 27, 3) := by decide +kernel
theorem dX1_roundAt_33 : decode cX1_roundAt 33 = .ok (.goto 4, 3) := by decide +kernel
theorem dX1_roundAt_36 : decode cX1_roundAt 36 = .ok (.aload_n 2, 1) := by decide +kernel
theorem dX1_roundAt_37 : decode cX1_roundAt 37 = .ok (.areturn, 1) := by decide +kernel
theorem dX1_rootOf_0 : decode cX1_rootOf 0 = .ok (.iconst 0, 1) := by decide +kernel
theorem dX1_rootOf_1 : decode cX1_rootOf 1 = .ok (.istore_n 2, 1) := by decide +kernel
theorem dX1_rootOf_2 : decode cX1_rootOf 2 = .ok (.iload_n 2, 1) := by decide +kernel
theorem dX1_rootOf_3 : decode cX1_rootOf 3 = .ok (.bipush 12, 2) := by decide +kernel
theorem dX1_rootOf_5 : decode cX1_rootOf 5 = .ok (.if_icmp .ge 23, 3) := by decide +kernel
theorem dX1_rootOf_8 : decode cX1_rootOf 8 = .ok (.aload_n 0, 1) := by decide +kernel
theorem dX1_rootOf_9 : decode cX1_rootOf 9 = .ok (.iload_n 2, 1) := by decide +kernel
theorem dX1_rootOf_10 : decode cX1_rootOf 10 = .ok (.invokevirtual 34, 3) := by decide +kernel
theorem dX1_rootOf_13 : decode cX1_rootOf 13 = .ok (.iload_n 1, 1) := by decide +kernel
theorem dX1_rootOf_14 : decode cX1_rootOf 14 = .ok (.invokevirtual 90, 3) := by decide +kernel
theorem dX1_rootOf_17 : decode cX1_rootOf 17 = .ok (.ifCond .lt 5, 3) := by decide +kernel
theorem dX1_rootOf_20 : decode cX1_rootOf 20 = .ok (.iload_n 2, 1) := by decide +kernel
theorem dX1_rootOf_21 : decode cX1_rootOf 21 = .ok (.ireturn, 1) := by decide +kernel
theorem dX1_rootOf_22 : decode cX1_rootOf 22 = .ok (.iinc 2 1, 3) := by decide +kernel
theorem dX1_rootOf_25 : decode cX1_rootOf 25 = .ok (.goto (-23), 3) := by decide +kernel
theorem dX1_rootOf_28 : decode cX1_rootOf 28 = .ok (.iconst (-1), 1) := by decide +kernel
theorem dX1_rootOf_29 : decode cX1_rootOf 29 = .ok (.ireturn, 1) := by decide +kernel
theorem dX1_roundOf_0 : decode cX1_roundOf 0 = .ok (.aload_n 0, 1) := by decide +kernel
theorem dX1_roundOf_1 : decode cX1_roundOf 1 = .ok (.aload_n 0, 1) := by decide +kernel
theorem dX1_roundOf_2 : decode cX1_roundOf 2 = .ok (.iload_n 1, 1) := by decide +kernel
theorem dX1_roundOf_3 : decode cX1_roundOf 3 = .ok (.invokevirtual 109, 3) := by decide +kernel
theorem dX1_roundOf_6 : decode cX1_roundOf 6 = .ok (.invokevirtual 34, 3) := by decide +kernel
theorem dX1_roundOf_9 : decode cX1_roundOf 9 = .ok (.areturn, 1) := by decide +kernel
theorem dX1_isRoot_0 : decode cX1_isRoot 0 = .ok (.aload_n 0, 1) := by decide +kernel
theorem dX1_isRoot_1 : decode cX1_isRoot 1 = .ok (.iload_n 1, 1) := by decide +kernel
theorem dX1_isRoot_2 : decode cX1_isRoot 2 = .ok (.invokevirtual 34, 3) := by decide +kernel
theorem dX1_isRoot_5 : decode cX1_isRoot 5 = .ok (.invokevirtual 48, 3) := by decide +kernel
theorem dX1_isRoot_8 : decode cX1_isRoot 8 = .ok (.ifCond .le 7, 3) := by decide +kernel
theorem dX1_isRoot_11 : decode cX1_isRoot 11 = .ok (.iconst 1, 1) := by decide +kernel
theorem dX1_isRoot_12 : decode cX1_isRoot 12 = .ok (.goto 4, 3) := by decide +kernel
theorem dX1_isRoot_15 : decode cX1_isRoot 15 = .ok (.iconst 0, 1) := by decide +kernel
theorem dX1_isRoot_16 : decode cX1_isRoot 16 = .ok (.ireturn, 1) := by decide +kernel
theorem dX1_parts_0 : decode cX1_parts 0 = .ok (.iconst 0, 1) := by decide +kernel
theorem dX1_parts_1 : decode cX1_parts 1 = .ok (.istore_n 1, 1) := by decide +kernel
theorem dX1_parts_2 : decode cX1_parts 2 = .ok (.iconst 0, 1) := by decide +kernel
theorem dX1_parts_3 : decode cX1_parts 3 = .ok (.istore_n 2, 1) := by decide +kernel
theorem dX1_parts_4 : decode cX1_parts 4 = .ok (.iload_n 2, 1) := by decide +kernel
theorem dX1_parts_5 : decode cX1_parts 5 = .ok (.bipush 12, 2) := by decide +kernel
theorem dX1_parts_7 : decode cX1_parts 7 = .ok (.if_icmp .ge 25, 3) := by decide +kernel
theorem dX1_parts_10 : decode cX1_parts 10 = .ok (.iload_n 1, 1) := by decide +kernel
theorem dX1_parts_11 : decode cX1_parts 11 = .ok (.aload_n 0, 1) := by decide +kernel
theorem dX1_parts_12 : decode cX1_parts 12 = .ok (.iload_n 2, 1) := by decide +kernel
theorem dX1_parts_13 : decode cX1_parts 13 = .ok (.invokevirtual 112, 3) := by decide +kernel
theorem dX1_parts_16 : decode cX1_parts 16 = .ok (.ifCond .eq 7, 3) := by decide +kernel
theorem dX1_parts_19 : decode cX1_parts 19 = .ok (.iconst 1, 1) := by decide +kernel
theorem dX1_parts_20 : decode cX1_parts 20 = .ok (.goto 4, 3) := by decide +kernel
theorem dX1_parts_23 : decode cX1_parts 23 = .ok (.iconst 0, 1) := by decide +kernel
theorem dX1_parts_24 : decode cX1_parts 24 = .ok (.iadd, 1) := by decide +kernel
theorem dX1_parts_25 : decode cX1_parts 25 = .ok (.istore_n 1, 1) := by decide +kernel
theorem dX1_parts_26 : decode cX1_parts 26 = .ok (.iinc 2 1, 3) := by decide +kernel
theorem dX1_parts_29 : decode cX1_parts 29 = .ok (.goto (-25), 3) := by decide +kernel
theorem dX1_parts_32 : decode cX1_parts 32 = .ok (.iload_n 1, 1) := by decide +kernel
theorem dX1_parts_33 : decode cX1_parts 33 = .ok (.ireturn, 1) := by decide +kernel
theorem dX1_places_0 : decode cX1_places 0 = .ok (.iconst 0, 1) := by decide +kernel
theorem dX1_places_1 : decode cX1_places 1 = .ok (.istore_n 1, 1) := by decide +kernel
theorem dX1_places_2 : decode cX1_places 2 = .ok (.iconst 0, 1) := by decide +kernel
theorem dX1_places_3 : decode cX1_places 3 = .ok (.istore_n 2, 1) := by decide +kernel
theorem dX1_places_4 : decode cX1_places 4 = .ok (.iload_n 2, 1) := by decide +kernel
theorem dX1_places_5 : decode cX1_places 5 = .ok (.bipush 12, 2) := by decide +kernel
theorem dX1_places_7 : decode cX1_places 7 = .ok (.if_icmp .ge 20, 3) := by decide +kernel
theorem dX1_places_10 : decode cX1_places 10 = .ok (.iload_n 1, 1) := by decide +kernel
theorem dX1_places_11 : decode cX1_places 11 = .ok (.aload_n 0, 1) := by decide +kernel
theorem dX1_places_12 : decode cX1_places 12 = .ok (.iload_n 2, 1) := by decide +kernel
theorem dX1_places_13 : decode cX1_places 13 = .ok (.invokevirtual 34, 3) := by decide +kernel
theorem dX1_places_16 : decode cX1_places 16 = .ok (.invokevirtual 48, 3) := by decide +kernel
theorem dX1_places_19 : decode cX1_places 19 = .ok (.iadd, 1) := by decide +kernel
theorem dX1_places_20 : decode cX1_places 20 = .ok (.istore_n 1, 1) := by decide +kernel
theorem dX1_places_21 : decode cX1_places 21 = .ok (.iinc 2 1, 3) := by decide +kernel
theorem dX1_places_24 : decode cX1_places 24 = .ok (.goto (-20), 3) := by decide +kernel
theorem dX1_places_27 : decode cX1_places 27 = .ok (.iload_n 1, 1) := by decide +kernel
theorem dX1_places_28 : decode cX1_places 28 = .ok (.ireturn, 1) := by decide +kernel
theorem dX1_banksWith_0 : decode cX1_banksWith 0 = .ok (.aload_n 0, 1) := by decide +kernel
theorem dX1_banksWith_1 : decode cX1_banksWith 1 = .ok (.iload_n 1, 1) := by decide +kernel
theorem dX1_banksWith_2 : decode cX1_banksWith 2 = .ok (.invokevirtual 87, 3) := by decide +kernel
theorem dX1_banksWith_5 : decode cX1_banksWith 5 = .ok (.invokevirtual 115, 3) := by decide +kernel
theorem dX1_banksWith_8 : decode cX1_banksWith 8 = .ok (.ireturn, 1) := by decide +kernel
theorem dX1_isOnePart_0 : decode cX1_isOnePart 0 = .ok (.aload_n 0, 1) := by decide +kernel
theorem dX1_isOnePart_1 : decode cX1_isOnePart 1 = .ok (.iload_n 1, 1) := by decide +kernel
theorem dX1_isOnePart_2 : decode cX1_isOnePart 2 = .ok (.invokevirtual 87, 3) := by decide +kernel
theorem dX1_isOnePart_5 : decode cX1_isOnePart 5 = .ok (.iload_n 2, 1) := by decide +kernel
theorem dX1_isOnePart_6 : decode cX1_isOnePart 6 = .ok (.invokevirtual 90, 3) := by decide +kernel
theorem dX1_isOnePart_9 : decode cX1_isOnePart 9 = .ok (.ifCond .lt 7, 3) := by decide +kernel
theorem dX1_isOnePart_12 : decode cX1_isOnePart 12 = .ok (.iconst 1, 1) := by decide +kernel
theorem dX1_isOnePart_13 : decode cX1_isOnePart 13 = .ok (.goto 4, 3) := by decide +kernel
theorem dX1_isOnePart_16 : decode cX1_isOnePart 16 = .ok (.iconst 0, 1) := by decide +kernel
theorem dX1_isOnePart_17 : decode cX1_isOnePart 17 = .ok (.ireturn, 1) := by decide +kernel
theorem dX1_aboveOf_0 : decode cX1_aboveOf 0 = .ok (.aload_n 0, 1) := by decide +kernel
theorem dX1_aboveOf_1 : decode cX1_aboveOf 1 = .ok (.iload_n 1, 1) := by decide +kernel
theorem dX1_aboveOf_2 : decode cX1_aboveOf 2 = .ok (.invokevirtual 87, 3) := by decide +kernel
theorem dX1_aboveOf_5 : decode cX1_aboveOf 5 = .ok (.astore_n 2, 1) := by decide +kernel
theorem dX1_aboveOf_6 : decode cX1_aboveOf 6 = .ok (.aload_n 2, 1) := by decide +kernel
theorem dX1_aboveOf_7 : decode cX1_aboveOf 7 = .ok (.iconst 0, 1) := by decide +kernel
theorem dX1_aboveOf_8 : decode cX1_aboveOf 8 = .ok (.aload_n 2, 1) := by decide +kernel
theorem dX1_aboveOf_9 : decode cX1_aboveOf 9 = .ok (.iload_n 1, 1) := by decide +kernel
theorem dX1_aboveOf_10 : decode cX1_aboveOf 10 = .ok (.invokevirtual 90, 3) := by decide +kernel
theorem dX1_aboveOf_13 : decode cX1_aboveOf 13 = .ok (.invokevirtual 118, 3) := by decide +kernel
theorem dX1_aboveOf_16 : decode cX1_aboveOf 16 = .ok (.istore_n 3, 1) := by decide +kernel
theorem dX1_aboveOf_17 : decode cX1_aboveOf 17 = .ok (.aload_n 2, 1) := by decide +kernel
theorem dX1_aboveOf_18 : decode cX1_aboveOf 18 = .ok (.aload_n 2, 1) := by decide +kernel
theorem dX1_aboveOf_19 : decode cX1_aboveOf 19 = .ok (.iload_n 1, 1) := by decide +kernel
theorem dX1_aboveOf_20 : decode cX1_aboveOf 20 = .ok (.invokevirtual 103, 3) := by decide +kernel
theorem dX1_aboveOf_23 : decode cX1_aboveOf 23 = .ok (.aload_n 2, 1) := by decide +kernel
theorem dX1_aboveOf_24 : decode cX1_aboveOf 24 = .ok (.invokevirtual 48, 3) := by decide +kernel
theorem dX1_aboveOf_27 : decode cX1_aboveOf 27 = .ok (.iconst 1, 1) := by decide +kernel
theorem dX1_aboveOf_28 : decode cX1_aboveOf 28 = .ok (.isub, 1) := by decide +kernel
theorem dX1_aboveOf_29 : decode cX1_aboveOf 29 = .ok (.invokevirtual 118, 3) := by decide +kernel
theorem dX1_aboveOf_32 : decode cX1_aboveOf 32 = .ok (.istore 4, 2) := by decide +kernel
theorem dX1_aboveOf_34 : decode cX1_aboveOf 34 = .ok (.iload_n 3, 1) := by decide +kernel
theorem dX1_aboveOf_35 : decode cX1_aboveOf 35 = .ok (.iload 4, 2) := by decide +kernel
theorem dX1_aboveOf_37 : decode cX1_aboveOf 37 = .ok (.iand, 1) := by decide +kernel
theorem dX1_aboveOf_38 : decode cX1_aboveOf 38 = .ok (.ireturn, 1) := by decide +kernel
theorem dX1_belowOf_0 : decode cX1_belowOf 0 = .ok (.aload_n 0, 1) := by decide +kernel
theorem dX1_belowOf_1 : decode cX1_belowOf 1 = .ok (.iload_n 1, 1) := by decide +kernel
theorem dX1_belowOf_2 : decode cX1_belowOf 2 = .ok (.invokevirtual 87, 3) := by decide +kernel
theorem dX1_belowOf_5 : decode cX1_belowOf 5 = .ok (.astore_n 2, 1) := by decide +kernel
theorem dX1_belowOf_6 : decode cX1_belowOf 6 = .ok (.aload_n 2, 1) := by decide +kernel
theorem dX1_belowOf_7 : decode cX1_belowOf 7 = .ok (.aload_n 2, 1) := by decide +kernel
theorem dX1_belowOf_8 : decode cX1_belowOf 8 = .ok (.iload_n 1, 1) := by decide +kernel
theorem dX1_belowOf_9 : decode cX1_belowOf 9 = .ok (.invokevirtual 90, 3) := by decide +kernel
theorem dX1_belowOf_12 : decode cX1_belowOf 12 = .ok (.aload_n 2, 1) := by decide +kernel
theorem dX1_belowOf_13 : decode cX1_belowOf 13 = .ok (.iload_n 1, 1) := by decide +kernel
theorem dX1_belowOf_14 : decode cX1_belowOf 14 = .ok (.invokevirtual 103, 3) := by decide +kernel
theorem dX1_belowOf_17 : decode cX1_belowOf 17 = .ok (.invokevirtual 118, 3) := by decide +kernel
theorem dX1_belowOf_20 : decode cX1_belowOf 20 = .ok (.ireturn, 1) := by decide +kernel
theorem dX1_depthOf_0 : decode cX1_depthOf 0 = .ok (.aload_n 0, 1) := by decide +kernel
theorem dX1_depthOf_1 : decode cX1_depthOf 1 = .ok (.iload_n 1, 1) := by decide +kernel
theorem dX1_depthOf_2 : decode cX1_depthOf 2 = .ok (.invokevirtual 121, 3) := by decide +kernel
theorem dX1_depthOf_5 : decode cX1_depthOf 5 = .ok (.invokestatic 66, 3) := by decide +kernel
theorem dX1_depthOf_8 : decode cX1_depthOf 8 = .ok (.iconst 1, 1) := by decide +kernel
theorem dX1_depthOf_9 : decode cX1_depthOf 9 = .ok (.isub, 1) := by decide +kernel
theorem dX1_depthOf_10 : decode cX1_depthOf 10 = .ok (.ireturn, 1) := by decide +kernel
theorem dX1_justAbove_0 : decode cX1_justAbove 0 = .ok (.aload_n 0, 1) := by decide +kernel
theorem dX1_justAbove_1 : decode cX1_justAbove 1 = .ok (.iload_n 1, 1) := by decide +kernel
theorem dX1_justAbove_2 : decode cX1_justAbove 2 = .ok (.invokevirtual 87, 3) := by decide +kernel
theorem dX1_justAbove_5 : decode cX1_justAbove 5 = .ok (.astore_n 2, 1) := by decide +kernel
theorem dX1_justAbove_6 : decode cX1_justAbove 6 = .ok (.aload_n 2, 1) := by decide +kernel
theorem dX1_justAbove_7 : decode cX1_justAbove 7 = .ok (.iload_n 1, 1) := by decide +kernel
theorem dX1_justAbove_8 : decode cX1_justAbove 8 = .ok (.invokevirtual 90, 3) := by decide +kernel
theorem dX1_justAbove_11 : decode cX1_justAbove 11 = .ok (.istore_n 3, 1) := by decide +kernel
theorem dX1_justAbove_12 : decode cX1_justAbove 12 = .ok (.iload_n 3, 1) := by decide +kernel
theorem dX1_justAbove_13 : decode cX1_justAbove 13 = .ok (.ifCond .gt 8, 3) := by decide +kernel
theorem dX1_justAbove_16 : decode cX1_justAbove 16 = .ok (.bipush (-4), 2) := by decide +kernel
theorem dX1_justAbove_18 : decode cX1_justAbove 18 = .ok (.goto 10, 3) := by decide +kernel
theorem dX1_justAbove_21 : decode cX1_justAbove 21 = .ok (.aload_n 2, 1) := by decide +kernel
theorem dX1_justAbove_22 : decode cX1_justAbove 22 = .ok (.iload_n 3, 1) := by decide +kernel
theorem dX1_justAbove_23 : decode cX1_justAbove 23 = .ok (.iconst 1, 1) := by decide +kernel
theorem dX1_justAbove_24 : decode cX1_justAbove 24 = .ok (.isub, 1) := by decide +kernel
theorem dX1_justAbove_25 : decode cX1_justAbove 25 = .ok (.invokevirtual 52, 3) := by decide +kernel
theorem dX1_justAbove_28 : decode cX1_justAbove 28 = .ok (.ireturn, 1) := by decide +kernel
theorem dX1_stepsAbove_0 : decode cX1_stepsAbove 0 = .ok (.iload_n 1, 1) := by decide +kernel
theorem dX1_stepsAbove_1 : decode cX1_stepsAbove 1 = .ok (.istore_n 3, 1) := by decide +kernel
theorem dX1_stepsAbove_2 : decode cX1_stepsAbove 2 = .ok (.iconst 0, 1) := by decide +kernel
theorem dX1_stepsAbove_3 : decode cX1_stepsAbove 3 = .ok (.istore 4, 2) := by decide +kernel
theorem dX1_stepsAbove_5 : decode cX1_stepsAbove 5 = .ok (.iload 4, 2) := by decide +kernel
theorem dX1_stepsAbove_7 : decode cX1_stepsAbove 7 = .ok (.iload_n 2, 1) := by decide +kernel
theorem dX1_stepsAbove_8 : decode cX1_stepsAbove 8 = .ok (.if_icmp .ge 15, 3) := by decide +kernel
theorem dX1_stepsAbove_11 : decode cX1_stepsAbove 11 = .ok (.aload_n 0, 1) := by decide +kernel
theorem dX1_stepsAbove_12 : decode cX1_stepsAbove 12 = .ok (.iload_n 3, 1) := by decide +kernel
theorem dX1_stepsAbove_13 : decode cX1_stepsAbove 13 = .ok (.invokevirtual 124, 3) := by decide +kernel
theorem dX1_stepsAbove_16 : decode cX1_stepsAbove 16 = .ok (.istore_n 3, 1) := by decide +kernel
theorem dX1_stepsAbove_17 : decode cX1_stepsAbove 17 = .ok (.iinc 4 1, 3) := by decide +kernel
theorem dX1_stepsAbove_20 : decode cX1_stepsAbove 20 = .ok (.goto (-15), 3) := by decide +kernel
theorem dX1_stepsAbove_23 : decode cX1_stepsAbove 23 = .ok (.iload_n 3, 1) := by decide +kernel
theorem dX1_stepsAbove_24 : decode cX1_stepsAbove 24 = .ok (.ireturn, 1) := by decide +kernel
theorem dX1_greatestDepth_0 : decode cX1_greatestDepth 0 = .ok (.iconst 0, 1) := by decide +kernel
theorem dX1_greatestDepth_1 : decode cX1_greatestDepth 1 = .ok (.istore_n 2, 1) := by decide +kernel
theorem dX1_greatestDepth_2 : decode cX1_greatestDepth 2 = .ok (.iconst 0, 1) := by decide +kernel
theorem dX1_greatestDepth_3 : decode cX1_greatestDepth 3 = .ok (.istore_n 3, 1) := by decide +kernel
theorem dX1_greatestDepth_4 : decode cX1_greatestDepth 4 = .ok (.iload_n 3, 1) := by decide +kernel
theorem dX1_greatestDepth_5 : decode cX1_greatestDepth 5 = .ok (.aload_n 0, 1) := by decide +kernel
theorem dX1_greatestDepth_6 : decode cX1_greatestDepth 6 = .ok (.getfield 14, 3) := by decide +kernel
theorem dX1_greatestDepth_9 : decode cX1_greatestDepth 9 = .ok (.invokevirtual 48, 3) := by decide +kernel
theorem dX1_greatestDepth_12 : decode cX1_greatestDepth 12 = .ok (.if_icmp .ge 28, 3) := by decide +kernel
theorem dX1_greatestDepth_15 : decode cX1_greatestDepth 15 = .ok (.iload_n 1, 1) := by decide +kernel
theorem dX1_greatestDepth_16 : decode cX1_greatestDepth 16 = .ok (.iload_n 3, 1) := by decide +kernel
theorem dX1_greatestDepth_17 : decode cX1_greatestDepth 17 = .ok (.invokestatic 56, 3) := by decide +kernel
theorem dX1_greatestDepth_20 : decode cX1_greatestDepth 20 = .ok (.iand, 1) := by decide +kernel
theorem dX1_greatestDepth_21 : decode cX1_greatestDepth 21 = .ok (.ifCond .eq 13, 3) := by decide +kernel
theorem dX1_greatestDepth_24 : decode cX1_greatestDepth 24 = .ok (.iload_n 2, 1) := by decide +kernel
theorem dX1_greatestDepth_25 : decode cX1_greatestDepth 25 = .ok (.aload_n 0, 1) := by decide +kernel
theorem dX1_greatestDepth_26 : decode cX1_greatestDepth 26 = .ok (.iload_n 3, 1) := by decide +kernel
theorem dX1_greatestDepth_27 : decode cX1_greatestDepth 27 = .ok (.invokevirtual 127, 3) := by decide +kernel
theorem dX1_greatestDepth_30 : decode cX1_greatestDepth 30 = .ok (.invokestatic 84, 3) := by decide +kernel
theorem dX1_greatestDepth_33 : decode cX1_greatestDepth 33 = .ok (.istore_n 2, 1) := by decide +kernel
theorem dX1_greatestDepth_34 : decode cX1_greatestDepth 34 = .ok (.iinc 3 1, 3) := by decide +kernel
theorem dX1_greatestDepth_37 : decode cX1_greatestDepth 37 = .ok (.goto (-33), 3) := by decide +kernel
theorem dX1_greatestDepth_40 : decode cX1_greatestDepth 40 = .ok (.iload_n 2, 1) := by decide +kernel
theorem dX1_greatestDepth_41 : decode cX1_greatestDepth 41 = .ok (.ireturn, 1) := by decide +kernel
theorem dX1_sumOfDepths_0 : decode cX1_sumOfDepths 0 = .ok (.iconst 0, 1) := by decide +kernel
theorem dX1_sumOfDepths_1 : decode cX1_sumOfDepths 1 = .ok (.istore_n 1, 1) := by decide +kernel
theorem dX1_sumOfDepths_2 : decode cX1_sumOfDepths 2 = .ok (.iconst 0, 1) := by decide +kernel
theorem dX1_sumOfDepths_3 : decode cX1_sumOfDepths 3 = .ok (.istore_n 2, 1) := by decide +kernel
theorem dX1_sumOfDepths_4 : decode cX1_sumOfDepths 4 = .ok (.iload_n 2, 1) := by decide +kernel
theorem dX1_sumOfDepths_5 : decode cX1_sumOfDepths 5 = .ok (.aload_n 0, 1) := by decide +kernel
theorem dX1_sumOfDepths_6 : decode cX1_sumOfDepths 6 = .ok (.getfield 14, 3) := by decide +kernel
theorem dX1_sumOfDepths_9 : decode cX1_sumOfDepths 9 = .ok (.invokevirtual 48, 3) := by decide +kernel
theorem dX1_sumOfDepths_12 : decode cX1_sumOfDepths 12 = .ok (.if_icmp .ge 17, 3) := by decide +kernel
theorem dX1_sumOfDepths_15 : decode cX1_sumOfDepths 15 = .ok (.iload_n 1, 1) := by decide +kernel
theorem dX1_sumOfDepths_16 : decode cX1_sumOfDepths 16 = .ok (.aload_n 0, 1) := by decide +kernel
theorem dX1_sumOfDepths_17 : decode cX1_sumOfDepths 17 = .ok (.iload_n 2, 1) := by decide +kernel
theorem dX1_sumOfDepths_18 : decode cX1_sumOfDepths 18 = .ok (.invokevirtual 127, 3) := by decide +kernel
theorem dX1_sumOfDepths_21 : decode cX1_sumOfDepths 21 = .ok (.iadd, 1) := by decide +kernel
theorem dX1_sumOfDepths_22 : decode cX1_sumOfDepths 22 = .ok (.istore_n 1, 1) := by decide +kernel
theorem dX1_sumOfDepths_23 : decode cX1_sumOfDepths 23 = .ok (.iinc 2 1, 3) := by decide +kernel
theorem dX1_sumOfDepths_26 : decode cX1_sumOfDepths 26 = .ok (.goto (-22), 3) := by decide +kernel
theorem dX1_sumOfDepths_29 : decode cX1_sumOfDepths 29 = .ok (.iload_n 1, 1) := by decide +kernel
theorem dX1_sumOfDepths_30 : decode cX1_sumOfDepths 30 = .ok (.ireturn, 1) := by decide +kernel
theorem dX1_heaviestWith_0 : decode cX1_heaviestWith 0 = .ok (.aload_n 0, 1) := by decide +kernel
theorem dX1_heaviestWith_1 : decode cX1_heaviestWith 1 = .ok (.iload_n 1, 1) := by decide +kernel
theorem dX1_heaviestWith_2 : decode cX1_heaviestWith 2 = .ok (.invokevirtual 87, 3) := by decide +kernel
theorem dX1_heaviestWith_5 : decode cX1_heaviestWith 5 = .ok (.astore_n 2, 1) := by decide +kernel
theorem dX1_heaviestWith_6 : decode cX1_heaviestWith 6 = .ok (.aload_n 2, 1) := by decide +kernel
theorem dX1_heaviestWith_7 : decode cX1_heaviestWith 7 = .ok (.iconst 0, 1) := by decide +kernel
theorem dX1_heaviestWith_8 : decode cX1_heaviestWith 8 = .ok (.invokevirtual 52, 3) := by decide +kernel
theorem dX1_heaviestWith_11 : decode cX1_heaviestWith 11 = .ok (.istore_n 3, 1) := by decide +kernel
theorem dX1_heaviestWith_12 : decode cX1_heaviestWith 12 = .ok (.iconst 1, 1) := by decide +kernel
theorem dX1_heaviestWith_13 : decode cX1_heaviestWith 13 = .ok (.istore 4, 2) := by decide +kernel
theorem dX1_heaviestWith_15 : decode cX1_heaviestWith 15 = .ok (.iload 4, 2) := by decide +kernel
theorem dX1_heaviestWith_17 : decode cX1_heaviestWith 17 = .ok (.aload_n 2, 1) := by decide +kernel
theorem dX1_heaviestWith_18 : decode cX1_heaviestWith 18 = .ok (.invokevirtual 48, 3) := by decide +kernel
theorem dX1_heaviestWith_21 : decode cX1_heaviestWith 21 = .ok (.if_icmp .ge 34, 3) := by decide +kernel
theorem dX1_heaviestWith_24 : decode cX1_heaviestWith 24 = .ok (.aload_n 0, 1) := by decide +kernel
theorem dX1_heaviestWith_25 : decode cX1_heaviestWith 25 = .ok (.aload_n 2, 1) := by decide +kernel
theorem dX1_heaviestWith_26 : decode cX1_heaviestWith 26 = .ok (.iload 4, 2) := by decide +kernel
theorem dX1_heaviestWith_28 : decode cX1_heaviestWith 28 = .ok (.invokevirtual 52, 3) := by decide +kernel
theorem dX1_heaviestWith_31 : decode cX1_heaviestWith 31 = .ok (.invokevirtual 130, 3) := by decide +kernel
theorem dX1_heaviestWith_34 : decode cX1_heaviestWith 34 = .ok (.aload_n 0, 1) := by decide +kernel
theorem dX1_heaviestWith_35 : decode cX1_heaviestWith 35 = .ok (.iload_n 3, 1) := by decide +kernel
theorem dX1_heaviestWith_36 : decode cX1_heaviestWith 36 = .ok (.invokevirtual 130, 3) := by decide +kernel
theorem dX1_heaviestWith_39 : decode cX1_heaviestWith 39 = .ok (.if_icmp .le 10, 3) := by decide +kernel
theorem dX1_heaviestWith_42 : decode cX1_heaviestWith 42 = .ok (.aload_n 2, 1) := by decide +kernel
theorem dX1_heaviestWith_43 : decode cX1_heaviestWith 43 = .ok (.iload 4, 2) := by decide +kernel
theorem dX1_heaviestWith_45 : decode cX1_heaviestWith 45 = .ok (.invokevirtual 52, 3) := by decide +kernel
theorem dX1_heaviestWith_48 : decode cX1_heaviestWith 48 = .ok (.istore_n 3, 1) := by decide +kernel
theorem dX1_heaviestWith_49 : decode cX1_heaviestWith 49 = .ok (.iinc 4 1, 3) := by decide +kernel
theorem dX1_heaviestWith_52 : decode cX1_heaviestWith 52 = .ok (.goto (-37), 3) := by decide +kernel
theorem dX1_heaviestWith_55 : decode cX1_heaviestWith 55 = .ok (.iload_n 3, 1) := by decide +kernel
theorem dX1_heaviestWith_56 : decode cX1_heaviestWith 56 = .ok (.ireturn, 1) := by decide +kernel
theorem dX1_meetingOf_0 : decode cX1_meetingOf 0 = .ok (.aload_n 0, 1) := by decide +kernel
theorem dX1_meetingOf_1 : decode cX1_meetingOf 1 = .ok (.iload_n 1, 1) := by decide +kernel
theorem dX1_meetingOf_2 : decode cX1_meetingOf 2 = .ok (.invokevirtual 121, 3) := by decide +kernel
theorem dX1_meetingOf_5 : decode cX1_meetingOf 5 = .ok (.aload_n 0, 1) := by decide +kernel
theorem dX1_meetingOf_6 : decode cX1_meetingOf 6 = .ok (.iload_n 2, 1) := by decide +kernel
theorem dX1_meetingOf_7 : decode cX1_meetingOf 7 = .ok (.invokevirtual 121, 3) := by decide +kernel
theorem dX1_meetingOf_10 : decode cX1_meetingOf 10 = .ok (.iand, 1) := by decide +kernel
theorem dX1_meetingOf_11 : decode cX1_meetingOf 11 = .ok (.istore_n 3, 1) := by decide +kernel
theorem dX1_meetingOf_12 : decode cX1_meetingOf 12 = .ok (.iconst (-1), 1) := by decide +kernel
theorem dX1_meetingOf_13 : decode cX1_meetingOf 13 = .ok (.istore 4, 2) := by decide +kernel
theorem dX1_meetingOf_15 : decode cX1_meetingOf 15 = .ok (.iconst 0, 1) := by decide +kernel
theorem dX1_meetingOf_16 : decode cX1_meetingOf 16 = .ok (.istore 5, 2) := by decide +kernel
theorem dX1_meetingOf_18 : decode cX1_meetingOf 18 = .ok (.iload 5, 2) := by decide +kernel
theorem dX1_meetingOf_20 : decode cX1_meetingOf 20 = .ok (.aload_n 0, 1) := by decide +kernel
theorem dX1_meetingOf_21 : decode cX1_meetingOf 21 = .ok (.getfield 14, 3) := by decide +kernel
theorem dX1_meetingOf_24 : decode cX1_meetingOf 24 = .ok (.invokevirtual 48, 3) := by decide +kernel
theorem dX1_meetingOf_27 : decode cX1_meetingOf 27 = .ok (.if_icmp .ge 43, 3) := by decide +kernel
theorem dX1_meetingOf_30 : decode cX1_meetingOf 30 = .ok (.iload_n 3, 1) := by decide +kernel
theorem dX1_meetingOf_31 : decode cX1_meetingOf 31 = .ok (.iload 5, 2) := by decide +kernel
theorem dX1_meetingOf_33 : decode cX1_meetingOf 33 = .ok (.invokestatic 56, 3) := by decide +kernel
theorem dX1_meetingOf_36 : decode cX1_meetingOf 36 = .ok (.iand, 1) := by decide +kernel
theorem dX1_meetingOf_37 : decode cX1_meetingOf 37 = .ok (.ifCond .eq 27, 3) := by decide +kernel
theorem dX1_meetingOf_40 : decode cX1_meetingOf 40 = .ok (.iload 4, 2) := by decide +kernel
theorem dX1_meetingOf_42 : decode cX1_meetingOf 42 = .ok (.ifCond .lt 18, 3) := by decide +kernel
theorem dX1_meetingOf_45 : decode cX1_meetingOf 45 = .ok (.aload_n 0, 1) := by decide +kernel
theorem dX1_meetingOf_46 : decode cX1_meetingOf 46 = .ok (.iload 5, 2) := by decide +kernel
theorem dX1_meetingOf_48 : decode cX1_meetingOf 48 = .ok (.invokevirtual 127, 3) := by decide +kernel
theorem dX1_meetingOf_51 : decode cX1_meetingOf 51 = .ok (.aload_n 0, 1) := by decide +kernel
theorem dX1_meetingOf_52 : decode cX1_meetingOf 52 = .ok (.iload 4, 2) := by decide +kernel
theorem dX1_meetingOf_54 : decode cX1_meetingOf 54 = .ok (.invokevirtual 127, 3) := by decide +kernel
theorem dX1_meetingOf_57 : decode cX1_meetingOf 57 = .ok (.if_icmp .le 7, 3) := by decide +kernel
theorem dX1_meetingOf_60 : decode cX1_meetingOf 60 = .ok (.iload 5, 2) := by decide +kernel
theorem dX1_meetingOf_62 : decode cX1_meetingOf 62 = .ok (.istore 4, 2) := by decide +kernel
theorem dX1_meetingOf_64 : decode cX1_meetingOf 64 = .ok (.iinc 5 1, 3) := by decide +kernel
theorem dX1_meetingOf_67 : decode cX1_meetingOf 67 = .ok (.goto (-49), 3) := by decide +kernel
theorem dX1_meetingOf_70 : decode cX1_meetingOf 70 = .ok (.iload 4, 2) := by decide +kernel
theorem dX1_meetingOf_72 : decode cX1_meetingOf 72 = .ok (.ireturn, 1) := by decide +kernel
theorem dX1_lowerOf_0 : decode cX1_lowerOf 0 = .ok (.aload_n 0, 1) := by decide +kernel
theorem dX1_lowerOf_1 : decode cX1_lowerOf 1 = .ok (.iload_n 1, 1) := by decide +kernel
theorem dX1_lowerOf_2 : decode cX1_lowerOf 2 = .ok (.invokevirtual 87, 3) := by decide +kernel
theorem dX1_lowerOf_5 : decode cX1_lowerOf 5 = .ok (.astore_n 3, 1) := by decide +kernel
theorem dX1_lowerOf_6 : decode cX1_lowerOf 6 = .ok (.aload_n 3, 1) := by decide +kernel
theorem dX1_lowerOf_7 : decode cX1_lowerOf 7 = .ok (.iload_n 1, 1) := by decide +kernel
theorem dX1_lowerOf_8 : decode cX1_lowerOf 8 = .ok (.invokevirtual 90, 3) := by decide +kernel
theorem dX1_lowerOf_11 : decode cX1_lowerOf 11 = .ok (.aload_n 3, 1) := by decide +kernel
theorem dX1_lowerOf_12 : decode cX1_lowerOf 12 = .ok (.iload_n 2, 1) := by decide +kernel
theorem dX1_lowerOf_13 : decode cX1_lowerOf 13 = .ok (.invokevirtual 90, 3) := by decide +kernel
theorem dX1_lowerOf_16 : decode cX1_lowerOf 16 = .ok (.if_icmp .le 7, 3) := by decide +kernel
theorem dX1_lowerOf_19 : decode cX1_lowerOf 19 = .ok (.iload_n 1, 1) := by decide +kernel
theorem dX1_lowerOf_20 : decode cX1_lowerOf 20 = .ok (.goto 4, 3) := by decide +kernel
theorem dX1_lowerOf_23 : decode cX1_lowerOf 23 = .ok (.iload_n 2, 1) := by decide +kernel
theorem dX1_lowerOf_24 : decode cX1_lowerOf 24 = .ok (.ireturn, 1) := by decide +kernel
theorem dX1_reached_0 : decode cX1_reached 0 = .ok (.iload_n 1, 1) := by decide +kernel
theorem dX1_reached_1 : decode cX1_reached 1 = .ok (.invokestatic 56, 3) := by decide +kernel
theorem dX1_reached_4 : decode cX1_reached 4 = .ok (.istore_n 3, 1) := by decide +kernel
theorem dX1_reached_5 : decode cX1_reached 5 = .ok (.iload_n 3, 1) := by decide +kernel
theorem dX1_reached_6 : decode cX1_reached 6 = .ok (.istore 4, 2) := by decide +kernel
theorem dX1_reached_8 : decode cX1_reached 8 = .ok (.iconst 0, 1) := by decide +kernel
theorem dX1_reached_9 : decode cX1_reached 9 = .ok (.istore 5, 2) := by decide +kernel
theorem dX1_reached_11 : decode cX1_reached 11 = .ok (.iload 5, 2) := by decide +kernel
theorem dX1_reached_13 : decode cX1_reached 13 = .ok (.bipush 12, 2) := by decide +kernel
theorem dX1_reached_15 : decode cX1_reached 15 = .ok (.if_icmp .ge 57, 3) := by decide +kernel
theorem dX1_reached_18 : decode cX1_reached 18 = .ok (.iload 4, 2) := by decide +kernel
theorem dX1_reached_20 : decode cX1_reached 20 = .ok (.ifCond .eq 52, 3) := by decide +kernel
theorem dX1_reached_23 : decode cX1_reached 23 = .ok (.iload 4, 2) := by decide +kernel
theorem dX1_reached_25 : decode cX1_reached 25 = .ok (.invokestatic 133, 3) := by decide +kernel
theorem dX1_reached_28 : decode cX1_reached 28 = .ok (.istore 6, 2) := by decide +kernel
theorem dX1_reached_30 : decode cX1_reached 30 = .ok (.aload_n 0, 1) := by decide +kernel
theorem dX1_reached_31 : decode cX1_reached 31 = .ok (.iload 6, 2) := by decide +kernel
theorem dX1_reached_33 : decode cX1_reached 33 = .ok (.invokevirtual 63, 3) := by decide +kernel
theorem dX1_reached_36 : decode cX1_reached 36 = .ok (.iload_n 3, 1) := by decide +kernel
theorem dX1_reached_37 : decode cX1_reached 37 = .ok (.iconst (-1), 1) := by decide +kernel
theorem dX1_reached_38 : decode cX1_reached 38 = .ok (.ixor, 1) := by decide +kernel
theorem dX1_reached_39 : decode cX1_reached 39 = .ok (.iand, 1) := by decide +kernel
theorem dX1_reached_40 : decode cX1_reached 40 = .ok (.iload_n 2, 1) := by decide +kernel
theorem dX1_reached_41 : decode cX1_reached 41 = .ok (.iconst (-1), 1) := by decide +kernel
theorem dX1_reached_42 : decode cX1_reached 42 = .ok (.ixor, 1) := by decide +kernel
theorem dX1_reached_43 : decode cX1_reached 43 = .ok (.iand, 1) := by decide +kernel
theorem dX1_reached_44 : decode cX1_reached 44 = .ok (.istore 7, 2) := by decide +kernel
theorem dX1_reached_46 : decode cX1_reached 46 = .ok (.iload_n 3, 1) := by decide +kernel
theorem dX1_reached_47 : decode cX1_reached 47 = .ok (.iload 7, 2) := by decide +kernel
theorem dX1_reached_49 : decode cX1_reached 49 = .ok (.ior, 1) := by decide +kernel
theorem dX1_reached_50 : decode cX1_reached 50 = .ok (.istore_n 3, 1) := by decide +kernel
theorem dX1_reached_51 : decode cX1_reached 51 = .ok (.iload 4, 2) := by decide +kernel
theorem dX1_reached_53 : decode cX1_reached 53 = .ok (.iload 7, 2) := by decide +kernel
theorem dX1_reached_55 : decode cX1_reached 55 = .ok (.ior, 1) := by decide +kernel
theorem dX1_reached_56 : decode cX1_reached 56 = .ok (.iload 6, 2) := by decide +kernel
theorem dX1_reached_58 : decode cX1_reached 58 = .ok (.invokestatic 56, 3) := by decide +kernel
theorem dX1_reached_61 : decode cX1_reached 61 = .ok (.iconst (-1), 1) := by decide +kernel
theorem dX1_reached_62 : decode cX1_reached 62 = .ok (.ixor, 1) := by decide +kernel
theorem dX1_reached_63 : decode cX1_reached 63 = .ok (.iand, 1) := by decide +kernel
theorem dX1_reached_64 : decode cX1_reached 64 = .ok (.istore 4, 2) := by decide +kernel
theorem dX1_reached_66 : decode cX1_reached 66 = .ok (.iinc 5 1, 3) := by decide +kernel
theorem dX1_reached_69 : decode cX1_reached 69 = .ok (.goto (-58), 3) := by decide +kernel
theorem dX1_reached_72 : decode cX1_reached 72 = .ok (.iload_n 3, 1) := by decide +kernel
theorem dX1_reached_73 : decode cX1_reached 73 = .ok (.ireturn, 1) := by decide +kernel
theorem dX1_reachedBelow_0 : decode cX1_reachedBelow 0 = .ok (.aload_n 0, 1) := by decide +kernel
theorem dX1_reachedBelow_1 : decode cX1_reachedBelow 1 = .ok (.iload_n 1, 1) := by decide +kernel
theorem dX1_reachedBelow_2 : decode cX1_reachedBelow 2 = .ok (.invokevirtual 109, 3) := by decide +kernel
theorem dX1_reachedBelow_5 : decode cX1_reachedBelow 5 = .ok (.istore_n 2, 1) := by decide +kernel
theorem dX1_reachedBelow_6 : decode cX1_reachedBelow 6 = .ok (.aload_n 0, 1) := by decide +kernel
theorem dX1_reachedBelow_7 : decode cX1_reachedBelow 7 = .ok (.iload_n 1, 1) := by decide +kernel
theorem dX1_reachedBelow_8 : decode cX1_reachedBelow 8 = .ok (.iload_n 2, 1) := by decide +kernel
theorem dX1_reachedBelow_9 : decode cX1_reachedBelow 9 = .ok (.iload_n 1, 1) := by decide +kernel
theorem dX1_reachedBelow_10 : decode cX1_reachedBelow 10 = .ok (.if_icmp .ne 7, 3) := by decide +kernel
theorem dX1_reachedBelow_13 : decode cX1_reachedBelow 13 = .ok (.iconst 0, 1) := by decide +kernel
theorem dX1_reachedBelow_14 : decode cX1_reachedBelow 14 = .ok (.goto 12, 3) := by decide +kernel
theorem dX1_reachedBelow_17 : decode cX1_reachedBelow 17 = .ok (.aload_n 0, 1) := by decide +kernel
theorem dX1_reachedBelow_18 : decode cX1_reachedBelow 18 = .ok (.iload_n 2, 1) := by decide +kernel
theorem dX1_reachedBelow_19 : decode cX1_reachedBelow 19 = .ok (.iload_n 1, 1) := by decide +kernel
theorem dX1_reachedBelow_20 : decode cX1_reachedBelow 20 = .ok (.invokestatic 56, 3) := by decide +kernel
theorem dX1_reachedBelow_23 : decode cX1_reachedBelow 23 = .ok (.invokevirtual 136, 3) := by decide +kernel
theorem dX1_reachedBelow_26 : decode cX1_reachedBelow 26 = .ok (.invokevirtual 136, 3) := by decide +kernel
theorem dX1_reachedBelow_29 : decode cX1_reachedBelow 29 = .ok (.ireturn, 1) := by decide +kernel
theorem dX1_heaviestLeftWithout_0 : decode cX1_heaviestLeftWithout 0 = .ok (.iconst 0, 1) := by decide +kernel
theorem dX1_heaviestLeftWithout_1 : decode cX1_heaviestLeftWithout 1 = .ok (.istore_n 2, 1) := by decide +kernel
theorem dX1_heaviestLeftWithout_2 : decode cX1_heaviestLeftWithout 2 = .ok (.iconst 0, 1) := by decide +kernel
theorem dX1_heaviestLeftWithout_3 : decode cX1_heaviestLeftWithout 3 = .ok (.istore_n 3, 1) := by decide +kernel
theorem dX1_heaviestLeftWithout_4 : decode cX1_heaviestLeftWithout 4 = .ok (.iload_n 3, 1) := by decide +kernel
theorem dX1_heaviestLeftWithout_5 : decode cX1_heaviestLeftWithout 5 = .ok (.aload_n 0, 1) := by decide +kernel
theorem dX1_heaviestLeftWithout_6 : decode cX1_heaviestLeftWithout 6 = .ok (.getfield 14, 3) := by decide +kernel
theorem dX1_heaviestLeftWithout_9 : decode cX1_heaviestLeftWithout 9 = .ok (.invokevirtual 48, 3) := by decide +kernel
theorem dX1_heaviestLeftWithout_12 : decode cX1_heaviestLeftWithout 12 = .ok (.if_icmp .ge 36, 3) := by decide +kernel
theorem dX1_heaviestLeftWithout_15 : decode cX1_heaviestLeftWithout 15 = .ok (.aload_n 0, 1) := by decide +kernel
theorem dX1_heaviestLeftWithout_16 : decode cX1_heaviestLeftWithout 16 = .ok (.iload_n 1, 1) := by decide +kernel
theorem dX1_heaviestLeftWithout_17 : decode cX1_heaviestLeftWithout 17 = .ok (.iload_n 3, 1) := by decide +kernel
theorem dX1_heaviestLeftWithout_18 : decode cX1_heaviestLeftWithout 18 = .ok (.invokevirtual 139, 3) := by decide +kernel
theorem dX1_heaviestLeftWithout_21 : decode cX1_heaviestLeftWithout 21 = .ok (.ifCond .eq 21, 3) := by decide +kernel
theorem dX1_heaviestLeftWithout_24 : decode cX1_heaviestLeftWithout 24 = .ok (.iload_n 2, 1) := by decide +kernel
theorem dX1_heaviestLeftWithout_25 : decode cX1_heaviestLeftWithout 25 = .ok (.aload_n 0, 1) := by decide +kernel
theorem dX1_heaviestLeftWithout_26 : decode cX1_heaviestLeftWithout 26 = .ok (.aload_n 0, 1) := by decide +kernel
theorem dX1_heaviestLeftWithout_27 : decode cX1_heaviestLeftWithout 27 = .ok (.iload_n 3, 1) := by decide +kernel
theorem dX1_heaviestLeftWithout_28 : decode cX1_heaviestLeftWithout 28 = .ok (.iload_n 1, 1) := by decide +kernel
theorem dX1_heaviestLeftWithout_29 : decode cX1_heaviestLeftWithout 29 = .ok (.invokestatic 56, 3) := by decide +kernel
theorem dX1_heaviestLeftWithout_32 : decode cX1_heaviestLeftWithout 32 = .ok (.invokevirtual 136, 3) := by decide +kernel
theorem dX1_heaviestLeftWithout_35 : decode cX1_heaviestLeftWithout 35 = .ok (.invokevirtual 143, 3) := by decide +kernel
theorem dX1_heaviestLeftWithout_38 : decode cX1_heaviestLeftWithout 38 = .ok (.invokestatic 84, 3) := by decide +kernel
theorem dX1_heaviestLeftWithout_41 : decode cX1_heaviestLeftWithout 41 = .ok (.istore_n 2, 1) := by decide +kernel
theorem dX1_heaviestLeftWithout_42 : decode cX1_heaviestLeftWithout 42 = .ok (.iinc 3 1, 3) := by decide +kernel
theorem dX1_heaviestLeftWithout_45 : decode cX1_heaviestLeftWithout 45 = .ok (.goto (-41), 3) := by decide +kernel
theorem dX1_heaviestLeftWithout_48 : decode cX1_heaviestLeftWithout 48 = .ok (.iload_n 2, 1) := by decide +kernel
theorem dX1_heaviestLeftWithout_49 : decode cX1_heaviestLeftWithout 49 = .ok (.ireturn, 1) := by decide +kernel
theorem dX1_middleWith_0 : decode cX1_middleWith 0 = .ok (.aload_n 0, 1) := by decide +kernel
theorem dX1_middleWith_1 : decode cX1_middleWith 1 = .ok (.iload_n 1, 1) := by decide +kernel
theorem dX1_middleWith_2 : decode cX1_middleWith 2 = .ok (.invokevirtual 146, 3) := by decide +kernel
theorem dX1_middleWith_5 : decode cX1_middleWith 5 = .ok (.istore_n 2, 1) := by decide +kernel
theorem dX1_middleWith_6 : decode cX1_middleWith 6 = .ok (.iconst (-1), 1) := by decide +kernel
theorem dX1_middleWith_7 : decode cX1_middleWith 7 = .ok (.istore_n 3, 1) := by decide +kernel
theorem dX1_middleWith_8 : decode cX1_middleWith 8 = .ok (.iconst 0, 1) := by decide +kernel
theorem dX1_middleWith_9 : decode cX1_middleWith 9 = .ok (.istore 4, 2) := by decide +kernel
theorem dX1_middleWith_11 : decode cX1_middleWith 11 = .ok (.iconst 0, 1) := by decide +kernel
theorem dX1_middleWith_12 : decode cX1_middleWith 12 = .ok (.istore 5, 2) := by decide +kernel
theorem dX1_middleWith_14 : decode cX1_middleWith 14 = .ok (.iload 5, 2) := by decide +kernel
theorem dX1_middleWith_16 : decode cX1_middleWith 16 = .ok (.aload_n 0, 1) := by decide +kernel
theorem dX1_middleWith_17 : decode cX1_middleWith 17 = .ok (.getfield 14, 3) := by decide +kernel
theorem dX1_middleWith_20 : decode cX1_middleWith 20 = .ok (.invokevirtual 48, 3) := by decide +kernel
theorem dX1_middleWith_23 : decode cX1_middleWith 23 = .ok (.if_icmp .ge 45, 3) := by decide +kernel
theorem dX1_middleWith_26 : decode cX1_middleWith 26 = .ok (.iload_n 2, 1) := by decide +kernel
theorem dX1_middleWith_27 : decode cX1_middleWith 27 = .ok (.iload 5, 2) := by decide +kernel
theorem dX1_middleWith_29 : decode cX1_middleWith 29 = .ok (.invokestatic 56, 3) := by decide +kernel
theorem dX1_middleWith_32 : decode cX1_middleWith 32 = .ok (.iand, 1) := by decide +kernel
theorem dX1_middleWith_33 : decode cX1_middleWith 33 = .ok (.ifCond .eq 29, 3) := by decide +kernel
theorem dX1_middleWith_36 : decode cX1_middleWith 36 = .ok (.aload_n 0, 1) := by decide +kernel
theorem dX1_middleWith_37 : decode cX1_middleWith 37 = .ok (.iload 5, 2) := by decide +kernel
theorem dX1_middleWith_39 : decode cX1_middleWith 39 = .ok (.invokevirtual 149, 3) := by decide +kernel
theorem dX1_middleWith_42 : decode cX1_middleWith 42 = .ok (.istore 6, 2) := by decide +kernel
theorem dX1_middleWith_44 : decode cX1_middleWith 44 = .ok (.iload_n 3, 1) := by decide +kernel
theorem dX1_middleWith_45 : decode cX1_middleWith 45 = .ok (.ifCond .lt 10, 3) := by decide +kernel
theorem dX1_middleWith_48 : decode cX1_middleWith 48 = .ok (.iload 6, 2) := by decide +kernel
theorem dX1_middleWith_50 : decode cX1_middleWith 50 = .ok (.iload 4, 2) := by decide +kernel
theorem dX1_middleWith_52 : decode cX1_middleWith 52 = .ok (.if_icmp .ge 10, 3) := by decide +kernel
theorem dX1_middleWith_55 : decode cX1_middleWith 55 = .ok (.iload 5, 2) := by decide +kernel
theorem dX1_middleWith_57 : decode cX1_middleWith 57 = .ok (.istore_n 3, 1) := by decide +kernel
theorem dX1_middleWith_58 : decode cX1_middleWith 58 = .ok (.iload 6, 2) := by decide +kernel
theorem dX1_middleWith_60 : decode cX1_middleWith 60 = .ok (.istore 4, 2) := by decide +kernel
theorem dX1_middleWith_62 : decode cX1_middleWith 62 = .ok (.iinc 5 1, 3) := by decide +kernel
theorem dX1_middleWith_65 : decode cX1_middleWith 65 = .ok (.goto (-51), 3) := by decide +kernel
theorem dX1_middleWith_68 : decode cX1_middleWith 68 = .ok (.iload_n 3, 1) := by decide +kernel
theorem dX1_middleWith_69 : decode cX1_middleWith 69 = .ok (.ireturn, 1) := by decide +kernel
theorem dX1_rootRanked_0 : decode cX1_rootRanked 0 = .ok (.iconst 0, 1) := by decide +kernel
theorem dX1_rootRanked_1 : decode cX1_rootRanked 1 = .ok (.istore_n 2, 1) := by decide +kernel
theorem dX1_rootRanked_2 : decode cX1_rootRanked 2 = .ok (.iload_n 2, 1) := by decide +kernel
theorem dX1_rootRanked_3 : decode cX1_rootRanked 3 = .ok (.bipush 12, 2) := by decide +kernel
theorem dX1_rootRanked_5 : decode cX1_rootRanked 5 = .ok (.if_icmp .ge 28, 3) := by decide +kernel
theorem dX1_rootRanked_8 : decode cX1_rootRanked 8 = .ok (.aload_n 0, 1) := by decide +kernel
theorem dX1_rootRanked_9 : decode cX1_rootRanked 9 = .ok (.iload_n 2, 1) := by decide +kernel
theorem dX1_rootRanked_10 : decode cX1_rootRanked 10 = .ok (.invokevirtual 112, 3) := by decide +kernel
theorem dX1_rootRanked_13 : decode cX1_rootRanked 13 = .ok (.ifCond .eq 14, 3) := by decide +kernel
theorem dX1_rootRanked_16 : decode cX1_rootRanked 16 = .ok (.aload_n 0, 1) := by decide +kernel
theorem dX1_rootRanked_17 : decode cX1_rootRanked 17 = .ok (.iload_n 2, 1) := by decide +kernel
theorem dX1_rootRanked_18 : decode cX1_rootRanked 18 = .ok (.invokevirtual 152, 3) := by decide +kernel
theorem dX1_rootRanked_21 : decode cX1_rootRanked 21 = .ok (.iload_n 1, 1) := by decide +kernel
theorem dX1_rootRanked_22 : decode cX1_rootRanked 22 = .ok (.if_icmp .ne 5, 3) := by decide +kernel
theorem dX1_rootRanked_25 : decode cX1_rootRanked 25 = .ok (.iload_n 2, 1) := by decide +kernel
theorem dX1_rootRanked_26 : decode cX1_rootRanked 26 = .ok (.ireturn, 1) := by decide +kernel
theorem dX1_rootRanked_27 : decode cX1_rootRanked 27 = .ok (.iinc 2 1, 3) := by decide +kernel
theorem dX1_rootRanked_30 : decode cX1_rootRanked 30 = .ok (.goto (-28), 3) := by decide +kernel
theorem dX1_rootRanked_33 : decode cX1_rootRanked 33 = .ok (.iconst (-1), 1) := by decide +kernel
theorem dX1_rootRanked_34 : decode cX1_rootRanked 34 = .ok (.ireturn, 1) := by decide +kernel
theorem dX1_partsAheadOf_0 : decode cX1_partsAheadOf 0 = .ok (.iconst 0, 1) := by decide +kernel
theorem dX1_partsAheadOf_1 : decode cX1_partsAheadOf 1 = .ok (.istore_n 2, 1) := by decide +kernel
theorem dX1_partsAheadOf_2 : decode cX1_partsAheadOf 2 = .ok (.iconst 0, 1) := by decide +kernel
theorem dX1_partsAheadOf_3 : decode cX1_partsAheadOf 3 = .ok (.istore_n 3, 1) := by decide +kernel
theorem dX1_partsAheadOf_4 : decode cX1_partsAheadOf 4 = .ok (.iload_n 3, 1) := by decide +kernel
theorem dX1_partsAheadOf_5 : decode cX1_partsAheadOf 5 = .ok (.bipush 12, 2) := by decide +kernel
theorem dX1_partsAheadOf_7 : decode cX1_partsAheadOf 7 = .ok (.if_icmp .ge 34, 3) := by decide +kernel
theorem dX1_partsAheadOf_10 : decode cX1_partsAheadOf 10 = .ok (.iload_n 3, 1) := by decide +kernel
theorem dX1_partsAheadOf_11 : decode cX1_partsAheadOf 11 = .ok (.iload_n 1, 1) := by decide +kernel
theorem dX1_partsAheadOf_12 : decode cX1_partsAheadOf 12 = .ok (.if_icmp .eq 23, 3) := by decide +kernel
theorem dX1_partsAheadOf_15 : decode cX1_partsAheadOf 15 = .ok (.aload_n 0, 1) := by decide +kernel
theorem dX1_partsAheadOf_16 : decode cX1_partsAheadOf 16 = .ok (.iload_n 3, 1) := by decide +kernel
theorem dX1_partsAheadOf_17 : decode cX1_partsAheadOf 17 = .ok (.invokevirtual 112, 3) := by decide +kernel
theorem dX1_partsAheadOf_20 : decode cX1_partsAheadOf 20 = .ok (.ifCond .eq 15, 3) := by decide +kernel
theorem dX1_partsAheadOf_23 : decode cX1_partsAheadOf 23 = .ok (.aload_n 0, 1) := by decide +kernel
theorem dX1_partsAheadOf_24 : decode cX1_partsAheadOf 24 = .ok (.iload_n 3, 1) := by decide +kernel
theorem dX1_partsAheadOf_25 : decode cX1_partsAheadOf 25 = .ok (.iload_n 1, 1) := by decide +kernel
theorem dX1_partsAheadOf_26 : decode cX1_partsAheadOf 26 = .ok (.invokevirtual 155, 3) := by decide +kernel
theorem dX1_partsAheadOf_29 : decode cX1_partsAheadOf 29 = .ok (.ifCond .eq 6, 3) := by decide +kernel
theorem dX1_partsAheadOf_32 : decode cX1_partsAheadOf 32 = .ok (.iinc 2 1, 3) := by decide +kernel
theorem dX1_partsAheadOf_35 : decode cX1_partsAheadOf 35 = .ok (.iinc 3 1, 3) := by decide +kernel
theorem dX1_partsAheadOf_38 : decode cX1_partsAheadOf 38 = .ok (.goto (-34), 3) := by decide +kernel
theorem dX1_partsAheadOf_41 : decode cX1_partsAheadOf 41 = .ok (.iload_n 2, 1) := by decide +kernel
theorem dX1_partsAheadOf_42 : decode cX1_partsAheadOf 42 = .ok (.ireturn, 1) := by decide +kernel
theorem dX1_ranksAhead_0 : decode cX1_ranksAhead 0 = .ok (.aload_n 0, 1) := by decide +kernel
theorem dX1_ranksAhead_1 : decode cX1_ranksAhead 1 = .ok (.aload_n 0, 1) := by decide +kernel
theorem dX1_ranksAhead_2 : decode cX1_ranksAhead 2 = .ok (.iload_n 1, 1) := by decide +kernel
theorem dX1_ranksAhead_3 : decode cX1_ranksAhead 3 = .ok (.invokevirtual 34, 3) := by decide +kernel
theorem dX1_ranksAhead_6 : decode cX1_ranksAhead 6 = .ok (.invokevirtual 115, 3) := by decide +kernel
theorem dX1_ranksAhead_9 : decode cX1_ranksAhead 9 = .ok (.invokevirtual 143, 3) := by decide +kernel
theorem dX1_ranksAhead_12 : decode cX1_ranksAhead 12 = .ok (.istore_n 3, 1) := by decide +kernel
theorem dX1_ranksAhead_13 : decode cX1_ranksAhead 13 = .ok (.aload_n 0, 1) := by decide +kernel
theorem dX1_ranksAhead_14 : decode cX1_ranksAhead 14 = .ok (.aload_n 0, 1) := by decide +kernel
theorem dX1_ranksAhead_15 : decode cX1_ranksAhead 15 = .ok (.iload_n 2, 1) := by decide +kernel
theorem dX1_ranksAhead_16 : decode cX1_ranksAhead 16 = .ok (.invokevirtual 34, 3) := by decide +kernel
theorem dX1_ranksAhead_19 : decode cX1_ranksAhead 19 = .ok (.invokevirtual 115, 3) := by decide +kernel
theorem dX1_ranksAhead_22 : decode cX1_ranksAhead 22 = .ok (.invokevirtual 143, 3) := by decide +kernel
theorem dX1_ranksAhead_25 : decode cX1_ranksAhead 25 = .ok (.istore 4, 2) := by decide +kernel
theorem dX1_ranksAhead_27 : decode cX1_ranksAhead 27 = .ok (.iload_n 3, 1) := by decide +kernel
theorem dX1_ranksAhead_28 : decode cX1_ranksAhead 28 = .ok (.iload 4, 2) := by decide +kernel
theorem dX1_ranksAhead_30 : decode cX1_ranksAhead 30 = .ok (.if_icmp .eq 15, 3) := by decide +kernel
theorem dX1_ranksAhead_33 : decode cX1_ranksAhead 33 = .ok (.iload_n 3, 1) := by decide +kernel
theorem dX1_ranksAhead_34 : decode cX1_ranksAhead 34 = .ok (.iload 4, 2) := by decide +kernel
theorem dX1_ranksAhead_36 : decode cX1_ranksAhead 36 = .ok (.if_icmp .le 7, 3) := by decide +kernel
theorem dX1_ranksAhead_39 : decode cX1_ranksAhead 39 = .ok (.iconst 1, 1) := by decide +kernel
theorem dX1_ranksAhead_40 : decode cX1_ranksAhead 40 = .ok (.goto 4, 3) := by decide +kernel
theorem dX1_ranksAhead_43 : decode cX1_ranksAhead 43 = .ok (.iconst 0, 1) := by decide +kernel
theorem dX1_ranksAhead_44 : decode cX1_ranksAhead 44 = .ok (.ireturn, 1) := by decide +kernel
theorem dX1_ranksAhead_45 : decode cX1_ranksAhead 45 = .ok (.aload_n 0, 1) := by decide +kernel
theorem dX1_ranksAhead_46 : decode cX1_ranksAhead 46 = .ok (.iload_n 1, 1) := by decide +kernel
theorem dX1_ranksAhead_47 : decode cX1_ranksAhead 47 = .ok (.invokevirtual 34, 3) := by decide +kernel
theorem dX1_ranksAhead_50 : decode cX1_ranksAhead 50 = .ok (.invokevirtual 48, 3) := by decide +kernel
theorem dX1_ranksAhead_53 : decode cX1_ranksAhead 53 = .ok (.istore 5, 2) := by decide +kernel
theorem dX1_ranksAhead_55 : decode cX1_ranksAhead 55 = .ok (.aload_n 0, 1) := by decide +kernel
theorem dX1_ranksAhead_56 : decode cX1_ranksAhead 56 = .ok (.iload_n 2, 1) := by decide +kernel
theorem dX1_ranksAhead_57 : decode cX1_ranksAhead 57 = .ok (.invokevirtual 34, 3) := by decide +kernel
theorem dX1_ranksAhead_60 : decode cX1_ranksAhead 60 = .ok (.invokevirtual 48, 3) := by decide +kernel
theorem dX1_ranksAhead_63 : decode cX1_ranksAhead 63 = .ok (.istore 6, 2) := by decide +kernel
theorem dX1_ranksAhead_65 : decode cX1_ranksAhead 65 = .ok (.iload 5, 2) := by decide +kernel
theorem dX1_ranksAhead_67 : decode cX1_ranksAhead 67 = .ok (.iload 6, 2) := by decide +kernel
theorem dX1_ranksAhead_69 : decode cX1_ranksAhead 69 = .ok (.if_icmp .eq 18, 3) := by decide +kernel
theorem dX1_ranksAhead_72 : decode cX1_ranksAhead 72 = .ok (.iload 5, 2) := by decide +kernel
theorem dX1_ranksAhead_74 : decode cX1_ranksAhead 74 = .ok (.iload 6, 2) := by decide +kernel
theorem dX1_ranksAhead_76 : decode cX1_ranksAhead 76 = .ok (.if_icmp .le 7, 3) := by decide +kernel
theorem dX1_ranksAhead_79 : decode cX1_ranksAhead 79 = .ok (.iconst 1, 1) := by decide +kernel
theorem dX1_ranksAhead_80 : decode cX1_ranksAhead 80 = .ok (.goto 17, 3) := by decide +kernel
theorem dX1_ranksAhead_83 : decode cX1_ranksAhead 83 = .ok (.iconst 0, 1) := by decide +kernel
theorem dX1_ranksAhead_84 : decode cX1_ranksAhead 84 = .ok (.goto 13, 3) := by decide +kernel
theorem dX1_ranksAhead_87 : decode cX1_ranksAhead 87 = .ok (.iload_n 1, 1) := by decide +kernel
theorem dX1_ranksAhead_88 : decode cX1_ranksAhead 88 = .ok (.iload_n 2, 1) := by decide +kernel
theorem dX1_ranksAhead_89 : decode cX1_ranksAhead 89 = .ok (.if_icmp .ge 7, 3) := by decide +kernel
theorem dX1_ranksAhead_92 : decode cX1_ranksAhead 92 = .ok (.iconst 1, 1) := by decide +kernel
theorem dX1_ranksAhead_93 : decode cX1_ranksAhead 93 = .ok (.goto 4, 3) := by decide +kernel
theorem dX1_ranksAhead_96 : decode cX1_ranksAhead 96 = .ok (.iconst 0, 1) := by decide +kernel
theorem dX1_ranksAhead_97 : decode cX1_ranksAhead 97 = .ok (.ireturn, 1) := by decide +kernel
theorem dX1_isSound_0 : decode cX1_isSound 0 = .ok (.iconst 0, 1) := by decide +kernel
theorem dX1_isSound_1 : decode cX1_isSound 1 = .ok (.istore_n 1, 1) := by decide +kernel
theorem dX1_isSound_2 : decode cX1_isSound 2 = .ok (.iload_n 1, 1) := by decide +kernel
theorem dX1_isSound_3 : decode cX1_isSound 3 = .ok (.aload_n 0, 1) := by decide +kernel
theorem dX1_isSound_4 : decode cX1_isSound 4 = .ok (.getfield 14, 3) := by decide +kernel
theorem dX1_isSound_7 : decode cX1_isSound 7 = .ok (.invokevirtual 48, 3) := by decide +kernel
theorem dX1_isSound_10 : decode cX1_isSound 10 = .ok (.if_icmp .ge 46, 3) := by decide +kernel
theorem dX1_isSound_13 : decode cX1_isSound 13 = .ok (.aload_n 0, 1) := by decide +kernel
theorem dX1_isSound_14 : decode cX1_isSound 14 = .ok (.iload_n 1, 1) := by decide +kernel
theorem dX1_isSound_15 : decode cX1_isSound 15 = .ok (.invokevirtual 146, 3) := by decide +kernel
theorem dX1_isSound_18 : decode cX1_isSound 18 = .ok (.aload_n 0, 1) := by decide +kernel
theorem dX1_isSound_19 : decode cX1_isSound 19 = .ok (.iload_n 1, 1) := by decide +kernel
theorem dX1_isSound_20 : decode cX1_isSound 20 = .ok (.iconst 0, 1) := by decide +kernel
theorem dX1_isSound_21 : decode cX1_isSound 21 = .ok (.invokevirtual 136, 3) := by decide +kernel
theorem dX1_isSound_24 : decode cX1_isSound 24 = .ok (.if_icmp .ne 24, 3) := by decide +kernel
theorem dX1_isSound_27 : decode cX1_isSound 27 = .ok (.aload_n 0, 1) := by decide +kernel
theorem dX1_isSound_28 : decode cX1_isSound 28 = .ok (.iload_n 1, 1) := by decide +kernel
theorem dX1_isSound_29 : decode cX1_isSound 29 = .ok (.invokevirtual 158, 3) := by decide +kernel
theorem dX1_isSound_32 : decode cX1_isSound 32 = .ok (.aload_n 0, 1) := by decide +kernel
theorem dX1_isSound_33 : decode cX1_isSound 33 = .ok (.iload_n 1, 1) := by decide +kernel
theorem dX1_isSound_34 : decode cX1_isSound 34 = .ok (.invokevirtual 161, 3) := by decide +kernel
theorem dX1_isSound_37 : decode cX1_isSound 37 = .ok (.if_icmp .ne 11, 3) := by decide +kernel
theorem dX1_isSound_40 : decode cX1_isSound 40 = .ok (.aload_n 0, 1) := by decide +kernel
theorem dX1_isSound_41 : decode cX1_isSound 41 = .ok (.iload_n 1, 1) := by decide +kernel
theorem dX1_isSound_42 : decode cX1_isSound 42 = .ok (.invokevirtual 164, 3) := by decide +kernel
theorem dX1_isSound_45 : decode cX1_isSound 45 = .ok (.ifCond .ne 5, 3) := by decide +kernel
theorem dX1_isSound_48 : decode cX1_isSound 48 = .ok (.iconst 0, 1) := by decide +kernel
theorem dX1_isSound_49 : decode cX1_isSound 49 = .ok (.ireturn, 1) := by decide +kernel
theorem dX1_isSound_50 : decode cX1_isSound 50 = .ok (.iinc 1 1, 3) := by decide +kernel
theorem dX1_isSound_53 : decode cX1_isSound 53 = .ok (.goto (-51), 3) := by decide +kernel
theorem dX1_isSound_56 : decode cX1_isSound 56 = .ok (.iconst 1, 1) := by decide +kernel
theorem dX1_isSound_57 : decode cX1_isSound 57 = .ok (.ireturn, 1) := by decide +kernel
theorem dX1_leavesOverEachRope_0 : decode cX1_leavesOverEachRope 0 = .ok (.aload_n 0, 1) := by decide +kernel
theorem dX1_leavesOverEachRope_1 : decode cX1_leavesOverEachRope 1 = .ok (.iload_n 1, 1) := by decide +kernel
theorem dX1_leavesOverEachRope_2 : decode cX1_leavesOverEachRope 2 = .ok (.invokevirtual 87, 3) := by decide +kernel
theorem dX1_leavesOverEachRope_5 : decode cX1_leavesOverEachRope 5 = .ok (.astore_n 2, 1) := by decide +kernel
theorem dX1_leavesOverEachRope_6 : decode cX1_leavesOverEachRope 6 = .ok (.iconst 0, 1) := by decide +kernel
theorem dX1_leavesOverEachRope_7 : decode cX1_leavesOverEachRope 7 = .ok (.istore_n 3, 1) := by decide +kernel
theorem dX1_leavesOverEachRope_8 : decode cX1_leavesOverEachRope 8 = .ok (.iconst 0, 1) := by decide +kernel
theorem dX1_leavesOverEachRope_9 : decode cX1_leavesOverEachRope 9 = .ok (.istore 4, 2) := by decide +kernel
theorem dX1_leavesOverEachRope_11 : decode cX1_leavesOverEachRope 11 = .ok (.iconst 0, 1) := by decide +kernel
theorem dX1_leavesOverEachRope_12 : decode cX1_leavesOverEachRope 12 = .ok (.istore 5, 2) := by decide +kernel
theorem dX1_leavesOverEachRope_14 : decode cX1_leavesOverEachRope 14 = .ok (.iload 5, 2) := by decide +kernel
theorem dX1_leavesOverEachRope_16 : decode cX1_leavesOverEachRope 16 = .ok (.iconst 1, 1) := by decide +kernel
theorem dX1_leavesOverEachRope_17 : decode cX1_leavesOverEachRope 17 = .ok (.iadd, 1) := by decide +kernel
theorem dX1_leavesOverEachRope_18 : decode cX1_leavesOverEachRope 18 = .ok (.aload_n 2, 1) := by decide +kernel
theorem dX1_leavesOverEachRope_19 : decode cX1_leavesOverEachRope 19 = .ok (.invokevirtual 48, 3) := by decide +kernel
theorem dX1_leavesOverEachRope_22 : decode cX1_leavesOverEachRope 22 = .ok (.if_icmp .ge 36, 3) := by decide +kernel
theorem dX1_leavesOverEachRope_25 : decode cX1_leavesOverEachRope 25 = .ok (.aload_n 2, 1) := by decide +kernel
theorem dX1_leavesOverEachRope_26 : decode cX1_leavesOverEachRope 26 = .ok (.iload 5, 2) := by decide +kernel
theorem dX1_leavesOverEachRope_28 : decode cX1_leavesOverEachRope 28 = .ok (.invokevirtual 52, 3) := by decide +kernel
theorem dX1_leavesOverEachRope_31 : decode cX1_leavesOverEachRope 31 = .ok (.iload_n 1, 1) := by decide +kernel
theorem dX1_leavesOverEachRope_32 : decode cX1_leavesOverEachRope 32 = .ok (.if_icmp .ne 20, 3) := by decide +kernel
theorem dX1_leavesOverEachRope_35 : decode cX1_leavesOverEachRope 35 = .ok (.iload_n 3, 1) := by decide +kernel
theorem dX1_leavesOverEachRope_36 : decode cX1_leavesOverEachRope 36 = .ok (.aload_n 2, 1) := by decide +kernel
theorem dX1_leavesOverEachRope_37 : decode cX1_leavesOverEachRope 37 = .ok (.iload 5, 2) := by decide +kernel
theorem dX1_leavesOverEachRope_39 : decode cX1_leavesOverEachRope 39 = .ok (.iconst 1, 1) := by decide +kernel
theorem dX1_leavesOverEachRope_40 : decode cX1_leavesOverEachRope 40 = .ok (.iadd, 1) := by decide +kernel
theorem dX1_leavesOverEachRope_41 : decode cX1_leavesOverEachRope 41 = .ok (.invokevirtual 52, 3) := by decide +kernel
theorem dX1_leavesOverEachRope_44 : decode cX1_leavesOverEachRope 44 = .ok (.invokestatic 56, 3) := by decide +kernel
theorem dX1_leavesOverEachRope_47 : decode cX1_leavesOverEachRope 47 = .ok (.ior, 1) := by decide +kernel
theorem dX1_leavesOverEachRope_48 : decode cX1_leavesOverEachRope 48 = .ok (.istore_n 3, 1) := by decide +kernel
theorem dX1_leavesOverEachRope_49 : decode cX1_leavesOverEachRope 49 = .ok (.iinc 4 1, 3) := by decide +kernel
theorem dX1_leavesOverEachRope_52 : decode cX1_leavesOverEachRope 52 = .ok (.iinc 5 1, 3) := by decide +kernel
theorem dX1_leavesOverEachRope_55 : decode cX1_leavesOverEachRope 55 = .ok (.goto (-41), 3) := by decide +kernel
theorem dX1_leavesOverEachRope_58 : decode cX1_leavesOverEachRope 58 = .ok (.iload_n 3, 1) := by decide +kernel
theorem dX1_leavesOverEachRope_59 : decode cX1_leavesOverEachRope 59 = .ok (.aload_n 0, 1) := by decide +kernel
theorem dX1_leavesOverEachRope_60 : decode cX1_leavesOverEachRope 60 = .ok (.iload_n 1, 1) := by decide +kernel
theorem dX1_leavesOverEachRope_61 : decode cX1_leavesOverEachRope 61 = .ok (.invokevirtual 63, 3) := by decide +kernel
theorem dX1_leavesOverEachRope_64 : decode cX1_leavesOverEachRope 64 = .ok (.if_icmp .ne 16, 3) := by decide +kernel
theorem dX1_leavesOverEachRope_67 : decode cX1_leavesOverEachRope 67 = .ok (.iload 4, 2) := by decide +kernel
theorem dX1_leavesOverEachRope_69 : decode cX1_leavesOverEachRope 69 = .ok (.iload_n 3, 1) := by decide +kernel
theorem dX1_leavesOverEachRope_70 : decode cX1_leavesOverEachRope 70 = .ok (.invokestatic 66, 3) := by decide +kernel
theorem dX1_leavesOverEachRope_73 : decode cX1_leavesOverEachRope 73 = .ok (.if_icmp .ne 7, 3) := by decide +kernel
theorem dX1_leavesOverEachRope_76 : decode cX1_leavesOverEachRope 76 = .ok (.iconst 1, 1) := by decide +kernel
theorem dX1_leavesOverEachRope_77 : decode cX1_leavesOverEachRope 77 = .ok (.goto 4, 3) := by decide +kernel
theorem dX1_leavesOverEachRope_80 : decode cX1_leavesOverEachRope 80 = .ok (.iconst 0, 1) := by decide +kernel
theorem dX1_leavesOverEachRope_81 : decode cX1_leavesOverEachRope 81 = .ok (.ireturn, 1) := by decide +kernel
theorem dX2_init_0 : decode cX2_init 0 = .ok (.aload_n 0, 1) := by decide +kernel
theorem dX2_init_1 : decode cX2_init 1 = .ok (.invokespecial 3, 3) := by decide +kernel
theorem dX2_init_4 : decode cX2_init 4 = .ok (.aload_n 0, 1) := by decide +kernel
theorem dX2_init_5 : decode cX2_init 5 = .ok (.iload_n 1, 1) := by decide +kernel
theorem dX2_init_6 : decode cX2_init 6 = .ok (.ifCond .ge 7, 3) := by decide +kernel
theorem dX2_init_9 : decode cX2_init 9 = .ok (.iconst 0, 1) := by decide +kernel
theorem dX2_init_10 : decode cX2_init 10 = .ok (.goto 4, 3) := by decide +kernel
theorem dX2_init_13 : decode cX2_init 13 = .ok (.iload_n 1, 1) := by decide +kernel
theorem dX2_init_14 : decode cX2_init 14 = .ok (.newarray .int, 2) := by decide +kernel
theorem dX2_init_16 : decode cX2_init 16 = .ok (.putfield 9, 3) := by decide +kernel
theorem dX2_init_19 : decode cX2_init 19 = .ok (.return_, 1) := by decide +kernel
theorem dX2_length_0 : decode cX2_length 0 = .ok (.aload_n 0, 1) := by decide +kernel
theorem dX2_length_1 : decode cX2_length 1 = .ok (.getfield 15, 3) := by decide +kernel
theorem dX2_length_4 : decode cX2_length 4 = .ok (.ireturn, 1) := by decide +kernel
theorem dX2_get_0 : decode cX2_get 0 = .ok (.iload_n 1, 1) := by decide +kernel
theorem dX2_get_1 : decode cX2_get 1 = .ok (.ifCond .lt 20, 3) := by decide +kernel
theorem dX2_get_4 : decode cX2_get 4 = .ok (.iload_n 1, 1) := by decide +kernel
theorem dX2_get_5 : decode cX2_get 5 = .ok (.aload_n 0, 1) := by decide +kernel
theorem dX2_get_6 : decode cX2_get 6 = .ok (.getfield 15, 3) := by decide +kernel
theorem dX2_get_9 : decode cX2_get 9 = .ok (.if_icmp .ge 12, 3) := by decide +kernel
theorem dX2_get_12 : decode cX2_get 12 = .ok (.iload_n 1, 1) := by decide +kernel
theorem dX2_get_13 : decode cX2_get 13 = .ok (.aload_n 0, 1) := by decide +kernel
theorem dX2_get_14 : decode cX2_get 14 = .ok (.getfield 9, 3) := by decide +kernel
theorem dX2_get_17 : decode cX2_get 17 = .ok (.arraylength, 1) := by decide +kernel
theorem dX2_get_18 : decode cX2_get 18 = .ok (.if_icmp .lt 7, 3) := by decide +kernel
theorem dX2_get_21 : decode cX2_get 21 = .ok (.iconst (-1), 1) := by decide +kernel
theorem dX2_get_22 : decode cX2_get 22 = .ok (.goto 9, 3) := by decide +kernel
theorem dX2_get_25 : decode cX2_get 25 = .ok (.aload_n 0, 1) := by decide +kernel
theorem dX2_get_26 : decode cX2_get 26 = .ok (.getfield 9, 3) := by decide +kernel
theorem dX2_get_29 : decode cX2_get 29 = .ok (.iload_n 1, 1) := by decide +kernel
theorem dX2_get_30 : decode cX2_get 30 = .ok (.iaload, 1) := by decide +kernel
theorem dX2_get_31 : decode cX2_get 31 = .ok (.ireturn, 1) := by decide +kernel
theorem dX2_put_0 : decode cX2_put 0 = .ok (.iload_n 1, 1) := by decide +kernel
theorem dX2_put_1 : decode cX2_put 1 = .ok (.ifCond .lt 27, 3) := by decide +kernel
theorem dX2_put_4 : decode cX2_put 4 = .ok (.iload_n 1, 1) := by decide +kernel
theorem dX2_put_5 : decode cX2_put 5 = .ok (.aload_n 0, 1) := by decide +kernel
theorem dX2_put_6 : decode cX2_put 6 = .ok (.getfield 15, 3) := by decide +kernel
theorem dX2_put_9 : decode cX2_put 9 = .ok (.if_icmp .ge 19, 3) := by decide +kernel
theorem dX2_put_12 : decode cX2_put 12 = .ok (.iload_n 1, 1) := by decide +kernel
theorem dX2_put_13 : decode cX2_put 13 = .ok (.aload_n 0, 1) := by decide +kernel
theorem dX2_put_14 : decode cX2_put 14 = .ok (.getfield 9, 3) := by decide +kernel
theorem dX2_put_17 : decode cX2_put 17 = .ok (.arraylength, 1) := by decide +kernel
theorem dX2_put_18 : decode cX2_put 18 = .ok (.if_icmp .ge 10, 3) := by decide +kernel
theorem dX2_put_21 : decode cX2_put 21 = .ok (.aload_n 0, 1) := by decide +kernel
theorem dX2_put_22 : decode cX2_put 22 = .ok (.getfield 9, 3) := by decide +kernel
theorem dX2_put_25 : decode cX2_put 25 = .ok (.iload_n 1, 1) := by decide +kernel
theorem dX2_put_26 : decode cX2_put 26 = .ok (.iload_n 2, 1) := by decide +kernel
theorem dX2_put_27 : decode cX2_put 27 = .ok (.iastore, 1) := by decide +kernel
theorem dX2_put_28 : decode cX2_put 28 = .ok (.return_, 1) := by decide +kernel
theorem dX2_add_0 : decode cX2_add 0 = .ok (.aload_n 0, 1) := by decide +kernel
theorem dX2_add_1 : decode cX2_add 1 = .ok (.getfield 15, 3) := by decide +kernel
theorem dX2_add_4 : decode cX2_add 4 = .ok (.ifCond .lt 35, 3) := by decide +kernel
theorem dX2_add_7 : decode cX2_add 7 = .ok (.aload_n 0, 1) := by decide +kernel
theorem dX2_add_8 : decode cX2_add 8 = .ok (.getfield 15, 3) := by decide +kernel
theorem dX2_add_11 : decode cX2_add 11 = .ok (.aload_n 0, 1) := by decide +kernel
theorem dX2_add_12 : decode cX2_add 12 = .ok (.getfield 9, 3) := by decide +kernel
theorem dX2_add_15 : decode cX2_add 15 = .ok (.arraylength, 1) := by decide +kernel
theorem dX2_add_16 : decode cX2_add 16 = .ok (.if_icmp .ge 23, 3) := by decide +kernel
theorem dX2_add_19 : decode cX2_add 19 = .ok (.aload_n 0, 1) := by decide +kernel
theorem dX2_add_20 : decode cX2_add 20 = .ok (.getfield 9, 3) := by decide +kernel
theorem dX2_add_23 : decode cX2_add 23 = .ok (.aload_n 0, 1) := by decide +kernel
theorem dX2_add_24 : decode cX2_add 24 = .ok (.getfield 15, 3) := by decide +kernel
theorem dX2_add_27 : decode cX2_add 27 = .ok (.iload_n 1, 1) := by decide +kernel
theorem dX2_add_28 : decode cX2_add 28 = .ok (.iastore, 1) := by decide +kernel
theorem dX2_add_29 : decode cX2_add 29 = .ok (.aload_n 0, 1) := by decide +kernel
theorem dX2_add_30 : decode cX2_add 30 = .ok (.dup, 1) := by decide +kernel
theorem dX2_add_31 : decode cX2_add 31 = .ok (.getfield 15, 3) := by decide +kernel
theorem dX2_add_34 : decode cX2_add 34 = .ok (.iconst 1, 1) := by decide +kernel
theorem dX2_add_35 : decode cX2_add 35 = .ok (.iadd, 1) := by decide +kernel
theorem dX2_add_36 : decode cX2_add 36 = .ok (.putfield 15, 3) := by decide +kernel
theorem dX2_add_39 : decode cX2_add 39 = .ok (.return_, 1) := by decide +kernel
theorem dX2_addDigits_0 : decode cX2_addDigits 0 = .ok (.iload_n 1, 1) := by decide +kernel
theorem dX2_addDigits_1 : decode cX2_addDigits 1 = .ok (.bipush 10, 2) := by decide +kernel
theorem dX2_addDigits_3 : decode cX2_addDigits 3 = .ok (.if_icmp .lt 14, 3) := by decide +kernel
theorem dX2_addDigits_6 : decode cX2_addDigits 6 = .ok (.aload_n 0, 1) := by decide +kernel
theorem dX2_addDigits_7 : decode cX2_addDigits 7 = .ok (.bipush 48, 2) := by decide +kernel
theorem dX2_addDigits_9 : decode cX2_addDigits 9 = .ok (.iload_n 1, 1) := by decide +kernel
theorem dX2_addDigits_10 : decode cX2_addDigits 10 = .ok (.bipush 10, 2) := by decide +kernel
theorem dX2_addDigits_12 : decode cX2_addDigits 12 = .ok (.idiv, 1) := by decide +kernel
theorem dX2_addDigits_13 : decode cX2_addDigits 13 = .ok (.iadd, 1) := by decide +kernel
theorem dX2_addDigits_14 : decode cX2_addDigits 14 = .ok (.invokevirtual 19, 3) := by decide +kernel
theorem dX2_addDigits_17 : decode cX2_addDigits 17 = .ok (.aload_n 0, 1) := by decide +kernel
theorem dX2_addDigits_18 : decode cX2_addDigits 18 = .ok (.bipush 48, 2) := by decide +kernel
theorem dX2_addDigits_20 : decode cX2_addDigits 20 = .ok (.iload_n 1, 1) := by decide +kernel
theorem dX2_addDigits_21 : decode cX2_addDigits 21 = .ok (.bipush 10, 2) := by decide +kernel
theorem dX2_addDigits_23 : decode cX2_addDigits 23 = .ok (.irem, 1) := by decide +kernel
theorem dX2_addDigits_24 : decode cX2_addDigits 24 = .ok (.iadd, 1) := by decide +kernel
theorem dX2_addDigits_25 : decode cX2_addDigits 25 = .ok (.invokevirtual 19, 3) := by decide +kernel
theorem dX2_addDigits_28 : decode cX2_addDigits 28 = .ok (.return_, 1) := by decide +kernel
theorem dX2_addPlaces_0 : decode cX2_addPlaces 0 = .ok (.aload_n 1, 1) := by decide +kernel
theorem dX2_addPlaces_1 : decode cX2_addPlaces 1 = .ok (.ifnonnull 4, 3) := by decide +kernel
theorem dX2_addPlaces_4 : decode cX2_addPlaces 4 = .ok (.return_, 1) := by decide +kernel
theorem dX2_addPlaces_5 : decode cX2_addPlaces 5 = .ok (.iload_n 2, 1) := by decide +kernel
theorem dX2_addPlaces_6 : decode cX2_addPlaces 6 = .ok (.istore 4, 2) := by decide +kernel
theorem dX2_addPlaces_8 : decode cX2_addPlaces 8 = .ok (.iload 4, 2) := by decide +kernel
theorem dX2_addPlaces_10 : decode cX2_addPlaces 10 = .ok (.iload_n 3, 1) := by decide +kernel
theorem dX2_addPlaces_11 : decode cX2_addPlaces 11 = .ok (.if_icmp .gt 26, 3) := by decide +kernel
theorem dX2_addPlaces_14 : decode cX2_addPlaces 14 = .ok (.iload 4, 2) := by decide +kernel
theorem dX2_addPlaces_16 : decode cX2_addPlaces 16 = .ok (.bipush 23, 2) := by decide +kernel
theorem dX2_addPlaces_18 : decode cX2_addPlaces 18 = .ok (.if_icmp .ge 19, 3) := by decide +kernel
theorem dX2_addPlaces_21 : decode cX2_addPlaces 21 = .ok (.aload_n 0, 1) := by decide +kernel
theorem dX2_addPlaces_22 : decode cX2_addPlaces 22 = .ok (.aload_n 1, 1) := by decide +kernel
theorem dX2_addPlaces_23 : decode cX2_addPlaces 23 = .ok (.iload 4, 2) := by decide +kernel
theorem dX2_addPlaces_25 : decode cX2_addPlaces 25 = .ok (.invokevirtual 23, 3) := by decide +kernel
theorem dX2_addPlaces_28 : decode cX2_addPlaces 28 = .ok (.invokevirtual 19, 3) := by decide +kernel
theorem dX2_addPlaces_31 : decode cX2_addPlaces 31 = .ok (.iinc 4 1, 3) := by decide +kernel
theorem dX2_addPlaces_34 : decode cX2_addPlaces 34 = .ok (.goto (-26), 3) := by decide +kernel
theorem dX2_addPlaces_37 : decode cX2_addPlaces 37 = .ok (.return_, 1) := by decide +kernel
theorem dX2_dropPlaces_0 : decode cX2_dropPlaces 0 = .ok (.iload_n 2, 1) := by decide +kernel
theorem dX2_dropPlaces_1 : decode cX2_dropPlaces 1 = .ok (.iload_n 1, 1) := by decide +kernel
theorem dX2_dropPlaces_2 : decode cX2_dropPlaces 2 = .ok (.isub, 1) := by decide +kernel
theorem dX2_dropPlaces_3 : decode cX2_dropPlaces 3 = .ok (.iconst 1, 1) := by decide +kernel
theorem dX2_dropPlaces_4 : decode cX2_dropPlaces 4 = .ok (.iadd, 1) := by decide +kernel
theorem dX2_dropPlaces_5 : decode cX2_dropPlaces 5 = .ok (.istore_n 3, 1) := by decide +kernel
theorem dX2_dropPlaces_6 : decode cX2_dropPlaces 6 = .ok (.iload_n 2, 1) := by decide +kernel
theorem dX2_dropPlaces_7 : decode cX2_dropPlaces 7 = .ok (.iconst 1, 1) := by decide +kernel
theorem dX2_dropPlaces_8 : decode cX2_dropPlaces 8 = .ok (.iadd, 1) := by decide +kernel
theorem dX2_dropPlaces_9 : decode cX2_dropPlaces 9 = .ok (.istore 4, 2) := by decide +kernel
theorem dX2_dropPlaces_11 : decode cX2_dropPlaces 11 = .ok (.iload 4, 2) := by decide +kernel
theorem dX2_dropPlaces_13 : decode cX2_dropPlaces 13 = .ok (.aload_n 0, 1) := by decide +kernel
theorem dX2_dropPlaces_14 : decode cX2_dropPlaces 14 = .ok (.getfield 15, 3) := by decide +kernel
theorem dX2_dropPlaces_17 : decode cX2_dropPlaces 17 = .ok (.if_icmp .ge 23, 3) := by decide +kernel
theorem dX2_dropPlaces_20 : decode cX2_dropPlaces 20 = .ok (.aload_n 0, 1) := by decide +kernel
theorem dX2_dropPlaces_21 : decode cX2_dropPlaces 21 = .ok (.iload 4, 2) := by decide +kernel
theorem dX2_dropPlaces_23 : decode cX2_dropPlaces 23 = .ok (.iload_n 3, 1) := by decide +kernel
theorem dX2_dropPlaces_24 : decode cX2_dropPlaces 24 = .ok (.isub, 1) := by decide +kernel
theorem dX2_dropPlaces_25 : decode cX2_dropPlaces 25 = .ok (.aload_n 0, 1) := by decide +kernel
theorem dX2_dropPlaces_26 : decode cX2_dropPlaces 26 = .ok (.iload 4, 2) := by decide +kernel
theorem dX2_dropPlaces_28 : decode cX2_dropPlaces 28 = .ok (.invokevirtual 23, 3) := by decide +kernel
theorem dX2_dropPlaces_31 : decode cX2_dropPlaces 31 = .ok (.invokevirtual 27, 3) := by decide +kernel
theorem dX2_dropPlaces_34 : decode cX2_dropPlaces 34 = .ok (.iinc 4 1, 3) := by decide +kernel
theorem dX2_dropPlaces_37 : decode cX2_dropPlaces 37 = .ok (.goto (-26), 3) := by decide +kernel
theorem dX2_dropPlaces_40 : decode cX2_dropPlaces 40 = .ok (.aload_n 0, 1) := by decide +kernel
theorem dX2_dropPlaces_41 : decode cX2_dropPlaces 41 = .ok (.aload_n 0, 1) := by decide +kernel
theorem dX2_dropPlaces_42 : decode cX2_dropPlaces 42 = .ok (.getfield 15, 3) := by decide +kernel
theorem dX2_dropPlaces_45 : decode cX2_dropPlaces 45 = .ok (.iload_n 3, 1) := by decide +kernel
theorem dX2_dropPlaces_46 : decode cX2_dropPlaces 46 = .ok (.isub, 1) := by decide +kernel
theorem dX2_dropPlaces_47 : decode cX2_dropPlaces 47 = .ok (.invokevirtual 31, 3) := by decide +kernel
theorem dX2_dropPlaces_50 : decode cX2_dropPlaces 50 = .ok (.return_, 1) := by decide +kernel
theorem dX2_shorten_0 : decode cX2_shorten 0 = .ok (.iload_n 1, 1) := by decide +kernel
theorem dX2_shorten_1 : decode cX2_shorten 1 = .ok (.ifCond .lt 16, 3) := by decide +kernel
theorem dX2_shorten_4 : decode cX2_shorten 4 = .ok (.iload_n 1, 1) := by decide +kernel
theorem dX2_shorten_5 : decode cX2_shorten 5 = .ok (.aload_n 0, 1) := by decide +kernel
theorem dX2_shorten_6 : decode cX2_shorten 6 = .ok (.getfield 15, 3) := by decide +kernel
theorem dX2_shorten_9 : decode cX2_shorten 9 = .ok (.if_icmp .ge 8, 3) := by decide +kernel
theorem dX2_shorten_12 : decode cX2_shorten 12 = .ok (.aload_n 0, 1) := by decide +kernel
theorem dX2_shorten_13 : decode cX2_shorten 13 = .ok (.iload_n 1, 1) := by decide +kernel
theorem dX2_shorten_14 : decode cX2_shorten 14 = .ok (.putfield 15, 3) := by decide +kernel
theorem dX2_shorten_17 : decode cX2_shorten 17 = .ok (.return_, 1) := by decide +kernel
theorem dX2_clear_0 : decode cX2_clear 0 = .ok (.aload_n 0, 1) := by decide +kernel
theorem dX2_clear_1 : decode cX2_clear 1 = .ok (.iconst 0, 1) := by decide +kernel
theorem dX2_clear_2 : decode cX2_clear 2 = .ok (.putfield 15, 3) := by decide +kernel
theorem dX2_clear_5 : decode cX2_clear 5 = .ok (.return_, 1) := by decide +kernel
theorem dX2_copyFrom_0 : decode cX2_copyFrom 0 = .ok (.aload_n 1, 1) := by decide +kernel
theorem dX2_copyFrom_1 : decode cX2_copyFrom 1 = .ok (.ifnonnull 4, 3) := by decide +kernel
theorem dX2_copyFrom_4 : decode cX2_copyFrom 4 = .ok (.return_, 1) := by decide +kernel
theorem dX2_copyFrom_5 : decode cX2_copyFrom 5 = .ok (.aload_n 0, 1) := by decide +kernel
theorem dX2_copyFrom_6 : decode cX2_copyFrom 6 = .ok (.iconst 0, 1) := by decide +kernel
theorem dX2_copyFrom_7 : decode cX2_copyFrom 7 = .ok (.putfield 15, 3) := by decide +kernel
theorem dX2_copyFrom_10 : decode cX2_copyFrom 10 = .ok (.iconst 0, 1) := by decide +kernel
theorem dX2_copyFrom_11 : decode cX2_copyFrom 11 = .ok (.istore_n 2, 1) := by decide +kernel
theorem dX2_copyFrom_12 : decode cX2_copyFrom 12 = .ok (.iload_n 2, 1) := by decide +kernel
theorem dX2_copyFrom_13 : decode cX2_copyFrom 13 = .ok (.aload_n 1, 1) := by decide +kernel
theorem dX2_copyFrom_14 : decode cX2_copyFrom 14 = .ok (.getfield 15, 3) := by decide +kernel
theorem dX2_copyFrom_17 : decode cX2_copyFrom 17 = .ok (.if_icmp .ge 18, 3) := by decide +kernel
theorem dX2_copyFrom_20 : decode cX2_copyFrom 20 = .ok (.aload_n 0, 1) := by decide +kernel
theorem dX2_copyFrom_21 : decode cX2_copyFrom 21 = .ok (.aload_n 1, 1) := by decide +kernel
theorem dX2_copyFrom_22 : decode cX2_copyFrom 22 = .ok (.iload_n 2, 1) := by decide +kernel
theorem dX2_copyFrom_23 : decode cX2_copyFrom 23 = .ok (.invokevirtual 23, 3) := by decide +kernel
theorem dX2_copyFrom_26 : decode cX2_copyFrom 26 = .ok (.invokevirtual 19, 3) := by decide +kernel
theorem dX2_copyFrom_29 : decode cX2_copyFrom 29 = .ok (.iinc 2 1, 3) := by decide +kernel
theorem dX2_copyFrom_32 : decode cX2_copyFrom 32 = .ok (.goto (-20), 3) := by decide +kernel
theorem dX2_copyFrom_35 : decode cX2_copyFrom 35 = .ok (.return_, 1) := by decide +kernel
theorem dX2_firstOf_0 : decode cX2_firstOf 0 = .ok (.iconst 0, 1) := by decide +kernel
theorem dX2_firstOf_1 : decode cX2_firstOf 1 = .ok (.istore_n 2, 1) := by decide +kernel
theorem dX2_firstOf_2 : decode cX2_firstOf 2 = .ok (.iload_n 2, 1) := by decide +kernel
theorem dX2_firstOf_3 : decode cX2_firstOf 3 = .ok (.aload_n 0, 1) := by decide +kernel
theorem dX2_firstOf_4 : decode cX2_firstOf 4 = .ok (.getfield 15, 3) := by decide +kernel
theorem dX2_firstOf_7 : decode cX2_firstOf 7 = .ok (.if_icmp .ge 30, 3) := by decide +kernel
theorem dX2_firstOf_10 : decode cX2_firstOf 10 = .ok (.iload_n 2, 1) := by decide +kernel
theorem dX2_firstOf_11 : decode cX2_firstOf 11 = .ok (.aload_n 0, 1) := by decide +kernel
theorem dX2_firstOf_12 : decode cX2_firstOf 12 = .ok (.getfield 9, 3) := by decide +kernel
theorem dX2_firstOf_15 : decode cX2_firstOf 15 = .ok (.arraylength, 1) := by decide +kernel
theorem dX2_firstOf_16 : decode cX2_firstOf 16 = .ok (.if_icmp .ge 21, 3) := by decide +kernel
theorem dX2_firstOf_19 : decode cX2_firstOf 19 = .ok (.aload_n 0, 1) := by decide +kernel
theorem dX2_firstOf_20 : decode cX2_firstOf 20 = .ok (.getfield 9, 3) := by decide +kernel
theorem dX2_firstOf_23 : decode cX2_firstOf 23 = .ok (.iload_n 2, 1) := by decide +kernel
theorem dX2_firstOf_24 : decode cX2_firstOf 24 = .ok (.iaload, 1) := by decide +kernel
theorem dX2_firstOf_25 : decode cX2_firstOf 25 = .ok (.iload_n 1, 1) := by decide +kernel
theorem dX2_firstOf_26 : decode cX2_firstOf 26 = .ok (.if_icmp .ne 5, 3) := by decide +kernel
theorem dX2_firstOf_29 : decode cX2_firstOf 29 = .ok (.iload_n 2, 1) := by decide +kernel
theorem dX2_firstOf_30 : decode cX2_firstOf 30 = .ok (.ireturn, 1) := by decide +kernel
theorem dX2_firstOf_31 : decode cX2_firstOf 31 = .ok (.iinc 2 1, 3) := by decide +kernel
theorem dX2_firstOf_34 : decode cX2_firstOf 34 = .ok (.goto (-32), 3) := by decide +kernel
theorem dX2_firstOf_37 : decode cX2_firstOf 37 = .ok (.iconst (-1), 1) := by decide +kernel
theorem dX2_firstOf_38 : decode cX2_firstOf 38 = .ok (.ireturn, 1) := by decide +kernel
theorem dX2_lastOf_0 : decode cX2_lastOf 0 = .ok (.aload_n 0, 1) := by decide +kernel
theorem dX2_lastOf_1 : decode cX2_lastOf 1 = .ok (.getfield 15, 3) := by decide +kernel
theorem dX2_lastOf_4 : decode cX2_lastOf 4 = .ok (.iconst 1, 1) := by decide +kernel
theorem dX2_lastOf_5 : decode cX2_lastOf 5 = .ok (.isub, 1) := by decide +kernel
theorem dX2_lastOf_6 : decode cX2_lastOf 6 = .ok (.istore_n 2, 1) := by decide +kernel
theorem dX2_lastOf_7 : decode cX2_lastOf 7 = .ok (.iload_n 2, 1) := by decide +kernel
theorem dX2_lastOf_8 : decode cX2_lastOf 8 = .ok (.ifCond .lt 20, 3) := by decide +kernel
theorem dX2_lastOf_11 : decode cX2_lastOf 11 = .ok (.aload_n 0, 1) := by decide +kernel
theorem dX2_lastOf_12 : decode cX2_lastOf 12 = .ok (.iload_n 2, 1) := by decide +kernel
theorem dX2_lastOf_13 : decode cX2_lastOf 13 = .ok (.invokevirtual 23, 3) := by decide +kernel
theorem dX2_lastOf_16 : decode cX2_lastOf 16 = .ok (.iload_n 1, 1) := by decide +kernel
theorem dX2_lastOf_17 : decode cX2_lastOf 17 = .ok (.if_icmp .ne 5, 3) := by decide +kernel
theorem dX2_lastOf_20 : decode cX2_lastOf 20 = .ok (.iload_n 2, 1) := by decide +kernel
theorem dX2_lastOf_21 : decode cX2_lastOf 21 = .ok (.ireturn, 1) := by decide +kernel
theorem dX2_lastOf_22 : decode cX2_lastOf 22 = .ok (.iinc 2 (-1), 3) := by decide +kernel
theorem dX2_lastOf_25 : decode cX2_lastOf 25 = .ok (.goto (-18), 3) := by decide +kernel
theorem dX2_lastOf_28 : decode cX2_lastOf 28 = .ok (.iconst (-1), 1) := by decide +kernel
theorem dX2_lastOf_29 : decode cX2_lastOf 29 = .ok (.ireturn, 1) := by decide +kernel
theorem dX2_setOfAll_0 : decode cX2_setOfAll 0 = .ok (.aload_n 0, 1) := by decide +kernel
theorem dX2_setOfAll_1 : decode cX2_setOfAll 1 = .ok (.iconst 0, 1) := by decide +kernel
theorem dX2_setOfAll_2 : decode cX2_setOfAll 2 = .ok (.aload_n 0, 1) := by decide +kernel
theorem dX2_setOfAll_3 : decode cX2_setOfAll 3 = .ok (.getfield 15, 3) := by decide +kernel
theorem dX2_setOfAll_6 : decode cX2_setOfAll 6 = .ok (.iconst 1, 1) := by decide +kernel
theorem dX2_setOfAll_7 : decode cX2_setOfAll 7 = .ok (.isub, 1) := by decide +kernel
theorem dX2_setOfAll_8 : decode cX2_setOfAll 8 = .ok (.invokevirtual 34, 3) := by decide +kernel
theorem dX2_setOfAll_11 : decode cX2_setOfAll 11 = .ok (.ireturn, 1) := by decide +kernel
theorem dX2_setOf_0 : decode cX2_setOf 0 = .ok (.iconst 0, 1) := by decide +kernel
theorem dX2_setOf_1 : decode cX2_setOf 1 = .ok (.istore_n 3, 1) := by decide +kernel
theorem dX2_setOf_2 : decode cX2_setOf 2 = .ok (.iload_n 1, 1) := by decide +kernel
theorem dX2_setOf_3 : decode cX2_setOf 3 = .ok (.istore 4, 2) := by decide +kernel
theorem dX2_setOf_5 : decode cX2_setOf 5 = .ok (.iload 4, 2) := by decide +kernel
theorem dX2_setOf_7 : decode cX2_setOf 7 = .ok (.iload_n 2, 1) := by decide +kernel
theorem dX2_setOf_8 : decode cX2_setOf 8 = .ok (.if_icmp .gt 28, 3) := by decide +kernel
theorem dX2_setOf_11 : decode cX2_setOf 11 = .ok (.iload 4, 2) := by decide +kernel
theorem dX2_setOf_13 : decode cX2_setOf 13 = .ok (.bipush 23, 2) := by decide +kernel
theorem dX2_setOf_15 : decode cX2_setOf 15 = .ok (.if_icmp .ge 21, 3) := by decide +kernel
theorem dX2_setOf_18 : decode cX2_setOf 18 = .ok (.iload_n 3, 1) := by decide +kernel
theorem dX2_setOf_19 : decode cX2_setOf 19 = .ok (.aload_n 0, 1) := by decide +kernel
theorem dX2_setOf_20 : decode cX2_setOf 20 = .ok (.iload 4, 2) := by decide +kernel
theorem dX2_setOf_22 : decode cX2_setOf 22 = .ok (.invokevirtual 23, 3) := by decide +kernel
theorem dX2_setOf_25 : decode cX2_setOf 25 = .ok (.invokestatic 38, 3) := by decide +kernel
theorem dX2_setOf_28 : decode cX2_setOf 28 = .ok (.ior, 1) := by decide +kernel
theorem dX2_setOf_29 : decode cX2_setOf 29 = .ok (.istore_n 3, 1) := by decide +kernel
theorem dX2_setOf_30 : decode cX2_setOf 30 = .ok (.iinc 4 1, 3) := by decide +kernel
theorem dX2_setOf_33 : decode cX2_setOf 33 = .ok (.goto (-28), 3) := by decide +kernel
theorem dX2_setOf_36 : decode cX2_setOf 36 = .ok (.iload_n 3, 1) := by decide +kernel
theorem dX2_setOf_37 : decode cX2_setOf 37 = .ok (.ireturn, 1) := by decide +kernel
theorem dX3_init_0 : decode cX3_init 0 = .ok (.aload_n 0, 1) := by decide +kernel
theorem dX3_init_1 : decode cX3_init 1 = .ok (.invokespecial 3, 3) := by decide +kernel
theorem dX3_init_4 : decode cX3_init 4 = .ok (.aload_n 0, 1) := by decide +kernel
theorem dX3_init_5 : decode cX3_init 5 = .ok (.new 9, 3) := by decide +kernel
theorem dX3_init_8 : decode cX3_init 8 = .ok (.dup, 1) := by decide +kernel
theorem dX3_init_9 : decode cX3_init 9 = .ok (.bipush 70, 2) := by decide +kernel
theorem dX3_init_11 : decode cX3_init 11 = .ok (.invokespecial 11, 3) := by decide +kernel
theorem dX3_init_14 : decode cX3_init 14 = .ok (.putfield 14, 3) := by decide +kernel
theorem dX3_init_17 : decode cX3_init 17 = .ok (.aload_n 0, 1) := by decide +kernel
theorem dX3_init_18 : decode cX3_init 18 = .ok (.new 9, 3) := by decide +kernel
theorem dX3_init_21 : decode cX3_init 21 = .ok (.dup, 1) := by decide +kernel
theorem dX3_init_22 : decode cX3_init 22 = .ok (.bipush 70, 2) := by decide +kernel
theorem dX3_init_24 : decode cX3_init 24 = .ok (.invokespecial 11, 3) := by decide +kernel
theorem dX3_init_27 : decode cX3_init 27 = .ok (.putfield 20, 3) := by decide +kernel
theorem dX3_init_30 : decode cX3_init 30 = .ok (.aload_n 0, 1) := by decide +kernel
theorem dX3_init_31 : decode cX3_init 31 = .ok (.new 9, 3) := by decide +kernel
theorem dX3_init_34 : decode cX3_init 34 = .ok (.dup, 1) := by decide +kernel
theorem dX3_init_35 : decode cX3_init 35 = .ok (.bipush 70, 2) := by decide +kernel
theorem dX3_init_37 : decode cX3_init 37 = .ok (.invokespecial 11, 3) := by decide +kernel
theorem dX3_init_40 : decode cX3_init 40 = .ok (.putfield 23, 3) := by decide +kernel
theorem dX3_init_43 : decode cX3_init 43 = .ok (.return_, 1) := by decide +kernel
theorem dX3_commands_0 : decode cX3_commands 0 = .ok (.aload_n 0, 1) := by decide +kernel
theorem dX3_commands_1 : decode cX3_commands 1 = .ok (.getfield 14, 3) := by decide +kernel
theorem dX3_commands_4 : decode cX3_commands 4 = .ok (.invokevirtual 26, 3) := by decide +kernel
theorem dX3_commands_7 : decode cX3_commands 7 = .ok (.ireturn, 1) := by decide +kernel
theorem dX3_kindOf_0 : decode cX3_kindOf 0 = .ok (.aload_n 0, 1) := by decide +kernel
theorem dX3_kindOf_1 : decode cX3_kindOf 1 = .ok (.getfield 14, 3) := by decide +kernel
theorem dX3_kindOf_4 : decode cX3_kindOf 4 = .ok (.iload_n 1, 1) := by decide +kernel
theorem dX3_kindOf_5 : decode cX3_kindOf 5 = .ok (.invokevirtual 30, 3) := by decide +kernel
theorem dX3_kindOf_8 : decode cX3_kindOf 8 = .ok (.ireturn, 1) := by decide +kernel
theorem dX3_firstOf_0 : decode cX3_firstOf 0 = .ok (.aload_n 0, 1) := by decide +kernel
theorem dX3_firstOf_1 : decode cX3_firstOf 1 = .ok (.getfield 20, 3) := by decide +kernel
theorem dX3_firstOf_4 : decode cX3_firstOf 4 = .ok (.iload_n 1, 1) := by decide +kernel
theorem dX3_firstOf_5 : decode cX3_firstOf 5 = .ok (.invokevirtual 30, 3) := by decide +kernel
theorem dX3_firstOf_8 : decode cX3_firstOf 8 = .ok (.ireturn, 1) := by decide +kernel
theorem dX3_secondOf_0 : decode cX3_secondOf 0 = .ok (.aload_n 0, 1) := by decide +kernel
theorem dX3_secondOf_1 : decode cX3_secondOf 1 = .ok (.getfield 23, 3) := by decide +kernel
theorem dX3_secondOf_4 : decode cX3_secondOf 4 = .ok (.iload_n 1, 1) := by decide +kernel
theorem dX3_secondOf_5 : decode cX3_secondOf 5 = .ok (.invokevirtual 30, 3) := by decide +kernel
theorem dX3_secondOf_8 : decode cX3_secondOf 8 = .ok (.ireturn, 1) := by decide +kernel
theorem dX3_faultIn_0 : decode cX3_faultIn 0 = .ok (.aload_n 0, 1) := by decide +kernel
theorem dX3_faultIn_1 : decode cX3_faultIn 1 = .ok (.getfield 14, 3) := by decide +kernel
theorem dX3_faultIn_4 : decode cX3_faultIn 4 = .ok (.invokevirtual 34, 3) := by decide +kernel
theorem dX3_faultIn_7 : decode cX3_faultIn 7 = .ok (.aload_n 0, 1) := by decide +kernel
theorem dX3_faultIn_8 : decode cX3_faultIn 8 = .ok (.getfield 20, 3) := by decide +kernel
theorem dX3_faultIn_11 : decode cX3_faultIn 11 = .ok (.invokevirtual 34, 3) := by decide +kernel
theorem dX3_faultIn_14 : decode cX3_faultIn 14 = .ok (.aload_n 0, 1) := by decide +kernel
theorem dX3_faultIn_15 : decode cX3_faultIn 15 = .ok (.getfield 23, 3) := by decide +kernel
theorem dX3_faultIn_18 : decode cX3_faultIn 18 = .ok (.invokevirtual 34, 3) := by decide +kernel
theorem dX3_faultIn_21 : decode cX3_faultIn 21 = .ok (.aload_n 0, 1) := by decide +kernel
theorem dX3_faultIn_22 : decode cX3_faultIn 22 = .ok (.iconst 0, 1) := by decide +kernel
theorem dX3_faultIn_23 : decode cX3_faultIn 23 = .ok (.putfield 37, 3) := by decide +kernel
theorem dX3_faultIn_26 : decode cX3_faultIn 26 = .ok (.aload_n 1, 1) := by decide +kernel
theorem dX3_faultIn_27 : decode cX3_faultIn 27 = .ok (.ifnonnull 8, 3) := by decide +kernel
theorem dX3_faultIn_30 : decode cX3_faultIn 30 = .ok (.aload_n 0, 1) := by decide +kernel
theorem dX3_faultIn_31 : decode cX3_faultIn 31 = .ok (.getfield 37, 3) := by decide +kernel
theorem dX3_faultIn_34 : decode cX3_faultIn 34 = .ok (.ireturn, 1) := by decide +kernel
theorem dX3_faultIn_35 : decode cX3_faultIn 35 = .ok (.iconst 0, 1) := by decide +kernel
theorem dX3_faultIn_36 : decode cX3_faultIn 36 = .ok (.istore_n 2, 1) := by decide +kernel
theorem dX3_faultIn_37 : decode cX3_faultIn 37 = .ok (.iload_n 2, 1) := by decide +kernel
theorem dX3_faultIn_38 : decode cX3_faultIn 38 = .ok (.bipush 70, 2) := by decide +kernel
theorem dX3_faultIn_40 : decode cX3_faultIn 40 = .ok (.if_icmp .ge 58, 3) := by decide +kernel
theorem dX3_faultIn_43 : decode cX3_faultIn 43 = .ok (.aload_n 0, 1) := by decide +kernel
theorem dX3_faultIn_44 : decode cX3_faultIn 44 = .ok (.aload_n 1, 1) := by decide +kernel
theorem dX3_faultIn_45 : decode cX3_faultIn 45 = .ok (.invokevirtual 41, 3) := by decide +kernel
theorem dX3_faultIn_48 : decode cX3_faultIn 48 = .ok (.ifCond .eq 50, 3) := by decide +kernel
theorem dX3_faultIn_51 : decode cX3_faultIn 51 = .ok (.aload_n 0, 1) := by decide +kernel
theorem dX3_faultIn_52 : decode cX3_faultIn 52 = .ok (.getfield 37, 3) := by decide +kernel
theorem dX3_faultIn_55 : decode cX3_faultIn 55 = .ok (.aload_n 1, 1) := by decide +kernel
theorem dX3_faultIn_56 : decode cX3_faultIn 56 = .ok (.invokevirtual 26, 3) := by decide +kernel
theorem dX3_faultIn_59 : decode cX3_faultIn 59 = .ok (.if_icmp .ne 5, 3) := by decide +kernel
theorem dX3_faultIn_62 : decode cX3_faultIn 62 = .ok (.iconst (-1), 1) := by decide +kernel
theorem dX3_faultIn_63 : decode cX3_faultIn 63 = .ok (.ireturn, 1) := by decide +kernel
theorem dX3_faultIn_64 : decode cX3_faultIn 64 = .ok (.aload_n 1, 1) := by decide +kernel
theorem dX3_faultIn_65 : decode cX3_faultIn 65 = .ok (.aload_n 0, 1) := by decide +kernel
theorem dX3_faultIn_66 : decode cX3_faultIn 66 = .ok (.getfield 37, 3) := by decide +kernel
theorem dX3_faultIn_69 : decode cX3_faultIn 69 = .ok (.invokevirtual 30, 3) := by decide +kernel
theorem dX3_faultIn_72 : decode cX3_faultIn 72 = .ok (.bipush 59, 2) := by decide +kernel
theorem dX3_faultIn_74 : decode cX3_faultIn 74 = .ok (.if_icmp .eq 8, 3) := by decide +kernel
theorem dX3_faultIn_77 : decode cX3_faultIn 77 = .ok (.aload_n 0, 1) := by decide +kernel
theorem dX3_faultIn_78 : decode cX3_faultIn 78 = .ok (.getfield 37, 3) := by decide +kernel
theorem dX3_faultIn_81 : decode cX3_faultIn 81 = .ok (.ireturn, 1) := by decide +kernel
theorem dX3_faultIn_82 : decode cX3_faultIn 82 = .ok (.aload_n 0, 1) := by decide +kernel
theorem dX3_faultIn_83 : decode cX3_faultIn 83 = .ok (.dup, 1) := by decide +kernel
theorem dX3_faultIn_84 : decode cX3_faultIn 84 = .ok (.getfield 37, 3) := by decide +kernel
theorem dX3_faultIn_87 : decode cX3_faultIn 87 = .ok (.iconst 1, 1) := by decide +kernel
theorem dX3_faultIn_88 : decode cX3_faultIn 88 = .ok (.iadd, 1) := by decide +kernel
theorem dX3_faultIn_89 : decode cX3_faultIn 89 = .ok (.putfield 37, 3) := by decide +kernel
theorem dX3_faultIn_92 : decode cX3_faultIn 92 = .ok (.iinc 2 1, 3) := by decide +kernel
theorem dX3_faultIn_95 : decode cX3_faultIn 95 = .ok (.goto (-58), 3) := by decide +kernel
theorem dX3_faultIn_98 : decode cX3_faultIn 98 = .ok (.aload_n 0, 1) := by decide +kernel
theorem dX3_faultIn_99 : decode cX3_faultIn 99 = .ok (.getfield 37, 3) := by decide +kernel
theorem dX3_faultIn_102 : decode cX3_faultIn 102 = .ok (.ireturn, 1) := by decide +kernel
theorem dX3_takeCommand_0 : decode cX3_takeCommand 0 = .ok (.aload_n 1, 1) := by decide +kernel
theorem dX3_takeCommand_1 : decode cX3_takeCommand 1 = .ok (.aload_n 0, 1) := by decide +kernel
theorem dX3_takeCommand_2 : decode cX3_takeCommand 2 = .ok (.getfield 37, 3) := by decide +kernel
theorem dX3_takeCommand_5 : decode cX3_takeCommand 5 = .ok (.invokevirtual 30, 3) := by decide +kernel
theorem dX3_takeCommand_8 : decode cX3_takeCommand 8 = .ok (.istore_n 2, 1) := by decide +kernel
theorem dX3_takeCommand_9 : decode cX3_takeCommand 9 = .ok (.iload_n 2, 1) := by decide +kernel
theorem dX3_takeCommand_10 : decode cX3_takeCommand 10 = .ok (.invokestatic 45, 3) := by decide +kernel
theorem dX3_takeCommand_13 : decode cX3_takeCommand 13 = .ok (.ifCond .ne 5, 3) := by decide +kernel
theorem dX3_takeCommand_16 : decode cX3_takeCommand 16 = .ok (.iconst 0, 1) := by decide +kernel
theorem dX3_takeCommand_17 : decode cX3_takeCommand 17 = .ok (.ireturn, 1) := by decide +kernel
theorem dX3_takeCommand_18 : decode cX3_takeCommand 18 = .ok (.aload_n 0, 1) := by decide +kernel
theorem dX3_takeCommand_19 : decode cX3_takeCommand 19 = .ok (.dup, 1) := by decide +kernel
theorem dX3_takeCommand_20 : decode cX3_takeCommand 20 = .ok (.getfield 37, 3) := by decide +kernel
theorem dX3_takeCommand_23 : decode cX3_takeCommand 23 = .ok (.iconst 1, 1) := by decide +kernel
theorem dX3_takeCommand_24 : decode cX3_takeCommand 24 = .ok (.iadd, 1) := by decide +kernel
theorem dX3_takeCommand_25 : decode cX3_takeCommand 25 = .ok (.putfield 37, 3) := by decide +kernel
theorem dX3_takeCommand_28 : decode cX3_takeCommand 28 = .ok (.aload_n 0, 1) := by decide +kernel
theorem dX3_takeCommand_29 : decode cX3_takeCommand 29 = .ok (.aload_n 1, 1) := by decide +kernel
theorem dX3_takeCommand_30 : decode cX3_takeCommand 30 = .ok (.invokevirtual 49, 3) := by decide +kernel
theorem dX3_takeCommand_33 : decode cX3_takeCommand 33 = .ok (.ifCond .ne 5, 3) := by decide +kernel
theorem dX3_takeCommand_36 : decode cX3_takeCommand 36 = .ok (.iconst 0, 1) := by decide +kernel
theorem dX3_takeCommand_37 : decode cX3_takeCommand 37 = .ok (.ireturn, 1) := by decide +kernel
theorem dX3_takeCommand_38 : decode cX3_takeCommand 38 = .ok (.aload_n 0, 1) := by decide +kernel
theorem dX3_takeCommand_39 : decode cX3_takeCommand 39 = .ok (.getfield 52, 3) := by decide +kernel
theorem dX3_takeCommand_42 : decode cX3_takeCommand 42 = .ok (.istore_n 3, 1) := by decide +kernel
theorem dX3_takeCommand_43 : decode cX3_takeCommand 43 = .ok (.iconst 0, 1) := by decide +kernel
theorem dX3_takeCommand_44 : decode cX3_takeCommand 44 = .ok (.istore 4, 2) := by decide +kernel
theorem dX3_takeCommand_46 : decode cX3_takeCommand 46 = .ok (.iload_n 2, 1) := by decide +kernel
theorem dX3_takeCommand_47 : decode cX3_takeCommand 47 = .ok (.bipush 98, 2) := by decide +kernel
theorem dX3_takeCommand_49 : decode cX3_takeCommand 49 = .ok (.if_icmp .eq 71, 3) := by decide +kernel
theorem dX3_takeCommand_52 : decode cX3_takeCommand 52 = .ok (.iload_n 2, 1) := by decide +kernel
theorem dX3_takeCommand_53 : decode cX3_takeCommand 53 = .ok (.bipush 116, 2) := by decide +kernel
theorem dX3_takeCommand_55 : decode cX3_takeCommand 55 = .ok (.if_icmp .eq 65, 3) := by decide +kernel
theorem dX3_takeCommand_58 : decode cX3_takeCommand 58 = .ok (.aload_n 1, 1) := by decide +kernel
theorem dX3_takeCommand_59 : decode cX3_takeCommand 59 = .ok (.aload_n 0, 1) := by decide +kernel
theorem dX3_takeCommand_60 : decode cX3_takeCommand 60 = .ok (.getfield 37, 3) := by decide +kernel
theorem dX3_takeCommand_63 : decode cX3_takeCommand 63 = .ok (.invokevirtual 30, 3) := by decide +kernel
theorem dX3_takeCommand_66 : decode cX3_takeCommand 66 = .ok (.istore 5, 2) := by decide +kernel
theorem dX3_takeCommand_68 : decode cX3_takeCommand 68 = .ok (.iload_n 2, 1) := by decide +kernel
theorem dX3_takeCommand_69 : decode cX3_takeCommand 69 = .ok (.iload 5, 2) := by decide +kernel
theorem dX3_takeCommand_71 : decode cX3_takeCommand 71 = .ok (.invokestatic 55, 3) := by decide +kernel
theorem dX3_takeCommand_74 : decode cX3_takeCommand 74 = .ok (.ifCond .ne 5, 3) := by decide +kernel
theorem dX3_takeCommand_77 : decode cX3_takeCommand 77 = .ok (.iconst 0, 1) := by decide +kernel
theorem dX3_takeCommand_78 : decode cX3_takeCommand 78 = .ok (.ireturn, 1) := by decide +kernel
theorem dX3_takeCommand_79 : decode cX3_takeCommand 79 = .ok (.aload_n 0, 1) := by decide +kernel
theorem dX3_takeCommand_80 : decode cX3_takeCommand 80 = .ok (.dup, 1) := by decide +kernel
theorem dX3_takeCommand_81 : decode cX3_takeCommand 81 = .ok (.getfield 37, 3) := by decide +kernel
theorem dX3_takeCommand_84 : decode cX3_takeCommand 84 = .ok (.iconst 1, 1) := by decide +kernel
theorem dX3_takeCommand_85 : decode cX3_takeCommand 85 = .ok (.iadd, 1) := by decide +kernel
theorem dX3_takeCommand_86 : decode cX3_takeCommand 86 = .ok (.putfield 37, 3) := by decide +kernel
theorem dX3_takeCommand_89 : decode cX3_takeCommand 89 = .ok (.aload_n 0, 1) := by decide +kernel
theorem dX3_takeCommand_90 : decode cX3_takeCommand 90 = .ok (.aload_n 1, 1) := by decide +kernel
theorem dX3_takeCommand_91 : decode cX3_takeCommand 91 = .ok (.invokevirtual 49, 3) := by decide +kernel
theorem dX3_takeCommand_94 : decode cX3_takeCommand 94 = .ok (.ifCond .ne 5, 3) := by decide +kernel
theorem dX3_takeCommand_97 : decode cX3_takeCommand 97 = .ok (.iconst 0, 1) := by decide +kernel
theorem dX3_takeCommand_98 : decode cX3_takeCommand 98 = .ok (.ireturn, 1) := by decide +kernel
theorem dX3_takeCommand_99 : decode cX3_takeCommand 99 = .ok (.iload 5, 2) := by decide +kernel
theorem dX3_takeCommand_101 : decode cX3_takeCommand 101 = .ok (.bipush 45, 2) := by decide +kernel
theorem dX3_takeCommand_103 : decode cX3_takeCommand 103 = .ok (.if_icmp .ne 11, 3) := by decide +kernel
theorem dX3_takeCommand_106 : decode cX3_takeCommand 106 = .ok (.aload_n 0, 1) := by decide +kernel
theorem dX3_takeCommand_107 : decode cX3_takeCommand 107 = .ok (.getfield 52, 3) := by decide +kernel
theorem dX3_takeCommand_110 : decode cX3_takeCommand 110 = .ok (.ineg, 1) := by decide +kernel
theorem dX3_takeCommand_111 : decode cX3_takeCommand 111 = .ok (.goto 7, 3) := by decide +kernel
theorem dX3_takeCommand_114 : decode cX3_takeCommand 114 = .ok (.aload_n 0, 1) := by decide +kernel
theorem dX3_takeCommand_115 : decode cX3_takeCommand 115 = .ok (.getfield 52, 3) := by decide +kernel
theorem dX3_takeCommand_118 : decode cX3_takeCommand 118 = .ok (.istore 4, 2) := by decide +kernel
theorem dX3_takeCommand_120 : decode cX3_takeCommand 120 = .ok (.aload_n 0, 1) := by decide +kernel
theorem dX3_takeCommand_121 : decode cX3_takeCommand 121 = .ok (.getfield 14, 3) := by decide +kernel
theorem dX3_takeCommand_124 : decode cX3_takeCommand 124 = .ok (.iload_n 2, 1) := by decide +kernel
theorem dX3_takeCommand_125 : decode cX3_takeCommand 125 = .ok (.invokevirtual 59, 3) := by decide +kernel
theorem dX3_takeCommand_128 : decode cX3_takeCommand 128 = .ok (.aload_n 0, 1) := by decide +kernel
theorem dX3_takeCommand_129 : decode cX3_takeCommand 129 = .ok (.getfield 20, 3) := by decide +kernel
theorem dX3_takeCommand_132 : decode cX3_takeCommand 132 = .ok (.iload_n 3, 1) := by decide +kernel
theorem dX3_takeCommand_133 : decode cX3_takeCommand 133 = .ok (.invokevirtual 59, 3) := by decide +kernel
theorem dX3_takeCommand_136 : decode cX3_takeCommand 136 = .ok (.aload_n 0, 1) := by decide +kernel
theorem dX3_takeCommand_137 : decode cX3_takeCommand 137 = .ok (.getfield 23, 3) := by decide +kernel
theorem dX3_takeCommand_140 : decode cX3_takeCommand 140 = .ok (.iload 4, 2) := by decide +kernel
theorem dX3_takeCommand_142 : decode cX3_takeCommand 142 = .ok (.invokevirtual 59, 3) := by decide +kernel
theorem dX3_takeCommand_145 : decode cX3_takeCommand 145 = .ok (.iconst 1, 1) := by decide +kernel
theorem dX3_takeCommand_146 : decode cX3_takeCommand 146 = .ok (.ireturn, 1) := by decide +kernel
theorem dX3_takeNumber_0 : decode cX3_takeNumber 0 = .ok (.aload_n 1, 1) := by decide +kernel
theorem dX3_takeNumber_1 : decode cX3_takeNumber 1 = .ok (.aload_n 0, 1) := by decide +kernel
theorem dX3_takeNumber_2 : decode cX3_takeNumber 2 = .ok (.getfield 37, 3) := by decide +kernel
theorem dX3_takeNumber_5 : decode cX3_takeNumber 5 = .ok (.invokevirtual 30, 3) := by decide +kernel
theorem dX3_takeNumber_8 : decode cX3_takeNumber 8 = .ok (.invokestatic 62, 3) := by decide +kernel
theorem dX3_takeNumber_11 : decode cX3_takeNumber 11 = .ok (.ifCond .ne 5, 3) := by decide +kernel
theorem dX3_takeNumber_14 : decode cX3_takeNumber 14 = .ok (.iconst 0, 1) := by decide +kernel
theorem dX3_takeNumber_15 : decode cX3_takeNumber 15 = .ok (.ireturn, 1) := by decide +kernel
theorem dX3_takeNumber_16 : decode cX3_takeNumber 16 = .ok (.aload_n 0, 1) := by decide +kernel
theorem dX3_takeNumber_17 : decode cX3_takeNumber 17 = .ok (.aload_n 1, 1) := by decide +kernel
theorem dX3_takeNumber_18 : decode cX3_takeNumber 18 = .ok (.aload_n 0, 1) := by decide +kernel
theorem dX3_takeNumber_19 : decode cX3_takeNumber 19 = .ok (.getfield 37, 3) := by decide +kernel
theorem dX3_takeNumber_22 : decode cX3_takeNumber 22 = .ok (.invokevirtual 30, 3) := by decide +kernel
theorem dX3_takeNumber_25 : decode cX3_takeNumber 25 = .ok (.bipush 48, 2) := by decide +kernel
theorem dX3_takeNumber_27 : decode cX3_takeNumber 27 = .ok (.isub, 1) := by decide +kernel
theorem dX3_takeNumber_28 : decode cX3_takeNumber 28 = .ok (.putfield 52, 3) := by decide +kernel
theorem dX3_takeNumber_31 : decode cX3_takeNumber 31 = .ok (.aload_n 0, 1) := by decide +kernel
theorem dX3_takeNumber_32 : decode cX3_takeNumber 32 = .ok (.dup, 1) := by decide +kernel
theorem dX3_takeNumber_33 : decode cX3_takeNumber 33 = .ok (.getfield 37, 3) := by decide +kernel
theorem dX3_takeNumber_36 : decode cX3_takeNumber 36 = .ok (.iconst 1, 1) := by decide +kernel
theorem dX3_takeNumber_37 : decode cX3_takeNumber 37 = .ok (.iadd, 1) := by decide +kernel
theorem dX3_takeNumber_38 : decode cX3_takeNumber 38 = .ok (.putfield 37, 3) := by decide +kernel
theorem dX3_takeNumber_41 : decode cX3_takeNumber 41 = .ok (.aload_n 1, 1) := by decide +kernel
theorem dX3_takeNumber_42 : decode cX3_takeNumber 42 = .ok (.aload_n 0, 1) := by decide +kernel
theorem dX3_takeNumber_43 : decode cX3_takeNumber 43 = .ok (.getfield 37, 3) := by decide +kernel
theorem dX3_takeNumber_46 : decode cX3_takeNumber 46 = .ok (.invokevirtual 30, 3) := by decide +kernel
theorem dX3_takeNumber_49 : decode cX3_takeNumber 49 = .ok (.invokestatic 62, 3) := by decide +kernel
theorem dX3_takeNumber_52 : decode cX3_takeNumber 52 = .ok (.ifCond .eq 36, 3) := by decide +kernel
theorem dX3_takeNumber_55 : decode cX3_takeNumber 55 = .ok (.aload_n 0, 1) := by decide +kernel
theorem dX3_takeNumber_56 : decode cX3_takeNumber 56 = .ok (.bipush 10, 2) := by decide +kernel
theorem dX3_takeNumber_58 : decode cX3_takeNumber 58 = .ok (.aload_n 0, 1) := by decide +kernel
theorem dX3_takeNumber_59 : decode cX3_takeNumber 59 = .ok (.getfield 52, 3) := by decide +kernel
theorem dX3_takeNumber_62 : decode cX3_takeNumber 62 = .ok (.imul, 1) := by decide +kernel
theorem dX3_takeNumber_63 : decode cX3_takeNumber 63 = .ok (.aload_n 1, 1) := by decide +kernel
theorem dX3_takeNumber_64 : decode cX3_takeNumber 64 = .ok (.aload_n 0, 1) := by decide +kernel
theorem dX3_takeNumber_65 : decode cX3_takeNumber 65 = .ok (.getfield 37, 3) := by decide +kernel
theorem dX3_takeNumber_68 : decode cX3_takeNumber 68 = .ok (.invokevirtual 30, 3) := by decide +kernel
theorem dX3_takeNumber_71 : decode cX3_takeNumber 71 = .ok (.iadd, 1) := by decide +kernel
theorem dX3_takeNumber_72 : decode cX3_takeNumber 72 = .ok (.bipush 48, 2) := by decide +kernel
theorem dX3_takeNumber_74 : decode cX3_takeNumber 74 = .ok (.isub, 1) := by decide +kernel
theorem dX3_takeNumber_75 : decode cX3_takeNumber 75 = .ok (.putfield 52, 3) := by decide +kernel
theorem dX3_takeNumber_78 : decode cX3_takeNumber 78 = .ok (.aload_n 0, 1) := by decide +kernel
theorem dX3_takeNumber_79 : decode cX3_takeNumber 79 = .ok (.dup, 1) := by decide +kernel
theorem dX3_takeNumber_80 : decode cX3_takeNumber 80 = .ok (.getfield 37, 3) := by decide +kernel
theorem dX3_takeNumber_83 : decode cX3_takeNumber 83 = .ok (.iconst 1, 1) := by decide +kernel
theorem dX3_takeNumber_84 : decode cX3_takeNumber 84 = .ok (.iadd, 1) := by decide +kernel
theorem dX3_takeNumber_85 : decode cX3_takeNumber 85 = .ok (.putfield 37, 3) := by decide +kernel
theorem dX3_takeNumber_88 : decode cX3_takeNumber 88 = .ok (.iconst 1, 1) := by decide +kernel
theorem dX3_takeNumber_89 : decode cX3_takeNumber 89 = .ok (.ireturn, 1) := by decide +kernel
theorem dX3_isKind_0 : decode cX3_isKind 0 = .ok (.iload_n 0, 1) := by decide +kernel
theorem dX3_isKind_1 : decode cX3_isKind 1 = .ok (.bipush 98, 2) := by decide +kernel
theorem dX3_isKind_3 : decode cX3_isKind 3 = .ok (.if_icmp .eq 33, 3) := by decide +kernel
theorem dX3_isKind_6 : decode cX3_isKind 6 = .ok (.iload_n 0, 1) := by decide +kernel
theorem dX3_isKind_7 : decode cX3_isKind 7 = .ok (.bipush 119, 2) := by decide +kernel
theorem dX3_isKind_9 : decode cX3_isKind 9 = .ok (.if_icmp .eq 27, 3) := by decide +kernel
theorem dX3_isKind_12 : decode cX3_isKind 12 = .ok (.iload_n 0, 1) := by decide +kernel
theorem dX3_isKind_13 : decode cX3_isKind 13 = .ok (.bipush 106, 2) := by decide +kernel
theorem dX3_isKind_15 : decode cX3_isKind 15 = .ok (.if_icmp .eq 21, 3) := by decide +kernel
theorem dX3_isKind_18 : decode cX3_isKind 18 = .ok (.iload_n 0, 1) := by decide +kernel
theorem dX3_isKind_19 : decode cX3_isKind 19 = .ok (.bipush 99, 2) := by decide +kernel
theorem dX3_isKind_21 : decode cX3_isKind 21 = .ok (.if_icmp .eq 15, 3) := by decide +kernel
theorem dX3_isKind_24 : decode cX3_isKind 24 = .ok (.iload_n 0, 1) := by decide +kernel
theorem dX3_isKind_25 : decode cX3_isKind 25 = .ok (.bipush 116, 2) := by decide +kernel
theorem dX3_isKind_27 : decode cX3_isKind 27 = .ok (.if_icmp .eq 9, 3) := by decide +kernel
theorem dX3_isKind_30 : decode cX3_isKind 30 = .ok (.iload_n 0, 1) := by decide +kernel
theorem dX3_isKind_31 : decode cX3_isKind 31 = .ok (.bipush 117, 2) := by decide +kernel
theorem dX3_isKind_33 : decode cX3_isKind 33 = .ok (.if_icmp .ne 7, 3) := by decide +kernel
theorem dX3_isKind_36 : decode cX3_isKind 36 = .ok (.iconst 1, 1) := by decide +kernel
theorem dX3_isKind_37 : decode cX3_isKind 37 = .ok (.goto 4, 3) := by decide +kernel
theorem dX3_isKind_40 : decode cX3_isKind 40 = .ok (.iconst 0, 1) := by decide +kernel
theorem dX3_isKind_41 : decode cX3_isKind 41 = .ok (.ireturn, 1) := by decide +kernel
theorem dX3_fits_0 : decode cX3_fits 0 = .ok (.iload_n 0, 1) := by decide +kernel
theorem dX3_fits_1 : decode cX3_fits 1 = .ok (.lookupswitch 57 #[(117, 39), (119, 27)], 27) := by decide +kernel
theorem dX3_fits_28 : decode cX3_fits 28 = .ok (.iload_n 1, 1) := by decide +kernel
theorem dX3_fits_29 : decode cX3_fits 29 = .ok (.bipush 61, 2) := by decide +kernel
theorem dX3_fits_31 : decode cX3_fits 31 = .ok (.if_icmp .ne 7, 3) := by decide +kernel
theorem dX3_fits_34 : decode cX3_fits 34 = .ok (.iconst 1, 1) := by decide +kernel
theorem dX3_fits_35 : decode cX3_fits 35 = .ok (.goto 4, 3) := by decide +kernel
theorem dX3_fits_38 : decode cX3_fits 38 = .ok (.iconst 0, 1) := by decide +kernel
theorem dX3_fits_39 : decode cX3_fits 39 = .ok (.ireturn, 1) := by decide +kernel
theorem dX3_fits_40 : decode cX3_fits 40 = .ok (.iload_n 1, 1) := by decide +kernel
theorem dX3_fits_41 : decode cX3_fits 41 = .ok (.bipush 43, 2) := by decide +kernel
theorem dX3_fits_43 : decode cX3_fits 43 = .ok (.if_icmp .eq 9, 3) := by decide +kernel
theorem dX3_fits_46 : decode cX3_fits 46 = .ok (.iload_n 1, 1) := by decide +kernel
theorem dX3_fits_47 : decode cX3_fits 47 = .ok (.bipush 45, 2) := by decide +kernel
theorem dX3_fits_49 : decode cX3_fits 49 = .ok (.if_icmp .ne 7, 3) := by decide +kernel
theorem dX3_fits_52 : decode cX3_fits 52 = .ok (.iconst 1, 1) := by decide +kernel
theorem dX3_fits_53 : decode cX3_fits 53 = .ok (.goto 4, 3) := by decide +kernel
theorem dX3_fits_56 : decode cX3_fits 56 = .ok (.iconst 0, 1) := by decide +kernel
theorem dX3_fits_57 : decode cX3_fits 57 = .ok (.ireturn, 1) := by decide +kernel
theorem dX3_fits_58 : decode cX3_fits 58 = .ok (.iload_n 1, 1) := by decide +kernel
theorem dX3_fits_59 : decode cX3_fits 59 = .ok (.bipush 126, 2) := by decide +kernel
theorem dX3_fits_61 : decode cX3_fits 61 = .ok (.if_icmp .ne 7, 3) := by decide +kernel
theorem dX3_fits_64 : decode cX3_fits 64 = .ok (.iconst 1, 1) := by decide +kernel
theorem dX3_fits_65 : decode cX3_fits 65 = .ok (.goto 4, 3) := by decide +kernel
theorem dX3_fits_68 : decode cX3_fits 68 = .ok (.iconst 0, 1) := by decide +kernel
theorem dX3_fits_69 : decode cX3_fits 69 = .ok (.ireturn, 1) := by decide +kernel
theorem dX3_isDigit_0 : decode cX3_isDigit 0 = .ok (.iload_n 0, 1) := by decide +kernel
theorem dX3_isDigit_1 : decode cX3_isDigit 1 = .ok (.bipush 48, 2) := by decide +kernel
theorem dX3_isDigit_3 : decode cX3_isDigit 3 = .ok (.if_icmp .lt 13, 3) := by decide +kernel
theorem dX3_isDigit_6 : decode cX3_isDigit 6 = .ok (.iload_n 0, 1) := by decide +kernel
theorem dX3_isDigit_7 : decode cX3_isDigit 7 = .ok (.bipush 57, 2) := by decide +kernel
theorem dX3_isDigit_9 : decode cX3_isDigit 9 = .ok (.if_icmp .gt 7, 3) := by decide +kernel
theorem dX3_isDigit_12 : decode cX3_isDigit 12 = .ok (.iconst 1, 1) := by decide +kernel
theorem dX3_isDigit_13 : decode cX3_isDigit 13 = .ok (.goto 4, 3) := by decide +kernel
theorem dX3_isDigit_16 : decode cX3_isDigit 16 = .ok (.iconst 0, 1) := by decide +kernel
theorem dX3_isDigit_17 : decode cX3_isDigit 17 = .ok (.ireturn, 1) := by decide +kernel
theorem dX4_init_0 : decode cX4_init 0 = .ok (.aload_n 0, 1) := by decide +kernel
theorem dX4_init_1 : decode cX4_init 1 = .ok (.invokespecial 3, 3) := by decide +kernel
theorem dX4_init_4 : decode cX4_init 4 = .ok (.aload_n 0, 1) := by decide +kernel
theorem dX4_init_5 : decode cX4_init 5 = .ok (.new 9, 3) := by decide +kernel
theorem dX4_init_8 : decode cX4_init 8 = .ok (.dup, 1) := by decide +kernel
theorem dX4_init_9 : decode cX4_init 9 = .ok (.invokespecial 11, 3) := by decide +kernel
theorem dX4_init_12 : decode cX4_init 12 = .ok (.putfield 12, 3) := by decide +kernel
theorem dX4_init_15 : decode cX4_init 15 = .ok (.aload_n 0, 1) := by decide +kernel
theorem dX4_init_16 : decode cX4_init 16 = .ok (.new 9, 3) := by decide +kernel
theorem dX4_init_19 : decode cX4_init 19 = .ok (.dup, 1) := by decide +kernel
theorem dX4_init_20 : decode cX4_init 20 = .ok (.invokespecial 11, 3) := by decide +kernel
theorem dX4_init_23 : decode cX4_init 23 = .ok (.putfield 16, 3) := by decide +kernel
theorem dX4_init_26 : decode cX4_init 26 = .ok (.aload_n 0, 1) := by decide +kernel
theorem dX4_init_27 : decode cX4_init 27 = .ok (.new 19, 3) := by decide +kernel
theorem dX4_init_30 : decode cX4_init 30 = .ok (.dup, 1) := by decide +kernel
theorem dX4_init_31 : decode cX4_init 31 = .ok (.invokespecial 21, 3) := by decide +kernel
theorem dX4_init_34 : decode cX4_init 34 = .ok (.putfield 22, 3) := by decide +kernel
theorem dX4_init_37 : decode cX4_init 37 = .ok (.aload_n 0, 1) := by decide +kernel
theorem dX4_init_38 : decode cX4_init 38 = .ok (.new 26, 3) := by decide +kernel
theorem dX4_init_41 : decode cX4_init 41 = .ok (.dup, 1) := by decide +kernel
theorem dX4_init_42 : decode cX4_init 42 = .ok (.bipush 69, 2) := by decide +kernel
theorem dX4_init_44 : decode cX4_init 44 = .ok (.invokespecial 28, 3) := by decide +kernel
theorem dX4_init_47 : decode cX4_init 47 = .ok (.putfield 31, 3) := by decide +kernel
theorem dX4_init_50 : decode cX4_init 50 = .ok (.aload_n 0, 1) := by decide +kernel
theorem dX4_init_51 : decode cX4_init 51 = .ok (.new 26, 3) := by decide +kernel
theorem dX4_init_54 : decode cX4_init 54 = .ok (.dup, 1) := by decide +kernel
theorem dX4_init_55 : decode cX4_init 55 = .ok (.bipush 70, 2) := by decide +kernel
theorem dX4_init_57 : decode cX4_init 57 = .ok (.invokespecial 28, 3) := by decide +kernel
theorem dX4_init_60 : decode cX4_init 60 = .ok (.putfield 35, 3) := by decide +kernel
theorem dX4_init_63 : decode cX4_init 63 = .ok (.aload_n 0, 1) := by decide +kernel
theorem dX4_init_64 : decode cX4_init 64 = .ok (.new 38, 3) := by decide +kernel
theorem dX4_init_67 : decode cX4_init 67 = .ok (.dup, 1) := by decide +kernel
theorem dX4_init_68 : decode cX4_init 68 = .ok (.invokespecial 40, 3) := by decide +kernel
theorem dX4_init_71 : decode cX4_init 71 = .ok (.putfield 41, 3) := by decide +kernel
theorem dX4_init_74 : decode cX4_init 74 = .ok (.aload_n 0, 1) := by decide +kernel
theorem dX4_init_75 : decode cX4_init 75 = .ok (.bipush (-4), 2) := by decide +kernel
theorem dX4_init_77 : decode cX4_init 77 = .ok (.putfield 45, 3) := by decide +kernel
theorem dX4_init_80 : decode cX4_init 80 = .ok (.return_, 1) := by decide +kernel
theorem dX4_bank_0 : decode cX4_bank 0 = .ok (.aload_n 0, 1) := by decide +kernel
theorem dX4_bank_1 : decode cX4_bank 1 = .ok (.getfield 22, 3) := by decide +kernel
theorem dX4_bank_4 : decode cX4_bank 4 = .ok (.aload_n 0, 1) := by decide +kernel
theorem dX4_bank_5 : decode cX4_bank 5 = .ok (.getfield 12, 3) := by decide +kernel
theorem dX4_bank_8 : decode cX4_bank 8 = .ok (.invokevirtual 49, 3) := by decide +kernel
theorem dX4_bank_11 : decode cX4_bank 11 = .ok (.aload_n 0, 1) := by decide +kernel
theorem dX4_bank_12 : decode cX4_bank 12 = .ok (.aload_n 0, 1) := by decide +kernel
theorem dX4_bank_13 : decode cX4_bank 13 = .ok (.iload_n 1, 1) := by decide +kernel
theorem dX4_bank_14 : decode cX4_bank 14 = .ok (.invokevirtual 53, 3) := by decide +kernel
theorem dX4_bank_17 : decode cX4_bank 17 = .ok (.invokevirtual 57, 3) := by decide +kernel
theorem dX4_bank_20 : decode cX4_bank 20 = .ok (.ireturn, 1) := by decide +kernel
theorem dX4_weigh_0 : decode cX4_weigh 0 = .ok (.aload_n 0, 1) := by decide +kernel
theorem dX4_weigh_1 : decode cX4_weigh 1 = .ok (.getfield 22, 3) := by decide +kernel
theorem dX4_weigh_4 : decode cX4_weigh 4 = .ok (.aload_n 0, 1) := by decide +kernel
theorem dX4_weigh_5 : decode cX4_weigh 5 = .ok (.getfield 12, 3) := by decide +kernel
theorem dX4_weigh_8 : decode cX4_weigh 8 = .ok (.invokevirtual 49, 3) := by decide +kernel
theorem dX4_weigh_11 : decode cX4_weigh 11 = .ok (.aload_n 0, 1) := by decide +kernel
theorem dX4_weigh_12 : decode cX4_weigh 12 = .ok (.aload_n 0, 1) := by decide +kernel
theorem dX4_weigh_13 : decode cX4_weigh 13 = .ok (.iload_n 1, 1) := by decide +kernel
theorem dX4_weigh_14 : decode cX4_weigh 14 = .ok (.iload_n 2, 1) := by decide +kernel
theorem dX4_weigh_15 : decode cX4_weigh 15 = .ok (.invokevirtual 60, 3) := by decide +kernel
theorem dX4_weigh_18 : decode cX4_weigh 18 = .ok (.invokevirtual 57, 3) := by decide +kernel
theorem dX4_weigh_21 : decode cX4_weigh 21 = .ok (.ireturn, 1) := by decide +kernel
theorem dX4_join_0 : decode cX4_join 0 = .ok (.aload_n 0, 1) := by decide +kernel
theorem dX4_join_1 : decode cX4_join 1 = .ok (.getfield 22, 3) := by decide +kernel
theorem dX4_join_4 : decode cX4_join 4 = .ok (.aload_n 0, 1) := by decide +kernel
theorem dX4_join_5 : decode cX4_join 5 = .ok (.getfield 12, 3) := by decide +kernel
theorem dX4_join_8 : decode cX4_join 8 = .ok (.invokevirtual 49, 3) := by decide +kernel
theorem dX4_join_11 : decode cX4_join 11 = .ok (.aload_n 0, 1) := by decide +kernel
theorem dX4_join_12 : decode cX4_join 12 = .ok (.aload_n 0, 1) := by decide +kernel
theorem dX4_join_13 : decode cX4_join 13 = .ok (.iload_n 1, 1) := by decide +kernel
theorem dX4_join_14 : decode cX4_join 14 = .ok (.iload_n 2, 1) := by decide +kernel
theorem dX4_join_15 : decode cX4_join 15 = .ok (.invokevirtual 64, 3) := by decide +kernel
theorem dX4_join_18 : decode cX4_join 18 = .ok (.invokevirtual 57, 3) := by decide +kernel
theorem dX4_join_21 : decode cX4_join 21 = .ok (.ireturn, 1) := by decide +kernel
theorem dX4_cut_0 : decode cX4_cut 0 = .ok (.aload_n 0, 1) := by decide +kernel
theorem dX4_cut_1 : decode cX4_cut 1 = .ok (.getfield 22, 3) := by decide +kernel
theorem dX4_cut_4 : decode cX4_cut 4 = .ok (.aload_n 0, 1) := by decide +kernel
theorem dX4_cut_5 : decode cX4_cut 5 = .ok (.getfield 12, 3) := by decide +kernel
theorem dX4_cut_8 : decode cX4_cut 8 = .ok (.invokevirtual 49, 3) := by decide +kernel
theorem dX4_cut_11 : decode cX4_cut 11 = .ok (.aload_n 0, 1) := by decide +kernel
theorem dX4_cut_12 : decode cX4_cut 12 = .ok (.aload_n 0, 1) := by decide +kernel
theorem dX4_cut_13 : decode cX4_cut 13 = .ok (.iload_n 1, 1) := by decide +kernel
theorem dX4_cut_14 : decode cX4_cut 14 = .ok (.iload_n 2, 1) := by decide +kernel
theorem dX4_cut_15 : decode cX4_cut 15 = .ok (.invokevirtual 67, 3) := by decide +kernel
theorem dX4_cut_18 : decode cX4_cut 18 = .ok (.invokevirtual 57, 3) := by decide +kernel
theorem dX4_cut_21 : decode cX4_cut 21 = .ok (.ireturn, 1) := by decide +kernel
theorem dX4_turn_0 : decode cX4_turn 0 = .ok (.aload_n 0, 1) := by decide +kernel
theorem dX4_turn_1 : decode cX4_turn 1 = .ok (.getfield 22, 3) := by decide +kernel
theorem dX4_turn_4 : decode cX4_turn 4 = .ok (.aload_n 0, 1) := by decide +kernel
theorem dX4_turn_5 : decode cX4_turn 5 = .ok (.getfield 12, 3) := by decide +kernel
theorem dX4_turn_8 : decode cX4_turn 8 = .ok (.invokevirtual 49, 3) := by decide +kernel
theorem dX4_turn_11 : decode cX4_turn 11 = .ok (.aload_n 0, 1) := by decide +kernel
theorem dX4_turn_12 : decode cX4_turn 12 = .ok (.aload_n 0, 1) := by decide +kernel
theorem dX4_turn_13 : decode cX4_turn 13 = .ok (.iload_n 1, 1) := by decide +kernel
theorem dX4_turn_14 : decode cX4_turn 14 = .ok (.invokevirtual 70, 3) := by decide +kernel
theorem dX4_turn_17 : decode cX4_turn 17 = .ok (.invokevirtual 57, 3) := by decide +kernel
theorem dX4_turn_20 : decode cX4_turn 20 = .ok (.ireturn, 1) := by decide +kernel
theorem dX4_rise_0 : decode cX4_rise 0 = .ok (.aload_n 0, 1) := by decide +kernel
theorem dX4_rise_1 : decode cX4_rise 1 = .ok (.getfield 22, 3) := by decide +kernel
theorem dX4_rise_4 : decode cX4_rise 4 = .ok (.aload_n 0, 1) := by decide +kernel
theorem dX4_rise_5 : decode cX4_rise 5 = .ok (.getfield 12, 3) := by decide +kernel
theorem dX4_rise_8 : decode cX4_rise 8 = .ok (.invokevirtual 49, 3) := by decide +kernel
theorem dX4_rise_11 : decode cX4_rise 11 = .ok (.aload_n 0, 1) := by decide +kernel
theorem dX4_rise_12 : decode cX4_rise 12 = .ok (.aload_n 0, 1) := by decide +kernel
theorem dX4_rise_13 : decode cX4_rise 13 = .ok (.iload_n 1, 1) := by decide +kernel
theorem dX4_rise_14 : decode cX4_rise 14 = .ok (.iload_n 2, 1) := by decide +kernel
theorem dX4_rise_15 : decode cX4_rise 15 = .ok (.invokevirtual 73, 3) := by decide +kernel
theorem dX4_rise_18 : decode cX4_rise 18 = .ok (.invokevirtual 57, 3) := by decide +kernel
theorem dX4_rise_21 : decode cX4_rise 21 = .ok (.ireturn, 1) := by decide +kernel
theorem dX4_areJoined_0 : decode cX4_areJoined 0 = .ok (.aload_n 0, 1) := by decide +kernel
theorem dX4_areJoined_1 : decode cX4_areJoined 1 = .ok (.iload_n 1, 1) := by decide +kernel
theorem dX4_areJoined_2 : decode cX4_areJoined 2 = .ok (.iload_n 2, 1) := by decide +kernel
theorem dX4_areJoined_3 : decode cX4_areJoined 3 = .ok (.invokevirtual 76, 3) := by decide +kernel
theorem dX4_areJoined_6 : decode cX4_areJoined 6 = .ok (.ifCond .ne 5, 3) := by decide +kernel
theorem dX4_areJoined_9 : decode cX4_areJoined 9 = .ok (.iconst (-1), 1) := by decide +kernel
theorem dX4_areJoined_10 : decode cX4_areJoined 10 = .ok (.ireturn, 1) := by decide +kernel
theorem dX4_areJoined_11 : decode cX4_areJoined 11 = .ok (.aload_n 0, 1) := by decide +kernel
theorem dX4_areJoined_12 : decode cX4_areJoined 12 = .ok (.getfield 12, 3) := by decide +kernel
theorem dX4_areJoined_15 : decode cX4_areJoined 15 = .ok (.iload_n 1, 1) := by decide +kernel
theorem dX4_areJoined_16 : decode cX4_areJoined 16 = .ok (.iload_n 2, 1) := by decide +kernel
theorem dX4_areJoined_17 : decode cX4_areJoined 17 = .ok (.invokevirtual 80, 3) := by decide +kernel
theorem dX4_areJoined_20 : decode cX4_areJoined 20 = .ok (.ifCond .eq 7, 3) := by decide +kernel
theorem dX4_areJoined_23 : decode cX4_areJoined 23 = .ok (.iconst 1, 1) := by decide +kernel
theorem dX4_areJoined_24 : decode cX4_areJoined 24 = .ok (.goto 4, 3) := by decide +kernel
theorem dX4_areJoined_27 : decode cX4_areJoined 27 = .ok (.iconst 0, 1) := by decide +kernel
theorem dX4_areJoined_28 : decode cX4_areJoined 28 = .ok (.ireturn, 1) := by decide +kernel
theorem dX4_areJoinedAgain_0 : decode cX4_areJoinedAgain 0 = .ok (.aload_n 0, 1) := by decide +kernel
theorem dX4_areJoinedAgain_1 : decode cX4_areJoinedAgain 1 = .ok (.iload_n 1, 1) := by decide +kernel
theorem dX4_areJoinedAgain_2 : decode cX4_areJoinedAgain 2 = .ok (.iload_n 2, 1) := by decide +kernel
theorem dX4_areJoinedAgain_3 : decode cX4_areJoinedAgain 3 = .ok (.invokevirtual 76, 3) := by decide +kernel
theorem dX4_areJoinedAgain_6 : decode cX4_areJoinedAgain 6 = .ok (.ifCond .ne 5, 3) := by decide +kernel
theorem dX4_areJoinedAgain_9 : decode cX4_areJoinedAgain 9 = .ok (.iconst (-1), 1) := by decide +kernel
theorem dX4_areJoinedAgain_10 : decode cX4_areJoinedAgain 10 = .ok (.ireturn, 1) := by decide +kernel
theorem dX4_areJoinedAgain_11 : decode cX4_areJoinedAgain 11 = .ok (.aload_n 0, 1) := by decide +kernel
theorem dX4_areJoinedAgain_12 : decode cX4_areJoinedAgain 12 = .ok (.getfield 12, 3) := by decide +kernel
theorem dX4_areJoinedAgain_15 : decode cX4_areJoinedAgain 15 = .ok (.iload_n 1, 1) := by decide +kernel
theorem dX4_areJoinedAgain_16 : decode cX4_areJoinedAgain 16 = .ok (.iconst 0, 1) := by decide +kernel
theorem dX4_areJoinedAgain_17 : decode cX4_areJoinedAgain 17 = .ok (.invokevirtual 83, 3) := by decide +kernel
theorem dX4_areJoinedAgain_20 : decode cX4_areJoinedAgain 20 = .ok (.iload_n 2, 1) := by decide +kernel
theorem dX4_areJoinedAgain_21 : decode cX4_areJoinedAgain 21 = .ok (.invokestatic 86, 3) := by decide +kernel
theorem dX4_areJoinedAgain_24 : decode cX4_areJoinedAgain 24 = .ok (.iand, 1) := by decide +kernel
theorem dX4_areJoinedAgain_25 : decode cX4_areJoinedAgain 25 = .ok (.ifCond .eq 7, 3) := by decide +kernel
theorem dX4_areJoinedAgain_28 : decode cX4_areJoinedAgain 28 = .ok (.iconst 1, 1) := by decide +kernel
theorem dX4_areJoinedAgain_29 : decode cX4_areJoinedAgain 29 = .ok (.goto 4, 3) := by decide +kernel
theorem dX4_areJoinedAgain_32 : decode cX4_areJoinedAgain 32 = .ok (.iconst 0, 1) := by decide +kernel
theorem dX4_areJoinedAgain_33 : decode cX4_areJoinedAgain 33 = .ok (.ireturn, 1) := by decide +kernel
theorem dX4_bankOf_0 : decode cX4_bankOf 0 = .ok (.aload_n 0, 1) := by decide +kernel
theorem dX4_bankOf_1 : decode cX4_bankOf 1 = .ok (.getfield 12, 3) := by decide +kernel
theorem dX4_bankOf_4 : decode cX4_bankOf 4 = .ok (.iload_n 1, 1) := by decide +kernel
theorem dX4_bankOf_5 : decode cX4_bankOf 5 = .ok (.invokevirtual 89, 3) := by decide +kernel
theorem dX4_bankOf_8 : decode cX4_bankOf 8 = .ok (.ifCond .ne 5, 3) := by decide +kernel
theorem dX4_bankOf_11 : decode cX4_bankOf 11 = .ok (.iconst (-1), 1) := by decide +kernel
theorem dX4_bankOf_12 : decode cX4_bankOf 12 = .ok (.ireturn, 1) := by decide +kernel
theorem dX4_bankOf_13 : decode cX4_bankOf 13 = .ok (.iload_n 2, 1) := by decide +kernel
theorem dX4_bankOf_14 : decode cX4_bankOf 14 = .ok (.tableswitch 152 0 8 #[50, 59, 68, 77, 90, 103, 115, 124, 136], 50) := by decide +kernel
theorem dX4_bankOf_64 : decode cX4_bankOf 64 = .ok (.aload_n 0, 1) := by decide +kernel
theorem dX4_bankOf_65 : decode cX4_bankOf 65 = .ok (.getfield 12, 3) := by decide +kernel
theorem dX4_bankOf_68 : decode cX4_bankOf 68 = .ok (.iload_n 1, 1) := by decide +kernel
theorem dX4_bankOf_69 : decode cX4_bankOf 69 = .ok (.invokevirtual 93, 3) := by decide +kernel
theorem dX4_bankOf_72 : decode cX4_bankOf 72 = .ok (.ireturn, 1) := by decide +kernel
theorem dX4_bankOf_73 : decode cX4_bankOf 73 = .ok (.aload_n 0, 1) := by decide +kernel
theorem dX4_bankOf_74 : decode cX4_bankOf 74 = .ok (.getfield 12, 3) := by decide +kernel
theorem dX4_bankOf_77 : decode cX4_bankOf 77 = .ok (.iload_n 1, 1) := by decide +kernel
theorem dX4_bankOf_78 : decode cX4_bankOf 78 = .ok (.invokevirtual 96, 3) := by decide +kernel
theorem dX4_bankOf_81 : decode cX4_bankOf 81 = .ok (.ireturn, 1) := by decide +kernel
theorem dX4_bankOf_82 : decode cX4_bankOf 82 = .ok (.aload_n 0, 1) := by decide +kernel
theorem dX4_bankOf_83 : decode cX4_bankOf 83 = .ok (.getfield 12, 3) := by decide +kernel
theorem dX4_bankOf_86 : decode cX4_bankOf 86 = .ok (.iload_n 1, 1) := by decide +kernel
theorem dX4_bankOf_87 : decode cX4_bankOf 87 = .ok (.invokevirtual 99, 3) := by decide +kernel
theorem dX4_bankOf_90 : decode cX4_bankOf 90 = .ok (.ireturn, 1) := by decide +kernel
theorem dX4_bankOf_91 : decode cX4_bankOf 91 = .ok (.aload_n 0, 1) := by decide +kernel
theorem dX4_bankOf_92 : decode cX4_bankOf 92 = .ok (.getfield 12, 3) := by decide +kernel
theorem dX4_bankOf_95 : decode cX4_bankOf 95 = .ok (.iload_n 1, 1) := by decide +kernel
theorem dX4_bankOf_96 : decode cX4_bankOf 96 = .ok (.invokevirtual 102, 3) := by decide +kernel
theorem dX4_bankOf_99 : decode cX4_bankOf 99 = .ok (.iload_n 1, 1) := by decide +kernel
theorem dX4_bankOf_100 : decode cX4_bankOf 100 = .ok (.invokevirtual 106, 3) := by decide +kernel
theorem dX4_bankOf_103 : decode cX4_bankOf 103 = .ok (.ireturn, 1) := by decide +kernel
theorem dX4_bankOf_104 : decode cX4_bankOf 104 = .ok (.aload_n 0, 1) := by decide +kernel
theorem dX4_bankOf_105 : decode cX4_bankOf 105 = .ok (.getfield 12, 3) := by decide +kernel
theorem dX4_bankOf_108 : decode cX4_bankOf 108 = .ok (.iload_n 1, 1) := by decide +kernel
theorem dX4_bankOf_109 : decode cX4_bankOf 109 = .ok (.invokevirtual 102, 3) := by decide +kernel
theorem dX4_bankOf_112 : decode cX4_bankOf 112 = .ok (.iload_n 1, 1) := by decide +kernel
theorem dX4_bankOf_113 : decode cX4_bankOf 113 = .ok (.invokevirtual 109, 3) := by decide +kernel
theorem dX4_bankOf_116 : decode cX4_bankOf 116 = .ok (.ireturn, 1) := by decide +kernel
theorem dX4_bankOf_117 : decode cX4_bankOf 117 = .ok (.aload_n 0, 1) := by decide +kernel
theorem dX4_bankOf_118 : decode cX4_bankOf 118 = .ok (.getfield 12, 3) := by decide +kernel
theorem dX4_bankOf_121 : decode cX4_bankOf 121 = .ok (.iload_n 1, 1) := by decide +kernel
theorem dX4_bankOf_122 : decode cX4_bankOf 122 = .ok (.invokevirtual 112, 3) := by decide +kernel
theorem dX4_bankOf_125 : decode cX4_bankOf 125 = .ok (.invokestatic 115, 3) := by decide +kernel
theorem dX4_bankOf_128 : decode cX4_bankOf 128 = .ok (.ireturn, 1) := by decide +kernel
theorem dX4_bankOf_129 : decode cX4_bankOf 129 = .ok (.aload_n 0, 1) := by decide +kernel
theorem dX4_bankOf_130 : decode cX4_bankOf 130 = .ok (.getfield 12, 3) := by decide +kernel
theorem dX4_bankOf_133 : decode cX4_bankOf 133 = .ok (.iload_n 1, 1) := by decide +kernel
theorem dX4_bankOf_134 : decode cX4_bankOf 134 = .ok (.invokevirtual 120, 3) := by decide +kernel
theorem dX4_bankOf_137 : decode cX4_bankOf 137 = .ok (.ireturn, 1) := by decide +kernel
theorem dX4_bankOf_138 : decode cX4_bankOf 138 = .ok (.aload_n 0, 1) := by decide +kernel
theorem dX4_bankOf_139 : decode cX4_bankOf 139 = .ok (.getfield 12, 3) := by decide +kernel
theorem dX4_bankOf_142 : decode cX4_bankOf 142 = .ok (.iload_n 1, 1) := by decide +kernel
theorem dX4_bankOf_143 : decode cX4_bankOf 143 = .ok (.invokevirtual 123, 3) := by decide +kernel
theorem dX4_bankOf_146 : decode cX4_bankOf 146 = .ok (.invokestatic 115, 3) := by decide +kernel
theorem dX4_bankOf_149 : decode cX4_bankOf 149 = .ok (.ireturn, 1) := by decide +kernel
theorem dX4_bankOf_150 : decode cX4_bankOf 150 = .ok (.aload_n 0, 1) := by decide +kernel
theorem dX4_bankOf_151 : decode cX4_bankOf 151 = .ok (.getfield 12, 3) := by decide +kernel
theorem dX4_bankOf_154 : decode cX4_bankOf 154 = .ok (.aload_n 0, 1) := by decide +kernel
theorem dX4_bankOf_155 : decode cX4_bankOf 155 = .ok (.getfield 12, 3) := by decide +kernel
theorem dX4_bankOf_158 : decode cX4_bankOf 158 = .ok (.iload_n 1, 1) := by decide +kernel
theorem dX4_bankOf_159 : decode cX4_bankOf 159 = .ok (.invokevirtual 123, 3) := by decide +kernel
theorem dX4_bankOf_162 : decode cX4_bankOf 162 = .ok (.invokevirtual 126, 3) := by decide +kernel
theorem dX4_bankOf_165 : decode cX4_bankOf 165 = .ok (.ireturn, 1) := by decide +kernel
theorem dX4_bankOf_166 : decode cX4_bankOf 166 = .ok (.bipush (-2), 2) := by decide +kernel
theorem dX4_bankOf_168 : decode cX4_bankOf 168 = .ok (.ireturn, 1) := by decide +kernel
theorem dX4_belowAgain_0 : decode cX4_belowAgain 0 = .ok (.aload_n 0, 1) := by decide +kernel
theorem dX4_belowAgain_1 : decode cX4_belowAgain 1 = .ok (.getfield 12, 3) := by decide +kernel
theorem dX4_belowAgain_4 : decode cX4_belowAgain 4 = .ok (.iload_n 1, 1) := by decide +kernel
theorem dX4_belowAgain_5 : decode cX4_belowAgain 5 = .ok (.invokevirtual 89, 3) := by decide +kernel
theorem dX4_belowAgain_8 : decode cX4_belowAgain 8 = .ok (.ifCond .ne 5, 3) := by decide +kernel
theorem dX4_belowAgain_11 : decode cX4_belowAgain 11 = .ok (.iconst (-1), 1) := by decide +kernel
theorem dX4_belowAgain_12 : decode cX4_belowAgain 12 = .ok (.ireturn, 1) := by decide +kernel
theorem dX4_belowAgain_13 : decode cX4_belowAgain 13 = .ok (.aload_n 0, 1) := by decide +kernel
theorem dX4_belowAgain_14 : decode cX4_belowAgain 14 = .ok (.getfield 12, 3) := by decide +kernel
theorem dX4_belowAgain_17 : decode cX4_belowAgain 17 = .ok (.aload_n 0, 1) := by decide +kernel
theorem dX4_belowAgain_18 : decode cX4_belowAgain 18 = .ok (.getfield 12, 3) := by decide +kernel
theorem dX4_belowAgain_21 : decode cX4_belowAgain 21 = .ok (.iload_n 1, 1) := by decide +kernel
theorem dX4_belowAgain_22 : decode cX4_belowAgain 22 = .ok (.invokevirtual 129, 3) := by decide +kernel
theorem dX4_belowAgain_25 : decode cX4_belowAgain 25 = .ok (.invokevirtual 126, 3) := by decide +kernel
theorem dX4_belowAgain_28 : decode cX4_belowAgain 28 = .ok (.ireturn, 1) := by decide +kernel
theorem dX4_inRound_0 : decode cX4_inRound 0 = .ok (.aload_n 0, 1) := by decide +kernel
theorem dX4_inRound_1 : decode cX4_inRound 1 = .ok (.getfield 12, 3) := by decide +kernel
theorem dX4_inRound_4 : decode cX4_inRound 4 = .ok (.iload_n 1, 1) := by decide +kernel
theorem dX4_inRound_5 : decode cX4_inRound 5 = .ok (.invokevirtual 89, 3) := by decide +kernel
theorem dX4_inRound_8 : decode cX4_inRound 8 = .ok (.ifCond .ne 5, 3) := by decide +kernel
theorem dX4_inRound_11 : decode cX4_inRound 11 = .ok (.iconst (-1), 1) := by decide +kernel
theorem dX4_inRound_12 : decode cX4_inRound 12 = .ok (.ireturn, 1) := by decide +kernel
theorem dX4_inRound_13 : decode cX4_inRound 13 = .ok (.aload_n 0, 1) := by decide +kernel
theorem dX4_inRound_14 : decode cX4_inRound 14 = .ok (.getfield 12, 3) := by decide +kernel
theorem dX4_inRound_17 : decode cX4_inRound 17 = .ok (.iload_n 1, 1) := by decide +kernel
theorem dX4_inRound_18 : decode cX4_inRound 18 = .ok (.invokevirtual 102, 3) := by decide +kernel
theorem dX4_inRound_21 : decode cX4_inRound 21 = .ok (.iload_n 2, 1) := by decide +kernel
theorem dX4_inRound_22 : decode cX4_inRound 22 = .ok (.invokevirtual 132, 3) := by decide +kernel
theorem dX4_inRound_25 : decode cX4_inRound 25 = .ok (.ireturn, 1) := by decide +kernel
theorem dX4_partOf_0 : decode cX4_partOf 0 = .ok (.aload_n 0, 1) := by decide +kernel
theorem dX4_partOf_1 : decode cX4_partOf 1 = .ok (.getfield 12, 3) := by decide +kernel
theorem dX4_partOf_4 : decode cX4_partOf 4 = .ok (.iload_n 1, 1) := by decide +kernel
theorem dX4_partOf_5 : decode cX4_partOf 5 = .ok (.invokevirtual 89, 3) := by decide +kernel
theorem dX4_partOf_8 : decode cX4_partOf 8 = .ok (.ifCond .ne 5, 3) := by decide +kernel
theorem dX4_partOf_11 : decode cX4_partOf 11 = .ok (.iconst (-1), 1) := by decide +kernel
theorem dX4_partOf_12 : decode cX4_partOf 12 = .ok (.ireturn, 1) := by decide +kernel
theorem dX4_partOf_13 : decode cX4_partOf 13 = .ok (.iload_n 2, 1) := by decide +kernel
theorem dX4_partOf_14 : decode cX4_partOf 14 = .ok (.tableswitch 99 0 4 #[34, 46, 58, 74, 90], 34) := by decide +kernel
theorem dX4_partOf_48 : decode cX4_partOf 48 = .ok (.aload_n 0, 1) := by decide +kernel
theorem dX4_partOf_49 : decode cX4_partOf 49 = .ok (.getfield 12, 3) := by decide +kernel
theorem dX4_partOf_52 : decode cX4_partOf 52 = .ok (.iload_n 1, 1) := by decide +kernel
theorem dX4_partOf_53 : decode cX4_partOf 53 = .ok (.invokevirtual 135, 3) := by decide +kernel
theorem dX4_partOf_56 : decode cX4_partOf 56 = .ok (.invokestatic 115, 3) := by decide +kernel
theorem dX4_partOf_59 : decode cX4_partOf 59 = .ok (.ireturn, 1) := by decide +kernel
theorem dX4_partOf_60 : decode cX4_partOf 60 = .ok (.aload_n 0, 1) := by decide +kernel
theorem dX4_partOf_61 : decode cX4_partOf 61 = .ok (.getfield 12, 3) := by decide +kernel
theorem dX4_partOf_64 : decode cX4_partOf 64 = .ok (.iload_n 1, 1) := by decide +kernel
theorem dX4_partOf_65 : decode cX4_partOf 65 = .ok (.invokevirtual 102, 3) := by decide +kernel
theorem dX4_partOf_68 : decode cX4_partOf 68 = .ok (.invokevirtual 138, 3) := by decide +kernel
theorem dX4_partOf_71 : decode cX4_partOf 71 = .ok (.ireturn, 1) := by decide +kernel
theorem dX4_partOf_72 : decode cX4_partOf 72 = .ok (.aload_n 0, 1) := by decide +kernel
theorem dX4_partOf_73 : decode cX4_partOf 73 = .ok (.getfield 12, 3) := by decide +kernel
theorem dX4_partOf_76 : decode cX4_partOf 76 = .ok (.aload_n 0, 1) := by decide +kernel
theorem dX4_partOf_77 : decode cX4_partOf 77 = .ok (.getfield 12, 3) := by decide +kernel
theorem dX4_partOf_80 : decode cX4_partOf 80 = .ok (.iload_n 1, 1) := by decide +kernel
theorem dX4_partOf_81 : decode cX4_partOf 81 = .ok (.invokevirtual 135, 3) := by decide +kernel
theorem dX4_partOf_84 : decode cX4_partOf 84 = .ok (.invokevirtual 126, 3) := by decide +kernel
theorem dX4_partOf_87 : decode cX4_partOf 87 = .ok (.ireturn, 1) := by decide +kernel
theorem dX4_partOf_88 : decode cX4_partOf 88 = .ok (.aload_n 0, 1) := by decide +kernel
theorem dX4_partOf_89 : decode cX4_partOf 89 = .ok (.getfield 12, 3) := by decide +kernel
theorem dX4_partOf_92 : decode cX4_partOf 92 = .ok (.aload_n 0, 1) := by decide +kernel
theorem dX4_partOf_93 : decode cX4_partOf 93 = .ok (.getfield 12, 3) := by decide +kernel
theorem dX4_partOf_96 : decode cX4_partOf 96 = .ok (.iload_n 1, 1) := by decide +kernel
theorem dX4_partOf_97 : decode cX4_partOf 97 = .ok (.invokevirtual 135, 3) := by decide +kernel
theorem dX4_partOf_100 : decode cX4_partOf 100 = .ok (.invokevirtual 142, 3) := by decide +kernel
theorem dX4_partOf_103 : decode cX4_partOf 103 = .ok (.ireturn, 1) := by decide +kernel
theorem dX4_partOf_104 : decode cX4_partOf 104 = .ok (.aload_n 0, 1) := by decide +kernel
theorem dX4_partOf_105 : decode cX4_partOf 105 = .ok (.getfield 12, 3) := by decide +kernel
theorem dX4_partOf_108 : decode cX4_partOf 108 = .ok (.iload_n 1, 1) := by decide +kernel
theorem dX4_partOf_109 : decode cX4_partOf 109 = .ok (.invokevirtual 145, 3) := by decide +kernel
theorem dX4_partOf_112 : decode cX4_partOf 112 = .ok (.ireturn, 1) := by decide +kernel
theorem dX4_partOf_113 : decode cX4_partOf 113 = .ok (.bipush (-2), 2) := by decide +kernel
theorem dX4_partOf_115 : decode cX4_partOf 115 = .ok (.ireturn, 1) := by decide +kernel
theorem dX4_isRope_0 : decode cX4_isRope 0 = .ok (.aload_n 0, 1) := by decide +kernel
theorem dX4_isRope_1 : decode cX4_isRope 1 = .ok (.iload_n 1, 1) := by decide +kernel
theorem dX4_isRope_2 : decode cX4_isRope 2 = .ok (.iload_n 2, 1) := by decide +kernel
theorem dX4_isRope_3 : decode cX4_isRope 3 = .ok (.invokevirtual 76, 3) := by decide +kernel
theorem dX4_isRope_6 : decode cX4_isRope 6 = .ok (.ifCond .ne 5, 3) := by decide +kernel
theorem dX4_isRope_9 : decode cX4_isRope 9 = .ok (.iconst (-1), 1) := by decide +kernel
theorem dX4_isRope_10 : decode cX4_isRope 10 = .ok (.ireturn, 1) := by decide +kernel
theorem dX4_isRope_11 : decode cX4_isRope 11 = .ok (.aload_n 0, 1) := by decide +kernel
theorem dX4_isRope_12 : decode cX4_isRope 12 = .ok (.getfield 12, 3) := by decide +kernel
theorem dX4_isRope_15 : decode cX4_isRope 15 = .ok (.iload_n 1, 1) := by decide +kernel
theorem dX4_isRope_16 : decode cX4_isRope 16 = .ok (.iload_n 2, 1) := by decide +kernel
theorem dX4_isRope_17 : decode cX4_isRope 17 = .ok (.invokevirtual 148, 3) := by decide +kernel
theorem dX4_isRope_20 : decode cX4_isRope 20 = .ok (.ifCond .eq 7, 3) := by decide +kernel
theorem dX4_isRope_23 : decode cX4_isRope 23 = .ok (.iconst 1, 1) := by decide +kernel
theorem dX4_isRope_24 : decode cX4_isRope 24 = .ok (.goto 4, 3) := by decide +kernel
theorem dX4_isRope_27 : decode cX4_isRope 27 = .ok (.iconst 0, 1) := by decide +kernel
theorem dX4_isRope_28 : decode cX4_isRope 28 = .ok (.ireturn, 1) := by decide +kernel
theorem dX4_isBelow_0 : decode cX4_isBelow 0 = .ok (.aload_n 0, 1) := by decide +kernel
theorem dX4_isBelow_1 : decode cX4_isBelow 1 = .ok (.iload_n 1, 1) := by decide +kernel
theorem dX4_isBelow_2 : decode cX4_isBelow 2 = .ok (.iload_n 2, 1) := by decide +kernel
theorem dX4_isBelow_3 : decode cX4_isBelow 3 = .ok (.invokevirtual 76, 3) := by decide +kernel
theorem dX4_isBelow_6 : decode cX4_isBelow 6 = .ok (.ifCond .ne 5, 3) := by decide +kernel
theorem dX4_isBelow_9 : decode cX4_isBelow 9 = .ok (.iconst (-1), 1) := by decide +kernel
theorem dX4_isBelow_10 : decode cX4_isBelow 10 = .ok (.ireturn, 1) := by decide +kernel
theorem dX4_isBelow_11 : decode cX4_isBelow 11 = .ok (.aload_n 0, 1) := by decide +kernel
theorem dX4_isBelow_12 : decode cX4_isBelow 12 = .ok (.getfield 12, 3) := by decide +kernel
theorem dX4_isBelow_15 : decode cX4_isBelow 15 = .ok (.iload_n 1, 1) := by decide +kernel
theorem dX4_isBelow_16 : decode cX4_isBelow 16 = .ok (.invokevirtual 151, 3) := by decide +kernel
theorem dX4_isBelow_19 : decode cX4_isBelow 19 = .ok (.iload_n 2, 1) := by decide +kernel
theorem dX4_isBelow_20 : decode cX4_isBelow 20 = .ok (.invokestatic 86, 3) := by decide +kernel
theorem dX4_isBelow_23 : decode cX4_isBelow 23 = .ok (.iand, 1) := by decide +kernel
theorem dX4_isBelow_24 : decode cX4_isBelow 24 = .ok (.ifCond .eq 7, 3) := by decide +kernel
theorem dX4_isBelow_27 : decode cX4_isBelow 27 = .ok (.iconst 1, 1) := by decide +kernel
theorem dX4_isBelow_28 : decode cX4_isBelow 28 = .ok (.goto 4, 3) := by decide +kernel
theorem dX4_isBelow_31 : decode cX4_isBelow 31 = .ok (.iconst 0, 1) := by decide +kernel
theorem dX4_isBelow_32 : decode cX4_isBelow 32 = .ok (.ireturn, 1) := by decide +kernel
theorem dX4_meet_0 : decode cX4_meet 0 = .ok (.aload_n 0, 1) := by decide +kernel
theorem dX4_meet_1 : decode cX4_meet 1 = .ok (.iload_n 1, 1) := by decide +kernel
theorem dX4_meet_2 : decode cX4_meet 2 = .ok (.iload_n 2, 1) := by decide +kernel
theorem dX4_meet_3 : decode cX4_meet 3 = .ok (.invokevirtual 76, 3) := by decide +kernel
theorem dX4_meet_6 : decode cX4_meet 6 = .ok (.ifCond .ne 5, 3) := by decide +kernel
theorem dX4_meet_9 : decode cX4_meet 9 = .ok (.iconst (-1), 1) := by decide +kernel
theorem dX4_meet_10 : decode cX4_meet 10 = .ok (.ireturn, 1) := by decide +kernel
theorem dX4_meet_11 : decode cX4_meet 11 = .ok (.aload_n 0, 1) := by decide +kernel
theorem dX4_meet_12 : decode cX4_meet 12 = .ok (.getfield 12, 3) := by decide +kernel
theorem dX4_meet_15 : decode cX4_meet 15 = .ok (.iload_n 1, 1) := by decide +kernel
theorem dX4_meet_16 : decode cX4_meet 16 = .ok (.iload_n 2, 1) := by decide +kernel
theorem dX4_meet_17 : decode cX4_meet 17 = .ok (.invokevirtual 80, 3) := by decide +kernel
theorem dX4_meet_20 : decode cX4_meet 20 = .ok (.ifCond .eq 15, 3) := by decide +kernel
theorem dX4_meet_23 : decode cX4_meet 23 = .ok (.aload_n 0, 1) := by decide +kernel
theorem dX4_meet_24 : decode cX4_meet 24 = .ok (.getfield 12, 3) := by decide +kernel
theorem dX4_meet_27 : decode cX4_meet 27 = .ok (.iload_n 1, 1) := by decide +kernel
theorem dX4_meet_28 : decode cX4_meet 28 = .ok (.iload_n 2, 1) := by decide +kernel
theorem dX4_meet_29 : decode cX4_meet 29 = .ok (.invokevirtual 154, 3) := by decide +kernel
theorem dX4_meet_32 : decode cX4_meet 32 = .ok (.goto 5, 3) := by decide +kernel
theorem dX4_meet_35 : decode cX4_meet 35 = .ok (.bipush (-4), 2) := by decide +kernel
theorem dX4_meet_37 : decode cX4_meet 37 = .ok (.ireturn, 1) := by decide +kernel
theorem dX4_way_0 : decode cX4_way 0 = .ok (.aload_n 0, 1) := by decide +kernel
theorem dX4_way_1 : decode cX4_way 1 = .ok (.iload_n 1, 1) := by decide +kernel
theorem dX4_way_2 : decode cX4_way 2 = .ok (.iload_n 2, 1) := by decide +kernel
theorem dX4_way_3 : decode cX4_way 3 = .ok (.invokevirtual 76, 3) := by decide +kernel
theorem dX4_way_6 : decode cX4_way 6 = .ok (.ifCond .ne 5, 3) := by decide +kernel
theorem dX4_way_9 : decode cX4_way 9 = .ok (.iconst (-1), 1) := by decide +kernel
theorem dX4_way_10 : decode cX4_way 10 = .ok (.ireturn, 1) := by decide +kernel
theorem dX4_way_11 : decode cX4_way 11 = .ok (.aload_n 0, 1) := by decide +kernel
theorem dX4_way_12 : decode cX4_way 12 = .ok (.getfield 12, 3) := by decide +kernel
theorem dX4_way_15 : decode cX4_way 15 = .ok (.iload_n 1, 1) := by decide +kernel
theorem dX4_way_16 : decode cX4_way 16 = .ok (.iload_n 2, 1) := by decide +kernel
theorem dX4_way_17 : decode cX4_way 17 = .ok (.invokevirtual 80, 3) := by decide +kernel
theorem dX4_way_20 : decode cX4_way 20 = .ok (.ifCond .ne 6, 3) := by decide +kernel
theorem dX4_way_23 : decode cX4_way 23 = .ok (.bipush (-4), 2) := by decide +kernel
theorem dX4_way_25 : decode cX4_way 25 = .ok (.ireturn, 1) := by decide +kernel
theorem dX4_way_26 : decode cX4_way 26 = .ok (.aload_n 0, 1) := by decide +kernel
theorem dX4_way_27 : decode cX4_way 27 = .ok (.getfield 12, 3) := by decide +kernel
theorem dX4_way_30 : decode cX4_way 30 = .ok (.aload_n 0, 1) := by decide +kernel
theorem dX4_way_31 : decode cX4_way 31 = .ok (.getfield 12, 3) := by decide +kernel
theorem dX4_way_34 : decode cX4_way 34 = .ok (.iload_n 1, 1) := by decide +kernel
theorem dX4_way_35 : decode cX4_way 35 = .ok (.iload_n 2, 1) := by decide +kernel
theorem dX4_way_36 : decode cX4_way 36 = .ok (.invokevirtual 154, 3) := by decide +kernel
theorem dX4_way_39 : decode cX4_way 39 = .ok (.invokevirtual 99, 3) := by decide +kernel
theorem dX4_way_42 : decode cX4_way 42 = .ok (.istore 4, 2) := by decide +kernel
theorem dX4_way_44 : decode cX4_way 44 = .ok (.aload_n 0, 1) := by decide +kernel
theorem dX4_way_45 : decode cX4_way 45 = .ok (.getfield 12, 3) := by decide +kernel
theorem dX4_way_48 : decode cX4_way 48 = .ok (.iload_n 1, 1) := by decide +kernel
theorem dX4_way_49 : decode cX4_way 49 = .ok (.invokevirtual 99, 3) := by decide +kernel
theorem dX4_way_52 : decode cX4_way 52 = .ok (.iload 4, 2) := by decide +kernel
theorem dX4_way_54 : decode cX4_way 54 = .ok (.isub, 1) := by decide +kernel
theorem dX4_way_55 : decode cX4_way 55 = .ok (.istore 5, 2) := by decide +kernel
theorem dX4_way_57 : decode cX4_way 57 = .ok (.iload 5, 2) := by decide +kernel
theorem dX4_way_59 : decode cX4_way 59 = .ok (.aload_n 0, 1) := by decide +kernel
theorem dX4_way_60 : decode cX4_way 60 = .ok (.getfield 12, 3) := by decide +kernel
theorem dX4_way_63 : decode cX4_way 63 = .ok (.iload_n 2, 1) := by decide +kernel
theorem dX4_way_64 : decode cX4_way 64 = .ok (.invokevirtual 99, 3) := by decide +kernel
theorem dX4_way_67 : decode cX4_way 67 = .ok (.iadd, 1) := by decide +kernel
theorem dX4_way_68 : decode cX4_way 68 = .ok (.iload 4, 2) := by decide +kernel
theorem dX4_way_70 : decode cX4_way 70 = .ok (.isub, 1) := by decide +kernel
theorem dX4_way_71 : decode cX4_way 71 = .ok (.istore 6, 2) := by decide +kernel
theorem dX4_way_73 : decode cX4_way 73 = .ok (.iload_n 3, 1) := by decide +kernel
theorem dX4_way_74 : decode cX4_way 74 = .ok (.iconst (-1), 1) := by decide +kernel
theorem dX4_way_75 : decode cX4_way 75 = .ok (.if_icmp .ne 6, 3) := by decide +kernel
theorem dX4_way_78 : decode cX4_way 78 = .ok (.iload 6, 2) := by decide +kernel
theorem dX4_way_80 : decode cX4_way 80 = .ok (.ireturn, 1) := by decide +kernel
theorem dX4_way_81 : decode cX4_way 81 = .ok (.iload_n 3, 1) := by decide +kernel
theorem dX4_way_82 : decode cX4_way 82 = .ok (.ifCond .lt 9, 3) := by decide +kernel
theorem dX4_way_85 : decode cX4_way 85 = .ok (.iload_n 3, 1) := by decide +kernel
theorem dX4_way_86 : decode cX4_way 86 = .ok (.iload 6, 2) := by decide +kernel
theorem dX4_way_88 : decode cX4_way 88 = .ok (.if_icmp .le 5, 3) := by decide +kernel
theorem dX4_way_91 : decode cX4_way 91 = .ok (.iconst (-1), 1) := by decide +kernel
theorem dX4_way_92 : decode cX4_way 92 = .ok (.ireturn, 1) := by decide +kernel
theorem dX4_way_93 : decode cX4_way 93 = .ok (.iload_n 3, 1) := by decide +kernel
theorem dX4_way_94 : decode cX4_way 94 = .ok (.iload 5, 2) := by decide +kernel
theorem dX4_way_96 : decode cX4_way 96 = .ok (.if_icmp .gt 15, 3) := by decide +kernel
theorem dX4_way_99 : decode cX4_way 99 = .ok (.aload_n 0, 1) := by decide +kernel
theorem dX4_way_100 : decode cX4_way 100 = .ok (.getfield 12, 3) := by decide +kernel
theorem dX4_way_103 : decode cX4_way 103 = .ok (.iload_n 1, 1) := by decide +kernel
theorem dX4_way_104 : decode cX4_way 104 = .ok (.iload_n 3, 1) := by decide +kernel
theorem dX4_way_105 : decode cX4_way 105 = .ok (.invokevirtual 157, 3) := by decide +kernel
theorem dX4_way_108 : decode cX4_way 108 = .ok (.goto 15, 3) := by decide +kernel
theorem dX4_way_111 : decode cX4_way 111 = .ok (.aload_n 0, 1) := by decide +kernel
theorem dX4_way_112 : decode cX4_way 112 = .ok (.getfield 12, 3) := by decide +kernel
theorem dX4_way_115 : decode cX4_way 115 = .ok (.iload_n 2, 1) := by decide +kernel
theorem dX4_way_116 : decode cX4_way 116 = .ok (.iload 6, 2) := by decide +kernel
theorem dX4_way_118 : decode cX4_way 118 = .ok (.iload_n 3, 1) := by decide +kernel
theorem dX4_way_119 : decode cX4_way 119 = .ok (.isub, 1) := by decide +kernel
theorem dX4_way_120 : decode cX4_way 120 = .ok (.invokevirtual 157, 3) := by decide +kernel
theorem dX4_way_123 : decode cX4_way 123 = .ok (.ireturn, 1) := by decide +kernel
theorem dX4_would_0 : decode cX4_would 0 = .ok (.aload_n 0, 1) := by decide +kernel
theorem dX4_would_1 : decode cX4_would 1 = .ok (.iload_n 1, 1) := by decide +kernel
theorem dX4_would_2 : decode cX4_would 2 = .ok (.iload_n 2, 1) := by decide +kernel
theorem dX4_would_3 : decode cX4_would 3 = .ok (.invokevirtual 76, 3) := by decide +kernel
theorem dX4_would_6 : decode cX4_would 6 = .ok (.ifCond .ne 5, 3) := by decide +kernel
theorem dX4_would_9 : decode cX4_would 9 = .ok (.iconst (-1), 1) := by decide +kernel
theorem dX4_would_10 : decode cX4_would 10 = .ok (.ireturn, 1) := by decide +kernel
theorem dX4_would_11 : decode cX4_would 11 = .ok (.aload_n 0, 1) := by decide +kernel
theorem dX4_would_12 : decode cX4_would 12 = .ok (.getfield 12, 3) := by decide +kernel
theorem dX4_would_15 : decode cX4_would 15 = .ok (.iload_n 1, 1) := by decide +kernel
theorem dX4_would_16 : decode cX4_would 16 = .ok (.iload_n 2, 1) := by decide +kernel
theorem dX4_would_17 : decode cX4_would 17 = .ok (.invokevirtual 80, 3) := by decide +kernel
theorem dX4_would_20 : decode cX4_would 20 = .ok (.ifCond .eq 8, 3) := by decide +kernel
theorem dX4_would_23 : decode cX4_would 23 = .ok (.bipush (-4), 2) := by decide +kernel
theorem dX4_would_25 : decode cX4_would 25 = .ok (.goto 11, 3) := by decide +kernel
theorem dX4_would_28 : decode cX4_would 28 = .ok (.aload_n 0, 1) := by decide +kernel
theorem dX4_would_29 : decode cX4_would 29 = .ok (.getfield 12, 3) := by decide +kernel
theorem dX4_would_32 : decode cX4_would 32 = .ok (.iload_n 1, 1) := by decide +kernel
theorem dX4_would_33 : decode cX4_would 33 = .ok (.invokevirtual 96, 3) := by decide +kernel
theorem dX4_would_36 : decode cX4_would 36 = .ok (.ireturn, 1) := by decide +kernel
theorem dX4_wouldDiffer_0 : decode cX4_wouldDiffer 0 = .ok (.aload_n 0, 1) := by decide +kernel
theorem dX4_wouldDiffer_1 : decode cX4_wouldDiffer 1 = .ok (.iload_n 1, 1) := by decide +kernel
theorem dX4_wouldDiffer_2 : decode cX4_wouldDiffer 2 = .ok (.iload_n 2, 1) := by decide +kernel
theorem dX4_wouldDiffer_3 : decode cX4_wouldDiffer 3 = .ok (.invokevirtual 76, 3) := by decide +kernel
theorem dX4_wouldDiffer_6 : decode cX4_wouldDiffer 6 = .ok (.ifCond .ne 5, 3) := by decide +kernel
theorem dX4_wouldDiffer_9 : decode cX4_wouldDiffer 9 = .ok (.iconst (-1), 1) := by decide +kernel
theorem dX4_wouldDiffer_10 : decode cX4_wouldDiffer 10 = .ok (.ireturn, 1) := by decide +kernel
theorem dX4_wouldDiffer_11 : decode cX4_wouldDiffer 11 = .ok (.aload_n 0, 1) := by decide +kernel
theorem dX4_wouldDiffer_12 : decode cX4_wouldDiffer 12 = .ok (.getfield 12, 3) := by decide +kernel
theorem dX4_wouldDiffer_15 : decode cX4_wouldDiffer 15 = .ok (.iload_n 1, 1) := by decide +kernel
theorem dX4_wouldDiffer_16 : decode cX4_wouldDiffer 16 = .ok (.iload_n 2, 1) := by decide +kernel
theorem dX4_wouldDiffer_17 : decode cX4_wouldDiffer 17 = .ok (.invokevirtual 148, 3) := by decide +kernel
theorem dX4_wouldDiffer_20 : decode cX4_wouldDiffer 20 = .ok (.ifCond .ne 6, 3) := by decide +kernel
theorem dX4_wouldDiffer_23 : decode cX4_wouldDiffer 23 = .ok (.bipush (-4), 2) := by decide +kernel
theorem dX4_wouldDiffer_25 : decode cX4_wouldDiffer 25 = .ok (.ireturn, 1) := by decide +kernel
theorem dX4_wouldDiffer_26 : decode cX4_wouldDiffer 26 = .ok (.aload_n 0, 1) := by decide +kernel
theorem dX4_wouldDiffer_27 : decode cX4_wouldDiffer 27 = .ok (.getfield 12, 3) := by decide +kernel
theorem dX4_wouldDiffer_30 : decode cX4_wouldDiffer 30 = .ok (.aload_n 0, 1) := by decide +kernel
theorem dX4_wouldDiffer_31 : decode cX4_wouldDiffer 31 = .ok (.getfield 12, 3) := by decide +kernel
theorem dX4_wouldDiffer_34 : decode cX4_wouldDiffer 34 = .ok (.iload_n 1, 1) := by decide +kernel
theorem dX4_wouldDiffer_35 : decode cX4_wouldDiffer 35 = .ok (.invokevirtual 135, 3) := by decide +kernel
theorem dX4_wouldDiffer_38 : decode cX4_wouldDiffer 38 = .ok (.invokevirtual 126, 3) := by decide +kernel
theorem dX4_wouldDiffer_41 : decode cX4_wouldDiffer 41 = .ok (.istore_n 3, 1) := by decide +kernel
theorem dX4_wouldDiffer_42 : decode cX4_wouldDiffer 42 = .ok (.aload_n 0, 1) := by decide +kernel
theorem dX4_wouldDiffer_43 : decode cX4_wouldDiffer 43 = .ok (.getfield 12, 3) := by decide +kernel
theorem dX4_wouldDiffer_46 : decode cX4_wouldDiffer 46 = .ok (.aload_n 0, 1) := by decide +kernel
theorem dX4_wouldDiffer_47 : decode cX4_wouldDiffer 47 = .ok (.getfield 12, 3) := by decide +kernel
theorem dX4_wouldDiffer_50 : decode cX4_wouldDiffer 50 = .ok (.aload_n 0, 1) := by decide +kernel
theorem dX4_wouldDiffer_51 : decode cX4_wouldDiffer 51 = .ok (.getfield 12, 3) := by decide +kernel
theorem dX4_wouldDiffer_54 : decode cX4_wouldDiffer 54 = .ok (.iload_n 1, 1) := by decide +kernel
theorem dX4_wouldDiffer_55 : decode cX4_wouldDiffer 55 = .ok (.iload_n 2, 1) := by decide +kernel
theorem dX4_wouldDiffer_56 : decode cX4_wouldDiffer 56 = .ok (.invokevirtual 160, 3) := by decide +kernel
theorem dX4_wouldDiffer_59 : decode cX4_wouldDiffer 59 = .ok (.invokevirtual 123, 3) := by decide +kernel
theorem dX4_wouldDiffer_62 : decode cX4_wouldDiffer 62 = .ok (.invokevirtual 126, 3) := by decide +kernel
theorem dX4_wouldDiffer_65 : decode cX4_wouldDiffer 65 = .ok (.istore 4, 2) := by decide +kernel
theorem dX4_wouldDiffer_67 : decode cX4_wouldDiffer 67 = .ok (.iload_n 3, 1) := by decide +kernel
theorem dX4_wouldDiffer_68 : decode cX4_wouldDiffer 68 = .ok (.iconst 2, 1) := by decide +kernel
theorem dX4_wouldDiffer_69 : decode cX4_wouldDiffer 69 = .ok (.iload 4, 2) := by decide +kernel
theorem dX4_wouldDiffer_71 : decode cX4_wouldDiffer 71 = .ok (.imul, 1) := by decide +kernel
theorem dX4_wouldDiffer_72 : decode cX4_wouldDiffer 72 = .ok (.isub, 1) := by decide +kernel
theorem dX4_wouldDiffer_73 : decode cX4_wouldDiffer 73 = .ok (.invokestatic 163, 3) := by decide +kernel
theorem dX4_wouldDiffer_76 : decode cX4_wouldDiffer 76 = .ok (.ireturn, 1) := by decide +kernel
theorem dX4_middle_0 : decode cX4_middle 0 = .ok (.aload_n 0, 1) := by decide +kernel
theorem dX4_middle_1 : decode cX4_middle 1 = .ok (.getfield 12, 3) := by decide +kernel
theorem dX4_middle_4 : decode cX4_middle 4 = .ok (.iload_n 1, 1) := by decide +kernel
theorem dX4_middle_5 : decode cX4_middle 5 = .ok (.invokevirtual 89, 3) := by decide +kernel
theorem dX4_middle_8 : decode cX4_middle 8 = .ok (.ifCond .ne 5, 3) := by decide +kernel
theorem dX4_middle_11 : decode cX4_middle 11 = .ok (.iconst (-1), 1) := by decide +kernel
theorem dX4_middle_12 : decode cX4_middle 12 = .ok (.ireturn, 1) := by decide +kernel
theorem dX4_middle_13 : decode cX4_middle 13 = .ok (.aload_n 0, 1) := by decide +kernel
theorem dX4_middle_14 : decode cX4_middle 14 = .ok (.getfield 12, 3) := by decide +kernel
theorem dX4_middle_17 : decode cX4_middle 17 = .ok (.iload_n 1, 1) := by decide +kernel
theorem dX4_middle_18 : decode cX4_middle 18 = .ok (.invokevirtual 168, 3) := by decide +kernel
theorem dX4_middle_21 : decode cX4_middle 21 = .ok (.ireturn, 1) := by decide +kernel
theorem dX4_ranked_0 : decode cX4_ranked 0 = .ok (.aload_n 0, 1) := by decide +kernel
theorem dX4_ranked_1 : decode cX4_ranked 1 = .ok (.getfield 12, 3) := by decide +kernel
theorem dX4_ranked_4 : decode cX4_ranked 4 = .ok (.iload_n 1, 1) := by decide +kernel
theorem dX4_ranked_5 : decode cX4_ranked 5 = .ok (.invokevirtual 171, 3) := by decide +kernel
theorem dX4_ranked_8 : decode cX4_ranked 8 = .ok (.ireturn, 1) := by decide +kernel
theorem dX4_describe_0 : decode cX4_describe 0 = .ok (.aload_n 0, 1) := by decide +kernel
theorem dX4_describe_1 : decode cX4_describe 1 = .ok (.getfield 12, 3) := by decide +kernel
theorem dX4_describe_4 : decode cX4_describe 4 = .ok (.iload_n 1, 1) := by decide +kernel
theorem dX4_describe_5 : decode cX4_describe 5 = .ok (.invokevirtual 89, 3) := by decide +kernel
theorem dX4_describe_8 : decode cX4_describe 8 = .ok (.ifCond .ne 5, 3) := by decide +kernel
theorem dX4_describe_11 : decode cX4_describe 11 = .ok (.iconst (-1), 1) := by decide +kernel
theorem dX4_describe_12 : decode cX4_describe 12 = .ok (.ireturn, 1) := by decide +kernel
theorem dX4_describe_13 : decode cX4_describe 13 = .ok (.aload_n 0, 1) := by decide +kernel
theorem dX4_describe_14 : decode cX4_describe 14 = .ok (.getfield 31, 3) := by decide +kernel
theorem dX4_describe_17 : decode cX4_describe 17 = .ok (.invokevirtual 174, 3) := by decide +kernel
theorem dX4_describe_20 : decode cX4_describe 20 = .ok (.aload_n 0, 1) := by decide +kernel
theorem dX4_describe_21 : decode cX4_describe 21 = .ok (.getfield 31, 3) := by decide +kernel
theorem dX4_describe_24 : decode cX4_describe 24 = .ok (.iload_n 1, 1) := by decide +kernel
theorem dX4_describe_25 : decode cX4_describe 25 = .ok (.invokevirtual 177, 3) := by decide +kernel
theorem dX4_describe_28 : decode cX4_describe 28 = .ok (.aload_n 0, 1) := by decide +kernel
theorem dX4_describe_29 : decode cX4_describe 29 = .ok (.getfield 31, 3) := by decide +kernel
theorem dX4_describe_32 : decode cX4_describe 32 = .ok (.bipush 36, 2) := by decide +kernel
theorem dX4_describe_34 : decode cX4_describe 34 = .ok (.invokevirtual 180, 3) := by decide +kernel
theorem dX4_describe_37 : decode cX4_describe 37 = .ok (.aload_n 0, 1) := by decide +kernel
theorem dX4_describe_38 : decode cX4_describe 38 = .ok (.getfield 31, 3) := by decide +kernel
theorem dX4_describe_41 : decode cX4_describe 41 = .ok (.aload_n 0, 1) := by decide +kernel
theorem dX4_describe_42 : decode cX4_describe 42 = .ok (.getfield 12, 3) := by decide +kernel
theorem dX4_describe_45 : decode cX4_describe 45 = .ok (.iload_n 1, 1) := by decide +kernel
theorem dX4_describe_46 : decode cX4_describe 46 = .ok (.invokevirtual 93, 3) := by decide +kernel
theorem dX4_describe_49 : decode cX4_describe 49 = .ok (.invokevirtual 177, 3) := by decide +kernel
theorem dX4_describe_52 : decode cX4_describe 52 = .ok (.aload_n 0, 1) := by decide +kernel
theorem dX4_describe_53 : decode cX4_describe 53 = .ok (.getfield 31, 3) := by decide +kernel
theorem dX4_describe_56 : decode cX4_describe 56 = .ok (.bipush 58, 2) := by decide +kernel
theorem dX4_describe_58 : decode cX4_describe 58 = .ok (.invokevirtual 180, 3) := by decide +kernel
theorem dX4_describe_61 : decode cX4_describe 61 = .ok (.aload_n 0, 1) := by decide +kernel
theorem dX4_describe_62 : decode cX4_describe 62 = .ok (.getfield 31, 3) := by decide +kernel
theorem dX4_describe_65 : decode cX4_describe 65 = .ok (.aload_n 0, 1) := by decide +kernel
theorem dX4_describe_66 : decode cX4_describe 66 = .ok (.getfield 12, 3) := by decide +kernel
theorem dX4_describe_69 : decode cX4_describe 69 = .ok (.iload_n 1, 1) := by decide +kernel
theorem dX4_describe_70 : decode cX4_describe 70 = .ok (.invokevirtual 96, 3) := by decide +kernel
theorem dX4_describe_73 : decode cX4_describe 73 = .ok (.invokevirtual 177, 3) := by decide +kernel
theorem dX4_describe_76 : decode cX4_describe 76 = .ok (.aload_n 0, 1) := by decide +kernel
theorem dX4_describe_77 : decode cX4_describe 77 = .ok (.getfield 31, 3) := by decide +kernel
theorem dX4_describe_80 : decode cX4_describe 80 = .ok (.bipush 43, 2) := by decide +kernel
theorem dX4_describe_82 : decode cX4_describe 82 = .ok (.invokevirtual 180, 3) := by decide +kernel
theorem dX4_describe_85 : decode cX4_describe 85 = .ok (.aload_n 0, 1) := by decide +kernel
theorem dX4_describe_86 : decode cX4_describe 86 = .ok (.getfield 31, 3) := by decide +kernel
theorem dX4_describe_89 : decode cX4_describe 89 = .ok (.aload_n 0, 1) := by decide +kernel
theorem dX4_describe_90 : decode cX4_describe 90 = .ok (.getfield 12, 3) := by decide +kernel
theorem dX4_describe_93 : decode cX4_describe 93 = .ok (.iload_n 1, 1) := by decide +kernel
theorem dX4_describe_94 : decode cX4_describe 94 = .ok (.invokevirtual 99, 3) := by decide +kernel
theorem dX4_describe_97 : decode cX4_describe 97 = .ok (.invokevirtual 177, 3) := by decide +kernel
theorem dX4_describe_100 : decode cX4_describe 100 = .ok (.aload_n 0, 1) := by decide +kernel
theorem dX4_describe_101 : decode cX4_describe 101 = .ok (.getfield 31, 3) := by decide +kernel
theorem dX4_describe_104 : decode cX4_describe 104 = .ok (.invokevirtual 138, 3) := by decide +kernel
theorem dX4_describe_107 : decode cX4_describe 107 = .ok (.ireturn, 1) := by decide +kernel
theorem dX4_tell_0 : decode cX4_tell 0 = .ok (.aload_n 0, 1) := by decide +kernel
theorem dX4_tell_1 : decode cX4_tell 1 = .ok (.getfield 12, 3) := by decide +kernel
theorem dX4_tell_4 : decode cX4_tell 4 = .ok (.iload_n 1, 1) := by decide +kernel
theorem dX4_tell_5 : decode cX4_tell 5 = .ok (.invokevirtual 89, 3) := by decide +kernel
theorem dX4_tell_8 : decode cX4_tell 8 = .ok (.ifCond .ne 5, 3) := by decide +kernel
theorem dX4_tell_11 : decode cX4_tell 11 = .ok (.iconst (-1), 1) := by decide +kernel
theorem dX4_tell_12 : decode cX4_tell 12 = .ok (.ireturn, 1) := by decide +kernel
theorem dX4_tell_13 : decode cX4_tell 13 = .ok (.aload_n 0, 1) := by decide +kernel
theorem dX4_tell_14 : decode cX4_tell 14 = .ok (.getfield 12, 3) := by decide +kernel
theorem dX4_tell_17 : decode cX4_tell 17 = .ok (.iload_n 1, 1) := by decide +kernel
theorem dX4_tell_18 : decode cX4_tell 18 = .ok (.invokevirtual 102, 3) := by decide +kernel
theorem dX4_tell_21 : decode cX4_tell 21 = .ok (.astore_n 2, 1) := by decide +kernel
theorem dX4_tell_22 : decode cX4_tell 22 = .ok (.aload_n 0, 1) := by decide +kernel
theorem dX4_tell_23 : decode cX4_tell 23 = .ok (.getfield 31, 3) := by decide +kernel
theorem dX4_tell_26 : decode cX4_tell 26 = .ok (.invokevirtual 174, 3) := by decide +kernel
theorem dX4_tell_29 : decode cX4_tell 29 = .ok (.iconst 0, 1) := by decide +kernel
theorem dX4_tell_30 : decode cX4_tell 30 = .ok (.istore_n 3, 1) := by decide +kernel
theorem dX4_tell_31 : decode cX4_tell 31 = .ok (.iload_n 3, 1) := by decide +kernel
theorem dX4_tell_32 : decode cX4_tell 32 = .ok (.aload_n 2, 1) := by decide +kernel
theorem dX4_tell_33 : decode cX4_tell 33 = .ok (.invokevirtual 138, 3) := by decide +kernel
theorem dX4_tell_36 : decode cX4_tell 36 = .ok (.if_icmp .ge 34, 3) := by decide +kernel
theorem dX4_tell_39 : decode cX4_tell 39 = .ok (.iload_n 3, 1) := by decide +kernel
theorem dX4_tell_40 : decode cX4_tell 40 = .ok (.ifCond .le 12, 3) := by decide +kernel
theorem dX4_tell_43 : decode cX4_tell 43 = .ok (.aload_n 0, 1) := by decide +kernel
theorem dX4_tell_44 : decode cX4_tell 44 = .ok (.getfield 31, 3) := by decide +kernel
theorem dX4_tell_47 : decode cX4_tell 47 = .ok (.bipush 45, 2) := by decide +kernel
theorem dX4_tell_49 : decode cX4_tell 49 = .ok (.invokevirtual 180, 3) := by decide +kernel
theorem dX4_tell_52 : decode cX4_tell 52 = .ok (.aload_n 0, 1) := by decide +kernel
theorem dX4_tell_53 : decode cX4_tell 53 = .ok (.getfield 31, 3) := by decide +kernel
theorem dX4_tell_56 : decode cX4_tell 56 = .ok (.aload_n 2, 1) := by decide +kernel
theorem dX4_tell_57 : decode cX4_tell 57 = .ok (.iload_n 3, 1) := by decide +kernel
theorem dX4_tell_58 : decode cX4_tell 58 = .ok (.invokevirtual 132, 3) := by decide +kernel
theorem dX4_tell_61 : decode cX4_tell 61 = .ok (.invokevirtual 177, 3) := by decide +kernel
theorem dX4_tell_64 : decode cX4_tell 64 = .ok (.iinc 3 1, 3) := by decide +kernel
theorem dX4_tell_67 : decode cX4_tell 67 = .ok (.goto (-36), 3) := by decide +kernel
theorem dX4_tell_70 : decode cX4_tell 70 = .ok (.aload_n 0, 1) := by decide +kernel
theorem dX4_tell_71 : decode cX4_tell 71 = .ok (.getfield 31, 3) := by decide +kernel
theorem dX4_tell_74 : decode cX4_tell 74 = .ok (.invokevirtual 138, 3) := by decide +kernel
theorem dX4_tell_77 : decode cX4_tell 77 = .ok (.ireturn, 1) := by decide +kernel
theorem dX4_sign_0 : decode cX4_sign 0 = .ok (.aload_n 0, 1) := by decide +kernel
theorem dX4_sign_1 : decode cX4_sign 1 = .ok (.getfield 31, 3) := by decide +kernel
theorem dX4_sign_4 : decode cX4_sign 4 = .ok (.iload_n 1, 1) := by decide +kernel
theorem dX4_sign_5 : decode cX4_sign 5 = .ok (.invokevirtual 132, 3) := by decide +kernel
theorem dX4_sign_8 : decode cX4_sign 8 = .ok (.ireturn, 1) := by decide +kernel
theorem dX4_append_0 : decode cX4_append 0 = .ok (.iload_n 1, 1) := by decide +kernel
theorem dX4_append_1 : decode cX4_append 1 = .ok (.bipush 32, 2) := by decide +kernel
theorem dX4_append_3 : decode cX4_append 3 = .ok (.if_icmp .lt 21, 3) := by decide +kernel
theorem dX4_append_6 : decode cX4_append 6 = .ok (.iload_n 1, 1) := by decide +kernel
theorem dX4_append_7 : decode cX4_append 7 = .ok (.bipush 126, 2) := by decide +kernel
theorem dX4_append_9 : decode cX4_append 9 = .ok (.if_icmp .gt 15, 3) := by decide +kernel
theorem dX4_append_12 : decode cX4_append 12 = .ok (.aload_n 0, 1) := by decide +kernel
theorem dX4_append_13 : decode cX4_append 13 = .ok (.getfield 35, 3) := by decide +kernel
theorem dX4_append_16 : decode cX4_append 16 = .ok (.invokevirtual 138, 3) := by decide +kernel
theorem dX4_append_19 : decode cX4_append 19 = .ok (.bipush 70, 2) := by decide +kernel
theorem dX4_append_21 : decode cX4_append 21 = .ok (.if_icmp .lt 6, 3) := by decide +kernel
theorem dX4_append_24 : decode cX4_append 24 = .ok (.bipush (-2), 2) := by decide +kernel
theorem dX4_append_26 : decode cX4_append 26 = .ok (.ireturn, 1) := by decide +kernel
theorem dX4_append_27 : decode cX4_append 27 = .ok (.aload_n 0, 1) := by decide +kernel
theorem dX4_append_28 : decode cX4_append 28 = .ok (.getfield 35, 3) := by decide +kernel
theorem dX4_append_31 : decode cX4_append 31 = .ok (.iload_n 1, 1) := by decide +kernel
theorem dX4_append_32 : decode cX4_append 32 = .ok (.invokevirtual 180, 3) := by decide +kernel
theorem dX4_append_35 : decode cX4_append 35 = .ok (.aload_n 0, 1) := by decide +kernel
theorem dX4_append_36 : decode cX4_append 36 = .ok (.getfield 35, 3) := by decide +kernel
theorem dX4_append_39 : decode cX4_append 39 = .ok (.invokevirtual 138, 3) := by decide +kernel
theorem dX4_append_42 : decode cX4_append 42 = .ok (.ireturn, 1) := by decide +kernel
theorem dX4_read_0 : decode cX4_read 0 = .ok (.aload_n 0, 1) := by decide +kernel
theorem dX4_read_1 : decode cX4_read 1 = .ok (.getfield 41, 3) := by decide +kernel
theorem dX4_read_4 : decode cX4_read 4 = .ok (.aload_n 0, 1) := by decide +kernel
theorem dX4_read_5 : decode cX4_read 5 = .ok (.getfield 35, 3) := by decide +kernel
theorem dX4_read_8 : decode cX4_read 8 = .ok (.invokevirtual 183, 3) := by decide +kernel
theorem dX4_read_11 : decode cX4_read 11 = .ok (.istore_n 1, 1) := by decide +kernel
theorem dX4_read_12 : decode cX4_read 12 = .ok (.aload_n 0, 1) := by decide +kernel
theorem dX4_read_13 : decode cX4_read 13 = .ok (.getfield 35, 3) := by decide +kernel
theorem dX4_read_16 : decode cX4_read 16 = .ok (.invokevirtual 174, 3) := by decide +kernel
theorem dX4_read_19 : decode cX4_read 19 = .ok (.iload_n 1, 1) := by decide +kernel
theorem dX4_read_20 : decode cX4_read 20 = .ok (.ifCond .lt 8, 3) := by decide +kernel
theorem dX4_read_23 : decode cX4_read 23 = .ok (.bipush (-100), 2) := by decide +kernel
theorem dX4_read_25 : decode cX4_read 25 = .ok (.iload_n 1, 1) := by decide +kernel
theorem dX4_read_26 : decode cX4_read 26 = .ok (.isub, 1) := by decide +kernel
theorem dX4_read_27 : decode cX4_read 27 = .ok (.ireturn, 1) := by decide +kernel
theorem dX4_read_28 : decode cX4_read 28 = .ok (.aload_n 0, 1) := by decide +kernel
theorem dX4_read_29 : decode cX4_read 29 = .ok (.getfield 22, 3) := by decide +kernel
theorem dX4_read_32 : decode cX4_read 32 = .ok (.aload_n 0, 1) := by decide +kernel
theorem dX4_read_33 : decode cX4_read 33 = .ok (.getfield 12, 3) := by decide +kernel
theorem dX4_read_36 : decode cX4_read 36 = .ok (.invokevirtual 49, 3) := by decide +kernel
theorem dX4_read_39 : decode cX4_read 39 = .ok (.aload_n 0, 1) := by decide +kernel
theorem dX4_read_40 : decode cX4_read 40 = .ok (.getfield 41, 3) := by decide +kernel
theorem dX4_read_43 : decode cX4_read 43 = .ok (.invokevirtual 187, 3) := by decide +kernel
theorem dX4_read_46 : decode cX4_read 46 = .ok (.istore_n 2, 1) := by decide +kernel
theorem dX4_read_47 : decode cX4_read 47 = .ok (.iconst 0, 1) := by decide +kernel
theorem dX4_read_48 : decode cX4_read 48 = .ok (.istore_n 3, 1) := by decide +kernel
theorem dX4_read_49 : decode cX4_read 49 = .ok (.iload_n 3, 1) := by decide +kernel
theorem dX4_read_50 : decode cX4_read 50 = .ok (.aload_n 0, 1) := by decide +kernel
theorem dX4_read_51 : decode cX4_read 51 = .ok (.getfield 41, 3) := by decide +kernel
theorem dX4_read_54 : decode cX4_read 54 = .ok (.invokevirtual 187, 3) := by decide +kernel
theorem dX4_read_57 : decode cX4_read 57 = .ok (.if_icmp .ge 45, 3) := by decide +kernel
theorem dX4_read_60 : decode cX4_read 60 = .ok (.iload_n 2, 1) := by decide +kernel
theorem dX4_read_61 : decode cX4_read 61 = .ok (.ifCond .lt 41, 3) := by decide +kernel
theorem dX4_read_64 : decode cX4_read 64 = .ok (.aload_n 0, 1) := by decide +kernel
theorem dX4_read_65 : decode cX4_read 65 = .ok (.iload_n 3, 1) := by decide +kernel
theorem dX4_read_66 : decode cX4_read 66 = .ok (.putfield 45, 3) := by decide +kernel
theorem dX4_read_69 : decode cX4_read 69 = .ok (.aload_n 0, 1) := by decide +kernel
theorem dX4_read_70 : decode cX4_read 70 = .ok (.iload_n 3, 1) := by decide +kernel
theorem dX4_read_71 : decode cX4_read 71 = .ok (.invokevirtual 190, 3) := by decide +kernel
theorem dX4_read_74 : decode cX4_read 74 = .ok (.istore 4, 2) := by decide +kernel
theorem dX4_read_76 : decode cX4_read 76 = .ok (.iload 4, 2) := by decide +kernel
theorem dX4_read_78 : decode cX4_read 78 = .ok (.ifCond .ge 18, 3) := by decide +kernel
theorem dX4_read_81 : decode cX4_read 81 = .ok (.iload 4, 2) := by decide +kernel
theorem dX4_read_83 : decode cX4_read 83 = .ok (.bipush (-3), 2) := by decide +kernel
theorem dX4_read_85 : decode cX4_read 85 = .ok (.if_icmp .ne 8, 3) := by decide +kernel
theorem dX4_read_88 : decode cX4_read 88 = .ok (.bipush (-3), 2) := by decide +kernel
theorem dX4_read_90 : decode cX4_read 90 = .ok (.goto 5, 3) := by decide +kernel
theorem dX4_read_93 : decode cX4_read 93 = .ok (.bipush (-2), 2) := by decide +kernel
theorem dX4_read_95 : decode cX4_read 95 = .ok (.istore_n 2, 1) := by decide +kernel
theorem dX4_read_96 : decode cX4_read 96 = .ok (.iinc 3 1, 3) := by decide +kernel
theorem dX4_read_99 : decode cX4_read 99 = .ok (.goto (-50), 3) := by decide +kernel
theorem dX4_read_102 : decode cX4_read 102 = .ok (.aload_n 0, 1) := by decide +kernel
theorem dX4_read_103 : decode cX4_read 103 = .ok (.bipush (-4), 2) := by decide +kernel
theorem dX4_read_105 : decode cX4_read 105 = .ok (.putfield 45, 3) := by decide +kernel
theorem dX4_read_108 : decode cX4_read 108 = .ok (.iload_n 2, 1) := by decide +kernel
theorem dX4_read_109 : decode cX4_read 109 = .ok (.ifCond .ge 14, 3) := by decide +kernel
theorem dX4_read_112 : decode cX4_read 112 = .ok (.aload_n 0, 1) := by decide +kernel
theorem dX4_read_113 : decode cX4_read 113 = .ok (.getfield 22, 3) := by decide +kernel
theorem dX4_read_116 : decode cX4_read 116 = .ok (.aload_n 0, 1) := by decide +kernel
theorem dX4_read_117 : decode cX4_read 117 = .ok (.getfield 12, 3) := by decide +kernel
theorem dX4_read_120 : decode cX4_read 120 = .ok (.invokevirtual 193, 3) := by decide +kernel
theorem dX4_read_123 : decode cX4_read 123 = .ok (.aload_n 0, 1) := by decide +kernel
theorem dX4_read_124 : decode cX4_read 124 = .ok (.iload_n 2, 1) := by decide +kernel
theorem dX4_read_125 : decode cX4_read 125 = .ok (.invokevirtual 57, 3) := by decide +kernel
theorem dX4_read_128 : decode cX4_read 128 = .ok (.ireturn, 1) := by decide +kernel
theorem dX4_refusal_0 : decode cX4_refusal 0 = .ok (.iload_n 1, 1) := by decide +kernel
theorem dX4_refusal_1 : decode cX4_refusal 1 = .ok (.ifCond .lt 8, 3) := by decide +kernel
theorem dX4_refusal_4 : decode cX4_refusal 4 = .ok (.iload_n 1, 1) := by decide +kernel
theorem dX4_refusal_5 : decode cX4_refusal 5 = .ok (.iconst 2, 1) := by decide +kernel
theorem dX4_refusal_6 : decode cX4_refusal 6 = .ok (.if_icmp .le 6, 3) := by decide +kernel
theorem dX4_refusal_9 : decode cX4_refusal 9 = .ok (.bipush (-2), 2) := by decide +kernel
theorem dX4_refusal_11 : decode cX4_refusal 11 = .ok (.ireturn, 1) := by decide +kernel
theorem dX4_refusal_12 : decode cX4_refusal 12 = .ok (.aload_n 0, 1) := by decide +kernel
theorem dX4_refusal_13 : decode cX4_refusal 13 = .ok (.getfield 196, 3) := by decide +kernel
theorem dX4_refusal_16 : decode cX4_refusal 16 = .ok (.ifCond .ne 6, 3) := by decide +kernel
theorem dX4_refusal_19 : decode cX4_refusal 19 = .ok (.bipush (-4), 2) := by decide +kernel
theorem dX4_refusal_21 : decode cX4_refusal 21 = .ok (.ireturn, 1) := by decide +kernel
theorem dX4_refusal_22 : decode cX4_refusal 22 = .ok (.iload_n 1, 1) := by decide +kernel
theorem dX4_refusal_23 : decode cX4_refusal 23 = .ok (.lookupswitch 35 #[(0, 25), (1, 30)], 25) := by decide +kernel
theorem dX4_refusal_48 : decode cX4_refusal 48 = .ok (.aload_n 0, 1) := by decide +kernel
theorem dX4_refusal_49 : decode cX4_refusal 49 = .ok (.getfield 196, 3) := by decide +kernel
theorem dX4_refusal_52 : decode cX4_refusal 52 = .ok (.ireturn, 1) := by decide +kernel
theorem dX4_refusal_53 : decode cX4_refusal 53 = .ok (.aload_n 0, 1) := by decide +kernel
theorem dX4_refusal_54 : decode cX4_refusal 54 = .ok (.getfield 199, 3) := by decide +kernel
theorem dX4_refusal_57 : decode cX4_refusal 57 = .ok (.ireturn, 1) := by decide +kernel
theorem dX4_refusal_58 : decode cX4_refusal 58 = .ok (.aload_n 0, 1) := by decide +kernel
theorem dX4_refusal_59 : decode cX4_refusal 59 = .ok (.getfield 202, 3) := by decide +kernel
theorem dX4_refusal_62 : decode cX4_refusal 62 = .ok (.ireturn, 1) := by decide +kernel
theorem dX4_account_0 : decode cX4_account 0 = .ok (.iload_n 1, 1) := by decide +kernel
theorem dX4_account_1 : decode cX4_account 1 = .ok (.tableswitch 161 0 10 #[59, 67, 75, 83, 98, 106, 114, 122, 130, 145, 153], 59) := by decide +kernel
theorem dX4_account_60 : decode cX4_account 60 = .ok (.aload_n 0, 1) := by decide +kernel
theorem dX4_account_61 : decode cX4_account 61 = .ok (.getfield 12, 3) := by decide +kernel
theorem dX4_account_64 : decode cX4_account 64 = .ok (.invokevirtual 205, 3) := by decide +kernel
theorem dX4_account_67 : decode cX4_account 67 = .ok (.ireturn, 1) := by decide +kernel
theorem dX4_account_68 : decode cX4_account 68 = .ok (.aload_n 0, 1) := by decide +kernel
theorem dX4_account_69 : decode cX4_account 69 = .ok (.getfield 12, 3) := by decide +kernel
theorem dX4_account_72 : decode cX4_account 72 = .ok (.invokevirtual 208, 3) := by decide +kernel
theorem dX4_account_75 : decode cX4_account 75 = .ok (.ireturn, 1) := by decide +kernel
theorem dX4_account_76 : decode cX4_account 76 = .ok (.aload_n 0, 1) := by decide +kernel
theorem dX4_account_77 : decode cX4_account 77 = .ok (.getfield 12, 3) := by decide +kernel
theorem dX4_account_80 : decode cX4_account 80 = .ok (.invokevirtual 211, 3) := by decide +kernel
theorem dX4_account_83 : decode cX4_account 83 = .ok (.ireturn, 1) := by decide +kernel
theorem dX4_account_84 : decode cX4_account 84 = .ok (.aload_n 0, 1) := by decide +kernel
theorem dX4_account_85 : decode cX4_account 85 = .ok (.getfield 12, 3) := by decide +kernel
theorem dX4_account_88 : decode cX4_account 88 = .ok (.aload_n 0, 1) := by decide +kernel
theorem dX4_account_89 : decode cX4_account 89 = .ok (.getfield 12, 3) := by decide +kernel
theorem dX4_account_92 : decode cX4_account 92 = .ok (.invokevirtual 214, 3) := by decide +kernel
theorem dX4_account_95 : decode cX4_account 95 = .ok (.invokevirtual 126, 3) := by decide +kernel
theorem dX4_account_98 : decode cX4_account 98 = .ok (.ireturn, 1) := by decide +kernel
theorem dX4_account_99 : decode cX4_account 99 = .ok (.aload_n 0, 1) := by decide +kernel
theorem dX4_account_100 : decode cX4_account 100 = .ok (.getfield 12, 3) := by decide +kernel
theorem dX4_account_103 : decode cX4_account 103 = .ok (.invokevirtual 217, 3) := by decide +kernel
theorem dX4_account_106 : decode cX4_account 106 = .ok (.ireturn, 1) := by decide +kernel
theorem dX4_account_107 : decode cX4_account 107 = .ok (.aload_n 0, 1) := by decide +kernel
theorem dX4_account_108 : decode cX4_account 108 = .ok (.getfield 12, 3) := by decide +kernel
theorem dX4_account_111 : decode cX4_account 111 = .ok (.invokevirtual 220, 3) := by decide +kernel
theorem dX4_account_114 : decode cX4_account 114 = .ok (.ireturn, 1) := by decide +kernel
theorem dX4_account_115 : decode cX4_account 115 = .ok (.aload_n 0, 1) := by decide +kernel
theorem dX4_account_116 : decode cX4_account 116 = .ok (.getfield 12, 3) := by decide +kernel
theorem dX4_account_119 : decode cX4_account 119 = .ok (.invokevirtual 223, 3) := by decide +kernel
theorem dX4_account_122 : decode cX4_account 122 = .ok (.ireturn, 1) := by decide +kernel
theorem dX4_account_123 : decode cX4_account 123 = .ok (.aload_n 0, 1) := by decide +kernel
theorem dX4_account_124 : decode cX4_account 124 = .ok (.getfield 12, 3) := by decide +kernel
theorem dX4_account_127 : decode cX4_account 127 = .ok (.invokevirtual 226, 3) := by decide +kernel
theorem dX4_account_130 : decode cX4_account 130 = .ok (.ireturn, 1) := by decide +kernel
theorem dX4_account_131 : decode cX4_account 131 = .ok (.aload_n 0, 1) := by decide +kernel
theorem dX4_account_132 : decode cX4_account 132 = .ok (.getfield 12, 3) := by decide +kernel
theorem dX4_account_135 : decode cX4_account 135 = .ok (.aload_n 0, 1) := by decide +kernel
theorem dX4_account_136 : decode cX4_account 136 = .ok (.getfield 12, 3) := by decide +kernel
theorem dX4_account_139 : decode cX4_account 139 = .ok (.invokevirtual 214, 3) := by decide +kernel
theorem dX4_account_142 : decode cX4_account 142 = .ok (.invokevirtual 142, 3) := by decide +kernel
theorem dX4_account_145 : decode cX4_account 145 = .ok (.ireturn, 1) := by decide +kernel
theorem dX4_account_146 : decode cX4_account 146 = .ok (.aload_n 0, 1) := by decide +kernel
theorem dX4_account_147 : decode cX4_account 147 = .ok (.getfield 35, 3) := by decide +kernel
theorem dX4_account_150 : decode cX4_account 150 = .ok (.invokevirtual 138, 3) := by decide +kernel
theorem dX4_account_153 : decode cX4_account 153 = .ok (.ireturn, 1) := by decide +kernel
theorem dX4_account_154 : decode cX4_account 154 = .ok (.aload_n 0, 1) := by decide +kernel
theorem dX4_account_155 : decode cX4_account 155 = .ok (.getfield 22, 3) := by decide +kernel
theorem dX4_account_158 : decode cX4_account 158 = .ok (.invokevirtual 229, 3) := by decide +kernel
theorem dX4_account_161 : decode cX4_account 161 = .ok (.ireturn, 1) := by decide +kernel
theorem dX4_account_162 : decode cX4_account 162 = .ok (.bipush (-2), 2) := by decide +kernel
theorem dX4_account_164 : decode cX4_account 164 = .ok (.ireturn, 1) := by decide +kernel
theorem dX4_isWell_0 : decode cX4_isWell 0 = .ok (.aload_n 0, 1) := by decide +kernel
theorem dX4_isWell_1 : decode cX4_isWell 1 = .ok (.getfield 12, 3) := by decide +kernel
theorem dX4_isWell_4 : decode cX4_isWell 4 = .ok (.invokevirtual 232, 3) := by decide +kernel
theorem dX4_isWell_7 : decode cX4_isWell 7 = .ok (.ifCond .eq 7, 3) := by decide +kernel
theorem dX4_isWell_10 : decode cX4_isWell 10 = .ok (.iconst 1, 1) := by decide +kernel
theorem dX4_isWell_11 : decode cX4_isWell 11 = .ok (.goto 4, 3) := by decide +kernel
theorem dX4_isWell_14 : decode cX4_isWell 14 = .ok (.iconst 0, 1) := by decide +kernel
theorem dX4_isWell_15 : decode cX4_isWell 15 = .ok (.ireturn, 1) := by decide +kernel
theorem dX4_mean_0 : decode cX4_mean 0 = .ok (.aload_n 0, 1) := by decide +kernel
theorem dX4_mean_1 : decode cX4_mean 1 = .ok (.getfield 12, 3) := by decide +kernel
theorem dX4_mean_4 : decode cX4_mean 4 = .ok (.invokevirtual 205, 3) := by decide +kernel
theorem dX4_mean_7 : decode cX4_mean 7 = .ok (.istore_n 1, 1) := by decide +kernel
theorem dX4_mean_8 : decode cX4_mean 8 = .ok (.iload_n 1, 1) := by decide +kernel
theorem dX4_mean_9 : decode cX4_mean 9 = .ok (.ifCond .gt 6, 3) := by decide +kernel
theorem dX4_mean_12 : decode cX4_mean 12 = .ok (.bipush (-4), 2) := by decide +kernel
theorem dX4_mean_14 : decode cX4_mean 14 = .ok (.ireturn, 1) := by decide +kernel
theorem dX4_mean_15 : decode cX4_mean 15 = .ok (.aload_n 0, 1) := by decide +kernel
theorem dX4_mean_16 : decode cX4_mean 16 = .ok (.getfield 12, 3) := by decide +kernel
theorem dX4_mean_19 : decode cX4_mean 19 = .ok (.invokevirtual 236, 3) := by decide +kernel
theorem dX4_mean_22 : decode cX4_mean 22 = .ok (.i2f, 1) := by decide +kernel
theorem dX4_mean_23 : decode cX4_mean 23 = .ok (.iload_n 1, 1) := by decide +kernel
theorem dX4_mean_24 : decode cX4_mean 24 = .ok (.i2f, 1) := by decide +kernel
theorem dX4_mean_25 : decode cX4_mean 25 = .ok (.fdiv, 1) := by decide +kernel
theorem dX4_mean_26 : decode cX4_mean 26 = .ok (.invokestatic 239, 3) := by decide +kernel
theorem dX4_mean_29 : decode cX4_mean 29 = .ok (.ireturn, 1) := by decide +kernel
theorem dX4_undo_0 : decode cX4_undo 0 = .ok (.aload_n 0, 1) := by decide +kernel
theorem dX4_undo_1 : decode cX4_undo 1 = .ok (.getfield 22, 3) := by decide +kernel
theorem dX4_undo_4 : decode cX4_undo 4 = .ok (.aload_n 0, 1) := by decide +kernel
theorem dX4_undo_5 : decode cX4_undo 5 = .ok (.getfield 12, 3) := by decide +kernel
theorem dX4_undo_8 : decode cX4_undo 8 = .ok (.invokevirtual 243, 3) := by decide +kernel
theorem dX4_undo_11 : decode cX4_undo 11 = .ok (.ifCond .eq 13, 3) := by decide +kernel
theorem dX4_undo_14 : decode cX4_undo 14 = .ok (.aload_n 0, 1) := by decide +kernel
theorem dX4_undo_15 : decode cX4_undo 15 = .ok (.getfield 22, 3) := by decide +kernel
theorem dX4_undo_18 : decode cX4_undo 18 = .ok (.invokevirtual 229, 3) := by decide +kernel
theorem dX4_undo_21 : decode cX4_undo 21 = .ok (.goto 5, 3) := by decide +kernel
theorem dX4_undo_24 : decode cX4_undo 24 = .ok (.bipush (-4), 2) := by decide +kernel
theorem dX4_undo_26 : decode cX4_undo 26 = .ok (.ireturn, 1) := by decide +kernel
theorem dX4_save_0 : decode cX4_save 0 = .ok (.aload_n 0, 1) := by decide +kernel
theorem dX4_save_1 : decode cX4_save 1 = .ok (.getfield 16, 3) := by decide +kernel
theorem dX4_save_4 : decode cX4_save 4 = .ok (.aload_n 0, 1) := by decide +kernel
theorem dX4_save_5 : decode cX4_save 5 = .ok (.getfield 12, 3) := by decide +kernel
theorem dX4_save_8 : decode cX4_save 8 = .ok (.invokevirtual 247, 3) := by decide +kernel
theorem dX4_save_11 : decode cX4_save 11 = .ok (.aload_n 0, 1) := by decide +kernel
theorem dX4_save_12 : decode cX4_save 12 = .ok (.iconst 1, 1) := by decide +kernel
theorem dX4_save_13 : decode cX4_save 13 = .ok (.putfield 250, 3) := by decide +kernel
theorem dX4_save_16 : decode cX4_save 16 = .ok (.aload_n 0, 1) := by decide +kernel
theorem dX4_save_17 : decode cX4_save 17 = .ok (.getfield 12, 3) := by decide +kernel
theorem dX4_save_20 : decode cX4_save 20 = .ok (.invokevirtual 205, 3) := by decide +kernel
theorem dX4_save_23 : decode cX4_save 23 = .ok (.ireturn, 1) := by decide +kernel
theorem dX4_restore_0 : decode cX4_restore 0 = .ok (.aload_n 0, 1) := by decide +kernel
theorem dX4_restore_1 : decode cX4_restore 1 = .ok (.getfield 250, 3) := by decide +kernel
theorem dX4_restore_4 : decode cX4_restore 4 = .ok (.ifCond .ne 6, 3) := by decide +kernel
theorem dX4_restore_7 : decode cX4_restore 7 = .ok (.bipush (-4), 2) := by decide +kernel
theorem dX4_restore_9 : decode cX4_restore 9 = .ok (.ireturn, 1) := by decide +kernel
theorem dX4_restore_10 : decode cX4_restore 10 = .ok (.aload_n 0, 1) := by decide +kernel
theorem dX4_restore_11 : decode cX4_restore 11 = .ok (.getfield 12, 3) := by decide +kernel
theorem dX4_restore_14 : decode cX4_restore 14 = .ok (.aload_n 0, 1) := by decide +kernel
theorem dX4_restore_15 : decode cX4_restore 15 = .ok (.getfield 16, 3) := by decide +kernel
theorem dX4_restore_18 : decode cX4_restore 18 = .ok (.invokevirtual 247, 3) := by decide +kernel
theorem dX4_restore_21 : decode cX4_restore 21 = .ok (.aload_n 0, 1) := by decide +kernel
theorem dX4_restore_22 : decode cX4_restore 22 = .ok (.getfield 22, 3) := by decide +kernel
theorem dX4_restore_25 : decode cX4_restore 25 = .ok (.invokevirtual 254, 3) := by decide +kernel
theorem dX4_restore_28 : decode cX4_restore 28 = .ok (.aload_n 0, 1) := by decide +kernel
theorem dX4_restore_29 : decode cX4_restore 29 = .ok (.getfield 12, 3) := by decide +kernel
theorem dX4_restore_32 : decode cX4_restore 32 = .ok (.invokevirtual 205, 3) := by decide +kernel
theorem dX4_restore_35 : decode cX4_restore 35 = .ok (.ireturn, 1) := by decide +kernel
theorem dX4_addBank_0 : decode cX4_addBank 0 = .ok (.iload_n 1, 1) := by decide +kernel
theorem dX4_addBank_1 : decode cX4_addBank 1 = .ok (.ifCond .lt 9, 3) := by decide +kernel
theorem dX4_addBank_4 : decode cX4_addBank 4 = .ok (.iload_n 1, 1) := by decide +kernel
theorem dX4_addBank_5 : decode cX4_addBank 5 = .ok (.bipush 99, 2) := by decide +kernel
theorem dX4_addBank_7 : decode cX4_addBank 7 = .ok (.if_icmp .le 6, 3) := by decide +kernel
theorem dX4_addBank_10 : decode cX4_addBank 10 = .ok (.bipush (-2), 2) := by decide +kernel
theorem dX4_addBank_12 : decode cX4_addBank 12 = .ok (.ireturn, 1) := by decide +kernel
theorem dX4_addBank_13 : decode cX4_addBank 13 = .ok (.aload_n 0, 1) := by decide +kernel
theorem dX4_addBank_14 : decode cX4_addBank 14 = .ok (.getfield 12, 3) := by decide +kernel
theorem dX4_addBank_17 : decode cX4_addBank 17 = .ok (.invokevirtual 205, 3) := by decide +kernel
theorem dX4_addBank_20 : decode cX4_addBank 20 = .ok (.bipush 12, 2) := by decide +kernel
theorem dX4_addBank_22 : decode cX4_addBank 22 = .ok (.if_icmp .lt 11, 3) := by decide +kernel
theorem dX4_addBank_25 : decode cX4_addBank 25 = .ok (.aload_n 0, 1) := by decide +kernel
theorem dX4_addBank_26 : decode cX4_addBank 26 = .ok (.iconst 1, 1) := by decide +kernel
theorem dX4_addBank_27 : decode cX4_addBank 27 = .ok (.bipush 12, 2) := by decide +kernel
theorem dX4_addBank_29 : decode cX4_addBank 29 = .ok (.invokevirtual 257, 3) := by decide +kernel
theorem dX4_addBank_32 : decode cX4_addBank 32 = .ok (.ireturn, 1) := by decide +kernel
theorem dX4_addBank_33 : decode cX4_addBank 33 = .ok (.aload_n 0, 1) := by decide +kernel
theorem dX4_addBank_34 : decode cX4_addBank 34 = .ok (.getfield 12, 3) := by decide +kernel
theorem dX4_addBank_37 : decode cX4_addBank 37 = .ok (.iload_n 1, 1) := by decide +kernel
theorem dX4_addBank_38 : decode cX4_addBank 38 = .ok (.invokevirtual 260, 3) := by decide +kernel
theorem dX4_addBank_41 : decode cX4_addBank 41 = .ok (.ireturn, 1) := by decide +kernel
theorem dX4_setWeight_0 : decode cX4_setWeight 0 = .ok (.aload_n 0, 1) := by decide +kernel
theorem dX4_setWeight_1 : decode cX4_setWeight 1 = .ok (.getfield 12, 3) := by decide +kernel
theorem dX4_setWeight_4 : decode cX4_setWeight 4 = .ok (.iload_n 1, 1) := by decide +kernel
theorem dX4_setWeight_5 : decode cX4_setWeight 5 = .ok (.invokevirtual 89, 3) := by decide +kernel
theorem dX4_setWeight_8 : decode cX4_setWeight 8 = .ok (.ifCond .ne 5, 3) := by decide +kernel
theorem dX4_setWeight_11 : decode cX4_setWeight 11 = .ok (.iconst (-1), 1) := by decide +kernel
theorem dX4_setWeight_12 : decode cX4_setWeight 12 = .ok (.ireturn, 1) := by decide +kernel
theorem dX4_setWeight_13 : decode cX4_setWeight 13 = .ok (.iload_n 2, 1) := by decide +kernel
theorem dX4_setWeight_14 : decode cX4_setWeight 14 = .ok (.ifCond .lt 9, 3) := by decide +kernel
theorem dX4_setWeight_17 : decode cX4_setWeight 17 = .ok (.iload_n 2, 1) := by decide +kernel
theorem dX4_setWeight_18 : decode cX4_setWeight 18 = .ok (.bipush 99, 2) := by decide +kernel
theorem dX4_setWeight_20 : decode cX4_setWeight 20 = .ok (.if_icmp .le 6, 3) := by decide +kernel
theorem dX4_setWeight_23 : decode cX4_setWeight 23 = .ok (.bipush (-2), 2) := by decide +kernel
theorem dX4_setWeight_25 : decode cX4_setWeight 25 = .ok (.ireturn, 1) := by decide +kernel
theorem dX4_setWeight_26 : decode cX4_setWeight 26 = .ok (.aload_n 0, 1) := by decide +kernel
theorem dX4_setWeight_27 : decode cX4_setWeight 27 = .ok (.getfield 12, 3) := by decide +kernel
theorem dX4_setWeight_30 : decode cX4_setWeight 30 = .ok (.iload_n 1, 1) := by decide +kernel
theorem dX4_setWeight_31 : decode cX4_setWeight 31 = .ok (.invokevirtual 93, 3) := by decide +kernel
theorem dX4_setWeight_34 : decode cX4_setWeight 34 = .ok (.istore_n 3, 1) := by decide +kernel
theorem dX4_setWeight_35 : decode cX4_setWeight 35 = .ok (.iload_n 3, 1) := by decide +kernel
theorem dX4_setWeight_36 : decode cX4_setWeight 36 = .ok (.iload_n 2, 1) := by decide +kernel
theorem dX4_setWeight_37 : decode cX4_setWeight 37 = .ok (.if_icmp .ne 10, 3) := by decide +kernel
theorem dX4_setWeight_40 : decode cX4_setWeight 40 = .ok (.aload_n 0, 1) := by decide +kernel
theorem dX4_setWeight_41 : decode cX4_setWeight 41 = .ok (.iconst 5, 1) := by decide +kernel
theorem dX4_setWeight_42 : decode cX4_setWeight 42 = .ok (.iload_n 2, 1) := by decide +kernel
theorem dX4_setWeight_43 : decode cX4_setWeight 43 = .ok (.invokevirtual 257, 3) := by decide +kernel
theorem dX4_setWeight_46 : decode cX4_setWeight 46 = .ok (.ireturn, 1) := by decide +kernel
theorem dX4_setWeight_47 : decode cX4_setWeight 47 = .ok (.aload_n 0, 1) := by decide +kernel
theorem dX4_setWeight_48 : decode cX4_setWeight 48 = .ok (.getfield 12, 3) := by decide +kernel
theorem dX4_setWeight_51 : decode cX4_setWeight 51 = .ok (.iload_n 1, 1) := by decide +kernel
theorem dX4_setWeight_52 : decode cX4_setWeight 52 = .ok (.iload_n 2, 1) := by decide +kernel
theorem dX4_setWeight_53 : decode cX4_setWeight 53 = .ok (.invokevirtual 263, 3) := by decide +kernel
theorem dX4_setWeight_56 : decode cX4_setWeight 56 = .ok (.iload_n 3, 1) := by decide +kernel
theorem dX4_setWeight_57 : decode cX4_setWeight 57 = .ok (.ireturn, 1) := by decide +kernel
theorem dX4_joinBanks_0 : decode cX4_joinBanks 0 = .ok (.aload_n 0, 1) := by decide +kernel
theorem dX4_joinBanks_1 : decode cX4_joinBanks 1 = .ok (.iload_n 1, 1) := by decide +kernel
theorem dX4_joinBanks_2 : decode cX4_joinBanks 2 = .ok (.iload_n 2, 1) := by decide +kernel
theorem dX4_joinBanks_3 : decode cX4_joinBanks 3 = .ok (.invokevirtual 76, 3) := by decide +kernel
theorem dX4_joinBanks_6 : decode cX4_joinBanks 6 = .ok (.ifCond .ne 5, 3) := by decide +kernel
theorem dX4_joinBanks_9 : decode cX4_joinBanks 9 = .ok (.iconst (-1), 1) := by decide +kernel
theorem dX4_joinBanks_10 : decode cX4_joinBanks 10 = .ok (.ireturn, 1) := by decide +kernel
theorem dX4_joinBanks_11 : decode cX4_joinBanks 11 = .ok (.iload_n 1, 1) := by decide +kernel
theorem dX4_joinBanks_12 : decode cX4_joinBanks 12 = .ok (.iload_n 2, 1) := by decide +kernel
theorem dX4_joinBanks_13 : decode cX4_joinBanks 13 = .ok (.if_icmp .ne 10, 3) := by decide +kernel
theorem dX4_joinBanks_16 : decode cX4_joinBanks 16 = .ok (.aload_n 0, 1) := by decide +kernel
theorem dX4_joinBanks_17 : decode cX4_joinBanks 17 = .ok (.iconst 2, 1) := by decide +kernel
theorem dX4_joinBanks_18 : decode cX4_joinBanks 18 = .ok (.iload_n 1, 1) := by decide +kernel
theorem dX4_joinBanks_19 : decode cX4_joinBanks 19 = .ok (.invokevirtual 257, 3) := by decide +kernel
theorem dX4_joinBanks_22 : decode cX4_joinBanks 22 = .ok (.ireturn, 1) := by decide +kernel
theorem dX4_joinBanks_23 : decode cX4_joinBanks 23 = .ok (.aload_n 0, 1) := by decide +kernel
theorem dX4_joinBanks_24 : decode cX4_joinBanks 24 = .ok (.getfield 12, 3) := by decide +kernel
theorem dX4_joinBanks_27 : decode cX4_joinBanks 27 = .ok (.iload_n 1, 1) := by decide +kernel
theorem dX4_joinBanks_28 : decode cX4_joinBanks 28 = .ok (.iload_n 2, 1) := by decide +kernel
theorem dX4_joinBanks_29 : decode cX4_joinBanks 29 = .ok (.invokevirtual 80, 3) := by decide +kernel
theorem dX4_joinBanks_32 : decode cX4_joinBanks 32 = .ok (.ifCond .eq 17, 3) := by decide +kernel
theorem dX4_joinBanks_35 : decode cX4_joinBanks 35 = .ok (.aload_n 0, 1) := by decide +kernel
theorem dX4_joinBanks_36 : decode cX4_joinBanks 36 = .ok (.iconst 3, 1) := by decide +kernel
theorem dX4_joinBanks_37 : decode cX4_joinBanks 37 = .ok (.aload_n 0, 1) := by decide +kernel
theorem dX4_joinBanks_38 : decode cX4_joinBanks 38 = .ok (.getfield 12, 3) := by decide +kernel
theorem dX4_joinBanks_41 : decode cX4_joinBanks 41 = .ok (.iload_n 1, 1) := by decide +kernel
theorem dX4_joinBanks_42 : decode cX4_joinBanks 42 = .ok (.invokevirtual 96, 3) := by decide +kernel
theorem dX4_joinBanks_45 : decode cX4_joinBanks 45 = .ok (.invokevirtual 257, 3) := by decide +kernel
theorem dX4_joinBanks_48 : decode cX4_joinBanks 48 = .ok (.ireturn, 1) := by decide +kernel
theorem dX4_joinBanks_49 : decode cX4_joinBanks 49 = .ok (.aload_n 0, 1) := by decide +kernel
theorem dX4_joinBanks_50 : decode cX4_joinBanks 50 = .ok (.getfield 12, 3) := by decide +kernel
theorem dX4_joinBanks_53 : decode cX4_joinBanks 53 = .ok (.iload_n 2, 1) := by decide +kernel
theorem dX4_joinBanks_54 : decode cX4_joinBanks 54 = .ok (.invokevirtual 267, 3) := by decide +kernel
theorem dX4_joinBanks_57 : decode cX4_joinBanks 57 = .ok (.aload_n 0, 1) := by decide +kernel
theorem dX4_joinBanks_58 : decode cX4_joinBanks 58 = .ok (.getfield 12, 3) := by decide +kernel
theorem dX4_joinBanks_61 : decode cX4_joinBanks 61 = .ok (.iload_n 1, 1) := by decide +kernel
theorem dX4_joinBanks_62 : decode cX4_joinBanks 62 = .ok (.iload_n 2, 1) := by decide +kernel
theorem dX4_joinBanks_63 : decode cX4_joinBanks 63 = .ok (.invokevirtual 270, 3) := by decide +kernel
theorem dX4_joinBanks_66 : decode cX4_joinBanks 66 = .ok (.aload_n 0, 1) := by decide +kernel
theorem dX4_joinBanks_67 : decode cX4_joinBanks 67 = .ok (.getfield 12, 3) := by decide +kernel
theorem dX4_joinBanks_70 : decode cX4_joinBanks 70 = .ok (.iload_n 1, 1) := by decide +kernel
theorem dX4_joinBanks_71 : decode cX4_joinBanks 71 = .ok (.invokevirtual 135, 3) := by decide +kernel
theorem dX4_joinBanks_74 : decode cX4_joinBanks 74 = .ok (.invokestatic 115, 3) := by decide +kernel
theorem dX4_joinBanks_77 : decode cX4_joinBanks 77 = .ok (.ireturn, 1) := by decide +kernel
theorem dX4_cutRope_0 : decode cX4_cutRope 0 = .ok (.aload_n 0, 1) := by decide +kernel
theorem dX4_cutRope_1 : decode cX4_cutRope 1 = .ok (.iload_n 1, 1) := by decide +kernel
theorem dX4_cutRope_2 : decode cX4_cutRope 2 = .ok (.iload_n 2, 1) := by decide +kernel
theorem dX4_cutRope_3 : decode cX4_cutRope 3 = .ok (.invokevirtual 76, 3) := by decide +kernel
theorem dX4_cutRope_6 : decode cX4_cutRope 6 = .ok (.ifCond .ne 5, 3) := by decide +kernel
theorem dX4_cutRope_9 : decode cX4_cutRope 9 = .ok (.iconst (-1), 1) := by decide +kernel
theorem dX4_cutRope_10 : decode cX4_cutRope 10 = .ok (.ireturn, 1) := by decide +kernel
theorem dX4_cutRope_11 : decode cX4_cutRope 11 = .ok (.aload_n 0, 1) := by decide +kernel
theorem dX4_cutRope_12 : decode cX4_cutRope 12 = .ok (.getfield 12, 3) := by decide +kernel
theorem dX4_cutRope_15 : decode cX4_cutRope 15 = .ok (.iload_n 1, 1) := by decide +kernel
theorem dX4_cutRope_16 : decode cX4_cutRope 16 = .ok (.iload_n 2, 1) := by decide +kernel
theorem dX4_cutRope_17 : decode cX4_cutRope 17 = .ok (.invokevirtual 148, 3) := by decide +kernel
theorem dX4_cutRope_20 : decode cX4_cutRope 20 = .ok (.ifCond .ne 10, 3) := by decide +kernel
theorem dX4_cutRope_23 : decode cX4_cutRope 23 = .ok (.aload_n 0, 1) := by decide +kernel
theorem dX4_cutRope_24 : decode cX4_cutRope 24 = .ok (.iconst 4, 1) := by decide +kernel
theorem dX4_cutRope_25 : decode cX4_cutRope 25 = .ok (.iload_n 1, 1) := by decide +kernel
theorem dX4_cutRope_26 : decode cX4_cutRope 26 = .ok (.invokevirtual 257, 3) := by decide +kernel
theorem dX4_cutRope_29 : decode cX4_cutRope 29 = .ok (.ireturn, 1) := by decide +kernel
theorem dX4_cutRope_30 : decode cX4_cutRope 30 = .ok (.aload_n 0, 1) := by decide +kernel
theorem dX4_cutRope_31 : decode cX4_cutRope 31 = .ok (.getfield 12, 3) := by decide +kernel
theorem dX4_cutRope_34 : decode cX4_cutRope 34 = .ok (.iload_n 1, 1) := by decide +kernel
theorem dX4_cutRope_35 : decode cX4_cutRope 35 = .ok (.iload_n 2, 1) := by decide +kernel
theorem dX4_cutRope_36 : decode cX4_cutRope 36 = .ok (.invokevirtual 160, 3) := by decide +kernel
theorem dX4_cutRope_39 : decode cX4_cutRope 39 = .ok (.istore_n 3, 1) := by decide +kernel
theorem dX4_cutRope_40 : decode cX4_cutRope 40 = .ok (.aload_n 0, 1) := by decide +kernel
theorem dX4_cutRope_41 : decode cX4_cutRope 41 = .ok (.getfield 12, 3) := by decide +kernel
theorem dX4_cutRope_44 : decode cX4_cutRope 44 = .ok (.iload_n 3, 1) := by decide +kernel
theorem dX4_cutRope_45 : decode cX4_cutRope 45 = .ok (.iload_n 3, 1) := by decide +kernel
theorem dX4_cutRope_46 : decode cX4_cutRope 46 = .ok (.iload_n 1, 1) := by decide +kernel
theorem dX4_cutRope_47 : decode cX4_cutRope 47 = .ok (.if_icmp .ne 7, 3) := by decide +kernel
theorem dX4_cutRope_50 : decode cX4_cutRope 50 = .ok (.iload_n 2, 1) := by decide +kernel
theorem dX4_cutRope_51 : decode cX4_cutRope 51 = .ok (.goto 4, 3) := by decide +kernel
theorem dX4_cutRope_54 : decode cX4_cutRope 54 = .ok (.iload_n 1, 1) := by decide +kernel
theorem dX4_cutRope_55 : decode cX4_cutRope 55 = .ok (.invokevirtual 273, 3) := by decide +kernel
theorem dX4_cutRope_58 : decode cX4_cutRope 58 = .ok (.iload_n 3, 1) := by decide +kernel
theorem dX4_cutRope_59 : decode cX4_cutRope 59 = .ok (.ireturn, 1) := by decide +kernel
theorem dX4_turnRound_0 : decode cX4_turnRound 0 = .ok (.aload_n 0, 1) := by decide +kernel
theorem dX4_turnRound_1 : decode cX4_turnRound 1 = .ok (.getfield 12, 3) := by decide +kernel
theorem dX4_turnRound_4 : decode cX4_turnRound 4 = .ok (.iload_n 1, 1) := by decide +kernel
theorem dX4_turnRound_5 : decode cX4_turnRound 5 = .ok (.invokevirtual 89, 3) := by decide +kernel
theorem dX4_turnRound_8 : decode cX4_turnRound 8 = .ok (.ifCond .ne 5, 3) := by decide +kernel
theorem dX4_turnRound_11 : decode cX4_turnRound 11 = .ok (.iconst (-1), 1) := by decide +kernel
theorem dX4_turnRound_12 : decode cX4_turnRound 12 = .ok (.ireturn, 1) := by decide +kernel
theorem dX4_turnRound_13 : decode cX4_turnRound 13 = .ok (.aload_n 0, 1) := by decide +kernel
theorem dX4_turnRound_14 : decode cX4_turnRound 14 = .ok (.getfield 12, 3) := by decide +kernel
theorem dX4_turnRound_17 : decode cX4_turnRound 17 = .ok (.iload_n 1, 1) := by decide +kernel
theorem dX4_turnRound_18 : decode cX4_turnRound 18 = .ok (.invokevirtual 96, 3) := by decide +kernel
theorem dX4_turnRound_21 : decode cX4_turnRound 21 = .ok (.istore_n 2, 1) := by decide +kernel
theorem dX4_turnRound_22 : decode cX4_turnRound 22 = .ok (.iload_n 2, 1) := by decide +kernel
theorem dX4_turnRound_23 : decode cX4_turnRound 23 = .ok (.iload_n 1, 1) := by decide +kernel
theorem dX4_turnRound_24 : decode cX4_turnRound 24 = .ok (.if_icmp .ne 11, 3) := by decide +kernel
theorem dX4_turnRound_27 : decode cX4_turnRound 27 = .ok (.aload_n 0, 1) := by decide +kernel
theorem dX4_turnRound_28 : decode cX4_turnRound 28 = .ok (.bipush 7, 2) := by decide +kernel
theorem dX4_turnRound_30 : decode cX4_turnRound 30 = .ok (.iload_n 1, 1) := by decide +kernel
theorem dX4_turnRound_31 : decode cX4_turnRound 31 = .ok (.invokevirtual 257, 3) := by decide +kernel
theorem dX4_turnRound_34 : decode cX4_turnRound 34 = .ok (.ireturn, 1) := by decide +kernel
theorem dX4_turnRound_35 : decode cX4_turnRound 35 = .ok (.aload_n 0, 1) := by decide +kernel
theorem dX4_turnRound_36 : decode cX4_turnRound 36 = .ok (.getfield 12, 3) := by decide +kernel
theorem dX4_turnRound_39 : decode cX4_turnRound 39 = .ok (.iload_n 1, 1) := by decide +kernel
theorem dX4_turnRound_40 : decode cX4_turnRound 40 = .ok (.invokevirtual 267, 3) := by decide +kernel
theorem dX4_turnRound_43 : decode cX4_turnRound 43 = .ok (.aload_n 0, 1) := by decide +kernel
theorem dX4_turnRound_44 : decode cX4_turnRound 44 = .ok (.getfield 12, 3) := by decide +kernel
theorem dX4_turnRound_47 : decode cX4_turnRound 47 = .ok (.invokevirtual 276, 3) := by decide +kernel
theorem dX4_turnRound_50 : decode cX4_turnRound 50 = .ok (.iload_n 2, 1) := by decide +kernel
theorem dX4_turnRound_51 : decode cX4_turnRound 51 = .ok (.ireturn, 1) := by decide +kernel
theorem dX4_raisePart_0 : decode cX4_raisePart 0 = .ok (.aload_n 0, 1) := by decide +kernel
theorem dX4_raisePart_1 : decode cX4_raisePart 1 = .ok (.getfield 12, 3) := by decide +kernel
theorem dX4_raisePart_4 : decode cX4_raisePart 4 = .ok (.iload_n 1, 1) := by decide +kernel
theorem dX4_raisePart_5 : decode cX4_raisePart 5 = .ok (.invokevirtual 89, 3) := by decide +kernel
theorem dX4_raisePart_8 : decode cX4_raisePart 8 = .ok (.ifCond .ne 5, 3) := by decide +kernel
theorem dX4_raisePart_11 : decode cX4_raisePart 11 = .ok (.iconst (-1), 1) := by decide +kernel
theorem dX4_raisePart_12 : decode cX4_raisePart 12 = .ok (.ireturn, 1) := by decide +kernel
theorem dX4_raisePart_13 : decode cX4_raisePart 13 = .ok (.iload_n 2, 1) := by decide +kernel
theorem dX4_raisePart_14 : decode cX4_raisePart 14 = .ok (.bipush (-99), 2) := by decide +kernel
theorem dX4_raisePart_16 : decode cX4_raisePart 16 = .ok (.if_icmp .lt 9, 3) := by decide +kernel
theorem dX4_raisePart_19 : decode cX4_raisePart 19 = .ok (.iload_n 2, 1) := by decide +kernel
theorem dX4_raisePart_20 : decode cX4_raisePart 20 = .ok (.bipush 99, 2) := by decide +kernel
theorem dX4_raisePart_22 : decode cX4_raisePart 22 = .ok (.if_icmp .le 6, 3) := by decide +kernel
theorem dX4_raisePart_25 : decode cX4_raisePart 25 = .ok (.bipush (-2), 2) := by decide +kernel
theorem dX4_raisePart_27 : decode cX4_raisePart 27 = .ok (.ireturn, 1) := by decide +kernel
theorem dX4_raisePart_28 : decode cX4_raisePart 28 = .ok (.aload_n 0, 1) := by decide +kernel
theorem dX4_raisePart_29 : decode cX4_raisePart 29 = .ok (.getfield 12, 3) := by decide +kernel
theorem dX4_raisePart_32 : decode cX4_raisePart 32 = .ok (.iload_n 1, 1) := by decide +kernel
theorem dX4_raisePart_33 : decode cX4_raisePart 33 = .ok (.invokevirtual 135, 3) := by decide +kernel
theorem dX4_raisePart_36 : decode cX4_raisePart 36 = .ok (.istore_n 3, 1) := by decide +kernel
theorem dX4_raisePart_37 : decode cX4_raisePart 37 = .ok (.aload_n 0, 1) := by decide +kernel
theorem dX4_raisePart_38 : decode cX4_raisePart 38 = .ok (.getfield 12, 3) := by decide +kernel
theorem dX4_raisePart_41 : decode cX4_raisePart 41 = .ok (.iload_n 3, 1) := by decide +kernel
theorem dX4_raisePart_42 : decode cX4_raisePart 42 = .ok (.iload_n 2, 1) := by decide +kernel
theorem dX4_raisePart_43 : decode cX4_raisePart 43 = .ok (.invokevirtual 279, 3) := by decide +kernel
theorem dX4_raisePart_46 : decode cX4_raisePart 46 = .ok (.istore 4, 2) := by decide +kernel
theorem dX4_raisePart_48 : decode cX4_raisePart 48 = .ok (.iload 4, 2) := by decide +kernel
theorem dX4_raisePart_50 : decode cX4_raisePart 50 = .ok (.ifCond .le 8, 3) := by decide +kernel
theorem dX4_raisePart_53 : decode cX4_raisePart 53 = .ok (.iload 4, 2) := by decide +kernel
theorem dX4_raisePart_55 : decode cX4_raisePart 55 = .ok (.goto 13, 3) := by decide +kernel
theorem dX4_raisePart_58 : decode cX4_raisePart 58 = .ok (.aload_n 0, 1) := by decide +kernel
theorem dX4_raisePart_59 : decode cX4_raisePart 59 = .ok (.bipush 6, 2) := by decide +kernel
theorem dX4_raisePart_61 : decode cX4_raisePart 61 = .ok (.iload_n 3, 1) := by decide +kernel
theorem dX4_raisePart_62 : decode cX4_raisePart 62 = .ok (.invokestatic 115, 3) := by decide +kernel
theorem dX4_raisePart_65 : decode cX4_raisePart 65 = .ok (.invokevirtual 257, 3) := by decide +kernel
theorem dX4_raisePart_68 : decode cX4_raisePart 68 = .ok (.ireturn, 1) := by decide +kernel
theorem dX4_carryOut_0 : decode cX4_carryOut 0 = .ok (.aload_n 0, 1) := by decide +kernel
theorem dX4_carryOut_1 : decode cX4_carryOut 1 = .ok (.getfield 41, 3) := by decide +kernel
theorem dX4_carryOut_4 : decode cX4_carryOut 4 = .ok (.iload_n 1, 1) := by decide +kernel
theorem dX4_carryOut_5 : decode cX4_carryOut 5 = .ok (.invokevirtual 282, 3) := by decide +kernel
theorem dX4_carryOut_8 : decode cX4_carryOut 8 = .ok (.istore_n 2, 1) := by decide +kernel
theorem dX4_carryOut_9 : decode cX4_carryOut 9 = .ok (.aload_n 0, 1) := by decide +kernel
theorem dX4_carryOut_10 : decode cX4_carryOut 10 = .ok (.getfield 41, 3) := by decide +kernel
theorem dX4_carryOut_13 : decode cX4_carryOut 13 = .ok (.iload_n 1, 1) := by decide +kernel
theorem dX4_carryOut_14 : decode cX4_carryOut 14 = .ok (.invokevirtual 283, 3) := by decide +kernel
theorem dX4_carryOut_17 : decode cX4_carryOut 17 = .ok (.istore_n 3, 1) := by decide +kernel
theorem dX4_carryOut_18 : decode cX4_carryOut 18 = .ok (.aload_n 0, 1) := by decide +kernel
theorem dX4_carryOut_19 : decode cX4_carryOut 19 = .ok (.getfield 41, 3) := by decide +kernel
theorem dX4_carryOut_22 : decode cX4_carryOut 22 = .ok (.iload_n 1, 1) := by decide +kernel
theorem dX4_carryOut_23 : decode cX4_carryOut 23 = .ok (.invokevirtual 286, 3) := by decide +kernel
theorem dX4_carryOut_26 : decode cX4_carryOut 26 = .ok (.lookupswitch 98 #[(98, 58), (99, 78), (106, 71), (116, 85), (117, 91), (119, 64)], 58) := by decide +kernel
theorem dX4_carryOut_84 : decode cX4_carryOut 84 = .ok (.aload_n 0, 1) := by decide +kernel
theorem dX4_carryOut_85 : decode cX4_carryOut 85 = .ok (.iload_n 2, 1) := by decide +kernel
theorem dX4_carryOut_86 : decode cX4_carryOut 86 = .ok (.invokevirtual 53, 3) := by decide +kernel
theorem dX4_carryOut_89 : decode cX4_carryOut 89 = .ok (.ireturn, 1) := by decide +kernel
theorem dX4_carryOut_90 : decode cX4_carryOut 90 = .ok (.aload_n 0, 1) := by decide +kernel
theorem dX4_carryOut_91 : decode cX4_carryOut 91 = .ok (.iload_n 2, 1) := by decide +kernel
theorem dX4_carryOut_92 : decode cX4_carryOut 92 = .ok (.iload_n 3, 1) := by decide +kernel
theorem dX4_carryOut_93 : decode cX4_carryOut 93 = .ok (.invokevirtual 60, 3) := by decide +kernel
theorem dX4_carryOut_96 : decode cX4_carryOut 96 = .ok (.ireturn, 1) := by decide +kernel
theorem dX4_carryOut_97 : decode cX4_carryOut 97 = .ok (.aload_n 0, 1) := by decide +kernel
theorem dX4_carryOut_98 : decode cX4_carryOut 98 = .ok (.iload_n 2, 1) := by decide +kernel
theorem dX4_carryOut_99 : decode cX4_carryOut 99 = .ok (.iload_n 3, 1) := by decide +kernel
theorem dX4_carryOut_100 : decode cX4_carryOut 100 = .ok (.invokevirtual 64, 3) := by decide +kernel
theorem dX4_carryOut_103 : decode cX4_carryOut 103 = .ok (.ireturn, 1) := by decide +kernel
theorem dX4_carryOut_104 : decode cX4_carryOut 104 = .ok (.aload_n 0, 1) := by decide +kernel
theorem dX4_carryOut_105 : decode cX4_carryOut 105 = .ok (.iload_n 2, 1) := by decide +kernel
theorem dX4_carryOut_106 : decode cX4_carryOut 106 = .ok (.iload_n 3, 1) := by decide +kernel
theorem dX4_carryOut_107 : decode cX4_carryOut 107 = .ok (.invokevirtual 67, 3) := by decide +kernel
theorem dX4_carryOut_110 : decode cX4_carryOut 110 = .ok (.ireturn, 1) := by decide +kernel
theorem dX4_carryOut_111 : decode cX4_carryOut 111 = .ok (.aload_n 0, 1) := by decide +kernel
theorem dX4_carryOut_112 : decode cX4_carryOut 112 = .ok (.iload_n 2, 1) := by decide +kernel
theorem dX4_carryOut_113 : decode cX4_carryOut 113 = .ok (.invokevirtual 70, 3) := by decide +kernel
theorem dX4_carryOut_116 : decode cX4_carryOut 116 = .ok (.ireturn, 1) := by decide +kernel
theorem dX4_carryOut_117 : decode cX4_carryOut 117 = .ok (.aload_n 0, 1) := by decide +kernel
theorem dX4_carryOut_118 : decode cX4_carryOut 118 = .ok (.iload_n 2, 1) := by decide +kernel
theorem dX4_carryOut_119 : decode cX4_carryOut 119 = .ok (.iload_n 3, 1) := by decide +kernel
theorem dX4_carryOut_120 : decode cX4_carryOut 120 = .ok (.invokevirtual 73, 3) := by decide +kernel
theorem dX4_carryOut_123 : decode cX4_carryOut 123 = .ok (.ireturn, 1) := by decide +kernel
theorem dX4_carryOut_124 : decode cX4_carryOut 124 = .ok (.bipush (-2), 2) := by decide +kernel
theorem dX4_carryOut_126 : decode cX4_carryOut 126 = .ok (.ireturn, 1) := by decide +kernel
theorem dX4_refuse_0 : decode cX4_refuse 0 = .ok (.aload_n 0, 1) := by decide +kernel
theorem dX4_refuse_1 : decode cX4_refuse 1 = .ok (.iload_n 1, 1) := by decide +kernel
theorem dX4_refuse_2 : decode cX4_refuse 2 = .ok (.putfield 196, 3) := by decide +kernel
theorem dX4_refuse_5 : decode cX4_refuse 5 = .ok (.aload_n 0, 1) := by decide +kernel
theorem dX4_refuse_6 : decode cX4_refuse 6 = .ok (.iload_n 2, 1) := by decide +kernel
theorem dX4_refuse_7 : decode cX4_refuse 7 = .ok (.putfield 199, 3) := by decide +kernel
theorem dX4_refuse_10 : decode cX4_refuse 10 = .ok (.aload_n 0, 1) := by decide +kernel
theorem dX4_refuse_11 : decode cX4_refuse 11 = .ok (.aload_n 0, 1) := by decide +kernel
theorem dX4_refuse_12 : decode cX4_refuse 12 = .ok (.getfield 45, 3) := by decide +kernel
theorem dX4_refuse_15 : decode cX4_refuse 15 = .ok (.putfield 202, 3) := by decide +kernel
theorem dX4_refuse_18 : decode cX4_refuse 18 = .ok (.bipush (-3), 2) := by decide +kernel
theorem dX4_refuse_20 : decode cX4_refuse 20 = .ok (.ireturn, 1) := by decide +kernel
theorem dX4_settle_0 : decode cX4_settle 0 = .ok (.iload_n 1, 1) := by decide +kernel
theorem dX4_settle_1 : decode cX4_settle 1 = .ok (.ifCond .lt 10, 3) := by decide +kernel
theorem dX4_settle_4 : decode cX4_settle 4 = .ok (.aload_n 0, 1) := by decide +kernel
theorem dX4_settle_5 : decode cX4_settle 5 = .ok (.getfield 22, 3) := by decide +kernel
theorem dX4_settle_8 : decode cX4_settle 8 = .ok (.invokevirtual 289, 3) := by decide +kernel
theorem dX4_settle_11 : decode cX4_settle 11 = .ok (.iload_n 1, 1) := by decide +kernel
theorem dX4_settle_12 : decode cX4_settle 12 = .ok (.ireturn, 1) := by decide +kernel
theorem dX4_areThere_0 : decode cX4_areThere 0 = .ok (.aload_n 0, 1) := by decide +kernel
theorem dX4_areThere_1 : decode cX4_areThere 1 = .ok (.getfield 12, 3) := by decide +kernel
theorem dX4_areThere_4 : decode cX4_areThere 4 = .ok (.iload_n 1, 1) := by decide +kernel
theorem dX4_areThere_5 : decode cX4_areThere 5 = .ok (.invokevirtual 89, 3) := by decide +kernel
theorem dX4_areThere_8 : decode cX4_areThere 8 = .ok (.ifCond .eq 18, 3) := by decide +kernel
theorem dX4_areThere_11 : decode cX4_areThere 11 = .ok (.aload_n 0, 1) := by decide +kernel
theorem dX4_areThere_12 : decode cX4_areThere 12 = .ok (.getfield 12, 3) := by decide +kernel
theorem dX4_areThere_15 : decode cX4_areThere 15 = .ok (.iload_n 2, 1) := by decide +kernel
theorem dX4_areThere_16 : decode cX4_areThere 16 = .ok (.invokevirtual 89, 3) := by decide +kernel
theorem dX4_areThere_19 : decode cX4_areThere 19 = .ok (.ifCond .eq 7, 3) := by decide +kernel
theorem dX4_areThere_22 : decode cX4_areThere 22 = .ok (.iconst 1, 1) := by decide +kernel
theorem dX4_areThere_23 : decode cX4_areThere 23 = .ok (.goto 4, 3) := by decide +kernel
theorem dX4_areThere_26 : decode cX4_areThere 26 = .ok (.iconst 0, 1) := by decide +kernel
theorem dX4_areThere_27 : decode cX4_areThere 27 = .ok (.ireturn, 1) := by decide +kernel
theorem dX4_bit_0 : decode cX4_bit 0 = .ok (.iload_n 0, 1) := by decide +kernel
theorem dX4_bit_1 : decode cX4_bit 1 = .ok (.ifCond .lt 9, 3) := by decide +kernel
theorem dX4_bit_4 : decode cX4_bit 4 = .ok (.iload_n 0, 1) := by decide +kernel
theorem dX4_bit_5 : decode cX4_bit 5 = .ok (.bipush 12, 2) := by decide +kernel
theorem dX4_bit_7 : decode cX4_bit 7 = .ok (.if_icmp .lt 7, 3) := by decide +kernel
theorem dX4_bit_10 : decode cX4_bit 10 = .ok (.iconst 0, 1) := by decide +kernel
theorem dX4_bit_11 : decode cX4_bit 11 = .ok (.goto 6, 3) := by decide +kernel
theorem dX4_bit_14 : decode cX4_bit 14 = .ok (.iconst 1, 1) := by decide +kernel
theorem dX4_bit_15 : decode cX4_bit 15 = .ok (.iload_n 0, 1) := by decide +kernel
theorem dX4_bit_16 : decode cX4_bit 16 = .ok (.ishl, 1) := by decide +kernel
theorem dX4_bit_17 : decode cX4_bit 17 = .ok (.ireturn, 1) := by decide +kernel
theorem dX4_lowestIn_0 : decode cX4_lowestIn 0 = .ok (.iload_n 0, 1) := by decide +kernel
theorem dX4_lowestIn_1 : decode cX4_lowestIn 1 = .ok (.iload_n 0, 1) := by decide +kernel
theorem dX4_lowestIn_2 : decode cX4_lowestIn 2 = .ok (.ineg, 1) := by decide +kernel
theorem dX4_lowestIn_3 : decode cX4_lowestIn 3 = .ok (.iand, 1) := by decide +kernel
theorem dX4_lowestIn_4 : decode cX4_lowestIn 4 = .ok (.iconst 1, 1) := by decide +kernel
theorem dX4_lowestIn_5 : decode cX4_lowestIn 5 = .ok (.isub, 1) := by decide +kernel
theorem dX4_lowestIn_6 : decode cX4_lowestIn 6 = .ok (.invokestatic 115, 3) := by decide +kernel
theorem dX4_lowestIn_9 : decode cX4_lowestIn 9 = .ok (.ireturn, 1) := by decide +kernel
theorem dX4_bitsOf_0 : decode cX4_bitsOf 0 = .ok (.fload_n 0, 1) := by decide +kernel
theorem dX4_bitsOf_1 : decode cX4_bitsOf 1 = .ok (.fconst 0, 1) := by decide +kernel
theorem dX4_bitsOf_2 : decode cX4_bitsOf 2 = .ok (.fcmp .l, 1) := by decide +kernel
theorem dX4_bitsOf_3 : decode cX4_bitsOf 3 = .ok (.ifCond .gt 5, 3) := by decide +kernel
theorem dX4_bitsOf_6 : decode cX4_bitsOf 6 = .ok (.iconst 0, 1) := by decide +kernel
theorem dX4_bitsOf_7 : decode cX4_bitsOf 7 = .ok (.ireturn, 1) := by decide +kernel
theorem dX4_bitsOf_8 : decode cX4_bitsOf 8 = .ok (.fload_n 0, 1) := by decide +kernel
theorem dX4_bitsOf_9 : decode cX4_bitsOf 9 = .ok (.fstore_n 1, 1) := by decide +kernel
theorem dX4_bitsOf_10 : decode cX4_bitsOf 10 = .ok (.bipush 127, 2) := by decide +kernel
theorem dX4_bitsOf_12 : decode cX4_bitsOf 12 = .ok (.istore_n 2, 1) := by decide +kernel
theorem dX4_bitsOf_13 : decode cX4_bitsOf 13 = .ok (.iconst 0, 1) := by decide +kernel
theorem dX4_bitsOf_14 : decode cX4_bitsOf 14 = .ok (.istore_n 3, 1) := by decide +kernel
theorem dX4_bitsOf_15 : decode cX4_bitsOf 15 = .ok (.iload_n 3, 1) := by decide +kernel
theorem dX4_bitsOf_16 : decode cX4_bitsOf 16 = .ok (.bipush 127, 2) := by decide +kernel
theorem dX4_bitsOf_18 : decode cX4_bitsOf 18 = .ok (.if_icmp .ge 22, 3) := by decide +kernel
theorem dX4_bitsOf_21 : decode cX4_bitsOf 21 = .ok (.fload_n 1, 1) := by decide +kernel
theorem dX4_bitsOf_22 : decode cX4_bitsOf 22 = .ok (.fconst 2, 1) := by decide +kernel
theorem dX4_bitsOf_23 : decode cX4_bitsOf 23 = .ok (.fcmp .l, 1) := by decide +kernel
theorem dX4_bitsOf_24 : decode cX4_bitsOf 24 = .ok (.ifCond .lt 16, 3) := by decide +kernel
theorem dX4_bitsOf_27 : decode cX4_bitsOf 27 = .ok (.fload_n 1, 1) := by decide +kernel
theorem dX4_bitsOf_28 : decode cX4_bitsOf 28 = .ok (.fconst 2, 1) := by decide +kernel
theorem dX4_bitsOf_29 : decode cX4_bitsOf 29 = .ok (.fdiv, 1) := by decide +kernel
theorem dX4_bitsOf_30 : decode cX4_bitsOf 30 = .ok (.fstore_n 1, 1) := by decide +kernel
theorem dX4_bitsOf_31 : decode cX4_bitsOf 31 = .ok (.iinc 2 1, 3) := by decide +kernel
theorem dX4_bitsOf_34 : decode cX4_bitsOf 34 = .ok (.iinc 3 1, 3) := by decide +kernel
theorem dX4_bitsOf_37 : decode cX4_bitsOf 37 = .ok (.goto (-22), 3) := by decide +kernel
theorem dX4_bitsOf_40 : decode cX4_bitsOf 40 = .ok (.iconst 0, 1) := by decide +kernel
theorem dX4_bitsOf_41 : decode cX4_bitsOf 41 = .ok (.istore_n 3, 1) := by decide +kernel
theorem dX4_bitsOf_42 : decode cX4_bitsOf 42 = .ok (.iload_n 3, 1) := by decide +kernel
theorem dX4_bitsOf_43 : decode cX4_bitsOf 43 = .ok (.bipush 126, 2) := by decide +kernel
theorem dX4_bitsOf_45 : decode cX4_bitsOf 45 = .ok (.if_icmp .ge 22, 3) := by decide +kernel
theorem dX4_bitsOf_48 : decode cX4_bitsOf 48 = .ok (.fload_n 1, 1) := by decide +kernel
theorem dX4_bitsOf_49 : decode cX4_bitsOf 49 = .ok (.fconst 1, 1) := by decide +kernel
theorem dX4_bitsOf_50 : decode cX4_bitsOf 50 = .ok (.fcmp .g, 1) := by decide +kernel
theorem dX4_bitsOf_51 : decode cX4_bitsOf 51 = .ok (.ifCond .ge 16, 3) := by decide +kernel
theorem dX4_bitsOf_54 : decode cX4_bitsOf 54 = .ok (.fload_n 1, 1) := by decide +kernel
theorem dX4_bitsOf_55 : decode cX4_bitsOf 55 = .ok (.fconst 2, 1) := by decide +kernel
theorem dX4_bitsOf_56 : decode cX4_bitsOf 56 = .ok (.fmul, 1) := by decide +kernel
theorem dX4_bitsOf_57 : decode cX4_bitsOf 57 = .ok (.fstore_n 1, 1) := by decide +kernel
theorem dX4_bitsOf_58 : decode cX4_bitsOf 58 = .ok (.iinc 2 (-1), 3) := by decide +kernel
theorem dX4_bitsOf_61 : decode cX4_bitsOf 61 = .ok (.iinc 3 1, 3) := by decide +kernel
theorem dX4_bitsOf_64 : decode cX4_bitsOf 64 = .ok (.goto (-22), 3) := by decide +kernel
theorem dX4_bitsOf_67 : decode cX4_bitsOf 67 = .ok (.iload_n 2, 1) := by decide +kernel
theorem dX4_bitsOf_68 : decode cX4_bitsOf 68 = .ok (.bipush 23, 2) := by decide +kernel
theorem dX4_bitsOf_70 : decode cX4_bitsOf 70 = .ok (.ishl, 1) := by decide +kernel
theorem dX4_bitsOf_71 : decode cX4_bitsOf 71 = .ok (.fload_n 1, 1) := by decide +kernel
theorem dX4_bitsOf_72 : decode cX4_bitsOf 72 = .ok (.fconst 1, 1) := by decide +kernel
theorem dX4_bitsOf_73 : decode cX4_bitsOf 73 = .ok (.fsub, 1) := by decide +kernel
theorem dX4_bitsOf_74 : decode cX4_bitsOf 74 = .ok (.ldc_w 292, 3) := by decide +kernel
theorem dX4_bitsOf_77 : decode cX4_bitsOf 77 = .ok (.fmul, 1) := by decide +kernel
theorem dX4_bitsOf_78 : decode cX4_bitsOf 78 = .ok (.f2i, 1) := by decide +kernel
theorem dX4_bitsOf_79 : decode cX4_bitsOf 79 = .ok (.ior, 1) := by decide +kernel
theorem dX4_bitsOf_80 : decode cX4_bitsOf 80 = .ok (.ireturn, 1) := by decide +kernel
theorem dX5_init_0 : decode cX5_init 0 = .ok (.aload_n 0, 1) := by decide +kernel
theorem dX5_init_1 : decode cX5_init 1 = .ok (.invokespecial 3, 3) := by decide +kernel
theorem dX5_init_4 : decode cX5_init 4 = .ok (.aload_n 0, 1) := by decide +kernel
theorem dX5_init_5 : decode cX5_init 5 = .ok (.sipush 304, 3) := by decide +kernel
theorem dX5_init_8 : decode cX5_init 8 = .ok (.newarray .int, 2) := by decide +kernel
theorem dX5_init_10 : decode cX5_init 10 = .ok (.putfield 9, 3) := by decide +kernel
theorem dX5_init_13 : decode cX5_init 13 = .ok (.aload_n 0, 1) := by decide +kernel
theorem dX5_init_14 : decode cX5_init 14 = .ok (.sipush 304, 3) := by decide +kernel
theorem dX5_init_17 : decode cX5_init 17 = .ok (.newarray .int, 2) := by decide +kernel
theorem dX5_init_19 : decode cX5_init 19 = .ok (.putfield 13, 3) := by decide +kernel
theorem dX5_init_22 : decode cX5_init 22 = .ok (.aload_n 0, 1) := by decide +kernel
theorem dX5_init_23 : decode cX5_init 23 = .ok (.sipush 304, 3) := by decide +kernel
theorem dX5_init_26 : decode cX5_init 26 = .ok (.newarray .int, 2) := by decide +kernel
theorem dX5_init_28 : decode cX5_init 28 = .ok (.putfield 16, 3) := by decide +kernel
theorem dX5_init_31 : decode cX5_init 31 = .ok (.aload_n 0, 1) := by decide +kernel
theorem dX5_init_32 : decode cX5_init 32 = .ok (.bipush 8, 2) := by decide +kernel
theorem dX5_init_34 : decode cX5_init 34 = .ok (.sipush 304, 3) := by decide +kernel
theorem dX5_init_37 : decode cX5_init 37 = .ok (.multianewarray 19 2, 4) := by decide +kernel
theorem dX5_init_41 : decode cX5_init 41 = .ok (.putfield 21, 3) := by decide +kernel
theorem dX5_init_44 : decode cX5_init 44 = .ok (.aload_n 0, 1) := by decide +kernel
theorem dX5_init_45 : decode cX5_init 45 = .ok (.iconst (-1), 1) := by decide +kernel
theorem dX5_init_46 : decode cX5_init 46 = .ok (.putfield 24, 3) := by decide +kernel
theorem dX5_init_49 : decode cX5_init 49 = .ok (.aload_n 0, 1) := by decide +kernel
theorem dX5_init_50 : decode cX5_init 50 = .ok (.bipush 46, 2) := by decide +kernel
theorem dX5_init_52 : decode cX5_init 52 = .ok (.newarray .int, 2) := by decide +kernel
theorem dX5_init_54 : decode cX5_init 54 = .ok (.putfield 28, 3) := by decide +kernel
theorem dX5_init_57 : decode cX5_init 57 = .ok (.aload_n 0, 1) := by decide +kernel
theorem dX5_init_58 : decode cX5_init 58 = .ok (.bipush 80, 2) := by decide +kernel
theorem dX5_init_60 : decode cX5_init 60 = .ok (.newarray .char, 2) := by decide +kernel
theorem dX5_init_62 : decode cX5_init 62 = .ok (.putfield 31, 3) := by decide +kernel
theorem dX5_init_65 : decode cX5_init 65 = .ok (.aload_n 0, 1) := by decide +kernel
theorem dX5_init_66 : decode cX5_init 66 = .ok (.bipush 70, 2) := by decide +kernel
theorem dX5_init_68 : decode cX5_init 68 = .ok (.newarray .int, 2) := by decide +kernel
theorem dX5_init_70 : decode cX5_init 70 = .ok (.putfield 35, 3) := by decide +kernel
theorem dX5_init_73 : decode cX5_init 73 = .ok (.return_, 1) := by decide +kernel
theorem dX5_isBetween_0 : decode cX5_isBetween 0 = .ok (.iload_n 0, 1) := by decide +kernel
theorem dX5_isBetween_1 : decode cX5_isBetween 1 = .ok (.iload_n 1, 1) := by decide +kernel
theorem dX5_isBetween_2 : decode cX5_isBetween 2 = .ok (.if_icmp .lt 12, 3) := by decide +kernel
theorem dX5_isBetween_5 : decode cX5_isBetween 5 = .ok (.iload_n 0, 1) := by decide +kernel
theorem dX5_isBetween_6 : decode cX5_isBetween 6 = .ok (.iload_n 2, 1) := by decide +kernel
theorem dX5_isBetween_7 : decode cX5_isBetween 7 = .ok (.if_icmp .gt 7, 3) := by decide +kernel
theorem dX5_isBetween_10 : decode cX5_isBetween 10 = .ok (.iconst 1, 1) := by decide +kernel
theorem dX5_isBetween_11 : decode cX5_isBetween 11 = .ok (.goto 4, 3) := by decide +kernel
theorem dX5_isBetween_14 : decode cX5_isBetween 14 = .ok (.iconst 0, 1) := by decide +kernel
theorem dX5_isBetween_15 : decode cX5_isBetween 15 = .ok (.ireturn, 1) := by decide +kernel
theorem dX5_copyRow_0 : decode cX5_copyRow 0 = .ok (.iconst 0, 1) := by decide +kernel
theorem dX5_copyRow_1 : decode cX5_copyRow 1 = .ok (.istore_n 2, 1) := by decide +kernel
theorem dX5_copyRow_2 : decode cX5_copyRow 2 = .ok (.iload_n 2, 1) := by decide +kernel
theorem dX5_copyRow_3 : decode cX5_copyRow 3 = .ok (.sipush 304, 3) := by decide +kernel
theorem dX5_copyRow_6 : decode cX5_copyRow 6 = .ok (.if_icmp .ge 15, 3) := by decide +kernel
theorem dX5_copyRow_9 : decode cX5_copyRow 9 = .ok (.aload_n 1, 1) := by decide +kernel
theorem dX5_copyRow_10 : decode cX5_copyRow 10 = .ok (.iload_n 2, 1) := by decide +kernel
theorem dX5_copyRow_11 : decode cX5_copyRow 11 = .ok (.aload_n 0, 1) := by decide +kernel
theorem dX5_copyRow_12 : decode cX5_copyRow 12 = .ok (.iload_n 2, 1) := by decide +kernel
theorem dX5_copyRow_13 : decode cX5_copyRow 13 = .ok (.iaload, 1) := by decide +kernel
theorem dX5_copyRow_14 : decode cX5_copyRow 14 = .ok (.iastore, 1) := by decide +kernel
theorem dX5_copyRow_15 : decode cX5_copyRow 15 = .ok (.iinc 2 1, 3) := by decide +kernel
theorem dX5_copyRow_18 : decode cX5_copyRow 18 = .ok (.goto (-16), 3) := by decide +kernel
theorem dX5_copyRow_21 : decode cX5_copyRow 21 = .ok (.return_, 1) := by decide +kernel
theorem dX5_refuse_0 : decode cX5_refuse 0 = .ok (.iload_n 1, 1) := by decide +kernel
theorem dX5_refuse_1 : decode cX5_refuse 1 = .ok (.ifCond .eq 32, 3) := by decide +kernel
theorem dX5_refuse_4 : decode cX5_refuse 4 = .ok (.aload_n 0, 1) := by decide +kernel
theorem dX5_refuse_5 : decode cX5_refuse 5 = .ok (.iload_n 2, 1) := by decide +kernel
theorem dX5_refuse_6 : decode cX5_refuse 6 = .ok (.putfield 38, 3) := by decide +kernel
theorem dX5_refuse_9 : decode cX5_refuse 9 = .ok (.aload_n 0, 1) := by decide +kernel
theorem dX5_refuse_10 : decode cX5_refuse 10 = .ok (.iload_n 3, 1) := by decide +kernel
theorem dX5_refuse_11 : decode cX5_refuse 11 = .ok (.putfield 41, 3) := by decide +kernel
theorem dX5_refuse_14 : decode cX5_refuse 14 = .ok (.aload_n 0, 1) := by decide +kernel
theorem dX5_refuse_15 : decode cX5_refuse 15 = .ok (.aload_n 0, 1) := by decide +kernel
theorem dX5_refuse_16 : decode cX5_refuse 16 = .ok (.getfield 44, 3) := by decide +kernel
theorem dX5_refuse_19 : decode cX5_refuse 19 = .ok (.ifCond .eq 10, 3) := by decide +kernel
theorem dX5_refuse_22 : decode cX5_refuse 22 = .ok (.aload_n 0, 1) := by decide +kernel
theorem dX5_refuse_23 : decode cX5_refuse 23 = .ok (.getfield 48, 3) := by decide +kernel
theorem dX5_refuse_26 : decode cX5_refuse 26 = .ok (.goto 4, 3) := by decide +kernel
theorem dX5_refuse_29 : decode cX5_refuse 29 = .ok (.iconst (-1), 1) := by decide +kernel
theorem dX5_refuse_30 : decode cX5_refuse 30 = .ok (.putfield 24, 3) := by decide +kernel
theorem dX5_refuse_33 : decode cX5_refuse 33 = .ok (.iload_n 1, 1) := by decide +kernel
theorem dX5_refuse_34 : decode cX5_refuse 34 = .ok (.ireturn, 1) := by decide +kernel
theorem dX5_remember_0 : decode cX5_remember 0 = .ok (.aload_n 0, 1) := by decide +kernel
theorem dX5_remember_1 : decode cX5_remember 1 = .ok (.getfield 51, 3) := by decide +kernel
theorem dX5_remember_4 : decode cX5_remember 4 = .ok (.bipush 8, 2) := by decide +kernel
theorem dX5_remember_6 : decode cX5_remember 6 = .ok (.if_icmp .ne 46, 3) := by decide +kernel
theorem dX5_remember_9 : decode cX5_remember 9 = .ok (.aload_n 0, 1) := by decide +kernel
theorem dX5_remember_10 : decode cX5_remember 10 = .ok (.dup, 1) := by decide +kernel
theorem dX5_remember_11 : decode cX5_remember 11 = .ok (.getfield 51, 3) := by decide +kernel
theorem dX5_remember_14 : decode cX5_remember 14 = .ok (.iconst 1, 1) := by decide +kernel
theorem dX5_remember_15 : decode cX5_remember 15 = .ok (.isub, 1) := by decide +kernel
theorem dX5_remember_16 : decode cX5_remember 16 = .ok (.putfield 51, 3) := by decide +kernel
theorem dX5_remember_19 : decode cX5_remember 19 = .ok (.iconst 0, 1) := by decide +kernel
theorem dX5_remember_20 : decode cX5_remember 20 = .ok (.istore_n 2, 1) := by decide +kernel
theorem dX5_remember_21 : decode cX5_remember 21 = .ok (.iload_n 2, 1) := by decide +kernel
theorem dX5_remember_22 : decode cX5_remember 22 = .ok (.aload_n 0, 1) := by decide +kernel
theorem dX5_remember_23 : decode cX5_remember 23 = .ok (.getfield 51, 3) := by decide +kernel
theorem dX5_remember_26 : decode cX5_remember 26 = .ok (.if_icmp .ge 26, 3) := by decide +kernel
theorem dX5_remember_29 : decode cX5_remember 29 = .ok (.aload_n 0, 1) := by decide +kernel
theorem dX5_remember_30 : decode cX5_remember 30 = .ok (.getfield 21, 3) := by decide +kernel
theorem dX5_remember_33 : decode cX5_remember 33 = .ok (.iload_n 2, 1) := by decide +kernel
theorem dX5_remember_34 : decode cX5_remember 34 = .ok (.iconst 1, 1) := by decide +kernel
theorem dX5_remember_35 : decode cX5_remember 35 = .ok (.iadd, 1) := by decide +kernel
theorem dX5_remember_36 : decode cX5_remember 36 = .ok (.aaload, 1) := by decide +kernel
theorem dX5_remember_37 : decode cX5_remember 37 = .ok (.aload_n 0, 1) := by decide +kernel
theorem dX5_remember_38 : decode cX5_remember 38 = .ok (.getfield 21, 3) := by decide +kernel
theorem dX5_remember_41 : decode cX5_remember 41 = .ok (.iload_n 2, 1) := by decide +kernel
theorem dX5_remember_42 : decode cX5_remember 42 = .ok (.aaload, 1) := by decide +kernel
theorem dX5_remember_43 : decode cX5_remember 43 = .ok (.invokestatic 54, 3) := by decide +kernel
theorem dX5_remember_46 : decode cX5_remember 46 = .ok (.iinc 2 1, 3) := by decide +kernel
theorem dX5_remember_49 : decode cX5_remember 49 = .ok (.goto (-28), 3) := by decide +kernel
theorem dX5_remember_52 : decode cX5_remember 52 = .ok (.aload_n 1, 1) := by decide +kernel
theorem dX5_remember_53 : decode cX5_remember 53 = .ok (.aload_n 0, 1) := by decide +kernel
theorem dX5_remember_54 : decode cX5_remember 54 = .ok (.getfield 21, 3) := by decide +kernel
theorem dX5_remember_57 : decode cX5_remember 57 = .ok (.aload_n 0, 1) := by decide +kernel
theorem dX5_remember_58 : decode cX5_remember 58 = .ok (.getfield 51, 3) := by decide +kernel
theorem dX5_remember_61 : decode cX5_remember 61 = .ok (.aaload, 1) := by decide +kernel
theorem dX5_remember_62 : decode cX5_remember 62 = .ok (.invokestatic 54, 3) := by decide +kernel
theorem dX5_remember_65 : decode cX5_remember 65 = .ok (.aload_n 0, 1) := by decide +kernel
theorem dX5_remember_66 : decode cX5_remember 66 = .ok (.dup, 1) := by decide +kernel
theorem dX5_remember_67 : decode cX5_remember 67 = .ok (.getfield 51, 3) := by decide +kernel
theorem dX5_remember_70 : decode cX5_remember 70 = .ok (.iconst 1, 1) := by decide +kernel
theorem dX5_remember_71 : decode cX5_remember 71 = .ok (.iadd, 1) := by decide +kernel
theorem dX5_remember_72 : decode cX5_remember 72 = .ok (.putfield 51, 3) := by decide +kernel
theorem dX5_remember_75 : decode cX5_remember 75 = .ok (.return_, 1) := by decide +kernel
theorem dX5_change_0 : decode cX5_change 0 = .ok (.aload_n 0, 1) := by decide +kernel
theorem dX5_change_1 : decode cX5_change 1 = .ok (.getfield 44, 3) := by decide +kernel
theorem dX5_change_4 : decode cX5_change 4 = .ok (.ifCond .ne 11, 3) := by decide +kernel
theorem dX5_change_7 : decode cX5_change 7 = .ok (.aload_n 0, 1) := by decide +kernel
theorem dX5_change_8 : decode cX5_change 8 = .ok (.aload_n 0, 1) := by decide +kernel
theorem dX5_change_9 : decode cX5_change 9 = .ok (.getfield 9, 3) := by decide +kernel
theorem dX5_change_12 : decode cX5_change 12 = .ok (.invokevirtual 58, 3) := by decide +kernel
theorem dX5_change_15 : decode cX5_change 15 = .ok (.return_, 1) := by decide +kernel
theorem dX5_isBank_0 : decode cX5_isBank 0 = .ok (.iload_n 1, 1) := by decide +kernel
theorem dX5_isBank_1 : decode cX5_isBank 1 = .ok (.iconst 0, 1) := by decide +kernel
theorem dX5_isBank_2 : decode cX5_isBank 2 = .ok (.aload_n 0, 1) := by decide +kernel
theorem dX5_isBank_3 : decode cX5_isBank 3 = .ok (.getfield 9, 3) := by decide +kernel
theorem dX5_isBank_6 : decode cX5_isBank 6 = .ok (.iconst 0, 1) := by decide +kernel
theorem dX5_isBank_7 : decode cX5_isBank 7 = .ok (.iaload, 1) := by decide +kernel
theorem dX5_isBank_8 : decode cX5_isBank 8 = .ok (.iconst 1, 1) := by decide +kernel
theorem dX5_isBank_9 : decode cX5_isBank 9 = .ok (.isub, 1) := by decide +kernel
theorem dX5_isBank_10 : decode cX5_isBank 10 = .ok (.invokestatic 62, 3) := by decide +kernel
theorem dX5_isBank_13 : decode cX5_isBank 13 = .ok (.ireturn, 1) := by decide +kernel
theorem dX5_weight_0 : decode cX5_weight 0 = .ok (.aload_n 0, 1) := by decide +kernel
theorem dX5_weight_1 : decode cX5_weight 1 = .ok (.getfield 9, 3) := by decide +kernel
theorem dX5_weight_4 : decode cX5_weight 4 = .ok (.iconst 4, 1) := by decide +kernel
theorem dX5_weight_5 : decode cX5_weight 5 = .ok (.iload_n 1, 1) := by decide +kernel
theorem dX5_weight_6 : decode cX5_weight 6 = .ok (.iadd, 1) := by decide +kernel
theorem dX5_weight_7 : decode cX5_weight 7 = .ok (.iaload, 1) := by decide +kernel
theorem dX5_weight_8 : decode cX5_weight 8 = .ok (.ireturn, 1) := by decide +kernel
theorem dX5_size_0 : decode cX5_size 0 = .ok (.aload_n 0, 1) := by decide +kernel
theorem dX5_size_1 : decode cX5_size 1 = .ok (.getfield 9, 3) := by decide +kernel
theorem dX5_size_4 : decode cX5_size 4 = .ok (.bipush 16, 2) := by decide +kernel
theorem dX5_size_6 : decode cX5_size 6 = .ok (.bipush 24, 2) := by decide +kernel
theorem dX5_size_8 : decode cX5_size 8 = .ok (.iload_n 1, 1) := by decide +kernel
theorem dX5_size_9 : decode cX5_size 9 = .ok (.imul, 1) := by decide +kernel
theorem dX5_size_10 : decode cX5_size 10 = .ok (.iadd, 1) := by decide +kernel
theorem dX5_size_11 : decode cX5_size 11 = .ok (.iaload, 1) := by decide +kernel
theorem dX5_size_12 : decode cX5_size 12 = .ok (.ireturn, 1) := by decide +kernel
theorem dX5_place_0 : decode cX5_place 0 = .ok (.aload_n 0, 1) := by decide +kernel
theorem dX5_place_1 : decode cX5_place 1 = .ok (.getfield 9, 3) := by decide +kernel
theorem dX5_place_4 : decode cX5_place 4 = .ok (.bipush 16, 2) := by decide +kernel
theorem dX5_place_6 : decode cX5_place 6 = .ok (.bipush 24, 2) := by decide +kernel
theorem dX5_place_8 : decode cX5_place 8 = .ok (.iload_n 1, 1) := by decide +kernel
theorem dX5_place_9 : decode cX5_place 9 = .ok (.imul, 1) := by decide +kernel
theorem dX5_place_10 : decode cX5_place 10 = .ok (.iadd, 1) := by decide +kernel
theorem dX5_place_11 : decode cX5_place 11 = .ok (.iconst 1, 1) := by decide +kernel
theorem dX5_place_12 : decode cX5_place 12 = .ok (.iadd, 1) := by decide +kernel
theorem dX5_place_13 : decode cX5_place 13 = .ok (.iload_n 2, 1) := by decide +kernel
theorem dX5_place_14 : decode cX5_place 14 = .ok (.iadd, 1) := by decide +kernel
theorem dX5_place_15 : decode cX5_place 15 = .ok (.iaload, 1) := by decide +kernel
theorem dX5_place_16 : decode cX5_place 16 = .ok (.ireturn, 1) := by decide +kernel
theorem dX5_setPlace_0 : decode cX5_setPlace 0 = .ok (.aload_n 0, 1) := by decide +kernel
theorem dX5_setPlace_1 : decode cX5_setPlace 1 = .ok (.getfield 9, 3) := by decide +kernel
theorem dX5_setPlace_4 : decode cX5_setPlace 4 = .ok (.bipush 16, 2) := by decide +kernel
theorem dX5_setPlace_6 : decode cX5_setPlace 6 = .ok (.bipush 24, 2) := by decide +kernel
theorem dX5_setPlace_8 : decode cX5_setPlace 8 = .ok (.iload_n 1, 1) := by decide +kernel
theorem dX5_setPlace_9 : decode cX5_setPlace 9 = .ok (.imul, 1) := by decide +kernel
theorem dX5_setPlace_10 : decode cX5_setPlace 10 = .ok (.iadd, 1) := by decide +kernel
theorem dX5_setPlace_11 : decode cX5_setPlace 11 = .ok (.iconst 1, 1) := by decide +kernel
theorem dX5_setPlace_12 : decode cX5_setPlace 12 = .ok (.iadd, 1) := by decide +kernel
theorem dX5_setPlace_13 : decode cX5_setPlace 13 = .ok (.iload_n 2, 1) := by decide +kernel
theorem dX5_setPlace_14 : decode cX5_setPlace 14 = .ok (.iadd, 1) := by decide +kernel
theorem dX5_setPlace_15 : decode cX5_setPlace 15 = .ok (.iload_n 3, 1) := by decide +kernel
theorem dX5_setPlace_16 : decode cX5_setPlace 16 = .ok (.iastore, 1) := by decide +kernel
theorem dX5_setPlace_17 : decode cX5_setPlace 17 = .ok (.return_, 1) := by decide +kernel
theorem dX5_setSize_0 : decode cX5_setSize 0 = .ok (.aload_n 0, 1) := by decide +kernel
theorem dX5_setSize_1 : decode cX5_setSize 1 = .ok (.getfield 9, 3) := by decide +kernel
theorem dX5_setSize_4 : decode cX5_setSize 4 = .ok (.bipush 16, 2) := by decide +kernel
theorem dX5_setSize_6 : decode cX5_setSize 6 = .ok (.bipush 24, 2) := by decide +kernel
theorem dX5_setSize_8 : decode cX5_setSize 8 = .ok (.iload_n 1, 1) := by decide +kernel
theorem dX5_setSize_9 : decode cX5_setSize 9 = .ok (.imul, 1) := by decide +kernel
theorem dX5_setSize_10 : decode cX5_setSize 10 = .ok (.iadd, 1) := by decide +kernel
theorem dX5_setSize_11 : decode cX5_setSize 11 = .ok (.iload_n 2, 1) := by decide +kernel
theorem dX5_setSize_12 : decode cX5_setSize 12 = .ok (.iastore, 1) := by decide +kernel
theorem dX5_setSize_13 : decode cX5_setSize 13 = .ok (.return_, 1) := by decide +kernel
theorem dX5_firstIn_0 : decode cX5_firstIn 0 = .ok (.iconst 0, 1) := by decide +kernel
theorem dX5_firstIn_1 : decode cX5_firstIn 1 = .ok (.istore_n 3, 1) := by decide +kernel
theorem dX5_firstIn_2 : decode cX5_firstIn 2 = .ok (.iload_n 3, 1) := by decide +kernel
theorem dX5_firstIn_3 : decode cX5_firstIn 3 = .ok (.aload_n 0, 1) := by decide +kernel
theorem dX5_firstIn_4 : decode cX5_firstIn 4 = .ok (.iload_n 1, 1) := by decide +kernel
theorem dX5_firstIn_5 : decode cX5_firstIn 5 = .ok (.invokevirtual 66, 3) := by decide +kernel
theorem dX5_firstIn_8 : decode cX5_firstIn 8 = .ok (.if_icmp .ge 21, 3) := by decide +kernel
theorem dX5_firstIn_11 : decode cX5_firstIn 11 = .ok (.aload_n 0, 1) := by decide +kernel
theorem dX5_firstIn_12 : decode cX5_firstIn 12 = .ok (.iload_n 1, 1) := by decide +kernel
theorem dX5_firstIn_13 : decode cX5_firstIn 13 = .ok (.iload_n 3, 1) := by decide +kernel
theorem dX5_firstIn_14 : decode cX5_firstIn 14 = .ok (.invokevirtual 70, 3) := by decide +kernel
theorem dX5_firstIn_17 : decode cX5_firstIn 17 = .ok (.iload_n 2, 1) := by decide +kernel
theorem dX5_firstIn_18 : decode cX5_firstIn 18 = .ok (.if_icmp .ne 5, 3) := by decide +kernel
theorem dX5_firstIn_21 : decode cX5_firstIn 21 = .ok (.iload_n 3, 1) := by decide +kernel
theorem dX5_firstIn_22 : decode cX5_firstIn 22 = .ok (.ireturn, 1) := by decide +kernel
theorem dX5_firstIn_23 : decode cX5_firstIn 23 = .ok (.iinc 3 1, 3) := by decide +kernel
theorem dX5_firstIn_26 : decode cX5_firstIn 26 = .ok (.goto (-24), 3) := by decide +kernel
theorem dX5_firstIn_29 : decode cX5_firstIn 29 = .ok (.iconst (-1), 1) := by decide +kernel
theorem dX5_firstIn_30 : decode cX5_firstIn 30 = .ok (.ireturn, 1) := by decide +kernel
theorem dX5_roundOf_0 : decode cX5_roundOf 0 = .ok (.iconst 0, 1) := by decide +kernel
theorem dX5_roundOf_1 : decode cX5_roundOf 1 = .ok (.istore_n 2, 1) := by decide +kernel
theorem dX5_roundOf_2 : decode cX5_roundOf 2 = .ok (.aload_n 0, 1) := by decide +kernel
theorem dX5_roundOf_3 : decode cX5_roundOf 3 = .ok (.iload_n 2, 1) := by decide +kernel
theorem dX5_roundOf_4 : decode cX5_roundOf 4 = .ok (.iload_n 1, 1) := by decide +kernel
theorem dX5_roundOf_5 : decode cX5_roundOf 5 = .ok (.invokevirtual 74, 3) := by decide +kernel
theorem dX5_roundOf_8 : decode cX5_roundOf 8 = .ok (.ifCond .ge 9, 3) := by decide +kernel
theorem dX5_roundOf_11 : decode cX5_roundOf 11 = .ok (.iinc 2 1, 3) := by decide +kernel
theorem dX5_roundOf_14 : decode cX5_roundOf 14 = .ok (.goto (-12), 3) := by decide +kernel
theorem dX5_roundOf_17 : decode cX5_roundOf 17 = .ok (.iload_n 2, 1) := by decide +kernel
theorem dX5_roundOf_18 : decode cX5_roundOf 18 = .ok (.ireturn, 1) := by decide +kernel
theorem dX5_first_0 : decode cX5_first 0 = .ok (.aload_n 0, 1) := by decide +kernel
theorem dX5_first_1 : decode cX5_first 1 = .ok (.aload_n 0, 1) := by decide +kernel
theorem dX5_first_2 : decode cX5_first 2 = .ok (.iload_n 1, 1) := by decide +kernel
theorem dX5_first_3 : decode cX5_first 3 = .ok (.invokevirtual 77, 3) := by decide +kernel
theorem dX5_first_6 : decode cX5_first 6 = .ok (.iload_n 1, 1) := by decide +kernel
theorem dX5_first_7 : decode cX5_first 7 = .ok (.invokevirtual 74, 3) := by decide +kernel
theorem dX5_first_10 : decode cX5_first 10 = .ok (.ireturn, 1) := by decide +kernel
theorem dX5_last_0 : decode cX5_last 0 = .ok (.aload_n 0, 1) := by decide +kernel
theorem dX5_last_1 : decode cX5_last 1 = .ok (.iload_n 1, 1) := by decide +kernel
theorem dX5_last_2 : decode cX5_last 2 = .ok (.invokevirtual 77, 3) := by decide +kernel
theorem dX5_last_5 : decode cX5_last 5 = .ok (.istore_n 2, 1) := by decide +kernel
theorem dX5_last_6 : decode cX5_last 6 = .ok (.aload_n 0, 1) := by decide +kernel
theorem dX5_last_7 : decode cX5_last 7 = .ok (.iload_n 2, 1) := by decide +kernel
theorem dX5_last_8 : decode cX5_last 8 = .ok (.invokevirtual 66, 3) := by decide +kernel
theorem dX5_last_11 : decode cX5_last 11 = .ok (.iconst 1, 1) := by decide +kernel
theorem dX5_last_12 : decode cX5_last 12 = .ok (.isub, 1) := by decide +kernel
theorem dX5_last_13 : decode cX5_last 13 = .ok (.istore_n 3, 1) := by decide +kernel
theorem dX5_last_14 : decode cX5_last 14 = .ok (.aload_n 0, 1) := by decide +kernel
theorem dX5_last_15 : decode cX5_last 15 = .ok (.iload_n 2, 1) := by decide +kernel
theorem dX5_last_16 : decode cX5_last 16 = .ok (.iload_n 3, 1) := by decide +kernel
theorem dX5_last_17 : decode cX5_last 17 = .ok (.invokevirtual 70, 3) := by decide +kernel
theorem dX5_last_20 : decode cX5_last 20 = .ok (.iload_n 1, 1) := by decide +kernel
theorem dX5_last_21 : decode cX5_last 21 = .ok (.if_icmp .eq 9, 3) := by decide +kernel
theorem dX5_last_24 : decode cX5_last 24 = .ok (.iinc 3 (-1), 3) := by decide +kernel
theorem dX5_last_27 : decode cX5_last 27 = .ok (.goto (-13), 3) := by decide +kernel
theorem dX5_last_30 : decode cX5_last 30 = .ok (.iload_n 3, 1) := by decide +kernel
theorem dX5_last_31 : decode cX5_last 31 = .ok (.ireturn, 1) := by decide +kernel
theorem dX5_root_0 : decode cX5_root 0 = .ok (.aload_n 0, 1) := by decide +kernel
theorem dX5_root_1 : decode cX5_root 1 = .ok (.aload_n 0, 1) := by decide +kernel
theorem dX5_root_2 : decode cX5_root 2 = .ok (.iload_n 1, 1) := by decide +kernel
theorem dX5_root_3 : decode cX5_root 3 = .ok (.invokevirtual 77, 3) := by decide +kernel
theorem dX5_root_6 : decode cX5_root 6 = .ok (.iconst 0, 1) := by decide +kernel
theorem dX5_root_7 : decode cX5_root 7 = .ok (.invokevirtual 70, 3) := by decide +kernel
theorem dX5_root_10 : decode cX5_root 10 = .ok (.ireturn, 1) := by decide +kernel
theorem dX5_emptyRound_0 : decode cX5_emptyRound 0 = .ok (.iconst 0, 1) := by decide +kernel
theorem dX5_emptyRound_1 : decode cX5_emptyRound 1 = .ok (.istore_n 1, 1) := by decide +kernel
theorem dX5_emptyRound_2 : decode cX5_emptyRound 2 = .ok (.aload_n 0, 1) := by decide +kernel
theorem dX5_emptyRound_3 : decode cX5_emptyRound 3 = .ok (.iload_n 1, 1) := by decide +kernel
theorem dX5_emptyRound_4 : decode cX5_emptyRound 4 = .ok (.invokevirtual 66, 3) := by decide +kernel
theorem dX5_emptyRound_7 : decode cX5_emptyRound 7 = .ok (.ifCond .le 9, 3) := by decide +kernel
theorem dX5_emptyRound_10 : decode cX5_emptyRound 10 = .ok (.iinc 1 1, 3) := by decide +kernel
theorem dX5_emptyRound_13 : decode cX5_emptyRound 13 = .ok (.goto (-11), 3) := by decide +kernel
theorem dX5_emptyRound_16 : decode cX5_emptyRound 16 = .ok (.iload_n 1, 1) := by decide +kernel
theorem dX5_emptyRound_17 : decode cX5_emptyRound 17 = .ok (.ireturn, 1) := by decide +kernel
theorem dX5_banksOf_0 : decode cX5_banksOf 0 = .ok (.aload_n 0, 1) := by decide +kernel
theorem dX5_banksOf_1 : decode cX5_banksOf 1 = .ok (.iload_n 1, 1) := by decide +kernel
theorem dX5_banksOf_2 : decode cX5_banksOf 2 = .ok (.invokevirtual 66, 3) := by decide +kernel
theorem dX5_banksOf_5 : decode cX5_banksOf 5 = .ok (.iconst 1, 1) := by decide +kernel
theorem dX5_banksOf_6 : decode cX5_banksOf 6 = .ok (.iadd, 1) := by decide +kernel
theorem dX5_banksOf_7 : decode cX5_banksOf 7 = .ok (.iconst 2, 1) := by decide +kernel
theorem dX5_banksOf_8 : decode cX5_banksOf 8 = .ok (.idiv, 1) := by decide +kernel
theorem dX5_banksOf_9 : decode cX5_banksOf 9 = .ok (.ireturn, 1) := by decide +kernel
theorem dX5_areOne_0 : decode cX5_areOne 0 = .ok (.aload_n 0, 1) := by decide +kernel
theorem dX5_areOne_1 : decode cX5_areOne 1 = .ok (.iload_n 1, 1) := by decide +kernel
theorem dX5_areOne_2 : decode cX5_areOne 2 = .ok (.invokevirtual 77, 3) := by decide +kernel
theorem dX5_areOne_5 : decode cX5_areOne 5 = .ok (.aload_n 0, 1) := by decide +kernel
theorem dX5_areOne_6 : decode cX5_areOne 6 = .ok (.iload_n 2, 1) := by decide +kernel
theorem dX5_areOne_7 : decode cX5_areOne 7 = .ok (.invokevirtual 77, 3) := by decide +kernel
theorem dX5_areOne_10 : decode cX5_areOne 10 = .ok (.if_icmp .ne 7, 3) := by decide +kernel
theorem dX5_areOne_13 : decode cX5_areOne 13 = .ok (.iconst 1, 1) := by decide +kernel
theorem dX5_areOne_14 : decode cX5_areOne 14 = .ok (.goto 4, 3) := by decide +kernel
theorem dX5_areOne_17 : decode cX5_areOne 17 = .ok (.iconst 0, 1) := by decide +kernel
theorem dX5_areOne_18 : decode cX5_areOne 18 = .ok (.ireturn, 1) := by decide +kernel
theorem dX5_isTied_0 : decode cX5_isTied 0 = .ok (.aload_n 0, 1) := by decide +kernel
theorem dX5_isTied_1 : decode cX5_isTied 1 = .ok (.iload_n 1, 1) := by decide +kernel
theorem dX5_isTied_2 : decode cX5_isTied 2 = .ok (.invokevirtual 77, 3) := by decide +kernel
theorem dX5_isTied_5 : decode cX5_isTied 5 = .ok (.istore_n 3, 1) := by decide +kernel
theorem dX5_isTied_6 : decode cX5_isTied 6 = .ok (.iconst 1, 1) := by decide +kernel
theorem dX5_isTied_7 : decode cX5_isTied 7 = .ok (.istore 4, 2) := by decide +kernel
theorem dX5_isTied_9 : decode cX5_isTied 9 = .ok (.iload 4, 2) := by decide +kernel
theorem dX5_isTied_11 : decode cX5_isTied 11 = .ok (.aload_n 0, 1) := by decide +kernel
theorem dX5_isTied_12 : decode cX5_isTied 12 = .ok (.iload_n 3, 1) := by decide +kernel
theorem dX5_isTied_13 : decode cX5_isTied 13 = .ok (.invokevirtual 66, 3) := by decide +kernel
theorem dX5_isTied_16 : decode cX5_isTied 16 = .ok (.if_icmp .ge 35, 3) := by decide +kernel
theorem dX5_isTied_19 : decode cX5_isTied 19 = .ok (.aload_n 0, 1) := by decide +kernel
theorem dX5_isTied_20 : decode cX5_isTied 20 = .ok (.iload_n 3, 1) := by decide +kernel
theorem dX5_isTied_21 : decode cX5_isTied 21 = .ok (.iload 4, 2) := by decide +kernel
theorem dX5_isTied_23 : decode cX5_isTied 23 = .ok (.iconst 1, 1) := by decide +kernel
theorem dX5_isTied_24 : decode cX5_isTied 24 = .ok (.isub, 1) := by decide +kernel
theorem dX5_isTied_25 : decode cX5_isTied 25 = .ok (.invokevirtual 70, 3) := by decide +kernel
theorem dX5_isTied_28 : decode cX5_isTied 28 = .ok (.iload_n 1, 1) := by decide +kernel
theorem dX5_isTied_29 : decode cX5_isTied 29 = .ok (.if_icmp .ne 16, 3) := by decide +kernel
theorem dX5_isTied_32 : decode cX5_isTied 32 = .ok (.aload_n 0, 1) := by decide +kernel
theorem dX5_isTied_33 : decode cX5_isTied 33 = .ok (.iload_n 3, 1) := by decide +kernel
theorem dX5_isTied_34 : decode cX5_isTied 34 = .ok (.iload 4, 2) := by decide +kernel
theorem dX5_isTied_36 : decode cX5_isTied 36 = .ok (.invokevirtual 70, 3) := by decide +kernel
theorem dX5_isTied_39 : decode cX5_isTied 39 = .ok (.iload_n 2, 1) := by decide +kernel
theorem dX5_isTied_40 : decode cX5_isTied 40 = .ok (.if_icmp .ne 5, 3) := by decide +kernel
theorem dX5_isTied_43 : decode cX5_isTied 43 = .ok (.iconst 1, 1) := by decide +kernel
theorem dX5_isTied_44 : decode cX5_isTied 44 = .ok (.ireturn, 1) := by decide +kernel
theorem dX5_isTied_45 : decode cX5_isTied 45 = .ok (.iinc 4 1, 3) := by decide +kernel
theorem dX5_isTied_48 : decode cX5_isTied 48 = .ok (.goto (-39), 3) := by decide +kernel
theorem dX5_isTied_51 : decode cX5_isTied 51 = .ok (.iconst 0, 1) := by decide +kernel
theorem dX5_isTied_52 : decode cX5_isTied 52 = .ok (.ireturn, 1) := by decide +kernel
theorem dX5_bank_0 : decode cX5_bank 0 = .ok (.iload_n 1, 1) := by decide +kernel
theorem dX5_bank_1 : decode cX5_bank 1 = .ok (.iconst 0, 1) := by decide +kernel
theorem dX5_bank_2 : decode cX5_bank 2 = .ok (.bipush 99, 2) := by decide +kernel
theorem dX5_bank_4 : decode cX5_bank 4 = .ok (.invokestatic 62, 3) := by decide +kernel
theorem dX5_bank_7 : decode cX5_bank 7 = .ok (.ifCond .ne 6, 3) := by decide +kernel
theorem dX5_bank_10 : decode cX5_bank 10 = .ok (.bipush (-2), 2) := by decide +kernel
theorem dX5_bank_12 : decode cX5_bank 12 = .ok (.ireturn, 1) := by decide +kernel
theorem dX5_bank_13 : decode cX5_bank 13 = .ok (.aload_n 0, 1) := by decide +kernel
theorem dX5_bank_14 : decode cX5_bank 14 = .ok (.aload_n 0, 1) := by decide +kernel
theorem dX5_bank_15 : decode cX5_bank 15 = .ok (.getfield 9, 3) := by decide +kernel
theorem dX5_bank_18 : decode cX5_bank 18 = .ok (.iconst 0, 1) := by decide +kernel
theorem dX5_bank_19 : decode cX5_bank 19 = .ok (.iaload, 1) := by decide +kernel
theorem dX5_bank_20 : decode cX5_bank 20 = .ok (.bipush 12, 2) := by decide +kernel
theorem dX5_bank_22 : decode cX5_bank 22 = .ok (.if_icmp .ne 7, 3) := by decide +kernel
theorem dX5_bank_25 : decode cX5_bank 25 = .ok (.iconst 1, 1) := by decide +kernel
theorem dX5_bank_26 : decode cX5_bank 26 = .ok (.goto 4, 3) := by decide +kernel
theorem dX5_bank_29 : decode cX5_bank 29 = .ok (.iconst 0, 1) := by decide +kernel
theorem dX5_bank_30 : decode cX5_bank 30 = .ok (.iconst 1, 1) := by decide +kernel
theorem dX5_bank_31 : decode cX5_bank 31 = .ok (.bipush 12, 2) := by decide +kernel
theorem dX5_bank_33 : decode cX5_bank 33 = .ok (.invokevirtual 80, 3) := by decide +kernel
theorem dX5_bank_36 : decode cX5_bank 36 = .ok (.ifCond .eq 6, 3) := by decide +kernel
theorem dX5_bank_39 : decode cX5_bank 39 = .ok (.bipush (-3), 2) := by decide +kernel
theorem dX5_bank_41 : decode cX5_bank 41 = .ok (.ireturn, 1) := by decide +kernel
theorem dX5_bank_42 : decode cX5_bank 42 = .ok (.aload_n 0, 1) := by decide +kernel
theorem dX5_bank_43 : decode cX5_bank 43 = .ok (.invokevirtual 84, 3) := by decide +kernel
theorem dX5_bank_46 : decode cX5_bank 46 = .ok (.aload_n 0, 1) := by decide +kernel
theorem dX5_bank_47 : decode cX5_bank 47 = .ok (.getfield 9, 3) := by decide +kernel
theorem dX5_bank_50 : decode cX5_bank 50 = .ok (.iconst 0, 1) := by decide +kernel
theorem dX5_bank_51 : decode cX5_bank 51 = .ok (.iaload, 1) := by decide +kernel
theorem dX5_bank_52 : decode cX5_bank 52 = .ok (.istore_n 2, 1) := by decide +kernel
theorem dX5_bank_53 : decode cX5_bank 53 = .ok (.aload_n 0, 1) := by decide +kernel
theorem dX5_bank_54 : decode cX5_bank 54 = .ok (.invokevirtual 87, 3) := by decide +kernel
theorem dX5_bank_57 : decode cX5_bank 57 = .ok (.istore_n 3, 1) := by decide +kernel
theorem dX5_bank_58 : decode cX5_bank 58 = .ok (.aload_n 0, 1) := by decide +kernel
theorem dX5_bank_59 : decode cX5_bank 59 = .ok (.getfield 9, 3) := by decide +kernel
theorem dX5_bank_62 : decode cX5_bank 62 = .ok (.iconst 0, 1) := by decide +kernel
theorem dX5_bank_63 : decode cX5_bank 63 = .ok (.dup2, 1) := by decide +kernel
theorem dX5_bank_64 : decode cX5_bank 64 = .ok (.iaload, 1) := by decide +kernel
theorem dX5_bank_65 : decode cX5_bank 65 = .ok (.iconst 1, 1) := by decide +kernel
theorem dX5_bank_66 : decode cX5_bank 66 = .ok (.iadd, 1) := by decide +kernel
theorem dX5_bank_67 : decode cX5_bank 67 = .ok (.iastore, 1) := by decide +kernel
theorem dX5_bank_68 : decode cX5_bank 68 = .ok (.aload_n 0, 1) := by decide +kernel
theorem dX5_bank_69 : decode cX5_bank 69 = .ok (.getfield 9, 3) := by decide +kernel
theorem dX5_bank_72 : decode cX5_bank 72 = .ok (.iconst 4, 1) := by decide +kernel
theorem dX5_bank_73 : decode cX5_bank 73 = .ok (.iload_n 2, 1) := by decide +kernel
theorem dX5_bank_74 : decode cX5_bank 74 = .ok (.iadd, 1) := by decide +kernel
theorem dX5_bank_75 : decode cX5_bank 75 = .ok (.iload_n 1, 1) := by decide +kernel
theorem dX5_bank_76 : decode cX5_bank 76 = .ok (.iastore, 1) := by decide +kernel
theorem dX5_bank_77 : decode cX5_bank 77 = .ok (.aload_n 0, 1) := by decide +kernel
theorem dX5_bank_78 : decode cX5_bank 78 = .ok (.iload_n 3, 1) := by decide +kernel
theorem dX5_bank_79 : decode cX5_bank 79 = .ok (.iconst 1, 1) := by decide +kernel
theorem dX5_bank_80 : decode cX5_bank 80 = .ok (.invokevirtual 91, 3) := by decide +kernel
theorem dX5_bank_83 : decode cX5_bank 83 = .ok (.aload_n 0, 1) := by decide +kernel
theorem dX5_bank_84 : decode cX5_bank 84 = .ok (.iload_n 3, 1) := by decide +kernel
theorem dX5_bank_85 : decode cX5_bank 85 = .ok (.iconst 0, 1) := by decide +kernel
theorem dX5_bank_86 : decode cX5_bank 86 = .ok (.iload_n 2, 1) := by decide +kernel
theorem dX5_bank_87 : decode cX5_bank 87 = .ok (.invokevirtual 95, 3) := by decide +kernel
theorem dX5_bank_90 : decode cX5_bank 90 = .ok (.iload_n 2, 1) := by decide +kernel
theorem dX5_bank_91 : decode cX5_bank 91 = .ok (.ireturn, 1) := by decide +kernel
theorem dX5_weigh_0 : decode cX5_weigh 0 = .ok (.aload_n 0, 1) := by decide +kernel
theorem dX5_weigh_1 : decode cX5_weigh 1 = .ok (.iload_n 1, 1) := by decide +kernel
theorem dX5_weigh_2 : decode cX5_weigh 2 = .ok (.invokevirtual 99, 3) := by decide +kernel
theorem dX5_weigh_5 : decode cX5_weigh 5 = .ok (.ifCond .ne 5, 3) := by decide +kernel
theorem dX5_weigh_8 : decode cX5_weigh 8 = .ok (.iconst (-1), 1) := by decide +kernel
theorem dX5_weigh_9 : decode cX5_weigh 9 = .ok (.ireturn, 1) := by decide +kernel
theorem dX5_weigh_10 : decode cX5_weigh 10 = .ok (.iload_n 2, 1) := by decide +kernel
theorem dX5_weigh_11 : decode cX5_weigh 11 = .ok (.iconst 0, 1) := by decide +kernel
theorem dX5_weigh_12 : decode cX5_weigh 12 = .ok (.bipush 99, 2) := by decide +kernel
theorem dX5_weigh_14 : decode cX5_weigh 14 = .ok (.invokestatic 62, 3) := by decide +kernel
theorem dX5_weigh_17 : decode cX5_weigh 17 = .ok (.ifCond .ne 6, 3) := by decide +kernel
theorem dX5_weigh_20 : decode cX5_weigh 20 = .ok (.bipush (-2), 2) := by decide +kernel
theorem dX5_weigh_22 : decode cX5_weigh 22 = .ok (.ireturn, 1) := by decide +kernel
theorem dX5_weigh_23 : decode cX5_weigh 23 = .ok (.aload_n 0, 1) := by decide +kernel
theorem dX5_weigh_24 : decode cX5_weigh 24 = .ok (.aload_n 0, 1) := by decide +kernel
theorem dX5_weigh_25 : decode cX5_weigh 25 = .ok (.iload_n 1, 1) := by decide +kernel
theorem dX5_weigh_26 : decode cX5_weigh 26 = .ok (.invokevirtual 103, 3) := by decide +kernel
theorem dX5_weigh_29 : decode cX5_weigh 29 = .ok (.iload_n 2, 1) := by decide +kernel
theorem dX5_weigh_30 : decode cX5_weigh 30 = .ok (.if_icmp .ne 7, 3) := by decide +kernel
theorem dX5_weigh_33 : decode cX5_weigh 33 = .ok (.iconst 1, 1) := by decide +kernel
theorem dX5_weigh_34 : decode cX5_weigh 34 = .ok (.goto 4, 3) := by decide +kernel
theorem dX5_weigh_37 : decode cX5_weigh 37 = .ok (.iconst 0, 1) := by decide +kernel
theorem dX5_weigh_38 : decode cX5_weigh 38 = .ok (.iconst 5, 1) := by decide +kernel
theorem dX5_weigh_39 : decode cX5_weigh 39 = .ok (.iload_n 2, 1) := by decide +kernel
theorem dX5_weigh_40 : decode cX5_weigh 40 = .ok (.invokevirtual 80, 3) := by decide +kernel
theorem dX5_weigh_43 : decode cX5_weigh 43 = .ok (.ifCond .eq 6, 3) := by decide +kernel
theorem dX5_weigh_46 : decode cX5_weigh 46 = .ok (.bipush (-3), 2) := by decide +kernel
theorem dX5_weigh_48 : decode cX5_weigh 48 = .ok (.ireturn, 1) := by decide +kernel
theorem dX5_weigh_49 : decode cX5_weigh 49 = .ok (.aload_n 0, 1) := by decide +kernel
theorem dX5_weigh_50 : decode cX5_weigh 50 = .ok (.invokevirtual 84, 3) := by decide +kernel
theorem dX5_weigh_53 : decode cX5_weigh 53 = .ok (.aload_n 0, 1) := by decide +kernel
theorem dX5_weigh_54 : decode cX5_weigh 54 = .ok (.iload_n 1, 1) := by decide +kernel
theorem dX5_weigh_55 : decode cX5_weigh 55 = .ok (.invokevirtual 103, 3) := by decide +kernel
theorem dX5_weigh_58 : decode cX5_weigh 58 = .ok (.istore_n 3, 1) := by decide +kernel
theorem dX5_weigh_59 : decode cX5_weigh 59 = .ok (.aload_n 0, 1) := by decide +kernel
theorem dX5_weigh_60 : decode cX5_weigh 60 = .ok (.getfield 9, 3) := by decide +kernel
theorem dX5_weigh_63 : decode cX5_weigh 63 = .ok (.iconst 4, 1) := by decide +kernel
theorem dX5_weigh_64 : decode cX5_weigh 64 = .ok (.iload_n 1, 1) := by decide +kernel
theorem dX5_weigh_65 : decode cX5_weigh 65 = .ok (.iadd, 1) := by decide +kernel
theorem dX5_weigh_66 : decode cX5_weigh 66 = .ok (.iload_n 2, 1) := by decide +kernel
theorem dX5_weigh_67 : decode cX5_weigh 67 = .ok (.iastore, 1) := by decide +kernel
theorem dX5_weigh_68 : decode cX5_weigh 68 = .ok (.iload_n 3, 1) := by decide +kernel
theorem dX5_weigh_69 : decode cX5_weigh 69 = .ok (.ireturn, 1) := by decide +kernel
theorem dX5_turnTo_0 : decode cX5_turnTo 0 = .ok (.aload_n 0, 1) := by decide +kernel
theorem dX5_turnTo_1 : decode cX5_turnTo 1 = .ok (.iload_n 1, 1) := by decide +kernel
theorem dX5_turnTo_2 : decode cX5_turnTo 2 = .ok (.invokevirtual 77, 3) := by decide +kernel
theorem dX5_turnTo_5 : decode cX5_turnTo 5 = .ok (.istore_n 2, 1) := by decide +kernel
theorem dX5_turnTo_6 : decode cX5_turnTo 6 = .ok (.aload_n 0, 1) := by decide +kernel
theorem dX5_turnTo_7 : decode cX5_turnTo 7 = .ok (.iload_n 2, 1) := by decide +kernel
theorem dX5_turnTo_8 : decode cX5_turnTo 8 = .ok (.iload_n 1, 1) := by decide +kernel
theorem dX5_turnTo_9 : decode cX5_turnTo 9 = .ok (.invokevirtual 74, 3) := by decide +kernel
theorem dX5_turnTo_12 : decode cX5_turnTo 12 = .ok (.istore_n 3, 1) := by decide +kernel
theorem dX5_turnTo_13 : decode cX5_turnTo 13 = .ok (.iconst 0, 1) := by decide +kernel
theorem dX5_turnTo_14 : decode cX5_turnTo 14 = .ok (.istore 4, 2) := by decide +kernel
theorem dX5_turnTo_16 : decode cX5_turnTo 16 = .ok (.iload_n 3, 1) := by decide +kernel
theorem dX5_turnTo_17 : decode cX5_turnTo 17 = .ok (.istore 5, 2) := by decide +kernel
theorem dX5_turnTo_19 : decode cX5_turnTo 19 = .ok (.iload 5, 2) := by decide +kernel
theorem dX5_turnTo_21 : decode cX5_turnTo 21 = .ok (.aload_n 0, 1) := by decide +kernel
theorem dX5_turnTo_22 : decode cX5_turnTo 22 = .ok (.iload_n 2, 1) := by decide +kernel
theorem dX5_turnTo_23 : decode cX5_turnTo 23 = .ok (.invokevirtual 66, 3) := by decide +kernel
theorem dX5_turnTo_26 : decode cX5_turnTo 26 = .ok (.if_icmp .ge 26, 3) := by decide +kernel
theorem dX5_turnTo_29 : decode cX5_turnTo 29 = .ok (.aload_n 0, 1) := by decide +kernel
theorem dX5_turnTo_30 : decode cX5_turnTo 30 = .ok (.getfield 28, 3) := by decide +kernel
theorem dX5_turnTo_33 : decode cX5_turnTo 33 = .ok (.iload 4, 2) := by decide +kernel
theorem dX5_turnTo_35 : decode cX5_turnTo 35 = .ok (.aload_n 0, 1) := by decide +kernel
theorem dX5_turnTo_36 : decode cX5_turnTo 36 = .ok (.iload_n 2, 1) := by decide +kernel
theorem dX5_turnTo_37 : decode cX5_turnTo 37 = .ok (.iload 5, 2) := by decide +kernel
theorem dX5_turnTo_39 : decode cX5_turnTo 39 = .ok (.invokevirtual 70, 3) := by decide +kernel
theorem dX5_turnTo_42 : decode cX5_turnTo 42 = .ok (.iastore, 1) := by decide +kernel
theorem dX5_turnTo_43 : decode cX5_turnTo 43 = .ok (.iinc 4 1, 3) := by decide +kernel
theorem dX5_turnTo_46 : decode cX5_turnTo 46 = .ok (.iinc 5 1, 3) := by decide +kernel
theorem dX5_turnTo_49 : decode cX5_turnTo 49 = .ok (.goto (-30), 3) := by decide +kernel
theorem dX5_turnTo_52 : decode cX5_turnTo 52 = .ok (.iconst 1, 1) := by decide +kernel
theorem dX5_turnTo_53 : decode cX5_turnTo 53 = .ok (.istore 5, 2) := by decide +kernel
theorem dX5_turnTo_55 : decode cX5_turnTo 55 = .ok (.iload 5, 2) := by decide +kernel
theorem dX5_turnTo_57 : decode cX5_turnTo 57 = .ok (.iload_n 3, 1) := by decide +kernel
theorem dX5_turnTo_58 : decode cX5_turnTo 58 = .ok (.if_icmp .gt 26, 3) := by decide +kernel
theorem dX5_turnTo_61 : decode cX5_turnTo 61 = .ok (.aload_n 0, 1) := by decide +kernel
theorem dX5_turnTo_62 : decode cX5_turnTo 62 = .ok (.getfield 28, 3) := by decide +kernel
theorem dX5_turnTo_65 : decode cX5_turnTo 65 = .ok (.iload 4, 2) := by decide +kernel
theorem dX5_turnTo_67 : decode cX5_turnTo 67 = .ok (.aload_n 0, 1) := by decide +kernel
theorem dX5_turnTo_68 : decode cX5_turnTo 68 = .ok (.iload_n 2, 1) := by decide +kernel
theorem dX5_turnTo_69 : decode cX5_turnTo 69 = .ok (.iload 5, 2) := by decide +kernel
theorem dX5_turnTo_71 : decode cX5_turnTo 71 = .ok (.invokevirtual 70, 3) := by decide +kernel
theorem dX5_turnTo_74 : decode cX5_turnTo 74 = .ok (.iastore, 1) := by decide +kernel
theorem dX5_turnTo_75 : decode cX5_turnTo 75 = .ok (.iinc 4 1, 3) := by decide +kernel
theorem dX5_turnTo_78 : decode cX5_turnTo 78 = .ok (.iinc 5 1, 3) := by decide +kernel
theorem dX5_turnTo_81 : decode cX5_turnTo 81 = .ok (.goto (-26), 3) := by decide +kernel
theorem dX5_turnTo_84 : decode cX5_turnTo 84 = .ok (.iconst 0, 1) := by decide +kernel
theorem dX5_turnTo_85 : decode cX5_turnTo 85 = .ok (.istore 5, 2) := by decide +kernel
theorem dX5_turnTo_87 : decode cX5_turnTo 87 = .ok (.iload 5, 2) := by decide +kernel
theorem dX5_turnTo_89 : decode cX5_turnTo 89 = .ok (.iload 4, 2) := by decide +kernel
theorem dX5_turnTo_91 : decode cX5_turnTo 91 = .ok (.if_icmp .ge 23, 3) := by decide +kernel
theorem dX5_turnTo_94 : decode cX5_turnTo 94 = .ok (.aload_n 0, 1) := by decide +kernel
theorem dX5_turnTo_95 : decode cX5_turnTo 95 = .ok (.iload_n 2, 1) := by decide +kernel
theorem dX5_turnTo_96 : decode cX5_turnTo 96 = .ok (.iload 5, 2) := by decide +kernel
theorem dX5_turnTo_98 : decode cX5_turnTo 98 = .ok (.aload_n 0, 1) := by decide +kernel
theorem dX5_turnTo_99 : decode cX5_turnTo 99 = .ok (.getfield 28, 3) := by decide +kernel
theorem dX5_turnTo_102 : decode cX5_turnTo 102 = .ok (.iload 5, 2) := by decide +kernel
theorem dX5_turnTo_104 : decode cX5_turnTo 104 = .ok (.iaload, 1) := by decide +kernel
theorem dX5_turnTo_105 : decode cX5_turnTo 105 = .ok (.invokevirtual 95, 3) := by decide +kernel
theorem dX5_turnTo_108 : decode cX5_turnTo 108 = .ok (.iinc 5 1, 3) := by decide +kernel
theorem dX5_turnTo_111 : decode cX5_turnTo 111 = .ok (.goto (-24), 3) := by decide +kernel
theorem dX5_turnTo_114 : decode cX5_turnTo 114 = .ok (.return_, 1) := by decide +kernel
theorem dX5_putIn_0 : decode cX5_putIn 0 = .ok (.aload_n 0, 1) := by decide +kernel
theorem dX5_putIn_1 : decode cX5_putIn 1 = .ok (.iload_n 2, 1) := by decide +kernel
theorem dX5_putIn_2 : decode cX5_putIn 2 = .ok (.invokevirtual 106, 3) := by decide +kernel
theorem dX5_putIn_5 : decode cX5_putIn 5 = .ok (.aload_n 0, 1) := by decide +kernel
theorem dX5_putIn_6 : decode cX5_putIn 6 = .ok (.iload_n 1, 1) := by decide +kernel
theorem dX5_putIn_7 : decode cX5_putIn 7 = .ok (.invokevirtual 77, 3) := by decide +kernel
theorem dX5_putIn_10 : decode cX5_putIn 10 = .ok (.istore_n 3, 1) := by decide +kernel
theorem dX5_putIn_11 : decode cX5_putIn 11 = .ok (.aload_n 0, 1) := by decide +kernel
theorem dX5_putIn_12 : decode cX5_putIn 12 = .ok (.iload_n 2, 1) := by decide +kernel
theorem dX5_putIn_13 : decode cX5_putIn 13 = .ok (.invokevirtual 77, 3) := by decide +kernel
theorem dX5_putIn_16 : decode cX5_putIn 16 = .ok (.istore 4, 2) := by decide +kernel
theorem dX5_putIn_18 : decode cX5_putIn 18 = .ok (.aload_n 0, 1) := by decide +kernel
theorem dX5_putIn_19 : decode cX5_putIn 19 = .ok (.iload_n 3, 1) := by decide +kernel
theorem dX5_putIn_20 : decode cX5_putIn 20 = .ok (.iload_n 1, 1) := by decide +kernel
theorem dX5_putIn_21 : decode cX5_putIn 21 = .ok (.invokevirtual 74, 3) := by decide +kernel
theorem dX5_putIn_24 : decode cX5_putIn 24 = .ok (.istore 5, 2) := by decide +kernel
theorem dX5_putIn_26 : decode cX5_putIn 26 = .ok (.aload_n 0, 1) := by decide +kernel
theorem dX5_putIn_27 : decode cX5_putIn 27 = .ok (.iload 4, 2) := by decide +kernel
theorem dX5_putIn_29 : decode cX5_putIn 29 = .ok (.invokevirtual 66, 3) := by decide +kernel
theorem dX5_putIn_32 : decode cX5_putIn 32 = .ok (.iconst 1, 1) := by decide +kernel
theorem dX5_putIn_33 : decode cX5_putIn 33 = .ok (.iadd, 1) := by decide +kernel
theorem dX5_putIn_34 : decode cX5_putIn 34 = .ok (.istore 6, 2) := by decide +kernel
theorem dX5_putIn_36 : decode cX5_putIn 36 = .ok (.aload_n 0, 1) := by decide +kernel
theorem dX5_putIn_37 : decode cX5_putIn 37 = .ok (.iload_n 3, 1) := by decide +kernel
theorem dX5_putIn_38 : decode cX5_putIn 38 = .ok (.invokevirtual 66, 3) := by decide +kernel
theorem dX5_putIn_41 : decode cX5_putIn 41 = .ok (.iconst 1, 1) := by decide +kernel
theorem dX5_putIn_42 : decode cX5_putIn 42 = .ok (.isub, 1) := by decide +kernel
theorem dX5_putIn_43 : decode cX5_putIn 43 = .ok (.istore 7, 2) := by decide +kernel
theorem dX5_putIn_45 : decode cX5_putIn 45 = .ok (.iload 7, 2) := by decide +kernel
theorem dX5_putIn_47 : decode cX5_putIn 47 = .ok (.iload 5, 2) := by decide +kernel
theorem dX5_putIn_49 : decode cX5_putIn 49 = .ok (.if_icmp .le 26, 3) := by decide +kernel
theorem dX5_putIn_52 : decode cX5_putIn 52 = .ok (.aload_n 0, 1) := by decide +kernel
theorem dX5_putIn_53 : decode cX5_putIn 53 = .ok (.iload_n 3, 1) := by decide +kernel
theorem dX5_putIn_54 : decode cX5_putIn 54 = .ok (.iload 7, 2) := by decide +kernel
theorem dX5_putIn_56 : decode cX5_putIn 56 = .ok (.iload 6, 2) := by decide +kernel
theorem dX5_putIn_58 : decode cX5_putIn 58 = .ok (.iadd, 1) := by decide +kernel
theorem dX5_putIn_59 : decode cX5_putIn 59 = .ok (.aload_n 0, 1) := by decide +kernel
theorem dX5_putIn_60 : decode cX5_putIn 60 = .ok (.iload_n 3, 1) := by decide +kernel
theorem dX5_putIn_61 : decode cX5_putIn 61 = .ok (.iload 7, 2) := by decide +kernel
theorem dX5_putIn_63 : decode cX5_putIn 63 = .ok (.invokevirtual 70, 3) := by decide +kernel
theorem dX5_putIn_66 : decode cX5_putIn 66 = .ok (.invokevirtual 95, 3) := by decide +kernel
theorem dX5_putIn_69 : decode cX5_putIn 69 = .ok (.iinc 7 (-1), 3) := by decide +kernel
theorem dX5_putIn_72 : decode cX5_putIn 72 = .ok (.goto (-27), 3) := by decide +kernel
theorem dX5_putIn_75 : decode cX5_putIn 75 = .ok (.iconst 0, 1) := by decide +kernel
theorem dX5_putIn_76 : decode cX5_putIn 76 = .ok (.istore 7, 2) := by decide +kernel
theorem dX5_putIn_78 : decode cX5_putIn 78 = .ok (.iload 7, 2) := by decide +kernel
theorem dX5_putIn_80 : decode cX5_putIn 80 = .ok (.aload_n 0, 1) := by decide +kernel
theorem dX5_putIn_81 : decode cX5_putIn 81 = .ok (.iload 4, 2) := by decide +kernel
theorem dX5_putIn_83 : decode cX5_putIn 83 = .ok (.invokevirtual 66, 3) := by decide +kernel
theorem dX5_putIn_86 : decode cX5_putIn 86 = .ok (.if_icmp .ge 29, 3) := by decide +kernel
theorem dX5_putIn_89 : decode cX5_putIn 89 = .ok (.aload_n 0, 1) := by decide +kernel
theorem dX5_putIn_90 : decode cX5_putIn 90 = .ok (.iload_n 3, 1) := by decide +kernel
theorem dX5_putIn_91 : decode cX5_putIn 91 = .ok (.iload 5, 2) := by decide +kernel
theorem dX5_putIn_93 : decode cX5_putIn 93 = .ok (.iconst 1, 1) := by decide +kernel
theorem dX5_putIn_94 : decode cX5_putIn 94 = .ok (.iadd, 1) := by decide +kernel
theorem dX5_putIn_95 : decode cX5_putIn 95 = .ok (.iload 7, 2) := by decide +kernel
theorem dX5_putIn_97 : decode cX5_putIn 97 = .ok (.iadd, 1) := by decide +kernel
theorem dX5_putIn_98 : decode cX5_putIn 98 = .ok (.aload_n 0, 1) := by decide +kernel
theorem dX5_putIn_99 : decode cX5_putIn 99 = .ok (.iload 4, 2) := by decide +kernel
theorem dX5_putIn_101 : decode cX5_putIn 101 = .ok (.iload 7, 2) := by decide +kernel
theorem dX5_putIn_103 : decode cX5_putIn 103 = .ok (.invokevirtual 70, 3) := by decide +kernel
theorem dX5_putIn_106 : decode cX5_putIn 106 = .ok (.invokevirtual 95, 3) := by decide +kernel
theorem dX5_putIn_109 : decode cX5_putIn 109 = .ok (.iinc 7 1, 3) := by decide +kernel
theorem dX5_putIn_112 : decode cX5_putIn 112 = .ok (.goto (-34), 3) := by decide +kernel
theorem dX5_putIn_115 : decode cX5_putIn 115 = .ok (.aload_n 0, 1) := by decide +kernel
theorem dX5_putIn_116 : decode cX5_putIn 116 = .ok (.iload_n 3, 1) := by decide +kernel
theorem dX5_putIn_117 : decode cX5_putIn 117 = .ok (.iload 5, 2) := by decide +kernel
theorem dX5_putIn_119 : decode cX5_putIn 119 = .ok (.iload 6, 2) := by decide +kernel
theorem dX5_putIn_121 : decode cX5_putIn 121 = .ok (.iadd, 1) := by decide +kernel
theorem dX5_putIn_122 : decode cX5_putIn 122 = .ok (.iload_n 1, 1) := by decide +kernel
theorem dX5_putIn_123 : decode cX5_putIn 123 = .ok (.invokevirtual 95, 3) := by decide +kernel
theorem dX5_putIn_126 : decode cX5_putIn 126 = .ok (.aload_n 0, 1) := by decide +kernel
theorem dX5_putIn_127 : decode cX5_putIn 127 = .ok (.iload_n 3, 1) := by decide +kernel
theorem dX5_putIn_128 : decode cX5_putIn 128 = .ok (.aload_n 0, 1) := by decide +kernel
theorem dX5_putIn_129 : decode cX5_putIn 129 = .ok (.iload_n 3, 1) := by decide +kernel
theorem dX5_putIn_130 : decode cX5_putIn 130 = .ok (.invokevirtual 66, 3) := by decide +kernel
theorem dX5_putIn_133 : decode cX5_putIn 133 = .ok (.iload 6, 2) := by decide +kernel
theorem dX5_putIn_135 : decode cX5_putIn 135 = .ok (.iadd, 1) := by decide +kernel
theorem dX5_putIn_136 : decode cX5_putIn 136 = .ok (.invokevirtual 91, 3) := by decide +kernel
theorem dX5_putIn_139 : decode cX5_putIn 139 = .ok (.aload_n 0, 1) := by decide +kernel
theorem dX5_putIn_140 : decode cX5_putIn 140 = .ok (.iload 4, 2) := by decide +kernel
theorem dX5_putIn_142 : decode cX5_putIn 142 = .ok (.iconst 0, 1) := by decide +kernel
theorem dX5_putIn_143 : decode cX5_putIn 143 = .ok (.invokevirtual 91, 3) := by decide +kernel
theorem dX5_putIn_146 : decode cX5_putIn 146 = .ok (.return_, 1) := by decide +kernel
theorem dX5_join_0 : decode cX5_join 0 = .ok (.aload_n 0, 1) := by decide +kernel
theorem dX5_join_1 : decode cX5_join 1 = .ok (.iload_n 1, 1) := by decide +kernel
theorem dX5_join_2 : decode cX5_join 2 = .ok (.invokevirtual 99, 3) := by decide +kernel
theorem dX5_join_5 : decode cX5_join 5 = .ok (.ifCond .eq 11, 3) := by decide +kernel
theorem dX5_join_8 : decode cX5_join 8 = .ok (.aload_n 0, 1) := by decide +kernel
theorem dX5_join_9 : decode cX5_join 9 = .ok (.iload_n 2, 1) := by decide +kernel
theorem dX5_join_10 : decode cX5_join 10 = .ok (.invokevirtual 99, 3) := by decide +kernel
theorem dX5_join_13 : decode cX5_join 13 = .ok (.ifCond .ne 5, 3) := by decide +kernel
theorem dX5_join_16 : decode cX5_join 16 = .ok (.iconst (-1), 1) := by decide +kernel
theorem dX5_join_17 : decode cX5_join 17 = .ok (.ireturn, 1) := by decide +kernel
theorem dX5_join_18 : decode cX5_join 18 = .ok (.aload_n 0, 1) := by decide +kernel
theorem dX5_join_19 : decode cX5_join 19 = .ok (.iload_n 1, 1) := by decide +kernel
theorem dX5_join_20 : decode cX5_join 20 = .ok (.iload_n 2, 1) := by decide +kernel
theorem dX5_join_21 : decode cX5_join 21 = .ok (.if_icmp .ne 7, 3) := by decide +kernel
theorem dX5_join_24 : decode cX5_join 24 = .ok (.iconst 1, 1) := by decide +kernel
theorem dX5_join_25 : decode cX5_join 25 = .ok (.goto 4, 3) := by decide +kernel
theorem dX5_join_28 : decode cX5_join 28 = .ok (.iconst 0, 1) := by decide +kernel
theorem dX5_join_29 : decode cX5_join 29 = .ok (.iconst 2, 1) := by decide +kernel
theorem dX5_join_30 : decode cX5_join 30 = .ok (.iload_n 1, 1) := by decide +kernel
theorem dX5_join_31 : decode cX5_join 31 = .ok (.invokevirtual 80, 3) := by decide +kernel
theorem dX5_join_34 : decode cX5_join 34 = .ok (.ifCond .ne 22, 3) := by decide +kernel
theorem dX5_join_37 : decode cX5_join 37 = .ok (.aload_n 0, 1) := by decide +kernel
theorem dX5_join_38 : decode cX5_join 38 = .ok (.aload_n 0, 1) := by decide +kernel
theorem dX5_join_39 : decode cX5_join 39 = .ok (.iload_n 1, 1) := by decide +kernel
theorem dX5_join_40 : decode cX5_join 40 = .ok (.iload_n 2, 1) := by decide +kernel
theorem dX5_join_41 : decode cX5_join 41 = .ok (.invokevirtual 110, 3) := by decide +kernel
theorem dX5_join_44 : decode cX5_join 44 = .ok (.iconst 3, 1) := by decide +kernel
theorem dX5_join_45 : decode cX5_join 45 = .ok (.aload_n 0, 1) := by decide +kernel
theorem dX5_join_46 : decode cX5_join 46 = .ok (.iload_n 1, 1) := by decide +kernel
theorem dX5_join_47 : decode cX5_join 47 = .ok (.invokevirtual 114, 3) := by decide +kernel
theorem dX5_join_50 : decode cX5_join 50 = .ok (.invokevirtual 80, 3) := by decide +kernel
theorem dX5_join_53 : decode cX5_join 53 = .ok (.ifCond .eq 6, 3) := by decide +kernel
theorem dX5_join_56 : decode cX5_join 56 = .ok (.bipush (-3), 2) := by decide +kernel
theorem dX5_join_58 : decode cX5_join 58 = .ok (.ireturn, 1) := by decide +kernel
theorem dX5_join_59 : decode cX5_join 59 = .ok (.aload_n 0, 1) := by decide +kernel
theorem dX5_join_60 : decode cX5_join 60 = .ok (.invokevirtual 84, 3) := by decide +kernel
theorem dX5_join_63 : decode cX5_join 63 = .ok (.aload_n 0, 1) := by decide +kernel
theorem dX5_join_64 : decode cX5_join 64 = .ok (.iload_n 1, 1) := by decide +kernel
theorem dX5_join_65 : decode cX5_join 65 = .ok (.iload_n 2, 1) := by decide +kernel
theorem dX5_join_66 : decode cX5_join 66 = .ok (.invokevirtual 117, 3) := by decide +kernel
theorem dX5_join_69 : decode cX5_join 69 = .ok (.aload_n 0, 1) := by decide +kernel
theorem dX5_join_70 : decode cX5_join 70 = .ok (.getfield 9, 3) := by decide +kernel
theorem dX5_join_73 : decode cX5_join 73 = .ok (.iconst 1, 1) := by decide +kernel
theorem dX5_join_74 : decode cX5_join 74 = .ok (.dup2, 1) := by decide +kernel
theorem dX5_join_75 : decode cX5_join 75 = .ok (.iaload, 1) := by decide +kernel
theorem dX5_join_76 : decode cX5_join 76 = .ok (.iconst 1, 1) := by decide +kernel
theorem dX5_join_77 : decode cX5_join 77 = .ok (.iadd, 1) := by decide +kernel
theorem dX5_join_78 : decode cX5_join 78 = .ok (.iastore, 1) := by decide +kernel
theorem dX5_join_79 : decode cX5_join 79 = .ok (.aload_n 0, 1) := by decide +kernel
theorem dX5_join_80 : decode cX5_join 80 = .ok (.aload_n 0, 1) := by decide +kernel
theorem dX5_join_81 : decode cX5_join 81 = .ok (.iload_n 1, 1) := by decide +kernel
theorem dX5_join_82 : decode cX5_join 82 = .ok (.invokevirtual 77, 3) := by decide +kernel
theorem dX5_join_85 : decode cX5_join 85 = .ok (.invokevirtual 120, 3) := by decide +kernel
theorem dX5_join_88 : decode cX5_join 88 = .ok (.ireturn, 1) := by decide +kernel
theorem dX5_lower_0 : decode cX5_lower 0 = .ok (.aload_n 0, 1) := by decide +kernel
theorem dX5_lower_1 : decode cX5_lower 1 = .ok (.iload_n 1, 1) := by decide +kernel
theorem dX5_lower_2 : decode cX5_lower 2 = .ok (.invokevirtual 123, 3) := by decide +kernel
theorem dX5_lower_5 : decode cX5_lower 5 = .ok (.aload_n 0, 1) := by decide +kernel
theorem dX5_lower_6 : decode cX5_lower 6 = .ok (.iload_n 2, 1) := by decide +kernel
theorem dX5_lower_7 : decode cX5_lower 7 = .ok (.invokevirtual 123, 3) := by decide +kernel
theorem dX5_lower_10 : decode cX5_lower 10 = .ok (.if_icmp .le 7, 3) := by decide +kernel
theorem dX5_lower_13 : decode cX5_lower 13 = .ok (.iload_n 1, 1) := by decide +kernel
theorem dX5_lower_14 : decode cX5_lower 14 = .ok (.goto 4, 3) := by decide +kernel
theorem dX5_lower_17 : decode cX5_lower 17 = .ok (.iload_n 2, 1) := by decide +kernel
theorem dX5_lower_18 : decode cX5_lower 18 = .ok (.ireturn, 1) := by decide +kernel
theorem dX5_cut_0 : decode cX5_cut 0 = .ok (.aload_n 0, 1) := by decide +kernel
theorem dX5_cut_1 : decode cX5_cut 1 = .ok (.iload_n 1, 1) := by decide +kernel
theorem dX5_cut_2 : decode cX5_cut 2 = .ok (.invokevirtual 99, 3) := by decide +kernel
theorem dX5_cut_5 : decode cX5_cut 5 = .ok (.ifCond .eq 11, 3) := by decide +kernel
theorem dX5_cut_8 : decode cX5_cut 8 = .ok (.aload_n 0, 1) := by decide +kernel
theorem dX5_cut_9 : decode cX5_cut 9 = .ok (.iload_n 2, 1) := by decide +kernel
theorem dX5_cut_10 : decode cX5_cut 10 = .ok (.invokevirtual 99, 3) := by decide +kernel
theorem dX5_cut_13 : decode cX5_cut 13 = .ok (.ifCond .ne 5, 3) := by decide +kernel
theorem dX5_cut_16 : decode cX5_cut 16 = .ok (.iconst (-1), 1) := by decide +kernel
theorem dX5_cut_17 : decode cX5_cut 17 = .ok (.ireturn, 1) := by decide +kernel
theorem dX5_cut_18 : decode cX5_cut 18 = .ok (.aload_n 0, 1) := by decide +kernel
theorem dX5_cut_19 : decode cX5_cut 19 = .ok (.aload_n 0, 1) := by decide +kernel
theorem dX5_cut_20 : decode cX5_cut 20 = .ok (.iload_n 1, 1) := by decide +kernel
theorem dX5_cut_21 : decode cX5_cut 21 = .ok (.iload_n 2, 1) := by decide +kernel
theorem dX5_cut_22 : decode cX5_cut 22 = .ok (.invokevirtual 110, 3) := by decide +kernel
theorem dX5_cut_25 : decode cX5_cut 25 = .ok (.ifCond .eq 12, 3) := by decide +kernel
theorem dX5_cut_28 : decode cX5_cut 28 = .ok (.aload_n 0, 1) := by decide +kernel
theorem dX5_cut_29 : decode cX5_cut 29 = .ok (.iload_n 1, 1) := by decide +kernel
theorem dX5_cut_30 : decode cX5_cut 30 = .ok (.iload_n 2, 1) := by decide +kernel
theorem dX5_cut_31 : decode cX5_cut 31 = .ok (.invokevirtual 126, 3) := by decide +kernel
theorem dX5_cut_34 : decode cX5_cut 34 = .ok (.ifCond .ne 7, 3) := by decide +kernel
theorem dX5_cut_37 : decode cX5_cut 37 = .ok (.iconst 1, 1) := by decide +kernel
theorem dX5_cut_38 : decode cX5_cut 38 = .ok (.goto 4, 3) := by decide +kernel
theorem dX5_cut_41 : decode cX5_cut 41 = .ok (.iconst 0, 1) := by decide +kernel
theorem dX5_cut_42 : decode cX5_cut 42 = .ok (.iconst 4, 1) := by decide +kernel
theorem dX5_cut_43 : decode cX5_cut 43 = .ok (.iload_n 1, 1) := by decide +kernel
theorem dX5_cut_44 : decode cX5_cut 44 = .ok (.invokevirtual 80, 3) := by decide +kernel
theorem dX5_cut_47 : decode cX5_cut 47 = .ok (.ifCond .eq 6, 3) := by decide +kernel
theorem dX5_cut_50 : decode cX5_cut 50 = .ok (.bipush (-3), 2) := by decide +kernel
theorem dX5_cut_52 : decode cX5_cut 52 = .ok (.ireturn, 1) := by decide +kernel
theorem dX5_cut_53 : decode cX5_cut 53 = .ok (.aload_n 0, 1) := by decide +kernel
theorem dX5_cut_54 : decode cX5_cut 54 = .ok (.invokevirtual 84, 3) := by decide +kernel
theorem dX5_cut_57 : decode cX5_cut 57 = .ok (.aload_n 0, 1) := by decide +kernel
theorem dX5_cut_58 : decode cX5_cut 58 = .ok (.iload_n 1, 1) := by decide +kernel
theorem dX5_cut_59 : decode cX5_cut 59 = .ok (.iload_n 2, 1) := by decide +kernel
theorem dX5_cut_60 : decode cX5_cut 60 = .ok (.invokevirtual 129, 3) := by decide +kernel
theorem dX5_cut_63 : decode cX5_cut 63 = .ok (.istore_n 3, 1) := by decide +kernel
theorem dX5_cut_64 : decode cX5_cut 64 = .ok (.aload_n 0, 1) := by decide +kernel
theorem dX5_cut_65 : decode cX5_cut 65 = .ok (.iload_n 3, 1) := by decide +kernel
theorem dX5_cut_66 : decode cX5_cut 66 = .ok (.invokevirtual 77, 3) := by decide +kernel
theorem dX5_cut_69 : decode cX5_cut 69 = .ok (.istore 4, 2) := by decide +kernel
theorem dX5_cut_71 : decode cX5_cut 71 = .ok (.aload_n 0, 1) := by decide +kernel
theorem dX5_cut_72 : decode cX5_cut 72 = .ok (.iload_n 3, 1) := by decide +kernel
theorem dX5_cut_73 : decode cX5_cut 73 = .ok (.invokevirtual 123, 3) := by decide +kernel
theorem dX5_cut_76 : decode cX5_cut 76 = .ok (.istore 5, 2) := by decide +kernel
theorem dX5_cut_78 : decode cX5_cut 78 = .ok (.aload_n 0, 1) := by decide +kernel
theorem dX5_cut_79 : decode cX5_cut 79 = .ok (.iload_n 3, 1) := by decide +kernel
theorem dX5_cut_80 : decode cX5_cut 80 = .ok (.invokevirtual 132, 3) := by decide +kernel
theorem dX5_cut_83 : decode cX5_cut 83 = .ok (.istore 6, 2) := by decide +kernel
theorem dX5_cut_85 : decode cX5_cut 85 = .ok (.aload_n 0, 1) := by decide +kernel
theorem dX5_cut_86 : decode cX5_cut 86 = .ok (.invokevirtual 87, 3) := by decide +kernel
theorem dX5_cut_89 : decode cX5_cut 89 = .ok (.istore 7, 2) := by decide +kernel
theorem dX5_cut_91 : decode cX5_cut 91 = .ok (.iload 5, 2) := by decide +kernel
theorem dX5_cut_93 : decode cX5_cut 93 = .ok (.istore 8, 2) := by decide +kernel
theorem dX5_cut_95 : decode cX5_cut 95 = .ok (.iload 8, 2) := by decide +kernel
theorem dX5_cut_97 : decode cX5_cut 97 = .ok (.iload 6, 2) := by decide +kernel
theorem dX5_cut_99 : decode cX5_cut 99 = .ok (.if_icmp .gt 28, 3) := by decide +kernel
theorem dX5_cut_102 : decode cX5_cut 102 = .ok (.aload_n 0, 1) := by decide +kernel
theorem dX5_cut_103 : decode cX5_cut 103 = .ok (.iload 7, 2) := by decide +kernel
theorem dX5_cut_105 : decode cX5_cut 105 = .ok (.iload 8, 2) := by decide +kernel
theorem dX5_cut_107 : decode cX5_cut 107 = .ok (.iload 5, 2) := by decide +kernel
theorem dX5_cut_109 : decode cX5_cut 109 = .ok (.isub, 1) := by decide +kernel
theorem dX5_cut_110 : decode cX5_cut 110 = .ok (.aload_n 0, 1) := by decide +kernel
theorem dX5_cut_111 : decode cX5_cut 111 = .ok (.iload 4, 2) := by decide +kernel
theorem dX5_cut_113 : decode cX5_cut 113 = .ok (.iload 8, 2) := by decide +kernel
theorem dX5_cut_115 : decode cX5_cut 115 = .ok (.invokevirtual 70, 3) := by decide +kernel
theorem dX5_cut_118 : decode cX5_cut 118 = .ok (.invokevirtual 95, 3) := by decide +kernel
theorem dX5_cut_121 : decode cX5_cut 121 = .ok (.iinc 8 1, 3) := by decide +kernel
theorem dX5_cut_124 : decode cX5_cut 124 = .ok (.goto (-29), 3) := by decide +kernel
theorem dX5_cut_127 : decode cX5_cut 127 = .ok (.iload 6, 2) := by decide +kernel
theorem dX5_cut_129 : decode cX5_cut 129 = .ok (.iload 5, 2) := by decide +kernel
theorem dX5_cut_131 : decode cX5_cut 131 = .ok (.isub, 1) := by decide +kernel
theorem dX5_cut_132 : decode cX5_cut 132 = .ok (.iconst 2, 1) := by decide +kernel
theorem dX5_cut_133 : decode cX5_cut 133 = .ok (.iadd, 1) := by decide +kernel
theorem dX5_cut_134 : decode cX5_cut 134 = .ok (.istore 8, 2) := by decide +kernel
theorem dX5_cut_136 : decode cX5_cut 136 = .ok (.iload 5, 2) := by decide +kernel
theorem dX5_cut_138 : decode cX5_cut 138 = .ok (.istore 9, 2) := by decide +kernel
theorem dX5_cut_140 : decode cX5_cut 140 = .ok (.iload 9, 2) := by decide +kernel
theorem dX5_cut_142 : decode cX5_cut 142 = .ok (.iload 8, 2) := by decide +kernel
theorem dX5_cut_144 : decode cX5_cut 144 = .ok (.iadd, 1) := by decide +kernel
theorem dX5_cut_145 : decode cX5_cut 145 = .ok (.aload_n 0, 1) := by decide +kernel
theorem dX5_cut_146 : decode cX5_cut 146 = .ok (.iload 4, 2) := by decide +kernel
theorem dX5_cut_148 : decode cX5_cut 148 = .ok (.invokevirtual 66, 3) := by decide +kernel
theorem dX5_cut_151 : decode cX5_cut 151 = .ok (.if_icmp .ge 28, 3) := by decide +kernel
theorem dX5_cut_154 : decode cX5_cut 154 = .ok (.aload_n 0, 1) := by decide +kernel
theorem dX5_cut_155 : decode cX5_cut 155 = .ok (.iload 4, 2) := by decide +kernel
theorem dX5_cut_157 : decode cX5_cut 157 = .ok (.iload 9, 2) := by decide +kernel
theorem dX5_cut_159 : decode cX5_cut 159 = .ok (.aload_n 0, 1) := by decide +kernel
theorem dX5_cut_160 : decode cX5_cut 160 = .ok (.iload 4, 2) := by decide +kernel
theorem dX5_cut_162 : decode cX5_cut 162 = .ok (.iload 9, 2) := by decide +kernel
theorem dX5_cut_164 : decode cX5_cut 164 = .ok (.iload 8, 2) := by decide +kernel
theorem dX5_cut_166 : decode cX5_cut 166 = .ok (.iadd, 1) := by decide +kernel
theorem dX5_cut_167 : decode cX5_cut 167 = .ok (.invokevirtual 70, 3) := by decide +kernel
theorem dX5_cut_170 : decode cX5_cut 170 = .ok (.invokevirtual 95, 3) := by decide +kernel
theorem dX5_cut_173 : decode cX5_cut 173 = .ok (.iinc 9 1, 3) := by decide +kernel
theorem dX5_cut_176 : decode cX5_cut 176 = .ok (.goto (-36), 3) := by decide +kernel
theorem dX5_cut_179 : decode cX5_cut 179 = .ok (.aload_n 0, 1) := by decide +kernel
theorem dX5_cut_180 : decode cX5_cut 180 = .ok (.iload 4, 2) := by decide +kernel
theorem dX5_cut_182 : decode cX5_cut 182 = .ok (.aload_n 0, 1) := by decide +kernel
theorem dX5_cut_183 : decode cX5_cut 183 = .ok (.iload 4, 2) := by decide +kernel
theorem dX5_cut_185 : decode cX5_cut 185 = .ok (.invokevirtual 66, 3) := by decide +kernel
theorem dX5_cut_188 : decode cX5_cut 188 = .ok (.iload 8, 2) := by decide +kernel
theorem dX5_cut_190 : decode cX5_cut 190 = .ok (.isub, 1) := by decide +kernel
theorem dX5_cut_191 : decode cX5_cut 191 = .ok (.invokevirtual 91, 3) := by decide +kernel
theorem dX5_cut_194 : decode cX5_cut 194 = .ok (.aload_n 0, 1) := by decide +kernel
theorem dX5_cut_195 : decode cX5_cut 195 = .ok (.iload 7, 2) := by decide +kernel
theorem dX5_cut_197 : decode cX5_cut 197 = .ok (.iload 6, 2) := by decide +kernel
theorem dX5_cut_199 : decode cX5_cut 199 = .ok (.iload 5, 2) := by decide +kernel
theorem dX5_cut_201 : decode cX5_cut 201 = .ok (.isub, 1) := by decide +kernel
theorem dX5_cut_202 : decode cX5_cut 202 = .ok (.iconst 1, 1) := by decide +kernel
theorem dX5_cut_203 : decode cX5_cut 203 = .ok (.iadd, 1) := by decide +kernel
theorem dX5_cut_204 : decode cX5_cut 204 = .ok (.invokevirtual 91, 3) := by decide +kernel
theorem dX5_cut_207 : decode cX5_cut 207 = .ok (.aload_n 0, 1) := by decide +kernel
theorem dX5_cut_208 : decode cX5_cut 208 = .ok (.getfield 9, 3) := by decide +kernel
theorem dX5_cut_211 : decode cX5_cut 211 = .ok (.iconst 2, 1) := by decide +kernel
theorem dX5_cut_212 : decode cX5_cut 212 = .ok (.dup2, 1) := by decide +kernel
theorem dX5_cut_213 : decode cX5_cut 213 = .ok (.iaload, 1) := by decide +kernel
theorem dX5_cut_214 : decode cX5_cut 214 = .ok (.iconst 1, 1) := by decide +kernel
theorem dX5_cut_215 : decode cX5_cut 215 = .ok (.iadd, 1) := by decide +kernel
theorem dX5_cut_216 : decode cX5_cut 216 = .ok (.iastore, 1) := by decide +kernel
theorem dX5_cut_217 : decode cX5_cut 217 = .ok (.iload_n 3, 1) := by decide +kernel
theorem dX5_cut_218 : decode cX5_cut 218 = .ok (.ireturn, 1) := by decide +kernel
theorem dX5_turn_0 : decode cX5_turn 0 = .ok (.aload_n 0, 1) := by decide +kernel
theorem dX5_turn_1 : decode cX5_turn 1 = .ok (.iload_n 1, 1) := by decide +kernel
theorem dX5_turn_2 : decode cX5_turn 2 = .ok (.invokevirtual 99, 3) := by decide +kernel
theorem dX5_turn_5 : decode cX5_turn 5 = .ok (.ifCond .ne 5, 3) := by decide +kernel
theorem dX5_turn_8 : decode cX5_turn 8 = .ok (.iconst (-1), 1) := by decide +kernel
theorem dX5_turn_9 : decode cX5_turn 9 = .ok (.ireturn, 1) := by decide +kernel
theorem dX5_turn_10 : decode cX5_turn 10 = .ok (.aload_n 0, 1) := by decide +kernel
theorem dX5_turn_11 : decode cX5_turn 11 = .ok (.iload_n 1, 1) := by decide +kernel
theorem dX5_turn_12 : decode cX5_turn 12 = .ok (.invokevirtual 114, 3) := by decide +kernel
theorem dX5_turn_15 : decode cX5_turn 15 = .ok (.istore_n 2, 1) := by decide +kernel
theorem dX5_turn_16 : decode cX5_turn 16 = .ok (.aload_n 0, 1) := by decide +kernel
theorem dX5_turn_17 : decode cX5_turn 17 = .ok (.iload_n 2, 1) := by decide +kernel
theorem dX5_turn_18 : decode cX5_turn 18 = .ok (.iload_n 1, 1) := by decide +kernel
theorem dX5_turn_19 : decode cX5_turn 19 = .ok (.if_icmp .ne 7, 3) := by decide +kernel
theorem dX5_turn_22 : decode cX5_turn 22 = .ok (.iconst 1, 1) := by decide +kernel
theorem dX5_turn_23 : decode cX5_turn 23 = .ok (.goto 4, 3) := by decide +kernel
theorem dX5_turn_26 : decode cX5_turn 26 = .ok (.iconst 0, 1) := by decide +kernel
theorem dX5_turn_27 : decode cX5_turn 27 = .ok (.bipush 7, 2) := by decide +kernel
theorem dX5_turn_29 : decode cX5_turn 29 = .ok (.iload_n 1, 1) := by decide +kernel
theorem dX5_turn_30 : decode cX5_turn 30 = .ok (.invokevirtual 80, 3) := by decide +kernel
theorem dX5_turn_33 : decode cX5_turn 33 = .ok (.ifCond .eq 6, 3) := by decide +kernel
theorem dX5_turn_36 : decode cX5_turn 36 = .ok (.bipush (-3), 2) := by decide +kernel
theorem dX5_turn_38 : decode cX5_turn 38 = .ok (.ireturn, 1) := by decide +kernel
theorem dX5_turn_39 : decode cX5_turn 39 = .ok (.aload_n 0, 1) := by decide +kernel
theorem dX5_turn_40 : decode cX5_turn 40 = .ok (.invokevirtual 84, 3) := by decide +kernel
theorem dX5_turn_43 : decode cX5_turn 43 = .ok (.aload_n 0, 1) := by decide +kernel
theorem dX5_turn_44 : decode cX5_turn 44 = .ok (.iload_n 1, 1) := by decide +kernel
theorem dX5_turn_45 : decode cX5_turn 45 = .ok (.invokevirtual 106, 3) := by decide +kernel
theorem dX5_turn_48 : decode cX5_turn 48 = .ok (.aload_n 0, 1) := by decide +kernel
theorem dX5_turn_49 : decode cX5_turn 49 = .ok (.getfield 9, 3) := by decide +kernel
theorem dX5_turn_52 : decode cX5_turn 52 = .ok (.iconst 3, 1) := by decide +kernel
theorem dX5_turn_53 : decode cX5_turn 53 = .ok (.dup2, 1) := by decide +kernel
theorem dX5_turn_54 : decode cX5_turn 54 = .ok (.iaload, 1) := by decide +kernel
theorem dX5_turn_55 : decode cX5_turn 55 = .ok (.iconst 1, 1) := by decide +kernel
theorem dX5_turn_56 : decode cX5_turn 56 = .ok (.iadd, 1) := by decide +kernel
theorem dX5_turn_57 : decode cX5_turn 57 = .ok (.iastore, 1) := by decide +kernel
theorem dX5_turn_58 : decode cX5_turn 58 = .ok (.iload_n 2, 1) := by decide +kernel
theorem dX5_turn_59 : decode cX5_turn 59 = .ok (.ireturn, 1) := by decide +kernel
theorem dX5_risen_0 : decode cX5_risen 0 = .ok (.aload_n 0, 1) := by decide +kernel
theorem dX5_risen_1 : decode cX5_risen 1 = .ok (.iload_n 1, 1) := by decide +kernel
theorem dX5_risen_2 : decode cX5_risen 2 = .ok (.invokevirtual 103, 3) := by decide +kernel
theorem dX5_risen_5 : decode cX5_risen 5 = .ok (.iload_n 2, 1) := by decide +kernel
theorem dX5_risen_6 : decode cX5_risen 6 = .ok (.iadd, 1) := by decide +kernel
theorem dX5_risen_7 : decode cX5_risen 7 = .ok (.istore_n 3, 1) := by decide +kernel
theorem dX5_risen_8 : decode cX5_risen 8 = .ok (.iload_n 3, 1) := by decide +kernel
theorem dX5_risen_9 : decode cX5_risen 9 = .ok (.ifCond .ge 7, 3) := by decide +kernel
theorem dX5_risen_12 : decode cX5_risen 12 = .ok (.iconst 0, 1) := by decide +kernel
theorem dX5_risen_13 : decode cX5_risen 13 = .ok (.goto 15, 3) := by decide +kernel
theorem dX5_risen_16 : decode cX5_risen 16 = .ok (.iload_n 3, 1) := by decide +kernel
theorem dX5_risen_17 : decode cX5_risen 17 = .ok (.bipush 99, 2) := by decide +kernel
theorem dX5_risen_19 : decode cX5_risen 19 = .ok (.if_icmp .le 8, 3) := by decide +kernel
theorem dX5_risen_22 : decode cX5_risen 22 = .ok (.bipush 99, 2) := by decide +kernel
theorem dX5_risen_24 : decode cX5_risen 24 = .ok (.goto 4, 3) := by decide +kernel
theorem dX5_risen_27 : decode cX5_risen 27 = .ok (.iload_n 3, 1) := by decide +kernel
theorem dX5_risen_28 : decode cX5_risen 28 = .ok (.ireturn, 1) := by decide +kernel
theorem dX5_rise_0 : decode cX5_rise 0 = .ok (.aload_n 0, 1) := by decide +kernel
theorem dX5_rise_1 : decode cX5_rise 1 = .ok (.iload_n 1, 1) := by decide +kernel
theorem dX5_rise_2 : decode cX5_rise 2 = .ok (.invokevirtual 99, 3) := by decide +kernel
theorem dX5_rise_5 : decode cX5_rise 5 = .ok (.ifCond .ne 5, 3) := by decide +kernel
theorem dX5_rise_8 : decode cX5_rise 8 = .ok (.iconst (-1), 1) := by decide +kernel
theorem dX5_rise_9 : decode cX5_rise 9 = .ok (.ireturn, 1) := by decide +kernel
theorem dX5_rise_10 : decode cX5_rise 10 = .ok (.iload_n 2, 1) := by decide +kernel
theorem dX5_rise_11 : decode cX5_rise 11 = .ok (.bipush (-99), 2) := by decide +kernel
theorem dX5_rise_13 : decode cX5_rise 13 = .ok (.bipush 99, 2) := by decide +kernel
theorem dX5_rise_15 : decode cX5_rise 15 = .ok (.invokestatic 62, 3) := by decide +kernel
theorem dX5_rise_18 : decode cX5_rise 18 = .ok (.ifCond .ne 6, 3) := by decide +kernel
theorem dX5_rise_21 : decode cX5_rise 21 = .ok (.bipush (-2), 2) := by decide +kernel
theorem dX5_rise_23 : decode cX5_rise 23 = .ok (.ireturn, 1) := by decide +kernel
theorem dX5_rise_24 : decode cX5_rise 24 = .ok (.iconst 0, 1) := by decide +kernel
theorem dX5_rise_25 : decode cX5_rise 25 = .ok (.istore_n 3, 1) := by decide +kernel
theorem dX5_rise_26 : decode cX5_rise 26 = .ok (.iconst 0, 1) := by decide +kernel
theorem dX5_rise_27 : decode cX5_rise 27 = .ok (.istore 4, 2) := by decide +kernel
theorem dX5_rise_29 : decode cX5_rise 29 = .ok (.iload 4, 2) := by decide +kernel
theorem dX5_rise_31 : decode cX5_rise 31 = .ok (.aload_n 0, 1) := by decide +kernel
theorem dX5_rise_32 : decode cX5_rise 32 = .ok (.getfield 9, 3) := by decide +kernel
theorem dX5_rise_35 : decode cX5_rise 35 = .ok (.iconst 0, 1) := by decide +kernel
theorem dX5_rise_36 : decode cX5_rise 36 = .ok (.iaload, 1) := by decide +kernel
theorem dX5_rise_37 : decode cX5_rise 37 = .ok (.if_icmp .ge 43, 3) := by decide +kernel
theorem dX5_rise_40 : decode cX5_rise 40 = .ok (.iload_n 3, 1) := by decide +kernel
theorem dX5_rise_41 : decode cX5_rise 41 = .ok (.aload_n 0, 1) := by decide +kernel
theorem dX5_rise_42 : decode cX5_rise 42 = .ok (.iload 4, 2) := by decide +kernel
theorem dX5_rise_44 : decode cX5_rise 44 = .ok (.iload_n 1, 1) := by decide +kernel
theorem dX5_rise_45 : decode cX5_rise 45 = .ok (.invokevirtual 110, 3) := by decide +kernel
theorem dX5_rise_48 : decode cX5_rise 48 = .ok (.ifCond .eq 23, 3) := by decide +kernel
theorem dX5_rise_51 : decode cX5_rise 51 = .ok (.aload_n 0, 1) := by decide +kernel
theorem dX5_rise_52 : decode cX5_rise 52 = .ok (.iload 4, 2) := by decide +kernel
theorem dX5_rise_54 : decode cX5_rise 54 = .ok (.iload_n 2, 1) := by decide +kernel
theorem dX5_rise_55 : decode cX5_rise 55 = .ok (.invokevirtual 135, 3) := by decide +kernel
theorem dX5_rise_58 : decode cX5_rise 58 = .ok (.aload_n 0, 1) := by decide +kernel
theorem dX5_rise_59 : decode cX5_rise 59 = .ok (.iload 4, 2) := by decide +kernel
theorem dX5_rise_61 : decode cX5_rise 61 = .ok (.invokevirtual 103, 3) := by decide +kernel
theorem dX5_rise_64 : decode cX5_rise 64 = .ok (.if_icmp .eq 7, 3) := by decide +kernel
theorem dX5_rise_67 : decode cX5_rise 67 = .ok (.iconst 1, 1) := by decide +kernel
theorem dX5_rise_68 : decode cX5_rise 68 = .ok (.goto 4, 3) := by decide +kernel
theorem dX5_rise_71 : decode cX5_rise 71 = .ok (.iconst 0, 1) := by decide +kernel
theorem dX5_rise_72 : decode cX5_rise 72 = .ok (.iadd, 1) := by decide +kernel
theorem dX5_rise_73 : decode cX5_rise 73 = .ok (.istore_n 3, 1) := by decide +kernel
theorem dX5_rise_74 : decode cX5_rise 74 = .ok (.iinc 4 1, 3) := by decide +kernel
theorem dX5_rise_77 : decode cX5_rise 77 = .ok (.goto (-48), 3) := by decide +kernel
theorem dX5_rise_80 : decode cX5_rise 80 = .ok (.aload_n 0, 1) := by decide +kernel
theorem dX5_rise_81 : decode cX5_rise 81 = .ok (.iload_n 3, 1) := by decide +kernel
theorem dX5_rise_82 : decode cX5_rise 82 = .ok (.ifCond .ne 7, 3) := by decide +kernel
theorem dX5_rise_85 : decode cX5_rise 85 = .ok (.iconst 1, 1) := by decide +kernel
theorem dX5_rise_86 : decode cX5_rise 86 = .ok (.goto 4, 3) := by decide +kernel
theorem dX5_rise_89 : decode cX5_rise 89 = .ok (.iconst 0, 1) := by decide +kernel
theorem dX5_rise_90 : decode cX5_rise 90 = .ok (.bipush 6, 2) := by decide +kernel
theorem dX5_rise_92 : decode cX5_rise 92 = .ok (.aload_n 0, 1) := by decide +kernel
theorem dX5_rise_93 : decode cX5_rise 93 = .ok (.aload_n 0, 1) := by decide +kernel
theorem dX5_rise_94 : decode cX5_rise 94 = .ok (.iload_n 1, 1) := by decide +kernel
theorem dX5_rise_95 : decode cX5_rise 95 = .ok (.invokevirtual 77, 3) := by decide +kernel
theorem dX5_rise_98 : decode cX5_rise 98 = .ok (.invokevirtual 120, 3) := by decide +kernel
theorem dX5_rise_101 : decode cX5_rise 101 = .ok (.invokevirtual 80, 3) := by decide +kernel
theorem dX5_rise_104 : decode cX5_rise 104 = .ok (.ifCond .eq 6, 3) := by decide +kernel
theorem dX5_rise_107 : decode cX5_rise 107 = .ok (.bipush (-3), 2) := by decide +kernel
theorem dX5_rise_109 : decode cX5_rise 109 = .ok (.ireturn, 1) := by decide +kernel
theorem dX5_rise_110 : decode cX5_rise 110 = .ok (.aload_n 0, 1) := by decide +kernel
theorem dX5_rise_111 : decode cX5_rise 111 = .ok (.invokevirtual 84, 3) := by decide +kernel
theorem dX5_rise_114 : decode cX5_rise 114 = .ok (.iconst 0, 1) := by decide +kernel
theorem dX5_rise_115 : decode cX5_rise 115 = .ok (.istore 4, 2) := by decide +kernel
theorem dX5_rise_117 : decode cX5_rise 117 = .ok (.iload 4, 2) := by decide +kernel
theorem dX5_rise_119 : decode cX5_rise 119 = .ok (.aload_n 0, 1) := by decide +kernel
theorem dX5_rise_120 : decode cX5_rise 120 = .ok (.getfield 9, 3) := by decide +kernel
theorem dX5_rise_123 : decode cX5_rise 123 = .ok (.iconst 0, 1) := by decide +kernel
theorem dX5_rise_124 : decode cX5_rise 124 = .ok (.iaload, 1) := by decide +kernel
theorem dX5_rise_125 : decode cX5_rise 125 = .ok (.if_icmp .ge 44, 3) := by decide +kernel
theorem dX5_rise_128 : decode cX5_rise 128 = .ok (.aload_n 0, 1) := by decide +kernel
theorem dX5_rise_129 : decode cX5_rise 129 = .ok (.getfield 9, 3) := by decide +kernel
theorem dX5_rise_132 : decode cX5_rise 132 = .ok (.iconst 4, 1) := by decide +kernel
theorem dX5_rise_133 : decode cX5_rise 133 = .ok (.iload 4, 2) := by decide +kernel
theorem dX5_rise_135 : decode cX5_rise 135 = .ok (.iadd, 1) := by decide +kernel
theorem dX5_rise_136 : decode cX5_rise 136 = .ok (.aload_n 0, 1) := by decide +kernel
theorem dX5_rise_137 : decode cX5_rise 137 = .ok (.iload 4, 2) := by decide +kernel
theorem dX5_rise_139 : decode cX5_rise 139 = .ok (.iload_n 1, 1) := by decide +kernel
theorem dX5_rise_140 : decode cX5_rise 140 = .ok (.invokevirtual 110, 3) := by decide +kernel
theorem dX5_rise_143 : decode cX5_rise 143 = .ok (.ifCond .eq 13, 3) := by decide +kernel
theorem dX5_rise_146 : decode cX5_rise 146 = .ok (.aload_n 0, 1) := by decide +kernel
theorem dX5_rise_147 : decode cX5_rise 147 = .ok (.iload 4, 2) := by decide +kernel
theorem dX5_rise_149 : decode cX5_rise 149 = .ok (.iload_n 2, 1) := by decide +kernel
theorem dX5_rise_150 : decode cX5_rise 150 = .ok (.invokevirtual 135, 3) := by decide +kernel
theorem dX5_rise_153 : decode cX5_rise 153 = .ok (.goto 9, 3) := by decide +kernel
theorem dX5_rise_156 : decode cX5_rise 156 = .ok (.aload_n 0, 1) := by decide +kernel
theorem dX5_rise_157 : decode cX5_rise 157 = .ok (.iload 4, 2) := by decide +kernel
theorem dX5_rise_159 : decode cX5_rise 159 = .ok (.invokevirtual 103, 3) := by decide +kernel
theorem dX5_rise_162 : decode cX5_rise 162 = .ok (.iastore, 1) := by decide +kernel
theorem dX5_rise_163 : decode cX5_rise 163 = .ok (.iinc 4 1, 3) := by decide +kernel
theorem dX5_rise_166 : decode cX5_rise 166 = .ok (.goto (-49), 3) := by decide +kernel
theorem dX5_rise_169 : decode cX5_rise 169 = .ok (.iload_n 3, 1) := by decide +kernel
theorem dX5_rise_170 : decode cX5_rise 170 = .ok (.ireturn, 1) := by decide +kernel
theorem dX5_below_0 : decode cX5_below 0 = .ok (.aload_n 0, 1) := by decide +kernel
theorem dX5_below_1 : decode cX5_below 1 = .ok (.iload_n 1, 1) := by decide +kernel
theorem dX5_below_2 : decode cX5_below 2 = .ok (.iload_n 2, 1) := by decide +kernel
theorem dX5_below_3 : decode cX5_below 3 = .ok (.invokevirtual 110, 3) := by decide +kernel
theorem dX5_below_6 : decode cX5_below 6 = .ok (.ifCond .eq 33, 3) := by decide +kernel
theorem dX5_below_9 : decode cX5_below 9 = .ok (.aload_n 0, 1) := by decide +kernel
theorem dX5_below_10 : decode cX5_below 10 = .ok (.iload_n 1, 1) := by decide +kernel
theorem dX5_below_11 : decode cX5_below 11 = .ok (.invokevirtual 123, 3) := by decide +kernel
theorem dX5_below_14 : decode cX5_below 14 = .ok (.aload_n 0, 1) := by decide +kernel
theorem dX5_below_15 : decode cX5_below 15 = .ok (.iload_n 2, 1) := by decide +kernel
theorem dX5_below_16 : decode cX5_below 16 = .ok (.invokevirtual 123, 3) := by decide +kernel
theorem dX5_below_19 : decode cX5_below 19 = .ok (.if_icmp .lt 20, 3) := by decide +kernel
theorem dX5_below_22 : decode cX5_below 22 = .ok (.aload_n 0, 1) := by decide +kernel
theorem dX5_below_23 : decode cX5_below 23 = .ok (.iload_n 1, 1) := by decide +kernel
theorem dX5_below_24 : decode cX5_below 24 = .ok (.invokevirtual 132, 3) := by decide +kernel
theorem dX5_below_27 : decode cX5_below 27 = .ok (.aload_n 0, 1) := by decide +kernel
theorem dX5_below_28 : decode cX5_below 28 = .ok (.iload_n 2, 1) := by decide +kernel
theorem dX5_below_29 : decode cX5_below 29 = .ok (.invokevirtual 132, 3) := by decide +kernel
theorem dX5_below_32 : decode cX5_below 32 = .ok (.if_icmp .gt 7, 3) := by decide +kernel
theorem dX5_below_35 : decode cX5_below 35 = .ok (.iconst 1, 1) := by decide +kernel
theorem dX5_below_36 : decode cX5_below 36 = .ok (.goto 4, 3) := by decide +kernel
theorem dX5_below_39 : decode cX5_below 39 = .ok (.iconst 0, 1) := by decide +kernel
theorem dX5_below_40 : decode cX5_below 40 = .ok (.ireturn, 1) := by decide +kernel
theorem dX5_depth_0 : decode cX5_depth 0 = .ok (.iconst 0, 1) := by decide +kernel
theorem dX5_depth_1 : decode cX5_depth 1 = .ok (.istore_n 2, 1) := by decide +kernel
theorem dX5_depth_2 : decode cX5_depth 2 = .ok (.iconst 0, 1) := by decide +kernel
theorem dX5_depth_3 : decode cX5_depth 3 = .ok (.istore_n 3, 1) := by decide +kernel
theorem dX5_depth_4 : decode cX5_depth 4 = .ok (.iload_n 3, 1) := by decide +kernel
theorem dX5_depth_5 : decode cX5_depth 5 = .ok (.aload_n 0, 1) := by decide +kernel
theorem dX5_depth_6 : decode cX5_depth 6 = .ok (.getfield 9, 3) := by decide +kernel
theorem dX5_depth_9 : decode cX5_depth 9 = .ok (.iconst 0, 1) := by decide +kernel
theorem dX5_depth_10 : decode cX5_depth 10 = .ok (.iaload, 1) := by decide +kernel
theorem dX5_depth_11 : decode cX5_depth 11 = .ok (.if_icmp .ge 31, 3) := by decide +kernel
theorem dX5_depth_14 : decode cX5_depth 14 = .ok (.iload_n 2, 1) := by decide +kernel
theorem dX5_depth_15 : decode cX5_depth 15 = .ok (.iload_n 3, 1) := by decide +kernel
theorem dX5_depth_16 : decode cX5_depth 16 = .ok (.iload_n 1, 1) := by decide +kernel
theorem dX5_depth_17 : decode cX5_depth 17 = .ok (.if_icmp .eq 16, 3) := by decide +kernel
theorem dX5_depth_20 : decode cX5_depth 20 = .ok (.aload_n 0, 1) := by decide +kernel
theorem dX5_depth_21 : decode cX5_depth 21 = .ok (.iload_n 1, 1) := by decide +kernel
theorem dX5_depth_22 : decode cX5_depth 22 = .ok (.iload_n 3, 1) := by decide +kernel
theorem dX5_depth_23 : decode cX5_depth 23 = .ok (.invokevirtual 138, 3) := by decide +kernel
theorem dX5_depth_26 : decode cX5_depth 26 = .ok (.ifCond .eq 7, 3) := by decide +kernel
theorem dX5_depth_29 : decode cX5_depth 29 = .ok (.iconst 1, 1) := by decide +kernel
theorem dX5_depth_30 : decode cX5_depth 30 = .ok (.goto 4, 3) := by decide +kernel
theorem dX5_depth_33 : decode cX5_depth 33 = .ok (.iconst 0, 1) := by decide +kernel
theorem dX5_depth_34 : decode cX5_depth 34 = .ok (.iadd, 1) := by decide +kernel
theorem dX5_depth_35 : decode cX5_depth 35 = .ok (.istore_n 2, 1) := by decide +kernel
theorem dX5_depth_36 : decode cX5_depth 36 = .ok (.iinc 3 1, 3) := by decide +kernel
theorem dX5_depth_39 : decode cX5_depth 39 = .ok (.goto (-35), 3) := by decide +kernel
theorem dX5_depth_42 : decode cX5_depth 42 = .ok (.iload_n 2, 1) := by decide +kernel
theorem dX5_depth_43 : decode cX5_depth 43 = .ok (.ireturn, 1) := by decide +kernel
theorem dX5_above_0 : decode cX5_above 0 = .ok (.aload_n 0, 1) := by decide +kernel
theorem dX5_above_1 : decode cX5_above 1 = .ok (.iload_n 1, 1) := by decide +kernel
theorem dX5_above_2 : decode cX5_above 2 = .ok (.invokevirtual 123, 3) := by decide +kernel
theorem dX5_above_5 : decode cX5_above 5 = .ok (.istore_n 2, 1) := by decide +kernel
theorem dX5_above_6 : decode cX5_above 6 = .ok (.iload_n 2, 1) := by decide +kernel
theorem dX5_above_7 : decode cX5_above 7 = .ok (.ifCond .ne 8, 3) := by decide +kernel
theorem dX5_above_10 : decode cX5_above 10 = .ok (.bipush (-4), 2) := by decide +kernel
theorem dX5_above_12 : decode cX5_above 12 = .ok (.goto 15, 3) := by decide +kernel
theorem dX5_above_15 : decode cX5_above 15 = .ok (.aload_n 0, 1) := by decide +kernel
theorem dX5_above_16 : decode cX5_above 16 = .ok (.aload_n 0, 1) := by decide +kernel
theorem dX5_above_17 : decode cX5_above 17 = .ok (.iload_n 1, 1) := by decide +kernel
theorem dX5_above_18 : decode cX5_above 18 = .ok (.invokevirtual 77, 3) := by decide +kernel
theorem dX5_above_21 : decode cX5_above 21 = .ok (.iload_n 2, 1) := by decide +kernel
theorem dX5_above_22 : decode cX5_above 22 = .ok (.iconst 1, 1) := by decide +kernel
theorem dX5_above_23 : decode cX5_above 23 = .ok (.isub, 1) := by decide +kernel
theorem dX5_above_24 : decode cX5_above 24 = .ok (.invokevirtual 70, 3) := by decide +kernel
theorem dX5_above_27 : decode cX5_above 27 = .ok (.ireturn, 1) := by decide +kernel
theorem dX5_countBelow_0 : decode cX5_countBelow 0 = .ok (.iconst 0, 1) := by decide +kernel
theorem dX5_countBelow_1 : decode cX5_countBelow 1 = .ok (.istore_n 2, 1) := by decide +kernel
theorem dX5_countBelow_2 : decode cX5_countBelow 2 = .ok (.iconst 0, 1) := by decide +kernel
theorem dX5_countBelow_3 : decode cX5_countBelow 3 = .ok (.istore_n 3, 1) := by decide +kernel
theorem dX5_countBelow_4 : decode cX5_countBelow 4 = .ok (.iload_n 3, 1) := by decide +kernel
theorem dX5_countBelow_5 : decode cX5_countBelow 5 = .ok (.aload_n 0, 1) := by decide +kernel
theorem dX5_countBelow_6 : decode cX5_countBelow 6 = .ok (.getfield 9, 3) := by decide +kernel
theorem dX5_countBelow_9 : decode cX5_countBelow 9 = .ok (.iconst 0, 1) := by decide +kernel
theorem dX5_countBelow_10 : decode cX5_countBelow 10 = .ok (.iaload, 1) := by decide +kernel
theorem dX5_countBelow_11 : decode cX5_countBelow 11 = .ok (.if_icmp .ge 26, 3) := by decide +kernel
theorem dX5_countBelow_14 : decode cX5_countBelow 14 = .ok (.iload_n 2, 1) := by decide +kernel
theorem dX5_countBelow_15 : decode cX5_countBelow 15 = .ok (.aload_n 0, 1) := by decide +kernel
theorem dX5_countBelow_16 : decode cX5_countBelow 16 = .ok (.iload_n 3, 1) := by decide +kernel
theorem dX5_countBelow_17 : decode cX5_countBelow 17 = .ok (.iload_n 1, 1) := by decide +kernel
theorem dX5_countBelow_18 : decode cX5_countBelow 18 = .ok (.invokevirtual 138, 3) := by decide +kernel
theorem dX5_countBelow_21 : decode cX5_countBelow 21 = .ok (.ifCond .eq 7, 3) := by decide +kernel
theorem dX5_countBelow_24 : decode cX5_countBelow 24 = .ok (.iconst 1, 1) := by decide +kernel
theorem dX5_countBelow_25 : decode cX5_countBelow 25 = .ok (.goto 4, 3) := by decide +kernel
theorem dX5_countBelow_28 : decode cX5_countBelow 28 = .ok (.iconst 0, 1) := by decide +kernel
theorem dX5_countBelow_29 : decode cX5_countBelow 29 = .ok (.iadd, 1) := by decide +kernel
theorem dX5_countBelow_30 : decode cX5_countBelow 30 = .ok (.istore_n 2, 1) := by decide +kernel
theorem dX5_countBelow_31 : decode cX5_countBelow 31 = .ok (.iinc 3 1, 3) := by decide +kernel
theorem dX5_countBelow_34 : decode cX5_countBelow 34 = .ok (.goto (-30), 3) := by decide +kernel
theorem dX5_countBelow_37 : decode cX5_countBelow 37 = .ok (.iload_n 2, 1) := by decide +kernel
theorem dX5_countBelow_38 : decode cX5_countBelow 38 = .ok (.ireturn, 1) := by decide +kernel
theorem dX5_sumBelow_0 : decode cX5_sumBelow 0 = .ok (.iconst 0, 1) := by decide +kernel
theorem dX5_sumBelow_1 : decode cX5_sumBelow 1 = .ok (.istore_n 2, 1) := by decide +kernel
theorem dX5_sumBelow_2 : decode cX5_sumBelow 2 = .ok (.iconst 0, 1) := by decide +kernel
theorem dX5_sumBelow_3 : decode cX5_sumBelow 3 = .ok (.istore_n 3, 1) := by decide +kernel
theorem dX5_sumBelow_4 : decode cX5_sumBelow 4 = .ok (.iload_n 3, 1) := by decide +kernel
theorem dX5_sumBelow_5 : decode cX5_sumBelow 5 = .ok (.aload_n 0, 1) := by decide +kernel
theorem dX5_sumBelow_6 : decode cX5_sumBelow 6 = .ok (.getfield 9, 3) := by decide +kernel
theorem dX5_sumBelow_9 : decode cX5_sumBelow 9 = .ok (.iconst 0, 1) := by decide +kernel
theorem dX5_sumBelow_10 : decode cX5_sumBelow 10 = .ok (.iaload, 1) := by decide +kernel
theorem dX5_sumBelow_11 : decode cX5_sumBelow 11 = .ok (.if_icmp .ge 30, 3) := by decide +kernel
theorem dX5_sumBelow_14 : decode cX5_sumBelow 14 = .ok (.iload_n 2, 1) := by decide +kernel
theorem dX5_sumBelow_15 : decode cX5_sumBelow 15 = .ok (.aload_n 0, 1) := by decide +kernel
theorem dX5_sumBelow_16 : decode cX5_sumBelow 16 = .ok (.iload_n 3, 1) := by decide +kernel
theorem dX5_sumBelow_17 : decode cX5_sumBelow 17 = .ok (.iload_n 1, 1) := by decide +kernel
theorem dX5_sumBelow_18 : decode cX5_sumBelow 18 = .ok (.invokevirtual 138, 3) := by decide +kernel
theorem dX5_sumBelow_21 : decode cX5_sumBelow 21 = .ok (.ifCond .eq 11, 3) := by decide +kernel
theorem dX5_sumBelow_24 : decode cX5_sumBelow 24 = .ok (.aload_n 0, 1) := by decide +kernel
theorem dX5_sumBelow_25 : decode cX5_sumBelow 25 = .ok (.iload_n 3, 1) := by decide +kernel
theorem dX5_sumBelow_26 : decode cX5_sumBelow 26 = .ok (.invokevirtual 103, 3) := by decide +kernel
theorem dX5_sumBelow_29 : decode cX5_sumBelow 29 = .ok (.goto 4, 3) := by decide +kernel
theorem dX5_sumBelow_32 : decode cX5_sumBelow 32 = .ok (.iconst 0, 1) := by decide +kernel
theorem dX5_sumBelow_33 : decode cX5_sumBelow 33 = .ok (.iadd, 1) := by decide +kernel
theorem dX5_sumBelow_34 : decode cX5_sumBelow 34 = .ok (.istore_n 2, 1) := by decide +kernel
theorem dX5_sumBelow_35 : decode cX5_sumBelow 35 = .ok (.iinc 3 1, 3) := by decide +kernel
theorem dX5_sumBelow_38 : decode cX5_sumBelow 38 = .ok (.goto (-34), 3) := by decide +kernel
theorem dX5_sumBelow_41 : decode cX5_sumBelow 41 = .ok (.iload_n 2, 1) := by decide +kernel
theorem dX5_sumBelow_42 : decode cX5_sumBelow 42 = .ok (.ireturn, 1) := by decide +kernel
theorem dX5_ropes_0 : decode cX5_ropes 0 = .ok (.iconst 0, 1) := by decide +kernel
theorem dX5_ropes_1 : decode cX5_ropes 1 = .ok (.istore_n 2, 1) := by decide +kernel
theorem dX5_ropes_2 : decode cX5_ropes 2 = .ok (.iconst 0, 1) := by decide +kernel
theorem dX5_ropes_3 : decode cX5_ropes 3 = .ok (.istore_n 3, 1) := by decide +kernel
theorem dX5_ropes_4 : decode cX5_ropes 4 = .ok (.iload_n 3, 1) := by decide +kernel
theorem dX5_ropes_5 : decode cX5_ropes 5 = .ok (.aload_n 0, 1) := by decide +kernel
theorem dX5_ropes_6 : decode cX5_ropes 6 = .ok (.getfield 9, 3) := by decide +kernel
theorem dX5_ropes_9 : decode cX5_ropes 9 = .ok (.iconst 0, 1) := by decide +kernel
theorem dX5_ropes_10 : decode cX5_ropes 10 = .ok (.iaload, 1) := by decide +kernel
theorem dX5_ropes_11 : decode cX5_ropes 11 = .ok (.if_icmp .ge 26, 3) := by decide +kernel
theorem dX5_ropes_14 : decode cX5_ropes 14 = .ok (.iload_n 2, 1) := by decide +kernel
theorem dX5_ropes_15 : decode cX5_ropes 15 = .ok (.aload_n 0, 1) := by decide +kernel
theorem dX5_ropes_16 : decode cX5_ropes 16 = .ok (.iload_n 1, 1) := by decide +kernel
theorem dX5_ropes_17 : decode cX5_ropes 17 = .ok (.iload_n 3, 1) := by decide +kernel
theorem dX5_ropes_18 : decode cX5_ropes 18 = .ok (.invokevirtual 126, 3) := by decide +kernel
theorem dX5_ropes_21 : decode cX5_ropes 21 = .ok (.ifCond .eq 7, 3) := by decide +kernel
theorem dX5_ropes_24 : decode cX5_ropes 24 = .ok (.iconst 1, 1) := by decide +kernel
theorem dX5_ropes_25 : decode cX5_ropes 25 = .ok (.goto 4, 3) := by decide +kernel
theorem dX5_ropes_28 : decode cX5_ropes 28 = .ok (.iconst 0, 1) := by decide +kernel
theorem dX5_ropes_29 : decode cX5_ropes 29 = .ok (.iadd, 1) := by decide +kernel
theorem dX5_ropes_30 : decode cX5_ropes 30 = .ok (.istore_n 2, 1) := by decide +kernel
theorem dX5_ropes_31 : decode cX5_ropes 31 = .ok (.iinc 3 1, 3) := by decide +kernel
theorem dX5_ropes_34 : decode cX5_ropes 34 = .ok (.goto (-30), 3) := by decide +kernel
theorem dX5_ropes_37 : decode cX5_ropes 37 = .ok (.iload_n 2, 1) := by decide +kernel
theorem dX5_ropes_38 : decode cX5_ropes 38 = .ok (.ireturn, 1) := by decide +kernel
theorem dX5_areJoined_0 : decode cX5_areJoined 0 = .ok (.aload_n 0, 1) := by decide +kernel
theorem dX5_areJoined_1 : decode cX5_areJoined 1 = .ok (.iload_n 1, 1) := by decide +kernel
theorem dX5_areJoined_2 : decode cX5_areJoined 2 = .ok (.invokevirtual 99, 3) := by decide +kernel
theorem dX5_areJoined_5 : decode cX5_areJoined 5 = .ok (.ifCond .eq 11, 3) := by decide +kernel
theorem dX5_areJoined_8 : decode cX5_areJoined 8 = .ok (.aload_n 0, 1) := by decide +kernel
theorem dX5_areJoined_9 : decode cX5_areJoined 9 = .ok (.iload_n 2, 1) := by decide +kernel
theorem dX5_areJoined_10 : decode cX5_areJoined 10 = .ok (.invokevirtual 99, 3) := by decide +kernel
theorem dX5_areJoined_13 : decode cX5_areJoined 13 = .ok (.ifCond .ne 7, 3) := by decide +kernel
theorem dX5_areJoined_16 : decode cX5_areJoined 16 = .ok (.iconst (-1), 1) := by decide +kernel
theorem dX5_areJoined_17 : decode cX5_areJoined 17 = .ok (.goto 17, 3) := by decide +kernel
theorem dX5_areJoined_20 : decode cX5_areJoined 20 = .ok (.aload_n 0, 1) := by decide +kernel
theorem dX5_areJoined_21 : decode cX5_areJoined 21 = .ok (.iload_n 1, 1) := by decide +kernel
theorem dX5_areJoined_22 : decode cX5_areJoined 22 = .ok (.iload_n 2, 1) := by decide +kernel
theorem dX5_areJoined_23 : decode cX5_areJoined 23 = .ok (.invokevirtual 110, 3) := by decide +kernel
theorem dX5_areJoined_26 : decode cX5_areJoined 26 = .ok (.ifCond .eq 7, 3) := by decide +kernel
theorem dX5_areJoined_29 : decode cX5_areJoined 29 = .ok (.iconst 1, 1) := by decide +kernel
theorem dX5_areJoined_30 : decode cX5_areJoined 30 = .ok (.goto 4, 3) := by decide +kernel
theorem dX5_areJoined_33 : decode cX5_areJoined 33 = .ok (.iconst 0, 1) := by decide +kernel
theorem dX5_areJoined_34 : decode cX5_areJoined 34 = .ok (.ireturn, 1) := by decide +kernel
theorem dX5_areJoinedAgain_0 : decode cX5_areJoinedAgain 0 = .ok (.aload_n 0, 1) := by decide +kernel
theorem dX5_areJoinedAgain_1 : decode cX5_areJoinedAgain 1 = .ok (.iload_n 1, 1) := by decide +kernel
theorem dX5_areJoinedAgain_2 : decode cX5_areJoinedAgain 2 = .ok (.iload_n 2, 1) := by decide +kernel
theorem dX5_areJoinedAgain_3 : decode cX5_areJoinedAgain 3 = .ok (.invokevirtual 141, 3) := by decide +kernel
theorem dX5_areJoinedAgain_6 : decode cX5_areJoinedAgain 6 = .ok (.ireturn, 1) := by decide +kernel
theorem dX5_bankOf_0 : decode cX5_bankOf 0 = .ok (.aload_n 0, 1) := by decide +kernel
theorem dX5_bankOf_1 : decode cX5_bankOf 1 = .ok (.iload_n 1, 1) := by decide +kernel
theorem dX5_bankOf_2 : decode cX5_bankOf 2 = .ok (.invokevirtual 99, 3) := by decide +kernel
theorem dX5_bankOf_5 : decode cX5_bankOf 5 = .ok (.ifCond .ne 5, 3) := by decide +kernel
theorem dX5_bankOf_8 : decode cX5_bankOf 8 = .ok (.iconst (-1), 1) := by decide +kernel
theorem dX5_bankOf_9 : decode cX5_bankOf 9 = .ok (.ireturn, 1) := by decide +kernel
theorem dX5_bankOf_10 : decode cX5_bankOf 10 = .ok (.iload_n 2, 1) := by decide +kernel
theorem dX5_bankOf_11 : decode cX5_bankOf 11 = .ok (.tableswitch 103 0 8 #[49, 55, 61, 67, 73, 79, 85, 91, 97], 49) := by decide +kernel
theorem dX5_bankOf_60 : decode cX5_bankOf 60 = .ok (.aload_n 0, 1) := by decide +kernel
theorem dX5_bankOf_61 : decode cX5_bankOf 61 = .ok (.iload_n 1, 1) := by decide +kernel
theorem dX5_bankOf_62 : decode cX5_bankOf 62 = .ok (.invokevirtual 103, 3) := by decide +kernel
theorem dX5_bankOf_65 : decode cX5_bankOf 65 = .ok (.ireturn, 1) := by decide +kernel
theorem dX5_bankOf_66 : decode cX5_bankOf 66 = .ok (.aload_n 0, 1) := by decide +kernel
theorem dX5_bankOf_67 : decode cX5_bankOf 67 = .ok (.iload_n 1, 1) := by decide +kernel
theorem dX5_bankOf_68 : decode cX5_bankOf 68 = .ok (.invokevirtual 114, 3) := by decide +kernel
theorem dX5_bankOf_71 : decode cX5_bankOf 71 = .ok (.ireturn, 1) := by decide +kernel
theorem dX5_bankOf_72 : decode cX5_bankOf 72 = .ok (.aload_n 0, 1) := by decide +kernel
theorem dX5_bankOf_73 : decode cX5_bankOf 73 = .ok (.iload_n 1, 1) := by decide +kernel
theorem dX5_bankOf_74 : decode cX5_bankOf 74 = .ok (.invokevirtual 144, 3) := by decide +kernel
theorem dX5_bankOf_77 : decode cX5_bankOf 77 = .ok (.ireturn, 1) := by decide +kernel
theorem dX5_bankOf_78 : decode cX5_bankOf 78 = .ok (.aload_n 0, 1) := by decide +kernel
theorem dX5_bankOf_79 : decode cX5_bankOf 79 = .ok (.iload_n 1, 1) := by decide +kernel
theorem dX5_bankOf_80 : decode cX5_bankOf 80 = .ok (.invokevirtual 123, 3) := by decide +kernel
theorem dX5_bankOf_83 : decode cX5_bankOf 83 = .ok (.ireturn, 1) := by decide +kernel
theorem dX5_bankOf_84 : decode cX5_bankOf 84 = .ok (.aload_n 0, 1) := by decide +kernel
theorem dX5_bankOf_85 : decode cX5_bankOf 85 = .ok (.iload_n 1, 1) := by decide +kernel
theorem dX5_bankOf_86 : decode cX5_bankOf 86 = .ok (.invokevirtual 132, 3) := by decide +kernel
theorem dX5_bankOf_89 : decode cX5_bankOf 89 = .ok (.ireturn, 1) := by decide +kernel
theorem dX5_bankOf_90 : decode cX5_bankOf 90 = .ok (.aload_n 0, 1) := by decide +kernel
theorem dX5_bankOf_91 : decode cX5_bankOf 91 = .ok (.iload_n 1, 1) := by decide +kernel
theorem dX5_bankOf_92 : decode cX5_bankOf 92 = .ok (.invokevirtual 147, 3) := by decide +kernel
theorem dX5_bankOf_95 : decode cX5_bankOf 95 = .ok (.ireturn, 1) := by decide +kernel
theorem dX5_bankOf_96 : decode cX5_bankOf 96 = .ok (.aload_n 0, 1) := by decide +kernel
theorem dX5_bankOf_97 : decode cX5_bankOf 97 = .ok (.iload_n 1, 1) := by decide +kernel
theorem dX5_bankOf_98 : decode cX5_bankOf 98 = .ok (.invokevirtual 150, 3) := by decide +kernel
theorem dX5_bankOf_101 : decode cX5_bankOf 101 = .ok (.ireturn, 1) := by decide +kernel
theorem dX5_bankOf_102 : decode cX5_bankOf 102 = .ok (.aload_n 0, 1) := by decide +kernel
theorem dX5_bankOf_103 : decode cX5_bankOf 103 = .ok (.iload_n 1, 1) := by decide +kernel
theorem dX5_bankOf_104 : decode cX5_bankOf 104 = .ok (.invokevirtual 153, 3) := by decide +kernel
theorem dX5_bankOf_107 : decode cX5_bankOf 107 = .ok (.ireturn, 1) := by decide +kernel
theorem dX5_bankOf_108 : decode cX5_bankOf 108 = .ok (.aload_n 0, 1) := by decide +kernel
theorem dX5_bankOf_109 : decode cX5_bankOf 109 = .ok (.iload_n 1, 1) := by decide +kernel
theorem dX5_bankOf_110 : decode cX5_bankOf 110 = .ok (.invokevirtual 156, 3) := by decide +kernel
theorem dX5_bankOf_113 : decode cX5_bankOf 113 = .ok (.ireturn, 1) := by decide +kernel
theorem dX5_bankOf_114 : decode cX5_bankOf 114 = .ok (.bipush (-2), 2) := by decide +kernel
theorem dX5_bankOf_116 : decode cX5_bankOf 116 = .ok (.ireturn, 1) := by decide +kernel
theorem dX5_belowAgain_0 : decode cX5_belowAgain 0 = .ok (.aload_n 0, 1) := by decide +kernel
theorem dX5_belowAgain_1 : decode cX5_belowAgain 1 = .ok (.iload_n 1, 1) := by decide +kernel
theorem dX5_belowAgain_2 : decode cX5_belowAgain 2 = .ok (.invokevirtual 99, 3) := by decide +kernel
theorem dX5_belowAgain_5 : decode cX5_belowAgain 5 = .ok (.ifCond .eq 11, 3) := by decide +kernel
theorem dX5_belowAgain_8 : decode cX5_belowAgain 8 = .ok (.aload_n 0, 1) := by decide +kernel
theorem dX5_belowAgain_9 : decode cX5_belowAgain 9 = .ok (.iload_n 1, 1) := by decide +kernel
theorem dX5_belowAgain_10 : decode cX5_belowAgain 10 = .ok (.invokevirtual 156, 3) := by decide +kernel
theorem dX5_belowAgain_13 : decode cX5_belowAgain 13 = .ok (.goto 4, 3) := by decide +kernel
theorem dX5_belowAgain_16 : decode cX5_belowAgain 16 = .ok (.iconst (-1), 1) := by decide +kernel
theorem dX5_belowAgain_17 : decode cX5_belowAgain 17 = .ok (.ireturn, 1) := by decide +kernel
theorem dX5_inRound_0 : decode cX5_inRound 0 = .ok (.aload_n 0, 1) := by decide +kernel
theorem dX5_inRound_1 : decode cX5_inRound 1 = .ok (.iload_n 1, 1) := by decide +kernel
theorem dX5_inRound_2 : decode cX5_inRound 2 = .ok (.invokevirtual 99, 3) := by decide +kernel
theorem dX5_inRound_5 : decode cX5_inRound 5 = .ok (.ifCond .ne 5, 3) := by decide +kernel
theorem dX5_inRound_8 : decode cX5_inRound 8 = .ok (.iconst (-1), 1) := by decide +kernel
theorem dX5_inRound_9 : decode cX5_inRound 9 = .ok (.ireturn, 1) := by decide +kernel
theorem dX5_inRound_10 : decode cX5_inRound 10 = .ok (.aload_n 0, 1) := by decide +kernel
theorem dX5_inRound_11 : decode cX5_inRound 11 = .ok (.iload_n 1, 1) := by decide +kernel
theorem dX5_inRound_12 : decode cX5_inRound 12 = .ok (.invokevirtual 77, 3) := by decide +kernel
theorem dX5_inRound_15 : decode cX5_inRound 15 = .ok (.istore_n 3, 1) := by decide +kernel
theorem dX5_inRound_16 : decode cX5_inRound 16 = .ok (.iload_n 2, 1) := by decide +kernel
theorem dX5_inRound_17 : decode cX5_inRound 17 = .ok (.iconst 0, 1) := by decide +kernel
theorem dX5_inRound_18 : decode cX5_inRound 18 = .ok (.aload_n 0, 1) := by decide +kernel
theorem dX5_inRound_19 : decode cX5_inRound 19 = .ok (.iload_n 3, 1) := by decide +kernel
theorem dX5_inRound_20 : decode cX5_inRound 20 = .ok (.invokevirtual 66, 3) := by decide +kernel
theorem dX5_inRound_23 : decode cX5_inRound 23 = .ok (.iconst 1, 1) := by decide +kernel
theorem dX5_inRound_24 : decode cX5_inRound 24 = .ok (.isub, 1) := by decide +kernel
theorem dX5_inRound_25 : decode cX5_inRound 25 = .ok (.invokestatic 62, 3) := by decide +kernel
theorem dX5_inRound_28 : decode cX5_inRound 28 = .ok (.ifCond .eq 12, 3) := by decide +kernel
theorem dX5_inRound_31 : decode cX5_inRound 31 = .ok (.aload_n 0, 1) := by decide +kernel
theorem dX5_inRound_32 : decode cX5_inRound 32 = .ok (.iload_n 3, 1) := by decide +kernel
theorem dX5_inRound_33 : decode cX5_inRound 33 = .ok (.iload_n 2, 1) := by decide +kernel
theorem dX5_inRound_34 : decode cX5_inRound 34 = .ok (.invokevirtual 70, 3) := by decide +kernel
theorem dX5_inRound_37 : decode cX5_inRound 37 = .ok (.goto 4, 3) := by decide +kernel
theorem dX5_inRound_40 : decode cX5_inRound 40 = .ok (.iconst (-1), 1) := by decide +kernel
theorem dX5_inRound_41 : decode cX5_inRound 41 = .ok (.ireturn, 1) := by decide +kernel
theorem dX5_greatestDepth_0 : decode cX5_greatestDepth 0 = .ok (.iconst 0, 1) := by decide +kernel
theorem dX5_greatestDepth_1 : decode cX5_greatestDepth 1 = .ok (.istore_n 2, 1) := by decide +kernel
theorem dX5_greatestDepth_2 : decode cX5_greatestDepth 2 = .ok (.iconst 0, 1) := by decide +kernel
theorem dX5_greatestDepth_3 : decode cX5_greatestDepth 3 = .ok (.istore_n 3, 1) := by decide +kernel
theorem dX5_greatestDepth_4 : decode cX5_greatestDepth 4 = .ok (.iload_n 3, 1) := by decide +kernel
theorem dX5_greatestDepth_5 : decode cX5_greatestDepth 5 = .ok (.aload_n 0, 1) := by decide +kernel
theorem dX5_greatestDepth_6 : decode cX5_greatestDepth 6 = .ok (.iload_n 1, 1) := by decide +kernel
theorem dX5_greatestDepth_7 : decode cX5_greatestDepth 7 = .ok (.invokevirtual 66, 3) := by decide +kernel
theorem dX5_greatestDepth_10 : decode cX5_greatestDepth 10 = .ok (.if_icmp .ge 34, 3) := by decide +kernel
theorem dX5_greatestDepth_13 : decode cX5_greatestDepth 13 = .ok (.aload_n 0, 1) := by decide +kernel
theorem dX5_greatestDepth_14 : decode cX5_greatestDepth 14 = .ok (.aload_n 0, 1) := by decide +kernel
theorem dX5_greatestDepth_15 : decode cX5_greatestDepth 15 = .ok (.iload_n 1, 1) := by decide +kernel
theorem dX5_greatestDepth_16 : decode cX5_greatestDepth 16 = .ok (.iload_n 3, 1) := by decide +kernel
theorem dX5_greatestDepth_17 : decode cX5_greatestDepth 17 = .ok (.invokevirtual 70, 3) := by decide +kernel
theorem dX5_greatestDepth_20 : decode cX5_greatestDepth 20 = .ok (.invokevirtual 144, 3) := by decide +kernel
theorem dX5_greatestDepth_23 : decode cX5_greatestDepth 23 = .ok (.istore 4, 2) := by decide +kernel
theorem dX5_greatestDepth_25 : decode cX5_greatestDepth 25 = .ok (.iload 4, 2) := by decide +kernel
theorem dX5_greatestDepth_27 : decode cX5_greatestDepth 27 = .ok (.iload_n 2, 1) := by decide +kernel
theorem dX5_greatestDepth_28 : decode cX5_greatestDepth 28 = .ok (.if_icmp .le 8, 3) := by decide +kernel
theorem dX5_greatestDepth_31 : decode cX5_greatestDepth 31 = .ok (.iload 4, 2) := by decide +kernel
theorem dX5_greatestDepth_33 : decode cX5_greatestDepth 33 = .ok (.goto 4, 3) := by decide +kernel
theorem dX5_greatestDepth_36 : decode cX5_greatestDepth 36 = .ok (.iload_n 2, 1) := by decide +kernel
theorem dX5_greatestDepth_37 : decode cX5_greatestDepth 37 = .ok (.istore_n 2, 1) := by decide +kernel
theorem dX5_greatestDepth_38 : decode cX5_greatestDepth 38 = .ok (.iinc 3 1, 3) := by decide +kernel
theorem dX5_greatestDepth_41 : decode cX5_greatestDepth 41 = .ok (.goto (-37), 3) := by decide +kernel
theorem dX5_greatestDepth_44 : decode cX5_greatestDepth 44 = .ok (.iload_n 2, 1) := by decide +kernel
theorem dX5_greatestDepth_45 : decode cX5_greatestDepth 45 = .ok (.ireturn, 1) := by decide +kernel
theorem dX5_heaviest_0 : decode cX5_heaviest 0 = .ok (.aload_n 0, 1) := by decide +kernel
theorem dX5_heaviest_1 : decode cX5_heaviest 1 = .ok (.iload_n 1, 1) := by decide +kernel
theorem dX5_heaviest_2 : decode cX5_heaviest 2 = .ok (.iconst 0, 1) := by decide +kernel
theorem dX5_heaviest_3 : decode cX5_heaviest 3 = .ok (.invokevirtual 70, 3) := by decide +kernel
theorem dX5_heaviest_6 : decode cX5_heaviest 6 = .ok (.istore_n 2, 1) := by decide +kernel
theorem dX5_heaviest_7 : decode cX5_heaviest 7 = .ok (.iconst 1, 1) := by decide +kernel
theorem dX5_heaviest_8 : decode cX5_heaviest 8 = .ok (.istore_n 3, 1) := by decide +kernel
theorem dX5_heaviest_9 : decode cX5_heaviest 9 = .ok (.iload_n 3, 1) := by decide +kernel
theorem dX5_heaviest_10 : decode cX5_heaviest 10 = .ok (.aload_n 0, 1) := by decide +kernel
theorem dX5_heaviest_11 : decode cX5_heaviest 11 = .ok (.iload_n 1, 1) := by decide +kernel
theorem dX5_heaviest_12 : decode cX5_heaviest 12 = .ok (.invokevirtual 66, 3) := by decide +kernel
theorem dX5_heaviest_15 : decode cX5_heaviest 15 = .ok (.if_icmp .ge 38, 3) := by decide +kernel
theorem dX5_heaviest_18 : decode cX5_heaviest 18 = .ok (.aload_n 0, 1) := by decide +kernel
theorem dX5_heaviest_19 : decode cX5_heaviest 19 = .ok (.aload_n 0, 1) := by decide +kernel
theorem dX5_heaviest_20 : decode cX5_heaviest 20 = .ok (.iload_n 1, 1) := by decide +kernel
theorem dX5_heaviest_21 : decode cX5_heaviest 21 = .ok (.iload_n 3, 1) := by decide +kernel
theorem dX5_heaviest_22 : decode cX5_heaviest 22 = .ok (.invokevirtual 70, 3) := by decide +kernel
theorem dX5_heaviest_25 : decode cX5_heaviest 25 = .ok (.invokevirtual 103, 3) := by decide +kernel
theorem dX5_heaviest_28 : decode cX5_heaviest 28 = .ok (.aload_n 0, 1) := by decide +kernel
theorem dX5_heaviest_29 : decode cX5_heaviest 29 = .ok (.iload_n 2, 1) := by decide +kernel
theorem dX5_heaviest_30 : decode cX5_heaviest 30 = .ok (.invokevirtual 103, 3) := by decide +kernel
theorem dX5_heaviest_33 : decode cX5_heaviest 33 = .ok (.if_icmp .le 12, 3) := by decide +kernel
theorem dX5_heaviest_36 : decode cX5_heaviest 36 = .ok (.aload_n 0, 1) := by decide +kernel
theorem dX5_heaviest_37 : decode cX5_heaviest 37 = .ok (.iload_n 1, 1) := by decide +kernel
theorem dX5_heaviest_38 : decode cX5_heaviest 38 = .ok (.iload_n 3, 1) := by decide +kernel
theorem dX5_heaviest_39 : decode cX5_heaviest 39 = .ok (.invokevirtual 70, 3) := by decide +kernel
theorem dX5_heaviest_42 : decode cX5_heaviest 42 = .ok (.goto 4, 3) := by decide +kernel
theorem dX5_heaviest_45 : decode cX5_heaviest 45 = .ok (.iload_n 2, 1) := by decide +kernel
theorem dX5_heaviest_46 : decode cX5_heaviest 46 = .ok (.istore_n 2, 1) := by decide +kernel
theorem dX5_heaviest_47 : decode cX5_heaviest 47 = .ok (.iinc 3 1, 3) := by decide +kernel
theorem dX5_heaviest_50 : decode cX5_heaviest 50 = .ok (.goto (-41), 3) := by decide +kernel
theorem dX5_heaviest_53 : decode cX5_heaviest 53 = .ok (.iload_n 2, 1) := by decide +kernel
theorem dX5_heaviest_54 : decode cX5_heaviest 54 = .ok (.ireturn, 1) := by decide +kernel
theorem dX5_partOf_0 : decode cX5_partOf 0 = .ok (.aload_n 0, 1) := by decide +kernel
theorem dX5_partOf_1 : decode cX5_partOf 1 = .ok (.iload_n 1, 1) := by decide +kernel
theorem dX5_partOf_2 : decode cX5_partOf 2 = .ok (.invokevirtual 99, 3) := by decide +kernel
theorem dX5_partOf_5 : decode cX5_partOf 5 = .ok (.ifCond .ne 5, 3) := by decide +kernel
theorem dX5_partOf_8 : decode cX5_partOf 8 = .ok (.iconst (-1), 1) := by decide +kernel
theorem dX5_partOf_9 : decode cX5_partOf 9 = .ok (.ireturn, 1) := by decide +kernel
theorem dX5_partOf_10 : decode cX5_partOf 10 = .ok (.aload_n 0, 1) := by decide +kernel
theorem dX5_partOf_11 : decode cX5_partOf 11 = .ok (.iload_n 1, 1) := by decide +kernel
theorem dX5_partOf_12 : decode cX5_partOf 12 = .ok (.invokevirtual 77, 3) := by decide +kernel
theorem dX5_partOf_15 : decode cX5_partOf 15 = .ok (.istore_n 3, 1) := by decide +kernel
theorem dX5_partOf_16 : decode cX5_partOf 16 = .ok (.iload_n 2, 1) := by decide +kernel
theorem dX5_partOf_17 : decode cX5_partOf 17 = .ok (.tableswitch 69 0 4 #[35, 41, 47, 57, 63], 35) := by decide +kernel
theorem dX5_partOf_52 : decode cX5_partOf 52 = .ok (.aload_n 0, 1) := by decide +kernel
theorem dX5_partOf_53 : decode cX5_partOf 53 = .ok (.iload_n 3, 1) := by decide +kernel
theorem dX5_partOf_54 : decode cX5_partOf 54 = .ok (.invokevirtual 120, 3) := by decide +kernel
theorem dX5_partOf_57 : decode cX5_partOf 57 = .ok (.ireturn, 1) := by decide +kernel
theorem dX5_partOf_58 : decode cX5_partOf 58 = .ok (.aload_n 0, 1) := by decide +kernel
theorem dX5_partOf_59 : decode cX5_partOf 59 = .ok (.iload_n 3, 1) := by decide +kernel
theorem dX5_partOf_60 : decode cX5_partOf 60 = .ok (.invokevirtual 66, 3) := by decide +kernel
theorem dX5_partOf_63 : decode cX5_partOf 63 = .ok (.ireturn, 1) := by decide +kernel
theorem dX5_partOf_64 : decode cX5_partOf 64 = .ok (.aload_n 0, 1) := by decide +kernel
theorem dX5_partOf_65 : decode cX5_partOf 65 = .ok (.aload_n 0, 1) := by decide +kernel
theorem dX5_partOf_66 : decode cX5_partOf 66 = .ok (.iload_n 1, 1) := by decide +kernel
theorem dX5_partOf_67 : decode cX5_partOf 67 = .ok (.invokevirtual 114, 3) := by decide +kernel
theorem dX5_partOf_70 : decode cX5_partOf 70 = .ok (.invokevirtual 156, 3) := by decide +kernel
theorem dX5_partOf_73 : decode cX5_partOf 73 = .ok (.ireturn, 1) := by decide +kernel
theorem dX5_partOf_74 : decode cX5_partOf 74 = .ok (.aload_n 0, 1) := by decide +kernel
theorem dX5_partOf_75 : decode cX5_partOf 75 = .ok (.iload_n 3, 1) := by decide +kernel
theorem dX5_partOf_76 : decode cX5_partOf 76 = .ok (.invokevirtual 159, 3) := by decide +kernel
theorem dX5_partOf_79 : decode cX5_partOf 79 = .ok (.ireturn, 1) := by decide +kernel
theorem dX5_partOf_80 : decode cX5_partOf 80 = .ok (.aload_n 0, 1) := by decide +kernel
theorem dX5_partOf_81 : decode cX5_partOf 81 = .ok (.iload_n 3, 1) := by decide +kernel
theorem dX5_partOf_82 : decode cX5_partOf 82 = .ok (.invokevirtual 162, 3) := by decide +kernel
theorem dX5_partOf_85 : decode cX5_partOf 85 = .ok (.ireturn, 1) := by decide +kernel
theorem dX5_partOf_86 : decode cX5_partOf 86 = .ok (.bipush (-2), 2) := by decide +kernel
theorem dX5_partOf_88 : decode cX5_partOf 88 = .ok (.ireturn, 1) := by decide +kernel
theorem dX5_isRope_0 : decode cX5_isRope 0 = .ok (.aload_n 0, 1) := by decide +kernel
theorem dX5_isRope_1 : decode cX5_isRope 1 = .ok (.iload_n 1, 1) := by decide +kernel
theorem dX5_isRope_2 : decode cX5_isRope 2 = .ok (.invokevirtual 99, 3) := by decide +kernel
theorem dX5_isRope_5 : decode cX5_isRope 5 = .ok (.ifCond .eq 11, 3) := by decide +kernel
theorem dX5_isRope_8 : decode cX5_isRope 8 = .ok (.aload_n 0, 1) := by decide +kernel
theorem dX5_isRope_9 : decode cX5_isRope 9 = .ok (.iload_n 2, 1) := by decide +kernel
theorem dX5_isRope_10 : decode cX5_isRope 10 = .ok (.invokevirtual 99, 3) := by decide +kernel
theorem dX5_isRope_13 : decode cX5_isRope 13 = .ok (.ifCond .ne 7, 3) := by decide +kernel
theorem dX5_isRope_16 : decode cX5_isRope 16 = .ok (.iconst (-1), 1) := by decide +kernel
theorem dX5_isRope_17 : decode cX5_isRope 17 = .ok (.goto 17, 3) := by decide +kernel
theorem dX5_isRope_20 : decode cX5_isRope 20 = .ok (.aload_n 0, 1) := by decide +kernel
theorem dX5_isRope_21 : decode cX5_isRope 21 = .ok (.iload_n 1, 1) := by decide +kernel
theorem dX5_isRope_22 : decode cX5_isRope 22 = .ok (.iload_n 2, 1) := by decide +kernel
theorem dX5_isRope_23 : decode cX5_isRope 23 = .ok (.invokevirtual 126, 3) := by decide +kernel
theorem dX5_isRope_26 : decode cX5_isRope 26 = .ok (.ifCond .eq 7, 3) := by decide +kernel
theorem dX5_isRope_29 : decode cX5_isRope 29 = .ok (.iconst 1, 1) := by decide +kernel
theorem dX5_isRope_30 : decode cX5_isRope 30 = .ok (.goto 4, 3) := by decide +kernel
theorem dX5_isRope_33 : decode cX5_isRope 33 = .ok (.iconst 0, 1) := by decide +kernel
theorem dX5_isRope_34 : decode cX5_isRope 34 = .ok (.ireturn, 1) := by decide +kernel
theorem dX5_isBelow_0 : decode cX5_isBelow 0 = .ok (.aload_n 0, 1) := by decide +kernel
theorem dX5_isBelow_1 : decode cX5_isBelow 1 = .ok (.iload_n 1, 1) := by decide +kernel
theorem dX5_isBelow_2 : decode cX5_isBelow 2 = .ok (.invokevirtual 99, 3) := by decide +kernel
theorem dX5_isBelow_5 : decode cX5_isBelow 5 = .ok (.ifCond .eq 11, 3) := by decide +kernel
theorem dX5_isBelow_8 : decode cX5_isBelow 8 = .ok (.aload_n 0, 1) := by decide +kernel
theorem dX5_isBelow_9 : decode cX5_isBelow 9 = .ok (.iload_n 2, 1) := by decide +kernel
theorem dX5_isBelow_10 : decode cX5_isBelow 10 = .ok (.invokevirtual 99, 3) := by decide +kernel
theorem dX5_isBelow_13 : decode cX5_isBelow 13 = .ok (.ifCond .ne 7, 3) := by decide +kernel
theorem dX5_isBelow_16 : decode cX5_isBelow 16 = .ok (.iconst (-1), 1) := by decide +kernel
theorem dX5_isBelow_17 : decode cX5_isBelow 17 = .ok (.goto 17, 3) := by decide +kernel
theorem dX5_isBelow_20 : decode cX5_isBelow 20 = .ok (.aload_n 0, 1) := by decide +kernel
theorem dX5_isBelow_21 : decode cX5_isBelow 21 = .ok (.iload_n 1, 1) := by decide +kernel
theorem dX5_isBelow_22 : decode cX5_isBelow 22 = .ok (.iload_n 2, 1) := by decide +kernel
theorem dX5_isBelow_23 : decode cX5_isBelow 23 = .ok (.invokevirtual 138, 3) := by decide +kernel
theorem dX5_isBelow_26 : decode cX5_isBelow 26 = .ok (.ifCond .eq 7, 3) := by decide +kernel
theorem dX5_isBelow_29 : decode cX5_isBelow 29 = .ok (.iconst 1, 1) := by decide +kernel
theorem dX5_isBelow_30 : decode cX5_isBelow 30 = .ok (.goto 4, 3) := by decide +kernel
theorem dX5_isBelow_33 : decode cX5_isBelow 33 = .ok (.iconst 0, 1) := by decide +kernel
theorem dX5_isBelow_34 : decode cX5_isBelow 34 = .ok (.ireturn, 1) := by decide +kernel
theorem dX5_meeting_0 : decode cX5_meeting 0 = .ok (.iload_n 1, 1) := by decide +kernel
theorem dX5_meeting_1 : decode cX5_meeting 1 = .ok (.istore_n 3, 1) := by decide +kernel
theorem dX5_meeting_2 : decode cX5_meeting 2 = .ok (.aload_n 0, 1) := by decide +kernel
theorem dX5_meeting_3 : decode cX5_meeting 3 = .ok (.iload_n 2, 1) := by decide +kernel
theorem dX5_meeting_4 : decode cX5_meeting 4 = .ok (.iload_n 3, 1) := by decide +kernel
theorem dX5_meeting_5 : decode cX5_meeting 5 = .ok (.invokevirtual 138, 3) := by decide +kernel
theorem dX5_meeting_8 : decode cX5_meeting 8 = .ok (.ifCond .ne 12, 3) := by decide +kernel
theorem dX5_meeting_11 : decode cX5_meeting 11 = .ok (.aload_n 0, 1) := by decide +kernel
theorem dX5_meeting_12 : decode cX5_meeting 12 = .ok (.iload_n 3, 1) := by decide +kernel
theorem dX5_meeting_13 : decode cX5_meeting 13 = .ok (.invokevirtual 150, 3) := by decide +kernel
theorem dX5_meeting_16 : decode cX5_meeting 16 = .ok (.istore_n 3, 1) := by decide +kernel
theorem dX5_meeting_17 : decode cX5_meeting 17 = .ok (.goto (-15), 3) := by decide +kernel
theorem dX5_meeting_20 : decode cX5_meeting 20 = .ok (.iload_n 3, 1) := by decide +kernel
theorem dX5_meeting_21 : decode cX5_meeting 21 = .ok (.ireturn, 1) := by decide +kernel
theorem dX5_meet_0 : decode cX5_meet 0 = .ok (.aload_n 0, 1) := by decide +kernel
theorem dX5_meet_1 : decode cX5_meet 1 = .ok (.iload_n 1, 1) := by decide +kernel
theorem dX5_meet_2 : decode cX5_meet 2 = .ok (.invokevirtual 99, 3) := by decide +kernel
theorem dX5_meet_5 : decode cX5_meet 5 = .ok (.ifCond .eq 11, 3) := by decide +kernel
theorem dX5_meet_8 : decode cX5_meet 8 = .ok (.aload_n 0, 1) := by decide +kernel
theorem dX5_meet_9 : decode cX5_meet 9 = .ok (.iload_n 2, 1) := by decide +kernel
theorem dX5_meet_10 : decode cX5_meet 10 = .ok (.invokevirtual 99, 3) := by decide +kernel
theorem dX5_meet_13 : decode cX5_meet 13 = .ok (.ifCond .ne 5, 3) := by decide +kernel
theorem dX5_meet_16 : decode cX5_meet 16 = .ok (.iconst (-1), 1) := by decide +kernel
theorem dX5_meet_17 : decode cX5_meet 17 = .ok (.ireturn, 1) := by decide +kernel
theorem dX5_meet_18 : decode cX5_meet 18 = .ok (.aload_n 0, 1) := by decide +kernel
theorem dX5_meet_19 : decode cX5_meet 19 = .ok (.iload_n 1, 1) := by decide +kernel
theorem dX5_meet_20 : decode cX5_meet 20 = .ok (.iload_n 2, 1) := by decide +kernel
theorem dX5_meet_21 : decode cX5_meet 21 = .ok (.invokevirtual 110, 3) := by decide +kernel
theorem dX5_meet_24 : decode cX5_meet 24 = .ok (.ifCond .eq 12, 3) := by decide +kernel
theorem dX5_meet_27 : decode cX5_meet 27 = .ok (.aload_n 0, 1) := by decide +kernel
theorem dX5_meet_28 : decode cX5_meet 28 = .ok (.iload_n 1, 1) := by decide +kernel
theorem dX5_meet_29 : decode cX5_meet 29 = .ok (.iload_n 2, 1) := by decide +kernel
theorem dX5_meet_30 : decode cX5_meet 30 = .ok (.invokevirtual 165, 3) := by decide +kernel
theorem dX5_meet_33 : decode cX5_meet 33 = .ok (.goto 5, 3) := by decide +kernel
theorem dX5_meet_36 : decode cX5_meet 36 = .ok (.bipush (-4), 2) := by decide +kernel
theorem dX5_meet_38 : decode cX5_meet 38 = .ok (.ireturn, 1) := by decide +kernel
theorem dX5_climb_0 : decode cX5_climb 0 = .ok (.iload_n 1, 1) := by decide +kernel
theorem dX5_climb_1 : decode cX5_climb 1 = .ok (.istore_n 3, 1) := by decide +kernel
theorem dX5_climb_2 : decode cX5_climb 2 = .ok (.iconst 0, 1) := by decide +kernel
theorem dX5_climb_3 : decode cX5_climb 3 = .ok (.istore 4, 2) := by decide +kernel
theorem dX5_climb_5 : decode cX5_climb 5 = .ok (.iload 4, 2) := by decide +kernel
theorem dX5_climb_7 : decode cX5_climb 7 = .ok (.iload_n 2, 1) := by decide +kernel
theorem dX5_climb_8 : decode cX5_climb 8 = .ok (.if_icmp .ge 15, 3) := by decide +kernel
theorem dX5_climb_11 : decode cX5_climb 11 = .ok (.aload_n 0, 1) := by decide +kernel
theorem dX5_climb_12 : decode cX5_climb 12 = .ok (.iload_n 3, 1) := by decide +kernel
theorem dX5_climb_13 : decode cX5_climb 13 = .ok (.invokevirtual 150, 3) := by decide +kernel
theorem dX5_climb_16 : decode cX5_climb 16 = .ok (.istore_n 3, 1) := by decide +kernel
theorem dX5_climb_17 : decode cX5_climb 17 = .ok (.iinc 4 1, 3) := by decide +kernel
theorem dX5_climb_20 : decode cX5_climb 20 = .ok (.goto (-15), 3) := by decide +kernel
theorem dX5_climb_23 : decode cX5_climb 23 = .ok (.iload_n 3, 1) := by decide +kernel
theorem dX5_climb_24 : decode cX5_climb 24 = .ok (.ireturn, 1) := by decide +kernel
theorem dX5_way_0 : decode cX5_way 0 = .ok (.aload_n 0, 1) := by decide +kernel
theorem dX5_way_1 : decode cX5_way 1 = .ok (.iload_n 1, 1) := by decide +kernel
theorem dX5_way_2 : decode cX5_way 2 = .ok (.invokevirtual 99, 3) := by decide +kernel
theorem dX5_way_5 : decode cX5_way 5 = .ok (.ifCond .eq 11, 3) := by decide +kernel
theorem dX5_way_8 : decode cX5_way 8 = .ok (.aload_n 0, 1) := by decide +kernel
theorem dX5_way_9 : decode cX5_way 9 = .ok (.iload_n 2, 1) := by decide +kernel
theorem dX5_way_10 : decode cX5_way 10 = .ok (.invokevirtual 99, 3) := by decide +kernel
theorem dX5_way_13 : decode cX5_way 13 = .ok (.ifCond .ne 5, 3) := by decide +kernel
theorem dX5_way_16 : decode cX5_way 16 = .ok (.iconst (-1), 1) := by decide +kernel
theorem dX5_way_17 : decode cX5_way 17 = .ok (.ireturn, 1) := by decide +kernel
theorem dX5_way_18 : decode cX5_way 18 = .ok (.aload_n 0, 1) := by decide +kernel
theorem dX5_way_19 : decode cX5_way 19 = .ok (.iload_n 1, 1) := by decide +kernel
theorem dX5_way_20 : decode cX5_way 20 = .ok (.iload_n 2, 1) := by decide +kernel
theorem dX5_way_21 : decode cX5_way 21 = .ok (.invokevirtual 110, 3) := by decide +kernel
theorem dX5_way_24 : decode cX5_way 24 = .ok (.ifCond .ne 6, 3) := by decide +kernel
theorem dX5_way_27 : decode cX5_way 27 = .ok (.bipush (-4), 2) := by decide +kernel
theorem dX5_way_29 : decode cX5_way 29 = .ok (.ireturn, 1) := by decide +kernel
theorem dX5_way_30 : decode cX5_way 30 = .ok (.aload_n 0, 1) := by decide +kernel
theorem dX5_way_31 : decode cX5_way 31 = .ok (.iload_n 1, 1) := by decide +kernel
theorem dX5_way_32 : decode cX5_way 32 = .ok (.iload_n 2, 1) := by decide +kernel
theorem dX5_way_33 : decode cX5_way 33 = .ok (.invokevirtual 165, 3) := by decide +kernel
theorem dX5_way_36 : decode cX5_way 36 = .ok (.istore 4, 2) := by decide +kernel
theorem dX5_way_38 : decode cX5_way 38 = .ok (.aload_n 0, 1) := by decide +kernel
theorem dX5_way_39 : decode cX5_way 39 = .ok (.iload_n 1, 1) := by decide +kernel
theorem dX5_way_40 : decode cX5_way 40 = .ok (.invokevirtual 144, 3) := by decide +kernel
theorem dX5_way_43 : decode cX5_way 43 = .ok (.aload_n 0, 1) := by decide +kernel
theorem dX5_way_44 : decode cX5_way 44 = .ok (.iload 4, 2) := by decide +kernel
theorem dX5_way_46 : decode cX5_way 46 = .ok (.invokevirtual 144, 3) := by decide +kernel
theorem dX5_way_49 : decode cX5_way 49 = .ok (.isub, 1) := by decide +kernel
theorem dX5_way_50 : decode cX5_way 50 = .ok (.istore 5, 2) := by decide +kernel
theorem dX5_way_52 : decode cX5_way 52 = .ok (.iload 5, 2) := by decide +kernel
theorem dX5_way_54 : decode cX5_way 54 = .ok (.aload_n 0, 1) := by decide +kernel
theorem dX5_way_55 : decode cX5_way 55 = .ok (.iload_n 2, 1) := by decide +kernel
theorem dX5_way_56 : decode cX5_way 56 = .ok (.invokevirtual 144, 3) := by decide +kernel
theorem dX5_way_59 : decode cX5_way 59 = .ok (.iadd, 1) := by decide +kernel
theorem dX5_way_60 : decode cX5_way 60 = .ok (.aload_n 0, 1) := by decide +kernel
theorem dX5_way_61 : decode cX5_way 61 = .ok (.iload 4, 2) := by decide +kernel
theorem dX5_way_63 : decode cX5_way 63 = .ok (.invokevirtual 144, 3) := by decide +kernel
theorem dX5_way_66 : decode cX5_way 66 = .ok (.isub, 1) := by decide +kernel
theorem dX5_way_67 : decode cX5_way 67 = .ok (.istore 6, 2) := by decide +kernel
theorem dX5_way_69 : decode cX5_way 69 = .ok (.iload_n 3, 1) := by decide +kernel
theorem dX5_way_70 : decode cX5_way 70 = .ok (.iconst (-1), 1) := by decide +kernel
theorem dX5_way_71 : decode cX5_way 71 = .ok (.if_icmp .ne 6, 3) := by decide +kernel
theorem dX5_way_74 : decode cX5_way 74 = .ok (.iload 6, 2) := by decide +kernel
theorem dX5_way_76 : decode cX5_way 76 = .ok (.ireturn, 1) := by decide +kernel
theorem dX5_way_77 : decode cX5_way 77 = .ok (.iload_n 3, 1) := by decide +kernel
theorem dX5_way_78 : decode cX5_way 78 = .ok (.iconst 0, 1) := by decide +kernel
theorem dX5_way_79 : decode cX5_way 79 = .ok (.iload 6, 2) := by decide +kernel
theorem dX5_way_81 : decode cX5_way 81 = .ok (.invokestatic 62, 3) := by decide +kernel
theorem dX5_way_84 : decode cX5_way 84 = .ok (.ifCond .ne 5, 3) := by decide +kernel
theorem dX5_way_87 : decode cX5_way 87 = .ok (.iconst (-1), 1) := by decide +kernel
theorem dX5_way_88 : decode cX5_way 88 = .ok (.ireturn, 1) := by decide +kernel
theorem dX5_way_89 : decode cX5_way 89 = .ok (.iload_n 3, 1) := by decide +kernel
theorem dX5_way_90 : decode cX5_way 90 = .ok (.iload 5, 2) := by decide +kernel
theorem dX5_way_92 : decode cX5_way 92 = .ok (.if_icmp .gt 12, 3) := by decide +kernel
theorem dX5_way_95 : decode cX5_way 95 = .ok (.aload_n 0, 1) := by decide +kernel
theorem dX5_way_96 : decode cX5_way 96 = .ok (.iload_n 1, 1) := by decide +kernel
theorem dX5_way_97 : decode cX5_way 97 = .ok (.iload_n 3, 1) := by decide +kernel
theorem dX5_way_98 : decode cX5_way 98 = .ok (.invokevirtual 168, 3) := by decide +kernel
theorem dX5_way_101 : decode cX5_way 101 = .ok (.goto 12, 3) := by decide +kernel
theorem dX5_way_104 : decode cX5_way 104 = .ok (.aload_n 0, 1) := by decide +kernel
theorem dX5_way_105 : decode cX5_way 105 = .ok (.iload_n 2, 1) := by decide +kernel
theorem dX5_way_106 : decode cX5_way 106 = .ok (.iload 6, 2) := by decide +kernel
theorem dX5_way_108 : decode cX5_way 108 = .ok (.iload_n 3, 1) := by decide +kernel
theorem dX5_way_109 : decode cX5_way 109 = .ok (.isub, 1) := by decide +kernel
theorem dX5_way_110 : decode cX5_way 110 = .ok (.invokevirtual 168, 3) := by decide +kernel
theorem dX5_way_113 : decode cX5_way 113 = .ok (.ireturn, 1) := by decide +kernel
theorem dX5_would_0 : decode cX5_would 0 = .ok (.aload_n 0, 1) := by decide +kernel
theorem dX5_would_1 : decode cX5_would 1 = .ok (.iload_n 1, 1) := by decide +kernel
theorem dX5_would_2 : decode cX5_would 2 = .ok (.invokevirtual 99, 3) := by decide +kernel
theorem dX5_would_5 : decode cX5_would 5 = .ok (.ifCond .eq 11, 3) := by decide +kernel
theorem dX5_would_8 : decode cX5_would 8 = .ok (.aload_n 0, 1) := by decide +kernel
theorem dX5_would_9 : decode cX5_would 9 = .ok (.iload_n 2, 1) := by decide +kernel
theorem dX5_would_10 : decode cX5_would 10 = .ok (.invokevirtual 99, 3) := by decide +kernel
theorem dX5_would_13 : decode cX5_would 13 = .ok (.ifCond .ne 5, 3) := by decide +kernel
theorem dX5_would_16 : decode cX5_would 16 = .ok (.iconst (-1), 1) := by decide +kernel
theorem dX5_would_17 : decode cX5_would 17 = .ok (.ireturn, 1) := by decide +kernel
theorem dX5_would_18 : decode cX5_would 18 = .ok (.aload_n 0, 1) := by decide +kernel
theorem dX5_would_19 : decode cX5_would 19 = .ok (.iload_n 1, 1) := by decide +kernel
theorem dX5_would_20 : decode cX5_would 20 = .ok (.iload_n 2, 1) := by decide +kernel
theorem dX5_would_21 : decode cX5_would 21 = .ok (.invokevirtual 110, 3) := by decide +kernel
theorem dX5_would_24 : decode cX5_would 24 = .ok (.ifCond .eq 8, 3) := by decide +kernel
theorem dX5_would_27 : decode cX5_would 27 = .ok (.bipush (-4), 2) := by decide +kernel
theorem dX5_would_29 : decode cX5_would 29 = .ok (.goto 8, 3) := by decide +kernel
theorem dX5_would_32 : decode cX5_would 32 = .ok (.aload_n 0, 1) := by decide +kernel
theorem dX5_would_33 : decode cX5_would 33 = .ok (.iload_n 1, 1) := by decide +kernel
theorem dX5_would_34 : decode cX5_would 34 = .ok (.invokevirtual 114, 3) := by decide +kernel
theorem dX5_would_37 : decode cX5_would 37 = .ok (.ireturn, 1) := by decide +kernel
theorem dX5_wouldDiffer_0 : decode cX5_wouldDiffer 0 = .ok (.aload_n 0, 1) := by decide +kernel
theorem dX5_wouldDiffer_1 : decode cX5_wouldDiffer 1 = .ok (.iload_n 1, 1) := by decide +kernel
theorem dX5_wouldDiffer_2 : decode cX5_wouldDiffer 2 = .ok (.invokevirtual 99, 3) := by decide +kernel
theorem dX5_wouldDiffer_5 : decode cX5_wouldDiffer 5 = .ok (.ifCond .eq 11, 3) := by decide +kernel
theorem dX5_wouldDiffer_8 : decode cX5_wouldDiffer 8 = .ok (.aload_n 0, 1) := by decide +kernel
theorem dX5_wouldDiffer_9 : decode cX5_wouldDiffer 9 = .ok (.iload_n 2, 1) := by decide +kernel
theorem dX5_wouldDiffer_10 : decode cX5_wouldDiffer 10 = .ok (.invokevirtual 99, 3) := by decide +kernel
theorem dX5_wouldDiffer_13 : decode cX5_wouldDiffer 13 = .ok (.ifCond .ne 5, 3) := by decide +kernel
theorem dX5_wouldDiffer_16 : decode cX5_wouldDiffer 16 = .ok (.iconst (-1), 1) := by decide +kernel
theorem dX5_wouldDiffer_17 : decode cX5_wouldDiffer 17 = .ok (.ireturn, 1) := by decide +kernel
theorem dX5_wouldDiffer_18 : decode cX5_wouldDiffer 18 = .ok (.aload_n 0, 1) := by decide +kernel
theorem dX5_wouldDiffer_19 : decode cX5_wouldDiffer 19 = .ok (.iload_n 1, 1) := by decide +kernel
theorem dX5_wouldDiffer_20 : decode cX5_wouldDiffer 20 = .ok (.iload_n 2, 1) := by decide +kernel
theorem dX5_wouldDiffer_21 : decode cX5_wouldDiffer 21 = .ok (.invokevirtual 126, 3) := by decide +kernel
theorem dX5_wouldDiffer_24 : decode cX5_wouldDiffer 24 = .ok (.ifCond .ne 6, 3) := by decide +kernel
theorem dX5_wouldDiffer_27 : decode cX5_wouldDiffer 27 = .ok (.bipush (-4), 2) := by decide +kernel
theorem dX5_wouldDiffer_29 : decode cX5_wouldDiffer 29 = .ok (.ireturn, 1) := by decide +kernel
theorem dX5_wouldDiffer_30 : decode cX5_wouldDiffer 30 = .ok (.aload_n 0, 1) := by decide +kernel
theorem dX5_wouldDiffer_31 : decode cX5_wouldDiffer 31 = .ok (.aload_n 0, 1) := by decide +kernel
theorem dX5_wouldDiffer_32 : decode cX5_wouldDiffer 32 = .ok (.iload_n 1, 1) := by decide +kernel
theorem dX5_wouldDiffer_33 : decode cX5_wouldDiffer 33 = .ok (.invokevirtual 114, 3) := by decide +kernel
theorem dX5_wouldDiffer_36 : decode cX5_wouldDiffer 36 = .ok (.invokevirtual 156, 3) := by decide +kernel
theorem dX5_wouldDiffer_39 : decode cX5_wouldDiffer 39 = .ok (.iconst 2, 1) := by decide +kernel
theorem dX5_wouldDiffer_40 : decode cX5_wouldDiffer 40 = .ok (.aload_n 0, 1) := by decide +kernel
theorem dX5_wouldDiffer_41 : decode cX5_wouldDiffer 41 = .ok (.aload_n 0, 1) := by decide +kernel
theorem dX5_wouldDiffer_42 : decode cX5_wouldDiffer 42 = .ok (.iload_n 1, 1) := by decide +kernel
theorem dX5_wouldDiffer_43 : decode cX5_wouldDiffer 43 = .ok (.iload_n 2, 1) := by decide +kernel
theorem dX5_wouldDiffer_44 : decode cX5_wouldDiffer 44 = .ok (.invokevirtual 129, 3) := by decide +kernel
theorem dX5_wouldDiffer_47 : decode cX5_wouldDiffer 47 = .ok (.invokevirtual 156, 3) := by decide +kernel
theorem dX5_wouldDiffer_50 : decode cX5_wouldDiffer 50 = .ok (.imul, 1) := by decide +kernel
theorem dX5_wouldDiffer_51 : decode cX5_wouldDiffer 51 = .ok (.isub, 1) := by decide +kernel
theorem dX5_wouldDiffer_52 : decode cX5_wouldDiffer 52 = .ok (.istore_n 3, 1) := by decide +kernel
theorem dX5_wouldDiffer_53 : decode cX5_wouldDiffer 53 = .ok (.iload_n 3, 1) := by decide +kernel
theorem dX5_wouldDiffer_54 : decode cX5_wouldDiffer 54 = .ok (.ifCond .ge 8, 3) := by decide +kernel
theorem dX5_wouldDiffer_57 : decode cX5_wouldDiffer 57 = .ok (.iload_n 3, 1) := by decide +kernel
theorem dX5_wouldDiffer_58 : decode cX5_wouldDiffer 58 = .ok (.ineg, 1) := by decide +kernel
theorem dX5_wouldDiffer_59 : decode cX5_wouldDiffer 59 = .ok (.goto 4, 3) := by decide +kernel
theorem dX5_wouldDiffer_62 : decode cX5_wouldDiffer 62 = .ok (.iload_n 3, 1) := by decide +kernel
theorem dX5_wouldDiffer_63 : decode cX5_wouldDiffer 63 = .ok (.ireturn, 1) := by decide +kernel
theorem dX5_heaviestLeft_0 : decode cX5_heaviestLeft 0 = .ok (.aload_n 0, 1) := by decide +kernel
theorem dX5_heaviestLeft_1 : decode cX5_heaviestLeft 1 = .ok (.aload_n 0, 1) := by decide +kernel
theorem dX5_heaviestLeft_2 : decode cX5_heaviestLeft 2 = .ok (.iload_n 1, 1) := by decide +kernel
theorem dX5_heaviestLeft_3 : decode cX5_heaviestLeft 3 = .ok (.invokevirtual 114, 3) := by decide +kernel
theorem dX5_heaviestLeft_6 : decode cX5_heaviestLeft 6 = .ok (.invokevirtual 156, 3) := by decide +kernel
theorem dX5_heaviestLeft_9 : decode cX5_heaviestLeft 9 = .ok (.aload_n 0, 1) := by decide +kernel
theorem dX5_heaviestLeft_10 : decode cX5_heaviestLeft 10 = .ok (.iload_n 1, 1) := by decide +kernel
theorem dX5_heaviestLeft_11 : decode cX5_heaviestLeft 11 = .ok (.invokevirtual 156, 3) := by decide +kernel
theorem dX5_heaviestLeft_14 : decode cX5_heaviestLeft 14 = .ok (.isub, 1) := by decide +kernel
theorem dX5_heaviestLeft_15 : decode cX5_heaviestLeft 15 = .ok (.istore_n 2, 1) := by decide +kernel
theorem dX5_heaviestLeft_16 : decode cX5_heaviestLeft 16 = .ok (.iconst 0, 1) := by decide +kernel
theorem dX5_heaviestLeft_17 : decode cX5_heaviestLeft 17 = .ok (.istore_n 3, 1) := by decide +kernel
theorem dX5_heaviestLeft_18 : decode cX5_heaviestLeft 18 = .ok (.iload_n 3, 1) := by decide +kernel
theorem dX5_heaviestLeft_19 : decode cX5_heaviestLeft 19 = .ok (.aload_n 0, 1) := by decide +kernel
theorem dX5_heaviestLeft_20 : decode cX5_heaviestLeft 20 = .ok (.getfield 9, 3) := by decide +kernel
theorem dX5_heaviestLeft_23 : decode cX5_heaviestLeft 23 = .ok (.iconst 0, 1) := by decide +kernel
theorem dX5_heaviestLeft_24 : decode cX5_heaviestLeft 24 = .ok (.iaload, 1) := by decide +kernel
theorem dX5_heaviestLeft_25 : decode cX5_heaviestLeft 25 = .ok (.if_icmp .ge 63, 3) := by decide +kernel
theorem dX5_heaviestLeft_28 : decode cX5_heaviestLeft 28 = .ok (.iload_n 3, 1) := by decide +kernel
theorem dX5_heaviestLeft_29 : decode cX5_heaviestLeft 29 = .ok (.iload_n 1, 1) := by decide +kernel
theorem dX5_heaviestLeft_30 : decode cX5_heaviestLeft 30 = .ok (.if_icmp .eq 25, 3) := by decide +kernel
theorem dX5_heaviestLeft_33 : decode cX5_heaviestLeft 33 = .ok (.aload_n 0, 1) := by decide +kernel
theorem dX5_heaviestLeft_34 : decode cX5_heaviestLeft 34 = .ok (.iload_n 3, 1) := by decide +kernel
theorem dX5_heaviestLeft_35 : decode cX5_heaviestLeft 35 = .ok (.iload_n 1, 1) := by decide +kernel
theorem dX5_heaviestLeft_36 : decode cX5_heaviestLeft 36 = .ok (.invokevirtual 138, 3) := by decide +kernel
theorem dX5_heaviestLeft_39 : decode cX5_heaviestLeft 39 = .ok (.ifCond .eq 16, 3) := by decide +kernel
theorem dX5_heaviestLeft_42 : decode cX5_heaviestLeft 42 = .ok (.aload_n 0, 1) := by decide +kernel
theorem dX5_heaviestLeft_43 : decode cX5_heaviestLeft 43 = .ok (.iload_n 3, 1) := by decide +kernel
theorem dX5_heaviestLeft_44 : decode cX5_heaviestLeft 44 = .ok (.invokevirtual 150, 3) := by decide +kernel
theorem dX5_heaviestLeft_47 : decode cX5_heaviestLeft 47 = .ok (.iload_n 1, 1) := by decide +kernel
theorem dX5_heaviestLeft_48 : decode cX5_heaviestLeft 48 = .ok (.if_icmp .ne 7, 3) := by decide +kernel
theorem dX5_heaviestLeft_51 : decode cX5_heaviestLeft 51 = .ok (.iconst 1, 1) := by decide +kernel
theorem dX5_heaviestLeft_52 : decode cX5_heaviestLeft 52 = .ok (.goto 4, 3) := by decide +kernel
theorem dX5_heaviestLeft_55 : decode cX5_heaviestLeft 55 = .ok (.iconst 0, 1) := by decide +kernel
theorem dX5_heaviestLeft_56 : decode cX5_heaviestLeft 56 = .ok (.istore 4, 2) := by decide +kernel
theorem dX5_heaviestLeft_58 : decode cX5_heaviestLeft 58 = .ok (.iload 4, 2) := by decide +kernel
theorem dX5_heaviestLeft_60 : decode cX5_heaviestLeft 60 = .ok (.ifCond .eq 20, 3) := by decide +kernel
theorem dX5_heaviestLeft_63 : decode cX5_heaviestLeft 63 = .ok (.aload_n 0, 1) := by decide +kernel
theorem dX5_heaviestLeft_64 : decode cX5_heaviestLeft 64 = .ok (.iload_n 3, 1) := by decide +kernel
theorem dX5_heaviestLeft_65 : decode cX5_heaviestLeft 65 = .ok (.invokevirtual 156, 3) := by decide +kernel
theorem dX5_heaviestLeft_68 : decode cX5_heaviestLeft 68 = .ok (.iload_n 2, 1) := by decide +kernel
theorem dX5_heaviestLeft_69 : decode cX5_heaviestLeft 69 = .ok (.if_icmp .le 11, 3) := by decide +kernel
theorem dX5_heaviestLeft_72 : decode cX5_heaviestLeft 72 = .ok (.aload_n 0, 1) := by decide +kernel
theorem dX5_heaviestLeft_73 : decode cX5_heaviestLeft 73 = .ok (.iload_n 3, 1) := by decide +kernel
theorem dX5_heaviestLeft_74 : decode cX5_heaviestLeft 74 = .ok (.invokevirtual 156, 3) := by decide +kernel
theorem dX5_heaviestLeft_77 : decode cX5_heaviestLeft 77 = .ok (.goto 4, 3) := by decide +kernel
theorem dX5_heaviestLeft_80 : decode cX5_heaviestLeft 80 = .ok (.iload_n 2, 1) := by decide +kernel
theorem dX5_heaviestLeft_81 : decode cX5_heaviestLeft 81 = .ok (.istore_n 2, 1) := by decide +kernel
theorem dX5_heaviestLeft_82 : decode cX5_heaviestLeft 82 = .ok (.iinc 3 1, 3) := by decide +kernel
theorem dX5_heaviestLeft_85 : decode cX5_heaviestLeft 85 = .ok (.goto (-67), 3) := by decide +kernel
theorem dX5_heaviestLeft_88 : decode cX5_heaviestLeft 88 = .ok (.iload_n 2, 1) := by decide +kernel
theorem dX5_heaviestLeft_89 : decode cX5_heaviestLeft 89 = .ok (.ireturn, 1) := by decide +kernel
theorem dX5_middle_0 : decode cX5_middle 0 = .ok (.aload_n 0, 1) := by decide +kernel
theorem dX5_middle_1 : decode cX5_middle 1 = .ok (.iload_n 1, 1) := by decide +kernel
theorem dX5_middle_2 : decode cX5_middle 2 = .ok (.invokevirtual 99, 3) := by decide +kernel
theorem dX5_middle_5 : decode cX5_middle 5 = .ok (.ifCond .ne 5, 3) := by decide +kernel
theorem dX5_middle_8 : decode cX5_middle 8 = .ok (.iconst (-1), 1) := by decide +kernel
theorem dX5_middle_9 : decode cX5_middle 9 = .ok (.ireturn, 1) := by decide +kernel
theorem dX5_middle_10 : decode cX5_middle 10 = .ok (.iconst (-1), 1) := by decide +kernel
theorem dX5_middle_11 : decode cX5_middle 11 = .ok (.istore_n 2, 1) := by decide +kernel
theorem dX5_middle_12 : decode cX5_middle 12 = .ok (.iconst 0, 1) := by decide +kernel
theorem dX5_middle_13 : decode cX5_middle 13 = .ok (.istore_n 3, 1) := by decide +kernel
theorem dX5_middle_14 : decode cX5_middle 14 = .ok (.iload_n 3, 1) := by decide +kernel
theorem dX5_middle_15 : decode cX5_middle 15 = .ok (.aload_n 0, 1) := by decide +kernel
theorem dX5_middle_16 : decode cX5_middle 16 = .ok (.getfield 9, 3) := by decide +kernel
theorem dX5_middle_19 : decode cX5_middle 19 = .ok (.iconst 0, 1) := by decide +kernel
theorem dX5_middle_20 : decode cX5_middle 20 = .ok (.iaload, 1) := by decide +kernel
theorem dX5_middle_21 : decode cX5_middle 21 = .ok (.if_icmp .ge 41, 3) := by decide +kernel
theorem dX5_middle_24 : decode cX5_middle 24 = .ok (.aload_n 0, 1) := by decide +kernel
theorem dX5_middle_25 : decode cX5_middle 25 = .ok (.iload_n 3, 1) := by decide +kernel
theorem dX5_middle_26 : decode cX5_middle 26 = .ok (.iload_n 1, 1) := by decide +kernel
theorem dX5_middle_27 : decode cX5_middle 27 = .ok (.invokevirtual 110, 3) := by decide +kernel
theorem dX5_middle_30 : decode cX5_middle 30 = .ok (.ifCond .eq 24, 3) := by decide +kernel
theorem dX5_middle_33 : decode cX5_middle 33 = .ok (.iload_n 2, 1) := by decide +kernel
theorem dX5_middle_34 : decode cX5_middle 34 = .ok (.ifCond .lt 16, 3) := by decide +kernel
theorem dX5_middle_37 : decode cX5_middle 37 = .ok (.aload_n 0, 1) := by decide +kernel
theorem dX5_middle_38 : decode cX5_middle 38 = .ok (.iload_n 3, 1) := by decide +kernel
theorem dX5_middle_39 : decode cX5_middle 39 = .ok (.invokevirtual 171, 3) := by decide +kernel
theorem dX5_middle_42 : decode cX5_middle 42 = .ok (.aload_n 0, 1) := by decide +kernel
theorem dX5_middle_43 : decode cX5_middle 43 = .ok (.iload_n 2, 1) := by decide +kernel
theorem dX5_middle_44 : decode cX5_middle 44 = .ok (.invokevirtual 171, 3) := by decide +kernel
theorem dX5_middle_47 : decode cX5_middle 47 = .ok (.if_icmp .ge 7, 3) := by decide +kernel
theorem dX5_middle_50 : decode cX5_middle 50 = .ok (.iload_n 3, 1) := by decide +kernel
theorem dX5_middle_51 : decode cX5_middle 51 = .ok (.goto 4, 3) := by decide +kernel
theorem dX5_middle_54 : decode cX5_middle 54 = .ok (.iload_n 2, 1) := by decide +kernel
theorem dX5_middle_55 : decode cX5_middle 55 = .ok (.istore_n 2, 1) := by decide +kernel
theorem dX5_middle_56 : decode cX5_middle 56 = .ok (.iinc 3 1, 3) := by decide +kernel
theorem dX5_middle_59 : decode cX5_middle 59 = .ok (.goto (-45), 3) := by decide +kernel
theorem dX5_middle_62 : decode cX5_middle 62 = .ok (.iload_n 2, 1) := by decide +kernel
theorem dX5_middle_63 : decode cX5_middle 63 = .ok (.ireturn, 1) := by decide +kernel
theorem dX5_isAhead_0 : decode cX5_isAhead 0 = .ok (.aload_n 0, 1) := by decide +kernel
theorem dX5_isAhead_1 : decode cX5_isAhead 1 = .ok (.aload_n 0, 1) := by decide +kernel
theorem dX5_isAhead_2 : decode cX5_isAhead 2 = .ok (.iload_n 1, 1) := by decide +kernel
theorem dX5_isAhead_3 : decode cX5_isAhead 3 = .ok (.iconst 0, 1) := by decide +kernel
theorem dX5_isAhead_4 : decode cX5_isAhead 4 = .ok (.invokevirtual 70, 3) := by decide +kernel
theorem dX5_isAhead_7 : decode cX5_isAhead 7 = .ok (.invokevirtual 156, 3) := by decide +kernel
theorem dX5_isAhead_10 : decode cX5_isAhead 10 = .ok (.aload_n 0, 1) := by decide +kernel
theorem dX5_isAhead_11 : decode cX5_isAhead 11 = .ok (.aload_n 0, 1) := by decide +kernel
theorem dX5_isAhead_12 : decode cX5_isAhead 12 = .ok (.iload_n 2, 1) := by decide +kernel
theorem dX5_isAhead_13 : decode cX5_isAhead 13 = .ok (.iconst 0, 1) := by decide +kernel
theorem dX5_isAhead_14 : decode cX5_isAhead 14 = .ok (.invokevirtual 70, 3) := by decide +kernel
theorem dX5_isAhead_17 : decode cX5_isAhead 17 = .ok (.invokevirtual 156, 3) := by decide +kernel
theorem dX5_isAhead_20 : decode cX5_isAhead 20 = .ok (.isub, 1) := by decide +kernel
theorem dX5_isAhead_21 : decode cX5_isAhead 21 = .ok (.istore_n 3, 1) := by decide +kernel
theorem dX5_isAhead_22 : decode cX5_isAhead 22 = .ok (.aload_n 0, 1) := by decide +kernel
theorem dX5_isAhead_23 : decode cX5_isAhead 23 = .ok (.iload_n 1, 1) := by decide +kernel
theorem dX5_isAhead_24 : decode cX5_isAhead 24 = .ok (.invokevirtual 120, 3) := by decide +kernel
theorem dX5_isAhead_27 : decode cX5_isAhead 27 = .ok (.aload_n 0, 1) := by decide +kernel
theorem dX5_isAhead_28 : decode cX5_isAhead 28 = .ok (.iload_n 2, 1) := by decide +kernel
theorem dX5_isAhead_29 : decode cX5_isAhead 29 = .ok (.invokevirtual 120, 3) := by decide +kernel
theorem dX5_isAhead_32 : decode cX5_isAhead 32 = .ok (.isub, 1) := by decide +kernel
theorem dX5_isAhead_33 : decode cX5_isAhead 33 = .ok (.istore 4, 2) := by decide +kernel
theorem dX5_isAhead_35 : decode cX5_isAhead 35 = .ok (.iload_n 3, 1) := by decide +kernel
theorem dX5_isAhead_36 : decode cX5_isAhead 36 = .ok (.ifCond .eq 15, 3) := by decide +kernel
theorem dX5_isAhead_39 : decode cX5_isAhead 39 = .ok (.iload_n 3, 1) := by decide +kernel
theorem dX5_isAhead_40 : decode cX5_isAhead 40 = .ok (.ifCond .le 7, 3) := by decide +kernel
theorem dX5_isAhead_43 : decode cX5_isAhead 43 = .ok (.iconst 1, 1) := by decide +kernel
theorem dX5_isAhead_44 : decode cX5_isAhead 44 = .ok (.goto 45, 3) := by decide +kernel
theorem dX5_isAhead_47 : decode cX5_isAhead 47 = .ok (.iconst 0, 1) := by decide +kernel
theorem dX5_isAhead_48 : decode cX5_isAhead 48 = .ok (.goto 41, 3) := by decide +kernel
theorem dX5_isAhead_51 : decode cX5_isAhead 51 = .ok (.iload 4, 2) := by decide +kernel
theorem dX5_isAhead_53 : decode cX5_isAhead 53 = .ok (.ifCond .eq 16, 3) := by decide +kernel
theorem dX5_isAhead_56 : decode cX5_isAhead 56 = .ok (.iload 4, 2) := by decide +kernel
theorem dX5_isAhead_58 : decode cX5_isAhead 58 = .ok (.ifCond .le 7, 3) := by decide +kernel
theorem dX5_isAhead_61 : decode cX5_isAhead 61 = .ok (.iconst 1, 1) := by decide +kernel
theorem dX5_isAhead_62 : decode cX5_isAhead 62 = .ok (.goto 27, 3) := by decide +kernel
theorem dX5_isAhead_65 : decode cX5_isAhead 65 = .ok (.iconst 0, 1) := by decide +kernel
theorem dX5_isAhead_66 : decode cX5_isAhead 66 = .ok (.goto 23, 3) := by decide +kernel
theorem dX5_isAhead_69 : decode cX5_isAhead 69 = .ok (.aload_n 0, 1) := by decide +kernel
theorem dX5_isAhead_70 : decode cX5_isAhead 70 = .ok (.iload_n 1, 1) := by decide +kernel
theorem dX5_isAhead_71 : decode cX5_isAhead 71 = .ok (.iconst 0, 1) := by decide +kernel
theorem dX5_isAhead_72 : decode cX5_isAhead 72 = .ok (.invokevirtual 70, 3) := by decide +kernel
theorem dX5_isAhead_75 : decode cX5_isAhead 75 = .ok (.aload_n 0, 1) := by decide +kernel
theorem dX5_isAhead_76 : decode cX5_isAhead 76 = .ok (.iload_n 2, 1) := by decide +kernel
theorem dX5_isAhead_77 : decode cX5_isAhead 77 = .ok (.iconst 0, 1) := by decide +kernel
theorem dX5_isAhead_78 : decode cX5_isAhead 78 = .ok (.invokevirtual 70, 3) := by decide +kernel
theorem dX5_isAhead_81 : decode cX5_isAhead 81 = .ok (.if_icmp .ge 7, 3) := by decide +kernel
theorem dX5_isAhead_84 : decode cX5_isAhead 84 = .ok (.iconst 1, 1) := by decide +kernel
theorem dX5_isAhead_85 : decode cX5_isAhead 85 = .ok (.goto 4, 3) := by decide +kernel
theorem dX5_isAhead_88 : decode cX5_isAhead 88 = .ok (.iconst 0, 1) := by decide +kernel
theorem dX5_isAhead_89 : decode cX5_isAhead 89 = .ok (.ireturn, 1) := by decide +kernel
theorem dX5_ranked_0 : decode cX5_ranked 0 = .ok (.iconst 0, 1) := by decide +kernel
theorem dX5_ranked_1 : decode cX5_ranked 1 = .ok (.istore_n 2, 1) := by decide +kernel
theorem dX5_ranked_2 : decode cX5_ranked 2 = .ok (.iload_n 2, 1) := by decide +kernel
theorem dX5_ranked_3 : decode cX5_ranked 3 = .ok (.bipush 12, 2) := by decide +kernel
theorem dX5_ranked_5 : decode cX5_ranked 5 = .ok (.if_icmp .ge 82, 3) := by decide +kernel
theorem dX5_ranked_8 : decode cX5_ranked 8 = .ok (.iconst 0, 1) := by decide +kernel
theorem dX5_ranked_9 : decode cX5_ranked 9 = .ok (.istore_n 3, 1) := by decide +kernel
theorem dX5_ranked_10 : decode cX5_ranked 10 = .ok (.iconst 0, 1) := by decide +kernel
theorem dX5_ranked_11 : decode cX5_ranked 11 = .ok (.istore 4, 2) := by decide +kernel
theorem dX5_ranked_13 : decode cX5_ranked 13 = .ok (.iload 4, 2) := by decide +kernel
theorem dX5_ranked_15 : decode cX5_ranked 15 = .ok (.bipush 12, 2) := by decide +kernel
theorem dX5_ranked_17 : decode cX5_ranked 17 = .ok (.if_icmp .ge 44, 3) := by decide +kernel
theorem dX5_ranked_20 : decode cX5_ranked 20 = .ok (.aload_n 0, 1) := by decide +kernel
theorem dX5_ranked_21 : decode cX5_ranked 21 = .ok (.iload_n 2, 1) := by decide +kernel
theorem dX5_ranked_22 : decode cX5_ranked 22 = .ok (.invokevirtual 66, 3) := by decide +kernel
theorem dX5_ranked_25 : decode cX5_ranked 25 = .ok (.ifCond .le 36, 3) := by decide +kernel
theorem dX5_ranked_28 : decode cX5_ranked 28 = .ok (.iload_n 3, 1) := by decide +kernel
theorem dX5_ranked_29 : decode cX5_ranked 29 = .ok (.aload_n 0, 1) := by decide +kernel
theorem dX5_ranked_30 : decode cX5_ranked 30 = .ok (.iload 4, 2) := by decide +kernel
theorem dX5_ranked_32 : decode cX5_ranked 32 = .ok (.invokevirtual 66, 3) := by decide +kernel
theorem dX5_ranked_35 : decode cX5_ranked 35 = .ok (.ifCond .le 17, 3) := by decide +kernel
theorem dX5_ranked_38 : decode cX5_ranked 38 = .ok (.aload_n 0, 1) := by decide +kernel
theorem dX5_ranked_39 : decode cX5_ranked 39 = .ok (.iload 4, 2) := by decide +kernel
theorem dX5_ranked_41 : decode cX5_ranked 41 = .ok (.iload_n 2, 1) := by decide +kernel
theorem dX5_ranked_42 : decode cX5_ranked 42 = .ok (.invokevirtual 174, 3) := by decide +kernel
theorem dX5_ranked_45 : decode cX5_ranked 45 = .ok (.ifCond .eq 7, 3) := by decide +kernel
theorem dX5_ranked_48 : decode cX5_ranked 48 = .ok (.iconst 1, 1) := by decide +kernel
theorem dX5_ranked_49 : decode cX5_ranked 49 = .ok (.goto 4, 3) := by decide +kernel
theorem dX5_ranked_52 : decode cX5_ranked 52 = .ok (.iconst 0, 1) := by decide +kernel
theorem dX5_ranked_53 : decode cX5_ranked 53 = .ok (.iadd, 1) := by decide +kernel
theorem dX5_ranked_54 : decode cX5_ranked 54 = .ok (.istore_n 3, 1) := by decide +kernel
theorem dX5_ranked_55 : decode cX5_ranked 55 = .ok (.iinc 4 1, 3) := by decide +kernel
theorem dX5_ranked_58 : decode cX5_ranked 58 = .ok (.goto (-45), 3) := by decide +kernel
theorem dX5_ranked_61 : decode cX5_ranked 61 = .ok (.aload_n 0, 1) := by decide +kernel
theorem dX5_ranked_62 : decode cX5_ranked 62 = .ok (.iload_n 2, 1) := by decide +kernel
theorem dX5_ranked_63 : decode cX5_ranked 63 = .ok (.invokevirtual 66, 3) := by decide +kernel
theorem dX5_ranked_66 : decode cX5_ranked 66 = .ok (.ifCond .le 15, 3) := by decide +kernel
theorem dX5_ranked_69 : decode cX5_ranked 69 = .ok (.iload_n 3, 1) := by decide +kernel
theorem dX5_ranked_70 : decode cX5_ranked 70 = .ok (.iload_n 1, 1) := by decide +kernel
theorem dX5_ranked_71 : decode cX5_ranked 71 = .ok (.if_icmp .ne 10, 3) := by decide +kernel
theorem dX5_ranked_74 : decode cX5_ranked 74 = .ok (.aload_n 0, 1) := by decide +kernel
theorem dX5_ranked_75 : decode cX5_ranked 75 = .ok (.iload_n 2, 1) := by decide +kernel
theorem dX5_ranked_76 : decode cX5_ranked 76 = .ok (.iconst 0, 1) := by decide +kernel
theorem dX5_ranked_77 : decode cX5_ranked 77 = .ok (.invokevirtual 70, 3) := by decide +kernel
theorem dX5_ranked_80 : decode cX5_ranked 80 = .ok (.ireturn, 1) := by decide +kernel
theorem dX5_ranked_81 : decode cX5_ranked 81 = .ok (.iinc 2 1, 3) := by decide +kernel
theorem dX5_ranked_84 : decode cX5_ranked 84 = .ok (.goto (-82), 3) := by decide +kernel
theorem dX5_ranked_87 : decode cX5_ranked 87 = .ok (.iconst (-1), 1) := by decide +kernel
theorem dX5_ranked_88 : decode cX5_ranked 88 = .ok (.ireturn, 1) := by decide +kernel
theorem dX5_write_0 : decode cX5_write 0 = .ok (.aload_n 0, 1) := by decide +kernel
theorem dX5_write_1 : decode cX5_write 1 = .ok (.getfield 31, 3) := by decide +kernel
theorem dX5_write_4 : decode cX5_write 4 = .ok (.aload_n 0, 1) := by decide +kernel
theorem dX5_write_5 : decode cX5_write 5 = .ok (.getfield 177, 3) := by decide +kernel
theorem dX5_write_8 : decode cX5_write 8 = .ok (.iload_n 1, 1) := by decide +kernel
theorem dX5_write_9 : decode cX5_write 9 = .ok (.castore, 1) := by decide +kernel
theorem dX5_write_10 : decode cX5_write 10 = .ok (.aload_n 0, 1) := by decide +kernel
theorem dX5_write_11 : decode cX5_write 11 = .ok (.dup, 1) := by decide +kernel
theorem dX5_write_12 : decode cX5_write 12 = .ok (.getfield 177, 3) := by decide +kernel
theorem dX5_write_15 : decode cX5_write 15 = .ok (.iconst 1, 1) := by decide +kernel
theorem dX5_write_16 : decode cX5_write 16 = .ok (.iadd, 1) := by decide +kernel
theorem dX5_write_17 : decode cX5_write 17 = .ok (.putfield 177, 3) := by decide +kernel
theorem dX5_write_20 : decode cX5_write 20 = .ok (.return_, 1) := by decide +kernel
theorem dX5_writeNumber_0 : decode cX5_writeNumber 0 = .ok (.iload_n 1, 1) := by decide +kernel
theorem dX5_writeNumber_1 : decode cX5_writeNumber 1 = .ok (.bipush 9, 2) := by decide +kernel
theorem dX5_writeNumber_3 : decode cX5_writeNumber 3 = .ok (.if_icmp .le 11, 3) := by decide +kernel
theorem dX5_writeNumber_6 : decode cX5_writeNumber 6 = .ok (.aload_n 0, 1) := by decide +kernel
theorem dX5_writeNumber_7 : decode cX5_writeNumber 7 = .ok (.iload_n 1, 1) := by decide +kernel
theorem dX5_writeNumber_8 : decode cX5_writeNumber 8 = .ok (.bipush 10, 2) := by decide +kernel
theorem dX5_writeNumber_10 : decode cX5_writeNumber 10 = .ok (.idiv, 1) := by decide +kernel
theorem dX5_writeNumber_11 : decode cX5_writeNumber 11 = .ok (.invokevirtual 180, 3) := by decide +kernel
theorem dX5_writeNumber_14 : decode cX5_writeNumber 14 = .ok (.aload_n 0, 1) := by decide +kernel
theorem dX5_writeNumber_15 : decode cX5_writeNumber 15 = .ok (.bipush 48, 2) := by decide +kernel
theorem dX5_writeNumber_17 : decode cX5_writeNumber 17 = .ok (.iload_n 1, 1) := by decide +kernel
theorem dX5_writeNumber_18 : decode cX5_writeNumber 18 = .ok (.bipush 10, 2) := by decide +kernel
theorem dX5_writeNumber_20 : decode cX5_writeNumber 20 = .ok (.irem, 1) := by decide +kernel
theorem dX5_writeNumber_21 : decode cX5_writeNumber 21 = .ok (.iadd, 1) := by decide +kernel
theorem dX5_writeNumber_22 : decode cX5_writeNumber 22 = .ok (.i2c, 1) := by decide +kernel
theorem dX5_writeNumber_23 : decode cX5_writeNumber 23 = .ok (.invokevirtual 183, 3) := by decide +kernel
theorem dX5_writeNumber_26 : decode cX5_writeNumber 26 = .ok (.return_, 1) := by decide +kernel
theorem dX5_describe_0 : decode cX5_describe 0 = .ok (.aload_n 0, 1) := by decide +kernel
theorem dX5_describe_1 : decode cX5_describe 1 = .ok (.iload_n 1, 1) := by decide +kernel
theorem dX5_describe_2 : decode cX5_describe 2 = .ok (.invokevirtual 99, 3) := by decide +kernel
theorem dX5_describe_5 : decode cX5_describe 5 = .ok (.ifCond .ne 5, 3) := by decide +kernel
theorem dX5_describe_8 : decode cX5_describe 8 = .ok (.iconst (-1), 1) := by decide +kernel
theorem dX5_describe_9 : decode cX5_describe 9 = .ok (.ireturn, 1) := by decide +kernel
theorem dX5_describe_10 : decode cX5_describe 10 = .ok (.aload_n 0, 1) := by decide +kernel
theorem dX5_describe_11 : decode cX5_describe 11 = .ok (.iconst 0, 1) := by decide +kernel
theorem dX5_describe_12 : decode cX5_describe 12 = .ok (.putfield 177, 3) := by decide +kernel
theorem dX5_describe_15 : decode cX5_describe 15 = .ok (.aload_n 0, 1) := by decide +kernel
theorem dX5_describe_16 : decode cX5_describe 16 = .ok (.iload_n 1, 1) := by decide +kernel
theorem dX5_describe_17 : decode cX5_describe 17 = .ok (.invokevirtual 180, 3) := by decide +kernel
theorem dX5_describe_20 : decode cX5_describe 20 = .ok (.aload_n 0, 1) := by decide +kernel
theorem dX5_describe_21 : decode cX5_describe 21 = .ok (.bipush 36, 2) := by decide +kernel
theorem dX5_describe_23 : decode cX5_describe 23 = .ok (.invokevirtual 183, 3) := by decide +kernel
theorem dX5_describe_26 : decode cX5_describe 26 = .ok (.aload_n 0, 1) := by decide +kernel
theorem dX5_describe_27 : decode cX5_describe 27 = .ok (.aload_n 0, 1) := by decide +kernel
theorem dX5_describe_28 : decode cX5_describe 28 = .ok (.iload_n 1, 1) := by decide +kernel
theorem dX5_describe_29 : decode cX5_describe 29 = .ok (.invokevirtual 103, 3) := by decide +kernel
theorem dX5_describe_32 : decode cX5_describe 32 = .ok (.invokevirtual 180, 3) := by decide +kernel
theorem dX5_describe_35 : decode cX5_describe 35 = .ok (.aload_n 0, 1) := by decide +kernel
theorem dX5_describe_36 : decode cX5_describe 36 = .ok (.bipush 58, 2) := by decide +kernel
theorem dX5_describe_38 : decode cX5_describe 38 = .ok (.invokevirtual 183, 3) := by decide +kernel
theorem dX5_describe_41 : decode cX5_describe 41 = .ok (.aload_n 0, 1) := by decide +kernel
theorem dX5_describe_42 : decode cX5_describe 42 = .ok (.aload_n 0, 1) := by decide +kernel
theorem dX5_describe_43 : decode cX5_describe 43 = .ok (.iload_n 1, 1) := by decide +kernel
theorem dX5_describe_44 : decode cX5_describe 44 = .ok (.invokevirtual 114, 3) := by decide +kernel
theorem dX5_describe_47 : decode cX5_describe 47 = .ok (.invokevirtual 180, 3) := by decide +kernel
theorem dX5_describe_50 : decode cX5_describe 50 = .ok (.aload_n 0, 1) := by decide +kernel
theorem dX5_describe_51 : decode cX5_describe 51 = .ok (.bipush 43, 2) := by decide +kernel
theorem dX5_describe_53 : decode cX5_describe 53 = .ok (.invokevirtual 183, 3) := by decide +kernel
theorem dX5_describe_56 : decode cX5_describe 56 = .ok (.aload_n 0, 1) := by decide +kernel
theorem dX5_describe_57 : decode cX5_describe 57 = .ok (.aload_n 0, 1) := by decide +kernel
theorem dX5_describe_58 : decode cX5_describe 58 = .ok (.iload_n 1, 1) := by decide +kernel
theorem dX5_describe_59 : decode cX5_describe 59 = .ok (.invokevirtual 144, 3) := by decide +kernel
theorem dX5_describe_62 : decode cX5_describe 62 = .ok (.invokevirtual 180, 3) := by decide +kernel
theorem dX5_describe_65 : decode cX5_describe 65 = .ok (.aload_n 0, 1) := by decide +kernel
theorem dX5_describe_66 : decode cX5_describe 66 = .ok (.getfield 177, 3) := by decide +kernel
theorem dX5_describe_69 : decode cX5_describe 69 = .ok (.ireturn, 1) := by decide +kernel
theorem dX5_tell_0 : decode cX5_tell 0 = .ok (.aload_n 0, 1) := by decide +kernel
theorem dX5_tell_1 : decode cX5_tell 1 = .ok (.iload_n 1, 1) := by decide +kernel
theorem dX5_tell_2 : decode cX5_tell 2 = .ok (.invokevirtual 99, 3) := by decide +kernel
theorem dX5_tell_5 : decode cX5_tell 5 = .ok (.ifCond .ne 5, 3) := by decide +kernel
theorem dX5_tell_8 : decode cX5_tell 8 = .ok (.iconst (-1), 1) := by decide +kernel
theorem dX5_tell_9 : decode cX5_tell 9 = .ok (.ireturn, 1) := by decide +kernel
theorem dX5_tell_10 : decode cX5_tell 10 = .ok (.aload_n 0, 1) := by decide +kernel
theorem dX5_tell_11 : decode cX5_tell 11 = .ok (.iload_n 1, 1) := by decide +kernel
theorem dX5_tell_12 : decode cX5_tell 12 = .ok (.invokevirtual 77, 3) := by decide +kernel
theorem dX5_tell_15 : decode cX5_tell 15 = .ok (.istore_n 2, 1) := by decide +kernel
theorem dX5_tell_16 : decode cX5_tell 16 = .ok (.aload_n 0, 1) := by decide +kernel
theorem dX5_tell_17 : decode cX5_tell 17 = .ok (.iconst 0, 1) := by decide +kernel
theorem dX5_tell_18 : decode cX5_tell 18 = .ok (.putfield 177, 3) := by decide +kernel
theorem dX5_tell_21 : decode cX5_tell 21 = .ok (.iconst 0, 1) := by decide +kernel
theorem dX5_tell_22 : decode cX5_tell 22 = .ok (.istore_n 3, 1) := by decide +kernel
theorem dX5_tell_23 : decode cX5_tell 23 = .ok (.iload_n 3, 1) := by decide +kernel
theorem dX5_tell_24 : decode cX5_tell 24 = .ok (.aload_n 0, 1) := by decide +kernel
theorem dX5_tell_25 : decode cX5_tell 25 = .ok (.iload_n 2, 1) := by decide +kernel
theorem dX5_tell_26 : decode cX5_tell 26 = .ok (.invokevirtual 66, 3) := by decide +kernel
theorem dX5_tell_29 : decode cX5_tell 29 = .ok (.if_icmp .ge 29, 3) := by decide +kernel
theorem dX5_tell_32 : decode cX5_tell 32 = .ok (.iload_n 3, 1) := by decide +kernel
theorem dX5_tell_33 : decode cX5_tell 33 = .ok (.ifCond .le 9, 3) := by decide +kernel
theorem dX5_tell_36 : decode cX5_tell 36 = .ok (.aload_n 0, 1) := by decide +kernel
theorem dX5_tell_37 : decode cX5_tell 37 = .ok (.bipush 45, 2) := by decide +kernel
theorem dX5_tell_39 : decode cX5_tell 39 = .ok (.invokevirtual 183, 3) := by decide +kernel
theorem dX5_tell_42 : decode cX5_tell 42 = .ok (.aload_n 0, 1) := by decide +kernel
theorem dX5_tell_43 : decode cX5_tell 43 = .ok (.aload_n 0, 1) := by decide +kernel
theorem dX5_tell_44 : decode cX5_tell 44 = .ok (.iload_n 2, 1) := by decide +kernel
theorem dX5_tell_45 : decode cX5_tell 45 = .ok (.iload_n 3, 1) := by decide +kernel
theorem dX5_tell_46 : decode cX5_tell 46 = .ok (.invokevirtual 70, 3) := by decide +kernel
theorem dX5_tell_49 : decode cX5_tell 49 = .ok (.invokevirtual 180, 3) := by decide +kernel
theorem dX5_tell_52 : decode cX5_tell 52 = .ok (.iinc 3 1, 3) := by decide +kernel
theorem dX5_tell_55 : decode cX5_tell 55 = .ok (.goto (-32), 3) := by decide +kernel
theorem dX5_tell_58 : decode cX5_tell 58 = .ok (.aload_n 0, 1) := by decide +kernel
theorem dX5_tell_59 : decode cX5_tell 59 = .ok (.getfield 177, 3) := by decide +kernel
theorem dX5_tell_62 : decode cX5_tell 62 = .ok (.ireturn, 1) := by decide +kernel
theorem dX5_sign_0 : decode cX5_sign 0 = .ok (.iload_n 1, 1) := by decide +kernel
theorem dX5_sign_1 : decode cX5_sign 1 = .ok (.iconst 0, 1) := by decide +kernel
theorem dX5_sign_2 : decode cX5_sign 2 = .ok (.aload_n 0, 1) := by decide +kernel
theorem dX5_sign_3 : decode cX5_sign 3 = .ok (.getfield 177, 3) := by decide +kernel
theorem dX5_sign_6 : decode cX5_sign 6 = .ok (.iconst 1, 1) := by decide +kernel
theorem dX5_sign_7 : decode cX5_sign 7 = .ok (.isub, 1) := by decide +kernel
theorem dX5_sign_8 : decode cX5_sign 8 = .ok (.invokestatic 62, 3) := by decide +kernel
theorem dX5_sign_11 : decode cX5_sign 11 = .ok (.ifCond .eq 12, 3) := by decide +kernel
theorem dX5_sign_14 : decode cX5_sign 14 = .ok (.aload_n 0, 1) := by decide +kernel
theorem dX5_sign_15 : decode cX5_sign 15 = .ok (.getfield 31, 3) := by decide +kernel
theorem dX5_sign_18 : decode cX5_sign 18 = .ok (.iload_n 1, 1) := by decide +kernel
theorem dX5_sign_19 : decode cX5_sign 19 = .ok (.caload, 1) := by decide +kernel
theorem dX5_sign_20 : decode cX5_sign 20 = .ok (.goto 4, 3) := by decide +kernel
theorem dX5_sign_23 : decode cX5_sign 23 = .ok (.iconst (-1), 1) := by decide +kernel
theorem dX5_sign_24 : decode cX5_sign 24 = .ok (.ireturn, 1) := by decide +kernel
theorem dX5_append_0 : decode cX5_append 0 = .ok (.iload_n 1, 1) := by decide +kernel
theorem dX5_append_1 : decode cX5_append 1 = .ok (.bipush 32, 2) := by decide +kernel
theorem dX5_append_3 : decode cX5_append 3 = .ok (.bipush 126, 2) := by decide +kernel
theorem dX5_append_5 : decode cX5_append 5 = .ok (.invokestatic 62, 3) := by decide +kernel
theorem dX5_append_8 : decode cX5_append 8 = .ok (.ifCond .eq 12, 3) := by decide +kernel
theorem dX5_append_11 : decode cX5_append 11 = .ok (.aload_n 0, 1) := by decide +kernel
theorem dX5_append_12 : decode cX5_append 12 = .ok (.getfield 187, 3) := by decide +kernel
theorem dX5_append_15 : decode cX5_append 15 = .ok (.bipush 70, 2) := by decide +kernel
theorem dX5_append_17 : decode cX5_append 17 = .ok (.if_icmp .ne 6, 3) := by decide +kernel
theorem dX5_append_20 : decode cX5_append 20 = .ok (.bipush (-2), 2) := by decide +kernel
theorem dX5_append_22 : decode cX5_append 22 = .ok (.ireturn, 1) := by decide +kernel
theorem dX5_append_23 : decode cX5_append 23 = .ok (.aload_n 0, 1) := by decide +kernel
theorem dX5_append_24 : decode cX5_append 24 = .ok (.getfield 35, 3) := by decide +kernel
theorem dX5_append_27 : decode cX5_append 27 = .ok (.aload_n 0, 1) := by decide +kernel
theorem dX5_append_28 : decode cX5_append 28 = .ok (.getfield 187, 3) := by decide +kernel
theorem dX5_append_31 : decode cX5_append 31 = .ok (.iload_n 1, 1) := by decide +kernel
theorem dX5_append_32 : decode cX5_append 32 = .ok (.iastore, 1) := by decide +kernel
theorem dX5_append_33 : decode cX5_append 33 = .ok (.aload_n 0, 1) := by decide +kernel
theorem dX5_append_34 : decode cX5_append 34 = .ok (.dup, 1) := by decide +kernel
theorem dX5_append_35 : decode cX5_append 35 = .ok (.getfield 187, 3) := by decide +kernel
theorem dX5_append_38 : decode cX5_append 38 = .ok (.iconst 1, 1) := by decide +kernel
theorem dX5_append_39 : decode cX5_append 39 = .ok (.iadd, 1) := by decide +kernel
theorem dX5_append_40 : decode cX5_append 40 = .ok (.putfield 187, 3) := by decide +kernel
theorem dX5_append_43 : decode cX5_append 43 = .ok (.aload_n 0, 1) := by decide +kernel
theorem dX5_append_44 : decode cX5_append 44 = .ok (.getfield 187, 3) := by decide +kernel
theorem dX5_append_47 : decode cX5_append 47 = .ok (.ireturn, 1) := by decide +kernel
theorem dX5_sees_0 : decode cX5_sees 0 = .ok (.aload_n 0, 1) := by decide +kernel
theorem dX5_sees_1 : decode cX5_sees 1 = .ok (.getfield 190, 3) := by decide +kernel
theorem dX5_sees_4 : decode cX5_sees 4 = .ok (.ifCond .ne 35, 3) := by decide +kernel
theorem dX5_sees_7 : decode cX5_sees 7 = .ok (.aload_n 0, 1) := by decide +kernel
theorem dX5_sees_8 : decode cX5_sees 8 = .ok (.getfield 193, 3) := by decide +kernel
theorem dX5_sees_11 : decode cX5_sees 11 = .ok (.aload_n 0, 1) := by decide +kernel
theorem dX5_sees_12 : decode cX5_sees 12 = .ok (.getfield 187, 3) := by decide +kernel
theorem dX5_sees_15 : decode cX5_sees 15 = .ok (.if_icmp .ge 24, 3) := by decide +kernel
theorem dX5_sees_18 : decode cX5_sees 18 = .ok (.aload_n 0, 1) := by decide +kernel
theorem dX5_sees_19 : decode cX5_sees 19 = .ok (.getfield 35, 3) := by decide +kernel
theorem dX5_sees_22 : decode cX5_sees 22 = .ok (.aload_n 0, 1) := by decide +kernel
theorem dX5_sees_23 : decode cX5_sees 23 = .ok (.getfield 193, 3) := by decide +kernel
theorem dX5_sees_26 : decode cX5_sees 26 = .ok (.iaload, 1) := by decide +kernel
theorem dX5_sees_27 : decode cX5_sees 27 = .ok (.iload_n 1, 1) := by decide +kernel
theorem dX5_sees_28 : decode cX5_sees 28 = .ok (.iload_n 2, 1) := by decide +kernel
theorem dX5_sees_29 : decode cX5_sees 29 = .ok (.invokestatic 62, 3) := by decide +kernel
theorem dX5_sees_32 : decode cX5_sees 32 = .ok (.ifCond .eq 7, 3) := by decide +kernel
theorem dX5_sees_35 : decode cX5_sees 35 = .ok (.iconst 1, 1) := by decide +kernel
theorem dX5_sees_36 : decode cX5_sees 36 = .ok (.goto 4, 3) := by decide +kernel
theorem dX5_sees_39 : decode cX5_sees 39 = .ok (.iconst 0, 1) := by decide +kernel
theorem dX5_sees_40 : decode cX5_sees 40 = .ok (.ireturn, 1) := by decide +kernel
theorem dX5_must_0 : decode cX5_must 0 = .ok (.aload_n 0, 1) := by decide +kernel
theorem dX5_must_1 : decode cX5_must 1 = .ok (.dup, 1) := by decide +kernel
theorem dX5_must_2 : decode cX5_must 2 = .ok (.getfield 190, 3) := by decide +kernel
theorem dX5_must_5 : decode cX5_must 5 = .ok (.aload_n 0, 1) := by decide +kernel
theorem dX5_must_6 : decode cX5_must 6 = .ok (.iload_n 1, 1) := by decide +kernel
theorem dX5_must_7 : decode cX5_must 7 = .ok (.iload_n 1, 1) := by decide +kernel
theorem dX5_must_8 : decode cX5_must 8 = .ok (.invokevirtual 196, 3) := by decide +kernel
theorem dX5_must_11 : decode cX5_must 11 = .ok (.ifCond .ne 7, 3) := by decide +kernel
theorem dX5_must_14 : decode cX5_must 14 = .ok (.iconst 1, 1) := by decide +kernel
theorem dX5_must_15 : decode cX5_must 15 = .ok (.goto 4, 3) := by decide +kernel
theorem dX5_must_18 : decode cX5_must 18 = .ok (.iconst 0, 1) := by decide +kernel
theorem dX5_must_19 : decode cX5_must 19 = .ok (.ior, 1) := by decide +kernel
theorem dX5_must_20 : decode cX5_must 20 = .ok (.putfield 190, 3) := by decide +kernel
theorem dX5_must_23 : decode cX5_must 23 = .ok (.aload_n 0, 1) := by decide +kernel
theorem dX5_must_24 : decode cX5_must 24 = .ok (.dup, 1) := by decide +kernel
theorem dX5_must_25 : decode cX5_must 25 = .ok (.getfield 193, 3) := by decide +kernel
theorem dX5_must_28 : decode cX5_must 28 = .ok (.aload_n 0, 1) := by decide +kernel
theorem dX5_must_29 : decode cX5_must 29 = .ok (.getfield 190, 3) := by decide +kernel
theorem dX5_must_32 : decode cX5_must 32 = .ok (.ifCond .eq 7, 3) := by decide +kernel
theorem dX5_must_35 : decode cX5_must 35 = .ok (.iconst 0, 1) := by decide +kernel
theorem dX5_must_36 : decode cX5_must 36 = .ok (.goto 4, 3) := by decide +kernel
theorem dX5_must_39 : decode cX5_must 39 = .ok (.iconst 1, 1) := by decide +kernel
theorem dX5_must_40 : decode cX5_must 40 = .ok (.iadd, 1) := by decide +kernel
theorem dX5_must_41 : decode cX5_must 41 = .ok (.putfield 193, 3) := by decide +kernel
theorem dX5_must_44 : decode cX5_must 44 = .ok (.return_, 1) := by decide +kernel
theorem dX5_readNumber_0 : decode cX5_readNumber 0 = .ok (.aload_n 0, 1) := by decide +kernel
theorem dX5_readNumber_1 : decode cX5_readNumber 1 = .ok (.dup, 1) := by decide +kernel
theorem dX5_readNumber_2 : decode cX5_readNumber 2 = .ok (.getfield 190, 3) := by decide +kernel
theorem dX5_readNumber_5 : decode cX5_readNumber 5 = .ok (.aload_n 0, 1) := by decide +kernel
theorem dX5_readNumber_6 : decode cX5_readNumber 6 = .ok (.bipush 48, 2) := by decide +kernel
theorem dX5_readNumber_8 : decode cX5_readNumber 8 = .ok (.bipush 57, 2) := by decide +kernel
theorem dX5_readNumber_10 : decode cX5_readNumber 10 = .ok (.invokevirtual 196, 3) := by decide +kernel
theorem dX5_readNumber_13 : decode cX5_readNumber 13 = .ok (.ifCond .ne 7, 3) := by decide +kernel
theorem dX5_readNumber_16 : decode cX5_readNumber 16 = .ok (.iconst 1, 1) := by decide +kernel
theorem dX5_readNumber_17 : decode cX5_readNumber 17 = .ok (.goto 4, 3) := by decide +kernel
theorem dX5_readNumber_20 : decode cX5_readNumber 20 = .ok (.iconst 0, 1) := by decide +kernel
theorem dX5_readNumber_21 : decode cX5_readNumber 21 = .ok (.ior, 1) := by decide +kernel
theorem dX5_readNumber_22 : decode cX5_readNumber 22 = .ok (.putfield 190, 3) := by decide +kernel
theorem dX5_readNumber_25 : decode cX5_readNumber 25 = .ok (.iconst 0, 1) := by decide +kernel
theorem dX5_readNumber_26 : decode cX5_readNumber 26 = .ok (.istore_n 1, 1) := by decide +kernel
theorem dX5_readNumber_27 : decode cX5_readNumber 27 = .ok (.iconst 0, 1) := by decide +kernel
theorem dX5_readNumber_28 : decode cX5_readNumber 28 = .ok (.istore_n 2, 1) := by decide +kernel
theorem dX5_readNumber_29 : decode cX5_readNumber 29 = .ok (.iload_n 2, 1) := by decide +kernel
theorem dX5_readNumber_30 : decode cX5_readNumber 30 = .ok (.iconst 2, 1) := by decide +kernel
theorem dX5_readNumber_31 : decode cX5_readNumber 31 = .ok (.if_icmp .ge 48, 3) := by decide +kernel
theorem dX5_readNumber_34 : decode cX5_readNumber 34 = .ok (.aload_n 0, 1) := by decide +kernel
theorem dX5_readNumber_35 : decode cX5_readNumber 35 = .ok (.bipush 48, 2) := by decide +kernel
theorem dX5_readNumber_37 : decode cX5_readNumber 37 = .ok (.bipush 57, 2) := by decide +kernel
theorem dX5_readNumber_39 : decode cX5_readNumber 39 = .ok (.invokevirtual 196, 3) := by decide +kernel
theorem dX5_readNumber_42 : decode cX5_readNumber 42 = .ok (.ifCond .eq 37, 3) := by decide +kernel
theorem dX5_readNumber_45 : decode cX5_readNumber 45 = .ok (.bipush 10, 2) := by decide +kernel
theorem dX5_readNumber_47 : decode cX5_readNumber 47 = .ok (.iload_n 1, 1) := by decide +kernel
theorem dX5_readNumber_48 : decode cX5_readNumber 48 = .ok (.imul, 1) := by decide +kernel
theorem dX5_readNumber_49 : decode cX5_readNumber 49 = .ok (.aload_n 0, 1) := by decide +kernel
theorem dX5_readNumber_50 : decode cX5_readNumber 50 = .ok (.getfield 35, 3) := by decide +kernel
theorem dX5_readNumber_53 : decode cX5_readNumber 53 = .ok (.aload_n 0, 1) := by decide +kernel
theorem dX5_readNumber_54 : decode cX5_readNumber 54 = .ok (.getfield 193, 3) := by decide +kernel
theorem dX5_readNumber_57 : decode cX5_readNumber 57 = .ok (.iaload, 1) := by decide +kernel
theorem dX5_readNumber_58 : decode cX5_readNumber 58 = .ok (.iadd, 1) := by decide +kernel
theorem dX5_readNumber_59 : decode cX5_readNumber 59 = .ok (.bipush 48, 2) := by decide +kernel
theorem dX5_readNumber_61 : decode cX5_readNumber 61 = .ok (.isub, 1) := by decide +kernel
theorem dX5_readNumber_62 : decode cX5_readNumber 62 = .ok (.istore_n 1, 1) := by decide +kernel
theorem dX5_readNumber_63 : decode cX5_readNumber 63 = .ok (.aload_n 0, 1) := by decide +kernel
theorem dX5_readNumber_64 : decode cX5_readNumber 64 = .ok (.dup, 1) := by decide +kernel
theorem dX5_readNumber_65 : decode cX5_readNumber 65 = .ok (.getfield 193, 3) := by decide +kernel
theorem dX5_readNumber_68 : decode cX5_readNumber 68 = .ok (.iconst 1, 1) := by decide +kernel
theorem dX5_readNumber_69 : decode cX5_readNumber 69 = .ok (.iadd, 1) := by decide +kernel
theorem dX5_readNumber_70 : decode cX5_readNumber 70 = .ok (.putfield 193, 3) := by decide +kernel
theorem dX5_readNumber_73 : decode cX5_readNumber 73 = .ok (.iinc 2 1, 3) := by decide +kernel
theorem dX5_readNumber_76 : decode cX5_readNumber 76 = .ok (.goto (-47), 3) := by decide +kernel
theorem dX5_readNumber_79 : decode cX5_readNumber 79 = .ok (.iload_n 1, 1) := by decide +kernel
theorem dX5_readNumber_80 : decode cX5_readNumber 80 = .ok (.ireturn, 1) := by decide +kernel
theorem dX5_readBehind_0 : decode cX5_readBehind 0 = .ok (.aload_n 0, 1) := by decide +kernel
theorem dX5_readBehind_1 : decode cX5_readBehind 1 = .ok (.iload_n 1, 1) := by decide +kernel
theorem dX5_readBehind_2 : decode cX5_readBehind 2 = .ok (.invokevirtual 199, 3) := by decide +kernel
theorem dX5_readBehind_5 : decode cX5_readBehind 5 = .ok (.aload_n 0, 1) := by decide +kernel
theorem dX5_readBehind_6 : decode cX5_readBehind 6 = .ok (.aload_n 0, 1) := by decide +kernel
theorem dX5_readBehind_7 : decode cX5_readBehind 7 = .ok (.invokevirtual 202, 3) := by decide +kernel
theorem dX5_readBehind_10 : decode cX5_readBehind 10 = .ok (.putfield 205, 3) := by decide +kernel
theorem dX5_readBehind_13 : decode cX5_readBehind 13 = .ok (.return_, 1) := by decide +kernel
theorem dX5_readRise_0 : decode cX5_readRise 0 = .ok (.aload_n 0, 1) := by decide +kernel
theorem dX5_readRise_1 : decode cX5_readRise 1 = .ok (.bipush 45, 2) := by decide +kernel
theorem dX5_readRise_3 : decode cX5_readRise 3 = .ok (.bipush 45, 2) := by decide +kernel
theorem dX5_readRise_5 : decode cX5_readRise 5 = .ok (.invokevirtual 196, 3) := by decide +kernel
theorem dX5_readRise_8 : decode cX5_readRise 8 = .ok (.istore_n 1, 1) := by decide +kernel
theorem dX5_readRise_9 : decode cX5_readRise 9 = .ok (.aload_n 0, 1) := by decide +kernel
theorem dX5_readRise_10 : decode cX5_readRise 10 = .ok (.iload_n 1, 1) := by decide +kernel
theorem dX5_readRise_11 : decode cX5_readRise 11 = .ok (.ifCond .eq 8, 3) := by decide +kernel
theorem dX5_readRise_14 : decode cX5_readRise 14 = .ok (.bipush 45, 2) := by decide +kernel
theorem dX5_readRise_16 : decode cX5_readRise 16 = .ok (.goto 5, 3) := by decide +kernel
theorem dX5_readRise_19 : decode cX5_readRise 19 = .ok (.bipush 43, 2) := by decide +kernel
theorem dX5_readRise_21 : decode cX5_readRise 21 = .ok (.invokevirtual 199, 3) := by decide +kernel
theorem dX5_readRise_24 : decode cX5_readRise 24 = .ok (.aload_n 0, 1) := by decide +kernel
theorem dX5_readRise_25 : decode cX5_readRise 25 = .ok (.invokevirtual 202, 3) := by decide +kernel
theorem dX5_readRise_28 : decode cX5_readRise 28 = .ok (.istore_n 2, 1) := by decide +kernel
theorem dX5_readRise_29 : decode cX5_readRise 29 = .ok (.aload_n 0, 1) := by decide +kernel
theorem dX5_readRise_30 : decode cX5_readRise 30 = .ok (.iload_n 1, 1) := by decide +kernel
theorem dX5_readRise_31 : decode cX5_readRise 31 = .ok (.ifCond .eq 8, 3) := by decide +kernel
theorem dX5_readRise_34 : decode cX5_readRise 34 = .ok (.iload_n 2, 1) := by decide +kernel
theorem dX5_readRise_35 : decode cX5_readRise 35 = .ok (.ineg, 1) := by decide +kernel
theorem dX5_readRise_36 : decode cX5_readRise 36 = .ok (.goto 4, 3) := by decide +kernel
theorem dX5_readRise_39 : decode cX5_readRise 39 = .ok (.iload_n 2, 1) := by decide +kernel
theorem dX5_readRise_40 : decode cX5_readRise 40 = .ok (.putfield 205, 3) := by decide +kernel
theorem dX5_readRise_43 : decode cX5_readRise 43 = .ok (.return_, 1) := by decide +kernel
theorem dX5_readCommand_0 : decode cX5_readCommand 0 = .ok (.aload_n 0, 1) := by decide +kernel
theorem dX5_readCommand_1 : decode cX5_readCommand 1 = .ok (.aload_n 0, 1) := by decide +kernel
theorem dX5_readCommand_2 : decode cX5_readCommand 2 = .ok (.getfield 190, 3) := by decide +kernel
theorem dX5_readCommand_5 : decode cX5_readCommand 5 = .ok (.ifCond .ne 26, 3) := by decide +kernel
theorem dX5_readCommand_8 : decode cX5_readCommand 8 = .ok (.aload_n 0, 1) := by decide +kernel
theorem dX5_readCommand_9 : decode cX5_readCommand 9 = .ok (.getfield 193, 3) := by decide +kernel
theorem dX5_readCommand_12 : decode cX5_readCommand 12 = .ok (.aload_n 0, 1) := by decide +kernel
theorem dX5_readCommand_13 : decode cX5_readCommand 13 = .ok (.getfield 187, 3) := by decide +kernel
theorem dX5_readCommand_16 : decode cX5_readCommand 16 = .ok (.if_icmp .ge 15, 3) := by decide +kernel
theorem dX5_readCommand_19 : decode cX5_readCommand 19 = .ok (.aload_n 0, 1) := by decide +kernel
theorem dX5_readCommand_20 : decode cX5_readCommand 20 = .ok (.getfield 35, 3) := by decide +kernel
theorem dX5_readCommand_23 : decode cX5_readCommand 23 = .ok (.aload_n 0, 1) := by decide +kernel
theorem dX5_readCommand_24 : decode cX5_readCommand 24 = .ok (.getfield 193, 3) := by decide +kernel
theorem dX5_readCommand_27 : decode cX5_readCommand 27 = .ok (.iaload, 1) := by decide +kernel
theorem dX5_readCommand_28 : decode cX5_readCommand 28 = .ok (.goto 5, 3) := by decide +kernel
theorem dX5_readCommand_31 : decode cX5_readCommand 31 = .ok (.bipush 32, 2) := by decide +kernel
theorem dX5_readCommand_33 : decode cX5_readCommand 33 = .ok (.putfield 208, 3) := by decide +kernel
theorem dX5_readCommand_36 : decode cX5_readCommand 36 = .ok (.aload_n 0, 1) := by decide +kernel
theorem dX5_readCommand_37 : decode cX5_readCommand 37 = .ok (.dup, 1) := by decide +kernel
theorem dX5_readCommand_38 : decode cX5_readCommand 38 = .ok (.getfield 190, 3) := by decide +kernel
theorem dX5_readCommand_41 : decode cX5_readCommand 41 = .ok (.ldc 211, 2) := by decide +kernel
theorem dX5_readCommand_43 : decode cX5_readCommand 43 = .ok (.aload_n 0, 1) := by decide +kernel
theorem dX5_readCommand_44 : decode cX5_readCommand 44 = .ok (.getfield 208, 3) := by decide +kernel
theorem dX5_readCommand_47 : decode cX5_readCommand 47 = .ok (.i2c, 1) := by decide +kernel
theorem dX5_readCommand_48 : decode cX5_readCommand 48 = .ok (.invokevirtual 213, 3) := by decide +kernel
theorem dX5_readCommand_51 : decode cX5_readCommand 51 = .ok (.ifCond .ge 7, 3) := by decide +kernel
theorem dX5_readCommand_54 : decode cX5_readCommand 54 = .ok (.iconst 1, 1) := by decide +kernel
theorem dX5_readCommand_55 : decode cX5_readCommand 55 = .ok (.goto 4, 3) := by decide +kernel
theorem dX5_readCommand_58 : decode cX5_readCommand 58 = .ok (.iconst 0, 1) := by decide +kernel
theorem dX5_readCommand_59 : decode cX5_readCommand 59 = .ok (.ior, 1) := by decide +kernel
theorem dX5_readCommand_60 : decode cX5_readCommand 60 = .ok (.putfield 190, 3) := by decide +kernel
theorem dX5_readCommand_63 : decode cX5_readCommand 63 = .ok (.aload_n 0, 1) := by decide +kernel
theorem dX5_readCommand_64 : decode cX5_readCommand 64 = .ok (.dup, 1) := by decide +kernel
theorem dX5_readCommand_65 : decode cX5_readCommand 65 = .ok (.getfield 193, 3) := by decide +kernel
theorem dX5_readCommand_68 : decode cX5_readCommand 68 = .ok (.aload_n 0, 1) := by decide +kernel
theorem dX5_readCommand_69 : decode cX5_readCommand 69 = .ok (.getfield 190, 3) := by decide +kernel
theorem dX5_readCommand_72 : decode cX5_readCommand 72 = .ok (.ifCond .eq 7, 3) := by decide +kernel
theorem dX5_readCommand_75 : decode cX5_readCommand 75 = .ok (.iconst 0, 1) := by decide +kernel
theorem dX5_readCommand_76 : decode cX5_readCommand 76 = .ok (.goto 4, 3) := by decide +kernel
theorem dX5_readCommand_79 : decode cX5_readCommand 79 = .ok (.iconst 1, 1) := by decide +kernel
theorem dX5_readCommand_80 : decode cX5_readCommand 80 = .ok (.iadd, 1) := by decide +kernel
theorem dX5_readCommand_81 : decode cX5_readCommand 81 = .ok (.putfield 193, 3) := by decide +kernel
theorem dX5_readCommand_84 : decode cX5_readCommand 84 = .ok (.aload_n 0, 1) := by decide +kernel
theorem dX5_readCommand_85 : decode cX5_readCommand 85 = .ok (.aload_n 0, 1) := by decide +kernel
theorem dX5_readCommand_86 : decode cX5_readCommand 86 = .ok (.invokevirtual 202, 3) := by decide +kernel
theorem dX5_readCommand_89 : decode cX5_readCommand 89 = .ok (.putfield 218, 3) := by decide +kernel
theorem dX5_readCommand_92 : decode cX5_readCommand 92 = .ok (.aload_n 0, 1) := by decide +kernel
theorem dX5_readCommand_93 : decode cX5_readCommand 93 = .ok (.getfield 208, 3) := by decide +kernel
theorem dX5_readCommand_96 : decode cX5_readCommand 96 = .ok (.lookupswitch 69 #[(99, 53), (106, 53), (117, 62), (119, 44)], 44) := by decide +kernel
theorem dX5_readCommand_140 : decode cX5_readCommand 140 = .ok (.aload_n 0, 1) := by decide +kernel
theorem dX5_readCommand_141 : decode cX5_readCommand 141 = .ok (.bipush 61, 2) := by decide +kernel
theorem dX5_readCommand_143 : decode cX5_readCommand 143 = .ok (.invokevirtual 221, 3) := by decide +kernel
theorem dX5_readCommand_146 : decode cX5_readCommand 146 = .ok (.goto 24, 3) := by decide +kernel
theorem dX5_readCommand_149 : decode cX5_readCommand 149 = .ok (.aload_n 0, 1) := by decide +kernel
theorem dX5_readCommand_150 : decode cX5_readCommand 150 = .ok (.bipush 126, 2) := by decide +kernel
theorem dX5_readCommand_152 : decode cX5_readCommand 152 = .ok (.invokevirtual 221, 3) := by decide +kernel
theorem dX5_readCommand_155 : decode cX5_readCommand 155 = .ok (.goto 15, 3) := by decide +kernel
theorem dX5_readCommand_158 : decode cX5_readCommand 158 = .ok (.aload_n 0, 1) := by decide +kernel
theorem dX5_readCommand_159 : decode cX5_readCommand 159 = .ok (.invokevirtual 224, 3) := by decide +kernel
theorem dX5_readCommand_162 : decode cX5_readCommand 162 = .ok (.goto 8, 3) := by decide +kernel
theorem dX5_readCommand_165 : decode cX5_readCommand 165 = .ok (.aload_n 0, 1) := by decide +kernel
theorem dX5_readCommand_166 : decode cX5_readCommand 166 = .ok (.iconst 0, 1) := by decide +kernel
theorem dX5_readCommand_167 : decode cX5_readCommand 167 = .ok (.putfield 205, 3) := by decide +kernel
theorem dX5_readCommand_170 : decode cX5_readCommand 170 = .ok (.return_, 1) := by decide +kernel
theorem dX5_countCommands_0 : decode cX5_countCommands 0 = .ok (.aload_n 0, 1) := by decide +kernel
theorem dX5_countCommands_1 : decode cX5_countCommands 1 = .ok (.iconst 0, 1) := by decide +kernel
theorem dX5_countCommands_2 : decode cX5_countCommands 2 = .ok (.putfield 193, 3) := by decide +kernel
theorem dX5_countCommands_5 : decode cX5_countCommands 5 = .ok (.aload_n 0, 1) := by decide +kernel
theorem dX5_countCommands_6 : decode cX5_countCommands 6 = .ok (.iconst 0, 1) := by decide +kernel
theorem dX5_countCommands_7 : decode cX5_countCommands 7 = .ok (.putfield 190, 3) := by decide +kernel
theorem dX5_countCommands_10 : decode cX5_countCommands 10 = .ok (.iconst 1, 1) := by decide +kernel
theorem dX5_countCommands_11 : decode cX5_countCommands 11 = .ok (.istore_n 1, 1) := by decide +kernel
theorem dX5_countCommands_12 : decode cX5_countCommands 12 = .ok (.aload_n 0, 1) := by decide +kernel
theorem dX5_countCommands_13 : decode cX5_countCommands 13 = .ok (.invokevirtual 227, 3) := by decide +kernel
theorem dX5_countCommands_16 : decode cX5_countCommands 16 = .ok (.aload_n 0, 1) := by decide +kernel
theorem dX5_countCommands_17 : decode cX5_countCommands 17 = .ok (.getfield 190, 3) := by decide +kernel
theorem dX5_countCommands_20 : decode cX5_countCommands 20 = .ok (.ifCond .ne 30, 3) := by decide +kernel
theorem dX5_countCommands_23 : decode cX5_countCommands 23 = .ok (.aload_n 0, 1) := by decide +kernel
theorem dX5_countCommands_24 : decode cX5_countCommands 24 = .ok (.getfield 193, 3) := by decide +kernel
theorem dX5_countCommands_27 : decode cX5_countCommands 27 = .ok (.aload_n 0, 1) := by decide +kernel
theorem dX5_countCommands_28 : decode cX5_countCommands 28 = .ok (.getfield 187, 3) := by decide +kernel
theorem dX5_countCommands_31 : decode cX5_countCommands 31 = .ok (.if_icmp .ge 19, 3) := by decide +kernel
theorem dX5_countCommands_34 : decode cX5_countCommands 34 = .ok (.aload_n 0, 1) := by decide +kernel
theorem dX5_countCommands_35 : decode cX5_countCommands 35 = .ok (.bipush 59, 2) := by decide +kernel
theorem dX5_countCommands_37 : decode cX5_countCommands 37 = .ok (.invokevirtual 199, 3) := by decide +kernel
theorem dX5_countCommands_40 : decode cX5_countCommands 40 = .ok (.aload_n 0, 1) := by decide +kernel
theorem dX5_countCommands_41 : decode cX5_countCommands 41 = .ok (.invokevirtual 227, 3) := by decide +kernel
theorem dX5_countCommands_44 : decode cX5_countCommands 44 = .ok (.iinc 1 1, 3) := by decide +kernel
theorem dX5_countCommands_47 : decode cX5_countCommands 47 = .ok (.goto (-31), 3) := by decide +kernel
theorem dX5_countCommands_50 : decode cX5_countCommands 50 = .ok (.iload_n 1, 1) := by decide +kernel
theorem dX5_countCommands_51 : decode cX5_countCommands 51 = .ok (.ireturn, 1) := by decide +kernel
theorem dX5_carryOut_0 : decode cX5_carryOut 0 = .ok (.aload_n 0, 1) := by decide +kernel
theorem dX5_carryOut_1 : decode cX5_carryOut 1 = .ok (.getfield 208, 3) := by decide +kernel
theorem dX5_carryOut_4 : decode cX5_carryOut 4 = .ok (.lookupswitch 109 #[(98, 52), (99, 87), (106, 74), (116, 100), (119, 61)], 52) := by decide +kernel
theorem dX5_carryOut_56 : decode cX5_carryOut 56 = .ok (.aload_n 0, 1) := by decide +kernel
theorem dX5_carryOut_57 : decode cX5_carryOut 57 = .ok (.aload_n 0, 1) := by decide +kernel
theorem dX5_carryOut_58 : decode cX5_carryOut 58 = .ok (.getfield 218, 3) := by decide +kernel
theorem dX5_carryOut_61 : decode cX5_carryOut 61 = .ok (.invokevirtual 230, 3) := by decide +kernel
theorem dX5_carryOut_64 : decode cX5_carryOut 64 = .ok (.ireturn, 1) := by decide +kernel
theorem dX5_carryOut_65 : decode cX5_carryOut 65 = .ok (.aload_n 0, 1) := by decide +kernel
theorem dX5_carryOut_66 : decode cX5_carryOut 66 = .ok (.aload_n 0, 1) := by decide +kernel
theorem dX5_carryOut_67 : decode cX5_carryOut 67 = .ok (.getfield 218, 3) := by decide +kernel
theorem dX5_carryOut_70 : decode cX5_carryOut 70 = .ok (.aload_n 0, 1) := by decide +kernel
theorem dX5_carryOut_71 : decode cX5_carryOut 71 = .ok (.getfield 205, 3) := by decide +kernel
theorem dX5_carryOut_74 : decode cX5_carryOut 74 = .ok (.invokevirtual 233, 3) := by decide +kernel
theorem dX5_carryOut_77 : decode cX5_carryOut 77 = .ok (.ireturn, 1) := by decide +kernel
theorem dX5_carryOut_78 : decode cX5_carryOut 78 = .ok (.aload_n 0, 1) := by decide +kernel
theorem dX5_carryOut_79 : decode cX5_carryOut 79 = .ok (.aload_n 0, 1) := by decide +kernel
theorem dX5_carryOut_80 : decode cX5_carryOut 80 = .ok (.getfield 218, 3) := by decide +kernel
theorem dX5_carryOut_83 : decode cX5_carryOut 83 = .ok (.aload_n 0, 1) := by decide +kernel
theorem dX5_carryOut_84 : decode cX5_carryOut 84 = .ok (.getfield 205, 3) := by decide +kernel
theorem dX5_carryOut_87 : decode cX5_carryOut 87 = .ok (.invokevirtual 236, 3) := by decide +kernel
theorem dX5_carryOut_90 : decode cX5_carryOut 90 = .ok (.ireturn, 1) := by decide +kernel
theorem dX5_carryOut_91 : decode cX5_carryOut 91 = .ok (.aload_n 0, 1) := by decide +kernel
theorem dX5_carryOut_92 : decode cX5_carryOut 92 = .ok (.aload_n 0, 1) := by decide +kernel
theorem dX5_carryOut_93 : decode cX5_carryOut 93 = .ok (.getfield 218, 3) := by decide +kernel
theorem dX5_carryOut_96 : decode cX5_carryOut 96 = .ok (.aload_n 0, 1) := by decide +kernel
theorem dX5_carryOut_97 : decode cX5_carryOut 97 = .ok (.getfield 205, 3) := by decide +kernel
theorem dX5_carryOut_100 : decode cX5_carryOut 100 = .ok (.invokevirtual 239, 3) := by decide +kernel
theorem dX5_carryOut_103 : decode cX5_carryOut 103 = .ok (.ireturn, 1) := by decide +kernel
theorem dX5_carryOut_104 : decode cX5_carryOut 104 = .ok (.aload_n 0, 1) := by decide +kernel
theorem dX5_carryOut_105 : decode cX5_carryOut 105 = .ok (.aload_n 0, 1) := by decide +kernel
theorem dX5_carryOut_106 : decode cX5_carryOut 106 = .ok (.getfield 218, 3) := by decide +kernel
theorem dX5_carryOut_109 : decode cX5_carryOut 109 = .ok (.invokevirtual 242, 3) := by decide +kernel
theorem dX5_carryOut_112 : decode cX5_carryOut 112 = .ok (.ireturn, 1) := by decide +kernel
theorem dX5_carryOut_113 : decode cX5_carryOut 113 = .ok (.aload_n 0, 1) := by decide +kernel
theorem dX5_carryOut_114 : decode cX5_carryOut 114 = .ok (.aload_n 0, 1) := by decide +kernel
theorem dX5_carryOut_115 : decode cX5_carryOut 115 = .ok (.getfield 218, 3) := by decide +kernel
theorem dX5_carryOut_118 : decode cX5_carryOut 118 = .ok (.aload_n 0, 1) := by decide +kernel
theorem dX5_carryOut_119 : decode cX5_carryOut 119 = .ok (.getfield 205, 3) := by decide +kernel
theorem dX5_carryOut_122 : decode cX5_carryOut 122 = .ok (.invokevirtual 245, 3) := by decide +kernel
theorem dX5_carryOut_125 : decode cX5_carryOut 125 = .ok (.ireturn, 1) := by decide +kernel
theorem dX5_read_0 : decode cX5_read 0 = .ok (.aload_n 0, 1) := by decide +kernel
theorem dX5_read_1 : decode cX5_read 1 = .ok (.invokevirtual 248, 3) := by decide +kernel
theorem dX5_read_4 : decode cX5_read 4 = .ok (.istore_n 1, 1) := by decide +kernel
theorem dX5_read_5 : decode cX5_read 5 = .ok (.aload_n 0, 1) := by decide +kernel
theorem dX5_read_6 : decode cX5_read 6 = .ok (.getfield 190, 3) := by decide +kernel
theorem dX5_read_9 : decode cX5_read 9 = .ok (.ifCond .eq 16, 3) := by decide +kernel
theorem dX5_read_12 : decode cX5_read 12 = .ok (.aload_n 0, 1) := by decide +kernel
theorem dX5_read_13 : decode cX5_read 13 = .ok (.iconst 0, 1) := by decide +kernel
theorem dX5_read_14 : decode cX5_read 14 = .ok (.putfield 187, 3) := by decide +kernel
theorem dX5_read_17 : decode cX5_read 17 = .ok (.bipush (-100), 2) := by decide +kernel
theorem dX5_read_19 : decode cX5_read 19 = .ok (.aload_n 0, 1) := by decide +kernel
theorem dX5_read_20 : decode cX5_read 20 = .ok (.getfield 193, 3) := by decide +kernel
theorem dX5_read_23 : decode cX5_read 23 = .ok (.isub, 1) := by decide +kernel
theorem dX5_read_24 : decode cX5_read 24 = .ok (.ireturn, 1) := by decide +kernel
theorem dX5_read_25 : decode cX5_read 25 = .ok (.aload_n 0, 1) := by decide +kernel
theorem dX5_read_26 : decode cX5_read 26 = .ok (.getfield 9, 3) := by decide +kernel
theorem dX5_read_29 : decode cX5_read 29 = .ok (.aload_n 0, 1) := by decide +kernel
theorem dX5_read_30 : decode cX5_read 30 = .ok (.getfield 16, 3) := by decide +kernel
theorem dX5_read_33 : decode cX5_read 33 = .ok (.invokestatic 54, 3) := by decide +kernel
theorem dX5_read_36 : decode cX5_read 36 = .ok (.aload_n 0, 1) := by decide +kernel
theorem dX5_read_37 : decode cX5_read 37 = .ok (.iconst 1, 1) := by decide +kernel
theorem dX5_read_38 : decode cX5_read 38 = .ok (.putfield 44, 3) := by decide +kernel
theorem dX5_read_41 : decode cX5_read 41 = .ok (.iconst 0, 1) := by decide +kernel
theorem dX5_read_42 : decode cX5_read 42 = .ok (.istore_n 2, 1) := by decide +kernel
theorem dX5_read_43 : decode cX5_read 43 = .ok (.aload_n 0, 1) := by decide +kernel
theorem dX5_read_44 : decode cX5_read 44 = .ok (.iconst 0, 1) := by decide +kernel
theorem dX5_read_45 : decode cX5_read 45 = .ok (.putfield 193, 3) := by decide +kernel
theorem dX5_read_48 : decode cX5_read 48 = .ok (.iconst 0, 1) := by decide +kernel
theorem dX5_read_49 : decode cX5_read 49 = .ok (.istore_n 3, 1) := by decide +kernel
theorem dX5_read_50 : decode cX5_read 50 = .ok (.iload_n 3, 1) := by decide +kernel
theorem dX5_read_51 : decode cX5_read 51 = .ok (.iload_n 1, 1) := by decide +kernel
theorem dX5_read_52 : decode cX5_read 52 = .ok (.if_icmp .ge 37, 3) := by decide +kernel
theorem dX5_read_55 : decode cX5_read 55 = .ok (.iload_n 2, 1) := by decide +kernel
theorem dX5_read_56 : decode cX5_read 56 = .ok (.ifCond .lt 33, 3) := by decide +kernel
theorem dX5_read_59 : decode cX5_read 59 = .ok (.aload_n 0, 1) := by decide +kernel
theorem dX5_read_60 : decode cX5_read 60 = .ok (.iload_n 3, 1) := by decide +kernel
theorem dX5_read_61 : decode cX5_read 61 = .ok (.putfield 48, 3) := by decide +kernel
theorem dX5_read_64 : decode cX5_read 64 = .ok (.aload_n 0, 1) := by decide +kernel
theorem dX5_read_65 : decode cX5_read 65 = .ok (.invokevirtual 227, 3) := by decide +kernel
theorem dX5_read_68 : decode cX5_read 68 = .ok (.aload_n 0, 1) := by decide +kernel
theorem dX5_read_69 : decode cX5_read 69 = .ok (.dup, 1) := by decide +kernel
theorem dX5_read_70 : decode cX5_read 70 = .ok (.getfield 193, 3) := by decide +kernel
theorem dX5_read_73 : decode cX5_read 73 = .ok (.iconst 1, 1) := by decide +kernel
theorem dX5_read_74 : decode cX5_read 74 = .ok (.iadd, 1) := by decide +kernel
theorem dX5_read_75 : decode cX5_read 75 = .ok (.putfield 193, 3) := by decide +kernel
theorem dX5_read_78 : decode cX5_read 78 = .ok (.aload_n 0, 1) := by decide +kernel
theorem dX5_read_79 : decode cX5_read 79 = .ok (.invokevirtual 251, 3) := by decide +kernel
theorem dX5_read_82 : decode cX5_read 82 = .ok (.istore_n 2, 1) := by decide +kernel
theorem dX5_read_83 : decode cX5_read 83 = .ok (.iinc 3 1, 3) := by decide +kernel
theorem dX5_read_86 : decode cX5_read 86 = .ok (.goto (-36), 3) := by decide +kernel
theorem dX5_read_89 : decode cX5_read 89 = .ok (.aload_n 0, 1) := by decide +kernel
theorem dX5_read_90 : decode cX5_read 90 = .ok (.iconst 0, 1) := by decide +kernel
theorem dX5_read_91 : decode cX5_read 91 = .ok (.putfield 44, 3) := by decide +kernel
theorem dX5_read_94 : decode cX5_read 94 = .ok (.aload_n 0, 1) := by decide +kernel
theorem dX5_read_95 : decode cX5_read 95 = .ok (.iconst 0, 1) := by decide +kernel
theorem dX5_read_96 : decode cX5_read 96 = .ok (.putfield 187, 3) := by decide +kernel
theorem dX5_read_99 : decode cX5_read 99 = .ok (.iload_n 2, 1) := by decide +kernel
theorem dX5_read_100 : decode cX5_read 100 = .ok (.ifCond .ge 28, 3) := by decide +kernel
theorem dX5_read_103 : decode cX5_read 103 = .ok (.aload_n 0, 1) := by decide +kernel
theorem dX5_read_104 : decode cX5_read 104 = .ok (.getfield 16, 3) := by decide +kernel
theorem dX5_read_107 : decode cX5_read 107 = .ok (.aload_n 0, 1) := by decide +kernel
theorem dX5_read_108 : decode cX5_read 108 = .ok (.getfield 9, 3) := by decide +kernel
theorem dX5_read_111 : decode cX5_read 111 = .ok (.invokestatic 54, 3) := by decide +kernel
theorem dX5_read_114 : decode cX5_read 114 = .ok (.iload_n 2, 1) := by decide +kernel
theorem dX5_read_115 : decode cX5_read 115 = .ok (.bipush (-3), 2) := by decide +kernel
theorem dX5_read_117 : decode cX5_read 117 = .ok (.if_icmp .ne 8, 3) := by decide +kernel
theorem dX5_read_120 : decode cX5_read 120 = .ok (.bipush (-3), 2) := by decide +kernel
theorem dX5_read_122 : decode cX5_read 122 = .ok (.goto 5, 3) := by decide +kernel
theorem dX5_read_125 : decode cX5_read 125 = .ok (.bipush (-2), 2) := by decide +kernel
theorem dX5_read_127 : decode cX5_read 127 = .ok (.ireturn, 1) := by decide +kernel
theorem dX5_read_128 : decode cX5_read 128 = .ok (.aload_n 0, 1) := by decide +kernel
theorem dX5_read_129 : decode cX5_read 129 = .ok (.aload_n 0, 1) := by decide +kernel
theorem dX5_read_130 : decode cX5_read 130 = .ok (.getfield 16, 3) := by decide +kernel
theorem dX5_read_133 : decode cX5_read 133 = .ok (.invokevirtual 58, 3) := by decide +kernel
theorem dX5_read_136 : decode cX5_read 136 = .ok (.iload_n 1, 1) := by decide +kernel
theorem dX5_read_137 : decode cX5_read 137 = .ok (.ireturn, 1) := by decide +kernel
theorem dX5_refusal_0 : decode cX5_refusal 0 = .ok (.iload_n 1, 1) := by decide +kernel
theorem dX5_refusal_1 : decode cX5_refusal 1 = .ok (.iconst 0, 1) := by decide +kernel
theorem dX5_refusal_2 : decode cX5_refusal 2 = .ok (.iconst 2, 1) := by decide +kernel
theorem dX5_refusal_3 : decode cX5_refusal 3 = .ok (.invokestatic 62, 3) := by decide +kernel
theorem dX5_refusal_6 : decode cX5_refusal 6 = .ok (.ifCond .ne 6, 3) := by decide +kernel
theorem dX5_refusal_9 : decode cX5_refusal 9 = .ok (.bipush (-2), 2) := by decide +kernel
theorem dX5_refusal_11 : decode cX5_refusal 11 = .ok (.ireturn, 1) := by decide +kernel
theorem dX5_refusal_12 : decode cX5_refusal 12 = .ok (.aload_n 0, 1) := by decide +kernel
theorem dX5_refusal_13 : decode cX5_refusal 13 = .ok (.getfield 38, 3) := by decide +kernel
theorem dX5_refusal_16 : decode cX5_refusal 16 = .ok (.ifCond .eq 15, 3) := by decide +kernel
theorem dX5_refusal_19 : decode cX5_refusal 19 = .ok (.iload_n 1, 1) := by decide +kernel
theorem dX5_refusal_20 : decode cX5_refusal 20 = .ok (.iconst 2, 1) := by decide +kernel
theorem dX5_refusal_21 : decode cX5_refusal 21 = .ok (.if_icmp .ne 13, 3) := by decide +kernel
theorem dX5_refusal_24 : decode cX5_refusal 24 = .ok (.aload_n 0, 1) := by decide +kernel
theorem dX5_refusal_25 : decode cX5_refusal 25 = .ok (.getfield 24, 3) := by decide +kernel
theorem dX5_refusal_28 : decode cX5_refusal 28 = .ok (.ifCond .ge 6, 3) := by decide +kernel
theorem dX5_refusal_31 : decode cX5_refusal 31 = .ok (.bipush (-4), 2) := by decide +kernel
theorem dX5_refusal_33 : decode cX5_refusal 33 = .ok (.ireturn, 1) := by decide +kernel
theorem dX5_refusal_34 : decode cX5_refusal 34 = .ok (.iload_n 1, 1) := by decide +kernel
theorem dX5_refusal_35 : decode cX5_refusal 35 = .ok (.ifCond .ne 10, 3) := by decide +kernel
theorem dX5_refusal_38 : decode cX5_refusal 38 = .ok (.aload_n 0, 1) := by decide +kernel
theorem dX5_refusal_39 : decode cX5_refusal 39 = .ok (.getfield 38, 3) := by decide +kernel
theorem dX5_refusal_42 : decode cX5_refusal 42 = .ok (.goto 19, 3) := by decide +kernel
theorem dX5_refusal_45 : decode cX5_refusal 45 = .ok (.iload_n 1, 1) := by decide +kernel
theorem dX5_refusal_46 : decode cX5_refusal 46 = .ok (.iconst 1, 1) := by decide +kernel
theorem dX5_refusal_47 : decode cX5_refusal 47 = .ok (.if_icmp .ne 10, 3) := by decide +kernel
theorem dX5_refusal_50 : decode cX5_refusal 50 = .ok (.aload_n 0, 1) := by decide +kernel
theorem dX5_refusal_51 : decode cX5_refusal 51 = .ok (.getfield 41, 3) := by decide +kernel
theorem dX5_refusal_54 : decode cX5_refusal 54 = .ok (.goto 7, 3) := by decide +kernel
theorem dX5_refusal_57 : decode cX5_refusal 57 = .ok (.aload_n 0, 1) := by decide +kernel
theorem dX5_refusal_58 : decode cX5_refusal 58 = .ok (.getfield 24, 3) := by decide +kernel
theorem dX5_refusal_61 : decode cX5_refusal 61 = .ok (.ireturn, 1) := by decide +kernel
theorem dX5_parts_0 : decode cX5_parts 0 = .ok (.iconst 0, 1) := by decide +kernel
theorem dX5_parts_1 : decode cX5_parts 1 = .ok (.istore_n 1, 1) := by decide +kernel
theorem dX5_parts_2 : decode cX5_parts 2 = .ok (.iconst 0, 1) := by decide +kernel
theorem dX5_parts_3 : decode cX5_parts 3 = .ok (.istore_n 2, 1) := by decide +kernel
theorem dX5_parts_4 : decode cX5_parts 4 = .ok (.iload_n 2, 1) := by decide +kernel
theorem dX5_parts_5 : decode cX5_parts 5 = .ok (.bipush 12, 2) := by decide +kernel
theorem dX5_parts_7 : decode cX5_parts 7 = .ok (.if_icmp .ge 25, 3) := by decide +kernel
theorem dX5_parts_10 : decode cX5_parts 10 = .ok (.iload_n 1, 1) := by decide +kernel
theorem dX5_parts_11 : decode cX5_parts 11 = .ok (.aload_n 0, 1) := by decide +kernel
theorem dX5_parts_12 : decode cX5_parts 12 = .ok (.iload_n 2, 1) := by decide +kernel
theorem dX5_parts_13 : decode cX5_parts 13 = .ok (.invokevirtual 66, 3) := by decide +kernel
theorem dX5_parts_16 : decode cX5_parts 16 = .ok (.ifCond .le 7, 3) := by decide +kernel
theorem dX5_parts_19 : decode cX5_parts 19 = .ok (.iconst 1, 1) := by decide +kernel
theorem dX5_parts_20 : decode cX5_parts 20 = .ok (.goto 4, 3) := by decide +kernel
theorem dX5_parts_23 : decode cX5_parts 23 = .ok (.iconst 0, 1) := by decide +kernel
theorem dX5_parts_24 : decode cX5_parts 24 = .ok (.iadd, 1) := by decide +kernel
theorem dX5_parts_25 : decode cX5_parts 25 = .ok (.istore_n 1, 1) := by decide +kernel
theorem dX5_parts_26 : decode cX5_parts 26 = .ok (.iinc 2 1, 3) := by decide +kernel
theorem dX5_parts_29 : decode cX5_parts 29 = .ok (.goto (-25), 3) := by decide +kernel
theorem dX5_parts_32 : decode cX5_parts 32 = .ok (.iload_n 1, 1) := by decide +kernel
theorem dX5_parts_33 : decode cX5_parts 33 = .ok (.ireturn, 1) := by decide +kernel
theorem dX5_allWeights_0 : decode cX5_allWeights 0 = .ok (.iconst 0, 1) := by decide +kernel
theorem dX5_allWeights_1 : decode cX5_allWeights 1 = .ok (.istore_n 1, 1) := by decide +kernel
theorem dX5_allWeights_2 : decode cX5_allWeights 2 = .ok (.iconst 0, 1) := by decide +kernel
theorem dX5_allWeights_3 : decode cX5_allWeights 3 = .ok (.istore_n 2, 1) := by decide +kernel
theorem dX5_allWeights_4 : decode cX5_allWeights 4 = .ok (.iload_n 2, 1) := by decide +kernel
theorem dX5_allWeights_5 : decode cX5_allWeights 5 = .ok (.aload_n 0, 1) := by decide +kernel
theorem dX5_allWeights_6 : decode cX5_allWeights 6 = .ok (.getfield 9, 3) := by decide +kernel
theorem dX5_allWeights_9 : decode cX5_allWeights 9 = .ok (.iconst 0, 1) := by decide +kernel
theorem dX5_allWeights_10 : decode cX5_allWeights 10 = .ok (.iaload, 1) := by decide +kernel
theorem dX5_allWeights_11 : decode cX5_allWeights 11 = .ok (.if_icmp .ge 17, 3) := by decide +kernel
theorem dX5_allWeights_14 : decode cX5_allWeights 14 = .ok (.iload_n 1, 1) := by decide +kernel
theorem dX5_allWeights_15 : decode cX5_allWeights 15 = .ok (.aload_n 0, 1) := by decide +kernel
theorem dX5_allWeights_16 : decode cX5_allWeights 16 = .ok (.iload_n 2, 1) := by decide +kernel
theorem dX5_allWeights_17 : decode cX5_allWeights 17 = .ok (.invokevirtual 103, 3) := by decide +kernel
theorem dX5_allWeights_20 : decode cX5_allWeights 20 = .ok (.iadd, 1) := by decide +kernel
theorem dX5_allWeights_21 : decode cX5_allWeights 21 = .ok (.istore_n 1, 1) := by decide +kernel
theorem dX5_allWeights_22 : decode cX5_allWeights 22 = .ok (.iinc 2 1, 3) := by decide +kernel
theorem dX5_allWeights_25 : decode cX5_allWeights 25 = .ok (.goto (-21), 3) := by decide +kernel
theorem dX5_allWeights_28 : decode cX5_allWeights 28 = .ok (.iload_n 1, 1) := by decide +kernel
theorem dX5_allWeights_29 : decode cX5_allWeights 29 = .ok (.ireturn, 1) := by decide +kernel
theorem dX5_allPlaces_0 : decode cX5_allPlaces 0 = .ok (.iconst 0, 1) := by decide +kernel
theorem dX5_allPlaces_1 : decode cX5_allPlaces 1 = .ok (.istore_n 1, 1) := by decide +kernel
theorem dX5_allPlaces_2 : decode cX5_allPlaces 2 = .ok (.iconst 0, 1) := by decide +kernel
theorem dX5_allPlaces_3 : decode cX5_allPlaces 3 = .ok (.istore_n 2, 1) := by decide +kernel
theorem dX5_allPlaces_4 : decode cX5_allPlaces 4 = .ok (.iload_n 2, 1) := by decide +kernel
theorem dX5_allPlaces_5 : decode cX5_allPlaces 5 = .ok (.bipush 12, 2) := by decide +kernel
theorem dX5_allPlaces_7 : decode cX5_allPlaces 7 = .ok (.if_icmp .ge 17, 3) := by decide +kernel
theorem dX5_allPlaces_10 : decode cX5_allPlaces 10 = .ok (.iload_n 1, 1) := by decide +kernel
theorem dX5_allPlaces_11 : decode cX5_allPlaces 11 = .ok (.aload_n 0, 1) := by decide +kernel
theorem dX5_allPlaces_12 : decode cX5_allPlaces 12 = .ok (.iload_n 2, 1) := by decide +kernel
theorem dX5_allPlaces_13 : decode cX5_allPlaces 13 = .ok (.invokevirtual 66, 3) := by decide +kernel
theorem dX5_allPlaces_16 : decode cX5_allPlaces 16 = .ok (.iadd, 1) := by decide +kernel
theorem dX5_allPlaces_17 : decode cX5_allPlaces 17 = .ok (.istore_n 1, 1) := by decide +kernel
theorem dX5_allPlaces_18 : decode cX5_allPlaces 18 = .ok (.iinc 2 1, 3) := by decide +kernel
theorem dX5_allPlaces_21 : decode cX5_allPlaces 21 = .ok (.goto (-17), 3) := by decide +kernel
theorem dX5_allPlaces_24 : decode cX5_allPlaces 24 = .ok (.iload_n 1, 1) := by decide +kernel
theorem dX5_allPlaces_25 : decode cX5_allPlaces 25 = .ok (.ireturn, 1) := by decide +kernel
theorem dX5_deepest_0 : decode cX5_deepest 0 = .ok (.iconst 0, 1) := by decide +kernel
theorem dX5_deepest_1 : decode cX5_deepest 1 = .ok (.istore_n 1, 1) := by decide +kernel
theorem dX5_deepest_2 : decode cX5_deepest 2 = .ok (.iconst 0, 1) := by decide +kernel
theorem dX5_deepest_3 : decode cX5_deepest 3 = .ok (.istore_n 2, 1) := by decide +kernel
theorem dX5_deepest_4 : decode cX5_deepest 4 = .ok (.iload_n 2, 1) := by decide +kernel
theorem dX5_deepest_5 : decode cX5_deepest 5 = .ok (.bipush 12, 2) := by decide +kernel
theorem dX5_deepest_7 : decode cX5_deepest 7 = .ok (.if_icmp .ge 26, 3) := by decide +kernel
theorem dX5_deepest_10 : decode cX5_deepest 10 = .ok (.aload_n 0, 1) := by decide +kernel
theorem dX5_deepest_11 : decode cX5_deepest 11 = .ok (.iload_n 2, 1) := by decide +kernel
theorem dX5_deepest_12 : decode cX5_deepest 12 = .ok (.invokevirtual 159, 3) := by decide +kernel
theorem dX5_deepest_15 : decode cX5_deepest 15 = .ok (.istore_n 3, 1) := by decide +kernel
theorem dX5_deepest_16 : decode cX5_deepest 16 = .ok (.iload_n 3, 1) := by decide +kernel
theorem dX5_deepest_17 : decode cX5_deepest 17 = .ok (.iload_n 1, 1) := by decide +kernel
theorem dX5_deepest_18 : decode cX5_deepest 18 = .ok (.if_icmp .le 7, 3) := by decide +kernel
theorem dX5_deepest_21 : decode cX5_deepest 21 = .ok (.iload_n 3, 1) := by decide +kernel
theorem dX5_deepest_22 : decode cX5_deepest 22 = .ok (.goto 4, 3) := by decide +kernel
theorem dX5_deepest_25 : decode cX5_deepest 25 = .ok (.iload_n 1, 1) := by decide +kernel
theorem dX5_deepest_26 : decode cX5_deepest 26 = .ok (.istore_n 1, 1) := by decide +kernel
theorem dX5_deepest_27 : decode cX5_deepest 27 = .ok (.iinc 2 1, 3) := by decide +kernel
theorem dX5_deepest_30 : decode cX5_deepest 30 = .ok (.goto (-26), 3) := by decide +kernel
theorem dX5_deepest_33 : decode cX5_deepest 33 = .ok (.iload_n 1, 1) := by decide +kernel
theorem dX5_deepest_34 : decode cX5_deepest 34 = .ok (.ireturn, 1) := by decide +kernel
theorem dX5_account_0 : decode cX5_account 0 = .ok (.iload_n 1, 1) := by decide +kernel
theorem dX5_account_1 : decode cX5_account 1 = .ok (.tableswitch 119 0 10 #[59, 66, 78, 83, 88, 93, 93, 93, 104, 109, 114], 59) := by decide +kernel
theorem dX5_account_60 : decode cX5_account 60 = .ok (.aload_n 0, 1) := by decide +kernel
theorem dX5_account_61 : decode cX5_account 61 = .ok (.getfield 9, 3) := by decide +kernel
theorem dX5_account_64 : decode cX5_account 64 = .ok (.iconst 0, 1) := by decide +kernel
theorem dX5_account_65 : decode cX5_account 65 = .ok (.iaload, 1) := by decide +kernel
theorem dX5_account_66 : decode cX5_account 66 = .ok (.ireturn, 1) := by decide +kernel
theorem dX5_account_67 : decode cX5_account 67 = .ok (.aload_n 0, 1) := by decide +kernel
theorem dX5_account_68 : decode cX5_account 68 = .ok (.getfield 9, 3) := by decide +kernel
theorem dX5_account_71 : decode cX5_account 71 = .ok (.iconst 0, 1) := by decide +kernel
theorem dX5_account_72 : decode cX5_account 72 = .ok (.iaload, 1) := by decide +kernel
theorem dX5_account_73 : decode cX5_account 73 = .ok (.aload_n 0, 1) := by decide +kernel
theorem dX5_account_74 : decode cX5_account 74 = .ok (.invokevirtual 254, 3) := by decide +kernel
theorem dX5_account_77 : decode cX5_account 77 = .ok (.isub, 1) := by decide +kernel
theorem dX5_account_78 : decode cX5_account 78 = .ok (.ireturn, 1) := by decide +kernel
theorem dX5_account_79 : decode cX5_account 79 = .ok (.aload_n 0, 1) := by decide +kernel
theorem dX5_account_80 : decode cX5_account 80 = .ok (.invokevirtual 254, 3) := by decide +kernel
theorem dX5_account_83 : decode cX5_account 83 = .ok (.ireturn, 1) := by decide +kernel
theorem dX5_account_84 : decode cX5_account 84 = .ok (.aload_n 0, 1) := by decide +kernel
theorem dX5_account_85 : decode cX5_account 85 = .ok (.invokevirtual 257, 3) := by decide +kernel
theorem dX5_account_88 : decode cX5_account 88 = .ok (.ireturn, 1) := by decide +kernel
theorem dX5_account_89 : decode cX5_account 89 = .ok (.aload_n 0, 1) := by decide +kernel
theorem dX5_account_90 : decode cX5_account 90 = .ok (.invokevirtual 260, 3) := by decide +kernel
theorem dX5_account_93 : decode cX5_account 93 = .ok (.ireturn, 1) := by decide +kernel
theorem dX5_account_94 : decode cX5_account 94 = .ok (.aload_n 0, 1) := by decide +kernel
theorem dX5_account_95 : decode cX5_account 95 = .ok (.getfield 9, 3) := by decide +kernel
theorem dX5_account_98 : decode cX5_account 98 = .ok (.iconst 1, 1) := by decide +kernel
theorem dX5_account_99 : decode cX5_account 99 = .ok (.iload_n 1, 1) := by decide +kernel
theorem dX5_account_100 : decode cX5_account 100 = .ok (.iadd, 1) := by decide +kernel
theorem dX5_account_101 : decode cX5_account 101 = .ok (.iconst 5, 1) := by decide +kernel
theorem dX5_account_102 : decode cX5_account 102 = .ok (.isub, 1) := by decide +kernel
theorem dX5_account_103 : decode cX5_account 103 = .ok (.iaload, 1) := by decide +kernel
theorem dX5_account_104 : decode cX5_account 104 = .ok (.ireturn, 1) := by decide +kernel
theorem dX5_account_105 : decode cX5_account 105 = .ok (.aload_n 0, 1) := by decide +kernel
theorem dX5_account_106 : decode cX5_account 106 = .ok (.invokevirtual 263, 3) := by decide +kernel
theorem dX5_account_109 : decode cX5_account 109 = .ok (.ireturn, 1) := by decide +kernel
theorem dX5_account_110 : decode cX5_account 110 = .ok (.aload_n 0, 1) := by decide +kernel
theorem dX5_account_111 : decode cX5_account 111 = .ok (.getfield 187, 3) := by decide +kernel
theorem dX5_account_114 : decode cX5_account 114 = .ok (.ireturn, 1) := by decide +kernel
theorem dX5_account_115 : decode cX5_account 115 = .ok (.aload_n 0, 1) := by decide +kernel
theorem dX5_account_116 : decode cX5_account 116 = .ok (.getfield 51, 3) := by decide +kernel
theorem dX5_account_119 : decode cX5_account 119 = .ok (.ireturn, 1) := by decide +kernel
theorem dX5_account_120 : decode cX5_account 120 = .ok (.bipush (-2), 2) := by decide +kernel
theorem dX5_account_122 : decode cX5_account 122 = .ok (.ireturn, 1) := by decide +kernel
theorem dX5_isWell_0 : decode cX5_isWell 0 = .ok (.iconst 1, 1) := by decide +kernel
theorem dX5_isWell_1 : decode cX5_isWell 1 = .ok (.ireturn, 1) := by decide +kernel
theorem dX5_mean_0 : decode cX5_mean 0 = .ok (.iconst 0, 1) := by decide +kernel
theorem dX5_mean_1 : decode cX5_mean 1 = .ok (.istore_n 1, 1) := by decide +kernel
theorem dX5_mean_2 : decode cX5_mean 2 = .ok (.iconst 0, 1) := by decide +kernel
theorem dX5_mean_3 : decode cX5_mean 3 = .ok (.istore_n 2, 1) := by decide +kernel
theorem dX5_mean_4 : decode cX5_mean 4 = .ok (.iload_n 2, 1) := by decide +kernel
theorem dX5_mean_5 : decode cX5_mean 5 = .ok (.aload_n 0, 1) := by decide +kernel
theorem dX5_mean_6 : decode cX5_mean 6 = .ok (.getfield 9, 3) := by decide +kernel
theorem dX5_mean_9 : decode cX5_mean 9 = .ok (.iconst 0, 1) := by decide +kernel
theorem dX5_mean_10 : decode cX5_mean 10 = .ok (.iaload, 1) := by decide +kernel
theorem dX5_mean_11 : decode cX5_mean 11 = .ok (.if_icmp .ge 17, 3) := by decide +kernel
theorem dX5_mean_14 : decode cX5_mean 14 = .ok (.iload_n 1, 1) := by decide +kernel
theorem dX5_mean_15 : decode cX5_mean 15 = .ok (.aload_n 0, 1) := by decide +kernel
theorem dX5_mean_16 : decode cX5_mean 16 = .ok (.iload_n 2, 1) := by decide +kernel
theorem dX5_mean_17 : decode cX5_mean 17 = .ok (.invokevirtual 144, 3) := by decide +kernel
theorem dX5_mean_20 : decode cX5_mean 20 = .ok (.iadd, 1) := by decide +kernel
theorem dX5_mean_21 : decode cX5_mean 21 = .ok (.istore_n 1, 1) := by decide +kernel
theorem dX5_mean_22 : decode cX5_mean 22 = .ok (.iinc 2 1, 3) := by decide +kernel
theorem dX5_mean_25 : decode cX5_mean 25 = .ok (.goto (-21), 3) := by decide +kernel
theorem dX5_mean_28 : decode cX5_mean 28 = .ok (.aload_n 0, 1) := by decide +kernel
theorem dX5_mean_29 : decode cX5_mean 29 = .ok (.getfield 9, 3) := by decide +kernel
theorem dX5_mean_32 : decode cX5_mean 32 = .ok (.iconst 0, 1) := by decide +kernel
theorem dX5_mean_33 : decode cX5_mean 33 = .ok (.iaload, 1) := by decide +kernel
theorem dX5_mean_34 : decode cX5_mean 34 = .ok (.ifCond .ne 8, 3) := by decide +kernel
theorem dX5_mean_37 : decode cX5_mean 37 = .ok (.bipush (-4), 2) := by decide +kernel
theorem dX5_mean_39 : decode cX5_mean 39 = .ok (.goto 16, 3) := by decide +kernel
theorem dX5_mean_42 : decode cX5_mean 42 = .ok (.iload_n 1, 1) := by decide +kernel
theorem dX5_mean_43 : decode cX5_mean 43 = .ok (.i2f, 1) := by decide +kernel
theorem dX5_mean_44 : decode cX5_mean 44 = .ok (.aload_n 0, 1) := by decide +kernel
theorem dX5_mean_45 : decode cX5_mean 45 = .ok (.getfield 9, 3) := by decide +kernel
theorem dX5_mean_48 : decode cX5_mean 48 = .ok (.iconst 0, 1) := by decide +kernel
theorem dX5_mean_49 : decode cX5_mean 49 = .ok (.iaload, 1) := by decide +kernel
theorem dX5_mean_50 : decode cX5_mean 50 = .ok (.i2f, 1) := by decide +kernel
theorem dX5_mean_51 : decode cX5_mean 51 = .ok (.fdiv, 1) := by decide +kernel
theorem dX5_mean_52 : decode cX5_mean 52 = .ok (.invokestatic 266, 3) := by decide +kernel
theorem dX5_mean_55 : decode cX5_mean 55 = .ok (.ireturn, 1) := by decide +kernel
theorem dX5_undo_0 : decode cX5_undo 0 = .ok (.aload_n 0, 1) := by decide +kernel
theorem dX5_undo_1 : decode cX5_undo 1 = .ok (.getfield 51, 3) := by decide +kernel
theorem dX5_undo_4 : decode cX5_undo 4 = .ok (.ifCond .ne 6, 3) := by decide +kernel
theorem dX5_undo_7 : decode cX5_undo 7 = .ok (.bipush (-4), 2) := by decide +kernel
theorem dX5_undo_9 : decode cX5_undo 9 = .ok (.ireturn, 1) := by decide +kernel
theorem dX5_undo_10 : decode cX5_undo 10 = .ok (.aload_n 0, 1) := by decide +kernel
theorem dX5_undo_11 : decode cX5_undo 11 = .ok (.dup, 1) := by decide +kernel
theorem dX5_undo_12 : decode cX5_undo 12 = .ok (.getfield 51, 3) := by decide +kernel
theorem dX5_undo_15 : decode cX5_undo 15 = .ok (.iconst 1, 1) := by decide +kernel
theorem dX5_undo_16 : decode cX5_undo 16 = .ok (.isub, 1) := by decide +kernel
theorem dX5_undo_17 : decode cX5_undo 17 = .ok (.putfield 51, 3) := by decide +kernel
theorem dX5_undo_20 : decode cX5_undo 20 = .ok (.aload_n 0, 1) := by decide +kernel
theorem dX5_undo_21 : decode cX5_undo 21 = .ok (.getfield 21, 3) := by decide +kernel
theorem dX5_undo_24 : decode cX5_undo 24 = .ok (.aload_n 0, 1) := by decide +kernel
theorem dX5_undo_25 : decode cX5_undo 25 = .ok (.getfield 51, 3) := by decide +kernel
theorem dX5_undo_28 : decode cX5_undo 28 = .ok (.aaload, 1) := by decide +kernel
theorem dX5_undo_29 : decode cX5_undo 29 = .ok (.aload_n 0, 1) := by decide +kernel
theorem dX5_undo_30 : decode cX5_undo 30 = .ok (.getfield 9, 3) := by decide +kernel
theorem dX5_undo_33 : decode cX5_undo 33 = .ok (.invokestatic 54, 3) := by decide +kernel
theorem dX5_undo_36 : decode cX5_undo 36 = .ok (.aload_n 0, 1) := by decide +kernel
theorem dX5_undo_37 : decode cX5_undo 37 = .ok (.getfield 51, 3) := by decide +kernel
theorem dX5_undo_40 : decode cX5_undo 40 = .ok (.ireturn, 1) := by decide +kernel
theorem dX5_save_0 : decode cX5_save 0 = .ok (.aload_n 0, 1) := by decide +kernel
theorem dX5_save_1 : decode cX5_save 1 = .ok (.iconst 1, 1) := by decide +kernel
theorem dX5_save_2 : decode cX5_save 2 = .ok (.putfield 272, 3) := by decide +kernel
theorem dX5_save_5 : decode cX5_save 5 = .ok (.aload_n 0, 1) := by decide +kernel
theorem dX5_save_6 : decode cX5_save 6 = .ok (.getfield 9, 3) := by decide +kernel
theorem dX5_save_9 : decode cX5_save 9 = .ok (.aload_n 0, 1) := by decide +kernel
theorem dX5_save_10 : decode cX5_save 10 = .ok (.getfield 13, 3) := by decide +kernel
theorem dX5_save_13 : decode cX5_save 13 = .ok (.invokestatic 54, 3) := by decide +kernel
theorem dX5_save_16 : decode cX5_save 16 = .ok (.aload_n 0, 1) := by decide +kernel
theorem dX5_save_17 : decode cX5_save 17 = .ok (.getfield 9, 3) := by decide +kernel
theorem dX5_save_20 : decode cX5_save 20 = .ok (.iconst 0, 1) := by decide +kernel
theorem dX5_save_21 : decode cX5_save 21 = .ok (.iaload, 1) := by decide +kernel
theorem dX5_save_22 : decode cX5_save 22 = .ok (.ireturn, 1) := by decide +kernel
theorem dX5_restore_0 : decode cX5_restore 0 = .ok (.aload_n 0, 1) := by decide +kernel
theorem dX5_restore_1 : decode cX5_restore 1 = .ok (.getfield 272, 3) := by decide +kernel
theorem dX5_restore_4 : decode cX5_restore 4 = .ok (.ifCond .ne 6, 3) := by decide +kernel
theorem dX5_restore_7 : decode cX5_restore 7 = .ok (.bipush (-4), 2) := by decide +kernel
theorem dX5_restore_9 : decode cX5_restore 9 = .ok (.ireturn, 1) := by decide +kernel
theorem dX5_restore_10 : decode cX5_restore 10 = .ok (.aload_n 0, 1) := by decide +kernel
theorem dX5_restore_11 : decode cX5_restore 11 = .ok (.getfield 13, 3) := by decide +kernel
theorem dX5_restore_14 : decode cX5_restore 14 = .ok (.aload_n 0, 1) := by decide +kernel
theorem dX5_restore_15 : decode cX5_restore 15 = .ok (.getfield 9, 3) := by decide +kernel
theorem dX5_restore_18 : decode cX5_restore 18 = .ok (.invokestatic 54, 3) := by decide +kernel
theorem dX5_restore_21 : decode cX5_restore 21 = .ok (.aload_n 0, 1) := by decide +kernel
theorem dX5_restore_22 : decode cX5_restore 22 = .ok (.iconst 0, 1) := by decide +kernel
theorem dX5_restore_23 : decode cX5_restore 23 = .ok (.putfield 51, 3) := by decide +kernel
theorem dX5_restore_26 : decode cX5_restore 26 = .ok (.aload_n 0, 1) := by decide +kernel
theorem dX5_restore_27 : decode cX5_restore 27 = .ok (.getfield 9, 3) := by decide +kernel
theorem dX5_restore_30 : decode cX5_restore 30 = .ok (.iconst 0, 1) := by decide +kernel
theorem dX5_restore_31 : decode cX5_restore 31 = .ok (.iaload, 1) := by decide +kernel
theorem dX5_restore_32 : decode cX5_restore 32 = .ok (.ireturn, 1) := by decide +kernel
theorem dJ11_isValidCodePoint_9a6ad_0 : decode cJ11_isValidCodePoint_9a6ad 0 = .ok (.iload_n 0, 1) := by decide +kernel
theorem dJ11_isValidCodePoint_9a6ad_1 : decode cJ11_isValidCodePoint_9a6ad 1 = .ok (.bipush 16, 2) := by decide +kernel
theorem dJ11_isValidCodePoint_9a6ad_3 : decode cJ11_isValidCodePoint_9a6ad 3 = .ok (.iushr, 1) := by decide +kernel
theorem dJ11_isValidCodePoint_9a6ad_4 : decode cJ11_isValidCodePoint_9a6ad 4 = .ok (.istore_n 1, 1) := by decide +kernel
theorem dJ11_isValidCodePoint_9a6ad_5 : decode cJ11_isValidCodePoint_9a6ad 5 = .ok (.iload_n 1, 1) := by decide +kernel
theorem dJ11_isValidCodePoint_9a6ad_6 : decode cJ11_isValidCodePoint_9a6ad 6 = .ok (.bipush 17, 2) := by decide +kernel
theorem dJ11_isValidCodePoint_9a6ad_8 : decode cJ11_isValidCodePoint_9a6ad 8 = .ok (.if_icmp .ge 7, 3) := by decide +kernel
theorem dJ11_isValidCodePoint_9a6ad_11 : decode cJ11_isValidCodePoint_9a6ad 11 = .ok (.iconst 1, 1) := by decide +kernel
theorem dJ11_isValidCodePoint_9a6ad_12 : decode cJ11_isValidCodePoint_9a6ad 12 = .ok (.goto 4, 3) := by decide +kernel
theorem dJ11_isValidCodePoint_9a6ad_15 : decode cJ11_isValidCodePoint_9a6ad 15 = .ok (.iconst 0, 1) := by decide +kernel
theorem dJ11_isValidCodePoint_9a6ad_16 : decode cJ11_isValidCodePoint_9a6ad 16 = .ok (.ireturn, 1) := by decide +kernel
theorem dJ11_highSurrogate_5068e_0 : decode cJ11_highSurrogate_5068e 0 = .ok (.iload_n 0, 1) := by decide +kernel
theorem dJ11_highSurrogate_5068e_1 : decode cJ11_highSurrogate_5068e 1 = .ok (.bipush 10, 2) := by decide +kernel
theorem dJ11_highSurrogate_5068e_3 : decode cJ11_highSurrogate_5068e 3 = .ok (.iushr, 1) := by decide +kernel
theorem dJ11_highSurrogate_5068e_4 : decode cJ11_highSurrogate_5068e 4 = .ok (.ldc 110, 2) := by decide +kernel
theorem dJ11_highSurrogate_5068e_6 : decode cJ11_highSurrogate_5068e 6 = .ok (.iadd, 1) := by decide +kernel
theorem dJ11_highSurrogate_5068e_7 : decode cJ11_highSurrogate_5068e 7 = .ok (.i2c, 1) := by decide +kernel
theorem dJ11_highSurrogate_5068e_8 : decode cJ11_highSurrogate_5068e 8 = .ok (.ireturn, 1) := by decide +kernel
theorem dJ11_lowSurrogate_5068e_0 : decode cJ11_lowSurrogate_5068e 0 = .ok (.iload_n 0, 1) := by decide +kernel
theorem dJ11_lowSurrogate_5068e_1 : decode cJ11_lowSurrogate_5068e 1 = .ok (.sipush 1023, 3) := by decide +kernel
theorem dJ11_lowSurrogate_5068e_4 : decode cJ11_lowSurrogate_5068e 4 = .ok (.iand, 1) := by decide +kernel
theorem dJ11_lowSurrogate_5068e_5 : decode cJ11_lowSurrogate_5068e 5 = .ok (.ldc 76, 2) := by decide +kernel
theorem dJ11_lowSurrogate_5068e_7 : decode cJ11_lowSurrogate_5068e 7 = .ok (.iadd, 1) := by decide +kernel
theorem dJ11_lowSurrogate_5068e_8 : decode cJ11_lowSurrogate_5068e 8 = .ok (.i2c, 1) := by decide +kernel
theorem dJ11_lowSurrogate_5068e_9 : decode cJ11_lowSurrogate_5068e 9 = .ok (.ireturn, 1) := by decide +kernel
theorem dJxf58ca_isNaN_12338_0 : decode cJxf58ca_isNaN_12338 0 = .ok (.fload_n 0, 1) := by decide +kernel
theorem dJxf58ca_isNaN_12338_1 : decode cJxf58ca_isNaN_12338 1 = .ok (.fload_n 0, 1) := by decide +kernel
theorem dJxf58ca_isNaN_12338_2 : decode cJxf58ca_isNaN_12338 2 = .ok (.fcmp .l, 1) := by decide +kernel
theorem dJxf58ca_isNaN_12338_3 : decode cJxf58ca_isNaN_12338 3 = .ok (.ifCond .eq 7, 3) := by decide +kernel
theorem dJxf58ca_isNaN_12338_6 : decode cJxf58ca_isNaN_12338 6 = .ok (.iconst 1, 1) := by decide +kernel
theorem dJxf58ca_isNaN_12338_7 : decode cJxf58ca_isNaN_12338 7 = .ok (.goto 4, 3) := by decide +kernel
theorem dJxf58ca_isNaN_12338_10 : decode cJxf58ca_isNaN_12338 10 = .ok (.iconst 0, 1) := by decide +kernel
theorem dJxf58ca_isNaN_12338_11 : decode cJxf58ca_isNaN_12338 11 = .ok (.ireturn, 1) := by decide +kernel
theorem dJxf58ca_floatToIntBits_5c35a_0 : decode cJxf58ca_floatToIntBits_5c35a 0 = .ok (.fload_n 0, 1) := by decide +kernel
theorem dJxf58ca_floatToIntBits_5c35a_1 : decode cJxf58ca_floatToIntBits_5c35a 1 = .ok (.invokestatic 59, 3) := by decide +kernel
theorem dJxf58ca_floatToIntBits_5c35a_4 : decode cJxf58ca_floatToIntBits_5c35a 4 = .ok (.ifCond .ne 8, 3) := by decide +kernel
theorem dJxf58ca_floatToIntBits_5c35a_7 : decode cJxf58ca_floatToIntBits_5c35a 7 = .ok (.fload_n 0, 1) := by decide +kernel
theorem dJxf58ca_floatToIntBits_5c35a_8 : decode cJxf58ca_floatToIntBits_5c35a 8 = .ok (.invokestatic 74, 3) := by decide +kernel
theorem dJxf58ca_floatToIntBits_5c35a_11 : decode cJxf58ca_floatToIntBits_5c35a 11 = .ok (.ireturn, 1) := by decide +kernel
theorem dJxf58ca_floatToIntBits_5c35a_12 : decode cJxf58ca_floatToIntBits_5c35a 12 = .ok (.ldc 77, 2) := by decide +kernel
theorem dJxf58ca_floatToIntBits_5c35a_14 : decode cJxf58ca_floatToIntBits_5c35a 14 = .ok (.ireturn, 1) := by decide +kernel
theorem dJ6_bitCount_0f7a4_0 : decode cJ6_bitCount_0f7a4 0 = .ok (.iload_n 0, 1) := by decide +kernel
theorem dJ6_bitCount_0f7a4_1 : decode cJ6_bitCount_0f7a4 1 = .ok (.iload_n 0, 1) := by decide +kernel
theorem dJ6_bitCount_0f7a4_2 : decode cJ6_bitCount_0f7a4 2 = .ok (.iconst 1, 1) := by decide +kernel
theorem dJ6_bitCount_0f7a4_3 : decode cJ6_bitCount_0f7a4 3 = .ok (.iushr, 1) := by decide +kernel
theorem dJ6_bitCount_0f7a4_4 : decode cJ6_bitCount_0f7a4 4 = .ok (.ldc_w 265, 3) := by decide +kernel
theorem dJ6_bitCount_0f7a4_7 : decode cJ6_bitCount_0f7a4 7 = .ok (.iand, 1) := by decide +kernel
theorem dJ6_bitCount_0f7a4_8 : decode cJ6_bitCount_0f7a4 8 = .ok (.isub, 1) := by decide +kernel
theorem dJ6_bitCount_0f7a4_9 : decode cJ6_bitCount_0f7a4 9 = .ok (.istore_n 0, 1) := by decide +kernel
theorem dJ6_bitCount_0f7a4_10 : decode cJ6_bitCount_0f7a4 10 = .ok (.iload_n 0, 1) := by decide +kernel
theorem dJ6_bitCount_0f7a4_11 : decode cJ6_bitCount_0f7a4 11 = .ok (.ldc_w 266, 3) := by decide +kernel
theorem dJ6_bitCount_0f7a4_14 : decode cJ6_bitCount_0f7a4 14 = .ok (.iand, 1) := by decide +kernel
theorem dJ6_bitCount_0f7a4_15 : decode cJ6_bitCount_0f7a4 15 = .ok (.iload_n 0, 1) := by decide +kernel
theorem dJ6_bitCount_0f7a4_16 : decode cJ6_bitCount_0f7a4 16 = .ok (.iconst 2, 1) := by decide +kernel
theorem dJ6_bitCount_0f7a4_17 : decode cJ6_bitCount_0f7a4 17 = .ok (.iushr, 1) := by decide +kernel
theorem dJ6_bitCount_0f7a4_18 : decode cJ6_bitCount_0f7a4 18 = .ok (.ldc_w 266, 3) := by decide +kernel
theorem dJ6_bitCount_0f7a4_21 : decode cJ6_bitCount_0f7a4 21 = .ok (.iand, 1) := by decide +kernel
theorem dJ6_bitCount_0f7a4_22 : decode cJ6_bitCount_0f7a4 22 = .ok (.iadd, 1) := by decide +kernel
theorem dJ6_bitCount_0f7a4_23 : decode cJ6_bitCount_0f7a4 23 = .ok (.istore_n 0, 1) := by decide +kernel
theorem dJ6_bitCount_0f7a4_24 : decode cJ6_bitCount_0f7a4 24 = .ok (.iload_n 0, 1) := by decide +kernel
theorem dJ6_bitCount_0f7a4_25 : decode cJ6_bitCount_0f7a4 25 = .ok (.iload_n 0, 1) := by decide +kernel
theorem dJ6_bitCount_0f7a4_26 : decode cJ6_bitCount_0f7a4 26 = .ok (.iconst 4, 1) := by decide +kernel
theorem dJ6_bitCount_0f7a4_27 : decode cJ6_bitCount_0f7a4 27 = .ok (.iushr, 1) := by decide +kernel
theorem dJ6_bitCount_0f7a4_28 : decode cJ6_bitCount_0f7a4 28 = .ok (.iadd, 1) := by decide +kernel
theorem dJ6_bitCount_0f7a4_29 : decode cJ6_bitCount_0f7a4 29 = .ok (.ldc_w 267, 3) := by decide +kernel
theorem dJ6_bitCount_0f7a4_32 : decode cJ6_bitCount_0f7a4 32 = .ok (.iand, 1) := by decide +kernel
theorem dJ6_bitCount_0f7a4_33 : decode cJ6_bitCount_0f7a4 33 = .ok (.istore_n 0, 1) := by decide +kernel
theorem dJ6_bitCount_0f7a4_34 : decode cJ6_bitCount_0f7a4 34 = .ok (.iload_n 0, 1) := by decide +kernel
theorem dJ6_bitCount_0f7a4_35 : decode cJ6_bitCount_0f7a4 35 = .ok (.iload_n 0, 1) := by decide +kernel
theorem dJ6_bitCount_0f7a4_36 : decode cJ6_bitCount_0f7a4 36 = .ok (.bipush 8, 2) := by decide +kernel
theorem dJ6_bitCount_0f7a4_38 : decode cJ6_bitCount_0f7a4 38 = .ok (.iushr, 1) := by decide +kernel
theorem dJ6_bitCount_0f7a4_39 : decode cJ6_bitCount_0f7a4 39 = .ok (.iadd, 1) := by decide +kernel
theorem dJ6_bitCount_0f7a4_40 : decode cJ6_bitCount_0f7a4 40 = .ok (.istore_n 0, 1) := by decide +kernel
theorem dJ6_bitCount_0f7a4_41 : decode cJ6_bitCount_0f7a4 41 = .ok (.iload_n 0, 1) := by decide +kernel
theorem dJ6_bitCount_0f7a4_42 : decode cJ6_bitCount_0f7a4 42 = .ok (.iload_n 0, 1) := by decide +kernel
theorem dJ6_bitCount_0f7a4_43 : decode cJ6_bitCount_0f7a4 43 = .ok (.bipush 16, 2) := by decide +kernel
theorem dJ6_bitCount_0f7a4_45 : decode cJ6_bitCount_0f7a4 45 = .ok (.iushr, 1) := by decide +kernel
theorem dJ6_bitCount_0f7a4_46 : decode cJ6_bitCount_0f7a4 46 = .ok (.iadd, 1) := by decide +kernel
theorem dJ6_bitCount_0f7a4_47 : decode cJ6_bitCount_0f7a4 47 = .ok (.istore_n 0, 1) := by decide +kernel
theorem dJ6_bitCount_0f7a4_48 : decode cJ6_bitCount_0f7a4 48 = .ok (.iload_n 0, 1) := by decide +kernel
theorem dJ6_bitCount_0f7a4_49 : decode cJ6_bitCount_0f7a4 49 = .ok (.bipush 63, 2) := by decide +kernel
theorem dJ6_bitCount_0f7a4_51 : decode cJ6_bitCount_0f7a4 51 = .ok (.iand, 1) := by decide +kernel
theorem dJ6_bitCount_0f7a4_52 : decode cJ6_bitCount_0f7a4 52 = .ok (.ireturn, 1) := by decide +kernel
theorem dJ9_abs_0f7a4_0 : decode cJ9_abs_0f7a4 0 = .ok (.iload_n 0, 1) := by decide +kernel
theorem dJ9_abs_0f7a4_1 : decode cJ9_abs_0f7a4 1 = .ok (.ifCond .ge 8, 3) := by decide +kernel
theorem dJ9_abs_0f7a4_4 : decode cJ9_abs_0f7a4 4 = .ok (.iload_n 0, 1) := by decide +kernel
theorem dJ9_abs_0f7a4_5 : decode cJ9_abs_0f7a4 5 = .ok (.ineg, 1) := by decide +kernel
theorem dJ9_abs_0f7a4_6 : decode cJ9_abs_0f7a4 6 = .ok (.goto 4, 3) := by decide +kernel
theorem dJ9_abs_0f7a4_9 : decode cJ9_abs_0f7a4 9 = .ok (.iload_n 0, 1) := by decide +kernel
theorem dJ9_abs_0f7a4_10 : decode cJ9_abs_0f7a4 10 = .ok (.ireturn, 1) := by decide +kernel
theorem dJ9_max_7cf53_0 : decode cJ9_max_7cf53 0 = .ok (.iload_n 0, 1) := by decide +kernel
theorem dJ9_max_7cf53_1 : decode cJ9_max_7cf53 1 = .ok (.iload_n 1, 1) := by decide +kernel
theorem dJ9_max_7cf53_2 : decode cJ9_max_7cf53 2 = .ok (.if_icmp .lt 7, 3) := by decide +kernel
theorem dJ9_max_7cf53_5 : decode cJ9_max_7cf53 5 = .ok (.iload_n 0, 1) := by decide +kernel
theorem dJ9_max_7cf53_6 : decode cJ9_max_7cf53 6 = .ok (.goto 4, 3) := by decide +kernel
theorem dJ9_max_7cf53_9 : decode cJ9_max_7cf53 9 = .ok (.iload_n 1, 1) := by decide +kernel
theorem dJ9_max_7cf53_10 : decode cJ9_max_7cf53 10 = .ok (.ireturn, 1) := by decide +kernel
theorem dJ9_min_7cf53_0 : decode cJ9_min_7cf53 0 = .ok (.iload_n 0, 1) := by decide +kernel
theorem dJ9_min_7cf53_1 : decode cJ9_min_7cf53 1 = .ok (.iload_n 1, 1) := by decide +kernel
theorem dJ9_min_7cf53_2 : decode cJ9_min_7cf53 2 = .ok (.if_icmp .gt 7, 3) := by decide +kernel
theorem dJ9_min_7cf53_5 : decode cJ9_min_7cf53 5 = .ok (.iload_n 0, 1) := by decide +kernel
theorem dJ9_min_7cf53_6 : decode cJ9_min_7cf53 6 = .ok (.goto 4, 3) := by decide +kernel
theorem dJ9_min_7cf53_9 : decode cJ9_min_7cf53 9 = .ok (.iload_n 1, 1) := by decide +kernel
theorem dJ9_min_7cf53_10 : decode cJ9_min_7cf53 10 = .ok (.ireturn, 1) := by decide +kernel
theorem dJ0_length_8abf5_0 : decode cJ0_length_8abf5 0 = .ok (.aload_n 0, 1) := by decide +kernel
theorem dJ0_length_8abf5_1 : decode cJ0_length_8abf5 1 = .ok (.getfield 9, 3) := by decide +kernel
theorem dJ0_length_8abf5_4 : decode cJ0_length_8abf5 4 = .ok (.arraylength, 1) := by decide +kernel
theorem dJ0_length_8abf5_5 : decode cJ0_length_8abf5 5 = .ok (.aload_n 0, 1) := by decide +kernel
theorem dJ0_length_8abf5_6 : decode cJ0_length_8abf5 6 = .ok (.invokevirtual 335, 3) := by decide +kernel
theorem dJ0_length_8abf5_9 : decode cJ0_length_8abf5 9 = .ok (.ishr, 1) := by decide +kernel
theorem dJ0_length_8abf5_10 : decode cJ0_length_8abf5 10 = .ok (.ireturn, 1) := by decide +kernel
theorem dJ0_indexOf_0f7a4_0 : decode cJ0_indexOf_0f7a4 0 = .ok (.aload_n 0, 1) := by decide +kernel
theorem dJ0_indexOf_0f7a4_1 : decode cJ0_indexOf_0f7a4 1 = .ok (.iload_n 1, 1) := by decide +kernel
theorem dJ0_indexOf_0f7a4_2 : decode cJ0_indexOf_0f7a4 2 = .ok (.iconst 0, 1) := by decide +kernel
theorem dJ0_indexOf_0f7a4_3 : decode cJ0_indexOf_0f7a4 3 = .ok (.invokevirtual 633, 3) := by decide +kernel
theorem dJ0_indexOf_0f7a4_6 : decode cJ0_indexOf_0f7a4 6 = .ok (.ireturn, 1) := by decide +kernel
theorem dJ0_indexOf_7cf53_0 : decode cJ0_indexOf_7cf53 0 = .ok (.aload_n 0, 1) := by decide +kernel
theorem dJ0_indexOf_7cf53_1 : decode cJ0_indexOf_7cf53 1 = .ok (.invokevirtual 492, 3) := by decide +kernel
theorem dJ0_indexOf_7cf53_4 : decode cJ0_indexOf_7cf53 4 = .ok (.ifCond .eq 19, 3) := by decide +kernel
theorem dJ0_indexOf_7cf53_7 : decode cJ0_indexOf_7cf53 7 = .ok (.aload_n 0, 1) := by decide +kernel
theorem dJ0_indexOf_7cf53_8 : decode cJ0_indexOf_7cf53 8 = .ok (.getfield 9, 3) := by decide +kernel
theorem dJ0_indexOf_7cf53_11 : decode cJ0_indexOf_7cf53 11 = .ok (.iload_n 1, 1) := by decide +kernel
theorem dJ0_indexOf_7cf53_12 : decode cJ0_indexOf_7cf53 12 = .ok (.iload_n 2, 1) := by decide +kernel
theorem dJ0_indexOf_7cf53_13 : decode cJ0_indexOf_7cf53 13 = .ok (.aload_n 0, 1) := by decide +kernel
theorem dJ0_indexOf_7cf53_14 : decode cJ0_indexOf_7cf53 14 = .ok (.invokevirtual 505, 3) := by decide +kernel
theorem dJ0_indexOf_7cf53_17 : decode cJ0_indexOf_7cf53 17 = .ok (.invokestatic 637, 3) := by decide +kernel
theorem dJ0_indexOf_7cf53_20 : decode cJ0_indexOf_7cf53 20 = .ok (.goto 16, 3) := by decide +kernel
theorem dJ0_indexOf_7cf53_23 : decode cJ0_indexOf_7cf53 23 = .ok (.aload_n 0, 1) := by decide +kernel
theorem dJ0_indexOf_7cf53_24 : decode cJ0_indexOf_7cf53 24 = .ok (.getfield 9, 3) := by decide +kernel
theorem dJ0_indexOf_7cf53_27 : decode cJ0_indexOf_7cf53 27 = .ok (.iload_n 1, 1) := by decide +kernel
theorem dJ0_indexOf_7cf53_28 : decode cJ0_indexOf_7cf53 28 = .ok (.iload_n 2, 1) := by decide +kernel
theorem dJ0_indexOf_7cf53_29 : decode cJ0_indexOf_7cf53 29 = .ok (.aload_n 0, 1) := by decide +kernel
theorem dJ0_indexOf_7cf53_30 : decode cJ0_indexOf_7cf53 30 = .ok (.invokevirtual 505, 3) := by decide +kernel
theorem dJ0_indexOf_7cf53_33 : decode cJ0_indexOf_7cf53 33 = .ok (.invokestatic 640, 3) := by decide +kernel
theorem dJ0_indexOf_7cf53_36 : decode cJ0_indexOf_7cf53 36 = .ok (.ireturn, 1) := by decide +kernel
theorem dJ0_coder_7d493_0 : decode cJ0_coder_7d493 0 = .ok (.getstatic 38, 3) := by decide +kernel
theorem dJ0_coder_7d493_3 : decode cJ0_coder_7d493 3 = .ok (.ifCond .eq 10, 3) := by decide +kernel
theorem dJ0_coder_7d493_6 : decode cJ0_coder_7d493 6 = .ok (.aload_n 0, 1) := by decide +kernel
theorem dJ0_coder_7d493_7 : decode cJ0_coder_7d493 7 = .ok (.getfield 15, 3) := by decide +kernel
theorem dJ0_coder_7d493_10 : decode cJ0_coder_7d493 10 = .ok (.goto 4, 3) := by decide +kernel
theorem dJ0_coder_7d493_13 : decode cJ0_coder_7d493 13 = .ok (.iconst 1, 1) := by decide +kernel
theorem dJ0_coder_7d493_14 : decode cJ0_coder_7d493 14 = .ok (.ireturn, 1) := by decide +kernel
theorem dJ0_isLatin1_aae02_0 : decode cJ0_isLatin1_aae02 0 = .ok (.getstatic 38, 3) := by decide +kernel
theorem dJ0_isLatin1_aae02_3 : decode cJ0_isLatin1_aae02 3 = .ok (.ifCond .eq 14, 3) := by decide +kernel
theorem dJ0_isLatin1_aae02_6 : decode cJ0_isLatin1_aae02 6 = .ok (.aload_n 0, 1) := by decide +kernel
theorem dJ0_isLatin1_aae02_7 : decode cJ0_isLatin1_aae02 7 = .ok (.getfield 15, 3) := by decide +kernel
theorem dJ0_isLatin1_aae02_10 : decode cJ0_isLatin1_aae02 10 = .ok (.ifCond .ne 7, 3) := by decide +kernel
theorem dJ0_isLatin1_aae02_13 : decode cJ0_isLatin1_aae02 13 = .ok (.iconst 1, 1) := by decide +kernel
theorem dJ0_isLatin1_aae02_14 : decode cJ0_isLatin1_aae02 14 = .ok (.goto 4, 3) := by decide +kernel
theorem dJ0_isLatin1_aae02_17 : decode cJ0_isLatin1_aae02 17 = .ok (.iconst 0, 1) := by decide +kernel
theorem dJ0_isLatin1_aae02_18 : decode cJ0_isLatin1_aae02 18 = .ok (.ireturn, 1) := by decide +kernel
theorem dJ0_checkBoundsBeginEnd_23922_0 : decode cJ0_checkBoundsBeginEnd_23922 0 = .ok (.iload_n 0, 1) := by decide +kernel
theorem dJ0_checkBoundsBeginEnd_23922_1 : decode cJ0_checkBoundsBeginEnd_23922 1 = .ok (.iload_n 1, 1) := by decide +kernel
theorem dJ0_checkBoundsBeginEnd_23922_2 : decode cJ0_checkBoundsBeginEnd_23922 2 = .ok (.iload_n 2, 1) := by decide +kernel
theorem dJ0_checkBoundsBeginEnd_23922_3 : decode cJ0_checkBoundsBeginEnd_23922 3 = .ok (.getstatic 1053, 3) := by decide +kernel
theorem dJ0_checkBoundsBeginEnd_23922_6 : decode cJ0_checkBoundsBeginEnd_23922 6 = .ok (.invokestatic 1062, 3) := by decide +kernel
theorem dJ0_checkBoundsBeginEnd_23922_9 : decode cJ0_checkBoundsBeginEnd_23922 9 = .ok (.pop, 1) := by decide +kernel
theorem dJ0_checkBoundsBeginEnd_23922_10 : decode cJ0_checkBoundsBeginEnd_23922 10 = .ok (.return_, 1) := by decide +kernel
theorem dJ1_canEncode_9a6ad_0 : decode cJ1_canEncode_9a6ad 0 = .ok (.iload_n 0, 1) := by decide +kernel
theorem dJ1_canEncode_9a6ad_1 : decode cJ1_canEncode_9a6ad 1 = .ok (.ifCond .lt 14, 3) := by decide +kernel
theorem dJ1_canEncode_9a6ad_4 : decode cJ1_canEncode_9a6ad 4 = .ok (.iload_n 0, 1) := by decide +kernel
theorem dJ1_canEncode_9a6ad_5 : decode cJ1_canEncode_9a6ad 5 = .ok (.sipush 255, 3) := by decide +kernel
theorem dJ1_canEncode_9a6ad_8 : decode cJ1_canEncode_9a6ad 8 = .ok (.if_icmp .gt 7, 3) := by decide +kernel
theorem dJ1_canEncode_9a6ad_11 : decode cJ1_canEncode_9a6ad 11 = .ok (.iconst 1, 1) := by decide +kernel
theorem dJ1_canEncode_9a6ad_12 : decode cJ1_canEncode_9a6ad 12 = .ok (.goto 4, 3) := by decide +kernel
theorem dJ1_canEncode_9a6ad_15 : decode cJ1_canEncode_9a6ad 15 = .ok (.iconst 0, 1) := by decide +kernel
theorem dJ1_canEncode_9a6ad_16 : decode cJ1_canEncode_9a6ad 16 = .ok (.ireturn, 1) := by decide +kernel
theorem dJ1_indexOf_4cfef_0 : decode cJ1_indexOf_4cfef 0 = .ok (.iload_n 1, 1) := by decide +kernel
theorem dJ1_indexOf_4cfef_1 : decode cJ1_indexOf_4cfef 1 = .ok (.invokestatic 88, 3) := by decide +kernel
theorem dJ1_indexOf_4cfef_4 : decode cJ1_indexOf_4cfef 4 = .ok (.ifCond .ne 5, 3) := by decide +kernel
theorem dJ1_indexOf_4cfef_7 : decode cJ1_indexOf_4cfef 7 = .ok (.iconst (-1), 1) := by decide +kernel
theorem dJ1_indexOf_4cfef_8 : decode cJ1_indexOf_4cfef 8 = .ok (.ireturn, 1) := by decide +kernel
theorem dJ1_indexOf_4cfef_9 : decode cJ1_indexOf_4cfef 9 = .ok (.iload_n 2, 1) := by decide +kernel
theorem dJ1_indexOf_4cfef_10 : decode cJ1_indexOf_4cfef 10 = .ok (.iconst 0, 1) := by decide +kernel
theorem dJ1_indexOf_4cfef_11 : decode cJ1_indexOf_4cfef 11 = .ok (.invokestatic 92, 3) := by decide +kernel
theorem dJ1_indexOf_4cfef_14 : decode cJ1_indexOf_4cfef 14 = .ok (.istore_n 2, 1) := by decide +kernel
theorem dJ1_indexOf_4cfef_15 : decode cJ1_indexOf_4cfef 15 = .ok (.iload_n 3, 1) := by decide +kernel
theorem dJ1_indexOf_4cfef_16 : decode cJ1_indexOf_4cfef 16 = .ok (.aload_n 0, 1) := by decide +kernel
theorem dJ1_indexOf_4cfef_17 : decode cJ1_indexOf_4cfef 17 = .ok (.arraylength, 1) := by decide +kernel
theorem dJ1_indexOf_4cfef_18 : decode cJ1_indexOf_4cfef 18 = .ok (.invokestatic 38, 3) := by decide +kernel
theorem dJ1_indexOf_4cfef_21 : decode cJ1_indexOf_4cfef 21 = .ok (.istore_n 3, 1) := by decide +kernel
theorem dJ1_indexOf_4cfef_22 : decode cJ1_indexOf_4cfef 22 = .ok (.iload_n 2, 1) := by decide +kernel
theorem dJ1_indexOf_4cfef_23 : decode cJ1_indexOf_4cfef 23 = .ok (.iload_n 3, 1) := by decide +kernel
theorem dJ1_indexOf_4cfef_24 : decode cJ1_indexOf_4cfef 24 = .ok (.if_icmp .lt 5, 3) := by decide +kernel
theorem dJ1_indexOf_4cfef_27 : decode cJ1_indexOf_4cfef 27 = .ok (.iconst (-1), 1) := by decide +kernel
theorem dJ1_indexOf_4cfef_28 : decode cJ1_indexOf_4cfef 28 = .ok (.ireturn, 1) := by decide +kernel
theorem dJ1_indexOf_4cfef_29 : decode cJ1_indexOf_4cfef 29 = .ok (.aload_n 0, 1) := by decide +kernel
theorem dJ1_indexOf_4cfef_30 : decode cJ1_indexOf_4cfef 30 = .ok (.iload_n 1, 1) := by decide +kernel
theorem dJ1_indexOf_4cfef_31 : decode cJ1_indexOf_4cfef 31 = .ok (.iload_n 2, 1) := by decide +kernel
theorem dJ1_indexOf_4cfef_32 : decode cJ1_indexOf_4cfef 32 = .ok (.iload_n 3, 1) := by decide +kernel
theorem dJ1_indexOf_4cfef_33 : decode cJ1_indexOf_4cfef 33 = .ok (.invokestatic 95, 3) := by decide +kernel
theorem dJ1_indexOf_4cfef_36 : decode cJ1_indexOf_4cfef 36 = .ok (.ireturn, 1) := by decide +kernel
theorem dJ1_indexOfChar_4cfef_0 : decode cJ1_indexOfChar_4cfef 0 = .ok (.iload_n 1, 1) := by decide +kernel
theorem dJ1_indexOfChar_4cfef_1 : decode cJ1_indexOfChar_4cfef 1 = .ok (.i2b, 1) := by decide +kernel
theorem dJ1_indexOfChar_4cfef_2 : decode cJ1_indexOfChar_4cfef 2 = .ok (.istore 4, 2) := by decide +kernel
theorem dJ1_indexOfChar_4cfef_4 : decode cJ1_indexOfChar_4cfef 4 = .ok (.iload_n 2, 1) := by decide +kernel
theorem dJ1_indexOfChar_4cfef_5 : decode cJ1_indexOfChar_4cfef 5 = .ok (.istore 5, 2) := by decide +kernel
theorem dJ1_indexOfChar_4cfef_7 : decode cJ1_indexOfChar_4cfef 7 = .ok (.iload 5, 2) := by decide +kernel
theorem dJ1_indexOfChar_4cfef_9 : decode cJ1_indexOfChar_4cfef 9 = .ok (.iload_n 3, 1) := by decide +kernel
theorem dJ1_indexOfChar_4cfef_10 : decode cJ1_indexOfChar_4cfef 10 = .ok (.if_icmp .ge 21, 3) := by decide +kernel
theorem dJ1_indexOfChar_4cfef_13 : decode cJ1_indexOfChar_4cfef 13 = .ok (.aload_n 0, 1) := by decide +kernel
theorem dJ1_indexOfChar_4cfef_14 : decode cJ1_indexOfChar_4cfef 14 = .ok (.iload 5, 2) := by decide +kernel
theorem dJ1_indexOfChar_4cfef_16 : decode cJ1_indexOfChar_4cfef 16 = .ok (.baload, 1) := by decide +kernel
theorem dJ1_indexOfChar_4cfef_17 : decode cJ1_indexOfChar_4cfef 17 = .ok (.iload 4, 2) := by decide +kernel
theorem dJ1_indexOfChar_4cfef_19 : decode cJ1_indexOfChar_4cfef 19 = .ok (.if_icmp .ne 6, 3) := by decide +kernel
theorem dJ1_indexOfChar_4cfef_22 : decode cJ1_indexOfChar_4cfef 22 = .ok (.iload 5, 2) := by decide +kernel
theorem dJ1_indexOfChar_4cfef_24 : decode cJ1_indexOfChar_4cfef 24 = .ok (.ireturn, 1) := by decide +kernel
theorem dJ1_indexOfChar_4cfef_25 : decode cJ1_indexOfChar_4cfef 25 = .ok (.iinc 5 1, 3) := by decide +kernel
theorem dJ1_indexOfChar_4cfef_28 : decode cJ1_indexOfChar_4cfef 28 = .ok (.goto (-21), 3) := by decide +kernel
theorem dJ1_indexOfChar_4cfef_31 : decode cJ1_indexOfChar_4cfef 31 = .ok (.iconst (-1), 1) := by decide +kernel
theorem dJ1_indexOfChar_4cfef_32 : decode cJ1_indexOfChar_4cfef 32 = .ok (.ireturn, 1) := by decide +kernel
theorem dJ2_getChar_3b067_0 : decode cJ2_getChar_3b067 0 = .ok (.getstatic 44, 3) := by decide +kernel
theorem dJ2_getChar_3b067_3 : decode cJ2_getChar_3b067 3 = .ok (.ifCond .ne 25, 3) := by decide +kernel
theorem dJ2_getChar_3b067_6 : decode cJ2_getChar_3b067 6 = .ok (.iload_n 1, 1) := by decide +kernel
theorem dJ2_getChar_3b067_7 : decode cJ2_getChar_3b067 7 = .ok (.ifCond .lt 11, 3) := by decide +kernel
theorem dJ2_getChar_3b067_10 : decode cJ2_getChar_3b067 10 = .ok (.iload_n 1, 1) := by decide +kernel
theorem dJ2_getChar_3b067_11 : decode cJ2_getChar_3b067 11 = .ok (.aload_n 0, 1) := by decide +kernel
theorem dJ2_getChar_3b067_12 : decode cJ2_getChar_3b067 12 = .ok (.invokestatic 48, 3) := by decide +kernel
theorem dJ2_getChar_3b067_15 : decode cJ2_getChar_3b067 15 = .ok (.if_icmp .lt 13, 3) := by decide +kernel
theorem dJ2_getChar_3b067_18 : decode cJ2_getChar_3b067 18 = .ok (.new 52, 3) := by decide +kernel
theorem dJ2_getChar_3b067_21 : decode cJ2_getChar_3b067 21 = .ok (.dup, 1) := by decide +kernel
theorem dJ2_getChar_3b067_22 : decode cJ2_getChar_3b067 22 = .ok (.ldc 54, 2) := by decide +kernel
theorem dJ2_getChar_3b067_24 : decode cJ2_getChar_3b067 24 = .ok (.invokespecial 56, 3) := by decide +kernel
theorem dJ2_getChar_3b067_27 : decode cJ2_getChar_3b067 27 = .ok (.athrow, 1) := by decide +kernel
theorem dJ2_getChar_3b067_28 : decode cJ2_getChar_3b067 28 = .ok (.iload_n 1, 1) := by decide +kernel
theorem dJ2_getChar_3b067_29 : decode cJ2_getChar_3b067 29 = .ok (.iconst 1, 1) := by decide +kernel
theorem dJ2_getChar_3b067_30 : decode cJ2_getChar_3b067 30 = .ok (.ishl, 1) := by decide +kernel
theorem dJ2_getChar_3b067_31 : decode cJ2_getChar_3b067 31 = .ok (.istore_n 1, 1) := by decide +kernel
theorem dJ2_getChar_3b067_32 : decode cJ2_getChar_3b067 32 = .ok (.aload_n 0, 1) := by decide +kernel
theorem dJ2_getChar_3b067_33 : decode cJ2_getChar_3b067 33 = .ok (.iload_n 1, 1) := by decide +kernel
theorem dJ2_getChar_3b067_34 : decode cJ2_getChar_3b067 34 = .ok (.iinc 1 1, 3) := by decide +kernel
theorem dJ2_getChar_3b067_37 : decode cJ2_getChar_3b067 37 = .ok (.baload, 1) := by decide +kernel
theorem dJ2_getChar_3b067_38 : decode cJ2_getChar_3b067 38 = .ok (.sipush 255, 3) := by decide +kernel
theorem dJ2_getChar_3b067_41 : decode cJ2_getChar_3b067 41 = .ok (.iand, 1) := by decide +kernel
theorem dJ2_getChar_3b067_42 : decode cJ2_getChar_3b067 42 = .ok (.getstatic 59, 3) := by decide +kernel
theorem dJ2_getChar_3b067_45 : decode cJ2_getChar_3b067 45 = .ok (.ishl, 1) := by decide +kernel
theorem dJ2_getChar_3b067_46 : decode cJ2_getChar_3b067 46 = .ok (.aload_n 0, 1) := by decide +kernel
theorem dJ2_getChar_3b067_47 : decode cJ2_getChar_3b067 47 = .ok (.iload_n 1, 1) := by decide +kernel
theorem dJ2_getChar_3b067_48 : decode cJ2_getChar_3b067 48 = .ok (.baload, 1) := by decide +kernel
theorem dJ2_getChar_3b067_49 : decode cJ2_getChar_3b067 49 = .ok (.sipush 255, 3) := by decide +kernel
theorem dJ2_getChar_3b067_52 : decode cJ2_getChar_3b067 52 = .ok (.iand, 1) := by decide +kernel
theorem dJ2_getChar_3b067_53 : decode cJ2_getChar_3b067 53 = .ok (.getstatic 63, 3) := by decide +kernel
theorem dJ2_getChar_3b067_56 : decode cJ2_getChar_3b067 56 = .ok (.ishl, 1) := by decide +kernel
theorem dJ2_getChar_3b067_57 : decode cJ2_getChar_3b067 57 = .ok (.ior, 1) := by decide +kernel
theorem dJ2_getChar_3b067_58 : decode cJ2_getChar_3b067 58 = .ok (.i2c, 1) := by decide +kernel
theorem dJ2_getChar_3b067_59 : decode cJ2_getChar_3b067 59 = .ok (.ireturn, 1) := by decide +kernel
theorem dJ2_length_9d52b_0 : decode cJ2_length_9d52b 0 = .ok (.aload_n 0, 1) := by decide +kernel
theorem dJ2_length_9d52b_1 : decode cJ2_length_9d52b 1 = .ok (.arraylength, 1) := by decide +kernel
theorem dJ2_length_9d52b_2 : decode cJ2_length_9d52b 2 = .ok (.iconst 1, 1) := by decide +kernel
theorem dJ2_length_9d52b_3 : decode cJ2_length_9d52b 3 = .ok (.ishr, 1) := by decide +kernel
theorem dJ2_length_9d52b_4 : decode cJ2_length_9d52b 4 = .ok (.ireturn, 1) := by decide +kernel
theorem dJ2_indexOf_4cfef_0 : decode cJ2_indexOf_4cfef 0 = .ok (.iload_n 2, 1) := by decide +kernel
theorem dJ2_indexOf_4cfef_1 : decode cJ2_indexOf_4cfef 1 = .ok (.iconst 0, 1) := by decide +kernel
theorem dJ2_indexOf_4cfef_2 : decode cJ2_indexOf_4cfef 2 = .ok (.invokestatic 224, 3) := by decide +kernel
theorem dJ2_indexOf_4cfef_5 : decode cJ2_indexOf_4cfef 5 = .ok (.istore_n 2, 1) := by decide +kernel
theorem dJ2_indexOf_4cfef_6 : decode cJ2_indexOf_4cfef 6 = .ok (.iload_n 3, 1) := by decide +kernel
theorem dJ2_indexOf_4cfef_7 : decode cJ2_indexOf_4cfef 7 = .ok (.aload_n 0, 1) := by decide +kernel
theorem dJ2_indexOf_4cfef_8 : decode cJ2_indexOf_4cfef 8 = .ok (.arraylength, 1) := by decide +kernel
theorem dJ2_indexOf_4cfef_9 : decode cJ2_indexOf_4cfef 9 = .ok (.iconst 1, 1) := by decide +kernel
theorem dJ2_indexOf_4cfef_10 : decode cJ2_indexOf_4cfef 10 = .ok (.ishr, 1) := by decide +kernel
theorem dJ2_indexOf_4cfef_11 : decode cJ2_indexOf_4cfef 11 = .ok (.invokestatic 183, 3) := by decide +kernel
theorem dJ2_indexOf_4cfef_14 : decode cJ2_indexOf_4cfef 14 = .ok (.istore_n 3, 1) := by decide +kernel
theorem dJ2_indexOf_4cfef_15 : decode cJ2_indexOf_4cfef 15 = .ok (.iload_n 2, 1) := by decide +kernel
theorem dJ2_indexOf_4cfef_16 : decode cJ2_indexOf_4cfef 16 = .ok (.iload_n 3, 1) := by decide +kernel
theorem dJ2_indexOf_4cfef_17 : decode cJ2_indexOf_4cfef 17 = .ok (.if_icmp .lt 5, 3) := by decide +kernel
theorem dJ2_indexOf_4cfef_20 : decode cJ2_indexOf_4cfef 20 = .ok (.iconst (-1), 1) := by decide +kernel
theorem dJ2_indexOf_4cfef_21 : decode cJ2_indexOf_4cfef 21 = .ok (.ireturn, 1) := by decide +kernel
theorem dJ2_indexOf_4cfef_22 : decode cJ2_indexOf_4cfef 22 = .ok (.iload_n 1, 1) := by decide +kernel
theorem dJ2_indexOf_4cfef_23 : decode cJ2_indexOf_4cfef 23 = .ok (.ldc 227, 2) := by decide +kernel
theorem dJ2_indexOf_4cfef_25 : decode cJ2_indexOf_4cfef 25 = .ok (.if_icmp .ge 11, 3) := by decide +kernel
theorem dJ2_indexOf_4cfef_28 : decode cJ2_indexOf_4cfef 28 = .ok (.aload_n 0, 1) := by decide +kernel
theorem dJ2_indexOf_4cfef_29 : decode cJ2_indexOf_4cfef 29 = .ok (.iload_n 1, 1) := by decide +kernel
theorem dJ2_indexOf_4cfef_30 : decode cJ2_indexOf_4cfef 30 = .ok (.iload_n 2, 1) := by decide +kernel
theorem dJ2_indexOf_4cfef_31 : decode cJ2_indexOf_4cfef 31 = .ok (.iload_n 3, 1) := by decide +kernel
theorem dJ2_indexOf_4cfef_32 : decode cJ2_indexOf_4cfef 32 = .ok (.invokestatic 228, 3) := by decide +kernel
theorem dJ2_indexOf_4cfef_35 : decode cJ2_indexOf_4cfef 35 = .ok (.ireturn, 1) := by decide +kernel
theorem dJ2_indexOf_4cfef_36 : decode cJ2_indexOf_4cfef 36 = .ok (.aload_n 0, 1) := by decide +kernel
theorem dJ2_indexOf_4cfef_37 : decode cJ2_indexOf_4cfef 37 = .ok (.iload_n 1, 1) := by decide +kernel
theorem dJ2_indexOf_4cfef_38 : decode cJ2_indexOf_4cfef 38 = .ok (.iload_n 2, 1) := by decide +kernel
theorem dJ2_indexOf_4cfef_39 : decode cJ2_indexOf_4cfef 39 = .ok (.iload_n 3, 1) := by decide +kernel
theorem dJ2_indexOf_4cfef_40 : decode cJ2_indexOf_4cfef 40 = .ok (.invokestatic 232, 3) := by decide +kernel
theorem dJ2_indexOf_4cfef_43 : decode cJ2_indexOf_4cfef 43 = .ok (.ireturn, 1) := by decide +kernel
theorem dJ2_indexOfChar_4cfef_0 : decode cJ2_indexOfChar_4cfef 0 = .ok (.iload_n 2, 1) := by decide +kernel
theorem dJ2_indexOfChar_4cfef_1 : decode cJ2_indexOfChar_4cfef 1 = .ok (.iload_n 3, 1) := by decide +kernel
theorem dJ2_indexOfChar_4cfef_2 : decode cJ2_indexOfChar_4cfef 2 = .ok (.aload_n 0, 1) := by decide +kernel
theorem dJ2_indexOfChar_4cfef_3 : decode cJ2_indexOfChar_4cfef 3 = .ok (.invokestatic 96, 3) := by decide +kernel
theorem dJ2_indexOfChar_4cfef_6 : decode cJ2_indexOfChar_4cfef 6 = .ok (.aload_n 0, 1) := by decide +kernel
theorem dJ2_indexOfChar_4cfef_7 : decode cJ2_indexOfChar_4cfef 7 = .ok (.iload_n 1, 1) := by decide +kernel
theorem dJ2_indexOfChar_4cfef_8 : decode cJ2_indexOfChar_4cfef 8 = .ok (.iload_n 2, 1) := by decide +kernel
theorem dJ2_indexOfChar_4cfef_9 : decode cJ2_indexOfChar_4cfef 9 = .ok (.iload_n 3, 1) := by decide +kernel
theorem dJ2_indexOfChar_4cfef_10 : decode cJ2_indexOfChar_4cfef 10 = .ok (.invokestatic 244, 3) := by decide +kernel
theorem dJ2_indexOfChar_4cfef_13 : decode cJ2_indexOfChar_4cfef 13 = .ok (.ireturn, 1) := by decide +kernel
theorem dJ2_indexOfCharUnsafe_4cfef_0 : decode cJ2_indexOfCharUnsafe_4cfef 0 = .ok (.iload_n 2, 1) := by decide +kernel
theorem dJ2_indexOfCharUnsafe_4cfef_1 : decode cJ2_indexOfCharUnsafe_4cfef 1 = .ok (.istore 4, 2) := by decide +kernel
theorem dJ2_indexOfCharUnsafe_4cfef_3 : decode cJ2_indexOfCharUnsafe_4cfef 3 = .ok (.iload 4, 2) := by decide +kernel
theorem dJ2_indexOfCharUnsafe_4cfef_5 : decode cJ2_indexOfCharUnsafe_4cfef 5 = .ok (.iload_n 3, 1) := by decide +kernel
theorem dJ2_indexOfCharUnsafe_4cfef_6 : decode cJ2_indexOfCharUnsafe_4cfef 6 = .ok (.if_icmp .ge 22, 3) := by decide +kernel
theorem dJ2_indexOfCharUnsafe_4cfef_9 : decode cJ2_indexOfCharUnsafe_4cfef 9 = .ok (.aload_n 0, 1) := by decide +kernel
theorem dJ2_indexOfCharUnsafe_4cfef_10 : decode cJ2_indexOfCharUnsafe_4cfef 10 = .ok (.iload 4, 2) := by decide +kernel
theorem dJ2_indexOfCharUnsafe_4cfef_12 : decode cJ2_indexOfCharUnsafe_4cfef 12 = .ok (.invokestatic 71, 3) := by decide +kernel
theorem dJ2_indexOfCharUnsafe_4cfef_15 : decode cJ2_indexOfCharUnsafe_4cfef 15 = .ok (.iload_n 1, 1) := by decide +kernel
theorem dJ2_indexOfCharUnsafe_4cfef_16 : decode cJ2_indexOfCharUnsafe_4cfef 16 = .ok (.if_icmp .ne 6, 3) := by decide +kernel
theorem dJ2_indexOfCharUnsafe_4cfef_19 : decode cJ2_indexOfCharUnsafe_4cfef 19 = .ok (.iload 4, 2) := by decide +kernel
theorem dJ2_indexOfCharUnsafe_4cfef_21 : decode cJ2_indexOfCharUnsafe_4cfef 21 = .ok (.ireturn, 1) := by decide +kernel
theorem dJ2_indexOfCharUnsafe_4cfef_22 : decode cJ2_indexOfCharUnsafe_4cfef 22 = .ok (.iinc 4 1, 3) := by decide +kernel
theorem dJ2_indexOfCharUnsafe_4cfef_25 : decode cJ2_indexOfCharUnsafe_4cfef 25 = .ok (.goto (-22), 3) := by decide +kernel
theorem dJ2_indexOfCharUnsafe_4cfef_28 : decode cJ2_indexOfCharUnsafe_4cfef 28 = .ok (.iconst (-1), 1) := by decide +kernel
theorem dJ2_indexOfCharUnsafe_4cfef_29 : decode cJ2_indexOfCharUnsafe_4cfef 29 = .ok (.ireturn, 1) := by decide +kernel
theorem dJ2_indexOfSupplementary_4cfef_0 : decode cJ2_indexOfSupplementary_4cfef 0 = .ok (.iload_n 1, 1) := by decide +kernel
theorem dJ2_indexOfSupplementary_4cfef_1 : decode cJ2_indexOfSupplementary_4cfef 1 = .ok (.invokestatic 164, 3) := by decide +kernel
theorem dJ2_indexOfSupplementary_4cfef_4 : decode cJ2_indexOfSupplementary_4cfef 4 = .ok (.ifCond .eq 65, 3) := by decide +kernel
theorem dJ2_indexOfSupplementary_4cfef_7 : decode cJ2_indexOfSupplementary_4cfef 7 = .ok (.iload_n 1, 1) := by decide +kernel
theorem dJ2_indexOfSupplementary_4cfef_8 : decode cJ2_indexOfSupplementary_4cfef 8 = .ok (.invokestatic 157, 3) := by decide +kernel
theorem dJ2_indexOfSupplementary_4cfef_11 : decode cJ2_indexOfSupplementary_4cfef 11 = .ok (.istore 4, 2) := by decide +kernel
theorem dJ2_indexOfSupplementary_4cfef_13 : decode cJ2_indexOfSupplementary_4cfef 13 = .ok (.iload_n 1, 1) := by decide +kernel
theorem dJ2_indexOfSupplementary_4cfef_14 : decode cJ2_indexOfSupplementary_4cfef 14 = .ok (.invokestatic 161, 3) := by decide +kernel
theorem dJ2_indexOfSupplementary_4cfef_17 : decode cJ2_indexOfSupplementary_4cfef 17 = .ok (.istore 5, 2) := by decide +kernel
theorem dJ2_indexOfSupplementary_4cfef_19 : decode cJ2_indexOfSupplementary_4cfef 19 = .ok (.iload_n 2, 1) := by decide +kernel
theorem dJ2_indexOfSupplementary_4cfef_20 : decode cJ2_indexOfSupplementary_4cfef 20 = .ok (.iload_n 3, 1) := by decide +kernel
theorem dJ2_indexOfSupplementary_4cfef_21 : decode cJ2_indexOfSupplementary_4cfef 21 = .ok (.aload_n 0, 1) := by decide +kernel
theorem dJ2_indexOfSupplementary_4cfef_22 : decode cJ2_indexOfSupplementary_4cfef 22 = .ok (.invokestatic 96, 3) := by decide +kernel
theorem dJ2_indexOfSupplementary_4cfef_25 : decode cJ2_indexOfSupplementary_4cfef 25 = .ok (.iload_n 2, 1) := by decide +kernel
theorem dJ2_indexOfSupplementary_4cfef_26 : decode cJ2_indexOfSupplementary_4cfef 26 = .ok (.istore 6, 2) := by decide +kernel
theorem dJ2_indexOfSupplementary_4cfef_28 : decode cJ2_indexOfSupplementary_4cfef 28 = .ok (.iload 6, 2) := by decide +kernel
theorem dJ2_indexOfSupplementary_4cfef_30 : decode cJ2_indexOfSupplementary_4cfef 30 = .ok (.iload_n 3, 1) := by decide +kernel
theorem dJ2_indexOfSupplementary_4cfef_31 : decode cJ2_indexOfSupplementary_4cfef 31 = .ok (.iconst 1, 1) := by decide +kernel
theorem dJ2_indexOfSupplementary_4cfef_32 : decode cJ2_indexOfSupplementary_4cfef 32 = .ok (.isub, 1) := by decide +kernel
theorem dJ2_indexOfSupplementary_4cfef_33 : decode cJ2_indexOfSupplementary_4cfef 33 = .ok (.if_icmp .ge 36, 3) := by decide +kernel
theorem dJ2_indexOfSupplementary_4cfef_36 : decode cJ2_indexOfSupplementary_4cfef 36 = .ok (.aload_n 0, 1) := by decide +kernel
theorem dJ2_indexOfSupplementary_4cfef_37 : decode cJ2_indexOfSupplementary_4cfef 37 = .ok (.iload 6, 2) := by decide +kernel
theorem dJ2_indexOfSupplementary_4cfef_39 : decode cJ2_indexOfSupplementary_4cfef 39 = .ok (.invokestatic 71, 3) := by decide +kernel
theorem dJ2_indexOfSupplementary_4cfef_42 : decode cJ2_indexOfSupplementary_4cfef 42 = .ok (.iload 4, 2) := by decide +kernel
theorem dJ2_indexOfSupplementary_4cfef_44 : decode cJ2_indexOfSupplementary_4cfef 44 = .ok (.if_icmp .ne 19, 3) := by decide +kernel
theorem dJ2_indexOfSupplementary_4cfef_47 : decode cJ2_indexOfSupplementary_4cfef 47 = .ok (.aload_n 0, 1) := by decide +kernel
theorem dJ2_indexOfSupplementary_4cfef_48 : decode cJ2_indexOfSupplementary_4cfef 48 = .ok (.iload 6, 2) := by decide +kernel
theorem dJ2_indexOfSupplementary_4cfef_50 : decode cJ2_indexOfSupplementary_4cfef 50 = .ok (.iconst 1, 1) := by decide +kernel
theorem dJ2_indexOfSupplementary_4cfef_51 : decode cJ2_indexOfSupplementary_4cfef 51 = .ok (.iadd, 1) := by decide +kernel
theorem dJ2_indexOfSupplementary_4cfef_52 : decode cJ2_indexOfSupplementary_4cfef 52 = .ok (.invokestatic 71, 3) := by decide +kernel
theorem dJ2_indexOfSupplementary_4cfef_55 : decode cJ2_indexOfSupplementary_4cfef 55 = .ok (.iload 5, 2) := by decide +kernel
theorem dJ2_indexOfSupplementary_4cfef_57 : decode cJ2_indexOfSupplementary_4cfef 57 = .ok (.if_icmp .ne 6, 3) := by decide +kernel
theorem dJ2_indexOfSupplementary_4cfef_60 : decode cJ2_indexOfSupplementary_4cfef 60 = .ok (.iload 6, 2) := by decide +kernel
theorem dJ2_indexOfSupplementary_4cfef_62 : decode cJ2_indexOfSupplementary_4cfef 62 = .ok (.ireturn, 1) := by decide +kernel
theorem dJ2_indexOfSupplementary_4cfef_63 : decode cJ2_indexOfSupplementary_4cfef 63 = .ok (.iinc 6 1, 3) := by decide +kernel
theorem dJ2_indexOfSupplementary_4cfef_66 : decode cJ2_indexOfSupplementary_4cfef 66 = .ok (.goto (-38), 3) := by decide +kernel
theorem dJ2_indexOfSupplementary_4cfef_69 : decode cJ2_indexOfSupplementary_4cfef 69 = .ok (.iconst (-1), 1) := by decide +kernel
theorem dJ2_indexOfSupplementary_4cfef_70 : decode cJ2_indexOfSupplementary_4cfef 70 = .ok (.ireturn, 1) := by decide +kernel
theorem dJ2_checkBoundsBeginEnd_d044e_0 : decode cJ2_checkBoundsBeginEnd_d044e 0 = .ok (.iload_n 0, 1) := by decide +kernel
theorem dJ2_checkBoundsBeginEnd_d044e_1 : decode cJ2_checkBoundsBeginEnd_d044e 1 = .ok (.iload_n 1, 1) := by decide +kernel
theorem dJ2_checkBoundsBeginEnd_d044e_2 : decode cJ2_checkBoundsBeginEnd_d044e 2 = .ok (.aload_n 2, 1) := by decide +kernel
theorem dJ2_checkBoundsBeginEnd_d044e_3 : decode cJ2_checkBoundsBeginEnd_d044e 3 = .ok (.invokestatic 48, 3) := by decide +kernel
theorem dJ2_checkBoundsBeginEnd_d044e_6 : decode cJ2_checkBoundsBeginEnd_d044e 6 = .ok (.invokestatic 241, 3) := by decide +kernel
theorem dJ2_checkBoundsBeginEnd_d044e_9 : decode cJ2_checkBoundsBeginEnd_d044e 9 = .ok (.return_, 1) := by decide +kernel
theorem dJ3_checkFromToIndex_8c36e_0 : decode cJ3_checkFromToIndex_8c36e 0 = .ok (.iload_n 0, 1) := by decide +kernel
theorem dJ3_checkFromToIndex_8c36e_1 : decode cJ3_checkFromToIndex_8c36e 1 = .ok (.ifCond .lt 13, 3) := by decide +kernel
theorem dJ3_checkFromToIndex_8c36e_4 : decode cJ3_checkFromToIndex_8c36e 4 = .ok (.iload_n 0, 1) := by decide +kernel
theorem dJ3_checkFromToIndex_8c36e_5 : decode cJ3_checkFromToIndex_8c36e 5 = .ok (.iload_n 1, 1) := by decide +kernel
theorem dJ3_checkFromToIndex_8c36e_6 : decode cJ3_checkFromToIndex_8c36e 6 = .ok (.if_icmp .gt 8, 3) := by decide +kernel
theorem dJ3_checkFromToIndex_8c36e_9 : decode cJ3_checkFromToIndex_8c36e 9 = .ok (.iload_n 1, 1) := by decide +kernel
theorem dJ3_checkFromToIndex_8c36e_10 : decode cJ3_checkFromToIndex_8c36e 10 = .ok (.iload_n 2, 1) := by decide +kernel
theorem dJ3_checkFromToIndex_8c36e_11 : decode cJ3_checkFromToIndex_8c36e 11 = .ok (.if_icmp .le 11, 3) := by decide +kernel
theorem dJ3_checkFromToIndex_8c36e_14 : decode cJ3_checkFromToIndex_8c36e 14 = .ok (.aload_n 3, 1) := by decide +kernel
theorem dJ3_checkFromToIndex_8c36e_15 : decode cJ3_checkFromToIndex_8c36e 15 = .ok (.iload_n 0, 1) := by decide +kernel
theorem dJ3_checkFromToIndex_8c36e_16 : decode cJ3_checkFromToIndex_8c36e 16 = .ok (.iload_n 1, 1) := by decide +kernel
theorem dJ3_checkFromToIndex_8c36e_17 : decode cJ3_checkFromToIndex_8c36e 17 = .ok (.iload_n 2, 1) := by decide +kernel
theorem dJ3_checkFromToIndex_8c36e_18 : decode cJ3_checkFromToIndex_8c36e 18 = .ok (.invokestatic 99, 3) := by decide +kernel
theorem dJ3_checkFromToIndex_8c36e_21 : decode cJ3_checkFromToIndex_8c36e 21 = .ok (.athrow, 1) := by decide +kernel
theorem dJ3_checkFromToIndex_8c36e_22 : decode cJ3_checkFromToIndex_8c36e 22 = .ok (.iload_n 0, 1) := by decide +kernel
theorem dJ3_checkFromToIndex_8c36e_23 : decode cJ3_checkFromToIndex_8c36e 23 = .ok (.ireturn, 1) := by decide +kernel
theorem dL_law_0 : decode cL_law 0 = .ok (.new 7, 3) := by decide +kernel
theorem dL_law_3 : decode cL_law 3 = .ok (.dup, 1) := by decide +kernel
theorem dL_law_4 : decode cL_law 4 = .ok (.invokespecial 9, 3) := by decide +kernel
theorem dL_law_7 : decode cL_law 7 = .ok (.astore_n 1, 1) := by decide +kernel
theorem dL_law_8 : decode cL_law 8 = .ok (.new 10, 3) := by decide +kernel
theorem dL_law_11 : decode cL_law 11 = .ok (.dup, 1) := by decide +kernel
theorem dL_law_12 : decode cL_law 12 = .ok (.invokespecial 12, 3) := by decide +kernel
theorem dL_law_15 : decode cL_law 15 = .ok (.astore_n 2, 1) := by decide +kernel
theorem dL_law_16 : decode cL_law 16 = .ok (.iconst 0, 1) := by decide +kernel
theorem dL_law_17 : decode cL_law 17 = .ok (.istore_n 3, 1) := by decide +kernel
theorem dL_law_18 : decode cL_law 18 = .ok (.iload_n 3, 1) := by decide +kernel
theorem dL_law_19 : decode cL_law 19 = .ok (.aload_n 0, 1) := by decide +kernel
theorem dL_law_20 : decode cL_law 20 = .ok (.arraylength, 1) := by decide +kernel
theorem dL_law_21 : decode cL_law 21 = .ok (.iconst 4, 1) := by decide +kernel
theorem dL_law_22 : decode cL_law 22 = .ok (.isub, 1) := by decide +kernel
theorem dL_law_23 : decode cL_law 23 = .ok (.if_icmp .gt 995, 3) := by decide +kernel
theorem dL_law_26 : decode cL_law 26 = .ok (.aload_n 0, 1) := by decide +kernel
theorem dL_law_27 : decode cL_law 27 = .ok (.iload_n 3, 1) := by decide +kernel
theorem dL_law_28 : decode cL_law 28 = .ok (.iaload, 1) := by decide +kernel
theorem dL_law_29 : decode cL_law 29 = .ok (.bipush 31, 2) := by decide +kernel
theorem dL_law_31 : decode cL_law 31 = .ok (.iand, 1) := by decide +kernel
theorem dL_law_32 : decode cL_law 32 = .ok (.tableswitch 980 0 31 #[144, 167, 200, 233, 266, 289, 322, 355, 388, 421, 444, 477, 510, 543, 576, 609, 652, 685, 718, 741, 764, 787, 810, 833, 856, 869, 892, 915, 928, 941, 954, 967], 144) := by decide +kernel
theorem dL_law_176 : decode cL_law 176 = .ok (.aload_n 1, 1) := by decide +kernel
theorem dL_law_177 : decode cL_law 177 = .ok (.aload_n 0, 1) := by decide +kernel
theorem dL_law_178 : decode cL_law 178 = .ok (.iload_n 3, 1) := by decide +kernel
theorem dL_law_179 : decode cL_law 179 = .ok (.iconst 1, 1) := by decide +kernel
theorem dL_law_180 : decode cL_law 180 = .ok (.iadd, 1) := by decide +kernel
theorem dL_law_181 : decode cL_law 181 = .ok (.iaload, 1) := by decide +kernel
theorem dL_law_182 : decode cL_law 182 = .ok (.invokevirtual 13, 3) := by decide +kernel
theorem dL_law_185 : decode cL_law 185 = .ok (.aload_n 2, 1) := by decide +kernel
theorem dL_law_186 : decode cL_law 186 = .ok (.aload_n 0, 1) := by decide +kernel
theorem dL_law_187 : decode cL_law 187 = .ok (.iload_n 3, 1) := by decide +kernel
theorem dL_law_188 : decode cL_law 188 = .ok (.iconst 1, 1) := by decide +kernel
theorem dL_law_189 : decode cL_law 189 = .ok (.iadd, 1) := by decide +kernel
theorem dL_law_190 : decode cL_law 190 = .ok (.iaload, 1) := by decide +kernel
theorem dL_law_191 : decode cL_law 191 = .ok (.invokevirtual 17, 3) := by decide +kernel
theorem dL_law_194 : decode cL_law 194 = .ok (.if_icmp .eq 818, 3) := by decide +kernel
theorem dL_law_197 : decode cL_law 197 = .ok (.iconst 0, 1) := by decide +kernel
theorem dL_law_198 : decode cL_law 198 = .ok (.ireturn, 1) := by decide +kernel
theorem dL_law_199 : decode cL_law 199 = .ok (.aload_n 1, 1) := by decide +kernel
theorem dL_law_200 : decode cL_law 200 = .ok (.aload_n 0, 1) := by decide +kernel
theorem dL_law_201 : decode cL_law 201 = .ok (.iload_n 3, 1) := by decide +kernel
theorem dL_law_202 : decode cL_law 202 = .ok (.iconst 1, 1) := by decide +kernel
theorem dL_law_203 : decode cL_law 203 = .ok (.iadd, 1) := by decide +kernel
theorem dL_law_204 : decode cL_law 204 = .ok (.iaload, 1) := by decide +kernel
theorem dL_law_205 : decode cL_law 205 = .ok (.aload_n 0, 1) := by decide +kernel
theorem dL_law_206 : decode cL_law 206 = .ok (.iload_n 3, 1) := by decide +kernel
theorem dL_law_207 : decode cL_law 207 = .ok (.iconst 2, 1) := by decide +kernel
theorem dL_law_208 : decode cL_law 208 = .ok (.iadd, 1) := by decide +kernel
theorem dL_law_209 : decode cL_law 209 = .ok (.iaload, 1) := by decide +kernel
theorem dL_law_210 : decode cL_law 210 = .ok (.invokevirtual 18, 3) := by decide +kernel
theorem dL_law_213 : decode cL_law 213 = .ok (.aload_n 2, 1) := by decide +kernel
theorem dL_law_214 : decode cL_law 214 = .ok (.aload_n 0, 1) := by decide +kernel
theorem dL_law_215 : decode cL_law 215 = .ok (.iload_n 3, 1) := by decide +kernel
theorem dL_law_216 : decode cL_law 216 = .ok (.iconst 1, 1) := by decide +kernel
theorem dL_law_217 : decode cL_law 217 = .ok (.iadd, 1) := by decide +kernel
theorem dL_law_218 : decode cL_law 218 = .ok (.iaload, 1) := by decide +kernel
theorem dL_law_219 : decode cL_law 219 = .ok (.aload_n 0, 1) := by decide +kernel
theorem dL_law_220 : decode cL_law 220 = .ok (.iload_n 3, 1) := by decide +kernel
theorem dL_law_221 : decode cL_law 221 = .ok (.iconst 2, 1) := by decide +kernel
theorem dL_law_222 : decode cL_law 222 = .ok (.iadd, 1) := by decide +kernel
theorem dL_law_223 : decode cL_law 223 = .ok (.iaload, 1) := by decide +kernel
theorem dL_law_224 : decode cL_law 224 = .ok (.invokevirtual 22, 3) := by decide +kernel
theorem dL_law_227 : decode cL_law 227 = .ok (.if_icmp .eq 785, 3) := by decide +kernel
theorem dL_law_230 : decode cL_law 230 = .ok (.iconst 0, 1) := by decide +kernel
theorem dL_law_231 : decode cL_law 231 = .ok (.ireturn, 1) := by decide +kernel
theorem dL_law_232 : decode cL_law 232 = .ok (.aload_n 1, 1) := by decide +kernel
theorem dL_law_233 : decode cL_law 233 = .ok (.aload_n 0, 1) := by decide +kernel
theorem dL_law_234 : decode cL_law 234 = .ok (.iload_n 3, 1) := by decide +kernel
theorem dL_law_235 : decode cL_law 235 = .ok (.iconst 1, 1) := by decide +kernel
theorem dL_law_236 : decode cL_law 236 = .ok (.iadd, 1) := by decide +kernel
theorem dL_law_237 : decode cL_law 237 = .ok (.iaload, 1) := by decide +kernel
theorem dL_law_238 : decode cL_law 238 = .ok (.aload_n 0, 1) := by decide +kernel
theorem dL_law_239 : decode cL_law 239 = .ok (.iload_n 3, 1) := by decide +kernel
theorem dL_law_240 : decode cL_law 240 = .ok (.iconst 2, 1) := by decide +kernel
theorem dL_law_241 : decode cL_law 241 = .ok (.iadd, 1) := by decide +kernel
theorem dL_law_242 : decode cL_law 242 = .ok (.iaload, 1) := by decide +kernel
theorem dL_law_243 : decode cL_law 243 = .ok (.invokevirtual 23, 3) := by decide +kernel
theorem dL_law_246 : decode cL_law 246 = .ok (.aload_n 2, 1) := by decide +kernel
theorem dL_law_247 : decode cL_law 247 = .ok (.aload_n 0, 1) := by decide +kernel
theorem dL_law_248 : decode cL_law 248 = .ok (.iload_n 3, 1) := by decide +kernel
theorem dL_law_249 : decode cL_law 249 = .ok (.iconst 1, 1) := by decide +kernel
theorem dL_law_250 : decode cL_law 250 = .ok (.iadd, 1) := by decide +kernel
theorem dL_law_251 : decode cL_law 251 = .ok (.iaload, 1) := by decide +kernel
theorem dL_law_252 : decode cL_law 252 = .ok (.aload_n 0, 1) := by decide +kernel
theorem dL_law_253 : decode cL_law 253 = .ok (.iload_n 3, 1) := by decide +kernel
theorem dL_law_254 : decode cL_law 254 = .ok (.iconst 2, 1) := by decide +kernel
theorem dL_law_255 : decode cL_law 255 = .ok (.iadd, 1) := by decide +kernel
theorem dL_law_256 : decode cL_law 256 = .ok (.iaload, 1) := by decide +kernel
theorem dL_law_257 : decode cL_law 257 = .ok (.invokevirtual 26, 3) := by decide +kernel
theorem dL_law_260 : decode cL_law 260 = .ok (.if_icmp .eq 752, 3) := by decide +kernel
theorem dL_law_263 : decode cL_law 263 = .ok (.iconst 0, 1) := by decide +kernel
theorem dL_law_264 : decode cL_law 264 = .ok (.ireturn, 1) := by decide +kernel
theorem dL_law_265 : decode cL_law 265 = .ok (.aload_n 1, 1) := by decide +kernel
theorem dL_law_266 : decode cL_law 266 = .ok (.aload_n 0, 1) := by decide +kernel
theorem dL_law_267 : decode cL_law 267 = .ok (.iload_n 3, 1) := by decide +kernel
theorem dL_law_268 : decode cL_law 268 = .ok (.iconst 1, 1) := by decide +kernel
theorem dL_law_269 : decode cL_law 269 = .ok (.iadd, 1) := by decide +kernel
theorem dL_law_270 : decode cL_law 270 = .ok (.iaload, 1) := by decide +kernel
theorem dL_law_271 : decode cL_law 271 = .ok (.aload_n 0, 1) := by decide +kernel
theorem dL_law_272 : decode cL_law 272 = .ok (.iload_n 3, 1) := by decide +kernel
theorem dL_law_273 : decode cL_law 273 = .ok (.iconst 2, 1) := by decide +kernel
theorem dL_law_274 : decode cL_law 274 = .ok (.iadd, 1) := by decide +kernel
theorem dL_law_275 : decode cL_law 275 = .ok (.iaload, 1) := by decide +kernel
theorem dL_law_276 : decode cL_law 276 = .ok (.invokevirtual 27, 3) := by decide +kernel
theorem dL_law_279 : decode cL_law 279 = .ok (.aload_n 2, 1) := by decide +kernel
theorem dL_law_280 : decode cL_law 280 = .ok (.aload_n 0, 1) := by decide +kernel
theorem dL_law_281 : decode cL_law 281 = .ok (.iload_n 3, 1) := by decide +kernel
theorem dL_law_282 : decode cL_law 282 = .ok (.iconst 1, 1) := by decide +kernel
theorem dL_law_283 : decode cL_law 283 = .ok (.iadd, 1) := by decide +kernel
theorem dL_law_284 : decode cL_law 284 = .ok (.iaload, 1) := by decide +kernel
theorem dL_law_285 : decode cL_law 285 = .ok (.aload_n 0, 1) := by decide +kernel
theorem dL_law_286 : decode cL_law 286 = .ok (.iload_n 3, 1) := by decide +kernel
theorem dL_law_287 : decode cL_law 287 = .ok (.iconst 2, 1) := by decide +kernel
theorem dL_law_288 : decode cL_law 288 = .ok (.iadd, 1) := by decide +kernel
theorem dL_law_289 : decode cL_law 289 = .ok (.iaload, 1) := by decide +kernel
theorem dL_law_290 : decode cL_law 290 = .ok (.invokevirtual 30, 3) := by decide +kernel
theorem dL_law_293 : decode cL_law 293 = .ok (.if_icmp .eq 719, 3) := by decide +kernel
theorem dL_law_296 : decode cL_law 296 = .ok (.iconst 0, 1) := by decide +kernel
theorem dL_law_297 : decode cL_law 297 = .ok (.ireturn, 1) := by decide +kernel
theorem dL_law_298 : decode cL_law 298 = .ok (.aload_n 1, 1) := by decide +kernel
theorem dL_law_299 : decode cL_law 299 = .ok (.aload_n 0, 1) := by decide +kernel
theorem dL_law_300 : decode cL_law 300 = .ok (.iload_n 3, 1) := by decide +kernel
theorem dL_law_301 : decode cL_law 301 = .ok (.iconst 1, 1) := by decide +kernel
theorem dL_law_302 : decode cL_law 302 = .ok (.iadd, 1) := by decide +kernel
theorem dL_law_303 : decode cL_law 303 = .ok (.iaload, 1) := by decide +kernel
theorem dL_law_304 : decode cL_law 304 = .ok (.invokevirtual 31, 3) := by decide +kernel
theorem dL_law_307 : decode cL_law 307 = .ok (.aload_n 2, 1) := by decide +kernel
theorem dL_law_308 : decode cL_law 308 = .ok (.aload_n 0, 1) := by decide +kernel
theorem dL_law_309 : decode cL_law 309 = .ok (.iload_n 3, 1) := by decide +kernel
theorem dL_law_310 : decode cL_law 310 = .ok (.iconst 1, 1) := by decide +kernel
theorem dL_law_311 : decode cL_law 311 = .ok (.iadd, 1) := by decide +kernel
theorem dL_law_312 : decode cL_law 312 = .ok (.iaload, 1) := by decide +kernel
theorem dL_law_313 : decode cL_law 313 = .ok (.invokevirtual 34, 3) := by decide +kernel
theorem dL_law_316 : decode cL_law 316 = .ok (.if_icmp .eq 696, 3) := by decide +kernel
theorem dL_law_319 : decode cL_law 319 = .ok (.iconst 0, 1) := by decide +kernel
theorem dL_law_320 : decode cL_law 320 = .ok (.ireturn, 1) := by decide +kernel
theorem dL_law_321 : decode cL_law 321 = .ok (.aload_n 1, 1) := by decide +kernel
theorem dL_law_322 : decode cL_law 322 = .ok (.aload_n 0, 1) := by decide +kernel
theorem dL_law_323 : decode cL_law 323 = .ok (.iload_n 3, 1) := by decide +kernel
theorem dL_law_324 : decode cL_law 324 = .ok (.iconst 1, 1) := by decide +kernel
theorem dL_law_325 : decode cL_law 325 = .ok (.iadd, 1) := by decide +kernel
theorem dL_law_326 : decode cL_law 326 = .ok (.iaload, 1) := by decide +kernel
theorem dL_law_327 : decode cL_law 327 = .ok (.aload_n 0, 1) := by decide +kernel
theorem dL_law_328 : decode cL_law 328 = .ok (.iload_n 3, 1) := by decide +kernel
theorem dL_law_329 : decode cL_law 329 = .ok (.iconst 2, 1) := by decide +kernel
theorem dL_law_330 : decode cL_law 330 = .ok (.iadd, 1) := by decide +kernel
theorem dL_law_331 : decode cL_law 331 = .ok (.iaload, 1) := by decide +kernel
theorem dL_law_332 : decode cL_law 332 = .ok (.invokevirtual 35, 3) := by decide +kernel
theorem dL_law_335 : decode cL_law 335 = .ok (.aload_n 2, 1) := by decide +kernel
theorem dL_law_336 : decode cL_law 336 = .ok (.aload_n 0, 1) := by decide +kernel
theorem dL_law_337 : decode cL_law 337 = .ok (.iload_n 3, 1) := by decide +kernel
theorem dL_law_338 : decode cL_law 338 = .ok (.iconst 1, 1) := by decide +kernel
theorem dL_law_339 : decode cL_law 339 = .ok (.iadd, 1) := by decide +kernel
theorem dL_law_340 : decode cL_law 340 = .ok (.iaload, 1) := by decide +kernel
theorem dL_law_341 : decode cL_law 341 = .ok (.aload_n 0, 1) := by decide +kernel
theorem dL_law_342 : decode cL_law 342 = .ok (.iload_n 3, 1) := by decide +kernel
theorem dL_law_343 : decode cL_law 343 = .ok (.iconst 2, 1) := by decide +kernel
theorem dL_law_344 : decode cL_law 344 = .ok (.iadd, 1) := by decide +kernel
theorem dL_law_345 : decode cL_law 345 = .ok (.iaload, 1) := by decide +kernel
theorem dL_law_346 : decode cL_law 346 = .ok (.invokevirtual 38, 3) := by decide +kernel
theorem dL_law_349 : decode cL_law 349 = .ok (.if_icmp .eq 663, 3) := by decide +kernel
theorem dL_law_352 : decode cL_law 352 = .ok (.iconst 0, 1) := by decide +kernel
theorem dL_law_353 : decode cL_law 353 = .ok (.ireturn, 1) := by decide +kernel
theorem dL_law_354 : decode cL_law 354 = .ok (.aload_n 1, 1) := by decide +kernel
theorem dL_law_355 : decode cL_law 355 = .ok (.aload_n 0, 1) := by decide +kernel
theorem dL_law_356 : decode cL_law 356 = .ok (.iload_n 3, 1) := by decide +kernel
theorem dL_law_357 : decode cL_law 357 = .ok (.iconst 1, 1) := by decide +kernel
theorem dL_law_358 : decode cL_law 358 = .ok (.iadd, 1) := by decide +kernel
theorem dL_law_359 : decode cL_law 359 = .ok (.iaload, 1) := by decide +kernel
theorem dL_law_360 : decode cL_law 360 = .ok (.aload_n 0, 1) := by decide +kernel
theorem dL_law_361 : decode cL_law 361 = .ok (.iload_n 3, 1) := by decide +kernel
theorem dL_law_362 : decode cL_law 362 = .ok (.iconst 2, 1) := by decide +kernel
theorem dL_law_363 : decode cL_law 363 = .ok (.iadd, 1) := by decide +kernel
theorem dL_law_364 : decode cL_law 364 = .ok (.iaload, 1) := by decide +kernel
theorem dL_law_365 : decode cL_law 365 = .ok (.invokevirtual 39, 3) := by decide +kernel
theorem dL_law_368 : decode cL_law 368 = .ok (.aload_n 2, 1) := by decide +kernel
theorem dL_law_369 : decode cL_law 369 = .ok (.aload_n 0, 1) := by decide +kernel
theorem dL_law_370 : decode cL_law 370 = .ok (.iload_n 3, 1) := by decide +kernel
theorem dL_law_371 : decode cL_law 371 = .ok (.iconst 1, 1) := by decide +kernel
theorem dL_law_372 : decode cL_law 372 = .ok (.iadd, 1) := by decide +kernel
theorem dL_law_373 : decode cL_law 373 = .ok (.iaload, 1) := by decide +kernel
theorem dL_law_374 : decode cL_law 374 = .ok (.aload_n 0, 1) := by decide +kernel
theorem dL_law_375 : decode cL_law 375 = .ok (.iload_n 3, 1) := by decide +kernel
theorem dL_law_376 : decode cL_law 376 = .ok (.iconst 2, 1) := by decide +kernel
theorem dL_law_377 : decode cL_law 377 = .ok (.iadd, 1) := by decide +kernel
theorem dL_law_378 : decode cL_law 378 = .ok (.iaload, 1) := by decide +kernel
theorem dL_law_379 : decode cL_law 379 = .ok (.invokevirtual 42, 3) := by decide +kernel
theorem dL_law_382 : decode cL_law 382 = .ok (.if_icmp .eq 630, 3) := by decide +kernel
theorem dL_law_385 : decode cL_law 385 = .ok (.iconst 0, 1) := by decide +kernel
theorem dL_law_386 : decode cL_law 386 = .ok (.ireturn, 1) := by decide +kernel
theorem dL_law_387 : decode cL_law 387 = .ok (.aload_n 1, 1) := by decide +kernel
theorem dL_law_388 : decode cL_law 388 = .ok (.aload_n 0, 1) := by decide +kernel
theorem dL_law_389 : decode cL_law 389 = .ok (.iload_n 3, 1) := by decide +kernel
theorem dL_law_390 : decode cL_law 390 = .ok (.iconst 1, 1) := by decide +kernel
theorem dL_law_391 : decode cL_law 391 = .ok (.iadd, 1) := by decide +kernel
theorem dL_law_392 : decode cL_law 392 = .ok (.iaload, 1) := by decide +kernel
theorem dL_law_393 : decode cL_law 393 = .ok (.aload_n 0, 1) := by decide +kernel
theorem dL_law_394 : decode cL_law 394 = .ok (.iload_n 3, 1) := by decide +kernel
theorem dL_law_395 : decode cL_law 395 = .ok (.iconst 2, 1) := by decide +kernel
theorem dL_law_396 : decode cL_law 396 = .ok (.iadd, 1) := by decide +kernel
theorem dL_law_397 : decode cL_law 397 = .ok (.iaload, 1) := by decide +kernel
theorem dL_law_398 : decode cL_law 398 = .ok (.invokevirtual 43, 3) := by decide +kernel
theorem dL_law_401 : decode cL_law 401 = .ok (.aload_n 2, 1) := by decide +kernel
theorem dL_law_402 : decode cL_law 402 = .ok (.aload_n 0, 1) := by decide +kernel
theorem dL_law_403 : decode cL_law 403 = .ok (.iload_n 3, 1) := by decide +kernel
theorem dL_law_404 : decode cL_law 404 = .ok (.iconst 1, 1) := by decide +kernel
theorem dL_law_405 : decode cL_law 405 = .ok (.iadd, 1) := by decide +kernel
theorem dL_law_406 : decode cL_law 406 = .ok (.iaload, 1) := by decide +kernel
theorem dL_law_407 : decode cL_law 407 = .ok (.aload_n 0, 1) := by decide +kernel
theorem dL_law_408 : decode cL_law 408 = .ok (.iload_n 3, 1) := by decide +kernel
theorem dL_law_409 : decode cL_law 409 = .ok (.iconst 2, 1) := by decide +kernel
theorem dL_law_410 : decode cL_law 410 = .ok (.iadd, 1) := by decide +kernel
theorem dL_law_411 : decode cL_law 411 = .ok (.iaload, 1) := by decide +kernel
theorem dL_law_412 : decode cL_law 412 = .ok (.invokevirtual 46, 3) := by decide +kernel
theorem dL_law_415 : decode cL_law 415 = .ok (.if_icmp .eq 597, 3) := by decide +kernel
theorem dL_law_418 : decode cL_law 418 = .ok (.iconst 0, 1) := by decide +kernel
theorem dL_law_419 : decode cL_law 419 = .ok (.ireturn, 1) := by decide +kernel
theorem dL_law_420 : decode cL_law 420 = .ok (.aload_n 1, 1) := by decide +kernel
theorem dL_law_421 : decode cL_law 421 = .ok (.aload_n 0, 1) := by decide +kernel
theorem dL_law_422 : decode cL_law 422 = .ok (.iload_n 3, 1) := by decide +kernel
theorem dL_law_423 : decode cL_law 423 = .ok (.iconst 1, 1) := by decide +kernel
theorem dL_law_424 : decode cL_law 424 = .ok (.iadd, 1) := by decide +kernel
theorem dL_law_425 : decode cL_law 425 = .ok (.iaload, 1) := by decide +kernel
theorem dL_law_426 : decode cL_law 426 = .ok (.aload_n 0, 1) := by decide +kernel
theorem dL_law_427 : decode cL_law 427 = .ok (.iload_n 3, 1) := by decide +kernel
theorem dL_law_428 : decode cL_law 428 = .ok (.iconst 2, 1) := by decide +kernel
theorem dL_law_429 : decode cL_law 429 = .ok (.iadd, 1) := by decide +kernel
theorem dL_law_430 : decode cL_law 430 = .ok (.iaload, 1) := by decide +kernel
theorem dL_law_431 : decode cL_law 431 = .ok (.invokevirtual 47, 3) := by decide +kernel
theorem dL_law_434 : decode cL_law 434 = .ok (.aload_n 2, 1) := by decide +kernel
theorem dL_law_435 : decode cL_law 435 = .ok (.aload_n 0, 1) := by decide +kernel
theorem dL_law_436 : decode cL_law 436 = .ok (.iload_n 3, 1) := by decide +kernel
theorem dL_law_437 : decode cL_law 437 = .ok (.iconst 1, 1) := by decide +kernel
theorem dL_law_438 : decode cL_law 438 = .ok (.iadd, 1) := by decide +kernel
theorem dL_law_439 : decode cL_law 439 = .ok (.iaload, 1) := by decide +kernel
theorem dL_law_440 : decode cL_law 440 = .ok (.aload_n 0, 1) := by decide +kernel
theorem dL_law_441 : decode cL_law 441 = .ok (.iload_n 3, 1) := by decide +kernel
theorem dL_law_442 : decode cL_law 442 = .ok (.iconst 2, 1) := by decide +kernel
theorem dL_law_443 : decode cL_law 443 = .ok (.iadd, 1) := by decide +kernel
theorem dL_law_444 : decode cL_law 444 = .ok (.iaload, 1) := by decide +kernel
theorem dL_law_445 : decode cL_law 445 = .ok (.invokevirtual 50, 3) := by decide +kernel
theorem dL_law_448 : decode cL_law 448 = .ok (.if_icmp .eq 564, 3) := by decide +kernel
theorem dL_law_451 : decode cL_law 451 = .ok (.iconst 0, 1) := by decide +kernel
theorem dL_law_452 : decode cL_law 452 = .ok (.ireturn, 1) := by decide +kernel
theorem dL_law_453 : decode cL_law 453 = .ok (.aload_n 1, 1) := by decide +kernel
theorem dL_law_454 : decode cL_law 454 = .ok (.aload_n 0, 1) := by decide +kernel
theorem dL_law_455 : decode cL_law 455 = .ok (.iload_n 3, 1) := by decide +kernel
theorem dL_law_456 : decode cL_law 456 = .ok (.iconst 1, 1) := by decide +kernel
theorem dL_law_457 : decode cL_law 457 = .ok (.iadd, 1) := by decide +kernel
theorem dL_law_458 : decode cL_law 458 = .ok (.iaload, 1) := by decide +kernel
theorem dL_law_459 : decode cL_law 459 = .ok (.invokevirtual 51, 3) := by decide +kernel
theorem dL_law_462 : decode cL_law 462 = .ok (.aload_n 2, 1) := by decide +kernel
theorem dL_law_463 : decode cL_law 463 = .ok (.aload_n 0, 1) := by decide +kernel
theorem dL_law_464 : decode cL_law 464 = .ok (.iload_n 3, 1) := by decide +kernel
theorem dL_law_465 : decode cL_law 465 = .ok (.iconst 1, 1) := by decide +kernel
theorem dL_law_466 : decode cL_law 466 = .ok (.iadd, 1) := by decide +kernel
theorem dL_law_467 : decode cL_law 467 = .ok (.iaload, 1) := by decide +kernel
theorem dL_law_468 : decode cL_law 468 = .ok (.invokevirtual 54, 3) := by decide +kernel
theorem dL_law_471 : decode cL_law 471 = .ok (.if_icmp .eq 541, 3) := by decide +kernel
theorem dL_law_474 : decode cL_law 474 = .ok (.iconst 0, 1) := by decide +kernel
theorem dL_law_475 : decode cL_law 475 = .ok (.ireturn, 1) := by decide +kernel
theorem dL_law_476 : decode cL_law 476 = .ok (.aload_n 1, 1) := by decide +kernel
theorem dL_law_477 : decode cL_law 477 = .ok (.aload_n 0, 1) := by decide +kernel
theorem dL_law_478 : decode cL_law 478 = .ok (.iload_n 3, 1) := by decide +kernel
theorem dL_law_479 : decode cL_law 479 = .ok (.iconst 1, 1) := by decide +kernel
theorem dL_law_480 : decode cL_law 480 = .ok (.iadd, 1) := by decide +kernel
theorem dL_law_481 : decode cL_law 481 = .ok (.iaload, 1) := by decide +kernel
theorem dL_law_482 : decode cL_law 482 = .ok (.aload_n 0, 1) := by decide +kernel
theorem dL_law_483 : decode cL_law 483 = .ok (.iload_n 3, 1) := by decide +kernel
theorem dL_law_484 : decode cL_law 484 = .ok (.iconst 2, 1) := by decide +kernel
theorem dL_law_485 : decode cL_law 485 = .ok (.iadd, 1) := by decide +kernel
theorem dL_law_486 : decode cL_law 486 = .ok (.iaload, 1) := by decide +kernel
theorem dL_law_487 : decode cL_law 487 = .ok (.invokevirtual 55, 3) := by decide +kernel
theorem dL_law_490 : decode cL_law 490 = .ok (.aload_n 2, 1) := by decide +kernel
theorem dL_law_491 : decode cL_law 491 = .ok (.aload_n 0, 1) := by decide +kernel
theorem dL_law_492 : decode cL_law 492 = .ok (.iload_n 3, 1) := by decide +kernel
theorem dL_law_493 : decode cL_law 493 = .ok (.iconst 1, 1) := by decide +kernel
theorem dL_law_494 : decode cL_law 494 = .ok (.iadd, 1) := by decide +kernel
theorem dL_law_495 : decode cL_law 495 = .ok (.iaload, 1) := by decide +kernel
theorem dL_law_496 : decode cL_law 496 = .ok (.aload_n 0, 1) := by decide +kernel
theorem dL_law_497 : decode cL_law 497 = .ok (.iload_n 3, 1) := by decide +kernel
theorem dL_law_498 : decode cL_law 498 = .ok (.iconst 2, 1) := by decide +kernel
theorem dL_law_499 : decode cL_law 499 = .ok (.iadd, 1) := by decide +kernel
theorem dL_law_500 : decode cL_law 500 = .ok (.iaload, 1) := by decide +kernel
theorem dL_law_501 : decode cL_law 501 = .ok (.invokevirtual 58, 3) := by decide +kernel
theorem dL_law_504 : decode cL_law 504 = .ok (.if_icmp .eq 508, 3) := by decide +kernel
theorem dL_law_507 : decode cL_law 507 = .ok (.iconst 0, 1) := by decide +kernel
theorem dL_law_508 : decode cL_law 508 = .ok (.ireturn, 1) := by decide +kernel
theorem dL_law_509 : decode cL_law 509 = .ok (.aload_n 1, 1) := by decide +kernel
theorem dL_law_510 : decode cL_law 510 = .ok (.aload_n 0, 1) := by decide +kernel
theorem dL_law_511 : decode cL_law 511 = .ok (.iload_n 3, 1) := by decide +kernel
theorem dL_law_512 : decode cL_law 512 = .ok (.iconst 1, 1) := by decide +kernel
theorem dL_law_513 : decode cL_law 513 = .ok (.iadd, 1) := by decide +kernel
theorem dL_law_514 : decode cL_law 514 = .ok (.iaload, 1) := by decide +kernel
theorem dL_law_515 : decode cL_law 515 = .ok (.aload_n 0, 1) := by decide +kernel
theorem dL_law_516 : decode cL_law 516 = .ok (.iload_n 3, 1) := by decide +kernel
theorem dL_law_517 : decode cL_law 517 = .ok (.iconst 2, 1) := by decide +kernel
theorem dL_law_518 : decode cL_law 518 = .ok (.iadd, 1) := by decide +kernel
theorem dL_law_519 : decode cL_law 519 = .ok (.iaload, 1) := by decide +kernel
theorem dL_law_520 : decode cL_law 520 = .ok (.invokevirtual 59, 3) := by decide +kernel
theorem dL_law_523 : decode cL_law 523 = .ok (.aload_n 2, 1) := by decide +kernel
theorem dL_law_524 : decode cL_law 524 = .ok (.aload_n 0, 1) := by decide +kernel
theorem dL_law_525 : decode cL_law 525 = .ok (.iload_n 3, 1) := by decide +kernel
theorem dL_law_526 : decode cL_law 526 = .ok (.iconst 1, 1) := by decide +kernel
theorem dL_law_527 : decode cL_law 527 = .ok (.iadd, 1) := by decide +kernel
theorem dL_law_528 : decode cL_law 528 = .ok (.iaload, 1) := by decide +kernel
theorem dL_law_529 : decode cL_law 529 = .ok (.aload_n 0, 1) := by decide +kernel
theorem dL_law_530 : decode cL_law 530 = .ok (.iload_n 3, 1) := by decide +kernel
theorem dL_law_531 : decode cL_law 531 = .ok (.iconst 2, 1) := by decide +kernel
theorem dL_law_532 : decode cL_law 532 = .ok (.iadd, 1) := by decide +kernel
theorem dL_law_533 : decode cL_law 533 = .ok (.iaload, 1) := by decide +kernel
theorem dL_law_534 : decode cL_law 534 = .ok (.invokevirtual 62, 3) := by decide +kernel
theorem dL_law_537 : decode cL_law 537 = .ok (.if_icmp .eq 475, 3) := by decide +kernel
theorem dL_law_540 : decode cL_law 540 = .ok (.iconst 0, 1) := by decide +kernel
theorem dL_law_541 : decode cL_law 541 = .ok (.ireturn, 1) := by decide +kernel
theorem dL_law_542 : decode cL_law 542 = .ok (.aload_n 1, 1) := by decide +kernel
theorem dL_law_543 : decode cL_law 543 = .ok (.aload_n 0, 1) := by decide +kernel
theorem dL_law_544 : decode cL_law 544 = .ok (.iload_n 3, 1) := by decide +kernel
theorem dL_law_545 : decode cL_law 545 = .ok (.iconst 1, 1) := by decide +kernel
theorem dL_law_546 : decode cL_law 546 = .ok (.iadd, 1) := by decide +kernel
theorem dL_law_547 : decode cL_law 547 = .ok (.iaload, 1) := by decide +kernel
theorem dL_law_548 : decode cL_law 548 = .ok (.aload_n 0, 1) := by decide +kernel
theorem dL_law_549 : decode cL_law 549 = .ok (.iload_n 3, 1) := by decide +kernel
theorem dL_law_550 : decode cL_law 550 = .ok (.iconst 2, 1) := by decide +kernel
theorem dL_law_551 : decode cL_law 551 = .ok (.iadd, 1) := by decide +kernel
theorem dL_law_552 : decode cL_law 552 = .ok (.iaload, 1) := by decide +kernel
theorem dL_law_553 : decode cL_law 553 = .ok (.invokevirtual 63, 3) := by decide +kernel
theorem dL_law_556 : decode cL_law 556 = .ok (.aload_n 2, 1) := by decide +kernel
theorem dL_law_557 : decode cL_law 557 = .ok (.aload_n 0, 1) := by decide +kernel
theorem dL_law_558 : decode cL_law 558 = .ok (.iload_n 3, 1) := by decide +kernel
theorem dL_law_559 : decode cL_law 559 = .ok (.iconst 1, 1) := by decide +kernel
theorem dL_law_560 : decode cL_law 560 = .ok (.iadd, 1) := by decide +kernel
theorem dL_law_561 : decode cL_law 561 = .ok (.iaload, 1) := by decide +kernel
theorem dL_law_562 : decode cL_law 562 = .ok (.aload_n 0, 1) := by decide +kernel
theorem dL_law_563 : decode cL_law 563 = .ok (.iload_n 3, 1) := by decide +kernel
theorem dL_law_564 : decode cL_law 564 = .ok (.iconst 2, 1) := by decide +kernel
theorem dL_law_565 : decode cL_law 565 = .ok (.iadd, 1) := by decide +kernel
theorem dL_law_566 : decode cL_law 566 = .ok (.iaload, 1) := by decide +kernel
theorem dL_law_567 : decode cL_law 567 = .ok (.invokevirtual 66, 3) := by decide +kernel
theorem dL_law_570 : decode cL_law 570 = .ok (.if_icmp .eq 442, 3) := by decide +kernel
theorem dL_law_573 : decode cL_law 573 = .ok (.iconst 0, 1) := by decide +kernel
theorem dL_law_574 : decode cL_law 574 = .ok (.ireturn, 1) := by decide +kernel
theorem dL_law_575 : decode cL_law 575 = .ok (.aload_n 1, 1) := by decide +kernel
theorem dL_law_576 : decode cL_law 576 = .ok (.aload_n 0, 1) := by decide +kernel
theorem dL_law_577 : decode cL_law 577 = .ok (.iload_n 3, 1) := by decide +kernel
theorem dL_law_578 : decode cL_law 578 = .ok (.iconst 1, 1) := by decide +kernel
theorem dL_law_579 : decode cL_law 579 = .ok (.iadd, 1) := by decide +kernel
theorem dL_law_580 : decode cL_law 580 = .ok (.iaload, 1) := by decide +kernel
theorem dL_law_581 : decode cL_law 581 = .ok (.aload_n 0, 1) := by decide +kernel
theorem dL_law_582 : decode cL_law 582 = .ok (.iload_n 3, 1) := by decide +kernel
theorem dL_law_583 : decode cL_law 583 = .ok (.iconst 2, 1) := by decide +kernel
theorem dL_law_584 : decode cL_law 584 = .ok (.iadd, 1) := by decide +kernel
theorem dL_law_585 : decode cL_law 585 = .ok (.iaload, 1) := by decide +kernel
theorem dL_law_586 : decode cL_law 586 = .ok (.invokevirtual 67, 3) := by decide +kernel
theorem dL_law_589 : decode cL_law 589 = .ok (.aload_n 2, 1) := by decide +kernel
theorem dL_law_590 : decode cL_law 590 = .ok (.aload_n 0, 1) := by decide +kernel
theorem dL_law_591 : decode cL_law 591 = .ok (.iload_n 3, 1) := by decide +kernel
theorem dL_law_592 : decode cL_law 592 = .ok (.iconst 1, 1) := by decide +kernel
theorem dL_law_593 : decode cL_law 593 = .ok (.iadd, 1) := by decide +kernel
theorem dL_law_594 : decode cL_law 594 = .ok (.iaload, 1) := by decide +kernel
theorem dL_law_595 : decode cL_law 595 = .ok (.aload_n 0, 1) := by decide +kernel
theorem dL_law_596 : decode cL_law 596 = .ok (.iload_n 3, 1) := by decide +kernel
theorem dL_law_597 : decode cL_law 597 = .ok (.iconst 2, 1) := by decide +kernel
theorem dL_law_598 : decode cL_law 598 = .ok (.iadd, 1) := by decide +kernel
theorem dL_law_599 : decode cL_law 599 = .ok (.iaload, 1) := by decide +kernel
theorem dL_law_600 : decode cL_law 600 = .ok (.invokevirtual 70, 3) := by decide +kernel
theorem dL_law_603 : decode cL_law 603 = .ok (.if_icmp .eq 409, 3) := by decide +kernel
theorem dL_law_606 : decode cL_law 606 = .ok (.iconst 0, 1) := by decide +kernel
theorem dL_law_607 : decode cL_law 607 = .ok (.ireturn, 1) := by decide +kernel
theorem dL_law_608 : decode cL_law 608 = .ok (.aload_n 1, 1) := by decide +kernel
theorem dL_law_609 : decode cL_law 609 = .ok (.aload_n 0, 1) := by decide +kernel
theorem dL_law_610 : decode cL_law 610 = .ok (.iload_n 3, 1) := by decide +kernel
theorem dL_law_611 : decode cL_law 611 = .ok (.iconst 1, 1) := by decide +kernel
theorem dL_law_612 : decode cL_law 612 = .ok (.iadd, 1) := by decide +kernel
theorem dL_law_613 : decode cL_law 613 = .ok (.iaload, 1) := by decide +kernel
theorem dL_law_614 : decode cL_law 614 = .ok (.aload_n 0, 1) := by decide +kernel
theorem dL_law_615 : decode cL_law 615 = .ok (.iload_n 3, 1) := by decide +kernel
theorem dL_law_616 : decode cL_law 616 = .ok (.iconst 2, 1) := by decide +kernel
theorem dL_law_617 : decode cL_law 617 = .ok (.iadd, 1) := by decide +kernel
theorem dL_law_618 : decode cL_law 618 = .ok (.iaload, 1) := by decide +kernel
theorem dL_law_619 : decode cL_law 619 = .ok (.invokevirtual 71, 3) := by decide +kernel
theorem dL_law_622 : decode cL_law 622 = .ok (.aload_n 2, 1) := by decide +kernel
theorem dL_law_623 : decode cL_law 623 = .ok (.aload_n 0, 1) := by decide +kernel
theorem dL_law_624 : decode cL_law 624 = .ok (.iload_n 3, 1) := by decide +kernel
theorem dL_law_625 : decode cL_law 625 = .ok (.iconst 1, 1) := by decide +kernel
theorem dL_law_626 : decode cL_law 626 = .ok (.iadd, 1) := by decide +kernel
theorem dL_law_627 : decode cL_law 627 = .ok (.iaload, 1) := by decide +kernel
theorem dL_law_628 : decode cL_law 628 = .ok (.aload_n 0, 1) := by decide +kernel
theorem dL_law_629 : decode cL_law 629 = .ok (.iload_n 3, 1) := by decide +kernel
theorem dL_law_630 : decode cL_law 630 = .ok (.iconst 2, 1) := by decide +kernel
theorem dL_law_631 : decode cL_law 631 = .ok (.iadd, 1) := by decide +kernel
theorem dL_law_632 : decode cL_law 632 = .ok (.iaload, 1) := by decide +kernel
theorem dL_law_633 : decode cL_law 633 = .ok (.invokevirtual 74, 3) := by decide +kernel
theorem dL_law_636 : decode cL_law 636 = .ok (.if_icmp .eq 376, 3) := by decide +kernel
theorem dL_law_639 : decode cL_law 639 = .ok (.iconst 0, 1) := by decide +kernel
theorem dL_law_640 : decode cL_law 640 = .ok (.ireturn, 1) := by decide +kernel
theorem dL_law_641 : decode cL_law 641 = .ok (.aload_n 1, 1) := by decide +kernel
theorem dL_law_642 : decode cL_law 642 = .ok (.aload_n 0, 1) := by decide +kernel
theorem dL_law_643 : decode cL_law 643 = .ok (.iload_n 3, 1) := by decide +kernel
theorem dL_law_644 : decode cL_law 644 = .ok (.iconst 1, 1) := by decide +kernel
theorem dL_law_645 : decode cL_law 645 = .ok (.iadd, 1) := by decide +kernel
theorem dL_law_646 : decode cL_law 646 = .ok (.iaload, 1) := by decide +kernel
theorem dL_law_647 : decode cL_law 647 = .ok (.aload_n 0, 1) := by decide +kernel
theorem dL_law_648 : decode cL_law 648 = .ok (.iload_n 3, 1) := by decide +kernel
theorem dL_law_649 : decode cL_law 649 = .ok (.iconst 2, 1) := by decide +kernel
theorem dL_law_650 : decode cL_law 650 = .ok (.iadd, 1) := by decide +kernel
theorem dL_law_651 : decode cL_law 651 = .ok (.iaload, 1) := by decide +kernel
theorem dL_law_652 : decode cL_law 652 = .ok (.aload_n 0, 1) := by decide +kernel
theorem dL_law_653 : decode cL_law 653 = .ok (.iload_n 3, 1) := by decide +kernel
theorem dL_law_654 : decode cL_law 654 = .ok (.iconst 3, 1) := by decide +kernel
theorem dL_law_655 : decode cL_law 655 = .ok (.iadd, 1) := by decide +kernel
theorem dL_law_656 : decode cL_law 656 = .ok (.iaload, 1) := by decide +kernel
theorem dL_law_657 : decode cL_law 657 = .ok (.invokevirtual 75, 3) := by decide +kernel
theorem dL_law_660 : decode cL_law 660 = .ok (.aload_n 2, 1) := by decide +kernel
theorem dL_law_661 : decode cL_law 661 = .ok (.aload_n 0, 1) := by decide +kernel
theorem dL_law_662 : decode cL_law 662 = .ok (.iload_n 3, 1) := by decide +kernel
theorem dL_law_663 : decode cL_law 663 = .ok (.iconst 1, 1) := by decide +kernel
theorem dL_law_664 : decode cL_law 664 = .ok (.iadd, 1) := by decide +kernel
theorem dL_law_665 : decode cL_law 665 = .ok (.iaload, 1) := by decide +kernel
theorem dL_law_666 : decode cL_law 666 = .ok (.aload_n 0, 1) := by decide +kernel
theorem dL_law_667 : decode cL_law 667 = .ok (.iload_n 3, 1) := by decide +kernel
theorem dL_law_668 : decode cL_law 668 = .ok (.iconst 2, 1) := by decide +kernel
theorem dL_law_669 : decode cL_law 669 = .ok (.iadd, 1) := by decide +kernel
theorem dL_law_670 : decode cL_law 670 = .ok (.iaload, 1) := by decide +kernel
theorem dL_law_671 : decode cL_law 671 = .ok (.aload_n 0, 1) := by decide +kernel
theorem dL_law_672 : decode cL_law 672 = .ok (.iload_n 3, 1) := by decide +kernel
theorem dL_law_673 : decode cL_law 673 = .ok (.iconst 3, 1) := by decide +kernel
theorem dL_law_674 : decode cL_law 674 = .ok (.iadd, 1) := by decide +kernel
theorem dL_law_675 : decode cL_law 675 = .ok (.iaload, 1) := by decide +kernel
theorem dL_law_676 : decode cL_law 676 = .ok (.invokevirtual 79, 3) := by decide +kernel
theorem dL_law_679 : decode cL_law 679 = .ok (.if_icmp .eq 333, 3) := by decide +kernel
theorem dL_law_682 : decode cL_law 682 = .ok (.iconst 0, 1) := by decide +kernel
theorem dL_law_683 : decode cL_law 683 = .ok (.ireturn, 1) := by decide +kernel
theorem dL_law_684 : decode cL_law 684 = .ok (.aload_n 1, 1) := by decide +kernel
theorem dL_law_685 : decode cL_law 685 = .ok (.aload_n 0, 1) := by decide +kernel
theorem dL_law_686 : decode cL_law 686 = .ok (.iload_n 3, 1) := by decide +kernel
theorem dL_law_687 : decode cL_law 687 = .ok (.iconst 1, 1) := by decide +kernel
theorem dL_law_688 : decode cL_law 688 = .ok (.iadd, 1) := by decide +kernel
theorem dL_law_689 : decode cL_law 689 = .ok (.iaload, 1) := by decide +kernel
theorem dL_law_690 : decode cL_law 690 = .ok (.aload_n 0, 1) := by decide +kernel
theorem dL_law_691 : decode cL_law 691 = .ok (.iload_n 3, 1) := by decide +kernel
theorem dL_law_692 : decode cL_law 692 = .ok (.iconst 2, 1) := by decide +kernel
theorem dL_law_693 : decode cL_law 693 = .ok (.iadd, 1) := by decide +kernel
theorem dL_law_694 : decode cL_law 694 = .ok (.iaload, 1) := by decide +kernel
theorem dL_law_695 : decode cL_law 695 = .ok (.invokevirtual 80, 3) := by decide +kernel
theorem dL_law_698 : decode cL_law 698 = .ok (.aload_n 2, 1) := by decide +kernel
theorem dL_law_699 : decode cL_law 699 = .ok (.aload_n 0, 1) := by decide +kernel
theorem dL_law_700 : decode cL_law 700 = .ok (.iload_n 3, 1) := by decide +kernel
theorem dL_law_701 : decode cL_law 701 = .ok (.iconst 1, 1) := by decide +kernel
theorem dL_law_702 : decode cL_law 702 = .ok (.iadd, 1) := by decide +kernel
theorem dL_law_703 : decode cL_law 703 = .ok (.iaload, 1) := by decide +kernel
theorem dL_law_704 : decode cL_law 704 = .ok (.aload_n 0, 1) := by decide +kernel
theorem dL_law_705 : decode cL_law 705 = .ok (.iload_n 3, 1) := by decide +kernel
theorem dL_law_706 : decode cL_law 706 = .ok (.iconst 2, 1) := by decide +kernel
theorem dL_law_707 : decode cL_law 707 = .ok (.iadd, 1) := by decide +kernel
theorem dL_law_708 : decode cL_law 708 = .ok (.iaload, 1) := by decide +kernel
theorem dL_law_709 : decode cL_law 709 = .ok (.invokevirtual 83, 3) := by decide +kernel
theorem dL_law_712 : decode cL_law 712 = .ok (.if_icmp .eq 300, 3) := by decide +kernel
theorem dL_law_715 : decode cL_law 715 = .ok (.iconst 0, 1) := by decide +kernel
theorem dL_law_716 : decode cL_law 716 = .ok (.ireturn, 1) := by decide +kernel
theorem dL_law_717 : decode cL_law 717 = .ok (.aload_n 1, 1) := by decide +kernel
theorem dL_law_718 : decode cL_law 718 = .ok (.aload_n 0, 1) := by decide +kernel
theorem dL_law_719 : decode cL_law 719 = .ok (.iload_n 3, 1) := by decide +kernel
theorem dL_law_720 : decode cL_law 720 = .ok (.iconst 1, 1) := by decide +kernel
theorem dL_law_721 : decode cL_law 721 = .ok (.iadd, 1) := by decide +kernel
theorem dL_law_722 : decode cL_law 722 = .ok (.iaload, 1) := by decide +kernel
theorem dL_law_723 : decode cL_law 723 = .ok (.aload_n 0, 1) := by decide +kernel
theorem dL_law_724 : decode cL_law 724 = .ok (.iload_n 3, 1) := by decide +kernel
theorem dL_law_725 : decode cL_law 725 = .ok (.iconst 2, 1) := by decide +kernel
theorem dL_law_726 : decode cL_law 726 = .ok (.iadd, 1) := by decide +kernel
theorem dL_law_727 : decode cL_law 727 = .ok (.iaload, 1) := by decide +kernel
theorem dL_law_728 : decode cL_law 728 = .ok (.invokevirtual 84, 3) := by decide +kernel
theorem dL_law_731 : decode cL_law 731 = .ok (.aload_n 2, 1) := by decide +kernel
theorem dL_law_732 : decode cL_law 732 = .ok (.aload_n 0, 1) := by decide +kernel
theorem dL_law_733 : decode cL_law 733 = .ok (.iload_n 3, 1) := by decide +kernel
theorem dL_law_734 : decode cL_law 734 = .ok (.iconst 1, 1) := by decide +kernel
theorem dL_law_735 : decode cL_law 735 = .ok (.iadd, 1) := by decide +kernel
theorem dL_law_736 : decode cL_law 736 = .ok (.iaload, 1) := by decide +kernel
theorem dL_law_737 : decode cL_law 737 = .ok (.aload_n 0, 1) := by decide +kernel
theorem dL_law_738 : decode cL_law 738 = .ok (.iload_n 3, 1) := by decide +kernel
theorem dL_law_739 : decode cL_law 739 = .ok (.iconst 2, 1) := by decide +kernel
theorem dL_law_740 : decode cL_law 740 = .ok (.iadd, 1) := by decide +kernel
theorem dL_law_741 : decode cL_law 741 = .ok (.iaload, 1) := by decide +kernel
theorem dL_law_742 : decode cL_law 742 = .ok (.invokevirtual 87, 3) := by decide +kernel
theorem dL_law_745 : decode cL_law 745 = .ok (.if_icmp .eq 267, 3) := by decide +kernel
theorem dL_law_748 : decode cL_law 748 = .ok (.iconst 0, 1) := by decide +kernel
theorem dL_law_749 : decode cL_law 749 = .ok (.ireturn, 1) := by decide +kernel
theorem dL_law_750 : decode cL_law 750 = .ok (.aload_n 1, 1) := by decide +kernel
theorem dL_law_751 : decode cL_law 751 = .ok (.aload_n 0, 1) := by decide +kernel
theorem dL_law_752 : decode cL_law 752 = .ok (.iload_n 3, 1) := by decide +kernel
theorem dL_law_753 : decode cL_law 753 = .ok (.iconst 1, 1) := by decide +kernel
theorem dL_law_754 : decode cL_law 754 = .ok (.iadd, 1) := by decide +kernel
theorem dL_law_755 : decode cL_law 755 = .ok (.iaload, 1) := by decide +kernel
theorem dL_law_756 : decode cL_law 756 = .ok (.invokevirtual 88, 3) := by decide +kernel
theorem dL_law_759 : decode cL_law 759 = .ok (.aload_n 2, 1) := by decide +kernel
theorem dL_law_760 : decode cL_law 760 = .ok (.aload_n 0, 1) := by decide +kernel
theorem dL_law_761 : decode cL_law 761 = .ok (.iload_n 3, 1) := by decide +kernel
theorem dL_law_762 : decode cL_law 762 = .ok (.iconst 1, 1) := by decide +kernel
theorem dL_law_763 : decode cL_law 763 = .ok (.iadd, 1) := by decide +kernel
theorem dL_law_764 : decode cL_law 764 = .ok (.iaload, 1) := by decide +kernel
theorem dL_law_765 : decode cL_law 765 = .ok (.invokevirtual 91, 3) := by decide +kernel
theorem dL_law_768 : decode cL_law 768 = .ok (.if_icmp .eq 244, 3) := by decide +kernel
theorem dL_law_771 : decode cL_law 771 = .ok (.iconst 0, 1) := by decide +kernel
theorem dL_law_772 : decode cL_law 772 = .ok (.ireturn, 1) := by decide +kernel
theorem dL_law_773 : decode cL_law 773 = .ok (.aload_n 1, 1) := by decide +kernel
theorem dL_law_774 : decode cL_law 774 = .ok (.aload_n 0, 1) := by decide +kernel
theorem dL_law_775 : decode cL_law 775 = .ok (.iload_n 3, 1) := by decide +kernel
theorem dL_law_776 : decode cL_law 776 = .ok (.iconst 1, 1) := by decide +kernel
theorem dL_law_777 : decode cL_law 777 = .ok (.iadd, 1) := by decide +kernel
theorem dL_law_778 : decode cL_law 778 = .ok (.iaload, 1) := by decide +kernel
theorem dL_law_779 : decode cL_law 779 = .ok (.invokevirtual 92, 3) := by decide +kernel
theorem dL_law_782 : decode cL_law 782 = .ok (.aload_n 2, 1) := by decide +kernel
theorem dL_law_783 : decode cL_law 783 = .ok (.aload_n 0, 1) := by decide +kernel
theorem dL_law_784 : decode cL_law 784 = .ok (.iload_n 3, 1) := by decide +kernel
theorem dL_law_785 : decode cL_law 785 = .ok (.iconst 1, 1) := by decide +kernel
theorem dL_law_786 : decode cL_law 786 = .ok (.iadd, 1) := by decide +kernel
theorem dL_law_787 : decode cL_law 787 = .ok (.iaload, 1) := by decide +kernel
theorem dL_law_788 : decode cL_law 788 = .ok (.invokevirtual 95, 3) := by decide +kernel
theorem dL_law_791 : decode cL_law 791 = .ok (.if_icmp .eq 221, 3) := by decide +kernel
theorem dL_law_794 : decode cL_law 794 = .ok (.iconst 0, 1) := by decide +kernel
theorem dL_law_795 : decode cL_law 795 = .ok (.ireturn, 1) := by decide +kernel
theorem dL_law_796 : decode cL_law 796 = .ok (.aload_n 1, 1) := by decide +kernel
theorem dL_law_797 : decode cL_law 797 = .ok (.aload_n 0, 1) := by decide +kernel
theorem dL_law_798 : decode cL_law 798 = .ok (.iload_n 3, 1) := by decide +kernel
theorem dL_law_799 : decode cL_law 799 = .ok (.iconst 1, 1) := by decide +kernel
theorem dL_law_800 : decode cL_law 800 = .ok (.iadd, 1) := by decide +kernel
theorem dL_law_801 : decode cL_law 801 = .ok (.iaload, 1) := by decide +kernel
theorem dL_law_802 : decode cL_law 802 = .ok (.invokevirtual 96, 3) := by decide +kernel
theorem dL_law_805 : decode cL_law 805 = .ok (.aload_n 2, 1) := by decide +kernel
theorem dL_law_806 : decode cL_law 806 = .ok (.aload_n 0, 1) := by decide +kernel
theorem dL_law_807 : decode cL_law 807 = .ok (.iload_n 3, 1) := by decide +kernel
theorem dL_law_808 : decode cL_law 808 = .ok (.iconst 1, 1) := by decide +kernel
theorem dL_law_809 : decode cL_law 809 = .ok (.iadd, 1) := by decide +kernel
theorem dL_law_810 : decode cL_law 810 = .ok (.iaload, 1) := by decide +kernel
theorem dL_law_811 : decode cL_law 811 = .ok (.invokevirtual 99, 3) := by decide +kernel
theorem dL_law_814 : decode cL_law 814 = .ok (.if_icmp .eq 198, 3) := by decide +kernel
theorem dL_law_817 : decode cL_law 817 = .ok (.iconst 0, 1) := by decide +kernel
theorem dL_law_818 : decode cL_law 818 = .ok (.ireturn, 1) := by decide +kernel
theorem dL_law_819 : decode cL_law 819 = .ok (.aload_n 1, 1) := by decide +kernel
theorem dL_law_820 : decode cL_law 820 = .ok (.aload_n 0, 1) := by decide +kernel
theorem dL_law_821 : decode cL_law 821 = .ok (.iload_n 3, 1) := by decide +kernel
theorem dL_law_822 : decode cL_law 822 = .ok (.iconst 1, 1) := by decide +kernel
theorem dL_law_823 : decode cL_law 823 = .ok (.iadd, 1) := by decide +kernel
theorem dL_law_824 : decode cL_law 824 = .ok (.iaload, 1) := by decide +kernel
theorem dL_law_825 : decode cL_law 825 = .ok (.invokevirtual 100, 3) := by decide +kernel
theorem dL_law_828 : decode cL_law 828 = .ok (.aload_n 2, 1) := by decide +kernel
theorem dL_law_829 : decode cL_law 829 = .ok (.aload_n 0, 1) := by decide +kernel
theorem dL_law_830 : decode cL_law 830 = .ok (.iload_n 3, 1) := by decide +kernel
theorem dL_law_831 : decode cL_law 831 = .ok (.iconst 1, 1) := by decide +kernel
theorem dL_law_832 : decode cL_law 832 = .ok (.iadd, 1) := by decide +kernel
theorem dL_law_833 : decode cL_law 833 = .ok (.iaload, 1) := by decide +kernel
theorem dL_law_834 : decode cL_law 834 = .ok (.invokevirtual 103, 3) := by decide +kernel
theorem dL_law_837 : decode cL_law 837 = .ok (.if_icmp .eq 175, 3) := by decide +kernel
theorem dL_law_840 : decode cL_law 840 = .ok (.iconst 0, 1) := by decide +kernel
theorem dL_law_841 : decode cL_law 841 = .ok (.ireturn, 1) := by decide +kernel
theorem dL_law_842 : decode cL_law 842 = .ok (.aload_n 1, 1) := by decide +kernel
theorem dL_law_843 : decode cL_law 843 = .ok (.aload_n 0, 1) := by decide +kernel
theorem dL_law_844 : decode cL_law 844 = .ok (.iload_n 3, 1) := by decide +kernel
theorem dL_law_845 : decode cL_law 845 = .ok (.iconst 1, 1) := by decide +kernel
theorem dL_law_846 : decode cL_law 846 = .ok (.iadd, 1) := by decide +kernel
theorem dL_law_847 : decode cL_law 847 = .ok (.iaload, 1) := by decide +kernel
theorem dL_law_848 : decode cL_law 848 = .ok (.invokevirtual 104, 3) := by decide +kernel
theorem dL_law_851 : decode cL_law 851 = .ok (.aload_n 2, 1) := by decide +kernel
theorem dL_law_852 : decode cL_law 852 = .ok (.aload_n 0, 1) := by decide +kernel
theorem dL_law_853 : decode cL_law 853 = .ok (.iload_n 3, 1) := by decide +kernel
theorem dL_law_854 : decode cL_law 854 = .ok (.iconst 1, 1) := by decide +kernel
theorem dL_law_855 : decode cL_law 855 = .ok (.iadd, 1) := by decide +kernel
theorem dL_law_856 : decode cL_law 856 = .ok (.iaload, 1) := by decide +kernel
theorem dL_law_857 : decode cL_law 857 = .ok (.invokevirtual 107, 3) := by decide +kernel
theorem dL_law_860 : decode cL_law 860 = .ok (.if_icmp .eq 152, 3) := by decide +kernel
theorem dL_law_863 : decode cL_law 863 = .ok (.iconst 0, 1) := by decide +kernel
theorem dL_law_864 : decode cL_law 864 = .ok (.ireturn, 1) := by decide +kernel
theorem dL_law_865 : decode cL_law 865 = .ok (.aload_n 1, 1) := by decide +kernel
theorem dL_law_866 : decode cL_law 866 = .ok (.aload_n 0, 1) := by decide +kernel
theorem dL_law_867 : decode cL_law 867 = .ok (.iload_n 3, 1) := by decide +kernel
theorem dL_law_868 : decode cL_law 868 = .ok (.iconst 1, 1) := by decide +kernel
theorem dL_law_869 : decode cL_law 869 = .ok (.iadd, 1) := by decide +kernel
theorem dL_law_870 : decode cL_law 870 = .ok (.iaload, 1) := by decide +kernel
theorem dL_law_871 : decode cL_law 871 = .ok (.invokevirtual 108, 3) := by decide +kernel
theorem dL_law_874 : decode cL_law 874 = .ok (.aload_n 2, 1) := by decide +kernel
theorem dL_law_875 : decode cL_law 875 = .ok (.aload_n 0, 1) := by decide +kernel
theorem dL_law_876 : decode cL_law 876 = .ok (.iload_n 3, 1) := by decide +kernel
theorem dL_law_877 : decode cL_law 877 = .ok (.iconst 1, 1) := by decide +kernel
theorem dL_law_878 : decode cL_law 878 = .ok (.iadd, 1) := by decide +kernel
theorem dL_law_879 : decode cL_law 879 = .ok (.iaload, 1) := by decide +kernel
theorem dL_law_880 : decode cL_law 880 = .ok (.invokevirtual 111, 3) := by decide +kernel
theorem dL_law_883 : decode cL_law 883 = .ok (.if_icmp .eq 129, 3) := by decide +kernel
theorem dL_law_886 : decode cL_law 886 = .ok (.iconst 0, 1) := by decide +kernel
theorem dL_law_887 : decode cL_law 887 = .ok (.ireturn, 1) := by decide +kernel
theorem dL_law_888 : decode cL_law 888 = .ok (.aload_n 1, 1) := by decide +kernel
theorem dL_law_889 : decode cL_law 889 = .ok (.invokevirtual 112, 3) := by decide +kernel
theorem dL_law_892 : decode cL_law 892 = .ok (.aload_n 2, 1) := by decide +kernel
theorem dL_law_893 : decode cL_law 893 = .ok (.invokevirtual 116, 3) := by decide +kernel
theorem dL_law_896 : decode cL_law 896 = .ok (.if_icmp .eq 116, 3) := by decide +kernel
theorem dL_law_899 : decode cL_law 899 = .ok (.iconst 0, 1) := by decide +kernel
theorem dL_law_900 : decode cL_law 900 = .ok (.ireturn, 1) := by decide +kernel
theorem dL_law_901 : decode cL_law 901 = .ok (.aload_n 1, 1) := by decide +kernel
theorem dL_law_902 : decode cL_law 902 = .ok (.aload_n 0, 1) := by decide +kernel
theorem dL_law_903 : decode cL_law 903 = .ok (.iload_n 3, 1) := by decide +kernel
theorem dL_law_904 : decode cL_law 904 = .ok (.iconst 1, 1) := by decide +kernel
theorem dL_law_905 : decode cL_law 905 = .ok (.iadd, 1) := by decide +kernel
theorem dL_law_906 : decode cL_law 906 = .ok (.iaload, 1) := by decide +kernel
theorem dL_law_907 : decode cL_law 907 = .ok (.invokevirtual 117, 3) := by decide +kernel
theorem dL_law_910 : decode cL_law 910 = .ok (.aload_n 2, 1) := by decide +kernel
theorem dL_law_911 : decode cL_law 911 = .ok (.aload_n 0, 1) := by decide +kernel
theorem dL_law_912 : decode cL_law 912 = .ok (.iload_n 3, 1) := by decide +kernel
theorem dL_law_913 : decode cL_law 913 = .ok (.iconst 1, 1) := by decide +kernel
theorem dL_law_914 : decode cL_law 914 = .ok (.iadd, 1) := by decide +kernel
theorem dL_law_915 : decode cL_law 915 = .ok (.iaload, 1) := by decide +kernel
theorem dL_law_916 : decode cL_law 916 = .ok (.invokevirtual 120, 3) := by decide +kernel
theorem dL_law_919 : decode cL_law 919 = .ok (.if_icmp .eq 93, 3) := by decide +kernel
theorem dL_law_922 : decode cL_law 922 = .ok (.iconst 0, 1) := by decide +kernel
theorem dL_law_923 : decode cL_law 923 = .ok (.ireturn, 1) := by decide +kernel
theorem dL_law_924 : decode cL_law 924 = .ok (.aload_n 1, 1) := by decide +kernel
theorem dL_law_925 : decode cL_law 925 = .ok (.aload_n 0, 1) := by decide +kernel
theorem dL_law_926 : decode cL_law 926 = .ok (.iload_n 3, 1) := by decide +kernel
theorem dL_law_927 : decode cL_law 927 = .ok (.iconst 1, 1) := by decide +kernel
theorem dL_law_928 : decode cL_law 928 = .ok (.iadd, 1) := by decide +kernel
theorem dL_law_929 : decode cL_law 929 = .ok (.iaload, 1) := by decide +kernel
theorem dL_law_930 : decode cL_law 930 = .ok (.invokevirtual 121, 3) := by decide +kernel
theorem dL_law_933 : decode cL_law 933 = .ok (.aload_n 2, 1) := by decide +kernel
theorem dL_law_934 : decode cL_law 934 = .ok (.aload_n 0, 1) := by decide +kernel
theorem dL_law_935 : decode cL_law 935 = .ok (.iload_n 3, 1) := by decide +kernel
theorem dL_law_936 : decode cL_law 936 = .ok (.iconst 1, 1) := by decide +kernel
theorem dL_law_937 : decode cL_law 937 = .ok (.iadd, 1) := by decide +kernel
theorem dL_law_938 : decode cL_law 938 = .ok (.iaload, 1) := by decide +kernel
theorem dL_law_939 : decode cL_law 939 = .ok (.invokevirtual 124, 3) := by decide +kernel
theorem dL_law_942 : decode cL_law 942 = .ok (.if_icmp .eq 70, 3) := by decide +kernel
theorem dL_law_945 : decode cL_law 945 = .ok (.iconst 0, 1) := by decide +kernel
theorem dL_law_946 : decode cL_law 946 = .ok (.ireturn, 1) := by decide +kernel
theorem dL_law_947 : decode cL_law 947 = .ok (.aload_n 1, 1) := by decide +kernel
theorem dL_law_948 : decode cL_law 948 = .ok (.invokevirtual 125, 3) := by decide +kernel
theorem dL_law_951 : decode cL_law 951 = .ok (.aload_n 2, 1) := by decide +kernel
theorem dL_law_952 : decode cL_law 952 = .ok (.invokevirtual 128, 3) := by decide +kernel
theorem dL_law_955 : decode cL_law 955 = .ok (.if_icmp .eq 57, 3) := by decide +kernel
theorem dL_law_958 : decode cL_law 958 = .ok (.iconst 0, 1) := by decide +kernel
theorem dL_law_959 : decode cL_law 959 = .ok (.ireturn, 1) := by decide +kernel
theorem dL_law_960 : decode cL_law 960 = .ok (.aload_n 1, 1) := by decide +kernel
theorem dL_law_961 : decode cL_law 961 = .ok (.invokevirtual 129, 3) := by decide +kernel
theorem dL_law_964 : decode cL_law 964 = .ok (.aload_n 2, 1) := by decide +kernel
theorem dL_law_965 : decode cL_law 965 = .ok (.invokevirtual 132, 3) := by decide +kernel
theorem dL_law_968 : decode cL_law 968 = .ok (.if_icmp .eq 44, 3) := by decide +kernel
theorem dL_law_971 : decode cL_law 971 = .ok (.iconst 0, 1) := by decide +kernel
theorem dL_law_972 : decode cL_law 972 = .ok (.ireturn, 1) := by decide +kernel
theorem dL_law_973 : decode cL_law 973 = .ok (.aload_n 1, 1) := by decide +kernel
theorem dL_law_974 : decode cL_law 974 = .ok (.invokevirtual 133, 3) := by decide +kernel
theorem dL_law_977 : decode cL_law 977 = .ok (.aload_n 2, 1) := by decide +kernel
theorem dL_law_978 : decode cL_law 978 = .ok (.invokevirtual 136, 3) := by decide +kernel
theorem dL_law_981 : decode cL_law 981 = .ok (.if_icmp .eq 31, 3) := by decide +kernel
theorem dL_law_984 : decode cL_law 984 = .ok (.iconst 0, 1) := by decide +kernel
theorem dL_law_985 : decode cL_law 985 = .ok (.ireturn, 1) := by decide +kernel
theorem dL_law_986 : decode cL_law 986 = .ok (.aload_n 1, 1) := by decide +kernel
theorem dL_law_987 : decode cL_law 987 = .ok (.invokevirtual 137, 3) := by decide +kernel
theorem dL_law_990 : decode cL_law 990 = .ok (.aload_n 2, 1) := by decide +kernel
theorem dL_law_991 : decode cL_law 991 = .ok (.invokevirtual 140, 3) := by decide +kernel
theorem dL_law_994 : decode cL_law 994 = .ok (.if_icmp .eq 18, 3) := by decide +kernel
theorem dL_law_997 : decode cL_law 997 = .ok (.iconst 0, 1) := by decide +kernel
theorem dL_law_998 : decode cL_law 998 = .ok (.ireturn, 1) := by decide +kernel
theorem dL_law_999 : decode cL_law 999 = .ok (.aload_n 1, 1) := by decide +kernel
theorem dL_law_1000 : decode cL_law 1000 = .ok (.invokevirtual 141, 3) := by decide +kernel
theorem dL_law_1003 : decode cL_law 1003 = .ok (.aload_n 2, 1) := by decide +kernel
theorem dL_law_1004 : decode cL_law 1004 = .ok (.invokevirtual 144, 3) := by decide +kernel
theorem dL_law_1007 : decode cL_law 1007 = .ok (.if_icmp .eq 5, 3) := by decide +kernel
theorem dL_law_1010 : decode cL_law 1010 = .ok (.iconst 0, 1) := by decide +kernel
theorem dL_law_1011 : decode cL_law 1011 = .ok (.ireturn, 1) := by decide +kernel
theorem dL_law_1012 : decode cL_law 1012 = .ok (.iinc 3 4, 3) := by decide +kernel
theorem dL_law_1015 : decode cL_law 1015 = .ok (.goto (-997), 3) := by decide +kernel
theorem dL_law_1018 : decode cL_law 1018 = .ok (.iconst 1, 1) := by decide +kernel
theorem dL_law_1019 : decode cL_law 1019 = .ok (.ireturn, 1) := by decide +kernel
abbrev vwCl : List vw_C := [(RX0, TX0, 3), (RX1, TX1, 7), (RX2, TX2, 2), (RX3, TX3, 5), (RX4, TX4, 11), (RX5, TX5, 21)]
end
section
def tw : List Cond := lw_tbl.filter goodWord
/-! THE WORLD: one memory (int fields and int arrays) over a layout that never changes once it is made. -/
abbrev Lay : Type := List Nat × (Nat → Nat) × (Nat → Nat → Nat) × (Nat → Nat) × (Nat → Nat → Nat) × (Nat → ClassId)
def lyL (Λ : Lay) : List Nat := Λ.1
def lyK (Λ : Lay) : Nat → Nat := Λ.2.1
def lyR (Λ : Lay) : Nat → Nat → Nat := Λ.2.2.1
def lyN (Λ : Lay) : Nat → Nat := Λ.2.2.2.1
def lyE (Λ : Lay) : Nat → Nat → Nat := Λ.2.2.2.2.1
def lyC (Λ : Lay) : Nat → ClassId := Λ.2.2.2.2.2
abbrev Mem : Type := (Nat → Nat → Int32) × (Nat → Nat → Int32)
def mI (μ : Mem) (a k : Nat) : Int32 := μ.1 a k
def mA (μ : Mem) (a j : Nat) : Int32 := μ.2 a j
def stI (μ : Mem) (a k : Nat) (v : Int32) : Mem := (fun b j => if b = a ∧ j = k then v else μ.1 b j, μ.2)
def stA (μ : Mem) (a j : Nat) (v : Int32) : Mem := (μ.1, fun b i => if b = a ∧ i = j then v else μ.2 b i)
def tysOf (Λ : Lay) : List (ClassId × FieldType) := [(lyC Λ 0, .int), (lyC Λ 1, .char), (lyC Λ 2, .object RX2), (lyC Λ 3, .object RX1), (lyC Λ 4, .array .int)]
def encQ (Λ : Lay) (a : Nat) : Nat → Option Nat := fun j => if j < lyN Λ a then some (lyE Λ a j) else none
def enc (Λ : Lay) (μ : Mem) (a : Nat) : va_E :=
  match lyK Λ a with
  | 0 => .inr (0, [.ref (lyR Λ a 0), .int (mI μ a 1), .int (mI μ a 2)])
  | 1 => .inr (1, [.ref (lyR Λ a 0), .ref (lyR Λ a 1), .ref (lyR Λ a 2), .ref (lyR Λ a 3), .int (mI μ a 4), .int (mI μ a 5), .int (mI μ a 6)])
  | 2 => .inr (2, [.ref (lyR Λ a 0), .int (mI μ a 1)])
  | 3 => .inr (3, [.ref (lyR Λ a 0), .ref (lyR Λ a 1), .ref (lyR Λ a 2), .int (mI μ a 3), .int (mI μ a 4)])
  | 4 => .inr (4, [.ref (lyR Λ a 0), .ref (lyR Λ a 1), .ref (lyR Λ a 2), .ref (lyR Λ a 3), .ref (lyR Λ a 4), .ref (lyR Λ a 5), .int (mI μ a 6), .int (mI μ a 7), .int (mI μ a 8), .int (mI μ a 9), .int (mI μ a 10)])
  | 5 => .inr (5, [.ref (lyR Λ a 0), .ref (lyR Λ a 1), .ref (lyR Λ a 2), .ref (lyR Λ a 3), .int (mI μ a 4), .int (mI μ a 5), .int (mI μ a 6), .int (mI μ a 7), .int (mI μ a 8), .int (mI μ a 9), .int (mI μ a 10), .ref (lyR Λ a 11), .ref (lyR Λ a 12), .int (mI μ a 13), .ref (lyR Λ a 14), .int (mI μ a 15), .int (mI μ a 16), .int (mI μ a 17), .int (mI μ a 18), .int (mI μ a 19), .int (mI μ a 20)])
  | 6 => .inl (lyC Λ 0, lyN Λ a, .inl (mA μ a))
  | 7 => .inl (lyC Λ 1, lyN Λ a, .inl (mA μ a))
  | 8 => .inl (lyC Λ 2, lyN Λ a, .inr (.inr (.inr (.inr (encQ Λ a)))))
  | 9 => .inl (lyC Λ 3, lyN Λ a, .inr (.inr (.inr (.inr (encQ Λ a)))))
  | _ => .inl (lyC Λ 4, lyN Λ a, .inr (.inr (.inr (.inr (encQ Λ a)))))
theorem enc_0 {Λ : Lay} {μ : Mem} {a : Nat} (h : lyK Λ a = 0) : enc Λ μ a = .inr (0, [.ref (lyR Λ a 0), .int (mI μ a 1), .int (mI μ a 2)]) := by unfold enc; rw [h]; rfl
theorem enc_1 {Λ : Lay} {μ : Mem} {a : Nat} (h : lyK Λ a = 1) : enc Λ μ a = .inr (1, [.ref (lyR Λ a 0), .ref (lyR Λ a 1), .ref (lyR Λ a 2), .ref (lyR Λ a 3), .int (mI μ a 4), .int (mI μ a 5), .int (mI μ a 6)]) := by unfold enc; rw [h]; rfl
theorem enc_2 {Λ : Lay} {μ : Mem} {a : Nat} (h : lyK Λ a = 2) : enc Λ μ a = .inr (2, [.ref (lyR Λ a 0), .int (mI μ a 1)]) := by unfold enc; rw [h]; rfl
theorem enc_3 {Λ : Lay} {μ : Mem} {a : Nat} (h : lyK Λ a = 3) : enc Λ μ a = .inr (3, [.ref (lyR Λ a 0), .ref (lyR Λ a 1), .ref (lyR Λ a 2), .int (mI μ a 3), .int (mI μ a 4)]) := by unfold enc; rw [h]; rfl
theorem enc_4 {Λ : Lay} {μ : Mem} {a : Nat} (h : lyK Λ a = 4) : enc Λ μ a = .inr (4, [.ref (lyR Λ a 0), .ref (lyR Λ a 1), .ref (lyR Λ a 2), .ref (lyR Λ a 3), .ref (lyR Λ a 4), .ref (lyR Λ a 5), .int (mI μ a 6), .int (mI μ a 7), .int (mI μ a 8), .int (mI μ a 9), .int (mI μ a 10)]) := by unfold enc; rw [h]; rfl
theorem enc_5 {Λ : Lay} {μ : Mem} {a : Nat} (h : lyK Λ a = 5) : enc Λ μ a = .inr (5, [.ref (lyR Λ a 0), .ref (lyR Λ a 1), .ref (lyR Λ a 2), .ref (lyR Λ a 3), .int (mI μ a 4), .int (mI μ a 5), .int (mI μ a 6), .int (mI μ a 7), .int (mI μ a 8), .int (mI μ a 9), .int (mI μ a 10), .ref (lyR Λ a 11), .ref (lyR Λ a 12), .int (mI μ a 13), .ref (lyR Λ a 14), .int (mI μ a 15), .int (mI μ a 16), .int (mI μ a 17), .int (mI μ a 18), .int (mI μ a 19), .int (mI μ a 20)]) := by unfold enc; rw [h]; rfl
theorem enc_6 {Λ : Lay} {μ : Mem} {a : Nat} (h : lyK Λ a = 6) : enc Λ μ a = .inl (lyC Λ 0, lyN Λ a, .inl (mA μ a)) := by unfold enc; rw [h]; rfl
theorem enc_7 {Λ : Lay} {μ : Mem} {a : Nat} (h : lyK Λ a = 7) : enc Λ μ a = .inl (lyC Λ 1, lyN Λ a, .inl (mA μ a)) := by unfold enc; rw [h]; rfl
theorem enc_8 {Λ : Lay} {μ : Mem} {a : Nat} (h : lyK Λ a = 8) : enc Λ μ a = .inl (lyC Λ 2, lyN Λ a, .inr (.inr (.inr (.inr (encQ Λ a))))) := by unfold enc; rw [h]; rfl
theorem enc_9 {Λ : Lay} {μ : Mem} {a : Nat} (h : lyK Λ a = 9) : enc Λ μ a = .inl (lyC Λ 3, lyN Λ a, .inr (.inr (.inr (.inr (encQ Λ a))))) := by unfold enc; rw [h]; rfl
theorem enc_10 {Λ : Lay} {μ : Mem} {a : Nat} (h : lyK Λ a = 10) : enc Λ μ a = .inl (lyC Λ 4, lyN Λ a, .inr (.inr (.inr (.inr (encQ Λ a))))) := by unfold enc; rw [h]; rfl
def inK (Λ : Lay) (a k : Nat) : Prop := a ∈ lyL Λ ∧ lyK Λ a = k
def okR (Λ : Lay) (a : Nat) : Prop :=
  (lyK Λ a = 0 → inK Λ (lyR Λ a 0) 9) ∧
  (lyK Λ a = 1 → inK Λ (lyR Λ a 0) 2 ∧ inK Λ (lyR Λ a 1) 2 ∧ inK Λ (lyR Λ a 2) 8 ∧ inK Λ (lyR Λ a 3) 2) ∧
  (lyK Λ a = 2 → inK Λ (lyR Λ a 0) 6) ∧
  (lyK Λ a = 3 → inK Λ (lyR Λ a 0) 2 ∧ inK Λ (lyR Λ a 1) 2 ∧ inK Λ (lyR Λ a 2) 2) ∧
  (lyK Λ a = 4 → inK Λ (lyR Λ a 0) 1 ∧ inK Λ (lyR Λ a 1) 1 ∧ inK Λ (lyR Λ a 2) 0 ∧ inK Λ (lyR Λ a 3) 2 ∧ inK Λ (lyR Λ a 4) 2 ∧ inK Λ (lyR Λ a 5) 3) ∧
  (lyK Λ a = 5 → inK Λ (lyR Λ a 0) 6 ∧ inK Λ (lyR Λ a 1) 6 ∧ inK Λ (lyR Λ a 2) 6 ∧ inK Λ (lyR Λ a 3) 10 ∧ inK Λ (lyR Λ a 11) 6 ∧ inK Λ (lyR Λ a 12) 7 ∧ inK Λ (lyR Λ a 14) 6) ∧
  (lyK Λ a = 8 → ∀ j, j < lyN Λ a → inK Λ (lyE Λ a j) 2) ∧
  (lyK Λ a = 9 → ∀ j, j < lyN Λ a → inK Λ (lyE Λ a j) 1) ∧
  (lyK Λ a = 10 → ∀ j, j < lyN Λ a → inK Λ (lyE Λ a j) 6)
def LayOK (Λ : Lay) : Prop := (lyL Λ).Nodup ∧ ∀ a ∈ lyL Λ, okR Λ a
def inL (Λ : Lay) (q : Nat) : Prop := q ∈ lyL Λ
section LK
variable {Λ : Lay} {a : Nat} (h : LayOK Λ)
theorem lk_0_0 (h : LayOK Λ) (k : inK Λ a 0) : inK Λ (lyR Λ a 0) 9 := (h.2 a k.1).1 k.2
theorem lk_1_0 (h : LayOK Λ) (k : inK Λ a 1) : inK Λ (lyR Λ a 0) 2 := ((h.2 a k.1).2.1 k.2).1
theorem lk_1_1 (h : LayOK Λ) (k : inK Λ a 1) : inK Λ (lyR Λ a 1) 2 := ((h.2 a k.1).2.1 k.2).2.1
theorem lk_1_2 (h : LayOK Λ) (k : inK Λ a 1) : inK Λ (lyR Λ a 2) 8 := ((h.2 a k.1).2.1 k.2).2.2.1
theorem lk_1_3 (h : LayOK Λ) (k : inK Λ a 1) : inK Λ (lyR Λ a 3) 2 := ((h.2 a k.1).2.1 k.2).2.2.2
theorem lk_2_0 (h : LayOK Λ) (k : inK Λ a 2) : inK Λ (lyR Λ a 0) 6 := (h.2 a k.1).2.2.1 k.2
theorem lk_3_0 (h : LayOK Λ) (k : inK Λ a 3) : inK Λ (lyR Λ a 0) 2 := ((h.2 a k.1).2.2.2.1 k.2).1
theorem lk_3_1 (h : LayOK Λ) (k : inK Λ a 3) : inK Λ (lyR Λ a 1) 2 := ((h.2 a k.1).2.2.2.1 k.2).2.1
theorem lk_3_2 (h : LayOK Λ) (k : inK Λ a 3) : inK Λ (lyR Λ a 2) 2 := ((h.2 a k.1).2.2.2.1 k.2).2.2
theorem lk_4_0 (h : LayOK Λ) (k : inK Λ a 4) : inK Λ (lyR Λ a 0) 1 := ((h.2 a k.1).2.2.2.2.1 k.2).1
theorem lk_4_1 (h : LayOK Λ) (k : inK Λ a 4) : inK Λ (lyR Λ a 1) 1 := ((h.2 a k.1).2.2.2.2.1 k.2).2.1
theorem lk_4_2 (h : LayOK Λ) (k : inK Λ a 4) : inK Λ (lyR Λ a 2) 0 := ((h.2 a k.1).2.2.2.2.1 k.2).2.2.1
theorem lk_4_3 (h : LayOK Λ) (k : inK Λ a 4) : inK Λ (lyR Λ a 3) 2 := ((h.2 a k.1).2.2.2.2.1 k.2).2.2.2.1
theorem lk_4_4 (h : LayOK Λ) (k : inK Λ a 4) : inK Λ (lyR Λ a 4) 2 := ((h.2 a k.1).2.2.2.2.1 k.2).2.2.2.2.1
theorem lk_4_5 (h : LayOK Λ) (k : inK Λ a 4) : inK Λ (lyR Λ a 5) 3 := ((h.2 a k.1).2.2.2.2.1 k.2).2.2.2.2.2
theorem lk_5_0 (h : LayOK Λ) (k : inK Λ a 5) : inK Λ (lyR Λ a 0) 6 := ((h.2 a k.1).2.2.2.2.2.1 k.2).1
theorem lk_5_1 (h : LayOK Λ) (k : inK Λ a 5) : inK Λ (lyR Λ a 1) 6 := ((h.2 a k.1).2.2.2.2.2.1 k.2).2.1
theorem lk_5_2 (h : LayOK Λ) (k : inK Λ a 5) : inK Λ (lyR Λ a 2) 6 := ((h.2 a k.1).2.2.2.2.2.1 k.2).2.2.1
theorem lk_5_3 (h : LayOK Λ) (k : inK Λ a 5) : inK Λ (lyR Λ a 3) 10 := ((h.2 a k.1).2.2.2.2.2.1 k.2).2.2.2.1
theorem lk_5_11 (h : LayOK Λ) (k : inK Λ a 5) : inK Λ (lyR Λ a 11) 6 := ((h.2 a k.1).2.2.2.2.2.1 k.2).2.2.2.2.1
theorem lk_5_12 (h : LayOK Λ) (k : inK Λ a 5) : inK Λ (lyR Λ a 12) 7 := ((h.2 a k.1).2.2.2.2.2.1 k.2).2.2.2.2.2.1
theorem lk_5_14 (h : LayOK Λ) (k : inK Λ a 5) : inK Λ (lyR Λ a 14) 6 := ((h.2 a k.1).2.2.2.2.2.1 k.2).2.2.2.2.2.2
theorem lk_8 (h : LayOK Λ) (k : inK Λ a 8) {j : Nat} (hj : j < lyN Λ a) : inK Λ (lyE Λ a j) 2 := (h.2 a k.1).2.2.2.2.2.2.1 k.2 j hj
theorem lk_9 (h : LayOK Λ) (k : inK Λ a 9) {j : Nat} (hj : j < lyN Λ a) : inK Λ (lyE Λ a j) 1 := (h.2 a k.1).2.2.2.2.2.2.2.1 k.2 j hj
theorem lk_10 (h : LayOK Λ) (k : inK Λ a 10) {j : Nat} (hj : j < lyN Λ a) : inK Λ (lyE Λ a j) 6 := (h.2 a k.1).2.2.2.2.2.2.2.2 k.2 j hj
end LK
-- what a function's guard and its names say
def gd {α : Type} (c : Prop) [Decidable c] (x : Option α) : Option α := if c then x else none
theorem gd_some {α : Type} {c : Prop} [Decidable c] {x : Option α} {r : α} (h : gd c x = some r) : c ∧ x = some r := by
  unfold gd at h
  by_cases hc : c
  · rw [if_pos hc] at h; exact ⟨hc, h⟩
  · rw [if_neg hc] at h; cases h
theorem gd_t {α : Type} {c : Prop} [Decidable c] {x : Option α} (hc : c) : gd c x = x := if_pos hc
def bnd {α β : Type} (x : α) (f : α → β) : β := f x
theorem bnd_e {α β : Type} {x : α} {f : α → β} {r : β} (h : bnd x f = r) : ∃ y, y = x ∧ f y = r := ⟨x, rfl, h⟩
theorem obind_e {α β : Type} {x : Option α} {f : α → Option β} {r : β} (h : x.bind f = some r) : ∃ y, x = some y ∧ f y = some r := by
  cases x with
  | none => cases h
  | some y => exact ⟨y, rfl, h⟩
theorem ite_t {α : Type} {c : Prop} [Decidable c] {x y r : α} (h : ite c x y = r) (hc : c) : x = r := by rw [if_pos hc] at h; exact h
theorem ite_f {α : Type} {c : Prop} [Decidable c] {x y r : α} (h : ite c x y = r) (hc : ¬ c) : y = r := by rw [if_neg hc] at h; exact h
abbrev inb (i : Int32) (n : Nat) : Prop := ¬ (i < 0 ∨ n ≤ i.toNatClampNeg)
theorem inb_lt {i : Int32} {n : Nat} (h : inb i n) : i.toNatClampNeg < n := Nat.not_le.mp fun q => h (Or.inr q)
abbrev isB (v : Int32) : Prop := v = 0 ∨ v = 1
theorem isB_nar {v : Int32} (h : isB v) : narrow .boolean (.int v) = .int v := by rcases h with rfl | rfl <;> decide
def jushr (x y : Int32) : Int32 := (x.toUInt32 >>> (y.toUInt32 &&& Int32.toUInt32 31)).toInt32
def jchar (x : Int32) : Int32 := (x.toUInt32 % 65536).toInt32
def fuel : Nat := 4096
/-! THE MACHINE'S ROWS over the world. -/
theorem tw_mem {w : Cond} {i : Nat} (h : lw_tbl[i]? = some w) (g : goodWord w = true) : w ∈ tw := List.mem_filter.mpr ⟨List.mem_of_getElem? h, g⟩
theorem tw_good {w : Cond} (h : w ∈ tw) : goodWord w = true := (List.mem_filter.mp h).2
def wsm (y : MethodName) (b : ByteArray) (n : Nat) (r : Option FieldType) : List Cond := .code y b n r :: tw
abbrev rmd (d : Nat) : Room := { frames := d, cells := 0, slots := 0, locals := 40 * d }
theorem tw_in {y : MethodName} {b : ByteArray} {n : Nat} {r : Option FieldType} (h : Cond.code y b n r ∈ tw) : GoodIn tw (wsm y b n r) := by
  intro w hw
  rcases List.mem_cons.mp hw with rfl | hw
  · exact ⟨h, good_of_word (tw_good h)⟩
  · exact ⟨hw, good_of_word (tw_good hw)⟩
def Nw (U : State) : Prop := va_Nw (.methodLinkNest RX1 133 yX4_lowestIn RX4) U ∧ va_Nw (.methodLinkNest RX1 56 yX4_bit RX4) U ∧ va_Nw (.methodLinkNest RX2 38 yX4_bit RX4) U
def Xt (A : Nat → Prop) (U : State) : Prop := True
theorem Xt.blind {A : Nat → Prop} {U : State} (h : Xt A U) (g : JFrame) (mk : MethodId) (a : Array Value) : Xt A (U.calling g mk a) := trivial
theorem Xt.at {A : Nat → Prop} {s U : State} (h : Xt A s) (hW : s.WarmedH U.vm) (hk : ∀ q : Nat, q < s.heap.size → ¬ A q → U.heap[q]? = s.heap[q]?) : Xt A U := trivial
def KK (G : va_G) (Λ : Lay) (U : State) : Prop := va_K G vwCl (tysOf Λ) U ∧ Nw U ∧ Xt (inL Λ) U
theorem KK.blind {G : va_G} {Λ : Lay} {U : State} (h : KK G Λ U) (g : JFrame) (mk : MethodId) (a : Array Value) : KK G Λ (U.calling g mk a) :=
  ⟨va_K.moved (u := U) (U := U.calling g mk a) (Vm.Alike.refl U.vm) h.1, ⟨va_Nw.same rfl rfl h.2.1.1, va_Nw.same rfl rfl h.2.1.2.1, va_Nw.same rfl rfl h.2.1.2.2⟩, h.2.2.blind g mk a⟩
theorem KK.at {G : va_G} {Λ : Lay} {s U : State} {H : Heap} {locs : List Loc} (h : KK G Λ s) (hS : va_S (inL Λ) s.heap H locs) (hU : U.heap = H) (hW : s.WarmedH U.vm) : KK G Λ U :=
  ⟨va_K.moved hW.alike h.1, ⟨va_Nw.warmM hW h.2.1.1, va_Nw.warmM hW h.2.1.2.1, va_Nw.warmM hW h.2.1.2.2⟩, h.2.2.at hW (fun q h1 h2 => by rw [hU]; exact hS.2.1 q h1 h2)⟩
def Wd (G : va_G) (Λ : Lay) (μ : Mem) (H : Heap) : Prop := va_P G vwCl ([] ++ va_pl (lyL Λ) (enc Λ μ)) H
theorem wd_D {Λ : Lay} {μ : Mem} {A : Nat → Prop} (h : LayOK Λ) (hA : ∀ q, inL Λ q → A q) : va_D A ([] ++ va_pl (lyL Λ) (enc Λ μ)) := by
  refine ⟨fun i j p q hi hj e => ?_, fun k q hk => ?_⟩
  · rw [List.nil_append, va_pl, List.getElem?_map] at hi hj
    cases h1 : (lyL Λ)[i]? with
    | none => rw [h1] at hi; cases hi
    | some a =>
      cases h2 : (lyL Λ)[j]? with
      | none => rw [h2] at hj; cases hj
      | some b =>
        rw [h1] at hi
        rw [h2] at hj
        cases hi
        cases hj
        have e : a = b := e
        subst e
        obtain ⟨l1, e1⟩ := List.getElem?_eq_some_iff.mp h1
        obtain ⟨l2, e2⟩ := List.getElem?_eq_some_iff.mp h2
        have hp : List.Pairwise (fun x y : Nat => x ≠ y) (lyL Λ) := h.1
        rcases Nat.lt_trichotomy i j with g | g | g
        · exact absurd (e1.trans e2.symm) (List.pairwise_iff_getElem.mp hp i j l1 l2 g)
        · exact g
        · exact absurd (e2.trans e1.symm) (List.pairwise_iff_getElem.mp hp j i l2 l1 g)
  · rw [List.nil_append, va_pl, List.getElem?_map] at hk
    cases h1 : (lyL Λ)[k]? with
    | none => rw [h1] at hk; cases hk
    | some a =>
      rw [h1] at hk
      cases hk
      exact hA a (List.mem_of_getElem? h1)
abbrev PcW (G : va_G) (Λ : Lay) (μ : Mem) (av : List Value) : Array Value → State → Prop := va_Pc av (fun U => KK G Λ U ∧ Wd G Λ μ U.heap)
abbrev QI (G : va_G) (Λ : Lay) (v : Int32) (μ : Mem) : Array Value → State → Outcome → State → Prop := va_Qi (fun r0 (_ : Unit) => r0 = v) (fun _ t => Wd G Λ μ t.heap) (inL Λ)
abbrev QV (G : va_G) (Λ : Lay) (μ : Mem) : Array Value → State → Outcome → State → Prop := va_Qv (fun (_ : Unit) => True) (fun _ t => Wd G Λ μ t.heap) (inL Λ)
abbrev QR (G : va_G) (Λ : Lay) (v k : Nat) (μ : Mem) : Array Value → State → Outcome → State → Prop := va_Qr (fun (_ : Unit) => inK Λ v k) (fun _ a t => a = v ∧ Wd G Λ μ t.heap) (inL Λ)
abbrev CM (l : Launch) (G : va_G) (Λ : Lay) (y : MethodName) (b : ByteArray) (n : Nat) (r : Option FieldType) (d : Nat) (μ : Mem) (av : List Value) (Qc : Array Value → State → Outcome → State → Prop) : Prop := Met l y (wsm y b n r) (rmd d) (PcW G Λ μ av) Qc 0 0 (inL Λ)
theorem pcw_blind {G : va_G} {Λ : Lay} {μ : Mem} {av : List Value} : FrameBlind (PcW G Λ μ av) := fun a _ g mk q => ⟨q.1, q.2.1.blind g mk a, q.2.2⟩
section MR
variable {p : Program} {l : Launch} {e : Env} {R : Room} {s : State} {m : MethodId} {args : Array Value} {below : List Frame} {meth : Method} {c : Code} {H : Heap} {locs : List Loc} {cells slots : Nat} {Q : State → Prop}
variable {G : va_G} {Λ : Lay} {μ μ1 : Mem} {cc : ByteArray} {pc nL : Nat} {ls : Array Slot} {rest st0 : List Value} {own : String} {A : Nat → Prop} {H0 : Heap} {a : Nat}
theorem ofM {y : MethodName} {ret : Option FieldType} {d : Nat} {av : List Value} {Qc : Array Value → State → Outcome → State → Prop} (hy : plainName y.cls = true) (how : y.cls = own) (hsl : (lg_sl av).length ≤ nL)
    (body : ∀ p e s m args below meth c ls, CallFix p m c cc nL s args tw own → KK G Λ s → Wd G Λ μ s.heap → meth.sig.returnType = ret → meth.locks = false → lv_has ls nL (lv_args 0 av) →
      W p l e (rmd d) s m args below meth c s.heap [] 0 0 (MQ below Qc args s 0 0 (inL Λ)) (F0 m 0 ls [])) : CM l G Λ y cc nL ret d μ av Qc := by
  refine Met.ofW (cc := cc) (maxL := nL) (ret := ret) hy rfl ?_
  intro p e s m args below meth c s₁ B hml hv
  obtain ⟨rfl, hK, hW⟩ := hv
  have hts := atoms_spec (ws := wsm y cc nL ret) B.pre
  have hl := lv_entry av hsl
  rw [lg_entry_eq]
  exact body p e s m _ below meth c _ ⟨B.exec, B.bytes, hml, how ▸ findClass_of_methodNamed B.named, fun w h => hts w (List.mem_cons_of_mem _ h)⟩ hK hW B.returns B.notSynchronized hl
theorem top_i {x y : Int32} (h : y = x) (k : W p l e R s m args below meth c H locs cells slots Q (F0 m pc ls (.int y :: rest))) : W p l e R s m args below meth c H locs cells slots Q (F0 m pc ls (.int x :: rest)) := h ▸ k
theorem top_f {x y : UInt32} (h : y = x) (k : W p l e R s m args below meth c H locs cells slots Q (F0 m pc ls (.float y :: rest))) : W p l e R s m args below meth c H locs cells slots Q (F0 m pc ls (.float x :: rest)) := h ▸ k
/-- a field read -/
theorem g_get (hF : CallFix p m c cc nL s args tw own) (hKK : KK G Λ s) (hW : Wd G Λ μ H) (ha : a ∈ lyL Λ) {ci N k index : Nat} {C : String} {T : u_T} {fs : List Value} {v : Value} (he : enc Λ μ a = .inr (ci, fs)) (hc : vwCl[ci]? = some (C, T, N)) (hin : ∀ w ∈ u_ws C T N, w ∈ tw) (hk : k < N) (hlink : Cond.fieldLink own index (T k).1 (T k).2.1 (T k).2.2.1 ∈ tw) (hv : fs[k]? = some v) (hdg : decode cc pc = .ok (.getfield index, 3))
    (kk : W p l e R s m args below meth c H locs cells slots Q (F0 m (pc + 3) ls (v :: rest))) : W p l e R s m args below meth c H locs cells slots Q (F0 m pc ls (.ref a :: rest)) := by
  obtain ⟨q0, h0⟩ := va_pl_get (X := []) (f := enc Λ μ) ha
  rw [he] at h0
  exact va_get hF.1 hF.2.1 hF.2.2.2.2 hin hF.2.2.2.1 hKK.1 hW q0 h0 hc k hk (hF.2.2.2.2 _ hlink) (fun _ h => h) hv hdg kk
/-- a field written -/
theorem g_put (hOK : LayOK Λ) (hF : CallFix p m c cc nL s args tw own) (hKK : KK G Λ s) (hW : Wd G Λ μ H) (hS : va_S A H0 H locs) (hA : ∀ q, inL Λ q → A q) (ha : a ∈ lyL Λ) {ci N k index : Nat} {C : String} {T : u_T} {fs : List Value} {v : Value} (he : enc Λ μ a = .inr (ci, fs)) (hc : vwCl[ci]? = some (C, T, N)) (hin : ∀ w ∈ u_ws C T N, w ∈ tw) (ty0 : Nat → FieldType) (hty : ∀ k, k < N → parseFieldDescriptor (T k).2.2.1 = some (ty0 k)) (hnm : ∀ a, a < N → ∀ b, b < N → a ≠ b → (T a).2.1 ≠ (T b).2.1) (hk : k < N) (hlink : Cond.fieldLink own index (T k).1 (T k).2.1 (T k).2.2.1 ∈ tw) (hfin : (T k).2.2.2 = false) {ty : FieldType} (hd : parseFieldDescriptor (T k).2.2.1 = some ty) (hn : narrow ty v = v) (hfit : fits ty v = true) (hl : k < fs.length)
    (hnew : enc Λ μ1 = va_up (enc Λ μ) a (.inr (ci, fs.set k v))) (hdg : decode cc pc = .ok (.putfield index, 3))
    (kk : ∀ (H : Heap) (locs : List Loc), Wd G Λ μ1 H → va_S A H0 H locs → W p l e R s m args below meth c H locs cells slots Q (F0 m (pc + 3) ls rest)) : W p l e R s m args below meth c H locs cells slots Q (F0 m pc ls (v :: .ref a :: rest)) := by
  obtain ⟨q0, h0⟩ := va_pl_get (X := []) (f := enc Λ μ) ha
  have hD := wd_D (μ := μ) hOK hA
  have h1 := h0
  rw [he] at h0
  refine va_put hF.1 hF.2.1 hF.2.2.2.2 hin ty0 hty hnm hF.2.2.2.1 hKK.1 hW hD hS q0 h0 hc k hk (hF.2.2.2.2 _ hlink) (fun _ h => h) hfin hd hn hfit hl hdg (fun H1 locs1 hP1 hD1 hS1 => kk H1 locs1 ?_ hS1)
  rw [va_pl_set hD ha h1] at hP1
  unfold Wd
  rw [hnew]
  exact hP1
theorem enc_stI {Λ : Lay} {μ : Mem} {a k : Nat} {v : Int32} {E : va_E} (h : enc Λ (stI μ a k v) a = E) : enc Λ (stI μ a k v) = va_up (enc Λ μ) a E := by
  funext b
  by_cases e : b = a
  · subst e
    rw [va_up_self, h]
  · rw [va_up_ne _ _ e]
    have h1 : ∀ j, mI (stI μ a k v) b j = mI μ b j := fun j => by simp [mI, stI, e]
    have h2 : mA (stI μ a k v) b = mA μ b := rfl
    unfold enc
    simp only [h1, h2]
theorem enc_stA {Λ : Lay} {μ : Mem} {a k : Nat} {v : Int32} {E : va_E} (h : enc Λ (stA μ a k v) a = E) : enc Λ (stA μ a k v) = va_up (enc Λ μ) a E := by
  funext b
  by_cases e : b = a
  · subst e
    rw [va_up_self, h]
  · rw [va_up_ne _ _ e]
    have h1 : ∀ j, mI (stA μ a k v) b j = mI μ b j := fun j => rfl
    have h2 : mA (stA μ a k v) b = mA μ b := funext fun j => by simp [mA, stA, e]
    unfold enc
    simp only [h1, h2]
theorem mI_self {μ : Mem} {a k : Nat} {v : Int32} : mI (stI μ a k v) a k = v := by simp [mI, stI]
theorem mI_ne {μ : Mem} {a k b j : Nat} {v : Int32} (h : ¬ (b = a ∧ j = k)) : mI (stI μ a k v) b j = mI μ b j := by simp [mI, stI, h]
theorem mA_upd {μ : Mem} {a k : Nat} {v : Int32} : mA (stA μ a k v) a = upd (mA μ a) k v := by
  funext j
  simp [mA, stA, upd]
theorem ga_ld (hF : CallFix p m c cc nL s args tw own) (hKK : KK G Λ s) (hW : Wd G Λ μ H) (hk : inK Λ a 6) {i : Int32} (hin : inb i (lyN Λ a)) (hdg : decode cc pc = .ok (.iaload, 1))
    (kk : W p l e R s m args below meth c H locs cells slots Q (F0 m (pc + 1) ls (.int (mA μ a i.toNatClampNeg) :: rest))) : W p l e R s m args below meth c H locs cells slots Q (F0 m pc ls (.int i :: .ref a :: rest)) := by
  obtain ⟨q0, h0⟩ := va_pl_get (X := []) (f := enc Λ μ) hk.1
  rw [enc_6 hk.2] at h0
  exact va_iald hF.1 hF.2.1 hKK.1 hW q0 0 h0 rfl hin hdg kk
theorem gc_ld (hF : CallFix p m c cc nL s args tw own) (hKK : KK G Λ s) (hW : Wd G Λ μ H) (hk : inK Λ a 7) {i : Int32} (hin : inb i (lyN Λ a)) (hdg : decode cc pc = .ok (.caload, 1))
    (kk : W p l e R s m args below meth c H locs cells slots Q (F0 m (pc + 1) ls (.int (mA μ a i.toNatClampNeg) :: rest))) : W p l e R s m args below meth c H locs cells slots Q (F0 m pc ls (.int i :: .ref a :: rest)) := by
  obtain ⟨q0, h0⟩ := va_pl_get (X := []) (f := enc Λ μ) hk.1
  rw [enc_7 hk.2] at h0
  exact va_cald hF.1 hF.2.1 hKK.1 hW q0 1 h0 rfl hin hdg kk
theorem ga_st (hOK : LayOK Λ) (hF : CallFix p m c cc nL s args tw own) (hKK : KK G Λ s) (hW : Wd G Λ μ H) (hS : va_S A H0 H locs) (hA : ∀ q, inL Λ q → A q) (hk : inK Λ a 6) {i x : Int32} (hin : inb i (lyN Λ a)) (hμ : μ1 = stA μ a i.toNatClampNeg x) (hdg : decode cc pc = .ok (.iastore, 1))
    (kk : ∀ (H : Heap) (locs : List Loc), Wd G Λ μ1 H → va_S A H0 H locs → W p l e R s m args below meth c H locs cells slots Q (F0 m (pc + 1) ls rest)) : W p l e R s m args below meth c H locs cells slots Q (F0 m pc ls (.int x :: .int i :: .ref a :: rest)) := by
  obtain ⟨q0, h0⟩ := va_pl_get (X := []) (f := enc Λ μ) hk.1
  have hD := wd_D (μ := μ) hOK hA
  have h1 := h0
  rw [enc_6 hk.2] at h0
  refine va_iast hF.1 hF.2.1 hKK.1 hW hD hS q0 0 h0 rfl hin hdg (fun H1 locs1 hP1 hD1 hS1 => kk H1 locs1 ?_ hS1)
  rw [va_pl_set hD hk.1 h1] at hP1
  unfold Wd
  rw [hμ, enc_stA ((enc_6 hk.2).trans (by rw [mA_upd]))]
  exact hP1
theorem gc_st (hOK : LayOK Λ) (hF : CallFix p m c cc nL s args tw own) (hKK : KK G Λ s) (hW : Wd G Λ μ H) (hS : va_S A H0 H locs) (hA : ∀ q, inL Λ q → A q) (hk : inK Λ a 7) {i x : Int32} (hin : inb i (lyN Λ a)) (hμ : μ1 = stA μ a i.toNatClampNeg (vp_nar .char x)) (hdg : decode cc pc = .ok (.castore, 1))
    (kk : ∀ (H : Heap) (locs : List Loc), Wd G Λ μ1 H → va_S A H0 H locs → W p l e R s m args below meth c H locs cells slots Q (F0 m (pc + 1) ls rest)) : W p l e R s m args below meth c H locs cells slots Q (F0 m pc ls (.int x :: .int i :: .ref a :: rest)) := by
  obtain ⟨q0, h0⟩ := va_pl_get (X := []) (f := enc Λ μ) hk.1
  have hD := wd_D (μ := μ) hOK hA
  have h1 := h0
  rw [enc_7 hk.2] at h0
  refine va_cast hF.1 hF.2.1 hKK.1 hW hD hS q0 1 h0 rfl hin hdg (fun H1 locs1 hP1 hD1 hS1 => kk H1 locs1 ?_ hS1)
  rw [va_pl_set hD hk.1 h1] at hP1
  unfold Wd
  rw [hμ, enc_stA ((enc_7 hk.2).trans (by rw [mA_upd]))]
  exact hP1
theorem ga_len6 (hF : CallFix p m c cc nL s args tw own) (hKK : KK G Λ s) (hW : Wd G Λ μ H) (hk : inK Λ a 6) (hdg : decode cc pc = .ok (.arraylength, 1))
    (kk : W p l e R s m args below meth c H locs cells slots Q (F0 m (pc + 1) ls (.int (nI (lyN Λ a)) :: rest))) : W p l e R s m args below meth c H locs cells slots Q (F0 m pc ls (.ref a :: rest)) := by
  obtain ⟨q0, h0⟩ := va_pl_get (X := []) (f := enc Λ μ) hk.1
  rw [enc_6 hk.2] at h0
  exact va_alen hF.1 hF.2.1 hKK.1 hW q0 0 h0 rfl rfl hdg kk
theorem ga_len8 (hF : CallFix p m c cc nL s args tw own) (hKK : KK G Λ s) (hW : Wd G Λ μ H) (hk : inK Λ a 8) (hdg : decode cc pc = .ok (.arraylength, 1))
    (kk : W p l e R s m args below meth c H locs cells slots Q (F0 m (pc + 1) ls (.int (nI (lyN Λ a)) :: rest))) : W p l e R s m args below meth c H locs cells slots Q (F0 m pc ls (.ref a :: rest)) := by
  obtain ⟨q0, h0⟩ := va_pl_get (X := []) (f := enc Λ μ) hk.1
  rw [enc_8 hk.2] at h0
  exact va_alen hF.1 hF.2.1 hKK.1 hW q0 2 h0 rfl rfl hdg kk
theorem ga_len9 (hF : CallFix p m c cc nL s args tw own) (hKK : KK G Λ s) (hW : Wd G Λ μ H) (hk : inK Λ a 9) (hdg : decode cc pc = .ok (.arraylength, 1))
    (kk : W p l e R s m args below meth c H locs cells slots Q (F0 m (pc + 1) ls (.int (nI (lyN Λ a)) :: rest))) : W p l e R s m args below meth c H locs cells slots Q (F0 m pc ls (.ref a :: rest)) := by
  obtain ⟨q0, h0⟩ := va_pl_get (X := []) (f := enc Λ μ) hk.1
  rw [enc_9 hk.2] at h0
  exact va_alen hF.1 hF.2.1 hKK.1 hW q0 3 h0 rfl rfl hdg kk
theorem encQ_in {Λ : Lay} {a : Nat} {i : Int32} (hin : inb i (lyN Λ a)) : va_rf (encQ Λ a i.toNatClampNeg) = .ref (lyE Λ a i.toNatClampNeg) := by
  unfold encQ
  rw [if_pos (inb_lt hin)]
  rfl
theorem gq_ld8 (hF : CallFix p m c cc nL s args tw own) (hKK : KK G Λ s) (hW : Wd G Λ μ H) (hk : inK Λ a 8) {i : Int32} (hin : inb i (lyN Λ a)) (hdg : decode cc pc = .ok (.aaload, 1))
    (kk : W p l e R s m args below meth c H locs cells slots Q (F0 m (pc + 1) ls (.ref (lyE Λ a i.toNatClampNeg) :: rest))) : W p l e R s m args below meth c H locs cells slots Q (F0 m pc ls (.int i :: .ref a :: rest)) := by
  obtain ⟨q0, h0⟩ := va_pl_get (X := []) (f := enc Λ μ) hk.1
  rw [enc_8 hk.2] at h0
  exact va_aldq hF.1 hF.2.1 hKK.1 hW q0 2 h0 rfl hin hdg (by rw [encQ_in hin]; exact kk)
theorem gq_ld9 (hF : CallFix p m c cc nL s args tw own) (hKK : KK G Λ s) (hW : Wd G Λ μ H) (hk : inK Λ a 9) {i : Int32} (hin : inb i (lyN Λ a)) (hdg : decode cc pc = .ok (.aaload, 1))
    (kk : W p l e R s m args below meth c H locs cells slots Q (F0 m (pc + 1) ls (.ref (lyE Λ a i.toNatClampNeg) :: rest))) : W p l e R s m args below meth c H locs cells slots Q (F0 m pc ls (.int i :: .ref a :: rest)) := by
  obtain ⟨q0, h0⟩ := va_pl_get (X := []) (f := enc Λ μ) hk.1
  rw [enc_9 hk.2] at h0
  exact va_aldq hF.1 hF.2.1 hKK.1 hW q0 3 h0 rfl hin hdg (by rw [encQ_in hin]; exact kk)
theorem wr_i {ty : FieldType} {v : Int32} (hF : CallFix p m c cc nL s args tw own) (hr : meth.sig.returnType = some ty) (hlocks : meth.locks = false) (hn : narrow ty (.int v) = .int v) (hW : Wd G Λ μ H) (hS : va_S (inL Λ) s.heap H locs) (hdg : decode cc pc = .ok (.ireturn, 1)) : W p l e R s m args below meth c H locs cells slots (MQ below (QI G Λ v μ) args s cells slots (inL Λ)) (F0 m pc ls [.int v]) :=
  W.zret hF.1 hF.2.1 hr hn (fun t ht _ => ⟨⟨v, (), rfl, rfl, (show Wd G Λ μ t.heap by rw [ht]; exact hW)⟩, hS.F ht⟩) hS.2.2 hdg hlocks
theorem wr_v (hF : CallFix p m c cc nL s args tw own) (hr : meth.sig.returnType = none) (hlocks : meth.locks = false) (hW : Wd G Λ μ H) (hS : va_S (inL Λ) s.heap H locs) (hdg : decode cc pc = .ok (.return_, 1)) : W p l e R s m args below meth c H locs cells slots (MQ below (QV G Λ μ) args s cells slots (inL Λ)) (F0 m pc ls []) :=
  W.vret hF.1 hF.2.1 hr (fun t ht _ => ⟨⟨(), rfl, trivial, (show Wd G Λ μ t.heap by rw [ht]; exact hW)⟩, hS.F ht⟩) hS.2.2 hdg hlocks
theorem wr_a {C : String} {v k : Nat} (hF : CallFix p m c cc nL s args tw own) (hr : meth.sig.returnType = some (.object C)) (hlocks : meth.locks = false) (hk : inK Λ v k) (hW : Wd G Λ μ H) (hS : va_S (inL Λ) s.heap H locs) (hdg : decode cc pc = .ok (.areturn, 1)) : W p l e R s m args below meth c H locs cells slots (MQ below (QR G Λ v k μ) args s cells slots (inL Λ)) (F0 m pc ls [.ref v]) :=
  W.aret hF.1 hF.2.1 hr (Or.inl ⟨_, rfl⟩) (Or.inr ⟨_, rfl⟩) (fun t ht _ => ⟨⟨(), v, rfl, hk, rfl, (show Wd G Λ μ t.heap by rw [ht]; exact hW)⟩, hS.F ht⟩) hS.2.2 hdg hlocks
-- calls
theorem recv_w {b ci : Nat} {q : vw_C} (hKK : KK G Λ s) (hW : Wd G Λ μ H) (hb : inK Λ b ci) (hi : ci ≤ 5) (hc : vwCl[ci]? = some q) : ∃ cell : Cell, H[b]? = some cell ∧ cell.vm.isStatics = false ∧ s.vm.findClass q.1 = some cell.cls := by
  obtain ⟨q0, h0⟩ := va_pl_get (X := []) (f := enc Λ μ) hb.1
  have he : ∃ fs, enc Λ μ b = .inr (ci, fs) := by
    obtain ⟨-, h⟩ := hb
    have h6 : ci = 0 ∨ ci = 1 ∨ ci = 2 ∨ ci = 3 ∨ ci = 4 ∨ ci = 5 := by omega
    rcases h6 with rfl | rfl | rfl | rfl | rfl | rfl
    · exact ⟨_, enc_0 h⟩
    · exact ⟨_, enc_1 h⟩
    · exact ⟨_, enc_2 h⟩
    · exact ⟨_, enc_3 h⟩
    · exact ⟨_, enc_4 h⟩
    · exact ⟨_, enc_5 h⟩
  obtain ⟨fs, he⟩ := he
  rw [he] at h0
  exact va_recv hKK.1 hW hc h0
section CALLS
variable {y : MethodName} {bytes : ByteArray} {maxL n index d : Nat} {ret : Option FieldType} {As : List Value}
theorem kwV {C : String} (n : Nat) (h4 : Cond.code y bytes maxL ret ∈ tw) (h1 : Cond.methodLink own index y ∈ tw) (h2 : Cond.instanceMethod y ∈ tw) (h3 : Cond.selects C y y ∈ tw) (h5 : Cond.initialized C ∈ tw)
    (hd : y.cls = C ∧ y.cls ≠ "java/lang/invoke/MethodHandle" ∧ y.cls ≠ "java/lang/invoke/VarHandle" ∧ (parseMethodDescriptor y.desc).map (fun d => d.parameters.length) = some n) (hts : ∀ w ∈ tw, w.before args s = true) (hR : d + 1 ≤ R.frames ∧ 8 + (maxL + 11) + 40 * d ≤ R.locals) :
    CallW R s args own C index y bytes maxL ret (wsm y bytes maxL ret) (rmd d) 0 0 n := by
  refine cwV n hts ?_ rfl rfl rfl hd hR
  intro w hw
  unfold wsV at hw
  rcases List.mem_append.mp hw with h | h
  · have : w ∈ tw := by
      rcases List.mem_cons.mp h with rfl | h
      · exact h1
      rcases List.mem_cons.mp h with rfl | h
      · exact h2
      rcases List.mem_cons.mp h with rfl | h
      · exact h3
      rcases List.mem_cons.mp h with rfl | h
      · exact h5
      cases h
    exact ⟨this, good_of_word (tw_good this)⟩
  · exact tw_in h4 w h
theorem kwS (n : Nat) (h4 : Cond.code y bytes maxL ret ∈ tw) (h1 : Cond.methodLink own index y ∈ tw) (h2 : Cond.static y ∈ tw) (h5 : Cond.initialized y.cls ∈ tw)
    (hd : y.cls ≠ "java/lang/invoke/MethodHandle" ∧ y.cls ≠ "java/lang/invoke/VarHandle" ∧ (parseMethodDescriptor y.desc).map (fun d => d.parameters.length) = some n) (hts : ∀ w ∈ tw, w.before args s = true) (hR : d + 1 ≤ R.frames ∧ 8 + (maxL + 11) + 40 * d ≤ R.locals) :
    CallB R s args own index y bytes maxL ret (wsm y bytes maxL ret) (rmd d) 0 0 n ∧ (Cond.static y).before args s = true :=
  ⟨callB_of n hts (tw_in h4) rfl rfl rfl (hts _ h5) (hts _ h1) hd hR, hts _ h2⟩
theorem kwN {host : String} (n : Nat) (h4 : Cond.code y bytes maxL ret ∈ tw) (h2 : Cond.static y ∈ tw) (h5 : Cond.initialized y.cls ∈ tw)
    (hd : y.cls ≠ "java/lang/invoke/MethodHandle" ∧ y.cls ≠ "java/lang/invoke/VarHandle" ∧ (parseMethodDescriptor y.desc).map (fun d => d.parameters.length) = some n) (hl : va_Nw (.methodLinkNest own index y host) s) (hts : ∀ w ∈ tw, w.before args s = true) (hR : d + 1 ≤ R.frames ∧ 8 + (maxL + 11) + 40 * d ≤ R.locals) :
    va_CN R s args own index y host bytes maxL ret (wsm y bytes maxL ret) (rmd d) 0 0 n ∧ (Cond.static y).before args s = true ∧ True :=
  ⟨va_cnB n hts (tw_in h4) rfl rfl rfl hl (hts _ h5) hd hR, hts _ h2, trivial⟩
theorem pre_V {b ci : Nat} {q : vw_C} (hKK : KK G Λ s) (hW : Wd G Λ μ H) (hS : va_S (inL Λ) s.heap H locs) (hb : inK Λ b ci) (hi : ci ≤ 5) (hc : vwCl[ci]? = some q) : PreV s H q.1 b (PcW G Λ μ (.ref b :: As)) As :=
  ⟨pcw_blind, recv_w hKK hW hb hi hc, fun U hU hWm => ⟨rfl, hKK.at hS hU hWm, by rw [hU]; exact hW⟩⟩
theorem pre_S (hKK : KK G Λ s) (hW : Wd G Λ μ H) (hS : va_S (inL Λ) s.heap H locs) : PreS s H (PcW G Λ μ As) As :=
  ⟨pcw_blind, fun U hU hWm => ⟨rfl, hKK.at hS hU hWm, by rw [hU]; exact hW⟩⟩
theorem end_i {v : Int32} {a : Array Value} (hr : va_Run p l e R s m args below meth c H locs cells slots 0 0 (F0 m pc ls st0) rest (QI G Λ v μ1 a) (inL Λ)) (hS : va_S (inL Λ) H0 H locs)
    (kk : ∀ (H : Heap) (locs : List Loc), Wd G Λ μ1 H → va_S (inL Λ) H0 H locs → W p l e R s m args below meth c H locs cells slots Q (F0 m (pc + 3) ls (.int v :: rest))) : W p l e R s m args below meth c H locs cells slots Q (F0 m pc ls st0) :=
  va_calli hr hS (fun _ _ h => h) (fun _ h => h) (fun r _ t H1 locs1 ht _ hp hB _ _ hS1 => by
    have hp : r = v := hp
    subst hp
    exact kk H1 locs1 (by rw [← ht]; exact hB) hS1)
theorem end_v {a : Array Value} (hr : va_Run p l e R s m args below meth c H locs cells slots 0 0 (F0 m pc ls st0) rest (QV G Λ μ1 a) (inL Λ)) (hS : va_S (inL Λ) H0 H locs)
    (kk : ∀ (H : Heap) (locs : List Loc), Wd G Λ μ1 H → va_S (inL Λ) H0 H locs → W p l e R s m args below meth c H locs cells slots Q (F0 m (pc + 3) ls rest)) : W p l e R s m args below meth c H locs cells slots Q (F0 m pc ls st0) :=
  va_callv hr hS (fun _ _ h => h) (fun _ h => h) (fun _ t H1 locs1 ht _ _ hB _ _ hS1 => kk H1 locs1 (by rw [← ht]; exact hB) hS1)
theorem end_r {v k : Nat} {a : Array Value} (hr : va_Run p l e R s m args below meth c H locs cells slots 0 0 (F0 m pc ls st0) rest (QR G Λ v k μ1 a) (inL Λ)) (hS : va_S (inL Λ) H0 H locs)
    (kk : ∀ (H : Heap) (locs : List Loc), inK Λ v k → Wd G Λ μ1 H → va_S (inL Λ) H0 H locs → W p l e R s m args below meth c H locs cells slots Q (F0 m (pc + 3) ls (.ref v :: rest))) : W p l e R s m args below meth c H locs cells slots Q (F0 m pc ls st0) :=
  va_callr hr hS (fun _ _ h => h) (fun _ h => h) (fun _ ra t H1 locs1 ht _ hp hB _ _ hS1 => by
    obtain ⟨rfl, hB⟩ := hB
    exact kk H1 locs1 hp (by rw [← ht]; exact hB) hS1)
theorem run_V {b ci : Nat} {q : vw_C} {Qc : Array Value → State → Outcome → State → Prop} (hF : CallFix p m c cc nL s args tw own) (hKK : KK G Λ s) (hW : Wd G Λ μ H) (hS : va_S (inL Λ) s.heap H locs) (hl : ls.size = nL) (hb : inK Λ b ci) (hi : ci ≤ 5) (hc : vwCl[ci]? = some q) (hM : CM l G Λ y bytes maxL ret d μ (.ref b :: As) Qc) (cw : CallW R s args own q.1 index y bytes maxL ret (wsm y bytes maxL ret) (rmd d) 0 0 n)
    (hn : As.length = n) (hst : st0 = As.reverse ++ .ref b :: rest) (hW8 : (rest.map fun v => v.category).sum ≤ 8) (hdg : decode cc pc = .ok (.invokevirtual index, 3)) (hf : cells ≤ R.cells ∧ slots ≤ R.slots) :
    va_Run p l e R s m args below meth c H locs cells slots 0 0 (F0 m pc ls st0) rest (Qc (Value.ref b :: As).toArray) (inL Λ) :=
  va_runV hF hM cw (pre_V hKK hW hS hb hi hc) rfl hn hl hst (lv_room hW8) hdg hf
theorem run_S {Qc : Array Value → State → Outcome → State → Prop} (hF : CallFix p m c cc nL s args tw own) (hKK : KK G Λ s) (hW : Wd G Λ μ H) (hS : va_S (inL Λ) s.heap H locs) (hl : ls.size = nL) (hM : CM l G Λ y bytes maxL ret d μ As Qc) (cw : CallB R s args own index y bytes maxL ret (wsm y bytes maxL ret) (rmd d) 0 0 n ∧ (Cond.static y).before args s = true)
    (hn : As.length = n) (hst : st0 = As.reverse ++ rest) (hW8 : (rest.map fun v => v.category).sum ≤ 8) (hdg : decode cc pc = .ok (.invokestatic index, 3)) (hf : cells ≤ R.cells ∧ slots ≤ R.slots) :
    va_Run p l e R s m args below meth c H locs cells slots 0 0 (F0 m pc ls st0) rest (Qc As.toArray) (inL Λ) :=
  va_runS hF hM cw (pre_S hKK hW hS) rfl hn hl hst (lv_room hW8) hdg hf
theorem run_N {host : String} {Qc : Array Value → State → Outcome → State → Prop} (hF : CallFix p m c cc nL s args tw own) (hKK : KK G Λ s) (hW : Wd G Λ μ H) (hS : va_S (inL Λ) s.heap H locs) (hl : ls.size = nL) (hM : CM l G Λ y bytes maxL ret d μ As Qc) (cw : va_CN R s args own index y host bytes maxL ret (wsm y bytes maxL ret) (rmd d) 0 0 n ∧ (Cond.static y).before args s = true ∧ True)
    (hn : As.length = n) (hst : st0 = As.reverse ++ rest) (hW8 : (rest.map fun v => v.category).sum ≤ 8) (hdg : decode cc pc = .ok (.invokestatic index, 3)) (hf : cells ≤ R.cells ∧ slots ≤ R.slots) :
    va_Run p l e R s m args below meth c H locs cells slots 0 0 (F0 m pc ls st0) rest (Qc As.toArray) (inL Λ) :=
  va_runSN hF hM cw (pre_S hKK hW hS) rfl hn hl hst (lv_room hW8) hdg hf
end CALLS
end MR
set_option maxRecDepth 100000 in
theorem twX0 : ∀ w ∈ u_ws RX0 TX0 3, w ∈ tw := by decide +kernel
set_option maxRecDepth 100000 in
theorem twX1 : ∀ w ∈ u_ws RX1 TX1 7, w ∈ tw := by decide +kernel
set_option maxRecDepth 100000 in
theorem twX2 : ∀ w ∈ u_ws RX2 TX2 2, w ∈ tw := by decide +kernel
set_option maxRecDepth 100000 in
theorem twX3 : ∀ w ∈ u_ws RX3 TX3 5, w ∈ tw := by decide +kernel
set_option maxRecDepth 100000 in
theorem twX4 : ∀ w ∈ u_ws RX4 TX4 11, w ∈ tw := by decide +kernel
set_option maxRecDepth 100000 in
theorem twX5 : ∀ w ∈ u_ws RX5 TX5 21, w ∈ tw := by decide +kernel
end
