-- ===== PART A: goes FIRST, ahead of the names: the tables' words, and 'selects' of the private methods out of them =====
/-- a private method of a class that the tables say can be made, by its rows of tables_1 -/
def lw_okq (q : MethodName × Nat) : Prop := (q.1.cls ≠ "java/lang/invoke/MethodHandle" ∧ q.1.cls ≠ "java/lang/invoke/VarHandle") ∧ Cond.instantiable q.1.cls q.2 ∈ tables_1 ∧ Cond.privateMethod q.1 ∈ tables_1 ∧ Cond.instanceMethod q.1 ∈ tables_1
theorem lw_p0 : lw_okq (⟨"RockingPorch", "mayBeSet", "(III)Z"⟩, 8) := ⟨⟨by decide +kernel, by decide +kernel⟩, List.mem_of_getElem? (i := 22) (by decide +kernel), List.mem_of_getElem? (i := 438) (by decide +kernel), List.mem_of_getElem? (i := 439) (by decide +kernel)⟩
theorem lw_p1 : lw_okq (⟨"RockingPorch", "mayBeDone", "(III)Z"⟩, 8) := ⟨⟨by decide +kernel, by decide +kernel⟩, List.mem_of_getElem? (i := 22) (by decide +kernel), List.mem_of_getElem? (i := 460) (by decide +kernel), List.mem_of_getElem? (i := 461) (by decide +kernel)⟩
theorem lw_p2 : lw_okq (⟨"RockingPorch$Doing", "note", "(LRockingPorch$Porch;III)V"⟩, 2) := ⟨⟨by decide +kernel, by decide +kernel⟩, List.mem_of_getElem? (i := 343) (by decide +kernel), List.mem_of_getElem? (i := 493) (by decide +kernel), List.mem_of_getElem? (i := 494) (by decide +kernel)⟩
theorem lw_p3 : lw_okq (⟨"RockingPorch$Law", "worth", "(II[I)I"⟩, 8) := ⟨⟨by decide +kernel, by decide +kernel⟩, List.mem_of_getElem? (i := 136) (by decide +kernel), List.mem_of_getElem? (i := 537) (by decide +kernel), List.mem_of_getElem? (i := 538) (by decide +kernel)⟩
theorem lw_p4 : lw_okq (⟨"RockingPorch$Doing", "answer", "(LRockingPorch$Porch;I)Z"⟩, 2) := ⟨⟨by decide +kernel, by decide +kernel⟩, List.mem_of_getElem? (i := 343) (by decide +kernel), List.mem_of_getElem? (i := 575) (by decide +kernel), List.mem_of_getElem? (i := 576) (by decide +kernel)⟩
theorem lw_p5 : lw_okq (⟨"RockingPorch$Doing", "findsSeat", "(LRockingPorch$Porch;II)Z"⟩, 2) := ⟨⟨by decide +kernel, by decide +kernel⟩, List.mem_of_getElem? (i := 343) (by decide +kernel), List.mem_of_getElem? (i := 579) (by decide +kernel), List.mem_of_getElem? (i := 580) (by decide +kernel)⟩
theorem lw_p6 : lw_okq (⟨"RockingPorch$Doing", "goAway", "(LRockingPorch$Porch;I)V"⟩, 2) := ⟨⟨by decide +kernel, by decide +kernel⟩, List.mem_of_getElem? (i := 343) (by decide +kernel), List.mem_of_getElem? (i := 585) (by decide +kernel), List.mem_of_getElem? (i := 586) (by decide +kernel)⟩
theorem lw_p7 : lw_okq (⟨"RockingPorch$Doing", "comeBack", "(LRockingPorch$Porch;I)V"⟩, 2) := ⟨⟨by decide +kernel, by decide +kernel⟩, List.mem_of_getElem? (i := 343) (by decide +kernel), List.mem_of_getElem? (i := 595) (by decide +kernel), List.mem_of_getElem? (i := 596) (by decide +kernel)⟩
theorem lw_p8 : lw_okq (⟨"RockingPorch$Doing", "keepHouse", "(LRockingPorch$Porch;I)V"⟩, 2) := ⟨⟨by decide +kernel, by decide +kernel⟩, List.mem_of_getElem? (i := 343) (by decide +kernel), List.mem_of_getElem? (i := 599) (by decide +kernel), List.mem_of_getElem? (i := 600) (by decide +kernel)⟩
theorem lw_p9 : lw_okq (⟨"RockingPorch$Doing", "hush", "(LRockingPorch$Porch;)V"⟩, 2) := ⟨⟨by decide +kernel, by decide +kernel⟩, List.mem_of_getElem? (i := 343) (by decide +kernel), List.mem_of_getElem? (i := 604) (by decide +kernel), List.mem_of_getElem? (i := 605) (by decide +kernel)⟩
theorem lw_p10 : lw_okq (⟨"RockingPorch$Doing", "fade", "(LRockingPorch$Porch;I)V"⟩, 2) := ⟨⟨by decide +kernel, by decide +kernel⟩, List.mem_of_getElem? (i := 343) (by decide +kernel), List.mem_of_getElem? (i := 608) (by decide +kernel), List.mem_of_getElem? (i := 609) (by decide +kernel)⟩
theorem lw_p11 : lw_okq (⟨"RockingPorch$Reader", "split", "()V"⟩, 14) := ⟨⟨by decide +kernel, by decide +kernel⟩, List.mem_of_getElem? (i := 284) (by decide +kernel), List.mem_of_getElem? (i := 637) (by decide +kernel), List.mem_of_getElem? (i := 638) (by decide +kernel)⟩
theorem lw_p12 : lw_okq (⟨"RockingPorch$Reader", "token", "(II)V"⟩, 14) := ⟨⟨by decide +kernel, by decide +kernel⟩, List.mem_of_getElem? (i := 284) (by decide +kernel), List.mem_of_getElem? (i := 644) (by decide +kernel), List.mem_of_getElem? (i := 645) (by decide +kernel)⟩
theorem lw_p13 : lw_okq (⟨"RockingPorch$Reader", "put", "(III)V"⟩, 14) := ⟨⟨by decide +kernel, by decide +kernel⟩, List.mem_of_getElem? (i := 284) (by decide +kernel), List.mem_of_getElem? (i := 731) (by decide +kernel), List.mem_of_getElem? (i := 732) (by decide +kernel)⟩
theorem lw_p14 : lw_okq (⟨"RockingPorch$Reader", "wordOf", "(II)I"⟩, 14) := ⟨⟨by decide +kernel, by decide +kernel⟩, List.mem_of_getElem? (i := 284) (by decide +kernel), List.mem_of_getElem? (i := 735) (by decide +kernel), List.mem_of_getElem? (i := 736) (by decide +kernel)⟩
theorem lw_p15 : lw_okq (⟨"RockingPorch$Reader", "digits", "(II)I"⟩, 14) := ⟨⟨by decide +kernel, by decide +kernel⟩, List.mem_of_getElem? (i := 284) (by decide +kernel), List.mem_of_getElem? (i := 762) (by decide +kernel), List.mem_of_getElem? (i := 763) (by decide +kernel)⟩
def lw_privs_1 : List (MethodName × Nat) := [(⟨"RockingPorch", "mayBeSet", "(III)Z"⟩, 8), (⟨"RockingPorch", "mayBeDone", "(III)Z"⟩, 8), (⟨"RockingPorch$Doing", "note", "(LRockingPorch$Porch;III)V"⟩, 2), (⟨"RockingPorch$Law", "worth", "(II[I)I"⟩, 8), (⟨"RockingPorch$Doing", "answer", "(LRockingPorch$Porch;I)Z"⟩, 2), (⟨"RockingPorch$Doing", "findsSeat", "(LRockingPorch$Porch;II)Z"⟩, 2), (⟨"RockingPorch$Doing", "goAway", "(LRockingPorch$Porch;I)V"⟩, 2), (⟨"RockingPorch$Doing", "comeBack", "(LRockingPorch$Porch;I)V"⟩, 2), (⟨"RockingPorch$Doing", "keepHouse", "(LRockingPorch$Porch;I)V"⟩, 2), (⟨"RockingPorch$Doing", "hush", "(LRockingPorch$Porch;)V"⟩, 2), (⟨"RockingPorch$Doing", "fade", "(LRockingPorch$Porch;I)V"⟩, 2), (⟨"RockingPorch$Reader", "split", "()V"⟩, 14), (⟨"RockingPorch$Reader", "token", "(II)V"⟩, 14), (⟨"RockingPorch$Reader", "put", "(III)V"⟩, 14), (⟨"RockingPorch$Reader", "wordOf", "(II)I"⟩, 14), (⟨"RockingPorch$Reader", "digits", "(II)I"⟩, 14)]
theorem lw_r1 : ∀ q ∈ lw_privs_1, lw_okq q := List.forall_mem_cons.mpr ⟨lw_p0, List.forall_mem_cons.mpr ⟨lw_p1, List.forall_mem_cons.mpr ⟨lw_p2, List.forall_mem_cons.mpr ⟨lw_p3, List.forall_mem_cons.mpr ⟨lw_p4, List.forall_mem_cons.mpr ⟨lw_p5, List.forall_mem_cons.mpr ⟨lw_p6, List.forall_mem_cons.mpr ⟨lw_p7, List.forall_mem_cons.mpr ⟨lw_p8, List.forall_mem_cons.mpr ⟨lw_p9, List.forall_mem_cons.mpr ⟨lw_p10, List.forall_mem_cons.mpr ⟨lw_p11, List.forall_mem_cons.mpr ⟨lw_p12, List.forall_mem_cons.mpr ⟨lw_p13, List.forall_mem_cons.mpr ⟨lw_p14, List.forall_mem_cons.mpr ⟨lw_p15, fun _ h => absurd h List.not_mem_nil⟩⟩⟩⟩⟩⟩⟩⟩⟩⟩⟩⟩⟩⟩⟩⟩
theorem lw_p16 : lw_okq (⟨"RockingPorch$Reader", "lawLine", "()V"⟩, 14) := ⟨⟨by decide +kernel, by decide +kernel⟩, List.mem_of_getElem? (i := 284) (by decide +kernel), List.mem_of_getElem? (i := 766) (by decide +kernel), List.mem_of_getElem? (i := 767) (by decide +kernel)⟩
theorem lw_p17 : lw_okq (⟨"RockingPorch$Reader", "fail", "(I)V"⟩, 14) := ⟨⟨by decide +kernel, by decide +kernel⟩, List.mem_of_getElem? (i := 284) (by decide +kernel), List.mem_of_getElem? (i := 770) (by decide +kernel), List.mem_of_getElem? (i := 771) (by decide +kernel)⟩
theorem lw_p18 : lw_okq (⟨"RockingPorch$Reader", "advance", "()V"⟩, 14) := ⟨⟨by decide +kernel, by decide +kernel⟩, List.mem_of_getElem? (i := 284) (by decide +kernel), List.mem_of_getElem? (i := 778) (by decide +kernel), List.mem_of_getElem? (i := 779) (by decide +kernel)⟩
theorem lw_p19 : lw_okq (⟨"RockingPorch$Reader", "sumOf", "()V"⟩, 14) := ⟨⟨by decide +kernel, by decide +kernel⟩, List.mem_of_getElem? (i := 284) (by decide +kernel), List.mem_of_getElem? (i := 782) (by decide +kernel), List.mem_of_getElem? (i := 783) (by decide +kernel)⟩
theorem lw_p20 : lw_okq (⟨"RockingPorch$Reader", "expectNumber", "(II)I"⟩, 14) := ⟨⟨by decide +kernel, by decide +kernel⟩, List.mem_of_getElem? (i := 284) (by decide +kernel), List.mem_of_getElem? (i := 786) (by decide +kernel), List.mem_of_getElem? (i := 787) (by decide +kernel)⟩
theorem lw_p21 : lw_okq (⟨"RockingPorch$Reader", "expectUnit", "()I"⟩, 14) := ⟨⟨by decide +kernel, by decide +kernel⟩, List.mem_of_getElem? (i := 284) (by decide +kernel), List.mem_of_getElem? (i := 790) (by decide +kernel), List.mem_of_getElem? (i := 791) (by decide +kernel)⟩
theorem lw_p22 : lw_okq (⟨"RockingPorch$Reader", "condition", "(I)V"⟩, 14) := ⟨⟨by decide +kernel, by decide +kernel⟩, List.mem_of_getElem? (i := 284) (by decide +kernel), List.mem_of_getElem? (i := 802) (by decide +kernel), List.mem_of_getElem? (i := 803) (by decide +kernel)⟩
theorem lw_p23 : lw_okq (⟨"RockingPorch$Reader", "single", "(I)V"⟩, 14) := ⟨⟨by decide +kernel, by decide +kernel⟩, List.mem_of_getElem? (i := 284) (by decide +kernel), List.mem_of_getElem? (i := 806) (by decide +kernel), List.mem_of_getElem? (i := 807) (by decide +kernel)⟩
theorem lw_p24 : lw_okq (⟨"RockingPorch$Reader", "expect", "(I)V"⟩, 14) := ⟨⟨by decide +kernel, by decide +kernel⟩, List.mem_of_getElem? (i := 284) (by decide +kernel), List.mem_of_getElem? (i := 810) (by decide +kernel), List.mem_of_getElem? (i := 811) (by decide +kernel)⟩
theorem lw_p25 : lw_okq (⟨"RockingPorch$Reader", "callsLine", "()V"⟩, 14) := ⟨⟨by decide +kernel, by decide +kernel⟩, List.mem_of_getElem? (i := 284) (by decide +kernel), List.mem_of_getElem? (i := 818) (by decide +kernel), List.mem_of_getElem? (i := 819) (by decide +kernel)⟩
theorem lw_p26 : lw_okq (⟨"RockingPorch$Reader", "expectLine", "(I)V"⟩, 14) := ⟨⟨by decide +kernel, by decide +kernel⟩, List.mem_of_getElem? (i := 284) (by decide +kernel), List.mem_of_getElem? (i := 822) (by decide +kernel), List.mem_of_getElem? (i := 823) (by decide +kernel)⟩
theorem lw_p27 : lw_okq (⟨"RockingPorch$Reader", "closeLine", "(IIII)V"⟩, 14) := ⟨⟨by decide +kernel, by decide +kernel⟩, List.mem_of_getElem? (i := 284) (by decide +kernel), List.mem_of_getElem? (i := 826) (by decide +kernel), List.mem_of_getElem? (i := 827) (by decide +kernel)⟩
theorem lw_p28 : lw_okq (⟨"RockingPorch$Reader", "houseLine", "()V"⟩, 14) := ⟨⟨by decide +kernel, by decide +kernel⟩, List.mem_of_getElem? (i := 284) (by decide +kernel), List.mem_of_getElem? (i := 831) (by decide +kernel), List.mem_of_getElem? (i := 832) (by decide +kernel)⟩
theorem lw_p29 : lw_okq (⟨"RockingPorch$Reader", "kinLine", "()V"⟩, 14) := ⟨⟨by decide +kernel, by decide +kernel⟩, List.mem_of_getElem? (i := 284) (by decide +kernel), List.mem_of_getElem? (i := 835) (by decide +kernel), List.mem_of_getElem? (i := 836) (by decide +kernel)⟩
theorem lw_p30 : lw_okq (⟨"RockingPorch$Puzzles", "forbid", "()V"⟩, 5) := ⟨⟨by decide +kernel, by decide +kernel⟩, List.mem_of_getElem? (i := 356) (by decide +kernel), List.mem_of_getElem? (i := 946) (by decide +kernel), List.mem_of_getElem? (i := 947) (by decide +kernel)⟩
theorem lw_p31 : lw_okq (⟨"RockingPorch$Puzzles", "seatNext", "(III)V"⟩, 5) := ⟨⟨by decide +kernel, by decide +kernel⟩, List.mem_of_getElem? (i := 356) (by decide +kernel), List.mem_of_getElem? (i := 950) (by decide +kernel), List.mem_of_getElem? (i := 951) (by decide +kernel)⟩
def lw_privs_2 : List (MethodName × Nat) := [(⟨"RockingPorch$Reader", "lawLine", "()V"⟩, 14), (⟨"RockingPorch$Reader", "fail", "(I)V"⟩, 14), (⟨"RockingPorch$Reader", "advance", "()V"⟩, 14), (⟨"RockingPorch$Reader", "sumOf", "()V"⟩, 14), (⟨"RockingPorch$Reader", "expectNumber", "(II)I"⟩, 14), (⟨"RockingPorch$Reader", "expectUnit", "()I"⟩, 14), (⟨"RockingPorch$Reader", "condition", "(I)V"⟩, 14), (⟨"RockingPorch$Reader", "single", "(I)V"⟩, 14), (⟨"RockingPorch$Reader", "expect", "(I)V"⟩, 14), (⟨"RockingPorch$Reader", "callsLine", "()V"⟩, 14), (⟨"RockingPorch$Reader", "expectLine", "(I)V"⟩, 14), (⟨"RockingPorch$Reader", "closeLine", "(IIII)V"⟩, 14), (⟨"RockingPorch$Reader", "houseLine", "()V"⟩, 14), (⟨"RockingPorch$Reader", "kinLine", "()V"⟩, 14), (⟨"RockingPorch$Puzzles", "forbid", "()V"⟩, 5), (⟨"RockingPorch$Puzzles", "seatNext", "(III)V"⟩, 5)]
theorem lw_r2 : ∀ q ∈ lw_privs_2, lw_okq q := List.forall_mem_cons.mpr ⟨lw_p16, List.forall_mem_cons.mpr ⟨lw_p17, List.forall_mem_cons.mpr ⟨lw_p18, List.forall_mem_cons.mpr ⟨lw_p19, List.forall_mem_cons.mpr ⟨lw_p20, List.forall_mem_cons.mpr ⟨lw_p21, List.forall_mem_cons.mpr ⟨lw_p22, List.forall_mem_cons.mpr ⟨lw_p23, List.forall_mem_cons.mpr ⟨lw_p24, List.forall_mem_cons.mpr ⟨lw_p25, List.forall_mem_cons.mpr ⟨lw_p26, List.forall_mem_cons.mpr ⟨lw_p27, List.forall_mem_cons.mpr ⟨lw_p28, List.forall_mem_cons.mpr ⟨lw_p29, List.forall_mem_cons.mpr ⟨lw_p30, List.forall_mem_cons.mpr ⟨lw_p31, fun _ h => absurd h List.not_mem_nil⟩⟩⟩⟩⟩⟩⟩⟩⟩⟩⟩⟩⟩⟩⟩⟩
theorem lw_p32 : lw_okq (⟨"RockingPorch$Puzzles", "x", "(I)I"⟩, 5) := ⟨⟨by decide +kernel, by decide +kernel⟩, List.mem_of_getElem? (i := 356) (by decide +kernel), List.mem_of_getElem? (i := 972) (by decide +kernel), List.mem_of_getElem? (i := 973) (by decide +kernel)⟩
theorem lw_p33 : lw_okq (⟨"RockingPorch$Puzzles", "y", "(I)I"⟩, 5) := ⟨⟨by decide +kernel, by decide +kernel⟩, List.mem_of_getElem? (i := 356) (by decide +kernel), List.mem_of_getElem? (i := 976) (by decide +kernel), List.mem_of_getElem? (i := 977) (by decide +kernel)⟩
theorem lw_p34 : lw_okq (⟨"RockingPorch$Puzzles", "freeFrom", "(II)I"⟩, 5) := ⟨⟨by decide +kernel, by decide +kernel⟩, List.mem_of_getElem? (i := 356) (by decide +kernel), List.mem_of_getElem? (i := 996) (by decide +kernel), List.mem_of_getElem? (i := 997) (by decide +kernel)⟩
theorem lw_p35 : lw_okq (⟨"RockingPorch$Puzzles", "stepSet", "()J"⟩, 5) := ⟨⟨by decide +kernel, by decide +kernel⟩, List.mem_of_getElem? (i := 356) (by decide +kernel), List.mem_of_getElem? (i := 1082) (by decide +kernel), List.mem_of_getElem? (i := 1083) (by decide +kernel)⟩
theorem lw_p36 : lw_okq (⟨"RockingPorch$Puzzles", "sortCoins", "(I)V"⟩, 5) := ⟨⟨by decide +kernel, by decide +kernel⟩, List.mem_of_getElem? (i := 356) (by decide +kernel), List.mem_of_getElem? (i := 1105) (by decide +kernel), List.mem_of_getElem? (i := 1106) (by decide +kernel)⟩
theorem lw_p37 : lw_okq (⟨"RockingPorch$Puzzles", "roomBelow", "(I)I"⟩, 5) := ⟨⟨by decide +kernel, by decide +kernel⟩, List.mem_of_getElem? (i := 356) (by decide +kernel), List.mem_of_getElem? (i := 1109) (by decide +kernel), List.mem_of_getElem? (i := 1110) (by decide +kernel)⟩
theorem lw_p38 : lw_okq (⟨"RockingPorch$Puzzles", "isLost", "(I)Z"⟩, 5) := ⟨⟨by decide +kernel, by decide +kernel⟩, List.mem_of_getElem? (i := 356) (by decide +kernel), List.mem_of_getElem? (i := 1113) (by decide +kernel), List.mem_of_getElem? (i := 1114) (by decide +kernel)⟩
theorem lw_p39 : lw_okq (⟨"RockingPorchModel", "isIn", "(III)Z"⟩, 69) := ⟨⟨by decide +kernel, by decide +kernel⟩, List.mem_of_getElem? (i := 1158) (by decide +kernel), List.mem_of_getElem? (i := 1384) (by decide +kernel), List.mem_of_getElem? (i := 1385) (by decide +kernel)⟩
theorem lw_p40 : lw_okq (⟨"RockingPorchModel", "canSet", "(III)Z"⟩, 69) := ⟨⟨by decide +kernel, by decide +kernel⟩, List.mem_of_getElem? (i := 1158) (by decide +kernel), List.mem_of_getElem? (i := 1396) (by decide +kernel), List.mem_of_getElem? (i := 1397) (by decide +kernel)⟩
theorem lw_p41 : lw_okq (⟨"RockingPorchModel", "isChair", "(I)Z"⟩, 69) := ⟨⟨by decide +kernel, by decide +kernel⟩, List.mem_of_getElem? (i := 1158) (by decide +kernel), List.mem_of_getElem? (i := 1400) (by decide +kernel), List.mem_of_getElem? (i := 1401) (by decide +kernel)⟩
theorem lw_p42 : lw_okq (⟨"RockingPorchModel", "isPerson", "(I)Z"⟩, 69) := ⟨⟨by decide +kernel, by decide +kernel⟩, List.mem_of_getElem? (i := 1158) (by decide +kernel), List.mem_of_getElem? (i := 1404) (by decide +kernel), List.mem_of_getElem? (i := 1405) (by decide +kernel)⟩
theorem lw_p43 : lw_okq (⟨"RockingPorchModel", "doesRock", "(I)Z"⟩, 69) := ⟨⟨by decide +kernel, by decide +kernel⟩, List.mem_of_getElem? (i := 1158) (by decide +kernel), List.mem_of_getElem? (i := 1408) (by decide +kernel), List.mem_of_getElem? (i := 1409) (by decide +kernel)⟩
theorem lw_p44 : lw_okq (⟨"RockingPorchModel", "swings", "(II)V"⟩, 69) := ⟨⟨by decide +kernel, by decide +kernel⟩, List.mem_of_getElem? (i := 1158) (by decide +kernel), List.mem_of_getElem? (i := 1412) (by decide +kernel), List.mem_of_getElem? (i := 1413) (by decide +kernel)⟩
theorem lw_p45 : lw_okq (⟨"RockingPorchModel", "types", "(I)V"⟩, 69) := ⟨⟨by decide +kernel, by decide +kernel⟩, List.mem_of_getElem? (i := 1158) (by decide +kernel), List.mem_of_getElem? (i := 1420) (by decide +kernel), List.mem_of_getElem? (i := 1421) (by decide +kernel)⟩
theorem lw_p46 : lw_okq (⟨"RockingPorchModel", "readsText", "(I)I"⟩, 69) := ⟨⟨by decide +kernel, by decide +kernel⟩, List.mem_of_getElem? (i := 1158) (by decide +kernel), List.mem_of_getElem? (i := 1432) (by decide +kernel), List.mem_of_getElem? (i := 1433) (by decide +kernel)⟩
theorem lw_p47 : lw_okq (⟨"RockingPorchModel", "reads", "()V"⟩, 69) := ⟨⟨by decide +kernel, by decide +kernel⟩, List.mem_of_getElem? (i := 1158) (by decide +kernel), List.mem_of_getElem? (i := 1436) (by decide +kernel), List.mem_of_getElem? (i := 1437) (by decide +kernel)⟩
def lw_privs_3 : List (MethodName × Nat) := [(⟨"RockingPorch$Puzzles", "x", "(I)I"⟩, 5), (⟨"RockingPorch$Puzzles", "y", "(I)I"⟩, 5), (⟨"RockingPorch$Puzzles", "freeFrom", "(II)I"⟩, 5), (⟨"RockingPorch$Puzzles", "stepSet", "()J"⟩, 5), (⟨"RockingPorch$Puzzles", "sortCoins", "(I)V"⟩, 5), (⟨"RockingPorch$Puzzles", "roomBelow", "(I)I"⟩, 5), (⟨"RockingPorch$Puzzles", "isLost", "(I)Z"⟩, 5), (⟨"RockingPorchModel", "isIn", "(III)Z"⟩, 69), (⟨"RockingPorchModel", "canSet", "(III)Z"⟩, 69), (⟨"RockingPorchModel", "isChair", "(I)Z"⟩, 69), (⟨"RockingPorchModel", "isPerson", "(I)Z"⟩, 69), (⟨"RockingPorchModel", "doesRock", "(I)Z"⟩, 69), (⟨"RockingPorchModel", "swings", "(II)V"⟩, 69), (⟨"RockingPorchModel", "types", "(I)V"⟩, 69), (⟨"RockingPorchModel", "readsText", "(I)I"⟩, 69), (⟨"RockingPorchModel", "reads", "()V"⟩, 69)]
theorem lw_r3 : ∀ q ∈ lw_privs_3, lw_okq q := List.forall_mem_cons.mpr ⟨lw_p32, List.forall_mem_cons.mpr ⟨lw_p33, List.forall_mem_cons.mpr ⟨lw_p34, List.forall_mem_cons.mpr ⟨lw_p35, List.forall_mem_cons.mpr ⟨lw_p36, List.forall_mem_cons.mpr ⟨lw_p37, List.forall_mem_cons.mpr ⟨lw_p38, List.forall_mem_cons.mpr ⟨lw_p39, List.forall_mem_cons.mpr ⟨lw_p40, List.forall_mem_cons.mpr ⟨lw_p41, List.forall_mem_cons.mpr ⟨lw_p42, List.forall_mem_cons.mpr ⟨lw_p43, List.forall_mem_cons.mpr ⟨lw_p44, List.forall_mem_cons.mpr ⟨lw_p45, List.forall_mem_cons.mpr ⟨lw_p46, List.forall_mem_cons.mpr ⟨lw_p47, fun _ h => absurd h List.not_mem_nil⟩⟩⟩⟩⟩⟩⟩⟩⟩⟩⟩⟩⟩⟩⟩⟩
theorem lw_p48 : lw_okq (⟨"RockingPorchModel", "raw", "(I)I"⟩, 69) := ⟨⟨by decide +kernel, by decide +kernel⟩, List.mem_of_getElem? (i := 1158) (by decide +kernel), List.mem_of_getElem? (i := 1440) (by decide +kernel), List.mem_of_getElem? (i := 1441) (by decide +kernel)⟩
theorem lw_p49 : lw_okq (⟨"RockingPorchModel", "isLetter", "(I)Z"⟩, 69) := ⟨⟨by decide +kernel, by decide +kernel⟩, List.mem_of_getElem? (i := 1158) (by decide +kernel), List.mem_of_getElem? (i := 1444) (by decide +kernel), List.mem_of_getElem? (i := 1445) (by decide +kernel)⟩
theorem lw_p50 : lw_okq (⟨"RockingPorchModel", "wordAt", "(II)I"⟩, 69) := ⟨⟨by decide +kernel, by decide +kernel⟩, List.mem_of_getElem? (i := 1158) (by decide +kernel), List.mem_of_getElem? (i := 1448) (by decide +kernel), List.mem_of_getElem? (i := 1449) (by decide +kernel)⟩
theorem lw_p51 : lw_okq (⟨"RockingPorchModel", "isDigit", "(I)Z"⟩, 69) := ⟨⟨by decide +kernel, by decide +kernel⟩, List.mem_of_getElem? (i := 1158) (by decide +kernel), List.mem_of_getElem? (i := 1452) (by decide +kernel), List.mem_of_getElem? (i := 1453) (by decide +kernel)⟩
theorem lw_p52 : lw_okq (⟨"RockingPorchModel", "isMarkSign", "(I)Z"⟩, 69) := ⟨⟨by decide +kernel, by decide +kernel⟩, List.mem_of_getElem? (i := 1158) (by decide +kernel), List.mem_of_getElem? (i := 1456) (by decide +kernel), List.mem_of_getElem? (i := 1457) (by decide +kernel)⟩
theorem lw_p53 : lw_okq (⟨"RockingPorchModel", "readCalls", "()I"⟩, 69) := ⟨⟨by decide +kernel, by decide +kernel⟩, List.mem_of_getElem? (i := 1158) (by decide +kernel), List.mem_of_getElem? (i := 1460) (by decide +kernel), List.mem_of_getElem? (i := 1461) (by decide +kernel)⟩
theorem lw_p54 : lw_okq (⟨"RockingPorchModel", "isWord", "(I)Z"⟩, 69) := ⟨⟨by decide +kernel, by decide +kernel⟩, List.mem_of_getElem? (i := 1158) (by decide +kernel), List.mem_of_getElem? (i := 1464) (by decide +kernel), List.mem_of_getElem? (i := 1465) (by decide +kernel)⟩
theorem lw_p55 : lw_okq (⟨"RockingPorchModel", "errs", "(I)I"⟩, 69) := ⟨⟨by decide +kernel, by decide +kernel⟩, List.mem_of_getElem? (i := 1158) (by decide +kernel), List.mem_of_getElem? (i := 1468) (by decide +kernel), List.mem_of_getElem? (i := 1469) (by decide +kernel)⟩
theorem lw_p56 : lw_okq (⟨"RockingPorchModel", "readCall", "(I)I"⟩, 69) := ⟨⟨by decide +kernel, by decide +kernel⟩, List.mem_of_getElem? (i := 1158) (by decide +kernel), List.mem_of_getElem? (i := 1472) (by decide +kernel), List.mem_of_getElem? (i := 1473) (by decide +kernel)⟩
theorem lw_p57 : lw_okq (⟨"RockingPorchModel", "readTold", "(III)I"⟩, 69) := ⟨⟨by decide +kernel, by decide +kernel⟩, List.mem_of_getElem? (i := 1158) (by decide +kernel), List.mem_of_getElem? (i := 1476) (by decide +kernel), List.mem_of_getElem? (i := 1477) (by decide +kernel)⟩
theorem lw_p58 : lw_okq (⟨"RockingPorchModel", "readNumber", "(II)I"⟩, 69) := ⟨⟨by decide +kernel, by decide +kernel⟩, List.mem_of_getElem? (i := 1158) (by decide +kernel), List.mem_of_getElem? (i := 1480) (by decide +kernel), List.mem_of_getElem? (i := 1481) (by decide +kernel)⟩
theorem lw_p59 : lw_okq (⟨"RockingPorchModel", "readMark", "(I)I"⟩, 69) := ⟨⟨by decide +kernel, by decide +kernel⟩, List.mem_of_getElem? (i := 1158) (by decide +kernel), List.mem_of_getElem? (i := 1484) (by decide +kernel), List.mem_of_getElem? (i := 1485) (by decide +kernel)⟩
theorem lw_p60 : lw_okq (⟨"RockingPorchModel", "isSign", "(I)Z"⟩, 69) := ⟨⟨by decide +kernel, by decide +kernel⟩, List.mem_of_getElem? (i := 1158) (by decide +kernel), List.mem_of_getElem? (i := 1488) (by decide +kernel), List.mem_of_getElem? (i := 1489) (by decide +kernel)⟩
theorem lw_p61 : lw_okq (⟨"RockingPorchModel", "readHouse", "()I"⟩, 69) := ⟨⟨by decide +kernel, by decide +kernel⟩, List.mem_of_getElem? (i := 1158) (by decide +kernel), List.mem_of_getElem? (i := 1492) (by decide +kernel), List.mem_of_getElem? (i := 1493) (by decide +kernel)⟩
theorem lw_p62 : lw_okq (⟨"RockingPorchModel", "readHouseLine", "(I)I"⟩, 69) := ⟨⟨by decide +kernel, by decide +kernel⟩, List.mem_of_getElem? (i := 1158) (by decide +kernel), List.mem_of_getElem? (i := 1496) (by decide +kernel), List.mem_of_getElem? (i := 1497) (by decide +kernel)⟩
theorem lw_p63 : lw_okq (⟨"RockingPorchModel", "readKin", "()I"⟩, 69) := ⟨⟨by decide +kernel, by decide +kernel⟩, List.mem_of_getElem? (i := 1158) (by decide +kernel), List.mem_of_getElem? (i := 1500) (by decide +kernel), List.mem_of_getElem? (i := 1501) (by decide +kernel)⟩
def lw_privs_4 : List (MethodName × Nat) := [(⟨"RockingPorchModel", "raw", "(I)I"⟩, 69), (⟨"RockingPorchModel", "isLetter", "(I)Z"⟩, 69), (⟨"RockingPorchModel", "wordAt", "(II)I"⟩, 69), (⟨"RockingPorchModel", "isDigit", "(I)Z"⟩, 69), (⟨"RockingPorchModel", "isMarkSign", "(I)Z"⟩, 69), (⟨"RockingPorchModel", "readCalls", "()I"⟩, 69), (⟨"RockingPorchModel", "isWord", "(I)Z"⟩, 69), (⟨"RockingPorchModel", "errs", "(I)I"⟩, 69), (⟨"RockingPorchModel", "readCall", "(I)I"⟩, 69), (⟨"RockingPorchModel", "readTold", "(III)I"⟩, 69), (⟨"RockingPorchModel", "readNumber", "(II)I"⟩, 69), (⟨"RockingPorchModel", "readMark", "(I)I"⟩, 69), (⟨"RockingPorchModel", "isSign", "(I)Z"⟩, 69), (⟨"RockingPorchModel", "readHouse", "()I"⟩, 69), (⟨"RockingPorchModel", "readHouseLine", "(I)I"⟩, 69), (⟨"RockingPorchModel", "readKin", "()I"⟩, 69)]
theorem lw_r4 : ∀ q ∈ lw_privs_4, lw_okq q := List.forall_mem_cons.mpr ⟨lw_p48, List.forall_mem_cons.mpr ⟨lw_p49, List.forall_mem_cons.mpr ⟨lw_p50, List.forall_mem_cons.mpr ⟨lw_p51, List.forall_mem_cons.mpr ⟨lw_p52, List.forall_mem_cons.mpr ⟨lw_p53, List.forall_mem_cons.mpr ⟨lw_p54, List.forall_mem_cons.mpr ⟨lw_p55, List.forall_mem_cons.mpr ⟨lw_p56, List.forall_mem_cons.mpr ⟨lw_p57, List.forall_mem_cons.mpr ⟨lw_p58, List.forall_mem_cons.mpr ⟨lw_p59, List.forall_mem_cons.mpr ⟨lw_p60, List.forall_mem_cons.mpr ⟨lw_p61, List.forall_mem_cons.mpr ⟨lw_p62, List.forall_mem_cons.mpr ⟨lw_p63, fun _ h => absurd h List.not_mem_nil⟩⟩⟩⟩⟩⟩⟩⟩⟩⟩⟩⟩⟩⟩⟩⟩
theorem lw_p64 : lw_okq (⟨"RockingPorchModel", "readKinOne", "()I"⟩, 69) := ⟨⟨by decide +kernel, by decide +kernel⟩, List.mem_of_getElem? (i := 1158) (by decide +kernel), List.mem_of_getElem? (i := 1504) (by decide +kernel), List.mem_of_getElem? (i := 1505) (by decide +kernel)⟩
theorem lw_p65 : lw_okq (⟨"RockingPorchModel", "readLaw", "()I"⟩, 69) := ⟨⟨by decide +kernel, by decide +kernel⟩, List.mem_of_getElem? (i := 1158) (by decide +kernel), List.mem_of_getElem? (i := 1508) (by decide +kernel), List.mem_of_getElem? (i := 1509) (by decide +kernel)⟩
theorem lw_p66 : lw_okq (⟨"RockingPorchModel", "isLineWord", "()Z"⟩, 69) := ⟨⟨by decide +kernel, by decide +kernel⟩, List.mem_of_getElem? (i := 1158) (by decide +kernel), List.mem_of_getElem? (i := 1512) (by decide +kernel), List.mem_of_getElem? (i := 1513) (by decide +kernel)⟩
theorem lw_p67 : lw_okq (⟨"RockingPorchModel", "readSum", "()I"⟩, 69) := ⟨⟨by decide +kernel, by decide +kernel⟩, List.mem_of_getElem? (i := 1158) (by decide +kernel), List.mem_of_getElem? (i := 1516) (by decide +kernel), List.mem_of_getElem? (i := 1517) (by decide +kernel)⟩
theorem lw_p68 : lw_okq (⟨"RockingPorchModel", "readProduct", "()I"⟩, 69) := ⟨⟨by decide +kernel, by decide +kernel⟩, List.mem_of_getElem? (i := 1158) (by decide +kernel), List.mem_of_getElem? (i := 1520) (by decide +kernel), List.mem_of_getElem? (i := 1521) (by decide +kernel)⟩
theorem lw_p69 : lw_okq (⟨"RockingPorchModel", "readUnit", "()I"⟩, 69) := ⟨⟨by decide +kernel, by decide +kernel⟩, List.mem_of_getElem? (i := 1158) (by decide +kernel), List.mem_of_getElem? (i := 1524) (by decide +kernel), List.mem_of_getElem? (i := 1525) (by decide +kernel)⟩
theorem lw_p70 : lw_okq (⟨"RockingPorchModel", "canAsk", "(I)Z"⟩, 69) := ⟨⟨by decide +kernel, by decide +kernel⟩, List.mem_of_getElem? (i := 1158) (by decide +kernel), List.mem_of_getElem? (i := 1528) (by decide +kernel), List.mem_of_getElem? (i := 1529) (by decide +kernel)⟩
theorem lw_p71 : lw_okq (⟨"RockingPorchModel", "emits", "(II)V"⟩, 69) := ⟨⟨by decide +kernel, by decide +kernel⟩, List.mem_of_getElem? (i := 1158) (by decide +kernel), List.mem_of_getElem? (i := 1532) (by decide +kernel), List.mem_of_getElem? (i := 1533) (by decide +kernel)⟩
theorem lw_p72 : lw_okq (⟨"RockingPorchModel", "readAny", "()I"⟩, 69) := ⟨⟨by decide +kernel, by decide +kernel⟩, List.mem_of_getElem? (i := 1158) (by decide +kernel), List.mem_of_getElem? (i := 1536) (by decide +kernel), List.mem_of_getElem? (i := 1537) (by decide +kernel)⟩
theorem lw_p73 : lw_okq (⟨"RockingPorchModel", "waits", "(I)V"⟩, 69) := ⟨⟨by decide +kernel, by decide +kernel⟩, List.mem_of_getElem? (i := 1158) (by decide +kernel), List.mem_of_getElem? (i := 1540) (by decide +kernel), List.mem_of_getElem? (i := 1541) (by decide +kernel)⟩
theorem lw_p74 : lw_okq (⟨"RockingPorchModel", "readCompared", "()I"⟩, 69) := ⟨⟨by decide +kernel, by decide +kernel⟩, List.mem_of_getElem? (i := 1158) (by decide +kernel), List.mem_of_getElem? (i := 1544) (by decide +kernel), List.mem_of_getElem? (i := 1545) (by decide +kernel)⟩
theorem lw_p75 : lw_okq (⟨"RockingPorchModel", "settles", "(I)V"⟩, 69) := ⟨⟨by decide +kernel, by decide +kernel⟩, List.mem_of_getElem? (i := 1158) (by decide +kernel), List.mem_of_getElem? (i := 1548) (by decide +kernel), List.mem_of_getElem? (i := 1549) (by decide +kernel)⟩
theorem lw_p76 : lw_okq (⟨"RockingPorchModel", "takesLaw", "(I)V"⟩, 69) := ⟨⟨by decide +kernel, by decide +kernel⟩, List.mem_of_getElem? (i := 1158) (by decide +kernel), List.mem_of_getElem? (i := 1552) (by decide +kernel), List.mem_of_getElem? (i := 1553) (by decide +kernel)⟩
theorem lw_p77 : lw_okq (⟨"RockingPorchModel", "takesOther", "(II)V"⟩, 69) := ⟨⟨by decide +kernel, by decide +kernel⟩, List.mem_of_getElem? (i := 1158) (by decide +kernel), List.mem_of_getElem? (i := 1556) (by decide +kernel), List.mem_of_getElem? (i := 1557) (by decide +kernel)⟩
theorem lw_p78 : lw_okq (⟨"RockingPorchModel", "canAct", "(III)Z"⟩, 69) := ⟨⟨by decide +kernel, by decide +kernel⟩, List.mem_of_getElem? (i := 1158) (by decide +kernel), List.mem_of_getElem? (i := 1568) (by decide +kernel), List.mem_of_getElem? (i := 1569) (by decide +kernel)⟩
theorem lw_p79 : lw_okq (⟨"RockingPorchModel", "isFree", "(I)Z"⟩, 69) := ⟨⟨by decide +kernel, by decide +kernel⟩, List.mem_of_getElem? (i := 1158) (by decide +kernel), List.mem_of_getElem? (i := 1572) (by decide +kernel), List.mem_of_getElem? (i := 1573) (by decide +kernel)⟩
def lw_privs_5 : List (MethodName × Nat) := [(⟨"RockingPorchModel", "readKinOne", "()I"⟩, 69), (⟨"RockingPorchModel", "readLaw", "()I"⟩, 69), (⟨"RockingPorchModel", "isLineWord", "()Z"⟩, 69), (⟨"RockingPorchModel", "readSum", "()I"⟩, 69), (⟨"RockingPorchModel", "readProduct", "()I"⟩, 69), (⟨"RockingPorchModel", "readUnit", "()I"⟩, 69), (⟨"RockingPorchModel", "canAsk", "(I)Z"⟩, 69), (⟨"RockingPorchModel", "emits", "(II)V"⟩, 69), (⟨"RockingPorchModel", "readAny", "()I"⟩, 69), (⟨"RockingPorchModel", "waits", "(I)V"⟩, 69), (⟨"RockingPorchModel", "readCompared", "()I"⟩, 69), (⟨"RockingPorchModel", "settles", "(I)V"⟩, 69), (⟨"RockingPorchModel", "takesLaw", "(I)V"⟩, 69), (⟨"RockingPorchModel", "takesOther", "(II)V"⟩, 69), (⟨"RockingPorchModel", "canAct", "(III)Z"⟩, 69), (⟨"RockingPorchModel", "isFree", "(I)Z"⟩, 69)]
theorem lw_r5 : ∀ q ∈ lw_privs_5, lw_okq q := List.forall_mem_cons.mpr ⟨lw_p64, List.forall_mem_cons.mpr ⟨lw_p65, List.forall_mem_cons.mpr ⟨lw_p66, List.forall_mem_cons.mpr ⟨lw_p67, List.forall_mem_cons.mpr ⟨lw_p68, List.forall_mem_cons.mpr ⟨lw_p69, List.forall_mem_cons.mpr ⟨lw_p70, List.forall_mem_cons.mpr ⟨lw_p71, List.forall_mem_cons.mpr ⟨lw_p72, List.forall_mem_cons.mpr ⟨lw_p73, List.forall_mem_cons.mpr ⟨lw_p74, List.forall_mem_cons.mpr ⟨lw_p75, List.forall_mem_cons.mpr ⟨lw_p76, List.forall_mem_cons.mpr ⟨lw_p77, List.forall_mem_cons.mpr ⟨lw_p78, List.forall_mem_cons.mpr ⟨lw_p79, fun _ h => absurd h List.not_mem_nil⟩⟩⟩⟩⟩⟩⟩⟩⟩⟩⟩⟩⟩⟩⟩⟩
theorem lw_p80 : lw_okq (⟨"RockingPorchModel", "takenBy", "(I)I"⟩, 69) := ⟨⟨by decide +kernel, by decide +kernel⟩, List.mem_of_getElem? (i := 1158) (by decide +kernel), List.mem_of_getElem? (i := 1576) (by decide +kernel), List.mem_of_getElem? (i := 1577) (by decide +kernel)⟩
theorem lw_p81 : lw_okq (⟨"RockingPorchModel", "keepsAhead", "()V"⟩, 69) := ⟨⟨by decide +kernel, by decide +kernel⟩, List.mem_of_getElem? (i := 1158) (by decide +kernel), List.mem_of_getElem? (i := 1580) (by decide +kernel), List.mem_of_getElem? (i := 1581) (by decide +kernel)⟩
theorem lw_p82 : lw_okq (⟨"RockingPorchModel", "sits", "(II)Z"⟩, 69) := ⟨⟨by decide +kernel, by decide +kernel⟩, List.mem_of_getElem? (i := 1158) (by decide +kernel), List.mem_of_getElem? (i := 1584) (by decide +kernel), List.mem_of_getElem? (i := 1585) (by decide +kernel)⟩
theorem lw_p83 : lw_okq (⟨"RockingPorchModel", "notes", "(III)V"⟩, 69) := ⟨⟨by decide +kernel, by decide +kernel⟩, List.mem_of_getElem? (i := 1158) (by decide +kernel), List.mem_of_getElem? (i := 1588) (by decide +kernel), List.mem_of_getElem? (i := 1589) (by decide +kernel)⟩
theorem lw_p84 : lw_okq (⟨"RockingPorchModel", "rises", "(I)V"⟩, 69) := ⟨⟨by decide +kernel, by decide +kernel⟩, List.mem_of_getElem? (i := 1158) (by decide +kernel), List.mem_of_getElem? (i := 1592) (by decide +kernel), List.mem_of_getElem? (i := 1593) (by decide +kernel)⟩
theorem lw_p85 : lw_okq (⟨"RockingPorchModel", "chairOf", "(I)I"⟩, 69) := ⟨⟨by decide +kernel, by decide +kernel⟩, List.mem_of_getElem? (i := 1158) (by decide +kernel), List.mem_of_getElem? (i := 1596) (by decide +kernel), List.mem_of_getElem? (i := 1597) (by decide +kernel)⟩
theorem lw_p86 : lw_okq (⟨"RockingPorchModel", "swingsOf", "(II)I"⟩, 69) := ⟨⟨by decide +kernel, by decide +kernel⟩, List.mem_of_getElem? (i := 1158) (by decide +kernel), List.mem_of_getElem? (i := 1600) (by decide +kernel), List.mem_of_getElem? (i := 1601) (by decide +kernel)⟩
theorem lw_p87 : lw_okq (⟨"RockingPorchModel", "asks", "(II)V"⟩, 69) := ⟨⟨by decide +kernel, by decide +kernel⟩, List.mem_of_getElem? (i := 1158) (by decide +kernel), List.mem_of_getElem? (i := 1604) (by decide +kernel), List.mem_of_getElem? (i := 1605) (by decide +kernel)⟩
theorem lw_p88 : lw_okq (⟨"RockingPorchModel", "hereSet", "()I"⟩, 69) := ⟨⟨by decide +kernel, by decide +kernel⟩, List.mem_of_getElem? (i := 1158) (by decide +kernel), List.mem_of_getElem? (i := 1608) (by decide +kernel), List.mem_of_getElem? (i := 1609) (by decide +kernel)⟩
theorem lw_p89 : lw_okq (⟨"RockingPorchModel", "onesOf", "(I)I"⟩, 69) := ⟨⟨by decide +kernel, by decide +kernel⟩, List.mem_of_getElem? (i := 1158) (by decide +kernel), List.mem_of_getElem? (i := 1612) (by decide +kernel), List.mem_of_getElem? (i := 1613) (by decide +kernel)⟩
theorem lw_p90 : lw_okq (⟨"RockingPorchModel", "lawTells", "(III)I"⟩, 69) := ⟨⟨by decide +kernel, by decide +kernel⟩, List.mem_of_getElem? (i := 1158) (by decide +kernel), List.mem_of_getElem? (i := 1616) (by decide +kernel), List.mem_of_getElem? (i := 1617) (by decide +kernel)⟩
theorem lw_p91 : lw_okq (⟨"RockingPorchModel", "lineOf", "(I)I"⟩, 69) := ⟨⟨by decide +kernel, by decide +kernel⟩, List.mem_of_getElem? (i := 1158) (by decide +kernel), List.mem_of_getElem? (i := 1620) (by decide +kernel), List.mem_of_getElem? (i := 1621) (by decide +kernel)⟩
theorem lw_p92 : lw_okq (⟨"RockingPorchModel", "runs", "(III)I"⟩, 69) := ⟨⟨by decide +kernel, by decide +kernel⟩, List.mem_of_getElem? (i := 1158) (by decide +kernel), List.mem_of_getElem? (i := 1624) (by decide +kernel), List.mem_of_getElem? (i := 1625) (by decide +kernel)⟩
theorem lw_p93 : lw_okq (⟨"RockingPorchModel", "twoOf", "(III)I"⟩, 69) := ⟨⟨by decide +kernel, by decide +kernel⟩, List.mem_of_getElem? (i := 1158) (by decide +kernel), List.mem_of_getElem? (i := 1628) (by decide +kernel), List.mem_of_getElem? (i := 1629) (by decide +kernel)⟩
theorem lw_p94 : lw_okq (⟨"RockingPorchModel", "held", "(III)I"⟩, 69) := ⟨⟨by decide +kernel, by decide +kernel⟩, List.mem_of_getElem? (i := 1158) (by decide +kernel), List.mem_of_getElem? (i := 1632) (by decide +kernel), List.mem_of_getElem? (i := 1633) (by decide +kernel)⟩
theorem lw_p95 : lw_okq (⟨"RockingPorchModel", "catAt", "(I)V"⟩, 69) := ⟨⟨by decide +kernel, by decide +kernel⟩, List.mem_of_getElem? (i := 1158) (by decide +kernel), List.mem_of_getElem? (i := 1636) (by decide +kernel), List.mem_of_getElem? (i := 1637) (by decide +kernel)⟩
def lw_privs_6 : List (MethodName × Nat) := [(⟨"RockingPorchModel", "takenBy", "(I)I"⟩, 69), (⟨"RockingPorchModel", "keepsAhead", "()V"⟩, 69), (⟨"RockingPorchModel", "sits", "(II)Z"⟩, 69), (⟨"RockingPorchModel", "notes", "(III)V"⟩, 69), (⟨"RockingPorchModel", "rises", "(I)V"⟩, 69), (⟨"RockingPorchModel", "chairOf", "(I)I"⟩, 69), (⟨"RockingPorchModel", "swingsOf", "(II)I"⟩, 69), (⟨"RockingPorchModel", "asks", "(II)V"⟩, 69), (⟨"RockingPorchModel", "hereSet", "()I"⟩, 69), (⟨"RockingPorchModel", "onesOf", "(I)I"⟩, 69), (⟨"RockingPorchModel", "lawTells", "(III)I"⟩, 69), (⟨"RockingPorchModel", "lineOf", "(I)I"⟩, 69), (⟨"RockingPorchModel", "runs", "(III)I"⟩, 69), (⟨"RockingPorchModel", "twoOf", "(III)I"⟩, 69), (⟨"RockingPorchModel", "held", "(III)I"⟩, 69), (⟨"RockingPorchModel", "catAt", "(I)V"⟩, 69)]
theorem lw_r6 : ∀ q ∈ lw_privs_6, lw_okq q := List.forall_mem_cons.mpr ⟨lw_p80, List.forall_mem_cons.mpr ⟨lw_p81, List.forall_mem_cons.mpr ⟨lw_p82, List.forall_mem_cons.mpr ⟨lw_p83, List.forall_mem_cons.mpr ⟨lw_p84, List.forall_mem_cons.mpr ⟨lw_p85, List.forall_mem_cons.mpr ⟨lw_p86, List.forall_mem_cons.mpr ⟨lw_p87, List.forall_mem_cons.mpr ⟨lw_p88, List.forall_mem_cons.mpr ⟨lw_p89, List.forall_mem_cons.mpr ⟨lw_p90, List.forall_mem_cons.mpr ⟨lw_p91, List.forall_mem_cons.mpr ⟨lw_p92, List.forall_mem_cons.mpr ⟨lw_p93, List.forall_mem_cons.mpr ⟨lw_p94, List.forall_mem_cons.mpr ⟨lw_p95, fun _ h => absurd h List.not_mem_nil⟩⟩⟩⟩⟩⟩⟩⟩⟩⟩⟩⟩⟩⟩⟩⟩
theorem lw_p96 : lw_okq (⟨"RockingPorchModel", "jumpsAt", "(I)I"⟩, 69) := ⟨⟨by decide +kernel, by decide +kernel⟩, List.mem_of_getElem? (i := 1158) (by decide +kernel), List.mem_of_getElem? (i := 1640) (by decide +kernel), List.mem_of_getElem? (i := 1641) (by decide +kernel)⟩
theorem lw_p97 : lw_okq (⟨"RockingPorchModel", "forWhom", "(I)I"⟩, 69) := ⟨⟨by decide +kernel, by decide +kernel⟩, List.mem_of_getElem? (i := 1158) (by decide +kernel), List.mem_of_getElem? (i := 1644) (by decide +kernel), List.mem_of_getElem? (i := 1645) (by decide +kernel)⟩
theorem lw_p98 : lw_okq (⟨"RockingPorchModel", "happens", "(I)Z"⟩, 69) := ⟨⟨by decide +kernel, by decide +kernel⟩, List.mem_of_getElem? (i := 1158) (by decide +kernel), List.mem_of_getElem? (i := 1648) (by decide +kernel), List.mem_of_getElem? (i := 1649) (by decide +kernel)⟩
theorem lw_p99 : lw_okq (⟨"RockingPorchModel", "draw", "(I)I"⟩, 69) := ⟨⟨by decide +kernel, by decide +kernel⟩, List.mem_of_getElem? (i := 1158) (by decide +kernel), List.mem_of_getElem? (i := 1652) (by decide +kernel), List.mem_of_getElem? (i := 1653) (by decide +kernel)⟩
theorem lw_p100 : lw_okq (⟨"RockingPorchModel", "goesBy", "()I"⟩, 69) := ⟨⟨by decide +kernel, by decide +kernel⟩, List.mem_of_getElem? (i := 1158) (by decide +kernel), List.mem_of_getElem? (i := 1662) (by decide +kernel), List.mem_of_getElem? (i := 1663) (by decide +kernel)⟩
theorem lw_p101 : lw_okq (⟨"RockingPorchModel", "callsOne", "(I)Z"⟩, 69) := ⟨⟨by decide +kernel, by decide +kernel⟩, List.mem_of_getElem? (i := 1158) (by decide +kernel), List.mem_of_getElem? (i := 1666) (by decide +kernel), List.mem_of_getElem? (i := 1667) (by decide +kernel)⟩
theorem lw_p102 : lw_okq (⟨"RockingPorchModel", "goesAway", "(I)V"⟩, 69) := ⟨⟨by decide +kernel, by decide +kernel⟩, List.mem_of_getElem? (i := 1158) (by decide +kernel), List.mem_of_getElem? (i := 1670) (by decide +kernel), List.mem_of_getElem? (i := 1671) (by decide +kernel)⟩
theorem lw_p103 : lw_okq (⟨"RockingPorchModel", "comesBack", "(I)V"⟩, 69) := ⟨⟨by decide +kernel, by decide +kernel⟩, List.mem_of_getElem? (i := 1158) (by decide +kernel), List.mem_of_getElem? (i := 1674) (by decide +kernel), List.mem_of_getElem? (i := 1675) (by decide +kernel)⟩
theorem lw_p104 : lw_okq (⟨"RockingPorchModel", "houseDoes", "(I)V"⟩, 69) := ⟨⟨by decide +kernel, by decide +kernel⟩, List.mem_of_getElem? (i := 1158) (by decide +kernel), List.mem_of_getElem? (i := 1678) (by decide +kernel), List.mem_of_getElem? (i := 1679) (by decide +kernel)⟩
theorem lw_p105 : lw_okq (⟨"RockingPorchModel", "rocks", "(I)V"⟩, 69) := ⟨⟨by decide +kernel, by decide +kernel⟩, List.mem_of_getElem? (i := 1158) (by decide +kernel), List.mem_of_getElem? (i := 1682) (by decide +kernel), List.mem_of_getElem? (i := 1683) (by decide +kernel)⟩
theorem lw_p106 : lw_okq (⟨"RockingPorchModel", "fadesOf", "(I)I"⟩, 69) := ⟨⟨by decide +kernel, by decide +kernel⟩, List.mem_of_getElem? (i := 1158) (by decide +kernel), List.mem_of_getElem? (i := 1686) (by decide +kernel), List.mem_of_getElem? (i := 1687) (by decide +kernel)⟩
theorem lw_p107 : lw_okq (⟨"RockingPorchModel", "greater", "(II)I"⟩, 69) := ⟨⟨by decide +kernel, by decide +kernel⟩, List.mem_of_getElem? (i := 1158) (by decide +kernel), List.mem_of_getElem? (i := 1690) (by decide +kernel), List.mem_of_getElem? (i := 1691) (by decide +kernel)⟩
theorem lw_p108 : lw_okq (⟨"RockingPorchModel", "thinks", "()V"⟩, 69) := ⟨⟨by decide +kernel, by decide +kernel⟩, List.mem_of_getElem? (i := 1158) (by decide +kernel), List.mem_of_getElem? (i := 1710) (by decide +kernel), List.mem_of_getElem? (i := 1711) (by decide +kernel)⟩
theorem lw_p109 : lw_okq (⟨"RockingPorchModel", "sumOf", "(II)I"⟩, 69) := ⟨⟨by decide +kernel, by decide +kernel⟩, List.mem_of_getElem? (i := 1158) (by decide +kernel), List.mem_of_getElem? (i := 1714) (by decide +kernel), List.mem_of_getElem? (i := 1715) (by decide +kernel)⟩
theorem lw_p110 : lw_okq (⟨"RockingPorchModel", "freeSet", "()I"⟩, 69) := ⟨⟨by decide +kernel, by decide +kernel⟩, List.mem_of_getElem? (i := 1158) (by decide +kernel), List.mem_of_getElem? (i := 1718) (by decide +kernel), List.mem_of_getElem? (i := 1719) (by decide +kernel)⟩
theorem lw_p111 : lw_okq (⟨"RockingPorchModel", "endsThought", "()V"⟩, 69) := ⟨⟨by decide +kernel, by decide +kernel⟩, List.mem_of_getElem? (i := 1158) (by decide +kernel), List.mem_of_getElem? (i := 1722) (by decide +kernel), List.mem_of_getElem? (i := 1723) (by decide +kernel)⟩
def lw_privs_7 : List (MethodName × Nat) := [(⟨"RockingPorchModel", "jumpsAt", "(I)I"⟩, 69), (⟨"RockingPorchModel", "forWhom", "(I)I"⟩, 69), (⟨"RockingPorchModel", "happens", "(I)Z"⟩, 69), (⟨"RockingPorchModel", "draw", "(I)I"⟩, 69), (⟨"RockingPorchModel", "goesBy", "()I"⟩, 69), (⟨"RockingPorchModel", "callsOne", "(I)Z"⟩, 69), (⟨"RockingPorchModel", "goesAway", "(I)V"⟩, 69), (⟨"RockingPorchModel", "comesBack", "(I)V"⟩, 69), (⟨"RockingPorchModel", "houseDoes", "(I)V"⟩, 69), (⟨"RockingPorchModel", "rocks", "(I)V"⟩, 69), (⟨"RockingPorchModel", "fadesOf", "(I)I"⟩, 69), (⟨"RockingPorchModel", "greater", "(II)I"⟩, 69), (⟨"RockingPorchModel", "thinks", "()V"⟩, 69), (⟨"RockingPorchModel", "sumOf", "(II)I"⟩, 69), (⟨"RockingPorchModel", "freeSet", "()I"⟩, 69), (⟨"RockingPorchModel", "endsThought", "()V"⟩, 69)]
theorem lw_r7 : ∀ q ∈ lw_privs_7, lw_okq q := List.forall_mem_cons.mpr ⟨lw_p96, List.forall_mem_cons.mpr ⟨lw_p97, List.forall_mem_cons.mpr ⟨lw_p98, List.forall_mem_cons.mpr ⟨lw_p99, List.forall_mem_cons.mpr ⟨lw_p100, List.forall_mem_cons.mpr ⟨lw_p101, List.forall_mem_cons.mpr ⟨lw_p102, List.forall_mem_cons.mpr ⟨lw_p103, List.forall_mem_cons.mpr ⟨lw_p104, List.forall_mem_cons.mpr ⟨lw_p105, List.forall_mem_cons.mpr ⟨lw_p106, List.forall_mem_cons.mpr ⟨lw_p107, List.forall_mem_cons.mpr ⟨lw_p108, List.forall_mem_cons.mpr ⟨lw_p109, List.forall_mem_cons.mpr ⟨lw_p110, List.forall_mem_cons.mpr ⟨lw_p111, fun _ h => absurd h List.not_mem_nil⟩⟩⟩⟩⟩⟩⟩⟩⟩⟩⟩⟩⟩⟩⟩⟩
theorem lw_p112 : lw_okq (⟨"RockingPorchModel", "common", "(II)I"⟩, 69) := ⟨⟨by decide +kernel, by decide +kernel⟩, List.mem_of_getElem? (i := 1158) (by decide +kernel), List.mem_of_getElem? (i := 1738) (by decide +kernel), List.mem_of_getElem? (i := 1739) (by decide +kernel)⟩
theorem lw_p113 : lw_okq (⟨"RockingPorchModel", "doSwingTogether", "(I)Z"⟩, 69) := ⟨⟨by decide +kernel, by decide +kernel⟩, List.mem_of_getElem? (i := 1158) (by decide +kernel), List.mem_of_getElem? (i := 1742) (by decide +kernel), List.mem_of_getElem? (i := 1743) (by decide +kernel)⟩
theorem lw_p114 : lw_okq (⟨"RockingPorchModel", "ordersFrom", "(IIZ)I"⟩, 69) := ⟨⟨by decide +kernel, by decide +kernel⟩, List.mem_of_getElem? (i := 1158) (by decide +kernel), List.mem_of_getElem? (i := 1754) (by decide +kernel), List.mem_of_getElem? (i := 1755) (by decide +kernel)⟩
theorem lw_p115 : lw_okq (⟨"RockingPorchModel", "has", "(II)Z"⟩, 69) := ⟨⟨by decide +kernel, by decide +kernel⟩, List.mem_of_getElem? (i := 1158) (by decide +kernel), List.mem_of_getElem? (i := 1758) (by decide +kernel), List.mem_of_getElem? (i := 1759) (by decide +kernel)⟩
theorem lw_p116 : lw_okq (⟨"RockingPorchModel", "canSitBy", "(II)Z"⟩, 69) := ⟨⟨by decide +kernel, by decide +kernel⟩, List.mem_of_getElem? (i := 1158) (by decide +kernel), List.mem_of_getElem? (i := 1762) (by decide +kernel), List.mem_of_getElem? (i := 1763) (by decide +kernel)⟩
theorem lw_p117 : lw_okq (⟨"RockingPorchModel", "sideOf", "(III)I"⟩, 69) := ⟨⟨by decide +kernel, by decide +kernel⟩, List.mem_of_getElem? (i := 1158) (by decide +kernel), List.mem_of_getElem? (i := 1775) (by decide +kernel), List.mem_of_getElem? (i := 1776) (by decide +kernel)⟩
theorem lw_p118 : lw_okq (⟨"RockingPorchModel", "squareApart", "(II)I"⟩, 69) := ⟨⟨by decide +kernel, by decide +kernel⟩, List.mem_of_getElem? (i := 1158) (by decide +kernel), List.mem_of_getElem? (i := 1779) (by decide +kernel), List.mem_of_getElem? (i := 1780) (by decide +kernel)⟩
theorem lw_p119 : lw_okq (⟨"RockingPorchModel", "lesser", "(II)I"⟩, 69) := ⟨⟨by decide +kernel, by decide +kernel⟩, List.mem_of_getElem? (i := 1158) (by decide +kernel), List.mem_of_getElem? (i := 1783) (by decide +kernel), List.mem_of_getElem? (i := 1784) (by decide +kernel)⟩
theorem lw_p120 : lw_okq (⟨"RockingPorchModel", "hasRoom", "(IIII)Z"⟩, 69) := ⟨⟨by decide +kernel, by decide +kernel⟩, List.mem_of_getElem? (i := 1158) (by decide +kernel), List.mem_of_getElem? (i := 1795) (by decide +kernel), List.mem_of_getElem? (i := 1796) (by decide +kernel)⟩
theorem lw_p121 : lw_okq (⟨"RockingPorchModel", "takesOrder", "(I)Z"⟩, 69) := ⟨⟨by decide +kernel, by decide +kernel⟩, List.mem_of_getElem? (i := 1158) (by decide +kernel), List.mem_of_getElem? (i := 1803) (by decide +kernel), List.mem_of_getElem? (i := 1804) (by decide +kernel)⟩
theorem lw_p122 : lw_okq (⟨"RockingPorchModel", "tracks", "()I"⟩, 69) := ⟨⟨by decide +kernel, by decide +kernel⟩, List.mem_of_getElem? (i := 1158) (by decide +kernel), List.mem_of_getElem? (i := 1807) (by decide +kernel), List.mem_of_getElem? (i := 1808) (by decide +kernel)⟩
theorem lw_p123 : lw_okq (⟨"RockingPorchModel", "canComeOff", "()Z"⟩, 69) := ⟨⟨by decide +kernel, by decide +kernel⟩, List.mem_of_getElem? (i := 1158) (by decide +kernel), List.mem_of_getElem? (i := 1811) (by decide +kernel), List.mem_of_getElem? (i := 1812) (by decide +kernel)⟩
theorem lw_p124 : lw_okq (⟨"RockingPorchModel", "firstTrunks", "(I)I"⟩, 69) := ⟨⟨by decide +kernel, by decide +kernel⟩, List.mem_of_getElem? (i := 1158) (by decide +kernel), List.mem_of_getElem? (i := 1823) (by decide +kernel), List.mem_of_getElem? (i := 1824) (by decide +kernel)⟩
theorem lw_p125 : lw_okq (⟨"RockingPorchModel", "fewestTrunks", "(I)I"⟩, 69) := ⟨⟨by decide +kernel, by decide +kernel⟩, List.mem_of_getElem? (i := 1158) (by decide +kernel), List.mem_of_getElem? (i := 1827) (by decide +kernel), List.mem_of_getElem? (i := 1828) (by decide +kernel)⟩
theorem lw_p126 : lw_okq (⟨"RockingPorchModel", "fitOf", "(II)I"⟩, 69) := ⟨⟨by decide +kernel, by decide +kernel⟩, List.mem_of_getElem? (i := 1158) (by decide +kernel), List.mem_of_getElem? (i := 1835) (by decide +kernel), List.mem_of_getElem? (i := 1836) (by decide +kernel)⟩
theorem lw_p127 : lw_okq (⟨"RockingPorchModel", "longOf", "(I)I"⟩, 69) := ⟨⟨by decide +kernel, by decide +kernel⟩, List.mem_of_getElem? (i := 1158) (by decide +kernel), List.mem_of_getElem? (i := 1839) (by decide +kernel), List.mem_of_getElem? (i := 1840) (by decide +kernel)⟩
def lw_privs_8 : List (MethodName × Nat) := [(⟨"RockingPorchModel", "common", "(II)I"⟩, 69), (⟨"RockingPorchModel", "doSwingTogether", "(I)Z"⟩, 69), (⟨"RockingPorchModel", "ordersFrom", "(IIZ)I"⟩, 69), (⟨"RockingPorchModel", "has", "(II)Z"⟩, 69), (⟨"RockingPorchModel", "canSitBy", "(II)Z"⟩, 69), (⟨"RockingPorchModel", "sideOf", "(III)I"⟩, 69), (⟨"RockingPorchModel", "squareApart", "(II)I"⟩, 69), (⟨"RockingPorchModel", "lesser", "(II)I"⟩, 69), (⟨"RockingPorchModel", "hasRoom", "(IIII)Z"⟩, 69), (⟨"RockingPorchModel", "takesOrder", "(I)Z"⟩, 69), (⟨"RockingPorchModel", "tracks", "()I"⟩, 69), (⟨"RockingPorchModel", "canComeOff", "()Z"⟩, 69), (⟨"RockingPorchModel", "firstTrunks", "(I)I"⟩, 69), (⟨"RockingPorchModel", "fewestTrunks", "(I)I"⟩, 69), (⟨"RockingPorchModel", "fitOf", "(II)I"⟩, 69), (⟨"RockingPorchModel", "longOf", "(I)I"⟩, 69)]
theorem lw_r8 : ∀ q ∈ lw_privs_8, lw_okq q := List.forall_mem_cons.mpr ⟨lw_p112, List.forall_mem_cons.mpr ⟨lw_p113, List.forall_mem_cons.mpr ⟨lw_p114, List.forall_mem_cons.mpr ⟨lw_p115, List.forall_mem_cons.mpr ⟨lw_p116, List.forall_mem_cons.mpr ⟨lw_p117, List.forall_mem_cons.mpr ⟨lw_p118, List.forall_mem_cons.mpr ⟨lw_p119, List.forall_mem_cons.mpr ⟨lw_p120, List.forall_mem_cons.mpr ⟨lw_p121, List.forall_mem_cons.mpr ⟨lw_p122, List.forall_mem_cons.mpr ⟨lw_p123, List.forall_mem_cons.mpr ⟨lw_p124, List.forall_mem_cons.mpr ⟨lw_p125, List.forall_mem_cons.mpr ⟨lw_p126, List.forall_mem_cons.mpr ⟨lw_p127, fun _ h => absurd h List.not_mem_nil⟩⟩⟩⟩⟩⟩⟩⟩⟩⟩⟩⟩⟩⟩⟩⟩
theorem lw_p128 : lw_okq (⟨"RockingPorchModel", "handsApart", "(I)I"⟩, 69) := ⟨⟨by decide +kernel, by decide +kernel⟩, List.mem_of_getElem? (i := 1158) (by decide +kernel), List.mem_of_getElem? (i := 1851) (by decide +kernel), List.mem_of_getElem? (i := 1852) (by decide +kernel)⟩
theorem lw_p129 : lw_okq (⟨"RockingPorchModel", "isStep", "(I)Z"⟩, 69) := ⟨⟨by decide +kernel, by decide +kernel⟩, List.mem_of_getElem? (i := 1158) (by decide +kernel), List.mem_of_getElem? (i := 1859) (by decide +kernel), List.mem_of_getElem? (i := 1860) (by decide +kernel)⟩
theorem lw_p130 : lw_okq (⟨"RockingPorchModel", "isCoin", "(I)Z"⟩, 69) := ⟨⟨by decide +kernel, by decide +kernel⟩, List.mem_of_getElem? (i := 1158) (by decide +kernel), List.mem_of_getElem? (i := 1871) (by decide +kernel), List.mem_of_getElem? (i := 1872) (by decide +kernel)⟩
theorem lw_p131 : lw_okq (⟨"RockingPorchModel", "isLost", "()Z"⟩, 69) := ⟨⟨by decide +kernel, by decide +kernel⟩, List.mem_of_getElem? (i := 1158) (by decide +kernel), List.mem_of_getElem? (i := 1879) (by decide +kernel), List.mem_of_getElem? (i := 1880) (by decide +kernel)⟩
theorem lw_p132 : lw_okq (⟨"RockingPorchModel", "keeps", "(I)I"⟩, 69) := ⟨⟨by decide +kernel, by decide +kernel⟩, List.mem_of_getElem? (i := 1158) (by decide +kernel), List.mem_of_getElem? (i := 1887) (by decide +kernel), List.mem_of_getElem? (i := 1888) (by decide +kernel)⟩
theorem lw_p133 : lw_okq (⟨"RockingPorchModel", "keepsTold", "()V"⟩, 69) := ⟨⟨by decide +kernel, by decide +kernel⟩, List.mem_of_getElem? (i := 1158) (by decide +kernel), List.mem_of_getElem? (i := 1891) (by decide +kernel), List.mem_of_getElem? (i := 1892) (by decide +kernel)⟩
theorem lw_p134 : lw_okq (⟨"RockingPorchModel", "keepsLaw", "()V"⟩, 69) := ⟨⟨by decide +kernel, by decide +kernel⟩, List.mem_of_getElem? (i := 1158) (by decide +kernel), List.mem_of_getElem? (i := 1895) (by decide +kernel), List.mem_of_getElem? (i := 1896) (by decide +kernel)⟩
theorem lw_p135 : lw_okq (⟨"RockingPorchModel", "rockSet", "()I"⟩, 69) := ⟨⟨by decide +kernel, by decide +kernel⟩, List.mem_of_getElem? (i := 1158) (by decide +kernel), List.mem_of_getElem? (i := 1903) (by decide +kernel), List.mem_of_getElem? (i := 1904) (by decide +kernel)⟩
def lw_privs_9 : List (MethodName × Nat) := [(⟨"RockingPorchModel", "handsApart", "(I)I"⟩, 69), (⟨"RockingPorchModel", "isStep", "(I)Z"⟩, 69), (⟨"RockingPorchModel", "isCoin", "(I)Z"⟩, 69), (⟨"RockingPorchModel", "isLost", "()Z"⟩, 69), (⟨"RockingPorchModel", "keeps", "(I)I"⟩, 69), (⟨"RockingPorchModel", "keepsTold", "()V"⟩, 69), (⟨"RockingPorchModel", "keepsLaw", "()V"⟩, 69), (⟨"RockingPorchModel", "rockSet", "()I"⟩, 69)]
theorem lw_r9 : ∀ q ∈ lw_privs_9, lw_okq q := List.forall_mem_cons.mpr ⟨lw_p128, List.forall_mem_cons.mpr ⟨lw_p129, List.forall_mem_cons.mpr ⟨lw_p130, List.forall_mem_cons.mpr ⟨lw_p131, List.forall_mem_cons.mpr ⟨lw_p132, List.forall_mem_cons.mpr ⟨lw_p133, List.forall_mem_cons.mpr ⟨lw_p134, List.forall_mem_cons.mpr ⟨lw_p135, fun _ h => absurd h List.not_mem_nil⟩⟩⟩⟩⟩⟩⟩⟩
def lw_privs : List (MethodName × Nat) := lw_privs_1 ++ (lw_privs_2 ++ (lw_privs_3 ++ (lw_privs_4 ++ (lw_privs_5 ++ (lw_privs_6 ++ (lw_privs_7 ++ (lw_privs_8 ++ (lw_privs_9))))))))
def lw_tbl : List Cond := k2_sels lw_privs ++ tables_1
theorem lw_privs_ok : ∀ q ∈ lw_privs, lw_okq q := by
  show ∀ q ∈ lw_privs_1 ++ (lw_privs_2 ++ (lw_privs_3 ++ (lw_privs_4 ++ (lw_privs_5 ++ (lw_privs_6 ++ (lw_privs_7 ++ (lw_privs_8 ++ (lw_privs_9)))))))), lw_okq q
  exact List.forall_mem_append.mpr ⟨lw_r1, List.forall_mem_append.mpr ⟨lw_r2, List.forall_mem_append.mpr ⟨lw_r3, List.forall_mem_append.mpr ⟨lw_r4, List.forall_mem_append.mpr ⟨lw_r5, List.forall_mem_append.mpr ⟨lw_r6, List.forall_mem_append.mpr ⟨lw_r7, List.forall_mem_append.mpr ⟨lw_r8, lw_r9⟩⟩⟩⟩⟩⟩⟩⟩
/-! ===== BEGIN words of one list among another's, by their places ===== -/
theorem goodIn_r {big : List Cond} (ws : List Cond) (ps : List Nat) (hp : ws = ps.filterMap (fun i => big[i]?)) (h : ws.all goodWord = true) : GoodIn big ws := by
  intro w hw
  have h1 := List.all_eq_true.mp h w hw
  rw [hp] at hw
  obtain ⟨i, -, hi⟩ := List.mem_filterMap.mp hw
  have hm : w ∈ big := by first | exact List.mem_of_getElem? hi | exact List.getElem?_mem hi
  exact ⟨hm, good_of_word h1⟩
theorem goodIn_app {big a b : List Cond} (ha : GoodIn big a) (hb : GoodIn big b) : GoodIn big (a ++ b) := fun w h => (List.mem_append.mp h).elim (ha w) (hb w)
theorem goodIn_ca {big a b : List Cond} {c : Cond} (ha : GoodIn big (c :: a)) (hb : GoodIn big b) : GoodIn big (c :: (a ++ b)) := fun w h => (List.mem_cons.mp h).elim (fun e => ha w (List.mem_cons.mpr (Or.inl e))) (fun h => (List.mem_append.mp h).elim (fun h => ha w (List.mem_cons.mpr (Or.inr h))) (hb w))
theorem goodIn_sub {big ws : List Cond} (hm : ∀ w ∈ ws, w ∈ big) (h : ws.all goodWord = true) : GoodIn big ws := fun w hw => ⟨hm w hw, good_of_word (List.all_eq_true.mp h w hw)⟩
/-! ===== END ===== -/

/-! ===== BEGIN printed: names, fields, word lists, decode rows ===== -/
def RX0 : String := "RockingPorch$Doing"
def TX0 : u_T := fun k => match k with
  | 0 => ("RockingPorch$Doing", "whole", "LRockingPorch$Whole;", true)
  | _ => ("RockingPorch$Doing", "values", "[I", true)
def tyX0 : Nat → FieldType := fun k => match k with
  | 0 => .object "RockingPorch$Whole"
  | _ => .array .int
abbrev wsX00 : List Cond := u_ws RX0 TX0 2
theorem nmX0 : ∀ a, a < 2 → ∀ b, b < 2 → a ≠ b → (TX0 a).2.1 ≠ (TX0 b).2.1 := by decide +kernel
theorem tyX0_ok : ∀ k, k < 2 → parseFieldDescriptor (TX0 k).2.2.1 = some (tyX0 k) := by decide +kernel
abbrev cX0_init : ByteArray := prog_2_method_1_code
def yX0_init : MethodName := ⟨RX0, "<init>", "(LRockingPorch$Whole;)V"⟩
abbrev cX0_ask : ByteArray := prog_2_method_2_code
def yX0_ask : MethodName := ⟨RX0, "ask", "(LRockingPorch$Porch;III)I"⟩
abbrev cX0_note : ByteArray := prog_2_method_3_code
def yX0_note : MethodName := ⟨RX0, "note", "(LRockingPorch$Porch;III)V"⟩
abbrev cX0_sitDown : ByteArray := prog_2_method_4_code
def yX0_sitDown : MethodName := ⟨RX0, "sitDown", "(LRockingPorch$Porch;II)Z"⟩
abbrev cX0_getUp : ByteArray := prog_2_method_5_code
def yX0_getUp : MethodName := ⟨RX0, "getUp", "(LRockingPorch$Porch;I)V"⟩
abbrev cX0_goAway : ByteArray := prog_2_method_6_code
def yX0_goAway : MethodName := ⟨RX0, "goAway", "(LRockingPorch$Porch;I)V"⟩
abbrev cX0_comeBack : ByteArray := prog_2_method_7_code
def yX0_comeBack : MethodName := ⟨RX0, "comeBack", "(LRockingPorch$Porch;I)V"⟩
abbrev cX0_letCat : ByteArray := prog_2_method_8_code
def yX0_letCat : MethodName := ⟨RX0, "letCat", "(LRockingPorch$Porch;I)V"⟩
abbrev cX0_passMinute : ByteArray := prog_2_method_9_code
def yX0_passMinute : MethodName := ⟨RX0, "passMinute", "(LRockingPorch$Porch;)I"⟩
abbrev cX0_answer : ByteArray := prog_2_method_10_code
def yX0_answer : MethodName := ⟨RX0, "answer", "(LRockingPorch$Porch;I)Z"⟩
abbrev cX0_findsSeat : ByteArray := prog_2_method_11_code
def yX0_findsSeat : MethodName := ⟨RX0, "findsSeat", "(LRockingPorch$Porch;II)Z"⟩
abbrev cX0_keepHouse : ByteArray := prog_2_method_12_code
def yX0_keepHouse : MethodName := ⟨RX0, "keepHouse", "(LRockingPorch$Porch;I)V"⟩
abbrev cX0_hush : ByteArray := prog_2_method_13_code
def yX0_hush : MethodName := ⟨RX0, "hush", "(LRockingPorch$Porch;)V"⟩
abbrev cX0_fade : ByteArray := prog_2_method_14_code
def yX0_fade : MethodName := ⟨RX0, "fade", "(LRockingPorch$Porch;I)V"⟩
def RX1 : String := "RockingPorch$Law"
def TX1 : u_T := fun k => match k with
  | 0 => ("RockingPorch$Law", "words", "[I", true)
  | 1 => ("RockingPorch$Law", "starts", "[I", true)
  | 2 => ("RockingPorch$Law", "middles", "[I", true)
  | 3 => ("RockingPorch$Law", "ends", "[I", true)
  | 4 => ("RockingPorch$Law", "parts", "[I", true)
  | 5 => ("RockingPorch$Law", "waiting", "[I", true)
  | 6 => ("RockingPorch$Law", "size", "I", false)
  | _ => ("RockingPorch$Law", "count", "I", false)
def tyX1 : Nat → FieldType := fun k => match k with
  | 0 => .array .int
  | 1 => .array .int
  | 2 => .array .int
  | 3 => .array .int
  | 4 => .array .int
  | 5 => .array .int
  | 6 => .int
  | _ => .int
abbrev wsX10 : List Cond := u_ws RX1 TX1 8
theorem nmX1 : ∀ a, a < 8 → ∀ b, b < 8 → a ≠ b → (TX1 a).2.1 ≠ (TX1 b).2.1 := by decide +kernel
theorem tyX1_ok : ∀ k, k < 8 → parseFieldDescriptor (TX1 k).2.2.1 = some (tyX1 k) := by decide +kernel
abbrev cX1_init : ByteArray := prog_3_method_1_code
def yX1_init : MethodName := ⟨RX1, "<init>", "()V"⟩
abbrev cX1_clear : ByteArray := prog_3_method_2_code
def yX1_clear : MethodName := ⟨RX1, "clear", "()V"⟩
abbrev cX1_copyFrom : ByteArray := prog_3_method_3_code
def yX1_copyFrom : MethodName := ⟨RX1, "copyFrom", "(LRockingPorch$Law;)V"⟩
abbrev cX1_begin : ByteArray := prog_3_method_4_code
def yX1_begin : MethodName := ⟨RX1, "begin", "(I)V"⟩
abbrev cX1_add : ByteArray := prog_3_method_5_code
def yX1_add : MethodName := ⟨RX1, "add", "(I)V"⟩
abbrev cX1_middle : ByteArray := prog_3_method_6_code
def yX1_middle : MethodName := ⟨RX1, "middle", "()V"⟩
abbrev cX1_close : ByteArray := prog_3_method_7_code
def yX1_close : MethodName := ⟨RX1, "close", "()V"⟩
abbrev cX1_tell : ByteArray := prog_3_method_8_code
def yX1_tell : MethodName := ⟨RX1, "tell", "(I[I)I"⟩
abbrev cX1_untold : ByteArray := prog_3_method_9_code
def yX1_untold : MethodName := ⟨RX1, "untold", "(I[I)I"⟩
abbrev cX1_held : ByteArray := prog_3_method_10_code
def yX1_held : MethodName := ⟨RX1, "held", "(II)I"⟩
abbrev cX1_worth : ByteArray := prog_3_method_11_code
def yX1_worth : MethodName := ⟨RX1, "worth", "(II[I)I"⟩
abbrev cX1_joined : ByteArray := prog_3_method_12_code
def yX1_joined : MethodName := ⟨RX1, "joined", "(III)I"⟩
def RX2 : String := "RockingPorch$Lines"
def TX2 : u_T := fun k => match k with
  | 0 => ("RockingPorch$Lines", "most", "I", true)
  | 1 => ("RockingPorch$Lines", "cells", "[I", true)
  | _ => ("RockingPorch$Lines", "count", "I", false)
def tyX2 : Nat → FieldType := fun k => match k with
  | 0 => .int
  | 1 => .array .int
  | _ => .int
abbrev wsX20 : List Cond := u_ws RX2 TX2 3
theorem nmX2 : ∀ a, a < 3 → ∀ b, b < 3 → a ≠ b → (TX2 a).2.1 ≠ (TX2 b).2.1 := by decide +kernel
theorem tyX2_ok : ∀ k, k < 3 → parseFieldDescriptor (TX2 k).2.2.1 = some (tyX2 k) := by decide +kernel
abbrev cX2_init : ByteArray := prog_4_method_1_code
def yX2_init : MethodName := ⟨RX2, "<init>", "(I)V"⟩
abbrev cX2_add : ByteArray := prog_4_method_2_code
def yX2_add : MethodName := ⟨RX2, "add", "(IIII)V"⟩
abbrev cX2_cell : ByteArray := prog_4_method_3_code
def yX2_cell : MethodName := ⟨RX2, "cell", "(II)I"⟩
abbrev cX2_minders : ByteArray := prog_4_method_4_code
def yX2_minders : MethodName := ⟨RX2, "minders", "(I)I"⟩
abbrev cX2_copyFrom : ByteArray := prog_4_method_5_code
def yX2_copyFrom : MethodName := ⟨RX2, "copyFrom", "(LRockingPorch$Lines;)V"⟩
def RX3 : String := "RockingPorch$Past"
def TX3 : u_T := fun k => match k with
  | 0 => ("RockingPorch$Past", "porches", "[LRockingPorch$Porch;", true)
  | 1 => ("RockingPorch$Past", "booked", "[I", true)
  | 2 => ("RockingPorch$Past", "next", "I", false)
  | _ => ("RockingPorch$Past", "count", "I", false)
def tyX3 : Nat → FieldType := fun k => match k with
  | 0 => .array (.object "RockingPorch$Porch")
  | 1 => .array .int
  | 2 => .int
  | _ => .int
abbrev wsX30 : List Cond := u_ws RX3 TX3 4
theorem nmX3 : ∀ a, a < 4 → ∀ b, b < 4 → a ≠ b → (TX3 a).2.1 ≠ (TX3 b).2.1 := by decide +kernel
theorem tyX3_ok : ∀ k, k < 4 → parseFieldDescriptor (TX3 k).2.2.1 = some (tyX3 k) := by decide +kernel
abbrev cX3_init : ByteArray := prog_5_method_1_code
def yX3_init : MethodName := ⟨RX3, "<init>", "()V"⟩
abbrev cX3_forget : ByteArray := prog_5_method_2_code
def yX3_forget : MethodName := ⟨RX3, "forget", "()V"⟩
abbrev cX3_keep : ByteArray := prog_5_method_3_code
def yX3_keep : MethodName := ⟨RX3, "keep", "(LRockingPorch$Porch;I)V"⟩
abbrev cX3_goBack : ByteArray := prog_5_method_4_code
def yX3_goBack : MethodName := ⟨RX3, "goBack", "(LRockingPorch$Porch;LRockingPorch$Lines;)Z"⟩
def RX4 : String := "RockingPorch$Porch"
def TX4 : u_T := fun k => match k with
  | 0 => ("RockingPorch$Porch", "inThought", "Z", true)
  | 1 => ("RockingPorch$Porch", "run", "[I", true)
  | 2 => ("RockingPorch$Porch", "swing", "[I", true)
  | 3 => ("RockingPorch$Porch", "rocksFor", "[I", true)
  | 4 => ("RockingPorch$Porch", "taken", "[I", true)
  | 5 => ("RockingPorch$Porch", "dear", "[I", true)
  | 6 => ("RockingPorch$Porch", "where", "[I", true)
  | 7 => ("RockingPorch$Porch", "missed", "[I", true)
  | 8 => ("RockingPorch$Porch", "sat", "[I", true)
  | 9 => ("RockingPorch$Porch", "chairs", "I", false)
  | 10 => ("RockingPorch$Porch", "persons", "I", false)
  | 11 => ("RockingPorch$Porch", "draught", "I", false)
  | 12 => ("RockingPorch$Porch", "stilled", "I", false)
  | 13 => ("RockingPorch$Porch", "minute", "I", false)
  | _ => ("RockingPorch$Porch", "draws", "I", false)
def tyX4 : Nat → FieldType := fun k => match k with
  | 0 => .boolean
  | 1 => .array .int
  | 2 => .array .int
  | 3 => .array .int
  | 4 => .array .int
  | 5 => .array .int
  | 6 => .array .int
  | 7 => .array .int
  | 8 => .array .int
  | 9 => .int
  | 10 => .int
  | 11 => .int
  | 12 => .int
  | 13 => .int
  | _ => .int
abbrev wsX40 : List Cond := u_ws RX4 TX4 15
theorem nmX4 : ∀ a, a < 15 → ∀ b, b < 15 → a ≠ b → (TX4 a).2.1 ≠ (TX4 b).2.1 := by decide +kernel
theorem tyX4_ok : ∀ k, k < 15 → parseFieldDescriptor (TX4 k).2.2.1 = some (tyX4 k) := by decide +kernel
abbrev cX4_init : ByteArray := prog_6_method_1_code
def yX4_init : MethodName := ⟨RX4, "<init>", "(Z)V"⟩
abbrev cX4_copyFrom : ByteArray := prog_6_method_2_code
def yX4_copyFrom : MethodName := ⟨RX4, "copyFrom", "(LRockingPorch$Porch;)V"⟩
abbrev cX4_addChair : ByteArray := prog_6_method_3_code
def yX4_addChair : MethodName := ⟨RX4, "addChair", "(I)I"⟩
abbrev cX4_addPerson : ByteArray := prog_6_method_4_code
def yX4_addPerson : MethodName := ⟨RX4, "addPerson", "(I)I"⟩
abbrev cX4_isChair : ByteArray := prog_6_method_5_code
def yX4_isChair : MethodName := ⟨RX4, "isChair", "(I)Z"⟩
abbrev cX4_isPerson : ByteArray := prog_6_method_6_code
def yX4_isPerson : MethodName := ⟨RX4, "isPerson", "(I)Z"⟩
abbrev cX4_is : ByteArray := prog_6_method_7_code
def yX4_is : MethodName := ⟨RX4, "is", "(II)Z"⟩
abbrev cX4_rocks : ByteArray := prog_6_method_8_code
def yX4_rocks : MethodName := ⟨RX4, "rocks", "(I)Z"⟩
abbrev cX4_isFree : ByteArray := prog_6_method_9_code
def yX4_isFree : MethodName := ⟨RX4, "isFree", "(I)Z"⟩
abbrev cX4_rock : ByteArray := prog_6_method_10_code
def yX4_rock : MethodName := ⟨RX4, "rock", "(III)V"⟩
abbrev cX4_chairOf : ByteArray := prog_6_method_11_code
def yX4_chairOf : MethodName := ⟨RX4, "chairOf", "(I)I"⟩
abbrev cX4_rockingFor : ByteArray := prog_6_method_12_code
def yX4_rockingFor : MethodName := ⟨RX4, "rockingFor", "(I)I"⟩
abbrev cX4_rockingSet : ByteArray := prog_6_method_13_code
def yX4_rockingSet : MethodName := ⟨RX4, "rockingSet", "()I"⟩
abbrev cX4_freeSet : ByteArray := prog_6_method_14_code
def yX4_freeSet : MethodName := ⟨RX4, "freeSet", "()I"⟩
abbrev cX4_awaySet : ByteArray := prog_6_method_15_code
def yX4_awaySet : MethodName := ⟨RX4, "awaySet", "()I"⟩
abbrev cX4_here : ByteArray := prog_6_method_16_code
def yX4_here : MethodName := ⟨RX4, "here", "()I"⟩
abbrev cX4_draw : ByteArray := prog_6_method_17_code
def yX4_draw : MethodName := ⟨RX4, "draw", "(I)I"⟩
abbrev cX4_show : ByteArray := prog_6_method_18_code
def yX4_show : MethodName := ⟨RX4, "show", "(I)I"⟩
def RX5 : String := "RockingPorch$Puzzles"
def TX5 : u_T := fun k => match k with
  | 0 => ("RockingPorch$Puzzles", "told", "LRockingPorch$Told;", true)
  | 1 => ("RockingPorch$Puzzles", "row", "[I", true)
  | 2 => ("RockingPorch$Puzzles", "second", "[I", true)
  | 3 => ("RockingPorch$Puzzles", "ways", "[I", true)
  | _ => ("RockingPorch$Puzzles", "fewest", "[I", true)
def tyX5 : Nat → FieldType := fun k => match k with
  | 0 => .object "RockingPorch$Told"
  | 1 => .array .int
  | 2 => .array .int
  | 3 => .array .int
  | _ => .array .int
abbrev wsX50 : List Cond := u_ws RX5 TX5 5
theorem nmX5 : ∀ a, a < 5 → ∀ b, b < 5 → a ≠ b → (TX5 a).2.1 ≠ (TX5 b).2.1 := by decide +kernel
theorem tyX5_ok : ∀ k, k < 5 → parseFieldDescriptor (TX5 k).2.2.1 = some (tyX5 k) := by decide +kernel
abbrev cX5_init : ByteArray := prog_7_method_1_code
def yX5_init : MethodName := ⟨RX5, "<init>", "(LRockingPorch$Told;)V"⟩
abbrev cX5_meeting : ByteArray := prog_7_method_2_code
def yX5_meeting : MethodName := ⟨RX5, "meeting", "(Z)I"⟩
abbrev cX5_divisor : ByteArray := prog_7_method_3_code
def yX5_divisor : MethodName := ⟨RX5, "divisor", "(II)I"⟩
abbrev cX5_orders : ByteArray := prog_7_method_4_code
def yX5_orders : MethodName := ⟨RX5, "orders", "(IZ)I"⟩
abbrev cX5_forbid : ByteArray := prog_7_method_5_code
def yX5_forbid : MethodName := ⟨RX5, "forbid", "()V"⟩
abbrev cX5_seatNext : ByteArray := prog_7_method_6_code
def yX5_seatNext : MethodName := ⟨RX5, "seatNext", "(III)V"⟩
abbrev cX5_x : ByteArray := prog_7_method_7_code
def yX5_x : MethodName := ⟨RX5, "x", "(I)I"⟩
abbrev cX5_y : ByteArray := prog_7_method_8_code
def yX5_y : MethodName := ⟨RX5, "y", "(I)I"⟩
abbrev cX5_mostOnLine : ByteArray := prog_7_method_9_code
def yX5_mostOnLine : MethodName := ⟨RX5, "mostOnLine", "()I"⟩
abbrev cX5_distance : ByteArray := prog_7_method_10_code
def yX5_distance : MethodName := ⟨RX5, "distance", "(Z)I"⟩
abbrev cX5_rugs : ByteArray := prog_7_method_11_code
def yX5_rugs : MethodName := ⟨RX5, "rugs", "(Z)I"⟩
abbrev cX5_freeFrom : ByteArray := prog_7_method_12_code
def yX5_freeFrom : MethodName := ⟨RX5, "freeFrom", "(II)I"⟩
abbrev cX5_readOrder : ByteArray := prog_7_method_13_code
def yX5_readOrder : MethodName := ⟨RX5, "readOrder", "(I)I"⟩
abbrev cX5_letsOut : ByteArray := prog_7_method_14_code
def yX5_letsOut : MethodName := ⟨RX5, "letsOut", "(I)I"⟩
abbrev cX5_tracks : ByteArray := prog_7_method_15_code
def yX5_tracks : MethodName := ⟨RX5, "tracks", "(I)I"⟩
abbrev cX5_firstFit : ByteArray := prog_7_method_16_code
def yX5_firstFit : MethodName := ⟨RX5, "firstFit", "(I)I"⟩
abbrev cX5_fewestTrunks : ByteArray := prog_7_method_17_code
def yX5_fewestTrunks : MethodName := ⟨RX5, "fewestTrunks", "(I)I"⟩
abbrev cX5_packed : ByteArray := prog_7_method_18_code
def yX5_packed : MethodName := ⟨RX5, "packed", "(III)I"⟩
abbrev cX5_throwsOf : ByteArray := prog_7_method_19_code
def yX5_throwsOf : MethodName := ⟨RX5, "throwsOf", "(I)I"⟩
abbrev cX5_fit : ByteArray := prog_7_method_20_code
def yX5_fit : MethodName := ⟨RX5, "fit", "(II)I"⟩
abbrev cX5_likely : ByteArray := prog_7_method_21_code
def yX5_likely : MethodName := ⟨RX5, "likely", "(IIZ)I"⟩
abbrev cX5_handsApart : ByteArray := prog_7_method_22_code
def yX5_handsApart : MethodName := ⟨RX5, "handsApart", "(I)I"⟩
abbrev cX5_handsAsNear : ByteArray := prog_7_method_23_code
def yX5_handsAsNear : MethodName := ⟨RX5, "handsAsNear", "(I)I"⟩
abbrev cX5_stepSet : ByteArray := prog_7_method_24_code
def yX5_stepSet : MethodName := ⟨RX5, "stepSet", "()J"⟩
abbrev cX5_stands : ByteArray := prog_7_method_25_code
def yX5_stands : MethodName := ⟨RX5, "stands", "(JI)Z"⟩
abbrev cX5_threes : ByteArray := prog_7_method_26_code
def yX5_threes : MethodName := ⟨RX5, "threes", "()I"⟩
abbrev cX5_longestStair : ByteArray := prog_7_method_27_code
def yX5_longestStair : MethodName := ⟨RX5, "longestStair", "()I"⟩
abbrev cX5_winningSlide : ByteArray := prog_7_method_28_code
def yX5_winningSlide : MethodName := ⟨RX5, "winningSlide", "()I"⟩
abbrev cX5_sortCoins : ByteArray := prog_7_method_29_code
def yX5_sortCoins : MethodName := ⟨RX5, "sortCoins", "(I)V"⟩
abbrev cX5_roomBelow : ByteArray := prog_7_method_30_code
def yX5_roomBelow : MethodName := ⟨RX5, "roomBelow", "(I)I"⟩
abbrev cX5_isLost : ByteArray := prog_7_method_31_code
def yX5_isLost : MethodName := ⟨RX5, "isLost", "(I)Z"⟩
def RX6 : String := "RockingPorch$Reader"
def TX6 : u_T := fun k => match k with
  | 0 => ("RockingPorch$Reader", "tape", "[C", true)
  | 1 => ("RockingPorch$Reader", "size", "I", false)
  | 2 => ("RockingPorch$Reader", "kinds", "[I", true)
  | 3 => ("RockingPorch$Reader", "numbers", "[I", true)
  | 4 => ("RockingPorch$Reader", "places", "[I", true)
  | 5 => ("RockingPorch$Reader", "tokens", "I", false)
  | 6 => ("RockingPorch$Reader", "at", "I", false)
  | 7 => ("RockingPorch$Reader", "kind", "I", false)
  | 8 => ("RockingPorch$Reader", "chairs", "I", false)
  | 9 => ("RockingPorch$Reader", "persons", "I", false)
  | 10 => ("RockingPorch$Reader", "law", "LRockingPorch$Law;", true)
  | 11 => ("RockingPorch$Reader", "lines", "LRockingPorch$Lines;", true)
  | 12 => ("RockingPorch$Reader", "fault", "I", false)
  | _ => ("RockingPorch$Reader", "place", "I", false)
def tyX6 : Nat → FieldType := fun k => match k with
  | 0 => .array .char
  | 1 => .int
  | 2 => .array .int
  | 3 => .array .int
  | 4 => .array .int
  | 5 => .int
  | 6 => .int
  | 7 => .int
  | 8 => .int
  | 9 => .int
  | 10 => .object "RockingPorch$Law"
  | 11 => .object "RockingPorch$Lines"
  | 12 => .int
  | _ => .int
abbrev wsX60 : List Cond := u_ws RX6 TX6 14
theorem nmX6 : ∀ a, a < 14 → ∀ b, b < 14 → a ≠ b → (TX6 a).2.1 ≠ (TX6 b).2.1 := by decide +kernel
theorem tyX6_ok : ∀ k, k < 14 → parseFieldDescriptor (TX6 k).2.2.1 = some (tyX6 k) := by decide +kernel
abbrev cX6_init : ByteArray := prog_8_method_1_code
def yX6_init : MethodName := ⟨RX6, "<init>", "()V"⟩
abbrev cX6_hear : ByteArray := prog_8_method_2_code
def yX6_hear : MethodName := ⟨RX6, "hear", "(I)V"⟩
abbrev cX6_read : ByteArray := prog_8_method_3_code
def yX6_read : MethodName := ⟨RX6, "read", "(III)I"⟩
abbrev cX6_split : ByteArray := prog_8_method_4_code
def yX6_split : MethodName := ⟨RX6, "split", "()V"⟩
abbrev cX6_sortOf : ByteArray := prog_8_method_5_code
def yX6_sortOf : MethodName := ⟨RX6, "sortOf", "(C)I"⟩
abbrev cX6_token : ByteArray := prog_8_method_6_code
def yX6_token : MethodName := ⟨RX6, "token", "(II)V"⟩
abbrev cX6_wordOf : ByteArray := prog_8_method_7_code
def yX6_wordOf : MethodName := ⟨RX6, "wordOf", "(II)I"⟩
abbrev cX6_digits : ByteArray := prog_8_method_8_code
def yX6_digits : MethodName := ⟨RX6, "digits", "(II)I"⟩
abbrev cX6_put : ByteArray := prog_8_method_9_code
def yX6_put : MethodName := ⟨RX6, "put", "(III)V"⟩
abbrev cX6_advance : ByteArray := prog_8_method_10_code
def yX6_advance : MethodName := ⟨RX6, "advance", "()V"⟩
abbrev cX6_fail : ByteArray := prog_8_method_11_code
def yX6_fail : MethodName := ⟨RX6, "fail", "(I)V"⟩
abbrev cX6_expect : ByteArray := prog_8_method_12_code
def yX6_expect : MethodName := ⟨RX6, "expect", "(I)V"⟩
abbrev cX6_expectLine : ByteArray := prog_8_method_13_code
def yX6_expectLine : MethodName := ⟨RX6, "expectLine", "(I)V"⟩
abbrev cX6_expectNumber : ByteArray := prog_8_method_14_code
def yX6_expectNumber : MethodName := ⟨RX6, "expectNumber", "(II)I"⟩
abbrev cX6_closeLine : ByteArray := prog_8_method_15_code
def yX6_closeLine : MethodName := ⟨RX6, "closeLine", "(IIII)V"⟩
abbrev cX6_callsLine : ByteArray := prog_8_method_16_code
def yX6_callsLine : MethodName := ⟨RX6, "callsLine", "()V"⟩
abbrev cX6_houseLine : ByteArray := prog_8_method_17_code
def yX6_houseLine : MethodName := ⟨RX6, "houseLine", "()V"⟩
abbrev cX6_kinLine : ByteArray := prog_8_method_18_code
def yX6_kinLine : MethodName := ⟨RX6, "kinLine", "()V"⟩
abbrev cX6_lawLine : ByteArray := prog_8_method_19_code
def yX6_lawLine : MethodName := ⟨RX6, "lawLine", "()V"⟩
abbrev cX6_sumOf : ByteArray := prog_8_method_20_code
def yX6_sumOf : MethodName := ⟨RX6, "sumOf", "()V"⟩
abbrev cX6_expectUnit : ByteArray := prog_8_method_21_code
def yX6_expectUnit : MethodName := ⟨RX6, "expectUnit", "()I"⟩
abbrev cX6_condition : ByteArray := prog_8_method_22_code
def yX6_condition : MethodName := ⟨RX6, "condition", "(I)V"⟩
abbrev cX6_single : ByteArray := prog_8_method_23_code
def yX6_single : MethodName := ⟨RX6, "single", "(I)V"⟩
def RX7 : String := "RockingPorch$Row"
def TX7 : u_T := fun k => match k with
  | 0 => ("RockingPorch$Row", "values", "[I", true)
  | _ => ("RockingPorch$Row", "count", "I", false)
def tyX7 : Nat → FieldType := fun k => match k with
  | 0 => .array .int
  | _ => .int
abbrev wsX70 : List Cond := u_ws RX7 TX7 2
theorem nmX7 : ∀ a, a < 2 → ∀ b, b < 2 → a ≠ b → (TX7 a).2.1 ≠ (TX7 b).2.1 := by decide +kernel
theorem tyX7_ok : ∀ k, k < 2 → parseFieldDescriptor (TX7 k).2.2.1 = some (tyX7 k) := by decide +kernel
abbrev cX7_init : ByteArray := prog_9_method_1_code
def yX7_init : MethodName := ⟨RX7, "<init>", "(I)V"⟩
abbrev cX7_clear : ByteArray := prog_9_method_2_code
def yX7_clear : MethodName := ⟨RX7, "clear", "()I"⟩
abbrev cX7_add : ByteArray := prog_9_method_3_code
def yX7_add : MethodName := ⟨RX7, "add", "(I)I"⟩
abbrev cX7_addUnlike : ByteArray := prog_9_method_4_code
def yX7_addUnlike : MethodName := ⟨RX7, "addUnlike", "(I)I"⟩
abbrev cX7_greatest : ByteArray := prog_9_method_5_code
def yX7_greatest : MethodName := ⟨RX7, "greatest", "()I"⟩
abbrev cX7_get : ByteArray := prog_9_method_6_code
def yX7_get : MethodName := ⟨RX7, "get", "(I)I"⟩
abbrev cX7_copyFrom : ByteArray := prog_9_method_7_code
def yX7_copyFrom : MethodName := ⟨RX7, "copyFrom", "(LRockingPorch$Row;)V"⟩
def RX8 : String := "RockingPorch$Told"
def TX8 : u_T := fun k => match k with
  | 0 => ("RockingPorch$Told", "ticks", "LRockingPorch$Row;", true)
  | 1 => ("RockingPorch$Told", "couples", "LRockingPorch$Row;", true)
  | 2 => ("RockingPorch$Told", "points", "LRockingPorch$Row;", true)
  | 3 => ("RockingPorch$Told", "weights", "LRockingPorch$Row;", true)
  | 4 => ("RockingPorch$Told", "steps", "LRockingPorch$Row;", true)
  | 5 => ("RockingPorch$Told", "coins", "LRockingPorch$Row;", true)
  | _ => ("RockingPorch$Told", "full", "[I", true)
def tyX8 : Nat → FieldType := fun k => match k with
  | 0 => .object "RockingPorch$Row"
  | 1 => .object "RockingPorch$Row"
  | 2 => .object "RockingPorch$Row"
  | 3 => .object "RockingPorch$Row"
  | 4 => .object "RockingPorch$Row"
  | 5 => .object "RockingPorch$Row"
  | _ => .array .int
abbrev wsX80 : List Cond := u_ws RX8 TX8 7
theorem nmX8 : ∀ a, a < 7 → ∀ b, b < 7 → a ≠ b → (TX8 a).2.1 ≠ (TX8 b).2.1 := by decide +kernel
theorem tyX8_ok : ∀ k, k < 7 → parseFieldDescriptor (TX8 k).2.2.1 = some (tyX8 k) := by decide +kernel
abbrev cX8_init : ByteArray := prog_10_method_1_code
def yX8_init : MethodName := ⟨RX8, "<init>", "()V"⟩
abbrev cX8_pair : ByteArray := prog_10_method_2_code
def yX8_pair : MethodName := ⟨RX8, "pair", "(II)I"⟩
abbrev cX8_first : ByteArray := prog_10_method_3_code
def yX8_first : MethodName := ⟨RX8, "first", "(I)I"⟩
abbrev cX8_second : ByteArray := prog_10_method_4_code
def yX8_second : MethodName := ⟨RX8, "second", "(I)I"⟩
abbrev cX8_copyFrom : ByteArray := prog_10_method_5_code
def yX8_copyFrom : MethodName := ⟨RX8, "copyFrom", "(LRockingPorch$Told;)V"⟩
def RX9 : String := "RockingPorch$Whole"
def TX9 : u_T := fun k => match k with
  | 0 => ("RockingPorch$Whole", "porch", "LRockingPorch$Porch;", true)
  | 1 => ("RockingPorch$Whole", "book", "LRockingPorch$Lines;", true)
  | 2 => ("RockingPorch$Whole", "law", "LRockingPorch$Law;", true)
  | 3 => ("RockingPorch$Whole", "calls", "LRockingPorch$Lines;", true)
  | 4 => ("RockingPorch$Whole", "house", "LRockingPorch$Lines;", true)
  | 5 => ("RockingPorch$Whole", "kin", "LRockingPorch$Lines;", true)
  | _ => ("RockingPorch$Whole", "told", "LRockingPorch$Told;", true)
def tyX9 : Nat → FieldType := fun k => match k with
  | 0 => .object "RockingPorch$Porch"
  | 1 => .object "RockingPorch$Lines"
  | 2 => .object "RockingPorch$Law"
  | 3 => .object "RockingPorch$Lines"
  | 4 => .object "RockingPorch$Lines"
  | 5 => .object "RockingPorch$Lines"
  | _ => .object "RockingPorch$Told"
abbrev wsX90 : List Cond := u_ws RX9 TX9 7
theorem nmX9 : ∀ a, a < 7 → ∀ b, b < 7 → a ≠ b → (TX9 a).2.1 ≠ (TX9 b).2.1 := by decide +kernel
theorem tyX9_ok : ∀ k, k < 7 → parseFieldDescriptor (TX9 k).2.2.1 = some (tyX9 k) := by decide +kernel
abbrev cX9_init : ByteArray := prog_11_method_1_code
def yX9_init : MethodName := ⟨RX9, "<init>", "()V"⟩
abbrev cX9_copyFrom : ByteArray := prog_11_method_2_code
def yX9_copyFrom : MethodName := ⟨RX9, "copyFrom", "(LRockingPorch$Whole;)V"⟩
abbrev cX9_learn : ByteArray := prog_11_method_3_code
def yX9_learn : MethodName := ⟨RX9, "learn", "(ILRockingPorch$Reader;)V"⟩
def RX10 : String := "RockingPorch"
def TX10 : u_T := fun k => match k with
  | 0 => ("RockingPorch", "whole", "LRockingPorch$Whole;", true)
  | 1 => ("RockingPorch", "kept", "LRockingPorch$Whole;", true)
  | 2 => ("RockingPorch", "isKept", "Z", false)
  | 3 => ("RockingPorch", "past", "LRockingPorch$Past;", true)
  | 4 => ("RockingPorch", "thought", "LRockingPorch$Porch;", true)
  | 5 => ("RockingPorch", "reader", "LRockingPorch$Reader;", true)
  | 6 => ("RockingPorch", "doing", "LRockingPorch$Doing;", true)
  | _ => ("RockingPorch", "puzzles", "LRockingPorch$Puzzles;", true)
def tyX10 : Nat → FieldType := fun k => match k with
  | 0 => .object "RockingPorch$Whole"
  | 1 => .object "RockingPorch$Whole"
  | 2 => .boolean
  | 3 => .object "RockingPorch$Past"
  | 4 => .object "RockingPorch$Porch"
  | 5 => .object "RockingPorch$Reader"
  | 6 => .object "RockingPorch$Doing"
  | _ => .object "RockingPorch$Puzzles"
abbrev wsX100 : List Cond := u_ws RX10 TX10 8
theorem nmX10 : ∀ a, a < 8 → ∀ b, b < 8 → a ≠ b → (TX10 a).2.1 ≠ (TX10 b).2.1 := by decide +kernel
theorem tyX10_ok : ∀ k, k < 8 → parseFieldDescriptor (TX10 k).2.2.1 = some (tyX10 k) := by decide +kernel
abbrev cX10_init : ByteArray := prog_1_method_1_code
def yX10_init : MethodName := ⟨RX10, "<init>", "()V"⟩
abbrev cX10_state : ByteArray := prog_1_method_2_code
def yX10_state : MethodName := ⟨RX10, "state", "(I)I"⟩
abbrev cX10_chair : ByteArray := prog_1_method_3_code
def yX10_chair : MethodName := ⟨RX10, "chair", "(I)I"⟩
abbrev cX10_person : ByteArray := prog_1_method_4_code
def yX10_person : MethodName := ⟨RX10, "person", "(I)I"⟩
abbrev cX10_set : ByteArray := prog_1_method_5_code
def yX10_set : MethodName := ⟨RX10, "set", "(III)Z"⟩
abbrev cX10_mayBeSet : ByteArray := prog_1_method_6_code
def yX10_mayBeSet : MethodName := ⟨RX10, "mayBeSet", "(III)Z"⟩
abbrev cX10_act : ByteArray := prog_1_method_7_code
def yX10_act : MethodName := ⟨RX10, "act", "(III)Z"⟩
abbrev cX10_mayBeDone : ByteArray := prog_1_method_8_code
def yX10_mayBeDone : MethodName := ⟨RX10, "mayBeDone", "(III)Z"⟩
abbrev cX10_minutes : ByteArray := prog_1_method_9_code
def yX10_minutes : MethodName := ⟨RX10, "minutes", "(I)I"⟩
abbrev cX10_feed : ByteArray := prog_1_method_10_code
def yX10_feed : MethodName := ⟨RX10, "feed", "(IIIII)I"⟩
abbrev cX10_end : ByteArray := prog_1_method_11_code
def yX10_end : MethodName := ⟨RX10, "end", "(I)Z"⟩
abbrev cX10_text : ByteArray := prog_1_method_12_code
def yX10_text : MethodName := ⟨RX10, "text", "(I)I"⟩
abbrev cX10_fault : ByteArray := prog_1_method_13_code
def yX10_fault : MethodName := ⟨RX10, "fault", "(I)I"⟩
abbrev cX10_of : ByteArray := prog_1_method_14_code
def yX10_of : MethodName := ⟨RX10, "of", "(II)I"⟩
abbrev cX10_who : ByteArray := prog_1_method_15_code
def yX10_who : MethodName := ⟨RX10, "who", "(II)I"⟩
abbrev cX10_book : ByteArray := prog_1_method_16_code
def yX10_book : MethodName := ⟨RX10, "book", "(II)I"⟩
abbrev cX10_goes : ByteArray := prog_1_method_17_code
def yX10_goes : MethodName := ⟨RX10, "goes", "(II)I"⟩
abbrev cX10_seat : ByteArray := prog_1_method_18_code
def yX10_seat : MethodName := ⟨RX10, "seat", "()I"⟩
abbrev cX10_tick : ByteArray := prog_1_method_19_code
def yX10_tick : MethodName := ⟨RX10, "tick", "(II)I"⟩
abbrev cX10_ticks : ByteArray := prog_1_method_20_code
def yX10_ticks : MethodName := ⟨RX10, "ticks", "(I)I"⟩
abbrev cX10_apart : ByteArray := prog_1_method_21_code
def yX10_apart : MethodName := ⟨RX10, "apart", "(II)I"⟩
abbrev cX10_seated : ByteArray := prog_1_method_22_code
def yX10_seated : MethodName := ⟨RX10, "seated", "(II)I"⟩
abbrev cX10_point : ByteArray := prog_1_method_23_code
def yX10_point : MethodName := ⟨RX10, "point", "(II)I"⟩
abbrev cX10_line : ByteArray := prog_1_method_24_code
def yX10_line : MethodName := ⟨RX10, "line", "(I)I"⟩
abbrev cX10_full : ByteArray := prog_1_method_25_code
def yX10_full : MethodName := ⟨RX10, "full", "(IIZ)Z"⟩
abbrev cX10_rug : ByteArray := prog_1_method_26_code
def yX10_rug : MethodName := ⟨RX10, "rug", "(I)I"⟩
abbrev cX10_stack : ByteArray := prog_1_method_27_code
def yX10_stack : MethodName := ⟨RX10, "stack", "(II)I"⟩
abbrev cX10_weight : ByteArray := prog_1_method_28_code
def yX10_weight : MethodName := ⟨RX10, "weight", "(I)I"⟩
abbrev cX10_trunks : ByteArray := prog_1_method_29_code
def yX10_trunks : MethodName := ⟨RX10, "trunks", "(II)I"⟩
abbrev cX10_throwing : ByteArray := prog_1_method_30_code
def yX10_throwing : MethodName := ⟨RX10, "throwing", "(I)I"⟩
abbrev cX10_ahead : ByteArray := prog_1_method_31_code
def yX10_ahead : MethodName := ⟨RX10, "ahead", "(III)I"⟩
abbrev cX10_hands : ByteArray := prog_1_method_32_code
def yX10_hands : MethodName := ⟨RX10, "hands", "(II)I"⟩
abbrev cX10_step : ByteArray := prog_1_method_33_code
def yX10_step : MethodName := ⟨RX10, "step", "(I)I"⟩
abbrev cX10_steps : ByteArray := prog_1_method_34_code
def yX10_steps : MethodName := ⟨RX10, "steps", "(I)I"⟩
abbrev cX10_coin : ByteArray := prog_1_method_35_code
def yX10_coin : MethodName := ⟨RX10, "coin", "(I)I"⟩
abbrev cX10_slide : ByteArray := prog_1_method_36_code
def yX10_slide : MethodName := ⟨RX10, "slide", "()I"⟩
abbrev cX10_undo : ByteArray := prog_1_method_37_code
def yX10_undo : MethodName := ⟨RX10, "undo", "()Z"⟩
abbrev cX10_image : ByteArray := prog_1_method_38_code
def yX10_image : MethodName := ⟨RX10, "image", "(Z)Z"⟩
abbrev cX10_look : ByteArray := prog_1_method_39_code
def yX10_look : MethodName := ⟨RX10, "look", "(I)I"⟩
abbrev cX10_within : ByteArray := prog_1_method_40_code
def yX10_within : MethodName := ⟨RX10, "within", "(II)Z"⟩
abbrev cX10_sum : ByteArray := prog_1_method_41_code
def yX10_sum : MethodName := ⟨RX10, "sum", "([II)I"⟩
def RX11 : String := "RockingPorchModel"
def TX11 : u_T := fun k => match k with
  | 0 => ("RockingPorchModel", "told", "I", false)
  | 1 => ("RockingPorchModel", "now", "[I", true)
  | 2 => ("RockingPorchModel", "rows", "[I", true)
  | 3 => ("RockingPorchModel", "undoable", "I", false)
  | 4 => ("RockingPorchModel", "waiting", "[I", true)
  | 5 => ("RockingPorchModel", "isThought", "Z", false)
  | 6 => ("RockingPorchModel", "chairs", "I", false)
  | 7 => ("RockingPorchModel", "persons", "I", false)
  | 8 => ("RockingPorchModel", "run", "[I", true)
  | 9 => ("RockingPorchModel", "dear", "[I", true)
  | 10 => ("RockingPorchModel", "book", "[I", true)
  | 11 => ("RockingPorchModel", "tape", "[I", true)
  | 12 => ("RockingPorchModel", "taped", "I", false)
  | 13 => ("RockingPorchModel", "spot", "I", false)
  | 14 => ("RockingPorchModel", "from", "I", false)
  | 15 => ("RockingPorchModel", "token", "I", false)
  | 16 => ("RockingPorchModel", "value", "I", false)
  | 17 => ("RockingPorchModel", "words", "[I", true)
  | 18 => ("RockingPorchModel", "lineMany", "[I", true)
  | 19 => ("RockingPorchModel", "lineWord", "[I", true)
  | 20 => ("RockingPorchModel", "lineFrom", "[I", true)
  | 21 => ("RockingPorchModel", "lineWhen", "[I", true)
  | 22 => ("RockingPorchModel", "lineTo", "[I", true)
  | 23 => ("RockingPorchModel", "op", "[I", true)
  | 24 => ("RockingPorchModel", "arg", "[I", true)
  | 25 => ("RockingPorchModel", "which", "I", false)
  | 26 => ("RockingPorchModel", "codes", "I", false)
  | 27 => ("RockingPorchModel", "open", "I", false)
  | 28 => ("RockingPorchModel", "pending", "[I", true)
  | 29 => ("RockingPorchModel", "pendings", "I", false)
  | 30 => ("RockingPorchModel", "readFault", "I", false)
  | 31 => ("RockingPorchModel", "readPlace", "I", false)
  | 32 => ("RockingPorchModel", "faultKind", "I", false)
  | 33 => ("RockingPorchModel", "faultPlace", "I", false)
  | 34 => ("RockingPorchModel", "callMany", "I", false)
  | 35 => ("RockingPorchModel", "calls", "[I", true)
  | 36 => ("RockingPorchModel", "houseMany", "I", false)
  | 37 => ("RockingPorchModel", "houses", "[I", true)
  | 38 => ("RockingPorchModel", "kinMany", "I", false)
  | 39 => ("RockingPorchModel", "mindedBy", "[I", true)
  | 40 => ("RockingPorchModel", "asked", "[I", true)
  | 41 => ("RockingPorchModel", "stack", "[I", true)
  | 42 => ("RockingPorchModel", "tickMany", "I", false)
  | 43 => ("RockingPorchModel", "tickRests", "[I", true)
  | 44 => ("RockingPorchModel", "tickTimes", "[I", true)
  | 45 => ("RockingPorchModel", "wontMany", "I", false)
  | 46 => ("RockingPorchModel", "wontA", "[I", true)
  | 47 => ("RockingPorchModel", "wontB", "[I", true)
  | 48 => ("RockingPorchModel", "ordersBy", "[I", true)
  | 49 => ("RockingPorchModel", "pointMany", "I", false)
  | 50 => ("RockingPorchModel", "pointX", "[I", true)
  | 51 => ("RockingPorchModel", "pointY", "[I", true)
  | 52 => ("RockingPorchModel", "isFull", "[I", true)
  | 53 => ("RockingPorchModel", "orderMany", "I", false)
  | 54 => ("RockingPorchModel", "order", "[I", true)
  | 55 => ("RockingPorchModel", "laid", "[I", true)
  | 56 => ("RockingPorchModel", "weightMany", "I", false)
  | 57 => ("RockingPorchModel", "weights", "[I", true)
  | 58 => ("RockingPorchModel", "trunkHas", "[I", true)
  | 59 => ("RockingPorchModel", "trunksBy", "[I", true)
  | 60 => ("RockingPorchModel", "stepMany", "I", false)
  | 61 => ("RockingPorchModel", "stepRow", "[I", true)
  | 62 => ("RockingPorchModel", "coinMany", "I", false)
  | 63 => ("RockingPorchModel", "coins", "[I", true)
  | 64 => ("RockingPorchModel", "sorted", "[I", true)
  | 65 => ("RockingPorchModel", "isTaking", "Z", false)
  | 66 => ("RockingPorchModel", "hasImage", "Z", false)
  | 67 => ("RockingPorchModel", "keptAt", "I", false)
  | _ => ("RockingPorchModel", "images", "[I", true)
def tyX11 : Nat → FieldType := fun k => match k with
  | 0 => .int
  | 1 => .array .int
  | 2 => .array .int
  | 3 => .int
  | 4 => .array .int
  | 5 => .boolean
  | 6 => .int
  | 7 => .int
  | 8 => .array .int
  | 9 => .array .int
  | 10 => .array .int
  | 11 => .array .int
  | 12 => .int
  | 13 => .int
  | 14 => .int
  | 15 => .int
  | 16 => .int
  | 17 => .array .int
  | 18 => .array .int
  | 19 => .array .int
  | 20 => .array .int
  | 21 => .array .int
  | 22 => .array .int
  | 23 => .array .int
  | 24 => .array .int
  | 25 => .int
  | 26 => .int
  | 27 => .int
  | 28 => .array .int
  | 29 => .int
  | 30 => .int
  | 31 => .int
  | 32 => .int
  | 33 => .int
  | 34 => .int
  | 35 => .array .int
  | 36 => .int
  | 37 => .array .int
  | 38 => .int
  | 39 => .array .int
  | 40 => .array .int
  | 41 => .array .int
  | 42 => .int
  | 43 => .array .int
  | 44 => .array .int
  | 45 => .int
  | 46 => .array .int
  | 47 => .array .int
  | 48 => .array .int
  | 49 => .int
  | 50 => .array .int
  | 51 => .array .int
  | 52 => .array .int
  | 53 => .int
  | 54 => .array .int
  | 55 => .array .int
  | 56 => .int
  | 57 => .array .int
  | 58 => .array .int
  | 59 => .array .int
  | 60 => .int
  | 61 => .array .int
  | 62 => .int
  | 63 => .array .int
  | 64 => .array .int
  | 65 => .boolean
  | 66 => .boolean
  | 67 => .int
  | _ => .array .int
abbrev wsX110 : List Cond := u_ws RX11 TX11 69
theorem nmX11 : ∀ a, a < 69 → ∀ b, b < 69 → a ≠ b → (TX11 a).2.1 ≠ (TX11 b).2.1 := by decide +kernel
theorem tyX11_ok : ∀ k, k < 69 → parseFieldDescriptor (TX11 k).2.2.1 = some (tyX11 k) := by decide +kernel
abbrev cX11_init : ByteArray := prog_13_method_1_code
def yX11_init : MethodName := ⟨RX11, "<init>", "()V"⟩
abbrev cX11_isIn : ByteArray := prog_13_method_3_code
def yX11_isIn : MethodName := ⟨RX11, "isIn", "(III)Z"⟩
abbrev cX11_held : ByteArray := prog_13_method_4_code
def yX11_held : MethodName := ⟨RX11, "held", "(III)I"⟩
abbrev cX11_greater : ByteArray := prog_13_method_5_code
def yX11_greater : MethodName := ⟨RX11, "greater", "(II)I"⟩
abbrev cX11_lesser : ByteArray := prog_13_method_6_code
def yX11_lesser : MethodName := ⟨RX11, "lesser", "(II)I"⟩
abbrev cX11_common : ByteArray := prog_13_method_8_code
def yX11_common : MethodName := ⟨RX11, "common", "(II)I"⟩
abbrev cX11_onesOf : ByteArray := prog_13_method_9_code
def yX11_onesOf : MethodName := ⟨RX11, "onesOf", "(I)I"⟩
abbrev cX11_has : ByteArray := prog_13_method_10_code
def yX11_has : MethodName := ⟨RX11, "has", "(II)Z"⟩
abbrev cX11_keepsAhead : ByteArray := prog_13_method_11_code
def yX11_keepsAhead : MethodName := ⟨RX11, "keepsAhead", "()V"⟩
abbrev cX11_undo : ByteArray := prog_13_method_12_code
def yX11_undo : MethodName := ⟨RX11, "undo", "()Z"⟩
abbrev cX11_thinks : ByteArray := prog_13_method_13_code
def yX11_thinks : MethodName := ⟨RX11, "thinks", "()V"⟩
abbrev cX11_endsThought : ByteArray := prog_13_method_14_code
def yX11_endsThought : MethodName := ⟨RX11, "endsThought", "()V"⟩
abbrev cX11_state : ByteArray := prog_13_method_15_code
def yX11_state : MethodName := ⟨RX11, "state", "(I)I"⟩
abbrev cX11_draw : ByteArray := prog_13_method_16_code
def yX11_draw : MethodName := ⟨RX11, "draw", "(I)I"⟩
abbrev cX11_isChair : ByteArray := prog_13_method_17_code
def yX11_isChair : MethodName := ⟨RX11, "isChair", "(I)Z"⟩
abbrev cX11_isPerson : ByteArray := prog_13_method_18_code
def yX11_isPerson : MethodName := ⟨RX11, "isPerson", "(I)Z"⟩
abbrev cX11_forWhom : ByteArray := prog_13_method_19_code
def yX11_forWhom : MethodName := ⟨RX11, "forWhom", "(I)I"⟩
abbrev cX11_takenBy : ByteArray := prog_13_method_20_code
def yX11_takenBy : MethodName := ⟨RX11, "takenBy", "(I)I"⟩
abbrev cX11_doesRock : ByteArray := prog_13_method_21_code
def yX11_doesRock : MethodName := ⟨RX11, "doesRock", "(I)Z"⟩
abbrev cX11_isFree : ByteArray := prog_13_method_22_code
def yX11_isFree : MethodName := ⟨RX11, "isFree", "(I)Z"⟩
abbrev cX11_chair : ByteArray := prog_13_method_23_code
def yX11_chair : MethodName := ⟨RX11, "chair", "(I)I"⟩
abbrev cX11_person : ByteArray := prog_13_method_24_code
def yX11_person : MethodName := ⟨RX11, "person", "(I)I"⟩
abbrev cX11_swings : ByteArray := prog_13_method_25_code
def yX11_swings : MethodName := ⟨RX11, "swings", "(II)V"⟩
abbrev cX11_canSet : ByteArray := prog_13_method_26_code
def yX11_canSet : MethodName := ⟨RX11, "canSet", "(III)Z"⟩
abbrev cX11_set : ByteArray := prog_13_method_27_code
def yX11_set : MethodName := ⟨RX11, "set", "(III)Z"⟩
abbrev cX11_types : ByteArray := prog_13_method_28_code
def yX11_types : MethodName := ⟨RX11, "types", "(I)V"⟩
abbrev cX11_feed : ByteArray := prog_13_method_29_code
def yX11_feed : MethodName := ⟨RX11, "feed", "(IIIII)I"⟩
abbrev cX11_end : ByteArray := prog_13_method_30_code
def yX11_end : MethodName := ⟨RX11, "end", "(I)Z"⟩
abbrev cX11_raw : ByteArray := prog_13_method_31_code
def yX11_raw : MethodName := ⟨RX11, "raw", "(I)I"⟩
abbrev cX11_isLetter : ByteArray := prog_13_method_32_code
def yX11_isLetter : MethodName := ⟨RX11, "isLetter", "(I)Z"⟩
abbrev cX11_isDigit : ByteArray := prog_13_method_33_code
def yX11_isDigit : MethodName := ⟨RX11, "isDigit", "(I)Z"⟩
abbrev cX11_isMarkSign : ByteArray := prog_13_method_34_code
def yX11_isMarkSign : MethodName := ⟨RX11, "isMarkSign", "(I)Z"⟩
abbrev cX11_wordAt : ByteArray := prog_13_method_35_code
def yX11_wordAt : MethodName := ⟨RX11, "wordAt", "(II)I"⟩
abbrev cX11_reads : ByteArray := prog_13_method_36_code
def yX11_reads : MethodName := ⟨RX11, "reads", "()V"⟩
abbrev cX11_errs : ByteArray := prog_13_method_37_code
def yX11_errs : MethodName := ⟨RX11, "errs", "(I)I"⟩
abbrev cX11_isWord : ByteArray := prog_13_method_38_code
def yX11_isWord : MethodName := ⟨RX11, "isWord", "(I)Z"⟩
abbrev cX11_isSign : ByteArray := prog_13_method_39_code
def yX11_isSign : MethodName := ⟨RX11, "isSign", "(I)Z"⟩
abbrev cX11_emits : ByteArray := prog_13_method_40_code
def yX11_emits : MethodName := ⟨RX11, "emits", "(II)V"⟩
abbrev cX11_canAsk : ByteArray := prog_13_method_41_code
def yX11_canAsk : MethodName := ⟨RX11, "canAsk", "(I)Z"⟩
abbrev cX11_readUnit : ByteArray := prog_13_method_42_code
def yX11_readUnit : MethodName := ⟨RX11, "readUnit", "()I"⟩
abbrev cX11_readProduct : ByteArray := prog_13_method_43_code
def yX11_readProduct : MethodName := ⟨RX11, "readProduct", "()I"⟩
abbrev cX11_readSum : ByteArray := prog_13_method_44_code
def yX11_readSum : MethodName := ⟨RX11, "readSum", "()I"⟩
abbrev cX11_readCompared : ByteArray := prog_13_method_45_code
def yX11_readCompared : MethodName := ⟨RX11, "readCompared", "()I"⟩
abbrev cX11_waits : ByteArray := prog_13_method_46_code
def yX11_waits : MethodName := ⟨RX11, "waits", "(I)V"⟩
abbrev cX11_settles : ByteArray := prog_13_method_47_code
def yX11_settles : MethodName := ⟨RX11, "settles", "(I)V"⟩
abbrev cX11_readAny : ByteArray := prog_13_method_48_code
def yX11_readAny : MethodName := ⟨RX11, "readAny", "()I"⟩
abbrev cX11_isLineWord : ByteArray := prog_13_method_49_code
def yX11_isLineWord : MethodName := ⟨RX11, "isLineWord", "()Z"⟩
abbrev cX11_readLaw : ByteArray := prog_13_method_50_code
def yX11_readLaw : MethodName := ⟨RX11, "readLaw", "()I"⟩
abbrev cX11_takesLaw : ByteArray := prog_13_method_51_code
def yX11_takesLaw : MethodName := ⟨RX11, "takesLaw", "(I)V"⟩
abbrev cX11_readNumber : ByteArray := prog_13_method_52_code
def yX11_readNumber : MethodName := ⟨RX11, "readNumber", "(II)I"⟩
abbrev cX11_readMark : ByteArray := prog_13_method_53_code
def yX11_readMark : MethodName := ⟨RX11, "readMark", "(I)I"⟩
abbrev cX11_readTold : ByteArray := prog_13_method_54_code
def yX11_readTold : MethodName := ⟨RX11, "readTold", "(III)I"⟩
abbrev cX11_readCall : ByteArray := prog_13_method_55_code
def yX11_readCall : MethodName := ⟨RX11, "readCall", "(I)I"⟩
abbrev cX11_readCalls : ByteArray := prog_13_method_56_code
def yX11_readCalls : MethodName := ⟨RX11, "readCalls", "()I"⟩
abbrev cX11_readHouseLine : ByteArray := prog_13_method_57_code
def yX11_readHouseLine : MethodName := ⟨RX11, "readHouseLine", "(I)I"⟩
abbrev cX11_readHouse : ByteArray := prog_13_method_58_code
def yX11_readHouse : MethodName := ⟨RX11, "readHouse", "()I"⟩
abbrev cX11_readKinOne : ByteArray := prog_13_method_59_code
def yX11_readKinOne : MethodName := ⟨RX11, "readKinOne", "()I"⟩
abbrev cX11_readKin : ByteArray := prog_13_method_60_code
def yX11_readKin : MethodName := ⟨RX11, "readKin", "()I"⟩
abbrev cX11_readsText : ByteArray := prog_13_method_61_code
def yX11_readsText : MethodName := ⟨RX11, "readsText", "(I)I"⟩
abbrev cX11_takesOther : ByteArray := prog_13_method_62_code
def yX11_takesOther : MethodName := ⟨RX11, "takesOther", "(II)V"⟩
abbrev cX11_text : ByteArray := prog_13_method_63_code
def yX11_text : MethodName := ⟨RX11, "text", "(I)I"⟩
abbrev cX11_fault : ByteArray := prog_13_method_64_code
def yX11_fault : MethodName := ⟨RX11, "fault", "(I)I"⟩
abbrev cX11_twoOf : ByteArray := prog_13_method_65_code
def yX11_twoOf : MethodName := ⟨RX11, "twoOf", "(III)I"⟩
abbrev cX11_runs : ByteArray := prog_13_method_66_code
def yX11_runs : MethodName := ⟨RX11, "runs", "(III)I"⟩
abbrev cX11_lineOf : ByteArray := prog_13_method_67_code
def yX11_lineOf : MethodName := ⟨RX11, "lineOf", "(I)I"⟩
abbrev cX11_hereSet : ByteArray := prog_13_method_68_code
def yX11_hereSet : MethodName := ⟨RX11, "hereSet", "()I"⟩
abbrev cX11_asks : ByteArray := prog_13_method_69_code
def yX11_asks : MethodName := ⟨RX11, "asks", "(II)V"⟩
abbrev cX11_lawTells : ByteArray := prog_13_method_70_code
def yX11_lawTells : MethodName := ⟨RX11, "lawTells", "(III)I"⟩
abbrev cX11_swingsOf : ByteArray := prog_13_method_71_code
def yX11_swingsOf : MethodName := ⟨RX11, "swingsOf", "(II)I"⟩
abbrev cX11_fadesOf : ByteArray := prog_13_method_72_code
def yX11_fadesOf : MethodName := ⟨RX11, "fadesOf", "(I)I"⟩
abbrev cX11_jumpsAt : ByteArray := prog_13_method_73_code
def yX11_jumpsAt : MethodName := ⟨RX11, "jumpsAt", "(I)I"⟩
abbrev cX11_notes : ByteArray := prog_13_method_74_code
def yX11_notes : MethodName := ⟨RX11, "notes", "(III)V"⟩
abbrev cX11_happens : ByteArray := prog_13_method_75_code
def yX11_happens : MethodName := ⟨RX11, "happens", "(I)Z"⟩
abbrev cX11_sits : ByteArray := prog_13_method_76_code
def yX11_sits : MethodName := ⟨RX11, "sits", "(II)Z"⟩
abbrev cX11_chairOf : ByteArray := prog_13_method_77_code
def yX11_chairOf : MethodName := ⟨RX11, "chairOf", "(I)I"⟩
abbrev cX11_rises : ByteArray := prog_13_method_78_code
def yX11_rises : MethodName := ⟨RX11, "rises", "(I)V"⟩
abbrev cX11_goesAway : ByteArray := prog_13_method_79_code
def yX11_goesAway : MethodName := ⟨RX11, "goesAway", "(I)V"⟩
abbrev cX11_comesBack : ByteArray := prog_13_method_80_code
def yX11_comesBack : MethodName := ⟨RX11, "comesBack", "(I)V"⟩
abbrev cX11_catAt : ByteArray := prog_13_method_81_code
def yX11_catAt : MethodName := ⟨RX11, "catAt", "(I)V"⟩
abbrev cX11_canAct : ByteArray := prog_13_method_82_code
def yX11_canAct : MethodName := ⟨RX11, "canAct", "(III)Z"⟩
abbrev cX11_act : ByteArray := prog_13_method_83_code
def yX11_act : MethodName := ⟨RX11, "act", "(III)Z"⟩
abbrev cX11_callsOne : ByteArray := prog_13_method_84_code
def yX11_callsOne : MethodName := ⟨RX11, "callsOne", "(I)Z"⟩
abbrev cX11_houseDoes : ByteArray := prog_13_method_85_code
def yX11_houseDoes : MethodName := ⟨RX11, "houseDoes", "(I)V"⟩
abbrev cX11_rocks : ByteArray := prog_13_method_86_code
def yX11_rocks : MethodName := ⟨RX11, "rocks", "(I)V"⟩
abbrev cX11_goesBy : ByteArray := prog_13_method_87_code
def yX11_goesBy : MethodName := ⟨RX11, "goesBy", "()I"⟩
abbrev cX11_minutes : ByteArray := prog_13_method_88_code
def yX11_minutes : MethodName := ⟨RX11, "minutes", "(I)I"⟩
abbrev cX11_of : ByteArray := prog_13_method_89_code
def yX11_of : MethodName := ⟨RX11, "of", "(II)I"⟩
abbrev cX11_who : ByteArray := prog_13_method_90_code
def yX11_who : MethodName := ⟨RX11, "who", "(II)I"⟩
abbrev cX11_book : ByteArray := prog_13_method_91_code
def yX11_book : MethodName := ⟨RX11, "book", "(II)I"⟩
abbrev cX11_sumOf : ByteArray := prog_13_method_92_code
def yX11_sumOf : MethodName := ⟨RX11, "sumOf", "(II)I"⟩
abbrev cX11_freeSet : ByteArray := prog_13_method_93_code
def yX11_freeSet : MethodName := ⟨RX11, "freeSet", "()I"⟩
abbrev cX11_goes : ByteArray := prog_13_method_94_code
def yX11_goes : MethodName := ⟨RX11, "goes", "(II)I"⟩
abbrev cX11_seat : ByteArray := prog_13_method_95_code
def yX11_seat : MethodName := ⟨RX11, "seat", "()I"⟩
abbrev cX11_tick : ByteArray := prog_13_method_96_code
def yX11_tick : MethodName := ⟨RX11, "tick", "(II)I"⟩
abbrev cX11_doSwingTogether : ByteArray := prog_13_method_97_code
def yX11_doSwingTogether : MethodName := ⟨RX11, "doSwingTogether", "(I)Z"⟩
abbrev cX11_ticks : ByteArray := prog_13_method_98_code
def yX11_ticks : MethodName := ⟨RX11, "ticks", "(I)I"⟩
abbrev cX11_apart : ByteArray := prog_13_method_99_code
def yX11_apart : MethodName := ⟨RX11, "apart", "(II)I"⟩
abbrev cX11_canSitBy : ByteArray := prog_13_method_100_code
def yX11_canSitBy : MethodName := ⟨RX11, "canSitBy", "(II)Z"⟩
abbrev cX11_ordersFrom : ByteArray := prog_13_method_101_code
def yX11_ordersFrom : MethodName := ⟨RX11, "ordersFrom", "(IIZ)I"⟩
abbrev cX11_seated : ByteArray := prog_13_method_102_code
def yX11_seated : MethodName := ⟨RX11, "seated", "(II)I"⟩
abbrev cX11_point : ByteArray := prog_13_method_103_code
def yX11_point : MethodName := ⟨RX11, "point", "(II)I"⟩
abbrev cX11_sideOf : ByteArray := prog_13_method_104_code
def yX11_sideOf : MethodName := ⟨RX11, "sideOf", "(III)I"⟩
abbrev cX11_squareApart : ByteArray := prog_13_method_105_code
def yX11_squareApart : MethodName := ⟨RX11, "squareApart", "(II)I"⟩
abbrev cX11_line : ByteArray := prog_13_method_106_code
def yX11_line : MethodName := ⟨RX11, "line", "(I)I"⟩
abbrev cX11_full : ByteArray := prog_13_method_107_code
def yX11_full : MethodName := ⟨RX11, "full", "(IIZ)Z"⟩
abbrev cX11_hasRoom : ByteArray := prog_13_method_108_code
def yX11_hasRoom : MethodName := ⟨RX11, "hasRoom", "(IIII)Z"⟩
abbrev cX11_rug : ByteArray := prog_13_method_109_code
def yX11_rug : MethodName := ⟨RX11, "rug", "(I)I"⟩
abbrev cX11_takesOrder : ByteArray := prog_13_method_110_code
def yX11_takesOrder : MethodName := ⟨RX11, "takesOrder", "(I)Z"⟩
abbrev cX11_canComeOff : ByteArray := prog_13_method_111_code
def yX11_canComeOff : MethodName := ⟨RX11, "canComeOff", "()Z"⟩
abbrev cX11_tracks : ByteArray := prog_13_method_112_code
def yX11_tracks : MethodName := ⟨RX11, "tracks", "()I"⟩
abbrev cX11_stack : ByteArray := prog_13_method_113_code
def yX11_stack : MethodName := ⟨RX11, "stack", "(II)I"⟩
abbrev cX11_weight : ByteArray := prog_13_method_114_code
def yX11_weight : MethodName := ⟨RX11, "weight", "(I)I"⟩
abbrev cX11_firstTrunks : ByteArray := prog_13_method_115_code
def yX11_firstTrunks : MethodName := ⟨RX11, "firstTrunks", "(I)I"⟩
abbrev cX11_fewestTrunks : ByteArray := prog_13_method_116_code
def yX11_fewestTrunks : MethodName := ⟨RX11, "fewestTrunks", "(I)I"⟩
abbrev cX11_trunks : ByteArray := prog_13_method_117_code
def yX11_trunks : MethodName := ⟨RX11, "trunks", "(II)I"⟩
abbrev cX11_longOf : ByteArray := prog_13_method_118_code
def yX11_longOf : MethodName := ⟨RX11, "longOf", "(I)I"⟩
abbrev cX11_fitOf : ByteArray := prog_13_method_119_code
def yX11_fitOf : MethodName := ⟨RX11, "fitOf", "(II)I"⟩
abbrev cX11_throwing : ByteArray := prog_13_method_120_code
def yX11_throwing : MethodName := ⟨RX11, "throwing", "(I)I"⟩
abbrev cX11_ahead : ByteArray := prog_13_method_121_code
def yX11_ahead : MethodName := ⟨RX11, "ahead", "(III)I"⟩
abbrev cX11_handsApart : ByteArray := prog_13_method_122_code
def yX11_handsApart : MethodName := ⟨RX11, "handsApart", "(I)I"⟩
abbrev cX11_hands : ByteArray := prog_13_method_123_code
def yX11_hands : MethodName := ⟨RX11, "hands", "(II)I"⟩
abbrev cX11_step : ByteArray := prog_13_method_124_code
def yX11_step : MethodName := ⟨RX11, "step", "(I)I"⟩
abbrev cX11_isStep : ByteArray := prog_13_method_125_code
def yX11_isStep : MethodName := ⟨RX11, "isStep", "(I)Z"⟩
abbrev cX11_steps : ByteArray := prog_13_method_126_code
def yX11_steps : MethodName := ⟨RX11, "steps", "(I)I"⟩
abbrev cX11_isCoin : ByteArray := prog_13_method_127_code
def yX11_isCoin : MethodName := ⟨RX11, "isCoin", "(I)Z"⟩
abbrev cX11_coin : ByteArray := prog_13_method_128_code
def yX11_coin : MethodName := ⟨RX11, "coin", "(I)I"⟩
abbrev cX11_isLost : ByteArray := prog_13_method_129_code
def yX11_isLost : MethodName := ⟨RX11, "isLost", "()Z"⟩
abbrev cX11_slide : ByteArray := prog_13_method_130_code
def yX11_slide : MethodName := ⟨RX11, "slide", "()I"⟩
abbrev cX11_keeps : ByteArray := prog_13_method_131_code
def yX11_keeps : MethodName := ⟨RX11, "keeps", "(I)I"⟩
abbrev cX11_keepsLaw : ByteArray := prog_13_method_132_code
def yX11_keepsLaw : MethodName := ⟨RX11, "keepsLaw", "()V"⟩
abbrev cX11_keepsTold : ByteArray := prog_13_method_133_code
def yX11_keepsTold : MethodName := ⟨RX11, "keepsTold", "()V"⟩
abbrev cX11_image : ByteArray := prog_13_method_134_code
def yX11_image : MethodName := ⟨RX11, "image", "(Z)Z"⟩
abbrev cX11_rockSet : ByteArray := prog_13_method_135_code
def yX11_rockSet : MethodName := ⟨RX11, "rockSet", "()I"⟩
abbrev cX11_look : ByteArray := prog_13_method_136_code
def yX11_look : MethodName := ⟨RX11, "look", "(I)I"⟩
def RJ11 : String := "java/lang/Character"
def TJ11 : u_T := fun k => match k with
  | _ => ("", "", "", false)
def tyJ11 : Nat → FieldType := fun k => match k with
  | _ => .int
abbrev wsJ110 : List Cond := u_ws RJ11 TJ11 0
theorem nmJ11 : ∀ a, a < 0 → ∀ b, b < 0 → a ≠ b → (TJ11 a).2.1 ≠ (TJ11 b).2.1 := by decide +kernel
theorem tyJ11_ok : ∀ k, k < 0 → parseFieldDescriptor (TJ11 k).2.2.1 = some (tyJ11 k) := by decide +kernel
abbrev cJ11_isValidCodePoint_9a6ad : ByteArray := prog_14_method_11_code
def yJ11_isValidCodePoint_9a6ad : MethodName := ⟨RJ11, "isValidCodePoint", "(I)Z"⟩
abbrev cJ11_highSurrogate_5068e : ByteArray := prog_14_method_28_code
def yJ11_highSurrogate_5068e : MethodName := ⟨RJ11, "highSurrogate", "(I)C"⟩
abbrev cJ11_lowSurrogate_5068e : ByteArray := prog_14_method_29_code
def yJ11_lowSurrogate_5068e : MethodName := ⟨RJ11, "lowSurrogate", "(I)C"⟩
def RJ6 : String := "java/lang/Integer"
def TJ6 : u_T := fun k => match k with
  | _ => ("", "", "", false)
def tyJ6 : Nat → FieldType := fun k => match k with
  | _ => .int
abbrev wsJ60 : List Cond := u_ws RJ6 TJ6 0
theorem nmJ6 : ∀ a, a < 0 → ∀ b, b < 0 → a ≠ b → (TJ6 a).2.1 ≠ (TJ6 b).2.1 := by decide +kernel
theorem tyJ6_ok : ∀ k, k < 0 → parseFieldDescriptor (TJ6 k).2.2.1 = some (tyJ6 k) := by decide +kernel
abbrev cJ6_bitCount_0f7a4 : ByteArray := prog_15_method_49_code
def yJ6_bitCount_0f7a4 : MethodName := ⟨RJ6, "bitCount", "(I)I"⟩
def RJ9 : String := "java/lang/Math"
def TJ9 : u_T := fun k => match k with
  | _ => ("", "", "", false)
def tyJ9 : Nat → FieldType := fun k => match k with
  | _ => .int
abbrev wsJ90 : List Cond := u_ws RJ9 TJ9 0
theorem nmJ9 : ∀ a, a < 0 → ∀ b, b < 0 → a ≠ b → (TJ9 a).2.1 ≠ (TJ9 b).2.1 := by decide +kernel
theorem tyJ9_ok : ∀ k, k < 0 → parseFieldDescriptor (TJ9 k).2.2.1 = some (tyJ9 k) := by decide +kernel
abbrev cJ9_max_7cf53 : ByteArray := prog_16_method_65_code
def yJ9_max_7cf53 : MethodName := ⟨RJ9, "max", "(II)I"⟩
abbrev cJ9_min_7cf53 : ByteArray := prog_16_method_69_code
def yJ9_min_7cf53 : MethodName := ⟨RJ9, "min", "(II)I"⟩
def RJ0 : String := "java/lang/String"
def TJ0 : u_T := fun k => match k with
  | _ => ("", "", "", false)
def tyJ0 : Nat → FieldType := fun k => match k with
  | _ => .int
abbrev wsJ00 : List Cond := u_ws RJ0 TJ0 0
theorem nmJ0 : ∀ a, a < 0 → ∀ b, b < 0 → a ≠ b → (TJ0 a).2.1 ≠ (TJ0 b).2.1 := by decide +kernel
theorem tyJ0_ok : ∀ k, k < 0 → parseFieldDescriptor (TJ0 k).2.2.1 = some (tyJ0 k) := by decide +kernel
abbrev cJ0_length_8abf5 : ByteArray := prog_17_method_54_code
def yJ0_length_8abf5 : MethodName := ⟨RJ0, "length", "()I"⟩
abbrev cJ0_charAt_5068e : ByteArray := prog_17_method_56_code
def yJ0_charAt_5068e : MethodName := ⟨RJ0, "charAt", "(I)C"⟩
abbrev cJ0_indexOf_0f7a4 : ByteArray := prog_17_method_79_code
def yJ0_indexOf_0f7a4 : MethodName := ⟨RJ0, "indexOf", "(I)I"⟩
abbrev cJ0_indexOf_7cf53 : ByteArray := prog_17_method_80_code
def yJ0_indexOf_7cf53 : MethodName := ⟨RJ0, "indexOf", "(II)I"⟩
abbrev cJ0_coder_7d493 : ByteArray := prog_17_method_152_code
def yJ0_coder_7d493 : MethodName := ⟨RJ0, "coder", "()B"⟩
abbrev cJ0_isLatin1_aae02 : ByteArray := prog_17_method_154_code
def yJ0_isLatin1_aae02 : MethodName := ⟨RJ0, "isLatin1", "()Z"⟩
abbrev cJ0_checkIndex_df160 : ByteArray := prog_17_method_155_code
def yJ0_checkIndex_df160 : MethodName := ⟨RJ0, "checkIndex", "(II)V"⟩
abbrev cJ0_checkBoundsBeginEnd_23922 : ByteArray := prog_17_method_158_code
def yJ0_checkBoundsBeginEnd_23922 : MethodName := ⟨RJ0, "checkBoundsBeginEnd", "(III)V"⟩
def RJ1 : String := "java/lang/StringLatin1"
def TJ1 : u_T := fun k => match k with
  | _ => ("", "", "", false)
def tyJ1 : Nat → FieldType := fun k => match k with
  | _ => .int
abbrev wsJ10 : List Cond := u_ws RJ1 TJ1 0
theorem nmJ1 : ∀ a, a < 0 → ∀ b, b < 0 → a ≠ b → (TJ1 a).2.1 ≠ (TJ1 b).2.1 := by decide +kernel
theorem tyJ1_ok : ∀ k, k < 0 → parseFieldDescriptor (TJ1 k).2.2.1 = some (tyJ1 k) := by decide +kernel
abbrev cJ1_charAt_3b067 : ByteArray := prog_18_method_2_code
def yJ1_charAt_3b067 : MethodName := ⟨RJ1, "charAt", "([BI)C"⟩
abbrev cJ1_canEncode_9a6ad : ByteArray := prog_18_method_4_code
def yJ1_canEncode_9a6ad : MethodName := ⟨RJ1, "canEncode", "(I)Z"⟩
abbrev cJ1_indexOf_4cfef : ByteArray := prog_18_method_22_code
def yJ1_indexOf_4cfef : MethodName := ⟨RJ1, "indexOf", "([BIII)I"⟩
abbrev cJ1_indexOfChar_4cfef : ByteArray := prog_18_method_23_code
def yJ1_indexOfChar_4cfef : MethodName := ⟨RJ1, "indexOfChar", "([BIII)I"⟩
def RJ2 : String := "java/lang/StringUTF16"
def TJ2 : u_T := fun k => match k with
  | _ => ("", "", "", false)
def tyJ2 : Nat → FieldType := fun k => match k with
  | _ => .int
abbrev wsJ20 : List Cond := u_ws RJ2 TJ2 0
theorem nmJ2 : ∀ a, a < 0 → ∀ b, b < 0 → a ≠ b → (TJ2 a).2.1 ≠ (TJ2 b).2.1 := by decide +kernel
theorem tyJ2_ok : ∀ k, k < 0 → parseFieldDescriptor (TJ2 k).2.2.1 = some (tyJ2 k) := by decide +kernel
abbrev cJ2_getChar_3b067 : ByteArray := prog_19_method_5_code
def yJ2_getChar_3b067 : MethodName := ⟨RJ2, "getChar", "([BI)C"⟩
abbrev cJ2_length_9d52b : ByteArray := prog_19_method_6_code
def yJ2_length_9d52b : MethodName := ⟨RJ2, "length", "([B)I"⟩
abbrev cJ2_indexOf_4cfef : ByteArray := prog_19_method_40_code
def yJ2_indexOf_4cfef : MethodName := ⟨RJ2, "indexOf", "([BIII)I"⟩
abbrev cJ2_indexOfChar_4cfef : ByteArray := prog_19_method_47_code
def yJ2_indexOfChar_4cfef : MethodName := ⟨RJ2, "indexOfChar", "([BIII)I"⟩
abbrev cJ2_indexOfCharUnsafe_4cfef : ByteArray := prog_19_method_48_code
def yJ2_indexOfCharUnsafe_4cfef : MethodName := ⟨RJ2, "indexOfCharUnsafe", "([BIII)I"⟩
abbrev cJ2_indexOfSupplementary_4cfef : ByteArray := prog_19_method_49_code
def yJ2_indexOfSupplementary_4cfef : MethodName := ⟨RJ2, "indexOfSupplementary", "([BIII)I"⟩
abbrev cJ2_charAt_3b067 : ByteArray := prog_19_method_83_code
def yJ2_charAt_3b067 : MethodName := ⟨RJ2, "charAt", "([BI)C"⟩
abbrev cJ2_checkIndex_2214a : ByteArray := prog_19_method_91_code
def yJ2_checkIndex_2214a : MethodName := ⟨RJ2, "checkIndex", "(I[B)V"⟩
abbrev cJ2_checkBoundsBeginEnd_d044e : ByteArray := prog_19_method_93_code
def yJ2_checkBoundsBeginEnd_d044e : MethodName := ⟨RJ2, "checkBoundsBeginEnd", "(II[B)V"⟩
def RJ10 : String := "java/lang/System"
def TJ10 : u_T := fun k => match k with
  | _ => ("", "", "", false)
def tyJ10 : Nat → FieldType := fun k => match k with
  | _ => .int
abbrev wsJ100 : List Cond := u_ws RJ10 TJ10 0
theorem nmJ10 : ∀ a, a < 0 → ∀ b, b < 0 → a ≠ b → (TJ10 a).2.1 ≠ (TJ10 b).2.1 := by decide +kernel
theorem tyJ10_ok : ∀ k, k < 0 → parseFieldDescriptor (TJ10 k).2.2.1 = some (tyJ10 k) := by decide +kernel
def RJ3 : String := "jdk/internal/util/Preconditions"
def TJ3 : u_T := fun k => match k with
  | _ => ("", "", "", false)
def tyJ3 : Nat → FieldType := fun k => match k with
  | _ => .int
abbrev wsJ30 : List Cond := u_ws RJ3 TJ3 0
theorem nmJ3 : ∀ a, a < 0 → ∀ b, b < 0 → a ≠ b → (TJ3 a).2.1 ≠ (TJ3 b).2.1 := by decide +kernel
theorem tyJ3_ok : ∀ k, k < 0 → parseFieldDescriptor (TJ3 k).2.2.1 = some (tyJ3 k) := by decide +kernel
abbrev cJ3_checkIndex_8e157 : ByteArray := prog_21_method_11_code
def yJ3_checkIndex_8e157 : MethodName := ⟨RJ3, "checkIndex", "(IILjava/util/function/BiFunction;)I"⟩
abbrev cJ3_checkFromToIndex_8c36e : ByteArray := prog_21_method_12_code
def yJ3_checkFromToIndex_8c36e : MethodName := ⟨RJ3, "checkFromToIndex", "(IIILjava/util/function/BiFunction;)I"⟩
def RL : String := "RockingPorchLaw"
abbrev cL_law : ByteArray := code
def yL_law : MethodName := ⟨RL, "law", "([I)Z"⟩

abbrev vwCl : List vw_C := [(RX0, TX0, 2), (RX1, TX1, 8), (RX2, TX2, 3), (RX3, TX3, 4), (RX4, TX4, 15), (RX5, TX5, 5), (RX6, TX6, 14), (RX7, TX7, 2), (RX8, TX8, 7), (RX9, TX9, 7), (RX10, TX10, 8), (RX11, TX11, 69)]
