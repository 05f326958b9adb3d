section
-- ===== PART A: goes FIRST, ahead of the names: the tables' words, and 'selects' of the private methods out of them =====
/-- a private method of a class that the tables say can be made, by its rows of tables_1 -/
def lw_okq (q : MethodName × Nat) : Prop := (q.1.cls ≠ "java/lang/invoke/MethodHandle" ∧ q.1.cls ≠ "java/lang/invoke/VarHandle") ∧ Cond.instantiable q.1.cls q.2 ∈ tables_1 ∧ Cond.privateMethod q.1 ∈ tables_1 ∧ Cond.instanceMethod q.1 ∈ tables_1
theorem lw_p0 : lw_okq (⟨"PickupYard$History", "dropOldest", "()V"⟩, 2) := ⟨⟨by decide +kernel, by decide +kernel⟩, List.mem_of_getElem? (i := 171) (by decide +kernel), List.mem_of_getElem? (i := 268) (by decide +kernel), List.mem_of_getElem? (i := 269) (by decide +kernel)⟩
theorem lw_p1 : lw_okq (⟨"PickupYard$Yard", "makeMove", "(II)V"⟩, 14) := ⟨⟨by decide +kernel, by decide +kernel⟩, List.mem_of_getElem? (i := 21) (by decide +kernel), List.mem_of_getElem? (i := 347) (by decide +kernel), List.mem_of_getElem? (i := 348) (by decide +kernel)⟩
theorem lw_p2 : lw_okq (⟨"PickupYard$Yard", "comeTo", "(I)V"⟩, 14) := ⟨⟨by decide +kernel, by decide +kernel⟩, List.mem_of_getElem? (i := 21) (by decide +kernel), List.mem_of_getElem? (i := 355) (by decide +kernel), List.mem_of_getElem? (i := 356) (by decide +kernel)⟩
theorem lw_p3 : lw_okq (⟨"PickupYard", "readList", "(J)I"⟩, 7) := ⟨⟨by decide +kernel, by decide +kernel⟩, List.mem_of_getElem? (i := 13) (by decide +kernel), List.mem_of_getElem? (i := 403) (by decide +kernel), List.mem_of_getElem? (i := 404) (by decide +kernel)⟩
theorem lw_p4 : lw_okq (⟨"PickupYard$Yard", "areThere", "([II)Z"⟩, 14) := ⟨⟨by decide +kernel, by decide +kernel⟩, List.mem_of_getElem? (i := 21) (by decide +kernel), List.mem_of_getElem? (i := 412) (by decide +kernel), List.mem_of_getElem? (i := 413) (by decide +kernel)⟩
theorem lw_p5 : lw_okq (⟨"PickupYard$Yard", "lengthOfList", "(I)I"⟩, 14) := ⟨⟨by decide +kernel, by decide +kernel⟩, List.mem_of_getElem? (i := 21) (by decide +kernel), List.mem_of_getElem? (i := 516) (by decide +kernel), List.mem_of_getElem? (i := 517) (by decide +kernel)⟩
theorem lw_p6 : lw_okq (⟨"PickupYard$Trial", "trackOfNext", "(II)I"⟩, 1) := ⟨⟨by decide +kernel, by decide +kernel⟩, List.mem_of_getElem? (i := 158) (by decide +kernel), List.mem_of_getElem? (i := 550) (by decide +kernel), List.mem_of_getElem? (i := 551) (by decide +kernel)⟩
theorem lw_p7 : lw_okq (⟨"PickupYard$Trial", "manyNext", "(III)I"⟩, 1) := ⟨⟨by decide +kernel, by decide +kernel⟩, List.mem_of_getElem? (i := 158) (by decide +kernel), List.mem_of_getElem? (i := 556) (by decide +kernel), List.mem_of_getElem? (i := 557) (by decide +kernel)⟩
theorem lw_p8 : lw_okq (⟨"PickupYard$Trial", "couldAfterOne", "(I)Z"⟩, 1) := ⟨⟨by decide +kernel, by decide +kernel⟩, List.mem_of_getElem? (i := 158) (by decide +kernel), List.mem_of_getElem? (i := 580) (by decide +kernel), List.mem_of_getElem? (i := 581) (by decide +kernel)⟩
theorem lw_p9 : lw_okq (⟨"PickupYard$Trial", "isTurned", "(I)Z"⟩, 1) := ⟨⟨by decide +kernel, by decide +kernel⟩, List.mem_of_getElem? (i := 158) (by decide +kernel), List.mem_of_getElem? (i := 585) (by decide +kernel), List.mem_of_getElem? (i := 586) (by decide +kernel)⟩
theorem lw_p10 : lw_okq (⟨"PickupYard$Trial", "couldAfterTakingOut", "(II)Z"⟩, 1) := ⟨⟨by decide +kernel, by decide +kernel⟩, List.mem_of_getElem? (i := 158) (by decide +kernel), List.mem_of_getElem? (i := 594) (by decide +kernel), List.mem_of_getElem? (i := 595) (by decide +kernel)⟩
theorem lw_p11 : lw_okq (⟨"PickupYard$Trial", "couldAfterBringingIn", "(II)Z"⟩, 1) := ⟨⟨by decide +kernel, by decide +kernel⟩, List.mem_of_getElem? (i := 158) (by decide +kernel), List.mem_of_getElem? (i := 599) (by decide +kernel), List.mem_of_getElem? (i := 600) (by decide +kernel)⟩
theorem lw_p12 : lw_okq (⟨"PickupYard$Trial", "couldAfterGoingRound", "(I)Z"⟩, 1) := ⟨⟨by decide +kernel, by decide +kernel⟩, List.mem_of_getElem? (i := 158) (by decide +kernel), List.mem_of_getElem? (i := 604) (by decide +kernel), List.mem_of_getElem? (i := 605) (by decide +kernel)⟩
theorem lw_p13 : lw_okq (⟨"PickupYard$Yard", "isBuried", "(II)Z"⟩, 14) := ⟨⟨by decide +kernel, by decide +kernel⟩, List.mem_of_getElem? (i := 21) (by decide +kernel), List.mem_of_getElem? (i := 623) (by decide +kernel), List.mem_of_getElem? (i := 624) (by decide +kernel)⟩
theorem lw_p14 : lw_okq (⟨"PickupYard", "carryOne", "(II)I"⟩, 7) := ⟨⟨by decide +kernel, by decide +kernel⟩, List.mem_of_getElem? (i := 13) (by decide +kernel), List.mem_of_getElem? (i := 678) (by decide +kernel), List.mem_of_getElem? (i := 679) (by decide +kernel)⟩
theorem lw_p15 : lw_okq (⟨"PickupYardModel", "record", "()V"⟩, 19) := ⟨⟨by decide +kernel, by decide +kernel⟩, List.mem_of_getElem? (i := 704) (by decide +kernel), List.mem_of_getElem? (i := 781) (by decide +kernel), List.mem_of_getElem? (i := 782) (by decide +kernel)⟩
def lw_privs_1 : List (MethodName × Nat) := [(⟨"PickupYard$History", "dropOldest", "()V"⟩, 2), (⟨"PickupYard$Yard", "makeMove", "(II)V"⟩, 14), (⟨"PickupYard$Yard", "comeTo", "(I)V"⟩, 14), (⟨"PickupYard", "readList", "(J)I"⟩, 7), (⟨"PickupYard$Yard", "areThere", "([II)Z"⟩, 14), (⟨"PickupYard$Yard", "lengthOfList", "(I)I"⟩, 14), (⟨"PickupYard$Trial", "trackOfNext", "(II)I"⟩, 1), (⟨"PickupYard$Trial", "manyNext", "(III)I"⟩, 1), (⟨"PickupYard$Trial", "couldAfterOne", "(I)Z"⟩, 1), (⟨"PickupYard$Trial", "isTurned", "(I)Z"⟩, 1), (⟨"PickupYard$Trial", "couldAfterTakingOut", "(II)Z"⟩, 1), (⟨"PickupYard$Trial", "couldAfterBringingIn", "(II)Z"⟩, 1), (⟨"PickupYard$Trial", "couldAfterGoingRound", "(I)Z"⟩, 1), (⟨"PickupYard$Yard", "isBuried", "(II)Z"⟩, 14), (⟨"PickupYard", "carryOne", "(II)I"⟩, 7), (⟨"PickupYardModel", "record", "()V"⟩, 19)]
theorem lw_r1 : ∀ q ∈ lw_privs_1, lw_okq q := List.forall_mem_cons.mpr ⟨lw_p0, List.forall_mem_cons.mpr ⟨lw_p1, List.forall_mem_cons.mpr ⟨lw_p2, List.forall_mem_cons.mpr ⟨lw_p3, List.forall_mem_cons.mpr ⟨lw_p4, List.forall_mem_cons.mpr ⟨lw_p5, List.forall_mem_cons.mpr ⟨lw_p6, List.forall_mem_cons.mpr ⟨lw_p7, List.forall_mem_cons.mpr ⟨lw_p8, List.forall_mem_cons.mpr ⟨lw_p9, List.forall_mem_cons.mpr ⟨lw_p10, List.forall_mem_cons.mpr ⟨lw_p11, List.forall_mem_cons.mpr ⟨lw_p12, List.forall_mem_cons.mpr ⟨lw_p13, List.forall_mem_cons.mpr ⟨lw_p14, List.forall_mem_cons.mpr ⟨lw_p15, fun _ h => absurd h List.not_mem_nil⟩⟩⟩⟩⟩⟩⟩⟩⟩⟩⟩⟩⟩⟩⟩⟩
theorem lw_p16 : lw_okq (⟨"PickupYardModel", "isTrack", "(I)Z"⟩, 19) := ⟨⟨by decide +kernel, by decide +kernel⟩, List.mem_of_getElem? (i := 704) (by decide +kernel), List.mem_of_getElem? (i := 793) (by decide +kernel), List.mem_of_getElem? (i := 794) (by decide +kernel)⟩
theorem lw_p17 : lw_okq (⟨"PickupYardModel", "lengthOn", "(I)I"⟩, 19) := ⟨⟨by decide +kernel, by decide +kernel⟩, List.mem_of_getElem? (i := 704) (by decide +kernel), List.mem_of_getElem? (i := 797) (by decide +kernel), List.mem_of_getElem? (i := 798) (by decide +kernel)⟩
theorem lw_p18 : lw_okq (⟨"PickupYardModel", "manyOn", "(I)I"⟩, 19) := ⟨⟨by decide +kernel, by decide +kernel⟩, List.mem_of_getElem? (i := 704) (by decide +kernel), List.mem_of_getElem? (i := 801) (by decide +kernel), List.mem_of_getElem? (i := 802) (by decide +kernel)⟩
theorem lw_p19 : lw_okq (⟨"PickupYardModel", "lengths", "(II)I"⟩, 19) := ⟨⟨by decide +kernel, by decide +kernel⟩, List.mem_of_getElem? (i := 704) (by decide +kernel), List.mem_of_getElem? (i := 805) (by decide +kernel), List.mem_of_getElem? (i := 806) (by decide +kernel)⟩
theorem lw_p20 : lw_okq (⟨"PickupYardModel", "lengthOf", "(I)I"⟩, 19) := ⟨⟨by decide +kernel, by decide +kernel⟩, List.mem_of_getElem? (i := 704) (by decide +kernel), List.mem_of_getElem? (i := 809) (by decide +kernel), List.mem_of_getElem? (i := 810) (by decide +kernel)⟩
theorem lw_p21 : lw_okq (⟨"PickupYardModel", "canPull", "(II)Z"⟩, 19) := ⟨⟨by decide +kernel, by decide +kernel⟩, List.mem_of_getElem? (i := 704) (by decide +kernel), List.mem_of_getElem? (i := 821) (by decide +kernel), List.mem_of_getElem? (i := 822) (by decide +kernel)⟩
theorem lw_p22 : lw_okq (⟨"PickupYardModel", "lengthAtEngine", "()I"⟩, 19) := ⟨⟨by decide +kernel, by decide +kernel⟩, List.mem_of_getElem? (i := 704) (by decide +kernel), List.mem_of_getElem? (i := 825) (by decide +kernel), List.mem_of_getElem? (i := 826) (by decide +kernel)⟩
theorem lw_p23 : lw_okq (⟨"PickupYardModel", "drawOut", "(II)I"⟩, 19) := ⟨⟨by decide +kernel, by decide +kernel⟩, List.mem_of_getElem? (i := 704) (by decide +kernel), List.mem_of_getElem? (i := 829) (by decide +kernel), List.mem_of_getElem? (i := 830) (by decide +kernel)⟩
theorem lw_p24 : lw_okq (⟨"PickupYardModel", "take", "(II)V"⟩, 19) := ⟨⟨by decide +kernel, by decide +kernel⟩, List.mem_of_getElem? (i := 704) (by decide +kernel), List.mem_of_getElem? (i := 833) (by decide +kernel), List.mem_of_getElem? (i := 834) (by decide +kernel)⟩
theorem lw_p25 : lw_okq (⟨"PickupYardModel", "freeAt", "(II)I"⟩, 19) := ⟨⟨by decide +kernel, by decide +kernel⟩, List.mem_of_getElem? (i := 704) (by decide +kernel), List.mem_of_getElem? (i := 837) (by decide +kernel), List.mem_of_getElem? (i := 838) (by decide +kernel)⟩
theorem lw_p26 : lw_okq (⟨"PickupYardModel", "comeTo", "(I)V"⟩, 19) := ⟨⟨by decide +kernel, by decide +kernel⟩, List.mem_of_getElem? (i := 704) (by decide +kernel), List.mem_of_getElem? (i := 841) (by decide +kernel), List.mem_of_getElem? (i := 842) (by decide +kernel)⟩
theorem lw_p27 : lw_okq (⟨"PickupYardModel", "canPush", "(II)Z"⟩, 19) := ⟨⟨by decide +kernel, by decide +kernel⟩, List.mem_of_getElem? (i := 704) (by decide +kernel), List.mem_of_getElem? (i := 849) (by decide +kernel), List.mem_of_getElem? (i := 850) (by decide +kernel)⟩
theorem lw_p28 : lw_okq (⟨"PickupYardModel", "setBack", "(II)I"⟩, 19) := ⟨⟨by decide +kernel, by decide +kernel⟩, List.mem_of_getElem? (i := 704) (by decide +kernel), List.mem_of_getElem? (i := 853) (by decide +kernel), List.mem_of_getElem? (i := 854) (by decide +kernel)⟩
theorem lw_p29 : lw_okq (⟨"PickupYardModel", "canRound", "()Z"⟩, 19) := ⟨⟨by decide +kernel, by decide +kernel⟩, List.mem_of_getElem? (i := 704) (by decide +kernel), List.mem_of_getElem? (i := 861) (by decide +kernel), List.mem_of_getElem? (i := 862) (by decide +kernel)⟩
theorem lw_p30 : lw_okq (⟨"PickupYardModel", "turnRound", "()V"⟩, 19) := ⟨⟨by decide +kernel, by decide +kernel⟩, List.mem_of_getElem? (i := 704) (by decide +kernel), List.mem_of_getElem? (i := 865) (by decide +kernel), List.mem_of_getElem? (i := 866) (by decide +kernel)⟩
theorem lw_p31 : lw_okq (⟨"PickupYardModel", "readList", "(J)I"⟩, 19) := ⟨⟨by decide +kernel, by decide +kernel⟩, List.mem_of_getElem? (i := 704) (by decide +kernel), List.mem_of_getElem? (i := 877) (by decide +kernel), List.mem_of_getElem? (i := 878) (by decide +kernel)⟩
def lw_privs_2 : List (MethodName × Nat) := [(⟨"PickupYardModel", "isTrack", "(I)Z"⟩, 19), (⟨"PickupYardModel", "lengthOn", "(I)I"⟩, 19), (⟨"PickupYardModel", "manyOn", "(I)I"⟩, 19), (⟨"PickupYardModel", "lengths", "(II)I"⟩, 19), (⟨"PickupYardModel", "lengthOf", "(I)I"⟩, 19), (⟨"PickupYardModel", "canPull", "(II)Z"⟩, 19), (⟨"PickupYardModel", "lengthAtEngine", "()I"⟩, 19), (⟨"PickupYardModel", "drawOut", "(II)I"⟩, 19), (⟨"PickupYardModel", "take", "(II)V"⟩, 19), (⟨"PickupYardModel", "freeAt", "(II)I"⟩, 19), (⟨"PickupYardModel", "comeTo", "(I)V"⟩, 19), (⟨"PickupYardModel", "canPush", "(II)Z"⟩, 19), (⟨"PickupYardModel", "setBack", "(II)I"⟩, 19), (⟨"PickupYardModel", "canRound", "()Z"⟩, 19), (⟨"PickupYardModel", "turnRound", "()V"⟩, 19), (⟨"PickupYardModel", "readList", "(J)I"⟩, 19)]
theorem lw_r2 : ∀ q ∈ lw_privs_2, lw_okq q := List.forall_mem_cons.mpr ⟨lw_p16, List.forall_mem_cons.mpr ⟨lw_p17, List.forall_mem_cons.mpr ⟨lw_p18, List.forall_mem_cons.mpr ⟨lw_p19, List.forall_mem_cons.mpr ⟨lw_p20, List.forall_mem_cons.mpr ⟨lw_p21, List.forall_mem_cons.mpr ⟨lw_p22, List.forall_mem_cons.mpr ⟨lw_p23, List.forall_mem_cons.mpr ⟨lw_p24, List.forall_mem_cons.mpr ⟨lw_p25, List.forall_mem_cons.mpr ⟨lw_p26, List.forall_mem_cons.mpr ⟨lw_p27, List.forall_mem_cons.mpr ⟨lw_p28, List.forall_mem_cons.mpr ⟨lw_p29, List.forall_mem_cons.mpr ⟨lw_p30, List.forall_mem_cons.mpr ⟨lw_p31, fun _ h => absurd h List.not_mem_nil⟩⟩⟩⟩⟩⟩⟩⟩⟩⟩⟩⟩⟩⟩⟩⟩
theorem lw_p32 : lw_okq (⟨"PickupYardModel", "isWagon", "(I)Z"⟩, 19) := ⟨⟨by decide +kernel, by decide +kernel⟩, List.mem_of_getElem? (i := 704) (by decide +kernel), List.mem_of_getElem? (i := 882) (by decide +kernel), List.mem_of_getElem? (i := 883) (by decide +kernel)⟩
theorem lw_p33 : lw_okq (⟨"PickupYardModel", "trainOf", "(I)I"⟩, 19) := ⟨⟨by decide +kernel, by decide +kernel⟩, List.mem_of_getElem? (i := 704) (by decide +kernel), List.mem_of_getElem? (i := 886) (by decide +kernel), List.mem_of_getElem? (i := 887) (by decide +kernel)⟩
theorem lw_p34 : lw_okq (⟨"PickupYardModel", "isTrain", "(I)Z"⟩, 19) := ⟨⟨by decide +kernel, by decide +kernel⟩, List.mem_of_getElem? (i := 704) (by decide +kernel), List.mem_of_getElem? (i := 894) (by decide +kernel), List.mem_of_getElem? (i := 895) (by decide +kernel)⟩
theorem lw_p35 : lw_okq (⟨"PickupYardModel", "dropTrain", "(I)V"⟩, 19) := ⟨⟨by decide +kernel, by decide +kernel⟩, List.mem_of_getElem? (i := 704) (by decide +kernel), List.mem_of_getElem? (i := 898) (by decide +kernel), List.mem_of_getElem? (i := 899) (by decide +kernel)⟩
theorem lw_p36 : lw_okq (⟨"PickupYardModel", "canLeave", "(I)Z"⟩, 19) := ⟨⟨by decide +kernel, by decide +kernel⟩, List.mem_of_getElem? (i := 704) (by decide +kernel), List.mem_of_getElem? (i := 906) (by decide +kernel), List.mem_of_getElem? (i := 907) (by decide +kernel)⟩
theorem lw_p37 : lw_okq (⟨"PickupYardModel", "trackOf", "(I)I"⟩, 19) := ⟨⟨by decide +kernel, by decide +kernel⟩, List.mem_of_getElem? (i := 704) (by decide +kernel), List.mem_of_getElem? (i := 922) (by decide +kernel), List.mem_of_getElem? (i := 923) (by decide +kernel)⟩
theorem lw_p38 : lw_okq (⟨"PickupYardModel", "placeIn", "(III)I"⟩, 19) := ⟨⟨by decide +kernel, by decide +kernel⟩, List.mem_of_getElem? (i := 704) (by decide +kernel), List.mem_of_getElem? (i := 926) (by decide +kernel), List.mem_of_getElem? (i := 927) (by decide +kernel)⟩
theorem lw_p39 : lw_okq (⟨"PickupYardModel", "layPulls", "(I)Z"⟩, 19) := ⟨⟨by decide +kernel, by decide +kernel⟩, List.mem_of_getElem? (i := 704) (by decide +kernel), List.mem_of_getElem? (i := 946) (by decide +kernel), List.mem_of_getElem? (i := 947) (by decide +kernel)⟩
theorem lw_p40 : lw_okq (⟨"PickupYardModel", "oneMore", "(I)Z"⟩, 19) := ⟨⟨by decide +kernel, by decide +kernel⟩, List.mem_of_getElem? (i := 704) (by decide +kernel), List.mem_of_getElem? (i := 962) (by decide +kernel), List.mem_of_getElem? (i := 963) (by decide +kernel)⟩
theorem lw_p41 : lw_okq (⟨"PickupYardModel", "comeBack2", "()V"⟩, 19) := ⟨⟨by decide +kernel, by decide +kernel⟩, List.mem_of_getElem? (i := 704) (by decide +kernel), List.mem_of_getElem? (i := 966) (by decide +kernel), List.mem_of_getElem? (i := 967) (by decide +kernel)⟩
theorem lw_p42 : lw_okq (⟨"PickupYardModel", "comeBack", "()V"⟩, 19) := ⟨⟨by decide +kernel, by decide +kernel⟩, List.mem_of_getElem? (i := 704) (by decide +kernel), List.mem_of_getElem? (i := 970) (by decide +kernel), List.mem_of_getElem? (i := 971) (by decide +kernel)⟩
theorem lw_p43 : lw_okq (⟨"PickupYardModel", "faultOf", "()I"⟩, 19) := ⟨⟨by decide +kernel, by decide +kernel⟩, List.mem_of_getElem? (i := 704) (by decide +kernel), List.mem_of_getElem? (i := 995) (by decide +kernel), List.mem_of_getElem? (i := 996) (by decide +kernel)⟩
theorem lw_p44 : lw_okq (⟨"PickupYardModel", "readOne", "()V"⟩, 19) := ⟨⟨by decide +kernel, by decide +kernel⟩, List.mem_of_getElem? (i := 704) (by decide +kernel), List.mem_of_getElem? (i := 999) (by decide +kernel), List.mem_of_getElem? (i := 1000) (by decide +kernel)⟩
theorem lw_p45 : lw_okq (⟨"PickupYardModel", "sign", "()I"⟩, 19) := ⟨⟨by decide +kernel, by decide +kernel⟩, List.mem_of_getElem? (i := 704) (by decide +kernel), List.mem_of_getElem? (i := 1003) (by decide +kernel), List.mem_of_getElem? (i := 1004) (by decide +kernel)⟩
theorem lw_p46 : lw_okq (⟨"PickupYardModel", "one", "(II)I"⟩, 19) := ⟨⟨by decide +kernel, by decide +kernel⟩, List.mem_of_getElem? (i := 704) (by decide +kernel), List.mem_of_getElem? (i := 1007) (by decide +kernel), List.mem_of_getElem? (i := 1008) (by decide +kernel)⟩
theorem lw_p47 : lw_okq (⟨"PickupYardModel", "number", "()I"⟩, 19) := ⟨⟨by decide +kernel, by decide +kernel⟩, List.mem_of_getElem? (i := 704) (by decide +kernel), List.mem_of_getElem? (i := 1011) (by decide +kernel), List.mem_of_getElem? (i := 1012) (by decide +kernel)⟩
def lw_privs_3 : List (MethodName × Nat) := [(⟨"PickupYardModel", "isWagon", "(I)Z"⟩, 19), (⟨"PickupYardModel", "trainOf", "(I)I"⟩, 19), (⟨"PickupYardModel", "isTrain", "(I)Z"⟩, 19), (⟨"PickupYardModel", "dropTrain", "(I)V"⟩, 19), (⟨"PickupYardModel", "canLeave", "(I)Z"⟩, 19), (⟨"PickupYardModel", "trackOf", "(I)I"⟩, 19), (⟨"PickupYardModel", "placeIn", "(III)I"⟩, 19), (⟨"PickupYardModel", "layPulls", "(I)Z"⟩, 19), (⟨"PickupYardModel", "oneMore", "(I)Z"⟩, 19), (⟨"PickupYardModel", "comeBack2", "()V"⟩, 19), (⟨"PickupYardModel", "comeBack", "()V"⟩, 19), (⟨"PickupYardModel", "faultOf", "()I"⟩, 19), (⟨"PickupYardModel", "readOne", "()V"⟩, 19), (⟨"PickupYardModel", "sign", "()I"⟩, 19), (⟨"PickupYardModel", "one", "(II)I"⟩, 19), (⟨"PickupYardModel", "number", "()I"⟩, 19)]
theorem lw_r3 : ∀ q ∈ lw_privs_3, lw_okq q := List.forall_mem_cons.mpr ⟨lw_p32, List.forall_mem_cons.mpr ⟨lw_p33, List.forall_mem_cons.mpr ⟨lw_p34, List.forall_mem_cons.mpr ⟨lw_p35, List.forall_mem_cons.mpr ⟨lw_p36, List.forall_mem_cons.mpr ⟨lw_p37, List.forall_mem_cons.mpr ⟨lw_p38, List.forall_mem_cons.mpr ⟨lw_p39, List.forall_mem_cons.mpr ⟨lw_p40, List.forall_mem_cons.mpr ⟨lw_p41, List.forall_mem_cons.mpr ⟨lw_p42, List.forall_mem_cons.mpr ⟨lw_p43, List.forall_mem_cons.mpr ⟨lw_p44, List.forall_mem_cons.mpr ⟨lw_p45, List.forall_mem_cons.mpr ⟨lw_p46, List.forall_mem_cons.mpr ⟨lw_p47, fun _ h => absurd h List.not_mem_nil⟩⟩⟩⟩⟩⟩⟩⟩⟩⟩⟩⟩⟩⟩⟩⟩
theorem lw_p48 : lw_okq (⟨"PickupYardModel", "carry", "(I)I"⟩, 19) := ⟨⟨by decide +kernel, by decide +kernel⟩, List.mem_of_getElem? (i := 704) (by decide +kernel), List.mem_of_getElem? (i := 1019) (by decide +kernel), List.mem_of_getElem? (i := 1020) (by decide +kernel)⟩
def lw_privs_4 : List (MethodName × Nat) := [(⟨"PickupYardModel", "carry", "(I)I"⟩, 19)]
theorem lw_r4 : ∀ q ∈ lw_privs_4, lw_okq q := List.forall_mem_cons.mpr ⟨lw_p48, fun _ h => absurd h List.not_mem_nil⟩
def lw_privs : List (MethodName × Nat) := lw_privs_1 ++ (lw_privs_2 ++ (lw_privs_3 ++ (lw_privs_4)))
def lw_tbl : List Cond := k2_sels lw_privs ++ tables_1
theorem lw_privs_ok : ∀ q ∈ lw_privs, lw_okq q := by
  show ∀ q ∈ lw_privs_1 ++ (lw_privs_2 ++ (lw_privs_3 ++ (lw_privs_4))), lw_okq q
  exact List.forall_mem_append.mpr ⟨lw_r1, List.forall_mem_append.mpr ⟨lw_r2, List.forall_mem_append.mpr ⟨lw_r3, lw_r4⟩⟩⟩
end
section
def RX0 : String := "PickupYard$Blocks"
def TX0 : u_T := fun k => match k with
  | 0 => ("PickupYard$Blocks", "number", "I", false)
  | 1 => ("PickupYard$Blocks", "begins", "[I", true)
  | _ => ("PickupYard$Blocks", "ends", "[I", true)
def tyX0 : Nat → FieldType := fun k => match k with
  | 0 => .int
  | 1 => .array .int
  | _ => .array .int
abbrev wsX00 : List Cond := u_ws RX0 TX0 3
theorem nmX0 : ∀ a, a < 3 → ∀ b, b < 3 → a ≠ b → (TX0 a).2.1 ≠ (TX0 b).2.1 := by decide +kernel
theorem tyX0_ok : ∀ k, k < 3 → parseFieldDescriptor (TX0 k).2.2.1 = some (tyX0 k) := by decide +kernel
abbrev cX0_init : ByteArray := prog_2_method_1_code
def yX0_init : MethodName := ⟨RX0, "<init>", "()V"⟩
abbrev cX0_copyFrom : ByteArray := prog_2_method_2_code
def yX0_copyFrom : MethodName := ⟨RX0, "copyFrom", "(LPickupYard$Blocks;)V"⟩
abbrev cX0_add : ByteArray := prog_2_method_3_code
def yX0_add : MethodName := ⟨RX0, "add", "(II)I"⟩
abbrev cX0_dropEnded : ByteArray := prog_2_method_4_code
def yX0_dropEnded : MethodName := ⟨RX0, "dropEnded", "(I)V"⟩
abbrev cX0_firstFree : ByteArray := prog_2_method_5_code
def yX0_firstFree : MethodName := ⟨RX0, "firstFree", "(II)I"⟩
def RX1 : String := "PickupYard$History"
def TX1 : u_T := fun k => match k with
  | 0 => ("PickupYard$History", "number", "I", false)
  | _ => ("PickupYard$History", "states", "[LPickupYard$Yard;", true)
def tyX1 : Nat → FieldType := fun k => match k with
  | 0 => .int
  | _ => .array (.object "PickupYard$Yard")
abbrev wsX10 : List Cond := u_ws RX1 TX1 2
theorem nmX1 : ∀ a, a < 2 → ∀ b, b < 2 → a ≠ b → (TX1 a).2.1 ≠ (TX1 b).2.1 := by decide +kernel
theorem tyX1_ok : ∀ k, k < 2 → parseFieldDescriptor (TX1 k).2.2.1 = some (tyX1 k) := by decide +kernel
abbrev cX1_init : ByteArray := prog_3_method_1_code
def yX1_init : MethodName := ⟨RX1, "<init>", "()V"⟩
abbrev cX1_note : ByteArray := prog_3_method_2_code
def yX1_note : MethodName := ⟨RX1, "note", "(LPickupYard$Yard;)V"⟩
abbrev cX1_kept : ByteArray := prog_3_method_3_code
def yX1_kept : MethodName := ⟨RX1, "kept", "(I)I"⟩
abbrev cX1_dropOldest : ByteArray := prog_3_method_4_code
def yX1_dropOldest : MethodName := ⟨RX1, "dropOldest", "()V"⟩
abbrev cX1_takeBack : ByteArray := prog_3_method_5_code
def yX1_takeBack : MethodName := ⟨RX1, "takeBack", "(LPickupYard$Yard;)I"⟩
def RX2 : String := "PickupYard$Pad"
def TX2 : u_T := fun k => match k with
  | 0 => ("PickupYard$Pad", "length", "I", false)
  | _ => ("PickupYard$Pad", "text", "[C", true)
def tyX2 : Nat → FieldType := fun k => match k with
  | 0 => .int
  | _ => .array .char
abbrev wsX20 : List Cond := u_ws RX2 TX2 2
theorem nmX2 : ∀ a, a < 2 → ∀ b, b < 2 → a ≠ b → (TX2 a).2.1 ≠ (TX2 b).2.1 := by decide +kernel
theorem tyX2_ok : ∀ k, k < 2 → parseFieldDescriptor (TX2 k).2.2.1 = some (tyX2 k) := by decide +kernel
abbrev cX2_init : ByteArray := prog_4_method_1_code
def yX2_init : MethodName := ⟨RX2, "<init>", "()V"⟩
abbrev cX2_append : ByteArray := prog_4_method_2_code
def yX2_append : MethodName := ⟨RX2, "append", "(J)I"⟩
abbrev cX2_manyTold : ByteArray := prog_4_method_3_code
def yX2_manyTold : MethodName := ⟨RX2, "manyTold", "(J)I"⟩
abbrev cX2_clear : ByteArray := prog_4_method_4_code
def yX2_clear : MethodName := ⟨RX2, "clear", "()I"⟩
abbrev cX2_codeAt : ByteArray := prog_4_method_5_code
def yX2_codeAt : MethodName := ⟨RX2, "codeAt", "(I)I"⟩
abbrev cX2_endsOrder : ByteArray := prog_4_method_6_code
def yX2_endsOrder : MethodName := ⟨RX2, "endsOrder", "(I)Z"⟩
abbrev cX2_number : ByteArray := prog_4_method_7_code
def yX2_number : MethodName := ⟨RX2, "number", "(II)I"⟩
abbrev cX2_firstFault : ByteArray := prog_4_method_8_code
def yX2_firstFault : MethodName := ⟨RX2, "firstFault", "()I"⟩
abbrev cX2_dueBehind : ByteArray := prog_4_method_9_code
def yX2_dueBehind : MethodName := ⟨RX2, "dueBehind", "(II)I"⟩
abbrev cX2_dueBehindKind : ByteArray := prog_4_method_10_code
def yX2_dueBehindKind : MethodName := ⟨RX2, "dueBehindKind", "(I)I"⟩
abbrev cX2_isDigit : ByteArray := prog_4_method_11_code
def yX2_isDigit : MethodName := ⟨RX2, "isDigit", "(I)Z"⟩
def RX3 : String := "PickupYard$Trains"
def TX3 : u_T := fun k => match k with
  | 0 => ("PickupYard$Trains", "waiting", "I", false)
  | 1 => ("PickupYard$Trains", "due", "[I", true)
  | 2 => ("PickupYard$Trains", "size", "[I", true)
  | _ => ("PickupYard$Trains", "lists", "[I", true)
def tyX3 : Nat → FieldType := fun k => match k with
  | 0 => .int
  | 1 => .array .int
  | 2 => .array .int
  | _ => .array .int
abbrev wsX30 : List Cond := u_ws RX3 TX3 4
theorem nmX3 : ∀ a, a < 4 → ∀ b, b < 4 → a ≠ b → (TX3 a).2.1 ≠ (TX3 b).2.1 := by decide +kernel
theorem tyX3_ok : ∀ k, k < 4 → parseFieldDescriptor (TX3 k).2.2.1 = some (tyX3 k) := by decide +kernel
abbrev cX3_init : ByteArray := prog_5_method_1_code
def yX3_init : MethodName := ⟨RX3, "<init>", "()V"⟩
abbrev cX3_copyFrom : ByteArray := prog_5_method_2_code
def yX3_copyFrom : MethodName := ⟨RX3, "copyFrom", "(LPickupYard$Trains;)V"⟩
abbrev cX3_has : ByteArray := prog_5_method_3_code
def yX3_has : MethodName := ⟨RX3, "has", "(I)Z"⟩
abbrev cX3_sizeOf : ByteArray := prog_5_method_4_code
def yX3_sizeOf : MethodName := ⟨RX3, "sizeOf", "(I)I"⟩
abbrev cX3_wagonOf : ByteArray := prog_5_method_5_code
def yX3_wagonOf : MethodName := ⟨RX3, "wagonOf", "(II)I"⟩
abbrev cX3_trainOf : ByteArray := prog_5_method_6_code
def yX3_trainOf : MethodName := ⟨RX3, "trainOf", "(I)I"⟩
abbrev cX3_add : ByteArray := prog_5_method_7_code
def yX3_add : MethodName := ⟨RX3, "add", "([III)I"⟩
abbrev cX3_remove : ByteArray := prog_5_method_8_code
def yX3_remove : MethodName := ⟨RX3, "remove", "(I)V"⟩
def RX4 : String := "PickupYard$Trial"
def TX4 : u_T := fun k => match k with
  | _ => ("PickupYard$Trial", "copy", "LPickupYard$Yard;", true)
def tyX4 : Nat → FieldType := fun k => match k with
  | _ => .object "PickupYard$Yard"
abbrev wsX40 : List Cond := u_ws RX4 TX4 1
theorem nmX4 : ∀ a, a < 1 → ∀ b, b < 1 → a ≠ b → (TX4 a).2.1 ≠ (TX4 b).2.1 := by decide +kernel
theorem tyX4_ok : ∀ k, k < 1 → parseFieldDescriptor (TX4 k).2.2.1 = some (tyX4 k) := by decide +kernel
abbrev cX4_init : ByteArray := prog_6_method_1_code
def yX4_init : MethodName := ⟨RX4, "<init>", "()V"⟩
abbrev cX4_fewestPulls : ByteArray := prog_6_method_2_code
def yX4_fewestPulls : MethodName := ⟨RX4, "fewestPulls", "(LPickupYard$Yard;I)I"⟩
abbrev cX4_trackOfNext : ByteArray := prog_6_method_3_code
def yX4_trackOfNext : MethodName := ⟨RX4, "trackOfNext", "(II)I"⟩
abbrev cX4_manyNext : ByteArray := prog_6_method_4_code
def yX4_manyNext : MethodName := ⟨RX4, "manyNext", "(III)I"⟩
abbrev cX4_fewestMoves : ByteArray := prog_6_method_5_code
def yX4_fewestMoves : MethodName := ⟨RX4, "fewestMoves", "(LPickupYard$Yard;I)I"⟩
abbrev cX4_couldAfterTakingOut : ByteArray := prog_6_method_6_code
def yX4_couldAfterTakingOut : MethodName := ⟨RX4, "couldAfterTakingOut", "(II)Z"⟩
abbrev cX4_couldAfterBringingIn : ByteArray := prog_6_method_7_code
def yX4_couldAfterBringingIn : MethodName := ⟨RX4, "couldAfterBringingIn", "(II)Z"⟩
abbrev cX4_couldAfterGoingRound : ByteArray := prog_6_method_8_code
def yX4_couldAfterGoingRound : MethodName := ⟨RX4, "couldAfterGoingRound", "(I)Z"⟩
abbrev cX4_couldAfterOne : ByteArray := prog_6_method_9_code
def yX4_couldAfterOne : MethodName := ⟨RX4, "couldAfterOne", "(I)Z"⟩
abbrev cX4_isTurned : ByteArray := prog_6_method_10_code
def yX4_isTurned : MethodName := ⟨RX4, "isTurned", "(I)Z"⟩
def RX5 : String := "PickupYard$Wagons"
def TX5 : u_T := fun k => match k with
  | 0 => ("PickupYard$Wagons", "number", "I", false)
  | 1 => ("PickupYard$Wagons", "manyGone", "I", false)
  | 2 => ("PickupYard$Wagons", "length", "[I", true)
  | 3 => ("PickupYard$Wagons", "leftAt", "[I", true)
  | 4 => ("PickupYard$Wagons", "timesPulled", "[I", true)
  | 5 => ("PickupYard$Wagons", "inRow", "[I", true)
  | _ => ("PickupYard$Wagons", "rows", "[I", true)
def tyX5 : Nat → FieldType := fun k => match k with
  | 0 => .int
  | 1 => .int
  | 2 => .array .int
  | 3 => .array .int
  | 4 => .array .int
  | 5 => .array .int
  | _ => .array .int
abbrev wsX50 : List Cond := u_ws RX5 TX5 7
theorem nmX5 : ∀ a, a < 7 → ∀ b, b < 7 → a ≠ b → (TX5 a).2.1 ≠ (TX5 b).2.1 := by decide +kernel
theorem tyX5_ok : ∀ k, k < 7 → parseFieldDescriptor (TX5 k).2.2.1 = some (tyX5 k) := by decide +kernel
abbrev cX5_init : ByteArray := prog_7_method_1_code
def yX5_init : MethodName := ⟨RX5, "<init>", "()V"⟩
abbrev cX5_copyFrom : ByteArray := prog_7_method_2_code
def yX5_copyFrom : MethodName := ⟨RX5, "copyFrom", "(LPickupYard$Wagons;)V"⟩
abbrev cX5_add : ByteArray := prog_7_method_3_code
def yX5_add : MethodName := ⟨RX5, "add", "(II)I"⟩
abbrev cX5_manyIn : ByteArray := prog_7_method_4_code
def yX5_manyIn : MethodName := ⟨RX5, "manyIn", "(I)I"⟩
abbrev cX5_wagonAt : ByteArray := prog_7_method_5_code
def yX5_wagonAt : MethodName := ⟨RX5, "wagonAt", "(II)I"⟩
abbrev cX5_rowOf : ByteArray := prog_7_method_6_code
def yX5_rowOf : MethodName := ⟨RX5, "rowOf", "(I)I"⟩
abbrev cX5_placeIn : ByteArray := prog_7_method_7_code
def yX5_placeIn : MethodName := ⟨RX5, "placeIn", "(II)I"⟩
abbrev cX5_lengthOfWagon : ByteArray := prog_7_method_8_code
def yX5_lengthOfWagon : MethodName := ⟨RX5, "lengthOfWagon", "(I)I"⟩
abbrev cX5_lengthOfRow : ByteArray := prog_7_method_9_code
def yX5_lengthOfRow : MethodName := ⟨RX5, "lengthOfRow", "(I)I"⟩
abbrev cX5_lengthOfLast : ByteArray := prog_7_method_10_code
def yX5_lengthOfLast : MethodName := ⟨RX5, "lengthOfLast", "(II)I"⟩
abbrev cX5_shift : ByteArray := prog_7_method_11_code
def yX5_shift : MethodName := ⟨RX5, "shift", "(III)V"⟩
abbrev cX5_notePulled : ByteArray := prog_7_method_12_code
def yX5_notePulled : MethodName := ⟨RX5, "notePulled", "(I)V"⟩
abbrev cX5_turnEngine : ByteArray := prog_7_method_13_code
def yX5_turnEngine : MethodName := ⟨RX5, "turnEngine", "()V"⟩
abbrev cX5_engineLeaves : ByteArray := prog_7_method_14_code
def yX5_engineLeaves : MethodName := ⟨RX5, "engineLeaves", "(I)V"⟩
def RX6 : String := "PickupYard$Yard"
def TX6 : u_T := fun k => match k with
  | 0 => ("PickupYard$Yard", "minute", "I", false)
  | 1 => ("PickupYard$Yard", "couplings", "I", false)
  | 2 => ("PickupYard$Yard", "movesMade", "I", false)
  | 3 => ("PickupYard$Yard", "waited", "I", false)
  | 4 => ("PickupYard$Yard", "fines", "I", false)
  | 5 => ("PickupYard$Yard", "trainsLeft", "I", false)
  | 6 => ("PickupYard$Yard", "settings", "[I", true)
  | 7 => ("PickupYard$Yard", "tracks", "I", false)
  | 8 => ("PickupYard$Yard", "trackLength", "[I", true)
  | 9 => ("PickupYard$Yard", "cameOut", "[I", true)
  | 10 => ("PickupYard$Yard", "pushedIn", "[I", true)
  | 11 => ("PickupYard$Yard", "wagons", "LPickupYard$Wagons;", true)
  | 12 => ("PickupYard$Yard", "blocks", "LPickupYard$Blocks;", true)
  | _ => ("PickupYard$Yard", "trains", "LPickupYard$Trains;", true)
def tyX6 : Nat → FieldType := fun k => match k with
  | 0 => .int
  | 1 => .int
  | 2 => .int
  | 3 => .int
  | 4 => .int
  | 5 => .int
  | 6 => .array .int
  | 7 => .int
  | 8 => .array .int
  | 9 => .array .int
  | 10 => .array .int
  | 11 => .object "PickupYard$Wagons"
  | 12 => .object "PickupYard$Blocks"
  | _ => .object "PickupYard$Trains"
abbrev wsX60 : List Cond := u_ws RX6 TX6 14
theorem nmX6 : ∀ a, a < 14 → ∀ b, b < 14 → a ≠ b → (TX6 a).2.1 ≠ (TX6 b).2.1 := by decide +kernel
theorem tyX6_ok : ∀ k, k < 14 → parseFieldDescriptor (TX6 k).2.2.1 = some (tyX6 k) := by decide +kernel
abbrev cX6_init : ByteArray := prog_8_method_1_code
def yX6_init : MethodName := ⟨RX6, "<init>", "()V"⟩
abbrev cX6_copyFrom : ByteArray := prog_8_method_2_code
def yX6_copyFrom : MethodName := ⟨RX6, "copyFrom", "(LPickupYard$Yard;)V"⟩
abbrev cX6_changeSetting : ByteArray := prog_8_method_3_code
def yX6_changeSetting : MethodName := ⟨RX6, "changeSetting", "(II)I"⟩
abbrev cX6_hasTrack : ByteArray := prog_8_method_4_code
def yX6_hasTrack : MethodName := ⟨RX6, "hasTrack", "(I)Z"⟩
abbrev cX6_addTrack : ByteArray := prog_8_method_5_code
def yX6_addTrack : MethodName := ⟨RX6, "addTrack", "(I)I"⟩
abbrev cX6_addWagon : ByteArray := prog_8_method_6_code
def yX6_addWagon : MethodName := ⟨RX6, "addWagon", "(II)I"⟩
abbrev cX6_addBlock : ByteArray := prog_8_method_7_code
def yX6_addBlock : MethodName := ⟨RX6, "addBlock", "(II)I"⟩
abbrev cX6_takeOut : ByteArray := prog_8_method_8_code
def yX6_takeOut : MethodName := ⟨RX6, "takeOut", "(II)I"⟩
abbrev cX6_canTakeOut : ByteArray := prog_8_method_9_code
def yX6_canTakeOut : MethodName := ⟨RX6, "canTakeOut", "(II)Z"⟩
abbrev cX6_drawOut : ByteArray := prog_8_method_10_code
def yX6_drawOut : MethodName := ⟨RX6, "drawOut", "(II)I"⟩
abbrev cX6_bringIn : ByteArray := prog_8_method_11_code
def yX6_bringIn : MethodName := ⟨RX6, "bringIn", "(II)I"⟩
abbrev cX6_canBringIn : ByteArray := prog_8_method_12_code
def yX6_canBringIn : MethodName := ⟨RX6, "canBringIn", "(II)Z"⟩
abbrev cX6_goRound : ByteArray := prog_8_method_13_code
def yX6_goRound : MethodName := ⟨RX6, "goRound", "()I"⟩
abbrev cX6_canGoRound : ByteArray := prog_8_method_14_code
def yX6_canGoRound : MethodName := ⟨RX6, "canGoRound", "()Z"⟩
abbrev cX6_makeMove : ByteArray := prog_8_method_15_code
def yX6_makeMove : MethodName := ⟨RX6, "makeMove", "(II)V"⟩
abbrev cX6_letPass : ByteArray := prog_8_method_16_code
def yX6_letPass : MethodName := ⟨RX6, "letPass", "(I)I"⟩
abbrev cX6_comeTo : ByteArray := prog_8_method_17_code
def yX6_comeTo : MethodName := ⟨RX6, "comeTo", "(I)V"⟩
abbrev cX6_addTrain : ByteArray := prog_8_method_18_code
def yX6_addTrain : MethodName := ⟨RX6, "addTrain", "([III)I"⟩
abbrev cX6_areThere : ByteArray := prog_8_method_19_code
def yX6_areThere : MethodName := ⟨RX6, "areThere", "([II)Z"⟩
abbrev cX6_strikeOut : ByteArray := prog_8_method_20_code
def yX6_strikeOut : MethodName := ⟨RX6, "strikeOut", "(I)I"⟩
abbrev cX6_letLeave : ByteArray := prog_8_method_21_code
def yX6_letLeave : MethodName := ⟨RX6, "letLeave", "(I)I"⟩
abbrev cX6_couldLeave : ByteArray := prog_8_method_22_code
def yX6_couldLeave : MethodName := ⟨RX6, "couldLeave", "(I)Z"⟩
abbrev cX6_manyAlike : ByteArray := prog_8_method_23_code
def yX6_manyAlike : MethodName := ⟨RX6, "manyAlike", "(I)I"⟩
abbrev cX6_aboutTrack : ByteArray := prog_8_method_24_code
def yX6_aboutTrack : MethodName := ⟨RX6, "aboutTrack", "(II)I"⟩
abbrev cX6_aboutWagon : ByteArray := prog_8_method_25_code
def yX6_aboutWagon : MethodName := ⟨RX6, "aboutWagon", "(II)I"⟩
abbrev cX6_aboutTrain : ByteArray := prog_8_method_26_code
def yX6_aboutTrain : MethodName := ⟨RX6, "aboutTrain", "(II)I"⟩
abbrev cX6_lengthOfList : ByteArray := prog_8_method_27_code
def yX6_lengthOfList : MethodName := ⟨RX6, "lengthOfList", "(I)I"⟩
abbrev cX6_aboutYard : ByteArray := prog_8_method_28_code
def yX6_aboutYard : MethodName := ⟨RX6, "aboutYard", "(I)I"⟩
abbrev cX6_tracksFor : ByteArray := prog_8_method_29_code
def yX6_tracksFor : MethodName := ⟨RX6, "tracksFor", "(I)I"⟩
abbrev cX6_manyBuried : ByteArray := prog_8_method_30_code
def yX6_manyBuried : MethodName := ⟨RX6, "manyBuried", "()I"⟩
abbrev cX6_isBuried : ByteArray := prog_8_method_31_code
def yX6_isBuried : MethodName := ⟨RX6, "isBuried", "(II)Z"⟩
def RX7 : String := "PickupYard"
def TX7 : u_T := fun k => match k with
  | 0 => ("PickupYard", "yard", "LPickupYard$Yard;", true)
  | 1 => ("PickupYard", "trial", "LPickupYard$Trial;", true)
  | 2 => ("PickupYard", "history", "LPickupYard$History;", true)
  | 3 => ("PickupYard", "slots", "[LPickupYard$Yard;", true)
  | 4 => ("PickupYard", "saved", "[Z", true)
  | 5 => ("PickupYard", "pad", "LPickupYard$Pad;", true)
  | _ => ("PickupYard", "list", "[I", true)
def tyX7 : Nat → FieldType := fun k => match k with
  | 0 => .object "PickupYard$Yard"
  | 1 => .object "PickupYard$Trial"
  | 2 => .object "PickupYard$History"
  | 3 => .array (.object "PickupYard$Yard")
  | 4 => .array .boolean
  | 5 => .object "PickupYard$Pad"
  | _ => .array .int
abbrev wsX70 : List Cond := u_ws RX7 TX7 7
theorem nmX7 : ∀ a, a < 7 → ∀ b, b < 7 → a ≠ b → (TX7 a).2.1 ≠ (TX7 b).2.1 := by decide +kernel
theorem tyX7_ok : ∀ k, k < 7 → parseFieldDescriptor (TX7 k).2.2.1 = some (tyX7 k) := by decide +kernel
abbrev cX7_init : ByteArray := prog_1_method_1_code
def yX7_init : MethodName := ⟨RX7, "<init>", "()V"⟩
abbrev cX7_set : ByteArray := prog_1_method_2_code
def yX7_set : MethodName := ⟨RX7, "set", "(II)I"⟩
abbrev cX7_track : ByteArray := prog_1_method_3_code
def yX7_track : MethodName := ⟨RX7, "track", "(I)I"⟩
abbrev cX7_wagon : ByteArray := prog_1_method_4_code
def yX7_wagon : MethodName := ⟨RX7, "wagon", "(II)I"⟩
abbrev cX7_block : ByteArray := prog_1_method_5_code
def yX7_block : MethodName := ⟨RX7, "block", "(II)I"⟩
abbrev cX7_pull : ByteArray := prog_1_method_6_code
def yX7_pull : MethodName := ⟨RX7, "pull", "(II)I"⟩
abbrev cX7_push : ByteArray := prog_1_method_7_code
def yX7_push : MethodName := ⟨RX7, "push", "(II)I"⟩
abbrev cX7_round : ByteArray := prog_1_method_8_code
def yX7_round : MethodName := ⟨RX7, "round", "()I"⟩
abbrev cX7_pass : ByteArray := prog_1_method_9_code
def yX7_pass : MethodName := ⟨RX7, "pass", "(I)I"⟩
abbrev cX7_train : ByteArray := prog_1_method_10_code
def yX7_train : MethodName := ⟨RX7, "train", "(JI)I"⟩
abbrev cX7_readList : ByteArray := prog_1_method_11_code
def yX7_readList : MethodName := ⟨RX7, "readList", "(J)I"⟩
abbrev cX7_strike : ByteArray := prog_1_method_12_code
def yX7_strike : MethodName := ⟨RX7, "strike", "(I)I"⟩
abbrev cX7_leave : ByteArray := prog_1_method_13_code
def yX7_leave : MethodName := ⟨RX7, "leave", "(I)I"⟩
abbrev cX7_ofTrack : ByteArray := prog_1_method_14_code
def yX7_ofTrack : MethodName := ⟨RX7, "ofTrack", "(II)I"⟩
abbrev cX7_at : ByteArray := prog_1_method_15_code
def yX7_at : MethodName := ⟨RX7, "at", "(II)I"⟩
abbrev cX7_ofWagon : ByteArray := prog_1_method_16_code
def yX7_ofWagon : MethodName := ⟨RX7, "ofWagon", "(II)I"⟩
abbrev cX7_ofTrain : ByteArray := prog_1_method_17_code
def yX7_ofTrain : MethodName := ⟨RX7, "ofTrain", "(II)I"⟩
abbrev cX7_count : ByteArray := prog_1_method_18_code
def yX7_count : MethodName := ⟨RX7, "count", "(I)I"⟩
abbrev cX7_freeFrom : ByteArray := prog_1_method_19_code
def yX7_freeFrom : MethodName := ⟨RX7, "freeFrom", "(I)I"⟩
abbrev cX7_straight : ByteArray := prog_1_method_20_code
def yX7_straight : MethodName := ⟨RX7, "straight", "(I)I"⟩
abbrev cX7_pulls : ByteArray := prog_1_method_21_code
def yX7_pulls : MethodName := ⟨RX7, "pulls", "(I)I"⟩
abbrev cX7_wouldLeave : ByteArray := prog_1_method_22_code
def yX7_wouldLeave : MethodName := ⟨RX7, "wouldLeave", "(I)I"⟩
abbrev cX7_moves : ByteArray := prog_1_method_23_code
def yX7_moves : MethodName := ⟨RX7, "moves", "(I)I"⟩
abbrev cX7_roomFor : ByteArray := prog_1_method_24_code
def yX7_roomFor : MethodName := ⟨RX7, "roomFor", "()I"⟩
abbrev cX7_buried : ByteArray := prog_1_method_25_code
def yX7_buried : MethodName := ⟨RX7, "buried", "()I"⟩
abbrev cX7_put : ByteArray := prog_1_method_26_code
def yX7_put : MethodName := ⟨RX7, "put", "(J)I"⟩
abbrev cX7_wipe : ByteArray := prog_1_method_27_code
def yX7_wipe : MethodName := ⟨RX7, "wipe", "()I"⟩
abbrev cX7_fault : ByteArray := prog_1_method_28_code
def yX7_fault : MethodName := ⟨RX7, "fault", "()I"⟩
abbrev cX7_carryOut : ByteArray := prog_1_method_29_code
def yX7_carryOut : MethodName := ⟨RX7, "carryOut", "()I"⟩
abbrev cX7_carryOne : ByteArray := prog_1_method_30_code
def yX7_carryOne : MethodName := ⟨RX7, "carryOne", "(II)I"⟩
abbrev cX7_undo : ByteArray := prog_1_method_31_code
def yX7_undo : MethodName := ⟨RX7, "undo", "()I"⟩
abbrev cX7_save : ByteArray := prog_1_method_32_code
def yX7_save : MethodName := ⟨RX7, "save", "(I)I"⟩
abbrev cX7_restore : ByteArray := prog_1_method_33_code
def yX7_restore : MethodName := ⟨RX7, "restore", "(I)I"⟩
def RX8 : String := "PickupYardModel"
def TX8 : u_T := fun k => match k with
  | 0 => ("PickupYardModel", "now", "[I", true)
  | 1 => ("PickupYardModel", "kept", "[I", true)
  | 2 => ("PickupYardModel", "kept2", "[I", true)
  | 3 => ("PickupYardModel", "history", "[I", true)
  | 4 => ("PickupYardModel", "undos", "I", false)
  | 5 => ("PickupYardModel", "saved", "[I", true)
  | 6 => ("PickupYardModel", "isSaved", "[Z", true)
  | 7 => ("PickupYardModel", "pad", "[I", true)
  | 8 => ("PickupYardModel", "signs", "I", false)
  | 9 => ("PickupYardModel", "isInText", "Z", false)
  | 10 => ("PickupYardModel", "list", "[I", true)
  | 11 => ("PickupYardModel", "taken", "[I", true)
  | 12 => ("PickupYardModel", "pullTrack", "[I", true)
  | 13 => ("PickupYardModel", "pullMany", "[I", true)
  | 14 => ("PickupYardModel", "pulled", "I", false)
  | 15 => ("PickupYardModel", "orders", "[I", true)
  | 16 => ("PickupYardModel", "many", "I", false)
  | 17 => ("PickupYardModel", "place", "I", false)
  | _ => ("PickupYardModel", "isWrong", "Z", false)
def tyX8 : Nat → FieldType := fun k => match k with
  | 0 => .array .int
  | 1 => .array .int
  | 2 => .array .int
  | 3 => .array .int
  | 4 => .int
  | 5 => .array .int
  | 6 => .array .boolean
  | 7 => .array .int
  | 8 => .int
  | 9 => .boolean
  | 10 => .array .int
  | 11 => .array .int
  | 12 => .array .int
  | 13 => .array .int
  | 14 => .int
  | 15 => .array .int
  | 16 => .int
  | 17 => .int
  | _ => .boolean
abbrev wsX80 : List Cond := u_ws RX8 TX8 19
theorem nmX8 : ∀ a, a < 19 → ∀ b, b < 19 → a ≠ b → (TX8 a).2.1 ≠ (TX8 b).2.1 := by decide +kernel
theorem tyX8_ok : ∀ k, k < 19 → parseFieldDescriptor (TX8 k).2.2.1 = some (tyX8 k) := by decide +kernel
abbrev cX8_init : ByteArray := prog_10_method_1_code
def yX8_init : MethodName := ⟨RX8, "<init>", "()V"⟩
abbrev cX8_in : ByteArray := prog_10_method_2_code
def yX8_in : MethodName := ⟨RX8, "in", "(III)Z"⟩
abbrev cX8_record : ByteArray := prog_10_method_3_code
def yX8_record : MethodName := ⟨RX8, "record", "()V"⟩
abbrev cX8_least : ByteArray := prog_10_method_4_code
def yX8_least : MethodName := ⟨RX8, "least", "(I)I"⟩
abbrev cX8_most : ByteArray := prog_10_method_5_code
def yX8_most : MethodName := ⟨RX8, "most", "(I)I"⟩
abbrev cX8_set : ByteArray := prog_10_method_6_code
def yX8_set : MethodName := ⟨RX8, "set", "(II)I"⟩
abbrev cX8_track : ByteArray := prog_10_method_7_code
def yX8_track : MethodName := ⟨RX8, "track", "(I)I"⟩
abbrev cX8_isTrack : ByteArray := prog_10_method_8_code
def yX8_isTrack : MethodName := ⟨RX8, "isTrack", "(I)Z"⟩
abbrev cX8_isWagon : ByteArray := prog_10_method_9_code
def yX8_isWagon : MethodName := ⟨RX8, "isWagon", "(I)Z"⟩
abbrev cX8_manyOn : ByteArray := prog_10_method_10_code
def yX8_manyOn : MethodName := ⟨RX8, "manyOn", "(I)I"⟩
abbrev cX8_lengthOf : ByteArray := prog_10_method_11_code
def yX8_lengthOf : MethodName := ⟨RX8, "lengthOf", "(I)I"⟩
abbrev cX8_lengths : ByteArray := prog_10_method_12_code
def yX8_lengths : MethodName := ⟨RX8, "lengths", "(II)I"⟩
abbrev cX8_lengthOn : ByteArray := prog_10_method_13_code
def yX8_lengthOn : MethodName := ⟨RX8, "lengthOn", "(I)I"⟩
abbrev cX8_lengthAtEngine : ByteArray := prog_10_method_14_code
def yX8_lengthAtEngine : MethodName := ⟨RX8, "lengthAtEngine", "()I"⟩
abbrev cX8_wagon : ByteArray := prog_10_method_15_code
def yX8_wagon : MethodName := ⟨RX8, "wagon", "(II)I"⟩
abbrev cX8_block : ByteArray := prog_10_method_16_code
def yX8_block : MethodName := ⟨RX8, "block", "(II)I"⟩
abbrev cX8_freeAt : ByteArray := prog_10_method_17_code
def yX8_freeAt : MethodName := ⟨RX8, "freeAt", "(II)I"⟩
abbrev cX8_comeTo : ByteArray := prog_10_method_18_code
def yX8_comeTo : MethodName := ⟨RX8, "comeTo", "(I)V"⟩
abbrev cX8_take : ByteArray := prog_10_method_19_code
def yX8_take : MethodName := ⟨RX8, "take", "(II)V"⟩
abbrev cX8_drawOut : ByteArray := prog_10_method_20_code
def yX8_drawOut : MethodName := ⟨RX8, "drawOut", "(II)I"⟩
abbrev cX8_setBack : ByteArray := prog_10_method_21_code
def yX8_setBack : MethodName := ⟨RX8, "setBack", "(II)I"⟩
abbrev cX8_turnRound : ByteArray := prog_10_method_22_code
def yX8_turnRound : MethodName := ⟨RX8, "turnRound", "()V"⟩
abbrev cX8_canPull : ByteArray := prog_10_method_23_code
def yX8_canPull : MethodName := ⟨RX8, "canPull", "(II)Z"⟩
abbrev cX8_canPush : ByteArray := prog_10_method_24_code
def yX8_canPush : MethodName := ⟨RX8, "canPush", "(II)Z"⟩
abbrev cX8_canRound : ByteArray := prog_10_method_25_code
def yX8_canRound : MethodName := ⟨RX8, "canRound", "()Z"⟩
abbrev cX8_pull : ByteArray := prog_10_method_26_code
def yX8_pull : MethodName := ⟨RX8, "pull", "(II)I"⟩
abbrev cX8_push : ByteArray := prog_10_method_27_code
def yX8_push : MethodName := ⟨RX8, "push", "(II)I"⟩
abbrev cX8_round : ByteArray := prog_10_method_28_code
def yX8_round : MethodName := ⟨RX8, "round", "()I"⟩
abbrev cX8_pass : ByteArray := prog_10_method_29_code
def yX8_pass : MethodName := ⟨RX8, "pass", "(I)I"⟩
abbrev cX8_isTrain : ByteArray := prog_10_method_30_code
def yX8_isTrain : MethodName := ⟨RX8, "isTrain", "(I)Z"⟩
abbrev cX8_trainOf : ByteArray := prog_10_method_31_code
def yX8_trainOf : MethodName := ⟨RX8, "trainOf", "(I)I"⟩
abbrev cX8_readList : ByteArray := prog_10_method_32_code
def yX8_readList : MethodName := ⟨RX8, "readList", "(J)I"⟩
abbrev cX8_train : ByteArray := prog_10_method_33_code
def yX8_train : MethodName := ⟨RX8, "train", "(JI)I"⟩
abbrev cX8_dropTrain : ByteArray := prog_10_method_34_code
def yX8_dropTrain : MethodName := ⟨RX8, "dropTrain", "(I)V"⟩
abbrev cX8_strike : ByteArray := prog_10_method_35_code
def yX8_strike : MethodName := ⟨RX8, "strike", "(I)I"⟩
abbrev cX8_canLeave : ByteArray := prog_10_method_36_code
def yX8_canLeave : MethodName := ⟨RX8, "canLeave", "(I)Z"⟩
abbrev cX8_leave : ByteArray := prog_10_method_37_code
def yX8_leave : MethodName := ⟨RX8, "leave", "(I)I"⟩
abbrev cX8_ofTrack : ByteArray := prog_10_method_38_code
def yX8_ofTrack : MethodName := ⟨RX8, "ofTrack", "(II)I"⟩
abbrev cX8_at : ByteArray := prog_10_method_39_code
def yX8_at : MethodName := ⟨RX8, "at", "(II)I"⟩
abbrev cX8_trackOf : ByteArray := prog_10_method_40_code
def yX8_trackOf : MethodName := ⟨RX8, "trackOf", "(I)I"⟩
abbrev cX8_placeIn : ByteArray := prog_10_method_41_code
def yX8_placeIn : MethodName := ⟨RX8, "placeIn", "(III)I"⟩
abbrev cX8_ofWagon : ByteArray := prog_10_method_42_code
def yX8_ofWagon : MethodName := ⟨RX8, "ofWagon", "(II)I"⟩
abbrev cX8_ofTrain : ByteArray := prog_10_method_43_code
def yX8_ofTrain : MethodName := ⟨RX8, "ofTrain", "(II)I"⟩
abbrev cX8_count : ByteArray := prog_10_method_44_code
def yX8_count : MethodName := ⟨RX8, "count", "(I)I"⟩
abbrev cX8_freeFrom : ByteArray := prog_10_method_45_code
def yX8_freeFrom : MethodName := ⟨RX8, "freeFrom", "(I)I"⟩
abbrev cX8_layPulls : ByteArray := prog_10_method_46_code
def yX8_layPulls : MethodName := ⟨RX8, "layPulls", "(I)Z"⟩
abbrev cX8_straight : ByteArray := prog_10_method_47_code
def yX8_straight : MethodName := ⟨RX8, "straight", "(I)I"⟩
abbrev cX8_pulls : ByteArray := prog_10_method_48_code
def yX8_pulls : MethodName := ⟨RX8, "pulls", "(I)I"⟩
abbrev cX8_wouldLeave : ByteArray := prog_10_method_49_code
def yX8_wouldLeave : MethodName := ⟨RX8, "wouldLeave", "(I)I"⟩
abbrev cX8_oneMore : ByteArray := prog_10_method_50_code
def yX8_oneMore : MethodName := ⟨RX8, "oneMore", "(I)Z"⟩
abbrev cX8_comeBack2 : ByteArray := prog_10_method_51_code
def yX8_comeBack2 : MethodName := ⟨RX8, "comeBack2", "()V"⟩
abbrev cX8_comeBack : ByteArray := prog_10_method_52_code
def yX8_comeBack : MethodName := ⟨RX8, "comeBack", "()V"⟩
abbrev cX8_moves : ByteArray := prog_10_method_53_code
def yX8_moves : MethodName := ⟨RX8, "moves", "(I)I"⟩
abbrev cX8_roomFor : ByteArray := prog_10_method_54_code
def yX8_roomFor : MethodName := ⟨RX8, "roomFor", "()I"⟩
abbrev cX8_buried : ByteArray := prog_10_method_55_code
def yX8_buried : MethodName := ⟨RX8, "buried", "()I"⟩
abbrev cX8_sign : ByteArray := prog_10_method_56_code
def yX8_sign : MethodName := ⟨RX8, "sign", "()I"⟩
abbrev cX8_one : ByteArray := prog_10_method_57_code
def yX8_one : MethodName := ⟨RX8, "one", "(II)I"⟩
abbrev cX8_number : ByteArray := prog_10_method_58_code
def yX8_number : MethodName := ⟨RX8, "number", "()I"⟩
abbrev cX8_readOne : ByteArray := prog_10_method_59_code
def yX8_readOne : MethodName := ⟨RX8, "readOne", "()V"⟩
abbrev cX8_faultOf : ByteArray := prog_10_method_60_code
def yX8_faultOf : MethodName := ⟨RX8, "faultOf", "()I"⟩
abbrev cX8_put : ByteArray := prog_10_method_61_code
def yX8_put : MethodName := ⟨RX8, "put", "(J)I"⟩
abbrev cX8_wipe : ByteArray := prog_10_method_62_code
def yX8_wipe : MethodName := ⟨RX8, "wipe", "()I"⟩
abbrev cX8_fault : ByteArray := prog_10_method_63_code
def yX8_fault : MethodName := ⟨RX8, "fault", "()I"⟩
abbrev cX8_carry : ByteArray := prog_10_method_64_code
def yX8_carry : MethodName := ⟨RX8, "carry", "(I)I"⟩
abbrev cX8_carryOut : ByteArray := prog_10_method_65_code
def yX8_carryOut : MethodName := ⟨RX8, "carryOut", "()I"⟩
abbrev cX8_undo : ByteArray := prog_10_method_66_code
def yX8_undo : MethodName := ⟨RX8, "undo", "()I"⟩
abbrev cX8_save : ByteArray := prog_10_method_67_code
def yX8_save : MethodName := ⟨RX8, "save", "(I)I"⟩
abbrev cX8_restore : ByteArray := prog_10_method_68_code
def yX8_restore : MethodName := ⟨RX8, "restore", "(I)I"⟩
def RL : String := "PickupYardLaw"
abbrev cL_law : ByteArray := code
def yL_law : MethodName := ⟨RL, "law", "([I)Z"⟩
abbrev vwCl : List vw_C := [(RX0, TX0, 3), (RX1, TX1, 2), (RX2, TX2, 2), (RX3, TX3, 4), (RX4, TX4, 1), (RX5, TX5, 7), (RX6, TX6, 14), (RX7, TX7, 7), (RX8, TX8, 19)]
end
section
theorem dX0_init_0 : decode cX0_init 0 = .ok (.aload_n 0, 1) := by decide +kernel
theorem dX0_init_1 : decode cX0_init 1 = .ok (.invokespecial 3, 3) := by decide +kernel
theorem dX0_init_4 : decode cX0_init 4 = .ok (.aload_n 0, 1) := by decide +kernel
theorem dX0_init_5 : decode cX0_init 5 = .ok (.bipush 10, 2) := by decide +kernel
theorem dX0_init_7 : decode cX0_init 7 = .ok (.newarray .int, 2) := by decide +kernel
theorem dX0_init_9 : decode cX0_init 9 = .ok (.putfield 9, 3) := by decide +kernel
theorem dX0_init_12 : decode cX0_init 12 = .ok (.aload_n 0, 1) := by decide +kernel
theorem dX0_init_13 : decode cX0_init 13 = .ok (.bipush 10, 2) := by decide +kernel
theorem dX0_init_15 : decode cX0_init 15 = .ok (.newarray .int, 2) := by decide +kernel
theorem dX0_init_17 : decode cX0_init 17 = .ok (.putfield 15, 3) := by decide +kernel
theorem dX0_init_20 : decode cX0_init 20 = .ok (.return_, 1) := by decide +kernel
theorem dX0_copyFrom_0 : decode cX0_copyFrom 0 = .ok (.aload_n 0, 1) := by decide +kernel
theorem dX0_copyFrom_1 : decode cX0_copyFrom 1 = .ok (.aload_n 1, 1) := by decide +kernel
theorem dX0_copyFrom_2 : decode cX0_copyFrom 2 = .ok (.getfield 18, 3) := by decide +kernel
theorem dX0_copyFrom_5 : decode cX0_copyFrom 5 = .ok (.putfield 18, 3) := by decide +kernel
theorem dX0_copyFrom_8 : decode cX0_copyFrom 8 = .ok (.aload_n 1, 1) := by decide +kernel
theorem dX0_copyFrom_9 : decode cX0_copyFrom 9 = .ok (.getfield 9, 3) := by decide +kernel
theorem dX0_copyFrom_12 : decode cX0_copyFrom 12 = .ok (.iconst 0, 1) := by decide +kernel
theorem dX0_copyFrom_13 : decode cX0_copyFrom 13 = .ok (.aload_n 0, 1) := by decide +kernel
theorem dX0_copyFrom_14 : decode cX0_copyFrom 14 = .ok (.getfield 9, 3) := by decide +kernel
theorem dX0_copyFrom_17 : decode cX0_copyFrom 17 = .ok (.iconst 0, 1) := by decide +kernel
theorem dX0_copyFrom_18 : decode cX0_copyFrom 18 = .ok (.bipush 10, 2) := by decide +kernel
theorem dX0_copyFrom_20 : decode cX0_copyFrom 20 = .ok (.invokestatic 22, 3) := by decide +kernel
theorem dX0_copyFrom_23 : decode cX0_copyFrom 23 = .ok (.aload_n 1, 1) := by decide +kernel
theorem dX0_copyFrom_24 : decode cX0_copyFrom 24 = .ok (.getfield 15, 3) := by decide +kernel
theorem dX0_copyFrom_27 : decode cX0_copyFrom 27 = .ok (.iconst 0, 1) := by decide +kernel
theorem dX0_copyFrom_28 : decode cX0_copyFrom 28 = .ok (.aload_n 0, 1) := by decide +kernel
theorem dX0_copyFrom_29 : decode cX0_copyFrom 29 = .ok (.getfield 15, 3) := by decide +kernel
theorem dX0_copyFrom_32 : decode cX0_copyFrom 32 = .ok (.iconst 0, 1) := by decide +kernel
theorem dX0_copyFrom_33 : decode cX0_copyFrom 33 = .ok (.bipush 10, 2) := by decide +kernel
theorem dX0_copyFrom_35 : decode cX0_copyFrom 35 = .ok (.invokestatic 22, 3) := by decide +kernel
theorem dX0_copyFrom_38 : decode cX0_copyFrom 38 = .ok (.return_, 1) := by decide +kernel
theorem dX0_add_0 : decode cX0_add 0 = .ok (.aload_n 0, 1) := by decide +kernel
theorem dX0_add_1 : decode cX0_add 1 = .ok (.getfield 9, 3) := by decide +kernel
theorem dX0_add_4 : decode cX0_add 4 = .ok (.aload_n 0, 1) := by decide +kernel
theorem dX0_add_5 : decode cX0_add 5 = .ok (.getfield 18, 3) := by decide +kernel
theorem dX0_add_8 : decode cX0_add 8 = .ok (.iload_n 1, 1) := by decide +kernel
theorem dX0_add_9 : decode cX0_add 9 = .ok (.iastore, 1) := by decide +kernel
theorem dX0_add_10 : decode cX0_add 10 = .ok (.aload_n 0, 1) := by decide +kernel
theorem dX0_add_11 : decode cX0_add 11 = .ok (.getfield 15, 3) := by decide +kernel
theorem dX0_add_14 : decode cX0_add 14 = .ok (.aload_n 0, 1) := by decide +kernel
theorem dX0_add_15 : decode cX0_add 15 = .ok (.getfield 18, 3) := by decide +kernel
theorem dX0_add_18 : decode cX0_add 18 = .ok (.iload_n 2, 1) := by decide +kernel
theorem dX0_add_19 : decode cX0_add 19 = .ok (.iastore, 1) := by decide +kernel
theorem dX0_add_20 : decode cX0_add 20 = .ok (.aload_n 0, 1) := by decide +kernel
theorem dX0_add_21 : decode cX0_add 21 = .ok (.dup, 1) := by decide +kernel
theorem dX0_add_22 : decode cX0_add 22 = .ok (.getfield 18, 3) := by decide +kernel
theorem dX0_add_25 : decode cX0_add 25 = .ok (.iconst 1, 1) := by decide +kernel
theorem dX0_add_26 : decode cX0_add 26 = .ok (.iadd, 1) := by decide +kernel
theorem dX0_add_27 : decode cX0_add 27 = .ok (.putfield 18, 3) := by decide +kernel
theorem dX0_add_30 : decode cX0_add 30 = .ok (.aload_n 0, 1) := by decide +kernel
theorem dX0_add_31 : decode cX0_add 31 = .ok (.getfield 18, 3) := by decide +kernel
theorem dX0_add_34 : decode cX0_add 34 = .ok (.ireturn, 1) := by decide +kernel
theorem dX0_dropEnded_0 : decode cX0_dropEnded 0 = .ok (.iconst 0, 1) := by decide +kernel
theorem dX0_dropEnded_1 : decode cX0_dropEnded 1 = .ok (.istore_n 2, 1) := by decide +kernel
theorem dX0_dropEnded_2 : decode cX0_dropEnded 2 = .ok (.iconst 0, 1) := by decide +kernel
theorem dX0_dropEnded_3 : decode cX0_dropEnded 3 = .ok (.istore_n 3, 1) := by decide +kernel
theorem dX0_dropEnded_4 : decode cX0_dropEnded 4 = .ok (.iload_n 3, 1) := by decide +kernel
theorem dX0_dropEnded_5 : decode cX0_dropEnded 5 = .ok (.aload_n 0, 1) := by decide +kernel
theorem dX0_dropEnded_6 : decode cX0_dropEnded 6 = .ok (.getfield 18, 3) := by decide +kernel
theorem dX0_dropEnded_9 : decode cX0_dropEnded 9 = .ok (.if_icmp .ge 46, 3) := by decide +kernel
theorem dX0_dropEnded_12 : decode cX0_dropEnded 12 = .ok (.aload_n 0, 1) := by decide +kernel
theorem dX0_dropEnded_13 : decode cX0_dropEnded 13 = .ok (.getfield 15, 3) := by decide +kernel
theorem dX0_dropEnded_16 : decode cX0_dropEnded 16 = .ok (.iload_n 3, 1) := by decide +kernel
theorem dX0_dropEnded_17 : decode cX0_dropEnded 17 = .ok (.iaload, 1) := by decide +kernel
theorem dX0_dropEnded_18 : decode cX0_dropEnded 18 = .ok (.iload_n 1, 1) := by decide +kernel
theorem dX0_dropEnded_19 : decode cX0_dropEnded 19 = .ok (.if_icmp .le 30, 3) := by decide +kernel
theorem dX0_dropEnded_22 : decode cX0_dropEnded 22 = .ok (.aload_n 0, 1) := by decide +kernel
theorem dX0_dropEnded_23 : decode cX0_dropEnded 23 = .ok (.getfield 9, 3) := by decide +kernel
theorem dX0_dropEnded_26 : decode cX0_dropEnded 26 = .ok (.iload_n 2, 1) := by decide +kernel
theorem dX0_dropEnded_27 : decode cX0_dropEnded 27 = .ok (.aload_n 0, 1) := by decide +kernel
theorem dX0_dropEnded_28 : decode cX0_dropEnded 28 = .ok (.getfield 9, 3) := by decide +kernel
theorem dX0_dropEnded_31 : decode cX0_dropEnded 31 = .ok (.iload_n 3, 1) := by decide +kernel
theorem dX0_dropEnded_32 : decode cX0_dropEnded 32 = .ok (.iaload, 1) := by decide +kernel
theorem dX0_dropEnded_33 : decode cX0_dropEnded 33 = .ok (.iastore, 1) := by decide +kernel
theorem dX0_dropEnded_34 : decode cX0_dropEnded 34 = .ok (.aload_n 0, 1) := by decide +kernel
theorem dX0_dropEnded_35 : decode cX0_dropEnded 35 = .ok (.getfield 15, 3) := by decide +kernel
theorem dX0_dropEnded_38 : decode cX0_dropEnded 38 = .ok (.iload_n 2, 1) := by decide +kernel
theorem dX0_dropEnded_39 : decode cX0_dropEnded 39 = .ok (.aload_n 0, 1) := by decide +kernel
theorem dX0_dropEnded_40 : decode cX0_dropEnded 40 = .ok (.getfield 15, 3) := by decide +kernel
theorem dX0_dropEnded_43 : decode cX0_dropEnded 43 = .ok (.iload_n 3, 1) := by decide +kernel
theorem dX0_dropEnded_44 : decode cX0_dropEnded 44 = .ok (.iaload, 1) := by decide +kernel
theorem dX0_dropEnded_45 : decode cX0_dropEnded 45 = .ok (.iastore, 1) := by decide +kernel
theorem dX0_dropEnded_46 : decode cX0_dropEnded 46 = .ok (.iinc 2 1, 3) := by decide +kernel
theorem dX0_dropEnded_49 : decode cX0_dropEnded 49 = .ok (.iinc 3 1, 3) := by decide +kernel
theorem dX0_dropEnded_52 : decode cX0_dropEnded 52 = .ok (.goto (-48), 3) := by decide +kernel
theorem dX0_dropEnded_55 : decode cX0_dropEnded 55 = .ok (.aload_n 0, 1) := by decide +kernel
theorem dX0_dropEnded_56 : decode cX0_dropEnded 56 = .ok (.iload_n 2, 1) := by decide +kernel
theorem dX0_dropEnded_57 : decode cX0_dropEnded 57 = .ok (.putfield 18, 3) := by decide +kernel
theorem dX0_dropEnded_60 : decode cX0_dropEnded 60 = .ok (.return_, 1) := by decide +kernel
theorem dX0_firstFree_0 : decode cX0_firstFree 0 = .ok (.iload_n 1, 1) := by decide +kernel
theorem dX0_firstFree_1 : decode cX0_firstFree 1 = .ok (.istore_n 3, 1) := by decide +kernel
theorem dX0_firstFree_2 : decode cX0_firstFree 2 = .ok (.iconst 0, 1) := by decide +kernel
theorem dX0_firstFree_3 : decode cX0_firstFree 3 = .ok (.istore 4, 2) := by decide +kernel
theorem dX0_firstFree_5 : decode cX0_firstFree 5 = .ok (.iload 4, 2) := by decide +kernel
theorem dX0_firstFree_7 : decode cX0_firstFree 7 = .ok (.aload_n 0, 1) := by decide +kernel
theorem dX0_firstFree_8 : decode cX0_firstFree 8 = .ok (.getfield 18, 3) := by decide +kernel
theorem dX0_firstFree_11 : decode cX0_firstFree 11 = .ok (.if_icmp .ge 59, 3) := by decide +kernel
theorem dX0_firstFree_14 : decode cX0_firstFree 14 = .ok (.iconst 0, 1) := by decide +kernel
theorem dX0_firstFree_15 : decode cX0_firstFree 15 = .ok (.istore 5, 2) := by decide +kernel
theorem dX0_firstFree_17 : decode cX0_firstFree 17 = .ok (.iload 5, 2) := by decide +kernel
theorem dX0_firstFree_19 : decode cX0_firstFree 19 = .ok (.aload_n 0, 1) := by decide +kernel
theorem dX0_firstFree_20 : decode cX0_firstFree 20 = .ok (.getfield 18, 3) := by decide +kernel
theorem dX0_firstFree_23 : decode cX0_firstFree 23 = .ok (.if_icmp .ge 41, 3) := by decide +kernel
theorem dX0_firstFree_26 : decode cX0_firstFree 26 = .ok (.aload_n 0, 1) := by decide +kernel
theorem dX0_firstFree_27 : decode cX0_firstFree 27 = .ok (.getfield 9, 3) := by decide +kernel
theorem dX0_firstFree_30 : decode cX0_firstFree 30 = .ok (.iload 5, 2) := by decide +kernel
theorem dX0_firstFree_32 : decode cX0_firstFree 32 = .ok (.iaload, 1) := by decide +kernel
theorem dX0_firstFree_33 : decode cX0_firstFree 33 = .ok (.iload_n 3, 1) := by decide +kernel
theorem dX0_firstFree_34 : decode cX0_firstFree 34 = .ok (.iload_n 2, 1) := by decide +kernel
theorem dX0_firstFree_35 : decode cX0_firstFree 35 = .ok (.iadd, 1) := by decide +kernel
theorem dX0_firstFree_36 : decode cX0_firstFree 36 = .ok (.if_icmp .ge 22, 3) := by decide +kernel
theorem dX0_firstFree_39 : decode cX0_firstFree 39 = .ok (.aload_n 0, 1) := by decide +kernel
theorem dX0_firstFree_40 : decode cX0_firstFree 40 = .ok (.getfield 15, 3) := by decide +kernel
theorem dX0_firstFree_43 : decode cX0_firstFree 43 = .ok (.iload 5, 2) := by decide +kernel
theorem dX0_firstFree_45 : decode cX0_firstFree 45 = .ok (.iaload, 1) := by decide +kernel
theorem dX0_firstFree_46 : decode cX0_firstFree 46 = .ok (.iload_n 3, 1) := by decide +kernel
theorem dX0_firstFree_47 : decode cX0_firstFree 47 = .ok (.if_icmp .le 11, 3) := by decide +kernel
theorem dX0_firstFree_50 : decode cX0_firstFree 50 = .ok (.aload_n 0, 1) := by decide +kernel
theorem dX0_firstFree_51 : decode cX0_firstFree 51 = .ok (.getfield 15, 3) := by decide +kernel
theorem dX0_firstFree_54 : decode cX0_firstFree 54 = .ok (.iload 5, 2) := by decide +kernel
theorem dX0_firstFree_56 : decode cX0_firstFree 56 = .ok (.iaload, 1) := by decide +kernel
theorem dX0_firstFree_57 : decode cX0_firstFree 57 = .ok (.istore_n 3, 1) := by decide +kernel
theorem dX0_firstFree_58 : decode cX0_firstFree 58 = .ok (.iinc 5 1, 3) := by decide +kernel
theorem dX0_firstFree_61 : decode cX0_firstFree 61 = .ok (.goto (-44), 3) := by decide +kernel
theorem dX0_firstFree_64 : decode cX0_firstFree 64 = .ok (.iinc 4 1, 3) := by decide +kernel
theorem dX0_firstFree_67 : decode cX0_firstFree 67 = .ok (.goto (-62), 3) := by decide +kernel
theorem dX0_firstFree_70 : decode cX0_firstFree 70 = .ok (.iload_n 3, 1) := by decide +kernel
theorem dX0_firstFree_71 : decode cX0_firstFree 71 = .ok (.ireturn, 1) := by decide +kernel
theorem dX1_init_0 : decode cX1_init 0 = .ok (.aload_n 0, 1) := by decide +kernel
theorem dX1_init_1 : decode cX1_init 1 = .ok (.invokespecial 3, 3) := by decide +kernel
theorem dX1_init_4 : decode cX1_init 4 = .ok (.aload_n 0, 1) := by decide +kernel
theorem dX1_init_5 : decode cX1_init 5 = .ok (.bipush 7, 2) := by decide +kernel
theorem dX1_init_7 : decode cX1_init 7 = .ok (.anewarray 9, 3) := by decide +kernel
theorem dX1_init_10 : decode cX1_init 10 = .ok (.putfield 11, 3) := by decide +kernel
theorem dX1_init_13 : decode cX1_init 13 = .ok (.iconst 0, 1) := by decide +kernel
theorem dX1_init_14 : decode cX1_init 14 = .ok (.istore_n 1, 1) := by decide +kernel
theorem dX1_init_15 : decode cX1_init 15 = .ok (.iload_n 1, 1) := by decide +kernel
theorem dX1_init_16 : decode cX1_init 16 = .ok (.bipush 6, 2) := by decide +kernel
theorem dX1_init_18 : decode cX1_init 18 = .ok (.if_icmp .gt 22, 3) := by decide +kernel
theorem dX1_init_21 : decode cX1_init 21 = .ok (.aload_n 0, 1) := by decide +kernel
theorem dX1_init_22 : decode cX1_init 22 = .ok (.getfield 11, 3) := by decide +kernel
theorem dX1_init_25 : decode cX1_init 25 = .ok (.iload_n 1, 1) := by decide +kernel
theorem dX1_init_26 : decode cX1_init 26 = .ok (.new 9, 3) := by decide +kernel
theorem dX1_init_29 : decode cX1_init 29 = .ok (.dup, 1) := by decide +kernel
theorem dX1_init_30 : decode cX1_init 30 = .ok (.invokespecial 17, 3) := by decide +kernel
theorem dX1_init_33 : decode cX1_init 33 = .ok (.aastore, 1) := by decide +kernel
theorem dX1_init_34 : decode cX1_init 34 = .ok (.iinc 1 1, 3) := by decide +kernel
theorem dX1_init_37 : decode cX1_init 37 = .ok (.goto (-22), 3) := by decide +kernel
theorem dX1_init_40 : decode cX1_init 40 = .ok (.return_, 1) := by decide +kernel
theorem dX1_note_0 : decode cX1_note 0 = .ok (.aload_n 0, 1) := by decide +kernel
theorem dX1_note_1 : decode cX1_note 1 = .ok (.getfield 11, 3) := by decide +kernel
theorem dX1_note_4 : decode cX1_note 4 = .ok (.aload_n 0, 1) := by decide +kernel
theorem dX1_note_5 : decode cX1_note 5 = .ok (.getfield 18, 3) := by decide +kernel
theorem dX1_note_8 : decode cX1_note 8 = .ok (.aaload, 1) := by decide +kernel
theorem dX1_note_9 : decode cX1_note 9 = .ok (.aload_n 1, 1) := by decide +kernel
theorem dX1_note_10 : decode cX1_note 10 = .ok (.invokevirtual 22, 3) := by decide +kernel
theorem dX1_note_13 : decode cX1_note 13 = .ok (.return_, 1) := by decide +kernel
theorem dX1_kept_0 : decode cX1_kept 0 = .ok (.iload_n 1, 1) := by decide +kernel
theorem dX1_kept_1 : decode cX1_kept 1 = .ok (.ifCond .ge 5, 3) := by decide +kernel
theorem dX1_kept_4 : decode cX1_kept 4 = .ok (.iload_n 1, 1) := by decide +kernel
theorem dX1_kept_5 : decode cX1_kept 5 = .ok (.ireturn, 1) := by decide +kernel
theorem dX1_kept_6 : decode cX1_kept 6 = .ok (.aload_n 0, 1) := by decide +kernel
theorem dX1_kept_7 : decode cX1_kept 7 = .ok (.getfield 18, 3) := by decide +kernel
theorem dX1_kept_10 : decode cX1_kept 10 = .ok (.bipush 6, 2) := by decide +kernel
theorem dX1_kept_12 : decode cX1_kept 12 = .ok (.if_icmp .ge 16, 3) := by decide +kernel
theorem dX1_kept_15 : decode cX1_kept 15 = .ok (.aload_n 0, 1) := by decide +kernel
theorem dX1_kept_16 : decode cX1_kept 16 = .ok (.dup, 1) := by decide +kernel
theorem dX1_kept_17 : decode cX1_kept 17 = .ok (.getfield 18, 3) := by decide +kernel
theorem dX1_kept_20 : decode cX1_kept 20 = .ok (.iconst 1, 1) := by decide +kernel
theorem dX1_kept_21 : decode cX1_kept 21 = .ok (.iadd, 1) := by decide +kernel
theorem dX1_kept_22 : decode cX1_kept 22 = .ok (.putfield 18, 3) := by decide +kernel
theorem dX1_kept_25 : decode cX1_kept 25 = .ok (.goto 7, 3) := by decide +kernel
theorem dX1_kept_28 : decode cX1_kept 28 = .ok (.aload_n 0, 1) := by decide +kernel
theorem dX1_kept_29 : decode cX1_kept 29 = .ok (.invokevirtual 26, 3) := by decide +kernel
theorem dX1_kept_32 : decode cX1_kept 32 = .ok (.iload_n 1, 1) := by decide +kernel
theorem dX1_kept_33 : decode cX1_kept 33 = .ok (.ireturn, 1) := by decide +kernel
theorem dX1_dropOldest_0 : decode cX1_dropOldest 0 = .ok (.aload_n 0, 1) := by decide +kernel
theorem dX1_dropOldest_1 : decode cX1_dropOldest 1 = .ok (.getfield 11, 3) := by decide +kernel
theorem dX1_dropOldest_4 : decode cX1_dropOldest 4 = .ok (.iconst 0, 1) := by decide +kernel
theorem dX1_dropOldest_5 : decode cX1_dropOldest 5 = .ok (.aaload, 1) := by decide +kernel
theorem dX1_dropOldest_6 : decode cX1_dropOldest 6 = .ok (.astore_n 1, 1) := by decide +kernel
theorem dX1_dropOldest_7 : decode cX1_dropOldest 7 = .ok (.iconst 0, 1) := by decide +kernel
theorem dX1_dropOldest_8 : decode cX1_dropOldest 8 = .ok (.istore_n 2, 1) := by decide +kernel
theorem dX1_dropOldest_9 : decode cX1_dropOldest 9 = .ok (.iload_n 2, 1) := by decide +kernel
theorem dX1_dropOldest_10 : decode cX1_dropOldest 10 = .ok (.bipush 6, 2) := by decide +kernel
theorem dX1_dropOldest_12 : decode cX1_dropOldest 12 = .ok (.if_icmp .ge 23, 3) := by decide +kernel
theorem dX1_dropOldest_15 : decode cX1_dropOldest 15 = .ok (.aload_n 0, 1) := by decide +kernel
theorem dX1_dropOldest_16 : decode cX1_dropOldest 16 = .ok (.getfield 11, 3) := by decide +kernel
theorem dX1_dropOldest_19 : decode cX1_dropOldest 19 = .ok (.iload_n 2, 1) := by decide +kernel
theorem dX1_dropOldest_20 : decode cX1_dropOldest 20 = .ok (.aload_n 0, 1) := by decide +kernel
theorem dX1_dropOldest_21 : decode cX1_dropOldest 21 = .ok (.getfield 11, 3) := by decide +kernel
theorem dX1_dropOldest_24 : decode cX1_dropOldest 24 = .ok (.iload_n 2, 1) := by decide +kernel
theorem dX1_dropOldest_25 : decode cX1_dropOldest 25 = .ok (.iconst 1, 1) := by decide +kernel
theorem dX1_dropOldest_26 : decode cX1_dropOldest 26 = .ok (.iadd, 1) := by decide +kernel
theorem dX1_dropOldest_27 : decode cX1_dropOldest 27 = .ok (.aaload, 1) := by decide +kernel
theorem dX1_dropOldest_28 : decode cX1_dropOldest 28 = .ok (.aastore, 1) := by decide +kernel
theorem dX1_dropOldest_29 : decode cX1_dropOldest 29 = .ok (.iinc 2 1, 3) := by decide +kernel
theorem dX1_dropOldest_32 : decode cX1_dropOldest 32 = .ok (.goto (-23), 3) := by decide +kernel
theorem dX1_dropOldest_35 : decode cX1_dropOldest 35 = .ok (.aload_n 0, 1) := by decide +kernel
theorem dX1_dropOldest_36 : decode cX1_dropOldest 36 = .ok (.getfield 11, 3) := by decide +kernel
theorem dX1_dropOldest_39 : decode cX1_dropOldest 39 = .ok (.bipush 6, 2) := by decide +kernel
theorem dX1_dropOldest_41 : decode cX1_dropOldest 41 = .ok (.aload_n 1, 1) := by decide +kernel
theorem dX1_dropOldest_42 : decode cX1_dropOldest 42 = .ok (.aastore, 1) := by decide +kernel
theorem dX1_dropOldest_43 : decode cX1_dropOldest 43 = .ok (.return_, 1) := by decide +kernel
theorem dX1_takeBack_0 : decode cX1_takeBack 0 = .ok (.aload_n 0, 1) := by decide +kernel
theorem dX1_takeBack_1 : decode cX1_takeBack 1 = .ok (.getfield 18, 3) := by decide +kernel
theorem dX1_takeBack_4 : decode cX1_takeBack 4 = .ok (.ifCond .ne 6, 3) := by decide +kernel
theorem dX1_takeBack_7 : decode cX1_takeBack 7 = .ok (.bipush (-5), 2) := by decide +kernel
theorem dX1_takeBack_9 : decode cX1_takeBack 9 = .ok (.ireturn, 1) := by decide +kernel
theorem dX1_takeBack_10 : decode cX1_takeBack 10 = .ok (.aload_n 0, 1) := by decide +kernel
theorem dX1_takeBack_11 : decode cX1_takeBack 11 = .ok (.dup, 1) := by decide +kernel
theorem dX1_takeBack_12 : decode cX1_takeBack 12 = .ok (.getfield 18, 3) := by decide +kernel
theorem dX1_takeBack_15 : decode cX1_takeBack 15 = .ok (.iconst 1, 1) := by decide +kernel
theorem dX1_takeBack_16 : decode cX1_takeBack 16 = .ok (.isub, 1) := by decide +kernel
theorem dX1_takeBack_17 : decode cX1_takeBack 17 = .ok (.putfield 18, 3) := by decide +kernel
theorem dX1_takeBack_20 : decode cX1_takeBack 20 = .ok (.aload_n 1, 1) := by decide +kernel
theorem dX1_takeBack_21 : decode cX1_takeBack 21 = .ok (.aload_n 0, 1) := by decide +kernel
theorem dX1_takeBack_22 : decode cX1_takeBack 22 = .ok (.getfield 11, 3) := by decide +kernel
theorem dX1_takeBack_25 : decode cX1_takeBack 25 = .ok (.aload_n 0, 1) := by decide +kernel
theorem dX1_takeBack_26 : decode cX1_takeBack 26 = .ok (.getfield 18, 3) := by decide +kernel
theorem dX1_takeBack_29 : decode cX1_takeBack 29 = .ok (.aaload, 1) := by decide +kernel
theorem dX1_takeBack_30 : decode cX1_takeBack 30 = .ok (.invokevirtual 22, 3) := by decide +kernel
theorem dX1_takeBack_33 : decode cX1_takeBack 33 = .ok (.aload_n 0, 1) := by decide +kernel
theorem dX1_takeBack_34 : decode cX1_takeBack 34 = .ok (.getfield 18, 3) := by decide +kernel
theorem dX1_takeBack_37 : decode cX1_takeBack 37 = .ok (.ireturn, 1) := by decide +kernel
theorem dX2_init_0 : decode cX2_init 0 = .ok (.aload_n 0, 1) := by decide +kernel
theorem dX2_init_1 : decode cX2_init 1 = .ok (.invokespecial 3, 3) := by decide +kernel
theorem dX2_init_4 : decode cX2_init 4 = .ok (.aload_n 0, 1) := by decide +kernel
theorem dX2_init_5 : decode cX2_init 5 = .ok (.bipush 80, 2) := by decide +kernel
theorem dX2_init_7 : decode cX2_init 7 = .ok (.newarray .char, 2) := by decide +kernel
theorem dX2_init_9 : decode cX2_init 9 = .ok (.putfield 9, 3) := by decide +kernel
theorem dX2_init_12 : decode cX2_init 12 = .ok (.return_, 1) := by decide +kernel
theorem dX2_append_0 : decode cX2_append 0 = .ok (.lload_n 1, 1) := by decide +kernel
theorem dX2_append_1 : decode cX2_append 1 = .ok (.invokestatic 15, 3) := by decide +kernel
theorem dX2_append_4 : decode cX2_append 4 = .ok (.istore_n 3, 1) := by decide +kernel
theorem dX2_append_5 : decode cX2_append 5 = .ok (.iload_n 3, 1) := by decide +kernel
theorem dX2_append_6 : decode cX2_append 6 = .ok (.ifCond .ne 6, 3) := by decide +kernel
theorem dX2_append_9 : decode cX2_append 9 = .ok (.bipush (-2), 2) := by decide +kernel
theorem dX2_append_11 : decode cX2_append 11 = .ok (.ireturn, 1) := by decide +kernel
theorem dX2_append_12 : decode cX2_append 12 = .ok (.aload_n 0, 1) := by decide +kernel
theorem dX2_append_13 : decode cX2_append 13 = .ok (.getfield 19, 3) := by decide +kernel
theorem dX2_append_16 : decode cX2_append 16 = .ok (.iload_n 3, 1) := by decide +kernel
theorem dX2_append_17 : decode cX2_append 17 = .ok (.iadd, 1) := by decide +kernel
theorem dX2_append_18 : decode cX2_append 18 = .ok (.bipush 80, 2) := by decide +kernel
theorem dX2_append_20 : decode cX2_append 20 = .ok (.if_icmp .le 6, 3) := by decide +kernel
theorem dX2_append_23 : decode cX2_append 23 = .ok (.bipush (-4), 2) := by decide +kernel
theorem dX2_append_25 : decode cX2_append 25 = .ok (.ireturn, 1) := by decide +kernel
theorem dX2_append_26 : decode cX2_append 26 = .ok (.iconst 0, 1) := by decide +kernel
theorem dX2_append_27 : decode cX2_append 27 = .ok (.istore 4, 2) := by decide +kernel
theorem dX2_append_29 : decode cX2_append 29 = .ok (.iload 4, 2) := by decide +kernel
theorem dX2_append_31 : decode cX2_append 31 = .ok (.iload_n 3, 1) := by decide +kernel
theorem dX2_append_32 : decode cX2_append 32 = .ok (.if_icmp .ge 38, 3) := by decide +kernel
theorem dX2_append_35 : decode cX2_append 35 = .ok (.aload_n 0, 1) := by decide +kernel
theorem dX2_append_36 : decode cX2_append 36 = .ok (.getfield 9, 3) := by decide +kernel
theorem dX2_append_39 : decode cX2_append 39 = .ok (.aload_n 0, 1) := by decide +kernel
theorem dX2_append_40 : decode cX2_append 40 = .ok (.getfield 19, 3) := by decide +kernel
theorem dX2_append_43 : decode cX2_append 43 = .ok (.iload 4, 2) := by decide +kernel
theorem dX2_append_45 : decode cX2_append 45 = .ok (.iadd, 1) := by decide +kernel
theorem dX2_append_46 : decode cX2_append 46 = .ok (.lload_n 1, 1) := by decide +kernel
theorem dX2_append_47 : decode cX2_append 47 = .ok (.bipush 8, 2) := by decide +kernel
theorem dX2_append_49 : decode cX2_append 49 = .ok (.iload_n 3, 1) := by decide +kernel
theorem dX2_append_50 : decode cX2_append 50 = .ok (.iconst 1, 1) := by decide +kernel
theorem dX2_append_51 : decode cX2_append 51 = .ok (.isub, 1) := by decide +kernel
theorem dX2_append_52 : decode cX2_append 52 = .ok (.iload 4, 2) := by decide +kernel
theorem dX2_append_54 : decode cX2_append 54 = .ok (.isub, 1) := by decide +kernel
theorem dX2_append_55 : decode cX2_append 55 = .ok (.imul, 1) := by decide +kernel
theorem dX2_append_56 : decode cX2_append 56 = .ok (.lushr, 1) := by decide +kernel
theorem dX2_append_57 : decode cX2_append 57 = .ok (.ldc2_w 23, 3) := by decide +kernel
theorem dX2_append_60 : decode cX2_append 60 = .ok (.land, 1) := by decide +kernel
theorem dX2_append_61 : decode cX2_append 61 = .ok (.l2i, 1) := by decide +kernel
theorem dX2_append_62 : decode cX2_append 62 = .ok (.i2c, 1) := by decide +kernel
theorem dX2_append_63 : decode cX2_append 63 = .ok (.castore, 1) := by decide +kernel
theorem dX2_append_64 : decode cX2_append 64 = .ok (.iinc 4 1, 3) := by decide +kernel
theorem dX2_append_67 : decode cX2_append 67 = .ok (.goto (-38), 3) := by decide +kernel
theorem dX2_append_70 : decode cX2_append 70 = .ok (.aload_n 0, 1) := by decide +kernel
theorem dX2_append_71 : decode cX2_append 71 = .ok (.dup, 1) := by decide +kernel
theorem dX2_append_72 : decode cX2_append 72 = .ok (.getfield 19, 3) := by decide +kernel
theorem dX2_append_75 : decode cX2_append 75 = .ok (.iload_n 3, 1) := by decide +kernel
theorem dX2_append_76 : decode cX2_append 76 = .ok (.iadd, 1) := by decide +kernel
theorem dX2_append_77 : decode cX2_append 77 = .ok (.putfield 19, 3) := by decide +kernel
theorem dX2_append_80 : decode cX2_append 80 = .ok (.aload_n 0, 1) := by decide +kernel
theorem dX2_append_81 : decode cX2_append 81 = .ok (.getfield 19, 3) := by decide +kernel
theorem dX2_append_84 : decode cX2_append 84 = .ok (.ireturn, 1) := by decide +kernel
theorem dX2_manyTold_0 : decode cX2_manyTold 0 = .ok (.lload_n 0, 1) := by decide +kernel
theorem dX2_manyTold_1 : decode cX2_manyTold 1 = .ok (.lstore_n 2, 1) := by decide +kernel
theorem dX2_manyTold_2 : decode cX2_manyTold 2 = .ok (.iconst 0, 1) := by decide +kernel
theorem dX2_manyTold_3 : decode cX2_manyTold 3 = .ok (.istore 4, 2) := by decide +kernel
theorem dX2_manyTold_5 : decode cX2_manyTold 5 = .ok (.iconst 0, 1) := by decide +kernel
theorem dX2_manyTold_6 : decode cX2_manyTold 6 = .ok (.istore 5, 2) := by decide +kernel
theorem dX2_manyTold_8 : decode cX2_manyTold 8 = .ok (.iload 5, 2) := by decide +kernel
theorem dX2_manyTold_10 : decode cX2_manyTold 10 = .ok (.bipush 8, 2) := by decide +kernel
theorem dX2_manyTold_12 : decode cX2_manyTold 12 = .ok (.if_icmp .ge 50, 3) := by decide +kernel
theorem dX2_manyTold_15 : decode cX2_manyTold 15 = .ok (.lload_n 2, 1) := by decide +kernel
theorem dX2_manyTold_16 : decode cX2_manyTold 16 = .ok (.lconst 0, 1) := by decide +kernel
theorem dX2_manyTold_17 : decode cX2_manyTold 17 = .ok (.lcmp, 1) := by decide +kernel
theorem dX2_manyTold_18 : decode cX2_manyTold 18 = .ok (.ifCond .eq 44, 3) := by decide +kernel
theorem dX2_manyTold_21 : decode cX2_manyTold 21 = .ok (.lload_n 2, 1) := by decide +kernel
theorem dX2_manyTold_22 : decode cX2_manyTold 22 = .ok (.ldc2_w 23, 3) := by decide +kernel
theorem dX2_manyTold_25 : decode cX2_manyTold 25 = .ok (.land, 1) := by decide +kernel
theorem dX2_manyTold_26 : decode cX2_manyTold 26 = .ok (.lstore 6, 2) := by decide +kernel
theorem dX2_manyTold_28 : decode cX2_manyTold 28 = .ok (.lload 6, 2) := by decide +kernel
theorem dX2_manyTold_30 : decode cX2_manyTold 30 = .ok (.ldc2_w 25, 3) := by decide +kernel
theorem dX2_manyTold_33 : decode cX2_manyTold 33 = .ok (.lcmp, 1) := by decide +kernel
theorem dX2_manyTold_34 : decode cX2_manyTold 34 = .ok (.ifCond .lt 12, 3) := by decide +kernel
theorem dX2_manyTold_37 : decode cX2_manyTold 37 = .ok (.lload 6, 2) := by decide +kernel
theorem dX2_manyTold_39 : decode cX2_manyTold 39 = .ok (.ldc2_w 27, 3) := by decide +kernel
theorem dX2_manyTold_42 : decode cX2_manyTold 42 = .ok (.lcmp, 1) := by decide +kernel
theorem dX2_manyTold_43 : decode cX2_manyTold 43 = .ok (.ifCond .le 5, 3) := by decide +kernel
theorem dX2_manyTold_46 : decode cX2_manyTold 46 = .ok (.iconst 0, 1) := by decide +kernel
theorem dX2_manyTold_47 : decode cX2_manyTold 47 = .ok (.ireturn, 1) := by decide +kernel
theorem dX2_manyTold_48 : decode cX2_manyTold 48 = .ok (.iinc 4 1, 3) := by decide +kernel
theorem dX2_manyTold_51 : decode cX2_manyTold 51 = .ok (.lload_n 2, 1) := by decide +kernel
theorem dX2_manyTold_52 : decode cX2_manyTold 52 = .ok (.bipush 8, 2) := by decide +kernel
theorem dX2_manyTold_54 : decode cX2_manyTold 54 = .ok (.lushr, 1) := by decide +kernel
theorem dX2_manyTold_55 : decode cX2_manyTold 55 = .ok (.lstore_n 2, 1) := by decide +kernel
theorem dX2_manyTold_56 : decode cX2_manyTold 56 = .ok (.iinc 5 1, 3) := by decide +kernel
theorem dX2_manyTold_59 : decode cX2_manyTold 59 = .ok (.goto (-51), 3) := by decide +kernel
theorem dX2_manyTold_62 : decode cX2_manyTold 62 = .ok (.iload 4, 2) := by decide +kernel
theorem dX2_manyTold_64 : decode cX2_manyTold 64 = .ok (.ireturn, 1) := by decide +kernel
theorem dX2_clear_0 : decode cX2_clear 0 = .ok (.aload_n 0, 1) := by decide +kernel
theorem dX2_clear_1 : decode cX2_clear 1 = .ok (.getfield 19, 3) := by decide +kernel
theorem dX2_clear_4 : decode cX2_clear 4 = .ok (.istore_n 1, 1) := by decide +kernel
theorem dX2_clear_5 : decode cX2_clear 5 = .ok (.aload_n 0, 1) := by decide +kernel
theorem dX2_clear_6 : decode cX2_clear 6 = .ok (.iconst 0, 1) := by decide +kernel
theorem dX2_clear_7 : decode cX2_clear 7 = .ok (.putfield 19, 3) := by decide +kernel
theorem dX2_clear_10 : decode cX2_clear 10 = .ok (.iload_n 1, 1) := by decide +kernel
theorem dX2_clear_11 : decode cX2_clear 11 = .ok (.ireturn, 1) := by decide +kernel
theorem dX2_codeAt_0 : decode cX2_codeAt 0 = .ok (.iload_n 1, 1) := by decide +kernel
theorem dX2_codeAt_1 : decode cX2_codeAt 1 = .ok (.ifCond .lt 20, 3) := by decide +kernel
theorem dX2_codeAt_4 : decode cX2_codeAt 4 = .ok (.iload_n 1, 1) := by decide +kernel
theorem dX2_codeAt_5 : decode cX2_codeAt 5 = .ok (.aload_n 0, 1) := by decide +kernel
theorem dX2_codeAt_6 : decode cX2_codeAt 6 = .ok (.getfield 19, 3) := by decide +kernel
theorem dX2_codeAt_9 : decode cX2_codeAt 9 = .ok (.if_icmp .ge 12, 3) := by decide +kernel
theorem dX2_codeAt_12 : decode cX2_codeAt 12 = .ok (.aload_n 0, 1) := by decide +kernel
theorem dX2_codeAt_13 : decode cX2_codeAt 13 = .ok (.getfield 9, 3) := by decide +kernel
theorem dX2_codeAt_16 : decode cX2_codeAt 16 = .ok (.iload_n 1, 1) := by decide +kernel
theorem dX2_codeAt_17 : decode cX2_codeAt 17 = .ok (.caload, 1) := by decide +kernel
theorem dX2_codeAt_18 : decode cX2_codeAt 18 = .ok (.goto 4, 3) := by decide +kernel
theorem dX2_codeAt_21 : decode cX2_codeAt 21 = .ok (.iconst 0, 1) := by decide +kernel
theorem dX2_codeAt_22 : decode cX2_codeAt 22 = .ok (.ireturn, 1) := by decide +kernel
theorem dX2_endsOrder_0 : decode cX2_endsOrder 0 = .ok (.iload_n 1, 1) := by decide +kernel
theorem dX2_endsOrder_1 : decode cX2_endsOrder 1 = .ok (.aload_n 0, 1) := by decide +kernel
theorem dX2_endsOrder_2 : decode cX2_endsOrder 2 = .ok (.getfield 19, 3) := by decide +kernel
theorem dX2_endsOrder_5 : decode cX2_endsOrder 5 = .ok (.if_icmp .eq 13, 3) := by decide +kernel
theorem dX2_endsOrder_8 : decode cX2_endsOrder 8 = .ok (.aload_n 0, 1) := by decide +kernel
theorem dX2_endsOrder_9 : decode cX2_endsOrder 9 = .ok (.iload_n 1, 1) := by decide +kernel
theorem dX2_endsOrder_10 : decode cX2_endsOrder 10 = .ok (.invokevirtual 29, 3) := by decide +kernel
theorem dX2_endsOrder_13 : decode cX2_endsOrder 13 = .ok (.bipush 59, 2) := by decide +kernel
theorem dX2_endsOrder_15 : decode cX2_endsOrder 15 = .ok (.if_icmp .ne 7, 3) := by decide +kernel
theorem dX2_endsOrder_18 : decode cX2_endsOrder 18 = .ok (.iconst 1, 1) := by decide +kernel
theorem dX2_endsOrder_19 : decode cX2_endsOrder 19 = .ok (.goto 4, 3) := by decide +kernel
theorem dX2_endsOrder_22 : decode cX2_endsOrder 22 = .ok (.iconst 0, 1) := by decide +kernel
theorem dX2_endsOrder_23 : decode cX2_endsOrder 23 = .ok (.ireturn, 1) := by decide +kernel
theorem dX2_number_0 : decode cX2_number 0 = .ok (.iconst 0, 1) := by decide +kernel
theorem dX2_number_1 : decode cX2_number 1 = .ok (.istore_n 3, 1) := by decide +kernel
theorem dX2_number_2 : decode cX2_number 2 = .ok (.iload_n 1, 1) := by decide +kernel
theorem dX2_number_3 : decode cX2_number 3 = .ok (.istore 4, 2) := by decide +kernel
theorem dX2_number_5 : decode cX2_number 5 = .ok (.iload 4, 2) := by decide +kernel
theorem dX2_number_7 : decode cX2_number 7 = .ok (.iload_n 2, 1) := by decide +kernel
theorem dX2_number_8 : decode cX2_number 8 = .ok (.if_icmp .ge 24, 3) := by decide +kernel
theorem dX2_number_11 : decode cX2_number 11 = .ok (.iload_n 3, 1) := by decide +kernel
theorem dX2_number_12 : decode cX2_number 12 = .ok (.bipush 10, 2) := by decide +kernel
theorem dX2_number_14 : decode cX2_number 14 = .ok (.imul, 1) := by decide +kernel
theorem dX2_number_15 : decode cX2_number 15 = .ok (.aload_n 0, 1) := by decide +kernel
theorem dX2_number_16 : decode cX2_number 16 = .ok (.iload 4, 2) := by decide +kernel
theorem dX2_number_18 : decode cX2_number 18 = .ok (.invokevirtual 29, 3) := by decide +kernel
theorem dX2_number_21 : decode cX2_number 21 = .ok (.iadd, 1) := by decide +kernel
theorem dX2_number_22 : decode cX2_number 22 = .ok (.bipush 48, 2) := by decide +kernel
theorem dX2_number_24 : decode cX2_number 24 = .ok (.isub, 1) := by decide +kernel
theorem dX2_number_25 : decode cX2_number 25 = .ok (.istore_n 3, 1) := by decide +kernel
theorem dX2_number_26 : decode cX2_number 26 = .ok (.iinc 4 1, 3) := by decide +kernel
theorem dX2_number_29 : decode cX2_number 29 = .ok (.goto (-24), 3) := by decide +kernel
theorem dX2_number_32 : decode cX2_number 32 = .ok (.iload_n 3, 1) := by decide +kernel
theorem dX2_number_33 : decode cX2_number 33 = .ok (.ireturn, 1) := by decide +kernel
theorem dX2_firstFault_0 : decode cX2_firstFault 0 = .ok (.iconst 0, 1) := by decide +kernel
theorem dX2_firstFault_1 : decode cX2_firstFault 1 = .ok (.istore_n 1, 1) := by decide +kernel
theorem dX2_firstFault_2 : decode cX2_firstFault 2 = .ok (.iconst 0, 1) := by decide +kernel
theorem dX2_firstFault_3 : decode cX2_firstFault 3 = .ok (.istore_n 2, 1) := by decide +kernel
theorem dX2_firstFault_4 : decode cX2_firstFault 4 = .ok (.iload_n 2, 1) := by decide +kernel
theorem dX2_firstFault_5 : decode cX2_firstFault 5 = .ok (.aload_n 0, 1) := by decide +kernel
theorem dX2_firstFault_6 : decode cX2_firstFault 6 = .ok (.getfield 19, 3) := by decide +kernel
theorem dX2_firstFault_9 : decode cX2_firstFault 9 = .ok (.if_icmp .ge 27, 3) := by decide +kernel
theorem dX2_firstFault_12 : decode cX2_firstFault 12 = .ok (.iload_n 1, 1) := by decide +kernel
theorem dX2_firstFault_13 : decode cX2_firstFault 13 = .ok (.aload_n 0, 1) := by decide +kernel
theorem dX2_firstFault_14 : decode cX2_firstFault 14 = .ok (.getfield 9, 3) := by decide +kernel
theorem dX2_firstFault_17 : decode cX2_firstFault 17 = .ok (.iload_n 2, 1) := by decide +kernel
theorem dX2_firstFault_18 : decode cX2_firstFault 18 = .ok (.caload, 1) := by decide +kernel
theorem dX2_firstFault_19 : decode cX2_firstFault 19 = .ok (.invokestatic 33, 3) := by decide +kernel
theorem dX2_firstFault_22 : decode cX2_firstFault 22 = .ok (.istore_n 1, 1) := by decide +kernel
theorem dX2_firstFault_23 : decode cX2_firstFault 23 = .ok (.iload_n 1, 1) := by decide +kernel
theorem dX2_firstFault_24 : decode cX2_firstFault 24 = .ok (.iconst 5, 1) := by decide +kernel
theorem dX2_firstFault_25 : decode cX2_firstFault 25 = .ok (.if_icmp .ne 5, 3) := by decide +kernel
theorem dX2_firstFault_28 : decode cX2_firstFault 28 = .ok (.iload_n 2, 1) := by decide +kernel
theorem dX2_firstFault_29 : decode cX2_firstFault 29 = .ok (.ireturn, 1) := by decide +kernel
theorem dX2_firstFault_30 : decode cX2_firstFault 30 = .ok (.iinc 2 1, 3) := by decide +kernel
theorem dX2_firstFault_33 : decode cX2_firstFault 33 = .ok (.goto (-29), 3) := by decide +kernel
theorem dX2_firstFault_36 : decode cX2_firstFault 36 = .ok (.iload_n 1, 1) := by decide +kernel
theorem dX2_firstFault_37 : decode cX2_firstFault 37 = .ok (.iconst 3, 1) := by decide +kernel
theorem dX2_firstFault_38 : decode cX2_firstFault 38 = .ok (.if_icmp .eq 8, 3) := by decide +kernel
theorem dX2_firstFault_41 : decode cX2_firstFault 41 = .ok (.iload_n 1, 1) := by decide +kernel
theorem dX2_firstFault_42 : decode cX2_firstFault 42 = .ok (.iconst 4, 1) := by decide +kernel
theorem dX2_firstFault_43 : decode cX2_firstFault 43 = .ok (.if_icmp .ne 8, 3) := by decide +kernel
theorem dX2_firstFault_46 : decode cX2_firstFault 46 = .ok (.bipush (-6), 2) := by decide +kernel
theorem dX2_firstFault_48 : decode cX2_firstFault 48 = .ok (.goto 7, 3) := by decide +kernel
theorem dX2_firstFault_51 : decode cX2_firstFault 51 = .ok (.aload_n 0, 1) := by decide +kernel
theorem dX2_firstFault_52 : decode cX2_firstFault 52 = .ok (.getfield 19, 3) := by decide +kernel
theorem dX2_firstFault_55 : decode cX2_firstFault 55 = .ok (.ireturn, 1) := by decide +kernel
theorem dX2_dueBehind_0 : decode cX2_dueBehind 0 = .ok (.iload_n 0, 1) := by decide +kernel
theorem dX2_dueBehind_1 : decode cX2_dueBehind 1 = .ok (.tableswitch 100 0 3 #[31, 36, 54, 77], 31) := by decide +kernel
theorem dX2_dueBehind_32 : decode cX2_dueBehind 32 = .ok (.iload_n 1, 1) := by decide +kernel
theorem dX2_dueBehind_33 : decode cX2_dueBehind 33 = .ok (.invokestatic 37, 3) := by decide +kernel
theorem dX2_dueBehind_36 : decode cX2_dueBehind 36 = .ok (.ireturn, 1) := by decide +kernel
theorem dX2_dueBehind_37 : decode cX2_dueBehind 37 = .ok (.iload_n 1, 1) := by decide +kernel
theorem dX2_dueBehind_38 : decode cX2_dueBehind 38 = .ok (.bipush 65, 2) := by decide +kernel
theorem dX2_dueBehind_40 : decode cX2_dueBehind 40 = .ok (.if_icmp .lt 13, 3) := by decide +kernel
theorem dX2_dueBehind_43 : decode cX2_dueBehind 43 = .ok (.iload_n 1, 1) := by decide +kernel
theorem dX2_dueBehind_44 : decode cX2_dueBehind 44 = .ok (.bipush 72, 2) := by decide +kernel
theorem dX2_dueBehind_46 : decode cX2_dueBehind 46 = .ok (.if_icmp .gt 7, 3) := by decide +kernel
theorem dX2_dueBehind_49 : decode cX2_dueBehind 49 = .ok (.iconst 2, 1) := by decide +kernel
theorem dX2_dueBehind_50 : decode cX2_dueBehind 50 = .ok (.goto 4, 3) := by decide +kernel
theorem dX2_dueBehind_53 : decode cX2_dueBehind 53 = .ok (.iconst 5, 1) := by decide +kernel
theorem dX2_dueBehind_54 : decode cX2_dueBehind 54 = .ok (.ireturn, 1) := by decide +kernel
theorem dX2_dueBehind_55 : decode cX2_dueBehind 55 = .ok (.iload_n 1, 1) := by decide +kernel
theorem dX2_dueBehind_56 : decode cX2_dueBehind 56 = .ok (.bipush 48, 2) := by decide +kernel
theorem dX2_dueBehind_58 : decode cX2_dueBehind 58 = .ok (.if_icmp .ne 7, 3) := by decide +kernel
theorem dX2_dueBehind_61 : decode cX2_dueBehind 61 = .ok (.iconst 4, 1) := by decide +kernel
theorem dX2_dueBehind_62 : decode cX2_dueBehind 62 = .ok (.goto 15, 3) := by decide +kernel
theorem dX2_dueBehind_65 : decode cX2_dueBehind 65 = .ok (.iload_n 1, 1) := by decide +kernel
theorem dX2_dueBehind_66 : decode cX2_dueBehind 66 = .ok (.invokestatic 40, 3) := by decide +kernel
theorem dX2_dueBehind_69 : decode cX2_dueBehind 69 = .ok (.ifCond .eq 7, 3) := by decide +kernel
theorem dX2_dueBehind_72 : decode cX2_dueBehind 72 = .ok (.iconst 3, 1) := by decide +kernel
theorem dX2_dueBehind_73 : decode cX2_dueBehind 73 = .ok (.goto 4, 3) := by decide +kernel
theorem dX2_dueBehind_76 : decode cX2_dueBehind 76 = .ok (.iconst 5, 1) := by decide +kernel
theorem dX2_dueBehind_77 : decode cX2_dueBehind 77 = .ok (.ireturn, 1) := by decide +kernel
theorem dX2_dueBehind_78 : decode cX2_dueBehind 78 = .ok (.iload_n 1, 1) := by decide +kernel
theorem dX2_dueBehind_79 : decode cX2_dueBehind 79 = .ok (.invokestatic 40, 3) := by decide +kernel
theorem dX2_dueBehind_82 : decode cX2_dueBehind 82 = .ok (.ifCond .eq 7, 3) := by decide +kernel
theorem dX2_dueBehind_85 : decode cX2_dueBehind 85 = .ok (.iconst 4, 1) := by decide +kernel
theorem dX2_dueBehind_86 : decode cX2_dueBehind 86 = .ok (.goto 14, 3) := by decide +kernel
theorem dX2_dueBehind_89 : decode cX2_dueBehind 89 = .ok (.iload_n 1, 1) := by decide +kernel
theorem dX2_dueBehind_90 : decode cX2_dueBehind 90 = .ok (.bipush 59, 2) := by decide +kernel
theorem dX2_dueBehind_92 : decode cX2_dueBehind 92 = .ok (.if_icmp .ne 7, 3) := by decide +kernel
theorem dX2_dueBehind_95 : decode cX2_dueBehind 95 = .ok (.iconst 0, 1) := by decide +kernel
theorem dX2_dueBehind_96 : decode cX2_dueBehind 96 = .ok (.goto 4, 3) := by decide +kernel
theorem dX2_dueBehind_99 : decode cX2_dueBehind 99 = .ok (.iconst 5, 1) := by decide +kernel
theorem dX2_dueBehind_100 : decode cX2_dueBehind 100 = .ok (.ireturn, 1) := by decide +kernel
theorem dX2_dueBehind_101 : decode cX2_dueBehind 101 = .ok (.iload_n 1, 1) := by decide +kernel
theorem dX2_dueBehind_102 : decode cX2_dueBehind 102 = .ok (.bipush 59, 2) := by decide +kernel
theorem dX2_dueBehind_104 : decode cX2_dueBehind 104 = .ok (.if_icmp .ne 7, 3) := by decide +kernel
theorem dX2_dueBehind_107 : decode cX2_dueBehind 107 = .ok (.iconst 0, 1) := by decide +kernel
theorem dX2_dueBehind_108 : decode cX2_dueBehind 108 = .ok (.goto 4, 3) := by decide +kernel
theorem dX2_dueBehind_111 : decode cX2_dueBehind 111 = .ok (.iconst 5, 1) := by decide +kernel
theorem dX2_dueBehind_112 : decode cX2_dueBehind 112 = .ok (.ireturn, 1) := by decide +kernel
theorem dX2_dueBehindKind_0 : decode cX2_dueBehindKind 0 = .ok (.iload_n 0, 1) := by decide +kernel
theorem dX2_dueBehindKind_1 : decode cX2_dueBehindKind 1 = .ok (.tableswitch 53 112 119 #[47, 47, 49, 53, 51, 53, 53, 51], 47) := by decide +kernel
theorem dX2_dueBehindKind_48 : decode cX2_dueBehindKind 48 = .ok (.iconst 1, 1) := by decide +kernel
theorem dX2_dueBehindKind_49 : decode cX2_dueBehindKind 49 = .ok (.ireturn, 1) := by decide +kernel
theorem dX2_dueBehindKind_50 : decode cX2_dueBehindKind 50 = .ok (.iconst 4, 1) := by decide +kernel
theorem dX2_dueBehindKind_51 : decode cX2_dueBehindKind 51 = .ok (.ireturn, 1) := by decide +kernel
theorem dX2_dueBehindKind_52 : decode cX2_dueBehindKind 52 = .ok (.iconst 2, 1) := by decide +kernel
theorem dX2_dueBehindKind_53 : decode cX2_dueBehindKind 53 = .ok (.ireturn, 1) := by decide +kernel
theorem dX2_dueBehindKind_54 : decode cX2_dueBehindKind 54 = .ok (.iconst 5, 1) := by decide +kernel
theorem dX2_dueBehindKind_55 : decode cX2_dueBehindKind 55 = .ok (.ireturn, 1) := by decide +kernel
theorem dX2_isDigit_0 : decode cX2_isDigit 0 = .ok (.iload_n 0, 1) := by decide +kernel
theorem dX2_isDigit_1 : decode cX2_isDigit 1 = .ok (.bipush 48, 2) := by decide +kernel
theorem dX2_isDigit_3 : decode cX2_isDigit 3 = .ok (.if_icmp .lt 13, 3) := by decide +kernel
theorem dX2_isDigit_6 : decode cX2_isDigit 6 = .ok (.iload_n 0, 1) := by decide +kernel
theorem dX2_isDigit_7 : decode cX2_isDigit 7 = .ok (.bipush 57, 2) := by decide +kernel
theorem dX2_isDigit_9 : decode cX2_isDigit 9 = .ok (.if_icmp .gt 7, 3) := by decide +kernel
theorem dX2_isDigit_12 : decode cX2_isDigit 12 = .ok (.iconst 1, 1) := by decide +kernel
theorem dX2_isDigit_13 : decode cX2_isDigit 13 = .ok (.goto 4, 3) := by decide +kernel
theorem dX2_isDigit_16 : decode cX2_isDigit 16 = .ok (.iconst 0, 1) := by decide +kernel
theorem dX2_isDigit_17 : decode cX2_isDigit 17 = .ok (.ireturn, 1) := by decide +kernel
theorem dX3_init_0 : decode cX3_init 0 = .ok (.aload_n 0, 1) := by decide +kernel
theorem dX3_init_1 : decode cX3_init 1 = .ok (.invokespecial 3, 3) := by decide +kernel
theorem dX3_init_4 : decode cX3_init 4 = .ok (.aload_n 0, 1) := by decide +kernel
theorem dX3_init_5 : decode cX3_init 5 = .ok (.bipush 8, 2) := by decide +kernel
theorem dX3_init_7 : decode cX3_init 7 = .ok (.newarray .int, 2) := by decide +kernel
theorem dX3_init_9 : decode cX3_init 9 = .ok (.putfield 9, 3) := by decide +kernel
theorem dX3_init_12 : decode cX3_init 12 = .ok (.aload_n 0, 1) := by decide +kernel
theorem dX3_init_13 : decode cX3_init 13 = .ok (.bipush 8, 2) := by decide +kernel
theorem dX3_init_15 : decode cX3_init 15 = .ok (.newarray .int, 2) := by decide +kernel
theorem dX3_init_17 : decode cX3_init 17 = .ok (.putfield 15, 3) := by decide +kernel
theorem dX3_init_20 : decode cX3_init 20 = .ok (.aload_n 0, 1) := by decide +kernel
theorem dX3_init_21 : decode cX3_init 21 = .ok (.bipush 64, 2) := by decide +kernel
theorem dX3_init_23 : decode cX3_init 23 = .ok (.newarray .int, 2) := by decide +kernel
theorem dX3_init_25 : decode cX3_init 25 = .ok (.putfield 18, 3) := by decide +kernel
theorem dX3_init_28 : decode cX3_init 28 = .ok (.return_, 1) := by decide +kernel
theorem dX3_copyFrom_0 : decode cX3_copyFrom 0 = .ok (.aload_n 0, 1) := by decide +kernel
theorem dX3_copyFrom_1 : decode cX3_copyFrom 1 = .ok (.aload_n 1, 1) := by decide +kernel
theorem dX3_copyFrom_2 : decode cX3_copyFrom 2 = .ok (.getfield 21, 3) := by decide +kernel
theorem dX3_copyFrom_5 : decode cX3_copyFrom 5 = .ok (.putfield 21, 3) := by decide +kernel
theorem dX3_copyFrom_8 : decode cX3_copyFrom 8 = .ok (.aload_n 1, 1) := by decide +kernel
theorem dX3_copyFrom_9 : decode cX3_copyFrom 9 = .ok (.getfield 9, 3) := by decide +kernel
theorem dX3_copyFrom_12 : decode cX3_copyFrom 12 = .ok (.iconst 0, 1) := by decide +kernel
theorem dX3_copyFrom_13 : decode cX3_copyFrom 13 = .ok (.aload_n 0, 1) := by decide +kernel
theorem dX3_copyFrom_14 : decode cX3_copyFrom 14 = .ok (.getfield 9, 3) := by decide +kernel
theorem dX3_copyFrom_17 : decode cX3_copyFrom 17 = .ok (.iconst 0, 1) := by decide +kernel
theorem dX3_copyFrom_18 : decode cX3_copyFrom 18 = .ok (.bipush 8, 2) := by decide +kernel
theorem dX3_copyFrom_20 : decode cX3_copyFrom 20 = .ok (.invokestatic 25, 3) := by decide +kernel
theorem dX3_copyFrom_23 : decode cX3_copyFrom 23 = .ok (.aload_n 1, 1) := by decide +kernel
theorem dX3_copyFrom_24 : decode cX3_copyFrom 24 = .ok (.getfield 15, 3) := by decide +kernel
theorem dX3_copyFrom_27 : decode cX3_copyFrom 27 = .ok (.iconst 0, 1) := by decide +kernel
theorem dX3_copyFrom_28 : decode cX3_copyFrom 28 = .ok (.aload_n 0, 1) := by decide +kernel
theorem dX3_copyFrom_29 : decode cX3_copyFrom 29 = .ok (.getfield 15, 3) := by decide +kernel
theorem dX3_copyFrom_32 : decode cX3_copyFrom 32 = .ok (.iconst 0, 1) := by decide +kernel
theorem dX3_copyFrom_33 : decode cX3_copyFrom 33 = .ok (.bipush 8, 2) := by decide +kernel
theorem dX3_copyFrom_35 : decode cX3_copyFrom 35 = .ok (.invokestatic 25, 3) := by decide +kernel
theorem dX3_copyFrom_38 : decode cX3_copyFrom 38 = .ok (.aload_n 1, 1) := by decide +kernel
theorem dX3_copyFrom_39 : decode cX3_copyFrom 39 = .ok (.getfield 18, 3) := by decide +kernel
theorem dX3_copyFrom_42 : decode cX3_copyFrom 42 = .ok (.iconst 0, 1) := by decide +kernel
theorem dX3_copyFrom_43 : decode cX3_copyFrom 43 = .ok (.aload_n 0, 1) := by decide +kernel
theorem dX3_copyFrom_44 : decode cX3_copyFrom 44 = .ok (.getfield 18, 3) := by decide +kernel
theorem dX3_copyFrom_47 : decode cX3_copyFrom 47 = .ok (.iconst 0, 1) := by decide +kernel
theorem dX3_copyFrom_48 : decode cX3_copyFrom 48 = .ok (.bipush 64, 2) := by decide +kernel
theorem dX3_copyFrom_50 : decode cX3_copyFrom 50 = .ok (.invokestatic 25, 3) := by decide +kernel
theorem dX3_copyFrom_53 : decode cX3_copyFrom 53 = .ok (.return_, 1) := by decide +kernel
theorem dX3_has_0 : decode cX3_has 0 = .ok (.iload_n 1, 1) := by decide +kernel
theorem dX3_has_1 : decode cX3_has 1 = .ok (.ifCond .lt 15, 3) := by decide +kernel
theorem dX3_has_4 : decode cX3_has 4 = .ok (.iload_n 1, 1) := by decide +kernel
theorem dX3_has_5 : decode cX3_has 5 = .ok (.aload_n 0, 1) := by decide +kernel
theorem dX3_has_6 : decode cX3_has 6 = .ok (.getfield 21, 3) := by decide +kernel
theorem dX3_has_9 : decode cX3_has 9 = .ok (.if_icmp .ge 7, 3) := by decide +kernel
theorem dX3_has_12 : decode cX3_has 12 = .ok (.iconst 1, 1) := by decide +kernel
theorem dX3_has_13 : decode cX3_has 13 = .ok (.goto 4, 3) := by decide +kernel
theorem dX3_has_16 : decode cX3_has 16 = .ok (.iconst 0, 1) := by decide +kernel
theorem dX3_has_17 : decode cX3_has 17 = .ok (.ireturn, 1) := by decide +kernel
theorem dX3_sizeOf_0 : decode cX3_sizeOf 0 = .ok (.aload_n 0, 1) := by decide +kernel
theorem dX3_sizeOf_1 : decode cX3_sizeOf 1 = .ok (.iload_n 1, 1) := by decide +kernel
theorem dX3_sizeOf_2 : decode cX3_sizeOf 2 = .ok (.invokevirtual 31, 3) := by decide +kernel
theorem dX3_sizeOf_5 : decode cX3_sizeOf 5 = .ok (.ifCond .eq 12, 3) := by decide +kernel
theorem dX3_sizeOf_8 : decode cX3_sizeOf 8 = .ok (.aload_n 0, 1) := by decide +kernel
theorem dX3_sizeOf_9 : decode cX3_sizeOf 9 = .ok (.getfield 15, 3) := by decide +kernel
theorem dX3_sizeOf_12 : decode cX3_sizeOf 12 = .ok (.iload_n 1, 1) := by decide +kernel
theorem dX3_sizeOf_13 : decode cX3_sizeOf 13 = .ok (.iaload, 1) := by decide +kernel
theorem dX3_sizeOf_14 : decode cX3_sizeOf 14 = .ok (.goto 4, 3) := by decide +kernel
theorem dX3_sizeOf_17 : decode cX3_sizeOf 17 = .ok (.iconst 0, 1) := by decide +kernel
theorem dX3_sizeOf_18 : decode cX3_sizeOf 18 = .ok (.ireturn, 1) := by decide +kernel
theorem dX3_wagonOf_0 : decode cX3_wagonOf 0 = .ok (.aload_n 0, 1) := by decide +kernel
theorem dX3_wagonOf_1 : decode cX3_wagonOf 1 = .ok (.iload_n 1, 1) := by decide +kernel
theorem dX3_wagonOf_2 : decode cX3_wagonOf 2 = .ok (.invokevirtual 31, 3) := by decide +kernel
theorem dX3_wagonOf_5 : decode cX3_wagonOf 5 = .ok (.ifCond .eq 21, 3) := by decide +kernel
theorem dX3_wagonOf_8 : decode cX3_wagonOf 8 = .ok (.iload_n 2, 1) := by decide +kernel
theorem dX3_wagonOf_9 : decode cX3_wagonOf 9 = .ok (.ifCond .lt 17, 3) := by decide +kernel
theorem dX3_wagonOf_12 : decode cX3_wagonOf 12 = .ok (.iload_n 2, 1) := by decide +kernel
theorem dX3_wagonOf_13 : decode cX3_wagonOf 13 = .ok (.aload_n 0, 1) := by decide +kernel
theorem dX3_wagonOf_14 : decode cX3_wagonOf 14 = .ok (.getfield 15, 3) := by decide +kernel
theorem dX3_wagonOf_17 : decode cX3_wagonOf 17 = .ok (.iload_n 1, 1) := by decide +kernel
theorem dX3_wagonOf_18 : decode cX3_wagonOf 18 = .ok (.iaload, 1) := by decide +kernel
theorem dX3_wagonOf_19 : decode cX3_wagonOf 19 = .ok (.if_icmp .ge 7, 3) := by decide +kernel
theorem dX3_wagonOf_22 : decode cX3_wagonOf 22 = .ok (.iconst 1, 1) := by decide +kernel
theorem dX3_wagonOf_23 : decode cX3_wagonOf 23 = .ok (.goto 4, 3) := by decide +kernel
theorem dX3_wagonOf_26 : decode cX3_wagonOf 26 = .ok (.iconst 0, 1) := by decide +kernel
theorem dX3_wagonOf_27 : decode cX3_wagonOf 27 = .ok (.istore_n 3, 1) := by decide +kernel
theorem dX3_wagonOf_28 : decode cX3_wagonOf 28 = .ok (.iload_n 3, 1) := by decide +kernel
theorem dX3_wagonOf_29 : decode cX3_wagonOf 29 = .ok (.ifCond .eq 17, 3) := by decide +kernel
theorem dX3_wagonOf_32 : decode cX3_wagonOf 32 = .ok (.aload_n 0, 1) := by decide +kernel
theorem dX3_wagonOf_33 : decode cX3_wagonOf 33 = .ok (.getfield 18, 3) := by decide +kernel
theorem dX3_wagonOf_36 : decode cX3_wagonOf 36 = .ok (.iload_n 1, 1) := by decide +kernel
theorem dX3_wagonOf_37 : decode cX3_wagonOf 37 = .ok (.bipush 8, 2) := by decide +kernel
theorem dX3_wagonOf_39 : decode cX3_wagonOf 39 = .ok (.imul, 1) := by decide +kernel
theorem dX3_wagonOf_40 : decode cX3_wagonOf 40 = .ok (.iload_n 2, 1) := by decide +kernel
theorem dX3_wagonOf_41 : decode cX3_wagonOf 41 = .ok (.iadd, 1) := by decide +kernel
theorem dX3_wagonOf_42 : decode cX3_wagonOf 42 = .ok (.iaload, 1) := by decide +kernel
theorem dX3_wagonOf_43 : decode cX3_wagonOf 43 = .ok (.goto 5, 3) := by decide +kernel
theorem dX3_wagonOf_46 : decode cX3_wagonOf 46 = .ok (.bipush (-6), 2) := by decide +kernel
theorem dX3_wagonOf_48 : decode cX3_wagonOf 48 = .ok (.ireturn, 1) := by decide +kernel
theorem dX3_trainOf_0 : decode cX3_trainOf 0 = .ok (.iconst 0, 1) := by decide +kernel
theorem dX3_trainOf_1 : decode cX3_trainOf 1 = .ok (.istore_n 2, 1) := by decide +kernel
theorem dX3_trainOf_2 : decode cX3_trainOf 2 = .ok (.iload_n 2, 1) := by decide +kernel
theorem dX3_trainOf_3 : decode cX3_trainOf 3 = .ok (.aload_n 0, 1) := by decide +kernel
theorem dX3_trainOf_4 : decode cX3_trainOf 4 = .ok (.getfield 21, 3) := by decide +kernel
theorem dX3_trainOf_7 : decode cX3_trainOf 7 = .ok (.if_icmp .ge 44, 3) := by decide +kernel
theorem dX3_trainOf_10 : decode cX3_trainOf 10 = .ok (.iconst 0, 1) := by decide +kernel
theorem dX3_trainOf_11 : decode cX3_trainOf 11 = .ok (.istore_n 3, 1) := by decide +kernel
theorem dX3_trainOf_12 : decode cX3_trainOf 12 = .ok (.iload_n 3, 1) := by decide +kernel
theorem dX3_trainOf_13 : decode cX3_trainOf 13 = .ok (.aload_n 0, 1) := by decide +kernel
theorem dX3_trainOf_14 : decode cX3_trainOf 14 = .ok (.getfield 15, 3) := by decide +kernel
theorem dX3_trainOf_17 : decode cX3_trainOf 17 = .ok (.iload_n 2, 1) := by decide +kernel
theorem dX3_trainOf_18 : decode cX3_trainOf 18 = .ok (.iaload, 1) := by decide +kernel
theorem dX3_trainOf_19 : decode cX3_trainOf 19 = .ok (.if_icmp .ge 26, 3) := by decide +kernel
theorem dX3_trainOf_22 : decode cX3_trainOf 22 = .ok (.aload_n 0, 1) := by decide +kernel
theorem dX3_trainOf_23 : decode cX3_trainOf 23 = .ok (.getfield 18, 3) := by decide +kernel
theorem dX3_trainOf_26 : decode cX3_trainOf 26 = .ok (.iload_n 2, 1) := by decide +kernel
theorem dX3_trainOf_27 : decode cX3_trainOf 27 = .ok (.bipush 8, 2) := by decide +kernel
theorem dX3_trainOf_29 : decode cX3_trainOf 29 = .ok (.imul, 1) := by decide +kernel
theorem dX3_trainOf_30 : decode cX3_trainOf 30 = .ok (.iload_n 3, 1) := by decide +kernel
theorem dX3_trainOf_31 : decode cX3_trainOf 31 = .ok (.iadd, 1) := by decide +kernel
theorem dX3_trainOf_32 : decode cX3_trainOf 32 = .ok (.iaload, 1) := by decide +kernel
theorem dX3_trainOf_33 : decode cX3_trainOf 33 = .ok (.iload_n 1, 1) := by decide +kernel
theorem dX3_trainOf_34 : decode cX3_trainOf 34 = .ok (.if_icmp .ne 5, 3) := by decide +kernel
theorem dX3_trainOf_37 : decode cX3_trainOf 37 = .ok (.iload_n 2, 1) := by decide +kernel
theorem dX3_trainOf_38 : decode cX3_trainOf 38 = .ok (.ireturn, 1) := by decide +kernel
theorem dX3_trainOf_39 : decode cX3_trainOf 39 = .ok (.iinc 3 1, 3) := by decide +kernel
theorem dX3_trainOf_42 : decode cX3_trainOf 42 = .ok (.goto (-30), 3) := by decide +kernel
theorem dX3_trainOf_45 : decode cX3_trainOf 45 = .ok (.iinc 2 1, 3) := by decide +kernel
theorem dX3_trainOf_48 : decode cX3_trainOf 48 = .ok (.goto (-46), 3) := by decide +kernel
theorem dX3_trainOf_51 : decode cX3_trainOf 51 = .ok (.bipush (-6), 2) := by decide +kernel
theorem dX3_trainOf_53 : decode cX3_trainOf 53 = .ok (.ireturn, 1) := by decide +kernel
theorem dX3_add_0 : decode cX3_add 0 = .ok (.aload_n 0, 1) := by decide +kernel
theorem dX3_add_1 : decode cX3_add 1 = .ok (.getfield 9, 3) := by decide +kernel
theorem dX3_add_4 : decode cX3_add 4 = .ok (.aload_n 0, 1) := by decide +kernel
theorem dX3_add_5 : decode cX3_add 5 = .ok (.getfield 21, 3) := by decide +kernel
theorem dX3_add_8 : decode cX3_add 8 = .ok (.iload_n 3, 1) := by decide +kernel
theorem dX3_add_9 : decode cX3_add 9 = .ok (.iastore, 1) := by decide +kernel
theorem dX3_add_10 : decode cX3_add 10 = .ok (.aload_n 0, 1) := by decide +kernel
theorem dX3_add_11 : decode cX3_add 11 = .ok (.getfield 15, 3) := by decide +kernel
theorem dX3_add_14 : decode cX3_add 14 = .ok (.aload_n 0, 1) := by decide +kernel
theorem dX3_add_15 : decode cX3_add 15 = .ok (.getfield 21, 3) := by decide +kernel
theorem dX3_add_18 : decode cX3_add 18 = .ok (.iload_n 2, 1) := by decide +kernel
theorem dX3_add_19 : decode cX3_add 19 = .ok (.iastore, 1) := by decide +kernel
theorem dX3_add_20 : decode cX3_add 20 = .ok (.aload_n 1, 1) := by decide +kernel
theorem dX3_add_21 : decode cX3_add 21 = .ok (.iconst 0, 1) := by decide +kernel
theorem dX3_add_22 : decode cX3_add 22 = .ok (.aload_n 0, 1) := by decide +kernel
theorem dX3_add_23 : decode cX3_add 23 = .ok (.getfield 18, 3) := by decide +kernel
theorem dX3_add_26 : decode cX3_add 26 = .ok (.aload_n 0, 1) := by decide +kernel
theorem dX3_add_27 : decode cX3_add 27 = .ok (.getfield 21, 3) := by decide +kernel
theorem dX3_add_30 : decode cX3_add 30 = .ok (.bipush 8, 2) := by decide +kernel
theorem dX3_add_32 : decode cX3_add 32 = .ok (.imul, 1) := by decide +kernel
theorem dX3_add_33 : decode cX3_add 33 = .ok (.iload_n 2, 1) := by decide +kernel
theorem dX3_add_34 : decode cX3_add 34 = .ok (.invokestatic 25, 3) := by decide +kernel
theorem dX3_add_37 : decode cX3_add 37 = .ok (.aload_n 0, 1) := by decide +kernel
theorem dX3_add_38 : decode cX3_add 38 = .ok (.dup, 1) := by decide +kernel
theorem dX3_add_39 : decode cX3_add 39 = .ok (.getfield 21, 3) := by decide +kernel
theorem dX3_add_42 : decode cX3_add 42 = .ok (.iconst 1, 1) := by decide +kernel
theorem dX3_add_43 : decode cX3_add 43 = .ok (.iadd, 1) := by decide +kernel
theorem dX3_add_44 : decode cX3_add 44 = .ok (.putfield 21, 3) := by decide +kernel
theorem dX3_add_47 : decode cX3_add 47 = .ok (.aload_n 0, 1) := by decide +kernel
theorem dX3_add_48 : decode cX3_add 48 = .ok (.getfield 21, 3) := by decide +kernel
theorem dX3_add_51 : decode cX3_add 51 = .ok (.iconst 1, 1) := by decide +kernel
theorem dX3_add_52 : decode cX3_add 52 = .ok (.isub, 1) := by decide +kernel
theorem dX3_add_53 : decode cX3_add 53 = .ok (.ireturn, 1) := by decide +kernel
theorem dX3_remove_0 : decode cX3_remove 0 = .ok (.aload_n 0, 1) := by decide +kernel
theorem dX3_remove_1 : decode cX3_remove 1 = .ok (.dup, 1) := by decide +kernel
theorem dX3_remove_2 : decode cX3_remove 2 = .ok (.getfield 21, 3) := by decide +kernel
theorem dX3_remove_5 : decode cX3_remove 5 = .ok (.iconst 1, 1) := by decide +kernel
theorem dX3_remove_6 : decode cX3_remove 6 = .ok (.isub, 1) := by decide +kernel
theorem dX3_remove_7 : decode cX3_remove 7 = .ok (.putfield 21, 3) := by decide +kernel
theorem dX3_remove_10 : decode cX3_remove 10 = .ok (.iload_n 1, 1) := by decide +kernel
theorem dX3_remove_11 : decode cX3_remove 11 = .ok (.istore_n 2, 1) := by decide +kernel
theorem dX3_remove_12 : decode cX3_remove 12 = .ok (.iload_n 2, 1) := by decide +kernel
theorem dX3_remove_13 : decode cX3_remove 13 = .ok (.aload_n 0, 1) := by decide +kernel
theorem dX3_remove_14 : decode cX3_remove 14 = .ok (.getfield 21, 3) := by decide +kernel
theorem dX3_remove_17 : decode cX3_remove 17 = .ok (.if_icmp .ge 60, 3) := by decide +kernel
theorem dX3_remove_20 : decode cX3_remove 20 = .ok (.aload_n 0, 1) := by decide +kernel
theorem dX3_remove_21 : decode cX3_remove 21 = .ok (.getfield 9, 3) := by decide +kernel
theorem dX3_remove_24 : decode cX3_remove 24 = .ok (.iload_n 2, 1) := by decide +kernel
theorem dX3_remove_25 : decode cX3_remove 25 = .ok (.aload_n 0, 1) := by decide +kernel
theorem dX3_remove_26 : decode cX3_remove 26 = .ok (.getfield 9, 3) := by decide +kernel
theorem dX3_remove_29 : decode cX3_remove 29 = .ok (.iload_n 2, 1) := by decide +kernel
theorem dX3_remove_30 : decode cX3_remove 30 = .ok (.iconst 1, 1) := by decide +kernel
theorem dX3_remove_31 : decode cX3_remove 31 = .ok (.iadd, 1) := by decide +kernel
theorem dX3_remove_32 : decode cX3_remove 32 = .ok (.iaload, 1) := by decide +kernel
theorem dX3_remove_33 : decode cX3_remove 33 = .ok (.iastore, 1) := by decide +kernel
theorem dX3_remove_34 : decode cX3_remove 34 = .ok (.aload_n 0, 1) := by decide +kernel
theorem dX3_remove_35 : decode cX3_remove 35 = .ok (.getfield 15, 3) := by decide +kernel
theorem dX3_remove_38 : decode cX3_remove 38 = .ok (.iload_n 2, 1) := by decide +kernel
theorem dX3_remove_39 : decode cX3_remove 39 = .ok (.aload_n 0, 1) := by decide +kernel
theorem dX3_remove_40 : decode cX3_remove 40 = .ok (.getfield 15, 3) := by decide +kernel
theorem dX3_remove_43 : decode cX3_remove 43 = .ok (.iload_n 2, 1) := by decide +kernel
theorem dX3_remove_44 : decode cX3_remove 44 = .ok (.iconst 1, 1) := by decide +kernel
theorem dX3_remove_45 : decode cX3_remove 45 = .ok (.iadd, 1) := by decide +kernel
theorem dX3_remove_46 : decode cX3_remove 46 = .ok (.iaload, 1) := by decide +kernel
theorem dX3_remove_47 : decode cX3_remove 47 = .ok (.iastore, 1) := by decide +kernel
theorem dX3_remove_48 : decode cX3_remove 48 = .ok (.aload_n 0, 1) := by decide +kernel
theorem dX3_remove_49 : decode cX3_remove 49 = .ok (.getfield 18, 3) := by decide +kernel
theorem dX3_remove_52 : decode cX3_remove 52 = .ok (.iload_n 2, 1) := by decide +kernel
theorem dX3_remove_53 : decode cX3_remove 53 = .ok (.iconst 1, 1) := by decide +kernel
theorem dX3_remove_54 : decode cX3_remove 54 = .ok (.iadd, 1) := by decide +kernel
theorem dX3_remove_55 : decode cX3_remove 55 = .ok (.bipush 8, 2) := by decide +kernel
theorem dX3_remove_57 : decode cX3_remove 57 = .ok (.imul, 1) := by decide +kernel
theorem dX3_remove_58 : decode cX3_remove 58 = .ok (.aload_n 0, 1) := by decide +kernel
theorem dX3_remove_59 : decode cX3_remove 59 = .ok (.getfield 18, 3) := by decide +kernel
theorem dX3_remove_62 : decode cX3_remove 62 = .ok (.iload_n 2, 1) := by decide +kernel
theorem dX3_remove_63 : decode cX3_remove 63 = .ok (.bipush 8, 2) := by decide +kernel
theorem dX3_remove_65 : decode cX3_remove 65 = .ok (.imul, 1) := by decide +kernel
theorem dX3_remove_66 : decode cX3_remove 66 = .ok (.bipush 8, 2) := by decide +kernel
theorem dX3_remove_68 : decode cX3_remove 68 = .ok (.invokestatic 25, 3) := by decide +kernel
theorem dX3_remove_71 : decode cX3_remove 71 = .ok (.iinc 2 1, 3) := by decide +kernel
theorem dX3_remove_74 : decode cX3_remove 74 = .ok (.goto (-62), 3) := by decide +kernel
theorem dX3_remove_77 : decode cX3_remove 77 = .ok (.return_, 1) := by decide +kernel
theorem dX4_init_0 : decode cX4_init 0 = .ok (.aload_n 0, 1) := by decide +kernel
theorem dX4_init_1 : decode cX4_init 1 = .ok (.invokespecial 3, 3) := by decide +kernel
theorem dX4_init_4 : decode cX4_init 4 = .ok (.aload_n 0, 1) := by decide +kernel
theorem dX4_init_5 : decode cX4_init 5 = .ok (.new 9, 3) := by decide +kernel
theorem dX4_init_8 : decode cX4_init 8 = .ok (.dup, 1) := by decide +kernel
theorem dX4_init_9 : decode cX4_init 9 = .ok (.invokespecial 11, 3) := by decide +kernel
theorem dX4_init_12 : decode cX4_init 12 = .ok (.putfield 12, 3) := by decide +kernel
theorem dX4_init_15 : decode cX4_init 15 = .ok (.return_, 1) := by decide +kernel
theorem dX4_fewestPulls_0 : decode cX4_fewestPulls 0 = .ok (.aload_n 0, 1) := by decide +kernel
theorem dX4_fewestPulls_1 : decode cX4_fewestPulls 1 = .ok (.getfield 12, 3) := by decide +kernel
theorem dX4_fewestPulls_4 : decode cX4_fewestPulls 4 = .ok (.aload_n 1, 1) := by decide +kernel
theorem dX4_fewestPulls_5 : decode cX4_fewestPulls 5 = .ok (.invokevirtual 18, 3) := by decide +kernel
theorem dX4_fewestPulls_8 : decode cX4_fewestPulls 8 = .ok (.aload_n 0, 1) := by decide +kernel
theorem dX4_fewestPulls_9 : decode cX4_fewestPulls 9 = .ok (.getfield 12, 3) := by decide +kernel
theorem dX4_fewestPulls_12 : decode cX4_fewestPulls 12 = .ok (.iload_n 2, 1) := by decide +kernel
theorem dX4_fewestPulls_13 : decode cX4_fewestPulls 13 = .ok (.invokevirtual 22, 3) := by decide +kernel
theorem dX4_fewestPulls_16 : decode cX4_fewestPulls 16 = .ok (.aload_n 0, 1) := by decide +kernel
theorem dX4_fewestPulls_17 : decode cX4_fewestPulls 17 = .ok (.getfield 12, 3) := by decide +kernel
theorem dX4_fewestPulls_20 : decode cX4_fewestPulls 20 = .ok (.getfield 26, 3) := by decide +kernel
theorem dX4_fewestPulls_23 : decode cX4_fewestPulls 23 = .ok (.bipush 8, 2) := by decide +kernel
theorem dX4_fewestPulls_25 : decode cX4_fewestPulls 25 = .ok (.invokevirtual 30, 3) := by decide +kernel
theorem dX4_fewestPulls_28 : decode cX4_fewestPulls 28 = .ok (.if_icmp .eq 6, 3) := by decide +kernel
theorem dX4_fewestPulls_31 : decode cX4_fewestPulls 31 = .ok (.bipush (-6), 2) := by decide +kernel
theorem dX4_fewestPulls_33 : decode cX4_fewestPulls 33 = .ok (.ireturn, 1) := by decide +kernel
theorem dX4_fewestPulls_34 : decode cX4_fewestPulls 34 = .ok (.iconst 0, 1) := by decide +kernel
theorem dX4_fewestPulls_35 : decode cX4_fewestPulls 35 = .ok (.istore_n 3, 1) := by decide +kernel
theorem dX4_fewestPulls_36 : decode cX4_fewestPulls 36 = .ok (.iload_n 3, 1) := by decide +kernel
theorem dX4_fewestPulls_37 : decode cX4_fewestPulls 37 = .ok (.bipush 8, 2) := by decide +kernel
theorem dX4_fewestPulls_39 : decode cX4_fewestPulls 39 = .ok (.if_icmp .gt 92, 3) := by decide +kernel
theorem dX4_fewestPulls_42 : decode cX4_fewestPulls 42 = .ok (.aload_n 0, 1) := by decide +kernel
theorem dX4_fewestPulls_43 : decode cX4_fewestPulls 43 = .ok (.getfield 12, 3) := by decide +kernel
theorem dX4_fewestPulls_46 : decode cX4_fewestPulls 46 = .ok (.getfield 26, 3) := by decide +kernel
theorem dX4_fewestPulls_49 : decode cX4_fewestPulls 49 = .ok (.bipush 8, 2) := by decide +kernel
theorem dX4_fewestPulls_51 : decode cX4_fewestPulls 51 = .ok (.invokevirtual 30, 3) := by decide +kernel
theorem dX4_fewestPulls_54 : decode cX4_fewestPulls 54 = .ok (.istore 4, 2) := by decide +kernel
theorem dX4_fewestPulls_56 : decode cX4_fewestPulls 56 = .ok (.iload 4, 2) := by decide +kernel
theorem dX4_fewestPulls_58 : decode cX4_fewestPulls 58 = .ok (.aload_n 0, 1) := by decide +kernel
theorem dX4_fewestPulls_59 : decode cX4_fewestPulls 59 = .ok (.getfield 12, 3) := by decide +kernel
theorem dX4_fewestPulls_62 : decode cX4_fewestPulls 62 = .ok (.getfield 35, 3) := by decide +kernel
theorem dX4_fewestPulls_65 : decode cX4_fewestPulls 65 = .ok (.iload_n 2, 1) := by decide +kernel
theorem dX4_fewestPulls_66 : decode cX4_fewestPulls 66 = .ok (.invokevirtual 39, 3) := by decide +kernel
theorem dX4_fewestPulls_69 : decode cX4_fewestPulls 69 = .ok (.if_icmp .ne 5, 3) := by decide +kernel
theorem dX4_fewestPulls_72 : decode cX4_fewestPulls 72 = .ok (.iload_n 3, 1) := by decide +kernel
theorem dX4_fewestPulls_73 : decode cX4_fewestPulls 73 = .ok (.ireturn, 1) := by decide +kernel
theorem dX4_fewestPulls_74 : decode cX4_fewestPulls 74 = .ok (.aload_n 0, 1) := by decide +kernel
theorem dX4_fewestPulls_75 : decode cX4_fewestPulls 75 = .ok (.iload_n 2, 1) := by decide +kernel
theorem dX4_fewestPulls_76 : decode cX4_fewestPulls 76 = .ok (.iload 4, 2) := by decide +kernel
theorem dX4_fewestPulls_78 : decode cX4_fewestPulls 78 = .ok (.invokevirtual 44, 3) := by decide +kernel
theorem dX4_fewestPulls_81 : decode cX4_fewestPulls 81 = .ok (.istore 5, 2) := by decide +kernel
theorem dX4_fewestPulls_83 : decode cX4_fewestPulls 83 = .ok (.iload 5, 2) := by decide +kernel
theorem dX4_fewestPulls_85 : decode cX4_fewestPulls 85 = .ok (.bipush (-6), 2) := by decide +kernel
theorem dX4_fewestPulls_87 : decode cX4_fewestPulls 87 = .ok (.if_icmp .ne 7, 3) := by decide +kernel
theorem dX4_fewestPulls_90 : decode cX4_fewestPulls 90 = .ok (.iconst 0, 1) := by decide +kernel
theorem dX4_fewestPulls_91 : decode cX4_fewestPulls 91 = .ok (.goto 12, 3) := by decide +kernel
theorem dX4_fewestPulls_94 : decode cX4_fewestPulls 94 = .ok (.aload_n 0, 1) := by decide +kernel
theorem dX4_fewestPulls_95 : decode cX4_fewestPulls 95 = .ok (.iload_n 2, 1) := by decide +kernel
theorem dX4_fewestPulls_96 : decode cX4_fewestPulls 96 = .ok (.iload 4, 2) := by decide +kernel
theorem dX4_fewestPulls_98 : decode cX4_fewestPulls 98 = .ok (.iload 5, 2) := by decide +kernel
theorem dX4_fewestPulls_100 : decode cX4_fewestPulls 100 = .ok (.invokevirtual 48, 3) := by decide +kernel
theorem dX4_fewestPulls_103 : decode cX4_fewestPulls 103 = .ok (.istore 6, 2) := by decide +kernel
theorem dX4_fewestPulls_105 : decode cX4_fewestPulls 105 = .ok (.iload 6, 2) := by decide +kernel
theorem dX4_fewestPulls_107 : decode cX4_fewestPulls 107 = .ok (.ifCond .ne 6, 3) := by decide +kernel
theorem dX4_fewestPulls_110 : decode cX4_fewestPulls 110 = .ok (.bipush (-6), 2) := by decide +kernel
theorem dX4_fewestPulls_112 : decode cX4_fewestPulls 112 = .ok (.ireturn, 1) := by decide +kernel
theorem dX4_fewestPulls_113 : decode cX4_fewestPulls 113 = .ok (.aload_n 0, 1) := by decide +kernel
theorem dX4_fewestPulls_114 : decode cX4_fewestPulls 114 = .ok (.getfield 12, 3) := by decide +kernel
theorem dX4_fewestPulls_117 : decode cX4_fewestPulls 117 = .ok (.iload 5, 2) := by decide +kernel
theorem dX4_fewestPulls_119 : decode cX4_fewestPulls 119 = .ok (.iload 6, 2) := by decide +kernel
theorem dX4_fewestPulls_121 : decode cX4_fewestPulls 121 = .ok (.invokevirtual 52, 3) := by decide +kernel
theorem dX4_fewestPulls_124 : decode cX4_fewestPulls 124 = .ok (.pop, 1) := by decide +kernel
theorem dX4_fewestPulls_125 : decode cX4_fewestPulls 125 = .ok (.iinc 3 1, 3) := by decide +kernel
theorem dX4_fewestPulls_128 : decode cX4_fewestPulls 128 = .ok (.goto (-92), 3) := by decide +kernel
theorem dX4_fewestPulls_131 : decode cX4_fewestPulls 131 = .ok (.bipush (-6), 2) := by decide +kernel
theorem dX4_fewestPulls_133 : decode cX4_fewestPulls 133 = .ok (.ireturn, 1) := by decide +kernel
theorem dX4_trackOfNext_0 : decode cX4_trackOfNext 0 = .ok (.aload_n 0, 1) := by decide +kernel
theorem dX4_trackOfNext_1 : decode cX4_trackOfNext 1 = .ok (.getfield 12, 3) := by decide +kernel
theorem dX4_trackOfNext_4 : decode cX4_trackOfNext 4 = .ok (.getfield 26, 3) := by decide +kernel
theorem dX4_trackOfNext_7 : decode cX4_trackOfNext 7 = .ok (.aload_n 0, 1) := by decide +kernel
theorem dX4_trackOfNext_8 : decode cX4_trackOfNext 8 = .ok (.getfield 12, 3) := by decide +kernel
theorem dX4_trackOfNext_11 : decode cX4_trackOfNext 11 = .ok (.getfield 35, 3) := by decide +kernel
theorem dX4_trackOfNext_14 : decode cX4_trackOfNext 14 = .ok (.iload_n 1, 1) := by decide +kernel
theorem dX4_trackOfNext_15 : decode cX4_trackOfNext 15 = .ok (.iload_n 2, 1) := by decide +kernel
theorem dX4_trackOfNext_16 : decode cX4_trackOfNext 16 = .ok (.invokevirtual 55, 3) := by decide +kernel
theorem dX4_trackOfNext_19 : decode cX4_trackOfNext 19 = .ok (.invokevirtual 58, 3) := by decide +kernel
theorem dX4_trackOfNext_22 : decode cX4_trackOfNext 22 = .ok (.istore_n 3, 1) := by decide +kernel
theorem dX4_trackOfNext_23 : decode cX4_trackOfNext 23 = .ok (.iload_n 3, 1) := by decide +kernel
theorem dX4_trackOfNext_24 : decode cX4_trackOfNext 24 = .ok (.bipush 8, 2) := by decide +kernel
theorem dX4_trackOfNext_26 : decode cX4_trackOfNext 26 = .ok (.if_icmp .ne 8, 3) := by decide +kernel
theorem dX4_trackOfNext_29 : decode cX4_trackOfNext 29 = .ok (.bipush (-6), 2) := by decide +kernel
theorem dX4_trackOfNext_31 : decode cX4_trackOfNext 31 = .ok (.goto 4, 3) := by decide +kernel
theorem dX4_trackOfNext_34 : decode cX4_trackOfNext 34 = .ok (.iload_n 3, 1) := by decide +kernel
theorem dX4_trackOfNext_35 : decode cX4_trackOfNext 35 = .ok (.ireturn, 1) := by decide +kernel
theorem dX4_manyNext_0 : decode cX4_manyNext 0 = .ok (.aload_n 0, 1) := by decide +kernel
theorem dX4_manyNext_1 : decode cX4_manyNext 1 = .ok (.getfield 12, 3) := by decide +kernel
theorem dX4_manyNext_4 : decode cX4_manyNext 4 = .ok (.getfield 26, 3) := by decide +kernel
theorem dX4_manyNext_7 : decode cX4_manyNext 7 = .ok (.iload_n 3, 1) := by decide +kernel
theorem dX4_manyNext_8 : decode cX4_manyNext 8 = .ok (.invokevirtual 30, 3) := by decide +kernel
theorem dX4_manyNext_11 : decode cX4_manyNext 11 = .ok (.aload_n 0, 1) := by decide +kernel
theorem dX4_manyNext_12 : decode cX4_manyNext 12 = .ok (.getfield 12, 3) := by decide +kernel
theorem dX4_manyNext_15 : decode cX4_manyNext 15 = .ok (.getfield 35, 3) := by decide +kernel
theorem dX4_manyNext_18 : decode cX4_manyNext 18 = .ok (.iload_n 1, 1) := by decide +kernel
theorem dX4_manyNext_19 : decode cX4_manyNext 19 = .ok (.invokevirtual 39, 3) := by decide +kernel
theorem dX4_manyNext_22 : decode cX4_manyNext 22 = .ok (.iload_n 2, 1) := by decide +kernel
theorem dX4_manyNext_23 : decode cX4_manyNext 23 = .ok (.isub, 1) := by decide +kernel
theorem dX4_manyNext_24 : decode cX4_manyNext 24 = .ok (.invokestatic 61, 3) := by decide +kernel
theorem dX4_manyNext_27 : decode cX4_manyNext 27 = .ok (.istore 4, 2) := by decide +kernel
theorem dX4_manyNext_29 : decode cX4_manyNext 29 = .ok (.iconst 0, 1) := by decide +kernel
theorem dX4_manyNext_30 : decode cX4_manyNext 30 = .ok (.istore 5, 2) := by decide +kernel
theorem dX4_manyNext_32 : decode cX4_manyNext 32 = .ok (.iload 5, 2) := by decide +kernel
theorem dX4_manyNext_34 : decode cX4_manyNext 34 = .ok (.iload 4, 2) := by decide +kernel
theorem dX4_manyNext_36 : decode cX4_manyNext 36 = .ok (.if_icmp .ge 43, 3) := by decide +kernel
theorem dX4_manyNext_39 : decode cX4_manyNext 39 = .ok (.aload_n 0, 1) := by decide +kernel
theorem dX4_manyNext_40 : decode cX4_manyNext 40 = .ok (.getfield 12, 3) := by decide +kernel
theorem dX4_manyNext_43 : decode cX4_manyNext 43 = .ok (.getfield 26, 3) := by decide +kernel
theorem dX4_manyNext_46 : decode cX4_manyNext 46 = .ok (.iload_n 3, 1) := by decide +kernel
theorem dX4_manyNext_47 : decode cX4_manyNext 47 = .ok (.iload 5, 2) := by decide +kernel
theorem dX4_manyNext_49 : decode cX4_manyNext 49 = .ok (.invokevirtual 66, 3) := by decide +kernel
theorem dX4_manyNext_52 : decode cX4_manyNext 52 = .ok (.aload_n 0, 1) := by decide +kernel
theorem dX4_manyNext_53 : decode cX4_manyNext 53 = .ok (.getfield 12, 3) := by decide +kernel
theorem dX4_manyNext_56 : decode cX4_manyNext 56 = .ok (.getfield 35, 3) := by decide +kernel
theorem dX4_manyNext_59 : decode cX4_manyNext 59 = .ok (.iload_n 1, 1) := by decide +kernel
theorem dX4_manyNext_60 : decode cX4_manyNext 60 = .ok (.iload_n 2, 1) := by decide +kernel
theorem dX4_manyNext_61 : decode cX4_manyNext 61 = .ok (.iload 5, 2) := by decide +kernel
theorem dX4_manyNext_63 : decode cX4_manyNext 63 = .ok (.iadd, 1) := by decide +kernel
theorem dX4_manyNext_64 : decode cX4_manyNext 64 = .ok (.invokevirtual 55, 3) := by decide +kernel
theorem dX4_manyNext_67 : decode cX4_manyNext 67 = .ok (.if_icmp .eq 6, 3) := by decide +kernel
theorem dX4_manyNext_70 : decode cX4_manyNext 70 = .ok (.iload 5, 2) := by decide +kernel
theorem dX4_manyNext_72 : decode cX4_manyNext 72 = .ok (.ireturn, 1) := by decide +kernel
theorem dX4_manyNext_73 : decode cX4_manyNext 73 = .ok (.iinc 5 1, 3) := by decide +kernel
theorem dX4_manyNext_76 : decode cX4_manyNext 76 = .ok (.goto (-44), 3) := by decide +kernel
theorem dX4_manyNext_79 : decode cX4_manyNext 79 = .ok (.iload 4, 2) := by decide +kernel
theorem dX4_manyNext_81 : decode cX4_manyNext 81 = .ok (.ireturn, 1) := by decide +kernel
theorem dX4_fewestMoves_0 : decode cX4_fewestMoves 0 = .ok (.aload_n 0, 1) := by decide +kernel
theorem dX4_fewestMoves_1 : decode cX4_fewestMoves 1 = .ok (.getfield 12, 3) := by decide +kernel
theorem dX4_fewestMoves_4 : decode cX4_fewestMoves 4 = .ok (.aload_n 1, 1) := by decide +kernel
theorem dX4_fewestMoves_5 : decode cX4_fewestMoves 5 = .ok (.invokevirtual 18, 3) := by decide +kernel
theorem dX4_fewestMoves_8 : decode cX4_fewestMoves 8 = .ok (.aload_n 0, 1) := by decide +kernel
theorem dX4_fewestMoves_9 : decode cX4_fewestMoves 9 = .ok (.getfield 12, 3) := by decide +kernel
theorem dX4_fewestMoves_12 : decode cX4_fewestMoves 12 = .ok (.iload_n 2, 1) := by decide +kernel
theorem dX4_fewestMoves_13 : decode cX4_fewestMoves 13 = .ok (.invokevirtual 69, 3) := by decide +kernel
theorem dX4_fewestMoves_16 : decode cX4_fewestMoves 16 = .ok (.ifCond .eq 5, 3) := by decide +kernel
theorem dX4_fewestMoves_19 : decode cX4_fewestMoves 19 = .ok (.iconst 0, 1) := by decide +kernel
theorem dX4_fewestMoves_20 : decode cX4_fewestMoves 20 = .ok (.ireturn, 1) := by decide +kernel
theorem dX4_fewestMoves_21 : decode cX4_fewestMoves 21 = .ok (.aload_n 0, 1) := by decide +kernel
theorem dX4_fewestMoves_22 : decode cX4_fewestMoves 22 = .ok (.iload_n 2, 1) := by decide +kernel
theorem dX4_fewestMoves_23 : decode cX4_fewestMoves 23 = .ok (.invokevirtual 73, 3) := by decide +kernel
theorem dX4_fewestMoves_26 : decode cX4_fewestMoves 26 = .ok (.ifCond .eq 5, 3) := by decide +kernel
theorem dX4_fewestMoves_29 : decode cX4_fewestMoves 29 = .ok (.iconst 1, 1) := by decide +kernel
theorem dX4_fewestMoves_30 : decode cX4_fewestMoves 30 = .ok (.ireturn, 1) := by decide +kernel
theorem dX4_fewestMoves_31 : decode cX4_fewestMoves 31 = .ok (.iconst 0, 1) := by decide +kernel
theorem dX4_fewestMoves_32 : decode cX4_fewestMoves 32 = .ok (.istore_n 3, 1) := by decide +kernel
theorem dX4_fewestMoves_33 : decode cX4_fewestMoves 33 = .ok (.iload_n 3, 1) := by decide +kernel
theorem dX4_fewestMoves_34 : decode cX4_fewestMoves 34 = .ok (.aload_n 0, 1) := by decide +kernel
theorem dX4_fewestMoves_35 : decode cX4_fewestMoves 35 = .ok (.getfield 12, 3) := by decide +kernel
theorem dX4_fewestMoves_38 : decode cX4_fewestMoves 38 = .ok (.getfield 76, 3) := by decide +kernel
theorem dX4_fewestMoves_41 : decode cX4_fewestMoves 41 = .ok (.if_icmp .ge 29, 3) := by decide +kernel
theorem dX4_fewestMoves_44 : decode cX4_fewestMoves 44 = .ok (.aload_n 0, 1) := by decide +kernel
theorem dX4_fewestMoves_45 : decode cX4_fewestMoves 45 = .ok (.iload_n 2, 1) := by decide +kernel
theorem dX4_fewestMoves_46 : decode cX4_fewestMoves 46 = .ok (.iload_n 3, 1) := by decide +kernel
theorem dX4_fewestMoves_47 : decode cX4_fewestMoves 47 = .ok (.invokevirtual 80, 3) := by decide +kernel
theorem dX4_fewestMoves_50 : decode cX4_fewestMoves 50 = .ok (.ifCond .ne 12, 3) := by decide +kernel
theorem dX4_fewestMoves_53 : decode cX4_fewestMoves 53 = .ok (.aload_n 0, 1) := by decide +kernel
theorem dX4_fewestMoves_54 : decode cX4_fewestMoves 54 = .ok (.iload_n 2, 1) := by decide +kernel
theorem dX4_fewestMoves_55 : decode cX4_fewestMoves 55 = .ok (.iload_n 3, 1) := by decide +kernel
theorem dX4_fewestMoves_56 : decode cX4_fewestMoves 56 = .ok (.invokevirtual 84, 3) := by decide +kernel
theorem dX4_fewestMoves_59 : decode cX4_fewestMoves 59 = .ok (.ifCond .eq 5, 3) := by decide +kernel
theorem dX4_fewestMoves_62 : decode cX4_fewestMoves 62 = .ok (.iconst 2, 1) := by decide +kernel
theorem dX4_fewestMoves_63 : decode cX4_fewestMoves 63 = .ok (.ireturn, 1) := by decide +kernel
theorem dX4_fewestMoves_64 : decode cX4_fewestMoves 64 = .ok (.iinc 3 1, 3) := by decide +kernel
theorem dX4_fewestMoves_67 : decode cX4_fewestMoves 67 = .ok (.goto (-34), 3) := by decide +kernel
theorem dX4_fewestMoves_70 : decode cX4_fewestMoves 70 = .ok (.aload_n 0, 1) := by decide +kernel
theorem dX4_fewestMoves_71 : decode cX4_fewestMoves 71 = .ok (.iload_n 2, 1) := by decide +kernel
theorem dX4_fewestMoves_72 : decode cX4_fewestMoves 72 = .ok (.invokevirtual 87, 3) := by decide +kernel
theorem dX4_fewestMoves_75 : decode cX4_fewestMoves 75 = .ok (.ifCond .eq 7, 3) := by decide +kernel
theorem dX4_fewestMoves_78 : decode cX4_fewestMoves 78 = .ok (.iconst 2, 1) := by decide +kernel
theorem dX4_fewestMoves_79 : decode cX4_fewestMoves 79 = .ok (.goto 5, 3) := by decide +kernel
theorem dX4_fewestMoves_82 : decode cX4_fewestMoves 82 = .ok (.bipush (-6), 2) := by decide +kernel
theorem dX4_fewestMoves_84 : decode cX4_fewestMoves 84 = .ok (.ireturn, 1) := by decide +kernel
theorem dX4_couldAfterTakingOut_0 : decode cX4_couldAfterTakingOut 0 = .ok (.aload_n 0, 1) := by decide +kernel
theorem dX4_couldAfterTakingOut_1 : decode cX4_couldAfterTakingOut 1 = .ok (.getfield 12, 3) := by decide +kernel
theorem dX4_couldAfterTakingOut_4 : decode cX4_couldAfterTakingOut 4 = .ok (.getfield 26, 3) := by decide +kernel
theorem dX4_couldAfterTakingOut_7 : decode cX4_couldAfterTakingOut 7 = .ok (.iload_n 2, 1) := by decide +kernel
theorem dX4_couldAfterTakingOut_8 : decode cX4_couldAfterTakingOut 8 = .ok (.invokevirtual 30, 3) := by decide +kernel
theorem dX4_couldAfterTakingOut_11 : decode cX4_couldAfterTakingOut 11 = .ok (.istore_n 3, 1) := by decide +kernel
theorem dX4_couldAfterTakingOut_12 : decode cX4_couldAfterTakingOut 12 = .ok (.iconst 0, 1) := by decide +kernel
theorem dX4_couldAfterTakingOut_13 : decode cX4_couldAfterTakingOut 13 = .ok (.istore 4, 2) := by decide +kernel
theorem dX4_couldAfterTakingOut_15 : decode cX4_couldAfterTakingOut 15 = .ok (.iconst 1, 1) := by decide +kernel
theorem dX4_couldAfterTakingOut_16 : decode cX4_couldAfterTakingOut 16 = .ok (.istore 5, 2) := by decide +kernel
theorem dX4_couldAfterTakingOut_18 : decode cX4_couldAfterTakingOut 18 = .ok (.iload 5, 2) := by decide +kernel
theorem dX4_couldAfterTakingOut_20 : decode cX4_couldAfterTakingOut 20 = .ok (.iload_n 3, 1) := by decide +kernel
theorem dX4_couldAfterTakingOut_21 : decode cX4_couldAfterTakingOut 21 = .ok (.if_icmp .gt 64, 3) := by decide +kernel
theorem dX4_couldAfterTakingOut_24 : decode cX4_couldAfterTakingOut 24 = .ok (.iload 4, 2) := by decide +kernel
theorem dX4_couldAfterTakingOut_26 : decode cX4_couldAfterTakingOut 26 = .ok (.ifCond .ne 59, 3) := by decide +kernel
theorem dX4_couldAfterTakingOut_29 : decode cX4_couldAfterTakingOut 29 = .ok (.aload_n 0, 1) := by decide +kernel
theorem dX4_couldAfterTakingOut_30 : decode cX4_couldAfterTakingOut 30 = .ok (.getfield 12, 3) := by decide +kernel
theorem dX4_couldAfterTakingOut_33 : decode cX4_couldAfterTakingOut 33 = .ok (.iload_n 2, 1) := by decide +kernel
theorem dX4_couldAfterTakingOut_34 : decode cX4_couldAfterTakingOut 34 = .ok (.iload 5, 2) := by decide +kernel
theorem dX4_couldAfterTakingOut_36 : decode cX4_couldAfterTakingOut 36 = .ok (.invokevirtual 90, 3) := by decide +kernel
theorem dX4_couldAfterTakingOut_39 : decode cX4_couldAfterTakingOut 39 = .ok (.ifCond .eq 40, 3) := by decide +kernel
theorem dX4_couldAfterTakingOut_42 : decode cX4_couldAfterTakingOut 42 = .ok (.aload_n 0, 1) := by decide +kernel
theorem dX4_couldAfterTakingOut_43 : decode cX4_couldAfterTakingOut 43 = .ok (.getfield 12, 3) := by decide +kernel
theorem dX4_couldAfterTakingOut_46 : decode cX4_couldAfterTakingOut 46 = .ok (.getfield 26, 3) := by decide +kernel
theorem dX4_couldAfterTakingOut_49 : decode cX4_couldAfterTakingOut 49 = .ok (.iload_n 2, 1) := by decide +kernel
theorem dX4_couldAfterTakingOut_50 : decode cX4_couldAfterTakingOut 50 = .ok (.bipush 8, 2) := by decide +kernel
theorem dX4_couldAfterTakingOut_52 : decode cX4_couldAfterTakingOut 52 = .ok (.iload 5, 2) := by decide +kernel
theorem dX4_couldAfterTakingOut_54 : decode cX4_couldAfterTakingOut 54 = .ok (.invokevirtual 93, 3) := by decide +kernel
theorem dX4_couldAfterTakingOut_57 : decode cX4_couldAfterTakingOut 57 = .ok (.aload_n 0, 1) := by decide +kernel
theorem dX4_couldAfterTakingOut_58 : decode cX4_couldAfterTakingOut 58 = .ok (.iload_n 1, 1) := by decide +kernel
theorem dX4_couldAfterTakingOut_59 : decode cX4_couldAfterTakingOut 59 = .ok (.invokevirtual 73, 3) := by decide +kernel
theorem dX4_couldAfterTakingOut_62 : decode cX4_couldAfterTakingOut 62 = .ok (.istore 4, 2) := by decide +kernel
theorem dX4_couldAfterTakingOut_64 : decode cX4_couldAfterTakingOut 64 = .ok (.aload_n 0, 1) := by decide +kernel
theorem dX4_couldAfterTakingOut_65 : decode cX4_couldAfterTakingOut 65 = .ok (.getfield 12, 3) := by decide +kernel
theorem dX4_couldAfterTakingOut_68 : decode cX4_couldAfterTakingOut 68 = .ok (.getfield 26, 3) := by decide +kernel
theorem dX4_couldAfterTakingOut_71 : decode cX4_couldAfterTakingOut 71 = .ok (.bipush 8, 2) := by decide +kernel
theorem dX4_couldAfterTakingOut_73 : decode cX4_couldAfterTakingOut 73 = .ok (.iload_n 2, 1) := by decide +kernel
theorem dX4_couldAfterTakingOut_74 : decode cX4_couldAfterTakingOut 74 = .ok (.iload 5, 2) := by decide +kernel
theorem dX4_couldAfterTakingOut_76 : decode cX4_couldAfterTakingOut 76 = .ok (.invokevirtual 93, 3) := by decide +kernel
theorem dX4_couldAfterTakingOut_79 : decode cX4_couldAfterTakingOut 79 = .ok (.iinc 5 1, 3) := by decide +kernel
theorem dX4_couldAfterTakingOut_82 : decode cX4_couldAfterTakingOut 82 = .ok (.goto (-64), 3) := by decide +kernel
theorem dX4_couldAfterTakingOut_85 : decode cX4_couldAfterTakingOut 85 = .ok (.iload 4, 2) := by decide +kernel
theorem dX4_couldAfterTakingOut_87 : decode cX4_couldAfterTakingOut 87 = .ok (.ireturn, 1) := by decide +kernel
theorem dX4_couldAfterBringingIn_0 : decode cX4_couldAfterBringingIn 0 = .ok (.aload_n 0, 1) := by decide +kernel
theorem dX4_couldAfterBringingIn_1 : decode cX4_couldAfterBringingIn 1 = .ok (.getfield 12, 3) := by decide +kernel
theorem dX4_couldAfterBringingIn_4 : decode cX4_couldAfterBringingIn 4 = .ok (.getfield 26, 3) := by decide +kernel
theorem dX4_couldAfterBringingIn_7 : decode cX4_couldAfterBringingIn 7 = .ok (.bipush 8, 2) := by decide +kernel
theorem dX4_couldAfterBringingIn_9 : decode cX4_couldAfterBringingIn 9 = .ok (.invokevirtual 30, 3) := by decide +kernel
theorem dX4_couldAfterBringingIn_12 : decode cX4_couldAfterBringingIn 12 = .ok (.istore_n 3, 1) := by decide +kernel
theorem dX4_couldAfterBringingIn_13 : decode cX4_couldAfterBringingIn 13 = .ok (.iconst 0, 1) := by decide +kernel
theorem dX4_couldAfterBringingIn_14 : decode cX4_couldAfterBringingIn 14 = .ok (.istore 4, 2) := by decide +kernel
theorem dX4_couldAfterBringingIn_16 : decode cX4_couldAfterBringingIn 16 = .ok (.iconst 1, 1) := by decide +kernel
theorem dX4_couldAfterBringingIn_17 : decode cX4_couldAfterBringingIn 17 = .ok (.istore 5, 2) := by decide +kernel
theorem dX4_couldAfterBringingIn_19 : decode cX4_couldAfterBringingIn 19 = .ok (.iload 5, 2) := by decide +kernel
theorem dX4_couldAfterBringingIn_21 : decode cX4_couldAfterBringingIn 21 = .ok (.iload_n 3, 1) := by decide +kernel
theorem dX4_couldAfterBringingIn_22 : decode cX4_couldAfterBringingIn 22 = .ok (.if_icmp .gt 64, 3) := by decide +kernel
theorem dX4_couldAfterBringingIn_25 : decode cX4_couldAfterBringingIn 25 = .ok (.iload 4, 2) := by decide +kernel
theorem dX4_couldAfterBringingIn_27 : decode cX4_couldAfterBringingIn 27 = .ok (.ifCond .ne 59, 3) := by decide +kernel
theorem dX4_couldAfterBringingIn_30 : decode cX4_couldAfterBringingIn 30 = .ok (.aload_n 0, 1) := by decide +kernel
theorem dX4_couldAfterBringingIn_31 : decode cX4_couldAfterBringingIn 31 = .ok (.getfield 12, 3) := by decide +kernel
theorem dX4_couldAfterBringingIn_34 : decode cX4_couldAfterBringingIn 34 = .ok (.iload_n 2, 1) := by decide +kernel
theorem dX4_couldAfterBringingIn_35 : decode cX4_couldAfterBringingIn 35 = .ok (.iload 5, 2) := by decide +kernel
theorem dX4_couldAfterBringingIn_37 : decode cX4_couldAfterBringingIn 37 = .ok (.invokevirtual 97, 3) := by decide +kernel
theorem dX4_couldAfterBringingIn_40 : decode cX4_couldAfterBringingIn 40 = .ok (.ifCond .eq 40, 3) := by decide +kernel
theorem dX4_couldAfterBringingIn_43 : decode cX4_couldAfterBringingIn 43 = .ok (.aload_n 0, 1) := by decide +kernel
theorem dX4_couldAfterBringingIn_44 : decode cX4_couldAfterBringingIn 44 = .ok (.getfield 12, 3) := by decide +kernel
theorem dX4_couldAfterBringingIn_47 : decode cX4_couldAfterBringingIn 47 = .ok (.getfield 26, 3) := by decide +kernel
theorem dX4_couldAfterBringingIn_50 : decode cX4_couldAfterBringingIn 50 = .ok (.bipush 8, 2) := by decide +kernel
theorem dX4_couldAfterBringingIn_52 : decode cX4_couldAfterBringingIn 52 = .ok (.iload_n 2, 1) := by decide +kernel
theorem dX4_couldAfterBringingIn_53 : decode cX4_couldAfterBringingIn 53 = .ok (.iload 5, 2) := by decide +kernel
theorem dX4_couldAfterBringingIn_55 : decode cX4_couldAfterBringingIn 55 = .ok (.invokevirtual 93, 3) := by decide +kernel
theorem dX4_couldAfterBringingIn_58 : decode cX4_couldAfterBringingIn 58 = .ok (.aload_n 0, 1) := by decide +kernel
theorem dX4_couldAfterBringingIn_59 : decode cX4_couldAfterBringingIn 59 = .ok (.iload_n 1, 1) := by decide +kernel
theorem dX4_couldAfterBringingIn_60 : decode cX4_couldAfterBringingIn 60 = .ok (.invokevirtual 73, 3) := by decide +kernel
theorem dX4_couldAfterBringingIn_63 : decode cX4_couldAfterBringingIn 63 = .ok (.istore 4, 2) := by decide +kernel
theorem dX4_couldAfterBringingIn_65 : decode cX4_couldAfterBringingIn 65 = .ok (.aload_n 0, 1) := by decide +kernel
theorem dX4_couldAfterBringingIn_66 : decode cX4_couldAfterBringingIn 66 = .ok (.getfield 12, 3) := by decide +kernel
theorem dX4_couldAfterBringingIn_69 : decode cX4_couldAfterBringingIn 69 = .ok (.getfield 26, 3) := by decide +kernel
theorem dX4_couldAfterBringingIn_72 : decode cX4_couldAfterBringingIn 72 = .ok (.iload_n 2, 1) := by decide +kernel
theorem dX4_couldAfterBringingIn_73 : decode cX4_couldAfterBringingIn 73 = .ok (.bipush 8, 2) := by decide +kernel
theorem dX4_couldAfterBringingIn_75 : decode cX4_couldAfterBringingIn 75 = .ok (.iload 5, 2) := by decide +kernel
theorem dX4_couldAfterBringingIn_77 : decode cX4_couldAfterBringingIn 77 = .ok (.invokevirtual 93, 3) := by decide +kernel
theorem dX4_couldAfterBringingIn_80 : decode cX4_couldAfterBringingIn 80 = .ok (.iinc 5 1, 3) := by decide +kernel
theorem dX4_couldAfterBringingIn_83 : decode cX4_couldAfterBringingIn 83 = .ok (.goto (-64), 3) := by decide +kernel
theorem dX4_couldAfterBringingIn_86 : decode cX4_couldAfterBringingIn 86 = .ok (.iload 4, 2) := by decide +kernel
theorem dX4_couldAfterBringingIn_88 : decode cX4_couldAfterBringingIn 88 = .ok (.ireturn, 1) := by decide +kernel
theorem dX4_couldAfterGoingRound_0 : decode cX4_couldAfterGoingRound 0 = .ok (.aload_n 0, 1) := by decide +kernel
theorem dX4_couldAfterGoingRound_1 : decode cX4_couldAfterGoingRound 1 = .ok (.getfield 12, 3) := by decide +kernel
theorem dX4_couldAfterGoingRound_4 : decode cX4_couldAfterGoingRound 4 = .ok (.invokevirtual 100, 3) := by decide +kernel
theorem dX4_couldAfterGoingRound_7 : decode cX4_couldAfterGoingRound 7 = .ok (.ifCond .ne 5, 3) := by decide +kernel
theorem dX4_couldAfterGoingRound_10 : decode cX4_couldAfterGoingRound 10 = .ok (.iconst 0, 1) := by decide +kernel
theorem dX4_couldAfterGoingRound_11 : decode cX4_couldAfterGoingRound 11 = .ok (.ireturn, 1) := by decide +kernel
theorem dX4_couldAfterGoingRound_12 : decode cX4_couldAfterGoingRound 12 = .ok (.aload_n 0, 1) := by decide +kernel
theorem dX4_couldAfterGoingRound_13 : decode cX4_couldAfterGoingRound 13 = .ok (.getfield 12, 3) := by decide +kernel
theorem dX4_couldAfterGoingRound_16 : decode cX4_couldAfterGoingRound 16 = .ok (.getfield 26, 3) := by decide +kernel
theorem dX4_couldAfterGoingRound_19 : decode cX4_couldAfterGoingRound 19 = .ok (.invokevirtual 104, 3) := by decide +kernel
theorem dX4_couldAfterGoingRound_22 : decode cX4_couldAfterGoingRound 22 = .ok (.aload_n 0, 1) := by decide +kernel
theorem dX4_couldAfterGoingRound_23 : decode cX4_couldAfterGoingRound 23 = .ok (.iload_n 1, 1) := by decide +kernel
theorem dX4_couldAfterGoingRound_24 : decode cX4_couldAfterGoingRound 24 = .ok (.invokevirtual 73, 3) := by decide +kernel
theorem dX4_couldAfterGoingRound_27 : decode cX4_couldAfterGoingRound 27 = .ok (.istore_n 2, 1) := by decide +kernel
theorem dX4_couldAfterGoingRound_28 : decode cX4_couldAfterGoingRound 28 = .ok (.aload_n 0, 1) := by decide +kernel
theorem dX4_couldAfterGoingRound_29 : decode cX4_couldAfterGoingRound 29 = .ok (.getfield 12, 3) := by decide +kernel
theorem dX4_couldAfterGoingRound_32 : decode cX4_couldAfterGoingRound 32 = .ok (.getfield 26, 3) := by decide +kernel
theorem dX4_couldAfterGoingRound_35 : decode cX4_couldAfterGoingRound 35 = .ok (.invokevirtual 104, 3) := by decide +kernel
theorem dX4_couldAfterGoingRound_38 : decode cX4_couldAfterGoingRound 38 = .ok (.iload_n 2, 1) := by decide +kernel
theorem dX4_couldAfterGoingRound_39 : decode cX4_couldAfterGoingRound 39 = .ok (.ireturn, 1) := by decide +kernel
theorem dX4_couldAfterOne_0 : decode cX4_couldAfterOne 0 = .ok (.aload_n 0, 1) := by decide +kernel
theorem dX4_couldAfterOne_1 : decode cX4_couldAfterOne 1 = .ok (.getfield 12, 3) := by decide +kernel
theorem dX4_couldAfterOne_4 : decode cX4_couldAfterOne 4 = .ok (.getfield 26, 3) := by decide +kernel
theorem dX4_couldAfterOne_7 : decode cX4_couldAfterOne 7 = .ok (.bipush 8, 2) := by decide +kernel
theorem dX4_couldAfterOne_9 : decode cX4_couldAfterOne 9 = .ok (.invokevirtual 30, 3) := by decide +kernel
theorem dX4_couldAfterOne_12 : decode cX4_couldAfterOne 12 = .ok (.istore_n 2, 1) := by decide +kernel
theorem dX4_couldAfterOne_13 : decode cX4_couldAfterOne 13 = .ok (.aload_n 0, 1) := by decide +kernel
theorem dX4_couldAfterOne_14 : decode cX4_couldAfterOne 14 = .ok (.getfield 12, 3) := by decide +kernel
theorem dX4_couldAfterOne_17 : decode cX4_couldAfterOne 17 = .ok (.getfield 35, 3) := by decide +kernel
theorem dX4_couldAfterOne_20 : decode cX4_couldAfterOne 20 = .ok (.iload_n 1, 1) := by decide +kernel
theorem dX4_couldAfterOne_21 : decode cX4_couldAfterOne 21 = .ok (.invokevirtual 39, 3) := by decide +kernel
theorem dX4_couldAfterOne_24 : decode cX4_couldAfterOne 24 = .ok (.istore_n 3, 1) := by decide +kernel
theorem dX4_couldAfterOne_25 : decode cX4_couldAfterOne 25 = .ok (.iload_n 2, 1) := by decide +kernel
theorem dX4_couldAfterOne_26 : decode cX4_couldAfterOne 26 = .ok (.iload_n 3, 1) := by decide +kernel
theorem dX4_couldAfterOne_27 : decode cX4_couldAfterOne 27 = .ok (.if_icmp .ne 27, 3) := by decide +kernel
theorem dX4_couldAfterOne_30 : decode cX4_couldAfterOne 30 = .ok (.aload_n 0, 1) := by decide +kernel
theorem dX4_couldAfterOne_31 : decode cX4_couldAfterOne 31 = .ok (.getfield 12, 3) := by decide +kernel
theorem dX4_couldAfterOne_34 : decode cX4_couldAfterOne 34 = .ok (.invokevirtual 100, 3) := by decide +kernel
theorem dX4_couldAfterOne_37 : decode cX4_couldAfterOne 37 = .ok (.ifCond .eq 15, 3) := by decide +kernel
theorem dX4_couldAfterOne_40 : decode cX4_couldAfterOne 40 = .ok (.aload_n 0, 1) := by decide +kernel
theorem dX4_couldAfterOne_41 : decode cX4_couldAfterOne 41 = .ok (.iload_n 1, 1) := by decide +kernel
theorem dX4_couldAfterOne_42 : decode cX4_couldAfterOne 42 = .ok (.invokevirtual 107, 3) := by decide +kernel
theorem dX4_couldAfterOne_45 : decode cX4_couldAfterOne 45 = .ok (.ifCond .eq 7, 3) := by decide +kernel
theorem dX4_couldAfterOne_48 : decode cX4_couldAfterOne 48 = .ok (.iconst 1, 1) := by decide +kernel
theorem dX4_couldAfterOne_49 : decode cX4_couldAfterOne 49 = .ok (.goto 4, 3) := by decide +kernel
theorem dX4_couldAfterOne_52 : decode cX4_couldAfterOne 52 = .ok (.iconst 0, 1) := by decide +kernel
theorem dX4_couldAfterOne_53 : decode cX4_couldAfterOne 53 = .ok (.ireturn, 1) := by decide +kernel
theorem dX4_couldAfterOne_54 : decode cX4_couldAfterOne 54 = .ok (.aload_n 0, 1) := by decide +kernel
theorem dX4_couldAfterOne_55 : decode cX4_couldAfterOne 55 = .ok (.getfield 12, 3) := by decide +kernel
theorem dX4_couldAfterOne_58 : decode cX4_couldAfterOne 58 = .ok (.iload_n 1, 1) := by decide +kernel
theorem dX4_couldAfterOne_59 : decode cX4_couldAfterOne 59 = .ok (.invokevirtual 22, 3) := by decide +kernel
theorem dX4_couldAfterOne_62 : decode cX4_couldAfterOne 62 = .ok (.iload_n 2, 1) := by decide +kernel
theorem dX4_couldAfterOne_63 : decode cX4_couldAfterOne 63 = .ok (.iload_n 3, 1) := by decide +kernel
theorem dX4_couldAfterOne_64 : decode cX4_couldAfterOne 64 = .ok (.invokestatic 61, 3) := by decide +kernel
theorem dX4_couldAfterOne_67 : decode cX4_couldAfterOne 67 = .ok (.if_icmp .ge 5, 3) := by decide +kernel
theorem dX4_couldAfterOne_70 : decode cX4_couldAfterOne 70 = .ok (.iconst 0, 1) := by decide +kernel
theorem dX4_couldAfterOne_71 : decode cX4_couldAfterOne 71 = .ok (.ireturn, 1) := by decide +kernel
theorem dX4_couldAfterOne_72 : decode cX4_couldAfterOne 72 = .ok (.iload_n 2, 1) := by decide +kernel
theorem dX4_couldAfterOne_73 : decode cX4_couldAfterOne 73 = .ok (.iload_n 3, 1) := by decide +kernel
theorem dX4_couldAfterOne_74 : decode cX4_couldAfterOne 74 = .ok (.if_icmp .le 22, 3) := by decide +kernel
theorem dX4_couldAfterOne_77 : decode cX4_couldAfterOne 77 = .ok (.aload_n 0, 1) := by decide +kernel
theorem dX4_couldAfterOne_78 : decode cX4_couldAfterOne 78 = .ok (.getfield 12, 3) := by decide +kernel
theorem dX4_couldAfterOne_81 : decode cX4_couldAfterOne 81 = .ok (.iload_n 2, 1) := by decide +kernel
theorem dX4_couldAfterOne_82 : decode cX4_couldAfterOne 82 = .ok (.iload_n 3, 1) := by decide +kernel
theorem dX4_couldAfterOne_83 : decode cX4_couldAfterOne 83 = .ok (.isub, 1) := by decide +kernel
theorem dX4_couldAfterOne_84 : decode cX4_couldAfterOne 84 = .ok (.invokevirtual 110, 3) := by decide +kernel
theorem dX4_couldAfterOne_87 : decode cX4_couldAfterOne 87 = .ok (.ifCond .eq 7, 3) := by decide +kernel
theorem dX4_couldAfterOne_90 : decode cX4_couldAfterOne 90 = .ok (.iconst 1, 1) := by decide +kernel
theorem dX4_couldAfterOne_91 : decode cX4_couldAfterOne 91 = .ok (.goto 4, 3) := by decide +kernel
theorem dX4_couldAfterOne_94 : decode cX4_couldAfterOne 94 = .ok (.iconst 0, 1) := by decide +kernel
theorem dX4_couldAfterOne_95 : decode cX4_couldAfterOne 95 = .ok (.ireturn, 1) := by decide +kernel
theorem dX4_couldAfterOne_96 : decode cX4_couldAfterOne 96 = .ok (.aload_n 0, 1) := by decide +kernel
theorem dX4_couldAfterOne_97 : decode cX4_couldAfterOne 97 = .ok (.iload_n 1, 1) := by decide +kernel
theorem dX4_couldAfterOne_98 : decode cX4_couldAfterOne 98 = .ok (.iload_n 2, 1) := by decide +kernel
theorem dX4_couldAfterOne_99 : decode cX4_couldAfterOne 99 = .ok (.invokevirtual 44, 3) := by decide +kernel
theorem dX4_couldAfterOne_102 : decode cX4_couldAfterOne 102 = .ok (.istore 4, 2) := by decide +kernel
theorem dX4_couldAfterOne_104 : decode cX4_couldAfterOne 104 = .ok (.iload_n 3, 1) := by decide +kernel
theorem dX4_couldAfterOne_105 : decode cX4_couldAfterOne 105 = .ok (.iload_n 2, 1) := by decide +kernel
theorem dX4_couldAfterOne_106 : decode cX4_couldAfterOne 106 = .ok (.isub, 1) := by decide +kernel
theorem dX4_couldAfterOne_107 : decode cX4_couldAfterOne 107 = .ok (.istore 5, 2) := by decide +kernel
theorem dX4_couldAfterOne_109 : decode cX4_couldAfterOne 109 = .ok (.iload 4, 2) := by decide +kernel
theorem dX4_couldAfterOne_111 : decode cX4_couldAfterOne 111 = .ok (.bipush (-6), 2) := by decide +kernel
theorem dX4_couldAfterOne_113 : decode cX4_couldAfterOne 113 = .ok (.if_icmp .eq 34, 3) := by decide +kernel
theorem dX4_couldAfterOne_116 : decode cX4_couldAfterOne 116 = .ok (.aload_n 0, 1) := by decide +kernel
theorem dX4_couldAfterOne_117 : decode cX4_couldAfterOne 117 = .ok (.iload_n 1, 1) := by decide +kernel
theorem dX4_couldAfterOne_118 : decode cX4_couldAfterOne 118 = .ok (.iload_n 2, 1) := by decide +kernel
theorem dX4_couldAfterOne_119 : decode cX4_couldAfterOne 119 = .ok (.iload 4, 2) := by decide +kernel
theorem dX4_couldAfterOne_121 : decode cX4_couldAfterOne 121 = .ok (.invokevirtual 48, 3) := by decide +kernel
theorem dX4_couldAfterOne_124 : decode cX4_couldAfterOne 124 = .ok (.iload 5, 2) := by decide +kernel
theorem dX4_couldAfterOne_126 : decode cX4_couldAfterOne 126 = .ok (.if_icmp .ne 21, 3) := by decide +kernel
theorem dX4_couldAfterOne_129 : decode cX4_couldAfterOne 129 = .ok (.aload_n 0, 1) := by decide +kernel
theorem dX4_couldAfterOne_130 : decode cX4_couldAfterOne 130 = .ok (.getfield 12, 3) := by decide +kernel
theorem dX4_couldAfterOne_133 : decode cX4_couldAfterOne 133 = .ok (.iload 4, 2) := by decide +kernel
theorem dX4_couldAfterOne_135 : decode cX4_couldAfterOne 135 = .ok (.iload 5, 2) := by decide +kernel
theorem dX4_couldAfterOne_137 : decode cX4_couldAfterOne 137 = .ok (.invokevirtual 90, 3) := by decide +kernel
theorem dX4_couldAfterOne_140 : decode cX4_couldAfterOne 140 = .ok (.ifCond .eq 7, 3) := by decide +kernel
theorem dX4_couldAfterOne_143 : decode cX4_couldAfterOne 143 = .ok (.iconst 1, 1) := by decide +kernel
theorem dX4_couldAfterOne_144 : decode cX4_couldAfterOne 144 = .ok (.goto 4, 3) := by decide +kernel
theorem dX4_couldAfterOne_147 : decode cX4_couldAfterOne 147 = .ok (.iconst 0, 1) := by decide +kernel
theorem dX4_couldAfterOne_148 : decode cX4_couldAfterOne 148 = .ok (.ireturn, 1) := by decide +kernel
theorem dX4_isTurned_0 : decode cX4_isTurned 0 = .ok (.aload_n 0, 1) := by decide +kernel
theorem dX4_isTurned_1 : decode cX4_isTurned 1 = .ok (.getfield 12, 3) := by decide +kernel
theorem dX4_isTurned_4 : decode cX4_isTurned 4 = .ok (.getfield 35, 3) := by decide +kernel
theorem dX4_isTurned_7 : decode cX4_isTurned 7 = .ok (.iload_n 1, 1) := by decide +kernel
theorem dX4_isTurned_8 : decode cX4_isTurned 8 = .ok (.invokevirtual 39, 3) := by decide +kernel
theorem dX4_isTurned_11 : decode cX4_isTurned 11 = .ok (.istore_n 2, 1) := by decide +kernel
theorem dX4_isTurned_12 : decode cX4_isTurned 12 = .ok (.iconst 0, 1) := by decide +kernel
theorem dX4_isTurned_13 : decode cX4_isTurned 13 = .ok (.istore_n 3, 1) := by decide +kernel
theorem dX4_isTurned_14 : decode cX4_isTurned 14 = .ok (.iload_n 3, 1) := by decide +kernel
theorem dX4_isTurned_15 : decode cX4_isTurned 15 = .ok (.iload_n 2, 1) := by decide +kernel
theorem dX4_isTurned_16 : decode cX4_isTurned 16 = .ok (.if_icmp .ge 43, 3) := by decide +kernel
theorem dX4_isTurned_19 : decode cX4_isTurned 19 = .ok (.aload_n 0, 1) := by decide +kernel
theorem dX4_isTurned_20 : decode cX4_isTurned 20 = .ok (.getfield 12, 3) := by decide +kernel
theorem dX4_isTurned_23 : decode cX4_isTurned 23 = .ok (.getfield 26, 3) := by decide +kernel
theorem dX4_isTurned_26 : decode cX4_isTurned 26 = .ok (.bipush 8, 2) := by decide +kernel
theorem dX4_isTurned_28 : decode cX4_isTurned 28 = .ok (.iload_n 2, 1) := by decide +kernel
theorem dX4_isTurned_29 : decode cX4_isTurned 29 = .ok (.iconst 1, 1) := by decide +kernel
theorem dX4_isTurned_30 : decode cX4_isTurned 30 = .ok (.isub, 1) := by decide +kernel
theorem dX4_isTurned_31 : decode cX4_isTurned 31 = .ok (.iload_n 3, 1) := by decide +kernel
theorem dX4_isTurned_32 : decode cX4_isTurned 32 = .ok (.isub, 1) := by decide +kernel
theorem dX4_isTurned_33 : decode cX4_isTurned 33 = .ok (.invokevirtual 66, 3) := by decide +kernel
theorem dX4_isTurned_36 : decode cX4_isTurned 36 = .ok (.aload_n 0, 1) := by decide +kernel
theorem dX4_isTurned_37 : decode cX4_isTurned 37 = .ok (.getfield 12, 3) := by decide +kernel
theorem dX4_isTurned_40 : decode cX4_isTurned 40 = .ok (.getfield 35, 3) := by decide +kernel
theorem dX4_isTurned_43 : decode cX4_isTurned 43 = .ok (.iload_n 1, 1) := by decide +kernel
theorem dX4_isTurned_44 : decode cX4_isTurned 44 = .ok (.iload_n 3, 1) := by decide +kernel
theorem dX4_isTurned_45 : decode cX4_isTurned 45 = .ok (.invokevirtual 55, 3) := by decide +kernel
theorem dX4_isTurned_48 : decode cX4_isTurned 48 = .ok (.if_icmp .eq 5, 3) := by decide +kernel
theorem dX4_isTurned_51 : decode cX4_isTurned 51 = .ok (.iconst 0, 1) := by decide +kernel
theorem dX4_isTurned_52 : decode cX4_isTurned 52 = .ok (.ireturn, 1) := by decide +kernel
theorem dX4_isTurned_53 : decode cX4_isTurned 53 = .ok (.iinc 3 1, 3) := by decide +kernel
theorem dX4_isTurned_56 : decode cX4_isTurned 56 = .ok (.goto (-42), 3) := by decide +kernel
theorem dX4_isTurned_59 : decode cX4_isTurned 59 = .ok (.iconst 1, 1) := by decide +kernel
theorem dX4_isTurned_60 : decode cX4_isTurned 60 = .ok (.ireturn, 1) := by decide +kernel
theorem dX5_init_0 : decode cX5_init 0 = .ok (.aload_n 0, 1) := by decide +kernel
theorem dX5_init_1 : decode cX5_init 1 = .ok (.invokespecial 3, 3) := by decide +kernel
theorem dX5_init_4 : decode cX5_init 4 = .ok (.aload_n 0, 1) := by decide +kernel
theorem dX5_init_5 : decode cX5_init 5 = .ok (.bipush 30, 2) := by decide +kernel
theorem dX5_init_7 : decode cX5_init 7 = .ok (.newarray .int, 2) := by decide +kernel
theorem dX5_init_9 : decode cX5_init 9 = .ok (.putfield 9, 3) := by decide +kernel
theorem dX5_init_12 : decode cX5_init 12 = .ok (.aload_n 0, 1) := by decide +kernel
theorem dX5_init_13 : decode cX5_init 13 = .ok (.bipush 30, 2) := by decide +kernel
theorem dX5_init_15 : decode cX5_init 15 = .ok (.newarray .int, 2) := by decide +kernel
theorem dX5_init_17 : decode cX5_init 17 = .ok (.putfield 15, 3) := by decide +kernel
theorem dX5_init_20 : decode cX5_init 20 = .ok (.aload_n 0, 1) := by decide +kernel
theorem dX5_init_21 : decode cX5_init 21 = .ok (.bipush 30, 2) := by decide +kernel
theorem dX5_init_23 : decode cX5_init 23 = .ok (.newarray .int, 2) := by decide +kernel
theorem dX5_init_25 : decode cX5_init 25 = .ok (.putfield 18, 3) := by decide +kernel
theorem dX5_init_28 : decode cX5_init 28 = .ok (.aload_n 0, 1) := by decide +kernel
theorem dX5_init_29 : decode cX5_init 29 = .ok (.bipush 9, 2) := by decide +kernel
theorem dX5_init_31 : decode cX5_init 31 = .ok (.newarray .int, 2) := by decide +kernel
theorem dX5_init_33 : decode cX5_init 33 = .ok (.putfield 21, 3) := by decide +kernel
theorem dX5_init_36 : decode cX5_init 36 = .ok (.aload_n 0, 1) := by decide +kernel
theorem dX5_init_37 : decode cX5_init 37 = .ok (.sipush 270, 3) := by decide +kernel
theorem dX5_init_40 : decode cX5_init 40 = .ok (.newarray .int, 2) := by decide +kernel
theorem dX5_init_42 : decode cX5_init 42 = .ok (.putfield 24, 3) := by decide +kernel
theorem dX5_init_45 : decode cX5_init 45 = .ok (.return_, 1) := by decide +kernel
theorem dX5_copyFrom_0 : decode cX5_copyFrom 0 = .ok (.aload_n 0, 1) := by decide +kernel
theorem dX5_copyFrom_1 : decode cX5_copyFrom 1 = .ok (.aload_n 1, 1) := by decide +kernel
theorem dX5_copyFrom_2 : decode cX5_copyFrom 2 = .ok (.getfield 27, 3) := by decide +kernel
theorem dX5_copyFrom_5 : decode cX5_copyFrom 5 = .ok (.putfield 27, 3) := by decide +kernel
theorem dX5_copyFrom_8 : decode cX5_copyFrom 8 = .ok (.aload_n 0, 1) := by decide +kernel
theorem dX5_copyFrom_9 : decode cX5_copyFrom 9 = .ok (.aload_n 1, 1) := by decide +kernel
theorem dX5_copyFrom_10 : decode cX5_copyFrom 10 = .ok (.getfield 31, 3) := by decide +kernel
theorem dX5_copyFrom_13 : decode cX5_copyFrom 13 = .ok (.putfield 31, 3) := by decide +kernel
theorem dX5_copyFrom_16 : decode cX5_copyFrom 16 = .ok (.aload_n 1, 1) := by decide +kernel
theorem dX5_copyFrom_17 : decode cX5_copyFrom 17 = .ok (.getfield 9, 3) := by decide +kernel
theorem dX5_copyFrom_20 : decode cX5_copyFrom 20 = .ok (.iconst 0, 1) := by decide +kernel
theorem dX5_copyFrom_21 : decode cX5_copyFrom 21 = .ok (.aload_n 0, 1) := by decide +kernel
theorem dX5_copyFrom_22 : decode cX5_copyFrom 22 = .ok (.getfield 9, 3) := by decide +kernel
theorem dX5_copyFrom_25 : decode cX5_copyFrom 25 = .ok (.iconst 0, 1) := by decide +kernel
theorem dX5_copyFrom_26 : decode cX5_copyFrom 26 = .ok (.bipush 30, 2) := by decide +kernel
theorem dX5_copyFrom_28 : decode cX5_copyFrom 28 = .ok (.invokestatic 34, 3) := by decide +kernel
theorem dX5_copyFrom_31 : decode cX5_copyFrom 31 = .ok (.aload_n 1, 1) := by decide +kernel
theorem dX5_copyFrom_32 : decode cX5_copyFrom 32 = .ok (.getfield 15, 3) := by decide +kernel
theorem dX5_copyFrom_35 : decode cX5_copyFrom 35 = .ok (.iconst 0, 1) := by decide +kernel
theorem dX5_copyFrom_36 : decode cX5_copyFrom 36 = .ok (.aload_n 0, 1) := by decide +kernel
theorem dX5_copyFrom_37 : decode cX5_copyFrom 37 = .ok (.getfield 15, 3) := by decide +kernel
theorem dX5_copyFrom_40 : decode cX5_copyFrom 40 = .ok (.iconst 0, 1) := by decide +kernel
theorem dX5_copyFrom_41 : decode cX5_copyFrom 41 = .ok (.bipush 30, 2) := by decide +kernel
theorem dX5_copyFrom_43 : decode cX5_copyFrom 43 = .ok (.invokestatic 34, 3) := by decide +kernel
theorem dX5_copyFrom_46 : decode cX5_copyFrom 46 = .ok (.aload_n 1, 1) := by decide +kernel
theorem dX5_copyFrom_47 : decode cX5_copyFrom 47 = .ok (.getfield 18, 3) := by decide +kernel
theorem dX5_copyFrom_50 : decode cX5_copyFrom 50 = .ok (.iconst 0, 1) := by decide +kernel
theorem dX5_copyFrom_51 : decode cX5_copyFrom 51 = .ok (.aload_n 0, 1) := by decide +kernel
theorem dX5_copyFrom_52 : decode cX5_copyFrom 52 = .ok (.getfield 18, 3) := by decide +kernel
theorem dX5_copyFrom_55 : decode cX5_copyFrom 55 = .ok (.iconst 0, 1) := by decide +kernel
theorem dX5_copyFrom_56 : decode cX5_copyFrom 56 = .ok (.bipush 30, 2) := by decide +kernel
theorem dX5_copyFrom_58 : decode cX5_copyFrom 58 = .ok (.invokestatic 34, 3) := by decide +kernel
theorem dX5_copyFrom_61 : decode cX5_copyFrom 61 = .ok (.aload_n 1, 1) := by decide +kernel
theorem dX5_copyFrom_62 : decode cX5_copyFrom 62 = .ok (.getfield 21, 3) := by decide +kernel
theorem dX5_copyFrom_65 : decode cX5_copyFrom 65 = .ok (.iconst 0, 1) := by decide +kernel
theorem dX5_copyFrom_66 : decode cX5_copyFrom 66 = .ok (.aload_n 0, 1) := by decide +kernel
theorem dX5_copyFrom_67 : decode cX5_copyFrom 67 = .ok (.getfield 21, 3) := by decide +kernel
theorem dX5_copyFrom_70 : decode cX5_copyFrom 70 = .ok (.iconst 0, 1) := by decide +kernel
theorem dX5_copyFrom_71 : decode cX5_copyFrom 71 = .ok (.bipush 9, 2) := by decide +kernel
theorem dX5_copyFrom_73 : decode cX5_copyFrom 73 = .ok (.invokestatic 34, 3) := by decide +kernel
theorem dX5_copyFrom_76 : decode cX5_copyFrom 76 = .ok (.aload_n 1, 1) := by decide +kernel
theorem dX5_copyFrom_77 : decode cX5_copyFrom 77 = .ok (.getfield 24, 3) := by decide +kernel
theorem dX5_copyFrom_80 : decode cX5_copyFrom 80 = .ok (.iconst 0, 1) := by decide +kernel
theorem dX5_copyFrom_81 : decode cX5_copyFrom 81 = .ok (.aload_n 0, 1) := by decide +kernel
theorem dX5_copyFrom_82 : decode cX5_copyFrom 82 = .ok (.getfield 24, 3) := by decide +kernel
theorem dX5_copyFrom_85 : decode cX5_copyFrom 85 = .ok (.iconst 0, 1) := by decide +kernel
theorem dX5_copyFrom_86 : decode cX5_copyFrom 86 = .ok (.sipush 270, 3) := by decide +kernel
theorem dX5_copyFrom_89 : decode cX5_copyFrom 89 = .ok (.invokestatic 34, 3) := by decide +kernel
theorem dX5_copyFrom_92 : decode cX5_copyFrom 92 = .ok (.return_, 1) := by decide +kernel
theorem dX5_add_0 : decode cX5_add 0 = .ok (.aload_n 0, 1) := by decide +kernel
theorem dX5_add_1 : decode cX5_add 1 = .ok (.getfield 9, 3) := by decide +kernel
theorem dX5_add_4 : decode cX5_add 4 = .ok (.aload_n 0, 1) := by decide +kernel
theorem dX5_add_5 : decode cX5_add 5 = .ok (.getfield 27, 3) := by decide +kernel
theorem dX5_add_8 : decode cX5_add 8 = .ok (.iload_n 2, 1) := by decide +kernel
theorem dX5_add_9 : decode cX5_add 9 = .ok (.iastore, 1) := by decide +kernel
theorem dX5_add_10 : decode cX5_add 10 = .ok (.aload_n 0, 1) := by decide +kernel
theorem dX5_add_11 : decode cX5_add 11 = .ok (.getfield 24, 3) := by decide +kernel
theorem dX5_add_14 : decode cX5_add 14 = .ok (.iload_n 1, 1) := by decide +kernel
theorem dX5_add_15 : decode cX5_add 15 = .ok (.bipush 30, 2) := by decide +kernel
theorem dX5_add_17 : decode cX5_add 17 = .ok (.imul, 1) := by decide +kernel
theorem dX5_add_18 : decode cX5_add 18 = .ok (.aload_n 0, 1) := by decide +kernel
theorem dX5_add_19 : decode cX5_add 19 = .ok (.getfield 21, 3) := by decide +kernel
theorem dX5_add_22 : decode cX5_add 22 = .ok (.iload_n 1, 1) := by decide +kernel
theorem dX5_add_23 : decode cX5_add 23 = .ok (.iaload, 1) := by decide +kernel
theorem dX5_add_24 : decode cX5_add 24 = .ok (.iadd, 1) := by decide +kernel
theorem dX5_add_25 : decode cX5_add 25 = .ok (.aload_n 0, 1) := by decide +kernel
theorem dX5_add_26 : decode cX5_add 26 = .ok (.getfield 27, 3) := by decide +kernel
theorem dX5_add_29 : decode cX5_add 29 = .ok (.iastore, 1) := by decide +kernel
theorem dX5_add_30 : decode cX5_add 30 = .ok (.aload_n 0, 1) := by decide +kernel
theorem dX5_add_31 : decode cX5_add 31 = .ok (.getfield 21, 3) := by decide +kernel
theorem dX5_add_34 : decode cX5_add 34 = .ok (.iload_n 1, 1) := by decide +kernel
theorem dX5_add_35 : decode cX5_add 35 = .ok (.dup2, 1) := by decide +kernel
theorem dX5_add_36 : decode cX5_add 36 = .ok (.iaload, 1) := by decide +kernel
theorem dX5_add_37 : decode cX5_add 37 = .ok (.iconst 1, 1) := by decide +kernel
theorem dX5_add_38 : decode cX5_add 38 = .ok (.iadd, 1) := by decide +kernel
theorem dX5_add_39 : decode cX5_add 39 = .ok (.iastore, 1) := by decide +kernel
theorem dX5_add_40 : decode cX5_add 40 = .ok (.aload_n 0, 1) := by decide +kernel
theorem dX5_add_41 : decode cX5_add 41 = .ok (.dup, 1) := by decide +kernel
theorem dX5_add_42 : decode cX5_add 42 = .ok (.getfield 27, 3) := by decide +kernel
theorem dX5_add_45 : decode cX5_add 45 = .ok (.iconst 1, 1) := by decide +kernel
theorem dX5_add_46 : decode cX5_add 46 = .ok (.iadd, 1) := by decide +kernel
theorem dX5_add_47 : decode cX5_add 47 = .ok (.putfield 27, 3) := by decide +kernel
theorem dX5_add_50 : decode cX5_add 50 = .ok (.aload_n 0, 1) := by decide +kernel
theorem dX5_add_51 : decode cX5_add 51 = .ok (.getfield 27, 3) := by decide +kernel
theorem dX5_add_54 : decode cX5_add 54 = .ok (.iconst 1, 1) := by decide +kernel
theorem dX5_add_55 : decode cX5_add 55 = .ok (.isub, 1) := by decide +kernel
theorem dX5_add_56 : decode cX5_add 56 = .ok (.ireturn, 1) := by decide +kernel
theorem dX5_manyIn_0 : decode cX5_manyIn 0 = .ok (.aload_n 0, 1) := by decide +kernel
theorem dX5_manyIn_1 : decode cX5_manyIn 1 = .ok (.getfield 21, 3) := by decide +kernel
theorem dX5_manyIn_4 : decode cX5_manyIn 4 = .ok (.iload_n 1, 1) := by decide +kernel
theorem dX5_manyIn_5 : decode cX5_manyIn 5 = .ok (.iaload, 1) := by decide +kernel
theorem dX5_manyIn_6 : decode cX5_manyIn 6 = .ok (.ireturn, 1) := by decide +kernel
theorem dX5_wagonAt_0 : decode cX5_wagonAt 0 = .ok (.iload_n 2, 1) := by decide +kernel
theorem dX5_wagonAt_1 : decode cX5_wagonAt 1 = .ok (.ifCond .lt 13, 3) := by decide +kernel
theorem dX5_wagonAt_4 : decode cX5_wagonAt 4 = .ok (.iload_n 2, 1) := by decide +kernel
theorem dX5_wagonAt_5 : decode cX5_wagonAt 5 = .ok (.aload_n 0, 1) := by decide +kernel
theorem dX5_wagonAt_6 : decode cX5_wagonAt 6 = .ok (.getfield 21, 3) := by decide +kernel
theorem dX5_wagonAt_9 : decode cX5_wagonAt 9 = .ok (.iload_n 1, 1) := by decide +kernel
theorem dX5_wagonAt_10 : decode cX5_wagonAt 10 = .ok (.iaload, 1) := by decide +kernel
theorem dX5_wagonAt_11 : decode cX5_wagonAt 11 = .ok (.if_icmp .lt 6, 3) := by decide +kernel
theorem dX5_wagonAt_14 : decode cX5_wagonAt 14 = .ok (.bipush (-6), 2) := by decide +kernel
theorem dX5_wagonAt_16 : decode cX5_wagonAt 16 = .ok (.ireturn, 1) := by decide +kernel
theorem dX5_wagonAt_17 : decode cX5_wagonAt 17 = .ok (.iload_n 1, 1) := by decide +kernel
theorem dX5_wagonAt_18 : decode cX5_wagonAt 18 = .ok (.bipush 8, 2) := by decide +kernel
theorem dX5_wagonAt_20 : decode cX5_wagonAt 20 = .ok (.if_icmp .ne 7, 3) := by decide +kernel
theorem dX5_wagonAt_23 : decode cX5_wagonAt 23 = .ok (.iload_n 2, 1) := by decide +kernel
theorem dX5_wagonAt_24 : decode cX5_wagonAt 24 = .ok (.goto 13, 3) := by decide +kernel
theorem dX5_wagonAt_27 : decode cX5_wagonAt 27 = .ok (.aload_n 0, 1) := by decide +kernel
theorem dX5_wagonAt_28 : decode cX5_wagonAt 28 = .ok (.getfield 21, 3) := by decide +kernel
theorem dX5_wagonAt_31 : decode cX5_wagonAt 31 = .ok (.iload_n 1, 1) := by decide +kernel
theorem dX5_wagonAt_32 : decode cX5_wagonAt 32 = .ok (.iaload, 1) := by decide +kernel
theorem dX5_wagonAt_33 : decode cX5_wagonAt 33 = .ok (.iconst 1, 1) := by decide +kernel
theorem dX5_wagonAt_34 : decode cX5_wagonAt 34 = .ok (.isub, 1) := by decide +kernel
theorem dX5_wagonAt_35 : decode cX5_wagonAt 35 = .ok (.iload_n 2, 1) := by decide +kernel
theorem dX5_wagonAt_36 : decode cX5_wagonAt 36 = .ok (.isub, 1) := by decide +kernel
theorem dX5_wagonAt_37 : decode cX5_wagonAt 37 = .ok (.istore_n 3, 1) := by decide +kernel
theorem dX5_wagonAt_38 : decode cX5_wagonAt 38 = .ok (.aload_n 0, 1) := by decide +kernel
theorem dX5_wagonAt_39 : decode cX5_wagonAt 39 = .ok (.getfield 24, 3) := by decide +kernel
theorem dX5_wagonAt_42 : decode cX5_wagonAt 42 = .ok (.iload_n 1, 1) := by decide +kernel
theorem dX5_wagonAt_43 : decode cX5_wagonAt 43 = .ok (.bipush 30, 2) := by decide +kernel
theorem dX5_wagonAt_45 : decode cX5_wagonAt 45 = .ok (.imul, 1) := by decide +kernel
theorem dX5_wagonAt_46 : decode cX5_wagonAt 46 = .ok (.iload_n 3, 1) := by decide +kernel
theorem dX5_wagonAt_47 : decode cX5_wagonAt 47 = .ok (.iadd, 1) := by decide +kernel
theorem dX5_wagonAt_48 : decode cX5_wagonAt 48 = .ok (.iaload, 1) := by decide +kernel
theorem dX5_wagonAt_49 : decode cX5_wagonAt 49 = .ok (.ireturn, 1) := by decide +kernel
theorem dX5_rowOf_0 : decode cX5_rowOf 0 = .ok (.iconst 0, 1) := by decide +kernel
theorem dX5_rowOf_1 : decode cX5_rowOf 1 = .ok (.istore_n 2, 1) := by decide +kernel
theorem dX5_rowOf_2 : decode cX5_rowOf 2 = .ok (.iload_n 2, 1) := by decide +kernel
theorem dX5_rowOf_3 : decode cX5_rowOf 3 = .ok (.bipush 9, 2) := by decide +kernel
theorem dX5_rowOf_5 : decode cX5_rowOf 5 = .ok (.if_icmp .ge 22, 3) := by decide +kernel
theorem dX5_rowOf_8 : decode cX5_rowOf 8 = .ok (.aload_n 0, 1) := by decide +kernel
theorem dX5_rowOf_9 : decode cX5_rowOf 9 = .ok (.iload_n 2, 1) := by decide +kernel
theorem dX5_rowOf_10 : decode cX5_rowOf 10 = .ok (.iload_n 1, 1) := by decide +kernel
theorem dX5_rowOf_11 : decode cX5_rowOf 11 = .ok (.invokevirtual 40, 3) := by decide +kernel
theorem dX5_rowOf_14 : decode cX5_rowOf 14 = .ok (.bipush (-6), 2) := by decide +kernel
theorem dX5_rowOf_16 : decode cX5_rowOf 16 = .ok (.if_icmp .eq 5, 3) := by decide +kernel
theorem dX5_rowOf_19 : decode cX5_rowOf 19 = .ok (.iload_n 2, 1) := by decide +kernel
theorem dX5_rowOf_20 : decode cX5_rowOf 20 = .ok (.ireturn, 1) := by decide +kernel
theorem dX5_rowOf_21 : decode cX5_rowOf 21 = .ok (.iinc 2 1, 3) := by decide +kernel
theorem dX5_rowOf_24 : decode cX5_rowOf 24 = .ok (.goto (-22), 3) := by decide +kernel
theorem dX5_rowOf_27 : decode cX5_rowOf 27 = .ok (.bipush (-6), 2) := by decide +kernel
theorem dX5_rowOf_29 : decode cX5_rowOf 29 = .ok (.ireturn, 1) := by decide +kernel
theorem dX5_placeIn_0 : decode cX5_placeIn 0 = .ok (.aload_n 0, 1) := by decide +kernel
theorem dX5_placeIn_1 : decode cX5_placeIn 1 = .ok (.getfield 21, 3) := by decide +kernel
theorem dX5_placeIn_4 : decode cX5_placeIn 4 = .ok (.iload_n 1, 1) := by decide +kernel
theorem dX5_placeIn_5 : decode cX5_placeIn 5 = .ok (.iaload, 1) := by decide +kernel
theorem dX5_placeIn_6 : decode cX5_placeIn 6 = .ok (.istore_n 3, 1) := by decide +kernel
theorem dX5_placeIn_7 : decode cX5_placeIn 7 = .ok (.iconst 0, 1) := by decide +kernel
theorem dX5_placeIn_8 : decode cX5_placeIn 8 = .ok (.istore 4, 2) := by decide +kernel
theorem dX5_placeIn_10 : decode cX5_placeIn 10 = .ok (.iload 4, 2) := by decide +kernel
theorem dX5_placeIn_12 : decode cX5_placeIn 12 = .ok (.iload_n 3, 1) := by decide +kernel
theorem dX5_placeIn_13 : decode cX5_placeIn 13 = .ok (.if_icmp .ge 43, 3) := by decide +kernel
theorem dX5_placeIn_16 : decode cX5_placeIn 16 = .ok (.aload_n 0, 1) := by decide +kernel
theorem dX5_placeIn_17 : decode cX5_placeIn 17 = .ok (.getfield 24, 3) := by decide +kernel
theorem dX5_placeIn_20 : decode cX5_placeIn 20 = .ok (.iload_n 1, 1) := by decide +kernel
theorem dX5_placeIn_21 : decode cX5_placeIn 21 = .ok (.bipush 30, 2) := by decide +kernel
theorem dX5_placeIn_23 : decode cX5_placeIn 23 = .ok (.imul, 1) := by decide +kernel
theorem dX5_placeIn_24 : decode cX5_placeIn 24 = .ok (.iload 4, 2) := by decide +kernel
theorem dX5_placeIn_26 : decode cX5_placeIn 26 = .ok (.iadd, 1) := by decide +kernel
theorem dX5_placeIn_27 : decode cX5_placeIn 27 = .ok (.iaload, 1) := by decide +kernel
theorem dX5_placeIn_28 : decode cX5_placeIn 28 = .ok (.iload_n 2, 1) := by decide +kernel
theorem dX5_placeIn_29 : decode cX5_placeIn 29 = .ok (.if_icmp .ne 21, 3) := by decide +kernel
theorem dX5_placeIn_32 : decode cX5_placeIn 32 = .ok (.iload_n 1, 1) := by decide +kernel
theorem dX5_placeIn_33 : decode cX5_placeIn 33 = .ok (.bipush 8, 2) := by decide +kernel
theorem dX5_placeIn_35 : decode cX5_placeIn 35 = .ok (.if_icmp .ne 8, 3) := by decide +kernel
theorem dX5_placeIn_38 : decode cX5_placeIn 38 = .ok (.iload 4, 2) := by decide +kernel
theorem dX5_placeIn_40 : decode cX5_placeIn 40 = .ok (.goto 9, 3) := by decide +kernel
theorem dX5_placeIn_43 : decode cX5_placeIn 43 = .ok (.iload_n 3, 1) := by decide +kernel
theorem dX5_placeIn_44 : decode cX5_placeIn 44 = .ok (.iconst 1, 1) := by decide +kernel
theorem dX5_placeIn_45 : decode cX5_placeIn 45 = .ok (.isub, 1) := by decide +kernel
theorem dX5_placeIn_46 : decode cX5_placeIn 46 = .ok (.iload 4, 2) := by decide +kernel
theorem dX5_placeIn_48 : decode cX5_placeIn 48 = .ok (.isub, 1) := by decide +kernel
theorem dX5_placeIn_49 : decode cX5_placeIn 49 = .ok (.ireturn, 1) := by decide +kernel
theorem dX5_placeIn_50 : decode cX5_placeIn 50 = .ok (.iinc 4 1, 3) := by decide +kernel
theorem dX5_placeIn_53 : decode cX5_placeIn 53 = .ok (.goto (-43), 3) := by decide +kernel
theorem dX5_placeIn_56 : decode cX5_placeIn 56 = .ok (.bipush (-6), 2) := by decide +kernel
theorem dX5_placeIn_58 : decode cX5_placeIn 58 = .ok (.ireturn, 1) := by decide +kernel
theorem dX5_lengthOfWagon_0 : decode cX5_lengthOfWagon 0 = .ok (.iload_n 1, 1) := by decide +kernel
theorem dX5_lengthOfWagon_1 : decode cX5_lengthOfWagon 1 = .ok (.ifCond .lt 20, 3) := by decide +kernel
theorem dX5_lengthOfWagon_4 : decode cX5_lengthOfWagon 4 = .ok (.iload_n 1, 1) := by decide +kernel
theorem dX5_lengthOfWagon_5 : decode cX5_lengthOfWagon 5 = .ok (.aload_n 0, 1) := by decide +kernel
theorem dX5_lengthOfWagon_6 : decode cX5_lengthOfWagon 6 = .ok (.getfield 27, 3) := by decide +kernel
theorem dX5_lengthOfWagon_9 : decode cX5_lengthOfWagon 9 = .ok (.if_icmp .ge 12, 3) := by decide +kernel
theorem dX5_lengthOfWagon_12 : decode cX5_lengthOfWagon 12 = .ok (.aload_n 0, 1) := by decide +kernel
theorem dX5_lengthOfWagon_13 : decode cX5_lengthOfWagon 13 = .ok (.getfield 9, 3) := by decide +kernel
theorem dX5_lengthOfWagon_16 : decode cX5_lengthOfWagon 16 = .ok (.iload_n 1, 1) := by decide +kernel
theorem dX5_lengthOfWagon_17 : decode cX5_lengthOfWagon 17 = .ok (.iaload, 1) := by decide +kernel
theorem dX5_lengthOfWagon_18 : decode cX5_lengthOfWagon 18 = .ok (.goto 4, 3) := by decide +kernel
theorem dX5_lengthOfWagon_21 : decode cX5_lengthOfWagon 21 = .ok (.iconst 0, 1) := by decide +kernel
theorem dX5_lengthOfWagon_22 : decode cX5_lengthOfWagon 22 = .ok (.ireturn, 1) := by decide +kernel
theorem dX5_lengthOfRow_0 : decode cX5_lengthOfRow 0 = .ok (.iconst 0, 1) := by decide +kernel
theorem dX5_lengthOfRow_1 : decode cX5_lengthOfRow 1 = .ok (.istore_n 2, 1) := by decide +kernel
theorem dX5_lengthOfRow_2 : decode cX5_lengthOfRow 2 = .ok (.iconst 0, 1) := by decide +kernel
theorem dX5_lengthOfRow_3 : decode cX5_lengthOfRow 3 = .ok (.istore_n 3, 1) := by decide +kernel
theorem dX5_lengthOfRow_4 : decode cX5_lengthOfRow 4 = .ok (.iload_n 3, 1) := by decide +kernel
theorem dX5_lengthOfRow_5 : decode cX5_lengthOfRow 5 = .ok (.aload_n 0, 1) := by decide +kernel
theorem dX5_lengthOfRow_6 : decode cX5_lengthOfRow 6 = .ok (.getfield 21, 3) := by decide +kernel
theorem dX5_lengthOfRow_9 : decode cX5_lengthOfRow 9 = .ok (.iload_n 1, 1) := by decide +kernel
theorem dX5_lengthOfRow_10 : decode cX5_lengthOfRow 10 = .ok (.iaload, 1) := by decide +kernel
theorem dX5_lengthOfRow_11 : decode cX5_lengthOfRow 11 = .ok (.if_icmp .ge 28, 3) := by decide +kernel
theorem dX5_lengthOfRow_14 : decode cX5_lengthOfRow 14 = .ok (.iload_n 2, 1) := by decide +kernel
theorem dX5_lengthOfRow_15 : decode cX5_lengthOfRow 15 = .ok (.aload_n 0, 1) := by decide +kernel
theorem dX5_lengthOfRow_16 : decode cX5_lengthOfRow 16 = .ok (.getfield 9, 3) := by decide +kernel
theorem dX5_lengthOfRow_19 : decode cX5_lengthOfRow 19 = .ok (.aload_n 0, 1) := by decide +kernel
theorem dX5_lengthOfRow_20 : decode cX5_lengthOfRow 20 = .ok (.getfield 24, 3) := by decide +kernel
theorem dX5_lengthOfRow_23 : decode cX5_lengthOfRow 23 = .ok (.iload_n 1, 1) := by decide +kernel
theorem dX5_lengthOfRow_24 : decode cX5_lengthOfRow 24 = .ok (.bipush 30, 2) := by decide +kernel
theorem dX5_lengthOfRow_26 : decode cX5_lengthOfRow 26 = .ok (.imul, 1) := by decide +kernel
theorem dX5_lengthOfRow_27 : decode cX5_lengthOfRow 27 = .ok (.iload_n 3, 1) := by decide +kernel
theorem dX5_lengthOfRow_28 : decode cX5_lengthOfRow 28 = .ok (.iadd, 1) := by decide +kernel
theorem dX5_lengthOfRow_29 : decode cX5_lengthOfRow 29 = .ok (.iaload, 1) := by decide +kernel
theorem dX5_lengthOfRow_30 : decode cX5_lengthOfRow 30 = .ok (.iaload, 1) := by decide +kernel
theorem dX5_lengthOfRow_31 : decode cX5_lengthOfRow 31 = .ok (.iadd, 1) := by decide +kernel
theorem dX5_lengthOfRow_32 : decode cX5_lengthOfRow 32 = .ok (.istore_n 2, 1) := by decide +kernel
theorem dX5_lengthOfRow_33 : decode cX5_lengthOfRow 33 = .ok (.iinc 3 1, 3) := by decide +kernel
theorem dX5_lengthOfRow_36 : decode cX5_lengthOfRow 36 = .ok (.goto (-32), 3) := by decide +kernel
theorem dX5_lengthOfRow_39 : decode cX5_lengthOfRow 39 = .ok (.iload_n 2, 1) := by decide +kernel
theorem dX5_lengthOfRow_40 : decode cX5_lengthOfRow 40 = .ok (.ireturn, 1) := by decide +kernel
theorem dX5_lengthOfLast_0 : decode cX5_lengthOfLast 0 = .ok (.iload_n 1, 1) := by decide +kernel
theorem dX5_lengthOfLast_1 : decode cX5_lengthOfLast 1 = .ok (.bipush 30, 2) := by decide +kernel
theorem dX5_lengthOfLast_3 : decode cX5_lengthOfLast 3 = .ok (.imul, 1) := by decide +kernel
theorem dX5_lengthOfLast_4 : decode cX5_lengthOfLast 4 = .ok (.aload_n 0, 1) := by decide +kernel
theorem dX5_lengthOfLast_5 : decode cX5_lengthOfLast 5 = .ok (.getfield 21, 3) := by decide +kernel
theorem dX5_lengthOfLast_8 : decode cX5_lengthOfLast 8 = .ok (.iload_n 1, 1) := by decide +kernel
theorem dX5_lengthOfLast_9 : decode cX5_lengthOfLast 9 = .ok (.iaload, 1) := by decide +kernel
theorem dX5_lengthOfLast_10 : decode cX5_lengthOfLast 10 = .ok (.iadd, 1) := by decide +kernel
theorem dX5_lengthOfLast_11 : decode cX5_lengthOfLast 11 = .ok (.iconst 1, 1) := by decide +kernel
theorem dX5_lengthOfLast_12 : decode cX5_lengthOfLast 12 = .ok (.isub, 1) := by decide +kernel
theorem dX5_lengthOfLast_13 : decode cX5_lengthOfLast 13 = .ok (.istore_n 3, 1) := by decide +kernel
theorem dX5_lengthOfLast_14 : decode cX5_lengthOfLast 14 = .ok (.iconst 0, 1) := by decide +kernel
theorem dX5_lengthOfLast_15 : decode cX5_lengthOfLast 15 = .ok (.istore 4, 2) := by decide +kernel
theorem dX5_lengthOfLast_17 : decode cX5_lengthOfLast 17 = .ok (.iconst 0, 1) := by decide +kernel
theorem dX5_lengthOfLast_18 : decode cX5_lengthOfLast 18 = .ok (.istore 5, 2) := by decide +kernel
theorem dX5_lengthOfLast_20 : decode cX5_lengthOfLast 20 = .ok (.iload 5, 2) := by decide +kernel
theorem dX5_lengthOfLast_22 : decode cX5_lengthOfLast 22 = .ok (.iload_n 2, 1) := by decide +kernel
theorem dX5_lengthOfLast_23 : decode cX5_lengthOfLast 23 = .ok (.if_icmp .ge 39, 3) := by decide +kernel
theorem dX5_lengthOfLast_26 : decode cX5_lengthOfLast 26 = .ok (.iload 5, 2) := by decide +kernel
theorem dX5_lengthOfLast_28 : decode cX5_lengthOfLast 28 = .ok (.aload_n 0, 1) := by decide +kernel
theorem dX5_lengthOfLast_29 : decode cX5_lengthOfLast 29 = .ok (.getfield 21, 3) := by decide +kernel
theorem dX5_lengthOfLast_32 : decode cX5_lengthOfLast 32 = .ok (.iload_n 1, 1) := by decide +kernel
theorem dX5_lengthOfLast_33 : decode cX5_lengthOfLast 33 = .ok (.iaload, 1) := by decide +kernel
theorem dX5_lengthOfLast_34 : decode cX5_lengthOfLast 34 = .ok (.if_icmp .ge 28, 3) := by decide +kernel
theorem dX5_lengthOfLast_37 : decode cX5_lengthOfLast 37 = .ok (.iload 4, 2) := by decide +kernel
theorem dX5_lengthOfLast_39 : decode cX5_lengthOfLast 39 = .ok (.aload_n 0, 1) := by decide +kernel
theorem dX5_lengthOfLast_40 : decode cX5_lengthOfLast 40 = .ok (.getfield 9, 3) := by decide +kernel
theorem dX5_lengthOfLast_43 : decode cX5_lengthOfLast 43 = .ok (.aload_n 0, 1) := by decide +kernel
theorem dX5_lengthOfLast_44 : decode cX5_lengthOfLast 44 = .ok (.getfield 24, 3) := by decide +kernel
theorem dX5_lengthOfLast_47 : decode cX5_lengthOfLast 47 = .ok (.iload_n 3, 1) := by decide +kernel
theorem dX5_lengthOfLast_48 : decode cX5_lengthOfLast 48 = .ok (.iload 5, 2) := by decide +kernel
theorem dX5_lengthOfLast_50 : decode cX5_lengthOfLast 50 = .ok (.isub, 1) := by decide +kernel
theorem dX5_lengthOfLast_51 : decode cX5_lengthOfLast 51 = .ok (.iaload, 1) := by decide +kernel
theorem dX5_lengthOfLast_52 : decode cX5_lengthOfLast 52 = .ok (.iaload, 1) := by decide +kernel
theorem dX5_lengthOfLast_53 : decode cX5_lengthOfLast 53 = .ok (.iadd, 1) := by decide +kernel
theorem dX5_lengthOfLast_54 : decode cX5_lengthOfLast 54 = .ok (.istore 4, 2) := by decide +kernel
theorem dX5_lengthOfLast_56 : decode cX5_lengthOfLast 56 = .ok (.iinc 5 1, 3) := by decide +kernel
theorem dX5_lengthOfLast_59 : decode cX5_lengthOfLast 59 = .ok (.goto (-39), 3) := by decide +kernel
theorem dX5_lengthOfLast_62 : decode cX5_lengthOfLast 62 = .ok (.iload 4, 2) := by decide +kernel
theorem dX5_lengthOfLast_64 : decode cX5_lengthOfLast 64 = .ok (.ireturn, 1) := by decide +kernel
theorem dX5_shift_0 : decode cX5_shift 0 = .ok (.iload_n 3, 1) := by decide +kernel
theorem dX5_shift_1 : decode cX5_shift 1 = .ok (.aload_n 0, 1) := by decide +kernel
theorem dX5_shift_2 : decode cX5_shift 2 = .ok (.getfield 21, 3) := by decide +kernel
theorem dX5_shift_5 : decode cX5_shift 5 = .ok (.iload_n 1, 1) := by decide +kernel
theorem dX5_shift_6 : decode cX5_shift 6 = .ok (.iaload, 1) := by decide +kernel
theorem dX5_shift_7 : decode cX5_shift 7 = .ok (.invokestatic 44, 3) := by decide +kernel
theorem dX5_shift_10 : decode cX5_shift 10 = .ok (.istore 4, 2) := by decide +kernel
theorem dX5_shift_12 : decode cX5_shift 12 = .ok (.iconst 0, 1) := by decide +kernel
theorem dX5_shift_13 : decode cX5_shift 13 = .ok (.istore 5, 2) := by decide +kernel
theorem dX5_shift_15 : decode cX5_shift 15 = .ok (.iload 5, 2) := by decide +kernel
theorem dX5_shift_17 : decode cX5_shift 17 = .ok (.iload 4, 2) := by decide +kernel
theorem dX5_shift_19 : decode cX5_shift 19 = .ok (.if_icmp .ge 61, 3) := by decide +kernel
theorem dX5_shift_22 : decode cX5_shift 22 = .ok (.aload_n 0, 1) := by decide +kernel
theorem dX5_shift_23 : decode cX5_shift 23 = .ok (.getfield 21, 3) := by decide +kernel
theorem dX5_shift_26 : decode cX5_shift 26 = .ok (.iload_n 1, 1) := by decide +kernel
theorem dX5_shift_27 : decode cX5_shift 27 = .ok (.dup2, 1) := by decide +kernel
theorem dX5_shift_28 : decode cX5_shift 28 = .ok (.iaload, 1) := by decide +kernel
theorem dX5_shift_29 : decode cX5_shift 29 = .ok (.iconst 1, 1) := by decide +kernel
theorem dX5_shift_30 : decode cX5_shift 30 = .ok (.isub, 1) := by decide +kernel
theorem dX5_shift_31 : decode cX5_shift 31 = .ok (.iastore, 1) := by decide +kernel
theorem dX5_shift_32 : decode cX5_shift 32 = .ok (.aload_n 0, 1) := by decide +kernel
theorem dX5_shift_33 : decode cX5_shift 33 = .ok (.getfield 24, 3) := by decide +kernel
theorem dX5_shift_36 : decode cX5_shift 36 = .ok (.iload_n 2, 1) := by decide +kernel
theorem dX5_shift_37 : decode cX5_shift 37 = .ok (.bipush 30, 2) := by decide +kernel
theorem dX5_shift_39 : decode cX5_shift 39 = .ok (.imul, 1) := by decide +kernel
theorem dX5_shift_40 : decode cX5_shift 40 = .ok (.aload_n 0, 1) := by decide +kernel
theorem dX5_shift_41 : decode cX5_shift 41 = .ok (.getfield 21, 3) := by decide +kernel
theorem dX5_shift_44 : decode cX5_shift 44 = .ok (.iload_n 2, 1) := by decide +kernel
theorem dX5_shift_45 : decode cX5_shift 45 = .ok (.iaload, 1) := by decide +kernel
theorem dX5_shift_46 : decode cX5_shift 46 = .ok (.iadd, 1) := by decide +kernel
theorem dX5_shift_47 : decode cX5_shift 47 = .ok (.aload_n 0, 1) := by decide +kernel
theorem dX5_shift_48 : decode cX5_shift 48 = .ok (.getfield 24, 3) := by decide +kernel
theorem dX5_shift_51 : decode cX5_shift 51 = .ok (.iload_n 1, 1) := by decide +kernel
theorem dX5_shift_52 : decode cX5_shift 52 = .ok (.bipush 30, 2) := by decide +kernel
theorem dX5_shift_54 : decode cX5_shift 54 = .ok (.imul, 1) := by decide +kernel
theorem dX5_shift_55 : decode cX5_shift 55 = .ok (.aload_n 0, 1) := by decide +kernel
theorem dX5_shift_56 : decode cX5_shift 56 = .ok (.getfield 21, 3) := by decide +kernel
theorem dX5_shift_59 : decode cX5_shift 59 = .ok (.iload_n 1, 1) := by decide +kernel
theorem dX5_shift_60 : decode cX5_shift 60 = .ok (.iaload, 1) := by decide +kernel
theorem dX5_shift_61 : decode cX5_shift 61 = .ok (.iadd, 1) := by decide +kernel
theorem dX5_shift_62 : decode cX5_shift 62 = .ok (.iaload, 1) := by decide +kernel
theorem dX5_shift_63 : decode cX5_shift 63 = .ok (.iastore, 1) := by decide +kernel
theorem dX5_shift_64 : decode cX5_shift 64 = .ok (.aload_n 0, 1) := by decide +kernel
theorem dX5_shift_65 : decode cX5_shift 65 = .ok (.getfield 21, 3) := by decide +kernel
theorem dX5_shift_68 : decode cX5_shift 68 = .ok (.iload_n 2, 1) := by decide +kernel
theorem dX5_shift_69 : decode cX5_shift 69 = .ok (.dup2, 1) := by decide +kernel
theorem dX5_shift_70 : decode cX5_shift 70 = .ok (.iaload, 1) := by decide +kernel
theorem dX5_shift_71 : decode cX5_shift 71 = .ok (.iconst 1, 1) := by decide +kernel
theorem dX5_shift_72 : decode cX5_shift 72 = .ok (.iadd, 1) := by decide +kernel
theorem dX5_shift_73 : decode cX5_shift 73 = .ok (.iastore, 1) := by decide +kernel
theorem dX5_shift_74 : decode cX5_shift 74 = .ok (.iinc 5 1, 3) := by decide +kernel
theorem dX5_shift_77 : decode cX5_shift 77 = .ok (.goto (-62), 3) := by decide +kernel
theorem dX5_shift_80 : decode cX5_shift 80 = .ok (.return_, 1) := by decide +kernel
theorem dX5_notePulled_0 : decode cX5_notePulled 0 = .ok (.sipush 240, 3) := by decide +kernel
theorem dX5_notePulled_3 : decode cX5_notePulled 3 = .ok (.aload_n 0, 1) := by decide +kernel
theorem dX5_notePulled_4 : decode cX5_notePulled 4 = .ok (.getfield 21, 3) := by decide +kernel
theorem dX5_notePulled_7 : decode cX5_notePulled 7 = .ok (.bipush 8, 2) := by decide +kernel
theorem dX5_notePulled_9 : decode cX5_notePulled 9 = .ok (.iaload, 1) := by decide +kernel
theorem dX5_notePulled_10 : decode cX5_notePulled 10 = .ok (.iadd, 1) := by decide +kernel
theorem dX5_notePulled_11 : decode cX5_notePulled 11 = .ok (.iconst 1, 1) := by decide +kernel
theorem dX5_notePulled_12 : decode cX5_notePulled 12 = .ok (.isub, 1) := by decide +kernel
theorem dX5_notePulled_13 : decode cX5_notePulled 13 = .ok (.istore_n 2, 1) := by decide +kernel
theorem dX5_notePulled_14 : decode cX5_notePulled 14 = .ok (.iconst 0, 1) := by decide +kernel
theorem dX5_notePulled_15 : decode cX5_notePulled 15 = .ok (.istore_n 3, 1) := by decide +kernel
theorem dX5_notePulled_16 : decode cX5_notePulled 16 = .ok (.iload_n 3, 1) := by decide +kernel
theorem dX5_notePulled_17 : decode cX5_notePulled 17 = .ok (.iload_n 1, 1) := by decide +kernel
theorem dX5_notePulled_18 : decode cX5_notePulled 18 = .ok (.if_icmp .ge 37, 3) := by decide +kernel
theorem dX5_notePulled_21 : decode cX5_notePulled 21 = .ok (.iload_n 3, 1) := by decide +kernel
theorem dX5_notePulled_22 : decode cX5_notePulled 22 = .ok (.aload_n 0, 1) := by decide +kernel
theorem dX5_notePulled_23 : decode cX5_notePulled 23 = .ok (.getfield 21, 3) := by decide +kernel
theorem dX5_notePulled_26 : decode cX5_notePulled 26 = .ok (.bipush 8, 2) := by decide +kernel
theorem dX5_notePulled_28 : decode cX5_notePulled 28 = .ok (.iaload, 1) := by decide +kernel
theorem dX5_notePulled_29 : decode cX5_notePulled 29 = .ok (.if_icmp .ge 26, 3) := by decide +kernel
theorem dX5_notePulled_32 : decode cX5_notePulled 32 = .ok (.aload_n 0, 1) := by decide +kernel
theorem dX5_notePulled_33 : decode cX5_notePulled 33 = .ok (.getfield 18, 3) := by decide +kernel
theorem dX5_notePulled_36 : decode cX5_notePulled 36 = .ok (.aload_n 0, 1) := by decide +kernel
theorem dX5_notePulled_37 : decode cX5_notePulled 37 = .ok (.getfield 24, 3) := by decide +kernel
theorem dX5_notePulled_40 : decode cX5_notePulled 40 = .ok (.iload_n 2, 1) := by decide +kernel
theorem dX5_notePulled_41 : decode cX5_notePulled 41 = .ok (.iload_n 3, 1) := by decide +kernel
theorem dX5_notePulled_42 : decode cX5_notePulled 42 = .ok (.isub, 1) := by decide +kernel
theorem dX5_notePulled_43 : decode cX5_notePulled 43 = .ok (.iaload, 1) := by decide +kernel
theorem dX5_notePulled_44 : decode cX5_notePulled 44 = .ok (.dup2, 1) := by decide +kernel
theorem dX5_notePulled_45 : decode cX5_notePulled 45 = .ok (.iaload, 1) := by decide +kernel
theorem dX5_notePulled_46 : decode cX5_notePulled 46 = .ok (.iconst 1, 1) := by decide +kernel
theorem dX5_notePulled_47 : decode cX5_notePulled 47 = .ok (.iadd, 1) := by decide +kernel
theorem dX5_notePulled_48 : decode cX5_notePulled 48 = .ok (.iastore, 1) := by decide +kernel
theorem dX5_notePulled_49 : decode cX5_notePulled 49 = .ok (.iinc 3 1, 3) := by decide +kernel
theorem dX5_notePulled_52 : decode cX5_notePulled 52 = .ok (.goto (-36), 3) := by decide +kernel
theorem dX5_notePulled_55 : decode cX5_notePulled 55 = .ok (.return_, 1) := by decide +kernel
theorem dX5_turnEngine_0 : decode cX5_turnEngine 0 = .ok (.sipush 240, 3) := by decide +kernel
theorem dX5_turnEngine_3 : decode cX5_turnEngine 3 = .ok (.istore_n 1, 1) := by decide +kernel
theorem dX5_turnEngine_4 : decode cX5_turnEngine 4 = .ok (.iload_n 1, 1) := by decide +kernel
theorem dX5_turnEngine_5 : decode cX5_turnEngine 5 = .ok (.aload_n 0, 1) := by decide +kernel
theorem dX5_turnEngine_6 : decode cX5_turnEngine 6 = .ok (.getfield 21, 3) := by decide +kernel
theorem dX5_turnEngine_9 : decode cX5_turnEngine 9 = .ok (.bipush 8, 2) := by decide +kernel
theorem dX5_turnEngine_11 : decode cX5_turnEngine 11 = .ok (.iaload, 1) := by decide +kernel
theorem dX5_turnEngine_12 : decode cX5_turnEngine 12 = .ok (.iadd, 1) := by decide +kernel
theorem dX5_turnEngine_13 : decode cX5_turnEngine 13 = .ok (.iconst 1, 1) := by decide +kernel
theorem dX5_turnEngine_14 : decode cX5_turnEngine 14 = .ok (.isub, 1) := by decide +kernel
theorem dX5_turnEngine_15 : decode cX5_turnEngine 15 = .ok (.istore_n 2, 1) := by decide +kernel
theorem dX5_turnEngine_16 : decode cX5_turnEngine 16 = .ok (.iconst 0, 1) := by decide +kernel
theorem dX5_turnEngine_17 : decode cX5_turnEngine 17 = .ok (.istore_n 3, 1) := by decide +kernel
theorem dX5_turnEngine_18 : decode cX5_turnEngine 18 = .ok (.iload_n 3, 1) := by decide +kernel
theorem dX5_turnEngine_19 : decode cX5_turnEngine 19 = .ok (.aload_n 0, 1) := by decide +kernel
theorem dX5_turnEngine_20 : decode cX5_turnEngine 20 = .ok (.getfield 21, 3) := by decide +kernel
theorem dX5_turnEngine_23 : decode cX5_turnEngine 23 = .ok (.bipush 8, 2) := by decide +kernel
theorem dX5_turnEngine_25 : decode cX5_turnEngine 25 = .ok (.iaload, 1) := by decide +kernel
theorem dX5_turnEngine_26 : decode cX5_turnEngine 26 = .ok (.iconst 2, 1) := by decide +kernel
theorem dX5_turnEngine_27 : decode cX5_turnEngine 27 = .ok (.idiv, 1) := by decide +kernel
theorem dX5_turnEngine_28 : decode cX5_turnEngine 28 = .ok (.if_icmp .ge 45, 3) := by decide +kernel
theorem dX5_turnEngine_31 : decode cX5_turnEngine 31 = .ok (.aload_n 0, 1) := by decide +kernel
theorem dX5_turnEngine_32 : decode cX5_turnEngine 32 = .ok (.getfield 24, 3) := by decide +kernel
theorem dX5_turnEngine_35 : decode cX5_turnEngine 35 = .ok (.iload_n 1, 1) := by decide +kernel
theorem dX5_turnEngine_36 : decode cX5_turnEngine 36 = .ok (.iload_n 3, 1) := by decide +kernel
theorem dX5_turnEngine_37 : decode cX5_turnEngine 37 = .ok (.iadd, 1) := by decide +kernel
theorem dX5_turnEngine_38 : decode cX5_turnEngine 38 = .ok (.iaload, 1) := by decide +kernel
theorem dX5_turnEngine_39 : decode cX5_turnEngine 39 = .ok (.istore 4, 2) := by decide +kernel
theorem dX5_turnEngine_41 : decode cX5_turnEngine 41 = .ok (.aload_n 0, 1) := by decide +kernel
theorem dX5_turnEngine_42 : decode cX5_turnEngine 42 = .ok (.getfield 24, 3) := by decide +kernel
theorem dX5_turnEngine_45 : decode cX5_turnEngine 45 = .ok (.iload_n 1, 1) := by decide +kernel
theorem dX5_turnEngine_46 : decode cX5_turnEngine 46 = .ok (.iload_n 3, 1) := by decide +kernel
theorem dX5_turnEngine_47 : decode cX5_turnEngine 47 = .ok (.iadd, 1) := by decide +kernel
theorem dX5_turnEngine_48 : decode cX5_turnEngine 48 = .ok (.aload_n 0, 1) := by decide +kernel
theorem dX5_turnEngine_49 : decode cX5_turnEngine 49 = .ok (.getfield 24, 3) := by decide +kernel
theorem dX5_turnEngine_52 : decode cX5_turnEngine 52 = .ok (.iload_n 2, 1) := by decide +kernel
theorem dX5_turnEngine_53 : decode cX5_turnEngine 53 = .ok (.iload_n 3, 1) := by decide +kernel
theorem dX5_turnEngine_54 : decode cX5_turnEngine 54 = .ok (.isub, 1) := by decide +kernel
theorem dX5_turnEngine_55 : decode cX5_turnEngine 55 = .ok (.iaload, 1) := by decide +kernel
theorem dX5_turnEngine_56 : decode cX5_turnEngine 56 = .ok (.iastore, 1) := by decide +kernel
theorem dX5_turnEngine_57 : decode cX5_turnEngine 57 = .ok (.aload_n 0, 1) := by decide +kernel
theorem dX5_turnEngine_58 : decode cX5_turnEngine 58 = .ok (.getfield 24, 3) := by decide +kernel
theorem dX5_turnEngine_61 : decode cX5_turnEngine 61 = .ok (.iload_n 2, 1) := by decide +kernel
theorem dX5_turnEngine_62 : decode cX5_turnEngine 62 = .ok (.iload_n 3, 1) := by decide +kernel
theorem dX5_turnEngine_63 : decode cX5_turnEngine 63 = .ok (.isub, 1) := by decide +kernel
theorem dX5_turnEngine_64 : decode cX5_turnEngine 64 = .ok (.iload 4, 2) := by decide +kernel
theorem dX5_turnEngine_66 : decode cX5_turnEngine 66 = .ok (.iastore, 1) := by decide +kernel
theorem dX5_turnEngine_67 : decode cX5_turnEngine 67 = .ok (.iinc 3 1, 3) := by decide +kernel
theorem dX5_turnEngine_70 : decode cX5_turnEngine 70 = .ok (.goto (-52), 3) := by decide +kernel
theorem dX5_turnEngine_73 : decode cX5_turnEngine 73 = .ok (.return_, 1) := by decide +kernel
theorem dX5_engineLeaves_0 : decode cX5_engineLeaves 0 = .ok (.aload_n 0, 1) := by decide +kernel
theorem dX5_engineLeaves_1 : decode cX5_engineLeaves 1 = .ok (.getfield 21, 3) := by decide +kernel
theorem dX5_engineLeaves_4 : decode cX5_engineLeaves 4 = .ok (.bipush 8, 2) := by decide +kernel
theorem dX5_engineLeaves_6 : decode cX5_engineLeaves 6 = .ok (.iaload, 1) := by decide +kernel
theorem dX5_engineLeaves_7 : decode cX5_engineLeaves 7 = .ok (.istore_n 2, 1) := by decide +kernel
theorem dX5_engineLeaves_8 : decode cX5_engineLeaves 8 = .ok (.iconst 0, 1) := by decide +kernel
theorem dX5_engineLeaves_9 : decode cX5_engineLeaves 9 = .ok (.istore_n 3, 1) := by decide +kernel
theorem dX5_engineLeaves_10 : decode cX5_engineLeaves 10 = .ok (.iload_n 3, 1) := by decide +kernel
theorem dX5_engineLeaves_11 : decode cX5_engineLeaves 11 = .ok (.iload_n 2, 1) := by decide +kernel
theorem dX5_engineLeaves_12 : decode cX5_engineLeaves 12 = .ok (.if_icmp .ge 25, 3) := by decide +kernel
theorem dX5_engineLeaves_15 : decode cX5_engineLeaves 15 = .ok (.aload_n 0, 1) := by decide +kernel
theorem dX5_engineLeaves_16 : decode cX5_engineLeaves 16 = .ok (.getfield 15, 3) := by decide +kernel
theorem dX5_engineLeaves_19 : decode cX5_engineLeaves 19 = .ok (.aload_n 0, 1) := by decide +kernel
theorem dX5_engineLeaves_20 : decode cX5_engineLeaves 20 = .ok (.getfield 24, 3) := by decide +kernel
theorem dX5_engineLeaves_23 : decode cX5_engineLeaves 23 = .ok (.sipush 240, 3) := by decide +kernel
theorem dX5_engineLeaves_26 : decode cX5_engineLeaves 26 = .ok (.iload_n 3, 1) := by decide +kernel
theorem dX5_engineLeaves_27 : decode cX5_engineLeaves 27 = .ok (.iadd, 1) := by decide +kernel
theorem dX5_engineLeaves_28 : decode cX5_engineLeaves 28 = .ok (.iaload, 1) := by decide +kernel
theorem dX5_engineLeaves_29 : decode cX5_engineLeaves 29 = .ok (.iload_n 1, 1) := by decide +kernel
theorem dX5_engineLeaves_30 : decode cX5_engineLeaves 30 = .ok (.iastore, 1) := by decide +kernel
theorem dX5_engineLeaves_31 : decode cX5_engineLeaves 31 = .ok (.iinc 3 1, 3) := by decide +kernel
theorem dX5_engineLeaves_34 : decode cX5_engineLeaves 34 = .ok (.goto (-24), 3) := by decide +kernel
theorem dX5_engineLeaves_37 : decode cX5_engineLeaves 37 = .ok (.aload_n 0, 1) := by decide +kernel
theorem dX5_engineLeaves_38 : decode cX5_engineLeaves 38 = .ok (.dup, 1) := by decide +kernel
theorem dX5_engineLeaves_39 : decode cX5_engineLeaves 39 = .ok (.getfield 31, 3) := by decide +kernel
theorem dX5_engineLeaves_42 : decode cX5_engineLeaves 42 = .ok (.iload_n 2, 1) := by decide +kernel
theorem dX5_engineLeaves_43 : decode cX5_engineLeaves 43 = .ok (.iadd, 1) := by decide +kernel
theorem dX5_engineLeaves_44 : decode cX5_engineLeaves 44 = .ok (.putfield 31, 3) := by decide +kernel
theorem dX5_engineLeaves_47 : decode cX5_engineLeaves 47 = .ok (.aload_n 0, 1) := by decide +kernel
theorem dX5_engineLeaves_48 : decode cX5_engineLeaves 48 = .ok (.getfield 21, 3) := by decide +kernel
theorem dX5_engineLeaves_51 : decode cX5_engineLeaves 51 = .ok (.bipush 8, 2) := by decide +kernel
theorem dX5_engineLeaves_53 : decode cX5_engineLeaves 53 = .ok (.iconst 0, 1) := by decide +kernel
theorem dX5_engineLeaves_54 : decode cX5_engineLeaves 54 = .ok (.iastore, 1) := by decide +kernel
theorem dX5_engineLeaves_55 : decode cX5_engineLeaves 55 = .ok (.return_, 1) := by decide +kernel
theorem dX6_init_0 : decode cX6_init 0 = .ok (.aload_n 0, 1) := by decide +kernel
theorem dX6_init_1 : decode cX6_init 1 = .ok (.invokespecial 3, 3) := by decide +kernel
theorem dX6_init_4 : decode cX6_init 4 = .ok (.aload_n 0, 1) := by decide +kernel
theorem dX6_init_5 : decode cX6_init 5 = .ok (.getstatic 9, 3) := by decide +kernel
theorem dX6_init_8 : decode cX6_init 8 = .ok (.invokevirtual 13, 3) := by decide +kernel
theorem dX6_init_11 : decode cX6_init 11 = .ok (.checkcast 14, 3) := by decide +kernel
theorem dX6_init_14 : decode cX6_init 14 = .ok (.putfield 18, 3) := by decide +kernel
theorem dX6_init_17 : decode cX6_init 17 = .ok (.aload_n 0, 1) := by decide +kernel
theorem dX6_init_18 : decode cX6_init 18 = .ok (.bipush 8, 2) := by decide +kernel
theorem dX6_init_20 : decode cX6_init 20 = .ok (.newarray .int, 2) := by decide +kernel
theorem dX6_init_22 : decode cX6_init 22 = .ok (.putfield 23, 3) := by decide +kernel
theorem dX6_init_25 : decode cX6_init 25 = .ok (.aload_n 0, 1) := by decide +kernel
theorem dX6_init_26 : decode cX6_init 26 = .ok (.bipush 8, 2) := by decide +kernel
theorem dX6_init_28 : decode cX6_init 28 = .ok (.newarray .int, 2) := by decide +kernel
theorem dX6_init_30 : decode cX6_init 30 = .ok (.putfield 26, 3) := by decide +kernel
theorem dX6_init_33 : decode cX6_init 33 = .ok (.aload_n 0, 1) := by decide +kernel
theorem dX6_init_34 : decode cX6_init 34 = .ok (.bipush 8, 2) := by decide +kernel
theorem dX6_init_36 : decode cX6_init 36 = .ok (.newarray .int, 2) := by decide +kernel
theorem dX6_init_38 : decode cX6_init 38 = .ok (.putfield 29, 3) := by decide +kernel
theorem dX6_init_41 : decode cX6_init 41 = .ok (.aload_n 0, 1) := by decide +kernel
theorem dX6_init_42 : decode cX6_init 42 = .ok (.new 32, 3) := by decide +kernel
theorem dX6_init_45 : decode cX6_init 45 = .ok (.dup, 1) := by decide +kernel
theorem dX6_init_46 : decode cX6_init 46 = .ok (.invokespecial 34, 3) := by decide +kernel
theorem dX6_init_49 : decode cX6_init 49 = .ok (.putfield 35, 3) := by decide +kernel
theorem dX6_init_52 : decode cX6_init 52 = .ok (.aload_n 0, 1) := by decide +kernel
theorem dX6_init_53 : decode cX6_init 53 = .ok (.new 39, 3) := by decide +kernel
theorem dX6_init_56 : decode cX6_init 56 = .ok (.dup, 1) := by decide +kernel
theorem dX6_init_57 : decode cX6_init 57 = .ok (.invokespecial 41, 3) := by decide +kernel
theorem dX6_init_60 : decode cX6_init 60 = .ok (.putfield 42, 3) := by decide +kernel
theorem dX6_init_63 : decode cX6_init 63 = .ok (.aload_n 0, 1) := by decide +kernel
theorem dX6_init_64 : decode cX6_init 64 = .ok (.new 46, 3) := by decide +kernel
theorem dX6_init_67 : decode cX6_init 67 = .ok (.dup, 1) := by decide +kernel
theorem dX6_init_68 : decode cX6_init 68 = .ok (.invokespecial 48, 3) := by decide +kernel
theorem dX6_init_71 : decode cX6_init 71 = .ok (.putfield 49, 3) := by decide +kernel
theorem dX6_init_74 : decode cX6_init 74 = .ok (.return_, 1) := by decide +kernel
theorem dX6_copyFrom_0 : decode cX6_copyFrom 0 = .ok (.aload_n 0, 1) := by decide +kernel
theorem dX6_copyFrom_1 : decode cX6_copyFrom 1 = .ok (.aload_n 1, 1) := by decide +kernel
theorem dX6_copyFrom_2 : decode cX6_copyFrom 2 = .ok (.getfield 53, 3) := by decide +kernel
theorem dX6_copyFrom_5 : decode cX6_copyFrom 5 = .ok (.putfield 53, 3) := by decide +kernel
theorem dX6_copyFrom_8 : decode cX6_copyFrom 8 = .ok (.aload_n 0, 1) := by decide +kernel
theorem dX6_copyFrom_9 : decode cX6_copyFrom 9 = .ok (.aload_n 1, 1) := by decide +kernel
theorem dX6_copyFrom_10 : decode cX6_copyFrom 10 = .ok (.getfield 57, 3) := by decide +kernel
theorem dX6_copyFrom_13 : decode cX6_copyFrom 13 = .ok (.putfield 57, 3) := by decide +kernel
theorem dX6_copyFrom_16 : decode cX6_copyFrom 16 = .ok (.aload_n 0, 1) := by decide +kernel
theorem dX6_copyFrom_17 : decode cX6_copyFrom 17 = .ok (.aload_n 1, 1) := by decide +kernel
theorem dX6_copyFrom_18 : decode cX6_copyFrom 18 = .ok (.getfield 60, 3) := by decide +kernel
theorem dX6_copyFrom_21 : decode cX6_copyFrom 21 = .ok (.putfield 60, 3) := by decide +kernel
theorem dX6_copyFrom_24 : decode cX6_copyFrom 24 = .ok (.aload_n 0, 1) := by decide +kernel
theorem dX6_copyFrom_25 : decode cX6_copyFrom 25 = .ok (.aload_n 1, 1) := by decide +kernel
theorem dX6_copyFrom_26 : decode cX6_copyFrom 26 = .ok (.getfield 63, 3) := by decide +kernel
theorem dX6_copyFrom_29 : decode cX6_copyFrom 29 = .ok (.putfield 63, 3) := by decide +kernel
theorem dX6_copyFrom_32 : decode cX6_copyFrom 32 = .ok (.aload_n 0, 1) := by decide +kernel
theorem dX6_copyFrom_33 : decode cX6_copyFrom 33 = .ok (.aload_n 1, 1) := by decide +kernel
theorem dX6_copyFrom_34 : decode cX6_copyFrom 34 = .ok (.getfield 66, 3) := by decide +kernel
theorem dX6_copyFrom_37 : decode cX6_copyFrom 37 = .ok (.putfield 66, 3) := by decide +kernel
theorem dX6_copyFrom_40 : decode cX6_copyFrom 40 = .ok (.aload_n 0, 1) := by decide +kernel
theorem dX6_copyFrom_41 : decode cX6_copyFrom 41 = .ok (.aload_n 1, 1) := by decide +kernel
theorem dX6_copyFrom_42 : decode cX6_copyFrom 42 = .ok (.getfield 69, 3) := by decide +kernel
theorem dX6_copyFrom_45 : decode cX6_copyFrom 45 = .ok (.putfield 69, 3) := by decide +kernel
theorem dX6_copyFrom_48 : decode cX6_copyFrom 48 = .ok (.aload_n 1, 1) := by decide +kernel
theorem dX6_copyFrom_49 : decode cX6_copyFrom 49 = .ok (.getfield 18, 3) := by decide +kernel
theorem dX6_copyFrom_52 : decode cX6_copyFrom 52 = .ok (.iconst 0, 1) := by decide +kernel
theorem dX6_copyFrom_53 : decode cX6_copyFrom 53 = .ok (.aload_n 0, 1) := by decide +kernel
theorem dX6_copyFrom_54 : decode cX6_copyFrom 54 = .ok (.getfield 18, 3) := by decide +kernel
theorem dX6_copyFrom_57 : decode cX6_copyFrom 57 = .ok (.iconst 0, 1) := by decide +kernel
theorem dX6_copyFrom_58 : decode cX6_copyFrom 58 = .ok (.bipush 6, 2) := by decide +kernel
theorem dX6_copyFrom_60 : decode cX6_copyFrom 60 = .ok (.invokestatic 72, 3) := by decide +kernel
theorem dX6_copyFrom_63 : decode cX6_copyFrom 63 = .ok (.aload_n 0, 1) := by decide +kernel
theorem dX6_copyFrom_64 : decode cX6_copyFrom 64 = .ok (.aload_n 1, 1) := by decide +kernel
theorem dX6_copyFrom_65 : decode cX6_copyFrom 65 = .ok (.getfield 78, 3) := by decide +kernel
theorem dX6_copyFrom_68 : decode cX6_copyFrom 68 = .ok (.putfield 78, 3) := by decide +kernel
theorem dX6_copyFrom_71 : decode cX6_copyFrom 71 = .ok (.aload_n 1, 1) := by decide +kernel
theorem dX6_copyFrom_72 : decode cX6_copyFrom 72 = .ok (.getfield 23, 3) := by decide +kernel
theorem dX6_copyFrom_75 : decode cX6_copyFrom 75 = .ok (.iconst 0, 1) := by decide +kernel
theorem dX6_copyFrom_76 : decode cX6_copyFrom 76 = .ok (.aload_n 0, 1) := by decide +kernel
theorem dX6_copyFrom_77 : decode cX6_copyFrom 77 = .ok (.getfield 23, 3) := by decide +kernel
theorem dX6_copyFrom_80 : decode cX6_copyFrom 80 = .ok (.iconst 0, 1) := by decide +kernel
theorem dX6_copyFrom_81 : decode cX6_copyFrom 81 = .ok (.bipush 8, 2) := by decide +kernel
theorem dX6_copyFrom_83 : decode cX6_copyFrom 83 = .ok (.invokestatic 72, 3) := by decide +kernel
theorem dX6_copyFrom_86 : decode cX6_copyFrom 86 = .ok (.aload_n 1, 1) := by decide +kernel
theorem dX6_copyFrom_87 : decode cX6_copyFrom 87 = .ok (.getfield 26, 3) := by decide +kernel
theorem dX6_copyFrom_90 : decode cX6_copyFrom 90 = .ok (.iconst 0, 1) := by decide +kernel
theorem dX6_copyFrom_91 : decode cX6_copyFrom 91 = .ok (.aload_n 0, 1) := by decide +kernel
theorem dX6_copyFrom_92 : decode cX6_copyFrom 92 = .ok (.getfield 26, 3) := by decide +kernel
theorem dX6_copyFrom_95 : decode cX6_copyFrom 95 = .ok (.iconst 0, 1) := by decide +kernel
theorem dX6_copyFrom_96 : decode cX6_copyFrom 96 = .ok (.bipush 8, 2) := by decide +kernel
theorem dX6_copyFrom_98 : decode cX6_copyFrom 98 = .ok (.invokestatic 72, 3) := by decide +kernel
theorem dX6_copyFrom_101 : decode cX6_copyFrom 101 = .ok (.aload_n 1, 1) := by decide +kernel
theorem dX6_copyFrom_102 : decode cX6_copyFrom 102 = .ok (.getfield 29, 3) := by decide +kernel
theorem dX6_copyFrom_105 : decode cX6_copyFrom 105 = .ok (.iconst 0, 1) := by decide +kernel
theorem dX6_copyFrom_106 : decode cX6_copyFrom 106 = .ok (.aload_n 0, 1) := by decide +kernel
theorem dX6_copyFrom_107 : decode cX6_copyFrom 107 = .ok (.getfield 29, 3) := by decide +kernel
theorem dX6_copyFrom_110 : decode cX6_copyFrom 110 = .ok (.iconst 0, 1) := by decide +kernel
theorem dX6_copyFrom_111 : decode cX6_copyFrom 111 = .ok (.bipush 8, 2) := by decide +kernel
theorem dX6_copyFrom_113 : decode cX6_copyFrom 113 = .ok (.invokestatic 72, 3) := by decide +kernel
theorem dX6_copyFrom_116 : decode cX6_copyFrom 116 = .ok (.aload_n 0, 1) := by decide +kernel
theorem dX6_copyFrom_117 : decode cX6_copyFrom 117 = .ok (.getfield 35, 3) := by decide +kernel
theorem dX6_copyFrom_120 : decode cX6_copyFrom 120 = .ok (.aload_n 1, 1) := by decide +kernel
theorem dX6_copyFrom_121 : decode cX6_copyFrom 121 = .ok (.getfield 35, 3) := by decide +kernel
theorem dX6_copyFrom_124 : decode cX6_copyFrom 124 = .ok (.invokevirtual 81, 3) := by decide +kernel
theorem dX6_copyFrom_127 : decode cX6_copyFrom 127 = .ok (.aload_n 0, 1) := by decide +kernel
theorem dX6_copyFrom_128 : decode cX6_copyFrom 128 = .ok (.getfield 42, 3) := by decide +kernel
theorem dX6_copyFrom_131 : decode cX6_copyFrom 131 = .ok (.aload_n 1, 1) := by decide +kernel
theorem dX6_copyFrom_132 : decode cX6_copyFrom 132 = .ok (.getfield 42, 3) := by decide +kernel
theorem dX6_copyFrom_135 : decode cX6_copyFrom 135 = .ok (.invokevirtual 85, 3) := by decide +kernel
theorem dX6_copyFrom_138 : decode cX6_copyFrom 138 = .ok (.aload_n 0, 1) := by decide +kernel
theorem dX6_copyFrom_139 : decode cX6_copyFrom 139 = .ok (.getfield 49, 3) := by decide +kernel
theorem dX6_copyFrom_142 : decode cX6_copyFrom 142 = .ok (.aload_n 1, 1) := by decide +kernel
theorem dX6_copyFrom_143 : decode cX6_copyFrom 143 = .ok (.getfield 49, 3) := by decide +kernel
theorem dX6_copyFrom_146 : decode cX6_copyFrom 146 = .ok (.invokevirtual 88, 3) := by decide +kernel
theorem dX6_copyFrom_149 : decode cX6_copyFrom 149 = .ok (.return_, 1) := by decide +kernel
theorem dX6_changeSetting_0 : decode cX6_changeSetting 0 = .ok (.iload_n 1, 1) := by decide +kernel
theorem dX6_changeSetting_1 : decode cX6_changeSetting 1 = .ok (.ifCond .lt 9, 3) := by decide +kernel
theorem dX6_changeSetting_4 : decode cX6_changeSetting 4 = .ok (.iload_n 1, 1) := by decide +kernel
theorem dX6_changeSetting_5 : decode cX6_changeSetting 5 = .ok (.bipush 6, 2) := by decide +kernel
theorem dX6_changeSetting_7 : decode cX6_changeSetting 7 = .ok (.if_icmp .lt 6, 3) := by decide +kernel
theorem dX6_changeSetting_10 : decode cX6_changeSetting 10 = .ok (.bipush (-2), 2) := by decide +kernel
theorem dX6_changeSetting_12 : decode cX6_changeSetting 12 = .ok (.ireturn, 1) := by decide +kernel
theorem dX6_changeSetting_13 : decode cX6_changeSetting 13 = .ok (.iload_n 2, 1) := by decide +kernel
theorem dX6_changeSetting_14 : decode cX6_changeSetting 14 = .ok (.getstatic 91, 3) := by decide +kernel
theorem dX6_changeSetting_17 : decode cX6_changeSetting 17 = .ok (.iload_n 1, 1) := by decide +kernel
theorem dX6_changeSetting_18 : decode cX6_changeSetting 18 = .ok (.iaload, 1) := by decide +kernel
theorem dX6_changeSetting_19 : decode cX6_changeSetting 19 = .ok (.if_icmp .lt 12, 3) := by decide +kernel
theorem dX6_changeSetting_22 : decode cX6_changeSetting 22 = .ok (.iload_n 2, 1) := by decide +kernel
theorem dX6_changeSetting_23 : decode cX6_changeSetting 23 = .ok (.getstatic 94, 3) := by decide +kernel
theorem dX6_changeSetting_26 : decode cX6_changeSetting 26 = .ok (.iload_n 1, 1) := by decide +kernel
theorem dX6_changeSetting_27 : decode cX6_changeSetting 27 = .ok (.iaload, 1) := by decide +kernel
theorem dX6_changeSetting_28 : decode cX6_changeSetting 28 = .ok (.if_icmp .le 6, 3) := by decide +kernel
theorem dX6_changeSetting_31 : decode cX6_changeSetting 31 = .ok (.bipush (-2), 2) := by decide +kernel
theorem dX6_changeSetting_33 : decode cX6_changeSetting 33 = .ok (.ireturn, 1) := by decide +kernel
theorem dX6_changeSetting_34 : decode cX6_changeSetting 34 = .ok (.aload_n 0, 1) := by decide +kernel
theorem dX6_changeSetting_35 : decode cX6_changeSetting 35 = .ok (.getfield 18, 3) := by decide +kernel
theorem dX6_changeSetting_38 : decode cX6_changeSetting 38 = .ok (.iload_n 1, 1) := by decide +kernel
theorem dX6_changeSetting_39 : decode cX6_changeSetting 39 = .ok (.iaload, 1) := by decide +kernel
theorem dX6_changeSetting_40 : decode cX6_changeSetting 40 = .ok (.istore_n 3, 1) := by decide +kernel
theorem dX6_changeSetting_41 : decode cX6_changeSetting 41 = .ok (.aload_n 0, 1) := by decide +kernel
theorem dX6_changeSetting_42 : decode cX6_changeSetting 42 = .ok (.getfield 18, 3) := by decide +kernel
theorem dX6_changeSetting_45 : decode cX6_changeSetting 45 = .ok (.iload_n 1, 1) := by decide +kernel
theorem dX6_changeSetting_46 : decode cX6_changeSetting 46 = .ok (.iload_n 2, 1) := by decide +kernel
theorem dX6_changeSetting_47 : decode cX6_changeSetting 47 = .ok (.iastore, 1) := by decide +kernel
theorem dX6_changeSetting_48 : decode cX6_changeSetting 48 = .ok (.iload_n 3, 1) := by decide +kernel
theorem dX6_changeSetting_49 : decode cX6_changeSetting 49 = .ok (.ireturn, 1) := by decide +kernel
theorem dX6_hasTrack_0 : decode cX6_hasTrack 0 = .ok (.iload_n 1, 1) := by decide +kernel
theorem dX6_hasTrack_1 : decode cX6_hasTrack 1 = .ok (.ifCond .lt 15, 3) := by decide +kernel
theorem dX6_hasTrack_4 : decode cX6_hasTrack 4 = .ok (.iload_n 1, 1) := by decide +kernel
theorem dX6_hasTrack_5 : decode cX6_hasTrack 5 = .ok (.aload_n 0, 1) := by decide +kernel
theorem dX6_hasTrack_6 : decode cX6_hasTrack 6 = .ok (.getfield 78, 3) := by decide +kernel
theorem dX6_hasTrack_9 : decode cX6_hasTrack 9 = .ok (.if_icmp .ge 7, 3) := by decide +kernel
theorem dX6_hasTrack_12 : decode cX6_hasTrack 12 = .ok (.iconst 1, 1) := by decide +kernel
theorem dX6_hasTrack_13 : decode cX6_hasTrack 13 = .ok (.goto 4, 3) := by decide +kernel
theorem dX6_hasTrack_16 : decode cX6_hasTrack 16 = .ok (.iconst 0, 1) := by decide +kernel
theorem dX6_hasTrack_17 : decode cX6_hasTrack 17 = .ok (.ireturn, 1) := by decide +kernel
theorem dX6_addTrack_0 : decode cX6_addTrack 0 = .ok (.iload_n 1, 1) := by decide +kernel
theorem dX6_addTrack_1 : decode cX6_addTrack 1 = .ok (.iconst 4, 1) := by decide +kernel
theorem dX6_addTrack_2 : decode cX6_addTrack 2 = .ok (.if_icmp .lt 9, 3) := by decide +kernel
theorem dX6_addTrack_5 : decode cX6_addTrack 5 = .ok (.iload_n 1, 1) := by decide +kernel
theorem dX6_addTrack_6 : decode cX6_addTrack 6 = .ok (.bipush 60, 2) := by decide +kernel
theorem dX6_addTrack_8 : decode cX6_addTrack 8 = .ok (.if_icmp .le 6, 3) := by decide +kernel
theorem dX6_addTrack_11 : decode cX6_addTrack 11 = .ok (.bipush (-2), 2) := by decide +kernel
theorem dX6_addTrack_13 : decode cX6_addTrack 13 = .ok (.ireturn, 1) := by decide +kernel
theorem dX6_addTrack_14 : decode cX6_addTrack 14 = .ok (.aload_n 0, 1) := by decide +kernel
theorem dX6_addTrack_15 : decode cX6_addTrack 15 = .ok (.getfield 78, 3) := by decide +kernel
theorem dX6_addTrack_18 : decode cX6_addTrack 18 = .ok (.bipush 8, 2) := by decide +kernel
theorem dX6_addTrack_20 : decode cX6_addTrack 20 = .ok (.if_icmp .lt 6, 3) := by decide +kernel
theorem dX6_addTrack_23 : decode cX6_addTrack 23 = .ok (.bipush (-4), 2) := by decide +kernel
theorem dX6_addTrack_25 : decode cX6_addTrack 25 = .ok (.ireturn, 1) := by decide +kernel
theorem dX6_addTrack_26 : decode cX6_addTrack 26 = .ok (.aload_n 0, 1) := by decide +kernel
theorem dX6_addTrack_27 : decode cX6_addTrack 27 = .ok (.getfield 23, 3) := by decide +kernel
theorem dX6_addTrack_30 : decode cX6_addTrack 30 = .ok (.aload_n 0, 1) := by decide +kernel
theorem dX6_addTrack_31 : decode cX6_addTrack 31 = .ok (.getfield 78, 3) := by decide +kernel
theorem dX6_addTrack_34 : decode cX6_addTrack 34 = .ok (.iload_n 1, 1) := by decide +kernel
theorem dX6_addTrack_35 : decode cX6_addTrack 35 = .ok (.iastore, 1) := by decide +kernel
theorem dX6_addTrack_36 : decode cX6_addTrack 36 = .ok (.aload_n 0, 1) := by decide +kernel
theorem dX6_addTrack_37 : decode cX6_addTrack 37 = .ok (.dup, 1) := by decide +kernel
theorem dX6_addTrack_38 : decode cX6_addTrack 38 = .ok (.getfield 78, 3) := by decide +kernel
theorem dX6_addTrack_41 : decode cX6_addTrack 41 = .ok (.iconst 1, 1) := by decide +kernel
theorem dX6_addTrack_42 : decode cX6_addTrack 42 = .ok (.iadd, 1) := by decide +kernel
theorem dX6_addTrack_43 : decode cX6_addTrack 43 = .ok (.putfield 78, 3) := by decide +kernel
theorem dX6_addTrack_46 : decode cX6_addTrack 46 = .ok (.aload_n 0, 1) := by decide +kernel
theorem dX6_addTrack_47 : decode cX6_addTrack 47 = .ok (.getfield 78, 3) := by decide +kernel
theorem dX6_addTrack_50 : decode cX6_addTrack 50 = .ok (.iconst 1, 1) := by decide +kernel
theorem dX6_addTrack_51 : decode cX6_addTrack 51 = .ok (.isub, 1) := by decide +kernel
theorem dX6_addTrack_52 : decode cX6_addTrack 52 = .ok (.ireturn, 1) := by decide +kernel
theorem dX6_addWagon_0 : decode cX6_addWagon 0 = .ok (.aload_n 0, 1) := by decide +kernel
theorem dX6_addWagon_1 : decode cX6_addWagon 1 = .ok (.iload_n 1, 1) := by decide +kernel
theorem dX6_addWagon_2 : decode cX6_addWagon 2 = .ok (.invokevirtual 97, 3) := by decide +kernel
theorem dX6_addWagon_5 : decode cX6_addWagon 5 = .ok (.ifCond .ne 5, 3) := by decide +kernel
theorem dX6_addWagon_8 : decode cX6_addWagon 8 = .ok (.iconst (-1), 1) := by decide +kernel
theorem dX6_addWagon_9 : decode cX6_addWagon 9 = .ok (.ireturn, 1) := by decide +kernel
theorem dX6_addWagon_10 : decode cX6_addWagon 10 = .ok (.iload_n 2, 1) := by decide +kernel
theorem dX6_addWagon_11 : decode cX6_addWagon 11 = .ok (.iconst 1, 1) := by decide +kernel
theorem dX6_addWagon_12 : decode cX6_addWagon 12 = .ok (.if_icmp .lt 8, 3) := by decide +kernel
theorem dX6_addWagon_15 : decode cX6_addWagon 15 = .ok (.iload_n 2, 1) := by decide +kernel
theorem dX6_addWagon_16 : decode cX6_addWagon 16 = .ok (.iconst 4, 1) := by decide +kernel
theorem dX6_addWagon_17 : decode cX6_addWagon 17 = .ok (.if_icmp .le 6, 3) := by decide +kernel
theorem dX6_addWagon_20 : decode cX6_addWagon 20 = .ok (.bipush (-2), 2) := by decide +kernel
theorem dX6_addWagon_22 : decode cX6_addWagon 22 = .ok (.ireturn, 1) := by decide +kernel
theorem dX6_addWagon_23 : decode cX6_addWagon 23 = .ok (.aload_n 0, 1) := by decide +kernel
theorem dX6_addWagon_24 : decode cX6_addWagon 24 = .ok (.getfield 35, 3) := by decide +kernel
theorem dX6_addWagon_27 : decode cX6_addWagon 27 = .ok (.getfield 101, 3) := by decide +kernel
theorem dX6_addWagon_30 : decode cX6_addWagon 30 = .ok (.bipush 30, 2) := by decide +kernel
theorem dX6_addWagon_32 : decode cX6_addWagon 32 = .ok (.if_icmp .lt 6, 3) := by decide +kernel
theorem dX6_addWagon_35 : decode cX6_addWagon 35 = .ok (.bipush (-4), 2) := by decide +kernel
theorem dX6_addWagon_37 : decode cX6_addWagon 37 = .ok (.ireturn, 1) := by decide +kernel
theorem dX6_addWagon_38 : decode cX6_addWagon 38 = .ok (.aload_n 0, 1) := by decide +kernel
theorem dX6_addWagon_39 : decode cX6_addWagon 39 = .ok (.getfield 35, 3) := by decide +kernel
theorem dX6_addWagon_42 : decode cX6_addWagon 42 = .ok (.iload_n 1, 1) := by decide +kernel
theorem dX6_addWagon_43 : decode cX6_addWagon 43 = .ok (.invokevirtual 104, 3) := by decide +kernel
theorem dX6_addWagon_46 : decode cX6_addWagon 46 = .ok (.iload_n 2, 1) := by decide +kernel
theorem dX6_addWagon_47 : decode cX6_addWagon 47 = .ok (.iadd, 1) := by decide +kernel
theorem dX6_addWagon_48 : decode cX6_addWagon 48 = .ok (.aload_n 0, 1) := by decide +kernel
theorem dX6_addWagon_49 : decode cX6_addWagon 49 = .ok (.getfield 23, 3) := by decide +kernel
theorem dX6_addWagon_52 : decode cX6_addWagon 52 = .ok (.iload_n 1, 1) := by decide +kernel
theorem dX6_addWagon_53 : decode cX6_addWagon 53 = .ok (.iaload, 1) := by decide +kernel
theorem dX6_addWagon_54 : decode cX6_addWagon 54 = .ok (.if_icmp .le 6, 3) := by decide +kernel
theorem dX6_addWagon_57 : decode cX6_addWagon 57 = .ok (.bipush (-5), 2) := by decide +kernel
theorem dX6_addWagon_59 : decode cX6_addWagon 59 = .ok (.ireturn, 1) := by decide +kernel
theorem dX6_addWagon_60 : decode cX6_addWagon 60 = .ok (.aload_n 0, 1) := by decide +kernel
theorem dX6_addWagon_61 : decode cX6_addWagon 61 = .ok (.getfield 35, 3) := by decide +kernel
theorem dX6_addWagon_64 : decode cX6_addWagon 64 = .ok (.iload_n 1, 1) := by decide +kernel
theorem dX6_addWagon_65 : decode cX6_addWagon 65 = .ok (.iload_n 2, 1) := by decide +kernel
theorem dX6_addWagon_66 : decode cX6_addWagon 66 = .ok (.invokevirtual 108, 3) := by decide +kernel
theorem dX6_addWagon_69 : decode cX6_addWagon 69 = .ok (.ireturn, 1) := by decide +kernel
theorem dX6_addBlock_0 : decode cX6_addBlock 0 = .ok (.iload_n 1, 1) := by decide +kernel
theorem dX6_addBlock_1 : decode cX6_addBlock 1 = .ok (.aload_n 0, 1) := by decide +kernel
theorem dX6_addBlock_2 : decode cX6_addBlock 2 = .ok (.getfield 53, 3) := by decide +kernel
theorem dX6_addBlock_5 : decode cX6_addBlock 5 = .ok (.if_icmp .lt 27, 3) := by decide +kernel
theorem dX6_addBlock_8 : decode cX6_addBlock 8 = .ok (.iload_n 1, 1) := by decide +kernel
theorem dX6_addBlock_9 : decode cX6_addBlock 9 = .ok (.aload_n 0, 1) := by decide +kernel
theorem dX6_addBlock_10 : decode cX6_addBlock 10 = .ok (.getfield 53, 3) := by decide +kernel
theorem dX6_addBlock_13 : decode cX6_addBlock 13 = .ok (.sipush 2000, 3) := by decide +kernel
theorem dX6_addBlock_16 : decode cX6_addBlock 16 = .ok (.iadd, 1) := by decide +kernel
theorem dX6_addBlock_17 : decode cX6_addBlock 17 = .ok (.if_icmp .gt 15, 3) := by decide +kernel
theorem dX6_addBlock_20 : decode cX6_addBlock 20 = .ok (.iload_n 2, 1) := by decide +kernel
theorem dX6_addBlock_21 : decode cX6_addBlock 21 = .ok (.iconst 1, 1) := by decide +kernel
theorem dX6_addBlock_22 : decode cX6_addBlock 22 = .ok (.if_icmp .lt 10, 3) := by decide +kernel
theorem dX6_addBlock_25 : decode cX6_addBlock 25 = .ok (.iload_n 2, 1) := by decide +kernel
theorem dX6_addBlock_26 : decode cX6_addBlock 26 = .ok (.sipush 500, 3) := by decide +kernel
theorem dX6_addBlock_29 : decode cX6_addBlock 29 = .ok (.if_icmp .le 6, 3) := by decide +kernel
theorem dX6_addBlock_32 : decode cX6_addBlock 32 = .ok (.bipush (-2), 2) := by decide +kernel
theorem dX6_addBlock_34 : decode cX6_addBlock 34 = .ok (.ireturn, 1) := by decide +kernel
theorem dX6_addBlock_35 : decode cX6_addBlock 35 = .ok (.aload_n 0, 1) := by decide +kernel
theorem dX6_addBlock_36 : decode cX6_addBlock 36 = .ok (.getfield 42, 3) := by decide +kernel
theorem dX6_addBlock_39 : decode cX6_addBlock 39 = .ok (.getfield 112, 3) := by decide +kernel
theorem dX6_addBlock_42 : decode cX6_addBlock 42 = .ok (.bipush 10, 2) := by decide +kernel
theorem dX6_addBlock_44 : decode cX6_addBlock 44 = .ok (.if_icmp .lt 6, 3) := by decide +kernel
theorem dX6_addBlock_47 : decode cX6_addBlock 47 = .ok (.bipush (-4), 2) := by decide +kernel
theorem dX6_addBlock_49 : decode cX6_addBlock 49 = .ok (.ireturn, 1) := by decide +kernel
theorem dX6_addBlock_50 : decode cX6_addBlock 50 = .ok (.aload_n 0, 1) := by decide +kernel
theorem dX6_addBlock_51 : decode cX6_addBlock 51 = .ok (.getfield 42, 3) := by decide +kernel
theorem dX6_addBlock_54 : decode cX6_addBlock 54 = .ok (.iload_n 1, 1) := by decide +kernel
theorem dX6_addBlock_55 : decode cX6_addBlock 55 = .ok (.iload_n 1, 1) := by decide +kernel
theorem dX6_addBlock_56 : decode cX6_addBlock 56 = .ok (.iload_n 2, 1) := by decide +kernel
theorem dX6_addBlock_57 : decode cX6_addBlock 57 = .ok (.iadd, 1) := by decide +kernel
theorem dX6_addBlock_58 : decode cX6_addBlock 58 = .ok (.invokevirtual 113, 3) := by decide +kernel
theorem dX6_addBlock_61 : decode cX6_addBlock 61 = .ok (.ireturn, 1) := by decide +kernel
theorem dX6_takeOut_0 : decode cX6_takeOut 0 = .ok (.aload_n 0, 1) := by decide +kernel
theorem dX6_takeOut_1 : decode cX6_takeOut 1 = .ok (.iload_n 1, 1) := by decide +kernel
theorem dX6_takeOut_2 : decode cX6_takeOut 2 = .ok (.invokevirtual 97, 3) := by decide +kernel
theorem dX6_takeOut_5 : decode cX6_takeOut 5 = .ok (.ifCond .ne 5, 3) := by decide +kernel
theorem dX6_takeOut_8 : decode cX6_takeOut 8 = .ok (.iconst (-1), 1) := by decide +kernel
theorem dX6_takeOut_9 : decode cX6_takeOut 9 = .ok (.ireturn, 1) := by decide +kernel
theorem dX6_takeOut_10 : decode cX6_takeOut 10 = .ok (.iload_n 2, 1) := by decide +kernel
theorem dX6_takeOut_11 : decode cX6_takeOut 11 = .ok (.iconst 1, 1) := by decide +kernel
theorem dX6_takeOut_12 : decode cX6_takeOut 12 = .ok (.if_icmp .lt 9, 3) := by decide +kernel
theorem dX6_takeOut_15 : decode cX6_takeOut 15 = .ok (.iload_n 2, 1) := by decide +kernel
theorem dX6_takeOut_16 : decode cX6_takeOut 16 = .ok (.bipush 30, 2) := by decide +kernel
theorem dX6_takeOut_18 : decode cX6_takeOut 18 = .ok (.if_icmp .le 6, 3) := by decide +kernel
theorem dX6_takeOut_21 : decode cX6_takeOut 21 = .ok (.bipush (-2), 2) := by decide +kernel
theorem dX6_takeOut_23 : decode cX6_takeOut 23 = .ok (.ireturn, 1) := by decide +kernel
theorem dX6_takeOut_24 : decode cX6_takeOut 24 = .ok (.aload_n 0, 1) := by decide +kernel
theorem dX6_takeOut_25 : decode cX6_takeOut 25 = .ok (.iload_n 1, 1) := by decide +kernel
theorem dX6_takeOut_26 : decode cX6_takeOut 26 = .ok (.iload_n 2, 1) := by decide +kernel
theorem dX6_takeOut_27 : decode cX6_takeOut 27 = .ok (.invokevirtual 114, 3) := by decide +kernel
theorem dX6_takeOut_30 : decode cX6_takeOut 30 = .ok (.ifCond .ne 6, 3) := by decide +kernel
theorem dX6_takeOut_33 : decode cX6_takeOut 33 = .ok (.bipush (-5), 2) := by decide +kernel
theorem dX6_takeOut_35 : decode cX6_takeOut 35 = .ok (.ireturn, 1) := by decide +kernel
theorem dX6_takeOut_36 : decode cX6_takeOut 36 = .ok (.aload_n 0, 1) := by decide +kernel
theorem dX6_takeOut_37 : decode cX6_takeOut 37 = .ok (.iload_n 1, 1) := by decide +kernel
theorem dX6_takeOut_38 : decode cX6_takeOut 38 = .ok (.iload_n 2, 1) := by decide +kernel
theorem dX6_takeOut_39 : decode cX6_takeOut 39 = .ok (.invokevirtual 118, 3) := by decide +kernel
theorem dX6_takeOut_42 : decode cX6_takeOut 42 = .ok (.ireturn, 1) := by decide +kernel
theorem dX6_canTakeOut_0 : decode cX6_canTakeOut 0 = .ok (.iload_n 2, 1) := by decide +kernel
theorem dX6_canTakeOut_1 : decode cX6_canTakeOut 1 = .ok (.aload_n 0, 1) := by decide +kernel
theorem dX6_canTakeOut_2 : decode cX6_canTakeOut 2 = .ok (.getfield 35, 3) := by decide +kernel
theorem dX6_canTakeOut_5 : decode cX6_canTakeOut 5 = .ok (.iload_n 1, 1) := by decide +kernel
theorem dX6_canTakeOut_6 : decode cX6_canTakeOut 6 = .ok (.invokevirtual 121, 3) := by decide +kernel
theorem dX6_canTakeOut_9 : decode cX6_canTakeOut 9 = .ok (.if_icmp .gt 35, 3) := by decide +kernel
theorem dX6_canTakeOut_12 : decode cX6_canTakeOut 12 = .ok (.aload_n 0, 1) := by decide +kernel
theorem dX6_canTakeOut_13 : decode cX6_canTakeOut 13 = .ok (.getfield 35, 3) := by decide +kernel
theorem dX6_canTakeOut_16 : decode cX6_canTakeOut 16 = .ok (.bipush 8, 2) := by decide +kernel
theorem dX6_canTakeOut_18 : decode cX6_canTakeOut 18 = .ok (.invokevirtual 104, 3) := by decide +kernel
theorem dX6_canTakeOut_21 : decode cX6_canTakeOut 21 = .ok (.aload_n 0, 1) := by decide +kernel
theorem dX6_canTakeOut_22 : decode cX6_canTakeOut 22 = .ok (.getfield 35, 3) := by decide +kernel
theorem dX6_canTakeOut_25 : decode cX6_canTakeOut 25 = .ok (.iload_n 1, 1) := by decide +kernel
theorem dX6_canTakeOut_26 : decode cX6_canTakeOut 26 = .ok (.iload_n 2, 1) := by decide +kernel
theorem dX6_canTakeOut_27 : decode cX6_canTakeOut 27 = .ok (.invokevirtual 124, 3) := by decide +kernel
theorem dX6_canTakeOut_30 : decode cX6_canTakeOut 30 = .ok (.iadd, 1) := by decide +kernel
theorem dX6_canTakeOut_31 : decode cX6_canTakeOut 31 = .ok (.aload_n 0, 1) := by decide +kernel
theorem dX6_canTakeOut_32 : decode cX6_canTakeOut 32 = .ok (.getfield 18, 3) := by decide +kernel
theorem dX6_canTakeOut_35 : decode cX6_canTakeOut 35 = .ok (.iconst 0, 1) := by decide +kernel
theorem dX6_canTakeOut_36 : decode cX6_canTakeOut 36 = .ok (.iaload, 1) := by decide +kernel
theorem dX6_canTakeOut_37 : decode cX6_canTakeOut 37 = .ok (.if_icmp .gt 7, 3) := by decide +kernel
theorem dX6_canTakeOut_40 : decode cX6_canTakeOut 40 = .ok (.iconst 1, 1) := by decide +kernel
theorem dX6_canTakeOut_41 : decode cX6_canTakeOut 41 = .ok (.goto 4, 3) := by decide +kernel
theorem dX6_canTakeOut_44 : decode cX6_canTakeOut 44 = .ok (.iconst 0, 1) := by decide +kernel
theorem dX6_canTakeOut_45 : decode cX6_canTakeOut 45 = .ok (.ireturn, 1) := by decide +kernel
theorem dX6_drawOut_0 : decode cX6_drawOut 0 = .ok (.aload_n 0, 1) := by decide +kernel
theorem dX6_drawOut_1 : decode cX6_drawOut 1 = .ok (.getfield 35, 3) := by decide +kernel
theorem dX6_drawOut_4 : decode cX6_drawOut 4 = .ok (.iload_n 1, 1) := by decide +kernel
theorem dX6_drawOut_5 : decode cX6_drawOut 5 = .ok (.bipush 8, 2) := by decide +kernel
theorem dX6_drawOut_7 : decode cX6_drawOut 7 = .ok (.iload_n 2, 1) := by decide +kernel
theorem dX6_drawOut_8 : decode cX6_drawOut 8 = .ok (.invokevirtual 127, 3) := by decide +kernel
theorem dX6_drawOut_11 : decode cX6_drawOut 11 = .ok (.aload_n 0, 1) := by decide +kernel
theorem dX6_drawOut_12 : decode cX6_drawOut 12 = .ok (.getfield 35, 3) := by decide +kernel
theorem dX6_drawOut_15 : decode cX6_drawOut 15 = .ok (.iload_n 2, 1) := by decide +kernel
theorem dX6_drawOut_16 : decode cX6_drawOut 16 = .ok (.invokevirtual 131, 3) := by decide +kernel
theorem dX6_drawOut_19 : decode cX6_drawOut 19 = .ok (.aload_n 0, 1) := by decide +kernel
theorem dX6_drawOut_20 : decode cX6_drawOut 20 = .ok (.getfield 26, 3) := by decide +kernel
theorem dX6_drawOut_23 : decode cX6_drawOut 23 = .ok (.iload_n 1, 1) := by decide +kernel
theorem dX6_drawOut_24 : decode cX6_drawOut 24 = .ok (.dup2, 1) := by decide +kernel
theorem dX6_drawOut_25 : decode cX6_drawOut 25 = .ok (.iaload, 1) := by decide +kernel
theorem dX6_drawOut_26 : decode cX6_drawOut 26 = .ok (.iload_n 2, 1) := by decide +kernel
theorem dX6_drawOut_27 : decode cX6_drawOut 27 = .ok (.iadd, 1) := by decide +kernel
theorem dX6_drawOut_28 : decode cX6_drawOut 28 = .ok (.iastore, 1) := by decide +kernel
theorem dX6_drawOut_29 : decode cX6_drawOut 29 = .ok (.aload_n 0, 1) := by decide +kernel
theorem dX6_drawOut_30 : decode cX6_drawOut 30 = .ok (.aload_n 0, 1) := by decide +kernel
theorem dX6_drawOut_31 : decode cX6_drawOut 31 = .ok (.getfield 18, 3) := by decide +kernel
theorem dX6_drawOut_34 : decode cX6_drawOut 34 = .ok (.iconst 2, 1) := by decide +kernel
theorem dX6_drawOut_35 : decode cX6_drawOut 35 = .ok (.iaload, 1) := by decide +kernel
theorem dX6_drawOut_36 : decode cX6_drawOut 36 = .ok (.aload_n 0, 1) := by decide +kernel
theorem dX6_drawOut_37 : decode cX6_drawOut 37 = .ok (.getfield 35, 3) := by decide +kernel
theorem dX6_drawOut_40 : decode cX6_drawOut 40 = .ok (.iload_n 1, 1) := by decide +kernel
theorem dX6_drawOut_41 : decode cX6_drawOut 41 = .ok (.invokevirtual 121, 3) := by decide +kernel
theorem dX6_drawOut_44 : decode cX6_drawOut 44 = .ok (.ifCond .le 7, 3) := by decide +kernel
theorem dX6_drawOut_47 : decode cX6_drawOut 47 = .ok (.iconst 2, 1) := by decide +kernel
theorem dX6_drawOut_48 : decode cX6_drawOut 48 = .ok (.goto 4, 3) := by decide +kernel
theorem dX6_drawOut_51 : decode cX6_drawOut 51 = .ok (.iconst 1, 1) := by decide +kernel
theorem dX6_drawOut_52 : decode cX6_drawOut 52 = .ok (.invokevirtual 135, 3) := by decide +kernel
theorem dX6_drawOut_55 : decode cX6_drawOut 55 = .ok (.aload_n 0, 1) := by decide +kernel
theorem dX6_drawOut_56 : decode cX6_drawOut 56 = .ok (.getfield 35, 3) := by decide +kernel
theorem dX6_drawOut_59 : decode cX6_drawOut 59 = .ok (.bipush 8, 2) := by decide +kernel
theorem dX6_drawOut_61 : decode cX6_drawOut 61 = .ok (.invokevirtual 121, 3) := by decide +kernel
theorem dX6_drawOut_64 : decode cX6_drawOut 64 = .ok (.ireturn, 1) := by decide +kernel
theorem dX6_bringIn_0 : decode cX6_bringIn 0 = .ok (.aload_n 0, 1) := by decide +kernel
theorem dX6_bringIn_1 : decode cX6_bringIn 1 = .ok (.iload_n 1, 1) := by decide +kernel
theorem dX6_bringIn_2 : decode cX6_bringIn 2 = .ok (.invokevirtual 97, 3) := by decide +kernel
theorem dX6_bringIn_5 : decode cX6_bringIn 5 = .ok (.ifCond .ne 5, 3) := by decide +kernel
theorem dX6_bringIn_8 : decode cX6_bringIn 8 = .ok (.iconst (-1), 1) := by decide +kernel
theorem dX6_bringIn_9 : decode cX6_bringIn 9 = .ok (.ireturn, 1) := by decide +kernel
theorem dX6_bringIn_10 : decode cX6_bringIn 10 = .ok (.iload_n 2, 1) := by decide +kernel
theorem dX6_bringIn_11 : decode cX6_bringIn 11 = .ok (.iconst 1, 1) := by decide +kernel
theorem dX6_bringIn_12 : decode cX6_bringIn 12 = .ok (.if_icmp .lt 9, 3) := by decide +kernel
theorem dX6_bringIn_15 : decode cX6_bringIn 15 = .ok (.iload_n 2, 1) := by decide +kernel
theorem dX6_bringIn_16 : decode cX6_bringIn 16 = .ok (.bipush 30, 2) := by decide +kernel
theorem dX6_bringIn_18 : decode cX6_bringIn 18 = .ok (.if_icmp .le 6, 3) := by decide +kernel
theorem dX6_bringIn_21 : decode cX6_bringIn 21 = .ok (.bipush (-2), 2) := by decide +kernel
theorem dX6_bringIn_23 : decode cX6_bringIn 23 = .ok (.ireturn, 1) := by decide +kernel
theorem dX6_bringIn_24 : decode cX6_bringIn 24 = .ok (.aload_n 0, 1) := by decide +kernel
theorem dX6_bringIn_25 : decode cX6_bringIn 25 = .ok (.iload_n 1, 1) := by decide +kernel
theorem dX6_bringIn_26 : decode cX6_bringIn 26 = .ok (.iload_n 2, 1) := by decide +kernel
theorem dX6_bringIn_27 : decode cX6_bringIn 27 = .ok (.invokevirtual 139, 3) := by decide +kernel
theorem dX6_bringIn_30 : decode cX6_bringIn 30 = .ok (.ifCond .ne 6, 3) := by decide +kernel
theorem dX6_bringIn_33 : decode cX6_bringIn 33 = .ok (.bipush (-5), 2) := by decide +kernel
theorem dX6_bringIn_35 : decode cX6_bringIn 35 = .ok (.ireturn, 1) := by decide +kernel
theorem dX6_bringIn_36 : decode cX6_bringIn 36 = .ok (.aload_n 0, 1) := by decide +kernel
theorem dX6_bringIn_37 : decode cX6_bringIn 37 = .ok (.getfield 35, 3) := by decide +kernel
theorem dX6_bringIn_40 : decode cX6_bringIn 40 = .ok (.iload_n 1, 1) := by decide +kernel
theorem dX6_bringIn_41 : decode cX6_bringIn 41 = .ok (.invokevirtual 121, 3) := by decide +kernel
theorem dX6_bringIn_44 : decode cX6_bringIn 44 = .ok (.ifCond .le 7, 3) := by decide +kernel
theorem dX6_bringIn_47 : decode cX6_bringIn 47 = .ok (.iconst 2, 1) := by decide +kernel
theorem dX6_bringIn_48 : decode cX6_bringIn 48 = .ok (.goto 4, 3) := by decide +kernel
theorem dX6_bringIn_51 : decode cX6_bringIn 51 = .ok (.iconst 1, 1) := by decide +kernel
theorem dX6_bringIn_52 : decode cX6_bringIn 52 = .ok (.istore_n 3, 1) := by decide +kernel
theorem dX6_bringIn_53 : decode cX6_bringIn 53 = .ok (.aload_n 0, 1) := by decide +kernel
theorem dX6_bringIn_54 : decode cX6_bringIn 54 = .ok (.getfield 35, 3) := by decide +kernel
theorem dX6_bringIn_57 : decode cX6_bringIn 57 = .ok (.bipush 8, 2) := by decide +kernel
theorem dX6_bringIn_59 : decode cX6_bringIn 59 = .ok (.iload_n 1, 1) := by decide +kernel
theorem dX6_bringIn_60 : decode cX6_bringIn 60 = .ok (.iload_n 2, 1) := by decide +kernel
theorem dX6_bringIn_61 : decode cX6_bringIn 61 = .ok (.invokevirtual 127, 3) := by decide +kernel
theorem dX6_bringIn_64 : decode cX6_bringIn 64 = .ok (.aload_n 0, 1) := by decide +kernel
theorem dX6_bringIn_65 : decode cX6_bringIn 65 = .ok (.getfield 29, 3) := by decide +kernel
theorem dX6_bringIn_68 : decode cX6_bringIn 68 = .ok (.iload_n 1, 1) := by decide +kernel
theorem dX6_bringIn_69 : decode cX6_bringIn 69 = .ok (.dup2, 1) := by decide +kernel
theorem dX6_bringIn_70 : decode cX6_bringIn 70 = .ok (.iaload, 1) := by decide +kernel
theorem dX6_bringIn_71 : decode cX6_bringIn 71 = .ok (.iload_n 2, 1) := by decide +kernel
theorem dX6_bringIn_72 : decode cX6_bringIn 72 = .ok (.iadd, 1) := by decide +kernel
theorem dX6_bringIn_73 : decode cX6_bringIn 73 = .ok (.iastore, 1) := by decide +kernel
theorem dX6_bringIn_74 : decode cX6_bringIn 74 = .ok (.aload_n 0, 1) := by decide +kernel
theorem dX6_bringIn_75 : decode cX6_bringIn 75 = .ok (.aload_n 0, 1) := by decide +kernel
theorem dX6_bringIn_76 : decode cX6_bringIn 76 = .ok (.getfield 18, 3) := by decide +kernel
theorem dX6_bringIn_79 : decode cX6_bringIn 79 = .ok (.iconst 2, 1) := by decide +kernel
theorem dX6_bringIn_80 : decode cX6_bringIn 80 = .ok (.iaload, 1) := by decide +kernel
theorem dX6_bringIn_81 : decode cX6_bringIn 81 = .ok (.iload_n 3, 1) := by decide +kernel
theorem dX6_bringIn_82 : decode cX6_bringIn 82 = .ok (.invokevirtual 135, 3) := by decide +kernel
theorem dX6_bringIn_85 : decode cX6_bringIn 85 = .ok (.aload_n 0, 1) := by decide +kernel
theorem dX6_bringIn_86 : decode cX6_bringIn 86 = .ok (.getfield 35, 3) := by decide +kernel
theorem dX6_bringIn_89 : decode cX6_bringIn 89 = .ok (.bipush 8, 2) := by decide +kernel
theorem dX6_bringIn_91 : decode cX6_bringIn 91 = .ok (.invokevirtual 121, 3) := by decide +kernel
theorem dX6_bringIn_94 : decode cX6_bringIn 94 = .ok (.ireturn, 1) := by decide +kernel
theorem dX6_canBringIn_0 : decode cX6_canBringIn 0 = .ok (.iload_n 2, 1) := by decide +kernel
theorem dX6_canBringIn_1 : decode cX6_canBringIn 1 = .ok (.aload_n 0, 1) := by decide +kernel
theorem dX6_canBringIn_2 : decode cX6_canBringIn 2 = .ok (.getfield 35, 3) := by decide +kernel
theorem dX6_canBringIn_5 : decode cX6_canBringIn 5 = .ok (.bipush 8, 2) := by decide +kernel
theorem dX6_canBringIn_7 : decode cX6_canBringIn 7 = .ok (.invokevirtual 121, 3) := by decide +kernel
theorem dX6_canBringIn_10 : decode cX6_canBringIn 10 = .ok (.if_icmp .gt 35, 3) := by decide +kernel
theorem dX6_canBringIn_13 : decode cX6_canBringIn 13 = .ok (.aload_n 0, 1) := by decide +kernel
theorem dX6_canBringIn_14 : decode cX6_canBringIn 14 = .ok (.getfield 35, 3) := by decide +kernel
theorem dX6_canBringIn_17 : decode cX6_canBringIn 17 = .ok (.iload_n 1, 1) := by decide +kernel
theorem dX6_canBringIn_18 : decode cX6_canBringIn 18 = .ok (.invokevirtual 104, 3) := by decide +kernel
theorem dX6_canBringIn_21 : decode cX6_canBringIn 21 = .ok (.aload_n 0, 1) := by decide +kernel
theorem dX6_canBringIn_22 : decode cX6_canBringIn 22 = .ok (.getfield 35, 3) := by decide +kernel
theorem dX6_canBringIn_25 : decode cX6_canBringIn 25 = .ok (.bipush 8, 2) := by decide +kernel
theorem dX6_canBringIn_27 : decode cX6_canBringIn 27 = .ok (.iload_n 2, 1) := by decide +kernel
theorem dX6_canBringIn_28 : decode cX6_canBringIn 28 = .ok (.invokevirtual 124, 3) := by decide +kernel
theorem dX6_canBringIn_31 : decode cX6_canBringIn 31 = .ok (.iadd, 1) := by decide +kernel
theorem dX6_canBringIn_32 : decode cX6_canBringIn 32 = .ok (.aload_n 0, 1) := by decide +kernel
theorem dX6_canBringIn_33 : decode cX6_canBringIn 33 = .ok (.getfield 23, 3) := by decide +kernel
theorem dX6_canBringIn_36 : decode cX6_canBringIn 36 = .ok (.iload_n 1, 1) := by decide +kernel
theorem dX6_canBringIn_37 : decode cX6_canBringIn 37 = .ok (.iaload, 1) := by decide +kernel
theorem dX6_canBringIn_38 : decode cX6_canBringIn 38 = .ok (.if_icmp .gt 7, 3) := by decide +kernel
theorem dX6_canBringIn_41 : decode cX6_canBringIn 41 = .ok (.iconst 1, 1) := by decide +kernel
theorem dX6_canBringIn_42 : decode cX6_canBringIn 42 = .ok (.goto 4, 3) := by decide +kernel
theorem dX6_canBringIn_45 : decode cX6_canBringIn 45 = .ok (.iconst 0, 1) := by decide +kernel
theorem dX6_canBringIn_46 : decode cX6_canBringIn 46 = .ok (.ireturn, 1) := by decide +kernel
theorem dX6_goRound_0 : decode cX6_goRound 0 = .ok (.aload_n 0, 1) := by decide +kernel
theorem dX6_goRound_1 : decode cX6_goRound 1 = .ok (.invokevirtual 142, 3) := by decide +kernel
theorem dX6_goRound_4 : decode cX6_goRound 4 = .ok (.ifCond .ne 6, 3) := by decide +kernel
theorem dX6_goRound_7 : decode cX6_goRound 7 = .ok (.bipush (-5), 2) := by decide +kernel
theorem dX6_goRound_9 : decode cX6_goRound 9 = .ok (.ireturn, 1) := by decide +kernel
theorem dX6_goRound_10 : decode cX6_goRound 10 = .ok (.aload_n 0, 1) := by decide +kernel
theorem dX6_goRound_11 : decode cX6_goRound 11 = .ok (.getfield 35, 3) := by decide +kernel
theorem dX6_goRound_14 : decode cX6_goRound 14 = .ok (.invokevirtual 146, 3) := by decide +kernel
theorem dX6_goRound_17 : decode cX6_goRound 17 = .ok (.aload_n 0, 1) := by decide +kernel
theorem dX6_goRound_18 : decode cX6_goRound 18 = .ok (.aload_n 0, 1) := by decide +kernel
theorem dX6_goRound_19 : decode cX6_goRound 19 = .ok (.getfield 18, 3) := by decide +kernel
theorem dX6_goRound_22 : decode cX6_goRound 22 = .ok (.iconst 4, 1) := by decide +kernel
theorem dX6_goRound_23 : decode cX6_goRound 23 = .ok (.iaload, 1) := by decide +kernel
theorem dX6_goRound_24 : decode cX6_goRound 24 = .ok (.iconst 2, 1) := by decide +kernel
theorem dX6_goRound_25 : decode cX6_goRound 25 = .ok (.invokevirtual 135, 3) := by decide +kernel
theorem dX6_goRound_28 : decode cX6_goRound 28 = .ok (.aload_n 0, 1) := by decide +kernel
theorem dX6_goRound_29 : decode cX6_goRound 29 = .ok (.getfield 53, 3) := by decide +kernel
theorem dX6_goRound_32 : decode cX6_goRound 32 = .ok (.ireturn, 1) := by decide +kernel
theorem dX6_canGoRound_0 : decode cX6_canGoRound 0 = .ok (.aload_n 0, 1) := by decide +kernel
theorem dX6_canGoRound_1 : decode cX6_canGoRound 1 = .ok (.getfield 35, 3) := by decide +kernel
theorem dX6_canGoRound_4 : decode cX6_canGoRound 4 = .ok (.bipush 8, 2) := by decide +kernel
theorem dX6_canGoRound_6 : decode cX6_canGoRound 6 = .ok (.invokevirtual 121, 3) := by decide +kernel
theorem dX6_canGoRound_9 : decode cX6_canGoRound 9 = .ok (.ifCond .le 25, 3) := by decide +kernel
theorem dX6_canGoRound_12 : decode cX6_canGoRound 12 = .ok (.aload_n 0, 1) := by decide +kernel
theorem dX6_canGoRound_13 : decode cX6_canGoRound 13 = .ok (.getfield 35, 3) := by decide +kernel
theorem dX6_canGoRound_16 : decode cX6_canGoRound 16 = .ok (.bipush 8, 2) := by decide +kernel
theorem dX6_canGoRound_18 : decode cX6_canGoRound 18 = .ok (.invokevirtual 104, 3) := by decide +kernel
theorem dX6_canGoRound_21 : decode cX6_canGoRound 21 = .ok (.aload_n 0, 1) := by decide +kernel
theorem dX6_canGoRound_22 : decode cX6_canGoRound 22 = .ok (.getfield 18, 3) := by decide +kernel
theorem dX6_canGoRound_25 : decode cX6_canGoRound 25 = .ok (.iconst 1, 1) := by decide +kernel
theorem dX6_canGoRound_26 : decode cX6_canGoRound 26 = .ok (.iaload, 1) := by decide +kernel
theorem dX6_canGoRound_27 : decode cX6_canGoRound 27 = .ok (.if_icmp .gt 7, 3) := by decide +kernel
theorem dX6_canGoRound_30 : decode cX6_canGoRound 30 = .ok (.iconst 1, 1) := by decide +kernel
theorem dX6_canGoRound_31 : decode cX6_canGoRound 31 = .ok (.goto 4, 3) := by decide +kernel
theorem dX6_canGoRound_34 : decode cX6_canGoRound 34 = .ok (.iconst 0, 1) := by decide +kernel
theorem dX6_canGoRound_35 : decode cX6_canGoRound 35 = .ok (.ireturn, 1) := by decide +kernel
theorem dX6_makeMove_0 : decode cX6_makeMove 0 = .ok (.iload_n 1, 1) := by decide +kernel
theorem dX6_makeMove_1 : decode cX6_makeMove 1 = .ok (.iload_n 2, 1) := by decide +kernel
theorem dX6_makeMove_2 : decode cX6_makeMove 2 = .ok (.aload_n 0, 1) := by decide +kernel
theorem dX6_makeMove_3 : decode cX6_makeMove 3 = .ok (.getfield 18, 3) := by decide +kernel
theorem dX6_makeMove_6 : decode cX6_makeMove 6 = .ok (.iconst 3, 1) := by decide +kernel
theorem dX6_makeMove_7 : decode cX6_makeMove 7 = .ok (.iaload, 1) := by decide +kernel
theorem dX6_makeMove_8 : decode cX6_makeMove 8 = .ok (.imul, 1) := by decide +kernel
theorem dX6_makeMove_9 : decode cX6_makeMove 9 = .ok (.iadd, 1) := by decide +kernel
theorem dX6_makeMove_10 : decode cX6_makeMove 10 = .ok (.istore_n 3, 1) := by decide +kernel
theorem dX6_makeMove_11 : decode cX6_makeMove 11 = .ok (.aload_n 0, 1) := by decide +kernel
theorem dX6_makeMove_12 : decode cX6_makeMove 12 = .ok (.getfield 42, 3) := by decide +kernel
theorem dX6_makeMove_15 : decode cX6_makeMove 15 = .ok (.aload_n 0, 1) := by decide +kernel
theorem dX6_makeMove_16 : decode cX6_makeMove 16 = .ok (.getfield 53, 3) := by decide +kernel
theorem dX6_makeMove_19 : decode cX6_makeMove 19 = .ok (.iload_n 3, 1) := by decide +kernel
theorem dX6_makeMove_20 : decode cX6_makeMove 20 = .ok (.invokevirtual 149, 3) := by decide +kernel
theorem dX6_makeMove_23 : decode cX6_makeMove 23 = .ok (.istore 4, 2) := by decide +kernel
theorem dX6_makeMove_25 : decode cX6_makeMove 25 = .ok (.aload_n 0, 1) := by decide +kernel
theorem dX6_makeMove_26 : decode cX6_makeMove 26 = .ok (.dup, 1) := by decide +kernel
theorem dX6_makeMove_27 : decode cX6_makeMove 27 = .ok (.getfield 63, 3) := by decide +kernel
theorem dX6_makeMove_30 : decode cX6_makeMove 30 = .ok (.iload 4, 2) := by decide +kernel
theorem dX6_makeMove_32 : decode cX6_makeMove 32 = .ok (.aload_n 0, 1) := by decide +kernel
theorem dX6_makeMove_33 : decode cX6_makeMove 33 = .ok (.getfield 53, 3) := by decide +kernel
theorem dX6_makeMove_36 : decode cX6_makeMove 36 = .ok (.isub, 1) := by decide +kernel
theorem dX6_makeMove_37 : decode cX6_makeMove 37 = .ok (.iadd, 1) := by decide +kernel
theorem dX6_makeMove_38 : decode cX6_makeMove 38 = .ok (.putfield 63, 3) := by decide +kernel
theorem dX6_makeMove_41 : decode cX6_makeMove 41 = .ok (.aload_n 0, 1) := by decide +kernel
theorem dX6_makeMove_42 : decode cX6_makeMove 42 = .ok (.dup, 1) := by decide +kernel
theorem dX6_makeMove_43 : decode cX6_makeMove 43 = .ok (.getfield 57, 3) := by decide +kernel
theorem dX6_makeMove_46 : decode cX6_makeMove 46 = .ok (.iload_n 2, 1) := by decide +kernel
theorem dX6_makeMove_47 : decode cX6_makeMove 47 = .ok (.iadd, 1) := by decide +kernel
theorem dX6_makeMove_48 : decode cX6_makeMove 48 = .ok (.putfield 57, 3) := by decide +kernel
theorem dX6_makeMove_51 : decode cX6_makeMove 51 = .ok (.aload_n 0, 1) := by decide +kernel
theorem dX6_makeMove_52 : decode cX6_makeMove 52 = .ok (.dup, 1) := by decide +kernel
theorem dX6_makeMove_53 : decode cX6_makeMove 53 = .ok (.getfield 60, 3) := by decide +kernel
theorem dX6_makeMove_56 : decode cX6_makeMove 56 = .ok (.iconst 1, 1) := by decide +kernel
theorem dX6_makeMove_57 : decode cX6_makeMove 57 = .ok (.iadd, 1) := by decide +kernel
theorem dX6_makeMove_58 : decode cX6_makeMove 58 = .ok (.putfield 60, 3) := by decide +kernel
theorem dX6_makeMove_61 : decode cX6_makeMove 61 = .ok (.aload_n 0, 1) := by decide +kernel
theorem dX6_makeMove_62 : decode cX6_makeMove 62 = .ok (.iload 4, 2) := by decide +kernel
theorem dX6_makeMove_64 : decode cX6_makeMove 64 = .ok (.iload_n 3, 1) := by decide +kernel
theorem dX6_makeMove_65 : decode cX6_makeMove 65 = .ok (.iadd, 1) := by decide +kernel
theorem dX6_makeMove_66 : decode cX6_makeMove 66 = .ok (.invokevirtual 152, 3) := by decide +kernel
theorem dX6_makeMove_69 : decode cX6_makeMove 69 = .ok (.return_, 1) := by decide +kernel
theorem dX6_letPass_0 : decode cX6_letPass 0 = .ok (.iload_n 1, 1) := by decide +kernel
theorem dX6_letPass_1 : decode cX6_letPass 1 = .ok (.iconst 1, 1) := by decide +kernel
theorem dX6_letPass_2 : decode cX6_letPass 2 = .ok (.if_icmp .lt 10, 3) := by decide +kernel
theorem dX6_letPass_5 : decode cX6_letPass 5 = .ok (.iload_n 1, 1) := by decide +kernel
theorem dX6_letPass_6 : decode cX6_letPass 6 = .ok (.sipush 999, 3) := by decide +kernel
theorem dX6_letPass_9 : decode cX6_letPass 9 = .ok (.if_icmp .le 6, 3) := by decide +kernel
theorem dX6_letPass_12 : decode cX6_letPass 12 = .ok (.bipush (-2), 2) := by decide +kernel
theorem dX6_letPass_14 : decode cX6_letPass 14 = .ok (.ireturn, 1) := by decide +kernel
theorem dX6_letPass_15 : decode cX6_letPass 15 = .ok (.aload_n 0, 1) := by decide +kernel
theorem dX6_letPass_16 : decode cX6_letPass 16 = .ok (.aload_n 0, 1) := by decide +kernel
theorem dX6_letPass_17 : decode cX6_letPass 17 = .ok (.getfield 53, 3) := by decide +kernel
theorem dX6_letPass_20 : decode cX6_letPass 20 = .ok (.iload_n 1, 1) := by decide +kernel
theorem dX6_letPass_21 : decode cX6_letPass 21 = .ok (.iadd, 1) := by decide +kernel
theorem dX6_letPass_22 : decode cX6_letPass 22 = .ok (.invokevirtual 152, 3) := by decide +kernel
theorem dX6_letPass_25 : decode cX6_letPass 25 = .ok (.aload_n 0, 1) := by decide +kernel
theorem dX6_letPass_26 : decode cX6_letPass 26 = .ok (.getfield 53, 3) := by decide +kernel
theorem dX6_letPass_29 : decode cX6_letPass 29 = .ok (.ireturn, 1) := by decide +kernel
theorem dX6_comeTo_0 : decode cX6_comeTo 0 = .ok (.aload_n 0, 1) := by decide +kernel
theorem dX6_comeTo_1 : decode cX6_comeTo 1 = .ok (.iload_n 1, 1) := by decide +kernel
theorem dX6_comeTo_2 : decode cX6_comeTo 2 = .ok (.putfield 53, 3) := by decide +kernel
theorem dX6_comeTo_5 : decode cX6_comeTo 5 = .ok (.aload_n 0, 1) := by decide +kernel
theorem dX6_comeTo_6 : decode cX6_comeTo 6 = .ok (.getfield 42, 3) := by decide +kernel
theorem dX6_comeTo_9 : decode cX6_comeTo 9 = .ok (.iload_n 1, 1) := by decide +kernel
theorem dX6_comeTo_10 : decode cX6_comeTo 10 = .ok (.invokevirtual 155, 3) := by decide +kernel
theorem dX6_comeTo_13 : decode cX6_comeTo 13 = .ok (.return_, 1) := by decide +kernel
theorem dX6_addTrain_0 : decode cX6_addTrain 0 = .ok (.aload_n 0, 1) := by decide +kernel
theorem dX6_addTrain_1 : decode cX6_addTrain 1 = .ok (.aload_n 1, 1) := by decide +kernel
theorem dX6_addTrain_2 : decode cX6_addTrain 2 = .ok (.iload_n 2, 1) := by decide +kernel
theorem dX6_addTrain_3 : decode cX6_addTrain 3 = .ok (.invokevirtual 158, 3) := by decide +kernel
theorem dX6_addTrain_6 : decode cX6_addTrain 6 = .ok (.ifCond .eq 23, 3) := by decide +kernel
theorem dX6_addTrain_9 : decode cX6_addTrain 9 = .ok (.iload_n 3, 1) := by decide +kernel
theorem dX6_addTrain_10 : decode cX6_addTrain 10 = .ok (.aload_n 0, 1) := by decide +kernel
theorem dX6_addTrain_11 : decode cX6_addTrain 11 = .ok (.getfield 53, 3) := by decide +kernel
theorem dX6_addTrain_14 : decode cX6_addTrain 14 = .ok (.if_icmp .lt 15, 3) := by decide +kernel
theorem dX6_addTrain_17 : decode cX6_addTrain 17 = .ok (.iload_n 3, 1) := by decide +kernel
theorem dX6_addTrain_18 : decode cX6_addTrain 18 = .ok (.aload_n 0, 1) := by decide +kernel
theorem dX6_addTrain_19 : decode cX6_addTrain 19 = .ok (.getfield 53, 3) := by decide +kernel
theorem dX6_addTrain_22 : decode cX6_addTrain 22 = .ok (.sipush 5000, 3) := by decide +kernel
theorem dX6_addTrain_25 : decode cX6_addTrain 25 = .ok (.iadd, 1) := by decide +kernel
theorem dX6_addTrain_26 : decode cX6_addTrain 26 = .ok (.if_icmp .le 6, 3) := by decide +kernel
theorem dX6_addTrain_29 : decode cX6_addTrain 29 = .ok (.bipush (-2), 2) := by decide +kernel
theorem dX6_addTrain_31 : decode cX6_addTrain 31 = .ok (.ireturn, 1) := by decide +kernel
theorem dX6_addTrain_32 : decode cX6_addTrain 32 = .ok (.aload_n 0, 1) := by decide +kernel
theorem dX6_addTrain_33 : decode cX6_addTrain 33 = .ok (.getfield 49, 3) := by decide +kernel
theorem dX6_addTrain_36 : decode cX6_addTrain 36 = .ok (.getfield 162, 3) := by decide +kernel
theorem dX6_addTrain_39 : decode cX6_addTrain 39 = .ok (.bipush 8, 2) := by decide +kernel
theorem dX6_addTrain_41 : decode cX6_addTrain 41 = .ok (.if_icmp .lt 6, 3) := by decide +kernel
theorem dX6_addTrain_44 : decode cX6_addTrain 44 = .ok (.bipush (-4), 2) := by decide +kernel
theorem dX6_addTrain_46 : decode cX6_addTrain 46 = .ok (.ireturn, 1) := by decide +kernel
theorem dX6_addTrain_47 : decode cX6_addTrain 47 = .ok (.iconst 0, 1) := by decide +kernel
theorem dX6_addTrain_48 : decode cX6_addTrain 48 = .ok (.istore 4, 2) := by decide +kernel
theorem dX6_addTrain_50 : decode cX6_addTrain 50 = .ok (.iload 4, 2) := by decide +kernel
theorem dX6_addTrain_52 : decode cX6_addTrain 52 = .ok (.iload_n 2, 1) := by decide +kernel
theorem dX6_addTrain_53 : decode cX6_addTrain 53 = .ok (.if_icmp .ge 28, 3) := by decide +kernel
theorem dX6_addTrain_56 : decode cX6_addTrain 56 = .ok (.aload_n 0, 1) := by decide +kernel
theorem dX6_addTrain_57 : decode cX6_addTrain 57 = .ok (.getfield 49, 3) := by decide +kernel
theorem dX6_addTrain_60 : decode cX6_addTrain 60 = .ok (.aload_n 1, 1) := by decide +kernel
theorem dX6_addTrain_61 : decode cX6_addTrain 61 = .ok (.iload 4, 2) := by decide +kernel
theorem dX6_addTrain_63 : decode cX6_addTrain 63 = .ok (.iaload, 1) := by decide +kernel
theorem dX6_addTrain_64 : decode cX6_addTrain 64 = .ok (.invokevirtual 165, 3) := by decide +kernel
theorem dX6_addTrain_67 : decode cX6_addTrain 67 = .ok (.bipush (-6), 2) := by decide +kernel
theorem dX6_addTrain_69 : decode cX6_addTrain 69 = .ok (.if_icmp .eq 6, 3) := by decide +kernel
theorem dX6_addTrain_72 : decode cX6_addTrain 72 = .ok (.bipush (-5), 2) := by decide +kernel
theorem dX6_addTrain_74 : decode cX6_addTrain 74 = .ok (.ireturn, 1) := by decide +kernel
theorem dX6_addTrain_75 : decode cX6_addTrain 75 = .ok (.iinc 4 1, 3) := by decide +kernel
theorem dX6_addTrain_78 : decode cX6_addTrain 78 = .ok (.goto (-28), 3) := by decide +kernel
theorem dX6_addTrain_81 : decode cX6_addTrain 81 = .ok (.aload_n 0, 1) := by decide +kernel
theorem dX6_addTrain_82 : decode cX6_addTrain 82 = .ok (.getfield 49, 3) := by decide +kernel
theorem dX6_addTrain_85 : decode cX6_addTrain 85 = .ok (.aload_n 1, 1) := by decide +kernel
theorem dX6_addTrain_86 : decode cX6_addTrain 86 = .ok (.iload_n 2, 1) := by decide +kernel
theorem dX6_addTrain_87 : decode cX6_addTrain 87 = .ok (.iload_n 3, 1) := by decide +kernel
theorem dX6_addTrain_88 : decode cX6_addTrain 88 = .ok (.invokevirtual 168, 3) := by decide +kernel
theorem dX6_addTrain_91 : decode cX6_addTrain 91 = .ok (.ireturn, 1) := by decide +kernel
theorem dX6_areThere_0 : decode cX6_areThere 0 = .ok (.iconst 0, 1) := by decide +kernel
theorem dX6_areThere_1 : decode cX6_areThere 1 = .ok (.istore_n 3, 1) := by decide +kernel
theorem dX6_areThere_2 : decode cX6_areThere 2 = .ok (.iload_n 3, 1) := by decide +kernel
theorem dX6_areThere_3 : decode cX6_areThere 3 = .ok (.iload_n 2, 1) := by decide +kernel
theorem dX6_areThere_4 : decode cX6_areThere 4 = .ok (.if_icmp .ge 53, 3) := by decide +kernel
theorem dX6_areThere_7 : decode cX6_areThere 7 = .ok (.aload_n 0, 1) := by decide +kernel
theorem dX6_areThere_8 : decode cX6_areThere 8 = .ok (.getfield 35, 3) := by decide +kernel
theorem dX6_areThere_11 : decode cX6_areThere 11 = .ok (.aload_n 1, 1) := by decide +kernel
theorem dX6_areThere_12 : decode cX6_areThere 12 = .ok (.iload_n 3, 1) := by decide +kernel
theorem dX6_areThere_13 : decode cX6_areThere 13 = .ok (.iaload, 1) := by decide +kernel
theorem dX6_areThere_14 : decode cX6_areThere 14 = .ok (.invokevirtual 171, 3) := by decide +kernel
theorem dX6_areThere_17 : decode cX6_areThere 17 = .ok (.bipush (-6), 2) := by decide +kernel
theorem dX6_areThere_19 : decode cX6_areThere 19 = .ok (.if_icmp .ne 5, 3) := by decide +kernel
theorem dX6_areThere_22 : decode cX6_areThere 22 = .ok (.iconst 0, 1) := by decide +kernel
theorem dX6_areThere_23 : decode cX6_areThere 23 = .ok (.ireturn, 1) := by decide +kernel
theorem dX6_areThere_24 : decode cX6_areThere 24 = .ok (.iconst 0, 1) := by decide +kernel
theorem dX6_areThere_25 : decode cX6_areThere 25 = .ok (.istore 4, 2) := by decide +kernel
theorem dX6_areThere_27 : decode cX6_areThere 27 = .ok (.iload 4, 2) := by decide +kernel
theorem dX6_areThere_29 : decode cX6_areThere 29 = .ok (.iload_n 3, 1) := by decide +kernel
theorem dX6_areThere_30 : decode cX6_areThere 30 = .ok (.if_icmp .ge 21, 3) := by decide +kernel
theorem dX6_areThere_33 : decode cX6_areThere 33 = .ok (.aload_n 1, 1) := by decide +kernel
theorem dX6_areThere_34 : decode cX6_areThere 34 = .ok (.iload_n 3, 1) := by decide +kernel
theorem dX6_areThere_35 : decode cX6_areThere 35 = .ok (.iaload, 1) := by decide +kernel
theorem dX6_areThere_36 : decode cX6_areThere 36 = .ok (.aload_n 1, 1) := by decide +kernel
theorem dX6_areThere_37 : decode cX6_areThere 37 = .ok (.iload 4, 2) := by decide +kernel
theorem dX6_areThere_39 : decode cX6_areThere 39 = .ok (.iaload, 1) := by decide +kernel
theorem dX6_areThere_40 : decode cX6_areThere 40 = .ok (.if_icmp .ne 5, 3) := by decide +kernel
theorem dX6_areThere_43 : decode cX6_areThere 43 = .ok (.iconst 0, 1) := by decide +kernel
theorem dX6_areThere_44 : decode cX6_areThere 44 = .ok (.ireturn, 1) := by decide +kernel
theorem dX6_areThere_45 : decode cX6_areThere 45 = .ok (.iinc 4 1, 3) := by decide +kernel
theorem dX6_areThere_48 : decode cX6_areThere 48 = .ok (.goto (-21), 3) := by decide +kernel
theorem dX6_areThere_51 : decode cX6_areThere 51 = .ok (.iinc 3 1, 3) := by decide +kernel
theorem dX6_areThere_54 : decode cX6_areThere 54 = .ok (.goto (-52), 3) := by decide +kernel
theorem dX6_areThere_57 : decode cX6_areThere 57 = .ok (.iload_n 2, 1) := by decide +kernel
theorem dX6_areThere_58 : decode cX6_areThere 58 = .ok (.ifCond .le 7, 3) := by decide +kernel
theorem dX6_areThere_61 : decode cX6_areThere 61 = .ok (.iconst 1, 1) := by decide +kernel
theorem dX6_areThere_62 : decode cX6_areThere 62 = .ok (.goto 4, 3) := by decide +kernel
theorem dX6_areThere_65 : decode cX6_areThere 65 = .ok (.iconst 0, 1) := by decide +kernel
theorem dX6_areThere_66 : decode cX6_areThere 66 = .ok (.ireturn, 1) := by decide +kernel
theorem dX6_strikeOut_0 : decode cX6_strikeOut 0 = .ok (.aload_n 0, 1) := by decide +kernel
theorem dX6_strikeOut_1 : decode cX6_strikeOut 1 = .ok (.getfield 49, 3) := by decide +kernel
theorem dX6_strikeOut_4 : decode cX6_strikeOut 4 = .ok (.iload_n 1, 1) := by decide +kernel
theorem dX6_strikeOut_5 : decode cX6_strikeOut 5 = .ok (.invokevirtual 174, 3) := by decide +kernel
theorem dX6_strikeOut_8 : decode cX6_strikeOut 8 = .ok (.ifCond .ne 5, 3) := by decide +kernel
theorem dX6_strikeOut_11 : decode cX6_strikeOut 11 = .ok (.iconst (-1), 1) := by decide +kernel
theorem dX6_strikeOut_12 : decode cX6_strikeOut 12 = .ok (.ireturn, 1) := by decide +kernel
theorem dX6_strikeOut_13 : decode cX6_strikeOut 13 = .ok (.aload_n 0, 1) := by decide +kernel
theorem dX6_strikeOut_14 : decode cX6_strikeOut 14 = .ok (.getfield 49, 3) := by decide +kernel
theorem dX6_strikeOut_17 : decode cX6_strikeOut 17 = .ok (.iload_n 1, 1) := by decide +kernel
theorem dX6_strikeOut_18 : decode cX6_strikeOut 18 = .ok (.invokevirtual 177, 3) := by decide +kernel
theorem dX6_strikeOut_21 : decode cX6_strikeOut 21 = .ok (.aload_n 0, 1) := by decide +kernel
theorem dX6_strikeOut_22 : decode cX6_strikeOut 22 = .ok (.getfield 49, 3) := by decide +kernel
theorem dX6_strikeOut_25 : decode cX6_strikeOut 25 = .ok (.getfield 162, 3) := by decide +kernel
theorem dX6_strikeOut_28 : decode cX6_strikeOut 28 = .ok (.ireturn, 1) := by decide +kernel
theorem dX6_letLeave_0 : decode cX6_letLeave 0 = .ok (.aload_n 0, 1) := by decide +kernel
theorem dX6_letLeave_1 : decode cX6_letLeave 1 = .ok (.getfield 49, 3) := by decide +kernel
theorem dX6_letLeave_4 : decode cX6_letLeave 4 = .ok (.iload_n 1, 1) := by decide +kernel
theorem dX6_letLeave_5 : decode cX6_letLeave 5 = .ok (.invokevirtual 174, 3) := by decide +kernel
theorem dX6_letLeave_8 : decode cX6_letLeave 8 = .ok (.ifCond .ne 5, 3) := by decide +kernel
theorem dX6_letLeave_11 : decode cX6_letLeave 11 = .ok (.iconst (-1), 1) := by decide +kernel
theorem dX6_letLeave_12 : decode cX6_letLeave 12 = .ok (.ireturn, 1) := by decide +kernel
theorem dX6_letLeave_13 : decode cX6_letLeave 13 = .ok (.aload_n 0, 1) := by decide +kernel
theorem dX6_letLeave_14 : decode cX6_letLeave 14 = .ok (.iload_n 1, 1) := by decide +kernel
theorem dX6_letLeave_15 : decode cX6_letLeave 15 = .ok (.invokevirtual 180, 3) := by decide +kernel
theorem dX6_letLeave_18 : decode cX6_letLeave 18 = .ok (.ifCond .ne 6, 3) := by decide +kernel
theorem dX6_letLeave_21 : decode cX6_letLeave 21 = .ok (.bipush (-5), 2) := by decide +kernel
theorem dX6_letLeave_23 : decode cX6_letLeave 23 = .ok (.ireturn, 1) := by decide +kernel
theorem dX6_letLeave_24 : decode cX6_letLeave 24 = .ok (.iconst 0, 1) := by decide +kernel
theorem dX6_letLeave_25 : decode cX6_letLeave 25 = .ok (.aload_n 0, 1) := by decide +kernel
theorem dX6_letLeave_26 : decode cX6_letLeave 26 = .ok (.getfield 53, 3) := by decide +kernel
theorem dX6_letLeave_29 : decode cX6_letLeave 29 = .ok (.aload_n 0, 1) := by decide +kernel
theorem dX6_letLeave_30 : decode cX6_letLeave 30 = .ok (.getfield 49, 3) := by decide +kernel
theorem dX6_letLeave_33 : decode cX6_letLeave 33 = .ok (.getfield 183, 3) := by decide +kernel
theorem dX6_letLeave_36 : decode cX6_letLeave 36 = .ok (.iload_n 1, 1) := by decide +kernel
theorem dX6_letLeave_37 : decode cX6_letLeave 37 = .ok (.iaload, 1) := by decide +kernel
theorem dX6_letLeave_38 : decode cX6_letLeave 38 = .ok (.isub, 1) := by decide +kernel
theorem dX6_letLeave_39 : decode cX6_letLeave 39 = .ok (.invokestatic 186, 3) := by decide +kernel
theorem dX6_letLeave_42 : decode cX6_letLeave 42 = .ok (.istore_n 2, 1) := by decide +kernel
theorem dX6_letLeave_43 : decode cX6_letLeave 43 = .ok (.aload_n 0, 1) := by decide +kernel
theorem dX6_letLeave_44 : decode cX6_letLeave 44 = .ok (.dup, 1) := by decide +kernel
theorem dX6_letLeave_45 : decode cX6_letLeave 45 = .ok (.getfield 66, 3) := by decide +kernel
theorem dX6_letLeave_48 : decode cX6_letLeave 48 = .ok (.iload_n 2, 1) := by decide +kernel
theorem dX6_letLeave_49 : decode cX6_letLeave 49 = .ok (.aload_n 0, 1) := by decide +kernel
theorem dX6_letLeave_50 : decode cX6_letLeave 50 = .ok (.getfield 18, 3) := by decide +kernel
theorem dX6_letLeave_53 : decode cX6_letLeave 53 = .ok (.iconst 5, 1) := by decide +kernel
theorem dX6_letLeave_54 : decode cX6_letLeave 54 = .ok (.iaload, 1) := by decide +kernel
theorem dX6_letLeave_55 : decode cX6_letLeave 55 = .ok (.imul, 1) := by decide +kernel
theorem dX6_letLeave_56 : decode cX6_letLeave 56 = .ok (.iadd, 1) := by decide +kernel
theorem dX6_letLeave_57 : decode cX6_letLeave 57 = .ok (.putfield 66, 3) := by decide +kernel
theorem dX6_letLeave_60 : decode cX6_letLeave 60 = .ok (.aload_n 0, 1) := by decide +kernel
theorem dX6_letLeave_61 : decode cX6_letLeave 61 = .ok (.getfield 35, 3) := by decide +kernel
theorem dX6_letLeave_64 : decode cX6_letLeave 64 = .ok (.aload_n 0, 1) := by decide +kernel
theorem dX6_letLeave_65 : decode cX6_letLeave 65 = .ok (.getfield 53, 3) := by decide +kernel
theorem dX6_letLeave_68 : decode cX6_letLeave 68 = .ok (.invokevirtual 191, 3) := by decide +kernel
theorem dX6_letLeave_71 : decode cX6_letLeave 71 = .ok (.aload_n 0, 1) := by decide +kernel
theorem dX6_letLeave_72 : decode cX6_letLeave 72 = .ok (.getfield 49, 3) := by decide +kernel
theorem dX6_letLeave_75 : decode cX6_letLeave 75 = .ok (.iload_n 1, 1) := by decide +kernel
theorem dX6_letLeave_76 : decode cX6_letLeave 76 = .ok (.invokevirtual 177, 3) := by decide +kernel
theorem dX6_letLeave_79 : decode cX6_letLeave 79 = .ok (.aload_n 0, 1) := by decide +kernel
theorem dX6_letLeave_80 : decode cX6_letLeave 80 = .ok (.dup, 1) := by decide +kernel
theorem dX6_letLeave_81 : decode cX6_letLeave 81 = .ok (.getfield 69, 3) := by decide +kernel
theorem dX6_letLeave_84 : decode cX6_letLeave 84 = .ok (.iconst 1, 1) := by decide +kernel
theorem dX6_letLeave_85 : decode cX6_letLeave 85 = .ok (.iadd, 1) := by decide +kernel
theorem dX6_letLeave_86 : decode cX6_letLeave 86 = .ok (.putfield 69, 3) := by decide +kernel
theorem dX6_letLeave_89 : decode cX6_letLeave 89 = .ok (.iload_n 2, 1) := by decide +kernel
theorem dX6_letLeave_90 : decode cX6_letLeave 90 = .ok (.ireturn, 1) := by decide +kernel
theorem dX6_couldLeave_0 : decode cX6_couldLeave 0 = .ok (.aload_n 0, 1) := by decide +kernel
theorem dX6_couldLeave_1 : decode cX6_couldLeave 1 = .ok (.getfield 49, 3) := by decide +kernel
theorem dX6_couldLeave_4 : decode cX6_couldLeave 4 = .ok (.iload_n 1, 1) := by decide +kernel
theorem dX6_couldLeave_5 : decode cX6_couldLeave 5 = .ok (.invokevirtual 194, 3) := by decide +kernel
theorem dX6_couldLeave_8 : decode cX6_couldLeave 8 = .ok (.istore_n 2, 1) := by decide +kernel
theorem dX6_couldLeave_9 : decode cX6_couldLeave 9 = .ok (.aload_n 0, 1) := by decide +kernel
theorem dX6_couldLeave_10 : decode cX6_couldLeave 10 = .ok (.getfield 35, 3) := by decide +kernel
theorem dX6_couldLeave_13 : decode cX6_couldLeave 13 = .ok (.bipush 8, 2) := by decide +kernel
theorem dX6_couldLeave_15 : decode cX6_couldLeave 15 = .ok (.invokevirtual 121, 3) := by decide +kernel
theorem dX6_couldLeave_18 : decode cX6_couldLeave 18 = .ok (.iload_n 2, 1) := by decide +kernel
theorem dX6_couldLeave_19 : decode cX6_couldLeave 19 = .ok (.if_icmp .ne 16, 3) := by decide +kernel
theorem dX6_couldLeave_22 : decode cX6_couldLeave 22 = .ok (.aload_n 0, 1) := by decide +kernel
theorem dX6_couldLeave_23 : decode cX6_couldLeave 23 = .ok (.iload_n 1, 1) := by decide +kernel
theorem dX6_couldLeave_24 : decode cX6_couldLeave 24 = .ok (.invokevirtual 197, 3) := by decide +kernel
theorem dX6_couldLeave_27 : decode cX6_couldLeave 27 = .ok (.iload_n 2, 1) := by decide +kernel
theorem dX6_couldLeave_28 : decode cX6_couldLeave 28 = .ok (.if_icmp .ne 7, 3) := by decide +kernel
theorem dX6_couldLeave_31 : decode cX6_couldLeave 31 = .ok (.iconst 1, 1) := by decide +kernel
theorem dX6_couldLeave_32 : decode cX6_couldLeave 32 = .ok (.goto 4, 3) := by decide +kernel
theorem dX6_couldLeave_35 : decode cX6_couldLeave 35 = .ok (.iconst 0, 1) := by decide +kernel
theorem dX6_couldLeave_36 : decode cX6_couldLeave 36 = .ok (.ireturn, 1) := by decide +kernel
theorem dX6_manyAlike_0 : decode cX6_manyAlike 0 = .ok (.aload_n 0, 1) := by decide +kernel
theorem dX6_manyAlike_1 : decode cX6_manyAlike 1 = .ok (.getfield 35, 3) := by decide +kernel
theorem dX6_manyAlike_4 : decode cX6_manyAlike 4 = .ok (.bipush 8, 2) := by decide +kernel
theorem dX6_manyAlike_6 : decode cX6_manyAlike 6 = .ok (.invokevirtual 121, 3) := by decide +kernel
theorem dX6_manyAlike_9 : decode cX6_manyAlike 9 = .ok (.aload_n 0, 1) := by decide +kernel
theorem dX6_manyAlike_10 : decode cX6_manyAlike 10 = .ok (.getfield 49, 3) := by decide +kernel
theorem dX6_manyAlike_13 : decode cX6_manyAlike 13 = .ok (.iload_n 1, 1) := by decide +kernel
theorem dX6_manyAlike_14 : decode cX6_manyAlike 14 = .ok (.invokevirtual 194, 3) := by decide +kernel
theorem dX6_manyAlike_17 : decode cX6_manyAlike 17 = .ok (.invokestatic 200, 3) := by decide +kernel
theorem dX6_manyAlike_20 : decode cX6_manyAlike 20 = .ok (.istore_n 2, 1) := by decide +kernel
theorem dX6_manyAlike_21 : decode cX6_manyAlike 21 = .ok (.iconst 0, 1) := by decide +kernel
theorem dX6_manyAlike_22 : decode cX6_manyAlike 22 = .ok (.istore_n 3, 1) := by decide +kernel
theorem dX6_manyAlike_23 : decode cX6_manyAlike 23 = .ok (.iload_n 3, 1) := by decide +kernel
theorem dX6_manyAlike_24 : decode cX6_manyAlike 24 = .ok (.iload_n 2, 1) := by decide +kernel
theorem dX6_manyAlike_25 : decode cX6_manyAlike 25 = .ok (.if_icmp .ge 33, 3) := by decide +kernel
theorem dX6_manyAlike_28 : decode cX6_manyAlike 28 = .ok (.aload_n 0, 1) := by decide +kernel
theorem dX6_manyAlike_29 : decode cX6_manyAlike 29 = .ok (.getfield 35, 3) := by decide +kernel
theorem dX6_manyAlike_32 : decode cX6_manyAlike 32 = .ok (.bipush 8, 2) := by decide +kernel
theorem dX6_manyAlike_34 : decode cX6_manyAlike 34 = .ok (.iload_n 3, 1) := by decide +kernel
theorem dX6_manyAlike_35 : decode cX6_manyAlike 35 = .ok (.invokevirtual 203, 3) := by decide +kernel
theorem dX6_manyAlike_38 : decode cX6_manyAlike 38 = .ok (.aload_n 0, 1) := by decide +kernel
theorem dX6_manyAlike_39 : decode cX6_manyAlike 39 = .ok (.getfield 49, 3) := by decide +kernel
theorem dX6_manyAlike_42 : decode cX6_manyAlike 42 = .ok (.iload_n 1, 1) := by decide +kernel
theorem dX6_manyAlike_43 : decode cX6_manyAlike 43 = .ok (.iload_n 3, 1) := by decide +kernel
theorem dX6_manyAlike_44 : decode cX6_manyAlike 44 = .ok (.invokevirtual 206, 3) := by decide +kernel
theorem dX6_manyAlike_47 : decode cX6_manyAlike 47 = .ok (.if_icmp .eq 5, 3) := by decide +kernel
theorem dX6_manyAlike_50 : decode cX6_manyAlike 50 = .ok (.iload_n 3, 1) := by decide +kernel
theorem dX6_manyAlike_51 : decode cX6_manyAlike 51 = .ok (.ireturn, 1) := by decide +kernel
theorem dX6_manyAlike_52 : decode cX6_manyAlike 52 = .ok (.iinc 3 1, 3) := by decide +kernel
theorem dX6_manyAlike_55 : decode cX6_manyAlike 55 = .ok (.goto (-32), 3) := by decide +kernel
theorem dX6_manyAlike_58 : decode cX6_manyAlike 58 = .ok (.iload_n 2, 1) := by decide +kernel
theorem dX6_manyAlike_59 : decode cX6_manyAlike 59 = .ok (.ireturn, 1) := by decide +kernel
theorem dX6_aboutTrack_0 : decode cX6_aboutTrack 0 = .ok (.aload_n 0, 1) := by decide +kernel
theorem dX6_aboutTrack_1 : decode cX6_aboutTrack 1 = .ok (.iload_n 1, 1) := by decide +kernel
theorem dX6_aboutTrack_2 : decode cX6_aboutTrack 2 = .ok (.invokevirtual 97, 3) := by decide +kernel
theorem dX6_aboutTrack_5 : decode cX6_aboutTrack 5 = .ok (.ifCond .ne 5, 3) := by decide +kernel
theorem dX6_aboutTrack_8 : decode cX6_aboutTrack 8 = .ok (.iconst (-1), 1) := by decide +kernel
theorem dX6_aboutTrack_9 : decode cX6_aboutTrack 9 = .ok (.ireturn, 1) := by decide +kernel
theorem dX6_aboutTrack_10 : decode cX6_aboutTrack 10 = .ok (.iload_n 2, 1) := by decide +kernel
theorem dX6_aboutTrack_11 : decode cX6_aboutTrack 11 = .ok (.tableswitch 72 0 4 #[33, 40, 49, 58, 65], 33) := by decide +kernel
theorem dX6_aboutTrack_44 : decode cX6_aboutTrack 44 = .ok (.aload_n 0, 1) := by decide +kernel
theorem dX6_aboutTrack_45 : decode cX6_aboutTrack 45 = .ok (.getfield 23, 3) := by decide +kernel
theorem dX6_aboutTrack_48 : decode cX6_aboutTrack 48 = .ok (.iload_n 1, 1) := by decide +kernel
theorem dX6_aboutTrack_49 : decode cX6_aboutTrack 49 = .ok (.iaload, 1) := by decide +kernel
theorem dX6_aboutTrack_50 : decode cX6_aboutTrack 50 = .ok (.ireturn, 1) := by decide +kernel
theorem dX6_aboutTrack_51 : decode cX6_aboutTrack 51 = .ok (.aload_n 0, 1) := by decide +kernel
theorem dX6_aboutTrack_52 : decode cX6_aboutTrack 52 = .ok (.getfield 35, 3) := by decide +kernel
theorem dX6_aboutTrack_55 : decode cX6_aboutTrack 55 = .ok (.iload_n 1, 1) := by decide +kernel
theorem dX6_aboutTrack_56 : decode cX6_aboutTrack 56 = .ok (.invokevirtual 121, 3) := by decide +kernel
theorem dX6_aboutTrack_59 : decode cX6_aboutTrack 59 = .ok (.ireturn, 1) := by decide +kernel
theorem dX6_aboutTrack_60 : decode cX6_aboutTrack 60 = .ok (.aload_n 0, 1) := by decide +kernel
theorem dX6_aboutTrack_61 : decode cX6_aboutTrack 61 = .ok (.getfield 35, 3) := by decide +kernel
theorem dX6_aboutTrack_64 : decode cX6_aboutTrack 64 = .ok (.iload_n 1, 1) := by decide +kernel
theorem dX6_aboutTrack_65 : decode cX6_aboutTrack 65 = .ok (.invokevirtual 104, 3) := by decide +kernel
theorem dX6_aboutTrack_68 : decode cX6_aboutTrack 68 = .ok (.ireturn, 1) := by decide +kernel
theorem dX6_aboutTrack_69 : decode cX6_aboutTrack 69 = .ok (.aload_n 0, 1) := by decide +kernel
theorem dX6_aboutTrack_70 : decode cX6_aboutTrack 70 = .ok (.getfield 26, 3) := by decide +kernel
theorem dX6_aboutTrack_73 : decode cX6_aboutTrack 73 = .ok (.iload_n 1, 1) := by decide +kernel
theorem dX6_aboutTrack_74 : decode cX6_aboutTrack 74 = .ok (.iaload, 1) := by decide +kernel
theorem dX6_aboutTrack_75 : decode cX6_aboutTrack 75 = .ok (.ireturn, 1) := by decide +kernel
theorem dX6_aboutTrack_76 : decode cX6_aboutTrack 76 = .ok (.aload_n 0, 1) := by decide +kernel
theorem dX6_aboutTrack_77 : decode cX6_aboutTrack 77 = .ok (.getfield 29, 3) := by decide +kernel
theorem dX6_aboutTrack_80 : decode cX6_aboutTrack 80 = .ok (.iload_n 1, 1) := by decide +kernel
theorem dX6_aboutTrack_81 : decode cX6_aboutTrack 81 = .ok (.iaload, 1) := by decide +kernel
theorem dX6_aboutTrack_82 : decode cX6_aboutTrack 82 = .ok (.ireturn, 1) := by decide +kernel
theorem dX6_aboutTrack_83 : decode cX6_aboutTrack 83 = .ok (.bipush (-2), 2) := by decide +kernel
theorem dX6_aboutTrack_85 : decode cX6_aboutTrack 85 = .ok (.ireturn, 1) := by decide +kernel
theorem dX6_aboutWagon_0 : decode cX6_aboutWagon 0 = .ok (.iload_n 1, 1) := by decide +kernel
theorem dX6_aboutWagon_1 : decode cX6_aboutWagon 1 = .ok (.ifCond .lt 14, 3) := by decide +kernel
theorem dX6_aboutWagon_4 : decode cX6_aboutWagon 4 = .ok (.iload_n 1, 1) := by decide +kernel
theorem dX6_aboutWagon_5 : decode cX6_aboutWagon 5 = .ok (.aload_n 0, 1) := by decide +kernel
theorem dX6_aboutWagon_6 : decode cX6_aboutWagon 6 = .ok (.getfield 35, 3) := by decide +kernel
theorem dX6_aboutWagon_9 : decode cX6_aboutWagon 9 = .ok (.getfield 101, 3) := by decide +kernel
theorem dX6_aboutWagon_12 : decode cX6_aboutWagon 12 = .ok (.if_icmp .lt 5, 3) := by decide +kernel
theorem dX6_aboutWagon_15 : decode cX6_aboutWagon 15 = .ok (.iconst (-1), 1) := by decide +kernel
theorem dX6_aboutWagon_16 : decode cX6_aboutWagon 16 = .ok (.ireturn, 1) := by decide +kernel
theorem dX6_aboutWagon_17 : decode cX6_aboutWagon 17 = .ok (.aload_n 0, 1) := by decide +kernel
theorem dX6_aboutWagon_18 : decode cX6_aboutWagon 18 = .ok (.getfield 35, 3) := by decide +kernel
theorem dX6_aboutWagon_21 : decode cX6_aboutWagon 21 = .ok (.iload_n 1, 1) := by decide +kernel
theorem dX6_aboutWagon_22 : decode cX6_aboutWagon 22 = .ok (.invokevirtual 171, 3) := by decide +kernel
theorem dX6_aboutWagon_25 : decode cX6_aboutWagon 25 = .ok (.istore_n 3, 1) := by decide +kernel
theorem dX6_aboutWagon_26 : decode cX6_aboutWagon 26 = .ok (.iload_n 3, 1) := by decide +kernel
theorem dX6_aboutWagon_27 : decode cX6_aboutWagon 27 = .ok (.bipush (-6), 2) := by decide +kernel
theorem dX6_aboutWagon_29 : decode cX6_aboutWagon 29 = .ok (.if_icmp .ne 8, 3) := by decide +kernel
theorem dX6_aboutWagon_32 : decode cX6_aboutWagon 32 = .ok (.bipush (-6), 2) := by decide +kernel
theorem dX6_aboutWagon_34 : decode cX6_aboutWagon 34 = .ok (.goto 12, 3) := by decide +kernel
theorem dX6_aboutWagon_37 : decode cX6_aboutWagon 37 = .ok (.aload_n 0, 1) := by decide +kernel
theorem dX6_aboutWagon_38 : decode cX6_aboutWagon 38 = .ok (.getfield 35, 3) := by decide +kernel
theorem dX6_aboutWagon_41 : decode cX6_aboutWagon 41 = .ok (.iload_n 3, 1) := by decide +kernel
theorem dX6_aboutWagon_42 : decode cX6_aboutWagon 42 = .ok (.iload_n 1, 1) := by decide +kernel
theorem dX6_aboutWagon_43 : decode cX6_aboutWagon 43 = .ok (.invokevirtual 209, 3) := by decide +kernel
theorem dX6_aboutWagon_46 : decode cX6_aboutWagon 46 = .ok (.istore 4, 2) := by decide +kernel
theorem dX6_aboutWagon_48 : decode cX6_aboutWagon 48 = .ok (.iload_n 2, 1) := by decide +kernel
theorem dX6_aboutWagon_49 : decode cX6_aboutWagon 49 = .ok (.tableswitch 139 0 7 #[47, 57, 70, 73, 85, 106, 116, 125], 47) := by decide +kernel
theorem dX6_aboutWagon_96 : decode cX6_aboutWagon 96 = .ok (.aload_n 0, 1) := by decide +kernel
theorem dX6_aboutWagon_97 : decode cX6_aboutWagon 97 = .ok (.getfield 35, 3) := by decide +kernel
theorem dX6_aboutWagon_100 : decode cX6_aboutWagon 100 = .ok (.getfield 212, 3) := by decide +kernel
theorem dX6_aboutWagon_103 : decode cX6_aboutWagon 103 = .ok (.iload_n 1, 1) := by decide +kernel
theorem dX6_aboutWagon_104 : decode cX6_aboutWagon 104 = .ok (.iaload, 1) := by decide +kernel
theorem dX6_aboutWagon_105 : decode cX6_aboutWagon 105 = .ok (.ireturn, 1) := by decide +kernel
theorem dX6_aboutWagon_106 : decode cX6_aboutWagon 106 = .ok (.iload_n 3, 1) := by decide +kernel
theorem dX6_aboutWagon_107 : decode cX6_aboutWagon 107 = .ok (.bipush 8, 2) := by decide +kernel
theorem dX6_aboutWagon_109 : decode cX6_aboutWagon 109 = .ok (.if_icmp .ne 8, 3) := by decide +kernel
theorem dX6_aboutWagon_112 : decode cX6_aboutWagon 112 = .ok (.bipush (-6), 2) := by decide +kernel
theorem dX6_aboutWagon_114 : decode cX6_aboutWagon 114 = .ok (.goto 4, 3) := by decide +kernel
theorem dX6_aboutWagon_117 : decode cX6_aboutWagon 117 = .ok (.iload_n 3, 1) := by decide +kernel
theorem dX6_aboutWagon_118 : decode cX6_aboutWagon 118 = .ok (.ireturn, 1) := by decide +kernel
theorem dX6_aboutWagon_119 : decode cX6_aboutWagon 119 = .ok (.iload 4, 2) := by decide +kernel
theorem dX6_aboutWagon_121 : decode cX6_aboutWagon 121 = .ok (.ireturn, 1) := by decide +kernel
theorem dX6_aboutWagon_122 : decode cX6_aboutWagon 122 = .ok (.iload_n 3, 1) := by decide +kernel
theorem dX6_aboutWagon_123 : decode cX6_aboutWagon 123 = .ok (.bipush 8, 2) := by decide +kernel
theorem dX6_aboutWagon_125 : decode cX6_aboutWagon 125 = .ok (.if_icmp .ne 7, 3) := by decide +kernel
theorem dX6_aboutWagon_128 : decode cX6_aboutWagon 128 = .ok (.iconst 1, 1) := by decide +kernel
theorem dX6_aboutWagon_129 : decode cX6_aboutWagon 129 = .ok (.goto 4, 3) := by decide +kernel
theorem dX6_aboutWagon_132 : decode cX6_aboutWagon 132 = .ok (.iconst 0, 1) := by decide +kernel
theorem dX6_aboutWagon_133 : decode cX6_aboutWagon 133 = .ok (.ireturn, 1) := by decide +kernel
theorem dX6_aboutWagon_134 : decode cX6_aboutWagon 134 = .ok (.iload_n 3, 1) := by decide +kernel
theorem dX6_aboutWagon_135 : decode cX6_aboutWagon 135 = .ok (.bipush (-6), 2) := by decide +kernel
theorem dX6_aboutWagon_137 : decode cX6_aboutWagon 137 = .ok (.if_icmp .ne 15, 3) := by decide +kernel
theorem dX6_aboutWagon_140 : decode cX6_aboutWagon 140 = .ok (.aload_n 0, 1) := by decide +kernel
theorem dX6_aboutWagon_141 : decode cX6_aboutWagon 141 = .ok (.getfield 35, 3) := by decide +kernel
theorem dX6_aboutWagon_144 : decode cX6_aboutWagon 144 = .ok (.getfield 215, 3) := by decide +kernel
theorem dX6_aboutWagon_147 : decode cX6_aboutWagon 147 = .ok (.iload_n 1, 1) := by decide +kernel
theorem dX6_aboutWagon_148 : decode cX6_aboutWagon 148 = .ok (.iaload, 1) := by decide +kernel
theorem dX6_aboutWagon_149 : decode cX6_aboutWagon 149 = .ok (.goto 5, 3) := by decide +kernel
theorem dX6_aboutWagon_152 : decode cX6_aboutWagon 152 = .ok (.bipush (-6), 2) := by decide +kernel
theorem dX6_aboutWagon_154 : decode cX6_aboutWagon 154 = .ok (.ireturn, 1) := by decide +kernel
theorem dX6_aboutWagon_155 : decode cX6_aboutWagon 155 = .ok (.aload_n 0, 1) := by decide +kernel
theorem dX6_aboutWagon_156 : decode cX6_aboutWagon 156 = .ok (.getfield 35, 3) := by decide +kernel
theorem dX6_aboutWagon_159 : decode cX6_aboutWagon 159 = .ok (.getfield 218, 3) := by decide +kernel
theorem dX6_aboutWagon_162 : decode cX6_aboutWagon 162 = .ok (.iload_n 1, 1) := by decide +kernel
theorem dX6_aboutWagon_163 : decode cX6_aboutWagon 163 = .ok (.iaload, 1) := by decide +kernel
theorem dX6_aboutWagon_164 : decode cX6_aboutWagon 164 = .ok (.ireturn, 1) := by decide +kernel
theorem dX6_aboutWagon_165 : decode cX6_aboutWagon 165 = .ok (.aload_n 0, 1) := by decide +kernel
theorem dX6_aboutWagon_166 : decode cX6_aboutWagon 166 = .ok (.getfield 49, 3) := by decide +kernel
theorem dX6_aboutWagon_169 : decode cX6_aboutWagon 169 = .ok (.iload_n 1, 1) := by decide +kernel
theorem dX6_aboutWagon_170 : decode cX6_aboutWagon 170 = .ok (.invokevirtual 165, 3) := by decide +kernel
theorem dX6_aboutWagon_173 : decode cX6_aboutWagon 173 = .ok (.ireturn, 1) := by decide +kernel
theorem dX6_aboutWagon_174 : decode cX6_aboutWagon 174 = .ok (.iload_n 3, 1) := by decide +kernel
theorem dX6_aboutWagon_175 : decode cX6_aboutWagon 175 = .ok (.bipush 8, 2) := by decide +kernel
theorem dX6_aboutWagon_177 : decode cX6_aboutWagon 177 = .ok (.if_icmp .ne 8, 3) := by decide +kernel
theorem dX6_aboutWagon_180 : decode cX6_aboutWagon 180 = .ok (.bipush (-6), 2) := by decide +kernel
theorem dX6_aboutWagon_182 : decode cX6_aboutWagon 182 = .ok (.goto 5, 3) := by decide +kernel
theorem dX6_aboutWagon_185 : decode cX6_aboutWagon 185 = .ok (.iload 4, 2) := by decide +kernel
theorem dX6_aboutWagon_187 : decode cX6_aboutWagon 187 = .ok (.ireturn, 1) := by decide +kernel
theorem dX6_aboutWagon_188 : decode cX6_aboutWagon 188 = .ok (.bipush (-2), 2) := by decide +kernel
theorem dX6_aboutWagon_190 : decode cX6_aboutWagon 190 = .ok (.ireturn, 1) := by decide +kernel
theorem dX6_aboutTrain_0 : decode cX6_aboutTrain 0 = .ok (.aload_n 0, 1) := by decide +kernel
theorem dX6_aboutTrain_1 : decode cX6_aboutTrain 1 = .ok (.getfield 49, 3) := by decide +kernel
theorem dX6_aboutTrain_4 : decode cX6_aboutTrain 4 = .ok (.iload_n 1, 1) := by decide +kernel
theorem dX6_aboutTrain_5 : decode cX6_aboutTrain 5 = .ok (.invokevirtual 174, 3) := by decide +kernel
theorem dX6_aboutTrain_8 : decode cX6_aboutTrain 8 = .ok (.ifCond .ne 5, 3) := by decide +kernel
theorem dX6_aboutTrain_11 : decode cX6_aboutTrain 11 = .ok (.iconst (-1), 1) := by decide +kernel
theorem dX6_aboutTrain_12 : decode cX6_aboutTrain 12 = .ok (.ireturn, 1) := by decide +kernel
theorem dX6_aboutTrain_13 : decode cX6_aboutTrain 13 = .ok (.iload_n 2, 1) := by decide +kernel
theorem dX6_aboutTrain_14 : decode cX6_aboutTrain 14 = .ok (.ifCond .lt 9, 3) := by decide +kernel
theorem dX6_aboutTrain_17 : decode cX6_aboutTrain 17 = .ok (.iload_n 2, 1) := by decide +kernel
theorem dX6_aboutTrain_18 : decode cX6_aboutTrain 18 = .ok (.bipush 10, 2) := by decide +kernel
theorem dX6_aboutTrain_20 : decode cX6_aboutTrain 20 = .ok (.if_icmp .le 6, 3) := by decide +kernel
theorem dX6_aboutTrain_23 : decode cX6_aboutTrain 23 = .ok (.bipush (-2), 2) := by decide +kernel
theorem dX6_aboutTrain_25 : decode cX6_aboutTrain 25 = .ok (.ireturn, 1) := by decide +kernel
theorem dX6_aboutTrain_26 : decode cX6_aboutTrain 26 = .ok (.iload_n 2, 1) := by decide +kernel
theorem dX6_aboutTrain_27 : decode cX6_aboutTrain 27 = .ok (.ifCond .ne 12, 3) := by decide +kernel
theorem dX6_aboutTrain_30 : decode cX6_aboutTrain 30 = .ok (.aload_n 0, 1) := by decide +kernel
theorem dX6_aboutTrain_31 : decode cX6_aboutTrain 31 = .ok (.getfield 49, 3) := by decide +kernel
theorem dX6_aboutTrain_34 : decode cX6_aboutTrain 34 = .ok (.iload_n 1, 1) := by decide +kernel
theorem dX6_aboutTrain_35 : decode cX6_aboutTrain 35 = .ok (.invokevirtual 194, 3) := by decide +kernel
theorem dX6_aboutTrain_38 : decode cX6_aboutTrain 38 = .ok (.ireturn, 1) := by decide +kernel
theorem dX6_aboutTrain_39 : decode cX6_aboutTrain 39 = .ok (.iload_n 2, 1) := by decide +kernel
theorem dX6_aboutTrain_40 : decode cX6_aboutTrain 40 = .ok (.iconst 1, 1) := by decide +kernel
theorem dX6_aboutTrain_41 : decode cX6_aboutTrain 41 = .ok (.if_icmp .ne 13, 3) := by decide +kernel
theorem dX6_aboutTrain_44 : decode cX6_aboutTrain 44 = .ok (.aload_n 0, 1) := by decide +kernel
theorem dX6_aboutTrain_45 : decode cX6_aboutTrain 45 = .ok (.getfield 49, 3) := by decide +kernel
theorem dX6_aboutTrain_48 : decode cX6_aboutTrain 48 = .ok (.getfield 183, 3) := by decide +kernel
theorem dX6_aboutTrain_51 : decode cX6_aboutTrain 51 = .ok (.iload_n 1, 1) := by decide +kernel
theorem dX6_aboutTrain_52 : decode cX6_aboutTrain 52 = .ok (.iaload, 1) := by decide +kernel
theorem dX6_aboutTrain_53 : decode cX6_aboutTrain 53 = .ok (.ireturn, 1) := by decide +kernel
theorem dX6_aboutTrain_54 : decode cX6_aboutTrain 54 = .ok (.iload_n 2, 1) := by decide +kernel
theorem dX6_aboutTrain_55 : decode cX6_aboutTrain 55 = .ok (.bipush 10, 2) := by decide +kernel
theorem dX6_aboutTrain_57 : decode cX6_aboutTrain 57 = .ok (.if_icmp .ne 11, 3) := by decide +kernel
theorem dX6_aboutTrain_60 : decode cX6_aboutTrain 60 = .ok (.aload_n 0, 1) := by decide +kernel
theorem dX6_aboutTrain_61 : decode cX6_aboutTrain 61 = .ok (.iload_n 1, 1) := by decide +kernel
theorem dX6_aboutTrain_62 : decode cX6_aboutTrain 62 = .ok (.invokevirtual 221, 3) := by decide +kernel
theorem dX6_aboutTrain_65 : decode cX6_aboutTrain 65 = .ok (.goto 14, 3) := by decide +kernel
theorem dX6_aboutTrain_68 : decode cX6_aboutTrain 68 = .ok (.aload_n 0, 1) := by decide +kernel
theorem dX6_aboutTrain_69 : decode cX6_aboutTrain 69 = .ok (.getfield 49, 3) := by decide +kernel
theorem dX6_aboutTrain_72 : decode cX6_aboutTrain 72 = .ok (.iload_n 1, 1) := by decide +kernel
theorem dX6_aboutTrain_73 : decode cX6_aboutTrain 73 = .ok (.iload_n 2, 1) := by decide +kernel
theorem dX6_aboutTrain_74 : decode cX6_aboutTrain 74 = .ok (.iconst 2, 1) := by decide +kernel
theorem dX6_aboutTrain_75 : decode cX6_aboutTrain 75 = .ok (.isub, 1) := by decide +kernel
theorem dX6_aboutTrain_76 : decode cX6_aboutTrain 76 = .ok (.invokevirtual 206, 3) := by decide +kernel
theorem dX6_aboutTrain_79 : decode cX6_aboutTrain 79 = .ok (.ireturn, 1) := by decide +kernel
theorem dX6_lengthOfList_0 : decode cX6_lengthOfList 0 = .ok (.aload_n 0, 1) := by decide +kernel
theorem dX6_lengthOfList_1 : decode cX6_lengthOfList 1 = .ok (.getfield 49, 3) := by decide +kernel
theorem dX6_lengthOfList_4 : decode cX6_lengthOfList 4 = .ok (.iload_n 1, 1) := by decide +kernel
theorem dX6_lengthOfList_5 : decode cX6_lengthOfList 5 = .ok (.invokevirtual 194, 3) := by decide +kernel
theorem dX6_lengthOfList_8 : decode cX6_lengthOfList 8 = .ok (.istore_n 2, 1) := by decide +kernel
theorem dX6_lengthOfList_9 : decode cX6_lengthOfList 9 = .ok (.iconst 0, 1) := by decide +kernel
theorem dX6_lengthOfList_10 : decode cX6_lengthOfList 10 = .ok (.istore_n 3, 1) := by decide +kernel
theorem dX6_lengthOfList_11 : decode cX6_lengthOfList 11 = .ok (.iconst 0, 1) := by decide +kernel
theorem dX6_lengthOfList_12 : decode cX6_lengthOfList 12 = .ok (.istore 4, 2) := by decide +kernel
theorem dX6_lengthOfList_14 : decode cX6_lengthOfList 14 = .ok (.iload 4, 2) := by decide +kernel
theorem dX6_lengthOfList_16 : decode cX6_lengthOfList 16 = .ok (.iload_n 2, 1) := by decide +kernel
theorem dX6_lengthOfList_17 : decode cX6_lengthOfList 17 = .ok (.if_icmp .ge 29, 3) := by decide +kernel
theorem dX6_lengthOfList_20 : decode cX6_lengthOfList 20 = .ok (.iload_n 3, 1) := by decide +kernel
theorem dX6_lengthOfList_21 : decode cX6_lengthOfList 21 = .ok (.aload_n 0, 1) := by decide +kernel
theorem dX6_lengthOfList_22 : decode cX6_lengthOfList 22 = .ok (.getfield 35, 3) := by decide +kernel
theorem dX6_lengthOfList_25 : decode cX6_lengthOfList 25 = .ok (.aload_n 0, 1) := by decide +kernel
theorem dX6_lengthOfList_26 : decode cX6_lengthOfList 26 = .ok (.getfield 49, 3) := by decide +kernel
theorem dX6_lengthOfList_29 : decode cX6_lengthOfList 29 = .ok (.iload_n 1, 1) := by decide +kernel
theorem dX6_lengthOfList_30 : decode cX6_lengthOfList 30 = .ok (.iload 4, 2) := by decide +kernel
theorem dX6_lengthOfList_32 : decode cX6_lengthOfList 32 = .ok (.invokevirtual 206, 3) := by decide +kernel
theorem dX6_lengthOfList_35 : decode cX6_lengthOfList 35 = .ok (.invokevirtual 224, 3) := by decide +kernel
theorem dX6_lengthOfList_38 : decode cX6_lengthOfList 38 = .ok (.iadd, 1) := by decide +kernel
theorem dX6_lengthOfList_39 : decode cX6_lengthOfList 39 = .ok (.istore_n 3, 1) := by decide +kernel
theorem dX6_lengthOfList_40 : decode cX6_lengthOfList 40 = .ok (.iinc 4 1, 3) := by decide +kernel
theorem dX6_lengthOfList_43 : decode cX6_lengthOfList 43 = .ok (.goto (-29), 3) := by decide +kernel
theorem dX6_lengthOfList_46 : decode cX6_lengthOfList 46 = .ok (.iload_n 3, 1) := by decide +kernel
theorem dX6_lengthOfList_47 : decode cX6_lengthOfList 47 = .ok (.ireturn, 1) := by decide +kernel
theorem dX6_aboutYard_0 : decode cX6_aboutYard 0 = .ok (.iload_n 1, 1) := by decide +kernel
theorem dX6_aboutYard_1 : decode cX6_aboutYard 1 = .ok (.tableswitch 154 0 12 #[67, 72, 77, 85, 95, 105, 113, 121, 126, 134, 139, 144, 149], 67) := by decide +kernel
theorem dX6_aboutYard_68 : decode cX6_aboutYard 68 = .ok (.aload_n 0, 1) := by decide +kernel
theorem dX6_aboutYard_69 : decode cX6_aboutYard 69 = .ok (.getfield 53, 3) := by decide +kernel
theorem dX6_aboutYard_72 : decode cX6_aboutYard 72 = .ok (.ireturn, 1) := by decide +kernel
theorem dX6_aboutYard_73 : decode cX6_aboutYard 73 = .ok (.aload_n 0, 1) := by decide +kernel
theorem dX6_aboutYard_74 : decode cX6_aboutYard 74 = .ok (.getfield 78, 3) := by decide +kernel
theorem dX6_aboutYard_77 : decode cX6_aboutYard 77 = .ok (.ireturn, 1) := by decide +kernel
theorem dX6_aboutYard_78 : decode cX6_aboutYard 78 = .ok (.aload_n 0, 1) := by decide +kernel
theorem dX6_aboutYard_79 : decode cX6_aboutYard 79 = .ok (.getfield 35, 3) := by decide +kernel
theorem dX6_aboutYard_82 : decode cX6_aboutYard 82 = .ok (.getfield 101, 3) := by decide +kernel
theorem dX6_aboutYard_85 : decode cX6_aboutYard 85 = .ok (.ireturn, 1) := by decide +kernel
theorem dX6_aboutYard_86 : decode cX6_aboutYard 86 = .ok (.aload_n 0, 1) := by decide +kernel
theorem dX6_aboutYard_87 : decode cX6_aboutYard 87 = .ok (.getfield 35, 3) := by decide +kernel
theorem dX6_aboutYard_90 : decode cX6_aboutYard 90 = .ok (.bipush 8, 2) := by decide +kernel
theorem dX6_aboutYard_92 : decode cX6_aboutYard 92 = .ok (.invokevirtual 121, 3) := by decide +kernel
theorem dX6_aboutYard_95 : decode cX6_aboutYard 95 = .ok (.ireturn, 1) := by decide +kernel
theorem dX6_aboutYard_96 : decode cX6_aboutYard 96 = .ok (.aload_n 0, 1) := by decide +kernel
theorem dX6_aboutYard_97 : decode cX6_aboutYard 97 = .ok (.getfield 35, 3) := by decide +kernel
theorem dX6_aboutYard_100 : decode cX6_aboutYard 100 = .ok (.bipush 8, 2) := by decide +kernel
theorem dX6_aboutYard_102 : decode cX6_aboutYard 102 = .ok (.invokevirtual 104, 3) := by decide +kernel
theorem dX6_aboutYard_105 : decode cX6_aboutYard 105 = .ok (.ireturn, 1) := by decide +kernel
theorem dX6_aboutYard_106 : decode cX6_aboutYard 106 = .ok (.aload_n 0, 1) := by decide +kernel
theorem dX6_aboutYard_107 : decode cX6_aboutYard 107 = .ok (.getfield 35, 3) := by decide +kernel
theorem dX6_aboutYard_110 : decode cX6_aboutYard 110 = .ok (.getfield 227, 3) := by decide +kernel
theorem dX6_aboutYard_113 : decode cX6_aboutYard 113 = .ok (.ireturn, 1) := by decide +kernel
theorem dX6_aboutYard_114 : decode cX6_aboutYard 114 = .ok (.aload_n 0, 1) := by decide +kernel
theorem dX6_aboutYard_115 : decode cX6_aboutYard 115 = .ok (.getfield 49, 3) := by decide +kernel
theorem dX6_aboutYard_118 : decode cX6_aboutYard 118 = .ok (.getfield 162, 3) := by decide +kernel
theorem dX6_aboutYard_121 : decode cX6_aboutYard 121 = .ok (.ireturn, 1) := by decide +kernel
theorem dX6_aboutYard_122 : decode cX6_aboutYard 122 = .ok (.aload_n 0, 1) := by decide +kernel
theorem dX6_aboutYard_123 : decode cX6_aboutYard 123 = .ok (.getfield 69, 3) := by decide +kernel
theorem dX6_aboutYard_126 : decode cX6_aboutYard 126 = .ok (.ireturn, 1) := by decide +kernel
theorem dX6_aboutYard_127 : decode cX6_aboutYard 127 = .ok (.aload_n 0, 1) := by decide +kernel
theorem dX6_aboutYard_128 : decode cX6_aboutYard 128 = .ok (.getfield 42, 3) := by decide +kernel
theorem dX6_aboutYard_131 : decode cX6_aboutYard 131 = .ok (.getfield 112, 3) := by decide +kernel
theorem dX6_aboutYard_134 : decode cX6_aboutYard 134 = .ok (.ireturn, 1) := by decide +kernel
theorem dX6_aboutYard_135 : decode cX6_aboutYard 135 = .ok (.aload_n 0, 1) := by decide +kernel
theorem dX6_aboutYard_136 : decode cX6_aboutYard 136 = .ok (.getfield 57, 3) := by decide +kernel
theorem dX6_aboutYard_139 : decode cX6_aboutYard 139 = .ok (.ireturn, 1) := by decide +kernel
theorem dX6_aboutYard_140 : decode cX6_aboutYard 140 = .ok (.aload_n 0, 1) := by decide +kernel
theorem dX6_aboutYard_141 : decode cX6_aboutYard 141 = .ok (.getfield 60, 3) := by decide +kernel
theorem dX6_aboutYard_144 : decode cX6_aboutYard 144 = .ok (.ireturn, 1) := by decide +kernel
theorem dX6_aboutYard_145 : decode cX6_aboutYard 145 = .ok (.aload_n 0, 1) := by decide +kernel
theorem dX6_aboutYard_146 : decode cX6_aboutYard 146 = .ok (.getfield 63, 3) := by decide +kernel
theorem dX6_aboutYard_149 : decode cX6_aboutYard 149 = .ok (.ireturn, 1) := by decide +kernel
theorem dX6_aboutYard_150 : decode cX6_aboutYard 150 = .ok (.aload_n 0, 1) := by decide +kernel
theorem dX6_aboutYard_151 : decode cX6_aboutYard 151 = .ok (.getfield 66, 3) := by decide +kernel
theorem dX6_aboutYard_154 : decode cX6_aboutYard 154 = .ok (.ireturn, 1) := by decide +kernel
theorem dX6_aboutYard_155 : decode cX6_aboutYard 155 = .ok (.iload_n 1, 1) := by decide +kernel
theorem dX6_aboutYard_156 : decode cX6_aboutYard 156 = .ok (.bipush 15, 2) := by decide +kernel
theorem dX6_aboutYard_158 : decode cX6_aboutYard 158 = .ok (.if_icmp .lt 21, 3) := by decide +kernel
theorem dX6_aboutYard_161 : decode cX6_aboutYard 161 = .ok (.iload_n 1, 1) := by decide +kernel
theorem dX6_aboutYard_162 : decode cX6_aboutYard 162 = .ok (.bipush 21, 2) := by decide +kernel
theorem dX6_aboutYard_164 : decode cX6_aboutYard 164 = .ok (.if_icmp .ge 15, 3) := by decide +kernel
theorem dX6_aboutYard_167 : decode cX6_aboutYard 167 = .ok (.aload_n 0, 1) := by decide +kernel
theorem dX6_aboutYard_168 : decode cX6_aboutYard 168 = .ok (.getfield 18, 3) := by decide +kernel
theorem dX6_aboutYard_171 : decode cX6_aboutYard 171 = .ok (.iload_n 1, 1) := by decide +kernel
theorem dX6_aboutYard_172 : decode cX6_aboutYard 172 = .ok (.bipush 15, 2) := by decide +kernel
theorem dX6_aboutYard_174 : decode cX6_aboutYard 174 = .ok (.isub, 1) := by decide +kernel
theorem dX6_aboutYard_175 : decode cX6_aboutYard 175 = .ok (.iaload, 1) := by decide +kernel
theorem dX6_aboutYard_176 : decode cX6_aboutYard 176 = .ok (.goto 5, 3) := by decide +kernel
theorem dX6_aboutYard_179 : decode cX6_aboutYard 179 = .ok (.bipush (-2), 2) := by decide +kernel
theorem dX6_aboutYard_181 : decode cX6_aboutYard 181 = .ok (.ireturn, 1) := by decide +kernel
theorem dX6_tracksFor_0 : decode cX6_tracksFor 0 = .ok (.iconst 0, 1) := by decide +kernel
theorem dX6_tracksFor_1 : decode cX6_tracksFor 1 = .ok (.istore_n 2, 1) := by decide +kernel
theorem dX6_tracksFor_2 : decode cX6_tracksFor 2 = .ok (.iconst 0, 1) := by decide +kernel
theorem dX6_tracksFor_3 : decode cX6_tracksFor 3 = .ok (.istore_n 3, 1) := by decide +kernel
theorem dX6_tracksFor_4 : decode cX6_tracksFor 4 = .ok (.iload_n 3, 1) := by decide +kernel
theorem dX6_tracksFor_5 : decode cX6_tracksFor 5 = .ok (.aload_n 0, 1) := by decide +kernel
theorem dX6_tracksFor_6 : decode cX6_tracksFor 6 = .ok (.getfield 78, 3) := by decide +kernel
theorem dX6_tracksFor_9 : decode cX6_tracksFor 9 = .ok (.if_icmp .ge 28, 3) := by decide +kernel
theorem dX6_tracksFor_12 : decode cX6_tracksFor 12 = .ok (.iload_n 1, 1) := by decide +kernel
theorem dX6_tracksFor_13 : decode cX6_tracksFor 13 = .ok (.ifCond .le 18, 3) := by decide +kernel
theorem dX6_tracksFor_16 : decode cX6_tracksFor 16 = .ok (.aload_n 0, 1) := by decide +kernel
theorem dX6_tracksFor_17 : decode cX6_tracksFor 17 = .ok (.iload_n 3, 1) := by decide +kernel
theorem dX6_tracksFor_18 : decode cX6_tracksFor 18 = .ok (.iload_n 1, 1) := by decide +kernel
theorem dX6_tracksFor_19 : decode cX6_tracksFor 19 = .ok (.invokevirtual 139, 3) := by decide +kernel
theorem dX6_tracksFor_22 : decode cX6_tracksFor 22 = .ok (.ifCond .eq 9, 3) := by decide +kernel
theorem dX6_tracksFor_25 : decode cX6_tracksFor 25 = .ok (.iload_n 2, 1) := by decide +kernel
theorem dX6_tracksFor_26 : decode cX6_tracksFor 26 = .ok (.iconst 1, 1) := by decide +kernel
theorem dX6_tracksFor_27 : decode cX6_tracksFor 27 = .ok (.iload_n 3, 1) := by decide +kernel
theorem dX6_tracksFor_28 : decode cX6_tracksFor 28 = .ok (.ishl, 1) := by decide +kernel
theorem dX6_tracksFor_29 : decode cX6_tracksFor 29 = .ok (.ior, 1) := by decide +kernel
theorem dX6_tracksFor_30 : decode cX6_tracksFor 30 = .ok (.istore_n 2, 1) := by decide +kernel
theorem dX6_tracksFor_31 : decode cX6_tracksFor 31 = .ok (.iinc 3 1, 3) := by decide +kernel
theorem dX6_tracksFor_34 : decode cX6_tracksFor 34 = .ok (.goto (-30), 3) := by decide +kernel
theorem dX6_tracksFor_37 : decode cX6_tracksFor 37 = .ok (.iload_n 2, 1) := by decide +kernel
theorem dX6_tracksFor_38 : decode cX6_tracksFor 38 = .ok (.ireturn, 1) := by decide +kernel
theorem dX6_manyBuried_0 : decode cX6_manyBuried 0 = .ok (.iconst 0, 1) := by decide +kernel
theorem dX6_manyBuried_1 : decode cX6_manyBuried 1 = .ok (.istore_n 1, 1) := by decide +kernel
theorem dX6_manyBuried_2 : decode cX6_manyBuried 2 = .ok (.iconst 0, 1) := by decide +kernel
theorem dX6_manyBuried_3 : decode cX6_manyBuried 3 = .ok (.istore_n 2, 1) := by decide +kernel
theorem dX6_manyBuried_4 : decode cX6_manyBuried 4 = .ok (.iload_n 2, 1) := by decide +kernel
theorem dX6_manyBuried_5 : decode cX6_manyBuried 5 = .ok (.aload_n 0, 1) := by decide +kernel
theorem dX6_manyBuried_6 : decode cX6_manyBuried 6 = .ok (.getfield 78, 3) := by decide +kernel
theorem dX6_manyBuried_9 : decode cX6_manyBuried 9 = .ok (.if_icmp .ge 48, 3) := by decide +kernel
theorem dX6_manyBuried_12 : decode cX6_manyBuried 12 = .ok (.aload_n 0, 1) := by decide +kernel
theorem dX6_manyBuried_13 : decode cX6_manyBuried 13 = .ok (.getfield 35, 3) := by decide +kernel
theorem dX6_manyBuried_16 : decode cX6_manyBuried 16 = .ok (.iload_n 2, 1) := by decide +kernel
theorem dX6_manyBuried_17 : decode cX6_manyBuried 17 = .ok (.invokevirtual 121, 3) := by decide +kernel
theorem dX6_manyBuried_20 : decode cX6_manyBuried 20 = .ok (.iconst 1, 1) := by decide +kernel
theorem dX6_manyBuried_21 : decode cX6_manyBuried 21 = .ok (.isub, 1) := by decide +kernel
theorem dX6_manyBuried_22 : decode cX6_manyBuried 22 = .ok (.istore_n 3, 1) := by decide +kernel
theorem dX6_manyBuried_23 : decode cX6_manyBuried 23 = .ok (.iconst 0, 1) := by decide +kernel
theorem dX6_manyBuried_24 : decode cX6_manyBuried 24 = .ok (.istore 4, 2) := by decide +kernel
theorem dX6_manyBuried_26 : decode cX6_manyBuried 26 = .ok (.iload 4, 2) := by decide +kernel
theorem dX6_manyBuried_28 : decode cX6_manyBuried 28 = .ok (.iload_n 3, 1) := by decide +kernel
theorem dX6_manyBuried_29 : decode cX6_manyBuried 29 = .ok (.if_icmp .gt 22, 3) := by decide +kernel
theorem dX6_manyBuried_32 : decode cX6_manyBuried 32 = .ok (.aload_n 0, 1) := by decide +kernel
theorem dX6_manyBuried_33 : decode cX6_manyBuried 33 = .ok (.iload_n 2, 1) := by decide +kernel
theorem dX6_manyBuried_34 : decode cX6_manyBuried 34 = .ok (.iload 4, 2) := by decide +kernel
theorem dX6_manyBuried_36 : decode cX6_manyBuried 36 = .ok (.invokevirtual 230, 3) := by decide +kernel
theorem dX6_manyBuried_39 : decode cX6_manyBuried 39 = .ok (.ifCond .eq 6, 3) := by decide +kernel
theorem dX6_manyBuried_42 : decode cX6_manyBuried 42 = .ok (.iinc 1 1, 3) := by decide +kernel
theorem dX6_manyBuried_45 : decode cX6_manyBuried 45 = .ok (.iinc 4 1, 3) := by decide +kernel
theorem dX6_manyBuried_48 : decode cX6_manyBuried 48 = .ok (.goto (-22), 3) := by decide +kernel
theorem dX6_manyBuried_51 : decode cX6_manyBuried 51 = .ok (.iinc 2 1, 3) := by decide +kernel
theorem dX6_manyBuried_54 : decode cX6_manyBuried 54 = .ok (.goto (-50), 3) := by decide +kernel
theorem dX6_manyBuried_57 : decode cX6_manyBuried 57 = .ok (.iload_n 1, 1) := by decide +kernel
theorem dX6_manyBuried_58 : decode cX6_manyBuried 58 = .ok (.ireturn, 1) := by decide +kernel
theorem dX6_isBuried_0 : decode cX6_isBuried 0 = .ok (.aload_n 0, 1) := by decide +kernel
theorem dX6_isBuried_1 : decode cX6_isBuried 1 = .ok (.getfield 49, 3) := by decide +kernel
theorem dX6_isBuried_4 : decode cX6_isBuried 4 = .ok (.aload_n 0, 1) := by decide +kernel
theorem dX6_isBuried_5 : decode cX6_isBuried 5 = .ok (.getfield 35, 3) := by decide +kernel
theorem dX6_isBuried_8 : decode cX6_isBuried 8 = .ok (.iload_n 1, 1) := by decide +kernel
theorem dX6_isBuried_9 : decode cX6_isBuried 9 = .ok (.iload_n 2, 1) := by decide +kernel
theorem dX6_isBuried_10 : decode cX6_isBuried 10 = .ok (.invokevirtual 203, 3) := by decide +kernel
theorem dX6_isBuried_13 : decode cX6_isBuried 13 = .ok (.invokevirtual 165, 3) := by decide +kernel
theorem dX6_isBuried_16 : decode cX6_isBuried 16 = .ok (.istore_n 3, 1) := by decide +kernel
theorem dX6_isBuried_17 : decode cX6_isBuried 17 = .ok (.iconst 0, 1) := by decide +kernel
theorem dX6_isBuried_18 : decode cX6_isBuried 18 = .ok (.istore 4, 2) := by decide +kernel
theorem dX6_isBuried_20 : decode cX6_isBuried 20 = .ok (.iload 4, 2) := by decide +kernel
theorem dX6_isBuried_22 : decode cX6_isBuried 22 = .ok (.iload_n 2, 1) := by decide +kernel
theorem dX6_isBuried_23 : decode cX6_isBuried 23 = .ok (.if_icmp .ge 38, 3) := by decide +kernel
theorem dX6_isBuried_26 : decode cX6_isBuried 26 = .ok (.iload_n 3, 1) := by decide +kernel
theorem dX6_isBuried_27 : decode cX6_isBuried 27 = .ok (.bipush (-6), 2) := by decide +kernel
theorem dX6_isBuried_29 : decode cX6_isBuried 29 = .ok (.if_icmp .eq 32, 3) := by decide +kernel
theorem dX6_isBuried_32 : decode cX6_isBuried 32 = .ok (.aload_n 0, 1) := by decide +kernel
theorem dX6_isBuried_33 : decode cX6_isBuried 33 = .ok (.getfield 49, 3) := by decide +kernel
theorem dX6_isBuried_36 : decode cX6_isBuried 36 = .ok (.aload_n 0, 1) := by decide +kernel
theorem dX6_isBuried_37 : decode cX6_isBuried 37 = .ok (.getfield 35, 3) := by decide +kernel
theorem dX6_isBuried_40 : decode cX6_isBuried 40 = .ok (.iload_n 1, 1) := by decide +kernel
theorem dX6_isBuried_41 : decode cX6_isBuried 41 = .ok (.iload 4, 2) := by decide +kernel
theorem dX6_isBuried_43 : decode cX6_isBuried 43 = .ok (.invokevirtual 203, 3) := by decide +kernel
theorem dX6_isBuried_46 : decode cX6_isBuried 46 = .ok (.invokevirtual 165, 3) := by decide +kernel
theorem dX6_isBuried_49 : decode cX6_isBuried 49 = .ok (.iload_n 3, 1) := by decide +kernel
theorem dX6_isBuried_50 : decode cX6_isBuried 50 = .ok (.if_icmp .eq 5, 3) := by decide +kernel
theorem dX6_isBuried_53 : decode cX6_isBuried 53 = .ok (.iconst 1, 1) := by decide +kernel
theorem dX6_isBuried_54 : decode cX6_isBuried 54 = .ok (.ireturn, 1) := by decide +kernel
theorem dX6_isBuried_55 : decode cX6_isBuried 55 = .ok (.iinc 4 1, 3) := by decide +kernel
theorem dX6_isBuried_58 : decode cX6_isBuried 58 = .ok (.goto (-38), 3) := by decide +kernel
theorem dX6_isBuried_61 : decode cX6_isBuried 61 = .ok (.iconst 0, 1) := by decide +kernel
theorem dX6_isBuried_62 : decode cX6_isBuried 62 = .ok (.ireturn, 1) := by decide +kernel
theorem dX7_init_0 : decode cX7_init 0 = .ok (.aload_n 0, 1) := by decide +kernel
theorem dX7_init_1 : decode cX7_init 1 = .ok (.invokespecial 3, 3) := by decide +kernel
theorem dX7_init_4 : decode cX7_init 4 = .ok (.aload_n 0, 1) := by decide +kernel
theorem dX7_init_5 : decode cX7_init 5 = .ok (.new 9, 3) := by decide +kernel
theorem dX7_init_8 : decode cX7_init 8 = .ok (.dup, 1) := by decide +kernel
theorem dX7_init_9 : decode cX7_init 9 = .ok (.invokespecial 11, 3) := by decide +kernel
theorem dX7_init_12 : decode cX7_init 12 = .ok (.putfield 12, 3) := by decide +kernel
theorem dX7_init_15 : decode cX7_init 15 = .ok (.aload_n 0, 1) := by decide +kernel
theorem dX7_init_16 : decode cX7_init 16 = .ok (.new 16, 3) := by decide +kernel
theorem dX7_init_19 : decode cX7_init 19 = .ok (.dup, 1) := by decide +kernel
theorem dX7_init_20 : decode cX7_init 20 = .ok (.invokespecial 18, 3) := by decide +kernel
theorem dX7_init_23 : decode cX7_init 23 = .ok (.putfield 19, 3) := by decide +kernel
theorem dX7_init_26 : decode cX7_init 26 = .ok (.aload_n 0, 1) := by decide +kernel
theorem dX7_init_27 : decode cX7_init 27 = .ok (.new 23, 3) := by decide +kernel
theorem dX7_init_30 : decode cX7_init 30 = .ok (.dup, 1) := by decide +kernel
theorem dX7_init_31 : decode cX7_init 31 = .ok (.invokespecial 25, 3) := by decide +kernel
theorem dX7_init_34 : decode cX7_init 34 = .ok (.putfield 26, 3) := by decide +kernel
theorem dX7_init_37 : decode cX7_init 37 = .ok (.aload_n 0, 1) := by decide +kernel
theorem dX7_init_38 : decode cX7_init 38 = .ok (.iconst 2, 1) := by decide +kernel
theorem dX7_init_39 : decode cX7_init 39 = .ok (.anewarray 9, 3) := by decide +kernel
theorem dX7_init_42 : decode cX7_init 42 = .ok (.putfield 30, 3) := by decide +kernel
theorem dX7_init_45 : decode cX7_init 45 = .ok (.aload_n 0, 1) := by decide +kernel
theorem dX7_init_46 : decode cX7_init 46 = .ok (.iconst 2, 1) := by decide +kernel
theorem dX7_init_47 : decode cX7_init 47 = .ok (.newarray .boolean, 2) := by decide +kernel
theorem dX7_init_49 : decode cX7_init 49 = .ok (.putfield 34, 3) := by decide +kernel
theorem dX7_init_52 : decode cX7_init 52 = .ok (.aload_n 0, 1) := by decide +kernel
theorem dX7_init_53 : decode cX7_init 53 = .ok (.new 38, 3) := by decide +kernel
theorem dX7_init_56 : decode cX7_init 56 = .ok (.dup, 1) := by decide +kernel
theorem dX7_init_57 : decode cX7_init 57 = .ok (.invokespecial 40, 3) := by decide +kernel
theorem dX7_init_60 : decode cX7_init 60 = .ok (.putfield 41, 3) := by decide +kernel
theorem dX7_init_63 : decode cX7_init 63 = .ok (.aload_n 0, 1) := by decide +kernel
theorem dX7_init_64 : decode cX7_init 64 = .ok (.bipush 8, 2) := by decide +kernel
theorem dX7_init_66 : decode cX7_init 66 = .ok (.newarray .int, 2) := by decide +kernel
theorem dX7_init_68 : decode cX7_init 68 = .ok (.putfield 45, 3) := by decide +kernel
theorem dX7_init_71 : decode cX7_init 71 = .ok (.iconst 0, 1) := by decide +kernel
theorem dX7_init_72 : decode cX7_init 72 = .ok (.istore_n 1, 1) := by decide +kernel
theorem dX7_init_73 : decode cX7_init 73 = .ok (.iload_n 1, 1) := by decide +kernel
theorem dX7_init_74 : decode cX7_init 74 = .ok (.iconst 2, 1) := by decide +kernel
theorem dX7_init_75 : decode cX7_init 75 = .ok (.if_icmp .ge 22, 3) := by decide +kernel
theorem dX7_init_78 : decode cX7_init 78 = .ok (.aload_n 0, 1) := by decide +kernel
theorem dX7_init_79 : decode cX7_init 79 = .ok (.getfield 30, 3) := by decide +kernel
theorem dX7_init_82 : decode cX7_init 82 = .ok (.iload_n 1, 1) := by decide +kernel
theorem dX7_init_83 : decode cX7_init 83 = .ok (.new 9, 3) := by decide +kernel
theorem dX7_init_86 : decode cX7_init 86 = .ok (.dup, 1) := by decide +kernel
theorem dX7_init_87 : decode cX7_init 87 = .ok (.invokespecial 11, 3) := by decide +kernel
theorem dX7_init_90 : decode cX7_init 90 = .ok (.aastore, 1) := by decide +kernel
theorem dX7_init_91 : decode cX7_init 91 = .ok (.iinc 1 1, 3) := by decide +kernel
theorem dX7_init_94 : decode cX7_init 94 = .ok (.goto (-21), 3) := by decide +kernel
theorem dX7_init_97 : decode cX7_init 97 = .ok (.return_, 1) := by decide +kernel
theorem dX7_set_0 : decode cX7_set 0 = .ok (.aload_n 0, 1) := by decide +kernel
theorem dX7_set_1 : decode cX7_set 1 = .ok (.getfield 26, 3) := by decide +kernel
theorem dX7_set_4 : decode cX7_set 4 = .ok (.aload_n 0, 1) := by decide +kernel
theorem dX7_set_5 : decode cX7_set 5 = .ok (.getfield 12, 3) := by decide +kernel
theorem dX7_set_8 : decode cX7_set 8 = .ok (.invokevirtual 49, 3) := by decide +kernel
theorem dX7_set_11 : decode cX7_set 11 = .ok (.aload_n 0, 1) := by decide +kernel
theorem dX7_set_12 : decode cX7_set 12 = .ok (.getfield 26, 3) := by decide +kernel
theorem dX7_set_15 : decode cX7_set 15 = .ok (.aload_n 0, 1) := by decide +kernel
theorem dX7_set_16 : decode cX7_set 16 = .ok (.getfield 12, 3) := by decide +kernel
theorem dX7_set_19 : decode cX7_set 19 = .ok (.iload_n 1, 1) := by decide +kernel
theorem dX7_set_20 : decode cX7_set 20 = .ok (.iload_n 2, 1) := by decide +kernel
theorem dX7_set_21 : decode cX7_set 21 = .ok (.invokevirtual 53, 3) := by decide +kernel
theorem dX7_set_24 : decode cX7_set 24 = .ok (.invokevirtual 57, 3) := by decide +kernel
theorem dX7_set_27 : decode cX7_set 27 = .ok (.ireturn, 1) := by decide +kernel
theorem dX7_track_0 : decode cX7_track 0 = .ok (.aload_n 0, 1) := by decide +kernel
theorem dX7_track_1 : decode cX7_track 1 = .ok (.getfield 26, 3) := by decide +kernel
theorem dX7_track_4 : decode cX7_track 4 = .ok (.aload_n 0, 1) := by decide +kernel
theorem dX7_track_5 : decode cX7_track 5 = .ok (.getfield 12, 3) := by decide +kernel
theorem dX7_track_8 : decode cX7_track 8 = .ok (.invokevirtual 49, 3) := by decide +kernel
theorem dX7_track_11 : decode cX7_track 11 = .ok (.aload_n 0, 1) := by decide +kernel
theorem dX7_track_12 : decode cX7_track 12 = .ok (.getfield 26, 3) := by decide +kernel
theorem dX7_track_15 : decode cX7_track 15 = .ok (.aload_n 0, 1) := by decide +kernel
theorem dX7_track_16 : decode cX7_track 16 = .ok (.getfield 12, 3) := by decide +kernel
theorem dX7_track_19 : decode cX7_track 19 = .ok (.iload_n 1, 1) := by decide +kernel
theorem dX7_track_20 : decode cX7_track 20 = .ok (.invokevirtual 61, 3) := by decide +kernel
theorem dX7_track_23 : decode cX7_track 23 = .ok (.invokevirtual 57, 3) := by decide +kernel
theorem dX7_track_26 : decode cX7_track 26 = .ok (.ireturn, 1) := by decide +kernel
theorem dX7_wagon_0 : decode cX7_wagon 0 = .ok (.aload_n 0, 1) := by decide +kernel
theorem dX7_wagon_1 : decode cX7_wagon 1 = .ok (.getfield 26, 3) := by decide +kernel
theorem dX7_wagon_4 : decode cX7_wagon 4 = .ok (.aload_n 0, 1) := by decide +kernel
theorem dX7_wagon_5 : decode cX7_wagon 5 = .ok (.getfield 12, 3) := by decide +kernel
theorem dX7_wagon_8 : decode cX7_wagon 8 = .ok (.invokevirtual 49, 3) := by decide +kernel
theorem dX7_wagon_11 : decode cX7_wagon 11 = .ok (.aload_n 0, 1) := by decide +kernel
theorem dX7_wagon_12 : decode cX7_wagon 12 = .ok (.getfield 26, 3) := by decide +kernel
theorem dX7_wagon_15 : decode cX7_wagon 15 = .ok (.aload_n 0, 1) := by decide +kernel
theorem dX7_wagon_16 : decode cX7_wagon 16 = .ok (.getfield 12, 3) := by decide +kernel
theorem dX7_wagon_19 : decode cX7_wagon 19 = .ok (.iload_n 1, 1) := by decide +kernel
theorem dX7_wagon_20 : decode cX7_wagon 20 = .ok (.iload_n 2, 1) := by decide +kernel
theorem dX7_wagon_21 : decode cX7_wagon 21 = .ok (.invokevirtual 64, 3) := by decide +kernel
theorem dX7_wagon_24 : decode cX7_wagon 24 = .ok (.invokevirtual 57, 3) := by decide +kernel
theorem dX7_wagon_27 : decode cX7_wagon 27 = .ok (.ireturn, 1) := by decide +kernel
theorem dX7_block_0 : decode cX7_block 0 = .ok (.aload_n 0, 1) := by decide +kernel
theorem dX7_block_1 : decode cX7_block 1 = .ok (.getfield 26, 3) := by decide +kernel
theorem dX7_block_4 : decode cX7_block 4 = .ok (.aload_n 0, 1) := by decide +kernel
theorem dX7_block_5 : decode cX7_block 5 = .ok (.getfield 12, 3) := by decide +kernel
theorem dX7_block_8 : decode cX7_block 8 = .ok (.invokevirtual 49, 3) := by decide +kernel
theorem dX7_block_11 : decode cX7_block 11 = .ok (.aload_n 0, 1) := by decide +kernel
theorem dX7_block_12 : decode cX7_block 12 = .ok (.getfield 26, 3) := by decide +kernel
theorem dX7_block_15 : decode cX7_block 15 = .ok (.aload_n 0, 1) := by decide +kernel
theorem dX7_block_16 : decode cX7_block 16 = .ok (.getfield 12, 3) := by decide +kernel
theorem dX7_block_19 : decode cX7_block 19 = .ok (.iload_n 1, 1) := by decide +kernel
theorem dX7_block_20 : decode cX7_block 20 = .ok (.iload_n 2, 1) := by decide +kernel
theorem dX7_block_21 : decode cX7_block 21 = .ok (.invokevirtual 67, 3) := by decide +kernel
theorem dX7_block_24 : decode cX7_block 24 = .ok (.invokevirtual 57, 3) := by decide +kernel
theorem dX7_block_27 : decode cX7_block 27 = .ok (.ireturn, 1) := by decide +kernel
theorem dX7_pull_0 : decode cX7_pull 0 = .ok (.aload_n 0, 1) := by decide +kernel
theorem dX7_pull_1 : decode cX7_pull 1 = .ok (.getfield 26, 3) := by decide +kernel
theorem dX7_pull_4 : decode cX7_pull 4 = .ok (.aload_n 0, 1) := by decide +kernel
theorem dX7_pull_5 : decode cX7_pull 5 = .ok (.getfield 12, 3) := by decide +kernel
theorem dX7_pull_8 : decode cX7_pull 8 = .ok (.invokevirtual 49, 3) := by decide +kernel
theorem dX7_pull_11 : decode cX7_pull 11 = .ok (.aload_n 0, 1) := by decide +kernel
theorem dX7_pull_12 : decode cX7_pull 12 = .ok (.getfield 26, 3) := by decide +kernel
theorem dX7_pull_15 : decode cX7_pull 15 = .ok (.aload_n 0, 1) := by decide +kernel
theorem dX7_pull_16 : decode cX7_pull 16 = .ok (.getfield 12, 3) := by decide +kernel
theorem dX7_pull_19 : decode cX7_pull 19 = .ok (.iload_n 1, 1) := by decide +kernel
theorem dX7_pull_20 : decode cX7_pull 20 = .ok (.iload_n 2, 1) := by decide +kernel
theorem dX7_pull_21 : decode cX7_pull 21 = .ok (.invokevirtual 70, 3) := by decide +kernel
theorem dX7_pull_24 : decode cX7_pull 24 = .ok (.invokevirtual 57, 3) := by decide +kernel
theorem dX7_pull_27 : decode cX7_pull 27 = .ok (.ireturn, 1) := by decide +kernel
theorem dX7_push_0 : decode cX7_push 0 = .ok (.aload_n 0, 1) := by decide +kernel
theorem dX7_push_1 : decode cX7_push 1 = .ok (.getfield 26, 3) := by decide +kernel
theorem dX7_push_4 : decode cX7_push 4 = .ok (.aload_n 0, 1) := by decide +kernel
theorem dX7_push_5 : decode cX7_push 5 = .ok (.getfield 12, 3) := by decide +kernel
theorem dX7_push_8 : decode cX7_push 8 = .ok (.invokevirtual 49, 3) := by decide +kernel
theorem dX7_push_11 : decode cX7_push 11 = .ok (.aload_n 0, 1) := by decide +kernel
theorem dX7_push_12 : decode cX7_push 12 = .ok (.getfield 26, 3) := by decide +kernel
theorem dX7_push_15 : decode cX7_push 15 = .ok (.aload_n 0, 1) := by decide +kernel
theorem dX7_push_16 : decode cX7_push 16 = .ok (.getfield 12, 3) := by decide +kernel
theorem dX7_push_19 : decode cX7_push 19 = .ok (.iload_n 1, 1) := by decide +kernel
theorem dX7_push_20 : decode cX7_push 20 = .ok (.iload_n 2, 1) := by decide +kernel
theorem dX7_push_21 : decode cX7_push 21 = .ok (.invokevirtual 73, 3) := by decide +kernel
theorem dX7_push_24 : decode cX7_push 24 = .ok (.invokevirtual 57, 3) := by decide +kernel
theorem dX7_push_27 : decode cX7_push 27 = .ok (.ireturn, 1) := by decide +kernel
theorem dX7_round_0 : decode cX7_round 0 = .ok (.aload_n 0, 1) := by decide +kernel
theorem dX7_round_1 : decode cX7_round 1 = .ok (.getfield 26, 3) := by decide +kernel
theorem dX7_round_4 : decode cX7_round 4 = .ok (.aload_n 0, 1) := by decide +kernel
theorem dX7_round_5 : decode cX7_round 5 = .ok (.getfield 12, 3) := by decide +kernel
theorem dX7_round_8 : decode cX7_round 8 = .ok (.invokevirtual 49, 3) := by decide +kernel
theorem dX7_round_11 : decode cX7_round 11 = .ok (.aload_n 0, 1) := by decide +kernel
theorem dX7_round_12 : decode cX7_round 12 = .ok (.getfield 26, 3) := by decide +kernel
theorem dX7_round_15 : decode cX7_round 15 = .ok (.aload_n 0, 1) := by decide +kernel
theorem dX7_round_16 : decode cX7_round 16 = .ok (.getfield 12, 3) := by decide +kernel
theorem dX7_round_19 : decode cX7_round 19 = .ok (.invokevirtual 76, 3) := by decide +kernel
theorem dX7_round_22 : decode cX7_round 22 = .ok (.invokevirtual 57, 3) := by decide +kernel
theorem dX7_round_25 : decode cX7_round 25 = .ok (.ireturn, 1) := by decide +kernel
theorem dX7_pass_0 : decode cX7_pass 0 = .ok (.aload_n 0, 1) := by decide +kernel
theorem dX7_pass_1 : decode cX7_pass 1 = .ok (.getfield 26, 3) := by decide +kernel
theorem dX7_pass_4 : decode cX7_pass 4 = .ok (.aload_n 0, 1) := by decide +kernel
theorem dX7_pass_5 : decode cX7_pass 5 = .ok (.getfield 12, 3) := by decide +kernel
theorem dX7_pass_8 : decode cX7_pass 8 = .ok (.invokevirtual 49, 3) := by decide +kernel
theorem dX7_pass_11 : decode cX7_pass 11 = .ok (.aload_n 0, 1) := by decide +kernel
theorem dX7_pass_12 : decode cX7_pass 12 = .ok (.getfield 26, 3) := by decide +kernel
theorem dX7_pass_15 : decode cX7_pass 15 = .ok (.aload_n 0, 1) := by decide +kernel
theorem dX7_pass_16 : decode cX7_pass 16 = .ok (.getfield 12, 3) := by decide +kernel
theorem dX7_pass_19 : decode cX7_pass 19 = .ok (.iload_n 1, 1) := by decide +kernel
theorem dX7_pass_20 : decode cX7_pass 20 = .ok (.invokevirtual 80, 3) := by decide +kernel
theorem dX7_pass_23 : decode cX7_pass 23 = .ok (.invokevirtual 57, 3) := by decide +kernel
theorem dX7_pass_26 : decode cX7_pass 26 = .ok (.ireturn, 1) := by decide +kernel
theorem dX7_train_0 : decode cX7_train 0 = .ok (.aload_n 0, 1) := by decide +kernel
theorem dX7_train_1 : decode cX7_train 1 = .ok (.getfield 26, 3) := by decide +kernel
theorem dX7_train_4 : decode cX7_train 4 = .ok (.aload_n 0, 1) := by decide +kernel
theorem dX7_train_5 : decode cX7_train 5 = .ok (.getfield 12, 3) := by decide +kernel
theorem dX7_train_8 : decode cX7_train 8 = .ok (.invokevirtual 49, 3) := by decide +kernel
theorem dX7_train_11 : decode cX7_train 11 = .ok (.aload_n 0, 1) := by decide +kernel
theorem dX7_train_12 : decode cX7_train 12 = .ok (.lload_n 1, 1) := by decide +kernel
theorem dX7_train_13 : decode cX7_train 13 = .ok (.invokevirtual 83, 3) := by decide +kernel
theorem dX7_train_16 : decode cX7_train 16 = .ok (.istore 4, 2) := by decide +kernel
theorem dX7_train_18 : decode cX7_train 18 = .ok (.aload_n 0, 1) := by decide +kernel
theorem dX7_train_19 : decode cX7_train 19 = .ok (.getfield 26, 3) := by decide +kernel
theorem dX7_train_22 : decode cX7_train 22 = .ok (.aload_n 0, 1) := by decide +kernel
theorem dX7_train_23 : decode cX7_train 23 = .ok (.getfield 12, 3) := by decide +kernel
theorem dX7_train_26 : decode cX7_train 26 = .ok (.aload_n 0, 1) := by decide +kernel
theorem dX7_train_27 : decode cX7_train 27 = .ok (.getfield 45, 3) := by decide +kernel
theorem dX7_train_30 : decode cX7_train 30 = .ok (.iload 4, 2) := by decide +kernel
theorem dX7_train_32 : decode cX7_train 32 = .ok (.iload_n 3, 1) := by decide +kernel
theorem dX7_train_33 : decode cX7_train 33 = .ok (.invokevirtual 87, 3) := by decide +kernel
theorem dX7_train_36 : decode cX7_train 36 = .ok (.invokevirtual 57, 3) := by decide +kernel
theorem dX7_train_39 : decode cX7_train 39 = .ok (.ireturn, 1) := by decide +kernel
theorem dX7_readList_0 : decode cX7_readList 0 = .ok (.lload_n 1, 1) := by decide +kernel
theorem dX7_readList_1 : decode cX7_readList 1 = .ok (.lstore_n 3, 1) := by decide +kernel
theorem dX7_readList_2 : decode cX7_readList 2 = .ok (.iconst 0, 1) := by decide +kernel
theorem dX7_readList_3 : decode cX7_readList 3 = .ok (.istore 5, 2) := by decide +kernel
theorem dX7_readList_5 : decode cX7_readList 5 = .ok (.iconst 0, 1) := by decide +kernel
theorem dX7_readList_6 : decode cX7_readList 6 = .ok (.istore 6, 2) := by decide +kernel
theorem dX7_readList_8 : decode cX7_readList 8 = .ok (.iload 6, 2) := by decide +kernel
theorem dX7_readList_10 : decode cX7_readList 10 = .ok (.bipush 8, 2) := by decide +kernel
theorem dX7_readList_12 : decode cX7_readList 12 = .ok (.if_icmp .ge 50, 3) := by decide +kernel
theorem dX7_readList_15 : decode cX7_readList 15 = .ok (.lload_n 3, 1) := by decide +kernel
theorem dX7_readList_16 : decode cX7_readList 16 = .ok (.lconst 0, 1) := by decide +kernel
theorem dX7_readList_17 : decode cX7_readList 17 = .ok (.lcmp, 1) := by decide +kernel
theorem dX7_readList_18 : decode cX7_readList 18 = .ok (.ifCond .le 44, 3) := by decide +kernel
theorem dX7_readList_21 : decode cX7_readList 21 = .ok (.lload_n 3, 1) := by decide +kernel
theorem dX7_readList_22 : decode cX7_readList 22 = .ok (.ldc2_w 91, 3) := by decide +kernel
theorem dX7_readList_25 : decode cX7_readList 25 = .ok (.lrem, 1) := by decide +kernel
theorem dX7_readList_26 : decode cX7_readList 26 = .ok (.l2i, 1) := by decide +kernel
theorem dX7_readList_27 : decode cX7_readList 27 = .ok (.istore 7, 2) := by decide +kernel
theorem dX7_readList_29 : decode cX7_readList 29 = .ok (.iload 7, 2) := by decide +kernel
theorem dX7_readList_31 : decode cX7_readList 31 = .ok (.ifCond .ne 5, 3) := by decide +kernel
theorem dX7_readList_34 : decode cX7_readList 34 = .ok (.iconst 0, 1) := by decide +kernel
theorem dX7_readList_35 : decode cX7_readList 35 = .ok (.ireturn, 1) := by decide +kernel
theorem dX7_readList_36 : decode cX7_readList 36 = .ok (.aload_n 0, 1) := by decide +kernel
theorem dX7_readList_37 : decode cX7_readList 37 = .ok (.getfield 45, 3) := by decide +kernel
theorem dX7_readList_40 : decode cX7_readList 40 = .ok (.iload 6, 2) := by decide +kernel
theorem dX7_readList_42 : decode cX7_readList 42 = .ok (.iload 7, 2) := by decide +kernel
theorem dX7_readList_44 : decode cX7_readList 44 = .ok (.iconst 1, 1) := by decide +kernel
theorem dX7_readList_45 : decode cX7_readList 45 = .ok (.isub, 1) := by decide +kernel
theorem dX7_readList_46 : decode cX7_readList 46 = .ok (.iastore, 1) := by decide +kernel
theorem dX7_readList_47 : decode cX7_readList 47 = .ok (.iinc 5 1, 3) := by decide +kernel
theorem dX7_readList_50 : decode cX7_readList 50 = .ok (.lload_n 3, 1) := by decide +kernel
theorem dX7_readList_51 : decode cX7_readList 51 = .ok (.ldc2_w 91, 3) := by decide +kernel
theorem dX7_readList_54 : decode cX7_readList 54 = .ok (.ldiv, 1) := by decide +kernel
theorem dX7_readList_55 : decode cX7_readList 55 = .ok (.lstore_n 3, 1) := by decide +kernel
theorem dX7_readList_56 : decode cX7_readList 56 = .ok (.iinc 6 1, 3) := by decide +kernel
theorem dX7_readList_59 : decode cX7_readList 59 = .ok (.goto (-51), 3) := by decide +kernel
theorem dX7_readList_62 : decode cX7_readList 62 = .ok (.lload_n 3, 1) := by decide +kernel
theorem dX7_readList_63 : decode cX7_readList 63 = .ok (.lconst 0, 1) := by decide +kernel
theorem dX7_readList_64 : decode cX7_readList 64 = .ok (.lcmp, 1) := by decide +kernel
theorem dX7_readList_65 : decode cX7_readList 65 = .ok (.ifCond .ne 8, 3) := by decide +kernel
theorem dX7_readList_68 : decode cX7_readList 68 = .ok (.iload 5, 2) := by decide +kernel
theorem dX7_readList_70 : decode cX7_readList 70 = .ok (.goto 4, 3) := by decide +kernel
theorem dX7_readList_73 : decode cX7_readList 73 = .ok (.iconst 0, 1) := by decide +kernel
theorem dX7_readList_74 : decode cX7_readList 74 = .ok (.ireturn, 1) := by decide +kernel
theorem dX7_strike_0 : decode cX7_strike 0 = .ok (.aload_n 0, 1) := by decide +kernel
theorem dX7_strike_1 : decode cX7_strike 1 = .ok (.getfield 26, 3) := by decide +kernel
theorem dX7_strike_4 : decode cX7_strike 4 = .ok (.aload_n 0, 1) := by decide +kernel
theorem dX7_strike_5 : decode cX7_strike 5 = .ok (.getfield 12, 3) := by decide +kernel
theorem dX7_strike_8 : decode cX7_strike 8 = .ok (.invokevirtual 49, 3) := by decide +kernel
theorem dX7_strike_11 : decode cX7_strike 11 = .ok (.aload_n 0, 1) := by decide +kernel
theorem dX7_strike_12 : decode cX7_strike 12 = .ok (.getfield 26, 3) := by decide +kernel
theorem dX7_strike_15 : decode cX7_strike 15 = .ok (.aload_n 0, 1) := by decide +kernel
theorem dX7_strike_16 : decode cX7_strike 16 = .ok (.getfield 12, 3) := by decide +kernel
theorem dX7_strike_19 : decode cX7_strike 19 = .ok (.iload_n 1, 1) := by decide +kernel
theorem dX7_strike_20 : decode cX7_strike 20 = .ok (.invokevirtual 93, 3) := by decide +kernel
theorem dX7_strike_23 : decode cX7_strike 23 = .ok (.invokevirtual 57, 3) := by decide +kernel
theorem dX7_strike_26 : decode cX7_strike 26 = .ok (.ireturn, 1) := by decide +kernel
theorem dX7_leave_0 : decode cX7_leave 0 = .ok (.aload_n 0, 1) := by decide +kernel
theorem dX7_leave_1 : decode cX7_leave 1 = .ok (.getfield 26, 3) := by decide +kernel
theorem dX7_leave_4 : decode cX7_leave 4 = .ok (.aload_n 0, 1) := by decide +kernel
theorem dX7_leave_5 : decode cX7_leave 5 = .ok (.getfield 12, 3) := by decide +kernel
theorem dX7_leave_8 : decode cX7_leave 8 = .ok (.invokevirtual 49, 3) := by decide +kernel
theorem dX7_leave_11 : decode cX7_leave 11 = .ok (.aload_n 0, 1) := by decide +kernel
theorem dX7_leave_12 : decode cX7_leave 12 = .ok (.getfield 26, 3) := by decide +kernel
theorem dX7_leave_15 : decode cX7_leave 15 = .ok (.aload_n 0, 1) := by decide +kernel
theorem dX7_leave_16 : decode cX7_leave 16 = .ok (.getfield 12, 3) := by decide +kernel
theorem dX7_leave_19 : decode cX7_leave 19 = .ok (.iload_n 1, 1) := by decide +kernel
theorem dX7_leave_20 : decode cX7_leave 20 = .ok (.invokevirtual 96, 3) := by decide +kernel
theorem dX7_leave_23 : decode cX7_leave 23 = .ok (.invokevirtual 57, 3) := by decide +kernel
theorem dX7_leave_26 : decode cX7_leave 26 = .ok (.ireturn, 1) := by decide +kernel
theorem dX7_ofTrack_0 : decode cX7_ofTrack 0 = .ok (.aload_n 0, 1) := by decide +kernel
theorem dX7_ofTrack_1 : decode cX7_ofTrack 1 = .ok (.getfield 12, 3) := by decide +kernel
theorem dX7_ofTrack_4 : decode cX7_ofTrack 4 = .ok (.iload_n 1, 1) := by decide +kernel
theorem dX7_ofTrack_5 : decode cX7_ofTrack 5 = .ok (.iload_n 2, 1) := by decide +kernel
theorem dX7_ofTrack_6 : decode cX7_ofTrack 6 = .ok (.invokevirtual 99, 3) := by decide +kernel
theorem dX7_ofTrack_9 : decode cX7_ofTrack 9 = .ok (.ireturn, 1) := by decide +kernel
theorem dX7_at_0 : decode cX7_at 0 = .ok (.iload_n 1, 1) := by decide +kernel
theorem dX7_at_1 : decode cX7_at 1 = .ok (.bipush (-6), 2) := by decide +kernel
theorem dX7_at_3 : decode cX7_at 3 = .ok (.if_icmp .ne 17, 3) := by decide +kernel
theorem dX7_at_6 : decode cX7_at 6 = .ok (.aload_n 0, 1) := by decide +kernel
theorem dX7_at_7 : decode cX7_at 7 = .ok (.getfield 12, 3) := by decide +kernel
theorem dX7_at_10 : decode cX7_at 10 = .ok (.getfield 102, 3) := by decide +kernel
theorem dX7_at_13 : decode cX7_at 13 = .ok (.bipush 8, 2) := by decide +kernel
theorem dX7_at_15 : decode cX7_at 15 = .ok (.iload_n 2, 1) := by decide +kernel
theorem dX7_at_16 : decode cX7_at 16 = .ok (.invokevirtual 106, 3) := by decide +kernel
theorem dX7_at_19 : decode cX7_at 19 = .ok (.ireturn, 1) := by decide +kernel
theorem dX7_at_20 : decode cX7_at 20 = .ok (.aload_n 0, 1) := by decide +kernel
theorem dX7_at_21 : decode cX7_at 21 = .ok (.getfield 12, 3) := by decide +kernel
theorem dX7_at_24 : decode cX7_at 24 = .ok (.iload_n 1, 1) := by decide +kernel
theorem dX7_at_25 : decode cX7_at 25 = .ok (.invokevirtual 111, 3) := by decide +kernel
theorem dX7_at_28 : decode cX7_at 28 = .ok (.ifCond .eq 18, 3) := by decide +kernel
theorem dX7_at_31 : decode cX7_at 31 = .ok (.aload_n 0, 1) := by decide +kernel
theorem dX7_at_32 : decode cX7_at 32 = .ok (.getfield 12, 3) := by decide +kernel
theorem dX7_at_35 : decode cX7_at 35 = .ok (.getfield 102, 3) := by decide +kernel
theorem dX7_at_38 : decode cX7_at 38 = .ok (.iload_n 1, 1) := by decide +kernel
theorem dX7_at_39 : decode cX7_at 39 = .ok (.iload_n 2, 1) := by decide +kernel
theorem dX7_at_40 : decode cX7_at 40 = .ok (.invokevirtual 106, 3) := by decide +kernel
theorem dX7_at_43 : decode cX7_at 43 = .ok (.goto 4, 3) := by decide +kernel
theorem dX7_at_46 : decode cX7_at 46 = .ok (.iconst (-1), 1) := by decide +kernel
theorem dX7_at_47 : decode cX7_at 47 = .ok (.ireturn, 1) := by decide +kernel
theorem dX7_ofWagon_0 : decode cX7_ofWagon 0 = .ok (.aload_n 0, 1) := by decide +kernel
theorem dX7_ofWagon_1 : decode cX7_ofWagon 1 = .ok (.getfield 12, 3) := by decide +kernel
theorem dX7_ofWagon_4 : decode cX7_ofWagon 4 = .ok (.iload_n 1, 1) := by decide +kernel
theorem dX7_ofWagon_5 : decode cX7_ofWagon 5 = .ok (.iload_n 2, 1) := by decide +kernel
theorem dX7_ofWagon_6 : decode cX7_ofWagon 6 = .ok (.invokevirtual 115, 3) := by decide +kernel
theorem dX7_ofWagon_9 : decode cX7_ofWagon 9 = .ok (.ireturn, 1) := by decide +kernel
theorem dX7_ofTrain_0 : decode cX7_ofTrain 0 = .ok (.aload_n 0, 1) := by decide +kernel
theorem dX7_ofTrain_1 : decode cX7_ofTrain 1 = .ok (.getfield 12, 3) := by decide +kernel
theorem dX7_ofTrain_4 : decode cX7_ofTrain 4 = .ok (.iload_n 1, 1) := by decide +kernel
theorem dX7_ofTrain_5 : decode cX7_ofTrain 5 = .ok (.iload_n 2, 1) := by decide +kernel
theorem dX7_ofTrain_6 : decode cX7_ofTrain 6 = .ok (.invokevirtual 118, 3) := by decide +kernel
theorem dX7_ofTrain_9 : decode cX7_ofTrain 9 = .ok (.ireturn, 1) := by decide +kernel
theorem dX7_count_0 : decode cX7_count 0 = .ok (.iload_n 1, 1) := by decide +kernel
theorem dX7_count_1 : decode cX7_count 1 = .ok (.bipush 13, 2) := by decide +kernel
theorem dX7_count_3 : decode cX7_count 3 = .ok (.if_icmp .ne 11, 3) := by decide +kernel
theorem dX7_count_6 : decode cX7_count 6 = .ok (.aload_n 0, 1) := by decide +kernel
theorem dX7_count_7 : decode cX7_count 7 = .ok (.getfield 41, 3) := by decide +kernel
theorem dX7_count_10 : decode cX7_count 10 = .ok (.getfield 121, 3) := by decide +kernel
theorem dX7_count_13 : decode cX7_count 13 = .ok (.ireturn, 1) := by decide +kernel
theorem dX7_count_14 : decode cX7_count 14 = .ok (.iload_n 1, 1) := by decide +kernel
theorem dX7_count_15 : decode cX7_count 15 = .ok (.bipush 14, 2) := by decide +kernel
theorem dX7_count_17 : decode cX7_count 17 = .ok (.if_icmp .ne 11, 3) := by decide +kernel
theorem dX7_count_20 : decode cX7_count 20 = .ok (.aload_n 0, 1) := by decide +kernel
theorem dX7_count_21 : decode cX7_count 21 = .ok (.getfield 26, 3) := by decide +kernel
theorem dX7_count_24 : decode cX7_count 24 = .ok (.getfield 125, 3) := by decide +kernel
theorem dX7_count_27 : decode cX7_count 27 = .ok (.ireturn, 1) := by decide +kernel
theorem dX7_count_28 : decode cX7_count 28 = .ok (.aload_n 0, 1) := by decide +kernel
theorem dX7_count_29 : decode cX7_count 29 = .ok (.getfield 12, 3) := by decide +kernel
theorem dX7_count_32 : decode cX7_count 32 = .ok (.iload_n 1, 1) := by decide +kernel
theorem dX7_count_33 : decode cX7_count 33 = .ok (.invokevirtual 128, 3) := by decide +kernel
theorem dX7_count_36 : decode cX7_count 36 = .ok (.ireturn, 1) := by decide +kernel
theorem dX7_freeFrom_0 : decode cX7_freeFrom 0 = .ok (.iload_n 1, 1) := by decide +kernel
theorem dX7_freeFrom_1 : decode cX7_freeFrom 1 = .ok (.iconst 1, 1) := by decide +kernel
theorem dX7_freeFrom_2 : decode cX7_freeFrom 2 = .ok (.if_icmp .lt 10, 3) := by decide +kernel
theorem dX7_freeFrom_5 : decode cX7_freeFrom 5 = .ok (.iload_n 1, 1) := by decide +kernel
theorem dX7_freeFrom_6 : decode cX7_freeFrom 6 = .ok (.sipush 500, 3) := by decide +kernel
theorem dX7_freeFrom_9 : decode cX7_freeFrom 9 = .ok (.if_icmp .le 6, 3) := by decide +kernel
theorem dX7_freeFrom_12 : decode cX7_freeFrom 12 = .ok (.bipush (-2), 2) := by decide +kernel
theorem dX7_freeFrom_14 : decode cX7_freeFrom 14 = .ok (.ireturn, 1) := by decide +kernel
theorem dX7_freeFrom_15 : decode cX7_freeFrom 15 = .ok (.aload_n 0, 1) := by decide +kernel
theorem dX7_freeFrom_16 : decode cX7_freeFrom 16 = .ok (.getfield 12, 3) := by decide +kernel
theorem dX7_freeFrom_19 : decode cX7_freeFrom 19 = .ok (.getfield 131, 3) := by decide +kernel
theorem dX7_freeFrom_22 : decode cX7_freeFrom 22 = .ok (.aload_n 0, 1) := by decide +kernel
theorem dX7_freeFrom_23 : decode cX7_freeFrom 23 = .ok (.getfield 12, 3) := by decide +kernel
theorem dX7_freeFrom_26 : decode cX7_freeFrom 26 = .ok (.getfield 135, 3) := by decide +kernel
theorem dX7_freeFrom_29 : decode cX7_freeFrom 29 = .ok (.iload_n 1, 1) := by decide +kernel
theorem dX7_freeFrom_30 : decode cX7_freeFrom 30 = .ok (.invokevirtual 138, 3) := by decide +kernel
theorem dX7_freeFrom_33 : decode cX7_freeFrom 33 = .ok (.ireturn, 1) := by decide +kernel
theorem dX7_straight_0 : decode cX7_straight 0 = .ok (.aload_n 0, 1) := by decide +kernel
theorem dX7_straight_1 : decode cX7_straight 1 = .ok (.getfield 12, 3) := by decide +kernel
theorem dX7_straight_4 : decode cX7_straight 4 = .ok (.getfield 143, 3) := by decide +kernel
theorem dX7_straight_7 : decode cX7_straight 7 = .ok (.iload_n 1, 1) := by decide +kernel
theorem dX7_straight_8 : decode cX7_straight 8 = .ok (.invokevirtual 147, 3) := by decide +kernel
theorem dX7_straight_11 : decode cX7_straight 11 = .ok (.ifCond .ne 5, 3) := by decide +kernel
theorem dX7_straight_14 : decode cX7_straight 14 = .ok (.iconst (-1), 1) := by decide +kernel
theorem dX7_straight_15 : decode cX7_straight 15 = .ok (.ireturn, 1) := by decide +kernel
theorem dX7_straight_16 : decode cX7_straight 16 = .ok (.aload_n 0, 1) := by decide +kernel
theorem dX7_straight_17 : decode cX7_straight 17 = .ok (.getfield 19, 3) := by decide +kernel
theorem dX7_straight_20 : decode cX7_straight 20 = .ok (.aload_n 0, 1) := by decide +kernel
theorem dX7_straight_21 : decode cX7_straight 21 = .ok (.getfield 12, 3) := by decide +kernel
theorem dX7_straight_24 : decode cX7_straight 24 = .ok (.iload_n 1, 1) := by decide +kernel
theorem dX7_straight_25 : decode cX7_straight 25 = .ok (.invokevirtual 152, 3) := by decide +kernel
theorem dX7_straight_28 : decode cX7_straight 28 = .ok (.bipush (-6), 2) := by decide +kernel
theorem dX7_straight_30 : decode cX7_straight 30 = .ok (.if_icmp .ne 7, 3) := by decide +kernel
theorem dX7_straight_33 : decode cX7_straight 33 = .ok (.iconst 0, 1) := by decide +kernel
theorem dX7_straight_34 : decode cX7_straight 34 = .ok (.goto 4, 3) := by decide +kernel
theorem dX7_straight_37 : decode cX7_straight 37 = .ok (.iconst 1, 1) := by decide +kernel
theorem dX7_straight_38 : decode cX7_straight 38 = .ok (.ireturn, 1) := by decide +kernel
theorem dX7_pulls_0 : decode cX7_pulls 0 = .ok (.aload_n 0, 1) := by decide +kernel
theorem dX7_pulls_1 : decode cX7_pulls 1 = .ok (.getfield 12, 3) := by decide +kernel
theorem dX7_pulls_4 : decode cX7_pulls 4 = .ok (.getfield 143, 3) := by decide +kernel
theorem dX7_pulls_7 : decode cX7_pulls 7 = .ok (.iload_n 1, 1) := by decide +kernel
theorem dX7_pulls_8 : decode cX7_pulls 8 = .ok (.invokevirtual 147, 3) := by decide +kernel
theorem dX7_pulls_11 : decode cX7_pulls 11 = .ok (.ifCond .eq 18, 3) := by decide +kernel
theorem dX7_pulls_14 : decode cX7_pulls 14 = .ok (.aload_n 0, 1) := by decide +kernel
theorem dX7_pulls_15 : decode cX7_pulls 15 = .ok (.getfield 19, 3) := by decide +kernel
theorem dX7_pulls_18 : decode cX7_pulls 18 = .ok (.aload_n 0, 1) := by decide +kernel
theorem dX7_pulls_19 : decode cX7_pulls 19 = .ok (.getfield 12, 3) := by decide +kernel
theorem dX7_pulls_22 : decode cX7_pulls 22 = .ok (.iload_n 1, 1) := by decide +kernel
theorem dX7_pulls_23 : decode cX7_pulls 23 = .ok (.invokevirtual 152, 3) := by decide +kernel
theorem dX7_pulls_26 : decode cX7_pulls 26 = .ok (.goto 4, 3) := by decide +kernel
theorem dX7_pulls_29 : decode cX7_pulls 29 = .ok (.iconst (-1), 1) := by decide +kernel
theorem dX7_pulls_30 : decode cX7_pulls 30 = .ok (.ireturn, 1) := by decide +kernel
theorem dX7_wouldLeave_0 : decode cX7_wouldLeave 0 = .ok (.aload_n 0, 1) := by decide +kernel
theorem dX7_wouldLeave_1 : decode cX7_wouldLeave 1 = .ok (.getfield 12, 3) := by decide +kernel
theorem dX7_wouldLeave_4 : decode cX7_wouldLeave 4 = .ok (.getfield 143, 3) := by decide +kernel
theorem dX7_wouldLeave_7 : decode cX7_wouldLeave 7 = .ok (.iload_n 1, 1) := by decide +kernel
theorem dX7_wouldLeave_8 : decode cX7_wouldLeave 8 = .ok (.invokevirtual 147, 3) := by decide +kernel
theorem dX7_wouldLeave_11 : decode cX7_wouldLeave 11 = .ok (.ifCond .ne 5, 3) := by decide +kernel
theorem dX7_wouldLeave_14 : decode cX7_wouldLeave 14 = .ok (.iconst (-1), 1) := by decide +kernel
theorem dX7_wouldLeave_15 : decode cX7_wouldLeave 15 = .ok (.ireturn, 1) := by decide +kernel
theorem dX7_wouldLeave_16 : decode cX7_wouldLeave 16 = .ok (.aload_n 0, 1) := by decide +kernel
theorem dX7_wouldLeave_17 : decode cX7_wouldLeave 17 = .ok (.getfield 19, 3) := by decide +kernel
theorem dX7_wouldLeave_20 : decode cX7_wouldLeave 20 = .ok (.aload_n 0, 1) := by decide +kernel
theorem dX7_wouldLeave_21 : decode cX7_wouldLeave 21 = .ok (.getfield 12, 3) := by decide +kernel
theorem dX7_wouldLeave_24 : decode cX7_wouldLeave 24 = .ok (.iload_n 1, 1) := by decide +kernel
theorem dX7_wouldLeave_25 : decode cX7_wouldLeave 25 = .ok (.invokevirtual 152, 3) := by decide +kernel
theorem dX7_wouldLeave_28 : decode cX7_wouldLeave 28 = .ok (.bipush (-6), 2) := by decide +kernel
theorem dX7_wouldLeave_30 : decode cX7_wouldLeave 30 = .ok (.if_icmp .ne 8, 3) := by decide +kernel
theorem dX7_wouldLeave_33 : decode cX7_wouldLeave 33 = .ok (.bipush (-6), 2) := by decide +kernel
theorem dX7_wouldLeave_35 : decode cX7_wouldLeave 35 = .ok (.goto 13, 3) := by decide +kernel
theorem dX7_wouldLeave_38 : decode cX7_wouldLeave 38 = .ok (.aload_n 0, 1) := by decide +kernel
theorem dX7_wouldLeave_39 : decode cX7_wouldLeave 39 = .ok (.getfield 19, 3) := by decide +kernel
theorem dX7_wouldLeave_42 : decode cX7_wouldLeave 42 = .ok (.getfield 156, 3) := by decide +kernel
theorem dX7_wouldLeave_45 : decode cX7_wouldLeave 45 = .ok (.getfield 135, 3) := by decide +kernel
theorem dX7_wouldLeave_48 : decode cX7_wouldLeave 48 = .ok (.ireturn, 1) := by decide +kernel
theorem dX7_moves_0 : decode cX7_moves 0 = .ok (.aload_n 0, 1) := by decide +kernel
theorem dX7_moves_1 : decode cX7_moves 1 = .ok (.getfield 12, 3) := by decide +kernel
theorem dX7_moves_4 : decode cX7_moves 4 = .ok (.getfield 143, 3) := by decide +kernel
theorem dX7_moves_7 : decode cX7_moves 7 = .ok (.iload_n 1, 1) := by decide +kernel
theorem dX7_moves_8 : decode cX7_moves 8 = .ok (.invokevirtual 147, 3) := by decide +kernel
theorem dX7_moves_11 : decode cX7_moves 11 = .ok (.ifCond .eq 18, 3) := by decide +kernel
theorem dX7_moves_14 : decode cX7_moves 14 = .ok (.aload_n 0, 1) := by decide +kernel
theorem dX7_moves_15 : decode cX7_moves 15 = .ok (.getfield 19, 3) := by decide +kernel
theorem dX7_moves_18 : decode cX7_moves 18 = .ok (.aload_n 0, 1) := by decide +kernel
theorem dX7_moves_19 : decode cX7_moves 19 = .ok (.getfield 12, 3) := by decide +kernel
theorem dX7_moves_22 : decode cX7_moves 22 = .ok (.iload_n 1, 1) := by decide +kernel
theorem dX7_moves_23 : decode cX7_moves 23 = .ok (.invokevirtual 159, 3) := by decide +kernel
theorem dX7_moves_26 : decode cX7_moves 26 = .ok (.goto 4, 3) := by decide +kernel
theorem dX7_moves_29 : decode cX7_moves 29 = .ok (.iconst (-1), 1) := by decide +kernel
theorem dX7_moves_30 : decode cX7_moves 30 = .ok (.ireturn, 1) := by decide +kernel
theorem dX7_roomFor_0 : decode cX7_roomFor 0 = .ok (.aload_n 0, 1) := by decide +kernel
theorem dX7_roomFor_1 : decode cX7_roomFor 1 = .ok (.getfield 12, 3) := by decide +kernel
theorem dX7_roomFor_4 : decode cX7_roomFor 4 = .ok (.aload_n 0, 1) := by decide +kernel
theorem dX7_roomFor_5 : decode cX7_roomFor 5 = .ok (.getfield 12, 3) := by decide +kernel
theorem dX7_roomFor_8 : decode cX7_roomFor 8 = .ok (.getfield 102, 3) := by decide +kernel
theorem dX7_roomFor_11 : decode cX7_roomFor 11 = .ok (.bipush 8, 2) := by decide +kernel
theorem dX7_roomFor_13 : decode cX7_roomFor 13 = .ok (.invokevirtual 162, 3) := by decide +kernel
theorem dX7_roomFor_16 : decode cX7_roomFor 16 = .ok (.invokevirtual 165, 3) := by decide +kernel
theorem dX7_roomFor_19 : decode cX7_roomFor 19 = .ok (.ireturn, 1) := by decide +kernel
theorem dX7_buried_0 : decode cX7_buried 0 = .ok (.aload_n 0, 1) := by decide +kernel
theorem dX7_buried_1 : decode cX7_buried 1 = .ok (.getfield 12, 3) := by decide +kernel
theorem dX7_buried_4 : decode cX7_buried 4 = .ok (.invokevirtual 168, 3) := by decide +kernel
theorem dX7_buried_7 : decode cX7_buried 7 = .ok (.ireturn, 1) := by decide +kernel
theorem dX7_put_0 : decode cX7_put 0 = .ok (.aload_n 0, 1) := by decide +kernel
theorem dX7_put_1 : decode cX7_put 1 = .ok (.getfield 41, 3) := by decide +kernel
theorem dX7_put_4 : decode cX7_put 4 = .ok (.lload_n 1, 1) := by decide +kernel
theorem dX7_put_5 : decode cX7_put 5 = .ok (.invokevirtual 171, 3) := by decide +kernel
theorem dX7_put_8 : decode cX7_put 8 = .ok (.ireturn, 1) := by decide +kernel
theorem dX7_wipe_0 : decode cX7_wipe 0 = .ok (.aload_n 0, 1) := by decide +kernel
theorem dX7_wipe_1 : decode cX7_wipe 1 = .ok (.getfield 41, 3) := by decide +kernel
theorem dX7_wipe_4 : decode cX7_wipe 4 = .ok (.invokevirtual 174, 3) := by decide +kernel
theorem dX7_wipe_7 : decode cX7_wipe 7 = .ok (.ireturn, 1) := by decide +kernel
theorem dX7_fault_0 : decode cX7_fault 0 = .ok (.aload_n 0, 1) := by decide +kernel
theorem dX7_fault_1 : decode cX7_fault 1 = .ok (.getfield 41, 3) := by decide +kernel
theorem dX7_fault_4 : decode cX7_fault 4 = .ok (.invokevirtual 177, 3) := by decide +kernel
theorem dX7_fault_7 : decode cX7_fault 7 = .ok (.ireturn, 1) := by decide +kernel
theorem dX7_carryOut_0 : decode cX7_carryOut 0 = .ok (.aload_n 0, 1) := by decide +kernel
theorem dX7_carryOut_1 : decode cX7_carryOut 1 = .ok (.getfield 41, 3) := by decide +kernel
theorem dX7_carryOut_4 : decode cX7_carryOut 4 = .ok (.invokevirtual 177, 3) := by decide +kernel
theorem dX7_carryOut_7 : decode cX7_carryOut 7 = .ok (.bipush (-6), 2) := by decide +kernel
theorem dX7_carryOut_9 : decode cX7_carryOut 9 = .ok (.if_icmp .eq 6, 3) := by decide +kernel
theorem dX7_carryOut_12 : decode cX7_carryOut 12 = .ok (.bipush (-3), 2) := by decide +kernel
theorem dX7_carryOut_14 : decode cX7_carryOut 14 = .ok (.ireturn, 1) := by decide +kernel
theorem dX7_carryOut_15 : decode cX7_carryOut 15 = .ok (.aload_n 0, 1) := by decide +kernel
theorem dX7_carryOut_16 : decode cX7_carryOut 16 = .ok (.getfield 26, 3) := by decide +kernel
theorem dX7_carryOut_19 : decode cX7_carryOut 19 = .ok (.aload_n 0, 1) := by decide +kernel
theorem dX7_carryOut_20 : decode cX7_carryOut 20 = .ok (.getfield 12, 3) := by decide +kernel
theorem dX7_carryOut_23 : decode cX7_carryOut 23 = .ok (.invokevirtual 49, 3) := by decide +kernel
theorem dX7_carryOut_26 : decode cX7_carryOut 26 = .ok (.iconst 0, 1) := by decide +kernel
theorem dX7_carryOut_27 : decode cX7_carryOut 27 = .ok (.istore_n 1, 1) := by decide +kernel
theorem dX7_carryOut_28 : decode cX7_carryOut 28 = .ok (.iconst 0, 1) := by decide +kernel
theorem dX7_carryOut_29 : decode cX7_carryOut 29 = .ok (.istore_n 2, 1) := by decide +kernel
theorem dX7_carryOut_30 : decode cX7_carryOut 30 = .ok (.iconst 0, 1) := by decide +kernel
theorem dX7_carryOut_31 : decode cX7_carryOut 31 = .ok (.istore_n 3, 1) := by decide +kernel
theorem dX7_carryOut_32 : decode cX7_carryOut 32 = .ok (.iload_n 3, 1) := by decide +kernel
theorem dX7_carryOut_33 : decode cX7_carryOut 33 = .ok (.aload_n 0, 1) := by decide +kernel
theorem dX7_carryOut_34 : decode cX7_carryOut 34 = .ok (.getfield 41, 3) := by decide +kernel
theorem dX7_carryOut_37 : decode cX7_carryOut 37 = .ok (.getfield 121, 3) := by decide +kernel
theorem dX7_carryOut_40 : decode cX7_carryOut 40 = .ok (.if_icmp .gt 39, 3) := by decide +kernel
theorem dX7_carryOut_43 : decode cX7_carryOut 43 = .ok (.aload_n 0, 1) := by decide +kernel
theorem dX7_carryOut_44 : decode cX7_carryOut 44 = .ok (.getfield 41, 3) := by decide +kernel
theorem dX7_carryOut_47 : decode cX7_carryOut 47 = .ok (.iload_n 3, 1) := by decide +kernel
theorem dX7_carryOut_48 : decode cX7_carryOut 48 = .ok (.invokevirtual 180, 3) := by decide +kernel
theorem dX7_carryOut_51 : decode cX7_carryOut 51 = .ok (.ifCond .eq 22, 3) := by decide +kernel
theorem dX7_carryOut_54 : decode cX7_carryOut 54 = .ok (.aload_n 0, 1) := by decide +kernel
theorem dX7_carryOut_55 : decode cX7_carryOut 55 = .ok (.iload_n 2, 1) := by decide +kernel
theorem dX7_carryOut_56 : decode cX7_carryOut 56 = .ok (.iload_n 3, 1) := by decide +kernel
theorem dX7_carryOut_57 : decode cX7_carryOut 57 = .ok (.invokevirtual 183, 3) := by decide +kernel
theorem dX7_carryOut_60 : decode cX7_carryOut 60 = .ok (.ifCond .ge 6, 3) := by decide +kernel
theorem dX7_carryOut_63 : decode cX7_carryOut 63 = .ok (.goto 16, 3) := by decide +kernel
theorem dX7_carryOut_66 : decode cX7_carryOut 66 = .ok (.iinc 1 1, 3) := by decide +kernel
theorem dX7_carryOut_69 : decode cX7_carryOut 69 = .ok (.iload_n 3, 1) := by decide +kernel
theorem dX7_carryOut_70 : decode cX7_carryOut 70 = .ok (.iconst 1, 1) := by decide +kernel
theorem dX7_carryOut_71 : decode cX7_carryOut 71 = .ok (.iadd, 1) := by decide +kernel
theorem dX7_carryOut_72 : decode cX7_carryOut 72 = .ok (.istore_n 2, 1) := by decide +kernel
theorem dX7_carryOut_73 : decode cX7_carryOut 73 = .ok (.iinc 3 1, 3) := by decide +kernel
theorem dX7_carryOut_76 : decode cX7_carryOut 76 = .ok (.goto (-44), 3) := by decide +kernel
theorem dX7_carryOut_79 : decode cX7_carryOut 79 = .ok (.aload_n 0, 1) := by decide +kernel
theorem dX7_carryOut_80 : decode cX7_carryOut 80 = .ok (.getfield 41, 3) := by decide +kernel
theorem dX7_carryOut_83 : decode cX7_carryOut 83 = .ok (.invokevirtual 174, 3) := by decide +kernel
theorem dX7_carryOut_86 : decode cX7_carryOut 86 = .ok (.pop, 1) := by decide +kernel
theorem dX7_carryOut_87 : decode cX7_carryOut 87 = .ok (.aload_n 0, 1) := by decide +kernel
theorem dX7_carryOut_88 : decode cX7_carryOut 88 = .ok (.getfield 26, 3) := by decide +kernel
theorem dX7_carryOut_91 : decode cX7_carryOut 91 = .ok (.iload_n 1, 1) := by decide +kernel
theorem dX7_carryOut_92 : decode cX7_carryOut 92 = .ok (.invokevirtual 57, 3) := by decide +kernel
theorem dX7_carryOut_95 : decode cX7_carryOut 95 = .ok (.ireturn, 1) := by decide +kernel
theorem dX7_carryOne_0 : decode cX7_carryOne 0 = .ok (.aload_n 0, 1) := by decide +kernel
theorem dX7_carryOne_1 : decode cX7_carryOne 1 = .ok (.getfield 41, 3) := by decide +kernel
theorem dX7_carryOne_4 : decode cX7_carryOne 4 = .ok (.iload_n 1, 1) := by decide +kernel
theorem dX7_carryOne_5 : decode cX7_carryOne 5 = .ok (.iconst 1, 1) := by decide +kernel
theorem dX7_carryOne_6 : decode cX7_carryOne 6 = .ok (.iadd, 1) := by decide +kernel
theorem dX7_carryOne_7 : decode cX7_carryOne 7 = .ok (.invokevirtual 186, 3) := by decide +kernel
theorem dX7_carryOne_10 : decode cX7_carryOne 10 = .ok (.bipush 65, 2) := by decide +kernel
theorem dX7_carryOne_12 : decode cX7_carryOne 12 = .ok (.isub, 1) := by decide +kernel
theorem dX7_carryOne_13 : decode cX7_carryOne 13 = .ok (.istore_n 3, 1) := by decide +kernel
theorem dX7_carryOne_14 : decode cX7_carryOne 14 = .ok (.aload_n 0, 1) := by decide +kernel
theorem dX7_carryOne_15 : decode cX7_carryOne 15 = .ok (.getfield 41, 3) := by decide +kernel
theorem dX7_carryOne_18 : decode cX7_carryOne 18 = .ok (.iload_n 1, 1) := by decide +kernel
theorem dX7_carryOne_19 : decode cX7_carryOne 19 = .ok (.invokevirtual 186, 3) := by decide +kernel
theorem dX7_carryOne_22 : decode cX7_carryOne 22 = .ok (.tableswitch 113 112 119 #[46, 66, 86, 113, 113, 113, 113, 94], 46) := by decide +kernel
theorem dX7_carryOne_68 : decode cX7_carryOne 68 = .ok (.aload_n 0, 1) := by decide +kernel
theorem dX7_carryOne_69 : decode cX7_carryOne 69 = .ok (.getfield 12, 3) := by decide +kernel
theorem dX7_carryOne_72 : decode cX7_carryOne 72 = .ok (.iload_n 3, 1) := by decide +kernel
theorem dX7_carryOne_73 : decode cX7_carryOne 73 = .ok (.aload_n 0, 1) := by decide +kernel
theorem dX7_carryOne_74 : decode cX7_carryOne 74 = .ok (.getfield 41, 3) := by decide +kernel
theorem dX7_carryOne_77 : decode cX7_carryOne 77 = .ok (.iload_n 1, 1) := by decide +kernel
theorem dX7_carryOne_78 : decode cX7_carryOne 78 = .ok (.iconst 2, 1) := by decide +kernel
theorem dX7_carryOne_79 : decode cX7_carryOne 79 = .ok (.iadd, 1) := by decide +kernel
theorem dX7_carryOne_80 : decode cX7_carryOne 80 = .ok (.iload_n 2, 1) := by decide +kernel
theorem dX7_carryOne_81 : decode cX7_carryOne 81 = .ok (.invokevirtual 189, 3) := by decide +kernel
theorem dX7_carryOne_84 : decode cX7_carryOne 84 = .ok (.invokevirtual 70, 3) := by decide +kernel
theorem dX7_carryOne_87 : decode cX7_carryOne 87 = .ok (.ireturn, 1) := by decide +kernel
theorem dX7_carryOne_88 : decode cX7_carryOne 88 = .ok (.aload_n 0, 1) := by decide +kernel
theorem dX7_carryOne_89 : decode cX7_carryOne 89 = .ok (.getfield 12, 3) := by decide +kernel
theorem dX7_carryOne_92 : decode cX7_carryOne 92 = .ok (.iload_n 3, 1) := by decide +kernel
theorem dX7_carryOne_93 : decode cX7_carryOne 93 = .ok (.aload_n 0, 1) := by decide +kernel
theorem dX7_carryOne_94 : decode cX7_carryOne 94 = .ok (.getfield 41, 3) := by decide +kernel
theorem dX7_carryOne_97 : decode cX7_carryOne 97 = .ok (.iload_n 1, 1) := by decide +kernel
theorem dX7_carryOne_98 : decode cX7_carryOne 98 = .ok (.iconst 2, 1) := by decide +kernel
theorem dX7_carryOne_99 : decode cX7_carryOne 99 = .ok (.iadd, 1) := by decide +kernel
theorem dX7_carryOne_100 : decode cX7_carryOne 100 = .ok (.iload_n 2, 1) := by decide +kernel
theorem dX7_carryOne_101 : decode cX7_carryOne 101 = .ok (.invokevirtual 189, 3) := by decide +kernel
theorem dX7_carryOne_104 : decode cX7_carryOne 104 = .ok (.invokevirtual 73, 3) := by decide +kernel
theorem dX7_carryOne_107 : decode cX7_carryOne 107 = .ok (.ireturn, 1) := by decide +kernel
theorem dX7_carryOne_108 : decode cX7_carryOne 108 = .ok (.aload_n 0, 1) := by decide +kernel
theorem dX7_carryOne_109 : decode cX7_carryOne 109 = .ok (.getfield 12, 3) := by decide +kernel
theorem dX7_carryOne_112 : decode cX7_carryOne 112 = .ok (.invokevirtual 76, 3) := by decide +kernel
theorem dX7_carryOne_115 : decode cX7_carryOne 115 = .ok (.ireturn, 1) := by decide +kernel
theorem dX7_carryOne_116 : decode cX7_carryOne 116 = .ok (.aload_n 0, 1) := by decide +kernel
theorem dX7_carryOne_117 : decode cX7_carryOne 117 = .ok (.getfield 12, 3) := by decide +kernel
theorem dX7_carryOne_120 : decode cX7_carryOne 120 = .ok (.aload_n 0, 1) := by decide +kernel
theorem dX7_carryOne_121 : decode cX7_carryOne 121 = .ok (.getfield 41, 3) := by decide +kernel
theorem dX7_carryOne_124 : decode cX7_carryOne 124 = .ok (.iload_n 1, 1) := by decide +kernel
theorem dX7_carryOne_125 : decode cX7_carryOne 125 = .ok (.iconst 1, 1) := by decide +kernel
theorem dX7_carryOne_126 : decode cX7_carryOne 126 = .ok (.iadd, 1) := by decide +kernel
theorem dX7_carryOne_127 : decode cX7_carryOne 127 = .ok (.iload_n 2, 1) := by decide +kernel
theorem dX7_carryOne_128 : decode cX7_carryOne 128 = .ok (.invokevirtual 189, 3) := by decide +kernel
theorem dX7_carryOne_131 : decode cX7_carryOne 131 = .ok (.invokevirtual 80, 3) := by decide +kernel
theorem dX7_carryOne_134 : decode cX7_carryOne 134 = .ok (.ireturn, 1) := by decide +kernel
theorem dX7_carryOne_135 : decode cX7_carryOne 135 = .ok (.aload_n 0, 1) := by decide +kernel
theorem dX7_carryOne_136 : decode cX7_carryOne 136 = .ok (.getfield 12, 3) := by decide +kernel
theorem dX7_carryOne_139 : decode cX7_carryOne 139 = .ok (.aload_n 0, 1) := by decide +kernel
theorem dX7_carryOne_140 : decode cX7_carryOne 140 = .ok (.getfield 41, 3) := by decide +kernel
theorem dX7_carryOne_143 : decode cX7_carryOne 143 = .ok (.iload_n 1, 1) := by decide +kernel
theorem dX7_carryOne_144 : decode cX7_carryOne 144 = .ok (.iconst 1, 1) := by decide +kernel
theorem dX7_carryOne_145 : decode cX7_carryOne 145 = .ok (.iadd, 1) := by decide +kernel
theorem dX7_carryOne_146 : decode cX7_carryOne 146 = .ok (.iload_n 2, 1) := by decide +kernel
theorem dX7_carryOne_147 : decode cX7_carryOne 147 = .ok (.invokevirtual 189, 3) := by decide +kernel
theorem dX7_carryOne_150 : decode cX7_carryOne 150 = .ok (.invokevirtual 96, 3) := by decide +kernel
theorem dX7_carryOne_153 : decode cX7_carryOne 153 = .ok (.ireturn, 1) := by decide +kernel
theorem dX7_undo_0 : decode cX7_undo 0 = .ok (.aload_n 0, 1) := by decide +kernel
theorem dX7_undo_1 : decode cX7_undo 1 = .ok (.getfield 26, 3) := by decide +kernel
theorem dX7_undo_4 : decode cX7_undo 4 = .ok (.aload_n 0, 1) := by decide +kernel
theorem dX7_undo_5 : decode cX7_undo 5 = .ok (.getfield 12, 3) := by decide +kernel
theorem dX7_undo_8 : decode cX7_undo 8 = .ok (.invokevirtual 191, 3) := by decide +kernel
theorem dX7_undo_11 : decode cX7_undo 11 = .ok (.ireturn, 1) := by decide +kernel
theorem dX7_save_0 : decode cX7_save 0 = .ok (.iload_n 1, 1) := by decide +kernel
theorem dX7_save_1 : decode cX7_save 1 = .ok (.ifCond .lt 8, 3) := by decide +kernel
theorem dX7_save_4 : decode cX7_save 4 = .ok (.iload_n 1, 1) := by decide +kernel
theorem dX7_save_5 : decode cX7_save 5 = .ok (.iconst 2, 1) := by decide +kernel
theorem dX7_save_6 : decode cX7_save 6 = .ok (.if_icmp .lt 6, 3) := by decide +kernel
theorem dX7_save_9 : decode cX7_save 9 = .ok (.bipush (-2), 2) := by decide +kernel
theorem dX7_save_11 : decode cX7_save 11 = .ok (.ireturn, 1) := by decide +kernel
theorem dX7_save_12 : decode cX7_save 12 = .ok (.aload_n 0, 1) := by decide +kernel
theorem dX7_save_13 : decode cX7_save 13 = .ok (.getfield 30, 3) := by decide +kernel
theorem dX7_save_16 : decode cX7_save 16 = .ok (.iload_n 1, 1) := by decide +kernel
theorem dX7_save_17 : decode cX7_save 17 = .ok (.aaload, 1) := by decide +kernel
theorem dX7_save_18 : decode cX7_save 18 = .ok (.aload_n 0, 1) := by decide +kernel
theorem dX7_save_19 : decode cX7_save 19 = .ok (.getfield 12, 3) := by decide +kernel
theorem dX7_save_22 : decode cX7_save 22 = .ok (.invokevirtual 195, 3) := by decide +kernel
theorem dX7_save_25 : decode cX7_save 25 = .ok (.aload_n 0, 1) := by decide +kernel
theorem dX7_save_26 : decode cX7_save 26 = .ok (.getfield 34, 3) := by decide +kernel
theorem dX7_save_29 : decode cX7_save 29 = .ok (.iload_n 1, 1) := by decide +kernel
theorem dX7_save_30 : decode cX7_save 30 = .ok (.iconst 1, 1) := by decide +kernel
theorem dX7_save_31 : decode cX7_save 31 = .ok (.bastore, 1) := by decide +kernel
theorem dX7_save_32 : decode cX7_save 32 = .ok (.aload_n 0, 1) := by decide +kernel
theorem dX7_save_33 : decode cX7_save 33 = .ok (.getfield 12, 3) := by decide +kernel
theorem dX7_save_36 : decode cX7_save 36 = .ok (.getfield 135, 3) := by decide +kernel
theorem dX7_save_39 : decode cX7_save 39 = .ok (.ireturn, 1) := by decide +kernel
theorem dX7_restore_0 : decode cX7_restore 0 = .ok (.iload_n 1, 1) := by decide +kernel
theorem dX7_restore_1 : decode cX7_restore 1 = .ok (.ifCond .lt 8, 3) := by decide +kernel
theorem dX7_restore_4 : decode cX7_restore 4 = .ok (.iload_n 1, 1) := by decide +kernel
theorem dX7_restore_5 : decode cX7_restore 5 = .ok (.iconst 2, 1) := by decide +kernel
theorem dX7_restore_6 : decode cX7_restore 6 = .ok (.if_icmp .lt 6, 3) := by decide +kernel
theorem dX7_restore_9 : decode cX7_restore 9 = .ok (.bipush (-2), 2) := by decide +kernel
theorem dX7_restore_11 : decode cX7_restore 11 = .ok (.ireturn, 1) := by decide +kernel
theorem dX7_restore_12 : decode cX7_restore 12 = .ok (.aload_n 0, 1) := by decide +kernel
theorem dX7_restore_13 : decode cX7_restore 13 = .ok (.getfield 34, 3) := by decide +kernel
theorem dX7_restore_16 : decode cX7_restore 16 = .ok (.iload_n 1, 1) := by decide +kernel
theorem dX7_restore_17 : decode cX7_restore 17 = .ok (.baload, 1) := by decide +kernel
theorem dX7_restore_18 : decode cX7_restore 18 = .ok (.ifCond .ne 6, 3) := by decide +kernel
theorem dX7_restore_21 : decode cX7_restore 21 = .ok (.bipush (-5), 2) := by decide +kernel
theorem dX7_restore_23 : decode cX7_restore 23 = .ok (.ireturn, 1) := by decide +kernel
theorem dX7_restore_24 : decode cX7_restore 24 = .ok (.aload_n 0, 1) := by decide +kernel
theorem dX7_restore_25 : decode cX7_restore 25 = .ok (.getfield 26, 3) := by decide +kernel
theorem dX7_restore_28 : decode cX7_restore 28 = .ok (.aload_n 0, 1) := by decide +kernel
theorem dX7_restore_29 : decode cX7_restore 29 = .ok (.getfield 12, 3) := by decide +kernel
theorem dX7_restore_32 : decode cX7_restore 32 = .ok (.invokevirtual 49, 3) := by decide +kernel
theorem dX7_restore_35 : decode cX7_restore 35 = .ok (.aload_n 0, 1) := by decide +kernel
theorem dX7_restore_36 : decode cX7_restore 36 = .ok (.getfield 12, 3) := by decide +kernel
theorem dX7_restore_39 : decode cX7_restore 39 = .ok (.aload_n 0, 1) := by decide +kernel
theorem dX7_restore_40 : decode cX7_restore 40 = .ok (.getfield 30, 3) := by decide +kernel
theorem dX7_restore_43 : decode cX7_restore 43 = .ok (.iload_n 1, 1) := by decide +kernel
theorem dX7_restore_44 : decode cX7_restore 44 = .ok (.aaload, 1) := by decide +kernel
theorem dX7_restore_45 : decode cX7_restore 45 = .ok (.invokevirtual 195, 3) := by decide +kernel
theorem dX7_restore_48 : decode cX7_restore 48 = .ok (.aload_n 0, 1) := by decide +kernel
theorem dX7_restore_49 : decode cX7_restore 49 = .ok (.getfield 26, 3) := by decide +kernel
theorem dX7_restore_52 : decode cX7_restore 52 = .ok (.aload_n 0, 1) := by decide +kernel
theorem dX7_restore_53 : decode cX7_restore 53 = .ok (.getfield 12, 3) := by decide +kernel
theorem dX7_restore_56 : decode cX7_restore 56 = .ok (.getfield 135, 3) := by decide +kernel
theorem dX7_restore_59 : decode cX7_restore 59 = .ok (.invokevirtual 57, 3) := by decide +kernel
theorem dX7_restore_62 : decode cX7_restore 62 = .ok (.ireturn, 1) := by decide +kernel
theorem dX8_init_0 : decode cX8_init 0 = .ok (.aload_n 0, 1) := by decide +kernel
theorem dX8_init_1 : decode cX8_init 1 = .ok (.invokespecial 1, 3) := by decide +kernel
theorem dX8_init_4 : decode cX8_init 4 = .ok (.aload_n 0, 1) := by decide +kernel
theorem dX8_init_5 : decode cX8_init 5 = .ok (.sipush 560, 3) := by decide +kernel
theorem dX8_init_8 : decode cX8_init 8 = .ok (.newarray .int, 2) := by decide +kernel
theorem dX8_init_10 : decode cX8_init 10 = .ok (.putfield 7, 3) := by decide +kernel
theorem dX8_init_13 : decode cX8_init 13 = .ok (.aload_n 0, 1) := by decide +kernel
theorem dX8_init_14 : decode cX8_init 14 = .ok (.sipush 560, 3) := by decide +kernel
theorem dX8_init_17 : decode cX8_init 17 = .ok (.newarray .int, 2) := by decide +kernel
theorem dX8_init_19 : decode cX8_init 19 = .ok (.putfield 13, 3) := by decide +kernel
theorem dX8_init_22 : decode cX8_init 22 = .ok (.aload_n 0, 1) := by decide +kernel
theorem dX8_init_23 : decode cX8_init 23 = .ok (.sipush 560, 3) := by decide +kernel
theorem dX8_init_26 : decode cX8_init 26 = .ok (.newarray .int, 2) := by decide +kernel
theorem dX8_init_28 : decode cX8_init 28 = .ok (.putfield 16, 3) := by decide +kernel
theorem dX8_init_31 : decode cX8_init 31 = .ok (.aload_n 0, 1) := by decide +kernel
theorem dX8_init_32 : decode cX8_init 32 = .ok (.sipush 3360, 3) := by decide +kernel
theorem dX8_init_35 : decode cX8_init 35 = .ok (.newarray .int, 2) := by decide +kernel
theorem dX8_init_37 : decode cX8_init 37 = .ok (.putfield 19, 3) := by decide +kernel
theorem dX8_init_40 : decode cX8_init 40 = .ok (.aload_n 0, 1) := by decide +kernel
theorem dX8_init_41 : decode cX8_init 41 = .ok (.sipush 1120, 3) := by decide +kernel
theorem dX8_init_44 : decode cX8_init 44 = .ok (.newarray .int, 2) := by decide +kernel
theorem dX8_init_46 : decode cX8_init 46 = .ok (.putfield 22, 3) := by decide +kernel
theorem dX8_init_49 : decode cX8_init 49 = .ok (.aload_n 0, 1) := by decide +kernel
theorem dX8_init_50 : decode cX8_init 50 = .ok (.iconst 2, 1) := by decide +kernel
theorem dX8_init_51 : decode cX8_init 51 = .ok (.newarray .boolean, 2) := by decide +kernel
theorem dX8_init_53 : decode cX8_init 53 = .ok (.putfield 25, 3) := by decide +kernel
theorem dX8_init_56 : decode cX8_init 56 = .ok (.aload_n 0, 1) := by decide +kernel
theorem dX8_init_57 : decode cX8_init 57 = .ok (.bipush 80, 2) := by decide +kernel
theorem dX8_init_59 : decode cX8_init 59 = .ok (.newarray .int, 2) := by decide +kernel
theorem dX8_init_61 : decode cX8_init 61 = .ok (.putfield 29, 3) := by decide +kernel
theorem dX8_init_64 : decode cX8_init 64 = .ok (.aload_n 0, 1) := by decide +kernel
theorem dX8_init_65 : decode cX8_init 65 = .ok (.bipush 8, 2) := by decide +kernel
theorem dX8_init_67 : decode cX8_init 67 = .ok (.newarray .int, 2) := by decide +kernel
theorem dX8_init_69 : decode cX8_init 69 = .ok (.putfield 32, 3) := by decide +kernel
theorem dX8_init_72 : decode cX8_init 72 = .ok (.aload_n 0, 1) := by decide +kernel
theorem dX8_init_73 : decode cX8_init 73 = .ok (.bipush 8, 2) := by decide +kernel
theorem dX8_init_75 : decode cX8_init 75 = .ok (.newarray .int, 2) := by decide +kernel
theorem dX8_init_77 : decode cX8_init 77 = .ok (.putfield 35, 3) := by decide +kernel
theorem dX8_init_80 : decode cX8_init 80 = .ok (.aload_n 0, 1) := by decide +kernel
theorem dX8_init_81 : decode cX8_init 81 = .ok (.bipush 8, 2) := by decide +kernel
theorem dX8_init_83 : decode cX8_init 83 = .ok (.newarray .int, 2) := by decide +kernel
theorem dX8_init_85 : decode cX8_init 85 = .ok (.putfield 38, 3) := by decide +kernel
theorem dX8_init_88 : decode cX8_init 88 = .ok (.aload_n 0, 1) := by decide +kernel
theorem dX8_init_89 : decode cX8_init 89 = .ok (.bipush 8, 2) := by decide +kernel
theorem dX8_init_91 : decode cX8_init 91 = .ok (.newarray .int, 2) := by decide +kernel
theorem dX8_init_93 : decode cX8_init 93 = .ok (.putfield 41, 3) := by decide +kernel
theorem dX8_init_96 : decode cX8_init 96 = .ok (.aload_n 0, 1) := by decide +kernel
theorem dX8_init_97 : decode cX8_init 97 = .ok (.sipush 240, 3) := by decide +kernel
theorem dX8_init_100 : decode cX8_init 100 = .ok (.newarray .int, 2) := by decide +kernel
theorem dX8_init_102 : decode cX8_init 102 = .ok (.putfield 44, 3) := by decide +kernel
theorem dX8_init_105 : decode cX8_init 105 = .ok (.aload_n 0, 1) := by decide +kernel
theorem dX8_init_106 : decode cX8_init 106 = .ok (.getfield 7, 3) := by decide +kernel
theorem dX8_init_109 : decode cX8_init 109 = .ok (.iconst 0, 1) := by decide +kernel
theorem dX8_init_110 : decode cX8_init 110 = .ok (.bipush 16, 2) := by decide +kernel
theorem dX8_init_112 : decode cX8_init 112 = .ok (.iastore, 1) := by decide +kernel
theorem dX8_init_113 : decode cX8_init 113 = .ok (.aload_n 0, 1) := by decide +kernel
theorem dX8_init_114 : decode cX8_init 114 = .ok (.getfield 7, 3) := by decide +kernel
theorem dX8_init_117 : decode cX8_init 117 = .ok (.iconst 1, 1) := by decide +kernel
theorem dX8_init_118 : decode cX8_init 118 = .ok (.bipush 12, 2) := by decide +kernel
theorem dX8_init_120 : decode cX8_init 120 = .ok (.iastore, 1) := by decide +kernel
theorem dX8_init_121 : decode cX8_init 121 = .ok (.aload_n 0, 1) := by decide +kernel
theorem dX8_init_122 : decode cX8_init 122 = .ok (.getfield 7, 3) := by decide +kernel
theorem dX8_init_125 : decode cX8_init 125 = .ok (.iconst 2, 1) := by decide +kernel
theorem dX8_init_126 : decode cX8_init 126 = .ok (.iconst 4, 1) := by decide +kernel
theorem dX8_init_127 : decode cX8_init 127 = .ok (.iastore, 1) := by decide +kernel
theorem dX8_init_128 : decode cX8_init 128 = .ok (.aload_n 0, 1) := by decide +kernel
theorem dX8_init_129 : decode cX8_init 129 = .ok (.getfield 7, 3) := by decide +kernel
theorem dX8_init_132 : decode cX8_init 132 = .ok (.iconst 3, 1) := by decide +kernel
theorem dX8_init_133 : decode cX8_init 133 = .ok (.iconst 1, 1) := by decide +kernel
theorem dX8_init_134 : decode cX8_init 134 = .ok (.iastore, 1) := by decide +kernel
theorem dX8_init_135 : decode cX8_init 135 = .ok (.aload_n 0, 1) := by decide +kernel
theorem dX8_init_136 : decode cX8_init 136 = .ok (.getfield 7, 3) := by decide +kernel
theorem dX8_init_139 : decode cX8_init 139 = .ok (.iconst 4, 1) := by decide +kernel
theorem dX8_init_140 : decode cX8_init 140 = .ok (.bipush 9, 2) := by decide +kernel
theorem dX8_init_142 : decode cX8_init 142 = .ok (.iastore, 1) := by decide +kernel
theorem dX8_init_143 : decode cX8_init 143 = .ok (.aload_n 0, 1) := by decide +kernel
theorem dX8_init_144 : decode cX8_init 144 = .ok (.getfield 7, 3) := by decide +kernel
theorem dX8_init_147 : decode cX8_init 147 = .ok (.iconst 5, 1) := by decide +kernel
theorem dX8_init_148 : decode cX8_init 148 = .ok (.bipush 20, 2) := by decide +kernel
theorem dX8_init_150 : decode cX8_init 150 = .ok (.iastore, 1) := by decide +kernel
theorem dX8_init_151 : decode cX8_init 151 = .ok (.return_, 1) := by decide +kernel
theorem dX8_in_0 : decode cX8_in 0 = .ok (.iload_n 0, 1) := by decide +kernel
theorem dX8_in_1 : decode cX8_in 1 = .ok (.iload_n 1, 1) := by decide +kernel
theorem dX8_in_2 : decode cX8_in 2 = .ok (.if_icmp .lt 12, 3) := by decide +kernel
theorem dX8_in_5 : decode cX8_in 5 = .ok (.iload_n 0, 1) := by decide +kernel
theorem dX8_in_6 : decode cX8_in 6 = .ok (.iload_n 2, 1) := by decide +kernel
theorem dX8_in_7 : decode cX8_in 7 = .ok (.if_icmp .gt 7, 3) := by decide +kernel
theorem dX8_in_10 : decode cX8_in 10 = .ok (.iconst 1, 1) := by decide +kernel
theorem dX8_in_11 : decode cX8_in 11 = .ok (.goto 4, 3) := by decide +kernel
theorem dX8_in_14 : decode cX8_in 14 = .ok (.iconst 0, 1) := by decide +kernel
theorem dX8_in_15 : decode cX8_in 15 = .ok (.ireturn, 1) := by decide +kernel
theorem dX8_record_0 : decode cX8_record 0 = .ok (.aload_n 0, 1) := by decide +kernel
theorem dX8_record_1 : decode cX8_record 1 = .ok (.getfield 47, 3) := by decide +kernel
theorem dX8_record_4 : decode cX8_record 4 = .ok (.ifCond .eq 4, 3) := by decide +kernel
theorem dX8_record_7 : decode cX8_record 7 = .ok (.return_, 1) := by decide +kernel
theorem dX8_record_8 : decode cX8_record 8 = .ok (.aload_n 0, 1) := by decide +kernel
theorem dX8_record_9 : decode cX8_record 9 = .ok (.getfield 51, 3) := by decide +kernel
theorem dX8_record_12 : decode cX8_record 12 = .ok (.bipush 6, 2) := by decide +kernel
theorem dX8_record_14 : decode cX8_record 14 = .ok (.if_icmp .ne 39, 3) := by decide +kernel
theorem dX8_record_17 : decode cX8_record 17 = .ok (.iconst 0, 1) := by decide +kernel
theorem dX8_record_18 : decode cX8_record 18 = .ok (.istore_n 1, 1) := by decide +kernel
theorem dX8_record_19 : decode cX8_record 19 = .ok (.iload_n 1, 1) := by decide +kernel
theorem dX8_record_20 : decode cX8_record 20 = .ok (.sipush 2800, 3) := by decide +kernel
theorem dX8_record_23 : decode cX8_record 23 = .ok (.if_icmp .ge 25, 3) := by decide +kernel
theorem dX8_record_26 : decode cX8_record 26 = .ok (.aload_n 0, 1) := by decide +kernel
theorem dX8_record_27 : decode cX8_record 27 = .ok (.getfield 19, 3) := by decide +kernel
theorem dX8_record_30 : decode cX8_record 30 = .ok (.iload_n 1, 1) := by decide +kernel
theorem dX8_record_31 : decode cX8_record 31 = .ok (.aload_n 0, 1) := by decide +kernel
theorem dX8_record_32 : decode cX8_record 32 = .ok (.getfield 19, 3) := by decide +kernel
theorem dX8_record_35 : decode cX8_record 35 = .ok (.iload_n 1, 1) := by decide +kernel
theorem dX8_record_36 : decode cX8_record 36 = .ok (.sipush 560, 3) := by decide +kernel
theorem dX8_record_39 : decode cX8_record 39 = .ok (.iadd, 1) := by decide +kernel
theorem dX8_record_40 : decode cX8_record 40 = .ok (.iaload, 1) := by decide +kernel
theorem dX8_record_41 : decode cX8_record 41 = .ok (.iastore, 1) := by decide +kernel
theorem dX8_record_42 : decode cX8_record 42 = .ok (.iinc 1 1, 3) := by decide +kernel
theorem dX8_record_45 : decode cX8_record 45 = .ok (.goto (-26), 3) := by decide +kernel
theorem dX8_record_48 : decode cX8_record 48 = .ok (.aload_n 0, 1) := by decide +kernel
theorem dX8_record_49 : decode cX8_record 49 = .ok (.iconst 5, 1) := by decide +kernel
theorem dX8_record_50 : decode cX8_record 50 = .ok (.putfield 51, 3) := by decide +kernel
theorem dX8_record_53 : decode cX8_record 53 = .ok (.iconst 0, 1) := by decide +kernel
theorem dX8_record_54 : decode cX8_record 54 = .ok (.istore_n 1, 1) := by decide +kernel
theorem dX8_record_55 : decode cX8_record 55 = .ok (.iload_n 1, 1) := by decide +kernel
theorem dX8_record_56 : decode cX8_record 56 = .ok (.sipush 560, 3) := by decide +kernel
theorem dX8_record_59 : decode cX8_record 59 = .ok (.if_icmp .ge 30, 3) := by decide +kernel
theorem dX8_record_62 : decode cX8_record 62 = .ok (.aload_n 0, 1) := by decide +kernel
theorem dX8_record_63 : decode cX8_record 63 = .ok (.getfield 19, 3) := by decide +kernel
theorem dX8_record_66 : decode cX8_record 66 = .ok (.aload_n 0, 1) := by decide +kernel
theorem dX8_record_67 : decode cX8_record 67 = .ok (.getfield 51, 3) := by decide +kernel
theorem dX8_record_70 : decode cX8_record 70 = .ok (.sipush 560, 3) := by decide +kernel
theorem dX8_record_73 : decode cX8_record 73 = .ok (.imul, 1) := by decide +kernel
theorem dX8_record_74 : decode cX8_record 74 = .ok (.iload_n 1, 1) := by decide +kernel
theorem dX8_record_75 : decode cX8_record 75 = .ok (.iadd, 1) := by decide +kernel
theorem dX8_record_76 : decode cX8_record 76 = .ok (.aload_n 0, 1) := by decide +kernel
theorem dX8_record_77 : decode cX8_record 77 = .ok (.getfield 7, 3) := by decide +kernel
theorem dX8_record_80 : decode cX8_record 80 = .ok (.iload_n 1, 1) := by decide +kernel
theorem dX8_record_81 : decode cX8_record 81 = .ok (.iaload, 1) := by decide +kernel
theorem dX8_record_82 : decode cX8_record 82 = .ok (.iastore, 1) := by decide +kernel
theorem dX8_record_83 : decode cX8_record 83 = .ok (.iinc 1 1, 3) := by decide +kernel
theorem dX8_record_86 : decode cX8_record 86 = .ok (.goto (-31), 3) := by decide +kernel
theorem dX8_record_89 : decode cX8_record 89 = .ok (.aload_n 0, 1) := by decide +kernel
theorem dX8_record_90 : decode cX8_record 90 = .ok (.dup, 1) := by decide +kernel
theorem dX8_record_91 : decode cX8_record 91 = .ok (.getfield 51, 3) := by decide +kernel
theorem dX8_record_94 : decode cX8_record 94 = .ok (.iconst 1, 1) := by decide +kernel
theorem dX8_record_95 : decode cX8_record 95 = .ok (.iadd, 1) := by decide +kernel
theorem dX8_record_96 : decode cX8_record 96 = .ok (.putfield 51, 3) := by decide +kernel
theorem dX8_record_99 : decode cX8_record 99 = .ok (.return_, 1) := by decide +kernel
theorem dX8_least_0 : decode cX8_least 0 = .ok (.iload_n 0, 1) := by decide +kernel
theorem dX8_least_1 : decode cX8_least 1 = .ok (.tableswitch 41 0 4 #[35, 37, 39, 41, 39], 35) := by decide +kernel
theorem dX8_least_36 : decode cX8_least 36 = .ok (.iconst 4, 1) := by decide +kernel
theorem dX8_least_37 : decode cX8_least 37 = .ok (.ireturn, 1) := by decide +kernel
theorem dX8_least_38 : decode cX8_least 38 = .ok (.iconst 2, 1) := by decide +kernel
theorem dX8_least_39 : decode cX8_least 39 = .ok (.ireturn, 1) := by decide +kernel
theorem dX8_least_40 : decode cX8_least 40 = .ok (.iconst 1, 1) := by decide +kernel
theorem dX8_least_41 : decode cX8_least 41 = .ok (.ireturn, 1) := by decide +kernel
theorem dX8_least_42 : decode cX8_least 42 = .ok (.iconst 0, 1) := by decide +kernel
theorem dX8_least_43 : decode cX8_least 43 = .ok (.ireturn, 1) := by decide +kernel
theorem dX8_most_0 : decode cX8_most 0 = .ok (.iload_n 0, 1) := by decide +kernel
theorem dX8_most_1 : decode cX8_most 1 = .ok (.tableswitch 41 2 5 #[31, 34, 41, 37], 31) := by decide +kernel
theorem dX8_most_32 : decode cX8_most 32 = .ok (.bipush 20, 2) := by decide +kernel
theorem dX8_most_34 : decode cX8_most 34 = .ok (.ireturn, 1) := by decide +kernel
theorem dX8_most_35 : decode cX8_most 35 = .ok (.bipush 10, 2) := by decide +kernel
theorem dX8_most_37 : decode cX8_most 37 = .ok (.ireturn, 1) := by decide +kernel
theorem dX8_most_38 : decode cX8_most 38 = .ok (.sipush 1000, 3) := by decide +kernel
theorem dX8_most_41 : decode cX8_most 41 = .ok (.ireturn, 1) := by decide +kernel
theorem dX8_most_42 : decode cX8_most 42 = .ok (.bipush 60, 2) := by decide +kernel
theorem dX8_most_44 : decode cX8_most 44 = .ok (.ireturn, 1) := by decide +kernel
theorem dX8_set_0 : decode cX8_set 0 = .ok (.iload_n 1, 1) := by decide +kernel
theorem dX8_set_1 : decode cX8_set 1 = .ok (.iconst 0, 1) := by decide +kernel
theorem dX8_set_2 : decode cX8_set 2 = .ok (.iconst 5, 1) := by decide +kernel
theorem dX8_set_3 : decode cX8_set 3 = .ok (.invokestatic 55, 3) := by decide +kernel
theorem dX8_set_6 : decode cX8_set 6 = .ok (.ifCond .eq 18, 3) := by decide +kernel
theorem dX8_set_9 : decode cX8_set 9 = .ok (.iload_n 2, 1) := by decide +kernel
theorem dX8_set_10 : decode cX8_set 10 = .ok (.iload_n 1, 1) := by decide +kernel
theorem dX8_set_11 : decode cX8_set 11 = .ok (.invokestatic 59, 3) := by decide +kernel
theorem dX8_set_14 : decode cX8_set 14 = .ok (.iload_n 1, 1) := by decide +kernel
theorem dX8_set_15 : decode cX8_set 15 = .ok (.invokestatic 63, 3) := by decide +kernel
theorem dX8_set_18 : decode cX8_set 18 = .ok (.invokestatic 55, 3) := by decide +kernel
theorem dX8_set_21 : decode cX8_set 21 = .ok (.ifCond .ne 6, 3) := by decide +kernel
theorem dX8_set_24 : decode cX8_set 24 = .ok (.bipush (-2), 2) := by decide +kernel
theorem dX8_set_26 : decode cX8_set 26 = .ok (.ireturn, 1) := by decide +kernel
theorem dX8_set_27 : decode cX8_set 27 = .ok (.aload_n 0, 1) := by decide +kernel
theorem dX8_set_28 : decode cX8_set 28 = .ok (.invokevirtual 66, 3) := by decide +kernel
theorem dX8_set_31 : decode cX8_set 31 = .ok (.aload_n 0, 1) := by decide +kernel
theorem dX8_set_32 : decode cX8_set 32 = .ok (.getfield 7, 3) := by decide +kernel
theorem dX8_set_35 : decode cX8_set 35 = .ok (.iload_n 1, 1) := by decide +kernel
theorem dX8_set_36 : decode cX8_set 36 = .ok (.iaload, 1) := by decide +kernel
theorem dX8_set_37 : decode cX8_set 37 = .ok (.istore_n 3, 1) := by decide +kernel
theorem dX8_set_38 : decode cX8_set 38 = .ok (.aload_n 0, 1) := by decide +kernel
theorem dX8_set_39 : decode cX8_set 39 = .ok (.getfield 7, 3) := by decide +kernel
theorem dX8_set_42 : decode cX8_set 42 = .ok (.iload_n 1, 1) := by decide +kernel
theorem dX8_set_43 : decode cX8_set 43 = .ok (.iload_n 2, 1) := by decide +kernel
theorem dX8_set_44 : decode cX8_set 44 = .ok (.iastore, 1) := by decide +kernel
theorem dX8_set_45 : decode cX8_set 45 = .ok (.iload_n 3, 1) := by decide +kernel
theorem dX8_set_46 : decode cX8_set 46 = .ok (.ireturn, 1) := by decide +kernel
theorem dX8_track_0 : decode cX8_track 0 = .ok (.iload_n 1, 1) := by decide +kernel
theorem dX8_track_1 : decode cX8_track 1 = .ok (.iconst 4, 1) := by decide +kernel
theorem dX8_track_2 : decode cX8_track 2 = .ok (.bipush 60, 2) := by decide +kernel
theorem dX8_track_4 : decode cX8_track 4 = .ok (.invokestatic 55, 3) := by decide +kernel
theorem dX8_track_7 : decode cX8_track 7 = .ok (.ifCond .ne 6, 3) := by decide +kernel
theorem dX8_track_10 : decode cX8_track 10 = .ok (.bipush (-2), 2) := by decide +kernel
theorem dX8_track_12 : decode cX8_track 12 = .ok (.ireturn, 1) := by decide +kernel
theorem dX8_track_13 : decode cX8_track 13 = .ok (.aload_n 0, 1) := by decide +kernel
theorem dX8_track_14 : decode cX8_track 14 = .ok (.getfield 7, 3) := by decide +kernel
theorem dX8_track_17 : decode cX8_track 17 = .ok (.bipush 7, 2) := by decide +kernel
theorem dX8_track_19 : decode cX8_track 19 = .ok (.iaload, 1) := by decide +kernel
theorem dX8_track_20 : decode cX8_track 20 = .ok (.bipush 8, 2) := by decide +kernel
theorem dX8_track_22 : decode cX8_track 22 = .ok (.if_icmp .ne 6, 3) := by decide +kernel
theorem dX8_track_25 : decode cX8_track 25 = .ok (.bipush (-4), 2) := by decide +kernel
theorem dX8_track_27 : decode cX8_track 27 = .ok (.ireturn, 1) := by decide +kernel
theorem dX8_track_28 : decode cX8_track 28 = .ok (.aload_n 0, 1) := by decide +kernel
theorem dX8_track_29 : decode cX8_track 29 = .ok (.invokevirtual 66, 3) := by decide +kernel
theorem dX8_track_32 : decode cX8_track 32 = .ok (.aload_n 0, 1) := by decide +kernel
theorem dX8_track_33 : decode cX8_track 33 = .ok (.getfield 7, 3) := by decide +kernel
theorem dX8_track_36 : decode cX8_track 36 = .ok (.bipush 20, 2) := by decide +kernel
theorem dX8_track_38 : decode cX8_track 38 = .ok (.iconst 4, 1) := by decide +kernel
theorem dX8_track_39 : decode cX8_track 39 = .ok (.aload_n 0, 1) := by decide +kernel
theorem dX8_track_40 : decode cX8_track 40 = .ok (.getfield 7, 3) := by decide +kernel
theorem dX8_track_43 : decode cX8_track 43 = .ok (.bipush 7, 2) := by decide +kernel
theorem dX8_track_45 : decode cX8_track 45 = .ok (.iaload, 1) := by decide +kernel
theorem dX8_track_46 : decode cX8_track 46 = .ok (.imul, 1) := by decide +kernel
theorem dX8_track_47 : decode cX8_track 47 = .ok (.iadd, 1) := by decide +kernel
theorem dX8_track_48 : decode cX8_track 48 = .ok (.iload_n 1, 1) := by decide +kernel
theorem dX8_track_49 : decode cX8_track 49 = .ok (.iastore, 1) := by decide +kernel
theorem dX8_track_50 : decode cX8_track 50 = .ok (.aload_n 0, 1) := by decide +kernel
theorem dX8_track_51 : decode cX8_track 51 = .ok (.getfield 7, 3) := by decide +kernel
theorem dX8_track_54 : decode cX8_track 54 = .ok (.bipush 7, 2) := by decide +kernel
theorem dX8_track_56 : decode cX8_track 56 = .ok (.dup2, 1) := by decide +kernel
theorem dX8_track_57 : decode cX8_track 57 = .ok (.iaload, 1) := by decide +kernel
theorem dX8_track_58 : decode cX8_track 58 = .ok (.iconst 1, 1) := by decide +kernel
theorem dX8_track_59 : decode cX8_track 59 = .ok (.iadd, 1) := by decide +kernel
theorem dX8_track_60 : decode cX8_track 60 = .ok (.iastore, 1) := by decide +kernel
theorem dX8_track_61 : decode cX8_track 61 = .ok (.aload_n 0, 1) := by decide +kernel
theorem dX8_track_62 : decode cX8_track 62 = .ok (.getfield 7, 3) := by decide +kernel
theorem dX8_track_65 : decode cX8_track 65 = .ok (.bipush 7, 2) := by decide +kernel
theorem dX8_track_67 : decode cX8_track 67 = .ok (.iaload, 1) := by decide +kernel
theorem dX8_track_68 : decode cX8_track 68 = .ok (.iconst 1, 1) := by decide +kernel
theorem dX8_track_69 : decode cX8_track 69 = .ok (.isub, 1) := by decide +kernel
theorem dX8_track_70 : decode cX8_track 70 = .ok (.ireturn, 1) := by decide +kernel
theorem dX8_isTrack_0 : decode cX8_isTrack 0 = .ok (.iload_n 1, 1) := by decide +kernel
theorem dX8_isTrack_1 : decode cX8_isTrack 1 = .ok (.iconst 0, 1) := by decide +kernel
theorem dX8_isTrack_2 : decode cX8_isTrack 2 = .ok (.aload_n 0, 1) := by decide +kernel
theorem dX8_isTrack_3 : decode cX8_isTrack 3 = .ok (.getfield 7, 3) := by decide +kernel
theorem dX8_isTrack_6 : decode cX8_isTrack 6 = .ok (.bipush 7, 2) := by decide +kernel
theorem dX8_isTrack_8 : decode cX8_isTrack 8 = .ok (.iaload, 1) := by decide +kernel
theorem dX8_isTrack_9 : decode cX8_isTrack 9 = .ok (.iconst 1, 1) := by decide +kernel
theorem dX8_isTrack_10 : decode cX8_isTrack 10 = .ok (.isub, 1) := by decide +kernel
theorem dX8_isTrack_11 : decode cX8_isTrack 11 = .ok (.invokestatic 55, 3) := by decide +kernel
theorem dX8_isTrack_14 : decode cX8_isTrack 14 = .ok (.ireturn, 1) := by decide +kernel
theorem dX8_isWagon_0 : decode cX8_isWagon 0 = .ok (.iload_n 1, 1) := by decide +kernel
theorem dX8_isWagon_1 : decode cX8_isWagon 1 = .ok (.iconst 0, 1) := by decide +kernel
theorem dX8_isWagon_2 : decode cX8_isWagon 2 = .ok (.aload_n 0, 1) := by decide +kernel
theorem dX8_isWagon_3 : decode cX8_isWagon 3 = .ok (.getfield 7, 3) := by decide +kernel
theorem dX8_isWagon_6 : decode cX8_isWagon 6 = .ok (.bipush 8, 2) := by decide +kernel
theorem dX8_isWagon_8 : decode cX8_isWagon 8 = .ok (.iaload, 1) := by decide +kernel
theorem dX8_isWagon_9 : decode cX8_isWagon 9 = .ok (.iconst 1, 1) := by decide +kernel
theorem dX8_isWagon_10 : decode cX8_isWagon 10 = .ok (.isub, 1) := by decide +kernel
theorem dX8_isWagon_11 : decode cX8_isWagon 11 = .ok (.invokestatic 55, 3) := by decide +kernel
theorem dX8_isWagon_14 : decode cX8_isWagon 14 = .ok (.ireturn, 1) := by decide +kernel
theorem dX8_manyOn_0 : decode cX8_manyOn 0 = .ok (.aload_n 0, 1) := by decide +kernel
theorem dX8_manyOn_1 : decode cX8_manyOn 1 = .ok (.getfield 7, 3) := by decide +kernel
theorem dX8_manyOn_4 : decode cX8_manyOn 4 = .ok (.bipush 20, 2) := by decide +kernel
theorem dX8_manyOn_6 : decode cX8_manyOn 6 = .ok (.iconst 4, 1) := by decide +kernel
theorem dX8_manyOn_7 : decode cX8_manyOn 7 = .ok (.iload_n 1, 1) := by decide +kernel
theorem dX8_manyOn_8 : decode cX8_manyOn 8 = .ok (.imul, 1) := by decide +kernel
theorem dX8_manyOn_9 : decode cX8_manyOn 9 = .ok (.iadd, 1) := by decide +kernel
theorem dX8_manyOn_10 : decode cX8_manyOn 10 = .ok (.iconst 1, 1) := by decide +kernel
theorem dX8_manyOn_11 : decode cX8_manyOn 11 = .ok (.iadd, 1) := by decide +kernel
theorem dX8_manyOn_12 : decode cX8_manyOn 12 = .ok (.iaload, 1) := by decide +kernel
theorem dX8_manyOn_13 : decode cX8_manyOn 13 = .ok (.ireturn, 1) := by decide +kernel
theorem dX8_lengthOf_0 : decode cX8_lengthOf 0 = .ok (.aload_n 0, 1) := by decide +kernel
theorem dX8_lengthOf_1 : decode cX8_lengthOf 1 = .ok (.getfield 7, 3) := by decide +kernel
theorem dX8_lengthOf_4 : decode cX8_lengthOf 4 = .ok (.sipush 330, 3) := by decide +kernel
theorem dX8_lengthOf_7 : decode cX8_lengthOf 7 = .ok (.iconst 4, 1) := by decide +kernel
theorem dX8_lengthOf_8 : decode cX8_lengthOf 8 = .ok (.iload_n 1, 1) := by decide +kernel
theorem dX8_lengthOf_9 : decode cX8_lengthOf 9 = .ok (.imul, 1) := by decide +kernel
theorem dX8_lengthOf_10 : decode cX8_lengthOf 10 = .ok (.iadd, 1) := by decide +kernel
theorem dX8_lengthOf_11 : decode cX8_lengthOf 11 = .ok (.iaload, 1) := by decide +kernel
theorem dX8_lengthOf_12 : decode cX8_lengthOf 12 = .ok (.ireturn, 1) := by decide +kernel
theorem dX8_lengths_0 : decode cX8_lengths 0 = .ok (.iconst 0, 1) := by decide +kernel
theorem dX8_lengths_1 : decode cX8_lengths 1 = .ok (.istore_n 3, 1) := by decide +kernel
theorem dX8_lengths_2 : decode cX8_lengths 2 = .ok (.iconst 0, 1) := by decide +kernel
theorem dX8_lengths_3 : decode cX8_lengths 3 = .ok (.istore 4, 2) := by decide +kernel
theorem dX8_lengths_5 : decode cX8_lengths 5 = .ok (.iload 4, 2) := by decide +kernel
theorem dX8_lengths_7 : decode cX8_lengths 7 = .ok (.iload_n 2, 1) := by decide +kernel
theorem dX8_lengths_8 : decode cX8_lengths 8 = .ok (.if_icmp .ge 25, 3) := by decide +kernel
theorem dX8_lengths_11 : decode cX8_lengths 11 = .ok (.iload_n 3, 1) := by decide +kernel
theorem dX8_lengths_12 : decode cX8_lengths 12 = .ok (.aload_n 0, 1) := by decide +kernel
theorem dX8_lengths_13 : decode cX8_lengths 13 = .ok (.aload_n 0, 1) := by decide +kernel
theorem dX8_lengths_14 : decode cX8_lengths 14 = .ok (.getfield 7, 3) := by decide +kernel
theorem dX8_lengths_17 : decode cX8_lengths 17 = .ok (.iload_n 1, 1) := by decide +kernel
end
section
theorem dX8_lengths_18 : decode cX8_lengths 18 = .ok (.iload 4, 2) := by decide +kernel
theorem dX8_lengths_20 : decode cX8_lengths 20 = .ok (.iadd, 1) := by decide +kernel
theorem dX8_lengths_21 : decode cX8_lengths 21 = .ok (.iaload, 1) := by decide +kernel
theorem dX8_lengths_22 : decode cX8_lengths 22 = .ok (.invokevirtual 69, 3) := by decide +kernel
theorem dX8_lengths_25 : decode cX8_lengths 25 = .ok (.iadd, 1) := by decide +kernel
theorem dX8_lengths_26 : decode cX8_lengths 26 = .ok (.istore_n 3, 1) := by decide +kernel
theorem dX8_lengths_27 : decode cX8_lengths 27 = .ok (.iinc 4 1, 3) := by decide +kernel
theorem dX8_lengths_30 : decode cX8_lengths 30 = .ok (.goto (-25), 3) := by decide +kernel
theorem dX8_lengths_33 : decode cX8_lengths 33 = .ok (.iload_n 3, 1) := by decide +kernel
theorem dX8_lengths_34 : decode cX8_lengths 34 = .ok (.ireturn, 1) := by decide +kernel
theorem dX8_lengthOn_0 : decode cX8_lengthOn 0 = .ok (.aload_n 0, 1) := by decide +kernel
theorem dX8_lengthOn_1 : decode cX8_lengthOn 1 = .ok (.bipush 60, 2) := by decide +kernel
theorem dX8_lengthOn_3 : decode cX8_lengthOn 3 = .ok (.bipush 30, 2) := by decide +kernel
theorem dX8_lengthOn_5 : decode cX8_lengthOn 5 = .ok (.iload_n 1, 1) := by decide +kernel
theorem dX8_lengthOn_6 : decode cX8_lengthOn 6 = .ok (.imul, 1) := by decide +kernel
theorem dX8_lengthOn_7 : decode cX8_lengthOn 7 = .ok (.iadd, 1) := by decide +kernel
theorem dX8_lengthOn_8 : decode cX8_lengthOn 8 = .ok (.aload_n 0, 1) := by decide +kernel
theorem dX8_lengthOn_9 : decode cX8_lengthOn 9 = .ok (.iload_n 1, 1) := by decide +kernel
theorem dX8_lengthOn_10 : decode cX8_lengthOn 10 = .ok (.invokevirtual 72, 3) := by decide +kernel
theorem dX8_lengthOn_13 : decode cX8_lengthOn 13 = .ok (.invokevirtual 75, 3) := by decide +kernel
theorem dX8_lengthOn_16 : decode cX8_lengthOn 16 = .ok (.ireturn, 1) := by decide +kernel
theorem dX8_lengthAtEngine_0 : decode cX8_lengthAtEngine 0 = .ok (.aload_n 0, 1) := by decide +kernel
theorem dX8_lengthAtEngine_1 : decode cX8_lengthAtEngine 1 = .ok (.sipush 300, 3) := by decide +kernel
theorem dX8_lengthAtEngine_4 : decode cX8_lengthAtEngine 4 = .ok (.aload_n 0, 1) := by decide +kernel
theorem dX8_lengthAtEngine_5 : decode cX8_lengthAtEngine 5 = .ok (.getfield 7, 3) := by decide +kernel
theorem dX8_lengthAtEngine_8 : decode cX8_lengthAtEngine 8 = .ok (.bipush 9, 2) := by decide +kernel
theorem dX8_lengthAtEngine_10 : decode cX8_lengthAtEngine 10 = .ok (.iaload, 1) := by decide +kernel
theorem dX8_lengthAtEngine_11 : decode cX8_lengthAtEngine 11 = .ok (.invokevirtual 75, 3) := by decide +kernel
theorem dX8_lengthAtEngine_14 : decode cX8_lengthAtEngine 14 = .ok (.ireturn, 1) := by decide +kernel
theorem dX8_wagon_0 : decode cX8_wagon 0 = .ok (.aload_n 0, 1) := by decide +kernel
theorem dX8_wagon_1 : decode cX8_wagon 1 = .ok (.iload_n 1, 1) := by decide +kernel
theorem dX8_wagon_2 : decode cX8_wagon 2 = .ok (.invokevirtual 79, 3) := by decide +kernel
theorem dX8_wagon_5 : decode cX8_wagon 5 = .ok (.ifCond .ne 5, 3) := by decide +kernel
theorem dX8_wagon_8 : decode cX8_wagon 8 = .ok (.iconst (-1), 1) := by decide +kernel
theorem dX8_wagon_9 : decode cX8_wagon 9 = .ok (.ireturn, 1) := by decide +kernel
theorem dX8_wagon_10 : decode cX8_wagon 10 = .ok (.iload_n 2, 1) := by decide +kernel
theorem dX8_wagon_11 : decode cX8_wagon 11 = .ok (.iconst 1, 1) := by decide +kernel
theorem dX8_wagon_12 : decode cX8_wagon 12 = .ok (.iconst 4, 1) := by decide +kernel
theorem dX8_wagon_13 : decode cX8_wagon 13 = .ok (.invokestatic 55, 3) := by decide +kernel
theorem dX8_wagon_16 : decode cX8_wagon 16 = .ok (.ifCond .ne 6, 3) := by decide +kernel
theorem dX8_wagon_19 : decode cX8_wagon 19 = .ok (.bipush (-2), 2) := by decide +kernel
theorem dX8_wagon_21 : decode cX8_wagon 21 = .ok (.ireturn, 1) := by decide +kernel
theorem dX8_wagon_22 : decode cX8_wagon 22 = .ok (.aload_n 0, 1) := by decide +kernel
theorem dX8_wagon_23 : decode cX8_wagon 23 = .ok (.getfield 7, 3) := by decide +kernel
theorem dX8_wagon_26 : decode cX8_wagon 26 = .ok (.bipush 8, 2) := by decide +kernel
theorem dX8_wagon_28 : decode cX8_wagon 28 = .ok (.iaload, 1) := by decide +kernel
theorem dX8_wagon_29 : decode cX8_wagon 29 = .ok (.bipush 30, 2) := by decide +kernel
theorem dX8_wagon_31 : decode cX8_wagon 31 = .ok (.if_icmp .ne 6, 3) := by decide +kernel
theorem dX8_wagon_34 : decode cX8_wagon 34 = .ok (.bipush (-4), 2) := by decide +kernel
theorem dX8_wagon_36 : decode cX8_wagon 36 = .ok (.ireturn, 1) := by decide +kernel
theorem dX8_wagon_37 : decode cX8_wagon 37 = .ok (.aload_n 0, 1) := by decide +kernel
theorem dX8_wagon_38 : decode cX8_wagon 38 = .ok (.iload_n 1, 1) := by decide +kernel
theorem dX8_wagon_39 : decode cX8_wagon 39 = .ok (.invokevirtual 83, 3) := by decide +kernel
theorem dX8_wagon_42 : decode cX8_wagon 42 = .ok (.iload_n 2, 1) := by decide +kernel
theorem dX8_wagon_43 : decode cX8_wagon 43 = .ok (.iadd, 1) := by decide +kernel
theorem dX8_wagon_44 : decode cX8_wagon 44 = .ok (.aload_n 0, 1) := by decide +kernel
theorem dX8_wagon_45 : decode cX8_wagon 45 = .ok (.getfield 7, 3) := by decide +kernel
theorem dX8_wagon_48 : decode cX8_wagon 48 = .ok (.bipush 20, 2) := by decide +kernel
theorem dX8_wagon_50 : decode cX8_wagon 50 = .ok (.iconst 4, 1) := by decide +kernel
theorem dX8_wagon_51 : decode cX8_wagon 51 = .ok (.iload_n 1, 1) := by decide +kernel
theorem dX8_wagon_52 : decode cX8_wagon 52 = .ok (.imul, 1) := by decide +kernel
theorem dX8_wagon_53 : decode cX8_wagon 53 = .ok (.iadd, 1) := by decide +kernel
theorem dX8_wagon_54 : decode cX8_wagon 54 = .ok (.iaload, 1) := by decide +kernel
theorem dX8_wagon_55 : decode cX8_wagon 55 = .ok (.if_icmp .le 6, 3) := by decide +kernel
theorem dX8_wagon_58 : decode cX8_wagon 58 = .ok (.bipush (-5), 2) := by decide +kernel
theorem dX8_wagon_60 : decode cX8_wagon 60 = .ok (.ireturn, 1) := by decide +kernel
theorem dX8_wagon_61 : decode cX8_wagon 61 = .ok (.aload_n 0, 1) := by decide +kernel
theorem dX8_wagon_62 : decode cX8_wagon 62 = .ok (.invokevirtual 66, 3) := by decide +kernel
theorem dX8_wagon_65 : decode cX8_wagon 65 = .ok (.aload_n 0, 1) := by decide +kernel
theorem dX8_wagon_66 : decode cX8_wagon 66 = .ok (.getfield 7, 3) := by decide +kernel
theorem dX8_wagon_69 : decode cX8_wagon 69 = .ok (.bipush 8, 2) := by decide +kernel
theorem dX8_wagon_71 : decode cX8_wagon 71 = .ok (.iaload, 1) := by decide +kernel
theorem dX8_wagon_72 : decode cX8_wagon 72 = .ok (.istore_n 3, 1) := by decide +kernel
theorem dX8_wagon_73 : decode cX8_wagon 73 = .ok (.aload_n 0, 1) := by decide +kernel
theorem dX8_wagon_74 : decode cX8_wagon 74 = .ok (.getfield 7, 3) := by decide +kernel
theorem dX8_wagon_77 : decode cX8_wagon 77 = .ok (.sipush 330, 3) := by decide +kernel
theorem dX8_wagon_80 : decode cX8_wagon 80 = .ok (.iconst 4, 1) := by decide +kernel
theorem dX8_wagon_81 : decode cX8_wagon 81 = .ok (.iload_n 3, 1) := by decide +kernel
theorem dX8_wagon_82 : decode cX8_wagon 82 = .ok (.imul, 1) := by decide +kernel
theorem dX8_wagon_83 : decode cX8_wagon 83 = .ok (.iadd, 1) := by decide +kernel
theorem dX8_wagon_84 : decode cX8_wagon 84 = .ok (.iload_n 2, 1) := by decide +kernel
theorem dX8_wagon_85 : decode cX8_wagon 85 = .ok (.iastore, 1) := by decide +kernel
theorem dX8_wagon_86 : decode cX8_wagon 86 = .ok (.aload_n 0, 1) := by decide +kernel
theorem dX8_wagon_87 : decode cX8_wagon 87 = .ok (.getfield 7, 3) := by decide +kernel
theorem dX8_wagon_90 : decode cX8_wagon 90 = .ok (.sipush 330, 3) := by decide +kernel
theorem dX8_wagon_93 : decode cX8_wagon 93 = .ok (.iconst 4, 1) := by decide +kernel
theorem dX8_wagon_94 : decode cX8_wagon 94 = .ok (.iload_n 3, 1) := by decide +kernel
theorem dX8_wagon_95 : decode cX8_wagon 95 = .ok (.imul, 1) := by decide +kernel
theorem dX8_wagon_96 : decode cX8_wagon 96 = .ok (.iadd, 1) := by decide +kernel
theorem dX8_wagon_97 : decode cX8_wagon 97 = .ok (.iconst 1, 1) := by decide +kernel
theorem dX8_wagon_98 : decode cX8_wagon 98 = .ok (.iadd, 1) := by decide +kernel
theorem dX8_wagon_99 : decode cX8_wagon 99 = .ok (.bipush (-6), 2) := by decide +kernel
theorem dX8_wagon_101 : decode cX8_wagon 101 = .ok (.iastore, 1) := by decide +kernel
theorem dX8_wagon_102 : decode cX8_wagon 102 = .ok (.aload_n 0, 1) := by decide +kernel
theorem dX8_wagon_103 : decode cX8_wagon 103 = .ok (.getfield 7, 3) := by decide +kernel
theorem dX8_wagon_106 : decode cX8_wagon 106 = .ok (.bipush 8, 2) := by decide +kernel
theorem dX8_wagon_108 : decode cX8_wagon 108 = .ok (.dup2, 1) := by decide +kernel
theorem dX8_wagon_109 : decode cX8_wagon 109 = .ok (.iaload, 1) := by decide +kernel
theorem dX8_wagon_110 : decode cX8_wagon 110 = .ok (.iconst 1, 1) := by decide +kernel
theorem dX8_wagon_111 : decode cX8_wagon 111 = .ok (.iadd, 1) := by decide +kernel
theorem dX8_wagon_112 : decode cX8_wagon 112 = .ok (.iastore, 1) := by decide +kernel
theorem dX8_wagon_113 : decode cX8_wagon 113 = .ok (.bipush 60, 2) := by decide +kernel
theorem dX8_wagon_115 : decode cX8_wagon 115 = .ok (.bipush 30, 2) := by decide +kernel
theorem dX8_wagon_117 : decode cX8_wagon 117 = .ok (.iload_n 1, 1) := by decide +kernel
theorem dX8_wagon_118 : decode cX8_wagon 118 = .ok (.imul, 1) := by decide +kernel
theorem dX8_wagon_119 : decode cX8_wagon 119 = .ok (.iadd, 1) := by decide +kernel
theorem dX8_wagon_120 : decode cX8_wagon 120 = .ok (.istore 4, 2) := by decide +kernel
theorem dX8_wagon_122 : decode cX8_wagon 122 = .ok (.aload_n 0, 1) := by decide +kernel
theorem dX8_wagon_123 : decode cX8_wagon 123 = .ok (.iload_n 1, 1) := by decide +kernel
theorem dX8_wagon_124 : decode cX8_wagon 124 = .ok (.invokevirtual 72, 3) := by decide +kernel
theorem dX8_wagon_127 : decode cX8_wagon 127 = .ok (.istore 5, 2) := by decide +kernel
theorem dX8_wagon_129 : decode cX8_wagon 129 = .ok (.iload 5, 2) := by decide +kernel
theorem dX8_wagon_131 : decode cX8_wagon 131 = .ok (.ifCond .le 31, 3) := by decide +kernel
theorem dX8_wagon_134 : decode cX8_wagon 134 = .ok (.aload_n 0, 1) := by decide +kernel
theorem dX8_wagon_135 : decode cX8_wagon 135 = .ok (.getfield 7, 3) := by decide +kernel
theorem dX8_wagon_138 : decode cX8_wagon 138 = .ok (.iload 4, 2) := by decide +kernel
theorem dX8_wagon_140 : decode cX8_wagon 140 = .ok (.iload 5, 2) := by decide +kernel
theorem dX8_wagon_142 : decode cX8_wagon 142 = .ok (.iadd, 1) := by decide +kernel
theorem dX8_wagon_143 : decode cX8_wagon 143 = .ok (.aload_n 0, 1) := by decide +kernel
theorem dX8_wagon_144 : decode cX8_wagon 144 = .ok (.getfield 7, 3) := by decide +kernel
theorem dX8_wagon_147 : decode cX8_wagon 147 = .ok (.iload 4, 2) := by decide +kernel
theorem dX8_wagon_149 : decode cX8_wagon 149 = .ok (.iload 5, 2) := by decide +kernel
theorem dX8_wagon_151 : decode cX8_wagon 151 = .ok (.iadd, 1) := by decide +kernel
theorem dX8_wagon_152 : decode cX8_wagon 152 = .ok (.iconst 1, 1) := by decide +kernel
theorem dX8_wagon_153 : decode cX8_wagon 153 = .ok (.isub, 1) := by decide +kernel
theorem dX8_wagon_154 : decode cX8_wagon 154 = .ok (.iaload, 1) := by decide +kernel
theorem dX8_wagon_155 : decode cX8_wagon 155 = .ok (.iastore, 1) := by decide +kernel
theorem dX8_wagon_156 : decode cX8_wagon 156 = .ok (.iinc 5 (-1), 3) := by decide +kernel
theorem dX8_wagon_159 : decode cX8_wagon 159 = .ok (.goto (-30), 3) := by decide +kernel
theorem dX8_wagon_162 : decode cX8_wagon 162 = .ok (.aload_n 0, 1) := by decide +kernel
theorem dX8_wagon_163 : decode cX8_wagon 163 = .ok (.getfield 7, 3) := by decide +kernel
theorem dX8_wagon_166 : decode cX8_wagon 166 = .ok (.iload 4, 2) := by decide +kernel
theorem dX8_wagon_168 : decode cX8_wagon 168 = .ok (.iload_n 3, 1) := by decide +kernel
theorem dX8_wagon_169 : decode cX8_wagon 169 = .ok (.iastore, 1) := by decide +kernel
theorem dX8_wagon_170 : decode cX8_wagon 170 = .ok (.aload_n 0, 1) := by decide +kernel
theorem dX8_wagon_171 : decode cX8_wagon 171 = .ok (.getfield 7, 3) := by decide +kernel
theorem dX8_wagon_174 : decode cX8_wagon 174 = .ok (.bipush 20, 2) := by decide +kernel
theorem dX8_wagon_176 : decode cX8_wagon 176 = .ok (.iconst 4, 1) := by decide +kernel
theorem dX8_wagon_177 : decode cX8_wagon 177 = .ok (.iload_n 1, 1) := by decide +kernel
theorem dX8_wagon_178 : decode cX8_wagon 178 = .ok (.imul, 1) := by decide +kernel
theorem dX8_wagon_179 : decode cX8_wagon 179 = .ok (.iadd, 1) := by decide +kernel
theorem dX8_wagon_180 : decode cX8_wagon 180 = .ok (.iconst 1, 1) := by decide +kernel
theorem dX8_wagon_181 : decode cX8_wagon 181 = .ok (.iadd, 1) := by decide +kernel
theorem dX8_wagon_182 : decode cX8_wagon 182 = .ok (.dup2, 1) := by decide +kernel
theorem dX8_wagon_183 : decode cX8_wagon 183 = .ok (.iaload, 1) := by decide +kernel
theorem dX8_wagon_184 : decode cX8_wagon 184 = .ok (.iconst 1, 1) := by decide +kernel
theorem dX8_wagon_185 : decode cX8_wagon 185 = .ok (.iadd, 1) := by decide +kernel
theorem dX8_wagon_186 : decode cX8_wagon 186 = .ok (.iastore, 1) := by decide +kernel
theorem dX8_wagon_187 : decode cX8_wagon 187 = .ok (.iload_n 3, 1) := by decide +kernel
theorem dX8_wagon_188 : decode cX8_wagon 188 = .ok (.ireturn, 1) := by decide +kernel
theorem dX8_block_0 : decode cX8_block 0 = .ok (.iload_n 1, 1) := by decide +kernel
theorem dX8_block_1 : decode cX8_block 1 = .ok (.aload_n 0, 1) := by decide +kernel
theorem dX8_block_2 : decode cX8_block 2 = .ok (.getfield 7, 3) := by decide +kernel
theorem dX8_block_5 : decode cX8_block 5 = .ok (.bipush 6, 2) := by decide +kernel
theorem dX8_block_7 : decode cX8_block 7 = .ok (.iaload, 1) := by decide +kernel
theorem dX8_block_8 : decode cX8_block 8 = .ok (.aload_n 0, 1) := by decide +kernel
theorem dX8_block_9 : decode cX8_block 9 = .ok (.getfield 7, 3) := by decide +kernel
theorem dX8_block_12 : decode cX8_block 12 = .ok (.bipush 6, 2) := by decide +kernel
theorem dX8_block_14 : decode cX8_block 14 = .ok (.iaload, 1) := by decide +kernel
theorem dX8_block_15 : decode cX8_block 15 = .ok (.sipush 2000, 3) := by decide +kernel
theorem dX8_block_18 : decode cX8_block 18 = .ok (.iadd, 1) := by decide +kernel
theorem dX8_block_19 : decode cX8_block 19 = .ok (.invokestatic 55, 3) := by decide +kernel
theorem dX8_block_22 : decode cX8_block 22 = .ok (.ifCond .eq 14, 3) := by decide +kernel
theorem dX8_block_25 : decode cX8_block 25 = .ok (.iload_n 2, 1) := by decide +kernel
theorem dX8_block_26 : decode cX8_block 26 = .ok (.iconst 1, 1) := by decide +kernel
theorem dX8_block_27 : decode cX8_block 27 = .ok (.sipush 500, 3) := by decide +kernel
theorem dX8_block_30 : decode cX8_block 30 = .ok (.invokestatic 55, 3) := by decide +kernel
theorem dX8_block_33 : decode cX8_block 33 = .ok (.ifCond .ne 6, 3) := by decide +kernel
theorem dX8_block_36 : decode cX8_block 36 = .ok (.bipush (-2), 2) := by decide +kernel
theorem dX8_block_38 : decode cX8_block 38 = .ok (.ireturn, 1) := by decide +kernel
theorem dX8_block_39 : decode cX8_block 39 = .ok (.aload_n 0, 1) := by decide +kernel
theorem dX8_block_40 : decode cX8_block 40 = .ok (.getfield 7, 3) := by decide +kernel
theorem dX8_block_43 : decode cX8_block 43 = .ok (.bipush 13, 2) := by decide +kernel
theorem dX8_block_45 : decode cX8_block 45 = .ok (.iaload, 1) := by decide +kernel
theorem dX8_block_46 : decode cX8_block 46 = .ok (.bipush 10, 2) := by decide +kernel
theorem dX8_block_48 : decode cX8_block 48 = .ok (.if_icmp .ne 6, 3) := by decide +kernel
theorem dX8_block_51 : decode cX8_block 51 = .ok (.bipush (-4), 2) := by decide +kernel
theorem dX8_block_53 : decode cX8_block 53 = .ok (.ireturn, 1) := by decide +kernel
theorem dX8_block_54 : decode cX8_block 54 = .ok (.aload_n 0, 1) := by decide +kernel
theorem dX8_block_55 : decode cX8_block 55 = .ok (.invokevirtual 66, 3) := by decide +kernel
theorem dX8_block_58 : decode cX8_block 58 = .ok (.aload_n 0, 1) := by decide +kernel
theorem dX8_block_59 : decode cX8_block 59 = .ok (.getfield 7, 3) := by decide +kernel
theorem dX8_block_62 : decode cX8_block 62 = .ok (.sipush 530, 3) := by decide +kernel
theorem dX8_block_65 : decode cX8_block 65 = .ok (.iconst 2, 1) := by decide +kernel
theorem dX8_block_66 : decode cX8_block 66 = .ok (.aload_n 0, 1) := by decide +kernel
theorem dX8_block_67 : decode cX8_block 67 = .ok (.getfield 7, 3) := by decide +kernel
theorem dX8_block_70 : decode cX8_block 70 = .ok (.bipush 13, 2) := by decide +kernel
theorem dX8_block_72 : decode cX8_block 72 = .ok (.iaload, 1) := by decide +kernel
theorem dX8_block_73 : decode cX8_block 73 = .ok (.imul, 1) := by decide +kernel
theorem dX8_block_74 : decode cX8_block 74 = .ok (.iadd, 1) := by decide +kernel
theorem dX8_block_75 : decode cX8_block 75 = .ok (.iload_n 1, 1) := by decide +kernel
theorem dX8_block_76 : decode cX8_block 76 = .ok (.iastore, 1) := by decide +kernel
theorem dX8_block_77 : decode cX8_block 77 = .ok (.aload_n 0, 1) := by decide +kernel
theorem dX8_block_78 : decode cX8_block 78 = .ok (.getfield 7, 3) := by decide +kernel
theorem dX8_block_81 : decode cX8_block 81 = .ok (.sipush 530, 3) := by decide +kernel
theorem dX8_block_84 : decode cX8_block 84 = .ok (.iconst 2, 1) := by decide +kernel
theorem dX8_block_85 : decode cX8_block 85 = .ok (.aload_n 0, 1) := by decide +kernel
theorem dX8_block_86 : decode cX8_block 86 = .ok (.getfield 7, 3) := by decide +kernel
theorem dX8_block_89 : decode cX8_block 89 = .ok (.bipush 13, 2) := by decide +kernel
theorem dX8_block_91 : decode cX8_block 91 = .ok (.iaload, 1) := by decide +kernel
theorem dX8_block_92 : decode cX8_block 92 = .ok (.imul, 1) := by decide +kernel
theorem dX8_block_93 : decode cX8_block 93 = .ok (.iadd, 1) := by decide +kernel
theorem dX8_block_94 : decode cX8_block 94 = .ok (.iconst 1, 1) := by decide +kernel
theorem dX8_block_95 : decode cX8_block 95 = .ok (.iadd, 1) := by decide +kernel
theorem dX8_block_96 : decode cX8_block 96 = .ok (.iload_n 1, 1) := by decide +kernel
theorem dX8_block_97 : decode cX8_block 97 = .ok (.iload_n 2, 1) := by decide +kernel
theorem dX8_block_98 : decode cX8_block 98 = .ok (.iadd, 1) := by decide +kernel
theorem dX8_block_99 : decode cX8_block 99 = .ok (.iastore, 1) := by decide +kernel
theorem dX8_block_100 : decode cX8_block 100 = .ok (.aload_n 0, 1) := by decide +kernel
theorem dX8_block_101 : decode cX8_block 101 = .ok (.getfield 7, 3) := by decide +kernel
theorem dX8_block_104 : decode cX8_block 104 = .ok (.bipush 13, 2) := by decide +kernel
theorem dX8_block_106 : decode cX8_block 106 = .ok (.dup2, 1) := by decide +kernel
theorem dX8_block_107 : decode cX8_block 107 = .ok (.iaload, 1) := by decide +kernel
theorem dX8_block_108 : decode cX8_block 108 = .ok (.iconst 1, 1) := by decide +kernel
theorem dX8_block_109 : decode cX8_block 109 = .ok (.iadd, 1) := by decide +kernel
theorem dX8_block_110 : decode cX8_block 110 = .ok (.iastore, 1) := by decide +kernel
theorem dX8_block_111 : decode cX8_block 111 = .ok (.aload_n 0, 1) := by decide +kernel
theorem dX8_block_112 : decode cX8_block 112 = .ok (.getfield 7, 3) := by decide +kernel
theorem dX8_block_115 : decode cX8_block 115 = .ok (.bipush 13, 2) := by decide +kernel
theorem dX8_block_117 : decode cX8_block 117 = .ok (.iaload, 1) := by decide +kernel
theorem dX8_block_118 : decode cX8_block 118 = .ok (.ireturn, 1) := by decide +kernel
theorem dX8_freeAt_0 : decode cX8_freeAt 0 = .ok (.iload_n 1, 1) := by decide +kernel
theorem dX8_freeAt_1 : decode cX8_freeAt 1 = .ok (.istore_n 3, 1) := by decide +kernel
theorem dX8_freeAt_2 : decode cX8_freeAt 2 = .ok (.iconst 1, 1) := by decide +kernel
theorem dX8_freeAt_3 : decode cX8_freeAt 3 = .ok (.istore 4, 2) := by decide +kernel
theorem dX8_freeAt_5 : decode cX8_freeAt 5 = .ok (.iload 4, 2) := by decide +kernel
theorem dX8_freeAt_7 : decode cX8_freeAt 7 = .ok (.ifCond .eq 82, 3) := by decide +kernel
theorem dX8_freeAt_10 : decode cX8_freeAt 10 = .ok (.iconst 0, 1) := by decide +kernel
theorem dX8_freeAt_11 : decode cX8_freeAt 11 = .ok (.istore 4, 2) := by decide +kernel
theorem dX8_freeAt_13 : decode cX8_freeAt 13 = .ok (.iconst 0, 1) := by decide +kernel
theorem dX8_freeAt_14 : decode cX8_freeAt 14 = .ok (.istore 5, 2) := by decide +kernel
theorem dX8_freeAt_16 : decode cX8_freeAt 16 = .ok (.iload 5, 2) := by decide +kernel
theorem dX8_freeAt_18 : decode cX8_freeAt 18 = .ok (.aload_n 0, 1) := by decide +kernel
theorem dX8_freeAt_19 : decode cX8_freeAt 19 = .ok (.getfield 7, 3) := by decide +kernel
theorem dX8_freeAt_22 : decode cX8_freeAt 22 = .ok (.bipush 13, 2) := by decide +kernel
theorem dX8_freeAt_24 : decode cX8_freeAt 24 = .ok (.iaload, 1) := by decide +kernel
theorem dX8_freeAt_25 : decode cX8_freeAt 25 = .ok (.if_icmp .ge 61, 3) := by decide +kernel
theorem dX8_freeAt_28 : decode cX8_freeAt 28 = .ok (.aload_n 0, 1) := by decide +kernel
theorem dX8_freeAt_29 : decode cX8_freeAt 29 = .ok (.getfield 7, 3) := by decide +kernel
theorem dX8_freeAt_32 : decode cX8_freeAt 32 = .ok (.sipush 530, 3) := by decide +kernel
theorem dX8_freeAt_35 : decode cX8_freeAt 35 = .ok (.iconst 2, 1) := by decide +kernel
theorem dX8_freeAt_36 : decode cX8_freeAt 36 = .ok (.iload 5, 2) := by decide +kernel
theorem dX8_freeAt_38 : decode cX8_freeAt 38 = .ok (.imul, 1) := by decide +kernel
theorem dX8_freeAt_39 : decode cX8_freeAt 39 = .ok (.iadd, 1) := by decide +kernel
theorem dX8_freeAt_40 : decode cX8_freeAt 40 = .ok (.iaload, 1) := by decide +kernel
theorem dX8_freeAt_41 : decode cX8_freeAt 41 = .ok (.istore 6, 2) := by decide +kernel
theorem dX8_freeAt_43 : decode cX8_freeAt 43 = .ok (.aload_n 0, 1) := by decide +kernel
theorem dX8_freeAt_44 : decode cX8_freeAt 44 = .ok (.getfield 7, 3) := by decide +kernel
theorem dX8_freeAt_47 : decode cX8_freeAt 47 = .ok (.sipush 530, 3) := by decide +kernel
theorem dX8_freeAt_50 : decode cX8_freeAt 50 = .ok (.iconst 2, 1) := by decide +kernel
theorem dX8_freeAt_51 : decode cX8_freeAt 51 = .ok (.iload 5, 2) := by decide +kernel
theorem dX8_freeAt_53 : decode cX8_freeAt 53 = .ok (.imul, 1) := by decide +kernel
theorem dX8_freeAt_54 : decode cX8_freeAt 54 = .ok (.iadd, 1) := by decide +kernel
theorem dX8_freeAt_55 : decode cX8_freeAt 55 = .ok (.iconst 1, 1) := by decide +kernel
theorem dX8_freeAt_56 : decode cX8_freeAt 56 = .ok (.iadd, 1) := by decide +kernel
theorem dX8_freeAt_57 : decode cX8_freeAt 57 = .ok (.iaload, 1) := by decide +kernel
theorem dX8_freeAt_58 : decode cX8_freeAt 58 = .ok (.istore 7, 2) := by decide +kernel
theorem dX8_freeAt_60 : decode cX8_freeAt 60 = .ok (.iload 6, 2) := by decide +kernel
theorem dX8_freeAt_62 : decode cX8_freeAt 62 = .ok (.iload_n 3, 1) := by decide +kernel
theorem dX8_freeAt_63 : decode cX8_freeAt 63 = .ok (.iload_n 2, 1) := by decide +kernel
theorem dX8_freeAt_64 : decode cX8_freeAt 64 = .ok (.iadd, 1) := by decide +kernel
theorem dX8_freeAt_65 : decode cX8_freeAt 65 = .ok (.if_icmp .ge 15, 3) := by decide +kernel
theorem dX8_freeAt_68 : decode cX8_freeAt 68 = .ok (.iload 7, 2) := by decide +kernel
theorem dX8_freeAt_70 : decode cX8_freeAt 70 = .ok (.iload_n 3, 1) := by decide +kernel
theorem dX8_freeAt_71 : decode cX8_freeAt 71 = .ok (.if_icmp .le 9, 3) := by decide +kernel
theorem dX8_freeAt_74 : decode cX8_freeAt 74 = .ok (.iload 7, 2) := by decide +kernel
theorem dX8_freeAt_76 : decode cX8_freeAt 76 = .ok (.istore_n 3, 1) := by decide +kernel
theorem dX8_freeAt_77 : decode cX8_freeAt 77 = .ok (.iconst 1, 1) := by decide +kernel
theorem dX8_freeAt_78 : decode cX8_freeAt 78 = .ok (.istore 4, 2) := by decide +kernel
theorem dX8_freeAt_80 : decode cX8_freeAt 80 = .ok (.iinc 5 1, 3) := by decide +kernel
theorem dX8_freeAt_83 : decode cX8_freeAt 83 = .ok (.goto (-67), 3) := by decide +kernel
theorem dX8_freeAt_86 : decode cX8_freeAt 86 = .ok (.goto (-81), 3) := by decide +kernel
theorem dX8_freeAt_89 : decode cX8_freeAt 89 = .ok (.iload_n 3, 1) := by decide +kernel
theorem dX8_freeAt_90 : decode cX8_freeAt 90 = .ok (.ireturn, 1) := by decide +kernel
theorem dX8_comeTo_0 : decode cX8_comeTo 0 = .ok (.aload_n 0, 1) := by decide +kernel
theorem dX8_comeTo_1 : decode cX8_comeTo 1 = .ok (.getfield 7, 3) := by decide +kernel
theorem dX8_comeTo_4 : decode cX8_comeTo 4 = .ok (.bipush 6, 2) := by decide +kernel
theorem dX8_comeTo_6 : decode cX8_comeTo 6 = .ok (.iload_n 1, 1) := by decide +kernel
theorem dX8_comeTo_7 : decode cX8_comeTo 7 = .ok (.iastore, 1) := by decide +kernel
theorem dX8_comeTo_8 : decode cX8_comeTo 8 = .ok (.iconst 0, 1) := by decide +kernel
theorem dX8_comeTo_9 : decode cX8_comeTo 9 = .ok (.istore_n 2, 1) := by decide +kernel
theorem dX8_comeTo_10 : decode cX8_comeTo 10 = .ok (.iconst 0, 1) := by decide +kernel
theorem dX8_comeTo_11 : decode cX8_comeTo 11 = .ok (.istore_n 3, 1) := by decide +kernel
theorem dX8_comeTo_12 : decode cX8_comeTo 12 = .ok (.iload_n 3, 1) := by decide +kernel
theorem dX8_comeTo_13 : decode cX8_comeTo 13 = .ok (.aload_n 0, 1) := by decide +kernel
theorem dX8_comeTo_14 : decode cX8_comeTo 14 = .ok (.getfield 7, 3) := by decide +kernel
theorem dX8_comeTo_17 : decode cX8_comeTo 17 = .ok (.bipush 13, 2) := by decide +kernel
theorem dX8_comeTo_19 : decode cX8_comeTo 19 = .ok (.iaload, 1) := by decide +kernel
theorem dX8_comeTo_20 : decode cX8_comeTo 20 = .ok (.if_icmp .ge 82, 3) := by decide +kernel
theorem dX8_comeTo_23 : decode cX8_comeTo 23 = .ok (.aload_n 0, 1) := by decide +kernel
theorem dX8_comeTo_24 : decode cX8_comeTo 24 = .ok (.getfield 7, 3) := by decide +kernel
theorem dX8_comeTo_27 : decode cX8_comeTo 27 = .ok (.sipush 530, 3) := by decide +kernel
theorem dX8_comeTo_30 : decode cX8_comeTo 30 = .ok (.iconst 2, 1) := by decide +kernel
theorem dX8_comeTo_31 : decode cX8_comeTo 31 = .ok (.iload_n 3, 1) := by decide +kernel
theorem dX8_comeTo_32 : decode cX8_comeTo 32 = .ok (.imul, 1) := by decide +kernel
theorem dX8_comeTo_33 : decode cX8_comeTo 33 = .ok (.iadd, 1) := by decide +kernel
theorem dX8_comeTo_34 : decode cX8_comeTo 34 = .ok (.iconst 1, 1) := by decide +kernel
theorem dX8_comeTo_35 : decode cX8_comeTo 35 = .ok (.iadd, 1) := by decide +kernel
theorem dX8_comeTo_36 : decode cX8_comeTo 36 = .ok (.iaload, 1) := by decide +kernel
theorem dX8_comeTo_37 : decode cX8_comeTo 37 = .ok (.iload_n 1, 1) := by decide +kernel
theorem dX8_comeTo_38 : decode cX8_comeTo 38 = .ok (.if_icmp .le 58, 3) := by decide +kernel
theorem dX8_comeTo_41 : decode cX8_comeTo 41 = .ok (.aload_n 0, 1) := by decide +kernel
theorem dX8_comeTo_42 : decode cX8_comeTo 42 = .ok (.getfield 7, 3) := by decide +kernel
theorem dX8_comeTo_45 : decode cX8_comeTo 45 = .ok (.sipush 530, 3) := by decide +kernel
theorem dX8_comeTo_48 : decode cX8_comeTo 48 = .ok (.iconst 2, 1) := by decide +kernel
theorem dX8_comeTo_49 : decode cX8_comeTo 49 = .ok (.iload_n 2, 1) := by decide +kernel
theorem dX8_comeTo_50 : decode cX8_comeTo 50 = .ok (.imul, 1) := by decide +kernel
theorem dX8_comeTo_51 : decode cX8_comeTo 51 = .ok (.iadd, 1) := by decide +kernel
theorem dX8_comeTo_52 : decode cX8_comeTo 52 = .ok (.aload_n 0, 1) := by decide +kernel
theorem dX8_comeTo_53 : decode cX8_comeTo 53 = .ok (.getfield 7, 3) := by decide +kernel
theorem dX8_comeTo_56 : decode cX8_comeTo 56 = .ok (.sipush 530, 3) := by decide +kernel
theorem dX8_comeTo_59 : decode cX8_comeTo 59 = .ok (.iconst 2, 1) := by decide +kernel
theorem dX8_comeTo_60 : decode cX8_comeTo 60 = .ok (.iload_n 3, 1) := by decide +kernel
theorem dX8_comeTo_61 : decode cX8_comeTo 61 = .ok (.imul, 1) := by decide +kernel
theorem dX8_comeTo_62 : decode cX8_comeTo 62 = .ok (.iadd, 1) := by decide +kernel
theorem dX8_comeTo_63 : decode cX8_comeTo 63 = .ok (.iaload, 1) := by decide +kernel
theorem dX8_comeTo_64 : decode cX8_comeTo 64 = .ok (.iastore, 1) := by decide +kernel
theorem dX8_comeTo_65 : decode cX8_comeTo 65 = .ok (.aload_n 0, 1) := by decide +kernel
theorem dX8_comeTo_66 : decode cX8_comeTo 66 = .ok (.getfield 7, 3) := by decide +kernel
theorem dX8_comeTo_69 : decode cX8_comeTo 69 = .ok (.sipush 530, 3) := by decide +kernel
theorem dX8_comeTo_72 : decode cX8_comeTo 72 = .ok (.iconst 2, 1) := by decide +kernel
theorem dX8_comeTo_73 : decode cX8_comeTo 73 = .ok (.iload_n 2, 1) := by decide +kernel
theorem dX8_comeTo_74 : decode cX8_comeTo 74 = .ok (.imul, 1) := by decide +kernel
theorem dX8_comeTo_75 : decode cX8_comeTo 75 = .ok (.iadd, 1) := by decide +kernel
theorem dX8_comeTo_76 : decode cX8_comeTo 76 = .ok (.iconst 1, 1) := by decide +kernel
theorem dX8_comeTo_77 : decode cX8_comeTo 77 = .ok (.iadd, 1) := by decide +kernel
theorem dX8_comeTo_78 : decode cX8_comeTo 78 = .ok (.aload_n 0, 1) := by decide +kernel
theorem dX8_comeTo_79 : decode cX8_comeTo 79 = .ok (.getfield 7, 3) := by decide +kernel
theorem dX8_comeTo_82 : decode cX8_comeTo 82 = .ok (.sipush 530, 3) := by decide +kernel
theorem dX8_comeTo_85 : decode cX8_comeTo 85 = .ok (.iconst 2, 1) := by decide +kernel
theorem dX8_comeTo_86 : decode cX8_comeTo 86 = .ok (.iload_n 3, 1) := by decide +kernel
theorem dX8_comeTo_87 : decode cX8_comeTo 87 = .ok (.imul, 1) := by decide +kernel
theorem dX8_comeTo_88 : decode cX8_comeTo 88 = .ok (.iadd, 1) := by decide +kernel
theorem dX8_comeTo_89 : decode cX8_comeTo 89 = .ok (.iconst 1, 1) := by decide +kernel
theorem dX8_comeTo_90 : decode cX8_comeTo 90 = .ok (.iadd, 1) := by decide +kernel
theorem dX8_comeTo_91 : decode cX8_comeTo 91 = .ok (.iaload, 1) := by decide +kernel
theorem dX8_comeTo_92 : decode cX8_comeTo 92 = .ok (.iastore, 1) := by decide +kernel
theorem dX8_comeTo_93 : decode cX8_comeTo 93 = .ok (.iinc 2 1, 3) := by decide +kernel
theorem dX8_comeTo_96 : decode cX8_comeTo 96 = .ok (.iinc 3 1, 3) := by decide +kernel
theorem dX8_comeTo_99 : decode cX8_comeTo 99 = .ok (.goto (-87), 3) := by decide +kernel
theorem dX8_comeTo_102 : decode cX8_comeTo 102 = .ok (.aload_n 0, 1) := by decide +kernel
theorem dX8_comeTo_103 : decode cX8_comeTo 103 = .ok (.getfield 7, 3) := by decide +kernel
theorem dX8_comeTo_106 : decode cX8_comeTo 106 = .ok (.bipush 13, 2) := by decide +kernel
theorem dX8_comeTo_108 : decode cX8_comeTo 108 = .ok (.iload_n 2, 1) := by decide +kernel
theorem dX8_comeTo_109 : decode cX8_comeTo 109 = .ok (.iastore, 1) := by decide +kernel
theorem dX8_comeTo_110 : decode cX8_comeTo 110 = .ok (.return_, 1) := by decide +kernel
theorem dX8_take_0 : decode cX8_take 0 = .ok (.iload_n 1, 1) := by decide +kernel
theorem dX8_take_1 : decode cX8_take 1 = .ok (.iload_n 2, 1) := by decide +kernel
theorem dX8_take_2 : decode cX8_take 2 = .ok (.aload_n 0, 1) := by decide +kernel
theorem dX8_take_3 : decode cX8_take 3 = .ok (.getfield 7, 3) := by decide +kernel
theorem dX8_take_6 : decode cX8_take 6 = .ok (.iconst 3, 1) := by decide +kernel
theorem dX8_take_7 : decode cX8_take 7 = .ok (.iaload, 1) := by decide +kernel
theorem dX8_take_8 : decode cX8_take 8 = .ok (.imul, 1) := by decide +kernel
theorem dX8_take_9 : decode cX8_take 9 = .ok (.iadd, 1) := by decide +kernel
theorem dX8_take_10 : decode cX8_take 10 = .ok (.istore_n 3, 1) := by decide +kernel
theorem dX8_take_11 : decode cX8_take 11 = .ok (.aload_n 0, 1) := by decide +kernel
theorem dX8_take_12 : decode cX8_take 12 = .ok (.aload_n 0, 1) := by decide +kernel
theorem dX8_take_13 : decode cX8_take 13 = .ok (.getfield 7, 3) := by decide +kernel
theorem dX8_take_16 : decode cX8_take 16 = .ok (.bipush 6, 2) := by decide +kernel
theorem dX8_take_18 : decode cX8_take 18 = .ok (.iaload, 1) := by decide +kernel
theorem dX8_take_19 : decode cX8_take 19 = .ok (.iload_n 3, 1) := by decide +kernel
theorem dX8_take_20 : decode cX8_take 20 = .ok (.invokevirtual 86, 3) := by decide +kernel
theorem dX8_take_23 : decode cX8_take 23 = .ok (.istore 4, 2) := by decide +kernel
theorem dX8_take_25 : decode cX8_take 25 = .ok (.aload_n 0, 1) := by decide +kernel
theorem dX8_take_26 : decode cX8_take 26 = .ok (.getfield 7, 3) := by decide +kernel
theorem dX8_take_29 : decode cX8_take 29 = .ok (.bipush 16, 2) := by decide +kernel
theorem dX8_take_31 : decode cX8_take 31 = .ok (.dup2, 1) := by decide +kernel
theorem dX8_take_32 : decode cX8_take 32 = .ok (.iaload, 1) := by decide +kernel
theorem dX8_take_33 : decode cX8_take 33 = .ok (.iload 4, 2) := by decide +kernel
theorem dX8_take_35 : decode cX8_take 35 = .ok (.aload_n 0, 1) := by decide +kernel
theorem dX8_take_36 : decode cX8_take 36 = .ok (.getfield 7, 3) := by decide +kernel
theorem dX8_take_39 : decode cX8_take 39 = .ok (.bipush 6, 2) := by decide +kernel
theorem dX8_take_41 : decode cX8_take 41 = .ok (.iaload, 1) := by decide +kernel
theorem dX8_take_42 : decode cX8_take 42 = .ok (.isub, 1) := by decide +kernel
theorem dX8_take_43 : decode cX8_take 43 = .ok (.iadd, 1) := by decide +kernel
theorem dX8_take_44 : decode cX8_take 44 = .ok (.iastore, 1) := by decide +kernel
theorem dX8_take_45 : decode cX8_take 45 = .ok (.aload_n 0, 1) := by decide +kernel
theorem dX8_take_46 : decode cX8_take 46 = .ok (.getfield 7, 3) := by decide +kernel
theorem dX8_take_49 : decode cX8_take 49 = .ok (.bipush 14, 2) := by decide +kernel
theorem dX8_take_51 : decode cX8_take 51 = .ok (.dup2, 1) := by decide +kernel
theorem dX8_take_52 : decode cX8_take 52 = .ok (.iaload, 1) := by decide +kernel
theorem dX8_take_53 : decode cX8_take 53 = .ok (.iload_n 2, 1) := by decide +kernel
theorem dX8_take_54 : decode cX8_take 54 = .ok (.iadd, 1) := by decide +kernel
theorem dX8_take_55 : decode cX8_take 55 = .ok (.iastore, 1) := by decide +kernel
theorem dX8_take_56 : decode cX8_take 56 = .ok (.aload_n 0, 1) := by decide +kernel
theorem dX8_take_57 : decode cX8_take 57 = .ok (.getfield 7, 3) := by decide +kernel
theorem dX8_take_60 : decode cX8_take 60 = .ok (.bipush 15, 2) := by decide +kernel
theorem dX8_take_62 : decode cX8_take 62 = .ok (.dup2, 1) := by decide +kernel
theorem dX8_take_63 : decode cX8_take 63 = .ok (.iaload, 1) := by decide +kernel
theorem dX8_take_64 : decode cX8_take 64 = .ok (.iconst 1, 1) := by decide +kernel
theorem dX8_take_65 : decode cX8_take 65 = .ok (.iadd, 1) := by decide +kernel
theorem dX8_take_66 : decode cX8_take 66 = .ok (.iastore, 1) := by decide +kernel
theorem dX8_take_67 : decode cX8_take 67 = .ok (.aload_n 0, 1) := by decide +kernel
theorem dX8_take_68 : decode cX8_take 68 = .ok (.iload 4, 2) := by decide +kernel
theorem dX8_take_70 : decode cX8_take 70 = .ok (.iload_n 3, 1) := by decide +kernel
theorem dX8_take_71 : decode cX8_take 71 = .ok (.iadd, 1) := by decide +kernel
theorem dX8_take_72 : decode cX8_take 72 = .ok (.invokevirtual 89, 3) := by decide +kernel
theorem dX8_take_75 : decode cX8_take 75 = .ok (.return_, 1) := by decide +kernel
theorem dX8_drawOut_0 : decode cX8_drawOut 0 = .ok (.bipush 60, 2) := by decide +kernel
theorem dX8_drawOut_2 : decode cX8_drawOut 2 = .ok (.bipush 30, 2) := by decide +kernel
theorem dX8_drawOut_4 : decode cX8_drawOut 4 = .ok (.iload_n 1, 1) := by decide +kernel
theorem dX8_drawOut_5 : decode cX8_drawOut 5 = .ok (.imul, 1) := by decide +kernel
theorem dX8_drawOut_6 : decode cX8_drawOut 6 = .ok (.iadd, 1) := by decide +kernel
theorem dX8_drawOut_7 : decode cX8_drawOut 7 = .ok (.istore_n 3, 1) := by decide +kernel
theorem dX8_drawOut_8 : decode cX8_drawOut 8 = .ok (.aload_n 0, 1) := by decide +kernel
theorem dX8_drawOut_9 : decode cX8_drawOut 9 = .ok (.iload_n 1, 1) := by decide +kernel
theorem dX8_drawOut_10 : decode cX8_drawOut 10 = .ok (.invokevirtual 72, 3) := by decide +kernel
theorem dX8_drawOut_13 : decode cX8_drawOut 13 = .ok (.iload_n 2, 1) := by decide +kernel
theorem dX8_drawOut_14 : decode cX8_drawOut 14 = .ok (.isub, 1) := by decide +kernel
theorem dX8_drawOut_15 : decode cX8_drawOut 15 = .ok (.istore 4, 2) := by decide +kernel
theorem dX8_drawOut_17 : decode cX8_drawOut 17 = .ok (.iconst 0, 1) := by decide +kernel
theorem dX8_drawOut_18 : decode cX8_drawOut 18 = .ok (.istore 5, 2) := by decide +kernel
theorem dX8_drawOut_20 : decode cX8_drawOut 20 = .ok (.iload 5, 2) := by decide +kernel
theorem dX8_drawOut_22 : decode cX8_drawOut 22 = .ok (.iload_n 2, 1) := by decide +kernel
theorem dX8_drawOut_23 : decode cX8_drawOut 23 = .ok (.if_icmp .ge 63, 3) := by decide +kernel
theorem dX8_drawOut_26 : decode cX8_drawOut 26 = .ok (.aload_n 0, 1) := by decide +kernel
theorem dX8_drawOut_27 : decode cX8_drawOut 27 = .ok (.getfield 7, 3) := by decide +kernel
theorem dX8_drawOut_30 : decode cX8_drawOut 30 = .ok (.sipush 300, 3) := by decide +kernel
theorem dX8_drawOut_33 : decode cX8_drawOut 33 = .ok (.aload_n 0, 1) := by decide +kernel
theorem dX8_drawOut_34 : decode cX8_drawOut 34 = .ok (.getfield 7, 3) := by decide +kernel
theorem dX8_drawOut_37 : decode cX8_drawOut 37 = .ok (.bipush 9, 2) := by decide +kernel
theorem dX8_drawOut_39 : decode cX8_drawOut 39 = .ok (.iaload, 1) := by decide +kernel
theorem dX8_drawOut_40 : decode cX8_drawOut 40 = .ok (.iadd, 1) := by decide +kernel
theorem dX8_drawOut_41 : decode cX8_drawOut 41 = .ok (.iload 5, 2) := by decide +kernel
theorem dX8_drawOut_43 : decode cX8_drawOut 43 = .ok (.iadd, 1) := by decide +kernel
theorem dX8_drawOut_44 : decode cX8_drawOut 44 = .ok (.aload_n 0, 1) := by decide +kernel
theorem dX8_drawOut_45 : decode cX8_drawOut 45 = .ok (.getfield 7, 3) := by decide +kernel
theorem dX8_drawOut_48 : decode cX8_drawOut 48 = .ok (.iload_n 3, 1) := by decide +kernel
theorem dX8_drawOut_49 : decode cX8_drawOut 49 = .ok (.iload 5, 2) := by decide +kernel
theorem dX8_drawOut_51 : decode cX8_drawOut 51 = .ok (.iadd, 1) := by decide +kernel
theorem dX8_drawOut_52 : decode cX8_drawOut 52 = .ok (.iaload, 1) := by decide +kernel
theorem dX8_drawOut_53 : decode cX8_drawOut 53 = .ok (.iastore, 1) := by decide +kernel
theorem dX8_drawOut_54 : decode cX8_drawOut 54 = .ok (.aload_n 0, 1) := by decide +kernel
theorem dX8_drawOut_55 : decode cX8_drawOut 55 = .ok (.getfield 7, 3) := by decide +kernel
theorem dX8_drawOut_58 : decode cX8_drawOut 58 = .ok (.sipush 330, 3) := by decide +kernel
theorem dX8_drawOut_61 : decode cX8_drawOut 61 = .ok (.iconst 4, 1) := by decide +kernel
theorem dX8_drawOut_62 : decode cX8_drawOut 62 = .ok (.aload_n 0, 1) := by decide +kernel
theorem dX8_drawOut_63 : decode cX8_drawOut 63 = .ok (.getfield 7, 3) := by decide +kernel
theorem dX8_drawOut_66 : decode cX8_drawOut 66 = .ok (.iload_n 3, 1) := by decide +kernel
theorem dX8_drawOut_67 : decode cX8_drawOut 67 = .ok (.iload 5, 2) := by decide +kernel
theorem dX8_drawOut_69 : decode cX8_drawOut 69 = .ok (.iadd, 1) := by decide +kernel
theorem dX8_drawOut_70 : decode cX8_drawOut 70 = .ok (.iaload, 1) := by decide +kernel
theorem dX8_drawOut_71 : decode cX8_drawOut 71 = .ok (.imul, 1) := by decide +kernel
theorem dX8_drawOut_72 : decode cX8_drawOut 72 = .ok (.iadd, 1) := by decide +kernel
theorem dX8_drawOut_73 : decode cX8_drawOut 73 = .ok (.iconst 2, 1) := by decide +kernel
theorem dX8_drawOut_74 : decode cX8_drawOut 74 = .ok (.iadd, 1) := by decide +kernel
theorem dX8_drawOut_75 : decode cX8_drawOut 75 = .ok (.dup2, 1) := by decide +kernel
theorem dX8_drawOut_76 : decode cX8_drawOut 76 = .ok (.iaload, 1) := by decide +kernel
theorem dX8_drawOut_77 : decode cX8_drawOut 77 = .ok (.iconst 1, 1) := by decide +kernel
theorem dX8_drawOut_78 : decode cX8_drawOut 78 = .ok (.iadd, 1) := by decide +kernel
theorem dX8_drawOut_79 : decode cX8_drawOut 79 = .ok (.iastore, 1) := by decide +kernel
theorem dX8_drawOut_80 : decode cX8_drawOut 80 = .ok (.iinc 5 1, 3) := by decide +kernel
theorem dX8_drawOut_83 : decode cX8_drawOut 83 = .ok (.goto (-63), 3) := by decide +kernel
theorem dX8_drawOut_86 : decode cX8_drawOut 86 = .ok (.iconst 0, 1) := by decide +kernel
theorem dX8_drawOut_87 : decode cX8_drawOut 87 = .ok (.istore 5, 2) := by decide +kernel
theorem dX8_drawOut_89 : decode cX8_drawOut 89 = .ok (.iload 5, 2) := by decide +kernel
theorem dX8_drawOut_91 : decode cX8_drawOut 91 = .ok (.iload 4, 2) := by decide +kernel
theorem dX8_drawOut_93 : decode cX8_drawOut 93 = .ok (.if_icmp .ge 29, 3) := by decide +kernel
theorem dX8_drawOut_96 : decode cX8_drawOut 96 = .ok (.aload_n 0, 1) := by decide +kernel
theorem dX8_drawOut_97 : decode cX8_drawOut 97 = .ok (.getfield 7, 3) := by decide +kernel
theorem dX8_drawOut_100 : decode cX8_drawOut 100 = .ok (.iload_n 3, 1) := by decide +kernel
theorem dX8_drawOut_101 : decode cX8_drawOut 101 = .ok (.iload 5, 2) := by decide +kernel
theorem dX8_drawOut_103 : decode cX8_drawOut 103 = .ok (.iadd, 1) := by decide +kernel
theorem dX8_drawOut_104 : decode cX8_drawOut 104 = .ok (.aload_n 0, 1) := by decide +kernel
theorem dX8_drawOut_105 : decode cX8_drawOut 105 = .ok (.getfield 7, 3) := by decide +kernel
theorem dX8_drawOut_108 : decode cX8_drawOut 108 = .ok (.iload_n 3, 1) := by decide +kernel
theorem dX8_drawOut_109 : decode cX8_drawOut 109 = .ok (.iload 5, 2) := by decide +kernel
theorem dX8_drawOut_111 : decode cX8_drawOut 111 = .ok (.iadd, 1) := by decide +kernel
theorem dX8_drawOut_112 : decode cX8_drawOut 112 = .ok (.iload_n 2, 1) := by decide +kernel
theorem dX8_drawOut_113 : decode cX8_drawOut 113 = .ok (.iadd, 1) := by decide +kernel
theorem dX8_drawOut_114 : decode cX8_drawOut 114 = .ok (.iaload, 1) := by decide +kernel
theorem dX8_drawOut_115 : decode cX8_drawOut 115 = .ok (.iastore, 1) := by decide +kernel
theorem dX8_drawOut_116 : decode cX8_drawOut 116 = .ok (.iinc 5 1, 3) := by decide +kernel
theorem dX8_drawOut_119 : decode cX8_drawOut 119 = .ok (.goto (-30), 3) := by decide +kernel
theorem dX8_drawOut_122 : decode cX8_drawOut 122 = .ok (.aload_n 0, 1) := by decide +kernel
theorem dX8_drawOut_123 : decode cX8_drawOut 123 = .ok (.getfield 7, 3) := by decide +kernel
theorem dX8_drawOut_126 : decode cX8_drawOut 126 = .ok (.bipush 9, 2) := by decide +kernel
theorem dX8_drawOut_128 : decode cX8_drawOut 128 = .ok (.dup2, 1) := by decide +kernel
theorem dX8_drawOut_129 : decode cX8_drawOut 129 = .ok (.iaload, 1) := by decide +kernel
theorem dX8_drawOut_130 : decode cX8_drawOut 130 = .ok (.iload_n 2, 1) := by decide +kernel
theorem dX8_drawOut_131 : decode cX8_drawOut 131 = .ok (.iadd, 1) := by decide +kernel
theorem dX8_drawOut_132 : decode cX8_drawOut 132 = .ok (.iastore, 1) := by decide +kernel
theorem dX8_drawOut_133 : decode cX8_drawOut 133 = .ok (.aload_n 0, 1) := by decide +kernel
theorem dX8_drawOut_134 : decode cX8_drawOut 134 = .ok (.getfield 7, 3) := by decide +kernel
theorem dX8_drawOut_137 : decode cX8_drawOut 137 = .ok (.bipush 20, 2) := by decide +kernel
theorem dX8_drawOut_139 : decode cX8_drawOut 139 = .ok (.iconst 4, 1) := by decide +kernel
theorem dX8_drawOut_140 : decode cX8_drawOut 140 = .ok (.iload_n 1, 1) := by decide +kernel
theorem dX8_drawOut_141 : decode cX8_drawOut 141 = .ok (.imul, 1) := by decide +kernel
theorem dX8_drawOut_142 : decode cX8_drawOut 142 = .ok (.iadd, 1) := by decide +kernel
theorem dX8_drawOut_143 : decode cX8_drawOut 143 = .ok (.iconst 1, 1) := by decide +kernel
theorem dX8_drawOut_144 : decode cX8_drawOut 144 = .ok (.iadd, 1) := by decide +kernel
theorem dX8_drawOut_145 : decode cX8_drawOut 145 = .ok (.iload 4, 2) := by decide +kernel
theorem dX8_drawOut_147 : decode cX8_drawOut 147 = .ok (.iastore, 1) := by decide +kernel
theorem dX8_drawOut_148 : decode cX8_drawOut 148 = .ok (.aload_n 0, 1) := by decide +kernel
theorem dX8_drawOut_149 : decode cX8_drawOut 149 = .ok (.getfield 7, 3) := by decide +kernel
theorem dX8_drawOut_152 : decode cX8_drawOut 152 = .ok (.bipush 20, 2) := by decide +kernel
theorem dX8_drawOut_154 : decode cX8_drawOut 154 = .ok (.iconst 4, 1) := by decide +kernel
theorem dX8_drawOut_155 : decode cX8_drawOut 155 = .ok (.iload_n 1, 1) := by decide +kernel
theorem dX8_drawOut_156 : decode cX8_drawOut 156 = .ok (.imul, 1) := by decide +kernel
theorem dX8_drawOut_157 : decode cX8_drawOut 157 = .ok (.iadd, 1) := by decide +kernel
theorem dX8_drawOut_158 : decode cX8_drawOut 158 = .ok (.iconst 2, 1) := by decide +kernel
theorem dX8_drawOut_159 : decode cX8_drawOut 159 = .ok (.iadd, 1) := by decide +kernel
theorem dX8_drawOut_160 : decode cX8_drawOut 160 = .ok (.dup2, 1) := by decide +kernel
theorem dX8_drawOut_161 : decode cX8_drawOut 161 = .ok (.iaload, 1) := by decide +kernel
theorem dX8_drawOut_162 : decode cX8_drawOut 162 = .ok (.iload_n 2, 1) := by decide +kernel
theorem dX8_drawOut_163 : decode cX8_drawOut 163 = .ok (.iadd, 1) := by decide +kernel
theorem dX8_drawOut_164 : decode cX8_drawOut 164 = .ok (.iastore, 1) := by decide +kernel
theorem dX8_drawOut_165 : decode cX8_drawOut 165 = .ok (.iload 4, 2) := by decide +kernel
theorem dX8_drawOut_167 : decode cX8_drawOut 167 = .ok (.ifCond .le 7, 3) := by decide +kernel
theorem dX8_drawOut_170 : decode cX8_drawOut 170 = .ok (.iconst 2, 1) := by decide +kernel
theorem dX8_drawOut_171 : decode cX8_drawOut 171 = .ok (.goto 4, 3) := by decide +kernel
theorem dX8_drawOut_174 : decode cX8_drawOut 174 = .ok (.iconst 1, 1) := by decide +kernel
theorem dX8_drawOut_175 : decode cX8_drawOut 175 = .ok (.ireturn, 1) := by decide +kernel
theorem dX8_setBack_0 : decode cX8_setBack 0 = .ok (.bipush 60, 2) := by decide +kernel
theorem dX8_setBack_2 : decode cX8_setBack 2 = .ok (.bipush 30, 2) := by decide +kernel
theorem dX8_setBack_4 : decode cX8_setBack 4 = .ok (.iload_n 1, 1) := by decide +kernel
theorem dX8_setBack_5 : decode cX8_setBack 5 = .ok (.imul, 1) := by decide +kernel
theorem dX8_setBack_6 : decode cX8_setBack 6 = .ok (.iadd, 1) := by decide +kernel
theorem dX8_setBack_7 : decode cX8_setBack 7 = .ok (.istore_n 3, 1) := by decide +kernel
theorem dX8_setBack_8 : decode cX8_setBack 8 = .ok (.aload_n 0, 1) := by decide +kernel
theorem dX8_setBack_9 : decode cX8_setBack 9 = .ok (.iload_n 1, 1) := by decide +kernel
theorem dX8_setBack_10 : decode cX8_setBack 10 = .ok (.invokevirtual 72, 3) := by decide +kernel
theorem dX8_setBack_13 : decode cX8_setBack 13 = .ok (.istore 4, 2) := by decide +kernel
theorem dX8_setBack_15 : decode cX8_setBack 15 = .ok (.iload 4, 2) := by decide +kernel
theorem dX8_setBack_17 : decode cX8_setBack 17 = .ok (.iconst 1, 1) := by decide +kernel
theorem dX8_setBack_18 : decode cX8_setBack 18 = .ok (.isub, 1) := by decide +kernel
theorem dX8_setBack_19 : decode cX8_setBack 19 = .ok (.istore 5, 2) := by decide +kernel
theorem dX8_setBack_21 : decode cX8_setBack 21 = .ok (.iload 5, 2) := by decide +kernel
theorem dX8_setBack_23 : decode cX8_setBack 23 = .ok (.ifCond .lt 29, 3) := by decide +kernel
theorem dX8_setBack_26 : decode cX8_setBack 26 = .ok (.aload_n 0, 1) := by decide +kernel
theorem dX8_setBack_27 : decode cX8_setBack 27 = .ok (.getfield 7, 3) := by decide +kernel
theorem dX8_setBack_30 : decode cX8_setBack 30 = .ok (.iload_n 3, 1) := by decide +kernel
theorem dX8_setBack_31 : decode cX8_setBack 31 = .ok (.iload 5, 2) := by decide +kernel
theorem dX8_setBack_33 : decode cX8_setBack 33 = .ok (.iadd, 1) := by decide +kernel
theorem dX8_setBack_34 : decode cX8_setBack 34 = .ok (.iload_n 2, 1) := by decide +kernel
theorem dX8_setBack_35 : decode cX8_setBack 35 = .ok (.iadd, 1) := by decide +kernel
theorem dX8_setBack_36 : decode cX8_setBack 36 = .ok (.aload_n 0, 1) := by decide +kernel
theorem dX8_setBack_37 : decode cX8_setBack 37 = .ok (.getfield 7, 3) := by decide +kernel
theorem dX8_setBack_40 : decode cX8_setBack 40 = .ok (.iload_n 3, 1) := by decide +kernel
theorem dX8_setBack_41 : decode cX8_setBack 41 = .ok (.iload 5, 2) := by decide +kernel
theorem dX8_setBack_43 : decode cX8_setBack 43 = .ok (.iadd, 1) := by decide +kernel
theorem dX8_setBack_44 : decode cX8_setBack 44 = .ok (.iaload, 1) := by decide +kernel
theorem dX8_setBack_45 : decode cX8_setBack 45 = .ok (.iastore, 1) := by decide +kernel
theorem dX8_setBack_46 : decode cX8_setBack 46 = .ok (.iinc 5 (-1), 3) := by decide +kernel
theorem dX8_setBack_49 : decode cX8_setBack 49 = .ok (.goto (-28), 3) := by decide +kernel
theorem dX8_setBack_52 : decode cX8_setBack 52 = .ok (.aload_n 0, 1) := by decide +kernel
theorem dX8_setBack_53 : decode cX8_setBack 53 = .ok (.getfield 7, 3) := by decide +kernel
theorem dX8_setBack_56 : decode cX8_setBack 56 = .ok (.bipush 9, 2) := by decide +kernel
theorem dX8_setBack_58 : decode cX8_setBack 58 = .ok (.dup2, 1) := by decide +kernel
theorem dX8_setBack_59 : decode cX8_setBack 59 = .ok (.iaload, 1) := by decide +kernel
theorem dX8_setBack_60 : decode cX8_setBack 60 = .ok (.iload_n 2, 1) := by decide +kernel
theorem dX8_setBack_61 : decode cX8_setBack 61 = .ok (.isub, 1) := by decide +kernel
theorem dX8_setBack_62 : decode cX8_setBack 62 = .ok (.iastore, 1) := by decide +kernel
theorem dX8_setBack_63 : decode cX8_setBack 63 = .ok (.iconst 0, 1) := by decide +kernel
theorem dX8_setBack_64 : decode cX8_setBack 64 = .ok (.istore 5, 2) := by decide +kernel
theorem dX8_setBack_66 : decode cX8_setBack 66 = .ok (.iload 5, 2) := by decide +kernel
theorem dX8_setBack_68 : decode cX8_setBack 68 = .ok (.iload_n 2, 1) := by decide +kernel
theorem dX8_setBack_69 : decode cX8_setBack 69 = .ok (.if_icmp .ge 37, 3) := by decide +kernel
theorem dX8_setBack_72 : decode cX8_setBack 72 = .ok (.aload_n 0, 1) := by decide +kernel
theorem dX8_setBack_73 : decode cX8_setBack 73 = .ok (.getfield 7, 3) := by decide +kernel
theorem dX8_setBack_76 : decode cX8_setBack 76 = .ok (.iload_n 3, 1) := by decide +kernel
theorem dX8_setBack_77 : decode cX8_setBack 77 = .ok (.iload 5, 2) := by decide +kernel
theorem dX8_setBack_79 : decode cX8_setBack 79 = .ok (.iadd, 1) := by decide +kernel
theorem dX8_setBack_80 : decode cX8_setBack 80 = .ok (.aload_n 0, 1) := by decide +kernel
theorem dX8_setBack_81 : decode cX8_setBack 81 = .ok (.getfield 7, 3) := by decide +kernel
theorem dX8_setBack_84 : decode cX8_setBack 84 = .ok (.sipush 300, 3) := by decide +kernel
theorem dX8_setBack_87 : decode cX8_setBack 87 = .ok (.aload_n 0, 1) := by decide +kernel
theorem dX8_setBack_88 : decode cX8_setBack 88 = .ok (.getfield 7, 3) := by decide +kernel
theorem dX8_setBack_91 : decode cX8_setBack 91 = .ok (.bipush 9, 2) := by decide +kernel
theorem dX8_setBack_93 : decode cX8_setBack 93 = .ok (.iaload, 1) := by decide +kernel
theorem dX8_setBack_94 : decode cX8_setBack 94 = .ok (.iadd, 1) := by decide +kernel
theorem dX8_setBack_95 : decode cX8_setBack 95 = .ok (.iload 5, 2) := by decide +kernel
theorem dX8_setBack_97 : decode cX8_setBack 97 = .ok (.iadd, 1) := by decide +kernel
theorem dX8_setBack_98 : decode cX8_setBack 98 = .ok (.iaload, 1) := by decide +kernel
theorem dX8_setBack_99 : decode cX8_setBack 99 = .ok (.iastore, 1) := by decide +kernel
theorem dX8_setBack_100 : decode cX8_setBack 100 = .ok (.iinc 5 1, 3) := by decide +kernel
theorem dX8_setBack_103 : decode cX8_setBack 103 = .ok (.goto (-37), 3) := by decide +kernel
theorem dX8_setBack_106 : decode cX8_setBack 106 = .ok (.aload_n 0, 1) := by decide +kernel
theorem dX8_setBack_107 : decode cX8_setBack 107 = .ok (.getfield 7, 3) := by decide +kernel
theorem dX8_setBack_110 : decode cX8_setBack 110 = .ok (.bipush 20, 2) := by decide +kernel
theorem dX8_setBack_112 : decode cX8_setBack 112 = .ok (.iconst 4, 1) := by decide +kernel
theorem dX8_setBack_113 : decode cX8_setBack 113 = .ok (.iload_n 1, 1) := by decide +kernel
theorem dX8_setBack_114 : decode cX8_setBack 114 = .ok (.imul, 1) := by decide +kernel
theorem dX8_setBack_115 : decode cX8_setBack 115 = .ok (.iadd, 1) := by decide +kernel
theorem dX8_setBack_116 : decode cX8_setBack 116 = .ok (.iconst 1, 1) := by decide +kernel
theorem dX8_setBack_117 : decode cX8_setBack 117 = .ok (.iadd, 1) := by decide +kernel
theorem dX8_setBack_118 : decode cX8_setBack 118 = .ok (.iload 4, 2) := by decide +kernel
theorem dX8_setBack_120 : decode cX8_setBack 120 = .ok (.iload_n 2, 1) := by decide +kernel
theorem dX8_setBack_121 : decode cX8_setBack 121 = .ok (.iadd, 1) := by decide +kernel
theorem dX8_setBack_122 : decode cX8_setBack 122 = .ok (.iastore, 1) := by decide +kernel
theorem dX8_setBack_123 : decode cX8_setBack 123 = .ok (.aload_n 0, 1) := by decide +kernel
theorem dX8_setBack_124 : decode cX8_setBack 124 = .ok (.getfield 7, 3) := by decide +kernel
theorem dX8_setBack_127 : decode cX8_setBack 127 = .ok (.bipush 20, 2) := by decide +kernel
theorem dX8_setBack_129 : decode cX8_setBack 129 = .ok (.iconst 4, 1) := by decide +kernel
theorem dX8_setBack_130 : decode cX8_setBack 130 = .ok (.iload_n 1, 1) := by decide +kernel
theorem dX8_setBack_131 : decode cX8_setBack 131 = .ok (.imul, 1) := by decide +kernel
theorem dX8_setBack_132 : decode cX8_setBack 132 = .ok (.iadd, 1) := by decide +kernel
theorem dX8_setBack_133 : decode cX8_setBack 133 = .ok (.iconst 3, 1) := by decide +kernel
theorem dX8_setBack_134 : decode cX8_setBack 134 = .ok (.iadd, 1) := by decide +kernel
theorem dX8_setBack_135 : decode cX8_setBack 135 = .ok (.dup2, 1) := by decide +kernel
theorem dX8_setBack_136 : decode cX8_setBack 136 = .ok (.iaload, 1) := by decide +kernel
theorem dX8_setBack_137 : decode cX8_setBack 137 = .ok (.iload_n 2, 1) := by decide +kernel
theorem dX8_setBack_138 : decode cX8_setBack 138 = .ok (.iadd, 1) := by decide +kernel
theorem dX8_setBack_139 : decode cX8_setBack 139 = .ok (.iastore, 1) := by decide +kernel
theorem dX8_setBack_140 : decode cX8_setBack 140 = .ok (.iload 4, 2) := by decide +kernel
theorem dX8_setBack_142 : decode cX8_setBack 142 = .ok (.ifCond .le 7, 3) := by decide +kernel
theorem dX8_setBack_145 : decode cX8_setBack 145 = .ok (.iconst 2, 1) := by decide +kernel
theorem dX8_setBack_146 : decode cX8_setBack 146 = .ok (.goto 4, 3) := by decide +kernel
theorem dX8_setBack_149 : decode cX8_setBack 149 = .ok (.iconst 1, 1) := by decide +kernel
theorem dX8_setBack_150 : decode cX8_setBack 150 = .ok (.ireturn, 1) := by decide +kernel
theorem dX8_turnRound_0 : decode cX8_turnRound 0 = .ok (.aload_n 0, 1) := by decide +kernel
theorem dX8_turnRound_1 : decode cX8_turnRound 1 = .ok (.getfield 7, 3) := by decide +kernel
theorem dX8_turnRound_4 : decode cX8_turnRound 4 = .ok (.bipush 9, 2) := by decide +kernel
theorem dX8_turnRound_6 : decode cX8_turnRound 6 = .ok (.iaload, 1) := by decide +kernel
theorem dX8_turnRound_7 : decode cX8_turnRound 7 = .ok (.istore_n 1, 1) := by decide +kernel
theorem dX8_turnRound_8 : decode cX8_turnRound 8 = .ok (.iconst 0, 1) := by decide +kernel
theorem dX8_turnRound_9 : decode cX8_turnRound 9 = .ok (.istore_n 2, 1) := by decide +kernel
theorem dX8_turnRound_10 : decode cX8_turnRound 10 = .ok (.iconst 2, 1) := by decide +kernel
theorem dX8_turnRound_11 : decode cX8_turnRound 11 = .ok (.iload_n 2, 1) := by decide +kernel
theorem dX8_turnRound_12 : decode cX8_turnRound 12 = .ok (.imul, 1) := by decide +kernel
theorem dX8_turnRound_13 : decode cX8_turnRound 13 = .ok (.iload_n 1, 1) := by decide +kernel
theorem dX8_turnRound_14 : decode cX8_turnRound 14 = .ok (.iconst 1, 1) := by decide +kernel
theorem dX8_turnRound_15 : decode cX8_turnRound 15 = .ok (.isub, 1) := by decide +kernel
theorem dX8_turnRound_16 : decode cX8_turnRound 16 = .ok (.if_icmp .ge 59, 3) := by decide +kernel
theorem dX8_turnRound_19 : decode cX8_turnRound 19 = .ok (.aload_n 0, 1) := by decide +kernel
theorem dX8_turnRound_20 : decode cX8_turnRound 20 = .ok (.getfield 7, 3) := by decide +kernel
theorem dX8_turnRound_23 : decode cX8_turnRound 23 = .ok (.sipush 300, 3) := by decide +kernel
theorem dX8_turnRound_26 : decode cX8_turnRound 26 = .ok (.iload_n 2, 1) := by decide +kernel
theorem dX8_turnRound_27 : decode cX8_turnRound 27 = .ok (.iadd, 1) := by decide +kernel
theorem dX8_turnRound_28 : decode cX8_turnRound 28 = .ok (.iaload, 1) := by decide +kernel
theorem dX8_turnRound_29 : decode cX8_turnRound 29 = .ok (.istore_n 3, 1) := by decide +kernel
theorem dX8_turnRound_30 : decode cX8_turnRound 30 = .ok (.aload_n 0, 1) := by decide +kernel
theorem dX8_turnRound_31 : decode cX8_turnRound 31 = .ok (.getfield 7, 3) := by decide +kernel
theorem dX8_turnRound_34 : decode cX8_turnRound 34 = .ok (.sipush 300, 3) := by decide +kernel
theorem dX8_turnRound_37 : decode cX8_turnRound 37 = .ok (.iload_n 2, 1) := by decide +kernel
theorem dX8_turnRound_38 : decode cX8_turnRound 38 = .ok (.iadd, 1) := by decide +kernel
theorem dX8_turnRound_39 : decode cX8_turnRound 39 = .ok (.aload_n 0, 1) := by decide +kernel
theorem dX8_turnRound_40 : decode cX8_turnRound 40 = .ok (.getfield 7, 3) := by decide +kernel
theorem dX8_turnRound_43 : decode cX8_turnRound 43 = .ok (.sipush 300, 3) := by decide +kernel
theorem dX8_turnRound_46 : decode cX8_turnRound 46 = .ok (.iload_n 1, 1) := by decide +kernel
theorem dX8_turnRound_47 : decode cX8_turnRound 47 = .ok (.iadd, 1) := by decide +kernel
theorem dX8_turnRound_48 : decode cX8_turnRound 48 = .ok (.iconst 1, 1) := by decide +kernel
theorem dX8_turnRound_49 : decode cX8_turnRound 49 = .ok (.isub, 1) := by decide +kernel
theorem dX8_turnRound_50 : decode cX8_turnRound 50 = .ok (.iload_n 2, 1) := by decide +kernel
theorem dX8_turnRound_51 : decode cX8_turnRound 51 = .ok (.isub, 1) := by decide +kernel
theorem dX8_turnRound_52 : decode cX8_turnRound 52 = .ok (.iaload, 1) := by decide +kernel
theorem dX8_turnRound_53 : decode cX8_turnRound 53 = .ok (.iastore, 1) := by decide +kernel
theorem dX8_turnRound_54 : decode cX8_turnRound 54 = .ok (.aload_n 0, 1) := by decide +kernel
theorem dX8_turnRound_55 : decode cX8_turnRound 55 = .ok (.getfield 7, 3) := by decide +kernel
theorem dX8_turnRound_58 : decode cX8_turnRound 58 = .ok (.sipush 300, 3) := by decide +kernel
theorem dX8_turnRound_61 : decode cX8_turnRound 61 = .ok (.iload_n 1, 1) := by decide +kernel
theorem dX8_turnRound_62 : decode cX8_turnRound 62 = .ok (.iadd, 1) := by decide +kernel
theorem dX8_turnRound_63 : decode cX8_turnRound 63 = .ok (.iconst 1, 1) := by decide +kernel
theorem dX8_turnRound_64 : decode cX8_turnRound 64 = .ok (.isub, 1) := by decide +kernel
theorem dX8_turnRound_65 : decode cX8_turnRound 65 = .ok (.iload_n 2, 1) := by decide +kernel
theorem dX8_turnRound_66 : decode cX8_turnRound 66 = .ok (.isub, 1) := by decide +kernel
theorem dX8_turnRound_67 : decode cX8_turnRound 67 = .ok (.iload_n 3, 1) := by decide +kernel
theorem dX8_turnRound_68 : decode cX8_turnRound 68 = .ok (.iastore, 1) := by decide +kernel
theorem dX8_turnRound_69 : decode cX8_turnRound 69 = .ok (.iinc 2 1, 3) := by decide +kernel
theorem dX8_turnRound_72 : decode cX8_turnRound 72 = .ok (.goto (-62), 3) := by decide +kernel
theorem dX8_turnRound_75 : decode cX8_turnRound 75 = .ok (.return_, 1) := by decide +kernel
theorem dX8_canPull_0 : decode cX8_canPull 0 = .ok (.iload_n 2, 1) := by decide +kernel
theorem dX8_canPull_1 : decode cX8_canPull 1 = .ok (.aload_n 0, 1) := by decide +kernel
theorem dX8_canPull_2 : decode cX8_canPull 2 = .ok (.iload_n 1, 1) := by decide +kernel
theorem dX8_canPull_3 : decode cX8_canPull 3 = .ok (.invokevirtual 72, 3) := by decide +kernel
theorem dX8_canPull_6 : decode cX8_canPull 6 = .ok (.if_icmp .gt 33, 3) := by decide +kernel
theorem dX8_canPull_9 : decode cX8_canPull 9 = .ok (.aload_n 0, 1) := by decide +kernel
theorem dX8_canPull_10 : decode cX8_canPull 10 = .ok (.invokevirtual 93, 3) := by decide +kernel
theorem dX8_canPull_13 : decode cX8_canPull 13 = .ok (.aload_n 0, 1) := by decide +kernel
theorem dX8_canPull_14 : decode cX8_canPull 14 = .ok (.bipush 60, 2) := by decide +kernel
theorem dX8_canPull_16 : decode cX8_canPull 16 = .ok (.bipush 30, 2) := by decide +kernel
theorem dX8_canPull_18 : decode cX8_canPull 18 = .ok (.iload_n 1, 1) := by decide +kernel
theorem dX8_canPull_19 : decode cX8_canPull 19 = .ok (.imul, 1) := by decide +kernel
theorem dX8_canPull_20 : decode cX8_canPull 20 = .ok (.iadd, 1) := by decide +kernel
theorem dX8_canPull_21 : decode cX8_canPull 21 = .ok (.iload_n 2, 1) := by decide +kernel
theorem dX8_canPull_22 : decode cX8_canPull 22 = .ok (.invokevirtual 75, 3) := by decide +kernel
theorem dX8_canPull_25 : decode cX8_canPull 25 = .ok (.iadd, 1) := by decide +kernel
theorem dX8_canPull_26 : decode cX8_canPull 26 = .ok (.aload_n 0, 1) := by decide +kernel
theorem dX8_canPull_27 : decode cX8_canPull 27 = .ok (.getfield 7, 3) := by decide +kernel
theorem dX8_canPull_30 : decode cX8_canPull 30 = .ok (.iconst 0, 1) := by decide +kernel
theorem dX8_canPull_31 : decode cX8_canPull 31 = .ok (.iaload, 1) := by decide +kernel
theorem dX8_canPull_32 : decode cX8_canPull 32 = .ok (.if_icmp .gt 7, 3) := by decide +kernel
theorem dX8_canPull_35 : decode cX8_canPull 35 = .ok (.iconst 1, 1) := by decide +kernel
theorem dX8_canPull_36 : decode cX8_canPull 36 = .ok (.goto 4, 3) := by decide +kernel
theorem dX8_canPull_39 : decode cX8_canPull 39 = .ok (.iconst 0, 1) := by decide +kernel
theorem dX8_canPull_40 : decode cX8_canPull 40 = .ok (.ireturn, 1) := by decide +kernel
theorem dX8_canPush_0 : decode cX8_canPush 0 = .ok (.iload_n 2, 1) := by decide +kernel
theorem dX8_canPush_1 : decode cX8_canPush 1 = .ok (.aload_n 0, 1) := by decide +kernel
theorem dX8_canPush_2 : decode cX8_canPush 2 = .ok (.getfield 7, 3) := by decide +kernel
theorem dX8_canPush_5 : decode cX8_canPush 5 = .ok (.bipush 9, 2) := by decide +kernel
theorem dX8_canPush_7 : decode cX8_canPush 7 = .ok (.iaload, 1) := by decide +kernel
theorem dX8_canPush_8 : decode cX8_canPush 8 = .ok (.if_icmp .gt 45, 3) := by decide +kernel
theorem dX8_canPush_11 : decode cX8_canPush 11 = .ok (.aload_n 0, 1) := by decide +kernel
theorem dX8_canPush_12 : decode cX8_canPush 12 = .ok (.iload_n 1, 1) := by decide +kernel
theorem dX8_canPush_13 : decode cX8_canPush 13 = .ok (.invokevirtual 83, 3) := by decide +kernel
theorem dX8_canPush_16 : decode cX8_canPush 16 = .ok (.aload_n 0, 1) := by decide +kernel
theorem dX8_canPush_17 : decode cX8_canPush 17 = .ok (.sipush 300, 3) := by decide +kernel
theorem dX8_canPush_20 : decode cX8_canPush 20 = .ok (.aload_n 0, 1) := by decide +kernel
theorem dX8_canPush_21 : decode cX8_canPush 21 = .ok (.getfield 7, 3) := by decide +kernel
theorem dX8_canPush_24 : decode cX8_canPush 24 = .ok (.bipush 9, 2) := by decide +kernel
theorem dX8_canPush_26 : decode cX8_canPush 26 = .ok (.iaload, 1) := by decide +kernel
theorem dX8_canPush_27 : decode cX8_canPush 27 = .ok (.iadd, 1) := by decide +kernel
theorem dX8_canPush_28 : decode cX8_canPush 28 = .ok (.iload_n 2, 1) := by decide +kernel
theorem dX8_canPush_29 : decode cX8_canPush 29 = .ok (.isub, 1) := by decide +kernel
theorem dX8_canPush_30 : decode cX8_canPush 30 = .ok (.iload_n 2, 1) := by decide +kernel
theorem dX8_canPush_31 : decode cX8_canPush 31 = .ok (.invokevirtual 75, 3) := by decide +kernel
theorem dX8_canPush_34 : decode cX8_canPush 34 = .ok (.iadd, 1) := by decide +kernel
theorem dX8_canPush_35 : decode cX8_canPush 35 = .ok (.aload_n 0, 1) := by decide +kernel
theorem dX8_canPush_36 : decode cX8_canPush 36 = .ok (.getfield 7, 3) := by decide +kernel
theorem dX8_canPush_39 : decode cX8_canPush 39 = .ok (.bipush 20, 2) := by decide +kernel
theorem dX8_canPush_41 : decode cX8_canPush 41 = .ok (.iconst 4, 1) := by decide +kernel
theorem dX8_canPush_42 : decode cX8_canPush 42 = .ok (.iload_n 1, 1) := by decide +kernel
theorem dX8_canPush_43 : decode cX8_canPush 43 = .ok (.imul, 1) := by decide +kernel
theorem dX8_canPush_44 : decode cX8_canPush 44 = .ok (.iadd, 1) := by decide +kernel
theorem dX8_canPush_45 : decode cX8_canPush 45 = .ok (.iaload, 1) := by decide +kernel
theorem dX8_canPush_46 : decode cX8_canPush 46 = .ok (.if_icmp .gt 7, 3) := by decide +kernel
theorem dX8_canPush_49 : decode cX8_canPush 49 = .ok (.iconst 1, 1) := by decide +kernel
theorem dX8_canPush_50 : decode cX8_canPush 50 = .ok (.goto 4, 3) := by decide +kernel
theorem dX8_canPush_53 : decode cX8_canPush 53 = .ok (.iconst 0, 1) := by decide +kernel
theorem dX8_canPush_54 : decode cX8_canPush 54 = .ok (.ireturn, 1) := by decide +kernel
theorem dX8_canRound_0 : decode cX8_canRound 0 = .ok (.aload_n 0, 1) := by decide +kernel
theorem dX8_canRound_1 : decode cX8_canRound 1 = .ok (.getfield 7, 3) := by decide +kernel
theorem dX8_canRound_4 : decode cX8_canRound 4 = .ok (.bipush 9, 2) := by decide +kernel
theorem dX8_canRound_6 : decode cX8_canRound 6 = .ok (.iaload, 1) := by decide +kernel
theorem dX8_canRound_7 : decode cX8_canRound 7 = .ok (.ifCond .le 20, 3) := by decide +kernel
theorem dX8_canRound_10 : decode cX8_canRound 10 = .ok (.aload_n 0, 1) := by decide +kernel
theorem dX8_canRound_11 : decode cX8_canRound 11 = .ok (.invokevirtual 93, 3) := by decide +kernel
theorem dX8_canRound_14 : decode cX8_canRound 14 = .ok (.aload_n 0, 1) := by decide +kernel
theorem dX8_canRound_15 : decode cX8_canRound 15 = .ok (.getfield 7, 3) := by decide +kernel
theorem dX8_canRound_18 : decode cX8_canRound 18 = .ok (.iconst 1, 1) := by decide +kernel
theorem dX8_canRound_19 : decode cX8_canRound 19 = .ok (.iaload, 1) := by decide +kernel
theorem dX8_canRound_20 : decode cX8_canRound 20 = .ok (.if_icmp .gt 7, 3) := by decide +kernel
theorem dX8_canRound_23 : decode cX8_canRound 23 = .ok (.iconst 1, 1) := by decide +kernel
theorem dX8_canRound_24 : decode cX8_canRound 24 = .ok (.goto 4, 3) := by decide +kernel
theorem dX8_canRound_27 : decode cX8_canRound 27 = .ok (.iconst 0, 1) := by decide +kernel
theorem dX8_canRound_28 : decode cX8_canRound 28 = .ok (.ireturn, 1) := by decide +kernel
theorem dX8_pull_0 : decode cX8_pull 0 = .ok (.aload_n 0, 1) := by decide +kernel
theorem dX8_pull_1 : decode cX8_pull 1 = .ok (.iload_n 1, 1) := by decide +kernel
theorem dX8_pull_2 : decode cX8_pull 2 = .ok (.invokevirtual 79, 3) := by decide +kernel
theorem dX8_pull_5 : decode cX8_pull 5 = .ok (.ifCond .ne 5, 3) := by decide +kernel
theorem dX8_pull_8 : decode cX8_pull 8 = .ok (.iconst (-1), 1) := by decide +kernel
theorem dX8_pull_9 : decode cX8_pull 9 = .ok (.ireturn, 1) := by decide +kernel
theorem dX8_pull_10 : decode cX8_pull 10 = .ok (.iload_n 2, 1) := by decide +kernel
theorem dX8_pull_11 : decode cX8_pull 11 = .ok (.iconst 1, 1) := by decide +kernel
theorem dX8_pull_12 : decode cX8_pull 12 = .ok (.bipush 30, 2) := by decide +kernel
theorem dX8_pull_14 : decode cX8_pull 14 = .ok (.invokestatic 55, 3) := by decide +kernel
theorem dX8_pull_17 : decode cX8_pull 17 = .ok (.ifCond .ne 6, 3) := by decide +kernel
theorem dX8_pull_20 : decode cX8_pull 20 = .ok (.bipush (-2), 2) := by decide +kernel
theorem dX8_pull_22 : decode cX8_pull 22 = .ok (.ireturn, 1) := by decide +kernel
theorem dX8_pull_23 : decode cX8_pull 23 = .ok (.aload_n 0, 1) := by decide +kernel
theorem dX8_pull_24 : decode cX8_pull 24 = .ok (.iload_n 1, 1) := by decide +kernel
theorem dX8_pull_25 : decode cX8_pull 25 = .ok (.iload_n 2, 1) := by decide +kernel
theorem dX8_pull_26 : decode cX8_pull 26 = .ok (.invokevirtual 97, 3) := by decide +kernel
theorem dX8_pull_29 : decode cX8_pull 29 = .ok (.ifCond .ne 6, 3) := by decide +kernel
theorem dX8_pull_32 : decode cX8_pull 32 = .ok (.bipush (-5), 2) := by decide +kernel
theorem dX8_pull_34 : decode cX8_pull 34 = .ok (.ireturn, 1) := by decide +kernel
theorem dX8_pull_35 : decode cX8_pull 35 = .ok (.aload_n 0, 1) := by decide +kernel
theorem dX8_pull_36 : decode cX8_pull 36 = .ok (.invokevirtual 66, 3) := by decide +kernel
theorem dX8_pull_39 : decode cX8_pull 39 = .ok (.aload_n 0, 1) := by decide +kernel
theorem dX8_pull_40 : decode cX8_pull 40 = .ok (.aload_n 0, 1) := by decide +kernel
theorem dX8_pull_41 : decode cX8_pull 41 = .ok (.getfield 7, 3) := by decide +kernel
theorem dX8_pull_44 : decode cX8_pull 44 = .ok (.iconst 2, 1) := by decide +kernel
theorem dX8_pull_45 : decode cX8_pull 45 = .ok (.iaload, 1) := by decide +kernel
theorem dX8_pull_46 : decode cX8_pull 46 = .ok (.aload_n 0, 1) := by decide +kernel
theorem dX8_pull_47 : decode cX8_pull 47 = .ok (.iload_n 1, 1) := by decide +kernel
theorem dX8_pull_48 : decode cX8_pull 48 = .ok (.iload_n 2, 1) := by decide +kernel
theorem dX8_pull_49 : decode cX8_pull 49 = .ok (.invokevirtual 101, 3) := by decide +kernel
theorem dX8_pull_52 : decode cX8_pull 52 = .ok (.invokevirtual 104, 3) := by decide +kernel
theorem dX8_pull_55 : decode cX8_pull 55 = .ok (.aload_n 0, 1) := by decide +kernel
theorem dX8_pull_56 : decode cX8_pull 56 = .ok (.getfield 7, 3) := by decide +kernel
theorem dX8_pull_59 : decode cX8_pull 59 = .ok (.bipush 9, 2) := by decide +kernel
theorem dX8_pull_61 : decode cX8_pull 61 = .ok (.iaload, 1) := by decide +kernel
theorem dX8_pull_62 : decode cX8_pull 62 = .ok (.ireturn, 1) := by decide +kernel
theorem dX8_push_0 : decode cX8_push 0 = .ok (.aload_n 0, 1) := by decide +kernel
theorem dX8_push_1 : decode cX8_push 1 = .ok (.iload_n 1, 1) := by decide +kernel
theorem dX8_push_2 : decode cX8_push 2 = .ok (.invokevirtual 79, 3) := by decide +kernel
theorem dX8_push_5 : decode cX8_push 5 = .ok (.ifCond .ne 5, 3) := by decide +kernel
theorem dX8_push_8 : decode cX8_push 8 = .ok (.iconst (-1), 1) := by decide +kernel
theorem dX8_push_9 : decode cX8_push 9 = .ok (.ireturn, 1) := by decide +kernel
theorem dX8_push_10 : decode cX8_push 10 = .ok (.iload_n 2, 1) := by decide +kernel
theorem dX8_push_11 : decode cX8_push 11 = .ok (.iconst 1, 1) := by decide +kernel
theorem dX8_push_12 : decode cX8_push 12 = .ok (.bipush 30, 2) := by decide +kernel
theorem dX8_push_14 : decode cX8_push 14 = .ok (.invokestatic 55, 3) := by decide +kernel
theorem dX8_push_17 : decode cX8_push 17 = .ok (.ifCond .ne 6, 3) := by decide +kernel
theorem dX8_push_20 : decode cX8_push 20 = .ok (.bipush (-2), 2) := by decide +kernel
theorem dX8_push_22 : decode cX8_push 22 = .ok (.ireturn, 1) := by decide +kernel
theorem dX8_push_23 : decode cX8_push 23 = .ok (.aload_n 0, 1) := by decide +kernel
theorem dX8_push_24 : decode cX8_push 24 = .ok (.iload_n 1, 1) := by decide +kernel
theorem dX8_push_25 : decode cX8_push 25 = .ok (.iload_n 2, 1) := by decide +kernel
theorem dX8_push_26 : decode cX8_push 26 = .ok (.invokevirtual 108, 3) := by decide +kernel
theorem dX8_push_29 : decode cX8_push 29 = .ok (.ifCond .ne 6, 3) := by decide +kernel
theorem dX8_push_32 : decode cX8_push 32 = .ok (.bipush (-5), 2) := by decide +kernel
theorem dX8_push_34 : decode cX8_push 34 = .ok (.ireturn, 1) := by decide +kernel
theorem dX8_push_35 : decode cX8_push 35 = .ok (.aload_n 0, 1) := by decide +kernel
theorem dX8_push_36 : decode cX8_push 36 = .ok (.invokevirtual 66, 3) := by decide +kernel
theorem dX8_push_39 : decode cX8_push 39 = .ok (.aload_n 0, 1) := by decide +kernel
theorem dX8_push_40 : decode cX8_push 40 = .ok (.aload_n 0, 1) := by decide +kernel
theorem dX8_push_41 : decode cX8_push 41 = .ok (.getfield 7, 3) := by decide +kernel
theorem dX8_push_44 : decode cX8_push 44 = .ok (.iconst 2, 1) := by decide +kernel
theorem dX8_push_45 : decode cX8_push 45 = .ok (.iaload, 1) := by decide +kernel
theorem dX8_push_46 : decode cX8_push 46 = .ok (.aload_n 0, 1) := by decide +kernel
theorem dX8_push_47 : decode cX8_push 47 = .ok (.iload_n 1, 1) := by decide +kernel
theorem dX8_push_48 : decode cX8_push 48 = .ok (.iload_n 2, 1) := by decide +kernel
theorem dX8_push_49 : decode cX8_push 49 = .ok (.invokevirtual 111, 3) := by decide +kernel
theorem dX8_push_52 : decode cX8_push 52 = .ok (.invokevirtual 104, 3) := by decide +kernel
theorem dX8_push_55 : decode cX8_push 55 = .ok (.aload_n 0, 1) := by decide +kernel
theorem dX8_push_56 : decode cX8_push 56 = .ok (.getfield 7, 3) := by decide +kernel
theorem dX8_push_59 : decode cX8_push 59 = .ok (.bipush 9, 2) := by decide +kernel
theorem dX8_push_61 : decode cX8_push 61 = .ok (.iaload, 1) := by decide +kernel
theorem dX8_push_62 : decode cX8_push 62 = .ok (.ireturn, 1) := by decide +kernel
theorem dX8_round_0 : decode cX8_round 0 = .ok (.aload_n 0, 1) := by decide +kernel
theorem dX8_round_1 : decode cX8_round 1 = .ok (.invokevirtual 114, 3) := by decide +kernel
theorem dX8_round_4 : decode cX8_round 4 = .ok (.ifCond .ne 6, 3) := by decide +kernel
theorem dX8_round_7 : decode cX8_round 7 = .ok (.bipush (-5), 2) := by decide +kernel
theorem dX8_round_9 : decode cX8_round 9 = .ok (.ireturn, 1) := by decide +kernel
theorem dX8_round_10 : decode cX8_round 10 = .ok (.aload_n 0, 1) := by decide +kernel
theorem dX8_round_11 : decode cX8_round 11 = .ok (.invokevirtual 66, 3) := by decide +kernel
theorem dX8_round_14 : decode cX8_round 14 = .ok (.aload_n 0, 1) := by decide +kernel
theorem dX8_round_15 : decode cX8_round 15 = .ok (.invokevirtual 118, 3) := by decide +kernel
theorem dX8_round_18 : decode cX8_round 18 = .ok (.aload_n 0, 1) := by decide +kernel
theorem dX8_round_19 : decode cX8_round 19 = .ok (.aload_n 0, 1) := by decide +kernel
theorem dX8_round_20 : decode cX8_round 20 = .ok (.getfield 7, 3) := by decide +kernel
theorem dX8_round_23 : decode cX8_round 23 = .ok (.iconst 4, 1) := by decide +kernel
theorem dX8_round_24 : decode cX8_round 24 = .ok (.iaload, 1) := by decide +kernel
theorem dX8_round_25 : decode cX8_round 25 = .ok (.iconst 2, 1) := by decide +kernel
theorem dX8_round_26 : decode cX8_round 26 = .ok (.invokevirtual 104, 3) := by decide +kernel
theorem dX8_round_29 : decode cX8_round 29 = .ok (.aload_n 0, 1) := by decide +kernel
theorem dX8_round_30 : decode cX8_round 30 = .ok (.getfield 7, 3) := by decide +kernel
theorem dX8_round_33 : decode cX8_round 33 = .ok (.bipush 6, 2) := by decide +kernel
theorem dX8_round_35 : decode cX8_round 35 = .ok (.iaload, 1) := by decide +kernel
theorem dX8_round_36 : decode cX8_round 36 = .ok (.ireturn, 1) := by decide +kernel
theorem dX8_pass_0 : decode cX8_pass 0 = .ok (.iload_n 1, 1) := by decide +kernel
theorem dX8_pass_1 : decode cX8_pass 1 = .ok (.iconst 1, 1) := by decide +kernel
theorem dX8_pass_2 : decode cX8_pass 2 = .ok (.sipush 999, 3) := by decide +kernel
theorem dX8_pass_5 : decode cX8_pass 5 = .ok (.invokestatic 55, 3) := by decide +kernel
theorem dX8_pass_8 : decode cX8_pass 8 = .ok (.ifCond .ne 6, 3) := by decide +kernel
theorem dX8_pass_11 : decode cX8_pass 11 = .ok (.bipush (-2), 2) := by decide +kernel
theorem dX8_pass_13 : decode cX8_pass 13 = .ok (.ireturn, 1) := by decide +kernel
theorem dX8_pass_14 : decode cX8_pass 14 = .ok (.aload_n 0, 1) := by decide +kernel
theorem dX8_pass_15 : decode cX8_pass 15 = .ok (.invokevirtual 66, 3) := by decide +kernel
theorem dX8_pass_18 : decode cX8_pass 18 = .ok (.aload_n 0, 1) := by decide +kernel
theorem dX8_pass_19 : decode cX8_pass 19 = .ok (.aload_n 0, 1) := by decide +kernel
theorem dX8_pass_20 : decode cX8_pass 20 = .ok (.getfield 7, 3) := by decide +kernel
theorem dX8_pass_23 : decode cX8_pass 23 = .ok (.bipush 6, 2) := by decide +kernel
theorem dX8_pass_25 : decode cX8_pass 25 = .ok (.iaload, 1) := by decide +kernel
theorem dX8_pass_26 : decode cX8_pass 26 = .ok (.iload_n 1, 1) := by decide +kernel
theorem dX8_pass_27 : decode cX8_pass 27 = .ok (.iadd, 1) := by decide +kernel
theorem dX8_pass_28 : decode cX8_pass 28 = .ok (.invokevirtual 89, 3) := by decide +kernel
theorem dX8_pass_31 : decode cX8_pass 31 = .ok (.aload_n 0, 1) := by decide +kernel
theorem dX8_pass_32 : decode cX8_pass 32 = .ok (.getfield 7, 3) := by decide +kernel
theorem dX8_pass_35 : decode cX8_pass 35 = .ok (.bipush 6, 2) := by decide +kernel
theorem dX8_pass_37 : decode cX8_pass 37 = .ok (.iaload, 1) := by decide +kernel
theorem dX8_pass_38 : decode cX8_pass 38 = .ok (.ireturn, 1) := by decide +kernel
theorem dX8_isTrain_0 : decode cX8_isTrain 0 = .ok (.iload_n 1, 1) := by decide +kernel
theorem dX8_isTrain_1 : decode cX8_isTrain 1 = .ok (.iconst 0, 1) := by decide +kernel
theorem dX8_isTrain_2 : decode cX8_isTrain 2 = .ok (.aload_n 0, 1) := by decide +kernel
theorem dX8_isTrain_3 : decode cX8_isTrain 3 = .ok (.getfield 7, 3) := by decide +kernel
theorem dX8_isTrain_6 : decode cX8_isTrain 6 = .ok (.bipush 11, 2) := by decide +kernel
theorem dX8_isTrain_8 : decode cX8_isTrain 8 = .ok (.iaload, 1) := by decide +kernel
theorem dX8_isTrain_9 : decode cX8_isTrain 9 = .ok (.iconst 1, 1) := by decide +kernel
theorem dX8_isTrain_10 : decode cX8_isTrain 10 = .ok (.isub, 1) := by decide +kernel
theorem dX8_isTrain_11 : decode cX8_isTrain 11 = .ok (.invokestatic 55, 3) := by decide +kernel
theorem dX8_isTrain_14 : decode cX8_isTrain 14 = .ok (.ireturn, 1) := by decide +kernel
theorem dX8_trainOf_0 : decode cX8_trainOf 0 = .ok (.iconst 0, 1) := by decide +kernel
theorem dX8_trainOf_1 : decode cX8_trainOf 1 = .ok (.istore_n 2, 1) := by decide +kernel
theorem dX8_trainOf_2 : decode cX8_trainOf 2 = .ok (.iload_n 2, 1) := by decide +kernel
theorem dX8_trainOf_3 : decode cX8_trainOf 3 = .ok (.aload_n 0, 1) := by decide +kernel
theorem dX8_trainOf_4 : decode cX8_trainOf 4 = .ok (.getfield 7, 3) := by decide +kernel
theorem dX8_trainOf_7 : decode cX8_trainOf 7 = .ok (.bipush 11, 2) := by decide +kernel
theorem dX8_trainOf_9 : decode cX8_trainOf 9 = .ok (.iaload, 1) := by decide +kernel
theorem dX8_trainOf_10 : decode cX8_trainOf 10 = .ok (.if_icmp .ge 59, 3) := by decide +kernel
theorem dX8_trainOf_13 : decode cX8_trainOf 13 = .ok (.iconst 0, 1) := by decide +kernel
theorem dX8_trainOf_14 : decode cX8_trainOf 14 = .ok (.istore_n 3, 1) := by decide +kernel
theorem dX8_trainOf_15 : decode cX8_trainOf 15 = .ok (.iload_n 3, 1) := by decide +kernel
theorem dX8_trainOf_16 : decode cX8_trainOf 16 = .ok (.aload_n 0, 1) := by decide +kernel
theorem dX8_trainOf_17 : decode cX8_trainOf 17 = .ok (.getfield 7, 3) := by decide +kernel
theorem dX8_trainOf_20 : decode cX8_trainOf 20 = .ok (.sipush 450, 3) := by decide +kernel
theorem dX8_trainOf_23 : decode cX8_trainOf 23 = .ok (.bipush 10, 2) := by decide +kernel
theorem dX8_trainOf_25 : decode cX8_trainOf 25 = .ok (.iload_n 2, 1) := by decide +kernel
theorem dX8_trainOf_26 : decode cX8_trainOf 26 = .ok (.imul, 1) := by decide +kernel
theorem dX8_trainOf_27 : decode cX8_trainOf 27 = .ok (.iadd, 1) := by decide +kernel
theorem dX8_trainOf_28 : decode cX8_trainOf 28 = .ok (.iconst 1, 1) := by decide +kernel
theorem dX8_trainOf_29 : decode cX8_trainOf 29 = .ok (.iadd, 1) := by decide +kernel
theorem dX8_trainOf_30 : decode cX8_trainOf 30 = .ok (.iaload, 1) := by decide +kernel
theorem dX8_trainOf_31 : decode cX8_trainOf 31 = .ok (.if_icmp .ge 32, 3) := by decide +kernel
theorem dX8_trainOf_34 : decode cX8_trainOf 34 = .ok (.aload_n 0, 1) := by decide +kernel
theorem dX8_trainOf_35 : decode cX8_trainOf 35 = .ok (.getfield 7, 3) := by decide +kernel
theorem dX8_trainOf_38 : decode cX8_trainOf 38 = .ok (.sipush 450, 3) := by decide +kernel
theorem dX8_trainOf_41 : decode cX8_trainOf 41 = .ok (.bipush 10, 2) := by decide +kernel
theorem dX8_trainOf_43 : decode cX8_trainOf 43 = .ok (.iload_n 2, 1) := by decide +kernel
theorem dX8_trainOf_44 : decode cX8_trainOf 44 = .ok (.imul, 1) := by decide +kernel
theorem dX8_trainOf_45 : decode cX8_trainOf 45 = .ok (.iadd, 1) := by decide +kernel
theorem dX8_trainOf_46 : decode cX8_trainOf 46 = .ok (.iconst 2, 1) := by decide +kernel
theorem dX8_trainOf_47 : decode cX8_trainOf 47 = .ok (.iadd, 1) := by decide +kernel
theorem dX8_trainOf_48 : decode cX8_trainOf 48 = .ok (.iload_n 3, 1) := by decide +kernel
theorem dX8_trainOf_49 : decode cX8_trainOf 49 = .ok (.iadd, 1) := by decide +kernel
theorem dX8_trainOf_50 : decode cX8_trainOf 50 = .ok (.iaload, 1) := by decide +kernel
theorem dX8_trainOf_51 : decode cX8_trainOf 51 = .ok (.iload_n 1, 1) := by decide +kernel
theorem dX8_trainOf_52 : decode cX8_trainOf 52 = .ok (.if_icmp .ne 5, 3) := by decide +kernel
theorem dX8_trainOf_55 : decode cX8_trainOf 55 = .ok (.iload_n 2, 1) := by decide +kernel
theorem dX8_trainOf_56 : decode cX8_trainOf 56 = .ok (.ireturn, 1) := by decide +kernel
theorem dX8_trainOf_57 : decode cX8_trainOf 57 = .ok (.iinc 3 1, 3) := by decide +kernel
theorem dX8_trainOf_60 : decode cX8_trainOf 60 = .ok (.goto (-45), 3) := by decide +kernel
theorem dX8_trainOf_63 : decode cX8_trainOf 63 = .ok (.iinc 2 1, 3) := by decide +kernel
theorem dX8_trainOf_66 : decode cX8_trainOf 66 = .ok (.goto (-64), 3) := by decide +kernel
theorem dX8_trainOf_69 : decode cX8_trainOf 69 = .ok (.bipush (-6), 2) := by decide +kernel
theorem dX8_trainOf_71 : decode cX8_trainOf 71 = .ok (.ireturn, 1) := by decide +kernel
theorem dX8_readList_0 : decode cX8_readList 0 = .ok (.lload_n 1, 1) := by decide +kernel
theorem dX8_readList_1 : decode cX8_readList 1 = .ok (.lstore_n 3, 1) := by decide +kernel
theorem dX8_readList_2 : decode cX8_readList 2 = .ok (.iconst 0, 1) := by decide +kernel
theorem dX8_readList_3 : decode cX8_readList 3 = .ok (.istore 5, 2) := by decide +kernel
theorem dX8_readList_5 : decode cX8_readList 5 = .ok (.iconst 0, 1) := by decide +kernel
theorem dX8_readList_6 : decode cX8_readList 6 = .ok (.istore 6, 2) := by decide +kernel
theorem dX8_readList_8 : decode cX8_readList 8 = .ok (.lload_n 3, 1) := by decide +kernel
theorem dX8_readList_9 : decode cX8_readList 9 = .ok (.lconst 0, 1) := by decide +kernel
theorem dX8_readList_10 : decode cX8_readList 10 = .ok (.lcmp, 1) := by decide +kernel
theorem dX8_readList_11 : decode cX8_readList 11 = .ok (.ifCond .le 90, 3) := by decide +kernel
theorem dX8_readList_14 : decode cX8_readList 14 = .ok (.lload_n 3, 1) := by decide +kernel
theorem dX8_readList_15 : decode cX8_readList 15 = .ok (.ldc2_w 121, 3) := by decide +kernel
theorem dX8_readList_18 : decode cX8_readList 18 = .ok (.lrem, 1) := by decide +kernel
theorem dX8_readList_19 : decode cX8_readList 19 = .ok (.l2i, 1) := by decide +kernel
theorem dX8_readList_20 : decode cX8_readList 20 = .ok (.iconst 1, 1) := by decide +kernel
theorem dX8_readList_21 : decode cX8_readList 21 = .ok (.isub, 1) := by decide +kernel
theorem dX8_readList_22 : decode cX8_readList 22 = .ok (.istore 7, 2) := by decide +kernel
theorem dX8_readList_24 : decode cX8_readList 24 = .ok (.iload 5, 2) := by decide +kernel
theorem dX8_readList_26 : decode cX8_readList 26 = .ok (.bipush 8, 2) := by decide +kernel
theorem dX8_readList_28 : decode cX8_readList 28 = .ok (.if_icmp .eq 41, 3) := by decide +kernel
theorem dX8_readList_31 : decode cX8_readList 31 = .ok (.aload_n 0, 1) := by decide +kernel
theorem dX8_readList_32 : decode cX8_readList 32 = .ok (.iload 7, 2) := by decide +kernel
theorem dX8_readList_34 : decode cX8_readList 34 = .ok (.invokevirtual 123, 3) := by decide +kernel
theorem dX8_readList_37 : decode cX8_readList 37 = .ok (.ifCond .eq 32, 3) := by decide +kernel
theorem dX8_readList_40 : decode cX8_readList 40 = .ok (.aload_n 0, 1) := by decide +kernel
theorem dX8_readList_41 : decode cX8_readList 41 = .ok (.getfield 7, 3) := by decide +kernel
theorem dX8_readList_44 : decode cX8_readList 44 = .ok (.sipush 330, 3) := by decide +kernel
theorem dX8_readList_47 : decode cX8_readList 47 = .ok (.iconst 4, 1) := by decide +kernel
theorem dX8_readList_48 : decode cX8_readList 48 = .ok (.iload 7, 2) := by decide +kernel
theorem dX8_readList_50 : decode cX8_readList 50 = .ok (.imul, 1) := by decide +kernel
theorem dX8_readList_51 : decode cX8_readList 51 = .ok (.iadd, 1) := by decide +kernel
theorem dX8_readList_52 : decode cX8_readList 52 = .ok (.iconst 1, 1) := by decide +kernel
theorem dX8_readList_53 : decode cX8_readList 53 = .ok (.iadd, 1) := by decide +kernel
theorem dX8_readList_54 : decode cX8_readList 54 = .ok (.iaload, 1) := by decide +kernel
theorem dX8_readList_55 : decode cX8_readList 55 = .ok (.ifCond .ge 14, 3) := by decide +kernel
theorem dX8_readList_58 : decode cX8_readList 58 = .ok (.iload 6, 2) := by decide +kernel
theorem dX8_readList_60 : decode cX8_readList 60 = .ok (.iload 7, 2) := by decide +kernel
theorem dX8_readList_62 : decode cX8_readList 62 = .ok (.ishr, 1) := by decide +kernel
theorem dX8_readList_63 : decode cX8_readList 63 = .ok (.iconst 1, 1) := by decide +kernel
theorem dX8_readList_64 : decode cX8_readList 64 = .ok (.iand, 1) := by decide +kernel
theorem dX8_readList_65 : decode cX8_readList 65 = .ok (.iconst 1, 1) := by decide +kernel
theorem dX8_readList_66 : decode cX8_readList 66 = .ok (.if_icmp .ne 5, 3) := by decide +kernel
theorem dX8_readList_69 : decode cX8_readList 69 = .ok (.iconst 0, 1) := by decide +kernel
theorem dX8_readList_70 : decode cX8_readList 70 = .ok (.ireturn, 1) := by decide +kernel
theorem dX8_readList_71 : decode cX8_readList 71 = .ok (.aload_n 0, 1) := by decide +kernel
theorem dX8_readList_72 : decode cX8_readList 72 = .ok (.getfield 32, 3) := by decide +kernel
theorem dX8_readList_75 : decode cX8_readList 75 = .ok (.iload 5, 2) := by decide +kernel
theorem dX8_readList_77 : decode cX8_readList 77 = .ok (.iload 7, 2) := by decide +kernel
theorem dX8_readList_79 : decode cX8_readList 79 = .ok (.iastore, 1) := by decide +kernel
theorem dX8_readList_80 : decode cX8_readList 80 = .ok (.iload 6, 2) := by decide +kernel
theorem dX8_readList_82 : decode cX8_readList 82 = .ok (.iconst 1, 1) := by decide +kernel
theorem dX8_readList_83 : decode cX8_readList 83 = .ok (.iload 7, 2) := by decide +kernel
theorem dX8_readList_85 : decode cX8_readList 85 = .ok (.ishl, 1) := by decide +kernel
theorem dX8_readList_86 : decode cX8_readList 86 = .ok (.ior, 1) := by decide +kernel
theorem dX8_readList_87 : decode cX8_readList 87 = .ok (.istore 6, 2) := by decide +kernel
theorem dX8_readList_89 : decode cX8_readList 89 = .ok (.iinc 5 1, 3) := by decide +kernel
theorem dX8_readList_92 : decode cX8_readList 92 = .ok (.lload_n 3, 1) := by decide +kernel
theorem dX8_readList_93 : decode cX8_readList 93 = .ok (.ldc2_w 121, 3) := by decide +kernel
theorem dX8_readList_96 : decode cX8_readList 96 = .ok (.ldiv, 1) := by decide +kernel
theorem dX8_readList_97 : decode cX8_readList 97 = .ok (.lstore_n 3, 1) := by decide +kernel
theorem dX8_readList_98 : decode cX8_readList 98 = .ok (.goto (-90), 3) := by decide +kernel
theorem dX8_readList_101 : decode cX8_readList 101 = .ok (.iload 5, 2) := by decide +kernel
theorem dX8_readList_103 : decode cX8_readList 103 = .ok (.ireturn, 1) := by decide +kernel
theorem dX8_train_0 : decode cX8_train 0 = .ok (.aload_n 0, 1) := by decide +kernel
theorem dX8_train_1 : decode cX8_train 1 = .ok (.lload_n 1, 1) := by decide +kernel
theorem dX8_train_2 : decode cX8_train 2 = .ok (.invokevirtual 126, 3) := by decide +kernel
theorem dX8_train_5 : decode cX8_train 5 = .ok (.istore 4, 2) := by decide +kernel
theorem dX8_train_7 : decode cX8_train 7 = .ok (.iload 4, 2) := by decide +kernel
theorem dX8_train_9 : decode cX8_train 9 = .ok (.iconst 1, 1) := by decide +kernel
theorem dX8_train_10 : decode cX8_train 10 = .ok (.if_icmp .lt 28, 3) := by decide +kernel
theorem dX8_train_13 : decode cX8_train 13 = .ok (.iload_n 3, 1) := by decide +kernel
theorem dX8_train_14 : decode cX8_train 14 = .ok (.aload_n 0, 1) := by decide +kernel
theorem dX8_train_15 : decode cX8_train 15 = .ok (.getfield 7, 3) := by decide +kernel
theorem dX8_train_18 : decode cX8_train 18 = .ok (.bipush 6, 2) := by decide +kernel
theorem dX8_train_20 : decode cX8_train 20 = .ok (.iaload, 1) := by decide +kernel
theorem dX8_train_21 : decode cX8_train 21 = .ok (.aload_n 0, 1) := by decide +kernel
theorem dX8_train_22 : decode cX8_train 22 = .ok (.getfield 7, 3) := by decide +kernel
theorem dX8_train_25 : decode cX8_train 25 = .ok (.bipush 6, 2) := by decide +kernel
theorem dX8_train_27 : decode cX8_train 27 = .ok (.iaload, 1) := by decide +kernel
theorem dX8_train_28 : decode cX8_train 28 = .ok (.sipush 5000, 3) := by decide +kernel
theorem dX8_train_31 : decode cX8_train 31 = .ok (.iadd, 1) := by decide +kernel
theorem dX8_train_32 : decode cX8_train 32 = .ok (.invokestatic 55, 3) := by decide +kernel
theorem dX8_train_35 : decode cX8_train 35 = .ok (.ifCond .ne 6, 3) := by decide +kernel
theorem dX8_train_38 : decode cX8_train 38 = .ok (.bipush (-2), 2) := by decide +kernel
theorem dX8_train_40 : decode cX8_train 40 = .ok (.ireturn, 1) := by decide +kernel
theorem dX8_train_41 : decode cX8_train 41 = .ok (.aload_n 0, 1) := by decide +kernel
theorem dX8_train_42 : decode cX8_train 42 = .ok (.getfield 7, 3) := by decide +kernel
theorem dX8_train_45 : decode cX8_train 45 = .ok (.bipush 11, 2) := by decide +kernel
theorem dX8_train_47 : decode cX8_train 47 = .ok (.iaload, 1) := by decide +kernel
theorem dX8_train_48 : decode cX8_train 48 = .ok (.bipush 8, 2) := by decide +kernel
theorem dX8_train_50 : decode cX8_train 50 = .ok (.if_icmp .ne 6, 3) := by decide +kernel
theorem dX8_train_53 : decode cX8_train 53 = .ok (.bipush (-4), 2) := by decide +kernel
theorem dX8_train_55 : decode cX8_train 55 = .ok (.ireturn, 1) := by decide +kernel
theorem dX8_train_56 : decode cX8_train 56 = .ok (.iconst 0, 1) := by decide +kernel
theorem dX8_train_57 : decode cX8_train 57 = .ok (.istore 5, 2) := by decide +kernel
theorem dX8_train_59 : decode cX8_train 59 = .ok (.iload 5, 2) := by decide +kernel
theorem dX8_train_61 : decode cX8_train 61 = .ok (.iload 4, 2) := by decide +kernel
theorem dX8_train_63 : decode cX8_train 63 = .ok (.if_icmp .ge 26, 3) := by decide +kernel
theorem dX8_train_66 : decode cX8_train 66 = .ok (.aload_n 0, 1) := by decide +kernel
theorem dX8_train_67 : decode cX8_train 67 = .ok (.aload_n 0, 1) := by decide +kernel
theorem dX8_train_68 : decode cX8_train 68 = .ok (.getfield 32, 3) := by decide +kernel
theorem dX8_train_71 : decode cX8_train 71 = .ok (.iload 5, 2) := by decide +kernel
theorem dX8_train_73 : decode cX8_train 73 = .ok (.iaload, 1) := by decide +kernel
theorem dX8_train_74 : decode cX8_train 74 = .ok (.invokevirtual 130, 3) := by decide +kernel
theorem dX8_train_77 : decode cX8_train 77 = .ok (.ifCond .lt 6, 3) := by decide +kernel
theorem dX8_train_80 : decode cX8_train 80 = .ok (.bipush (-5), 2) := by decide +kernel
theorem dX8_train_82 : decode cX8_train 82 = .ok (.ireturn, 1) := by decide +kernel
theorem dX8_train_83 : decode cX8_train 83 = .ok (.iinc 5 1, 3) := by decide +kernel
theorem dX8_train_86 : decode cX8_train 86 = .ok (.goto (-27), 3) := by decide +kernel
theorem dX8_train_89 : decode cX8_train 89 = .ok (.aload_n 0, 1) := by decide +kernel
theorem dX8_train_90 : decode cX8_train 90 = .ok (.invokevirtual 66, 3) := by decide +kernel
theorem dX8_train_93 : decode cX8_train 93 = .ok (.sipush 450, 3) := by decide +kernel
theorem dX8_train_96 : decode cX8_train 96 = .ok (.bipush 10, 2) := by decide +kernel
theorem dX8_train_98 : decode cX8_train 98 = .ok (.aload_n 0, 1) := by decide +kernel
theorem dX8_train_99 : decode cX8_train 99 = .ok (.getfield 7, 3) := by decide +kernel
theorem dX8_train_102 : decode cX8_train 102 = .ok (.bipush 11, 2) := by decide +kernel
theorem dX8_train_104 : decode cX8_train 104 = .ok (.iaload, 1) := by decide +kernel
theorem dX8_train_105 : decode cX8_train 105 = .ok (.imul, 1) := by decide +kernel
theorem dX8_train_106 : decode cX8_train 106 = .ok (.iadd, 1) := by decide +kernel
theorem dX8_train_107 : decode cX8_train 107 = .ok (.istore 5, 2) := by decide +kernel
theorem dX8_train_109 : decode cX8_train 109 = .ok (.aload_n 0, 1) := by decide +kernel
theorem dX8_train_110 : decode cX8_train 110 = .ok (.getfield 7, 3) := by decide +kernel
theorem dX8_train_113 : decode cX8_train 113 = .ok (.iload 5, 2) := by decide +kernel
theorem dX8_train_115 : decode cX8_train 115 = .ok (.iload_n 3, 1) := by decide +kernel
theorem dX8_train_116 : decode cX8_train 116 = .ok (.iastore, 1) := by decide +kernel
theorem dX8_train_117 : decode cX8_train 117 = .ok (.aload_n 0, 1) := by decide +kernel
theorem dX8_train_118 : decode cX8_train 118 = .ok (.getfield 7, 3) := by decide +kernel
theorem dX8_train_121 : decode cX8_train 121 = .ok (.iload 5, 2) := by decide +kernel
theorem dX8_train_123 : decode cX8_train 123 = .ok (.iconst 1, 1) := by decide +kernel
theorem dX8_train_124 : decode cX8_train 124 = .ok (.iadd, 1) := by decide +kernel
theorem dX8_train_125 : decode cX8_train 125 = .ok (.iload 4, 2) := by decide +kernel
theorem dX8_train_127 : decode cX8_train 127 = .ok (.iastore, 1) := by decide +kernel
theorem dX8_train_128 : decode cX8_train 128 = .ok (.iconst 0, 1) := by decide +kernel
theorem dX8_train_129 : decode cX8_train 129 = .ok (.istore 6, 2) := by decide +kernel
theorem dX8_train_131 : decode cX8_train 131 = .ok (.iload 6, 2) := by decide +kernel
theorem dX8_train_133 : decode cX8_train 133 = .ok (.iload 4, 2) := by decide +kernel
theorem dX8_train_135 : decode cX8_train 135 = .ok (.if_icmp .ge 28, 3) := by decide +kernel
theorem dX8_train_138 : decode cX8_train 138 = .ok (.aload_n 0, 1) := by decide +kernel
theorem dX8_train_139 : decode cX8_train 139 = .ok (.getfield 7, 3) := by decide +kernel
theorem dX8_train_142 : decode cX8_train 142 = .ok (.iload 5, 2) := by decide +kernel
theorem dX8_train_144 : decode cX8_train 144 = .ok (.iconst 2, 1) := by decide +kernel
theorem dX8_train_145 : decode cX8_train 145 = .ok (.iadd, 1) := by decide +kernel
theorem dX8_train_146 : decode cX8_train 146 = .ok (.iload 6, 2) := by decide +kernel
theorem dX8_train_148 : decode cX8_train 148 = .ok (.iadd, 1) := by decide +kernel
theorem dX8_train_149 : decode cX8_train 149 = .ok (.aload_n 0, 1) := by decide +kernel
theorem dX8_train_150 : decode cX8_train 150 = .ok (.getfield 32, 3) := by decide +kernel
theorem dX8_train_153 : decode cX8_train 153 = .ok (.iload 6, 2) := by decide +kernel
theorem dX8_train_155 : decode cX8_train 155 = .ok (.iaload, 1) := by decide +kernel
theorem dX8_train_156 : decode cX8_train 156 = .ok (.iastore, 1) := by decide +kernel
theorem dX8_train_157 : decode cX8_train 157 = .ok (.iinc 6 1, 3) := by decide +kernel
theorem dX8_train_160 : decode cX8_train 160 = .ok (.goto (-29), 3) := by decide +kernel
theorem dX8_train_163 : decode cX8_train 163 = .ok (.aload_n 0, 1) := by decide +kernel
theorem dX8_train_164 : decode cX8_train 164 = .ok (.getfield 7, 3) := by decide +kernel
theorem dX8_train_167 : decode cX8_train 167 = .ok (.bipush 11, 2) := by decide +kernel
theorem dX8_train_169 : decode cX8_train 169 = .ok (.dup2, 1) := by decide +kernel
theorem dX8_train_170 : decode cX8_train 170 = .ok (.iaload, 1) := by decide +kernel
theorem dX8_train_171 : decode cX8_train 171 = .ok (.iconst 1, 1) := by decide +kernel
theorem dX8_train_172 : decode cX8_train 172 = .ok (.iadd, 1) := by decide +kernel
theorem dX8_train_173 : decode cX8_train 173 = .ok (.iastore, 1) := by decide +kernel
theorem dX8_train_174 : decode cX8_train 174 = .ok (.aload_n 0, 1) := by decide +kernel
theorem dX8_train_175 : decode cX8_train 175 = .ok (.getfield 7, 3) := by decide +kernel
theorem dX8_train_178 : decode cX8_train 178 = .ok (.bipush 11, 2) := by decide +kernel
theorem dX8_train_180 : decode cX8_train 180 = .ok (.iaload, 1) := by decide +kernel
theorem dX8_train_181 : decode cX8_train 181 = .ok (.iconst 1, 1) := by decide +kernel
theorem dX8_train_182 : decode cX8_train 182 = .ok (.isub, 1) := by decide +kernel
theorem dX8_train_183 : decode cX8_train 183 = .ok (.ireturn, 1) := by decide +kernel
theorem dX8_dropTrain_0 : decode cX8_dropTrain 0 = .ok (.aload_n 0, 1) := by decide +kernel
theorem dX8_dropTrain_1 : decode cX8_dropTrain 1 = .ok (.getfield 7, 3) := by decide +kernel
theorem dX8_dropTrain_4 : decode cX8_dropTrain 4 = .ok (.bipush 11, 2) := by decide +kernel
theorem dX8_dropTrain_6 : decode cX8_dropTrain 6 = .ok (.dup2, 1) := by decide +kernel
theorem dX8_dropTrain_7 : decode cX8_dropTrain 7 = .ok (.iaload, 1) := by decide +kernel
theorem dX8_dropTrain_8 : decode cX8_dropTrain 8 = .ok (.iconst 1, 1) := by decide +kernel
theorem dX8_dropTrain_9 : decode cX8_dropTrain 9 = .ok (.isub, 1) := by decide +kernel
theorem dX8_dropTrain_10 : decode cX8_dropTrain 10 = .ok (.iastore, 1) := by decide +kernel
theorem dX8_dropTrain_11 : decode cX8_dropTrain 11 = .ok (.sipush 450, 3) := by decide +kernel
theorem dX8_dropTrain_14 : decode cX8_dropTrain 14 = .ok (.bipush 10, 2) := by decide +kernel
theorem dX8_dropTrain_16 : decode cX8_dropTrain 16 = .ok (.iload_n 1, 1) := by decide +kernel
theorem dX8_dropTrain_17 : decode cX8_dropTrain 17 = .ok (.imul, 1) := by decide +kernel
theorem dX8_dropTrain_18 : decode cX8_dropTrain 18 = .ok (.iadd, 1) := by decide +kernel
theorem dX8_dropTrain_19 : decode cX8_dropTrain 19 = .ok (.istore_n 2, 1) := by decide +kernel
theorem dX8_dropTrain_20 : decode cX8_dropTrain 20 = .ok (.iload_n 2, 1) := by decide +kernel
theorem dX8_dropTrain_21 : decode cX8_dropTrain 21 = .ok (.sipush 450, 3) := by decide +kernel
theorem dX8_dropTrain_24 : decode cX8_dropTrain 24 = .ok (.bipush 10, 2) := by decide +kernel
theorem dX8_dropTrain_26 : decode cX8_dropTrain 26 = .ok (.aload_n 0, 1) := by decide +kernel
theorem dX8_dropTrain_27 : decode cX8_dropTrain 27 = .ok (.getfield 7, 3) := by decide +kernel
theorem dX8_dropTrain_30 : decode cX8_dropTrain 30 = .ok (.bipush 11, 2) := by decide +kernel
theorem dX8_dropTrain_32 : decode cX8_dropTrain 32 = .ok (.iaload, 1) := by decide +kernel
theorem dX8_dropTrain_33 : decode cX8_dropTrain 33 = .ok (.imul, 1) := by decide +kernel
theorem dX8_dropTrain_34 : decode cX8_dropTrain 34 = .ok (.iadd, 1) := by decide +kernel
theorem dX8_dropTrain_35 : decode cX8_dropTrain 35 = .ok (.if_icmp .ge 24, 3) := by decide +kernel
theorem dX8_dropTrain_38 : decode cX8_dropTrain 38 = .ok (.aload_n 0, 1) := by decide +kernel
theorem dX8_dropTrain_39 : decode cX8_dropTrain 39 = .ok (.getfield 7, 3) := by decide +kernel
theorem dX8_dropTrain_42 : decode cX8_dropTrain 42 = .ok (.iload_n 2, 1) := by decide +kernel
theorem dX8_dropTrain_43 : decode cX8_dropTrain 43 = .ok (.aload_n 0, 1) := by decide +kernel
theorem dX8_dropTrain_44 : decode cX8_dropTrain 44 = .ok (.getfield 7, 3) := by decide +kernel
theorem dX8_dropTrain_47 : decode cX8_dropTrain 47 = .ok (.iload_n 2, 1) := by decide +kernel
theorem dX8_dropTrain_48 : decode cX8_dropTrain 48 = .ok (.bipush 10, 2) := by decide +kernel
theorem dX8_dropTrain_50 : decode cX8_dropTrain 50 = .ok (.iadd, 1) := by decide +kernel
theorem dX8_dropTrain_51 : decode cX8_dropTrain 51 = .ok (.iaload, 1) := by decide +kernel
theorem dX8_dropTrain_52 : decode cX8_dropTrain 52 = .ok (.iastore, 1) := by decide +kernel
theorem dX8_dropTrain_53 : decode cX8_dropTrain 53 = .ok (.iinc 2 1, 3) := by decide +kernel
theorem dX8_dropTrain_56 : decode cX8_dropTrain 56 = .ok (.goto (-36), 3) := by decide +kernel
theorem dX8_dropTrain_59 : decode cX8_dropTrain 59 = .ok (.return_, 1) := by decide +kernel
theorem dX8_strike_0 : decode cX8_strike 0 = .ok (.aload_n 0, 1) := by decide +kernel
theorem dX8_strike_1 : decode cX8_strike 1 = .ok (.iload_n 1, 1) := by decide +kernel
theorem dX8_strike_2 : decode cX8_strike 2 = .ok (.invokevirtual 133, 3) := by decide +kernel
theorem dX8_strike_5 : decode cX8_strike 5 = .ok (.ifCond .ne 5, 3) := by decide +kernel
theorem dX8_strike_8 : decode cX8_strike 8 = .ok (.iconst (-1), 1) := by decide +kernel
theorem dX8_strike_9 : decode cX8_strike 9 = .ok (.ireturn, 1) := by decide +kernel
theorem dX8_strike_10 : decode cX8_strike 10 = .ok (.aload_n 0, 1) := by decide +kernel
theorem dX8_strike_11 : decode cX8_strike 11 = .ok (.invokevirtual 66, 3) := by decide +kernel
theorem dX8_strike_14 : decode cX8_strike 14 = .ok (.aload_n 0, 1) := by decide +kernel
theorem dX8_strike_15 : decode cX8_strike 15 = .ok (.iload_n 1, 1) := by decide +kernel
theorem dX8_strike_16 : decode cX8_strike 16 = .ok (.invokevirtual 136, 3) := by decide +kernel
theorem dX8_strike_19 : decode cX8_strike 19 = .ok (.aload_n 0, 1) := by decide +kernel
theorem dX8_strike_20 : decode cX8_strike 20 = .ok (.getfield 7, 3) := by decide +kernel
theorem dX8_strike_23 : decode cX8_strike 23 = .ok (.bipush 11, 2) := by decide +kernel
theorem dX8_strike_25 : decode cX8_strike 25 = .ok (.iaload, 1) := by decide +kernel
theorem dX8_strike_26 : decode cX8_strike 26 = .ok (.ireturn, 1) := by decide +kernel
theorem dX8_canLeave_0 : decode cX8_canLeave 0 = .ok (.sipush 450, 3) := by decide +kernel
theorem dX8_canLeave_3 : decode cX8_canLeave 3 = .ok (.bipush 10, 2) := by decide +kernel
theorem dX8_canLeave_5 : decode cX8_canLeave 5 = .ok (.iload_n 1, 1) := by decide +kernel
theorem dX8_canLeave_6 : decode cX8_canLeave 6 = .ok (.imul, 1) := by decide +kernel
theorem dX8_canLeave_7 : decode cX8_canLeave 7 = .ok (.iadd, 1) := by decide +kernel
theorem dX8_canLeave_8 : decode cX8_canLeave 8 = .ok (.istore_n 2, 1) := by decide +kernel
theorem dX8_canLeave_9 : decode cX8_canLeave 9 = .ok (.aload_n 0, 1) := by decide +kernel
theorem dX8_canLeave_10 : decode cX8_canLeave 10 = .ok (.getfield 7, 3) := by decide +kernel
theorem dX8_canLeave_13 : decode cX8_canLeave 13 = .ok (.iload_n 2, 1) := by decide +kernel
theorem dX8_canLeave_14 : decode cX8_canLeave 14 = .ok (.iconst 1, 1) := by decide +kernel
theorem dX8_canLeave_15 : decode cX8_canLeave 15 = .ok (.iadd, 1) := by decide +kernel
theorem dX8_canLeave_16 : decode cX8_canLeave 16 = .ok (.iaload, 1) := by decide +kernel
theorem dX8_canLeave_17 : decode cX8_canLeave 17 = .ok (.aload_n 0, 1) := by decide +kernel
theorem dX8_canLeave_18 : decode cX8_canLeave 18 = .ok (.getfield 7, 3) := by decide +kernel
theorem dX8_canLeave_21 : decode cX8_canLeave 21 = .ok (.bipush 9, 2) := by decide +kernel
theorem dX8_canLeave_23 : decode cX8_canLeave 23 = .ok (.iaload, 1) := by decide +kernel
theorem dX8_canLeave_24 : decode cX8_canLeave 24 = .ok (.if_icmp .ne 7, 3) := by decide +kernel
theorem dX8_canLeave_27 : decode cX8_canLeave 27 = .ok (.iconst 1, 1) := by decide +kernel
theorem dX8_canLeave_28 : decode cX8_canLeave 28 = .ok (.goto 4, 3) := by decide +kernel
theorem dX8_canLeave_31 : decode cX8_canLeave 31 = .ok (.iconst 0, 1) := by decide +kernel
theorem dX8_canLeave_32 : decode cX8_canLeave 32 = .ok (.istore_n 3, 1) := by decide +kernel
theorem dX8_canLeave_33 : decode cX8_canLeave 33 = .ok (.iconst 0, 1) := by decide +kernel
theorem dX8_canLeave_34 : decode cX8_canLeave 34 = .ok (.istore 4, 2) := by decide +kernel
theorem dX8_canLeave_36 : decode cX8_canLeave 36 = .ok (.iload 4, 2) := by decide +kernel
theorem dX8_canLeave_38 : decode cX8_canLeave 38 = .ok (.aload_n 0, 1) := by decide +kernel
theorem dX8_canLeave_39 : decode cX8_canLeave 39 = .ok (.getfield 7, 3) := by decide +kernel
theorem dX8_canLeave_42 : decode cX8_canLeave 42 = .ok (.bipush 9, 2) := by decide +kernel
theorem dX8_canLeave_44 : decode cX8_canLeave 44 = .ok (.iaload, 1) := by decide +kernel
theorem dX8_canLeave_45 : decode cX8_canLeave 45 = .ok (.if_icmp .ge 44, 3) := by decide +kernel
theorem dX8_canLeave_48 : decode cX8_canLeave 48 = .ok (.iload_n 3, 1) := by decide +kernel
theorem dX8_canLeave_49 : decode cX8_canLeave 49 = .ok (.ifCond .eq 40, 3) := by decide +kernel
theorem dX8_canLeave_52 : decode cX8_canLeave 52 = .ok (.aload_n 0, 1) := by decide +kernel
theorem dX8_canLeave_53 : decode cX8_canLeave 53 = .ok (.getfield 7, 3) := by decide +kernel
theorem dX8_canLeave_56 : decode cX8_canLeave 56 = .ok (.iload_n 2, 1) := by decide +kernel
theorem dX8_canLeave_57 : decode cX8_canLeave 57 = .ok (.iconst 2, 1) := by decide +kernel
theorem dX8_canLeave_58 : decode cX8_canLeave 58 = .ok (.iadd, 1) := by decide +kernel
theorem dX8_canLeave_59 : decode cX8_canLeave 59 = .ok (.iload 4, 2) := by decide +kernel
theorem dX8_canLeave_61 : decode cX8_canLeave 61 = .ok (.iadd, 1) := by decide +kernel
theorem dX8_canLeave_62 : decode cX8_canLeave 62 = .ok (.iaload, 1) := by decide +kernel
theorem dX8_canLeave_63 : decode cX8_canLeave 63 = .ok (.aload_n 0, 1) := by decide +kernel
theorem dX8_canLeave_64 : decode cX8_canLeave 64 = .ok (.getfield 7, 3) := by decide +kernel
theorem dX8_canLeave_67 : decode cX8_canLeave 67 = .ok (.sipush 300, 3) := by decide +kernel
theorem dX8_canLeave_70 : decode cX8_canLeave 70 = .ok (.iload 4, 2) := by decide +kernel
theorem dX8_canLeave_72 : decode cX8_canLeave 72 = .ok (.iadd, 1) := by decide +kernel
theorem dX8_canLeave_73 : decode cX8_canLeave 73 = .ok (.iaload, 1) := by decide +kernel
theorem dX8_canLeave_74 : decode cX8_canLeave 74 = .ok (.if_icmp .ne 7, 3) := by decide +kernel
theorem dX8_canLeave_77 : decode cX8_canLeave 77 = .ok (.iconst 1, 1) := by decide +kernel
theorem dX8_canLeave_78 : decode cX8_canLeave 78 = .ok (.goto 4, 3) := by decide +kernel
theorem dX8_canLeave_81 : decode cX8_canLeave 81 = .ok (.iconst 0, 1) := by decide +kernel
theorem dX8_canLeave_82 : decode cX8_canLeave 82 = .ok (.istore_n 3, 1) := by decide +kernel
theorem dX8_canLeave_83 : decode cX8_canLeave 83 = .ok (.iinc 4 1, 3) := by decide +kernel
theorem dX8_canLeave_86 : decode cX8_canLeave 86 = .ok (.goto (-50), 3) := by decide +kernel
theorem dX8_canLeave_89 : decode cX8_canLeave 89 = .ok (.iload_n 3, 1) := by decide +kernel
theorem dX8_canLeave_90 : decode cX8_canLeave 90 = .ok (.ireturn, 1) := by decide +kernel
theorem dX8_leave_0 : decode cX8_leave 0 = .ok (.aload_n 0, 1) := by decide +kernel
theorem dX8_leave_1 : decode cX8_leave 1 = .ok (.iload_n 1, 1) := by decide +kernel
theorem dX8_leave_2 : decode cX8_leave 2 = .ok (.invokevirtual 133, 3) := by decide +kernel
theorem dX8_leave_5 : decode cX8_leave 5 = .ok (.ifCond .ne 5, 3) := by decide +kernel
theorem dX8_leave_8 : decode cX8_leave 8 = .ok (.iconst (-1), 1) := by decide +kernel
theorem dX8_leave_9 : decode cX8_leave 9 = .ok (.ireturn, 1) := by decide +kernel
theorem dX8_leave_10 : decode cX8_leave 10 = .ok (.aload_n 0, 1) := by decide +kernel
theorem dX8_leave_11 : decode cX8_leave 11 = .ok (.iload_n 1, 1) := by decide +kernel
theorem dX8_leave_12 : decode cX8_leave 12 = .ok (.invokevirtual 139, 3) := by decide +kernel
theorem dX8_leave_15 : decode cX8_leave 15 = .ok (.ifCond .ne 6, 3) := by decide +kernel
theorem dX8_leave_18 : decode cX8_leave 18 = .ok (.bipush (-5), 2) := by decide +kernel
theorem dX8_leave_20 : decode cX8_leave 20 = .ok (.ireturn, 1) := by decide +kernel
theorem dX8_leave_21 : decode cX8_leave 21 = .ok (.aload_n 0, 1) := by decide +kernel
theorem dX8_leave_22 : decode cX8_leave 22 = .ok (.invokevirtual 66, 3) := by decide +kernel
theorem dX8_leave_25 : decode cX8_leave 25 = .ok (.aload_n 0, 1) := by decide +kernel
theorem dX8_leave_26 : decode cX8_leave 26 = .ok (.getfield 7, 3) := by decide +kernel
theorem dX8_leave_29 : decode cX8_leave 29 = .ok (.sipush 450, 3) := by decide +kernel
theorem dX8_leave_32 : decode cX8_leave 32 = .ok (.bipush 10, 2) := by decide +kernel
theorem dX8_leave_34 : decode cX8_leave 34 = .ok (.iload_n 1, 1) := by decide +kernel
theorem dX8_leave_35 : decode cX8_leave 35 = .ok (.imul, 1) := by decide +kernel
theorem dX8_leave_36 : decode cX8_leave 36 = .ok (.iadd, 1) := by decide +kernel
theorem dX8_leave_37 : decode cX8_leave 37 = .ok (.iaload, 1) := by decide +kernel
theorem dX8_leave_38 : decode cX8_leave 38 = .ok (.istore_n 2, 1) := by decide +kernel
theorem dX8_leave_39 : decode cX8_leave 39 = .ok (.aload_n 0, 1) := by decide +kernel
theorem dX8_leave_40 : decode cX8_leave 40 = .ok (.getfield 7, 3) := by decide +kernel
theorem dX8_leave_43 : decode cX8_leave 43 = .ok (.bipush 6, 2) := by decide +kernel
theorem dX8_leave_45 : decode cX8_leave 45 = .ok (.iaload, 1) := by decide +kernel
theorem dX8_leave_46 : decode cX8_leave 46 = .ok (.iload_n 2, 1) := by decide +kernel
theorem dX8_leave_47 : decode cX8_leave 47 = .ok (.if_icmp .le 15, 3) := by decide +kernel
theorem dX8_leave_50 : decode cX8_leave 50 = .ok (.aload_n 0, 1) := by decide +kernel
theorem dX8_leave_51 : decode cX8_leave 51 = .ok (.getfield 7, 3) := by decide +kernel
theorem dX8_leave_54 : decode cX8_leave 54 = .ok (.bipush 6, 2) := by decide +kernel
theorem dX8_leave_56 : decode cX8_leave 56 = .ok (.iaload, 1) := by decide +kernel
theorem dX8_leave_57 : decode cX8_leave 57 = .ok (.iload_n 2, 1) := by decide +kernel
theorem dX8_leave_58 : decode cX8_leave 58 = .ok (.isub, 1) := by decide +kernel
theorem dX8_leave_59 : decode cX8_leave 59 = .ok (.goto 4, 3) := by decide +kernel
theorem dX8_leave_62 : decode cX8_leave 62 = .ok (.iconst 0, 1) := by decide +kernel
theorem dX8_leave_63 : decode cX8_leave 63 = .ok (.istore_n 3, 1) := by decide +kernel
theorem dX8_leave_64 : decode cX8_leave 64 = .ok (.iconst 0, 1) := by decide +kernel
theorem dX8_leave_65 : decode cX8_leave 65 = .ok (.istore 4, 2) := by decide +kernel
theorem dX8_leave_67 : decode cX8_leave 67 = .ok (.iload 4, 2) := by decide +kernel
theorem dX8_leave_69 : decode cX8_leave 69 = .ok (.aload_n 0, 1) := by decide +kernel
theorem dX8_leave_70 : decode cX8_leave 70 = .ok (.getfield 7, 3) := by decide +kernel
theorem dX8_leave_73 : decode cX8_leave 73 = .ok (.bipush 9, 2) := by decide +kernel
theorem dX8_leave_75 : decode cX8_leave 75 = .ok (.iaload, 1) := by decide +kernel
theorem dX8_leave_76 : decode cX8_leave 76 = .ok (.if_icmp .ge 40, 3) := by decide +kernel
theorem dX8_leave_79 : decode cX8_leave 79 = .ok (.aload_n 0, 1) := by decide +kernel
theorem dX8_leave_80 : decode cX8_leave 80 = .ok (.getfield 7, 3) := by decide +kernel
theorem dX8_leave_83 : decode cX8_leave 83 = .ok (.sipush 330, 3) := by decide +kernel
theorem dX8_leave_86 : decode cX8_leave 86 = .ok (.iconst 4, 1) := by decide +kernel
theorem dX8_leave_87 : decode cX8_leave 87 = .ok (.aload_n 0, 1) := by decide +kernel
theorem dX8_leave_88 : decode cX8_leave 88 = .ok (.getfield 7, 3) := by decide +kernel
theorem dX8_leave_91 : decode cX8_leave 91 = .ok (.sipush 300, 3) := by decide +kernel
theorem dX8_leave_94 : decode cX8_leave 94 = .ok (.iload 4, 2) := by decide +kernel
theorem dX8_leave_96 : decode cX8_leave 96 = .ok (.iadd, 1) := by decide +kernel
theorem dX8_leave_97 : decode cX8_leave 97 = .ok (.iaload, 1) := by decide +kernel
theorem dX8_leave_98 : decode cX8_leave 98 = .ok (.imul, 1) := by decide +kernel
theorem dX8_leave_99 : decode cX8_leave 99 = .ok (.iadd, 1) := by decide +kernel
theorem dX8_leave_100 : decode cX8_leave 100 = .ok (.iconst 1, 1) := by decide +kernel
theorem dX8_leave_101 : decode cX8_leave 101 = .ok (.iadd, 1) := by decide +kernel
theorem dX8_leave_102 : decode cX8_leave 102 = .ok (.aload_n 0, 1) := by decide +kernel
theorem dX8_leave_103 : decode cX8_leave 103 = .ok (.getfield 7, 3) := by decide +kernel
theorem dX8_leave_106 : decode cX8_leave 106 = .ok (.bipush 6, 2) := by decide +kernel
theorem dX8_leave_108 : decode cX8_leave 108 = .ok (.iaload, 1) := by decide +kernel
theorem dX8_leave_109 : decode cX8_leave 109 = .ok (.iastore, 1) := by decide +kernel
theorem dX8_leave_110 : decode cX8_leave 110 = .ok (.iinc 4 1, 3) := by decide +kernel
theorem dX8_leave_113 : decode cX8_leave 113 = .ok (.goto (-46), 3) := by decide +kernel
theorem dX8_leave_116 : decode cX8_leave 116 = .ok (.aload_n 0, 1) := by decide +kernel
theorem dX8_leave_117 : decode cX8_leave 117 = .ok (.getfield 7, 3) := by decide +kernel
theorem dX8_leave_120 : decode cX8_leave 120 = .ok (.bipush 10, 2) := by decide +kernel
theorem dX8_leave_122 : decode cX8_leave 122 = .ok (.dup2, 1) := by decide +kernel
theorem dX8_leave_123 : decode cX8_leave 123 = .ok (.iaload, 1) := by decide +kernel
theorem dX8_leave_124 : decode cX8_leave 124 = .ok (.aload_n 0, 1) := by decide +kernel
theorem dX8_leave_125 : decode cX8_leave 125 = .ok (.getfield 7, 3) := by decide +kernel
theorem dX8_leave_128 : decode cX8_leave 128 = .ok (.bipush 9, 2) := by decide +kernel
theorem dX8_leave_130 : decode cX8_leave 130 = .ok (.iaload, 1) := by decide +kernel
theorem dX8_leave_131 : decode cX8_leave 131 = .ok (.iadd, 1) := by decide +kernel
theorem dX8_leave_132 : decode cX8_leave 132 = .ok (.iastore, 1) := by decide +kernel
theorem dX8_leave_133 : decode cX8_leave 133 = .ok (.aload_n 0, 1) := by decide +kernel
theorem dX8_leave_134 : decode cX8_leave 134 = .ok (.getfield 7, 3) := by decide +kernel
theorem dX8_leave_137 : decode cX8_leave 137 = .ok (.bipush 9, 2) := by decide +kernel
theorem dX8_leave_139 : decode cX8_leave 139 = .ok (.iconst 0, 1) := by decide +kernel
theorem dX8_leave_140 : decode cX8_leave 140 = .ok (.iastore, 1) := by decide +kernel
theorem dX8_leave_141 : decode cX8_leave 141 = .ok (.aload_n 0, 1) := by decide +kernel
theorem dX8_leave_142 : decode cX8_leave 142 = .ok (.getfield 7, 3) := by decide +kernel
theorem dX8_leave_145 : decode cX8_leave 145 = .ok (.bipush 12, 2) := by decide +kernel
theorem dX8_leave_147 : decode cX8_leave 147 = .ok (.dup2, 1) := by decide +kernel
theorem dX8_leave_148 : decode cX8_leave 148 = .ok (.iaload, 1) := by decide +kernel
theorem dX8_leave_149 : decode cX8_leave 149 = .ok (.iconst 1, 1) := by decide +kernel
theorem dX8_leave_150 : decode cX8_leave 150 = .ok (.iadd, 1) := by decide +kernel
theorem dX8_leave_151 : decode cX8_leave 151 = .ok (.iastore, 1) := by decide +kernel
theorem dX8_leave_152 : decode cX8_leave 152 = .ok (.aload_n 0, 1) := by decide +kernel
theorem dX8_leave_153 : decode cX8_leave 153 = .ok (.getfield 7, 3) := by decide +kernel
theorem dX8_leave_156 : decode cX8_leave 156 = .ok (.bipush 17, 2) := by decide +kernel
theorem dX8_leave_158 : decode cX8_leave 158 = .ok (.dup2, 1) := by decide +kernel
theorem dX8_leave_159 : decode cX8_leave 159 = .ok (.iaload, 1) := by decide +kernel
theorem dX8_leave_160 : decode cX8_leave 160 = .ok (.aload_n 0, 1) := by decide +kernel
theorem dX8_leave_161 : decode cX8_leave 161 = .ok (.getfield 7, 3) := by decide +kernel
theorem dX8_leave_164 : decode cX8_leave 164 = .ok (.iconst 5, 1) := by decide +kernel
theorem dX8_leave_165 : decode cX8_leave 165 = .ok (.iaload, 1) := by decide +kernel
theorem dX8_leave_166 : decode cX8_leave 166 = .ok (.iload_n 3, 1) := by decide +kernel
theorem dX8_leave_167 : decode cX8_leave 167 = .ok (.imul, 1) := by decide +kernel
theorem dX8_leave_168 : decode cX8_leave 168 = .ok (.iadd, 1) := by decide +kernel
theorem dX8_leave_169 : decode cX8_leave 169 = .ok (.iastore, 1) := by decide +kernel
theorem dX8_leave_170 : decode cX8_leave 170 = .ok (.aload_n 0, 1) := by decide +kernel
theorem dX8_leave_171 : decode cX8_leave 171 = .ok (.iload_n 1, 1) := by decide +kernel
theorem dX8_leave_172 : decode cX8_leave 172 = .ok (.invokevirtual 136, 3) := by decide +kernel
theorem dX8_leave_175 : decode cX8_leave 175 = .ok (.iload_n 3, 1) := by decide +kernel
theorem dX8_leave_176 : decode cX8_leave 176 = .ok (.ireturn, 1) := by decide +kernel
theorem dX8_ofTrack_0 : decode cX8_ofTrack 0 = .ok (.aload_n 0, 1) := by decide +kernel
theorem dX8_ofTrack_1 : decode cX8_ofTrack 1 = .ok (.iload_n 1, 1) := by decide +kernel
theorem dX8_ofTrack_2 : decode cX8_ofTrack 2 = .ok (.invokevirtual 79, 3) := by decide +kernel
theorem dX8_ofTrack_5 : decode cX8_ofTrack 5 = .ok (.ifCond .ne 5, 3) := by decide +kernel
theorem dX8_ofTrack_8 : decode cX8_ofTrack 8 = .ok (.iconst (-1), 1) := by decide +kernel
theorem dX8_ofTrack_9 : decode cX8_ofTrack 9 = .ok (.ireturn, 1) := by decide +kernel
theorem dX8_ofTrack_10 : decode cX8_ofTrack 10 = .ok (.iload_n 2, 1) := by decide +kernel
theorem dX8_ofTrack_11 : decode cX8_ofTrack 11 = .ok (.tableswitch 69 0 4 #[33, 33, 47, 53, 53], 33) := by decide +kernel
theorem dX8_ofTrack_44 : decode cX8_ofTrack 44 = .ok (.aload_n 0, 1) := by decide +kernel
theorem dX8_ofTrack_45 : decode cX8_ofTrack 45 = .ok (.getfield 7, 3) := by decide +kernel
theorem dX8_ofTrack_48 : decode cX8_ofTrack 48 = .ok (.bipush 20, 2) := by decide +kernel
theorem dX8_ofTrack_50 : decode cX8_ofTrack 50 = .ok (.iconst 4, 1) := by decide +kernel
theorem dX8_ofTrack_51 : decode cX8_ofTrack 51 = .ok (.iload_n 1, 1) := by decide +kernel
theorem dX8_ofTrack_52 : decode cX8_ofTrack 52 = .ok (.imul, 1) := by decide +kernel
theorem dX8_ofTrack_53 : decode cX8_ofTrack 53 = .ok (.iadd, 1) := by decide +kernel
theorem dX8_ofTrack_54 : decode cX8_ofTrack 54 = .ok (.iload_n 2, 1) := by decide +kernel
theorem dX8_ofTrack_55 : decode cX8_ofTrack 55 = .ok (.iadd, 1) := by decide +kernel
theorem dX8_ofTrack_56 : decode cX8_ofTrack 56 = .ok (.iaload, 1) := by decide +kernel
theorem dX8_ofTrack_57 : decode cX8_ofTrack 57 = .ok (.ireturn, 1) := by decide +kernel
theorem dX8_ofTrack_58 : decode cX8_ofTrack 58 = .ok (.aload_n 0, 1) := by decide +kernel
theorem dX8_ofTrack_59 : decode cX8_ofTrack 59 = .ok (.iload_n 1, 1) := by decide +kernel
theorem dX8_ofTrack_60 : decode cX8_ofTrack 60 = .ok (.invokevirtual 83, 3) := by decide +kernel
theorem dX8_ofTrack_63 : decode cX8_ofTrack 63 = .ok (.ireturn, 1) := by decide +kernel
theorem dX8_ofTrack_64 : decode cX8_ofTrack 64 = .ok (.aload_n 0, 1) := by decide +kernel
theorem dX8_ofTrack_65 : decode cX8_ofTrack 65 = .ok (.getfield 7, 3) := by decide +kernel
theorem dX8_ofTrack_68 : decode cX8_ofTrack 68 = .ok (.bipush 20, 2) := by decide +kernel
theorem dX8_ofTrack_70 : decode cX8_ofTrack 70 = .ok (.iconst 4, 1) := by decide +kernel
theorem dX8_ofTrack_71 : decode cX8_ofTrack 71 = .ok (.iload_n 1, 1) := by decide +kernel
theorem dX8_ofTrack_72 : decode cX8_ofTrack 72 = .ok (.imul, 1) := by decide +kernel
theorem dX8_ofTrack_73 : decode cX8_ofTrack 73 = .ok (.iadd, 1) := by decide +kernel
theorem dX8_ofTrack_74 : decode cX8_ofTrack 74 = .ok (.iload_n 2, 1) := by decide +kernel
theorem dX8_ofTrack_75 : decode cX8_ofTrack 75 = .ok (.iadd, 1) := by decide +kernel
theorem dX8_ofTrack_76 : decode cX8_ofTrack 76 = .ok (.iconst 1, 1) := by decide +kernel
theorem dX8_ofTrack_77 : decode cX8_ofTrack 77 = .ok (.isub, 1) := by decide +kernel
theorem dX8_ofTrack_78 : decode cX8_ofTrack 78 = .ok (.iaload, 1) := by decide +kernel
theorem dX8_ofTrack_79 : decode cX8_ofTrack 79 = .ok (.ireturn, 1) := by decide +kernel
theorem dX8_ofTrack_80 : decode cX8_ofTrack 80 = .ok (.bipush (-2), 2) := by decide +kernel
theorem dX8_ofTrack_82 : decode cX8_ofTrack 82 = .ok (.ireturn, 1) := by decide +kernel
theorem dX8_at_0 : decode cX8_at 0 = .ok (.iload_n 1, 1) := by decide +kernel
theorem dX8_at_1 : decode cX8_at 1 = .ok (.bipush (-6), 2) := by decide +kernel
theorem dX8_at_3 : decode cX8_at 3 = .ok (.if_icmp .eq 13, 3) := by decide +kernel
theorem dX8_at_6 : decode cX8_at 6 = .ok (.aload_n 0, 1) := by decide +kernel
theorem dX8_at_7 : decode cX8_at 7 = .ok (.iload_n 1, 1) := by decide +kernel
theorem dX8_at_8 : decode cX8_at 8 = .ok (.invokevirtual 79, 3) := by decide +kernel
theorem dX8_at_11 : decode cX8_at 11 = .ok (.ifCond .ne 5, 3) := by decide +kernel
theorem dX8_at_14 : decode cX8_at 14 = .ok (.iconst (-1), 1) := by decide +kernel
theorem dX8_at_15 : decode cX8_at 15 = .ok (.ireturn, 1) := by decide +kernel
theorem dX8_at_16 : decode cX8_at 16 = .ok (.iload_n 1, 1) := by decide +kernel
theorem dX8_at_17 : decode cX8_at 17 = .ok (.ifCond .ge 36, 3) := by decide +kernel
theorem dX8_at_20 : decode cX8_at 20 = .ok (.iload_n 2, 1) := by decide +kernel
theorem dX8_at_21 : decode cX8_at 21 = .ok (.iconst 0, 1) := by decide +kernel
theorem dX8_at_22 : decode cX8_at 22 = .ok (.aload_n 0, 1) := by decide +kernel
theorem dX8_at_23 : decode cX8_at 23 = .ok (.getfield 7, 3) := by decide +kernel
theorem dX8_at_26 : decode cX8_at 26 = .ok (.bipush 9, 2) := by decide +kernel
theorem dX8_at_28 : decode cX8_at 28 = .ok (.iaload, 1) := by decide +kernel
theorem dX8_at_29 : decode cX8_at 29 = .ok (.iconst 1, 1) := by decide +kernel
theorem dX8_at_30 : decode cX8_at 30 = .ok (.isub, 1) := by decide +kernel
theorem dX8_at_31 : decode cX8_at 31 = .ok (.invokestatic 55, 3) := by decide +kernel
theorem dX8_at_34 : decode cX8_at 34 = .ok (.ifCond .eq 16, 3) := by decide +kernel
theorem dX8_at_37 : decode cX8_at 37 = .ok (.aload_n 0, 1) := by decide +kernel
theorem dX8_at_38 : decode cX8_at 38 = .ok (.getfield 7, 3) := by decide +kernel
theorem dX8_at_41 : decode cX8_at 41 = .ok (.sipush 300, 3) := by decide +kernel
theorem dX8_at_44 : decode cX8_at 44 = .ok (.iload_n 2, 1) := by decide +kernel
theorem dX8_at_45 : decode cX8_at 45 = .ok (.iadd, 1) := by decide +kernel
theorem dX8_at_46 : decode cX8_at 46 = .ok (.iaload, 1) := by decide +kernel
theorem dX8_at_47 : decode cX8_at 47 = .ok (.goto 5, 3) := by decide +kernel
theorem dX8_at_50 : decode cX8_at 50 = .ok (.bipush (-6), 2) := by decide +kernel
theorem dX8_at_52 : decode cX8_at 52 = .ok (.ireturn, 1) := by decide +kernel
theorem dX8_at_53 : decode cX8_at 53 = .ok (.iload_n 2, 1) := by decide +kernel
theorem dX8_at_54 : decode cX8_at 54 = .ok (.iconst 0, 1) := by decide +kernel
theorem dX8_at_55 : decode cX8_at 55 = .ok (.aload_n 0, 1) := by decide +kernel
theorem dX8_at_56 : decode cX8_at 56 = .ok (.iload_n 1, 1) := by decide +kernel
theorem dX8_at_57 : decode cX8_at 57 = .ok (.invokevirtual 72, 3) := by decide +kernel
theorem dX8_at_60 : decode cX8_at 60 = .ok (.iconst 1, 1) := by decide +kernel
theorem dX8_at_61 : decode cX8_at 61 = .ok (.isub, 1) := by decide +kernel
theorem dX8_at_62 : decode cX8_at 62 = .ok (.invokestatic 55, 3) := by decide +kernel
theorem dX8_at_65 : decode cX8_at 65 = .ok (.ifCond .eq 20, 3) := by decide +kernel
theorem dX8_at_68 : decode cX8_at 68 = .ok (.aload_n 0, 1) := by decide +kernel
theorem dX8_at_69 : decode cX8_at 69 = .ok (.getfield 7, 3) := by decide +kernel
theorem dX8_at_72 : decode cX8_at 72 = .ok (.bipush 60, 2) := by decide +kernel
theorem dX8_at_74 : decode cX8_at 74 = .ok (.bipush 30, 2) := by decide +kernel
theorem dX8_at_76 : decode cX8_at 76 = .ok (.iload_n 1, 1) := by decide +kernel
theorem dX8_at_77 : decode cX8_at 77 = .ok (.imul, 1) := by decide +kernel
theorem dX8_at_78 : decode cX8_at 78 = .ok (.iadd, 1) := by decide +kernel
theorem dX8_at_79 : decode cX8_at 79 = .ok (.iload_n 2, 1) := by decide +kernel
theorem dX8_at_80 : decode cX8_at 80 = .ok (.iadd, 1) := by decide +kernel
theorem dX8_at_81 : decode cX8_at 81 = .ok (.iaload, 1) := by decide +kernel
theorem dX8_at_82 : decode cX8_at 82 = .ok (.goto 5, 3) := by decide +kernel
theorem dX8_at_85 : decode cX8_at 85 = .ok (.bipush (-6), 2) := by decide +kernel
theorem dX8_at_87 : decode cX8_at 87 = .ok (.ireturn, 1) := by decide +kernel
theorem dX8_trackOf_0 : decode cX8_trackOf 0 = .ok (.iconst 0, 1) := by decide +kernel
theorem dX8_trackOf_1 : decode cX8_trackOf 1 = .ok (.istore_n 2, 1) := by decide +kernel
theorem dX8_trackOf_2 : decode cX8_trackOf 2 = .ok (.iload_n 2, 1) := by decide +kernel
theorem dX8_trackOf_3 : decode cX8_trackOf 3 = .ok (.aload_n 0, 1) := by decide +kernel
theorem dX8_trackOf_4 : decode cX8_trackOf 4 = .ok (.getfield 7, 3) := by decide +kernel
theorem dX8_trackOf_7 : decode cX8_trackOf 7 = .ok (.bipush 7, 2) := by decide +kernel
theorem dX8_trackOf_9 : decode cX8_trackOf 9 = .ok (.iaload, 1) := by decide +kernel
theorem dX8_trackOf_10 : decode cX8_trackOf 10 = .ok (.if_icmp .ge 31, 3) := by decide +kernel
theorem dX8_trackOf_13 : decode cX8_trackOf 13 = .ok (.aload_n 0, 1) := by decide +kernel
theorem dX8_trackOf_14 : decode cX8_trackOf 14 = .ok (.bipush 60, 2) := by decide +kernel
theorem dX8_trackOf_16 : decode cX8_trackOf 16 = .ok (.bipush 30, 2) := by decide +kernel
theorem dX8_trackOf_18 : decode cX8_trackOf 18 = .ok (.iload_n 2, 1) := by decide +kernel
theorem dX8_trackOf_19 : decode cX8_trackOf 19 = .ok (.imul, 1) := by decide +kernel
theorem dX8_trackOf_20 : decode cX8_trackOf 20 = .ok (.iadd, 1) := by decide +kernel
theorem dX8_trackOf_21 : decode cX8_trackOf 21 = .ok (.aload_n 0, 1) := by decide +kernel
theorem dX8_trackOf_22 : decode cX8_trackOf 22 = .ok (.iload_n 2, 1) := by decide +kernel
theorem dX8_trackOf_23 : decode cX8_trackOf 23 = .ok (.invokevirtual 72, 3) := by decide +kernel
theorem dX8_trackOf_26 : decode cX8_trackOf 26 = .ok (.iload_n 1, 1) := by decide +kernel
theorem dX8_trackOf_27 : decode cX8_trackOf 27 = .ok (.invokevirtual 142, 3) := by decide +kernel
theorem dX8_trackOf_30 : decode cX8_trackOf 30 = .ok (.ifCond .lt 5, 3) := by decide +kernel
theorem dX8_trackOf_33 : decode cX8_trackOf 33 = .ok (.iload_n 2, 1) := by decide +kernel
theorem dX8_trackOf_34 : decode cX8_trackOf 34 = .ok (.ireturn, 1) := by decide +kernel
theorem dX8_trackOf_35 : decode cX8_trackOf 35 = .ok (.iinc 2 1, 3) := by decide +kernel
theorem dX8_trackOf_38 : decode cX8_trackOf 38 = .ok (.goto (-36), 3) := by decide +kernel
theorem dX8_trackOf_41 : decode cX8_trackOf 41 = .ok (.bipush (-6), 2) := by decide +kernel
theorem dX8_trackOf_43 : decode cX8_trackOf 43 = .ok (.ireturn, 1) := by decide +kernel
theorem dX8_placeIn_0 : decode cX8_placeIn 0 = .ok (.iconst 0, 1) := by decide +kernel
theorem dX8_placeIn_1 : decode cX8_placeIn 1 = .ok (.istore 4, 2) := by decide +kernel
theorem dX8_placeIn_3 : decode cX8_placeIn 3 = .ok (.iload 4, 2) := by decide +kernel
theorem dX8_placeIn_5 : decode cX8_placeIn 5 = .ok (.iload_n 2, 1) := by decide +kernel
theorem dX8_placeIn_6 : decode cX8_placeIn 6 = .ok (.if_icmp .ge 25, 3) := by decide +kernel
theorem dX8_placeIn_9 : decode cX8_placeIn 9 = .ok (.aload_n 0, 1) := by decide +kernel
theorem dX8_placeIn_10 : decode cX8_placeIn 10 = .ok (.getfield 7, 3) := by decide +kernel
theorem dX8_placeIn_13 : decode cX8_placeIn 13 = .ok (.iload_n 1, 1) := by decide +kernel
theorem dX8_placeIn_14 : decode cX8_placeIn 14 = .ok (.iload 4, 2) := by decide +kernel
theorem dX8_placeIn_16 : decode cX8_placeIn 16 = .ok (.iadd, 1) := by decide +kernel
theorem dX8_placeIn_17 : decode cX8_placeIn 17 = .ok (.iaload, 1) := by decide +kernel
theorem dX8_placeIn_18 : decode cX8_placeIn 18 = .ok (.iload_n 3, 1) := by decide +kernel
theorem dX8_placeIn_19 : decode cX8_placeIn 19 = .ok (.if_icmp .ne 6, 3) := by decide +kernel
theorem dX8_placeIn_22 : decode cX8_placeIn 22 = .ok (.iload 4, 2) := by decide +kernel
theorem dX8_placeIn_24 : decode cX8_placeIn 24 = .ok (.ireturn, 1) := by decide +kernel
theorem dX8_placeIn_25 : decode cX8_placeIn 25 = .ok (.iinc 4 1, 3) := by decide +kernel
theorem dX8_placeIn_28 : decode cX8_placeIn 28 = .ok (.goto (-25), 3) := by decide +kernel
theorem dX8_placeIn_31 : decode cX8_placeIn 31 = .ok (.bipush (-6), 2) := by decide +kernel
theorem dX8_placeIn_33 : decode cX8_placeIn 33 = .ok (.ireturn, 1) := by decide +kernel
theorem dX8_ofWagon_0 : decode cX8_ofWagon 0 = .ok (.aload_n 0, 1) := by decide +kernel
theorem dX8_ofWagon_1 : decode cX8_ofWagon 1 = .ok (.iload_n 1, 1) := by decide +kernel
theorem dX8_ofWagon_2 : decode cX8_ofWagon 2 = .ok (.invokevirtual 123, 3) := by decide +kernel
theorem dX8_ofWagon_5 : decode cX8_ofWagon 5 = .ok (.ifCond .ne 5, 3) := by decide +kernel
theorem dX8_ofWagon_8 : decode cX8_ofWagon 8 = .ok (.iconst (-1), 1) := by decide +kernel
theorem dX8_ofWagon_9 : decode cX8_ofWagon 9 = .ok (.ireturn, 1) := by decide +kernel
theorem dX8_ofWagon_10 : decode cX8_ofWagon 10 = .ok (.aload_n 0, 1) := by decide +kernel
theorem dX8_ofWagon_11 : decode cX8_ofWagon 11 = .ok (.iload_n 1, 1) := by decide +kernel
theorem dX8_ofWagon_12 : decode cX8_ofWagon 12 = .ok (.invokevirtual 146, 3) := by decide +kernel
theorem dX8_ofWagon_15 : decode cX8_ofWagon 15 = .ok (.istore_n 3, 1) := by decide +kernel
theorem dX8_ofWagon_16 : decode cX8_ofWagon 16 = .ok (.aload_n 0, 1) := by decide +kernel
theorem dX8_ofWagon_17 : decode cX8_ofWagon 17 = .ok (.sipush 300, 3) := by decide +kernel
theorem dX8_ofWagon_20 : decode cX8_ofWagon 20 = .ok (.aload_n 0, 1) := by decide +kernel
theorem dX8_ofWagon_21 : decode cX8_ofWagon 21 = .ok (.getfield 7, 3) := by decide +kernel
theorem dX8_ofWagon_24 : decode cX8_ofWagon 24 = .ok (.bipush 9, 2) := by decide +kernel
theorem dX8_ofWagon_26 : decode cX8_ofWagon 26 = .ok (.iaload, 1) := by decide +kernel
theorem dX8_ofWagon_27 : decode cX8_ofWagon 27 = .ok (.iload_n 1, 1) := by decide +kernel
theorem dX8_ofWagon_28 : decode cX8_ofWagon 28 = .ok (.invokevirtual 142, 3) := by decide +kernel
theorem dX8_ofWagon_31 : decode cX8_ofWagon 31 = .ok (.istore 4, 2) := by decide +kernel
theorem dX8_ofWagon_33 : decode cX8_ofWagon 33 = .ok (.iload_n 3, 1) := by decide +kernel
theorem dX8_ofWagon_34 : decode cX8_ofWagon 34 = .ok (.ifCond .ge 8, 3) := by decide +kernel
theorem dX8_ofWagon_37 : decode cX8_ofWagon 37 = .ok (.bipush (-6), 2) := by decide +kernel
theorem dX8_ofWagon_39 : decode cX8_ofWagon 39 = .ok (.goto 20, 3) := by decide +kernel
theorem dX8_ofWagon_42 : decode cX8_ofWagon 42 = .ok (.aload_n 0, 1) := by decide +kernel
theorem dX8_ofWagon_43 : decode cX8_ofWagon 43 = .ok (.bipush 60, 2) := by decide +kernel
theorem dX8_ofWagon_45 : decode cX8_ofWagon 45 = .ok (.bipush 30, 2) := by decide +kernel
theorem dX8_ofWagon_47 : decode cX8_ofWagon 47 = .ok (.iload_n 3, 1) := by decide +kernel
theorem dX8_ofWagon_48 : decode cX8_ofWagon 48 = .ok (.imul, 1) := by decide +kernel
theorem dX8_ofWagon_49 : decode cX8_ofWagon 49 = .ok (.iadd, 1) := by decide +kernel
theorem dX8_ofWagon_50 : decode cX8_ofWagon 50 = .ok (.aload_n 0, 1) := by decide +kernel
theorem dX8_ofWagon_51 : decode cX8_ofWagon 51 = .ok (.iload_n 3, 1) := by decide +kernel
theorem dX8_ofWagon_52 : decode cX8_ofWagon 52 = .ok (.invokevirtual 72, 3) := by decide +kernel
theorem dX8_ofWagon_55 : decode cX8_ofWagon 55 = .ok (.iload_n 1, 1) := by decide +kernel
theorem dX8_ofWagon_56 : decode cX8_ofWagon 56 = .ok (.invokevirtual 142, 3) := by decide +kernel
theorem dX8_ofWagon_59 : decode cX8_ofWagon 59 = .ok (.istore 5, 2) := by decide +kernel
theorem dX8_ofWagon_61 : decode cX8_ofWagon 61 = .ok (.iload_n 2, 1) := by decide +kernel
theorem dX8_ofWagon_62 : decode cX8_ofWagon 62 = .ok (.tableswitch 109 0 6 #[42, 48, 50, 62, 73, 88, 103], 42) := by decide +kernel
theorem dX8_ofWagon_104 : decode cX8_ofWagon 104 = .ok (.aload_n 0, 1) := by decide +kernel
theorem dX8_ofWagon_105 : decode cX8_ofWagon 105 = .ok (.iload_n 1, 1) := by decide +kernel
theorem dX8_ofWagon_106 : decode cX8_ofWagon 106 = .ok (.invokevirtual 69, 3) := by decide +kernel
theorem dX8_ofWagon_109 : decode cX8_ofWagon 109 = .ok (.ireturn, 1) := by decide +kernel
theorem dX8_ofWagon_110 : decode cX8_ofWagon 110 = .ok (.iload_n 3, 1) := by decide +kernel
theorem dX8_ofWagon_111 : decode cX8_ofWagon 111 = .ok (.ireturn, 1) := by decide +kernel
theorem dX8_ofWagon_112 : decode cX8_ofWagon 112 = .ok (.iload_n 3, 1) := by decide +kernel
theorem dX8_ofWagon_113 : decode cX8_ofWagon 113 = .ok (.ifCond .ge 8, 3) := by decide +kernel
theorem dX8_ofWagon_116 : decode cX8_ofWagon 116 = .ok (.iload 4, 2) := by decide +kernel
theorem dX8_ofWagon_118 : decode cX8_ofWagon 118 = .ok (.goto 5, 3) := by decide +kernel
theorem dX8_ofWagon_121 : decode cX8_ofWagon 121 = .ok (.iload 5, 2) := by decide +kernel
theorem dX8_ofWagon_123 : decode cX8_ofWagon 123 = .ok (.ireturn, 1) := by decide +kernel
theorem dX8_ofWagon_124 : decode cX8_ofWagon 124 = .ok (.iload 4, 2) := by decide +kernel
theorem dX8_ofWagon_126 : decode cX8_ofWagon 126 = .ok (.ifCond .lt 7, 3) := by decide +kernel
theorem dX8_ofWagon_129 : decode cX8_ofWagon 129 = .ok (.iconst 1, 1) := by decide +kernel
theorem dX8_ofWagon_130 : decode cX8_ofWagon 130 = .ok (.goto 4, 3) := by decide +kernel
theorem dX8_ofWagon_133 : decode cX8_ofWagon 133 = .ok (.iconst 0, 1) := by decide +kernel
theorem dX8_ofWagon_134 : decode cX8_ofWagon 134 = .ok (.ireturn, 1) := by decide +kernel
theorem dX8_ofWagon_135 : decode cX8_ofWagon 135 = .ok (.aload_n 0, 1) := by decide +kernel
theorem dX8_ofWagon_136 : decode cX8_ofWagon 136 = .ok (.getfield 7, 3) := by decide +kernel
theorem dX8_ofWagon_139 : decode cX8_ofWagon 139 = .ok (.sipush 330, 3) := by decide +kernel
theorem dX8_ofWagon_142 : decode cX8_ofWagon 142 = .ok (.iconst 4, 1) := by decide +kernel
theorem dX8_ofWagon_143 : decode cX8_ofWagon 143 = .ok (.iload_n 1, 1) := by decide +kernel
theorem dX8_ofWagon_144 : decode cX8_ofWagon 144 = .ok (.imul, 1) := by decide +kernel
theorem dX8_ofWagon_145 : decode cX8_ofWagon 145 = .ok (.iadd, 1) := by decide +kernel
theorem dX8_ofWagon_146 : decode cX8_ofWagon 146 = .ok (.iconst 1, 1) := by decide +kernel
theorem dX8_ofWagon_147 : decode cX8_ofWagon 147 = .ok (.iadd, 1) := by decide +kernel
theorem dX8_ofWagon_148 : decode cX8_ofWagon 148 = .ok (.iaload, 1) := by decide +kernel
theorem dX8_ofWagon_149 : decode cX8_ofWagon 149 = .ok (.ireturn, 1) := by decide +kernel
theorem dX8_ofWagon_150 : decode cX8_ofWagon 150 = .ok (.aload_n 0, 1) := by decide +kernel
theorem dX8_ofWagon_151 : decode cX8_ofWagon 151 = .ok (.getfield 7, 3) := by decide +kernel
theorem dX8_ofWagon_154 : decode cX8_ofWagon 154 = .ok (.sipush 330, 3) := by decide +kernel
theorem dX8_ofWagon_157 : decode cX8_ofWagon 157 = .ok (.iconst 4, 1) := by decide +kernel
theorem dX8_ofWagon_158 : decode cX8_ofWagon 158 = .ok (.iload_n 1, 1) := by decide +kernel
theorem dX8_ofWagon_159 : decode cX8_ofWagon 159 = .ok (.imul, 1) := by decide +kernel
theorem dX8_ofWagon_160 : decode cX8_ofWagon 160 = .ok (.iadd, 1) := by decide +kernel
theorem dX8_ofWagon_161 : decode cX8_ofWagon 161 = .ok (.iconst 2, 1) := by decide +kernel
theorem dX8_ofWagon_162 : decode cX8_ofWagon 162 = .ok (.iadd, 1) := by decide +kernel
theorem dX8_ofWagon_163 : decode cX8_ofWagon 163 = .ok (.iaload, 1) := by decide +kernel
theorem dX8_ofWagon_164 : decode cX8_ofWagon 164 = .ok (.ireturn, 1) := by decide +kernel
theorem dX8_ofWagon_165 : decode cX8_ofWagon 165 = .ok (.aload_n 0, 1) := by decide +kernel
theorem dX8_ofWagon_166 : decode cX8_ofWagon 166 = .ok (.iload_n 1, 1) := by decide +kernel
theorem dX8_ofWagon_167 : decode cX8_ofWagon 167 = .ok (.invokevirtual 130, 3) := by decide +kernel
theorem dX8_ofWagon_170 : decode cX8_ofWagon 170 = .ok (.ireturn, 1) := by decide +kernel
theorem dX8_ofWagon_171 : decode cX8_ofWagon 171 = .ok (.iload_n 2, 1) := by decide +kernel
theorem dX8_ofWagon_172 : decode cX8_ofWagon 172 = .ok (.bipush 7, 2) := by decide +kernel
theorem dX8_ofWagon_174 : decode cX8_ofWagon 174 = .ok (.if_icmp .ne 8, 3) := by decide +kernel
theorem dX8_ofWagon_177 : decode cX8_ofWagon 177 = .ok (.iload 5, 2) := by decide +kernel
theorem dX8_ofWagon_179 : decode cX8_ofWagon 179 = .ok (.goto 5, 3) := by decide +kernel
theorem dX8_ofWagon_182 : decode cX8_ofWagon 182 = .ok (.bipush (-2), 2) := by decide +kernel
theorem dX8_ofWagon_184 : decode cX8_ofWagon 184 = .ok (.ireturn, 1) := by decide +kernel
theorem dX8_ofTrain_0 : decode cX8_ofTrain 0 = .ok (.aload_n 0, 1) := by decide +kernel
theorem dX8_ofTrain_1 : decode cX8_ofTrain 1 = .ok (.iload_n 1, 1) := by decide +kernel
theorem dX8_ofTrain_2 : decode cX8_ofTrain 2 = .ok (.invokevirtual 133, 3) := by decide +kernel
theorem dX8_ofTrain_5 : decode cX8_ofTrain 5 = .ok (.ifCond .ne 5, 3) := by decide +kernel
theorem dX8_ofTrain_8 : decode cX8_ofTrain 8 = .ok (.iconst (-1), 1) := by decide +kernel
theorem dX8_ofTrain_9 : decode cX8_ofTrain 9 = .ok (.ireturn, 1) := by decide +kernel
theorem dX8_ofTrain_10 : decode cX8_ofTrain 10 = .ok (.sipush 450, 3) := by decide +kernel
theorem dX8_ofTrain_13 : decode cX8_ofTrain 13 = .ok (.bipush 10, 2) := by decide +kernel
theorem dX8_ofTrain_15 : decode cX8_ofTrain 15 = .ok (.iload_n 1, 1) := by decide +kernel
theorem dX8_ofTrain_16 : decode cX8_ofTrain 16 = .ok (.imul, 1) := by decide +kernel
theorem dX8_ofTrain_17 : decode cX8_ofTrain 17 = .ok (.iadd, 1) := by decide +kernel
theorem dX8_ofTrain_18 : decode cX8_ofTrain 18 = .ok (.istore_n 3, 1) := by decide +kernel
theorem dX8_ofTrain_19 : decode cX8_ofTrain 19 = .ok (.iload_n 2, 1) := by decide +kernel
theorem dX8_ofTrain_20 : decode cX8_ofTrain 20 = .ok (.iconst 2, 1) := by decide +kernel
theorem dX8_ofTrain_21 : decode cX8_ofTrain 21 = .ok (.bipush 9, 2) := by decide +kernel
theorem dX8_ofTrain_23 : decode cX8_ofTrain 23 = .ok (.invokestatic 55, 3) := by decide +kernel
theorem dX8_ofTrain_26 : decode cX8_ofTrain 26 = .ok (.ifCond .eq 31, 3) := by decide +kernel
theorem dX8_ofTrain_29 : decode cX8_ofTrain 29 = .ok (.iload_n 2, 1) := by decide +kernel
theorem dX8_ofTrain_30 : decode cX8_ofTrain 30 = .ok (.iconst 2, 1) := by decide +kernel
theorem dX8_ofTrain_31 : decode cX8_ofTrain 31 = .ok (.isub, 1) := by decide +kernel
theorem dX8_ofTrain_32 : decode cX8_ofTrain 32 = .ok (.aload_n 0, 1) := by decide +kernel
theorem dX8_ofTrain_33 : decode cX8_ofTrain 33 = .ok (.getfield 7, 3) := by decide +kernel
theorem dX8_ofTrain_36 : decode cX8_ofTrain 36 = .ok (.iload_n 3, 1) := by decide +kernel
theorem dX8_ofTrain_37 : decode cX8_ofTrain 37 = .ok (.iconst 1, 1) := by decide +kernel
theorem dX8_ofTrain_38 : decode cX8_ofTrain 38 = .ok (.iadd, 1) := by decide +kernel
theorem dX8_ofTrain_39 : decode cX8_ofTrain 39 = .ok (.iaload, 1) := by decide +kernel
theorem dX8_ofTrain_40 : decode cX8_ofTrain 40 = .ok (.if_icmp .ge 14, 3) := by decide +kernel
theorem dX8_ofTrain_43 : decode cX8_ofTrain 43 = .ok (.aload_n 0, 1) := by decide +kernel
theorem dX8_ofTrain_44 : decode cX8_ofTrain 44 = .ok (.getfield 7, 3) := by decide +kernel
theorem dX8_ofTrain_47 : decode cX8_ofTrain 47 = .ok (.iload_n 3, 1) := by decide +kernel
theorem dX8_ofTrain_48 : decode cX8_ofTrain 48 = .ok (.iload_n 2, 1) := by decide +kernel
theorem dX8_ofTrain_49 : decode cX8_ofTrain 49 = .ok (.iadd, 1) := by decide +kernel
theorem dX8_ofTrain_50 : decode cX8_ofTrain 50 = .ok (.iaload, 1) := by decide +kernel
theorem dX8_ofTrain_51 : decode cX8_ofTrain 51 = .ok (.goto 5, 3) := by decide +kernel
theorem dX8_ofTrain_54 : decode cX8_ofTrain 54 = .ok (.bipush (-6), 2) := by decide +kernel
theorem dX8_ofTrain_56 : decode cX8_ofTrain 56 = .ok (.ireturn, 1) := by decide +kernel
theorem dX8_ofTrain_57 : decode cX8_ofTrain 57 = .ok (.iload_n 2, 1) := by decide +kernel
theorem dX8_ofTrain_58 : decode cX8_ofTrain 58 = .ok (.ifCond .ne 14, 3) := by decide +kernel
theorem dX8_ofTrain_61 : decode cX8_ofTrain 61 = .ok (.aload_n 0, 1) := by decide +kernel
theorem dX8_ofTrain_62 : decode cX8_ofTrain 62 = .ok (.getfield 7, 3) := by decide +kernel
theorem dX8_ofTrain_65 : decode cX8_ofTrain 65 = .ok (.iload_n 3, 1) := by decide +kernel
theorem dX8_ofTrain_66 : decode cX8_ofTrain 66 = .ok (.iconst 1, 1) := by decide +kernel
theorem dX8_ofTrain_67 : decode cX8_ofTrain 67 = .ok (.iadd, 1) := by decide +kernel
theorem dX8_ofTrain_68 : decode cX8_ofTrain 68 = .ok (.iaload, 1) := by decide +kernel
theorem dX8_ofTrain_69 : decode cX8_ofTrain 69 = .ok (.goto 43, 3) := by decide +kernel
theorem dX8_ofTrain_72 : decode cX8_ofTrain 72 = .ok (.iload_n 2, 1) := by decide +kernel
theorem dX8_ofTrain_73 : decode cX8_ofTrain 73 = .ok (.iconst 1, 1) := by decide +kernel
theorem dX8_ofTrain_74 : decode cX8_ofTrain 74 = .ok (.if_icmp .ne 12, 3) := by decide +kernel
theorem dX8_ofTrain_77 : decode cX8_ofTrain 77 = .ok (.aload_n 0, 1) := by decide +kernel
theorem dX8_ofTrain_78 : decode cX8_ofTrain 78 = .ok (.getfield 7, 3) := by decide +kernel
theorem dX8_ofTrain_81 : decode cX8_ofTrain 81 = .ok (.iload_n 3, 1) := by decide +kernel
theorem dX8_ofTrain_82 : decode cX8_ofTrain 82 = .ok (.iaload, 1) := by decide +kernel
theorem dX8_ofTrain_83 : decode cX8_ofTrain 83 = .ok (.goto 29, 3) := by decide +kernel
theorem dX8_ofTrain_86 : decode cX8_ofTrain 86 = .ok (.iload_n 2, 1) := by decide +kernel
theorem dX8_ofTrain_87 : decode cX8_ofTrain 87 = .ok (.bipush 10, 2) := by decide +kernel
theorem dX8_ofTrain_89 : decode cX8_ofTrain 89 = .ok (.if_icmp .ne 21, 3) := by decide +kernel
theorem dX8_ofTrain_92 : decode cX8_ofTrain 92 = .ok (.aload_n 0, 1) := by decide +kernel
theorem dX8_ofTrain_93 : decode cX8_ofTrain 93 = .ok (.iload_n 3, 1) := by decide +kernel
theorem dX8_ofTrain_94 : decode cX8_ofTrain 94 = .ok (.iconst 2, 1) := by decide +kernel
theorem dX8_ofTrain_95 : decode cX8_ofTrain 95 = .ok (.iadd, 1) := by decide +kernel
theorem dX8_ofTrain_96 : decode cX8_ofTrain 96 = .ok (.aload_n 0, 1) := by decide +kernel
theorem dX8_ofTrain_97 : decode cX8_ofTrain 97 = .ok (.getfield 7, 3) := by decide +kernel
theorem dX8_ofTrain_100 : decode cX8_ofTrain 100 = .ok (.iload_n 3, 1) := by decide +kernel
theorem dX8_ofTrain_101 : decode cX8_ofTrain 101 = .ok (.iconst 1, 1) := by decide +kernel
theorem dX8_ofTrain_102 : decode cX8_ofTrain 102 = .ok (.iadd, 1) := by decide +kernel
theorem dX8_ofTrain_103 : decode cX8_ofTrain 103 = .ok (.iaload, 1) := by decide +kernel
theorem dX8_ofTrain_104 : decode cX8_ofTrain 104 = .ok (.invokevirtual 75, 3) := by decide +kernel
theorem dX8_ofTrain_107 : decode cX8_ofTrain 107 = .ok (.goto 5, 3) := by decide +kernel
theorem dX8_ofTrain_110 : decode cX8_ofTrain 110 = .ok (.bipush (-2), 2) := by decide +kernel
theorem dX8_ofTrain_112 : decode cX8_ofTrain 112 = .ok (.ireturn, 1) := by decide +kernel
theorem dX8_count_0 : decode cX8_count 0 = .ok (.iload_n 1, 1) := by decide +kernel
theorem dX8_count_1 : decode cX8_count 1 = .ok (.bipush 15, 2) := by decide +kernel
theorem dX8_count_3 : decode cX8_count 3 = .ok (.bipush 20, 2) := by decide +kernel
theorem dX8_count_5 : decode cX8_count 5 = .ok (.invokestatic 55, 3) := by decide +kernel
theorem dX8_count_8 : decode cX8_count 8 = .ok (.ifCond .eq 13, 3) := by decide +kernel
theorem dX8_count_11 : decode cX8_count 11 = .ok (.aload_n 0, 1) := by decide +kernel
theorem dX8_count_12 : decode cX8_count 12 = .ok (.getfield 7, 3) := by decide +kernel
theorem dX8_count_15 : decode cX8_count 15 = .ok (.iload_n 1, 1) := by decide +kernel
theorem dX8_count_16 : decode cX8_count 16 = .ok (.bipush 15, 2) := by decide +kernel
theorem dX8_count_18 : decode cX8_count 18 = .ok (.isub, 1) := by decide +kernel
theorem dX8_count_19 : decode cX8_count 19 = .ok (.iaload, 1) := by decide +kernel
theorem dX8_count_20 : decode cX8_count 20 = .ok (.ireturn, 1) := by decide +kernel
theorem dX8_count_21 : decode cX8_count 21 = .ok (.iload_n 1, 1) := by decide +kernel
theorem dX8_count_22 : decode cX8_count 22 = .ok (.tableswitch 157 0 13 #[70, 78, 86, 94, 102, 107, 115, 123, 131, 139, 139, 139, 139, 152], 70) := by decide +kernel
theorem dX8_count_92 : decode cX8_count 92 = .ok (.aload_n 0, 1) := by decide +kernel
theorem dX8_count_93 : decode cX8_count 93 = .ok (.getfield 7, 3) := by decide +kernel
theorem dX8_count_96 : decode cX8_count 96 = .ok (.bipush 6, 2) := by decide +kernel
theorem dX8_count_98 : decode cX8_count 98 = .ok (.iaload, 1) := by decide +kernel
theorem dX8_count_99 : decode cX8_count 99 = .ok (.ireturn, 1) := by decide +kernel
theorem dX8_count_100 : decode cX8_count 100 = .ok (.aload_n 0, 1) := by decide +kernel
theorem dX8_count_101 : decode cX8_count 101 = .ok (.getfield 7, 3) := by decide +kernel
theorem dX8_count_104 : decode cX8_count 104 = .ok (.bipush 7, 2) := by decide +kernel
theorem dX8_count_106 : decode cX8_count 106 = .ok (.iaload, 1) := by decide +kernel
theorem dX8_count_107 : decode cX8_count 107 = .ok (.ireturn, 1) := by decide +kernel
theorem dX8_count_108 : decode cX8_count 108 = .ok (.aload_n 0, 1) := by decide +kernel
theorem dX8_count_109 : decode cX8_count 109 = .ok (.getfield 7, 3) := by decide +kernel
theorem dX8_count_112 : decode cX8_count 112 = .ok (.bipush 8, 2) := by decide +kernel
theorem dX8_count_114 : decode cX8_count 114 = .ok (.iaload, 1) := by decide +kernel
theorem dX8_count_115 : decode cX8_count 115 = .ok (.ireturn, 1) := by decide +kernel
theorem dX8_count_116 : decode cX8_count 116 = .ok (.aload_n 0, 1) := by decide +kernel
theorem dX8_count_117 : decode cX8_count 117 = .ok (.getfield 7, 3) := by decide +kernel
theorem dX8_count_120 : decode cX8_count 120 = .ok (.bipush 9, 2) := by decide +kernel
theorem dX8_count_122 : decode cX8_count 122 = .ok (.iaload, 1) := by decide +kernel
theorem dX8_count_123 : decode cX8_count 123 = .ok (.ireturn, 1) := by decide +kernel
theorem dX8_count_124 : decode cX8_count 124 = .ok (.aload_n 0, 1) := by decide +kernel
theorem dX8_count_125 : decode cX8_count 125 = .ok (.invokevirtual 93, 3) := by decide +kernel
theorem dX8_count_128 : decode cX8_count 128 = .ok (.ireturn, 1) := by decide +kernel
theorem dX8_count_129 : decode cX8_count 129 = .ok (.aload_n 0, 1) := by decide +kernel
theorem dX8_count_130 : decode cX8_count 130 = .ok (.getfield 7, 3) := by decide +kernel
theorem dX8_count_133 : decode cX8_count 133 = .ok (.bipush 10, 2) := by decide +kernel
theorem dX8_count_135 : decode cX8_count 135 = .ok (.iaload, 1) := by decide +kernel
theorem dX8_count_136 : decode cX8_count 136 = .ok (.ireturn, 1) := by decide +kernel
theorem dX8_count_137 : decode cX8_count 137 = .ok (.aload_n 0, 1) := by decide +kernel
theorem dX8_count_138 : decode cX8_count 138 = .ok (.getfield 7, 3) := by decide +kernel
theorem dX8_count_141 : decode cX8_count 141 = .ok (.bipush 11, 2) := by decide +kernel
theorem dX8_count_143 : decode cX8_count 143 = .ok (.iaload, 1) := by decide +kernel
theorem dX8_count_144 : decode cX8_count 144 = .ok (.ireturn, 1) := by decide +kernel
theorem dX8_count_145 : decode cX8_count 145 = .ok (.aload_n 0, 1) := by decide +kernel
theorem dX8_count_146 : decode cX8_count 146 = .ok (.getfield 7, 3) := by decide +kernel
theorem dX8_count_149 : decode cX8_count 149 = .ok (.bipush 12, 2) := by decide +kernel
theorem dX8_count_151 : decode cX8_count 151 = .ok (.iaload, 1) := by decide +kernel
theorem dX8_count_152 : decode cX8_count 152 = .ok (.ireturn, 1) := by decide +kernel
theorem dX8_count_153 : decode cX8_count 153 = .ok (.aload_n 0, 1) := by decide +kernel
theorem dX8_count_154 : decode cX8_count 154 = .ok (.getfield 7, 3) := by decide +kernel
theorem dX8_count_157 : decode cX8_count 157 = .ok (.bipush 13, 2) := by decide +kernel
theorem dX8_count_159 : decode cX8_count 159 = .ok (.iaload, 1) := by decide +kernel
theorem dX8_count_160 : decode cX8_count 160 = .ok (.ireturn, 1) := by decide +kernel
theorem dX8_count_161 : decode cX8_count 161 = .ok (.aload_n 0, 1) := by decide +kernel
theorem dX8_count_162 : decode cX8_count 162 = .ok (.getfield 7, 3) := by decide +kernel
theorem dX8_count_165 : decode cX8_count 165 = .ok (.bipush 14, 2) := by decide +kernel
theorem dX8_count_167 : decode cX8_count 167 = .ok (.iload_n 1, 1) := by decide +kernel
theorem dX8_count_168 : decode cX8_count 168 = .ok (.iadd, 1) := by decide +kernel
theorem dX8_count_169 : decode cX8_count 169 = .ok (.bipush 9, 2) := by decide +kernel
theorem dX8_count_171 : decode cX8_count 171 = .ok (.isub, 1) := by decide +kernel
theorem dX8_count_172 : decode cX8_count 172 = .ok (.iaload, 1) := by decide +kernel
theorem dX8_count_173 : decode cX8_count 173 = .ok (.ireturn, 1) := by decide +kernel
theorem dX8_count_174 : decode cX8_count 174 = .ok (.aload_n 0, 1) := by decide +kernel
theorem dX8_count_175 : decode cX8_count 175 = .ok (.getfield 149, 3) := by decide +kernel
theorem dX8_count_178 : decode cX8_count 178 = .ok (.ireturn, 1) := by decide +kernel
theorem dX8_count_179 : decode cX8_count 179 = .ok (.iload_n 1, 1) := by decide +kernel
theorem dX8_count_180 : decode cX8_count 180 = .ok (.bipush 14, 2) := by decide +kernel
theorem dX8_count_182 : decode cX8_count 182 = .ok (.if_icmp .ne 10, 3) := by decide +kernel
theorem dX8_count_185 : decode cX8_count 185 = .ok (.aload_n 0, 1) := by decide +kernel
theorem dX8_count_186 : decode cX8_count 186 = .ok (.getfield 51, 3) := by decide +kernel
theorem dX8_count_189 : decode cX8_count 189 = .ok (.goto 5, 3) := by decide +kernel
theorem dX8_count_192 : decode cX8_count 192 = .ok (.bipush (-2), 2) := by decide +kernel
theorem dX8_count_194 : decode cX8_count 194 = .ok (.ireturn, 1) := by decide +kernel
theorem dX8_freeFrom_0 : decode cX8_freeFrom 0 = .ok (.iload_n 1, 1) := by decide +kernel
theorem dX8_freeFrom_1 : decode cX8_freeFrom 1 = .ok (.iconst 1, 1) := by decide +kernel
theorem dX8_freeFrom_2 : decode cX8_freeFrom 2 = .ok (.sipush 500, 3) := by decide +kernel
theorem dX8_freeFrom_5 : decode cX8_freeFrom 5 = .ok (.invokestatic 55, 3) := by decide +kernel
theorem dX8_freeFrom_8 : decode cX8_freeFrom 8 = .ok (.ifCond .eq 18, 3) := by decide +kernel
theorem dX8_freeFrom_11 : decode cX8_freeFrom 11 = .ok (.aload_n 0, 1) := by decide +kernel
theorem dX8_freeFrom_12 : decode cX8_freeFrom 12 = .ok (.aload_n 0, 1) := by decide +kernel
theorem dX8_freeFrom_13 : decode cX8_freeFrom 13 = .ok (.getfield 7, 3) := by decide +kernel
theorem dX8_freeFrom_16 : decode cX8_freeFrom 16 = .ok (.bipush 6, 2) := by decide +kernel
theorem dX8_freeFrom_18 : decode cX8_freeFrom 18 = .ok (.iaload, 1) := by decide +kernel
theorem dX8_freeFrom_19 : decode cX8_freeFrom 19 = .ok (.iload_n 1, 1) := by decide +kernel
theorem dX8_freeFrom_20 : decode cX8_freeFrom 20 = .ok (.invokevirtual 86, 3) := by decide +kernel
theorem dX8_freeFrom_23 : decode cX8_freeFrom 23 = .ok (.goto 5, 3) := by decide +kernel
theorem dX8_freeFrom_26 : decode cX8_freeFrom 26 = .ok (.bipush (-2), 2) := by decide +kernel
theorem dX8_freeFrom_28 : decode cX8_freeFrom 28 = .ok (.ireturn, 1) := by decide +kernel
theorem dX8_layPulls_0 : decode cX8_layPulls 0 = .ok (.sipush 450, 3) := by decide +kernel
theorem dX8_layPulls_3 : decode cX8_layPulls 3 = .ok (.bipush 10, 2) := by decide +kernel
theorem dX8_layPulls_5 : decode cX8_layPulls 5 = .ok (.iload_n 1, 1) := by decide +kernel
theorem dX8_layPulls_6 : decode cX8_layPulls 6 = .ok (.imul, 1) := by decide +kernel
theorem dX8_layPulls_7 : decode cX8_layPulls 7 = .ok (.iadd, 1) := by decide +kernel
theorem dX8_layPulls_8 : decode cX8_layPulls 8 = .ok (.istore_n 2, 1) := by decide +kernel
theorem dX8_layPulls_9 : decode cX8_layPulls 9 = .ok (.aload_n 0, 1) := by decide +kernel
theorem dX8_layPulls_10 : decode cX8_layPulls 10 = .ok (.iconst 0, 1) := by decide +kernel
theorem dX8_layPulls_11 : decode cX8_layPulls 11 = .ok (.putfield 152, 3) := by decide +kernel
theorem dX8_layPulls_14 : decode cX8_layPulls 14 = .ok (.iconst 0, 1) := by decide +kernel
theorem dX8_layPulls_15 : decode cX8_layPulls 15 = .ok (.istore_n 3, 1) := by decide +kernel
theorem dX8_layPulls_16 : decode cX8_layPulls 16 = .ok (.iload_n 3, 1) := by decide +kernel
theorem dX8_layPulls_17 : decode cX8_layPulls 17 = .ok (.bipush 8, 2) := by decide +kernel
theorem dX8_layPulls_19 : decode cX8_layPulls 19 = .ok (.if_icmp .ge 16, 3) := by decide +kernel
theorem dX8_layPulls_22 : decode cX8_layPulls 22 = .ok (.aload_n 0, 1) := by decide +kernel
theorem dX8_layPulls_23 : decode cX8_layPulls 23 = .ok (.getfield 35, 3) := by decide +kernel
theorem dX8_layPulls_26 : decode cX8_layPulls 26 = .ok (.iload_n 3, 1) := by decide +kernel
theorem dX8_layPulls_27 : decode cX8_layPulls 27 = .ok (.iconst 0, 1) := by decide +kernel
theorem dX8_layPulls_28 : decode cX8_layPulls 28 = .ok (.iastore, 1) := by decide +kernel
theorem dX8_layPulls_29 : decode cX8_layPulls 29 = .ok (.iinc 3 1, 3) := by decide +kernel
theorem dX8_layPulls_32 : decode cX8_layPulls 32 = .ok (.goto (-16), 3) := by decide +kernel
theorem dX8_layPulls_35 : decode cX8_layPulls 35 = .ok (.aload_n 0, 1) := by decide +kernel
theorem dX8_layPulls_36 : decode cX8_layPulls 36 = .ok (.getfield 7, 3) := by decide +kernel
theorem dX8_layPulls_39 : decode cX8_layPulls 39 = .ok (.bipush 9, 2) := by decide +kernel
theorem dX8_layPulls_41 : decode cX8_layPulls 41 = .ok (.iaload, 1) := by decide +kernel
theorem dX8_layPulls_42 : decode cX8_layPulls 42 = .ok (.aload_n 0, 1) := by decide +kernel
theorem dX8_layPulls_43 : decode cX8_layPulls 43 = .ok (.getfield 7, 3) := by decide +kernel
theorem dX8_layPulls_46 : decode cX8_layPulls 46 = .ok (.iload_n 2, 1) := by decide +kernel
theorem dX8_layPulls_47 : decode cX8_layPulls 47 = .ok (.iconst 1, 1) := by decide +kernel
theorem dX8_layPulls_48 : decode cX8_layPulls 48 = .ok (.iadd, 1) := by decide +kernel
theorem dX8_layPulls_49 : decode cX8_layPulls 49 = .ok (.iaload, 1) := by decide +kernel
theorem dX8_layPulls_50 : decode cX8_layPulls 50 = .ok (.if_icmp .le 5, 3) := by decide +kernel
theorem dX8_layPulls_53 : decode cX8_layPulls 53 = .ok (.iconst 0, 1) := by decide +kernel
theorem dX8_layPulls_54 : decode cX8_layPulls 54 = .ok (.ireturn, 1) := by decide +kernel
theorem dX8_layPulls_55 : decode cX8_layPulls 55 = .ok (.iconst 0, 1) := by decide +kernel
theorem dX8_layPulls_56 : decode cX8_layPulls 56 = .ok (.istore_n 3, 1) := by decide +kernel
theorem dX8_layPulls_57 : decode cX8_layPulls 57 = .ok (.iload_n 3, 1) := by decide +kernel
theorem dX8_layPulls_58 : decode cX8_layPulls 58 = .ok (.aload_n 0, 1) := by decide +kernel
theorem dX8_layPulls_59 : decode cX8_layPulls 59 = .ok (.getfield 7, 3) := by decide +kernel
theorem dX8_layPulls_62 : decode cX8_layPulls 62 = .ok (.iload_n 2, 1) := by decide +kernel
theorem dX8_layPulls_63 : decode cX8_layPulls 63 = .ok (.iconst 1, 1) := by decide +kernel
theorem dX8_layPulls_64 : decode cX8_layPulls 64 = .ok (.iadd, 1) := by decide +kernel
theorem dX8_layPulls_65 : decode cX8_layPulls 65 = .ok (.iaload, 1) := by decide +kernel
theorem dX8_layPulls_66 : decode cX8_layPulls 66 = .ok (.if_icmp .ge 173, 3) := by decide +kernel
theorem dX8_layPulls_69 : decode cX8_layPulls 69 = .ok (.aload_n 0, 1) := by decide +kernel
theorem dX8_layPulls_70 : decode cX8_layPulls 70 = .ok (.getfield 7, 3) := by decide +kernel
theorem dX8_layPulls_73 : decode cX8_layPulls 73 = .ok (.iload_n 2, 1) := by decide +kernel
theorem dX8_layPulls_74 : decode cX8_layPulls 74 = .ok (.iconst 2, 1) := by decide +kernel
theorem dX8_layPulls_75 : decode cX8_layPulls 75 = .ok (.iadd, 1) := by decide +kernel
theorem dX8_layPulls_76 : decode cX8_layPulls 76 = .ok (.iload_n 3, 1) := by decide +kernel
theorem dX8_layPulls_77 : decode cX8_layPulls 77 = .ok (.iadd, 1) := by decide +kernel
theorem dX8_layPulls_78 : decode cX8_layPulls 78 = .ok (.iaload, 1) := by decide +kernel
theorem dX8_layPulls_79 : decode cX8_layPulls 79 = .ok (.istore 4, 2) := by decide +kernel
theorem dX8_layPulls_81 : decode cX8_layPulls 81 = .ok (.iload_n 3, 1) := by decide +kernel
theorem dX8_layPulls_82 : decode cX8_layPulls 82 = .ok (.aload_n 0, 1) := by decide +kernel
theorem dX8_layPulls_83 : decode cX8_layPulls 83 = .ok (.getfield 7, 3) := by decide +kernel
theorem dX8_layPulls_86 : decode cX8_layPulls 86 = .ok (.bipush 9, 2) := by decide +kernel
theorem dX8_layPulls_88 : decode cX8_layPulls 88 = .ok (.iaload, 1) := by decide +kernel
theorem dX8_layPulls_89 : decode cX8_layPulls 89 = .ok (.if_icmp .ge 20, 3) := by decide +kernel
theorem dX8_layPulls_92 : decode cX8_layPulls 92 = .ok (.aload_n 0, 1) := by decide +kernel
theorem dX8_layPulls_93 : decode cX8_layPulls 93 = .ok (.getfield 7, 3) := by decide +kernel
theorem dX8_layPulls_96 : decode cX8_layPulls 96 = .ok (.sipush 300, 3) := by decide +kernel
theorem dX8_layPulls_99 : decode cX8_layPulls 99 = .ok (.iload_n 3, 1) := by decide +kernel
theorem dX8_layPulls_100 : decode cX8_layPulls 100 = .ok (.iadd, 1) := by decide +kernel
theorem dX8_layPulls_101 : decode cX8_layPulls 101 = .ok (.iaload, 1) := by decide +kernel
theorem dX8_layPulls_102 : decode cX8_layPulls 102 = .ok (.iload 4, 2) := by decide +kernel
theorem dX8_layPulls_104 : decode cX8_layPulls 104 = .ok (.if_icmp .eq 129, 3) := by decide +kernel
theorem dX8_layPulls_107 : decode cX8_layPulls 107 = .ok (.iconst 0, 1) := by decide +kernel
theorem dX8_layPulls_108 : decode cX8_layPulls 108 = .ok (.ireturn, 1) := by decide +kernel
theorem dX8_layPulls_109 : decode cX8_layPulls 109 = .ok (.aload_n 0, 1) := by decide +kernel
theorem dX8_layPulls_110 : decode cX8_layPulls 110 = .ok (.iload 4, 2) := by decide +kernel
theorem dX8_layPulls_112 : decode cX8_layPulls 112 = .ok (.invokevirtual 146, 3) := by decide +kernel
theorem dX8_layPulls_115 : decode cX8_layPulls 115 = .ok (.istore 5, 2) := by decide +kernel
theorem dX8_layPulls_117 : decode cX8_layPulls 117 = .ok (.iload 5, 2) := by decide +kernel
theorem dX8_layPulls_119 : decode cX8_layPulls 119 = .ok (.ifCond .lt 29, 3) := by decide +kernel
theorem dX8_layPulls_122 : decode cX8_layPulls 122 = .ok (.aload_n 0, 1) := by decide +kernel
theorem dX8_layPulls_123 : decode cX8_layPulls 123 = .ok (.getfield 7, 3) := by decide +kernel
theorem dX8_layPulls_126 : decode cX8_layPulls 126 = .ok (.bipush 60, 2) := by decide +kernel
theorem dX8_layPulls_128 : decode cX8_layPulls 128 = .ok (.bipush 30, 2) := by decide +kernel
theorem dX8_layPulls_130 : decode cX8_layPulls 130 = .ok (.iload 5, 2) := by decide +kernel
theorem dX8_layPulls_132 : decode cX8_layPulls 132 = .ok (.imul, 1) := by decide +kernel
theorem dX8_layPulls_133 : decode cX8_layPulls 133 = .ok (.iadd, 1) := by decide +kernel
theorem dX8_layPulls_134 : decode cX8_layPulls 134 = .ok (.aload_n 0, 1) := by decide +kernel
theorem dX8_layPulls_135 : decode cX8_layPulls 135 = .ok (.getfield 35, 3) := by decide +kernel
theorem dX8_layPulls_138 : decode cX8_layPulls 138 = .ok (.iload 5, 2) := by decide +kernel
theorem dX8_layPulls_140 : decode cX8_layPulls 140 = .ok (.iaload, 1) := by decide +kernel
theorem dX8_layPulls_141 : decode cX8_layPulls 141 = .ok (.iadd, 1) := by decide +kernel
theorem dX8_layPulls_142 : decode cX8_layPulls 142 = .ok (.iaload, 1) := by decide +kernel
theorem dX8_layPulls_143 : decode cX8_layPulls 143 = .ok (.iload 4, 2) := by decide +kernel
theorem dX8_layPulls_145 : decode cX8_layPulls 145 = .ok (.if_icmp .eq 5, 3) := by decide +kernel
theorem dX8_layPulls_148 : decode cX8_layPulls 148 = .ok (.iconst 0, 1) := by decide +kernel
theorem dX8_layPulls_149 : decode cX8_layPulls 149 = .ok (.ireturn, 1) := by decide +kernel
theorem dX8_layPulls_150 : decode cX8_layPulls 150 = .ok (.aload_n 0, 1) := by decide +kernel
theorem dX8_layPulls_151 : decode cX8_layPulls 151 = .ok (.getfield 35, 3) := by decide +kernel
theorem dX8_layPulls_154 : decode cX8_layPulls 154 = .ok (.iload 5, 2) := by decide +kernel
theorem dX8_layPulls_156 : decode cX8_layPulls 156 = .ok (.dup2, 1) := by decide +kernel
theorem dX8_layPulls_157 : decode cX8_layPulls 157 = .ok (.iaload, 1) := by decide +kernel
theorem dX8_layPulls_158 : decode cX8_layPulls 158 = .ok (.iconst 1, 1) := by decide +kernel
theorem dX8_layPulls_159 : decode cX8_layPulls 159 = .ok (.iadd, 1) := by decide +kernel
theorem dX8_layPulls_160 : decode cX8_layPulls 160 = .ok (.iastore, 1) := by decide +kernel
theorem dX8_layPulls_161 : decode cX8_layPulls 161 = .ok (.aload_n 0, 1) := by decide +kernel
theorem dX8_layPulls_162 : decode cX8_layPulls 162 = .ok (.getfield 152, 3) := by decide +kernel
theorem dX8_layPulls_165 : decode cX8_layPulls 165 = .ok (.ifCond .le 37, 3) := by decide +kernel
theorem dX8_layPulls_168 : decode cX8_layPulls 168 = .ok (.aload_n 0, 1) := by decide +kernel
theorem dX8_layPulls_169 : decode cX8_layPulls 169 = .ok (.getfield 38, 3) := by decide +kernel
theorem dX8_layPulls_172 : decode cX8_layPulls 172 = .ok (.aload_n 0, 1) := by decide +kernel
theorem dX8_layPulls_173 : decode cX8_layPulls 173 = .ok (.getfield 152, 3) := by decide +kernel
theorem dX8_layPulls_176 : decode cX8_layPulls 176 = .ok (.iconst 1, 1) := by decide +kernel
theorem dX8_layPulls_177 : decode cX8_layPulls 177 = .ok (.isub, 1) := by decide +kernel
theorem dX8_layPulls_178 : decode cX8_layPulls 178 = .ok (.iaload, 1) := by decide +kernel
theorem dX8_layPulls_179 : decode cX8_layPulls 179 = .ok (.iload 5, 2) := by decide +kernel
theorem dX8_layPulls_181 : decode cX8_layPulls 181 = .ok (.if_icmp .ne 21, 3) := by decide +kernel
theorem dX8_layPulls_184 : decode cX8_layPulls 184 = .ok (.aload_n 0, 1) := by decide +kernel
theorem dX8_layPulls_185 : decode cX8_layPulls 185 = .ok (.getfield 41, 3) := by decide +kernel
theorem dX8_layPulls_188 : decode cX8_layPulls 188 = .ok (.aload_n 0, 1) := by decide +kernel
theorem dX8_layPulls_189 : decode cX8_layPulls 189 = .ok (.getfield 152, 3) := by decide +kernel
theorem dX8_layPulls_192 : decode cX8_layPulls 192 = .ok (.iconst 1, 1) := by decide +kernel
theorem dX8_layPulls_193 : decode cX8_layPulls 193 = .ok (.isub, 1) := by decide +kernel
theorem dX8_layPulls_194 : decode cX8_layPulls 194 = .ok (.dup2, 1) := by decide +kernel
theorem dX8_layPulls_195 : decode cX8_layPulls 195 = .ok (.iaload, 1) := by decide +kernel
theorem dX8_layPulls_196 : decode cX8_layPulls 196 = .ok (.iconst 1, 1) := by decide +kernel
theorem dX8_layPulls_197 : decode cX8_layPulls 197 = .ok (.iadd, 1) := by decide +kernel
theorem dX8_layPulls_198 : decode cX8_layPulls 198 = .ok (.iastore, 1) := by decide +kernel
theorem dX8_layPulls_199 : decode cX8_layPulls 199 = .ok (.goto 34, 3) := by decide +kernel
theorem dX8_layPulls_202 : decode cX8_layPulls 202 = .ok (.aload_n 0, 1) := by decide +kernel
theorem dX8_layPulls_203 : decode cX8_layPulls 203 = .ok (.getfield 38, 3) := by decide +kernel
theorem dX8_layPulls_206 : decode cX8_layPulls 206 = .ok (.aload_n 0, 1) := by decide +kernel
theorem dX8_layPulls_207 : decode cX8_layPulls 207 = .ok (.getfield 152, 3) := by decide +kernel
theorem dX8_layPulls_210 : decode cX8_layPulls 210 = .ok (.iload 5, 2) := by decide +kernel
theorem dX8_layPulls_212 : decode cX8_layPulls 212 = .ok (.iastore, 1) := by decide +kernel
theorem dX8_layPulls_213 : decode cX8_layPulls 213 = .ok (.aload_n 0, 1) := by decide +kernel
theorem dX8_layPulls_214 : decode cX8_layPulls 214 = .ok (.getfield 41, 3) := by decide +kernel
theorem dX8_layPulls_217 : decode cX8_layPulls 217 = .ok (.aload_n 0, 1) := by decide +kernel
theorem dX8_layPulls_218 : decode cX8_layPulls 218 = .ok (.getfield 152, 3) := by decide +kernel
theorem dX8_layPulls_221 : decode cX8_layPulls 221 = .ok (.iconst 1, 1) := by decide +kernel
theorem dX8_layPulls_222 : decode cX8_layPulls 222 = .ok (.iastore, 1) := by decide +kernel
theorem dX8_layPulls_223 : decode cX8_layPulls 223 = .ok (.aload_n 0, 1) := by decide +kernel
theorem dX8_layPulls_224 : decode cX8_layPulls 224 = .ok (.dup, 1) := by decide +kernel
theorem dX8_layPulls_225 : decode cX8_layPulls 225 = .ok (.getfield 152, 3) := by decide +kernel
theorem dX8_layPulls_228 : decode cX8_layPulls 228 = .ok (.iconst 1, 1) := by decide +kernel
theorem dX8_layPulls_229 : decode cX8_layPulls 229 = .ok (.iadd, 1) := by decide +kernel
theorem dX8_layPulls_230 : decode cX8_layPulls 230 = .ok (.putfield 152, 3) := by decide +kernel
theorem dX8_layPulls_233 : decode cX8_layPulls 233 = .ok (.iinc 3 1, 3) := by decide +kernel
theorem dX8_layPulls_236 : decode cX8_layPulls 236 = .ok (.goto (-179), 3) := by decide +kernel
theorem dX8_layPulls_239 : decode cX8_layPulls 239 = .ok (.iconst 1, 1) := by decide +kernel
theorem dX8_layPulls_240 : decode cX8_layPulls 240 = .ok (.ireturn, 1) := by decide +kernel
theorem dX8_straight_0 : decode cX8_straight 0 = .ok (.aload_n 0, 1) := by decide +kernel
theorem dX8_straight_1 : decode cX8_straight 1 = .ok (.iload_n 1, 1) := by decide +kernel
theorem dX8_straight_2 : decode cX8_straight 2 = .ok (.invokevirtual 133, 3) := by decide +kernel
theorem dX8_straight_5 : decode cX8_straight 5 = .ok (.ifCond .ne 7, 3) := by decide +kernel
theorem dX8_straight_8 : decode cX8_straight 8 = .ok (.iconst (-1), 1) := by decide +kernel
theorem dX8_straight_9 : decode cX8_straight 9 = .ok (.goto 16, 3) := by decide +kernel
theorem dX8_straight_12 : decode cX8_straight 12 = .ok (.aload_n 0, 1) := by decide +kernel
theorem dX8_straight_13 : decode cX8_straight 13 = .ok (.iload_n 1, 1) := by decide +kernel
theorem dX8_straight_14 : decode cX8_straight 14 = .ok (.invokevirtual 155, 3) := by decide +kernel
theorem dX8_straight_17 : decode cX8_straight 17 = .ok (.ifCond .eq 7, 3) := by decide +kernel
theorem dX8_straight_20 : decode cX8_straight 20 = .ok (.iconst 1, 1) := by decide +kernel
theorem dX8_straight_21 : decode cX8_straight 21 = .ok (.goto 4, 3) := by decide +kernel
theorem dX8_straight_24 : decode cX8_straight 24 = .ok (.iconst 0, 1) := by decide +kernel
theorem dX8_straight_25 : decode cX8_straight 25 = .ok (.ireturn, 1) := by decide +kernel
theorem dX8_pulls_0 : decode cX8_pulls 0 = .ok (.aload_n 0, 1) := by decide +kernel
theorem dX8_pulls_1 : decode cX8_pulls 1 = .ok (.iload_n 1, 1) := by decide +kernel
theorem dX8_pulls_2 : decode cX8_pulls 2 = .ok (.invokevirtual 133, 3) := by decide +kernel
theorem dX8_pulls_5 : decode cX8_pulls 5 = .ok (.ifCond .ne 7, 3) := by decide +kernel
theorem dX8_pulls_8 : decode cX8_pulls 8 = .ok (.iconst (-1), 1) := by decide +kernel
theorem dX8_pulls_9 : decode cX8_pulls 9 = .ok (.goto 20, 3) := by decide +kernel
theorem dX8_pulls_12 : decode cX8_pulls 12 = .ok (.aload_n 0, 1) := by decide +kernel
theorem dX8_pulls_13 : decode cX8_pulls 13 = .ok (.iload_n 1, 1) := by decide +kernel
theorem dX8_pulls_14 : decode cX8_pulls 14 = .ok (.invokevirtual 155, 3) := by decide +kernel
theorem dX8_pulls_17 : decode cX8_pulls 17 = .ok (.ifCond .eq 10, 3) := by decide +kernel
theorem dX8_pulls_20 : decode cX8_pulls 20 = .ok (.aload_n 0, 1) := by decide +kernel
theorem dX8_pulls_21 : decode cX8_pulls 21 = .ok (.getfield 152, 3) := by decide +kernel
theorem dX8_pulls_24 : decode cX8_pulls 24 = .ok (.goto 5, 3) := by decide +kernel
theorem dX8_pulls_27 : decode cX8_pulls 27 = .ok (.bipush (-6), 2) := by decide +kernel
theorem dX8_pulls_29 : decode cX8_pulls 29 = .ok (.ireturn, 1) := by decide +kernel
theorem dX8_wouldLeave_0 : decode cX8_wouldLeave 0 = .ok (.aload_n 0, 1) := by decide +kernel
theorem dX8_wouldLeave_1 : decode cX8_wouldLeave 1 = .ok (.iload_n 1, 1) := by decide +kernel
theorem dX8_wouldLeave_2 : decode cX8_wouldLeave 2 = .ok (.invokevirtual 133, 3) := by decide +kernel
theorem dX8_wouldLeave_5 : decode cX8_wouldLeave 5 = .ok (.ifCond .ne 5, 3) := by decide +kernel
theorem dX8_wouldLeave_8 : decode cX8_wouldLeave 8 = .ok (.iconst (-1), 1) := by decide +kernel
theorem dX8_wouldLeave_9 : decode cX8_wouldLeave 9 = .ok (.ireturn, 1) := by decide +kernel
theorem dX8_wouldLeave_10 : decode cX8_wouldLeave 10 = .ok (.aload_n 0, 1) := by decide +kernel
theorem dX8_wouldLeave_11 : decode cX8_wouldLeave 11 = .ok (.iload_n 1, 1) := by decide +kernel
theorem dX8_wouldLeave_12 : decode cX8_wouldLeave 12 = .ok (.invokevirtual 155, 3) := by decide +kernel
theorem dX8_wouldLeave_15 : decode cX8_wouldLeave 15 = .ok (.ifCond .ne 6, 3) := by decide +kernel
theorem dX8_wouldLeave_18 : decode cX8_wouldLeave 18 = .ok (.bipush (-6), 2) := by decide +kernel
theorem dX8_wouldLeave_20 : decode cX8_wouldLeave 20 = .ok (.ireturn, 1) := by decide +kernel
theorem dX8_wouldLeave_21 : decode cX8_wouldLeave 21 = .ok (.iconst 0, 1) := by decide +kernel
theorem dX8_wouldLeave_22 : decode cX8_wouldLeave 22 = .ok (.istore_n 2, 1) := by decide +kernel
theorem dX8_wouldLeave_23 : decode cX8_wouldLeave 23 = .ok (.iload_n 2, 1) := by decide +kernel
theorem dX8_wouldLeave_24 : decode cX8_wouldLeave 24 = .ok (.bipush 8, 2) := by decide +kernel
theorem dX8_wouldLeave_26 : decode cX8_wouldLeave 26 = .ok (.if_icmp .ge 16, 3) := by decide +kernel
theorem dX8_wouldLeave_29 : decode cX8_wouldLeave 29 = .ok (.aload_n 0, 1) := by decide +kernel
theorem dX8_wouldLeave_30 : decode cX8_wouldLeave 30 = .ok (.getfield 35, 3) := by decide +kernel
theorem dX8_wouldLeave_33 : decode cX8_wouldLeave 33 = .ok (.iload_n 2, 1) := by decide +kernel
theorem dX8_wouldLeave_34 : decode cX8_wouldLeave 34 = .ok (.iconst 0, 1) := by decide +kernel
theorem dX8_wouldLeave_35 : decode cX8_wouldLeave 35 = .ok (.iastore, 1) := by decide +kernel
theorem dX8_wouldLeave_36 : decode cX8_wouldLeave 36 = .ok (.iinc 2 1, 3) := by decide +kernel
theorem dX8_wouldLeave_39 : decode cX8_wouldLeave 39 = .ok (.goto (-16), 3) := by decide +kernel
theorem dX8_wouldLeave_42 : decode cX8_wouldLeave 42 = .ok (.aload_n 0, 1) := by decide +kernel
theorem dX8_wouldLeave_43 : decode cX8_wouldLeave 43 = .ok (.getfield 7, 3) := by decide +kernel
theorem dX8_wouldLeave_46 : decode cX8_wouldLeave 46 = .ok (.bipush 6, 2) := by decide +kernel
theorem dX8_wouldLeave_48 : decode cX8_wouldLeave 48 = .ok (.iaload, 1) := by decide +kernel
theorem dX8_wouldLeave_49 : decode cX8_wouldLeave 49 = .ok (.istore_n 2, 1) := by decide +kernel
theorem dX8_wouldLeave_50 : decode cX8_wouldLeave 50 = .ok (.iconst 0, 1) := by decide +kernel
theorem dX8_wouldLeave_51 : decode cX8_wouldLeave 51 = .ok (.istore_n 3, 1) := by decide +kernel
theorem dX8_wouldLeave_52 : decode cX8_wouldLeave 52 = .ok (.iload_n 3, 1) := by decide +kernel
theorem dX8_wouldLeave_53 : decode cX8_wouldLeave 53 = .ok (.aload_n 0, 1) := by decide +kernel
theorem dX8_wouldLeave_54 : decode cX8_wouldLeave 54 = .ok (.getfield 152, 3) := by decide +kernel
theorem dX8_wouldLeave_57 : decode cX8_wouldLeave 57 = .ok (.if_icmp .ge 81, 3) := by decide +kernel
theorem dX8_wouldLeave_60 : decode cX8_wouldLeave 60 = .ok (.aload_n 0, 1) := by decide +kernel
theorem dX8_wouldLeave_61 : decode cX8_wouldLeave 61 = .ok (.getfield 38, 3) := by decide +kernel
theorem dX8_wouldLeave_64 : decode cX8_wouldLeave 64 = .ok (.iload_n 3, 1) := by decide +kernel
theorem dX8_wouldLeave_65 : decode cX8_wouldLeave 65 = .ok (.iaload, 1) := by decide +kernel
theorem dX8_wouldLeave_66 : decode cX8_wouldLeave 66 = .ok (.istore 4, 2) := by decide +kernel
theorem dX8_wouldLeave_68 : decode cX8_wouldLeave 68 = .ok (.aload_n 0, 1) := by decide +kernel
theorem dX8_wouldLeave_69 : decode cX8_wouldLeave 69 = .ok (.getfield 35, 3) := by decide +kernel
theorem dX8_wouldLeave_72 : decode cX8_wouldLeave 72 = .ok (.iload 4, 2) := by decide +kernel
theorem dX8_wouldLeave_74 : decode cX8_wouldLeave 74 = .ok (.dup2, 1) := by decide +kernel
theorem dX8_wouldLeave_75 : decode cX8_wouldLeave 75 = .ok (.iaload, 1) := by decide +kernel
theorem dX8_wouldLeave_76 : decode cX8_wouldLeave 76 = .ok (.aload_n 0, 1) := by decide +kernel
theorem dX8_wouldLeave_77 : decode cX8_wouldLeave 77 = .ok (.getfield 41, 3) := by decide +kernel
theorem dX8_wouldLeave_80 : decode cX8_wouldLeave 80 = .ok (.iload_n 3, 1) := by decide +kernel
theorem dX8_wouldLeave_81 : decode cX8_wouldLeave 81 = .ok (.iaload, 1) := by decide +kernel
theorem dX8_wouldLeave_82 : decode cX8_wouldLeave 82 = .ok (.iadd, 1) := by decide +kernel
theorem dX8_wouldLeave_83 : decode cX8_wouldLeave 83 = .ok (.iastore, 1) := by decide +kernel
theorem dX8_wouldLeave_84 : decode cX8_wouldLeave 84 = .ok (.aload_n 0, 1) := by decide +kernel
theorem dX8_wouldLeave_85 : decode cX8_wouldLeave 85 = .ok (.getfield 7, 3) := by decide +kernel
theorem dX8_wouldLeave_88 : decode cX8_wouldLeave 88 = .ok (.iconst 2, 1) := by decide +kernel
theorem dX8_wouldLeave_89 : decode cX8_wouldLeave 89 = .ok (.iaload, 1) := by decide +kernel
theorem dX8_wouldLeave_90 : decode cX8_wouldLeave 90 = .ok (.aload_n 0, 1) := by decide +kernel
theorem dX8_wouldLeave_91 : decode cX8_wouldLeave 91 = .ok (.getfield 7, 3) := by decide +kernel
theorem dX8_wouldLeave_94 : decode cX8_wouldLeave 94 = .ok (.iconst 3, 1) := by decide +kernel
theorem dX8_wouldLeave_95 : decode cX8_wouldLeave 95 = .ok (.iaload, 1) := by decide +kernel
theorem dX8_wouldLeave_96 : decode cX8_wouldLeave 96 = .ok (.aload_n 0, 1) := by decide +kernel
theorem dX8_wouldLeave_97 : decode cX8_wouldLeave 97 = .ok (.iload 4, 2) := by decide +kernel
theorem dX8_wouldLeave_99 : decode cX8_wouldLeave 99 = .ok (.invokevirtual 72, 3) := by decide +kernel
theorem dX8_wouldLeave_102 : decode cX8_wouldLeave 102 = .ok (.aload_n 0, 1) := by decide +kernel
theorem dX8_wouldLeave_103 : decode cX8_wouldLeave 103 = .ok (.getfield 35, 3) := by decide +kernel
theorem dX8_wouldLeave_106 : decode cX8_wouldLeave 106 = .ok (.iload 4, 2) := by decide +kernel
theorem dX8_wouldLeave_108 : decode cX8_wouldLeave 108 = .ok (.iaload, 1) := by decide +kernel
theorem dX8_wouldLeave_109 : decode cX8_wouldLeave 109 = .ok (.if_icmp .le 7, 3) := by decide +kernel
theorem dX8_wouldLeave_112 : decode cX8_wouldLeave 112 = .ok (.iconst 2, 1) := by decide +kernel
theorem dX8_wouldLeave_113 : decode cX8_wouldLeave 113 = .ok (.goto 4, 3) := by decide +kernel
theorem dX8_wouldLeave_116 : decode cX8_wouldLeave 116 = .ok (.iconst 1, 1) := by decide +kernel
theorem dX8_wouldLeave_117 : decode cX8_wouldLeave 117 = .ok (.imul, 1) := by decide +kernel
theorem dX8_wouldLeave_118 : decode cX8_wouldLeave 118 = .ok (.iadd, 1) := by decide +kernel
theorem dX8_wouldLeave_119 : decode cX8_wouldLeave 119 = .ok (.istore 5, 2) := by decide +kernel
theorem dX8_wouldLeave_121 : decode cX8_wouldLeave 121 = .ok (.aload_n 0, 1) := by decide +kernel
theorem dX8_wouldLeave_122 : decode cX8_wouldLeave 122 = .ok (.iload_n 2, 1) := by decide +kernel
theorem dX8_wouldLeave_123 : decode cX8_wouldLeave 123 = .ok (.iload 5, 2) := by decide +kernel
theorem dX8_wouldLeave_125 : decode cX8_wouldLeave 125 = .ok (.invokevirtual 86, 3) := by decide +kernel
theorem dX8_wouldLeave_128 : decode cX8_wouldLeave 128 = .ok (.iload 5, 2) := by decide +kernel
theorem dX8_wouldLeave_130 : decode cX8_wouldLeave 130 = .ok (.iadd, 1) := by decide +kernel
theorem dX8_wouldLeave_131 : decode cX8_wouldLeave 131 = .ok (.istore_n 2, 1) := by decide +kernel
theorem dX8_wouldLeave_132 : decode cX8_wouldLeave 132 = .ok (.iinc 3 1, 3) := by decide +kernel
theorem dX8_wouldLeave_135 : decode cX8_wouldLeave 135 = .ok (.goto (-83), 3) := by decide +kernel
theorem dX8_wouldLeave_138 : decode cX8_wouldLeave 138 = .ok (.iload_n 2, 1) := by decide +kernel
theorem dX8_wouldLeave_139 : decode cX8_wouldLeave 139 = .ok (.ireturn, 1) := by decide +kernel
theorem dX8_oneMore_0 : decode cX8_oneMore 0 = .ok (.iconst 0, 1) := by decide +kernel
theorem dX8_oneMore_1 : decode cX8_oneMore 1 = .ok (.istore_n 2, 1) := by decide +kernel
theorem dX8_oneMore_2 : decode cX8_oneMore 2 = .ok (.iconst 0, 1) := by decide +kernel
theorem dX8_oneMore_3 : decode cX8_oneMore 3 = .ok (.istore_n 3, 1) := by decide +kernel
theorem dX8_oneMore_4 : decode cX8_oneMore 4 = .ok (.iload_n 3, 1) := by decide +kernel
theorem dX8_oneMore_5 : decode cX8_oneMore 5 = .ok (.sipush 560, 3) := by decide +kernel
theorem dX8_oneMore_8 : decode cX8_oneMore 8 = .ok (.if_icmp .ge 21, 3) := by decide +kernel
theorem dX8_oneMore_11 : decode cX8_oneMore 11 = .ok (.aload_n 0, 1) := by decide +kernel
theorem dX8_oneMore_12 : decode cX8_oneMore 12 = .ok (.getfield 16, 3) := by decide +kernel
theorem dX8_oneMore_15 : decode cX8_oneMore 15 = .ok (.iload_n 3, 1) := by decide +kernel
theorem dX8_oneMore_16 : decode cX8_oneMore 16 = .ok (.aload_n 0, 1) := by decide +kernel
theorem dX8_oneMore_17 : decode cX8_oneMore 17 = .ok (.getfield 7, 3) := by decide +kernel
theorem dX8_oneMore_20 : decode cX8_oneMore 20 = .ok (.iload_n 3, 1) := by decide +kernel
theorem dX8_oneMore_21 : decode cX8_oneMore 21 = .ok (.iaload, 1) := by decide +kernel
theorem dX8_oneMore_22 : decode cX8_oneMore 22 = .ok (.iastore, 1) := by decide +kernel
theorem dX8_oneMore_23 : decode cX8_oneMore 23 = .ok (.iinc 3 1, 3) := by decide +kernel
theorem dX8_oneMore_26 : decode cX8_oneMore 26 = .ok (.goto (-22), 3) := by decide +kernel
theorem dX8_oneMore_29 : decode cX8_oneMore 29 = .ok (.iconst 0, 1) := by decide +kernel
theorem dX8_oneMore_30 : decode cX8_oneMore 30 = .ok (.istore_n 3, 1) := by decide +kernel
theorem dX8_oneMore_31 : decode cX8_oneMore 31 = .ok (.iload_n 3, 1) := by decide +kernel
theorem dX8_oneMore_32 : decode cX8_oneMore 32 = .ok (.aload_n 0, 1) := by decide +kernel
theorem dX8_oneMore_33 : decode cX8_oneMore 33 = .ok (.getfield 7, 3) := by decide +kernel
theorem dX8_oneMore_36 : decode cX8_oneMore 36 = .ok (.bipush 7, 2) := by decide +kernel
theorem dX8_oneMore_38 : decode cX8_oneMore 38 = .ok (.iaload, 1) := by decide +kernel
theorem dX8_oneMore_39 : decode cX8_oneMore 39 = .ok (.if_icmp .ge 93, 3) := by decide +kernel
theorem dX8_oneMore_42 : decode cX8_oneMore 42 = .ok (.iload_n 2, 1) := by decide +kernel
theorem dX8_oneMore_43 : decode cX8_oneMore 43 = .ok (.ifCond .ne 89, 3) := by decide +kernel
theorem dX8_oneMore_46 : decode cX8_oneMore 46 = .ok (.iconst 1, 1) := by decide +kernel
theorem dX8_oneMore_47 : decode cX8_oneMore 47 = .ok (.istore 4, 2) := by decide +kernel
theorem dX8_oneMore_49 : decode cX8_oneMore 49 = .ok (.iload 4, 2) := by decide +kernel
theorem dX8_oneMore_51 : decode cX8_oneMore 51 = .ok (.bipush 31, 2) := by decide +kernel
theorem dX8_oneMore_53 : decode cX8_oneMore 53 = .ok (.if_icmp .ge 73, 3) := by decide +kernel
theorem dX8_oneMore_56 : decode cX8_oneMore 56 = .ok (.iload_n 2, 1) := by decide +kernel
theorem dX8_oneMore_57 : decode cX8_oneMore 57 = .ok (.ifCond .ne 69, 3) := by decide +kernel
theorem dX8_oneMore_60 : decode cX8_oneMore 60 = .ok (.aload_n 0, 1) := by decide +kernel
theorem dX8_oneMore_61 : decode cX8_oneMore 61 = .ok (.iload_n 3, 1) := by decide +kernel
theorem dX8_oneMore_62 : decode cX8_oneMore 62 = .ok (.iload 4, 2) := by decide +kernel
theorem dX8_oneMore_64 : decode cX8_oneMore 64 = .ok (.invokevirtual 97, 3) := by decide +kernel
theorem dX8_oneMore_67 : decode cX8_oneMore 67 = .ok (.ifCond .eq 21, 3) := by decide +kernel
theorem dX8_oneMore_70 : decode cX8_oneMore 70 = .ok (.aload_n 0, 1) := by decide +kernel
theorem dX8_oneMore_71 : decode cX8_oneMore 71 = .ok (.iload_n 3, 1) := by decide +kernel
theorem dX8_oneMore_72 : decode cX8_oneMore 72 = .ok (.iload 4, 2) := by decide +kernel
theorem dX8_oneMore_74 : decode cX8_oneMore 74 = .ok (.invokevirtual 101, 3) := by decide +kernel
theorem dX8_oneMore_77 : decode cX8_oneMore 77 = .ok (.pop, 1) := by decide +kernel
theorem dX8_oneMore_78 : decode cX8_oneMore 78 = .ok (.aload_n 0, 1) := by decide +kernel
theorem dX8_oneMore_79 : decode cX8_oneMore 79 = .ok (.iload_n 1, 1) := by decide +kernel
theorem dX8_oneMore_80 : decode cX8_oneMore 80 = .ok (.invokevirtual 139, 3) := by decide +kernel
theorem dX8_oneMore_83 : decode cX8_oneMore 83 = .ok (.istore_n 2, 1) := by decide +kernel
theorem dX8_oneMore_84 : decode cX8_oneMore 84 = .ok (.aload_n 0, 1) := by decide +kernel
theorem dX8_oneMore_85 : decode cX8_oneMore 85 = .ok (.invokevirtual 158, 3) := by decide +kernel
theorem dX8_oneMore_88 : decode cX8_oneMore 88 = .ok (.iload_n 2, 1) := by decide +kernel
theorem dX8_oneMore_89 : decode cX8_oneMore 89 = .ok (.ifCond .ne 31, 3) := by decide +kernel
theorem dX8_oneMore_92 : decode cX8_oneMore 92 = .ok (.aload_n 0, 1) := by decide +kernel
theorem dX8_oneMore_93 : decode cX8_oneMore 93 = .ok (.iload_n 3, 1) := by decide +kernel
theorem dX8_oneMore_94 : decode cX8_oneMore 94 = .ok (.iload 4, 2) := by decide +kernel
theorem dX8_oneMore_96 : decode cX8_oneMore 96 = .ok (.invokevirtual 108, 3) := by decide +kernel
theorem dX8_oneMore_99 : decode cX8_oneMore 99 = .ok (.ifCond .eq 21, 3) := by decide +kernel
theorem dX8_oneMore_102 : decode cX8_oneMore 102 = .ok (.aload_n 0, 1) := by decide +kernel
theorem dX8_oneMore_103 : decode cX8_oneMore 103 = .ok (.iload_n 3, 1) := by decide +kernel
theorem dX8_oneMore_104 : decode cX8_oneMore 104 = .ok (.iload 4, 2) := by decide +kernel
theorem dX8_oneMore_106 : decode cX8_oneMore 106 = .ok (.invokevirtual 111, 3) := by decide +kernel
theorem dX8_oneMore_109 : decode cX8_oneMore 109 = .ok (.pop, 1) := by decide +kernel
theorem dX8_oneMore_110 : decode cX8_oneMore 110 = .ok (.aload_n 0, 1) := by decide +kernel
theorem dX8_oneMore_111 : decode cX8_oneMore 111 = .ok (.iload_n 1, 1) := by decide +kernel
theorem dX8_oneMore_112 : decode cX8_oneMore 112 = .ok (.invokevirtual 139, 3) := by decide +kernel
theorem dX8_oneMore_115 : decode cX8_oneMore 115 = .ok (.istore_n 2, 1) := by decide +kernel
theorem dX8_oneMore_116 : decode cX8_oneMore 116 = .ok (.aload_n 0, 1) := by decide +kernel
theorem dX8_oneMore_117 : decode cX8_oneMore 117 = .ok (.invokevirtual 158, 3) := by decide +kernel
theorem dX8_oneMore_120 : decode cX8_oneMore 120 = .ok (.iinc 4 1, 3) := by decide +kernel
theorem dX8_oneMore_123 : decode cX8_oneMore 123 = .ok (.goto (-74), 3) := by decide +kernel
theorem dX8_oneMore_126 : decode cX8_oneMore 126 = .ok (.iinc 3 1, 3) := by decide +kernel
theorem dX8_oneMore_129 : decode cX8_oneMore 129 = .ok (.goto (-98), 3) := by decide +kernel
theorem dX8_oneMore_132 : decode cX8_oneMore 132 = .ok (.iload_n 2, 1) := by decide +kernel
theorem dX8_oneMore_133 : decode cX8_oneMore 133 = .ok (.ifCond .ne 24, 3) := by decide +kernel
theorem dX8_oneMore_136 : decode cX8_oneMore 136 = .ok (.aload_n 0, 1) := by decide +kernel
theorem dX8_oneMore_137 : decode cX8_oneMore 137 = .ok (.invokevirtual 114, 3) := by decide +kernel
theorem dX8_oneMore_140 : decode cX8_oneMore 140 = .ok (.ifCond .eq 17, 3) := by decide +kernel
theorem dX8_oneMore_143 : decode cX8_oneMore 143 = .ok (.aload_n 0, 1) := by decide +kernel
theorem dX8_oneMore_144 : decode cX8_oneMore 144 = .ok (.invokevirtual 118, 3) := by decide +kernel
theorem dX8_oneMore_147 : decode cX8_oneMore 147 = .ok (.aload_n 0, 1) := by decide +kernel
theorem dX8_oneMore_148 : decode cX8_oneMore 148 = .ok (.iload_n 1, 1) := by decide +kernel
theorem dX8_oneMore_149 : decode cX8_oneMore 149 = .ok (.invokevirtual 139, 3) := by decide +kernel
theorem dX8_oneMore_152 : decode cX8_oneMore 152 = .ok (.istore_n 2, 1) := by decide +kernel
theorem dX8_oneMore_153 : decode cX8_oneMore 153 = .ok (.aload_n 0, 1) := by decide +kernel
theorem dX8_oneMore_154 : decode cX8_oneMore 154 = .ok (.invokevirtual 158, 3) := by decide +kernel
theorem dX8_oneMore_157 : decode cX8_oneMore 157 = .ok (.iload_n 2, 1) := by decide +kernel
theorem dX8_oneMore_158 : decode cX8_oneMore 158 = .ok (.ireturn, 1) := by decide +kernel
theorem dX8_comeBack2_0 : decode cX8_comeBack2 0 = .ok (.iconst 0, 1) := by decide +kernel
theorem dX8_comeBack2_1 : decode cX8_comeBack2 1 = .ok (.istore_n 1, 1) := by decide +kernel
theorem dX8_comeBack2_2 : decode cX8_comeBack2 2 = .ok (.iload_n 1, 1) := by decide +kernel
theorem dX8_comeBack2_3 : decode cX8_comeBack2 3 = .ok (.sipush 560, 3) := by decide +kernel
theorem dX8_comeBack2_6 : decode cX8_comeBack2 6 = .ok (.if_icmp .ge 21, 3) := by decide +kernel
theorem dX8_comeBack2_9 : decode cX8_comeBack2 9 = .ok (.aload_n 0, 1) := by decide +kernel
theorem dX8_comeBack2_10 : decode cX8_comeBack2 10 = .ok (.getfield 7, 3) := by decide +kernel
theorem dX8_comeBack2_13 : decode cX8_comeBack2 13 = .ok (.iload_n 1, 1) := by decide +kernel
theorem dX8_comeBack2_14 : decode cX8_comeBack2 14 = .ok (.aload_n 0, 1) := by decide +kernel
theorem dX8_comeBack2_15 : decode cX8_comeBack2 15 = .ok (.getfield 16, 3) := by decide +kernel
theorem dX8_comeBack2_18 : decode cX8_comeBack2 18 = .ok (.iload_n 1, 1) := by decide +kernel
theorem dX8_comeBack2_19 : decode cX8_comeBack2 19 = .ok (.iaload, 1) := by decide +kernel
theorem dX8_comeBack2_20 : decode cX8_comeBack2 20 = .ok (.iastore, 1) := by decide +kernel
theorem dX8_comeBack2_21 : decode cX8_comeBack2 21 = .ok (.iinc 1 1, 3) := by decide +kernel
theorem dX8_comeBack2_24 : decode cX8_comeBack2 24 = .ok (.goto (-22), 3) := by decide +kernel
theorem dX8_comeBack2_27 : decode cX8_comeBack2 27 = .ok (.return_, 1) := by decide +kernel
theorem dX8_comeBack_0 : decode cX8_comeBack 0 = .ok (.iconst 0, 1) := by decide +kernel
theorem dX8_comeBack_1 : decode cX8_comeBack 1 = .ok (.istore_n 1, 1) := by decide +kernel
theorem dX8_comeBack_2 : decode cX8_comeBack 2 = .ok (.iload_n 1, 1) := by decide +kernel
theorem dX8_comeBack_3 : decode cX8_comeBack 3 = .ok (.sipush 560, 3) := by decide +kernel
theorem dX8_comeBack_6 : decode cX8_comeBack 6 = .ok (.if_icmp .ge 21, 3) := by decide +kernel
theorem dX8_comeBack_9 : decode cX8_comeBack 9 = .ok (.aload_n 0, 1) := by decide +kernel
theorem dX8_comeBack_10 : decode cX8_comeBack 10 = .ok (.getfield 7, 3) := by decide +kernel
theorem dX8_comeBack_13 : decode cX8_comeBack 13 = .ok (.iload_n 1, 1) := by decide +kernel
theorem dX8_comeBack_14 : decode cX8_comeBack 14 = .ok (.aload_n 0, 1) := by decide +kernel
theorem dX8_comeBack_15 : decode cX8_comeBack 15 = .ok (.getfield 13, 3) := by decide +kernel
theorem dX8_comeBack_18 : decode cX8_comeBack 18 = .ok (.iload_n 1, 1) := by decide +kernel
theorem dX8_comeBack_19 : decode cX8_comeBack 19 = .ok (.iaload, 1) := by decide +kernel
theorem dX8_comeBack_20 : decode cX8_comeBack 20 = .ok (.iastore, 1) := by decide +kernel
theorem dX8_comeBack_21 : decode cX8_comeBack 21 = .ok (.iinc 1 1, 3) := by decide +kernel
theorem dX8_comeBack_24 : decode cX8_comeBack 24 = .ok (.goto (-22), 3) := by decide +kernel
theorem dX8_comeBack_27 : decode cX8_comeBack 27 = .ok (.return_, 1) := by decide +kernel
theorem dX8_moves_0 : decode cX8_moves 0 = .ok (.aload_n 0, 1) := by decide +kernel
theorem dX8_moves_1 : decode cX8_moves 1 = .ok (.iload_n 1, 1) := by decide +kernel
theorem dX8_moves_2 : decode cX8_moves 2 = .ok (.invokevirtual 133, 3) := by decide +kernel
theorem dX8_moves_5 : decode cX8_moves 5 = .ok (.ifCond .ne 5, 3) := by decide +kernel
theorem dX8_moves_8 : decode cX8_moves 8 = .ok (.iconst (-1), 1) := by decide +kernel
theorem dX8_moves_9 : decode cX8_moves 9 = .ok (.ireturn, 1) := by decide +kernel
theorem dX8_moves_10 : decode cX8_moves 10 = .ok (.aload_n 0, 1) := by decide +kernel
theorem dX8_moves_11 : decode cX8_moves 11 = .ok (.iload_n 1, 1) := by decide +kernel
theorem dX8_moves_12 : decode cX8_moves 12 = .ok (.invokevirtual 139, 3) := by decide +kernel
theorem dX8_moves_15 : decode cX8_moves 15 = .ok (.ifCond .eq 5, 3) := by decide +kernel
theorem dX8_moves_18 : decode cX8_moves 18 = .ok (.iconst 0, 1) := by decide +kernel
theorem dX8_moves_19 : decode cX8_moves 19 = .ok (.ireturn, 1) := by decide +kernel
theorem dX8_moves_20 : decode cX8_moves 20 = .ok (.aload_n 0, 1) := by decide +kernel
theorem dX8_moves_21 : decode cX8_moves 21 = .ok (.iload_n 1, 1) := by decide +kernel
theorem dX8_moves_22 : decode cX8_moves 22 = .ok (.invokevirtual 161, 3) := by decide +kernel
theorem dX8_moves_25 : decode cX8_moves 25 = .ok (.ifCond .eq 5, 3) := by decide +kernel
theorem dX8_moves_28 : decode cX8_moves 28 = .ok (.iconst 1, 1) := by decide +kernel
theorem dX8_moves_29 : decode cX8_moves 29 = .ok (.ireturn, 1) := by decide +kernel
theorem dX8_moves_30 : decode cX8_moves 30 = .ok (.iconst 0, 1) := by decide +kernel
theorem dX8_moves_31 : decode cX8_moves 31 = .ok (.istore_n 2, 1) := by decide +kernel
theorem dX8_moves_32 : decode cX8_moves 32 = .ok (.iconst 0, 1) := by decide +kernel
theorem dX8_moves_33 : decode cX8_moves 33 = .ok (.istore_n 3, 1) := by decide +kernel
theorem dX8_moves_34 : decode cX8_moves 34 = .ok (.iload_n 3, 1) := by decide +kernel
theorem dX8_moves_35 : decode cX8_moves 35 = .ok (.sipush 560, 3) := by decide +kernel
theorem dX8_moves_38 : decode cX8_moves 38 = .ok (.if_icmp .ge 21, 3) := by decide +kernel
theorem dX8_moves_41 : decode cX8_moves 41 = .ok (.aload_n 0, 1) := by decide +kernel
theorem dX8_moves_42 : decode cX8_moves 42 = .ok (.getfield 13, 3) := by decide +kernel
theorem dX8_moves_45 : decode cX8_moves 45 = .ok (.iload_n 3, 1) := by decide +kernel
theorem dX8_moves_46 : decode cX8_moves 46 = .ok (.aload_n 0, 1) := by decide +kernel
theorem dX8_moves_47 : decode cX8_moves 47 = .ok (.getfield 7, 3) := by decide +kernel
theorem dX8_moves_50 : decode cX8_moves 50 = .ok (.iload_n 3, 1) := by decide +kernel
theorem dX8_moves_51 : decode cX8_moves 51 = .ok (.iaload, 1) := by decide +kernel
theorem dX8_moves_52 : decode cX8_moves 52 = .ok (.iastore, 1) := by decide +kernel
theorem dX8_moves_53 : decode cX8_moves 53 = .ok (.iinc 3 1, 3) := by decide +kernel
theorem dX8_moves_56 : decode cX8_moves 56 = .ok (.goto (-22), 3) := by decide +kernel
theorem dX8_moves_59 : decode cX8_moves 59 = .ok (.iconst 0, 1) := by decide +kernel
theorem dX8_moves_60 : decode cX8_moves 60 = .ok (.istore_n 3, 1) := by decide +kernel
theorem dX8_moves_61 : decode cX8_moves 61 = .ok (.iload_n 3, 1) := by decide +kernel
theorem dX8_moves_62 : decode cX8_moves 62 = .ok (.aload_n 0, 1) := by decide +kernel
theorem dX8_moves_63 : decode cX8_moves 63 = .ok (.getfield 7, 3) := by decide +kernel
theorem dX8_moves_66 : decode cX8_moves 66 = .ok (.bipush 7, 2) := by decide +kernel
theorem dX8_moves_68 : decode cX8_moves 68 = .ok (.iaload, 1) := by decide +kernel
theorem dX8_moves_69 : decode cX8_moves 69 = .ok (.if_icmp .ge 93, 3) := by decide +kernel
theorem dX8_moves_72 : decode cX8_moves 72 = .ok (.iload_n 2, 1) := by decide +kernel
theorem dX8_moves_73 : decode cX8_moves 73 = .ok (.ifCond .ne 89, 3) := by decide +kernel
theorem dX8_moves_76 : decode cX8_moves 76 = .ok (.iconst 1, 1) := by decide +kernel
theorem dX8_moves_77 : decode cX8_moves 77 = .ok (.istore 4, 2) := by decide +kernel
theorem dX8_moves_79 : decode cX8_moves 79 = .ok (.iload 4, 2) := by decide +kernel
theorem dX8_moves_81 : decode cX8_moves 81 = .ok (.bipush 31, 2) := by decide +kernel
theorem dX8_moves_83 : decode cX8_moves 83 = .ok (.if_icmp .ge 73, 3) := by decide +kernel
theorem dX8_moves_86 : decode cX8_moves 86 = .ok (.iload_n 2, 1) := by decide +kernel
theorem dX8_moves_87 : decode cX8_moves 87 = .ok (.ifCond .ne 69, 3) := by decide +kernel
theorem dX8_moves_90 : decode cX8_moves 90 = .ok (.aload_n 0, 1) := by decide +kernel
theorem dX8_moves_91 : decode cX8_moves 91 = .ok (.iload_n 3, 1) := by decide +kernel
theorem dX8_moves_92 : decode cX8_moves 92 = .ok (.iload 4, 2) := by decide +kernel
theorem dX8_moves_94 : decode cX8_moves 94 = .ok (.invokevirtual 97, 3) := by decide +kernel
theorem dX8_moves_97 : decode cX8_moves 97 = .ok (.ifCond .eq 21, 3) := by decide +kernel
theorem dX8_moves_100 : decode cX8_moves 100 = .ok (.aload_n 0, 1) := by decide +kernel
theorem dX8_moves_101 : decode cX8_moves 101 = .ok (.iload_n 3, 1) := by decide +kernel
theorem dX8_moves_102 : decode cX8_moves 102 = .ok (.iload 4, 2) := by decide +kernel
theorem dX8_moves_104 : decode cX8_moves 104 = .ok (.invokevirtual 101, 3) := by decide +kernel
theorem dX8_moves_107 : decode cX8_moves 107 = .ok (.pop, 1) := by decide +kernel
theorem dX8_moves_108 : decode cX8_moves 108 = .ok (.aload_n 0, 1) := by decide +kernel
theorem dX8_moves_109 : decode cX8_moves 109 = .ok (.iload_n 1, 1) := by decide +kernel
theorem dX8_moves_110 : decode cX8_moves 110 = .ok (.invokevirtual 161, 3) := by decide +kernel
theorem dX8_moves_113 : decode cX8_moves 113 = .ok (.istore_n 2, 1) := by decide +kernel
theorem dX8_moves_114 : decode cX8_moves 114 = .ok (.aload_n 0, 1) := by decide +kernel
theorem dX8_moves_115 : decode cX8_moves 115 = .ok (.invokevirtual 164, 3) := by decide +kernel
theorem dX8_moves_118 : decode cX8_moves 118 = .ok (.iload_n 2, 1) := by decide +kernel
theorem dX8_moves_119 : decode cX8_moves 119 = .ok (.ifCond .ne 31, 3) := by decide +kernel
theorem dX8_moves_122 : decode cX8_moves 122 = .ok (.aload_n 0, 1) := by decide +kernel
theorem dX8_moves_123 : decode cX8_moves 123 = .ok (.iload_n 3, 1) := by decide +kernel
theorem dX8_moves_124 : decode cX8_moves 124 = .ok (.iload 4, 2) := by decide +kernel
theorem dX8_moves_126 : decode cX8_moves 126 = .ok (.invokevirtual 108, 3) := by decide +kernel
theorem dX8_moves_129 : decode cX8_moves 129 = .ok (.ifCond .eq 21, 3) := by decide +kernel
theorem dX8_moves_132 : decode cX8_moves 132 = .ok (.aload_n 0, 1) := by decide +kernel
theorem dX8_moves_133 : decode cX8_moves 133 = .ok (.iload_n 3, 1) := by decide +kernel
theorem dX8_moves_134 : decode cX8_moves 134 = .ok (.iload 4, 2) := by decide +kernel
theorem dX8_moves_136 : decode cX8_moves 136 = .ok (.invokevirtual 111, 3) := by decide +kernel
theorem dX8_moves_139 : decode cX8_moves 139 = .ok (.pop, 1) := by decide +kernel
theorem dX8_moves_140 : decode cX8_moves 140 = .ok (.aload_n 0, 1) := by decide +kernel
theorem dX8_moves_141 : decode cX8_moves 141 = .ok (.iload_n 1, 1) := by decide +kernel
theorem dX8_moves_142 : decode cX8_moves 142 = .ok (.invokevirtual 161, 3) := by decide +kernel
theorem dX8_moves_145 : decode cX8_moves 145 = .ok (.istore_n 2, 1) := by decide +kernel
theorem dX8_moves_146 : decode cX8_moves 146 = .ok (.aload_n 0, 1) := by decide +kernel
theorem dX8_moves_147 : decode cX8_moves 147 = .ok (.invokevirtual 164, 3) := by decide +kernel
theorem dX8_moves_150 : decode cX8_moves 150 = .ok (.iinc 4 1, 3) := by decide +kernel
theorem dX8_moves_153 : decode cX8_moves 153 = .ok (.goto (-74), 3) := by decide +kernel
theorem dX8_moves_156 : decode cX8_moves 156 = .ok (.iinc 3 1, 3) := by decide +kernel
theorem dX8_moves_159 : decode cX8_moves 159 = .ok (.goto (-98), 3) := by decide +kernel
theorem dX8_moves_162 : decode cX8_moves 162 = .ok (.iload_n 2, 1) := by decide +kernel
theorem dX8_moves_163 : decode cX8_moves 163 = .ok (.ifCond .ne 24, 3) := by decide +kernel
theorem dX8_moves_166 : decode cX8_moves 166 = .ok (.aload_n 0, 1) := by decide +kernel
theorem dX8_moves_167 : decode cX8_moves 167 = .ok (.invokevirtual 114, 3) := by decide +kernel
theorem dX8_moves_170 : decode cX8_moves 170 = .ok (.ifCond .eq 17, 3) := by decide +kernel
theorem dX8_moves_173 : decode cX8_moves 173 = .ok (.aload_n 0, 1) := by decide +kernel
theorem dX8_moves_174 : decode cX8_moves 174 = .ok (.invokevirtual 118, 3) := by decide +kernel
theorem dX8_moves_177 : decode cX8_moves 177 = .ok (.aload_n 0, 1) := by decide +kernel
theorem dX8_moves_178 : decode cX8_moves 178 = .ok (.iload_n 1, 1) := by decide +kernel
theorem dX8_moves_179 : decode cX8_moves 179 = .ok (.invokevirtual 161, 3) := by decide +kernel
theorem dX8_moves_182 : decode cX8_moves 182 = .ok (.istore_n 2, 1) := by decide +kernel
theorem dX8_moves_183 : decode cX8_moves 183 = .ok (.aload_n 0, 1) := by decide +kernel
theorem dX8_moves_184 : decode cX8_moves 184 = .ok (.invokevirtual 164, 3) := by decide +kernel
theorem dX8_moves_187 : decode cX8_moves 187 = .ok (.iload_n 2, 1) := by decide +kernel
theorem dX8_moves_188 : decode cX8_moves 188 = .ok (.ifCond .eq 7, 3) := by decide +kernel
theorem dX8_moves_191 : decode cX8_moves 191 = .ok (.iconst 2, 1) := by decide +kernel
theorem dX8_moves_192 : decode cX8_moves 192 = .ok (.goto 5, 3) := by decide +kernel
theorem dX8_moves_195 : decode cX8_moves 195 = .ok (.bipush (-6), 2) := by decide +kernel
theorem dX8_moves_197 : decode cX8_moves 197 = .ok (.ireturn, 1) := by decide +kernel
theorem dX8_roomFor_0 : decode cX8_roomFor 0 = .ok (.iconst 0, 1) := by decide +kernel
theorem dX8_roomFor_1 : decode cX8_roomFor 1 = .ok (.istore_n 1, 1) := by decide +kernel
theorem dX8_roomFor_2 : decode cX8_roomFor 2 = .ok (.iconst 0, 1) := by decide +kernel
theorem dX8_roomFor_3 : decode cX8_roomFor 3 = .ok (.istore_n 2, 1) := by decide +kernel
theorem dX8_roomFor_4 : decode cX8_roomFor 4 = .ok (.iload_n 2, 1) := by decide +kernel
theorem dX8_roomFor_5 : decode cX8_roomFor 5 = .ok (.aload_n 0, 1) := by decide +kernel
theorem dX8_roomFor_6 : decode cX8_roomFor 6 = .ok (.getfield 7, 3) := by decide +kernel
theorem dX8_roomFor_9 : decode cX8_roomFor 9 = .ok (.bipush 7, 2) := by decide +kernel
theorem dX8_roomFor_11 : decode cX8_roomFor 11 = .ok (.iaload, 1) := by decide +kernel
theorem dX8_roomFor_12 : decode cX8_roomFor 12 = .ok (.if_icmp .ge 44, 3) := by decide +kernel
theorem dX8_roomFor_15 : decode cX8_roomFor 15 = .ok (.iload_n 1, 1) := by decide +kernel
theorem dX8_roomFor_16 : decode cX8_roomFor 16 = .ok (.aload_n 0, 1) := by decide +kernel
theorem dX8_roomFor_17 : decode cX8_roomFor 17 = .ok (.getfield 7, 3) := by decide +kernel
theorem dX8_roomFor_20 : decode cX8_roomFor 20 = .ok (.bipush 9, 2) := by decide +kernel
theorem dX8_roomFor_22 : decode cX8_roomFor 22 = .ok (.iaload, 1) := by decide +kernel
theorem dX8_roomFor_23 : decode cX8_roomFor 23 = .ok (.ifCond .le 24, 3) := by decide +kernel
theorem dX8_roomFor_26 : decode cX8_roomFor 26 = .ok (.aload_n 0, 1) := by decide +kernel
theorem dX8_roomFor_27 : decode cX8_roomFor 27 = .ok (.iload_n 2, 1) := by decide +kernel
theorem dX8_roomFor_28 : decode cX8_roomFor 28 = .ok (.aload_n 0, 1) := by decide +kernel
theorem dX8_roomFor_29 : decode cX8_roomFor 29 = .ok (.getfield 7, 3) := by decide +kernel
theorem dX8_roomFor_32 : decode cX8_roomFor 32 = .ok (.bipush 9, 2) := by decide +kernel
theorem dX8_roomFor_34 : decode cX8_roomFor 34 = .ok (.iaload, 1) := by decide +kernel
theorem dX8_roomFor_35 : decode cX8_roomFor 35 = .ok (.invokevirtual 108, 3) := by decide +kernel
theorem dX8_roomFor_38 : decode cX8_roomFor 38 = .ok (.ifCond .eq 9, 3) := by decide +kernel
theorem dX8_roomFor_41 : decode cX8_roomFor 41 = .ok (.iconst 1, 1) := by decide +kernel
theorem dX8_roomFor_42 : decode cX8_roomFor 42 = .ok (.iload_n 2, 1) := by decide +kernel
theorem dX8_roomFor_43 : decode cX8_roomFor 43 = .ok (.ishl, 1) := by decide +kernel
theorem dX8_roomFor_44 : decode cX8_roomFor 44 = .ok (.goto 4, 3) := by decide +kernel
theorem dX8_roomFor_47 : decode cX8_roomFor 47 = .ok (.iconst 0, 1) := by decide +kernel
theorem dX8_roomFor_48 : decode cX8_roomFor 48 = .ok (.ior, 1) := by decide +kernel
theorem dX8_roomFor_49 : decode cX8_roomFor 49 = .ok (.istore_n 1, 1) := by decide +kernel
theorem dX8_roomFor_50 : decode cX8_roomFor 50 = .ok (.iinc 2 1, 3) := by decide +kernel
theorem dX8_roomFor_53 : decode cX8_roomFor 53 = .ok (.goto (-49), 3) := by decide +kernel
theorem dX8_roomFor_56 : decode cX8_roomFor 56 = .ok (.iload_n 1, 1) := by decide +kernel
theorem dX8_roomFor_57 : decode cX8_roomFor 57 = .ok (.ireturn, 1) := by decide +kernel
theorem dX8_buried_0 : decode cX8_buried 0 = .ok (.iconst 0, 1) := by decide +kernel
theorem dX8_buried_1 : decode cX8_buried 1 = .ok (.istore_n 1, 1) := by decide +kernel
theorem dX8_buried_2 : decode cX8_buried 2 = .ok (.iconst 0, 1) := by decide +kernel
theorem dX8_buried_3 : decode cX8_buried 3 = .ok (.istore_n 2, 1) := by decide +kernel
theorem dX8_buried_4 : decode cX8_buried 4 = .ok (.iload_n 2, 1) := by decide +kernel
theorem dX8_buried_5 : decode cX8_buried 5 = .ok (.aload_n 0, 1) := by decide +kernel
theorem dX8_buried_6 : decode cX8_buried 6 = .ok (.getfield 7, 3) := by decide +kernel
theorem dX8_buried_9 : decode cX8_buried 9 = .ok (.bipush 7, 2) := by decide +kernel
theorem dX8_buried_11 : decode cX8_buried 11 = .ok (.iaload, 1) := by decide +kernel
theorem dX8_buried_12 : decode cX8_buried 12 = .ok (.if_icmp .ge 118, 3) := by decide +kernel
theorem dX8_buried_15 : decode cX8_buried 15 = .ok (.bipush 60, 2) := by decide +kernel
theorem dX8_buried_17 : decode cX8_buried 17 = .ok (.bipush 30, 2) := by decide +kernel
theorem dX8_buried_19 : decode cX8_buried 19 = .ok (.iload_n 2, 1) := by decide +kernel
theorem dX8_buried_20 : decode cX8_buried 20 = .ok (.imul, 1) := by decide +kernel
theorem dX8_buried_21 : decode cX8_buried 21 = .ok (.iadd, 1) := by decide +kernel
theorem dX8_buried_22 : decode cX8_buried 22 = .ok (.istore_n 3, 1) := by decide +kernel
theorem dX8_buried_23 : decode cX8_buried 23 = .ok (.iconst 0, 1) := by decide +kernel
theorem dX8_buried_24 : decode cX8_buried 24 = .ok (.istore 4, 2) := by decide +kernel
theorem dX8_buried_26 : decode cX8_buried 26 = .ok (.iload 4, 2) := by decide +kernel
theorem dX8_buried_28 : decode cX8_buried 28 = .ok (.aload_n 0, 1) := by decide +kernel
theorem dX8_buried_29 : decode cX8_buried 29 = .ok (.iload_n 2, 1) := by decide +kernel
theorem dX8_buried_30 : decode cX8_buried 30 = .ok (.invokevirtual 72, 3) := by decide +kernel
theorem dX8_buried_33 : decode cX8_buried 33 = .ok (.if_icmp .ge 91, 3) := by decide +kernel
theorem dX8_buried_36 : decode cX8_buried 36 = .ok (.aload_n 0, 1) := by decide +kernel
theorem dX8_buried_37 : decode cX8_buried 37 = .ok (.aload_n 0, 1) := by decide +kernel
theorem dX8_buried_38 : decode cX8_buried 38 = .ok (.getfield 7, 3) := by decide +kernel
theorem dX8_buried_41 : decode cX8_buried 41 = .ok (.iload_n 3, 1) := by decide +kernel
theorem dX8_buried_42 : decode cX8_buried 42 = .ok (.iload 4, 2) := by decide +kernel
theorem dX8_buried_44 : decode cX8_buried 44 = .ok (.iadd, 1) := by decide +kernel
theorem dX8_buried_45 : decode cX8_buried 45 = .ok (.iaload, 1) := by decide +kernel
theorem dX8_buried_46 : decode cX8_buried 46 = .ok (.invokevirtual 130, 3) := by decide +kernel
theorem dX8_buried_49 : decode cX8_buried 49 = .ok (.istore 5, 2) := by decide +kernel
theorem dX8_buried_51 : decode cX8_buried 51 = .ok (.iconst 0, 1) := by decide +kernel
theorem dX8_buried_52 : decode cX8_buried 52 = .ok (.istore 6, 2) := by decide +kernel
theorem dX8_buried_54 : decode cX8_buried 54 = .ok (.iconst 0, 1) := by decide +kernel
theorem dX8_buried_55 : decode cX8_buried 55 = .ok (.istore 7, 2) := by decide +kernel
theorem dX8_buried_57 : decode cX8_buried 57 = .ok (.iload 7, 2) := by decide +kernel
theorem dX8_buried_59 : decode cX8_buried 59 = .ok (.iload 4, 2) := by decide +kernel
theorem dX8_buried_61 : decode cX8_buried 61 = .ok (.if_icmp .ge 39, 3) := by decide +kernel
theorem dX8_buried_64 : decode cX8_buried 64 = .ok (.iload 6, 2) := by decide +kernel
theorem dX8_buried_66 : decode cX8_buried 66 = .ok (.ifCond .ne 21, 3) := by decide +kernel
theorem dX8_buried_69 : decode cX8_buried 69 = .ok (.aload_n 0, 1) := by decide +kernel
theorem dX8_buried_70 : decode cX8_buried 70 = .ok (.aload_n 0, 1) := by decide +kernel
theorem dX8_buried_71 : decode cX8_buried 71 = .ok (.getfield 7, 3) := by decide +kernel
theorem dX8_buried_74 : decode cX8_buried 74 = .ok (.iload_n 3, 1) := by decide +kernel
theorem dX8_buried_75 : decode cX8_buried 75 = .ok (.iload 7, 2) := by decide +kernel
theorem dX8_buried_77 : decode cX8_buried 77 = .ok (.iadd, 1) := by decide +kernel
theorem dX8_buried_78 : decode cX8_buried 78 = .ok (.iaload, 1) := by decide +kernel
theorem dX8_buried_79 : decode cX8_buried 79 = .ok (.invokevirtual 130, 3) := by decide +kernel
theorem dX8_buried_82 : decode cX8_buried 82 = .ok (.iload 5, 2) := by decide +kernel
theorem dX8_buried_84 : decode cX8_buried 84 = .ok (.if_icmp .eq 7, 3) := by decide +kernel
theorem dX8_buried_87 : decode cX8_buried 87 = .ok (.iconst 1, 1) := by decide +kernel
theorem dX8_buried_88 : decode cX8_buried 88 = .ok (.goto 4, 3) := by decide +kernel
theorem dX8_buried_91 : decode cX8_buried 91 = .ok (.iconst 0, 1) := by decide +kernel
theorem dX8_buried_92 : decode cX8_buried 92 = .ok (.istore 6, 2) := by decide +kernel
theorem dX8_buried_94 : decode cX8_buried 94 = .ok (.iinc 7 1, 3) := by decide +kernel
theorem dX8_buried_97 : decode cX8_buried 97 = .ok (.goto (-40), 3) := by decide +kernel
theorem dX8_buried_100 : decode cX8_buried 100 = .ok (.iload_n 1, 1) := by decide +kernel
theorem dX8_buried_101 : decode cX8_buried 101 = .ok (.iload 5, 2) := by decide +kernel
theorem dX8_buried_103 : decode cX8_buried 103 = .ok (.ifCond .lt 12, 3) := by decide +kernel
theorem dX8_buried_106 : decode cX8_buried 106 = .ok (.iload 6, 2) := by decide +kernel
theorem dX8_buried_108 : decode cX8_buried 108 = .ok (.ifCond .eq 7, 3) := by decide +kernel
theorem dX8_buried_111 : decode cX8_buried 111 = .ok (.iconst 1, 1) := by decide +kernel
theorem dX8_buried_112 : decode cX8_buried 112 = .ok (.goto 4, 3) := by decide +kernel
theorem dX8_buried_115 : decode cX8_buried 115 = .ok (.iconst 0, 1) := by decide +kernel
theorem dX8_buried_116 : decode cX8_buried 116 = .ok (.iadd, 1) := by decide +kernel
theorem dX8_buried_117 : decode cX8_buried 117 = .ok (.istore_n 1, 1) := by decide +kernel
theorem dX8_buried_118 : decode cX8_buried 118 = .ok (.iinc 4 1, 3) := by decide +kernel
theorem dX8_buried_121 : decode cX8_buried 121 = .ok (.goto (-95), 3) := by decide +kernel
theorem dX8_buried_124 : decode cX8_buried 124 = .ok (.iinc 2 1, 3) := by decide +kernel
theorem dX8_buried_127 : decode cX8_buried 127 = .ok (.goto (-123), 3) := by decide +kernel
theorem dX8_buried_130 : decode cX8_buried 130 = .ok (.iload_n 1, 1) := by decide +kernel
theorem dX8_buried_131 : decode cX8_buried 131 = .ok (.ireturn, 1) := by decide +kernel
theorem dX8_sign_0 : decode cX8_sign 0 = .ok (.aload_n 0, 1) := by decide +kernel
theorem dX8_sign_1 : decode cX8_sign 1 = .ok (.getfield 167, 3) := by decide +kernel
theorem dX8_sign_4 : decode cX8_sign 4 = .ok (.aload_n 0, 1) := by decide +kernel
theorem dX8_sign_5 : decode cX8_sign 5 = .ok (.getfield 149, 3) := by decide +kernel
theorem dX8_sign_8 : decode cX8_sign 8 = .ok (.if_icmp .ge 15, 3) := by decide +kernel
theorem dX8_sign_11 : decode cX8_sign 11 = .ok (.aload_n 0, 1) := by decide +kernel
theorem dX8_sign_12 : decode cX8_sign 12 = .ok (.getfield 29, 3) := by decide +kernel
theorem dX8_sign_15 : decode cX8_sign 15 = .ok (.aload_n 0, 1) := by decide +kernel
theorem dX8_sign_16 : decode cX8_sign 16 = .ok (.getfield 167, 3) := by decide +kernel
theorem dX8_sign_19 : decode cX8_sign 19 = .ok (.iaload, 1) := by decide +kernel
theorem dX8_sign_20 : decode cX8_sign 20 = .ok (.goto 4, 3) := by decide +kernel
theorem dX8_sign_23 : decode cX8_sign 23 = .ok (.iconst 0, 1) := by decide +kernel
theorem dX8_sign_24 : decode cX8_sign 24 = .ok (.ireturn, 1) := by decide +kernel
theorem dX8_one_0 : decode cX8_one 0 = .ok (.aload_n 0, 1) := by decide +kernel
theorem dX8_one_1 : decode cX8_one 1 = .ok (.invokevirtual 170, 3) := by decide +kernel
theorem dX8_one_4 : decode cX8_one 4 = .ok (.iload_n 1, 1) := by decide +kernel
theorem dX8_one_5 : decode cX8_one 5 = .ok (.isub, 1) := by decide +kernel
theorem dX8_one_6 : decode cX8_one 6 = .ok (.istore_n 3, 1) := by decide +kernel
theorem dX8_one_7 : decode cX8_one 7 = .ok (.aload_n 0, 1) := by decide +kernel
theorem dX8_one_8 : decode cX8_one 8 = .ok (.aload_n 0, 1) := by decide +kernel
theorem dX8_one_9 : decode cX8_one 9 = .ok (.getfield 173, 3) := by decide +kernel
theorem dX8_one_12 : decode cX8_one 12 = .ok (.ifCond .ne 12, 3) := by decide +kernel
theorem dX8_one_15 : decode cX8_one 15 = .ok (.iload_n 3, 1) := by decide +kernel
theorem dX8_one_16 : decode cX8_one 16 = .ok (.iconst 0, 1) := by decide +kernel
theorem dX8_one_17 : decode cX8_one 17 = .ok (.iload_n 2, 1) := by decide +kernel
theorem dX8_one_18 : decode cX8_one 18 = .ok (.invokestatic 55, 3) := by decide +kernel
theorem dX8_one_21 : decode cX8_one 21 = .ok (.ifCond .ne 7, 3) := by decide +kernel
theorem dX8_one_24 : decode cX8_one 24 = .ok (.iconst 1, 1) := by decide +kernel
theorem dX8_one_25 : decode cX8_one 25 = .ok (.goto 4, 3) := by decide +kernel
theorem dX8_one_28 : decode cX8_one 28 = .ok (.iconst 0, 1) := by decide +kernel
theorem dX8_one_29 : decode cX8_one 29 = .ok (.putfield 173, 3) := by decide +kernel
theorem dX8_one_32 : decode cX8_one 32 = .ok (.aload_n 0, 1) := by decide +kernel
theorem dX8_one_33 : decode cX8_one 33 = .ok (.dup, 1) := by decide +kernel
theorem dX8_one_34 : decode cX8_one 34 = .ok (.getfield 167, 3) := by decide +kernel
theorem dX8_one_37 : decode cX8_one 37 = .ok (.aload_n 0, 1) := by decide +kernel
theorem dX8_one_38 : decode cX8_one 38 = .ok (.getfield 173, 3) := by decide +kernel
theorem dX8_one_41 : decode cX8_one 41 = .ok (.ifCond .eq 7, 3) := by decide +kernel
theorem dX8_one_44 : decode cX8_one 44 = .ok (.iconst 0, 1) := by decide +kernel
theorem dX8_one_45 : decode cX8_one 45 = .ok (.goto 4, 3) := by decide +kernel
theorem dX8_one_48 : decode cX8_one 48 = .ok (.iconst 1, 1) := by decide +kernel
theorem dX8_one_49 : decode cX8_one 49 = .ok (.iadd, 1) := by decide +kernel
theorem dX8_one_50 : decode cX8_one 50 = .ok (.putfield 167, 3) := by decide +kernel
theorem dX8_one_53 : decode cX8_one 53 = .ok (.iload_n 3, 1) := by decide +kernel
theorem dX8_one_54 : decode cX8_one 54 = .ok (.ireturn, 1) := by decide +kernel
theorem dX8_number_0 : decode cX8_number 0 = .ok (.aload_n 0, 1) := by decide +kernel
theorem dX8_number_1 : decode cX8_number 1 = .ok (.bipush 48, 2) := by decide +kernel
theorem dX8_number_3 : decode cX8_number 3 = .ok (.bipush 9, 2) := by decide +kernel
theorem dX8_number_5 : decode cX8_number 5 = .ok (.invokevirtual 176, 3) := by decide +kernel
theorem dX8_number_8 : decode cX8_number 8 = .ok (.istore_n 1, 1) := by decide +kernel
theorem dX8_number_9 : decode cX8_number 9 = .ok (.aload_n 0, 1) := by decide +kernel
theorem dX8_number_10 : decode cX8_number 10 = .ok (.getfield 173, 3) := by decide +kernel
theorem dX8_number_13 : decode cX8_number 13 = .ok (.ifCond .ne 64, 3) := by decide +kernel
theorem dX8_number_16 : decode cX8_number 16 = .ok (.iload_n 1, 1) := by decide +kernel
theorem dX8_number_17 : decode cX8_number 17 = .ok (.ifCond .le 60, 3) := by decide +kernel
theorem dX8_number_20 : decode cX8_number 20 = .ok (.aload_n 0, 1) := by decide +kernel
theorem dX8_number_21 : decode cX8_number 21 = .ok (.invokevirtual 170, 3) := by decide +kernel
theorem dX8_number_24 : decode cX8_number 24 = .ok (.bipush 48, 2) := by decide +kernel
theorem dX8_number_26 : decode cX8_number 26 = .ok (.bipush 57, 2) := by decide +kernel
theorem dX8_number_28 : decode cX8_number 28 = .ok (.invokestatic 55, 3) := by decide +kernel
theorem dX8_number_31 : decode cX8_number 31 = .ok (.ifCond .eq 46, 3) := by decide +kernel
theorem dX8_number_34 : decode cX8_number 34 = .ok (.bipush 10, 2) := by decide +kernel
theorem dX8_number_36 : decode cX8_number 36 = .ok (.iload_n 1, 1) := by decide +kernel
theorem dX8_number_37 : decode cX8_number 37 = .ok (.imul, 1) := by decide +kernel
theorem dX8_number_38 : decode cX8_number 38 = .ok (.aload_n 0, 1) := by decide +kernel
theorem dX8_number_39 : decode cX8_number 39 = .ok (.invokevirtual 170, 3) := by decide +kernel
theorem dX8_number_42 : decode cX8_number 42 = .ok (.iadd, 1) := by decide +kernel
theorem dX8_number_43 : decode cX8_number 43 = .ok (.bipush 48, 2) := by decide +kernel
theorem dX8_number_45 : decode cX8_number 45 = .ok (.isub, 1) := by decide +kernel
theorem dX8_number_46 : decode cX8_number 46 = .ok (.bipush 99, 2) := by decide +kernel
theorem dX8_number_48 : decode cX8_number 48 = .ok (.if_icmp .gt 29, 3) := by decide +kernel
theorem dX8_number_51 : decode cX8_number 51 = .ok (.bipush 10, 2) := by decide +kernel
theorem dX8_number_53 : decode cX8_number 53 = .ok (.iload_n 1, 1) := by decide +kernel
theorem dX8_number_54 : decode cX8_number 54 = .ok (.imul, 1) := by decide +kernel
theorem dX8_number_55 : decode cX8_number 55 = .ok (.aload_n 0, 1) := by decide +kernel
theorem dX8_number_56 : decode cX8_number 56 = .ok (.invokevirtual 170, 3) := by decide +kernel
theorem dX8_number_59 : decode cX8_number 59 = .ok (.iadd, 1) := by decide +kernel
theorem dX8_number_60 : decode cX8_number 60 = .ok (.bipush 48, 2) := by decide +kernel
theorem dX8_number_62 : decode cX8_number 62 = .ok (.isub, 1) := by decide +kernel
theorem dX8_number_63 : decode cX8_number 63 = .ok (.istore_n 1, 1) := by decide +kernel
theorem dX8_number_64 : decode cX8_number 64 = .ok (.aload_n 0, 1) := by decide +kernel
theorem dX8_number_65 : decode cX8_number 65 = .ok (.dup, 1) := by decide +kernel
theorem dX8_number_66 : decode cX8_number 66 = .ok (.getfield 167, 3) := by decide +kernel
theorem dX8_number_69 : decode cX8_number 69 = .ok (.iconst 1, 1) := by decide +kernel
theorem dX8_number_70 : decode cX8_number 70 = .ok (.iadd, 1) := by decide +kernel
theorem dX8_number_71 : decode cX8_number 71 = .ok (.putfield 167, 3) := by decide +kernel
theorem dX8_number_74 : decode cX8_number 74 = .ok (.goto (-65), 3) := by decide +kernel
theorem dX8_number_77 : decode cX8_number 77 = .ok (.iload_n 1, 1) := by decide +kernel
theorem dX8_number_78 : decode cX8_number 78 = .ok (.ireturn, 1) := by decide +kernel
theorem dX8_readOne_0 : decode cX8_readOne 0 = .ok (.iconst 3, 1) := by decide +kernel
theorem dX8_readOne_1 : decode cX8_readOne 1 = .ok (.aload_n 0, 1) := by decide +kernel
theorem dX8_readOne_2 : decode cX8_readOne 2 = .ok (.getfield 179, 3) := by decide +kernel
theorem dX8_readOne_5 : decode cX8_readOne 5 = .ok (.imul, 1) := by decide +kernel
theorem dX8_readOne_6 : decode cX8_readOne 6 = .ok (.istore_n 1, 1) := by decide +kernel
theorem dX8_readOne_7 : decode cX8_readOne 7 = .ok (.aload_n 0, 1) := by decide +kernel
theorem dX8_readOne_8 : decode cX8_readOne 8 = .ok (.invokevirtual 170, 3) := by decide +kernel
theorem dX8_readOne_11 : decode cX8_readOne 11 = .ok (.istore_n 2, 1) := by decide +kernel
theorem dX8_readOne_12 : decode cX8_readOne 12 = .ok (.aload_n 0, 1) := by decide +kernel
theorem dX8_readOne_13 : decode cX8_readOne 13 = .ok (.getfield 44, 3) := by decide +kernel
theorem dX8_readOne_16 : decode cX8_readOne 16 = .ok (.iload_n 1, 1) := by decide +kernel
theorem dX8_readOne_17 : decode cX8_readOne 17 = .ok (.iload_n 2, 1) := by decide +kernel
theorem dX8_readOne_18 : decode cX8_readOne 18 = .ok (.iastore, 1) := by decide +kernel
theorem dX8_readOne_19 : decode cX8_readOne 19 = .ok (.aload_n 0, 1) := by decide +kernel
theorem dX8_readOne_20 : decode cX8_readOne 20 = .ok (.getfield 44, 3) := by decide +kernel
theorem dX8_readOne_23 : decode cX8_readOne 23 = .ok (.iload_n 1, 1) := by decide +kernel
theorem dX8_readOne_24 : decode cX8_readOne 24 = .ok (.iconst 1, 1) := by decide +kernel
theorem dX8_readOne_25 : decode cX8_readOne 25 = .ok (.iadd, 1) := by decide +kernel
theorem dX8_readOne_26 : decode cX8_readOne 26 = .ok (.iconst 0, 1) := by decide +kernel
theorem dX8_readOne_27 : decode cX8_readOne 27 = .ok (.iastore, 1) := by decide +kernel
theorem dX8_readOne_28 : decode cX8_readOne 28 = .ok (.aload_n 0, 1) := by decide +kernel
theorem dX8_readOne_29 : decode cX8_readOne 29 = .ok (.iload_n 2, 1) := by decide +kernel
theorem dX8_readOne_30 : decode cX8_readOne 30 = .ok (.bipush 112, 2) := by decide +kernel
theorem dX8_readOne_32 : decode cX8_readOne 32 = .ok (.if_icmp .eq 31, 3) := by decide +kernel
theorem dX8_readOne_35 : decode cX8_readOne 35 = .ok (.iload_n 2, 1) := by decide +kernel
theorem dX8_readOne_36 : decode cX8_readOne 36 = .ok (.bipush 113, 2) := by decide +kernel
theorem dX8_readOne_38 : decode cX8_readOne 38 = .ok (.if_icmp .eq 25, 3) := by decide +kernel
theorem dX8_readOne_41 : decode cX8_readOne 41 = .ok (.iload_n 2, 1) := by decide +kernel
theorem dX8_readOne_42 : decode cX8_readOne 42 = .ok (.bipush 114, 2) := by decide +kernel
theorem dX8_readOne_44 : decode cX8_readOne 44 = .ok (.if_icmp .eq 19, 3) := by decide +kernel
theorem dX8_readOne_47 : decode cX8_readOne 47 = .ok (.iload_n 2, 1) := by decide +kernel
theorem dX8_readOne_48 : decode cX8_readOne 48 = .ok (.bipush 119, 2) := by decide +kernel
theorem dX8_readOne_50 : decode cX8_readOne 50 = .ok (.if_icmp .eq 13, 3) := by decide +kernel
theorem dX8_readOne_53 : decode cX8_readOne 53 = .ok (.iload_n 2, 1) := by decide +kernel
theorem dX8_readOne_54 : decode cX8_readOne 54 = .ok (.bipush 116, 2) := by decide +kernel
theorem dX8_readOne_56 : decode cX8_readOne 56 = .ok (.if_icmp .eq 7, 3) := by decide +kernel
theorem dX8_readOne_59 : decode cX8_readOne 59 = .ok (.iconst 1, 1) := by decide +kernel
theorem dX8_readOne_60 : decode cX8_readOne 60 = .ok (.goto 4, 3) := by decide +kernel
theorem dX8_readOne_63 : decode cX8_readOne 63 = .ok (.iconst 0, 1) := by decide +kernel
theorem dX8_readOne_64 : decode cX8_readOne 64 = .ok (.putfield 173, 3) := by decide +kernel
theorem dX8_readOne_67 : decode cX8_readOne 67 = .ok (.aload_n 0, 1) := by decide +kernel
theorem dX8_readOne_68 : decode cX8_readOne 68 = .ok (.getfield 173, 3) := by decide +kernel
theorem dX8_readOne_71 : decode cX8_readOne 71 = .ok (.ifCond .eq 4, 3) := by decide +kernel
theorem dX8_readOne_74 : decode cX8_readOne 74 = .ok (.return_, 1) := by decide +kernel
theorem dX8_readOne_75 : decode cX8_readOne 75 = .ok (.aload_n 0, 1) := by decide +kernel
theorem dX8_readOne_76 : decode cX8_readOne 76 = .ok (.dup, 1) := by decide +kernel
theorem dX8_readOne_77 : decode cX8_readOne 77 = .ok (.getfield 167, 3) := by decide +kernel
theorem dX8_readOne_80 : decode cX8_readOne 80 = .ok (.iconst 1, 1) := by decide +kernel
theorem dX8_readOne_81 : decode cX8_readOne 81 = .ok (.iadd, 1) := by decide +kernel
theorem dX8_readOne_82 : decode cX8_readOne 82 = .ok (.putfield 167, 3) := by decide +kernel
theorem dX8_readOne_85 : decode cX8_readOne 85 = .ok (.iload_n 2, 1) := by decide +kernel
theorem dX8_readOne_86 : decode cX8_readOne 86 = .ok (.bipush 112, 2) := by decide +kernel
theorem dX8_readOne_88 : decode cX8_readOne 88 = .ok (.if_icmp .eq 9, 3) := by decide +kernel
theorem dX8_readOne_91 : decode cX8_readOne 91 = .ok (.iload_n 2, 1) := by decide +kernel
theorem dX8_readOne_92 : decode cX8_readOne 92 = .ok (.bipush 113, 2) := by decide +kernel
theorem dX8_readOne_94 : decode cX8_readOne 94 = .ok (.if_icmp .ne 45, 3) := by decide +kernel
theorem dX8_readOne_97 : decode cX8_readOne 97 = .ok (.aload_n 0, 1) := by decide +kernel
theorem dX8_readOne_98 : decode cX8_readOne 98 = .ok (.getfield 44, 3) := by decide +kernel
theorem dX8_readOne_101 : decode cX8_readOne 101 = .ok (.iload_n 1, 1) := by decide +kernel
theorem dX8_readOne_102 : decode cX8_readOne 102 = .ok (.iconst 1, 1) := by decide +kernel
theorem dX8_readOne_103 : decode cX8_readOne 103 = .ok (.iadd, 1) := by decide +kernel
theorem dX8_readOne_104 : decode cX8_readOne 104 = .ok (.aload_n 0, 1) := by decide +kernel
theorem dX8_readOne_105 : decode cX8_readOne 105 = .ok (.bipush 65, 2) := by decide +kernel
theorem dX8_readOne_107 : decode cX8_readOne 107 = .ok (.bipush 7, 2) := by decide +kernel
theorem dX8_readOne_109 : decode cX8_readOne 109 = .ok (.invokevirtual 176, 3) := by decide +kernel
theorem dX8_readOne_112 : decode cX8_readOne 112 = .ok (.iastore, 1) := by decide +kernel
theorem dX8_readOne_113 : decode cX8_readOne 113 = .ok (.aload_n 0, 1) := by decide +kernel
theorem dX8_readOne_114 : decode cX8_readOne 114 = .ok (.getfield 44, 3) := by decide +kernel
theorem dX8_readOne_117 : decode cX8_readOne 117 = .ok (.iload_n 1, 1) := by decide +kernel
theorem dX8_readOne_118 : decode cX8_readOne 118 = .ok (.iconst 2, 1) := by decide +kernel
theorem dX8_readOne_119 : decode cX8_readOne 119 = .ok (.iadd, 1) := by decide +kernel
theorem dX8_readOne_120 : decode cX8_readOne 120 = .ok (.aload_n 0, 1) := by decide +kernel
theorem dX8_readOne_121 : decode cX8_readOne 121 = .ok (.getfield 173, 3) := by decide +kernel
theorem dX8_readOne_124 : decode cX8_readOne 124 = .ok (.ifCond .eq 7, 3) := by decide +kernel
theorem dX8_readOne_127 : decode cX8_readOne 127 = .ok (.iconst 0, 1) := by decide +kernel
theorem dX8_readOne_128 : decode cX8_readOne 128 = .ok (.goto 7, 3) := by decide +kernel
theorem dX8_readOne_131 : decode cX8_readOne 131 = .ok (.aload_n 0, 1) := by decide +kernel
theorem dX8_readOne_132 : decode cX8_readOne 132 = .ok (.invokevirtual 182, 3) := by decide +kernel
theorem dX8_readOne_135 : decode cX8_readOne 135 = .ok (.iastore, 1) := by decide +kernel
theorem dX8_readOne_136 : decode cX8_readOne 136 = .ok (.goto 21, 3) := by decide +kernel
theorem dX8_readOne_139 : decode cX8_readOne 139 = .ok (.iload_n 2, 1) := by decide +kernel
theorem dX8_readOne_140 : decode cX8_readOne 140 = .ok (.bipush 114, 2) := by decide +kernel
theorem dX8_readOne_142 : decode cX8_readOne 142 = .ok (.if_icmp .eq 15, 3) := by decide +kernel
theorem dX8_readOne_145 : decode cX8_readOne 145 = .ok (.aload_n 0, 1) := by decide +kernel
theorem dX8_readOne_146 : decode cX8_readOne 146 = .ok (.getfield 44, 3) := by decide +kernel
theorem dX8_readOne_149 : decode cX8_readOne 149 = .ok (.iload_n 1, 1) := by decide +kernel
theorem dX8_readOne_150 : decode cX8_readOne 150 = .ok (.iconst 1, 1) := by decide +kernel
theorem dX8_readOne_151 : decode cX8_readOne 151 = .ok (.iadd, 1) := by decide +kernel
theorem dX8_readOne_152 : decode cX8_readOne 152 = .ok (.aload_n 0, 1) := by decide +kernel
theorem dX8_readOne_153 : decode cX8_readOne 153 = .ok (.invokevirtual 182, 3) := by decide +kernel
theorem dX8_readOne_156 : decode cX8_readOne 156 = .ok (.iastore, 1) := by decide +kernel
theorem dX8_readOne_157 : decode cX8_readOne 157 = .ok (.aload_n 0, 1) := by decide +kernel
theorem dX8_readOne_158 : decode cX8_readOne 158 = .ok (.dup, 1) := by decide +kernel
theorem dX8_readOne_159 : decode cX8_readOne 159 = .ok (.getfield 179, 3) := by decide +kernel
theorem dX8_readOne_162 : decode cX8_readOne 162 = .ok (.iconst 1, 1) := by decide +kernel
theorem dX8_readOne_163 : decode cX8_readOne 163 = .ok (.iadd, 1) := by decide +kernel
theorem dX8_readOne_164 : decode cX8_readOne 164 = .ok (.putfield 179, 3) := by decide +kernel
theorem dX8_readOne_167 : decode cX8_readOne 167 = .ok (.return_, 1) := by decide +kernel
theorem dX8_faultOf_0 : decode cX8_faultOf 0 = .ok (.aload_n 0, 1) := by decide +kernel
theorem dX8_faultOf_1 : decode cX8_faultOf 1 = .ok (.iconst 0, 1) := by decide +kernel
theorem dX8_faultOf_2 : decode cX8_faultOf 2 = .ok (.putfield 167, 3) := by decide +kernel
theorem dX8_faultOf_5 : decode cX8_faultOf 5 = .ok (.aload_n 0, 1) := by decide +kernel
theorem dX8_faultOf_6 : decode cX8_faultOf 6 = .ok (.iconst 0, 1) := by decide +kernel
theorem dX8_faultOf_7 : decode cX8_faultOf 7 = .ok (.putfield 179, 3) := by decide +kernel
theorem dX8_faultOf_10 : decode cX8_faultOf 10 = .ok (.aload_n 0, 1) := by decide +kernel
theorem dX8_faultOf_11 : decode cX8_faultOf 11 = .ok (.iconst 0, 1) := by decide +kernel
theorem dX8_faultOf_12 : decode cX8_faultOf 12 = .ok (.putfield 173, 3) := by decide +kernel
theorem dX8_faultOf_15 : decode cX8_faultOf 15 = .ok (.aload_n 0, 1) := by decide +kernel
theorem dX8_faultOf_16 : decode cX8_faultOf 16 = .ok (.invokevirtual 185, 3) := by decide +kernel
theorem dX8_faultOf_19 : decode cX8_faultOf 19 = .ok (.aload_n 0, 1) := by decide +kernel
theorem dX8_faultOf_20 : decode cX8_faultOf 20 = .ok (.getfield 173, 3) := by decide +kernel
theorem dX8_faultOf_23 : decode cX8_faultOf 23 = .ok (.ifCond .ne 56, 3) := by decide +kernel
theorem dX8_faultOf_26 : decode cX8_faultOf 26 = .ok (.aload_n 0, 1) := by decide +kernel
theorem dX8_faultOf_27 : decode cX8_faultOf 27 = .ok (.getfield 167, 3) := by decide +kernel
theorem dX8_faultOf_30 : decode cX8_faultOf 30 = .ok (.aload_n 0, 1) := by decide +kernel
theorem dX8_faultOf_31 : decode cX8_faultOf 31 = .ok (.getfield 149, 3) := by decide +kernel
theorem dX8_faultOf_34 : decode cX8_faultOf 34 = .ok (.if_icmp .ge 45, 3) := by decide +kernel
theorem dX8_faultOf_37 : decode cX8_faultOf 37 = .ok (.aload_n 0, 1) := by decide +kernel
theorem dX8_faultOf_38 : decode cX8_faultOf 38 = .ok (.aload_n 0, 1) := by decide +kernel
theorem dX8_faultOf_39 : decode cX8_faultOf 39 = .ok (.invokevirtual 170, 3) := by decide +kernel
theorem dX8_faultOf_42 : decode cX8_faultOf 42 = .ok (.bipush 59, 2) := by decide +kernel
theorem dX8_faultOf_44 : decode cX8_faultOf 44 = .ok (.if_icmp .eq 7, 3) := by decide +kernel
theorem dX8_faultOf_47 : decode cX8_faultOf 47 = .ok (.iconst 1, 1) := by decide +kernel
theorem dX8_faultOf_48 : decode cX8_faultOf 48 = .ok (.goto 4, 3) := by decide +kernel
theorem dX8_faultOf_51 : decode cX8_faultOf 51 = .ok (.iconst 0, 1) := by decide +kernel
theorem dX8_faultOf_52 : decode cX8_faultOf 52 = .ok (.putfield 173, 3) := by decide +kernel
theorem dX8_faultOf_55 : decode cX8_faultOf 55 = .ok (.aload_n 0, 1) := by decide +kernel
theorem dX8_faultOf_56 : decode cX8_faultOf 56 = .ok (.getfield 173, 3) := by decide +kernel
theorem dX8_faultOf_59 : decode cX8_faultOf 59 = .ok (.ifCond .ne (-40), 3) := by decide +kernel
theorem dX8_faultOf_62 : decode cX8_faultOf 62 = .ok (.aload_n 0, 1) := by decide +kernel
theorem dX8_faultOf_63 : decode cX8_faultOf 63 = .ok (.dup, 1) := by decide +kernel
theorem dX8_faultOf_64 : decode cX8_faultOf 64 = .ok (.getfield 167, 3) := by decide +kernel
theorem dX8_faultOf_67 : decode cX8_faultOf 67 = .ok (.iconst 1, 1) := by decide +kernel
theorem dX8_faultOf_68 : decode cX8_faultOf 68 = .ok (.iadd, 1) := by decide +kernel
theorem dX8_faultOf_69 : decode cX8_faultOf 69 = .ok (.putfield 167, 3) := by decide +kernel
theorem dX8_faultOf_72 : decode cX8_faultOf 72 = .ok (.aload_n 0, 1) := by decide +kernel
theorem dX8_faultOf_73 : decode cX8_faultOf 73 = .ok (.invokevirtual 185, 3) := by decide +kernel
theorem dX8_faultOf_76 : decode cX8_faultOf 76 = .ok (.goto (-57), 3) := by decide +kernel
theorem dX8_faultOf_79 : decode cX8_faultOf 79 = .ok (.aload_n 0, 1) := by decide +kernel
theorem dX8_faultOf_80 : decode cX8_faultOf 80 = .ok (.getfield 173, 3) := by decide +kernel
theorem dX8_faultOf_83 : decode cX8_faultOf 83 = .ok (.ifCond .eq 10, 3) := by decide +kernel
theorem dX8_faultOf_86 : decode cX8_faultOf 86 = .ok (.aload_n 0, 1) := by decide +kernel
theorem dX8_faultOf_87 : decode cX8_faultOf 87 = .ok (.getfield 167, 3) := by decide +kernel
theorem dX8_faultOf_90 : decode cX8_faultOf 90 = .ok (.goto 5, 3) := by decide +kernel
theorem dX8_faultOf_93 : decode cX8_faultOf 93 = .ok (.bipush (-6), 2) := by decide +kernel
theorem dX8_faultOf_95 : decode cX8_faultOf 95 = .ok (.ireturn, 1) := by decide +kernel
theorem dX8_put_0 : decode cX8_put 0 = .ok (.iconst 0, 1) := by decide +kernel
theorem dX8_put_1 : decode cX8_put 1 = .ok (.istore_n 3, 1) := by decide +kernel
theorem dX8_put_2 : decode cX8_put 2 = .ok (.lload_n 1, 1) := by decide +kernel
theorem dX8_put_3 : decode cX8_put 3 = .ok (.lstore 4, 2) := by decide +kernel
theorem dX8_put_5 : decode cX8_put 5 = .ok (.lload 4, 2) := by decide +kernel
theorem dX8_put_7 : decode cX8_put 7 = .ok (.ldc2_w 188, 3) := by decide +kernel
theorem dX8_put_10 : decode cX8_put 10 = .ok (.land, 1) := by decide +kernel
theorem dX8_put_11 : decode cX8_put 11 = .ok (.lconst 0, 1) := by decide +kernel
theorem dX8_put_12 : decode cX8_put 12 = .ok (.lcmp, 1) := by decide +kernel
theorem dX8_put_13 : decode cX8_put 13 = .ok (.ifCond .eq 36, 3) := by decide +kernel
theorem dX8_put_16 : decode cX8_put 16 = .ok (.lload 4, 2) := by decide +kernel
theorem dX8_put_18 : decode cX8_put 18 = .ok (.ldc2_w 188, 3) := by decide +kernel
theorem dX8_put_21 : decode cX8_put 21 = .ok (.land, 1) := by decide +kernel
theorem dX8_put_22 : decode cX8_put 22 = .ok (.l2i, 1) := by decide +kernel
theorem dX8_put_23 : decode cX8_put 23 = .ok (.bipush 33, 2) := by decide +kernel
theorem dX8_put_25 : decode cX8_put 25 = .ok (.bipush 126, 2) := by decide +kernel
theorem dX8_put_27 : decode cX8_put 27 = .ok (.invokestatic 55, 3) := by decide +kernel
theorem dX8_put_30 : decode cX8_put 30 = .ok (.ifCond .ne 6, 3) := by decide +kernel
theorem dX8_put_33 : decode cX8_put 33 = .ok (.bipush (-2), 2) := by decide +kernel
theorem dX8_put_35 : decode cX8_put 35 = .ok (.ireturn, 1) := by decide +kernel
theorem dX8_put_36 : decode cX8_put 36 = .ok (.iinc 3 1, 3) := by decide +kernel
theorem dX8_put_39 : decode cX8_put 39 = .ok (.lload 4, 2) := by decide +kernel
theorem dX8_put_41 : decode cX8_put 41 = .ok (.bipush 8, 2) := by decide +kernel
theorem dX8_put_43 : decode cX8_put 43 = .ok (.lushr, 1) := by decide +kernel
theorem dX8_put_44 : decode cX8_put 44 = .ok (.lstore 4, 2) := by decide +kernel
theorem dX8_put_46 : decode cX8_put 46 = .ok (.goto (-41), 3) := by decide +kernel
theorem dX8_put_49 : decode cX8_put 49 = .ok (.lload 4, 2) := by decide +kernel
theorem dX8_put_51 : decode cX8_put 51 = .ok (.lconst 0, 1) := by decide +kernel
theorem dX8_put_52 : decode cX8_put 52 = .ok (.lcmp, 1) := by decide +kernel
theorem dX8_put_53 : decode cX8_put 53 = .ok (.ifCond .ne 7, 3) := by decide +kernel
theorem dX8_put_56 : decode cX8_put 56 = .ok (.iload_n 3, 1) := by decide +kernel
theorem dX8_put_57 : decode cX8_put 57 = .ok (.ifCond .ne 6, 3) := by decide +kernel
theorem dX8_put_60 : decode cX8_put 60 = .ok (.bipush (-2), 2) := by decide +kernel
theorem dX8_put_62 : decode cX8_put 62 = .ok (.ireturn, 1) := by decide +kernel
theorem dX8_put_63 : decode cX8_put 63 = .ok (.aload_n 0, 1) := by decide +kernel
theorem dX8_put_64 : decode cX8_put 64 = .ok (.getfield 149, 3) := by decide +kernel
theorem dX8_put_67 : decode cX8_put 67 = .ok (.iload_n 3, 1) := by decide +kernel
theorem dX8_put_68 : decode cX8_put 68 = .ok (.iadd, 1) := by decide +kernel
theorem dX8_put_69 : decode cX8_put 69 = .ok (.bipush 80, 2) := by decide +kernel
theorem dX8_put_71 : decode cX8_put 71 = .ok (.if_icmp .le 6, 3) := by decide +kernel
theorem dX8_put_74 : decode cX8_put 74 = .ok (.bipush (-4), 2) := by decide +kernel
theorem dX8_put_76 : decode cX8_put 76 = .ok (.ireturn, 1) := by decide +kernel
theorem dX8_put_77 : decode cX8_put 77 = .ok (.lload_n 1, 1) := by decide +kernel
theorem dX8_put_78 : decode cX8_put 78 = .ok (.lstore 4, 2) := by decide +kernel
theorem dX8_put_80 : decode cX8_put 80 = .ok (.iload_n 3, 1) := by decide +kernel
theorem dX8_put_81 : decode cX8_put 81 = .ok (.iconst 1, 1) := by decide +kernel
theorem dX8_put_82 : decode cX8_put 82 = .ok (.isub, 1) := by decide +kernel
theorem dX8_put_83 : decode cX8_put 83 = .ok (.istore 6, 2) := by decide +kernel
theorem dX8_put_85 : decode cX8_put 85 = .ok (.iload 6, 2) := by decide +kernel
theorem dX8_put_87 : decode cX8_put 87 = .ok (.ifCond .lt 35, 3) := by decide +kernel
theorem dX8_put_90 : decode cX8_put 90 = .ok (.aload_n 0, 1) := by decide +kernel
theorem dX8_put_91 : decode cX8_put 91 = .ok (.getfield 29, 3) := by decide +kernel
theorem dX8_put_94 : decode cX8_put 94 = .ok (.aload_n 0, 1) := by decide +kernel
theorem dX8_put_95 : decode cX8_put 95 = .ok (.getfield 149, 3) := by decide +kernel
theorem dX8_put_98 : decode cX8_put 98 = .ok (.iload 6, 2) := by decide +kernel
theorem dX8_put_100 : decode cX8_put 100 = .ok (.iadd, 1) := by decide +kernel
theorem dX8_put_101 : decode cX8_put 101 = .ok (.lload 4, 2) := by decide +kernel
theorem dX8_put_103 : decode cX8_put 103 = .ok (.ldc2_w 188, 3) := by decide +kernel
theorem dX8_put_106 : decode cX8_put 106 = .ok (.land, 1) := by decide +kernel
theorem dX8_put_107 : decode cX8_put 107 = .ok (.l2i, 1) := by decide +kernel
theorem dX8_put_108 : decode cX8_put 108 = .ok (.iastore, 1) := by decide +kernel
theorem dX8_put_109 : decode cX8_put 109 = .ok (.lload 4, 2) := by decide +kernel
theorem dX8_put_111 : decode cX8_put 111 = .ok (.bipush 8, 2) := by decide +kernel
theorem dX8_put_113 : decode cX8_put 113 = .ok (.lushr, 1) := by decide +kernel
theorem dX8_put_114 : decode cX8_put 114 = .ok (.lstore 4, 2) := by decide +kernel
theorem dX8_put_116 : decode cX8_put 116 = .ok (.iinc 6 (-1), 3) := by decide +kernel
theorem dX8_put_119 : decode cX8_put 119 = .ok (.goto (-34), 3) := by decide +kernel
theorem dX8_put_122 : decode cX8_put 122 = .ok (.aload_n 0, 1) := by decide +kernel
theorem dX8_put_123 : decode cX8_put 123 = .ok (.dup, 1) := by decide +kernel
theorem dX8_put_124 : decode cX8_put 124 = .ok (.getfield 149, 3) := by decide +kernel
theorem dX8_put_127 : decode cX8_put 127 = .ok (.iload_n 3, 1) := by decide +kernel
theorem dX8_put_128 : decode cX8_put 128 = .ok (.iadd, 1) := by decide +kernel
theorem dX8_put_129 : decode cX8_put 129 = .ok (.putfield 149, 3) := by decide +kernel
theorem dX8_put_132 : decode cX8_put 132 = .ok (.aload_n 0, 1) := by decide +kernel
theorem dX8_put_133 : decode cX8_put 133 = .ok (.getfield 149, 3) := by decide +kernel
theorem dX8_put_136 : decode cX8_put 136 = .ok (.ireturn, 1) := by decide +kernel
theorem dX8_wipe_0 : decode cX8_wipe 0 = .ok (.aload_n 0, 1) := by decide +kernel
theorem dX8_wipe_1 : decode cX8_wipe 1 = .ok (.getfield 149, 3) := by decide +kernel
theorem dX8_wipe_4 : decode cX8_wipe 4 = .ok (.istore_n 1, 1) := by decide +kernel
theorem dX8_wipe_5 : decode cX8_wipe 5 = .ok (.aload_n 0, 1) := by decide +kernel
theorem dX8_wipe_6 : decode cX8_wipe 6 = .ok (.iconst 0, 1) := by decide +kernel
theorem dX8_wipe_7 : decode cX8_wipe 7 = .ok (.putfield 149, 3) := by decide +kernel
theorem dX8_wipe_10 : decode cX8_wipe 10 = .ok (.iload_n 1, 1) := by decide +kernel
theorem dX8_wipe_11 : decode cX8_wipe 11 = .ok (.ireturn, 1) := by decide +kernel
theorem dX8_fault_0 : decode cX8_fault 0 = .ok (.aload_n 0, 1) := by decide +kernel
theorem dX8_fault_1 : decode cX8_fault 1 = .ok (.invokevirtual 190, 3) := by decide +kernel
theorem dX8_fault_4 : decode cX8_fault 4 = .ok (.ireturn, 1) := by decide +kernel
theorem dX8_carry_0 : decode cX8_carry 0 = .ok (.aload_n 0, 1) := by decide +kernel
theorem dX8_carry_1 : decode cX8_carry 1 = .ok (.getfield 44, 3) := by decide +kernel
theorem dX8_carry_4 : decode cX8_carry 4 = .ok (.iload_n 1, 1) := by decide +kernel
theorem dX8_carry_5 : decode cX8_carry 5 = .ok (.iconst 1, 1) := by decide +kernel
theorem dX8_carry_6 : decode cX8_carry 6 = .ok (.iadd, 1) := by decide +kernel
theorem dX8_carry_7 : decode cX8_carry 7 = .ok (.iaload, 1) := by decide +kernel
theorem dX8_carry_8 : decode cX8_carry 8 = .ok (.istore_n 2, 1) := by decide +kernel
theorem dX8_carry_9 : decode cX8_carry 9 = .ok (.aload_n 0, 1) := by decide +kernel
theorem dX8_carry_10 : decode cX8_carry 10 = .ok (.getfield 44, 3) := by decide +kernel
theorem dX8_carry_13 : decode cX8_carry 13 = .ok (.iload_n 1, 1) := by decide +kernel
theorem dX8_carry_14 : decode cX8_carry 14 = .ok (.iaload, 1) := by decide +kernel
theorem dX8_carry_15 : decode cX8_carry 15 = .ok (.tableswitch 84 112 119 #[45, 59, 73, 84, 84, 84, 84, 78], 45) := by decide +kernel
theorem dX8_carry_60 : decode cX8_carry 60 = .ok (.aload_n 0, 1) := by decide +kernel
theorem dX8_carry_61 : decode cX8_carry 61 = .ok (.iload_n 2, 1) := by decide +kernel
theorem dX8_carry_62 : decode cX8_carry 62 = .ok (.aload_n 0, 1) := by decide +kernel
theorem dX8_carry_63 : decode cX8_carry 63 = .ok (.getfield 44, 3) := by decide +kernel
theorem dX8_carry_66 : decode cX8_carry 66 = .ok (.iload_n 1, 1) := by decide +kernel
theorem dX8_carry_67 : decode cX8_carry 67 = .ok (.iconst 2, 1) := by decide +kernel
theorem dX8_carry_68 : decode cX8_carry 68 = .ok (.iadd, 1) := by decide +kernel
theorem dX8_carry_69 : decode cX8_carry 69 = .ok (.iaload, 1) := by decide +kernel
theorem dX8_carry_70 : decode cX8_carry 70 = .ok (.invokevirtual 193, 3) := by decide +kernel
theorem dX8_carry_73 : decode cX8_carry 73 = .ok (.ireturn, 1) := by decide +kernel
theorem dX8_carry_74 : decode cX8_carry 74 = .ok (.aload_n 0, 1) := by decide +kernel
theorem dX8_carry_75 : decode cX8_carry 75 = .ok (.iload_n 2, 1) := by decide +kernel
theorem dX8_carry_76 : decode cX8_carry 76 = .ok (.aload_n 0, 1) := by decide +kernel
theorem dX8_carry_77 : decode cX8_carry 77 = .ok (.getfield 44, 3) := by decide +kernel
theorem dX8_carry_80 : decode cX8_carry 80 = .ok (.iload_n 1, 1) := by decide +kernel
theorem dX8_carry_81 : decode cX8_carry 81 = .ok (.iconst 2, 1) := by decide +kernel
theorem dX8_carry_82 : decode cX8_carry 82 = .ok (.iadd, 1) := by decide +kernel
theorem dX8_carry_83 : decode cX8_carry 83 = .ok (.iaload, 1) := by decide +kernel
theorem dX8_carry_84 : decode cX8_carry 84 = .ok (.invokevirtual 196, 3) := by decide +kernel
theorem dX8_carry_87 : decode cX8_carry 87 = .ok (.ireturn, 1) := by decide +kernel
theorem dX8_carry_88 : decode cX8_carry 88 = .ok (.aload_n 0, 1) := by decide +kernel
theorem dX8_carry_89 : decode cX8_carry 89 = .ok (.invokevirtual 199, 3) := by decide +kernel
theorem dX8_carry_92 : decode cX8_carry 92 = .ok (.ireturn, 1) := by decide +kernel
theorem dX8_carry_93 : decode cX8_carry 93 = .ok (.aload_n 0, 1) := by decide +kernel
theorem dX8_carry_94 : decode cX8_carry 94 = .ok (.iload_n 2, 1) := by decide +kernel
theorem dX8_carry_95 : decode cX8_carry 95 = .ok (.invokevirtual 202, 3) := by decide +kernel
theorem dX8_carry_98 : decode cX8_carry 98 = .ok (.ireturn, 1) := by decide +kernel
theorem dX8_carry_99 : decode cX8_carry 99 = .ok (.aload_n 0, 1) := by decide +kernel
theorem dX8_carry_100 : decode cX8_carry 100 = .ok (.iload_n 2, 1) := by decide +kernel
theorem dX8_carry_101 : decode cX8_carry 101 = .ok (.invokevirtual 205, 3) := by decide +kernel
theorem dX8_carry_104 : decode cX8_carry 104 = .ok (.ireturn, 1) := by decide +kernel
theorem dX8_carryOut_0 : decode cX8_carryOut 0 = .ok (.aload_n 0, 1) := by decide +kernel
theorem dX8_carryOut_1 : decode cX8_carryOut 1 = .ok (.invokevirtual 190, 3) := by decide +kernel
theorem dX8_carryOut_4 : decode cX8_carryOut 4 = .ok (.bipush (-6), 2) := by decide +kernel
theorem dX8_carryOut_6 : decode cX8_carryOut 6 = .ok (.if_icmp .eq 6, 3) := by decide +kernel
theorem dX8_carryOut_9 : decode cX8_carryOut 9 = .ok (.bipush (-3), 2) := by decide +kernel
theorem dX8_carryOut_11 : decode cX8_carryOut 11 = .ok (.ireturn, 1) := by decide +kernel
theorem dX8_carryOut_12 : decode cX8_carryOut 12 = .ok (.aload_n 0, 1) := by decide +kernel
theorem dX8_carryOut_13 : decode cX8_carryOut 13 = .ok (.invokevirtual 66, 3) := by decide +kernel
theorem dX8_carryOut_16 : decode cX8_carryOut 16 = .ok (.aload_n 0, 1) := by decide +kernel
theorem dX8_carryOut_17 : decode cX8_carryOut 17 = .ok (.iconst 1, 1) := by decide +kernel
theorem dX8_carryOut_18 : decode cX8_carryOut 18 = .ok (.putfield 47, 3) := by decide +kernel
theorem dX8_carryOut_21 : decode cX8_carryOut 21 = .ok (.iconst 0, 1) := by decide +kernel
theorem dX8_carryOut_22 : decode cX8_carryOut 22 = .ok (.istore_n 1, 1) := by decide +kernel
theorem dX8_carryOut_23 : decode cX8_carryOut 23 = .ok (.iload_n 1, 1) := by decide +kernel
theorem dX8_carryOut_24 : decode cX8_carryOut 24 = .ok (.aload_n 0, 1) := by decide +kernel
theorem dX8_carryOut_25 : decode cX8_carryOut 25 = .ok (.getfield 179, 3) := by decide +kernel
theorem dX8_carryOut_28 : decode cX8_carryOut 28 = .ok (.if_icmp .ge 19, 3) := by decide +kernel
theorem dX8_carryOut_31 : decode cX8_carryOut 31 = .ok (.aload_n 0, 1) := by decide +kernel
theorem dX8_carryOut_32 : decode cX8_carryOut 32 = .ok (.iconst 3, 1) := by decide +kernel
theorem dX8_carryOut_33 : decode cX8_carryOut 33 = .ok (.iload_n 1, 1) := by decide +kernel
theorem dX8_carryOut_34 : decode cX8_carryOut 34 = .ok (.imul, 1) := by decide +kernel
theorem dX8_carryOut_35 : decode cX8_carryOut 35 = .ok (.invokevirtual 208, 3) := by decide +kernel
theorem dX8_carryOut_38 : decode cX8_carryOut 38 = .ok (.ifCond .lt 9, 3) := by decide +kernel
theorem dX8_carryOut_41 : decode cX8_carryOut 41 = .ok (.iinc 1 1, 3) := by decide +kernel
theorem dX8_carryOut_44 : decode cX8_carryOut 44 = .ok (.goto (-21), 3) := by decide +kernel
theorem dX8_carryOut_47 : decode cX8_carryOut 47 = .ok (.aload_n 0, 1) := by decide +kernel
theorem dX8_carryOut_48 : decode cX8_carryOut 48 = .ok (.iconst 0, 1) := by decide +kernel
theorem dX8_carryOut_49 : decode cX8_carryOut 49 = .ok (.putfield 47, 3) := by decide +kernel
theorem dX8_carryOut_52 : decode cX8_carryOut 52 = .ok (.aload_n 0, 1) := by decide +kernel
theorem dX8_carryOut_53 : decode cX8_carryOut 53 = .ok (.iconst 0, 1) := by decide +kernel
theorem dX8_carryOut_54 : decode cX8_carryOut 54 = .ok (.putfield 149, 3) := by decide +kernel
theorem dX8_carryOut_57 : decode cX8_carryOut 57 = .ok (.iload_n 1, 1) := by decide +kernel
theorem dX8_carryOut_58 : decode cX8_carryOut 58 = .ok (.ireturn, 1) := by decide +kernel
theorem dX8_undo_0 : decode cX8_undo 0 = .ok (.aload_n 0, 1) := by decide +kernel
theorem dX8_undo_1 : decode cX8_undo 1 = .ok (.getfield 51, 3) := by decide +kernel
theorem dX8_undo_4 : decode cX8_undo 4 = .ok (.ifCond .ne 6, 3) := by decide +kernel
theorem dX8_undo_7 : decode cX8_undo 7 = .ok (.bipush (-5), 2) := by decide +kernel
theorem dX8_undo_9 : decode cX8_undo 9 = .ok (.ireturn, 1) := by decide +kernel
theorem dX8_undo_10 : decode cX8_undo 10 = .ok (.aload_n 0, 1) := by decide +kernel
theorem dX8_undo_11 : decode cX8_undo 11 = .ok (.dup, 1) := by decide +kernel
theorem dX8_undo_12 : decode cX8_undo 12 = .ok (.getfield 51, 3) := by decide +kernel
theorem dX8_undo_15 : decode cX8_undo 15 = .ok (.iconst 1, 1) := by decide +kernel
theorem dX8_undo_16 : decode cX8_undo 16 = .ok (.isub, 1) := by decide +kernel
theorem dX8_undo_17 : decode cX8_undo 17 = .ok (.putfield 51, 3) := by decide +kernel
theorem dX8_undo_20 : decode cX8_undo 20 = .ok (.iconst 0, 1) := by decide +kernel
theorem dX8_undo_21 : decode cX8_undo 21 = .ok (.istore_n 1, 1) := by decide +kernel
theorem dX8_undo_22 : decode cX8_undo 22 = .ok (.iload_n 1, 1) := by decide +kernel
theorem dX8_undo_23 : decode cX8_undo 23 = .ok (.sipush 560, 3) := by decide +kernel
theorem dX8_undo_26 : decode cX8_undo 26 = .ok (.if_icmp .ge 30, 3) := by decide +kernel
theorem dX8_undo_29 : decode cX8_undo 29 = .ok (.aload_n 0, 1) := by decide +kernel
theorem dX8_undo_30 : decode cX8_undo 30 = .ok (.getfield 7, 3) := by decide +kernel
theorem dX8_undo_33 : decode cX8_undo 33 = .ok (.iload_n 1, 1) := by decide +kernel
theorem dX8_undo_34 : decode cX8_undo 34 = .ok (.aload_n 0, 1) := by decide +kernel
theorem dX8_undo_35 : decode cX8_undo 35 = .ok (.getfield 19, 3) := by decide +kernel
theorem dX8_undo_38 : decode cX8_undo 38 = .ok (.aload_n 0, 1) := by decide +kernel
theorem dX8_undo_39 : decode cX8_undo 39 = .ok (.getfield 51, 3) := by decide +kernel
theorem dX8_undo_42 : decode cX8_undo 42 = .ok (.sipush 560, 3) := by decide +kernel
theorem dX8_undo_45 : decode cX8_undo 45 = .ok (.imul, 1) := by decide +kernel
theorem dX8_undo_46 : decode cX8_undo 46 = .ok (.iload_n 1, 1) := by decide +kernel
theorem dX8_undo_47 : decode cX8_undo 47 = .ok (.iadd, 1) := by decide +kernel
theorem dX8_undo_48 : decode cX8_undo 48 = .ok (.iaload, 1) := by decide +kernel
theorem dX8_undo_49 : decode cX8_undo 49 = .ok (.iastore, 1) := by decide +kernel
theorem dX8_undo_50 : decode cX8_undo 50 = .ok (.iinc 1 1, 3) := by decide +kernel
theorem dX8_undo_53 : decode cX8_undo 53 = .ok (.goto (-31), 3) := by decide +kernel
theorem dX8_undo_56 : decode cX8_undo 56 = .ok (.aload_n 0, 1) := by decide +kernel
theorem dX8_undo_57 : decode cX8_undo 57 = .ok (.getfield 51, 3) := by decide +kernel
theorem dX8_undo_60 : decode cX8_undo 60 = .ok (.ireturn, 1) := by decide +kernel
theorem dX8_save_0 : decode cX8_save 0 = .ok (.iload_n 1, 1) := by decide +kernel
theorem dX8_save_1 : decode cX8_save 1 = .ok (.iconst 0, 1) := by decide +kernel
theorem dX8_save_2 : decode cX8_save 2 = .ok (.iconst 1, 1) := by decide +kernel
theorem dX8_save_3 : decode cX8_save 3 = .ok (.invokestatic 55, 3) := by decide +kernel
theorem dX8_save_6 : decode cX8_save 6 = .ok (.ifCond .ne 6, 3) := by decide +kernel
theorem dX8_save_9 : decode cX8_save 9 = .ok (.bipush (-2), 2) := by decide +kernel
theorem dX8_save_11 : decode cX8_save 11 = .ok (.ireturn, 1) := by decide +kernel
theorem dX8_save_12 : decode cX8_save 12 = .ok (.iconst 0, 1) := by decide +kernel
theorem dX8_save_13 : decode cX8_save 13 = .ok (.istore_n 2, 1) := by decide +kernel
theorem dX8_save_14 : decode cX8_save 14 = .ok (.iload_n 2, 1) := by decide +kernel
theorem dX8_save_15 : decode cX8_save 15 = .ok (.sipush 560, 3) := by decide +kernel
theorem dX8_save_18 : decode cX8_save 18 = .ok (.if_icmp .ge 27, 3) := by decide +kernel
theorem dX8_save_21 : decode cX8_save 21 = .ok (.aload_n 0, 1) := by decide +kernel
theorem dX8_save_22 : decode cX8_save 22 = .ok (.getfield 22, 3) := by decide +kernel
theorem dX8_save_25 : decode cX8_save 25 = .ok (.iload_n 1, 1) := by decide +kernel
theorem dX8_save_26 : decode cX8_save 26 = .ok (.sipush 560, 3) := by decide +kernel
theorem dX8_save_29 : decode cX8_save 29 = .ok (.imul, 1) := by decide +kernel
theorem dX8_save_30 : decode cX8_save 30 = .ok (.iload_n 2, 1) := by decide +kernel
theorem dX8_save_31 : decode cX8_save 31 = .ok (.iadd, 1) := by decide +kernel
theorem dX8_save_32 : decode cX8_save 32 = .ok (.aload_n 0, 1) := by decide +kernel
theorem dX8_save_33 : decode cX8_save 33 = .ok (.getfield 7, 3) := by decide +kernel
theorem dX8_save_36 : decode cX8_save 36 = .ok (.iload_n 2, 1) := by decide +kernel
theorem dX8_save_37 : decode cX8_save 37 = .ok (.iaload, 1) := by decide +kernel
theorem dX8_save_38 : decode cX8_save 38 = .ok (.iastore, 1) := by decide +kernel
theorem dX8_save_39 : decode cX8_save 39 = .ok (.iinc 2 1, 3) := by decide +kernel
theorem dX8_save_42 : decode cX8_save 42 = .ok (.goto (-28), 3) := by decide +kernel
theorem dX8_save_45 : decode cX8_save 45 = .ok (.aload_n 0, 1) := by decide +kernel
theorem dX8_save_46 : decode cX8_save 46 = .ok (.getfield 25, 3) := by decide +kernel
theorem dX8_save_49 : decode cX8_save 49 = .ok (.iload_n 1, 1) := by decide +kernel
theorem dX8_save_50 : decode cX8_save 50 = .ok (.iconst 1, 1) := by decide +kernel
theorem dX8_save_51 : decode cX8_save 51 = .ok (.bastore, 1) := by decide +kernel
theorem dX8_save_52 : decode cX8_save 52 = .ok (.aload_n 0, 1) := by decide +kernel
theorem dX8_save_53 : decode cX8_save 53 = .ok (.getfield 7, 3) := by decide +kernel
theorem dX8_save_56 : decode cX8_save 56 = .ok (.bipush 6, 2) := by decide +kernel
theorem dX8_save_58 : decode cX8_save 58 = .ok (.iaload, 1) := by decide +kernel
theorem dX8_save_59 : decode cX8_save 59 = .ok (.ireturn, 1) := by decide +kernel
theorem dX8_restore_0 : decode cX8_restore 0 = .ok (.iload_n 1, 1) := by decide +kernel
theorem dX8_restore_1 : decode cX8_restore 1 = .ok (.iconst 0, 1) := by decide +kernel
theorem dX8_restore_2 : decode cX8_restore 2 = .ok (.iconst 1, 1) := by decide +kernel
theorem dX8_restore_3 : decode cX8_restore 3 = .ok (.invokestatic 55, 3) := by decide +kernel
theorem dX8_restore_6 : decode cX8_restore 6 = .ok (.ifCond .ne 6, 3) := by decide +kernel
theorem dX8_restore_9 : decode cX8_restore 9 = .ok (.bipush (-2), 2) := by decide +kernel
theorem dX8_restore_11 : decode cX8_restore 11 = .ok (.ireturn, 1) := by decide +kernel
theorem dX8_restore_12 : decode cX8_restore 12 = .ok (.aload_n 0, 1) := by decide +kernel
theorem dX8_restore_13 : decode cX8_restore 13 = .ok (.getfield 25, 3) := by decide +kernel
theorem dX8_restore_16 : decode cX8_restore 16 = .ok (.iload_n 1, 1) := by decide +kernel
theorem dX8_restore_17 : decode cX8_restore 17 = .ok (.baload, 1) := by decide +kernel
theorem dX8_restore_18 : decode cX8_restore 18 = .ok (.ifCond .ne 6, 3) := by decide +kernel
theorem dX8_restore_21 : decode cX8_restore 21 = .ok (.bipush (-5), 2) := by decide +kernel
theorem dX8_restore_23 : decode cX8_restore 23 = .ok (.ireturn, 1) := by decide +kernel
theorem dX8_restore_24 : decode cX8_restore 24 = .ok (.aload_n 0, 1) := by decide +kernel
theorem dX8_restore_25 : decode cX8_restore 25 = .ok (.invokevirtual 66, 3) := by decide +kernel
theorem dX8_restore_28 : decode cX8_restore 28 = .ok (.iconst 0, 1) := by decide +kernel
theorem dX8_restore_29 : decode cX8_restore 29 = .ok (.istore_n 2, 1) := by decide +kernel
theorem dX8_restore_30 : decode cX8_restore 30 = .ok (.iload_n 2, 1) := by decide +kernel
theorem dX8_restore_31 : decode cX8_restore 31 = .ok (.sipush 560, 3) := by decide +kernel
theorem dX8_restore_34 : decode cX8_restore 34 = .ok (.if_icmp .ge 27, 3) := by decide +kernel
theorem dX8_restore_37 : decode cX8_restore 37 = .ok (.aload_n 0, 1) := by decide +kernel
theorem dX8_restore_38 : decode cX8_restore 38 = .ok (.getfield 7, 3) := by decide +kernel
theorem dX8_restore_41 : decode cX8_restore 41 = .ok (.iload_n 2, 1) := by decide +kernel
theorem dX8_restore_42 : decode cX8_restore 42 = .ok (.aload_n 0, 1) := by decide +kernel
theorem dX8_restore_43 : decode cX8_restore 43 = .ok (.getfield 22, 3) := by decide +kernel
theorem dX8_restore_46 : decode cX8_restore 46 = .ok (.iload_n 1, 1) := by decide +kernel
theorem dX8_restore_47 : decode cX8_restore 47 = .ok (.sipush 560, 3) := by decide +kernel
theorem dX8_restore_50 : decode cX8_restore 50 = .ok (.imul, 1) := by decide +kernel
theorem dX8_restore_51 : decode cX8_restore 51 = .ok (.iload_n 2, 1) := by decide +kernel
theorem dX8_restore_52 : decode cX8_restore 52 = .ok (.iadd, 1) := by decide +kernel
theorem dX8_restore_53 : decode cX8_restore 53 = .ok (.iaload, 1) := by decide +kernel
theorem dX8_restore_54 : decode cX8_restore 54 = .ok (.iastore, 1) := by decide +kernel
theorem dX8_restore_55 : decode cX8_restore 55 = .ok (.iinc 2 1, 3) := by decide +kernel
theorem dX8_restore_58 : decode cX8_restore 58 = .ok (.goto (-28), 3) := by decide +kernel
theorem dX8_restore_61 : decode cX8_restore 61 = .ok (.aload_n 0, 1) := by decide +kernel
theorem dX8_restore_62 : decode cX8_restore 62 = .ok (.getfield 7, 3) := by decide +kernel
theorem dX8_restore_65 : decode cX8_restore 65 = .ok (.bipush 6, 2) := by decide +kernel
theorem dX8_restore_67 : decode cX8_restore 67 = .ok (.iaload, 1) := by decide +kernel
theorem dX8_restore_68 : decode cX8_restore 68 = .ok (.ireturn, 1) := by decide +kernel
theorem dL_law_0 : decode cL_law 0 = .ok (.new 7, 3) := by decide +kernel
theorem dL_law_3 : decode cL_law 3 = .ok (.dup, 1) := by decide +kernel
theorem dL_law_4 : decode cL_law 4 = .ok (.invokespecial 9, 3) := by decide +kernel
theorem dL_law_7 : decode cL_law 7 = .ok (.astore_n 1, 1) := by decide +kernel
theorem dL_law_8 : decode cL_law 8 = .ok (.new 10, 3) := by decide +kernel
theorem dL_law_11 : decode cL_law 11 = .ok (.dup, 1) := by decide +kernel
theorem dL_law_12 : decode cL_law 12 = .ok (.invokespecial 12, 3) := by decide +kernel
theorem dL_law_15 : decode cL_law 15 = .ok (.astore_n 2, 1) := by decide +kernel
theorem dL_law_16 : decode cL_law 16 = .ok (.iconst 0, 1) := by decide +kernel
theorem dL_law_17 : decode cL_law 17 = .ok (.istore_n 3, 1) := by decide +kernel
theorem dL_law_18 : decode cL_law 18 = .ok (.iload_n 3, 1) := by decide +kernel
theorem dL_law_19 : decode cL_law 19 = .ok (.aload_n 0, 1) := by decide +kernel
theorem dL_law_20 : decode cL_law 20 = .ok (.arraylength, 1) := by decide +kernel
theorem dL_law_21 : decode cL_law 21 = .ok (.iconst 4, 1) := by decide +kernel
theorem dL_law_22 : decode cL_law 22 = .ok (.isub, 1) := by decide +kernel
theorem dL_law_23 : decode cL_law 23 = .ok (.if_icmp .gt 931, 3) := by decide +kernel
theorem dL_law_26 : decode cL_law 26 = .ok (.aload_n 0, 1) := by decide +kernel
theorem dL_law_27 : decode cL_law 27 = .ok (.iload_n 3, 1) := by decide +kernel
theorem dL_law_28 : decode cL_law 28 = .ok (.iaload, 1) := by decide +kernel
theorem dL_law_29 : decode cL_law 29 = .ok (.bipush 31, 2) := by decide +kernel
theorem dL_law_31 : decode cL_law 31 = .ok (.iand, 1) := by decide +kernel
theorem dL_law_32 : decode cL_law 32 = .ok (.tableswitch 916 0 29 #[136, 169, 192, 225, 258, 291, 324, 337, 360, 423, 446, 469, 502, 535, 568, 601, 624, 647, 670, 693, 716, 739, 752, 765, 818, 831, 844, 857, 870, 893], 136) := by decide +kernel
theorem dL_law_168 : decode cL_law 168 = .ok (.aload_n 1, 1) := by decide +kernel
theorem dL_law_169 : decode cL_law 169 = .ok (.aload_n 0, 1) := by decide +kernel
theorem dL_law_170 : decode cL_law 170 = .ok (.iload_n 3, 1) := by decide +kernel
theorem dL_law_171 : decode cL_law 171 = .ok (.iconst 1, 1) := by decide +kernel
theorem dL_law_172 : decode cL_law 172 = .ok (.iadd, 1) := by decide +kernel
theorem dL_law_173 : decode cL_law 173 = .ok (.iaload, 1) := by decide +kernel
theorem dL_law_174 : decode cL_law 174 = .ok (.aload_n 0, 1) := by decide +kernel
theorem dL_law_175 : decode cL_law 175 = .ok (.iload_n 3, 1) := by decide +kernel
theorem dL_law_176 : decode cL_law 176 = .ok (.iconst 2, 1) := by decide +kernel
theorem dL_law_177 : decode cL_law 177 = .ok (.iadd, 1) := by decide +kernel
theorem dL_law_178 : decode cL_law 178 = .ok (.iaload, 1) := by decide +kernel
theorem dL_law_179 : decode cL_law 179 = .ok (.invokevirtual 13, 3) := by decide +kernel
theorem dL_law_182 : decode cL_law 182 = .ok (.aload_n 2, 1) := by decide +kernel
theorem dL_law_183 : decode cL_law 183 = .ok (.aload_n 0, 1) := by decide +kernel
theorem dL_law_184 : decode cL_law 184 = .ok (.iload_n 3, 1) := by decide +kernel
theorem dL_law_185 : decode cL_law 185 = .ok (.iconst 1, 1) := by decide +kernel
theorem dL_law_186 : decode cL_law 186 = .ok (.iadd, 1) := by decide +kernel
theorem dL_law_187 : decode cL_law 187 = .ok (.iaload, 1) := by decide +kernel
theorem dL_law_188 : decode cL_law 188 = .ok (.aload_n 0, 1) := by decide +kernel
theorem dL_law_189 : decode cL_law 189 = .ok (.iload_n 3, 1) := by decide +kernel
theorem dL_law_190 : decode cL_law 190 = .ok (.iconst 2, 1) := by decide +kernel
theorem dL_law_191 : decode cL_law 191 = .ok (.iadd, 1) := by decide +kernel
theorem dL_law_192 : decode cL_law 192 = .ok (.iaload, 1) := by decide +kernel
theorem dL_law_193 : decode cL_law 193 = .ok (.invokevirtual 17, 3) := by decide +kernel
theorem dL_law_196 : decode cL_law 196 = .ok (.if_icmp .eq 752, 3) := by decide +kernel
theorem dL_law_199 : decode cL_law 199 = .ok (.iconst 0, 1) := by decide +kernel
theorem dL_law_200 : decode cL_law 200 = .ok (.ireturn, 1) := by decide +kernel
theorem dL_law_201 : decode cL_law 201 = .ok (.aload_n 1, 1) := by decide +kernel
theorem dL_law_202 : decode cL_law 202 = .ok (.aload_n 0, 1) := by decide +kernel
theorem dL_law_203 : decode cL_law 203 = .ok (.iload_n 3, 1) := by decide +kernel
theorem dL_law_204 : decode cL_law 204 = .ok (.iconst 1, 1) := by decide +kernel
theorem dL_law_205 : decode cL_law 205 = .ok (.iadd, 1) := by decide +kernel
theorem dL_law_206 : decode cL_law 206 = .ok (.iaload, 1) := by decide +kernel
theorem dL_law_207 : decode cL_law 207 = .ok (.invokevirtual 18, 3) := by decide +kernel
theorem dL_law_210 : decode cL_law 210 = .ok (.aload_n 2, 1) := by decide +kernel
theorem dL_law_211 : decode cL_law 211 = .ok (.aload_n 0, 1) := by decide +kernel
theorem dL_law_212 : decode cL_law 212 = .ok (.iload_n 3, 1) := by decide +kernel
theorem dL_law_213 : decode cL_law 213 = .ok (.iconst 1, 1) := by decide +kernel
theorem dL_law_214 : decode cL_law 214 = .ok (.iadd, 1) := by decide +kernel
theorem dL_law_215 : decode cL_law 215 = .ok (.iaload, 1) := by decide +kernel
theorem dL_law_216 : decode cL_law 216 = .ok (.invokevirtual 22, 3) := by decide +kernel
theorem dL_law_219 : decode cL_law 219 = .ok (.if_icmp .eq 729, 3) := by decide +kernel
theorem dL_law_222 : decode cL_law 222 = .ok (.iconst 0, 1) := by decide +kernel
theorem dL_law_223 : decode cL_law 223 = .ok (.ireturn, 1) := by decide +kernel
theorem dL_law_224 : decode cL_law 224 = .ok (.aload_n 1, 1) := by decide +kernel
theorem dL_law_225 : decode cL_law 225 = .ok (.aload_n 0, 1) := by decide +kernel
theorem dL_law_226 : decode cL_law 226 = .ok (.iload_n 3, 1) := by decide +kernel
theorem dL_law_227 : decode cL_law 227 = .ok (.iconst 1, 1) := by decide +kernel
theorem dL_law_228 : decode cL_law 228 = .ok (.iadd, 1) := by decide +kernel
theorem dL_law_229 : decode cL_law 229 = .ok (.iaload, 1) := by decide +kernel
theorem dL_law_230 : decode cL_law 230 = .ok (.aload_n 0, 1) := by decide +kernel
theorem dL_law_231 : decode cL_law 231 = .ok (.iload_n 3, 1) := by decide +kernel
theorem dL_law_232 : decode cL_law 232 = .ok (.iconst 2, 1) := by decide +kernel
theorem dL_law_233 : decode cL_law 233 = .ok (.iadd, 1) := by decide +kernel
theorem dL_law_234 : decode cL_law 234 = .ok (.iaload, 1) := by decide +kernel
theorem dL_law_235 : decode cL_law 235 = .ok (.invokevirtual 23, 3) := by decide +kernel
theorem dL_law_238 : decode cL_law 238 = .ok (.aload_n 2, 1) := by decide +kernel
theorem dL_law_239 : decode cL_law 239 = .ok (.aload_n 0, 1) := by decide +kernel
theorem dL_law_240 : decode cL_law 240 = .ok (.iload_n 3, 1) := by decide +kernel
theorem dL_law_241 : decode cL_law 241 = .ok (.iconst 1, 1) := by decide +kernel
theorem dL_law_242 : decode cL_law 242 = .ok (.iadd, 1) := by decide +kernel
theorem dL_law_243 : decode cL_law 243 = .ok (.iaload, 1) := by decide +kernel
theorem dL_law_244 : decode cL_law 244 = .ok (.aload_n 0, 1) := by decide +kernel
theorem dL_law_245 : decode cL_law 245 = .ok (.iload_n 3, 1) := by decide +kernel
theorem dL_law_246 : decode cL_law 246 = .ok (.iconst 2, 1) := by decide +kernel
theorem dL_law_247 : decode cL_law 247 = .ok (.iadd, 1) := by decide +kernel
theorem dL_law_248 : decode cL_law 248 = .ok (.iaload, 1) := by decide +kernel
theorem dL_law_249 : decode cL_law 249 = .ok (.invokevirtual 26, 3) := by decide +kernel
theorem dL_law_252 : decode cL_law 252 = .ok (.if_icmp .eq 696, 3) := by decide +kernel
theorem dL_law_255 : decode cL_law 255 = .ok (.iconst 0, 1) := by decide +kernel
theorem dL_law_256 : decode cL_law 256 = .ok (.ireturn, 1) := by decide +kernel
theorem dL_law_257 : decode cL_law 257 = .ok (.aload_n 1, 1) := by decide +kernel
theorem dL_law_258 : decode cL_law 258 = .ok (.aload_n 0, 1) := by decide +kernel
theorem dL_law_259 : decode cL_law 259 = .ok (.iload_n 3, 1) := by decide +kernel
theorem dL_law_260 : decode cL_law 260 = .ok (.iconst 1, 1) := by decide +kernel
theorem dL_law_261 : decode cL_law 261 = .ok (.iadd, 1) := by decide +kernel
theorem dL_law_262 : decode cL_law 262 = .ok (.iaload, 1) := by decide +kernel
theorem dL_law_263 : decode cL_law 263 = .ok (.aload_n 0, 1) := by decide +kernel
theorem dL_law_264 : decode cL_law 264 = .ok (.iload_n 3, 1) := by decide +kernel
theorem dL_law_265 : decode cL_law 265 = .ok (.iconst 2, 1) := by decide +kernel
theorem dL_law_266 : decode cL_law 266 = .ok (.iadd, 1) := by decide +kernel
theorem dL_law_267 : decode cL_law 267 = .ok (.iaload, 1) := by decide +kernel
theorem dL_law_268 : decode cL_law 268 = .ok (.invokevirtual 27, 3) := by decide +kernel
theorem dL_law_271 : decode cL_law 271 = .ok (.aload_n 2, 1) := by decide +kernel
theorem dL_law_272 : decode cL_law 272 = .ok (.aload_n 0, 1) := by decide +kernel
theorem dL_law_273 : decode cL_law 273 = .ok (.iload_n 3, 1) := by decide +kernel
theorem dL_law_274 : decode cL_law 274 = .ok (.iconst 1, 1) := by decide +kernel
theorem dL_law_275 : decode cL_law 275 = .ok (.iadd, 1) := by decide +kernel
theorem dL_law_276 : decode cL_law 276 = .ok (.iaload, 1) := by decide +kernel
theorem dL_law_277 : decode cL_law 277 = .ok (.aload_n 0, 1) := by decide +kernel
theorem dL_law_278 : decode cL_law 278 = .ok (.iload_n 3, 1) := by decide +kernel
theorem dL_law_279 : decode cL_law 279 = .ok (.iconst 2, 1) := by decide +kernel
theorem dL_law_280 : decode cL_law 280 = .ok (.iadd, 1) := by decide +kernel
theorem dL_law_281 : decode cL_law 281 = .ok (.iaload, 1) := by decide +kernel
theorem dL_law_282 : decode cL_law 282 = .ok (.invokevirtual 30, 3) := by decide +kernel
theorem dL_law_285 : decode cL_law 285 = .ok (.if_icmp .eq 663, 3) := by decide +kernel
theorem dL_law_288 : decode cL_law 288 = .ok (.iconst 0, 1) := by decide +kernel
theorem dL_law_289 : decode cL_law 289 = .ok (.ireturn, 1) := by decide +kernel
theorem dL_law_290 : decode cL_law 290 = .ok (.aload_n 1, 1) := by decide +kernel
theorem dL_law_291 : decode cL_law 291 = .ok (.aload_n 0, 1) := by decide +kernel
theorem dL_law_292 : decode cL_law 292 = .ok (.iload_n 3, 1) := by decide +kernel
theorem dL_law_293 : decode cL_law 293 = .ok (.iconst 1, 1) := by decide +kernel
theorem dL_law_294 : decode cL_law 294 = .ok (.iadd, 1) := by decide +kernel
theorem dL_law_295 : decode cL_law 295 = .ok (.iaload, 1) := by decide +kernel
theorem dL_law_296 : decode cL_law 296 = .ok (.aload_n 0, 1) := by decide +kernel
theorem dL_law_297 : decode cL_law 297 = .ok (.iload_n 3, 1) := by decide +kernel
theorem dL_law_298 : decode cL_law 298 = .ok (.iconst 2, 1) := by decide +kernel
theorem dL_law_299 : decode cL_law 299 = .ok (.iadd, 1) := by decide +kernel
theorem dL_law_300 : decode cL_law 300 = .ok (.iaload, 1) := by decide +kernel
theorem dL_law_301 : decode cL_law 301 = .ok (.invokevirtual 31, 3) := by decide +kernel
theorem dL_law_304 : decode cL_law 304 = .ok (.aload_n 2, 1) := by decide +kernel
theorem dL_law_305 : decode cL_law 305 = .ok (.aload_n 0, 1) := by decide +kernel
theorem dL_law_306 : decode cL_law 306 = .ok (.iload_n 3, 1) := by decide +kernel
theorem dL_law_307 : decode cL_law 307 = .ok (.iconst 1, 1) := by decide +kernel
theorem dL_law_308 : decode cL_law 308 = .ok (.iadd, 1) := by decide +kernel
theorem dL_law_309 : decode cL_law 309 = .ok (.iaload, 1) := by decide +kernel
theorem dL_law_310 : decode cL_law 310 = .ok (.aload_n 0, 1) := by decide +kernel
theorem dL_law_311 : decode cL_law 311 = .ok (.iload_n 3, 1) := by decide +kernel
theorem dL_law_312 : decode cL_law 312 = .ok (.iconst 2, 1) := by decide +kernel
theorem dL_law_313 : decode cL_law 313 = .ok (.iadd, 1) := by decide +kernel
theorem dL_law_314 : decode cL_law 314 = .ok (.iaload, 1) := by decide +kernel
theorem dL_law_315 : decode cL_law 315 = .ok (.invokevirtual 34, 3) := by decide +kernel
theorem dL_law_318 : decode cL_law 318 = .ok (.if_icmp .eq 630, 3) := by decide +kernel
theorem dL_law_321 : decode cL_law 321 = .ok (.iconst 0, 1) := by decide +kernel
theorem dL_law_322 : decode cL_law 322 = .ok (.ireturn, 1) := by decide +kernel
theorem dL_law_323 : decode cL_law 323 = .ok (.aload_n 1, 1) := by decide +kernel
theorem dL_law_324 : decode cL_law 324 = .ok (.aload_n 0, 1) := by decide +kernel
theorem dL_law_325 : decode cL_law 325 = .ok (.iload_n 3, 1) := by decide +kernel
theorem dL_law_326 : decode cL_law 326 = .ok (.iconst 1, 1) := by decide +kernel
theorem dL_law_327 : decode cL_law 327 = .ok (.iadd, 1) := by decide +kernel
theorem dL_law_328 : decode cL_law 328 = .ok (.iaload, 1) := by decide +kernel
theorem dL_law_329 : decode cL_law 329 = .ok (.aload_n 0, 1) := by decide +kernel
theorem dL_law_330 : decode cL_law 330 = .ok (.iload_n 3, 1) := by decide +kernel
theorem dL_law_331 : decode cL_law 331 = .ok (.iconst 2, 1) := by decide +kernel
theorem dL_law_332 : decode cL_law 332 = .ok (.iadd, 1) := by decide +kernel
theorem dL_law_333 : decode cL_law 333 = .ok (.iaload, 1) := by decide +kernel
theorem dL_law_334 : decode cL_law 334 = .ok (.invokevirtual 35, 3) := by decide +kernel
theorem dL_law_337 : decode cL_law 337 = .ok (.aload_n 2, 1) := by decide +kernel
theorem dL_law_338 : decode cL_law 338 = .ok (.aload_n 0, 1) := by decide +kernel
theorem dL_law_339 : decode cL_law 339 = .ok (.iload_n 3, 1) := by decide +kernel
theorem dL_law_340 : decode cL_law 340 = .ok (.iconst 1, 1) := by decide +kernel
theorem dL_law_341 : decode cL_law 341 = .ok (.iadd, 1) := by decide +kernel
theorem dL_law_342 : decode cL_law 342 = .ok (.iaload, 1) := by decide +kernel
theorem dL_law_343 : decode cL_law 343 = .ok (.aload_n 0, 1) := by decide +kernel
theorem dL_law_344 : decode cL_law 344 = .ok (.iload_n 3, 1) := by decide +kernel
theorem dL_law_345 : decode cL_law 345 = .ok (.iconst 2, 1) := by decide +kernel
theorem dL_law_346 : decode cL_law 346 = .ok (.iadd, 1) := by decide +kernel
theorem dL_law_347 : decode cL_law 347 = .ok (.iaload, 1) := by decide +kernel
theorem dL_law_348 : decode cL_law 348 = .ok (.invokevirtual 38, 3) := by decide +kernel
theorem dL_law_351 : decode cL_law 351 = .ok (.if_icmp .eq 597, 3) := by decide +kernel
theorem dL_law_354 : decode cL_law 354 = .ok (.iconst 0, 1) := by decide +kernel
theorem dL_law_355 : decode cL_law 355 = .ok (.ireturn, 1) := by decide +kernel
theorem dL_law_356 : decode cL_law 356 = .ok (.aload_n 1, 1) := by decide +kernel
theorem dL_law_357 : decode cL_law 357 = .ok (.invokevirtual 39, 3) := by decide +kernel
theorem dL_law_360 : decode cL_law 360 = .ok (.aload_n 2, 1) := by decide +kernel
theorem dL_law_361 : decode cL_law 361 = .ok (.invokevirtual 43, 3) := by decide +kernel
theorem dL_law_364 : decode cL_law 364 = .ok (.if_icmp .eq 584, 3) := by decide +kernel
theorem dL_law_367 : decode cL_law 367 = .ok (.iconst 0, 1) := by decide +kernel
theorem dL_law_368 : decode cL_law 368 = .ok (.ireturn, 1) := by decide +kernel
theorem dL_law_369 : decode cL_law 369 = .ok (.aload_n 1, 1) := by decide +kernel
theorem dL_law_370 : decode cL_law 370 = .ok (.aload_n 0, 1) := by decide +kernel
theorem dL_law_371 : decode cL_law 371 = .ok (.iload_n 3, 1) := by decide +kernel
theorem dL_law_372 : decode cL_law 372 = .ok (.iconst 1, 1) := by decide +kernel
theorem dL_law_373 : decode cL_law 373 = .ok (.iadd, 1) := by decide +kernel
theorem dL_law_374 : decode cL_law 374 = .ok (.iaload, 1) := by decide +kernel
theorem dL_law_375 : decode cL_law 375 = .ok (.invokevirtual 44, 3) := by decide +kernel
theorem dL_law_378 : decode cL_law 378 = .ok (.aload_n 2, 1) := by decide +kernel
theorem dL_law_379 : decode cL_law 379 = .ok (.aload_n 0, 1) := by decide +kernel
theorem dL_law_380 : decode cL_law 380 = .ok (.iload_n 3, 1) := by decide +kernel
theorem dL_law_381 : decode cL_law 381 = .ok (.iconst 1, 1) := by decide +kernel
theorem dL_law_382 : decode cL_law 382 = .ok (.iadd, 1) := by decide +kernel
theorem dL_law_383 : decode cL_law 383 = .ok (.iaload, 1) := by decide +kernel
theorem dL_law_384 : decode cL_law 384 = .ok (.invokevirtual 47, 3) := by decide +kernel
theorem dL_law_387 : decode cL_law 387 = .ok (.if_icmp .eq 561, 3) := by decide +kernel
theorem dL_law_390 : decode cL_law 390 = .ok (.iconst 0, 1) := by decide +kernel
theorem dL_law_391 : decode cL_law 391 = .ok (.ireturn, 1) := by decide +kernel
theorem dL_law_392 : decode cL_law 392 = .ok (.aload_n 1, 1) := by decide +kernel
theorem dL_law_393 : decode cL_law 393 = .ok (.aload_n 0, 1) := by decide +kernel
theorem dL_law_394 : decode cL_law 394 = .ok (.iload_n 3, 1) := by decide +kernel
theorem dL_law_395 : decode cL_law 395 = .ok (.iconst 1, 1) := by decide +kernel
theorem dL_law_396 : decode cL_law 396 = .ok (.iadd, 1) := by decide +kernel
theorem dL_law_397 : decode cL_law 397 = .ok (.iaload, 1) := by decide +kernel
theorem dL_law_398 : decode cL_law 398 = .ok (.i2l, 1) := by decide +kernel
theorem dL_law_399 : decode cL_law 399 = .ok (.bipush 32, 2) := by decide +kernel
theorem dL_law_401 : decode cL_law 401 = .ok (.lshl, 1) := by decide +kernel
theorem dL_law_402 : decode cL_law 402 = .ok (.aload_n 0, 1) := by decide +kernel
theorem dL_law_403 : decode cL_law 403 = .ok (.iload_n 3, 1) := by decide +kernel
theorem dL_law_404 : decode cL_law 404 = .ok (.iconst 2, 1) := by decide +kernel
theorem dL_law_405 : decode cL_law 405 = .ok (.iadd, 1) := by decide +kernel
theorem dL_law_406 : decode cL_law 406 = .ok (.iaload, 1) := by decide +kernel
theorem dL_law_407 : decode cL_law 407 = .ok (.i2l, 1) := by decide +kernel
theorem dL_law_408 : decode cL_law 408 = .ok (.ldc2_w 48, 3) := by decide +kernel
theorem dL_law_411 : decode cL_law 411 = .ok (.land, 1) := by decide +kernel
theorem dL_law_412 : decode cL_law 412 = .ok (.lor, 1) := by decide +kernel
theorem dL_law_413 : decode cL_law 413 = .ok (.aload_n 0, 1) := by decide +kernel
theorem dL_law_414 : decode cL_law 414 = .ok (.iload_n 3, 1) := by decide +kernel
theorem dL_law_415 : decode cL_law 415 = .ok (.iconst 3, 1) := by decide +kernel
theorem dL_law_416 : decode cL_law 416 = .ok (.iadd, 1) := by decide +kernel
theorem dL_law_417 : decode cL_law 417 = .ok (.iaload, 1) := by decide +kernel
theorem dL_law_418 : decode cL_law 418 = .ok (.invokevirtual 50, 3) := by decide +kernel
theorem dL_law_421 : decode cL_law 421 = .ok (.aload_n 2, 1) := by decide +kernel
theorem dL_law_422 : decode cL_law 422 = .ok (.aload_n 0, 1) := by decide +kernel
theorem dL_law_423 : decode cL_law 423 = .ok (.iload_n 3, 1) := by decide +kernel
theorem dL_law_424 : decode cL_law 424 = .ok (.iconst 1, 1) := by decide +kernel
theorem dL_law_425 : decode cL_law 425 = .ok (.iadd, 1) := by decide +kernel
theorem dL_law_426 : decode cL_law 426 = .ok (.iaload, 1) := by decide +kernel
theorem dL_law_427 : decode cL_law 427 = .ok (.i2l, 1) := by decide +kernel
theorem dL_law_428 : decode cL_law 428 = .ok (.bipush 32, 2) := by decide +kernel
theorem dL_law_430 : decode cL_law 430 = .ok (.lshl, 1) := by decide +kernel
theorem dL_law_431 : decode cL_law 431 = .ok (.aload_n 0, 1) := by decide +kernel
theorem dL_law_432 : decode cL_law 432 = .ok (.iload_n 3, 1) := by decide +kernel
theorem dL_law_433 : decode cL_law 433 = .ok (.iconst 2, 1) := by decide +kernel
theorem dL_law_434 : decode cL_law 434 = .ok (.iadd, 1) := by decide +kernel
theorem dL_law_435 : decode cL_law 435 = .ok (.iaload, 1) := by decide +kernel
theorem dL_law_436 : decode cL_law 436 = .ok (.i2l, 1) := by decide +kernel
theorem dL_law_437 : decode cL_law 437 = .ok (.ldc2_w 48, 3) := by decide +kernel
theorem dL_law_440 : decode cL_law 440 = .ok (.land, 1) := by decide +kernel
theorem dL_law_441 : decode cL_law 441 = .ok (.lor, 1) := by decide +kernel
theorem dL_law_442 : decode cL_law 442 = .ok (.aload_n 0, 1) := by decide +kernel
theorem dL_law_443 : decode cL_law 443 = .ok (.iload_n 3, 1) := by decide +kernel
theorem dL_law_444 : decode cL_law 444 = .ok (.iconst 3, 1) := by decide +kernel
theorem dL_law_445 : decode cL_law 445 = .ok (.iadd, 1) := by decide +kernel
theorem dL_law_446 : decode cL_law 446 = .ok (.iaload, 1) := by decide +kernel
theorem dL_law_447 : decode cL_law 447 = .ok (.invokevirtual 54, 3) := by decide +kernel
theorem dL_law_450 : decode cL_law 450 = .ok (.if_icmp .eq 498, 3) := by decide +kernel
theorem dL_law_453 : decode cL_law 453 = .ok (.iconst 0, 1) := by decide +kernel
theorem dL_law_454 : decode cL_law 454 = .ok (.ireturn, 1) := by decide +kernel
theorem dL_law_455 : decode cL_law 455 = .ok (.aload_n 1, 1) := by decide +kernel
theorem dL_law_456 : decode cL_law 456 = .ok (.aload_n 0, 1) := by decide +kernel
theorem dL_law_457 : decode cL_law 457 = .ok (.iload_n 3, 1) := by decide +kernel
theorem dL_law_458 : decode cL_law 458 = .ok (.iconst 1, 1) := by decide +kernel
theorem dL_law_459 : decode cL_law 459 = .ok (.iadd, 1) := by decide +kernel
theorem dL_law_460 : decode cL_law 460 = .ok (.iaload, 1) := by decide +kernel
theorem dL_law_461 : decode cL_law 461 = .ok (.invokevirtual 55, 3) := by decide +kernel
theorem dL_law_464 : decode cL_law 464 = .ok (.aload_n 2, 1) := by decide +kernel
theorem dL_law_465 : decode cL_law 465 = .ok (.aload_n 0, 1) := by decide +kernel
theorem dL_law_466 : decode cL_law 466 = .ok (.iload_n 3, 1) := by decide +kernel
theorem dL_law_467 : decode cL_law 467 = .ok (.iconst 1, 1) := by decide +kernel
theorem dL_law_468 : decode cL_law 468 = .ok (.iadd, 1) := by decide +kernel
theorem dL_law_469 : decode cL_law 469 = .ok (.iaload, 1) := by decide +kernel
theorem dL_law_470 : decode cL_law 470 = .ok (.invokevirtual 58, 3) := by decide +kernel
theorem dL_law_473 : decode cL_law 473 = .ok (.if_icmp .eq 475, 3) := by decide +kernel
theorem dL_law_476 : decode cL_law 476 = .ok (.iconst 0, 1) := by decide +kernel
theorem dL_law_477 : decode cL_law 477 = .ok (.ireturn, 1) := by decide +kernel
theorem dL_law_478 : decode cL_law 478 = .ok (.aload_n 1, 1) := by decide +kernel
theorem dL_law_479 : decode cL_law 479 = .ok (.aload_n 0, 1) := by decide +kernel
theorem dL_law_480 : decode cL_law 480 = .ok (.iload_n 3, 1) := by decide +kernel
theorem dL_law_481 : decode cL_law 481 = .ok (.iconst 1, 1) := by decide +kernel
theorem dL_law_482 : decode cL_law 482 = .ok (.iadd, 1) := by decide +kernel
theorem dL_law_483 : decode cL_law 483 = .ok (.iaload, 1) := by decide +kernel
theorem dL_law_484 : decode cL_law 484 = .ok (.invokevirtual 59, 3) := by decide +kernel
theorem dL_law_487 : decode cL_law 487 = .ok (.aload_n 2, 1) := by decide +kernel
theorem dL_law_488 : decode cL_law 488 = .ok (.aload_n 0, 1) := by decide +kernel
theorem dL_law_489 : decode cL_law 489 = .ok (.iload_n 3, 1) := by decide +kernel
theorem dL_law_490 : decode cL_law 490 = .ok (.iconst 1, 1) := by decide +kernel
theorem dL_law_491 : decode cL_law 491 = .ok (.iadd, 1) := by decide +kernel
theorem dL_law_492 : decode cL_law 492 = .ok (.iaload, 1) := by decide +kernel
theorem dL_law_493 : decode cL_law 493 = .ok (.invokevirtual 62, 3) := by decide +kernel
theorem dL_law_496 : decode cL_law 496 = .ok (.if_icmp .eq 452, 3) := by decide +kernel
theorem dL_law_499 : decode cL_law 499 = .ok (.iconst 0, 1) := by decide +kernel
theorem dL_law_500 : decode cL_law 500 = .ok (.ireturn, 1) := by decide +kernel
theorem dL_law_501 : decode cL_law 501 = .ok (.aload_n 1, 1) := by decide +kernel
theorem dL_law_502 : decode cL_law 502 = .ok (.aload_n 0, 1) := by decide +kernel
theorem dL_law_503 : decode cL_law 503 = .ok (.iload_n 3, 1) := by decide +kernel
theorem dL_law_504 : decode cL_law 504 = .ok (.iconst 1, 1) := by decide +kernel
theorem dL_law_505 : decode cL_law 505 = .ok (.iadd, 1) := by decide +kernel
theorem dL_law_506 : decode cL_law 506 = .ok (.iaload, 1) := by decide +kernel
theorem dL_law_507 : decode cL_law 507 = .ok (.aload_n 0, 1) := by decide +kernel
theorem dL_law_508 : decode cL_law 508 = .ok (.iload_n 3, 1) := by decide +kernel
theorem dL_law_509 : decode cL_law 509 = .ok (.iconst 2, 1) := by decide +kernel
theorem dL_law_510 : decode cL_law 510 = .ok (.iadd, 1) := by decide +kernel
theorem dL_law_511 : decode cL_law 511 = .ok (.iaload, 1) := by decide +kernel
theorem dL_law_512 : decode cL_law 512 = .ok (.invokevirtual 63, 3) := by decide +kernel
theorem dL_law_515 : decode cL_law 515 = .ok (.aload_n 2, 1) := by decide +kernel
theorem dL_law_516 : decode cL_law 516 = .ok (.aload_n 0, 1) := by decide +kernel
theorem dL_law_517 : decode cL_law 517 = .ok (.iload_n 3, 1) := by decide +kernel
theorem dL_law_518 : decode cL_law 518 = .ok (.iconst 1, 1) := by decide +kernel
theorem dL_law_519 : decode cL_law 519 = .ok (.iadd, 1) := by decide +kernel
theorem dL_law_520 : decode cL_law 520 = .ok (.iaload, 1) := by decide +kernel
theorem dL_law_521 : decode cL_law 521 = .ok (.aload_n 0, 1) := by decide +kernel
theorem dL_law_522 : decode cL_law 522 = .ok (.iload_n 3, 1) := by decide +kernel
theorem dL_law_523 : decode cL_law 523 = .ok (.iconst 2, 1) := by decide +kernel
theorem dL_law_524 : decode cL_law 524 = .ok (.iadd, 1) := by decide +kernel
theorem dL_law_525 : decode cL_law 525 = .ok (.iaload, 1) := by decide +kernel
theorem dL_law_526 : decode cL_law 526 = .ok (.invokevirtual 66, 3) := by decide +kernel
theorem dL_law_529 : decode cL_law 529 = .ok (.if_icmp .eq 419, 3) := by decide +kernel
theorem dL_law_532 : decode cL_law 532 = .ok (.iconst 0, 1) := by decide +kernel
theorem dL_law_533 : decode cL_law 533 = .ok (.ireturn, 1) := by decide +kernel
theorem dL_law_534 : decode cL_law 534 = .ok (.aload_n 1, 1) := by decide +kernel
theorem dL_law_535 : decode cL_law 535 = .ok (.aload_n 0, 1) := by decide +kernel
theorem dL_law_536 : decode cL_law 536 = .ok (.iload_n 3, 1) := by decide +kernel
theorem dL_law_537 : decode cL_law 537 = .ok (.iconst 1, 1) := by decide +kernel
theorem dL_law_538 : decode cL_law 538 = .ok (.iadd, 1) := by decide +kernel
theorem dL_law_539 : decode cL_law 539 = .ok (.iaload, 1) := by decide +kernel
theorem dL_law_540 : decode cL_law 540 = .ok (.aload_n 0, 1) := by decide +kernel
theorem dL_law_541 : decode cL_law 541 = .ok (.iload_n 3, 1) := by decide +kernel
theorem dL_law_542 : decode cL_law 542 = .ok (.iconst 2, 1) := by decide +kernel
theorem dL_law_543 : decode cL_law 543 = .ok (.iadd, 1) := by decide +kernel
theorem dL_law_544 : decode cL_law 544 = .ok (.iaload, 1) := by decide +kernel
theorem dL_law_545 : decode cL_law 545 = .ok (.invokevirtual 67, 3) := by decide +kernel
theorem dL_law_548 : decode cL_law 548 = .ok (.aload_n 2, 1) := by decide +kernel
theorem dL_law_549 : decode cL_law 549 = .ok (.aload_n 0, 1) := by decide +kernel
theorem dL_law_550 : decode cL_law 550 = .ok (.iload_n 3, 1) := by decide +kernel
theorem dL_law_551 : decode cL_law 551 = .ok (.iconst 1, 1) := by decide +kernel
theorem dL_law_552 : decode cL_law 552 = .ok (.iadd, 1) := by decide +kernel
theorem dL_law_553 : decode cL_law 553 = .ok (.iaload, 1) := by decide +kernel
theorem dL_law_554 : decode cL_law 554 = .ok (.aload_n 0, 1) := by decide +kernel
theorem dL_law_555 : decode cL_law 555 = .ok (.iload_n 3, 1) := by decide +kernel
theorem dL_law_556 : decode cL_law 556 = .ok (.iconst 2, 1) := by decide +kernel
theorem dL_law_557 : decode cL_law 557 = .ok (.iadd, 1) := by decide +kernel
theorem dL_law_558 : decode cL_law 558 = .ok (.iaload, 1) := by decide +kernel
theorem dL_law_559 : decode cL_law 559 = .ok (.invokevirtual 70, 3) := by decide +kernel
theorem dL_law_562 : decode cL_law 562 = .ok (.if_icmp .eq 386, 3) := by decide +kernel
theorem dL_law_565 : decode cL_law 565 = .ok (.iconst 0, 1) := by decide +kernel
theorem dL_law_566 : decode cL_law 566 = .ok (.ireturn, 1) := by decide +kernel
theorem dL_law_567 : decode cL_law 567 = .ok (.aload_n 1, 1) := by decide +kernel
theorem dL_law_568 : decode cL_law 568 = .ok (.aload_n 0, 1) := by decide +kernel
theorem dL_law_569 : decode cL_law 569 = .ok (.iload_n 3, 1) := by decide +kernel
theorem dL_law_570 : decode cL_law 570 = .ok (.iconst 1, 1) := by decide +kernel
theorem dL_law_571 : decode cL_law 571 = .ok (.iadd, 1) := by decide +kernel
theorem dL_law_572 : decode cL_law 572 = .ok (.iaload, 1) := by decide +kernel
theorem dL_law_573 : decode cL_law 573 = .ok (.aload_n 0, 1) := by decide +kernel
theorem dL_law_574 : decode cL_law 574 = .ok (.iload_n 3, 1) := by decide +kernel
theorem dL_law_575 : decode cL_law 575 = .ok (.iconst 2, 1) := by decide +kernel
theorem dL_law_576 : decode cL_law 576 = .ok (.iadd, 1) := by decide +kernel
theorem dL_law_577 : decode cL_law 577 = .ok (.iaload, 1) := by decide +kernel
theorem dL_law_578 : decode cL_law 578 = .ok (.invokevirtual 71, 3) := by decide +kernel
theorem dL_law_581 : decode cL_law 581 = .ok (.aload_n 2, 1) := by decide +kernel
theorem dL_law_582 : decode cL_law 582 = .ok (.aload_n 0, 1) := by decide +kernel
theorem dL_law_583 : decode cL_law 583 = .ok (.iload_n 3, 1) := by decide +kernel
theorem dL_law_584 : decode cL_law 584 = .ok (.iconst 1, 1) := by decide +kernel
theorem dL_law_585 : decode cL_law 585 = .ok (.iadd, 1) := by decide +kernel
theorem dL_law_586 : decode cL_law 586 = .ok (.iaload, 1) := by decide +kernel
theorem dL_law_587 : decode cL_law 587 = .ok (.aload_n 0, 1) := by decide +kernel
theorem dL_law_588 : decode cL_law 588 = .ok (.iload_n 3, 1) := by decide +kernel
theorem dL_law_589 : decode cL_law 589 = .ok (.iconst 2, 1) := by decide +kernel
theorem dL_law_590 : decode cL_law 590 = .ok (.iadd, 1) := by decide +kernel
theorem dL_law_591 : decode cL_law 591 = .ok (.iaload, 1) := by decide +kernel
theorem dL_law_592 : decode cL_law 592 = .ok (.invokevirtual 74, 3) := by decide +kernel
theorem dL_law_595 : decode cL_law 595 = .ok (.if_icmp .eq 353, 3) := by decide +kernel
theorem dL_law_598 : decode cL_law 598 = .ok (.iconst 0, 1) := by decide +kernel
theorem dL_law_599 : decode cL_law 599 = .ok (.ireturn, 1) := by decide +kernel
theorem dL_law_600 : decode cL_law 600 = .ok (.aload_n 1, 1) := by decide +kernel
theorem dL_law_601 : decode cL_law 601 = .ok (.aload_n 0, 1) := by decide +kernel
theorem dL_law_602 : decode cL_law 602 = .ok (.iload_n 3, 1) := by decide +kernel
theorem dL_law_603 : decode cL_law 603 = .ok (.iconst 1, 1) := by decide +kernel
theorem dL_law_604 : decode cL_law 604 = .ok (.iadd, 1) := by decide +kernel
theorem dL_law_605 : decode cL_law 605 = .ok (.iaload, 1) := by decide +kernel
theorem dL_law_606 : decode cL_law 606 = .ok (.aload_n 0, 1) := by decide +kernel
theorem dL_law_607 : decode cL_law 607 = .ok (.iload_n 3, 1) := by decide +kernel
theorem dL_law_608 : decode cL_law 608 = .ok (.iconst 2, 1) := by decide +kernel
theorem dL_law_609 : decode cL_law 609 = .ok (.iadd, 1) := by decide +kernel
theorem dL_law_610 : decode cL_law 610 = .ok (.iaload, 1) := by decide +kernel
theorem dL_law_611 : decode cL_law 611 = .ok (.invokevirtual 75, 3) := by decide +kernel
theorem dL_law_614 : decode cL_law 614 = .ok (.aload_n 2, 1) := by decide +kernel
theorem dL_law_615 : decode cL_law 615 = .ok (.aload_n 0, 1) := by decide +kernel
theorem dL_law_616 : decode cL_law 616 = .ok (.iload_n 3, 1) := by decide +kernel
theorem dL_law_617 : decode cL_law 617 = .ok (.iconst 1, 1) := by decide +kernel
theorem dL_law_618 : decode cL_law 618 = .ok (.iadd, 1) := by decide +kernel
theorem dL_law_619 : decode cL_law 619 = .ok (.iaload, 1) := by decide +kernel
theorem dL_law_620 : decode cL_law 620 = .ok (.aload_n 0, 1) := by decide +kernel
theorem dL_law_621 : decode cL_law 621 = .ok (.iload_n 3, 1) := by decide +kernel
theorem dL_law_622 : decode cL_law 622 = .ok (.iconst 2, 1) := by decide +kernel
theorem dL_law_623 : decode cL_law 623 = .ok (.iadd, 1) := by decide +kernel
theorem dL_law_624 : decode cL_law 624 = .ok (.iaload, 1) := by decide +kernel
theorem dL_law_625 : decode cL_law 625 = .ok (.invokevirtual 78, 3) := by decide +kernel
theorem dL_law_628 : decode cL_law 628 = .ok (.if_icmp .eq 320, 3) := by decide +kernel
theorem dL_law_631 : decode cL_law 631 = .ok (.iconst 0, 1) := by decide +kernel
theorem dL_law_632 : decode cL_law 632 = .ok (.ireturn, 1) := by decide +kernel
theorem dL_law_633 : decode cL_law 633 = .ok (.aload_n 1, 1) := by decide +kernel
theorem dL_law_634 : decode cL_law 634 = .ok (.aload_n 0, 1) := by decide +kernel
theorem dL_law_635 : decode cL_law 635 = .ok (.iload_n 3, 1) := by decide +kernel
theorem dL_law_636 : decode cL_law 636 = .ok (.iconst 1, 1) := by decide +kernel
theorem dL_law_637 : decode cL_law 637 = .ok (.iadd, 1) := by decide +kernel
theorem dL_law_638 : decode cL_law 638 = .ok (.iaload, 1) := by decide +kernel
theorem dL_law_639 : decode cL_law 639 = .ok (.invokevirtual 79, 3) := by decide +kernel
theorem dL_law_642 : decode cL_law 642 = .ok (.aload_n 2, 1) := by decide +kernel
theorem dL_law_643 : decode cL_law 643 = .ok (.aload_n 0, 1) := by decide +kernel
theorem dL_law_644 : decode cL_law 644 = .ok (.iload_n 3, 1) := by decide +kernel
theorem dL_law_645 : decode cL_law 645 = .ok (.iconst 1, 1) := by decide +kernel
theorem dL_law_646 : decode cL_law 646 = .ok (.iadd, 1) := by decide +kernel
theorem dL_law_647 : decode cL_law 647 = .ok (.iaload, 1) := by decide +kernel
theorem dL_law_648 : decode cL_law 648 = .ok (.invokevirtual 82, 3) := by decide +kernel
theorem dL_law_651 : decode cL_law 651 = .ok (.if_icmp .eq 297, 3) := by decide +kernel
theorem dL_law_654 : decode cL_law 654 = .ok (.iconst 0, 1) := by decide +kernel
theorem dL_law_655 : decode cL_law 655 = .ok (.ireturn, 1) := by decide +kernel
theorem dL_law_656 : decode cL_law 656 = .ok (.aload_n 1, 1) := by decide +kernel
theorem dL_law_657 : decode cL_law 657 = .ok (.aload_n 0, 1) := by decide +kernel
theorem dL_law_658 : decode cL_law 658 = .ok (.iload_n 3, 1) := by decide +kernel
theorem dL_law_659 : decode cL_law 659 = .ok (.iconst 1, 1) := by decide +kernel
theorem dL_law_660 : decode cL_law 660 = .ok (.iadd, 1) := by decide +kernel
theorem dL_law_661 : decode cL_law 661 = .ok (.iaload, 1) := by decide +kernel
theorem dL_law_662 : decode cL_law 662 = .ok (.invokevirtual 83, 3) := by decide +kernel
theorem dL_law_665 : decode cL_law 665 = .ok (.aload_n 2, 1) := by decide +kernel
theorem dL_law_666 : decode cL_law 666 = .ok (.aload_n 0, 1) := by decide +kernel
theorem dL_law_667 : decode cL_law 667 = .ok (.iload_n 3, 1) := by decide +kernel
theorem dL_law_668 : decode cL_law 668 = .ok (.iconst 1, 1) := by decide +kernel
theorem dL_law_669 : decode cL_law 669 = .ok (.iadd, 1) := by decide +kernel
theorem dL_law_670 : decode cL_law 670 = .ok (.iaload, 1) := by decide +kernel
theorem dL_law_671 : decode cL_law 671 = .ok (.invokevirtual 86, 3) := by decide +kernel
theorem dL_law_674 : decode cL_law 674 = .ok (.if_icmp .eq 274, 3) := by decide +kernel
theorem dL_law_677 : decode cL_law 677 = .ok (.iconst 0, 1) := by decide +kernel
theorem dL_law_678 : decode cL_law 678 = .ok (.ireturn, 1) := by decide +kernel
theorem dL_law_679 : decode cL_law 679 = .ok (.aload_n 1, 1) := by decide +kernel
theorem dL_law_680 : decode cL_law 680 = .ok (.aload_n 0, 1) := by decide +kernel
theorem dL_law_681 : decode cL_law 681 = .ok (.iload_n 3, 1) := by decide +kernel
theorem dL_law_682 : decode cL_law 682 = .ok (.iconst 1, 1) := by decide +kernel
theorem dL_law_683 : decode cL_law 683 = .ok (.iadd, 1) := by decide +kernel
theorem dL_law_684 : decode cL_law 684 = .ok (.iaload, 1) := by decide +kernel
theorem dL_law_685 : decode cL_law 685 = .ok (.invokevirtual 87, 3) := by decide +kernel
theorem dL_law_688 : decode cL_law 688 = .ok (.aload_n 2, 1) := by decide +kernel
theorem dL_law_689 : decode cL_law 689 = .ok (.aload_n 0, 1) := by decide +kernel
theorem dL_law_690 : decode cL_law 690 = .ok (.iload_n 3, 1) := by decide +kernel
theorem dL_law_691 : decode cL_law 691 = .ok (.iconst 1, 1) := by decide +kernel
theorem dL_law_692 : decode cL_law 692 = .ok (.iadd, 1) := by decide +kernel
theorem dL_law_693 : decode cL_law 693 = .ok (.iaload, 1) := by decide +kernel
theorem dL_law_694 : decode cL_law 694 = .ok (.invokevirtual 90, 3) := by decide +kernel
theorem dL_law_697 : decode cL_law 697 = .ok (.if_icmp .eq 251, 3) := by decide +kernel
theorem dL_law_700 : decode cL_law 700 = .ok (.iconst 0, 1) := by decide +kernel
theorem dL_law_701 : decode cL_law 701 = .ok (.ireturn, 1) := by decide +kernel
theorem dL_law_702 : decode cL_law 702 = .ok (.aload_n 1, 1) := by decide +kernel
theorem dL_law_703 : decode cL_law 703 = .ok (.aload_n 0, 1) := by decide +kernel
theorem dL_law_704 : decode cL_law 704 = .ok (.iload_n 3, 1) := by decide +kernel
theorem dL_law_705 : decode cL_law 705 = .ok (.iconst 1, 1) := by decide +kernel
theorem dL_law_706 : decode cL_law 706 = .ok (.iadd, 1) := by decide +kernel
theorem dL_law_707 : decode cL_law 707 = .ok (.iaload, 1) := by decide +kernel
theorem dL_law_708 : decode cL_law 708 = .ok (.invokevirtual 91, 3) := by decide +kernel
theorem dL_law_711 : decode cL_law 711 = .ok (.aload_n 2, 1) := by decide +kernel
theorem dL_law_712 : decode cL_law 712 = .ok (.aload_n 0, 1) := by decide +kernel
theorem dL_law_713 : decode cL_law 713 = .ok (.iload_n 3, 1) := by decide +kernel
theorem dL_law_714 : decode cL_law 714 = .ok (.iconst 1, 1) := by decide +kernel
theorem dL_law_715 : decode cL_law 715 = .ok (.iadd, 1) := by decide +kernel
theorem dL_law_716 : decode cL_law 716 = .ok (.iaload, 1) := by decide +kernel
theorem dL_law_717 : decode cL_law 717 = .ok (.invokevirtual 94, 3) := by decide +kernel
theorem dL_law_720 : decode cL_law 720 = .ok (.if_icmp .eq 228, 3) := by decide +kernel
theorem dL_law_723 : decode cL_law 723 = .ok (.iconst 0, 1) := by decide +kernel
theorem dL_law_724 : decode cL_law 724 = .ok (.ireturn, 1) := by decide +kernel
theorem dL_law_725 : decode cL_law 725 = .ok (.aload_n 1, 1) := by decide +kernel
theorem dL_law_726 : decode cL_law 726 = .ok (.aload_n 0, 1) := by decide +kernel
theorem dL_law_727 : decode cL_law 727 = .ok (.iload_n 3, 1) := by decide +kernel
theorem dL_law_728 : decode cL_law 728 = .ok (.iconst 1, 1) := by decide +kernel
theorem dL_law_729 : decode cL_law 729 = .ok (.iadd, 1) := by decide +kernel
theorem dL_law_730 : decode cL_law 730 = .ok (.iaload, 1) := by decide +kernel
theorem dL_law_731 : decode cL_law 731 = .ok (.invokevirtual 95, 3) := by decide +kernel
theorem dL_law_734 : decode cL_law 734 = .ok (.aload_n 2, 1) := by decide +kernel
theorem dL_law_735 : decode cL_law 735 = .ok (.aload_n 0, 1) := by decide +kernel
theorem dL_law_736 : decode cL_law 736 = .ok (.iload_n 3, 1) := by decide +kernel
theorem dL_law_737 : decode cL_law 737 = .ok (.iconst 1, 1) := by decide +kernel
theorem dL_law_738 : decode cL_law 738 = .ok (.iadd, 1) := by decide +kernel
theorem dL_law_739 : decode cL_law 739 = .ok (.iaload, 1) := by decide +kernel
theorem dL_law_740 : decode cL_law 740 = .ok (.invokevirtual 98, 3) := by decide +kernel
theorem dL_law_743 : decode cL_law 743 = .ok (.if_icmp .eq 205, 3) := by decide +kernel
theorem dL_law_746 : decode cL_law 746 = .ok (.iconst 0, 1) := by decide +kernel
theorem dL_law_747 : decode cL_law 747 = .ok (.ireturn, 1) := by decide +kernel
theorem dL_law_748 : decode cL_law 748 = .ok (.aload_n 1, 1) := by decide +kernel
theorem dL_law_749 : decode cL_law 749 = .ok (.aload_n 0, 1) := by decide +kernel
theorem dL_law_750 : decode cL_law 750 = .ok (.iload_n 3, 1) := by decide +kernel
theorem dL_law_751 : decode cL_law 751 = .ok (.iconst 1, 1) := by decide +kernel
theorem dL_law_752 : decode cL_law 752 = .ok (.iadd, 1) := by decide +kernel
theorem dL_law_753 : decode cL_law 753 = .ok (.iaload, 1) := by decide +kernel
theorem dL_law_754 : decode cL_law 754 = .ok (.invokevirtual 99, 3) := by decide +kernel
theorem dL_law_757 : decode cL_law 757 = .ok (.aload_n 2, 1) := by decide +kernel
theorem dL_law_758 : decode cL_law 758 = .ok (.aload_n 0, 1) := by decide +kernel
theorem dL_law_759 : decode cL_law 759 = .ok (.iload_n 3, 1) := by decide +kernel
theorem dL_law_760 : decode cL_law 760 = .ok (.iconst 1, 1) := by decide +kernel
theorem dL_law_761 : decode cL_law 761 = .ok (.iadd, 1) := by decide +kernel
theorem dL_law_762 : decode cL_law 762 = .ok (.iaload, 1) := by decide +kernel
theorem dL_law_763 : decode cL_law 763 = .ok (.invokevirtual 102, 3) := by decide +kernel
theorem dL_law_766 : decode cL_law 766 = .ok (.if_icmp .eq 182, 3) := by decide +kernel
theorem dL_law_769 : decode cL_law 769 = .ok (.iconst 0, 1) := by decide +kernel
theorem dL_law_770 : decode cL_law 770 = .ok (.ireturn, 1) := by decide +kernel
theorem dL_law_771 : decode cL_law 771 = .ok (.aload_n 1, 1) := by decide +kernel
theorem dL_law_772 : decode cL_law 772 = .ok (.invokevirtual 103, 3) := by decide +kernel
theorem dL_law_775 : decode cL_law 775 = .ok (.aload_n 2, 1) := by decide +kernel
theorem dL_law_776 : decode cL_law 776 = .ok (.invokevirtual 106, 3) := by decide +kernel
theorem dL_law_779 : decode cL_law 779 = .ok (.if_icmp .eq 169, 3) := by decide +kernel
theorem dL_law_782 : decode cL_law 782 = .ok (.iconst 0, 1) := by decide +kernel
theorem dL_law_783 : decode cL_law 783 = .ok (.ireturn, 1) := by decide +kernel
theorem dL_law_784 : decode cL_law 784 = .ok (.aload_n 1, 1) := by decide +kernel
theorem dL_law_785 : decode cL_law 785 = .ok (.invokevirtual 107, 3) := by decide +kernel
theorem dL_law_788 : decode cL_law 788 = .ok (.aload_n 2, 1) := by decide +kernel
theorem dL_law_789 : decode cL_law 789 = .ok (.invokevirtual 110, 3) := by decide +kernel
theorem dL_law_792 : decode cL_law 792 = .ok (.if_icmp .eq 156, 3) := by decide +kernel
theorem dL_law_795 : decode cL_law 795 = .ok (.iconst 0, 1) := by decide +kernel
theorem dL_law_796 : decode cL_law 796 = .ok (.ireturn, 1) := by decide +kernel
theorem dL_law_797 : decode cL_law 797 = .ok (.aload_n 1, 1) := by decide +kernel
theorem dL_law_798 : decode cL_law 798 = .ok (.aload_n 0, 1) := by decide +kernel
theorem dL_law_799 : decode cL_law 799 = .ok (.iload_n 3, 1) := by decide +kernel
theorem dL_law_800 : decode cL_law 800 = .ok (.iconst 1, 1) := by decide +kernel
theorem dL_law_801 : decode cL_law 801 = .ok (.iadd, 1) := by decide +kernel
theorem dL_law_802 : decode cL_law 802 = .ok (.iaload, 1) := by decide +kernel
theorem dL_law_803 : decode cL_law 803 = .ok (.i2l, 1) := by decide +kernel
theorem dL_law_804 : decode cL_law 804 = .ok (.bipush 32, 2) := by decide +kernel
theorem dL_law_806 : decode cL_law 806 = .ok (.lshl, 1) := by decide +kernel
theorem dL_law_807 : decode cL_law 807 = .ok (.aload_n 0, 1) := by decide +kernel
theorem dL_law_808 : decode cL_law 808 = .ok (.iload_n 3, 1) := by decide +kernel
theorem dL_law_809 : decode cL_law 809 = .ok (.iconst 2, 1) := by decide +kernel
theorem dL_law_810 : decode cL_law 810 = .ok (.iadd, 1) := by decide +kernel
theorem dL_law_811 : decode cL_law 811 = .ok (.iaload, 1) := by decide +kernel
theorem dL_law_812 : decode cL_law 812 = .ok (.i2l, 1) := by decide +kernel
theorem dL_law_813 : decode cL_law 813 = .ok (.ldc2_w 48, 3) := by decide +kernel
theorem dL_law_816 : decode cL_law 816 = .ok (.land, 1) := by decide +kernel
theorem dL_law_817 : decode cL_law 817 = .ok (.lor, 1) := by decide +kernel
theorem dL_law_818 : decode cL_law 818 = .ok (.invokevirtual 111, 3) := by decide +kernel
theorem dL_law_821 : decode cL_law 821 = .ok (.aload_n 2, 1) := by decide +kernel
theorem dL_law_822 : decode cL_law 822 = .ok (.aload_n 0, 1) := by decide +kernel
theorem dL_law_823 : decode cL_law 823 = .ok (.iload_n 3, 1) := by decide +kernel
theorem dL_law_824 : decode cL_law 824 = .ok (.iconst 1, 1) := by decide +kernel
theorem dL_law_825 : decode cL_law 825 = .ok (.iadd, 1) := by decide +kernel
theorem dL_law_826 : decode cL_law 826 = .ok (.iaload, 1) := by decide +kernel
theorem dL_law_827 : decode cL_law 827 = .ok (.i2l, 1) := by decide +kernel
theorem dL_law_828 : decode cL_law 828 = .ok (.bipush 32, 2) := by decide +kernel
theorem dL_law_830 : decode cL_law 830 = .ok (.lshl, 1) := by decide +kernel
theorem dL_law_831 : decode cL_law 831 = .ok (.aload_n 0, 1) := by decide +kernel
theorem dL_law_832 : decode cL_law 832 = .ok (.iload_n 3, 1) := by decide +kernel
theorem dL_law_833 : decode cL_law 833 = .ok (.iconst 2, 1) := by decide +kernel
theorem dL_law_834 : decode cL_law 834 = .ok (.iadd, 1) := by decide +kernel
theorem dL_law_835 : decode cL_law 835 = .ok (.iaload, 1) := by decide +kernel
theorem dL_law_836 : decode cL_law 836 = .ok (.i2l, 1) := by decide +kernel
theorem dL_law_837 : decode cL_law 837 = .ok (.ldc2_w 48, 3) := by decide +kernel
theorem dL_law_840 : decode cL_law 840 = .ok (.land, 1) := by decide +kernel
theorem dL_law_841 : decode cL_law 841 = .ok (.lor, 1) := by decide +kernel
theorem dL_law_842 : decode cL_law 842 = .ok (.invokevirtual 115, 3) := by decide +kernel
theorem dL_law_845 : decode cL_law 845 = .ok (.if_icmp .eq 103, 3) := by decide +kernel
theorem dL_law_848 : decode cL_law 848 = .ok (.iconst 0, 1) := by decide +kernel
theorem dL_law_849 : decode cL_law 849 = .ok (.ireturn, 1) := by decide +kernel
theorem dL_law_850 : decode cL_law 850 = .ok (.aload_n 1, 1) := by decide +kernel
theorem dL_law_851 : decode cL_law 851 = .ok (.invokevirtual 116, 3) := by decide +kernel
theorem dL_law_854 : decode cL_law 854 = .ok (.aload_n 2, 1) := by decide +kernel
theorem dL_law_855 : decode cL_law 855 = .ok (.invokevirtual 119, 3) := by decide +kernel
theorem dL_law_858 : decode cL_law 858 = .ok (.if_icmp .eq 90, 3) := by decide +kernel
theorem dL_law_861 : decode cL_law 861 = .ok (.iconst 0, 1) := by decide +kernel
theorem dL_law_862 : decode cL_law 862 = .ok (.ireturn, 1) := by decide +kernel
theorem dL_law_863 : decode cL_law 863 = .ok (.aload_n 1, 1) := by decide +kernel
theorem dL_law_864 : decode cL_law 864 = .ok (.invokevirtual 120, 3) := by decide +kernel
theorem dL_law_867 : decode cL_law 867 = .ok (.aload_n 2, 1) := by decide +kernel
theorem dL_law_868 : decode cL_law 868 = .ok (.invokevirtual 123, 3) := by decide +kernel
theorem dL_law_871 : decode cL_law 871 = .ok (.if_icmp .eq 77, 3) := by decide +kernel
theorem dL_law_874 : decode cL_law 874 = .ok (.iconst 0, 1) := by decide +kernel
theorem dL_law_875 : decode cL_law 875 = .ok (.ireturn, 1) := by decide +kernel
theorem dL_law_876 : decode cL_law 876 = .ok (.aload_n 1, 1) := by decide +kernel
theorem dL_law_877 : decode cL_law 877 = .ok (.invokevirtual 124, 3) := by decide +kernel
theorem dL_law_880 : decode cL_law 880 = .ok (.aload_n 2, 1) := by decide +kernel
theorem dL_law_881 : decode cL_law 881 = .ok (.invokevirtual 127, 3) := by decide +kernel
theorem dL_law_884 : decode cL_law 884 = .ok (.if_icmp .eq 64, 3) := by decide +kernel
theorem dL_law_887 : decode cL_law 887 = .ok (.iconst 0, 1) := by decide +kernel
theorem dL_law_888 : decode cL_law 888 = .ok (.ireturn, 1) := by decide +kernel
theorem dL_law_889 : decode cL_law 889 = .ok (.aload_n 1, 1) := by decide +kernel
theorem dL_law_890 : decode cL_law 890 = .ok (.invokevirtual 128, 3) := by decide +kernel
theorem dL_law_893 : decode cL_law 893 = .ok (.aload_n 2, 1) := by decide +kernel
theorem dL_law_894 : decode cL_law 894 = .ok (.invokevirtual 131, 3) := by decide +kernel
theorem dL_law_897 : decode cL_law 897 = .ok (.if_icmp .eq 51, 3) := by decide +kernel
theorem dL_law_900 : decode cL_law 900 = .ok (.iconst 0, 1) := by decide +kernel
theorem dL_law_901 : decode cL_law 901 = .ok (.ireturn, 1) := by decide +kernel
theorem dL_law_902 : decode cL_law 902 = .ok (.aload_n 1, 1) := by decide +kernel
theorem dL_law_903 : decode cL_law 903 = .ok (.aload_n 0, 1) := by decide +kernel
theorem dL_law_904 : decode cL_law 904 = .ok (.iload_n 3, 1) := by decide +kernel
theorem dL_law_905 : decode cL_law 905 = .ok (.iconst 1, 1) := by decide +kernel
theorem dL_law_906 : decode cL_law 906 = .ok (.iadd, 1) := by decide +kernel
theorem dL_law_907 : decode cL_law 907 = .ok (.iaload, 1) := by decide +kernel
theorem dL_law_908 : decode cL_law 908 = .ok (.invokevirtual 132, 3) := by decide +kernel
theorem dL_law_911 : decode cL_law 911 = .ok (.aload_n 2, 1) := by decide +kernel
theorem dL_law_912 : decode cL_law 912 = .ok (.aload_n 0, 1) := by decide +kernel
theorem dL_law_913 : decode cL_law 913 = .ok (.iload_n 3, 1) := by decide +kernel
theorem dL_law_914 : decode cL_law 914 = .ok (.iconst 1, 1) := by decide +kernel
theorem dL_law_915 : decode cL_law 915 = .ok (.iadd, 1) := by decide +kernel
theorem dL_law_916 : decode cL_law 916 = .ok (.iaload, 1) := by decide +kernel
theorem dL_law_917 : decode cL_law 917 = .ok (.invokevirtual 135, 3) := by decide +kernel
theorem dL_law_920 : decode cL_law 920 = .ok (.if_icmp .eq 28, 3) := by decide +kernel
theorem dL_law_923 : decode cL_law 923 = .ok (.iconst 0, 1) := by decide +kernel
theorem dL_law_924 : decode cL_law 924 = .ok (.ireturn, 1) := by decide +kernel
theorem dL_law_925 : decode cL_law 925 = .ok (.aload_n 1, 1) := by decide +kernel
theorem dL_law_926 : decode cL_law 926 = .ok (.aload_n 0, 1) := by decide +kernel
theorem dL_law_927 : decode cL_law 927 = .ok (.iload_n 3, 1) := by decide +kernel
theorem dL_law_928 : decode cL_law 928 = .ok (.iconst 1, 1) := by decide +kernel
theorem dL_law_929 : decode cL_law 929 = .ok (.iadd, 1) := by decide +kernel
theorem dL_law_930 : decode cL_law 930 = .ok (.iaload, 1) := by decide +kernel
theorem dL_law_931 : decode cL_law 931 = .ok (.invokevirtual 136, 3) := by decide +kernel
theorem dL_law_934 : decode cL_law 934 = .ok (.aload_n 2, 1) := by decide +kernel
theorem dL_law_935 : decode cL_law 935 = .ok (.aload_n 0, 1) := by decide +kernel
theorem dL_law_936 : decode cL_law 936 = .ok (.iload_n 3, 1) := by decide +kernel
theorem dL_law_937 : decode cL_law 937 = .ok (.iconst 1, 1) := by decide +kernel
theorem dL_law_938 : decode cL_law 938 = .ok (.iadd, 1) := by decide +kernel
theorem dL_law_939 : decode cL_law 939 = .ok (.iaload, 1) := by decide +kernel
theorem dL_law_940 : decode cL_law 940 = .ok (.invokevirtual 139, 3) := by decide +kernel
theorem dL_law_943 : decode cL_law 943 = .ok (.if_icmp .eq 5, 3) := by decide +kernel
theorem dL_law_946 : decode cL_law 946 = .ok (.iconst 0, 1) := by decide +kernel
theorem dL_law_947 : decode cL_law 947 = .ok (.ireturn, 1) := by decide +kernel
theorem dL_law_948 : decode cL_law 948 = .ok (.iinc 3 4, 3) := by decide +kernel
theorem dL_law_951 : decode cL_law 951 = .ok (.goto (-933), 3) := by decide +kernel
theorem dL_law_954 : decode cL_law 954 = .ok (.iconst 1, 1) := by decide +kernel
theorem dL_law_955 : decode cL_law 955 = .ok (.ireturn, 1) := by decide +kernel
end
section
def big : List Cond := lw_tbl.filter goodWord
theorem big_good {w : Cond} (h : w ∈ big) : goodWord w = true := (List.mem_filter.mp h).2
theorem big_t {w : Cond} (i : Nat) (h : tables_1[i]? = some w) (g : goodWord w = true) : w ∈ big := List.mem_filter.mpr ⟨List.mem_append_right _ (List.mem_of_getElem? h), g⟩
theorem big_s {w : Cond} (i : Nat) (h : (k2_sels lw_privs)[i]? = some w) (g : goodWord w = true) : w ∈ big := List.mem_filter.mpr ⟨List.mem_append_left _ (List.mem_of_getElem? h), g⟩
theorem wN_L : Cond.initialized RL ∈ big := big_t 0 (by decide +kernel) (by decide +kernel)
theorem wN_X7 : Cond.initialized RX7 ∈ big := big_t 1 (by decide +kernel) (by decide +kernel)
theorem wN_X6 : Cond.initialized RX6 ∈ big := big_t 2 (by decide +kernel) (by decide +kernel)
theorem wN_X5 : Cond.initialized RX5 ∈ big := big_t 3 (by decide +kernel) (by decide +kernel)
theorem wN_X0 : Cond.initialized RX0 ∈ big := big_t 4 (by decide +kernel) (by decide +kernel)
theorem wN_X3 : Cond.initialized RX3 ∈ big := big_t 5 (by decide +kernel) (by decide +kernel)
theorem wN_X4 : Cond.initialized RX4 ∈ big := big_t 6 (by decide +kernel) (by decide +kernel)
theorem wN_X1 : Cond.initialized RX1 ∈ big := big_t 7 (by decide +kernel) (by decide +kernel)
theorem wN_X2 : Cond.initialized RX2 ∈ big := big_t 8 (by decide +kernel) (by decide +kernel)
theorem wN_X8 : Cond.initialized RX8 ∈ big := big_t 9 (by decide +kernel) (by decide +kernel)
theorem wN_System : Cond.initialized "java/lang/System" ∈ big := big_t 10 (by decide +kernel) (by decide +kernel)
theorem wN_Math : Cond.initialized "java/lang/Math" ∈ big := big_t 11 (by decide +kernel) (by decide +kernel)
theorem wM_L_9 : Cond.methodLink RL 9 yX7_init ∈ big := big_t 14 (by decide +kernel) (by decide +kernel)
theorem wI_X7_init : Cond.instanceMethod yX7_init ∈ big := big_t 15 (by decide +kernel) (by decide +kernel)
theorem wC_X7_init : Cond.code yX7_init cX7_init 2 none ∈ big := big_t 16 (by decide +kernel) (by decide +kernel)
theorem wI_X6_init : Cond.instanceMethod yX6_init ∈ big := big_t 23 (by decide +kernel) (by decide +kernel)
theorem wC_X6_init : Cond.code yX6_init cX6_init 1 none ∈ big := big_t 24 (by decide +kernel) (by decide +kernel)
theorem wI_X5_init : Cond.instanceMethod yX5_init ∈ big := big_t 38 (by decide +kernel) (by decide +kernel)
theorem wC_X5_init : Cond.code yX5_init cX5_init 1 none ∈ big := big_t 39 (by decide +kernel) (by decide +kernel)
theorem wF_X5_27 : Cond.fieldLink RX5 27 RX5 "number" "I" ∈ big := big_t 41 (by decide +kernel) (by decide +kernel)
theorem wF_X5_31 : Cond.fieldLink RX5 31 RX5 "manyGone" "I" ∈ big := big_t 43 (by decide +kernel) (by decide +kernel)
theorem wF_X5_9 : Cond.fieldLink RX5 9 RX5 "length" "[I" ∈ big := big_t 45 (by decide +kernel) (by decide +kernel)
theorem wF_X5_15 : Cond.fieldLink RX5 15 RX5 "leftAt" "[I" ∈ big := big_t 47 (by decide +kernel) (by decide +kernel)
theorem wF_X5_18 : Cond.fieldLink RX5 18 RX5 "timesPulled" "[I" ∈ big := big_t 49 (by decide +kernel) (by decide +kernel)
theorem wF_X5_21 : Cond.fieldLink RX5 21 RX5 "inRow" "[I" ∈ big := big_t 51 (by decide +kernel) (by decide +kernel)
theorem wF_X5_24 : Cond.fieldLink RX5 24 RX5 "rows" "[I" ∈ big := big_t 52 (by decide +kernel) (by decide +kernel)
theorem wI_X0_init : Cond.instanceMethod yX0_init ∈ big := big_t 72 (by decide +kernel) (by decide +kernel)
theorem wC_X0_init : Cond.code yX0_init cX0_init 1 none ∈ big := big_t 73 (by decide +kernel) (by decide +kernel)
theorem wF_X0_18 : Cond.fieldLink RX0 18 RX0 "number" "I" ∈ big := big_t 75 (by decide +kernel) (by decide +kernel)
theorem wF_X0_9 : Cond.fieldLink RX0 9 RX0 "begins" "[I" ∈ big := big_t 77 (by decide +kernel) (by decide +kernel)
theorem wF_X0_15 : Cond.fieldLink RX0 15 RX0 "ends" "[I" ∈ big := big_t 78 (by decide +kernel) (by decide +kernel)
theorem wI_X3_init : Cond.instanceMethod yX3_init ∈ big := big_t 89 (by decide +kernel) (by decide +kernel)
theorem wC_X3_init : Cond.code yX3_init cX3_init 1 none ∈ big := big_t 90 (by decide +kernel) (by decide +kernel)
theorem wF_X3_21 : Cond.fieldLink RX3 21 RX3 "waiting" "I" ∈ big := big_t 92 (by decide +kernel) (by decide +kernel)
theorem wF_X3_9 : Cond.fieldLink RX3 9 RX3 "due" "[I" ∈ big := big_t 94 (by decide +kernel) (by decide +kernel)
theorem wF_X3_15 : Cond.fieldLink RX3 15 RX3 "size" "[I" ∈ big := big_t 96 (by decide +kernel) (by decide +kernel)
theorem wF_X3_18 : Cond.fieldLink RX3 18 RX3 "lists" "[I" ∈ big := big_t 97 (by decide +kernel) (by decide +kernel)
theorem wF_X6_53 : Cond.fieldLink RX6 53 RX6 "minute" "I" ∈ big := big_t 107 (by decide +kernel) (by decide +kernel)
theorem wF_X6_57 : Cond.fieldLink RX6 57 RX6 "couplings" "I" ∈ big := big_t 109 (by decide +kernel) (by decide +kernel)
theorem wF_X6_60 : Cond.fieldLink RX6 60 RX6 "movesMade" "I" ∈ big := big_t 110 (by decide +kernel) (by decide +kernel)
theorem wF_X6_63 : Cond.fieldLink RX6 63 RX6 "waited" "I" ∈ big := big_t 111 (by decide +kernel) (by decide +kernel)
theorem wF_X6_66 : Cond.fieldLink RX6 66 RX6 "fines" "I" ∈ big := big_t 112 (by decide +kernel) (by decide +kernel)
theorem wF_X6_69 : Cond.fieldLink RX6 69 RX6 "trainsLeft" "I" ∈ big := big_t 113 (by decide +kernel) (by decide +kernel)
theorem wF_X6_18 : Cond.fieldLink RX6 18 RX6 "settings" "[I" ∈ big := big_t 114 (by decide +kernel) (by decide +kernel)
theorem wF_X6_78 : Cond.fieldLink RX6 78 RX6 "tracks" "I" ∈ big := big_t 115 (by decide +kernel) (by decide +kernel)
theorem wF_X6_23 : Cond.fieldLink RX6 23 RX6 "trackLength" "[I" ∈ big := big_t 117 (by decide +kernel) (by decide +kernel)
theorem wF_X6_26 : Cond.fieldLink RX6 26 RX6 "cameOut" "[I" ∈ big := big_t 118 (by decide +kernel) (by decide +kernel)
theorem wF_X6_29 : Cond.fieldLink RX6 29 RX6 "pushedIn" "[I" ∈ big := big_t 119 (by decide +kernel) (by decide +kernel)
theorem wF_X6_35 : Cond.fieldLink RX6 35 RX6 "wagons" "LPickupYard$Wagons;" ∈ big := big_t 120 (by decide +kernel) (by decide +kernel)
theorem wF_X6_42 : Cond.fieldLink RX6 42 RX6 "blocks" "LPickupYard$Blocks;" ∈ big := big_t 123 (by decide +kernel) (by decide +kernel)
theorem wF_X6_49 : Cond.fieldLink RX6 49 RX6 "trains" "LPickupYard$Trains;" ∈ big := big_t 125 (by decide +kernel) (by decide +kernel)
theorem wI_X4_init : Cond.instanceMethod yX4_init ∈ big := big_t 160 (by decide +kernel) (by decide +kernel)
theorem wC_X4_init : Cond.code yX4_init cX4_init 1 none ∈ big := big_t 161 (by decide +kernel) (by decide +kernel)
theorem wF_X4_12 : Cond.fieldLink RX4 12 RX4 "copy" "LPickupYard$Yard;" ∈ big := big_t 165 (by decide +kernel) (by decide +kernel)
theorem wM_X7_25 : Cond.methodLink RX7 25 yX1_init ∈ big := big_t 172 (by decide +kernel) (by decide +kernel)
theorem wI_X1_init : Cond.instanceMethod yX1_init ∈ big := big_t 173 (by decide +kernel) (by decide +kernel)
theorem wC_X1_init : Cond.code yX1_init cX1_init 2 none ∈ big := big_t 174 (by decide +kernel) (by decide +kernel)
theorem wF_X1_18 : Cond.fieldLink RX1 18 RX1 "number" "I" ∈ big := big_t 179 (by decide +kernel) (by decide +kernel)
theorem wF_X1_11 : Cond.fieldLink RX1 11 RX1 "states" "[LPickupYard$Yard;" ∈ big := big_t 181 (by decide +kernel) (by decide +kernel)
theorem wI_X2_init : Cond.instanceMethod yX2_init ∈ big := big_t 190 (by decide +kernel) (by decide +kernel)
theorem wC_X2_init : Cond.code yX2_init cX2_init 1 none ∈ big := big_t 191 (by decide +kernel) (by decide +kernel)
theorem wF_X2_19 : Cond.fieldLink RX2 19 RX2 "length" "I" ∈ big := big_t 193 (by decide +kernel) (by decide +kernel)
theorem wF_X2_9 : Cond.fieldLink RX2 9 RX2 "text" "[C" ∈ big := big_t 195 (by decide +kernel) (by decide +kernel)
theorem wF_X7_12 : Cond.fieldLink RX7 12 RX7 "yard" "LPickupYard$Yard;" ∈ big := big_t 203 (by decide +kernel) (by decide +kernel)
theorem wF_X7_19 : Cond.fieldLink RX7 19 RX7 "trial" "LPickupYard$Trial;" ∈ big := big_t 204 (by decide +kernel) (by decide +kernel)
theorem wF_X7_26 : Cond.fieldLink RX7 26 RX7 "history" "LPickupYard$History;" ∈ big := big_t 205 (by decide +kernel) (by decide +kernel)
theorem wF_X7_30 : Cond.fieldLink RX7 30 RX7 "slots" "[LPickupYard$Yard;" ∈ big := big_t 206 (by decide +kernel) (by decide +kernel)
theorem wF_X7_34 : Cond.fieldLink RX7 34 RX7 "saved" "[Z" ∈ big := big_t 207 (by decide +kernel) (by decide +kernel)
theorem wF_X7_41 : Cond.fieldLink RX7 41 RX7 "pad" "LPickupYard$Pad;" ∈ big := big_t 208 (by decide +kernel) (by decide +kernel)
theorem wF_X7_45 : Cond.fieldLink RX7 45 RX7 "list" "[I" ∈ big := big_t 209 (by decide +kernel) (by decide +kernel)
theorem wM_L_13 : Cond.methodLink RL 13 yX7_set ∈ big := big_t 225 (by decide +kernel) (by decide +kernel)
theorem wI_X7_set : Cond.instanceMethod yX7_set ∈ big := big_t 226 (by decide +kernel) (by decide +kernel)
theorem wS_X7_set : Cond.selects RX7 yX7_set yX7_set ∈ big := big_t 227 (by decide +kernel) (by decide +kernel)
theorem wC_X7_set : Cond.code yX7_set cX7_set 3 (some .int) ∈ big := big_t 228 (by decide +kernel) (by decide +kernel)
theorem wM_X7_49 : Cond.methodLink RX7 49 yX1_note ∈ big := big_t 229 (by decide +kernel) (by decide +kernel)
theorem wI_X1_note : Cond.instanceMethod yX1_note ∈ big := big_t 230 (by decide +kernel) (by decide +kernel)
theorem wS_X1_note : Cond.selects RX1 yX1_note yX1_note ∈ big := big_t 231 (by decide +kernel) (by decide +kernel)
theorem wC_X1_note : Cond.code yX1_note cX1_note 2 none ∈ big := big_t 232 (by decide +kernel) (by decide +kernel)
theorem wM_X1_22 : Cond.methodLink RX1 22 yX6_copyFrom ∈ big := big_t 233 (by decide +kernel) (by decide +kernel)
theorem wI_X6_copyFrom : Cond.instanceMethod yX6_copyFrom ∈ big := big_t 234 (by decide +kernel) (by decide +kernel)
theorem wS_X6_copyFrom : Cond.selects RX6 yX6_copyFrom yX6_copyFrom ∈ big := big_t 235 (by decide +kernel) (by decide +kernel)
theorem wC_X6_copyFrom : Cond.code yX6_copyFrom cX6_copyFrom 2 none ∈ big := big_t 236 (by decide +kernel) (by decide +kernel)
theorem wM_X6_72 : Cond.methodLink RX6 72 arraycopyName ∈ big := big_t 237 (by decide +kernel) (by decide +kernel)
theorem wT_arraycopyName : Cond.static arraycopyName ∈ big := big_t 238 (by decide +kernel) (by decide +kernel)
theorem wNat_copy : Cond.native arraycopyName ∈ big := big_t 239 (by decide +kernel) (by decide +kernel)
theorem wM_X6_81 : Cond.methodLink RX6 81 yX5_copyFrom ∈ big := big_t 240 (by decide +kernel) (by decide +kernel)
theorem wI_X5_copyFrom : Cond.instanceMethod yX5_copyFrom ∈ big := big_t 241 (by decide +kernel) (by decide +kernel)
theorem wS_X5_copyFrom : Cond.selects RX5 yX5_copyFrom yX5_copyFrom ∈ big := big_t 242 (by decide +kernel) (by decide +kernel)
theorem wC_X5_copyFrom : Cond.code yX5_copyFrom cX5_copyFrom 2 none ∈ big := big_t 243 (by decide +kernel) (by decide +kernel)
theorem wM_X5_34 : Cond.methodLink RX5 34 arraycopyName ∈ big := big_t 244 (by decide +kernel) (by decide +kernel)
theorem wM_X6_85 : Cond.methodLink RX6 85 yX0_copyFrom ∈ big := big_t 245 (by decide +kernel) (by decide +kernel)
theorem wI_X0_copyFrom : Cond.instanceMethod yX0_copyFrom ∈ big := big_t 246 (by decide +kernel) (by decide +kernel)
theorem wS_X0_copyFrom : Cond.selects RX0 yX0_copyFrom yX0_copyFrom ∈ big := big_t 247 (by decide +kernel) (by decide +kernel)
theorem wC_X0_copyFrom : Cond.code yX0_copyFrom cX0_copyFrom 2 none ∈ big := big_t 248 (by decide +kernel) (by decide +kernel)
theorem wM_X0_22 : Cond.methodLink RX0 22 arraycopyName ∈ big := big_t 249 (by decide +kernel) (by decide +kernel)
theorem wM_X6_88 : Cond.methodLink RX6 88 yX3_copyFrom ∈ big := big_t 250 (by decide +kernel) (by decide +kernel)
theorem wI_X3_copyFrom : Cond.instanceMethod yX3_copyFrom ∈ big := big_t 251 (by decide +kernel) (by decide +kernel)
theorem wS_X3_copyFrom : Cond.selects RX3 yX3_copyFrom yX3_copyFrom ∈ big := big_t 252 (by decide +kernel) (by decide +kernel)
theorem wC_X3_copyFrom : Cond.code yX3_copyFrom cX3_copyFrom 2 none ∈ big := big_t 253 (by decide +kernel) (by decide +kernel)
theorem wM_X3_25 : Cond.methodLink RX3 25 arraycopyName ∈ big := big_t 254 (by decide +kernel) (by decide +kernel)
theorem wM_X7_53 : Cond.methodLink RX7 53 yX6_changeSetting ∈ big := big_t 255 (by decide +kernel) (by decide +kernel)
theorem wI_X6_changeSetting : Cond.instanceMethod yX6_changeSetting ∈ big := big_t 256 (by decide +kernel) (by decide +kernel)
theorem wS_X6_changeSetting : Cond.selects RX6 yX6_changeSetting yX6_changeSetting ∈ big := big_t 257 (by decide +kernel) (by decide +kernel)
theorem wC_X6_changeSetting : Cond.code yX6_changeSetting cX6_changeSetting 4 (some .int) ∈ big := big_t 258 (by decide +kernel) (by decide +kernel)
theorem wM_X7_57 : Cond.methodLink RX7 57 yX1_kept ∈ big := big_t 263 (by decide +kernel) (by decide +kernel)
theorem wI_X1_kept : Cond.instanceMethod yX1_kept ∈ big := big_t 264 (by decide +kernel) (by decide +kernel)
theorem wS_X1_kept : Cond.selects RX1 yX1_kept yX1_kept ∈ big := big_t 265 (by decide +kernel) (by decide +kernel)
theorem wC_X1_kept : Cond.code yX1_kept cX1_kept 2 (some .int) ∈ big := big_t 266 (by decide +kernel) (by decide +kernel)
theorem wM_X1_26 : Cond.methodLink RX1 26 yX1_dropOldest ∈ big := big_t 267 (by decide +kernel) (by decide +kernel)
theorem wI_X1_dropOldest : Cond.instanceMethod yX1_dropOldest ∈ big := big_t 269 (by decide +kernel) (by decide +kernel)
theorem wC_X1_dropOldest : Cond.code yX1_dropOldest cX1_dropOldest 3 none ∈ big := big_t 270 (by decide +kernel) (by decide +kernel)
theorem wM_L_18 : Cond.methodLink RL 18 yX7_track ∈ big := big_t 271 (by decide +kernel) (by decide +kernel)
theorem wI_X7_track : Cond.instanceMethod yX7_track ∈ big := big_t 272 (by decide +kernel) (by decide +kernel)
theorem wS_X7_track : Cond.selects RX7 yX7_track yX7_track ∈ big := big_t 273 (by decide +kernel) (by decide +kernel)
theorem wC_X7_track : Cond.code yX7_track cX7_track 2 (some .int) ∈ big := big_t 274 (by decide +kernel) (by decide +kernel)
theorem wM_X7_61 : Cond.methodLink RX7 61 yX6_addTrack ∈ big := big_t 275 (by decide +kernel) (by decide +kernel)
theorem wI_X6_addTrack : Cond.instanceMethod yX6_addTrack ∈ big := big_t 276 (by decide +kernel) (by decide +kernel)
theorem wS_X6_addTrack : Cond.selects RX6 yX6_addTrack yX6_addTrack ∈ big := big_t 277 (by decide +kernel) (by decide +kernel)
theorem wC_X6_addTrack : Cond.code yX6_addTrack cX6_addTrack 2 (some .int) ∈ big := big_t 278 (by decide +kernel) (by decide +kernel)
theorem wM_L_23 : Cond.methodLink RL 23 yX7_wagon ∈ big := big_t 279 (by decide +kernel) (by decide +kernel)
theorem wI_X7_wagon : Cond.instanceMethod yX7_wagon ∈ big := big_t 280 (by decide +kernel) (by decide +kernel)
theorem wS_X7_wagon : Cond.selects RX7 yX7_wagon yX7_wagon ∈ big := big_t 281 (by decide +kernel) (by decide +kernel)
theorem wC_X7_wagon : Cond.code yX7_wagon cX7_wagon 3 (some .int) ∈ big := big_t 282 (by decide +kernel) (by decide +kernel)
theorem wM_X7_64 : Cond.methodLink RX7 64 yX6_addWagon ∈ big := big_t 283 (by decide +kernel) (by decide +kernel)
theorem wI_X6_addWagon : Cond.instanceMethod yX6_addWagon ∈ big := big_t 284 (by decide +kernel) (by decide +kernel)
theorem wS_X6_addWagon : Cond.selects RX6 yX6_addWagon yX6_addWagon ∈ big := big_t 285 (by decide +kernel) (by decide +kernel)
theorem wC_X6_addWagon : Cond.code yX6_addWagon cX6_addWagon 3 (some .int) ∈ big := big_t 286 (by decide +kernel) (by decide +kernel)
theorem wM_X6_97 : Cond.methodLink RX6 97 yX6_hasTrack ∈ big := big_t 287 (by decide +kernel) (by decide +kernel)
theorem wI_X6_hasTrack : Cond.instanceMethod yX6_hasTrack ∈ big := big_t 288 (by decide +kernel) (by decide +kernel)
theorem wS_X6_hasTrack : Cond.selects RX6 yX6_hasTrack yX6_hasTrack ∈ big := big_t 289 (by decide +kernel) (by decide +kernel)
theorem wC_X6_hasTrack : Cond.code yX6_hasTrack cX6_hasTrack 2 (some .boolean) ∈ big := big_t 290 (by decide +kernel) (by decide +kernel)
theorem wM_X6_104 : Cond.methodLink RX6 104 yX5_lengthOfRow ∈ big := big_t 291 (by decide +kernel) (by decide +kernel)
theorem wI_X5_lengthOfRow : Cond.instanceMethod yX5_lengthOfRow ∈ big := big_t 292 (by decide +kernel) (by decide +kernel)
theorem wS_X5_lengthOfRow : Cond.selects RX5 yX5_lengthOfRow yX5_lengthOfRow ∈ big := big_t 293 (by decide +kernel) (by decide +kernel)
theorem wC_X5_lengthOfRow : Cond.code yX5_lengthOfRow cX5_lengthOfRow 4 (some .int) ∈ big := big_t 294 (by decide +kernel) (by decide +kernel)
theorem wM_X6_108 : Cond.methodLink RX6 108 yX5_add ∈ big := big_t 295 (by decide +kernel) (by decide +kernel)
theorem wI_X5_add : Cond.instanceMethod yX5_add ∈ big := big_t 296 (by decide +kernel) (by decide +kernel)
theorem wS_X5_add : Cond.selects RX5 yX5_add yX5_add ∈ big := big_t 297 (by decide +kernel) (by decide +kernel)
theorem wC_X5_add : Cond.code yX5_add cX5_add 3 (some .int) ∈ big := big_t 298 (by decide +kernel) (by decide +kernel)
theorem wM_L_27 : Cond.methodLink RL 27 yX7_block ∈ big := big_t 299 (by decide +kernel) (by decide +kernel)
theorem wI_X7_block : Cond.instanceMethod yX7_block ∈ big := big_t 300 (by decide +kernel) (by decide +kernel)
theorem wS_X7_block : Cond.selects RX7 yX7_block yX7_block ∈ big := big_t 301 (by decide +kernel) (by decide +kernel)
theorem wC_X7_block : Cond.code yX7_block cX7_block 3 (some .int) ∈ big := big_t 302 (by decide +kernel) (by decide +kernel)
theorem wM_X7_67 : Cond.methodLink RX7 67 yX6_addBlock ∈ big := big_t 303 (by decide +kernel) (by decide +kernel)
theorem wI_X6_addBlock : Cond.instanceMethod yX6_addBlock ∈ big := big_t 304 (by decide +kernel) (by decide +kernel)
theorem wS_X6_addBlock : Cond.selects RX6 yX6_addBlock yX6_addBlock ∈ big := big_t 305 (by decide +kernel) (by decide +kernel)
theorem wC_X6_addBlock : Cond.code yX6_addBlock cX6_addBlock 3 (some .int) ∈ big := big_t 306 (by decide +kernel) (by decide +kernel)
theorem wM_X6_113 : Cond.methodLink RX6 113 yX0_add ∈ big := big_t 307 (by decide +kernel) (by decide +kernel)
theorem wI_X0_add : Cond.instanceMethod yX0_add ∈ big := big_t 308 (by decide +kernel) (by decide +kernel)
theorem wS_X0_add : Cond.selects RX0 yX0_add yX0_add ∈ big := big_t 309 (by decide +kernel) (by decide +kernel)
theorem wC_X0_add : Cond.code yX0_add cX0_add 3 (some .int) ∈ big := big_t 310 (by decide +kernel) (by decide +kernel)
theorem wM_L_31 : Cond.methodLink RL 31 yX7_pull ∈ big := big_t 311 (by decide +kernel) (by decide +kernel)
theorem wI_X7_pull : Cond.instanceMethod yX7_pull ∈ big := big_t 312 (by decide +kernel) (by decide +kernel)
theorem wS_X7_pull : Cond.selects RX7 yX7_pull yX7_pull ∈ big := big_t 313 (by decide +kernel) (by decide +kernel)
theorem wC_X7_pull : Cond.code yX7_pull cX7_pull 3 (some .int) ∈ big := big_t 314 (by decide +kernel) (by decide +kernel)
theorem wM_X7_70 : Cond.methodLink RX7 70 yX6_takeOut ∈ big := big_t 315 (by decide +kernel) (by decide +kernel)
theorem wI_X6_takeOut : Cond.instanceMethod yX6_takeOut ∈ big := big_t 316 (by decide +kernel) (by decide +kernel)
theorem wS_X6_takeOut : Cond.selects RX6 yX6_takeOut yX6_takeOut ∈ big := big_t 317 (by decide +kernel) (by decide +kernel)
theorem wC_X6_takeOut : Cond.code yX6_takeOut cX6_takeOut 3 (some .int) ∈ big := big_t 318 (by decide +kernel) (by decide +kernel)
theorem wM_X6_114 : Cond.methodLink RX6 114 yX6_canTakeOut ∈ big := big_t 319 (by decide +kernel) (by decide +kernel)
theorem wI_X6_canTakeOut : Cond.instanceMethod yX6_canTakeOut ∈ big := big_t 320 (by decide +kernel) (by decide +kernel)
theorem wS_X6_canTakeOut : Cond.selects RX6 yX6_canTakeOut yX6_canTakeOut ∈ big := big_t 321 (by decide +kernel) (by decide +kernel)
theorem wC_X6_canTakeOut : Cond.code yX6_canTakeOut cX6_canTakeOut 3 (some .boolean) ∈ big := big_t 322 (by decide +kernel) (by decide +kernel)
theorem wM_X6_121 : Cond.methodLink RX6 121 yX5_manyIn ∈ big := big_t 323 (by decide +kernel) (by decide +kernel)
theorem wI_X5_manyIn : Cond.instanceMethod yX5_manyIn ∈ big := big_t 324 (by decide +kernel) (by decide +kernel)
theorem wS_X5_manyIn : Cond.selects RX5 yX5_manyIn yX5_manyIn ∈ big := big_t 325 (by decide +kernel) (by decide +kernel)
theorem wC_X5_manyIn : Cond.code yX5_manyIn cX5_manyIn 2 (some .int) ∈ big := big_t 326 (by decide +kernel) (by decide +kernel)
theorem wM_X6_124 : Cond.methodLink RX6 124 yX5_lengthOfLast ∈ big := big_t 327 (by decide +kernel) (by decide +kernel)
theorem wI_X5_lengthOfLast : Cond.instanceMethod yX5_lengthOfLast ∈ big := big_t 328 (by decide +kernel) (by decide +kernel)
theorem wS_X5_lengthOfLast : Cond.selects RX5 yX5_lengthOfLast yX5_lengthOfLast ∈ big := big_t 329 (by decide +kernel) (by decide +kernel)
theorem wC_X5_lengthOfLast : Cond.code yX5_lengthOfLast cX5_lengthOfLast 6 (some .int) ∈ big := big_t 330 (by decide +kernel) (by decide +kernel)
theorem wM_X6_118 : Cond.methodLink RX6 118 yX6_drawOut ∈ big := big_t 331 (by decide +kernel) (by decide +kernel)
theorem wI_X6_drawOut : Cond.instanceMethod yX6_drawOut ∈ big := big_t 332 (by decide +kernel) (by decide +kernel)
theorem wS_X6_drawOut : Cond.selects RX6 yX6_drawOut yX6_drawOut ∈ big := big_t 333 (by decide +kernel) (by decide +kernel)
theorem wC_X6_drawOut : Cond.code yX6_drawOut cX6_drawOut 3 (some .int) ∈ big := big_t 334 (by decide +kernel) (by decide +kernel)
theorem wM_X6_127 : Cond.methodLink RX6 127 yX5_shift ∈ big := big_t 335 (by decide +kernel) (by decide +kernel)
theorem wI_X5_shift : Cond.instanceMethod yX5_shift ∈ big := big_t 336 (by decide +kernel) (by decide +kernel)
theorem wS_X5_shift : Cond.selects RX5 yX5_shift yX5_shift ∈ big := big_t 337 (by decide +kernel) (by decide +kernel)
theorem wC_X5_shift : Cond.code yX5_shift cX5_shift 6 none ∈ big := big_t 338 (by decide +kernel) (by decide +kernel)
theorem wM_X5_44 : Cond.methodLink RX5 44 Lib.Math.min.name ∈ big := big_t 339 (by decide +kernel) (by decide +kernel)
theorem wT_min : Cond.static Lib.Math.min.name ∈ big := big_t 340 (by decide +kernel) (by decide +kernel)
theorem wC_min : Cond.code Lib.Math.min.name Lib.Math.min.code 2 (some .int) ∈ big := big_t 341 (by decide +kernel) (by decide +kernel)
theorem wM_X6_131 : Cond.methodLink RX6 131 yX5_notePulled ∈ big := big_t 342 (by decide +kernel) (by decide +kernel)
theorem wI_X5_notePulled : Cond.instanceMethod yX5_notePulled ∈ big := big_t 343 (by decide +kernel) (by decide +kernel)
theorem wS_X5_notePulled : Cond.selects RX5 yX5_notePulled yX5_notePulled ∈ big := big_t 344 (by decide +kernel) (by decide +kernel)
theorem wC_X5_notePulled : Cond.code yX5_notePulled cX5_notePulled 4 none ∈ big := big_t 345 (by decide +kernel) (by decide +kernel)
theorem wM_X6_135 : Cond.methodLink RX6 135 yX6_makeMove ∈ big := big_t 346 (by decide +kernel) (by decide +kernel)
theorem wI_X6_makeMove : Cond.instanceMethod yX6_makeMove ∈ big := big_t 348 (by decide +kernel) (by decide +kernel)
theorem wC_X6_makeMove : Cond.code yX6_makeMove cX6_makeMove 5 none ∈ big := big_t 349 (by decide +kernel) (by decide +kernel)
theorem wM_X6_149 : Cond.methodLink RX6 149 yX0_firstFree ∈ big := big_t 350 (by decide +kernel) (by decide +kernel)
theorem wI_X0_firstFree : Cond.instanceMethod yX0_firstFree ∈ big := big_t 351 (by decide +kernel) (by decide +kernel)
theorem wS_X0_firstFree : Cond.selects RX0 yX0_firstFree yX0_firstFree ∈ big := big_t 352 (by decide +kernel) (by decide +kernel)
theorem wC_X0_firstFree : Cond.code yX0_firstFree cX0_firstFree 6 (some .int) ∈ big := big_t 353 (by decide +kernel) (by decide +kernel)
theorem wM_X6_152 : Cond.methodLink RX6 152 yX6_comeTo ∈ big := big_t 354 (by decide +kernel) (by decide +kernel)
theorem wI_X6_comeTo : Cond.instanceMethod yX6_comeTo ∈ big := big_t 356 (by decide +kernel) (by decide +kernel)
theorem wC_X6_comeTo : Cond.code yX6_comeTo cX6_comeTo 2 none ∈ big := big_t 357 (by decide +kernel) (by decide +kernel)
theorem wM_X6_155 : Cond.methodLink RX6 155 yX0_dropEnded ∈ big := big_t 358 (by decide +kernel) (by decide +kernel)
theorem wI_X0_dropEnded : Cond.instanceMethod yX0_dropEnded ∈ big := big_t 359 (by decide +kernel) (by decide +kernel)
theorem wS_X0_dropEnded : Cond.selects RX0 yX0_dropEnded yX0_dropEnded ∈ big := big_t 360 (by decide +kernel) (by decide +kernel)
theorem wC_X0_dropEnded : Cond.code yX0_dropEnded cX0_dropEnded 4 none ∈ big := big_t 361 (by decide +kernel) (by decide +kernel)
theorem wM_L_35 : Cond.methodLink RL 35 yX7_push ∈ big := big_t 362 (by decide +kernel) (by decide +kernel)
theorem wI_X7_push : Cond.instanceMethod yX7_push ∈ big := big_t 363 (by decide +kernel) (by decide +kernel)
theorem wS_X7_push : Cond.selects RX7 yX7_push yX7_push ∈ big := big_t 364 (by decide +kernel) (by decide +kernel)
theorem wC_X7_push : Cond.code yX7_push cX7_push 3 (some .int) ∈ big := big_t 365 (by decide +kernel) (by decide +kernel)
theorem wM_X7_73 : Cond.methodLink RX7 73 yX6_bringIn ∈ big := big_t 366 (by decide +kernel) (by decide +kernel)
theorem wI_X6_bringIn : Cond.instanceMethod yX6_bringIn ∈ big := big_t 367 (by decide +kernel) (by decide +kernel)
theorem wS_X6_bringIn : Cond.selects RX6 yX6_bringIn yX6_bringIn ∈ big := big_t 368 (by decide +kernel) (by decide +kernel)
theorem wC_X6_bringIn : Cond.code yX6_bringIn cX6_bringIn 4 (some .int) ∈ big := big_t 369 (by decide +kernel) (by decide +kernel)
theorem wM_X6_139 : Cond.methodLink RX6 139 yX6_canBringIn ∈ big := big_t 370 (by decide +kernel) (by decide +kernel)
theorem wI_X6_canBringIn : Cond.instanceMethod yX6_canBringIn ∈ big := big_t 371 (by decide +kernel) (by decide +kernel)
theorem wS_X6_canBringIn : Cond.selects RX6 yX6_canBringIn yX6_canBringIn ∈ big := big_t 372 (by decide +kernel) (by decide +kernel)
theorem wC_X6_canBringIn : Cond.code yX6_canBringIn cX6_canBringIn 3 (some .boolean) ∈ big := big_t 373 (by decide +kernel) (by decide +kernel)
theorem wM_L_39 : Cond.methodLink RL 39 yX7_round ∈ big := big_t 374 (by decide +kernel) (by decide +kernel)
theorem wI_X7_round : Cond.instanceMethod yX7_round ∈ big := big_t 375 (by decide +kernel) (by decide +kernel)
theorem wS_X7_round : Cond.selects RX7 yX7_round yX7_round ∈ big := big_t 376 (by decide +kernel) (by decide +kernel)
theorem wC_X7_round : Cond.code yX7_round cX7_round 1 (some .int) ∈ big := big_t 377 (by decide +kernel) (by decide +kernel)
theorem wM_X7_76 : Cond.methodLink RX7 76 yX6_goRound ∈ big := big_t 378 (by decide +kernel) (by decide +kernel)
theorem wI_X6_goRound : Cond.instanceMethod yX6_goRound ∈ big := big_t 379 (by decide +kernel) (by decide +kernel)
theorem wS_X6_goRound : Cond.selects RX6 yX6_goRound yX6_goRound ∈ big := big_t 380 (by decide +kernel) (by decide +kernel)
theorem wC_X6_goRound : Cond.code yX6_goRound cX6_goRound 1 (some .int) ∈ big := big_t 381 (by decide +kernel) (by decide +kernel)
theorem wM_X6_142 : Cond.methodLink RX6 142 yX6_canGoRound ∈ big := big_t 382 (by decide +kernel) (by decide +kernel)
theorem wI_X6_canGoRound : Cond.instanceMethod yX6_canGoRound ∈ big := big_t 383 (by decide +kernel) (by decide +kernel)
theorem wS_X6_canGoRound : Cond.selects RX6 yX6_canGoRound yX6_canGoRound ∈ big := big_t 384 (by decide +kernel) (by decide +kernel)
theorem wC_X6_canGoRound : Cond.code yX6_canGoRound cX6_canGoRound 1 (some .boolean) ∈ big := big_t 385 (by decide +kernel) (by decide +kernel)
theorem wM_X6_146 : Cond.methodLink RX6 146 yX5_turnEngine ∈ big := big_t 386 (by decide +kernel) (by decide +kernel)
theorem wI_X5_turnEngine : Cond.instanceMethod yX5_turnEngine ∈ big := big_t 387 (by decide +kernel) (by decide +kernel)
theorem wS_X5_turnEngine : Cond.selects RX5 yX5_turnEngine yX5_turnEngine ∈ big := big_t 388 (by decide +kernel) (by decide +kernel)
theorem wC_X5_turnEngine : Cond.code yX5_turnEngine cX5_turnEngine 5 none ∈ big := big_t 389 (by decide +kernel) (by decide +kernel)
theorem wM_L_44 : Cond.methodLink RL 44 yX7_pass ∈ big := big_t 390 (by decide +kernel) (by decide +kernel)
theorem wI_X7_pass : Cond.instanceMethod yX7_pass ∈ big := big_t 391 (by decide +kernel) (by decide +kernel)
theorem wS_X7_pass : Cond.selects RX7 yX7_pass yX7_pass ∈ big := big_t 392 (by decide +kernel) (by decide +kernel)
theorem wC_X7_pass : Cond.code yX7_pass cX7_pass 2 (some .int) ∈ big := big_t 393 (by decide +kernel) (by decide +kernel)
theorem wM_X7_80 : Cond.methodLink RX7 80 yX6_letPass ∈ big := big_t 394 (by decide +kernel) (by decide +kernel)
theorem wI_X6_letPass : Cond.instanceMethod yX6_letPass ∈ big := big_t 395 (by decide +kernel) (by decide +kernel)
theorem wS_X6_letPass : Cond.selects RX6 yX6_letPass yX6_letPass ∈ big := big_t 396 (by decide +kernel) (by decide +kernel)
theorem wC_X6_letPass : Cond.code yX6_letPass cX6_letPass 2 (some .int) ∈ big := big_t 397 (by decide +kernel) (by decide +kernel)
theorem wM_L_50 : Cond.methodLink RL 50 yX7_train ∈ big := big_t 398 (by decide +kernel) (by decide +kernel)
theorem wI_X7_train : Cond.instanceMethod yX7_train ∈ big := big_t 399 (by decide +kernel) (by decide +kernel)
theorem wS_X7_train : Cond.selects RX7 yX7_train yX7_train ∈ big := big_t 400 (by decide +kernel) (by decide +kernel)
theorem wC_X7_train : Cond.code yX7_train cX7_train 5 (some .int) ∈ big := big_t 401 (by decide +kernel) (by decide +kernel)
theorem wM_X7_83 : Cond.methodLink RX7 83 yX7_readList ∈ big := big_t 402 (by decide +kernel) (by decide +kernel)
theorem wI_X7_readList : Cond.instanceMethod yX7_readList ∈ big := big_t 404 (by decide +kernel) (by decide +kernel)
theorem wC_X7_readList : Cond.code yX7_readList cX7_readList 8 (some .int) ∈ big := big_t 405 (by decide +kernel) (by decide +kernel)
theorem wK_X7_91 : Cond.constantLong RX7 91 31 ∈ big := big_t 406 (by decide +kernel) (by decide +kernel)
theorem wM_X7_87 : Cond.methodLink RX7 87 yX6_addTrain ∈ big := big_t 407 (by decide +kernel) (by decide +kernel)
theorem wI_X6_addTrain : Cond.instanceMethod yX6_addTrain ∈ big := big_t 408 (by decide +kernel) (by decide +kernel)
theorem wS_X6_addTrain : Cond.selects RX6 yX6_addTrain yX6_addTrain ∈ big := big_t 409 (by decide +kernel) (by decide +kernel)
theorem wC_X6_addTrain : Cond.code yX6_addTrain cX6_addTrain 5 (some .int) ∈ big := big_t 410 (by decide +kernel) (by decide +kernel)
theorem wM_X6_158 : Cond.methodLink RX6 158 yX6_areThere ∈ big := big_t 411 (by decide +kernel) (by decide +kernel)
theorem wI_X6_areThere : Cond.instanceMethod yX6_areThere ∈ big := big_t 413 (by decide +kernel) (by decide +kernel)
theorem wC_X6_areThere : Cond.code yX6_areThere cX6_areThere 5 (some .boolean) ∈ big := big_t 414 (by decide +kernel) (by decide +kernel)
theorem wM_X6_171 : Cond.methodLink RX6 171 yX5_rowOf ∈ big := big_t 415 (by decide +kernel) (by decide +kernel)
theorem wI_X5_rowOf : Cond.instanceMethod yX5_rowOf ∈ big := big_t 416 (by decide +kernel) (by decide +kernel)
theorem wS_X5_rowOf : Cond.selects RX5 yX5_rowOf yX5_rowOf ∈ big := big_t 417 (by decide +kernel) (by decide +kernel)
theorem wC_X5_rowOf : Cond.code yX5_rowOf cX5_rowOf 3 (some .int) ∈ big := big_t 418 (by decide +kernel) (by decide +kernel)
theorem wM_X5_40 : Cond.methodLink RX5 40 yX5_placeIn ∈ big := big_t 419 (by decide +kernel) (by decide +kernel)
theorem wI_X5_placeIn : Cond.instanceMethod yX5_placeIn ∈ big := big_t 420 (by decide +kernel) (by decide +kernel)
theorem wS_X5_placeIn : Cond.selects RX5 yX5_placeIn yX5_placeIn ∈ big := big_t 421 (by decide +kernel) (by decide +kernel)
theorem wC_X5_placeIn : Cond.code yX5_placeIn cX5_placeIn 5 (some .int) ∈ big := big_t 422 (by decide +kernel) (by decide +kernel)
theorem wM_X6_165 : Cond.methodLink RX6 165 yX3_trainOf ∈ big := big_t 423 (by decide +kernel) (by decide +kernel)
theorem wI_X3_trainOf : Cond.instanceMethod yX3_trainOf ∈ big := big_t 424 (by decide +kernel) (by decide +kernel)
theorem wS_X3_trainOf : Cond.selects RX3 yX3_trainOf yX3_trainOf ∈ big := big_t 425 (by decide +kernel) (by decide +kernel)
theorem wC_X3_trainOf : Cond.code yX3_trainOf cX3_trainOf 4 (some .int) ∈ big := big_t 426 (by decide +kernel) (by decide +kernel)
theorem wM_X6_168 : Cond.methodLink RX6 168 yX3_add ∈ big := big_t 427 (by decide +kernel) (by decide +kernel)
theorem wI_X3_add : Cond.instanceMethod yX3_add ∈ big := big_t 428 (by decide +kernel) (by decide +kernel)
theorem wS_X3_add : Cond.selects RX3 yX3_add yX3_add ∈ big := big_t 429 (by decide +kernel) (by decide +kernel)
theorem wC_X3_add : Cond.code yX3_add cX3_add 4 (some .int) ∈ big := big_t 430 (by decide +kernel) (by decide +kernel)
theorem wM_L_55 : Cond.methodLink RL 55 yX7_strike ∈ big := big_t 431 (by decide +kernel) (by decide +kernel)
theorem wI_X7_strike : Cond.instanceMethod yX7_strike ∈ big := big_t 432 (by decide +kernel) (by decide +kernel)
theorem wS_X7_strike : Cond.selects RX7 yX7_strike yX7_strike ∈ big := big_t 433 (by decide +kernel) (by decide +kernel)
theorem wC_X7_strike : Cond.code yX7_strike cX7_strike 2 (some .int) ∈ big := big_t 434 (by decide +kernel) (by decide +kernel)
theorem wM_X7_93 : Cond.methodLink RX7 93 yX6_strikeOut ∈ big := big_t 435 (by decide +kernel) (by decide +kernel)
theorem wI_X6_strikeOut : Cond.instanceMethod yX6_strikeOut ∈ big := big_t 436 (by decide +kernel) (by decide +kernel)
theorem wS_X6_strikeOut : Cond.selects RX6 yX6_strikeOut yX6_strikeOut ∈ big := big_t 437 (by decide +kernel) (by decide +kernel)
theorem wC_X6_strikeOut : Cond.code yX6_strikeOut cX6_strikeOut 2 (some .int) ∈ big := big_t 438 (by decide +kernel) (by decide +kernel)
theorem wM_X6_174 : Cond.methodLink RX6 174 yX3_has ∈ big := big_t 439 (by decide +kernel) (by decide +kernel)
theorem wI_X3_has : Cond.instanceMethod yX3_has ∈ big := big_t 440 (by decide +kernel) (by decide +kernel)
theorem wS_X3_has : Cond.selects RX3 yX3_has yX3_has ∈ big := big_t 441 (by decide +kernel) (by decide +kernel)
theorem wC_X3_has : Cond.code yX3_has cX3_has 2 (some .boolean) ∈ big := big_t 442 (by decide +kernel) (by decide +kernel)
theorem wM_X6_177 : Cond.methodLink RX6 177 yX3_remove ∈ big := big_t 443 (by decide +kernel) (by decide +kernel)
theorem wI_X3_remove : Cond.instanceMethod yX3_remove ∈ big := big_t 444 (by decide +kernel) (by decide +kernel)
theorem wS_X3_remove : Cond.selects RX3 yX3_remove yX3_remove ∈ big := big_t 445 (by decide +kernel) (by decide +kernel)
theorem wC_X3_remove : Cond.code yX3_remove cX3_remove 3 none ∈ big := big_t 446 (by decide +kernel) (by decide +kernel)
theorem wM_L_59 : Cond.methodLink RL 59 yX7_leave ∈ big := big_t 447 (by decide +kernel) (by decide +kernel)
theorem wI_X7_leave : Cond.instanceMethod yX7_leave ∈ big := big_t 448 (by decide +kernel) (by decide +kernel)
theorem wS_X7_leave : Cond.selects RX7 yX7_leave yX7_leave ∈ big := big_t 449 (by decide +kernel) (by decide +kernel)
theorem wC_X7_leave : Cond.code yX7_leave cX7_leave 2 (some .int) ∈ big := big_t 450 (by decide +kernel) (by decide +kernel)
theorem wM_X7_96 : Cond.methodLink RX7 96 yX6_letLeave ∈ big := big_t 451 (by decide +kernel) (by decide +kernel)
theorem wI_X6_letLeave : Cond.instanceMethod yX6_letLeave ∈ big := big_t 452 (by decide +kernel) (by decide +kernel)
theorem wS_X6_letLeave : Cond.selects RX6 yX6_letLeave yX6_letLeave ∈ big := big_t 453 (by decide +kernel) (by decide +kernel)
theorem wC_X6_letLeave : Cond.code yX6_letLeave cX6_letLeave 3 (some .int) ∈ big := big_t 454 (by decide +kernel) (by decide +kernel)
theorem wM_X6_180 : Cond.methodLink RX6 180 yX6_couldLeave ∈ big := big_t 455 (by decide +kernel) (by decide +kernel)
theorem wI_X6_couldLeave : Cond.instanceMethod yX6_couldLeave ∈ big := big_t 456 (by decide +kernel) (by decide +kernel)
theorem wS_X6_couldLeave : Cond.selects RX6 yX6_couldLeave yX6_couldLeave ∈ big := big_t 457 (by decide +kernel) (by decide +kernel)
theorem wC_X6_couldLeave : Cond.code yX6_couldLeave cX6_couldLeave 3 (some .boolean) ∈ big := big_t 458 (by decide +kernel) (by decide +kernel)
theorem wM_X6_194 : Cond.methodLink RX6 194 yX3_sizeOf ∈ big := big_t 459 (by decide +kernel) (by decide +kernel)
theorem wI_X3_sizeOf : Cond.instanceMethod yX3_sizeOf ∈ big := big_t 460 (by decide +kernel) (by decide +kernel)
theorem wS_X3_sizeOf : Cond.selects RX3 yX3_sizeOf yX3_sizeOf ∈ big := big_t 461 (by decide +kernel) (by decide +kernel)
theorem wC_X3_sizeOf : Cond.code yX3_sizeOf cX3_sizeOf 2 (some .int) ∈ big := big_t 462 (by decide +kernel) (by decide +kernel)
theorem wM_X3_31 : Cond.methodLink RX3 31 yX3_has ∈ big := big_t 463 (by decide +kernel) (by decide +kernel)
theorem wM_X6_197 : Cond.methodLink RX6 197 yX6_manyAlike ∈ big := big_t 464 (by decide +kernel) (by decide +kernel)
theorem wI_X6_manyAlike : Cond.instanceMethod yX6_manyAlike ∈ big := big_t 465 (by decide +kernel) (by decide +kernel)
theorem wS_X6_manyAlike : Cond.selects RX6 yX6_manyAlike yX6_manyAlike ∈ big := big_t 466 (by decide +kernel) (by decide +kernel)
theorem wC_X6_manyAlike : Cond.code yX6_manyAlike cX6_manyAlike 4 (some .int) ∈ big := big_t 467 (by decide +kernel) (by decide +kernel)
theorem wM_X6_200 : Cond.methodLink RX6 200 Lib.Math.min.name ∈ big := big_t 468 (by decide +kernel) (by decide +kernel)
theorem wM_X6_203 : Cond.methodLink RX6 203 yX5_wagonAt ∈ big := big_t 469 (by decide +kernel) (by decide +kernel)
theorem wI_X5_wagonAt : Cond.instanceMethod yX5_wagonAt ∈ big := big_t 470 (by decide +kernel) (by decide +kernel)
theorem wS_X5_wagonAt : Cond.selects RX5 yX5_wagonAt yX5_wagonAt ∈ big := big_t 471 (by decide +kernel) (by decide +kernel)
theorem wC_X5_wagonAt : Cond.code yX5_wagonAt cX5_wagonAt 4 (some .int) ∈ big := big_t 472 (by decide +kernel) (by decide +kernel)
theorem wM_X6_206 : Cond.methodLink RX6 206 yX3_wagonOf ∈ big := big_t 473 (by decide +kernel) (by decide +kernel)
theorem wI_X3_wagonOf : Cond.instanceMethod yX3_wagonOf ∈ big := big_t 474 (by decide +kernel) (by decide +kernel)
theorem wS_X3_wagonOf : Cond.selects RX3 yX3_wagonOf yX3_wagonOf ∈ big := big_t 475 (by decide +kernel) (by decide +kernel)
theorem wC_X3_wagonOf : Cond.code yX3_wagonOf cX3_wagonOf 4 (some .int) ∈ big := big_t 476 (by decide +kernel) (by decide +kernel)
theorem wM_X6_186 : Cond.methodLink RX6 186 Lib.Math.max.name ∈ big := big_t 477 (by decide +kernel) (by decide +kernel)
theorem wT_max : Cond.static Lib.Math.max.name ∈ big := big_t 478 (by decide +kernel) (by decide +kernel)
theorem wC_max : Cond.code Lib.Math.max.name Lib.Math.max.code 2 (some .int) ∈ big := big_t 479 (by decide +kernel) (by decide +kernel)
theorem wM_X6_191 : Cond.methodLink RX6 191 yX5_engineLeaves ∈ big := big_t 480 (by decide +kernel) (by decide +kernel)
theorem wI_X5_engineLeaves : Cond.instanceMethod yX5_engineLeaves ∈ big := big_t 481 (by decide +kernel) (by decide +kernel)
theorem wS_X5_engineLeaves : Cond.selects RX5 yX5_engineLeaves yX5_engineLeaves ∈ big := big_t 482 (by decide +kernel) (by decide +kernel)
theorem wC_X5_engineLeaves : Cond.code yX5_engineLeaves cX5_engineLeaves 4 none ∈ big := big_t 483 (by decide +kernel) (by decide +kernel)
theorem wM_L_63 : Cond.methodLink RL 63 yX7_ofTrack ∈ big := big_t 484 (by decide +kernel) (by decide +kernel)
theorem wI_X7_ofTrack : Cond.instanceMethod yX7_ofTrack ∈ big := big_t 485 (by decide +kernel) (by decide +kernel)
theorem wS_X7_ofTrack : Cond.selects RX7 yX7_ofTrack yX7_ofTrack ∈ big := big_t 486 (by decide +kernel) (by decide +kernel)
theorem wC_X7_ofTrack : Cond.code yX7_ofTrack cX7_ofTrack 3 (some .int) ∈ big := big_t 487 (by decide +kernel) (by decide +kernel)
theorem wM_X7_99 : Cond.methodLink RX7 99 yX6_aboutTrack ∈ big := big_t 488 (by decide +kernel) (by decide +kernel)
theorem wI_X6_aboutTrack : Cond.instanceMethod yX6_aboutTrack ∈ big := big_t 489 (by decide +kernel) (by decide +kernel)
theorem wS_X6_aboutTrack : Cond.selects RX6 yX6_aboutTrack yX6_aboutTrack ∈ big := big_t 490 (by decide +kernel) (by decide +kernel)
theorem wC_X6_aboutTrack : Cond.code yX6_aboutTrack cX6_aboutTrack 3 (some .int) ∈ big := big_t 491 (by decide +kernel) (by decide +kernel)
theorem wM_L_67 : Cond.methodLink RL 67 yX7_at ∈ big := big_t 492 (by decide +kernel) (by decide +kernel)
theorem wI_X7_at : Cond.instanceMethod yX7_at ∈ big := big_t 493 (by decide +kernel) (by decide +kernel)
theorem wS_X7_at : Cond.selects RX7 yX7_at yX7_at ∈ big := big_t 494 (by decide +kernel) (by decide +kernel)
theorem wC_X7_at : Cond.code yX7_at cX7_at 3 (some .int) ∈ big := big_t 495 (by decide +kernel) (by decide +kernel)
theorem wM_X7_106 : Cond.methodLink RX7 106 yX5_wagonAt ∈ big := big_t 496 (by decide +kernel) (by decide +kernel)
theorem wM_X7_111 : Cond.methodLink RX7 111 yX6_hasTrack ∈ big := big_t 497 (by decide +kernel) (by decide +kernel)
theorem wM_L_71 : Cond.methodLink RL 71 yX7_ofWagon ∈ big := big_t 498 (by decide +kernel) (by decide +kernel)
theorem wI_X7_ofWagon : Cond.instanceMethod yX7_ofWagon ∈ big := big_t 499 (by decide +kernel) (by decide +kernel)
theorem wS_X7_ofWagon : Cond.selects RX7 yX7_ofWagon yX7_ofWagon ∈ big := big_t 500 (by decide +kernel) (by decide +kernel)
theorem wC_X7_ofWagon : Cond.code yX7_ofWagon cX7_ofWagon 3 (some .int) ∈ big := big_t 501 (by decide +kernel) (by decide +kernel)
theorem wM_X7_115 : Cond.methodLink RX7 115 yX6_aboutWagon ∈ big := big_t 502 (by decide +kernel) (by decide +kernel)
theorem wI_X6_aboutWagon : Cond.instanceMethod yX6_aboutWagon ∈ big := big_t 503 (by decide +kernel) (by decide +kernel)
theorem wS_X6_aboutWagon : Cond.selects RX6 yX6_aboutWagon yX6_aboutWagon ∈ big := big_t 504 (by decide +kernel) (by decide +kernel)
theorem wC_X6_aboutWagon : Cond.code yX6_aboutWagon cX6_aboutWagon 5 (some .int) ∈ big := big_t 505 (by decide +kernel) (by decide +kernel)
theorem wM_X6_209 : Cond.methodLink RX6 209 yX5_placeIn ∈ big := big_t 506 (by decide +kernel) (by decide +kernel)
theorem wM_L_75 : Cond.methodLink RL 75 yX7_ofTrain ∈ big := big_t 507 (by decide +kernel) (by decide +kernel)
theorem wI_X7_ofTrain : Cond.instanceMethod yX7_ofTrain ∈ big := big_t 508 (by decide +kernel) (by decide +kernel)
theorem wS_X7_ofTrain : Cond.selects RX7 yX7_ofTrain yX7_ofTrain ∈ big := big_t 509 (by decide +kernel) (by decide +kernel)
theorem wC_X7_ofTrain : Cond.code yX7_ofTrain cX7_ofTrain 3 (some .int) ∈ big := big_t 510 (by decide +kernel) (by decide +kernel)
theorem wM_X7_118 : Cond.methodLink RX7 118 yX6_aboutTrain ∈ big := big_t 511 (by decide +kernel) (by decide +kernel)
theorem wI_X6_aboutTrain : Cond.instanceMethod yX6_aboutTrain ∈ big := big_t 512 (by decide +kernel) (by decide +kernel)
theorem wS_X6_aboutTrain : Cond.selects RX6 yX6_aboutTrain yX6_aboutTrain ∈ big := big_t 513 (by decide +kernel) (by decide +kernel)
theorem wC_X6_aboutTrain : Cond.code yX6_aboutTrain cX6_aboutTrain 3 (some .int) ∈ big := big_t 514 (by decide +kernel) (by decide +kernel)
theorem wM_X6_221 : Cond.methodLink RX6 221 yX6_lengthOfList ∈ big := big_t 515 (by decide +kernel) (by decide +kernel)
theorem wI_X6_lengthOfList : Cond.instanceMethod yX6_lengthOfList ∈ big := big_t 517 (by decide +kernel) (by decide +kernel)
theorem wC_X6_lengthOfList : Cond.code yX6_lengthOfList cX6_lengthOfList 5 (some .int) ∈ big := big_t 518 (by decide +kernel) (by decide +kernel)
theorem wM_X6_224 : Cond.methodLink RX6 224 yX5_lengthOfWagon ∈ big := big_t 519 (by decide +kernel) (by decide +kernel)
theorem wI_X5_lengthOfWagon : Cond.instanceMethod yX5_lengthOfWagon ∈ big := big_t 520 (by decide +kernel) (by decide +kernel)
theorem wS_X5_lengthOfWagon : Cond.selects RX5 yX5_lengthOfWagon yX5_lengthOfWagon ∈ big := big_t 521 (by decide +kernel) (by decide +kernel)
theorem wC_X5_lengthOfWagon : Cond.code yX5_lengthOfWagon cX5_lengthOfWagon 2 (some .int) ∈ big := big_t 522 (by decide +kernel) (by decide +kernel)
theorem wM_L_79 : Cond.methodLink RL 79 yX7_count ∈ big := big_t 523 (by decide +kernel) (by decide +kernel)
theorem wI_X7_count : Cond.instanceMethod yX7_count ∈ big := big_t 524 (by decide +kernel) (by decide +kernel)
theorem wS_X7_count : Cond.selects RX7 yX7_count yX7_count ∈ big := big_t 525 (by decide +kernel) (by decide +kernel)
theorem wC_X7_count : Cond.code yX7_count cX7_count 2 (some .int) ∈ big := big_t 526 (by decide +kernel) (by decide +kernel)
theorem wM_X7_128 : Cond.methodLink RX7 128 yX6_aboutYard ∈ big := big_t 527 (by decide +kernel) (by decide +kernel)
theorem wI_X6_aboutYard : Cond.instanceMethod yX6_aboutYard ∈ big := big_t 528 (by decide +kernel) (by decide +kernel)
theorem wS_X6_aboutYard : Cond.selects RX6 yX6_aboutYard yX6_aboutYard ∈ big := big_t 529 (by decide +kernel) (by decide +kernel)
theorem wC_X6_aboutYard : Cond.code yX6_aboutYard cX6_aboutYard 2 (some .int) ∈ big := big_t 530 (by decide +kernel) (by decide +kernel)
theorem wM_L_83 : Cond.methodLink RL 83 yX7_freeFrom ∈ big := big_t 531 (by decide +kernel) (by decide +kernel)
theorem wI_X7_freeFrom : Cond.instanceMethod yX7_freeFrom ∈ big := big_t 532 (by decide +kernel) (by decide +kernel)
theorem wS_X7_freeFrom : Cond.selects RX7 yX7_freeFrom yX7_freeFrom ∈ big := big_t 533 (by decide +kernel) (by decide +kernel)
theorem wC_X7_freeFrom : Cond.code yX7_freeFrom cX7_freeFrom 2 (some .int) ∈ big := big_t 534 (by decide +kernel) (by decide +kernel)
theorem wM_X7_138 : Cond.methodLink RX7 138 yX0_firstFree ∈ big := big_t 535 (by decide +kernel) (by decide +kernel)
theorem wM_L_87 : Cond.methodLink RL 87 yX7_straight ∈ big := big_t 536 (by decide +kernel) (by decide +kernel)
theorem wI_X7_straight : Cond.instanceMethod yX7_straight ∈ big := big_t 537 (by decide +kernel) (by decide +kernel)
theorem wS_X7_straight : Cond.selects RX7 yX7_straight yX7_straight ∈ big := big_t 538 (by decide +kernel) (by decide +kernel)
theorem wC_X7_straight : Cond.code yX7_straight cX7_straight 2 (some .int) ∈ big := big_t 539 (by decide +kernel) (by decide +kernel)
theorem wM_X7_147 : Cond.methodLink RX7 147 yX3_has ∈ big := big_t 540 (by decide +kernel) (by decide +kernel)
theorem wM_X7_152 : Cond.methodLink RX7 152 yX4_fewestPulls ∈ big := big_t 541 (by decide +kernel) (by decide +kernel)
theorem wI_X4_fewestPulls : Cond.instanceMethod yX4_fewestPulls ∈ big := big_t 542 (by decide +kernel) (by decide +kernel)
theorem wS_X4_fewestPulls : Cond.selects RX4 yX4_fewestPulls yX4_fewestPulls ∈ big := big_t 543 (by decide +kernel) (by decide +kernel)
theorem wC_X4_fewestPulls : Cond.code yX4_fewestPulls cX4_fewestPulls 7 (some .int) ∈ big := big_t 544 (by decide +kernel) (by decide +kernel)
theorem wM_X4_18 : Cond.methodLink RX4 18 yX6_copyFrom ∈ big := big_t 545 (by decide +kernel) (by decide +kernel)
theorem wM_X4_22 : Cond.methodLink RX4 22 yX6_manyAlike ∈ big := big_t 546 (by decide +kernel) (by decide +kernel)
theorem wM_X4_30 : Cond.methodLink RX4 30 yX5_manyIn ∈ big := big_t 547 (by decide +kernel) (by decide +kernel)
theorem wM_X4_39 : Cond.methodLink RX4 39 yX3_sizeOf ∈ big := big_t 548 (by decide +kernel) (by decide +kernel)
theorem wM_X4_44 : Cond.methodLink RX4 44 yX4_trackOfNext ∈ big := big_t 549 (by decide +kernel) (by decide +kernel)
theorem wI_X4_trackOfNext : Cond.instanceMethod yX4_trackOfNext ∈ big := big_t 551 (by decide +kernel) (by decide +kernel)
theorem wC_X4_trackOfNext : Cond.code yX4_trackOfNext cX4_trackOfNext 4 (some .int) ∈ big := big_t 552 (by decide +kernel) (by decide +kernel)
theorem wM_X4_55 : Cond.methodLink RX4 55 yX3_wagonOf ∈ big := big_t 553 (by decide +kernel) (by decide +kernel)
theorem wM_X4_58 : Cond.methodLink RX4 58 yX5_rowOf ∈ big := big_t 554 (by decide +kernel) (by decide +kernel)
theorem wM_X4_48 : Cond.methodLink RX4 48 yX4_manyNext ∈ big := big_t 555 (by decide +kernel) (by decide +kernel)
theorem wI_X4_manyNext : Cond.instanceMethod yX4_manyNext ∈ big := big_t 557 (by decide +kernel) (by decide +kernel)
theorem wC_X4_manyNext : Cond.code yX4_manyNext cX4_manyNext 6 (some .int) ∈ big := big_t 558 (by decide +kernel) (by decide +kernel)
theorem wM_X4_61 : Cond.methodLink RX4 61 Lib.Math.min.name ∈ big := big_t 559 (by decide +kernel) (by decide +kernel)
theorem wM_X4_66 : Cond.methodLink RX4 66 yX5_wagonAt ∈ big := big_t 560 (by decide +kernel) (by decide +kernel)
theorem wM_X4_52 : Cond.methodLink RX4 52 yX6_drawOut ∈ big := big_t 561 (by decide +kernel) (by decide +kernel)
theorem wM_L_91 : Cond.methodLink RL 91 yX7_pulls ∈ big := big_t 562 (by decide +kernel) (by decide +kernel)
theorem wI_X7_pulls : Cond.instanceMethod yX7_pulls ∈ big := big_t 563 (by decide +kernel) (by decide +kernel)
theorem wS_X7_pulls : Cond.selects RX7 yX7_pulls yX7_pulls ∈ big := big_t 564 (by decide +kernel) (by decide +kernel)
theorem wC_X7_pulls : Cond.code yX7_pulls cX7_pulls 2 (some .int) ∈ big := big_t 565 (by decide +kernel) (by decide +kernel)
theorem wM_L_95 : Cond.methodLink RL 95 yX7_wouldLeave ∈ big := big_t 566 (by decide +kernel) (by decide +kernel)
theorem wI_X7_wouldLeave : Cond.instanceMethod yX7_wouldLeave ∈ big := big_t 567 (by decide +kernel) (by decide +kernel)
theorem wS_X7_wouldLeave : Cond.selects RX7 yX7_wouldLeave yX7_wouldLeave ∈ big := big_t 568 (by decide +kernel) (by decide +kernel)
theorem wC_X7_wouldLeave : Cond.code yX7_wouldLeave cX7_wouldLeave 2 (some .int) ∈ big := big_t 569 (by decide +kernel) (by decide +kernel)
theorem wM_L_99 : Cond.methodLink RL 99 yX7_moves ∈ big := big_t 570 (by decide +kernel) (by decide +kernel)
theorem wI_X7_moves : Cond.instanceMethod yX7_moves ∈ big := big_t 571 (by decide +kernel) (by decide +kernel)
theorem wS_X7_moves : Cond.selects RX7 yX7_moves yX7_moves ∈ big := big_t 572 (by decide +kernel) (by decide +kernel)
theorem wC_X7_moves : Cond.code yX7_moves cX7_moves 2 (some .int) ∈ big := big_t 573 (by decide +kernel) (by decide +kernel)
theorem wM_X7_159 : Cond.methodLink RX7 159 yX4_fewestMoves ∈ big := big_t 574 (by decide +kernel) (by decide +kernel)
theorem wI_X4_fewestMoves : Cond.instanceMethod yX4_fewestMoves ∈ big := big_t 575 (by decide +kernel) (by decide +kernel)
theorem wS_X4_fewestMoves : Cond.selects RX4 yX4_fewestMoves yX4_fewestMoves ∈ big := big_t 576 (by decide +kernel) (by decide +kernel)
theorem wC_X4_fewestMoves : Cond.code yX4_fewestMoves cX4_fewestMoves 4 (some .int) ∈ big := big_t 577 (by decide +kernel) (by decide +kernel)
theorem wM_X4_69 : Cond.methodLink RX4 69 yX6_couldLeave ∈ big := big_t 578 (by decide +kernel) (by decide +kernel)
theorem wM_X4_73 : Cond.methodLink RX4 73 yX4_couldAfterOne ∈ big := big_t 579 (by decide +kernel) (by decide +kernel)
theorem wI_X4_couldAfterOne : Cond.instanceMethod yX4_couldAfterOne ∈ big := big_t 581 (by decide +kernel) (by decide +kernel)
theorem wC_X4_couldAfterOne : Cond.code yX4_couldAfterOne cX4_couldAfterOne 6 (some .boolean) ∈ big := big_t 582 (by decide +kernel) (by decide +kernel)
theorem wM_X4_100 : Cond.methodLink RX4 100 yX6_canGoRound ∈ big := big_t 583 (by decide +kernel) (by decide +kernel)
theorem wM_X4_107 : Cond.methodLink RX4 107 yX4_isTurned ∈ big := big_t 584 (by decide +kernel) (by decide +kernel)
theorem wI_X4_isTurned : Cond.instanceMethod yX4_isTurned ∈ big := big_t 586 (by decide +kernel) (by decide +kernel)
theorem wC_X4_isTurned : Cond.code yX4_isTurned cX4_isTurned 4 (some .boolean) ∈ big := big_t 587 (by decide +kernel) (by decide +kernel)
theorem wM_X4_110 : Cond.methodLink RX4 110 yX6_tracksFor ∈ big := big_t 588 (by decide +kernel) (by decide +kernel)
theorem wI_X6_tracksFor : Cond.instanceMethod yX6_tracksFor ∈ big := big_t 589 (by decide +kernel) (by decide +kernel)
theorem wS_X6_tracksFor : Cond.selects RX6 yX6_tracksFor yX6_tracksFor ∈ big := big_t 590 (by decide +kernel) (by decide +kernel)
theorem wC_X6_tracksFor : Cond.code yX6_tracksFor cX6_tracksFor 4 (some .int) ∈ big := big_t 591 (by decide +kernel) (by decide +kernel)
theorem wM_X4_90 : Cond.methodLink RX4 90 yX6_canTakeOut ∈ big := big_t 592 (by decide +kernel) (by decide +kernel)
theorem wM_X4_80 : Cond.methodLink RX4 80 yX4_couldAfterTakingOut ∈ big := big_t 593 (by decide +kernel) (by decide +kernel)
theorem wI_X4_couldAfterTakingOut : Cond.instanceMethod yX4_couldAfterTakingOut ∈ big := big_t 595 (by decide +kernel) (by decide +kernel)
theorem wC_X4_couldAfterTakingOut : Cond.code yX4_couldAfterTakingOut cX4_couldAfterTakingOut 6 (some .boolean) ∈ big := big_t 596 (by decide +kernel) (by decide +kernel)
theorem wM_X4_93 : Cond.methodLink RX4 93 yX5_shift ∈ big := big_t 597 (by decide +kernel) (by decide +kernel)
theorem wM_X4_84 : Cond.methodLink RX4 84 yX4_couldAfterBringingIn ∈ big := big_t 598 (by decide +kernel) (by decide +kernel)
theorem wI_X4_couldAfterBringingIn : Cond.instanceMethod yX4_couldAfterBringingIn ∈ big := big_t 600 (by decide +kernel) (by decide +kernel)
theorem wC_X4_couldAfterBringingIn : Cond.code yX4_couldAfterBringingIn cX4_couldAfterBringingIn 6 (some .boolean) ∈ big := big_t 601 (by decide +kernel) (by decide +kernel)
theorem wM_X4_97 : Cond.methodLink RX4 97 yX6_canBringIn ∈ big := big_t 602 (by decide +kernel) (by decide +kernel)
theorem wM_X4_87 : Cond.methodLink RX4 87 yX4_couldAfterGoingRound ∈ big := big_t 603 (by decide +kernel) (by decide +kernel)
theorem wI_X4_couldAfterGoingRound : Cond.instanceMethod yX4_couldAfterGoingRound ∈ big := big_t 605 (by decide +kernel) (by decide +kernel)
theorem wC_X4_couldAfterGoingRound : Cond.code yX4_couldAfterGoingRound cX4_couldAfterGoingRound 3 (some .boolean) ∈ big := big_t 606 (by decide +kernel) (by decide +kernel)
theorem wM_X4_104 : Cond.methodLink RX4 104 yX5_turnEngine ∈ big := big_t 607 (by decide +kernel) (by decide +kernel)
theorem wM_L_103 : Cond.methodLink RL 103 yX7_roomFor ∈ big := big_t 608 (by decide +kernel) (by decide +kernel)
theorem wI_X7_roomFor : Cond.instanceMethod yX7_roomFor ∈ big := big_t 609 (by decide +kernel) (by decide +kernel)
theorem wS_X7_roomFor : Cond.selects RX7 yX7_roomFor yX7_roomFor ∈ big := big_t 610 (by decide +kernel) (by decide +kernel)
theorem wC_X7_roomFor : Cond.code yX7_roomFor cX7_roomFor 1 (some .int) ∈ big := big_t 611 (by decide +kernel) (by decide +kernel)
theorem wM_X7_162 : Cond.methodLink RX7 162 yX5_manyIn ∈ big := big_t 612 (by decide +kernel) (by decide +kernel)
theorem wM_X7_165 : Cond.methodLink RX7 165 yX6_tracksFor ∈ big := big_t 613 (by decide +kernel) (by decide +kernel)
theorem wM_L_107 : Cond.methodLink RL 107 yX7_buried ∈ big := big_t 614 (by decide +kernel) (by decide +kernel)
theorem wI_X7_buried : Cond.instanceMethod yX7_buried ∈ big := big_t 615 (by decide +kernel) (by decide +kernel)
theorem wS_X7_buried : Cond.selects RX7 yX7_buried yX7_buried ∈ big := big_t 616 (by decide +kernel) (by decide +kernel)
theorem wC_X7_buried : Cond.code yX7_buried cX7_buried 1 (some .int) ∈ big := big_t 617 (by decide +kernel) (by decide +kernel)
theorem wM_X7_168 : Cond.methodLink RX7 168 yX6_manyBuried ∈ big := big_t 618 (by decide +kernel) (by decide +kernel)
theorem wI_X6_manyBuried : Cond.instanceMethod yX6_manyBuried ∈ big := big_t 619 (by decide +kernel) (by decide +kernel)
theorem wS_X6_manyBuried : Cond.selects RX6 yX6_manyBuried yX6_manyBuried ∈ big := big_t 620 (by decide +kernel) (by decide +kernel)
theorem wC_X6_manyBuried : Cond.code yX6_manyBuried cX6_manyBuried 5 (some .int) ∈ big := big_t 621 (by decide +kernel) (by decide +kernel)
theorem wM_X6_230 : Cond.methodLink RX6 230 yX6_isBuried ∈ big := big_t 622 (by decide +kernel) (by decide +kernel)
theorem wI_X6_isBuried : Cond.instanceMethod yX6_isBuried ∈ big := big_t 624 (by decide +kernel) (by decide +kernel)
theorem wC_X6_isBuried : Cond.code yX6_isBuried cX6_isBuried 5 (some .boolean) ∈ big := big_t 625 (by decide +kernel) (by decide +kernel)
theorem wM_L_111 : Cond.methodLink RL 111 yX7_put ∈ big := big_t 626 (by decide +kernel) (by decide +kernel)
theorem wI_X7_put : Cond.instanceMethod yX7_put ∈ big := big_t 627 (by decide +kernel) (by decide +kernel)
theorem wS_X7_put : Cond.selects RX7 yX7_put yX7_put ∈ big := big_t 628 (by decide +kernel) (by decide +kernel)
theorem wC_X7_put : Cond.code yX7_put cX7_put 3 (some .int) ∈ big := big_t 629 (by decide +kernel) (by decide +kernel)
theorem wM_X7_171 : Cond.methodLink RX7 171 yX2_append ∈ big := big_t 630 (by decide +kernel) (by decide +kernel)
theorem wI_X2_append : Cond.instanceMethod yX2_append ∈ big := big_t 631 (by decide +kernel) (by decide +kernel)
theorem wS_X2_append : Cond.selects RX2 yX2_append yX2_append ∈ big := big_t 632 (by decide +kernel) (by decide +kernel)
theorem wC_X2_append : Cond.code yX2_append cX2_append 5 (some .int) ∈ big := big_t 633 (by decide +kernel) (by decide +kernel)
theorem wM_X2_15 : Cond.methodLink RX2 15 yX2_manyTold ∈ big := big_t 634 (by decide +kernel) (by decide +kernel)
theorem wT_X2_manyTold : Cond.static yX2_manyTold ∈ big := big_t 635 (by decide +kernel) (by decide +kernel)
theorem wC_X2_manyTold : Cond.code yX2_manyTold cX2_manyTold 8 (some .int) ∈ big := big_t 636 (by decide +kernel) (by decide +kernel)
theorem wK_X2_23 : Cond.constantLong RX2 23 255 ∈ big := big_t 637 (by decide +kernel) (by decide +kernel)
theorem wK_X2_25 : Cond.constantLong RX2 25 33 ∈ big := big_t 638 (by decide +kernel) (by decide +kernel)
theorem wK_X2_27 : Cond.constantLong RX2 27 126 ∈ big := big_t 639 (by decide +kernel) (by decide +kernel)
theorem wM_L_116 : Cond.methodLink RL 116 yX7_wipe ∈ big := big_t 640 (by decide +kernel) (by decide +kernel)
theorem wI_X7_wipe : Cond.instanceMethod yX7_wipe ∈ big := big_t 641 (by decide +kernel) (by decide +kernel)
theorem wS_X7_wipe : Cond.selects RX7 yX7_wipe yX7_wipe ∈ big := big_t 642 (by decide +kernel) (by decide +kernel)
theorem wC_X7_wipe : Cond.code yX7_wipe cX7_wipe 1 (some .int) ∈ big := big_t 643 (by decide +kernel) (by decide +kernel)
theorem wM_X7_174 : Cond.methodLink RX7 174 yX2_clear ∈ big := big_t 644 (by decide +kernel) (by decide +kernel)
theorem wI_X2_clear : Cond.instanceMethod yX2_clear ∈ big := big_t 645 (by decide +kernel) (by decide +kernel)
theorem wS_X2_clear : Cond.selects RX2 yX2_clear yX2_clear ∈ big := big_t 646 (by decide +kernel) (by decide +kernel)
theorem wC_X2_clear : Cond.code yX2_clear cX2_clear 2 (some .int) ∈ big := big_t 647 (by decide +kernel) (by decide +kernel)
theorem wM_L_120 : Cond.methodLink RL 120 yX7_fault ∈ big := big_t 648 (by decide +kernel) (by decide +kernel)
theorem wI_X7_fault : Cond.instanceMethod yX7_fault ∈ big := big_t 649 (by decide +kernel) (by decide +kernel)
theorem wS_X7_fault : Cond.selects RX7 yX7_fault yX7_fault ∈ big := big_t 650 (by decide +kernel) (by decide +kernel)
theorem wC_X7_fault : Cond.code yX7_fault cX7_fault 1 (some .int) ∈ big := big_t 651 (by decide +kernel) (by decide +kernel)
theorem wM_X7_177 : Cond.methodLink RX7 177 yX2_firstFault ∈ big := big_t 652 (by decide +kernel) (by decide +kernel)
theorem wI_X2_firstFault : Cond.instanceMethod yX2_firstFault ∈ big := big_t 653 (by decide +kernel) (by decide +kernel)
theorem wS_X2_firstFault : Cond.selects RX2 yX2_firstFault yX2_firstFault ∈ big := big_t 654 (by decide +kernel) (by decide +kernel)
theorem wC_X2_firstFault : Cond.code yX2_firstFault cX2_firstFault 3 (some .int) ∈ big := big_t 655 (by decide +kernel) (by decide +kernel)
theorem wM_X2_33 : Cond.methodLink RX2 33 yX2_dueBehind ∈ big := big_t 656 (by decide +kernel) (by decide +kernel)
theorem wT_X2_dueBehind : Cond.static yX2_dueBehind ∈ big := big_t 657 (by decide +kernel) (by decide +kernel)
theorem wC_X2_dueBehind : Cond.code yX2_dueBehind cX2_dueBehind 2 (some .int) ∈ big := big_t 658 (by decide +kernel) (by decide +kernel)
theorem wM_X2_37 : Cond.methodLink RX2 37 yX2_dueBehindKind ∈ big := big_t 659 (by decide +kernel) (by decide +kernel)
theorem wT_X2_dueBehindKind : Cond.static yX2_dueBehindKind ∈ big := big_t 660 (by decide +kernel) (by decide +kernel)
theorem wC_X2_dueBehindKind : Cond.code yX2_dueBehindKind cX2_dueBehindKind 1 (some .int) ∈ big := big_t 661 (by decide +kernel) (by decide +kernel)
theorem wM_X2_40 : Cond.methodLink RX2 40 yX2_isDigit ∈ big := big_t 662 (by decide +kernel) (by decide +kernel)
theorem wT_X2_isDigit : Cond.static yX2_isDigit ∈ big := big_t 663 (by decide +kernel) (by decide +kernel)
theorem wC_X2_isDigit : Cond.code yX2_isDigit cX2_isDigit 1 (some .boolean) ∈ big := big_t 664 (by decide +kernel) (by decide +kernel)
theorem wM_L_124 : Cond.methodLink RL 124 yX7_carryOut ∈ big := big_t 665 (by decide +kernel) (by decide +kernel)
theorem wI_X7_carryOut : Cond.instanceMethod yX7_carryOut ∈ big := big_t 666 (by decide +kernel) (by decide +kernel)
theorem wS_X7_carryOut : Cond.selects RX7 yX7_carryOut yX7_carryOut ∈ big := big_t 667 (by decide +kernel) (by decide +kernel)
theorem wC_X7_carryOut : Cond.code yX7_carryOut cX7_carryOut 4 (some .int) ∈ big := big_t 668 (by decide +kernel) (by decide +kernel)
theorem wM_X7_180 : Cond.methodLink RX7 180 yX2_endsOrder ∈ big := big_t 669 (by decide +kernel) (by decide +kernel)
theorem wI_X2_endsOrder : Cond.instanceMethod yX2_endsOrder ∈ big := big_t 670 (by decide +kernel) (by decide +kernel)
theorem wS_X2_endsOrder : Cond.selects RX2 yX2_endsOrder yX2_endsOrder ∈ big := big_t 671 (by decide +kernel) (by decide +kernel)
theorem wC_X2_endsOrder : Cond.code yX2_endsOrder cX2_endsOrder 2 (some .boolean) ∈ big := big_t 672 (by decide +kernel) (by decide +kernel)
theorem wM_X2_29 : Cond.methodLink RX2 29 yX2_codeAt ∈ big := big_t 673 (by decide +kernel) (by decide +kernel)
theorem wI_X2_codeAt : Cond.instanceMethod yX2_codeAt ∈ big := big_t 674 (by decide +kernel) (by decide +kernel)
theorem wS_X2_codeAt : Cond.selects RX2 yX2_codeAt yX2_codeAt ∈ big := big_t 675 (by decide +kernel) (by decide +kernel)
theorem wC_X2_codeAt : Cond.code yX2_codeAt cX2_codeAt 2 (some .int) ∈ big := big_t 676 (by decide +kernel) (by decide +kernel)
theorem wM_X7_183 : Cond.methodLink RX7 183 yX7_carryOne ∈ big := big_t 677 (by decide +kernel) (by decide +kernel)
theorem wI_X7_carryOne : Cond.instanceMethod yX7_carryOne ∈ big := big_t 679 (by decide +kernel) (by decide +kernel)
theorem wC_X7_carryOne : Cond.code yX7_carryOne cX7_carryOne 4 (some .int) ∈ big := big_t 680 (by decide +kernel) (by decide +kernel)
theorem wM_X7_186 : Cond.methodLink RX7 186 yX2_codeAt ∈ big := big_t 681 (by decide +kernel) (by decide +kernel)
theorem wM_X7_189 : Cond.methodLink RX7 189 yX2_number ∈ big := big_t 682 (by decide +kernel) (by decide +kernel)
theorem wI_X2_number : Cond.instanceMethod yX2_number ∈ big := big_t 683 (by decide +kernel) (by decide +kernel)
theorem wS_X2_number : Cond.selects RX2 yX2_number yX2_number ∈ big := big_t 684 (by decide +kernel) (by decide +kernel)
theorem wC_X2_number : Cond.code yX2_number cX2_number 5 (some .int) ∈ big := big_t 685 (by decide +kernel) (by decide +kernel)
theorem wM_L_128 : Cond.methodLink RL 128 yX7_undo ∈ big := big_t 686 (by decide +kernel) (by decide +kernel)
theorem wI_X7_undo : Cond.instanceMethod yX7_undo ∈ big := big_t 687 (by decide +kernel) (by decide +kernel)
theorem wS_X7_undo : Cond.selects RX7 yX7_undo yX7_undo ∈ big := big_t 688 (by decide +kernel) (by decide +kernel)
theorem wC_X7_undo : Cond.code yX7_undo cX7_undo 1 (some .int) ∈ big := big_t 689 (by decide +kernel) (by decide +kernel)
theorem wM_X7_191 : Cond.methodLink RX7 191 yX1_takeBack ∈ big := big_t 690 (by decide +kernel) (by decide +kernel)
theorem wI_X1_takeBack : Cond.instanceMethod yX1_takeBack ∈ big := big_t 691 (by decide +kernel) (by decide +kernel)
theorem wS_X1_takeBack : Cond.selects RX1 yX1_takeBack yX1_takeBack ∈ big := big_t 692 (by decide +kernel) (by decide +kernel)
theorem wC_X1_takeBack : Cond.code yX1_takeBack cX1_takeBack 2 (some .int) ∈ big := big_t 693 (by decide +kernel) (by decide +kernel)
theorem wM_L_132 : Cond.methodLink RL 132 yX7_save ∈ big := big_t 694 (by decide +kernel) (by decide +kernel)
theorem wI_X7_save : Cond.instanceMethod yX7_save ∈ big := big_t 695 (by decide +kernel) (by decide +kernel)
theorem wS_X7_save : Cond.selects RX7 yX7_save yX7_save ∈ big := big_t 696 (by decide +kernel) (by decide +kernel)
theorem wC_X7_save : Cond.code yX7_save cX7_save 2 (some .int) ∈ big := big_t 697 (by decide +kernel) (by decide +kernel)
theorem wM_X7_195 : Cond.methodLink RX7 195 yX6_copyFrom ∈ big := big_t 698 (by decide +kernel) (by decide +kernel)
theorem wM_L_136 : Cond.methodLink RL 136 yX7_restore ∈ big := big_t 699 (by decide +kernel) (by decide +kernel)
theorem wI_X7_restore : Cond.instanceMethod yX7_restore ∈ big := big_t 700 (by decide +kernel) (by decide +kernel)
theorem wS_X7_restore : Cond.selects RX7 yX7_restore yX7_restore ∈ big := big_t 701 (by decide +kernel) (by decide +kernel)
theorem wC_X7_restore : Cond.code yX7_restore cX7_restore 2 (some .int) ∈ big := big_t 702 (by decide +kernel) (by decide +kernel)
theorem wM_L_12 : Cond.methodLink RL 12 yX8_init ∈ big := big_t 705 (by decide +kernel) (by decide +kernel)
theorem wI_X8_init : Cond.instanceMethod yX8_init ∈ big := big_t 706 (by decide +kernel) (by decide +kernel)
theorem wC_X8_init : Cond.code yX8_init cX8_init 1 none ∈ big := big_t 707 (by decide +kernel) (by decide +kernel)
theorem wF_X8_7 : Cond.fieldLink RX8 7 RX8 "now" "[I" ∈ big := big_t 709 (by decide +kernel) (by decide +kernel)
theorem wF_X8_13 : Cond.fieldLink RX8 13 RX8 "kept" "[I" ∈ big := big_t 710 (by decide +kernel) (by decide +kernel)
theorem wF_X8_16 : Cond.fieldLink RX8 16 RX8 "kept2" "[I" ∈ big := big_t 711 (by decide +kernel) (by decide +kernel)
theorem wF_X8_19 : Cond.fieldLink RX8 19 RX8 "history" "[I" ∈ big := big_t 712 (by decide +kernel) (by decide +kernel)
theorem wF_X8_51 : Cond.fieldLink RX8 51 RX8 "undos" "I" ∈ big := big_t 713 (by decide +kernel) (by decide +kernel)
theorem wF_X8_22 : Cond.fieldLink RX8 22 RX8 "saved" "[I" ∈ big := big_t 714 (by decide +kernel) (by decide +kernel)
theorem wF_X8_25 : Cond.fieldLink RX8 25 RX8 "isSaved" "[Z" ∈ big := big_t 715 (by decide +kernel) (by decide +kernel)
theorem wF_X8_29 : Cond.fieldLink RX8 29 RX8 "pad" "[I" ∈ big := big_t 716 (by decide +kernel) (by decide +kernel)
theorem wF_X8_149 : Cond.fieldLink RX8 149 RX8 "signs" "I" ∈ big := big_t 717 (by decide +kernel) (by decide +kernel)
theorem wF_X8_47 : Cond.fieldLink RX8 47 RX8 "isInText" "Z" ∈ big := big_t 718 (by decide +kernel) (by decide +kernel)
theorem wF_X8_32 : Cond.fieldLink RX8 32 RX8 "list" "[I" ∈ big := big_t 719 (by decide +kernel) (by decide +kernel)
theorem wF_X8_35 : Cond.fieldLink RX8 35 RX8 "taken" "[I" ∈ big := big_t 720 (by decide +kernel) (by decide +kernel)
theorem wF_X8_38 : Cond.fieldLink RX8 38 RX8 "pullTrack" "[I" ∈ big := big_t 721 (by decide +kernel) (by decide +kernel)
theorem wF_X8_41 : Cond.fieldLink RX8 41 RX8 "pullMany" "[I" ∈ big := big_t 722 (by decide +kernel) (by decide +kernel)
theorem wF_X8_152 : Cond.fieldLink RX8 152 RX8 "pulled" "I" ∈ big := big_t 723 (by decide +kernel) (by decide +kernel)
theorem wF_X8_44 : Cond.fieldLink RX8 44 RX8 "orders" "[I" ∈ big := big_t 724 (by decide +kernel) (by decide +kernel)
theorem wF_X8_179 : Cond.fieldLink RX8 179 RX8 "many" "I" ∈ big := big_t 725 (by decide +kernel) (by decide +kernel)
theorem wF_X8_167 : Cond.fieldLink RX8 167 RX8 "place" "I" ∈ big := big_t 726 (by decide +kernel) (by decide +kernel)
theorem wF_X8_173 : Cond.fieldLink RX8 173 RX8 "isWrong" "Z" ∈ big := big_t 727 (by decide +kernel) (by decide +kernel)
theorem wM_L_17 : Cond.methodLink RL 17 yX8_set ∈ big := big_t 767 (by decide +kernel) (by decide +kernel)
theorem wI_X8_set : Cond.instanceMethod yX8_set ∈ big := big_t 768 (by decide +kernel) (by decide +kernel)
theorem wS_X8_set : Cond.selects RX8 yX8_set yX8_set ∈ big := big_t 769 (by decide +kernel) (by decide +kernel)
theorem wC_X8_set : Cond.code yX8_set cX8_set 4 (some .int) ∈ big := big_t 770 (by decide +kernel) (by decide +kernel)
theorem wM_X8_55 : Cond.methodLink RX8 55 yX8_in ∈ big := big_t 771 (by decide +kernel) (by decide +kernel)
theorem wT_X8_in : Cond.static yX8_in ∈ big := big_t 772 (by decide +kernel) (by decide +kernel)
theorem wC_X8_in : Cond.code yX8_in cX8_in 3 (some .boolean) ∈ big := big_t 773 (by decide +kernel) (by decide +kernel)
theorem wM_X8_59 : Cond.methodLink RX8 59 yX8_least ∈ big := big_t 774 (by decide +kernel) (by decide +kernel)
theorem wT_X8_least : Cond.static yX8_least ∈ big := big_t 775 (by decide +kernel) (by decide +kernel)
theorem wC_X8_least : Cond.code yX8_least cX8_least 1 (some .int) ∈ big := big_t 776 (by decide +kernel) (by decide +kernel)
theorem wM_X8_63 : Cond.methodLink RX8 63 yX8_most ∈ big := big_t 777 (by decide +kernel) (by decide +kernel)
theorem wT_X8_most : Cond.static yX8_most ∈ big := big_t 778 (by decide +kernel) (by decide +kernel)
theorem wC_X8_most : Cond.code yX8_most cX8_most 1 (some .int) ∈ big := big_t 779 (by decide +kernel) (by decide +kernel)
theorem wM_X8_66 : Cond.methodLink RX8 66 yX8_record ∈ big := big_t 780 (by decide +kernel) (by decide +kernel)
theorem wI_X8_record : Cond.instanceMethod yX8_record ∈ big := big_t 782 (by decide +kernel) (by decide +kernel)
theorem wC_X8_record : Cond.code yX8_record cX8_record 2 none ∈ big := big_t 783 (by decide +kernel) (by decide +kernel)
theorem wM_L_22 : Cond.methodLink RL 22 yX8_track ∈ big := big_t 784 (by decide +kernel) (by decide +kernel)
theorem wI_X8_track : Cond.instanceMethod yX8_track ∈ big := big_t 785 (by decide +kernel) (by decide +kernel)
theorem wS_X8_track : Cond.selects RX8 yX8_track yX8_track ∈ big := big_t 786 (by decide +kernel) (by decide +kernel)
theorem wC_X8_track : Cond.code yX8_track cX8_track 2 (some .int) ∈ big := big_t 787 (by decide +kernel) (by decide +kernel)
theorem wM_L_26 : Cond.methodLink RL 26 yX8_wagon ∈ big := big_t 788 (by decide +kernel) (by decide +kernel)
theorem wI_X8_wagon : Cond.instanceMethod yX8_wagon ∈ big := big_t 789 (by decide +kernel) (by decide +kernel)
theorem wS_X8_wagon : Cond.selects RX8 yX8_wagon yX8_wagon ∈ big := big_t 790 (by decide +kernel) (by decide +kernel)
theorem wC_X8_wagon : Cond.code yX8_wagon cX8_wagon 6 (some .int) ∈ big := big_t 791 (by decide +kernel) (by decide +kernel)
theorem wM_X8_79 : Cond.methodLink RX8 79 yX8_isTrack ∈ big := big_t 792 (by decide +kernel) (by decide +kernel)
theorem wI_X8_isTrack : Cond.instanceMethod yX8_isTrack ∈ big := big_t 794 (by decide +kernel) (by decide +kernel)
theorem wC_X8_isTrack : Cond.code yX8_isTrack cX8_isTrack 2 (some .boolean) ∈ big := big_t 795 (by decide +kernel) (by decide +kernel)
theorem wM_X8_83 : Cond.methodLink RX8 83 yX8_lengthOn ∈ big := big_t 796 (by decide +kernel) (by decide +kernel)
theorem wI_X8_lengthOn : Cond.instanceMethod yX8_lengthOn ∈ big := big_t 798 (by decide +kernel) (by decide +kernel)
theorem wC_X8_lengthOn : Cond.code yX8_lengthOn cX8_lengthOn 2 (some .int) ∈ big := big_t 799 (by decide +kernel) (by decide +kernel)
theorem wM_X8_72 : Cond.methodLink RX8 72 yX8_manyOn ∈ big := big_t 800 (by decide +kernel) (by decide +kernel)
theorem wI_X8_manyOn : Cond.instanceMethod yX8_manyOn ∈ big := big_t 802 (by decide +kernel) (by decide +kernel)
theorem wC_X8_manyOn : Cond.code yX8_manyOn cX8_manyOn 2 (some .int) ∈ big := big_t 803 (by decide +kernel) (by decide +kernel)
theorem wM_X8_75 : Cond.methodLink RX8 75 yX8_lengths ∈ big := big_t 804 (by decide +kernel) (by decide +kernel)
theorem wI_X8_lengths : Cond.instanceMethod yX8_lengths ∈ big := big_t 806 (by decide +kernel) (by decide +kernel)
theorem wC_X8_lengths : Cond.code yX8_lengths cX8_lengths 5 (some .int) ∈ big := big_t 807 (by decide +kernel) (by decide +kernel)
theorem wM_X8_69 : Cond.methodLink RX8 69 yX8_lengthOf ∈ big := big_t 808 (by decide +kernel) (by decide +kernel)
theorem wI_X8_lengthOf : Cond.instanceMethod yX8_lengthOf ∈ big := big_t 810 (by decide +kernel) (by decide +kernel)
theorem wC_X8_lengthOf : Cond.code yX8_lengthOf cX8_lengthOf 2 (some .int) ∈ big := big_t 811 (by decide +kernel) (by decide +kernel)
theorem wM_L_30 : Cond.methodLink RL 30 yX8_block ∈ big := big_t 812 (by decide +kernel) (by decide +kernel)
theorem wI_X8_block : Cond.instanceMethod yX8_block ∈ big := big_t 813 (by decide +kernel) (by decide +kernel)
theorem wS_X8_block : Cond.selects RX8 yX8_block yX8_block ∈ big := big_t 814 (by decide +kernel) (by decide +kernel)
theorem wC_X8_block : Cond.code yX8_block cX8_block 3 (some .int) ∈ big := big_t 815 (by decide +kernel) (by decide +kernel)
theorem wM_L_34 : Cond.methodLink RL 34 yX8_pull ∈ big := big_t 816 (by decide +kernel) (by decide +kernel)
theorem wI_X8_pull : Cond.instanceMethod yX8_pull ∈ big := big_t 817 (by decide +kernel) (by decide +kernel)
theorem wS_X8_pull : Cond.selects RX8 yX8_pull yX8_pull ∈ big := big_t 818 (by decide +kernel) (by decide +kernel)
theorem wC_X8_pull : Cond.code yX8_pull cX8_pull 3 (some .int) ∈ big := big_t 819 (by decide +kernel) (by decide +kernel)
theorem wM_X8_97 : Cond.methodLink RX8 97 yX8_canPull ∈ big := big_t 820 (by decide +kernel) (by decide +kernel)
theorem wI_X8_canPull : Cond.instanceMethod yX8_canPull ∈ big := big_t 822 (by decide +kernel) (by decide +kernel)
theorem wC_X8_canPull : Cond.code yX8_canPull cX8_canPull 3 (some .boolean) ∈ big := big_t 823 (by decide +kernel) (by decide +kernel)
theorem wM_X8_93 : Cond.methodLink RX8 93 yX8_lengthAtEngine ∈ big := big_t 824 (by decide +kernel) (by decide +kernel)
theorem wI_X8_lengthAtEngine : Cond.instanceMethod yX8_lengthAtEngine ∈ big := big_t 826 (by decide +kernel) (by decide +kernel)
theorem wC_X8_lengthAtEngine : Cond.code yX8_lengthAtEngine cX8_lengthAtEngine 1 (some .int) ∈ big := big_t 827 (by decide +kernel) (by decide +kernel)
theorem wM_X8_101 : Cond.methodLink RX8 101 yX8_drawOut ∈ big := big_t 828 (by decide +kernel) (by decide +kernel)
theorem wI_X8_drawOut : Cond.instanceMethod yX8_drawOut ∈ big := big_t 830 (by decide +kernel) (by decide +kernel)
theorem wC_X8_drawOut : Cond.code yX8_drawOut cX8_drawOut 6 (some .int) ∈ big := big_t 831 (by decide +kernel) (by decide +kernel)
theorem wM_X8_104 : Cond.methodLink RX8 104 yX8_take ∈ big := big_t 832 (by decide +kernel) (by decide +kernel)
theorem wI_X8_take : Cond.instanceMethod yX8_take ∈ big := big_t 834 (by decide +kernel) (by decide +kernel)
theorem wC_X8_take : Cond.code yX8_take cX8_take 5 none ∈ big := big_t 835 (by decide +kernel) (by decide +kernel)
theorem wM_X8_86 : Cond.methodLink RX8 86 yX8_freeAt ∈ big := big_t 836 (by decide +kernel) (by decide +kernel)
theorem wI_X8_freeAt : Cond.instanceMethod yX8_freeAt ∈ big := big_t 838 (by decide +kernel) (by decide +kernel)
theorem wC_X8_freeAt : Cond.code yX8_freeAt cX8_freeAt 8 (some .int) ∈ big := big_t 839 (by decide +kernel) (by decide +kernel)
theorem wM_X8_89 : Cond.methodLink RX8 89 yX8_comeTo ∈ big := big_t 840 (by decide +kernel) (by decide +kernel)
theorem wI_X8_comeTo : Cond.instanceMethod yX8_comeTo ∈ big := big_t 842 (by decide +kernel) (by decide +kernel)
theorem wC_X8_comeTo : Cond.code yX8_comeTo cX8_comeTo 4 none ∈ big := big_t 843 (by decide +kernel) (by decide +kernel)
theorem wM_L_38 : Cond.methodLink RL 38 yX8_push ∈ big := big_t 844 (by decide +kernel) (by decide +kernel)
theorem wI_X8_push : Cond.instanceMethod yX8_push ∈ big := big_t 845 (by decide +kernel) (by decide +kernel)
theorem wS_X8_push : Cond.selects RX8 yX8_push yX8_push ∈ big := big_t 846 (by decide +kernel) (by decide +kernel)
theorem wC_X8_push : Cond.code yX8_push cX8_push 3 (some .int) ∈ big := big_t 847 (by decide +kernel) (by decide +kernel)
theorem wM_X8_108 : Cond.methodLink RX8 108 yX8_canPush ∈ big := big_t 848 (by decide +kernel) (by decide +kernel)
theorem wI_X8_canPush : Cond.instanceMethod yX8_canPush ∈ big := big_t 850 (by decide +kernel) (by decide +kernel)
theorem wC_X8_canPush : Cond.code yX8_canPush cX8_canPush 3 (some .boolean) ∈ big := big_t 851 (by decide +kernel) (by decide +kernel)
theorem wM_X8_111 : Cond.methodLink RX8 111 yX8_setBack ∈ big := big_t 852 (by decide +kernel) (by decide +kernel)
theorem wI_X8_setBack : Cond.instanceMethod yX8_setBack ∈ big := big_t 854 (by decide +kernel) (by decide +kernel)
theorem wC_X8_setBack : Cond.code yX8_setBack cX8_setBack 6 (some .int) ∈ big := big_t 855 (by decide +kernel) (by decide +kernel)
theorem wM_L_43 : Cond.methodLink RL 43 yX8_round ∈ big := big_t 856 (by decide +kernel) (by decide +kernel)
theorem wI_X8_round : Cond.instanceMethod yX8_round ∈ big := big_t 857 (by decide +kernel) (by decide +kernel)
theorem wS_X8_round : Cond.selects RX8 yX8_round yX8_round ∈ big := big_t 858 (by decide +kernel) (by decide +kernel)
theorem wC_X8_round : Cond.code yX8_round cX8_round 1 (some .int) ∈ big := big_t 859 (by decide +kernel) (by decide +kernel)
theorem wM_X8_114 : Cond.methodLink RX8 114 yX8_canRound ∈ big := big_t 860 (by decide +kernel) (by decide +kernel)
theorem wI_X8_canRound : Cond.instanceMethod yX8_canRound ∈ big := big_t 862 (by decide +kernel) (by decide +kernel)
theorem wC_X8_canRound : Cond.code yX8_canRound cX8_canRound 1 (some .boolean) ∈ big := big_t 863 (by decide +kernel) (by decide +kernel)
theorem wM_X8_118 : Cond.methodLink RX8 118 yX8_turnRound ∈ big := big_t 864 (by decide +kernel) (by decide +kernel)
theorem wI_X8_turnRound : Cond.instanceMethod yX8_turnRound ∈ big := big_t 866 (by decide +kernel) (by decide +kernel)
theorem wC_X8_turnRound : Cond.code yX8_turnRound cX8_turnRound 4 none ∈ big := big_t 867 (by decide +kernel) (by decide +kernel)
theorem wM_L_47 : Cond.methodLink RL 47 yX8_pass ∈ big := big_t 868 (by decide +kernel) (by decide +kernel)
theorem wI_X8_pass : Cond.instanceMethod yX8_pass ∈ big := big_t 869 (by decide +kernel) (by decide +kernel)
theorem wS_X8_pass : Cond.selects RX8 yX8_pass yX8_pass ∈ big := big_t 870 (by decide +kernel) (by decide +kernel)
theorem wC_X8_pass : Cond.code yX8_pass cX8_pass 2 (some .int) ∈ big := big_t 871 (by decide +kernel) (by decide +kernel)
theorem wM_L_54 : Cond.methodLink RL 54 yX8_train ∈ big := big_t 872 (by decide +kernel) (by decide +kernel)
theorem wI_X8_train : Cond.instanceMethod yX8_train ∈ big := big_t 873 (by decide +kernel) (by decide +kernel)
theorem wS_X8_train : Cond.selects RX8 yX8_train yX8_train ∈ big := big_t 874 (by decide +kernel) (by decide +kernel)
theorem wC_X8_train : Cond.code yX8_train cX8_train 7 (some .int) ∈ big := big_t 875 (by decide +kernel) (by decide +kernel)
theorem wM_X8_126 : Cond.methodLink RX8 126 yX8_readList ∈ big := big_t 876 (by decide +kernel) (by decide +kernel)
theorem wI_X8_readList : Cond.instanceMethod yX8_readList ∈ big := big_t 878 (by decide +kernel) (by decide +kernel)
theorem wC_X8_readList : Cond.code yX8_readList cX8_readList 8 (some .int) ∈ big := big_t 879 (by decide +kernel) (by decide +kernel)
theorem wK_X8_121 : Cond.constantLong RX8 121 31 ∈ big := big_t 880 (by decide +kernel) (by decide +kernel)
theorem wM_X8_123 : Cond.methodLink RX8 123 yX8_isWagon ∈ big := big_t 881 (by decide +kernel) (by decide +kernel)
theorem wI_X8_isWagon : Cond.instanceMethod yX8_isWagon ∈ big := big_t 883 (by decide +kernel) (by decide +kernel)
theorem wC_X8_isWagon : Cond.code yX8_isWagon cX8_isWagon 2 (some .boolean) ∈ big := big_t 884 (by decide +kernel) (by decide +kernel)
theorem wM_X8_130 : Cond.methodLink RX8 130 yX8_trainOf ∈ big := big_t 885 (by decide +kernel) (by decide +kernel)
theorem wI_X8_trainOf : Cond.instanceMethod yX8_trainOf ∈ big := big_t 887 (by decide +kernel) (by decide +kernel)
theorem wC_X8_trainOf : Cond.code yX8_trainOf cX8_trainOf 4 (some .int) ∈ big := big_t 888 (by decide +kernel) (by decide +kernel)
theorem wM_L_58 : Cond.methodLink RL 58 yX8_strike ∈ big := big_t 889 (by decide +kernel) (by decide +kernel)
theorem wI_X8_strike : Cond.instanceMethod yX8_strike ∈ big := big_t 890 (by decide +kernel) (by decide +kernel)
theorem wS_X8_strike : Cond.selects RX8 yX8_strike yX8_strike ∈ big := big_t 891 (by decide +kernel) (by decide +kernel)
theorem wC_X8_strike : Cond.code yX8_strike cX8_strike 2 (some .int) ∈ big := big_t 892 (by decide +kernel) (by decide +kernel)
theorem wM_X8_133 : Cond.methodLink RX8 133 yX8_isTrain ∈ big := big_t 893 (by decide +kernel) (by decide +kernel)
theorem wI_X8_isTrain : Cond.instanceMethod yX8_isTrain ∈ big := big_t 895 (by decide +kernel) (by decide +kernel)
theorem wC_X8_isTrain : Cond.code yX8_isTrain cX8_isTrain 2 (some .boolean) ∈ big := big_t 896 (by decide +kernel) (by decide +kernel)
theorem wM_X8_136 : Cond.methodLink RX8 136 yX8_dropTrain ∈ big := big_t 897 (by decide +kernel) (by decide +kernel)
theorem wI_X8_dropTrain : Cond.instanceMethod yX8_dropTrain ∈ big := big_t 899 (by decide +kernel) (by decide +kernel)
theorem wC_X8_dropTrain : Cond.code yX8_dropTrain cX8_dropTrain 3 none ∈ big := big_t 900 (by decide +kernel) (by decide +kernel)
theorem wM_L_62 : Cond.methodLink RL 62 yX8_leave ∈ big := big_t 901 (by decide +kernel) (by decide +kernel)
theorem wI_X8_leave : Cond.instanceMethod yX8_leave ∈ big := big_t 902 (by decide +kernel) (by decide +kernel)
theorem wS_X8_leave : Cond.selects RX8 yX8_leave yX8_leave ∈ big := big_t 903 (by decide +kernel) (by decide +kernel)
theorem wC_X8_leave : Cond.code yX8_leave cX8_leave 5 (some .int) ∈ big := big_t 904 (by decide +kernel) (by decide +kernel)
theorem wM_X8_139 : Cond.methodLink RX8 139 yX8_canLeave ∈ big := big_t 905 (by decide +kernel) (by decide +kernel)
theorem wI_X8_canLeave : Cond.instanceMethod yX8_canLeave ∈ big := big_t 907 (by decide +kernel) (by decide +kernel)
theorem wC_X8_canLeave : Cond.code yX8_canLeave cX8_canLeave 5 (some .boolean) ∈ big := big_t 908 (by decide +kernel) (by decide +kernel)
theorem wM_L_66 : Cond.methodLink RL 66 yX8_ofTrack ∈ big := big_t 909 (by decide +kernel) (by decide +kernel)
theorem wI_X8_ofTrack : Cond.instanceMethod yX8_ofTrack ∈ big := big_t 910 (by decide +kernel) (by decide +kernel)
theorem wS_X8_ofTrack : Cond.selects RX8 yX8_ofTrack yX8_ofTrack ∈ big := big_t 911 (by decide +kernel) (by decide +kernel)
theorem wC_X8_ofTrack : Cond.code yX8_ofTrack cX8_ofTrack 3 (some .int) ∈ big := big_t 912 (by decide +kernel) (by decide +kernel)
theorem wM_L_70 : Cond.methodLink RL 70 yX8_at ∈ big := big_t 913 (by decide +kernel) (by decide +kernel)
theorem wI_X8_at : Cond.instanceMethod yX8_at ∈ big := big_t 914 (by decide +kernel) (by decide +kernel)
theorem wS_X8_at : Cond.selects RX8 yX8_at yX8_at ∈ big := big_t 915 (by decide +kernel) (by decide +kernel)
theorem wC_X8_at : Cond.code yX8_at cX8_at 3 (some .int) ∈ big := big_t 916 (by decide +kernel) (by decide +kernel)
theorem wM_L_74 : Cond.methodLink RL 74 yX8_ofWagon ∈ big := big_t 917 (by decide +kernel) (by decide +kernel)
theorem wI_X8_ofWagon : Cond.instanceMethod yX8_ofWagon ∈ big := big_t 918 (by decide +kernel) (by decide +kernel)
theorem wS_X8_ofWagon : Cond.selects RX8 yX8_ofWagon yX8_ofWagon ∈ big := big_t 919 (by decide +kernel) (by decide +kernel)
theorem wC_X8_ofWagon : Cond.code yX8_ofWagon cX8_ofWagon 6 (some .int) ∈ big := big_t 920 (by decide +kernel) (by decide +kernel)
theorem wM_X8_146 : Cond.methodLink RX8 146 yX8_trackOf ∈ big := big_t 921 (by decide +kernel) (by decide +kernel)
theorem wI_X8_trackOf : Cond.instanceMethod yX8_trackOf ∈ big := big_t 923 (by decide +kernel) (by decide +kernel)
theorem wC_X8_trackOf : Cond.code yX8_trackOf cX8_trackOf 3 (some .int) ∈ big := big_t 924 (by decide +kernel) (by decide +kernel)
theorem wM_X8_142 : Cond.methodLink RX8 142 yX8_placeIn ∈ big := big_t 925 (by decide +kernel) (by decide +kernel)
theorem wI_X8_placeIn : Cond.instanceMethod yX8_placeIn ∈ big := big_t 927 (by decide +kernel) (by decide +kernel)
theorem wC_X8_placeIn : Cond.code yX8_placeIn cX8_placeIn 5 (some .int) ∈ big := big_t 928 (by decide +kernel) (by decide +kernel)
theorem wM_L_78 : Cond.methodLink RL 78 yX8_ofTrain ∈ big := big_t 929 (by decide +kernel) (by decide +kernel)
theorem wI_X8_ofTrain : Cond.instanceMethod yX8_ofTrain ∈ big := big_t 930 (by decide +kernel) (by decide +kernel)
theorem wS_X8_ofTrain : Cond.selects RX8 yX8_ofTrain yX8_ofTrain ∈ big := big_t 931 (by decide +kernel) (by decide +kernel)
theorem wC_X8_ofTrain : Cond.code yX8_ofTrain cX8_ofTrain 4 (some .int) ∈ big := big_t 932 (by decide +kernel) (by decide +kernel)
theorem wM_L_82 : Cond.methodLink RL 82 yX8_count ∈ big := big_t 933 (by decide +kernel) (by decide +kernel)
theorem wI_X8_count : Cond.instanceMethod yX8_count ∈ big := big_t 934 (by decide +kernel) (by decide +kernel)
theorem wS_X8_count : Cond.selects RX8 yX8_count yX8_count ∈ big := big_t 935 (by decide +kernel) (by decide +kernel)
theorem wC_X8_count : Cond.code yX8_count cX8_count 2 (some .int) ∈ big := big_t 936 (by decide +kernel) (by decide +kernel)
theorem wM_L_86 : Cond.methodLink RL 86 yX8_freeFrom ∈ big := big_t 937 (by decide +kernel) (by decide +kernel)
theorem wI_X8_freeFrom : Cond.instanceMethod yX8_freeFrom ∈ big := big_t 938 (by decide +kernel) (by decide +kernel)
theorem wS_X8_freeFrom : Cond.selects RX8 yX8_freeFrom yX8_freeFrom ∈ big := big_t 939 (by decide +kernel) (by decide +kernel)
theorem wC_X8_freeFrom : Cond.code yX8_freeFrom cX8_freeFrom 2 (some .int) ∈ big := big_t 940 (by decide +kernel) (by decide +kernel)
theorem wM_L_90 : Cond.methodLink RL 90 yX8_straight ∈ big := big_t 941 (by decide +kernel) (by decide +kernel)
theorem wI_X8_straight : Cond.instanceMethod yX8_straight ∈ big := big_t 942 (by decide +kernel) (by decide +kernel)
theorem wS_X8_straight : Cond.selects RX8 yX8_straight yX8_straight ∈ big := big_t 943 (by decide +kernel) (by decide +kernel)
theorem wC_X8_straight : Cond.code yX8_straight cX8_straight 2 (some .int) ∈ big := big_t 944 (by decide +kernel) (by decide +kernel)
theorem wM_X8_155 : Cond.methodLink RX8 155 yX8_layPulls ∈ big := big_t 945 (by decide +kernel) (by decide +kernel)
theorem wI_X8_layPulls : Cond.instanceMethod yX8_layPulls ∈ big := big_t 947 (by decide +kernel) (by decide +kernel)
theorem wC_X8_layPulls : Cond.code yX8_layPulls cX8_layPulls 6 (some .boolean) ∈ big := big_t 948 (by decide +kernel) (by decide +kernel)
theorem wM_L_94 : Cond.methodLink RL 94 yX8_pulls ∈ big := big_t 949 (by decide +kernel) (by decide +kernel)
theorem wI_X8_pulls : Cond.instanceMethod yX8_pulls ∈ big := big_t 950 (by decide +kernel) (by decide +kernel)
theorem wS_X8_pulls : Cond.selects RX8 yX8_pulls yX8_pulls ∈ big := big_t 951 (by decide +kernel) (by decide +kernel)
theorem wC_X8_pulls : Cond.code yX8_pulls cX8_pulls 2 (some .int) ∈ big := big_t 952 (by decide +kernel) (by decide +kernel)
theorem wM_L_98 : Cond.methodLink RL 98 yX8_wouldLeave ∈ big := big_t 953 (by decide +kernel) (by decide +kernel)
theorem wI_X8_wouldLeave : Cond.instanceMethod yX8_wouldLeave ∈ big := big_t 954 (by decide +kernel) (by decide +kernel)
theorem wS_X8_wouldLeave : Cond.selects RX8 yX8_wouldLeave yX8_wouldLeave ∈ big := big_t 955 (by decide +kernel) (by decide +kernel)
theorem wC_X8_wouldLeave : Cond.code yX8_wouldLeave cX8_wouldLeave 6 (some .int) ∈ big := big_t 956 (by decide +kernel) (by decide +kernel)
theorem wM_L_102 : Cond.methodLink RL 102 yX8_moves ∈ big := big_t 957 (by decide +kernel) (by decide +kernel)
theorem wI_X8_moves : Cond.instanceMethod yX8_moves ∈ big := big_t 958 (by decide +kernel) (by decide +kernel)
theorem wS_X8_moves : Cond.selects RX8 yX8_moves yX8_moves ∈ big := big_t 959 (by decide +kernel) (by decide +kernel)
theorem wC_X8_moves : Cond.code yX8_moves cX8_moves 5 (some .int) ∈ big := big_t 960 (by decide +kernel) (by decide +kernel)
theorem wM_X8_161 : Cond.methodLink RX8 161 yX8_oneMore ∈ big := big_t 961 (by decide +kernel) (by decide +kernel)
theorem wI_X8_oneMore : Cond.instanceMethod yX8_oneMore ∈ big := big_t 963 (by decide +kernel) (by decide +kernel)
theorem wC_X8_oneMore : Cond.code yX8_oneMore cX8_oneMore 5 (some .boolean) ∈ big := big_t 964 (by decide +kernel) (by decide +kernel)
theorem wM_X8_158 : Cond.methodLink RX8 158 yX8_comeBack2 ∈ big := big_t 965 (by decide +kernel) (by decide +kernel)
theorem wI_X8_comeBack2 : Cond.instanceMethod yX8_comeBack2 ∈ big := big_t 967 (by decide +kernel) (by decide +kernel)
theorem wC_X8_comeBack2 : Cond.code yX8_comeBack2 cX8_comeBack2 2 none ∈ big := big_t 968 (by decide +kernel) (by decide +kernel)
theorem wM_X8_164 : Cond.methodLink RX8 164 yX8_comeBack ∈ big := big_t 969 (by decide +kernel) (by decide +kernel)
theorem wI_X8_comeBack : Cond.instanceMethod yX8_comeBack ∈ big := big_t 971 (by decide +kernel) (by decide +kernel)
theorem wC_X8_comeBack : Cond.code yX8_comeBack cX8_comeBack 2 none ∈ big := big_t 972 (by decide +kernel) (by decide +kernel)
theorem wM_L_106 : Cond.methodLink RL 106 yX8_roomFor ∈ big := big_t 973 (by decide +kernel) (by decide +kernel)
theorem wI_X8_roomFor : Cond.instanceMethod yX8_roomFor ∈ big := big_t 974 (by decide +kernel) (by decide +kernel)
theorem wS_X8_roomFor : Cond.selects RX8 yX8_roomFor yX8_roomFor ∈ big := big_t 975 (by decide +kernel) (by decide +kernel)
theorem wC_X8_roomFor : Cond.code yX8_roomFor cX8_roomFor 3 (some .int) ∈ big := big_t 976 (by decide +kernel) (by decide +kernel)
theorem wM_L_110 : Cond.methodLink RL 110 yX8_buried ∈ big := big_t 977 (by decide +kernel) (by decide +kernel)
theorem wI_X8_buried : Cond.instanceMethod yX8_buried ∈ big := big_t 978 (by decide +kernel) (by decide +kernel)
theorem wS_X8_buried : Cond.selects RX8 yX8_buried yX8_buried ∈ big := big_t 979 (by decide +kernel) (by decide +kernel)
theorem wC_X8_buried : Cond.code yX8_buried cX8_buried 8 (some .int) ∈ big := big_t 980 (by decide +kernel) (by decide +kernel)
theorem wM_L_115 : Cond.methodLink RL 115 yX8_put ∈ big := big_t 981 (by decide +kernel) (by decide +kernel)
theorem wI_X8_put : Cond.instanceMethod yX8_put ∈ big := big_t 982 (by decide +kernel) (by decide +kernel)
theorem wS_X8_put : Cond.selects RX8 yX8_put yX8_put ∈ big := big_t 983 (by decide +kernel) (by decide +kernel)
theorem wC_X8_put : Cond.code yX8_put cX8_put 7 (some .int) ∈ big := big_t 984 (by decide +kernel) (by decide +kernel)
theorem wK_X8_188 : Cond.constantLong RX8 188 255 ∈ big := big_t 985 (by decide +kernel) (by decide +kernel)
theorem wM_L_119 : Cond.methodLink RL 119 yX8_wipe ∈ big := big_t 986 (by decide +kernel) (by decide +kernel)
theorem wI_X8_wipe : Cond.instanceMethod yX8_wipe ∈ big := big_t 987 (by decide +kernel) (by decide +kernel)
theorem wS_X8_wipe : Cond.selects RX8 yX8_wipe yX8_wipe ∈ big := big_t 988 (by decide +kernel) (by decide +kernel)
theorem wC_X8_wipe : Cond.code yX8_wipe cX8_wipe 2 (some .int) ∈ big := big_t 989 (by decide +kernel) (by decide +kernel)
theorem wM_L_123 : Cond.methodLink RL 123 yX8_fault ∈ big := big_t 990 (by decide +kernel) (by decide +kernel)
theorem wI_X8_fault : Cond.instanceMethod yX8_fault ∈ big := big_t 991 (by decide +kernel) (by decide +kernel)
theorem wS_X8_fault : Cond.selects RX8 yX8_fault yX8_fault ∈ big := big_t 992 (by decide +kernel) (by decide +kernel)
theorem wC_X8_fault : Cond.code yX8_fault cX8_fault 1 (some .int) ∈ big := big_t 993 (by decide +kernel) (by decide +kernel)
theorem wM_X8_190 : Cond.methodLink RX8 190 yX8_faultOf ∈ big := big_t 994 (by decide +kernel) (by decide +kernel)
theorem wI_X8_faultOf : Cond.instanceMethod yX8_faultOf ∈ big := big_t 996 (by decide +kernel) (by decide +kernel)
theorem wC_X8_faultOf : Cond.code yX8_faultOf cX8_faultOf 1 (some .int) ∈ big := big_t 997 (by decide +kernel) (by decide +kernel)
theorem wM_X8_185 : Cond.methodLink RX8 185 yX8_readOne ∈ big := big_t 998 (by decide +kernel) (by decide +kernel)
theorem wI_X8_readOne : Cond.instanceMethod yX8_readOne ∈ big := big_t 1000 (by decide +kernel) (by decide +kernel)
theorem wC_X8_readOne : Cond.code yX8_readOne cX8_readOne 3 none ∈ big := big_t 1001 (by decide +kernel) (by decide +kernel)
theorem wM_X8_170 : Cond.methodLink RX8 170 yX8_sign ∈ big := big_t 1002 (by decide +kernel) (by decide +kernel)
theorem wI_X8_sign : Cond.instanceMethod yX8_sign ∈ big := big_t 1004 (by decide +kernel) (by decide +kernel)
theorem wC_X8_sign : Cond.code yX8_sign cX8_sign 1 (some .int) ∈ big := big_t 1005 (by decide +kernel) (by decide +kernel)
theorem wM_X8_176 : Cond.methodLink RX8 176 yX8_one ∈ big := big_t 1006 (by decide +kernel) (by decide +kernel)
theorem wI_X8_one : Cond.instanceMethod yX8_one ∈ big := big_t 1008 (by decide +kernel) (by decide +kernel)
theorem wC_X8_one : Cond.code yX8_one cX8_one 4 (some .int) ∈ big := big_t 1009 (by decide +kernel) (by decide +kernel)
theorem wM_X8_182 : Cond.methodLink RX8 182 yX8_number ∈ big := big_t 1010 (by decide +kernel) (by decide +kernel)
theorem wI_X8_number : Cond.instanceMethod yX8_number ∈ big := big_t 1012 (by decide +kernel) (by decide +kernel)
theorem wC_X8_number : Cond.code yX8_number cX8_number 2 (some .int) ∈ big := big_t 1013 (by decide +kernel) (by decide +kernel)
theorem wM_L_127 : Cond.methodLink RL 127 yX8_carryOut ∈ big := big_t 1014 (by decide +kernel) (by decide +kernel)
theorem wI_X8_carryOut : Cond.instanceMethod yX8_carryOut ∈ big := big_t 1015 (by decide +kernel) (by decide +kernel)
theorem wS_X8_carryOut : Cond.selects RX8 yX8_carryOut yX8_carryOut ∈ big := big_t 1016 (by decide +kernel) (by decide +kernel)
theorem wC_X8_carryOut : Cond.code yX8_carryOut cX8_carryOut 2 (some .int) ∈ big := big_t 1017 (by decide +kernel) (by decide +kernel)
theorem wM_X8_208 : Cond.methodLink RX8 208 yX8_carry ∈ big := big_t 1018 (by decide +kernel) (by decide +kernel)
theorem wI_X8_carry : Cond.instanceMethod yX8_carry ∈ big := big_t 1020 (by decide +kernel) (by decide +kernel)
theorem wC_X8_carry : Cond.code yX8_carry cX8_carry 3 (some .int) ∈ big := big_t 1021 (by decide +kernel) (by decide +kernel)
theorem wM_X8_193 : Cond.methodLink RX8 193 yX8_pull ∈ big := big_t 1022 (by decide +kernel) (by decide +kernel)
theorem wM_X8_196 : Cond.methodLink RX8 196 yX8_push ∈ big := big_t 1023 (by decide +kernel) (by decide +kernel)
theorem wM_X8_199 : Cond.methodLink RX8 199 yX8_round ∈ big := big_t 1024 (by decide +kernel) (by decide +kernel)
theorem wM_X8_202 : Cond.methodLink RX8 202 yX8_pass ∈ big := big_t 1025 (by decide +kernel) (by decide +kernel)
theorem wM_X8_205 : Cond.methodLink RX8 205 yX8_leave ∈ big := big_t 1026 (by decide +kernel) (by decide +kernel)
theorem wM_L_131 : Cond.methodLink RL 131 yX8_undo ∈ big := big_t 1027 (by decide +kernel) (by decide +kernel)
theorem wI_X8_undo : Cond.instanceMethod yX8_undo ∈ big := big_t 1028 (by decide +kernel) (by decide +kernel)
theorem wS_X8_undo : Cond.selects RX8 yX8_undo yX8_undo ∈ big := big_t 1029 (by decide +kernel) (by decide +kernel)
theorem wC_X8_undo : Cond.code yX8_undo cX8_undo 2 (some .int) ∈ big := big_t 1030 (by decide +kernel) (by decide +kernel)
theorem wM_L_135 : Cond.methodLink RL 135 yX8_save ∈ big := big_t 1031 (by decide +kernel) (by decide +kernel)
theorem wI_X8_save : Cond.instanceMethod yX8_save ∈ big := big_t 1032 (by decide +kernel) (by decide +kernel)
theorem wS_X8_save : Cond.selects RX8 yX8_save yX8_save ∈ big := big_t 1033 (by decide +kernel) (by decide +kernel)
theorem wC_X8_save : Cond.code yX8_save cX8_save 3 (some .int) ∈ big := big_t 1034 (by decide +kernel) (by decide +kernel)
theorem wM_L_139 : Cond.methodLink RL 139 yX8_restore ∈ big := big_t 1035 (by decide +kernel) (by decide +kernel)
theorem wI_X8_restore : Cond.instanceMethod yX8_restore ∈ big := big_t 1036 (by decide +kernel) (by decide +kernel)
theorem wS_X8_restore : Cond.selects RX8 yX8_restore yX8_restore ∈ big := big_t 1037 (by decide +kernel) (by decide +kernel)
theorem wC_X8_restore : Cond.code yX8_restore cX8_restore 3 (some .int) ∈ big := big_t 1038 (by decide +kernel) (by decide +kernel)
theorem wK_L_48 : Cond.constantLong RL 48 4294967295 ∈ big := big_t 1039 (by decide +kernel) (by decide +kernel)
theorem wS_X1_dropOldest : Cond.selects RX1 yX1_dropOldest yX1_dropOldest ∈ big := big_s 0 (by decide +kernel) (by decide +kernel)
theorem wS_X6_makeMove : Cond.selects RX6 yX6_makeMove yX6_makeMove ∈ big := big_s 1 (by decide +kernel) (by decide +kernel)
theorem wS_X6_comeTo : Cond.selects RX6 yX6_comeTo yX6_comeTo ∈ big := big_s 2 (by decide +kernel) (by decide +kernel)
theorem wS_X7_readList : Cond.selects RX7 yX7_readList yX7_readList ∈ big := big_s 3 (by decide +kernel) (by decide +kernel)
theorem wS_X6_areThere : Cond.selects RX6 yX6_areThere yX6_areThere ∈ big := big_s 4 (by decide +kernel) (by decide +kernel)
theorem wS_X6_lengthOfList : Cond.selects RX6 yX6_lengthOfList yX6_lengthOfList ∈ big := big_s 5 (by decide +kernel) (by decide +kernel)
theorem wS_X4_trackOfNext : Cond.selects RX4 yX4_trackOfNext yX4_trackOfNext ∈ big := big_s 6 (by decide +kernel) (by decide +kernel)
theorem wS_X4_manyNext : Cond.selects RX4 yX4_manyNext yX4_manyNext ∈ big := big_s 7 (by decide +kernel) (by decide +kernel)
theorem wS_X4_couldAfterOne : Cond.selects RX4 yX4_couldAfterOne yX4_couldAfterOne ∈ big := big_s 8 (by decide +kernel) (by decide +kernel)
theorem wS_X4_isTurned : Cond.selects RX4 yX4_isTurned yX4_isTurned ∈ big := big_s 9 (by decide +kernel) (by decide +kernel)
theorem wS_X4_couldAfterTakingOut : Cond.selects RX4 yX4_couldAfterTakingOut yX4_couldAfterTakingOut ∈ big := big_s 10 (by decide +kernel) (by decide +kernel)
theorem wS_X4_couldAfterBringingIn : Cond.selects RX4 yX4_couldAfterBringingIn yX4_couldAfterBringingIn ∈ big := big_s 11 (by decide +kernel) (by decide +kernel)
theorem wS_X4_couldAfterGoingRound : Cond.selects RX4 yX4_couldAfterGoingRound yX4_couldAfterGoingRound ∈ big := big_s 12 (by decide +kernel) (by decide +kernel)
theorem wS_X6_isBuried : Cond.selects RX6 yX6_isBuried yX6_isBuried ∈ big := big_s 13 (by decide +kernel) (by decide +kernel)
theorem wS_X7_carryOne : Cond.selects RX7 yX7_carryOne yX7_carryOne ∈ big := big_s 14 (by decide +kernel) (by decide +kernel)
theorem wS_X8_record : Cond.selects RX8 yX8_record yX8_record ∈ big := big_s 15 (by decide +kernel) (by decide +kernel)
theorem wS_X8_isTrack : Cond.selects RX8 yX8_isTrack yX8_isTrack ∈ big := big_s 16 (by decide +kernel) (by decide +kernel)
theorem wS_X8_lengthOn : Cond.selects RX8 yX8_lengthOn yX8_lengthOn ∈ big := big_s 17 (by decide +kernel) (by decide +kernel)
theorem wS_X8_manyOn : Cond.selects RX8 yX8_manyOn yX8_manyOn ∈ big := big_s 18 (by decide +kernel) (by decide +kernel)
theorem wS_X8_lengths : Cond.selects RX8 yX8_lengths yX8_lengths ∈ big := big_s 19 (by decide +kernel) (by decide +kernel)
theorem wS_X8_lengthOf : Cond.selects RX8 yX8_lengthOf yX8_lengthOf ∈ big := big_s 20 (by decide +kernel) (by decide +kernel)
theorem wS_X8_canPull : Cond.selects RX8 yX8_canPull yX8_canPull ∈ big := big_s 21 (by decide +kernel) (by decide +kernel)
theorem wS_X8_lengthAtEngine : Cond.selects RX8 yX8_lengthAtEngine yX8_lengthAtEngine ∈ big := big_s 22 (by decide +kernel) (by decide +kernel)
theorem wS_X8_drawOut : Cond.selects RX8 yX8_drawOut yX8_drawOut ∈ big := big_s 23 (by decide +kernel) (by decide +kernel)
theorem wS_X8_take : Cond.selects RX8 yX8_take yX8_take ∈ big := big_s 24 (by decide +kernel) (by decide +kernel)
theorem wS_X8_freeAt : Cond.selects RX8 yX8_freeAt yX8_freeAt ∈ big := big_s 25 (by decide +kernel) (by decide +kernel)
theorem wS_X8_comeTo : Cond.selects RX8 yX8_comeTo yX8_comeTo ∈ big := big_s 26 (by decide +kernel) (by decide +kernel)
theorem wS_X8_canPush : Cond.selects RX8 yX8_canPush yX8_canPush ∈ big := big_s 27 (by decide +kernel) (by decide +kernel)
theorem wS_X8_setBack : Cond.selects RX8 yX8_setBack yX8_setBack ∈ big := big_s 28 (by decide +kernel) (by decide +kernel)
theorem wS_X8_canRound : Cond.selects RX8 yX8_canRound yX8_canRound ∈ big := big_s 29 (by decide +kernel) (by decide +kernel)
theorem wS_X8_turnRound : Cond.selects RX8 yX8_turnRound yX8_turnRound ∈ big := big_s 30 (by decide +kernel) (by decide +kernel)
theorem wS_X8_readList : Cond.selects RX8 yX8_readList yX8_readList ∈ big := big_s 31 (by decide +kernel) (by decide +kernel)
theorem wS_X8_isWagon : Cond.selects RX8 yX8_isWagon yX8_isWagon ∈ big := big_s 32 (by decide +kernel) (by decide +kernel)
theorem wS_X8_trainOf : Cond.selects RX8 yX8_trainOf yX8_trainOf ∈ big := big_s 33 (by decide +kernel) (by decide +kernel)
theorem wS_X8_isTrain : Cond.selects RX8 yX8_isTrain yX8_isTrain ∈ big := big_s 34 (by decide +kernel) (by decide +kernel)
theorem wS_X8_dropTrain : Cond.selects RX8 yX8_dropTrain yX8_dropTrain ∈ big := big_s 35 (by decide +kernel) (by decide +kernel)
theorem wS_X8_canLeave : Cond.selects RX8 yX8_canLeave yX8_canLeave ∈ big := big_s 36 (by decide +kernel) (by decide +kernel)
theorem wS_X8_trackOf : Cond.selects RX8 yX8_trackOf yX8_trackOf ∈ big := big_s 37 (by decide +kernel) (by decide +kernel)
theorem wS_X8_placeIn : Cond.selects RX8 yX8_placeIn yX8_placeIn ∈ big := big_s 38 (by decide +kernel) (by decide +kernel)
theorem wS_X8_layPulls : Cond.selects RX8 yX8_layPulls yX8_layPulls ∈ big := big_s 39 (by decide +kernel) (by decide +kernel)
theorem wS_X8_oneMore : Cond.selects RX8 yX8_oneMore yX8_oneMore ∈ big := big_s 40 (by decide +kernel) (by decide +kernel)
theorem wS_X8_comeBack2 : Cond.selects RX8 yX8_comeBack2 yX8_comeBack2 ∈ big := big_s 41 (by decide +kernel) (by decide +kernel)
theorem wS_X8_comeBack : Cond.selects RX8 yX8_comeBack yX8_comeBack ∈ big := big_s 42 (by decide +kernel) (by decide +kernel)
theorem wS_X8_faultOf : Cond.selects RX8 yX8_faultOf yX8_faultOf ∈ big := big_s 43 (by decide +kernel) (by decide +kernel)
theorem wS_X8_readOne : Cond.selects RX8 yX8_readOne yX8_readOne ∈ big := big_s 44 (by decide +kernel) (by decide +kernel)
theorem wS_X8_sign : Cond.selects RX8 yX8_sign yX8_sign ∈ big := big_s 45 (by decide +kernel) (by decide +kernel)
theorem wS_X8_one : Cond.selects RX8 yX8_one yX8_one ∈ big := big_s 46 (by decide +kernel) (by decide +kernel)
theorem wS_X8_number : Cond.selects RX8 yX8_number yX8_number ∈ big := big_s 47 (by decide +kernel) (by decide +kernel)
theorem wS_X8_carry : Cond.selects RX8 yX8_carry yX8_carry ∈ big := big_s 48 (by decide +kernel) (by decide +kernel)
theorem iX0 : ∀ w ∈ u_ws RX0 TX0 3, w ∈ big := by decide +kernel
theorem iX1 : ∀ w ∈ u_ws RX1 TX1 2, w ∈ big := by decide +kernel
theorem iX2 : ∀ w ∈ u_ws RX2 TX2 2, w ∈ big := by decide +kernel
theorem iX3 : ∀ w ∈ u_ws RX3 TX3 4, w ∈ big := by decide +kernel
theorem iX4 : ∀ w ∈ u_ws RX4 TX4 1, w ∈ big := by decide +kernel
theorem iX5 : ∀ w ∈ u_ws RX5 TX5 7, w ∈ big := by decide +kernel
theorem iX6 : ∀ w ∈ u_ws RX6 TX6 14, w ∈ big := by decide +kernel
theorem iX7 : ∀ w ∈ u_ws RX7 TX7 7, w ∈ big := by decide +kernel
theorem iX8 : ∀ w ∈ u_ws RX8 TX8 19, w ∈ big := by decide +kernel
def nF : List (String × Nat × String × String × String × String) := [(RX6, 9, RX7, "FIRST_VALUES", "[I", "PickupYard"), (RX6, 101, RX5, "number", "I", "PickupYard"), (RX6, 227, RX5, "manyGone", "I", "PickupYard"), (RX6, 212, RX5, "length", "[I", "PickupYard"), (RX6, 215, RX5, "leftAt", "[I", "PickupYard"), (RX6, 218, RX5, "timesPulled", "[I", "PickupYard"), (RX6, 112, RX0, "number", "I", "PickupYard"), (RX6, 162, RX3, "waiting", "I", "PickupYard"), (RX6, 183, RX3, "due", "[I", "PickupYard"), (RX7, 135, RX6, "minute", "I", "PickupYard"), (RX4, 76, RX6, "tracks", "I", "PickupYard"), (RX4, 26, RX6, "wagons", "LPickupYard$Wagons;", "PickupYard"), (RX7, 102, RX6, "wagons", "LPickupYard$Wagons;", "PickupYard"), (RX7, 131, RX6, "blocks", "LPickupYard$Blocks;", "PickupYard"), (RX4, 35, RX6, "trains", "LPickupYard$Trains;", "PickupYard"), (RX7, 143, RX6, "trains", "LPickupYard$Trains;", "PickupYard"), (RX7, 156, RX4, "copy", "LPickupYard$Yard;", "PickupYard"), (RX7, 125, RX1, "number", "I", "PickupYard"), (RX7, 121, RX2, "length", "I", "PickupYard"), (RX6, 91, RX7, "LEAST_VALUES", "[I", "PickupYard"), (RX6, 94, RX7, "MOST_VALUES", "[I", "PickupYard")]
def nM : List (String × Nat × MethodName × String) := [(RX7, 11, yX6_init, "PickupYard"), (RX6, 34, yX5_init, "PickupYard"), (RX6, 41, yX0_init, "PickupYard"), (RX6, 48, yX3_init, "PickupYard"), (RX7, 18, yX4_init, "PickupYard"), (RX4, 11, yX6_init, "PickupYard"), (RX1, 17, yX6_init, "PickupYard"), (RX7, 40, yX2_init, "PickupYard")]
theorem nF_in : ∀ q ∈ nF, Cond.fieldLinkNest q.1 q.2.1 q.2.2.1 q.2.2.2.1 q.2.2.2.2.1 q.2.2.2.2.2 ∈ tables_1 := by decide +kernel
theorem nM_in : ∀ q ∈ nM, Cond.methodLinkNest q.1 q.2.1 q.2.2.1 q.2.2.2 ∈ tables_1 := by decide +kernel
end
section
abbrev xT := (Nat → Nat → Nat) × va_G × (Nat → ClassId) × Nat
abbrev mT := Nat → Nat → Nat → Int32
def x_A (X : xT) : Nat → Prop := fun q => X.2.2.2 ≤ q
def x_v (κ j : Nat) : Prop := (κ < 18 ∧ j < 11) ∨ (18 ≤ κ ∧ κ < 40 ∧ j = 0)
def x_n (κ j : Nat) : Nat := if κ < 18 then 11 * κ + j else κ + 180
def x_k (n : Nat) : Nat × Nat := if n < 198 then (n / 11, n % 11) else (n - 180, 0)
theorem x_vy {κ j : Nat} (h : κ < 18) (hj : j < 11) : x_v κ j := Or.inl ⟨h, hj⟩
theorem x_v0 {κ : Nat} (h : 18 ≤ κ ∧ κ < 40) : x_v κ 0 := Or.inr ⟨h.1, h.2, rfl⟩
theorem x_nl {κ j : Nat} (h : x_v κ j) : x_n κ j < 220 := by unfold x_n; rcases h with ⟨h1, h2⟩ | ⟨h1, h2, h3⟩ <;> split <;> omega
theorem x_kn {κ j : Nat} (h : x_v κ j) : x_k (x_n κ j) = (κ, j) := by
  rcases h with ⟨h1, h2⟩ | ⟨h1, h2, h3⟩
  · have e : x_n κ j = 11 * κ + j := if_pos h1
    rw [e]
    unfold x_k
    rw [if_pos (by omega)]
    exact Prod.ext (by show (11 * κ + j) / 11 = κ; omega) (by show (11 * κ + j) % 11 = j; omega)
  · subst h3
    have e : x_n κ 0 = κ + 180 := if_neg (by omega)
    rw [e]
    unfold x_k
    rw [if_neg (by omega)]
    exact Prod.ext (by show κ + 180 - 180 = κ; omega) rfl
theorem x_nk {n : Nat} (h : n < 220) : x_n (x_k n).1 (x_k n).2 = n ∧ x_v (x_k n).1 (x_k n).2 := by
  unfold x_n x_k x_v
  by_cases h1 : n < 198
  · rw [if_pos h1]
    dsimp only
    refine ⟨?_, Or.inl ⟨by omega, by omega⟩⟩
    rw [if_pos (by omega)]
    omega
  · rw [if_neg h1]
    dsimp only
    refine ⟨?_, Or.inr ⟨by omega, by omega, rfl⟩⟩
    rw [if_neg (by omega)]
    omega
def x_c (X : xT) (κ j : Nat) (r : Nat → Int32) : va_E := match κ with
  | 0 => .inr (6, [.int (r 0), .int (r 1), .int (r 2), .int (r 3), .int (r 4), .int (r 5), .ref (X.1 4 j), .int (r 7), .ref (X.1 5 j), .ref (X.1 6 j), .ref (X.1 7 j), .ref (X.1 1 j), .ref (X.1 2 j), .ref (X.1 3 j)])
  | 1 => .inr (5, [.int (r 0), .int (r 1), .ref (X.1 8 j), .ref (X.1 9 j), .ref (X.1 10 j), .ref (X.1 11 j), .ref (X.1 12 j)])
  | 2 => .inr (0, [.int (r 0), .ref (X.1 13 j), .ref (X.1 14 j)])
  | 3 => .inr (3, [.int (r 0), .ref (X.1 15 j), .ref (X.1 16 j), .ref (X.1 17 j)])
  | 4 => .inl (X.2.2.1 0, 6, .inl r)
  | 5 => .inl (X.2.2.1 0, 8, .inl r)
  | 6 => .inl (X.2.2.1 0, 8, .inl r)
  | 7 => .inl (X.2.2.1 0, 8, .inl r)
  | 8 => .inl (X.2.2.1 0, 30, .inl r)
  | 9 => .inl (X.2.2.1 0, 30, .inl r)
  | 10 => .inl (X.2.2.1 0, 30, .inl r)
  | 11 => .inl (X.2.2.1 0, 9, .inl r)
  | 12 => .inl (X.2.2.1 0, 270, .inl r)
  | 13 => .inl (X.2.2.1 0, 10, .inl r)
  | 14 => .inl (X.2.2.1 0, 10, .inl r)
  | 15 => .inl (X.2.2.1 0, 8, .inl r)
  | 16 => .inl (X.2.2.1 0, 8, .inl r)
  | 17 => .inl (X.2.2.1 0, 64, .inl r)
  | 18 => .inr (7, [.ref (X.1 0 0), .ref (X.1 20 0), .ref (X.1 19 0), .ref (X.1 23 0), .ref (X.1 24 0), .ref (X.1 21 0), .ref (X.1 26 0)])
  | 19 => .inr (1, [.int (r 0), .ref (X.1 22 0)])
  | 20 => .inr (4, [.ref (X.1 0 1)])
  | 21 => .inr (2, [.int (r 0), .ref (X.1 25 0)])
  | 22 => .inl (X.2.2.1 3, 7, .inr (.inr (.inr (.inr (fun k => some (X.1 0 (r k).toNatClampNeg))))))
  | 23 => .inl (X.2.2.1 3, 2, .inr (.inr (.inr (.inr (fun k => some (X.1 0 (r k).toNatClampNeg))))))
  | 24 => .inl (X.2.2.1 1, 2, .inl r)
  | 25 => .inl (X.2.2.1 2, 80, .inl r)
  | 26 => .inl (X.2.2.1 0, 8, .inl r)
  | 27 => .inr (8, [.ref (X.1 28 0), .ref (X.1 29 0), .ref (X.1 30 0), .ref (X.1 31 0), .int (r 4), .ref (X.1 32 0), .ref (X.1 33 0), .ref (X.1 34 0), .int (r 8), .int (r 9), .ref (X.1 35 0), .ref (X.1 36 0), .ref (X.1 37 0), .ref (X.1 38 0), .int (r 14), .ref (X.1 39 0), .int (r 16), .int (r 17), .int (r 18)])
  | 28 => .inl (X.2.2.1 0, 560, .inl r)
  | 29 => .inl (X.2.2.1 0, 560, .inl r)
  | 30 => .inl (X.2.2.1 0, 560, .inl r)
  | 31 => .inl (X.2.2.1 0, 3360, .inl r)
  | 32 => .inl (X.2.2.1 0, 1120, .inl r)
  | 33 => .inl (X.2.2.1 1, 2, .inl r)
  | 34 => .inl (X.2.2.1 0, 80, .inl r)
  | 35 => .inl (X.2.2.1 0, 8, .inl r)
  | 36 => .inl (X.2.2.1 0, 8, .inl r)
  | 37 => .inl (X.2.2.1 0, 8, .inl r)
  | 38 => .inl (X.2.2.1 0, 8, .inl r)
  | 39 => .inl (X.2.2.1 0, 240, .inl r)
  | _ => .inl (X.2.2.1 0, 0, .inl r)
def x_ai (κ t n : Nat) : Prop := ∀ (X : xT) (j : Nat) (r : Nat → Int32), x_c X κ j r = .inl (X.2.2.1 t, n, .inl r)
def x_aq (κ n : Nat) : Prop := ∀ (X : xT) (j : Nat) (r : Nat → Int32), x_c X κ j r = .inl (X.2.2.1 3, n, .inr (.inr (.inr (.inr (fun k => some (X.1 0 (r k).toNatClampNeg))))))
theorem a_4 : x_ai 4 0 6 := fun _ _ _ => rfl
theorem a_5 : x_ai 5 0 8 := fun _ _ _ => rfl
theorem a_6 : x_ai 6 0 8 := fun _ _ _ => rfl
theorem a_7 : x_ai 7 0 8 := fun _ _ _ => rfl
theorem a_8 : x_ai 8 0 30 := fun _ _ _ => rfl
theorem a_9 : x_ai 9 0 30 := fun _ _ _ => rfl
theorem a_10 : x_ai 10 0 30 := fun _ _ _ => rfl
theorem a_11 : x_ai 11 0 9 := fun _ _ _ => rfl
theorem a_12 : x_ai 12 0 270 := fun _ _ _ => rfl
theorem a_13 : x_ai 13 0 10 := fun _ _ _ => rfl
theorem a_14 : x_ai 14 0 10 := fun _ _ _ => rfl
theorem a_15 : x_ai 15 0 8 := fun _ _ _ => rfl
theorem a_16 : x_ai 16 0 8 := fun _ _ _ => rfl
theorem a_17 : x_ai 17 0 64 := fun _ _ _ => rfl
theorem a_22 : x_aq 22 7 := fun _ _ _ => rfl
theorem a_23 : x_aq 23 2 := fun _ _ _ => rfl
theorem a_24 : x_ai 24 1 2 := fun _ _ _ => rfl
theorem a_25 : x_ai 25 2 80 := fun _ _ _ => rfl
theorem a_26 : x_ai 26 0 8 := fun _ _ _ => rfl
theorem a_28 : x_ai 28 0 560 := fun _ _ _ => rfl
theorem a_29 : x_ai 29 0 560 := fun _ _ _ => rfl
theorem a_30 : x_ai 30 0 560 := fun _ _ _ => rfl
theorem a_31 : x_ai 31 0 3360 := fun _ _ _ => rfl
theorem a_32 : x_ai 32 0 1120 := fun _ _ _ => rfl
theorem a_33 : x_ai 33 1 2 := fun _ _ _ => rfl
theorem a_34 : x_ai 34 0 80 := fun _ _ _ => rfl
theorem a_35 : x_ai 35 0 8 := fun _ _ _ => rfl
theorem a_36 : x_ai 36 0 8 := fun _ _ _ => rfl
theorem a_37 : x_ai 37 0 8 := fun _ _ _ => rfl
theorem a_38 : x_ai 38 0 8 := fun _ _ _ => rfl
theorem a_39 : x_ai 39 0 240 := fun _ _ _ => rfl
def x_w (X : xT) (μ : mT) : va_W := (List.range 220).map fun n => (X.1 (x_k n).1 (x_k n).2, x_c X (x_k n).1 (x_k n).2 (μ (x_k n).1 (x_k n).2))
def upR (μ : mT) (κ j : Nat) (r : Nat → Int32) : mT := fun κ' j' => if κ' = κ ∧ j' = j then r else μ κ' j'
def upM (μ : mT) (κ j k : Nat) (x : Int32) : mT := upR μ κ j (upd (μ κ j) k x)
theorem x_wn (X : xT) (μ : mT) {n : Nat} (h : n < 220) : (x_w X μ)[n]? = some (X.1 (x_k n).1 (x_k n).2, x_c X (x_k n).1 (x_k n).2 (μ (x_k n).1 (x_k n).2)) := by
  unfold x_w
  rw [List.getElem?_map, List.getElem?_range h]
  rfl
theorem x_wg (X : xT) (μ : mT) {κ j : Nat} (h : x_v κ j) : (x_w X μ)[x_n κ j]? = some (X.1 κ j, x_c X κ j (μ κ j)) := by
  rw [x_wn X μ (x_nl h), x_kn h]
theorem x_wl (X : xT) (μ : mT) : (x_w X μ).length = 220 := by unfold x_w; rw [List.length_map, List.length_range]
theorem x_ws (X : xT) (μ : mT) {κ j : Nat} (h : x_v κ j) (r : Nat → Int32) : (x_w X μ).set (x_n κ j) (X.1 κ j, x_c X κ j r) = x_w X (upR μ κ j r) := by
  apply List.ext_getElem?
  intro n
  rw [List.getElem?_set, x_wl]
  by_cases hn : x_n κ j = n
  · rw [if_pos hn, if_pos (x_nl h), ← hn, x_wg X _ h]
    unfold upR
    rw [if_pos ⟨rfl, rfl⟩]
  · rw [if_neg hn]
    by_cases hl : n < 220
    · rw [x_wn X _ hl, x_wn X _ hl]
      unfold upR
      rw [if_neg]
      rintro ⟨h1, h2⟩
      apply hn
      rw [← h1, ← h2]
      exact (x_nk hl).1
    · rw [List.getElem?_eq_none (by rw [x_wl]; omega), List.getElem?_eq_none (by rw [x_wl]; omega)]
def xOK (X : xT) : Prop := (∀ n n', n < 220 → n' < 220 → X.1 (x_k n).1 (x_k n).2 = X.1 (x_k n').1 (x_k n').2 → n = n') ∧ ∀ n, n < 220 → X.2.2.2 ≤ X.1 (x_k n).1 (x_k n).2
theorem x_D {X : xT} (h : xOK X) (μ : mT) : va_D (x_A X) (x_w X μ) := by
  have hl : ∀ (n : Nat) (q : Nat × va_E), (x_w X μ)[n]? = some q → n < 220 := fun n q e => by
    have := (List.getElem?_eq_some_iff.mp e).1
    rwa [x_wl] at this
  refine ⟨fun i j p q hp hq e => ?_, fun k q hq => ?_⟩
  · have hi := hl i p hp
    have hj := hl j q hq
    rw [x_wn X μ hi] at hp
    rw [x_wn X μ hj] at hq
    cases hp
    cases hq
    exact h.1 i j hi hj e
  · have hk := hl k q hq
    rw [x_wn X μ hk] at hq
    cases hq
    exact h.2 k hk
def x_ty (X : xT) : List (ClassId × FieldType) := [(X.2.2.1 0, .int), (X.2.2.1 1, .boolean), (X.2.2.1 2, .char), (X.2.2.1 3, .object RX6)]
def cst (κ : Nat) : Nat → Int32 := if κ = 40 then fun k => ([4, 2, 1, 0, 1, 0] : List Int32).getD k 0 else fun k => ([60, 60, 20, 10, 60, 1000] : List Int32).getD k 0
def x_N (U : State) : Prop := (∀ q ∈ nF, va_Nw (.fieldLinkNest q.1 q.2.1 q.2.2.1 q.2.2.2.1 q.2.2.2.2.1 q.2.2.2.2.2) U) ∧ ∀ q ∈ nM, va_Nw (.methodLinkNest q.1 q.2.1 q.2.2.1 q.2.2.2) U
theorem x_N.warm {s U : State} (h : x_N s) (hW : s.WarmedH U.vm) : x_N U := ⟨fun q hq => va_Nw.warmF hW (h.1 q hq), fun q hq => va_Nw.warmM hW (h.2 q hq)⟩
theorem x_N.same {s U : State} (h : x_N s) (hW : s.vm = U.vm) : x_N U := ⟨fun q hq => va_Nw.same rfl hW (h.1 q hq), fun q hq => va_Nw.same rfl hW (h.2 q hq)⟩
def x_R (X : xT) (U : State) (H : Heap) : Prop := va_Z RX7 "LEAST_VALUES" "[I" (.ref (X.1 40 0)) (x_A X) U H ∧ va_Z RX7 "MOST_VALUES" "[I" (.ref (X.1 41 0)) (x_A X) U H ∧ ∀ κ, κ = 40 ∨ κ = 41 → ¬ x_A X (X.1 κ 0) ∧ H[X.1 κ 0]? = some (vp_cell (X.2.2.1 0) (6, .inl (cst κ)))
theorem x_R.moved {X : xT} {u U : State} {H : Heap} (hvm : u.vm.Alike U.vm) (h : x_R X u H) : x_R X U H := ⟨h.1.moved hvm, h.2.1.moved hvm, h.2.2⟩
theorem x_R.kept {X : xT} {U : State} {H H1 : Heap} {locs : List Loc} (h : x_R X U H) (hS : va_S (x_A X) H H1 locs) : x_R X U H1 := by
  refine ⟨h.1.kept hS.2.1, h.2.1.kept hS.2.1, fun κ hκ => ⟨(h.2.2 κ hκ).1, ?_⟩⟩
  rw [hS.2.1 _ (Array.getElem?_eq_some_iff.mp (h.2.2 κ hκ).2).1 (h.2.2 κ hκ).1]
  exact (h.2.2 κ hκ).2
def x_G (X : xT) (μ : mT) (U : State) : Prop := va_P X.2.1 vwCl (x_w X μ) U.heap ∧ va_K X.2.1 vwCl (x_ty X) U ∧ x_N U ∧ x_R X U U.heap
theorem x_G.blind {X : xT} {μ : mT} {U : State} (g : JFrame) (mk : MethodId) (a : Array Value) (h : x_G X μ U) : x_G X μ (U.calling g mk a) :=
  ⟨h.1, va_K.moved (u := U) (U := U.calling g mk a) (Vm.Alike.refl U.vm) h.2.1, x_N.same (U := U.calling g mk a) h.2.2.1 rfl, x_R.moved (u := U) (U := U.calling g mk a) (Vm.Alike.refl U.vm) h.2.2.2⟩
theorem x_G.to {X : xT} {μ : mT} {s U : State} {H : Heap} {locs : List Loc} (hK : va_K X.2.1 vwCl (x_ty X) s) (hN : x_N s) (hR : x_R X s s.heap) (hS : va_S (x_A X) s.heap H locs) (hP : va_P X.2.1 vwCl (x_w X μ) H) (hU : U.heap = H) (hW : s.WarmedH U.vm) : x_G X μ U :=
  ⟨by rw [hU]; exact hP, va_K.moved hW.alike hK, hN.warm hW, by rw [hU]; exact (hR.kept hS).moved hW.alike⟩
abbrev gT := Program × Launch × Env × Room × State × MethodId × Array Value × List Frame × Method × Code × Nat × Nat × (State → Prop) × Nat
def tj (X : xT) : gT → mT → Nat → List (Nat × Value) → List Value → Prop
  | (p, l, e, R, s, m, args, below, meth, c, kc, ks, Q, nL), μ, pc, lv, st => ∀ (H : Heap) (locs : List Loc) (la : Array Slot), va_P X.2.1 vwCl (x_w X μ) H → va_S (x_A X) s.heap H locs → lv_has la nL lv → W p l e R s m args below meth c H locs kc ks Q (F0 m pc la st)
def Ok (X : xT) (own : String) (cc : ByteArray) (F L : Nat) : gT → Prop
  | (p, _, _, R, s, m, args, _, meth, c, kc, ks, _, nL) => p.tables.exec = Jvm.exec ∧ c.code = cc ∧ c.maxLocals = nL ∧ s.vm.findClass own = some m.cls ∧ (∀ w ∈ big, w.before args s = true) ∧ va_K X.2.1 vwCl (x_ty X) s ∧ x_N s ∧ x_R X s s.heap ∧ xOK X ∧ (F ≤ R.frames ∧ L ≤ R.locals ∧ kc ≤ R.cells ∧ ks ≤ R.slots) ∧ meth.locks = false
def gL : gT → Nat
  | (_, _, _, _, _, _, _, _, _, _, _, _, _, nL) => nL
def Qi (X : xT) (r : Int32) (μ' : mT) : Array Value → State → Outcome → State → Prop := va_Qi (S := Unit) (fun z _ => z = r) (fun _ t => va_P X.2.1 vwCl (x_w X μ') t.heap) (x_A X)
def Qv (X : xT) (μ' : mT) : Array Value → State → Outcome → State → Prop := va_Qv (S := Unit) (fun _ => True) (fun _ t => va_P X.2.1 vwCl (x_w X μ') t.heap) (x_A X)
def Rti (X : xT) (rt : FieldType) (r : Int32) (μ' : mT) : gT → Prop
  | (_, _, _, _, s, _, args, below, meth, _, kc, ks, Q, _) => meth.sig.returnType = some rt ∧ Q = MQ below (Qi X r μ') args s kc ks (x_A X)
def Rtv (X : xT) (μ' : mT) : gT → Prop
  | (_, _, _, _, s, _, args, below, meth, _, kc, ks, Q, _) => meth.sig.returnType = none ∧ Q = MQ below (Qv X μ') args s kc ks (x_A X)
def CMi (X : xT) (y : MethodName) (cc : ByteArray) (nL : Nat) (rt : FieldType) (F L : Nat) (As : List Value) (μ : mT) (r : Int32) (μ' : mT) : Prop := ∀ l : Launch, Met l y (.code y cc nL (some rt) :: big) { frames := F, cells := 0, slots := 0, locals := L } (va_Pc As (x_G X μ)) (Qi X r μ') 0 0 (x_A X)
def CMv (X : xT) (y : MethodName) (cc : ByteArray) (nL : Nat) (F L : Nat) (As : List Value) (μ : mT) (μ' : mT) : Prop := ∀ l : Launch, Met l y (.code y cc nL none :: big) { frames := F, cells := 0, slots := 0, locals := L } (va_Pc As (x_G X μ)) (Qv X μ') 0 0 (x_A X)
theorem CMi_of {X : xT} {y : MethodName} {cc : ByteArray} {nL : Nat} {rt : FieldType} {F L : Nat} {As : List Value} {μ : mT} {r : Int32} {μ' : mT} {lv : List (Nat × Value)} (hX : xOK X) (hy : plainName y.cls = true) (hlen : (lg_sl As).length ≤ nL) (hlv : lv_args 0 As = lv)
    (h : ∀ Γ : gT, Ok X y.cls cc F L Γ → gL Γ = nL → Rti X rt r μ' Γ → tj X Γ μ 0 lv []) : CMi X y cc nL rt F L As μ r μ' := by
  intro l
  refine Met.ofW (cc := cc) (maxL := nL) (ret := some rt) hy rfl ?_
  intro p e s m args below meth c s₁ B hml hv
  obtain ⟨rfl, hP, hK, hN, hR⟩ := hv
  have hts := atoms_spec (ws := .code y cc nL (some rt) :: big) B.pre
  have hown : s.vm.findClass y.cls = some m.cls := findClass_of_methodNamed B.named
  have hl := lv_entry As (n := nL) hlen
  rw [hlv] at hl
  rw [lg_entry_eq]
  exact h (p, l, e, _, s, m, As.toArray, below, meth, c, 0, 0, _, nL) ⟨B.exec, B.bytes, hml, hown, fun w hw => hts w (List.mem_cons_of_mem _ hw), hK, hN, hR, hX, ⟨Nat.le_refl _, Nat.le_refl _, Nat.zero_le _, Nat.zero_le _⟩, B.notSynchronized⟩ rfl ⟨B.returns, rfl⟩ s.heap [] _ hP va_S.rf hl
theorem CMv_of {X : xT} {y : MethodName} {cc : ByteArray} {nL : Nat} {F L : Nat} {As : List Value} {μ : mT} {μ' : mT} {lv : List (Nat × Value)} (hX : xOK X) (hy : plainName y.cls = true) (hlen : (lg_sl As).length ≤ nL) (hlv : lv_args 0 As = lv)
    (h : ∀ Γ : gT, Ok X y.cls cc F L Γ → gL Γ = nL → Rtv X μ' Γ → tj X Γ μ 0 lv []) : CMv X y cc nL F L As μ μ' := by
  intro l
  refine Met.ofW (cc := cc) (maxL := nL) (ret := none) hy rfl ?_
  intro p e s m args below meth c s₁ B hml hv
  obtain ⟨rfl, hP, hK, hN, hR⟩ := hv
  have hts := atoms_spec (ws := .code y cc nL none :: big) B.pre
  have hown : s.vm.findClass y.cls = some m.cls := findClass_of_methodNamed B.named
  have hl := lv_entry As (n := nL) hlen
  rw [hlv] at hl
  rw [lg_entry_eq]
  exact h (p, l, e, _, s, m, As.toArray, below, meth, c, 0, 0, _, nL) ⟨B.exec, B.bytes, hml, hown, fun w hw => hts w (List.mem_cons_of_mem _ hw), hK, hN, hR, hX, ⟨Nat.le_refl _, Nat.le_refl _, Nat.zero_le _, Nat.zero_le _⟩, B.notSynchronized⟩ rfl ⟨B.returns, rfl⟩ s.heap [] _ hP va_S.rf hl
def inb (i : Int32) (n : Nat) : Bool := decide (0 ≤ i) && decide (i.toNatClampNeg < n)
theorem inb_in {i : Int32} {n : Nat} (h : inb i n = true) : vp_in i n := by
  unfold inb at h
  rw [Bool.and_eq_true, decide_eq_true_eq, decide_eq_true_eq] at h
  intro q
  rcases q with q | q
  · exact Int32.not_lt.mpr h.1 q
  · omega
def gd {α : Type} (b : Bool) (k : Option α) : Option α := if b = true then k else none
theorem of_gd {α : Type} {b : Bool} {k : Option α} {x : α} (h : gd b k = some x) : b = true ∧ k = some x := by
  unfold gd at h
  split at h
  · exact ⟨by assumption, h⟩
  · cases h
def lt {α β : Type} (a : α) (f : α → β) : β := f a
theorem of_lt {α β : Type} {a : α} {f : α → β} {b : β} (h : lt a f = b) : ∃ x, x = a ∧ f x = b := ⟨a, rfl, h⟩
def bd {α : Type} (x : Option (Int32 × mT)) (k : Int32 → mT → Option α) : Option α := match x with
  | some (r, μ) => k r μ
  | none => none
theorem of_bd {α : Type} {x : Option (Int32 × mT)} {k : Int32 → mT → Option α} {y : α} (h : bd x k = some y) : ∃ (r : Int32) (μ : mT), x = some (r, μ) ∧ k r μ = some y := by
  unfold bd at h
  split at h
  · exact ⟨_, _, rfl, h⟩
  · cases h
theorem of_t {α : Type} {c : Prop} {_ : Decidable c} {A B : α} {x : α} (hc : c) (h : (if c then A else B) = x) : A = x := (if_pos hc).symm.trans h
theorem of_f {α : Type} {c : Prop} {_ : Decidable c} {A B : α} {x : α} (hc : ¬ c) (h : (if c then A else B) = x) : B = x := (if_neg hc).symm.trans h
def fu : Nat := 4000
theorem tr_iconst {X : xT} {own : String} {cc : ByteArray} {F L : Nat} {Γ : gT} (hO : Ok X own cc F L Γ) (pc : Nat) {μ : mT} {lv : List (Nat × Value)} {st : List Value} {n : Int} {v : Int32} (hv : Int32.ofInt n = v) (d : decode cc pc = .ok (.iconst n, 1)) (k : tj X Γ μ (pc + 1) lv (.int v :: st)) : tj X Γ μ pc lv st := by
  obtain ⟨p, l, e, R, s, m, args, below, meth, c, kc, ks, Q, nL⟩ := Γ
  obtain ⟨hx, hb, hml, hown, hts, hK, hN, hR, hX, hroom, hlk⟩ := hO
  intro H locs la hP hS hl
  exact lv_iconst hx hb d hv (k H locs la hP hS hl)
theorem tr_bipush {X : xT} {own : String} {cc : ByteArray} {F L : Nat} {Γ : gT} (hO : Ok X own cc F L Γ) (pc : Nat) {μ : mT} {lv : List (Nat × Value)} {st : List Value} {n : Int} {v : Int32} (hv : (Int8.ofInt n).toInt32 = v) (d : decode cc pc = .ok (.bipush n, 2)) (k : tj X Γ μ (pc + 2) lv (.int v :: st)) : tj X Γ μ pc lv st := by
  obtain ⟨p, l, e, R, s, m, args, below, meth, c, kc, ks, Q, nL⟩ := Γ
  obtain ⟨hx, hb, hml, hown, hts, hK, hN, hR, hX, hroom, hlk⟩ := hO
  intro H locs la hP hS hl
  exact lv_bipush hx hb d hv (k H locs la hP hS hl)
theorem tr_sipush {X : xT} {own : String} {cc : ByteArray} {F L : Nat} {Γ : gT} (hO : Ok X own cc F L Γ) (pc : Nat) {μ : mT} {lv : List (Nat × Value)} {st : List Value} {n : Int} {v : Int32} (hv : (Int16.ofInt n).toInt32 = v) (d : decode cc pc = .ok (.sipush n, 3)) (k : tj X Γ μ (pc + 3) lv (.int v :: st)) : tj X Γ μ pc lv st := by
  obtain ⟨p, l, e, R, s, m, args, below, meth, c, kc, ks, Q, nL⟩ := Γ
  obtain ⟨hx, hb, hml, hown, hts, hK, hN, hR, hX, hroom, hlk⟩ := hO
  intro H locs la hP hS hl
  exact lv_sipush hx hb d hv (k H locs la hP hS hl)
theorem tr_lconst {X : xT} {own : String} {cc : ByteArray} {F L : Nat} {Γ : gT} (hO : Ok X own cc F L Γ) (pc : Nat) {μ : mT} {lv : List (Nat × Value)} {st : List Value} {n : Fin 2} {v : Int64} (hv : Int64.ofNat (n : Nat) = v) (d : decode cc pc = .ok (.lconst n, 1)) (k : tj X Γ μ (pc + 1) lv (.long v :: st)) : tj X Γ μ pc lv st := by
  obtain ⟨p, l, e, R, s, m, args, below, meth, c, kc, ks, Q, nL⟩ := Γ
  obtain ⟨hx, hb, hml, hown, hts, hK, hN, hR, hX, hroom, hlk⟩ := hO
  intro H locs la hP hS hl
  exact lv_lconst hx hb d hv (k H locs la hP hS hl)
theorem tr_ldc2 {X : xT} {own : String} {cc : ByteArray} {F L : Nat} {Γ : gT} (hO : Ok X own cc F L Γ) (pc : Nat) {μ : mT} {lv : List (Nat × Value)} {st : List Value} {index : Nat} {v : Int64} (hw : Cond.constantLong own index v ∈ big) (d : decode cc pc = .ok (.ldc2_w index, 3)) (k : tj X Γ μ (pc + 3) lv (.long v :: st)) : tj X Γ μ pc lv st := by
  obtain ⟨p, l, e, R, s, m, args, below, meth, c, kc, ks, Q, nL⟩ := Γ
  obtain ⟨hx, hb, hml, hown, hts, hK, hN, hR, hX, hroom, hlk⟩ := hO
  intro H locs la hP hS hl
  exact lv_ldc2 hx hb hown (hts _ hw) d (k H locs la hP hS hl)
theorem tr_iload_n {X : xT} {own : String} {cc : ByteArray} {F L : Nat} {Γ : gT} (hO : Ok X own cc F L Γ) (pc : Nat) {μ : mT} {lv : List (Nat × Value)} {st : List Value} {i : Fin 4} {x : Int32} (q : Nat) (hq : lv[q]? = some ((i : Nat), .int x)) (d : decode cc pc = .ok (.iload_n i, 1)) (k : tj X Γ μ (pc + 1) lv (.int x :: st)) : tj X Γ μ pc lv st := by
  obtain ⟨p, l, e, R, s, m, args, below, meth, c, kc, ks, Q, nL⟩ := Γ
  obtain ⟨hx, hb, hml, hown, hts, hK, hN, hR, hX, hroom, hlk⟩ := hO
  intro H locs la hP hS hl
  exact lv_iload_n hx hb d rfl (lv_at hl q hq) (k H locs la hP hS hl)
theorem tr_iload {X : xT} {own : String} {cc : ByteArray} {F L : Nat} {Γ : gT} (hO : Ok X own cc F L Γ) (pc : Nat) {μ : mT} {lv : List (Nat × Value)} {st : List Value} {i : Nat} {x : Int32} (q : Nat) (hq : lv[q]? = some (i, .int x)) (d : decode cc pc = .ok (.iload i, 2)) (k : tj X Γ μ (pc + 2) lv (.int x :: st)) : tj X Γ μ pc lv st := by
  obtain ⟨p, l, e, R, s, m, args, below, meth, c, kc, ks, Q, nL⟩ := Γ
  obtain ⟨hx, hb, hml, hown, hts, hK, hN, hR, hX, hroom, hlk⟩ := hO
  intro H locs la hP hS hl
  exact lv_iload hx hb d (lv_at hl q hq) (k H locs la hP hS hl)
theorem tr_lload_n {X : xT} {own : String} {cc : ByteArray} {F L : Nat} {Γ : gT} (hO : Ok X own cc F L Γ) (pc : Nat) {μ : mT} {lv : List (Nat × Value)} {st : List Value} {i : Fin 4} {x : Int64} (q : Nat) (hq : lv[q]? = some ((i : Nat), .long x)) (d : decode cc pc = .ok (.lload_n i, 1)) (k : tj X Γ μ (pc + 1) lv (.long x :: st)) : tj X Γ μ pc lv st := by
  obtain ⟨p, l, e, R, s, m, args, below, meth, c, kc, ks, Q, nL⟩ := Γ
  obtain ⟨hx, hb, hml, hown, hts, hK, hN, hR, hX, hroom, hlk⟩ := hO
  intro H locs la hP hS hl
  exact lv_lload_n hx hb d rfl (lv_at hl q hq) (k H locs la hP hS hl)
theorem tr_lload {X : xT} {own : String} {cc : ByteArray} {F L : Nat} {Γ : gT} (hO : Ok X own cc F L Γ) (pc : Nat) {μ : mT} {lv : List (Nat × Value)} {st : List Value} {i : Nat} {x : Int64} (q : Nat) (hq : lv[q]? = some (i, .long x)) (d : decode cc pc = .ok (.lload i, 2)) (k : tj X Γ μ (pc + 2) lv (.long x :: st)) : tj X Γ μ pc lv st := by
  obtain ⟨p, l, e, R, s, m, args, below, meth, c, kc, ks, Q, nL⟩ := Γ
  obtain ⟨hx, hb, hml, hown, hts, hK, hN, hR, hX, hroom, hlk⟩ := hO
  intro H locs la hP hS hl
  exact lv_lload hx hb d (lv_at hl q hq) (k H locs la hP hS hl)
theorem tr_aload_n {X : xT} {own : String} {cc : ByteArray} {F L : Nat} {Γ : gT} (hO : Ok X own cc F L Γ) (pc : Nat) {μ : mT} {lv : List (Nat × Value)} {st : List Value} {i : Fin 4} {x : Nat} (q : Nat) (hq : lv[q]? = some ((i : Nat), .ref x)) (d : decode cc pc = .ok (.aload_n i, 1)) (k : tj X Γ μ (pc + 1) lv (.ref x :: st)) : tj X Γ μ pc lv st := by
  obtain ⟨p, l, e, R, s, m, args, below, meth, c, kc, ks, Q, nL⟩ := Γ
  obtain ⟨hx, hb, hml, hown, hts, hK, hN, hR, hX, hroom, hlk⟩ := hO
  intro H locs la hP hS hl
  exact lv_aload_n hx hb d rfl (lv_at hl q hq) (k H locs la hP hS hl)
theorem tr_aload {X : xT} {own : String} {cc : ByteArray} {F L : Nat} {Γ : gT} (hO : Ok X own cc F L Γ) (pc : Nat) {μ : mT} {lv : List (Nat × Value)} {st : List Value} {i : Nat} {x : Nat} (q : Nat) (hq : lv[q]? = some (i, .ref x)) (d : decode cc pc = .ok (.aload i, 2)) (k : tj X Γ μ (pc + 2) lv (.ref x :: st)) : tj X Γ μ pc lv st := by
  obtain ⟨p, l, e, R, s, m, args, below, meth, c, kc, ks, Q, nL⟩ := Γ
  obtain ⟨hx, hb, hml, hown, hts, hK, hN, hR, hX, hroom, hlk⟩ := hO
  intro H locs la hP hS hl
  exact lv_aload hx hb d (lv_at hl q hq) (k H locs la hP hS hl)
theorem tr_istore_n {X : xT} {own : String} {cc : ByteArray} {F L : Nat} {Γ : gT} (hO : Ok X own cc F L Γ) (pc : Nat) {μ : mT} {lv : List (Nat × Value)} {st : List Value} {i : Nat} {k4 : Fin 4} {x : Int32} {n : Nat} {lv' : List (Nat × Value)} (hn : gL Γ = n) (hi : (k4 : Nat) = i) (h4 : i < n) (hlv : (i, Value.int x) :: lv.filter (fun q => !(q.1 == i) && !(q.1 + 1 == i && q.2.category == 2)) = lv') (d : decode cc pc = .ok (.istore_n k4, 1)) (k : tj X Γ μ (pc + 1) lv' st) : tj X Γ μ pc lv (.int x :: st) := by
  obtain ⟨p, l, e, R, s, m, args, below, meth, c, kc, ks, Q, nL⟩ := Γ
  obtain ⟨hx, hb, hml, hown, hts, hK, hN, hR, hX, hroom, hlk⟩ := hO
  intro H locs la hP hS hl
  subst hn
  exact lv_istore_n hx hb d hi hl h4 hlv (fun la hl => k H locs la hP hS hl)
theorem tr_istore {X : xT} {own : String} {cc : ByteArray} {F L : Nat} {Γ : gT} (hO : Ok X own cc F L Γ) (pc : Nat) {μ : mT} {lv : List (Nat × Value)} {st : List Value} {i : Nat} {x : Int32} {n : Nat} {lv' : List (Nat × Value)} (hn : gL Γ = n) (h4 : i < n) (hlv : (i, Value.int x) :: lv.filter (fun q => !(q.1 == i) && !(q.1 + 1 == i && q.2.category == 2)) = lv') (d : decode cc pc = .ok (.istore i, 2)) (k : tj X Γ μ (pc + 2) lv' st) : tj X Γ μ pc lv (.int x :: st) := by
  obtain ⟨p, l, e, R, s, m, args, below, meth, c, kc, ks, Q, nL⟩ := Γ
  obtain ⟨hx, hb, hml, hown, hts, hK, hN, hR, hX, hroom, hlk⟩ := hO
  intro H locs la hP hS hl
  subst hn
  exact lv_istore hx hb d hl h4 hlv (fun la hl => k H locs la hP hS hl)
theorem tr_lstore_n {X : xT} {own : String} {cc : ByteArray} {F L : Nat} {Γ : gT} (hO : Ok X own cc F L Γ) (pc : Nat) {μ : mT} {lv : List (Nat × Value)} {st : List Value} {i : Nat} {k4 : Fin 4} {x : Int64} {n : Nat} {lv' : List (Nat × Value)} (hn : gL Γ = n) (hi : (k4 : Nat) = i) (h4 : i + 1 < n) (hlv : (i, Value.long x) :: lv.filter (fun q => !(q.1 == i) && (!(q.1 == i + 1) && !(q.1 + 1 == i && q.2.category == 2))) = lv') (d : decode cc pc = .ok (.lstore_n k4, 1)) (k : tj X Γ μ (pc + 1) lv' st) : tj X Γ μ pc lv (.long x :: st) := by
  obtain ⟨p, l, e, R, s, m, args, below, meth, c, kc, ks, Q, nL⟩ := Γ
  obtain ⟨hx, hb, hml, hown, hts, hK, hN, hR, hX, hroom, hlk⟩ := hO
  intro H locs la hP hS hl
  subst hn
  exact lv_lstore_n hx hb d hi hl h4 hlv (fun la hl => k H locs la hP hS hl)
theorem tr_lstore {X : xT} {own : String} {cc : ByteArray} {F L : Nat} {Γ : gT} (hO : Ok X own cc F L Γ) (pc : Nat) {μ : mT} {lv : List (Nat × Value)} {st : List Value} {i : Nat} {x : Int64} {n : Nat} {lv' : List (Nat × Value)} (hn : gL Γ = n) (h4 : i + 1 < n) (hlv : (i, Value.long x) :: lv.filter (fun q => !(q.1 == i) && (!(q.1 == i + 1) && !(q.1 + 1 == i && q.2.category == 2))) = lv') (d : decode cc pc = .ok (.lstore i, 2)) (k : tj X Γ μ (pc + 2) lv' st) : tj X Γ μ pc lv (.long x :: st) := by
  obtain ⟨p, l, e, R, s, m, args, below, meth, c, kc, ks, Q, nL⟩ := Γ
  obtain ⟨hx, hb, hml, hown, hts, hK, hN, hR, hX, hroom, hlk⟩ := hO
  intro H locs la hP hS hl
  subst hn
  exact lv_lstore hx hb d hl h4 hlv (fun la hl => k H locs la hP hS hl)
theorem tr_astore_n {X : xT} {own : String} {cc : ByteArray} {F L : Nat} {Γ : gT} (hO : Ok X own cc F L Γ) (pc : Nat) {μ : mT} {lv : List (Nat × Value)} {st : List Value} {i : Nat} {k4 : Fin 4} {x : Nat} {n : Nat} {lv' : List (Nat × Value)} (hn : gL Γ = n) (hi : (k4 : Nat) = i) (h4 : i < n) (hlv : (i, Value.ref x) :: lv.filter (fun q => !(q.1 == i) && !(q.1 + 1 == i && q.2.category == 2)) = lv') (d : decode cc pc = .ok (.astore_n k4, 1)) (k : tj X Γ μ (pc + 1) lv' st) : tj X Γ μ pc lv (.ref x :: st) := by
  obtain ⟨p, l, e, R, s, m, args, below, meth, c, kc, ks, Q, nL⟩ := Γ
  obtain ⟨hx, hb, hml, hown, hts, hK, hN, hR, hX, hroom, hlk⟩ := hO
  intro H locs la hP hS hl
  subst hn
  exact lv_astore_n hx hb d hi hl h4 hlv (fun la hl => k H locs la hP hS hl)
theorem tr_iinc {X : xT} {own : String} {cc : ByteArray} {F L : Nat} {Γ : gT} (hO : Ok X own cc F L Γ) (pc : Nat) {μ : mT} {lv : List (Nat × Value)} {st : List Value} {i q : Nat} {n : Int} {x v : Int32} {nl : Nat} {lv' : List (Nat × Value)} (hn : gL Γ = nl) (hq : lv[q]? = some (i, .int x)) (hv : x + Int32.ofInt n = v) (h4 : i < nl) (hlv : (i, Value.int v) :: lv.filter (fun q => !(q.1 == i) && !(q.1 + 1 == i && q.2.category == 2)) = lv') (d : decode cc pc = .ok (.iinc i n, 3)) (k : tj X Γ μ (pc + 3) lv' st) : tj X Γ μ pc lv st := by
  obtain ⟨p, l, e, R, s, m, args, below, meth, c, kc, ks, Q, nL⟩ := Γ
  obtain ⟨hx, hb, hml, hown, hts, hK, hN, hR, hX, hroom, hlk⟩ := hO
  intro H locs la hP hS hl
  subst hn
  exact lv_iinc hx hb d hl hq hv h4 hlv (fun la hl => k H locs la hP hS hl)
theorem tr_iadd {X : xT} {own : String} {cc : ByteArray} {F L : Nat} {Γ : gT} (hO : Ok X own cc F L Γ) (pc : Nat) {μ : mT} {lv : List (Nat × Value)} {st : List Value} {x y : Int32} (d : decode cc pc = .ok (.iadd, 1)) (k : tj X Γ μ (pc + 1) lv (.int (x + y) :: st)) : tj X Γ μ pc lv (.int y :: .int x :: st) := by
  obtain ⟨p, l, e, R, s, m, args, below, meth, c, kc, ks, Q, nL⟩ := Γ
  obtain ⟨hx, hb, hml, hown, hts, hK, hN, hR, hX, hroom, hlk⟩ := hO
  intro H locs la hP hS hl
  exact lv_iadd hx hb d (k H locs la hP hS hl)
theorem tr_isub {X : xT} {own : String} {cc : ByteArray} {F L : Nat} {Γ : gT} (hO : Ok X own cc F L Γ) (pc : Nat) {μ : mT} {lv : List (Nat × Value)} {st : List Value} {x y : Int32} (d : decode cc pc = .ok (.isub, 1)) (k : tj X Γ μ (pc + 1) lv (.int (x - y) :: st)) : tj X Γ μ pc lv (.int y :: .int x :: st) := by
  obtain ⟨p, l, e, R, s, m, args, below, meth, c, kc, ks, Q, nL⟩ := Γ
  obtain ⟨hx, hb, hml, hown, hts, hK, hN, hR, hX, hroom, hlk⟩ := hO
  intro H locs la hP hS hl
  exact lv_isub hx hb d (k H locs la hP hS hl)
theorem tr_imul {X : xT} {own : String} {cc : ByteArray} {F L : Nat} {Γ : gT} (hO : Ok X own cc F L Γ) (pc : Nat) {μ : mT} {lv : List (Nat × Value)} {st : List Value} {x y : Int32} (d : decode cc pc = .ok (.imul, 1)) (k : tj X Γ μ (pc + 1) lv (.int (x * y) :: st)) : tj X Γ μ pc lv (.int y :: .int x :: st) := by
  obtain ⟨p, l, e, R, s, m, args, below, meth, c, kc, ks, Q, nL⟩ := Γ
  obtain ⟨hx, hb, hml, hown, hts, hK, hN, hR, hX, hroom, hlk⟩ := hO
  intro H locs la hP hS hl
  exact lv_imul hx hb d (k H locs la hP hS hl)
theorem tr_iand {X : xT} {own : String} {cc : ByteArray} {F L : Nat} {Γ : gT} (hO : Ok X own cc F L Γ) (pc : Nat) {μ : mT} {lv : List (Nat × Value)} {st : List Value} {x y : Int32} (d : decode cc pc = .ok (.iand, 1)) (k : tj X Γ μ (pc + 1) lv (.int (x &&& y) :: st)) : tj X Γ μ pc lv (.int y :: .int x :: st) := by
  obtain ⟨p, l, e, R, s, m, args, below, meth, c, kc, ks, Q, nL⟩ := Γ
  obtain ⟨hx, hb, hml, hown, hts, hK, hN, hR, hX, hroom, hlk⟩ := hO
  intro H locs la hP hS hl
  exact lv_iand hx hb d (k H locs la hP hS hl)
theorem tr_ior {X : xT} {own : String} {cc : ByteArray} {F L : Nat} {Γ : gT} (hO : Ok X own cc F L Γ) (pc : Nat) {μ : mT} {lv : List (Nat × Value)} {st : List Value} {x y : Int32} (d : decode cc pc = .ok (.ior, 1)) (k : tj X Γ μ (pc + 1) lv (.int (x ||| y) :: st)) : tj X Γ μ pc lv (.int y :: .int x :: st) := by
  obtain ⟨p, l, e, R, s, m, args, below, meth, c, kc, ks, Q, nL⟩ := Γ
  obtain ⟨hx, hb, hml, hown, hts, hK, hN, hR, hX, hroom, hlk⟩ := hO
  intro H locs la hP hS hl
  exact lv_ior hx hb d (k H locs la hP hS hl)
theorem tr_ishl {X : xT} {own : String} {cc : ByteArray} {F L : Nat} {Γ : gT} (hO : Ok X own cc F L Γ) (pc : Nat) {μ : mT} {lv : List (Nat × Value)} {st : List Value} {x y : Int32} (d : decode cc pc = .ok (.ishl, 1)) (k : tj X Γ μ (pc + 1) lv (.int (x <<< (y &&& 31)) :: st)) : tj X Γ μ pc lv (.int y :: .int x :: st) := by
  obtain ⟨p, l, e, R, s, m, args, below, meth, c, kc, ks, Q, nL⟩ := Γ
  obtain ⟨hx, hb, hml, hown, hts, hK, hN, hR, hX, hroom, hlk⟩ := hO
  intro H locs la hP hS hl
  exact lv_ishl hx hb d (k H locs la hP hS hl)
theorem tr_ishr {X : xT} {own : String} {cc : ByteArray} {F L : Nat} {Γ : gT} (hO : Ok X own cc F L Γ) (pc : Nat) {μ : mT} {lv : List (Nat × Value)} {st : List Value} {x y : Int32} (d : decode cc pc = .ok (.ishr, 1)) (k : tj X Γ μ (pc + 1) lv (.int (x >>> (y &&& 31)) :: st)) : tj X Γ μ pc lv (.int y :: .int x :: st) := by
  obtain ⟨p, l, e, R, s, m, args, below, meth, c, kc, ks, Q, nL⟩ := Γ
  obtain ⟨hx, hb, hml, hown, hts, hK, hN, hR, hX, hroom, hlk⟩ := hO
  intro H locs la hP hS hl
  exact lv_ishr hx hb d (k H locs la hP hS hl)
theorem tr_idiv {X : xT} {own : String} {cc : ByteArray} {F L : Nat} {Γ : gT} (hO : Ok X own cc F L Γ) (pc : Nat) {μ : mT} {lv : List (Nat × Value)} {st : List Value} {x y : Int32} (hne : ¬ y = 0) (d : decode cc pc = .ok (.idiv, 1)) (k : tj X Γ μ (pc + 1) lv (.int (x / y) :: st)) : tj X Γ μ pc lv (.int y :: .int x :: st) := by
  obtain ⟨p, l, e, R, s, m, args, below, meth, c, kc, ks, Q, nL⟩ := Γ
  obtain ⟨hx, hb, hml, hown, hts, hK, hN, hR, hX, hroom, hlk⟩ := hO
  intro H locs la hP hS hl
  exact lv_idiv hx hb d hne (k H locs la hP hS hl)
theorem tr_lrem {X : xT} {own : String} {cc : ByteArray} {F L : Nat} {Γ : gT} (hO : Ok X own cc F L Γ) (pc : Nat) {μ : mT} {lv : List (Nat × Value)} {st : List Value} {x y : Int64} (hne : ¬ y = 0) (d : decode cc pc = .ok (.lrem, 1)) (k : tj X Γ μ (pc + 1) lv (.long (x - x / y * y) :: st)) : tj X Γ μ pc lv (.long y :: .long x :: st) := by
  obtain ⟨p, l, e, R, s, m, args, below, meth, c, kc, ks, Q, nL⟩ := Γ
  obtain ⟨hx, hb, hml, hown, hts, hK, hN, hR, hX, hroom, hlk⟩ := hO
  intro H locs la hP hS hl
  exact lv_lrem hx hb d hne (k H locs la hP hS hl)
theorem tr_ldiv {X : xT} {own : String} {cc : ByteArray} {F L : Nat} {Γ : gT} (hO : Ok X own cc F L Γ) (pc : Nat) {μ : mT} {lv : List (Nat × Value)} {st : List Value} {x y : Int64} (hne : ¬ y = 0) (d : decode cc pc = .ok (.ldiv, 1)) (k : tj X Γ μ (pc + 1) lv (.long (x / y) :: st)) : tj X Γ μ pc lv (.long y :: .long x :: st) := by
  obtain ⟨p, l, e, R, s, m, args, below, meth, c, kc, ks, Q, nL⟩ := Γ
  obtain ⟨hx, hb, hml, hown, hts, hK, hN, hR, hX, hroom, hlk⟩ := hO
  intro H locs la hP hS hl
  exact lv_ldiv hx hb d hne (k H locs la hP hS hl)
theorem tr_land {X : xT} {own : String} {cc : ByteArray} {F L : Nat} {Γ : gT} (hO : Ok X own cc F L Γ) (pc : Nat) {μ : mT} {lv : List (Nat × Value)} {st : List Value} {x y : Int64} (d : decode cc pc = .ok (.land, 1)) (k : tj X Γ μ (pc + 1) lv (.long (x &&& y) :: st)) : tj X Γ μ pc lv (.long y :: .long x :: st) := by
  obtain ⟨p, l, e, R, s, m, args, below, meth, c, kc, ks, Q, nL⟩ := Γ
  obtain ⟨hx, hb, hml, hown, hts, hK, hN, hR, hX, hroom, hlk⟩ := hO
  intro H locs la hP hS hl
  exact lv_land hx hb d (k H locs la hP hS hl)
theorem tr_lor {X : xT} {own : String} {cc : ByteArray} {F L : Nat} {Γ : gT} (hO : Ok X own cc F L Γ) (pc : Nat) {μ : mT} {lv : List (Nat × Value)} {st : List Value} {x y : Int64} (d : decode cc pc = .ok (.lor, 1)) (k : tj X Γ μ (pc + 1) lv (.long (x ||| y) :: st)) : tj X Γ μ pc lv (.long y :: .long x :: st) := by
  obtain ⟨p, l, e, R, s, m, args, below, meth, c, kc, ks, Q, nL⟩ := Γ
  obtain ⟨hx, hb, hml, hown, hts, hK, hN, hR, hX, hroom, hlk⟩ := hO
  intro H locs la hP hS hl
  exact lv_lor hx hb d (k H locs la hP hS hl)
def shlL (x : Int64) (y : Int32) : Int64 := x <<< (y.toInt64 &&& 63)
def shrL (x : Int64) (y : Int32) : Int64 := (x.toUInt64 >>> (y.toInt64.toUInt64 &&& Int64.toUInt64 63)).toInt64
def toC (x : Int32) : Int32 := (x.toUInt32 % 65536).toInt32
theorem tr_lshl {X : xT} {own : String} {cc : ByteArray} {F L : Nat} {Γ : gT} (hO : Ok X own cc F L Γ) (pc : Nat) {μ : mT} {lv : List (Nat × Value)} {st : List Value} {x : Int64} {y : Int32} (d : decode cc pc = .ok (.lshl, 1)) (k : tj X Γ μ (pc + 1) lv (.long (shlL x y) :: st)) : tj X Γ μ pc lv (.int y :: .long x :: st) := by
  obtain ⟨p, l, e, R, s, m, args, below, meth, c, kc, ks, Q, nL⟩ := Γ
  obtain ⟨hx, hb, hml, hown, hts, hK, hN, hR, hX, hroom, hlk⟩ := hO
  intro H locs la hP hS hl
  exact lv_lshl hx hb d rfl (k H locs la hP hS hl)
theorem tr_lushr {X : xT} {own : String} {cc : ByteArray} {F L : Nat} {Γ : gT} (hO : Ok X own cc F L Γ) (pc : Nat) {μ : mT} {lv : List (Nat × Value)} {st : List Value} {x : Int64} {y : Int32} (d : decode cc pc = .ok (.lushr, 1)) (k : tj X Γ μ (pc + 1) lv (.long (shrL x y) :: st)) : tj X Γ μ pc lv (.int y :: .long x :: st) := by
  obtain ⟨p, l, e, R, s, m, args, below, meth, c, kc, ks, Q, nL⟩ := Γ
  obtain ⟨hx, hb, hml, hown, hts, hK, hN, hR, hX, hroom, hlk⟩ := hO
  intro H locs la hP hS hl
  exact lv_lushr hx hb d rfl (k H locs la hP hS hl)
theorem tr_i2l {X : xT} {own : String} {cc : ByteArray} {F L : Nat} {Γ : gT} (hO : Ok X own cc F L Γ) (pc : Nat) {μ : mT} {lv : List (Nat × Value)} {st : List Value} {x : Int32} (d : decode cc pc = .ok (.i2l, 1)) (k : tj X Γ μ (pc + 1) lv (.long x.toInt64 :: st)) : tj X Γ μ pc lv (.int x :: st) := by
  obtain ⟨p, l, e, R, s, m, args, below, meth, c, kc, ks, Q, nL⟩ := Γ
  obtain ⟨hx, hb, hml, hown, hts, hK, hN, hR, hX, hroom, hlk⟩ := hO
  intro H locs la hP hS hl
  exact lv_i2l hx hb d rfl (k H locs la hP hS hl)
theorem tr_l2i {X : xT} {own : String} {cc : ByteArray} {F L : Nat} {Γ : gT} (hO : Ok X own cc F L Γ) (pc : Nat) {μ : mT} {lv : List (Nat × Value)} {st : List Value} {x : Int64} (d : decode cc pc = .ok (.l2i, 1)) (k : tj X Γ μ (pc + 1) lv (.int x.toInt32 :: st)) : tj X Γ μ pc lv (.long x :: st) := by
  obtain ⟨p, l, e, R, s, m, args, below, meth, c, kc, ks, Q, nL⟩ := Γ
  obtain ⟨hx, hb, hml, hown, hts, hK, hN, hR, hX, hroom, hlk⟩ := hO
  intro H locs la hP hS hl
  exact lv_l2i hx hb d rfl (k H locs la hP hS hl)
theorem tr_i2c {X : xT} {own : String} {cc : ByteArray} {F L : Nat} {Γ : gT} (hO : Ok X own cc F L Γ) (pc : Nat) {μ : mT} {lv : List (Nat × Value)} {st : List Value} {x : Int32} (d : decode cc pc = .ok (.i2c, 1)) (k : tj X Γ μ (pc + 1) lv (.int (toC x) :: st)) : tj X Γ μ pc lv (.int x :: st) := by
  obtain ⟨p, l, e, R, s, m, args, below, meth, c, kc, ks, Q, nL⟩ := Γ
  obtain ⟨hx, hb, hml, hown, hts, hK, hN, hR, hX, hroom, hlk⟩ := hO
  intro H locs la hP hS hl
  exact lv_i2c hx hb d rfl (k H locs la hP hS hl)
theorem tr_lcmp {X : xT} {own : String} {cc : ByteArray} {F L : Nat} {Γ : gT} (hO : Ok X own cc F L Γ) (pc : Nat) {μ : mT} {lv : List (Nat × Value)} {st : List Value} {x y : Int64} (d : decode cc pc = .ok (.lcmp, 1)) (k : tj X Γ μ (pc + 1) lv (.int (lg_cmp x y) :: st)) : tj X Γ μ pc lv (.long y :: .long x :: st) := by
  obtain ⟨p, l, e, R, s, m, args, below, meth, c, kc, ks, Q, nL⟩ := Γ
  obtain ⟨hx, hb, hml, hown, hts, hK, hN, hR, hX, hroom, hlk⟩ := hO
  intro H locs la hP hS hl
  exact W.lcmp hx hb d (k H locs la hP hS hl)
theorem tr_pop {X : xT} {own : String} {cc : ByteArray} {F L : Nat} {Γ : gT} (hO : Ok X own cc F L Γ) (pc : Nat) {μ : mT} {lv : List (Nat × Value)} {st : List Value} {v : Value} (hc : v.category = 1) (d : decode cc pc = .ok (.pop, 1)) (k : tj X Γ μ (pc + 1) lv st) : tj X Γ μ pc lv (v :: st) := by
  obtain ⟨p, l, e, R, s, m, args, below, meth, c, kc, ks, Q, nL⟩ := Γ
  obtain ⟨hx, hb, hml, hown, hts, hK, hN, hR, hX, hroom, hlk⟩ := hO
  intro H locs la hP hS hl
  exact lv_pop hx hb d hc (k H locs la hP hS hl)
theorem tr_dup {X : xT} {own : String} {cc : ByteArray} {F L : Nat} {Γ : gT} (hO : Ok X own cc F L Γ) (pc : Nat) {μ : mT} {lv : List (Nat × Value)} {st : List Value} {v : Value} (hc : v.category = 1) (d : decode cc pc = .ok (.dup, 1)) (k : tj X Γ μ (pc + 1) lv (v :: v :: st)) : tj X Γ μ pc lv (v :: st) := by
  obtain ⟨p, l, e, R, s, m, args, below, meth, c, kc, ks, Q, nL⟩ := Γ
  obtain ⟨hx, hb, hml, hown, hts, hK, hN, hR, hX, hroom, hlk⟩ := hO
  intro H locs la hP hS hl
  exact lv_dup hx hb d hc (k H locs la hP hS hl)
theorem tr_dup2 {X : xT} {own : String} {cc : ByteArray} {F L : Nat} {Γ : gT} (hO : Ok X own cc F L Γ) (pc : Nat) {μ : mT} {lv : List (Nat × Value)} {st : List Value} {v w : Value} (hc : v.category = 1) (hw : w.category = 1) (d : decode cc pc = .ok (.dup2, 1)) (k : tj X Γ μ (pc + 1) lv (v :: w :: v :: w :: st)) : tj X Γ μ pc lv (v :: w :: st) := by
  obtain ⟨p, l, e, R, s, m, args, below, meth, c, kc, ks, Q, nL⟩ := Γ
  obtain ⟨hx, hb, hml, hown, hts, hK, hN, hR, hX, hroom, hlk⟩ := hO
  intro H locs la hP hS hl
  exact lv_dup2_11 hx hb d hc hw (k H locs la hP hS hl)
theorem tr_goto {X : xT} {own : String} {cc : ByteArray} {F L : Nat} {Γ : gT} (hO : Ok X own cc F L Γ) (pc : Nat) {μ : mT} {lv : List (Nat × Value)} {st : List Value} {off : Int} (tgt : Nat) (ht : (pc : Int) + off = (tgt : Int)) (d : decode cc pc = .ok (.goto off, 3)) (k : tj X Γ μ tgt lv st) : tj X Γ μ pc lv st := by
  obtain ⟨p, l, e, R, s, m, args, below, meth, c, kc, ks, Q, nL⟩ := Γ
  obtain ⟨hx, hb, hml, hown, hts, hK, hN, hR, hX, hroom, hlk⟩ := hO
  intro H locs la hP hS hl
  exact lv_goto hx hb d ht (k H locs la hP hS hl)
theorem tr_if_eq {X : xT} {own : String} {cc : ByteArray} {F L : Nat} {Γ : gT} (hO : Ok X own cc F L Γ) (pc : Nat) {μ : mT} {lv : List (Nat × Value)} {st : List Value} {x : Int32} {off : Int} (tgt : Nat) (ht : (pc : Int) + off = (tgt : Int)) (d : decode cc pc = .ok (.ifCond .eq off, 3)) (kt : x = 0 → tj X Γ μ tgt lv st) (kf : ¬ (x = 0) → tj X Γ μ (pc + 3) lv st) : tj X Γ μ pc lv (.int x :: st) := by
  obtain ⟨p, l, e, R, s, m, args, below, meth, c, kc, ks, Q, nL⟩ := Γ
  obtain ⟨hx, hb, hml, hown, hts, hK, hN, hR, hX, hroom, hlk⟩ := hO
  intro H locs la hP hS hl
  exact lv_if_eq hx hb d ht (fun h => kt h H locs la hP hS hl) (fun h => kf h H locs la hP hS hl)
theorem tr_icmp_eq {X : xT} {own : String} {cc : ByteArray} {F L : Nat} {Γ : gT} (hO : Ok X own cc F L Γ) (pc : Nat) {μ : mT} {lv : List (Nat × Value)} {st : List Value} {x y : Int32} {off : Int} (tgt : Nat) (ht : (pc : Int) + off = (tgt : Int)) (d : decode cc pc = .ok (.if_icmp .eq off, 3)) (kt : x = y → tj X Γ μ tgt lv st) (kf : ¬ (x = y) → tj X Γ μ (pc + 3) lv st) : tj X Γ μ pc lv (.int y :: .int x :: st) := by
  obtain ⟨p, l, e, R, s, m, args, below, meth, c, kc, ks, Q, nL⟩ := Γ
  obtain ⟨hx, hb, hml, hown, hts, hK, hN, hR, hX, hroom, hlk⟩ := hO
  intro H locs la hP hS hl
  exact lv_icmp_eq hx hb d ht (fun h => kt h H locs la hP hS hl) (fun h => kf h H locs la hP hS hl)
theorem tr_if_ne {X : xT} {own : String} {cc : ByteArray} {F L : Nat} {Γ : gT} (hO : Ok X own cc F L Γ) (pc : Nat) {μ : mT} {lv : List (Nat × Value)} {st : List Value} {x : Int32} {off : Int} (tgt : Nat) (ht : (pc : Int) + off = (tgt : Int)) (d : decode cc pc = .ok (.ifCond .ne off, 3)) (kt : ¬ x = 0 → tj X Γ μ tgt lv st) (kf : x = 0 → tj X Γ μ (pc + 3) lv st) : tj X Γ μ pc lv (.int x :: st) := by
  obtain ⟨p, l, e, R, s, m, args, below, meth, c, kc, ks, Q, nL⟩ := Γ
  obtain ⟨hx, hb, hml, hown, hts, hK, hN, hR, hX, hroom, hlk⟩ := hO
  intro H locs la hP hS hl
  exact lv_if_ne hx hb d ht (fun h => kt h H locs la hP hS hl) (fun h => kf h H locs la hP hS hl)
theorem tr_icmp_ne {X : xT} {own : String} {cc : ByteArray} {F L : Nat} {Γ : gT} (hO : Ok X own cc F L Γ) (pc : Nat) {μ : mT} {lv : List (Nat × Value)} {st : List Value} {x y : Int32} {off : Int} (tgt : Nat) (ht : (pc : Int) + off = (tgt : Int)) (d : decode cc pc = .ok (.if_icmp .ne off, 3)) (kt : ¬ x = y → tj X Γ μ tgt lv st) (kf : x = y → tj X Γ μ (pc + 3) lv st) : tj X Γ μ pc lv (.int y :: .int x :: st) := by
  obtain ⟨p, l, e, R, s, m, args, below, meth, c, kc, ks, Q, nL⟩ := Γ
  obtain ⟨hx, hb, hml, hown, hts, hK, hN, hR, hX, hroom, hlk⟩ := hO
  intro H locs la hP hS hl
  exact lv_icmp_ne hx hb d ht (fun h => kt h H locs la hP hS hl) (fun h => kf h H locs la hP hS hl)
theorem tr_if_lt {X : xT} {own : String} {cc : ByteArray} {F L : Nat} {Γ : gT} (hO : Ok X own cc F L Γ) (pc : Nat) {μ : mT} {lv : List (Nat × Value)} {st : List Value} {x : Int32} {off : Int} (tgt : Nat) (ht : (pc : Int) + off = (tgt : Int)) (d : decode cc pc = .ok (.ifCond .lt off, 3)) (kt : x < 0 → tj X Γ μ tgt lv st) (kf : ¬ (x < 0) → tj X Γ μ (pc + 3) lv st) : tj X Γ μ pc lv (.int x :: st) := by
  obtain ⟨p, l, e, R, s, m, args, below, meth, c, kc, ks, Q, nL⟩ := Γ
  obtain ⟨hx, hb, hml, hown, hts, hK, hN, hR, hX, hroom, hlk⟩ := hO
  intro H locs la hP hS hl
  exact lv_if_lt hx hb d ht (fun h => kt h H locs la hP hS hl) (fun h => kf h H locs la hP hS hl)
theorem tr_icmp_lt {X : xT} {own : String} {cc : ByteArray} {F L : Nat} {Γ : gT} (hO : Ok X own cc F L Γ) (pc : Nat) {μ : mT} {lv : List (Nat × Value)} {st : List Value} {x y : Int32} {off : Int} (tgt : Nat) (ht : (pc : Int) + off = (tgt : Int)) (d : decode cc pc = .ok (.if_icmp .lt off, 3)) (kt : x < y → tj X Γ μ tgt lv st) (kf : ¬ (x < y) → tj X Γ μ (pc + 3) lv st) : tj X Γ μ pc lv (.int y :: .int x :: st) := by
  obtain ⟨p, l, e, R, s, m, args, below, meth, c, kc, ks, Q, nL⟩ := Γ
  obtain ⟨hx, hb, hml, hown, hts, hK, hN, hR, hX, hroom, hlk⟩ := hO
  intro H locs la hP hS hl
  exact lv_icmp_lt hx hb d ht (fun h => kt h H locs la hP hS hl) (fun h => kf h H locs la hP hS hl)
theorem tr_if_ge {X : xT} {own : String} {cc : ByteArray} {F L : Nat} {Γ : gT} (hO : Ok X own cc F L Γ) (pc : Nat) {μ : mT} {lv : List (Nat × Value)} {st : List Value} {x : Int32} {off : Int} (tgt : Nat) (ht : (pc : Int) + off = (tgt : Int)) (d : decode cc pc = .ok (.ifCond .ge off, 3)) (kt : 0 ≤ x → tj X Γ μ tgt lv st) (kf : ¬ (0 ≤ x) → tj X Γ μ (pc + 3) lv st) : tj X Γ μ pc lv (.int x :: st) := by
  obtain ⟨p, l, e, R, s, m, args, below, meth, c, kc, ks, Q, nL⟩ := Γ
  obtain ⟨hx, hb, hml, hown, hts, hK, hN, hR, hX, hroom, hlk⟩ := hO
  intro H locs la hP hS hl
  exact lv_if_ge hx hb d ht (fun h => kt h H locs la hP hS hl) (fun h => kf h H locs la hP hS hl)
theorem tr_icmp_ge {X : xT} {own : String} {cc : ByteArray} {F L : Nat} {Γ : gT} (hO : Ok X own cc F L Γ) (pc : Nat) {μ : mT} {lv : List (Nat × Value)} {st : List Value} {x y : Int32} {off : Int} (tgt : Nat) (ht : (pc : Int) + off = (tgt : Int)) (d : decode cc pc = .ok (.if_icmp .ge off, 3)) (kt : y ≤ x → tj X Γ μ tgt lv st) (kf : ¬ (y ≤ x) → tj X Γ μ (pc + 3) lv st) : tj X Γ μ pc lv (.int y :: .int x :: st) := by
  obtain ⟨p, l, e, R, s, m, args, below, meth, c, kc, ks, Q, nL⟩ := Γ
  obtain ⟨hx, hb, hml, hown, hts, hK, hN, hR, hX, hroom, hlk⟩ := hO
  intro H locs la hP hS hl
  exact lv_icmp_ge hx hb d ht (fun h => kt h H locs la hP hS hl) (fun h => kf h H locs la hP hS hl)
theorem tr_if_gt {X : xT} {own : String} {cc : ByteArray} {F L : Nat} {Γ : gT} (hO : Ok X own cc F L Γ) (pc : Nat) {μ : mT} {lv : List (Nat × Value)} {st : List Value} {x : Int32} {off : Int} (tgt : Nat) (ht : (pc : Int) + off = (tgt : Int)) (d : decode cc pc = .ok (.ifCond .gt off, 3)) (kt : 0 < x → tj X Γ μ tgt lv st) (kf : ¬ (0 < x) → tj X Γ μ (pc + 3) lv st) : tj X Γ μ pc lv (.int x :: st) := by
  obtain ⟨p, l, e, R, s, m, args, below, meth, c, kc, ks, Q, nL⟩ := Γ
  obtain ⟨hx, hb, hml, hown, hts, hK, hN, hR, hX, hroom, hlk⟩ := hO
  intro H locs la hP hS hl
  exact lv_if_gt hx hb d ht (fun h => kt h H locs la hP hS hl) (fun h => kf h H locs la hP hS hl)
theorem tr_icmp_gt {X : xT} {own : String} {cc : ByteArray} {F L : Nat} {Γ : gT} (hO : Ok X own cc F L Γ) (pc : Nat) {μ : mT} {lv : List (Nat × Value)} {st : List Value} {x y : Int32} {off : Int} (tgt : Nat) (ht : (pc : Int) + off = (tgt : Int)) (d : decode cc pc = .ok (.if_icmp .gt off, 3)) (kt : y < x → tj X Γ μ tgt lv st) (kf : ¬ (y < x) → tj X Γ μ (pc + 3) lv st) : tj X Γ μ pc lv (.int y :: .int x :: st) := by
  obtain ⟨p, l, e, R, s, m, args, below, meth, c, kc, ks, Q, nL⟩ := Γ
  obtain ⟨hx, hb, hml, hown, hts, hK, hN, hR, hX, hroom, hlk⟩ := hO
  intro H locs la hP hS hl
  exact lv_icmp_gt hx hb d ht (fun h => kt h H locs la hP hS hl) (fun h => kf h H locs la hP hS hl)
theorem tr_if_le {X : xT} {own : String} {cc : ByteArray} {F L : Nat} {Γ : gT} (hO : Ok X own cc F L Γ) (pc : Nat) {μ : mT} {lv : List (Nat × Value)} {st : List Value} {x : Int32} {off : Int} (tgt : Nat) (ht : (pc : Int) + off = (tgt : Int)) (d : decode cc pc = .ok (.ifCond .le off, 3)) (kt : x ≤ 0 → tj X Γ μ tgt lv st) (kf : ¬ (x ≤ 0) → tj X Γ μ (pc + 3) lv st) : tj X Γ μ pc lv (.int x :: st) := by
  obtain ⟨p, l, e, R, s, m, args, below, meth, c, kc, ks, Q, nL⟩ := Γ
  obtain ⟨hx, hb, hml, hown, hts, hK, hN, hR, hX, hroom, hlk⟩ := hO
  intro H locs la hP hS hl
  exact lv_if_le hx hb d ht (fun h => kt h H locs la hP hS hl) (fun h => kf h H locs la hP hS hl)
theorem tr_icmp_le {X : xT} {own : String} {cc : ByteArray} {F L : Nat} {Γ : gT} (hO : Ok X own cc F L Γ) (pc : Nat) {μ : mT} {lv : List (Nat × Value)} {st : List Value} {x y : Int32} {off : Int} (tgt : Nat) (ht : (pc : Int) + off = (tgt : Int)) (d : decode cc pc = .ok (.if_icmp .le off, 3)) (kt : x ≤ y → tj X Γ μ tgt lv st) (kf : ¬ (x ≤ y) → tj X Γ μ (pc + 3) lv st) : tj X Γ μ pc lv (.int y :: .int x :: st) := by
  obtain ⟨p, l, e, R, s, m, args, below, meth, c, kc, ks, Q, nL⟩ := Γ
  obtain ⟨hx, hb, hml, hown, hts, hK, hN, hR, hX, hroom, hlk⟩ := hO
  intro H locs la hP hS hl
  exact lv_icmp_le hx hb d ht (fun h => kt h H locs la hP hS hl) (fun h => kf h H locs la hP hS hl)
theorem tr_tabIn {X : xT} {own : String} {cc : ByteArray} {F L : Nat} {Γ : gT} (hO : Ok X own cc F L Γ) (pc : Nat) {μ : mT} {lv : List (Nat × Value)} {st : List Value} {dflt lo hi : Int} {offs : Array Int} {len : Nat} {x : Int32} {off : Int} (tgt : Nat) (h1 : ¬ x.toInt < lo) (h2 : ¬ hi < x.toInt) (ho : offs[(x.toInt - lo).toNat]? = some off) (ht : (pc : Int) + off = (tgt : Int)) (d : decode cc pc = .ok (.tableswitch dflt lo hi offs, len)) (k : tj X Γ μ tgt lv st) : tj X Γ μ pc lv (.int x :: st) := by
  obtain ⟨p, l, e, R, s, m, args, below, meth, c, kc, ks, Q, nL⟩ := Γ
  obtain ⟨hx, hb, hml, hown, hts, hK, hN, hR, hX, hroom, hlk⟩ := hO
  intro H locs la hP hS hl
  exact lv_tableIn hx hb d h1 h2 ho ht (k H locs la hP hS hl)
theorem tr_tabOut {X : xT} {own : String} {cc : ByteArray} {F L : Nat} {Γ : gT} (hO : Ok X own cc F L Γ) (pc : Nat) {μ : mT} {lv : List (Nat × Value)} {st : List Value} {dflt lo hi : Int} {offs : Array Int} {len : Nat} {x : Int32} (tgt : Nat) (h : x.toInt < lo ∨ hi < x.toInt) (ht : (pc : Int) + dflt = (tgt : Int)) (d : decode cc pc = .ok (.tableswitch dflt lo hi offs, len)) (k : tj X Γ μ tgt lv st) : tj X Γ μ pc lv (.int x :: st) := by
  obtain ⟨p, l, e, R, s, m, args, below, meth, c, kc, ks, Q, nL⟩ := Γ
  obtain ⟨hx, hb, hml, hown, hts, hK, hN, hR, hX, hroom, hlk⟩ := hO
  intro H locs la hP hS hl
  exact lv_tableOut hx hb d h ht (k H locs la hP hS hl)
theorem tr_get {X : xT} {own : String} {cc : ByteArray} {F L : Nat} {Γ : gT} (hO : Ok X own cc F L Γ) (pc : Nat) {μ : mT} {lv : List (Nat × Value)} {st : List Value} {κ j ci idx N k : Nat} {C : String} {Tb : u_T} {fs : List Value} {v : Value} (hv : x_v κ j) (hc : vwCl[ci]? = some (C, Tb, N)) (he : x_c X κ j (μ κ j) = .inr (ci, fs)) (hin : ∀ w ∈ u_ws C Tb N, w ∈ big) (hk : k < N) (hw : Cond.fieldLink own idx C (Tb k).2.1 (Tb k).2.2.1 ∈ big) (hs : (Tb k).1 = C) (hf : fs[k]? = some v) (d : decode cc pc = .ok (.getfield idx, 3)) (kk : tj X Γ μ (pc + 3) lv (v :: st)) : tj X Γ μ pc lv (.ref (X.1 κ j) :: st) := by
  obtain ⟨p, l, e, R, s, m, args, below, meth, c, kc, ks, Q, nL⟩ := Γ
  obtain ⟨hx, hb, hml, hown, hts, hK, hN, hR, hX, hroom, hlk⟩ := hO
  intro H locs la hP hS hl
  exact va_get (D := X.2.1) (ci := ci) (v := v) (C := C) (T := Tb) (N := N) hx hb hts hin hown hK hP (x_n κ j) (by rw [x_wg X μ hv, he]) hc k hk (hts _ hw) (fun x h => by rw [hs] at h; exact h) hf d (kk H locs la hP hS hl)
theorem tr_getN {X : xT} {own : String} {cc : ByteArray} {F L : Nat} {Γ : gT} (hO : Ok X own cc F L Γ) (pc : Nat) {μ : mT} {lv : List (Nat × Value)} {st : List Value} {κ j ci idx N k : Nat} {C : String} {Tb : u_T} {fs : List Value} {v : Value} {host : String} (hv : x_v κ j) (hc : vwCl[ci]? = some (C, Tb, N)) (he : x_c X κ j (μ κ j) = .inr (ci, fs)) (hin : ∀ w ∈ u_ws C Tb N, w ∈ big) (hk : k < N) (hw : (own, idx, C, (Tb k).2.1, (Tb k).2.2.1, host) ∈ nF) (hs : (Tb k).1 = C) (hf : fs[k]? = some v) (d : decode cc pc = .ok (.getfield idx, 3)) (kk : tj X Γ μ (pc + 3) lv (v :: st)) : tj X Γ μ pc lv (.ref (X.1 κ j) :: st) := by
  obtain ⟨p, l, e, R, s, m, args, below, meth, c, kc, ks, Q, nL⟩ := Γ
  obtain ⟨hx, hb, hml, hown, hts, hK, hN, hR, hX, hroom, hlk⟩ := hO
  intro H locs la hP hS hl
  exact va_getN (D := X.2.1) (ci := ci) (v := v) (C := C) (T := Tb) (N := N) hx hb hts hin hown hK hP (x_n κ j) (by rw [x_wg X μ hv, he]) hc k hk (va_Nw.use rfl (hN.1 _ hw)) (fun x h => by rw [hs] at h; exact h) hf d (kk H locs la hP hS hl)
theorem tr_put {X : xT} {own : String} {cc : ByteArray} {F L : Nat} {Γ : gT} (hO : Ok X own cc F L Γ) (pc : Nat) {μ : mT} {lv : List (Nat × Value)} {st : List Value} {κ j ci idx N k : Nat} {C : String} {Tb : u_T} {fs : List Value} {x : Int32} {ty : FieldType} {μ1 : mT} (e1 : μ1 = upM μ κ j k x) (hv : x_v κ j) (hc : vwCl[ci]? = some (C, Tb, N)) (he : x_c X κ j (μ κ j) = .inr (ci, fs)) (he2 : x_c X κ j (upd (μ κ j) k x) = .inr (ci, fs.set k (.int x))) (hin : ∀ w ∈ u_ws C Tb N, w ∈ big) (ty0 : Nat → FieldType) (hty : ∀ k, k < N → parseFieldDescriptor (Tb k).2.2.1 = some (ty0 k)) (hnm : ∀ a, a < N → ∀ b, b < N → a ≠ b → (Tb a).2.1 ≠ (Tb b).2.1) (hk : k < N) (hw : Cond.fieldLink own idx C (Tb k).2.1 (Tb k).2.2.1 ∈ big) (hs : (Tb k).1 = C) (hfin : (Tb k).2.2.2 = false) (hd : parseFieldDescriptor (Tb k).2.2.1 = some ty) (hn : narrow ty (.int x) = .int x) (hfit : fits ty (.int x) = true) (hlf : k < fs.length) (d : decode cc pc = .ok (.putfield idx, 3)) (kk : tj X Γ μ1 (pc + 3) lv st) : tj X Γ μ pc lv (.int x :: .ref (X.1 κ j) :: st) := by
  obtain ⟨p, l, e, R, s, m, args, below, meth, c, kc, ks, Q, nL⟩ := Γ
  obtain ⟨hx, hb, hml, hown, hts, hK, hN, hR, hX, hroom, hlk⟩ := hO
  intro H locs la hP hS hl
  subst e1
  refine va_put (D := X.2.1) (ci := ci) (v := .int x) (ty := ty) (C := C) (T := Tb) (N := N) hx hb hts hin ty0 hty hnm hown hK hP (x_D hX μ) hS (x_n κ j) (by rw [x_wg X μ hv, he]) hc k hk (hts _ hw) (fun x h => by rw [hs] at h; exact h) hfin hd hn hfit hlf d (fun H1 locs1 hP1 _ hS1 => ?_)
  rw [← he2, x_ws X μ hv] at hP1
  exact kk H1 locs1 la hP1 hS1 hl
theorem tr_iald {X : xT} {own : String} {cc : ByteArray} {F L : Nat} {Γ : gT} (hO : Ok X own cc F L Γ) (pc : Nat) {μ : mT} {lv : List (Nat × Value)} {st : List Value} {κ j n : Nat} {i : Int32} (hv : x_v κ j) (ha : x_ai κ 0 n) (hi : inb i n = true) (d : decode cc pc = .ok (.iaload, 1)) (k : tj X Γ μ (pc + 1) lv (.int (μ κ j i.toNatClampNeg) :: st)) : tj X Γ μ pc lv (.int i :: .ref (X.1 κ j) :: st) := by
  obtain ⟨p, l, e, R, s, m, args, below, meth, c, kc, ks, Q, nL⟩ := Γ
  obtain ⟨hx, hb, hml, hown, hts, hK, hN, hR, hX, hroom, hlk⟩ := hO
  intro H locs la hP hS hl
  exact va_iald hx hb hK hP (x_n κ j) 0 (by rw [x_wg X μ hv, ha]) rfl (inb_in hi) d (k H locs la hP hS hl)
theorem tr_zald {X : xT} {own : String} {cc : ByteArray} {F L : Nat} {Γ : gT} (hO : Ok X own cc F L Γ) (pc : Nat) {μ : mT} {lv : List (Nat × Value)} {st : List Value} {κ j n : Nat} {i : Int32} (hv : x_v κ j) (ha : x_ai κ 1 n) (hi : inb i n = true) (d : decode cc pc = .ok (.baload, 1)) (k : tj X Γ μ (pc + 1) lv (.int (μ κ j i.toNatClampNeg) :: st)) : tj X Γ μ pc lv (.int i :: .ref (X.1 κ j) :: st) := by
  obtain ⟨p, l, e, R, s, m, args, below, meth, c, kc, ks, Q, nL⟩ := Γ
  obtain ⟨hx, hb, hml, hown, hts, hK, hN, hR, hX, hroom, hlk⟩ := hO
  intro H locs la hP hS hl
  exact va_zald hx hb hK hP (x_n κ j) 1 (by rw [x_wg X μ hv, ha]) rfl (inb_in hi) d (k H locs la hP hS hl)
theorem tr_cald {X : xT} {own : String} {cc : ByteArray} {F L : Nat} {Γ : gT} (hO : Ok X own cc F L Γ) (pc : Nat) {μ : mT} {lv : List (Nat × Value)} {st : List Value} {κ j n : Nat} {i : Int32} (hv : x_v κ j) (ha : x_ai κ 2 n) (hi : inb i n = true) (d : decode cc pc = .ok (.caload, 1)) (k : tj X Γ μ (pc + 1) lv (.int (μ κ j i.toNatClampNeg) :: st)) : tj X Γ μ pc lv (.int i :: .ref (X.1 κ j) :: st) := by
  obtain ⟨p, l, e, R, s, m, args, below, meth, c, kc, ks, Q, nL⟩ := Γ
  obtain ⟨hx, hb, hml, hown, hts, hK, hN, hR, hX, hroom, hlk⟩ := hO
  intro H locs la hP hS hl
  exact va_cald hx hb hK hP (x_n κ j) 2 (by rw [x_wg X μ hv, ha]) rfl (inb_in hi) d (k H locs la hP hS hl)
theorem tr_iast {X : xT} {own : String} {cc : ByteArray} {F L : Nat} {Γ : gT} (hO : Ok X own cc F L Γ) (pc : Nat) {μ : mT} {lv : List (Nat × Value)} {st : List Value} {κ j n : Nat} {i x : Int32} {μ1 : mT} (e1 : μ1 = upM μ κ j i.toNatClampNeg x) (hv : x_v κ j) (ha : x_ai κ 0 n) (hi : inb i n = true) (d : decode cc pc = .ok (.iastore, 1)) (k : tj X Γ μ1 (pc + 1) lv st) : tj X Γ μ pc lv (.int x :: .int i :: .ref (X.1 κ j) :: st) := by
  obtain ⟨p, l, e, R, s, m, args, below, meth, c, kc, ks, Q, nL⟩ := Γ
  obtain ⟨hx, hb, hml, hown, hts, hK, hN, hR, hX, hroom, hlk⟩ := hO
  intro H locs la hP hS hl
  subst e1
  refine va_iast hx hb hK hP (x_D hX μ) hS (x_n κ j) 0 (by rw [x_wg X μ hv, ha]) rfl (inb_in hi) d (fun H1 locs1 hP1 _ hS1 => ?_)
  rw [← ha X j, x_ws X μ hv] at hP1
  exact k H1 locs1 la hP1 hS1 hl
theorem tr_zast {X : xT} {own : String} {cc : ByteArray} {F L : Nat} {Γ : gT} (hO : Ok X own cc F L Γ) (pc : Nat) {μ : mT} {lv : List (Nat × Value)} {st : List Value} {κ j n : Nat} {i x : Int32} {μ1 : mT} (e1 : μ1 = upM μ κ j i.toNatClampNeg x) (hnar : vp_nar .boolean x = x) (hv : x_v κ j) (ha : x_ai κ 1 n) (hi : inb i n = true) (d : decode cc pc = .ok (.bastore, 1)) (k : tj X Γ μ1 (pc + 1) lv st) : tj X Γ μ pc lv (.int x :: .int i :: .ref (X.1 κ j) :: st) := by
  obtain ⟨p, l, e, R, s, m, args, below, meth, c, kc, ks, Q, nL⟩ := Γ
  obtain ⟨hx, hb, hml, hown, hts, hK, hN, hR, hX, hroom, hlk⟩ := hO
  intro H locs la hP hS hl
  subst e1
  refine va_zast hx hb hK hP (x_D hX μ) hS (x_n κ j) 1 (by rw [x_wg X μ hv, ha]) rfl (inb_in hi) d (fun H1 locs1 hP1 _ hS1 => ?_)
  rw [hnar, ← ha X j, x_ws X μ hv] at hP1
  exact k H1 locs1 la hP1 hS1 hl
theorem tr_cast {X : xT} {own : String} {cc : ByteArray} {F L : Nat} {Γ : gT} (hO : Ok X own cc F L Γ) (pc : Nat) {μ : mT} {lv : List (Nat × Value)} {st : List Value} {κ j n : Nat} {i x : Int32} {μ1 : mT} (e1 : μ1 = upM μ κ j i.toNatClampNeg x) (hnar : vp_nar .char x = x) (hv : x_v κ j) (ha : x_ai κ 2 n) (hi : inb i n = true) (d : decode cc pc = .ok (.castore, 1)) (k : tj X Γ μ1 (pc + 1) lv st) : tj X Γ μ pc lv (.int x :: .int i :: .ref (X.1 κ j) :: st) := by
  obtain ⟨p, l, e, R, s, m, args, below, meth, c, kc, ks, Q, nL⟩ := Γ
  obtain ⟨hx, hb, hml, hown, hts, hK, hN, hR, hX, hroom, hlk⟩ := hO
  intro H locs la hP hS hl
  subst e1
  refine va_cast hx hb hK hP (x_D hX μ) hS (x_n κ j) 2 (by rw [x_wg X μ hv, ha]) rfl (inb_in hi) d (fun H1 locs1 hP1 _ hS1 => ?_)
  rw [hnar, ← ha X j, x_ws X μ hv] at hP1
  exact k H1 locs1 la hP1 hS1 hl
theorem tr_aald {X : xT} {own : String} {cc : ByteArray} {F L : Nat} {Γ : gT} (hO : Ok X own cc F L Γ) (pc : Nat) {μ : mT} {lv : List (Nat × Value)} {st : List Value} {κ j n : Nat} {i : Int32} (hv : x_v κ j) (ha : x_aq κ n) (hi : inb i n = true) (d : decode cc pc = .ok (.aaload, 1)) (k : tj X Γ μ (pc + 1) lv (.ref (X.1 0 (μ κ j i.toNatClampNeg).toNatClampNeg) :: st)) : tj X Γ μ pc lv (.int i :: .ref (X.1 κ j) :: st) := by
  obtain ⟨p, l, e, R, s, m, args, below, meth, c, kc, ks, Q, nL⟩ := Γ
  obtain ⟨hx, hb, hml, hown, hts, hK, hN, hR, hX, hroom, hlk⟩ := hO
  intro H locs la hP hS hl
  exact va_aldq (f := fun k => some (X.1 0 (μ κ j k).toNatClampNeg)) hx hb hK hP (x_n κ j) 3 (by rw [x_wg X μ hv, ha]) rfl (inb_in hi) d (k H locs la hP hS hl)
theorem tr_aast {X : xT} {own : String} {cc : ByteArray} {F L : Nat} {Γ : gT} (hO : Ok X own cc F L Γ) (pc : Nat) {μ : mT} {lv : List (Nat × Value)} {st : List Value} {κ j n j' : Nat} {i : Int32} {μ1 : mT} (e1 : μ1 = upM μ κ j i.toNatClampNeg (nI j')) (hj : j' < 11) (hv : x_v κ j) (ha : x_aq κ n) (hi : inb i n = true) (d : decode cc pc = .ok (.aastore, 1)) (k : tj X Γ μ1 (pc + 1) lv st) : tj X Γ μ pc lv (.ref (X.1 0 j') :: .int i :: .ref (X.1 κ j) :: st) := by
  obtain ⟨p, l, e, R, s, m, args, below, meth, c, kc, ks, Q, nL⟩ := Γ
  obtain ⟨hx, hb, hml, hown, hts, hK, hN, hR, hX, hroom, hlk⟩ := hO
  intro H locs la hP hS hl
  subst e1
  refine va_astq (r := (RX6, TX6, 14)) hx hb hK hP (x_D hX μ) hS (x_n κ j) 3 (x_n 0 j') 6 (by rw [x_wg X μ hv, ha]) rfl (x_wg X μ (x_vy (by decide) hj)) rfl (inb_in hi) d (fun H1 locs1 hP1 _ hS1 => ?_)
  have e : va_up (fun k => some (X.1 0 (μ κ j k).toNatClampNeg)) i.toNatClampNeg (some (X.1 0 j')) = fun k => some (X.1 0 (upd (μ κ j) i.toNatClampNeg (nI j') k).toNatClampNeg) := by
    funext q
    unfold va_up upd
    by_cases hq : q = i.toNatClampNeg
    · rw [if_pos hq, if_pos hq, nI_clamp (by omega)]
    · rw [if_neg hq, if_neg hq]
  rw [e, ← ha X j, x_ws X μ hv] at hP1
  exact k H1 locs1 la hP1 hS1 hl
theorem tr_sald {X : xT} {own : String} {cc : ByteArray} {F L : Nat} {Γ : gT} (hO : Ok X own cc F L Γ) (pc : Nat) {μ : mT} {lv : List (Nat × Value)} {st : List Value} {κ : Nat} {i : Int32} (hκ : κ = 40 ∨ κ = 41) (hi : inb i 6 = true) (d : decode cc pc = .ok (.iaload, 1)) (k : tj X Γ μ (pc + 1) lv (.int (cst κ i.toNatClampNeg) :: st)) : tj X Γ μ pc lv (.int i :: .ref (X.1 κ 0) :: st) := by
  obtain ⟨p, l, e, R, s, m, args, below, meth, c, kc, ks, Q, nL⟩ := Γ
  obtain ⟨hx, hb, hml, hown, hts, hK, hN, hR, hX, hroom, hlk⟩ := hO
  intro H locs la hP hS hl
  have hr := (hR.kept hS).2.2 κ hκ
  have hp : va_P X.2.1 vwCl [(X.1 κ 0, .inl (X.2.2.1 0, 6, .inl (cst κ)))] H := fun q w hw => by
    match q, hw with
    | 0, hw => cases hw; exact hr.2
    | q + 1, hw => simp at hw
  exact va_iald hx hb hK hp 0 0 rfl rfl (inb_in hi) d (k H locs la hP hS hl)
theorem tr_gets {X : xT} {own : String} {cc : ByteArray} {F L : Nat} {Γ : gT} (hO : Ok X own cc F L Γ) (pc : Nat) {μ : mT} {lv : List (Nat × Value)} {st : List Value} {κ idx : Nat} {n : String} {host : String} (hκ : (κ = 40 ∧ n = "LEAST_VALUES") ∨ (κ = 41 ∧ n = "MOST_VALUES")) (hw : (own, idx, RX7, n, "[I", host) ∈ nF) (d : decode cc pc = .ok (.getstatic idx, 3)) (k : tj X Γ μ (pc + 3) lv (.ref (X.1 κ 0) :: st)) : tj X Γ μ pc lv st := by
  obtain ⟨p, l, e, R, s, m, args, below, meth, c, kc, ks, Q, nL⟩ := Γ
  obtain ⟨hx, hb, hml, hown, hts, hK, hN, hR, hX, hroom, hlk⟩ := hO
  intro H locs la hP hS hl
  rcases hκ with ⟨rfl, rfl⟩ | ⟨rfl, rfl⟩
  · exact va_getsN hx hb hR.1 hS hown (va_Nw.use rfl (hN.1 _ hw)) (fun x h => h) d (k H locs la hP hS hl)
  · exact va_getsN hx hb hR.2.1 hS hown (va_Nw.use rfl (hN.1 _ hw)) (fun x h => h) d (k H locs la hP hS hl)
theorem tr_min {X : xT} {own : String} {cc : ByteArray} {F L : Nat} {Γ : gT} (hO : Ok X own cc F L Γ) (pc : Nat) {μ : mT} {lv : List (Nat × Value)} {st : List Value} {x y : Int32} {idx : Nat} (hw : Cond.methodLink own idx Lib.Math.min.name ∈ big) (hs : (st.map fun v => v.category).sum ≤ 8) (hF : 1 ≤ F) (hL : 21 ≤ L) (d : decode cc pc = .ok (.invokestatic idx, 3)) (k : tj X Γ μ (pc + 3) lv (.int (if y < x then y else x) :: st)) : tj X Γ μ pc lv (.int y :: .int x :: st) := by
  obtain ⟨p, l, e, R, s, m, args, below, meth, c, kc, ks, Q, nL⟩ := Γ
  obtain ⟨hx, hb, hml, hown, hts, hK, hN, hR, hX, hroom, hlk⟩ := hO
  intro H locs la hP hS hl
  exact va_mmin hx hb (by rw [hml]; exact hl.1.symm) hown (hts _ hw) (hts _ wT_min) (hts _ wN_Math) (hts _ wC_min) (Nat.le_trans hF hroom.1) (by have := hroom.2.1; omega) hroom.2.2.1 hroom.2.2.2 d (k H locs la hP hS hl)
theorem tr_max {X : xT} {own : String} {cc : ByteArray} {F L : Nat} {Γ : gT} (hO : Ok X own cc F L Γ) (pc : Nat) {μ : mT} {lv : List (Nat × Value)} {st : List Value} {x y : Int32} {idx : Nat} (hw : Cond.methodLink own idx Lib.Math.max.name ∈ big) (hs : (st.map fun v => v.category).sum ≤ 8) (hF : 1 ≤ F) (hL : 21 ≤ L) (d : decode cc pc = .ok (.invokestatic idx, 3)) (k : tj X Γ μ (pc + 3) lv (.int (if x < y then y else x) :: st)) : tj X Γ μ pc lv (.int y :: .int x :: st) := by
  obtain ⟨p, l, e, R, s, m, args, below, meth, c, kc, ks, Q, nL⟩ := Γ
  obtain ⟨hx, hb, hml, hown, hts, hK, hN, hR, hX, hroom, hlk⟩ := hO
  intro H locs la hP hS hl
  exact va_mmax hx hb (by rw [hml]; exact hl.1.symm) hown (hts _ hw) (hts _ wT_max) (hts _ wN_Math) (hts _ wC_max) (Nat.le_trans hF hroom.1) (by have := hroom.2.1; omega) hroom.2.2.1 hroom.2.2.2 d (k H locs la hP hS hl)
theorem tr_copyi {X : xT} {own : String} {cc : ByteArray} {F L : Nat} {Γ : gT} (hO : Ok X own cc F L Γ) (pc : Nat) {μ : mT} {lv : List (Nat × Value)} {st : List Value} {κ j κ0 j0 n n0 idx : Nat} {sp dp m : Int32} {μ1 : mT} (e1 : μ1 = upR μ κ j (va_cpy (μ κ0 j0) (μ κ j) sp.toNatClampNeg dp.toNatClampNeg m.toNatClampNeg)) (hw : Cond.methodLink own idx arraycopyName ∈ big) (hv : x_v κ j) (hv0 : x_v κ0 j0) (ha : x_ai κ 0 n) (ha0 : x_ai κ0 0 n0) (h1 : ¬ sp < 0) (h2 : ¬ dp < 0) (h3 : ¬ m < 0) (h4 : sp.toNatClampNeg + m.toNatClampNeg ≤ n0) (h5 : dp.toNatClampNeg + m.toNatClampNeg ≤ n) (hs : (st.map fun v => v.category).sum ≤ 8) (hF : 1 ≤ F) (hL : 8 + (nativeFrameWords "java/lang/System" "arraycopy" 5 + 11) ≤ L) (d : decode cc pc = .ok (.invokestatic idx, 3)) (k : tj X Γ μ1 (pc + 3) lv st) : tj X Γ μ pc lv (.int m :: .int dp :: .ref (X.1 κ j) :: .int sp :: .ref (X.1 κ0 j0) :: st) := by
  obtain ⟨p, l, e, R, s, m, args, below, meth, c, kc, ks, Q, nL⟩ := Γ
  obtain ⟨hx, hb, hml, hown, hts, hK, hN, hR, hX, hroom, hlk⟩ := hO
  intro H locs la hP hS hl
  subst e1
  refine va_copyi (ty := .int) hx hb (by rw [hml]; exact hl.1.symm) hown (hts _ hw) (hts _ wNat_copy) (hts _ wT_arraycopyName) (hts _ wN_System) hK hP (x_D hX μ) hS (x_n κ0 j0) (x_n κ j) 0 0 (by rw [x_wg X μ hv0, ha0]) (by rw [x_wg X μ hv, ha]) rfl rfl rfl h1 h2 h3 h4 h5 (fun i _ => rfl) (Nat.le_trans hF hroom.1) (by have := hroom.2.1; omega) d (fun H1 locs1 hP1 _ hS1 => ?_)
  rw [← ha X j, x_ws X μ hv] at hP1
  exact k H1 locs1 la hP1 hS1 hl
theorem big_V {own C : String} {idx nl : Nat} {y : MethodName} {bytes : ByteArray} {ret : Option FieldType} (h1 : Cond.methodLink own idx y ∈ big) (h2 : Cond.instanceMethod y ∈ big) (h3 : Cond.selects C y y ∈ big) (h4 : Cond.initialized C ∈ big) (h5 : Cond.code y bytes nl ret ∈ big) : GoodIn big (wsV own idx C y (.code y bytes nl ret :: big)) := by
  intro w hw
  have hb : w ∈ big := by
    simp only [wsV, List.cons_append, List.nil_append, List.mem_cons] at hw
    rcases hw with rfl | rfl | rfl | rfl | rfl | hw
    · exact h1
    · exact h2
    · exact h3
    · exact h4
    · exact h5
    · exact hw
  exact ⟨hb, good_of_word (big_good hb)⟩
theorem big_S {own : String} {idx nl : Nat} {y : MethodName} {bytes : ByteArray} {ret : Option FieldType} (h1 : Cond.methodLink own idx y ∈ big) (h2 : Cond.static y ∈ big) (h4 : Cond.initialized own ∈ big) (h5 : Cond.code y bytes nl ret ∈ big) : GoodIn big (wsS own idx y (.code y bytes nl ret :: big)) := by
  intro w hw
  have hb : w ∈ big := by
    simp only [wsS, List.cons_append, List.nil_append, List.mem_cons] at hw
    rcases hw with rfl | rfl | rfl | rfl | hw
    · exact h1
    · exact h2
    · exact h4
    · exact h5
    · exact hw
  exact ⟨hb, good_of_word (big_good hb)⟩
theorem tr_callI {X : xT} {own : String} {cc : ByteArray} {F L : Nat} {Γ : gT} (hO : Ok X own cc F L Γ) (pc : Nat) {μ : mT} {lv : List (Nat × Value)} {st : List Value} {μ' : mT} {κ j ci N f' n' idx nl na : Nat} {C : String} {Tb : u_T} {fs As stk : List Value} {y : MethodName} {bytes : ByteArray} {r : Int32} {rt : FieldType} (hM : CMi X y bytes nl rt f' n' (.ref (X.1 κ j) :: As) μ r μ') (hs : As.reverse ++ .ref (X.1 κ j) :: st = stk) (hv : x_v κ j) (hc : vwCl[ci]? = some (C, Tb, N)) (he : x_c X κ j (μ κ j) = .inr (ci, fs)) (h1 : Cond.methodLink own idx y ∈ big) (h2 : Cond.instanceMethod y ∈ big) (h3 : Cond.selects C y y ∈ big) (h4 : Cond.initialized C ∈ big) (h5 : Cond.code y bytes nl (some rt) ∈ big) (hd : y.cls = C ∧ y.cls ≠ "java/lang/invoke/MethodHandle" ∧ y.cls ≠ "java/lang/invoke/VarHandle" ∧ (parseMethodDescriptor y.desc).map (fun d => d.parameters.length) = some na) (hna : As.length = na) (hF : f' + 1 ≤ F) (hL : 8 + (nl + 11) + n' ≤ L) (hrs : (st.map fun v => v.category).sum ≤ 8) (d : decode cc pc = .ok (.invokevirtual idx, 3)) (k : tj X Γ μ' (pc + 3) lv (.int r :: st)) : tj X Γ μ pc lv stk := by
  obtain ⟨p, l, e, R, s, m, args, below, meth, c, kc, ks, Q, nL⟩ := Γ
  obtain ⟨hx, hb, hml, hown, hts, hK, hN, hR, hX, hroom, hlk⟩ := hO
  intro H locs la hP hS hl
  refine va_calli (post := fun z (_ : Unit) => z = r) (B := fun _ t => va_P X.2.1 vwCl (x_w X μ') t.heap) (va_runV (As := As) (rest := st) ⟨hx, hb, hml, hown, hts⟩ (hM l) (cwV na hts (big_V h1 h2 h3 h4 h5) rfl rfl rfl hd ⟨Nat.le_trans hF hroom.1, Nat.le_trans hL hroom.2.1⟩) ⟨fun a U g mk q => ⟨q.1, q.2.blind g mk a⟩, va_recv hK hP hc (by rw [x_wg X μ hv, he]), fun U hU hW => ⟨rfl, x_G.to hK hN hR hS hP hU hW⟩⟩ rfl hna hl.1 hs.symm (lv_room hrs) d ⟨hroom.2.2.1, hroom.2.2.2⟩) hS (fun q _ h => h) (fun q h => h) (fun z u t H1 locs1 ht hvm hw hB hz1 hk1 hS1 => ?_)
  subst hw
  rw [ht] at hB
  exact k H1 locs1 la hB hS1 hl
theorem tr_callV {X : xT} {own : String} {cc : ByteArray} {F L : Nat} {Γ : gT} (hO : Ok X own cc F L Γ) (pc : Nat) {μ : mT} {lv : List (Nat × Value)} {st : List Value} {μ' : mT} {κ j ci N f' n' idx nl na : Nat} {C : String} {Tb : u_T} {fs As stk : List Value} {y : MethodName} {bytes : ByteArray} (hM : CMv X y bytes nl f' n' (.ref (X.1 κ j) :: As) μ μ') (hs : As.reverse ++ .ref (X.1 κ j) :: st = stk) (hv : x_v κ j) (hc : vwCl[ci]? = some (C, Tb, N)) (he : x_c X κ j (μ κ j) = .inr (ci, fs)) (h1 : Cond.methodLink own idx y ∈ big) (h2 : Cond.instanceMethod y ∈ big) (h3 : Cond.selects C y y ∈ big) (h4 : Cond.initialized C ∈ big) (h5 : Cond.code y bytes nl none ∈ big) (hd : y.cls = C ∧ y.cls ≠ "java/lang/invoke/MethodHandle" ∧ y.cls ≠ "java/lang/invoke/VarHandle" ∧ (parseMethodDescriptor y.desc).map (fun d => d.parameters.length) = some na) (hna : As.length = na) (hF : f' + 1 ≤ F) (hL : 8 + (nl + 11) + n' ≤ L) (hrs : (st.map fun v => v.category).sum ≤ 8) (d : decode cc pc = .ok (.invokevirtual idx, 3)) (k : tj X Γ μ' (pc + 3) lv st) : tj X Γ μ pc lv stk := by
  obtain ⟨p, l, e, R, s, m, args, below, meth, c, kc, ks, Q, nL⟩ := Γ
  obtain ⟨hx, hb, hml, hown, hts, hK, hN, hR, hX, hroom, hlk⟩ := hO
  intro H locs la hP hS hl
  refine va_callv (post := fun (_ : Unit) => True) (B := fun _ t => va_P X.2.1 vwCl (x_w X μ') t.heap) (va_runV (As := As) (rest := st) ⟨hx, hb, hml, hown, hts⟩ (hM l) (cwV na hts (big_V h1 h2 h3 h4 h5) rfl rfl rfl hd ⟨Nat.le_trans hF hroom.1, Nat.le_trans hL hroom.2.1⟩) ⟨fun a U g mk q => ⟨q.1, q.2.blind g mk a⟩, va_recv hK hP hc (by rw [x_wg X μ hv, he]), fun U hU hW => ⟨rfl, x_G.to hK hN hR hS hP hU hW⟩⟩ rfl hna hl.1 hs.symm (lv_room hrs) d ⟨hroom.2.2.1, hroom.2.2.2⟩) hS (fun q _ h => h) (fun q h => h) (fun u t H1 locs1 ht hvm hw hB hz1 hk1 hS1 => ?_)
  rw [ht] at hB
  exact k H1 locs1 la hB hS1 hl
theorem tr_callS {X : xT} {own : String} {cc : ByteArray} {F L : Nat} {Γ : gT} (hO : Ok X own cc F L Γ) (pc : Nat) {μ : mT} {lv : List (Nat × Value)} {st : List Value} {μ' : mT} {f' n' idx nl na : Nat} {As stk : List Value} {y : MethodName} {bytes : ByteArray} {r : Int32} {rt : FieldType} (hM : CMi X y bytes nl rt f' n' As μ r μ') (hs : As.reverse ++ st = stk) (h1 : Cond.methodLink own idx y ∈ big) (h2 : Cond.static y ∈ big) (h4 : Cond.initialized own ∈ big) (h5 : Cond.code y bytes nl (some rt) ∈ big) (hd : y.cls = own ∧ y.cls ≠ "java/lang/invoke/MethodHandle" ∧ y.cls ≠ "java/lang/invoke/VarHandle" ∧ (parseMethodDescriptor y.desc).map (fun d => d.parameters.length) = some na) (hna : As.length = na) (hF : f' + 1 ≤ F) (hL : 8 + (nl + 11) + n' ≤ L) (hrs : (st.map fun v => v.category).sum ≤ 8) (d : decode cc pc = .ok (.invokestatic idx, 3)) (k : tj X Γ μ' (pc + 3) lv (.int r :: st)) : tj X Γ μ pc lv stk := by
  obtain ⟨p, l, e, R, s, m, args, below, meth, c, kc, ks, Q, nL⟩ := Γ
  obtain ⟨hx, hb, hml, hown, hts, hK, hN, hR, hX, hroom, hlk⟩ := hO
  intro H locs la hP hS hl
  refine va_calli (post := fun z (_ : Unit) => z = r) (B := fun _ t => va_P X.2.1 vwCl (x_w X μ') t.heap) (va_runS (As := As) (rest := st) ⟨hx, hb, hml, hown, hts⟩ (hM l) (cwS na hts (big_S h1 h2 h4 h5) rfl rfl rfl hd ⟨Nat.le_trans hF hroom.1, Nat.le_trans hL hroom.2.1⟩) ⟨fun a U g mk q => ⟨q.1, q.2.blind g mk a⟩, fun U hU hW => ⟨rfl, x_G.to hK hN hR hS hP hU hW⟩⟩ rfl hna hl.1 hs.symm (lv_room hrs) d ⟨hroom.2.2.1, hroom.2.2.2⟩) hS (fun q _ h => h) (fun q h => h) (fun z u t H1 locs1 ht hvm hw hB hz1 hk1 hS1 => ?_)
  subst hw
  rw [ht] at hB
  exact k H1 locs1 la hB hS1 hl
theorem tr_iret {X : xT} {own : String} {cc : ByteArray} {F L : Nat} {Γ : gT} (hO : Ok X own cc F L Γ) (pc : Nat) {μ : mT} {lv : List (Nat × Value)} {r : Int32} {rt : FieldType} (hQ : Rti X rt r μ Γ) (hn : narrow rt (.int r) = .int r) (d : decode cc pc = .ok (.ireturn, 1)) : tj X Γ μ pc lv [.int r] := by
  obtain ⟨p, l, e, R, s, m, args, below, meth, c, kc, ks, Q, nL⟩ := Γ
  obtain ⟨hx, hb, hml, hown, hts, hK, hN, hR, hX, hroom, hlk⟩ := hO
  intro H locs la hP hS hl
  obtain ⟨hr, rfl⟩ := hQ
  exact W.zret hx hb hr hn (fun t ht hW => ⟨⟨r, (), rfl, rfl, by show va_P _ _ _ t.heap; rw [ht]; exact hP⟩, hS.F ht⟩) hS.2.2 d hlk
theorem tr_vret {X : xT} {own : String} {cc : ByteArray} {F L : Nat} {Γ : gT} (hO : Ok X own cc F L Γ) (pc : Nat) {μ : mT} {lv : List (Nat × Value)} (hQ : Rtv X μ Γ) (d : decode cc pc = .ok (.return_, 1)) : tj X Γ μ pc lv [] := by
  obtain ⟨p, l, e, R, s, m, args, below, meth, c, kc, ks, Q, nL⟩ := Γ
  obtain ⟨hx, hb, hml, hown, hts, hK, hN, hR, hX, hroom, hlk⟩ := hO
  intro H locs la hP hS hl
  obtain ⟨hr, rfl⟩ := hQ
  exact W.vret hx hb hr (fun t ht hW => ⟨⟨(), rfl, trivial, by show va_P _ _ _ t.heap; rw [ht]; exact hP⟩, hS.F ht⟩) hS.2.2 d hlk
end
