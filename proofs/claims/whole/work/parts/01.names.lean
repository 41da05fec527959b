-- ===== PART A: goes FIRST, ahead of the names: the tables' words, and 'selects' of the private methods out of them =====
/-- a private method of a class that the tables say can be made, by its rows of tables_1 -/
def lw_okq (q : MethodName × Nat) : Prop := (q.1.cls ≠ "java/lang/invoke/MethodHandle" ∧ q.1.cls ≠ "java/lang/invoke/VarHandle") ∧ Cond.instantiable q.1.cls q.2 ∈ tables_1 ∧ Cond.privateMethod q.1 ∈ tables_1 ∧ Cond.instanceMethod q.1 ∈ tables_1
theorem lw_p0 : lw_okq (⟨"PostTurns", "isGame", "(I)Z"⟩, 19) := ⟨⟨by decide +kernel, by decide +kernel⟩, List.mem_of_getElem? (i := 24) (by decide +kernel), List.mem_of_getElem? (i := 509) (by decide +kernel), List.mem_of_getElem? (i := 510) (by decide +kernel)⟩
theorem lw_p1 : lw_okq (⟨"PostTurns", "pieceIn", "(II)I"⟩, 19) := ⟨⟨by decide +kernel, by decide +kernel⟩, List.mem_of_getElem? (i := 24) (by decide +kernel), List.mem_of_getElem? (i := 516) (by decide +kernel), List.mem_of_getElem? (i := 517) (by decide +kernel)⟩
theorem lw_p2 : lw_okq (⟨"PostTurns", "isHolder", "(I)Z"⟩, 19) := ⟨⟨by decide +kernel, by decide +kernel⟩, List.mem_of_getElem? (i := 24) (by decide +kernel), List.mem_of_getElem? (i := 528) (by decide +kernel), List.mem_of_getElem? (i := 529) (by decide +kernel)⟩
theorem lw_p3 : lw_okq (⟨"PostTurns", "isPiece", "(I)Z"⟩, 19) := ⟨⟨by decide +kernel, by decide +kernel⟩, List.mem_of_getElem? (i := 24) (by decide +kernel), List.mem_of_getElem? (i := 545) (by decide +kernel), List.mem_of_getElem? (i := 546) (by decide +kernel)⟩
theorem lw_p4 : lw_okq (⟨"PostTurns", "piecesOf", "(I)I"⟩, 19) := ⟨⟨by decide +kernel, by decide +kernel⟩, List.mem_of_getElem? (i := 24) (by decide +kernel), List.mem_of_getElem? (i := 557) (by decide +kernel), List.mem_of_getElem? (i := 558) (by decide +kernel)⟩
theorem lw_p5 : lw_okq (⟨"PostTurns", "isRuled", "(I)Z"⟩, 19) := ⟨⟨by decide +kernel, by decide +kernel⟩, List.mem_of_getElem? (i := 24) (by decide +kernel), List.mem_of_getElem? (i := 581) (by decide +kernel), List.mem_of_getElem? (i := 582) (by decide +kernel)⟩
theorem lw_p6 : lw_okq (⟨"PostTurns$Tape", "line", "(LPostTurns$Rule;)Z"⟩, 3) := ⟨⟨by decide +kernel, by decide +kernel⟩, List.mem_of_getElem? (i := 155) (by decide +kernel), List.mem_of_getElem? (i := 592) (by decide +kernel), List.mem_of_getElem? (i := 593) (by decide +kernel)⟩
theorem lw_p7 : lw_okq (⟨"PostTurns$Tape", "either", "(LPostTurns$Rule;I)Z"⟩, 3) := ⟨⟨by decide +kernel, by decide +kernel⟩, List.mem_of_getElem? (i := 155) (by decide +kernel), List.mem_of_getElem? (i := 596) (by decide +kernel), List.mem_of_getElem? (i := 597) (by decide +kernel)⟩
theorem lw_p8 : lw_okq (⟨"PostTurns$Tape", "both", "(LPostTurns$Rule;I)Z"⟩, 3) := ⟨⟨by decide +kernel, by decide +kernel⟩, List.mem_of_getElem? (i := 155) (by decide +kernel), List.mem_of_getElem? (i := 600) (by decide +kernel), List.mem_of_getElem? (i := 601) (by decide +kernel)⟩
theorem lw_p9 : lw_okq (⟨"PostTurns$Tape", "compared", "(LPostTurns$Rule;I)Z"⟩, 3) := ⟨⟨by decide +kernel, by decide +kernel⟩, List.mem_of_getElem? (i := 155) (by decide +kernel), List.mem_of_getElem? (i := 604) (by decide +kernel), List.mem_of_getElem? (i := 605) (by decide +kernel)⟩
theorem lw_p10 : lw_okq (⟨"PostTurns$Tape", "sum", "(LPostTurns$Rule;I)Z"⟩, 3) := ⟨⟨by decide +kernel, by decide +kernel⟩, List.mem_of_getElem? (i := 155) (by decide +kernel), List.mem_of_getElem? (i := 608) (by decide +kernel), List.mem_of_getElem? (i := 609) (by decide +kernel)⟩
theorem lw_p11 : lw_okq (⟨"PostTurns$Tape", "product", "(LPostTurns$Rule;I)Z"⟩, 3) := ⟨⟨by decide +kernel, by decide +kernel⟩, List.mem_of_getElem? (i := 155) (by decide +kernel), List.mem_of_getElem? (i := 612) (by decide +kernel), List.mem_of_getElem? (i := 613) (by decide +kernel)⟩
theorem lw_p12 : lw_okq (⟨"PostTurns$Tape", "operand", "(LPostTurns$Rule;I)Z"⟩, 3) := ⟨⟨by decide +kernel, by decide +kernel⟩, List.mem_of_getElem? (i := 155) (by decide +kernel), List.mem_of_getElem? (i := 616) (by decide +kernel), List.mem_of_getElem? (i := 617) (by decide +kernel)⟩
theorem lw_p13 : lw_okq (⟨"PostTurns$Tape", "next", "()I"⟩, 3) := ⟨⟨by decide +kernel, by decide +kernel⟩, List.mem_of_getElem? (i := 155) (by decide +kernel), List.mem_of_getElem? (i := 620) (by decide +kernel), List.mem_of_getElem? (i := 621) (by decide +kernel)⟩
theorem lw_p14 : lw_okq (⟨"PostTurns$Tape", "number", "(LPostTurns$Rule;)V"⟩, 3) := ⟨⟨by decide +kernel, by decide +kernel⟩, List.mem_of_getElem? (i := 155) (by decide +kernel), List.mem_of_getElem? (i := 624) (by decide +kernel), List.mem_of_getElem? (i := 625) (by decide +kernel)⟩
theorem lw_p15 : lw_okq (⟨"PostTurns$Tape", "name", "(LPostTurns$Rule;I)Z"⟩, 3) := ⟨⟨by decide +kernel, by decide +kernel⟩, List.mem_of_getElem? (i := 155) (by decide +kernel), List.mem_of_getElem? (i := 632) (by decide +kernel), List.mem_of_getElem? (i := 633) (by decide +kernel)⟩
def lw_privs_1 : List (MethodName × Nat) := [(⟨"PostTurns", "isGame", "(I)Z"⟩, 19), (⟨"PostTurns", "pieceIn", "(II)I"⟩, 19), (⟨"PostTurns", "isHolder", "(I)Z"⟩, 19), (⟨"PostTurns", "isPiece", "(I)Z"⟩, 19), (⟨"PostTurns", "piecesOf", "(I)I"⟩, 19), (⟨"PostTurns", "isRuled", "(I)Z"⟩, 19), (⟨"PostTurns$Tape", "line", "(LPostTurns$Rule;)Z"⟩, 3), (⟨"PostTurns$Tape", "either", "(LPostTurns$Rule;I)Z"⟩, 3), (⟨"PostTurns$Tape", "both", "(LPostTurns$Rule;I)Z"⟩, 3), (⟨"PostTurns$Tape", "compared", "(LPostTurns$Rule;I)Z"⟩, 3), (⟨"PostTurns$Tape", "sum", "(LPostTurns$Rule;I)Z"⟩, 3), (⟨"PostTurns$Tape", "product", "(LPostTurns$Rule;I)Z"⟩, 3), (⟨"PostTurns$Tape", "operand", "(LPostTurns$Rule;I)Z"⟩, 3), (⟨"PostTurns$Tape", "next", "()I"⟩, 3), (⟨"PostTurns$Tape", "number", "(LPostTurns$Rule;)V"⟩, 3), (⟨"PostTurns$Tape", "name", "(LPostTurns$Rule;I)Z"⟩, 3)]
theorem lw_r1 : ∀ q ∈ lw_privs_1, lw_okq q := List.forall_mem_cons.mpr ⟨lw_p0, List.forall_mem_cons.mpr ⟨lw_p1, List.forall_mem_cons.mpr ⟨lw_p2, List.forall_mem_cons.mpr ⟨lw_p3, List.forall_mem_cons.mpr ⟨lw_p4, List.forall_mem_cons.mpr ⟨lw_p5, List.forall_mem_cons.mpr ⟨lw_p6, List.forall_mem_cons.mpr ⟨lw_p7, List.forall_mem_cons.mpr ⟨lw_p8, List.forall_mem_cons.mpr ⟨lw_p9, List.forall_mem_cons.mpr ⟨lw_p10, List.forall_mem_cons.mpr ⟨lw_p11, List.forall_mem_cons.mpr ⟨lw_p12, List.forall_mem_cons.mpr ⟨lw_p13, List.forall_mem_cons.mpr ⟨lw_p14, List.forall_mem_cons.mpr ⟨lw_p15, fun _ h => absurd h List.not_mem_nil⟩⟩⟩⟩⟩⟩⟩⟩⟩⟩⟩⟩⟩⟩⟩⟩
theorem lw_p16 : lw_okq (⟨"PostTurns", "ruleIn", "(IIII)I"⟩, 19) := ⟨⟨by decide +kernel, by decide +kernel⟩, List.mem_of_getElem? (i := 24) (by decide +kernel), List.mem_of_getElem? (i := 729) (by decide +kernel), List.mem_of_getElem? (i := 730) (by decide +kernel)⟩
theorem lw_p17 : lw_okq (⟨"PostTurns", "sightOf", "(I)I"⟩, 19) := ⟨⟨by decide +kernel, by decide +kernel⟩, List.mem_of_getElem? (i := 24) (by decide +kernel), List.mem_of_getElem? (i := 737) (by decide +kernel), List.mem_of_getElem? (i := 738) (by decide +kernel)⟩
theorem lw_p18 : lw_okq (⟨"PostTurns", "namePiece", "(IIII)V"⟩, 19) := ⟨⟨by decide +kernel, by decide +kernel⟩, List.mem_of_getElem? (i := 24) (by decide +kernel), List.mem_of_getElem? (i := 741) (by decide +kernel), List.mem_of_getElem? (i := 742) (by decide +kernel)⟩
theorem lw_p19 : lw_okq (⟨"PostTurns", "feeOf", "(III)I"⟩, 19) := ⟨⟨by decide +kernel, by decide +kernel⟩, List.mem_of_getElem? (i := 24) (by decide +kernel), List.mem_of_getElem? (i := 759) (by decide +kernel), List.mem_of_getElem? (i := 760) (by decide +kernel)⟩
theorem lw_p20 : lw_okq (⟨"PostTurns", "clearNames", "()V"⟩, 19) := ⟨⟨by decide +kernel, by decide +kernel⟩, List.mem_of_getElem? (i := 24) (by decide +kernel), List.mem_of_getElem? (i := 763) (by decide +kernel), List.mem_of_getElem? (i := 764) (by decide +kernel)⟩
theorem lw_p21 : lw_okq (⟨"PostTurns", "drawnFor", "(II)I"⟩, 19) := ⟨⟨by decide +kernel, by decide +kernel⟩, List.mem_of_getElem? (i := 24) (by decide +kernel), List.mem_of_getElem? (i := 771) (by decide +kernel), List.mem_of_getElem? (i := 772) (by decide +kernel)⟩
theorem lw_p22 : lw_okq (⟨"PostTurns", "isCard", "(I)Z"⟩, 19) := ⟨⟨by decide +kernel, by decide +kernel⟩, List.mem_of_getElem? (i := 24) (by decide +kernel), List.mem_of_getElem? (i := 790) (by decide +kernel), List.mem_of_getElem? (i := 791) (by decide +kernel)⟩
theorem lw_p23 : lw_okq (⟨"PostTurns", "cardCounts", "(LPostTurns$Card;)Z"⟩, 19) := ⟨⟨by decide +kernel, by decide +kernel⟩, List.mem_of_getElem? (i := 24) (by decide +kernel), List.mem_of_getElem? (i := 798) (by decide +kernel), List.mem_of_getElem? (i := 799) (by decide +kernel)⟩
theorem lw_p24 : lw_okq (⟨"PostTurns", "isSound", "(III)Z"⟩, 19) := ⟨⟨by decide +kernel, by decide +kernel⟩, List.mem_of_getElem? (i := 24) (by decide +kernel), List.mem_of_getElem? (i := 806) (by decide +kernel), List.mem_of_getElem? (i := 807) (by decide +kernel)⟩
theorem lw_p25 : lw_okq (⟨"PostTurns", "addOrder", "(IIIII)V"⟩, 19) := ⟨⟨by decide +kernel, by decide +kernel⟩, List.mem_of_getElem? (i := 24) (by decide +kernel), List.mem_of_getElem? (i := 810) (by decide +kernel), List.mem_of_getElem? (i := 811) (by decide +kernel)⟩
theorem lw_p26 : lw_okq (⟨"PostTurns", "isOrder", "(I)Z"⟩, 19) := ⟨⟨by decide +kernel, by decide +kernel⟩, List.mem_of_getElem? (i := 24) (by decide +kernel), List.mem_of_getElem? (i := 825) (by decide +kernel), List.mem_of_getElem? (i := 826) (by decide +kernel)⟩
theorem lw_p27 : lw_okq (⟨"PostTurns", "readFour", "(ILPostTurns$Shelf;I)V"⟩, 19) := ⟨⟨by decide +kernel, by decide +kernel⟩, List.mem_of_getElem? (i := 24) (by decide +kernel), List.mem_of_getElem? (i := 836) (by decide +kernel), List.mem_of_getElem? (i := 837) (by decide +kernel)⟩
theorem lw_p28 : lw_okq (⟨"PostTurns", "canBe", "(III)Z"⟩, 19) := ⟨⟨by decide +kernel, by decide +kernel⟩, List.mem_of_getElem? (i := 24) (by decide +kernel), List.mem_of_getElem? (i := 840) (by decide +kernel), List.mem_of_getElem? (i := 841) (by decide +kernel)⟩
theorem lw_p29 : lw_okq (⟨"PostTurns", "holdsGood", "(LPostTurns$Order;I)Z"⟩, 19) := ⟨⟨by decide +kernel, by decide +kernel⟩, List.mem_of_getElem? (i := 24) (by decide +kernel), List.mem_of_getElem? (i := 854) (by decide +kernel), List.mem_of_getElem? (i := 855) (by decide +kernel)⟩
theorem lw_p30 : lw_okq (⟨"PostTurns", "fits", "(LPostTurns$Order;I)Z"⟩, 19) := ⟨⟨by decide +kernel, by decide +kernel⟩, List.mem_of_getElem? (i := 24) (by decide +kernel), List.mem_of_getElem? (i := 858) (by decide +kernel), List.mem_of_getElem? (i := 859) (by decide +kernel)⟩
theorem lw_p31 : lw_okq (⟨"PostTurns", "isOfTurn", "(LPostTurns$Order;LPostTurns$Card;I)Z"⟩, 19) := ⟨⟨by decide +kernel, by decide +kernel⟩, List.mem_of_getElem? (i := 24) (by decide +kernel), List.mem_of_getElem? (i := 862) (by decide +kernel), List.mem_of_getElem? (i := 863) (by decide +kernel)⟩
def lw_privs_2 : List (MethodName × Nat) := [(⟨"PostTurns", "ruleIn", "(IIII)I"⟩, 19), (⟨"PostTurns", "sightOf", "(I)I"⟩, 19), (⟨"PostTurns", "namePiece", "(IIII)V"⟩, 19), (⟨"PostTurns", "feeOf", "(III)I"⟩, 19), (⟨"PostTurns", "clearNames", "()V"⟩, 19), (⟨"PostTurns", "drawnFor", "(II)I"⟩, 19), (⟨"PostTurns", "isCard", "(I)Z"⟩, 19), (⟨"PostTurns", "cardCounts", "(LPostTurns$Card;)Z"⟩, 19), (⟨"PostTurns", "isSound", "(III)Z"⟩, 19), (⟨"PostTurns", "addOrder", "(IIIII)V"⟩, 19), (⟨"PostTurns", "isOrder", "(I)Z"⟩, 19), (⟨"PostTurns", "readFour", "(ILPostTurns$Shelf;I)V"⟩, 19), (⟨"PostTurns", "canBe", "(III)Z"⟩, 19), (⟨"PostTurns", "holdsGood", "(LPostTurns$Order;I)Z"⟩, 19), (⟨"PostTurns", "fits", "(LPostTurns$Order;I)Z"⟩, 19), (⟨"PostTurns", "isOfTurn", "(LPostTurns$Order;LPostTurns$Card;I)Z"⟩, 19)]
theorem lw_r2 : ∀ q ∈ lw_privs_2, lw_okq q := List.forall_mem_cons.mpr ⟨lw_p16, List.forall_mem_cons.mpr ⟨lw_p17, List.forall_mem_cons.mpr ⟨lw_p18, List.forall_mem_cons.mpr ⟨lw_p19, List.forall_mem_cons.mpr ⟨lw_p20, List.forall_mem_cons.mpr ⟨lw_p21, List.forall_mem_cons.mpr ⟨lw_p22, List.forall_mem_cons.mpr ⟨lw_p23, List.forall_mem_cons.mpr ⟨lw_p24, List.forall_mem_cons.mpr ⟨lw_p25, List.forall_mem_cons.mpr ⟨lw_p26, List.forall_mem_cons.mpr ⟨lw_p27, List.forall_mem_cons.mpr ⟨lw_p28, List.forall_mem_cons.mpr ⟨lw_p29, List.forall_mem_cons.mpr ⟨lw_p30, List.forall_mem_cons.mpr ⟨lw_p31, fun _ h => absurd h List.not_mem_nil⟩⟩⟩⟩⟩⟩⟩⟩⟩⟩⟩⟩⟩⟩⟩⟩
theorem lw_p32 : lw_okq (⟨"PostTurns", "mayBe", "(IIII)Z"⟩, 19) := ⟨⟨by decide +kernel, by decide +kernel⟩, List.mem_of_getElem? (i := 24) (by decide +kernel), List.mem_of_getElem? (i := 866) (by decide +kernel), List.mem_of_getElem? (i := 867) (by decide +kernel)⟩
theorem lw_p33 : lw_okq (⟨"PostTurns", "doTurn", "(II)V"⟩, 19) := ⟨⟨by decide +kernel, by decide +kernel⟩, List.mem_of_getElem? (i := 24) (by decide +kernel), List.mem_of_getElem? (i := 874) (by decide +kernel), List.mem_of_getElem? (i := 875) (by decide +kernel)⟩
theorem lw_p34 : lw_okq (⟨"PostTurns", "giveOrders", "(II)V"⟩, 19) := ⟨⟨by decide +kernel, by decide +kernel⟩, List.mem_of_getElem? (i := 24) (by decide +kernel), List.mem_of_getElem? (i := 878) (by decide +kernel), List.mem_of_getElem? (i := 879) (by decide +kernel)⟩
theorem lw_p35 : lw_okq (⟨"PostTurns", "tieOf", "(IIII)I"⟩, 19) := ⟨⟨by decide +kernel, by decide +kernel⟩, List.mem_of_getElem? (i := 24) (by decide +kernel), List.mem_of_getElem? (i := 886) (by decide +kernel), List.mem_of_getElem? (i := 887) (by decide +kernel)⟩
theorem lw_p36 : lw_okq (⟨"PostTurns$Moves", "measure", "()V"⟩, 14) := ⟨⟨by decide +kernel, by decide +kernel⟩, List.mem_of_getElem? (i := 36) (by decide +kernel), List.mem_of_getElem? (i := 898) (by decide +kernel), List.mem_of_getElem? (i := 899) (by decide +kernel)⟩
theorem lw_p37 : lw_okq (⟨"PostTurns$Moves", "goal", "(I)I"⟩, 14) := ⟨⟨by decide +kernel, by decide +kernel⟩, List.mem_of_getElem? (i := 36) (by decide +kernel), List.mem_of_getElem? (i := 902) (by decide +kernel), List.mem_of_getElem? (i := 903) (by decide +kernel)⟩
theorem lw_p38 : lw_okq (⟨"PostTurns$Moves", "findFirst", "()V"⟩, 14) := ⟨⟨by decide +kernel, by decide +kernel⟩, List.mem_of_getElem? (i := 36) (by decide +kernel), List.mem_of_getElem? (i := 907) (by decide +kernel), List.mem_of_getElem? (i := 908) (by decide +kernel)⟩
theorem lw_p39 : lw_okq (⟨"PostTurns$Moves", "compare", "(II)I"⟩, 14) := ⟨⟨by decide +kernel, by decide +kernel⟩, List.mem_of_getElem? (i := 36) (by decide +kernel), List.mem_of_getElem? (i := 911) (by decide +kernel), List.mem_of_getElem? (i := 912) (by decide +kernel)⟩
theorem lw_p40 : lw_okq (⟨"PostTurns$Moves", "failSwaps", "()V"⟩, 14) := ⟨⟨by decide +kernel, by decide +kernel⟩, List.mem_of_getElem? (i := 36) (by decide +kernel), List.mem_of_getElem? (i := 918) (by decide +kernel), List.mem_of_getElem? (i := 919) (by decide +kernel)⟩
theorem lw_p41 : lw_okq (⟨"PostTurns$Moves", "goes", "(I)Z"⟩, 14) := ⟨⟨by decide +kernel, by decide +kernel⟩, List.mem_of_getElem? (i := 36) (by decide +kernel), List.mem_of_getElem? (i := 922) (by decide +kernel), List.mem_of_getElem? (i := 923) (by decide +kernel)⟩
theorem lw_p42 : lw_okq (⟨"PostTurns$Moves", "failBlocked", "()Z"⟩, 14) := ⟨⟨by decide +kernel, by decide +kernel⟩, List.mem_of_getElem? (i := 36) (by decide +kernel), List.mem_of_getElem? (i := 926) (by decide +kernel), List.mem_of_getElem? (i := 927) (by decide +kernel)⟩
theorem lw_p43 : lw_okq (⟨"PostTurns$Moves", "cellAfter", "(I)I"⟩, 14) := ⟨⟨by decide +kernel, by decide +kernel⟩, List.mem_of_getElem? (i := 36) (by decide +kernel), List.mem_of_getElem? (i := 930) (by decide +kernel), List.mem_of_getElem? (i := 931) (by decide +kernel)⟩
theorem lw_p44 : lw_okq (⟨"PostTurns", "settle", "(II)V"⟩, 19) := ⟨⟨by decide +kernel, by decide +kernel⟩, List.mem_of_getElem? (i := 24) (by decide +kernel), List.mem_of_getElem? (i := 938) (by decide +kernel), List.mem_of_getElem? (i := 939) (by decide +kernel)⟩
theorem lw_p45 : lw_okq (⟨"PostTurns", "playsIn", "(II)Z"⟩, 19) := ⟨⟨by decide +kernel, by decide +kernel⟩, List.mem_of_getElem? (i := 24) (by decide +kernel), List.mem_of_getElem? (i := 942) (by decide +kernel), List.mem_of_getElem? (i := 943) (by decide +kernel)⟩
theorem lw_p46 : lw_okq (⟨"PostTurns", "coinsAfter", "(II)I"⟩, 19) := ⟨⟨by decide +kernel, by decide +kernel⟩, List.mem_of_getElem? (i := 24) (by decide +kernel), List.mem_of_getElem? (i := 950) (by decide +kernel), List.mem_of_getElem? (i := 951) (by decide +kernel)⟩
theorem lw_p47 : lw_okq (⟨"PostTurns", "sheetOf", "(I)J"⟩, 19) := ⟨⟨by decide +kernel, by decide +kernel⟩, List.mem_of_getElem? (i := 24) (by decide +kernel), List.mem_of_getElem? (i := 974) (by decide +kernel), List.mem_of_getElem? (i := 975) (by decide +kernel)⟩
def lw_privs_3 : List (MethodName × Nat) := [(⟨"PostTurns", "mayBe", "(IIII)Z"⟩, 19), (⟨"PostTurns", "doTurn", "(II)V"⟩, 19), (⟨"PostTurns", "giveOrders", "(II)V"⟩, 19), (⟨"PostTurns", "tieOf", "(IIII)I"⟩, 19), (⟨"PostTurns$Moves", "measure", "()V"⟩, 14), (⟨"PostTurns$Moves", "goal", "(I)I"⟩, 14), (⟨"PostTurns$Moves", "findFirst", "()V"⟩, 14), (⟨"PostTurns$Moves", "compare", "(II)I"⟩, 14), (⟨"PostTurns$Moves", "failSwaps", "()V"⟩, 14), (⟨"PostTurns$Moves", "goes", "(I)Z"⟩, 14), (⟨"PostTurns$Moves", "failBlocked", "()Z"⟩, 14), (⟨"PostTurns$Moves", "cellAfter", "(I)I"⟩, 14), (⟨"PostTurns", "settle", "(II)V"⟩, 19), (⟨"PostTurns", "playsIn", "(II)Z"⟩, 19), (⟨"PostTurns", "coinsAfter", "(II)I"⟩, 19), (⟨"PostTurns", "sheetOf", "(I)J"⟩, 19)]
theorem lw_r3 : ∀ q ∈ lw_privs_3, lw_okq q := List.forall_mem_cons.mpr ⟨lw_p32, List.forall_mem_cons.mpr ⟨lw_p33, List.forall_mem_cons.mpr ⟨lw_p34, List.forall_mem_cons.mpr ⟨lw_p35, List.forall_mem_cons.mpr ⟨lw_p36, List.forall_mem_cons.mpr ⟨lw_p37, List.forall_mem_cons.mpr ⟨lw_p38, List.forall_mem_cons.mpr ⟨lw_p39, List.forall_mem_cons.mpr ⟨lw_p40, List.forall_mem_cons.mpr ⟨lw_p41, List.forall_mem_cons.mpr ⟨lw_p42, List.forall_mem_cons.mpr ⟨lw_p43, List.forall_mem_cons.mpr ⟨lw_p44, List.forall_mem_cons.mpr ⟨lw_p45, List.forall_mem_cons.mpr ⟨lw_p46, List.forall_mem_cons.mpr ⟨lw_p47, fun _ h => absurd h List.not_mem_nil⟩⟩⟩⟩⟩⟩⟩⟩⟩⟩⟩⟩⟩⟩⟩⟩
theorem lw_p48 : lw_okq (⟨"PostTurns$Ways", "placeOf", "(I)I"⟩, 10) := ⟨⟨by decide +kernel, by decide +kernel⟩, List.mem_of_getElem? (i := 172) (by decide +kernel), List.mem_of_getElem? (i := 996) (by decide +kernel), List.mem_of_getElem? (i := 997) (by decide +kernel)⟩
theorem lw_p49 : lw_okq (⟨"PostTurns", "canJudge", "()Z"⟩, 19) := ⟨⟨by decide +kernel, by decide +kernel⟩, List.mem_of_getElem? (i := 24) (by decide +kernel), List.mem_of_getElem? (i := 1004) (by decide +kernel), List.mem_of_getElem? (i := 1005) (by decide +kernel)⟩
theorem lw_p50 : lw_okq (⟨"PostTurns", "readyWays", "(II)V"⟩, 19) := ⟨⟨by decide +kernel, by decide +kernel⟩, List.mem_of_getElem? (i := 24) (by decide +kernel), List.mem_of_getElem? (i := 1008) (by decide +kernel), List.mem_of_getElem? (i := 1009) (by decide +kernel)⟩
theorem lw_p51 : lw_okq (⟨"PostTurns", "playRow", "(II)I"⟩, 19) := ⟨⟨by decide +kernel, by decide +kernel⟩, List.mem_of_getElem? (i := 24) (by decide +kernel), List.mem_of_getElem? (i := 1020) (by decide +kernel), List.mem_of_getElem? (i := 1021) (by decide +kernel)⟩
theorem lw_p52 : lw_okq (⟨"PostTurns$Acts", "means", "(II)I"⟩, 6) := ⟨⟨by decide +kernel, by decide +kernel⟩, List.mem_of_getElem? (i := 219) (by decide +kernel), List.mem_of_getElem? (i := 1066) (by decide +kernel), List.mem_of_getElem? (i := 1067) (by decide +kernel)⟩
theorem lw_p53 : lw_okq (⟨"PostTurns$Acts", "began", "(I)V"⟩, 6) := ⟨⟨by decide +kernel, by decide +kernel⟩, List.mem_of_getElem? (i := 219) (by decide +kernel), List.mem_of_getElem? (i := 1070) (by decide +kernel), List.mem_of_getElem? (i := 1071) (by decide +kernel)⟩
theorem lw_p54 : lw_okq (⟨"PostTurns$Acts", "clashes", "(II)I"⟩, 6) := ⟨⟨by decide +kernel, by decide +kernel⟩, List.mem_of_getElem? (i := 219) (by decide +kernel), List.mem_of_getElem? (i := 1074) (by decide +kernel), List.mem_of_getElem? (i := 1075) (by decide +kernel)⟩
theorem lw_p55 : lw_okq (⟨"PostTurns$Acts", "hides", "(II)I"⟩, 6) := ⟨⟨by decide +kernel, by decide +kernel⟩, List.mem_of_getElem? (i := 219) (by decide +kernel), List.mem_of_getElem? (i := 1078) (by decide +kernel), List.mem_of_getElem? (i := 1079) (by decide +kernel)⟩
theorem lw_p56 : lw_okq (⟨"PostTurns$Acts", "ends", "(II)I"⟩, 6) := ⟨⟨by decide +kernel, by decide +kernel⟩, List.mem_of_getElem? (i := 219) (by decide +kernel), List.mem_of_getElem? (i := 1082) (by decide +kernel), List.mem_of_getElem? (i := 1083) (by decide +kernel)⟩
theorem lw_p57 : lw_okq (⟨"PostTurns", "isBalanced", "(I)Z"⟩, 19) := ⟨⟨by decide +kernel, by decide +kernel⟩, List.mem_of_getElem? (i := 24) (by decide +kernel), List.mem_of_getElem? (i := 1146) (by decide +kernel), List.mem_of_getElem? (i := 1147) (by decide +kernel)⟩
theorem lw_p58 : lw_okq (⟨"PostTurns", "piecesThere", "()I"⟩, 19) := ⟨⟨by decide +kernel, by decide +kernel⟩, List.mem_of_getElem? (i := 24) (by decide +kernel), List.mem_of_getElem? (i := 1154) (by decide +kernel), List.mem_of_getElem? (i := 1155) (by decide +kernel)⟩
theorem lw_p59 : lw_okq (⟨"PostTurnsModel", "isGame", "(I)Z"⟩, 86) := ⟨⟨by decide +kernel, by decide +kernel⟩, List.mem_of_getElem? (i := 1158) (by decide +kernel), List.mem_of_getElem? (i := 1439) (by decide +kernel), List.mem_of_getElem? (i := 1440) (by decide +kernel)⟩
theorem lw_p60 : lw_okq (⟨"PostTurnsModel", "pieceAt", "(II)I"⟩, 86) := ⟨⟨by decide +kernel, by decide +kernel⟩, List.mem_of_getElem? (i := 1158) (by decide +kernel), List.mem_of_getElem? (i := 1448) (by decide +kernel), List.mem_of_getElem? (i := 1449) (by decide +kernel)⟩
theorem lw_p61 : lw_okq (⟨"PostTurnsModel", "gameOf", "(I)I"⟩, 86) := ⟨⟨by decide +kernel, by decide +kernel⟩, List.mem_of_getElem? (i := 1158) (by decide +kernel), List.mem_of_getElem? (i := 1452) (by decide +kernel), List.mem_of_getElem? (i := 1453) (by decide +kernel)⟩
theorem lw_p62 : lw_okq (⟨"PostTurnsModel", "isHolder", "(I)Z"⟩, 86) := ⟨⟨by decide +kernel, by decide +kernel⟩, List.mem_of_getElem? (i := 1158) (by decide +kernel), List.mem_of_getElem? (i := 1465) (by decide +kernel), List.mem_of_getElem? (i := 1466) (by decide +kernel)⟩
theorem lw_p63 : lw_okq (⟨"PostTurnsModel", "isPiece", "(I)Z"⟩, 86) := ⟨⟨by decide +kernel, by decide +kernel⟩, List.mem_of_getElem? (i := 1158) (by decide +kernel), List.mem_of_getElem? (i := 1482) (by decide +kernel), List.mem_of_getElem? (i := 1483) (by decide +kernel)⟩
def lw_privs_4 : List (MethodName × Nat) := [(⟨"PostTurns$Ways", "placeOf", "(I)I"⟩, 10), (⟨"PostTurns", "canJudge", "()Z"⟩, 19), (⟨"PostTurns", "readyWays", "(II)V"⟩, 19), (⟨"PostTurns", "playRow", "(II)I"⟩, 19), (⟨"PostTurns$Acts", "means", "(II)I"⟩, 6), (⟨"PostTurns$Acts", "began", "(I)V"⟩, 6), (⟨"PostTurns$Acts", "clashes", "(II)I"⟩, 6), (⟨"PostTurns$Acts", "hides", "(II)I"⟩, 6), (⟨"PostTurns$Acts", "ends", "(II)I"⟩, 6), (⟨"PostTurns", "isBalanced", "(I)Z"⟩, 19), (⟨"PostTurns", "piecesThere", "()I"⟩, 19), (⟨"PostTurnsModel", "isGame", "(I)Z"⟩, 86), (⟨"PostTurnsModel", "pieceAt", "(II)I"⟩, 86), (⟨"PostTurnsModel", "gameOf", "(I)I"⟩, 86), (⟨"PostTurnsModel", "isHolder", "(I)Z"⟩, 86), (⟨"PostTurnsModel", "isPiece", "(I)Z"⟩, 86)]
theorem lw_r4 : ∀ q ∈ lw_privs_4, lw_okq q := List.forall_mem_cons.mpr ⟨lw_p48, List.forall_mem_cons.mpr ⟨lw_p49, List.forall_mem_cons.mpr ⟨lw_p50, List.forall_mem_cons.mpr ⟨lw_p51, List.forall_mem_cons.mpr ⟨lw_p52, List.forall_mem_cons.mpr ⟨lw_p53, List.forall_mem_cons.mpr ⟨lw_p54, List.forall_mem_cons.mpr ⟨lw_p55, List.forall_mem_cons.mpr ⟨lw_p56, List.forall_mem_cons.mpr ⟨lw_p57, List.forall_mem_cons.mpr ⟨lw_p58, List.forall_mem_cons.mpr ⟨lw_p59, List.forall_mem_cons.mpr ⟨lw_p60, List.forall_mem_cons.mpr ⟨lw_p61, List.forall_mem_cons.mpr ⟨lw_p62, List.forall_mem_cons.mpr ⟨lw_p63, fun _ h => absurd h List.not_mem_nil⟩⟩⟩⟩⟩⟩⟩⟩⟩⟩⟩⟩⟩⟩⟩⟩
theorem lw_p64 : lw_okq (⟨"PostTurnsModel", "standing", "(I)I"⟩, 86) := ⟨⟨by decide +kernel, by decide +kernel⟩, List.mem_of_getElem? (i := 1158) (by decide +kernel), List.mem_of_getElem? (i := 1490) (by decide +kernel), List.mem_of_getElem? (i := 1491) (by decide +kernel)⟩
theorem lw_p65 : lw_okq (⟨"PostTurnsModel", "owed", "(I)I"⟩, 86) := ⟨⟨by decide +kernel, by decide +kernel⟩, List.mem_of_getElem? (i := 1158) (by decide +kernel), List.mem_of_getElem? (i := 1494) (by decide +kernel), List.mem_of_getElem? (i := 1495) (by decide +kernel)⟩
theorem lw_p66 : lw_okq (⟨"PostTurnsModel", "dueOn", "(II)I"⟩, 86) := ⟨⟨by decide +kernel, by decide +kernel⟩, List.mem_of_getElem? (i := 1158) (by decide +kernel), List.mem_of_getElem? (i := 1502) (by decide +kernel), List.mem_of_getElem? (i := 1503) (by decide +kernel)⟩
theorem lw_p67 : lw_okq (⟨"PostTurnsModel", "isWhat", "(I)Z"⟩, 86) := ⟨⟨by decide +kernel, by decide +kernel⟩, List.mem_of_getElem? (i := 1158) (by decide +kernel), List.mem_of_getElem? (i := 1515) (by decide +kernel), List.mem_of_getElem? (i := 1516) (by decide +kernel)⟩
theorem lw_p68 : lw_okq (⟨"PostTurnsModel", "workOut", "(II)I"⟩, 86) := ⟨⟨by decide +kernel, by decide +kernel⟩, List.mem_of_getElem? (i := 1158) (by decide +kernel), List.mem_of_getElem? (i := 1523) (by decide +kernel), List.mem_of_getElem? (i := 1524) (by decide +kernel)⟩
theorem lw_p69 : lw_okq (⟨"PostTurnsModel", "either", "()I"⟩, 86) := ⟨⟨by decide +kernel, by decide +kernel⟩, List.mem_of_getElem? (i := 1158) (by decide +kernel), List.mem_of_getElem? (i := 1527) (by decide +kernel), List.mem_of_getElem? (i := 1528) (by decide +kernel)⟩
theorem lw_p70 : lw_okq (⟨"PostTurnsModel", "both", "()I"⟩, 86) := ⟨⟨by decide +kernel, by decide +kernel⟩, List.mem_of_getElem? (i := 1158) (by decide +kernel), List.mem_of_getElem? (i := 1531) (by decide +kernel), List.mem_of_getElem? (i := 1532) (by decide +kernel)⟩
theorem lw_p71 : lw_okq (⟨"PostTurnsModel", "compared", "()I"⟩, 86) := ⟨⟨by decide +kernel, by decide +kernel⟩, List.mem_of_getElem? (i := 1158) (by decide +kernel), List.mem_of_getElem? (i := 1535) (by decide +kernel), List.mem_of_getElem? (i := 1536) (by decide +kernel)⟩
theorem lw_p72 : lw_okq (⟨"PostTurnsModel", "sums", "()I"⟩, 86) := ⟨⟨by decide +kernel, by decide +kernel⟩, List.mem_of_getElem? (i := 1158) (by decide +kernel), List.mem_of_getElem? (i := 1539) (by decide +kernel), List.mem_of_getElem? (i := 1540) (by decide +kernel)⟩
theorem lw_p73 : lw_okq (⟨"PostTurnsModel", "product", "()I"⟩, 86) := ⟨⟨by decide +kernel, by decide +kernel⟩, List.mem_of_getElem? (i := 1158) (by decide +kernel), List.mem_of_getElem? (i := 1543) (by decide +kernel), List.mem_of_getElem? (i := 1544) (by decide +kernel)⟩
theorem lw_p74 : lw_okq (⟨"PostTurnsModel", "one", "()I"⟩, 86) := ⟨⟨by decide +kernel, by decide +kernel⟩, List.mem_of_getElem? (i := 1158) (by decide +kernel), List.mem_of_getElem? (i := 1547) (by decide +kernel), List.mem_of_getElem? (i := 1548) (by decide +kernel)⟩
theorem lw_p75 : lw_okq (⟨"PostTurnsModel", "byteAt", "()I"⟩, 86) := ⟨⟨by decide +kernel, by decide +kernel⟩, List.mem_of_getElem? (i := 1158) (by decide +kernel), List.mem_of_getElem? (i := 1551) (by decide +kernel), List.mem_of_getElem? (i := 1552) (by decide +kernel)⟩
theorem lw_p76 : lw_okq (⟨"PostTurnsModel", "wrong", "()I"⟩, 86) := ⟨⟨by decide +kernel, by decide +kernel⟩, List.mem_of_getElem? (i := 1158) (by decide +kernel), List.mem_of_getElem? (i := 1555) (by decide +kernel), List.mem_of_getElem? (i := 1556) (by decide +kernel)⟩
theorem lw_p77 : lw_okq (⟨"PostTurnsModel", "takes", "(I)Z"⟩, 86) := ⟨⟨by decide +kernel, by decide +kernel⟩, List.mem_of_getElem? (i := 1158) (by decide +kernel), List.mem_of_getElem? (i := 1559) (by decide +kernel), List.mem_of_getElem? (i := 1560) (by decide +kernel)⟩
theorem lw_p78 : lw_okq (⟨"PostTurnsModel", "ruleFor", "(III)I"⟩, 86) := ⟨⟨by decide +kernel, by decide +kernel⟩, List.mem_of_getElem? (i := 1158) (by decide +kernel), List.mem_of_getElem? (i := 1571) (by decide +kernel), List.mem_of_getElem? (i := 1572) (by decide +kernel)⟩
theorem lw_p79 : lw_okq (⟨"PostTurnsModel", "sightOf", "(II)I"⟩, 86) := ⟨⟨by decide +kernel, by decide +kernel⟩, List.mem_of_getElem? (i := 1158) (by decide +kernel), List.mem_of_getElem? (i := 1579) (by decide +kernel), List.mem_of_getElem? (i := 1580) (by decide +kernel)⟩
def lw_privs_5 : List (MethodName × Nat) := [(⟨"PostTurnsModel", "standing", "(I)I"⟩, 86), (⟨"PostTurnsModel", "owed", "(I)I"⟩, 86), (⟨"PostTurnsModel", "dueOn", "(II)I"⟩, 86), (⟨"PostTurnsModel", "isWhat", "(I)Z"⟩, 86), (⟨"PostTurnsModel", "workOut", "(II)I"⟩, 86), (⟨"PostTurnsModel", "either", "()I"⟩, 86), (⟨"PostTurnsModel", "both", "()I"⟩, 86), (⟨"PostTurnsModel", "compared", "()I"⟩, 86), (⟨"PostTurnsModel", "sums", "()I"⟩, 86), (⟨"PostTurnsModel", "product", "()I"⟩, 86), (⟨"PostTurnsModel", "one", "()I"⟩, 86), (⟨"PostTurnsModel", "byteAt", "()I"⟩, 86), (⟨"PostTurnsModel", "wrong", "()I"⟩, 86), (⟨"PostTurnsModel", "takes", "(I)Z"⟩, 86), (⟨"PostTurnsModel", "ruleFor", "(III)I"⟩, 86), (⟨"PostTurnsModel", "sightOf", "(II)I"⟩, 86)]
theorem lw_r5 : ∀ q ∈ lw_privs_5, lw_okq q := List.forall_mem_cons.mpr ⟨lw_p64, List.forall_mem_cons.mpr ⟨lw_p65, List.forall_mem_cons.mpr ⟨lw_p66, List.forall_mem_cons.mpr ⟨lw_p67, List.forall_mem_cons.mpr ⟨lw_p68, List.forall_mem_cons.mpr ⟨lw_p69, List.forall_mem_cons.mpr ⟨lw_p70, List.forall_mem_cons.mpr ⟨lw_p71, List.forall_mem_cons.mpr ⟨lw_p72, List.forall_mem_cons.mpr ⟨lw_p73, List.forall_mem_cons.mpr ⟨lw_p74, List.forall_mem_cons.mpr ⟨lw_p75, List.forall_mem_cons.mpr ⟨lw_p76, List.forall_mem_cons.mpr ⟨lw_p77, List.forall_mem_cons.mpr ⟨lw_p78, List.forall_mem_cons.mpr ⟨lw_p79, fun _ h => absurd h List.not_mem_nil⟩⟩⟩⟩⟩⟩⟩⟩⟩⟩⟩⟩⟩⟩⟩⟩
theorem lw_p80 : lw_okq (⟨"PostTurnsModel", "nameOrder", "(IIII)V"⟩, 86) := ⟨⟨by decide +kernel, by decide +kernel⟩, List.mem_of_getElem? (i := 1158) (by decide +kernel), List.mem_of_getElem? (i := 1583) (by decide +kernel), List.mem_of_getElem? (i := 1584) (by decide +kernel)⟩
theorem lw_p81 : lw_okq (⟨"PostTurnsModel", "noNames", "(I)V"⟩, 86) := ⟨⟨by decide +kernel, by decide +kernel⟩, List.mem_of_getElem? (i := 1158) (by decide +kernel), List.mem_of_getElem? (i := 1587) (by decide +kernel), List.mem_of_getElem? (i := 1588) (by decide +kernel)⟩
theorem lw_p82 : lw_okq (⟨"PostTurnsModel", "gives", "(IIIII)I"⟩, 86) := ⟨⟨by decide +kernel, by decide +kernel⟩, List.mem_of_getElem? (i := 1158) (by decide +kernel), List.mem_of_getElem? (i := 1591) (by decide +kernel), List.mem_of_getElem? (i := 1592) (by decide +kernel)⟩
theorem lw_p83 : lw_okq (⟨"PostTurnsModel", "feeOf", "(III)I"⟩, 86) := ⟨⟨by decide +kernel, by decide +kernel⟩, List.mem_of_getElem? (i := 1158) (by decide +kernel), List.mem_of_getElem? (i := 1598) (by decide +kernel), List.mem_of_getElem? (i := 1599) (by decide +kernel)⟩
theorem lw_p84 : lw_okq (⟨"PostTurnsModel", "drawnFor", "(II)I"⟩, 86) := ⟨⟨by decide +kernel, by decide +kernel⟩, List.mem_of_getElem? (i := 1158) (by decide +kernel), List.mem_of_getElem? (i := 1606) (by decide +kernel), List.mem_of_getElem? (i := 1607) (by decide +kernel)⟩
theorem lw_p85 : lw_okq (⟨"PostTurnsModel", "isCard", "(I)Z"⟩, 86) := ⟨⟨by decide +kernel, by decide +kernel⟩, List.mem_of_getElem? (i := 1158) (by decide +kernel), List.mem_of_getElem? (i := 1620) (by decide +kernel), List.mem_of_getElem? (i := 1621) (by decide +kernel)⟩
theorem lw_p86 : lw_okq (⟨"PostTurnsModel", "isLate", "(I)Z"⟩, 86) := ⟨⟨by decide +kernel, by decide +kernel⟩, List.mem_of_getElem? (i := 1158) (by decide +kernel), List.mem_of_getElem? (i := 1624) (by decide +kernel), List.mem_of_getElem? (i := 1625) (by decide +kernel)⟩
theorem lw_p87 : lw_okq (⟨"PostTurnsModel", "counts", "(I)Z"⟩, 86) := ⟨⟨by decide +kernel, by decide +kernel⟩, List.mem_of_getElem? (i := 1158) (by decide +kernel), List.mem_of_getElem? (i := 1628) (by decide +kernel), List.mem_of_getElem? (i := 1629) (by decide +kernel)⟩
theorem lw_p88 : lw_okq (⟨"PostTurnsModel", "isSaid", "(IIII)Z"⟩, 86) := ⟨⟨by decide +kernel, by decide +kernel⟩, List.mem_of_getElem? (i := 1158) (by decide +kernel), List.mem_of_getElem? (i := 1636) (by decide +kernel), List.mem_of_getElem? (i := 1637) (by decide +kernel)⟩
theorem lw_p89 : lw_okq (⟨"PostTurnsModel", "add", "(IIIII)I"⟩, 86) := ⟨⟨by decide +kernel, by decide +kernel⟩, List.mem_of_getElem? (i := 1158) (by decide +kernel), List.mem_of_getElem? (i := 1641) (by decide +kernel), List.mem_of_getElem? (i := 1642) (by decide +kernel)⟩
theorem lw_p90 : lw_okq (⟨"PostTurnsModel", "isOrder", "(I)Z"⟩, 86) := ⟨⟨by decide +kernel, by decide +kernel⟩, List.mem_of_getElem? (i := 1158) (by decide +kernel), List.mem_of_getElem? (i := 1654) (by decide +kernel), List.mem_of_getElem? (i := 1655) (by decide +kernel)⟩
theorem lw_p91 : lw_okq (⟨"PostTurnsModel", "canBe", "(III)Z"⟩, 86) := ⟨⟨by decide +kernel, by decide +kernel⟩, List.mem_of_getElem? (i := 1158) (by decide +kernel), List.mem_of_getElem? (i := 1667) (by decide +kernel), List.mem_of_getElem? (i := 1668) (by decide +kernel)⟩
theorem lw_p92 : lw_okq (⟨"PostTurnsModel", "isBeside", "(II)Z"⟩, 86) := ⟨⟨by decide +kernel, by decide +kernel⟩, List.mem_of_getElem? (i := 1158) (by decide +kernel), List.mem_of_getElem? (i := 1671) (by decide +kernel), List.mem_of_getElem? (i := 1672) (by decide +kernel)⟩
theorem lw_p93 : lw_okq (⟨"PostTurnsModel", "orderFor", "(III)I"⟩, 86) := ⟨⟨by decide +kernel, by decide +kernel⟩, List.mem_of_getElem? (i := 1158) (by decide +kernel), List.mem_of_getElem? (i := 1685) (by decide +kernel), List.mem_of_getElem? (i := 1686) (by decide +kernel)⟩
theorem lw_p94 : lw_okq (⟨"PostTurnsModel", "isOrderly", "(III)Z"⟩, 86) := ⟨⟨by decide +kernel, by decide +kernel⟩, List.mem_of_getElem? (i := 1158) (by decide +kernel), List.mem_of_getElem? (i := 1689) (by decide +kernel), List.mem_of_getElem? (i := 1690) (by decide +kernel)⟩
theorem lw_p95 : lw_okq (⟨"PostTurnsModel", "isFor", "(II)Z"⟩, 86) := ⟨⟨by decide +kernel, by decide +kernel⟩, List.mem_of_getElem? (i := 1158) (by decide +kernel), List.mem_of_getElem? (i := 1693) (by decide +kernel), List.mem_of_getElem? (i := 1694) (by decide +kernel)⟩
def lw_privs_6 : List (MethodName × Nat) := [(⟨"PostTurnsModel", "nameOrder", "(IIII)V"⟩, 86), (⟨"PostTurnsModel", "noNames", "(I)V"⟩, 86), (⟨"PostTurnsModel", "gives", "(IIIII)I"⟩, 86), (⟨"PostTurnsModel", "feeOf", "(III)I"⟩, 86), (⟨"PostTurnsModel", "drawnFor", "(II)I"⟩, 86), (⟨"PostTurnsModel", "isCard", "(I)Z"⟩, 86), (⟨"PostTurnsModel", "isLate", "(I)Z"⟩, 86), (⟨"PostTurnsModel", "counts", "(I)Z"⟩, 86), (⟨"PostTurnsModel", "isSaid", "(IIII)Z"⟩, 86), (⟨"PostTurnsModel", "add", "(IIIII)I"⟩, 86), (⟨"PostTurnsModel", "isOrder", "(I)Z"⟩, 86), (⟨"PostTurnsModel", "canBe", "(III)Z"⟩, 86), (⟨"PostTurnsModel", "isBeside", "(II)Z"⟩, 86), (⟨"PostTurnsModel", "orderFor", "(III)I"⟩, 86), (⟨"PostTurnsModel", "isOrderly", "(III)Z"⟩, 86), (⟨"PostTurnsModel", "isFor", "(II)Z"⟩, 86)]
theorem lw_r6 : ∀ q ∈ lw_privs_6, lw_okq q := List.forall_mem_cons.mpr ⟨lw_p80, List.forall_mem_cons.mpr ⟨lw_p81, List.forall_mem_cons.mpr ⟨lw_p82, List.forall_mem_cons.mpr ⟨lw_p83, List.forall_mem_cons.mpr ⟨lw_p84, List.forall_mem_cons.mpr ⟨lw_p85, List.forall_mem_cons.mpr ⟨lw_p86, List.forall_mem_cons.mpr ⟨lw_p87, List.forall_mem_cons.mpr ⟨lw_p88, List.forall_mem_cons.mpr ⟨lw_p89, List.forall_mem_cons.mpr ⟨lw_p90, List.forall_mem_cons.mpr ⟨lw_p91, List.forall_mem_cons.mpr ⟨lw_p92, List.forall_mem_cons.mpr ⟨lw_p93, List.forall_mem_cons.mpr ⟨lw_p94, List.forall_mem_cons.mpr ⟨lw_p95, fun _ h => absurd h List.not_mem_nil⟩⟩⟩⟩⟩⟩⟩⟩⟩⟩⟩⟩⟩⟩⟩⟩
theorem lw_p96 : lw_okq (⟨"PostTurnsModel", "mayBe", "(IIIII)Z"⟩, 86) := ⟨⟨by decide +kernel, by decide +kernel⟩, List.mem_of_getElem? (i := 1158) (by decide +kernel), List.mem_of_getElem? (i := 1697) (by decide +kernel), List.mem_of_getElem? (i := 1698) (by decide +kernel)⟩
theorem lw_p97 : lw_okq (⟨"PostTurnsModel", "doTurn", "(II)V"⟩, 86) := ⟨⟨by decide +kernel, by decide +kernel⟩, List.mem_of_getElem? (i := 1158) (by decide +kernel), List.mem_of_getElem? (i := 1705) (by decide +kernel), List.mem_of_getElem? (i := 1706) (by decide +kernel)⟩
theorem lw_p98 : lw_okq (⟨"PostTurnsModel", "goThrough", "(III)V"⟩, 86) := ⟨⟨by decide +kernel, by decide +kernel⟩, List.mem_of_getElem? (i := 1158) (by decide +kernel), List.mem_of_getElem? (i := 1709) (by decide +kernel), List.mem_of_getElem? (i := 1710) (by decide +kernel)⟩
theorem lw_p99 : lw_okq (⟨"PostTurnsModel", "findOrders", "(III)V"⟩, 86) := ⟨⟨by decide +kernel, by decide +kernel⟩, List.mem_of_getElem? (i := 1158) (by decide +kernel), List.mem_of_getElem? (i := 1713) (by decide +kernel), List.mem_of_getElem? (i := 1714) (by decide +kernel)⟩
theorem lw_p100 : lw_okq (⟨"PostTurnsModel", "isIn", "(II)Z"⟩, 86) := ⟨⟨by decide +kernel, by decide +kernel⟩, List.mem_of_getElem? (i := 1158) (by decide +kernel), List.mem_of_getElem? (i := 1717) (by decide +kernel), List.mem_of_getElem? (i := 1718) (by decide +kernel)⟩
theorem lw_p101 : lw_okq (⟨"PostTurnsModel", "findStrengths", "(III)V"⟩, 86) := ⟨⟨by decide +kernel, by decide +kernel⟩, List.mem_of_getElem? (i := 1158) (by decide +kernel), List.mem_of_getElem? (i := 1721) (by decide +kernel), List.mem_of_getElem? (i := 1722) (by decide +kernel)⟩
theorem lw_p102 : lw_okq (⟨"PostTurnsModel", "isCut", "(II)Z"⟩, 86) := ⟨⟨by decide +kernel, by decide +kernel⟩, List.mem_of_getElem? (i := 1158) (by decide +kernel), List.mem_of_getElem? (i := 1725) (by decide +kernel), List.mem_of_getElem? (i := 1726) (by decide +kernel)⟩
theorem lw_p103 : lw_okq (⟨"PostTurnsModel", "findFailed", "(I)V"⟩, 86) := ⟨⟨by decide +kernel, by decide +kernel⟩, List.mem_of_getElem? (i := 1158) (by decide +kernel), List.mem_of_getElem? (i := 1729) (by decide +kernel), List.mem_of_getElem? (i := 1730) (by decide +kernel)⟩
theorem lw_p104 : lw_okq (⟨"PostTurnsModel", "moves", "(II)Z"⟩, 86) := ⟨⟨by decide +kernel, by decide +kernel⟩, List.mem_of_getElem? (i := 1158) (by decide +kernel), List.mem_of_getElem? (i := 1733) (by decide +kernel), List.mem_of_getElem? (i := 1734) (by decide +kernel)⟩
theorem lw_p105 : lw_okq (⟨"PostTurnsModel", "lastCell", "(II)I"⟩, 86) := ⟨⟨by decide +kernel, by decide +kernel⟩, List.mem_of_getElem? (i := 1158) (by decide +kernel), List.mem_of_getElem? (i := 1741) (by decide +kernel), List.mem_of_getElem? (i := 1742) (by decide +kernel)⟩
theorem lw_p106 : lw_okq (⟨"PostTurnsModel", "seesIn", "(II)Z"⟩, 86) := ⟨⟨by decide +kernel, by decide +kernel⟩, List.mem_of_getElem? (i := 1158) (by decide +kernel), List.mem_of_getElem? (i := 1753) (by decide +kernel), List.mem_of_getElem? (i := 1754) (by decide +kernel)⟩
theorem lw_p107 : lw_okq (⟨"PostTurnsModel", "noRow", "()Z"⟩, 86) := ⟨⟨by decide +kernel, by decide +kernel⟩, List.mem_of_getElem? (i := 1158) (by decide +kernel), List.mem_of_getElem? (i := 1769) (by decide +kernel), List.mem_of_getElem? (i := 1770) (by decide +kernel)⟩
theorem lw_p108 : lw_okq (⟨"PostTurnsModel", "isRow", "(I)Z"⟩, 86) := ⟨⟨by decide +kernel, by decide +kernel⟩, List.mem_of_getElem? (i := 1158) (by decide +kernel), List.mem_of_getElem? (i := 1773) (by decide +kernel), List.mem_of_getElem? (i := 1774) (by decide +kernel)⟩
theorem lw_p109 : lw_okq (⟨"PostTurnsModel", "coinsBy", "(I)I"⟩, 86) := ⟨⟨by decide +kernel, by decide +kernel⟩, List.mem_of_getElem? (i := 1158) (by decide +kernel), List.mem_of_getElem? (i := 1777) (by decide +kernel), List.mem_of_getElem? (i := 1778) (by decide +kernel)⟩
theorem lw_p110 : lw_okq (⟨"PostTurnsModel", "means", "(II)I"⟩, 86) := ⟨⟨by decide +kernel, by decide +kernel⟩, List.mem_of_getElem? (i := 1158) (by decide +kernel), List.mem_of_getElem? (i := 1803) (by decide +kernel), List.mem_of_getElem? (i := 1804) (by decide +kernel)⟩
theorem lw_p111 : lw_okq (⟨"PostTurnsModel", "ranBody", "(I)V"⟩, 86) := ⟨⟨by decide +kernel, by decide +kernel⟩, List.mem_of_getElem? (i := 1158) (by decide +kernel), List.mem_of_getElem? (i := 1807) (by decide +kernel), List.mem_of_getElem? (i := 1808) (by decide +kernel)⟩
def lw_privs_7 : List (MethodName × Nat) := [(⟨"PostTurnsModel", "mayBe", "(IIIII)Z"⟩, 86), (⟨"PostTurnsModel", "doTurn", "(II)V"⟩, 86), (⟨"PostTurnsModel", "goThrough", "(III)V"⟩, 86), (⟨"PostTurnsModel", "findOrders", "(III)V"⟩, 86), (⟨"PostTurnsModel", "isIn", "(II)Z"⟩, 86), (⟨"PostTurnsModel", "findStrengths", "(III)V"⟩, 86), (⟨"PostTurnsModel", "isCut", "(II)Z"⟩, 86), (⟨"PostTurnsModel", "findFailed", "(I)V"⟩, 86), (⟨"PostTurnsModel", "moves", "(II)Z"⟩, 86), (⟨"PostTurnsModel", "lastCell", "(II)I"⟩, 86), (⟨"PostTurnsModel", "seesIn", "(II)Z"⟩, 86), (⟨"PostTurnsModel", "noRow", "()Z"⟩, 86), (⟨"PostTurnsModel", "isRow", "(I)Z"⟩, 86), (⟨"PostTurnsModel", "coinsBy", "(I)I"⟩, 86), (⟨"PostTurnsModel", "means", "(II)I"⟩, 86), (⟨"PostTurnsModel", "ranBody", "(I)V"⟩, 86)]
theorem lw_r7 : ∀ q ∈ lw_privs_7, lw_okq q := List.forall_mem_cons.mpr ⟨lw_p96, List.forall_mem_cons.mpr ⟨lw_p97, List.forall_mem_cons.mpr ⟨lw_p98, List.forall_mem_cons.mpr ⟨lw_p99, List.forall_mem_cons.mpr ⟨lw_p100, List.forall_mem_cons.mpr ⟨lw_p101, List.forall_mem_cons.mpr ⟨lw_p102, List.forall_mem_cons.mpr ⟨lw_p103, List.forall_mem_cons.mpr ⟨lw_p104, List.forall_mem_cons.mpr ⟨lw_p105, List.forall_mem_cons.mpr ⟨lw_p106, List.forall_mem_cons.mpr ⟨lw_p107, List.forall_mem_cons.mpr ⟨lw_p108, List.forall_mem_cons.mpr ⟨lw_p109, List.forall_mem_cons.mpr ⟨lw_p110, List.forall_mem_cons.mpr ⟨lw_p111, fun _ h => absurd h List.not_mem_nil⟩⟩⟩⟩⟩⟩⟩⟩⟩⟩⟩⟩⟩⟩⟩⟩
theorem lw_p112 : lw_okq (⟨"PostTurnsModel", "clashes", "(II)I"⟩, 86) := ⟨⟨by decide +kernel, by decide +kernel⟩, List.mem_of_getElem? (i := 1158) (by decide +kernel), List.mem_of_getElem? (i := 1814) (by decide +kernel), List.mem_of_getElem? (i := 1815) (by decide +kernel)⟩
theorem lw_p113 : lw_okq (⟨"PostTurnsModel", "hides", "(II)I"⟩, 86) := ⟨⟨by decide +kernel, by decide +kernel⟩, List.mem_of_getElem? (i := 1158) (by decide +kernel), List.mem_of_getElem? (i := 1818) (by decide +kernel), List.mem_of_getElem? (i := 1819) (by decide +kernel)⟩
theorem lw_p114 : lw_okq (⟨"PostTurnsModel", "endsOf", "(II)I"⟩, 86) := ⟨⟨by decide +kernel, by decide +kernel⟩, List.mem_of_getElem? (i := 1158) (by decide +kernel), List.mem_of_getElem? (i := 1822) (by decide +kernel), List.mem_of_getElem? (i := 1823) (by decide +kernel)⟩
theorem lw_p115 : lw_okq (⟨"PostTurnsModel", "refusal", "(II)I"⟩, 86) := ⟨⟨by decide +kernel, by decide +kernel⟩, List.mem_of_getElem? (i := 1158) (by decide +kernel), List.mem_of_getElem? (i := 1842) (by decide +kernel), List.mem_of_getElem? (i := 1843) (by decide +kernel)⟩
def lw_privs_8 : List (MethodName × Nat) := [(⟨"PostTurnsModel", "clashes", "(II)I"⟩, 86), (⟨"PostTurnsModel", "hides", "(II)I"⟩, 86), (⟨"PostTurnsModel", "endsOf", "(II)I"⟩, 86), (⟨"PostTurnsModel", "refusal", "(II)I"⟩, 86)]
theorem lw_r8 : ∀ q ∈ lw_privs_8, lw_okq q := List.forall_mem_cons.mpr ⟨lw_p112, List.forall_mem_cons.mpr ⟨lw_p113, List.forall_mem_cons.mpr ⟨lw_p114, List.forall_mem_cons.mpr ⟨lw_p115, fun _ h => absurd h List.not_mem_nil⟩⟩⟩⟩
def lw_privs : List (MethodName × Nat) := lw_privs_1 ++ (lw_privs_2 ++ (lw_privs_3 ++ (lw_privs_4 ++ (lw_privs_5 ++ (lw_privs_6 ++ (lw_privs_7 ++ (lw_privs_8)))))))
def lw_tbl : List Cond := k2_sels lw_privs ++ tables_1
theorem lw_privs_ok : ∀ q ∈ lw_privs, lw_okq q := by
  show ∀ q ∈ lw_privs_1 ++ (lw_privs_2 ++ (lw_privs_3 ++ (lw_privs_4 ++ (lw_privs_5 ++ (lw_privs_6 ++ (lw_privs_7 ++ (lw_privs_8))))))), lw_okq q
  exact List.forall_mem_append.mpr ⟨lw_r1, List.forall_mem_append.mpr ⟨lw_r2, List.forall_mem_append.mpr ⟨lw_r3, List.forall_mem_append.mpr ⟨lw_r4, List.forall_mem_append.mpr ⟨lw_r5, List.forall_mem_append.mpr ⟨lw_r6, List.forall_mem_append.mpr ⟨lw_r7, lw_r8⟩⟩⟩⟩⟩⟩⟩

theorem goodIn_r {big : List Cond} (ws : List Cond) (ps : List Nat) (hp : ws = ps.filterMap (fun i => big[i]?)) (h : ws.all goodWord = true) : GoodIn big ws := by
  intro w hw
  have h1 := List.all_eq_true.mp h w hw
  rw [hp] at hw
  obtain ⟨i, -, hi⟩ := List.mem_filterMap.mp hw
  have hm : w ∈ big := by first | exact List.mem_of_getElem? hi | exact List.getElem?_mem hi
  exact ⟨hm, good_of_word h1⟩
theorem goodIn_app {big a b : List Cond} (ha : GoodIn big a) (hb : GoodIn big b) : GoodIn big (a ++ b) := fun w h => (List.mem_append.mp h).elim (ha w) (hb w)
theorem goodIn_ca {big a b : List Cond} {c : Cond} (ha : GoodIn big (c :: a)) (hb : GoodIn big b) : GoodIn big (c :: (a ++ b)) := fun w h => (List.mem_cons.mp h).elim (fun e => ha w (List.mem_cons.mpr (Or.inl e))) (fun h => (List.mem_append.mp h).elim (fun h => ha w (List.mem_cons.mpr (Or.inr h))) (hb w))
theorem goodIn_sub {big ws : List Cond} (hm : ∀ w ∈ ws, w ∈ big) (h : ws.all goodWord = true) : GoodIn big ws := fun w hw => ⟨hm w hw, good_of_word (List.all_eq_true.mp h w hw)⟩
def RX0 : String := "PostTurns$Acts"
def TX0 : u_T := fun k => match k with
  | 0 => ("PostTurns$Acts", "body", "[I", true)
  | 1 => ("PostTurns$Acts", "ran", "I", false)
  | 2 => ("PostTurns$Acts", "number", "I", false)
  | 3 => ("PostTurns$Acts", "piece", "I", false)
  | 4 => ("PostTurns$Acts", "what", "I", false)
  | _ => ("PostTurns$Acts", "own", "I", false)
def tyX0 : Nat → FieldType := fun k => match k with
  | 0 => .array .int
  | 1 => .int
  | 2 => .int
  | 3 => .int
  | 4 => .int
  | _ => .int
abbrev wsX00 : List Cond := u_ws RX0 TX0 6
theorem nmX0 : ∀ a, a < 6 → ∀ b, b < 6 → a ≠ b → (TX0 a).2.1 ≠ (TX0 b).2.1 := by decide +kernel
theorem tyX0_ok : ∀ k, k < 6 → parseFieldDescriptor (TX0 k).2.2.1 = some (tyX0 k) := by decide +kernel
abbrev cX0_init : ByteArray := prog_2_method_1_code
def yX0_init : MethodName := ⟨RX0, "<init>", "()V"⟩
abbrev cX0_begin : ByteArray := prog_2_method_2_code
def yX0_begin : MethodName := ⟨RX0, "begin", "()V"⟩
abbrev cX0_of : ByteArray := prog_2_method_3_code
def yX0_of : MethodName := ⟨RX0, "of", "(ILPostTurns$Order;)V"⟩
abbrev cX0_began : ByteArray := prog_2_method_4_code
def yX0_began : MethodName := ⟨RX0, "began", "(I)V"⟩
abbrev cX0_run : ByteArray := prog_2_method_5_code
def yX0_run : MethodName := ⟨RX0, "run", "(III)I"⟩
abbrev cX0_means : ByteArray := prog_2_method_6_code
def yX0_means : MethodName := ⟨RX0, "means", "(II)I"⟩
abbrev cX0_clashes : ByteArray := prog_2_method_7_code
def yX0_clashes : MethodName := ⟨RX0, "clashes", "(II)I"⟩
abbrev cX0_hides : ByteArray := prog_2_method_8_code
def yX0_hides : MethodName := ⟨RX0, "hides", "(II)I"⟩
abbrev cX0_ends : ByteArray := prog_2_method_9_code
def yX0_ends : MethodName := ⟨RX0, "ends", "(II)I"⟩
def RX1 : String := "PostTurns$Card"
def TX1 : u_T := fun k => match k with
  | 0 => ("PostTurns$Card", "holder", "I", false)
  | 1 => ("PostTurns$Card", "of", "I", false)
  | 2 => ("PostTurns$Card", "sent", "I", false)
  | 3 => ("PostTurns$Card", "in", "I", false)
  | 4 => ("PostTurns$Card", "sentTurn", "I", false)
  | _ => ("PostTurns$Card", "turn", "I", false)
def tyX1 : Nat → FieldType := fun k => match k with
  | 0 => .int
  | 1 => .int
  | 2 => .int
  | 3 => .int
  | 4 => .int
  | _ => .int
abbrev wsX10 : List Cond := u_ws RX1 TX1 6
theorem nmX1 : ∀ a, a < 6 → ∀ b, b < 6 → a ≠ b → (TX1 a).2.1 ≠ (TX1 b).2.1 := by decide +kernel
theorem tyX1_ok : ∀ k, k < 6 → parseFieldDescriptor (TX1 k).2.2.1 = some (tyX1 k) := by decide +kernel
abbrev cX1_init : ByteArray := prog_3_method_1_code
def yX1_init : MethodName := ⟨RX1, "<init>", "()V"⟩
abbrev cX1_late : ByteArray := prog_3_method_2_code
def yX1_late : MethodName := ⟨RX1, "late", "()Z"⟩
def RX2 : String := "PostTurns$Game"
def TX2 : u_T := fun k => match k with
  | 0 => ("PostTurns$Game", "seed", "I", false)
  | 1 => ("PostTurns$Game", "began", "I", false)
  | 2 => ("PostTurns$Game", "turn", "I", false)
  | 3 => ("PostTurns$Game", "runner", "I", false)
  | 4 => ("PostTurns$Game", "times", "I", false)
  | 5 => ("PostTurns$Game", "value", "[I", true)
  | _ => ("PostTurns$Game", "wall", "[Z", true)
def tyX2 : Nat → FieldType := fun k => match k with
  | 0 => .int
  | 1 => .int
  | 2 => .int
  | 3 => .int
  | 4 => .int
  | 5 => .array .int
  | _ => .array .boolean
abbrev wsX20 : List Cond := u_ws RX2 TX2 7
theorem nmX2 : ∀ a, a < 7 → ∀ b, b < 7 → a ≠ b → (TX2 a).2.1 ≠ (TX2 b).2.1 := by decide +kernel
theorem tyX2_ok : ∀ k, k < 7 → parseFieldDescriptor (TX2 k).2.2.1 = some (tyX2 k) := by decide +kernel
abbrev cX2_init : ByteArray := prog_4_method_1_code
def yX2_init : MethodName := ⟨RX2, "<init>", "()V"⟩
abbrev cX2_due : ByteArray := prog_4_method_2_code
def yX2_due : MethodName := ⟨RX2, "due", "(I)I"⟩
abbrev cX2_firstDue : ByteArray := prog_4_method_3_code
def yX2_firstDue : MethodName := ⟨RX2, "firstDue", "(I)I"⟩
def RX3 : String := "PostTurns$Holder"
def TX3 : u_T := fun k => match k with
  | 0 => ("PostTurns$Holder", "game", "I", false)
  | 1 => ("PostTurns$Holder", "coins", "I", false)
  | 2 => ("PostTurns$Holder", "dropped", "I", false)
  | 3 => ("PostTurns$Holder", "proxy", "I", false)
  | 4 => ("PostTurns$Holder", "paid", "I", false)
  | 5 => ("PostTurns$Holder", "coinsAhead", "[I", true)
  | _ => ("PostTurns$Holder", "fee", "[I", true)
def tyX3 : Nat → FieldType := fun k => match k with
  | 0 => .int
  | 1 => .int
  | 2 => .int
  | 3 => .int
  | 4 => .int
  | 5 => .array .int
  | _ => .array .int
abbrev wsX30 : List Cond := u_ws RX3 TX3 7
theorem nmX3 : ∀ a, a < 7 → ∀ b, b < 7 → a ≠ b → (TX3 a).2.1 ≠ (TX3 b).2.1 := by decide +kernel
theorem tyX3_ok : ∀ k, k < 7 → parseFieldDescriptor (TX3 k).2.2.1 = some (tyX3 k) := by decide +kernel
abbrev cX3_init : ByteArray := prog_5_method_1_code
def yX3_init : MethodName := ⟨RX3, "<init>", "()V"⟩
abbrev cX3_owed : ByteArray := prog_5_method_2_code
def yX3_owed : MethodName := ⟨RX3, "owed", "(I)I"⟩
def RX4 : String := "PostTurns$Moves"
def TX4 : u_T := fun k => match k with
  | 0 => ("PostTurns$Moves", "pieces", "[LPostTurns$Piece;", true)
  | 1 => ("PostTurns$Moves", "member", "[I", true)
  | 2 => ("PostTurns$Moves", "members", "I", false)
  | 3 => ("PostTurns$Moves", "order", "[I", true)
  | 4 => ("PostTurns$Moves", "after", "[I", true)
  | 5 => ("PostTurns$Moves", "what", "[I", true)
  | 6 => ("PostTurns$Moves", "at", "[I", true)
  | 7 => ("PostTurns$Moves", "tie", "[I", true)
  | 8 => ("PostTurns$Moves", "strength", "[I", true)
  | 9 => ("PostTurns$Moves", "failed", "[I", true)
  | 10 => ("PostTurns$Moves", "cut", "[Z", true)
  | 11 => ("PostTurns$Moves", "inCell", "[I", true)
  | 12 => ("PostTurns$Moves", "first", "[I", true)
  | _ => ("PostTurns$Moves", "tied", "[Z", true)
def tyX4 : Nat → FieldType := fun k => match k with
  | 0 => .array (.object "PostTurns$Piece")
  | 1 => .array .int
  | 2 => .int
  | 3 => .array .int
  | 4 => .array .int
  | 5 => .array .int
  | 6 => .array .int
  | 7 => .array .int
  | 8 => .array .int
  | 9 => .array .int
  | 10 => .array .boolean
  | 11 => .array .int
  | 12 => .array .int
  | _ => .array .boolean
abbrev wsX40 : List Cond := u_ws RX4 TX4 14
theorem nmX4 : ∀ a, a < 14 → ∀ b, b < 14 → a ≠ b → (TX4 a).2.1 ≠ (TX4 b).2.1 := by decide +kernel
theorem tyX4_ok : ∀ k, k < 14 → parseFieldDescriptor (TX4 k).2.2.1 = some (tyX4 k) := by decide +kernel
abbrev cX4_init : ByteArray := prog_6_method_1_code
def yX4_init : MethodName := ⟨RX4, "<init>", "()V"⟩
abbrev cX4_begin : ByteArray := prog_6_method_2_code
def yX4_begin : MethodName := ⟨RX4, "begin", "(II)V"⟩
abbrev cX4_give : ByteArray := prog_6_method_3_code
def yX4_give : MethodName := ⟨RX4, "give", "(IIII)V"⟩
abbrev cX4_workOut : ByteArray := prog_6_method_4_code
def yX4_workOut : MethodName := ⟨RX4, "workOut", "()V"⟩
abbrev cX4_goal : ByteArray := prog_6_method_5_code
def yX4_goal : MethodName := ⟨RX4, "goal", "(I)I"⟩
abbrev cX4_measure : ByteArray := prog_6_method_6_code
def yX4_measure : MethodName := ⟨RX4, "measure", "()V"⟩
abbrev cX4_findFirst : ByteArray := prog_6_method_7_code
def yX4_findFirst : MethodName := ⟨RX4, "findFirst", "()V"⟩
abbrev cX4_compare : ByteArray := prog_6_method_8_code
def yX4_compare : MethodName := ⟨RX4, "compare", "(II)I"⟩
abbrev cX4_failSwaps : ByteArray := prog_6_method_9_code
def yX4_failSwaps : MethodName := ⟨RX4, "failSwaps", "()V"⟩
abbrev cX4_failBlocked : ByteArray := prog_6_method_10_code
def yX4_failBlocked : MethodName := ⟨RX4, "failBlocked", "()Z"⟩
abbrev cX4_goes : ByteArray := prog_6_method_11_code
def yX4_goes : MethodName := ⟨RX4, "goes", "(I)Z"⟩
abbrev cX4_cellAfter : ByteArray := prog_6_method_12_code
def yX4_cellAfter : MethodName := ⟨RX4, "cellAfter", "(I)I"⟩
abbrev cX4_numberAfter : ByteArray := prog_6_method_13_code
def yX4_numberAfter : MethodName := ⟨RX4, "numberAfter", "(I)I"⟩
abbrev cX4_carryOut : ByteArray := prog_6_method_14_code
def yX4_carryOut : MethodName := ⟨RX4, "carryOut", "(II)V"⟩
def RX5 : String := "PostTurns$Order"
def TX5 : u_T := fun k => match k with
  | 0 => ("PostTurns$Order", "card", "I", false)
  | 1 => ("PostTurns$Order", "kind", "I", false)
  | 2 => ("PostTurns$Order", "piece", "I", false)
  | 3 => ("PostTurns$Order", "what", "I", false)
  | 4 => ("PostTurns$Order", "at", "I", false)
  | 5 => ("PostTurns$Order", "first", "I", false)
  | _ => ("PostTurns$Order", "second", "I", false)
def tyX5 : Nat → FieldType := fun k => match k with
  | 0 => .int
  | 1 => .int
  | 2 => .int
  | 3 => .int
  | 4 => .int
  | 5 => .int
  | _ => .int
abbrev wsX50 : List Cond := u_ws RX5 TX5 7
theorem nmX5 : ∀ a, a < 7 → ∀ b, b < 7 → a ≠ b → (TX5 a).2.1 ≠ (TX5 b).2.1 := by decide +kernel
theorem tyX5_ok : ∀ k, k < 7 → parseFieldDescriptor (TX5 k).2.2.1 = some (tyX5 k) := by decide +kernel
abbrev cX5_init : ByteArray := prog_7_method_1_code
def yX5_init : MethodName := ⟨RX5, "<init>", "()V"⟩
def RX6 : String := "PostTurns$Piece"
def TX6 : u_T := fun k => match k with
  | 0 => ("PostTurns$Piece", "game", "I", false)
  | 1 => ("PostTurns$Piece", "holder", "I", false)
  | 2 => ("PostTurns$Piece", "force", "I", false)
  | 3 => ("PostTurns$Piece", "cell", "I", false)
  | 4 => ("PostTurns$Piece", "led", "I", false)
  | 5 => ("PostTurns$Piece", "failed", "I", false)
  | 6 => ("PostTurns$Piece", "gone", "Z", false)
  | 7 => ("PostTurns$Piece", "cellAhead", "[I", true)
  | 8 => ("PostTurns$Piece", "goneAhead", "[Z", true)
  | 9 => ("PostTurns$Piece", "cellThen", "I", false)
  | _ => ("PostTurns$Piece", "goneThen", "Z", false)
def tyX6 : Nat → FieldType := fun k => match k with
  | 0 => .int
  | 1 => .int
  | 2 => .int
  | 3 => .int
  | 4 => .int
  | 5 => .int
  | 6 => .boolean
  | 7 => .array .int
  | 8 => .array .boolean
  | 9 => .int
  | _ => .boolean
abbrev wsX60 : List Cond := u_ws RX6 TX6 11
theorem nmX6 : ∀ a, a < 11 → ∀ b, b < 11 → a ≠ b → (TX6 a).2.1 ≠ (TX6 b).2.1 := by decide +kernel
theorem tyX6_ok : ∀ k, k < 11 → parseFieldDescriptor (TX6 k).2.2.1 = some (tyX6 k) := by decide +kernel
abbrev cX6_init : ByteArray := prog_8_method_1_code
def yX6_init : MethodName := ⟨RX6, "<init>", "()V"⟩
abbrev cX6_goBack : ByteArray := prog_8_method_2_code
def yX6_goBack : MethodName := ⟨RX6, "goBack", "(I)V"⟩
abbrev cX6_isElsewhere : ByteArray := prog_8_method_3_code
def yX6_isElsewhere : MethodName := ⟨RX6, "isElsewhere", "()Z"⟩
def RX7 : String := "PostTurns$Rule"
def TX7 : u_T := fun k => match k with
  | 0 => ("PostTurns$Rule", "game", "I", false)
  | 1 => ("PostTurns$Rule", "use", "I", false)
  | 2 => ("PostTurns$Rule", "made", "I", false)
  | 3 => ("PostTurns$Rule", "from", "I", false)
  | 4 => ("PostTurns$Rule", "length", "I", false)
  | 5 => ("PostTurns$Rule", "code", "[I", true)
  | _ => ("PostTurns$Rule", "pending", "[I", true)
def tyX7 : Nat → FieldType := fun k => match k with
  | 0 => .int
  | 1 => .int
  | 2 => .int
  | 3 => .int
  | 4 => .int
  | 5 => .array .int
  | _ => .array .int
abbrev wsX70 : List Cond := u_ws RX7 TX7 7
theorem nmX7 : ∀ a, a < 7 → ∀ b, b < 7 → a ≠ b → (TX7 a).2.1 ≠ (TX7 b).2.1 := by decide +kernel
theorem tyX7_ok : ∀ k, k < 7 → parseFieldDescriptor (TX7 k).2.2.1 = some (tyX7 k) := by decide +kernel
abbrev cX7_init : ByteArray := prog_9_method_1_code
def yX7_init : MethodName := ⟨RX7, "<init>", "()V"⟩
abbrev cX7_add : ByteArray := prog_9_method_2_code
def yX7_add : MethodName := ⟨RX7, "add", "(I)V"⟩
abbrev cX7_worth : ByteArray := prog_9_method_3_code
def yX7_worth : MethodName := ⟨RX7, "worth", "([I)I"⟩
abbrev cX7_joined : ByteArray := prog_9_method_4_code
def yX7_joined : MethodName := ⟨RX7, "joined", "(III)I"⟩
def RX8 : String := "PostTurns$Shelf"
def TX8 : u_T := fun k => match k with
  | 0 => ("PostTurns$Shelf", "holds", "I", false)
  | 1 => ("PostTurns$Shelf", "order", "I", false)
  | 2 => ("PostTurns$Shelf", "length", "I", false)
  | _ => ("PostTurns$Shelf", "element", "[J", true)
def tyX8 : Nat → FieldType := fun k => match k with
  | 0 => .int
  | 1 => .int
  | 2 => .int
  | _ => .array .long
abbrev wsX80 : List Cond := u_ws RX8 TX8 4
theorem nmX8 : ∀ a, a < 4 → ∀ b, b < 4 → a ≠ b → (TX8 a).2.1 ≠ (TX8 b).2.1 := by decide +kernel
theorem tyX8_ok : ∀ k, k < 4 → parseFieldDescriptor (TX8 k).2.2.1 = some (tyX8 k) := by decide +kernel
abbrev cX8_init : ByteArray := prog_10_method_1_code
def yX8_init : MethodName := ⟨RX8, "<init>", "()V"⟩
abbrev cX8_isRow : ByteArray := prog_10_method_2_code
def yX8_isRow : MethodName := ⟨RX8, "isRow", "()Z"⟩
abbrev cX8_becomeRow : ByteArray := prog_10_method_3_code
def yX8_becomeRow : MethodName := ⟨RX8, "becomeRow", "(II)V"⟩
abbrev cX8_refusal : ByteArray := prog_10_method_4_code
def yX8_refusal : MethodName := ⟨RX8, "refusal", "(I)I"⟩
abbrev cX8_hasRun : ByteArray := prog_10_method_5_code
def yX8_hasRun : MethodName := ⟨RX8, "hasRun", "(II)Z"⟩
abbrev cX8_cut : ByteArray := prog_10_method_6_code
def yX8_cut : MethodName := ⟨RX8, "cut", "(J)J"⟩
def RX9 : String := "PostTurns$Tape"
def TX9 : u_T := fun k => match k with
  | 0 => ("PostTurns$Tape", "length", "I", false)
  | 1 => ("PostTurns$Tape", "bytes", "[I", true)
  | _ => ("PostTurns$Tape", "place", "I", false)
def tyX9 : Nat → FieldType := fun k => match k with
  | 0 => .int
  | 1 => .array .int
  | _ => .int
abbrev wsX90 : List Cond := u_ws RX9 TX9 3
theorem nmX9 : ∀ a, a < 3 → ∀ b, b < 3 → a ≠ b → (TX9 a).2.1 ≠ (TX9 b).2.1 := by decide +kernel
theorem tyX9_ok : ∀ k, k < 3 → parseFieldDescriptor (TX9 k).2.2.1 = some (tyX9 k) := by decide +kernel
abbrev cX9_init : ByteArray := prog_11_method_1_code
def yX9_init : MethodName := ⟨RX9, "<init>", "()V"⟩
abbrev cX9_add : ByteArray := prog_11_method_2_code
def yX9_add : MethodName := ⟨RX9, "add", "(I)V"⟩
abbrev cX9_next : ByteArray := prog_11_method_3_code
def yX9_next : MethodName := ⟨RX9, "next", "()I"⟩
abbrev cX9_compile : ByteArray := prog_11_method_4_code
def yX9_compile : MethodName := ⟨RX9, "compile", "(LPostTurns$Rule;)I"⟩
abbrev cX9_line : ByteArray := prog_11_method_5_code
def yX9_line : MethodName := ⟨RX9, "line", "(LPostTurns$Rule;)Z"⟩
abbrev cX9_either : ByteArray := prog_11_method_6_code
def yX9_either : MethodName := ⟨RX9, "either", "(LPostTurns$Rule;I)Z"⟩
abbrev cX9_both : ByteArray := prog_11_method_7_code
def yX9_both : MethodName := ⟨RX9, "both", "(LPostTurns$Rule;I)Z"⟩
abbrev cX9_compared : ByteArray := prog_11_method_8_code
def yX9_compared : MethodName := ⟨RX9, "compared", "(LPostTurns$Rule;I)Z"⟩
abbrev cX9_sum : ByteArray := prog_11_method_9_code
def yX9_sum : MethodName := ⟨RX9, "sum", "(LPostTurns$Rule;I)Z"⟩
abbrev cX9_product : ByteArray := prog_11_method_10_code
def yX9_product : MethodName := ⟨RX9, "product", "(LPostTurns$Rule;I)Z"⟩
abbrev cX9_operand : ByteArray := prog_11_method_11_code
def yX9_operand : MethodName := ⟨RX9, "operand", "(LPostTurns$Rule;I)Z"⟩
abbrev cX9_number : ByteArray := prog_11_method_12_code
def yX9_number : MethodName := ⟨RX9, "number", "(LPostTurns$Rule;)V"⟩
abbrev cX9_name : ByteArray := prog_11_method_13_code
def yX9_name : MethodName := ⟨RX9, "name", "(LPostTurns$Rule;I)Z"⟩
def RX10 : String := "PostTurns$Ways"
def TX10 : u_T := fun k => match k with
  | 0 => ("PostTurns$Ways", "told", "I", false)
  | 1 => ("PostTurns$Ways", "chosen", "I", false)
  | 2 => ("PostTurns$Ways", "piece", "[I", true)
  | 3 => ("PostTurns$Ways", "number", "[I", true)
  | 4 => ("PostTurns$Ways", "what", "[I", true)
  | 5 => ("PostTurns$Ways", "at", "[I", true)
  | 6 => ("PostTurns$Ways", "done", "[I", true)
  | 7 => ("PostTurns$Ways", "tie", "[I", true)
  | 8 => ("PostTurns$Ways", "picked", "[I", true)
  | _ => ("PostTurns$Ways", "best", "[I", true)
def tyX10 : Nat → FieldType := fun k => match k with
  | 0 => .int
  | 1 => .int
  | 2 => .array .int
  | 3 => .array .int
  | 4 => .array .int
  | 5 => .array .int
  | 6 => .array .int
  | 7 => .array .int
  | 8 => .array .int
  | _ => .array .int
abbrev wsX100 : List Cond := u_ws RX10 TX10 10
theorem nmX10 : ∀ a, a < 10 → ∀ b, b < 10 → a ≠ b → (TX10 a).2.1 ≠ (TX10 b).2.1 := by decide +kernel
theorem tyX10_ok : ∀ k, k < 10 → parseFieldDescriptor (TX10 k).2.2.1 = some (tyX10 k) := by decide +kernel
abbrev cX10_init : ByteArray := prog_12_method_1_code
def yX10_init : MethodName := ⟨RX10, "<init>", "()V"⟩
abbrev cX10_tell : ByteArray := prog_12_method_2_code
def yX10_tell : MethodName := ⟨RX10, "tell", "(III)I"⟩
abbrev cX10_placeOf : ByteArray := prog_12_method_3_code
def yX10_placeOf : MethodName := ⟨RX10, "placeOf", "(I)I"⟩
abbrev cX10_rows : ByteArray := prog_12_method_4_code
def yX10_rows : MethodName := ⟨RX10, "rows", "()I"⟩
abbrev cX10_pick : ByteArray := prog_12_method_5_code
def yX10_pick : MethodName := ⟨RX10, "pick", "(I)V"⟩
abbrev cX10_pickDigits : ByteArray := prog_12_method_6_code
def yX10_pickDigits : MethodName := ⟨RX10, "pickDigits", "(I)Z"⟩
abbrev cX10_choose : ByteArray := prog_12_method_7_code
def yX10_choose : MethodName := ⟨RX10, "choose", "(I)V"⟩
def RX11 : String := "PostTurns"
def TX11 : u_T := fun k => match k with
  | 0 => ("PostTurns", "day", "I", false)
  | 1 => ("PostTurns", "games", "[LPostTurns$Game;", true)
  | 2 => ("PostTurns", "gameCount", "I", false)
  | 3 => ("PostTurns", "holders", "[LPostTurns$Holder;", true)
  | 4 => ("PostTurns", "holderCount", "I", false)
  | 5 => ("PostTurns", "moves", "LPostTurns$Moves;", true)
  | 6 => ("PostTurns", "pieces", "[LPostTurns$Piece;", true)
  | 7 => ("PostTurns", "pieceCount", "I", false)
  | 8 => ("PostTurns", "cards", "[LPostTurns$Card;", true)
  | 9 => ("PostTurns", "cardCount", "I", false)
  | 10 => ("PostTurns", "orders", "[LPostTurns$Order;", true)
  | 11 => ("PostTurns", "orderCount", "I", false)
  | 12 => ("PostTurns", "rules", "[LPostTurns$Rule;", true)
  | 13 => ("PostTurns", "ruleCount", "I", false)
  | 14 => ("PostTurns", "tape", "LPostTurns$Tape;", true)
  | 15 => ("PostTurns", "names", "[I", true)
  | 16 => ("PostTurns", "ways", "LPostTurns$Ways;", true)
  | 17 => ("PostTurns", "acts", "LPostTurns$Acts;", true)
  | _ => ("PostTurns", "shelves", "[LPostTurns$Shelf;", true)
def tyX11 : Nat → FieldType := fun k => match k with
  | 0 => .int
  | 1 => .array (.object "PostTurns$Game")
  | 2 => .int
  | 3 => .array (.object "PostTurns$Holder")
  | 4 => .int
  | 5 => .object "PostTurns$Moves"
  | 6 => .array (.object "PostTurns$Piece")
  | 7 => .int
  | 8 => .array (.object "PostTurns$Card")
  | 9 => .int
  | 10 => .array (.object "PostTurns$Order")
  | 11 => .int
  | 12 => .array (.object "PostTurns$Rule")
  | 13 => .int
  | 14 => .object "PostTurns$Tape"
  | 15 => .array .int
  | 16 => .object "PostTurns$Ways"
  | 17 => .object "PostTurns$Acts"
  | _ => .array (.object "PostTurns$Shelf")
abbrev wsX110 : List Cond := u_ws RX11 TX11 19
theorem nmX11 : ∀ a, a < 19 → ∀ b, b < 19 → a ≠ b → (TX11 a).2.1 ≠ (TX11 b).2.1 := by decide +kernel
theorem tyX11_ok : ∀ k, k < 19 → parseFieldDescriptor (TX11 k).2.2.1 = some (tyX11 k) := by decide +kernel
abbrev cX11_init : ByteArray := prog_1_method_1_code
def yX11_init : MethodName := ⟨RX11, "<init>", "()V"⟩
abbrev cX11_days : ByteArray := prog_1_method_2_code
def yX11_days : MethodName := ⟨RX11, "days", "(I)I"⟩
abbrev cX11_game : ByteArray := prog_1_method_3_code
def yX11_game : MethodName := ⟨RX11, "game", "(I)I"⟩
abbrev cX11_cell : ByteArray := prog_1_method_4_code
def yX11_cell : MethodName := ⟨RX11, "cell", "(III)I"⟩
abbrev cX11_holder : ByteArray := prog_1_method_5_code
def yX11_holder : MethodName := ⟨RX11, "holder", "(II)I"⟩
abbrev cX11_runs : ByteArray := prog_1_method_6_code
def yX11_runs : MethodName := ⟨RX11, "runs", "(II)I"⟩
abbrev cX11_drops : ByteArray := prog_1_method_7_code
def yX11_drops : MethodName := ⟨RX11, "drops", "(II)I"⟩
abbrev cX11_piece : ByteArray := prog_1_method_8_code
def yX11_piece : MethodName := ⟨RX11, "piece", "(III)I"⟩
abbrev cX11_ofPiece : ByteArray := prog_1_method_9_code
def yX11_ofPiece : MethodName := ⟨RX11, "ofPiece", "(II)I"⟩
abbrev cX11_ofHolder : ByteArray := prog_1_method_10_code
def yX11_ofHolder : MethodName := ⟨RX11, "ofHolder", "(II)I"⟩
abbrev cX11_ofGame : ByteArray := prog_1_method_11_code
def yX11_ofGame : MethodName := ⟨RX11, "ofGame", "(II)I"⟩
abbrev cX11_isGame : ByteArray := prog_1_method_12_code
def yX11_isGame : MethodName := ⟨RX11, "isGame", "(I)Z"⟩
abbrev cX11_isHolder : ByteArray := prog_1_method_13_code
def yX11_isHolder : MethodName := ⟨RX11, "isHolder", "(I)Z"⟩
abbrev cX11_isPiece : ByteArray := prog_1_method_14_code
def yX11_isPiece : MethodName := ⟨RX11, "isPiece", "(I)Z"⟩
abbrev cX11_isCard : ByteArray := prog_1_method_15_code
def yX11_isCard : MethodName := ⟨RX11, "isCard", "(I)Z"⟩
abbrev cX11_isOrder : ByteArray := prog_1_method_16_code
def yX11_isOrder : MethodName := ⟨RX11, "isOrder", "(I)Z"⟩
abbrev cX11_isCell : ByteArray := prog_1_method_17_code
def yX11_isCell : MethodName := ⟨RX11, "isCell", "(I)Z"⟩
abbrev cX11_isTurn : ByteArray := prog_1_method_18_code
def yX11_isTurn : MethodName := ⟨RX11, "isTurn", "(I)Z"⟩
abbrev cX11_isShelf : ByteArray := prog_1_method_19_code
def yX11_isShelf : MethodName := ⟨RX11, "isShelf", "(I)Z"⟩
abbrev cX11_distance : ByteArray := prog_1_method_20_code
def yX11_distance : MethodName := ⟨RX11, "distance", "(II)I"⟩
abbrev cX11_pieceIn : ByteArray := prog_1_method_21_code
def yX11_pieceIn : MethodName := ⟨RX11, "pieceIn", "(II)I"⟩
abbrev cX11_piecesOf : ByteArray := prog_1_method_22_code
def yX11_piecesOf : MethodName := ⟨RX11, "piecesOf", "(I)I"⟩
abbrev cX11_feed : ByteArray := prog_1_method_23_code
def yX11_feed : MethodName := ⟨RX11, "feed", "(II)I"⟩
abbrev cX11_rule : ByteArray := prog_1_method_24_code
def yX11_rule : MethodName := ⟨RX11, "rule", "(II)I"⟩
abbrev cX11_inForce : ByteArray := prog_1_method_25_code
def yX11_inForce : MethodName := ⟨RX11, "inForce", "(III)I"⟩
abbrev cX11_says : ByteArray := prog_1_method_26_code
def yX11_says : MethodName := ⟨RX11, "says", "(II)I"⟩
abbrev cX11_drawn : ByteArray := prog_1_method_27_code
def yX11_drawn : MethodName := ⟨RX11, "drawn", "(II)I"⟩
abbrev cX11_isRuled : ByteArray := prog_1_method_28_code
def yX11_isRuled : MethodName := ⟨RX11, "isRuled", "(I)Z"⟩
abbrev cX11_ruleIn : ByteArray := prog_1_method_29_code
def yX11_ruleIn : MethodName := ⟨RX11, "ruleIn", "(IIII)I"⟩
abbrev cX11_drawnFor : ByteArray := prog_1_method_30_code
def yX11_drawnFor : MethodName := ⟨RX11, "drawnFor", "(II)I"⟩
abbrev cX11_clearNames : ByteArray := prog_1_method_31_code
def yX11_clearNames : MethodName := ⟨RX11, "clearNames", "()V"⟩
abbrev cX11_namePiece : ByteArray := prog_1_method_32_code
def yX11_namePiece : MethodName := ⟨RX11, "namePiece", "(IIII)V"⟩
abbrev cX11_mayBe : ByteArray := prog_1_method_33_code
def yX11_mayBe : MethodName := ⟨RX11, "mayBe", "(IIII)Z"⟩
abbrev cX11_tieOf : ByteArray := prog_1_method_34_code
def yX11_tieOf : MethodName := ⟨RX11, "tieOf", "(IIII)I"⟩
abbrev cX11_sightOf : ByteArray := prog_1_method_35_code
def yX11_sightOf : MethodName := ⟨RX11, "sightOf", "(I)I"⟩
abbrev cX11_feeOf : ByteArray := prog_1_method_36_code
def yX11_feeOf : MethodName := ⟨RX11, "feeOf", "(III)I"⟩
abbrev cX11_within : ByteArray := prog_1_method_37_code
def yX11_within : MethodName := ⟨RX11, "within", "(II)I"⟩
abbrev cX11_card : ByteArray := prog_1_method_38_code
def yX11_card : MethodName := ⟨RX11, "card", "(III)I"⟩
abbrev cX11_ofCard : ByteArray := prog_1_method_39_code
def yX11_ofCard : MethodName := ⟨RX11, "ofCard", "(II)I"⟩
abbrev cX11_order : ByteArray := prog_1_method_40_code
def yX11_order : MethodName := ⟨RX11, "order", "(IIII)I"⟩
abbrev cX11_turn : ByteArray := prog_1_method_41_code
def yX11_turn : MethodName := ⟨RX11, "turn", "(III)I"⟩
abbrev cX11_ofOrder : ByteArray := prog_1_method_42_code
def yX11_ofOrder : MethodName := ⟨RX11, "ofOrder", "(II)I"⟩
abbrev cX11_read : ByteArray := prog_1_method_43_code
def yX11_read : MethodName := ⟨RX11, "read", "(IIII)I"⟩
abbrev cX11_orderOf : ByteArray := prog_1_method_44_code
def yX11_orderOf : MethodName := ⟨RX11, "orderOf", "(I)I"⟩
abbrev cX11_isSound : ByteArray := prog_1_method_45_code
def yX11_isSound : MethodName := ⟨RX11, "isSound", "(III)Z"⟩
abbrev cX11_isKindTold : ByteArray := prog_1_method_46_code
def yX11_isKindTold : MethodName := ⟨RX11, "isKindTold", "(III)Z"⟩
abbrev cX11_addOrder : ByteArray := prog_1_method_47_code
def yX11_addOrder : MethodName := ⟨RX11, "addOrder", "(IIIII)V"⟩
abbrev cX11_readFour : ByteArray := prog_1_method_48_code
def yX11_readFour : MethodName := ⟨RX11, "readFour", "(ILPostTurns$Shelf;I)V"⟩
abbrev cX11_cardCounts : ByteArray := prog_1_method_49_code
def yX11_cardCounts : MethodName := ⟨RX11, "cardCounts", "(LPostTurns$Card;)Z"⟩
abbrev cX11_canBe : ByteArray := prog_1_method_50_code
def yX11_canBe : MethodName := ⟨RX11, "canBe", "(III)Z"⟩
abbrev cX11_isOfTurn : ByteArray := prog_1_method_51_code
def yX11_isOfTurn : MethodName := ⟨RX11, "isOfTurn", "(LPostTurns$Order;LPostTurns$Card;I)Z"⟩
abbrev cX11_fits : ByteArray := prog_1_method_52_code
def yX11_fits : MethodName := ⟨RX11, "fits", "(LPostTurns$Order;I)Z"⟩
abbrev cX11_holdsGood : ByteArray := prog_1_method_53_code
def yX11_holdsGood : MethodName := ⟨RX11, "holdsGood", "(LPostTurns$Order;I)Z"⟩
abbrev cX11_done : ByteArray := prog_1_method_54_code
def yX11_done : MethodName := ⟨RX11, "done", "(I)I"⟩
abbrev cX11_again : ByteArray := prog_1_method_55_code
def yX11_again : MethodName := ⟨RX11, "again", "(II)I"⟩
abbrev cX11_was : ByteArray := prog_1_method_56_code
def yX11_was : MethodName := ⟨RX11, "was", "(II)I"⟩
abbrev cX11_doTurn : ByteArray := prog_1_method_57_code
def yX11_doTurn : MethodName := ⟨RX11, "doTurn", "(II)V"⟩
abbrev cX11_giveOrders : ByteArray := prog_1_method_58_code
def yX11_giveOrders : MethodName := ⟨RX11, "giveOrders", "(II)V"⟩
abbrev cX11_playsIn : ByteArray := prog_1_method_59_code
def yX11_playsIn : MethodName := ⟨RX11, "playsIn", "(II)Z"⟩
abbrev cX11_settle : ByteArray := prog_1_method_60_code
def yX11_settle : MethodName := ⟨RX11, "settle", "(II)V"⟩
abbrev cX11_coinsAfter : ByteArray := prog_1_method_61_code
def yX11_coinsAfter : MethodName := ⟨RX11, "coinsAfter", "(II)I"⟩
abbrev cX11_sees : ByteArray := prog_1_method_62_code
def yX11_sees : MethodName := ⟨RX11, "sees", "(II)I"⟩
abbrev cX11_alike : ByteArray := prog_1_method_63_code
def yX11_alike : MethodName := ⟨RX11, "alike", "(II)I"⟩
abbrev cX11_sheetOf : ByteArray := prog_1_method_64_code
def yX11_sheetOf : MethodName := ⟨RX11, "sheetOf", "(I)J"⟩
abbrev cX11_way : ByteArray := prog_1_method_65_code
def yX11_way : MethodName := ⟨RX11, "way", "(III)I"⟩
abbrev cX11_best : ByteArray := prog_1_method_66_code
def yX11_best : MethodName := ⟨RX11, "best", "()I"⟩
abbrev cX11_bestWay : ByteArray := prog_1_method_67_code
def yX11_bestWay : MethodName := ⟨RX11, "bestWay", "(I)I"⟩
abbrev cX11_judge : ByteArray := prog_1_method_68_code
def yX11_judge : MethodName := ⟨RX11, "judge", "(I)I"⟩
abbrev cX11_canJudge : ByteArray := prog_1_method_69_code
def yX11_canJudge : MethodName := ⟨RX11, "canJudge", "()Z"⟩
abbrev cX11_readyWays : ByteArray := prog_1_method_70_code
def yX11_readyWays : MethodName := ⟨RX11, "readyWays", "(II)V"⟩
abbrev cX11_playRow : ByteArray := prog_1_method_71_code
def yX11_playRow : MethodName := ⟨RX11, "playRow", "(II)I"⟩
abbrev cX11_pay : ByteArray := prog_1_method_72_code
def yX11_pay : MethodName := ⟨RX11, "pay", "(II)I"⟩
abbrev cX11_bar : ByteArray := prog_1_method_73_code
def yX11_bar : MethodName := ⟨RX11, "bar", "(I)I"⟩
abbrev cX11_act : ByteArray := prog_1_method_74_code
def yX11_act : MethodName := ⟨RX11, "act", "(III)I"⟩
abbrev cX11_trace : ByteArray := prog_1_method_75_code
def yX11_trace : MethodName := ⟨RX11, "trace", "(I)I"⟩
abbrev cX11_keep : ByteArray := prog_1_method_76_code
def yX11_keep : MethodName := ⟨RX11, "keep", "(II)I"⟩
abbrev cX11_row : ByteArray := prog_1_method_77_code
def yX11_row : MethodName := ⟨RX11, "row", "(III)I"⟩
abbrev cX11_put : ByteArray := prog_1_method_78_code
def yX11_put : MethodName := ⟨RX11, "put", "(IIJ)I"⟩
abbrev cX11_element : ByteArray := prog_1_method_79_code
def yX11_element : MethodName := ⟨RX11, "element", "(II)J"⟩
abbrev cX11_shift : ByteArray := prog_1_method_80_code
def yX11_shift : MethodName := ⟨RX11, "shift", "(IIIII)I"⟩
abbrev cX11_taken : ByteArray := prog_1_method_81_code
def yX11_taken : MethodName := ⟨RX11, "taken", "(II)I"⟩
abbrev cX11_check : ByteArray := prog_1_method_82_code
def yX11_check : MethodName := ⟨RX11, "check", "(I)I"⟩
abbrev cX11_count : ByteArray := prog_1_method_83_code
def yX11_count : MethodName := ⟨RX11, "count", "(I)I"⟩
abbrev cX11_piecesThere : ByteArray := prog_1_method_84_code
def yX11_piecesThere : MethodName := ⟨RX11, "piecesThere", "()I"⟩
abbrev cX11_isUnder : ByteArray := prog_1_method_85_code
def yX11_isUnder : MethodName := ⟨RX11, "isUnder", "(II)Z"⟩
abbrev cX11_isBalanced : ByteArray := prog_1_method_86_code
def yX11_isBalanced : MethodName := ⟨RX11, "isBalanced", "(I)Z"⟩
def RX12 : String := "PostTurnsModel"
def TX12 : u_T := fun k => match k with
  | 0 => ("PostTurnsModel", "day", "I", false)
  | 1 => ("PostTurnsModel", "seed", "[I", true)
  | 2 => ("PostTurnsModel", "began", "[I", true)
  | 3 => ("PostTurnsModel", "turnIs", "[I", true)
  | 4 => ("PostTurnsModel", "doings", "[I", true)
  | 5 => ("PostTurnsModel", "runner", "[I", true)
  | 6 => ("PostTurnsModel", "value", "[I", true)
  | 7 => ("PostTurnsModel", "isWall", "[Z", true)
  | 8 => ("PostTurnsModel", "games", "I", false)
  | 9 => ("PostTurnsModel", "holderGame", "[I", true)
  | 10 => ("PostTurnsModel", "coins", "[I", true)
  | 11 => ("PostTurnsModel", "firstCoins", "[I", true)
  | 12 => ("PostTurnsModel", "dropped", "[I", true)
  | 13 => ("PostTurnsModel", "proxy", "[I", true)
  | 14 => ("PostTurnsModel", "paidIn", "[I", true)
  | 15 => ("PostTurnsModel", "holders", "I", false)
  | 16 => ("PostTurnsModel", "pieceHolder", "[I", true)
  | 17 => ("PostTurnsModel", "pieceCell", "[I", true)
  | 18 => ("PostTurnsModel", "firstCell", "[I", true)
  | 19 => ("PostTurnsModel", "force", "[I", true)
  | 20 => ("PostTurnsModel", "isGone", "[Z", true)
  | 21 => ("PostTurnsModel", "ledBy", "[I", true)
  | 22 => ("PostTurnsModel", "ledFail", "[I", true)
  | 23 => ("PostTurnsModel", "pieces", "I", false)
  | 24 => ("PostTurnsModel", "keptCell", "[I", true)
  | 25 => ("PostTurnsModel", "keptCoins", "[I", true)
  | 26 => ("PostTurnsModel", "keptFee", "[I", true)
  | 27 => ("PostTurnsModel", "tape", "[I", true)
  | 28 => ("PostTurnsModel", "tapeMany", "I", false)
  | 29 => ("PostTurnsModel", "text", "[I", true)
  | 30 => ("PostTurnsModel", "textMany", "[I", true)
  | 31 => ("PostTurnsModel", "textWhat", "[I", true)
  | 32 => ("PostTurnsModel", "textMade", "[I", true)
  | 33 => ("PostTurnsModel", "textFrom", "[I", true)
  | 34 => ("PostTurnsModel", "rules", "I", false)
  | 35 => ("PostTurnsModel", "cardHolder", "[I", true)
  | 36 => ("PostTurnsModel", "cardFor", "[I", true)
  | 37 => ("PostTurnsModel", "cardOn", "[I", true)
  | 38 => ("PostTurnsModel", "cardIn", "[I", true)
  | 39 => ("PostTurnsModel", "cardTurn", "[I", true)
  | 40 => ("PostTurnsModel", "cardSent", "[I", true)
  | 41 => ("PostTurnsModel", "cards", "I", false)
  | 42 => ("PostTurnsModel", "kind", "[I", true)
  | 43 => ("PostTurnsModel", "orderCard", "[I", true)
  | 44 => ("PostTurnsModel", "orderPiece", "[I", true)
  | 45 => ("PostTurnsModel", "orderWhat", "[I", true)
  | 46 => ("PostTurnsModel", "orderAt", "[I", true)
  | 47 => ("PostTurnsModel", "orderA", "[I", true)
  | 48 => ("PostTurnsModel", "orderB", "[I", true)
  | 49 => ("PostTurnsModel", "orders", "I", false)
  | 50 => ("PostTurnsModel", "base", "I", false)
  | 51 => ("PostTurnsModel", "at", "I", false)
  | 52 => ("PostTurnsModel", "ends", "I", false)
  | 53 => ("PostTurnsModel", "fault", "I", false)
  | 54 => ("PostTurnsModel", "opened", "I", false)
  | 55 => ("PostTurnsModel", "names", "[I", true)
  | 56 => ("PostTurnsModel", "does", "[I", true)
  | 57 => ("PostTurnsModel", "to", "[I", true)
  | 58 => ("PostTurnsModel", "strength", "[I", true)
  | 59 => ("PostTurnsModel", "tie", "[I", true)
  | 60 => ("PostTurnsModel", "failed", "[I", true)
  | 61 => ("PostTurnsModel", "by", "[I", true)
  | 62 => ("PostTurnsModel", "toldWhat", "[I", true)
  | 63 => ("PostTurnsModel", "toldAt", "[I", true)
  | 64 => ("PostTurnsModel", "isTold", "Z", false)
  | 65 => ("PostTurnsModel", "goes", "[Z", true)
  | 66 => ("PostTurnsModel", "fee", "[I", true)
  | 67 => ("PostTurnsModel", "cellWas", "[I", true)
  | 68 => ("PostTurnsModel", "rowPiece", "[I", true)
  | 69 => ("PostTurnsModel", "rowWhat", "[I", true)
  | 70 => ("PostTurnsModel", "rowAt", "[I", true)
  | 71 => ("PostTurnsModel", "rowMany", "[I", true)
  | 72 => ("PostTurnsModel", "rowPieces", "I", false)
  | 73 => ("PostTurnsModel", "bestRow", "[I", true)
  | 74 => ("PostTurnsModel", "bestMany", "I", false)
  | 75 => ("PostTurnsModel", "savedCell", "[I", true)
  | 76 => ("PostTurnsModel", "savedGone", "[Z", true)
  | 77 => ("PostTurnsModel", "savedCoins", "[I", true)
  | 78 => ("PostTurnsModel", "piecesLeft", "I", false)
  | 79 => ("PostTurnsModel", "trace", "[I", true)
  | 80 => ("PostTurnsModel", "ran", "I", false)
  | 81 => ("PostTurnsModel", "acting", "I", false)
  | 82 => ("PostTurnsModel", "shelf", "[I", true)
  | 83 => ("PostTurnsModel", "many", "[I", true)
  | 84 => ("PostTurnsModel", "items", "[J", true)
  | _ => ("PostTurnsModel", "carried", "[J", true)
def tyX12 : Nat → FieldType := fun k => match k with
  | 0 => .int
  | 1 => .array .int
  | 2 => .array .int
  | 3 => .array .int
  | 4 => .array .int
  | 5 => .array .int
  | 6 => .array .int
  | 7 => .array .boolean
  | 8 => .int
  | 9 => .array .int
  | 10 => .array .int
  | 11 => .array .int
  | 12 => .array .int
  | 13 => .array .int
  | 14 => .array .int
  | 15 => .int
  | 16 => .array .int
  | 17 => .array .int
  | 18 => .array .int
  | 19 => .array .int
  | 20 => .array .boolean
  | 21 => .array .int
  | 22 => .array .int
  | 23 => .int
  | 24 => .array .int
  | 25 => .array .int
  | 26 => .array .int
  | 27 => .array .int
  | 28 => .int
  | 29 => .array .int
  | 30 => .array .int
  | 31 => .array .int
  | 32 => .array .int
  | 33 => .array .int
  | 34 => .int
  | 35 => .array .int
  | 36 => .array .int
  | 37 => .array .int
  | 38 => .array .int
  | 39 => .array .int
  | 40 => .array .int
  | 41 => .int
  | 42 => .array .int
  | 43 => .array .int
  | 44 => .array .int
  | 45 => .array .int
  | 46 => .array .int
  | 47 => .array .int
  | 48 => .array .int
  | 49 => .int
  | 50 => .int
  | 51 => .int
  | 52 => .int
  | 53 => .int
  | 54 => .int
  | 55 => .array .int
  | 56 => .array .int
  | 57 => .array .int
  | 58 => .array .int
  | 59 => .array .int
  | 60 => .array .int
  | 61 => .array .int
  | 62 => .array .int
  | 63 => .array .int
  | 64 => .boolean
  | 65 => .array .boolean
  | 66 => .array .int
  | 67 => .array .int
  | 68 => .array .int
  | 69 => .array .int
  | 70 => .array .int
  | 71 => .array .int
  | 72 => .int
  | 73 => .array .int
  | 74 => .int
  | 75 => .array .int
  | 76 => .array .boolean
  | 77 => .array .int
  | 78 => .int
  | 79 => .array .int
  | 80 => .int
  | 81 => .int
  | 82 => .array .int
  | 83 => .array .int
  | 84 => .array .long
  | _ => .array .long
abbrev wsX120 : List Cond := u_ws RX12 TX12 86
theorem nmX12 : ∀ a, a < 86 → ∀ b, b < 86 → a ≠ b → (TX12 a).2.1 ≠ (TX12 b).2.1 := by decide +kernel
theorem tyX12_ok : ∀ k, k < 86 → parseFieldDescriptor (TX12 k).2.2.1 = some (tyX12 k) := by decide +kernel
abbrev cX12_init : ByteArray := prog_14_method_1_code
def yX12_init : MethodName := ⟨RX12, "<init>", "()V"⟩
abbrev cX12_within : ByteArray := prog_14_method_2_code
def yX12_within : MethodName := ⟨RX12, "within", "(JJJ)Z"⟩
abbrev cX12_isGame : ByteArray := prog_14_method_3_code
def yX12_isGame : MethodName := ⟨RX12, "isGame", "(I)Z"⟩
abbrev cX12_isHolder : ByteArray := prog_14_method_4_code
def yX12_isHolder : MethodName := ⟨RX12, "isHolder", "(I)Z"⟩
abbrev cX12_isPiece : ByteArray := prog_14_method_5_code
def yX12_isPiece : MethodName := ⟨RX12, "isPiece", "(I)Z"⟩
abbrev cX12_isCell : ByteArray := prog_14_method_6_code
def yX12_isCell : MethodName := ⟨RX12, "isCell", "(I)Z"⟩
abbrev cX12_size : ByteArray := prog_14_method_7_code
def yX12_size : MethodName := ⟨RX12, "size", "(I)I"⟩
abbrev cX12_wayOf : ByteArray := prog_14_method_8_code
def yX12_wayOf : MethodName := ⟨RX12, "wayOf", "(II)I"⟩
abbrev cX12_gameOf : ByteArray := prog_14_method_9_code
def yX12_gameOf : MethodName := ⟨RX12, "gameOf", "(I)I"⟩
abbrev cX12_days : ByteArray := prog_14_method_10_code
def yX12_days : MethodName := ⟨RX12, "days", "(I)I"⟩
abbrev cX12_game : ByteArray := prog_14_method_11_code
def yX12_game : MethodName := ⟨RX12, "game", "(I)I"⟩
abbrev cX12_pieceAt : ByteArray := prog_14_method_12_code
def yX12_pieceAt : MethodName := ⟨RX12, "pieceAt", "(II)I"⟩
abbrev cX12_cell : ByteArray := prog_14_method_13_code
def yX12_cell : MethodName := ⟨RX12, "cell", "(III)I"⟩
abbrev cX12_holder : ByteArray := prog_14_method_14_code
def yX12_holder : MethodName := ⟨RX12, "holder", "(II)I"⟩
abbrev cX12_runs : ByteArray := prog_14_method_15_code
def yX12_runs : MethodName := ⟨RX12, "runs", "(II)I"⟩
abbrev cX12_drops : ByteArray := prog_14_method_16_code
def yX12_drops : MethodName := ⟨RX12, "drops", "(II)I"⟩
abbrev cX12_piece : ByteArray := prog_14_method_17_code
def yX12_piece : MethodName := ⟨RX12, "piece", "(III)I"⟩
abbrev cX12_ofPiece : ByteArray := prog_14_method_18_code
def yX12_ofPiece : MethodName := ⟨RX12, "ofPiece", "(II)I"⟩
abbrev cX12_standing : ByteArray := prog_14_method_19_code
def yX12_standing : MethodName := ⟨RX12, "standing", "(I)I"⟩
abbrev cX12_owed : ByteArray := prog_14_method_20_code
def yX12_owed : MethodName := ⟨RX12, "owed", "(I)I"⟩
abbrev cX12_ofHolder : ByteArray := prog_14_method_21_code
def yX12_ofHolder : MethodName := ⟨RX12, "ofHolder", "(II)I"⟩
abbrev cX12_dueOn : ByteArray := prog_14_method_22_code
def yX12_dueOn : MethodName := ⟨RX12, "dueOn", "(II)I"⟩
abbrev cX12_ofGame : ByteArray := prog_14_method_23_code
def yX12_ofGame : MethodName := ⟨RX12, "ofGame", "(II)I"⟩
abbrev cX12_feed : ByteArray := prog_14_method_24_code
def yX12_feed : MethodName := ⟨RX12, "feed", "(II)I"⟩
abbrev cX12_byteAt : ByteArray := prog_14_method_25_code
def yX12_byteAt : MethodName := ⟨RX12, "byteAt", "()I"⟩
abbrev cX12_wrong : ByteArray := prog_14_method_26_code
def yX12_wrong : MethodName := ⟨RX12, "wrong", "()I"⟩
abbrev cX12_takes : ByteArray := prog_14_method_27_code
def yX12_takes : MethodName := ⟨RX12, "takes", "(I)Z"⟩
abbrev cX12_either : ByteArray := prog_14_method_28_code
def yX12_either : MethodName := ⟨RX12, "either", "()I"⟩
abbrev cX12_both : ByteArray := prog_14_method_29_code
def yX12_both : MethodName := ⟨RX12, "both", "()I"⟩
abbrev cX12_compared : ByteArray := prog_14_method_30_code
def yX12_compared : MethodName := ⟨RX12, "compared", "()I"⟩
abbrev cX12_sums : ByteArray := prog_14_method_31_code
def yX12_sums : MethodName := ⟨RX12, "sums", "()I"⟩
abbrev cX12_product : ByteArray := prog_14_method_32_code
def yX12_product : MethodName := ⟨RX12, "product", "()I"⟩
abbrev cX12_nameOf : ByteArray := prog_14_method_33_code
def yX12_nameOf : MethodName := ⟨RX12, "nameOf", "(I)I"⟩
abbrev cX12_one : ByteArray := prog_14_method_34_code
def yX12_one : MethodName := ⟨RX12, "one", "()I"⟩
abbrev cX12_workOut : ByteArray := prog_14_method_35_code
def yX12_workOut : MethodName := ⟨RX12, "workOut", "(II)I"⟩
abbrev cX12_isWhat : ByteArray := prog_14_method_36_code
def yX12_isWhat : MethodName := ⟨RX12, "isWhat", "(I)Z"⟩
abbrev cX12_isTurn : ByteArray := prog_14_method_37_code
def yX12_isTurn : MethodName := ⟨RX12, "isTurn", "(I)Z"⟩
abbrev cX12_rule : ByteArray := prog_14_method_38_code
def yX12_rule : MethodName := ⟨RX12, "rule", "(II)I"⟩
abbrev cX12_ruleFor : ByteArray := prog_14_method_39_code
def yX12_ruleFor : MethodName := ⟨RX12, "ruleFor", "(III)I"⟩
abbrev cX12_inForce : ByteArray := prog_14_method_40_code
def yX12_inForce : MethodName := ⟨RX12, "inForce", "(III)I"⟩
abbrev cX12_gives : ByteArray := prog_14_method_41_code
def yX12_gives : MethodName := ⟨RX12, "gives", "(IIIII)I"⟩
abbrev cX12_held : ByteArray := prog_14_method_42_code
def yX12_held : MethodName := ⟨RX12, "held", "(II)I"⟩
abbrev cX12_noNames : ByteArray := prog_14_method_43_code
def yX12_noNames : MethodName := ⟨RX12, "noNames", "(I)V"⟩
abbrev cX12_nameOrder : ByteArray := prog_14_method_44_code
def yX12_nameOrder : MethodName := ⟨RX12, "nameOrder", "(IIII)V"⟩
abbrev cX12_sightOf : ByteArray := prog_14_method_45_code
def yX12_sightOf : MethodName := ⟨RX12, "sightOf", "(II)I"⟩
abbrev cX12_feeOf : ByteArray := prog_14_method_46_code
def yX12_feeOf : MethodName := ⟨RX12, "feeOf", "(III)I"⟩
abbrev cX12_says : ByteArray := prog_14_method_47_code
def yX12_says : MethodName := ⟨RX12, "says", "(II)I"⟩
abbrev cX12_drawnFor : ByteArray := prog_14_method_48_code
def yX12_drawnFor : MethodName := ⟨RX12, "drawnFor", "(II)I"⟩
abbrev cX12_drawn : ByteArray := prog_14_method_49_code
def yX12_drawn : MethodName := ⟨RX12, "drawn", "(II)I"⟩
abbrev cX12_card : ByteArray := prog_14_method_50_code
def yX12_card : MethodName := ⟨RX12, "card", "(III)I"⟩
abbrev cX12_isCard : ByteArray := prog_14_method_51_code
def yX12_isCard : MethodName := ⟨RX12, "isCard", "(I)Z"⟩
abbrev cX12_isLate : ByteArray := prog_14_method_52_code
def yX12_isLate : MethodName := ⟨RX12, "isLate", "(I)Z"⟩
abbrev cX12_counts : ByteArray := prog_14_method_53_code
def yX12_counts : MethodName := ⟨RX12, "counts", "(I)Z"⟩
abbrev cX12_ofCard : ByteArray := prog_14_method_54_code
def yX12_ofCard : MethodName := ⟨RX12, "ofCard", "(II)I"⟩
abbrev cX12_add : ByteArray := prog_14_method_55_code
def yX12_add : MethodName := ⟨RX12, "add", "(IIIII)I"⟩
abbrev cX12_isSaid : ByteArray := prog_14_method_56_code
def yX12_isSaid : MethodName := ⟨RX12, "isSaid", "(IIII)Z"⟩
abbrev cX12_order : ByteArray := prog_14_method_57_code
def yX12_order : MethodName := ⟨RX12, "order", "(IIII)I"⟩
abbrev cX12_isOrder : ByteArray := prog_14_method_58_code
def yX12_isOrder : MethodName := ⟨RX12, "isOrder", "(I)Z"⟩
abbrev cX12_turn : ByteArray := prog_14_method_59_code
def yX12_turn : MethodName := ⟨RX12, "turn", "(III)I"⟩
abbrev cX12_ofOrder : ByteArray := prog_14_method_60_code
def yX12_ofOrder : MethodName := ⟨RX12, "ofOrder", "(II)I"⟩
abbrev cX12_read : ByteArray := prog_14_method_61_code
def yX12_read : MethodName := ⟨RX12, "read", "(IIII)I"⟩
abbrev cX12_isBeside : ByteArray := prog_14_method_62_code
def yX12_isBeside : MethodName := ⟨RX12, "isBeside", "(II)Z"⟩
abbrev cX12_canBe : ByteArray := prog_14_method_63_code
def yX12_canBe : MethodName := ⟨RX12, "canBe", "(III)Z"⟩
abbrev cX12_mayBe : ByteArray := prog_14_method_64_code
def yX12_mayBe : MethodName := ⟨RX12, "mayBe", "(IIIII)Z"⟩
abbrev cX12_isFor : ByteArray := prog_14_method_65_code
def yX12_isFor : MethodName := ⟨RX12, "isFor", "(II)Z"⟩
abbrev cX12_isOrderly : ByteArray := prog_14_method_66_code
def yX12_isOrderly : MethodName := ⟨RX12, "isOrderly", "(III)Z"⟩
abbrev cX12_orderFor : ByteArray := prog_14_method_67_code
def yX12_orderFor : MethodName := ⟨RX12, "orderFor", "(III)I"⟩
abbrev cX12_orderOf : ByteArray := prog_14_method_68_code
def yX12_orderOf : MethodName := ⟨RX12, "orderOf", "(I)I"⟩
abbrev cX12_isIn : ByteArray := prog_14_method_69_code
def yX12_isIn : MethodName := ⟨RX12, "isIn", "(II)Z"⟩
abbrev cX12_findOrders : ByteArray := prog_14_method_70_code
def yX12_findOrders : MethodName := ⟨RX12, "findOrders", "(III)V"⟩
abbrev cX12_isCut : ByteArray := prog_14_method_71_code
def yX12_isCut : MethodName := ⟨RX12, "isCut", "(II)Z"⟩
abbrev cX12_findStrengths : ByteArray := prog_14_method_72_code
def yX12_findStrengths : MethodName := ⟨RX12, "findStrengths", "(III)V"⟩
abbrev cX12_moves : ByteArray := prog_14_method_73_code
def yX12_moves : MethodName := ⟨RX12, "moves", "(II)Z"⟩
abbrev cX12_findFailed : ByteArray := prog_14_method_74_code
def yX12_findFailed : MethodName := ⟨RX12, "findFailed", "(I)V"⟩
abbrev cX12_goThrough : ByteArray := prog_14_method_75_code
def yX12_goThrough : MethodName := ⟨RX12, "goThrough", "(III)V"⟩
abbrev cX12_doTurn : ByteArray := prog_14_method_76_code
def yX12_doTurn : MethodName := ⟨RX12, "doTurn", "(II)V"⟩
abbrev cX12_done : ByteArray := prog_14_method_77_code
def yX12_done : MethodName := ⟨RX12, "done", "(I)I"⟩
abbrev cX12_again : ByteArray := prog_14_method_78_code
def yX12_again : MethodName := ⟨RX12, "again", "(II)I"⟩
abbrev cX12_lastCell : ByteArray := prog_14_method_79_code
def yX12_lastCell : MethodName := ⟨RX12, "lastCell", "(II)I"⟩
abbrev cX12_was : ByteArray := prog_14_method_80_code
def yX12_was : MethodName := ⟨RX12, "was", "(II)I"⟩
abbrev cX12_seesIn : ByteArray := prog_14_method_81_code
def yX12_seesIn : MethodName := ⟨RX12, "seesIn", "(II)Z"⟩
abbrev cX12_sees : ByteArray := prog_14_method_82_code
def yX12_sees : MethodName := ⟨RX12, "sees", "(II)I"⟩
abbrev cX12_alike : ByteArray := prog_14_method_83_code
def yX12_alike : MethodName := ⟨RX12, "alike", "(II)I"⟩
abbrev cX12_way : ByteArray := prog_14_method_84_code
def yX12_way : MethodName := ⟨RX12, "way", "(III)I"⟩
abbrev cX12_coinsBy : ByteArray := prog_14_method_85_code
def yX12_coinsBy : MethodName := ⟨RX12, "coinsBy", "(I)I"⟩
abbrev cX12_isRow : ByteArray := prog_14_method_86_code
def yX12_isRow : MethodName := ⟨RX12, "isRow", "(I)Z"⟩
abbrev cX12_noRow : ByteArray := prog_14_method_87_code
def yX12_noRow : MethodName := ⟨RX12, "noRow", "()Z"⟩
abbrev cX12_best : ByteArray := prog_14_method_88_code
def yX12_best : MethodName := ⟨RX12, "best", "()I"⟩
abbrev cX12_bestWay : ByteArray := prog_14_method_89_code
def yX12_bestWay : MethodName := ⟨RX12, "bestWay", "(I)I"⟩
abbrev cX12_judge : ByteArray := prog_14_method_90_code
def yX12_judge : MethodName := ⟨RX12, "judge", "(I)I"⟩
abbrev cX12_pay : ByteArray := prog_14_method_91_code
def yX12_pay : MethodName := ⟨RX12, "pay", "(II)I"⟩
abbrev cX12_bar : ByteArray := prog_14_method_92_code
def yX12_bar : MethodName := ⟨RX12, "bar", "(I)I"⟩
abbrev cX12_above : ByteArray := prog_14_method_93_code
def yX12_above : MethodName := ⟨RX12, "above", "(I)I"⟩
abbrev cX12_ranBody : ByteArray := prog_14_method_94_code
def yX12_ranBody : MethodName := ⟨RX12, "ranBody", "(I)V"⟩
abbrev cX12_means : ByteArray := prog_14_method_95_code
def yX12_means : MethodName := ⟨RX12, "means", "(II)I"⟩
abbrev cX12_clashes : ByteArray := prog_14_method_96_code
def yX12_clashes : MethodName := ⟨RX12, "clashes", "(II)I"⟩
abbrev cX12_hides : ByteArray := prog_14_method_97_code
def yX12_hides : MethodName := ⟨RX12, "hides", "(II)I"⟩
abbrev cX12_endsOf : ByteArray := prog_14_method_98_code
def yX12_endsOf : MethodName := ⟨RX12, "endsOf", "(II)I"⟩
abbrev cX12_act : ByteArray := prog_14_method_99_code
def yX12_act : MethodName := ⟨RX12, "act", "(III)I"⟩
abbrev cX12_trace : ByteArray := prog_14_method_100_code
def yX12_trace : MethodName := ⟨RX12, "trace", "(I)I"⟩
abbrev cX12_isShelf : ByteArray := prog_14_method_101_code
def yX12_isShelf : MethodName := ⟨RX12, "isShelf", "(I)Z"⟩
abbrev cX12_keep : ByteArray := prog_14_method_102_code
def yX12_keep : MethodName := ⟨RX12, "keep", "(II)I"⟩
abbrev cX12_row : ByteArray := prog_14_method_103_code
def yX12_row : MethodName := ⟨RX12, "row", "(III)I"⟩
abbrev cX12_refusal : ByteArray := prog_14_method_104_code
def yX12_refusal : MethodName := ⟨RX12, "refusal", "(II)I"⟩
abbrev cX12_asSort : ByteArray := prog_14_method_105_code
def yX12_asSort : MethodName := ⟨RX12, "asSort", "(IJ)J"⟩
abbrev cX12_put : ByteArray := prog_14_method_106_code
def yX12_put : MethodName := ⟨RX12, "put", "(IIJ)I"⟩
abbrev cX12_element : ByteArray := prog_14_method_107_code
def yX12_element : MethodName := ⟨RX12, "element", "(II)J"⟩
abbrev cX12_shift : ByteArray := prog_14_method_108_code
def yX12_shift : MethodName := ⟨RX12, "shift", "(IIIII)I"⟩
abbrev cX12_taken : ByteArray := prog_14_method_109_code
def yX12_taken : MethodName := ⟨RX12, "taken", "(II)I"⟩
abbrev cX12_check : ByteArray := prog_14_method_110_code
def yX12_check : MethodName := ⟨RX12, "check", "(I)I"⟩
abbrev cX12_count : ByteArray := prog_14_method_111_code
def yX12_count : MethodName := ⟨RX12, "count", "(I)I"⟩
def RJ11 : String := "java/lang/Character"
def TJ11 : u_T := fun k => match k with
  | _ => ("", "", "", false)
def tyJ11 : Nat → FieldType := fun k => match k with
  | _ => .int
abbrev wsJ110 : List Cond := u_ws RJ11 TJ11 0
theorem nmJ11 : ∀ a, a < 0 → ∀ b, b < 0 → a ≠ b → (TJ11 a).2.1 ≠ (TJ11 b).2.1 := by decide +kernel
theorem tyJ11_ok : ∀ k, k < 0 → parseFieldDescriptor (TJ11 k).2.2.1 = some (tyJ11 k) := by decide +kernel
abbrev cJ11_isValidCodePoint_9a6ad : ByteArray := prog_15_method_11_code
def yJ11_isValidCodePoint_9a6ad : MethodName := ⟨RJ11, "isValidCodePoint", "(I)Z"⟩
abbrev cJ11_highSurrogate_5068e : ByteArray := prog_15_method_28_code
def yJ11_highSurrogate_5068e : MethodName := ⟨RJ11, "highSurrogate", "(I)C"⟩
abbrev cJ11_lowSurrogate_5068e : ByteArray := prog_15_method_29_code
def yJ11_lowSurrogate_5068e : MethodName := ⟨RJ11, "lowSurrogate", "(I)C"⟩
def RJ6 : String := "java/lang/Integer"
def TJ6 : u_T := fun k => match k with
  | _ => ("", "", "", false)
def tyJ6 : Nat → FieldType := fun k => match k with
  | _ => .int
abbrev wsJ60 : List Cond := u_ws RJ6 TJ6 0
theorem nmJ6 : ∀ a, a < 0 → ∀ b, b < 0 → a ≠ b → (TJ6 a).2.1 ≠ (TJ6 b).2.1 := by decide +kernel
theorem tyJ6_ok : ∀ k, k < 0 → parseFieldDescriptor (TJ6 k).2.2.1 = some (tyJ6 k) := by decide +kernel
abbrev cJ6_compare_7cf53 : ByteArray := prog_16_method_40_code
def yJ6_compare_7cf53 : MethodName := ⟨RJ6, "compare", "(II)I"⟩
def RJ13 : String := "java/lang/Long"
def TJ13 : u_T := fun k => match k with
  | _ => ("", "", "", false)
def tyJ13 : Nat → FieldType := fun k => match k with
  | _ => .int
abbrev wsJ130 : List Cond := u_ws RJ13 TJ13 0
theorem nmJ13 : ∀ a, a < 0 → ∀ b, b < 0 → a ≠ b → (TJ13 a).2.1 ≠ (TJ13 b).2.1 := by decide +kernel
theorem tyJ13_ok : ∀ k, k < 0 → parseFieldDescriptor (TJ13 k).2.2.1 = some (tyJ13 k) := by decide +kernel
abbrev cJ13_bitCount_95d88 : ByteArray := prog_17_method_50_code
def yJ13_bitCount_95d88 : MethodName := ⟨RJ13, "bitCount", "(J)I"⟩
def RJ9 : String := "java/lang/Math"
def TJ9 : u_T := fun k => match k with
  | _ => ("", "", "", false)
def tyJ9 : Nat → FieldType := fun k => match k with
  | _ => .int
abbrev wsJ90 : List Cond := u_ws RJ9 TJ9 0
theorem nmJ9 : ∀ a, a < 0 → ∀ b, b < 0 → a ≠ b → (TJ9 a).2.1 ≠ (TJ9 b).2.1 := by decide +kernel
theorem tyJ9_ok : ∀ k, k < 0 → parseFieldDescriptor (TJ9 k).2.2.1 = some (tyJ9 k) := by decide +kernel
abbrev cJ9_abs_0f7a4 : ByteArray := prog_18_method_59_code
def yJ9_abs_0f7a4 : MethodName := ⟨RJ9, "abs", "(I)I"⟩
abbrev cJ9_max_7cf53 : ByteArray := prog_18_method_65_code
def yJ9_max_7cf53 : MethodName := ⟨RJ9, "max", "(II)I"⟩
abbrev cJ9_min_7cf53 : ByteArray := prog_18_method_69_code
def yJ9_min_7cf53 : MethodName := ⟨RJ9, "min", "(II)I"⟩
def RJ0 : String := "java/lang/String"
def TJ0 : u_T := fun k => match k with
  | _ => ("", "", "", false)
def tyJ0 : Nat → FieldType := fun k => match k with
  | _ => .int
abbrev wsJ00 : List Cond := u_ws RJ0 TJ0 0
theorem nmJ0 : ∀ a, a < 0 → ∀ b, b < 0 → a ≠ b → (TJ0 a).2.1 ≠ (TJ0 b).2.1 := by decide +kernel
theorem tyJ0_ok : ∀ k, k < 0 → parseFieldDescriptor (TJ0 k).2.2.1 = some (tyJ0 k) := by decide +kernel
abbrev cJ0_length_8abf5 : ByteArray := prog_19_method_54_code
def yJ0_length_8abf5 : MethodName := ⟨RJ0, "length", "()I"⟩
abbrev cJ0_indexOf_0f7a4 : ByteArray := prog_19_method_79_code
def yJ0_indexOf_0f7a4 : MethodName := ⟨RJ0, "indexOf", "(I)I"⟩
abbrev cJ0_indexOf_7cf53 : ByteArray := prog_19_method_80_code
def yJ0_indexOf_7cf53 : MethodName := ⟨RJ0, "indexOf", "(II)I"⟩
abbrev cJ0_coder_7d493 : ByteArray := prog_19_method_152_code
def yJ0_coder_7d493 : MethodName := ⟨RJ0, "coder", "()B"⟩
abbrev cJ0_isLatin1_aae02 : ByteArray := prog_19_method_154_code
def yJ0_isLatin1_aae02 : MethodName := ⟨RJ0, "isLatin1", "()Z"⟩
abbrev cJ0_checkBoundsBeginEnd_23922 : ByteArray := prog_19_method_158_code
def yJ0_checkBoundsBeginEnd_23922 : MethodName := ⟨RJ0, "checkBoundsBeginEnd", "(III)V"⟩
def RJ1 : String := "java/lang/StringLatin1"
def TJ1 : u_T := fun k => match k with
  | _ => ("", "", "", false)
def tyJ1 : Nat → FieldType := fun k => match k with
  | _ => .int
abbrev wsJ10 : List Cond := u_ws RJ1 TJ1 0
theorem nmJ1 : ∀ a, a < 0 → ∀ b, b < 0 → a ≠ b → (TJ1 a).2.1 ≠ (TJ1 b).2.1 := by decide +kernel
theorem tyJ1_ok : ∀ k, k < 0 → parseFieldDescriptor (TJ1 k).2.2.1 = some (tyJ1 k) := by decide +kernel
abbrev cJ1_canEncode_9a6ad : ByteArray := prog_20_method_4_code
def yJ1_canEncode_9a6ad : MethodName := ⟨RJ1, "canEncode", "(I)Z"⟩
abbrev cJ1_indexOf_4cfef : ByteArray := prog_20_method_22_code
def yJ1_indexOf_4cfef : MethodName := ⟨RJ1, "indexOf", "([BIII)I"⟩
abbrev cJ1_indexOfChar_4cfef : ByteArray := prog_20_method_23_code
def yJ1_indexOfChar_4cfef : MethodName := ⟨RJ1, "indexOfChar", "([BIII)I"⟩
def RJ2 : String := "java/lang/StringUTF16"
def TJ2 : u_T := fun k => match k with
  | _ => ("", "", "", false)
def tyJ2 : Nat → FieldType := fun k => match k with
  | _ => .int
abbrev wsJ20 : List Cond := u_ws RJ2 TJ2 0
theorem nmJ2 : ∀ a, a < 0 → ∀ b, b < 0 → a ≠ b → (TJ2 a).2.1 ≠ (TJ2 b).2.1 := by decide +kernel
theorem tyJ2_ok : ∀ k, k < 0 → parseFieldDescriptor (TJ2 k).2.2.1 = some (tyJ2 k) := by decide +kernel
abbrev cJ2_getChar_3b067 : ByteArray := prog_21_method_5_code
def yJ2_getChar_3b067 : MethodName := ⟨RJ2, "getChar", "([BI)C"⟩
abbrev cJ2_length_9d52b : ByteArray := prog_21_method_6_code
def yJ2_length_9d52b : MethodName := ⟨RJ2, "length", "([B)I"⟩
abbrev cJ2_indexOf_4cfef : ByteArray := prog_21_method_40_code
def yJ2_indexOf_4cfef : MethodName := ⟨RJ2, "indexOf", "([BIII)I"⟩
abbrev cJ2_indexOfChar_4cfef : ByteArray := prog_21_method_47_code
def yJ2_indexOfChar_4cfef : MethodName := ⟨RJ2, "indexOfChar", "([BIII)I"⟩
abbrev cJ2_indexOfCharUnsafe_4cfef : ByteArray := prog_21_method_48_code
def yJ2_indexOfCharUnsafe_4cfef : MethodName := ⟨RJ2, "indexOfCharUnsafe", "([BIII)I"⟩
abbrev cJ2_indexOfSupplementary_4cfef : ByteArray := prog_21_method_49_code
def yJ2_indexOfSupplementary_4cfef : MethodName := ⟨RJ2, "indexOfSupplementary", "([BIII)I"⟩
abbrev cJ2_checkBoundsBeginEnd_d044e : ByteArray := prog_21_method_93_code
def yJ2_checkBoundsBeginEnd_d044e : MethodName := ⟨RJ2, "checkBoundsBeginEnd", "(II[B)V"⟩
def RJ10 : String := "java/lang/System"
def TJ10 : u_T := fun k => match k with
  | _ => ("", "", "", false)
def tyJ10 : Nat → FieldType := fun k => match k with
  | _ => .int
abbrev wsJ100 : List Cond := u_ws RJ10 TJ10 0
theorem nmJ10 : ∀ a, a < 0 → ∀ b, b < 0 → a ≠ b → (TJ10 a).2.1 ≠ (TJ10 b).2.1 := by decide +kernel
theorem tyJ10_ok : ∀ k, k < 0 → parseFieldDescriptor (TJ10 k).2.2.1 = some (tyJ10 k) := by decide +kernel
def RJ3 : String := "jdk/internal/util/Preconditions"
def TJ3 : u_T := fun k => match k with
  | _ => ("", "", "", false)
def tyJ3 : Nat → FieldType := fun k => match k with
  | _ => .int
abbrev wsJ30 : List Cond := u_ws RJ3 TJ3 0
theorem nmJ3 : ∀ a, a < 0 → ∀ b, b < 0 → a ≠ b → (TJ3 a).2.1 ≠ (TJ3 b).2.1 := by decide +kernel
theorem tyJ3_ok : ∀ k, k < 0 → parseFieldDescriptor (TJ3 k).2.2.1 = some (tyJ3 k) := by decide +kernel
abbrev cJ3_checkFromToIndex_8c36e : ByteArray := prog_23_method_12_code
def yJ3_checkFromToIndex_8c36e : MethodName := ⟨RJ3, "checkFromToIndex", "(IIILjava/util/function/BiFunction;)I"⟩
def RL : String := "PostTurnsLaw"
abbrev cL_law : ByteArray := code
def yL_law : MethodName := ⟨RL, "law", "([I)Z"⟩
abbrev vwCl : List vw_C := [(RX0, TX0, 6), (RX1, TX1, 6), (RX2, TX2, 7), (RX3, TX3, 7), (RX4, TX4, 14), (RX5, TX5, 7), (RX6, TX6, 11), (RX7, TX7, 7), (RX8, TX8, 4), (RX9, TX9, 3), (RX10, TX10, 10), (RX11, TX11, 19), (RX12, TX12, 86)]
