section
-- ===== PART A: goes FIRST, ahead of the names: the tables' words, and 'selects' of the private methods out of them =====
/-- a private method of a class that the tables say can be made, by its rows of tables_1 -/
def lw_okq (q : MethodName × Nat) : Prop := (q.1.cls ≠ "java/lang/invoke/MethodHandle" ∧ q.1.cls ≠ "java/lang/invoke/VarHandle") ∧ Cond.instantiable q.1.cls q.2 ∈ tables_1 ∧ Cond.privateMethod q.1 ∈ tables_1 ∧ Cond.instanceMethod q.1 ∈ tables_1
theorem lw_p0 : lw_okq (⟨"PricedBases$Valuation", "markFree", "()V"⟩, 6) := ⟨⟨by decide +kernel, by decide +kernel⟩, List.mem_of_getElem? (i := 37) (by decide +kernel), List.mem_of_getElem? (i := 106) (by decide +kernel), List.mem_of_getElem? (i := 107) (by decide +kernel)⟩
theorem lw_p1 : lw_okq (⟨"PricedBases$Valuation", "rankByParts", "(I)I"⟩, 6) := ⟨⟨by decide +kernel, by decide +kernel⟩, List.mem_of_getElem? (i := 37) (by decide +kernel), List.mem_of_getElem? (i := 119) (by decide +kernel), List.mem_of_getElem? (i := 120) (by decide +kernel)⟩
theorem lw_p2 : lw_okq (⟨"PricedBases$Law", "meetsFor", "([IIIII)I"⟩, 4) := ⟨⟨by decide +kernel, by decide +kernel⟩, List.mem_of_getElem? (i := 200) (by decide +kernel), List.mem_of_getElem? (i := 403) (by decide +kernel), List.mem_of_getElem? (i := 404) (by decide +kernel)⟩
theorem lw_p3 : lw_okq (⟨"PricedBases$Sums", "bestBeside", "(LPricedBases$Valuation;I)I"⟩, 4) := ⟨⟨by decide +kernel, by decide +kernel⟩, List.mem_of_getElem? (i := 222) (by decide +kernel), List.mem_of_getElem? (i := 494) (by decide +kernel), List.mem_of_getElem? (i := 495) (by decide +kernel)⟩
theorem lw_p4 : lw_okq (⟨"PricedBases$Space", "failsAt", "(LPricedBases$Valuation;I)Z"⟩, 2) := ⟨⟨by decide +kernel, by decide +kernel⟩, List.mem_of_getElem? (i := 245) (by decide +kernel), List.mem_of_getElem? (i := 548) (by decide +kernel), List.mem_of_getElem? (i := 549) (by decide +kernel)⟩
theorem lw_p5 : lw_okq (⟨"PricedBases$Space", "takeAround", "(LPricedBases$Valuation;I)V"⟩, 2) := ⟨⟨by decide +kernel, by decide +kernel⟩, List.mem_of_getElem? (i := 245) (by decide +kernel), List.mem_of_getElem? (i := 578) (by decide +kernel), List.mem_of_getElem? (i := 579) (by decide +kernel)⟩
theorem lw_p6 : lw_okq (⟨"PricedBases", "tapeBytes", "(I)V"⟩, 15) := ⟨⟨by decide +kernel, by decide +kernel⟩, List.mem_of_getElem? (i := 22) (by decide +kernel), List.mem_of_getElem? (i := 618) (by decide +kernel), List.mem_of_getElem? (i := 619) (by decide +kernel)⟩
theorem lw_p7 : lw_okq (⟨"PricedBases$Clauses", "readClause", "(I)V"⟩, 11) := ⟨⟨by decide +kernel, by decide +kernel⟩, List.mem_of_getElem? (i := 142) (by decide +kernel), List.mem_of_getElem? (i := 631) (by decide +kernel), List.mem_of_getElem? (i := 632) (by decide +kernel)⟩
theorem lw_p8 : lw_okq (⟨"PricedBases$Clauses", "readWord", "()I"⟩, 11) := ⟨⟨by decide +kernel, by decide +kernel⟩, List.mem_of_getElem? (i := 142) (by decide +kernel), List.mem_of_getElem? (i := 635) (by decide +kernel), List.mem_of_getElem? (i := 636) (by decide +kernel)⟩
theorem lw_p9 : lw_okq (⟨"PricedBases$Clauses", "sign", "()I"⟩, 11) := ⟨⟨by decide +kernel, by decide +kernel⟩, List.mem_of_getElem? (i := 142) (by decide +kernel), List.mem_of_getElem? (i := 639) (by decide +kernel), List.mem_of_getElem? (i := 640) (by decide +kernel)⟩
theorem lw_p10 : lw_okq (⟨"PricedBases$Clauses", "isWord", "(Ljava/lang/String;I)Z"⟩, 11) := ⟨⟨by decide +kernel, by decide +kernel⟩, List.mem_of_getElem? (i := 142) (by decide +kernel), List.mem_of_getElem? (i := 661) (by decide +kernel), List.mem_of_getElem? (i := 662) (by decide +kernel)⟩
theorem lw_p11 : lw_okq (⟨"PricedBases$Clauses", "refuse", "(II)V"⟩, 11) := ⟨⟨by decide +kernel, by decide +kernel⟩, List.mem_of_getElem? (i := 142) (by decide +kernel), List.mem_of_getElem? (i := 713) (by decide +kernel), List.mem_of_getElem? (i := 714) (by decide +kernel)⟩
theorem lw_p12 : lw_okq (⟨"PricedBases$Clauses", "readHead", "(I)V"⟩, 11) := ⟨⟨by decide +kernel, by decide +kernel⟩, List.mem_of_getElem? (i := 142) (by decide +kernel), List.mem_of_getElem? (i := 717) (by decide +kernel), List.mem_of_getElem? (i := 718) (by decide +kernel)⟩
theorem lw_p13 : lw_okq (⟨"PricedBases$Clauses", "readNumber", "(II)I"⟩, 11) := ⟨⟨by decide +kernel, by decide +kernel⟩, List.mem_of_getElem? (i := 142) (by decide +kernel), List.mem_of_getElem? (i := 721) (by decide +kernel), List.mem_of_getElem? (i := 722) (by decide +kernel)⟩
theorem lw_p14 : lw_okq (⟨"PricedBases$Clauses", "readDigits", "()I"⟩, 11) := ⟨⟨by decide +kernel, by decide +kernel⟩, List.mem_of_getElem? (i := 142) (by decide +kernel), List.mem_of_getElem? (i := 725) (by decide +kernel), List.mem_of_getElem? (i := 726) (by decide +kernel)⟩
theorem lw_p15 : lw_okq (⟨"PricedBases$Clauses", "readWeights", "(I)V"⟩, 11) := ⟨⟨by decide +kernel, by decide +kernel⟩, List.mem_of_getElem? (i := 142) (by decide +kernel), List.mem_of_getElem? (i := 736) (by decide +kernel), List.mem_of_getElem? (i := 737) (by decide +kernel)⟩
def lw_privs_1 : List (MethodName × Nat) := [(⟨"PricedBases$Valuation", "markFree", "()V"⟩, 6), (⟨"PricedBases$Valuation", "rankByParts", "(I)I"⟩, 6), (⟨"PricedBases$Law", "meetsFor", "([IIIII)I"⟩, 4), (⟨"PricedBases$Sums", "bestBeside", "(LPricedBases$Valuation;I)I"⟩, 4), (⟨"PricedBases$Space", "failsAt", "(LPricedBases$Valuation;I)Z"⟩, 2), (⟨"PricedBases$Space", "takeAround", "(LPricedBases$Valuation;I)V"⟩, 2), (⟨"PricedBases", "tapeBytes", "(I)V"⟩, 15), (⟨"PricedBases$Clauses", "readClause", "(I)V"⟩, 11), (⟨"PricedBases$Clauses", "readWord", "()I"⟩, 11), (⟨"PricedBases$Clauses", "sign", "()I"⟩, 11), (⟨"PricedBases$Clauses", "isWord", "(Ljava/lang/String;I)Z"⟩, 11), (⟨"PricedBases$Clauses", "refuse", "(II)V"⟩, 11), (⟨"PricedBases$Clauses", "readHead", "(I)V"⟩, 11), (⟨"PricedBases$Clauses", "readNumber", "(II)I"⟩, 11), (⟨"PricedBases$Clauses", "readDigits", "()I"⟩, 11), (⟨"PricedBases$Clauses", "readWeights", "(I)V"⟩, 11)]
theorem lw_r1 : ∀ q ∈ lw_privs_1, lw_okq q := List.forall_mem_cons.mpr ⟨lw_p0, List.forall_mem_cons.mpr ⟨lw_p1, List.forall_mem_cons.mpr ⟨lw_p2, List.forall_mem_cons.mpr ⟨lw_p3, List.forall_mem_cons.mpr ⟨lw_p4, List.forall_mem_cons.mpr ⟨lw_p5, List.forall_mem_cons.mpr ⟨lw_p6, List.forall_mem_cons.mpr ⟨lw_p7, List.forall_mem_cons.mpr ⟨lw_p8, List.forall_mem_cons.mpr ⟨lw_p9, List.forall_mem_cons.mpr ⟨lw_p10, List.forall_mem_cons.mpr ⟨lw_p11, List.forall_mem_cons.mpr ⟨lw_p12, List.forall_mem_cons.mpr ⟨lw_p13, List.forall_mem_cons.mpr ⟨lw_p14, List.forall_mem_cons.mpr ⟨lw_p15, fun _ h => absurd h List.not_mem_nil⟩⟩⟩⟩⟩⟩⟩⟩⟩⟩⟩⟩⟩⟩⟩⟩
theorem lw_p16 : lw_okq (⟨"PricedBases$Clauses", "readEdges", "(II)V"⟩, 11) := ⟨⟨by decide +kernel, by decide +kernel⟩, List.mem_of_getElem? (i := 142) (by decide +kernel), List.mem_of_getElem? (i := 740) (by decide +kernel), List.mem_of_getElem? (i := 741) (by decide +kernel)⟩
theorem lw_p17 : lw_okq (⟨"PricedBases$Clauses", "readSets", "(II)V"⟩, 11) := ⟨⟨by decide +kernel, by decide +kernel⟩, List.mem_of_getElem? (i := 142) (by decide +kernel), List.mem_of_getElem? (i := 744) (by decide +kernel), List.mem_of_getElem? (i := 745) (by decide +kernel)⟩
theorem lw_p18 : lw_okq (⟨"PricedBases$Clauses", "wasTold", "(II)Z"⟩, 11) := ⟨⟨by decide +kernel, by decide +kernel⟩, List.mem_of_getElem? (i := 142) (by decide +kernel), List.mem_of_getElem? (i := 749) (by decide +kernel), List.mem_of_getElem? (i := 750) (by decide +kernel)⟩
theorem lw_p19 : lw_okq (⟨"PricedBases", "isDone", "(I)Z"⟩, 15) := ⟨⟨by decide +kernel, by decide +kernel⟩, List.mem_of_getElem? (i := 22) (by decide +kernel), List.mem_of_getElem? (i := 755) (by decide +kernel), List.mem_of_getElem? (i := 756) (by decide +kernel)⟩
theorem lw_p20 : lw_okq (⟨"PricedBases$Maker", "isTable", "(ILPricedBases$Clauses;I)Z"⟩, 2) := ⟨⟨by decide +kernel, by decide +kernel⟩, List.mem_of_getElem? (i := 184) (by decide +kernel), List.mem_of_getElem? (i := 769) (by decide +kernel), List.mem_of_getElem? (i := 770) (by decide +kernel)⟩
theorem lw_p21 : lw_okq (⟨"PricedBases$Maker", "isOpened", "(II)Z"⟩, 2) := ⟨⟨by decide +kernel, by decide +kernel⟩, List.mem_of_getElem? (i := 184) (by decide +kernel), List.mem_of_getElem? (i := 774) (by decide +kernel), List.mem_of_getElem? (i := 775) (by decide +kernel)⟩
theorem lw_p22 : lw_okq (⟨"PricedBases$Maker", "makeUniform", "()V"⟩, 2) := ⟨⟨by decide +kernel, by decide +kernel⟩, List.mem_of_getElem? (i := 184) (by decide +kernel), List.mem_of_getElem? (i := 779) (by decide +kernel), List.mem_of_getElem? (i := 780) (by decide +kernel)⟩
theorem lw_p23 : lw_okq (⟨"PricedBases$Maker", "makeMatch", "(LPricedBases$Clauses;I)V"⟩, 2) := ⟨⟨by decide +kernel, by decide +kernel⟩, List.mem_of_getElem? (i := 184) (by decide +kernel), List.mem_of_getElem? (i := 786) (by decide +kernel), List.mem_of_getElem? (i := 787) (by decide +kernel)⟩
theorem lw_p24 : lw_okq (⟨"PricedBases$Maker", "bestMatch", "(IILPricedBases$Clauses;I)I"⟩, 2) := ⟨⟨by decide +kernel, by decide +kernel⟩, List.mem_of_getElem? (i := 184) (by decide +kernel), List.mem_of_getElem? (i := 790) (by decide +kernel), List.mem_of_getElem? (i := 791) (by decide +kernel)⟩
theorem lw_p25 : lw_okq (⟨"PricedBases$Maker", "makeGraph", "(LPricedBases$Clauses;I)V"⟩, 2) := ⟨⟨by decide +kernel, by decide +kernel⟩, List.mem_of_getElem? (i := 184) (by decide +kernel), List.mem_of_getElem? (i := 797) (by decide +kernel), List.mem_of_getElem? (i := 798) (by decide +kernel)⟩
theorem lw_p26 : lw_okq (⟨"PricedBases$Maker", "isTree", "(ILPricedBases$Clauses;I)Z"⟩, 2) := ⟨⟨by decide +kernel, by decide +kernel⟩, List.mem_of_getElem? (i := 184) (by decide +kernel), List.mem_of_getElem? (i := 801) (by decide +kernel), List.mem_of_getElem? (i := 802) (by decide +kernel)⟩
theorem lw_p27 : lw_okq (⟨"PricedBases$Maker", "makeTold", "(LPricedBases$Clauses;I)V"⟩, 2) := ⟨⟨by decide +kernel, by decide +kernel⟩, List.mem_of_getElem? (i := 184) (by decide +kernel), List.mem_of_getElem? (i := 805) (by decide +kernel), List.mem_of_getElem? (i := 806) (by decide +kernel)⟩
theorem lw_p28 : lw_okq (⟨"PricedBases$Maker", "isDerived", "(ILPricedBases$Valuation;ILPricedBases$State;)Z"⟩, 2) := ⟨⟨by decide +kernel, by decide +kernel⟩, List.mem_of_getElem? (i := 184) (by decide +kernel), List.mem_of_getElem? (i := 814) (by decide +kernel), List.mem_of_getElem? (i := 815) (by decide +kernel)⟩
theorem lw_p29 : lw_okq (⟨"PricedBases$Maker", "isDual", "(LPricedBases$Valuation;)Z"⟩, 2) := ⟨⟨by decide +kernel, by decide +kernel⟩, List.mem_of_getElem? (i := 184) (by decide +kernel), List.mem_of_getElem? (i := 818) (by decide +kernel), List.mem_of_getElem? (i := 819) (by decide +kernel)⟩
theorem lw_p30 : lw_okq (⟨"PricedBases$Maker", "isLess", "(LPricedBases$Valuation;II)Z"⟩, 2) := ⟨⟨by decide +kernel, by decide +kernel⟩, List.mem_of_getElem? (i := 184) (by decide +kernel), List.mem_of_getElem? (i := 823) (by decide +kernel), List.mem_of_getElem? (i := 824) (by decide +kernel)⟩
theorem lw_p31 : lw_okq (⟨"PricedBases$Maker", "isShifted", "(LPricedBases$Valuation;[I)Z"⟩, 2) := ⟨⟨by decide +kernel, by decide +kernel⟩, List.mem_of_getElem? (i := 184) (by decide +kernel), List.mem_of_getElem? (i := 828) (by decide +kernel), List.mem_of_getElem? (i := 829) (by decide +kernel)⟩
def lw_privs_2 : List (MethodName × Nat) := [(⟨"PricedBases$Clauses", "readEdges", "(II)V"⟩, 11), (⟨"PricedBases$Clauses", "readSets", "(II)V"⟩, 11), (⟨"PricedBases$Clauses", "wasTold", "(II)Z"⟩, 11), (⟨"PricedBases", "isDone", "(I)Z"⟩, 15), (⟨"PricedBases$Maker", "isTable", "(ILPricedBases$Clauses;I)Z"⟩, 2), (⟨"PricedBases$Maker", "isOpened", "(II)Z"⟩, 2), (⟨"PricedBases$Maker", "makeUniform", "()V"⟩, 2), (⟨"PricedBases$Maker", "makeMatch", "(LPricedBases$Clauses;I)V"⟩, 2), (⟨"PricedBases$Maker", "bestMatch", "(IILPricedBases$Clauses;I)I"⟩, 2), (⟨"PricedBases$Maker", "makeGraph", "(LPricedBases$Clauses;I)V"⟩, 2), (⟨"PricedBases$Maker", "isTree", "(ILPricedBases$Clauses;I)Z"⟩, 2), (⟨"PricedBases$Maker", "makeTold", "(LPricedBases$Clauses;I)V"⟩, 2), (⟨"PricedBases$Maker", "isDerived", "(ILPricedBases$Valuation;ILPricedBases$State;)Z"⟩, 2), (⟨"PricedBases$Maker", "isDual", "(LPricedBases$Valuation;)Z"⟩, 2), (⟨"PricedBases$Maker", "isLess", "(LPricedBases$Valuation;II)Z"⟩, 2), (⟨"PricedBases$Maker", "isShifted", "(LPricedBases$Valuation;[I)Z"⟩, 2)]
theorem lw_r2 : ∀ q ∈ lw_privs_2, lw_okq q := List.forall_mem_cons.mpr ⟨lw_p16, List.forall_mem_cons.mpr ⟨lw_p17, List.forall_mem_cons.mpr ⟨lw_p18, List.forall_mem_cons.mpr ⟨lw_p19, List.forall_mem_cons.mpr ⟨lw_p20, List.forall_mem_cons.mpr ⟨lw_p21, List.forall_mem_cons.mpr ⟨lw_p22, List.forall_mem_cons.mpr ⟨lw_p23, List.forall_mem_cons.mpr ⟨lw_p24, List.forall_mem_cons.mpr ⟨lw_p25, List.forall_mem_cons.mpr ⟨lw_p26, List.forall_mem_cons.mpr ⟨lw_p27, List.forall_mem_cons.mpr ⟨lw_p28, List.forall_mem_cons.mpr ⟨lw_p29, List.forall_mem_cons.mpr ⟨lw_p30, List.forall_mem_cons.mpr ⟨lw_p31, fun _ h => absurd h List.not_mem_nil⟩⟩⟩⟩⟩⟩⟩⟩⟩⟩⟩⟩⟩⟩⟩⟩
theorem lw_p32 : lw_okq (⟨"PricedBases$Maker", "isPlus", "(LPricedBases$Valuation;LPricedBases$Valuation;)Z"⟩, 2) := ⟨⟨by decide +kernel, by decide +kernel⟩, List.mem_of_getElem? (i := 184) (by decide +kernel), List.mem_of_getElem? (i := 833) (by decide +kernel), List.mem_of_getElem? (i := 834) (by decide +kernel)⟩
theorem lw_p33 : lw_okq (⟨"PricedBases$Maker", "isCut", "(LPricedBases$Valuation;)Z"⟩, 2) := ⟨⟨by decide +kernel, by decide +kernel⟩, List.mem_of_getElem? (i := 184) (by decide +kernel), List.mem_of_getElem? (i := 837) (by decide +kernel), List.mem_of_getElem? (i := 838) (by decide +kernel)⟩
theorem lw_p34 : lw_okq (⟨"PricedBases$Maker", "offerBeside", "(LPricedBases$Valuation;Z)V"⟩, 2) := ⟨⟨by decide +kernel, by decide +kernel⟩, List.mem_of_getElem? (i := 184) (by decide +kernel), List.mem_of_getElem? (i := 841) (by decide +kernel), List.mem_of_getElem? (i := 842) (by decide +kernel)⟩
theorem lw_p35 : lw_okq (⟨"PricedBases$Maker", "isInitial", "(LPricedBases$Valuation;[I)Z"⟩, 2) := ⟨⟨by decide +kernel, by decide +kernel⟩, List.mem_of_getElem? (i := 184) (by decide +kernel), List.mem_of_getElem? (i := 845) (by decide +kernel), List.mem_of_getElem? (i := 846) (by decide +kernel)⟩
theorem lw_p36 : lw_okq (⟨"PricedBases$Maker", "isRaised", "(LPricedBases$Valuation;)Z"⟩, 2) := ⟨⟨by decide +kernel, by decide +kernel⟩, List.mem_of_getElem? (i := 184) (by decide +kernel), List.mem_of_getElem? (i := 850) (by decide +kernel), List.mem_of_getElem? (i := 851) (by decide +kernel)⟩
theorem lw_p37 : lw_okq (⟨"PricedBases$Maker", "isJoined", "(LPricedBases$Valuation;LPricedBases$Valuation;)Z"⟩, 2) := ⟨⟨by decide +kernel, by decide +kernel⟩, List.mem_of_getElem? (i := 184) (by decide +kernel), List.mem_of_getElem? (i := 854) (by decide +kernel), List.mem_of_getElem? (i := 855) (by decide +kernel)⟩
theorem lw_p38 : lw_okq (⟨"PricedBases$Maker", "isWhole", "()Z"⟩, 2) := ⟨⟨by decide +kernel, by decide +kernel⟩, List.mem_of_getElem? (i := 184) (by decide +kernel), List.mem_of_getElem? (i := 861) (by decide +kernel), List.mem_of_getElem? (i := 862) (by decide +kernel)⟩
def lw_privs_3 : List (MethodName × Nat) := [(⟨"PricedBases$Maker", "isPlus", "(LPricedBases$Valuation;LPricedBases$Valuation;)Z"⟩, 2), (⟨"PricedBases$Maker", "isCut", "(LPricedBases$Valuation;)Z"⟩, 2), (⟨"PricedBases$Maker", "offerBeside", "(LPricedBases$Valuation;Z)V"⟩, 2), (⟨"PricedBases$Maker", "isInitial", "(LPricedBases$Valuation;[I)Z"⟩, 2), (⟨"PricedBases$Maker", "isRaised", "(LPricedBases$Valuation;)Z"⟩, 2), (⟨"PricedBases$Maker", "isJoined", "(LPricedBases$Valuation;LPricedBases$Valuation;)Z"⟩, 2), (⟨"PricedBases$Maker", "isWhole", "()Z"⟩, 2)]
theorem lw_r3 : ∀ q ∈ lw_privs_3, lw_okq q := List.forall_mem_cons.mpr ⟨lw_p32, List.forall_mem_cons.mpr ⟨lw_p33, List.forall_mem_cons.mpr ⟨lw_p34, List.forall_mem_cons.mpr ⟨lw_p35, List.forall_mem_cons.mpr ⟨lw_p36, List.forall_mem_cons.mpr ⟨lw_p37, List.forall_mem_cons.mpr ⟨lw_p38, fun _ h => absurd h List.not_mem_nil⟩⟩⟩⟩⟩⟩⟩
def lw_privs : List (MethodName × Nat) := lw_privs_1 ++ (lw_privs_2 ++ (lw_privs_3))
def lw_tbl : List Cond := k2_sels lw_privs ++ tables_1
theorem lw_privs_ok : ∀ q ∈ lw_privs, lw_okq q := by
  show ∀ q ∈ lw_privs_1 ++ (lw_privs_2 ++ (lw_privs_3)), lw_okq q
  exact List.forall_mem_append.mpr ⟨lw_r1, List.forall_mem_append.mpr ⟨lw_r2, lw_r3⟩⟩
-- ===== end of PART A; then your names; then what follows =====
end
section
/-! The code of each method as a list: where, which instruction, how long; held against the bytes. Printed by wip/p46/gen.py. -/
/-- PricedBases$Clauses.<init>()V -/
def cd_0 : List (Nat × Instr × Nat) := [(0, .aload_n 0, 1), (1, .invokespecial 3, 3), (4, .aload_n 0, 1), (5, .iconst 0, 1), (6, .newarray .int, 2), (8, .putfield 9, 3), (11, .aload_n 0, 1), (12, .bipush 16, 2), (14, .newarray .int, 2), (16, .putfield 15, 3), (19, .aload_n 0, 1), (20, .bipush 17, 2), (22, .newarray .int, 2), (24, .putfield 18, 3), (27, .aload_n 0, 1), (28, .bipush 100, 2), (30, .newarray .int, 2), (32, .putfield 21, 3), (35, .aload_n 0, 1), (36, .sipush 1024, 3), (39, .newarray .byte, 2), (41, .putfield 24, 3), (44, .return_, 1)]
/-- PricedBases$Clauses.read([II)V -/
def cd_1 : List (Nat × Instr × Nat) := [(0, .aload_n 0, 1), (1, .aload_n 1, 1), (2, .putfield 9, 3), (5, .aload_n 0, 1), (6, .iload_n 2, 1), (7, .aload_n 1, 1), (8, .arraylength, 1), (9, .invokestatic 28, 3), (12, .putfield 34, 3), (15, .aload_n 0, 1), (16, .iconst 0, 1), (17, .putfield 38, 3), (20, .aload_n 0, 1), (21, .iconst 0, 1), (22, .putfield 41, 3), (25, .aload_n 0, 1), (26, .iconst 0, 1), (27, .putfield 44, 3), (30, .aload_n 0, 1), (31, .iconst 0, 1), (32, .putfield 47, 3), (35, .iconst 0, 1), (36, .istore_n 3, 1), (37, .iload_n 3, 1), (38, .bipush 16, 2), (40, .if_icmp .ge 40, 3), (43, .aload_n 0, 1), (44, .getfield 47, 3), (47, .ifCond .ne 33, 3), (50, .aload_n 0, 1), (51, .iload_n 3, 1), (52, .invokevirtual 50, 3), (55, .aload_n 0, 1), (56, .invokevirtual 54, 3), (59, .iconst (-1), 1), (60, .if_icmp .ne 4, 3), (63, .return_, 1), (64, .aload_n 0, 1), (65, .dup, 1), (66, .getfield 38, 3), (69, .iconst 1, 1), (70, .iadd, 1), (71, .putfield 38, 3), (74, .iinc 3 1, 3), (77, .goto (-40), 3), (80, .aload_n 0, 1), (81, .iconst 4, 1), (82, .aload_n 0, 1), (83, .getfield 38, 3), (86, .invokevirtual 58, 3), (89, .return_, 1)]
/-- PricedBases$Clauses.kind(I)I -/
def cd_2 : List (Nat × Instr × Nat) := [(0, .iload_n 1, 1), (1, .ifCond .lt 20, 3), (4, .iload_n 1, 1), (5, .aload_n 0, 1), (6, .getfield 41, 3), (9, .if_icmp .ge 12, 3), (12, .aload_n 0, 1), (13, .getfield 15, 3), (16, .iload_n 1, 1), (17, .iaload, 1), (18, .goto 4, 3), (21, .iconst (-1), 1), (22, .ireturn, 1)]
/-- PricedBases$Clauses.howManyNumbers(I)I -/
def cd_3 : List (Nat × Instr × Nat) := [(0, .iload_n 1, 1), (1, .ifCond .lt 29, 3), (4, .iload_n 1, 1), (5, .aload_n 0, 1), (6, .getfield 41, 3), (9, .if_icmp .ge 21, 3), (12, .aload_n 0, 1), (13, .getfield 18, 3), (16, .iload_n 1, 1), (17, .iconst 1, 1), (18, .iadd, 1), (19, .iaload, 1), (20, .aload_n 0, 1), (21, .getfield 18, 3), (24, .iload_n 1, 1), (25, .iaload, 1), (26, .isub, 1), (27, .goto 4, 3), (30, .iconst 0, 1), (31, .ireturn, 1)]
/-- PricedBases$Clauses.number(II)I -/
def cd_4 : List (Nat × Instr × Nat) := [(0, .iload_n 1, 1), (1, .ifCond .lt 34, 3), (4, .iload_n 1, 1), (5, .aload_n 0, 1), (6, .getfield 41, 3), (9, .if_icmp .ge 26, 3), (12, .iload_n 2, 1), (13, .ifCond .lt 22, 3), (16, .iload_n 2, 1), (17, .aload_n 0, 1), (18, .getfield 18, 3), (21, .iload_n 1, 1), (22, .iconst 1, 1), (23, .iadd, 1), (24, .iaload, 1), (25, .aload_n 0, 1), (26, .getfield 18, 3), (29, .iload_n 1, 1), (30, .iaload, 1), (31, .isub, 1), (32, .if_icmp .lt 5, 3), (35, .iconst 0, 1), (36, .ireturn, 1), (37, .aload_n 0, 1), (38, .getfield 21, 3), (41, .aload_n 0, 1), (42, .getfield 18, 3), (45, .iload_n 1, 1), (46, .iaload, 1), (47, .iload_n 2, 1), (48, .iadd, 1), (49, .iaload, 1), (50, .ireturn, 1)]
/-- PricedBases$Clauses.refuse(II)V -/
def cd_5 : List (Nat × Instr × Nat) := [(0, .aload_n 0, 1), (1, .getfield 47, 3), (4, .ifCond .ne 14, 3), (7, .aload_n 0, 1), (8, .sipush (-1000), 3), (11, .iload_n 1, 1), (12, .imul, 1), (13, .iload_n 2, 1), (14, .isub, 1), (15, .putfield 47, 3), (18, .return_, 1)]
/-- PricedBases$Clauses.sign()I -/
def cd_6 : List (Nat × Instr × Nat) := [(0, .aload_n 0, 1), (1, .getfield 38, 3), (4, .aload_n 0, 1), (5, .getfield 34, 3), (8, .if_icmp .ge 15, 3), (11, .aload_n 0, 1), (12, .getfield 9, 3), (15, .aload_n 0, 1), (16, .getfield 38, 3), (19, .iaload, 1), (20, .goto 4, 3), (23, .iconst (-1), 1), (24, .ireturn, 1)]
/-- PricedBases$Clauses.readClause(I)V -/
def cd_7 : List (Nat × Instr × Nat) := [(0, .aload_n 0, 1), (1, .getfield 18, 3), (4, .iload_n 1, 1), (5, .aload_n 0, 1), (6, .getfield 44, 3), (9, .iastore, 1), (10, .aload_n 0, 1), (11, .getfield 15, 3), (14, .iload_n 1, 1), (15, .aload_n 0, 1), (16, .invokevirtual 62, 3), (19, .iastore, 1), (20, .aload_n 0, 1), (21, .getfield 15, 3), (24, .iload_n 1, 1), (25, .iaload, 1), (26, .iconst (-1), 1), (27, .if_icmp .ne 4, 3), (30, .return_, 1), (31, .aload_n 0, 1), (32, .aload_n 0, 1), (33, .getfield 15, 3), (36, .iload_n 1, 1), (37, .iaload, 1), (38, .invokevirtual 65, 3), (41, .aload_n 0, 1), (42, .iload_n 1, 1), (43, .iconst 1, 1), (44, .iadd, 1), (45, .putfield 41, 3), (48, .aload_n 0, 1), (49, .getfield 18, 3), (52, .aload_n 0, 1), (53, .getfield 41, 3), (56, .aload_n 0, 1), (57, .getfield 44, 3), (60, .iastore, 1), (61, .aload_n 0, 1), (62, .getfield 15, 3), (65, .iload_n 1, 1), (66, .iaload, 1), (67, .iconst 2, 1), (68, .if_icmp .ne 23, 3), (71, .aload_n 0, 1), (72, .aload_n 0, 1), (73, .iload_n 1, 1), (74, .iconst 1, 1), (75, .invokevirtual 68, 3), (78, .aload_n 0, 1), (79, .iload_n 1, 1), (80, .iconst 2, 1), (81, .invokevirtual 68, 3), (84, .imul, 1), (85, .invokevirtual 71, 3), (88, .goto 58, 3), (91, .aload_n 0, 1), (92, .getfield 15, 3), (95, .iload_n 1, 1), (96, .iaload, 1), (97, .iconst 3, 1), (98, .if_icmp .ne 22, 3), (101, .aload_n 0, 1), (102, .aload_n 0, 1), (103, .iload_n 1, 1), (104, .iconst 1, 1), (105, .invokevirtual 68, 3), (108, .aload_n 0, 1), (109, .iload_n 1, 1), (110, .iconst 2, 1), (111, .invokevirtual 68, 3), (114, .invokevirtual 74, 3), (117, .goto 29, 3), (120, .aload_n 0, 1), (121, .getfield 15, 3), (124, .iload_n 1, 1), (125, .iaload, 1), (126, .iconst 4, 1), (127, .if_icmp .ne 19, 3), (130, .aload_n 0, 1), (131, .aload_n 0, 1), (132, .iload_n 1, 1), (133, .iconst 1, 1), (134, .invokevirtual 68, 3), (137, .aload_n 0, 1), (138, .iload_n 1, 1), (139, .iconst 2, 1), (140, .invokevirtual 68, 3), (143, .invokevirtual 77, 3), (146, .aload_n 0, 1), (147, .getfield 18, 3), (150, .aload_n 0, 1), (151, .getfield 41, 3), (154, .aload_n 0, 1), (155, .getfield 44, 3), (158, .iastore, 1), (159, .aload_n 0, 1), (160, .invokevirtual 54, 3), (163, .iconst (-1), 1), (164, .if_icmp .eq 21, 3), (167, .aload_n 0, 1), (168, .invokevirtual 54, 3), (171, .bipush 59, 2), (173, .if_icmp .eq 12, 3), (176, .aload_n 0, 1), (177, .iconst 1, 1), (178, .aload_n 0, 1), (179, .getfield 38, 3), (182, .invokevirtual 58, 3), (185, .return_, 1)]
/-- PricedBases$Clauses.readWord()I -/
def cd_8 : List (Nat × Instr × Nat) := [(0, .aload_n 0, 1), (1, .getfield 38, 3), (4, .istore_n 1, 1), (5, .aload_n 0, 1), (6, .getfield 34, 3), (9, .iload_n 1, 1), (10, .isub, 1), (11, .istore_n 2, 1), (12, .iload_n 2, 1), (13, .ifCond .le 37, 3), (16, .aload_n 0, 1), (17, .invokevirtual 54, 3), (20, .bipush 97, 2), (22, .if_icmp .lt 28, 3), (25, .aload_n 0, 1), (26, .invokevirtual 54, 3), (29, .bipush 122, 2), (31, .if_icmp .gt 19, 3), (34, .aload_n 0, 1), (35, .dup, 1), (36, .getfield 38, 3), (39, .iconst 1, 1), (40, .iadd, 1), (41, .putfield 38, 3), (44, .iinc 2 (-1), 3), (47, .goto (-35), 3), (50, .iconst 0, 1), (51, .istore_n 2, 1), (52, .iload_n 2, 1), (53, .bipush 14, 2), (55, .if_icmp .ge 23, 3), (58, .aload_n 0, 1), (59, .iload_n 2, 1), (60, .invokestatic 80, 3), (63, .iload_n 1, 1), (64, .invokevirtual 84, 3), (67, .ifCond .eq 5, 3), (70, .iload_n 2, 1), (71, .ireturn, 1), (72, .iinc 2 1, 3), (75, .goto (-23), 3), (78, .aload_n 0, 1), (79, .iconst 1, 1), (80, .iload_n 1, 1), (81, .invokevirtual 58, 3), (84, .iconst (-1), 1), (85, .ireturn, 1)]
/-- PricedBases$Clauses.isWord(Ljava/lang/String;I)Z -/
def cd_9 : List (Nat × Instr × Nat) := [(0, .aload_n 1, 1), (1, .invokevirtual 88, 3), (4, .aload_n 0, 1), (5, .getfield 38, 3), (8, .iload_n 2, 1), (9, .isub, 1), (10, .if_icmp .eq 5, 3), (13, .iconst 0, 1), (14, .ireturn, 1), (15, .iconst 0, 1), (16, .istore_n 3, 1), (17, .iload_n 3, 1), (18, .aload_n 1, 1), (19, .invokevirtual 88, 3), (22, .if_icmp .ge 27, 3), (25, .aload_n 0, 1), (26, .getfield 9, 3), (29, .iload_n 2, 1), (30, .iload_n 3, 1), (31, .iadd, 1), (32, .iaload, 1), (33, .aload_n 1, 1), (34, .iload_n 3, 1), (35, .invokevirtual 92, 3), (38, .if_icmp .eq 5, 3), (41, .iconst 0, 1), (42, .ireturn, 1), (43, .iinc 3 1, 3), (46, .goto (-29), 3), (49, .iconst 1, 1), (50, .ireturn, 1)]
/-- PricedBases$Clauses.word(I)Ljava/lang/String; -/
def cd_10 : List (Nat × Instr × Nat) := [(0, .iload_n 0, 1), (1, .tableswitch 113 0 13 #[71, 74, 77, 80, 83, 86, 89, 92, 95, 98, 101, 104, 107, 110], 71), (72, .ldc 96, 2), (74, .areturn, 1), (75, .ldc 98, 2), (77, .areturn, 1), (78, .ldc 100, 2), (80, .areturn, 1), (81, .ldc 102, 2), (83, .areturn, 1), (84, .ldc 104, 2), (86, .areturn, 1), (87, .ldc 106, 2), (89, .areturn, 1), (90, .ldc 108, 2), (92, .areturn, 1), (93, .ldc 110, 2), (95, .areturn, 1), (96, .ldc 112, 2), (98, .areturn, 1), (99, .ldc 114, 2), (101, .areturn, 1), (102, .ldc 116, 2), (104, .areturn, 1), (105, .ldc 118, 2), (107, .areturn, 1), (108, .ldc 120, 2), (110, .areturn, 1), (111, .ldc 122, 2), (113, .areturn, 1), (114, .ldc 124, 2), (116, .areturn, 1)]
/-- PricedBases$Clauses.readHead(I)V -/
def cd_11 : List (Nat × Instr × Nat) := [(0, .iload_n 1, 1), (1, .ifCond .ne 23, 3), (4, .aload_n 0, 1), (5, .iconst 0, 1), (6, .bipush 7, 2), (8, .invokevirtual 126, 3), (11, .pop, 1), (12, .aload_n 0, 1), (13, .sipush (-1000), 3), (16, .sipush 1000, 3), (19, .invokevirtual 126, 3), (22, .pop, 1), (23, .return_, 1), (24, .aload_n 0, 1), (25, .iconst 0, 1), (26, .iconst 3, 1), (27, .invokevirtual 126, 3), (30, .pop, 1), (31, .iload_n 1, 1), (32, .iconst 4, 1), (33, .if_icmp .gt 40, 3), (36, .aload_n 0, 1), (37, .iconst 2, 1), (38, .bipush 8, 2), (40, .invokevirtual 126, 3), (43, .istore_n 2, 1), (44, .aload_n 0, 1), (45, .iload_n 1, 1), (46, .iconst 3, 1), (47, .if_icmp .ne 7, 3), (50, .iconst 2, 1), (51, .goto 4, 3), (54, .iconst 1, 1), (55, .iload_n 1, 1), (56, .iconst 3, 1), (57, .if_icmp .ne 8, 3), (60, .bipush 6, 2), (62, .goto 6, 3), (65, .iload_n 2, 1), (66, .iconst 1, 1), (67, .isub, 1), (68, .invokevirtual 126, 3), (71, .pop, 1), (72, .return_, 1), (73, .aload_n 0, 1), (74, .iconst 0, 1), (75, .iconst 3, 1), (76, .invokevirtual 126, 3), (79, .pop, 1), (80, .iload_n 1, 1), (81, .bipush 6, 2), (83, .if_icmp .eq 9, 3), (86, .iload_n 1, 1), (87, .bipush 7, 2), (89, .if_icmp .ne 14, 3), (92, .aload_n 0, 1), (93, .iconst 0, 1), (94, .bipush 7, 2), (96, .invokevirtual 126, 3), (99, .pop, 1), (100, .goto 22, 3), (103, .iload_n 1, 1), (104, .bipush 9, 2), (106, .if_icmp .eq 9, 3), (109, .iload_n 1, 1), (110, .bipush 13, 2), (112, .if_icmp .ne 10, 3), (115, .aload_n 0, 1), (116, .iconst 0, 1), (117, .iconst 3, 1), (118, .invokevirtual 126, 3), (121, .pop, 1), (122, .return_, 1)]
/-- PricedBases$Clauses.readWeights(I)V -/
def cd_12 : List (Nat × Instr × Nat) := [(0, .iconst 0, 1), (1, .istore_n 2, 1), (2, .iload_n 2, 1), (3, .iload_n 1, 1), (4, .if_icmp .ge 27, 3), (7, .aload_n 0, 1), (8, .getfield 47, 3), (11, .ifCond .ne 20, 3), (14, .aload_n 0, 1), (15, .sipush (-999), 3), (18, .sipush 999, 3), (21, .invokevirtual 126, 3), (24, .pop, 1), (25, .iinc 2 1, 3), (28, .goto (-26), 3), (31, .return_, 1)]
/-- PricedBases$Clauses.readEdges(II)V -/
def cd_13 : List (Nat × Instr × Nat) := [(0, .iconst 0, 1), (1, .istore_n 3, 1), (2, .iload_n 3, 1), (3, .iload_n 1, 1), (4, .if_icmp .ge 55, 3), (7, .aload_n 0, 1), (8, .getfield 47, 3), (11, .ifCond .ne 48, 3), (14, .aload_n 0, 1), (15, .iconst 0, 1), (16, .iload_n 2, 1), (17, .iconst 1, 1), (18, .isub, 1), (19, .invokevirtual 126, 3), (22, .istore 4, 2), (24, .aload_n 0, 1), (25, .getfield 38, 3), (28, .iconst 1, 1), (29, .iadd, 1), (30, .istore 5, 2), (32, .aload_n 0, 1), (33, .iconst 0, 1), (34, .iload_n 2, 1), (35, .iconst 1, 1), (36, .isub, 1), (37, .invokevirtual 126, 3), (40, .iload 4, 2), (42, .if_icmp .ne 11, 3), (45, .aload_n 0, 1), (46, .bipush 6, 2), (48, .iload 5, 2), (50, .invokevirtual 58, 3), (53, .iinc 3 1, 3), (56, .goto (-54), 3), (59, .return_, 1)]
/-- PricedBases$Clauses.readSets(II)V -/
def cd_14 : List (Nat × Instr × Nat) := [(0, .iconst 0, 1), (1, .istore_n 3, 1), (2, .iload_n 3, 1), (3, .bipush 100, 2), (5, .if_icmp .ge 91, 3), (8, .aload_n 0, 1), (9, .getfield 47, 3), (12, .ifCond .ne 84, 3), (15, .iload_n 3, 1), (16, .ifCond .eq 12, 3), (19, .aload_n 0, 1), (20, .invokevirtual 54, 3), (23, .bipush 32, 2), (25, .if_icmp .ne 71, 3), (28, .aload_n 0, 1), (29, .getfield 38, 3), (32, .iconst 1, 1), (33, .iadd, 1), (34, .istore 4, 2), (36, .aload_n 0, 1), (37, .iconst 0, 1), (38, .sipush 255, 3), (41, .invokevirtual 126, 3), (44, .istore 5, 2), (46, .iload 5, 2), (48, .invokestatic 129, 3), (51, .iload_n 2, 1), (52, .if_icmp .ne 21, 3), (55, .iload 5, 2), (57, .iconst 1, 1), (58, .iload_n 1, 1), (59, .ishl, 1), (60, .if_icmp .ge 13, 3), (63, .aload_n 0, 1), (64, .iload 5, 2), (66, .iload_n 3, 1), (67, .invokevirtual 135, 3), (70, .ifCond .eq 11, 3), (73, .aload_n 0, 1), (74, .bipush 6, 2), (76, .iload 4, 2), (78, .invokevirtual 58, 3), (81, .aload_n 0, 1), (82, .ldc 139, 2), (84, .ldc 140, 2), (86, .invokevirtual 126, 3), (89, .pop, 1), (90, .iinc 3 1, 3), (93, .goto (-91), 3), (96, .return_, 1)]
/-- PricedBases$Clauses.wasTold(II)Z -/
def cd_15 : List (Nat × Instr × Nat) := [(0, .iconst 1, 1), (1, .istore_n 3, 1), (2, .iload_n 3, 1), (3, .iload_n 2, 1), (4, .if_icmp .gt 39, 3), (7, .aload_n 0, 1), (8, .getfield 44, 3), (11, .iconst 1, 1), (12, .isub, 1), (13, .iconst 2, 1), (14, .iload_n 3, 1), (15, .imul, 1), (16, .isub, 1), (17, .istore 4, 2), (19, .iload 4, 2), (21, .ifCond .lt 16, 3), (24, .aload_n 0, 1), (25, .getfield 21, 3), (28, .iload 4, 2), (30, .iaload, 1), (31, .iload_n 1, 1), (32, .if_icmp .ne 5, 3), (35, .iconst 1, 1), (36, .ireturn, 1), (37, .iinc 3 1, 3), (40, .goto (-38), 3), (43, .iconst 0, 1), (44, .ireturn, 1)]
/-- PricedBases$Clauses.readNumber(II)I -/
def cd_16 : List (Nat × Instr × Nat) := [(0, .aload_n 0, 1), (1, .invokevirtual 54, 3), (4, .bipush 32, 2), (6, .if_icmp .eq 12, 3), (9, .aload_n 0, 1), (10, .iconst 1, 1), (11, .aload_n 0, 1), (12, .getfield 38, 3), (15, .invokevirtual 58, 3), (18, .aload_n 0, 1), (19, .getfield 47, 3), (22, .ifCond .eq 5, 3), (25, .iconst 0, 1), (26, .ireturn, 1), (27, .aload_n 0, 1), (28, .dup, 1), (29, .getfield 38, 3), (32, .iconst 1, 1), (33, .iadd, 1), (34, .putfield 38, 3), (37, .aload_n 0, 1), (38, .getfield 38, 3), (41, .istore_n 3, 1), (42, .aload_n 0, 1), (43, .invokevirtual 54, 3), (46, .bipush 45, 2), (48, .if_icmp .ne 7, 3), (51, .iconst 1, 1), (52, .goto 4, 3), (55, .iconst 0, 1), (56, .istore 4, 2), (58, .iload 4, 2), (60, .ifCond .eq 13, 3), (63, .aload_n 0, 1), (64, .dup, 1), (65, .getfield 38, 3), (68, .iconst 1, 1), (69, .iadd, 1), (70, .putfield 38, 3), (73, .aload_n 0, 1), (74, .invokevirtual 141, 3), (77, .istore 5, 2), (79, .iload 4, 2), (81, .ifCond .eq 9, 3), (84, .iload 5, 2), (86, .ineg, 1), (87, .goto 5, 3), (90, .iload 5, 2), (92, .istore 6, 2), (94, .iload 6, 2), (96, .iload_n 1, 1), (97, .if_icmp .lt 9, 3), (100, .iload 6, 2), (102, .iload_n 2, 1), (103, .if_icmp .le 9, 3), (106, .aload_n 0, 1), (107, .iconst 3, 1), (108, .iload_n 3, 1), (109, .invokevirtual 58, 3), (112, .aload_n 0, 1), (113, .getfield 44, 3), (116, .bipush 100, 2), (118, .if_icmp .ge 24, 3), (121, .aload_n 0, 1), (122, .getfield 21, 3), (125, .aload_n 0, 1), (126, .getfield 44, 3), (129, .iload 6, 2), (131, .iastore, 1), (132, .aload_n 0, 1), (133, .dup, 1), (134, .getfield 44, 3), (137, .iconst 1, 1), (138, .iadd, 1), (139, .putfield 44, 3), (142, .iload 6, 2), (144, .ireturn, 1)]
/-- PricedBases$Clauses.readDigits()I -/
def cd_17 : List (Nat × Instr × Nat) := [(0, .aload_n 0, 1), (1, .getfield 38, 3), (4, .istore_n 1, 1), (5, .iconst 0, 1), (6, .istore_n 2, 1), (7, .iconst 0, 1), (8, .istore_n 3, 1), (9, .iload_n 3, 1), (10, .bipush 7, 2), (12, .if_icmp .ge 42, 3), (15, .aload_n 0, 1), (16, .invokevirtual 54, 3), (19, .invokestatic 144, 3), (22, .ifCond .eq 32, 3), (25, .iload_n 2, 1), (26, .bipush 10, 2), (28, .imul, 1), (29, .aload_n 0, 1), (30, .invokevirtual 54, 3), (33, .iadd, 1), (34, .bipush 48, 2), (36, .isub, 1), (37, .istore_n 2, 1), (38, .aload_n 0, 1), (39, .dup, 1), (40, .getfield 38, 3), (43, .iconst 1, 1), (44, .iadd, 1), (45, .putfield 38, 3), (48, .iinc 3 1, 3), (51, .goto (-42), 3), (54, .aload_n 0, 1), (55, .getfield 38, 3), (58, .iload_n 1, 1), (59, .if_icmp .ne 15, 3), (62, .aload_n 0, 1), (63, .iconst 1, 1), (64, .aload_n 0, 1), (65, .getfield 38, 3), (68, .invokevirtual 58, 3), (71, .goto 22, 3), (74, .aload_n 0, 1), (75, .invokevirtual 54, 3), (78, .invokestatic 144, 3), (81, .ifCond .eq 12, 3), (84, .aload_n 0, 1), (85, .iconst 2, 1), (86, .aload_n 0, 1), (87, .getfield 38, 3), (90, .invokevirtual 58, 3), (93, .iload_n 2, 1), (94, .ireturn, 1)]
/-- PricedBases$Clauses.isDigit(I)Z -/
def cd_18 : List (Nat × Instr × Nat) := [(0, .iload_n 0, 1), (1, .bipush 48, 2), (3, .if_icmp .lt 13, 3), (6, .iload_n 0, 1), (7, .bipush 57, 2), (9, .if_icmp .gt 7, 3), (12, .iconst 1, 1), (13, .goto 4, 3), (16, .iconst 0, 1), (17, .ireturn, 1)]
/-- PricedBases$Couple.<init>()V -/
def cd_19 : List (Nat × Instr × Nat) := [(0, .aload_n 0, 1), (1, .invokespecial 3, 3), (4, .aload_n 0, 1), (5, .bipush 8, 2), (7, .newarray .int, 2), (9, .putfield 9, 3), (12, .return_, 1)]
/-- PricedBases$Law.<init>()V -/
def cd_20 : List (Nat × Instr × Nat) := [(0, .aload_n 0, 1), (1, .invokespecial 3, 3), (4, .aload_n 0, 1), (5, .sipush 256, 3), (8, .newarray .int, 2), (10, .putfield 9, 3), (13, .return_, 1)]
/-- PricedBases$Law.meets(LPricedBases$Valuation;[II)I -/
def cd_21 : List (Nat × Instr × Nat) := [(0, .iconst 0, 1), (1, .istore 4, 2), (3, .iconst 0, 1), (4, .istore 5, 2), (6, .iload 5, 2), (8, .aload_n 1, 1), (9, .getfield 15, 3), (12, .if_icmp .ge 60, 3), (15, .iconst 0, 1), (16, .istore 6, 2), (18, .iload 6, 2), (20, .aload_n 1, 1), (21, .getfield 15, 3), (24, .if_icmp .ge 42, 3), (27, .aload_n 0, 1), (28, .aload_n 2, 1), (29, .aload_n 1, 1), (30, .getfield 21, 3), (33, .iload 5, 2), (35, .iaload, 1), (36, .aload_n 1, 1), (37, .getfield 21, 3), (40, .iload 6, 2), (42, .iaload, 1), (43, .iload 4, 2), (45, .iload_n 3, 1), (46, .invokevirtual 24, 3), (49, .istore 4, 2), (51, .iload 4, 2), (53, .iload_n 3, 1), (54, .if_icmp .le 6, 3), (57, .iload 4, 2), (59, .ireturn, 1), (60, .iinc 6 1, 3), (63, .goto (-45), 3), (66, .iinc 5 1, 3), (69, .goto (-63), 3), (72, .iload 4, 2), (74, .ireturn, 1)]
/-- PricedBases$Law.meetsFor([IIIII)I -/
def cd_22 : List (Nat × Instr × Nat) := [(0, .aload_n 1, 1), (1, .iload_n 2, 1), (2, .iaload, 1), (3, .ldc 28, 2), (5, .if_icmp .eq 11, 3), (8, .aload_n 1, 1), (9, .iload_n 3, 1), (10, .iaload, 1), (11, .ldc 28, 2), (13, .if_icmp .ne 6, 3), (16, .iload 4, 2), (18, .ireturn, 1), (19, .iload 4, 2), (21, .istore 6, 2), (23, .iload_n 2, 1), (24, .iload_n 3, 1), (25, .iconst (-1), 1), (26, .ixor, 1), (27, .iand, 1), (28, .istore 7, 2), (30, .iconst 0, 1), (31, .istore 8, 2), (33, .iload 8, 2), (35, .bipush 8, 2), (37, .if_icmp .ge 56, 3), (40, .iload 6, 2), (42, .iload 5, 2), (44, .if_icmp .gt 49, 3), (47, .iload 7, 2), (49, .iload 8, 2), (51, .invokestatic 29, 3), (54, .ifCond .eq 33, 3), (57, .aload_n 1, 1), (58, .iload_n 2, 1), (59, .iload_n 3, 1), (60, .iload 8, 2), (62, .invokestatic 33, 3), (65, .ifCond .ge 22, 3), (68, .aload_n 0, 1), (69, .iload_n 2, 1), (70, .putfield 37, 3), (73, .aload_n 0, 1), (74, .iload_n 3, 1), (75, .putfield 40, 3), (78, .aload_n 0, 1), (79, .iload 8, 2), (81, .putfield 43, 3), (84, .iinc 6 1, 3), (87, .iinc 8 1, 3), (90, .goto (-57), 3), (93, .iload 6, 2), (95, .ireturn, 1)]
/-- PricedBases$Law.partner([IIII)I -/
def cd_23 : List (Nat × Instr × Nat) := [(0, .aload_n 0, 1), (1, .iload_n 1, 1), (2, .iaload, 1), (3, .aload_n 0, 1), (4, .iload_n 2, 1), (5, .iaload, 1), (6, .iadd, 1), (7, .istore 4, 2), (9, .iload_n 2, 1), (10, .iload_n 1, 1), (11, .iconst (-1), 1), (12, .ixor, 1), (13, .iand, 1), (14, .istore 5, 2), (16, .iconst 0, 1), (17, .istore 6, 2), (19, .iload 6, 2), (21, .bipush 8, 2), (23, .if_icmp .ge 72, 3), (26, .iload 5, 2), (28, .iload 6, 2), (30, .invokestatic 29, 3), (33, .ifCond .eq 56, 3), (36, .iconst 1, 1), (37, .iload_n 3, 1), (38, .ishl, 1), (39, .iconst 1, 1), (40, .iload 6, 2), (42, .ishl, 1), (43, .ior, 1), (44, .istore 7, 2), (46, .aload_n 0, 1), (47, .iload_n 1, 1), (48, .iload 7, 2), (50, .ixor, 1), (51, .iaload, 1), (52, .istore 8, 2), (54, .aload_n 0, 1), (55, .iload_n 2, 1), (56, .iload 7, 2), (58, .ixor, 1), (59, .iaload, 1), (60, .istore 9, 2), (62, .iload 8, 2), (64, .ldc 28, 2), (66, .if_icmp .eq 23, 3), (69, .iload 9, 2), (71, .ldc 28, 2), (73, .if_icmp .eq 16, 3), (76, .iload 8, 2), (78, .iload 9, 2), (80, .iadd, 1), (81, .iload 4, 2), (83, .if_icmp .lt 6, 3), (86, .iload 6, 2), (88, .ireturn, 1), (89, .iinc 6 1, 3), (92, .goto (-73), 3), (95, .bipush (-2), 2), (97, .ireturn, 1)]
/-- PricedBases$Law.flat(LPricedBases$Valuation;)[I -/
def cd_24 : List (Nat × Instr × Nat) := [(0, .aload_n 0, 1), (1, .getfield 9, 3), (4, .ldc 28, 2), (6, .invokestatic 46, 3), (9, .iconst 0, 1), (10, .istore_n 2, 1), (11, .iload_n 2, 1), (12, .aload_n 1, 1), (13, .getfield 15, 3), (16, .if_icmp .ge 21, 3), (19, .aload_n 0, 1), (20, .getfield 9, 3), (23, .aload_n 1, 1), (24, .getfield 21, 3), (27, .iload_n 2, 1), (28, .iaload, 1), (29, .iconst 0, 1), (30, .iastore, 1), (31, .iinc 2 1, 3), (34, .goto (-23), 3), (37, .aload_n 0, 1), (38, .getfield 9, 3), (41, .areturn, 1)]
/-- PricedBases$Law.flatGreatest(LPricedBases$Valuation;LPricedBases$Sums;)[I -/
def cd_25 : List (Nat × Instr × Nat) := [(0, .aload_n 0, 1), (1, .getfield 9, 3), (4, .ldc 28, 2), (6, .invokestatic 46, 3), (9, .iconst 0, 1), (10, .istore_n 3, 1), (11, .iload_n 3, 1), (12, .aload_n 1, 1), (13, .getfield 15, 3), (16, .if_icmp .ge 34, 3), (19, .aload_n 2, 1), (20, .aload_n 1, 1), (21, .getfield 21, 3), (24, .iload_n 3, 1), (25, .iaload, 1), (26, .invokevirtual 52, 3), (29, .ifCond .eq 15, 3), (32, .aload_n 0, 1), (33, .getfield 9, 3), (36, .aload_n 1, 1), (37, .getfield 21, 3), (40, .iload_n 3, 1), (41, .iaload, 1), (42, .iconst 0, 1), (43, .iastore, 1), (44, .iinc 3 1, 3), (47, .goto (-36), 3), (50, .aload_n 0, 1), (51, .getfield 9, 3), (54, .areturn, 1)]
/-- PricedBases$Maker.<init>()V -/
def cd_26 : List (Nat × Instr × Nat) := [(0, .aload_n 0, 1), (1, .invokespecial 3, 3), (4, .aload_n 0, 1), (5, .new 9, 3), (8, .dup, 1), (9, .invokespecial 11, 3), (12, .putfield 12, 3), (15, .aload_n 0, 1), (16, .sipush 256, 3), (19, .newarray .int, 2), (21, .putfield 18, 3), (24, .return_, 1)]
/-- PricedBases$Maker.isMade(LPricedBases$Clauses;ILPricedBases$State;)Z -/
def cd_27 : List (Nat × Instr × Nat) := [(0, .aload_n 1, 1), (1, .iload_n 2, 1), (2, .invokevirtual 22, 3), (5, .istore 4, 2), (7, .iload 4, 2), (9, .iconst 4, 1), (10, .if_icmp .gt 16, 3), (13, .aload_n 0, 1), (14, .iload 4, 2), (16, .aload_n 1, 1), (17, .iload_n 2, 1), (18, .invokevirtual 28, 3), (21, .istore 5, 2), (23, .goto 45, 3), (26, .aload_n 3, 1), (27, .aload_n 1, 1), (28, .iload_n 2, 1), (29, .iconst 1, 1), (30, .invokevirtual 32, 3), (33, .invokevirtual 36, 3), (36, .astore 6, 2), (38, .aload 6, 2), (40, .ifnull 25, 3), (43, .aload_n 0, 1), (44, .iload 4, 2), (46, .aload 6, 2), (48, .aload_n 1, 1), (49, .iload_n 2, 1), (50, .iconst 2, 1), (51, .invokevirtual 32, 3), (54, .aload_n 3, 1), (55, .invokevirtual 42, 3), (58, .ifCond .eq 7, 3), (61, .iconst 1, 1), (62, .goto 4, 3), (65, .iconst 0, 1), (66, .istore 5, 2), (68, .iload 5, 2), (70, .ifCond .eq 14, 3), (73, .aload_n 0, 1), (74, .invokevirtual 46, 3), (77, .ifCond .eq 7, 3), (80, .iconst 1, 1), (81, .goto 4, 3), (84, .iconst 0, 1), (85, .ireturn, 1)]
/-- PricedBases$Maker.isTable(ILPricedBases$Clauses;I)Z -/
def cd_28 : List (Nat × Instr × Nat) := [(0, .iload_n 1, 1), (1, .iconst 3, 1), (2, .if_icmp .ne 14, 3), (5, .aload_n 2, 1), (6, .iload_n 3, 1), (7, .iconst 2, 1), (8, .invokevirtual 32, 3), (11, .iconst 1, 1), (12, .isub, 1), (13, .goto 9, 3), (16, .aload_n 2, 1), (17, .iload_n 3, 1), (18, .iconst 2, 1), (19, .invokevirtual 32, 3), (22, .istore 4, 2), (24, .aload_n 0, 1), (25, .aload_n 2, 1), (26, .iload_n 3, 1), (27, .iconst 1, 1), (28, .invokevirtual 32, 3), (31, .iload 4, 2), (33, .invokevirtual 50, 3), (36, .ifCond .ne 5, 3), (39, .iconst 0, 1), (40, .ireturn, 1), (41, .iload_n 1, 1), (42, .iconst 1, 1), (43, .if_icmp .ne 10, 3), (46, .aload_n 0, 1), (47, .invokevirtual 54, 3), (50, .goto 37, 3), (53, .iload_n 1, 1), (54, .iconst 2, 1), (55, .if_icmp .ne 12, 3), (58, .aload_n 0, 1), (59, .aload_n 2, 1), (60, .iload_n 3, 1), (61, .invokevirtual 57, 3), (64, .goto 23, 3), (67, .iload_n 1, 1), (68, .iconst 3, 1), (69, .if_icmp .ne 12, 3), (72, .aload_n 0, 1), (73, .aload_n 2, 1), (74, .iload_n 3, 1), (75, .invokevirtual 61, 3), (78, .goto 9, 3), (81, .aload_n 0, 1), (82, .aload_n 2, 1), (83, .iload_n 3, 1), (84, .invokevirtual 64, 3), (87, .iconst 1, 1), (88, .ireturn, 1)]
/-- PricedBases$Maker.isDerived(ILPricedBases$Valuation;ILPricedBases$State;)Z -/
def cd_29 : List (Nat × Instr × Nat) := [(0, .iload_n 1, 1), (1, .tableswitch 131 5 13 #[51, 57, 65, 73, 84, 96, 102, 113, 119], 51), (52, .aload_n 0, 1), (53, .aload_n 2, 1), (54, .invokevirtual 67, 3), (57, .ireturn, 1), (58, .aload_n 0, 1), (59, .aload_n 2, 1), (60, .iload_n 3, 1), (61, .iconst 0, 1), (62, .invokevirtual 71, 3), (65, .ireturn, 1), (66, .aload_n 0, 1), (67, .aload_n 2, 1), (68, .iload_n 3, 1), (69, .iconst 1, 1), (70, .invokevirtual 71, 3), (73, .ireturn, 1), (74, .aload_n 0, 1), (75, .aload_n 2, 1), (76, .aload 4, 2), (78, .getfield 75, 3), (81, .invokevirtual 78, 3), (84, .ireturn, 1), (85, .aload_n 0, 1), (86, .aload_n 2, 1), (87, .aload 4, 2), (89, .iload_n 3, 1), (90, .invokevirtual 36, 3), (93, .invokevirtual 82, 3), (96, .ireturn, 1), (97, .aload_n 0, 1), (98, .aload_n 2, 1), (99, .invokevirtual 86, 3), (102, .ireturn, 1), (103, .aload_n 0, 1), (104, .aload_n 2, 1), (105, .aload 4, 2), (107, .getfield 75, 3), (110, .invokevirtual 89, 3), (113, .ireturn, 1), (114, .aload_n 0, 1), (115, .aload_n 2, 1), (116, .invokevirtual 92, 3), (119, .ireturn, 1), (120, .aload_n 0, 1), (121, .aload_n 2, 1), (122, .aload 4, 2), (124, .iload_n 3, 1), (125, .invokevirtual 36, 3), (128, .invokevirtual 95, 3), (131, .ireturn, 1), (132, .iconst 0, 1), (133, .ireturn, 1)]
/-- PricedBases$Maker.isOpened(II)Z -/
def cd_30 : List (Nat × Instr × Nat) := [(0, .iload_n 1, 1), (1, .iconst 2, 1), (2, .if_icmp .lt 21, 3), (5, .iload_n 1, 1), (6, .bipush 8, 2), (8, .if_icmp .gt 15, 3), (11, .iload_n 2, 1), (12, .iconst 1, 1), (13, .if_icmp .lt 10, 3), (16, .iload_n 2, 1), (17, .iload_n 1, 1), (18, .iconst 1, 1), (19, .isub, 1), (20, .if_icmp .le 5, 3), (23, .iconst 0, 1), (24, .ireturn, 1), (25, .aload_n 0, 1), (26, .getfield 12, 3), (29, .iload_n 1, 1), (30, .iload_n 2, 1), (31, .invokevirtual 98, 3), (34, .iconst 1, 1), (35, .ireturn, 1)]
/-- PricedBases$Maker.isWhole()Z -/
def cd_31 : List (Nat × Instr × Nat) := [(0, .iconst 0, 1), (1, .istore_n 1, 1), (2, .iconst 0, 1), (3, .istore_n 2, 1), (4, .iload_n 2, 1), (5, .sipush 256, 3), (8, .if_icmp .ge 41, 3), (11, .aload_n 0, 1), (12, .getfield 12, 3), (15, .getfield 102, 3), (18, .iload_n 2, 1), (19, .iaload, 1), (20, .istore_n 3, 1), (21, .iload_n 3, 1), (22, .ldc 105, 2), (24, .if_icmp .eq 19, 3), (27, .iconst 1, 1), (28, .istore_n 1, 1), (29, .iload_n 3, 1), (30, .ldc 106, 2), (32, .if_icmp .lt 9, 3), (35, .iload_n 3, 1), (36, .ldc 107, 2), (38, .if_icmp .le 5, 3), (41, .iconst 0, 1), (42, .ireturn, 1), (43, .iinc 2 1, 3), (46, .goto (-42), 3), (49, .iload_n 1, 1), (50, .ifCond .eq 10, 3), (53, .aload_n 0, 1), (54, .getfield 12, 3), (57, .invokevirtual 108, 3), (60, .iload_n 1, 1), (61, .ireturn, 1)]
/-- PricedBases$Maker.makeUniform()V -/
def cd_32 : List (Nat × Instr × Nat) := [(0, .iconst 0, 1), (1, .istore_n 1, 1), (2, .iload_n 1, 1), (3, .aload_n 0, 1), (4, .getfield 12, 3), (7, .invokevirtual 111, 3), (10, .if_icmp .ge 32, 3), (13, .iload_n 1, 1), (14, .invokestatic 115, 3), (17, .aload_n 0, 1), (18, .getfield 12, 3), (21, .getfield 120, 3), (24, .if_icmp .ne 12, 3), (27, .aload_n 0, 1), (28, .getfield 12, 3), (31, .iload_n 1, 1), (32, .iconst 0, 1), (33, .invokevirtual 124, 3), (36, .iinc 1 1, 3), (39, .goto (-37), 3), (42, .return_, 1)]
/-- PricedBases$Maker.makeMatch(LPricedBases$Clauses;I)V -/
def cd_33 : List (Nat × Instr × Nat) := [(0, .aload_n 0, 1), (1, .getfield 18, 3), (4, .iconst 0, 1), (5, .iconst 0, 1), (6, .iastore, 1), (7, .iconst 1, 1), (8, .istore_n 3, 1), (9, .iload_n 3, 1), (10, .aload_n 0, 1), (11, .getfield 12, 3), (14, .invokevirtual 111, 3), (17, .if_icmp .ge 72, 3), (20, .iload_n 3, 1), (21, .invokestatic 115, 3), (24, .iconst 1, 1), (25, .isub, 1), (26, .istore 4, 2), (28, .iload 4, 2), (30, .aload_n 0, 1), (31, .getfield 12, 3), (34, .getfield 120, 3), (37, .if_icmp .ge 46, 3), (40, .aload_n 0, 1), (41, .getfield 18, 3), (44, .iload_n 3, 1), (45, .aload_n 0, 1), (46, .iload_n 3, 1), (47, .iload 4, 2), (49, .aload_n 1, 1), (50, .iload_n 2, 1), (51, .invokevirtual 127, 3), (54, .iastore, 1), (55, .iload 4, 2), (57, .aload_n 0, 1), (58, .getfield 12, 3), (61, .getfield 120, 3), (64, .iconst 1, 1), (65, .isub, 1), (66, .if_icmp .ne 17, 3), (69, .aload_n 0, 1), (70, .getfield 12, 3), (73, .iload_n 3, 1), (74, .aload_n 0, 1), (75, .getfield 18, 3), (78, .iload_n 3, 1), (79, .iaload, 1), (80, .invokevirtual 124, 3), (83, .iinc 3 1, 3), (86, .goto (-77), 3), (89, .return_, 1)]
/-- PricedBases$Maker.bestMatch(IILPricedBases$Clauses;I)I -/
def cd_34 : List (Nat × Instr × Nat) := [(0, .ldc 105, 2), (2, .istore 5, 2), (4, .iconst 0, 1), (5, .istore 6, 2), (7, .iload 6, 2), (9, .aload_n 0, 1), (10, .getfield 12, 3), (13, .getfield 131, 3), (16, .if_icmp .ge 57, 3), (19, .iload_n 1, 1), (20, .iload 6, 2), (22, .invokestatic 134, 3), (25, .ifCond .eq 42, 3), (28, .iload 5, 2), (30, .aload_n 0, 1), (31, .getfield 18, 3), (34, .iload_n 1, 1), (35, .iconst 1, 1), (36, .iload 6, 2), (38, .ishl, 1), (39, .ixor, 1), (40, .iaload, 1), (41, .aload_n 3, 1), (42, .iload 4, 2), (44, .iconst 3, 1), (45, .iload_n 2, 1), (46, .aload_n 0, 1), (47, .getfield 12, 3), (50, .getfield 131, 3), (53, .imul, 1), (54, .iadd, 1), (55, .iload 6, 2), (57, .iadd, 1), (58, .invokevirtual 32, 3), (61, .iadd, 1), (62, .invokestatic 137, 3), (65, .istore 5, 2), (67, .iinc 6 1, 3), (70, .goto (-63), 3), (73, .iload 5, 2), (75, .ireturn, 1)]
/-- PricedBases$Maker.makeGraph(LPricedBases$Clauses;I)V -/
def cd_35 : List (Nat × Instr × Nat) := [(0, .iconst 0, 1), (1, .istore_n 3, 1), (2, .iload_n 3, 1), (3, .aload_n 0, 1), (4, .getfield 12, 3), (7, .invokevirtual 111, 3), (10, .if_icmp .ge 42, 3), (13, .iload_n 3, 1), (14, .invokestatic 115, 3), (17, .aload_n 0, 1), (18, .getfield 12, 3), (21, .getfield 120, 3), (24, .if_icmp .ne 22, 3), (27, .aload_n 0, 1), (28, .iload_n 3, 1), (29, .aload_n 1, 1), (30, .iload_n 2, 1), (31, .invokevirtual 142, 3), (34, .ifCond .eq 12, 3), (37, .aload_n 0, 1), (38, .getfield 12, 3), (41, .iload_n 3, 1), (42, .iconst 0, 1), (43, .invokevirtual 124, 3), (46, .iinc 3 1, 3), (49, .goto (-47), 3), (52, .return_, 1)]
/-- PricedBases$Maker.isTree(ILPricedBases$Clauses;I)Z -/
def cd_36 : List (Nat × Instr × Nat) := [(0, .aload_n 0, 1), (1, .getfield 12, 3), (4, .getfield 120, 3), (7, .iconst 1, 1), (8, .iadd, 1), (9, .istore 4, 2), (11, .iconst 1, 1), (12, .istore 5, 2), (14, .iconst 0, 1), (15, .istore 6, 2), (17, .iload 6, 2), (19, .iload 4, 2), (21, .if_icmp .ge 83, 3), (24, .iconst 0, 1), (25, .istore 7, 2), (27, .iload 7, 2), (29, .aload_n 0, 1), (30, .getfield 12, 3), (33, .getfield 131, 3), (36, .if_icmp .ge 62, 3), (39, .iconst 1, 1), (40, .aload_n 2, 1), (41, .iload_n 3, 1), (42, .iconst 3, 1), (43, .iconst 2, 1), (44, .iload 7, 2), (46, .imul, 1), (47, .iadd, 1), (48, .invokevirtual 32, 3), (51, .ishl, 1), (52, .iconst 1, 1), (53, .aload_n 2, 1), (54, .iload_n 3, 1), (55, .iconst 4, 1), (56, .iconst 2, 1), (57, .iload 7, 2), (59, .imul, 1), (60, .iadd, 1), (61, .invokevirtual 32, 3), (64, .ishl, 1), (65, .ior, 1), (66, .istore 8, 2), (68, .iload_n 1, 1), (69, .iload 7, 2), (71, .invokestatic 134, 3), (74, .ifCond .eq 18, 3), (77, .iload 5, 2), (79, .iload 8, 2), (81, .iand, 1), (82, .ifCond .eq 10, 3), (85, .iload 5, 2), (87, .iload 8, 2), (89, .ior, 1), (90, .istore 5, 2), (92, .iinc 7 1, 3), (95, .goto (-68), 3), (98, .iinc 6 1, 3), (101, .goto (-84), 3), (104, .iload 5, 2), (106, .iconst 1, 1), (107, .iload 4, 2), (109, .ishl, 1), (110, .iconst 1, 1), (111, .isub, 1), (112, .if_icmp .ne 7, 3), (115, .iconst 1, 1), (116, .goto 4, 3), (119, .iconst 0, 1), (120, .ireturn, 1)]
/-- PricedBases$Maker.makeTold(LPricedBases$Clauses;I)V -/
def cd_37 : List (Nat × Instr × Nat) := [(0, .iconst 3, 1), (1, .istore_n 3, 1), (2, .iload_n 3, 1), (3, .iconst 1, 1), (4, .iadd, 1), (5, .aload_n 1, 1), (6, .iload_n 2, 1), (7, .invokevirtual 145, 3), (10, .if_icmp .ge 30, 3), (13, .aload_n 0, 1), (14, .getfield 12, 3), (17, .aload_n 1, 1), (18, .iload_n 2, 1), (19, .iload_n 3, 1), (20, .invokevirtual 32, 3), (23, .aload_n 1, 1), (24, .iload_n 2, 1), (25, .iload_n 3, 1), (26, .iconst 1, 1), (27, .iadd, 1), (28, .invokevirtual 32, 3), (31, .invokevirtual 124, 3), (34, .iinc 3 2, 3), (37, .goto (-35), 3), (40, .return_, 1)]
/-- PricedBases$Maker.isDual(LPricedBases$Valuation;)Z -/
def cd_38 : List (Nat × Instr × Nat) := [(0, .aload_n 0, 1), (1, .aload_n 1, 1), (2, .getfield 131, 3), (5, .aload_n 1, 1), (6, .getfield 131, 3), (9, .aload_n 1, 1), (10, .getfield 120, 3), (13, .isub, 1), (14, .invokevirtual 50, 3), (17, .ifCond .ne 5, 3), (20, .iconst 0, 1), (21, .ireturn, 1), (22, .iconst 0, 1), (23, .istore_n 2, 1), (24, .iload_n 2, 1), (25, .aload_n 1, 1), (26, .getfield 148, 3), (29, .if_icmp .ge 35, 3), (32, .aload_n 1, 1), (33, .getfield 151, 3), (36, .iload_n 2, 1), (37, .iaload, 1), (38, .istore_n 3, 1), (39, .aload_n 0, 1), (40, .getfield 12, 3), (43, .aload_n 1, 1), (44, .invokevirtual 154, 3), (47, .iload_n 3, 1), (48, .ixor, 1), (49, .aload_n 1, 1), (50, .getfield 102, 3), (53, .iload_n 3, 1), (54, .iaload, 1), (55, .invokevirtual 124, 3), (58, .iinc 2 1, 3), (61, .goto (-37), 3), (64, .iconst 1, 1), (65, .ireturn, 1)]
/-- PricedBases$Maker.isLess(LPricedBases$Valuation;II)Z -/
def cd_39 : List (Nat × Instr × Nat) := [(0, .aload_n 1, 1), (1, .iload_n 2, 1), (2, .invokevirtual 157, 3), (5, .ifCond .eq 22, 3), (8, .aload_n 0, 1), (9, .aload_n 1, 1), (10, .getfield 131, 3), (13, .iconst 1, 1), (14, .isub, 1), (15, .aload_n 1, 1), (16, .getfield 120, 3), (19, .iload_n 3, 1), (20, .isub, 1), (21, .invokevirtual 50, 3), (24, .ifCond .ne 5, 3), (27, .iconst 0, 1), (28, .ireturn, 1), (29, .iconst 1, 1), (30, .iload_n 2, 1), (31, .ishl, 1), (32, .iconst 1, 1), (33, .isub, 1), (34, .istore 4, 2), (36, .iconst 0, 1), (37, .istore 5, 2), (39, .iload 5, 2), (41, .aload_n 1, 1), (42, .getfield 148, 3), (45, .if_icmp .ge 57, 3), (48, .aload_n 1, 1), (49, .getfield 151, 3), (52, .iload 5, 2), (54, .iaload, 1), (55, .istore 6, 2), (57, .iload 6, 2), (59, .iload_n 2, 1), (60, .ishr, 1), (61, .iconst 1, 1), (62, .iand, 1), (63, .iload_n 3, 1), (64, .if_icmp .ne 32, 3), (67, .aload_n 0, 1), (68, .getfield 12, 3), (71, .iload 6, 2), (73, .iload 4, 2), (75, .iand, 1), (76, .iload 6, 2), (78, .iconst 1, 1), (79, .ishr, 1), (80, .iload 4, 2), (82, .iconst (-1), 1), (83, .ixor, 1), (84, .iand, 1), (85, .ior, 1), (86, .aload_n 1, 1), (87, .getfield 102, 3), (90, .iload 6, 2), (92, .iaload, 1), (93, .invokevirtual 124, 3), (96, .iinc 5 1, 3), (99, .goto (-60), 3), (102, .iconst 1, 1), (103, .ireturn, 1)]
/-- PricedBases$Maker.isShifted(LPricedBases$Valuation;[I)Z -/
def cd_40 : List (Nat × Instr × Nat) := [(0, .aload_n 0, 1), (1, .aload_n 1, 1), (2, .getfield 131, 3), (5, .aload_n 1, 1), (6, .getfield 120, 3), (9, .invokevirtual 50, 3), (12, .ifCond .ne 5, 3), (15, .iconst 0, 1), (16, .ireturn, 1), (17, .iconst 0, 1), (18, .istore_n 3, 1), (19, .iload_n 3, 1), (20, .aload_n 1, 1), (21, .getfield 148, 3), (24, .if_icmp .ge 40, 3), (27, .aload_n 1, 1), (28, .getfield 151, 3), (31, .iload_n 3, 1), (32, .iaload, 1), (33, .istore 4, 2), (35, .aload_n 0, 1), (36, .getfield 12, 3), (39, .iload 4, 2), (41, .aload_n 1, 1), (42, .getfield 102, 3), (45, .iload 4, 2), (47, .iaload, 1), (48, .iload 4, 2), (50, .aload_n 2, 1), (51, .invokestatic 161, 3), (54, .iadd, 1), (55, .invokevirtual 124, 3), (58, .iinc 3 1, 3), (61, .goto (-42), 3), (64, .iconst 1, 1), (65, .ireturn, 1)]
/-- PricedBases$Maker.isPlus(LPricedBases$Valuation;LPricedBases$Valuation;)Z -/
def cd_41 : List (Nat × Instr × Nat) := [(0, .aload_n 2, 1), (1, .ifnull 28, 3), (4, .aload_n 0, 1), (5, .aload_n 1, 1), (6, .getfield 131, 3), (9, .aload_n 2, 1), (10, .getfield 131, 3), (13, .iadd, 1), (14, .aload_n 1, 1), (15, .getfield 120, 3), (18, .aload_n 2, 1), (19, .getfield 120, 3), (22, .iadd, 1), (23, .invokevirtual 50, 3), (26, .ifCond .ne 5, 3), (29, .iconst 0, 1), (30, .ireturn, 1), (31, .iconst 0, 1), (32, .istore_n 3, 1), (33, .iload_n 3, 1), (34, .aload_n 1, 1), (35, .getfield 148, 3), (38, .if_icmp .ge 76, 3), (41, .iconst 0, 1), (42, .istore 4, 2), (44, .iload 4, 2), (46, .aload_n 2, 1), (47, .getfield 148, 3), (50, .if_icmp .ge 58, 3), (53, .aload_n 1, 1), (54, .getfield 151, 3), (57, .iload_n 3, 1), (58, .iaload, 1), (59, .istore 5, 2), (61, .aload_n 2, 1), (62, .getfield 151, 3), (65, .iload 4, 2), (67, .iaload, 1), (68, .istore 6, 2), (70, .aload_n 0, 1), (71, .getfield 12, 3), (74, .iload 5, 2), (76, .iload 6, 2), (78, .aload_n 1, 1), (79, .getfield 131, 3), (82, .ishl, 1), (83, .ior, 1), (84, .aload_n 1, 1), (85, .getfield 102, 3), (88, .iload 5, 2), (90, .iaload, 1), (91, .aload_n 2, 1), (92, .getfield 102, 3), (95, .iload 6, 2), (97, .iaload, 1), (98, .iadd, 1), (99, .invokevirtual 124, 3), (102, .iinc 4 1, 3), (105, .goto (-61), 3), (108, .iinc 3 1, 3), (111, .goto (-78), 3), (114, .iconst 1, 1), (115, .ireturn, 1)]
/-- PricedBases$Maker.isCut(LPricedBases$Valuation;)Z -/
def cd_42 : List (Nat × Instr × Nat) := [(0, .aload_n 0, 1), (1, .aload_n 1, 1), (2, .getfield 131, 3), (5, .aload_n 1, 1), (6, .getfield 120, 3), (9, .iconst 1, 1), (10, .isub, 1), (11, .invokevirtual 50, 3), (14, .ifCond .ne 5, 3), (17, .iconst 0, 1), (18, .ireturn, 1), (19, .aload_n 0, 1), (20, .aload_n 1, 1), (21, .iconst 1, 1), (22, .invokevirtual 167, 3), (25, .iconst 1, 1), (26, .ireturn, 1)]
/-- PricedBases$Maker.isRaised(LPricedBases$Valuation;)Z -/
def cd_43 : List (Nat × Instr × Nat) := [(0, .aload_n 0, 1), (1, .aload_n 1, 1), (2, .getfield 131, 3), (5, .aload_n 1, 1), (6, .getfield 120, 3), (9, .iconst 1, 1), (10, .iadd, 1), (11, .invokevirtual 50, 3), (14, .ifCond .ne 5, 3), (17, .iconst 0, 1), (18, .ireturn, 1), (19, .aload_n 0, 1), (20, .aload_n 1, 1), (21, .iconst 0, 1), (22, .invokevirtual 167, 3), (25, .iconst 1, 1), (26, .ireturn, 1)]
/-- PricedBases$Maker.offerBeside(LPricedBases$Valuation;Z)V -/
def cd_44 : List (Nat × Instr × Nat) := [(0, .iconst 0, 1), (1, .istore_n 3, 1), (2, .iload_n 3, 1), (3, .aload_n 1, 1), (4, .getfield 148, 3), (7, .if_icmp .ge 67, 3), (10, .aload_n 1, 1), (11, .getfield 151, 3), (14, .iload_n 3, 1), (15, .iaload, 1), (16, .istore 4, 2), (18, .iconst 0, 1), (19, .istore 5, 2), (21, .iload 5, 2), (23, .aload_n 1, 1), (24, .getfield 131, 3), (27, .if_icmp .ge 41, 3), (30, .iload 4, 2), (32, .iload 5, 2), (34, .invokestatic 134, 3), (37, .iload_n 2, 1), (38, .if_icmp .ne 24, 3), (41, .aload_n 0, 1), (42, .getfield 12, 3), (45, .iload 4, 2), (47, .iconst 1, 1), (48, .iload 5, 2), (50, .ishl, 1), (51, .ixor, 1), (52, .aload_n 1, 1), (53, .getfield 102, 3), (56, .iload 4, 2), (58, .iaload, 1), (59, .invokevirtual 124, 3), (62, .iinc 5 1, 3), (65, .goto (-44), 3), (68, .iinc 3 1, 3), (71, .goto (-69), 3), (74, .return_, 1)]
/-- PricedBases$Maker.isInitial(LPricedBases$Valuation;[I)Z -/
def cd_45 : List (Nat × Instr × Nat) := [(0, .aload_n 0, 1), (1, .aload_n 1, 1), (2, .getfield 131, 3), (5, .aload_n 1, 1), (6, .getfield 120, 3), (9, .invokevirtual 50, 3), (12, .ifCond .ne 5, 3), (15, .iconst 0, 1), (16, .ireturn, 1), (17, .ldc 105, 2), (19, .istore_n 3, 1), (20, .iconst 0, 1), (21, .istore 4, 2), (23, .iload 4, 2), (25, .aload_n 1, 1), (26, .getfield 148, 3), (29, .if_icmp .ge 26, 3), (32, .iload_n 3, 1), (33, .aload_n 1, 1), (34, .aload_n 1, 1), (35, .getfield 151, 3), (38, .iload 4, 2), (40, .iaload, 1), (41, .aload_n 2, 1), (42, .invokestatic 171, 3), (45, .invokestatic 137, 3), (48, .istore_n 3, 1), (49, .iinc 4 1, 3), (52, .goto (-29), 3), (55, .iconst 0, 1), (56, .istore 4, 2), (58, .iload 4, 2), (60, .aload_n 1, 1), (61, .getfield 148, 3), (64, .if_icmp .ge 40, 3), (67, .aload_n 1, 1), (68, .aload_n 1, 1), (69, .getfield 151, 3), (72, .iload 4, 2), (74, .iaload, 1), (75, .aload_n 2, 1), (76, .invokestatic 171, 3), (79, .iload_n 3, 1), (80, .if_icmp .ne 18, 3), (83, .aload_n 0, 1), (84, .getfield 12, 3), (87, .aload_n 1, 1), (88, .getfield 151, 3), (91, .iload 4, 2), (93, .iaload, 1), (94, .iconst 0, 1), (95, .invokevirtual 124, 3), (98, .iinc 4 1, 3), (101, .goto (-43), 3), (104, .iconst 1, 1), (105, .ireturn, 1)]
/-- PricedBases$Maker.isJoined(LPricedBases$Valuation;LPricedBases$Valuation;)Z -/
def cd_46 : List (Nat × Instr × Nat) := [(0, .aload_n 1, 1), (1, .aload_n 2, 1), (2, .invokestatic 175, 3), (5, .ifCond .eq 23, 3), (8, .aload_n 0, 1), (9, .aload_n 1, 1), (10, .getfield 131, 3), (13, .aload_n 1, 1), (14, .getfield 120, 3), (17, .aload_n 2, 1), (18, .getfield 120, 3), (21, .iadd, 1), (22, .invokevirtual 50, 3), (25, .ifCond .ne 5, 3), (28, .iconst 0, 1), (29, .ireturn, 1), (30, .iconst 0, 1), (31, .istore_n 3, 1), (32, .iload_n 3, 1), (33, .aload_n 1, 1), (34, .getfield 148, 3), (37, .if_icmp .ge 79, 3), (40, .iconst 0, 1), (41, .istore 4, 2), (43, .iload 4, 2), (45, .aload_n 2, 1), (46, .getfield 148, 3), (49, .if_icmp .ge 61, 3), (52, .aload_n 1, 1), (53, .getfield 151, 3), (56, .iload_n 3, 1), (57, .iaload, 1), (58, .istore 5, 2), (60, .aload_n 2, 1), (61, .getfield 151, 3), (64, .iload 4, 2), (66, .iaload, 1), (67, .istore 6, 2), (69, .iload 5, 2), (71, .iload 6, 2), (73, .iand, 1), (74, .ifCond .ne 30, 3), (77, .aload_n 0, 1), (78, .getfield 12, 3), (81, .iload 5, 2), (83, .iload 6, 2), (85, .ior, 1), (86, .aload_n 1, 1), (87, .getfield 102, 3), (90, .iload 5, 2), (92, .iaload, 1), (93, .aload_n 2, 1), (94, .getfield 102, 3), (97, .iload 6, 2), (99, .iaload, 1), (100, .iadd, 1), (101, .invokevirtual 124, 3), (104, .iinc 4 1, 3), (107, .goto (-64), 3), (110, .iinc 3 1, 3), (113, .goto (-81), 3), (116, .iconst 1, 1), (117, .ireturn, 1)]
/-- PricedBases$Rows.<init>()V -/
def cd_47 : List (Nat × Instr × Nat) := [(0, .aload_n 0, 1), (1, .invokespecial 3, 3), (4, .aload_n 0, 1), (5, .bipush 8, 2), (7, .newarray .int, 2), (9, .putfield 9, 3), (12, .aload_n 0, 1), (13, .bipush 8, 2), (15, .newarray .int, 2), (17, .putfield 15, 3), (20, .aload_n 0, 1), (21, .sipush 256, 3), (24, .newarray .int, 2), (26, .putfield 18, 3), (29, .aload_n 0, 1), (30, .bipush 8, 2), (32, .newarray .long, 2), (34, .putfield 21, 3), (37, .aload_n 0, 1), (38, .bipush 8, 2), (40, .newarray .long, 2), (42, .putfield 25, 3), (45, .return_, 1)]
/-- PricedBases$Shape.loops(LPricedBases$Valuation;)I -/
def cd_48 : List (Nat × Instr × Nat) := [(0, .aload_n 0, 1), (1, .invokevirtual 9, 3), (4, .istore_n 1, 1), (5, .iconst 0, 1), (6, .istore_n 2, 1), (7, .iload_n 2, 1), (8, .aload_n 0, 1), (9, .getfield 15, 3), (12, .if_icmp .ge 20, 3), (15, .iload_n 1, 1), (16, .aload_n 0, 1), (17, .getfield 19, 3), (20, .iload_n 2, 1), (21, .iaload, 1), (22, .iconst (-1), 1), (23, .ixor, 1), (24, .iand, 1), (25, .istore_n 1, 1), (26, .iinc 2 1, 3), (29, .goto (-22), 3), (32, .iload_n 1, 1), (33, .ireturn, 1)]
/-- PricedBases$Shape.bridges(LPricedBases$Valuation;)I -/
def cd_49 : List (Nat × Instr × Nat) := [(0, .aload_n 0, 1), (1, .invokevirtual 9, 3), (4, .istore_n 1, 1), (5, .iconst 0, 1), (6, .istore_n 2, 1), (7, .iload_n 2, 1), (8, .aload_n 0, 1), (9, .getfield 15, 3), (12, .if_icmp .ge 18, 3), (15, .iload_n 1, 1), (16, .aload_n 0, 1), (17, .getfield 19, 3), (20, .iload_n 2, 1), (21, .iaload, 1), (22, .iand, 1), (23, .istore_n 1, 1), (24, .iinc 2 1, 3), (27, .goto (-20), 3), (30, .iload_n 1, 1), (31, .ireturn, 1)]
/-- PricedBases$Shape.freeSets(LPricedBases$Valuation;)I -/
def cd_50 : List (Nat × Instr × Nat) := [(0, .iconst 0, 1), (1, .istore_n 1, 1), (2, .iconst 0, 1), (3, .istore_n 2, 1), (4, .iload_n 2, 1), (5, .aload_n 0, 1), (6, .invokevirtual 23, 3), (9, .if_icmp .ge 20, 3), (12, .iload_n 1, 1), (13, .aload_n 0, 1), (14, .iload_n 2, 1), (15, .invokevirtual 26, 3), (18, .invokestatic 30, 3), (21, .iadd, 1), (22, .istore_n 1, 1), (23, .iinc 2 1, 3), (26, .goto (-22), 3), (29, .iload_n 1, 1), (30, .ireturn, 1)]
/-- PricedBases$Shape.freeSized(LPricedBases$Valuation;I)I -/
def cd_51 : List (Nat × Instr × Nat) := [(0, .iconst 0, 1), (1, .istore_n 2, 1), (2, .iconst 0, 1), (3, .istore_n 3, 1), (4, .iload_n 3, 1), (5, .aload_n 0, 1), (6, .invokevirtual 23, 3), (9, .if_icmp .ge 36, 3), (12, .iload_n 2, 1), (13, .iload_n 3, 1), (14, .invokestatic 34, 3), (17, .iload_n 1, 1), (18, .if_icmp .ne 15, 3), (21, .aload_n 0, 1), (22, .iload_n 3, 1), (23, .invokevirtual 26, 3), (26, .ifCond .eq 7, 3), (29, .iconst 1, 1), (30, .goto 4, 3), (33, .iconst 0, 1), (34, .invokestatic 30, 3), (37, .iadd, 1), (38, .istore_n 2, 1), (39, .iinc 3 1, 3), (42, .goto (-38), 3), (45, .iload_n 2, 1), (46, .ireturn, 1)]
/-- PricedBases$Shape.closed(LPricedBases$Valuation;I)I -/
def cd_52 : List (Nat × Instr × Nat) := [(0, .iload_n 1, 1), (1, .istore_n 2, 1), (2, .iconst 0, 1), (3, .istore_n 3, 1), (4, .iload_n 3, 1), (5, .aload_n 0, 1), (6, .getfield 40, 3), (9, .if_icmp .ge 34, 3), (12, .aload_n 0, 1), (13, .getfield 43, 3), (16, .iload_n 1, 1), (17, .iconst 1, 1), (18, .iload_n 3, 1), (19, .ishl, 1), (20, .ior, 1), (21, .iaload, 1), (22, .aload_n 0, 1), (23, .getfield 43, 3), (26, .iload_n 1, 1), (27, .iaload, 1), (28, .if_icmp .ne 9, 3), (31, .iload_n 2, 1), (32, .iconst 1, 1), (33, .iload_n 3, 1), (34, .ishl, 1), (35, .ior, 1), (36, .istore_n 2, 1), (37, .iinc 3 1, 3), (40, .goto (-36), 3), (43, .iload_n 2, 1), (44, .ireturn, 1)]
/-- PricedBases$Shape.flats(LPricedBases$Valuation;)I -/
def cd_53 : List (Nat × Instr × Nat) := [(0, .iconst 0, 1), (1, .istore_n 1, 1), (2, .iconst 0, 1), (3, .istore_n 2, 1), (4, .iload_n 2, 1), (5, .aload_n 0, 1), (6, .invokevirtual 23, 3), (9, .if_icmp .ge 29, 3), (12, .iload_n 1, 1), (13, .aload_n 0, 1), (14, .iload_n 2, 1), (15, .invokestatic 46, 3), (18, .iload_n 2, 1), (19, .if_icmp .ne 7, 3), (22, .iconst 1, 1), (23, .goto 4, 3), (26, .iconst 0, 1), (27, .invokestatic 30, 3), (30, .iadd, 1), (31, .istore_n 1, 1), (32, .iinc 2 1, 3), (35, .goto (-31), 3), (38, .iload_n 1, 1), (39, .ireturn, 1)]
/-- PricedBases$Shape.isCircuit(LPricedBases$Valuation;I)Z -/
def cd_54 : List (Nat × Instr × Nat) := [(0, .aload_n 0, 1), (1, .iload_n 1, 1), (2, .invokevirtual 26, 3), (5, .ifCond .eq 5, 3), (8, .iconst 0, 1), (9, .ireturn, 1), (10, .iconst 0, 1), (11, .istore_n 2, 1), (12, .iload_n 2, 1), (13, .aload_n 0, 1), (14, .getfield 40, 3), (17, .if_icmp .ge 31, 3), (20, .iload_n 1, 1), (21, .iload_n 2, 1), (22, .invokestatic 52, 3), (25, .ifCond .eq 17, 3), (28, .aload_n 0, 1), (29, .iload_n 1, 1), (30, .iconst 1, 1), (31, .iload_n 2, 1), (32, .ishl, 1), (33, .ixor, 1), (34, .invokevirtual 26, 3), (37, .ifCond .ne 5, 3), (40, .iconst 0, 1), (41, .ireturn, 1), (42, .iinc 2 1, 3), (45, .goto (-33), 3), (48, .iconst 1, 1), (49, .ireturn, 1)]
/-- PricedBases$Shape.circuits(LPricedBases$Valuation;)I -/
def cd_55 : List (Nat × Instr × Nat) := [(0, .iconst 0, 1), (1, .istore_n 1, 1), (2, .iconst 0, 1), (3, .istore_n 2, 1), (4, .iload_n 2, 1), (5, .aload_n 0, 1), (6, .invokevirtual 23, 3), (9, .if_icmp .ge 20, 3), (12, .iload_n 1, 1), (13, .aload_n 0, 1), (14, .iload_n 2, 1), (15, .invokestatic 56, 3), (18, .invokestatic 30, 3), (21, .iadd, 1), (22, .istore_n 1, 1), (23, .iinc 2 1, 3), (26, .goto (-22), 3), (29, .iload_n 1, 1), (30, .ireturn, 1)]
/-- PricedBases$Space.<init>()V -/
def cd_56 : List (Nat × Instr × Nat) := [(0, .aload_n 0, 1), (1, .invokespecial 3, 3), (4, .aload_n 0, 1), (5, .bipush 8, 2), (7, .newarray .int, 2), (9, .putfield 9, 3), (12, .return_, 1)]
/-- PricedBases$Space.takePrices(LPricedBases$Valuation;[I)V -/
def cd_57 : List (Nat × Instr × Nat) := [(0, .aload_n 2, 1), (1, .iconst 0, 1), (2, .aload_n 0, 1), (3, .getfield 9, 3), (6, .iconst 0, 1), (7, .bipush 8, 2), (9, .invokestatic 15, 3), (12, .aload_n 0, 1), (13, .aload_n 1, 1), (14, .invokevirtual 21, 3), (17, .putfield 27, 3), (20, .return_, 1)]
/-- PricedBases$Space.takeAround(LPricedBases$Valuation;I)V -/
def cd_58 : List (Nat × Instr × Nat) := [(0, .aload_n 0, 1), (1, .iconst 0, 1), (2, .putfield 27, 3), (5, .iconst 0, 1), (6, .istore_n 3, 1), (7, .iload_n 3, 1), (8, .aload_n 1, 1), (9, .getfield 31, 3), (12, .if_icmp .ge 57, 3), (15, .iload_n 2, 1), (16, .iload_n 3, 1), (17, .invokestatic 34, 3), (20, .ifCond .ne 43, 3), (23, .aload_n 1, 1), (24, .iload_n 2, 1), (25, .iconst 1, 1), (26, .iload_n 3, 1), (27, .ishl, 1), (28, .ior, 1), (29, .invokevirtual 38, 3), (32, .ifCond .eq 31, 3), (35, .aload_n 0, 1), (36, .getfield 9, 3), (39, .iload_n 3, 1), (40, .aload_n 1, 1), (41, .getfield 42, 3), (44, .iload_n 2, 1), (45, .iconst 1, 1), (46, .iload_n 3, 1), (47, .ishl, 1), (48, .ior, 1), (49, .iaload, 1), (50, .iastore, 1), (51, .aload_n 0, 1), (52, .dup, 1), (53, .getfield 27, 3), (56, .iconst 1, 1), (57, .iload_n 3, 1), (58, .ishl, 1), (59, .ior, 1), (60, .putfield 27, 3), (63, .iinc 3 1, 3), (66, .goto (-59), 3), (69, .return_, 1)]
/-- PricedBases$Space.failsAt(LPricedBases$Valuation;I)Z -/
def cd_59 : List (Nat × Instr × Nat) := [(0, .ldc 45, 2), (2, .istore_n 3, 1), (3, .iconst 0, 1), (4, .istore 4, 2), (6, .iconst 0, 1), (7, .istore 5, 2), (9, .iload 5, 2), (11, .aload_n 1, 1), (12, .getfield 31, 3), (15, .if_icmp .ge 88, 3), (18, .iload_n 2, 1), (19, .aload_n 0, 1), (20, .getfield 27, 3), (23, .iand, 1), (24, .iload 5, 2), (26, .invokestatic 34, 3), (29, .ifCond .eq 68, 3), (32, .aload_n 1, 1), (33, .iload_n 2, 1), (34, .iconst 1, 1), (35, .iload 5, 2), (37, .ishl, 1), (38, .ixor, 1), (39, .invokevirtual 38, 3), (42, .ifCond .eq 55, 3), (45, .aload_n 1, 1), (46, .getfield 42, 3), (49, .iload_n 2, 1), (50, .iconst 1, 1), (51, .iload 5, 2), (53, .ishl, 1), (54, .ixor, 1), (55, .iaload, 1), (56, .aload_n 0, 1), (57, .getfield 9, 3), (60, .iload 5, 2), (62, .iaload, 1), (63, .iadd, 1), (64, .istore 6, 2), (66, .iload 6, 2), (68, .iload_n 3, 1), (69, .if_icmp .le 9, 3), (72, .iload 6, 2), (74, .istore_n 3, 1), (75, .iconst 0, 1), (76, .istore 4, 2), (78, .iload 4, 2), (80, .iload 6, 2), (82, .iload_n 3, 1), (83, .if_icmp .ne 7, 3), (86, .iconst 1, 1), (87, .goto 4, 3), (90, .iconst 0, 1), (91, .invokestatic 46, 3), (94, .iadd, 1), (95, .istore 4, 2), (97, .iinc 5 1, 3), (100, .goto (-91), 3), (103, .iload 4, 2), (105, .iconst 1, 1), (106, .if_icmp .ne 7, 3), (109, .iconst 1, 1), (110, .goto 4, 3), (113, .iconst 0, 1), (114, .ireturn, 1)]
/-- PricedBases$Space.failingAt(LPricedBases$Valuation;I)I -/
def cd_60 : List (Nat × Instr × Nat) := [(0, .iload_n 2, 1), (1, .istore_n 3, 1), (2, .iconst 0, 1), (3, .istore 4, 2), (5, .iload 4, 2), (7, .aload_n 1, 1), (8, .invokevirtual 50, 3), (11, .if_icmp .ge 43, 3), (14, .iload 4, 2), (16, .invokestatic 53, 3), (19, .aload_n 1, 1), (20, .getfield 59, 3), (23, .iconst 1, 1), (24, .iadd, 1), (25, .if_icmp .ne 23, 3), (28, .aload_n 0, 1), (29, .aload_n 1, 1), (30, .iload 4, 2), (32, .invokevirtual 62, 3), (35, .ifCond .eq 13, 3), (38, .iload_n 3, 1), (39, .ifCond .ne 6, 3), (42, .iload 4, 2), (44, .ireturn, 1), (45, .iinc 3 (-1), 3), (48, .iinc 4 1, 3), (51, .goto (-46), 3), (54, .bipush (-4), 2), (56, .ireturn, 1)]
/-- PricedBases$Space.howManyFailing(LPricedBases$Valuation;)I -/
def cd_61 : List (Nat × Instr × Nat) := [(0, .iconst 0, 1), (1, .istore_n 2, 1), (2, .iconst 0, 1), (3, .istore_n 3, 1), (4, .iload_n 3, 1), (5, .aload_n 1, 1), (6, .invokevirtual 50, 3), (9, .if_icmp .ge 34, 3), (12, .iload_n 3, 1), (13, .invokestatic 53, 3), (16, .aload_n 1, 1), (17, .getfield 59, 3), (20, .iconst 1, 1), (21, .iadd, 1), (22, .if_icmp .ne 15, 3), (25, .iload_n 2, 1), (26, .aload_n 0, 1), (27, .aload_n 1, 1), (28, .iload_n 3, 1), (29, .invokevirtual 62, 3), (32, .invokestatic 46, 3), (35, .iadd, 1), (36, .istore_n 2, 1), (37, .iinc 3 1, 3), (40, .goto (-36), 3), (43, .iload_n 2, 1), (44, .ireturn, 1)]
/-- PricedBases$Space.isFull(LPricedBases$Valuation;)Z -/
def cd_62 : List (Nat × Instr × Nat) := [(0, .aload_n 0, 1), (1, .aload_n 1, 1), (2, .iconst 0, 1), (3, .invokevirtual 66, 3), (6, .bipush (-4), 2), (8, .if_icmp .ne 7, 3), (11, .iconst 1, 1), (12, .goto 4, 3), (15, .iconst 0, 1), (16, .ireturn, 1)]
/-- PricedBases$Space.howManySpanned(LPricedBases$Valuation;)I -/
def cd_63 : List (Nat × Instr × Nat) := [(0, .iconst 0, 1), (1, .istore_n 2, 1), (2, .iconst 0, 1), (3, .istore_n 3, 1), (4, .iload_n 3, 1), (5, .aload_n 1, 1), (6, .invokevirtual 50, 3), (9, .if_icmp .ge 47, 3), (12, .iload_n 3, 1), (13, .invokestatic 53, 3), (16, .aload_n 1, 1), (17, .getfield 59, 3), (20, .iconst 1, 1), (21, .isub, 1), (22, .if_icmp .ne 28, 3), (25, .aload_n 1, 1), (26, .iload_n 3, 1), (27, .invokevirtual 70, 3), (30, .ifCond .eq 20, 3), (33, .aload_n 0, 1), (34, .aload_n 1, 1), (35, .iload_n 3, 1), (36, .invokevirtual 73, 3), (39, .iload_n 2, 1), (40, .aload_n 0, 1), (41, .aload_n 1, 1), (42, .invokevirtual 77, 3), (45, .invokestatic 46, 3), (48, .iadd, 1), (49, .istore_n 2, 1), (50, .iinc 3 1, 3), (53, .goto (-49), 3), (56, .iload_n 2, 1), (57, .ireturn, 1)]
/-- PricedBases$State.<init>()V -/
def cd_64 : List (Nat × Instr × Nat) := [(0, .aload_n 0, 1), (1, .invokespecial 3, 3), (4, .aload_n 0, 1), (5, .iconst 4, 1), (6, .anewarray 9, 3), (9, .putfield 11, 3), (12, .aload_n 0, 1), (13, .bipush 8, 2), (15, .newarray .int, 2), (17, .putfield 17, 3), (20, .aload_n 0, 1), (21, .bipush 80, 2), (23, .newarray .int, 2), (25, .putfield 21, 3), (28, .aload_n 0, 1), (29, .iconst 0, 1), (30, .putfield 24, 3), (33, .aload_n 0, 1), (34, .iconst 1, 1), (35, .putfield 28, 3), (38, .iconst 0, 1), (39, .istore_n 1, 1), (40, .iload_n 1, 1), (41, .iconst 4, 1), (42, .if_icmp .ge 46, 3), (45, .new 9, 3), (48, .dup, 1), (49, .invokespecial 31, 3), (52, .astore_n 2, 1), (53, .aload_n 2, 1), (54, .iconst 2, 1), (55, .iconst 1, 1), (56, .invokevirtual 32, 3), (59, .aload_n 2, 1), (60, .iconst 1, 1), (61, .iconst 0, 1), (62, .invokevirtual 36, 3), (65, .aload_n 2, 1), (66, .iconst 2, 1), (67, .iconst 0, 1), (68, .invokevirtual 36, 3), (71, .aload_n 2, 1), (72, .invokevirtual 39, 3), (75, .aload_n 0, 1), (76, .getfield 11, 3), (79, .iload_n 1, 1), (80, .aload_n 2, 1), (81, .aastore, 1), (82, .iinc 1 1, 3), (85, .goto (-45), 3), (88, .return_, 1)]
/-- PricedBases$State.shelfAt(I)LPricedBases$Valuation; -/
def cd_65 : List (Nat × Instr × Nat) := [(0, .iload_n 1, 1), (1, .ifCond .lt 17, 3), (4, .iload_n 1, 1), (5, .iconst 4, 1), (6, .if_icmp .ge 12, 3), (9, .aload_n 0, 1), (10, .getfield 11, 3), (13, .iload_n 1, 1), (14, .aaload, 1), (15, .goto 4, 3), (18, .aconst_null, 1), (19, .areturn, 1)]
/-- PricedBases$State.setPrice(II)V -/
def cd_66 : List (Nat × Instr × Nat) := [(0, .iload_n 1, 1), (1, .ifCond .lt 16, 3), (4, .iload_n 1, 1), (5, .bipush 8, 2), (7, .if_icmp .ge 10, 3), (10, .aload_n 0, 1), (11, .getfield 17, 3), (14, .iload_n 1, 1), (15, .iload_n 2, 1), (16, .iastore, 1), (17, .return_, 1)]
/-- PricedBases$State.note(IIII)V -/
def cd_67 : List (Nat × Instr × Nat) := [(0, .aload_n 0, 1), (1, .getfield 21, 3), (4, .iconst 0, 1), (5, .aload_n 0, 1), (6, .getfield 21, 3), (9, .iconst 4, 1), (10, .bipush 76, 2), (12, .invokestatic 42, 3), (15, .aload_n 0, 1), (16, .getfield 21, 3), (19, .iconst 0, 1), (20, .iload_n 1, 1), (21, .iastore, 1), (22, .aload_n 0, 1), (23, .getfield 21, 3), (26, .iconst 1, 1), (27, .iload_n 2, 1), (28, .iastore, 1), (29, .aload_n 0, 1), (30, .getfield 21, 3), (33, .iconst 2, 1), (34, .iload_n 3, 1), (35, .iastore, 1), (36, .aload_n 0, 1), (37, .getfield 21, 3), (40, .iconst 3, 1), (41, .iload 4, 2), (43, .iastore, 1), (44, .aload_n 0, 1), (45, .aload_n 0, 1), (46, .getfield 24, 3), (49, .iconst 1, 1), (50, .iadd, 1), (51, .bipush 20, 2), (53, .invokestatic 48, 3), (56, .putfield 24, 3), (59, .return_, 1)]
/-- PricedBases$State.howManyBases()I -/
def cd_68 : List (Nat × Instr × Nat) := [(0, .iconst 0, 1), (1, .istore_n 1, 1), (2, .iconst 0, 1), (3, .istore_n 2, 1), (4, .iload_n 2, 1), (5, .iconst 4, 1), (6, .if_icmp .ge 21, 3), (9, .iload_n 1, 1), (10, .aload_n 0, 1), (11, .getfield 11, 3), (14, .iload_n 2, 1), (15, .aaload, 1), (16, .getfield 54, 3), (19, .iadd, 1), (20, .istore_n 1, 1), (21, .iinc 2 1, 3), (24, .goto (-20), 3), (27, .iload_n 1, 1), (28, .ireturn, 1)]
/-- PricedBases$Sums.<init>()V -/
def cd_69 : List (Nat × Instr × Nat) := [(0, .aload_n 0, 1), (1, .invokespecial 3, 3), (4, .aload_n 0, 1), (5, .sipush 256, 3), (8, .newarray .int, 2), (10, .putfield 9, 3), (13, .return_, 1)]
/-- PricedBases$Sums.ofPrices(I[I)I -/
def cd_70 : List (Nat × Instr × Nat) := [(0, .iconst 0, 1), (1, .istore_n 2, 1), (2, .iconst 0, 1), (3, .istore_n 3, 1), (4, .iload_n 3, 1), (5, .bipush 8, 2), (7, .if_icmp .ge 21, 3), (10, .iload_n 2, 1), (11, .iload_n 0, 1), (12, .iload_n 3, 1), (13, .ishr, 1), (14, .iconst 1, 1), (15, .iand, 1), (16, .aload_n 1, 1), (17, .iload_n 3, 1), (18, .iaload, 1), (19, .imul, 1), (20, .iadd, 1), (21, .istore_n 2, 1), (22, .iinc 3 1, 3), (25, .goto (-21), 3), (28, .iload_n 2, 1), (29, .ireturn, 1)]
/-- PricedBases$Sums.of(LPricedBases$Valuation;I[I)I -/
def cd_71 : List (Nat × Instr × Nat) := [(0, .aload_n 0, 1), (1, .getfield 15, 3), (4, .iload_n 1, 1), (5, .iaload, 1), (6, .iload_n 1, 1), (7, .aload_n 2, 1), (8, .invokestatic 20, 3), (11, .iadd, 1), (12, .ireturn, 1)]
/-- PricedBases$Sums.fill(LPricedBases$Valuation;[I)V -/
def cd_72 : List (Nat × Instr × Nat) := [(0, .aload_n 0, 1), (1, .getfield 9, 3), (4, .ldc 24, 2), (6, .invokestatic 25, 3), (9, .aload_n 0, 1), (10, .ldc 24, 2), (12, .putfield 31, 3), (15, .iconst 0, 1), (16, .istore_n 3, 1), (17, .iload_n 3, 1), (18, .aload_n 1, 1), (19, .getfield 35, 3), (22, .if_icmp .ge 49, 3), (25, .aload_n 1, 1), (26, .getfield 38, 3), (29, .iload_n 3, 1), (30, .iaload, 1), (31, .istore 4, 2), (33, .aload_n 0, 1), (34, .getfield 9, 3), (37, .iload 4, 2), (39, .aload_n 1, 1), (40, .iload 4, 2), (42, .aload_n 2, 1), (43, .invokestatic 41, 3), (46, .iastore, 1), (47, .aload_n 0, 1), (48, .aload_n 0, 1), (49, .getfield 31, 3), (52, .aload_n 0, 1), (53, .getfield 9, 3), (56, .iload 4, 2), (58, .iaload, 1), (59, .invokestatic 45, 3), (62, .putfield 31, 3), (65, .iinc 3 1, 3), (68, .goto (-51), 3), (71, .return_, 1)]
/-- PricedBases$Sums.isGreatest(I)Z -/
def cd_73 : List (Nat × Instr × Nat) := [(0, .aload_n 0, 1), (1, .getfield 9, 3), (4, .iload_n 1, 1), (5, .iaload, 1), (6, .aload_n 0, 1), (7, .getfield 31, 3), (10, .if_icmp .ne 7, 3), (13, .iconst 1, 1), (14, .goto 4, 3), (17, .iconst 0, 1), (18, .ireturn, 1)]
/-- PricedBases$Sums.climb(LPricedBases$Valuation;I)V -/
def cd_74 : List (Nat × Instr × Nat) := [(0, .aload_n 0, 1), (1, .iload_n 2, 1), (2, .putfield 51, 3), (5, .aload_n 0, 1), (6, .iconst 0, 1), (7, .putfield 54, 3), (10, .iconst 0, 1), (11, .istore_n 3, 1), (12, .iload_n 3, 1), (13, .aload_n 1, 1), (14, .getfield 35, 3), (17, .if_icmp .ge 46, 3), (20, .aload_n 0, 1), (21, .aload_n 1, 1), (22, .aload_n 0, 1), (23, .getfield 51, 3), (26, .invokevirtual 57, 3), (29, .istore 4, 2), (31, .iload 4, 2), (33, .aload_n 0, 1), (34, .getfield 51, 3), (37, .if_icmp .ne 4, 3), (40, .return_, 1), (41, .aload_n 0, 1), (42, .iload 4, 2), (44, .putfield 51, 3), (47, .aload_n 0, 1), (48, .dup, 1), (49, .getfield 54, 3), (52, .iconst 1, 1), (53, .iadd, 1), (54, .putfield 54, 3), (57, .iinc 3 1, 3), (60, .goto (-48), 3), (63, .return_, 1)]
/-- PricedBases$Sums.bestBeside(LPricedBases$Valuation;I)I -/
def cd_75 : List (Nat × Instr × Nat) := [(0, .iload_n 2, 1), (1, .istore_n 3, 1), (2, .iconst 0, 1), (3, .istore 4, 2), (5, .iload 4, 2), (7, .aload_n 1, 1), (8, .getfield 61, 3), (11, .if_icmp .ge 116, 3), (14, .iconst 0, 1), (15, .istore 5, 2), (17, .iload 5, 2), (19, .aload_n 1, 1), (20, .getfield 61, 3), (23, .if_icmp .ge 98, 3), (26, .iload_n 2, 1), (27, .iload 4, 2), (29, .invokestatic 64, 3), (32, .ifCond .eq 83, 3), (35, .iload_n 2, 1), (36, .iload 5, 2), (38, .invokestatic 64, 3), (41, .ifCond .ne 74, 3), (44, .iload_n 2, 1), (45, .iconst 1, 1), (46, .iload 4, 2), (48, .ishl, 1), (49, .iconst 1, 1), (50, .iload 5, 2), (52, .ishl, 1), (53, .ior, 1), (54, .ixor, 1), (55, .istore 6, 2), (57, .aload_n 0, 1), (58, .getfield 9, 3), (61, .iload 6, 2), (63, .iaload, 1), (64, .aload_n 0, 1), (65, .getfield 9, 3), (68, .iload_n 3, 1), (69, .iaload, 1), (70, .if_icmp .ne 12, 3), (73, .iload_n 3, 1), (74, .iload_n 2, 1), (75, .if_icmp .eq 7, 3), (78, .iconst 1, 1), (79, .goto 4, 3), (82, .iconst 0, 1), (83, .istore 7, 2), (85, .aload_n 0, 1), (86, .getfield 9, 3), (89, .iload 6, 2), (91, .iaload, 1), (92, .aload_n 0, 1), (93, .getfield 9, 3), (96, .iload_n 3, 1), (97, .iaload, 1), (98, .if_icmp .gt 14, 3), (101, .iload 7, 2), (103, .ifCond .eq 12, 3), (106, .iload 6, 2), (108, .iload_n 3, 1), (109, .if_icmp .ge 6, 3), (112, .iload 6, 2), (114, .istore_n 3, 1), (115, .iinc 5 1, 3), (118, .goto (-101), 3), (121, .iinc 4 1, 3), (124, .goto (-119), 3), (127, .iload_n 3, 1), (128, .ireturn, 1)]
/-- PricedBases$Sums.howManyGreatest(LPricedBases$Valuation;)I -/
def cd_76 : List (Nat × Instr × Nat) := [(0, .iconst 0, 1), (1, .istore_n 2, 1), (2, .iconst 0, 1), (3, .istore_n 3, 1), (4, .iload_n 3, 1), (5, .aload_n 1, 1), (6, .getfield 35, 3), (9, .if_icmp .ge 25, 3), (12, .iload_n 2, 1), (13, .aload_n 0, 1), (14, .aload_n 1, 1), (15, .getfield 38, 3), (18, .iload_n 3, 1), (19, .iaload, 1), (20, .invokevirtual 68, 3), (23, .invokestatic 72, 3), (26, .iadd, 1), (27, .istore_n 2, 1), (28, .iinc 3 1, 3), (31, .goto (-27), 3), (34, .iload_n 2, 1), (35, .ireturn, 1)]
/-- PricedBases$Sums.greatestAt(LPricedBases$Valuation;I)I -/
def cd_77 : List (Nat × Instr × Nat) := [(0, .iload_n 2, 1), (1, .istore_n 3, 1), (2, .iconst 0, 1), (3, .istore 4, 2), (5, .iload 4, 2), (7, .aload_n 1, 1), (8, .getfield 35, 3), (11, .if_icmp .ge 38, 3), (14, .aload_n 0, 1), (15, .aload_n 1, 1), (16, .getfield 38, 3), (19, .iload 4, 2), (21, .iaload, 1), (22, .invokevirtual 68, 3), (25, .ifCond .eq 18, 3), (28, .iload_n 3, 1), (29, .ifCond .ne 11, 3), (32, .aload_n 1, 1), (33, .getfield 38, 3), (36, .iload 4, 2), (38, .iaload, 1), (39, .ireturn, 1), (40, .iinc 3 (-1), 3), (43, .iinc 4 1, 3), (46, .goto (-41), 3), (49, .bipush (-4), 2), (51, .ireturn, 1)]
/-- PricedBases$Valuation.<init>()V -/
def cd_78 : List (Nat × Instr × Nat) := [(0, .aload_n 0, 1), (1, .invokespecial 3, 3), (4, .aload_n 0, 1), (5, .sipush 256, 3), (8, .newarray .int, 2), (10, .putfield 9, 3), (13, .aload_n 0, 1), (14, .sipush 256, 3), (17, .newarray .int, 2), (19, .putfield 15, 3), (22, .aload_n 0, 1), (23, .bipush 70, 2), (25, .newarray .int, 2), (27, .putfield 18, 3), (30, .return_, 1)]
/-- PricedBases$Valuation.open(II)V -/
def cd_79 : List (Nat × Instr × Nat) := [(0, .aload_n 0, 1), (1, .iload_n 1, 1), (2, .putfield 21, 3), (5, .aload_n 0, 1), (6, .iload_n 2, 1), (7, .putfield 25, 3), (10, .aload_n 0, 1), (11, .iconst 0, 1), (12, .putfield 28, 3), (15, .aload_n 0, 1), (16, .getfield 9, 3), (19, .ldc 31, 2), (21, .invokestatic 32, 3), (24, .return_, 1)]
/-- PricedBases$Valuation.offer(II)V -/
def cd_80 : List (Nat × Instr × Nat) := [(0, .iload_n 1, 1), (1, .ifCond .lt 26, 3), (4, .iload_n 1, 1), (5, .sipush 256, 3), (8, .if_icmp .ge 19, 3), (11, .aload_n 0, 1), (12, .getfield 9, 3), (15, .iload_n 1, 1), (16, .aload_n 0, 1), (17, .getfield 9, 3), (20, .iload_n 1, 1), (21, .iaload, 1), (22, .iload_n 2, 1), (23, .invokestatic 38, 3), (26, .iastore, 1), (27, .return_, 1)]
/-- PricedBases$Valuation.settle()V -/
def cd_81 : List (Nat × Instr × Nat) := [(0, .aload_n 0, 1), (1, .iconst 0, 1), (2, .putfield 28, 3), (5, .iconst 0, 1), (6, .istore_n 1, 1), (7, .iload_n 1, 1), (8, .sipush 256, 3), (11, .if_icmp .ge 49, 3), (14, .aload_n 0, 1), (15, .getfield 9, 3), (18, .iload_n 1, 1), (19, .iaload, 1), (20, .ldc 31, 2), (22, .if_icmp .eq 32, 3), (25, .aload_n 0, 1), (26, .getfield 28, 3), (29, .bipush 70, 2), (31, .if_icmp .ge 23, 3), (34, .aload_n 0, 1), (35, .getfield 18, 3), (38, .aload_n 0, 1), (39, .getfield 28, 3), (42, .iload_n 1, 1), (43, .iastore, 1), (44, .aload_n 0, 1), (45, .dup, 1), (46, .getfield 28, 3), (49, .iconst 1, 1), (50, .iadd, 1), (51, .putfield 28, 3), (54, .iinc 1 1, 3), (57, .goto (-50), 3), (60, .aload_n 0, 1), (61, .invokevirtual 44, 3), (64, .iconst 0, 1), (65, .istore_n 1, 1), (66, .iload_n 1, 1), (67, .sipush 256, 3), (70, .if_icmp .ge 29, 3), (73, .aload_n 0, 1), (74, .getfield 15, 3), (77, .iload_n 1, 1), (78, .iaload, 1), (79, .ifCond .ge 14, 3), (82, .aload_n 0, 1), (83, .getfield 15, 3), (86, .iload_n 1, 1), (87, .aload_n 0, 1), (88, .iload_n 1, 1), (89, .invokevirtual 47, 3), (92, .iastore, 1), (93, .iinc 1 1, 3), (96, .goto (-30), 3), (99, .return_, 1)]
/-- PricedBases$Valuation.markFree()V -/
def cd_82 : List (Nat × Instr × Nat) := [(0, .sipush 255, 3), (3, .istore_n 1, 1), (4, .iload_n 1, 1), (5, .ifCond .lt 91, 3), (8, .aload_n 0, 1), (9, .getfield 9, 3), (12, .iload_n 1, 1), (13, .iaload, 1), (14, .ldc 31, 2), (16, .if_icmp .eq 7, 3), (19, .iconst 1, 1), (20, .goto 4, 3), (23, .iconst 0, 1), (24, .istore_n 2, 1), (25, .iconst 0, 1), (26, .istore_n 3, 1), (27, .iload_n 3, 1), (28, .aload_n 0, 1), (29, .getfield 21, 3), (32, .if_icmp .ge 40, 3), (35, .iload_n 2, 1), (36, .ifCond .ne 36, 3), (39, .iload_n 1, 1), (40, .iload_n 3, 1), (41, .invokestatic 51, 3), (44, .ifCond .ne 20, 3), (47, .aload_n 0, 1), (48, .getfield 15, 3), (51, .iload_n 1, 1), (52, .iconst 1, 1), (53, .iload_n 3, 1), (54, .ishl, 1), (55, .ior, 1), (56, .iaload, 1), (57, .ifCond .lt 7, 3), (60, .iconst 1, 1), (61, .goto 4, 3), (64, .iconst 0, 1), (65, .istore_n 2, 1), (66, .iinc 3 1, 3), (69, .goto (-42), 3), (72, .aload_n 0, 1), (73, .getfield 15, 3), (76, .iload_n 1, 1), (77, .iload_n 2, 1), (78, .ifCond .eq 10, 3), (81, .iload_n 1, 1), (82, .invokestatic 55, 3), (85, .goto 4, 3), (88, .iconst (-1), 1), (89, .iastore, 1), (90, .iinc 1 (-1), 3), (93, .goto (-89), 3), (96, .return_, 1)]
/-- PricedBases$Valuation.rankByParts(I)I -/
def cd_83 : List (Nat × Instr × Nat) := [(0, .iconst 0, 1), (1, .istore_n 2, 1), (2, .iconst 0, 1), (3, .istore_n 3, 1), (4, .iload_n 3, 1), (5, .bipush 8, 2), (7, .if_icmp .ge 32, 3), (10, .iload_n 1, 1), (11, .iload_n 3, 1), (12, .invokestatic 51, 3), (15, .ifCond .eq 18, 3), (18, .iload_n 2, 1), (19, .aload_n 0, 1), (20, .getfield 15, 3), (23, .iload_n 1, 1), (24, .iconst 1, 1), (25, .iload_n 3, 1), (26, .ishl, 1), (27, .ixor, 1), (28, .iaload, 1), (29, .invokestatic 38, 3), (32, .istore_n 2, 1), (33, .iinc 3 1, 3), (36, .goto (-32), 3), (39, .iload_n 2, 1), (40, .ireturn, 1)]
/-- PricedBases$Valuation.take(LPricedBases$Valuation;)V -/
def cd_84 : List (Nat × Instr × Nat) := [(0, .aload_n 0, 1), (1, .aload_n 1, 1), (2, .getfield 21, 3), (5, .putfield 21, 3), (8, .aload_n 0, 1), (9, .aload_n 1, 1), (10, .getfield 25, 3), (13, .putfield 25, 3), (16, .aload_n 0, 1), (17, .aload_n 1, 1), (18, .getfield 28, 3), (21, .putfield 28, 3), (24, .aload_n 1, 1), (25, .getfield 9, 3), (28, .iconst 0, 1), (29, .aload_n 0, 1), (30, .getfield 9, 3), (33, .iconst 0, 1), (34, .sipush 256, 3), (37, .invokestatic 60, 3), (40, .aload_n 1, 1), (41, .getfield 15, 3), (44, .iconst 0, 1), (45, .aload_n 0, 1), (46, .getfield 15, 3), (49, .iconst 0, 1), (50, .sipush 256, 3), (53, .invokestatic 60, 3), (56, .aload_n 1, 1), (57, .getfield 18, 3), (60, .iconst 0, 1), (61, .aload_n 0, 1), (62, .getfield 18, 3), (65, .iconst 0, 1), (66, .bipush 70, 2), (68, .invokestatic 60, 3), (71, .return_, 1)]
/-- PricedBases$Valuation.sets()I -/
def cd_85 : List (Nat × Instr × Nat) := [(0, .iconst 1, 1), (1, .aload_n 0, 1), (2, .getfield 21, 3), (5, .ishl, 1), (6, .ireturn, 1)]
/-- PricedBases$Valuation.all()I -/
def cd_86 : List (Nat × Instr × Nat) := [(0, .aload_n 0, 1), (1, .invokevirtual 66, 3), (4, .iconst 1, 1), (5, .isub, 1), (6, .ireturn, 1)]
/-- PricedBases$Valuation.hasElement(I)Z -/
def cd_87 : List (Nat × Instr × Nat) := [(0, .iload_n 1, 1), (1, .ifCond .lt 15, 3), (4, .iload_n 1, 1), (5, .aload_n 0, 1), (6, .getfield 21, 3), (9, .if_icmp .ge 7, 3), (12, .iconst 1, 1), (13, .goto 4, 3), (16, .iconst 0, 1), (17, .ireturn, 1)]
/-- PricedBases$Valuation.hasSet(I)Z -/
def cd_88 : List (Nat × Instr × Nat) := [(0, .iload_n 1, 1), (1, .ifCond .lt 17, 3), (4, .iload_n 1, 1), (5, .iconst 1, 1), (6, .aload_n 0, 1), (7, .getfield 21, 3), (10, .ishl, 1), (11, .if_icmp .ge 7, 3), (14, .iconst 1, 1), (15, .goto 4, 3), (18, .iconst 0, 1), (19, .ireturn, 1)]
/-- PricedBases$Valuation.hasBase(I)Z -/
def cd_89 : List (Nat × Instr × Nat) := [(0, .aload_n 0, 1), (1, .iload_n 1, 1), (2, .invokevirtual 70, 3), (5, .ifCond .eq 18, 3), (8, .aload_n 0, 1), (9, .getfield 9, 3), (12, .iload_n 1, 1), (13, .iaload, 1), (14, .ldc 31, 2), (16, .if_icmp .eq 7, 3), (19, .iconst 1, 1), (20, .goto 4, 3), (23, .iconst 0, 1), (24, .ireturn, 1)]
/-- PricedBases$Valuation.isFree(I)Z -/
def cd_90 : List (Nat × Instr × Nat) := [(0, .aload_n 0, 1), (1, .getfield 15, 3), (4, .iload_n 1, 1), (5, .iaload, 1), (6, .iload_n 1, 1), (7, .invokestatic 55, 3), (10, .if_icmp .ne 7, 3), (13, .iconst 1, 1), (14, .goto 4, 3), (17, .iconst 0, 1), (18, .ireturn, 1)]
/-- PricedBases$Valuation.greatestValue()I -/
def cd_91 : List (Nat × Instr × Nat) := [(0, .aload_n 0, 1), (1, .getfield 9, 3), (4, .aload_n 0, 1), (5, .invokevirtual 74, 3), (8, .iaload, 1), (9, .ireturn, 1)]
/-- PricedBases$Valuation.leastGreatest()I -/
def cd_92 : List (Nat × Instr × Nat) := [(0, .aload_n 0, 1), (1, .getfield 18, 3), (4, .iconst 0, 1), (5, .iaload, 1), (6, .istore_n 1, 1), (7, .iconst 1, 1), (8, .istore_n 2, 1), (9, .iload_n 2, 1), (10, .aload_n 0, 1), (11, .getfield 28, 3), (14, .if_icmp .ge 36, 3), (17, .aload_n 0, 1), (18, .getfield 9, 3), (21, .aload_n 0, 1), (22, .getfield 18, 3), (25, .iload_n 2, 1), (26, .iaload, 1), (27, .iaload, 1), (28, .aload_n 0, 1), (29, .getfield 9, 3), (32, .iload_n 1, 1), (33, .iaload, 1), (34, .if_icmp .le 10, 3), (37, .aload_n 0, 1), (38, .getfield 18, 3), (41, .iload_n 2, 1), (42, .iaload, 1), (43, .istore_n 1, 1), (44, .iinc 2 1, 3), (47, .goto (-38), 3), (50, .iload_n 1, 1), (51, .ireturn, 1)]
/-- PricedBases$Ways.<init>()V -/
def cd_93 : List (Nat × Instr × Nat) := [(0, .aload_n 0, 1), (1, .invokespecial 3, 3), (4, .aload_n 0, 1), (5, .sipush 256, 3), (8, .newarray .int, 2), (10, .putfield 9, 3), (13, .aload_n 0, 1), (14, .sipush 256, 3), (17, .newarray .int, 2), (19, .putfield 15, 3), (22, .aload_n 0, 1), (23, .bipush 70, 2), (25, .newarray .int, 2), (27, .putfield 18, 3), (30, .return_, 1)]
/-- PricedBases.<init>()V -/
def cd_94 : List (Nat × Instr × Nat) := [(0, .aload_n 0, 1), (1, .invokespecial 1, 3), (4, .aload_n 0, 1), (5, .new 7, 3), (8, .dup, 1), (9, .invokespecial 9, 3), (12, .putfield 10, 3), (15, .aload_n 0, 1), (16, .new 7, 3), (19, .dup, 1), (20, .invokespecial 9, 3), (23, .putfield 16, 3), (26, .aload_n 0, 1), (27, .iconst 0, 1), (28, .putfield 19, 3), (31, .aload_n 0, 1), (32, .sipush 240, 3), (35, .newarray .int, 2), (37, .putfield 23, 3), (40, .aload_n 0, 1), (41, .iconst 0, 1), (42, .putfield 27, 3), (45, .aload_n 0, 1), (46, .new 31, 3), (49, .dup, 1), (50, .invokespecial 33, 3), (53, .putfield 34, 3), (56, .aload_n 0, 1), (57, .new 38, 3), (60, .dup, 1), (61, .invokespecial 40, 3), (64, .putfield 41, 3), (67, .aload_n 0, 1), (68, .new 45, 3), (71, .dup, 1), (72, .invokespecial 47, 3), (75, .putfield 48, 3), (78, .aload_n 0, 1), (79, .new 52, 3), (82, .dup, 1), (83, .invokespecial 54, 3), (86, .putfield 55, 3), (89, .aload_n 0, 1), (90, .new 59, 3), (93, .dup, 1), (94, .invokespecial 61, 3), (97, .putfield 62, 3), (100, .aload_n 0, 1), (101, .new 66, 3), (104, .dup, 1), (105, .invokespecial 68, 3), (108, .putfield 69, 3), (111, .aload_n 0, 1), (112, .new 73, 3), (115, .dup, 1), (116, .invokespecial 75, 3), (119, .putfield 76, 3), (122, .aload_n 0, 1), (123, .new 80, 3), (126, .dup, 1), (127, .invokespecial 82, 3), (130, .putfield 83, 3), (133, .aload_n 0, 1), (134, .sipush 256, 3), (137, .newarray .int, 2), (139, .putfield 87, 3), (142, .aload_n 0, 1), (143, .bipush 8, 2), (145, .newarray .int, 2), (147, .putfield 90, 3), (150, .return_, 1)]
/-- PricedBases.feed(IIIII)I -/
def cd_95 : List (Nat × Instr × Nat) := [(0, .aload_n 0, 1), (1, .getfield 27, 3), (4, .bipush 20, 2), (6, .iadd, 1), (7, .sipush 240, 3), (10, .if_icmp .le 5, 3), (13, .iconst (-1), 1), (14, .ireturn, 1), (15, .aload_n 0, 1), (16, .iload_n 1, 1), (17, .invokevirtual 93, 3), (20, .aload_n 0, 1), (21, .iload_n 2, 1), (22, .invokevirtual 93, 3), (25, .aload_n 0, 1), (26, .iload_n 3, 1), (27, .invokevirtual 93, 3), (30, .aload_n 0, 1), (31, .iload 4, 2), (33, .invokevirtual 93, 3), (36, .aload_n 0, 1), (37, .iload 5, 2), (39, .invokevirtual 93, 3), (42, .aload_n 0, 1), (43, .getfield 27, 3), (46, .ireturn, 1)]
/-- PricedBases.tapeBytes(I)V -/
def cd_96 : List (Nat × Instr × Nat) := [(0, .bipush 24, 2), (2, .istore_n 2, 1), (3, .iload_n 2, 1), (4, .ifCond .lt 45, 3), (7, .aload_n 0, 1), (8, .getfield 27, 3), (11, .sipush 240, 3), (14, .if_icmp .ge 29, 3), (17, .aload_n 0, 1), (18, .getfield 23, 3), (21, .aload_n 0, 1), (22, .getfield 27, 3), (25, .iload_n 1, 1), (26, .iload_n 2, 1), (27, .iushr, 1), (28, .sipush 255, 3), (31, .iand, 1), (32, .iastore, 1), (33, .aload_n 0, 1), (34, .dup, 1), (35, .getfield 27, 3), (38, .iconst 1, 1), (39, .iadd, 1), (40, .putfield 27, 3), (43, .iinc 2 (-8), 3), (46, .goto (-43), 3), (49, .return_, 1)]
/-- PricedBases.orders(I)I -/
def cd_97 : List (Nat × Instr × Nat) := [(0, .iload_n 1, 1), (1, .iconst 1, 1), (2, .if_icmp .lt 18, 3), (5, .iload_n 1, 1), (6, .sipush 200, 3), (9, .if_icmp .gt 11, 3), (12, .iload_n 1, 1), (13, .aload_n 0, 1), (14, .getfield 27, 3), (17, .if_icmp .le 5, 3), (20, .iconst (-1), 1), (21, .ireturn, 1), (22, .aload_n 0, 1), (23, .getfield 34, 3), (26, .aload_n 0, 1), (27, .getfield 23, 3), (30, .iload_n 1, 1), (31, .invokevirtual 97, 3), (34, .aload_n 0, 1), (35, .iconst 0, 1), (36, .putfield 27, 3), (39, .aload_n 0, 1), (40, .getfield 34, 3), (43, .getfield 101, 3), (46, .ifCond .eq 11, 3), (49, .aload_n 0, 1), (50, .getfield 34, 3), (53, .getfield 101, 3), (56, .ireturn, 1), (57, .iconst 0, 1), (58, .istore_n 2, 1), (59, .iload_n 2, 1), (60, .aload_n 0, 1), (61, .getfield 34, 3), (64, .getfield 104, 3), (67, .if_icmp .ge 19, 3), (70, .aload_n 0, 1), (71, .iload_n 2, 1), (72, .invokevirtual 107, 3), (75, .ifCond .ne 5, 3), (78, .iload_n 2, 1), (79, .ireturn, 1), (80, .iinc 2 1, 3), (83, .goto (-24), 3), (86, .aload_n 0, 1), (87, .getfield 34, 3), (90, .getfield 104, 3), (93, .ireturn, 1)]
/-- PricedBases.isDone(I)Z -/
def cd_98 : List (Nat × Instr × Nat) := [(0, .aload_n 0, 1), (1, .getfield 34, 3), (4, .iload_n 1, 1), (5, .iconst 0, 1), (6, .invokevirtual 111, 3), (9, .istore_n 2, 1), (10, .aload_n 0, 1), (11, .getfield 34, 3), (14, .iload_n 1, 1), (15, .invokevirtual 115, 3), (18, .ifCond .ne 22, 3), (21, .aload_n 0, 1), (22, .getfield 10, 3), (25, .iload_n 2, 1), (26, .aload_n 0, 1), (27, .getfield 34, 3), (30, .iload_n 1, 1), (31, .iconst 1, 1), (32, .invokevirtual 111, 3), (35, .invokevirtual 119, 3), (38, .iconst 1, 1), (39, .ireturn, 1), (40, .aload_n 0, 1), (41, .getfield 10, 3), (44, .iload_n 2, 1), (45, .invokevirtual 123, 3), (48, .astore_n 3, 1), (49, .aload_n 3, 1), (50, .ifnull 22, 3), (53, .aload_n 0, 1), (54, .getfield 41, 3), (57, .aload_n 0, 1), (58, .getfield 34, 3), (61, .iload_n 1, 1), (62, .aload_n 0, 1), (63, .getfield 10, 3), (66, .invokevirtual 127, 3), (69, .ifCond .ne 5, 3), (72, .iconst 0, 1), (73, .ireturn, 1), (74, .aload_n 0, 1), (75, .getfield 10, 3), (78, .iload_n 2, 1), (79, .aload_n 3, 1), (80, .getfield 131, 3), (83, .aload_n 0, 1), (84, .getfield 41, 3), (87, .getfield 136, 3), (90, .getfield 131, 3), (93, .aload_n 0, 1), (94, .getfield 41, 3), (97, .getfield 136, 3), (100, .getfield 140, 3), (103, .invokevirtual 143, 3), (106, .aload_n 3, 1), (107, .aload_n 0, 1), (108, .getfield 41, 3), (111, .getfield 136, 3), (114, .invokevirtual 147, 3), (117, .iconst 1, 1), (118, .ireturn, 1)]
/-- PricedBases.price(II)I -/
def cd_99 : List (Nat × Instr × Nat) := [(0, .iload_n 1, 1), (1, .ifCond .lt 23, 3), (4, .iload_n 1, 1), (5, .bipush 8, 2), (7, .if_icmp .ge 17, 3), (10, .iload_n 2, 1), (11, .sipush (-1000), 3), (14, .if_icmp .lt 10, 3), (17, .iload_n 2, 1), (18, .sipush 1000, 3), (21, .if_icmp .le 6, 3), (24, .ldc 151, 2), (26, .ireturn, 1), (27, .aload_n 0, 1), (28, .getfield 10, 3), (31, .getfield 152, 3), (34, .iload_n 1, 1), (35, .iaload, 1), (36, .istore_n 3, 1), (37, .aload_n 0, 1), (38, .getfield 10, 3), (41, .iload_n 1, 1), (42, .iload_n 2, 1), (43, .invokevirtual 119, 3), (46, .iload_n 3, 1), (47, .ireturn, 1)]
/-- PricedBases.shelf(II)I -/
def cd_100 : List (Nat × Instr × Nat) := [(0, .aload_n 0, 1), (1, .getfield 10, 3), (4, .iload_n 1, 1), (5, .invokevirtual 123, 3), (8, .astore_n 3, 1), (9, .aload_n 3, 1), (10, .ifnonnull 6, 3), (13, .ldc 151, 2), (15, .ireturn, 1), (16, .iload_n 2, 1), (17, .tableswitch 186 0 12 #[67, 72, 77, 82, 87, 92, 97, 102, 127, 156, 161, 166, 171], 67), (84, .aload_n 3, 1), (85, .getfield 140, 3), (88, .ireturn, 1), (89, .aload_n 3, 1), (90, .getfield 155, 3), (93, .ireturn, 1), (94, .aload_n 3, 1), (95, .getfield 131, 3), (98, .ireturn, 1), (99, .aload_n 3, 1), (100, .invokevirtual 158, 3), (103, .ireturn, 1), (104, .aload_n 3, 1), (105, .invokevirtual 162, 3), (108, .ireturn, 1), (109, .aload_n 3, 1), (110, .invokestatic 165, 3), (113, .ireturn, 1), (114, .aload_n 3, 1), (115, .invokestatic 171, 3), (118, .ireturn, 1), (119, .aload_n 0, 1), (120, .getfield 48, 3), (123, .aload_n 3, 1), (124, .aload_n 3, 1), (125, .getfield 174, 3), (128, .iconst 0, 1), (129, .invokevirtual 177, 3), (132, .ifCond .ne 7, 3), (135, .iconst 1, 1), (136, .goto 4, 3), (139, .iconst 0, 1), (140, .invokestatic 181, 3), (143, .ireturn, 1), (144, .aload_n 0, 1), (145, .getfield 48, 3), (148, .aload_n 3, 1), (149, .aload_n 0, 1), (150, .getfield 48, 3), (153, .aload_n 3, 1), (154, .invokevirtual 185, 3), (157, .iconst 0, 1), (158, .invokevirtual 177, 3), (161, .ifCond .ne 7, 3), (164, .iconst 1, 1), (165, .goto 4, 3), (168, .iconst 0, 1), (169, .invokestatic 181, 3), (172, .ireturn, 1), (173, .aload_n 3, 1), (174, .invokestatic 189, 3), (177, .ireturn, 1), (178, .aload_n 3, 1), (179, .invokestatic 192, 3), (182, .ireturn, 1), (183, .aload_n 3, 1), (184, .invokestatic 195, 3), (187, .ireturn, 1), (188, .aload_n 0, 1), (189, .getfield 48, 3), (192, .aload_n 3, 1), (193, .aload_n 3, 1), (194, .getfield 174, 3), (197, .ldc 198, 2), (199, .invokevirtual 177, 3), (202, .ireturn, 1), (203, .ldc 151, 2), (205, .ireturn, 1)]
/-- PricedBases.value(II)I -/
def cd_101 : List (Nat × Instr × Nat) := [(0, .aload_n 0, 1), (1, .getfield 10, 3), (4, .iload_n 1, 1), (5, .invokevirtual 123, 3), (8, .astore_n 3, 1), (9, .aload_n 3, 1), (10, .ifnull 11, 3), (13, .aload_n 3, 1), (14, .iload_n 2, 1), (15, .invokevirtual 199, 3), (18, .ifCond .ne 8, 3), (21, .ldc 151, 2), (23, .goto 9, 3), (26, .aload_n 3, 1), (27, .getfield 174, 3), (30, .iload_n 2, 1), (31, .iaload, 1), (32, .ireturn, 1)]
/-- PricedBases.base(II)I -/
def cd_102 : List (Nat × Instr × Nat) := [(0, .aload_n 0, 1), (1, .getfield 10, 3), (4, .iload_n 1, 1), (5, .invokevirtual 123, 3), (8, .astore_n 3, 1), (9, .aload_n 3, 1), (10, .ifnull 7, 3), (13, .iload_n 2, 1), (14, .ifCond .ge 5, 3), (17, .iconst (-1), 1), (18, .ireturn, 1), (19, .iload_n 2, 1), (20, .aload_n 3, 1), (21, .getfield 131, 3), (24, .if_icmp .ge 12, 3), (27, .aload_n 3, 1), (28, .getfield 202, 3), (31, .iload_n 2, 1), (32, .iaload, 1), (33, .goto 5, 3), (36, .bipush (-4), 2), (38, .ireturn, 1)]
/-- PricedBases.fault(III)I -/
def cd_103 : List (Nat × Instr × Nat) := [(0, .aload_n 0, 1), (1, .getfield 10, 3), (4, .iload_n 1, 1), (5, .invokevirtual 123, 3), (8, .astore 4, 2), (10, .aload 4, 2), (12, .ifnull 16, 3), (15, .iload_n 2, 1), (16, .ifCond .lt 12, 3), (19, .iload_n 3, 1), (20, .ifCond .lt 8, 3), (23, .iload_n 3, 1), (24, .iconst 2, 1), (25, .if_icmp .le 5, 3), (28, .iconst (-1), 1), (29, .ireturn, 1), (30, .aload_n 0, 1), (31, .getfield 48, 3), (34, .aload 4, 2), (36, .aload 4, 2), (38, .getfield 174, 3), (41, .iload_n 2, 1), (42, .invokevirtual 177, 3), (45, .iload_n 2, 1), (46, .if_icmp .gt 6, 3), (49, .bipush (-4), 2), (51, .ireturn, 1), (52, .iload_n 3, 1), (53, .ifCond .ne 13, 3), (56, .aload_n 0, 1), (57, .getfield 48, 3), (60, .getfield 205, 3), (63, .goto 25, 3), (66, .iload_n 3, 1), (67, .iconst 1, 1), (68, .if_icmp .ne 13, 3), (71, .aload_n 0, 1), (72, .getfield 48, 3), (75, .getfield 208, 3), (78, .goto 10, 3), (81, .aload_n 0, 1), (82, .getfield 48, 3), (85, .getfield 211, 3), (88, .ireturn, 1)]
/-- PricedBases.exchange(IIII)I -/
def cd_104 : List (Nat × Instr × Nat) := [(0, .aload_n 0, 1), (1, .getfield 10, 3), (4, .iload_n 1, 1), (5, .invokevirtual 123, 3), (8, .astore 5, 2), (10, .aload 5, 2), (12, .ifnull 31, 3), (15, .aload 5, 2), (17, .iload_n 2, 1), (18, .invokevirtual 199, 3), (21, .ifCond .eq 22, 3), (24, .aload 5, 2), (26, .iload_n 3, 1), (27, .invokevirtual 199, 3), (30, .ifCond .eq 13, 3), (33, .aload 5, 2), (35, .iload 4, 2), (37, .invokevirtual 214, 3), (40, .ifCond .ne 5, 3), (43, .iconst (-1), 1), (44, .ireturn, 1), (45, .iload_n 2, 1), (46, .iload_n 3, 1), (47, .iconst (-1), 1), (48, .ixor, 1), (49, .iand, 1), (50, .iload 4, 2), (52, .invokestatic 217, 3), (55, .ifCond .eq 18, 3), (58, .aload 5, 2), (60, .getfield 174, 3), (63, .iload_n 2, 1), (64, .iload_n 3, 1), (65, .iload 4, 2), (67, .invokestatic 221, 3), (70, .goto 4, 3), (73, .iconst (-1), 1), (74, .ireturn, 1)]
/-- PricedBases.greedy(III)I -/
def cd_105 : List (Nat × Instr × Nat) := [(0, .aload_n 0, 1), (1, .getfield 10, 3), (4, .iload_n 1, 1), (5, .invokevirtual 123, 3), (8, .astore 4, 2), (10, .aload 4, 2), (12, .ifnull 12, 3), (15, .aload 4, 2), (17, .iload_n 2, 1), (18, .invokevirtual 199, 3), (21, .ifCond .ne 6, 3), (24, .ldc 151, 2), (26, .ireturn, 1), (27, .aload_n 0, 1), (28, .getfield 55, 3), (31, .aload 4, 2), (33, .aload_n 0, 1), (34, .getfield 10, 3), (37, .getfield 152, 3), (40, .invokevirtual 238, 3), (43, .aload_n 0, 1), (44, .getfield 55, 3), (47, .aload 4, 2), (49, .iload_n 2, 1), (50, .invokevirtual 242, 3), (53, .iload_n 3, 1), (54, .tableswitch 80 0 3 #[30, 38, 54, 62], 30), (84, .aload_n 0, 1), (85, .getfield 55, 3), (88, .getfield 246, 3), (91, .ireturn, 1), (92, .aload_n 0, 1), (93, .getfield 55, 3), (96, .getfield 249, 3), (99, .aload_n 0, 1), (100, .getfield 55, 3), (103, .getfield 246, 3), (106, .iaload, 1), (107, .ireturn, 1), (108, .aload_n 0, 1), (109, .getfield 55, 3), (112, .getfield 250, 3), (115, .ireturn, 1), (116, .aload_n 0, 1), (117, .getfield 55, 3), (120, .aload_n 0, 1), (121, .getfield 55, 3), (124, .getfield 246, 3), (127, .invokevirtual 253, 3), (130, .invokestatic 181, 3), (133, .ireturn, 1), (134, .ldc 151, 2), (136, .ireturn, 1)]
/-- PricedBases.arrive(I)I -/
def cd_106 : List (Nat × Instr × Nat) := [(0, .aload_n 0, 1), (1, .getfield 10, 3), (4, .iload_n 1, 1), (5, .invokevirtual 123, 3), (8, .astore_n 2, 1), (9, .aload_n 2, 1), (10, .ifnonnull 5, 3), (13, .iconst (-1), 1), (14, .ireturn, 1), (15, .aload_n 0, 1), (16, .getfield 55, 3), (19, .aload_n 2, 1), (20, .aload_n 0, 1), (21, .getfield 10, 3), (24, .getfield 152, 3), (27, .invokevirtual 238, 3), (30, .iconst 0, 1), (31, .istore_n 3, 1), (32, .iconst 0, 1), (33, .istore 4, 2), (35, .iload 4, 2), (37, .aload_n 2, 1), (38, .getfield 131, 3), (41, .if_icmp .ge 44, 3), (44, .aload_n 0, 1), (45, .getfield 55, 3), (48, .aload_n 2, 1), (49, .aload_n 2, 1), (50, .getfield 202, 3), (53, .iload 4, 2), (55, .iaload, 1), (56, .invokevirtual 242, 3), (59, .iload_n 3, 1), (60, .aload_n 0, 1), (61, .getfield 55, 3), (64, .aload_n 0, 1), (65, .getfield 55, 3), (68, .getfield 246, 3), (71, .invokevirtual 253, 3), (74, .invokestatic 181, 3), (77, .iadd, 1), (78, .istore_n 3, 1), (79, .iinc 4 1, 3), (82, .goto (-47), 3), (85, .iload_n 3, 1), (86, .ireturn, 1)]
/-- PricedBases.initial(II)I -/
def cd_107 : List (Nat × Instr × Nat) := [(0, .aload_n 0, 1), (1, .getfield 10, 3), (4, .iload_n 1, 1), (5, .invokevirtual 123, 3), (8, .astore_n 3, 1), (9, .aload_n 3, 1), (10, .ifnonnull 6, 3), (13, .ldc 151, 2), (15, .ireturn, 1), (16, .aload_n 0, 1), (17, .getfield 55, 3), (20, .aload_n 3, 1), (21, .aload_n 0, 1), (22, .getfield 10, 3), (25, .getfield 152, 3), (28, .invokevirtual 238, 3), (31, .iload_n 2, 1), (32, .bipush 10, 2), (34, .if_icmp .lt 16, 3), (37, .aload_n 0, 1), (38, .getfield 55, 3), (41, .aload_n 3, 1), (42, .iload_n 2, 1), (43, .bipush 10, 2), (45, .isub, 1), (46, .invokevirtual 256, 3), (49, .ireturn, 1), (50, .iload_n 2, 1), (51, .tableswitch 75 0 2 #[25, 34, 42], 25), (76, .aload_n 0, 1), (77, .getfield 55, 3), (80, .aload_n 3, 1), (81, .invokevirtual 259, 3), (84, .ireturn, 1), (85, .aload_n 0, 1), (86, .getfield 55, 3), (89, .getfield 262, 3), (92, .ireturn, 1), (93, .aload_n 0, 1), (94, .getfield 48, 3), (97, .aload_n 3, 1), (98, .aload_n 0, 1), (99, .getfield 48, 3), (102, .aload_n 3, 1), (103, .aload_n 0, 1), (104, .getfield 55, 3), (107, .invokevirtual 265, 3), (110, .iconst 0, 1), (111, .invokevirtual 177, 3), (114, .ifCond .ne 7, 3), (117, .iconst 1, 1), (118, .goto 4, 3), (121, .iconst 0, 1), (122, .invokestatic 181, 3), (125, .ireturn, 1), (126, .ldc 151, 2), (128, .ireturn, 1)]
/-- PricedBases.space(I)I -/
def cd_108 : List (Nat × Instr × Nat) := [(0, .aload_n 0, 1), (1, .getfield 10, 3), (4, .iload_n 1, 1), (5, .invokevirtual 123, 3), (8, .astore_n 2, 1), (9, .aload_n 2, 1), (10, .ifnonnull 5, 3), (13, .iconst (-1), 1), (14, .ireturn, 1), (15, .aload_n 0, 1), (16, .getfield 62, 3), (19, .aload_n 2, 1), (20, .aload_n 0, 1), (21, .getfield 10, 3), (24, .getfield 152, 3), (27, .invokevirtual 269, 3), (30, .aload_n 0, 1), (31, .getfield 62, 3), (34, .aload_n 2, 1), (35, .invokevirtual 272, 3), (38, .invokestatic 181, 3), (41, .ireturn, 1)]
/-- PricedBases.failing(II)I -/
def cd_109 : List (Nat × Instr × Nat) := [(0, .aload_n 0, 1), (1, .getfield 10, 3), (4, .iload_n 1, 1), (5, .invokevirtual 123, 3), (8, .astore_n 3, 1), (9, .aload_n 3, 1), (10, .ifnull 8, 3), (13, .iload_n 2, 1), (14, .iconst (-1), 1), (15, .if_icmp .ge 5, 3), (18, .iconst (-1), 1), (19, .ireturn, 1), (20, .aload_n 0, 1), (21, .getfield 62, 3), (24, .aload_n 3, 1), (25, .aload_n 0, 1), (26, .getfield 10, 3), (29, .getfield 152, 3), (32, .invokevirtual 269, 3), (35, .iload_n 2, 1), (36, .iconst (-1), 1), (37, .if_icmp .ne 14, 3), (40, .aload_n 0, 1), (41, .getfield 62, 3), (44, .aload_n 3, 1), (45, .invokevirtual 276, 3), (48, .goto 12, 3), (51, .aload_n 0, 1), (52, .getfield 62, 3), (55, .aload_n 3, 1), (56, .iload_n 2, 1), (57, .invokevirtual 279, 3), (60, .ireturn, 1)]
/-- PricedBases.spanned(II)I -/
def cd_110 : List (Nat × Instr × Nat) := [(0, .aload_n 0, 1), (1, .getfield 10, 3), (4, .iload_n 1, 1), (5, .invokevirtual 123, 3), (8, .astore_n 3, 1), (9, .aload_n 3, 1), (10, .ifnull 12, 3), (13, .iload_n 2, 1), (14, .ifCond .lt 8, 3), (17, .iload_n 2, 1), (18, .iconst 1, 1), (19, .if_icmp .le 5, 3), (22, .iconst (-1), 1), (23, .ireturn, 1), (24, .iload_n 2, 1), (25, .ifCond .ne 16, 3), (28, .aload_n 3, 1), (29, .aload_n 3, 1), (30, .getfield 155, 3), (33, .iconst 1, 1), (34, .isub, 1), (35, .invokestatic 282, 3), (38, .goto 11, 3), (41, .aload_n 0, 1), (42, .getfield 62, 3), (45, .aload_n 3, 1), (46, .invokevirtual 285, 3), (49, .ireturn, 1)]
/-- PricedBases.count(I)I -/
def cd_111 : List (Nat × Instr × Nat) := [(0, .iload_n 1, 1), (1, .tableswitch 48 0 2 #[27, 32, 40], 27), (28, .aload_n 0, 1), (29, .getfield 27, 3), (32, .ireturn, 1), (33, .aload_n 0, 1), (34, .getfield 10, 3), (37, .getfield 413, 3), (40, .ireturn, 1), (41, .aload_n 0, 1), (42, .getfield 10, 3), (45, .invokevirtual 426, 3), (48, .ireturn, 1), (49, .iconst (-1), 1), (50, .ireturn, 1)]
/-- PricedBases.bit(Z)I -/
def cd_112 : List (Nat × Instr × Nat) := [(0, .iload_n 0, 1), (1, .ifCond .eq 7, 3), (4, .iconst 1, 1), (5, .goto 4, 3), (8, .iconst 0, 1), (9, .ireturn, 1)]
/-- PricedBases.isIn(II)Z -/
def cd_113 : List (Nat × Instr × Nat) := [(0, .iload_n 0, 1), (1, .iload_n 1, 1), (2, .ishr, 1), (3, .iconst 1, 1), (4, .iand, 1), (5, .iconst 1, 1), (6, .if_icmp .ne 7, 3), (9, .iconst 1, 1), (10, .goto 4, 3), (13, .iconst 0, 1), (14, .ireturn, 1)]
/-- PricedBases.haveSameElements(LPricedBases$Valuation;LPricedBases$Valuation;)Z -/
def cd_114 : List (Nat × Instr × Nat) := [(0, .aload_n 0, 1), (1, .ifnull 22, 3), (4, .aload_n 1, 1), (5, .ifnull 18, 3), (8, .aload_n 0, 1), (9, .getfield 140, 3), (12, .aload_n 1, 1), (13, .getfield 140, 3), (16, .if_icmp .ne 7, 3), (19, .iconst 1, 1), (20, .goto 4, 3), (23, .iconst 0, 1), (24, .ireturn, 1)]
/-- java/lang/Integer.bitCount(I)I -/
def cd_115 : List (Nat × Instr × Nat) := [(0, .iload_n 0, 1), (1, .iload_n 0, 1), (2, .iconst 1, 1), (3, .iushr, 1), (4, .ldc_w 265, 3), (7, .iand, 1), (8, .isub, 1), (9, .istore_n 0, 1), (10, .iload_n 0, 1), (11, .ldc_w 266, 3), (14, .iand, 1), (15, .iload_n 0, 1), (16, .iconst 2, 1), (17, .iushr, 1), (18, .ldc_w 266, 3), (21, .iand, 1), (22, .iadd, 1), (23, .istore_n 0, 1), (24, .iload_n 0, 1), (25, .iload_n 0, 1), (26, .iconst 4, 1), (27, .iushr, 1), (28, .iadd, 1), (29, .ldc_w 267, 3), (32, .iand, 1), (33, .istore_n 0, 1), (34, .iload_n 0, 1), (35, .iload_n 0, 1), (36, .bipush 8, 2), (38, .iushr, 1), (39, .iadd, 1), (40, .istore_n 0, 1), (41, .iload_n 0, 1), (42, .iload_n 0, 1), (43, .bipush 16, 2), (45, .iushr, 1), (46, .iadd, 1), (47, .istore_n 0, 1), (48, .iload_n 0, 1), (49, .bipush 63, 2), (51, .iand, 1), (52, .ireturn, 1)]
/-- java/util/Arrays.fill([II)V -/
def cd_116 : List (Nat × Instr × Nat) := [(0, .iconst 0, 1), (1, .istore_n 2, 1), (2, .aload_n 0, 1), (3, .arraylength, 1), (4, .istore_n 3, 1), (5, .iload_n 2, 1), (6, .iload_n 3, 1), (7, .if_icmp .ge 13, 3), (10, .aload_n 0, 1), (11, .iload_n 2, 1), (12, .iload_n 1, 1), (13, .iastore, 1), (14, .iinc 2 1, 3), (17, .goto (-12), 3), (20, .return_, 1)]
/-- PricedBasesLaw.tell(LPricedBases;[II)V -/
def cd_117 : List (Nat × Instr × Nat) := [(0, .iconst 0, 1), (1, .istore_n 3, 1), (2, .iload_n 3, 1), (3, .iload_n 2, 1), (4, .if_icmp .ge 115, 3), (7, .iconst 5, 1), (8, .newarray .int, 2), (10, .dup, 1), (11, .iconst 0, 1), (12, .iconst 0, 1), (13, .iastore, 1), (14, .dup, 1), (15, .iconst 1, 1), (16, .iconst 0, 1), (17, .iastore, 1), (18, .dup, 1), (19, .iconst 2, 1), (20, .iconst 0, 1), (21, .iastore, 1), (22, .dup, 1), (23, .iconst 3, 1), (24, .iconst 0, 1), (25, .iastore, 1), (26, .dup, 1), (27, .iconst 4, 1), (28, .iconst 0, 1), (29, .iastore, 1), (30, .astore 4, 2), (32, .iconst 0, 1), (33, .istore 5, 2), (35, .iload 5, 2), (37, .bipush 20, 2), (39, .if_icmp .ge 49, 3), (42, .aload 4, 2), (44, .iload 5, 2), (46, .iconst 4, 1), (47, .idiv, 1), (48, .aload 4, 2), (50, .iload 5, 2), (52, .iconst 4, 1), (53, .idiv, 1), (54, .iaload, 1), (55, .bipush 8, 2), (57, .ishl, 1), (58, .iload_n 3, 1), (59, .iload 5, 2), (61, .iadd, 1), (62, .iload_n 2, 1), (63, .if_icmp .ge 16, 3), (66, .aload_n 1, 1), (67, .iload_n 3, 1), (68, .iload 5, 2), (70, .iadd, 1), (71, .iaload, 1), (72, .sipush 255, 3), (75, .iand, 1), (76, .goto 4, 3), (79, .iconst 0, 1), (80, .ior, 1), (81, .iastore, 1), (82, .iinc 5 1, 3), (85, .goto (-50), 3), (88, .aload_n 0, 1), (89, .aload 4, 2), (91, .iconst 0, 1), (92, .iaload, 1), (93, .aload 4, 2), (95, .iconst 1, 1), (96, .iaload, 1), (97, .aload 4, 2), (99, .iconst 2, 1), (100, .iaload, 1), (101, .aload 4, 2), (103, .iconst 3, 1), (104, .iaload, 1), (105, .aload 4, 2), (107, .iconst 4, 1), (108, .iaload, 1), (109, .invokevirtual 7, 3), (112, .pop, 1), (113, .iinc 3 20, 3), (116, .goto (-114), 3), (119, .return_, 1)]
/-- PricedBasesLaw.next([I)I -/
def cd_118 : List (Nat × Instr × Nat) := [(0, .aload_n 0, 1), (1, .iconst 0, 1), (2, .aload_n 0, 1), (3, .iconst 0, 1), (4, .iaload, 1), (5, .ldc 13, 2), (7, .imul, 1), (8, .sipush 12345, 3), (11, .iadd, 1), (12, .iastore, 1), (13, .aload_n 0, 1), (14, .iconst 0, 1), (15, .dup2, 1), (16, .iaload, 1), (17, .aload_n 0, 1), (18, .iconst 0, 1), (19, .iaload, 1), (20, .bipush 15, 2), (22, .iushr, 1), (23, .ixor, 1), (24, .iastore, 1), (25, .aload_n 0, 1), (26, .iconst 0, 1), (27, .iaload, 1), (28, .bipush 9, 2), (30, .iushr, 1), (31, .ireturn, 1)]
/-- PricedBasesLaw.number([III)I -/
def cd_119 : List (Nat × Instr × Nat) := [(0, .iload_n 1, 1), (1, .iconst 1, 1), (2, .iadd, 1), (3, .istore_n 3, 1), (4, .aload_n 0, 1), (5, .iload_n 1, 1), (6, .bipush 32, 2), (8, .iastore, 1), (9, .iload_n 2, 1), (10, .ifCond .ge 11, 3), (13, .aload_n 0, 1), (14, .iload_n 3, 1), (15, .bipush 45, 2), (17, .iastore, 1), (18, .iinc 3 1, 3), (21, .iload_n 2, 1), (22, .invokestatic 14, 3), (25, .istore 4, 2), (27, .iconst 1, 1), (28, .istore 5, 2), (30, .iload 4, 2), (32, .iload 5, 2), (34, .idiv, 1), (35, .bipush 9, 2), (37, .if_icmp .le 13, 3), (40, .iload 5, 2), (42, .bipush 10, 2), (44, .imul, 1), (45, .istore 5, 2), (47, .goto (-17), 3), (50, .iload 5, 2), (52, .istore 6, 2), (54, .iload 6, 2), (56, .ifCond .le 30, 3), (59, .aload_n 0, 1), (60, .iload_n 3, 1), (61, .bipush 48, 2), (63, .iload 4, 2), (65, .iload 6, 2), (67, .idiv, 1), (68, .bipush 10, 2), (70, .irem, 1), (71, .iadd, 1), (72, .iastore, 1), (73, .iinc 3 1, 3), (76, .iload 6, 2), (78, .bipush 10, 2), (80, .idiv, 1), (81, .istore 6, 2), (83, .goto (-29), 3), (86, .iload_n 3, 1), (87, .ireturn, 1)]
/-- PricedBasesLaw.word([II[I)I -/
def cd_120 : List (Nat × Instr × Nat) := [(0, .iload_n 1, 1), (1, .istore_n 3, 1), (2, .iload_n 3, 1), (3, .ifCond .le 11, 3), (6, .aload_n 0, 1), (7, .iload_n 3, 1), (8, .bipush 59, 2), (10, .iastore, 1), (11, .iinc 3 1, 3), (14, .iconst 0, 1), (15, .istore 4, 2), (17, .iload 4, 2), (19, .aload_n 2, 1), (20, .arraylength, 1), (21, .if_icmp .ge 19, 3), (24, .aload_n 0, 1), (25, .iload_n 3, 1), (26, .iload 4, 2), (28, .iadd, 1), (29, .aload_n 2, 1), (30, .iload 4, 2), (32, .iaload, 1), (33, .iastore, 1), (34, .iinc 4 1, 3), (37, .goto (-20), 3), (40, .iload_n 3, 1), (41, .aload_n 2, 1), (42, .arraylength, 1), (43, .iadd, 1), (44, .ireturn, 1)]
/-- PricedBasesLaw.has(II)Z -/
def cd_121 : List (Nat × Instr × Nat) := [(0, .iload_n 0, 1), (1, .iload_n 1, 1), (2, .ishr, 1), (3, .iconst 1, 1), (4, .iand, 1), (5, .iconst 1, 1), (6, .if_icmp .ne 7, 3), (9, .iconst 1, 1), (10, .goto 4, 3), (13, .iconst 0, 1), (14, .ireturn, 1)]
/-- PricedBasesLaw.made(LPricedBases;III[I)I -/
def cd_122_0 : List (Nat × Instr × Nat) := [(0, .sipush 240, 3), (3, .newarray .int, 2), (5, .dup, 1), (6, .iconst 0, 1), (7, .iconst 0, 1), (8, .iastore, 1), (9, .dup, 1), (10, .iconst 1, 1), (11, .iconst 0, 1), (12, .iastore, 1), (13, .dup, 1), (14, .iconst 2, 1), (15, .iconst 0, 1), (16, .iastore, 1), (17, .dup, 1), (18, .iconst 3, 1), (19, .iconst 0, 1), (20, .iastore, 1), (21, .dup, 1), (22, .iconst 4, 1), (23, .iconst 0, 1), (24, .iastore, 1), (25, .dup, 1), (26, .iconst 5, 1), (27, .iconst 0, 1), (28, .iastore, 1), (29, .dup, 1), (30, .bipush 6, 2), (32, .iconst 0, 1), (33, .iastore, 1), (34, .dup, 1), (35, .bipush 7, 2), (37, .iconst 0, 1), (38, .iastore, 1), (39, .dup, 1), (40, .bipush 8, 2), (42, .iconst 0, 1), (43, .iastore, 1), (44, .dup, 1), (45, .bipush 9, 2), (47, .iconst 0, 1), (48, .iastore, 1), (49, .dup, 1), (50, .bipush 10, 2), (52, .iconst 0, 1), (53, .iastore, 1), (54, .dup, 1), (55, .bipush 11, 2), (57, .iconst 0, 1), (58, .iastore, 1), (59, .dup, 1), (60, .bipush 12, 2), (62, .iconst 0, 1), (63, .iastore, 1), (64, .dup, 1), (65, .bipush 13, 2), (67, .iconst 0, 1), (68, .iastore, 1), (69, .dup, 1), (70, .bipush 14, 2)]
def cd_122_1 : List (Nat × Instr × Nat) := [(72, .iconst 0, 1), (73, .iastore, 1), (74, .dup, 1), (75, .bipush 15, 2), (77, .iconst 0, 1), (78, .iastore, 1), (79, .dup, 1), (80, .bipush 16, 2), (82, .iconst 0, 1), (83, .iastore, 1), (84, .dup, 1), (85, .bipush 17, 2), (87, .iconst 0, 1), (88, .iastore, 1), (89, .dup, 1), (90, .bipush 18, 2), (92, .iconst 0, 1), (93, .iastore, 1), (94, .dup, 1), (95, .bipush 19, 2), (97, .iconst 0, 1), (98, .iastore, 1), (99, .dup, 1), (100, .bipush 20, 2), (102, .iconst 0, 1), (103, .iastore, 1), (104, .dup, 1), (105, .bipush 21, 2), (107, .iconst 0, 1), (108, .iastore, 1), (109, .dup, 1), (110, .bipush 22, 2), (112, .iconst 0, 1), (113, .iastore, 1), (114, .dup, 1), (115, .bipush 23, 2), (117, .iconst 0, 1), (118, .iastore, 1), (119, .dup, 1), (120, .bipush 24, 2), (122, .iconst 0, 1), (123, .iastore, 1), (124, .dup, 1), (125, .bipush 25, 2), (127, .iconst 0, 1), (128, .iastore, 1), (129, .dup, 1), (130, .bipush 26, 2), (132, .iconst 0, 1), (133, .iastore, 1), (134, .dup, 1), (135, .bipush 27, 2), (137, .iconst 0, 1), (138, .iastore, 1), (139, .dup, 1), (140, .bipush 28, 2), (142, .iconst 0, 1), (143, .iastore, 1), (144, .dup, 1), (145, .bipush 29, 2)]
def cd_122_2 : List (Nat × Instr × Nat) := [(147, .iconst 0, 1), (148, .iastore, 1), (149, .dup, 1), (150, .bipush 30, 2), (152, .iconst 0, 1), (153, .iastore, 1), (154, .dup, 1), (155, .bipush 31, 2), (157, .iconst 0, 1), (158, .iastore, 1), (159, .dup, 1), (160, .bipush 32, 2), (162, .iconst 0, 1), (163, .iastore, 1), (164, .dup, 1), (165, .bipush 33, 2), (167, .iconst 0, 1), (168, .iastore, 1), (169, .dup, 1), (170, .bipush 34, 2), (172, .iconst 0, 1), (173, .iastore, 1), (174, .dup, 1), (175, .bipush 35, 2), (177, .iconst 0, 1), (178, .iastore, 1), (179, .dup, 1), (180, .bipush 36, 2), (182, .iconst 0, 1), (183, .iastore, 1), (184, .dup, 1), (185, .bipush 37, 2), (187, .iconst 0, 1), (188, .iastore, 1), (189, .dup, 1), (190, .bipush 38, 2), (192, .iconst 0, 1), (193, .iastore, 1), (194, .dup, 1), (195, .bipush 39, 2), (197, .iconst 0, 1), (198, .iastore, 1), (199, .dup, 1), (200, .bipush 40, 2), (202, .iconst 0, 1), (203, .iastore, 1), (204, .dup, 1), (205, .bipush 41, 2), (207, .iconst 0, 1), (208, .iastore, 1), (209, .dup, 1), (210, .bipush 42, 2), (212, .iconst 0, 1), (213, .iastore, 1), (214, .dup, 1), (215, .bipush 43, 2), (217, .iconst 0, 1), (218, .iastore, 1), (219, .dup, 1), (220, .bipush 44, 2)]
def cd_122_3 : List (Nat × Instr × Nat) := [(222, .iconst 0, 1), (223, .iastore, 1), (224, .dup, 1), (225, .bipush 45, 2), (227, .iconst 0, 1), (228, .iastore, 1), (229, .dup, 1), (230, .bipush 46, 2), (232, .iconst 0, 1), (233, .iastore, 1), (234, .dup, 1), (235, .bipush 47, 2), (237, .iconst 0, 1), (238, .iastore, 1), (239, .dup, 1), (240, .bipush 48, 2), (242, .iconst 0, 1), (243, .iastore, 1), (244, .dup, 1), (245, .bipush 49, 2), (247, .iconst 0, 1), (248, .iastore, 1), (249, .dup, 1), (250, .bipush 50, 2), (252, .iconst 0, 1), (253, .iastore, 1), (254, .dup, 1), (255, .bipush 51, 2), (257, .iconst 0, 1), (258, .iastore, 1), (259, .dup, 1), (260, .bipush 52, 2), (262, .iconst 0, 1), (263, .iastore, 1), (264, .dup, 1), (265, .bipush 53, 2), (267, .iconst 0, 1), (268, .iastore, 1), (269, .dup, 1), (270, .bipush 54, 2), (272, .iconst 0, 1), (273, .iastore, 1), (274, .dup, 1), (275, .bipush 55, 2), (277, .iconst 0, 1), (278, .iastore, 1), (279, .dup, 1), (280, .bipush 56, 2), (282, .iconst 0, 1), (283, .iastore, 1), (284, .dup, 1), (285, .bipush 57, 2), (287, .iconst 0, 1), (288, .iastore, 1), (289, .dup, 1), (290, .bipush 58, 2), (292, .iconst 0, 1), (293, .iastore, 1), (294, .dup, 1), (295, .bipush 59, 2)]
def cd_122_4 : List (Nat × Instr × Nat) := [(297, .iconst 0, 1), (298, .iastore, 1), (299, .dup, 1), (300, .bipush 60, 2), (302, .iconst 0, 1), (303, .iastore, 1), (304, .dup, 1), (305, .bipush 61, 2), (307, .iconst 0, 1), (308, .iastore, 1), (309, .dup, 1), (310, .bipush 62, 2), (312, .iconst 0, 1), (313, .iastore, 1), (314, .dup, 1), (315, .bipush 63, 2), (317, .iconst 0, 1), (318, .iastore, 1), (319, .dup, 1), (320, .bipush 64, 2), (322, .iconst 0, 1), (323, .iastore, 1), (324, .dup, 1), (325, .bipush 65, 2), (327, .iconst 0, 1), (328, .iastore, 1), (329, .dup, 1), (330, .bipush 66, 2), (332, .iconst 0, 1), (333, .iastore, 1), (334, .dup, 1), (335, .bipush 67, 2), (337, .iconst 0, 1), (338, .iastore, 1), (339, .dup, 1), (340, .bipush 68, 2), (342, .iconst 0, 1), (343, .iastore, 1), (344, .dup, 1), (345, .bipush 69, 2), (347, .iconst 0, 1), (348, .iastore, 1), (349, .dup, 1), (350, .bipush 70, 2), (352, .iconst 0, 1), (353, .iastore, 1), (354, .dup, 1), (355, .bipush 71, 2), (357, .iconst 0, 1), (358, .iastore, 1), (359, .dup, 1), (360, .bipush 72, 2), (362, .iconst 0, 1), (363, .iastore, 1), (364, .dup, 1), (365, .bipush 73, 2), (367, .iconst 0, 1), (368, .iastore, 1), (369, .dup, 1), (370, .bipush 74, 2)]
def cd_122_5 : List (Nat × Instr × Nat) := [(372, .iconst 0, 1), (373, .iastore, 1), (374, .dup, 1), (375, .bipush 75, 2), (377, .iconst 0, 1), (378, .iastore, 1), (379, .dup, 1), (380, .bipush 76, 2), (382, .iconst 0, 1), (383, .iastore, 1), (384, .dup, 1), (385, .bipush 77, 2), (387, .iconst 0, 1), (388, .iastore, 1), (389, .dup, 1), (390, .bipush 78, 2), (392, .iconst 0, 1), (393, .iastore, 1), (394, .dup, 1), (395, .bipush 79, 2), (397, .iconst 0, 1), (398, .iastore, 1), (399, .dup, 1), (400, .bipush 80, 2), (402, .iconst 0, 1), (403, .iastore, 1), (404, .dup, 1), (405, .bipush 81, 2), (407, .iconst 0, 1), (408, .iastore, 1), (409, .dup, 1), (410, .bipush 82, 2), (412, .iconst 0, 1), (413, .iastore, 1), (414, .dup, 1), (415, .bipush 83, 2), (417, .iconst 0, 1), (418, .iastore, 1), (419, .dup, 1), (420, .bipush 84, 2), (422, .iconst 0, 1), (423, .iastore, 1), (424, .dup, 1), (425, .bipush 85, 2), (427, .iconst 0, 1), (428, .iastore, 1), (429, .dup, 1), (430, .bipush 86, 2), (432, .iconst 0, 1), (433, .iastore, 1), (434, .dup, 1), (435, .bipush 87, 2), (437, .iconst 0, 1), (438, .iastore, 1), (439, .dup, 1), (440, .bipush 88, 2), (442, .iconst 0, 1), (443, .iastore, 1), (444, .dup, 1), (445, .bipush 89, 2)]
def cd_122_6 : List (Nat × Instr × Nat) := [(447, .iconst 0, 1), (448, .iastore, 1), (449, .dup, 1), (450, .bipush 90, 2), (452, .iconst 0, 1), (453, .iastore, 1), (454, .dup, 1), (455, .bipush 91, 2), (457, .iconst 0, 1), (458, .iastore, 1), (459, .dup, 1), (460, .bipush 92, 2), (462, .iconst 0, 1), (463, .iastore, 1), (464, .dup, 1), (465, .bipush 93, 2), (467, .iconst 0, 1), (468, .iastore, 1), (469, .dup, 1), (470, .bipush 94, 2), (472, .iconst 0, 1), (473, .iastore, 1), (474, .dup, 1), (475, .bipush 95, 2), (477, .iconst 0, 1), (478, .iastore, 1), (479, .dup, 1), (480, .bipush 96, 2), (482, .iconst 0, 1), (483, .iastore, 1), (484, .dup, 1), (485, .bipush 97, 2), (487, .iconst 0, 1), (488, .iastore, 1), (489, .dup, 1), (490, .bipush 98, 2), (492, .iconst 0, 1), (493, .iastore, 1), (494, .dup, 1), (495, .bipush 99, 2), (497, .iconst 0, 1), (498, .iastore, 1), (499, .dup, 1), (500, .bipush 100, 2), (502, .iconst 0, 1), (503, .iastore, 1), (504, .dup, 1), (505, .bipush 101, 2), (507, .iconst 0, 1), (508, .iastore, 1), (509, .dup, 1), (510, .bipush 102, 2), (512, .iconst 0, 1), (513, .iastore, 1), (514, .dup, 1), (515, .bipush 103, 2), (517, .iconst 0, 1), (518, .iastore, 1), (519, .dup, 1), (520, .bipush 104, 2)]
def cd_122_7 : List (Nat × Instr × Nat) := [(522, .iconst 0, 1), (523, .iastore, 1), (524, .dup, 1), (525, .bipush 105, 2), (527, .iconst 0, 1), (528, .iastore, 1), (529, .dup, 1), (530, .bipush 106, 2), (532, .iconst 0, 1), (533, .iastore, 1), (534, .dup, 1), (535, .bipush 107, 2), (537, .iconst 0, 1), (538, .iastore, 1), (539, .dup, 1), (540, .bipush 108, 2), (542, .iconst 0, 1), (543, .iastore, 1), (544, .dup, 1), (545, .bipush 109, 2), (547, .iconst 0, 1), (548, .iastore, 1), (549, .dup, 1), (550, .bipush 110, 2), (552, .iconst 0, 1), (553, .iastore, 1), (554, .dup, 1), (555, .bipush 111, 2), (557, .iconst 0, 1), (558, .iastore, 1), (559, .dup, 1), (560, .bipush 112, 2), (562, .iconst 0, 1), (563, .iastore, 1), (564, .dup, 1), (565, .bipush 113, 2), (567, .iconst 0, 1), (568, .iastore, 1), (569, .dup, 1), (570, .bipush 114, 2), (572, .iconst 0, 1), (573, .iastore, 1), (574, .dup, 1), (575, .bipush 115, 2), (577, .iconst 0, 1), (578, .iastore, 1), (579, .dup, 1), (580, .bipush 116, 2), (582, .iconst 0, 1), (583, .iastore, 1), (584, .dup, 1), (585, .bipush 117, 2), (587, .iconst 0, 1), (588, .iastore, 1), (589, .dup, 1), (590, .bipush 118, 2), (592, .iconst 0, 1), (593, .iastore, 1), (594, .dup, 1), (595, .bipush 119, 2)]
def cd_122_8 : List (Nat × Instr × Nat) := [(597, .iconst 0, 1), (598, .iastore, 1), (599, .dup, 1), (600, .bipush 120, 2), (602, .iconst 0, 1), (603, .iastore, 1), (604, .dup, 1), (605, .bipush 121, 2), (607, .iconst 0, 1), (608, .iastore, 1), (609, .dup, 1), (610, .bipush 122, 2), (612, .iconst 0, 1), (613, .iastore, 1), (614, .dup, 1), (615, .bipush 123, 2), (617, .iconst 0, 1), (618, .iastore, 1), (619, .dup, 1), (620, .bipush 124, 2), (622, .iconst 0, 1), (623, .iastore, 1), (624, .dup, 1), (625, .bipush 125, 2), (627, .iconst 0, 1), (628, .iastore, 1), (629, .dup, 1), (630, .bipush 126, 2), (632, .iconst 0, 1), (633, .iastore, 1), (634, .dup, 1), (635, .bipush 127, 2), (637, .iconst 0, 1), (638, .iastore, 1), (639, .dup, 1), (640, .sipush 128, 3), (643, .iconst 0, 1), (644, .iastore, 1), (645, .dup, 1), (646, .sipush 129, 3), (649, .iconst 0, 1), (650, .iastore, 1), (651, .dup, 1), (652, .sipush 130, 3), (655, .iconst 0, 1), (656, .iastore, 1), (657, .dup, 1), (658, .sipush 131, 3), (661, .iconst 0, 1), (662, .iastore, 1), (663, .dup, 1), (664, .sipush 132, 3), (667, .iconst 0, 1), (668, .iastore, 1), (669, .dup, 1), (670, .sipush 133, 3), (673, .iconst 0, 1), (674, .iastore, 1), (675, .dup, 1), (676, .sipush 134, 3)]
def cd_122_9 : List (Nat × Instr × Nat) := [(679, .iconst 0, 1), (680, .iastore, 1), (681, .dup, 1), (682, .sipush 135, 3), (685, .iconst 0, 1), (686, .iastore, 1), (687, .dup, 1), (688, .sipush 136, 3), (691, .iconst 0, 1), (692, .iastore, 1), (693, .dup, 1), (694, .sipush 137, 3), (697, .iconst 0, 1), (698, .iastore, 1), (699, .dup, 1), (700, .sipush 138, 3), (703, .iconst 0, 1), (704, .iastore, 1), (705, .dup, 1), (706, .sipush 139, 3), (709, .iconst 0, 1), (710, .iastore, 1), (711, .dup, 1), (712, .sipush 140, 3), (715, .iconst 0, 1), (716, .iastore, 1), (717, .dup, 1), (718, .sipush 141, 3), (721, .iconst 0, 1), (722, .iastore, 1), (723, .dup, 1), (724, .sipush 142, 3), (727, .iconst 0, 1), (728, .iastore, 1), (729, .dup, 1), (730, .sipush 143, 3), (733, .iconst 0, 1), (734, .iastore, 1), (735, .dup, 1), (736, .sipush 144, 3), (739, .iconst 0, 1), (740, .iastore, 1), (741, .dup, 1), (742, .sipush 145, 3), (745, .iconst 0, 1), (746, .iastore, 1), (747, .dup, 1), (748, .sipush 146, 3), (751, .iconst 0, 1), (752, .iastore, 1), (753, .dup, 1), (754, .sipush 147, 3), (757, .iconst 0, 1), (758, .iastore, 1), (759, .dup, 1), (760, .sipush 148, 3), (763, .iconst 0, 1), (764, .iastore, 1), (765, .dup, 1), (766, .sipush 149, 3)]
def cd_122_10 : List (Nat × Instr × Nat) := [(769, .iconst 0, 1), (770, .iastore, 1), (771, .dup, 1), (772, .sipush 150, 3), (775, .iconst 0, 1), (776, .iastore, 1), (777, .dup, 1), (778, .sipush 151, 3), (781, .iconst 0, 1), (782, .iastore, 1), (783, .dup, 1), (784, .sipush 152, 3), (787, .iconst 0, 1), (788, .iastore, 1), (789, .dup, 1), (790, .sipush 153, 3), (793, .iconst 0, 1), (794, .iastore, 1), (795, .dup, 1), (796, .sipush 154, 3), (799, .iconst 0, 1), (800, .iastore, 1), (801, .dup, 1), (802, .sipush 155, 3), (805, .iconst 0, 1), (806, .iastore, 1), (807, .dup, 1), (808, .sipush 156, 3), (811, .iconst 0, 1), (812, .iastore, 1), (813, .dup, 1), (814, .sipush 157, 3), (817, .iconst 0, 1), (818, .iastore, 1), (819, .dup, 1), (820, .sipush 158, 3), (823, .iconst 0, 1), (824, .iastore, 1), (825, .dup, 1), (826, .sipush 159, 3), (829, .iconst 0, 1), (830, .iastore, 1), (831, .dup, 1), (832, .sipush 160, 3), (835, .iconst 0, 1), (836, .iastore, 1), (837, .dup, 1), (838, .sipush 161, 3), (841, .iconst 0, 1), (842, .iastore, 1), (843, .dup, 1), (844, .sipush 162, 3), (847, .iconst 0, 1), (848, .iastore, 1), (849, .dup, 1), (850, .sipush 163, 3), (853, .iconst 0, 1), (854, .iastore, 1), (855, .dup, 1), (856, .sipush 164, 3)]
def cd_122_11 : List (Nat × Instr × Nat) := [(859, .iconst 0, 1), (860, .iastore, 1), (861, .dup, 1), (862, .sipush 165, 3), (865, .iconst 0, 1), (866, .iastore, 1), (867, .dup, 1), (868, .sipush 166, 3), (871, .iconst 0, 1), (872, .iastore, 1), (873, .dup, 1), (874, .sipush 167, 3), (877, .iconst 0, 1), (878, .iastore, 1), (879, .dup, 1), (880, .sipush 168, 3), (883, .iconst 0, 1), (884, .iastore, 1), (885, .dup, 1), (886, .sipush 169, 3), (889, .iconst 0, 1), (890, .iastore, 1), (891, .dup, 1), (892, .sipush 170, 3), (895, .iconst 0, 1), (896, .iastore, 1), (897, .dup, 1), (898, .sipush 171, 3), (901, .iconst 0, 1), (902, .iastore, 1), (903, .dup, 1), (904, .sipush 172, 3), (907, .iconst 0, 1), (908, .iastore, 1), (909, .dup, 1), (910, .sipush 173, 3), (913, .iconst 0, 1), (914, .iastore, 1), (915, .dup, 1), (916, .sipush 174, 3), (919, .iconst 0, 1), (920, .iastore, 1), (921, .dup, 1), (922, .sipush 175, 3), (925, .iconst 0, 1), (926, .iastore, 1), (927, .dup, 1), (928, .sipush 176, 3), (931, .iconst 0, 1), (932, .iastore, 1), (933, .dup, 1), (934, .sipush 177, 3), (937, .iconst 0, 1), (938, .iastore, 1), (939, .dup, 1), (940, .sipush 178, 3), (943, .iconst 0, 1), (944, .iastore, 1), (945, .dup, 1), (946, .sipush 179, 3)]
def cd_122_12 : List (Nat × Instr × Nat) := [(949, .iconst 0, 1), (950, .iastore, 1), (951, .dup, 1), (952, .sipush 180, 3), (955, .iconst 0, 1), (956, .iastore, 1), (957, .dup, 1), (958, .sipush 181, 3), (961, .iconst 0, 1), (962, .iastore, 1), (963, .dup, 1), (964, .sipush 182, 3), (967, .iconst 0, 1), (968, .iastore, 1), (969, .dup, 1), (970, .sipush 183, 3), (973, .iconst 0, 1), (974, .iastore, 1), (975, .dup, 1), (976, .sipush 184, 3), (979, .iconst 0, 1), (980, .iastore, 1), (981, .dup, 1), (982, .sipush 185, 3), (985, .iconst 0, 1), (986, .iastore, 1), (987, .dup, 1), (988, .sipush 186, 3), (991, .iconst 0, 1), (992, .iastore, 1), (993, .dup, 1), (994, .sipush 187, 3), (997, .iconst 0, 1), (998, .iastore, 1), (999, .dup, 1), (1000, .sipush 188, 3), (1003, .iconst 0, 1), (1004, .iastore, 1), (1005, .dup, 1), (1006, .sipush 189, 3), (1009, .iconst 0, 1), (1010, .iastore, 1), (1011, .dup, 1), (1012, .sipush 190, 3), (1015, .iconst 0, 1), (1016, .iastore, 1), (1017, .dup, 1), (1018, .sipush 191, 3), (1021, .iconst 0, 1), (1022, .iastore, 1), (1023, .dup, 1), (1024, .sipush 192, 3), (1027, .iconst 0, 1), (1028, .iastore, 1), (1029, .dup, 1), (1030, .sipush 193, 3), (1033, .iconst 0, 1), (1034, .iastore, 1), (1035, .dup, 1), (1036, .sipush 194, 3)]
def cd_122_13 : List (Nat × Instr × Nat) := [(1039, .iconst 0, 1), (1040, .iastore, 1), (1041, .dup, 1), (1042, .sipush 195, 3), (1045, .iconst 0, 1), (1046, .iastore, 1), (1047, .dup, 1), (1048, .sipush 196, 3), (1051, .iconst 0, 1), (1052, .iastore, 1), (1053, .dup, 1), (1054, .sipush 197, 3), (1057, .iconst 0, 1), (1058, .iastore, 1), (1059, .dup, 1), (1060, .sipush 198, 3), (1063, .iconst 0, 1), (1064, .iastore, 1), (1065, .dup, 1), (1066, .sipush 199, 3), (1069, .iconst 0, 1), (1070, .iastore, 1), (1071, .dup, 1), (1072, .sipush 200, 3), (1075, .iconst 0, 1), (1076, .iastore, 1), (1077, .dup, 1), (1078, .sipush 201, 3), (1081, .iconst 0, 1), (1082, .iastore, 1), (1083, .dup, 1), (1084, .sipush 202, 3), (1087, .iconst 0, 1), (1088, .iastore, 1), (1089, .dup, 1), (1090, .sipush 203, 3), (1093, .iconst 0, 1), (1094, .iastore, 1), (1095, .dup, 1), (1096, .sipush 204, 3), (1099, .iconst 0, 1), (1100, .iastore, 1), (1101, .dup, 1), (1102, .sipush 205, 3), (1105, .iconst 0, 1), (1106, .iastore, 1), (1107, .dup, 1), (1108, .sipush 206, 3), (1111, .iconst 0, 1), (1112, .iastore, 1), (1113, .dup, 1), (1114, .sipush 207, 3), (1117, .iconst 0, 1), (1118, .iastore, 1), (1119, .dup, 1), (1120, .sipush 208, 3), (1123, .iconst 0, 1), (1124, .iastore, 1), (1125, .dup, 1), (1126, .sipush 209, 3)]
def cd_122_14 : List (Nat × Instr × Nat) := [(1129, .iconst 0, 1), (1130, .iastore, 1), (1131, .dup, 1), (1132, .sipush 210, 3), (1135, .iconst 0, 1), (1136, .iastore, 1), (1137, .dup, 1), (1138, .sipush 211, 3), (1141, .iconst 0, 1), (1142, .iastore, 1), (1143, .dup, 1), (1144, .sipush 212, 3), (1147, .iconst 0, 1), (1148, .iastore, 1), (1149, .dup, 1), (1150, .sipush 213, 3), (1153, .iconst 0, 1), (1154, .iastore, 1), (1155, .dup, 1), (1156, .sipush 214, 3), (1159, .iconst 0, 1), (1160, .iastore, 1), (1161, .dup, 1), (1162, .sipush 215, 3), (1165, .iconst 0, 1), (1166, .iastore, 1), (1167, .dup, 1), (1168, .sipush 216, 3), (1171, .iconst 0, 1), (1172, .iastore, 1), (1173, .dup, 1), (1174, .sipush 217, 3), (1177, .iconst 0, 1), (1178, .iastore, 1), (1179, .dup, 1), (1180, .sipush 218, 3), (1183, .iconst 0, 1), (1184, .iastore, 1), (1185, .dup, 1), (1186, .sipush 219, 3), (1189, .iconst 0, 1), (1190, .iastore, 1), (1191, .dup, 1), (1192, .sipush 220, 3), (1195, .iconst 0, 1), (1196, .iastore, 1), (1197, .dup, 1), (1198, .sipush 221, 3), (1201, .iconst 0, 1), (1202, .iastore, 1), (1203, .dup, 1), (1204, .sipush 222, 3), (1207, .iconst 0, 1), (1208, .iastore, 1), (1209, .dup, 1), (1210, .sipush 223, 3), (1213, .iconst 0, 1), (1214, .iastore, 1), (1215, .dup, 1), (1216, .sipush 224, 3)]
def cd_122_15 : List (Nat × Instr × Nat) := [(1219, .iconst 0, 1), (1220, .iastore, 1), (1221, .dup, 1), (1222, .sipush 225, 3), (1225, .iconst 0, 1), (1226, .iastore, 1), (1227, .dup, 1), (1228, .sipush 226, 3), (1231, .iconst 0, 1), (1232, .iastore, 1), (1233, .dup, 1), (1234, .sipush 227, 3), (1237, .iconst 0, 1), (1238, .iastore, 1), (1239, .dup, 1), (1240, .sipush 228, 3), (1243, .iconst 0, 1), (1244, .iastore, 1), (1245, .dup, 1), (1246, .sipush 229, 3), (1249, .iconst 0, 1), (1250, .iastore, 1), (1251, .dup, 1), (1252, .sipush 230, 3), (1255, .iconst 0, 1), (1256, .iastore, 1), (1257, .dup, 1), (1258, .sipush 231, 3), (1261, .iconst 0, 1), (1262, .iastore, 1), (1263, .dup, 1), (1264, .sipush 232, 3), (1267, .iconst 0, 1), (1268, .iastore, 1), (1269, .dup, 1), (1270, .sipush 233, 3), (1273, .iconst 0, 1), (1274, .iastore, 1), (1275, .dup, 1), (1276, .sipush 234, 3), (1279, .iconst 0, 1), (1280, .iastore, 1), (1281, .dup, 1), (1282, .sipush 235, 3), (1285, .iconst 0, 1), (1286, .iastore, 1), (1287, .dup, 1), (1288, .sipush 236, 3), (1291, .iconst 0, 1), (1292, .iastore, 1), (1293, .dup, 1), (1294, .sipush 237, 3), (1297, .iconst 0, 1), (1298, .iastore, 1), (1299, .dup, 1), (1300, .sipush 238, 3), (1303, .iconst 0, 1), (1304, .iastore, 1), (1305, .dup, 1), (1306, .sipush 239, 3)]
def cd_122_16 : List (Nat × Instr × Nat) := [(1309, .iconst 0, 1), (1310, .iastore, 1), (1311, .astore 5, 2), (1313, .bipush 7, 2), (1315, .newarray .int, 2), (1317, .dup, 1), (1318, .iconst 0, 1), (1319, .bipush 117, 2), (1321, .iastore, 1), (1322, .dup, 1), (1323, .iconst 1, 1), (1324, .bipush 110, 2), (1326, .iastore, 1), (1327, .dup, 1), (1328, .iconst 2, 1), (1329, .bipush 105, 2), (1331, .iastore, 1), (1332, .dup, 1), (1333, .iconst 3, 1), (1334, .bipush 102, 2), (1336, .iastore, 1), (1337, .dup, 1), (1338, .iconst 4, 1), (1339, .bipush 111, 2), (1341, .iastore, 1), (1342, .dup, 1), (1343, .iconst 5, 1), (1344, .bipush 114, 2), (1346, .iastore, 1), (1347, .dup, 1), (1348, .bipush 6, 2), (1350, .bipush 109, 2), (1352, .iastore, 1), (1353, .astore 6, 2), (1355, .iconst 5, 1), (1356, .newarray .int, 2), (1358, .dup, 1), (1359, .iconst 0, 1), (1360, .bipush 109, 2), (1362, .iastore, 1), (1363, .dup, 1), (1364, .iconst 1, 1), (1365, .bipush 97, 2), (1367, .iastore, 1), (1368, .dup, 1), (1369, .iconst 2, 1), (1370, .bipush 116, 2), (1372, .iastore, 1), (1373, .dup, 1), (1374, .iconst 3, 1), (1375, .bipush 99, 2), (1377, .iastore, 1), (1378, .dup, 1), (1379, .iconst 4, 1), (1380, .bipush 104, 2), (1382, .iastore, 1), (1383, .astore 7, 2), (1385, .iconst 5, 1), (1386, .newarray .int, 2), (1388, .dup, 1)]
def cd_122_17 : List (Nat × Instr × Nat) := [(1389, .iconst 0, 1), (1390, .bipush 103, 2), (1392, .iastore, 1), (1393, .dup, 1), (1394, .iconst 1, 1), (1395, .bipush 114, 2), (1397, .iastore, 1), (1398, .dup, 1), (1399, .iconst 2, 1), (1400, .bipush 97, 2), (1402, .iastore, 1), (1403, .dup, 1), (1404, .iconst 3, 1), (1405, .bipush 112, 2), (1407, .iastore, 1), (1408, .dup, 1), (1409, .iconst 4, 1), (1410, .bipush 104, 2), (1412, .iastore, 1), (1413, .astore 8, 2), (1415, .iconst 4, 1), (1416, .newarray .int, 2), (1418, .dup, 1), (1419, .iconst 0, 1), (1420, .bipush 116, 2), (1422, .iastore, 1), (1423, .dup, 1), (1424, .iconst 1, 1), (1425, .bipush 111, 2), (1427, .iastore, 1), (1428, .dup, 1), (1429, .iconst 2, 1), (1430, .bipush 108, 2), (1432, .iastore, 1), (1433, .dup, 1), (1434, .iconst 3, 1), (1435, .bipush 100, 2), (1437, .iastore, 1), (1438, .astore 9, 2), (1440, .iconst 1, 1), (1441, .aload 4, 2), (1443, .invokestatic 20, 3), (1446, .iconst 3, 1), (1447, .iload_n 2, 1), (1448, .iconst 1, 1), (1449, .isub, 1), (1450, .invokestatic 26, 3), (1453, .irem, 1), (1454, .iadd, 1), (1455, .istore 10, 2), (1457, .aload 5, 2), (1459, .aload 5, 2), (1461, .aload 5, 2), (1463, .iconst 0, 1), (1464, .iload_n 3, 1), (1465, .ifCond .ne 8, 3), (1468, .aload 6, 2), (1470, .goto 25, 3), (1473, .iload_n 3, 1), (1474, .iconst 1, 1)]
def cd_122_18 : List (Nat × Instr × Nat) := [(1475, .if_icmp .ne 8, 3), (1478, .aload 7, 2), (1480, .goto 15, 3), (1483, .iload_n 3, 1), (1484, .iconst 2, 1), (1485, .if_icmp .ne 8, 3), (1488, .aload 8, 2), (1490, .goto 5, 3), (1493, .aload 9, 2), (1495, .invokestatic 30, 3), (1498, .iload_n 1, 1), (1499, .invokestatic 34, 3), (1502, .iload_n 2, 1), (1503, .invokestatic 34, 3), (1506, .istore 11, 2), (1508, .iload_n 3, 1), (1509, .ifCond .ne 17, 3), (1512, .aload 5, 2), (1514, .iload 11, 2), (1516, .iload 10, 2), (1518, .invokestatic 34, 3), (1521, .istore 11, 2), (1523, .goto 288, 3), (1526, .iload_n 3, 1), (1527, .iconst 1, 1), (1528, .if_icmp .ne 55, 3), (1531, .aload 5, 2), (1533, .iload 11, 2), (1535, .iload 10, 2), (1537, .invokestatic 34, 3), (1540, .istore 11, 2), (1542, .iconst 0, 1), (1543, .istore 12, 2), (1545, .iload 12, 2), (1547, .iload 10, 2), (1549, .iload_n 2, 1), (1550, .imul, 1), (1551, .if_icmp .ge 29, 3), (1554, .aload 5, 2), (1556, .iload 11, 2), (1558, .aload 4, 2), (1560, .invokestatic 20, 3), (1563, .bipush 41, 2), (1565, .irem, 1), (1566, .bipush 20, 2), (1568, .isub, 1), (1569, .invokestatic 34, 3), (1572, .istore 11, 2), (1574, .iinc 12 1, 3), (1577, .goto (-32), 3), (1580, .goto 231, 3), (1583, .iload_n 3, 1), (1584, .iconst 2, 1), (1585, .if_icmp .ne 133, 3), (1588, .iconst 2, 1), (1589, .aload 4, 2), (1591, .invokestatic 20, 3), (1594, .iconst 4, 1), (1595, .iload_n 2, 1), (1596, .iconst 1, 1)]
def cd_122_19 : List (Nat × Instr × Nat) := [(1597, .isub, 1), (1598, .invokestatic 26, 3), (1601, .irem, 1), (1602, .iadd, 1), (1603, .istore 12, 2), (1605, .iload 12, 2), (1607, .iconst 1, 1), (1608, .isub, 1), (1609, .istore 10, 2), (1611, .aload 5, 2), (1613, .iload 11, 2), (1615, .iload 12, 2), (1617, .invokestatic 34, 3), (1620, .istore 11, 2), (1622, .iconst 0, 1), (1623, .istore 13, 2), (1625, .iload 13, 2), (1627, .iload_n 2, 1), (1628, .if_icmp .ge 87, 3), (1631, .iload 13, 2), (1633, .iload 12, 2), (1635, .iconst 1, 1), (1636, .isub, 1), (1637, .if_icmp .ge 8, 3), (1640, .iload 13, 2), (1642, .goto 11, 3), (1645, .aload 4, 2), (1647, .invokestatic 20, 3), (1650, .iload 12, 2), (1652, .irem, 1), (1653, .istore 14, 2), (1655, .iload 13, 2), (1657, .iload 12, 2), (1659, .iconst 1, 1), (1660, .isub, 1), (1661, .if_icmp .ge 10, 3), (1664, .iload 13, 2), (1666, .iconst 1, 1), (1667, .iadd, 1), (1668, .goto 21, 3), (1671, .iload 14, 2), (1673, .iconst 1, 1), (1674, .iadd, 1), (1675, .aload 4, 2), (1677, .invokestatic 20, 3), (1680, .iload 12, 2), (1682, .iconst 1, 1), (1683, .isub, 1), (1684, .irem, 1), (1685, .iadd, 1), (1686, .iload 12, 2), (1688, .irem, 1), (1689, .istore 15, 2), (1691, .aload 5, 2), (1693, .aload 5, 2), (1695, .iload 11, 2), (1697, .iload 14, 2), (1699, .invokestatic 34, 3), (1702, .iload 15, 2), (1704, .invokestatic 34, 3)]
def cd_122_20 : List (Nat × Instr × Nat) := [(1707, .istore 11, 2), (1709, .iinc 13 1, 3), (1712, .goto (-87), 3), (1715, .goto 96, 3), (1718, .aload 5, 2), (1720, .iload 11, 2), (1722, .iload 10, 2), (1724, .invokestatic 34, 3), (1727, .istore 11, 2), (1729, .iconst 0, 1), (1730, .istore 12, 2), (1732, .iconst 0, 1), (1733, .istore 13, 2), (1735, .iload 13, 2), (1737, .iconst 1, 1), (1738, .iload_n 2, 1), (1739, .ishl, 1), (1740, .if_icmp .ge 71, 3), (1743, .iload 12, 2), (1745, .bipush 12, 2), (1747, .if_icmp .ge 64, 3), (1750, .iload 13, 2), (1752, .invokestatic 38, 3), (1755, .iload 10, 2), (1757, .if_icmp .ne 48, 3), (1760, .aload 4, 2), (1762, .invokestatic 20, 3), (1765, .iconst 3, 1), (1766, .irem, 1), (1767, .ifCond .gt 8, 3), (1770, .iload 12, 2), (1772, .ifCond .ne 33, 3), (1775, .aload 5, 2), (1777, .aload 5, 2), (1779, .iload 11, 2), (1781, .iload 13, 2), (1783, .invokestatic 34, 3), (1786, .aload 4, 2), (1788, .invokestatic 20, 3), (1791, .bipush 30, 2), (1793, .irem, 1), (1794, .bipush 15, 2), (1796, .isub, 1), (1797, .invokestatic 34, 3), (1800, .istore 11, 2), (1802, .iinc 12 1, 3), (1805, .iinc 13 1, 3), (1808, .goto (-73), 3), (1811, .aload_n 0, 1), (1812, .aload 5, 2), (1814, .iload 11, 2), (1816, .invokestatic 43, 3), (1819, .iload 11, 2), (1821, .sipush 201, 3), (1824, .if_icmp .ge 38, 3), (1827, .aload_n 0, 1), (1828, .iload 11, 2), (1830, .invokevirtual 47, 3), (1833, .iconst 1, 1), (1834, .if_icmp .ne 28, 3)]
def cd_122_21 : List (Nat × Instr × Nat) := [(1837, .aload_n 0, 1), (1838, .iload_n 1, 1), (1839, .iconst 0, 1), (1840, .invokevirtual 50, 3), (1843, .iload_n 2, 1), (1844, .if_icmp .ne 18, 3), (1847, .aload_n 0, 1), (1848, .iload_n 1, 1), (1849, .iconst 1, 1), (1850, .invokevirtual 50, 3), (1853, .iload 10, 2), (1855, .if_icmp .ne 7, 3), (1858, .iconst 1, 1), (1859, .goto 4, 3), (1862, .iconst 0, 1), (1863, .istore 12, 2), (1865, .iload 12, 2), (1867, .ifCond .eq 8, 3), (1870, .iload 10, 2), (1872, .goto 4, 3), (1875, .iconst 0, 1), (1876, .ireturn, 1)]
def cd_122 : List (Nat × Instr × Nat) := cd_122_0 ++ (cd_122_1 ++ (cd_122_2 ++ (cd_122_3 ++ (cd_122_4 ++ (cd_122_5 ++ (cd_122_6 ++ (cd_122_7 ++ (cd_122_8 ++ (cd_122_9 ++ (cd_122_10 ++ (cd_122_11 ++ (cd_122_12 ++ (cd_122_13 ++ (cd_122_14 ++ (cd_122_15 ++ (cd_122_16 ++ (cd_122_17 ++ (cd_122_18 ++ (cd_122_19 ++ (cd_122_20 ++ (cd_122_21)))))))))))))))))))))
/-- PricedBasesLaw.values(LPricedBases;I)[I -/
def cd_123 : List (Nat × Instr × Nat) := [(0, .sipush 256, 3), (3, .newarray .int, 2), (5, .astore_n 2, 1), (6, .iconst 0, 1), (7, .istore_n 3, 1), (8, .iload_n 3, 1), (9, .sipush 256, 3), (12, .if_icmp .ge 18, 3), (15, .aload_n 2, 1), (16, .iload_n 3, 1), (17, .aload_n 0, 1), (18, .iload_n 1, 1), (19, .iload_n 3, 1), (20, .invokevirtual 53, 3), (23, .iastore, 1), (24, .iinc 3 1, 3), (27, .goto (-19), 3), (30, .aload_n 2, 1), (31, .areturn, 1)]
/-- PricedBasesLaw.prices([II)I -/
def cd_124 : List (Nat × Instr × Nat) := [(0, .iconst 0, 1), (1, .istore_n 2, 1), (2, .iconst 0, 1), (3, .istore_n 3, 1), (4, .iload_n 3, 1), (5, .bipush 8, 2), (7, .if_icmp .ge 27, 3), (10, .iload_n 2, 1), (11, .iload_n 1, 1), (12, .iload_n 3, 1), (13, .invokestatic 56, 3), (16, .ifCond .eq 9, 3), (19, .aload_n 0, 1), (20, .iload_n 3, 1), (21, .iaload, 1), (22, .goto 4, 3), (25, .iconst 0, 1), (26, .iadd, 1), (27, .istore_n 2, 1), (28, .iinc 3 1, 3), (31, .goto (-27), 3), (34, .iload_n 2, 1), (35, .ireturn, 1)]
/-- PricedBasesLaw.priced(LPricedBases;[I)[I -/
def cd_125 : List (Nat × Instr × Nat) := [(0, .bipush 8, 2), (2, .newarray .int, 2), (4, .astore_n 2, 1), (5, .iconst 0, 1), (6, .istore_n 3, 1), (7, .iload_n 3, 1), (8, .bipush 8, 2), (10, .if_icmp .ge 44, 3), (13, .aload_n 2, 1), (14, .iload_n 3, 1), (15, .aload_n 1, 1), (16, .invokestatic 20, 3), (19, .iconst 3, 1), (20, .irem, 1), (21, .ifCond .ne 7, 3), (24, .iconst 0, 1), (25, .goto 13, 3), (28, .aload_n 1, 1), (29, .invokestatic 20, 3), (32, .bipush 31, 2), (34, .irem, 1), (35, .bipush 15, 2), (37, .isub, 1), (38, .iastore, 1), (39, .aload_n 0, 1), (40, .iload_n 3, 1), (41, .aload_n 2, 1), (42, .iload_n 3, 1), (43, .iaload, 1), (44, .invokevirtual 60, 3), (47, .pop, 1), (48, .iinc 3 1, 3), (51, .goto (-44), 3), (54, .aload_n 2, 1), (55, .areturn, 1)]
/-- PricedBasesLaw.isBase([II)Z -/
def cd_126 : List (Nat × Instr × Nat) := [(0, .aload_n 0, 1), (1, .iload_n 1, 1), (2, .sipush 255, 3), (5, .iand, 1), (6, .iaload, 1), (7, .ldc 63, 2), (9, .if_icmp .eq 7, 3), (12, .iconst 1, 1), (13, .goto 4, 3), (16, .iconst 0, 1), (17, .ireturn, 1)]
/-- PricedBasesLaw.exchange([IIIIZ)I -/
def cd_127 : List (Nat × Instr × Nat) := [(0, .bipush (-2), 2), (2, .istore 5, 2), (4, .bipush 7, 2), (6, .istore 6, 2), (8, .iload 6, 2), (10, .ifCond .lt 118, 3), (13, .iload_n 1, 1), (14, .iconst 1, 1), (15, .iload_n 3, 1), (16, .ishl, 1), (17, .iconst (-1), 1), (18, .ixor, 1), (19, .iand, 1), (20, .iconst 1, 1), (21, .iload 6, 2), (23, .ishl, 1), (24, .ior, 1), (25, .istore 7, 2), (27, .iload_n 2, 1), (28, .iconst 1, 1), (29, .iload 6, 2), (31, .ishl, 1), (32, .iconst (-1), 1), (33, .ixor, 1), (34, .iand, 1), (35, .iconst 1, 1), (36, .iload_n 3, 1), (37, .ishl, 1), (38, .ior, 1), (39, .istore 8, 2), (41, .iload_n 2, 1), (42, .iload 6, 2), (44, .invokestatic 56, 3), (47, .ifCond .eq 34, 3), (50, .iload_n 1, 1), (51, .iload 6, 2), (53, .invokestatic 56, 3), (56, .ifCond .ne 25, 3), (59, .aload_n 0, 1), (60, .iload 7, 2), (62, .invokestatic 64, 3), (65, .ifCond .eq 16, 3), (68, .aload_n 0, 1), (69, .iload 8, 2), (71, .invokestatic 64, 3), (74, .ifCond .eq 7, 3), (77, .iconst 1, 1), (78, .goto 4, 3), (81, .iconst 0, 1), (82, .istore 9, 2), (84, .iload 9, 2), (86, .ifCond .eq 32, 3), (89, .iload 4, 2), (91, .ifCond .ne 22, 3), (94, .aload_n 0, 1), (95, .iload 7, 2), (97, .iaload, 1), (98, .aload_n 0, 1), (99, .iload 8, 2), (101, .iaload, 1), (102, .iadd, 1), (103, .aload_n 0, 1), (104, .iload_n 1, 1), (105, .iaload, 1), (106, .aload_n 0, 1), (107, .iload_n 2, 1), (108, .iaload, 1), (109, .iadd, 1), (110, .if_icmp .lt 8, 3), (113, .iload 6, 2), (115, .goto 5, 3), (118, .iload 5, 2), (120, .istore 5, 2), (122, .iinc 6 (-1), 3), (125, .goto (-117), 3), (128, .iload 5, 2), (130, .ireturn, 1)]
/-- PricedBasesLaw.faults(LPricedBases;I[I[I)Z -/
def cd_128_0 : List (Nat × Instr × Nat) := [(0, .iconst 1, 1), (1, .istore 4, 2), (3, .iconst 0, 1), (4, .istore 5, 2), (6, .iconst 1, 1), (7, .istore 6, 2), (9, .iconst 0, 1), (10, .istore 7, 2), (12, .iload 7, 2), (14, .sipush 256, 3), (17, .if_icmp .ge 222, 3), (20, .iconst 0, 1), (21, .istore 8, 2), (23, .iload 8, 2), (25, .sipush 256, 3), (28, .if_icmp .ge 205, 3), (31, .aload_n 2, 1), (32, .iload 7, 2), (34, .invokestatic 64, 3), (37, .ifCond .eq 196, 3), (40, .iconst 0, 1), (41, .istore 9, 2), (43, .iload 9, 2), (45, .bipush 8, 2), (47, .if_icmp .ge 180, 3), (50, .aload_n 2, 1), (51, .iload 8, 2), (53, .invokestatic 64, 3), (56, .ifCond .eq 171, 3), (59, .iload 7, 2), (61, .iload 9, 2), (63, .invokestatic 56, 3), (66, .ifCond .eq 155, 3), (69, .iload 8, 2), (71, .iload 9, 2), (73, .invokestatic 56, 3), (76, .ifCond .ne 145, 3), (79, .aload_n 2, 1), (80, .iload 7, 2), (82, .iload 8, 2), (84, .iload 9, 2), (86, .iconst 0, 1), (87, .invokestatic 71, 3), (90, .istore 10, 2), (92, .iload 10, 2), (94, .ifCond .ge 63, 3), (97, .iload 4, 2), (99, .ifCond .eq 52, 3), (102, .iload 5, 2), (104, .iconst 3, 1), (105, .if_icmp .gt 42, 3), (108, .aload_n 0, 1), (109, .iload_n 1, 1), (110, .iload 5, 2), (112, .iconst 0, 1), (113, .invokevirtual 75, 3), (116, .iload 7, 2), (118, .if_icmp .ne 33, 3), (121, .aload_n 0, 1), (122, .iload_n 1, 1)]
def cd_128_1 : List (Nat × Instr × Nat) := [(123, .iload 5, 2), (125, .iconst 1, 1), (126, .invokevirtual 75, 3), (129, .iload 8, 2), (131, .if_icmp .ne 20, 3), (134, .aload_n 0, 1), (135, .iload_n 1, 1), (136, .iload 5, 2), (138, .iconst 2, 1), (139, .invokevirtual 75, 3), (142, .iload 9, 2), (144, .if_icmp .ne 7, 3), (147, .iconst 1, 1), (148, .goto 4, 3), (151, .iconst 0, 1), (152, .istore 4, 2), (154, .iinc 5 1, 3), (157, .iload 6, 2), (159, .ifCond .eq 21, 3), (162, .aload_n 2, 1), (163, .iload 7, 2), (165, .iload 8, 2), (167, .iload 9, 2), (169, .iconst 1, 1), (170, .invokestatic 71, 3), (173, .ifCond .lt 7, 3), (176, .iconst 1, 1), (177, .goto 4, 3), (180, .iconst 0, 1), (181, .istore 6, 2), (183, .iload 4, 2), (185, .ifCond .eq 33, 3), (188, .aload_n 3, 1), (189, .invokestatic 20, 3), (192, .bipush 17, 2), (194, .irem, 1), (195, .ifCond .gt 19, 3), (198, .aload_n 0, 1), (199, .iload_n 1, 1), (200, .iload 7, 2), (202, .iload 8, 2), (204, .iload 9, 2), (206, .invokevirtual 79, 3), (209, .iload 10, 2), (211, .if_icmp .ne 7, 3), (214, .iconst 1, 1), (215, .goto 4, 3), (218, .iconst 0, 1), (219, .istore 4, 2), (221, .iinc 9 1, 3), (224, .goto (-181), 3), (227, .iinc 8 1, 3), (230, .goto (-207), 3), (233, .iinc 7 1, 3), (236, .goto (-224), 3), (239, .iload 4, 2), (241, .ifCond .eq 72, 3), (244, .aload_n 0, 1), (245, .iload_n 1, 1), (246, .bipush 12, 2)]
def cd_128_2 : List (Nat × Instr × Nat) := [(248, .invokevirtual 50, 3), (251, .iload 5, 2), (253, .if_icmp .ne 60, 3), (256, .aload_n 0, 1), (257, .iload_n 1, 1), (258, .bipush 7, 2), (260, .invokevirtual 50, 3), (263, .iload 5, 2), (265, .ifCond .ne 7, 3), (268, .iconst 1, 1), (269, .goto 4, 3), (272, .iconst 0, 1), (273, .if_icmp .ne 40, 3), (276, .aload_n 0, 1), (277, .iload_n 1, 1), (278, .bipush 8, 2), (280, .invokevirtual 50, 3), (283, .iload 6, 2), (285, .ifCond .eq 7, 3), (288, .iconst 1, 1), (289, .goto 4, 3), (292, .iconst 0, 1), (293, .if_icmp .ne 20, 3), (296, .aload_n 0, 1), (297, .iload_n 1, 1), (298, .iload 5, 2), (300, .iconst 0, 1), (301, .invokevirtual 75, 3), (304, .bipush (-4), 2), (306, .if_icmp .ne 7, 3), (309, .iconst 1, 1), (310, .goto 4, 3), (313, .iconst 0, 1), (314, .ireturn, 1)]
def cd_128 : List (Nat × Instr × Nat) := cd_128_0 ++ (cd_128_1 ++ (cd_128_2))
/-- PricedBasesLaw.greedy(LPricedBases;I[I[I)Z -/
def cd_129_0 : List (Nat × Instr × Nat) := [(0, .ldc 82, 2), (2, .istore 4, 2), (4, .iconst 1, 1), (5, .istore 5, 2), (7, .iconst 0, 1), (8, .istore 6, 2), (10, .iload 6, 2), (12, .sipush 256, 3), (15, .if_icmp .ge 41, 3), (18, .aload_n 2, 1), (19, .iload 6, 2), (21, .invokestatic 64, 3), (24, .ifCond .eq 22, 3), (27, .iload 4, 2), (29, .aload_n 2, 1), (30, .iload 6, 2), (32, .iaload, 1), (33, .aload_n 3, 1), (34, .iload 6, 2), (36, .invokestatic 83, 3), (39, .iadd, 1), (40, .invokestatic 68, 3), (43, .goto 5, 3), (46, .iload 4, 2), (48, .istore 4, 2), (50, .iinc 6 1, 3), (53, .goto (-43), 3), (56, .iconst 0, 1), (57, .istore 6, 2), (59, .iconst 0, 1), (60, .istore 7, 2), (62, .aload_n 0, 1), (63, .iload_n 1, 1), (64, .bipush 7, 2), (66, .invokevirtual 50, 3), (69, .iconst 1, 1), (70, .if_icmp .ne 7, 3), (73, .iconst 1, 1), (74, .goto 4, 3), (77, .iconst 0, 1), (78, .istore 8, 2), (80, .sipush 256, 3), (83, .newarray .int, 2), (85, .astore 9, 2), (87, .iconst 0, 1), (88, .istore 10, 2), (90, .iload 10, 2), (92, .sipush 256, 3), (95, .if_icmp .ge 352, 3), (98, .aload 9, 2), (100, .iload 10, 2), (102, .aload_n 2, 1), (103, .iload 10, 2), (105, .invokestatic 64, 3), (108, .ifCond .eq 23, 3), (111, .aload_n 2, 1), (112, .iload 10, 2), (114, .iaload, 1), (115, .aload_n 3, 1), (116, .iload 10, 2)]
def cd_129_1 : List (Nat × Instr × Nat) := [(118, .invokestatic 83, 3), (121, .iadd, 1), (122, .iload 4, 2), (124, .if_icmp .ne 7, 3), (127, .iconst 0, 1), (128, .goto 5, 3), (131, .ldc 63, 2), (133, .iastore, 1), (134, .aload_n 2, 1), (135, .iload 10, 2), (137, .invokestatic 64, 3), (140, .ifCond .eq 301, 3), (143, .aload 9, 2), (145, .iload 10, 2), (147, .iaload, 1), (148, .ifCond .ne 33, 3), (151, .iload 5, 2), (153, .ifCond .eq 22, 3), (156, .aload_n 0, 1), (157, .iload_n 1, 1), (158, .bipush 10, 2), (160, .iload 7, 2), (162, .iadd, 1), (163, .invokevirtual 87, 3), (166, .iload 10, 2), (168, .if_icmp .ne 7, 3), (171, .iconst 1, 1), (172, .goto 4, 3), (175, .iconst 0, 1), (176, .istore 5, 2), (178, .iinc 7 1, 3), (181, .iload 10, 2), (183, .istore 11, 2), (185, .iconst (-1), 1), (186, .istore 12, 2), (188, .iload 10, 2), (190, .istore 13, 2), (192, .iload 13, 2), (194, .ifCond .lt 131, 3), (197, .iload 13, 2), (199, .istore 11, 2), (201, .iinc 12 1, 3), (204, .iconst (-1), 1), (205, .istore 13, 2), (207, .sipush 255, 3), (210, .istore 14, 2), (212, .iload 14, 2), (214, .ifCond .lt 108, 3), (217, .aload_n 2, 1), (218, .iload 14, 2), (220, .invokestatic 64, 3), (223, .ifCond .eq 21, 3), (226, .iload 14, 2), (228, .iload 11, 2), (230, .iconst (-1), 1), (231, .ixor, 1), (232, .iand, 1), (233, .invokestatic 38, 3), (236, .iconst 1, 1), (237, .if_icmp .ne 7, 3)]
def cd_129_2 : List (Nat × Instr × Nat) := [(240, .iconst 1, 1), (241, .goto 4, 3), (244, .iconst 0, 1), (245, .istore 15, 2), (247, .iload 15, 2), (249, .ifCond .eq 63, 3), (252, .aload_n 2, 1), (253, .iload 14, 2), (255, .iaload, 1), (256, .aload_n 3, 1), (257, .iload 14, 2), (259, .invokestatic 83, 3), (262, .iadd, 1), (263, .aload_n 2, 1), (264, .iload 11, 2), (266, .iaload, 1), (267, .aload_n 3, 1), (268, .iload 11, 2), (270, .invokestatic 83, 3), (273, .iadd, 1), (274, .if_icmp .le 38, 3), (277, .iload 13, 2), (279, .ifCond .lt 28, 3), (282, .aload_n 2, 1), (283, .iload 14, 2), (285, .iaload, 1), (286, .aload_n 3, 1), (287, .iload 14, 2), (289, .invokestatic 83, 3), (292, .iadd, 1), (293, .aload_n 2, 1), (294, .iload 13, 2), (296, .iaload, 1), (297, .aload_n 3, 1), (298, .iload 13, 2), (300, .invokestatic 83, 3), (303, .iadd, 1), (304, .if_icmp .lt 8, 3), (307, .iload 14, 2), (309, .goto 5, 3), (312, .iload 13, 2), (314, .istore 13, 2), (316, .iinc 14 (-1), 3), (319, .goto (-107), 3), (322, .goto (-130), 3), (325, .aload_n 2, 1), (326, .iload 11, 2), (328, .iaload, 1), (329, .aload_n 3, 1), (330, .iload 11, 2), (332, .invokestatic 83, 3), (335, .iadd, 1), (336, .istore 14, 2), (338, .iload 5, 2), (340, .ifCond .eq 81, 3), (343, .aload_n 0, 1), (344, .iload_n 1, 1), (345, .iload 10, 2), (347, .iconst 0, 1), (348, .invokevirtual 90, 3)]
def cd_129_3 : List (Nat × Instr × Nat) := [(351, .iload 11, 2), (353, .if_icmp .ne 68, 3), (356, .aload_n 0, 1), (357, .iload_n 1, 1), (358, .iload 10, 2), (360, .iconst 1, 1), (361, .invokevirtual 90, 3), (364, .iload 14, 2), (366, .if_icmp .ne 55, 3), (369, .aload_n 0, 1), (370, .iload_n 1, 1), (371, .iload 10, 2), (373, .iconst 2, 1), (374, .invokevirtual 90, 3), (377, .iload 12, 2), (379, .if_icmp .ne 42, 3), (382, .aload_n 0, 1), (383, .iload_n 1, 1), (384, .iload 10, 2), (386, .iconst 3, 1), (387, .invokevirtual 90, 3), (390, .iload 14, 2), (392, .iload 4, 2), (394, .if_icmp .ne 7, 3), (397, .iconst 1, 1), (398, .goto 4, 3), (401, .iconst 0, 1), (402, .if_icmp .ne 19, 3), (405, .iload 8, 2), (407, .ifCond .eq 10, 3), (410, .iload 14, 2), (412, .iload 4, 2), (414, .if_icmp .ne 7, 3), (417, .iconst 1, 1), (418, .goto 4, 3), (421, .iconst 0, 1), (422, .istore 5, 2), (424, .iload 6, 2), (426, .iload 14, 2), (428, .iload 4, 2), (430, .if_icmp .ne 7, 3), (433, .iconst 1, 1), (434, .goto 4, 3), (437, .iconst 0, 1), (438, .iadd, 1), (439, .istore 6, 2), (441, .iinc 10 1, 3), (444, .goto (-354), 3), (447, .iconst 1, 1), (448, .istore 10, 2), (450, .iconst 0, 1), (451, .istore 11, 2), (453, .iload 11, 2), (455, .sipush 256, 3), (458, .if_icmp .ge 105, 3), (461, .iconst 0, 1), (462, .istore 12, 2), (464, .iload 12, 2), (466, .sipush 256, 3), (469, .if_icmp .ge 88, 3)]
def cd_129_4 : List (Nat × Instr × Nat) := [(472, .aload 9, 2), (474, .iload 11, 2), (476, .iaload, 1), (477, .ifCond .ne 80, 3), (480, .iconst 0, 1), (481, .istore 13, 2), (483, .iload 13, 2), (485, .bipush 8, 2), (487, .if_icmp .ge 64, 3), (490, .aload 9, 2), (492, .iload 12, 2), (494, .iaload, 1), (495, .ifCond .ne 56, 3), (498, .iload 10, 2), (500, .ifCond .eq 42, 3), (503, .iload 11, 2), (505, .iload 13, 2), (507, .invokestatic 56, 3), (510, .ifCond .eq 28, 3), (513, .iload 12, 2), (515, .iload 13, 2), (517, .invokestatic 56, 3), (520, .ifCond .ne 18, 3), (523, .aload 9, 2), (525, .iload 11, 2), (527, .iload 12, 2), (529, .iload 13, 2), (531, .iconst 1, 1), (532, .invokestatic 71, 3), (535, .ifCond .lt 7, 3), (538, .iconst 1, 1), (539, .goto 4, 3), (542, .iconst 0, 1), (543, .istore 10, 2), (545, .iinc 13 1, 3), (548, .goto (-65), 3), (551, .iinc 12 1, 3), (554, .goto (-90), 3), (557, .iinc 11 1, 3), (560, .goto (-107), 3), (563, .iload 5, 2), (565, .ifCond .eq 83, 3), (568, .aload_n 0, 1), (569, .iload_n 1, 1), (570, .invokevirtual 93, 3), (573, .iload 6, 2), (575, .if_icmp .ne 73, 3), (578, .aload_n 0, 1), (579, .iload_n 1, 1), (580, .iconst 0, 1), (581, .invokevirtual 87, 3), (584, .iload 7, 2), (586, .if_icmp .ne 62, 3), (589, .aload_n 0, 1), (590, .iload_n 1, 1), (591, .iconst 1, 1), (592, .invokevirtual 87, 3), (595, .iload 4, 2), (597, .if_icmp .ne 51, 3), (600, .aload_n 0, 1)]
def cd_129_5 : List (Nat × Instr × Nat) := [(601, .iload_n 1, 1), (602, .iconst 2, 1), (603, .invokevirtual 87, 3), (606, .iload 10, 2), (608, .ifCond .eq 7, 3), (611, .iconst 1, 1), (612, .goto 4, 3), (615, .iconst 0, 1), (616, .if_icmp .ne 32, 3), (619, .iload 8, 2), (621, .ifCond .eq 8, 3), (624, .iload 10, 2), (626, .ifCond .eq 22, 3), (629, .aload_n 0, 1), (630, .iload_n 1, 1), (631, .bipush 10, 2), (633, .iload 7, 2), (635, .iadd, 1), (636, .invokevirtual 87, 3), (639, .bipush (-4), 2), (641, .if_icmp .ne 7, 3), (644, .iconst 1, 1), (645, .goto 4, 3), (648, .iconst 0, 1), (649, .ireturn, 1)]
def cd_129 : List (Nat × Instr × Nat) := cd_129_0 ++ (cd_129_1 ++ (cd_129_2 ++ (cd_129_3 ++ (cd_129_4 ++ (cd_129_5)))))
/-- PricedBasesLaw.twice([I[III)Z -/
def cd_130 : List (Nat × Instr × Nat) := [(0, .ldc 82, 2), (2, .istore 4, 2), (4, .iconst 0, 1), (5, .istore 5, 2), (7, .iconst 0, 1), (8, .istore 6, 2), (10, .iload 6, 2), (12, .bipush 8, 2), (14, .if_icmp .ge 90, 3), (17, .iload_n 3, 1), (18, .iload_n 2, 1), (19, .iand, 1), (20, .iload 6, 2), (22, .invokestatic 56, 3), (25, .ifCond .eq 73, 3), (28, .aload_n 0, 1), (29, .iload_n 3, 1), (30, .iconst 1, 1), (31, .iload 6, 2), (33, .ishl, 1), (34, .iconst (-1), 1), (35, .ixor, 1), (36, .iand, 1), (37, .invokestatic 64, 3), (40, .ifCond .eq 58, 3), (43, .aload_n 0, 1), (44, .iload_n 3, 1), (45, .iconst 1, 1), (46, .iload 6, 2), (48, .ishl, 1), (49, .iconst (-1), 1), (50, .ixor, 1), (51, .iand, 1), (52, .iaload, 1), (53, .aload_n 1, 1), (54, .iload 6, 2), (56, .iaload, 1), (57, .iadd, 1), (58, .istore 7, 2), (60, .iload 7, 2), (62, .iload 4, 2), (64, .if_icmp .le 7, 3), (67, .iconst 1, 1), (68, .goto 19, 3), (71, .iload 7, 2), (73, .iload 4, 2), (75, .if_icmp .ne 10, 3), (78, .iload 5, 2), (80, .iconst 1, 1), (81, .iadd, 1), (82, .goto 5, 3), (85, .iload 5, 2), (87, .istore 5, 2), (89, .iload 4, 2), (91, .iload 7, 2), (93, .invokestatic 68, 3), (96, .istore 4, 2), (98, .iinc 6 1, 3), (101, .goto (-91), 3), (104, .iload 5, 2), (106, .iconst 1, 1), (107, .if_icmp .eq 7, 3), (110, .iconst 1, 1), (111, .goto 4, 3), (114, .iconst 0, 1), (115, .ireturn, 1)]
/-- PricedBasesLaw.spaces(LPricedBases;III[I[I)Z -/
def cd_131_0 : List (Nat × Instr × Nat) := [(0, .iconst 1, 1), (1, .istore 6, 2), (3, .iconst 0, 1), (4, .istore 7, 2), (6, .iconst 0, 1), (7, .istore 8, 2), (9, .iconst 0, 1), (10, .istore 9, 2), (12, .iconst 0, 1), (13, .istore 10, 2), (15, .iload 10, 2), (17, .iconst 1, 1), (18, .iload_n 2, 1), (19, .ishl, 1), (20, .if_icmp .ge 238, 3), (23, .iload 10, 2), (25, .invokestatic 38, 3), (28, .iload_n 3, 1), (29, .iconst 1, 1), (30, .iadd, 1), (31, .if_icmp .ne 45, 3), (34, .aload 4, 2), (36, .aload 5, 2), (38, .sipush 255, 3), (41, .iload 10, 2), (43, .invokestatic 96, 3), (46, .ifCond .ne 30, 3), (49, .iload 6, 2), (51, .ifCond .eq 19, 3), (54, .aload_n 0, 1), (55, .iload_n 1, 1), (56, .iload 7, 2), (58, .invokevirtual 100, 3), (61, .iload 10, 2), (63, .if_icmp .ne 7, 3), (66, .iconst 1, 1), (67, .goto 4, 3), (70, .iconst 0, 1), (71, .istore 6, 2), (73, .iinc 7 1, 3), (76, .iload 10, 2), (78, .invokestatic 38, 3), (81, .iload_n 3, 1), (82, .iconst 1, 1), (83, .isub, 1), (84, .if_icmp .ne 168, 3), (87, .bipush 8, 2), (89, .newarray .int, 2), (91, .astore 11, 2), (93, .iconst 0, 1), (94, .istore 12, 2), (96, .iconst 0, 1), (97, .istore 13, 2), (99, .iload 13, 2), (101, .iload_n 2, 1), (102, .if_icmp .ge 58, 3), (105, .iload 10, 2), (107, .iload 13, 2), (109, .invokestatic 56, 3), (112, .ifCond .ne 42, 3)]
def cd_131_1 : List (Nat × Instr × Nat) := [(115, .aload 4, 2), (117, .iload 10, 2), (119, .iconst 1, 1), (120, .iload 13, 2), (122, .ishl, 1), (123, .ior, 1), (124, .invokestatic 64, 3), (127, .ifCond .eq 27, 3), (130, .iload 12, 2), (132, .iconst 1, 1), (133, .iload 13, 2), (135, .ishl, 1), (136, .ior, 1), (137, .istore 12, 2), (139, .aload 11, 2), (141, .iload 13, 2), (143, .aload 4, 2), (145, .iload 10, 2), (147, .iconst 1, 1), (148, .iload 13, 2), (150, .ishl, 1), (151, .ior, 1), (152, .iaload, 1), (153, .iastore, 1), (154, .iinc 13 1, 3), (157, .goto (-58), 3), (160, .iconst 1, 1), (161, .istore 13, 2), (163, .iconst 0, 1), (164, .istore 14, 2), (166, .iload 14, 2), (168, .iconst 1, 1), (169, .iload_n 2, 1), (170, .ishl, 1), (171, .if_icmp .ge 46, 3), (174, .iload 13, 2), (176, .ifCond .eq 32, 3), (179, .iload 14, 2), (181, .invokestatic 38, 3), (184, .iload_n 3, 1), (185, .iconst 1, 1), (186, .iadd, 1), (187, .if_icmp .ne 17, 3), (190, .aload 4, 2), (192, .aload 11, 2), (194, .iload 12, 2), (196, .iload 14, 2), (198, .invokestatic 96, 3), (201, .ifCond .eq 7, 3), (204, .iconst 1, 1), (205, .goto 4, 3), (208, .iconst 0, 1), (209, .istore 13, 2), (211, .iinc 14 1, 3), (214, .goto (-48), 3), (217, .iload 8, 2), (219, .iload 12, 2), (221, .ifCond .le 7, 3), (224, .iconst 1, 1), (225, .goto 4, 3)]
def cd_131_2 : List (Nat × Instr × Nat) := [(228, .iconst 0, 1), (229, .iadd, 1), (230, .istore 8, 2), (232, .iload 9, 2), (234, .iload 12, 2), (236, .ifCond .le 12, 3), (239, .iload 13, 2), (241, .ifCond .eq 7, 3), (244, .iconst 1, 1), (245, .goto 4, 3), (248, .iconst 0, 1), (249, .iadd, 1), (250, .istore 9, 2), (252, .iinc 10 1, 3), (255, .goto (-240), 3), (258, .iload 6, 2), (260, .ifCond .eq 87, 3), (263, .aload_n 0, 1), (264, .iload_n 1, 1), (265, .iconst (-1), 1), (266, .invokevirtual 100, 3), (269, .iload 7, 2), (271, .if_icmp .ne 76, 3), (274, .aload_n 0, 1), (275, .iload_n 1, 1), (276, .iload 7, 2), (278, .invokevirtual 100, 3), (281, .bipush (-4), 2), (283, .if_icmp .ne 64, 3), (286, .aload_n 0, 1), (287, .iload_n 1, 1), (288, .invokevirtual 103, 3), (291, .iload 7, 2), (293, .ifCond .ne 7, 3), (296, .iconst 1, 1), (297, .goto 4, 3), (300, .iconst 0, 1), (301, .if_icmp .ne 46, 3), (304, .aload_n 0, 1), (305, .iload_n 1, 1), (306, .iconst 0, 1), (307, .invokevirtual 106, 3), (310, .iload 8, 2), (312, .if_icmp .ne 35, 3), (315, .aload_n 0, 1), (316, .iload_n 1, 1), (317, .iconst 1, 1), (318, .invokevirtual 106, 3), (321, .iload 9, 2), (323, .if_icmp .ne 24, 3), (326, .aload_n 0, 1), (327, .iload_n 1, 1), (328, .bipush 7, 2), (330, .invokevirtual 50, 3), (333, .ifCond .eq 10, 3), (336, .iload 9, 2), (338, .iload 8, 2), (340, .if_icmp .ne 7, 3), (343, .iconst 1, 1), (344, .goto 4, 3)]
def cd_131_3 : List (Nat × Instr × Nat) := [(347, .iconst 0, 1), (348, .ireturn, 1)]
def cd_131 : List (Nat × Instr × Nat) := cd_131_0 ++ (cd_131_1 ++ (cd_131_2 ++ (cd_131_3)))
/-- PricedBasesLaw.bases(LPricedBases;III[I)Z -/
def cd_132 : List (Nat × Instr × Nat) := [(0, .iconst 0, 1), (1, .istore 5, 2), (3, .iconst 0, 1), (4, .istore 6, 2), (6, .iconst 1, 1), (7, .iload_n 2, 1), (8, .ishl, 1), (9, .iconst 1, 1), (10, .isub, 1), (11, .istore 7, 2), (13, .ldc 82, 2), (15, .istore 8, 2), (17, .iconst (-1), 1), (18, .istore 9, 2), (20, .iconst 1, 1), (21, .istore 10, 2), (23, .iconst 0, 1), (24, .istore 11, 2), (26, .iload 11, 2), (28, .sipush 256, 3), (31, .if_icmp .ge 108, 3), (34, .aload 4, 2), (36, .iload 11, 2), (38, .invokestatic 64, 3), (41, .ifCond .eq 92, 3), (44, .iload 10, 2), (46, .ifCond .eq 36, 3), (49, .aload_n 0, 1), (50, .iload_n 1, 1), (51, .iload 5, 2), (53, .invokevirtual 109, 3), (56, .iload 11, 2), (58, .if_icmp .ne 24, 3), (61, .iload 11, 2), (63, .invokestatic 38, 3), (66, .iload_n 3, 1), (67, .if_icmp .ne 15, 3), (70, .iload 11, 2), (72, .iconst 1, 1), (73, .iload_n 2, 1), (74, .ishl, 1), (75, .if_icmp .ge 7, 3), (78, .iconst 1, 1), (79, .goto 4, 3), (82, .iconst 0, 1), (83, .istore 10, 2), (85, .iinc 5 1, 3), (88, .iload 6, 2), (90, .iload 11, 2), (92, .ior, 1), (93, .istore 6, 2), (95, .iload 7, 2), (97, .iload 11, 2), (99, .iand, 1), (100, .istore 7, 2), (102, .aload 4, 2), (104, .iload 11, 2), (106, .iaload, 1), (107, .iload 8, 2), (109, .if_icmp .le 8, 3), (112, .iload 11, 2), (114, .goto 5, 3), (117, .iload 9, 2), (119, .istore 9, 2), (121, .iload 8, 2), (123, .aload 4, 2), (125, .iload 11, 2), (127, .iaload, 1), (128, .invokestatic 68, 3), (131, .istore 8, 2), (133, .iinc 11 1, 3), (136, .goto (-110), 3), (139, .iload 10, 2), (141, .ifCond .eq 88, 3), (144, .iload 5, 2), (146, .ifCond .le 83, 3), (149, .aload_n 0, 1), (150, .iload_n 1, 1), (151, .iload 5, 2), (153, .invokevirtual 109, 3), (156, .bipush (-4), 2), (158, .if_icmp .ne 71, 3), (161, .aload_n 0, 1), (162, .iload_n 1, 1), (163, .iconst 2, 1), (164, .invokevirtual 50, 3), (167, .iload 5, 2), (169, .if_icmp .ne 60, 3), (172, .aload_n 0, 1), (173, .iload_n 1, 1), (174, .iconst 3, 1), (175, .invokevirtual 50, 3), (178, .iload 8, 2), (180, .if_icmp .ne 49, 3), (183, .aload_n 0, 1), (184, .iload_n 1, 1), (185, .iconst 4, 1), (186, .invokevirtual 50, 3), (189, .iload 9, 2), (191, .if_icmp .ne 38, 3), (194, .aload_n 0, 1), (195, .iload_n 1, 1), (196, .iconst 5, 1), (197, .invokevirtual 50, 3), (200, .iconst 1, 1), (201, .iload_n 2, 1), (202, .ishl, 1), (203, .iconst 1, 1), (204, .isub, 1), (205, .iload 6, 2), (207, .iconst (-1), 1), (208, .ixor, 1), (209, .iand, 1), (210, .if_icmp .ne 19, 3), (213, .aload_n 0, 1), (214, .iload_n 1, 1), (215, .bipush 6, 2), (217, .invokevirtual 50, 3), (220, .iload 7, 2), (222, .if_icmp .ne 7, 3), (225, .iconst 1, 1), (226, .goto 4, 3), (229, .iconst 0, 1), (230, .ireturn, 1)]
/-- PricedBasesLaw.law([I)Z -/
def cd_law_0 : List (Nat × Instr × Nat) := [(0, .new 8, 3), (3, .dup, 1), (4, .invokespecial 112, 3), (7, .astore_n 1, 1), (8, .iconst 1, 1), (9, .newarray .int, 2), (11, .dup, 1), (12, .iconst 0, 1), (13, .aload_n 0, 1), (14, .arraylength, 1), (15, .ifCond .ne 9, 3), (18, .sipush 2095, 3), (21, .goto 6, 3), (24, .aload_n 0, 1), (25, .iconst 0, 1), (26, .iaload, 1), (27, .iastore, 1), (28, .astore_n 2, 1), (29, .bipush 8, 2), (31, .newarray .int, 2), (33, .astore_n 3, 1), (34, .aload_n 1, 1), (35, .iconst 3, 1), (36, .invokestatic 113, 3), (39, .astore 4, 2), (41, .aload_n 1, 1), (42, .iconst 2, 1), (43, .invokevirtual 117, 3), (46, .bipush 8, 2), (48, .if_icmp .ne 54, 3), (51, .aload_n 1, 1), (52, .iconst 3, 1), (53, .iconst 2, 1), (54, .iconst 1, 1), (55, .aload 4, 2), (57, .invokestatic 120, 3), (60, .ifCond .eq 42, 3), (63, .aload_n 1, 1), (64, .iconst 3, 1), (65, .aload 4, 2), (67, .aload_n 2, 1), (68, .invokestatic 124, 3), (71, .ifCond .eq 31, 3), (74, .aload_n 1, 1), (75, .iconst 3, 1), (76, .aload 4, 2), (78, .aload_n 3, 1), (79, .invokestatic 128, 3), (82, .ifCond .eq 20, 3), (85, .aload_n 1, 1), (86, .iconst 3, 1), (87, .iconst 2, 1), (88, .iconst 1, 1), (89, .aload 4, 2), (91, .aload_n 3, 1), (92, .invokestatic 130, 3), (95, .ifCond .eq 7, 3), (98, .iconst 1, 1), (99, .goto 4, 3), (102, .iconst 0, 1)]
def cd_law_1 : List (Nat × Instr × Nat) := [(103, .istore 5, 2), (105, .iconst 0, 1), (106, .istore 6, 2), (108, .iload 6, 2), (110, .bipush 6, 2), (112, .if_icmp .ge 168, 3), (115, .aload_n 2, 1), (116, .iconst 0, 1), (117, .dup2, 1), (118, .iaload, 1), (119, .iload 6, 2), (121, .aload_n 0, 1), (122, .arraylength, 1), (123, .if_icmp .ge 10, 3), (126, .aload_n 0, 1), (127, .iload 6, 2), (129, .iaload, 1), (130, .goto 4, 3), (133, .iconst 0, 1), (134, .ixor, 1), (135, .iastore, 1), (136, .iconst 3, 1), (137, .aload_n 2, 1), (138, .invokestatic 20, 3), (141, .iconst 4, 1), (142, .irem, 1), (143, .iadd, 1), (144, .istore 7, 2), (146, .aload_n 2, 1), (147, .invokestatic 20, 3), (150, .iconst 4, 1), (151, .irem, 1), (152, .istore 8, 2), (154, .aload_n 1, 1), (155, .iload 8, 2), (157, .iload 7, 2), (159, .aload_n 2, 1), (160, .invokestatic 20, 3), (163, .iconst 4, 1), (164, .irem, 1), (165, .aload_n 2, 1), (166, .invokestatic 134, 3), (169, .istore 9, 2), (171, .aload_n 1, 1), (172, .aload_n 2, 1), (173, .invokestatic 138, 3), (176, .astore 10, 2), (178, .aload_n 1, 1), (179, .iload 8, 2), (181, .invokestatic 113, 3), (184, .astore 11, 2), (186, .iload 5, 2), (188, .ifCond .eq 83, 3), (191, .iload 9, 2), (193, .ifCond .le 78, 3), (196, .aload_n 1, 1), (197, .iload 8, 2), (199, .iload 7, 2), (201, .iload 9, 2), (203, .aload 11, 2)]
def cd_law_2 : List (Nat × Instr × Nat) := [(205, .invokestatic 120, 3), (208, .ifCond .eq 63, 3), (211, .aload_n 1, 1), (212, .iload 8, 2), (214, .aload 11, 2), (216, .aload_n 2, 1), (217, .invokestatic 124, 3), (220, .ifCond .eq 51, 3), (223, .aload_n 1, 1), (224, .iload 8, 2), (226, .aload 11, 2), (228, .aload 10, 2), (230, .invokestatic 128, 3), (233, .ifCond .eq 38, 3), (236, .aload_n 1, 1), (237, .iload 8, 2), (239, .iload 7, 2), (241, .iload 9, 2), (243, .aload 11, 2), (245, .aload 10, 2), (247, .invokestatic 130, 3), (250, .ifCond .eq 21, 3), (253, .aload_n 1, 1), (254, .iconst 3, 1), (255, .bipush 7, 2), (257, .invokevirtual 60, 3), (260, .aload 10, 2), (262, .iconst 3, 1), (263, .iaload, 1), (264, .if_icmp .ne 7, 3), (267, .iconst 1, 1), (268, .goto 4, 3), (271, .iconst 0, 1), (272, .istore 5, 2), (274, .iinc 6 1, 3), (277, .goto (-169), 3), (280, .iload 5, 2), (282, .ifCond .eq 196, 3), (285, .aload_n 1, 1), (286, .bipush 8, 2), (288, .iconst 0, 1), (289, .invokevirtual 60, 3), (292, .ldc 63, 2), (294, .if_icmp .ne 184, 3), (297, .aload_n 1, 1), (298, .iconst 0, 1), (299, .sipush 1001, 3), (302, .invokevirtual 60, 3), (305, .ldc 63, 2), (307, .if_icmp .ne 171, 3), (310, .aload_n 1, 1), (311, .iconst 4, 1), (312, .iconst 0, 1), (313, .invokevirtual 50, 3), (316, .ldc 63, 2), (318, .if_icmp .ne 160, 3), (321, .aload_n 1, 1), (322, .iconst 0, 1), (323, .bipush 13, 2), (325, .invokevirtual 50, 3)]
def cd_law_3 : List (Nat × Instr × Nat) := [(328, .ldc 63, 2), (330, .if_icmp .ne 148, 3), (333, .aload_n 1, 1), (334, .iconst 4, 1), (335, .iconst 1, 1), (336, .invokevirtual 53, 3), (339, .ldc 63, 2), (341, .if_icmp .ne 137, 3), (344, .aload_n 1, 1), (345, .iconst 0, 1), (346, .sipush 256, 3), (349, .invokevirtual 53, 3), (352, .ldc 63, 2), (354, .if_icmp .ne 124, 3), (357, .aload_n 1, 1), (358, .iconst 0, 1), (359, .iconst (-1), 1), (360, .invokevirtual 53, 3), (363, .ldc 63, 2), (365, .if_icmp .ne 113, 3), (368, .aload_n 1, 1), (369, .iconst 0, 1), (370, .iconst (-1), 1), (371, .invokevirtual 109, 3), (374, .iconst (-1), 1), (375, .if_icmp .ne 103, 3), (378, .aload_n 1, 1), (379, .iconst 0, 1), (380, .iconst (-1), 1), (381, .iconst 0, 1), (382, .invokevirtual 75, 3), (385, .iconst (-1), 1), (386, .if_icmp .ne 92, 3), (389, .aload_n 1, 1), (390, .iconst 0, 1), (391, .iconst 0, 1), (392, .iconst 3, 1), (393, .invokevirtual 75, 3), (396, .iconst (-1), 1), (397, .if_icmp .ne 81, 3), (400, .aload_n 1, 1), (401, .iconst 0, 1), (402, .iconst 0, 1), (403, .iconst 1, 1), (404, .iconst 0, 1), (405, .invokevirtual 79, 3), (408, .iconst (-1), 1), (409, .if_icmp .ne 69, 3), (412, .aload_n 1, 1), (413, .iconst 0, 1), (414, .iconst 0, 1), (415, .iconst 0, 1), (416, .invokevirtual 90, 3), (419, .ldc 63, 2), (421, .if_icmp .ne 57, 3), (424, .aload_n 1, 1), (425, .iconst 4, 1), (426, .invokevirtual 93, 3), (429, .iconst (-1), 1), (430, .if_icmp .ne 48, 3)]
def cd_law_4 : List (Nat × Instr × Nat) := [(433, .aload_n 1, 1), (434, .iconst 0, 1), (435, .iconst 3, 1), (436, .invokevirtual 87, 3), (439, .ldc 63, 2), (441, .if_icmp .ne 37, 3), (444, .aload_n 1, 1), (445, .iconst 4, 1), (446, .invokevirtual 103, 3), (449, .iconst (-1), 1), (450, .if_icmp .ne 28, 3), (453, .aload_n 1, 1), (454, .iconst 0, 1), (455, .bipush (-2), 2), (457, .invokevirtual 100, 3), (460, .iconst (-1), 1), (461, .if_icmp .ne 17, 3), (464, .aload_n 1, 1), (465, .iconst 0, 1), (466, .iconst 2, 1), (467, .invokevirtual 106, 3), (470, .iconst (-1), 1), (471, .if_icmp .ne 7, 3), (474, .iconst 1, 1), (475, .goto 4, 3), (478, .iconst 0, 1), (479, .ireturn, 1)]
def cd_law : List (List (Nat × Instr × Nat)) := [cd_law_0, cd_law_1, cd_law_2, cd_law_3, cd_law_4]
end
section
/-! The lists of part 01b are what the bytes decode to. -/
def vd_ok (b : ByteArray) (l : List (Nat × Instr × Nat)) : Bool := l.all (fun q => decide (decode b q.1 = .ok q.2))
theorem vd_app {b : ByteArray} {l l2 : List (Nat × Instr × Nat)} (h : vd_ok b l = true) (h2 : vd_ok b l2 = true) : vd_ok b (l ++ l2) = true := by
  unfold vd_ok at *
  rw [List.all_append, h, h2]
  rfl
set_option maxRecDepth 100000 in
theorem vd_0 : vd_ok prog_2_method_1_code cd_0 = true := by decide +kernel
set_option maxRecDepth 100000 in
theorem vd_1 : vd_ok prog_2_method_2_code cd_1 = true := by decide +kernel
set_option maxRecDepth 100000 in
theorem vd_2 : vd_ok prog_2_method_3_code cd_2 = true := by decide +kernel
set_option maxRecDepth 100000 in
theorem vd_3 : vd_ok prog_2_method_4_code cd_3 = true := by decide +kernel
set_option maxRecDepth 100000 in
theorem vd_4 : vd_ok prog_2_method_5_code cd_4 = true := by decide +kernel
set_option maxRecDepth 100000 in
theorem vd_5 : vd_ok prog_2_method_6_code cd_5 = true := by decide +kernel
set_option maxRecDepth 100000 in
theorem vd_6 : vd_ok prog_2_method_7_code cd_6 = true := by decide +kernel
set_option maxRecDepth 100000 in
theorem vd_7 : vd_ok prog_2_method_8_code cd_7 = true := by decide +kernel
set_option maxRecDepth 100000 in
theorem vd_8 : vd_ok prog_2_method_9_code cd_8 = true := by decide +kernel
set_option maxRecDepth 100000 in
theorem vd_9 : vd_ok prog_2_method_10_code cd_9 = true := by decide +kernel
set_option maxRecDepth 100000 in
theorem vd_10 : vd_ok prog_2_method_11_code cd_10 = true := by decide +kernel
set_option maxRecDepth 100000 in
theorem vd_11 : vd_ok prog_2_method_12_code cd_11 = true := by decide +kernel
set_option maxRecDepth 100000 in
theorem vd_12 : vd_ok prog_2_method_13_code cd_12 = true := by decide +kernel
set_option maxRecDepth 100000 in
theorem vd_13 : vd_ok prog_2_method_14_code cd_13 = true := by decide +kernel
set_option maxRecDepth 100000 in
theorem vd_14 : vd_ok prog_2_method_15_code cd_14 = true := by decide +kernel
set_option maxRecDepth 100000 in
theorem vd_15 : vd_ok prog_2_method_16_code cd_15 = true := by decide +kernel
set_option maxRecDepth 100000 in
theorem vd_16 : vd_ok prog_2_method_17_code cd_16 = true := by decide +kernel
set_option maxRecDepth 100000 in
theorem vd_17 : vd_ok prog_2_method_18_code cd_17 = true := by decide +kernel
set_option maxRecDepth 100000 in
theorem vd_18 : vd_ok prog_2_method_19_code cd_18 = true := by decide +kernel
set_option maxRecDepth 100000 in
theorem vd_19 : vd_ok prog_3_method_1_code cd_19 = true := by decide +kernel
set_option maxRecDepth 100000 in
theorem vd_20 : vd_ok prog_4_method_1_code cd_20 = true := by decide +kernel
set_option maxRecDepth 100000 in
theorem vd_21 : vd_ok prog_4_method_2_code cd_21 = true := by decide +kernel
set_option maxRecDepth 100000 in
theorem vd_22 : vd_ok prog_4_method_3_code cd_22 = true := by decide +kernel
set_option maxRecDepth 100000 in
theorem vd_23 : vd_ok prog_4_method_4_code cd_23 = true := by decide +kernel
set_option maxRecDepth 100000 in
theorem vd_24 : vd_ok prog_4_method_5_code cd_24 = true := by decide +kernel
set_option maxRecDepth 100000 in
theorem vd_25 : vd_ok prog_4_method_6_code cd_25 = true := by decide +kernel
set_option maxRecDepth 100000 in
theorem vd_26 : vd_ok prog_5_method_1_code cd_26 = true := by decide +kernel
set_option maxRecDepth 100000 in
theorem vd_27 : vd_ok prog_5_method_2_code cd_27 = true := by decide +kernel
set_option maxRecDepth 100000 in
theorem vd_28 : vd_ok prog_5_method_3_code cd_28 = true := by decide +kernel
set_option maxRecDepth 100000 in
theorem vd_29 : vd_ok prog_5_method_4_code cd_29 = true := by decide +kernel
set_option maxRecDepth 100000 in
theorem vd_30 : vd_ok prog_5_method_5_code cd_30 = true := by decide +kernel
set_option maxRecDepth 100000 in
theorem vd_31 : vd_ok prog_5_method_6_code cd_31 = true := by decide +kernel
set_option maxRecDepth 100000 in
theorem vd_32 : vd_ok prog_5_method_7_code cd_32 = true := by decide +kernel
set_option maxRecDepth 100000 in
theorem vd_33 : vd_ok prog_5_method_8_code cd_33 = true := by decide +kernel
set_option maxRecDepth 100000 in
theorem vd_34 : vd_ok prog_5_method_9_code cd_34 = true := by decide +kernel
set_option maxRecDepth 100000 in
theorem vd_35 : vd_ok prog_5_method_10_code cd_35 = true := by decide +kernel
set_option maxRecDepth 100000 in
theorem vd_36 : vd_ok prog_5_method_11_code cd_36 = true := by decide +kernel
set_option maxRecDepth 100000 in
theorem vd_37 : vd_ok prog_5_method_12_code cd_37 = true := by decide +kernel
set_option maxRecDepth 100000 in
theorem vd_38 : vd_ok prog_5_method_13_code cd_38 = true := by decide +kernel
set_option maxRecDepth 100000 in
theorem vd_39 : vd_ok prog_5_method_14_code cd_39 = true := by decide +kernel
set_option maxRecDepth 100000 in
theorem vd_40 : vd_ok prog_5_method_15_code cd_40 = true := by decide +kernel
set_option maxRecDepth 100000 in
theorem vd_41 : vd_ok prog_5_method_16_code cd_41 = true := by decide +kernel
set_option maxRecDepth 100000 in
theorem vd_42 : vd_ok prog_5_method_17_code cd_42 = true := by decide +kernel
set_option maxRecDepth 100000 in
theorem vd_43 : vd_ok prog_5_method_18_code cd_43 = true := by decide +kernel
set_option maxRecDepth 100000 in
theorem vd_44 : vd_ok prog_5_method_19_code cd_44 = true := by decide +kernel
set_option maxRecDepth 100000 in
theorem vd_45 : vd_ok prog_5_method_20_code cd_45 = true := by decide +kernel
set_option maxRecDepth 100000 in
theorem vd_46 : vd_ok prog_5_method_21_code cd_46 = true := by decide +kernel
set_option maxRecDepth 100000 in
theorem vd_47 : vd_ok prog_6_method_1_code cd_47 = true := by decide +kernel
set_option maxRecDepth 100000 in
theorem vd_48 : vd_ok prog_7_method_2_code cd_48 = true := by decide +kernel
set_option maxRecDepth 100000 in
theorem vd_49 : vd_ok prog_7_method_3_code cd_49 = true := by decide +kernel
set_option maxRecDepth 100000 in
theorem vd_50 : vd_ok prog_7_method_4_code cd_50 = true := by decide +kernel
set_option maxRecDepth 100000 in
theorem vd_51 : vd_ok prog_7_method_5_code cd_51 = true := by decide +kernel
set_option maxRecDepth 100000 in
theorem vd_52 : vd_ok prog_7_method_6_code cd_52 = true := by decide +kernel
set_option maxRecDepth 100000 in
theorem vd_53 : vd_ok prog_7_method_7_code cd_53 = true := by decide +kernel
set_option maxRecDepth 100000 in
theorem vd_54 : vd_ok prog_7_method_9_code cd_54 = true := by decide +kernel
set_option maxRecDepth 100000 in
theorem vd_55 : vd_ok prog_7_method_10_code cd_55 = true := by decide +kernel
set_option maxRecDepth 100000 in
theorem vd_56 : vd_ok prog_8_method_1_code cd_56 = true := by decide +kernel
set_option maxRecDepth 100000 in
theorem vd_57 : vd_ok prog_8_method_2_code cd_57 = true := by decide +kernel
set_option maxRecDepth 100000 in
theorem vd_58 : vd_ok prog_8_method_3_code cd_58 = true := by decide +kernel
set_option maxRecDepth 100000 in
theorem vd_59 : vd_ok prog_8_method_4_code cd_59 = true := by decide +kernel
set_option maxRecDepth 100000 in
theorem vd_60 : vd_ok prog_8_method_5_code cd_60 = true := by decide +kernel
set_option maxRecDepth 100000 in
theorem vd_61 : vd_ok prog_8_method_6_code cd_61 = true := by decide +kernel
set_option maxRecDepth 100000 in
theorem vd_62 : vd_ok prog_8_method_7_code cd_62 = true := by decide +kernel
set_option maxRecDepth 100000 in
theorem vd_63 : vd_ok prog_8_method_8_code cd_63 = true := by decide +kernel
set_option maxRecDepth 100000 in
theorem vd_64 : vd_ok prog_9_method_1_code cd_64 = true := by decide +kernel
set_option maxRecDepth 100000 in
theorem vd_65 : vd_ok prog_9_method_2_code cd_65 = true := by decide +kernel
set_option maxRecDepth 100000 in
theorem vd_66 : vd_ok prog_9_method_3_code cd_66 = true := by decide +kernel
set_option maxRecDepth 100000 in
theorem vd_67 : vd_ok prog_9_method_4_code cd_67 = true := by decide +kernel
set_option maxRecDepth 100000 in
theorem vd_68 : vd_ok prog_9_method_5_code cd_68 = true := by decide +kernel
set_option maxRecDepth 100000 in
theorem vd_69 : vd_ok prog_10_method_1_code cd_69 = true := by decide +kernel
set_option maxRecDepth 100000 in
theorem vd_70 : vd_ok prog_10_method_2_code cd_70 = true := by decide +kernel
set_option maxRecDepth 100000 in
theorem vd_71 : vd_ok prog_10_method_3_code cd_71 = true := by decide +kernel
set_option maxRecDepth 100000 in
theorem vd_72 : vd_ok prog_10_method_4_code cd_72 = true := by decide +kernel
set_option maxRecDepth 100000 in
theorem vd_73 : vd_ok prog_10_method_5_code cd_73 = true := by decide +kernel
set_option maxRecDepth 100000 in
theorem vd_74 : vd_ok prog_10_method_6_code cd_74 = true := by decide +kernel
set_option maxRecDepth 100000 in
theorem vd_75 : vd_ok prog_10_method_7_code cd_75 = true := by decide +kernel
set_option maxRecDepth 100000 in
theorem vd_76 : vd_ok prog_10_method_8_code cd_76 = true := by decide +kernel
set_option maxRecDepth 100000 in
theorem vd_77 : vd_ok prog_10_method_9_code cd_77 = true := by decide +kernel
set_option maxRecDepth 100000 in
theorem vd_78 : vd_ok prog_11_method_1_code cd_78 = true := by decide +kernel
set_option maxRecDepth 100000 in
theorem vd_79 : vd_ok prog_11_method_2_code cd_79 = true := by decide +kernel
set_option maxRecDepth 100000 in
theorem vd_80 : vd_ok prog_11_method_3_code cd_80 = true := by decide +kernel
set_option maxRecDepth 100000 in
theorem vd_81 : vd_ok prog_11_method_4_code cd_81 = true := by decide +kernel
set_option maxRecDepth 100000 in
theorem vd_82 : vd_ok prog_11_method_5_code cd_82 = true := by decide +kernel
set_option maxRecDepth 100000 in
theorem vd_83 : vd_ok prog_11_method_6_code cd_83 = true := by decide +kernel
set_option maxRecDepth 100000 in
theorem vd_84 : vd_ok prog_11_method_7_code cd_84 = true := by decide +kernel
set_option maxRecDepth 100000 in
theorem vd_85 : vd_ok prog_11_method_8_code cd_85 = true := by decide +kernel
set_option maxRecDepth 100000 in
theorem vd_86 : vd_ok prog_11_method_9_code cd_86 = true := by decide +kernel
set_option maxRecDepth 100000 in
theorem vd_87 : vd_ok prog_11_method_10_code cd_87 = true := by decide +kernel
set_option maxRecDepth 100000 in
theorem vd_88 : vd_ok prog_11_method_11_code cd_88 = true := by decide +kernel
set_option maxRecDepth 100000 in
theorem vd_89 : vd_ok prog_11_method_12_code cd_89 = true := by decide +kernel
set_option maxRecDepth 100000 in
theorem vd_90 : vd_ok prog_11_method_13_code cd_90 = true := by decide +kernel
set_option maxRecDepth 100000 in
theorem vd_91 : vd_ok prog_11_method_14_code cd_91 = true := by decide +kernel
set_option maxRecDepth 100000 in
theorem vd_92 : vd_ok prog_11_method_15_code cd_92 = true := by decide +kernel
set_option maxRecDepth 100000 in
theorem vd_93 : vd_ok prog_12_method_1_code cd_93 = true := by decide +kernel
set_option maxRecDepth 100000 in
theorem vd_94 : vd_ok prog_1_method_1_code cd_94 = true := by decide +kernel
set_option maxRecDepth 100000 in
theorem vd_95 : vd_ok prog_1_method_2_code cd_95 = true := by decide +kernel
set_option maxRecDepth 100000 in
theorem vd_96 : vd_ok prog_1_method_3_code cd_96 = true := by decide +kernel
set_option maxRecDepth 100000 in
theorem vd_97 : vd_ok prog_1_method_4_code cd_97 = true := by decide +kernel
set_option maxRecDepth 100000 in
theorem vd_98 : vd_ok prog_1_method_5_code cd_98 = true := by decide +kernel
set_option maxRecDepth 100000 in
theorem vd_99 : vd_ok prog_1_method_6_code cd_99 = true := by decide +kernel
set_option maxRecDepth 100000 in
theorem vd_100 : vd_ok prog_1_method_7_code cd_100 = true := by decide +kernel
set_option maxRecDepth 100000 in
theorem vd_101 : vd_ok prog_1_method_8_code cd_101 = true := by decide +kernel
set_option maxRecDepth 100000 in
theorem vd_102 : vd_ok prog_1_method_9_code cd_102 = true := by decide +kernel
set_option maxRecDepth 100000 in
theorem vd_103 : vd_ok prog_1_method_10_code cd_103 = true := by decide +kernel
set_option maxRecDepth 100000 in
theorem vd_104 : vd_ok prog_1_method_11_code cd_104 = true := by decide +kernel
set_option maxRecDepth 100000 in
theorem vd_105 : vd_ok prog_1_method_15_code cd_105 = true := by decide +kernel
set_option maxRecDepth 100000 in
theorem vd_106 : vd_ok prog_1_method_16_code cd_106 = true := by decide +kernel
set_option maxRecDepth 100000 in
theorem vd_107 : vd_ok prog_1_method_17_code cd_107 = true := by decide +kernel
set_option maxRecDepth 100000 in
theorem vd_108 : vd_ok prog_1_method_18_code cd_108 = true := by decide +kernel
set_option maxRecDepth 100000 in
theorem vd_109 : vd_ok prog_1_method_19_code cd_109 = true := by decide +kernel
set_option maxRecDepth 100000 in
theorem vd_110 : vd_ok prog_1_method_20_code cd_110 = true := by decide +kernel
set_option maxRecDepth 100000 in
theorem vd_111 : vd_ok prog_1_method_43_code cd_111 = true := by decide +kernel
set_option maxRecDepth 100000 in
theorem vd_112 : vd_ok prog_1_method_47_code cd_112 = true := by decide +kernel
set_option maxRecDepth 100000 in
theorem vd_113 : vd_ok prog_1_method_48_code cd_113 = true := by decide +kernel
set_option maxRecDepth 100000 in
theorem vd_114 : vd_ok prog_1_method_50_code cd_114 = true := by decide +kernel
set_option maxRecDepth 100000 in
theorem vd_115 : vd_ok prog_15_method_49_code cd_115 = true := by decide +kernel
set_option maxRecDepth 100000 in
theorem vd_116 : vd_ok prog_21_method_103_code cd_116 = true := by decide +kernel
set_option maxRecDepth 100000 in
theorem vd_117 : vd_ok method_2_code cd_117 = true := by decide +kernel
set_option maxRecDepth 100000 in
theorem vd_118 : vd_ok method_3_code cd_118 = true := by decide +kernel
set_option maxRecDepth 100000 in
theorem vd_119 : vd_ok method_4_code cd_119 = true := by decide +kernel
set_option maxRecDepth 100000 in
theorem vd_120 : vd_ok method_5_code cd_120 = true := by decide +kernel
set_option maxRecDepth 100000 in
theorem vd_121 : vd_ok method_6_code cd_121 = true := by decide +kernel
set_option maxRecDepth 100000 in
theorem vd_122_0 : vd_ok method_7_code cd_122_0 = true := by decide +kernel
set_option maxRecDepth 100000 in
theorem vd_122_1 : vd_ok method_7_code cd_122_1 = true := by decide +kernel
set_option maxRecDepth 100000 in
theorem vd_122_2 : vd_ok method_7_code cd_122_2 = true := by decide +kernel
set_option maxRecDepth 100000 in
theorem vd_122_3 : vd_ok method_7_code cd_122_3 = true := by decide +kernel
set_option maxRecDepth 100000 in
theorem vd_122_4 : vd_ok method_7_code cd_122_4 = true := by decide +kernel
set_option maxRecDepth 100000 in
theorem vd_122_5 : vd_ok method_7_code cd_122_5 = true := by decide +kernel
set_option maxRecDepth 100000 in
theorem vd_122_6 : vd_ok method_7_code cd_122_6 = true := by decide +kernel
set_option maxRecDepth 100000 in
theorem vd_122_7 : vd_ok method_7_code cd_122_7 = true := by decide +kernel
set_option maxRecDepth 100000 in
theorem vd_122_8 : vd_ok method_7_code cd_122_8 = true := by decide +kernel
set_option maxRecDepth 100000 in
theorem vd_122_9 : vd_ok method_7_code cd_122_9 = true := by decide +kernel
set_option maxRecDepth 100000 in
theorem vd_122_10 : vd_ok method_7_code cd_122_10 = true := by decide +kernel
set_option maxRecDepth 100000 in
theorem vd_122_11 : vd_ok method_7_code cd_122_11 = true := by decide +kernel
set_option maxRecDepth 100000 in
theorem vd_122_12 : vd_ok method_7_code cd_122_12 = true := by decide +kernel
set_option maxRecDepth 100000 in
theorem vd_122_13 : vd_ok method_7_code cd_122_13 = true := by decide +kernel
set_option maxRecDepth 100000 in
theorem vd_122_14 : vd_ok method_7_code cd_122_14 = true := by decide +kernel
set_option maxRecDepth 100000 in
theorem vd_122_15 : vd_ok method_7_code cd_122_15 = true := by decide +kernel
set_option maxRecDepth 100000 in
theorem vd_122_16 : vd_ok method_7_code cd_122_16 = true := by decide +kernel
set_option maxRecDepth 100000 in
theorem vd_122_17 : vd_ok method_7_code cd_122_17 = true := by decide +kernel
set_option maxRecDepth 100000 in
theorem vd_122_18 : vd_ok method_7_code cd_122_18 = true := by decide +kernel
set_option maxRecDepth 100000 in
theorem vd_122_19 : vd_ok method_7_code cd_122_19 = true := by decide +kernel
set_option maxRecDepth 100000 in
theorem vd_122_20 : vd_ok method_7_code cd_122_20 = true := by decide +kernel
set_option maxRecDepth 100000 in
theorem vd_122_21 : vd_ok method_7_code cd_122_21 = true := by decide +kernel
theorem vd_122 : vd_ok method_7_code cd_122 = true := vd_app vd_122_0 (vd_app vd_122_1 (vd_app vd_122_2 (vd_app vd_122_3 (vd_app vd_122_4 (vd_app vd_122_5 (vd_app vd_122_6 (vd_app vd_122_7 (vd_app vd_122_8 (vd_app vd_122_9 (vd_app vd_122_10 (vd_app vd_122_11 (vd_app vd_122_12 (vd_app vd_122_13 (vd_app vd_122_14 (vd_app vd_122_15 (vd_app vd_122_16 (vd_app vd_122_17 (vd_app vd_122_18 (vd_app vd_122_19 (vd_app vd_122_20 (vd_122_21)))))))))))))))))))))
set_option maxRecDepth 100000 in
theorem vd_123 : vd_ok method_8_code cd_123 = true := by decide +kernel
set_option maxRecDepth 100000 in
theorem vd_124 : vd_ok method_9_code cd_124 = true := by decide +kernel
set_option maxRecDepth 100000 in
theorem vd_125 : vd_ok method_10_code cd_125 = true := by decide +kernel
set_option maxRecDepth 100000 in
theorem vd_126 : vd_ok method_11_code cd_126 = true := by decide +kernel
set_option maxRecDepth 100000 in
theorem vd_127 : vd_ok method_13_code cd_127 = true := by decide +kernel
set_option maxRecDepth 100000 in
theorem vd_128_0 : vd_ok method_14_code cd_128_0 = true := by decide +kernel
set_option maxRecDepth 100000 in
theorem vd_128_1 : vd_ok method_14_code cd_128_1 = true := by decide +kernel
set_option maxRecDepth 100000 in
theorem vd_128_2 : vd_ok method_14_code cd_128_2 = true := by decide +kernel
theorem vd_128 : vd_ok method_14_code cd_128 = true := vd_app vd_128_0 (vd_app vd_128_1 (vd_128_2))
set_option maxRecDepth 100000 in
theorem vd_129_0 : vd_ok method_15_code cd_129_0 = true := by decide +kernel
set_option maxRecDepth 100000 in
theorem vd_129_1 : vd_ok method_15_code cd_129_1 = true := by decide +kernel
set_option maxRecDepth 100000 in
theorem vd_129_2 : vd_ok method_15_code cd_129_2 = true := by decide +kernel
set_option maxRecDepth 100000 in
theorem vd_129_3 : vd_ok method_15_code cd_129_3 = true := by decide +kernel
set_option maxRecDepth 100000 in
theorem vd_129_4 : vd_ok method_15_code cd_129_4 = true := by decide +kernel
set_option maxRecDepth 100000 in
theorem vd_129_5 : vd_ok method_15_code cd_129_5 = true := by decide +kernel
theorem vd_129 : vd_ok method_15_code cd_129 = true := vd_app vd_129_0 (vd_app vd_129_1 (vd_app vd_129_2 (vd_app vd_129_3 (vd_app vd_129_4 (vd_129_5)))))
set_option maxRecDepth 100000 in
theorem vd_130 : vd_ok method_16_code cd_130 = true := by decide +kernel
set_option maxRecDepth 100000 in
theorem vd_131_0 : vd_ok method_17_code cd_131_0 = true := by decide +kernel
set_option maxRecDepth 100000 in
theorem vd_131_1 : vd_ok method_17_code cd_131_1 = true := by decide +kernel
set_option maxRecDepth 100000 in
theorem vd_131_2 : vd_ok method_17_code cd_131_2 = true := by decide +kernel
set_option maxRecDepth 100000 in
theorem vd_131_3 : vd_ok method_17_code cd_131_3 = true := by decide +kernel
theorem vd_131 : vd_ok method_17_code cd_131 = true := vd_app vd_131_0 (vd_app vd_131_1 (vd_app vd_131_2 (vd_131_3)))
set_option maxRecDepth 100000 in
theorem vd_132 : vd_ok method_18_code cd_132 = true := by decide +kernel
end
section
/-! The same for the law, in pieces. -/
set_option maxRecDepth 100000 in
theorem vd_law_0 : vd_ok code cd_law_0 = true := by decide +kernel
set_option maxRecDepth 100000 in
theorem vd_law_1 : vd_ok code cd_law_1 = true := by decide +kernel
set_option maxRecDepth 100000 in
theorem vd_law_2 : vd_ok code cd_law_2 = true := by decide +kernel
set_option maxRecDepth 100000 in
theorem vd_law_3 : vd_ok code cd_law_3 = true := by decide +kernel
set_option maxRecDepth 100000 in
theorem vd_law_4 : vd_ok code cd_law_4 = true := by decide +kernel
end
section
/-! An abstract machine, small and total, for the bytecode of the class, the reference and the law: what one instruction asks and does (ai_stp), a run up to cut points (ai_W), a call (ai_Cl). Nothing here speaks of the claim's machine. -/
/-- a value: an int, a long, or a cell by its number (0: null) -/
abbrev ai_V : Type := Int32 ⊕ Int64 ⊕ Nat
/-- ints of fields and of arrays; longs; cells that cells name -/
abbrev ai_I : Type := Nat → Nat → Int32
abbrev ai_J : Type := Nat → Nat → Int64
abbrev ai_R : Type := Nat → Nat → Nat
/-- the kind of each cell, the length of each array, how many cells there are -/
abbrev ai_G : Type := (Nat → Nat) × (Nat → Nat) × Nat
abbrev ai_K : Type := Nat → List (Option ai_V) → List ai_V → Nat × Nat → ai_I → ai_J → ai_R → ai_G → Prop
abbrev ai_Q : Type := Option ai_V → ai_I → ai_J → ai_R → ai_G → Prop
abbrev ai_C : Type := Nat → List ai_V → ai_I → ai_J → ai_R → ai_G → Option ai_V → ai_I → ai_J → ai_R → ai_G → Prop
/-- the program's tables: fields (class, index: the cell's class, place, type 0 int 1 long 2 cell 3 boolean, final), methods (class, index: number), constants, classes made; of a method its arguments with the receiver, the receiver's class and one (0: none), what it may make; of a class its fields; of a cell its letters, if it is a string constant -/
abbrev ai_T : Type := (Nat → Nat → Nat × Nat × Nat × Bool) × (Nat → Nat → Nat) × (Nat → Nat → Option ai_V) × (Nat → Nat → Nat) × (Nat → Nat) × (Nat → Nat) × (Nat → Nat × Nat) × (Nat → Nat) × (Nat → Option (List Nat))
def ai_fld (t : ai_T) : Nat → Nat → Nat × Nat × Nat × Bool := t.1
def ai_mth (t : ai_T) : Nat → Nat → Nat := t.2.1
def ai_cst (t : ai_T) : Nat → Nat → Option ai_V := t.2.2.1
def ai_cls (t : ai_T) : Nat → Nat → Nat := t.2.2.2.1
def ai_nar (t : ai_T) : Nat → Nat := t.2.2.2.2.1
def ai_rcv (t : ai_T) : Nat → Nat := t.2.2.2.2.2.1
def ai_bud (t : ai_T) : Nat → Nat × Nat := t.2.2.2.2.2.2.1
def ai_nfd (t : ai_T) : Nat → Nat := t.2.2.2.2.2.2.2.1
def ai_txt (t : ai_T) : Nat → Option (List Nat) := t.2.2.2.2.2.2.2.2
/-- a method's frame: its class, whether it is a constructor, what it returns (as a field's type; 9: nothing), its code -/
abbrev ai_F : Type := Nat × Bool × Nat × List (Nat × Instr × Nat)
def ai_lkp {α : Type} : List (Nat × α) → Nat → Option α
  | [], _ => none
  | q :: l, k => if q.1 = k then some q.2 else ai_lkp l k
def ai_loc : List (Option ai_V) → Nat → Option ai_V
  | [], _ => none
  | v :: _, 0 => v
  | _ :: l, k + 1 => ai_loc l k
def ai_put1 : List (Option ai_V) → Nat → Option ai_V → List (Option ai_V)
  | [], _, _ => []
  | _ :: l, 0, v => v :: l
  | u :: l, k + 1, v => u :: ai_put1 l k v
def ai_isL : Option ai_V → Bool
  | some (.inr (.inl _)) => true
  | _ => false
/-- a long that ended where an int begins is gone -/
def ai_clr (l : List (Option ai_V)) (i : Nat) : List (Option ai_V) := match i with
  | 0 => l
  | j + 1 => match ai_isL (ai_loc l j) with
    | true => ai_put1 l j none
    | false => l
def ai_put (l : List (Option ai_V)) (i : Nat) (v : ai_V) : List (Option ai_V) := ai_put1 (ai_clr l i) i (some v)
def ai_putL (l : List (Option ai_V)) (i : Nat) (v : ai_V) : List (Option ai_V) := ai_put1 (ai_put1 (ai_clr l i) i (some v)) (i + 1) none
def ai_cat : ai_V → Nat
  | .inr (.inl _) => 2
  | _ => 1
def ai_wgt : List ai_V → Nat
  | [] => 0
  | v :: l => ai_cat v + ai_wgt l
def ai_in (i : Int32) (n : Nat) : Prop := ¬ (i < 0 ∨ n ≤ i.toNatClampNeg)
def ai_cnd (c : ClassFile.Cond) (x y : Int32) : Prop := match c with
  | .eq => x = y
  | .ne => ¬ x = y
  | .lt => x < y
  | .ge => y ≤ x
  | .gt => y < x
  | .le => x ≤ y
def ai_cmp (x y : Int64) : Int32 := if y < x then 1 else if x = y then 0 else -1
def ai_tgt (pc : Nat) (off : Int) : Nat := ((pc : Int) + off).toNat
def ai_1I (f : Int32 → Int32) (st : List ai_V) (k : List ai_V → Prop) : Prop := match st with
  | .inl x :: r => k (.inl (f x) :: r)
  | _ => False
def ai_2I (f : Int32 → Int32 → Int32) (st : List ai_V) (k : List ai_V → Prop) : Prop := match st with
  | .inl y :: .inl x :: r => k (.inl (f x y) :: r)
  | _ => False
def ai_2D (f : Int32 → Int32 → Int32) (st : List ai_V) (k : List ai_V → Prop) : Prop := match st with
  | .inl y :: .inl x :: r => ¬ y = 0 ∧ k (.inl (f x y) :: r)
  | _ => False
def ai_2J (f : Int64 → Int64 → Int64) (st : List ai_V) (k : List ai_V → Prop) : Prop := match st with
  | .inr (.inl y) :: .inr (.inl x) :: r => k (.inr (.inl (f x y)) :: r)
  | _ => False
def ai_2E (f : Int64 → Int64 → Int64) (st : List ai_V) (k : List ai_V → Prop) : Prop := match st with
  | .inr (.inl y) :: .inr (.inl x) :: r => ¬ y = 0 ∧ k (.inr (.inl (f x y)) :: r)
  | _ => False
def ai_ldI (l : List (Option ai_V)) (i : Nat) (k : ai_V → Prop) : Prop := match ai_loc l i with
  | some (.inl x) => k (.inl x)
  | _ => False
def ai_ldJ (l : List (Option ai_V)) (i : Nat) (k : ai_V → Prop) : Prop := match ai_loc l i with
  | some (.inr (.inl x)) => k (.inr (.inl x))
  | _ => False
def ai_ldR (l : List (Option ai_V)) (i : Nat) (k : ai_V → Prop) : Prop := match ai_loc l i with
  | some (.inr (.inr a)) => k (.inr (.inr a))
  | _ => False
def ai_stI (l : List (Option ai_V)) (i : Nat) (st : List ai_V) (k : List (Option ai_V) → List ai_V → Prop) : Prop := match st with
  | .inl x :: r => k (ai_put l i (.inl x)) r
  | _ => False
def ai_stJ (l : List (Option ai_V)) (i : Nat) (st : List ai_V) (k : List (Option ai_V) → List ai_V → Prop) : Prop := match st with
  | .inr (.inl x) :: r => k (ai_putL l i (.inr (.inl x))) r
  | _ => False
def ai_stR (l : List (Option ai_V)) (i : Nat) (st : List ai_V) (k : List (Option ai_V) → List ai_V → Prop) : Prop := match st with
  | .inr (.inr a) :: r => k (ai_put l i (.inr (.inr a))) r
  | _ => False
def ai_sw (x : Int32) (pc : Nat) (k : Nat → Prop) : Int → List Int → Prop
  | _, [] => True
  | lo, o :: os => (x.toInt = lo → k (ai_tgt pc o)) ∧ ai_sw x pc k (lo + 1) os
def ai_takes : Nat → List ai_V → List ai_V
  | 0, _ => []
  | _ + 1, [] => []
  | n + 1, v :: l => v :: ai_takes n l
def ai_drops : Nat → List ai_V → List ai_V
  | 0, l => l
  | _ + 1, [] => []
  | n + 1, _ :: l => ai_drops n l
def ai_rvs : List ai_V → List ai_V → List ai_V
  | [], acc => acc
  | v :: l, acc => ai_rvs l (v :: acc)
def ai_long : Nat → List ai_V → Bool
  | 0, _ => true
  | _ + 1, [] => false
  | n + 1, _ :: l => ai_long n l
/-- the receiver is a cell of its class -/
def ai_recv (rc : Nat) (as : List ai_V) (K : Nat → Nat) : Prop := match rc with
  | 0 => True
  | c + 1 => match as with
    | .inr (.inr a) :: _ => K a = c
    | _ => False
/-- a field's int: a boolean is 0 or 1 -/
def ai_fit (ty : Nat) (x : Int32) : Prop := match ty with
  | 0 => True
  | 3 => narrow .boolean (.int x) = .int x
  | _ => False
def ai_fitB (ty : Nat) (x : Int32) : Prop := match ty with
  | 0 => True
  | 3 => narrow .boolean (.int x) = .int x
  | 4 => narrow .byte (.int x) = .int x
  | 5 => narrow .char (.int x) = .int x
  | _ => False
/-- the bounds of System.arraycopy, and of the cells -/
def ai_cpyOk (K LN : Nat → Nat) (a0 a : Nat) (sp dp n : Int32) : Prop := K a0 = 13 ∧ K a = 13 ∧ ¬ sp < 0 ∧ ¬ dp < 0 ∧ ¬ n < 0 ∧ sp.toNatClampNeg + n.toNatClampNeg ≤ LN a0 ∧ dp.toNatClampNeg + n.toNatClampNeg ≤ LN a
/-- a call of method y -/
def ai_cll (t : ai_T) (call : ai_C) (y pc : Nat) (l : List (Option ai_V)) (st : List ai_V) (B : Nat × Nat) (I : ai_I) (J : ai_J) (R : ai_R) (G : ai_G) (k : ai_K) : Prop :=
  match ai_long (ai_nar t y) st && (Nat.ble (ai_bud t y).1 B.1 && (Nat.ble (ai_bud t y).2 B.2 && Nat.ble (ai_wgt (ai_drops (ai_nar t y) st)) 8)) with
  | true => ai_recv (ai_rcv t y) (ai_rvs (ai_takes (ai_nar t y) st) []) G.1 ∧ ∃ v I1 J1 R1 G1, call y (ai_rvs (ai_takes (ai_nar t y) st) []) I J R G v I1 J1 R1 G1 ∧
      k (pc + 3) l (v.toList ++ ai_drops (ai_nar t y) st) (B.1 - (ai_bud t y).1, B.2 - (ai_bud t y).2) I1 J1 R1 G1
  | false => False
def ai_inv (t : ai_T) (F : ai_F) (call : ai_C) (ix pc : Nat) (l : List (Option ai_V)) (st : List ai_V) (B : Nat × Nat) (I : ai_I) (J : ai_J) (R : ai_R) (G : ai_G) (k : ai_K) : Prop :=
  match ai_mth t F.1 ix with
  | 999 => (match st with
    | .inr (.inr a) :: r => ¬ a = 0 ∧ ai_wgt r ≤ 8 ∧ k (pc + 3) l r B I J R G
    | _ => False)
  | 998 => (match st with
    | .inl n :: .inl dp :: .inr (.inr a) :: .inl sp :: .inr (.inr a0) :: r => ai_cpyOk G.1 G.2.1 a0 a sp dp n ∧ ai_wgt r ≤ 8 ∧ k (pc + 3) l r B (va_up I a (va_cpy (I a0) (I a) sp.toNatClampNeg dp.toNatClampNeg n.toNatClampNeg)) J R G
    | _ => False)
  | 995 => (match st with
    | .inl y :: .inl x :: r => ai_wgt r ≤ 8 ∧ k (pc + 3) l (.inl (if x < y then y else x) :: r) B I J R G
    | _ => False)
  | 994 => (match st with
    | .inl y :: .inl x :: r => ai_wgt r ≤ 8 ∧ k (pc + 3) l (.inl (if y < x then y else x) :: r) B I J R G
    | _ => False)
  | 993 => (match st with
    | .inl x :: r => ai_wgt r ≤ 8 ∧ k (pc + 3) l (.inl (if 0 ≤ x then x else 0 - x) :: r) B I J R G
    | _ => False)
  | y => ai_cll t call y pc l st B I J R G k
def ai_get (t : ai_T) (F : ai_F) (ix pc : Nat) (l : List (Option ai_V)) (st : List ai_V) (B : Nat × Nat) (I : ai_I) (J : ai_J) (R : ai_R) (G : ai_G) (k : ai_K) : Prop :=
  match ai_fld t F.1 ix, st with
  | (c, j, ty, _), .inr (.inr a) :: r => G.1 a = c ∧ (match ty with
    | 1 => k (pc + 3) l (.inr (.inl (J a j)) :: r) B I J R G
    | 2 => k (pc + 3) l (.inr (.inr (R a j)) :: r) B I J R G
    | _ => k (pc + 3) l (.inl (I a j) :: r) B I J R G)
  | _, _ => False
def ai_sto (t : ai_T) (F : ai_F) (ix pc : Nat) (l : List (Option ai_V)) (st : List ai_V) (B : Nat × Nat) (I : ai_I) (J : ai_J) (R : ai_R) (G : ai_G) (k : ai_K) : Prop :=
  match ai_fld t F.1 ix, st with
  | (c, j, ty, fin), v :: .inr (.inr a) :: r => (fin = true → F.2.1 = true ∧ F.1 = c) ∧ G.1 a = c ∧ (match ty, v with
    | 1, .inr (.inl x) => k (pc + 3) l r B I (va_up J a (va_up (J a) j x)) R G
    | 2, .inr (.inr b) => k (pc + 3) l r B I J (va_up R a (va_up (R a) j b)) G
    | 0, .inl x => k (pc + 3) l r B (va_up I a (va_up (I a) j x)) J R G
    | 3, .inl x => narrow .boolean (.int x) = .int x ∧ k (pc + 3) l r B (va_up I a (va_up (I a) j x)) J R G
    | _, _ => False)
  | _, _ => False
/-- an array of ints; in the law (class 21) also the script, cell 1999 -/
def ai_isI (o : Nat) (K : Nat → Nat) (a : Nat) : Prop := match o with
  | 21 => K a = 13 ∨ a = 1999
  | _ => K a = 13
def ai_isA (o : Nat) (K : Nat → Nat) (a : Nat) : Prop := match o with
  | 21 => (12 ≤ K a ∧ K a ≤ 15) ∨ a = 1999
  | _ => 12 ≤ K a ∧ K a ≤ 15
/-- one instruction: what it asks, and what goes on behind it -/
def ai_stp (t : ai_T) (F : ai_F) (call : ai_C) (post : ai_Q) (op : Instr) (len pc : Nat) (l : List (Option ai_V)) (st : List ai_V) (B : Nat × Nat) (I : ai_I) (J : ai_J) (R : ai_R) (G : ai_G) (k : ai_K) : Prop :=
  match op with
  | .iconst n => k (pc + len) l (.inl (Int32.ofInt n) :: st) B I J R G
  | .bipush n => k (pc + len) l (.inl (Int8.ofInt n).toInt32 :: st) B I J R G
  | .sipush n => k (pc + len) l (.inl (Int16.ofInt n).toInt32 :: st) B I J R G
  | .lconst n => k (pc + len) l (.inr (.inl (Int64.ofNat n.val)) :: st) B I J R G
  | .aconst_null => k (pc + len) l (.inr (.inr 0) :: st) B I J R G
  | .ldc ix => (match ai_cst t F.1 ix with
    | some v => k (pc + len) l (v :: st) B I J R G
    | none => False)
  | .ldc_w ix => (match ai_cst t F.1 ix with
    | some v => k (pc + len) l (v :: st) B I J R G
    | none => False)
  | .ldc2_w ix => (match ai_cst t F.1 ix with
    | some v => k (pc + len) l (v :: st) B I J R G
    | none => False)
  | .iload i => ai_ldI l i (fun v => k (pc + len) l (v :: st) B I J R G)
  | .iload_n i => ai_ldI l i.val (fun v => k (pc + len) l (v :: st) B I J R G)
  | .lload i => ai_ldJ l i (fun v => k (pc + len) l (v :: st) B I J R G)
  | .lload_n i => ai_ldJ l i.val (fun v => k (pc + len) l (v :: st) B I J R G)
  | .aload i => ai_ldR l i (fun v => k (pc + len) l (v :: st) B I J R G)
  | .aload_n i => ai_ldR l i.val (fun v => k (pc + len) l (v :: st) B I J R G)
  | .istore i => ai_stI l i st (fun l st => k (pc + len) l st B I J R G)
  | .istore_n i => ai_stI l i.val st (fun l st => k (pc + len) l st B I J R G)
  | .lstore i => ai_stJ l i st (fun l st => k (pc + len) l st B I J R G)
  | .lstore_n i => ai_stJ l i.val st (fun l st => k (pc + len) l st B I J R G)
  | .astore i => ai_stR l i st (fun l st => k (pc + len) l st B I J R G)
  | .astore_n i => ai_stR l i.val st (fun l st => k (pc + len) l st B I J R G)
  | .iinc i n => (match ai_loc l i with
    | some (.inl x) => k (pc + len) (ai_put l i (.inl (x + Int32.ofInt n))) st B I J R G
    | _ => False)
  | .iadd => ai_2I (fun x y => x + y) st (fun st => k (pc + 1) l st B I J R G)
  | .isub => ai_2I (fun x y => x - y) st (fun st => k (pc + 1) l st B I J R G)
  | .imul => ai_2I (fun x y => x * y) st (fun st => k (pc + 1) l st B I J R G)
  | .iand => ai_2I (fun x y => x &&& y) st (fun st => k (pc + 1) l st B I J R G)
  | .ior => ai_2I (fun x y => x ||| y) st (fun st => k (pc + 1) l st B I J R G)
  | .ixor => ai_2I (fun x y => x ^^^ y) st (fun st => k (pc + 1) l st B I J R G)
  | .ishl => ai_2I (fun x y => x <<< (y &&& 31)) st (fun st => k (pc + 1) l st B I J R G)
  | .ishr => ai_2I (fun x y => x >>> (y &&& 31)) st (fun st => k (pc + 1) l st B I J R G)
  | .iushr => ai_2I (fun x y => (x.toUInt32 >>> (y.toUInt32 &&& Int32.toUInt32 31)).toInt32) st (fun st => k (pc + 1) l st B I J R G)
  | .ineg => ai_1I (fun x => -x) st (fun st => k (pc + 1) l st B I J R G)
  | .i2b => ai_1I (fun x => x.toInt8.toInt32) st (fun st => k (pc + 1) l st B I J R G)
  | .idiv => ai_2D (fun x y => x / y) st (fun st => k (pc + 1) l st B I J R G)
  | .irem => ai_2D (fun x y => x - x / y * y) st (fun st => k (pc + 1) l st B I J R G)
  | .ladd => ai_2J (fun x y => x + y) st (fun st => k (pc + 1) l st B I J R G)
  | .lsub => ai_2J (fun x y => x - y) st (fun st => k (pc + 1) l st B I J R G)
  | .lmul => ai_2J (fun x y => x * y) st (fun st => k (pc + 1) l st B I J R G)
  | .ldiv => ai_2E (fun x y => x / y) st (fun st => k (pc + 1) l st B I J R G)
  | .lrem => ai_2E (fun x y => x - x / y * y) st (fun st => k (pc + 1) l st B I J R G)
  | .i2l => (match st with
    | .inl x :: r => k (pc + 1) l (.inr (.inl x.toInt64) :: r) B I J R G
    | _ => False)
  | .lcmp => (match st with
    | .inr (.inl y) :: .inr (.inl x) :: r => k (pc + 1) l (.inl (ai_cmp x y) :: r) B I J R G
    | _ => False)
  | .dup => (match st with
    | .inl x :: r => k (pc + 1) l (.inl x :: .inl x :: r) B I J R G
    | .inr (.inr a) :: r => k (pc + 1) l (.inr (.inr a) :: .inr (.inr a) :: r) B I J R G
    | _ => False)
  | .dup2 => (match st with
    | .inl y :: .inr (.inr a) :: r => k (pc + 1) l (.inl y :: .inr (.inr a) :: .inl y :: .inr (.inr a) :: r) B I J R G
    | _ => False)
  | .pop => (match st with
    | .inl _ :: r => k (pc + 1) l r B I J R G
    | .inr (.inr _) :: r => k (pc + 1) l r B I J R G
    | _ => False)
  | .goto off => k (ai_tgt pc off) l st B I J R G
  | .ifCond c off => (match st with
    | .inl x :: r => (ai_cnd c x 0 → k (ai_tgt pc off) l r B I J R G) ∧ (¬ ai_cnd c x 0 → k (pc + 3) l r B I J R G)
    | _ => False)
  | .if_icmp c off => (match st with
    | .inl y :: .inl x :: r => (ai_cnd c x y → k (ai_tgt pc off) l r B I J R G) ∧ (¬ ai_cnd c x y → k (pc + 3) l r B I J R G)
    | _ => False)
  | .ifnull off => (match st with
    | .inr (.inr a) :: r => (a = 0 → k (ai_tgt pc off) l r B I J R G) ∧ (¬ a = 0 → k (pc + 3) l r B I J R G)
    | _ => False)
  | .ifnonnull off => (match st with
    | .inr (.inr a) :: r => (¬ a = 0 → k (ai_tgt pc off) l r B I J R G) ∧ (a = 0 → k (pc + 3) l r B I J R G)
    | _ => False)
  | .tableswitch d lo hi os => (match st with
    | .inl x :: r => (x.toInt < lo ∨ hi < x.toInt → k (ai_tgt pc d) l r B I J R G) ∧ ai_sw x pc (fun q => k q l r B I J R G) lo os.toList
    | _ => False)
  | .iaload => (match st with
    | .inl i :: .inr (.inr a) :: r => ai_isI F.1 G.1 a ∧ ai_in i (G.2.1 a) ∧ k (pc + 1) l (.inl (I a i.toNatClampNeg) :: r) B I J R G
    | _ => False)
  | .baload => (match st with
    | .inl i :: .inr (.inr a) :: r => G.1 a = 12 ∧ ai_in i (G.2.1 a) ∧ k (pc + 1) l (.inl (I a i.toNatClampNeg) :: r) B I J R G
    | _ => False)
  | .laload => (match st with
    | .inl i :: .inr (.inr a) :: r => G.1 a = 14 ∧ ai_in i (G.2.1 a) ∧ k (pc + 1) l (.inr (.inl (J a i.toNatClampNeg)) :: r) B I J R G
    | _ => False)
  | .aaload => (match st with
    | .inl i :: .inr (.inr a) :: r => G.1 a = 15 ∧ ai_in i (G.2.1 a) ∧ k (pc + 1) l (.inr (.inr (R a i.toNatClampNeg)) :: r) B I J R G
    | _ => False)
  | .iastore => (match st with
    | .inl x :: .inl i :: .inr (.inr a) :: r => G.1 a = 13 ∧ ai_in i (G.2.1 a) ∧ k (pc + 1) l r B (va_up I a (va_up (I a) i.toNatClampNeg x)) J R G
    | _ => False)
  | .bastore => (match st with
    | .inl x :: .inl i :: .inr (.inr a) :: r => G.1 a = 12 ∧ ai_in i (G.2.1 a) ∧ k (pc + 1) l r B (va_up I a (va_up (I a) i.toNatClampNeg x.toInt8.toInt32)) J R G
    | _ => False)
  | .lastore => (match st with
    | .inr (.inl x) :: .inl i :: .inr (.inr a) :: r => G.1 a = 14 ∧ ai_in i (G.2.1 a) ∧ k (pc + 1) l r B I (va_up J a (va_up (J a) i.toNatClampNeg x)) R G
    | _ => False)
  | .aastore => (match st with
    | .inr (.inr b) :: .inl i :: .inr (.inr a) :: r => G.1 a = 15 ∧ ai_in i (G.2.1 a) ∧ G.1 b = 8 ∧ k (pc + 1) l r B I J (va_up R a (va_up (R a) i.toNatClampNeg b)) G
    | _ => False)
  | .arraylength => (match st with
    | .inr (.inr a) :: r => ai_isA F.1 G.1 a ∧ k (pc + 1) l (.inl (Int32.ofNat (G.2.1 a)) :: r) B I J R G
    | _ => False)
  | .getfield ix => ai_get t F ix pc l st B I J R G k
  | .putfield ix => ai_sto t F ix pc l st B I J R G k
  | .invokevirtual ix => ai_inv t F call ix pc l st B I J R G k
  | .invokespecial ix => ai_inv t F call ix pc l st B I J R G k
  | .invokestatic ix => ai_inv t F call ix pc l st B I J R G k
  | .newarray ty => (match st with
    | .inl n :: r => ¬ n < 0 ∧ 1 ≤ B.1 ∧ n.toNatClampNeg ≤ B.2 ∧ n.toNatClampNeg ≤ 10000000 ∧ G.2.2 < 900 ∧ (match ty with
      | .byte => k (pc + len) l (.inr (.inr (G.2.2 + 1)) :: r) (B.1 - 1, B.2 - n.toNatClampNeg) (va_up I (G.2.2 + 1) (fun _ => 0)) J R (va_up G.1 (G.2.2 + 1) 12, va_up G.2.1 (G.2.2 + 1) n.toNatClampNeg, G.2.2 + 1)
      | .int => k (pc + len) l (.inr (.inr (G.2.2 + 1)) :: r) (B.1 - 1, B.2 - n.toNatClampNeg) (va_up I (G.2.2 + 1) (fun _ => 0)) J R (va_up G.1 (G.2.2 + 1) 13, va_up G.2.1 (G.2.2 + 1) n.toNatClampNeg, G.2.2 + 1)
      | .long => k (pc + len) l (.inr (.inr (G.2.2 + 1)) :: r) (B.1 - 1, B.2 - n.toNatClampNeg) I (va_up J (G.2.2 + 1) (fun _ => 0)) R (va_up G.1 (G.2.2 + 1) 14, va_up G.2.1 (G.2.2 + 1) n.toNatClampNeg, G.2.2 + 1)
      | _ => False)
    | _ => False)
  | .anewarray ix => (match st with
    | .inl n :: r => ai_cls t F.1 ix = 8 ∧ ¬ n < 0 ∧ 1 ≤ B.1 ∧ n.toNatClampNeg ≤ B.2 ∧ n.toNatClampNeg ≤ 10000000 ∧ G.2.2 < 900 ∧ k (pc + len) l (.inr (.inr (G.2.2 + 1)) :: r) (B.1 - 1, B.2 - n.toNatClampNeg) I J (va_up R (G.2.2 + 1) (fun _ => 0)) (va_up G.1 (G.2.2 + 1) 15, va_up G.2.1 (G.2.2 + 1) n.toNatClampNeg, G.2.2 + 1)
    | _ => False)
  | .new ix => 1 ≤ B.1 ∧ ai_nfd t (ai_cls t F.1 ix) ≤ B.2 ∧ G.2.2 < 900 ∧ k (pc + len) l (.inr (.inr (G.2.2 + 1)) :: st) (B.1 - 1, B.2 - ai_nfd t (ai_cls t F.1 ix)) (va_up I (G.2.2 + 1) (fun _ => 0)) (va_up J (G.2.2 + 1) (fun _ => 0)) (va_up R (G.2.2 + 1) (fun _ => 0)) (va_up G.1 (G.2.2 + 1) (ai_cls t F.1 ix), G.2.1, G.2.2 + 1)
  | .ireturn => (match st with
    | [.inl x] => ai_fitB F.2.2.1 x ∧ post (some (.inl x)) I J R G
    | _ => False)
  | .lreturn => (match st with
    | [.inr (.inl x)] => F.2.2.1 = 1 ∧ post (some (.inr (.inl x))) I J R G
    | _ => False)
  | .areturn => (match st with
    | [.inr (.inr a)] => F.2.2.1 = 2 ∧ post (some (.inr (.inr a))) I J R G
    | _ => False)
  | .return_ => (match st with
    | [] => F.2.2.1 = 9 ∧ post none I J R G
    | _ => False)
  | _ => False
/-- cut points: what must hold there -/
abbrev ai_U : Type := List (Nat × (List (Option ai_V) → List ai_V → Nat × Nat → ai_I → ai_J → ai_R → ai_G → Prop))
def ai_W (t : ai_T) (F : ai_F) (call : ai_C) (post : ai_Q) (cut : ai_U) : Nat → ai_K
  | 0 => fun _ _ _ _ _ _ _ _ => False
  | n + 1 => fun pc l st B I J R G => match ai_lkp cut pc with
    | some Z => Z l st B I J R G
    | none => match ai_lkp F.2.2.2 pc with
      | some q => ai_stp t F call post q.1 q.2 pc l st B I J R G (ai_W t F call post cut n)
      | none => False
/-- from a cut point on: its own instruction first -/
def ai_W1 (t : ai_T) (F : ai_F) (call : ai_C) (post : ai_Q) (cut : ai_U) (n : Nat) : ai_K := fun pc l st B I J R G => match ai_lkp F.2.2.2 pc with
  | some q => ai_stp t F call post q.1 q.2 pc l st B I J R G (ai_W t F call post cut n)
  | none => False
/-- it goes on to an end -/
def ai_Go (t : ai_T) (F : ai_F) (call : ai_C) (post : ai_Q) : ai_K := fun pc l st B I J R G => ∃ n, ai_W t F call post [] n pc l st B I J R G
def ai_ent : Nat → List ai_V → List (Option ai_V)
  | 0, _ => []
  | n + 1, [] => none :: ai_ent n []
  | n + 1, .inr (.inl x) :: l => some (.inr (.inl x)) :: (match n with
    | 0 => []
    | m + 1 => none :: ai_ent m l)
  | n + 1, v :: l => some v :: ai_ent n l
/-- String.length (997) and charAt (996) of a string constant -/
def ai_prm (t : ai_T) (y : Nat) (as : List ai_V) (v : Option ai_V) : Prop := match y, as with
  | 997, [.inr (.inr a)] => ∃ tx, ai_txt t a = some tx ∧ v = some (.inl (Int32.ofNat tx.length))
  | 996, [.inr (.inr a), .inl i] => ∃ tx, ai_txt t a = some tx ∧ ai_in i tx.length ∧ v = some (.inl (Int32.ofNat (tx.getD i.toNatClampNeg 0)))
  | _, _ => False
def ai_Cl (t : ai_T) (ms : Nat → Option (ai_F × Nat)) : Nat → ai_C
  | 0 => fun _ _ _ _ _ _ _ _ _ _ _ => False
  | d + 1 => fun y as I J R G v I1 J1 R1 G1 => match ms y with
    | some q => ai_wgt as ≤ q.2 ∧ ai_Go t q.1 (ai_Cl t ms d) (fun v2 I2 J2 R2 G2 => v2 = v ∧ I2 = I1 ∧ J2 = J1 ∧ R2 = R1 ∧ G2 = G1) 0 (ai_ent q.2 as) [] (ai_bud t y) I J R G
    | none => 4 ≤ d ∧ ai_prm t y as v ∧ I1 = I ∧ J1 = J ∧ R1 = R ∧ G1 = G
end
section
/-! The tables of the abstract machine, printed by wip/p46/gen5.py, held against the words of the tables by their places. -/
/-- the name of each class, by its number -/
def si_RS (k : Nat) : String := match k with
  | 0 => "PricedBases$Clauses"
  | 1 => "PricedBases$Couple"
  | 2 => "PricedBases$Law"
  | 3 => "PricedBases$Maker"
  | 4 => "PricedBases$Rows"
  | 5 => "PricedBases$Space"
  | 6 => "PricedBases$State"
  | 7 => "PricedBases$Sums"
  | 8 => "PricedBases$Valuation"
  | 9 => "PricedBases$Ways"
  | 10 => "PricedBases"
  | 20 => "PricedBases$Shape"
  | 21 => "PricedBasesLaw"
  | 22 => "java/lang/Integer"
  | 23 => "PricedBasesLaw"
  | 24 => "java/util/Arrays"
  | _ => ""
/-- the fields of each class, in the order of the slots -/
def si_fl : List (List (String × String × String × Bool)) := [[("PricedBases$Clauses", "held", "I", false), ("PricedBases$Clauses", "faultTold", "I", false), ("PricedBases$Clauses", "text", "[I", false), ("PricedBases$Clauses", "length", "I", false), ("PricedBases$Clauses", "place", "I", false), ("PricedBases$Clauses", "kinds", "[I", true), ("PricedBases$Clauses", "starts", "[I", true), ("PricedBases$Clauses", "numbers", "[I", true), ("PricedBases$Clauses", "filled", "I", false), ("PricedBases$Clauses", "out", "[B", true), ("PricedBases$Clauses", "written", "I", false)], [("PricedBases$Couple", "size", "I", false), ("PricedBases$Couple", "common", "I", false), ("PricedBases$Couple", "together", "I", false), ("PricedBases$Couple", "potentials", "[I", true)], [("PricedBases$Law", "a", "I", false), ("PricedBases$Law", "b", "I", false), ("PricedBases$Law", "i", "I", false), ("PricedBases$Law", "zeros", "[I", true)], [("PricedBases$Maker", "made", "LPricedBases$Valuation;", true), ("PricedBases$Maker", "best", "[I", true)], [("PricedBases$Rows", "first", "[I", true), ("PricedBases$Rows", "row", "[I", true), ("PricedBases$Rows", "images", "[I", true), ("PricedBases$Rows", "marks", "[J", true), ("PricedBases$Rows", "imageMarks", "[J", true)], [("PricedBases$Space", "numbers", "[I", true), ("PricedBases$Space", "having", "I", false)], [("PricedBases$State", "shelves", "[LPricedBases$Valuation;", true), ("PricedBases$State", "prices", "[I", true), ("PricedBases$State", "notes", "[I", true), ("PricedBases$State", "noted", "I", false), ("PricedBases$State", "x", "I", false)], [("PricedBases$Sums", "table", "[I", true), ("PricedBases$Sums", "greatest", "I", false), ("PricedBases$Sums", "last", "I", false), ("PricedBases$Sums", "steps", "I", false)], [("PricedBases$Valuation", "n", "I", false), ("PricedBases$Valuation", "r", "I", false), ("PricedBases$Valuation", "size", "I", false), ("PricedBases$Valuation", "values", "[I", true), ("PricedBases$Valuation", "ranks", "[I", true), ("PricedBases$Valuation", "bases", "[I", true)], [("PricedBases$Ways", "steps", "[I", true), ("PricedBases$Ways", "widths", "[I", true), ("PricedBases$Ways", "row", "[I", true)], [("PricedBases", "now", "LPricedBases$State;", true), ("PricedBases", "kept", "LPricedBases$State;", true), ("PricedBases", "anyKept", "Z", false), ("PricedBases", "tape", "[I", true), ("PricedBases", "taped", "I", false), ("PricedBases", "clauses", "LPricedBases$Clauses;", true), ("PricedBases", "maker", "LPricedBases$Maker;", true), ("PricedBases", "law", "LPricedBases$Law;", true), ("PricedBases", "sums", "LPricedBases$Sums;", true), ("PricedBases", "around", "LPricedBases$Space;", true), ("PricedBases", "couple", "LPricedBases$Couple;", true), ("PricedBases", "ways", "LPricedBases$Ways;", true), ("PricedBases", "rows", "LPricedBases$Rows;", true), ("PricedBases", "table", "[I", true), ("PricedBases", "drawnPrices", "[I", true)]]
def si_T (k : Nat) : u_T := fun j => (si_fl.getD k []).getD j ("", "", "", false)
def si_N (k : Nat) : Nat := (si_fl.getD k []).length
def si_tl : List (List Nat) := [[0, 0, 2, 0, 0, 2, 2, 2, 0, 2, 0], [0, 0, 0, 2], [0, 0, 0, 2], [2, 2], [2, 2, 2, 2, 2], [2, 0], [2, 2, 2, 0, 0], [2, 0, 0, 0], [0, 0, 0, 2, 2, 2], [2, 2, 2], [2, 2, 3, 2, 0, 2, 2, 2, 2, 2, 2, 2, 2, 2, 2]]
def si_ty (k j : Nat) : Nat := (si_tl.getD k []).getD j 9
def si_cl : List vw_C := [(si_RS 0, si_T 0, 11), (si_RS 1, si_T 1, 4), (si_RS 2, si_T 2, 4), (si_RS 3, si_T 3, 2), (si_RS 4, si_T 4, 5), (si_RS 5, si_T 5, 2), (si_RS 6, si_T 6, 5), (si_RS 7, si_T 7, 4), (si_RS 8, si_T 8, 6), (si_RS 9, si_T 9, 3), (si_RS 10, si_T 10, 15)]
def si_ftl : List (List FieldType) := [[.int, .int, .array (.int), .int, .int, .array (.int), .array (.int), .array (.int), .int, .array (.byte), .int], [.int, .int, .int, .array (.int)], [.int, .int, .int, .array (.int)], [.object "PricedBases$Valuation", .array (.int)], [.array (.int), .array (.int), .array (.int), .array (.long), .array (.long)], [.array (.int), .int], [.array (.object "PricedBases$Valuation"), .array (.int), .array (.int), .int, .int], [.array (.int), .int, .int, .int], [.int, .int, .int, .array (.int), .array (.int), .array (.int)], [.array (.int), .array (.int), .array (.int)], [.object "PricedBases$State", .object "PricedBases$State", .boolean, .array (.int), .int, .object "PricedBases$Clauses", .object "PricedBases$Maker", .object "PricedBases$Law", .object "PricedBases$Sums", .object "PricedBases$Space", .object "PricedBases$Couple", .object "PricedBases$Ways", .object "PricedBases$Rows", .array (.int), .array (.int)]]
def si_ft (k j : Nat) : FieldType := (si_ftl.getD k []).getD j .int
def si_code (f : FieldType) : Nat := match f with
  | .int => 0
  | .long => 1
  | .object _ => 2
  | .array _ => 2
  | .boolean => 3
  | _ => 9
/-- fields: index of the link; class, place, type, final -/
def si_fd_0 : List (Nat × Nat × Nat × Nat × Bool) := [(9, 0, 2, 2, false), (15, 0, 5, 2, true), (18, 0, 6, 2, true), (21, 0, 7, 2, true), (24, 0, 9, 2, true), (34, 0, 3, 0, false), (38, 0, 4, 0, false), (41, 0, 0, 0, false), (44, 0, 8, 0, false), (47, 0, 1, 0, false)]
def si_fd_1 : List (Nat × Nat × Nat × Nat × Bool) := [(9, 1, 3, 2, true)]
def si_fd_2 : List (Nat × Nat × Nat × Nat × Bool) := [(9, 2, 3, 2, true), (15, 8, 2, 0, false), (21, 8, 5, 2, true), (37, 2, 0, 0, false), (40, 2, 1, 0, false), (43, 2, 2, 0, false)]
def si_fd_3 : List (Nat × Nat × Nat × Nat × Bool) := [(12, 3, 0, 2, true), (18, 3, 1, 2, true), (75, 6, 1, 2, true), (102, 8, 3, 2, true), (120, 8, 1, 0, false), (131, 8, 0, 0, false), (148, 8, 2, 0, false), (151, 8, 5, 2, true)]
def si_fd_4 : List (Nat × Nat × Nat × Nat × Bool) := [(9, 4, 0, 2, true), (15, 4, 1, 2, true), (18, 4, 2, 2, true), (21, 4, 3, 2, true), (25, 4, 4, 2, true)]
def si_fd_5 : List (Nat × Nat × Nat × Nat × Bool) := [(9, 5, 0, 2, true), (27, 5, 1, 0, false), (31, 8, 0, 0, false), (42, 8, 3, 2, true), (59, 8, 1, 0, false)]
def si_fd_6 : List (Nat × Nat × Nat × Nat × Bool) := [(11, 6, 0, 2, true), (17, 6, 1, 2, true), (21, 6, 2, 2, true), (24, 6, 3, 0, false), (28, 6, 4, 0, false), (54, 8, 2, 0, false)]
def si_fd_7 : List (Nat × Nat × Nat × Nat × Bool) := [(9, 7, 0, 2, true), (15, 8, 3, 2, true), (31, 7, 1, 0, false), (35, 8, 2, 0, false), (38, 8, 5, 2, true), (51, 7, 2, 0, false), (54, 7, 3, 0, false), (61, 8, 0, 0, false)]
def si_fd_8 : List (Nat × Nat × Nat × Nat × Bool) := [(9, 8, 3, 2, true), (15, 8, 4, 2, true), (18, 8, 5, 2, true), (21, 8, 0, 0, false), (25, 8, 1, 0, false), (28, 8, 2, 0, false)]
def si_fd_9 : List (Nat × Nat × Nat × Nat × Bool) := [(9, 9, 0, 2, true), (15, 9, 1, 2, true), (18, 9, 2, 2, true)]
def si_fd_10 : List (Nat × Nat × Nat × Nat × Bool) := [(10, 10, 0, 2, true), (16, 10, 1, 2, true), (19, 10, 2, 3, false), (23, 10, 3, 2, true), (27, 10, 4, 0, false), (34, 10, 5, 2, true), (41, 10, 6, 2, true), (48, 10, 7, 2, true), (55, 10, 8, 2, true), (62, 10, 9, 2, true), (69, 10, 10, 2, true), (76, 10, 11, 2, true), (83, 10, 12, 2, true), (87, 10, 13, 2, true), (90, 10, 14, 2, true), (101, 0, 1, 0, false), (104, 0, 0, 0, false), (131, 8, 2, 0, false), (136, 3, 0, 2, true), (140, 8, 0, 0, false), (152, 6, 1, 2, true), (155, 8, 1, 0, false), (174, 8, 3, 2, true), (202, 8, 5, 2, true), (205, 2, 0, 0, false), (208, 2, 1, 0, false), (211, 2, 2, 0, false), (246, 7, 2, 0, false), (249, 7, 0, 2, true), (250, 7, 3, 0, false), (262, 7, 1, 0, false), (413, 6, 4, 0, false)]
def si_fd_20 : List (Nat × Nat × Nat × Nat × Bool) := [(15, 8, 2, 0, false), (19, 8, 5, 2, true), (40, 8, 0, 0, false), (43, 8, 4, 2, true)]
def si_fd (own : Nat) : List (Nat × Nat × Nat × Nat × Bool) := match own with
  | 0 => si_fd_0
  | 1 => si_fd_1
  | 2 => si_fd_2
  | 3 => si_fd_3
  | 4 => si_fd_4
  | 5 => si_fd_5
  | 6 => si_fd_6
  | 7 => si_fd_7
  | 8 => si_fd_8
  | 9 => si_fd_9
  | 10 => si_fd_10
  | 20 => si_fd_20
  | _ => []
def si_fdp (own : Nat) : List Nat := match own with
  | 0 => [190, 193, 194, 195, 197, 191, 192, 186, 196, 188]
  | 1 => [302]
  | 2 => [250, 92, 107, 244, 246, 248]
  | 3 => [230, 232, 163, 101, 89, 86, 97, 110]
  | 4 => [334, 335, 336, 337, 338]
  | 5 => [289, 290, 82, 100, 88]
  | 6 => [161, 162, 165, 166, 167, 95]
  | 7 => [266, 99, 268, 94, 108, 270, 272, 85]
  | 8 => [98, 103, 105, 81, 87, 93]
  | 9 => [318, 319, 320]
  | 10 => [351, 352, 353, 354, 355, 356, 357, 358, 359, 360, 361, 362, 363, 364, 365, 189, 187, 96, 231, 83, 164, 90, 102, 109, 245, 247, 249, 271, 267, 273, 269, 168]
  | 20 => [91, 106, 84, 104]
  | _ => []
/-- methods: index of the link; number, mode (0 virtual, 1 static, 2 constructor; 3 more: of a nest mate; 9: Object, System, String) -/
def si_mh_0 : List (Nat × Nat × Nat) := [(3, 999, 9), (28, 994, 9), (50, 7, 0), (54, 6, 0), (58, 5, 0), (62, 8, 0), (65, 11, 0), (68, 4, 0), (71, 12, 0), (74, 13, 0), (77, 14, 0), (80, 10, 1), (84, 9, 0), (88, 997, 9), (92, 996, 9), (126, 16, 0), (129, 115, 1), (135, 15, 0), (141, 17, 0), (144, 18, 1)]
def si_mh_1 : List (Nat × Nat × Nat) := [(3, 999, 9)]
def si_mh_2 : List (Nat × Nat × Nat) := [(3, 999, 9), (24, 22, 0), (29, 113, 4), (33, 23, 1), (46, 116, 1), (52, 73, 0)]
def si_mh_3 : List (Nat × Nat × Nat) := [(3, 999, 9), (11, 78, 5), (22, 2, 0), (28, 28, 0), (32, 4, 0), (36, 65, 0), (42, 29, 0), (46, 31, 0), (50, 30, 0), (54, 32, 0), (57, 33, 0), (61, 35, 0), (64, 37, 0), (67, 38, 0), (71, 39, 0), (78, 40, 0), (82, 41, 0), (86, 42, 0), (89, 45, 0), (92, 43, 0), (95, 46, 0), (98, 79, 0), (108, 81, 0), (111, 85, 0), (115, 115, 1), (124, 80, 0), (127, 34, 0), (134, 113, 4), (137, 995, 9), (142, 36, 0), (145, 3, 0), (154, 86, 0), (157, 87, 0), (161, 70, 1), (167, 44, 0), (171, 71, 1), (175, 114, 4)]
def si_mh_4 : List (Nat × Nat × Nat) := [(3, 999, 9)]
def si_mh_5 : List (Nat × Nat × Nat) := [(3, 999, 9), (15, 998, 9), (21, 86, 0), (34, 113, 4), (38, 89, 0), (46, 112, 4), (50, 85, 0), (53, 115, 1), (62, 59, 0), (66, 60, 0), (70, 90, 0), (73, 58, 0), (77, 62, 0)]
def si_mh_6 : List (Nat × Nat × Nat) := [(3, 999, 9), (31, 78, 5), (32, 79, 0), (36, 80, 0), (39, 81, 0), (42, 998, 9), (48, 994, 9)]
def si_mh_7 : List (Nat × Nat × Nat) := [(3, 999, 9), (20, 70, 1), (25, 116, 1), (41, 71, 1), (45, 995, 9), (57, 75, 0), (64, 113, 4), (68, 73, 0), (72, 112, 4)]
def si_mh_8 : List (Nat × Nat × Nat) := [(3, 999, 9), (32, 116, 1), (38, 995, 9), (44, 82, 0), (47, 83, 0), (51, 113, 4), (55, 115, 1), (60, 998, 9), (66, 85, 0), (70, 88, 0), (74, 92, 0)]
def si_mh_9 : List (Nat × Nat × Nat) := [(3, 999, 9)]
def si_mh_10 : List (Nat × Nat × Nat) := [(1, 999, 9), (9, 64, 2), (33, 0, 5), (40, 26, 5), (47, 20, 5), (54, 69, 5), (61, 56, 5), (68, 19, 5), (75, 93, 5), (82, 47, 5), (93, 96, 0), (97, 1, 0), (107, 98, 0), (111, 4, 0), (115, 2, 0), (119, 66, 0), (123, 65, 0), (127, 27, 0), (143, 67, 0), (147, 84, 0), (158, 91, 0), (162, 92, 0), (165, 48, 1), (171, 49, 1), (177, 21, 0), (181, 112, 1), (185, 24, 0), (189, 50, 1), (192, 53, 1), (195, 55, 1), (199, 89, 0), (214, 87, 0), (217, 113, 1), (221, 23, 1), (238, 72, 0), (242, 74, 0), (253, 73, 0), (256, 77, 0), (259, 76, 0), (265, 25, 0), (269, 57, 0), (272, 62, 0), (276, 61, 0), (279, 60, 0), (282, 51, 1), (285, 63, 0), (426, 68, 0)]
def si_mh_20 : List (Nat × Nat × Nat) := [(9, 86, 0), (23, 85, 0), (26, 90, 0), (30, 112, 4), (34, 115, 1), (46, 52, 1), (52, 113, 4), (56, 54, 1)]
def si_mh_21 : List (Nat × Nat × Nat) := [(7, 95, 0), (14, 993, 9), (20, 118, 1), (26, 994, 9), (30, 120, 1), (34, 119, 1), (38, 115, 1), (43, 117, 1), (47, 97, 0), (50, 100, 0), (53, 101, 0), (56, 121, 1), (60, 99, 0), (64, 126, 1), (68, 995, 9), (71, 127, 1), (75, 103, 0), (79, 104, 0), (83, 124, 1), (87, 107, 0), (90, 105, 0), (93, 106, 0), (96, 130, 1), (100, 109, 0), (103, 108, 0), (106, 110, 0), (109, 102, 0), (112, 94, 2), (113, 123, 1), (117, 111, 0), (120, 132, 1), (124, 128, 1), (128, 129, 1), (130, 131, 1), (134, 122, 1), (138, 125, 1)]
def si_mh_23 : List (Nat × Nat × Nat) := [(7, 95, 0), (14, 993, 9), (20, 118, 1), (26, 994, 9), (30, 120, 1), (34, 119, 1), (38, 115, 1), (43, 117, 1), (47, 97, 0), (50, 100, 0), (53, 101, 0), (56, 121, 1), (60, 99, 0), (64, 126, 1), (68, 995, 9), (71, 127, 1), (75, 103, 0), (79, 104, 0), (83, 124, 1), (87, 107, 0), (90, 105, 0), (93, 106, 0), (96, 130, 1), (100, 109, 0), (103, 108, 0), (106, 110, 0), (109, 102, 0), (112, 94, 2), (113, 123, 1), (117, 111, 0), (120, 132, 1), (124, 128, 1), (128, 129, 1), (130, 131, 1), (134, 122, 1), (138, 125, 1)]
def si_mh (own : Nat) : List (Nat × Nat × Nat) := match own with
  | 0 => si_mh_0
  | 1 => si_mh_1
  | 2 => si_mh_2
  | 3 => si_mh_3
  | 4 => si_mh_4
  | 5 => si_mh_5
  | 6 => si_mh_6
  | 7 => si_mh_7
  | 8 => si_mh_8
  | 9 => si_mh_9
  | 10 => si_mh_10
  | 20 => si_mh_20
  | 21 => si_mh_21
  | 23 => si_mh_23
  | _ => []
def si_mhp (own : Nat) : List Nat := match own with
  | 0 => [185, 668, 669, 677, 751, 673, 755, 770, 774, 778, 782, 681, 699, 703, 713, 759, 786, 787, 763, 767]
  | 1 => [301]
  | 2 => [243, 441, 446, 447, 457, 563]
  | 3 => [227, 229, 806, 807, 811, 851, 852, 899, 812, 817, 824, 835, 843, 856, 861, 866, 871, 875, 883, 888, 892, 816, 905, 821, 822, 823, 828, 833, 834, 839, 847, 860, 865, 870, 879, 887, 896]
  | 4 => [333]
  | 5 => [288, 572, 575, 591, 592, 593, 584, 585, 586, 580, 615, 616, 620]
  | 6 => [73, 77, 125, 133, 140, 910, 911]
  | 7 => [265, 524, 520, 521, 527, 532, 536, 553, 558]
  | 8 => [80, 130, 137, 144, 157, 148, 151, 916, 430, 489, 418]
  | 9 => [317]
  | 10 => [65, 70, 182, 224, 240, 262, 285, 298, 314, 330, 656, 664, 793, 797, 798, 402, 410, 802, 906, 912, 414, 422, 423, 434, 437, 450, 453, 458, 467, 473, 485, 505, 509, 510, 515, 528, 537, 549, 554, 559, 568, 576, 598, 602, 607, 611, 625]
  | 20 => [426, 461, 462, 466, 610, 470, 479, 476]
  | 21 => [652, 645, 629, 636, 639, 642, 648, 649, 660, 406, 481, 930, 397, 926, 943, 933, 497, 501, 940, 545, 511, 541, 947, 594, 564, 603, 493, 62, 917, 621, 950, 923, 936, 944, 633, 920]
  | 23 => [652, 645, 629, 636, 639, 642, 648, 649, 660, 406, 481, 930, 397, 926, 943, 933, 497, 501, 940, 545, 511, 541, 947, 594, 564, 603, 493, 62, 917, 621, 950, 923, 936, 944, 633, 920]
  | _ => []
/-- constants: index, value (a string constant: cell 2000 and on) -/
def si_ct_0 : List (Nat × ai_V) := [(96, .inr (.inr 2000)), (98, .inr (.inr 2001)), (100, .inr (.inr 2002)), (102, .inr (.inr 2003)), (104, .inr (.inr 2004)), (106, .inr (.inr 2005)), (108, .inr (.inr 2006)), (110, .inr (.inr 2007)), (112, .inr (.inr 2008)), (114, .inr (.inr 2009)), (116, .inr (.inr 2010)), (118, .inr (.inr 2011)), (120, .inr (.inr 2012)), (122, .inr (.inr 2013)), (124, .inr (.inr 2014)), (139, .inl (-1000000)), (140, .inl (1000000))]
def si_ct_2 : List (Nat × ai_V) := [(28, .inl (-2147483648))]
def si_ct_3 : List (Nat × ai_V) := [(105, .inl (-2147483648)), (106, .inl (-1000000)), (107, .inl (1000000))]
def si_ct_5 : List (Nat × ai_V) := [(45, .inl (-2147483648))]
def si_ct_7 : List (Nat × ai_V) := [(24, .inl (-2147483648))]
def si_ct_8 : List (Nat × ai_V) := [(31, .inl (-2147483648))]
def si_ct_10 : List (Nat × ai_V) := [(151, .inl (-2147483648)), (198, .inl (2147483647))]
def si_ct_21 : List (Nat × ai_V) := [(13, .inl (1103515245)), (63, .inl (-2147483648)), (82, .inl (-99999999))]
def si_ct_22 : List (Nat × ai_V) := [(265, .inl (1431655765)), (266, .inl (858993459)), (267, .inl (252645135))]
def si_ct_23 : List (Nat × ai_V) := [(13, .inl (1103515245)), (63, .inl (-2147483648)), (82, .inl (-99999999))]
def si_ct (own : Nat) : List (Nat × ai_V) := match own with
  | 0 => si_ct_0
  | 2 => si_ct_2
  | 3 => si_ct_3
  | 5 => si_ct_5
  | 7 => si_ct_7
  | 8 => si_ct_8
  | 10 => si_ct_10
  | 21 => si_ct_21
  | 22 => si_ct_22
  | 23 => si_ct_23
  | _ => []
def si_ctp (own : Nat) : List Nat := match own with
  | 0 => [684, 685, 686, 687, 688, 689, 690, 691, 692, 693, 694, 695, 696, 697, 698, 791, 792]
  | 2 => [445]
  | 3 => [832, 903, 904]
  | 5 => [590]
  | 7 => [519]
  | 8 => [129]
  | 10 => [401, 480]
  | 21 => [632, 929, 939]
  | 22 => [154, 155, 156]
  | 23 => [632, 929, 939]
  | _ => []
/-- the string constants: index of Clauses' pool, letters -/
def si_tx : List (Nat × List Nat) := [(96, [112, 114, 105, 99, 101]), (98, [117, 110, 105, 102, 111, 114, 109]), (100, [109, 97, 116, 99, 104]), (102, [103, 114, 97, 112, 104]), (104, [116, 111, 108, 100]), (106, [100, 117, 97, 108]), (108, [119, 105, 116, 104, 111, 117, 116]), (110, [98, 121]), (112, [115, 104, 105, 102, 116]), (114, [112, 108, 117, 115]), (116, [99, 117, 116]), (118, [105, 110, 105, 116, 105, 97, 108]), (120, [114, 97, 105, 115, 101]), (122, [106, 111, 105, 110]), (124, [])]
def si_txs : List (Nat × String) := [(96, "price"), (98, "uniform"), (100, "match"), (102, "graph"), (104, "told"), (106, "dual"), (108, "without"), (110, "by"), (112, "shift"), (114, "plus"), (116, "cut"), (118, "initial"), (120, "raise"), (122, "join"), (124, "")]
/-- classes that are made: index, kind -/
def si_kt_3 : List (Nat × Nat) := [(9, 8)]
def si_kt_6 : List (Nat × Nat) := [(9, 8)]
def si_kt_10 : List (Nat × Nat) := [(7, 6), (31, 0), (38, 3), (45, 2), (52, 7), (59, 5), (66, 1), (73, 9), (80, 4)]
def si_kt_21 : List (Nat × Nat) := [(8, 10)]
def si_kt_23 : List (Nat × Nat) := [(8, 10)]
def si_kt (own : Nat) : List (Nat × Nat) := match own with
  | 3 => si_kt_3
  | 6 => si_kt_6
  | 10 => si_kt_10
  | 21 => si_kt_21
  | 23 => si_kt_23
  | _ => []
def si_ktp (own : Nat) : List Nat := match own with
  | 3 => [228]
  | 6 => [74]
  | 10 => [68, 180, 222, 238, 260, 283, 296, 312, 328]
  | 21 => [60]
  | 23 => [60]
  | _ => []
/-- of each method: class, is it a constructor, what it returns, its code; words of locals; arguments with the receiver, receiver's class and one (0: none) -/
def si_mt_0 : List (ai_F × Nat × Nat × Nat) := [((0, true, 9, cd_0), 1, 1, 1), ((0, false, 9, cd_1), 4, 3, 1), ((0, false, 0, cd_2), 2, 2, 1), ((0, false, 0, cd_3), 2, 2, 1), ((0, false, 0, cd_4), 3, 3, 1), ((0, false, 9, cd_5), 3, 3, 1), ((0, false, 0, cd_6), 1, 1, 1), ((0, false, 9, cd_7), 2, 2, 1), ((0, false, 0, cd_8), 3, 1, 1), ((0, false, 3, cd_9), 4, 3, 1), ((0, false, 2, cd_10), 1, 1, 0), ((0, false, 9, cd_11), 3, 2, 1), ((0, false, 9, cd_12), 3, 2, 1), ((0, false, 9, cd_13), 6, 3, 1), ((0, false, 9, cd_14), 6, 3, 1), ((0, false, 3, cd_15), 5, 3, 1), ((0, false, 0, cd_16), 7, 3, 1), ((0, false, 0, cd_17), 4, 1, 1), ((0, false, 3, cd_18), 1, 1, 0), ((1, true, 9, cd_19), 1, 1, 2)]
def si_mt_1 : List (ai_F × Nat × Nat × Nat) := [((2, true, 9, cd_20), 1, 1, 3), ((2, false, 0, cd_21), 7, 4, 3), ((2, false, 0, cd_22), 9, 6, 3), ((2, false, 0, cd_23), 10, 4, 0), ((2, false, 2, cd_24), 3, 2, 3), ((2, false, 2, cd_25), 4, 3, 3), ((3, true, 9, cd_26), 1, 1, 4), ((3, false, 3, cd_27), 7, 4, 4), ((3, false, 3, cd_28), 5, 4, 4), ((3, false, 3, cd_29), 5, 5, 4), ((3, false, 3, cd_30), 3, 3, 4), ((3, false, 3, cd_31), 4, 1, 4), ((3, false, 9, cd_32), 2, 1, 4), ((3, false, 9, cd_33), 5, 3, 4), ((3, false, 0, cd_34), 7, 5, 4), ((3, false, 9, cd_35), 4, 3, 4), ((3, false, 3, cd_36), 9, 4, 4), ((3, false, 9, cd_37), 4, 3, 4), ((3, false, 3, cd_38), 4, 2, 4), ((3, false, 3, cd_39), 7, 4, 4)]
def si_mt_2 : List (ai_F × Nat × Nat × Nat) := [((3, false, 3, cd_40), 5, 3, 4), ((3, false, 3, cd_41), 7, 3, 4), ((3, false, 3, cd_42), 2, 2, 4), ((3, false, 3, cd_43), 2, 2, 4), ((3, false, 9, cd_44), 6, 3, 4), ((3, false, 3, cd_45), 5, 3, 4), ((3, false, 3, cd_46), 7, 3, 4), ((4, true, 9, cd_47), 1, 1, 5), ((20, false, 0, cd_48), 3, 1, 0), ((20, false, 0, cd_49), 3, 1, 0), ((20, false, 0, cd_50), 3, 1, 0), ((20, false, 0, cd_51), 4, 2, 0), ((20, false, 0, cd_52), 4, 2, 0), ((20, false, 0, cd_53), 3, 1, 0), ((20, false, 3, cd_54), 3, 2, 0), ((20, false, 0, cd_55), 3, 1, 0), ((5, true, 9, cd_56), 1, 1, 6), ((5, false, 9, cd_57), 3, 3, 6), ((5, false, 9, cd_58), 4, 3, 6), ((5, false, 3, cd_59), 7, 3, 6)]
def si_mt_3 : List (ai_F × Nat × Nat × Nat) := [((5, false, 0, cd_60), 5, 3, 6), ((5, false, 0, cd_61), 4, 2, 6), ((5, false, 3, cd_62), 2, 2, 6), ((5, false, 0, cd_63), 4, 2, 6), ((6, true, 9, cd_64), 3, 1, 7), ((6, false, 2, cd_65), 2, 2, 7), ((6, false, 9, cd_66), 3, 3, 7), ((6, false, 9, cd_67), 5, 5, 7), ((6, false, 0, cd_68), 3, 1, 7), ((7, true, 9, cd_69), 1, 1, 8), ((7, false, 0, cd_70), 4, 2, 0), ((7, false, 0, cd_71), 3, 3, 0), ((7, false, 9, cd_72), 5, 3, 8), ((7, false, 3, cd_73), 2, 2, 8), ((7, false, 9, cd_74), 5, 3, 8), ((7, false, 0, cd_75), 8, 3, 8), ((7, false, 0, cd_76), 4, 2, 8), ((7, false, 0, cd_77), 5, 3, 8), ((8, true, 9, cd_78), 1, 1, 9), ((8, false, 9, cd_79), 3, 3, 9)]
def si_mt_4 : List (ai_F × Nat × Nat × Nat) := [((8, false, 9, cd_80), 3, 3, 9), ((8, false, 9, cd_81), 2, 1, 9), ((8, false, 9, cd_82), 4, 1, 9), ((8, false, 0, cd_83), 4, 2, 9), ((8, false, 9, cd_84), 2, 2, 9), ((8, false, 0, cd_85), 1, 1, 9), ((8, false, 0, cd_86), 1, 1, 9), ((8, false, 3, cd_87), 2, 2, 9), ((8, false, 3, cd_88), 2, 2, 9), ((8, false, 3, cd_89), 2, 2, 9), ((8, false, 3, cd_90), 2, 2, 9), ((8, false, 0, cd_91), 1, 1, 9), ((8, false, 0, cd_92), 3, 1, 9), ((9, true, 9, cd_93), 1, 1, 10), ((10, true, 9, cd_94), 1, 1, 11), ((10, false, 0, cd_95), 6, 6, 11), ((10, false, 9, cd_96), 3, 2, 11), ((10, false, 0, cd_97), 3, 2, 11), ((10, false, 3, cd_98), 4, 2, 11), ((10, false, 0, cd_99), 4, 3, 11)]
def si_mt_5 : List (ai_F × Nat × Nat × Nat) := [((10, false, 0, cd_100), 4, 3, 11), ((10, false, 0, cd_101), 4, 3, 11), ((10, false, 0, cd_102), 4, 3, 11), ((10, false, 0, cd_103), 5, 4, 11), ((10, false, 0, cd_104), 6, 5, 11), ((10, false, 0, cd_105), 5, 4, 11), ((10, false, 0, cd_106), 5, 2, 11), ((10, false, 0, cd_107), 4, 3, 11), ((10, false, 0, cd_108), 3, 2, 11), ((10, false, 0, cd_109), 4, 3, 11), ((10, false, 0, cd_110), 4, 3, 11), ((10, false, 0, cd_111), 2, 2, 11), ((10, false, 0, cd_112), 1, 1, 0), ((10, false, 3, cd_113), 2, 2, 0), ((10, false, 3, cd_114), 2, 2, 0), ((22, false, 0, cd_115), 1, 1, 0), ((24, false, 9, cd_116), 4, 2, 0), ((23, false, 9, cd_117), 6, 3, 0), ((23, false, 0, cd_118), 1, 1, 0), ((23, false, 0, cd_119), 7, 3, 0)]
def si_mt_6 : List (ai_F × Nat × Nat × Nat) := [((23, false, 0, cd_120), 5, 3, 0), ((23, false, 3, cd_121), 2, 2, 0), ((23, false, 0, cd_122), 16, 5, 0), ((23, false, 2, cd_123), 4, 2, 0), ((23, false, 0, cd_124), 4, 2, 0), ((23, false, 2, cd_125), 4, 2, 0), ((23, false, 3, cd_126), 2, 2, 0), ((23, false, 0, cd_127), 10, 5, 0), ((23, false, 3, cd_128), 11, 4, 0), ((23, false, 3, cd_129), 16, 4, 0), ((23, false, 3, cd_130), 8, 4, 0), ((23, false, 3, cd_131), 15, 6, 0), ((23, false, 3, cd_132), 12, 5, 0), ((21, false, 3, cd_law.flatten), 12, 1, 0)]
/-- method k of the table: twenty to a row -/
def si_mtb (b : Nat) : List (ai_F × Nat × Nat × Nat) := match b with
  | 0 => si_mt_0
  | 1 => si_mt_1
  | 2 => si_mt_2
  | 3 => si_mt_3
  | 4 => si_mt_4
  | 5 => si_mt_5
  | 6 => si_mt_6
  | _ => []
def si_nth {α : Type} : List α → Nat → Option α
  | [], _ => none
  | q :: _, 0 => some q
  | _ :: l, k + 1 => si_nth l k
def si_mq (y : Nat) : Option (ai_F × Nat × Nat × Nat) := si_nth (si_mtb (y / 20)) (y % 20)
def si_bl (y : Nat) : Nat × Nat := match y with
  | 0 => (5, 1157)
  | 19 => (1, 8)
  | 20 => (1, 256)
  | 26 => (5, 844)
  | 47 => (5, 288)
  | 56 => (1, 8)
  | 64 => (19, 2444)
  | 69 => (1, 256)
  | 78 => (3, 582)
  | 93 => (3, 582)
  | 94 => (73, 8836)
  | 117 => (11, 55)
  | 122 => (16, 316)
  | 123 => (1, 256)
  | 125 => (1, 8)
  | 129 => (1, 256)
  | 131 => (24, 192)
  | 133 => (600000, 7302250)
  | _ => (0, 0)
/-- the program -/
def si_t : ai_T := (fun o ix => (ai_lkp (si_fd o) ix).getD (99, 0, 9, false), fun o ix => ((ai_lkp (si_mh o) ix).getD (1000, 9)).1, fun o ix => ai_lkp (si_ct o) ix, fun o ix => (ai_lkp (si_kt o) ix).getD 99, fun y => ((si_mq y).map (fun q => q.2.2.1)).getD (if y = 997 then 1 else if y = 996 then 2 else 0), fun y => ((si_mq y).map (fun q => q.2.2.2)).getD 0, si_bl, si_N, fun a => (si_nth si_tx (a - 2000)).bind (fun q => if a < 2000 then none else some q.2))
def si_ms (y : Nat) : Option (ai_F × Nat) := (si_mq y).map (fun q => (q.1, q.2.1))
/-- names, bytes, what comes back, of each method; places of: code, static or instance, selects (0: none), initialized -/
def si_nm_0 : List (MethodName × ByteArray × Option FieldType) := [((⟨"PricedBases$Clauses", "<init>", "()V"⟩ : MethodName), prog_2_method_1_code, (none : Option FieldType)), ((⟨"PricedBases$Clauses", "read", "([II)V"⟩ : MethodName), prog_2_method_2_code, (none : Option FieldType)), ((⟨"PricedBases$Clauses", "kind", "(I)I"⟩ : MethodName), prog_2_method_3_code, (some (.int) : Option FieldType)), ((⟨"PricedBases$Clauses", "howManyNumbers", "(I)I"⟩ : MethodName), prog_2_method_4_code, (some (.int) : Option FieldType)), ((⟨"PricedBases$Clauses", "number", "(II)I"⟩ : MethodName), prog_2_method_5_code, (some (.int) : Option FieldType)), ((⟨"PricedBases$Clauses", "refuse", "(II)V"⟩ : MethodName), prog_2_method_6_code, (none : Option FieldType)), ((⟨"PricedBases$Clauses", "sign", "()I"⟩ : MethodName), prog_2_method_7_code, (some (.int) : Option FieldType)), ((⟨"PricedBases$Clauses", "readClause", "(I)V"⟩ : MethodName), prog_2_method_8_code, (none : Option FieldType)), ((⟨"PricedBases$Clauses", "readWord", "()I"⟩ : MethodName), prog_2_method_9_code, (some (.int) : Option FieldType)), ((⟨"PricedBases$Clauses", "isWord", "(Ljava/lang/String;I)Z"⟩ : MethodName), prog_2_method_10_code, (some (.boolean) : Option FieldType)), ((⟨"PricedBases$Clauses", "word", "(I)Ljava/lang/String;"⟩ : MethodName), prog_2_method_11_code, (some (.object "java/lang/String") : Option FieldType)), ((⟨"PricedBases$Clauses", "readHead", "(I)V"⟩ : MethodName), prog_2_method_12_code, (none : Option FieldType)), ((⟨"PricedBases$Clauses", "readWeights", "(I)V"⟩ : MethodName), prog_2_method_13_code, (none : Option FieldType)), ((⟨"PricedBases$Clauses", "readEdges", "(II)V"⟩ : MethodName), prog_2_method_14_code, (none : Option FieldType)), ((⟨"PricedBases$Clauses", "readSets", "(II)V"⟩ : MethodName), prog_2_method_15_code, (none : Option FieldType)), ((⟨"PricedBases$Clauses", "wasTold", "(II)Z"⟩ : MethodName), prog_2_method_16_code, (some (.boolean) : Option FieldType)), ((⟨"PricedBases$Clauses", "readNumber", "(II)I"⟩ : MethodName), prog_2_method_17_code, (some (.int) : Option FieldType)), ((⟨"PricedBases$Clauses", "readDigits", "()I"⟩ : MethodName), prog_2_method_18_code, (some (.int) : Option FieldType)), ((⟨"PricedBases$Clauses", "isDigit", "(I)Z"⟩ : MethodName), prog_2_method_19_code, (some (.boolean) : Option FieldType)), ((⟨"PricedBases$Couple", "<init>", "()V"⟩ : MethodName), prog_3_method_1_code, (none : Option FieldType))]
def si_nm_1 : List (MethodName × ByteArray × Option FieldType) := [((⟨"PricedBases$Law", "<init>", "()V"⟩ : MethodName), prog_4_method_1_code, (none : Option FieldType)), ((⟨"PricedBases$Law", "meets", "(LPricedBases$Valuation;[II)I"⟩ : MethodName), prog_4_method_2_code, (some (.int) : Option FieldType)), ((⟨"PricedBases$Law", "meetsFor", "([IIIII)I"⟩ : MethodName), prog_4_method_3_code, (some (.int) : Option FieldType)), ((⟨"PricedBases$Law", "partner", "([IIII)I"⟩ : MethodName), prog_4_method_4_code, (some (.int) : Option FieldType)), ((⟨"PricedBases$Law", "flat", "(LPricedBases$Valuation;)[I"⟩ : MethodName), prog_4_method_5_code, (some (.array (.int)) : Option FieldType)), ((⟨"PricedBases$Law", "flatGreatest", "(LPricedBases$Valuation;LPricedBases$Sums;)[I"⟩ : MethodName), prog_4_method_6_code, (some (.array (.int)) : Option FieldType)), ((⟨"PricedBases$Maker", "<init>", "()V"⟩ : MethodName), prog_5_method_1_code, (none : Option FieldType)), ((⟨"PricedBases$Maker", "isMade", "(LPricedBases$Clauses;ILPricedBases$State;)Z"⟩ : MethodName), prog_5_method_2_code, (some (.boolean) : Option FieldType)), ((⟨"PricedBases$Maker", "isTable", "(ILPricedBases$Clauses;I)Z"⟩ : MethodName), prog_5_method_3_code, (some (.boolean) : Option FieldType)), ((⟨"PricedBases$Maker", "isDerived", "(ILPricedBases$Valuation;ILPricedBases$State;)Z"⟩ : MethodName), prog_5_method_4_code, (some (.boolean) : Option FieldType)), ((⟨"PricedBases$Maker", "isOpened", "(II)Z"⟩ : MethodName), prog_5_method_5_code, (some (.boolean) : Option FieldType)), ((⟨"PricedBases$Maker", "isWhole", "()Z"⟩ : MethodName), prog_5_method_6_code, (some (.boolean) : Option FieldType)), ((⟨"PricedBases$Maker", "makeUniform", "()V"⟩ : MethodName), prog_5_method_7_code, (none : Option FieldType)), ((⟨"PricedBases$Maker", "makeMatch", "(LPricedBases$Clauses;I)V"⟩ : MethodName), prog_5_method_8_code, (none : Option FieldType)), ((⟨"PricedBases$Maker", "bestMatch", "(IILPricedBases$Clauses;I)I"⟩ : MethodName), prog_5_method_9_code, (some (.int) : Option FieldType)), ((⟨"PricedBases$Maker", "makeGraph", "(LPricedBases$Clauses;I)V"⟩ : MethodName), prog_5_method_10_code, (none : Option FieldType)), ((⟨"PricedBases$Maker", "isTree", "(ILPricedBases$Clauses;I)Z"⟩ : MethodName), prog_5_method_11_code, (some (.boolean) : Option FieldType)), ((⟨"PricedBases$Maker", "makeTold", "(LPricedBases$Clauses;I)V"⟩ : MethodName), prog_5_method_12_code, (none : Option FieldType)), ((⟨"PricedBases$Maker", "isDual", "(LPricedBases$Valuation;)Z"⟩ : MethodName), prog_5_method_13_code, (some (.boolean) : Option FieldType)), ((⟨"PricedBases$Maker", "isLess", "(LPricedBases$Valuation;II)Z"⟩ : MethodName), prog_5_method_14_code, (some (.boolean) : Option FieldType))]
def si_nm_2 : List (MethodName × ByteArray × Option FieldType) := [((⟨"PricedBases$Maker", "isShifted", "(LPricedBases$Valuation;[I)Z"⟩ : MethodName), prog_5_method_15_code, (some (.boolean) : Option FieldType)), ((⟨"PricedBases$Maker", "isPlus", "(LPricedBases$Valuation;LPricedBases$Valuation;)Z"⟩ : MethodName), prog_5_method_16_code, (some (.boolean) : Option FieldType)), ((⟨"PricedBases$Maker", "isCut", "(LPricedBases$Valuation;)Z"⟩ : MethodName), prog_5_method_17_code, (some (.boolean) : Option FieldType)), ((⟨"PricedBases$Maker", "isRaised", "(LPricedBases$Valuation;)Z"⟩ : MethodName), prog_5_method_18_code, (some (.boolean) : Option FieldType)), ((⟨"PricedBases$Maker", "offerBeside", "(LPricedBases$Valuation;Z)V"⟩ : MethodName), prog_5_method_19_code, (none : Option FieldType)), ((⟨"PricedBases$Maker", "isInitial", "(LPricedBases$Valuation;[I)Z"⟩ : MethodName), prog_5_method_20_code, (some (.boolean) : Option FieldType)), ((⟨"PricedBases$Maker", "isJoined", "(LPricedBases$Valuation;LPricedBases$Valuation;)Z"⟩ : MethodName), prog_5_method_21_code, (some (.boolean) : Option FieldType)), ((⟨"PricedBases$Rows", "<init>", "()V"⟩ : MethodName), prog_6_method_1_code, (none : Option FieldType)), ((⟨"PricedBases$Shape", "loops", "(LPricedBases$Valuation;)I"⟩ : MethodName), prog_7_method_2_code, (some (.int) : Option FieldType)), ((⟨"PricedBases$Shape", "bridges", "(LPricedBases$Valuation;)I"⟩ : MethodName), prog_7_method_3_code, (some (.int) : Option FieldType)), ((⟨"PricedBases$Shape", "freeSets", "(LPricedBases$Valuation;)I"⟩ : MethodName), prog_7_method_4_code, (some (.int) : Option FieldType)), ((⟨"PricedBases$Shape", "freeSized", "(LPricedBases$Valuation;I)I"⟩ : MethodName), prog_7_method_5_code, (some (.int) : Option FieldType)), ((⟨"PricedBases$Shape", "closed", "(LPricedBases$Valuation;I)I"⟩ : MethodName), prog_7_method_6_code, (some (.int) : Option FieldType)), ((⟨"PricedBases$Shape", "flats", "(LPricedBases$Valuation;)I"⟩ : MethodName), prog_7_method_7_code, (some (.int) : Option FieldType)), ((⟨"PricedBases$Shape", "isCircuit", "(LPricedBases$Valuation;I)Z"⟩ : MethodName), prog_7_method_9_code, (some (.boolean) : Option FieldType)), ((⟨"PricedBases$Shape", "circuits", "(LPricedBases$Valuation;)I"⟩ : MethodName), prog_7_method_10_code, (some (.int) : Option FieldType)), ((⟨"PricedBases$Space", "<init>", "()V"⟩ : MethodName), prog_8_method_1_code, (none : Option FieldType)), ((⟨"PricedBases$Space", "takePrices", "(LPricedBases$Valuation;[I)V"⟩ : MethodName), prog_8_method_2_code, (none : Option FieldType)), ((⟨"PricedBases$Space", "takeAround", "(LPricedBases$Valuation;I)V"⟩ : MethodName), prog_8_method_3_code, (none : Option FieldType)), ((⟨"PricedBases$Space", "failsAt", "(LPricedBases$Valuation;I)Z"⟩ : MethodName), prog_8_method_4_code, (some (.boolean) : Option FieldType))]
def si_nm_3 : List (MethodName × ByteArray × Option FieldType) := [((⟨"PricedBases$Space", "failingAt", "(LPricedBases$Valuation;I)I"⟩ : MethodName), prog_8_method_5_code, (some (.int) : Option FieldType)), ((⟨"PricedBases$Space", "howManyFailing", "(LPricedBases$Valuation;)I"⟩ : MethodName), prog_8_method_6_code, (some (.int) : Option FieldType)), ((⟨"PricedBases$Space", "isFull", "(LPricedBases$Valuation;)Z"⟩ : MethodName), prog_8_method_7_code, (some (.boolean) : Option FieldType)), ((⟨"PricedBases$Space", "howManySpanned", "(LPricedBases$Valuation;)I"⟩ : MethodName), prog_8_method_8_code, (some (.int) : Option FieldType)), ((⟨"PricedBases$State", "<init>", "()V"⟩ : MethodName), prog_9_method_1_code, (none : Option FieldType)), ((⟨"PricedBases$State", "shelfAt", "(I)LPricedBases$Valuation;"⟩ : MethodName), prog_9_method_2_code, (some (.object "PricedBases$Valuation") : Option FieldType)), ((⟨"PricedBases$State", "setPrice", "(II)V"⟩ : MethodName), prog_9_method_3_code, (none : Option FieldType)), ((⟨"PricedBases$State", "note", "(IIII)V"⟩ : MethodName), prog_9_method_4_code, (none : Option FieldType)), ((⟨"PricedBases$State", "howManyBases", "()I"⟩ : MethodName), prog_9_method_5_code, (some (.int) : Option FieldType)), ((⟨"PricedBases$Sums", "<init>", "()V"⟩ : MethodName), prog_10_method_1_code, (none : Option FieldType)), ((⟨"PricedBases$Sums", "ofPrices", "(I[I)I"⟩ : MethodName), prog_10_method_2_code, (some (.int) : Option FieldType)), ((⟨"PricedBases$Sums", "of", "(LPricedBases$Valuation;I[I)I"⟩ : MethodName), prog_10_method_3_code, (some (.int) : Option FieldType)), ((⟨"PricedBases$Sums", "fill", "(LPricedBases$Valuation;[I)V"⟩ : MethodName), prog_10_method_4_code, (none : Option FieldType)), ((⟨"PricedBases$Sums", "isGreatest", "(I)Z"⟩ : MethodName), prog_10_method_5_code, (some (.boolean) : Option FieldType)), ((⟨"PricedBases$Sums", "climb", "(LPricedBases$Valuation;I)V"⟩ : MethodName), prog_10_method_6_code, (none : Option FieldType)), ((⟨"PricedBases$Sums", "bestBeside", "(LPricedBases$Valuation;I)I"⟩ : MethodName), prog_10_method_7_code, (some (.int) : Option FieldType)), ((⟨"PricedBases$Sums", "howManyGreatest", "(LPricedBases$Valuation;)I"⟩ : MethodName), prog_10_method_8_code, (some (.int) : Option FieldType)), ((⟨"PricedBases$Sums", "greatestAt", "(LPricedBases$Valuation;I)I"⟩ : MethodName), prog_10_method_9_code, (some (.int) : Option FieldType)), ((⟨"PricedBases$Valuation", "<init>", "()V"⟩ : MethodName), prog_11_method_1_code, (none : Option FieldType)), ((⟨"PricedBases$Valuation", "open", "(II)V"⟩ : MethodName), prog_11_method_2_code, (none : Option FieldType))]
def si_nm_4 : List (MethodName × ByteArray × Option FieldType) := [((⟨"PricedBases$Valuation", "offer", "(II)V"⟩ : MethodName), prog_11_method_3_code, (none : Option FieldType)), ((⟨"PricedBases$Valuation", "settle", "()V"⟩ : MethodName), prog_11_method_4_code, (none : Option FieldType)), ((⟨"PricedBases$Valuation", "markFree", "()V"⟩ : MethodName), prog_11_method_5_code, (none : Option FieldType)), ((⟨"PricedBases$Valuation", "rankByParts", "(I)I"⟩ : MethodName), prog_11_method_6_code, (some (.int) : Option FieldType)), ((⟨"PricedBases$Valuation", "take", "(LPricedBases$Valuation;)V"⟩ : MethodName), prog_11_method_7_code, (none : Option FieldType)), ((⟨"PricedBases$Valuation", "sets", "()I"⟩ : MethodName), prog_11_method_8_code, (some (.int) : Option FieldType)), ((⟨"PricedBases$Valuation", "all", "()I"⟩ : MethodName), prog_11_method_9_code, (some (.int) : Option FieldType)), ((⟨"PricedBases$Valuation", "hasElement", "(I)Z"⟩ : MethodName), prog_11_method_10_code, (some (.boolean) : Option FieldType)), ((⟨"PricedBases$Valuation", "hasSet", "(I)Z"⟩ : MethodName), prog_11_method_11_code, (some (.boolean) : Option FieldType)), ((⟨"PricedBases$Valuation", "hasBase", "(I)Z"⟩ : MethodName), prog_11_method_12_code, (some (.boolean) : Option FieldType)), ((⟨"PricedBases$Valuation", "isFree", "(I)Z"⟩ : MethodName), prog_11_method_13_code, (some (.boolean) : Option FieldType)), ((⟨"PricedBases$Valuation", "greatestValue", "()I"⟩ : MethodName), prog_11_method_14_code, (some (.int) : Option FieldType)), ((⟨"PricedBases$Valuation", "leastGreatest", "()I"⟩ : MethodName), prog_11_method_15_code, (some (.int) : Option FieldType)), ((⟨"PricedBases$Ways", "<init>", "()V"⟩ : MethodName), prog_12_method_1_code, (none : Option FieldType)), ((⟨"PricedBases", "<init>", "()V"⟩ : MethodName), prog_1_method_1_code, (none : Option FieldType)), ((⟨"PricedBases", "feed", "(IIIII)I"⟩ : MethodName), prog_1_method_2_code, (some (.int) : Option FieldType)), ((⟨"PricedBases", "tapeBytes", "(I)V"⟩ : MethodName), prog_1_method_3_code, (none : Option FieldType)), ((⟨"PricedBases", "orders", "(I)I"⟩ : MethodName), prog_1_method_4_code, (some (.int) : Option FieldType)), ((⟨"PricedBases", "isDone", "(I)Z"⟩ : MethodName), prog_1_method_5_code, (some (.boolean) : Option FieldType)), ((⟨"PricedBases", "price", "(II)I"⟩ : MethodName), prog_1_method_6_code, (some (.int) : Option FieldType))]
def si_nm_5 : List (MethodName × ByteArray × Option FieldType) := [((⟨"PricedBases", "shelf", "(II)I"⟩ : MethodName), prog_1_method_7_code, (some (.int) : Option FieldType)), ((⟨"PricedBases", "value", "(II)I"⟩ : MethodName), prog_1_method_8_code, (some (.int) : Option FieldType)), ((⟨"PricedBases", "base", "(II)I"⟩ : MethodName), prog_1_method_9_code, (some (.int) : Option FieldType)), ((⟨"PricedBases", "fault", "(III)I"⟩ : MethodName), prog_1_method_10_code, (some (.int) : Option FieldType)), ((⟨"PricedBases", "exchange", "(IIII)I"⟩ : MethodName), prog_1_method_11_code, (some (.int) : Option FieldType)), ((⟨"PricedBases", "greedy", "(III)I"⟩ : MethodName), prog_1_method_15_code, (some (.int) : Option FieldType)), ((⟨"PricedBases", "arrive", "(I)I"⟩ : MethodName), prog_1_method_16_code, (some (.int) : Option FieldType)), ((⟨"PricedBases", "initial", "(II)I"⟩ : MethodName), prog_1_method_17_code, (some (.int) : Option FieldType)), ((⟨"PricedBases", "space", "(I)I"⟩ : MethodName), prog_1_method_18_code, (some (.int) : Option FieldType)), ((⟨"PricedBases", "failing", "(II)I"⟩ : MethodName), prog_1_method_19_code, (some (.int) : Option FieldType)), ((⟨"PricedBases", "spanned", "(II)I"⟩ : MethodName), prog_1_method_20_code, (some (.int) : Option FieldType)), ((⟨"PricedBases", "count", "(I)I"⟩ : MethodName), prog_1_method_43_code, (some (.int) : Option FieldType)), ((⟨"PricedBases", "bit", "(Z)I"⟩ : MethodName), prog_1_method_47_code, (some (.int) : Option FieldType)), ((⟨"PricedBases", "isIn", "(II)Z"⟩ : MethodName), prog_1_method_48_code, (some (.boolean) : Option FieldType)), ((⟨"PricedBases", "haveSameElements", "(LPricedBases$Valuation;LPricedBases$Valuation;)Z"⟩ : MethodName), prog_1_method_50_code, (some (.boolean) : Option FieldType)), ((⟨"java/lang/Integer", "bitCount", "(I)I"⟩ : MethodName), prog_15_method_49_code, (some (.int) : Option FieldType)), ((⟨"java/util/Arrays", "fill", "([II)V"⟩ : MethodName), prog_21_method_103_code, (none : Option FieldType)), ((⟨"PricedBasesLaw", "tell", "(LPricedBases;[II)V"⟩ : MethodName), method_2_code, (none : Option FieldType)), ((⟨"PricedBasesLaw", "next", "([I)I"⟩ : MethodName), method_3_code, (some (.int) : Option FieldType)), ((⟨"PricedBasesLaw", "number", "([III)I"⟩ : MethodName), method_4_code, (some (.int) : Option FieldType))]
def si_nm_6 : List (MethodName × ByteArray × Option FieldType) := [((⟨"PricedBasesLaw", "word", "([II[I)I"⟩ : MethodName), method_5_code, (some (.int) : Option FieldType)), ((⟨"PricedBasesLaw", "has", "(II)Z"⟩ : MethodName), method_6_code, (some (.boolean) : Option FieldType)), ((⟨"PricedBasesLaw", "made", "(LPricedBases;III[I)I"⟩ : MethodName), method_7_code, (some (.int) : Option FieldType)), ((⟨"PricedBasesLaw", "values", "(LPricedBases;I)[I"⟩ : MethodName), method_8_code, (some (.array (.int)) : Option FieldType)), ((⟨"PricedBasesLaw", "prices", "([II)I"⟩ : MethodName), method_9_code, (some (.int) : Option FieldType)), ((⟨"PricedBasesLaw", "priced", "(LPricedBases;[I)[I"⟩ : MethodName), method_10_code, (some (.array (.int)) : Option FieldType)), ((⟨"PricedBasesLaw", "isBase", "([II)Z"⟩ : MethodName), method_11_code, (some (.boolean) : Option FieldType)), ((⟨"PricedBasesLaw", "exchange", "([IIIIZ)I"⟩ : MethodName), method_13_code, (some (.int) : Option FieldType)), ((⟨"PricedBasesLaw", "faults", "(LPricedBases;I[I[I)Z"⟩ : MethodName), method_14_code, (some (.boolean) : Option FieldType)), ((⟨"PricedBasesLaw", "greedy", "(LPricedBases;I[I[I)Z"⟩ : MethodName), method_15_code, (some (.boolean) : Option FieldType)), ((⟨"PricedBasesLaw", "twice", "([I[III)Z"⟩ : MethodName), method_16_code, (some (.boolean) : Option FieldType)), ((⟨"PricedBasesLaw", "spaces", "(LPricedBases;III[I[I)Z"⟩ : MethodName), method_17_code, (some (.boolean) : Option FieldType)), ((⟨"PricedBasesLaw", "bases", "(LPricedBases;III[I)Z"⟩ : MethodName), method_18_code, (some (.boolean) : Option FieldType))]
def si_nmb (b : Nat) : List (MethodName × ByteArray × Option FieldType) := match b with
  | 0 => si_nm_0
  | 1 => si_nm_1
  | 2 => si_nm_2
  | 3 => si_nm_3
  | 4 => si_nm_4
  | 5 => si_nm_5
  | 6 => si_nm_6
  | _ => []
def si_nq (y : Nat) : Option (MethodName × ByteArray × Option FieldType) := si_nth (si_nmb (y / 20)) (y % 20)
end
section
/-! The tables of part 05 against lw_tbl. -/
def si_aTs : List Cond := lw_tbl.filter goodWord
def si_fchk (o : Nat) : List (Nat × Nat × Nat × Nat × Bool) → List Nat → Bool
  | [], _ => true
  | _ :: _, [] => false
  | r :: l, q :: ps => decide (lw_tbl[q]? = some (Cond.fieldLink (si_RS o) r.1 (si_RS r.2.1) (si_T r.2.1 r.2.2.1).2.1 (si_T r.2.1 r.2.2.1).2.2.1)) && (decide (r.2.1 < 11 ∧ r.2.2.1 < si_N r.2.1 ∧ (si_T r.2.1 r.2.2.1).1 = si_RS r.2.1 ∧ (si_T r.2.1 r.2.2.1).2.2.2 = r.2.2.2.2 ∧ si_ty r.2.1 r.2.2.1 = r.2.2.2.1) && si_fchk o l ps)
set_option maxRecDepth 100000 in
theorem si_fk_0 : si_fchk 0 (si_fd 0) (si_fdp 0) = true := by decide +kernel
set_option maxRecDepth 100000 in
theorem si_fk_1 : si_fchk 1 (si_fd 1) (si_fdp 1) = true := by decide +kernel
set_option maxRecDepth 100000 in
theorem si_fk_2 : si_fchk 2 (si_fd 2) (si_fdp 2) = true := by decide +kernel
set_option maxRecDepth 100000 in
theorem si_fk_3 : si_fchk 3 (si_fd 3) (si_fdp 3) = true := by decide +kernel
set_option maxRecDepth 100000 in
theorem si_fk_4 : si_fchk 4 (si_fd 4) (si_fdp 4) = true := by decide +kernel
set_option maxRecDepth 100000 in
theorem si_fk_5 : si_fchk 5 (si_fd 5) (si_fdp 5) = true := by decide +kernel
set_option maxRecDepth 100000 in
theorem si_fk_6 : si_fchk 6 (si_fd 6) (si_fdp 6) = true := by decide +kernel
set_option maxRecDepth 100000 in
theorem si_fk_7 : si_fchk 7 (si_fd 7) (si_fdp 7) = true := by decide +kernel
set_option maxRecDepth 100000 in
theorem si_fk_8 : si_fchk 8 (si_fd 8) (si_fdp 8) = true := by decide +kernel
set_option maxRecDepth 100000 in
theorem si_fk_9 : si_fchk 9 (si_fd 9) (si_fdp 9) = true := by decide +kernel
set_option maxRecDepth 100000 in
theorem si_fk_10 : si_fchk 10 (si_fd 10) (si_fdp 10) = true := by decide +kernel
set_option maxRecDepth 100000 in
theorem si_fk_20 : si_fchk 20 (si_fd 20) (si_fdp 20) = true := by decide +kernel
/-- of each method: does the row of the table fit its name (code, what comes back, arguments, receiver) -/
def si_kfit (y : Nat) (n : MethodName × ByteArray × Option FieldType) (q : ai_F × Nat × Nat × Nat) : Bool :=
  decide (n.1.cls = si_RS q.1.1 ∧ q.1.2.1 = decide (n.1.name = "<init>") ∧ n.1.cls ≠ "java/lang/invoke/MethodHandle" ∧ n.1.cls ≠ "java/lang/invoke/VarHandle" ∧ (parseMethodDescriptor n.1.desc).map (fun d => d.parameters.length) = some (q.2.2.1 - (if q.2.2.2 = 0 then 0 else 1)) ∧ (q.2.2.2 = 0 ∨ (q.2.2.2 = q.1.1 + 1 ∧ 1 ≤ q.2.2.1 ∧ q.1.1 < 11)) ∧ (q.1.2.1 = true → n.2.2 = none ∧ ¬ q.2.2.2 = 0) ∧ q.2.1 ≤ 16 ∧ plainName n.1.cls = true) && (match q.1.2.2.1, n.2.2 with
    | 0, some .int => true
    | 1, some .long => true
    | 2, some (.object _) => true
    | 2, some (.array _) => true
    | 3, some .boolean => true
    | 4, some .byte => true
    | 5, some .char => true
    | 9, none => true
    | _, _ => false)
def si_beq (a b : ByteArray) : Bool := a.data.toList == b.data.toList
theorem si_beq_eq {a b : ByteArray} (h : si_beq a b = true) : a = b := by
  have h1 : a.data.toList = b.data.toList := by simpa [si_beq] using h
  have h2 : a.data = b.data := Array.toList_inj.mp h1
  cases a
  cases b
  simp at h2
  rw [h2]
def si_isC (w : Option Cond) (y : MethodName) (b : ByteArray) (x : Nat) (r : Option FieldType) : Bool := match w with
  | some (.code y2 b2 x2 r2) => decide (y2 = y ∧ x2 = x ∧ r2 = r) && si_beq b2 b
  | _ => false
theorem si_isC_eq {w : Option Cond} {y : MethodName} {b : ByteArray} {x : Nat} {r : Option FieldType} (h : si_isC w y b x r = true) : w = some (.code y b x r) := by
  unfold si_isC at h
  split at h
  · simp only [Bool.and_eq_true, decide_eq_true_eq] at h
    obtain ⟨⟨h1, h2, h3⟩, h4⟩ := h
    rw [h1, h2, h3, si_beq_eq h4]
  · cases h
def si_kchk1 (y : Nat) (ps : Nat × Nat × Nat × Nat) : Bool := match si_nq y, si_mq y with
  | some n, some q => si_isC lw_tbl[ps.1]? n.1 n.2.1 q.2.1 n.2.2 && (decide (lw_tbl[ps.2.2.2]? = some (Cond.initialized n.1.cls)) && (si_kfit y n q && (match q.2.2.2 with
    | 0 => decide (lw_tbl[ps.2.1]? = some (Cond.static n.1))
    | _ => decide (lw_tbl[ps.2.1]? = some (Cond.instanceMethod n.1)) && (q.1.2.1 || decide (lw_tbl[ps.2.2.1]? = some (Cond.selects n.1.cls n.1 n.1))))))
  | _, _ => false
def si_kchk : Nat → List (Nat × Nat × Nat × Nat) → Bool
  | _, [] => true
  | y, p :: l => si_kchk1 y p && si_kchk (y + 1) l
def si_kp_0 : List (Nat × Nat × Nat × Nat) := [(184, 183, 0, 46), (667, 665, 666, 46), (801, 799, 800, 46), (850, 848, 849, 46), (773, 771, 772, 46), (754, 753, 11, 46), (680, 679, 9, 46), (672, 671, 7, 46), (676, 675, 8, 46), (702, 701, 10, 46), (683, 682, 0, 46), (758, 757, 12, 46), (777, 776, 15, 46), (781, 780, 16, 46), (785, 784, 17, 46), (790, 789, 18, 46), (762, 761, 13, 46), (766, 765, 14, 46), (769, 768, 0, 46), (300, 299, 0, 51)]
set_option maxRecDepth 100000 in
theorem si_kk_0 : si_kchk 0 si_kp_0 = true := by decide +kernel
def si_kp_1 : List (Nat × Nat × Nat × Nat) := [(242, 241, 0, 48), (440, 438, 439, 48), (444, 443, 2, 48), (449, 448, 0, 48), (456, 454, 455, 48), (562, 560, 561, 48), (226, 225, 0, 47), (805, 803, 804, 47), (810, 809, 20, 47), (855, 854, 28, 47), (815, 814, 21, 47), (902, 901, 38, 47), (820, 819, 22, 47), (827, 826, 23, 47), (831, 830, 24, 47), (838, 837, 25, 47), (842, 841, 26, 47), (846, 845, 27, 47), (859, 858, 29, 47), (864, 863, 30, 47)]
set_option maxRecDepth 100000 in
theorem si_kk_1 : si_kchk 20 si_kp_1 = true := by decide +kernel
def si_kp_2 : List (Nat × Nat × Nat × Nat) := [(869, 868, 31, 47), (874, 873, 32, 47), (878, 877, 33, 47), (891, 890, 36, 47), (882, 881, 34, 47), (886, 885, 35, 47), (895, 894, 37, 47), (332, 331, 0, 53), (425, 424, 0, 54), (436, 435, 0, 54), (460, 459, 0, 54), (609, 608, 0, 54), (472, 471, 0, 54), (469, 468, 0, 54), (478, 477, 0, 54), (475, 474, 0, 54), (287, 286, 0, 50), (571, 569, 570, 50), (619, 618, 5, 50), (589, 588, 4, 50)]
set_option maxRecDepth 100000 in
theorem si_kk_2 : si_kchk 40 si_kp_2 = true := by decide +kernel
def si_kp_3 : List (Nat × Nat × Nat × Nat) := [(583, 581, 582, 50), (601, 599, 600, 50), (579, 577, 578, 50), (614, 612, 613, 50), (72, 71, 0, 41), (413, 411, 412, 41), (405, 403, 404, 41), (909, 907, 908, 41), (628, 626, 627, 41), (264, 263, 0, 49), (526, 525, 0, 49), (523, 522, 0, 49), (518, 516, 517, 49), (540, 538, 539, 49), (531, 529, 530, 49), (535, 534, 3, 49), (557, 555, 556, 49), (552, 550, 551, 49), (79, 78, 0, 42), (128, 126, 127, 42)]
set_option maxRecDepth 100000 in
theorem si_kk_3 : si_kchk 60 si_kp_3 = true := by decide +kernel
def si_kp_4 : List (Nat × Nat × Nat × Nat) := [(136, 134, 135, 42), (143, 141, 142, 42), (147, 146, 0, 42), (160, 159, 1, 42), (915, 913, 914, 42), (433, 431, 432, 42), (429, 427, 428, 42), (508, 506, 507, 42), (492, 490, 491, 42), (488, 486, 487, 42), (465, 463, 464, 42), (417, 415, 416, 42), (421, 419, 420, 42), (316, 315, 0, 52), (64, 63, 0, 40), (655, 653, 654, 40), (659, 658, 6, 40), (663, 661, 662, 40), (796, 795, 19, 40), (400, 398, 399, 40)]
set_option maxRecDepth 100000 in
theorem si_kk_4 : si_kchk 80 si_kp_4 = true := by decide +kernel
def si_kp_5 : List (Nat × Nat × Nat × Nat) := [(409, 407, 408, 40), (484, 482, 483, 40), (496, 494, 495, 40), (500, 498, 499, 40), (504, 502, 503, 40), (514, 512, 513, 40), (544, 542, 543, 40), (548, 546, 547, 40), (567, 565, 566, 40), (597, 595, 596, 40), (606, 604, 605, 40), (624, 622, 623, 40), (452, 451, 0, 40), (150, 149, 0, 40), (898, 897, 0, 40), (153, 152, 0, 45), (132, 131, 0, 43), (651, 650, 0, 39), (631, 630, 0, 39), (644, 643, 0, 39)]
set_option maxRecDepth 100000 in
theorem si_kk_5 : si_kchk 100 si_kp_5 = true := by decide +kernel
def si_kp_6 : List (Nat × Nat × Nat × Nat) := [(641, 640, 0, 39), (932, 931, 0, 39), (635, 634, 0, 39), (919, 918, 0, 39), (942, 941, 0, 39), (922, 921, 0, 39), (928, 927, 0, 39), (935, 934, 0, 39), (925, 924, 0, 39), (938, 937, 0, 39), (949, 948, 0, 39), (946, 945, 0, 39), (952, 951, 0, 39)]
set_option maxRecDepth 100000 in
theorem si_kk_6 : si_kchk 120 si_kp_6 = true := by decide +kernel
/-- a call's link -/
def si_mchk1 (o : Nat) (r : Nat × Nat × Nat) (q : Nat) : Bool := match r.2.2 with
  | 9 => (match r.2.1 with
    | 999 => decide (lw_tbl[q]? = some (Cond.methodLink (si_RS o) r.1 Lib.objectInit))
    | 995 => decide (lw_tbl[q]? = some (Cond.methodLink (si_RS o) r.1 Lib.Math.max.name))
    | 994 => decide (lw_tbl[q]? = some (Cond.methodLink (si_RS o) r.1 Lib.Math.min.name))
    | 993 => decide (lw_tbl[q]? = some (Cond.methodLink (si_RS o) r.1 Lib.Math.abs.name))
    | 998 => decide (lw_tbl[q]? = some (Cond.methodLink (si_RS o) r.1 arraycopyName))
    | 997 => decide (lw_tbl[q]? = some (Cond.methodLink (si_RS o) r.1 ⟨"java/lang/String", "length", "()I"⟩) ∧ o = 0)
    | 996 => decide (lw_tbl[q]? = some (Cond.methodLink (si_RS o) r.1 ⟨"java/lang/String", "charAt", "(I)C"⟩) ∧ o = 0)
    | _ => false)
  | md => decide (r.2.1 < 133 ∧ md ≤ 5) && (match si_nq r.2.1, si_mq r.2.1 with
    | some n, some u => (if md < 3 then decide (lw_tbl[q]? = some (Cond.methodLink (si_RS o) r.1 n.1)) else decide (lw_tbl[q]? = some (Cond.methodLinkNest (si_RS o) r.1 n.1 "PricedBases"))) && decide ((md % 3 = 0 → ¬ u.2.2.2 = 0 ∧ u.1.2.1 = false) ∧ (md % 3 = 1 → u.2.2.2 = 0) ∧ (md % 3 = 2 → u.1.2.1 = true))
    | _, _ => false)
def si_mchk (o : Nat) : List (Nat × Nat × Nat) → List Nat → Bool
  | [], _ => true
  | _ :: _, [] => false
  | r :: l, q :: ps => si_mchk1 o r q && si_mchk o l ps
set_option maxRecDepth 100000 in
theorem si_mk_0 : si_mchk 0 (si_mh 0) (si_mhp 0) = true := by decide +kernel
set_option maxRecDepth 100000 in
theorem si_mk_1 : si_mchk 1 (si_mh 1) (si_mhp 1) = true := by decide +kernel
set_option maxRecDepth 100000 in
theorem si_mk_2 : si_mchk 2 (si_mh 2) (si_mhp 2) = true := by decide +kernel
set_option maxRecDepth 100000 in
theorem si_mk_3 : si_mchk 3 (si_mh 3) (si_mhp 3) = true := by decide +kernel
set_option maxRecDepth 100000 in
theorem si_mk_4 : si_mchk 4 (si_mh 4) (si_mhp 4) = true := by decide +kernel
set_option maxRecDepth 100000 in
theorem si_mk_5 : si_mchk 5 (si_mh 5) (si_mhp 5) = true := by decide +kernel
set_option maxRecDepth 100000 in
theorem si_mk_6 : si_mchk 6 (si_mh 6) (si_mhp 6) = true := by decide +kernel
set_option maxRecDepth 100000 in
theorem si_mk_7 : si_mchk 7 (si_mh 7) (si_mhp 7) = true := by decide +kernel
set_option maxRecDepth 100000 in
theorem si_mk_8 : si_mchk 8 (si_mh 8) (si_mhp 8) = true := by decide +kernel
set_option maxRecDepth 100000 in
theorem si_mk_9 : si_mchk 9 (si_mh 9) (si_mhp 9) = true := by decide +kernel
set_option maxRecDepth 100000 in
theorem si_mk_10 : si_mchk 10 (si_mh 10) (si_mhp 10) = true := by decide +kernel
set_option maxRecDepth 100000 in
theorem si_mk_20 : si_mchk 20 (si_mh 20) (si_mhp 20) = true := by decide +kernel
set_option maxRecDepth 100000 in
theorem si_mk_21 : si_mchk 21 (si_mh 21) (si_mhp 21) = true := by decide +kernel
set_option maxRecDepth 100000 in
theorem si_mk_23 : si_mchk 23 (si_mh 23) (si_mhp 23) = true := by decide +kernel
def si_cchk1 (o : Nat) (r : Nat × ai_V) (q : Nat) : Bool := match r.2 with
  | .inl x => decide (lw_tbl[q]? = some (Cond.constant (si_RS o) r.1 x))
  | .inr (.inl x) => decide (lw_tbl[q]? = some (Cond.constantLong (si_RS o) r.1 x))
  | .inr (.inr k) => decide (o = 0 ∧ 2000 ≤ k) && (match si_nth si_txs (k - 2000) with
    | some u => decide (u.1 = r.1 ∧ lw_tbl[q]? = some (Cond.stringRef (si_RS o) r.1 u.2))
    | none => false)
def si_cchk (o : Nat) : List (Nat × ai_V) → List Nat → Bool
  | [], _ => true
  | _ :: _, [] => false
  | r :: l, q :: ps => si_cchk1 o r q && si_cchk o l ps
set_option maxRecDepth 100000 in
theorem si_ck_0 : si_cchk 0 (si_ct 0) (si_ctp 0) = true := by decide +kernel
set_option maxRecDepth 100000 in
theorem si_ck_2 : si_cchk 2 (si_ct 2) (si_ctp 2) = true := by decide +kernel
set_option maxRecDepth 100000 in
theorem si_ck_3 : si_cchk 3 (si_ct 3) (si_ctp 3) = true := by decide +kernel
set_option maxRecDepth 100000 in
theorem si_ck_5 : si_cchk 5 (si_ct 5) (si_ctp 5) = true := by decide +kernel
set_option maxRecDepth 100000 in
theorem si_ck_7 : si_cchk 7 (si_ct 7) (si_ctp 7) = true := by decide +kernel
set_option maxRecDepth 100000 in
theorem si_ck_8 : si_cchk 8 (si_ct 8) (si_ctp 8) = true := by decide +kernel
set_option maxRecDepth 100000 in
theorem si_ck_10 : si_cchk 10 (si_ct 10) (si_ctp 10) = true := by decide +kernel
set_option maxRecDepth 100000 in
theorem si_ck_21 : si_cchk 21 (si_ct 21) (si_ctp 21) = true := by decide +kernel
set_option maxRecDepth 100000 in
theorem si_ck_22 : si_cchk 22 (si_ct 22) (si_ctp 22) = true := by decide +kernel
set_option maxRecDepth 100000 in
theorem si_ck_23 : si_cchk 23 (si_ct 23) (si_ctp 23) = true := by decide +kernel
def si_nchk (o : Nat) : List (Nat × Nat) → List Nat → Bool
  | [], _ => true
  | _ :: _, [] => false
  | r :: l, q :: ps => decide (lw_tbl[q]? = some (Cond.classLink (si_RS o) r.1 (si_RS r.2)) ∧ r.2 < 11) && si_nchk o l ps
set_option maxRecDepth 100000 in
theorem si_nk_3 : si_nchk 3 (si_kt 3) (si_ktp 3) = true := by decide +kernel
set_option maxRecDepth 100000 in
theorem si_nk_6 : si_nchk 6 (si_kt 6) (si_ktp 6) = true := by decide +kernel
set_option maxRecDepth 100000 in
theorem si_nk_10 : si_nchk 10 (si_kt 10) (si_ktp 10) = true := by decide +kernel
set_option maxRecDepth 100000 in
theorem si_nk_21 : si_nchk 21 (si_kt 21) (si_ktp 21) = true := by decide +kernel
set_option maxRecDepth 100000 in
theorem si_nk_23 : si_nchk 23 (si_kt 23) (si_ktp 23) = true := by decide +kernel
def si_lp (k : Nat) : List Nat := match k with
  | 0 => [198, 200, 202, 204, 206, 208, 210, 212, 214, 216, 218]
  | 1 => [303, 305, 307, 309]
  | 2 => [251, 253, 255, 257]
  | 3 => [233, 235]
  | 4 => [339, 341, 343, 345, 347]
  | 5 => [291, 293]
  | 6 => [169, 171, 173, 175, 177]
  | 7 => [274, 276, 278, 280]
  | 8 => [111, 113, 115, 117, 119, 121]
  | 9 => [321, 323, 325]
  | 10 => [366, 368, 370, 372, 374, 376, 378, 380, 382, 384, 386, 388, 390, 392, 394]
  | _ => []
def si_lp2 (k : Nat) : Nat × Nat := match k with
  | 0 => (181, 46)
  | 1 => (297, 51)
  | 2 => (239, 48)
  | 3 => (223, 47)
  | 4 => (329, 53)
  | 5 => (284, 50)
  | 6 => (69, 41)
  | 7 => (261, 49)
  | 8 => (76, 42)
  | 9 => (313, 52)
  | 10 => (61, 40)
  | _ => (0, 0)
def si_gchk1 (k : Nat) : Nat → List Nat → Bool
  | j, q :: ps => decide (lw_tbl[q]? = some (u_lay (si_RS k) (si_T k) j) ∧ parseFieldDescriptor (si_T k j).2.2.1 = some (si_ft k j) ∧ si_code (si_ft k j) = si_ty k j ∧ si_ty k j ≤ 3) && si_gchk1 k (j + 1) ps
  | j, [] => decide (si_N k ≤ j)
def si_gchk (k : Nat) : Bool := si_gchk1 k 0 (si_lp k) && (decide (lw_tbl[(si_lp2 k).1]? = some (Cond.instantiable (si_RS k) (si_N k)) ∧ lw_tbl[(si_lp2 k).2]? = some (Cond.initialized (si_RS k))) && (List.range (si_N k)).all (fun x => (List.range (si_N k)).all (fun y => decide (x = y ∨ (si_T k x).2.1 ≠ (si_T k y).2.1))))
theorem si_cl_0 : si_cl[0]? = some (si_RS 0, si_T 0, si_N 0) := rfl
theorem si_cl_1 : si_cl[1]? = some (si_RS 1, si_T 1, si_N 1) := rfl
theorem si_cl_2 : si_cl[2]? = some (si_RS 2, si_T 2, si_N 2) := rfl
theorem si_cl_3 : si_cl[3]? = some (si_RS 3, si_T 3, si_N 3) := rfl
theorem si_cl_4 : si_cl[4]? = some (si_RS 4, si_T 4, si_N 4) := rfl
theorem si_cl_5 : si_cl[5]? = some (si_RS 5, si_T 5, si_N 5) := rfl
theorem si_cl_6 : si_cl[6]? = some (si_RS 6, si_T 6, si_N 6) := rfl
theorem si_cl_7 : si_cl[7]? = some (si_RS 7, si_T 7, si_N 7) := rfl
theorem si_cl_8 : si_cl[8]? = some (si_RS 8, si_T 8, si_N 8) := rfl
theorem si_cl_9 : si_cl[9]? = some (si_RS 9, si_T 9, si_N 9) := rfl
theorem si_cl_10 : si_cl[10]? = some (si_RS 10, si_T 10, si_N 10) := rfl
set_option maxRecDepth 100000 in
theorem si_gk_0 : si_gchk 0 = true := by decide +kernel
set_option maxRecDepth 100000 in
theorem si_gk_1 : si_gchk 1 = true := by decide +kernel
set_option maxRecDepth 100000 in
theorem si_gk_2 : si_gchk 2 = true := by decide +kernel
set_option maxRecDepth 100000 in
theorem si_gk_3 : si_gchk 3 = true := by decide +kernel
set_option maxRecDepth 100000 in
theorem si_gk_4 : si_gchk 4 = true := by decide +kernel
set_option maxRecDepth 100000 in
theorem si_gk_5 : si_gchk 5 = true := by decide +kernel
set_option maxRecDepth 100000 in
theorem si_gk_6 : si_gchk 6 = true := by decide +kernel
set_option maxRecDepth 100000 in
theorem si_gk_7 : si_gchk 7 = true := by decide +kernel
set_option maxRecDepth 100000 in
theorem si_gk_8 : si_gchk 8 = true := by decide +kernel
set_option maxRecDepth 100000 in
theorem si_gk_9 : si_gchk 9 = true := by decide +kernel
set_option maxRecDepth 100000 in
theorem si_gk_10 : si_gchk 10 = true := by decide +kernel
set_option maxRecDepth 100000 in
theorem si_w_0 : Cond.code Lib.objectInit ⟨#[0xb1]⟩ 1 none ∈ lw_tbl := List.mem_of_getElem? (i := 67) (by decide +kernel)
set_option maxRecDepth 100000 in
theorem si_w_1 : Cond.instanceMethod Lib.objectInit ∈ lw_tbl := List.mem_of_getElem? (i := 66) (by decide +kernel)
set_option maxRecDepth 100000 in
theorem si_w_2 : Cond.native arraycopyName ∈ lw_tbl := List.mem_of_getElem? (i := 574) (by decide +kernel)
set_option maxRecDepth 100000 in
theorem si_w_3 : Cond.static arraycopyName ∈ lw_tbl := List.mem_of_getElem? (i := 573) (by decide +kernel)
set_option maxRecDepth 100000 in
theorem si_w_4 : Cond.initialized "java/lang/System" ∈ lw_tbl := List.mem_of_getElem? (i := 55) (by decide +kernel)
set_option maxRecDepth 100000 in
theorem si_w_5 : Cond.arrayClass .byte ∈ lw_tbl := List.mem_of_getElem? (i := 221) (by decide +kernel)
set_option maxRecDepth 100000 in
theorem si_w_6 : Cond.arrayClass .int ∈ lw_tbl := List.mem_of_getElem? (i := 124) (by decide +kernel)
set_option maxRecDepth 100000 in
theorem si_w_7 : Cond.arrayClass .long ∈ lw_tbl := List.mem_of_getElem? (i := 350) (by decide +kernel)
set_option maxRecDepth 100000 in
theorem si_w_8 : Cond.arrayOver (.object "PricedBases$Valuation") ∈ lw_tbl := List.mem_of_getElem? (i := 75) (by decide +kernel)
set_option maxRecDepth 100000 in
theorem si_w_9 : Cond.initialized "java/lang/Math" ∈ lw_tbl := List.mem_of_getElem? (i := 44) (by decide +kernel)
set_option maxRecDepth 100000 in
theorem si_w_10 : Cond.static Lib.Math.max.name ∈ lw_tbl := List.mem_of_getElem? (i := 138) (by decide +kernel)
set_option maxRecDepth 100000 in
theorem si_w_11 : Cond.static Lib.Math.min.name ∈ lw_tbl := List.mem_of_getElem? (i := 637) (by decide +kernel)
set_option maxRecDepth 100000 in
theorem si_w_12 : Cond.static Lib.Math.abs.name ∈ lw_tbl := List.mem_of_getElem? (i := 646) (by decide +kernel)
set_option maxRecDepth 100000 in
theorem si_w_13 : Cond.initialized "java/lang/String" ∈ lw_tbl := List.mem_of_getElem? (i := 56) (by decide +kernel)
set_option maxRecDepth 100000 in
theorem si_w_14 : Cond.instanceMethod ⟨"java/lang/String", "length", "()I"⟩ ∈ lw_tbl := List.mem_of_getElem? (i := 704) (by decide +kernel)
set_option maxRecDepth 100000 in
theorem si_w_15 : Cond.selects "java/lang/String" ⟨"java/lang/String", "length", "()I"⟩ ⟨"java/lang/String", "length", "()I"⟩ ∈ lw_tbl := List.mem_of_getElem? (i := 705) (by decide +kernel)
set_option maxRecDepth 100000 in
theorem si_w_16 : Cond.instanceMethod ⟨"java/lang/String", "charAt", "(I)C"⟩ ∈ lw_tbl := List.mem_of_getElem? (i := 714) (by decide +kernel)
set_option maxRecDepth 100000 in
theorem si_w_17 : Cond.selects "java/lang/String" ⟨"java/lang/String", "charAt", "(I)C"⟩ ⟨"java/lang/String", "charAt", "(I)C"⟩ ∈ lw_tbl := List.mem_of_getElem? (i := 715) (by decide +kernel)
set_option maxRecDepth 100000 in
theorem si_wm_0 : Cond.code Lib.Math.max.name Lib.Math.max.code 2 (some .int) ∈ lw_tbl := List.mem_of_getElem? (i := 139) (si_isC_eq (by decide +kernel))
set_option maxRecDepth 100000 in
theorem si_wm_1 : Cond.code Lib.Math.min.name Lib.Math.min.code 2 (some .int) ∈ lw_tbl := List.mem_of_getElem? (i := 638) (si_isC_eq (by decide +kernel))
set_option maxRecDepth 100000 in
theorem si_wm_2 : Cond.code Lib.Math.abs.name Lib.Math.abs.code 1 (some .int) ∈ lw_tbl := List.mem_of_getElem? (i := 647) (si_isC_eq (by decide +kernel))
set_option maxRecDepth 100000 in
theorem si_wt_0 : Cond.code ⟨"java/lang/String", "length", "()I"⟩ prog_17_method_54_code 1 (some .int) ∈ lw_tbl := List.mem_of_getElem? (i := 706) (si_isC_eq (by decide +kernel))
set_option maxRecDepth 100000 in
theorem si_wt_1 : Cond.code ⟨"java/lang/String", "charAt", "(I)C"⟩ prog_17_method_56_code 2 (some .char) ∈ lw_tbl := List.mem_of_getElem? (i := 716) (si_isC_eq (by decide +kernel))
end
section
/-! How the abstract machine's state lies in the claim's machine: cell a at address z + a. One row an instruction. -/
/-- z (cell a lies at z + a), the script's address, length, ints, the string constants' addresses, the classes' numbers and slots, the array classes by kind -/
abbrev si_E : Type := Nat × Nat × Nat × (Nat → Int32) × (Nat → Nat) × va_G × (Nat → ClassId)
def si_D (E : si_E) : va_G := E.2.2.2.2.2.1
def si_cA (E : si_E) : Nat → ClassId := E.2.2.2.2.2.2
def si_ad (E : si_E) (a : Nat) : Nat := if a < 1999 then E.1 + a else if a = 1999 then E.2.1 else E.2.2.2.2.1 (a - 2000)
def si_o (E : si_E) (a : Nat) : Option Nat := match a with
  | 0 => none
  | k + 1 => some (si_ad E (k + 1))
def si_v (E : si_E) (v : ai_V) : Value := match v with
  | .inl x => .int x
  | .inr (.inl x) => .long x
  | .inr (.inr a) => va_rf (si_o E a)
def si_fv (E : si_E) (ty : Nat) (i : Int32) (j : Int64) (r : Nat) : Value := match ty with
  | 1 => .long j
  | 2 => va_rf (si_o E r)
  | _ => .int i
def si_fs (E : si_E) (k : Nat) (i : Nat → Int32) (j : Nat → Int64) (r : Nat → Nat) : List Value := (List.range (si_N k)).map (fun q => si_fv E (si_ty k q) (i q) (j q) (r q))
def si_tys (E : si_E) : List (ClassId × FieldType) := [(si_cA E 12, .byte), (si_cA E 13, .int), (si_cA E 14, .long), (si_cA E 15, .object "PricedBases$Valuation")]
def si_cell (E : si_E) (I : ai_I) (J : ai_J) (Rf : ai_R) (G : ai_G) (a : Nat) : va_E := match G.1 a with
  | 12 => .inl (si_cA E 12, G.2.1 a, .inl (I a))
  | 13 => .inl (si_cA E 13, G.2.1 a, .inl (I a))
  | 14 => .inl (si_cA E 14, G.2.1 a, .inr (.inl (J a)))
  | 15 => .inl (si_cA E 15, G.2.1 a, .inr (.inr (.inr (.inr (fun q => si_o E (Rf a q))))))
  | k => .inr (k, si_fs E k (I a) (J a) (Rf a))
/-- the heap holds the abstract machine's cells -/
def si_P (E : si_E) (H : Heap) (I : ai_I) (J : ai_J) (Rf : ai_R) (G : ai_G) : Prop :=
  H.size = E.1 + 1 + G.2.2 ∧ G.2.2 ≤ 900 ∧ (∀ a, G.1 a ≤ 15 → 1 ≤ a ∧ a ≤ G.2.2 ∧ va_at (si_D E) si_cl (si_ad E a, si_cell E I J Rf G a) H) ∧ I 1999 = E.2.2.2.1 ∧ G.2.1 1999 = E.2.2.1
/-- the locals -/
def si_L (E : si_E) (ls : Array Slot) (nL : Nat) (lo : List (Option ai_V)) : Prop := ls.size = nL ∧ lv_wf ls ∧ lo.length = nL ∧ ∀ (i : Nat) (v : ai_V), ai_loc lo i = some v → ls[i]? = some (.val (si_v E v))
/-- what may be written: what lies behind z -/
def si_A (E : si_E) : Nat → Prop := fun q => E.1 < q
def si_S (E : si_E) (s : State) (R : Room) (nL : Nat) (H : Heap) (locs : List Loc) (cells slots : Nat) (ls : Array Slot) (lo : List (Option ai_V)) (B : Nat × Nat) (I : ai_I) (J : ai_J) (Rf : ai_R) (G : ai_G) : Prop :=
  si_P E H I J Rf G ∧ si_L E ls nL lo ∧ va_S (si_A E) s.heap H locs ∧ cells + B.1 ≤ R.cells ∧ slots + B.2 ≤ R.slots
theorem si_ad_lt {E : si_E} {a : Nat} (h : a ≤ 900) : si_ad E a = E.1 + a := by
  unfold si_ad
  rw [if_pos (by omega)]
theorem si_o_pos {E : si_E} {a : Nat} (h : 1 ≤ a) : si_o E a = some (si_ad E a) := by
  cases a with
  | zero => omega
  | succ k => rfl
theorem si_v_pos {E : si_E} {a : Nat} (h : 1 ≤ a) : si_v E (.inr (.inr a)) = .ref (si_ad E a) := by
  show va_rf (si_o E a) = _
  rw [si_o_pos h]
  rfl
theorem si_cell12 {E : si_E} {I : ai_I} {J : ai_J} {Rf : ai_R} {G : ai_G} {a : Nat} (hk : G.1 a = 12) : si_cell E I J Rf G a = .inl (si_cA E 12, G.2.1 a, .inl (I a)) := by
  unfold si_cell
  rw [hk]
  rfl
theorem si_cell13 {E : si_E} {I : ai_I} {J : ai_J} {Rf : ai_R} {G : ai_G} {a : Nat} (hk : G.1 a = 13) : si_cell E I J Rf G a = .inl (si_cA E 13, G.2.1 a, .inl (I a)) := by
  unfold si_cell
  rw [hk]
  rfl
theorem si_cell14 {E : si_E} {I : ai_I} {J : ai_J} {Rf : ai_R} {G : ai_G} {a : Nat} (hk : G.1 a = 14) : si_cell E I J Rf G a = .inl (si_cA E 14, G.2.1 a, .inr (.inl (J a))) := by
  unfold si_cell
  rw [hk]
  rfl
theorem si_cell15 {E : si_E} {I : ai_I} {J : ai_J} {Rf : ai_R} {G : ai_G} {a : Nat} (hk : G.1 a = 15) : si_cell E I J Rf G a = .inl (si_cA E 15, G.2.1 a, .inr (.inr (.inr (.inr (fun q => si_o E (Rf a q)))))) := by
  unfold si_cell
  rw [hk]
  rfl
theorem si_cellO {E : si_E} {I : ai_I} {J : ai_J} {Rf : ai_R} {G : ai_G} {a c : Nat} (hk : G.1 a = c) (hc : c < 12) : si_cell E I J Rf G a = .inr (c, si_fs E c (I a) (J a) (Rf a)) := by
  unfold si_cell
  rw [hk]
  split <;> first | omega | rfl
theorem si_P.at1 {E : si_E} {H : Heap} {I : ai_I} {J : ai_J} {Rf : ai_R} {G : ai_G} (h : si_P E H I J Rf G) {a : Nat} (hk : G.1 a ≤ 15) {e : va_E} (he : si_cell E I J Rf G a = e) : va_P (si_D E) si_cl [(si_ad E a, e)] H := by
  obtain ⟨-, -, h3, -⟩ := h
  intro k q hq
  cases k with
  | zero =>
    cases hq
    rw [← he]
    exact (h3 a hk).2.2
  | succ k => simp at hq
theorem si_P.put {E : si_E} {H H1 : Heap} {I I1 : ai_I} {J J1 : ai_J} {Rf R1 : ai_R} {G : ai_G} {a : Nat} (h : si_P E H I J Rf G) (hk : G.1 a ≤ 15) (z1 : H1.size = H.size) (oq : ∀ q : Nat, q ≠ si_ad E a → H1[q]? = H[q]?)
    (hat : va_at (si_D E) si_cl (si_ad E a, si_cell E I1 J1 R1 G a) H1) (hI : ∀ b : Nat, b ≠ a → I1 b = I b) (hJ : ∀ b : Nat, b ≠ a → J1 b = J b) (hR : ∀ b : Nat, b ≠ a → R1 b = Rf b) : si_P E H1 I1 J1 R1 G := by
  obtain ⟨p1, p2, p3, p4, p5⟩ := h
  have ha := p3 a hk
  refine ⟨by rw [z1]; exact p1, p2, fun b hb => ?_, ?_, p5⟩
  · obtain ⟨b1, b2, b3⟩ := p3 b hb
    refine ⟨b1, b2, ?_⟩
    by_cases e : b = a
    · subst e
      exact hat
    · have hc : si_cell E I1 J1 R1 G b = si_cell E I J Rf G b := by
        unfold si_cell
        rw [hI b e, hJ b e, hR b e]
      rw [hc]
      exact b3.kept (oq _ (by show si_ad E b ≠ si_ad E a; rw [si_ad_lt (by omega), si_ad_lt (by omega)]; omega))
  · rw [hI 1999 (by omega)]
    exact p4
/-- a new cell -/
theorem si_P.new {E : si_E} {H H1 : Heap} {I I1 : ai_I} {J J1 : ai_J} {Rf R1 : ai_R} {G : ai_G} {K : Nat → Nat} {LN : Nat → Nat} (h : si_P E H I J Rf G) (hn : G.2.2 < 900) (z1 : H1.size = H.size + 1) (oq : ∀ q : Nat, q < H.size → H1[q]? = H[q]?)
    (hK : ∀ b : Nat, b ≠ G.2.2 + 1 → K b = G.1 b) (hL : ∀ b : Nat, b ≠ G.2.2 + 1 → LN b = G.2.1 b)
    (hat : va_at (si_D E) si_cl (si_ad E (G.2.2 + 1), si_cell E I1 J1 R1 (K, LN, G.2.2 + 1) (G.2.2 + 1)) H1) (hI : ∀ b : Nat, b ≠ G.2.2 + 1 → I1 b = I b) (hJ : ∀ b : Nat, b ≠ G.2.2 + 1 → J1 b = J b) (hR : ∀ b : Nat, b ≠ G.2.2 + 1 → R1 b = Rf b) : si_P E H1 I1 J1 R1 (K, LN, G.2.2 + 1) := by
  obtain ⟨p1, p2, p3, p4, p5⟩ := h
  refine ⟨by rw [z1, p1]; show _ = E.1 + 1 + (G.2.2 + 1); omega, by show G.2.2 + 1 ≤ 900; omega, fun b hb => ?_, ?_, ?_⟩
  · by_cases e : b = G.2.2 + 1
    · subst e
      exact ⟨by omega, Nat.le_refl _, hat⟩
    · have hb' : G.1 b ≤ 15 := by rw [← hK b e]; exact hb
      obtain ⟨b1, b2, b3⟩ := p3 b hb'
      refine ⟨b1, by show b ≤ G.2.2 + 1; omega, ?_⟩
      have hc : si_cell E I1 J1 R1 (K, LN, G.2.2 + 1) b = si_cell E I J Rf G b := by
        unfold si_cell
        rw [hI b e, hJ b e, hR b e]
        show (match K b with
          | 12 => _
          | 13 => _
          | 14 => _
          | 15 => _
          | k => _) = _
        rw [hK b e]
        show (match G.1 b with
          | 12 => Sum.inl (si_cA E 12, LN b, Sum.inl (I b))
          | 13 => Sum.inl (si_cA E 13, LN b, Sum.inl (I b))
          | 14 => Sum.inl (si_cA E 14, LN b, Sum.inr (Sum.inl (J b)))
          | 15 => Sum.inl (si_cA E 15, LN b, Sum.inr (Sum.inr (Sum.inr (Sum.inr (fun q => si_o E (Rf b q))))))
          | k => Sum.inr (k, si_fs E k (I b) (J b) (Rf b))) = _
        rw [hL b e]
      rw [hc]
      exact b3.kept (oq _ (by show si_ad E b < H.size; rw [si_ad_lt (by omega), p1]; omega))
  · rw [hI 1999 (by omega)]
    exact p4
  · show LN 1999 = _
    rw [hL 1999 (by omega)]
    exact p5
/-! locals -/
def si_ll (E : si_E) (lo : List (Option ai_V)) (n : Nat) : List (Nat × Value) := (List.range n).filterMap (fun i => (ai_loc lo i).map (fun v => (i, si_v E v)))
theorem si_ll_mem {E : si_E} {lo : List (Option ai_V)} {n i : Nat} {v : ai_V} (h : ai_loc lo i = some v) (hi : i < n) : (i, si_v E v) ∈ si_ll E lo n := by
  unfold si_ll
  rw [List.mem_filterMap]
  exact ⟨i, List.mem_range.mpr hi, by rw [h]; rfl⟩
theorem ai_loc_lt {lo : List (Option ai_V)} {i : Nat} {v : ai_V} (h : ai_loc lo i = some v) : i < lo.length := by
  induction lo generalizing i with
  | nil => cases h
  | cons u l ih =>
    cases i with
    | zero => exact Nat.zero_lt_succ _
    | succ k => exact Nat.succ_lt_succ (ih h)
theorem si_L.has {E : si_E} {ls : Array Slot} {nL : Nat} {lo : List (Option ai_V)} (h : si_L E ls nL lo) : lv_has ls nL (si_ll E lo nL) := by
  obtain ⟨h1, h2, h3, h4⟩ := h
  refine ⟨h1, h2, fun q hq => ?_⟩
  unfold si_ll at hq
  rw [List.mem_filterMap] at hq
  obtain ⟨i, -, hi⟩ := hq
  cases hv : ai_loc lo i with
  | none => rw [hv] at hi; cases hi
  | some v =>
    rw [hv] at hi
    cases hi
    exact h4 i v hv
theorem ai_put1_len (lo : List (Option ai_V)) (i : Nat) (v : Option ai_V) : (ai_put1 lo i v).length = lo.length := by
  induction lo generalizing i with
  | nil => rfl
  | cons u l ih =>
    cases i with
    | zero => rfl
    | succ k => show (ai_put1 l k v).length + 1 = _; rw [ih]; rfl
theorem ai_put1_self {lo : List (Option ai_V)} {i : Nat} {v : Option ai_V} (h : i < lo.length) : ai_loc (ai_put1 lo i v) i = v := by
  induction lo generalizing i with
  | nil => cases h
  | cons u l ih =>
    cases i with
    | zero => rfl
    | succ k => exact ih (Nat.lt_of_succ_lt_succ h)
theorem ai_put1_ne {lo : List (Option ai_V)} {i j : Nat} {v : Option ai_V} (h : j ≠ i) : ai_loc (ai_put1 lo i v) j = ai_loc lo j := by
  induction lo generalizing i j with
  | nil => rfl
  | cons u l ih =>
    cases i with
    | zero =>
      cases j with
      | zero => exact absurd rfl h
      | succ k => rfl
    | succ k =>
      cases j with
      | zero => rfl
      | succ j' => exact ih (fun e => h (by rw [e]))
theorem ai_clr_len (lo : List (Option ai_V)) (i : Nat) : (ai_clr lo i).length = lo.length := by
  unfold ai_clr
  split
  · rfl
  · split
    · exact ai_put1_len _ _ _
    · rfl
theorem ai_clr_some {lo : List (Option ai_V)} {i j : Nat} {v : ai_V} (h : ai_loc (ai_clr lo i) j = some v) : ai_loc lo j = some v ∧ (j + 1 = i → ai_isL (some v) = false) := by
  unfold ai_clr at h
  split at h
  · exact ⟨h, fun e => by omega⟩
  · rename_i k
    split at h
    · rename_i hL
      by_cases e : j = k
      · subst e
        have hj : j < lo.length := by
          rcases Nat.lt_or_ge j lo.length with q | q
          · exact q
          · exfalso
            have := ai_loc_lt h
            rw [ai_put1_len] at this
            omega
        rw [ai_put1_self hj] at h
        cases h
      · rw [ai_put1_ne e] at h
        exact ⟨h, fun e2 => by omega⟩
    · rename_i hL
      refine ⟨h, fun e => ?_⟩
      have e2 : j = k := by omega
      subst e2
      rw [← h]
      exact hL
theorem si_cat {E : si_E} {v : ai_V} : (si_v E v).category = ai_cat v := by
  rcases v with x | x | a
  · rfl
  · rfl
  · cases a <;> rfl
theorem ai_cat2 {v : ai_V} (h : ai_isL (some v) = false) : ¬ ai_cat v = 2 := by
  rcases v with x | x | a
  · exact fun h => by cases h
  · cases h
  · exact fun h => by cases h
/-- one word is stored -/
theorem si_L.put {E : si_E} {ls ls' : Array Slot} {nL i : Nat} {lo : List (Option ai_V)} {v : ai_V} (h : si_L E ls nL lo)
    (h' : lv_has ls' nL ((i, si_v E v) :: (si_ll E lo nL).filter (fun q => !(q.1 == i) && !(q.1 + 1 == i && q.2.category == 2)))) : si_L E ls' nL (ai_put lo i v) := by
  obtain ⟨h1, h2, h3, h4⟩ := h
  obtain ⟨g1, g2, g3⟩ := h'
  refine ⟨g1, g2, by unfold ai_put; rw [ai_put1_len, ai_clr_len]; exact h3, fun j w hj => ?_⟩
  by_cases e : j = i
  · subst e
    have hl := ai_loc_lt hj
    unfold ai_put at hj hl
    rw [ai_put1_len] at hl
    rw [ai_put1_self hl] at hj
    cases hj
    exact g3 (j, _) List.mem_cons_self
  · unfold ai_put at hj
    rw [ai_put1_ne e] at hj
    obtain ⟨k1, k2⟩ := ai_clr_some hj
    have hlt : j < nL := by rw [← h3]; exact ai_loc_lt k1
    refine g3 (j, si_v E w) (List.mem_cons_of_mem _ (List.mem_filter.mpr ⟨si_ll_mem k1 hlt, ?_⟩))
    have a1 : (j == i) = false := by simp [e]
    by_cases e2 : j + 1 = i
    · have a2 : ((si_v E w).category == 2) = false := by
        rw [si_cat]
        simp [ai_cat2 (k2 e2)]
      simp [a1, a2]
    · have a3 : (j + 1 == i) = false := by simp [e2]
      simp [a1, a3]
/-- a long is stored -/
theorem si_L.putL {E : si_E} {ls ls' : Array Slot} {nL i : Nat} {lo : List (Option ai_V)} {v : ai_V} (h : si_L E ls nL lo)
    (h' : lv_has ls' nL ((i, si_v E v) :: (si_ll E lo nL).filter (fun q => !(q.1 == i) && (!(q.1 == i + 1) && !(q.1 + 1 == i && q.2.category == 2))))) : si_L E ls' nL (ai_putL lo i v) := by
  obtain ⟨h1, h2, h3, h4⟩ := h
  obtain ⟨g1, g2, g3⟩ := h'
  refine ⟨g1, g2, by unfold ai_putL; rw [ai_put1_len, ai_put1_len, ai_clr_len]; exact h3, fun j w hj => ?_⟩
  by_cases e1 : j = i + 1
  · subst e1
    have hl := ai_loc_lt hj
    unfold ai_putL at hj hl
    rw [ai_put1_len] at hl
    rw [ai_put1_self hl] at hj
    cases hj
  · unfold ai_putL at hj
    rw [ai_put1_ne e1] at hj
    by_cases e : j = i
    · subst e
      have hl := ai_loc_lt hj
      rw [ai_put1_len] at hl
      rw [ai_put1_self hl] at hj
      cases hj
      exact g3 (j, _) List.mem_cons_self
    · rw [ai_put1_ne e] at hj
      obtain ⟨k1, k2⟩ := ai_clr_some hj
      have hlt : j < nL := by rw [← h3]; exact ai_loc_lt k1
      refine g3 (j, si_v E w) (List.mem_cons_of_mem _ (List.mem_filter.mpr ⟨si_ll_mem k1 hlt, ?_⟩))
      have a1 : (j == i) = false := by simp [e]
      have a0 : (j == i + 1) = false := by simp [e1]
      by_cases e2 : j + 1 = i
      · have a2 : ((si_v E w).category == 2) = false := by
          rw [si_cat]
          simp [ai_cat2 (k2 e2)]
        simp [a1, a0, a2]
      · have a3 : (j + 1 == i) = false := by simp [e2]
        simp [a1, a0, a3]
/-- the locals at a method's entry -/
theorem si_ent_len : ∀ (n : Nat) (as : List ai_V), (ai_ent n as).length = n
  | 0, _ => rfl
  | n + 1, [] => by show (ai_ent n []).length + 1 = _; rw [si_ent_len n []]
  | 1, .inr (.inl x) :: l => rfl
  | n + 2, .inr (.inl x) :: l => by show (ai_ent n l).length + 1 + 1 = _; rw [si_ent_len n l]
  | n + 1, .inl x :: l => by show (ai_ent n l).length + 1 = _; rw [si_ent_len n l]
  | n + 1, .inr (.inr a) :: l => by show (ai_ent n l).length + 1 = _; rw [si_ent_len n l]
theorem si_ent_mem {E : si_E} : ∀ (n : Nat) (as : List ai_V) (b i : Nat) (v : ai_V), ai_loc (ai_ent n as) i = some v → (b + i, si_v E v) ∈ lv_args b (as.map (si_v E))
  | 0, _, _, _, _, h => by cases h
  | n + 1, [], b, i, v, h => by
    exfalso
    have key : ∀ (n i : Nat), ai_loc (ai_ent n []) i = none := by
      intro n
      induction n with
      | zero => intro i; rfl
      | succ k ih =>
        intro i
        cases i with
        | zero => rfl
        | succ j => exact ih j
    rw [key] at h
    cases h
  | 1, .inr (.inl x) :: l, b, i, v, h => by
    cases i with
    | zero => cases h; exact List.mem_cons_self
    | succ j => cases h
  | n + 2, .inr (.inl x) :: l, b, i, v, h => by
    cases i with
    | zero => cases h; exact List.mem_cons_self
    | succ j =>
      cases j with
      | zero => cases h
      | succ q =>
        have := si_ent_mem (E := E) n l (b + 2) q v h
        refine List.mem_cons_of_mem _ ?_
        rw [show b + (q + 1 + 1) = b + 2 + q by omega]
        exact this
  | n + 1, .inl x :: l, b, i, v, h => by
    cases i with
    | zero => cases h; exact List.mem_cons_self
    | succ q =>
      have := si_ent_mem (E := E) n l (b + 1) q v h
      refine List.mem_cons_of_mem _ ?_
      rw [show b + (q + 1) = b + 1 + q by omega]
      exact this
  | n + 1, .inr (.inr a) :: l, b, i, v, h => by
    cases i with
    | zero => cases h; exact List.mem_cons_self
    | succ q =>
      have := si_ent_mem (E := E) n l (b + 1) q v h
      refine List.mem_cons_of_mem _ ?_
      rw [show b + (q + 1) = b + 1 + q by omega]
      cases a <;> exact this
theorem si_sl_len {E : si_E} (as : List ai_V) : (lg_sl (as.map (si_v E))).length = ai_wgt as := by
  induction as with
  | nil => rfl
  | cons v l ih =>
    show (List.flatMap _ (si_v E v :: l.map (si_v E))).length = ai_cat v + ai_wgt l
    rw [List.flatMap_cons, List.length_append]
    rw [show (List.flatMap (fun v : Value => if v.category = 2 then [Slot.val v, Slot.second] else [Slot.val v]) (l.map (si_v E))).length = ai_wgt l from ih]
    rcases v with x | x | a
    · rfl
    · rfl
    · cases a <;> rfl
theorem si_L.ent {E : si_E} (as : List ai_V) (n : Nat) (h : ai_wgt as ≤ n) : si_L E ((lg_sl (as.map (si_v E)) ++ List.replicate (n - (lg_sl (as.map (si_v E))).length) Slot.unset).toArray) n (ai_ent n as) := by
  obtain ⟨g1, g2, g3⟩ := lv_entry (as.map (si_v E)) (n := n) (by rw [si_sl_len]; exact h)
  refine ⟨g1, g2, si_ent_len n as, fun i v hv => ?_⟩
  have := si_ent_mem (E := E) n as 0 i v hv
  rw [Nat.zero_add] at this
  exact g3 _ this
/-- the weight of a stack -/
theorem si_wgt {E : si_E} (st : List ai_V) : ((st.map (si_v E)).map fun v => v.category).sum = ai_wgt st := by
  induction st with
  | nil => rfl
  | cons v l ih =>
    show (si_v E v).category + ((l.map (si_v E)).map fun v => v.category).sum = ai_cat v + ai_wgt l
    rw [ih, si_cat]
end
section
/-! One instruction of the abstract machine is one of the claim's machine: a row each. Printed by wip/p46/gen6.py. -/
def si_K (E : si_E) (U : State) : Prop := va_K (si_D E) si_cl (si_tys E) U
/-- the letters of the string constants, as their byte arrays hold them -/
def si_len : List Nat := si_tx.map (fun q => q.2.length)
def si_byt : List (List Int32) := si_tx.map (fun q => q.2.map (fun n => Int32.ofNat n))
/-- what else holds at a method's start: links of nest mates, the array class over valuations, the string constants -/
def si_X (E : si_E) (adV : Nat → Nat) (U : State) : Prop :=
  (∀ (o : Nat) (r : Nat × Nat × Nat) (n : MethodName × ByteArray × Option FieldType), r ∈ si_mh o → 3 ≤ r.2.2 → r.2.2 ≤ 5 → si_nq r.2.1 = some n → va_Nw (.methodLinkNest (si_RS o) r.1 n.1 "PricedBases") U) ∧ va_AO "PricedBases$Valuation" U ∧
  (∀ (k : Nat) (u : Nat × String), si_nth si_txs k = some u → vk_R (si_RS 0) u.1 u.2 (si_ad E (2000 + k)) U) ∧ vk_S 15 si_len si_byt (fun k => si_ad E (2000 + k)) adV (si_A E) U U.heap ∧
  va_Z "java/lang/String" "COMPACT_STRINGS" "Z" (.int 1) (si_A E) U U.heap ∧ va_Zq "jdk/internal/util/Preconditions" "SIOOBE_FORMATTER" "Ljava/util/function/BiFunction;" (si_A E) U U.heap
/-- what a frame may lean on -/
def si_C (p : Program) (R : Room) (s : State) (m : MethodId) (args : Array Value) (meth : Method) (c : Code) (cc : ByteArray) (E : si_E) (adV : Nat → Nat) (nL o : Nat) (ini : Bool) : Prop :=
  p.tables.exec = Jvm.exec ∧ c.code = cc ∧ c.maxLocals = nL ∧ s.vm.findClass (si_RS o) = some m.cls ∧ (∀ w ∈ si_aTs, w.before args s = true) ∧ si_K E s ∧ si_X E adV s ∧ (ini = true → meth.name = "<init>") ∧
  (o = 21 → va_X E.2.1 E.2.2.1 E.2.2.2.1 s s.heap ∧ E.2.1 < s.heap.size ∧ E.2.1 ≤ E.1) ∧ E.1 < s.heap.size ∧ 1 ≤ R.frames ∧ 42 ≤ R.locals
def si_ok (p : Program) (l : Launch) (e : Env) (R : Room) (s : State) (m : MethodId) (args : Array Value) (below : List Frame) (meth : Method) (c : Code) (Q : State → Prop) (E : si_E) (nL : Nat) (k : ai_K) : Prop :=
  ∀ (pc : Nat) (lo : List (Option ai_V)) (st : List ai_V) (B : Nat × Nat) (I : ai_I) (J : ai_J) (Rf : ai_R) (G : ai_G) (H : Heap) (locs : List Loc) (cells slots : Nat) (ls : Array Slot),
    k pc lo st B I J Rf G → si_S E s R nL H locs cells slots ls lo B I J Rf G → W p l e R s m args below meth c H locs cells slots Q (F0 m pc ls (st.map (si_v E)))
theorem ai_tgt_eq {pc : Nat} {off : Int} (h : 0 ≤ (pc : Int) + off) : (pc : Int) + off = (ai_tgt pc off : Int) := by
  unfold ai_tgt
  omega
theorem ai_1I_inv {f : Int32 → Int32} {st : List ai_V} {k : List ai_V → Prop} (h : ai_1I f st k) : ∃ (x : Int32) (r : List ai_V), st = .inl x :: r ∧ k (.inl (f x) :: r) := by
  unfold ai_1I at h
  split at h
  · exact ⟨_, _, rfl, h⟩
  · exact h.elim
theorem ai_2I_inv {f : Int32 → Int32 → Int32} {st : List ai_V} {k : List ai_V → Prop} (h : ai_2I f st k) : ∃ (x y : Int32) (r : List ai_V), st = .inl y :: .inl x :: r ∧ k (.inl (f x y) :: r) := by
  unfold ai_2I at h
  split at h
  · exact ⟨_, _, _, rfl, h⟩
  · exact h.elim
theorem ai_2D_inv {f : Int32 → Int32 → Int32} {st : List ai_V} {k : List ai_V → Prop} (h : ai_2D f st k) : ∃ (x y : Int32) (r : List ai_V), st = .inl y :: .inl x :: r ∧ ¬ y = 0 ∧ k (.inl (f x y) :: r) := by
  unfold ai_2D at h
  split at h
  · exact ⟨_, _, _, rfl, h⟩
  · exact h.elim
theorem ai_2J_inv {f : Int64 → Int64 → Int64} {st : List ai_V} {k : List ai_V → Prop} (h : ai_2J f st k) : ∃ (x y : Int64) (r : List ai_V), st = .inr (.inl y) :: .inr (.inl x) :: r ∧ k (.inr (.inl (f x y)) :: r) := by
  unfold ai_2J at h
  split at h
  · exact ⟨_, _, _, rfl, h⟩
  · exact h.elim
theorem ai_2E_inv {f : Int64 → Int64 → Int64} {st : List ai_V} {k : List ai_V → Prop} (h : ai_2E f st k) : ∃ (x y : Int64) (r : List ai_V), st = .inr (.inl y) :: .inr (.inl x) :: r ∧ ¬ y = 0 ∧ k (.inr (.inl (f x y)) :: r) := by
  unfold ai_2E at h
  split at h
  · exact ⟨_, _, _, rfl, h⟩
  · exact h.elim
theorem ai_ldI_inv {lo : List (Option ai_V)} {i : Nat} {k : ai_V → Prop} (h : ai_ldI lo i k) : ∃ x : Int32, ai_loc lo i = some (.inl x) ∧ k (.inl x) := by
  unfold ai_ldI at h
  split at h
  · exact ⟨_, by assumption, h⟩
  · exact h.elim
theorem ai_ldJ_inv {lo : List (Option ai_V)} {i : Nat} {k : ai_V → Prop} (h : ai_ldJ lo i k) : ∃ x : Int64, ai_loc lo i = some (.inr (.inl x)) ∧ k (.inr (.inl x)) := by
  unfold ai_ldJ at h
  split at h
  · exact ⟨_, by assumption, h⟩
  · exact h.elim
theorem ai_ldR_inv {lo : List (Option ai_V)} {i : Nat} {k : ai_V → Prop} (h : ai_ldR lo i k) : ∃ x : Nat, ai_loc lo i = some (.inr (.inr x)) ∧ k (.inr (.inr x)) := by
  unfold ai_ldR at h
  split at h
  · exact ⟨_, by assumption, h⟩
  · exact h.elim
theorem ai_stI_inv {lo : List (Option ai_V)} {i : Nat} {st : List ai_V} {k : List (Option ai_V) → List ai_V → Prop} (h : ai_stI lo i st k) : ∃ (x : Int32) (r : List ai_V), st = .inl x :: r ∧ k (ai_put lo i (.inl x)) r := by
  unfold ai_stI at h
  split at h
  · exact ⟨_, _, rfl, h⟩
  · exact h.elim
theorem ai_stJ_inv {lo : List (Option ai_V)} {i : Nat} {st : List ai_V} {k : List (Option ai_V) → List ai_V → Prop} (h : ai_stJ lo i st k) : ∃ (x : Int64) (r : List ai_V), st = .inr (.inl x) :: r ∧ k (ai_putL lo i (.inr (.inl x))) r := by
  unfold ai_stJ at h
  split at h
  · exact ⟨_, _, rfl, h⟩
  · exact h.elim
theorem ai_stR_inv {lo : List (Option ai_V)} {i : Nat} {st : List ai_V} {k : List (Option ai_V) → List ai_V → Prop} (h : ai_stR lo i st k) : ∃ (x : Nat) (r : List ai_V), st = .inr (.inr x) :: r ∧ k (ai_put lo i (.inr (.inr x))) r := by
  unfold ai_stR at h
  split at h
  · exact ⟨_, _, rfl, h⟩
  · exact h.elim
theorem ai_sw_inv {x : Int32} {pc : Nat} {k : Nat → Prop} : ∀ (os : List Int) (lo : Int), ai_sw x pc k lo os → ∀ (i : Nat) (off : Int), os[i]? = some off → x.toInt = lo + (i : Int) → k (ai_tgt pc off)
  | [], _, _, i, off, h, _ => by simp at h
  | q :: os, lo, h, i, off, hi, hx => by
    cases i with
    | zero =>
      simp at hi
      subst hi
      exact h.1 (by simpa using hx)
    | succ j => exact ai_sw_inv os (lo + 1) h.2 j off (by simpa using hi) (by rw [hx]; push_cast; omega)
section
variable {p : Program} {l : Launch} {e : Env} {R : Room} {s : State} {m : MethodId} {args : Array Value} {below : List Frame} {meth : Method} {c : Code} {Q : State → Prop} {cc : ByteArray} {E : si_E} {adV : Nat → Nat} {nL o : Nat} {ini : Bool}
variable {t : ai_T} {F : ai_F} {call : ai_C} {post : ai_Q} {k : ai_K} {len pc : Nat} {lo : List (Option ai_V)} {st : List ai_V} {B : Nat × Nat} {I : ai_I} {J : ai_J} {Rf : ai_R} {G : ai_G} {H : Heap} {locs : List Loc} {cells slots : Nat} {ls : Array Slot}
theorem si_s_iconst (C0 : si_C p R s m args meth c cc E adV nL o ini) (hk : si_ok p l e R s m args below meth c Q E nL k) {n : Int} (hd : decode cc pc = .ok (.iconst n, len)) (hl : len = 1) (S : si_S E s R nL H locs cells slots ls lo B I J Rf G) (h : ai_stp t F call post (.iconst n) len pc lo st B I J Rf G k) : W p l e R s m args below meth c H locs cells slots Q (F0 m pc ls (st.map (si_v E))) := by
  obtain ⟨hx, hb, hml, hown, hts, hK, hX, hin, hlaw, hz, hfr, hlo⟩ := C0
  subst hl
  have hh := hk _ _ _ _ _ _ _ _ _ _ _ _ _ h S
  exact lv_iconst hx hb hd rfl hh
theorem si_s_bipush (C0 : si_C p R s m args meth c cc E adV nL o ini) (hk : si_ok p l e R s m args below meth c Q E nL k) {n : Int} (hd : decode cc pc = .ok (.bipush n, len)) (hl : len = 2) (S : si_S E s R nL H locs cells slots ls lo B I J Rf G) (h : ai_stp t F call post (.bipush n) len pc lo st B I J Rf G k) : W p l e R s m args below meth c H locs cells slots Q (F0 m pc ls (st.map (si_v E))) := by
  obtain ⟨hx, hb, hml, hown, hts, hK, hX, hin, hlaw, hz, hfr, hlo⟩ := C0
  subst hl
  have hh := hk _ _ _ _ _ _ _ _ _ _ _ _ _ h S
  exact lv_bipush hx hb hd rfl hh
theorem si_s_sipush (C0 : si_C p R s m args meth c cc E adV nL o ini) (hk : si_ok p l e R s m args below meth c Q E nL k) {n : Int} (hd : decode cc pc = .ok (.sipush n, len)) (hl : len = 3) (S : si_S E s R nL H locs cells slots ls lo B I J Rf G) (h : ai_stp t F call post (.sipush n) len pc lo st B I J Rf G k) : W p l e R s m args below meth c H locs cells slots Q (F0 m pc ls (st.map (si_v E))) := by
  obtain ⟨hx, hb, hml, hown, hts, hK, hX, hin, hlaw, hz, hfr, hlo⟩ := C0
  subst hl
  have hh := hk _ _ _ _ _ _ _ _ _ _ _ _ _ h S
  exact lv_sipush hx hb hd rfl hh
theorem si_s_lconst (C0 : si_C p R s m args meth c cc E adV nL o ini) (hk : si_ok p l e R s m args below meth c Q E nL k) {n : Fin 2} (hd : decode cc pc = .ok (.lconst n, len)) (hl : len = 1) (S : si_S E s R nL H locs cells slots ls lo B I J Rf G) (h : ai_stp t F call post (.lconst n) len pc lo st B I J Rf G k) : W p l e R s m args below meth c H locs cells slots Q (F0 m pc ls (st.map (si_v E))) := by
  obtain ⟨hx, hb, hml, hown, hts, hK, hX, hin, hlaw, hz, hfr, hlo⟩ := C0
  subst hl
  have hh := hk _ _ _ _ _ _ _ _ _ _ _ _ _ h S
  exact lv_lconst hx hb hd rfl hh
theorem si_s_aconst_null (C0 : si_C p R s m args meth c cc E adV nL o ini) (hk : si_ok p l e R s m args below meth c Q E nL k) (hd : decode cc pc = .ok (.aconst_null, len)) (hl : len = 1) (S : si_S E s R nL H locs cells slots ls lo B I J Rf G) (h : ai_stp t F call post (.aconst_null) len pc lo st B I J Rf G k) : W p l e R s m args below meth c H locs cells slots Q (F0 m pc ls (st.map (si_v E))) := by
  obtain ⟨hx, hb, hml, hown, hts, hK, hX, hin, hlaw, hz, hfr, hlo⟩ := C0
  subst hl
  have hh := hk _ _ _ _ _ _ _ _ _ _ _ _ _ h S
  exact lv_null hx hb hd hh
theorem si_s_iload (C0 : si_C p R s m args meth c cc E adV nL o ini) (hk : si_ok p l e R s m args below meth c Q E nL k) {i : Nat} (hd : decode cc pc = .ok (.iload i, len)) (hl : len = 2) (S : si_S E s R nL H locs cells slots ls lo B I J Rf G) (h : ai_stp t F call post (.iload i) len pc lo st B I J Rf G k) : W p l e R s m args below meth c H locs cells slots Q (F0 m pc ls (st.map (si_v E))) := by
  obtain ⟨hx, hb, hml, hown, hts, hK, hX, hin, hlaw, hz, hfr, hlo⟩ := C0
  subst hl
  change ai_ldI lo i (fun v => k (pc + 2) lo (v :: st) B I J Rf G) at h
  obtain ⟨x, hv, h⟩ := ai_ldI_inv h
  have hh := hk _ _ _ _ _ _ _ _ _ _ _ _ _ h S
  exact lv_iload hx hb hd (S.2.1.2.2.2 i _ hv) hh
theorem si_s_iload_n (C0 : si_C p R s m args meth c cc E adV nL o ini) (hk : si_ok p l e R s m args below meth c Q E nL k) {i : Fin 4} (hd : decode cc pc = .ok (.iload_n i, len)) (hl : len = 1) (S : si_S E s R nL H locs cells slots ls lo B I J Rf G) (h : ai_stp t F call post (.iload_n i) len pc lo st B I J Rf G k) : W p l e R s m args below meth c H locs cells slots Q (F0 m pc ls (st.map (si_v E))) := by
  obtain ⟨hx, hb, hml, hown, hts, hK, hX, hin, hlaw, hz, hfr, hlo⟩ := C0
  subst hl
  change ai_ldI lo i.val (fun v => k (pc + 1) lo (v :: st) B I J Rf G) at h
  obtain ⟨x, hv, h⟩ := ai_ldI_inv h
  have hh := hk _ _ _ _ _ _ _ _ _ _ _ _ _ h S
  exact lv_iload_n hx hb hd rfl (S.2.1.2.2.2 _ _ hv) hh
theorem si_s_lload (C0 : si_C p R s m args meth c cc E adV nL o ini) (hk : si_ok p l e R s m args below meth c Q E nL k) {i : Nat} (hd : decode cc pc = .ok (.lload i, len)) (hl : len = 2) (S : si_S E s R nL H locs cells slots ls lo B I J Rf G) (h : ai_stp t F call post (.lload i) len pc lo st B I J Rf G k) : W p l e R s m args below meth c H locs cells slots Q (F0 m pc ls (st.map (si_v E))) := by
  obtain ⟨hx, hb, hml, hown, hts, hK, hX, hin, hlaw, hz, hfr, hlo⟩ := C0
  subst hl
  change ai_ldJ lo i (fun v => k (pc + 2) lo (v :: st) B I J Rf G) at h
  obtain ⟨x, hv, h⟩ := ai_ldJ_inv h
  have hh := hk _ _ _ _ _ _ _ _ _ _ _ _ _ h S
  exact lv_lload hx hb hd (S.2.1.2.2.2 i _ hv) hh
theorem si_s_lload_n (C0 : si_C p R s m args meth c cc E adV nL o ini) (hk : si_ok p l e R s m args below meth c Q E nL k) {i : Fin 4} (hd : decode cc pc = .ok (.lload_n i, len)) (hl : len = 1) (S : si_S E s R nL H locs cells slots ls lo B I J Rf G) (h : ai_stp t F call post (.lload_n i) len pc lo st B I J Rf G k) : W p l e R s m args below meth c H locs cells slots Q (F0 m pc ls (st.map (si_v E))) := by
  obtain ⟨hx, hb, hml, hown, hts, hK, hX, hin, hlaw, hz, hfr, hlo⟩ := C0
  subst hl
  change ai_ldJ lo i.val (fun v => k (pc + 1) lo (v :: st) B I J Rf G) at h
  obtain ⟨x, hv, h⟩ := ai_ldJ_inv h
  have hh := hk _ _ _ _ _ _ _ _ _ _ _ _ _ h S
  exact lv_lload_n hx hb hd rfl (S.2.1.2.2.2 _ _ hv) hh
theorem si_s_aload (C0 : si_C p R s m args meth c cc E adV nL o ini) (hk : si_ok p l e R s m args below meth c Q E nL k) {i : Nat} (hd : decode cc pc = .ok (.aload i, len)) (hl : len = 2) (S : si_S E s R nL H locs cells slots ls lo B I J Rf G) (h : ai_stp t F call post (.aload i) len pc lo st B I J Rf G k) : W p l e R s m args below meth c H locs cells slots Q (F0 m pc ls (st.map (si_v E))) := by
  obtain ⟨hx, hb, hml, hown, hts, hK, hX, hin, hlaw, hz, hfr, hlo⟩ := C0
  subst hl
  change ai_ldR lo i (fun v => k (pc + 2) lo (v :: st) B I J Rf G) at h
  obtain ⟨x, hv, h⟩ := ai_ldR_inv h
  have hv2 := S.2.1.2.2.2 _ _ hv
  cases x with
  | zero =>
    have hh := hk _ _ _ _ _ _ _ _ _ _ _ _ _ h S
    exact lv_aloadN hx hb hd hv2 hh
  | succ q =>
    have hh := hk _ _ _ _ _ _ _ _ _ _ _ _ _ h S
    exact lv_aload hx hb hd hv2 hh
theorem si_s_istore (C0 : si_C p R s m args meth c cc E adV nL o ini) (hk : si_ok p l e R s m args below meth c Q E nL k) {i : Nat} (hd : decode cc pc = .ok (.istore i, len)) (hl : len = 2) (hi : i < nL) (S : si_S E s R nL H locs cells slots ls lo B I J Rf G) (h : ai_stp t F call post (.istore i) len pc lo st B I J Rf G k) : W p l e R s m args below meth c H locs cells slots Q (F0 m pc ls (st.map (si_v E))) := by
  obtain ⟨hx, hb, hml, hown, hts, hK, hX, hin, hlaw, hz, hfr, hlo⟩ := C0
  subst hl
  change ai_stI lo i st (fun lo st => k (pc + 2) lo st B I J Rf G) at h
  obtain ⟨x, r, rfl, h⟩ := ai_stI_inv h
  exact lv_istore hx hb hd S.2.1.has hi rfl (fun ls2 h2 => hk _ _ _ _ _ _ _ _ _ _ _ _ _ h ⟨S.1, S.2.1.put h2, S.2.2⟩)
theorem si_s_lstore (C0 : si_C p R s m args meth c cc E adV nL o ini) (hk : si_ok p l e R s m args below meth c Q E nL k) {i : Nat} (hd : decode cc pc = .ok (.lstore i, len)) (hl : len = 2) (hi : i + 1 < nL) (S : si_S E s R nL H locs cells slots ls lo B I J Rf G) (h : ai_stp t F call post (.lstore i) len pc lo st B I J Rf G k) : W p l e R s m args below meth c H locs cells slots Q (F0 m pc ls (st.map (si_v E))) := by
  obtain ⟨hx, hb, hml, hown, hts, hK, hX, hin, hlaw, hz, hfr, hlo⟩ := C0
  subst hl
  change ai_stJ lo i st (fun lo st => k (pc + 2) lo st B I J Rf G) at h
  obtain ⟨x, r, rfl, h⟩ := ai_stJ_inv h
  exact lv_lstore hx hb hd S.2.1.has hi rfl (fun ls2 h2 => hk _ _ _ _ _ _ _ _ _ _ _ _ _ h ⟨S.1, S.2.1.putL h2, S.2.2⟩)
theorem si_s_astore (C0 : si_C p R s m args meth c cc E adV nL o ini) (hk : si_ok p l e R s m args below meth c Q E nL k) {i : Nat} (hd : decode cc pc = .ok (.astore i, len)) (hl : len = 2) (hi : i < nL) (S : si_S E s R nL H locs cells slots ls lo B I J Rf G) (h : ai_stp t F call post (.astore i) len pc lo st B I J Rf G k) : W p l e R s m args below meth c H locs cells slots Q (F0 m pc ls (st.map (si_v E))) := by
  obtain ⟨hx, hb, hml, hown, hts, hK, hX, hin, hlaw, hz, hfr, hlo⟩ := C0
  subst hl
  change ai_stR lo i st (fun lo st => k (pc + 2) lo st B I J Rf G) at h
  obtain ⟨x, r, rfl, h⟩ := ai_stR_inv h
  cases x with
  | zero => exact lv_astoreN hx hb hd S.2.1.has hi rfl (fun ls2 h2 => hk _ _ _ _ _ _ _ _ _ _ _ _ _ h ⟨S.1, S.2.1.put h2, S.2.2⟩)
  | succ q => exact lv_astore hx hb hd S.2.1.has hi rfl (fun ls2 h2 => hk _ _ _ _ _ _ _ _ _ _ _ _ _ h ⟨S.1, S.2.1.put h2, S.2.2⟩)
theorem si_s_aload_n (C0 : si_C p R s m args meth c cc E adV nL o ini) (hk : si_ok p l e R s m args below meth c Q E nL k) {i : Fin 4} (hd : decode cc pc = .ok (.aload_n i, len)) (hl : len = 1) (S : si_S E s R nL H locs cells slots ls lo B I J Rf G) (h : ai_stp t F call post (.aload_n i) len pc lo st B I J Rf G k) : W p l e R s m args below meth c H locs cells slots Q (F0 m pc ls (st.map (si_v E))) := by
  obtain ⟨hx, hb, hml, hown, hts, hK, hX, hin, hlaw, hz, hfr, hlo⟩ := C0
  subst hl
  change ai_ldR lo i.val (fun v => k (pc + 1) lo (v :: st) B I J Rf G) at h
  obtain ⟨x, hv, h⟩ := ai_ldR_inv h
  have hv2 := S.2.1.2.2.2 _ _ hv
  cases x with
  | zero =>
    have hh := hk _ _ _ _ _ _ _ _ _ _ _ _ _ h S
    exact lv_aload_nN hx hb hd rfl hv2 hh
  | succ q =>
    have hh := hk _ _ _ _ _ _ _ _ _ _ _ _ _ h S
    exact lv_aload_n hx hb hd rfl hv2 hh
theorem si_s_istore_n (C0 : si_C p R s m args meth c cc E adV nL o ini) (hk : si_ok p l e R s m args below meth c Q E nL k) {i : Fin 4} (hd : decode cc pc = .ok (.istore_n i, len)) (hl : len = 1) (hi : i.val < nL) (S : si_S E s R nL H locs cells slots ls lo B I J Rf G) (h : ai_stp t F call post (.istore_n i) len pc lo st B I J Rf G k) : W p l e R s m args below meth c H locs cells slots Q (F0 m pc ls (st.map (si_v E))) := by
  obtain ⟨hx, hb, hml, hown, hts, hK, hX, hin, hlaw, hz, hfr, hlo⟩ := C0
  subst hl
  change ai_stI lo i.val st (fun lo st => k (pc + 1) lo st B I J Rf G) at h
  obtain ⟨x, r, rfl, h⟩ := ai_stI_inv h
  exact lv_istore_n hx hb hd rfl S.2.1.has hi rfl (fun ls2 h2 => hk _ _ _ _ _ _ _ _ _ _ _ _ _ h ⟨S.1, S.2.1.put h2, S.2.2⟩)
theorem si_s_lstore_n (C0 : si_C p R s m args meth c cc E adV nL o ini) (hk : si_ok p l e R s m args below meth c Q E nL k) {i : Fin 4} (hd : decode cc pc = .ok (.lstore_n i, len)) (hl : len = 1) (hi : i.val + 1 < nL) (S : si_S E s R nL H locs cells slots ls lo B I J Rf G) (h : ai_stp t F call post (.lstore_n i) len pc lo st B I J Rf G k) : W p l e R s m args below meth c H locs cells slots Q (F0 m pc ls (st.map (si_v E))) := by
  obtain ⟨hx, hb, hml, hown, hts, hK, hX, hin, hlaw, hz, hfr, hlo⟩ := C0
  subst hl
  change ai_stJ lo i.val st (fun lo st => k (pc + 1) lo st B I J Rf G) at h
  obtain ⟨x, r, rfl, h⟩ := ai_stJ_inv h
  exact lv_lstore_n hx hb hd rfl S.2.1.has hi rfl (fun ls2 h2 => hk _ _ _ _ _ _ _ _ _ _ _ _ _ h ⟨S.1, S.2.1.putL h2, S.2.2⟩)
theorem si_s_astore_n (C0 : si_C p R s m args meth c cc E adV nL o ini) (hk : si_ok p l e R s m args below meth c Q E nL k) {i : Fin 4} (hd : decode cc pc = .ok (.astore_n i, len)) (hl : len = 1) (hi : i.val < nL) (S : si_S E s R nL H locs cells slots ls lo B I J Rf G) (h : ai_stp t F call post (.astore_n i) len pc lo st B I J Rf G k) : W p l e R s m args below meth c H locs cells slots Q (F0 m pc ls (st.map (si_v E))) := by
  obtain ⟨hx, hb, hml, hown, hts, hK, hX, hin, hlaw, hz, hfr, hlo⟩ := C0
  subst hl
  change ai_stR lo i.val st (fun lo st => k (pc + 1) lo st B I J Rf G) at h
  obtain ⟨x, r, rfl, h⟩ := ai_stR_inv h
  cases x with
  | zero => exact lv_astore_nN hx hb hd rfl S.2.1.has hi rfl (fun ls2 h2 => hk _ _ _ _ _ _ _ _ _ _ _ _ _ h ⟨S.1, S.2.1.put h2, S.2.2⟩)
  | succ q => exact lv_astore_n hx hb hd rfl S.2.1.has hi rfl (fun ls2 h2 => hk _ _ _ _ _ _ _ _ _ _ _ _ _ h ⟨S.1, S.2.1.put h2, S.2.2⟩)
theorem si_s_iinc (C0 : si_C p R s m args meth c cc E adV nL o ini) (hk : si_ok p l e R s m args below meth c Q E nL k) {i : Nat} {n : Int} (hd : decode cc pc = .ok (.iinc i n, len)) (hl : len = 3) (S : si_S E s R nL H locs cells slots ls lo B I J Rf G) (h : ai_stp t F call post (.iinc i n) len pc lo st B I J Rf G k) : W p l e R s m args below meth c H locs cells slots Q (F0 m pc ls (st.map (si_v E))) := by
  obtain ⟨hx, hb, hml, hown, hts, hK, hX, hin, hlaw, hz, hfr, hlo⟩ := C0
  subst hl
  change (match ai_loc lo i with | some (.inl x) => k (pc + 3) (ai_put lo i (.inl (x + Int32.ofInt n))) st B I J Rf G | _ => False) at h
  split at h
  · rename_i x hv
    have hlt : i < nL := by rw [← S.2.1.2.2.1]; exact ai_loc_lt hv
    obtain ⟨q, hq⟩ := List.getElem?_of_mem (si_ll_mem (E := E) hv hlt)
    exact lv_iinc hx hb hd S.2.1.has hq rfl hlt rfl (fun ls2 h2 => hk _ _ _ _ _ _ _ _ _ _ _ _ _ h ⟨S.1, S.2.1.put h2, S.2.2⟩)
  · exact h.elim
theorem si_s_iadd (C0 : si_C p R s m args meth c cc E adV nL o ini) (hk : si_ok p l e R s m args below meth c Q E nL k) (hd : decode cc pc = .ok (.iadd, len)) (hl : len = 1) (S : si_S E s R nL H locs cells slots ls lo B I J Rf G) (h : ai_stp t F call post (.iadd) len pc lo st B I J Rf G k) : W p l e R s m args below meth c H locs cells slots Q (F0 m pc ls (st.map (si_v E))) := by
  obtain ⟨hx, hb, hml, hown, hts, hK, hX, hin, hlaw, hz, hfr, hlo⟩ := C0
  subst hl
  change ai_2I (fun x y => x + y) st (fun st => k (pc + 1) lo st B I J Rf G) at h
  obtain ⟨x, y, r, rfl, h⟩ := ai_2I_inv h
  have hh := hk _ _ _ _ _ _ _ _ _ _ _ _ _ h S
  exact lv_iadd hx hb hd hh
theorem si_s_isub (C0 : si_C p R s m args meth c cc E adV nL o ini) (hk : si_ok p l e R s m args below meth c Q E nL k) (hd : decode cc pc = .ok (.isub, len)) (hl : len = 1) (S : si_S E s R nL H locs cells slots ls lo B I J Rf G) (h : ai_stp t F call post (.isub) len pc lo st B I J Rf G k) : W p l e R s m args below meth c H locs cells slots Q (F0 m pc ls (st.map (si_v E))) := by
  obtain ⟨hx, hb, hml, hown, hts, hK, hX, hin, hlaw, hz, hfr, hlo⟩ := C0
  subst hl
  change ai_2I (fun x y => x - y) st (fun st => k (pc + 1) lo st B I J Rf G) at h
  obtain ⟨x, y, r, rfl, h⟩ := ai_2I_inv h
  have hh := hk _ _ _ _ _ _ _ _ _ _ _ _ _ h S
  exact lv_isub hx hb hd hh
theorem si_s_imul (C0 : si_C p R s m args meth c cc E adV nL o ini) (hk : si_ok p l e R s m args below meth c Q E nL k) (hd : decode cc pc = .ok (.imul, len)) (hl : len = 1) (S : si_S E s R nL H locs cells slots ls lo B I J Rf G) (h : ai_stp t F call post (.imul) len pc lo st B I J Rf G k) : W p l e R s m args below meth c H locs cells slots Q (F0 m pc ls (st.map (si_v E))) := by
  obtain ⟨hx, hb, hml, hown, hts, hK, hX, hin, hlaw, hz, hfr, hlo⟩ := C0
  subst hl
  change ai_2I (fun x y => x * y) st (fun st => k (pc + 1) lo st B I J Rf G) at h
  obtain ⟨x, y, r, rfl, h⟩ := ai_2I_inv h
  have hh := hk _ _ _ _ _ _ _ _ _ _ _ _ _ h S
  exact lv_imul hx hb hd hh
theorem si_s_iand (C0 : si_C p R s m args meth c cc E adV nL o ini) (hk : si_ok p l e R s m args below meth c Q E nL k) (hd : decode cc pc = .ok (.iand, len)) (hl : len = 1) (S : si_S E s R nL H locs cells slots ls lo B I J Rf G) (h : ai_stp t F call post (.iand) len pc lo st B I J Rf G k) : W p l e R s m args below meth c H locs cells slots Q (F0 m pc ls (st.map (si_v E))) := by
  obtain ⟨hx, hb, hml, hown, hts, hK, hX, hin, hlaw, hz, hfr, hlo⟩ := C0
  subst hl
  change ai_2I (fun x y => x &&& y) st (fun st => k (pc + 1) lo st B I J Rf G) at h
  obtain ⟨x, y, r, rfl, h⟩ := ai_2I_inv h
  have hh := hk _ _ _ _ _ _ _ _ _ _ _ _ _ h S
  exact lv_iand hx hb hd hh
theorem si_s_ior (C0 : si_C p R s m args meth c cc E adV nL o ini) (hk : si_ok p l e R s m args below meth c Q E nL k) (hd : decode cc pc = .ok (.ior, len)) (hl : len = 1) (S : si_S E s R nL H locs cells slots ls lo B I J Rf G) (h : ai_stp t F call post (.ior) len pc lo st B I J Rf G k) : W p l e R s m args below meth c H locs cells slots Q (F0 m pc ls (st.map (si_v E))) := by
  obtain ⟨hx, hb, hml, hown, hts, hK, hX, hin, hlaw, hz, hfr, hlo⟩ := C0
  subst hl
  change ai_2I (fun x y => x ||| y) st (fun st => k (pc + 1) lo st B I J Rf G) at h
  obtain ⟨x, y, r, rfl, h⟩ := ai_2I_inv h
  have hh := hk _ _ _ _ _ _ _ _ _ _ _ _ _ h S
  exact lv_ior hx hb hd hh
theorem si_s_ixor (C0 : si_C p R s m args meth c cc E adV nL o ini) (hk : si_ok p l e R s m args below meth c Q E nL k) (hd : decode cc pc = .ok (.ixor, len)) (hl : len = 1) (S : si_S E s R nL H locs cells slots ls lo B I J Rf G) (h : ai_stp t F call post (.ixor) len pc lo st B I J Rf G k) : W p l e R s m args below meth c H locs cells slots Q (F0 m pc ls (st.map (si_v E))) := by
  obtain ⟨hx, hb, hml, hown, hts, hK, hX, hin, hlaw, hz, hfr, hlo⟩ := C0
  subst hl
  change ai_2I (fun x y => x ^^^ y) st (fun st => k (pc + 1) lo st B I J Rf G) at h
  obtain ⟨x, y, r, rfl, h⟩ := ai_2I_inv h
  have hh := hk _ _ _ _ _ _ _ _ _ _ _ _ _ h S
  exact lv_ixor hx hb hd hh
theorem si_s_ishl (C0 : si_C p R s m args meth c cc E adV nL o ini) (hk : si_ok p l e R s m args below meth c Q E nL k) (hd : decode cc pc = .ok (.ishl, len)) (hl : len = 1) (S : si_S E s R nL H locs cells slots ls lo B I J Rf G) (h : ai_stp t F call post (.ishl) len pc lo st B I J Rf G k) : W p l e R s m args below meth c H locs cells slots Q (F0 m pc ls (st.map (si_v E))) := by
  obtain ⟨hx, hb, hml, hown, hts, hK, hX, hin, hlaw, hz, hfr, hlo⟩ := C0
  subst hl
  change ai_2I (fun x y => x <<< (y &&& 31)) st (fun st => k (pc + 1) lo st B I J Rf G) at h
  obtain ⟨x, y, r, rfl, h⟩ := ai_2I_inv h
  have hh := hk _ _ _ _ _ _ _ _ _ _ _ _ _ h S
  exact lv_ishl hx hb hd hh
theorem si_s_ishr (C0 : si_C p R s m args meth c cc E adV nL o ini) (hk : si_ok p l e R s m args below meth c Q E nL k) (hd : decode cc pc = .ok (.ishr, len)) (hl : len = 1) (S : si_S E s R nL H locs cells slots ls lo B I J Rf G) (h : ai_stp t F call post (.ishr) len pc lo st B I J Rf G k) : W p l e R s m args below meth c H locs cells slots Q (F0 m pc ls (st.map (si_v E))) := by
  obtain ⟨hx, hb, hml, hown, hts, hK, hX, hin, hlaw, hz, hfr, hlo⟩ := C0
  subst hl
  change ai_2I (fun x y => x >>> (y &&& 31)) st (fun st => k (pc + 1) lo st B I J Rf G) at h
  obtain ⟨x, y, r, rfl, h⟩ := ai_2I_inv h
  have hh := hk _ _ _ _ _ _ _ _ _ _ _ _ _ h S
  exact lv_ishr hx hb hd hh
theorem si_s_iushr (C0 : si_C p R s m args meth c cc E adV nL o ini) (hk : si_ok p l e R s m args below meth c Q E nL k) (hd : decode cc pc = .ok (.iushr, len)) (hl : len = 1) (S : si_S E s R nL H locs cells slots ls lo B I J Rf G) (h : ai_stp t F call post (.iushr) len pc lo st B I J Rf G k) : W p l e R s m args below meth c H locs cells slots Q (F0 m pc ls (st.map (si_v E))) := by
  obtain ⟨hx, hb, hml, hown, hts, hK, hX, hin, hlaw, hz, hfr, hlo⟩ := C0
  subst hl
  change ai_2I (fun x y => (x.toUInt32 >>> (y.toUInt32 &&& Int32.toUInt32 31)).toInt32) st (fun st => k (pc + 1) lo st B I J Rf G) at h
  obtain ⟨x, y, r, rfl, h⟩ := ai_2I_inv h
  have hh := hk _ _ _ _ _ _ _ _ _ _ _ _ _ h S
  exact lv_iushr hx hb hd rfl hh
theorem si_s_ineg (C0 : si_C p R s m args meth c cc E adV nL o ini) (hk : si_ok p l e R s m args below meth c Q E nL k) (hd : decode cc pc = .ok (.ineg, len)) (hl : len = 1) (S : si_S E s R nL H locs cells slots ls lo B I J Rf G) (h : ai_stp t F call post (.ineg) len pc lo st B I J Rf G k) : W p l e R s m args below meth c H locs cells slots Q (F0 m pc ls (st.map (si_v E))) := by
  obtain ⟨hx, hb, hml, hown, hts, hK, hX, hin, hlaw, hz, hfr, hlo⟩ := C0
  subst hl
  change ai_1I (fun x => -x) st (fun st => k (pc + 1) lo st B I J Rf G) at h
  obtain ⟨x, r, rfl, h⟩ := ai_1I_inv h
  have hh := hk _ _ _ _ _ _ _ _ _ _ _ _ _ h S
  exact lv_ineg hx hb hd hh
theorem si_s_i2b (C0 : si_C p R s m args meth c cc E adV nL o ini) (hk : si_ok p l e R s m args below meth c Q E nL k) (hd : decode cc pc = .ok (.i2b, len)) (hl : len = 1) (S : si_S E s R nL H locs cells slots ls lo B I J Rf G) (h : ai_stp t F call post (.i2b) len pc lo st B I J Rf G k) : W p l e R s m args below meth c H locs cells slots Q (F0 m pc ls (st.map (si_v E))) := by
  obtain ⟨hx, hb, hml, hown, hts, hK, hX, hin, hlaw, hz, hfr, hlo⟩ := C0
  subst hl
  change ai_1I (fun x => x.toInt8.toInt32) st (fun st => k (pc + 1) lo st B I J Rf G) at h
  obtain ⟨x, r, rfl, h⟩ := ai_1I_inv h
  have hh := hk _ _ _ _ _ _ _ _ _ _ _ _ _ h S
  exact lv_i2b hx hb hd rfl hh
theorem si_s_idiv (C0 : si_C p R s m args meth c cc E adV nL o ini) (hk : si_ok p l e R s m args below meth c Q E nL k) (hd : decode cc pc = .ok (.idiv, len)) (hl : len = 1) (S : si_S E s R nL H locs cells slots ls lo B I J Rf G) (h : ai_stp t F call post (.idiv) len pc lo st B I J Rf G k) : W p l e R s m args below meth c H locs cells slots Q (F0 m pc ls (st.map (si_v E))) := by
  obtain ⟨hx, hb, hml, hown, hts, hK, hX, hin, hlaw, hz, hfr, hlo⟩ := C0
  subst hl
  change ai_2D (fun x y => x / y) st (fun st => k (pc + 1) lo st B I J Rf G) at h
  obtain ⟨x, y, r, rfl, hne, h⟩ := ai_2D_inv h
  have hh := hk _ _ _ _ _ _ _ _ _ _ _ _ _ h S
  exact lv_idiv hx hb hd hne hh
theorem si_s_irem (C0 : si_C p R s m args meth c cc E adV nL o ini) (hk : si_ok p l e R s m args below meth c Q E nL k) (hd : decode cc pc = .ok (.irem, len)) (hl : len = 1) (S : si_S E s R nL H locs cells slots ls lo B I J Rf G) (h : ai_stp t F call post (.irem) len pc lo st B I J Rf G k) : W p l e R s m args below meth c H locs cells slots Q (F0 m pc ls (st.map (si_v E))) := by
  obtain ⟨hx, hb, hml, hown, hts, hK, hX, hin, hlaw, hz, hfr, hlo⟩ := C0
  subst hl
  change ai_2D (fun x y => x - x / y * y) st (fun st => k (pc + 1) lo st B I J Rf G) at h
  obtain ⟨x, y, r, rfl, hne, h⟩ := ai_2D_inv h
  have hh := hk _ _ _ _ _ _ _ _ _ _ _ _ _ h S
  exact lv_irem hx hb hd hne hh
theorem si_s_ladd (C0 : si_C p R s m args meth c cc E adV nL o ini) (hk : si_ok p l e R s m args below meth c Q E nL k) (hd : decode cc pc = .ok (.ladd, len)) (hl : len = 1) (S : si_S E s R nL H locs cells slots ls lo B I J Rf G) (h : ai_stp t F call post (.ladd) len pc lo st B I J Rf G k) : W p l e R s m args below meth c H locs cells slots Q (F0 m pc ls (st.map (si_v E))) := by
  obtain ⟨hx, hb, hml, hown, hts, hK, hX, hin, hlaw, hz, hfr, hlo⟩ := C0
  subst hl
  change ai_2J (fun x y => x + y) st (fun st => k (pc + 1) lo st B I J Rf G) at h
  obtain ⟨x, y, r, rfl, h⟩ := ai_2J_inv h
  have hh := hk _ _ _ _ _ _ _ _ _ _ _ _ _ h S
  exact lv_ladd hx hb hd hh
theorem si_s_lsub (C0 : si_C p R s m args meth c cc E adV nL o ini) (hk : si_ok p l e R s m args below meth c Q E nL k) (hd : decode cc pc = .ok (.lsub, len)) (hl : len = 1) (S : si_S E s R nL H locs cells slots ls lo B I J Rf G) (h : ai_stp t F call post (.lsub) len pc lo st B I J Rf G k) : W p l e R s m args below meth c H locs cells slots Q (F0 m pc ls (st.map (si_v E))) := by
  obtain ⟨hx, hb, hml, hown, hts, hK, hX, hin, hlaw, hz, hfr, hlo⟩ := C0
  subst hl
  change ai_2J (fun x y => x - y) st (fun st => k (pc + 1) lo st B I J Rf G) at h
  obtain ⟨x, y, r, rfl, h⟩ := ai_2J_inv h
  have hh := hk _ _ _ _ _ _ _ _ _ _ _ _ _ h S
  exact lv_lsub hx hb hd hh
theorem si_s_lmul (C0 : si_C p R s m args meth c cc E adV nL o ini) (hk : si_ok p l e R s m args below meth c Q E nL k) (hd : decode cc pc = .ok (.lmul, len)) (hl : len = 1) (S : si_S E s R nL H locs cells slots ls lo B I J Rf G) (h : ai_stp t F call post (.lmul) len pc lo st B I J Rf G k) : W p l e R s m args below meth c H locs cells slots Q (F0 m pc ls (st.map (si_v E))) := by
  obtain ⟨hx, hb, hml, hown, hts, hK, hX, hin, hlaw, hz, hfr, hlo⟩ := C0
  subst hl
  change ai_2J (fun x y => x * y) st (fun st => k (pc + 1) lo st B I J Rf G) at h
  obtain ⟨x, y, r, rfl, h⟩ := ai_2J_inv h
  have hh := hk _ _ _ _ _ _ _ _ _ _ _ _ _ h S
  exact lv_lmul hx hb hd hh
theorem si_s_ldiv (C0 : si_C p R s m args meth c cc E adV nL o ini) (hk : si_ok p l e R s m args below meth c Q E nL k) (hd : decode cc pc = .ok (.ldiv, len)) (hl : len = 1) (S : si_S E s R nL H locs cells slots ls lo B I J Rf G) (h : ai_stp t F call post (.ldiv) len pc lo st B I J Rf G k) : W p l e R s m args below meth c H locs cells slots Q (F0 m pc ls (st.map (si_v E))) := by
  obtain ⟨hx, hb, hml, hown, hts, hK, hX, hin, hlaw, hz, hfr, hlo⟩ := C0
  subst hl
  change ai_2E (fun x y => x / y) st (fun st => k (pc + 1) lo st B I J Rf G) at h
  obtain ⟨x, y, r, rfl, hne, h⟩ := ai_2E_inv h
  have hh := hk _ _ _ _ _ _ _ _ _ _ _ _ _ h S
  exact lv_ldiv hx hb hd hne hh
theorem si_s_lrem (C0 : si_C p R s m args meth c cc E adV nL o ini) (hk : si_ok p l e R s m args below meth c Q E nL k) (hd : decode cc pc = .ok (.lrem, len)) (hl : len = 1) (S : si_S E s R nL H locs cells slots ls lo B I J Rf G) (h : ai_stp t F call post (.lrem) len pc lo st B I J Rf G k) : W p l e R s m args below meth c H locs cells slots Q (F0 m pc ls (st.map (si_v E))) := by
  obtain ⟨hx, hb, hml, hown, hts, hK, hX, hin, hlaw, hz, hfr, hlo⟩ := C0
  subst hl
  change ai_2E (fun x y => x - x / y * y) st (fun st => k (pc + 1) lo st B I J Rf G) at h
  obtain ⟨x, y, r, rfl, hne, h⟩ := ai_2E_inv h
  have hh := hk _ _ _ _ _ _ _ _ _ _ _ _ _ h S
  exact lv_lrem hx hb hd hne hh
theorem si_s_i2l (C0 : si_C p R s m args meth c cc E adV nL o ini) (hk : si_ok p l e R s m args below meth c Q E nL k) (hd : decode cc pc = .ok (.i2l, len)) (hl : len = 1) (S : si_S E s R nL H locs cells slots ls lo B I J Rf G) (h : ai_stp t F call post (.i2l) len pc lo st B I J Rf G k) : W p l e R s m args below meth c H locs cells slots Q (F0 m pc ls (st.map (si_v E))) := by
  obtain ⟨hx, hb, hml, hown, hts, hK, hX, hin, hlaw, hz, hfr, hlo⟩ := C0
  subst hl
  change (match (generalizing := false) st with | .inl x :: r => k (pc + 1) lo (.inr (.inl x.toInt64) :: r) B I J Rf G | _ => False) at h
  split at h
  · have hh := hk _ _ _ _ _ _ _ _ _ _ _ _ _ h S
    exact lv_i2l hx hb hd rfl hh
  · exact h.elim
theorem si_s_lcmp (C0 : si_C p R s m args meth c cc E adV nL o ini) (hk : si_ok p l e R s m args below meth c Q E nL k) (hd : decode cc pc = .ok (.lcmp, len)) (hl : len = 1) (S : si_S E s R nL H locs cells slots ls lo B I J Rf G) (h : ai_stp t F call post (.lcmp) len pc lo st B I J Rf G k) : W p l e R s m args below meth c H locs cells slots Q (F0 m pc ls (st.map (si_v E))) := by
  obtain ⟨hx, hb, hml, hown, hts, hK, hX, hin, hlaw, hz, hfr, hlo⟩ := C0
  subst hl
  change (match (generalizing := false) st with | .inr (.inl y) :: .inr (.inl x) :: r => k (pc + 1) lo (.inl (ai_cmp x y) :: r) B I J Rf G | _ => False) at h
  split at h
  · have hh := hk _ _ _ _ _ _ _ _ _ _ _ _ _ h S
    exact W.lcmp hx hb hd hh
  · exact h.elim
theorem si_s_dup (C0 : si_C p R s m args meth c cc E adV nL o ini) (hk : si_ok p l e R s m args below meth c Q E nL k) (hd : decode cc pc = .ok (.dup, len)) (hl : len = 1) (S : si_S E s R nL H locs cells slots ls lo B I J Rf G) (h : ai_stp t F call post (.dup) len pc lo st B I J Rf G k) : W p l e R s m args below meth c H locs cells slots Q (F0 m pc ls (st.map (si_v E))) := by
  obtain ⟨hx, hb, hml, hown, hts, hK, hX, hin, hlaw, hz, hfr, hlo⟩ := C0
  subst hl
  change (match (generalizing := false) st with | .inl x :: r => k (pc + 1) lo (.inl x :: .inl x :: r) B I J Rf G | .inr (.inr a) :: r => k (pc + 1) lo (.inr (.inr a) :: .inr (.inr a) :: r) B I J Rf G | _ => False) at h
  split at h
  · have hh := hk _ _ _ _ _ _ _ _ _ _ _ _ _ h S
    exact lv_dup hx hb hd rfl hh
  · rename_i a r
    have hh := hk _ _ _ _ _ _ _ _ _ _ _ _ _ h S
    exact lv_dup hx hb hd (by cases a <;> rfl) hh
  · exact h.elim
theorem si_s_dup2 (C0 : si_C p R s m args meth c cc E adV nL o ini) (hk : si_ok p l e R s m args below meth c Q E nL k) (hd : decode cc pc = .ok (.dup2, len)) (hl : len = 1) (S : si_S E s R nL H locs cells slots ls lo B I J Rf G) (h : ai_stp t F call post (.dup2) len pc lo st B I J Rf G k) : W p l e R s m args below meth c H locs cells slots Q (F0 m pc ls (st.map (si_v E))) := by
  obtain ⟨hx, hb, hml, hown, hts, hK, hX, hin, hlaw, hz, hfr, hlo⟩ := C0
  subst hl
  change (match (generalizing := false) st with | .inl y :: .inr (.inr a) :: r => k (pc + 1) lo (.inl y :: .inr (.inr a) :: .inl y :: .inr (.inr a) :: r) B I J Rf G | _ => False) at h
  split at h
  · rename_i y a r
    have hh := hk _ _ _ _ _ _ _ _ _ _ _ _ _ h S
    exact lv_dup2_11 hx hb hd rfl (by cases a <;> rfl) hh
  · exact h.elim
theorem si_s_pop (C0 : si_C p R s m args meth c cc E adV nL o ini) (hk : si_ok p l e R s m args below meth c Q E nL k) (hd : decode cc pc = .ok (.pop, len)) (hl : len = 1) (S : si_S E s R nL H locs cells slots ls lo B I J Rf G) (h : ai_stp t F call post (.pop) len pc lo st B I J Rf G k) : W p l e R s m args below meth c H locs cells slots Q (F0 m pc ls (st.map (si_v E))) := by
  obtain ⟨hx, hb, hml, hown, hts, hK, hX, hin, hlaw, hz, hfr, hlo⟩ := C0
  subst hl
  change (match (generalizing := false) st with | .inl _ :: r => k (pc + 1) lo r B I J Rf G | .inr (.inr _) :: r => k (pc + 1) lo r B I J Rf G | _ => False) at h
  split at h
  · have hh := hk _ _ _ _ _ _ _ _ _ _ _ _ _ h S
    exact lv_pop hx hb hd rfl hh
  · rename_i a r
    have hh := hk _ _ _ _ _ _ _ _ _ _ _ _ _ h S
    exact lv_pop hx hb hd (by cases a <;> rfl) hh
  · exact h.elim
theorem si_s_goto (C0 : si_C p R s m args meth c cc E adV nL o ini) (hk : si_ok p l e R s m args below meth c Q E nL k) {off : Int} (hd : decode cc pc = .ok (.goto off, len)) (hl : len = 3) (ho : 0 ≤ (pc : Int) + off) (S : si_S E s R nL H locs cells slots ls lo B I J Rf G) (h : ai_stp t F call post (.goto off) len pc lo st B I J Rf G k) : W p l e R s m args below meth c H locs cells slots Q (F0 m pc ls (st.map (si_v E))) := by
  obtain ⟨hx, hb, hml, hown, hts, hK, hX, hin, hlaw, hz, hfr, hlo⟩ := C0
  subst hl
  have hh := hk _ _ _ _ _ _ _ _ _ _ _ _ _ h S
  exact lv_goto hx hb hd (ai_tgt_eq ho) hh
theorem si_s_ifCond (C0 : si_C p R s m args meth c cc E adV nL o ini) (hk : si_ok p l e R s m args below meth c Q E nL k) {cn : ClassFile.Cond} {off : Int} (hd : decode cc pc = .ok (.ifCond cn off, len)) (hl : len = 3) (ho : 0 ≤ (pc : Int) + off) (S : si_S E s R nL H locs cells slots ls lo B I J Rf G) (h : ai_stp t F call post (.ifCond cn off) len pc lo st B I J Rf G k) : W p l e R s m args below meth c H locs cells slots Q (F0 m pc ls (st.map (si_v E))) := by
  obtain ⟨hx, hb, hml, hown, hts, hK, hX, hin, hlaw, hz, hfr, hlo⟩ := C0
  subst hl
  change (match (generalizing := false) st with | .inl x :: r => (ai_cnd cn x 0 → k (ai_tgt pc off) lo r B I J Rf G) ∧ (¬ ai_cnd cn x 0 → k (pc + 3) lo r B I J Rf G) | _ => False) at h
  split at h
  · cases cn with
    | eq => exact lv_if_eq hx hb hd (ai_tgt_eq ho) (fun q => hk _ _ _ _ _ _ _ _ _ _ _ _ _ (h.1 q) S) (fun q => hk _ _ _ _ _ _ _ _ _ _ _ _ _ (h.2 q) S)
    | ne => exact lv_if_ne hx hb hd (ai_tgt_eq ho) (fun q => hk _ _ _ _ _ _ _ _ _ _ _ _ _ (h.1 q) S) (fun q => hk _ _ _ _ _ _ _ _ _ _ _ _ _ (h.2 (fun z => z q)) S)
    | lt => exact lv_if_lt hx hb hd (ai_tgt_eq ho) (fun q => hk _ _ _ _ _ _ _ _ _ _ _ _ _ (h.1 q) S) (fun q => hk _ _ _ _ _ _ _ _ _ _ _ _ _ (h.2 q) S)
    | ge => exact lv_if_ge hx hb hd (ai_tgt_eq ho) (fun q => hk _ _ _ _ _ _ _ _ _ _ _ _ _ (h.1 q) S) (fun q => hk _ _ _ _ _ _ _ _ _ _ _ _ _ (h.2 q) S)
    | gt => exact lv_if_gt hx hb hd (ai_tgt_eq ho) (fun q => hk _ _ _ _ _ _ _ _ _ _ _ _ _ (h.1 q) S) (fun q => hk _ _ _ _ _ _ _ _ _ _ _ _ _ (h.2 q) S)
    | le => exact lv_if_le hx hb hd (ai_tgt_eq ho) (fun q => hk _ _ _ _ _ _ _ _ _ _ _ _ _ (h.1 q) S) (fun q => hk _ _ _ _ _ _ _ _ _ _ _ _ _ (h.2 q) S)
  · exact h.elim
theorem si_s_if_icmp (C0 : si_C p R s m args meth c cc E adV nL o ini) (hk : si_ok p l e R s m args below meth c Q E nL k) {cn : ClassFile.Cond} {off : Int} (hd : decode cc pc = .ok (.if_icmp cn off, len)) (hl : len = 3) (ho : 0 ≤ (pc : Int) + off) (S : si_S E s R nL H locs cells slots ls lo B I J Rf G) (h : ai_stp t F call post (.if_icmp cn off) len pc lo st B I J Rf G k) : W p l e R s m args below meth c H locs cells slots Q (F0 m pc ls (st.map (si_v E))) := by
  obtain ⟨hx, hb, hml, hown, hts, hK, hX, hin, hlaw, hz, hfr, hlo⟩ := C0
  subst hl
  change (match (generalizing := false) st with | .inl y :: .inl x :: r => (ai_cnd cn x y → k (ai_tgt pc off) lo r B I J Rf G) ∧ (¬ ai_cnd cn x y → k (pc + 3) lo r B I J Rf G) | _ => False) at h
  split at h
  · cases cn with
    | eq => exact lv_icmp_eq hx hb hd (ai_tgt_eq ho) (fun q => hk _ _ _ _ _ _ _ _ _ _ _ _ _ (h.1 q) S) (fun q => hk _ _ _ _ _ _ _ _ _ _ _ _ _ (h.2 q) S)
    | ne => exact lv_icmp_ne hx hb hd (ai_tgt_eq ho) (fun q => hk _ _ _ _ _ _ _ _ _ _ _ _ _ (h.1 q) S) (fun q => hk _ _ _ _ _ _ _ _ _ _ _ _ _ (h.2 (fun z => z q)) S)
    | lt => exact lv_icmp_lt hx hb hd (ai_tgt_eq ho) (fun q => hk _ _ _ _ _ _ _ _ _ _ _ _ _ (h.1 q) S) (fun q => hk _ _ _ _ _ _ _ _ _ _ _ _ _ (h.2 q) S)
    | ge => exact lv_icmp_ge hx hb hd (ai_tgt_eq ho) (fun q => hk _ _ _ _ _ _ _ _ _ _ _ _ _ (h.1 q) S) (fun q => hk _ _ _ _ _ _ _ _ _ _ _ _ _ (h.2 q) S)
    | gt => exact lv_icmp_gt hx hb hd (ai_tgt_eq ho) (fun q => hk _ _ _ _ _ _ _ _ _ _ _ _ _ (h.1 q) S) (fun q => hk _ _ _ _ _ _ _ _ _ _ _ _ _ (h.2 q) S)
    | le => exact lv_icmp_le hx hb hd (ai_tgt_eq ho) (fun q => hk _ _ _ _ _ _ _ _ _ _ _ _ _ (h.1 q) S) (fun q => hk _ _ _ _ _ _ _ _ _ _ _ _ _ (h.2 q) S)
  · exact h.elim
theorem si_s_ifnull (C0 : si_C p R s m args meth c cc E adV nL o ini) (hk : si_ok p l e R s m args below meth c Q E nL k) {off : Int} (hd : decode cc pc = .ok (.ifnull off, len)) (hl : len = 3) (ho : 0 ≤ (pc : Int) + off) (S : si_S E s R nL H locs cells slots ls lo B I J Rf G) (h : ai_stp t F call post (.ifnull off) len pc lo st B I J Rf G k) : W p l e R s m args below meth c H locs cells slots Q (F0 m pc ls (st.map (si_v E))) := by
  obtain ⟨hx, hb, hml, hown, hts, hK, hX, hin, hlaw, hz, hfr, hlo⟩ := C0
  subst hl
  change (match (generalizing := false) st with | .inr (.inr a) :: r => (a = 0 → k (ai_tgt pc off) lo r B I J Rf G) ∧ (¬ a = 0 → k (pc + 3) lo r B I J Rf G) | _ => False) at h
  split at h
  · rename_i a r
    cases a with
    | zero =>
      have hh := hk _ _ _ _ _ _ _ _ _ _ _ _ _ (h.1 rfl) S
      exact lv_ifnullN hx hb hd (ai_tgt_eq ho) hh
    | succ q =>
      have hh := hk _ _ _ _ _ _ _ _ _ _ _ _ _ (h.2 (Nat.succ_ne_zero q)) S
      exact lv_ifnull hx hb hd hh
  · exact h.elim
theorem si_s_ifnonnull (C0 : si_C p R s m args meth c cc E adV nL o ini) (hk : si_ok p l e R s m args below meth c Q E nL k) {off : Int} (hd : decode cc pc = .ok (.ifnonnull off, len)) (hl : len = 3) (ho : 0 ≤ (pc : Int) + off) (S : si_S E s R nL H locs cells slots ls lo B I J Rf G) (h : ai_stp t F call post (.ifnonnull off) len pc lo st B I J Rf G k) : W p l e R s m args below meth c H locs cells slots Q (F0 m pc ls (st.map (si_v E))) := by
  obtain ⟨hx, hb, hml, hown, hts, hK, hX, hin, hlaw, hz, hfr, hlo⟩ := C0
  subst hl
  change (match (generalizing := false) st with | .inr (.inr a) :: r => (¬ a = 0 → k (ai_tgt pc off) lo r B I J Rf G) ∧ (a = 0 → k (pc + 3) lo r B I J Rf G) | _ => False) at h
  split at h
  · rename_i a r
    cases a with
    | zero =>
      have hh := hk _ _ _ _ _ _ _ _ _ _ _ _ _ (h.2 rfl) S
      exact lv_ifnonnullN hx hb hd hh
    | succ q =>
      have hh := hk _ _ _ _ _ _ _ _ _ _ _ _ _ (h.1 (Nat.succ_ne_zero q)) S
      exact lv_ifnonnull hx hb hd (ai_tgt_eq ho) hh
  · exact h.elim
theorem si_s_tableswitch (C0 : si_C p R s m args meth c cc E adV nL o ini) (hk : si_ok p l e R s m args below meth c Q E nL k) {d lq hq : Int} {os : Array Int} (hd : decode cc pc = .ok (.tableswitch d lq hq os, len)) (ho : 0 ≤ (pc : Int) + d) (hos : ∀ off ∈ os.toList, 0 ≤ (pc : Int) + off) (hsz : hq - lq < (os.toList.length : Int)) (S : si_S E s R nL H locs cells slots ls lo B I J Rf G) (h : ai_stp t F call post (.tableswitch d lq hq os) len pc lo st B I J Rf G k) : W p l e R s m args below meth c H locs cells slots Q (F0 m pc ls (st.map (si_v E))) := by
  obtain ⟨hx, hb, hml, hown, hts, hK, hX, hin, hlaw, hz, hfr, hlo⟩ := C0
  change (match (generalizing := false) st with | .inl x :: r => (x.toInt < lq ∨ hq < x.toInt → k (ai_tgt pc d) lo r B I J Rf G) ∧ ai_sw x pc (fun q => k q lo r B I J Rf G) lq os.toList | _ => False) at h
  split at h
  · rename_i x r
    by_cases hr : x.toInt < lq ∨ hq < x.toInt
    · have hh := hk _ _ _ _ _ _ _ _ _ _ _ _ _ (h.1 hr) S
      exact lv_tableOut hx hb hd hr (ai_tgt_eq ho) hh
    · have h1 : ¬ x.toInt < lq := fun z => hr (Or.inl z)
      have h2 : ¬ hq < x.toInt := fun z => hr (Or.inr z)
      have hj : (x.toInt - lq).toNat < os.toList.length := by omega
      obtain ⟨off, hoff⟩ : ∃ off, os.toList[(x.toInt - lq).toNat]? = some off := ⟨_, List.getElem?_eq_getElem hj⟩
      have hoff2 : os[(x.toInt - lq).toNat]? = some off := by rw [← Array.getElem?_toList]; exact hoff
      exact lv_tableIn hx hb hd h1 h2 hoff2 (ai_tgt_eq (hos off (List.mem_of_getElem? hoff))) (hk _ _ _ _ _ _ _ _ _ _ _ _ _ (ai_sw_inv _ _ h.2 _ off hoff (by omega)) S)
  · exact h.elim
theorem si_s_baload (C0 : si_C p R s m args meth c cc E adV nL o ini) (hk : si_ok p l e R s m args below meth c Q E nL k) (hd : decode cc pc = .ok (.baload, len)) (hl : len = 1) (S : si_S E s R nL H locs cells slots ls lo B I J Rf G) (h : ai_stp t F call post (.baload) len pc lo st B I J Rf G k) : W p l e R s m args below meth c H locs cells slots Q (F0 m pc ls (st.map (si_v E))) := by
  obtain ⟨hx, hb, hml, hown, hts, hK, hX, hin, hlaw, hz, hfr, hlo⟩ := C0
  subst hl
  change (match (generalizing := false) st with | .inl i :: .inr (.inr a) :: r => G.1 a = 12 ∧ ai_in i (G.2.1 a) ∧ k (pc + 1) lo (.inl (I a i.toNatClampNeg) :: r) B I J Rf G | _ => False) at h
  split at h
  · rename_i i a r
    obtain ⟨hk1, hi, h⟩ := h
    have ha := (S.1.2.2.1 a (by omega)).1
    have hP := S.1.at1 (by omega) (si_cell12 hk1)
    rw [show (Sum.inl i :: Sum.inr (Sum.inr a) :: r : List ai_V).map (si_v E) = .int i :: si_v E (.inr (.inr a)) :: r.map (si_v E) from rfl, si_v_pos ha]
    have hh := hk _ _ _ _ _ _ _ _ _ _ _ _ _ h S
    exact va_bald hx hb hK hP 0 0 rfl rfl hi hd hh
  · exact h.elim
theorem si_s_laload (C0 : si_C p R s m args meth c cc E adV nL o ini) (hk : si_ok p l e R s m args below meth c Q E nL k) (hd : decode cc pc = .ok (.laload, len)) (hl : len = 1) (S : si_S E s R nL H locs cells slots ls lo B I J Rf G) (h : ai_stp t F call post (.laload) len pc lo st B I J Rf G k) : W p l e R s m args below meth c H locs cells slots Q (F0 m pc ls (st.map (si_v E))) := by
  obtain ⟨hx, hb, hml, hown, hts, hK, hX, hin, hlaw, hz, hfr, hlo⟩ := C0
  subst hl
  change (match (generalizing := false) st with | .inl i :: .inr (.inr a) :: r => G.1 a = 14 ∧ ai_in i (G.2.1 a) ∧ k (pc + 1) lo (.inr (.inl (J a i.toNatClampNeg)) :: r) B I J Rf G | _ => False) at h
  split at h
  · rename_i i a r
    obtain ⟨hk1, hi, h⟩ := h
    have ha := (S.1.2.2.1 a (by omega)).1
    have hP := S.1.at1 (by omega) (si_cell14 hk1)
    rw [show (Sum.inl i :: Sum.inr (Sum.inr a) :: r : List ai_V).map (si_v E) = .int i :: si_v E (.inr (.inr a)) :: r.map (si_v E) from rfl, si_v_pos ha]
    have hh := hk _ _ _ _ _ _ _ _ _ _ _ _ _ h S
    exact va_lald hx hb hK hP 0 2 rfl rfl hi hd hh
  · exact h.elim
theorem si_s_aaload (C0 : si_C p R s m args meth c cc E adV nL o ini) (hk : si_ok p l e R s m args below meth c Q E nL k) (hd : decode cc pc = .ok (.aaload, len)) (hl : len = 1) (S : si_S E s R nL H locs cells slots ls lo B I J Rf G) (h : ai_stp t F call post (.aaload) len pc lo st B I J Rf G k) : W p l e R s m args below meth c H locs cells slots Q (F0 m pc ls (st.map (si_v E))) := by
  obtain ⟨hx, hb, hml, hown, hts, hK, hX, hin, hlaw, hz, hfr, hlo⟩ := C0
  subst hl
  change (match (generalizing := false) st with | .inl i :: .inr (.inr a) :: r => G.1 a = 15 ∧ ai_in i (G.2.1 a) ∧ k (pc + 1) lo (.inr (.inr (Rf a i.toNatClampNeg)) :: r) B I J Rf G | _ => False) at h
  split at h
  · rename_i i a r
    obtain ⟨hk1, hi, h⟩ := h
    have ha := (S.1.2.2.1 a (by omega)).1
    have hP := S.1.at1 (by omega) (si_cell15 hk1)
    rw [show (Sum.inl i :: Sum.inr (Sum.inr a) :: r : List ai_V).map (si_v E) = .int i :: si_v E (.inr (.inr a)) :: r.map (si_v E) from rfl, si_v_pos ha]
    have hh := hk _ _ _ _ _ _ _ _ _ _ _ _ _ h S
    exact va_aldq hx hb hK hP 0 3 rfl rfl hi hd hh
  · exact h.elim
theorem ai_isI_inv {o : Nat} {K : Nat → Nat} {a : Nat} (h : ai_isI o K a) : K a = 13 ∨ (o = 21 ∧ a = 1999) := by
  unfold ai_isI at h
  split at h
  · rcases h with h | h
    · exact Or.inl h
    · exact Or.inr ⟨rfl, h⟩
  · exact Or.inl h
theorem ai_isA_inv {o : Nat} {K : Nat → Nat} {a : Nat} (h : ai_isA o K a) : (12 ≤ K a ∧ K a ≤ 15) ∨ (o = 21 ∧ a = 1999) := by
  unfold ai_isA at h
  split at h
  · rcases h with h | h
    · exact Or.inl h
    · exact Or.inr ⟨rfl, h⟩
  · exact Or.inl h
theorem si_s_iaload (C0 : si_C p R s m args meth c cc E adV nL o ini) (hk : si_ok p l e R s m args below meth c Q E nL k) (hd : decode cc pc = .ok (.iaload, len)) (hl : len = 1) (hF : F.1 = o) (S : si_S E s R nL H locs cells slots ls lo B I J Rf G) (h : ai_stp t F call post (.iaload) len pc lo st B I J Rf G k) : W p l e R s m args below meth c H locs cells slots Q (F0 m pc ls (st.map (si_v E))) := by
  obtain ⟨hx, hb, hml, hown, hts, hK, hX, hin, hlaw, hz, hfr, hlo⟩ := C0
  subst hl
  change (match (generalizing := false) st with | .inl i :: .inr (.inr a) :: r => ai_isI F.1 G.1 a ∧ ai_in i (G.2.1 a) ∧ k (pc + 1) lo (.inl (I a i.toNatClampNeg) :: r) B I J Rf G | _ => False) at h
  split at h
  · rename_i i a r
    obtain ⟨hk1, hi, h⟩ := h
    rcases ai_isI_inv hk1 with hk1 | ⟨ho, rfl⟩
    · have ha := (S.1.2.2.1 a (by omega)).1
      have hP := S.1.at1 (by omega) (si_cell13 hk1)
      rw [show (Sum.inl i :: Sum.inr (Sum.inr a) :: r : List ai_V).map (si_v E) = .int i :: si_v E (.inr (.inr a)) :: r.map (si_v E) from rfl, si_v_pos ha]
      have hh := hk _ _ _ _ _ _ _ _ _ _ _ _ _ h S
      exact va_iald hx hb hK hP 0 1 rfl rfl hi hd hh
    · obtain ⟨q1, q2, q3⟩ := hlaw (hF.symm.trans ho)
      rw [S.1.2.2.2.1] at h
      rw [S.1.2.2.2.2] at hi
      have hh := hk _ _ _ _ _ _ _ _ _ _ _ _ _ h S
      exact va_sld hx hb q1 q2 (by show ¬ E.1 < E.2.1; omega) S.2.2.1 hi hd hh
  · exact h.elim
theorem si_s_arraylength (C0 : si_C p R s m args meth c cc E adV nL o ini) (hk : si_ok p l e R s m args below meth c Q E nL k) (hd : decode cc pc = .ok (.arraylength, len)) (hl : len = 1) (hF : F.1 = o) (S : si_S E s R nL H locs cells slots ls lo B I J Rf G) (h : ai_stp t F call post (.arraylength) len pc lo st B I J Rf G k) : W p l e R s m args below meth c H locs cells slots Q (F0 m pc ls (st.map (si_v E))) := by
  obtain ⟨hx, hb, hml, hown, hts, hK, hX, hin, hlaw, hz, hfr, hlo⟩ := C0
  subst hl
  change (match (generalizing := false) st with | .inr (.inr a) :: r => ai_isA F.1 G.1 a ∧ k (pc + 1) lo (.inl (Int32.ofNat (G.2.1 a)) :: r) B I J Rf G | _ => False) at h
  split at h
  · rename_i a r
    obtain ⟨hk1, h⟩ := h
    rcases ai_isA_inv hk1 with hk1 | ⟨ho, rfl⟩
    · have ha := (S.1.2.2.1 a (by omega)).1
      rw [show (Sum.inr (Sum.inr a) :: r : List ai_V).map (si_v E) = si_v E (.inr (.inr a)) :: r.map (si_v E) from rfl, si_v_pos ha]
      rcases (by omega : G.1 a = 12 ∨ G.1 a = 13 ∨ G.1 a = 14 ∨ G.1 a = 15) with hk1 | hk1 | hk1 | hk1
      · have hh := hk _ _ _ _ _ _ _ _ _ _ _ _ _ h S
        exact va_alen hx hb hK (S.1.at1 (by omega) (si_cell12 hk1)) 0 0 rfl rfl rfl hd hh
      · have hh := hk _ _ _ _ _ _ _ _ _ _ _ _ _ h S
        exact va_alen hx hb hK (S.1.at1 (by omega) (si_cell13 hk1)) 0 1 rfl rfl rfl hd hh
      · have hh := hk _ _ _ _ _ _ _ _ _ _ _ _ _ h S
        exact va_alen hx hb hK (S.1.at1 (by omega) (si_cell14 hk1)) 0 2 rfl rfl rfl hd hh
      · have hh := hk _ _ _ _ _ _ _ _ _ _ _ _ _ h S
        exact va_alen hx hb hK (S.1.at1 (by omega) (si_cell15 hk1)) 0 3 rfl rfl rfl hd hh
    · obtain ⟨q1, q2, q3⟩ := hlaw (hF.symm.trans ho)
      rw [S.1.2.2.2.2] at h
      have hh := hk _ _ _ _ _ _ _ _ _ _ _ _ _ h S
      exact va_slen hx hb q1 q2 (by show ¬ E.1 < E.2.1; omega) S.2.2.1 hd hh
  · exact h.elim
theorem si_s_iastore (C0 : si_C p R s m args meth c cc E adV nL o ini) (hk : si_ok p l e R s m args below meth c Q E nL k) (hd : decode cc pc = .ok (.iastore, len)) (hl : len = 1) (S : si_S E s R nL H locs cells slots ls lo B I J Rf G) (h : ai_stp t F call post (.iastore) len pc lo st B I J Rf G k) : W p l e R s m args below meth c H locs cells slots Q (F0 m pc ls (st.map (si_v E))) := by
  obtain ⟨hx, hb, hml, hown, hts, hK, hX, hin, hlaw, hz, hfr, hlo⟩ := C0
  subst hl
  change (match (generalizing := false) st with | .inl x :: .inl i :: .inr (.inr a) :: r => G.1 a = 13 ∧ ai_in i (G.2.1 a) ∧ k (pc + 1) lo r B (va_up I a (va_up (I a) i.toNatClampNeg x)) J Rf G | _ => False) at h
  split at h
  · rename_i x i a r
    obtain ⟨hk1, hi, h⟩ := h
    have ha := (S.1.2.2.1 a (by omega)).1
    have hP := S.1.at1 (by omega) (si_cell13 hk1)
    rw [show (Sum.inl x :: Sum.inl i :: Sum.inr (Sum.inr a) :: r : List ai_V).map (si_v E) = .int x :: .int i :: si_v E (.inr (.inr a)) :: r.map (si_v E) from rfl, si_v_pos ha]
    refine W.iast hx hb (hP 0 _ rfl) ((hK.2 1 _ rfl).1 (G.2.1 a) (fun j => .int (I a j))) (fun q => by cases q) (by show ¬ (i < 0 ∨ (arrV _ _ _).slots.size ≤ _); rw [arrV_size]; exact hi) rfl rfl hd fun H1 e1 z1 oq => ?_
    refine hk _ _ _ _ _ _ _ _ _ _ _ _ _ h ⟨S.1.put (a := a) (by omega) z1 oq ?_ (fun b hb => by simp [va_up, hb]) (fun b hb => by simp [va_up, hb]) (fun b hb => by simp [va_up, hb]), S.2.1, S.2.2.1.put z1 oq (by have := (S.1.2.2.1 a (by omega)).2.1; have := S.1.2.1; show E.1 < si_ad E a; rw [si_ad_lt (by omega)]; omega), S.2.2.2⟩
    rw [si_cell13 hk1]
    show H1[si_ad E a]? = some (vp_cell _ _)
    rw [e1, vp_cell_i, vp_cell_i, arrV_store]
    congr 2
    funext q
    by_cases hq : q = i.toNatClampNeg
    · subst hq
      simp [updV, va_up]
      try rfl
    · simp [updV, va_up, hq]
  · exact h.elim
theorem si_s_bastore (C0 : si_C p R s m args meth c cc E adV nL o ini) (hk : si_ok p l e R s m args below meth c Q E nL k) (hd : decode cc pc = .ok (.bastore, len)) (hl : len = 1) (S : si_S E s R nL H locs cells slots ls lo B I J Rf G) (h : ai_stp t F call post (.bastore) len pc lo st B I J Rf G k) : W p l e R s m args below meth c H locs cells slots Q (F0 m pc ls (st.map (si_v E))) := by
  obtain ⟨hx, hb, hml, hown, hts, hK, hX, hin, hlaw, hz, hfr, hlo⟩ := C0
  subst hl
  change (match (generalizing := false) st with | .inl x :: .inl i :: .inr (.inr a) :: r => G.1 a = 12 ∧ ai_in i (G.2.1 a) ∧ k (pc + 1) lo r B (va_up I a (va_up (I a) i.toNatClampNeg x.toInt8.toInt32)) J Rf G | _ => False) at h
  split at h
  · rename_i x i a r
    obtain ⟨hk1, hi, h⟩ := h
    have ha := (S.1.2.2.1 a (by omega)).1
    have hP := S.1.at1 (by omega) (si_cell12 hk1)
    rw [show (Sum.inl x :: Sum.inl i :: Sum.inr (Sum.inr a) :: r : List ai_V).map (si_v E) = .int x :: .int i :: si_v E (.inr (.inr a)) :: r.map (si_v E) from rfl, si_v_pos ha]
    refine W.bast hx hb (hP 0 _ rfl) ((hK.2 0 _ rfl).1 (G.2.1 a) (fun j => .int (I a j))) (fun q => by cases q) (by show ¬ (i < 0 ∨ (arrV _ _ _).slots.size ≤ _); rw [arrV_size]; exact hi) rfl rfl hd fun H1 e1 z1 oq => ?_
    refine hk _ _ _ _ _ _ _ _ _ _ _ _ _ h ⟨S.1.put (a := a) (by omega) z1 oq ?_ (fun b hb => by simp [va_up, hb]) (fun b hb => by simp [va_up, hb]) (fun b hb => by simp [va_up, hb]), S.2.1, S.2.2.1.put z1 oq (by have := (S.1.2.2.1 a (by omega)).2.1; have := S.1.2.1; show E.1 < si_ad E a; rw [si_ad_lt (by omega)]; omega), S.2.2.2⟩
    rw [si_cell12 hk1]
    show H1[si_ad E a]? = some (vp_cell _ _)
    rw [e1, vp_cell_i, vp_cell_i, arrV_store]
    congr 2
    funext q
    by_cases hq : q = i.toNatClampNeg
    · subst hq
      simp [updV, va_up]
      try rfl
    · simp [updV, va_up, hq]
  · exact h.elim
theorem si_s_lastore (C0 : si_C p R s m args meth c cc E adV nL o ini) (hk : si_ok p l e R s m args below meth c Q E nL k) (hd : decode cc pc = .ok (.lastore, len)) (hl : len = 1) (S : si_S E s R nL H locs cells slots ls lo B I J Rf G) (h : ai_stp t F call post (.lastore) len pc lo st B I J Rf G k) : W p l e R s m args below meth c H locs cells slots Q (F0 m pc ls (st.map (si_v E))) := by
  obtain ⟨hx, hb, hml, hown, hts, hK, hX, hin, hlaw, hz, hfr, hlo⟩ := C0
  subst hl
  change (match (generalizing := false) st with | .inr (.inl x) :: .inl i :: .inr (.inr a) :: r => G.1 a = 14 ∧ ai_in i (G.2.1 a) ∧ k (pc + 1) lo r B I (va_up J a (va_up (J a) i.toNatClampNeg x)) Rf G | _ => False) at h
  split at h
  · rename_i x i a r
    obtain ⟨hk1, hi, h⟩ := h
    have ha := (S.1.2.2.1 a (by omega)).1
    have hP := S.1.at1 (by omega) (si_cell14 hk1)
    rw [show (Sum.inr (Sum.inl x) :: Sum.inl i :: Sum.inr (Sum.inr a) :: r : List ai_V).map (si_v E) = .long x :: .int i :: si_v E (.inr (.inr a)) :: r.map (si_v E) from rfl, si_v_pos ha]
    refine W.last hx hb (hP 0 _ rfl) ((hK.2 2 _ rfl).1 (G.2.1 a) (fun j => .long (J a j))) (fun q => by cases q) (by show ¬ (i < 0 ∨ (arrV _ _ _).slots.size ≤ _); rw [arrV_size]; exact hi) rfl rfl hd fun H1 e1 z1 oq => ?_
    refine hk _ _ _ _ _ _ _ _ _ _ _ _ _ h ⟨S.1.put (a := a) (by omega) z1 oq ?_ (fun b hb => by simp [va_up, hb]) (fun b hb => by simp [va_up, hb]) (fun b hb => by simp [va_up, hb]), S.2.1, S.2.2.1.put z1 oq (by have := (S.1.2.2.1 a (by omega)).2.1; have := S.1.2.1; show E.1 < si_ad E a; rw [si_ad_lt (by omega)]; omega), S.2.2.2⟩
    rw [si_cell14 hk1]
    show H1[si_ad E a]? = some (vp_cell _ _)
    rw [e1, vp_cell_l, vp_cell_l, arrV_store]
    congr 2
    funext q
    by_cases hq : q = i.toNatClampNeg
    · subst hq
      simp [updV, va_up]
      try rfl
    · simp [updV, va_up, hq]
  · exact h.elim
theorem si_s_aastore (C0 : si_C p R s m args meth c cc E adV nL o ini) (hk : si_ok p l e R s m args below meth c Q E nL k) (hd : decode cc pc = .ok (.aastore, len)) (hl : len = 1) (S : si_S E s R nL H locs cells slots ls lo B I J Rf G) (h : ai_stp t F call post (.aastore) len pc lo st B I J Rf G k) : W p l e R s m args below meth c H locs cells slots Q (F0 m pc ls (st.map (si_v E))) := by
  obtain ⟨hx, hb, hml, hown, hts, hK, hX, hin, hlaw, hz, hfr, hlo⟩ := C0
  subst hl
  change (match (generalizing := false) st with | .inr (.inr b) :: .inl i :: .inr (.inr a) :: r => G.1 a = 15 ∧ ai_in i (G.2.1 a) ∧ G.1 b = 8 ∧ k (pc + 1) lo r B I J (va_up Rf a (va_up (Rf a) i.toNatClampNeg b)) G | _ => False) at h
  split at h
  · rename_i v i a r
    obtain ⟨hk1, hi, hk2, h⟩ := h
    have ha := (S.1.2.2.1 a (by omega)).1
    have hv := (S.1.2.2.1 v (by omega)).1
    have hP := S.1.at1 (by omega) (si_cell15 hk1)
    have hPv := S.1.at1 (a := v) (by omega) (si_cellO hk2 (by decide))
    rw [show (Sum.inr (Sum.inr v) :: Sum.inl i :: Sum.inr (Sum.inr a) :: r : List ai_V).map (si_v E) = si_v E (.inr (.inr v)) :: .int i :: si_v E (.inr (.inr a)) :: r.map (si_v E) from rfl, si_v_pos ha, si_v_pos hv]
    have hlt : i.toNatClampNeg < G.2.1 a := Nat.not_le.mp fun q => hi (Or.inr q)
    have h0 : ¬ i < 0 := fun q => hi (Or.inl q)
    obtain ⟨r1, hr1, cellV, g1, g2, g3, -⟩ := hPv 0 _ rfl
    have hcls := (hK.1 8 _ si_cl_8).2
    obtain ⟨kA, comp, k1, k2, k3, -⟩ := (hK.2 3 _ rfl).2
    have hcomp : comp = (si_D E).1 8 := Option.some.inj (k3.symm.trans hcls.1)
    subst hcomp
    obtain ⟨kC, hkC, -⟩ := hcls.2
    refine W.aast hx hb (hP 0 _ rfl) (fun q h => by cases h) (fun h => by cases h) k1 k2 rfl hkC ⟨h0, by show _ < (arrV _ _ _).slots.size; rw [arrV_size]; exact hlt⟩ g1 (fun q h => by rw [g3] at h; cases h) (by rw [g2]; exact hkC) (by rw [g2]; exact va_assign hcls) rfl rfl hd fun H1 e1 z1 oq => ?_
    refine hk _ _ _ _ _ _ _ _ _ _ _ _ _ h ⟨S.1.put (a := a) (by omega) z1 oq ?_ (fun b hb => by simp [va_up, hb]) (fun b hb => by simp [va_up, hb]) (fun b hb => by simp [va_up, hb]), S.2.1, S.2.2.1.put z1 oq (by have := (S.1.2.2.1 a (by omega)).2.1; have := S.1.2.1; show E.1 < si_ad E a; rw [si_ad_lt (by omega)]; omega), S.2.2.2⟩
    rw [si_cell15 hk1]
    show H1[si_ad E a]? = some (vp_cell _ _)
    rw [e1, vp_cell_q, vp_cell_q, arrV_store]
    congr 2
    funext q
    by_cases hq : q = i.toNatClampNeg
    · subst hq
      simp [updV, va_up, si_o_pos hv, va_rf]
    · simp [updV, va_up, hq]
  · exact h.elim
end
end
section
/-! Fields and new cells: their rows. What the tables say, out of the checks of part 03b. -/
theorem si_good {w : Cond} (h : w ∈ lw_tbl) (g : goodWord w = true) : w ∈ si_aTs := List.mem_filter.mpr ⟨h, g⟩
theorem si_at_mem {q : Nat} {w : Cond} (h : lw_tbl[q]? = some w) : w ∈ lw_tbl := List.mem_of_getElem? h
theorem si_fchk_spec {o : Nat} : ∀ {l : List (Nat × Nat × Nat × Nat × Bool)} {ps : List Nat}, si_fchk o l ps = true → ∀ (ix : Nat) (v : Nat × Nat × Nat × Bool), ai_lkp l ix = some v →
    Cond.fieldLink (si_RS o) ix (si_RS v.1) (si_T v.1 v.2.1).2.1 (si_T v.1 v.2.1).2.2.1 ∈ lw_tbl ∧ v.1 < 11 ∧ v.2.1 < si_N v.1 ∧ (si_T v.1 v.2.1).1 = si_RS v.1 ∧ (si_T v.1 v.2.1).2.2.2 = v.2.2.2 ∧ si_ty v.1 v.2.1 = v.2.2.1
  | [], _, _, ix, v, h => by cases h
  | r :: l, [], hc, ix, v, h => by cases hc
  | r :: l, q :: ps, hc, ix, v, h => by
    unfold si_fchk at hc
    simp only [Bool.and_eq_true, decide_eq_true_eq] at hc
    obtain ⟨h1, h2, h3⟩ := hc
    unfold ai_lkp at h
    by_cases e : r.1 = ix
    · rw [if_pos e] at h
      cases h
      rw [← e]
      exact ⟨si_at_mem h1, h2⟩
    · rw [if_neg e] at h
      exact si_fchk_spec h3 ix v h
theorem si_fd_all (o : Nat) : si_fchk o (si_fd o) (si_fdp o) = true := by
  by_cases h0 : o = 0
  · subst h0
    exact si_fk_0
  by_cases h1 : o = 1
  · subst h1
    exact si_fk_1
  by_cases h2 : o = 2
  · subst h2
    exact si_fk_2
  by_cases h3 : o = 3
  · subst h3
    exact si_fk_3
  by_cases h4 : o = 4
  · subst h4
    exact si_fk_4
  by_cases h5 : o = 5
  · subst h5
    exact si_fk_5
  by_cases h6 : o = 6
  · subst h6
    exact si_fk_6
  by_cases h7 : o = 7
  · subst h7
    exact si_fk_7
  by_cases h8 : o = 8
  · subst h8
    exact si_fk_8
  by_cases h9 : o = 9
  · subst h9
    exact si_fk_9
  by_cases h10 : o = 10
  · subst h10
    exact si_fk_10
  by_cases h20 : o = 20
  · subst h20
    exact si_fk_20
  have e : si_fd o = [] := by
    unfold si_fd
    split <;> first | contradiction | rfl
  rw [e]
  rfl
theorem si_fld {o ix c j ty : Nat} {fin : Bool} (h : ai_fld si_t o ix = (c, j, ty, fin)) (hc : c < 11) :
    Cond.fieldLink (si_RS o) ix (si_RS c) (si_T c j).2.1 (si_T c j).2.2.1 ∈ si_aTs ∧ j < si_N c ∧ (si_T c j).1 = si_RS c ∧ (si_T c j).2.2.2 = fin ∧ si_ty c j = ty := by
  change (ai_lkp (si_fd o) ix).getD (99, 0, 9, false) = _ at h
  cases hl : ai_lkp (si_fd o) ix with
  | none =>
    rw [hl] at h
    cases h
    omega
  | some v =>
    rw [hl] at h
    change v = _ at h
    subst h
    obtain ⟨h1, -, h3⟩ := si_fchk_spec (si_fd_all o) ix _ hl
    exact ⟨si_good h1 rfl, h3⟩
theorem si_gchk1_spec {k : Nat} : ∀ {ps : List Nat} {j : Nat}, si_gchk1 k j ps = true → ∀ i : Nat, j ≤ i → i < si_N k → u_lay (si_RS k) (si_T k) i ∈ lw_tbl ∧ parseFieldDescriptor (si_T k i).2.2.1 = some (si_ft k i) ∧ si_code (si_ft k i) = si_ty k i ∧ si_ty k i ≤ 3
  | [], j, h, i, h1, h2 => by
    unfold si_gchk1 at h
    simp only [decide_eq_true_eq] at h
    omega
  | q :: ps, j, h, i, h1, h2 => by
    unfold si_gchk1 at h
    simp only [Bool.and_eq_true, decide_eq_true_eq] at h
    obtain ⟨⟨g1, g2⟩, g3⟩ := h
    by_cases e : i = j
    · subst e
      exact ⟨si_at_mem g1, g2⟩
    · exact si_gchk1_spec g3 i (by omega) h2
theorem si_gk_all {k : Nat} (h : k < 11) : si_gchk k = true := by
  match k, h with
  | 0, _ => exact si_gk_0
  | 1, _ => exact si_gk_1
  | 2, _ => exact si_gk_2
  | 3, _ => exact si_gk_3
  | 4, _ => exact si_gk_4
  | 5, _ => exact si_gk_5
  | 6, _ => exact si_gk_6
  | 7, _ => exact si_gk_7
  | 8, _ => exact si_gk_8
  | 9, _ => exact si_gk_9
  | 10, _ => exact si_gk_10
theorem si_cl_all {k : Nat} (h : k < 11) : si_cl[k]? = some (si_RS k, si_T k, si_N k) := by
  match k, h with
  | 0, _ => exact si_cl_0
  | 1, _ => exact si_cl_1
  | 2, _ => exact si_cl_2
  | 3, _ => exact si_cl_3
  | 4, _ => exact si_cl_4
  | 5, _ => exact si_cl_5
  | 6, _ => exact si_cl_6
  | 7, _ => exact si_cl_7
  | 8, _ => exact si_cl_8
  | 9, _ => exact si_cl_9
  | 10, _ => exact si_cl_10
theorem si_lay_good (C : String) (T : u_T) (k : Nat) : goodWord (u_lay C T k) = true := by
  unfold u_lay
  split <;> rfl
/-- a class: its fields are laid, of their types, with names of their own; it can be made -/
theorem si_cls {k : Nat} (h : k < 11) : (∀ w ∈ u_ws (si_RS k) (si_T k) (si_N k), w ∈ si_aTs) ∧ (∀ i, i < si_N k → parseFieldDescriptor (si_T k i).2.2.1 = some (si_ft k i)) ∧ (∀ i, i < si_N k → si_code (si_ft k i) = si_ty k i ∧ si_ty k i ≤ 3) ∧
    (∀ x, x < si_N k → ∀ y, y < si_N k → x ≠ y → (si_T k x).2.1 ≠ (si_T k y).2.1) ∧ Cond.instantiable (si_RS k) (si_N k) ∈ si_aTs ∧ Cond.initialized (si_RS k) ∈ si_aTs := by
  have g := si_gk_all h
  unfold si_gchk at g
  simp only [Bool.and_eq_true, decide_eq_true_eq, List.all_eq_true, List.mem_range] at g
  obtain ⟨g1, ⟨g2, g3⟩, g4⟩ := g
  refine ⟨fun w hw => ?_, fun i hi => (si_gchk1_spec g1 i (Nat.zero_le _) hi).2.1, fun i hi => (si_gchk1_spec g1 i (Nat.zero_le _) hi).2.2, fun x hx y hy hne => ?_, si_good (si_at_mem g2) rfl, si_good (si_at_mem g3) rfl⟩
  · unfold u_ws at hw
    obtain ⟨i, hi, rfl⟩ := List.mem_map.mp hw
    exact si_good (si_gchk1_spec g1 i (Nat.zero_le _) (List.mem_range.mp hi)).1 (si_lay_good _ _ _)
  · rcases g4 x hx y hy with e | e
    · exact absurd e hne
    · exact e
/-- the fields of a cell, by place -/
theorem si_fs_get {E : si_E} {k : Nat} {i : Nat → Int32} {j : Nat → Int64} {r : Nat → Nat} {q : Nat} (h : q < si_N k) : (si_fs E k i j r)[q]? = some (si_fv E (si_ty k q) (i q) (j q) (r q)) := by
  unfold si_fs
  rw [List.getElem?_map, List.getElem?_range h]
  rfl
theorem si_fs_V {E : si_E} {k : Nat} {i : Nat → Int32} {j : Nat → Int64} {r : Nat → Nat} {q : Nat} (h : q < si_N k) : vp_V (si_fs E k i j r) q = si_fv E (si_ty k q) (i q) (j q) (r q) := by
  unfold vp_V
  rw [List.getD_eq_getElem?_getD, si_fs_get h]
  rfl
def si_av (ty : Nat) (i : Int32) (j : Int64) (r : Nat) : ai_V := match ty with
  | 1 => .inr (.inl j)
  | 2 => .inr (.inr r)
  | _ => .inl i
theorem si_av_v {E : si_E} {ty : Nat} {i : Int32} {j : Int64} {r : Nat} : si_v E (si_av ty i j r) = si_fv E ty i j r := by
  cases ty with
  | zero => rfl
  | succ n =>
    cases n with
    | zero => rfl
    | succ n2 => cases n2 <;> rfl
theorem ai_get_inv {t : ai_T} {F : ai_F} {ix pc : Nat} {lo : List (Option ai_V)} {st : List ai_V} {B : Nat × Nat} {I : ai_I} {J : ai_J} {Rf : ai_R} {G : ai_G} {k : ai_K} (h : ai_get t F ix pc lo st B I J Rf G k) :
    ∃ (c j ty : Nat) (fin : Bool) (a : Nat) (r : List ai_V), ai_fld t F.1 ix = (c, j, ty, fin) ∧ st = .inr (.inr a) :: r ∧ G.1 a = c ∧ k (pc + 3) lo (si_av ty (I a j) (J a j) (Rf a j) :: r) B I J Rf G := by
  unfold ai_get at h
  split at h
  · rename_i c j ty fin a r hf
    refine ⟨c, j, ty, fin, a, r, hf, rfl, h.1, ?_⟩
    have h2 := h.2
    cases ty with
    | zero => exact h2
    | succ n =>
      cases n with
      | zero => exact h2
      | succ n2 =>
        cases n2 with
        | zero => exact h2
        | succ n3 => exact h2
  · exact h.elim
section
variable {p : Program} {l : Launch} {e : Env} {R : Room} {s : State} {m : MethodId} {args : Array Value} {below : List Frame} {meth : Method} {c : Code} {Q : State → Prop} {cc : ByteArray} {E : si_E} {adV : Nat → Nat} {nL o : Nat} {ini : Bool}
variable {F : ai_F} {call : ai_C} {post : ai_Q} {k : ai_K} {len pc : Nat} {lo : List (Option ai_V)} {st : List ai_V} {B : Nat × Nat} {I : ai_I} {J : ai_J} {Rf : ai_R} {G : ai_G} {H : Heap} {locs : List Loc} {cells slots : Nat} {ls : Array Slot}
theorem si_s_getfield {ix : Nat} (C0 : si_C p R s m args meth c cc E adV nL o ini) (hk : si_ok p l e R s m args below meth c Q E nL k) (hd : decode cc pc = .ok (.getfield ix, len)) (hl : len = 3) (hF : F.1 = o) (hck : (ai_fld si_t o ix).1 < 11) (S : si_S E s R nL H locs cells slots ls lo B I J Rf G)
    (h : ai_stp si_t F call post (.getfield ix) len pc lo st B I J Rf G k) : W p l e R s m args below meth c H locs cells slots Q (F0 m pc ls (st.map (si_v E))) := by
  obtain ⟨hx, hb, hml, hown, hts, hK, hX, hin, hlaw, hz, hfr, hlo⟩ := C0
  subst hl
  obtain ⟨q, j, ty, fin, a, r, hf, rfl, hk1, h⟩ := ai_get_inv h
  rw [hF] at hf
  rw [hf] at hck
  have hck : q < 11 := hck
  obtain ⟨f1, f2, f3, f4, f5⟩ := si_fld hf hck
  obtain ⟨c1, c2, c3, c4, c5, c6⟩ := si_cls hck
  have ha := (S.1.2.2.1 a (by omega)).1
  have hP := S.1.at1 (by omega) (si_cellO hk1 (Nat.lt_succ_of_lt hck))
  rw [show (Sum.inr (Sum.inr a) :: r : List ai_V).map (si_v E) = si_v E (.inr (.inr a)) :: r.map (si_v E) from rfl, si_v_pos ha]
  have hh := hk _ _ _ _ _ _ _ _ _ _ _ _ _ h S
  rw [show (si_av ty (I a j) (J a j) (Rf a j) :: r : List ai_V).map (si_v E) = si_v E (si_av ty (I a j) (J a j) (Rf a j)) :: r.map (si_v E) from rfl, si_av_v, ← f5] at hh
  exact va_get hx hb hts c1 hown hK hP 0 rfl (si_cl_all hck) j f2 (hts _ f1) (fun x hx2 => by rw [f3] at hx2; exact hx2) (si_fs_get f2) hd hh
/-- a field is written: the heap's sizes are kept -/
theorem si_putf {ix q j a : Nat} {rest : List Value} {v : Value} (C0 : si_C p R s m args meth c cc E adV nL o ini) (hd : decode cc pc = .ok (.putfield ix, 3)) (hq : q < 11) {fin : Bool} {ty : Nat} (hf : ai_fld si_t o ix = (q, j, ty, fin)) (hfin : fin = true → ini = true ∧ o = q)
    {fs : List Value} (hP : va_P (si_D E) si_cl [(a, .inr (q, fs))] H) (hn : narrow (si_ft q j) v = v) (hfit : fits (si_ft q j) v = true)
    (kk : ∀ H1 : Heap, H1.size = H.size → (∀ b : Nat, b ≠ a → H1[b]? = H[b]?) → t_OB a ((si_D E).1 q) (si_N q) ((si_D E).2 q) H1 (updV (vp_V fs) j v) → ∀ sl : Nat, W p l e R s m args below meth c H1 (locs ++ [⟨a, sl⟩]) cells slots Q (F0 m (pc + 3) ls rest)) :
    W p l e R s m args below meth c H locs cells slots Q (F0 m pc ls (v :: .ref a :: rest)) := by
  obtain ⟨hx, hb, hml, hown, hts, hK, hX, hin, hlaw, hz, hfr, hlo⟩ := C0
  obtain ⟨f1, f2, f3, f4, f5⟩ := si_fld hf hq
  obtain ⟨c1, c2, c3, c4, c5, c6⟩ := si_cls hq
  have hc := si_cl_all hq
  have hap := va_apart (own := si_RS q) hts c1 (si_ft q) c2 c4 hK hc
  obtain ⟨r, h1, cell, q1, q2, q3, q4⟩ := hP 0 _ rfl
  have hr : r = (si_RS q, si_T q, si_N q) := Option.some.inj (h1.symm.trans hc)
  subst hr
  obtain ⟨hS, hfc, kC, hkC, hkind⟩ := hK.1 q _ hc
  obtain ⟨cf, kf, fi, f, hi, hsl⟩ := hS j f2
  have hi2 : s.fieldFound? (si_RS q) (si_T q j).2.1 (si_T q j).2.2.1 = some (cf, kf, fi, f) := by rw [← f3]; exact hi
  have hlay := hts _ (c1 _ (u_in_lay f2))
  have hlays := u_lays hts c1 f2
  have hst := (u_facts hfc hkC hlays hi).1
  unfold u_lay at hlay
  cases fin with
  | false =>
    rw [if_neg (by rw [f4]; decide)] at hlay
    have h6 := u_store hfc hkC hkind hlay hi (c2 j f2) hn hfit
    refine W.putK hx hb (f := f) ⟨hown, hts _ f1, ⟨_, _, _, hi2⟩, hst⟩ (by rw [q2]; exact h6) q1 q3 (by rw [hsl]; exact k2_hasslot (q4 j f2)) rfl rfl hd fun H' e1 e2 e3 => ?_
    rw [hsl] at e1
    exact kk H' e2 e3 ⟨_, e1, q2, q3, t_set q4 hap f2 v⟩ _
  | true =>
    rw [if_pos f4] at hlay
    obtain ⟨g1, g2⟩ := hfin rfl
    have hcf : m.cls = cf := by
      obtain ⟨_, _, c', _, _, _, -, -, hf', -, -, -, hown2, -⟩ := Cond.laysFinal_spec hlay
      have e1 : c' = cf := by have := hi.symm.trans hf'; simp at this; exact this.1.symm
      rw [f3, ← g2] at hown2
      rw [← e1]; exact Option.some.inj (hown.symm.trans hown2)
    have h6 := u_fits hfc hkC hkind hlays hi (c2 j f2) hn hfit
    refine W.putFinK hx hb hown (hts _ f1) hi2 hst hcf (hin g1) (by rw [q2]; exact h6) q1 q3 (by rw [hsl]; exact k2_hasslot (q4 j f2)) rfl rfl hd fun H' e1 e2 e3 => ?_
    rw [hsl] at e1
    exact kk H' e2 e3 ⟨_, e1, q2, q3, t_set q4 hap f2 v⟩ _
theorem ai_sto_inv {ix : Nat} (h : ai_sto si_t F ix pc lo st B I J Rf G k) : ∃ (q j ty : Nat) (fin : Bool) (v : ai_V) (a : Nat) (r : List ai_V), ai_fld si_t F.1 ix = (q, j, ty, fin) ∧ st = v :: .inr (.inr a) :: r ∧ (fin = true → F.2.1 = true ∧ F.1 = q) ∧ G.1 a = q ∧
    ((∃ x, v = .inl x ∧ ty = 0 ∧ k (pc + 3) lo r B (va_up I a (va_up (I a) j x)) J Rf G) ∨ (∃ x, v = .inl x ∧ ty = 3 ∧ narrow .boolean (.int x) = .int x ∧ k (pc + 3) lo r B (va_up I a (va_up (I a) j x)) J Rf G) ∨
      (∃ x, v = .inr (.inl x) ∧ ty = 1 ∧ k (pc + 3) lo r B I (va_up J a (va_up (J a) j x)) Rf G) ∨ (∃ b, v = .inr (.inr b) ∧ ty = 2 ∧ k (pc + 3) lo r B I J (va_up Rf a (va_up (Rf a) j b)) G)) := by
  unfold ai_sto at h
  split at h
  · rename_i q j ty fin v a r hf
    refine ⟨q, j, ty, fin, v, a, r, hf, rfl, h.1, h.2.1, ?_⟩
    have h2 := h.2.2
    split at h2
    · exact Or.inr (Or.inr (Or.inl ⟨_, rfl, rfl, h2⟩))
    · exact Or.inr (Or.inr (Or.inr ⟨_, rfl, rfl, h2⟩))
    · exact Or.inl ⟨_, rfl, rfl, h2⟩
    · exact Or.inr (Or.inl ⟨_, rfl, rfl, h2.1, h2.2⟩)
    · exact h2.elim
  · exact h.elim
theorem si_code_0 {f : FieldType} (h : si_code f = 0) : f = .int := by
  cases f <;> first | rfl | (exact absurd h (by decide)) | (simp [si_code] at h)
theorem si_code_1 {f : FieldType} (h : si_code f = 1) : f = .long := by
  cases f <;> first | rfl | (exact absurd h (by decide)) | (simp [si_code] at h)
theorem si_code_3 {f : FieldType} (h : si_code f = 3) : f = .boolean := by
  cases f <;> first | rfl | (exact absurd h (by decide)) | (simp [si_code] at h)
theorem si_code_2 {f : FieldType} (h : si_code f = 2) : (∃ n, f = .object n) ∨ ∃ g, f = .array g := by
  cases f <;> first | (exact Or.inl ⟨_, rfl⟩) | (exact Or.inr ⟨_, rfl⟩) | (exact absurd h (by decide)) | (simp [si_code] at h)
theorem si_bool_fit {x : Int32} (h : narrow .boolean (.int x) = .int x) : fits .boolean (.int x) = true := by
  have h1 : x &&& 1 = x := by
    have : Value.int (x &&& 1) = Value.int x := h
    exact Value.int.inj this
  obtain ⟨j, hj, e2⟩ := pk_andE x (m := 1) 1 (by decide)
  rw [h1] at e2
  subst e2
  rcases (by omega : j = 0 ∨ j = 1) with rfl | rfl
  · rfl
  · rfl
theorem si_put_done {a q j : Nat} {H1 : Heap} {I1 : ai_I} {J1 : ai_J} {R1 : ai_R} {v : Value} {sl : Nat} (S : si_S E s R nL H locs cells slots ls lo B I J Rf G) (hk1 : G.1 a = q) (hq : q < 11) (z1 : H1.size = H.size) (oq : ∀ b : Nat, b ≠ si_ad E a → H1[b]? = H[b]?)
    (hO : t_OB (si_ad E a) ((si_D E).1 q) (si_N q) ((si_D E).2 q) H1 (updV (vp_V (si_fs E q (I a) (J a) (Rf a))) j v))
    (hI : ∀ b : Nat, b ≠ a → I1 b = I b) (hJ : ∀ b : Nat, b ≠ a → J1 b = J b) (hR : ∀ b : Nat, b ≠ a → R1 b = Rf b)
    (hj : v = si_fv E (si_ty q j) (I1 a j) (J1 a j) (R1 a j)) (hn : ∀ i, i ≠ j → I1 a i = I a i ∧ J1 a i = J a i ∧ R1 a i = Rf a i) : si_S E s R nL H1 (locs ++ [⟨si_ad E a, sl⟩]) cells slots ls lo B I1 J1 R1 G := by
  have ha := S.1.2.2.1 a (by omega)
  refine ⟨S.1.put (a := a) (by omega) z1 oq ?_ hI hJ hR, S.2.1, S.2.2.1.put z1 oq (by have := S.1.2.1; show E.1 < si_ad E a; rw [si_ad_lt (by omega)]; omega), S.2.2.2⟩
  rw [si_cellO hk1 (Nat.lt_succ_of_lt hq)]
  refine ⟨_, si_cl_all hq, hO.to (fun i hi => ?_)⟩
  rw [si_fs_V hi]
  by_cases e : i = j
  · subst e
    rw [← hj]
    simp [updV]
  · obtain ⟨n1, n2, n3⟩ := hn i e
    rw [n1, n2, n3]
    simp only [updV, if_neg e]
    exact si_fs_V hi
theorem si_s_putfield {ix : Nat} (C0 : si_C p R s m args meth c cc E adV nL o ini) (hk : si_ok p l e R s m args below meth c Q E nL k) (hd : decode cc pc = .ok (.putfield ix, len)) (hl : len = 3) (hF : F.1 = o) (hF2 : F.2.1 = ini) (hck : (ai_fld si_t o ix).1 < 11) (S : si_S E s R nL H locs cells slots ls lo B I J Rf G)
    (h : ai_stp si_t F call post (.putfield ix) len pc lo st B I J Rf G k) : W p l e R s m args below meth c H locs cells slots Q (F0 m pc ls (st.map (si_v E))) := by
  subst hl
  obtain ⟨q, j, ty, fin, v, a, r, hf, rfl, hfin, hk1, h⟩ := ai_sto_inv h
  rw [hF] at hf
  rw [hf] at hck
  have hck : q < 11 := hck
  obtain ⟨f1, f2, f3, f4, f5⟩ := si_fld hf hck
  obtain ⟨c1, c2, c3, c4, c5, c6⟩ := si_cls hck
  have c3 := (c3 j f2).1
  rw [f5] at c3
  have ha := (S.1.2.2.1 a (by omega)).1
  have hP := S.1.at1 (by omega) (si_cellO hk1 (Nat.lt_succ_of_lt hck))
  rw [show (v :: Sum.inr (Sum.inr a) :: r : List ai_V).map (si_v E) = si_v E v :: si_v E (.inr (.inr a)) :: r.map (si_v E) from rfl, si_v_pos ha]
  have hfin : fin = true → ini = true ∧ o = q := fun z => by rw [← hF, ← hF2]; exact hfin z
  rcases h with ⟨x, rfl, rfl, h⟩ | ⟨x, rfl, rfl, hb1, h⟩ | ⟨x, rfl, rfl, h⟩ | ⟨b, rfl, rfl, h⟩
  · have c3 := si_code_0 c3
    refine si_putf C0 hd hck hf hfin hP (by rw [c3]; rfl) (by rw [c3]; rfl) (fun H1 z1 oq hO sl => hk _ _ _ _ _ _ _ _ _ _ _ _ _ h (si_put_done S hk1 hck z1 oq hO (fun b hb => by simp [va_up, hb]) (fun b hb => rfl) (fun b hb => rfl) ?_ (fun i hi => ⟨by simp [va_up, hi], rfl, rfl⟩)))
    rw [f5]
    show Value.int x = Value.int _
    simp [va_up]
  · have c3 := si_code_3 c3
    refine si_putf C0 hd hck hf hfin hP (by rw [c3]; exact hb1) (by rw [c3]; exact si_bool_fit hb1) (fun H1 z1 oq hO sl => hk _ _ _ _ _ _ _ _ _ _ _ _ _ h (si_put_done S hk1 hck z1 oq hO (fun b hb => by simp [va_up, hb]) (fun b hb => rfl) (fun b hb => rfl) ?_ (fun i hi => ⟨by simp [va_up, hi], rfl, rfl⟩)))
    rw [f5]
    show Value.int x = Value.int _
    simp [va_up]
  · have c3 := si_code_1 c3
    refine si_putf C0 hd hck hf hfin hP (by rw [c3]; rfl) (by rw [c3]; rfl) (fun H1 z1 oq hO sl => hk _ _ _ _ _ _ _ _ _ _ _ _ _ h (si_put_done S hk1 hck z1 oq hO (fun b hb => rfl) (fun b hb => by simp [va_up, hb]) (fun b hb => rfl) ?_ (fun i hi => ⟨rfl, by simp [va_up, hi], rfl⟩)))
    rw [f5]
    show Value.long x = Value.long _
    simp [va_up]
  · have c3 := si_code_2 c3
    have hn : narrow (si_ft q j) (si_v E (.inr (.inr b))) = si_v E (.inr (.inr b)) := by
      rcases c3 with ⟨n, e⟩ | ⟨g, e⟩ <;> rw [e] <;> cases b <;> rfl
    have hft : fits (si_ft q j) (si_v E (.inr (.inr b))) = true := by
      rcases c3 with ⟨n, e⟩ | ⟨g, e⟩ <;> rw [e] <;> cases b <;> rfl
    refine si_putf C0 hd hck hf hfin hP hn hft (fun H1 z1 oq hO sl => hk _ _ _ _ _ _ _ _ _ _ _ _ _ h (si_put_done S hk1 hck z1 oq hO (fun b hb => rfl) (fun b hb => rfl) (fun b hb => by simp [va_up, hb]) ?_ (fun i hi => ⟨rfl, rfl, by simp [va_up, hi]⟩)))
    rw [f5]
    show va_rf (si_o E b) = va_rf (si_o E _)
    simp [va_up]
end
end
section
/-! New cells: their rows. -/
theorem si_nchk_spec {o : Nat} : ∀ {l : List (Nat × Nat)} {ps : List Nat}, si_nchk o l ps = true → ∀ (ix v : Nat), ai_lkp l ix = some v → Cond.classLink (si_RS o) ix (si_RS v) ∈ lw_tbl ∧ v < 11
  | [], _, _, ix, v, h => by cases h
  | r :: l, [], hc, ix, v, h => by cases hc
  | r :: l, q :: ps, hc, ix, v, h => by
    unfold si_nchk at hc
    simp only [Bool.and_eq_true, decide_eq_true_eq] at hc
    obtain ⟨⟨h1, h2⟩, h3⟩ := hc
    unfold ai_lkp at h
    by_cases e : r.1 = ix
    · rw [if_pos e] at h
      cases h
      rw [← e]
      exact ⟨si_at_mem h1, h2⟩
    · rw [if_neg e] at h
      exact si_nchk_spec h3 ix v h
theorem si_kt_all (o : Nat) : si_nchk o (si_kt o) (si_ktp o) = true := by
  by_cases h3 : o = 3
  · subst h3
    exact si_nk_3
  by_cases h6 : o = 6
  · subst h6
    exact si_nk_6
  by_cases h10 : o = 10
  · subst h10
    exact si_nk_10
  by_cases h21 : o = 21
  · subst h21
    exact si_nk_21
  by_cases h23 : o = 23
  · subst h23
    exact si_nk_23
  have e : si_kt o = [] := by
    unfold si_kt
    split <;> first | contradiction | rfl
  rw [e]
  rfl
theorem si_new {o ix q : Nat} (h : ai_cls si_t o ix = q) (hq : q < 11) : Cond.classLink (si_RS o) ix (si_RS q) ∈ si_aTs := by
  change (ai_lkp (si_kt o) ix).getD 99 = q at h
  cases hl : ai_lkp (si_kt o) ix with
  | none =>
    rw [hl] at h
    change 99 = q at h
    omega
  | some v =>
    rw [hl] at h
    change v = q at h
    subst h
    exact si_good (si_nchk_spec (si_kt_all o) ix _ hl).1 rfl
theorem si_dflt {E : si_E} {q i : Nat} (hq : q < 11) (hi : i < si_N q) : defaultValue (si_ft q i) = si_fv E (si_ty q i) 0 0 0 := by
  obtain ⟨c1, c2, c3, c4, c5, c6⟩ := si_cls hq
  obtain ⟨h1, h2⟩ := c3 i hi
  rcases (by omega : si_ty q i = 0 ∨ si_ty q i = 1 ∨ si_ty q i = 2 ∨ si_ty q i = 3) with e | e | e | e <;> rw [e] at h1 ⊢
  · rw [si_code_0 h1]
    rfl
  · rw [si_code_1 h1]
    rfl
  · rcases si_code_2 h1 with ⟨n, e2⟩ | ⟨g, e2⟩ <;> rw [e2] <;> rfl
  · rw [si_code_3 h1]
    rfl
section
variable {p : Program} {l : Launch} {e : Env} {R : Room} {s : State} {m : MethodId} {args : Array Value} {below : List Frame} {meth : Method} {c : Code} {Q : State → Prop} {cc : ByteArray} {E : si_E} {adV : Nat → Nat} {nL o : Nat} {ini : Bool}
variable {F : ai_F} {call : ai_C} {post : ai_Q} {k : ai_K} {len pc : Nat} {lo : List (Option ai_V)} {st : List ai_V} {B : Nat × Nat} {I : ai_I} {J : ai_J} {Rf : ai_R} {G : ai_G} {H : Heap} {locs : List Loc} {cells slots : Nat} {ls : Array Slot}
/-- what a new cell leaves of the state -/
theorem si_S_new {K LN : Nat → Nat} {H1 : Heap} {I1 : ai_I} {J1 : ai_J} {R1 : ai_R} {n : Nat} (S : si_S E s R nL H locs cells slots ls lo B I J Rf G) (hB : 1 ≤ B.1) (hn : n ≤ B.2) (hz : E.1 < s.heap.size) (h9 : G.2.2 < 900) (z1 : H1.size = si_ad E (G.2.2 + 1) + 1) (oq : ∀ q : Nat, q < si_ad E (G.2.2 + 1) → H1[q]? = H[q]?)
    (hK : ∀ b : Nat, b ≠ G.2.2 + 1 → K b = G.1 b) (hL : ∀ b : Nat, b ≠ G.2.2 + 1 → LN b = G.2.1 b)
    (hat : va_at (si_D E) si_cl (si_ad E (G.2.2 + 1), si_cell E I1 J1 R1 (K, LN, G.2.2 + 1) (G.2.2 + 1)) H1) (hI : ∀ b : Nat, b ≠ G.2.2 + 1 → I1 b = I b) (hJ : ∀ b : Nat, b ≠ G.2.2 + 1 → J1 b = J b) (hR : ∀ b : Nat, b ≠ G.2.2 + 1 → R1 b = Rf b) :
    si_S E s R nL H1 locs (cells + 1) (slots + n) ls lo (B.1 - 1, B.2 - n) I1 J1 R1 (K, LN, G.2.2 + 1) := by
  have hh : H.size = si_ad E (G.2.2 + 1) := by rw [S.1.1, si_ad_lt (by omega)]; omega
  refine ⟨S.1.new h9 (by rw [z1, hh]) (by rw [hh]; exact oq) hK hL hat hI hJ hR, S.2.1, ?_, by have := S.2.2.2.1; show cells + 1 + (B.1 - 1) ≤ _; omega, by have := S.2.2.2.2; show slots + n + (B.2 - n) ≤ _; omega⟩
  obtain ⟨s1, s2, s3⟩ := S.2.2.1
  exact ⟨by rw [z1, ← hh]; omega, fun q h1 h2 => (oq q (by rw [← hh]; omega)).trans (s2 q h1 h2), s3⟩
theorem si_s_new {ix : Nat} (C0 : si_C p R s m args meth c cc E adV nL o ini) (hk : si_ok p l e R s m args below meth c Q E nL k) (hd : decode cc pc = .ok (.new ix, len)) (hl : len = 3) (hF : F.1 = o) (hck : ai_cls si_t o ix < 11) (S : si_S E s R nL H locs cells slots ls lo B I J Rf G)
    (h : ai_stp si_t F call post (.new ix) len pc lo st B I J Rf G k) : W p l e R s m args below meth c H locs cells slots Q (F0 m pc ls (st.map (si_v E))) := by
  obtain ⟨hx, hb, hml, hown, hts, hK, hX, hin, hlaw, hz, hfr, hlo⟩ := C0
  subst hl
  change 1 ≤ B.1 ∧ ai_nfd si_t (ai_cls si_t F.1 ix) ≤ B.2 ∧ G.2.2 < 900 ∧ k (pc + 3) lo (.inr (.inr (G.2.2 + 1)) :: st) (B.1 - 1, B.2 - ai_nfd si_t (ai_cls si_t F.1 ix)) (va_up I (G.2.2 + 1) (fun _ => 0)) (va_up J (G.2.2 + 1) (fun _ => 0)) (va_up Rf (G.2.2 + 1) (fun _ => 0)) (va_up G.1 (G.2.2 + 1) (ai_cls si_t F.1 ix), G.2.1, G.2.2 + 1) at h
  rw [hF] at h
  generalize hq : ai_cls si_t o ix = q at h hck
  change 1 ≤ B.1 ∧ si_N q ≤ B.2 ∧ G.2.2 < 900 ∧ k (pc + 3) lo (.inr (.inr (G.2.2 + 1)) :: st) (B.1 - 1, B.2 - si_N q) (va_up I (G.2.2 + 1) (fun _ => 0)) (va_up J (G.2.2 + 1) (fun _ => 0)) (va_up Rf (G.2.2 + 1) (fun _ => 0)) (va_up G.1 (G.2.2 + 1) q, G.2.1, G.2.2 + 1) at h
  obtain ⟨h1, h2, h9, h⟩ := h
  obtain ⟨c1, c2, c3, c4, c5, c6⟩ := si_cls hck
  have hh : H.size = si_ad E (G.2.2 + 1) := by rw [S.1.1, si_ad_lt (by omega)]; omega
  have hKn := hK.1 q _ (si_cl_all hck)
  refine W.newcK hx hb hown (hts _ (si_new hq hck)) (hts _ c5) (hts _ c6) rfl hd (by have := S.2.2.2.1; omega) (by have := S.2.2.2.2; omega) hKn.2.1 hh fun H1 kC hkC e1 z1 o1 => ?_
  refine hk _ _ _ _ _ _ _ _ _ _ _ _ _ h (si_S_new S h1 h2 hz h9 z1 o1 (fun b hb => by simp [va_up, hb]) (fun b hb => rfl) ?_ (fun b hb => by simp [va_up, hb]) (fun b hb => by simp [va_up, hb]) (fun b hb => by simp [va_up, hb]))
  rw [si_cellO (c := q) (by simp [va_up]) (Nat.lt_succ_of_lt hck)]
  refine ⟨_, si_cl_all hck, (u_born (si_ft q) hts c1 hKn hkC e1 c2).to (fun i hi => ?_)⟩
  rw [si_fs_V hi, si_dflt (E := E) hck hi]
  simp [va_up]
theorem si_s_newarray {ty : ArrayType} (C0 : si_C p R s m args meth c cc E adV nL o ini) (hk : si_ok p l e R s m args below meth c Q E nL k) (hd : decode cc pc = .ok (.newarray ty, len)) (hl : len = 2) (S : si_S E s R nL H locs cells slots ls lo B I J Rf G)
    (h : ai_stp si_t F call post (.newarray ty) len pc lo st B I J Rf G k) : W p l e R s m args below meth c H locs cells slots Q (F0 m pc ls (st.map (si_v E))) := by
  obtain ⟨hx, hb, hml, hown, hts, hK, hX, hin, hlaw, hz, hfr, hlo⟩ := C0
  subst hl
  change (match (generalizing := false) st with
    | .inl n :: r => ¬ n < 0 ∧ 1 ≤ B.1 ∧ n.toNatClampNeg ≤ B.2 ∧ n.toNatClampNeg ≤ 10000000 ∧ G.2.2 < 900 ∧ (match (generalizing := false) ty with
      | .byte => k (pc + 2) lo (.inr (.inr (G.2.2 + 1)) :: r) (B.1 - 1, B.2 - n.toNatClampNeg) (va_up I (G.2.2 + 1) (fun _ => 0)) J Rf (va_up G.1 (G.2.2 + 1) 12, va_up G.2.1 (G.2.2 + 1) n.toNatClampNeg, G.2.2 + 1)
      | .int => k (pc + 2) lo (.inr (.inr (G.2.2 + 1)) :: r) (B.1 - 1, B.2 - n.toNatClampNeg) (va_up I (G.2.2 + 1) (fun _ => 0)) J Rf (va_up G.1 (G.2.2 + 1) 13, va_up G.2.1 (G.2.2 + 1) n.toNatClampNeg, G.2.2 + 1)
      | .long => k (pc + 2) lo (.inr (.inr (G.2.2 + 1)) :: r) (B.1 - 1, B.2 - n.toNatClampNeg) I (va_up J (G.2.2 + 1) (fun _ => 0)) Rf (va_up G.1 (G.2.2 + 1) 14, va_up G.2.1 (G.2.2 + 1) n.toNatClampNeg, G.2.2 + 1)
      | _ => False)
    | _ => False) at h
  split at h
  · rename_i n r
    obtain ⟨h0, h1, h2, h3, h9, h⟩ := h
    have hh : H.size = si_ad E (G.2.2 + 1) := by rw [S.1.1, si_ad_lt (by omega)]; omega
    have hc1 : cells + 1 ≤ R.cells := by have := S.2.2.2.1; omega
    have hs1 : slots + n.toNatClampNeg ≤ R.slots := by have := S.2.2.2.2; omega
    split at h
    · refine va_newaK (atype := .byte) hx hb (hts _ (si_good si_w_5 rfl)) rfl hd rfl h0 rfl (by show _ * 1 ≤ _; omega) hc1 hs1 hh fun H1 cA e1 z1 o1 hA hcA => ?_
      refine hk _ _ _ _ _ _ _ _ _ _ _ _ _ h (si_S_new S h1 h2 hz h9 z1 o1 (fun b hb => by simp [va_up, hb]) (fun b hb => by simp [va_up, hb]) ?_ (fun b hb => by simp [va_up, hb]) (fun b hb => rfl) (fun b hb => rfl))
      have hc : cA = si_cA E 12 := Option.some.inj (hcA.symm.trans (hK.2 0 _ rfl).2)
      rw [si_cell12 (by simp [va_up])]
      show H1[si_ad E (G.2.2 + 1)]? = some (vp_cell _ _)
      rw [e1, vp_cell_i, hc]
      simp [va_up]
      rfl
    · refine va_newaK (atype := .int) hx hb (hts _ (si_good si_w_6 rfl)) rfl hd rfl h0 rfl (by show _ * 4 ≤ _; omega) hc1 hs1 hh fun H1 cA e1 z1 o1 hA hcA => ?_
      refine hk _ _ _ _ _ _ _ _ _ _ _ _ _ h (si_S_new S h1 h2 hz h9 z1 o1 (fun b hb => by simp [va_up, hb]) (fun b hb => by simp [va_up, hb]) ?_ (fun b hb => by simp [va_up, hb]) (fun b hb => rfl) (fun b hb => rfl))
      have hc : cA = si_cA E 13 := Option.some.inj (hcA.symm.trans (hK.2 1 _ rfl).2)
      rw [si_cell13 (by simp [va_up])]
      show H1[si_ad E (G.2.2 + 1)]? = some (vp_cell _ _)
      rw [e1, vp_cell_i, hc]
      simp [va_up]
      rfl
    · refine va_newaK (atype := .long) hx hb (hts _ (si_good si_w_7 rfl)) rfl hd rfl h0 rfl (by show _ * 8 ≤ _; omega) hc1 hs1 hh fun H1 cA e1 z1 o1 hA hcA => ?_
      refine hk _ _ _ _ _ _ _ _ _ _ _ _ _ h (si_S_new S h1 h2 hz h9 z1 o1 (fun b hb => by simp [va_up, hb]) (fun b hb => by simp [va_up, hb]) ?_ (fun b hb => rfl) (fun b hb => by simp [va_up, hb]) (fun b hb => rfl))
      have hc : cA = si_cA E 14 := Option.some.inj (hcA.symm.trans (hK.2 2 _ rfl).2)
      rw [si_cell14 (by simp [va_up])]
      show H1[si_ad E (G.2.2 + 1)]? = some (vp_cell _ _)
      rw [e1, vp_cell_l, hc]
      simp [va_up]
      rfl
    · exact h.elim
  · exact h.elim
theorem si_s_anewarray {ix : Nat} (C0 : si_C p R s m args meth c cc E adV nL o ini) (hk : si_ok p l e R s m args below meth c Q E nL k) (hd : decode cc pc = .ok (.anewarray ix, len)) (hl : len = 3) (hF : F.1 = o) (S : si_S E s R nL H locs cells slots ls lo B I J Rf G)
    (h : ai_stp si_t F call post (.anewarray ix) len pc lo st B I J Rf G k) : W p l e R s m args below meth c H locs cells slots Q (F0 m pc ls (st.map (si_v E))) := by
  obtain ⟨hx, hb, hml, hown, hts, hK, hX, hin, hlaw, hz, hfr, hlo⟩ := C0
  subst hl
  change (match (generalizing := false) st with
    | .inl n :: r => ai_cls si_t F.1 ix = 8 ∧ ¬ n < 0 ∧ 1 ≤ B.1 ∧ n.toNatClampNeg ≤ B.2 ∧ n.toNatClampNeg ≤ 10000000 ∧ G.2.2 < 900 ∧ k (pc + 3) lo (.inr (.inr (G.2.2 + 1)) :: r) (B.1 - 1, B.2 - n.toNatClampNeg) I J (va_up Rf (G.2.2 + 1) (fun _ => 0)) (va_up G.1 (G.2.2 + 1) 15, va_up G.2.1 (G.2.2 + 1) n.toNatClampNeg, G.2.2 + 1)
    | _ => False) at h
  split at h
  · rename_i n r
    obtain ⟨hcl, h0, h1, h2, h3, h9, h⟩ := h
    rw [hF] at hcl
    have hh : H.size = si_ad E (G.2.2 + 1) := by rw [S.1.1, si_ad_lt (by omega)]; omega
    have hc1 : cells + 1 ≤ R.cells := by have := S.2.2.2.1; omega
    have hs1 : slots + n.toNatClampNeg ≤ R.slots := by have := S.2.2.2.2; omega
    refine W.anew hx hb hown (hts _ (si_new hcl (by decide))) (va_AO.use hX.2.1) rfl hd rfl h0 (by omega) hc1 hs1 fun cA kA comp f1 f2 f3 f4 => ?_
    generalize hH1 : H.push ({ cls := cA, slots := Array.replicate n.toNatClampNeg .null, vm := .none } : Cell) = H1
    have z1 : H1.size = H.size + 1 := by rw [← hH1, Array.size_push]
    have e1 : H1[H.size]? = some (arrV cA n.toNatClampNeg (fun _ => .null)) := by rw [← hH1, Array.getElem?_push_size, ← arrV_new]
    have o1 : ∀ q : Nat, q < H.size → H1[q]? = H[q]? := fun q hq => by rw [← hH1, Array.getElem?_push, if_neg (Nat.ne_of_lt hq)]
    rw [hh] at z1 e1 o1 ⊢
    refine hk _ _ _ _ _ _ _ _ _ _ _ _ _ h (si_S_new S h1 h2 hz h9 z1 o1 (fun b hb => by simp [va_up, hb]) (fun b hb => by simp [va_up, hb]) ?_ (fun b hb => rfl) (fun b hb => rfl) (fun b hb => by simp [va_up, hb]))
    obtain ⟨kA', comp', k1, k2, k3, k4⟩ := (hK.2 3 _ rfl).2
    have hc : cA = si_cA E 15 := Option.some.inj (f1.symm.trans k4)
    rw [si_cell15 (by simp [va_up])]
    show H1[si_ad E (G.2.2 + 1)]? = some (vp_cell _ _)
    rw [e1, vp_cell_q, hc]
    simp [va_up]
    rfl
  · exact h.elim
end
end
section
/-! Calls, ends, and the run: the abstract machine's call gives the kit's contract. -/
theorem ai_td : ∀ (n : Nat) (st : List ai_V), ai_takes n st ++ ai_drops n st = st
  | 0, st => rfl
  | _ + 1, [] => rfl
  | n + 1, v :: l => by show v :: (ai_takes n l ++ ai_drops n l) = _; rw [ai_td n l]
theorem ai_rvs_eq : ∀ (l acc : List ai_V), ai_rvs l acc = l.reverse ++ acc
  | [], _ => rfl
  | v :: l, acc => by show ai_rvs l (v :: acc) = _; rw [ai_rvs_eq l (v :: acc)]; simp
theorem ai_long_len : ∀ (n : Nat) (st : List ai_V), ai_long n st = true → (ai_takes n st).length = n
  | 0, _, _ => rfl
  | _ + 1, [], h => by cases h
  | n + 1, _ :: l, h => by show (ai_takes n l).length + 1 = _; rw [ai_long_len n l h]
theorem si_kchk_spec : ∀ {ps : List (Nat × Nat × Nat × Nat)} {y : Nat}, si_kchk y ps = true → ∀ i : Nat, i < ps.length → ∃ p, si_kchk1 (y + i) p = true
  | [], y, _, i, hi => by simp at hi
  | p :: l, y, h, i, hi => by
    unfold si_kchk at h
    simp only [Bool.and_eq_true] at h
    cases i with
    | zero => exact ⟨p, h.1⟩
    | succ j =>
      obtain ⟨q, hq⟩ := si_kchk_spec h.2 j (by simpa using hi)
      exact ⟨q, by rw [show y + (j + 1) = y + 1 + j by omega]; exact hq⟩
theorem si_k_all {y : Nat} (h : y < 133) : ∃ p, si_kchk1 y p = true := by
  rcases (by omega : 0 ≤ y ∧ y < 20 ∨ 20 ≤ y ∧ y < 40 ∨ 40 ≤ y ∧ y < 60 ∨ 60 ≤ y ∧ y < 80 ∨ 80 ≤ y ∧ y < 100 ∨ 100 ≤ y ∧ y < 110 ∨ 120 ≤ y ∧ y < 133) with h0 | h1 | h2 | h3 | h4 | h5 | h6
  · obtain ⟨p, hp⟩ := si_kchk_spec si_kk_0 (y - 0) (by show y - 0 < 20; omega)
    exact ⟨p, by rw [show 0 + (y - 0) = y by omega] at hp; exact hp⟩
  · obtain ⟨p, hp⟩ := si_kchk_spec si_kk_1 (y - 20) (by show y - 20 < 20; omega)
    exact ⟨p, by rw [show 20 + (y - 20) = y by omega] at hp; exact hp⟩
  · obtain ⟨p, hp⟩ := si_kchk_spec si_kk_2 (y - 40) (by show y - 40 < 20; omega)
    exact ⟨p, by rw [show 40 + (y - 40) = y by omega] at hp; exact hp⟩
  · obtain ⟨p, hp⟩ := si_kchk_spec si_kk_3 (y - 60) (by show y - 60 < 20; omega)
    exact ⟨p, by rw [show 60 + (y - 60) = y by omega] at hp; exact hp⟩
  · obtain ⟨p, hp⟩ := si_kchk_spec si_kk_4 (y - 80) (by show y - 80 < 20; omega)
    exact ⟨p, by rw [show 80 + (y - 80) = y by omega] at hp; exact hp⟩
  · obtain ⟨p, hp⟩ := si_kchk_spec si_kk_5 (y - 100) (by show y - 100 < 20; omega)
    exact ⟨p, by rw [show 100 + (y - 100) = y by omega] at hp; exact hp⟩
  · obtain ⟨p, hp⟩ := si_kchk_spec si_kk_6 (y - 120) (by show y - 120 < 13; omega)
    exact ⟨p, by rw [show 120 + (y - 120) = y by omega] at hp; exact hp⟩
/-- a method: its row of the table, its words -/
theorem si_meth {y : Nat} (h : y < 133) : ∃ (n : MethodName × ByteArray × Option FieldType) (u : ai_F × Nat × Nat × Nat), si_nq y = some n ∧ si_mq y = some u ∧ Cond.code n.1 n.2.1 u.2.1 n.2.2 ∈ si_aTs ∧ Cond.initialized n.1.cls ∈ si_aTs ∧ si_kfit y n u = true ∧
    (u.2.2.2 = 0 → Cond.static n.1 ∈ si_aTs) ∧ (¬ u.2.2.2 = 0 → Cond.instanceMethod n.1 ∈ si_aTs ∧ (u.1.2.1 = false → Cond.selects n.1.cls n.1 n.1 ∈ si_aTs)) := by
  obtain ⟨p, hp⟩ := si_k_all h
  unfold si_kchk1 at hp
  split at hp
  · rename_i n u hn hu
    simp only [Bool.and_eq_true, decide_eq_true_eq] at hp
    obtain ⟨h1, h2, h3, h4⟩ := hp
    refine ⟨n, u, hn, hu, si_good (si_at_mem (si_isC_eq h1)) rfl, si_good (si_at_mem h2) rfl, h3, fun e => ?_, fun e => ?_⟩
    · rw [e] at h4
      simp only [decide_eq_true_eq] at h4
      exact si_good (si_at_mem h4) rfl
    · split at h4
      · rename_i e2
        exact absurd e2 e
      · simp only [Bool.and_eq_true, Bool.or_eq_true, decide_eq_true_eq] at h4
        refine ⟨si_good (si_at_mem h4.1) rfl, fun e3 => ?_⟩
        rcases h4.2 with q | q
        · rw [e3] at q
          cases q
        · exact si_good (si_at_mem q) rfl
  · cases hp
theorem si_mchk_spec {o : Nat} : ∀ {l : List (Nat × Nat × Nat)} {ps : List Nat}, si_mchk o l ps = true → ∀ (ix : Nat) (v : Nat × Nat), ai_lkp l ix = some v → (ix, v) ∈ l ∧ ∃ q, si_mchk1 o (ix, v) q = true
  | [], _, _, ix, v, h => by cases h
  | r :: l, [], hc, ix, v, h => by cases hc
  | r :: l, q :: ps, hc, ix, v, h => by
    unfold si_mchk at hc
    simp only [Bool.and_eq_true] at hc
    obtain ⟨h1, h2⟩ := hc
    unfold ai_lkp at h
    by_cases e : r.1 = ix
    · rw [if_pos e] at h
      cases h
      have : (ix, r.2) = r := by rw [← e]
      rw [this]
      exact ⟨List.mem_cons_self, q, h1⟩
    · rw [if_neg e] at h
      obtain ⟨g1, g2⟩ := si_mchk_spec h2 ix v h
      exact ⟨List.mem_cons_of_mem _ g1, g2⟩
theorem si_mh_all (o : Nat) : si_mchk o (si_mh o) (si_mhp o) = true := by
  by_cases h0 : o = 0
  · subst h0
    exact si_mk_0
  by_cases h1 : o = 1
  · subst h1
    exact si_mk_1
  by_cases h2 : o = 2
  · subst h2
    exact si_mk_2
  by_cases h3 : o = 3
  · subst h3
    exact si_mk_3
  by_cases h4 : o = 4
  · subst h4
    exact si_mk_4
  by_cases h5 : o = 5
  · subst h5
    exact si_mk_5
  by_cases h6 : o = 6
  · subst h6
    exact si_mk_6
  by_cases h7 : o = 7
  · subst h7
    exact si_mk_7
  by_cases h8 : o = 8
  · subst h8
    exact si_mk_8
  by_cases h9 : o = 9
  · subst h9
    exact si_mk_9
  by_cases h10 : o = 10
  · subst h10
    exact si_mk_10
  by_cases h20 : o = 20
  · subst h20
    exact si_mk_20
  by_cases h21 : o = 21
  · subst h21
    exact si_mk_21
  by_cases h23 : o = 23
  · subst h23
    exact si_mk_23
  have e : si_mh o = [] := by
    unfold si_mh
    split <;> first | contradiction | rfl
  rw [e]
  rfl
/-- a call's link -/
theorem si_link {o ix y md : Nat} (h : ai_lkp (si_mh o) ix = some (y, md)) (hmd : ¬ md = 9) : y < 133 ∧ ∃ (n : MethodName × ByteArray × Option FieldType) (u : ai_F × Nat × Nat × Nat), si_nq y = some n ∧ si_mq y = some u ∧ md ≤ 5 ∧ (md < 3 → Cond.methodLink (si_RS o) ix n.1 ∈ si_aTs) ∧ (ix, y, md) ∈ si_mh o ∧
    (md % 3 = 0 → ¬ u.2.2.2 = 0 ∧ u.1.2.1 = false) ∧ (md % 3 = 1 → u.2.2.2 = 0) ∧ (md % 3 = 2 → u.1.2.1 = true) := by
  obtain ⟨hm, q, hq⟩ := si_mchk_spec (si_mh_all o) ix _ h
  unfold si_mchk1 at hq
  split at hq
  · rename_i e
    exact absurd e hmd
  · simp only [Bool.and_eq_true, decide_eq_true_eq] at hq
    obtain ⟨⟨h1, h2⟩, h3⟩ := hq
    split at h3
    · rename_i n u hn hu
      simp only [Bool.and_eq_true, decide_eq_true_eq] at h3
      obtain ⟨h4, h5⟩ := h3
      refine ⟨h1, n, u, hn, hu, h2, fun h6 => ?_, hm, h5⟩
      rw [if_pos h6] at h4
      exact si_good (si_at_mem (of_decide_eq_true h4)) rfl
    · cases h3
/-! what else holds, moved -/
theorem si_mode_nest {o : Nat} {r : Nat × Nat × Nat} {n : MethodName × ByteArray × Option FieldType} {E : si_E} {adV : Nat → Nat} {U : State} (hX : si_X E adV U) (hr : r ∈ si_mh o) (h3 : 3 ≤ r.2.2) (h5 : r.2.2 ≤ 5) (hn : si_nq r.2.1 = some n) : va_Nw (.methodLinkNest (si_RS o) r.1 n.1 "PricedBases") U := hX.1 o r n hr h3 h5 hn
theorem si_X.same {E : si_E} {adV : Nat → Nat} {u U : State} (hv : U.vm = u.vm) (hh : U.heap = u.heap) (h : si_X E adV u) : si_X E adV U := by
  obtain ⟨h1, h2, h3, h4, h5, h6⟩ := h
  have hal : u.vm.Alike U.vm := by rw [hv]; exact Vm.Alike.refl _
  refine ⟨fun o r n a b c d => va_Nw.same rfl hv.symm (h1 o r n a b c d), va_AO.moved hal h2, fun k u2 hk => vk_R.same hv (h3 k u2 hk), ?_, ?_, ?_⟩
  · rw [hh]
    exact h4.moved hal
  · rw [hh]
    exact h5.moved hal
  · rw [hh]
    exact h6.moved hal
theorem si_X.warm {E : si_E} {adV : Nat → Nat} {s U : State} (hW : s.WarmedH U.vm) (hq : ∀ a : Nat, a < s.heap.size → ¬ si_A E a → U.heap[a]? = s.heap[a]?) (h : si_X E adV s) : si_X E adV U := by
  obtain ⟨h1, h2, h3, h4, h5, h6⟩ := h
  exact ⟨fun o r n a b c d => va_Nw.warmM hW (h1 o r n a b c d), va_AO.moved hW.alike h2, fun k u2 hk => vk_R.warm hW (h3 k u2 hk), (h4.moved hW.alike).kept hq, (h5.moved hW.alike).kept hq, (h6.moved hW.alike).kept hq⟩
/-- a method's room, at depth d -/
def si_rm (d y : Nat) : Room := { frames := d, locals := 42 * d, cells := (si_bl y).1, slots := (si_bl y).2 }
def si_B (E : si_E) (adV : Nat → Nat) (I : ai_I) (J : ai_J) (Rf : ai_R) (G : ai_G) (U : State) : Prop := si_P E U.heap I J Rf G ∧ si_K E U ∧ si_X E adV U
def si_Qc (E : si_E) (v : Option ai_V) (I : ai_I) (J : ai_J) (Rf : ai_R) (G : ai_G) : Array Value → State → Outcome → State → Prop := fun _ st oc t => oc = .returned (v.map (si_v E)) ∧ si_P E t.heap I J Rf G ∧ va_F (si_A E) st t
theorem si_blind {E : si_E} {adV : Nat → Nat} {I : ai_I} {J : ai_J} {Rf : ai_R} {G : ai_G} {av : List Value} : FrameBlind (va_Pc av (si_B E adV I J Rf G)) := by
  intro a U g mk h
  obtain ⟨h1, h2, h3, h4⟩ := h
  exact ⟨h1, h2, va_K.moved (u := U) (U := U.calling g mk a) (Vm.Alike.refl U.vm) h3, si_X.same (u := U) (U := U.calling g mk a) rfl rfl h4⟩
theorem si_goodIn {w : Cond} (h : w ∈ si_aTs) : GoodIn si_aTs (w :: si_aTs) := by
  intro w2 hw
  have hw2 : w2 ∈ si_aTs := by
    rcases List.mem_cons.mp hw with e | e
    · rw [e]; exact h
    · exact e
  exact ⟨hw2, good_of_word (List.mem_filter.mp hw2).2⟩
/-- a contract of a method for one start and one end -/
def si_Met (l : Launch) (E : si_E) (adV : Nat → Nat) (d : Nat) (n : MethodName × ByteArray × Option FieldType) (mx y : Nat) (as : List ai_V) (I : ai_I) (J : ai_J) (Rf : ai_R) (G : ai_G) (v : Option ai_V) (I1 : ai_I) (J1 : ai_J) (R1 : ai_R) (G1 : ai_G) : Prop :=
  Met l n.1 (.code n.1 n.2.1 mx n.2.2 :: si_aTs) (si_rm d y) (va_Pc (as.map (si_v E)) (si_B E adV I J Rf G)) (si_Qc E v I1 J1 R1 G1) (si_bl y).1 (si_bl y).2 (si_A E)
/-- String.length and String.charAt -/
def si_sn (y : Nat) : MethodName × ByteArray × Option FieldType := match y with
  | 997 => (⟨"java/lang/String", "length", "()I"⟩, prog_17_method_54_code, some .int)
  | _ => (⟨"java/lang/String", "charAt", "(I)C"⟩, prog_17_method_56_code, some .char)
def si_smx (y : Nat) : Nat := match y with
  | 997 => 1
  | _ => 2
def si_call (l : Launch) (E : si_E) (adV : Nat → Nat) (d : Nat) (call : ai_C) : Prop := ∀ (y : Nat) (as : List ai_V) (I : ai_I) (J : ai_J) (Rf : ai_R) (G : ai_G) (v : Option ai_V) (I1 : ai_I) (J1 : ai_J) (R1 : ai_R) (G1 : ai_G), call y as I J Rf G v I1 J1 R1 G1 →
  (y < 133 → ∀ n u, si_nq y = some n → si_mq y = some u → si_Met l E adV d n u.2.1 y as I J Rf G v I1 J1 R1 G1) ∧
  ((y = 997 ∨ y = 996) → (∃ (a : Nat) (r : List ai_V) (tx : List Nat), as = .inr (.inr a) :: r ∧ ai_txt si_t a = some tx) ∧ si_Met l E adV d (si_sn y) (si_smx y) y as I J Rf G v I1 J1 R1 G1)
section
variable {p : Program} {l : Launch} {e : Env} {R : Room} {s : State} {m : MethodId} {args : Array Value} {below : List Frame} {meth : Method} {c : Code} {Q : State → Prop} {cc : ByteArray} {E : si_E} {adV : Nat → Nat} {nL o d : Nat} {ini : Bool}
variable {F : ai_F} {call : ai_C} {post : ai_Q} {k : ai_K} {len pc : Nat} {lo : List (Option ai_V)} {st : List ai_V} {B : Nat × Nat} {I : ai_I} {J : ai_J} {Rf : ai_R} {G : ai_G} {H : Heap} {locs : List Loc} {cells slots : Nat} {ls : Array Slot}
/-- behind a call -/
theorem si_after {mc ms : Nat} {st0 : List Value} {rest : List ai_V} {a : Array Value} {v : Option ai_V} {I1 : ai_I} {J1 : ai_J} {R1 : ai_R} {G1 : ai_G} (hk : si_ok p l e R s m args below meth c Q E nL k) (hr : va_Run p l e R s m args below meth c H locs cells slots mc ms (F0 m pc ls st0) (rest.map (si_v E)) (si_Qc E v I1 J1 R1 G1 a) (si_A E))
    (S : si_S E s R nL H locs cells slots ls lo B I J Rf G) (hmc : mc ≤ B.1) (hms : ms ≤ B.2) (h : k (pc + 3) lo (v.toList ++ rest) (B.1 - mc, B.2 - ms) I1 J1 R1 G1) : W p l e R s m args below meth c H locs cells slots Q (F0 m pc ls st0) := by
  intro T hT X
  obtain ⟨v2, st₀, t, T', L, h0, X', hL, e1, e2, ⟨hv, hP, hz, hkp⟩, stp⟩ := hr T hT X
  have hv2 : v2 = v.map (si_v E) := by
    have := hv
    simpa using this
  subst hv2
  rw [h0] at hz hkp
  have hS : si_S E s R nL T'.heap (locs ++ L) (cells + mc) (slots + ms) ls lo (B.1 - mc, B.2 - ms) I1 J1 R1 G1 := by
    refine ⟨by rw [e1]; exact hP, S.2.1, ⟨?_, fun q g1 g2 => ?_, fun q hq => ?_⟩, by have := S.2.2.2.1; show cells + mc + (B.1 - mc) ≤ _; omega, by have := S.2.2.2.2; show slots + ms + (B.2 - ms) ≤ _; omega⟩
    · rw [e1]
      exact Nat.le_trans S.2.2.1.1 hz
    · rw [e1, hkp q (Nat.lt_of_lt_of_le g1 S.2.2.1.1) g2]
      exact S.2.2.1.2.1 q g1 g2
    · rcases List.mem_append.mp hq with g | g
      · exact S.2.2.1.2.2 q g
      · exact hL q g
  obtain ⟨t2, a1, b1⟩ := hk _ _ _ _ _ _ _ _ _ _ _ _ _ h hS T' rfl X'
  refine ⟨t2, stp t2 ?_, b1⟩
  have ev : ((v.map (si_v E)).toList ++ rest.map (si_v E)) = (v.toList ++ rest).map (si_v E) := by
    cases v <;> rfl
  show Steps _ _ _ (T'.setTop { F0 m pc ls st0 with pc := pc + 3, stack := (v.map (si_v E)).toList ++ rest.map (si_v E) }) t2
  rw [ev]
  exact a1
theorem si_pre {as : List ai_V} (S : si_S E s R nL H locs cells slots ls lo B I J Rf G) (hK : si_K E s) (hX : si_X E adV s) : ∀ U : State, U.heap = H → s.WarmedH U.vm → va_Pc (as.map (si_v E)) (si_B E adV I J Rf G) (as.map (si_v E)).toArray U := by
  intro U hU hW
  refine ⟨rfl, by rw [hU]; exact S.1, va_K.moved hW.alike hK, hX.warm hW (fun a h1 h2 => ?_)⟩
  rw [hU]
  exact S.2.2.1.2.1 a h1 h2
/-- the operand stack at a call -/
theorem si_stk {n : Nat} {as : List ai_V} (h : ai_rvs (ai_takes n st) [] = as) : st.map (si_v E) = (as.map (si_v E)).reverse ++ (ai_drops n st).map (si_v E) := by
  rw [← h, ai_rvs_eq, List.append_nil, List.map_reverse, List.reverse_reverse, ← List.map_append, ai_td]
theorem si_as_len {n : Nat} {as : List ai_V} (h : ai_rvs (ai_takes n st) [] = as) (hl : ai_long n st = true) : as.length = n := by
  rw [← h, ai_rvs_eq, List.append_nil, List.length_reverse, ai_long_len n st hl]
/-- a call of a method of the table -/
theorem si_inv_tbl {ix y md : Nat} {as : List ai_V} {op : Instr} {v : Option ai_V} {I1 : ai_I} {J1 : ai_J} {R1 : ai_R} {G1 : ai_G} (C0 : si_C p R s m args meth c cc E adV nL o ini) (hk : si_ok p l e R s m args below meth c Q E nL k) (hd : decode cc pc = .ok (op, 3)) (S : si_S E s R nL H locs cells slots ls lo B I J Rf G)
    (hy : ai_lkp (si_mh o) ix = some (y, md)) (hmd : ¬ md = 9) (hop : (md % 3 = 0 → op = .invokevirtual ix) ∧ (md % 3 = 1 → op = .invokestatic ix) ∧ (md % 3 = 2 → op = .invokespecial ix)) (hfr : d + 1 ≤ R.frames) (hlo : 42 * d + 42 ≤ R.locals)
    (has : ai_rvs (ai_takes (ai_nar si_t y) st) [] = as) (hlong : ai_long (ai_nar si_t y) st = true) (hb1 : (si_bl y).1 ≤ B.1) (hb2 : (si_bl y).2 ≤ B.2) (hwt : ai_wgt (ai_drops (ai_nar si_t y) st) ≤ 8) (hrc : ai_recv (ai_rcv si_t y) as G.1)
    (hM : ∀ n u, si_nq y = some n → si_mq y = some u → si_Met l E adV d n u.2.1 y as I J Rf G v I1 J1 R1 G1)
    (h : k (pc + 3) lo (v.toList ++ ai_drops (ai_nar si_t y) st) (B.1 - (si_bl y).1, B.2 - (si_bl y).2) I1 J1 R1 G1) : W p l e R s m args below meth c H locs cells slots Q (F0 m pc ls (st.map (si_v E))) := by
  obtain ⟨hx, hb, hml, hown, hts, hK, hX, hin, hlaw, hz, -, -⟩ := C0
  obtain ⟨hy336, n, u, hn, hu, hmd5, hlk, hmem, hm0, hm1, hm2⟩ := si_link hy hmd
  obtain ⟨n', u', hn', hu', w1, w2, w3, w4, w5⟩ := si_meth hy336
  rw [hn] at hn'
  rw [hu] at hu'
  cases hn'
  cases hu'
  have hnar : ai_nar si_t y = u.2.2.1 := by
    show ((si_mq y).map (fun q => q.2.2.1)).getD _ = _
    rw [hu]
    rfl
  have hrcv : ai_rcv si_t y = u.2.2.2 := by
    show ((si_mq y).map (fun q => q.2.2.2)).getD 0 = _
    rw [hu]
    rfl
  have hM := hM n u hn hu
  have hNw : 3 ≤ md → va_Nw (.methodLinkNest (si_RS o) ix n.1 "PricedBases") s := fun q => si_mode_nest hX hmem q hmd5 hn
  clear hn
  obtain ⟨n1, n2, n3⟩ := n
  unfold si_Met at hM
  unfold si_kfit at w3
  simp only [Bool.and_eq_true, decide_eq_true_eq] at w3
  obtain ⟨⟨k1, k2, k3, k4, k5, k6, k7, k8, k9⟩, k10⟩ := w3
  have hlen := si_as_len has hlong
  rw [hnar] at hlen
  have hgood := si_goodIn w1
  have hR : (si_rm d y).frames + 1 ≤ R.frames ∧ 8 + (u.2.1 + 11) + (si_rm d y).locals ≤ R.locals := ⟨hfr, by show 8 + (u.2.1 + 11) + 42 * d ≤ _; omega⟩
  have hWt : 2 * (F0 m pc ls (st.map (si_v E))).monitorRoom + (((ai_drops (ai_nar si_t y) st).map (si_v E)).map fun v => v.category).sum ≤ 8 := lv_room (by rw [si_wgt]; exact hwt)
  have hcb : cells + (si_bl y).1 ≤ R.cells ∧ slots + (si_bl y).2 ≤ R.slots := ⟨by have := S.2.2.2.1; omega, by have := S.2.2.2.2; omega⟩
  have hstk := si_stk (E := E) has
  have hsz : (F0 m pc ls (st.map (si_v E))).locals.size = nL := S.2.1.1
  by_cases hst : u.2.2.2 = 0
  · have hmode : md % 3 = 1 := by
      rcases (by omega : md % 3 = 0 ∨ md % 3 = 1 ∨ md % 3 = 2) with q | q | q
      · exact absurd hst (hm0 q).1
      · exact q
      · exact absurd hst (k7 (hm2 q)).2
    have e1 := hop.2.1 hmode
    subst e1
    have hpar : (parseMethodDescriptor n1.desc).map (fun d => d.parameters.length) = some u.2.2.1 := by rw [k5, if_pos hst]; rfl
    by_cases hnest : md < 3
    · exact si_after hk (va_runS ⟨hx, hb, hml, hown, hts⟩ hM ⟨callB_of u.2.2.1 hts hgood rfl rfl rfl (hts _ w2) (hts _ (hlk hnest)) ⟨k3, k4, hpar⟩ hR, hts _ (w4 hst)⟩ ⟨si_blind, si_pre S hK hX⟩ rfl (by rw [List.length_map]; exact hlen) hsz hstk hWt hd hcb) S hb1 hb2 h
    · exact si_after hk (va_runSN ⟨hx, hb, hml, hown, hts⟩ hM ⟨va_cnB u.2.2.1 hts hgood rfl rfl rfl (hNw (by omega)) (hts _ w2) ⟨k3, k4, hpar⟩ hR, hts _ (w4 hst), trivial⟩ ⟨si_blind, si_pre S hK hX⟩ rfl (by rw [List.length_map]; exact hlen) hsz hstk hWt hd hcb) S hb1 hb2 h
  · obtain ⟨w5a, w5b⟩ := w5 hst
    have hrcv2 : u.2.2.2 = u.1.1 + 1 ∧ 1 ≤ u.2.2.1 ∧ u.1.1 < 11 := by
      rcases k6 with q | q
      · exact absurd q hst
      · exact q
    rw [hrcv, hrcv2.1] at hrc
    have hpar : (parseMethodDescriptor n1.desc).map (fun d => d.parameters.length) = some (u.2.2.1 - 1) := by rw [k5, if_neg hst]
    cases as with
    | nil => exact hrc.elim
    | cons a0 ar =>
      obtain ⟨a, rfl⟩ : ∃ a, a0 = .inr (.inr a) := by
        rcases a0 with x | x | a
        · exact hrc.elim
        · exact hrc.elim
        · exact ⟨a, rfl⟩
      have hrk : G.1 a = u.1.1 := hrc
      have ha := (S.1.2.2.1 a (by omega)).1
      have hav : (Sum.inr (Sum.inr a) :: ar : List ai_V).map (si_v E) = .ref (si_ad E a) :: ar.map (si_v E) := by
        rw [← si_v_pos ha]
        rfl
      have hpre := si_pre (as := .inr (.inr a) :: ar) (E := E) S hK hX
      rw [hav] at hM hpre hstk
      have hstk2 : st.map (si_v E) = (ar.map (si_v E)).reverse ++ .ref (si_ad E a) :: (ai_drops (ai_nar si_t y) st).map (si_v E) := by
        rw [hstk]
        simp
      have hal : (ar.map (si_v E)).length = u.2.2.1 - 1 := by
        have : ar.length + 1 = u.2.2.1 := hlen
        rw [List.length_map]
        omega
      by_cases hini : u.1.2.1 = true
      · have hmode : md % 3 = 2 := by
          rcases (by omega : md % 3 = 0 ∨ md % 3 = 1 ∨ md % 3 = 2) with q | q | q
          · have := (hm0 q).2
            rw [hini] at this
            cases this
          · exact absurd (hm1 q) hst
          · exact q
        have e1 := hop.2.2 hmode
        subst e1
        have hret : n3 = none := (k7 hini).1
        subst hret
        have hnm : n1.name = "<init>" := by
          rw [hini] at k2
          exact of_decide_eq_true k2.symm
        by_cases hnest : md < 3
        · exact si_after hk (va_runI ⟨hx, hb, hml, hown, hts⟩ hM ⟨callB_of (u.2.2.1 - 1) hts hgood rfl rfl rfl (hts _ w2) (hts _ (hlk hnest)) ⟨k3, k4, hpar⟩ hR, hnm, hts _ w5a⟩ ⟨si_blind, hpre⟩ rfl hal hsz hstk2 hWt hd hcb) S hb1 hb2 h
        · exact si_after hk (va_runIN ⟨hx, hb, hml, hown, hts⟩ hM ⟨va_cnB (u.2.2.1 - 1) hts hgood rfl rfl rfl (hNw (by omega)) (hts _ w2) ⟨k3, k4, hpar⟩ hR, hnm, hts _ w5a⟩ ⟨si_blind, hpre⟩ rfl hal hsz hstk2 hWt hd hcb) S hb1 hb2 h
      · have hini : u.1.2.1 = false := by
          cases hq : u.1.2.1
          · rfl
          · exact absurd hq hini
        have hmode : md % 3 = 0 := by
          rcases (by omega : md % 3 = 0 ∨ md % 3 = 1 ∨ md % 3 = 2) with q | q | q
          · exact q
          · exact absurd (hm1 q) hst
          · have := hm2 q
            rw [hini] at this
            cases this
        have e1 := hop.1 hmode
        subst e1
        have hrecv : ∃ cellB : Cell, H[si_ad E a]? = some cellB ∧ cellB.vm.isStatics = false ∧ s.vm.findClass n1.cls = some cellB.cls := by
          have := va_recv hK (S.1.at1 (a := a) (by omega) (si_cellO hrk (Nat.lt_succ_of_lt hrcv2.2.2))) (si_cl_all hrcv2.2.2) (q0 := 0) rfl
          rw [show n1.cls = si_RS u.1.1 from k1]
          exact this
        by_cases hnest : md < 3
        · exact si_after hk (va_runV ⟨hx, hb, hml, hown, hts⟩ hM ⟨callB_of (u.2.2.1 - 1) hts hgood rfl rfl rfl (hts _ w2) (hts _ (hlk hnest)) ⟨k3, k4, hpar⟩ hR, hts _ w5a, hts _ (w5b hini)⟩ ⟨si_blind, hrecv, hpre⟩ rfl hal hsz hstk2 hWt hd hcb) S hb1 hb2 h
        · exact si_after hk (va_runVN ⟨hx, hb, hml, hown, hts⟩ hM ⟨va_cnB (u.2.2.1 - 1) hts hgood rfl rfl rfl (hNw (by omega)) (hts _ w2) ⟨k3, k4, hpar⟩ hR, hts _ w5a, hts _ (w5b hini)⟩ ⟨si_blind, hrecv, hpre⟩ rfl hal hsz hstk2 hWt hd hcb) S hb1 hb2 h
end
end
section
/-! Calls by their instruction, constants, ends; then any one instruction. -/
section
variable {p : Program} {l : Launch} {e : Env} {R : Room} {s : State} {m : MethodId} {args : Array Value} {below : List Frame} {meth : Method} {c : Code} {Q : State → Prop} {cc : ByteArray} {E : si_E} {nL : Nat}
variable {pc : Nat} {lo : List (Option ai_V)} {B : Nat × Nat} {I : ai_I} {J : ai_J} {Rf : ai_R} {G : ai_G} {H : Heap} {locs : List Loc} {cells slots : Nat} {ls : Array Slot}
/-- System.arraycopy of ints -/
theorem si_copy {a0 a : Nat} {rest : List Value} (hexec : p.tables.exec = Jvm.exec) (hb : c.code = cc) (hml : c.maxLocals = ls.size) {own : String} {index : Nat} (hown : s.vm.findClass own = some m.cls) (hlink : (Cond.methodLink own index arraycopyName).before args s = true) (hnat : (Cond.native arraycopyName).before args s = true) (hstat : (Cond.static arraycopyName).before args s = true) (hini : (Cond.initialized "java/lang/System").before args s = true)
    (hK : si_K E s) (S : si_S E s R nL H locs cells slots ls lo B I J Rf G) (k0 : G.1 a0 = 13) (k1 : G.1 a = 13) {sp dp n : Int32} (h1 : ¬ sp < 0) (h2 : ¬ dp < 0) (h3 : ¬ n < 0) (h4 : sp.toNatClampNeg + n.toNatClampNeg ≤ G.2.1 a0) (h5 : dp.toNatClampNeg + n.toNatClampNeg ≤ G.2.1 a)
    (hframes : 1 ≤ R.frames) (hlocals : (rest.map fun v => v.category).sum + (nativeFrameWords "java/lang/System" "arraycopy" 5 + 11) ≤ R.locals) (hdg : decode cc pc = .ok (.invokestatic index, 3))
    (kk : ∀ (H1 : Heap) (locs1 : List Loc), si_S E s R nL H1 locs1 cells slots ls lo B (va_up I a (va_cpy (I a0) (I a) sp.toNatClampNeg dp.toNatClampNeg n.toNatClampNeg)) J Rf G → W p l e R s m args below meth c H1 locs1 cells slots Q (F0 m (pc + 3) ls rest)) :
    W p l e R s m args below meth c H locs cells slots Q (F0 m pc ls (.int n :: .int dp :: .ref (si_ad E a) :: .int sp :: .ref (si_ad E a0) :: rest)) := by
  have nn : ∀ z : Int32, ¬ z < 0 → z.toInt = (z.toNatClampNeg : Int) := by
    intro z hz
    have hz0 : (0 : Int) ≤ z.toInt := by
      have := Int32.not_lt.mp hz
      simpa using Int32.le_iff_toInt_le.mp this
    show z.toInt = ((z.toInt.toNat : Nat) : Int)
    omega
  intro T hT X
  have hc0 : H[si_ad E a0]? = some (vp_cell (si_cA E 13) (G.2.1 a0, .inl (I a0))) := S.1.at1 (a := a0) (by omega) (si_cell13 k0) 0 _ rfl
  have hc1 : H[si_ad E a]? = some (vp_cell (si_cA E 13) (G.2.1 a, .inl (I a))) := S.1.at1 (a := a) (by omega) (si_cell13 k1) 0 _ rfl
  obtain ⟨-, kk0, hk0, cm0, hkk0⟩ := (hK.2 1 _ rfl).1 (G.2.1 a0) (fun j => .int (I a0 j))
  obtain ⟨-, kk1, hk1, cm1, hkk1⟩ := (hK.2 1 _ rfl).1 (G.2.1 a) (fun j => .int (I a j))
  obtain ⟨vm', X', step⟩ := X.arraycopy hexec hown hlink hnat hstat hini (src := si_ad E a0) (dst := si_ad E a) (cs := vp_cell (si_cA E 13) (G.2.1 a0, .inl (I a0))) (cd := vp_cell (si_cA E 13) (G.2.1 a, .inl (I a))) (srcPos := sp) (destPos := dp) (n := n) (by rw [hT]; exact hc0) (by rw [hT]; exact hc1)
    (fun _ h => by cases h) (fun _ h => by cases h) (fun h => by cases h) (fun h => by cases h) hk0 hk1 hkk0 hkk1 (by simp [refKind]) h1 h2 h3
    (by rw [nn sp h1, nn n h3]; show ¬ _ > ((arrV (si_cA E 13) (G.2.1 a0) (fun j => .int (I a0 j))).slots.size : Int); rw [arrV_size]; omega)
    (by rw [nn dp h2, nn n h3]; show ¬ _ > ((arrV (si_cA E 13) (G.2.1 a) (fun j => .int (I a j))).slots.size : Int); rw [arrV_size]; omega)
    (fun vm₁ _ i hi => by
      have e : (vp_cell (si_cA E 13) (G.2.1 a0, .inl (I a0))).slots.getD (sp.toNatClampNeg + i) .null = .int (I a0 (sp.toNatClampNeg + i)) := by
        show (arrV (si_cA E 13) (G.2.1 a0) (fun j => .int (I a0 j))).slots.getD _ _ = _
        rw [Array.getD_eq_getD_getElem?, arrV_read _ _ (by omega)]
        rfl
      refine ⟨?_, ?_⟩
      · rw [e]
        rfl
      · rw [e]
        exact trivial)
    (g := F0 m pc ls (.int n :: .int dp :: .ref (si_ad E a) :: .int sp :: .ref (si_ad E a0) :: rest)) rfl (by rw [hml]) (rest := rest) rfl (by rw [hb]; exact hdg) hframes (by show 2 * 0 + _ + _ ≤ _; omega)
  have e1 : copied (vp_cell (si_cA E 13) (G.2.1 a0, .inl (I a0))) (vp_cell (si_cA E 13) (G.2.1 a, .inl (I a))) sp dp n = vp_cell (si_cA E 13) (G.2.1 a, .inl (va_cpy (I a0) (I a) sp.toNatClampNeg dp.toNatClampNeg n.toNatClampNeg)) := va_copied (fun z => .int z) (si_cA E 13) (si_cA E 13) (I a0) (I a) h4
  rw [e1] at X' step
  have hl : si_ad E a < H.size := (Array.getElem?_eq_some_iff.mp hc1).1
  have hheap : ((T.setVm vm').setCell (si_ad E a) (vp_cell (si_cA E 13) (G.2.1 a, .inl (va_cpy (I a0) (I a) sp.toNatClampNeg dp.toNatClampNeg n.toNatClampNeg)))).heap = H.setIfInBounds (si_ad E a) (vp_cell (si_cA E 13) (G.2.1 a, .inl (va_cpy (I a0) (I a) sp.toNatClampNeg dp.toNatClampNeg n.toNatClampNeg))) := by rw [← hT]; rfl
  have oq : ∀ q : Nat, q ≠ si_ad E a → (H.setIfInBounds (si_ad E a) (vp_cell (si_cA E 13) (G.2.1 a, .inl (va_cpy (I a0) (I a) sp.toNatClampNeg dp.toNatClampNeg n.toNatClampNeg))))[q]? = H[q]? := fun q hq => by simp [Array.getElem?_setIfInBounds, Ne.symm hq]
  have hAa : si_A E (si_ad E a) := by
    have := S.1.2.2.1 a (by omega)
    have := S.1.2.1
    show E.1 < si_ad E a
    rw [si_ad_lt (by omega)]
    omega
  obtain ⟨t, a1, b1⟩ := kk _ _ ⟨S.1.put (a := a) (by omega) (by simp) oq (by
      rw [si_cell13 k1]
      show (H.setIfInBounds (si_ad E a) _)[si_ad E a]? = some _
      simp [Array.getElem?_setIfInBounds, hl, va_up]) (fun b hb => by simp [va_up, hb]) (fun b hb => rfl) (fun b hb => rfl), S.2.1, ⟨by simp; exact S.2.2.1.1, fun q g1 g2 => by
      rw [oq q (fun e => g2 (by rw [e]; exact hAa))]
      exact S.2.2.1.2.1 q g1 g2, fun q hq => by
      rcases List.mem_append.mp hq with h | h
      · exact S.2.2.1.2.2 q h
      · obtain ⟨z, -, hz⟩ := List.mem_map.mp h
        rw [← hz]
        exact hAa⟩, S.2.2.2⟩ _ hheap X'
  exact ⟨t, step t a1, b1⟩
end
theorem ai_cll_inv {t : ai_T} {call : ai_C} {y pc : Nat} {lo : List (Option ai_V)} {st : List ai_V} {B : Nat × Nat} {I : ai_I} {J : ai_J} {Rf : ai_R} {G : ai_G} {k : ai_K} (h : ai_cll t call y pc lo st B I J Rf G k) :
    ai_long (ai_nar t y) st = true ∧ (ai_bud t y).1 ≤ B.1 ∧ (ai_bud t y).2 ≤ B.2 ∧ ai_wgt (ai_drops (ai_nar t y) st) ≤ 8 ∧ ai_recv (ai_rcv t y) (ai_rvs (ai_takes (ai_nar t y) st) []) G.1 ∧ ∃ v I1 J1 R1 G1, call y (ai_rvs (ai_takes (ai_nar t y) st) []) I J Rf G v I1 J1 R1 G1 ∧
      k (pc + 3) lo (v.toList ++ ai_drops (ai_nar t y) st) (B.1 - (ai_bud t y).1, B.2 - (ai_bud t y).2) I1 J1 R1 G1 := by
  unfold ai_cll at h
  split at h
  · rename_i hb
    simp only [Bool.and_eq_true] at hb
    obtain ⟨h1, h2, h3, h4⟩ := hb
    exact ⟨h1, Nat.le_of_ble_eq_true h2, Nat.le_of_ble_eq_true h3, Nat.le_of_ble_eq_true h4, h.1, h.2⟩
  · exact h.elim
theorem ai_inv_y {t : ai_T} {F : ai_F} {call : ai_C} {ix pc y : Nat} {lo : List (Option ai_V)} {st : List ai_V} {B : Nat × Nat} {I : ai_I} {J : ai_J} {Rf : ai_R} {G : ai_G} {k : ai_K} (h : ai_inv t F call ix pc lo st B I J Rf G k) (hy : ai_mth t F.1 ix = y) (n1 : y < 990 ∨ y = 997 ∨ y = 996) : ai_cll t call y pc lo st B I J Rf G k := by
  unfold ai_inv at h
  rw [hy] at h
  split at h <;> first | (exfalso; omega) | exact h
/-- the mode of a call's instruction: 0 virtual, 1 static, 2 special -/
def si_ckM (o ix q : Nat) : Bool := match ai_lkp (si_mh o) ix with
  | some r => (match r.2 with
    | 9 => (match q with
      | 0 => decide (r.1 = 997 ∨ r.1 = 996)
      | 1 => decide (r.1 = 998 ∨ r.1 = 995 ∨ r.1 = 994 ∨ r.1 = 993)
      | _ => decide (r.1 = 999))
    | md => decide (md % 3 = q))
  | none => false
theorem si_ckM_spec {o ix q : Nat} (h : si_ckM o ix q = true) : ∃ y md, ai_lkp (si_mh o) ix = some (y, md) ∧ ai_mth si_t o ix = y ∧ ((md = 9 ∧ ((q = 0 ∧ (y = 997 ∨ y = 996)) ∨ (q = 1 ∧ (y = 998 ∨ y = 995 ∨ y = 994 ∨ y = 993)) ∨ (¬ q = 0 ∧ ¬ q = 1 ∧ y = 999))) ∨ (¬ md = 9 ∧ md % 3 = q)) := by
  unfold si_ckM at h
  cases hl : ai_lkp (si_mh o) ix with
  | none => rw [hl] at h; cases h
  | some r =>
    obtain ⟨y, md⟩ := r
    rw [hl] at h
    refine ⟨y, md, rfl, ?_, ?_⟩
    · show ((ai_lkp (si_mh o) ix).getD (1000, 9)).1 = y
      rw [hl]
      rfl
    · simp only at h
      split at h
      · split at h
        · exact Or.inl ⟨rfl, Or.inl ⟨rfl, of_decide_eq_true h⟩⟩
        · exact Or.inl ⟨rfl, Or.inr (Or.inl ⟨rfl, of_decide_eq_true h⟩)⟩
        · rename_i n0 n1
          exact Or.inl ⟨rfl, Or.inr (Or.inr ⟨n0, n1, of_decide_eq_true h⟩)⟩
      · rename_i e
        exact Or.inr ⟨e, of_decide_eq_true h⟩
theorem si_cchk_spec {o : Nat} : ∀ {l : List (Nat × ai_V)} {ps : List Nat}, si_cchk o l ps = true → ∀ (ix : Nat) (v : ai_V), ai_lkp l ix = some v → ∃ q, si_cchk1 o (ix, v) q = true
  | [], _, _, ix, v, h => by cases h
  | r :: l, [], hc, ix, v, h => by cases hc
  | r :: l, q :: ps, hc, ix, v, h => by
    unfold si_cchk at hc
    simp only [Bool.and_eq_true] at hc
    obtain ⟨h1, h2⟩ := hc
    unfold ai_lkp at h
    by_cases e : r.1 = ix
    · rw [if_pos e] at h
      cases h
      have : (ix, r.2) = r := by rw [← e]
      rw [this]
      exact ⟨q, h1⟩
    · rw [if_neg e] at h
      exact si_cchk_spec h2 ix v h
theorem si_ct_all (o : Nat) : si_cchk o (si_ct o) (si_ctp o) = true := by
  by_cases h0 : o = 0
  · subst h0
    exact si_ck_0
  by_cases h2 : o = 2
  · subst h2
    exact si_ck_2
  by_cases h3 : o = 3
  · subst h3
    exact si_ck_3
  by_cases h5 : o = 5
  · subst h5
    exact si_ck_5
  by_cases h7 : o = 7
  · subst h7
    exact si_ck_7
  by_cases h8 : o = 8
  · subst h8
    exact si_ck_8
  by_cases h10 : o = 10
  · subst h10
    exact si_ck_10
  by_cases h21 : o = 21
  · subst h21
    exact si_ck_21
  by_cases h22 : o = 22
  · subst h22
    exact si_ck_22
  by_cases h23 : o = 23
  · subst h23
    exact si_ck_23
  have e : si_ct o = [] := by
    unfold si_ct
    split <;> first | contradiction | rfl
  rw [e]
  rfl
set_option maxRecDepth 100000 in
theorem si_txt_lt {a : Nat} {tx : List Nat} (h : ai_txt si_t a = some tx) : 2000 ≤ a ∧ a - 2000 < 15 := by
  change (si_nth si_tx (a - 2000)).bind (fun q => if a < 2000 then none else some q.2) = some tx at h
  have h2 : 2000 ≤ a := by
    rcases Nat.lt_or_ge a 2000 with q | q
    · exfalso
      cases hn : si_nth si_tx (a - 2000) with
      | none => rw [hn] at h; cases h
      | some u => rw [hn] at h; simp [q] at h
    · exact q
  refine ⟨h2, ?_⟩
  rcases Nat.lt_or_ge (a - 2000) 15 with q | q
  · exact q
  · exfalso
    have key : ∀ (l : List (Nat × List Nat)) (n : Nat), l.length ≤ n → si_nth l n = none := by
      intro l
      induction l with
      | nil => intro n _; rfl
      | cons u l ih =>
        intro n hn
        cases n with
        | zero => simp at hn
        | succ j => exact ih j (by simpa using hn)
    rw [key si_tx (a - 2000) q] at h
    cases h
section
variable {p : Program} {l : Launch} {e : Env} {R : Room} {s : State} {m : MethodId} {args : Array Value} {below : List Frame} {meth : Method} {c : Code} {Q : State → Prop} {cc : ByteArray} {E : si_E} {adV : Nat → Nat} {nL o d : Nat} {ini : Bool}
variable {F : ai_F} {call : ai_C} {post : ai_Q} {k : ai_K} {len pc : Nat} {lo : List (Option ai_V)} {st : List ai_V} {B : Nat × Nat} {I : ai_I} {J : ai_J} {Rf : ai_R} {G : ai_G} {H : Heap} {locs : List Loc} {cells slots : Nat} {ls : Array Slot}
theorem si_s_ldc {ix : Nat} {v : ai_V} (C0 : si_C p R s m args meth c cc E adV nL o ini) (hk : si_ok p l e R s m args below meth c Q E nL k) (S : si_S E s R nL H locs cells slots ls lo B I J Rf G) (hv : ai_lkp (si_ct o) ix = some v)
    (hd : (decode cc pc = .ok (.ldc ix, 2) ∧ len = 2 ∧ ai_cat v = 1) ∨ (decode cc pc = .ok (.ldc_w ix, 3) ∧ len = 3 ∧ ∃ x, v = .inl x) ∨ (decode cc pc = .ok (.ldc2_w ix, 3) ∧ len = 3 ∧ ∃ x, v = .inr (.inl x)))
    (h : k (pc + len) lo (v :: st) B I J Rf G) : W p l e R s m args below meth c H locs cells slots Q (F0 m pc ls (st.map (si_v E))) := by
  obtain ⟨hx, hb, hml, hown, hts, hK, hX, hin, hlaw, hz, hfr, hlo⟩ := C0
  obtain ⟨q, hq⟩ := si_cchk_spec (si_ct_all o) ix _ hv
  unfold si_cchk1 at hq
  rcases v with x | x | a
  · have hw := hts _ (si_good (si_at_mem (of_decide_eq_true hq)) rfl)
    rcases hd with ⟨hd, rfl, -⟩ | ⟨hd, rfl, -⟩ | ⟨hd, rfl, y, hy⟩
    · exact lv_ldc hx hb hown hw hd (hk _ _ _ _ _ _ _ _ _ _ _ _ _ h S)
    · exact lv_ldcw hx hb hown hw hd (hk _ _ _ _ _ _ _ _ _ _ _ _ _ h S)
    · cases hy
  · have hw := hts _ (si_good (si_at_mem (of_decide_eq_true hq)) rfl)
    rcases hd with ⟨hd, rfl, h2⟩ | ⟨hd, rfl, y, hy⟩ | ⟨hd, rfl, -⟩
    · cases h2
    · cases hy
    · exact lv_ldc2 hx hb hown hw hd (hk _ _ _ _ _ _ _ _ _ _ _ _ _ h S)
  · simp only [Bool.and_eq_true, decide_eq_true_eq] at hq
    obtain ⟨⟨ho, h2000⟩, hq⟩ := hq
    split at hq
    · rename_i u hu
      have hq := of_decide_eq_true hq
      obtain ⟨hq1, hq2⟩ := hq
      have hR := hX.2.2.1 _ _ hu
      rw [hq1, show 2000 + (a - 2000) = a by omega, ← ho] at hR
      rcases hd with ⟨hd, rfl, h2⟩ | ⟨hd, rfl, y, hy⟩ | ⟨hd, rfl, y, hy⟩
      · have hh := hk _ _ _ _ _ _ _ _ _ _ _ _ _ h S
        rw [show (Sum.inr (Sum.inr a) :: st : List ai_V).map (si_v E) = si_v E (.inr (.inr a)) :: st.map (si_v E) from rfl, si_v_pos (by omega)] at hh
        exact va_ldcS hx hb hown hR hd hh
      · cases hy
      · cases hy
    · cases hq
/-- a call of String.length, String.charAt -/
theorem si_inv_str {ix y : Nat} {as : List ai_V} {v : Option ai_V} {I1 : ai_I} {J1 : ai_J} {R1 : ai_R} {G1 : ai_G} (C0 : si_C p R s m args meth c cc E adV nL o ini) (hk : si_ok p l e R s m args below meth c Q E nL k) (hd : decode cc pc = .ok (.invokevirtual ix, 3)) (S : si_S E s R nL H locs cells slots ls lo B I J Rf G)
    (hy : ai_lkp (si_mh o) ix = some (y, 9)) (h2 : y = 997 ∨ y = 996) (hfr : d + 1 ≤ R.frames) (hlo : 42 * d + 42 ≤ R.locals)
    (has : ai_rvs (ai_takes (ai_nar si_t y) st) [] = as) (hlong : ai_long (ai_nar si_t y) st = true) (hwt : ai_wgt (ai_drops (ai_nar si_t y) st) ≤ 8)
    (hM : (∃ (a : Nat) (r : List ai_V) (tx : List Nat), as = .inr (.inr a) :: r ∧ ai_txt si_t a = some tx) ∧ si_Met l E adV d (si_sn y) (si_smx y) y as I J Rf G v I1 J1 R1 G1)
    (h : k (pc + 3) lo (v.toList ++ ai_drops (ai_nar si_t y) st) (B.1, B.2) I1 J1 R1 G1) : W p l e R s m args below meth c H locs cells slots Q (F0 m pc ls (st.map (si_v E))) := by
  obtain ⟨hx, hb, hml, hown, hts, hK, hX, hin, hlaw, hz, -, -⟩ := C0
  obtain ⟨⟨a, ar, tx, rfl, htx⟩, hM⟩ := hM
  obtain ⟨t1, t2⟩ := si_txt_lt htx
  obtain ⟨hm, q, hq⟩ := si_mchk_spec (si_mh_all o) ix _ hy
  unfold si_Met at hM
  have hlen := si_as_len has hlong
  have hWt : 2 * (F0 m pc ls (st.map (si_v E))).monitorRoom + (((ai_drops (ai_nar si_t y) st).map (si_v E)).map fun v => v.category).sum ≤ 8 := lv_room (by rw [si_wgt]; exact hwt)
  have hstk := si_stk (E := E) has
  have hsz : (F0 m pc ls (st.map (si_v E))).locals.size = nL := S.2.1.1
  have hav : (Sum.inr (Sum.inr a) :: ar : List ai_V).map (si_v E) = .ref (si_ad E a) :: ar.map (si_v E) := by
    rw [← si_v_pos (by omega)]
    rfl
  have hpre := si_pre (as := .inr (.inr a) :: ar) (E := E) S hK hX
  rw [hav] at hM hpre hstk
  have hstk2 : st.map (si_v E) = (ar.map (si_v E)).reverse ++ .ref (si_ad E a) :: (ai_drops (ai_nar si_t y) st).map (si_v E) := by
    rw [hstk]
    simp
  have hrecv : ∃ cellB : Cell, H[si_ad E a]? = some cellB ∧ cellB.vm.isStatics = false ∧ s.vm.findClass "java/lang/String" = some cellB.cls := by
    have := vk_recv hX.2.2.2.1 t2 S.2.2.1
    rw [show 2000 + (a - 2000) = a by omega] at this
    exact this
  have hR : ∀ x, x ≤ 2 → (si_rm d y).frames + 1 ≤ R.frames ∧ 8 + (x + 11) + (si_rm d y).locals ≤ R.locals := fun x hx2 => ⟨hfr, by show 8 + (x + 11) + 42 * d ≤ _; omega⟩
  have hini := hts _ (si_good si_w_13 rfl)
  rcases h2 with rfl | rfl
  · have hcb : cells + (si_bl 997).1 ≤ R.cells ∧ slots + (si_bl 997).2 ≤ R.slots := ⟨by have := S.2.2.2.1; show cells + 0 ≤ _; omega, by have := S.2.2.2.2; show slots + 0 ≤ _; omega⟩
    have hlk : Cond.methodLink (si_RS o) ix ⟨"java/lang/String", "length", "()I"⟩ ∈ si_aTs := si_good (si_at_mem (of_decide_eq_true hq).1) rfl
    exact si_after hk (va_runV ⟨hx, hb, hml, hown, hts⟩ hM ⟨callB_of 0 hts (si_goodIn (si_good si_wt_0 rfl)) rfl rfl rfl hini (hts _ hlk) ⟨by decide, by decide, by decide +kernel⟩ (hR 1 (by decide)), hts _ (si_good si_w_14 rfl), hts _ (si_good si_w_15 rfl)⟩ ⟨si_blind, hrecv, hpre⟩ rfl (by
      have : ar.length + 1 = 1 := hlen
      rw [List.length_map]
      omega) hsz hstk2 hWt hd hcb) S (Nat.zero_le _) (Nat.zero_le _) h
  · have hcb : cells + (si_bl 996).1 ≤ R.cells ∧ slots + (si_bl 996).2 ≤ R.slots := ⟨by have := S.2.2.2.1; show cells + 0 ≤ _; omega, by have := S.2.2.2.2; show slots + 0 ≤ _; omega⟩
    have hlk : Cond.methodLink (si_RS o) ix ⟨"java/lang/String", "charAt", "(I)C"⟩ ∈ si_aTs := si_good (si_at_mem (of_decide_eq_true hq).1) rfl
    exact si_after hk (va_runV ⟨hx, hb, hml, hown, hts⟩ hM ⟨callB_of 1 hts (si_goodIn (si_good si_wt_1 rfl)) rfl rfl rfl hini (hts _ hlk) ⟨by decide, by decide, by decide +kernel⟩ (hR 2 (by decide)), hts _ (si_good si_w_16 rfl), hts _ (si_good si_w_17 rfl)⟩ ⟨si_blind, hrecv, hpre⟩ rfl (by
      have : ar.length + 1 = 2 := hlen
      rw [List.length_map]
      omega) hsz hstk2 hWt hd hcb) S (Nat.zero_le _) (Nat.zero_le _) h
/-- a call, virtual -/
theorem si_s_invoke {ix q : Nat} {op : Instr} (hop : (q = 0 ∧ op = .invokevirtual ix) ∨ (q = 1 ∧ op = .invokestatic ix) ∨ (q = 2 ∧ op = .invokespecial ix)) (C0 : si_C p R s m args meth c cc E adV nL o ini) (hk : si_ok p l e R s m args below meth c Q E nL k) (hd : decode cc pc = .ok (op, 3)) (hF : F.1 = o) (hck : si_ckM o ix q = true)
    (hcall : si_call l E adV d call) (hfr : d + 1 ≤ R.frames) (hlo : 42 * d + 42 ≤ R.locals) (S : si_S E s R nL H locs cells slots ls lo B I J Rf G) (h : ai_inv si_t F call ix pc lo st B I J Rf G k) : W p l e R s m args below meth c H locs cells slots Q (F0 m pc ls (st.map (si_v E))) := by
  obtain ⟨y, md, hl, hy, hm⟩ := si_ckM_spec hck
  have hy2 : ai_mth si_t F.1 ix = y := by rw [hF]; exact hy
  obtain ⟨hm1, qq, hq⟩ := si_mchk_spec (si_mh_all o) ix _ hl
  have C1 := C0
  obtain ⟨hx, hb, hml, hown, hts, hK, hX, hin, hlaw, hz, hfr1, hlo1⟩ := C1
  rcases hm with ⟨rfl, hm⟩ | ⟨hmd, hmq⟩
  · rcases hm with ⟨rfl, hm⟩ | ⟨rfl, hm⟩ | ⟨n0, n1, rfl⟩
    · have e1 : op = .invokevirtual ix := by
        rcases hop with ⟨-, e1⟩ | ⟨e1, -⟩ | ⟨e1, -⟩
        · exact e1
        · cases e1
        · cases e1
      subst e1
      obtain ⟨g1, g2, g3, g4, g5, v, I1, J1, R1, G1, g6, g7⟩ := ai_cll_inv (ai_inv_y h hy2 (Or.inr hm))
      have hb0 : ai_bud si_t y = (0, 0) := by rcases hm with rfl | rfl <;> rfl
      rw [hb0] at g7
      exact si_inv_str C0 hk hd S hl hm hfr hlo rfl g1 g4 ((hcall _ _ _ _ _ _ _ _ _ _ _ g6).2 hm) g7
    · have e1 : op = .invokestatic ix := by
        rcases hop with ⟨e1, -⟩ | ⟨-, e1⟩ | ⟨e1, -⟩
        · cases e1
        · exact e1
        · cases e1
      subst e1
      unfold ai_inv at h
      rw [hy2] at h
      unfold si_mchk1 at hq
      rcases hm with rfl | rfl | rfl | rfl
      · change (match (generalizing := false) st with
          | .inl n :: .inl dp :: .inr (.inr a) :: .inl sp :: .inr (.inr a0) :: r => ai_cpyOk G.1 G.2.1 a0 a sp dp n ∧ ai_wgt r ≤ 8 ∧ k (pc + 3) lo r B (va_up I a (va_cpy (I a0) (I a) sp.toNatClampNeg dp.toNatClampNeg n.toNatClampNeg)) J Rf G
          | _ => False) at h
        split at h
        · rename_i n dp a sp a0 r
          obtain ⟨⟨k0, k1, p1, p2, p3, p4, p5⟩, hw, h⟩ := h
          have ha := (S.1.2.2.1 a (by omega))
          have ha0 := (S.1.2.2.1 a0 (by omega)).1
          have hlk : Cond.methodLink (si_RS o) ix arraycopyName ∈ si_aTs := si_good (si_at_mem (of_decide_eq_true hq)) rfl
          rw [show (Sum.inl n :: Sum.inl dp :: Sum.inr (Sum.inr a) :: Sum.inl sp :: Sum.inr (Sum.inr a0) :: r : List ai_V).map (si_v E) = .int n :: .int dp :: si_v E (.inr (.inr a)) :: .int sp :: si_v E (.inr (.inr a0)) :: r.map (si_v E) from rfl, si_v_pos ha.1, si_v_pos ha0]
          refine si_copy hx hb (hml.trans S.2.1.1.symm) hown (hts _ hlk) (hts _ (si_good si_w_2 rfl)) (hts _ (si_good si_w_3 rfl)) (hts _ (si_good si_w_4 rfl)) hK S k0 k1 p1 p2 p3 p4 p5 hfr1 (by rw [si_wgt]; show _ + (7 + 11) ≤ _; omega) hd (fun H1 locs1 S1 => ?_)
          exact hk _ _ _ _ _ _ _ _ _ _ _ _ _ h S1
        · exact h.elim
      · change (match (generalizing := false) st with
          | .inl y :: .inl x :: r => ai_wgt r ≤ 8 ∧ k (pc + 3) lo (.inl (if x < y then y else x) :: r) B I J Rf G
          | _ => False) at h
        split at h
        · exact va_mmax hx hb (hml.trans S.2.1.1.symm) hown (hts _ (si_good (si_at_mem (of_decide_eq_true hq)) rfl)) (hts _ (si_good si_w_10 rfl)) (hts _ (si_good si_w_9 rfl)) (hts _ (si_good si_wm_0 rfl)) hfr1 (by rw [si_wgt]; omega) (by have := S.2.2.2.1; omega) (by have := S.2.2.2.2; omega) hd (hk _ _ _ _ _ _ _ _ _ _ _ _ _ h.2 S)
        · exact h.elim
      · change (match (generalizing := false) st with
          | .inl y :: .inl x :: r => ai_wgt r ≤ 8 ∧ k (pc + 3) lo (.inl (if y < x then y else x) :: r) B I J Rf G
          | _ => False) at h
        split at h
        · exact va_mmin hx hb (hml.trans S.2.1.1.symm) hown (hts _ (si_good (si_at_mem (of_decide_eq_true hq)) rfl)) (hts _ (si_good si_w_11 rfl)) (hts _ (si_good si_w_9 rfl)) (hts _ (si_good si_wm_1 rfl)) hfr1 (by rw [si_wgt]; omega) (by have := S.2.2.2.1; omega) (by have := S.2.2.2.2; omega) hd (hk _ _ _ _ _ _ _ _ _ _ _ _ _ h.2 S)
        · exact h.elim
      · change (match (generalizing := false) st with
          | .inl x :: r => ai_wgt r ≤ 8 ∧ k (pc + 3) lo (.inl (if 0 ≤ x then x else 0 - x) :: r) B I J Rf G
          | _ => False) at h
        split at h
        · exact va_mabs hx hb (hml.trans S.2.1.1.symm) hown (hts _ (si_good (si_at_mem (of_decide_eq_true hq)) rfl)) (hts _ (si_good si_w_12 rfl)) (hts _ (si_good si_w_9 rfl)) (hts _ (si_good si_wm_2 rfl)) hfr1 (by rw [si_wgt]; omega) (by have := S.2.2.2.1; omega) (by have := S.2.2.2.2; omega) hd (hk _ _ _ _ _ _ _ _ _ _ _ _ _ h.2 S)
        · exact h.elim
    · have e1 : op = .invokespecial ix := by
        rcases hop with ⟨e1, -⟩ | ⟨e1, -⟩ | ⟨-, e1⟩
        · exact absurd e1 n0
        · exact absurd e1 n1
        · exact e1
      subst e1
      unfold ai_inv at h
      rw [hy2] at h
      unfold si_mchk1 at hq
      change (match (generalizing := false) st with
        | .inr (.inr a) :: r => ¬ a = 0 ∧ ai_wgt r ≤ 8 ∧ k (pc + 3) lo r B I J Rf G
        | _ => False) at h
      split at h
      · rename_i a r
        rw [show (Sum.inr (Sum.inr a) :: r : List ai_V).map (si_v E) = si_v E (.inr (.inr a)) :: r.map (si_v E) from rfl, si_v_pos (by have := h.1; omega)]
        exact W.objInit hx hb hown (hts _ (si_good (si_at_mem (of_decide_eq_true hq)) rfl)) (hts _ (si_good si_w_1 rfl)) (hts _ (si_good si_w_0 rfl)) rfl (S.2.1.1.trans hml.symm) rfl hd hfr1 (Nat.le_trans (Nat.add_le_add_right (lv_room (by rw [si_wgt]; exact h.2.1)) 12) (by omega)) (hk _ _ _ _ _ _ _ _ _ _ _ _ _ h.2.2 S)
      · exact h.elim
  · obtain ⟨hy333, -⟩ := si_link hl hmd
    obtain ⟨g1, g2, g3, g4, g5, v, I1, J1, R1, G1, g6, g7⟩ := ai_cll_inv (ai_inv_y h hy2 (Or.inl (by omega)))
    refine si_inv_tbl C0 hk hd S hl hmd ⟨fun z => ?_, fun z => ?_, fun z => ?_⟩ hfr hlo rfl g1 g2 g3 g4 g5 ((hcall _ _ _ _ _ _ _ _ _ _ _ g6).1 hy333) g7
    · rcases hop with ⟨e0, e1⟩ | ⟨e0, e1⟩ | ⟨e0, e1⟩
      · exact e1
      · omega
      · omega
    · rcases hop with ⟨e0, e1⟩ | ⟨e0, e1⟩ | ⟨e0, e1⟩
      · omega
      · exact e1
      · omega
    · rcases hop with ⟨e0, e1⟩ | ⟨e0, e1⟩ | ⟨e0, e1⟩
      · omega
      · omega
      · exact e1
end
end
section
/-! Any one instruction; a run; a method. -/
/-- what a program decides of an instruction: its length, where it goes, its links -/
def si_ck (o nL pc : Nat) (op : Instr) (len : Nat) : Bool := match op with
  | .iconst _ => len == 1
  | .bipush _ => len == 2
  | .sipush _ => len == 3
  | .lconst _ => len == 1
  | .aconst_null => len == 1
  | .ldc ix => len == 2 && (match ai_lkp (si_ct o) ix with
    | some v => decide (ai_cat v = 1)
    | none => false)
  | .ldc_w ix => len == 3 && (match ai_lkp (si_ct o) ix with
    | some (.inl _) => true
    | _ => false)
  | .ldc2_w ix => len == 3 && (match ai_lkp (si_ct o) ix with
    | some (.inr (.inl _)) => true
    | _ => false)
  | .iload _ => len == 2
  | .iload_n _ => len == 1
  | .lload _ => len == 2
  | .lload_n _ => len == 1
  | .aload _ => len == 2
  | .aload_n _ => len == 1
  | .istore i => len == 2 && decide (i < nL)
  | .istore_n i => len == 1 && decide (i.val < nL)
  | .lstore i => len == 2 && decide (i + 1 < nL)
  | .lstore_n i => len == 1 && decide (i.val + 1 < nL)
  | .astore i => len == 2 && decide (i < nL)
  | .astore_n i => len == 1 && decide (i.val < nL)
  | .iinc _ _ => len == 3
  | .goto off => len == 3 && decide (0 ≤ (pc : Int) + off)
  | .ifCond _ off => len == 3 && decide (0 ≤ (pc : Int) + off)
  | .if_icmp _ off => len == 3 && decide (0 ≤ (pc : Int) + off)
  | .ifnull off => len == 3 && decide (0 ≤ (pc : Int) + off)
  | .ifnonnull off => len == 3 && decide (0 ≤ (pc : Int) + off)
  | .tableswitch d lq hq os => decide (0 ≤ (pc : Int) + d) && (os.toList.all (fun off => decide (0 ≤ (pc : Int) + off)) && decide (hq - lq < (os.toList.length : Int)))
  | .getfield ix => len == 3 && decide ((ai_fld si_t o ix).1 < 11)
  | .putfield ix => len == 3 && decide ((ai_fld si_t o ix).1 < 11)
  | .new ix => len == 3 && decide (ai_cls si_t o ix < 11)
  | .newarray _ => len == 2
  | .anewarray _ => len == 3
  | .invokevirtual ix => len == 3 && si_ckM o ix 0
  | .invokestatic ix => len == 3 && si_ckM o ix 1
  | .invokespecial ix => len == 3 && si_ckM o ix 2
  | _ => len == 1
/-- the end of a method: what is on the stack, what comes back -/
def ai_rto (rc : Nat) (op : Instr) (st : List ai_V) (v : Option ai_V) : Prop :=
  (op = .ireturn ∧ ∃ x, st = [.inl x] ∧ v = some (.inl x) ∧ ai_fitB rc x) ∨ (op = .lreturn ∧ ∃ x, st = [.inr (.inl x)] ∧ v = some (.inr (.inl x)) ∧ rc = 1) ∨ (op = .areturn ∧ ∃ x, st = [.inr (.inr x)] ∧ v = some (.inr (.inr x)) ∧ rc = 2) ∨ (op = .return_ ∧ st = [] ∧ v = none ∧ rc = 9)
def si_end (p : Program) (l : Launch) (e : Env) (R : Room) (s : State) (m : MethodId) (args : Array Value) (below : List Frame) (meth : Method) (c : Code) (Q : State → Prop) (cc : ByteArray) (E : si_E) (rc : Nat) (post : ai_Q) : Prop :=
  ∀ (pc : Nat) (op : Instr) (st : List ai_V) (v : Option ai_V) (I : ai_I) (J : ai_J) (Rf : ai_R) (G : ai_G) (H : Heap) (locs : List Loc) (cells slots : Nat) (ls : Array Slot), decode cc pc = .ok (op, 1) → ai_rto rc op st v → post v I J Rf G → si_P E H I J Rf G → va_S (si_A E) s.heap H locs → cells ≤ R.cells → slots ≤ R.slots →
    W p l e R s m args below meth c H locs cells slots Q (F0 m pc ls (st.map (si_v E)))
section
variable {p : Program} {l : Launch} {e : Env} {R : Room} {s : State} {m : MethodId} {args : Array Value} {below : List Frame} {meth : Method} {c : Code} {Q : State → Prop} {cc : ByteArray} {E : si_E} {adV : Nat → Nat} {nL o d : Nat} {ini : Bool}
variable {F : ai_F} {call : ai_C} {post : ai_Q} {k : ai_K} {len pc : Nat} {lo : List (Option ai_V)} {st : List ai_V} {B : Nat × Nat} {I : ai_I} {J : ai_J} {Rf : ai_R} {G : ai_G} {H : Heap} {locs : List Loc} {cells slots : Nat} {ls : Array Slot}
set_option maxHeartbeats 4000000 in
theorem si_step {op : Instr} (C0 : si_C p R s m args meth c cc E adV nL o ini) (hk : si_ok p l e R s m args below meth c Q E nL k) (hd : decode cc pc = .ok (op, len)) (hck : si_ck o nL pc op len = true) (hF : F.1 = o) (hF2 : F.2.1 = ini) (hcall : si_call l E adV d call) (hfr : d + 1 ≤ R.frames) (hlo : 42 * d + 42 ≤ R.locals)
    (hend : si_end p l e R s m args below meth c Q cc E F.2.2.1 post) (S : si_S E s R nL H locs cells slots ls lo B I J Rf G) (h : ai_stp si_t F call post op len pc lo st B I J Rf G k) : W p l e R s m args below meth c H locs cells slots Q (F0 m pc ls (st.map (si_v E))) := by
  have hc1 : cells ≤ R.cells := by have := S.2.2.2.1; omega
  have hs1 : slots ≤ R.slots := by have := S.2.2.2.2; omega
  cases op with
  | iconst n => exact si_s_iconst C0 hk hd (by simpa [si_ck] using hck) S h
  | bipush n => exact si_s_bipush C0 hk hd (by simpa [si_ck] using hck) S h
  | sipush n => exact si_s_sipush C0 hk hd (by simpa [si_ck] using hck) S h
  | lconst n => exact si_s_lconst C0 hk hd (by simpa [si_ck] using hck) S h
  | aconst_null => exact si_s_aconst_null C0 hk hd (by simpa [si_ck] using hck) S h
  | iload i => exact si_s_iload C0 hk hd (by simpa [si_ck] using hck) S h
  | iload_n i => exact si_s_iload_n C0 hk hd (by simpa [si_ck] using hck) S h
  | lload i => exact si_s_lload C0 hk hd (by simpa [si_ck] using hck) S h
  | lload_n i => exact si_s_lload_n C0 hk hd (by simpa [si_ck] using hck) S h
  | aload i => exact si_s_aload C0 hk hd (by simpa [si_ck] using hck) S h
  | aload_n i => exact si_s_aload_n C0 hk hd (by simpa [si_ck] using hck) S h
  | iinc i n => exact si_s_iinc C0 hk hd (by simpa [si_ck] using hck) S h
  | iadd => exact si_s_iadd C0 hk hd (by simpa [si_ck] using hck) S h
  | isub => exact si_s_isub C0 hk hd (by simpa [si_ck] using hck) S h
  | imul => exact si_s_imul C0 hk hd (by simpa [si_ck] using hck) S h
  | iand => exact si_s_iand C0 hk hd (by simpa [si_ck] using hck) S h
  | ior => exact si_s_ior C0 hk hd (by simpa [si_ck] using hck) S h
  | ixor => exact si_s_ixor C0 hk hd (by simpa [si_ck] using hck) S h
  | ishl => exact si_s_ishl C0 hk hd (by simpa [si_ck] using hck) S h
  | ishr => exact si_s_ishr C0 hk hd (by simpa [si_ck] using hck) S h
  | iushr => exact si_s_iushr C0 hk hd (by simpa [si_ck] using hck) S h
  | ineg => exact si_s_ineg C0 hk hd (by simpa [si_ck] using hck) S h
  | i2b => exact si_s_i2b C0 hk hd (by simpa [si_ck] using hck) S h
  | idiv => exact si_s_idiv C0 hk hd (by simpa [si_ck] using hck) S h
  | irem => exact si_s_irem C0 hk hd (by simpa [si_ck] using hck) S h
  | ladd => exact si_s_ladd C0 hk hd (by simpa [si_ck] using hck) S h
  | lsub => exact si_s_lsub C0 hk hd (by simpa [si_ck] using hck) S h
  | lmul => exact si_s_lmul C0 hk hd (by simpa [si_ck] using hck) S h
  | ldiv => exact si_s_ldiv C0 hk hd (by simpa [si_ck] using hck) S h
  | lrem => exact si_s_lrem C0 hk hd (by simpa [si_ck] using hck) S h
  | i2l => exact si_s_i2l C0 hk hd (by simpa [si_ck] using hck) S h
  | lcmp => exact si_s_lcmp C0 hk hd (by simpa [si_ck] using hck) S h
  | dup => exact si_s_dup C0 hk hd (by simpa [si_ck] using hck) S h
  | dup2 => exact si_s_dup2 C0 hk hd (by simpa [si_ck] using hck) S h
  | pop => exact si_s_pop C0 hk hd (by simpa [si_ck] using hck) S h
  | baload => exact si_s_baload C0 hk hd (by simpa [si_ck] using hck) S h
  | laload => exact si_s_laload C0 hk hd (by simpa [si_ck] using hck) S h
  | aaload => exact si_s_aaload C0 hk hd (by simpa [si_ck] using hck) S h
  | iastore => exact si_s_iastore C0 hk hd (by simpa [si_ck] using hck) S h
  | bastore => exact si_s_bastore C0 hk hd (by simpa [si_ck] using hck) S h
  | lastore => exact si_s_lastore C0 hk hd (by simpa [si_ck] using hck) S h
  | aastore => exact si_s_aastore C0 hk hd (by simpa [si_ck] using hck) S h
  | iaload => exact si_s_iaload C0 hk hd (by simpa [si_ck] using hck) hF S h
  | arraylength => exact si_s_arraylength C0 hk hd (by simpa [si_ck] using hck) hF S h
  | istore i =>
    simp only [si_ck, Bool.and_eq_true, beq_iff_eq, decide_eq_true_eq] at hck
    exact si_s_istore C0 hk hd hck.1 hck.2 S h
  | istore_n i =>
    simp only [si_ck, Bool.and_eq_true, beq_iff_eq, decide_eq_true_eq] at hck
    exact si_s_istore_n C0 hk hd hck.1 hck.2 S h
  | lstore i =>
    simp only [si_ck, Bool.and_eq_true, beq_iff_eq, decide_eq_true_eq] at hck
    exact si_s_lstore C0 hk hd hck.1 hck.2 S h
  | lstore_n i =>
    simp only [si_ck, Bool.and_eq_true, beq_iff_eq, decide_eq_true_eq] at hck
    exact si_s_lstore_n C0 hk hd hck.1 hck.2 S h
  | astore i =>
    simp only [si_ck, Bool.and_eq_true, beq_iff_eq, decide_eq_true_eq] at hck
    exact si_s_astore C0 hk hd hck.1 hck.2 S h
  | astore_n i =>
    simp only [si_ck, Bool.and_eq_true, beq_iff_eq, decide_eq_true_eq] at hck
    exact si_s_astore_n C0 hk hd hck.1 hck.2 S h
  | goto off =>
    simp only [si_ck, Bool.and_eq_true, beq_iff_eq, decide_eq_true_eq] at hck
    exact si_s_goto C0 hk hd hck.1 hck.2 S h
  | ifCond cn off =>
    simp only [si_ck, Bool.and_eq_true, beq_iff_eq, decide_eq_true_eq] at hck
    exact si_s_ifCond C0 hk hd hck.1 hck.2 S h
  | if_icmp cn off =>
    simp only [si_ck, Bool.and_eq_true, beq_iff_eq, decide_eq_true_eq] at hck
    exact si_s_if_icmp C0 hk hd hck.1 hck.2 S h
  | ifnull off =>
    simp only [si_ck, Bool.and_eq_true, beq_iff_eq, decide_eq_true_eq] at hck
    exact si_s_ifnull C0 hk hd hck.1 hck.2 S h
  | ifnonnull off =>
    simp only [si_ck, Bool.and_eq_true, beq_iff_eq, decide_eq_true_eq] at hck
    exact si_s_ifnonnull C0 hk hd hck.1 hck.2 S h
  | tableswitch dq lq hq os =>
    simp only [si_ck, Bool.and_eq_true, decide_eq_true_eq, List.all_eq_true] at hck
    exact si_s_tableswitch C0 hk hd hck.1 hck.2.1 hck.2.2 S h
  | getfield ix =>
    simp only [si_ck, Bool.and_eq_true, beq_iff_eq, decide_eq_true_eq] at hck
    exact si_s_getfield C0 hk hd hck.1 hF hck.2 S h
  | putfield ix =>
    simp only [si_ck, Bool.and_eq_true, beq_iff_eq, decide_eq_true_eq] at hck
    exact si_s_putfield C0 hk hd hck.1 hF hF2 hck.2 S h
  | new ix =>
    simp only [si_ck, Bool.and_eq_true, beq_iff_eq, decide_eq_true_eq] at hck
    exact si_s_new C0 hk hd hck.1 hF hck.2 S h
  | newarray ty => exact si_s_newarray C0 hk hd (by simpa [si_ck] using hck) S h
  | anewarray ix => exact si_s_anewarray C0 hk hd (by simpa [si_ck] using hck) hF S h
  | invokevirtual ix =>
    simp only [si_ck, Bool.and_eq_true, beq_iff_eq] at hck
    obtain ⟨rfl, hck⟩ := hck
    exact si_s_invoke (Or.inl ⟨rfl, rfl⟩) C0 hk hd hF hck hcall hfr hlo S h
  | invokestatic ix =>
    simp only [si_ck, Bool.and_eq_true, beq_iff_eq] at hck
    obtain ⟨rfl, hck⟩ := hck
    exact si_s_invoke (Or.inr (Or.inl ⟨rfl, rfl⟩)) C0 hk hd hF hck hcall hfr hlo S h
  | invokespecial ix =>
    simp only [si_ck, Bool.and_eq_true, beq_iff_eq] at hck
    obtain ⟨rfl, hck⟩ := hck
    exact si_s_invoke (Or.inr (Or.inr ⟨rfl, rfl⟩)) C0 hk hd hF hck hcall hfr hlo S h
  | ldc ix =>
    simp only [si_ck, Bool.and_eq_true, beq_iff_eq] at hck
    obtain ⟨rfl, hck⟩ := hck
    change (match (generalizing := false) ai_lkp (si_ct F.1) ix with
      | some v => k (pc + 2) lo (v :: st) B I J Rf G
      | none => False) at h
    rw [hF] at h
    cases hv : ai_lkp (si_ct o) ix with
    | none => rw [hv] at h; exact h.elim
    | some v =>
      rw [hv] at h hck
      exact si_s_ldc C0 hk S hv (Or.inl ⟨hd, rfl, of_decide_eq_true hck⟩) h
  | ldc_w ix =>
    simp only [si_ck, Bool.and_eq_true, beq_iff_eq] at hck
    obtain ⟨rfl, hck⟩ := hck
    change (match (generalizing := false) ai_lkp (si_ct F.1) ix with
      | some v => k (pc + 3) lo (v :: st) B I J Rf G
      | none => False) at h
    rw [hF] at h
    cases hv : ai_lkp (si_ct o) ix with
    | none => rw [hv] at h; exact h.elim
    | some v =>
      rw [hv] at h hck
      have hx : ∃ x, v = .inl x := by
        rcases v with x | x | a
        · exact ⟨x, rfl⟩
        · cases hck
        · cases hck
      exact si_s_ldc C0 hk S hv (Or.inr (Or.inl ⟨hd, rfl, hx⟩)) h
  | ldc2_w ix =>
    simp only [si_ck, Bool.and_eq_true, beq_iff_eq] at hck
    obtain ⟨rfl, hck⟩ := hck
    change (match (generalizing := false) ai_lkp (si_ct F.1) ix with
      | some v => k (pc + 3) lo (v :: st) B I J Rf G
      | none => False) at h
    rw [hF] at h
    cases hv : ai_lkp (si_ct o) ix with
    | none => rw [hv] at h; exact h.elim
    | some v =>
      rw [hv] at h hck
      have hx : ∃ x, v = .inr (.inl x) := by
        rcases v with x | x | a
        · cases hck
        · exact ⟨x, rfl⟩
        · cases hck
      exact si_s_ldc C0 hk S hv (Or.inr (Or.inr ⟨hd, rfl, hx⟩)) h
  | ireturn =>
    have hl : len = 1 := by simpa [si_ck] using hck
    subst hl
    change (match (generalizing := false) st with
      | [.inl x] => ai_fitB F.2.2.1 x ∧ post (some (.inl x)) I J Rf G
      | _ => False) at h
    split at h
    · exact hend _ _ _ _ _ _ _ _ _ _ _ _ _ hd (Or.inl ⟨rfl, _, rfl, rfl, h.1⟩) h.2 S.1 S.2.2.1 hc1 hs1
    · exact h.elim
  | lreturn =>
    have hl : len = 1 := by simpa [si_ck] using hck
    subst hl
    change (match (generalizing := false) st with
      | [.inr (.inl x)] => F.2.2.1 = 1 ∧ post (some (.inr (.inl x))) I J Rf G
      | _ => False) at h
    split at h
    · exact hend _ _ _ _ _ _ _ _ _ _ _ _ _ hd (Or.inr (Or.inl ⟨rfl, _, rfl, rfl, h.1⟩)) h.2 S.1 S.2.2.1 hc1 hs1
    · exact h.elim
  | areturn =>
    have hl : len = 1 := by simpa [si_ck] using hck
    subst hl
    change (match (generalizing := false) st with
      | [.inr (.inr x)] => F.2.2.1 = 2 ∧ post (some (.inr (.inr x))) I J Rf G
      | _ => False) at h
    split at h
    · exact hend _ _ _ _ _ _ _ _ _ _ _ _ _ hd (Or.inr (Or.inr (Or.inl ⟨rfl, _, rfl, rfl, h.1⟩))) h.2 S.1 S.2.2.1 hc1 hs1
    · exact h.elim
  | return_ =>
    have hl : len = 1 := by simpa [si_ck] using hck
    subst hl
    change (match (generalizing := false) st with
      | [] => F.2.2.1 = 9 ∧ post none I J Rf G
      | _ => False) at h
    split at h
    · exact hend _ _ _ _ _ _ _ _ _ _ _ _ _ hd (Or.inr (Or.inr (Or.inr ⟨rfl, rfl, rfl, h.1⟩))) h.2 S.1 S.2.2.1 hc1 hs1
    · exact h.elim
  | _ => exact False.elim h
/-- a run -/
theorem si_run (C0 : si_C p R s m args meth c cc E adV nL o ini) (hF : F.1 = o) (hF2 : F.2.1 = ini) (hcall : si_call l E adV d call) (hfr : d + 1 ≤ R.frames) (hlo : 42 * d + 42 ≤ R.locals)
    (hend : si_end p l e R s m args below meth c Q cc E F.2.2.1 post) (hcode : ∀ (pc : Nat) (q : Instr × Nat), ai_lkp F.2.2.2 pc = some q → decode cc pc = .ok q ∧ si_ck o nL pc q.1 q.2 = true) : ∀ n : Nat, si_ok p l e R s m args below meth c Q E nL (ai_W si_t F call post [] n)
  | 0 => fun _ _ _ _ _ _ _ _ _ _ _ _ _ h _ => h.elim
  | n + 1 => by
    intro pc lo st B I J Rf G H locs cells slots ls h S
    change (match (generalizing := false) ai_lkp F.2.2.2 pc with
      | some q => ai_stp si_t F call post q.1 q.2 pc lo st B I J Rf G (ai_W si_t F call post [] n)
      | none => False) at h
    cases hq : ai_lkp F.2.2.2 pc with
    | none => rw [hq] at h; exact h.elim
    | some q =>
      rw [hq] at h
      obtain ⟨h1, h2⟩ := hcode pc q hq
      exact si_step C0 (si_run C0 hF hF2 hcall hfr hlo hend hcode n) h1 h2 hF hF2 hcall hfr hlo hend S h
end
theorem ai_lkp_mem {α : Type} : ∀ {l : List (Nat × α)} {k : Nat} {v : α}, ai_lkp l k = some v → (k, v) ∈ l
  | [], _, _, h => by cases h
  | q :: l, k, v, h => by
    unfold ai_lkp at h
    by_cases e : q.1 = k
    · rw [if_pos e] at h
      cases h
      rw [← e]
      exact List.mem_cons_self
    · rw [if_neg e] at h
      exact List.mem_cons_of_mem _ (ai_lkp_mem h)
/-- each method's list is what its bytes decode to -/
def si_vdl : List (MethodName × ByteArray × Option FieldType) → List (ai_F × Nat × Nat × Nat) → Prop
  | n :: ns, u :: us => vd_ok n.2.1 u.1.2.2.2 = true ∧ si_vdl ns us
  | _, _ => True
theorem si_vdl_nth : ∀ {ns : List (MethodName × ByteArray × Option FieldType)} {us : List (ai_F × Nat × Nat × Nat)} {i : Nat} {n : MethodName × ByteArray × Option FieldType} {u : ai_F × Nat × Nat × Nat}, si_vdl ns us → si_nth ns i = some n → si_nth us i = some u → vd_ok n.2.1 u.1.2.2.2 = true
  | [], _, i, n, u, _, h1, _ => by cases i <;> cases h1
  | _ :: _, [], i, n, u, _, _, h2 => by cases i <;> cases h2
  | n0 :: ns, u0 :: us, i, n, u, h, h1, h2 => by
    cases i with
    | zero => cases h1; cases h2; exact h.1
    | succ j => exact si_vdl_nth h.2 h1 h2
def si_ckl (us : List (ai_F × Nat × Nat × Nat)) : Bool := us.all (fun u => u.1.2.2.2.all (fun q => si_ck u.1.1 u.2.1 q.1 q.2.1 q.2.2))
theorem si_nth_mem {α : Type} : ∀ {l : List α} {i : Nat} {x : α}, si_nth l i = some x → x ∈ l
  | [], i, _, h => by cases i <;> cases h
  | y :: l, i, x, h => by
    cases i with
    | zero => cases h; exact List.mem_cons_self
    | succ j => exact List.mem_cons_of_mem _ (si_nth_mem h)
theorem si_vdb_0 : si_vdl si_nm_0 si_mt_0 := ⟨vd_0, vd_1, vd_2, vd_3, vd_4, vd_5, vd_6, vd_7, vd_8, vd_9, vd_10, vd_11, vd_12, vd_13, vd_14, vd_15, vd_16, vd_17, vd_18, vd_19, trivial⟩
set_option maxRecDepth 100000 in
theorem si_ckb_0 : si_ckl (si_mtb 0) = true := by decide +kernel
theorem si_vdb_1 : si_vdl si_nm_1 si_mt_1 := ⟨vd_20, vd_21, vd_22, vd_23, vd_24, vd_25, vd_26, vd_27, vd_28, vd_29, vd_30, vd_31, vd_32, vd_33, vd_34, vd_35, vd_36, vd_37, vd_38, vd_39, trivial⟩
set_option maxRecDepth 100000 in
theorem si_ckb_1 : si_ckl (si_mtb 1) = true := by decide +kernel
theorem si_vdb_2 : si_vdl si_nm_2 si_mt_2 := ⟨vd_40, vd_41, vd_42, vd_43, vd_44, vd_45, vd_46, vd_47, vd_48, vd_49, vd_50, vd_51, vd_52, vd_53, vd_54, vd_55, vd_56, vd_57, vd_58, vd_59, trivial⟩
set_option maxRecDepth 100000 in
theorem si_ckb_2 : si_ckl (si_mtb 2) = true := by decide +kernel
theorem si_vdb_3 : si_vdl si_nm_3 si_mt_3 := ⟨vd_60, vd_61, vd_62, vd_63, vd_64, vd_65, vd_66, vd_67, vd_68, vd_69, vd_70, vd_71, vd_72, vd_73, vd_74, vd_75, vd_76, vd_77, vd_78, vd_79, trivial⟩
set_option maxRecDepth 100000 in
theorem si_ckb_3 : si_ckl (si_mtb 3) = true := by decide +kernel
theorem si_vdb_4 : si_vdl si_nm_4 si_mt_4 := ⟨vd_80, vd_81, vd_82, vd_83, vd_84, vd_85, vd_86, vd_87, vd_88, vd_89, vd_90, vd_91, vd_92, vd_93, vd_94, vd_95, vd_96, vd_97, vd_98, vd_99, trivial⟩
set_option maxRecDepth 100000 in
theorem si_ckb_4 : si_ckl (si_mtb 4) = true := by decide +kernel
theorem si_vdb_5 : si_vdl si_nm_5 si_mt_5 := ⟨vd_100, vd_101, vd_102, vd_103, vd_104, vd_105, vd_106, vd_107, vd_108, vd_109, vd_110, vd_111, vd_112, vd_113, vd_114, vd_115, vd_116, vd_117, vd_118, vd_119, trivial⟩
set_option maxRecDepth 100000 in
theorem si_ckb_5 : si_ckl (si_mtb 5) = true := by decide +kernel
theorem si_vdb_6 : si_vdl si_nm_6 si_mt_6 := ⟨vd_120, vd_121, vd_122, vd_123, vd_124, vd_125, vd_126, vd_127, vd_128, vd_129, vd_130, vd_131, vd_132, trivial⟩
set_option maxRecDepth 100000 in
theorem si_ckb_6 : si_ckl (si_mtb 6) = true := by decide +kernel
theorem si_ckl_mem {us : List (ai_F × Nat × Nat × Nat)} {u : ai_F × Nat × Nat × Nat} {pc : Nat} {q : Instr × Nat} (h : si_ckl us = true) (hu : u ∈ us) (hm : (pc, q) ∈ u.1.2.2.2) : si_ck u.1.1 u.2.1 pc q.1 q.2 = true := by
  unfold si_ckl at h
  rw [List.all_eq_true] at h
  have h3 := h u hu
  rw [List.all_eq_true] at h3
  exact h3 _ hm
theorem vd_ok_mem {b : ByteArray} {us : List (Nat × Instr × Nat)} {pc : Nat} {q : Instr × Nat} (h : vd_ok b us = true) (hm : (pc, q) ∈ us) : decode b pc = .ok q := by
  unfold vd_ok at h
  simp only [List.all_eq_true, decide_eq_true_eq] at h
  exact h (pc, q) hm
theorem si_code_ok {y : Nat} (hy : y < 133) {n : MethodName × ByteArray × Option FieldType} {u : ai_F × Nat × Nat × Nat} (hn : si_nq y = some n) (hu : si_mq y = some u) (pc : Nat) (q : Instr × Nat) (h : ai_lkp u.1.2.2.2 pc = some q) : decode n.2.1 pc = .ok q ∧ si_ck u.1.1 u.2.1 pc q.1 q.2 = true := by
  have hm := ai_lkp_mem h
  have fin : ∀ {us : List (ai_F × Nat × Nat × Nat)} {ns : List (MethodName × ByteArray × Option FieldType)}, si_nth ns (y % 20) = some n → si_nth us (y % 20) = some u → si_vdl ns us → si_ckl us = true → decode n.2.1 pc = .ok q ∧ si_ck u.1.1 u.2.1 pc q.1 q.2 = true := fun g1 g2 h1 h2 => ⟨vd_ok_mem (si_vdl_nth h1 g1 g2) hm, si_ckl_mem h2 (si_nth_mem g2) hm⟩
  clear h hm
  unfold si_nq at hn
  have hu2 := hu
  unfold si_mq at hu2
  rcases (by omega : y / 20 = 0 ∨ y / 20 = 1 ∨ y / 20 = 2 ∨ y / 20 = 3 ∨ y / 20 = 4 ∨ y / 20 = 5 ∨ y / 20 = 6) with hb | hb | hb | hb | hb | hb | hb
  · rw [hb] at hn hu2
    exact fin hn hu2 si_vdb_0 si_ckb_0
  · rw [hb] at hn hu2
    exact fin hn hu2 si_vdb_1 si_ckb_1
  · rw [hb] at hn hu2
    exact fin hn hu2 si_vdb_2 si_ckb_2
  · rw [hb] at hn hu2
    exact fin hn hu2 si_vdb_3 si_ckb_3
  · rw [hb] at hn hu2
    exact fin hn hu2 si_vdb_4 si_ckb_4
  · rw [hb] at hn hu2
    exact fin hn hu2 si_vdb_5 si_ckb_5
  · rw [hb] at hn hu2
    exact fin hn hu2 si_vdb_6 si_ckb_6
theorem si_ret_z {rc : Nat} {r : Option FieldType} {x : Int32} (h : (match rc, r with
    | 0, some .int => true
    | 1, some .long => true
    | 2, some (.object _) => true
    | 2, some (.array _) => true
    | 3, some .boolean => true
    | 4, some .byte => true
    | 5, some .char => true
    | 9, none => true
    | _, _ => false) = true) (hf : ai_fitB rc x) : ∃ ty, r = some ty ∧ narrow ty (.int x) = .int x := by
  unfold ai_fitB at hf
  split at hf
  · split at h <;> first | (exact ⟨_, rfl, rfl⟩) | contradiction | (simp_all; done)
  · split at h <;> first | (exact ⟨_, rfl, hf⟩) | contradiction | (simp_all; done)
  · split at h <;> first | (exact ⟨_, rfl, hf⟩) | contradiction | (simp_all; done)
  · split at h <;> first | (exact ⟨_, rfl, hf⟩) | contradiction | (simp_all; done)
  · exact hf.elim
theorem si_ret_l {r : Option FieldType} (h : (match (1 : Nat), r with
    | 0, some .int => true
    | 1, some .long => true
    | 2, some (.object _) => true
    | 2, some (.array _) => true
    | 3, some .boolean => true
    | 4, some .byte => true
    | 5, some .char => true
    | 9, none => true
    | _, _ => false) = true) : r = some .long := by
  split at h <;> first | rfl | contradiction | (simp_all; done)
theorem si_ret_a {r : Option FieldType} (h : (match (2 : Nat), r with
    | 0, some .int => true
    | 1, some .long => true
    | 2, some (.object _) => true
    | 2, some (.array _) => true
    | 3, some .boolean => true
    | 4, some .byte => true
    | 5, some .char => true
    | 9, none => true
    | _, _ => false) = true) : ∃ ty, r = some ty ∧ ((∃ n, ty = .object n) ∨ ∃ t, ty = .array t) := by
  split at h <;> first | (exact ⟨_, rfl, Or.inl ⟨_, rfl⟩⟩) | (exact ⟨_, rfl, Or.inr ⟨_, rfl⟩⟩) | contradiction | (simp_all; done)
theorem si_ret_v {r : Option FieldType} (h : (match (9 : Nat), r with
    | 0, some .int => true
    | 1, some .long => true
    | 2, some (.object _) => true
    | 2, some (.array _) => true
    | 3, some .boolean => true
    | 4, some .byte => true
    | 5, some .char => true
    | 9, none => true
    | _, _ => false) = true) : r = none := by
  split at h <;> first | rfl | contradiction | (simp_all; done)
def si_n21 (us : List (ai_F × Nat × Nat × Nat)) : Bool := us.all (fun u => decide (¬ u.1.1 = 21))
theorem si_no21 {y : Nat} (hy : y < 133) {u : ai_F × Nat × Nat × Nat} (hu : si_mq y = some u) : ¬ u.1.1 = 21 := by
  unfold si_mq at hu
  have fin : si_n21 (si_mtb (y / 20)) = true → ¬ u.1.1 = 21 := by
    intro h2
    unfold si_n21 at h2
    rw [List.all_eq_true] at h2
    exact of_decide_eq_true (h2 u (si_nth_mem hu))
  by_cases h16 : y / 20 < 6
  · have key : ∀ b, b < 6 → si_n21 (si_mtb b) = true := by decide +kernel
    exact fin (key _ h16)
  · have e : y = 120 + (y - 120) := by omega
    have key : ∀ i, i < 13 → ((si_nth (si_mtb ((120 + i) / 20)) ((120 + i) % 20)).map (fun u => decide (¬ u.1.1 = 21))) = some true := by decide +kernel
    have k2 := key (y - 120) (by omega)
    rw [← e, hu] at k2
    exact of_decide_eq_true (Option.some.inj k2)
/-- the contracts of String.length and String.charAt (proved in a later part) -/
def si_strs (l : Launch) (E : si_E) (adV : Nat → Nat) : Prop := ∀ (d y : Nat) (as : List ai_V) (v : Option ai_V) (I : ai_I) (J : ai_J) (Rf : ai_R) (G : ai_G), 4 ≤ d → ai_prm si_t y as v → si_Met l E adV (d + 1) (si_sn y) (si_smx y) y as I J Rf G v I J Rf G
theorem ai_prm_txt {y : Nat} {as : List ai_V} {v : Option ai_V} (h : ai_prm si_t y as v) : ∃ (a : Nat) (r : List ai_V) (tx : List Nat), as = .inr (.inr a) :: r ∧ ai_txt si_t a = some tx := by
  unfold ai_prm at h
  split at h
  · obtain ⟨tx, h1, -⟩ := h
    exact ⟨_, _, tx, rfl, h1⟩
  · obtain ⟨tx, h1, -⟩ := h
    exact ⟨_, _, tx, rfl, h1⟩
  · exact h.elim
theorem si_wsum {E : si_E} (as : List ai_V) {n : Nat} (m : MethodId) : entryFrame m (as.map (si_v E)).toArray n = F0 m 0 ((lg_sl (as.map (si_v E)) ++ List.replicate (n - (lg_sl (as.map (si_v E))).length) Slot.unset).toArray) [] := lg_entry_eq m _ n
/-- A CALL OF THE ABSTRACT MACHINE GIVES THE METHOD'S CONTRACT -/
theorem si_sim {l : Launch} {E : si_E} {adV : Nat → Nat} (hstr : si_strs l E adV) : ∀ d : Nat, si_call l E adV d (ai_Cl si_t si_ms d)
  | 0 => fun _ _ _ _ _ _ _ _ _ _ _ h => h.elim
  | d + 1 => by
    intro y as I J Rf G v I1 J1 R1 G1 h
    change (match (generalizing := false) si_ms y with
      | some q => ai_wgt as ≤ q.2 ∧ ai_Go si_t q.1 (ai_Cl si_t si_ms d) (fun v2 I2 J2 R2 G2 => v2 = v ∧ I2 = I1 ∧ J2 = J1 ∧ R2 = R1 ∧ G2 = G1) 0 (ai_ent q.2 as) [] (ai_bud si_t y) I J Rf G
      | none => 4 ≤ d ∧ ai_prm si_t y as v ∧ I1 = I ∧ J1 = J ∧ R1 = Rf ∧ G1 = G) at h
    refine ⟨fun hy n u hn hu => ?_, fun hy => ?_⟩
    · have hms : si_ms y = some (u.1, u.2.1) := by
        show (si_mq y).map (fun q => (q.1, q.2.1)) = _
        rw [hu]
        rfl
      rw [hms] at h
      obtain ⟨hw, nn, h⟩ := h
      obtain ⟨n', u', hn', hu', w1, w2, w3, w4, w5⟩ := si_meth hy
      rw [hn] at hn'
      rw [hu] at hu'
      cases hn'
      cases hu'
      have hcode := si_code_ok hy hn hu
      unfold si_kfit at w3
      simp only [Bool.and_eq_true, decide_eq_true_eq] at w3
      obtain ⟨⟨k1, k2, k3, k4, k5, k6, k7, k8, k9⟩, k10⟩ := w3
      unfold si_Met
      refine Met.ofW (cc := n.2.1) (maxL := u.2.1) (ret := n.2.2) k9 rfl ?_
      intro p e s m args below meth c s₁ B hml hv
      obtain ⟨rfl, hP, hK, hX⟩ := hv
      have hts := atoms_spec B.pre
      have hown : s.vm.findClass (si_RS u.1.1) = some m.cls := by
        rw [← k1]
        exact findClass_of_methodNamed B.named
      have hin : u.1.2.1 = true → meth.name = "<init>" := by
        intro hi
        rw [k2] at hi
        rw [(name_of_methodNamed B.named B.method).1]
        exact of_decide_eq_true hi
      have hlocks := B.notSynchronized
      have hr := B.returns
      have ho21 : ¬ u.1.1 = 21 := si_no21 hy hu
      rw [si_wsum]
      have C0 : si_C p (si_rm (d + 1) y) s m (as.map (si_v E)).toArray meth c n.2.1 E adV u.2.1 u.1.1 u.1.2.1 := ⟨B.exec, B.bytes, hml, hown, fun w hw => hts w (List.mem_cons_of_mem _ hw), hK, hX, hin, fun z => absurd z ho21, by rw [hP.1]; omega, by show 1 ≤ d + 1; omega, by show 42 ≤ 42 * (d + 1); omega⟩
      refine si_run (F := u.1) C0 rfl rfl (si_sim hstr d) (Nat.le_refl _) (by show 42 * d + 42 ≤ 42 * (d + 1); omega) ?_ hcode nn 0 _ [] (si_bl y) I J Rf G s.heap [] 0 0 _ h ⟨hP, si_L.ent as u.2.1 hw, va_S.rf, by show 0 + _ ≤ (si_bl y).1; omega, by show 0 + _ ≤ (si_bl y).2; omega⟩
      intro pc op st v2 I2 J2 R2 G2 H locs cells slots ls hd hro hpost hP2 hS hc2 hs2
      obtain ⟨rfl, rfl, rfl, rfl, rfl⟩ := hpost
      have hq : ∀ t : State, t.heap = H → s.WarmedH t.vm → si_Qc E v2 I2 J2 R2 G2 (as.map (si_v E)).toArray s (.returned (v2.map (si_v E))) t := fun t ht hW => ⟨rfl, by rw [ht]; exact hP2, by rw [ht]; exact hS.1, fun q g1 g2 => by rw [ht]; exact hS.2.1 q g1 g2⟩
      refine W.widen (k := (si_bl y).1) (n := (si_bl y).2) hc2 hs2 ?_
      rcases hro with ⟨rfl, x, rfl, rfl, hf⟩ | ⟨rfl, x, rfl, rfl, hf⟩ | ⟨rfl, x, rfl, rfl, hf⟩ | ⟨rfl, rfl, rfl, hf⟩
      · obtain ⟨ty, e1, e2⟩ := si_ret_z k10 hf
        exact W.zret B.exec B.bytes (hr.trans e1) e2 hq hS.2.2 hd hlocks
      · rw [hf] at k10
        exact W.lret B.exec B.bytes (hr.trans (si_ret_l k10)) hq hS.2.2 hd hlocks
      · rw [hf] at k10
        obtain ⟨ty, e1, e2⟩ := si_ret_a k10
        refine W.aret B.exec B.bytes (hr.trans e1) e2 ?_ hq hS.2.2 hd hlocks
        cases x with
        | zero => exact Or.inl rfl
        | succ j => exact Or.inr ⟨_, rfl⟩
      · rw [hf] at k10
        exact W.vret B.exec B.bytes (hr.trans (si_ret_v k10)) hq hS.2.2 hd hlocks
    · have hms : si_ms y = none := by rcases hy with rfl | rfl <;> rfl
      rw [hms] at h
      obtain ⟨h4, hp, rfl, rfl, rfl, rfl⟩ := h
      exact ⟨ai_prm_txt hp, hstr d y as v _ _ _ _ h4 hp⟩
end
section
/-! The law: its start out of the Statement; whole_start out of one run of the abstract machine. The rows up to lw_At are the skeleton's. -/
def R_law : String := "PricedBasesLaw"
def lw_P (b : Addr) (xs : List Int32) (args : Array Value) (s : State) : Prop := args = #[.ref b] ∧ s.IntsAt b xs ∧ xs.length ≤ 260 ∧ (Jvm.Cond.and given_1 narrow_1).before args s = true
def lw_Q (_ : Array Value) (s : State) (o : Outcome) (t : State) : Prop := o = .returned (some (.int 1)) ∧ Framed s o t [] 600000 7302250
def lw_Z (below : List Frame) (a : Array Value) (s : State) : State → Prop := fun t => ∃ o, t.status = .running ∧ Ended t below o ∧ lw_Q a s o t
/-- the law's own end, with 1 on the stack, nothing written that was there before, its room as the claim has it -/
theorem lw_ret {p : Program} {l : Launch} {e : Env} {s : State} {m : MethodId} {below : List Frame} {meth : Method} {c : Code} {b : Nat} (hx : p.tables.exec = Jvm.exec) (hb : c.code = code) (hr : meth.sig.returnType = ret) (hlocks : meth.locks = false) {pc : Nat} {H : Heap} {ls : Array Slot} (hdg : decode code pc = .ok (.ireturn, 1)) : W p l e room_1 s m #[Value.ref b] below meth c H [] 600000 7302250 (lw_Z below #[Value.ref b] s) (F0 m pc ls [.int 1]) := by
  intro T hT X
  obtain ⟨fs, hret, hrun, hended, hW, hframe⟩ := X.leave (v := some (.int 1)) (hlocks := hlocks) (fun h => by rw [hr] at h; cases h)
  have hmeth' : T.vm.method? m = some meth := X.method'
  refine ⟨T.setFrames fs, ?_, .returned (some (.int 1)), hrun, hended, rfl, ⟨_, rfl⟩, hW, hframe⟩
  jvm_step X.here [X.here.top, hx, hb, hdg, hmeth', hr, ret, narrow_b1]
  (try refine ⟨rfl, ?_⟩); (try refine ⟨rfl, ?_⟩)
  first | (intro acts; rw [hret _ acts rfl rfl rfl]) | rw [hret _ _ rfl rfl rfl]
  exact Steps.refl _
/-- what holds at the law's entry: the machine, the code, the tables' words (any of lw_tbl by 'hts w (by decide +kernel)'), the script of L ints xs at the cell b, what the Statement gives of the start (any of its parts by flat_of_before) -/
def lw_At (p : Program) (s : State) (m : MethodId) (meth : Method) (c : Code) (b L : Nat) (xs : Nat → Int32) : Prop :=
  p.tables.exec = Jvm.exec ∧ c.code = code ∧ meth.sig.returnType = ret ∧ c.maxLocals = 12 ∧ s.vm.findClass R_law = some m.cls ∧ (∀ w ∈ lw_tbl, w.before #[Value.ref b] s = true) ∧ va_X b L xs s s.heap ∧ b < s.heap.size ∧ meth.locks = false ∧ (Jvm.Cond.and given_1 narrow_1).before #[Value.ref b] s = true
def si_en (i : Nat) : Nat := (si_tx.getD i (0, [])).1
def si_nl : List Cond := flatC (Jvm.Cond.and given_1 narrow_1)
abbrev si_sv (i : Nat) : Term := .field (.string "PricedBases$Clauses" (si_en i)) "java/lang/String" "value" "[B"
set_option maxRecDepth 100000 in
theorem sl_ex : ∀ i, i < 15 → Cond.exactly (.string "PricedBases$Clauses" (si_en i)) "java/lang/String" ∈ si_nl := by decide +kernel
set_option maxRecDepth 100000 in
theorem sl_co : ∀ i, i < 15 → Cond.eq (.field (.string "PricedBases$Clauses" (si_en i)) "java/lang/String" "coder" "B") (.int 0) ∈ si_nl := by decide +kernel
set_option maxRecDepth 100000 in
theorem sl_ar : ∀ i, i < 15 → Cond.arrayOf (si_sv i) .byte ∈ si_nl := by decide +kernel
set_option maxRecDepth 100000 in
theorem sl_le : ∀ i, i < 15 → Cond.eq (.length (si_sv i)) (.int (Int32.ofNat (si_len.getD i 0))) ∈ si_nl := by decide +kernel
set_option maxRecDepth 100000 in
theorem sl_el : ∀ i, i < 15 → ∀ j, j < si_len.getD i 0 → Cond.eq (.elem (si_sv i) (.int (Int32.ofNat j))) (.int ((si_byt.getD i []).getD j 0)) ∈ si_nl := by decide +kernel
def sl_nt : List (Nat × Nat × Nat) := [(0, 1, 29), (0, 2, 39), (0, 3, 50), (0, 4, 61), (0, 5, 73), (0, 6, 89), (0, 7, 101), (0, 8, 117), (0, 9, 133), (0, 10, 149), (0, 11, 170), (0, 12, 190), (0, 13, 210), (0, 14, 227), (1, 2, 40), (1, 3, 51), (1, 4, 62), (1, 5, 74), (1, 6, 90), (1, 7, 102), (1, 8, 118), (1, 9, 134), (1, 10, 150), (1, 11, 171), (1, 12, 191), (1, 13, 211), (1, 14, 228), (2, 3, 52), (2, 4, 63), (2, 5, 75), (2, 6, 91), (2, 7, 103), (2, 8, 119), (2, 9, 135), (2, 10, 151), (2, 11, 172), (2, 12, 192), (2, 13, 212), (2, 14, 229), (3, 4, 64), (3, 5, 76), (3, 6, 92), (3, 7, 104), (3, 8, 120), (3, 9, 136), (3, 10, 152), (3, 11, 173), (3, 12, 193), (3, 13, 213), (3, 14, 230), (4, 5, 77), (4, 6, 93), (4, 7, 105), (4, 8, 121), (4, 9, 137), (4, 10, 153), (4, 11, 174), (4, 12, 194), (4, 13, 214), (4, 14, 231), (5, 6, 94), (5, 7, 106), (5, 8, 122), (5, 9, 138), (5, 10, 154), (5, 11, 175), (5, 12, 195), (5, 13, 215), (5, 14, 232), (6, 7, 107), (6, 8, 123), (6, 9, 139), (6, 10, 155), (6, 11, 176), (6, 12, 196), (6, 13, 216), (6, 14, 233), (7, 8, 124), (7, 9, 140), (7, 10, 156), (7, 11, 177), (7, 12, 197), (7, 13, 217), (7, 14, 234), (8, 9, 141), (8, 10, 157), (8, 11, 178), (8, 12, 198), (8, 13, 218), (8, 14, 235), (9, 10, 158), (9, 11, 179), (9, 12, 199), (9, 13, 219), (9, 14, 236), (10, 11, 180), (10, 12, 200), (10, 13, 220), (10, 14, 237), (11, 12, 201), (11, 13, 221), (11, 14, 238), (12, 13, 222), (12, 14, 239), (13, 14, 240)]
set_option maxRecDepth 100000 in
theorem sl_n1 : sl_nt.all (fun q => decide (si_nl[q.2.2]? = some (Cond.not (Cond.eq (.string "PricedBases$Clauses" (si_en q.1)) (.string "PricedBases$Clauses" (si_en q.2.1)))))) = true := by decide +kernel
set_option maxRecDepth 100000 in
theorem sl_n2 : (List.range 15).all (fun i => (List.range 15).all (fun j => decide (i = j) || (sl_nt.any (fun q => decide (q.1 = i ∧ q.2.1 = j)) || sl_nt.any (fun q => decide (q.1 = j ∧ q.2.1 = i))))) = true := by decide +kernel
theorem sl_n3 {i j : Nat} (h : sl_nt.any (fun q => decide (q.1 = i ∧ q.2.1 = j)) = true) : Cond.not (Cond.eq (.string "PricedBases$Clauses" (si_en i)) (.string "PricedBases$Clauses" (si_en j))) ∈ si_nl := by
  rw [List.any_eq_true] at h
  obtain ⟨q, hq, h2⟩ := h
  obtain ⟨h3, h4⟩ := of_decide_eq_true h2
  have h5 := sl_n1
  rw [List.all_eq_true] at h5
  have h6 := of_decide_eq_true (h5 q hq)
  rw [h3, h4] at h6
  exact List.mem_of_getElem? h6
theorem sl_ne : ∀ i, i < 15 → ∀ j, j < 15 → i ≠ j → Cond.not (Cond.eq (.string "PricedBases$Clauses" (si_en i)) (.string "PricedBases$Clauses" (si_en j))) ∈ si_nl ∨ Cond.not (Cond.eq (.string "PricedBases$Clauses" (si_en j)) (.string "PricedBases$Clauses" (si_en i))) ∈ si_nl := by
  intro i hi j hj hij
  have h := sl_n2
  rw [List.all_eq_true] at h
  have h2 := h i (List.mem_range.mpr hi)
  rw [List.all_eq_true] at h2
  have h3 := h2 j (List.mem_range.mpr hj)
  simp only [Bool.or_eq_true, decide_eq_true_eq] at h3
  rcases h3 with h3 | h3 | h3
  · exact absurd h3 hij
  · exact Or.inl (sl_n3 h3)
  · exact Or.inr (sl_n3 h3)
set_option maxRecDepth 100000 in
theorem sl_cs : Cond.eq (.static "java/lang/String" "COMPACT_STRINGS" "Z") (.int 1) ∈ si_nl := by decide +kernel
set_option maxRecDepth 100000 in
theorem sl_si : Cond.isRef (.static "jdk/internal/util/Preconditions" "SIOOBE_FORMATTER" "Ljava/util/function/BiFunction;") ∈ si_nl := by decide +kernel
set_option maxRecDepth 100000 in
theorem sl_l0 : Cond.laysStatic "java/lang/String" "COMPACT_STRINGS" "Z" ∈ lw_tbl := List.mem_of_getElem? (i := 712) (by decide +kernel)
set_option maxRecDepth 100000 in
theorem sl_l1 : Cond.laysStatic "jdk/internal/util/Preconditions" "SIOOBE_FORMATTER" "Ljava/util/function/BiFunction;" ∈ lw_tbl := List.mem_of_getElem? (i := 728) (by decide +kernel)
set_option maxRecDepth 100000 in
theorem sl_i1 : Cond.initialized "jdk/internal/util/Preconditions" ∈ lw_tbl := List.mem_of_getElem? (i := 58) (by decide +kernel)
set_option maxRecDepth 100000 in
theorem sl_sr_0 : Cond.stringRef (si_RS 0) 96 "price" ∈ lw_tbl := List.mem_of_getElem? (i := 684) (by decide +kernel)
set_option maxRecDepth 100000 in
theorem sl_sr_1 : Cond.stringRef (si_RS 0) 98 "uniform" ∈ lw_tbl := List.mem_of_getElem? (i := 685) (by decide +kernel)
set_option maxRecDepth 100000 in
theorem sl_sr_2 : Cond.stringRef (si_RS 0) 100 "match" ∈ lw_tbl := List.mem_of_getElem? (i := 686) (by decide +kernel)
set_option maxRecDepth 100000 in
theorem sl_sr_3 : Cond.stringRef (si_RS 0) 102 "graph" ∈ lw_tbl := List.mem_of_getElem? (i := 687) (by decide +kernel)
set_option maxRecDepth 100000 in
theorem sl_sr_4 : Cond.stringRef (si_RS 0) 104 "told" ∈ lw_tbl := List.mem_of_getElem? (i := 688) (by decide +kernel)
set_option maxRecDepth 100000 in
theorem sl_sr_5 : Cond.stringRef (si_RS 0) 106 "dual" ∈ lw_tbl := List.mem_of_getElem? (i := 689) (by decide +kernel)
set_option maxRecDepth 100000 in
theorem sl_sr_6 : Cond.stringRef (si_RS 0) 108 "without" ∈ lw_tbl := List.mem_of_getElem? (i := 690) (by decide +kernel)
set_option maxRecDepth 100000 in
theorem sl_sr_7 : Cond.stringRef (si_RS 0) 110 "by" ∈ lw_tbl := List.mem_of_getElem? (i := 691) (by decide +kernel)
set_option maxRecDepth 100000 in
theorem sl_sr_8 : Cond.stringRef (si_RS 0) 112 "shift" ∈ lw_tbl := List.mem_of_getElem? (i := 692) (by decide +kernel)
set_option maxRecDepth 100000 in
theorem sl_sr_9 : Cond.stringRef (si_RS 0) 114 "plus" ∈ lw_tbl := List.mem_of_getElem? (i := 693) (by decide +kernel)
set_option maxRecDepth 100000 in
theorem sl_sr_10 : Cond.stringRef (si_RS 0) 116 "cut" ∈ lw_tbl := List.mem_of_getElem? (i := 694) (by decide +kernel)
set_option maxRecDepth 100000 in
theorem sl_sr_11 : Cond.stringRef (si_RS 0) 118 "initial" ∈ lw_tbl := List.mem_of_getElem? (i := 695) (by decide +kernel)
set_option maxRecDepth 100000 in
theorem sl_sr_12 : Cond.stringRef (si_RS 0) 120 "raise" ∈ lw_tbl := List.mem_of_getElem? (i := 696) (by decide +kernel)
set_option maxRecDepth 100000 in
theorem sl_sr_13 : Cond.stringRef (si_RS 0) 122 "join" ∈ lw_tbl := List.mem_of_getElem? (i := 697) (by decide +kernel)
set_option maxRecDepth 100000 in
theorem sl_sr_14 : Cond.stringRef (si_RS 0) 124 "" ∈ lw_tbl := List.mem_of_getElem? (i := 698) (by decide +kernel)
theorem sl_sr {k : Nat} {u : Nat × String} (h : si_nth si_txs k = some u) : Cond.stringRef (si_RS 0) u.1 u.2 ∈ lw_tbl ∧ u.1 = si_en k ∧ k < 15 := by
  match k, h with
  | 0, h => cases h; exact ⟨sl_sr_0, rfl, by decide⟩
  | 1, h => cases h; exact ⟨sl_sr_1, rfl, by decide⟩
  | 2, h => cases h; exact ⟨sl_sr_2, rfl, by decide⟩
  | 3, h => cases h; exact ⟨sl_sr_3, rfl, by decide⟩
  | 4, h => cases h; exact ⟨sl_sr_4, rfl, by decide⟩
  | 5, h => cases h; exact ⟨sl_sr_5, rfl, by decide⟩
  | 6, h => cases h; exact ⟨sl_sr_6, rfl, by decide⟩
  | 7, h => cases h; exact ⟨sl_sr_7, rfl, by decide⟩
  | 8, h => cases h; exact ⟨sl_sr_8, rfl, by decide⟩
  | 9, h => cases h; exact ⟨sl_sr_9, rfl, by decide⟩
  | 10, h => cases h; exact ⟨sl_sr_10, rfl, by decide⟩
  | 11, h => cases h; exact ⟨sl_sr_11, rfl, by decide⟩
  | 12, h => cases h; exact ⟨sl_sr_12, rfl, by decide⟩
  | 13, h => cases h; exact ⟨sl_sr_13, rfl, by decide⟩
  | 14, h => cases h; exact ⟨sl_sr_14, rfl, by decide⟩
  | n + 15, h =>
    exfalso
    have e : si_nth si_txs (n + 15) = none := rfl
    rw [e] at h
    cases h
theorem si_mchk_mem {o : Nat} : ∀ {l : List (Nat × Nat × Nat)} {ps : List Nat}, si_mchk o l ps = true → ∀ r ∈ l, ∃ q, si_mchk1 o r q = true
  | [], _, _, r, h => by cases h
  | r0 :: l, [], hc, r, h => by cases hc
  | r0 :: l, q :: ps, hc, r, h => by
    unfold si_mchk at hc
    simp only [Bool.and_eq_true] at hc
    rcases List.mem_cons.mp h with e | e
    · rw [e]
      exact ⟨q, hc.1⟩
    · exact si_mchk_mem hc.2 r e
theorem si_nest {o : Nat} {r : Nat × Nat × Nat} {n : MethodName × ByteArray × Option FieldType} (hr : r ∈ si_mh o) (h3 : 3 ≤ r.2.2) (h5 : r.2.2 ≤ 5) (hn : si_nq r.2.1 = some n) : Cond.methodLinkNest (si_RS o) r.1 n.1 "PricedBases" ∈ lw_tbl := by
  obtain ⟨q, hq⟩ := si_mchk_mem (si_mh_all o) r hr
  unfold si_mchk1 at hq
  split at hq
  · rename_i e
    omega
  · simp only [Bool.and_eq_true, decide_eq_true_eq] at hq
    obtain ⟨-, h3'⟩ := hq
    split at h3'
    · rename_i n2 u hn2 hu
      simp only [Bool.and_eq_true, decide_eq_true_eq] at h3'
      rw [hn] at hn2
      cases hn2
      have h4 := h3'.1
      rw [if_neg (by omega)] at h4
      exact si_at_mem (of_decide_eq_true h4)
    · cases h3'
theorem si_arr {s : State} {args : Array Value} {ty : FieldType} (hp : refKind ty = false) (h : (Cond.arrayClass ty).before args s = true) : ∃ cA : ClassId, ArrOfT s cA ty ∧ va_RA s cA ty := by
  obtain ⟨cA, kA, comp, h1, h2, h3⟩ := Cond.arrayClass_spec h
  refine ⟨cA, fun n z => ⟨fun k h => (by cases h), kA, h2, comp, h3⟩, ?_⟩
  cases ty <;> first | exact h1 | (cases hp)
theorem si_arrO {s : State} {args : Array Value} {C : String} (h : (Cond.arrayOver (.object C)).before args s = true) : ∃ cA : ClassId, ArrOfT s cA (.object C) ∧ va_RA s cA (.object C) := by
  obtain ⟨comp, cA, kA, h1, h2, h3, h4, h5⟩ := Cond.arrayOver_spec h
  exact ⟨cA, fun n z => ⟨fun k h => (by cases h), kA, h3, comp, h4⟩, kA, comp, h3, h4, h1, h5⟩
/-- the start: what lies there of the abstract machine's things -/
def si_I0 (xs : Nat → Int32) : ai_I := fun a => if a = 1999 then xs else fun _ => 0
def si_J0 : ai_J := fun _ _ => 0
def si_R0 : ai_R := fun _ _ => 0
def si_G0 (L : Nat) : ai_G := (fun a => if a = 1999 then 16 else 99, fun a => if a = 1999 then L else 0, 0)
theorem si_start {s : State} {args : Array Value} {b L : Nat} {xs : Nat → Int32} (hts : ∀ w ∈ lw_tbl, w.before args s = true) (hgv : (Jvm.Cond.and given_1 narrow_1).before args s = true) (hbl : b < s.heap.size) :
    ∃ (E : si_E) (adV : Nat → Nat), E.1 + 1 = s.heap.size ∧ E.2.1 = b ∧ E.2.2.1 = L ∧ E.2.2.2.1 = xs ∧ si_K E s ∧ si_X E adV s ∧ si_P E s.heap (si_I0 xs) si_J0 si_R0 (si_G0 L) := by
  have hn : ∀ w ∈ si_nl, w.before args s = true := flat_of_before _ hgv
  have hz : s.heap.size - 1 + 1 = s.heap.size := by omega
  have hA : ∀ a : Nat, a < s.heap.size → ¬ (fun q : Nat => s.heap.size - 1 < q) a := fun a h h2 => by
    have h2 : s.heap.size - 1 < a := h2
    omega
  obtain ⟨adK, adV, hS, hE⟩ := vk_Sof (args := args) (s := s) (N := 15) (tm := fun i => .string "PricedBases$Clauses" (si_en i)) (len := si_len) (byt := si_byt) (A := fun q : Nat => s.heap.size - 1 < q) (by decide +kernel) (fun i hi => hn _ (sl_ex i hi)) (fun i hi => hn _ (sl_co i hi)) (fun i hi => hn _ (sl_ar i hi)) (fun i hi => hn _ (sl_le i hi)) (fun i hi j hj => hn _ (sl_el i hi j hj)) (fun i j hi hj hij => by
    rcases sl_ne i hi j hj hij with h | h
    · exact Or.inl (hn _ h)
    · exact Or.inr (hn _ h)) hA
  have hcl : ∀ k : Nat, ∃ q : ClassId × (Nat → Nat), k < 11 → u_Kn s (si_RS k) (si_T k) (si_N k) q.1 q.2 := by
    intro k
    by_cases hk : k < 11
    · obtain ⟨c1, c2, c3, c4, c5, c6⟩ := si_cls hk
      have hts2 : ∀ w ∈ si_aTs, w.before args s = true := fun w hw => hts w (List.mem_filter.mp hw).1
      obtain ⟨cC, iS, h⟩ := u_known hts2 c1 (hts2 _ c5)
      exact ⟨(cC, iS), fun _ => h⟩
    · exact ⟨(0, fun _ => 0), fun h => absurd h hk⟩
  obtain ⟨ck, hck⟩ := Classical.axiomOfChoice hcl
  obtain ⟨a12, b12⟩ := si_arr (ty := .byte) rfl (hts _ si_w_5)
  obtain ⟨a13, b13⟩ := si_arr (ty := .int) rfl (hts _ si_w_6)
  obtain ⟨a14, b14⟩ := si_arr (ty := .long) rfl (hts _ si_w_7)
  obtain ⟨a15, b15⟩ := si_arrO (hts _ si_w_8)
  refine ⟨(s.heap.size - 1, b, L, xs, adK, (fun k => (ck k).1, fun k => (ck k).2), fun k => if k = 12 then a12 else if k = 13 then a13 else if k = 14 then a14 else a15), adV, hz, rfl, rfl, rfl, ?_, ?_, ?_⟩
  · refine ⟨fun k q hq => ?_, fun k q hq => ?_⟩
    · have hk : k < 11 := (List.getElem?_eq_some_iff.mp hq).1
      rw [si_cl_all hk] at hq
      cases hq
      exact hck k hk
    · match k, hq with
      | 0, hq => cases hq; exact b12
      | 1, hq => cases hq; exact b13
      | 2, hq => cases hq; exact b14
      | 3, hq => cases hq; exact b15
      | n + 4, hq => simp [si_tys] at hq
  · have had : ∀ k : Nat, si_ad (s.heap.size - 1, b, L, xs, adK, (fun k => (ck k).1, fun k => (ck k).2), fun k => if k = 12 then a12 else if k = 13 then a13 else if k = 14 then a14 else a15) (2000 + k) = adK k := by
      intro k
      unfold si_ad
      rw [if_neg (by omega), if_neg (by omega)]
      show adK (2000 + k - 2000) = adK k
      rw [show 2000 + k - 2000 = k by omega]
    refine ⟨fun o r n h1 h2 h3 h4 => va_Nw.of rfl (hts _ (si_nest h1 h2 h3 h4)), va_AO.of (hts _ si_w_8), fun k u hu => ?_, ?_, ?_, ?_⟩
    · obtain ⟨h1, h2, h3⟩ := sl_sr hu
      rw [had k]
      refine vk_R.of (hts _ h1) ?_
      rw [h2]
      exact hE k h3
    · rw [show (fun k => si_ad (s.heap.size - 1, b, L, xs, adK, (fun k => (ck k).1, fun k => (ck k).2), fun k => if k = 12 then a12 else if k = 13 then a13 else if k = 14 then a14 else a15) (2000 + k)) = adK from funext had]
      exact hS
    · exact va_Zof (hts _ sl_l0) (hts _ si_w_13) (va_eqt (hn _ sl_cs)) hA
    · exact va_Zqof (hts _ sl_l1) (hts _ sl_i1) (hn _ sl_si) hA
  · refine ⟨hz.symm, Nat.zero_le _, fun a ha => ?_, rfl, rfl⟩
    exfalso
    change (if a = 1999 then 16 else 99) ≤ 15 at ha
    split at ha <;> omega
/-- the law's frame: class 21, a static method, its code -/
def si_F : ai_F := (21, false, 3, cd_law.flatten)
def si_law : Prop := ∀ (L : Nat) (xs : Nat → Int32), L ≤ 260 → ai_Go si_t si_F (ai_Cl si_t si_ms 11) (fun v _ _ _ _ => v = some (.inl 1)) 0 (ai_ent 12 [.inr (.inr 1999)]) [] (600000, 7302250) (si_I0 xs) si_J0 si_R0 (si_G0 L)
theorem si_law_dec (pc : Nat) (q : Instr × Nat) (h : ai_lkp cd_law.flatten pc = some q) : decode code pc = .ok q := by
  have hm := ai_lkp_mem h
  obtain ⟨us, h1, h2⟩ := List.mem_flatten.mp hm
  have key : ∀ us ∈ cd_law, vd_ok code us = true := by
    unfold cd_law
    simp only [List.forall_mem_cons]
    exact ⟨vd_law_0, vd_law_1, vd_law_2, vd_law_3, vd_law_4, by simp⟩
  exact vd_ok_mem (key us h1) h2
set_option maxRecDepth 100000 in
theorem si_law_ck : (cd_law.flatten).all (fun q => si_ck 21 12 q.1 q.2.1 q.2.2) = true := by decide +kernel
/-- the owed part of the skeleton, out of the law's run on the abstract machine -/
theorem si_whole (hstr : ∀ (l : Launch) (E : si_E) (adV : Nat → Nat), si_strs l E adV) (hlaw : si_law) {p : Program} {e : Env} {s : State} {m : MethodId} {below : List Frame} {meth : Method} {c : Code} (l : Launch) {b L : Nat} {xs : Nat → Int32} (hL : L ≤ 260) (C0 : lw_At p s m meth c b L xs) : W p l e room_1 s m #[Value.ref b] below meth c s.heap [] 0 0 (lw_Z below #[Value.ref b] s) (entryFrame m ([Value.ref b] : List Value).toArray 12) := by
  obtain ⟨hx, hb, hr, hml, hown, hts, hX0, hbl, hlocks, hgv⟩ := C0
  obtain ⟨E, adV, z1, z2, z3, z4, hK, hX, hP⟩ := si_start (L := L) (xs := xs) hts hgv hbl
  obtain ⟨nn, h⟩ := hlaw L xs hL
  have hE : ([.inr (.inr 1999)] : List ai_V).map (si_v E) = [Value.ref b] := by
    show [va_rf (si_o E 1999)] = _
    rw [si_o_pos (by decide)]
    show [Value.ref (si_ad E 1999)] = _
    unfold si_ad
    rw [if_neg (by decide), if_pos rfl, z2]
  have C1 : si_C p room_1 s m #[Value.ref b] meth c code E adV 12 21 false := ⟨hx, hb, hml, hown, fun w hw => hts w (List.mem_filter.mp hw).1, hK, hX, (fun h => by cases h), fun _ => ⟨by rw [z2, z3, z4]; exact hX0, by rw [z2]; exact hbl, by rw [z2]; omega⟩, by omega, by decide, by decide⟩
  have hcode : ∀ (pc : Nat) (q : Instr × Nat), ai_lkp si_F.2.2.2 pc = some q → decode code pc = .ok q ∧ si_ck 21 12 pc q.1 q.2 = true := by
    intro pc q hq
    refine ⟨si_law_dec pc q hq, ?_⟩
    have h1 := si_law_ck
    rw [List.all_eq_true] at h1
    exact h1 (pc, q) (ai_lkp_mem hq)
  have hend : si_end p l e room_1 s m #[Value.ref b] below meth c (lw_Z below #[Value.ref b] s) code E si_F.2.2.1 (fun v _ _ _ _ => v = some (.inl 1)) := by
    intro pc op st v I J Rf G H locs cells slots ls hd hro hpost hP2 hS hc2 hs2
    rcases hro with ⟨rfl, x, rfl, rfl, hf⟩ | ⟨rfl, x, rfl, rfl, hf⟩ | ⟨rfl, x, rfl, rfl, hf⟩ | ⟨rfl, rfl, rfl, hf⟩
    · cases hpost
      refine va_forget (fun q hq => ?_) ?_
      · have := hS.2.2 q hq
        have : E.1 < q.base := this
        omega
      · refine W.widen (k := 600000) (n := 7302250) hc2 hs2 ?_
        exact lw_ret hx hb hr hlocks hd
    · cases hpost
    · cases hpost
    · cases hpost
  have hrun := si_run (d := 11) (F := si_F) C1 rfl rfl (si_sim (hstr l E adV) 11) (by decide) (by decide) hend hcode nn 0 _ [] (600000, 7302250) (si_I0 xs) si_J0 si_R0 (si_G0 L) s.heap [] 0 0 _ h ⟨hP, si_L.ent [.inr (.inr 1999)] 12 (by decide), va_S.rf, by decide, by decide⟩
  rw [hE] at hrun
  rw [lg_entry_eq]
  exact hrun
end
section
/-! Steps of the abstract machine, 'it goes on to an end' from here because it does from there. Printed by wip/p46/gen9.py. -/
section
variable {t : ai_T} {F : ai_F} {call : ai_C} {post : ai_Q} {len pc pc' : Nat} {lo lo' : List (Option ai_V)} {st r : List ai_V} {B B' : Nat × Nat} {I : ai_I} {J : ai_J} {Rf : ai_R} {G : ai_G}
theorem go_1 {q : Instr × Nat} {m : Nat} (hi : ai_lkp F.2.2.2 pc = some q) (h : ai_stp t F call post q.1 q.2 pc lo st B I J Rf G (ai_W t F call post [] m)) : ai_W t F call post [] (m + 1) pc lo st B I J Rf G := by
  change (match ai_lkp F.2.2.2 pc with
    | some q => ai_stp t F call post q.1 q.2 pc lo st B I J Rf G (ai_W t F call post [] m)
    | none => False)
  rw [hi]
  exact h
theorem go_at (hp : pc = pc') (h : ai_Go t F call post pc' lo st B I J Rf G) : ai_Go t F call post pc lo st B I J Rf G := by
  subst hp
  exact h
theorem go_iconst {n : Int} {v : Int32} (hi : ai_lkp F.2.2.2 pc = some (.iconst n, 1)) (hv : Int32.ofInt n = v) (hp : pc + 1 = pc') (h : ai_Go t F call post pc' lo (.inl v :: st) B I J Rf G) : ai_Go t F call post pc lo st B I J Rf G := by
  subst hp
  subst hv
  obtain ⟨m, h⟩ := h
  exact ⟨m + 1, go_1 hi h⟩
theorem go_bipush {n : Int} {v : Int32} (hi : ai_lkp F.2.2.2 pc = some (.bipush n, 2)) (hv : (Int8.ofInt n).toInt32 = v) (hp : pc + 2 = pc') (h : ai_Go t F call post pc' lo (.inl v :: st) B I J Rf G) : ai_Go t F call post pc lo st B I J Rf G := by
  subst hp
  subst hv
  obtain ⟨m, h⟩ := h
  exact ⟨m + 1, go_1 hi h⟩
theorem go_sipush {n : Int} {v : Int32} (hi : ai_lkp F.2.2.2 pc = some (.sipush n, 3)) (hv : (Int16.ofInt n).toInt32 = v) (hp : pc + 3 = pc') (h : ai_Go t F call post pc' lo (.inl v :: st) B I J Rf G) : ai_Go t F call post pc lo st B I J Rf G := by
  subst hp
  subst hv
  obtain ⟨m, h⟩ := h
  exact ⟨m + 1, go_1 hi h⟩
theorem go_lconst {n : Fin 2} {v : Int64} (hi : ai_lkp F.2.2.2 pc = some (.lconst n, 1)) (hv : Int64.ofNat n.val = v) (hp : pc + 1 = pc') (h : ai_Go t F call post pc' lo (.inr (.inl v) :: st) B I J Rf G) : ai_Go t F call post pc lo st B I J Rf G := by
  subst hp
  subst hv
  obtain ⟨m, h⟩ := h
  exact ⟨m + 1, go_1 hi h⟩
theorem go_null (hi : ai_lkp F.2.2.2 pc = some (.aconst_null, 1)) (hp : pc + 1 = pc') (h : ai_Go t F call post pc' lo (.inr (.inr 0) :: st) B I J Rf G) : ai_Go t F call post pc lo st B I J Rf G := by
  subst hp
  obtain ⟨m, h⟩ := h
  exact ⟨m + 1, go_1 hi h⟩
theorem go_ldc {ix : Nat} {v : ai_V} (hi : ai_lkp F.2.2.2 pc = some (.ldc ix, 2)) (hv : ai_cst t F.1 ix = some v) (hp : pc + 2 = pc') (h : ai_Go t F call post pc' lo (v :: st) B I J Rf G) : ai_Go t F call post pc lo st B I J Rf G := by
  subst hp
  obtain ⟨m, h⟩ := h
  exact ⟨m + 1, go_1 hi (by show (match ai_cst t F.1 ix with | some v => ai_W t F call post [] m (pc + 2) lo (v :: st) B I J Rf G | none => False); rw [hv]; exact h)⟩
theorem go_ldc_w {ix : Nat} {v : ai_V} (hi : ai_lkp F.2.2.2 pc = some (.ldc_w ix, 3)) (hv : ai_cst t F.1 ix = some v) (hp : pc + 3 = pc') (h : ai_Go t F call post pc' lo (v :: st) B I J Rf G) : ai_Go t F call post pc lo st B I J Rf G := by
  subst hp
  obtain ⟨m, h⟩ := h
  exact ⟨m + 1, go_1 hi (by show (match ai_cst t F.1 ix with | some v => ai_W t F call post [] m (pc + 3) lo (v :: st) B I J Rf G | none => False); rw [hv]; exact h)⟩
theorem go_ldc2_w {ix : Nat} {v : ai_V} (hi : ai_lkp F.2.2.2 pc = some (.ldc2_w ix, 3)) (hv : ai_cst t F.1 ix = some v) (hp : pc + 3 = pc') (h : ai_Go t F call post pc' lo (v :: st) B I J Rf G) : ai_Go t F call post pc lo st B I J Rf G := by
  subst hp
  obtain ⟨m, h⟩ := h
  exact ⟨m + 1, go_1 hi (by show (match ai_cst t F.1 ix with | some v => ai_W t F call post [] m (pc + 3) lo (v :: st) B I J Rf G | none => False); rw [hv]; exact h)⟩
theorem go_iload {i : Nat} {x : Int32} (hi : ai_lkp F.2.2.2 pc = some (.iload i, 2)) (hv : ai_loc lo i = some (.inl x)) (hp : pc + 2 = pc') (h : ai_Go t F call post pc' lo (.inl x :: st) B I J Rf G) : ai_Go t F call post pc lo st B I J Rf G := by
  subst hp
  obtain ⟨m, h⟩ := h
  exact ⟨m + 1, go_1 hi (by show ai_ldI lo i (fun v => ai_W t F call post [] m (pc + 2) lo (v :: st) B I J Rf G); unfold ai_ldI; rw [hv]; exact h)⟩
theorem go_istore {i : Nat} {x : Int32} (hi : ai_lkp F.2.2.2 pc = some (.istore i, 2)) (hl : ai_put lo i (.inl x) = lo') (hp : pc + 2 = pc') (h : ai_Go t F call post pc' lo' r B I J Rf G) : ai_Go t F call post pc lo (.inl x :: r) B I J Rf G := by
  subst hp
  subst hl
  obtain ⟨m, h⟩ := h
  exact ⟨m + 1, go_1 hi h⟩
theorem go_iload_n {i : Fin 4} {x : Int32} (hi : ai_lkp F.2.2.2 pc = some (.iload_n i, 1)) (hv : ai_loc lo i.val = some (.inl x)) (hp : pc + 1 = pc') (h : ai_Go t F call post pc' lo (.inl x :: st) B I J Rf G) : ai_Go t F call post pc lo st B I J Rf G := by
  subst hp
  obtain ⟨m, h⟩ := h
  exact ⟨m + 1, go_1 hi (by show ai_ldI lo i.val (fun v => ai_W t F call post [] m (pc + 1) lo (v :: st) B I J Rf G); unfold ai_ldI; rw [hv]; exact h)⟩
theorem go_istore_n {i : Fin 4} {x : Int32} (hi : ai_lkp F.2.2.2 pc = some (.istore_n i, 1)) (hl : ai_put lo i.val (.inl x) = lo') (hp : pc + 1 = pc') (h : ai_Go t F call post pc' lo' r B I J Rf G) : ai_Go t F call post pc lo (.inl x :: r) B I J Rf G := by
  subst hp
  subst hl
  obtain ⟨m, h⟩ := h
  exact ⟨m + 1, go_1 hi h⟩
theorem go_lload {i : Nat} {x : Int64} (hi : ai_lkp F.2.2.2 pc = some (.lload i, 2)) (hv : ai_loc lo i = some (.inr (.inl x))) (hp : pc + 2 = pc') (h : ai_Go t F call post pc' lo (.inr (.inl x) :: st) B I J Rf G) : ai_Go t F call post pc lo st B I J Rf G := by
  subst hp
  obtain ⟨m, h⟩ := h
  exact ⟨m + 1, go_1 hi (by show ai_ldJ lo i (fun v => ai_W t F call post [] m (pc + 2) lo (v :: st) B I J Rf G); unfold ai_ldJ; rw [hv]; exact h)⟩
theorem go_lstore {i : Nat} {x : Int64} (hi : ai_lkp F.2.2.2 pc = some (.lstore i, 2)) (hl : ai_putL lo i (.inr (.inl x)) = lo') (hp : pc + 2 = pc') (h : ai_Go t F call post pc' lo' r B I J Rf G) : ai_Go t F call post pc lo (.inr (.inl x) :: r) B I J Rf G := by
  subst hp
  subst hl
  obtain ⟨m, h⟩ := h
  exact ⟨m + 1, go_1 hi h⟩
theorem go_lload_n {i : Fin 4} {x : Int64} (hi : ai_lkp F.2.2.2 pc = some (.lload_n i, 1)) (hv : ai_loc lo i.val = some (.inr (.inl x))) (hp : pc + 1 = pc') (h : ai_Go t F call post pc' lo (.inr (.inl x) :: st) B I J Rf G) : ai_Go t F call post pc lo st B I J Rf G := by
  subst hp
  obtain ⟨m, h⟩ := h
  exact ⟨m + 1, go_1 hi (by show ai_ldJ lo i.val (fun v => ai_W t F call post [] m (pc + 1) lo (v :: st) B I J Rf G); unfold ai_ldJ; rw [hv]; exact h)⟩
theorem go_lstore_n {i : Fin 4} {x : Int64} (hi : ai_lkp F.2.2.2 pc = some (.lstore_n i, 1)) (hl : ai_putL lo i.val (.inr (.inl x)) = lo') (hp : pc + 1 = pc') (h : ai_Go t F call post pc' lo' r B I J Rf G) : ai_Go t F call post pc lo (.inr (.inl x) :: r) B I J Rf G := by
  subst hp
  subst hl
  obtain ⟨m, h⟩ := h
  exact ⟨m + 1, go_1 hi h⟩
theorem go_aload {i : Nat} {x : Nat} (hi : ai_lkp F.2.2.2 pc = some (.aload i, 2)) (hv : ai_loc lo i = some (.inr (.inr x))) (hp : pc + 2 = pc') (h : ai_Go t F call post pc' lo (.inr (.inr x) :: st) B I J Rf G) : ai_Go t F call post pc lo st B I J Rf G := by
  subst hp
  obtain ⟨m, h⟩ := h
  exact ⟨m + 1, go_1 hi (by show ai_ldR lo i (fun v => ai_W t F call post [] m (pc + 2) lo (v :: st) B I J Rf G); unfold ai_ldR; rw [hv]; exact h)⟩
theorem go_astore {i : Nat} {x : Nat} (hi : ai_lkp F.2.2.2 pc = some (.astore i, 2)) (hl : ai_put lo i (.inr (.inr x)) = lo') (hp : pc + 2 = pc') (h : ai_Go t F call post pc' lo' r B I J Rf G) : ai_Go t F call post pc lo (.inr (.inr x) :: r) B I J Rf G := by
  subst hp
  subst hl
  obtain ⟨m, h⟩ := h
  exact ⟨m + 1, go_1 hi h⟩
theorem go_aload_n {i : Fin 4} {x : Nat} (hi : ai_lkp F.2.2.2 pc = some (.aload_n i, 1)) (hv : ai_loc lo i.val = some (.inr (.inr x))) (hp : pc + 1 = pc') (h : ai_Go t F call post pc' lo (.inr (.inr x) :: st) B I J Rf G) : ai_Go t F call post pc lo st B I J Rf G := by
  subst hp
  obtain ⟨m, h⟩ := h
  exact ⟨m + 1, go_1 hi (by show ai_ldR lo i.val (fun v => ai_W t F call post [] m (pc + 1) lo (v :: st) B I J Rf G); unfold ai_ldR; rw [hv]; exact h)⟩
theorem go_astore_n {i : Fin 4} {x : Nat} (hi : ai_lkp F.2.2.2 pc = some (.astore_n i, 1)) (hl : ai_put lo i.val (.inr (.inr x)) = lo') (hp : pc + 1 = pc') (h : ai_Go t F call post pc' lo' r B I J Rf G) : ai_Go t F call post pc lo (.inr (.inr x) :: r) B I J Rf G := by
  subst hp
  subst hl
  obtain ⟨m, h⟩ := h
  exact ⟨m + 1, go_1 hi h⟩
theorem go_iinc {i : Nat} {n : Int} {x y : Int32} (hi : ai_lkp F.2.2.2 pc = some (.iinc i n, 3)) (hv : ai_loc lo i = some (.inl x)) (hn : Int32.ofInt n = y) (hl : ai_put lo i (.inl (x + y)) = lo') (hp : pc + 3 = pc') (h : ai_Go t F call post pc' lo' st B I J Rf G) : ai_Go t F call post pc lo st B I J Rf G := by
  subst hp
  subst hn
  subst hl
  obtain ⟨m, h⟩ := h
  exact ⟨m + 1, go_1 hi (by show (match ai_loc lo i with | some (.inl x) => ai_W t F call post [] m (pc + 3) (ai_put lo i (.inl (x + Int32.ofInt n))) st B I J Rf G | _ => False); rw [hv]; exact h)⟩
theorem go_iadd {x y : Int32} (hi : ai_lkp F.2.2.2 pc = some (.iadd, 1)) (hp : pc + 1 = pc') (h : ai_Go t F call post pc' lo (.inl (x + y) :: r) B I J Rf G) : ai_Go t F call post pc lo (.inl y :: .inl x :: r) B I J Rf G := by
  subst hp
  obtain ⟨m, h⟩ := h
  exact ⟨m + 1, go_1 hi h⟩
theorem go_isub {x y : Int32} (hi : ai_lkp F.2.2.2 pc = some (.isub, 1)) (hp : pc + 1 = pc') (h : ai_Go t F call post pc' lo (.inl (x - y) :: r) B I J Rf G) : ai_Go t F call post pc lo (.inl y :: .inl x :: r) B I J Rf G := by
  subst hp
  obtain ⟨m, h⟩ := h
  exact ⟨m + 1, go_1 hi h⟩
theorem go_imul {x y : Int32} (hi : ai_lkp F.2.2.2 pc = some (.imul, 1)) (hp : pc + 1 = pc') (h : ai_Go t F call post pc' lo (.inl (x * y) :: r) B I J Rf G) : ai_Go t F call post pc lo (.inl y :: .inl x :: r) B I J Rf G := by
  subst hp
  obtain ⟨m, h⟩ := h
  exact ⟨m + 1, go_1 hi h⟩
theorem go_iand {x y : Int32} (hi : ai_lkp F.2.2.2 pc = some (.iand, 1)) (hp : pc + 1 = pc') (h : ai_Go t F call post pc' lo (.inl (x &&& y) :: r) B I J Rf G) : ai_Go t F call post pc lo (.inl y :: .inl x :: r) B I J Rf G := by
  subst hp
  obtain ⟨m, h⟩ := h
  exact ⟨m + 1, go_1 hi h⟩
theorem go_ior {x y : Int32} (hi : ai_lkp F.2.2.2 pc = some (.ior, 1)) (hp : pc + 1 = pc') (h : ai_Go t F call post pc' lo (.inl (x ||| y) :: r) B I J Rf G) : ai_Go t F call post pc lo (.inl y :: .inl x :: r) B I J Rf G := by
  subst hp
  obtain ⟨m, h⟩ := h
  exact ⟨m + 1, go_1 hi h⟩
theorem go_ixor {x y : Int32} (hi : ai_lkp F.2.2.2 pc = some (.ixor, 1)) (hp : pc + 1 = pc') (h : ai_Go t F call post pc' lo (.inl (x ^^^ y) :: r) B I J Rf G) : ai_Go t F call post pc lo (.inl y :: .inl x :: r) B I J Rf G := by
  subst hp
  obtain ⟨m, h⟩ := h
  exact ⟨m + 1, go_1 hi h⟩
theorem go_ishl {x y : Int32} (hi : ai_lkp F.2.2.2 pc = some (.ishl, 1)) (hp : pc + 1 = pc') (h : ai_Go t F call post pc' lo (.inl (x <<< (y &&& 31)) :: r) B I J Rf G) : ai_Go t F call post pc lo (.inl y :: .inl x :: r) B I J Rf G := by
  subst hp
  obtain ⟨m, h⟩ := h
  exact ⟨m + 1, go_1 hi h⟩
theorem go_ishr {x y : Int32} (hi : ai_lkp F.2.2.2 pc = some (.ishr, 1)) (hp : pc + 1 = pc') (h : ai_Go t F call post pc' lo (.inl (x >>> (y &&& 31)) :: r) B I J Rf G) : ai_Go t F call post pc lo (.inl y :: .inl x :: r) B I J Rf G := by
  subst hp
  obtain ⟨m, h⟩ := h
  exact ⟨m + 1, go_1 hi h⟩
theorem go_iushr {x y : Int32} (hi : ai_lkp F.2.2.2 pc = some (.iushr, 1)) (hp : pc + 1 = pc') (h : ai_Go t F call post pc' lo (.inl ((x.toUInt32 >>> (y.toUInt32 &&& Int32.toUInt32 31)).toInt32) :: r) B I J Rf G) : ai_Go t F call post pc lo (.inl y :: .inl x :: r) B I J Rf G := by
  subst hp
  obtain ⟨m, h⟩ := h
  exact ⟨m + 1, go_1 hi h⟩
theorem go_idiv {x y : Int32} (hi : ai_lkp F.2.2.2 pc = some (.idiv, 1)) (h0 : ¬ y = 0) (hp : pc + 1 = pc') (h : ai_Go t F call post pc' lo (.inl (x / y) :: r) B I J Rf G) : ai_Go t F call post pc lo (.inl y :: .inl x :: r) B I J Rf G := by
  subst hp
  obtain ⟨m, h⟩ := h
  exact ⟨m + 1, go_1 hi ⟨h0, h⟩⟩
theorem go_irem {x y : Int32} (hi : ai_lkp F.2.2.2 pc = some (.irem, 1)) (h0 : ¬ y = 0) (hp : pc + 1 = pc') (h : ai_Go t F call post pc' lo (.inl (x - x / y * y) :: r) B I J Rf G) : ai_Go t F call post pc lo (.inl y :: .inl x :: r) B I J Rf G := by
  subst hp
  obtain ⟨m, h⟩ := h
  exact ⟨m + 1, go_1 hi ⟨h0, h⟩⟩
theorem go_ladd {x y : Int64} (hi : ai_lkp F.2.2.2 pc = some (.ladd, 1)) (hp : pc + 1 = pc') (h : ai_Go t F call post pc' lo (.inr (.inl (x + y)) :: r) B I J Rf G) : ai_Go t F call post pc lo (.inr (.inl y) :: .inr (.inl x) :: r) B I J Rf G := by
  subst hp
  obtain ⟨m, h⟩ := h
  exact ⟨m + 1, go_1 hi h⟩
theorem go_lsub {x y : Int64} (hi : ai_lkp F.2.2.2 pc = some (.lsub, 1)) (hp : pc + 1 = pc') (h : ai_Go t F call post pc' lo (.inr (.inl (x - y)) :: r) B I J Rf G) : ai_Go t F call post pc lo (.inr (.inl y) :: .inr (.inl x) :: r) B I J Rf G := by
  subst hp
  obtain ⟨m, h⟩ := h
  exact ⟨m + 1, go_1 hi h⟩
theorem go_lmul {x y : Int64} (hi : ai_lkp F.2.2.2 pc = some (.lmul, 1)) (hp : pc + 1 = pc') (h : ai_Go t F call post pc' lo (.inr (.inl (x * y)) :: r) B I J Rf G) : ai_Go t F call post pc lo (.inr (.inl y) :: .inr (.inl x) :: r) B I J Rf G := by
  subst hp
  obtain ⟨m, h⟩ := h
  exact ⟨m + 1, go_1 hi h⟩
theorem go_ldiv {x y : Int64} (hi : ai_lkp F.2.2.2 pc = some (.ldiv, 1)) (h0 : ¬ y = 0) (hp : pc + 1 = pc') (h : ai_Go t F call post pc' lo (.inr (.inl (x / y)) :: r) B I J Rf G) : ai_Go t F call post pc lo (.inr (.inl y) :: .inr (.inl x) :: r) B I J Rf G := by
  subst hp
  obtain ⟨m, h⟩ := h
  exact ⟨m + 1, go_1 hi ⟨h0, h⟩⟩
theorem go_lrem {x y : Int64} (hi : ai_lkp F.2.2.2 pc = some (.lrem, 1)) (h0 : ¬ y = 0) (hp : pc + 1 = pc') (h : ai_Go t F call post pc' lo (.inr (.inl (x - x / y * y)) :: r) B I J Rf G) : ai_Go t F call post pc lo (.inr (.inl y) :: .inr (.inl x) :: r) B I J Rf G := by
  subst hp
  obtain ⟨m, h⟩ := h
  exact ⟨m + 1, go_1 hi ⟨h0, h⟩⟩
theorem go_ineg {x : Int32} (hi : ai_lkp F.2.2.2 pc = some (.ineg, 1)) (hp : pc + 1 = pc') (h : ai_Go t F call post pc' lo (.inl (-x) :: r) B I J Rf G) : ai_Go t F call post pc lo (.inl x :: r) B I J Rf G := by
  subst hp
  obtain ⟨m, h⟩ := h
  exact ⟨m + 1, go_1 hi h⟩
theorem go_i2b {x : Int32} (hi : ai_lkp F.2.2.2 pc = some (.i2b, 1)) (hp : pc + 1 = pc') (h : ai_Go t F call post pc' lo (.inl x.toInt8.toInt32 :: r) B I J Rf G) : ai_Go t F call post pc lo (.inl x :: r) B I J Rf G := by
  subst hp
  obtain ⟨m, h⟩ := h
  exact ⟨m + 1, go_1 hi h⟩
theorem go_i2l {x : Int32} (hi : ai_lkp F.2.2.2 pc = some (.i2l, 1)) (hp : pc + 1 = pc') (h : ai_Go t F call post pc' lo (.inr (.inl x.toInt64) :: r) B I J Rf G) : ai_Go t F call post pc lo (.inl x :: r) B I J Rf G := by
  subst hp
  obtain ⟨m, h⟩ := h
  exact ⟨m + 1, go_1 hi h⟩
theorem go_lcmp {x y : Int64} (hi : ai_lkp F.2.2.2 pc = some (.lcmp, 1)) (hp : pc + 1 = pc') (h : ai_Go t F call post pc' lo (.inl (ai_cmp x y) :: r) B I J Rf G) : ai_Go t F call post pc lo (.inr (.inl y) :: .inr (.inl x) :: r) B I J Rf G := by
  subst hp
  obtain ⟨m, h⟩ := h
  exact ⟨m + 1, go_1 hi h⟩
theorem go_dupI {x : Int32} (hi : ai_lkp F.2.2.2 pc = some (.dup, 1)) (hp : pc + 1 = pc') (h : ai_Go t F call post pc' lo (.inl x :: .inl x :: r) B I J Rf G) : ai_Go t F call post pc lo (.inl x :: r) B I J Rf G := by
  subst hp
  obtain ⟨m, h⟩ := h
  exact ⟨m + 1, go_1 hi h⟩
theorem go_dupR {x : Nat} (hi : ai_lkp F.2.2.2 pc = some (.dup, 1)) (hp : pc + 1 = pc') (h : ai_Go t F call post pc' lo (.inr (.inr x) :: .inr (.inr x) :: r) B I J Rf G) : ai_Go t F call post pc lo (.inr (.inr x) :: r) B I J Rf G := by
  subst hp
  obtain ⟨m, h⟩ := h
  exact ⟨m + 1, go_1 hi h⟩
theorem go_popI {x : Int32} (hi : ai_lkp F.2.2.2 pc = some (.pop, 1)) (hp : pc + 1 = pc') (h : ai_Go t F call post pc' lo r B I J Rf G) : ai_Go t F call post pc lo (.inl x :: r) B I J Rf G := by
  subst hp
  obtain ⟨m, h⟩ := h
  exact ⟨m + 1, go_1 hi h⟩
theorem go_dup2 {y : Int32} {x : Nat} (hi : ai_lkp F.2.2.2 pc = some (.dup2, 1)) (hp : pc + 1 = pc') (h : ai_Go t F call post pc' lo (.inl y :: .inr (.inr x) :: .inl y :: .inr (.inr x) :: r) B I J Rf G) : ai_Go t F call post pc lo (.inl y :: .inr (.inr x) :: r) B I J Rf G := by
  subst hp
  obtain ⟨m, h⟩ := h
  exact ⟨m + 1, go_1 hi h⟩
theorem go_popR {x : Nat} (hi : ai_lkp F.2.2.2 pc = some (.pop, 1)) (hp : pc + 1 = pc') (h : ai_Go t F call post pc' lo r B I J Rf G) : ai_Go t F call post pc lo (.inr (.inr x) :: r) B I J Rf G := by
  subst hp
  obtain ⟨m, h⟩ := h
  exact ⟨m + 1, go_1 hi h⟩
theorem go_goto {off : Int} {ln : Nat} (hi : ai_lkp F.2.2.2 pc = some (.goto off, ln)) (hp : ai_tgt pc off = pc') (h : ai_Go t F call post pc' lo st B I J Rf G) : ai_Go t F call post pc lo st B I J Rf G := by
  subst hp
  obtain ⟨m, h⟩ := h
  exact ⟨m + 1, go_1 hi h⟩
theorem go_if_eq {off : Int} {x : Int32} {pt : Nat} {ln : Nat} (hi : ai_lkp F.2.2.2 pc = some (.ifCond .eq off, ln)) (hp : ai_tgt pc off = pt) (hq : pc + 3 = pc') (ht : (x = 0) → ai_Go t F call post pt lo r B I J Rf G) (hf : ¬ (x = 0) → ai_Go t F call post pc' lo r B I J Rf G) : ai_Go t F call post pc lo (.inl x :: r) B I J Rf G := by
  subst hp
  subst hq
  by_cases hc : (x = 0)
  · obtain ⟨m, h⟩ := ht hc
    exact ⟨m + 1, go_1 hi ⟨fun _ => h, fun q => absurd hc q⟩⟩
  · obtain ⟨m, h⟩ := hf hc
    exact ⟨m + 1, go_1 hi ⟨fun q => absurd q hc, fun _ => h⟩⟩
theorem go_icmp_eq {off : Int} {x y : Int32} {pt : Nat} {ln : Nat} (hi : ai_lkp F.2.2.2 pc = some (.if_icmp .eq off, ln)) (hp : ai_tgt pc off = pt) (hq : pc + 3 = pc') (ht : (x = y) → ai_Go t F call post pt lo r B I J Rf G) (hf : ¬ (x = y) → ai_Go t F call post pc' lo r B I J Rf G) : ai_Go t F call post pc lo (.inl y :: .inl x :: r) B I J Rf G := by
  subst hp
  subst hq
  by_cases hc : (x = y)
  · obtain ⟨m, h⟩ := ht hc
    exact ⟨m + 1, go_1 hi ⟨fun _ => h, fun q => absurd hc q⟩⟩
  · obtain ⟨m, h⟩ := hf hc
    exact ⟨m + 1, go_1 hi ⟨fun q => absurd q hc, fun _ => h⟩⟩
theorem go_if_ne {off : Int} {x : Int32} {pt : Nat} {ln : Nat} (hi : ai_lkp F.2.2.2 pc = some (.ifCond .ne off, ln)) (hp : ai_tgt pc off = pt) (hq : pc + 3 = pc') (ht : (¬ x = 0) → ai_Go t F call post pt lo r B I J Rf G) (hf : ¬ (¬ x = 0) → ai_Go t F call post pc' lo r B I J Rf G) : ai_Go t F call post pc lo (.inl x :: r) B I J Rf G := by
  subst hp
  subst hq
  by_cases hc : (¬ x = 0)
  · obtain ⟨m, h⟩ := ht hc
    exact ⟨m + 1, go_1 hi ⟨fun _ => h, fun q => absurd hc q⟩⟩
  · obtain ⟨m, h⟩ := hf hc
    exact ⟨m + 1, go_1 hi ⟨fun q => absurd q hc, fun _ => h⟩⟩
theorem go_icmp_ne {off : Int} {x y : Int32} {pt : Nat} {ln : Nat} (hi : ai_lkp F.2.2.2 pc = some (.if_icmp .ne off, ln)) (hp : ai_tgt pc off = pt) (hq : pc + 3 = pc') (ht : (¬ x = y) → ai_Go t F call post pt lo r B I J Rf G) (hf : ¬ (¬ x = y) → ai_Go t F call post pc' lo r B I J Rf G) : ai_Go t F call post pc lo (.inl y :: .inl x :: r) B I J Rf G := by
  subst hp
  subst hq
  by_cases hc : (¬ x = y)
  · obtain ⟨m, h⟩ := ht hc
    exact ⟨m + 1, go_1 hi ⟨fun _ => h, fun q => absurd hc q⟩⟩
  · obtain ⟨m, h⟩ := hf hc
    exact ⟨m + 1, go_1 hi ⟨fun q => absurd q hc, fun _ => h⟩⟩
theorem go_if_lt {off : Int} {x : Int32} {pt : Nat} {ln : Nat} (hi : ai_lkp F.2.2.2 pc = some (.ifCond .lt off, ln)) (hp : ai_tgt pc off = pt) (hq : pc + 3 = pc') (ht : (x < 0) → ai_Go t F call post pt lo r B I J Rf G) (hf : ¬ (x < 0) → ai_Go t F call post pc' lo r B I J Rf G) : ai_Go t F call post pc lo (.inl x :: r) B I J Rf G := by
  subst hp
  subst hq
  by_cases hc : (x < 0)
  · obtain ⟨m, h⟩ := ht hc
    exact ⟨m + 1, go_1 hi ⟨fun _ => h, fun q => absurd hc q⟩⟩
  · obtain ⟨m, h⟩ := hf hc
    exact ⟨m + 1, go_1 hi ⟨fun q => absurd q hc, fun _ => h⟩⟩
theorem go_icmp_lt {off : Int} {x y : Int32} {pt : Nat} {ln : Nat} (hi : ai_lkp F.2.2.2 pc = some (.if_icmp .lt off, ln)) (hp : ai_tgt pc off = pt) (hq : pc + 3 = pc') (ht : (x < y) → ai_Go t F call post pt lo r B I J Rf G) (hf : ¬ (x < y) → ai_Go t F call post pc' lo r B I J Rf G) : ai_Go t F call post pc lo (.inl y :: .inl x :: r) B I J Rf G := by
  subst hp
  subst hq
  by_cases hc : (x < y)
  · obtain ⟨m, h⟩ := ht hc
    exact ⟨m + 1, go_1 hi ⟨fun _ => h, fun q => absurd hc q⟩⟩
  · obtain ⟨m, h⟩ := hf hc
    exact ⟨m + 1, go_1 hi ⟨fun q => absurd q hc, fun _ => h⟩⟩
theorem go_if_ge {off : Int} {x : Int32} {pt : Nat} {ln : Nat} (hi : ai_lkp F.2.2.2 pc = some (.ifCond .ge off, ln)) (hp : ai_tgt pc off = pt) (hq : pc + 3 = pc') (ht : (0 ≤ x) → ai_Go t F call post pt lo r B I J Rf G) (hf : ¬ (0 ≤ x) → ai_Go t F call post pc' lo r B I J Rf G) : ai_Go t F call post pc lo (.inl x :: r) B I J Rf G := by
  subst hp
  subst hq
  by_cases hc : (0 ≤ x)
  · obtain ⟨m, h⟩ := ht hc
    exact ⟨m + 1, go_1 hi ⟨fun _ => h, fun q => absurd hc q⟩⟩
  · obtain ⟨m, h⟩ := hf hc
    exact ⟨m + 1, go_1 hi ⟨fun q => absurd q hc, fun _ => h⟩⟩
theorem go_icmp_ge {off : Int} {x y : Int32} {pt : Nat} {ln : Nat} (hi : ai_lkp F.2.2.2 pc = some (.if_icmp .ge off, ln)) (hp : ai_tgt pc off = pt) (hq : pc + 3 = pc') (ht : (y ≤ x) → ai_Go t F call post pt lo r B I J Rf G) (hf : ¬ (y ≤ x) → ai_Go t F call post pc' lo r B I J Rf G) : ai_Go t F call post pc lo (.inl y :: .inl x :: r) B I J Rf G := by
  subst hp
  subst hq
  by_cases hc : (y ≤ x)
  · obtain ⟨m, h⟩ := ht hc
    exact ⟨m + 1, go_1 hi ⟨fun _ => h, fun q => absurd hc q⟩⟩
  · obtain ⟨m, h⟩ := hf hc
    exact ⟨m + 1, go_1 hi ⟨fun q => absurd q hc, fun _ => h⟩⟩
theorem go_if_gt {off : Int} {x : Int32} {pt : Nat} {ln : Nat} (hi : ai_lkp F.2.2.2 pc = some (.ifCond .gt off, ln)) (hp : ai_tgt pc off = pt) (hq : pc + 3 = pc') (ht : (0 < x) → ai_Go t F call post pt lo r B I J Rf G) (hf : ¬ (0 < x) → ai_Go t F call post pc' lo r B I J Rf G) : ai_Go t F call post pc lo (.inl x :: r) B I J Rf G := by
  subst hp
  subst hq
  by_cases hc : (0 < x)
  · obtain ⟨m, h⟩ := ht hc
    exact ⟨m + 1, go_1 hi ⟨fun _ => h, fun q => absurd hc q⟩⟩
  · obtain ⟨m, h⟩ := hf hc
    exact ⟨m + 1, go_1 hi ⟨fun q => absurd q hc, fun _ => h⟩⟩
theorem go_icmp_gt {off : Int} {x y : Int32} {pt : Nat} {ln : Nat} (hi : ai_lkp F.2.2.2 pc = some (.if_icmp .gt off, ln)) (hp : ai_tgt pc off = pt) (hq : pc + 3 = pc') (ht : (y < x) → ai_Go t F call post pt lo r B I J Rf G) (hf : ¬ (y < x) → ai_Go t F call post pc' lo r B I J Rf G) : ai_Go t F call post pc lo (.inl y :: .inl x :: r) B I J Rf G := by
  subst hp
  subst hq
  by_cases hc : (y < x)
  · obtain ⟨m, h⟩ := ht hc
    exact ⟨m + 1, go_1 hi ⟨fun _ => h, fun q => absurd hc q⟩⟩
  · obtain ⟨m, h⟩ := hf hc
    exact ⟨m + 1, go_1 hi ⟨fun q => absurd q hc, fun _ => h⟩⟩
theorem go_if_le {off : Int} {x : Int32} {pt : Nat} {ln : Nat} (hi : ai_lkp F.2.2.2 pc = some (.ifCond .le off, ln)) (hp : ai_tgt pc off = pt) (hq : pc + 3 = pc') (ht : (x ≤ 0) → ai_Go t F call post pt lo r B I J Rf G) (hf : ¬ (x ≤ 0) → ai_Go t F call post pc' lo r B I J Rf G) : ai_Go t F call post pc lo (.inl x :: r) B I J Rf G := by
  subst hp
  subst hq
  by_cases hc : (x ≤ 0)
  · obtain ⟨m, h⟩ := ht hc
    exact ⟨m + 1, go_1 hi ⟨fun _ => h, fun q => absurd hc q⟩⟩
  · obtain ⟨m, h⟩ := hf hc
    exact ⟨m + 1, go_1 hi ⟨fun q => absurd q hc, fun _ => h⟩⟩
theorem go_icmp_le {off : Int} {x y : Int32} {pt : Nat} {ln : Nat} (hi : ai_lkp F.2.2.2 pc = some (.if_icmp .le off, ln)) (hp : ai_tgt pc off = pt) (hq : pc + 3 = pc') (ht : (x ≤ y) → ai_Go t F call post pt lo r B I J Rf G) (hf : ¬ (x ≤ y) → ai_Go t F call post pc' lo r B I J Rf G) : ai_Go t F call post pc lo (.inl y :: .inl x :: r) B I J Rf G := by
  subst hp
  subst hq
  by_cases hc : (x ≤ y)
  · obtain ⟨m, h⟩ := ht hc
    exact ⟨m + 1, go_1 hi ⟨fun _ => h, fun q => absurd hc q⟩⟩
  · obtain ⟨m, h⟩ := hf hc
    exact ⟨m + 1, go_1 hi ⟨fun q => absurd q hc, fun _ => h⟩⟩
theorem go_ifnull {off : Int} {x : Nat} {pt : Nat} {ln : Nat} (hi : ai_lkp F.2.2.2 pc = some (.ifnull off, ln)) (hp : ai_tgt pc off = pt) (hq : pc + 3 = pc') (ht : (x = 0) → ai_Go t F call post pt lo r B I J Rf G) (hf : ¬ (x = 0) → ai_Go t F call post pc' lo r B I J Rf G) : ai_Go t F call post pc lo (.inr (.inr x) :: r) B I J Rf G := by
  subst hp
  subst hq
  by_cases hc : (x = 0)
  · obtain ⟨m, h⟩ := ht hc
    exact ⟨m + 1, go_1 hi ⟨fun _ => h, fun q => absurd hc q⟩⟩
  · obtain ⟨m, h⟩ := hf hc
    exact ⟨m + 1, go_1 hi ⟨fun q => absurd q hc, fun _ => h⟩⟩
theorem go_ifnonnull {off : Int} {x : Nat} {pt : Nat} {ln : Nat} (hi : ai_lkp F.2.2.2 pc = some (.ifnonnull off, ln)) (hp : ai_tgt pc off = pt) (hq : pc + 3 = pc') (ht : ¬ x = 0 → ai_Go t F call post pt lo r B I J Rf G) (hf : x = 0 → ai_Go t F call post pc' lo r B I J Rf G) : ai_Go t F call post pc lo (.inr (.inr x) :: r) B I J Rf G := by
  subst hp
  subst hq
  by_cases hc : x = 0
  · obtain ⟨m, h⟩ := hf hc
    exact ⟨m + 1, go_1 hi ⟨fun q => absurd hc q, fun _ => h⟩⟩
  · obtain ⟨m, h⟩ := ht hc
    exact ⟨m + 1, go_1 hi ⟨fun _ => h, fun q => absurd q hc⟩⟩
theorem go_sw_out {x : Int32} {k : Nat → Prop} : ∀ (os : List Int) (lo : Int), x.toInt < lo ∨ lo + (os.length : Int) ≤ x.toInt → ai_sw x pc k lo os
  | [], _, _ => trivial
  | o :: os, lo, h => by
    simp only [List.length_cons] at h
    push_cast at h
    exact ⟨fun e => by exfalso; omega, go_sw_out os (lo + 1) (by omega)⟩
theorem go_sw_in {x : Int32} {k : Nat → Prop} : ∀ (os : List Int) (lo : Int) (i : Nat) (o : Int), os[i]? = some o → x.toInt = lo + (i : Int) → k (ai_tgt pc o) → ai_sw x pc k lo os
  | [], _, i, o, h, _, _ => by simp at h
  | q :: os, lo, i, o, h, hx, hk => by
    cases i with
    | zero =>
      simp at h
      subst h
      refine ⟨fun _ => hk, ?_⟩
      exact go_sw_out os (lo + 1) (Or.inl (by rw [hx]; simp; omega))
    | succ j => exact ⟨fun e => by exfalso; rw [hx] at e; push_cast at e; omega, go_sw_in os (lo + 1) j o (by simpa using h) (by rw [hx]; push_cast; omega) hk⟩
theorem go_swOut {d lq hq : Int} {os : Array Int} {ln : Nat} {x : Int32} (hi : ai_lkp F.2.2.2 pc = some (.tableswitch d lq hq os, ln)) (hx : x.toInt < lq ∨ lq + (os.toList.length : Int) ≤ x.toInt) (hp : ai_tgt pc d = pc') (h : ai_Go t F call post pc' lo r B I J Rf G) : ai_Go t F call post pc lo (.inl x :: r) B I J Rf G := by
  subst hp
  obtain ⟨m, h⟩ := h
  exact ⟨m + 1, go_1 hi (by show (x.toInt < lq ∨ hq < x.toInt → ai_W t F call post [] m (ai_tgt pc d) lo r B I J Rf G) ∧ ai_sw x pc (fun q => ai_W t F call post [] m q lo r B I J Rf G) lq os.toList; exact ⟨fun _ => h, go_sw_out _ _ hx⟩)⟩
theorem go_swIn {d lq hq : Int} {os : Array Int} {ln : Nat} {x : Int32} (i : Nat) {o : Int} (hi : ai_lkp F.2.2.2 pc = some (.tableswitch d lq hq os, ln)) (ho : os.toList[i]? = some o) (hx : x.toInt = lq + (i : Int)) (hh : x.toInt ≤ hq) (hp : ai_tgt pc o = pc') (h : ai_Go t F call post pc' lo r B I J Rf G) : ai_Go t F call post pc lo (.inl x :: r) B I J Rf G := by
  subst hp
  obtain ⟨m, h⟩ := h
  exact ⟨m + 1, go_1 hi (by show (x.toInt < lq ∨ hq < x.toInt → ai_W t F call post [] m (ai_tgt pc d) lo r B I J Rf G) ∧ ai_sw x pc (fun q => ai_W t F call post [] m q lo r B I J Rf G) lq os.toList; exact ⟨fun q => by exfalso; omega, go_sw_in _ _ i o ho hx h⟩)⟩
theorem go_iaload {i : Int32} {c : Nat} (hi : ai_lkp F.2.2.2 pc = some (.iaload, 1)) (hk : ai_isI F.1 G.1 c) (hb : ai_in i (G.2.1 c)) (hp : pc + 1 = pc') (h : ai_Go t F call post pc' lo (.inl (I c i.toNatClampNeg) :: r) B I J Rf G) : ai_Go t F call post pc lo (.inl i :: .inr (.inr c) :: r) B I J Rf G := by
  subst hp
  obtain ⟨m, h⟩ := h
  exact ⟨m + 1, go_1 hi ⟨hk, hb, h⟩⟩
theorem go_baload {i : Int32} {c : Nat} (hi : ai_lkp F.2.2.2 pc = some (.baload, 1)) (hk : G.1 c = 12) (hb : ai_in i (G.2.1 c)) (hp : pc + 1 = pc') (h : ai_Go t F call post pc' lo (.inl (I c i.toNatClampNeg) :: r) B I J Rf G) : ai_Go t F call post pc lo (.inl i :: .inr (.inr c) :: r) B I J Rf G := by
  subst hp
  obtain ⟨m, h⟩ := h
  exact ⟨m + 1, go_1 hi ⟨hk, hb, h⟩⟩
theorem go_laload {i : Int32} {c : Nat} (hi : ai_lkp F.2.2.2 pc = some (.laload, 1)) (hk : G.1 c = 14) (hb : ai_in i (G.2.1 c)) (hp : pc + 1 = pc') (h : ai_Go t F call post pc' lo (.inr (.inl (J c i.toNatClampNeg)) :: r) B I J Rf G) : ai_Go t F call post pc lo (.inl i :: .inr (.inr c) :: r) B I J Rf G := by
  subst hp
  obtain ⟨m, h⟩ := h
  exact ⟨m + 1, go_1 hi ⟨hk, hb, h⟩⟩
theorem go_aaload {i : Int32} {c : Nat} (hi : ai_lkp F.2.2.2 pc = some (.aaload, 1)) (hk : G.1 c = 15) (hb : ai_in i (G.2.1 c)) (hp : pc + 1 = pc') (h : ai_Go t F call post pc' lo (.inr (.inr (Rf c i.toNatClampNeg)) :: r) B I J Rf G) : ai_Go t F call post pc lo (.inl i :: .inr (.inr c) :: r) B I J Rf G := by
  subst hp
  obtain ⟨m, h⟩ := h
  exact ⟨m + 1, go_1 hi ⟨hk, hb, h⟩⟩
theorem go_iastore {i x : Int32} {c : Nat} (hi : ai_lkp F.2.2.2 pc = some (.iastore, 1)) (hk : G.1 c = 13) (hb : ai_in i (G.2.1 c)) (hp : pc + 1 = pc') (h : ai_Go t F call post pc' lo r B (va_up I c (va_up (I c) i.toNatClampNeg x)) J Rf G) : ai_Go t F call post pc lo (.inl x :: .inl i :: .inr (.inr c) :: r) B I J Rf G := by
  subst hp
  obtain ⟨m, h⟩ := h
  exact ⟨m + 1, go_1 hi ⟨hk, hb, h⟩⟩
theorem go_bastore {i x : Int32} {c : Nat} (hi : ai_lkp F.2.2.2 pc = some (.bastore, 1)) (hk : G.1 c = 12) (hb : ai_in i (G.2.1 c)) (hp : pc + 1 = pc') (h : ai_Go t F call post pc' lo r B (va_up I c (va_up (I c) i.toNatClampNeg x.toInt8.toInt32)) J Rf G) : ai_Go t F call post pc lo (.inl x :: .inl i :: .inr (.inr c) :: r) B I J Rf G := by
  subst hp
  obtain ⟨m, h⟩ := h
  exact ⟨m + 1, go_1 hi ⟨hk, hb, h⟩⟩
theorem go_lastore {i : Int32} {x : Int64} {c : Nat} (hi : ai_lkp F.2.2.2 pc = some (.lastore, 1)) (hk : G.1 c = 14) (hb : ai_in i (G.2.1 c)) (hp : pc + 1 = pc') (h : ai_Go t F call post pc' lo r B I (va_up J c (va_up (J c) i.toNatClampNeg x)) Rf G) : ai_Go t F call post pc lo (.inr (.inl x) :: .inl i :: .inr (.inr c) :: r) B I J Rf G := by
  subst hp
  obtain ⟨m, h⟩ := h
  exact ⟨m + 1, go_1 hi ⟨hk, hb, h⟩⟩
theorem go_aastore {i : Int32} {x c : Nat} (hi : ai_lkp F.2.2.2 pc = some (.aastore, 1)) (hk : G.1 c = 15) (hb : ai_in i (G.2.1 c)) (hx : G.1 x = 8) (hp : pc + 1 = pc') (h : ai_Go t F call post pc' lo r B I J (va_up Rf c (va_up (Rf c) i.toNatClampNeg x)) G) : ai_Go t F call post pc lo (.inr (.inr x) :: .inl i :: .inr (.inr c) :: r) B I J Rf G := by
  subst hp
  obtain ⟨m, h⟩ := h
  exact ⟨m + 1, go_1 hi ⟨hk, hb, hx, h⟩⟩
theorem go_alen {c n : Nat} (hi : ai_lkp F.2.2.2 pc = some (.arraylength, 1)) (hk : ai_isA F.1 G.1 c) (hn : G.2.1 c = n) (hp : pc + 1 = pc') (h : ai_Go t F call post pc' lo (.inl (Int32.ofNat n) :: r) B I J Rf G) : ai_Go t F call post pc lo (.inr (.inr c) :: r) B I J Rf G := by
  subst hp
  subst hn
  obtain ⟨m, h⟩ := h
  exact ⟨m + 1, go_1 hi ⟨hk, h⟩⟩
theorem go_getI {ix c : Nat} {q j ty : Nat} {fin : Bool} (hi : ai_lkp F.2.2.2 pc = some (.getfield ix, 3)) (hf : ai_fld t F.1 ix = (q, j, ty, fin)) (h1 : ¬ ty = 1) (h2 : ¬ ty = 2) (hk : G.1 c = q) (hp : pc + 3 = pc') (h : ai_Go t F call post pc' lo (.inl (I c j) :: r) B I J Rf G) : ai_Go t F call post pc lo (.inr (.inr c) :: r) B I J Rf G := by
  subst hp
  obtain ⟨m, h⟩ := h
  exact ⟨m + 1, go_1 hi (by show ai_get t F ix pc lo (.inr (.inr c) :: r) B I J Rf G (ai_W t F call post [] m); unfold ai_get; rw [hf]; exact ⟨hk, (by split <;> first | (exfalso; exact h1 rfl) | (exfalso; exact h2 rfl) | exact h)⟩)⟩
theorem go_getJ {ix c : Nat} {q j : Nat} {fin : Bool} (hi : ai_lkp F.2.2.2 pc = some (.getfield ix, 3)) (hf : ai_fld t F.1 ix = (q, j, 1, fin)) (hk : G.1 c = q) (hp : pc + 3 = pc') (h : ai_Go t F call post pc' lo (.inr (.inl (J c j)) :: r) B I J Rf G) : ai_Go t F call post pc lo (.inr (.inr c) :: r) B I J Rf G := by
  subst hp
  obtain ⟨m, h⟩ := h
  exact ⟨m + 1, go_1 hi (by show ai_get t F ix pc lo (.inr (.inr c) :: r) B I J Rf G (ai_W t F call post [] m); unfold ai_get; rw [hf]; exact ⟨hk, h⟩)⟩
theorem go_getR {ix c : Nat} {q j : Nat} {fin : Bool} (hi : ai_lkp F.2.2.2 pc = some (.getfield ix, 3)) (hf : ai_fld t F.1 ix = (q, j, 2, fin)) (hk : G.1 c = q) (hp : pc + 3 = pc') (h : ai_Go t F call post pc' lo (.inr (.inr (Rf c j)) :: r) B I J Rf G) : ai_Go t F call post pc lo (.inr (.inr c) :: r) B I J Rf G := by
  subst hp
  obtain ⟨m, h⟩ := h
  exact ⟨m + 1, go_1 hi (by show ai_get t F ix pc lo (.inr (.inr c) :: r) B I J Rf G (ai_W t F call post [] m); unfold ai_get; rw [hf]; exact ⟨hk, h⟩)⟩
theorem go_putI {ix c q j : Nat} {fin : Bool} {x : Int32} (hi : ai_lkp F.2.2.2 pc = some (.putfield ix, 3)) (hf : ai_fld t F.1 ix = (q, j, 0, fin)) (hfin : fin = true → F.2.1 = true ∧ F.1 = q) (hk : G.1 c = q) (hp : pc + 3 = pc') (h : ai_Go t F call post pc' lo r B (va_up I c (va_up (I c) j x)) J Rf G) : ai_Go t F call post pc lo (.inl x :: .inr (.inr c) :: r) B I J Rf G := by
  subst hp
  obtain ⟨m, h⟩ := h
  exact ⟨m + 1, go_1 hi (by show ai_sto t F ix pc lo (.inl x :: .inr (.inr c) :: r) B I J Rf G (ai_W t F call post [] m); unfold ai_sto; rw [hf]; exact ⟨hfin, hk, h⟩)⟩
theorem go_putZ {ix c q j : Nat} {fin : Bool} {x : Int32} (hi : ai_lkp F.2.2.2 pc = some (.putfield ix, 3)) (hf : ai_fld t F.1 ix = (q, j, 3, fin)) (hfin : fin = true → F.2.1 = true ∧ F.1 = q) (hk : G.1 c = q) (hz : narrow .boolean (.int x) = .int x) (hp : pc + 3 = pc') (h : ai_Go t F call post pc' lo r B (va_up I c (va_up (I c) j x)) J Rf G) : ai_Go t F call post pc lo (.inl x :: .inr (.inr c) :: r) B I J Rf G := by
  subst hp
  obtain ⟨m, h⟩ := h
  exact ⟨m + 1, go_1 hi (by show ai_sto t F ix pc lo (.inl x :: .inr (.inr c) :: r) B I J Rf G (ai_W t F call post [] m); unfold ai_sto; rw [hf]; exact ⟨hfin, hk, ⟨hz, h⟩⟩)⟩
theorem go_putJ {ix c q j : Nat} {fin : Bool} {x : Int64} (hi : ai_lkp F.2.2.2 pc = some (.putfield ix, 3)) (hf : ai_fld t F.1 ix = (q, j, 1, fin)) (hfin : fin = true → F.2.1 = true ∧ F.1 = q) (hk : G.1 c = q) (hp : pc + 3 = pc') (h : ai_Go t F call post pc' lo r B I (va_up J c (va_up (J c) j x)) Rf G) : ai_Go t F call post pc lo (.inr (.inl x) :: .inr (.inr c) :: r) B I J Rf G := by
  subst hp
  obtain ⟨m, h⟩ := h
  exact ⟨m + 1, go_1 hi (by show ai_sto t F ix pc lo (.inr (.inl x) :: .inr (.inr c) :: r) B I J Rf G (ai_W t F call post [] m); unfold ai_sto; rw [hf]; exact ⟨hfin, hk, h⟩)⟩
theorem go_putR {ix c q j : Nat} {fin : Bool} {x : Nat} (hi : ai_lkp F.2.2.2 pc = some (.putfield ix, 3)) (hf : ai_fld t F.1 ix = (q, j, 2, fin)) (hfin : fin = true → F.2.1 = true ∧ F.1 = q) (hk : G.1 c = q) (hp : pc + 3 = pc') (h : ai_Go t F call post pc' lo r B I J (va_up Rf c (va_up (Rf c) j x)) G) : ai_Go t F call post pc lo (.inr (.inr x) :: .inr (.inr c) :: r) B I J Rf G := by
  subst hp
  obtain ⟨m, h⟩ := h
  exact ⟨m + 1, go_1 hi (by show ai_sto t F ix pc lo (.inr (.inr x) :: .inr (.inr c) :: r) B I J Rf G (ai_W t F call post [] m); unfold ai_sto; rw [hf]; exact ⟨hfin, hk, h⟩)⟩
theorem go_callV {ix y : Nat} {as : List ai_V} {v : Option ai_V} {I1 : ai_I} {J1 : ai_J} {R1 : ai_R} {G1 : ai_G} {st' : List ai_V} (hi : ai_lkp F.2.2.2 pc = some (.invokevirtual ix, 3)) (hy : ai_mth t F.1 ix = y) (n1 : y < 990 ∨ y = 997 ∨ y = 996) (hc : (ai_long (ai_nar t y) st && (Nat.ble (ai_bud t y).1 B.1 && (Nat.ble (ai_bud t y).2 B.2 && Nat.ble (ai_wgt (ai_drops (ai_nar t y) st)) 8))) = true)
    (ha : ai_rvs (ai_takes (ai_nar t y) st) [] = as) (hr : ai_recv (ai_rcv t y) as G.1) (hcl : call y as I J Rf G v I1 J1 R1 G1) (hs : v.toList ++ ai_drops (ai_nar t y) st = st') (hB : (B.1 - (ai_bud t y).1, B.2 - (ai_bud t y).2) = B') (hp : pc + 3 = pc') (h : ai_Go t F call post pc' lo st' B' I1 J1 R1 G1) : ai_Go t F call post pc lo st B I J Rf G := by
  subst hp
  subst hs
  subst hB
  subst ha
  obtain ⟨m, h⟩ := h
  refine ⟨m + 1, go_1 hi ?_⟩
  show ai_inv t F call ix pc lo st B I J Rf G (ai_W t F call post [] m)
  have key : ai_cll t call y pc lo st B I J Rf G (ai_W t F call post [] m) := by
    unfold ai_cll
    rw [hc]
    exact ⟨hr, v, I1, J1, R1, G1, hcl, h⟩
  unfold ai_inv
  rw [hy]
  split <;> first | (exfalso; omega) | exact key
theorem go_callI {ix y : Nat} {as : List ai_V} {v : Option ai_V} {I1 : ai_I} {J1 : ai_J} {R1 : ai_R} {G1 : ai_G} {st' : List ai_V} (hi : ai_lkp F.2.2.2 pc = some (.invokespecial ix, 3)) (hy : ai_mth t F.1 ix = y) (n1 : y < 990 ∨ y = 997 ∨ y = 996) (hc : (ai_long (ai_nar t y) st && (Nat.ble (ai_bud t y).1 B.1 && (Nat.ble (ai_bud t y).2 B.2 && Nat.ble (ai_wgt (ai_drops (ai_nar t y) st)) 8))) = true)
    (ha : ai_rvs (ai_takes (ai_nar t y) st) [] = as) (hr : ai_recv (ai_rcv t y) as G.1) (hcl : call y as I J Rf G v I1 J1 R1 G1) (hs : v.toList ++ ai_drops (ai_nar t y) st = st') (hB : (B.1 - (ai_bud t y).1, B.2 - (ai_bud t y).2) = B') (hp : pc + 3 = pc') (h : ai_Go t F call post pc' lo st' B' I1 J1 R1 G1) : ai_Go t F call post pc lo st B I J Rf G := by
  subst hp
  subst hs
  subst hB
  subst ha
  obtain ⟨m, h⟩ := h
  refine ⟨m + 1, go_1 hi ?_⟩
  show ai_inv t F call ix pc lo st B I J Rf G (ai_W t F call post [] m)
  have key : ai_cll t call y pc lo st B I J Rf G (ai_W t F call post [] m) := by
    unfold ai_cll
    rw [hc]
    exact ⟨hr, v, I1, J1, R1, G1, hcl, h⟩
  unfold ai_inv
  rw [hy]
  split <;> first | (exfalso; omega) | exact key
theorem go_callS {ix y : Nat} {as : List ai_V} {v : Option ai_V} {I1 : ai_I} {J1 : ai_J} {R1 : ai_R} {G1 : ai_G} {st' : List ai_V} (hi : ai_lkp F.2.2.2 pc = some (.invokestatic ix, 3)) (hy : ai_mth t F.1 ix = y) (n1 : y < 990 ∨ y = 997 ∨ y = 996) (hc : (ai_long (ai_nar t y) st && (Nat.ble (ai_bud t y).1 B.1 && (Nat.ble (ai_bud t y).2 B.2 && Nat.ble (ai_wgt (ai_drops (ai_nar t y) st)) 8))) = true)
    (ha : ai_rvs (ai_takes (ai_nar t y) st) [] = as) (hr : ai_recv (ai_rcv t y) as G.1) (hcl : call y as I J Rf G v I1 J1 R1 G1) (hs : v.toList ++ ai_drops (ai_nar t y) st = st') (hB : (B.1 - (ai_bud t y).1, B.2 - (ai_bud t y).2) = B') (hp : pc + 3 = pc') (h : ai_Go t F call post pc' lo st' B' I1 J1 R1 G1) : ai_Go t F call post pc lo st B I J Rf G := by
  subst hp
  subst hs
  subst hB
  subst ha
  obtain ⟨m, h⟩ := h
  refine ⟨m + 1, go_1 hi ?_⟩
  show ai_inv t F call ix pc lo st B I J Rf G (ai_W t F call post [] m)
  have key : ai_cll t call y pc lo st B I J Rf G (ai_W t F call post [] m) := by
    unfold ai_cll
    rw [hc]
    exact ⟨hr, v, I1, J1, R1, G1, hcl, h⟩
  unfold ai_inv
  rw [hy]
  split <;> first | (exfalso; omega) | exact key
theorem go_obj {ix : Nat} {c : Nat} (hi : ai_lkp F.2.2.2 pc = some (.invokespecial ix, 3)) (hy : ai_mth t F.1 ix = 999) (h0 : ¬ c = 0) (hw : ai_wgt r ≤ 8) (hp : pc + 3 = pc') (h : ai_Go t F call post pc' lo r B I J Rf G) : ai_Go t F call post pc lo (.inr (.inr c) :: r) B I J Rf G := by
  subst hp
  obtain ⟨m, h⟩ := h
  refine ⟨m + 1, go_1 hi ?_⟩
  show ai_inv t F call ix pc lo (.inr (.inr c) :: r) B I J Rf G (ai_W t F call post [] m)
  unfold ai_inv
  rw [hy]
  exact ⟨h0, hw, h⟩
theorem go_copy {ix : Nat} {n dp sp : Int32} {c0 c : Nat} (hi : ai_lkp F.2.2.2 pc = some (.invokestatic ix, 3)) (hy : ai_mth t F.1 ix = 998) (hok : ai_cpyOk G.1 G.2.1 c0 c sp dp n) (hw : ai_wgt r ≤ 8) (hp : pc + 3 = pc') (h : ai_Go t F call post pc' lo r B (va_up I c (va_cpy (I c0) (I c) sp.toNatClampNeg dp.toNatClampNeg n.toNatClampNeg)) J Rf G) : ai_Go t F call post pc lo (.inl n :: .inl dp :: .inr (.inr c) :: .inl sp :: .inr (.inr c0) :: r) B I J Rf G := by
  subst hp
  obtain ⟨m, h⟩ := h
  refine ⟨m + 1, go_1 hi ?_⟩
  show ai_inv t F call ix pc lo (.inl n :: .inl dp :: .inr (.inr c) :: .inl sp :: .inr (.inr c0) :: r) B I J Rf G (ai_W t F call post [] m)
  unfold ai_inv
  rw [hy]
  exact ⟨hok, hw, h⟩
theorem go_max {ix : Nat} {x y : Int32} (hi : ai_lkp F.2.2.2 pc = some (.invokestatic ix, 3)) (hy : ai_mth t F.1 ix = 995) (hw : ai_wgt r ≤ 8) (hp : pc + 3 = pc') (h : ai_Go t F call post pc' lo (.inl (if x < y then y else x) :: r) B I J Rf G) : ai_Go t F call post pc lo (.inl y :: .inl x :: r) B I J Rf G := by
  subst hp
  obtain ⟨m, h⟩ := h
  refine ⟨m + 1, go_1 hi ?_⟩
  show ai_inv t F call ix pc lo (.inl y :: .inl x :: r) B I J Rf G (ai_W t F call post [] m)
  unfold ai_inv
  rw [hy]
  exact ⟨hw, h⟩
theorem go_min {ix : Nat} {x y : Int32} (hi : ai_lkp F.2.2.2 pc = some (.invokestatic ix, 3)) (hy : ai_mth t F.1 ix = 994) (hw : ai_wgt r ≤ 8) (hp : pc + 3 = pc') (h : ai_Go t F call post pc' lo (.inl (if y < x then y else x) :: r) B I J Rf G) : ai_Go t F call post pc lo (.inl y :: .inl x :: r) B I J Rf G := by
  subst hp
  obtain ⟨m, h⟩ := h
  refine ⟨m + 1, go_1 hi ?_⟩
  show ai_inv t F call ix pc lo (.inl y :: .inl x :: r) B I J Rf G (ai_W t F call post [] m)
  unfold ai_inv
  rw [hy]
  exact ⟨hw, h⟩
theorem go_abs {ix : Nat} {x : Int32} (hi : ai_lkp F.2.2.2 pc = some (.invokestatic ix, 3)) (hy : ai_mth t F.1 ix = 993) (hw : ai_wgt r ≤ 8) (hp : pc + 3 = pc') (h : ai_Go t F call post pc' lo (.inl (if 0 ≤ x then x else 0 - x) :: r) B I J Rf G) : ai_Go t F call post pc lo (.inl x :: r) B I J Rf G := by
  subst hp
  obtain ⟨m, h⟩ := h
  refine ⟨m + 1, go_1 hi ?_⟩
  show ai_inv t F call ix pc lo (.inl x :: r) B I J Rf G (ai_W t F call post [] m)
  unfold ai_inv
  rw [hy]
  exact ⟨hw, h⟩
theorem go_new {ix q nf : Nat} (hi : ai_lkp F.2.2.2 pc = some (.new ix, 3)) (hq : ai_cls t F.1 ix = q) (hn : ai_nfd t q = nf) (h1 : 1 ≤ B.1) (h2 : nf ≤ B.2) (h9 : G.2.2 < 900) (hp : pc + 3 = pc') (h : ai_Go t F call post pc' lo (.inr (.inr (G.2.2 + 1)) :: st) (B.1 - 1, B.2 - nf) (va_up I (G.2.2 + 1) (fun _ => 0)) (va_up J (G.2.2 + 1) (fun _ => 0)) (va_up Rf (G.2.2 + 1) (fun _ => 0)) (va_up G.1 (G.2.2 + 1) q, G.2.1, G.2.2 + 1)) : ai_Go t F call post pc lo st B I J Rf G := by
  subst hp
  subst hn
  subst hq
  obtain ⟨m, h⟩ := h
  exact ⟨m + 1, go_1 hi ⟨h1, h2, h9, h⟩⟩
theorem go_newB {n : Int32} {N : Nat} (hi : ai_lkp F.2.2.2 pc = some (.newarray .byte, 2)) (h0 : ¬ n < 0) (hN : n.toNatClampNeg = N) (h1 : 1 ≤ B.1) (h2 : N ≤ B.2) (h3 : N ≤ 10000000) (h9 : G.2.2 < 900) (hp : pc + 2 = pc') (h : ai_Go t F call post pc' lo (.inr (.inr (G.2.2 + 1)) :: r) (B.1 - 1, B.2 - N) (va_up I (G.2.2 + 1) (fun _ => 0)) J Rf (va_up G.1 (G.2.2 + 1) 12, va_up G.2.1 (G.2.2 + 1) N, G.2.2 + 1)) : ai_Go t F call post pc lo (.inl n :: r) B I J Rf G := by
  subst hp
  subst hN
  obtain ⟨m, h⟩ := h
  exact ⟨m + 1, go_1 hi ⟨h0, h1, h2, h3, h9, h⟩⟩
theorem go_newI {n : Int32} {N : Nat} (hi : ai_lkp F.2.2.2 pc = some (.newarray .int, 2)) (h0 : ¬ n < 0) (hN : n.toNatClampNeg = N) (h1 : 1 ≤ B.1) (h2 : N ≤ B.2) (h3 : N ≤ 10000000) (h9 : G.2.2 < 900) (hp : pc + 2 = pc') (h : ai_Go t F call post pc' lo (.inr (.inr (G.2.2 + 1)) :: r) (B.1 - 1, B.2 - N) (va_up I (G.2.2 + 1) (fun _ => 0)) J Rf (va_up G.1 (G.2.2 + 1) 13, va_up G.2.1 (G.2.2 + 1) N, G.2.2 + 1)) : ai_Go t F call post pc lo (.inl n :: r) B I J Rf G := by
  subst hp
  subst hN
  obtain ⟨m, h⟩ := h
  exact ⟨m + 1, go_1 hi ⟨h0, h1, h2, h3, h9, h⟩⟩
theorem go_newJ {n : Int32} {N : Nat} (hi : ai_lkp F.2.2.2 pc = some (.newarray .long, 2)) (h0 : ¬ n < 0) (hN : n.toNatClampNeg = N) (h1 : 1 ≤ B.1) (h2 : N ≤ B.2) (h3 : N ≤ 10000000) (h9 : G.2.2 < 900) (hp : pc + 2 = pc') (h : ai_Go t F call post pc' lo (.inr (.inr (G.2.2 + 1)) :: r) (B.1 - 1, B.2 - N) I (va_up J (G.2.2 + 1) (fun _ => 0)) Rf (va_up G.1 (G.2.2 + 1) 14, va_up G.2.1 (G.2.2 + 1) N, G.2.2 + 1)) : ai_Go t F call post pc lo (.inl n :: r) B I J Rf G := by
  subst hp
  subst hN
  obtain ⟨m, h⟩ := h
  exact ⟨m + 1, go_1 hi ⟨h0, h1, h2, h3, h9, h⟩⟩
theorem go_newA {ix : Nat} {n : Int32} {N : Nat} (hi : ai_lkp F.2.2.2 pc = some (.anewarray ix, 3)) (hq : ai_cls t F.1 ix = 8) (h0 : ¬ n < 0) (hN : n.toNatClampNeg = N) (h1 : 1 ≤ B.1) (h2 : N ≤ B.2) (h3 : N ≤ 10000000) (h9 : G.2.2 < 900) (hp : pc + 3 = pc') (h : ai_Go t F call post pc' lo (.inr (.inr (G.2.2 + 1)) :: r) (B.1 - 1, B.2 - N) I J (va_up Rf (G.2.2 + 1) (fun _ => 0)) (va_up G.1 (G.2.2 + 1) 15, va_up G.2.1 (G.2.2 + 1) N, G.2.2 + 1)) : ai_Go t F call post pc lo (.inl n :: r) B I J Rf G := by
  subst hp
  subst hN
  obtain ⟨m, h⟩ := h
  exact ⟨m + 1, go_1 hi ⟨hq, h0, h1, h2, h3, h9, h⟩⟩
theorem go_iret {x : Int32} {ln : Nat} (hi : ai_lkp F.2.2.2 pc = some (.ireturn, ln)) (hf : ai_fitB F.2.2.1 x) (h : post (some (.inl x)) I J Rf G) : ai_Go t F call post pc lo [.inl x] B I J Rf G := ⟨1, go_1 hi ⟨hf, h⟩⟩
theorem go_lret {x : Int64} {ln : Nat} (hi : ai_lkp F.2.2.2 pc = some (.lreturn, ln)) (hf : F.2.2.1 = 1) (h : post (some (.inr (.inl x))) I J Rf G) : ai_Go t F call post pc lo [.inr (.inl x)] B I J Rf G := ⟨1, go_1 hi ⟨hf, h⟩⟩
theorem go_aret {x : Nat} {ln : Nat} (hi : ai_lkp F.2.2.2 pc = some (.areturn, ln)) (hf : F.2.2.1 = 2) (h : post (some (.inr (.inr x))) I J Rf G) : ai_Go t F call post pc lo [.inr (.inr x)] B I J Rf G := ⟨1, go_1 hi ⟨hf, h⟩⟩
theorem go_vret {ln : Nat} (hi : ai_lkp F.2.2.2 pc = some (.return_, ln)) (hf : F.2.2.1 = 9) (h : post none I J Rf G) : ai_Go t F call post pc lo [] B I J Rf G := ⟨1, go_1 hi ⟨hf, h⟩⟩
theorem go_nmI {x : Int32} (h : ∀ y : Int32, y = x → ai_Go t F call post pc lo (.inl y :: r) B I J Rf G) : ai_Go t F call post pc lo (.inl x :: r) B I J Rf G := h x rfl
theorem go_nmJ {x : Int64} (h : ∀ y : Int64, y = x → ai_Go t F call post pc lo (.inr (.inl y) :: r) B I J Rf G) : ai_Go t F call post pc lo (.inr (.inl x) :: r) B I J Rf G := h x rfl
theorem go_nmR {x : Nat} (h : ∀ y : Nat, y = x → ai_Go t F call post pc lo (.inr (.inr y) :: r) B I J Rf G) : ai_Go t F call post pc lo (.inr (.inr x) :: r) B I J Rf G := h x rfl
theorem go_iincN {i : Nat} {n : Int} {x y : Int32} {lo' : Int32 → List (Option ai_V)} (hi : ai_lkp F.2.2.2 pc = some (.iinc i n, 3)) (hv : ai_loc lo i = some (.inl x)) (hn : Int32.ofInt n = y) (hl : ∀ z, ai_put lo i (.inl z) = lo' z) (hp : pc + 3 = pc') (h : ∀ z : Int32, z = x + y → ai_Go t F call post pc' (lo' z) st B I J Rf G) : ai_Go t F call post pc lo st B I J Rf G := go_iinc hi hv hn (hl (x + y)) hp (h (x + y) rfl)
end
/-- a call's end: this answer, this memory -/
abbrev sp_Q (v : Option ai_V) (I1 : ai_I) (J1 : ai_J) (R1 : ai_R) (G1 : ai_G) : ai_Q := fun v2 I2 J2 R2 G2 => v2 = v ∧ I2 = I1 ∧ J2 = J1 ∧ R2 = R1 ∧ G2 = G1
/-- a method's own run gives its call -/
theorem sp_in {e y o rc nL : Nat} {ini : Bool} {cd : List (Nat × Instr × Nat)} {as : List ai_V} {lo : List (Option ai_V)} {B : Nat × Nat} {I : ai_I} {J : ai_J} {Rf : ai_R} {G : ai_G} {v : Option ai_V} {I1 : ai_I} {J1 : ai_J} {R1 : ai_R} {G1 : ai_G} (hms : si_ms y = some ((o, ini, rc, cd), nL)) (hw : ai_wgt as ≤ nL) (hl : ai_ent nL as = lo) (hB : si_bl y = B)
    (h : ai_Go si_t (o, ini, rc, cd) (ai_Cl si_t si_ms e) (sp_Q v I1 J1 R1 G1) 0 lo [] B I J Rf G) : ai_Cl si_t si_ms (e + 1) y as I J Rf G v I1 J1 R1 G1 := by
  subst hl
  subst hB
  show (match si_ms y with
    | some q => ai_wgt as ≤ q.2 ∧ ai_Go si_t q.1 (ai_Cl si_t si_ms e) (sp_Q v I1 J1 R1 G1) 0 (ai_ent q.2 as) [] (ai_bud si_t y) I J Rf G
    | none => 4 ≤ e ∧ ai_prm si_t y as v ∧ I1 = I ∧ J1 = J ∧ R1 = Rf ∧ G1 = G)
  rw [hms]
  exact ⟨hw, h⟩
end
