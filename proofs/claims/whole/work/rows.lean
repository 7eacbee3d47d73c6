section
-- ===== PART A: goes FIRST, ahead of the names: the tables' words, and 'selects' of the private methods out of them =====
/-- a private method of a class that the tables say can be made, by its rows of tables_1 -/
def lw_okq (q : MethodName × Nat) : Prop := (q.1.cls ≠ "java/lang/invoke/MethodHandle" ∧ q.1.cls ≠ "java/lang/invoke/VarHandle") ∧ Cond.instantiable q.1.cls q.2 ∈ tables_1 ∧ Cond.privateMethod q.1 ∈ tables_1 ∧ Cond.instanceMethod q.1 ∈ tables_1
theorem lw_p0 : lw_okq (⟨"ShelfSpines$History", "dropOldest", "()V"⟩, 2) := ⟨⟨by decide +kernel, by decide +kernel⟩, List.mem_of_getElem? (i := 92) (by decide +kernel), List.mem_of_getElem? (i := 277) (by decide +kernel), List.mem_of_getElem? (i := 278) (by decide +kernel)⟩
theorem lw_p1 : lw_okq (⟨"ShelfSpines$Shelf", "renumber", "(II)V"⟩, 10) := ⟨⟨by decide +kernel, by decide +kernel⟩, List.mem_of_getElem? (i := 23) (by decide +kernel), List.mem_of_getElem? (i := 298) (by decide +kernel), List.mem_of_getElem? (i := 299) (by decide +kernel)⟩
theorem lw_p2 : lw_okq (⟨"ShelfSpines", "countAccounts", "(I)I"⟩, 8) := ⟨⟨by decide +kernel, by decide +kernel⟩, List.mem_of_getElem? (i := 15) (by decide +kernel), List.mem_of_getElem? (i := 503) (by decide +kernel), List.mem_of_getElem? (i := 504) (by decide +kernel)⟩
theorem lw_p3 : lw_okq (⟨"ShelfSpines", "drawnSearch", "()LShelfSpines$Search;"⟩, 8) := ⟨⟨by decide +kernel, by decide +kernel⟩, List.mem_of_getElem? (i := 15) (by decide +kernel), List.mem_of_getElem? (i := 515) (by decide +kernel), List.mem_of_getElem? (i := 516) (by decide +kernel)⟩
theorem lw_p4 : lw_okq (⟨"ShelfSpines$Graph", "drawOnward", "(III)V"⟩, 6) := ⟨⟨by decide +kernel, by decide +kernel⟩, List.mem_of_getElem? (i := 125) (by decide +kernel), List.mem_of_getElem? (i := 528) (by decide +kernel), List.mem_of_getElem? (i := 529) (by decide +kernel)⟩
theorem lw_p5 : lw_okq (⟨"ShelfSpines$Graph", "shareOut", "(II)V"⟩, 6) := ⟨⟨by decide +kernel, by decide +kernel⟩, List.mem_of_getElem? (i := 125) (by decide +kernel), List.mem_of_getElem? (i := 538) (by decide +kernel), List.mem_of_getElem? (i := 539) (by decide +kernel)⟩
theorem lw_p6 : lw_okq (⟨"ShelfSpines$Graph", "drawInto", "(II)V"⟩, 6) := ⟨⟨by decide +kernel, by decide +kernel⟩, List.mem_of_getElem? (i := 125) (by decide +kernel), List.mem_of_getElem? (i := 542) (by decide +kernel), List.mem_of_getElem? (i := 543) (by decide +kernel)⟩
theorem lw_p7 : lw_okq (⟨"ShelfSpines$Search", "findWays", "(LShelfSpines$Shelf;I)LShelfSpines$Row;"⟩, 9) := ⟨⟨by decide +kernel, by decide +kernel⟩, List.mem_of_getElem? (i := 157) (by decide +kernel), List.mem_of_getElem? (i := 550) (by decide +kernel), List.mem_of_getElem? (i := 551) (by decide +kernel)⟩
theorem lw_p8 : lw_okq (⟨"ShelfSpines$Search", "findFewest", "(LShelfSpines$Shelf;)V"⟩, 9) := ⟨⟨by decide +kernel, by decide +kernel⟩, List.mem_of_getElem? (i := 157) (by decide +kernel), List.mem_of_getElem? (i := 554) (by decide +kernel), List.mem_of_getElem? (i := 555) (by decide +kernel)⟩
theorem lw_p9 : lw_okq (⟨"ShelfSpines$Search", "startAtOrder", "(LShelfSpines$Shelf;LShelfSpines$Row;II)V"⟩, 9) := ⟨⟨by decide +kernel, by decide +kernel⟩, List.mem_of_getElem? (i := 157) (by decide +kernel), List.mem_of_getElem? (i := 564) (by decide +kernel), List.mem_of_getElem? (i := 565) (by decide +kernel)⟩
theorem lw_p10 : lw_okq (⟨"ShelfSpines$Search", "comeFrom", "(III)I"⟩, 9) := ⟨⟨by decide +kernel, by decide +kernel⟩, List.mem_of_getElem? (i := 157) (by decide +kernel), List.mem_of_getElem? (i := 571) (by decide +kernel), List.mem_of_getElem? (i := 572) (by decide +kernel)⟩
theorem lw_p11 : lw_okq (⟨"ShelfSpines$Search", "settleCosts", "(LShelfSpines$Shelf;)V"⟩, 9) := ⟨⟨by decide +kernel, by decide +kernel⟩, List.mem_of_getElem? (i := 157) (by decide +kernel), List.mem_of_getElem? (i := 581) (by decide +kernel), List.mem_of_getElem? (i := 582) (by decide +kernel)⟩
theorem lw_p12 : lw_okq (⟨"ShelfSpines$Search", "offerBack", "(LShelfSpines$Shelf;LShelfSpines$Row;I)I"⟩, 9) := ⟨⟨by decide +kernel, by decide +kernel⟩, List.mem_of_getElem? (i := 157) (by decide +kernel), List.mem_of_getElem? (i := 590) (by decide +kernel), List.mem_of_getElem? (i := 591) (by decide +kernel)⟩
theorem lw_p13 : lw_okq (⟨"ShelfSpines$Search", "lowerCosts", "(LShelfSpines$Shelf;)V"⟩, 9) := ⟨⟨by decide +kernel, by decide +kernel⟩, List.mem_of_getElem? (i := 157) (by decide +kernel), List.mem_of_getElem? (i := 596) (by decide +kernel), List.mem_of_getElem? (i := 597) (by decide +kernel)⟩
theorem lw_p14 : lw_okq (⟨"ShelfSpines$Search", "nextMove", "(LShelfSpines$Shelf;LShelfSpines$Row;ZI)I"⟩, 9) := ⟨⟨by decide +kernel, by decide +kernel⟩, List.mem_of_getElem? (i := 157) (by decide +kernel), List.mem_of_getElem? (i := 609) (by decide +kernel), List.mem_of_getElem? (i := 610) (by decide +kernel)⟩
theorem lw_p15 : lw_okq (⟨"ShelfSpines$Search", "reachOn", "(III)I"⟩, 9) := ⟨⟨by decide +kernel, by decide +kernel⟩, List.mem_of_getElem? (i := 157) (by decide +kernel), List.mem_of_getElem? (i := 637) (by decide +kernel), List.mem_of_getElem? (i := 638) (by decide +kernel)⟩
def lw_privs_1 : List (MethodName × Nat) := [(⟨"ShelfSpines$History", "dropOldest", "()V"⟩, 2), (⟨"ShelfSpines$Shelf", "renumber", "(II)V"⟩, 10), (⟨"ShelfSpines", "countAccounts", "(I)I"⟩, 8), (⟨"ShelfSpines", "drawnSearch", "()LShelfSpines$Search;"⟩, 8), (⟨"ShelfSpines$Graph", "drawOnward", "(III)V"⟩, 6), (⟨"ShelfSpines$Graph", "shareOut", "(II)V"⟩, 6), (⟨"ShelfSpines$Graph", "drawInto", "(II)V"⟩, 6), (⟨"ShelfSpines$Search", "findWays", "(LShelfSpines$Shelf;I)LShelfSpines$Row;"⟩, 9), (⟨"ShelfSpines$Search", "findFewest", "(LShelfSpines$Shelf;)V"⟩, 9), (⟨"ShelfSpines$Search", "startAtOrder", "(LShelfSpines$Shelf;LShelfSpines$Row;II)V"⟩, 9), (⟨"ShelfSpines$Search", "comeFrom", "(III)I"⟩, 9), (⟨"ShelfSpines$Search", "settleCosts", "(LShelfSpines$Shelf;)V"⟩, 9), (⟨"ShelfSpines$Search", "offerBack", "(LShelfSpines$Shelf;LShelfSpines$Row;I)I"⟩, 9), (⟨"ShelfSpines$Search", "lowerCosts", "(LShelfSpines$Shelf;)V"⟩, 9), (⟨"ShelfSpines$Search", "nextMove", "(LShelfSpines$Shelf;LShelfSpines$Row;ZI)I"⟩, 9), (⟨"ShelfSpines$Search", "reachOn", "(III)I"⟩, 9)]
theorem lw_r1 : ∀ q ∈ lw_privs_1, lw_okq q := List.forall_mem_cons.mpr ⟨lw_p0, List.forall_mem_cons.mpr ⟨lw_p1, List.forall_mem_cons.mpr ⟨lw_p2, List.forall_mem_cons.mpr ⟨lw_p3, List.forall_mem_cons.mpr ⟨lw_p4, List.forall_mem_cons.mpr ⟨lw_p5, List.forall_mem_cons.mpr ⟨lw_p6, List.forall_mem_cons.mpr ⟨lw_p7, List.forall_mem_cons.mpr ⟨lw_p8, List.forall_mem_cons.mpr ⟨lw_p9, List.forall_mem_cons.mpr ⟨lw_p10, List.forall_mem_cons.mpr ⟨lw_p11, List.forall_mem_cons.mpr ⟨lw_p12, List.forall_mem_cons.mpr ⟨lw_p13, List.forall_mem_cons.mpr ⟨lw_p14, List.forall_mem_cons.mpr ⟨lw_p15, fun _ h => absurd h List.not_mem_nil⟩⟩⟩⟩⟩⟩⟩⟩⟩⟩⟩⟩⟩⟩⟩⟩
theorem lw_p16 : lw_okq (⟨"ShelfSpines$Rounds", "start", "(LShelfSpines$Shelf;)V"⟩, 8) := ⟨⟨by decide +kernel, by decide +kernel⟩, List.mem_of_getElem? (i := 193) (by decide +kernel), List.mem_of_getElem? (i := 657) (by decide +kernel), List.mem_of_getElem? (i := 658) (by decide +kernel)⟩
theorem lw_p17 : lw_okq (⟨"ShelfSpines$Rounds", "goRound", "(LShelfSpines$Shelf;LShelfSpines$Pad;)V"⟩, 8) := ⟨⟨by decide +kernel, by decide +kernel⟩, List.mem_of_getElem? (i := 193) (by decide +kernel), List.mem_of_getElem? (i := 669) (by decide +kernel), List.mem_of_getElem? (i := 670) (by decide +kernel)⟩
theorem lw_p18 : lw_okq (⟨"ShelfSpinesModel", "place", "(I)I"⟩, 19) := ⟨⟨by decide +kernel, by decide +kernel⟩, List.mem_of_getElem? (i := 704) (by decide +kernel), List.mem_of_getElem? (i := 779) (by decide +kernel), List.mem_of_getElem? (i := 780) (by decide +kernel)⟩
theorem lw_p19 : lw_okq (⟨"ShelfSpinesModel", "booksNow", "()I"⟩, 19) := ⟨⟨by decide +kernel, by decide +kernel⟩, List.mem_of_getElem? (i := 704) (by decide +kernel), List.mem_of_getElem? (i := 783) (by decide +kernel), List.mem_of_getElem? (i := 784) (by decide +kernel)⟩
theorem lw_p20 : lw_okq (⟨"ShelfSpinesModel", "looks", "()V"⟩, 19) := ⟨⟨by decide +kernel, by decide +kernel⟩, List.mem_of_getElem? (i := 704) (by decide +kernel), List.mem_of_getElem? (i := 787) (by decide +kernel), List.mem_of_getElem? (i := 788) (by decide +kernel)⟩
theorem lw_p21 : lw_okq (⟨"ShelfSpinesModel", "remembers", "()V"⟩, 19) := ⟨⟨by decide +kernel, by decide +kernel⟩, List.mem_of_getElem? (i := 704) (by decide +kernel), List.mem_of_getElem? (i := 791) (by decide +kernel), List.mem_of_getElem? (i := 792) (by decide +kernel)⟩
theorem lw_p22 : lw_okq (⟨"ShelfSpinesModel", "nearestGap", "(I)I"⟩, 19) := ⟨⟨by decide +kernel, by decide +kernel⟩, List.mem_of_getElem? (i := 704) (by decide +kernel), List.mem_of_getElem? (i := 807) (by decide +kernel), List.mem_of_getElem? (i := 808) (by decide +kernel)⟩
theorem lw_p23 : lw_okq (⟨"ShelfSpinesModel", "does", "(I)I"⟩, 19) := ⟨⟨by decide +kernel, by decide +kernel⟩, List.mem_of_getElem? (i := 704) (by decide +kernel), List.mem_of_getElem? (i := 811) (by decide +kernel), List.mem_of_getElem? (i := 812) (by decide +kernel)⟩
theorem lw_p24 : lw_okq (⟨"ShelfSpinesModel", "whyNotOf", "(I)I"⟩, 19) := ⟨⟨by decide +kernel, by decide +kernel⟩, List.mem_of_getElem? (i := 704) (by decide +kernel), List.mem_of_getElem? (i := 815) (by decide +kernel), List.mem_of_getElem? (i := 816) (by decide +kernel)⟩
theorem lw_p25 : lw_okq (⟨"ShelfSpinesModel", "makes", "(I)V"⟩, 19) := ⟨⟨by decide +kernel, by decide +kernel⟩, List.mem_of_getElem? (i := 704) (by decide +kernel), List.mem_of_getElem? (i := 819) (by decide +kernel), List.mem_of_getElem? (i := 820) (by decide +kernel)⟩
theorem lw_p26 : lw_okq (⟨"ShelfSpinesModel", "goesOn", "()V"⟩, 19) := ⟨⟨by decide +kernel, by decide +kernel⟩, List.mem_of_getElem? (i := 704) (by decide +kernel), List.mem_of_getElem? (i := 823) (by decide +kernel), List.mem_of_getElem? (i := 824) (by decide +kernel)⟩
theorem lw_p27 : lw_okq (⟨"ShelfSpinesModel", "stands", "()V"⟩, 19) := ⟨⟨by decide +kernel, by decide +kernel⟩, List.mem_of_getElem? (i := 704) (by decide +kernel), List.mem_of_getElem? (i := 827) (by decide +kernel), List.mem_of_getElem? (i := 828) (by decide +kernel)⟩
theorem lw_p28 : lw_okq (⟨"ShelfSpinesModel", "faultOfProgram", "()I"⟩, 19) := ⟨⟨by decide +kernel, by decide +kernel⟩, List.mem_of_getElem? (i := 704) (by decide +kernel), List.mem_of_getElem? (i := 851) (by decide +kernel), List.mem_of_getElem? (i := 852) (by decide +kernel)⟩
theorem lw_p29 : lw_okq (⟨"ShelfSpinesModel", "faultOfWord", "()I"⟩, 19) := ⟨⟨by decide +kernel, by decide +kernel⟩, List.mem_of_getElem? (i := 704) (by decide +kernel), List.mem_of_getElem? (i := 858) (by decide +kernel), List.mem_of_getElem? (i := 859) (by decide +kernel)⟩
theorem lw_p30 : lw_okq (⟨"ShelfSpinesModel", "signed", "(I)I"⟩, 19) := ⟨⟨by decide +kernel, by decide +kernel⟩, List.mem_of_getElem? (i := 704) (by decide +kernel), List.mem_of_getElem? (i := 862) (by decide +kernel), List.mem_of_getElem? (i := 863) (by decide +kernel)⟩
theorem lw_p31 : lw_okq (⟨"ShelfSpinesModel", "rankOfThen", "()I"⟩, 19) := ⟨⟨by decide +kernel, by decide +kernel⟩, List.mem_of_getElem? (i := 704) (by decide +kernel), List.mem_of_getElem? (i := 870) (by decide +kernel), List.mem_of_getElem? (i := 871) (by decide +kernel)⟩
def lw_privs_2 : List (MethodName × Nat) := [(⟨"ShelfSpines$Rounds", "start", "(LShelfSpines$Shelf;)V"⟩, 8), (⟨"ShelfSpines$Rounds", "goRound", "(LShelfSpines$Shelf;LShelfSpines$Pad;)V"⟩, 8), (⟨"ShelfSpinesModel", "place", "(I)I"⟩, 19), (⟨"ShelfSpinesModel", "booksNow", "()I"⟩, 19), (⟨"ShelfSpinesModel", "looks", "()V"⟩, 19), (⟨"ShelfSpinesModel", "remembers", "()V"⟩, 19), (⟨"ShelfSpinesModel", "nearestGap", "(I)I"⟩, 19), (⟨"ShelfSpinesModel", "does", "(I)I"⟩, 19), (⟨"ShelfSpinesModel", "whyNotOf", "(I)I"⟩, 19), (⟨"ShelfSpinesModel", "makes", "(I)V"⟩, 19), (⟨"ShelfSpinesModel", "goesOn", "()V"⟩, 19), (⟨"ShelfSpinesModel", "stands", "()V"⟩, 19), (⟨"ShelfSpinesModel", "faultOfProgram", "()I"⟩, 19), (⟨"ShelfSpinesModel", "faultOfWord", "()I"⟩, 19), (⟨"ShelfSpinesModel", "signed", "(I)I"⟩, 19), (⟨"ShelfSpinesModel", "rankOfThen", "()I"⟩, 19)]
theorem lw_r2 : ∀ q ∈ lw_privs_2, lw_okq q := List.forall_mem_cons.mpr ⟨lw_p16, List.forall_mem_cons.mpr ⟨lw_p17, List.forall_mem_cons.mpr ⟨lw_p18, List.forall_mem_cons.mpr ⟨lw_p19, List.forall_mem_cons.mpr ⟨lw_p20, List.forall_mem_cons.mpr ⟨lw_p21, List.forall_mem_cons.mpr ⟨lw_p22, List.forall_mem_cons.mpr ⟨lw_p23, List.forall_mem_cons.mpr ⟨lw_p24, List.forall_mem_cons.mpr ⟨lw_p25, List.forall_mem_cons.mpr ⟨lw_p26, List.forall_mem_cons.mpr ⟨lw_p27, List.forall_mem_cons.mpr ⟨lw_p28, List.forall_mem_cons.mpr ⟨lw_p29, List.forall_mem_cons.mpr ⟨lw_p30, List.forall_mem_cons.mpr ⟨lw_p31, fun _ h => absurd h List.not_mem_nil⟩⟩⟩⟩⟩⟩⟩⟩⟩⟩⟩⟩⟩⟩⟩⟩
theorem lw_p32 : lw_okq (⟨"ShelfSpinesModel", "before", "(I)I"⟩, 19) := ⟨⟨by decide +kernel, by decide +kernel⟩, List.mem_of_getElem? (i := 704) (by decide +kernel), List.mem_of_getElem? (i := 874) (by decide +kernel), List.mem_of_getElem? (i := 875) (by decide +kernel)⟩
theorem lw_p33 : lw_okq (⟨"ShelfSpinesModel", "moveAt", "(I)I"⟩, 19) := ⟨⟨by decide +kernel, by decide +kernel⟩, List.mem_of_getElem? (i := 704) (by decide +kernel), List.mem_of_getElem? (i := 885) (by decide +kernel), List.mem_of_getElem? (i := 886) (by decide +kernel)⟩
theorem lw_p34 : lw_okq (⟨"ShelfSpinesModel", "wrongWith", "(I)I"⟩, 19) := ⟨⟨by decide +kernel, by decide +kernel⟩, List.mem_of_getElem? (i := 704) (by decide +kernel), List.mem_of_getElem? (i := 893) (by decide +kernel), List.mem_of_getElem? (i := 894) (by decide +kernel)⟩
theorem lw_p35 : lw_okq (⟨"ShelfSpinesModel", "isWrong", "(II)Z"⟩, 19) := ⟨⟨by decide +kernel, by decide +kernel⟩, List.mem_of_getElem? (i := 704) (by decide +kernel), List.mem_of_getElem? (i := 897) (by decide +kernel), List.mem_of_getElem? (i := 898) (by decide +kernel)⟩
theorem lw_p36 : lw_okq (⟨"ShelfSpinesModel", "words", "()I"⟩, 19) := ⟨⟨by decide +kernel, by decide +kernel⟩, List.mem_of_getElem? (i := 704) (by decide +kernel), List.mem_of_getElem? (i := 918) (by decide +kernel), List.mem_of_getElem? (i := 919) (by decide +kernel)⟩
theorem lw_p37 : lw_okq (⟨"ShelfSpinesModel", "spells", "(I)V"⟩, 19) := ⟨⟨by decide +kernel, by decide +kernel⟩, List.mem_of_getElem? (i := 704) (by decide +kernel), List.mem_of_getElem? (i := 922) (by decide +kernel), List.mem_of_getElem? (i := 923) (by decide +kernel)⟩
theorem lw_p38 : lw_okq (⟨"ShelfSpinesModel", "unused", "(II)I"⟩, 19) := ⟨⟨by decide +kernel, by decide +kernel⟩, List.mem_of_getElem? (i := 704) (by decide +kernel), List.mem_of_getElem? (i := 926) (by decide +kernel), List.mem_of_getElem? (i := 927) (by decide +kernel)⟩
theorem lw_p39 : lw_okq (⟨"ShelfSpinesModel", "isUsed", "(II)Z"⟩, 19) := ⟨⟨by decide +kernel, by decide +kernel⟩, List.mem_of_getElem? (i := 704) (by decide +kernel), List.mem_of_getElem? (i := 930) (by decide +kernel), List.mem_of_getElem? (i := 931) (by decide +kernel)⟩
theorem lw_p40 : lw_okq (⟨"ShelfSpinesModel", "sumOf", "(I)I"⟩, 19) := ⟨⟨by decide +kernel, by decide +kernel⟩, List.mem_of_getElem? (i := 704) (by decide +kernel), List.mem_of_getElem? (i := 938) (by decide +kernel), List.mem_of_getElem? (i := 939) (by decide +kernel)⟩
theorem lw_p41 : lw_okq (⟨"ShelfSpinesModel", "isWordInOrder", "()Z"⟩, 19) := ⟨⟨by decide +kernel, by decide +kernel⟩, List.mem_of_getElem? (i := 704) (by decide +kernel), List.mem_of_getElem? (i := 942) (by decide +kernel), List.mem_of_getElem? (i := 943) (by decide +kernel)⟩
theorem lw_p42 : lw_okq (⟨"ShelfSpinesModel", "disorderOfWord", "()I"⟩, 19) := ⟨⟨by decide +kernel, by decide +kernel⟩, List.mem_of_getElem? (i := 704) (by decide +kernel), List.mem_of_getElem? (i := 946) (by decide +kernel), List.mem_of_getElem? (i := 947) (by decide +kernel)⟩
theorem lw_p43 : lw_okq (⟨"ShelfSpinesModel", "rankNow", "()I"⟩, 19) := ⟨⟨by decide +kernel, by decide +kernel⟩, List.mem_of_getElem? (i := 704) (by decide +kernel), List.mem_of_getElem? (i := 950) (by decide +kernel), List.mem_of_getElem? (i := 951) (by decide +kernel)⟩
theorem lw_p44 : lw_okq (⟨"ShelfSpinesModel", "wordsInOrder", "()I"⟩, 19) := ⟨⟨by decide +kernel, by decide +kernel⟩, List.mem_of_getElem? (i := 704) (by decide +kernel), List.mem_of_getElem? (i := 954) (by decide +kernel), List.mem_of_getElem? (i := 955) (by decide +kernel)⟩
theorem lw_p45 : lw_okq (⟨"ShelfSpinesModel", "movesNow", "()I"⟩, 19) := ⟨⟨by decide +kernel, by decide +kernel⟩, List.mem_of_getElem? (i := 704) (by decide +kernel), List.mem_of_getElem? (i := 958) (by decide +kernel), List.mem_of_getElem? (i := 959) (by decide +kernel)⟩
theorem lw_p46 : lw_okq (⟨"ShelfSpinesModel", "solves", "()V"⟩, 19) := ⟨⟨by decide +kernel, by decide +kernel⟩, List.mem_of_getElem? (i := 704) (by decide +kernel), List.mem_of_getElem? (i := 966) (by decide +kernel), List.mem_of_getElem? (i := 967) (by decide +kernel)⟩
theorem lw_p47 : lw_okq (⟨"ShelfSpinesModel", "findsMoves", "()V"⟩, 19) := ⟨⟨by decide +kernel, by decide +kernel⟩, List.mem_of_getElem? (i := 704) (by decide +kernel), List.mem_of_getElem? (i := 970) (by decide +kernel), List.mem_of_getElem? (i := 971) (by decide +kernel)⟩
def lw_privs_3 : List (MethodName × Nat) := [(⟨"ShelfSpinesModel", "before", "(I)I"⟩, 19), (⟨"ShelfSpinesModel", "moveAt", "(I)I"⟩, 19), (⟨"ShelfSpinesModel", "wrongWith", "(I)I"⟩, 19), (⟨"ShelfSpinesModel", "isWrong", "(II)Z"⟩, 19), (⟨"ShelfSpinesModel", "words", "()I"⟩, 19), (⟨"ShelfSpinesModel", "spells", "(I)V"⟩, 19), (⟨"ShelfSpinesModel", "unused", "(II)I"⟩, 19), (⟨"ShelfSpinesModel", "isUsed", "(II)Z"⟩, 19), (⟨"ShelfSpinesModel", "sumOf", "(I)I"⟩, 19), (⟨"ShelfSpinesModel", "isWordInOrder", "()Z"⟩, 19), (⟨"ShelfSpinesModel", "disorderOfWord", "()I"⟩, 19), (⟨"ShelfSpinesModel", "rankNow", "()I"⟩, 19), (⟨"ShelfSpinesModel", "wordsInOrder", "()I"⟩, 19), (⟨"ShelfSpinesModel", "movesNow", "()I"⟩, 19), (⟨"ShelfSpinesModel", "solves", "()V"⟩, 19), (⟨"ShelfSpinesModel", "findsMoves", "()V"⟩, 19)]
theorem lw_r3 : ∀ q ∈ lw_privs_3, lw_okq q := List.forall_mem_cons.mpr ⟨lw_p32, List.forall_mem_cons.mpr ⟨lw_p33, List.forall_mem_cons.mpr ⟨lw_p34, List.forall_mem_cons.mpr ⟨lw_p35, List.forall_mem_cons.mpr ⟨lw_p36, List.forall_mem_cons.mpr ⟨lw_p37, List.forall_mem_cons.mpr ⟨lw_p38, List.forall_mem_cons.mpr ⟨lw_p39, List.forall_mem_cons.mpr ⟨lw_p40, List.forall_mem_cons.mpr ⟨lw_p41, List.forall_mem_cons.mpr ⟨lw_p42, List.forall_mem_cons.mpr ⟨lw_p43, List.forall_mem_cons.mpr ⟨lw_p44, List.forall_mem_cons.mpr ⟨lw_p45, List.forall_mem_cons.mpr ⟨lw_p46, List.forall_mem_cons.mpr ⟨lw_p47, fun _ h => absurd h List.not_mem_nil⟩⟩⟩⟩⟩⟩⟩⟩⟩⟩⟩⟩⟩⟩⟩⟩
theorem lw_p48 : lw_okq (⟨"ShelfSpinesModel", "lessens", "(II)Z"⟩, 19) := ⟨⟨by decide +kernel, by decide +kernel⟩, List.mem_of_getElem? (i := 704) (by decide +kernel), List.mem_of_getElem? (i := 975) (by decide +kernel), List.mem_of_getElem? (i := 976) (by decide +kernel)⟩
theorem lw_p49 : lw_okq (⟨"ShelfSpinesModel", "first", "(IZ)I"⟩, 19) := ⟨⟨by decide +kernel, by decide +kernel⟩, List.mem_of_getElem? (i := 704) (by decide +kernel), List.mem_of_getElem? (i := 983) (by decide +kernel), List.mem_of_getElem? (i := 984) (by decide +kernel)⟩
theorem lw_p50 : lw_okq (⟨"ShelfSpinesModel", "reached", "(I)I"⟩, 19) := ⟨⟨by decide +kernel, by decide +kernel⟩, List.mem_of_getElem? (i := 704) (by decide +kernel), List.mem_of_getElem? (i := 991) (by decide +kernel), List.mem_of_getElem? (i := 992) (by decide +kernel)⟩
theorem lw_p51 : lw_okq (⟨"ShelfSpinesModel", "rounds", "()I"⟩, 19) := ⟨⟨by decide +kernel, by decide +kernel⟩, List.mem_of_getElem? (i := 704) (by decide +kernel), List.mem_of_getElem? (i := 1003) (by decide +kernel), List.mem_of_getElem? (i := 1004) (by decide +kernel)⟩
theorem lw_p52 : lw_okq (⟨"ShelfSpinesModel", "rankOfWord", "()I"⟩, 19) := ⟨⟨by decide +kernel, by decide +kernel⟩, List.mem_of_getElem? (i := 704) (by decide +kernel), List.mem_of_getElem? (i := 1007) (by decide +kernel), List.mem_of_getElem? (i := 1008) (by decide +kernel)⟩
def lw_privs_4 : List (MethodName × Nat) := [(⟨"ShelfSpinesModel", "lessens", "(II)Z"⟩, 19), (⟨"ShelfSpinesModel", "first", "(IZ)I"⟩, 19), (⟨"ShelfSpinesModel", "reached", "(I)I"⟩, 19), (⟨"ShelfSpinesModel", "rounds", "()I"⟩, 19), (⟨"ShelfSpinesModel", "rankOfWord", "()I"⟩, 19)]
theorem lw_r4 : ∀ q ∈ lw_privs_4, lw_okq q := List.forall_mem_cons.mpr ⟨lw_p48, List.forall_mem_cons.mpr ⟨lw_p49, List.forall_mem_cons.mpr ⟨lw_p50, List.forall_mem_cons.mpr ⟨lw_p51, List.forall_mem_cons.mpr ⟨lw_p52, fun _ h => absurd h List.not_mem_nil⟩⟩⟩⟩⟩
def lw_privs : List (MethodName × Nat) := lw_privs_1 ++ (lw_privs_2 ++ (lw_privs_3 ++ (lw_privs_4)))
def lw_tbl : List Cond := k2_sels lw_privs ++ tables_1
theorem lw_privs_ok : ∀ q ∈ lw_privs, lw_okq q := by
  show ∀ q ∈ lw_privs_1 ++ (lw_privs_2 ++ (lw_privs_3 ++ (lw_privs_4))), lw_okq q
  exact List.forall_mem_append.mpr ⟨lw_r1, List.forall_mem_append.mpr ⟨lw_r2, List.forall_mem_append.mpr ⟨lw_r3, lw_r4⟩⟩⟩
/-- the streams that the claim lets the run draw from -/
abbrev lw_cs : List Choice := [Jvm.Choice.named "NaN.bits"]
theorem lw_bits : nanBits ∈ lw_cs := by first | decide | exact List.mem_cons_self | simp [lw_cs, nanBits]
-- ===== end of PART A; then your names; then what follows =====
end
section
def RX0 : String := "ShelfSpines$Graph"
def TX0 : u_T := fun k => match k with
  | 0 => ("ShelfSpines$Graph", "words", "LShelfSpines$Row;", true)
  | 1 => ("ShelfSpines$Graph", "onward", "LShelfSpines$Row;", true)
  | 2 => ("ShelfSpines$Graph", "into", "LShelfSpines$Row;", true)
  | 3 => ("ShelfSpines$Graph", "intoStart", "LShelfSpines$Row;", true)
  | 4 => ("ShelfSpines$Graph", "intoEnd", "LShelfSpines$Row;", true)
  | _ => ("ShelfSpines$Graph", "drawn", "I", false)
def tyX0 : Nat → FieldType := fun k => match k with
  | 0 => .object "ShelfSpines$Row"
  | 1 => .object "ShelfSpines$Row"
  | 2 => .object "ShelfSpines$Row"
  | 3 => .object "ShelfSpines$Row"
  | 4 => .object "ShelfSpines$Row"
  | _ => .int
abbrev wsX00 : List Cond := u_ws RX0 TX0 6
theorem nmX0 : ∀ a, a < 6 → ∀ b, b < 6 → a ≠ b → (TX0 a).2.1 ≠ (TX0 b).2.1 := by decide +kernel
theorem tyX0_ok : ∀ k, k < 6 → parseFieldDescriptor (TX0 k).2.2.1 = some (tyX0 k) := by decide +kernel
abbrev cX0_init : ByteArray := prog_2_method_1_code
def yX0_init : MethodName := ⟨RX0, "<init>", "()V"⟩
abbrev cX0_firstNode : ByteArray := prog_2_method_2_code
def yX0_firstNode : MethodName := ⟨RX0, "firstNode", "(I)I"⟩
abbrev cX0_draw : ByteArray := prog_2_method_3_code
def yX0_draw : MethodName := ⟨RX0, "draw", "(I)V"⟩
abbrev cX0_drawOnward : ByteArray := prog_2_method_4_code
def yX0_drawOnward : MethodName := ⟨RX0, "drawOnward", "(III)V"⟩
abbrev cX0_shareOut : ByteArray := prog_2_method_5_code
def yX0_shareOut : MethodName := ⟨RX0, "shareOut", "(II)V"⟩
abbrev cX0_drawInto : ByteArray := prog_2_method_6_code
def yX0_drawInto : MethodName := ⟨RX0, "drawInto", "(II)V"⟩
abbrev cX0_behind : ByteArray := prog_2_method_7_code
def yX0_behind : MethodName := ⟨RX0, "behind", "(II)I"⟩
abbrev cX0_isHeld : ByteArray := prog_2_method_8_code
def yX0_isHeld : MethodName := ⟨RX0, "isHeld", "(III)Z"⟩
def RX1 : String := "ShelfSpines$History"
def TX1 : u_T := fun k => match k with
  | 0 => ("ShelfSpines$History", "states", "[LShelfSpines$Shelf;", true)
  | _ => ("ShelfSpines$History", "length", "I", false)
def tyX1 : Nat → FieldType := fun k => match k with
  | 0 => .array (.object "ShelfSpines$Shelf")
  | _ => .int
abbrev wsX10 : List Cond := u_ws RX1 TX1 2
theorem nmX1 : ∀ a, a < 2 → ∀ b, b < 2 → a ≠ b → (TX1 a).2.1 ≠ (TX1 b).2.1 := by decide +kernel
theorem tyX1_ok : ∀ k, k < 2 → parseFieldDescriptor (TX1 k).2.2.1 = some (tyX1 k) := by decide +kernel
abbrev cX1_init : ByteArray := prog_3_method_1_code
def yX1_init : MethodName := ⟨RX1, "<init>", "()V"⟩
abbrev cX1_keep : ByteArray := prog_3_method_2_code
def yX1_keep : MethodName := ⟨RX1, "keep", "(LShelfSpines$Shelf;)V"⟩
abbrev cX1_dropOldest : ByteArray := prog_3_method_3_code
def yX1_dropOldest : MethodName := ⟨RX1, "dropOldest", "()V"⟩
abbrev cX1_giveBack : ByteArray := prog_3_method_4_code
def yX1_giveBack : MethodName := ⟨RX1, "giveBack", "(LShelfSpines$Shelf;)V"⟩
def RX2 : String := "ShelfSpines$Pad"
def TX2 : u_T := fun k => match k with
  | 0 => ("ShelfSpines$Pad", "signs", "LShelfSpines$Row;", true)
  | _ => ("ShelfSpines$Pad", "length", "I", false)
def tyX2 : Nat → FieldType := fun k => match k with
  | 0 => .object "ShelfSpines$Row"
  | _ => .int
abbrev wsX20 : List Cond := u_ws RX2 TX2 2
theorem nmX2 : ∀ a, a < 2 → ∀ b, b < 2 → a ≠ b → (TX2 a).2.1 ≠ (TX2 b).2.1 := by decide +kernel
theorem tyX2_ok : ∀ k, k < 2 → parseFieldDescriptor (TX2 k).2.2.1 = some (tyX2 k) := by decide +kernel
abbrev cX2_init : ByteArray := prog_4_method_1_code
def yX2_init : MethodName := ⟨RX2, "<init>", "()V"⟩
abbrev cX2_write : ByteArray := prog_4_method_2_code
def yX2_write : MethodName := ⟨RX2, "write", "(I)V"⟩
abbrev cX2_programFault : ByteArray := prog_4_method_3_code
def yX2_programFault : MethodName := ⟨RX2, "programFault", "()I"⟩
abbrev cX2_isKind : ByteArray := prog_4_method_4_code
def yX2_isKind : MethodName := ⟨RX2, "isKind", "(I)Z"⟩
abbrev cX2_isPlaceFor : ByteArray := prog_4_method_5_code
def yX2_isPlaceFor : MethodName := ⟨RX2, "isPlaceFor", "(II)Z"⟩
abbrev cX2_steps : ByteArray := prog_4_method_6_code
def yX2_steps : MethodName := ⟨RX2, "steps", "()I"⟩
abbrev cX2_moveAt : ByteArray := prog_4_method_7_code
def yX2_moveAt : MethodName := ⟨RX2, "moveAt", "(I)I"⟩
abbrev cX2_wordFault : ByteArray := prog_4_method_8_code
def yX2_wordFault : MethodName := ⟨RX2, "wordFault", "(LShelfSpines$Shelf;)I"⟩
abbrev cX2_slotOfSign : ByteArray := prog_4_method_9_code
def yX2_slotOfSign : MethodName := ⟨RX2, "slotOfSign", "(LShelfSpines$Shelf;I)I"⟩
abbrev cX2_readWord : ByteArray := prog_4_method_10_code
def yX2_readWord : MethodName := ⟨RX2, "readWord", "(LShelfSpines$Shelf;)I"⟩
def RX3 : String := "ShelfSpines$Ranks"
def TX3 : u_T := fun k => match k with
  | _ => ("", "", "", false)
def tyX3 : Nat → FieldType := fun k => match k with
  | _ => .int
abbrev wsX30 : List Cond := u_ws RX3 TX3 0
theorem nmX3 : ∀ a, a < 0 → ∀ b, b < 0 → a ≠ b → (TX3 a).2.1 ≠ (TX3 b).2.1 := by decide +kernel
theorem tyX3_ok : ∀ k, k < 0 → parseFieldDescriptor (TX3 k).2.2.1 = some (tyX3 k) := by decide +kernel
abbrev cX3_ways : ByteArray := prog_5_method_2_code
def yX3_ways : MethodName := ⟨RX3, "ways", "(II)I"⟩
abbrev cX3_wordsOf : ByteArray := prog_5_method_3_code
def yX3_wordsOf : MethodName := ⟨RX3, "wordsOf", "(I)I"⟩
abbrev cX3_risingWordsOf : ByteArray := prog_5_method_4_code
def yX3_risingWordsOf : MethodName := ⟨RX3, "risingWordsOf", "(I)I"⟩
abbrev cX3_rankOf : ByteArray := prog_5_method_5_code
def yX3_rankOf : MethodName := ⟨RX3, "rankOf", "(II)I"⟩
abbrev cX3_wordAt : ByteArray := prog_5_method_6_code
def yX3_wordAt : MethodName := ⟨RX3, "wordAt", "(II)I"⟩
abbrev cX3_slotBehind : ByteArray := prog_5_method_7_code
def yX3_slotBehind : MethodName := ⟨RX3, "slotBehind", "(II)I"⟩
def RX4 : String := "ShelfSpines$Rounds"
def TX4 : u_T := fun k => match k with
  | 0 => ("ShelfSpines$Rounds", "cameAt", "LShelfSpines$Row;", true)
  | 1 => ("ShelfSpines$Rounds", "paidThen", "LShelfSpines$Row;", true)
  | 2 => ("ShelfSpines$Rounds", "packed", "I", false)
  | 3 => ("ShelfSpines$Rounds", "paid", "I", false)
  | 4 => ("ShelfSpines$Rounds", "lead", "I", false)
  | 5 => ("ShelfSpines$Rounds", "cycle", "I", false)
  | 6 => ("ShelfSpines$Rounds", "cycleCosts", "I", false)
  | _ => ("ShelfSpines$Rounds", "leastDisorder", "I", false)
def tyX4 : Nat → FieldType := fun k => match k with
  | 0 => .object "ShelfSpines$Row"
  | 1 => .object "ShelfSpines$Row"
  | 2 => .int
  | 3 => .int
  | 4 => .int
  | 5 => .int
  | 6 => .int
  | _ => .int
abbrev wsX40 : List Cond := u_ws RX4 TX4 8
theorem nmX4 : ∀ a, a < 8 → ∀ b, b < 8 → a ≠ b → (TX4 a).2.1 ≠ (TX4 b).2.1 := by decide +kernel
theorem tyX4_ok : ∀ k, k < 8 → parseFieldDescriptor (TX4 k).2.2.1 = some (tyX4 k) := by decide +kernel
abbrev cX4_init : ByteArray := prog_6_method_1_code
def yX4_init : MethodName := ⟨RX4, "<init>", "()V"⟩
abbrev cX4_follow : ByteArray := prog_6_method_2_code
def yX4_follow : MethodName := ⟨RX4, "follow", "(LShelfSpines$Shelf;LShelfSpines$Pad;)V"⟩
abbrev cX4_start : ByteArray := prog_6_method_3_code
def yX4_start : MethodName := ⟨RX4, "start", "(LShelfSpines$Shelf;)V"⟩
abbrev cX4_goRound : ByteArray := prog_6_method_4_code
def yX4_goRound : MethodName := ⟨RX4, "goRound", "(LShelfSpines$Shelf;LShelfSpines$Pad;)V"⟩
def RX5 : String := "ShelfSpines$Row"
def TX5 : u_T := fun k => match k with
  | _ => ("ShelfSpines$Row", "cells", "[I", true)
def tyX5 : Nat → FieldType := fun k => match k with
  | _ => .array .int
abbrev wsX50 : List Cond := u_ws RX5 TX5 1
theorem nmX5 : ∀ a, a < 1 → ∀ b, b < 1 → a ≠ b → (TX5 a).2.1 ≠ (TX5 b).2.1 := by decide +kernel
theorem tyX5_ok : ∀ k, k < 1 → parseFieldDescriptor (TX5 k).2.2.1 = some (tyX5 k) := by decide +kernel
abbrev cX5_init : ByteArray := prog_7_method_1_code
def yX5_init : MethodName := ⟨RX5, "<init>", "(I)V"⟩
abbrev cX5_get : ByteArray := prog_7_method_2_code
def yX5_get : MethodName := ⟨RX5, "get", "(I)I"⟩
abbrev cX5_put : ByteArray := prog_7_method_3_code
def yX5_put : MethodName := ⟨RX5, "put", "(II)V"⟩
abbrev cX5_become : ByteArray := prog_7_method_4_code
def yX5_become : MethodName := ⟨RX5, "become", "(LShelfSpines$Row;)V"⟩
def RX6 : String := "ShelfSpines$Search"
def TX6 : u_T := fun k => match k with
  | 0 => ("ShelfSpines$Search", "graph", "LShelfSpines$Graph;", true)
  | 1 => ("ShelfSpines$Search", "fewest", "LShelfSpines$Row;", true)
  | 2 => ("ShelfSpines$Search", "settled", "LShelfSpines$Row;", true)
  | 3 => ("ShelfSpines$Search", "lowered", "LShelfSpines$Row;", true)
  | 4 => ("ShelfSpines$Search", "keyOfFewest", "I", false)
  | 5 => ("ShelfSpines$Search", "keyOfSettled", "I", false)
  | 6 => ("ShelfSpines$Search", "keyOfLowered", "I", false)
  | 7 => ("ShelfSpines$Search", "reached", "LShelfSpines$Row;", true)
  | _ => ("ShelfSpines$Search", "queue", "LShelfSpines$Row;", true)
def tyX6 : Nat → FieldType := fun k => match k with
  | 0 => .object "ShelfSpines$Graph"
  | 1 => .object "ShelfSpines$Row"
  | 2 => .object "ShelfSpines$Row"
  | 3 => .object "ShelfSpines$Row"
  | 4 => .int
  | 5 => .int
  | 6 => .int
  | 7 => .object "ShelfSpines$Row"
  | _ => .object "ShelfSpines$Row"
abbrev wsX60 : List Cond := u_ws RX6 TX6 9
theorem nmX6 : ∀ a, a < 9 → ∀ b, b < 9 → a ≠ b → (TX6 a).2.1 ≠ (TX6 b).2.1 := by decide +kernel
theorem tyX6_ok : ∀ k, k < 9 → parseFieldDescriptor (TX6 k).2.2.1 = some (tyX6 k) := by decide +kernel
abbrev cX6_init : ByteArray := prog_8_method_1_code
def yX6_init : MethodName := ⟨RX6, "<init>", "(LShelfSpines$Graph;)V"⟩
abbrev cX6_wayFrom : ByteArray := prog_8_method_2_code
def yX6_wayFrom : MethodName := ⟨RX6, "wayFrom", "(LShelfSpines$Shelf;II)I"⟩
abbrev cX6_plannedMove : ByteArray := prog_8_method_3_code
def yX6_plannedMove : MethodName := ⟨RX6, "plannedMove", "(LShelfSpines$Shelf;ZI)I"⟩
abbrev cX6_savableWords : ByteArray := prog_8_method_4_code
def yX6_savableWords : MethodName := ⟨RX6, "savableWords", "(LShelfSpines$Shelf;)I"⟩
abbrev cX6_sumOfWays : ByteArray := prog_8_method_5_code
def yX6_sumOfWays : MethodName := ⟨RX6, "sumOfWays", "(LShelfSpines$Shelf;)I"⟩
abbrev cX6_greatestWay : ByteArray := prog_8_method_6_code
def yX6_greatestWay : MethodName := ⟨RX6, "greatestWay", "(LShelfSpines$Shelf;I)I"⟩
abbrev cX6_worstRank : ByteArray := prog_8_method_7_code
def yX6_worstRank : MethodName := ⟨RX6, "worstRank", "(LShelfSpines$Shelf;)I"⟩
abbrev cX6_reach : ByteArray := prog_8_method_8_code
def yX6_reach : MethodName := ⟨RX6, "reach", "(LShelfSpines$Shelf;I)I"⟩
abbrev cX6_reachOn : ByteArray := prog_8_method_9_code
def yX6_reachOn : MethodName := ⟨RX6, "reachOn", "(III)I"⟩
abbrev cX6_wayWith : ByteArray := prog_8_method_10_code
def yX6_wayWith : MethodName := ⟨RX6, "wayWith", "(LShelfSpines$Shelf;I)I"⟩
abbrev cX6_nextMove : ByteArray := prog_8_method_11_code
def yX6_nextMove : MethodName := ⟨RX6, "nextMove", "(LShelfSpines$Shelf;LShelfSpines$Row;ZI)I"⟩
abbrev cX6_findWays : ByteArray := prog_8_method_12_code
def yX6_findWays : MethodName := ⟨RX6, "findWays", "(LShelfSpines$Shelf;I)LShelfSpines$Row;"⟩
abbrev cX6_startAtOrder : ByteArray := prog_8_method_13_code
def yX6_startAtOrder : MethodName := ⟨RX6, "startAtOrder", "(LShelfSpines$Shelf;LShelfSpines$Row;II)V"⟩
abbrev cX6_findFewest : ByteArray := prog_8_method_14_code
def yX6_findFewest : MethodName := ⟨RX6, "findFewest", "(LShelfSpines$Shelf;)V"⟩
abbrev cX6_comeFrom : ByteArray := prog_8_method_15_code
def yX6_comeFrom : MethodName := ⟨RX6, "comeFrom", "(III)I"⟩
abbrev cX6_settleCosts : ByteArray := prog_8_method_16_code
def yX6_settleCosts : MethodName := ⟨RX6, "settleCosts", "(LShelfSpines$Shelf;)V"⟩
abbrev cX6_offerBack : ByteArray := prog_8_method_17_code
def yX6_offerBack : MethodName := ⟨RX6, "offerBack", "(LShelfSpines$Shelf;LShelfSpines$Row;I)I"⟩
abbrev cX6_lowerCosts : ByteArray := prog_8_method_18_code
def yX6_lowerCosts : MethodName := ⟨RX6, "lowerCosts", "(LShelfSpines$Shelf;)V"⟩
def RX7 : String := "ShelfSpines$Shelf"
def TX7 : u_T := fun k => match k with
  | 0 => ("ShelfSpines$Shelf", "packed", "I", false)
  | 1 => ("ShelfSpines$Shelf", "books", "I", false)
  | 2 => ("ShelfSpines$Shelf", "letters", "LShelfSpines$Row;", true)
  | 3 => ("ShelfSpines$Shelf", "weights", "LShelfSpines$Row;", true)
  | 4 => ("ShelfSpines$Shelf", "stuck", "I", false)
  | 5 => ("ShelfSpines$Shelf", "falling", "I", false)
  | 6 => ("ShelfSpines$Shelf", "closed", "I", false)
  | 7 => ("ShelfSpines$Shelf", "made", "I", false)
  | 8 => ("ShelfSpines$Shelf", "spent", "I", false)
  | _ => ("ShelfSpines$Shelf", "refused", "I", false)
def tyX7 : Nat → FieldType := fun k => match k with
  | 0 => .int
  | 1 => .int
  | 2 => .object "ShelfSpines$Row"
  | 3 => .object "ShelfSpines$Row"
  | 4 => .int
  | 5 => .int
  | 6 => .int
  | 7 => .int
  | 8 => .int
  | _ => .int
abbrev wsX70 : List Cond := u_ws RX7 TX7 10
theorem nmX7 : ∀ a, a < 10 → ∀ b, b < 10 → a ≠ b → (TX7 a).2.1 ≠ (TX7 b).2.1 := by decide +kernel
theorem tyX7_ok : ∀ k, k < 10 → parseFieldDescriptor (TX7 k).2.2.1 = some (tyX7 k) := by decide +kernel
abbrev cX7_init : ByteArray := prog_9_method_1_code
def yX7_init : MethodName := ⟨RX7, "<init>", "()V"⟩
abbrev cX7_become : ByteArray := prog_9_method_2_code
def yX7_become : MethodName := ⟨RX7, "become", "(LShelfSpines$Shelf;)V"⟩
abbrev cX7_slotOf : ByteArray := prog_9_method_3_code
def yX7_slotOf : MethodName := ⟨RX7, "slotOf", "(I)I"⟩
abbrev cX7_insert : ByteArray := prog_9_method_4_code
def yX7_insert : MethodName := ⟨RX7, "insert", "(III)V"⟩
abbrev cX7_takeOff : ByteArray := prog_9_method_5_code
def yX7_takeOff : MethodName := ⟨RX7, "takeOff", "(I)I"⟩
abbrev cX7_renumber : ByteArray := prog_9_method_6_code
def yX7_renumber : MethodName := ⟨RX7, "renumber", "(II)V"⟩
abbrev cX7_tryMove : ByteArray := prog_9_method_7_code
def yX7_tryMove : MethodName := ⟨RX7, "tryMove", "(I)I"⟩
abbrev cX7_rankOfNow : ByteArray := prog_9_method_8_code
def yX7_rankOfNow : MethodName := ⟨RX7, "rankOfNow", "()I"⟩
abbrev cX7_sumOfWeights : ByteArray := prog_9_method_9_code
def yX7_sumOfWeights : MethodName := ⟨RX7, "sumOfWeights", "()I"⟩
abbrev cX7_possibleMoves : ByteArray := prog_9_method_10_code
def yX7_possibleMoves : MethodName := ⟨RX7, "possibleMoves", "()I"⟩
abbrev cX7_keyOfMoves : ByteArray := prog_9_method_11_code
def yX7_keyOfMoves : MethodName := ⟨RX7, "keyOfMoves", "()I"⟩
abbrev cX7_keyOfCosts : ByteArray := prog_9_method_12_code
def yX7_keyOfCosts : MethodName := ⟨RX7, "keyOfCosts", "()I"⟩
def RX8 : String := "ShelfSpines$Spines"
def TX8 : u_T := fun k => match k with
  | _ => ("", "", "", false)
def tyX8 : Nat → FieldType := fun k => match k with
  | _ => .int
abbrev wsX80 : List Cond := u_ws RX8 TX8 0
theorem nmX8 : ∀ a, a < 0 → ∀ b, b < 0 → a ≠ b → (TX8 a).2.1 ≠ (TX8 b).2.1 := by decide +kernel
theorem tyX8_ok : ∀ k, k < 0 → parseFieldDescriptor (TX8 k).2.2.1 = some (tyX8 k) := by decide +kernel
abbrev cX8_slotAt : ByteArray := prog_10_method_2_code
def yX8_slotAt : MethodName := ⟨RX8, "slotAt", "(II)I"⟩
abbrev cX8_withSlot : ByteArray := prog_10_method_3_code
def yX8_withSlot : MethodName := ⟨RX8, "withSlot", "(III)I"⟩
abbrev cX8_isGap : ByteArray := prog_10_method_4_code
def yX8_isGap : MethodName := ⟨RX8, "isGap", "(II)Z"⟩
abbrev cX8_isIn : ByteArray := prog_10_method_5_code
def yX8_isIn : MethodName := ⟨RX8, "isIn", "(II)Z"⟩
abbrev cX8_gapBeside : ByteArray := prog_10_method_6_code
def yX8_gapBeside : MethodName := ⟨RX8, "gapBeside", "(II)I"⟩
abbrev cX8_isPull : ByteArray := prog_10_method_7_code
def yX8_isPull : MethodName := ⟨RX8, "isPull", "(I)Z"⟩
abbrev cX8_placeOf : ByteArray := prog_10_method_8_code
def yX8_placeOf : MethodName := ⟨RX8, "placeOf", "(I)I"⟩
abbrev cX8_reason : ByteArray := prog_10_method_9_code
def yX8_reason : MethodName := ⟨RX8, "reason", "(III)I"⟩
abbrev cX8_after : ByteArray := prog_10_method_10_code
def yX8_after : MethodName := ⟨RX8, "after", "(II)I"⟩
abbrev cX8_price : ByteArray := prog_10_method_11_code
def yX8_price : MethodName := ⟨RX8, "price", "(ILShelfSpines$Row;I)I"⟩
abbrev cX8_isWrong : ByteArray := prog_10_method_12_code
def yX8_isWrong : MethodName := ⟨RX8, "isWrong", "(III)Z"⟩
abbrev cX8_wrongBooks : ByteArray := prog_10_method_13_code
def yX8_wrongBooks : MethodName := ⟨RX8, "wrongBooks", "(III)I"⟩
abbrev cX8_disorder : ByteArray := prog_10_method_14_code
def yX8_disorder : MethodName := ⟨RX8, "disorder", "(II)I"⟩
abbrev cX8_isInOrder : ByteArray := prog_10_method_15_code
def yX8_isInOrder : MethodName := ⟨RX8, "isInOrder", "(III)Z"⟩
def RX9 : String := "ShelfSpines"
def TX9 : u_T := fun k => match k with
  | 0 => ("ShelfSpines", "shelf", "LShelfSpines$Shelf;", true)
  | 1 => ("ShelfSpines", "snapshot", "LShelfSpines$Shelf;", true)
  | 2 => ("ShelfSpines", "hasSnapshot", "Z", false)
  | 3 => ("ShelfSpines", "history", "LShelfSpines$History;", true)
  | 4 => ("ShelfSpines", "pad", "LShelfSpines$Pad;", true)
  | 5 => ("ShelfSpines", "graph", "LShelfSpines$Graph;", true)
  | 6 => ("ShelfSpines", "search", "LShelfSpines$Search;", true)
  | _ => ("ShelfSpines", "rounds", "LShelfSpines$Rounds;", true)
def tyX9 : Nat → FieldType := fun k => match k with
  | 0 => .object "ShelfSpines$Shelf"
  | 1 => .object "ShelfSpines$Shelf"
  | 2 => .boolean
  | 3 => .object "ShelfSpines$History"
  | 4 => .object "ShelfSpines$Pad"
  | 5 => .object "ShelfSpines$Graph"
  | 6 => .object "ShelfSpines$Search"
  | _ => .object "ShelfSpines$Rounds"
abbrev wsX90 : List Cond := u_ws RX9 TX9 8
theorem nmX9 : ∀ a, a < 8 → ∀ b, b < 8 → a ≠ b → (TX9 a).2.1 ≠ (TX9 b).2.1 := by decide +kernel
theorem tyX9_ok : ∀ k, k < 8 → parseFieldDescriptor (TX9 k).2.2.1 = some (tyX9 k) := by decide +kernel
abbrev cX9_init : ByteArray := prog_1_method_1_code
def yX9_init : MethodName := ⟨RX9, "<init>", "()V"⟩
abbrev cX9_add : ByteArray := prog_1_method_2_code
def yX9_add : MethodName := ⟨RX9, "add", "(III)I"⟩
abbrev cX9_remove : ByteArray := prog_1_method_3_code
def yX9_remove : MethodName := ⟨RX9, "remove", "(I)I"⟩
abbrev cX9_stick : ByteArray := prog_1_method_4_code
def yX9_stick : MethodName := ⟨RX9, "stick", "(I)I"⟩
abbrev cX9_pull : ByteArray := prog_1_method_5_code
def yX9_pull : MethodName := ⟨RX9, "pull", "(I)I"⟩
abbrev cX9_push : ByteArray := prog_1_method_6_code
def yX9_push : MethodName := ⟨RX9, "push", "(IZ)I"⟩
abbrev cX9_set : ByteArray := prog_1_method_7_code
def yX9_set : MethodName := ⟨RX9, "set", "(II)I"⟩
abbrev cX9_append : ByteArray := prog_1_method_8_code
def yX9_append : MethodName := ⟨RX9, "append", "(I)I"⟩
abbrev cX9_clear : ByteArray := prog_1_method_9_code
def yX9_clear : MethodName := ⟨RX9, "clear", "()I"⟩
abbrev cX9_fault : ByteArray := prog_1_method_10_code
def yX9_fault : MethodName := ⟨RX9, "fault", "(I)I"⟩
abbrev cX9_arrange : ByteArray := prog_1_method_11_code
def yX9_arrange : MethodName := ⟨RX9, "arrange", "()I"⟩
abbrev cX9_run : ByteArray := prog_1_method_12_code
def yX9_run : MethodName := ⟨RX9, "run", "()I"⟩
abbrev cX9_at : ByteArray := prog_1_method_13_code
def yX9_at : MethodName := ⟨RX9, "at", "(II)I"⟩
abbrev cX9_whyNot : ByteArray := prog_1_method_14_code
def yX9_whyNot : MethodName := ⟨RX9, "whyNot", "(I)I"⟩
abbrev cX9_cost : ByteArray := prog_1_method_15_code
def yX9_cost : MethodName := ⟨RX9, "cost", "(I)I"⟩
abbrev cX9_leads : ByteArray := prog_1_method_16_code
def yX9_leads : MethodName := ⟨RX9, "leads", "(I)I"⟩
abbrev cX9_word : ByteArray := prog_1_method_17_code
def yX9_word : MethodName := ⟨RX9, "word", "(II)I"⟩
abbrev cX9_count : ByteArray := prog_1_method_18_code
def yX9_count : MethodName := ⟨RX9, "count", "(I)I"⟩
abbrev cX9_countAccounts : ByteArray := prog_1_method_19_code
def yX9_countAccounts : MethodName := ⟨RX9, "countAccounts", "(I)I"⟩
abbrev cX9_least : ByteArray := prog_1_method_20_code
def yX9_least : MethodName := ⟨RX9, "least", "(II)I"⟩
abbrev cX9_plan : ByteArray := prog_1_method_21_code
def yX9_plan : MethodName := ⟨RX9, "plan", "(ZI)I"⟩
abbrev cX9_all : ByteArray := prog_1_method_22_code
def yX9_all : MethodName := ⟨RX9, "all", "(I)I"⟩
abbrev cX9_mean : ByteArray := prog_1_method_23_code
def yX9_mean : MethodName := ⟨RX9, "mean", "()D"⟩
abbrev cX9_round : ByteArray := prog_1_method_24_code
def yX9_round : MethodName := ⟨RX9, "round", "(I)I"⟩
abbrev cX9_loosen : ByteArray := prog_1_method_25_code
def yX9_loosen : MethodName := ⟨RX9, "loosen", "()I"⟩
abbrev cX9_undo : ByteArray := prog_1_method_26_code
def yX9_undo : MethodName := ⟨RX9, "undo", "()I"⟩
abbrev cX9_save : ByteArray := prog_1_method_27_code
def yX9_save : MethodName := ⟨RX9, "save", "()I"⟩
abbrev cX9_restore : ByteArray := prog_1_method_28_code
def yX9_restore : MethodName := ⟨RX9, "restore", "()I"⟩
abbrev cX9_drawnSearch : ByteArray := prog_1_method_29_code
def yX9_drawnSearch : MethodName := ⟨RX9, "drawnSearch", "()LShelfSpines$Search;"⟩
abbrev cX9_isBelow : ByteArray := prog_1_method_30_code
def yX9_isBelow : MethodName := ⟨RX9, "isBelow", "(II)Z"⟩
def RX10 : String := "ShelfSpinesModel"
def TX10 : u_T := fun k => match k with
  | 0 => ("ShelfSpinesModel", "s", "[I", true)
  | 1 => ("ShelfSpinesModel", "past", "[I", true)
  | 2 => ("ShelfSpinesModel", "known", "I", false)
  | 3 => ("ShelfSpinesModel", "snap", "[I", true)
  | 4 => ("ShelfSpinesModel", "isSaved", "Z", false)
  | 5 => ("ShelfSpinesModel", "pad", "[I", true)
  | 6 => ("ShelfSpinesModel", "length", "I", false)
  | 7 => ("ShelfSpinesModel", "letter", "[I", true)
  | 8 => ("ShelfSpinesModel", "weight", "[I", true)
  | 9 => ("ShelfSpinesModel", "stuck", "[I", true)
  | 10 => ("ShelfSpinesModel", "books", "I", false)
  | 11 => ("ShelfSpinesModel", "word", "[I", true)
  | 12 => ("ShelfSpinesModel", "then", "[I", true)
  | 13 => ("ShelfSpinesModel", "price", "I", false)
  | 14 => ("ShelfSpinesModel", "next", "[I", true)
  | 15 => ("ShelfSpinesModel", "prices", "[I", true)
  | 16 => ("ShelfSpinesModel", "fewest", "[I", true)
  | 17 => ("ShelfSpinesModel", "cheapest", "[I", true)
  | _ => ("ShelfSpinesModel", "seen", "[I", true)
def tyX10 : Nat → FieldType := fun k => match k with
  | 0 => .array .int
  | 1 => .array .int
  | 2 => .int
  | 3 => .array .int
  | 4 => .boolean
  | 5 => .array .int
  | 6 => .int
  | 7 => .array .int
  | 8 => .array .int
  | 9 => .array .int
  | 10 => .int
  | 11 => .array .int
  | 12 => .array .int
  | 13 => .int
  | 14 => .array .int
  | 15 => .array .int
  | 16 => .array .int
  | 17 => .array .int
  | _ => .array .int
abbrev wsX100 : List Cond := u_ws RX10 TX10 19
theorem nmX10 : ∀ a, a < 19 → ∀ b, b < 19 → a ≠ b → (TX10 a).2.1 ≠ (TX10 b).2.1 := by decide +kernel
theorem tyX10_ok : ∀ k, k < 19 → parseFieldDescriptor (TX10 k).2.2.1 = some (tyX10 k) := by decide +kernel
abbrev cX10_init : ByteArray := prog_12_method_1_code
def yX10_init : MethodName := ⟨RX10, "<init>", "()V"⟩
abbrev cX10_in : ByteArray := prog_12_method_3_code
def yX10_in : MethodName := ⟨RX10, "in", "(III)Z"⟩
abbrev cX10_isPlace : ByteArray := prog_12_method_4_code
def yX10_isPlace : MethodName := ⟨RX10, "isPlace", "(I)Z"⟩
abbrev cX10_remembers : ByteArray := prog_12_method_5_code
def yX10_remembers : MethodName := ⟨RX10, "remembers", "()V"⟩
abbrev cX10_looks : ByteArray := prog_12_method_6_code
def yX10_looks : MethodName := ⟨RX10, "looks", "()V"⟩
abbrev cX10_ways : ByteArray := prog_12_method_7_code
def yX10_ways : MethodName := ⟨RX10, "ways", "(II)I"⟩
abbrev cX10_words : ByteArray := prog_12_method_8_code
def yX10_words : MethodName := ⟨RX10, "words", "()I"⟩
abbrev cX10_before : ByteArray := prog_12_method_9_code
def yX10_before : MethodName := ⟨RX10, "before", "(I)I"⟩
abbrev cX10_rankOfThen : ByteArray := prog_12_method_10_code
def yX10_rankOfThen : MethodName := ⟨RX10, "rankOfThen", "()I"⟩
abbrev cX10_rankNow : ByteArray := prog_12_method_11_code
def yX10_rankNow : MethodName := ⟨RX10, "rankNow", "()I"⟩
abbrev cX10_isUsed : ByteArray := prog_12_method_12_code
def yX10_isUsed : MethodName := ⟨RX10, "isUsed", "(II)Z"⟩
abbrev cX10_spells : ByteArray := prog_12_method_13_code
def yX10_spells : MethodName := ⟨RX10, "spells", "(I)V"⟩
abbrev cX10_unused : ByteArray := prog_12_method_14_code
def yX10_unused : MethodName := ⟨RX10, "unused", "(II)I"⟩
abbrev cX10_isWrong : ByteArray := prog_12_method_15_code
def yX10_isWrong : MethodName := ⟨RX10, "isWrong", "(II)Z"⟩
abbrev cX10_disorderOfWord : ByteArray := prog_12_method_16_code
def yX10_disorderOfWord : MethodName := ⟨RX10, "disorderOfWord", "()I"⟩
abbrev cX10_isWordInOrder : ByteArray := prog_12_method_17_code
def yX10_isWordInOrder : MethodName := ⟨RX10, "isWordInOrder", "()Z"⟩
abbrev cX10_nearestGap : ByteArray := prog_12_method_18_code
def yX10_nearestGap : MethodName := ⟨RX10, "nearestGap", "(I)I"⟩
abbrev cX10_whyNotOf : ByteArray := prog_12_method_19_code
def yX10_whyNotOf : MethodName := ⟨RX10, "whyNotOf", "(I)I"⟩
abbrev cX10_makes : ByteArray := prog_12_method_20_code
def yX10_makes : MethodName := ⟨RX10, "makes", "(I)V"⟩
abbrev cX10_goesOn : ByteArray := prog_12_method_21_code
def yX10_goesOn : MethodName := ⟨RX10, "goesOn", "()V"⟩
abbrev cX10_findsMoves : ByteArray := prog_12_method_22_code
def yX10_findsMoves : MethodName := ⟨RX10, "findsMoves", "()V"⟩
abbrev cX10_lessens : ByteArray := prog_12_method_23_code
def yX10_lessens : MethodName := ⟨RX10, "lessens", "(II)Z"⟩
abbrev cX10_solves : ByteArray := prog_12_method_24_code
def yX10_solves : MethodName := ⟨RX10, "solves", "()V"⟩
abbrev cX10_place : ByteArray := prog_12_method_25_code
def yX10_place : MethodName := ⟨RX10, "place", "(I)I"⟩
abbrev cX10_booksNow : ByteArray := prog_12_method_26_code
def yX10_booksNow : MethodName := ⟨RX10, "booksNow", "()I"⟩
abbrev cX10_add : ByteArray := prog_12_method_27_code
def yX10_add : MethodName := ⟨RX10, "add", "(III)I"⟩
abbrev cX10_remove : ByteArray := prog_12_method_28_code
def yX10_remove : MethodName := ⟨RX10, "remove", "(I)I"⟩
abbrev cX10_stick : ByteArray := prog_12_method_29_code
def yX10_stick : MethodName := ⟨RX10, "stick", "(I)I"⟩
abbrev cX10_stands : ByteArray := prog_12_method_30_code
def yX10_stands : MethodName := ⟨RX10, "stands", "()V"⟩
abbrev cX10_does : ByteArray := prog_12_method_31_code
def yX10_does : MethodName := ⟨RX10, "does", "(I)I"⟩
abbrev cX10_pull : ByteArray := prog_12_method_32_code
def yX10_pull : MethodName := ⟨RX10, "pull", "(I)I"⟩
abbrev cX10_push : ByteArray := prog_12_method_33_code
def yX10_push : MethodName := ⟨RX10, "push", "(IZ)I"⟩
abbrev cX10_set : ByteArray := prog_12_method_34_code
def yX10_set : MethodName := ⟨RX10, "set", "(II)I"⟩
abbrev cX10_append : ByteArray := prog_12_method_35_code
def yX10_append : MethodName := ⟨RX10, "append", "(I)I"⟩
abbrev cX10_clear : ByteArray := prog_12_method_36_code
def yX10_clear : MethodName := ⟨RX10, "clear", "()I"⟩
abbrev cX10_mostOf : ByteArray := prog_12_method_37_code
def yX10_mostOf : MethodName := ⟨RX10, "mostOf", "(I)I"⟩
abbrev cX10_faultOfProgram : ByteArray := prog_12_method_38_code
def yX10_faultOfProgram : MethodName := ⟨RX10, "faultOfProgram", "()I"⟩
abbrev cX10_signed : ByteArray := prog_12_method_39_code
def yX10_signed : MethodName := ⟨RX10, "signed", "(I)I"⟩
abbrev cX10_faultOfWord : ByteArray := prog_12_method_40_code
def yX10_faultOfWord : MethodName := ⟨RX10, "faultOfWord", "()I"⟩
abbrev cX10_fault : ByteArray := prog_12_method_41_code
def yX10_fault : MethodName := ⟨RX10, "fault", "(I)I"⟩
abbrev cX10_arrange : ByteArray := prog_12_method_42_code
def yX10_arrange : MethodName := ⟨RX10, "arrange", "()I"⟩
abbrev cX10_moveAt : ByteArray := prog_12_method_43_code
def yX10_moveAt : MethodName := ⟨RX10, "moveAt", "(I)I"⟩
abbrev cX10_run : ByteArray := prog_12_method_44_code
def yX10_run : MethodName := ⟨RX10, "run", "()I"⟩
abbrev cX10_at : ByteArray := prog_12_method_45_code
def yX10_at : MethodName := ⟨RX10, "at", "(II)I"⟩
abbrev cX10_wrongWith : ByteArray := prog_12_method_46_code
def yX10_wrongWith : MethodName := ⟨RX10, "wrongWith", "(I)I"⟩
abbrev cX10_whyNot : ByteArray := prog_12_method_47_code
def yX10_whyNot : MethodName := ⟨RX10, "whyNot", "(I)I"⟩
abbrev cX10_cost : ByteArray := prog_12_method_48_code
def yX10_cost : MethodName := ⟨RX10, "cost", "(I)I"⟩
abbrev cX10_leads : ByteArray := prog_12_method_49_code
def yX10_leads : MethodName := ⟨RX10, "leads", "(I)I"⟩
abbrev cX10_word : ByteArray := prog_12_method_50_code
def yX10_word : MethodName := ⟨RX10, "word", "(II)I"⟩
abbrev cX10_sumOf : ByteArray := prog_12_method_51_code
def yX10_sumOf : MethodName := ⟨RX10, "sumOf", "(I)I"⟩
abbrev cX10_wordsInOrder : ByteArray := prog_12_method_52_code
def yX10_wordsInOrder : MethodName := ⟨RX10, "wordsInOrder", "()I"⟩
abbrev cX10_movesNow : ByteArray := prog_12_method_53_code
def yX10_movesNow : MethodName := ⟨RX10, "movesNow", "()I"⟩
abbrev cX10_count : ByteArray := prog_12_method_54_code
def yX10_count : MethodName := ⟨RX10, "count", "(I)I"⟩
abbrev cX10_least : ByteArray := prog_12_method_55_code
def yX10_least : MethodName := ⟨RX10, "least", "(II)I"⟩
abbrev cX10_first : ByteArray := prog_12_method_56_code
def yX10_first : MethodName := ⟨RX10, "first", "(IZ)I"⟩
abbrev cX10_plan : ByteArray := prog_12_method_57_code
def yX10_plan : MethodName := ⟨RX10, "plan", "(ZI)I"⟩
abbrev cX10_reached : ByteArray := prog_12_method_58_code
def yX10_reached : MethodName := ⟨RX10, "reached", "(I)I"⟩
abbrev cX10_all : ByteArray := prog_12_method_59_code
def yX10_all : MethodName := ⟨RX10, "all", "(I)I"⟩
abbrev cX10_mean : ByteArray := prog_12_method_60_code
def yX10_mean : MethodName := ⟨RX10, "mean", "()D"⟩
abbrev cX10_rounds : ByteArray := prog_12_method_61_code
def yX10_rounds : MethodName := ⟨RX10, "rounds", "()I"⟩
abbrev cX10_rankOfWord : ByteArray := prog_12_method_62_code
def yX10_rankOfWord : MethodName := ⟨RX10, "rankOfWord", "()I"⟩
abbrev cX10_round : ByteArray := prog_12_method_63_code
def yX10_round : MethodName := ⟨RX10, "round", "(I)I"⟩
abbrev cX10_loosen : ByteArray := prog_12_method_64_code
def yX10_loosen : MethodName := ⟨RX10, "loosen", "()I"⟩
abbrev cX10_undo : ByteArray := prog_12_method_65_code
def yX10_undo : MethodName := ⟨RX10, "undo", "()I"⟩
abbrev cX10_save : ByteArray := prog_12_method_66_code
def yX10_save : MethodName := ⟨RX10, "save", "()I"⟩
abbrev cX10_restore : ByteArray := prog_12_method_67_code
def yX10_restore : MethodName := ⟨RX10, "restore", "()I"⟩
def RJ6 : String := "java/lang/Integer"
abbrev cJ6_bitCount_0f7a4 : ByteArray := prog_13_method_49_code
def yJ6_bitCount_0f7a4 : MethodName := ⟨RJ6, "bitCount", "(I)I"⟩
def RJ9 : String := "java/lang/Math"
abbrev cJ9_max_7cf53 : ByteArray := prog_14_method_65_code
def yJ9_max_7cf53 : MethodName := ⟨RJ9, "max", "(II)I"⟩
abbrev cJ9_min_7cf53 : ByteArray := prog_14_method_69_code
def yJ9_min_7cf53 : MethodName := ⟨RJ9, "min", "(II)I"⟩
def RL : String := "ShelfSpinesLaw"
abbrev cL_law : ByteArray := code
def yL_law : MethodName := ⟨RL, "law", "([I)Z"⟩
abbrev vwCl : List vw_C := [(RX0, TX0, 6), (RX1, TX1, 2), (RX2, TX2, 2), (RX4, TX4, 8), (RX5, TX5, 1), (RX6, TX6, 9), (RX7, TX7, 10), (RX9, TX9, 8), (RX10, TX10, 19)]

/-- kinds of fields: 0 int, 1 boolean, 2 reference -/
def pFk : List (List Nat) := [[2, 2, 2, 2, 2, 0], [2, 0], [2, 0], [2, 2, 0, 0, 0, 0, 0, 0], [2], [2, 2, 2, 2, 0, 0, 0, 2, 2], [0, 0, 2, 2, 0, 0, 0, 0, 0, 0], [2, 2, 1, 2, 2, 2, 2, 2], [2, 2, 0, 2, 1, 2, 0, 2, 2, 2, 0, 2, 2, 0, 2, 2, 2, 2, 2]]
end
section
/-! THE PURE MACHINE: places of objects are their numbers in the order of making; ints and references in two tables -/
abbrev pK : Type := Nat ⊕ (Nat ⊕ Nat)
abbrev pH : Type := List pK × (Nat → Nat → Option Nat) × (Nat → Nat → Int32)
/-- pc, length, tag, a, b, v, l -/
abbrev pE : Type := Nat × Nat × Nat × Nat × Nat × Int32 × List Nat
abbrev pL : Type := List (Option Value)
abbrev pR : Type := Option (Option Value × pH)
abbrev pX : Type := Option (Nat × (Nat → Int32))
abbrev pC : Type := List (Nat × List Bool)
/-- name, code, slots of its frame, answer, frames below it, room of frames below it, rows, cuts -/
abbrev pM : Type := MethodName × ByteArray × Nat × Option FieldType × Nat × Nat × List pE × pC
def s2 {α : Type} (f : Nat → Nat → α) (k j : Nat) (x : α) : Nat → Nat → α := fun a b => if a = k then (if b = j then x else f a b) else f a b
def z2 {α : Type} (f : Nat → Nat → α) (k : Nat) (d : α) : Nat → Nat → α := fun a b => if a = k then d else f a b
def inb (i : Int32) (n : Nat) : Bool := !(decide (i < 0)) && decide (i.toNatClampNeg < n)
def kO (h : pH) (ci k : Nat) : Bool := decide (h.1[k]? = some (.inl ci))
def hI (h : pH) (ci k j : Nat) : Option Int32 := if h.1[k]? = some (.inl ci) then some (h.2.2 k j) else none
def hR (h : pH) (ci k j : Nat) : Option Nat := if h.1[k]? = some (.inl ci) then h.2.1 k j else none
def hA (h : pH) (k : Nat) (i : Int32) : Option Int32 := match h.1[k]? with
  | some (.inr (.inl n)) => if inb i n = true then some (h.2.2 k i.toNatClampNeg) else none
  | _ => none
def hQ (h : pH) (k : Nat) (i : Int32) : Option Nat := match h.1[k]? with
  | some (.inr (.inr n)) => if inb i n = true then h.2.1 k i.toNatClampNeg else none
  | _ => none
def hN (h : pH) (k : Nat) : Option Int32 := match h.1[k]? with
  | some (.inr (.inl n)) => some (Int32.ofNat n)
  | some (.inr (.inr n)) => some (Int32.ofNat n)
  | _ => none
def bA (h : pH) (k : Nat) (i : Int32) : Bool := match h.1[k]? with
  | some (.inr (.inl n)) => inb i n
  | _ => false
def bQ (h : pH) (k : Nat) (i : Int32) (v : Nat) : Bool := match h.1[k]? with
  | some (.inr (.inr n)) => inb i n && decide (h.1[v]? = some (.inl 6))
  | _ => false
def sI (h : pH) (k j : Nat) (x : Int32) : pH := (h.1, h.2.1, s2 h.2.2 k j x)
def sR (h : pH) (k j r : Nat) : pH := (h.1, s2 h.2.1 k j (some r), h.2.2)
def nK (h : pH) (q : pK) : pH := (h.1 ++ [q], z2 h.2.1 h.1.length none, z2 h.2.2 h.1.length 0)
def bop (b : Nat) (x y : Int32) : Int32 := match b with
  | 0 => x + y
  | 1 => x - y
  | 2 => x * y
  | 3 => x &&& y
  | 4 => x ||| y
  | 5 => x ^^^ y
  | 6 => x <<< (y &&& 31)
  | 7 => x >>> (y &&& 31)
  | _ => (x.toUInt32 >>> (y.toUInt32 &&& Int32.toUInt32 31)).toInt32
def ldI (ls : pL) (a : Nat) : Option Int32 := match ls[a]? with
  | some (some (.int x)) => some x
  | _ => none
def ldD (ls : pL) (a : Nat) : Option UInt64 := match ls[a]? with
  | some (some (.double x)) => some x
  | _ => none
def ldR (ls : pL) (a : Nat) : Option Value := match ls[a]? with
  | some (some (.ref x)) => some (.ref x)
  | some (some .null) => some .null
  | _ => none
def stl (ls : pL) (a : Nat) (v : Option Value) : pL := if a < ls.length then ls.set a v else ls ++ List.replicate (a - ls.length) none ++ [v]
def okS (ls : pL) (a : Nat) : Bool := match a with
  | 0 => true
  | a + 1 => match ls[a]? with
    | some (some v) => !(v.category == 2)
    | _ => true
def oo {α R : Type} (fl : R) (o : Option α) (K : α → R) : R := match o with
  | some x => K x
  | none => fl
def swt {R : Type} (x v : Int32) (ts : List Nat) (d : Nat) (K : Nat → R) : R := match ts with
  | [] => K d
  | t :: ts => if x = v then K t else swt x (v + 1) ts d K
/-- what a row does: it fails, answers, goes on, or calls -/
def stp {R : Type} (sc : pX) (fl : R) (rt : Option Value → pH → R) (go : Nat → pL → List Value → pH → R) (cl : Nat → List Value → Nat → Nat → pL → List Value → pH → R) (e : pE) (ls : pL) (st : List Value) (h : pH) : R :=
  match e with
  | (pc, len, tag, a, b, v, l) =>
  match tag with
  | 0 => oo fl (ldR ls a) fun w => go (pc + len) ls (w :: st) h
  | 1 => oo fl (ldI ls a) fun x => go (pc + len) ls (.int x :: st) h
  | 2 => match st with
    | .ref k :: r => oo fl (hI h a k b) fun x => go (pc + len) ls (.int x :: r) h
    | _ => fl
  | 3 => match st with
    | .ref k :: r => oo fl (hR h a k b) fun x => go (pc + len) ls (.ref x :: r) h
    | _ => fl
  | 4 => go (pc + len) ls (.int v :: st) h
  | 5 => go a ls st h
  | 6 => match st.drop (b - 1) with
    | .ref k :: r => bif Nat.ble (r.map Value.category).sum 8 && (st.take (b - 1)).all (fun v => Nat.beq v.category 1) then (if kO h (l.getD 2 0) k = true then cl a (.ref k :: (st.take (b - 1)).reverse) (l.getD 1 0) (pc + len) ls r h else fl) else fl
    | _ => fl
  | 7 => bif (Nat.ble b st.length && Nat.ble ((st.drop b).map Value.category).sum 8) && (st.take b).all (fun v => Nat.beq v.category 1) then cl a (st.take b).reverse (l.getD 1 0) (pc + len) ls (st.drop b) h else fl
  | 8 => match st.drop (b - 1) with
    | .ref k :: r => bif Nat.ble (r.map Value.category).sum 8 && (st.take (b - 1)).all (fun v => Nat.beq v.category 1) then cl a (.ref k :: (st.take (b - 1)).reverse) (l.getD 1 0) (pc + len) ls r h else fl
    | _ => fl
  | 9 => match st with
    | [.int x] => bif Nat.beq b 0 then rt (some (.int x)) h else (if x = 0 ∨ x = 1 then rt (some (.int x)) h else fl)
    | _ => fl
  | 10 => match st with
    | .int x :: r => bif okS ls a then go (pc + len) (stl ls a (some (.int x))) r h else fl
    | _ => fl
  | 11 => match st with
    | .int y :: .int x :: r => go (pc + len) ls (.int (bop b x y) :: r) h
    | _ => fl
  | 12 => match st with
    | .int i :: .ref k :: r => oo fl (hA h k i) fun x => go (pc + len) ls (.int x :: r) h
    | .int i :: .null :: r => oo fl sc fun q => if inb i q.1 = true then go (pc + len) ls (.int (q.2 i.toNatClampNeg) :: r) h else fl
    | _ => fl
  | 13 => match st with
    | .int y :: .int x :: r => match b with
      | 0 => if x = y then go a ls r h else go (pc + len) ls r h
      | 1 => if x = y then go (pc + len) ls r h else go a ls r h
      | 2 => if x < y then go a ls r h else go (pc + len) ls r h
      | 3 => if y ≤ x then go a ls r h else go (pc + len) ls r h
      | 4 => if y < x then go a ls r h else go (pc + len) ls r h
      | _ => if x ≤ y then go a ls r h else go (pc + len) ls r h
    | _ => fl
  | 14 => match st with
    | .int x :: r => match b with
      | 0 => if x = 0 then go a ls r h else go (pc + len) ls r h
      | 1 => if x = 0 then go (pc + len) ls r h else go a ls r h
      | 2 => if x < 0 then go a ls r h else go (pc + len) ls r h
      | 3 => if 0 ≤ x then go a ls r h else go (pc + len) ls r h
      | 4 => if 0 < x then go a ls r h else go (pc + len) ls r h
      | _ => if x ≤ 0 then go a ls r h else go (pc + len) ls r h
    | _ => fl
  | 15 => oo fl (ldI ls a) fun x => bif okS ls a then go (pc + len) (stl ls a (some (.int (x + v)))) st h else fl
  | 16 => match st with
    | .int x :: .ref k :: r => bif Nat.beq (l.getD 2 0) 0 then (if kO h a k = true then go (pc + len) ls r (sI h k b x) else fl) else (if kO h a k = true ∧ (x = 0 ∨ x = 1) then go (pc + len) ls r (sI h k b x) else fl)
    | _ => fl
  | 17 => match st with
    | .ref x :: .ref k :: r => if kO h a k = true then go (pc + len) ls r (sR h k b x) else fl
    | _ => fl
  | 18 => match st with
    | .int x :: .int i :: .ref k :: r => if bA h k i = true then go (pc + len) ls r (sI h k i.toNatClampNeg x) else fl
    | _ => fl
  | 19 => match st with
    | [] => rt none h
    | _ => fl
  | 20 => match st with
    | w :: r => bif Nat.beq w.category 1 then go (pc + len) ls (w :: w :: r) h else fl
    | _ => fl
  | 21 => go (pc + len) ls (.ref h.1.length :: st) (nK h (.inl a))
  | 22 => match st with
    | .int n :: r => if ¬ n < 0 ∧ n.toNatClampNeg ≤ 100000 then go (pc + len) ls (.ref h.1.length :: r) (nK h (.inr (.inl n.toNatClampNeg))) else fl
    | _ => fl
  | 23 => match st with
    | .ref x :: r => bif okS ls a then go (pc + len) (stl ls a (some (.ref x))) r h else fl
    | _ => fl
  | 24 => match st with
    | .int x :: r => swt x v (l.drop 1) (l.getD 0 0) fun t => go t ls r h
    | _ => fl
  | 25 => match st with
    | .int x :: r => if x = 0 then go (l.getD 1 0) ls r h else if x = 1 then go (l.getD 2 0) ls r h else go (l.getD 0 0) ls r h
    | _ => fl
  | 26 => match st with
    | .ref k :: r => oo fl (hN h k) fun x => go (pc + len) ls (.int x :: r) h
    | .null :: r => oo fl sc fun q => go (pc + len) ls (.int (Int32.ofNat q.1) :: r) h
    | _ => fl
  | 27 => oo fl (ldD ls a) fun x => go (pc + len) ls (.double x :: st) h
  | 28 => match st with
    | .int i :: .ref k :: r => oo fl (hQ h k i) fun x => go (pc + len) ls (.ref x :: r) h
    | _ => fl
  | 29 => match st with
    | .int x :: r => go (pc + len) ls (.double (FP.i2d x) :: r) h
    | _ => fl
  | 30 => match st with
    | [.ref x] => rt (some (.ref x)) h
    | _ => fl
  | 31 => match st with
    | w :: u :: r => bif Nat.beq w.category 1 && Nat.beq u.category 1 then go (pc + len) ls (w :: u :: w :: u :: r) h else fl
    | _ => fl
  | 32 => match st with
    | .double y :: .double x :: r => go (pc + len) ls (.int (Op.cmpValue (FP.dcmp x y) .l) :: r) h
    | _ => fl
  | 33 => match st with
    | .ref x :: .int i :: .ref k :: r => if bQ h k i x = true then go (pc + len) ls r (sR h k i.toNatClampNeg x) else fl
    | _ => fl
  | 34 => match st with
    | .ref _ :: r => go (pc + len) ls r h
    | _ => fl
  | 35 => match st with
    | .double x :: r => bif okS ls a then go (pc + len) (stl (stl ls a (some (.double x))) (a + 1) none) r h else fl
    | _ => fl
  | 36 => match st with
    | [.double x] => rt (some (.double x)) h
    | _ => fl
  | 37 => match st with
    | .double y :: .double x :: r => if FP.ddiv x y &&& 0x7fffffffffffffff ≤ 0x7ff0000000000000 then go (pc + len) ls (.double (FP.ddiv x y) :: r) h else fl
    | _ => fl
  | 38 => bif Nat.beq b 0 then go (pc + len) ls (.double FP.dconst0 :: st) h else go (pc + len) ls (.double FP.dconst1 :: st) h
  | 39 => match st with
    | w :: r => bif Nat.beq w.category 1 then go (pc + len) ls r h else fl
    | _ => fl
  | 40 => match st with
    | .double y :: .double x :: r => if FP.dmul x y &&& 0x7fffffffffffffff ≤ 0x7ff0000000000000 then go (pc + len) ls (.double (FP.dmul x y) :: r) h else fl
    | _ => fl
  | 41 => match st with
    | .int n :: r => if ¬ n < 0 ∧ n.toNatClampNeg ≤ 100000 then go (pc + len) ls (.ref h.1.length :: r) (nK h (.inr (.inr n.toNatClampNeg))) else fl
    | _ => fl
  | 42 => match st with
    | .ref _ :: r => bif Nat.ble (r.map Value.category).sum 8 then go (pc + len) ls r h else fl
    | _ => fl
  | 43 => match st with
    | .int y :: .int x :: r => if y = 0 then fl else go (pc + len) ls (.int (x / y) :: r) h
    | _ => fl
  | 44 => match st with
    | .int y :: .int x :: r => if y = 0 then fl else go (pc + len) ls (.int (x - x / y * y) :: r) h
    | _ => fl
  | _ => fl
def fe : List pE → Nat → Option pE
  | [], _ => none
  | e :: I, pc => bif Nat.beq e.1 pc then some e else fe I pc
def mk : List Bool → pL → pL
  | b :: m, o :: ls => (bif b then o else none) :: mk m ls
  | _, _ => []
def cf : pC → Nat → Option (List Bool)
  | [], _ => none
  | q :: C, pc => bif Nat.beq q.1 pc then some q.2 else cf C pc
def trm (C : pC) (pc : Nat) (ls : pL) : pL := match cf C pc with
  | some m => mk m ls
  | none => ls
def cV (o : pR) (K : pH → pR) : pR := match o with
  | some (none, h) => K h
  | _ => none
def cI (o : pR) (K : Int32 → pH → pR) : pR := match o with
  | some (some (.int x), h) => K x h
  | _ => none
def cR (o : pR) (K : Nat → pH → pR) : pR := match o with
  | some (some (.ref x), h) => K x h
  | _ => none
def cD (o : pR) (K : UInt64 → pH → pR) : pR := match o with
  | some (some (.double x), h) => K x h
  | _ => none
def cc (rk : Nat) (o : pR) (K : List Value → pH → pR) : pR := match rk with
  | 0 => cV o fun h => K [] h
  | 1 => cI o fun x h => K [.int x] h
  | 2 => cR o fun x h => K [.ref x] h
  | _ => cD o fun x h => K [.double x] h
section Runs
variable (Ms : List pM)
def rn (sc : pX) : Nat → Nat → Nat → pL → List Value → pH → pR
  | 0, _, _, _, _, _ => none
  | n + 1, mi, pc, ls, st, h => oo none Ms[mi]? fun M => oo none (fe M.2.2.2.2.2.2.1 pc) fun e =>
    stp sc none (fun v h => some (v, h)) (fun pc ls st h => rn sc n mi pc (trm M.2.2.2.2.2.2.2 pc ls) st h)
      (fun y as rk pc ls r h => cc rk (rn none n y 0 (as.map some) [] h) fun w h => rn sc n mi pc (trm M.2.2.2.2.2.2.2 pc ls) (w ++ r) h) e ls st h
end Runs
end
section
/-! sizes only grow; what a row does with its next state; the limit of the runs -/
def kz (q : pK) : Nat := match q with
  | .inl ci => (vwCl[ci]?.map (fun q => q.2.2)).getD 0
  | .inr (.inl n) => n
  | .inr (.inr n) => n
def hz (h : pH) : Nat := (h.1.map kz).sum
def hle (h h' : pH) : Prop := h.1.length ≤ h'.1.length ∧ hz h ≤ hz h'
theorem hle_rf {h : pH} : hle h h := ⟨Nat.le_refl _, Nat.le_refl _⟩
theorem hle_tr {a b c : pH} (h : hle a b) (k : hle b c) : hle a c := ⟨Nat.le_trans h.1 k.1, Nat.le_trans h.2 k.2⟩
theorem hle_sI {h : pH} {k j : Nat} {x : Int32} : hle h (sI h k j x) := ⟨Nat.le_refl _, Nat.le_refl _⟩
theorem hle_sR {h : pH} {k j r : Nat} : hle h (sR h k j r) := ⟨Nat.le_refl _, Nat.le_refl _⟩
theorem hle_nK {h : pH} {q : pK} : hle h (nK h q) := by
  refine ⟨?_, ?_⟩
  · show h.1.length ≤ (h.1 ++ [q]).length
    simp
  · show hz h ≤ ((h.1 ++ [q]).map kz).sum
    simp [hz]
theorem oo_v {α β : Type} {fl : β} {x : α} {K : α → β} : oo fl (some x) K = K x := rfl
theorem oo_some {α β : Type} {o : Option α} {K : α → Option β} {r : β} (H : oo none o K = some r) : ∃ x, o = some x ∧ K x = some r := by
  cases o with
  | none => cases H
  | some x => exact ⟨x, rfl, H⟩
theorem swt_leaf {β : Type} {x : Int32} {d : Nat} {r : β} : ∀ {ts : List Nat} {v : Int32} {K : Nat → Option β}, swt x v ts d K = some r → ∃ t, K t = some r ∧ ∀ {γ : Type} (K' : Nat → γ), swt x v ts d K' = K' t
  | [], v, K, H => ⟨d, H, fun _ => rfl⟩
  | t :: ts, v, K, H => by
    unfold swt at H
    split at H
    · rename_i hc
      exact ⟨t, H, fun K' => by unfold swt; rw [if_pos hc]⟩
    · rename_i hc
      obtain ⟨t', h1, h2⟩ := swt_leaf H
      exact ⟨t', h1, fun K' => by unfold swt; rw [if_neg hc]; exact h2 K'⟩
set_option maxHeartbeats 4000000 in
theorem stp_leaf {sc : pX} {go : Nat → pL → List Value → pH → pR} {cl : Nat → List Value → Nat → Nat → pL → List Value → pH → pR} {e : pE} {ls : pL} {st : List Value} {h : pH} {r : Option Value × pH}
    (H : stp sc none (fun v h => some (v, h)) go cl e ls st h = some r) :
    (r.2 = h ∧ ∀ go' cl', stp sc none (fun v h => some (v, h)) go' cl' e ls st h = some r) ∨
    (∃ pc' ls' st' h', go pc' ls' st' h' = some r ∧ hle h h' ∧ ∀ go' cl', stp sc none (fun v h => some (v, h)) go' cl' e ls st h = go' pc' ls' st' h') ∨
    (∃ y as rk pc' ls' st', cl y as rk pc' ls' st' h = some r ∧ ∀ go' cl', stp sc none (fun v h => some (v, h)) go' cl' e ls st h = cl' y as rk pc' ls' st' h) := by
  obtain ⟨pc, len, tag, a, b, v, l⟩ := e
  unfold stp at H ⊢
  dsimp only at H ⊢
  simp only [cond_eq_ite] at H ⊢
  split at H
  all_goals first
    | exact Or.inr (Or.inl ⟨_, _, _, _, H, by first | exact hle_rf | exact hle_nK, fun _ _ => rfl⟩)
    | skip
  all_goals try (split at H)
  all_goals first
    | (cases H; done)
    | exact Or.inl ⟨by cases H; rfl, fun _ _ => H⟩
    | exact Or.inr (Or.inl ⟨_, _, _, _, H, by first | exact hle_rf | exact hle_nK, fun _ _ => rfl⟩)
    | skip
  all_goals first
    | (refine Exists.elim (oo_some H) fun t ht => ?_; obtain ⟨h1, H⟩ := ht; simp only [h1, oo])
    | (refine Exists.elim (swt_leaf H) fun t ht => ?_; exact Or.inr (Or.inl ⟨_, _, _, _, ht.1, hle_rf, fun _ _ => ht.2 _⟩))
    | skip
  all_goals try (split at H)
  all_goals try (split at H)
  all_goals try (split at H)
  all_goals first
    | (cases H; done)
    | exact Or.inl ⟨by cases H; rfl, fun _ _ => by first | (simp only [*, ↓reduceIte]; done) | simp [*]⟩
    | exact Or.inr (Or.inl ⟨_, _, _, _, H, by first | exact hle_rf | exact hle_nK | exact hle_sI | exact hle_sR, fun _ _ => by first | rfl | (simp only [*, ↓reduceIte]; done) | simp [*]⟩)
    | exact Or.inr (Or.inr ⟨_, _, _, _, _, _, H, fun _ _ => by first | rfl | (simp only [*, ↓reduceIte]; done) | simp [*]⟩)
    | skip
/-- a row's end, read with other hands -/
theorem stp_use {sc : pX} {go go' : Nat → pL → List Value → pH → pR} {cl cl' : Nat → List Value → Nat → Nat → pL → List Value → pH → pR} {e : pE} {ls : pL} {st : List Value} {h : pH} {r : Option Value × pH}
    (H : stp sc none (fun v h => some (v, h)) go cl e ls st h = some r) (hg : ∀ pc ls st h, go pc ls st h = some r → go' pc ls st h = some r) (hc : ∀ y as rk pc ls st h, cl y as rk pc ls st h = some r → cl' y as rk pc ls st h = some r) :
    stp sc none (fun v h => some (v, h)) go' cl' e ls st h = some r := by
  rcases stp_leaf H with ⟨-, H⟩ | ⟨pc', ls', st', h', H, -, H2⟩ | ⟨y, as, rk, pc', ls', st', H, H2⟩
  · exact H _ _
  · rw [H2]; exact hg _ _ _ _ H
  · rw [H2]; exact hc _ _ _ _ _ _ _ H
theorem cc_use {rk : Nat} {o o' : pR} {K K' : List Value → pH → pR} {r : Option Value × pH} (H : cc rk o K = some r) (ho : ∀ x, o = some x → o' = some x) (hK : ∀ v h w, o = some (v, h) → w = v.toList → K w h = some r → K' w h = some r) : cc rk o' K' = some r := by
  rcases rk with _ | _ | _ | rk
  · change cV o _ = _ at H
    change cV o' _ = _
    unfold cV at H ⊢
    split at H
    · rw [ho _ rfl]; exact hK _ _ _ rfl rfl H
    · cases H
  · change cI o _ = _ at H
    change cI o' _ = _
    unfold cI at H ⊢
    split at H
    · rw [ho _ rfl]; exact hK _ _ _ rfl rfl H
    · cases H
  · change cR o _ = _ at H
    change cR o' _ = _
    unfold cR at H ⊢
    split at H
    · rw [ho _ rfl]; exact hK _ _ _ rfl rfl H
    · cases H
  · change cD o _ = _ at H
    change cD o' _ = _
    unfold cD at H ⊢
    split at H
    · rw [ho _ rfl]; exact hK _ _ _ rfl rfl H
    · cases H
theorem cc_some {rk : Nat} {o : pR} {K : List Value → pH → pR} {r : Option Value × pH} (H : cc rk o K = some r) : ∃ v h w, o = some (v, h) ∧ w = v.toList ∧ K w h = some r := by
  unfold cc at H
  split at H
  · unfold cV at H
    split at H
    · exact ⟨_, _, _, rfl, rfl, H⟩
    · cases H
  · unfold cI at H
    split at H
    · exact ⟨_, _, _, rfl, rfl, H⟩
    · cases H
  · unfold cR at H
    split at H
    · exact ⟨_, _, _, rfl, rfl, H⟩
    · cases H
  · unfold cD at H
    split at H
    · exact ⟨_, _, _, rfl, rfl, H⟩
    · cases H
section RunsB
variable {Ms : List pM}
theorem rn_succ {sc : pX} {n mi pc : Nat} {ls : pL} {st : List Value} {h : pH} : rn Ms sc (n + 1) mi pc ls st h = oo none Ms[mi]? fun M => oo none (fe M.2.2.2.2.2.2.1 pc) fun e =>
    stp sc none (fun v h => some (v, h)) (fun pc ls st h => rn Ms sc n mi pc (trm M.2.2.2.2.2.2.2 pc ls) st h)
      (fun y as rk pc ls r h => cc rk (rn Ms none n y 0 (as.map some) [] h) fun w h => rn Ms sc n mi pc (trm M.2.2.2.2.2.2.2 pc ls) (w ++ r) h) e ls st h := rfl
theorem rn_mono1 : ∀ (n : Nat) {sc : pX} {mi pc : Nat} {ls : pL} {st : List Value} {h : pH} {r : Option Value × pH}, rn Ms sc n mi pc ls st h = some r → rn Ms sc (n + 1) mi pc ls st h = some r
  | 0, _, _, _, _, _, _, _, H => by cases H
  | n + 1, sc, mi, pc, ls, st, h, r, H => by
    rw [rn_succ] at H ⊢
    obtain ⟨M, h1, H⟩ := oo_some H
    obtain ⟨e, h2, H⟩ := oo_some H
    rw [h1]
    show oo none (fe M.2.2.2.2.2.2.1 pc) _ = some r
    rw [h2]
    exact stp_use H (fun _ _ _ _ k => rn_mono1 n k) (fun _ _ _ _ _ _ _ k => cc_use k (fun _ k => rn_mono1 n k) (fun _ _ _ _ _ k => rn_mono1 n k))
theorem rn_mono {n k : Nat} (hk : n ≤ k) {sc : pX} {mi pc : Nat} {ls : pL} {st : List Value} {h : pH} {r : Option Value × pH} (H : rn Ms sc n mi pc ls st h = some r) : rn Ms sc k mi pc ls st h = some r := by
  induction hk with
  | refl => exact H
  | step _ ih => exact rn_mono1 _ ih
theorem rn_le : ∀ (n : Nat) {sc : pX} {mi pc : Nat} {ls : pL} {st : List Value} {h : pH} {r : Option Value × pH}, rn Ms sc n mi pc ls st h = some r → hle h r.2
  | 0, _, _, _, _, _, _, _, H => by cases H
  | n + 1, sc, mi, pc, ls, st, h, r, H => by
    rw [rn_succ] at H
    obtain ⟨M, h1, H⟩ := oo_some H
    obtain ⟨e, h2, H⟩ := oo_some H
    rcases stp_leaf H with ⟨h3, -⟩ | ⟨pc', ls', st', h', H, h3, -⟩ | ⟨y, as, rk, pc', ls', st', H, -⟩
    · rw [h3]; exact hle_rf
    · exact hle_tr h3 (rn_le n H)
    · obtain ⟨v, h4, w, h5, -, h6⟩ := cc_some H
      exact hle_tr (rn_le n h5) (rn_le n h6)
variable (Ms)
noncomputable def run (sc : pX) (mi pc : Nat) (ls : pL) (st : List Value) (h : pH) : pR := @dite _ (∃ n r, rn Ms sc n mi pc ls st h = some r) (Classical.propDecidable _) (fun H => some (Classical.choose (Classical.choose_spec H))) (fun _ => none)
variable {Ms}
theorem run_of {n : Nat} {sc : pX} {mi pc : Nat} {ls : pL} {st : List Value} {h : pH} {r : Option Value × pH} (H : rn Ms sc n mi pc ls st h = some r) : run Ms sc mi pc ls st h = some r := by
  have E : ∃ n r, rn Ms sc n mi pc ls st h = some r := ⟨n, r, H⟩
  unfold run
  rw [dif_pos E]
  have h1 := Classical.choose_spec (Classical.choose_spec E)
  have h2 := rn_mono (Nat.le_max_left n (Classical.choose E)) H
  have h3 := rn_mono (Nat.le_max_right n (Classical.choose E)) h1
  rw [h2] at h3
  exact h3.symm
theorem run_to {sc : pX} {mi pc : Nat} {ls : pL} {st : List Value} {h : pH} {r : Option Value × pH} (H : run Ms sc mi pc ls st h = some r) : ∃ n, rn Ms sc n mi pc ls st h = some r := by
  unfold run at H
  split at H
  · rename_i E
    have h1 := Classical.choose_spec (Classical.choose_spec E)
    cases H
    exact ⟨_, h1⟩
  · cases H
/-- the row at pc, with the runs themselves as hands -/
theorem run_row {sc : pX} {mi pc : Nat} {ls : pL} {st : List Value} {h : pH} {M : pM} (hM : Ms[mi]? = some M) : run Ms sc mi pc ls st h = oo none (fe M.2.2.2.2.2.2.1 pc) fun e =>
    stp sc none (fun v h => some (v, h)) (fun pc ls st h => run Ms sc mi pc (trm M.2.2.2.2.2.2.2 pc ls) st h)
      (fun y as rk pc ls r h => cc rk (run Ms none y 0 (as.map some) [] h) fun w h => run Ms sc mi pc (trm M.2.2.2.2.2.2.2 pc ls) (w ++ r) h) e ls st h := by
  apply Option.ext
  intro r
  constructor
  · intro H
    obtain ⟨n, H⟩ := run_to H
    cases n with
    | zero => cases H
    | succ n =>
      rw [rn_succ, hM] at H
      rw [oo_v] at H
      obtain ⟨e, h2, H⟩ := oo_some H
      rw [h2]
      exact stp_use H (fun _ _ _ _ k => run_of k) (fun _ _ _ _ _ _ _ k => cc_use k (fun _ k => run_of k) (fun _ _ _ _ _ k => run_of k))
  · intro H
    obtain ⟨e, h2, H⟩ := oo_some H
    have fin : ∀ n, (stp sc none (fun v h => some (v, h)) (fun pc ls st h => rn Ms sc n mi pc (trm M.2.2.2.2.2.2.2 pc ls) st h)
      (fun y as rk pc ls r h => cc rk (rn Ms none n y 0 (as.map some) [] h) fun w h => rn Ms sc n mi pc (trm M.2.2.2.2.2.2.2 pc ls) (w ++ r) h) e ls st h = some r) → run Ms sc mi pc ls st h = some r := by
      intro n k
      refine run_of (n := n + 1) ?_
      rw [rn_succ, hM]
      show oo none (fe M.2.2.2.2.2.2.1 pc) _ = some r
      rw [h2]
      exact k
    rcases stp_leaf H with ⟨-, H⟩ | ⟨pc', ls', st', h', H, -, H2⟩ | ⟨y, as, rk, pc', ls', st', H, H2⟩
    · exact fin 0 (H _ _)
    · obtain ⟨n, H⟩ := run_to H
      exact fin n ((H2 _ _).trans H)
    · obtain ⟨v, h4, w, h5, h6, h7⟩ := cc_some H
      obtain ⟨n1, k1⟩ := run_to h5
      obtain ⟨n2, k2⟩ := run_to h7
      refine fin (max n1 n2) ((H2 _ _).trans ?_)
      refine cc_use H (fun x hx => ?_) (fun v' h' w' hx hw _ => ?_)
      · rw [h5] at hx
        cases hx
        exact rn_mono (Nat.le_max_left _ _) k1
      · rw [h5] at hx
        cases hx
        rw [h6, ← hw] at k2
        exact rn_mono (Nat.le_max_right _ _) k2
/-- a stretch of rows, up to the next cut -/
noncomputable def exq (Ms : List pM) (sc : pX) (C : pC) (I : List pE) (mi : Nat) : Nat → Nat → pL → List Value → pH → pR
  | 0, pc, ls, st, h => run Ms sc mi pc ls st h
  | k + 1, pc, ls, st, h => oo none (fe I pc) fun e =>
    stp sc none (fun v h => some (v, h)) (fun pc ls st h => match cf C pc with
        | some m => run Ms sc mi pc (mk m ls) st h
        | none => exq Ms sc C I mi k pc ls st h)
      (fun y as rk pc ls r h => cc rk (run Ms none y 0 (as.map some) [] h) fun w h => match cf C pc with
        | some m => run Ms sc mi pc (mk m ls) (w ++ r) h
        | none => exq Ms sc C I mi k pc ls (w ++ r) h) e ls st h
theorem exq_run {sc : pX} {mi : Nat} {M : pM} (hM : Ms[mi]? = some M) : ∀ (k pc : Nat) (ls : pL) (st : List Value) (h : pH), exq Ms sc M.2.2.2.2.2.2.2 M.2.2.2.2.2.2.1 mi k pc ls st h = run Ms sc mi pc ls st h
  | 0, _, _, _, _ => rfl
  | k + 1, pc, ls, st, h => by
    have ih : ∀ pc ls st h, (match cf M.2.2.2.2.2.2.2 pc with
        | some m => run Ms sc mi pc (mk m ls) st h
        | none => exq Ms sc M.2.2.2.2.2.2.2 M.2.2.2.2.2.2.1 mi k pc ls st h) = run Ms sc mi pc (trm M.2.2.2.2.2.2.2 pc ls) st h := by
      intro pc ls st h
      unfold trm
      cases cf M.2.2.2.2.2.2.2 pc with
      | some m => rfl
      | none => exact exq_run hM k pc ls st h
    rw [run_row hM]
    unfold exq
    simp only [ih]
end RunsB
end
section
/-! the pure heap as a world of the kit: the object of number k lies at base + k -/
def fk (ci j : Nat) : Nat := (pFk.getD ci []).getD j 9
def pN (ci : Nat) : Nat := (vwCl[ci]?.map (fun q => q.2.2)).getD 0
def pv (base b : Nat) (v : Value) : Value := match v with
  | .ref k => .ref (base + k)
  | .null => .ref b
  | v => v
def pF (base : Nat) (h : pH) (ci k : Nat) : List Value := (List.range (pN ci)).map fun j => if fk ci j = 2 then va_rf ((h.2.1 k j).map (base + ·)) else .int (h.2.2 k j)
def pent (base : Nat) (cI cQ : ClassId) (h : pH) (q : pK) (k : Nat) : va_E := match q with
  | .inl ci => .inr (ci, pF base h ci k)
  | .inr (.inl n) => .inl (cI, n, .inl (h.2.2 k))
  | .inr (.inr n) => .inl (cQ, n, .inr (.inr (.inr (.inr fun j => (h.2.1 k j).map (base + ·)))))
def pW (base : Nat) (cI cQ : ClassId) (h : pH) : va_W := h.1.zipIdx.map fun q => (base + q.2, pent base cI cQ h q.1 q.2)
section World
variable {base : Nat} {cI cQ : ClassId} {h : pH}
theorem pW_i (i : Nat) : (pW base cI cQ h)[i]? = h.1[i]?.map fun q => (base + i, pent base cI cQ h q i) := by
  simp only [pW, List.getElem?_map, List.getElem?_zipIdx, Option.map_map, Nat.zero_add]
  rfl
theorem pW_at {k : Nat} {q : pK} (hk : h.1[k]? = some q) : (pW base cI cQ h)[k]? = some (base + k, pent base cI cQ h q k) := by rw [pW_i, hk]; rfl
theorem pW_D : va_D (fun q => base ≤ q) (pW base cI cQ h) := by
  have key : ∀ (k : Nat) (q : Nat × va_E), (pW base cI cQ h)[k]? = some q → q.1 = base + k := by
    intro k q hk
    rw [pW_i] at hk
    cases hq : h.1[k]? with
    | none => rw [hq] at hk; cases hk
    | some z => rw [hq] at hk; cases hk; rfl
  refine ⟨fun i j p q hi hj hpq => ?_, fun k q hk => ?_⟩
  · have h1 := key i p hi
    have h2 := key j q hj
    omega
  · have h1 := key k q hk
    show base ≤ q.1
    omega
theorem pent_eq {h' : pH} {q : pK} {k : Nat} (h1 : h.2.1 k = h'.2.1 k) (h2 : h.2.2 k = h'.2.2 k) : pent base cI cQ h q k = pent base cI cQ h' q k := by
  unfold pent pF
  rw [h1, h2]
theorem pW_set {h' : pH} {k : Nat} {q : pK} {e : va_E} (hk : h.1[k]? = some q) (hK : h'.1 = h.1) (ho : ∀ i, i ≠ k → h.2.1 i = h'.2.1 i ∧ h.2.2 i = h'.2.2 i) (he : pent base cI cQ h' q k = e) : pW base cI cQ h' = (pW base cI cQ h).set k (base + k, e) := by
  apply List.ext_getElem?
  intro i
  rw [List.getElem?_set]
  by_cases hi : k = i
  · subst hi
    have hl : k < (pW base cI cQ h).length := (List.getElem?_eq_some_iff.mp (pW_at (base := base) (cI := cI) (cQ := cQ) hk)).1
    rw [if_pos rfl, if_pos hl, pW_i, hK, hk, ← he]
    rfl
  · rw [if_neg hi, pW_i, pW_i, hK]
    cases hq : h.1[i]? with
    | none => rfl
    | some z =>
      exact congrArg (fun e => some (base + i, e)) (pent_eq (ho i (Ne.symm hi)).1 (ho i (Ne.symm hi)).2).symm
theorem s2_ne {α : Type} {f : Nat → Nat → α} {k j i : Nat} {x : α} (hi : i ≠ k) : s2 f k j x i = f i := by
  funext b
  simp [s2, hi]
theorem s2_self {α : Type} {f : Nat → Nat → α} {k j b : Nat} {x : α} : s2 f k j x k b = if b = j then x else f k b := by simp [s2]
theorem pF_set {h' : pH} {ci k j : Nat} {v : Value} (hj : j < pN ci) (h1 : ∀ i, i ≠ j → h'.2.1 k i = h.2.1 k i ∧ h'.2.2 k i = h.2.2 k i) (hv : (if fk ci j = 2 then va_rf ((h'.2.1 k j).map (base + ·)) else .int (h'.2.2 k j)) = v) : pF base h' ci k = (pF base h ci k).set j v := by
  apply List.ext_getElem?
  intro i
  rw [List.getElem?_set]
  by_cases hi : j = i
  · subst hi
    rw [if_pos rfl, if_pos (by simp [pF, hj])]
    simp only [pF, List.getElem?_map, List.getElem?_range hj, Option.map_some]
    rw [hv]
  · rw [if_neg hi]
    simp only [pF, List.getElem?_map]
    cases hr : (List.range (pN ci))[i]? with
    | none => rfl
    | some z =>
      have hz : z = i := by
        have := List.getElem?_eq_some_iff.mp hr
        obtain ⟨a1, a2⟩ := this
        simpa using a2.symm
      subst hz
      simp only [Option.map_some]
      rw [(h1 z (Ne.symm hi)).1, (h1 z (Ne.symm hi)).2]
theorem pW_sI {k ci j : Nat} {x : Int32} (hk : h.1[k]? = some (.inl ci)) (hj : j < pN ci) (hf : fk ci j ≠ 2) : pW base cI cQ (sI h k j x) = (pW base cI cQ h).set k (base + k, .inr (ci, (pF base h ci k).set j (.int x))) := by
  refine pW_set hk rfl (fun i hi => ⟨rfl, (s2_ne hi).symm⟩) ?_
  show Sum.inr (ci, pF base (sI h k j x) ci k) = _
  rw [pF_set (h := h) (h' := sI h k j x) (v := .int x) hj (fun i hi => ⟨rfl, by show s2 h.2.2 k j x k i = _; rw [s2_self, if_neg hi]⟩) (by rw [if_neg hf]; show Value.int (s2 h.2.2 k j x k j) = _; rw [s2_self, if_pos rfl])]
theorem pW_sR {k ci j r : Nat} (hk : h.1[k]? = some (.inl ci)) (hj : j < pN ci) (hf : fk ci j = 2) : pW base cI cQ (sR h k j r) = (pW base cI cQ h).set k (base + k, .inr (ci, (pF base h ci k).set j (.ref (base + r)))) := by
  refine pW_set hk rfl (fun i hi => ⟨(s2_ne hi).symm, rfl⟩) ?_
  show Sum.inr (ci, pF base (sR h k j r) ci k) = _
  rw [pF_set (h := h) (h' := sR h k j r) (v := .ref (base + r)) hj (fun i hi => ⟨by show s2 h.2.1 k j (some r) k i = _; rw [s2_self, if_neg hi], rfl⟩) (by rw [if_pos hf]; show va_rf ((s2 h.2.1 k j (some r) k j).map (base + ·)) = _; rw [s2_self, if_pos rfl]; rfl)]
theorem pW_aI {k n j : Nat} {x : Int32} (hk : h.1[k]? = some (.inr (.inl n))) : pW base cI cQ (sI h k j x) = (pW base cI cQ h).set k (base + k, .inl (cI, n, .inl (upd (h.2.2 k) j x))) := by
  refine pW_set hk rfl (fun i hi => ⟨rfl, (s2_ne hi).symm⟩) ?_
  show Sum.inl (cI, n, Sum.inl (s2 h.2.2 k j x k)) = _
  rw [show s2 h.2.2 k j x k = upd (h.2.2 k) j x from by funext b; rw [s2_self]; rfl]
theorem pW_aR {k n j r : Nat} (hk : h.1[k]? = some (.inr (.inr n))) : pW base cI cQ (sR h k j r) = (pW base cI cQ h).set k (base + k, .inl (cQ, n, .inr (.inr (.inr (.inr (va_up (fun j => (h.2.1 k j).map (base + ·)) j (some (base + r)))))))) := by
  refine pW_set hk rfl (fun i hi => ⟨(s2_ne hi).symm, rfl⟩) ?_
  show Sum.inl (cQ, n, Sum.inr (Sum.inr (Sum.inr (Sum.inr fun i => (s2 h.2.1 k j (some r) k i).map (base + ·))))) = _
  rw [show (fun i => (s2 h.2.1 k j (some r) k i).map (base + ·)) = va_up (fun j => (h.2.1 k j).map (base + ·)) j (some (base + r)) from by
    funext b
    rw [s2_self]
    unfold va_up
    by_cases hb : b = j
    · rw [if_pos hb, if_pos hb]; rfl
    · rw [if_neg hb, if_neg hb]]
theorem pW_nK {q : pK} : pW base cI cQ (nK h q) = pW base cI cQ h ++ [(base + h.1.length, pent base cI cQ (nK h q) q h.1.length)] := by
  have hl : (pW base cI cQ h).length = h.1.length := by simp [pW]
  apply List.ext_getElem?
  intro i
  rw [pW_i]
  show (h.1 ++ [q])[i]?.map _ = _
  by_cases hi : i < h.1.length
  · rw [List.getElem?_append_left hi, List.getElem?_append_left (by rw [hl]; exact hi), pW_i]
    cases hq : h.1[i]? with
    | none => rfl
    | some z =>
      have hne : i ≠ h.1.length := by omega
      exact congrArg (fun e => some (base + i, e)) (pent_eq (h := nK h q) (h' := h) (by funext b; simp [nK, z2, hne]) (by funext b; simp [nK, z2, hne]))
  · rw [List.getElem?_append_right (by omega), List.getElem?_append_right (by rw [hl]; omega), hl]
    by_cases he : i = h.1.length
    · subst he
      rw [Nat.sub_self]
      rfl
    · rw [List.getElem?_eq_none (by simp; omega), List.getElem?_eq_none (by simp; omega)]
      rfl
end World
/-! locals -/
def lr (base b nL : Nat) (ls : pL) (LS : Array Slot) : Prop := LS.size = nL ∧ lv_wf LS ∧ ∀ (i : Nat) (v : Value), ls[i]? = some (some v) → LS[i]? = some (.val (pv base b v))
def asc (base b : Nat) (ls : pL) : List (Nat × Value) := (List.range ls.length).filterMap fun i => match ls[i]? with
  | some (some v) => some (i, pv base b v)
  | _ => none
theorem asc_mem {base b : Nat} {ls : pL} {q : Nat × Value} : q ∈ asc base b ls ↔ ∃ v, ls[q.1]? = some (some v) ∧ q.2 = pv base b v := by
  unfold asc
  rw [List.mem_filterMap]
  constructor
  · rintro ⟨i, -, hi⟩
    split at hi
    · rename_i v hv
      cases hi
      exact ⟨v, hv, rfl⟩
    · cases hi
  · rintro ⟨v, hv, he⟩
    refine ⟨q.1, List.mem_range.mpr (List.getElem?_eq_some_iff.mp hv).1, ?_⟩
    rw [hv]
    show some (q.1, pv base b v) = some q
    rw [← he]
theorem lr_has {base b nL : Nat} {ls : pL} {LS : Array Slot} (h : lr base b nL ls LS) : lv_has LS nL (asc base b ls) := ⟨h.1, h.2.1, fun q hq => by
  obtain ⟨v, hv, he⟩ := asc_mem.mp hq
  rw [he]
  exact h.2.2 q.1 v hv⟩
theorem stl_at {ls : pL} {a i : Nat} {o : Option Value} {v : Value} (h : (stl ls a o)[i]? = some (some v)) : (i = a ∧ o = some v) ∨ (i ≠ a ∧ ls[i]? = some (some v)) := by
  unfold stl at h
  split at h
  · rename_i hl
    by_cases hi : i = a
    · subst hi
      rw [List.getElem?_set_self hl] at h
      exact Or.inl ⟨rfl, Option.some.inj h⟩
    · rw [List.getElem?_set_ne (Ne.symm hi)] at h
      exact Or.inr ⟨hi, h⟩
  · rename_i hl
    by_cases h1 : i < ls.length
    · rw [List.append_assoc, List.getElem?_append_left h1] at h
      exact Or.inr ⟨by omega, h⟩
    · by_cases h2 : i < a
      · rw [List.getElem?_append_left (by simp; omega), List.getElem?_append_right (by omega), List.getElem?_replicate] at h
        split at h <;> cases h
      · rw [List.getElem?_append_right (by simp; omega)] at h
        simp only [List.length_append, List.length_replicate] at h
        have hz : i - (ls.length + (a - ls.length)) < 1 := (List.getElem?_eq_some_iff.mp h).1
        rw [show i - (ls.length + (a - ls.length)) = 0 by omega] at h
        exact Or.inl ⟨by omega, Option.some.inj h⟩
theorem pv_cat {base b : Nat} {v : Value} : (pv base b v).category = v.category := by cases v <;> rfl
theorem lr_stl1 {base b nL a : Nat} {ls : pL} {LS : Array Slot} {v : Value} (ho : okS ls a = true)
    (h : lv_has LS nL ((a, pv base b v) :: (asc base b ls).filter (fun q => !(q.1 == a) && !(q.1 + 1 == a && q.2.category == 2)))) : lr base b nL (stl ls a (some v)) LS := by
  refine ⟨h.1, h.2.1, fun i w hi => ?_⟩
  rcases stl_at hi with ⟨rfl, h1⟩ | ⟨h1, h2⟩
  · cases h1
    exact h.2.2 (i, pv base b v) List.mem_cons_self
  · refine h.2.2 (i, pv base b w) (List.mem_cons_of_mem _ (List.mem_filter.mpr ⟨asc_mem.mpr ⟨w, h2, rfl⟩, ?_⟩))
    simp only [Bool.and_eq_true, Bool.not_eq_true', beq_eq_false_iff_ne, ne_eq, Bool.and_eq_false_iff]
    refine ⟨h1, ?_⟩
    by_cases h3 : i + 1 = a
    · refine Or.inr ?_
      subst h3
      unfold okS at ho
      simp only [h2] at ho
      rw [pv_cat]
      simpa using ho
    · exact Or.inl h3
theorem lr_stl2 {base b nL a : Nat} {ls : pL} {LS : Array Slot} {v : Value} (ho : okS ls a = true)
    (h : lv_has LS nL ((a, pv base b v) :: (asc base b ls).filter (fun q => !(q.1 == a) && (!(q.1 == a + 1) && !(q.1 + 1 == a && q.2.category == 2))))) : lr base b nL (stl (stl ls a (some v)) (a + 1) none) LS := by
  refine ⟨h.1, h.2.1, fun i w hi => ?_⟩
  rcases stl_at hi with ⟨-, h1⟩ | ⟨h0, hi⟩
  · cases h1
  rcases stl_at hi with ⟨rfl, h1⟩ | ⟨h1, h2⟩
  · cases h1
    exact h.2.2 (i, pv base b v) List.mem_cons_self
  · refine h.2.2 (i, pv base b w) (List.mem_cons_of_mem _ (List.mem_filter.mpr ⟨asc_mem.mpr ⟨w, h2, rfl⟩, ?_⟩))
    simp only [Bool.and_eq_true, Bool.not_eq_true', beq_eq_false_iff_ne, ne_eq, Bool.and_eq_false_iff]
    refine ⟨h1, h0, ?_⟩
    by_cases h3 : i + 1 = a
    · refine Or.inr ?_
      subst h3
      unfold okS at ho
      simp only [h2] at ho
      rw [pv_cat]
      simpa using ho
    · exact Or.inl h3
theorem mk_at : ∀ {m : List Bool} {ls : pL} {i : Nat} {v : Value}, (mk m ls)[i]? = some (some v) → ls[i]? = some (some v)
  | [], _, i, v, h => by simp [mk] at h
  | _ :: _, [], i, v, h => by simp [mk] at h
  | b :: m, o :: ls, 0, v, h => by
    cases b with
    | true => exact h
    | false => simp [mk] at h
  | b :: m, o :: ls, i + 1, v, h => by
    rw [List.getElem?_cons_succ]
    exact mk_at (by simpa [mk] using h)
theorem lr_trm {base b nL pc : Nat} {C : pC} {ls : pL} {LS : Array Slot} (h : lr base b nL ls LS) : lr base b nL (trm C pc ls) LS := by
  refine ⟨h.1, h.2.1, fun i v hi => h.2.2 i v ?_⟩
  unfold trm at hi
  split at hi
  · exact mk_at hi
  · exact hi
theorem ldI_at {ls : pL} {a : Nat} {x : Int32} (h : ldI ls a = some x) : ls[a]? = some (some (.int x)) := by
  unfold ldI at h
  split at h
  · rename_i y hy
    cases h
    exact hy
  · cases h
theorem ldD_at {ls : pL} {a : Nat} {x : UInt64} (h : ldD ls a = some x) : ls[a]? = some (some (.double x)) := by
  unfold ldD at h
  split at h
  · rename_i y hy
    cases h
    exact hy
  · cases h
theorem ldR_at {ls : pL} {a : Nat} {w : Value} (h : ldR ls a = some w) : ls[a]? = some (some w) ∧ ((∃ k, w = .ref k) ∨ w = .null) := by
  unfold ldR at h
  split at h
  · rename_i y hy
    cases h
    exact ⟨hy, Or.inl ⟨_, rfl⟩⟩
  · rename_i hy
    cases h
    exact ⟨hy, Or.inr rfl⟩
  · cases h
end
section
/-! what is checked of a method's rows beforehand -/
abbrev mI (M : pM) : List pE := M.2.2.2.2.2.2.1
abbrev mC (M : pM) : pC := M.2.2.2.2.2.2.2
abbrev mL (M : pM) : Nat := M.2.2.1
abbrev mR (M : pM) : Option FieldType := M.2.2.2.1
abbrev mF (M : pM) : Nat := M.2.2.2.2.1
abbrev mO (M : pM) : Nat := M.2.2.2.2.2.1
def gW : List Cond := lw_tbl.filter goodWord
def wAt (i : Nat) (w : Cond) : Bool := decide (lw_tbl[i]? = some w) && goodWord w
theorem wAt_in {i : Nat} {w : Cond} (h : wAt i w = true) : w ∈ gW := by
  simp only [wAt, Bool.and_eq_true, decide_eq_true_eq] at h
  exact List.mem_filter.mpr ⟨List.mem_of_getElem? h.1, h.2⟩
def pTy (ci k : Nat) : FieldType := match ci with
  | 0 => tyX0 k
  | 1 => tyX1 k
  | 2 => tyX2 k
  | 3 => tyX4 k
  | 4 => tyX5 k
  | 5 => tyX6 k
  | 6 => tyX7 k
  | 7 => tyX9 k
  | _ => tyX10 k
def tyk (t : FieldType) : Nat := match t with
  | .int => 0
  | .boolean => 1
  | .object _ => 2
  | .array _ => 2
  | _ => 9
def rkOf (t : Option FieldType) : Nat := match t with
  | none => 0
  | some .int => 1
  | some .boolean => 1
  | some (.object _) => 2
  | some (.array _) => 2
  | some .double => 3
  | _ => 9
def exI (e : pE) : Instr := match e with
  | (pc, len, tag, a, b, v, l) => match tag with
    | 0 => if len = 1 then .aload_n (Fin.ofNat 4 a) else .aload a
    | 1 => if len = 1 then .iload_n (Fin.ofNat 4 a) else .iload a
    | 2 => .getfield (l.getD 0 0)
    | 3 => .getfield (l.getD 0 0)
    | 4 => match b with
      | 0 => .iconst v.toInt
      | 1 => .bipush v.toInt
      | 2 => .sipush v.toInt
      | 3 => .ldc a
      | _ => .ldc_w a
    | 5 => .goto ((a : Int) - pc)
    | 6 => .invokevirtual (l.getD 0 0)
    | 7 => .invokestatic (l.getD 0 0)
    | 8 => .invokespecial (l.getD 0 0)
    | 9 => .ireturn
    | 10 => if len = 1 then .istore_n (Fin.ofNat 4 a) else .istore a
    | 11 => match b with
      | 0 => .iadd
      | 1 => .isub
      | 2 => .imul
      | 3 => .iand
      | 4 => .ior
      | 5 => .ixor
      | 6 => .ishl
      | 7 => .ishr
      | _ => .iushr
    | 12 => .iaload
    | 13 => match b with
      | 0 => .if_icmp .eq ((a : Int) - pc)
      | 1 => .if_icmp .ne ((a : Int) - pc)
      | 2 => .if_icmp .lt ((a : Int) - pc)
      | 3 => .if_icmp .ge ((a : Int) - pc)
      | 4 => .if_icmp .gt ((a : Int) - pc)
      | _ => .if_icmp .le ((a : Int) - pc)
    | 14 => match b with
      | 0 => .ifCond .eq ((a : Int) - pc)
      | 1 => .ifCond .ne ((a : Int) - pc)
      | 2 => .ifCond .lt ((a : Int) - pc)
      | 3 => .ifCond .ge ((a : Int) - pc)
      | 4 => .ifCond .gt ((a : Int) - pc)
      | _ => .ifCond .le ((a : Int) - pc)
    | 15 => .iinc a v.toInt
    | 16 => .putfield (l.getD 0 0)
    | 17 => .putfield (l.getD 0 0)
    | 18 => .iastore
    | 19 => .return_
    | 20 => .dup
    | 21 => .new (l.getD 0 0)
    | 22 => .newarray .int
    | 23 => if len = 1 then .astore_n (Fin.ofNat 4 a) else .astore a
    | 24 => .tableswitch ((l.getD 0 0 : Nat) - (pc : Int)) v.toInt (v.toInt + (l.length : Int) - 2) ((l.drop 1).map (fun (t : Nat) => (t : Int) - (pc : Int))).toArray
    | 25 => .lookupswitch ((l.getD 0 0 : Nat) - (pc : Int)) #[(0, (l.getD 1 0 : Nat) - (pc : Int)), (1, (l.getD 2 0 : Nat) - (pc : Int))]
    | 26 => .arraylength
    | 27 => if len = 1 then .dload_n (Fin.ofNat 4 a) else .dload a
    | 28 => .aaload
    | 29 => .i2d
    | 30 => .areturn
    | 31 => .dup2
    | 32 => .dcmp .l
    | 33 => .aastore
    | 34 => .ifnull ((a : Int) - pc)
    | 35 => if len = 1 then .dstore_n (Fin.ofNat 4 a) else .dstore a
    | 36 => .dreturn
    | 37 => .ddiv
    | 38 => match b with
      | 0 => .dconst 0
      | _ => .dconst 1
    | 39 => .pop
    | 40 => .dmul
    | 41 => .anewarray (l.getD 0 0)
    | 42 => .invokespecial (l.getD 0 0)
    | 43 => .idiv
    | _ => .irem
def fldB (M : pM) (a b : Nat) (l : List Nat) : Bool := match vwCl[a]? with
  | some q => decide (b < q.2.2) && decide ((q.2.1 b).1 = q.1) && (bif Nat.beq (l.getD 1 0) 0 then wAt (l.getD 3 0) (.fieldLink M.1.cls (l.getD 0 0) q.1 (q.2.1 b).2.1 (q.2.1 b).2.2.1) else decide (lw_tbl[l.getD 3 0]? = some (.fieldLinkNest M.1.cls (l.getD 0 0) q.1 (q.2.1 b).2.1 (q.2.1 b).2.2.1 "ShelfSpines")))
  | none => false
def finB (M : pM) (a b : Nat) (l : List Nat) : Bool := match vwCl[a]? with
  | some q => !(q.2.1 b).2.2.2 || (Nat.beq (l.getD 1 0) 0 && decide (M.1.name = "<init>") && decide ((q.2.1 b).1 = M.1.cls))
  | none => false
def calB (Ms : List pM) (M : pM) (a np nl : Nat) (l : List Nat) : Bool := match Ms[a]? with
  | some N => wAt (l.getD 3 0) (.methodLink M.1.cls (l.getD 0 0) N.1) && wAt (l.getD 4 0) (.code N.1 N.2.1 (mL N) (mR N)) && wAt (l.getD 5 0) (.initialized N.1.cls) && decide (mF N + 1 ≤ mF M) && decide (8 + (mL N + 11) + mO N ≤ mO M) && decide (N.1.cls ≠ "java/lang/invoke/MethodHandle") && decide (N.1.cls ≠ "java/lang/invoke/VarHandle") && decide ((parseMethodDescriptor N.1.desc).map (fun d => d.parameters.length) = some np) && decide (rkOf (mR N) = l.getD 1 0) && decide (nl ≤ mL N)
  | none => false
def newB (M : pM) (a : Nat) (l : List Nat) : Bool := match vwCl[a]? with
  | some q => wAt (l.getD 3 0) (.classLink M.1.cls (l.getD 0 0) q.1) && wAt (l.getD 4 0) (.instantiable q.1 q.2.2) && wAt (l.getD 5 0) (.initialized q.1)
  | none => false
def virB (Ms : List pM) (a : Nat) (l : List Nat) : Bool := match Ms[a]? with
  | some N => wAt (l.getD 6 0) (.instanceMethod N.1) && wAt (l.getD 7 0) (.selects N.1.cls N.1 N.1) && (match vwCl[l.getD 2 0]? with
    | some q => decide (q.1 = N.1.cls)
    | none => false)
  | none => false
def stcB (Ms : List pM) (a : Nat) (l : List Nat) : Bool := match Ms[a]? with
  | some N => wAt (l.getD 6 0) (.static N.1)
  | none => false
def spcB (Ms : List pM) (a : Nat) (l : List Nat) : Bool := match Ms[a]? with
  | some N => wAt (l.getD 6 0) (.instanceMethod N.1) && decide (N.1.name = "<init>") && decide (mR N = none)
  | none => false
def sdB (Ms : List pM) (M : pM) (e : pE) : Bool := match e with
  | (pc, len, tag, a, b, v, l) => match tag with
    | 0 => (decide (len = 1) && decide (a < 4)) || decide (len = 2)
    | 1 => (decide (len = 1) && decide (a < 4)) || decide (len = 2)
    | 2 => decide (len = 3) && decide (fk a b ≠ 2) && fldB M a b l
    | 3 => decide (len = 3) && decide (fk a b = 2) && fldB M a b l
    | 4 => match b with
      | 0 => decide (len = 1)
      | 1 => decide (len = 2) && decide ((Int8.ofInt v.toInt).toInt32 = v)
      | 2 => decide (len = 3) && decide ((Int16.ofInt v.toInt).toInt32 = v)
      | 3 => decide (len = 2) && wAt (l.getD 3 0) (.constant M.1.cls a v)
      | _ => decide (len = 3) && wAt (l.getD 3 0) (.constant M.1.cls a v)
    | 5 => decide (len = 3)
    | 6 => decide (len = 3) && decide (1 ≤ b) && calB Ms M a (b - 1) b l && virB Ms a l
    | 7 => decide (len = 3) && calB Ms M a b b l && stcB Ms a l
    | 8 => decide (len = 3) && decide (1 ≤ b) && calB Ms M a (b - 1) b l && spcB Ms a l
    | 9 => decide (len = 1) && (bif Nat.beq b 0 then decide (mR M = some .int) else decide (mR M = some .boolean))
    | 10 => ((decide (len = 1) && decide (a < 4)) || decide (len = 2)) && decide (a < mL M)
    | 11 => decide (len = 1)
    | 12 => decide (len = 1)
    | 13 => decide (len = 3)
    | 14 => decide (len = 3)
    | 15 => decide (len = 3) && decide (a < mL M)
    | 16 => decide (len = 3) && decide (fk a b ≠ 2) && fldB M a b l && finB M a b l && decide (fk a b = l.getD 2 0)
    | 17 => decide (len = 3) && decide (fk a b = 2) && fldB M a b l && finB M a b l
    | 18 => decide (len = 1)
    | 19 => decide (len = 1) && decide (mR M = none)
    | 20 => decide (len = 1)
    | 21 => decide (len = 3) && newB M a l
    | 22 => decide (len = 2) && wAt (l.getD 3 0) (.arrayClass .int)
    | 23 => ((decide (len = 1) && decide (a < 4)) || decide (len = 2)) && decide (a < mL M)
    | 24 => decide (2 ≤ l.length) && decide (l.length ≤ 100) && decide (0 ≤ v.toInt) && decide (v.toInt ≤ 100)
    | 25 => decide (l.length = 3)
    | 26 => decide (len = 1)
    | 27 => (decide (len = 1) && decide (a < 4)) || decide (len = 2)
    | 28 => decide (len = 1)
    | 29 => decide (len = 1)
    | 30 => decide (len = 1) && decide (rkOf (mR M) = 2)
    | 31 => decide (len = 1)
    | 32 => decide (len = 1)
    | 33 => decide (len = 1)
    | 34 => decide (len = 3)
    | 35 => ((decide (len = 1) && decide (a < 4)) || decide (len = 2)) && decide (a + 1 < mL M)
    | 36 => decide (len = 1) && decide (mR M = some .double)
    | 37 => decide (len = 1)
    | 38 => decide (len = 1)
    | 39 => decide (len = 1)
    | 40 => decide (len = 1)
    | 41 => decide (len = 3) && wAt (l.getD 3 0) (.classLink M.1.cls (l.getD 0 0) "ShelfSpines$Shelf") && wAt (l.getD 4 0) (.arrayOver (.object "ShelfSpines$Shelf"))
    | 42 => decide (len = 3) && wAt (l.getD 3 0) (.methodLink M.1.cls (l.getD 0 0) Lib.objectInit) && wAt (l.getD 4 0) (.instanceMethod Lib.objectInit) && wAt (l.getD 5 0) (.code Lib.objectInit ⟨#[0xb1]⟩ 1 none) && decide (1 ≤ mF M) && decide (20 ≤ mO M)
    | 43 => decide (len = 1)
    | 44 => decide (len = 1)
    | _ => false
/-- a method's rows are those of its code -/
def okM (Ms : List pM) (M : pM) : Prop := plainName M.1.cls = true ∧ ∀ e ∈ mI M, decode M.2.1 e.1 = .ok (exI e, e.2.1) ∧ sdB Ms M e = true
def okB (Ms : List pM) (M : pM) (I : List pE) : Bool := plainName M.1.cls && I.all fun e => decide (decode M.2.1 e.1 = .ok (exI e, e.2.1)) && sdB Ms M e
theorem okB_M {Ms : List pM} {M : pM} (h : okB Ms M (mI M) = true) : okM Ms M := by
  obtain ⟨h0, h⟩ := (Bool.and_eq_true _ _).mp h
  refine ⟨h0, fun e he => ?_⟩
  have h1 := List.all_eq_true.mp h e he
  simpa only [Bool.and_eq_true, decide_eq_true_eq] using h1
def pNt : List Cond := lw_tbl.filter fun w => match w with
  | .fieldLinkNest _ _ _ _ _ _ => true
  | _ => false
theorem fe_in : ∀ {I : List pE} {pc : Nat} {e : pE}, fe I pc = some e → e ∈ I ∧ e.1 = pc
  | [], _, _, h => by cases h
  | q :: I, pc, e, h => by
    unfold fe at h
    cases hb : Nat.beq q.1 pc with
    | true =>
      rw [hb] at h
      cases h
      exact ⟨List.mem_cons_self, Nat.eq_of_beq_eq_true hb⟩
    | false =>
      rw [hb] at h
      obtain ⟨h1, h2⟩ := fe_in (I := I) h
      exact ⟨List.mem_cons_of_mem _ h1, h2⟩

theorem cls_ok : ∀ (ci : Nat) (q : vw_C), vwCl[ci]? = some q → (∀ w ∈ u_ws q.1 q.2.1 q.2.2, w ∈ gW) ∧ (∀ k, k < q.2.2 → parseFieldDescriptor (q.2.1 k).2.2.1 = some (pTy ci k)) ∧ (∀ a, a < q.2.2 → ∀ b, b < q.2.2 → a ≠ b → (q.2.1 a).2.1 ≠ (q.2.1 b).2.1) ∧ (∀ k, k < q.2.2 → tyk (pTy ci k) = fk ci k) ∧ pN ci = q.2.2
  | 0, q, h => by
    cases h
    exact ⟨by decide +kernel, tyX0_ok, nmX0, by decide +kernel, by decide +kernel⟩
  | 1, q, h => by
    cases h
    exact ⟨by decide +kernel, tyX1_ok, nmX1, by decide +kernel, by decide +kernel⟩
  | 2, q, h => by
    cases h
    exact ⟨by decide +kernel, tyX2_ok, nmX2, by decide +kernel, by decide +kernel⟩
  | 3, q, h => by
    cases h
    exact ⟨by decide +kernel, tyX4_ok, nmX4, by decide +kernel, by decide +kernel⟩
  | 4, q, h => by
    cases h
    exact ⟨by decide +kernel, tyX5_ok, nmX5, by decide +kernel, by decide +kernel⟩
  | 5, q, h => by
    cases h
    exact ⟨by decide +kernel, tyX6_ok, nmX6, by decide +kernel, by decide +kernel⟩
  | 6, q, h => by
    cases h
    exact ⟨by decide +kernel, tyX7_ok, nmX7, by decide +kernel, by decide +kernel⟩
  | 7, q, h => by
    cases h
    exact ⟨by decide +kernel, tyX9_ok, nmX9, by decide +kernel, by decide +kernel⟩
  | 8, q, h => by
    cases h
    exact ⟨by decide +kernel, tyX10_ok, nmX10, by decide +kernel, by decide +kernel⟩
  | k + 9, q, h => by simp [vwCl] at h
end
section
/-! a state of the pure machine and a state of the machine -/
def pMt (base b0 : Nat) (D : va_G) (cI cQ : ClassId) (H0 : Heap) (nL C0 Z0 : Nat) (ls : pL) (h : pH) (LS : Array Slot) (H : Heap) (locs : List Loc) (cells slots : Nat) : Prop :=
  base + h.1.length ≤ H.size ∧ va_P D vwCl (pW base cI cQ h) H ∧ va_S (fun q => base ≤ q) H0 H locs ∧ lr base b0 nL ls LS ∧ cells + C0 = h.1.length ∧ slots + Z0 = hz h
def pFx (p : Program) (R : Room) (s : State) (m : MethodId) (args : Array Value) (meth : Method) (c : Code) (M : pM) (base C0 : Nat) (D : va_G) (cI cQ : ClassId) (H0 : Heap) : Prop :=
  p.tables.exec = Jvm.exec ∧ c.code = M.2.1 ∧ c.maxLocals = mL M ∧ s.vm.findClass M.1.cls = some m.cls ∧ (∀ w ∈ gW, w.before args s = true) ∧ (∀ w ∈ pNt, va_Nw w s) ∧ meth.name = M.1.name ∧ mF M ≤ R.frames ∧ mO M ≤ R.locals ∧ va_K D vwCl [(cI, .int), (cQ, .object "ShelfSpines$Shelf")] s ∧ base ≤ H0.size ∧ mR M = meth.sig.returnType ∧ s.heap.size = base + C0 ∧ meth.locks = false
/-- the script, where there is one -/
def pSc (sc : pX) (b0 : Nat) (s : State) (H0 : Heap) (base : Nat) : Prop := ∀ q, sc = some q → va_X b0 q.1 q.2 s H0 ∧ b0 < H0.size ∧ ¬ base ≤ b0
section Sound
variable {p : Program} {l : Launch} {e : Env} {R : Room} {s : State} {m : MethodId} {args : Array Value} {below : List Frame} {meth : Method} {c : Code} {Q : State → Prop}
variable {Ms : List pM} {M : pM} {base b0 : Nat} {D : va_G} {cI cQ : ClassId} {H0 H : Heap} {C0 Z0 : Nat} {r : Option Value × pH} {sc : pX} {go : Nat → pL → List Value → pH → pR} {cl : Nat → List Value → Nat → Nat → pL → List Value → pH → pR}
variable {pc len a b : Nat} {v : Int32} {li : List Nat} {ls : pL} {st : List Value} {h : pH} {LS : Array Slot} {locs : List Loc} {cells slots : Nat}
def pKK (p : Program) (l : Launch) (e : Env) (R : Room) (s : State) (m : MethodId) (args : Array Value) (below : List Frame) (meth : Method) (c : Code) (Q : State → Prop) (M : pM) (base b0 : Nat) (D : va_G) (cI cQ : ClassId) (H0 : Heap) (C0 Z0 : Nat) (r : Option Value × pH) (go : Nat → pL → List Value → pH → pR) : Prop :=
  ∀ (pc : Nat) (ls : pL) (st : List Value) (h : pH) (LS : Array Slot) (H : Heap) (locs : List Loc) (cells slots : Nat), go pc ls st h = some r → pMt base b0 D cI cQ H0 (mL M) C0 Z0 ls h LS H locs cells slots →
    W p l e R s m args below meth c H locs cells slots Q (F0 m pc LS (st.map (pv base b0)))
theorem len12 {len a : Nat} (h : ((decide (len = 1) && decide (a < 4)) || decide (len = 2)) = true) : (len = 1 ∧ a < 4) ∨ len = 2 := by simpa using h
theorem fin4 {a : Nat} (h : a < 4) : ((Fin.ofNat 4 a : Fin 4) : Nat) = a := Nat.mod_eq_of_lt h
theorem i32_of_toInt (v : Int32) : Int32.ofInt v.toInt = v := Int32.ofInt_toInt v

theorem tg_0 (F : pFx p R s m args meth c M base C0 D cI cQ H0) (K : pKK p l e R s m args below meth c Q M base b0 D cI cQ H0 C0 Z0 r go) (hs : stp sc none (fun v h => some (v, h)) go cl (pc, len, 0, a, b, v, li) ls st h = some r) (X : pMt base b0 D cI cQ H0 (mL M) C0 Z0 ls h LS H locs cells slots) (hd : decode M.2.1 pc = .ok (exI (pc, len, 0, a, b, v, li), len)) (sd : sdB Ms M (pc, len, 0, a, b, v, li) = true) : W p l e R s m args below meth c H locs cells slots Q (F0 m pc LS (st.map (pv base b0))) := by
  obtain ⟨hx, hb, hml, hown, hts, hnw, hnm, hfr, hlo, hK, hbs, hrt, hsz, hlk⟩ := F
  obtain ⟨x, h1, hs⟩ := oo_some (o := ldR ls a) hs
  obtain ⟨h1, h3⟩ := ldR_at h1
  have h2 := X.2.2.2.1.2.2 a _ h1
  rcases h3 with ⟨k, rfl⟩ | rfl <;> rcases len12 sd with ⟨rfl, h4⟩ | rfl
  · exact lv_aload_n hx hb hd (fin4 h4) h2 (K _ _ _ _ _ _ _ _ _ hs X)
  · exact lv_aload hx hb hd h2 (K _ _ _ _ _ _ _ _ _ hs X)
  · exact lv_aload_n hx hb hd (fin4 h4) h2 (K _ _ _ _ _ _ _ _ _ hs X)
  · exact lv_aload hx hb hd h2 (K _ _ _ _ _ _ _ _ _ hs X)
theorem tg_1 (F : pFx p R s m args meth c M base C0 D cI cQ H0) (K : pKK p l e R s m args below meth c Q M base b0 D cI cQ H0 C0 Z0 r go) (hs : stp sc none (fun v h => some (v, h)) go cl (pc, len, 1, a, b, v, li) ls st h = some r) (X : pMt base b0 D cI cQ H0 (mL M) C0 Z0 ls h LS H locs cells slots) (hd : decode M.2.1 pc = .ok (exI (pc, len, 1, a, b, v, li), len)) (sd : sdB Ms M (pc, len, 1, a, b, v, li) = true) : W p l e R s m args below meth c H locs cells slots Q (F0 m pc LS (st.map (pv base b0))) := by
  obtain ⟨hx, hb, hml, hown, hts, hnw, hnm, hfr, hlo, hK, hbs, hrt, hsz, hlk⟩ := F
  obtain ⟨x, h1, hs⟩ := oo_some (o := ldI ls a) hs
  have h2 := X.2.2.2.1.2.2 a _ (ldI_at h1)
  rcases len12 sd with ⟨rfl, h4⟩ | rfl
  · exact lv_iload_n hx hb hd (fin4 h4) h2 (K _ _ _ _ _ _ _ _ _ hs X)
  · exact lv_iload hx hb hd h2 (K _ _ _ _ _ _ _ _ _ hs X)
theorem tg_27 (F : pFx p R s m args meth c M base C0 D cI cQ H0) (K : pKK p l e R s m args below meth c Q M base b0 D cI cQ H0 C0 Z0 r go) (hs : stp sc none (fun v h => some (v, h)) go cl (pc, len, 27, a, b, v, li) ls st h = some r) (X : pMt base b0 D cI cQ H0 (mL M) C0 Z0 ls h LS H locs cells slots) (hd : decode M.2.1 pc = .ok (exI (pc, len, 27, a, b, v, li), len)) (sd : sdB Ms M (pc, len, 27, a, b, v, li) = true) : W p l e R s m args below meth c H locs cells slots Q (F0 m pc LS (st.map (pv base b0))) := by
  obtain ⟨hx, hb, hml, hown, hts, hnw, hnm, hfr, hlo, hK, hbs, hrt, hsz, hlk⟩ := F
  obtain ⟨x, h1, hs⟩ := oo_some (o := ldD ls a) hs
  have h2 := X.2.2.2.1.2.2 a _ (ldD_at h1)
  rcases len12 sd with ⟨rfl, h4⟩ | rfl
  · exact lv_dload_n hx hb hd (fin4 h4) h2 (K _ _ _ _ _ _ _ _ _ hs X)
  · exact lv_dload hx hb hd h2 (K _ _ _ _ _ _ _ _ _ hs X)
theorem tg_4 (F : pFx p R s m args meth c M base C0 D cI cQ H0) (K : pKK p l e R s m args below meth c Q M base b0 D cI cQ H0 C0 Z0 r go) (hs : stp sc none (fun v h => some (v, h)) go cl (pc, len, 4, a, b, v, li) ls st h = some r) (X : pMt base b0 D cI cQ H0 (mL M) C0 Z0 ls h LS H locs cells slots) (hd : decode M.2.1 pc = .ok (exI (pc, len, 4, a, b, v, li), len)) (sd : sdB Ms M (pc, len, 4, a, b, v, li) = true) : W p l e R s m args below meth c H locs cells slots Q (F0 m pc LS (st.map (pv base b0))) := by
  obtain ⟨hx, hb, hml, hown, hts, hnw, hnm, hfr, hlo, hK, hbs, hrt, hsz, hlk⟩ := F
  match b, hd, sd, hs with
  | 0, hd, sd, hs =>
    have h1 : len = 1 := by simpa [sdB] using sd
    subst h1
    exact lv_iconst hx hb hd (i32_of_toInt v) (K _ _ _ _ _ _ _ _ _ hs X)
  | 1, hd, sd, hs =>
    have h1 : len = 2 ∧ (Int8.ofInt v.toInt).toInt32 = v := by simpa only [sdB, Bool.and_eq_true, decide_eq_true_eq] using sd
    obtain ⟨rfl, h1⟩ := h1
    exact lv_bipush hx hb hd h1 (K _ _ _ _ _ _ _ _ _ hs X)
  | 2, hd, sd, hs =>
    have h1 : len = 3 ∧ (Int16.ofInt v.toInt).toInt32 = v := by simpa only [sdB, Bool.and_eq_true, decide_eq_true_eq] using sd
    obtain ⟨rfl, h1⟩ := h1
    exact lv_sipush hx hb hd h1 (K _ _ _ _ _ _ _ _ _ hs X)
  | 3, hd, sd, hs =>
    have h1 : len = 2 ∧ wAt (li.getD 3 0) (.constant M.1.cls a v) = true := by simpa only [sdB, Bool.and_eq_true, decide_eq_true_eq] using sd
    obtain ⟨rfl, h1⟩ := h1
    exact lv_ldc hx hb hown (hts _ (wAt_in h1)) hd (K _ _ _ _ _ _ _ _ _ hs X)
  | b + 4, hd, sd, hs =>
    have h1 : len = 3 ∧ wAt (li.getD 3 0) (.constant M.1.cls a v) = true := by simpa only [sdB, Bool.and_eq_true, decide_eq_true_eq] using sd
    obtain ⟨rfl, h1⟩ := h1
    exact lv_ldcw hx hb hown (hts _ (wAt_in h1)) hd (K _ _ _ _ _ _ _ _ _ hs X)
theorem tg_5 (F : pFx p R s m args meth c M base C0 D cI cQ H0) (K : pKK p l e R s m args below meth c Q M base b0 D cI cQ H0 C0 Z0 r go) (hs : stp sc none (fun v h => some (v, h)) go cl (pc, len, 5, a, b, v, li) ls st h = some r) (X : pMt base b0 D cI cQ H0 (mL M) C0 Z0 ls h LS H locs cells slots) (hd : decode M.2.1 pc = .ok (exI (pc, len, 5, a, b, v, li), len)) (sd : sdB Ms M (pc, len, 5, a, b, v, li) = true) : W p l e R s m args below meth c H locs cells slots Q (F0 m pc LS (st.map (pv base b0))) := by
  obtain ⟨hx, hb, hml, hown, hts, hnw, hnm, hfr, hlo, hK, hbs, hrt, hsz, hlk⟩ := F
  have h1 : len = 3 := by simpa [sdB] using sd
  subst h1
  exact lv_goto hx hb hd (by omega) (K _ _ _ _ _ _ _ _ _ hs X)
theorem tg_10 (F : pFx p R s m args meth c M base C0 D cI cQ H0) (K : pKK p l e R s m args below meth c Q M base b0 D cI cQ H0 C0 Z0 r go) (hs : stp sc none (fun v h => some (v, h)) go cl (pc, len, 10, a, b, v, li) ls st h = some r) (X : pMt base b0 D cI cQ H0 (mL M) C0 Z0 ls h LS H locs cells slots) (hd : decode M.2.1 pc = .ok (exI (pc, len, 10, a, b, v, li), len)) (sd : sdB Ms M (pc, len, 10, a, b, v, li) = true) : W p l e R s m args below meth c H locs cells slots Q (F0 m pc LS (st.map (pv base b0))) := by
  obtain ⟨hx, hb, hml, hown, hts, hnw, hnm, hfr, hlo, hK, hbs, hrt, hsz, hlk⟩ := F
  have hs : (match (generalizing := false) st with
        | .int x :: r => bif okS ls a then go (pc + len) (stl ls a (some (.int x))) r h else none
        | _ => none : pR) = some r := hs
  split at hs
  · rename_i x y z
    rw [cond_eq_ite] at hs
    split at hs
    · rename_i ho
      have h1 : ((decide (len = 1) && decide (a < 4)) || decide (len = 2)) = true ∧ a < mL M := by simpa only [sdB, Bool.and_eq_true, decide_eq_true_eq] using sd
      obtain ⟨h1, h5⟩ := h1
      rcases len12 h1 with ⟨rfl, h4⟩ | rfl
      · exact lv_istore_n (lv := asc base b0 ls) hx hb hd (fin4 h4) (lr_has X.2.2.2.1) h5 rfl (fun ls' hl => K _ _ _ _ _ _ _ _ _ hs ⟨X.1, X.2.1, X.2.2.1, lr_stl1 (v := .int x) ho hl, X.2.2.2.2⟩)
      · exact lv_istore (lv := asc base b0 ls) hx hb hd (lr_has X.2.2.2.1) h5 rfl (fun ls' hl => K _ _ _ _ _ _ _ _ _ hs ⟨X.1, X.2.1, X.2.2.1, lr_stl1 (v := .int x) ho hl, X.2.2.2.2⟩)
    · cases hs
  · cases hs
theorem tg_23 (F : pFx p R s m args meth c M base C0 D cI cQ H0) (K : pKK p l e R s m args below meth c Q M base b0 D cI cQ H0 C0 Z0 r go) (hs : stp sc none (fun v h => some (v, h)) go cl (pc, len, 23, a, b, v, li) ls st h = some r) (X : pMt base b0 D cI cQ H0 (mL M) C0 Z0 ls h LS H locs cells slots) (hd : decode M.2.1 pc = .ok (exI (pc, len, 23, a, b, v, li), len)) (sd : sdB Ms M (pc, len, 23, a, b, v, li) = true) : W p l e R s m args below meth c H locs cells slots Q (F0 m pc LS (st.map (pv base b0))) := by
  obtain ⟨hx, hb, hml, hown, hts, hnw, hnm, hfr, hlo, hK, hbs, hrt, hsz, hlk⟩ := F
  have hs : (match (generalizing := false) st with
        | .ref x :: r => bif okS ls a then go (pc + len) (stl ls a (some (.ref x))) r h else none
        | _ => none : pR) = some r := hs
  split at hs
  · rename_i x y z
    rw [cond_eq_ite] at hs
    split at hs
    · rename_i ho
      have h1 : ((decide (len = 1) && decide (a < 4)) || decide (len = 2)) = true ∧ a < mL M := by simpa only [sdB, Bool.and_eq_true, decide_eq_true_eq] using sd
      obtain ⟨h1, h5⟩ := h1
      rcases len12 h1 with ⟨rfl, h4⟩ | rfl
      · exact lv_astore_n (lv := asc base b0 ls) hx hb hd (fin4 h4) (lr_has X.2.2.2.1) h5 rfl (fun ls' hl => K _ _ _ _ _ _ _ _ _ hs ⟨X.1, X.2.1, X.2.2.1, lr_stl1 (v := .ref x) ho hl, X.2.2.2.2⟩)
      · exact lv_astore (lv := asc base b0 ls) hx hb hd (lr_has X.2.2.2.1) h5 rfl (fun ls' hl => K _ _ _ _ _ _ _ _ _ hs ⟨X.1, X.2.1, X.2.2.1, lr_stl1 (v := .ref x) ho hl, X.2.2.2.2⟩)
    · cases hs
  · cases hs
theorem tg_35 (F : pFx p R s m args meth c M base C0 D cI cQ H0) (K : pKK p l e R s m args below meth c Q M base b0 D cI cQ H0 C0 Z0 r go) (hs : stp sc none (fun v h => some (v, h)) go cl (pc, len, 35, a, b, v, li) ls st h = some r) (X : pMt base b0 D cI cQ H0 (mL M) C0 Z0 ls h LS H locs cells slots) (hd : decode M.2.1 pc = .ok (exI (pc, len, 35, a, b, v, li), len)) (sd : sdB Ms M (pc, len, 35, a, b, v, li) = true) : W p l e R s m args below meth c H locs cells slots Q (F0 m pc LS (st.map (pv base b0))) := by
  obtain ⟨hx, hb, hml, hown, hts, hnw, hnm, hfr, hlo, hK, hbs, hrt, hsz, hlk⟩ := F
  have hs : (match (generalizing := false) st with
        | .double x :: r => bif okS ls a then go (pc + len) (stl (stl ls a (some (.double x))) (a + 1) none) r h else none
        | _ => none : pR) = some r := hs
  split at hs
  · rename_i x y z
    rw [cond_eq_ite] at hs
    split at hs
    · rename_i ho
      have h1 : ((decide (len = 1) && decide (a < 4)) || decide (len = 2)) = true ∧ a + 1 < mL M := by simpa only [sdB, Bool.and_eq_true, decide_eq_true_eq] using sd
      obtain ⟨h1, h5⟩ := h1
      rcases len12 h1 with ⟨rfl, h4⟩ | rfl
      · exact lv_dstore_n (lv := asc base b0 ls) hx hb hd (fin4 h4) (lr_has X.2.2.2.1) h5 rfl (fun ls' hl => K _ _ _ _ _ _ _ _ _ hs ⟨X.1, X.2.1, X.2.2.1, lr_stl2 (v := .double x) ho hl, X.2.2.2.2⟩)
      · exact lv_dstore (lv := asc base b0 ls) hx hb hd (lr_has X.2.2.2.1) h5 rfl (fun ls' hl => K _ _ _ _ _ _ _ _ _ hs ⟨X.1, X.2.1, X.2.2.1, lr_stl2 (v := .double x) ho hl, X.2.2.2.2⟩)
    · cases hs
  · cases hs
theorem tg_15 (F : pFx p R s m args meth c M base C0 D cI cQ H0) (K : pKK p l e R s m args below meth c Q M base b0 D cI cQ H0 C0 Z0 r go) (hs : stp sc none (fun v h => some (v, h)) go cl (pc, len, 15, a, b, v, li) ls st h = some r) (X : pMt base b0 D cI cQ H0 (mL M) C0 Z0 ls h LS H locs cells slots) (hd : decode M.2.1 pc = .ok (exI (pc, len, 15, a, b, v, li), len)) (sd : sdB Ms M (pc, len, 15, a, b, v, li) = true) : W p l e R s m args below meth c H locs cells slots Q (F0 m pc LS (st.map (pv base b0))) := by
  obtain ⟨hx, hb, hml, hown, hts, hnw, hnm, hfr, hlo, hK, hbs, hrt, hsz, hlk⟩ := F
  obtain ⟨x, h1, hs⟩ := oo_some (o := ldI ls a) hs
  rw [cond_eq_ite] at hs
  split at hs
  · rename_i ho
    have h5 : len = 3 ∧ a < mL M := by simpa only [sdB, Bool.and_eq_true, decide_eq_true_eq] using sd
    obtain ⟨rfl, h5⟩ := h5
    have h6 : (a, Value.int x) ∈ asc base b0 ls := asc_mem.mpr ⟨.int x, ldI_at h1, rfl⟩
    obtain ⟨q, h7⟩ := List.getElem?_of_mem h6
    exact lv_iinc (lv := asc base b0 ls) (v := x + v) hx hb hd (lr_has X.2.2.2.1) h7 (by rw [i32_of_toInt]) h5 rfl (fun ls' hl => K _ _ _ _ _ _ _ _ _ hs ⟨X.1, X.2.1, X.2.2.1, lr_stl1 (v := .int (x + v)) ho hl, X.2.2.2.2⟩)
  · cases hs
theorem tg_11 (F : pFx p R s m args meth c M base C0 D cI cQ H0) (K : pKK p l e R s m args below meth c Q M base b0 D cI cQ H0 C0 Z0 r go) (hs : stp sc none (fun v h => some (v, h)) go cl (pc, len, 11, a, b, v, li) ls st h = some r) (X : pMt base b0 D cI cQ H0 (mL M) C0 Z0 ls h LS H locs cells slots) (hd : decode M.2.1 pc = .ok (exI (pc, len, 11, a, b, v, li), len)) (sd : sdB Ms M (pc, len, 11, a, b, v, li) = true) : W p l e R s m args below meth c H locs cells slots Q (F0 m pc LS (st.map (pv base b0))) := by
  obtain ⟨hx, hb, hml, hown, hts, hnw, hnm, hfr, hlo, hK, hbs, hrt, hsz, hlk⟩ := F
  have hs : (match (generalizing := false) st with
        | .int y :: .int x :: r => go (pc + len) ls (.int (bop b x y) :: r) h
        | _ => none : pR) = some r := hs
  have h1 : len = 1 := by simpa [sdB] using sd
  subst h1
  split at hs
  · match b, hd, hs with
    | 0, hd, hs => exact lv_iadd hx hb hd (K _ _ _ _ _ _ _ _ _ hs X)
    | 1, hd, hs => exact lv_isub hx hb hd (K _ _ _ _ _ _ _ _ _ hs X)
    | 2, hd, hs => exact lv_imul hx hb hd (K _ _ _ _ _ _ _ _ _ hs X)
    | 3, hd, hs => exact lv_iand hx hb hd (K _ _ _ _ _ _ _ _ _ hs X)
    | 4, hd, hs => exact lv_ior hx hb hd (K _ _ _ _ _ _ _ _ _ hs X)
    | 5, hd, hs => exact lv_ixor hx hb hd (K _ _ _ _ _ _ _ _ _ hs X)
    | 6, hd, hs => exact lv_ishl hx hb hd (K _ _ _ _ _ _ _ _ _ hs X)
    | 7, hd, hs => exact lv_ishr hx hb hd (K _ _ _ _ _ _ _ _ _ hs X)
    | b + 8, hd, hs => exact lv_iushr hx hb hd rfl (K _ _ _ _ _ _ _ _ _ hs X)
  · cases hs
theorem tg_43 (F : pFx p R s m args meth c M base C0 D cI cQ H0) (K : pKK p l e R s m args below meth c Q M base b0 D cI cQ H0 C0 Z0 r go) (hs : stp sc none (fun v h => some (v, h)) go cl (pc, len, 43, a, b, v, li) ls st h = some r) (X : pMt base b0 D cI cQ H0 (mL M) C0 Z0 ls h LS H locs cells slots) (hd : decode M.2.1 pc = .ok (exI (pc, len, 43, a, b, v, li), len)) (sd : sdB Ms M (pc, len, 43, a, b, v, li) = true) : W p l e R s m args below meth c H locs cells slots Q (F0 m pc LS (st.map (pv base b0))) := by
  obtain ⟨hx, hb, hml, hown, hts, hnw, hnm, hfr, hlo, hK, hbs, hrt, hsz, hlk⟩ := F
  have hs : (match (generalizing := false) st with
        | .int y :: .int x :: r => if y = 0 then none else go (pc + len) ls (.int (x / y) :: r) h
        | _ => none : pR) = some r := hs
  have h1 : len = 1 := by simpa [sdB] using sd
  subst h1
  split at hs
  · split at hs
    · cases hs
    · rename_i hne
      exact lv_idiv hx hb hd hne (K _ _ _ _ _ _ _ _ _ hs X)
  · cases hs
theorem tg_44 (F : pFx p R s m args meth c M base C0 D cI cQ H0) (K : pKK p l e R s m args below meth c Q M base b0 D cI cQ H0 C0 Z0 r go) (hs : stp sc none (fun v h => some (v, h)) go cl (pc, len, 44, a, b, v, li) ls st h = some r) (X : pMt base b0 D cI cQ H0 (mL M) C0 Z0 ls h LS H locs cells slots) (hd : decode M.2.1 pc = .ok (exI (pc, len, 44, a, b, v, li), len)) (sd : sdB Ms M (pc, len, 44, a, b, v, li) = true) : W p l e R s m args below meth c H locs cells slots Q (F0 m pc LS (st.map (pv base b0))) := by
  obtain ⟨hx, hb, hml, hown, hts, hnw, hnm, hfr, hlo, hK, hbs, hrt, hsz, hlk⟩ := F
  have hs : (match (generalizing := false) st with
        | .int y :: .int x :: r => if y = 0 then none else go (pc + len) ls (.int (x - x / y * y) :: r) h
        | _ => none : pR) = some r := hs
  have h1 : len = 1 := by simpa [sdB] using sd
  subst h1
  split at hs
  · split at hs
    · cases hs
    · rename_i hne
      exact lv_irem hx hb hd hne (K _ _ _ _ _ _ _ _ _ hs X)
  · cases hs
theorem tg_13 (F : pFx p R s m args meth c M base C0 D cI cQ H0) (K : pKK p l e R s m args below meth c Q M base b0 D cI cQ H0 C0 Z0 r go) (hs : stp sc none (fun v h => some (v, h)) go cl (pc, len, 13, a, b, v, li) ls st h = some r) (X : pMt base b0 D cI cQ H0 (mL M) C0 Z0 ls h LS H locs cells slots) (hd : decode M.2.1 pc = .ok (exI (pc, len, 13, a, b, v, li), len)) (sd : sdB Ms M (pc, len, 13, a, b, v, li) = true) : W p l e R s m args below meth c H locs cells slots Q (F0 m pc LS (st.map (pv base b0))) := by
  obtain ⟨hx, hb, hml, hown, hts, hnw, hnm, hfr, hlo, hK, hbs, hrt, hsz, hlk⟩ := F
  have hs : (match (generalizing := false) st with
        | .int y :: .int x :: r => match (generalizing := false) b with
          | 0 => if x = y then go a ls r h else go (pc + len) ls r h
          | 1 => if x = y then go (pc + len) ls r h else go a ls r h
          | 2 => if x < y then go a ls r h else go (pc + len) ls r h
          | 3 => if y ≤ x then go a ls r h else go (pc + len) ls r h
          | 4 => if y < x then go a ls r h else go (pc + len) ls r h
          | _ => if x ≤ y then go a ls r h else go (pc + len) ls r h
        | _ => none : pR) = some r := hs
  have h1 : len = 3 := by simpa [sdB] using sd
  subst h1
  split at hs
  · match b, hd, hs with
    | 0, hd, hs =>
      refine lv_icmp_eq (tgt := a) hx hb hd (by omega) (fun hc => ?_) (fun hc => ?_)
      · exact K _ _ _ _ _ _ _ _ _ ((if_pos hc).symm.trans hs) X
      · exact K _ _ _ _ _ _ _ _ _ ((if_neg hc).symm.trans hs) X
    | 1, hd, hs =>
      refine lv_icmp_ne (tgt := a) hx hb hd (by omega) (fun hc => ?_) (fun hc => ?_)
      · exact K _ _ _ _ _ _ _ _ _ ((if_neg hc).symm.trans hs) X
      · exact K _ _ _ _ _ _ _ _ _ ((if_pos hc).symm.trans hs) X
    | 2, hd, hs =>
      refine lv_icmp_lt (tgt := a) hx hb hd (by omega) (fun hc => ?_) (fun hc => ?_)
      · exact K _ _ _ _ _ _ _ _ _ ((if_pos hc).symm.trans hs) X
      · exact K _ _ _ _ _ _ _ _ _ ((if_neg hc).symm.trans hs) X
    | 3, hd, hs =>
      refine lv_icmp_ge (tgt := a) hx hb hd (by omega) (fun hc => ?_) (fun hc => ?_)
      · exact K _ _ _ _ _ _ _ _ _ ((if_pos hc).symm.trans hs) X
      · exact K _ _ _ _ _ _ _ _ _ ((if_neg hc).symm.trans hs) X
    | 4, hd, hs =>
      refine lv_icmp_gt (tgt := a) hx hb hd (by omega) (fun hc => ?_) (fun hc => ?_)
      · exact K _ _ _ _ _ _ _ _ _ ((if_pos hc).symm.trans hs) X
      · exact K _ _ _ _ _ _ _ _ _ ((if_neg hc).symm.trans hs) X
    | b + 5, hd, hs =>
      refine lv_icmp_le (tgt := a) hx hb hd (by omega) (fun hc => ?_) (fun hc => ?_)
      · exact K _ _ _ _ _ _ _ _ _ ((if_pos hc).symm.trans hs) X
      · exact K _ _ _ _ _ _ _ _ _ ((if_neg hc).symm.trans hs) X
  · cases hs
theorem tg_14 (F : pFx p R s m args meth c M base C0 D cI cQ H0) (K : pKK p l e R s m args below meth c Q M base b0 D cI cQ H0 C0 Z0 r go) (hs : stp sc none (fun v h => some (v, h)) go cl (pc, len, 14, a, b, v, li) ls st h = some r) (X : pMt base b0 D cI cQ H0 (mL M) C0 Z0 ls h LS H locs cells slots) (hd : decode M.2.1 pc = .ok (exI (pc, len, 14, a, b, v, li), len)) (sd : sdB Ms M (pc, len, 14, a, b, v, li) = true) : W p l e R s m args below meth c H locs cells slots Q (F0 m pc LS (st.map (pv base b0))) := by
  obtain ⟨hx, hb, hml, hown, hts, hnw, hnm, hfr, hlo, hK, hbs, hrt, hsz, hlk⟩ := F
  have hs : (match (generalizing := false) st with
        | .int x :: r => match (generalizing := false) b with
          | 0 => if x = 0 then go a ls r h else go (pc + len) ls r h
          | 1 => if x = 0 then go (pc + len) ls r h else go a ls r h
          | 2 => if x < 0 then go a ls r h else go (pc + len) ls r h
          | 3 => if 0 ≤ x then go a ls r h else go (pc + len) ls r h
          | 4 => if 0 < x then go a ls r h else go (pc + len) ls r h
          | _ => if x ≤ 0 then go a ls r h else go (pc + len) ls r h
        | _ => none : pR) = some r := hs
  have h1 : len = 3 := by simpa [sdB] using sd
  subst h1
  split at hs
  · match b, hd, hs with
    | 0, hd, hs =>
      refine lv_if_eq (tgt := a) hx hb hd (by omega) (fun hc => ?_) (fun hc => ?_)
      · exact K _ _ _ _ _ _ _ _ _ ((if_pos hc).symm.trans hs) X
      · exact K _ _ _ _ _ _ _ _ _ ((if_neg hc).symm.trans hs) X
    | 1, hd, hs =>
      refine lv_if_ne (tgt := a) hx hb hd (by omega) (fun hc => ?_) (fun hc => ?_)
      · exact K _ _ _ _ _ _ _ _ _ ((if_neg hc).symm.trans hs) X
      · exact K _ _ _ _ _ _ _ _ _ ((if_pos hc).symm.trans hs) X
    | 2, hd, hs =>
      refine lv_if_lt (tgt := a) hx hb hd (by omega) (fun hc => ?_) (fun hc => ?_)
      · exact K _ _ _ _ _ _ _ _ _ ((if_pos hc).symm.trans hs) X
      · exact K _ _ _ _ _ _ _ _ _ ((if_neg hc).symm.trans hs) X
    | 3, hd, hs =>
      refine lv_if_ge (tgt := a) hx hb hd (by omega) (fun hc => ?_) (fun hc => ?_)
      · exact K _ _ _ _ _ _ _ _ _ ((if_pos hc).symm.trans hs) X
      · exact K _ _ _ _ _ _ _ _ _ ((if_neg hc).symm.trans hs) X
    | 4, hd, hs =>
      refine lv_if_gt (tgt := a) hx hb hd (by omega) (fun hc => ?_) (fun hc => ?_)
      · exact K _ _ _ _ _ _ _ _ _ ((if_pos hc).symm.trans hs) X
      · exact K _ _ _ _ _ _ _ _ _ ((if_neg hc).symm.trans hs) X
    | b + 5, hd, hs =>
      refine lv_if_le (tgt := a) hx hb hd (by omega) (fun hc => ?_) (fun hc => ?_)
      · exact K _ _ _ _ _ _ _ _ _ ((if_pos hc).symm.trans hs) X
      · exact K _ _ _ _ _ _ _ _ _ ((if_neg hc).symm.trans hs) X
  · cases hs
theorem tg_29 (F : pFx p R s m args meth c M base C0 D cI cQ H0) (K : pKK p l e R s m args below meth c Q M base b0 D cI cQ H0 C0 Z0 r go) (hs : stp sc none (fun v h => some (v, h)) go cl (pc, len, 29, a, b, v, li) ls st h = some r) (X : pMt base b0 D cI cQ H0 (mL M) C0 Z0 ls h LS H locs cells slots) (hd : decode M.2.1 pc = .ok (exI (pc, len, 29, a, b, v, li), len)) (sd : sdB Ms M (pc, len, 29, a, b, v, li) = true) : W p l e R s m args below meth c H locs cells slots Q (F0 m pc LS (st.map (pv base b0))) := by
  obtain ⟨hx, hb, hml, hown, hts, hnw, hnm, hfr, hlo, hK, hbs, hrt, hsz, hlk⟩ := F
  have hs : (match (generalizing := false) st with
        | .int x :: r => go (pc + len) ls (.double (FP.i2d x) :: r) h
        | _ => none : pR) = some r := hs
  have h1 : len = 1 := by simpa [sdB] using sd
  subst h1
  split at hs
  · exact lv_i2d hx hb hd (K _ _ _ _ _ _ _ _ _ hs X)
  · cases hs
theorem tg_32 (F : pFx p R s m args meth c M base C0 D cI cQ H0) (K : pKK p l e R s m args below meth c Q M base b0 D cI cQ H0 C0 Z0 r go) (hs : stp sc none (fun v h => some (v, h)) go cl (pc, len, 32, a, b, v, li) ls st h = some r) (X : pMt base b0 D cI cQ H0 (mL M) C0 Z0 ls h LS H locs cells slots) (hd : decode M.2.1 pc = .ok (exI (pc, len, 32, a, b, v, li), len)) (sd : sdB Ms M (pc, len, 32, a, b, v, li) = true) : W p l e R s m args below meth c H locs cells slots Q (F0 m pc LS (st.map (pv base b0))) := by
  obtain ⟨hx, hb, hml, hown, hts, hnw, hnm, hfr, hlo, hK, hbs, hrt, hsz, hlk⟩ := F
  have hs : (match (generalizing := false) st with
        | .double y :: .double x :: r => go (pc + len) ls (.int (Op.cmpValue (FP.dcmp x y) .l) :: r) h
        | _ => none : pR) = some r := hs
  have h1 : len = 1 := by simpa [sdB] using sd
  subst h1
  split at hs
  · exact lv_dcmp hx hb hd (K _ _ _ _ _ _ _ _ _ hs X)
  · cases hs
theorem tg_37 (F : pFx p R s m args meth c M base C0 D cI cQ H0) (K : pKK p l e R s m args below meth c Q M base b0 D cI cQ H0 C0 Z0 r go) (hs : stp sc none (fun v h => some (v, h)) go cl (pc, len, 37, a, b, v, li) ls st h = some r) (X : pMt base b0 D cI cQ H0 (mL M) C0 Z0 ls h LS H locs cells slots) (hd : decode M.2.1 pc = .ok (exI (pc, len, 37, a, b, v, li), len)) (sd : sdB Ms M (pc, len, 37, a, b, v, li) = true) : W p l e R s m args below meth c H locs cells slots Q (F0 m pc LS (st.map (pv base b0))) := by
  obtain ⟨hx, hb, hml, hown, hts, hnw, hnm, hfr, hlo, hK, hbs, hrt, hsz, hlk⟩ := F
  have hs : (match (generalizing := false) st with
        | .double y :: .double x :: r => if FP.ddiv x y &&& 0x7fffffffffffffff ≤ 0x7ff0000000000000 then go (pc + len) ls (.double (FP.ddiv x y) :: r) h else none
        | _ => none : pR) = some r := hs
  have h1 : len = 1 := by simpa [sdB] using sd
  subst h1
  split at hs
  · split at hs
    · rename_i hne
      exact lv_ddiv hx hb hd hne (K _ _ _ _ _ _ _ _ _ hs X)
    · cases hs
  · cases hs
theorem tg_40 (F : pFx p R s m args meth c M base C0 D cI cQ H0) (K : pKK p l e R s m args below meth c Q M base b0 D cI cQ H0 C0 Z0 r go) (hs : stp sc none (fun v h => some (v, h)) go cl (pc, len, 40, a, b, v, li) ls st h = some r) (X : pMt base b0 D cI cQ H0 (mL M) C0 Z0 ls h LS H locs cells slots) (hd : decode M.2.1 pc = .ok (exI (pc, len, 40, a, b, v, li), len)) (sd : sdB Ms M (pc, len, 40, a, b, v, li) = true) : W p l e R s m args below meth c H locs cells slots Q (F0 m pc LS (st.map (pv base b0))) := by
  obtain ⟨hx, hb, hml, hown, hts, hnw, hnm, hfr, hlo, hK, hbs, hrt, hsz, hlk⟩ := F
  have hs : (match (generalizing := false) st with
        | .double y :: .double x :: r => if FP.dmul x y &&& 0x7fffffffffffffff ≤ 0x7ff0000000000000 then go (pc + len) ls (.double (FP.dmul x y) :: r) h else none
        | _ => none : pR) = some r := hs
  have h1 : len = 1 := by simpa [sdB] using sd
  subst h1
  split at hs
  · split at hs
    · rename_i hne
      exact lv_dmul hx hb hd hne (K _ _ _ _ _ _ _ _ _ hs X)
    · cases hs
  · cases hs
theorem tg_38 (F : pFx p R s m args meth c M base C0 D cI cQ H0) (K : pKK p l e R s m args below meth c Q M base b0 D cI cQ H0 C0 Z0 r go) (hs : stp sc none (fun v h => some (v, h)) go cl (pc, len, 38, a, b, v, li) ls st h = some r) (X : pMt base b0 D cI cQ H0 (mL M) C0 Z0 ls h LS H locs cells slots) (hd : decode M.2.1 pc = .ok (exI (pc, len, 38, a, b, v, li), len)) (sd : sdB Ms M (pc, len, 38, a, b, v, li) = true) : W p l e R s m args below meth c H locs cells slots Q (F0 m pc LS (st.map (pv base b0))) := by
  obtain ⟨hx, hb, hml, hown, hts, hnw, hnm, hfr, hlo, hK, hbs, hrt, hsz, hlk⟩ := F
  have h1 : len = 1 := by simpa [sdB] using sd
  subst h1
  match b, hd, hs with
  | 0, hd, hs => exact lv_dconst0 hx hb hd (K _ _ _ _ _ _ _ _ _ hs X)
  | b + 1, hd, hs => exact lv_dconst1 hx hb hd (K _ _ _ _ _ _ _ _ _ hs X)
theorem tg_34 (F : pFx p R s m args meth c M base C0 D cI cQ H0) (K : pKK p l e R s m args below meth c Q M base b0 D cI cQ H0 C0 Z0 r go) (hs : stp sc none (fun v h => some (v, h)) go cl (pc, len, 34, a, b, v, li) ls st h = some r) (X : pMt base b0 D cI cQ H0 (mL M) C0 Z0 ls h LS H locs cells slots) (hd : decode M.2.1 pc = .ok (exI (pc, len, 34, a, b, v, li), len)) (sd : sdB Ms M (pc, len, 34, a, b, v, li) = true) : W p l e R s m args below meth c H locs cells slots Q (F0 m pc LS (st.map (pv base b0))) := by
  obtain ⟨hx, hb, hml, hown, hts, hnw, hnm, hfr, hlo, hK, hbs, hrt, hsz, hlk⟩ := F
  have hs : (match (generalizing := false) st with
        | .ref _ :: r => go (pc + len) ls r h
        | _ => none : pR) = some r := hs
  have h1 : len = 3 := by simpa [sdB] using sd
  subst h1
  split at hs
  · exact lv_ifnull hx hb hd (K _ _ _ _ _ _ _ _ _ hs X)
  · cases hs
theorem tg_20 (F : pFx p R s m args meth c M base C0 D cI cQ H0) (K : pKK p l e R s m args below meth c Q M base b0 D cI cQ H0 C0 Z0 r go) (hs : stp sc none (fun v h => some (v, h)) go cl (pc, len, 20, a, b, v, li) ls st h = some r) (X : pMt base b0 D cI cQ H0 (mL M) C0 Z0 ls h LS H locs cells slots) (hd : decode M.2.1 pc = .ok (exI (pc, len, 20, a, b, v, li), len)) (sd : sdB Ms M (pc, len, 20, a, b, v, li) = true) : W p l e R s m args below meth c H locs cells slots Q (F0 m pc LS (st.map (pv base b0))) := by
  obtain ⟨hx, hb, hml, hown, hts, hnw, hnm, hfr, hlo, hK, hbs, hrt, hsz, hlk⟩ := F
  have hs : (match (generalizing := false) st with
        | w :: r => bif Nat.beq w.category 1 then go (pc + len) ls (w :: w :: r) h else none
        | _ => none : pR) = some r := hs
  have h1 : len = 1 := by simpa [sdB] using sd
  subst h1
  split at hs
  · rw [cond_eq_ite] at hs
    split at hs
    · rename_i hc
      exact lv_dup hx hb hd (by rw [pv_cat]; exact Nat.eq_of_beq_eq_true hc) (K _ _ _ _ _ _ _ _ _ hs X)
    · cases hs
  · cases hs
theorem tg_39 (F : pFx p R s m args meth c M base C0 D cI cQ H0) (K : pKK p l e R s m args below meth c Q M base b0 D cI cQ H0 C0 Z0 r go) (hs : stp sc none (fun v h => some (v, h)) go cl (pc, len, 39, a, b, v, li) ls st h = some r) (X : pMt base b0 D cI cQ H0 (mL M) C0 Z0 ls h LS H locs cells slots) (hd : decode M.2.1 pc = .ok (exI (pc, len, 39, a, b, v, li), len)) (sd : sdB Ms M (pc, len, 39, a, b, v, li) = true) : W p l e R s m args below meth c H locs cells slots Q (F0 m pc LS (st.map (pv base b0))) := by
  obtain ⟨hx, hb, hml, hown, hts, hnw, hnm, hfr, hlo, hK, hbs, hrt, hsz, hlk⟩ := F
  have hs : (match (generalizing := false) st with
        | w :: r => bif Nat.beq w.category 1 then go (pc + len) ls r h else none
        | _ => none : pR) = some r := hs
  have h1 : len = 1 := by simpa [sdB] using sd
  subst h1
  split at hs
  · rw [cond_eq_ite] at hs
    split at hs
    · rename_i hc
      exact lv_pop hx hb hd (by rw [pv_cat]; exact Nat.eq_of_beq_eq_true hc) (K _ _ _ _ _ _ _ _ _ hs X)
    · cases hs
  · cases hs
theorem tg_31 (F : pFx p R s m args meth c M base C0 D cI cQ H0) (K : pKK p l e R s m args below meth c Q M base b0 D cI cQ H0 C0 Z0 r go) (hs : stp sc none (fun v h => some (v, h)) go cl (pc, len, 31, a, b, v, li) ls st h = some r) (X : pMt base b0 D cI cQ H0 (mL M) C0 Z0 ls h LS H locs cells slots) (hd : decode M.2.1 pc = .ok (exI (pc, len, 31, a, b, v, li), len)) (sd : sdB Ms M (pc, len, 31, a, b, v, li) = true) : W p l e R s m args below meth c H locs cells slots Q (F0 m pc LS (st.map (pv base b0))) := by
  obtain ⟨hx, hb, hml, hown, hts, hnw, hnm, hfr, hlo, hK, hbs, hrt, hsz, hlk⟩ := F
  have hs : (match (generalizing := false) st with
        | w :: u :: r => bif Nat.beq w.category 1 && Nat.beq u.category 1 then go (pc + len) ls (w :: u :: w :: u :: r) h else none
        | _ => none : pR) = some r := hs
  have h1 : len = 1 := by simpa [sdB] using sd
  subst h1
  split at hs
  · rw [cond_eq_ite] at hs
    split at hs
    · rename_i hc
      rw [Bool.and_eq_true] at hc
      exact lv_dup2_11 hx hb hd (by rw [pv_cat]; exact Nat.eq_of_beq_eq_true hc.1) (by rw [pv_cat]; exact Nat.eq_of_beq_eq_true hc.2) (K _ _ _ _ _ _ _ _ _ hs X)
    · cases hs
  · cases hs
end Sound
end
section
section Sound2
variable {p : Program} {l : Launch} {e : Env} {R : Room} {s : State} {m : MethodId} {args : Array Value} {below : List Frame} {meth : Method} {c : Code} {Q : State → Prop}
variable {Ms : List pM} {M : pM} {base b0 : Nat} {D : va_G} {cI cQ : ClassId} {H0 H : Heap} {C0 Z0 : Nat} {r : Option Value × pH} {sc : pX} {go : Nat → pL → List Value → pH → pR} {cl : Nat → List Value → Nat → Nat → pL → List Value → pH → pR}
variable {pc len a b : Nat} {v : Int32} {li : List Nat} {ls : pL} {st : List Value} {h : pH} {LS : Array Slot} {locs : List Loc} {cells slots : Nat}
theorem W_size (hsz : s.heap.size = base + C0) (k : H.size ≤ base + C0 + cells → W p l e R s m args below meth c H locs cells slots Q (F0 m pc LS st)) : W p l e R s m args below meth c H locs cells slots Q (F0 m pc LS st) := by
  intro T hT X
  have h1 : T.heap.size ≤ s.heap.size + cells := X.same.2.2.1
  rw [hT, hsz] at h1
  exact k h1 T hT X
theorem pW_lo (hb : base ≤ H.size) (hP : va_P D vwCl (pW base cI cQ h) H) : base + h.1.length ≤ H.size := by
  by_cases h0 : h.1.length = 0
  · omega
  · have h1 : h.1.length - 1 < h.1.length := by omega
    have h2 := (hP _ _ (pW_at (List.getElem?_eq_getElem h1))).lt
    have h3 : base + (h.1.length - 1) < H.size := h2
    omega
theorem fld_of {M : pM} (hf : fldB M a b li = true) : ∃ q : vw_C, vwCl[a]? = some (q.1, q.2.1, q.2.2) ∧ b < q.2.2 ∧ (q.2.1 b).1 = q.1 ∧ ((Nat.beq (li.getD 1 0) 0 = true ∧ Cond.fieldLink M.1.cls (li.getD 0 0) q.1 (q.2.1 b).2.1 (q.2.1 b).2.2.1 ∈ gW) ∨ (Nat.beq (li.getD 1 0) 0 = false ∧ Cond.fieldLinkNest M.1.cls (li.getD 0 0) q.1 (q.2.1 b).2.1 (q.2.1 b).2.2.1 "ShelfSpines" ∈ pNt)) := by
  unfold fldB at hf
  split at hf
  · rename_i q hq
    simp only [Bool.and_eq_true, decide_eq_true_eq] at hf
    obtain ⟨⟨h1, h2⟩, h3⟩ := hf
    refine ⟨q, hq, h1, h2, ?_⟩
    cases hn : Nat.beq (li.getD 1 0) 0 with
    | true =>
      rw [hn] at h3
      exact Or.inl ⟨rfl, wAt_in h3⟩
    | false =>
      rw [hn] at h3
      simp only [cond_false, decide_eq_true_eq] at h3
      exact Or.inr ⟨rfl, List.mem_filter.mpr ⟨List.mem_of_getElem? h3, rfl⟩⟩
  · cases hf
theorem pF_at {ci j k : Nat} (hj : j < pN ci) : (pF base h ci k)[j]? = some (if fk ci j = 2 then va_rf ((h.2.1 k j).map (base + ·)) else .int (h.2.2 k j)) := by
  simp only [pF, List.getElem?_map, List.getElem?_range hj, Option.map_some]
theorem pF_len {ci k : Nat} : (pF base h ci k).length = pN ci := by simp [pF]
theorem hI_at {ci k j : Nat} {x : Int32} (hh : hI h ci k j = some x) : h.1[k]? = some (.inl ci) ∧ h.2.2 k j = x := by
  unfold hI at hh
  split at hh
  · rename_i h1
    exact ⟨h1, Option.some.inj hh⟩
  · cases hh
theorem hR_at {ci k j : Nat} {x : Nat} (hh : hR h ci k j = some x) : h.1[k]? = some (.inl ci) ∧ h.2.1 k j = some x := by
  unfold hR at hh
  split at hh
  · rename_i h1
    exact ⟨h1, hh⟩
  · cases hh
theorem inb_vp {i : Int32} {n : Nat} (hh : inb i n = true) : vp_in i n := by
  simp only [inb, Bool.and_eq_true, Bool.not_eq_true', decide_eq_false_iff_not, decide_eq_true_eq] at hh
  rintro (h1 | h1)
  · exact hh.1 h1
  · omega
theorem hA_at {k : Nat} {i x : Int32} (hh : hA h k i = some x) : ∃ n, h.1[k]? = some (.inr (.inl n)) ∧ vp_in i n ∧ h.2.2 k i.toNatClampNeg = x := by
  unfold hA at hh
  split at hh
  · rename_i n h1
    split at hh
    · rename_i h2
      exact ⟨n, h1, inb_vp h2, Option.some.inj hh⟩
    · cases hh
  · cases hh
theorem hQ_at {k : Nat} {i : Int32} {x : Nat} (hh : hQ h k i = some x) : ∃ n, h.1[k]? = some (.inr (.inr n)) ∧ vp_in i n ∧ h.2.1 k i.toNatClampNeg = some x := by
  unfold hQ at hh
  split at hh
  · rename_i n h1
    split at hh
    · rename_i h2
      exact ⟨n, h1, inb_vp h2, hh⟩
    · cases hh
  · cases hh
theorem hN_at {k : Nat} {x : Int32} (hh : hN h k = some x) : ∃ n, (h.1[k]? = some (.inr (.inl n)) ∨ h.1[k]? = some (.inr (.inr n))) ∧ Int32.ofNat n = x := by
  unfold hN at hh
  split at hh
  · rename_i n h1
    exact ⟨n, Or.inl h1, Option.some.inj hh⟩
  · rename_i n h1
    exact ⟨n, Or.inr h1, Option.some.inj hh⟩
  · cases hh
theorem bA_at {k : Nat} {i : Int32} (hh : bA h k i = true) : ∃ n, h.1[k]? = some (.inr (.inl n)) ∧ vp_in i n := by
  unfold bA at hh
  split at hh
  · rename_i n h1
    exact ⟨n, h1, inb_vp hh⟩
  · cases hh
theorem bQ_at {k x : Nat} {i : Int32} (hh : bQ h k i x = true) : ∃ n, h.1[k]? = some (.inr (.inr n)) ∧ vp_in i n ∧ h.1[x]? = some (.inl 6) := by
  unfold bQ at hh
  split at hh
  · rename_i n h1
    simp only [Bool.and_eq_true, decide_eq_true_eq] at hh
    exact ⟨n, h1, inb_vp hh.1, hh.2⟩
  · cases hh
theorem kO_at {ci k : Nat} (hh : kO h ci k = true) : h.1[k]? = some (.inl ci) := of_decide_eq_true hh
theorem i32_len3 {x : Prop} (h : x) : x := h
theorem tg_2 (F : pFx p R s m args meth c M base C0 D cI cQ H0) (K : pKK p l e R s m args below meth c Q M base b0 D cI cQ H0 C0 Z0 r go) (hs : stp sc none (fun v h => some (v, h)) go cl (pc, len, 2, a, b, v, li) ls st h = some r) (X : pMt base b0 D cI cQ H0 (mL M) C0 Z0 ls h LS H locs cells slots) (hd : decode M.2.1 pc = .ok (exI (pc, len, 2, a, b, v, li), len)) (sd : sdB Ms M (pc, len, 2, a, b, v, li) = true) : W p l e R s m args below meth c H locs cells slots Q (F0 m pc LS (st.map (pv base b0))) := by
  obtain ⟨hx, hb, hml, hown, hts, hnw, hnm, hfr, hlo, hK, hbs, hrt, hsz, hlk⟩ := F
  have hs : (match (generalizing := false) st with
        | .ref k :: r => oo none (hI h a k b) fun x => go (pc + len) ls (.int x :: r) h
        | _ => none : pR) = some r := hs
  have h1 : (len = 3 ∧ fk a b ≠ 2) ∧ fldB M a b li = true := by simpa only [sdB, Bool.and_eq_true, decide_eq_true_eq] using sd
  obtain ⟨⟨rfl, h2⟩, hf⟩ := h1
  obtain ⟨q, hq, g2, g3, hl⟩ := fld_of hf
  obtain ⟨c1, c2, c3, c4, g5⟩ := cls_ok a _ hq
  split at hs
  · obtain ⟨x, h3, hs⟩ := oo_some hs
    obtain ⟨h3, h4⟩ := hI_at h3
    have hsame : ∀ x, s.fieldFound? (q.2.1 b).1 (q.2.1 b).2.1 (q.2.1 b).2.2.1 = some x → s.fieldFound? q.1 (q.2.1 b).2.1 (q.2.1 b).2.2.1 = some x := fun x h => by rw [g3] at h; exact h
    rcases hl with ⟨-, hl⟩ | ⟨-, hl⟩
    · exact va_get (D := D) (ci := a) (C := q.1) (T := q.2.1) (N := q.2.2) (v := .int x) hx hb hts c1 hown hK X.2.1 _ (pW_at h3) hq b g2 (hts _ hl) hsame (by rw [pF_at (by rw [g5]; exact g2), if_neg h2, h4]) hd (K _ _ _ _ _ _ _ _ _ hs X)
    · exact va_getN (D := D) (ci := a) (C := q.1) (T := q.2.1) (N := q.2.2) (v := .int x) hx hb hts c1 hown hK X.2.1 _ (pW_at h3) hq b g2 (va_Nw.use rfl (hnw _ hl)) hsame (by rw [pF_at (by rw [g5]; exact g2), if_neg h2, h4]) hd (K _ _ _ _ _ _ _ _ _ hs X)
  · cases hs
theorem tg_3 (F : pFx p R s m args meth c M base C0 D cI cQ H0) (K : pKK p l e R s m args below meth c Q M base b0 D cI cQ H0 C0 Z0 r go) (hs : stp sc none (fun v h => some (v, h)) go cl (pc, len, 3, a, b, v, li) ls st h = some r) (X : pMt base b0 D cI cQ H0 (mL M) C0 Z0 ls h LS H locs cells slots) (hd : decode M.2.1 pc = .ok (exI (pc, len, 3, a, b, v, li), len)) (sd : sdB Ms M (pc, len, 3, a, b, v, li) = true) : W p l e R s m args below meth c H locs cells slots Q (F0 m pc LS (st.map (pv base b0))) := by
  obtain ⟨hx, hb, hml, hown, hts, hnw, hnm, hfr, hlo, hK, hbs, hrt, hsz, hlk⟩ := F
  have hs : (match (generalizing := false) st with
        | .ref k :: r => oo none (hR h a k b) fun x => go (pc + len) ls (.ref x :: r) h
        | _ => none : pR) = some r := hs
  have h1 : (len = 3 ∧ fk a b = 2) ∧ fldB M a b li = true := by simpa only [sdB, Bool.and_eq_true, decide_eq_true_eq] using sd
  obtain ⟨⟨rfl, h2⟩, hf⟩ := h1
  obtain ⟨q, hq, g2, g3, hl⟩ := fld_of hf
  obtain ⟨c1, c2, c3, c4, g5⟩ := cls_ok a _ hq
  split at hs
  · obtain ⟨x, h3, hs⟩ := oo_some hs
    obtain ⟨h3, h4⟩ := hR_at h3
    have hsame : ∀ x, s.fieldFound? (q.2.1 b).1 (q.2.1 b).2.1 (q.2.1 b).2.2.1 = some x → s.fieldFound? q.1 (q.2.1 b).2.1 (q.2.1 b).2.2.1 = some x := fun x h => by rw [g3] at h; exact h
    rcases hl with ⟨-, hl⟩ | ⟨-, hl⟩
    · exact va_get (D := D) (ci := a) (C := q.1) (T := q.2.1) (N := q.2.2) (v := .ref (base + x)) hx hb hts c1 hown hK X.2.1 _ (pW_at h3) hq b g2 (hts _ hl) hsame (by rw [pF_at (by rw [g5]; exact g2), if_pos h2, h4]; rfl) hd (K _ _ _ _ _ _ _ _ _ hs X)
    · exact va_getN (D := D) (ci := a) (C := q.1) (T := q.2.1) (N := q.2.2) (v := .ref (base + x)) hx hb hts c1 hown hK X.2.1 _ (pW_at h3) hq b g2 (va_Nw.use rfl (hnw _ hl)) hsame (by rw [pF_at (by rw [g5]; exact g2), if_pos h2, h4]; rfl) hd (K _ _ _ _ _ _ _ _ _ hs X)
  · cases hs
theorem put_16 {x : Int32} {k : Nat} {r' : List Value} (F : pFx p R s m args meth c M base C0 D cI cQ H0) (X : pMt base b0 D cI cQ H0 (mL M) C0 Z0 ls h LS H locs cells slots) (hd : decode M.2.1 pc = .ok (.putfield (li.getD 0 0), 3)) (h2 : fk a b ≠ 2) (hf : fldB M a b li = true) (hfi : finB M a b li = true) (hk : h.1[k]? = some (.inl a)) (hb2 : fk a b = 0 ∨ fk a b = 1 ∧ (x = 0 ∨ x = 1))
    (kk : ∀ (H1 : Heap) (locs1 : List Loc), pMt base b0 D cI cQ H0 (mL M) C0 Z0 ls (sI h k b x) LS H1 locs1 cells slots → W p l e R s m args below meth c H1 locs1 cells slots Q (F0 m (pc + 3) LS r')) : W p l e R s m args below meth c H locs cells slots Q (F0 m pc LS (.int x :: .ref (base + k) :: r')) := by
  obtain ⟨hx, hb, hml, hown, hts, hnw, hnm, hfr, hlo, hK, hbs, hrt, hsz, hlk⟩ := F
  obtain ⟨q, hq, g2, g3, hl⟩ := fld_of hf
  obtain ⟨c1, c2, c3, c4, g5⟩ := cls_ok a _ hq
  have hsame : ∀ x, s.fieldFound? (q.2.1 b).1 (q.2.1 b).2.1 (q.2.1 b).2.2.1 = some x → s.fieldFound? q.1 (q.2.1 b).2.1 (q.2.1 b).2.2.1 = some x := fun x h => by rw [g3] at h; exact h
  have hty : narrow (pTy a b) (.int x) = .int x ∧ fits (pTy a b) (.int x) = true := by
    have h8 := c4 b g2
    rcases hb2 with h9 | ⟨h9, h10⟩
    · rw [h9] at h8
      generalize pTy a b = t at h8
      cases t <;> first | exact ⟨rfl, rfl⟩ | (simp [tyk] at h8)
    · rw [h9] at h8
      generalize pTy a b = t at h8
      rcases h10 with rfl | rfl <;> cases t <;> first | exact ⟨by decide, by decide⟩ | (simp [tyk] at h8)
  have fin : ∀ (H1 : Heap) (locs1 : List Loc), va_P D vwCl ((pW base cI cQ h).set k (base + k, .inr (a, (pF base h a k).set b (.int x)))) H1 → va_D (fun q => base ≤ q) ((pW base cI cQ h).set k (base + k, .inr (a, (pF base h a k).set b (.int x)))) → va_S (fun q => base ≤ q) H0 H1 locs1 → W p l e R s m args below meth c H1 locs1 cells slots Q (F0 m (pc + 3) LS r') := by
    intro H1 locs1 hP1 hD1 hS1
    have hP2 : va_P D vwCl (pW base cI cQ (sI h k b x)) H1 := by rw [pW_sI hk (by rw [g5]; exact g2) h2]; exact hP1
    exact kk H1 locs1 ⟨pW_lo (Nat.le_trans hbs hS1.1) hP2, hP2, hS1, X.2.2.2.1, X.2.2.2.2⟩
  have hlen : b < (pF base h a k).length := by rw [pF_len, g5]; exact g2
  unfold finB at hfi
  rw [hq] at hfi
  simp only [Bool.or_eq_true, Bool.and_eq_true, Bool.not_eq_true', decide_eq_true_eq] at hfi
  rcases hfi with hff | ⟨⟨f1, f2⟩, f3⟩
  · rcases hl with ⟨-, hl⟩ | ⟨-, hl⟩
    · exact va_put (D := D) (ci := a) (C := q.1) (T := q.2.1) (N := q.2.2) (ty := pTy a b) hx hb hts c1 (pTy a) c2 c3 hown hK X.2.1 pW_D X.2.2.1 k (pW_at hk) hq b g2 (hts _ hl) hsame hff (c2 b g2) hty.1 hty.2 hlen hd fin
    · exact va_putN (D := D) (ci := a) (C := q.1) (T := q.2.1) (N := q.2.2) (ty := pTy a b) hx hb hts c1 (pTy a) c2 c3 hown hK X.2.1 pW_D X.2.2.1 k (pW_at hk) hq b g2 (va_Nw.use rfl (hnw _ hl)) hsame hff (c2 b g2) hty.1 hty.2 hlen hd fin
  · rcases hl with ⟨-, hl⟩ | ⟨hl0, hl⟩
    · by_cases hff : (q.2.1 b).2.2.2 = true
      · exact va_putF (D := D) (ci := a) (C := q.1) (T := q.2.1) (N := q.2.2) (ty := pTy a b) hx hb hts c1 (pTy a) c2 c3 hown hK X.2.1 pW_D X.2.2.1 k (pW_at hk) hq b g2 (hts _ hl) hsame hff (hnm.trans f2) f3 (c2 b g2) hty.1 hty.2 hlen hd fin
      · exact va_put (D := D) (ci := a) (C := q.1) (T := q.2.1) (N := q.2.2) (ty := pTy a b) hx hb hts c1 (pTy a) c2 c3 hown hK X.2.1 pW_D X.2.2.1 k (pW_at hk) hq b g2 (hts _ hl) hsame (by simpa using hff) (c2 b g2) hty.1 hty.2 hlen hd fin
    · rw [hl0] at f1
      cases f1
theorem put_17 {x : Nat} {k : Nat} {r' : List Value} (F : pFx p R s m args meth c M base C0 D cI cQ H0) (X : pMt base b0 D cI cQ H0 (mL M) C0 Z0 ls h LS H locs cells slots) (hd : decode M.2.1 pc = .ok (.putfield (li.getD 0 0), 3)) (h2 : fk a b = 2) (hf : fldB M a b li = true) (hfi : finB M a b li = true) (hk : h.1[k]? = some (.inl a)) 
    (kk : ∀ (H1 : Heap) (locs1 : List Loc), pMt base b0 D cI cQ H0 (mL M) C0 Z0 ls (sR h k b x) LS H1 locs1 cells slots → W p l e R s m args below meth c H1 locs1 cells slots Q (F0 m (pc + 3) LS r')) : W p l e R s m args below meth c H locs cells slots Q (F0 m pc LS (.ref (base + x) :: .ref (base + k) :: r')) := by
  obtain ⟨hx, hb, hml, hown, hts, hnw, hnm, hfr, hlo, hK, hbs, hrt, hsz, hlk⟩ := F
  obtain ⟨q, hq, g2, g3, hl⟩ := fld_of hf
  obtain ⟨c1, c2, c3, c4, g5⟩ := cls_ok a _ hq
  have hsame : ∀ x, s.fieldFound? (q.2.1 b).1 (q.2.1 b).2.1 (q.2.1 b).2.2.1 = some x → s.fieldFound? q.1 (q.2.1 b).2.1 (q.2.1 b).2.2.1 = some x := fun x h => by rw [g3] at h; exact h
  have hty : narrow (pTy a b) (.ref (base + x)) = .ref (base + x) ∧ fits (pTy a b) (.ref (base + x)) = true := by
    have h8 := c4 b g2
    rw [h2] at h8
    generalize pTy a b = t at h8
    cases t <;> first | exact ⟨rfl, rfl⟩ | (simp [tyk] at h8)
  have fin : ∀ (H1 : Heap) (locs1 : List Loc), va_P D vwCl ((pW base cI cQ h).set k (base + k, .inr (a, (pF base h a k).set b (.ref (base + x))))) H1 → va_D (fun q => base ≤ q) ((pW base cI cQ h).set k (base + k, .inr (a, (pF base h a k).set b (.ref (base + x))))) → va_S (fun q => base ≤ q) H0 H1 locs1 → W p l e R s m args below meth c H1 locs1 cells slots Q (F0 m (pc + 3) LS r') := by
    intro H1 locs1 hP1 hD1 hS1
    have hP2 : va_P D vwCl (pW base cI cQ (sR h k b x)) H1 := by rw [pW_sR hk (by rw [g5]; exact g2) h2]; exact hP1
    exact kk H1 locs1 ⟨pW_lo (Nat.le_trans hbs hS1.1) hP2, hP2, hS1, X.2.2.2.1, X.2.2.2.2⟩
  have hlen : b < (pF base h a k).length := by rw [pF_len, g5]; exact g2
  unfold finB at hfi
  rw [hq] at hfi
  simp only [Bool.or_eq_true, Bool.and_eq_true, Bool.not_eq_true', decide_eq_true_eq] at hfi
  rcases hfi with hff | ⟨⟨f1, f2⟩, f3⟩
  · rcases hl with ⟨-, hl⟩ | ⟨-, hl⟩
    · exact va_put (D := D) (ci := a) (C := q.1) (T := q.2.1) (N := q.2.2) (ty := pTy a b) hx hb hts c1 (pTy a) c2 c3 hown hK X.2.1 pW_D X.2.2.1 k (pW_at hk) hq b g2 (hts _ hl) hsame hff (c2 b g2) hty.1 hty.2 hlen hd fin
    · exact va_putN (D := D) (ci := a) (C := q.1) (T := q.2.1) (N := q.2.2) (ty := pTy a b) hx hb hts c1 (pTy a) c2 c3 hown hK X.2.1 pW_D X.2.2.1 k (pW_at hk) hq b g2 (va_Nw.use rfl (hnw _ hl)) hsame hff (c2 b g2) hty.1 hty.2 hlen hd fin
  · rcases hl with ⟨-, hl⟩ | ⟨hl0, hl⟩
    · by_cases hff : (q.2.1 b).2.2.2 = true
      · exact va_putF (D := D) (ci := a) (C := q.1) (T := q.2.1) (N := q.2.2) (ty := pTy a b) hx hb hts c1 (pTy a) c2 c3 hown hK X.2.1 pW_D X.2.2.1 k (pW_at hk) hq b g2 (hts _ hl) hsame hff (hnm.trans f2) f3 (c2 b g2) hty.1 hty.2 hlen hd fin
      · exact va_put (D := D) (ci := a) (C := q.1) (T := q.2.1) (N := q.2.2) (ty := pTy a b) hx hb hts c1 (pTy a) c2 c3 hown hK X.2.1 pW_D X.2.2.1 k (pW_at hk) hq b g2 (hts _ hl) hsame (by simpa using hff) (c2 b g2) hty.1 hty.2 hlen hd fin
    · rw [hl0] at f1
      cases f1
theorem fk_ne9 {q : vw_C} (hq : vwCl[a]? = some q) (hb : b < q.2.2) : fk a b ≠ 9 := by
  have key : ∀ (ci : Nat) (q : vw_C), vwCl[ci]? = some q → ∀ k, k < q.2.2 → fk ci k ≠ 9
    | 0, q, h => by cases h; decide
    | 1, q, h => by cases h; decide
    | 2, q, h => by cases h; decide
    | 3, q, h => by cases h; decide
    | 4, q, h => by cases h; decide
    | 5, q, h => by cases h; decide
    | 6, q, h => by cases h; decide
    | 7, q, h => by cases h; decide
    | 8, q, h => by cases h; decide
    | k + 9, q, h => by simp [vwCl] at h
  exact key a q hq b hb
theorem tg_16 (F : pFx p R s m args meth c M base C0 D cI cQ H0) (K : pKK p l e R s m args below meth c Q M base b0 D cI cQ H0 C0 Z0 r go) (hs : stp sc none (fun v h => some (v, h)) go cl (pc, len, 16, a, b, v, li) ls st h = some r) (X : pMt base b0 D cI cQ H0 (mL M) C0 Z0 ls h LS H locs cells slots) (hd : decode M.2.1 pc = .ok (exI (pc, len, 16, a, b, v, li), len)) (sd : sdB Ms M (pc, len, 16, a, b, v, li) = true) : W p l e R s m args below meth c H locs cells slots Q (F0 m pc LS (st.map (pv base b0))) := by
  obtain ⟨hx, hb, hml, hown, hts, hnw, hnm, hfr, hlo, hK, hbs, hrt, hsz, hlk⟩ := F
  have hs : (match (generalizing := false) st with
        | .int x :: .ref k :: r => bif Nat.beq (li.getD 2 0) 0 then (if kO h a k = true then go (pc + len) ls r (sI h k b x) else none) else (if kO h a k = true ∧ (x = 0 ∨ x = 1) then go (pc + len) ls r (sI h k b x) else none)
        | _ => none : pR) = some r := hs
  have h1 : ((((len = 3 ∧ fk a b ≠ 2) ∧ fldB M a b li = true) ∧ finB M a b li = true) ∧ fk a b = li.getD 2 0) := by simpa only [sdB, Bool.and_eq_true, decide_eq_true_eq] using sd
  obtain ⟨⟨⟨⟨rfl, h2⟩, hf⟩, hfi⟩, h6⟩ := h1
  have F : pFx p R s m args meth c M base C0 D cI cQ H0 := ⟨hx, hb, hml, hown, hts, hnw, hnm, hfr, hlo, hK, hbs, hrt, hsz, hlk⟩
  split at hs
  · rw [cond_eq_ite] at hs
    split at hs
    · rename_i hz0
      split at hs
      · rename_i hk
        exact put_16 F X hd h2 hf hfi (kO_at hk) (Or.inl (h6.trans (Nat.eq_of_beq_eq_true hz0))) (fun H1 locs1 X1 => K _ _ _ _ _ _ _ _ _ hs X1)
      · cases hs
    · split at hs
      · rename_i hk
        refine put_16 F X hd h2 hf hfi (kO_at hk.1) ?_ (fun H1 locs1 X1 => K _ _ _ _ _ _ _ _ _ hs X1)
        obtain ⟨q, hq, g2, -⟩ := fld_of hf
        have h8 := (cls_ok a _ hq).2.2.2.1 b g2
        have h9 : fk a b = 0 ∨ fk a b = 1 ∨ fk a b = 2 ∨ fk a b = 9 := by
          rw [← h8]
          generalize pTy a b = t
          cases t <;> simp [tyk]
        rcases h9 with h9 | h9 | h9 | h9
        · exact Or.inl h9
        · exact Or.inr ⟨h9, hk.2⟩
        · exact absurd h9 h2
        · exact absurd h9 (by rename_i hz0 hk0; exact fk_ne9 hq g2)
      · cases hs
  · cases hs
theorem tg_17 (F : pFx p R s m args meth c M base C0 D cI cQ H0) (K : pKK p l e R s m args below meth c Q M base b0 D cI cQ H0 C0 Z0 r go) (hs : stp sc none (fun v h => some (v, h)) go cl (pc, len, 17, a, b, v, li) ls st h = some r) (X : pMt base b0 D cI cQ H0 (mL M) C0 Z0 ls h LS H locs cells slots) (hd : decode M.2.1 pc = .ok (exI (pc, len, 17, a, b, v, li), len)) (sd : sdB Ms M (pc, len, 17, a, b, v, li) = true) : W p l e R s m args below meth c H locs cells slots Q (F0 m pc LS (st.map (pv base b0))) := by
  obtain ⟨hx, hb, hml, hown, hts, hnw, hnm, hfr, hlo, hK, hbs, hrt, hsz, hlk⟩ := F
  have hs : (match (generalizing := false) st with
        | .ref x :: .ref k :: r => if kO h a k = true then go (pc + len) ls r (sR h k b x) else none
        | _ => none : pR) = some r := hs
  have h1 : ((len = 3 ∧ fk a b = 2) ∧ fldB M a b li = true) ∧ finB M a b li = true := by simpa only [sdB, Bool.and_eq_true, decide_eq_true_eq] using sd
  obtain ⟨⟨⟨rfl, h2⟩, hf⟩, hfi⟩ := h1
  have F : pFx p R s m args meth c M base C0 D cI cQ H0 := ⟨hx, hb, hml, hown, hts, hnw, hnm, hfr, hlo, hK, hbs, hrt, hsz, hlk⟩
  split at hs
  · split at hs
    · rename_i hk
      exact put_17 F X hd h2 hf hfi (kO_at hk) (fun H1 locs1 X1 => K _ _ _ _ _ _ _ _ _ hs X1)
    · cases hs
  · cases hs
theorem tg_18 (F : pFx p R s m args meth c M base C0 D cI cQ H0) (K : pKK p l e R s m args below meth c Q M base b0 D cI cQ H0 C0 Z0 r go) (hs : stp sc none (fun v h => some (v, h)) go cl (pc, len, 18, a, b, v, li) ls st h = some r) (X : pMt base b0 D cI cQ H0 (mL M) C0 Z0 ls h LS H locs cells slots) (hd : decode M.2.1 pc = .ok (exI (pc, len, 18, a, b, v, li), len)) (sd : sdB Ms M (pc, len, 18, a, b, v, li) = true) : W p l e R s m args below meth c H locs cells slots Q (F0 m pc LS (st.map (pv base b0))) := by
  obtain ⟨hx, hb, hml, hown, hts, hnw, hnm, hfr, hlo, hK, hbs, hrt, hsz, hlk⟩ := F
  have hs : (match (generalizing := false) st with
        | .int x :: .int i :: .ref k :: r => if bA h k i = true then go (pc + len) ls r (sI h k i.toNatClampNeg x) else none
        | _ => none : pR) = some r := hs
  have h1 : len = 1 := by simpa [sdB] using sd
  subst h1
  split at hs
  · split at hs
    · rename_i hk
      obtain ⟨n, h3, h4⟩ := bA_at hk
      refine va_iast hx hb hK X.2.1 pW_D X.2.2.1 _ 0 (pW_at h3) rfl h4 hd (fun H1 locs1 hP1 hD1 hS1 => ?_)
      have hP2 := hP1
      rw [← pW_aI h3] at hP2
      exact K _ _ _ _ _ _ _ _ _ hs ⟨pW_lo (Nat.le_trans hbs hS1.1) hP2, hP2, hS1, X.2.2.2.1, X.2.2.2.2⟩
    · cases hs
  · cases hs
theorem tg_33 (F : pFx p R s m args meth c M base C0 D cI cQ H0) (K : pKK p l e R s m args below meth c Q M base b0 D cI cQ H0 C0 Z0 r go) (hs : stp sc none (fun v h => some (v, h)) go cl (pc, len, 33, a, b, v, li) ls st h = some r) (X : pMt base b0 D cI cQ H0 (mL M) C0 Z0 ls h LS H locs cells slots) (hd : decode M.2.1 pc = .ok (exI (pc, len, 33, a, b, v, li), len)) (sd : sdB Ms M (pc, len, 33, a, b, v, li) = true) : W p l e R s m args below meth c H locs cells slots Q (F0 m pc LS (st.map (pv base b0))) := by
  obtain ⟨hx, hb, hml, hown, hts, hnw, hnm, hfr, hlo, hK, hbs, hrt, hsz, hlk⟩ := F
  have hs : (match (generalizing := false) st with
        | .ref x :: .int i :: .ref k :: r => if bQ h k i x = true then go (pc + len) ls r (sR h k i.toNatClampNeg x) else none
        | _ => none : pR) = some r := hs
  have h1 : len = 1 := by simpa [sdB] using sd
  subst h1
  split at hs
  · split at hs
    · rename_i hk
      obtain ⟨n, h3, h4, h5⟩ := bQ_at hk
      refine va_astq (r := (RX7, TX7, 10)) hx hb hK X.2.1 pW_D X.2.2.1 _ 1 _ 6 (pW_at h3) rfl (pW_at h5) rfl h4 hd (fun H1 locs1 hP1 hD1 hS1 => ?_)
      have hP2 := hP1
      rw [← pW_aR h3] at hP2
      exact K _ _ _ _ _ _ _ _ _ hs ⟨pW_lo (Nat.le_trans hbs hS1.1) hP2, hP2, hS1, X.2.2.2.1, X.2.2.2.2⟩
    · cases hs
  · cases hs
theorem tg_12 (F : pFx p R s m args meth c M base C0 D cI cQ H0) (K : pKK p l e R s m args below meth c Q M base b0 D cI cQ H0 C0 Z0 r go) (hs : stp sc none (fun v h => some (v, h)) go cl (pc, len, 12, a, b, v, li) ls st h = some r) (X : pMt base b0 D cI cQ H0 (mL M) C0 Z0 ls h LS H locs cells slots) (hd : decode M.2.1 pc = .ok (exI (pc, len, 12, a, b, v, li), len)) (sd : sdB Ms M (pc, len, 12, a, b, v, li) = true) (S : pSc sc b0 s H0 base) : W p l e R s m args below meth c H locs cells slots Q (F0 m pc LS (st.map (pv base b0))) := by
  obtain ⟨hx, hb, hml, hown, hts, hnw, hnm, hfr, hlo, hK, hbs, hrt, hsz, hlk⟩ := F
  have hs : (match (generalizing := false) st with
        | .int i :: .ref k :: r => oo none (hA h k i) fun x => go (pc + len) ls (.int x :: r) h
        | .int i :: .null :: r => oo none sc fun q => if inb i q.1 = true then go (pc + len) ls (.int (q.2 i.toNatClampNeg) :: r) h else none
        | _ => none : pR) = some r := hs
  have h1 : len = 1 := by simpa [sdB] using sd
  subst h1
  split at hs
  · obtain ⟨x, h2, hs⟩ := oo_some hs
    obtain ⟨n, h3, h4, h5⟩ := hA_at h2
    subst h5
    exact va_iald hx hb hK X.2.1 _ 0 (pW_at h3) rfl h4 hd (K _ _ _ _ _ _ _ _ _ hs X)
  · obtain ⟨q, h2, hs⟩ := oo_some hs
    obtain ⟨s1, s2, s3⟩ := S q h2
    split at hs
    · rename_i h4
      exact va_sld (A := fun q => base ≤ q) hx hb s1 s2 s3 X.2.2.1 (inb_vp h4) hd (K _ _ _ _ _ _ _ _ _ hs X)
    · cases hs
  · cases hs
theorem tg_26 (F : pFx p R s m args meth c M base C0 D cI cQ H0) (K : pKK p l e R s m args below meth c Q M base b0 D cI cQ H0 C0 Z0 r go) (hs : stp sc none (fun v h => some (v, h)) go cl (pc, len, 26, a, b, v, li) ls st h = some r) (X : pMt base b0 D cI cQ H0 (mL M) C0 Z0 ls h LS H locs cells slots) (hd : decode M.2.1 pc = .ok (exI (pc, len, 26, a, b, v, li), len)) (sd : sdB Ms M (pc, len, 26, a, b, v, li) = true) (S : pSc sc b0 s H0 base) : W p l e R s m args below meth c H locs cells slots Q (F0 m pc LS (st.map (pv base b0))) := by
  obtain ⟨hx, hb, hml, hown, hts, hnw, hnm, hfr, hlo, hK, hbs, hrt, hsz, hlk⟩ := F
  have hs : (match (generalizing := false) st with
        | .ref k :: r => oo none (hN h k) fun x => go (pc + len) ls (.int x :: r) h
        | .null :: r => oo none sc fun q => go (pc + len) ls (.int (Int32.ofNat q.1) :: r) h
        | _ => none : pR) = some r := hs
  have h1 : len = 1 := by simpa [sdB] using sd
  subst h1
  split at hs
  · obtain ⟨x, h2, hs⟩ := oo_some hs
    obtain ⟨n, h3, h5⟩ := hN_at h2
    rcases h3 with h3 | h3
    · exact va_alen hx hb hK X.2.1 _ 0 (pW_at h3) rfl h5 hd (K _ _ _ _ _ _ _ _ _ hs X)
    · exact va_alen hx hb hK X.2.1 _ 1 (pW_at h3) rfl h5 hd (K _ _ _ _ _ _ _ _ _ hs X)
  · obtain ⟨q, h2, hs⟩ := oo_some hs
    obtain ⟨s1, s2, s3⟩ := S q h2
    exact va_slen (A := fun q => base ≤ q) hx hb s1 s2 s3 X.2.2.1 hd (K _ _ _ _ _ _ _ _ _ hs X)
  · cases hs
theorem tg_28 (F : pFx p R s m args meth c M base C0 D cI cQ H0) (K : pKK p l e R s m args below meth c Q M base b0 D cI cQ H0 C0 Z0 r go) (hs : stp sc none (fun v h => some (v, h)) go cl (pc, len, 28, a, b, v, li) ls st h = some r) (X : pMt base b0 D cI cQ H0 (mL M) C0 Z0 ls h LS H locs cells slots) (hd : decode M.2.1 pc = .ok (exI (pc, len, 28, a, b, v, li), len)) (sd : sdB Ms M (pc, len, 28, a, b, v, li) = true) : W p l e R s m args below meth c H locs cells slots Q (F0 m pc LS (st.map (pv base b0))) := by
  obtain ⟨hx, hb, hml, hown, hts, hnw, hnm, hfr, hlo, hK, hbs, hrt, hsz, hlk⟩ := F
  have hs : (match (generalizing := false) st with
        | .int i :: .ref k :: r => oo none (hQ h k i) fun x => go (pc + len) ls (.ref x :: r) h
        | _ => none : pR) = some r := hs
  have h1 : len = 1 := by simpa [sdB] using sd
  subst h1
  split at hs
  · obtain ⟨x, h2, hs⟩ := oo_some hs
    obtain ⟨n, h3, h4, h5⟩ := hQ_at h2
    refine va_aldq hx hb hK X.2.1 _ 1 (pW_at h3) rfl h4 hd ?_
    rw [h5]
    exact K _ _ _ _ _ _ _ _ _ hs X
  · cases hs
end Sound2
end
section
section Sound3
variable {p : Program} {l : Launch} {e : Env} {R : Room} {s : State} {m : MethodId} {args : Array Value} {below : List Frame} {meth : Method} {c : Code} {Q : State → Prop}
variable {Ms : List pM} {M : pM} {base b0 : Nat} {D : va_G} {cI cQ : ClassId} {H0 H : Heap} {C0 Z0 : Nat} {r : Option Value × pH} {sc : pX} {go : Nat → pL → List Value → pH → pR} {cl : Nat → List Value → Nat → Nat → pL → List Value → pH → pR}
variable {pc len a b : Nat} {v : Int32} {li : List Nat} {ls : pL} {st : List Value} {h : pH} {LS : Array Slot} {locs : List Loc} {cells slots : Nat}
/-- the end of a method: its answer on the stack -/
def pRi (M : pM) (i : Instr) (v : Option Value) : Prop :=
  (i = .ireturn ∧ ∃ x, v = some (.int x) ∧ (mR M = some .int ∨ (mR M = some .boolean ∧ (x = 0 ∨ x = 1)))) ∨ (i = .return_ ∧ v = none ∧ mR M = none) ∨ (i = .areturn ∧ ∃ k, v = some (.ref k) ∧ rkOf (mR M) = 2) ∨ (i = .dreturn ∧ ∃ x, v = some (.double x) ∧ mR M = some .double)
def pRT (p : Program) (l : Launch) (e : Env) (R : Room) (s : State) (m : MethodId) (args : Array Value) (below : List Frame) (meth : Method) (c : Code) (Q : State → Prop) (M : pM) (base b0 : Nat) (D : va_G) (cI cQ : ClassId) (H0 : Heap) (C0 Z0 : Nat) (r : Option Value × pH) : Prop :=
  ∀ (pc : Nat) (i : Instr) (LS : Array Slot) (H : Heap) (locs : List Loc) (cells slots : Nat), decode M.2.1 pc = .ok (i, 1) → pRi M i r.1 → base + r.2.1.length ≤ H.size → va_P D vwCl (pW base cI cQ r.2) H → va_S (fun q => base ≤ q) H0 H locs → cells + C0 = r.2.1.length → slots + Z0 = hz r.2 →
    W p l e R s m args below meth c H locs cells slots Q (F0 m pc LS (r.1.map (pv base b0)).toList)
/-- a call, read as a contract -/
def pB (base : Nat) (D : va_G) (cI cQ : ClassId) (h : pH) (U : State) : Prop := U.heap.size = base + h.1.length ∧ va_P D vwCl (pW base cI cQ h) U.heap ∧ va_K D vwCl [(cI, .int), (cQ, .object "ShelfSpines$Shelf")] U ∧ ∀ w ∈ pNt, va_Nw w U
def pQ (base b0 : Nat) (D : va_G) (cI cQ : ClassId) (v : Option Value) (h : pH) : Array Value → State → Outcome → State → Prop := fun _ st oc t => (oc = .returned (v.map (pv base b0)) ∧ va_P D vwCl (pW base cI cQ h) t.heap ∧ base + h.1.length ≤ t.heap.size) ∧ va_F (fun q => base ≤ q) st t
def pMet (l : Launch) (base b0 : Nat) (D : va_G) (cI cQ : ClassId) (N : pM) (as : List Value) (h : pH) (v : Option Value) (h' : pH) : Prop :=
  Met l N.1 (Cond.code N.1 N.2.1 (mL N) (mR N) :: gW) ({ frames := mF N, cells := h'.1.length - h.1.length, slots := hz h' - hz h, locals := mO N }) (va_Pc (as.map (pv base b0)) (pB base D cI cQ h)) (pQ base b0 D cI cQ v h') (h'.1.length - h.1.length) (hz h' - hz h) (fun q => base ≤ q)
/-- what is known of calls: of each that ends, its contract -/
def pCH (Ms : List pM) (l : Launch) (base b0 : Nat) (D : va_G) (cI cQ : ClassId) (call : Nat → List Value → pH → pR) : Prop :=
  ∀ (y : Nat) (N : pM) (as : List Value) (h : pH) (v : Option Value) (h' : pH), Ms[y]? = some N → (∀ v ∈ as, v.category = 1) → as.length ≤ mL N → call y as h = some (v, h') → hle h h' ∧ pMet l base b0 D cI cQ N as h v h'
theorem pB_blind {as : List Value} : FrameBlind (va_Pc as (pB base D cI cQ h)) := by
  rintro a U g mk ⟨h1, h2, h3, h4, h5⟩
  refine ⟨h1, h2, h3, va_K.moved (u := U) (U := U.calling g mk a) (Vm.Alike.refl U.vm) h4, fun w hw => va_Nw.same ?_ (u := U) (U := U.calling g mk a) rfl (h5 w hw)⟩
  have h6 := (List.mem_filter.mp hw).2
  cases w <;> first | rfl | (simp at h6)
theorem pNt_warm {s U : State} (hW : s.WarmedH U.vm) (hn : ∀ w ∈ pNt, va_Nw w s) : ∀ w ∈ pNt, va_Nw w U := by
  intro w hw
  have h6 := (List.mem_filter.mp hw).2
  have h7 := hn w hw
  cases w <;> first | exact va_Nw.warmF hW h7 | (simp at h6)
theorem gW_good : GoodIn gW gW := fun w hw => ⟨hw, good_of_word (List.mem_filter.mp hw).2⟩
/-- from a call's run to what stands behind it -/
theorem pc_call {g : JFrame} {rest st0 : List Value} {a : Array Value} {mc ms : Nat} {v : Option Value} {h' : pH} (hg : g = F0 m pc LS st0)
    (hr : va_Run p l e R s m args below meth c H locs cells slots mc ms g rest (pQ base b0 D cI cQ v h' a) (fun q => base ≤ q)) (hS : va_S (fun q => base ≤ q) H0 H locs)
    (kk : ∀ (H1 : Heap) (locs1 : List Loc), va_P D vwCl (pW base cI cQ h') H1 → base + h'.1.length ≤ H1.size → va_S (fun q => base ≤ q) H0 H1 locs1 → W p l e R s m args below meth c H1 locs1 (cells + mc) (slots + ms) Q (F0 m (pc + 3) LS ((v.map (pv base b0)).toList ++ rest))) : W p l e R s m args below meth c H locs cells slots Q (F0 m pc LS st0) := by
  intro T hT X
  subst hg
  obtain ⟨v', st₀, t, T', L, h0, X', hL, e1, e2, ⟨⟨hv, hP, hz⟩, hF⟩, st⟩ := hr T hT X
  cases hv
  have hF1 := hF.1
  have hF2 := hF.2
  rw [h0] at hF1 hF2
  obtain ⟨t2, a1, b1⟩ := kk T'.heap (locs ++ L) (by rw [e1]; exact hP) (by rw [e1]; exact hz)
    ⟨Nat.le_trans hS.1 (by rw [e1]; exact hF1), fun q h1 h2 => by rw [e1, hF2 q (Nat.lt_of_lt_of_le h1 hS.1) h2]; exact hS.2.1 q h1 h2, fun q hq => by
      rcases List.mem_append.mp hq with h | h
      · exact hS.2.2 q h
      · exact hL q h⟩ T' rfl X'
  exact ⟨t2, st t2 a1, b1⟩
theorem cats {st : List Value} : ((st.map (pv base b0)).map fun v => v.category).sum = (st.map Value.category).sum := by
  rw [List.map_map]
  congr 1
  apply List.map_congr_left
  intro v _
  exact pv_cat
theorem tg_9 (F : pFx p R s m args meth c M base C0 D cI cQ H0) (K : pKK p l e R s m args below meth c Q M base b0 D cI cQ H0 C0 Z0 r go) (hs : stp sc none (fun v h => some (v, h)) go cl (pc, len, 9, a, b, v, li) ls st h = some r) (X : pMt base b0 D cI cQ H0 (mL M) C0 Z0 ls h LS H locs cells slots) (hd : decode M.2.1 pc = .ok (exI (pc, len, 9, a, b, v, li), len)) (sd : sdB Ms M (pc, len, 9, a, b, v, li) = true) (T : pRT p l e R s m args below meth c Q M base b0 D cI cQ H0 C0 Z0 r) : W p l e R s m args below meth c H locs cells slots Q (F0 m pc LS (st.map (pv base b0))) := by
  obtain ⟨hx, hb, hml, hown, hts, hnw, hnm, hfr, hlo, hK, hbs, hrt, hsz, hlk⟩ := F
  have hs : (match (generalizing := false) st with
        | [.int x] => bif Nat.beq b 0 then some (some (.int x), h) else (if x = 0 ∨ x = 1 then some (some (.int x), h) else none)
        | _ => none : pR) = some r := hs
  have h1 : len = 1 ∧ (bif Nat.beq b 0 then decide (mR M = some .int) else decide (mR M = some .boolean)) = true := by simpa only [sdB, Bool.and_eq_true, decide_eq_true_eq] using sd
  split at hs
  · rename_i x hold
    clear hold
    obtain ⟨rfl, h2⟩ := h1
    rw [cond_eq_ite] at hs h2
    split at hs
    · rename_i h3
      rw [if_pos h3] at h2
      cases hs
      exact T pc .ireturn LS H locs cells slots hd (Or.inl ⟨rfl, x, rfl, Or.inl (of_decide_eq_true h2)⟩) X.1 X.2.1 X.2.2.1 X.2.2.2.2.1 X.2.2.2.2.2
    · rename_i h3
      rw [if_neg h3] at h2
      split at hs
      · rename_i h4
        cases hs
        exact T pc .ireturn LS H locs cells slots hd (Or.inl ⟨rfl, x, rfl, Or.inr ⟨of_decide_eq_true h2, h4⟩⟩) X.1 X.2.1 X.2.2.1 X.2.2.2.2.1 X.2.2.2.2.2
      · cases hs
  · cases hs
theorem tg_19 (F : pFx p R s m args meth c M base C0 D cI cQ H0) (K : pKK p l e R s m args below meth c Q M base b0 D cI cQ H0 C0 Z0 r go) (hs : stp sc none (fun v h => some (v, h)) go cl (pc, len, 19, a, b, v, li) ls st h = some r) (X : pMt base b0 D cI cQ H0 (mL M) C0 Z0 ls h LS H locs cells slots) (hd : decode M.2.1 pc = .ok (exI (pc, len, 19, a, b, v, li), len)) (sd : sdB Ms M (pc, len, 19, a, b, v, li) = true) (T : pRT p l e R s m args below meth c Q M base b0 D cI cQ H0 C0 Z0 r) : W p l e R s m args below meth c H locs cells slots Q (F0 m pc LS (st.map (pv base b0))) := by
  obtain ⟨hx, hb, hml, hown, hts, hnw, hnm, hfr, hlo, hK, hbs, hrt, hsz, hlk⟩ := F
  have hs : (match (generalizing := false) st with
        | [] => some (none, h)
        | _ => none : pR) = some r := hs
  split at hs
  · have h1 : len = 1 ∧ mR M = none := by simpa only [sdB, Bool.and_eq_true, decide_eq_true_eq] using sd
    obtain ⟨rfl, h2⟩ := h1
    cases hs
    exact T pc .return_ LS H locs cells slots hd (Or.inr (Or.inl ⟨rfl, rfl, h2⟩)) X.1 X.2.1 X.2.2.1 X.2.2.2.2.1 X.2.2.2.2.2
  · cases hs
theorem tg_30 (F : pFx p R s m args meth c M base C0 D cI cQ H0) (K : pKK p l e R s m args below meth c Q M base b0 D cI cQ H0 C0 Z0 r go) (hs : stp sc none (fun v h => some (v, h)) go cl (pc, len, 30, a, b, v, li) ls st h = some r) (X : pMt base b0 D cI cQ H0 (mL M) C0 Z0 ls h LS H locs cells slots) (hd : decode M.2.1 pc = .ok (exI (pc, len, 30, a, b, v, li), len)) (sd : sdB Ms M (pc, len, 30, a, b, v, li) = true) (T : pRT p l e R s m args below meth c Q M base b0 D cI cQ H0 C0 Z0 r) : W p l e R s m args below meth c H locs cells slots Q (F0 m pc LS (st.map (pv base b0))) := by
  obtain ⟨hx, hb, hml, hown, hts, hnw, hnm, hfr, hlo, hK, hbs, hrt, hsz, hlk⟩ := F
  have hs : (match (generalizing := false) st with
        | [.ref x] => some (some (.ref x), h)
        | _ => none : pR) = some r := hs
  split at hs
  · rename_i x _
    have h1 : len = 1 ∧ rkOf (mR M) = 2 := by simpa only [sdB, Bool.and_eq_true, decide_eq_true_eq] using sd
    obtain ⟨rfl, h2⟩ := h1
    cases hs
    exact T pc .areturn LS H locs cells slots hd (Or.inr (Or.inr (Or.inl ⟨rfl, x, rfl, h2⟩))) X.1 X.2.1 X.2.2.1 X.2.2.2.2.1 X.2.2.2.2.2
  · cases hs
theorem tg_36 (F : pFx p R s m args meth c M base C0 D cI cQ H0) (K : pKK p l e R s m args below meth c Q M base b0 D cI cQ H0 C0 Z0 r go) (hs : stp sc none (fun v h => some (v, h)) go cl (pc, len, 36, a, b, v, li) ls st h = some r) (X : pMt base b0 D cI cQ H0 (mL M) C0 Z0 ls h LS H locs cells slots) (hd : decode M.2.1 pc = .ok (exI (pc, len, 36, a, b, v, li), len)) (sd : sdB Ms M (pc, len, 36, a, b, v, li) = true) (T : pRT p l e R s m args below meth c Q M base b0 D cI cQ H0 C0 Z0 r) : W p l e R s m args below meth c H locs cells slots Q (F0 m pc LS (st.map (pv base b0))) := by
  obtain ⟨hx, hb, hml, hown, hts, hnw, hnm, hfr, hlo, hK, hbs, hrt, hsz, hlk⟩ := F
  have hs : (match (generalizing := false) st with
        | [.double x] => some (some (.double x), h)
        | _ => none : pR) = some r := hs
  split at hs
  · rename_i x _
    have h1 : len = 1 ∧ mR M = some .double := by simpa only [sdB, Bool.and_eq_true, decide_eq_true_eq] using sd
    obtain ⟨rfl, h2⟩ := h1
    cases hs
    exact T pc .dreturn LS H locs cells slots hd (Or.inr (Or.inr (Or.inr ⟨rfl, x, rfl, h2⟩))) X.1 X.2.1 X.2.2.1 X.2.2.2.2.1 X.2.2.2.2.2
  · cases hs
theorem hz_nK {q : pK} : hz (nK h q) = hz h + kz q := by
  show ((h.1 ++ [q]).map kz).sum = _
  simp [hz]
theorem nK_len {q : pK} : (nK h q).1.length = h.1.length + 1 := by
  show (h.1 ++ [q]).length = _
  simp
theorem tg_21 (F : pFx p R s m args meth c M base C0 D cI cQ H0) (K : pKK p l e R s m args below meth c Q M base b0 D cI cQ H0 C0 Z0 r go) (hs : stp sc none (fun v h => some (v, h)) go cl (pc, len, 21, a, b, v, li) ls st h = some r) (X : pMt base b0 D cI cQ H0 (mL M) C0 Z0 ls h LS H locs cells slots) (hd : decode M.2.1 pc = .ok (exI (pc, len, 21, a, b, v, li), len)) (sd : sdB Ms M (pc, len, 21, a, b, v, li) = true) (KM : ∀ pc ls st h, go pc ls st h = some r → hle h r.2) (hRc : r.2.1.length ≤ R.cells + C0) (hRs : hz r.2 ≤ R.slots + Z0) : W p l e R s m args below meth c H locs cells slots Q (F0 m pc LS (st.map (pv base b0))) := by
  obtain ⟨hx, hb, hml, hown, hts, hnw, hnm, hfr, hlo, hK, hbs, hrt, hsz, hlk⟩ := F
  have hs : (go (pc + len) ls (.ref h.1.length :: st) (nK h (.inl a)) : pR) = some r := hs
  have h1 : len = 3 ∧ newB M a li = true := by simpa only [sdB, Bool.and_eq_true, decide_eq_true_eq] using sd
  obtain ⟨rfl, h2⟩ := h1
  unfold newB at h2
  split at h2
  · rename_i q hq
    simp only [Bool.and_eq_true] at h2
    obtain ⟨⟨w1, w2⟩, w3⟩ := h2
    obtain ⟨c1, c2, c3, c4, g5⟩ := cls_ok a _ hq
    have hm := KM _ _ _ _ hs
    have hm1 := hm.1
    have hm2 := hm.2
    rw [nK_len] at hm1
    rw [hz_nK] at hm2
    have hkz : kz (.inl a) = q.2.2 := by rw [← g5]; rfl
    rw [hkz] at hm2
    have x5 := X.2.2.2.2.1
    have x6 := X.2.2.2.2.2
    refine W_size hsz (fun hsl => ?_)
    have hHs : H.size = base + h.1.length := by
      have := X.1
      omega
    have hKn := hK.1 a _ hq
    refine W.newcK hx hb hown (hts _ (wAt_in w1)) (hts _ (wAt_in w2)) (hts _ (wAt_in w3)) rfl hd (by omega) (by omega) hKn.2.1 rfl fun H1 kC hkC e1 z1 o1 => ?_
    have hP1 : va_P D vwCl (pW base cI cQ (nK h (.inl a))) H1 := by
      rw [pW_nK]
      refine (X.2.1.kept (fun k x hx => o1 x.1 ((X.2.1 k x hx).lt))).app (fun k x hx => ?_)
      have hz : k < 1 := (List.getElem?_eq_some_iff.mp hx).1
      rw [show k = 0 by omega] at hx
      cases hx
      refine ⟨_, hq, ?_⟩
      rw [← hHs]
      refine (u_born (pTy a) hts c1 hKn hkC e1 c2).to (fun j hj => ?_)
      show _ = (pF base (nK h (.inl a)) a _).getD j .null
      rw [List.getD_eq_getElem?_getD, pF_at (by rw [g5]; exact hj)]
      have h8 := c4 j hj
      have h9 : (nK h (.inl a)).2.1 h.1.length j = none := by simp [nK, z2]
      have h10 : (nK h (.inl a)).2.2 h.1.length j = 0 := by simp [nK, z2]
      rw [h9, h10]
      have h11 := fk_ne9 hq hj
      generalize pTy a j = t at h8
      cases t <;> simp only [tyk] at h8 <;> first | (exact absurd h8.symm h11) | (rw [← h8]; rfl)
    have hS1 : va_S (fun q => base ≤ q) H0 H1 locs := ⟨Nat.le_trans X.2.2.1.1 (by omega), fun x h1 h2 => (o1 x (Nat.lt_of_lt_of_le h1 X.2.2.1.1)).trans (X.2.2.1.2.1 x h1 h2), X.2.2.1.2.2⟩
    have hk2 := K _ _ _ _ LS H1 locs (cells + 1) (slots + q.2.2) hs ⟨by rw [nK_len]; omega, hP1, hS1, X.2.2.2.1, by rw [nK_len]; omega, by rw [hz_nK, hkz]; omega⟩
    rw [hHs]
    exact hk2
  · cases h2
theorem tg_22 (F : pFx p R s m args meth c M base C0 D cI cQ H0) (K : pKK p l e R s m args below meth c Q M base b0 D cI cQ H0 C0 Z0 r go) (hs : stp sc none (fun v h => some (v, h)) go cl (pc, len, 22, a, b, v, li) ls st h = some r) (X : pMt base b0 D cI cQ H0 (mL M) C0 Z0 ls h LS H locs cells slots) (hd : decode M.2.1 pc = .ok (exI (pc, len, 22, a, b, v, li), len)) (sd : sdB Ms M (pc, len, 22, a, b, v, li) = true) (KM : ∀ pc ls st h, go pc ls st h = some r → hle h r.2) (hRc : r.2.1.length ≤ R.cells + C0) (hRs : hz r.2 ≤ R.slots + Z0) : W p l e R s m args below meth c H locs cells slots Q (F0 m pc LS (st.map (pv base b0))) := by
  obtain ⟨hx, hb, hml, hown, hts, hnw, hnm, hfr, hlo, hK, hbs, hrt, hsz, hlk⟩ := F
  have hs : (match (generalizing := false) st with
        | .int n :: r => if ¬ n < 0 ∧ n.toNatClampNeg ≤ 100000 then go (pc + len) ls (.ref h.1.length :: r) (nK h (.inr (.inl n.toNatClampNeg))) else none
        | _ => none : pR) = some r := hs
  have h1 : len = 2 ∧ wAt (li.getD 3 0) (.arrayClass .int) = true := by simpa only [sdB, Bool.and_eq_true, decide_eq_true_eq] using sd
  obtain ⟨rfl, w1⟩ := h1
  split at hs
  · rename_i n _ _
    split at hs
    · rename_i hn
      have hm := KM _ _ _ _ hs
      have hm1 := hm.1
      have hm2 := hm.2
      rw [nK_len] at hm1
      rw [hz_nK] at hm2
      have hkz : kz (.inr (.inl n.toNatClampNeg)) = n.toNatClampNeg := rfl
      rw [hkz] at hm2
      have x5 := X.2.2.2.2.1
      have x6 := X.2.2.2.2.2
      refine W_size hsz (fun hsl => ?_)
      have hHs : H.size = base + h.1.length := by
        have := X.1
        omega
      refine va_newaK (atype := .int) hx hb (hts _ (wAt_in w1)) rfl hd rfl hn.1 rfl (by show n.toNatClampNeg * 4 ≤ _; omega) (by omega) (by omega) rfl fun H1 cA e1 z1 o1 hAr hNm => ?_
      have hcA : cA = cI := by
        have h7 : s.vm.findClass ("[" ++ FieldType.int.toString) = some cI := (hK.2 0 _ rfl).2
        exact Option.some.inj (hNm.symm.trans h7)
      subst hcA
      have hP1 : va_P D vwCl (pW base cA cQ (nK h (.inr (.inl n.toNatClampNeg)))) H1 := by
        rw [pW_nK]
        refine (X.2.1.kept (fun k x hx => o1 x.1 ((X.2.1 k x hx).lt))).app (fun k x hx => ?_)
        have hz : k < 1 := (List.getElem?_eq_some_iff.mp hx).1
        rw [show k = 0 by omega] at hx
        cases hx
        show H1[base + h.1.length]? = some (vp_cell cA (n.toNatClampNeg, .inl ((nK h (.inr (.inl n.toNatClampNeg))).2.2 h.1.length)))
        have h10 : (nK h (.inr (.inl n.toNatClampNeg))).2.2 h.1.length = fun _ => 0 := by funext j; simp [nK, z2]
        rw [h10, vp_cell_i, ← hHs]
        exact e1
      have hS1 : va_S (fun q => base ≤ q) H0 H1 locs := ⟨Nat.le_trans X.2.2.1.1 (by omega), fun x h1 h2 => (o1 x (Nat.lt_of_lt_of_le h1 X.2.2.1.1)).trans (X.2.2.1.2.1 x h1 h2), X.2.2.1.2.2⟩
      have hk2 := K _ _ _ _ LS H1 locs (cells + 1) (slots + n.toNatClampNeg) hs ⟨by rw [nK_len]; omega, hP1, hS1, X.2.2.2.1, by rw [nK_len]; omega, by rw [hz_nK, hkz]; omega⟩
      rw [hHs]
      exact hk2
    · cases hs
  · cases hs
theorem tg_41 (F : pFx p R s m args meth c M base C0 D cI cQ H0) (K : pKK p l e R s m args below meth c Q M base b0 D cI cQ H0 C0 Z0 r go) (hs : stp sc none (fun v h => some (v, h)) go cl (pc, len, 41, a, b, v, li) ls st h = some r) (X : pMt base b0 D cI cQ H0 (mL M) C0 Z0 ls h LS H locs cells slots) (hd : decode M.2.1 pc = .ok (exI (pc, len, 41, a, b, v, li), len)) (sd : sdB Ms M (pc, len, 41, a, b, v, li) = true) (KM : ∀ pc ls st h, go pc ls st h = some r → hle h r.2) (hRc : r.2.1.length ≤ R.cells + C0) (hRs : hz r.2 ≤ R.slots + Z0) : W p l e R s m args below meth c H locs cells slots Q (F0 m pc LS (st.map (pv base b0))) := by
  obtain ⟨hx, hb, hml, hown, hts, hnw, hnm, hfr, hlo, hK, hbs, hrt, hsz, hlk⟩ := F
  have hs : (match (generalizing := false) st with
        | .int n :: r => if ¬ n < 0 ∧ n.toNatClampNeg ≤ 100000 then go (pc + len) ls (.ref h.1.length :: r) (nK h (.inr (.inr n.toNatClampNeg))) else none
        | _ => none : pR) = some r := hs
  have h1 : (len = 3 ∧ wAt (li.getD 3 0) (.classLink M.1.cls (li.getD 0 0) "ShelfSpines$Shelf") = true) ∧ wAt (li.getD 4 0) (.arrayOver (.object "ShelfSpines$Shelf")) = true := by simpa only [sdB, Bool.and_eq_true, decide_eq_true_eq] using sd
  obtain ⟨⟨rfl, w1⟩, w2⟩ := h1
  split at hs
  · rename_i n _ _
    split at hs
    · rename_i hn
      have hm := KM _ _ _ _ hs
      have hm1 := hm.1
      have hm2 := hm.2
      rw [nK_len] at hm1
      rw [hz_nK] at hm2
      have hkz : kz (.inr (.inr n.toNatClampNeg)) = n.toNatClampNeg := rfl
      rw [hkz] at hm2
      have x5 := X.2.2.2.2.1
      have x6 := X.2.2.2.2.2
      refine W_size hsz (fun hsl => ?_)
      have hHs : H.size = base + h.1.length := by
        have := X.1
        omega
      refine W.anew hx hb hown (hts _ (wAt_in w1)) (hts _ (wAt_in w2)) rfl hd rfl hn.1 (by omega) (by omega) (by omega) fun cA kA comp f1 f2 f3 f4 => ?_
      have hcA : cA = cQ := by
        obtain ⟨_, _, _, _, _, h7⟩ := (hK.2 1 _ rfl).2
        exact Option.some.inj (f1.symm.trans h7)
      subst hcA
      generalize hH1 : H.push ({ cls := cA, slots := Array.replicate n.toNatClampNeg .null, vm := .none } : Cell) = H1
      have z1 : H1.size = H.size + 1 := by rw [← hH1, Array.size_push]
      have e1 : H1[H.size]? = some (arrV cA n.toNatClampNeg (fun _ => .null)) := by rw [← hH1, Array.getElem?_push_size, ← arrV_new]
      have o1 : ∀ q : Nat, q < H.size → H1[q]? = H[q]? := fun q hq => by rw [← hH1, Array.getElem?_push, if_neg (Nat.ne_of_lt hq)]
      have hP1 : va_P D vwCl (pW base cI cA (nK h (.inr (.inr n.toNatClampNeg)))) H1 := by
        rw [pW_nK]
        refine (X.2.1.kept (fun k x hx => o1 x.1 ((X.2.1 k x hx).lt))).app (fun k x hx => ?_)
        have hz : k < 1 := (List.getElem?_eq_some_iff.mp hx).1
        rw [show k = 0 by omega] at hx
        cases hx
        show H1[base + h.1.length]? = some (vp_cell cA (n.toNatClampNeg, .inr (.inr (.inr (.inr (fun j => ((nK h (.inr (.inr n.toNatClampNeg))).2.1 h.1.length j).map (base + ·)))))))
        have h10 : (fun j => ((nK h (.inr (.inr n.toNatClampNeg))).2.1 h.1.length j).map (base + ·)) = fun _ => none := by funext j; simp [nK, z2]
        rw [h10, vp_cell_q, ← hHs]
        exact e1
      have hS1 : va_S (fun q => base ≤ q) H0 H1 locs := ⟨Nat.le_trans X.2.2.1.1 (by omega), fun x h1 h2 => (o1 x (Nat.lt_of_lt_of_le h1 X.2.2.1.1)).trans (X.2.2.1.2.1 x h1 h2), X.2.2.1.2.2⟩
      have hk2 := K _ _ _ _ LS H1 locs (cells + 1) (slots + n.toNatClampNeg) hs ⟨by rw [nK_len]; omega, hP1, hS1, X.2.2.2.1, by rw [nK_len]; omega, by rw [hz_nK, hkz]; omega⟩
      rw [hHs]
      exact hk2
    · cases hs
  · cases hs
theorem tg_42 (F : pFx p R s m args meth c M base C0 D cI cQ H0) (K : pKK p l e R s m args below meth c Q M base b0 D cI cQ H0 C0 Z0 r go) (hs : stp sc none (fun v h => some (v, h)) go cl (pc, len, 42, a, b, v, li) ls st h = some r) (X : pMt base b0 D cI cQ H0 (mL M) C0 Z0 ls h LS H locs cells slots) (hd : decode M.2.1 pc = .ok (exI (pc, len, 42, a, b, v, li), len)) (sd : sdB Ms M (pc, len, 42, a, b, v, li) = true) : W p l e R s m args below meth c H locs cells slots Q (F0 m pc LS (st.map (pv base b0))) := by
  obtain ⟨hx, hb, hml, hown, hts, hnw, hnm, hfr, hlo, hK, hbs, hrt, hsz, hlk⟩ := F
  have hs : (match (generalizing := false) st with
        | .ref _ :: r => bif Nat.ble (r.map Value.category).sum 8 then go (pc + len) ls r h else none
        | _ => none : pR) = some r := hs
  have h1 : ((((len = 3 ∧ wAt (li.getD 3 0) (.methodLink M.1.cls (li.getD 0 0) Lib.objectInit) = true) ∧ wAt (li.getD 4 0) (.instanceMethod Lib.objectInit) = true) ∧ wAt (li.getD 5 0) (.code Lib.objectInit ⟨#[0xb1]⟩ 1 none) = true) ∧ 1 ≤ mF M) ∧ 20 ≤ mO M := by simpa only [sdB, Bool.and_eq_true, decide_eq_true_eq] using sd
  obtain ⟨⟨⟨⟨⟨rfl, w1⟩, w2⟩, w3⟩, h5⟩, h6⟩ := h1
  split at hs
  · rename_i _ r' _
    rw [cond_eq_ite] at hs
    split at hs
    · rename_i h7
      refine W.objInit hx hb hown (hts _ (wAt_in w1)) (hts _ (wAt_in w2)) (hts _ (wAt_in w3)) rfl (by rw [hml]; exact X.2.2.2.1.1) rfl hd (Nat.le_trans h5 hfr) ?_ (K _ _ _ _ _ _ _ _ _ hs X)
      have h8 := Nat.le_of_ble_eq_true h7
      show 2 * 0 + ((r'.map (pv base b0)).map fun v => v.category).sum + 12 ≤ _
      rw [cats]
      omega
    · cases hs
  · cases hs
theorem i32_addn {v : Int32} {i : Nat} (h0 : 0 ≤ v.toInt) (h1 : v.toInt ≤ 100) (hi : i ≤ 100) : (v + Int32.ofNat i).toInt = v.toInt + i := by
  rw [Int32.toInt_add, Int32.toInt_ofNat_of_lt (by omega)]
  exact Int.bmod_eq_of_le (by omega) (by omega)
theorem i32_succ {v : Int32} {i : Nat} : v + 1 + Int32.ofNat i = v + Int32.ofNat (i + 1) := by
  rw [Int32.ofNat_add, Int32.add_assoc, Int32.add_comm 1]
  rfl
theorem swt_some {x : Int32} {d : Nat} {ro : Option Value × pH} {K' : Nat → pR} : ∀ {ts : List Nat} {v : Int32}, swt x v ts d K' = some ro → (∃ i t, ts[i]? = some t ∧ x = v + Int32.ofNat i ∧ K' t = some ro) ∨ ((∀ i, i < ts.length → x ≠ v + Int32.ofNat i) ∧ K' d = some ro)
  | [], v, H => Or.inr ⟨fun i h => by simp at h, H⟩
  | t :: ts, v, H => by
    unfold swt at H
    split at H
    · rename_i hc
      exact Or.inl ⟨0, t, rfl, by rw [hc]; simp, H⟩
    · rename_i hc
      rcases swt_some H with ⟨i, t', h1, h2, h3⟩ | ⟨h1, h2⟩
      · exact Or.inl ⟨i + 1, t', by simpa using h1, by rw [h2, i32_succ], h3⟩
      · refine Or.inr ⟨fun i hi => ?_, h2⟩
        cases i with
        | zero => simpa using hc
        | succ i =>
          rw [← i32_succ]
          exact h1 i (by simpa using hi)
theorem tg_24 (F : pFx p R s m args meth c M base C0 D cI cQ H0) (K : pKK p l e R s m args below meth c Q M base b0 D cI cQ H0 C0 Z0 r go) (hs : stp sc none (fun v h => some (v, h)) go cl (pc, len, 24, a, b, v, li) ls st h = some r) (X : pMt base b0 D cI cQ H0 (mL M) C0 Z0 ls h LS H locs cells slots) (hd : decode M.2.1 pc = .ok (exI (pc, len, 24, a, b, v, li), len)) (sd : sdB Ms M (pc, len, 24, a, b, v, li) = true) : W p l e R s m args below meth c H locs cells slots Q (F0 m pc LS (st.map (pv base b0))) := by
  obtain ⟨hx, hb, hml, hown, hts, hnw, hnm, hfr, hlo, hK, hbs, hrt, hsz, hlk⟩ := F
  have hs : (match (generalizing := false) st with
        | .int x :: r => swt x v (li.drop 1) (li.getD 0 0) fun t => go t ls r h
        | _ => none : pR) = some r := hs
  have h1 : ((2 ≤ li.length ∧ li.length ≤ 100) ∧ 0 ≤ v.toInt) ∧ v.toInt ≤ 100 := by simpa only [sdB, Bool.and_eq_true, decide_eq_true_eq] using sd
  obtain ⟨⟨⟨n1, n2⟩, n3⟩, n4⟩ := h1
  split at hs
  · rename_i x _ _
    rcases swt_some hs with ⟨i, t, h1, h2, h3⟩ | ⟨h1, h3⟩
    · have hi : i < (li.drop 1).length := (List.getElem?_eq_some_iff.mp h1).1
      rw [List.length_drop] at hi
      have h4 : x.toInt = v.toInt + i := by rw [h2]; exact i32_addn n3 n4 (by omega)
      refine lv_tableIn (off := (t : Int) - (pc : Int)) (tgt := t) hx hb hd (by omega) (by omega) ?_ (by omega) (K _ _ _ _ _ _ _ _ _ h3 X)
      rw [show (x.toInt - v.toInt).toNat = i by omega]
      rw [List.getElem?_toArray, List.getElem?_map, h1]
      rfl
    · refine lv_tableOut (tgt := li.getD 0 0) hx hb hd ?_ (by omega) (K _ _ _ _ _ _ _ _ _ h3 X)
      rcases Int.lt_or_le x.toInt v.toInt with h5 | h5
      · exact Or.inl h5
      · refine Or.inr (Int.not_le.mp fun h6 => ?_)
        refine h1 (x.toInt - v.toInt).toNat (by rw [List.length_drop]; omega) (Int32.toInt_inj.mp ?_)
        rw [i32_addn n3 n4 (by omega)]
        omega
  · cases hs
theorem tg_25 (F : pFx p R s m args meth c M base C0 D cI cQ H0) (K : pKK p l e R s m args below meth c Q M base b0 D cI cQ H0 C0 Z0 r go) (hs : stp sc none (fun v h => some (v, h)) go cl (pc, len, 25, a, b, v, li) ls st h = some r) (X : pMt base b0 D cI cQ H0 (mL M) C0 Z0 ls h LS H locs cells slots) (hd : decode M.2.1 pc = .ok (exI (pc, len, 25, a, b, v, li), len)) (sd : sdB Ms M (pc, len, 25, a, b, v, li) = true) : W p l e R s m args below meth c H locs cells slots Q (F0 m pc LS (st.map (pv base b0))) := by
  obtain ⟨hx, hb, hml, hown, hts, hnw, hnm, hfr, hlo, hK, hbs, hrt, hsz, hlk⟩ := F
  have hs : (match (generalizing := false) st with
        | .int x :: r => if x = 0 then go (li.getD 1 0) ls r h else if x = 1 then go (li.getD 2 0) ls r h else go (li.getD 0 0) ls r h
        | _ => none : pR) = some r := hs
  have hp : ((#[(0, (li.getD 1 0 : Nat) - (pc : Int)), (1, (li.getD 2 0 : Nat) - (pc : Int))] : Array (Int × Int)).toList.zip ((#[(0, (li.getD 1 0 : Nat) - (pc : Int)), (1, (li.getD 2 0 : Nat) - (pc : Int))] : Array (Int × Int)).toList.drop 1)).all (fun (a, next) => a.1 < next.1) = true := by simp
  split at hs
  · rename_i x _ _
    split at hs
    · rename_i h1
      subst h1
      exact lv_lookup (off := (li.getD 1 0 : Nat) - (pc : Int)) (tgt := li.getD 1 0) hx hb hd hp (by simp [Op.lookupswitch.offset]) (by omega) (K _ _ _ _ _ _ _ _ _ hs X)
    · rename_i h0
      split at hs
      · rename_i h1
        subst h1
        exact lv_lookup (off := (li.getD 2 0 : Nat) - (pc : Int)) (tgt := li.getD 2 0) hx hb hd hp (by simp [Op.lookupswitch.offset]) (by omega) (K _ _ _ _ _ _ _ _ _ hs X)
      · rename_i h1
        have h2 : ¬ x.toInt = 0 := fun q => h0 (Int32.toInt_inj.mp (q.trans (by decide)))
        have h3 : ¬ x.toInt = 1 := fun q => h1 (Int32.toInt_inj.mp (q.trans (by decide)))
        have h4 : ¬ 0 = x.toInt := fun q => h2 q.symm
        have h5 : ¬ 1 = x.toInt := fun q => h3 q.symm
        exact lv_lookup (off := (li.getD 0 0 : Nat) - (pc : Int)) (tgt := li.getD 0 0) hx hb hd hp (by simp [Op.lookupswitch.offset, h4, h5]) (by omega) (K _ _ _ _ _ _ _ _ _ hs X)
  · cases hs
end Sound3
end
section
section Sound4
variable {p : Program} {l : Launch} {e : Env} {R : Room} {s : State} {m : MethodId} {args : Array Value} {below : List Frame} {meth : Method} {c : Code} {Q : State → Prop}
variable {Ms : List pM} {M : pM} {base b0 : Nat} {D : va_G} {cI cQ : ClassId} {H0 H : Heap} {C0 Z0 : Nat} {r : Option Value × pH} {sc : pX} {go : Nat → pL → List Value → pH → pR} {cl : Nat → List Value → Nat → Nat → pL → List Value → pH → pR}
variable {pc len a b : Nat} {v : Int32} {li : List Nat} {ls : pL} {st : List Value} {h : pH} {LS : Array Slot} {locs : List Loc} {cells slots : Nat}
variable {call : Nat → List Value → pH → pR}
theorem cal_of {M : pM} {np nl : Nat} (hf : calB Ms M a np nl li = true) : ∃ N, Ms[a]? = some N ∧ Cond.methodLink M.1.cls (li.getD 0 0) N.1 ∈ gW ∧ Cond.code N.1 N.2.1 (mL N) (mR N) ∈ gW ∧ Cond.initialized N.1.cls ∈ gW ∧ mF N + 1 ≤ mF M ∧ 8 + (mL N + 11) + mO N ≤ mO M ∧ (N.1.cls ≠ "java/lang/invoke/MethodHandle" ∧ N.1.cls ≠ "java/lang/invoke/VarHandle") ∧ (parseMethodDescriptor N.1.desc).map (fun d => d.parameters.length) = some np ∧ nl ≤ mL N := by
  unfold calB at hf
  split at hf
  · rename_i N hN
    simp only [Bool.and_eq_true, decide_eq_true_eq] at hf
    obtain ⟨⟨⟨⟨⟨⟨⟨⟨⟨h1, h2⟩, h3⟩, h4⟩, h5⟩, h6⟩, h7⟩, h8⟩, h9⟩, h10⟩ := hf
    exact ⟨N, hN, wAt_in h1, wAt_in h2, wAt_in h3, h4, h5, ⟨h6, h7⟩, h8, h10⟩
  · cases hf
theorem calW {N : pM} {np mc ms : Nat} {s : State} {args : Array Value} {R : Room} {own : String} {idx : Nat} (hts : ∀ w ∈ gW, w.before args s = true) (h1 : Cond.methodLink own idx N.1 ∈ gW) (h2 : Cond.code N.1 N.2.1 (mL N) (mR N) ∈ gW) (h3 : Cond.initialized N.1.cls ∈ gW) (h4 : mF N + 1 ≤ R.frames) (h5 : 8 + (mL N + 11) + mO N ≤ R.locals) (h6 : N.1.cls ≠ "java/lang/invoke/MethodHandle" ∧ N.1.cls ≠ "java/lang/invoke/VarHandle") (h7 : (parseMethodDescriptor N.1.desc).map (fun d => d.parameters.length) = some np) :
    CallB R s args own idx N.1 N.2.1 (mL N) (mR N) (Cond.code N.1 N.2.1 (mL N) (mR N) :: gW) ({ frames := mF N, cells := mc, slots := ms, locals := mO N }) mc ms np := by
  have hG : GoodIn gW (Cond.code N.1 N.2.1 (mL N) (mR N) :: gW) := fun w hw => by
    rcases List.mem_cons.mp hw with rfl | hw
    · exact gW_good _ h2
    · exact gW_good _ hw
  refine ⟨rfl, rfl, h4, h5, pay_in hts hG, List.mem_cons_self, hts _ h2, hts _ h3, h6, fun sig hs => ?_, hts _ h1⟩
  rw [hs] at h7
  exact (Option.some.inj h7).symm
theorem pv_app {v : Option Value} {r' : List Value} : (v.map (pv base b0)).toList ++ r'.map (pv base b0) = (v.toList ++ r').map (pv base b0) := by cases v <;> simp
theorem take_rev {n : Nat} {st : List Value} : ((st.take n).reverse.map (pv base b0)).reverse = (st.take n).map (pv base b0) := by rw [← List.map_reverse, List.reverse_reverse]
theorem tg_6 (F : pFx p R s m args meth c M base C0 D cI cQ H0) (K : pKK p l e R s m args below meth c Q M base b0 D cI cQ H0 C0 Z0 r go) (hs : stp sc none (fun v h => some (v, h)) go cl (pc, len, 6, a, b, v, li) ls st h = some r) (X : pMt base b0 D cI cQ H0 (mL M) C0 Z0 ls h LS H locs cells slots) (hd : decode M.2.1 pc = .ok (exI (pc, len, 6, a, b, v, li), len)) (sd : sdB Ms M (pc, len, 6, a, b, v, li) = true) (KM : ∀ pc ls st h, go pc ls st h = some r → hle h r.2) (hRc : r.2.1.length ≤ R.cells + C0) (hRs : hz r.2 ≤ R.slots + Z0) (hcl : ∀ y as rk pc ls st h, cl y as rk pc ls st h = some r → ∃ v h', call y as h = some (v, h') ∧ go pc ls (v.toList ++ st) h' = some r) (CH : pCH Ms l base b0 D cI cQ call) : W p l e R s m args below meth c H locs cells slots Q (F0 m pc LS (st.map (pv base b0))) := by
  obtain ⟨hx, hb, hml, hown, hts, hnw, hnm, hfr, hlo, hK, hbs, hrt, hsz, hlk⟩ := F
  have hs : (match (generalizing := false) st.drop (b - 1) with
        | .ref k :: r => bif Nat.ble (r.map Value.category).sum 8 && (st.take (b - 1)).all (fun v => Nat.beq v.category 1) then (if kO h (li.getD 2 0) k = true then cl a (.ref k :: (st.take (b - 1)).reverse) (li.getD 1 0) (pc + len) ls r h else none) else none
        | _ => none : pR) = some r := hs
  have h1 : ((len = 3 ∧ 1 ≤ b) ∧ calB Ms M a (b - 1) b li = true) ∧ virB Ms a li = true := by simpa only [sdB, Bool.and_eq_true, decide_eq_true_eq] using sd
  obtain ⟨⟨⟨rfl, hb1'⟩, hf⟩, hv⟩ := h1
  obtain ⟨N, hN, w1, w2, w3, f1, f2, f3, f4, f5⟩ := cal_of hf
  split at hs
  rotate_left
  · cases hs
  rename_i k r' hst
  have hlen : b - 1 < st.length := by
    have h9 := congrArg List.length hst
    rw [List.length_drop, List.length_cons] at h9
    omega
  rw [cond_eq_ite] at hs
  split at hs
  · rename_i hbb
    simp only [Bool.and_eq_true] at hbb
    obtain ⟨hb1, hb2⟩ := hbb
    split at hs
    rotate_left
    · cases hs
    rename_i hk
    have hk := kO_at hk
    obtain ⟨v', h', hcall, hs⟩ := hcl _ _ _ _ _ _ _ hs
    have hb8 := Nat.le_of_ble_eq_true hb1
    have hcat : ∀ v ∈ (.ref k :: (st.take (b - 1)).reverse), v.category = 1 := by
      intro v hv
      rcases List.mem_cons.mp hv with rfl | hv
      · rfl
      · exact Nat.eq_of_beq_eq_true (List.all_eq_true.mp hb2 v (List.mem_reverse.mp hv))
    have hln : (.ref k :: (st.take (b - 1)).reverse).length ≤ mL N := by
      rw [List.length_cons, List.length_reverse, List.length_take]
      omega
    obtain ⟨hle1, hMet⟩ := CH a N _ _ _ _ hN hcat hln hcall
    have hle2 := KM _ _ _ _ hs
    have a1 := hle1.1
    have a2 := hle1.2
    have a3 := hle2.1
    have a4 := hle2.2
    have x5 := X.2.2.2.2.1
    have x6 := X.2.2.2.2.2
    refine W_size hsz (fun hsl => ?_)
    have hHs : H.size = base + h.1.length := by
      have := X.1
      omega
    unfold virB at hv
    rw [hN] at hv
    simp only [Bool.and_eq_true] at hv
    obtain ⟨⟨v1, v2⟩, v3⟩ := hv
    split at v3
    rotate_left
    · cases v3
    rename_i q hq
    have v3 := of_decide_eq_true v3
    refine pc_call (v := v') (h' := h') (rest := (r'.map (pv base b0))) rfl (va_runV (As := ((st.take (b - 1)).reverse.map (pv base b0))) (rest := (r'.map (pv base b0))) (C := N.1.cls) (b := base + k) ⟨hx, hb, hml, hown, hts⟩ hMet ⟨calW hts w1 w2 w3 (Nat.le_trans f1 hfr) (Nat.le_trans f2 hlo) f3 f4, hts _ (wAt_in v1), hts _ (wAt_in v2)⟩ ⟨pB_blind, by have h9 := va_recv hK X.2.1 hq (pW_at hk); rw [v3] at h9; exact h9, fun U hU hW => ⟨rfl, by rw [hU]; exact hHs, by rw [hU]; exact X.2.1, va_K.moved hW.alike hK, pNt_warm hW hnw⟩⟩ rfl (by rw [List.length_map, List.length_reverse, List.length_take]; omega) X.2.2.2.1.1 (by show st.map (pv base b0) = _; rw [take_rev, show Value.ref (base + k) :: r'.map (pv base b0) = (Value.ref k :: r').map (pv base b0) from rfl, ← hst, ← List.map_append, List.take_append_drop]) (lv_room (by rw [cats]; exact hb8)) hd ⟨by omega, by omega⟩) X.2.2.1 (fun H1 locs1 hP1 hz1 hS1 => ?_)
    rw [pv_app]
    exact K _ _ _ _ _ _ _ _ _ hs ⟨hz1, hP1, hS1, X.2.2.2.1, by omega, by omega⟩
  · cases hs
theorem tg_8 (F : pFx p R s m args meth c M base C0 D cI cQ H0) (K : pKK p l e R s m args below meth c Q M base b0 D cI cQ H0 C0 Z0 r go) (hs : stp sc none (fun v h => some (v, h)) go cl (pc, len, 8, a, b, v, li) ls st h = some r) (X : pMt base b0 D cI cQ H0 (mL M) C0 Z0 ls h LS H locs cells slots) (hd : decode M.2.1 pc = .ok (exI (pc, len, 8, a, b, v, li), len)) (sd : sdB Ms M (pc, len, 8, a, b, v, li) = true) (KM : ∀ pc ls st h, go pc ls st h = some r → hle h r.2) (hRc : r.2.1.length ≤ R.cells + C0) (hRs : hz r.2 ≤ R.slots + Z0) (hcl : ∀ y as rk pc ls st h, cl y as rk pc ls st h = some r → ∃ v h', call y as h = some (v, h') ∧ go pc ls (v.toList ++ st) h' = some r) (CH : pCH Ms l base b0 D cI cQ call) : W p l e R s m args below meth c H locs cells slots Q (F0 m pc LS (st.map (pv base b0))) := by
  obtain ⟨hx, hb, hml, hown, hts, hnw, hnm, hfr, hlo, hK, hbs, hrt, hsz, hlk⟩ := F
  have hs : (match (generalizing := false) st.drop (b - 1) with
        | .ref k :: r => bif Nat.ble (r.map Value.category).sum 8 && (st.take (b - 1)).all (fun v => Nat.beq v.category 1) then cl a (.ref k :: (st.take (b - 1)).reverse) (li.getD 1 0) (pc + len) ls r h else none
        | _ => none : pR) = some r := hs
  have h1 : ((len = 3 ∧ 1 ≤ b) ∧ calB Ms M a (b - 1) b li = true) ∧ spcB Ms a li = true := by simpa only [sdB, Bool.and_eq_true, decide_eq_true_eq] using sd
  obtain ⟨⟨⟨rfl, hb1'⟩, hf⟩, hv⟩ := h1
  obtain ⟨N, hN, w1, w2, w3, f1, f2, f3, f4, f5⟩ := cal_of hf
  split at hs
  rotate_left
  · cases hs
  rename_i k r' hst
  have hlen : b - 1 < st.length := by
    have h9 := congrArg List.length hst
    rw [List.length_drop, List.length_cons] at h9
    omega
  rw [cond_eq_ite] at hs
  split at hs
  · rename_i hbb
    simp only [Bool.and_eq_true] at hbb
    obtain ⟨hb1, hb2⟩ := hbb
    obtain ⟨v', h', hcall, hs⟩ := hcl _ _ _ _ _ _ _ hs
    have hb8 := Nat.le_of_ble_eq_true hb1
    have hcat : ∀ v ∈ (.ref k :: (st.take (b - 1)).reverse), v.category = 1 := by
      intro v hv
      rcases List.mem_cons.mp hv with rfl | hv
      · rfl
      · exact Nat.eq_of_beq_eq_true (List.all_eq_true.mp hb2 v (List.mem_reverse.mp hv))
    have hln : (.ref k :: (st.take (b - 1)).reverse).length ≤ mL N := by
      rw [List.length_cons, List.length_reverse, List.length_take]
      omega
    obtain ⟨hle1, hMet⟩ := CH a N _ _ _ _ hN hcat hln hcall
    have hle2 := KM _ _ _ _ hs
    have a1 := hle1.1
    have a2 := hle1.2
    have a3 := hle2.1
    have a4 := hle2.2
    have x5 := X.2.2.2.2.1
    have x6 := X.2.2.2.2.2
    refine W_size hsz (fun hsl => ?_)
    have hHs : H.size = base + h.1.length := by
      have := X.1
      omega
    unfold spcB at hv
    rw [hN] at hv
    simp only [Bool.and_eq_true, decide_eq_true_eq] at hv
    obtain ⟨⟨v1, v2⟩, v3⟩ := hv
    refine pc_call (v := v') (h' := h') (rest := (r'.map (pv base b0))) rfl (va_runI (As := ((st.take (b - 1)).reverse.map (pv base b0))) (rest := (r'.map (pv base b0))) (b := base + k) ⟨hx, hb, hml, hown, hts⟩ hMet ⟨by have h9 := calW (N := N) (mc := h'.1.length - h.1.length) (ms := hz h' - hz h) hts w1 w2 w3 (Nat.le_trans f1 hfr) (Nat.le_trans f2 hlo) f3 f4; rw [v3] at h9 ⊢; exact h9, v2, hts _ (wAt_in v1)⟩ ⟨pB_blind, fun U hU hW => ⟨rfl, by rw [hU]; exact hHs, by rw [hU]; exact X.2.1, va_K.moved hW.alike hK, pNt_warm hW hnw⟩⟩ rfl (by rw [List.length_map, List.length_reverse, List.length_take]; omega) X.2.2.2.1.1 (by show st.map (pv base b0) = _; rw [take_rev, show Value.ref (base + k) :: r'.map (pv base b0) = (Value.ref k :: r').map (pv base b0) from rfl, ← hst, ← List.map_append, List.take_append_drop]) (lv_room (by rw [cats]; exact hb8)) hd ⟨by omega, by omega⟩) X.2.2.1 (fun H1 locs1 hP1 hz1 hS1 => ?_)
    rw [pv_app]
    exact K _ _ _ _ _ _ _ _ _ hs ⟨hz1, hP1, hS1, X.2.2.2.1, by omega, by omega⟩
  · cases hs
theorem tg_7 (F : pFx p R s m args meth c M base C0 D cI cQ H0) (K : pKK p l e R s m args below meth c Q M base b0 D cI cQ H0 C0 Z0 r go) (hs : stp sc none (fun v h => some (v, h)) go cl (pc, len, 7, a, b, v, li) ls st h = some r) (X : pMt base b0 D cI cQ H0 (mL M) C0 Z0 ls h LS H locs cells slots) (hd : decode M.2.1 pc = .ok (exI (pc, len, 7, a, b, v, li), len)) (sd : sdB Ms M (pc, len, 7, a, b, v, li) = true) (KM : ∀ pc ls st h, go pc ls st h = some r → hle h r.2) (hRc : r.2.1.length ≤ R.cells + C0) (hRs : hz r.2 ≤ R.slots + Z0) (hcl : ∀ y as rk pc ls st h, cl y as rk pc ls st h = some r → ∃ v h', call y as h = some (v, h') ∧ go pc ls (v.toList ++ st) h' = some r) (CH : pCH Ms l base b0 D cI cQ call) : W p l e R s m args below meth c H locs cells slots Q (F0 m pc LS (st.map (pv base b0))) := by
  obtain ⟨hx, hb, hml, hown, hts, hnw, hnm, hfr, hlo, hK, hbs, hrt, hsz, hlk⟩ := F
  have hs : (bif (Nat.ble b st.length && Nat.ble ((st.drop b).map Value.category).sum 8) && (st.take b).all (fun v => Nat.beq v.category 1) then cl a (st.take b).reverse (li.getD 1 0) (pc + len) ls (st.drop b) h else none : pR) = some r := hs
  have h1 : (len = 3 ∧ calB Ms M a b b li = true) ∧ stcB Ms a li = true := by simpa only [sdB, Bool.and_eq_true, decide_eq_true_eq] using sd
  obtain ⟨⟨rfl, hf⟩, hv⟩ := h1
  obtain ⟨N, hN, w1, w2, w3, f1, f2, f3, f4, f5⟩ := cal_of hf
  rw [cond_eq_ite] at hs
  split at hs
  · rename_i hbb
    simp only [Bool.and_eq_true] at hbb
    obtain ⟨⟨hb0, hb1⟩, hb2⟩ := hbb
    have hlen := Nat.le_of_ble_eq_true hb0
    obtain ⟨v', h', hcall, hs⟩ := hcl _ _ _ _ _ _ _ hs
    have hb8 := Nat.le_of_ble_eq_true hb1
    have hcat : ∀ v ∈ (st.take b).reverse, v.category = 1 := by
      intro v hv
      skip
      skip
      exact Nat.eq_of_beq_eq_true (List.all_eq_true.mp hb2 v (List.mem_reverse.mp hv))
    have hln : (st.take b).reverse.length ≤ mL N := by
      rw [List.length_reverse, List.length_take]
      omega
    obtain ⟨hle1, hMet⟩ := CH a N _ _ _ _ hN hcat hln hcall
    have hle2 := KM _ _ _ _ hs
    have a1 := hle1.1
    have a2 := hle1.2
    have a3 := hle2.1
    have a4 := hle2.2
    have x5 := X.2.2.2.2.1
    have x6 := X.2.2.2.2.2
    refine W_size hsz (fun hsl => ?_)
    have hHs : H.size = base + h.1.length := by
      have := X.1
      omega
    unfold stcB at hv
    rw [hN] at hv
    refine pc_call (v := v') (h' := h') (rest := ((st.drop b).map (pv base b0))) rfl (va_runS (As := ((st.take b).reverse.map (pv base b0))) (rest := ((st.drop b).map (pv base b0))) ⟨hx, hb, hml, hown, hts⟩ hMet ⟨calW hts w1 w2 w3 (Nat.le_trans f1 hfr) (Nat.le_trans f2 hlo) f3 f4, hts _ (wAt_in hv)⟩ ⟨pB_blind, fun U hU hW => ⟨rfl, by rw [hU]; exact hHs, by rw [hU]; exact X.2.1, va_K.moved hW.alike hK, pNt_warm hW hnw⟩⟩ rfl (by rw [List.length_map, List.length_reverse, List.length_take]; omega) X.2.2.2.1.1 (by show st.map (pv base b0) = _; rw [take_rev, ← List.map_append, List.take_append_drop]) (lv_room (by rw [cats]; exact hb8)) hd ⟨by omega, by omega⟩) X.2.2.1 (fun H1 locs1 hP1 hz1 hS1 => ?_)
    rw [pv_app]
    exact K _ _ _ _ _ _ _ _ _ hs ⟨hz1, hP1, hS1, X.2.2.2.1, by omega, by omega⟩
  · cases hs
end Sound4
end
section
section Sound5
variable {Ms : List pM} {l : Launch}
def pCHn (Ms : List pM) (l : Launch) (n : Nat) : Prop := ∀ (base b0 : Nat) (D : va_G) (cI cQ : ClassId), pCH Ms l base b0 D cI cQ (fun y as h => rn Ms none n y 0 (as.map some) [] h)
def pFR (Ms : List pM) (l : Launch) (n : Nat) : Prop :=
  ∀ (sc : pX) (mi : Nat) (M : pM) (pc : Nat) (ls : pL) (st : List Value) (h : pH) (r : Option Value × pH), Ms[mi]? = some M → rn Ms sc n mi pc ls st h = some r →
    ∀ (p : Program) (e : Env) (R : Room) (s : State) (m : MethodId) (args : Array Value) (below : List Frame) (meth : Method) (c : Code) (Q : State → Prop) (base b0 : Nat) (D : va_G) (cI cQ : ClassId) (H0 H : Heap) (C0 Z0 : Nat) (LS : Array Slot) (locs : List Loc) (cells slots : Nat),
      pFx p R s m args meth c M base C0 D cI cQ H0 → pSc sc b0 s H0 base → pRT p l e R s m args below meth c Q M base b0 D cI cQ H0 C0 Z0 r → pMt base b0 D cI cQ H0 (mL M) C0 Z0 ls h LS H locs cells slots → r.2.1.length ≤ R.cells + C0 → hz r.2 ≤ R.slots + Z0 →
      W p l e R s m args below meth c H locs cells slots Q (F0 m pc LS (st.map (pv base b0)))
theorem fr_step (hMs : ∀ (mi : Nat) (M : pM), Ms[mi]? = some M → okM Ms M) {n : Nat} (hF : pFR Ms l n) (hC : pCHn Ms l n) : pFR Ms l (n + 1) := by
  intro sc mi M pc ls st h r hM hr p e R s m args below meth c Q base b0 D cI cQ H0 H C0 Z0 LS locs cells slots F S T X hRc hRs
  rw [rn_succ, hM, oo_v] at hr
  obtain ⟨e0, he, hs⟩ := oo_some hr
  obtain ⟨hein, hepc⟩ := fe_in he
  obtain ⟨hd, sd⟩ := (hMs mi M hM).2 e0 hein
  obtain ⟨pc0, len, tag, a, b, v, li⟩ := e0
  have hepc : pc0 = pc := hepc
  subst hepc
  have K : pKK p l e R s m args below meth c Q M base b0 D cI cQ H0 C0 Z0 r (fun pc ls st h => rn Ms sc n mi pc (trm M.2.2.2.2.2.2.2 pc ls) st h) := by
    intro pc ls st h LS H locs cells slots h1 X1
    exact hF sc mi M pc _ st h r hM h1 p e R s m args below meth c Q base b0 D cI cQ H0 H C0 Z0 LS locs cells slots F S T ⟨X1.1, X1.2.1, X1.2.2.1, lr_trm X1.2.2.2.1, X1.2.2.2.2⟩ hRc hRs
  have KM : ∀ (pc : Nat) (ls : pL) (st : List Value) (h : pH), rn Ms sc n mi pc (trm M.2.2.2.2.2.2.2 pc ls) st h = some r → hle h r.2 := fun pc ls st h h1 => rn_le n h1
  have hcl : ∀ (y : Nat) (as : List Value) (rk pc : Nat) (ls : pL) (st : List Value) (h : pH), cc rk (rn Ms none n y 0 (as.map some) [] h) (fun w h => rn Ms sc n mi pc (trm M.2.2.2.2.2.2.2 pc ls) (w ++ st) h) = some r → ∃ (v : Option Value) (h' : pH), rn Ms none n y 0 (as.map some) [] h = some (v, h') ∧ rn Ms sc n mi pc (trm M.2.2.2.2.2.2.2 pc ls) (v.toList ++ st) h' = some r := by
    intro y as rk pc ls st h h1
    obtain ⟨v, h', w, h2, h3, h4⟩ := cc_some h1
    exact ⟨v, h', h2, by rw [← h3]; exact h4⟩
  have CH := hC base b0 D cI cQ
  match tag, hs, hd, sd with
  | 0, hs, hd, sd => exact tg_0 F K hs X hd sd
  | 1, hs, hd, sd => exact tg_1 F K hs X hd sd
  | 2, hs, hd, sd => exact tg_2 F K hs X hd sd
  | 3, hs, hd, sd => exact tg_3 F K hs X hd sd
  | 4, hs, hd, sd => exact tg_4 F K hs X hd sd
  | 5, hs, hd, sd => exact tg_5 F K hs X hd sd
  | 6, hs, hd, sd => exact tg_6 F K hs X hd sd KM hRc hRs hcl CH
  | 7, hs, hd, sd => exact tg_7 F K hs X hd sd KM hRc hRs hcl CH
  | 8, hs, hd, sd => exact tg_8 F K hs X hd sd KM hRc hRs hcl CH
  | 9, hs, hd, sd => exact tg_9 F K hs X hd sd T
  | 10, hs, hd, sd => exact tg_10 F K hs X hd sd
  | 11, hs, hd, sd => exact tg_11 F K hs X hd sd
  | 12, hs, hd, sd => exact tg_12 F K hs X hd sd S
  | 13, hs, hd, sd => exact tg_13 F K hs X hd sd
  | 14, hs, hd, sd => exact tg_14 F K hs X hd sd
  | 15, hs, hd, sd => exact tg_15 F K hs X hd sd
  | 16, hs, hd, sd => exact tg_16 F K hs X hd sd
  | 17, hs, hd, sd => exact tg_17 F K hs X hd sd
  | 18, hs, hd, sd => exact tg_18 F K hs X hd sd
  | 19, hs, hd, sd => exact tg_19 F K hs X hd sd T
  | 20, hs, hd, sd => exact tg_20 F K hs X hd sd
  | 21, hs, hd, sd => exact tg_21 F K hs X hd sd KM hRc hRs
  | 22, hs, hd, sd => exact tg_22 F K hs X hd sd KM hRc hRs
  | 23, hs, hd, sd => exact tg_23 F K hs X hd sd
  | 24, hs, hd, sd => exact tg_24 F K hs X hd sd
  | 25, hs, hd, sd => exact tg_25 F K hs X hd sd
  | 26, hs, hd, sd => exact tg_26 F K hs X hd sd S
  | 27, hs, hd, sd => exact tg_27 F K hs X hd sd
  | 28, hs, hd, sd => exact tg_28 F K hs X hd sd
  | 29, hs, hd, sd => exact tg_29 F K hs X hd sd
  | 30, hs, hd, sd => exact tg_30 F K hs X hd sd T
  | 31, hs, hd, sd => exact tg_31 F K hs X hd sd
  | 32, hs, hd, sd => exact tg_32 F K hs X hd sd
  | 33, hs, hd, sd => exact tg_33 F K hs X hd sd
  | 34, hs, hd, sd => exact tg_34 F K hs X hd sd
  | 35, hs, hd, sd => exact tg_35 F K hs X hd sd
  | 36, hs, hd, sd => exact tg_36 F K hs X hd sd T
  | 37, hs, hd, sd => exact tg_37 F K hs X hd sd
  | 38, hs, hd, sd => exact tg_38 F K hs X hd sd
  | 39, hs, hd, sd => exact tg_39 F K hs X hd sd
  | 40, hs, hd, sd => exact tg_40 F K hs X hd sd
  | 41, hs, hd, sd => exact tg_41 F K hs X hd sd KM hRc hRs
  | 42, hs, hd, sd => exact tg_42 F K hs X hd sd
  | 43, hs, hd, sd => exact tg_43 F K hs X hd sd
  | 44, hs, hd, sd => exact tg_44 F K hs X hd sd
  | t + 45, hs, hd, sd => simp [sdB] at sd
theorem lv_args_at : ∀ (vs : List Value) (j : Nat), (∀ v ∈ vs, v.category = 1) → ∀ (i : Nat) (v : Value), vs[i]? = some v → (j + i, v) ∈ lv_args j vs
  | [], j, _, i, v, h => by simp at h
  | w :: vs, j, hc, 0, v, h => by
    have : w = v := by simpa using h
    subst this
    exact List.mem_cons_self
  | w :: vs, j, hc, i + 1, v, h => by
    have h1 : vs[i]? = some v := by simpa using h
    have h2 := lv_args_at vs (j + 1) (fun v hv => hc v (List.mem_cons_of_mem _ hv)) i v h1
    have h3 : ¬ w.category = 2 := by
      have := hc w List.mem_cons_self
      omega
    show (j + (i + 1), v) ∈ (j, w) :: lv_args (if w.category = 2 then j + 2 else j + 1) vs
    rw [if_neg h3, show j + (i + 1) = j + 1 + i by omega]
    exact List.mem_cons_of_mem _ h2
theorem lg_len : ∀ (vs : List Value), (∀ v ∈ vs, v.category = 1) → (lg_sl vs).length = vs.length
  | [], _ => rfl
  | w :: vs, hc => by
    have h3 : ¬ w.category = 2 := by
      have := hc w List.mem_cons_self
      omega
    have h4 := lg_len vs (fun v hv => hc v (List.mem_cons_of_mem _ hv))
    unfold lg_sl at h4 ⊢
    rw [List.flatMap_cons, if_neg h3, List.length_append, h4, List.length_cons]
    simp only [List.length_cons, List.length_nil]
    omega
set_option maxHeartbeats 1000000 in
theorem ch_of (hMs : ∀ (mi : Nat) (M : pM), Ms[mi]? = some M → okM Ms M) {n : Nat} (hF : pFR Ms l n) : pCHn Ms l n := by
  intro base b0 D cI cQ y N as h v h' hN hcat hlen hrun
  have hle1 := rn_le n hrun
  refine ⟨hle1, ?_⟩
  unfold pMet
  refine Met.ofW (cc := N.2.1) (maxL := mL N) (ret := mR N) (hMs y N hN).1 rfl ?_
  intro p e s m args below meth c s₁ B hml hv
  obtain ⟨rfl, hsz, hP, hK, hn⟩ := hv
  have hts := atoms_spec (ws := Cond.code N.1 N.2.1 (mL N) (mR N) :: gW) B.pre
  have hcat' : ∀ v ∈ as.map (pv base b0), v.category = 1 := by
    intro v hv
    obtain ⟨w, h1, rfl⟩ := List.mem_map.mp hv
    rw [pv_cat]
    exact hcat w h1
  have hll : (lg_sl (as.map (pv base b0))).length ≤ mL N := by rw [lg_len _ hcat', List.length_map]; exact hlen
  have hl := lv_entry (as.map (pv base b0)) (n := mL N) hll
  rw [lg_entry_eq]
  have a1 := hle1.1
  have a2 := hle1.2
  dsimp only at a1 a2
  refine hF none y N 0 (as.map some) [] h (v, h') hN hrun p e _ s m _ below meth c _ base b0 D cI cQ s.heap s.heap h.1.length (hz h) _ [] 0 0
    ⟨B.exec, B.bytes, hml, findClass_of_methodNamed B.named, fun w hw => hts w (List.mem_cons_of_mem _ hw), hn, (name_of_methodNamed B.named B.method).1, Nat.le_refl _, Nat.le_refl _, hK, by omega, B.returns.symm, hsz, B.notSynchronized⟩
    (fun q hq => by cases hq) ?_ ⟨by omega, hP, va_S.rf, ⟨hl.1, hl.2.1, fun i w hi => ?_⟩, by omega, by omega⟩ (by show h'.1.length ≤ (h'.1.length - h.1.length) + h.1.length; omega) (by show hz h' ≤ (hz h' - hz h) + hz h; omega)
  · intro pc i LS H locs cells slots hd hi hlo hP1 hS1 hc hz1
    dsimp only at hc hz1
    obtain rfl : cells = h'.1.length - h.1.length := by omega
    obtain rfl : slots = hz h' - hz h := by omega
    have hq : ∀ t : State, t.heap = H → s.WarmedH t.vm → pQ base b0 D cI cQ v h' (as.map (pv base b0)).toArray s (.returned (v.map (pv base b0))) t := fun t ht hW => ⟨⟨rfl, by rw [ht]; exact hP1, by rw [ht]; exact hlo⟩, hS1.F ht⟩
    rcases hi with ⟨rfl, x, hx1, hx2⟩ | ⟨rfl, hx1, hx2⟩ | ⟨rfl, k, hx1, hx2⟩ | ⟨rfl, x, hx1, hx2⟩
    · dsimp only at hx1
      subst hx1
      rcases hx2 with hx2 | ⟨hx2, hx3⟩
      · exact W.iret (v := x) B.exec B.bytes (B.returns.trans hx2) hq hS1.2.2 hd B.notSynchronized
      · exact W.zret (v := x) (ty := .boolean) B.exec B.bytes (B.returns.trans hx2) (by rcases hx3 with rfl | rfl <;> decide) hq hS1.2.2 hd B.notSynchronized
    · dsimp only at hx1
      subst hx1
      exact W.vret B.exec B.bytes (B.returns.trans hx2) hq hS1.2.2 hd B.notSynchronized
    · dsimp only at hx1
      subst hx1
      have h9 : ∃ rt, mR N = some rt ∧ ((∃ n, rt = .object n) ∨ ∃ t, rt = .array t) := by
        revert hx2
        generalize mR N = o
        intro hx2
        cases o with
        | none => cases hx2
        | some rt => cases rt <;> first | exact ⟨_, rfl, Or.inl ⟨_, rfl⟩⟩ | exact ⟨_, rfl, Or.inr ⟨_, rfl⟩⟩ | (exact absurd hx2 (by simp [rkOf]))
      obtain ⟨rt, g1, g2⟩ := h9
      exact W.aret (v := .ref (base + k)) B.exec B.bytes (B.returns.trans g1) g2 (Or.inr ⟨_, rfl⟩) hq hS1.2.2 hd B.notSynchronized
    · dsimp only at hx1
      subst hx1
      exact W.dret (v := x) B.exec B.bytes (B.returns.trans hx2) hq hS1.2.2 hd B.notSynchronized
  · rw [List.getElem?_map] at hi
    cases hz1 : as[i]? with
    | none => rw [hz1] at hi; cases hi
    | some w1 =>
      rw [hz1] at hi
      obtain rfl : w1 = w := by simpa using hi
      have h8 := lv_args_at (as.map (pv base b0)) 0 hcat' i (pv base b0 w1) (by rw [List.getElem?_map, hz1]; rfl)
      rw [Nat.zero_add] at h8
      exact hl.2.2 (i, pv base b0 w1) h8
/-- THE MACHINE DOES WHAT THE PURE ONE DOES: every run that ends, of a frame and of a call -/
theorem fr_all (hMs : ∀ (mi : Nat) (M : pM), Ms[mi]? = some M → okM Ms M) : ∀ n, pFR Ms l n
  | 0 => fun _ _ _ _ _ _ _ _ _ h => by cases h
  | n + 1 => fr_step hMs (fr_all hMs n) (ch_of hMs (fr_all hMs n))
end Sound5
end
