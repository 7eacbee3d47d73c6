section
-- ===== PART A: goes FIRST, ahead of the names: the tables' words, and 'selects' of the private methods out of them =====
/-- a private method of a class that the tables say can be made, by its rows of tables_1 -/
def lw_okq (q : MethodName × Nat) : Prop := (q.1.cls ≠ "java/lang/invoke/MethodHandle" ∧ q.1.cls ≠ "java/lang/invoke/VarHandle") ∧ Cond.instantiable q.1.cls q.2 ∈ tables_1 ∧ Cond.privateMethod q.1 ∈ tables_1 ∧ Cond.instanceMethod q.1 ∈ tables_1
theorem lw_p0 : lw_okq (⟨"ShelfSpines$History", "dropOldest", "()V"⟩, 2) := ⟨⟨by decide +kernel, by decide +kernel⟩, List.mem_of_getElem? (i := 92) (by decide +kernel), List.mem_of_getElem? (i := 277) (by decide +kernel), List.mem_of_getElem? (i := 278) (by decide +kernel)⟩
theorem lw_p1 : lw_okq (⟨"ShelfSpines$Shelf", "renumber", "(II)V"⟩, 10) := ⟨⟨by decide +kernel, by decide +kernel⟩, List.mem_of_getElem? (i := 23) (by decide +kernel), List.mem_of_getElem? (i := 298) (by decide +kernel), List.mem_of_getElem? (i := 299) (by decide +kernel)⟩
theorem lw_p2 : lw_okq (⟨"ShelfSpines", "countAccounts", "(I)I"⟩, 8) := ⟨⟨by decide +kernel, by decide +kernel⟩, List.mem_of_getElem? (i := 15) (by decide +kernel), List.mem_of_getElem? (i := 503) (by decide +kernel), List.mem_of_getElem? (i := 504) (by decide +kernel)⟩
theorem lw_p3 : lw_okq (⟨"ShelfSpines", "drawnSearch", "()LShelfSpines$Search;"⟩, 8) := ⟨⟨by decide +kernel, by decide +kernel⟩, List.mem_of_getElem? (i := 15) (by decide +kernel), List.mem_of_getElem? (i := 515) (by decide +kernel), List.mem_of_getElem? (i := 516) (by decide +kernel)⟩
theorem lw_p4 : lw_okq (⟨"ShelfSpines$Graph", "drawOnward", "(III)V"⟩, 6) := ⟨⟨by decide +kernel, by decide +kernel⟩, List.mem_of_getElem? (i := 125) (by decide +kernel), List.mem_of_getElem? (i := 528) (by decide +kernel), List.mem_of_getElem? (i := 529) (by decide +kernel)⟩
theorem lw_p5 : lw_okq (⟨"ShelfSpines$Graph", "shareOut", "(II)V"⟩, 6) := ⟨⟨by decide +kernel, by decide +kernel⟩, List.mem_of_getElem? (i := 125) (by decide +kernel), List.mem_of_getElem? (i := 538) (by decide +kernel), List.mem_of_getElem? (i := 539) (by decide +kernel)⟩
theorem lw_p6 : lw_okq (⟨"ShelfSpines$Graph", "drawInto", "(II)V"⟩, 6) := ⟨⟨by decide +kernel, by decide +kernel⟩, List.mem_of_getElem? (i := 125) (by decide +kernel), List.mem_of_getElem? (i := 542) (by decide +kernel), List.mem_of_getElem? (i := 543) (by decide +kernel)⟩
theorem lw_p7 : lw_okq (⟨"ShelfSpines$Search", "findWays", "(LShelfSpines$Shelf;I)LShelfSpines$Row;"⟩, 9) := ⟨⟨by decide +kernel, by decide +kernel⟩, List.mem_of_getElem? (i := 157) (by decide +kernel), List.mem_of_getElem? (i := 550) (by decide +kernel), List.mem_of_getElem? (i := 551) (by decide +kernel)⟩
theorem lw_p8 : lw_okq (⟨"ShelfSpines$Search", "findFewest", "(LShelfSpines$Shelf;)V"⟩, 9) := ⟨⟨by decide +kernel, by decide +kernel⟩, List.mem_of_getElem? (i := 157) (by decide +kernel), List.mem_of_getElem? (i := 554) (by decide +kernel), List.mem_of_getElem? (i := 555) (by decide +kernel)⟩
theorem lw_p9 : lw_okq (⟨"ShelfSpines$Search", "startAtOrder", "(LShelfSpines$Shelf;LShelfSpines$Row;II)V"⟩, 9) := ⟨⟨by decide +kernel, by decide +kernel⟩, List.mem_of_getElem? (i := 157) (by decide +kernel), List.mem_of_getElem? (i := 564) (by decide +kernel), List.mem_of_getElem? (i := 565) (by decide +kernel)⟩
theorem lw_p10 : lw_okq (⟨"ShelfSpines$Search", "comeFrom", "(III)I"⟩, 9) := ⟨⟨by decide +kernel, by decide +kernel⟩, List.mem_of_getElem? (i := 157) (by decide +kernel), List.mem_of_getElem? (i := 571) (by decide +kernel), List.mem_of_getElem? (i := 572) (by decide +kernel)⟩
theorem lw_p11 : lw_okq (⟨"ShelfSpines$Search", "settleCosts", "(LShelfSpines$Shelf;)V"⟩, 9) := ⟨⟨by decide +kernel, by decide +kernel⟩, List.mem_of_getElem? (i := 157) (by decide +kernel), List.mem_of_getElem? (i := 581) (by decide +kernel), List.mem_of_getElem? (i := 582) (by decide +kernel)⟩
theorem lw_p12 : lw_okq (⟨"ShelfSpines$Search", "offerBack", "(LShelfSpines$Shelf;LShelfSpines$Row;I)I"⟩, 9) := ⟨⟨by decide +kernel, by decide +kernel⟩, List.mem_of_getElem? (i := 157) (by decide +kernel), List.mem_of_getElem? (i := 590) (by decide +kernel), List.mem_of_getElem? (i := 591) (by decide +kernel)⟩
theorem lw_p13 : lw_okq (⟨"ShelfSpines$Search", "lowerCosts", "(LShelfSpines$Shelf;)V"⟩, 9) := ⟨⟨by decide +kernel, by decide +kernel⟩, List.mem_of_getElem? (i := 157) (by decide +kernel), List.mem_of_getElem? (i := 596) (by decide +kernel), List.mem_of_getElem? (i := 597) (by decide +kernel)⟩
theorem lw_p14 : lw_okq (⟨"ShelfSpines$Search", "nextMove", "(LShelfSpines$Shelf;LShelfSpines$Row;ZI)I"⟩, 9) := ⟨⟨by decide +kernel, by decide +kernel⟩, List.mem_of_getElem? (i := 157) (by decide +kernel), List.mem_of_getElem? (i := 609) (by decide +kernel), List.mem_of_getElem? (i := 610) (by decide +kernel)⟩
theorem lw_p15 : lw_okq (⟨"ShelfSpines$Search", "reachOn", "(III)I"⟩, 9) := ⟨⟨by decide +kernel, by decide +kernel⟩, List.mem_of_getElem? (i := 157) (by decide +kernel), List.mem_of_getElem? (i := 637) (by decide +kernel), List.mem_of_getElem? (i := 638) (by decide +kernel)⟩
def lw_privs_1 : List (MethodName × Nat) := [(⟨"ShelfSpines$History", "dropOldest", "()V"⟩, 2), (⟨"ShelfSpines$Shelf", "renumber", "(II)V"⟩, 10), (⟨"ShelfSpines", "countAccounts", "(I)I"⟩, 8), (⟨"ShelfSpines", "drawnSearch", "()LShelfSpines$Search;"⟩, 8), (⟨"ShelfSpines$Graph", "drawOnward", "(III)V"⟩, 6), (⟨"ShelfSpines$Graph", "shareOut", "(II)V"⟩, 6), (⟨"ShelfSpines$Graph", "drawInto", "(II)V"⟩, 6), (⟨"ShelfSpines$Search", "findWays", "(LShelfSpines$Shelf;I)LShelfSpines$Row;"⟩, 9), (⟨"ShelfSpines$Search", "findFewest", "(LShelfSpines$Shelf;)V"⟩, 9), (⟨"ShelfSpines$Search", "startAtOrder", "(LShelfSpines$Shelf;LShelfSpines$Row;II)V"⟩, 9), (⟨"ShelfSpines$Search", "comeFrom", "(III)I"⟩, 9), (⟨"ShelfSpines$Search", "settleCosts", "(LShelfSpines$Shelf;)V"⟩, 9), (⟨"ShelfSpines$Search", "offerBack", "(LShelfSpines$Shelf;LShelfSpines$Row;I)I"⟩, 9), (⟨"ShelfSpines$Search", "lowerCosts", "(LShelfSpines$Shelf;)V"⟩, 9), (⟨"ShelfSpines$Search", "nextMove", "(LShelfSpines$Shelf;LShelfSpines$Row;ZI)I"⟩, 9), (⟨"ShelfSpines$Search", "reachOn", "(III)I"⟩, 9)]
theorem lw_r1 : ∀ q ∈ lw_privs_1, lw_okq q := List.forall_mem_cons.mpr ⟨lw_p0, List.forall_mem_cons.mpr ⟨lw_p1, List.forall_mem_cons.mpr ⟨lw_p2, List.forall_mem_cons.mpr ⟨lw_p3, List.forall_mem_cons.mpr ⟨lw_p4, List.forall_mem_cons.mpr ⟨lw_p5, List.forall_mem_cons.mpr ⟨lw_p6, List.forall_mem_cons.mpr ⟨lw_p7, List.forall_mem_cons.mpr ⟨lw_p8, List.forall_mem_cons.mpr ⟨lw_p9, List.forall_mem_cons.mpr ⟨lw_p10, List.forall_mem_cons.mpr ⟨lw_p11, List.forall_mem_cons.mpr ⟨lw_p12, List.forall_mem_cons.mpr ⟨lw_p13, List.forall_mem_cons.mpr ⟨lw_p14, List.forall_mem_cons.mpr ⟨lw_p15, fun _ h => absurd h List.not_mem_nil⟩⟩⟩⟩⟩⟩⟩⟩⟩⟩⟩⟩⟩⟩⟩⟩
theorem lw_p16 : lw_okq (⟨"ShelfSpines$Rounds", "start", "(LShelfSpines$Shelf;)V"⟩, 8) := ⟨⟨by decide +kernel, by decide +kernel⟩, List.mem_of_getElem? (i := 193) (by decide +kernel), List.mem_of_getElem? (i := 657) (by decide +kernel), List.mem_of_getElem? (i := 658) (by decide +kernel)⟩
theorem lw_p17 : lw_okq (⟨"ShelfSpines$Rounds", "goRound", "(LShelfSpines$Shelf;LShelfSpines$Pad;)V"⟩, 8) := ⟨⟨by decide +kernel, by decide +kernel⟩, List.mem_of_getElem? (i := 193) (by decide +kernel), List.mem_of_getElem? (i := 669) (by decide +kernel), List.mem_of_getElem? (i := 670) (by decide +kernel)⟩
theorem lw_p18 : lw_okq (⟨"ShelfSpinesModel", "place", "(I)I"⟩, 19) := ⟨⟨by decide +kernel, by decide +kernel⟩, List.mem_of_getElem? (i := 704) (by decide +kernel), List.mem_of_getElem? (i := 779) (by decide +kernel), List.mem_of_getElem? (i := 780) (by decide +kernel)⟩
theorem lw_p19 : lw_okq (⟨"ShelfSpinesModel", "booksNow", "()I"⟩, 19) := ⟨⟨by decide +kernel, by decide +kernel⟩, List.mem_of_getElem? (i := 704) (by decide +kernel), List.mem_of_getElem? (i := 783) (by decide +kernel), List.mem_of_getElem? (i := 784) (by decide +kernel)⟩
theorem lw_p20 : lw_okq (⟨"ShelfSpinesModel", "looks", "()V"⟩, 19) := ⟨⟨by decide +kernel, by decide +kernel⟩, List.mem_of_getElem? (i := 704) (by decide +kernel), List.mem_of_getElem? (i := 787) (by decide +kernel), List.mem_of_getElem? (i := 788) (by decide +kernel)⟩
theorem lw_p21 : lw_okq (⟨"ShelfSpinesModel", "remembers", "()V"⟩, 19) := ⟨⟨by decide +kernel, by decide +kernel⟩, List.mem_of_getElem? (i := 704) (by decide +kernel), List.mem_of_getElem? (i := 791) (by decide +kernel), List.mem_of_getElem? (i := 792) (by decide +kernel)⟩
theorem lw_p22 : lw_okq (⟨"ShelfSpinesModel", "nearestGap", "(I)I"⟩, 19) := ⟨⟨by decide +kernel, by decide +kernel⟩, List.mem_of_getElem? (i := 704) (by decide +kernel), List.mem_of_getElem? (i := 807) (by decide +kernel), List.mem_of_getElem? (i := 808) (by decide +kernel)⟩
theorem lw_p23 : lw_okq (⟨"ShelfSpinesModel", "does", "(I)I"⟩, 19) := ⟨⟨by decide +kernel, by decide +kernel⟩, List.mem_of_getElem? (i := 704) (by decide +kernel), List.mem_of_getElem? (i := 811) (by decide +kernel), List.mem_of_getElem? (i := 812) (by decide +kernel)⟩
theorem lw_p24 : lw_okq (⟨"ShelfSpinesModel", "whyNotOf", "(I)I"⟩, 19) := ⟨⟨by decide +kernel, by decide +kernel⟩, List.mem_of_getElem? (i := 704) (by decide +kernel), List.mem_of_getElem? (i := 815) (by decide +kernel), List.mem_of_getElem? (i := 816) (by decide +kernel)⟩
theorem lw_p25 : lw_okq (⟨"ShelfSpinesModel", "makes", "(I)V"⟩, 19) := ⟨⟨by decide +kernel, by decide +kernel⟩, List.mem_of_getElem? (i := 704) (by decide +kernel), List.mem_of_getElem? (i := 819) (by decide +kernel), List.mem_of_getElem? (i := 820) (by decide +kernel)⟩
theorem lw_p26 : lw_okq (⟨"ShelfSpinesModel", "goesOn", "()V"⟩, 19) := ⟨⟨by decide +kernel, by decide +kernel⟩, List.mem_of_getElem? (i := 704) (by decide +kernel), List.mem_of_getElem? (i := 823) (by decide +kernel), List.mem_of_getElem? (i := 824) (by decide +kernel)⟩
theorem lw_p27 : lw_okq (⟨"ShelfSpinesModel", "stands", "()V"⟩, 19) := ⟨⟨by decide +kernel, by decide +kernel⟩, List.mem_of_getElem? (i := 704) (by decide +kernel), List.mem_of_getElem? (i := 827) (by decide +kernel), List.mem_of_getElem? (i := 828) (by decide +kernel)⟩
theorem lw_p28 : lw_okq (⟨"ShelfSpinesModel", "faultOfProgram", "()I"⟩, 19) := ⟨⟨by decide +kernel, by decide +kernel⟩, List.mem_of_getElem? (i := 704) (by decide +kernel), List.mem_of_getElem? (i := 851) (by decide +kernel), List.mem_of_getElem? (i := 852) (by decide +kernel)⟩
theorem lw_p29 : lw_okq (⟨"ShelfSpinesModel", "faultOfWord", "()I"⟩, 19) := ⟨⟨by decide +kernel, by decide +kernel⟩, List.mem_of_getElem? (i := 704) (by decide +kernel), List.mem_of_getElem? (i := 858) (by decide +kernel), List.mem_of_getElem? (i := 859) (by decide +kernel)⟩
theorem lw_p30 : lw_okq (⟨"ShelfSpinesModel", "signed", "(I)I"⟩, 19) := ⟨⟨by decide +kernel, by decide +kernel⟩, List.mem_of_getElem? (i := 704) (by decide +kernel), List.mem_of_getElem? (i := 862) (by decide +kernel), List.mem_of_getElem? (i := 863) (by decide +kernel)⟩
theorem lw_p31 : lw_okq (⟨"ShelfSpinesModel", "rankOfThen", "()I"⟩, 19) := ⟨⟨by decide +kernel, by decide +kernel⟩, List.mem_of_getElem? (i := 704) (by decide +kernel), List.mem_of_getElem? (i := 870) (by decide +kernel), List.mem_of_getElem? (i := 871) (by decide +kernel)⟩
def lw_privs_2 : List (MethodName × Nat) := [(⟨"ShelfSpines$Rounds", "start", "(LShelfSpines$Shelf;)V"⟩, 8), (⟨"ShelfSpines$Rounds", "goRound", "(LShelfSpines$Shelf;LShelfSpines$Pad;)V"⟩, 8), (⟨"ShelfSpinesModel", "place", "(I)I"⟩, 19), (⟨"ShelfSpinesModel", "booksNow", "()I"⟩, 19), (⟨"ShelfSpinesModel", "looks", "()V"⟩, 19), (⟨"ShelfSpinesModel", "remembers", "()V"⟩, 19), (⟨"ShelfSpinesModel", "nearestGap", "(I)I"⟩, 19), (⟨"ShelfSpinesModel", "does", "(I)I"⟩, 19), (⟨"ShelfSpinesModel", "whyNotOf", "(I)I"⟩, 19), (⟨"ShelfSpinesModel", "makes", "(I)V"⟩, 19), (⟨"ShelfSpinesModel", "goesOn", "()V"⟩, 19), (⟨"ShelfSpinesModel", "stands", "()V"⟩, 19), (⟨"ShelfSpinesModel", "faultOfProgram", "()I"⟩, 19), (⟨"ShelfSpinesModel", "faultOfWord", "()I"⟩, 19), (⟨"ShelfSpinesModel", "signed", "(I)I"⟩, 19), (⟨"ShelfSpinesModel", "rankOfThen", "()I"⟩, 19)]
theorem lw_r2 : ∀ q ∈ lw_privs_2, lw_okq q := List.forall_mem_cons.mpr ⟨lw_p16, List.forall_mem_cons.mpr ⟨lw_p17, List.forall_mem_cons.mpr ⟨lw_p18, List.forall_mem_cons.mpr ⟨lw_p19, List.forall_mem_cons.mpr ⟨lw_p20, List.forall_mem_cons.mpr ⟨lw_p21, List.forall_mem_cons.mpr ⟨lw_p22, List.forall_mem_cons.mpr ⟨lw_p23, List.forall_mem_cons.mpr ⟨lw_p24, List.forall_mem_cons.mpr ⟨lw_p25, List.forall_mem_cons.mpr ⟨lw_p26, List.forall_mem_cons.mpr ⟨lw_p27, List.forall_mem_cons.mpr ⟨lw_p28, List.forall_mem_cons.mpr ⟨lw_p29, List.forall_mem_cons.mpr ⟨lw_p30, List.forall_mem_cons.mpr ⟨lw_p31, fun _ h => absurd h List.not_mem_nil⟩⟩⟩⟩⟩⟩⟩⟩⟩⟩⟩⟩⟩⟩⟩⟩
theorem lw_p32 : lw_okq (⟨"ShelfSpinesModel", "before", "(I)I"⟩, 19) := ⟨⟨by decide +kernel, by decide +kernel⟩, List.mem_of_getElem? (i := 704) (by decide +kernel), List.mem_of_getElem? (i := 874) (by decide +kernel), List.mem_of_getElem? (i := 875) (by decide +kernel)⟩
theorem lw_p33 : lw_okq (⟨"ShelfSpinesModel", "moveAt", "(I)I"⟩, 19) := ⟨⟨by decide +kernel, by decide +kernel⟩, List.mem_of_getElem? (i := 704) (by decide +kernel), List.mem_of_getElem? (i := 885) (by decide +kernel), List.mem_of_getElem? (i := 886) (by decide +kernel)⟩
theorem lw_p34 : lw_okq (⟨"ShelfSpinesModel", "wrongWith", "(I)I"⟩, 19) := ⟨⟨by decide +kernel, by decide +kernel⟩, List.mem_of_getElem? (i := 704) (by decide +kernel), List.mem_of_getElem? (i := 893) (by decide +kernel), List.mem_of_getElem? (i := 894) (by decide +kernel)⟩
theorem lw_p35 : lw_okq (⟨"ShelfSpinesModel", "isWrong", "(II)Z"⟩, 19) := ⟨⟨by decide +kernel, by decide +kernel⟩, List.mem_of_getElem? (i := 704) (by decide +kernel), List.mem_of_getElem? (i := 897) (by decide +kernel), List.mem_of_getElem? (i := 898) (by decide +kernel)⟩
theorem lw_p36 : lw_okq (⟨"ShelfSpinesModel", "words", "()I"⟩, 19) := ⟨⟨by decide +kernel, by decide +kernel⟩, List.mem_of_getElem? (i := 704) (by decide +kernel), List.mem_of_getElem? (i := 918) (by decide +kernel), List.mem_of_getElem? (i := 919) (by decide +kernel)⟩
theorem lw_p37 : lw_okq (⟨"ShelfSpinesModel", "spells", "(I)V"⟩, 19) := ⟨⟨by decide +kernel, by decide +kernel⟩, List.mem_of_getElem? (i := 704) (by decide +kernel), List.mem_of_getElem? (i := 922) (by decide +kernel), List.mem_of_getElem? (i := 923) (by decide +kernel)⟩
theorem lw_p38 : lw_okq (⟨"ShelfSpinesModel", "unused", "(II)I"⟩, 19) := ⟨⟨by decide +kernel, by decide +kernel⟩, List.mem_of_getElem? (i := 704) (by decide +kernel), List.mem_of_getElem? (i := 926) (by decide +kernel), List.mem_of_getElem? (i := 927) (by decide +kernel)⟩
theorem lw_p39 : lw_okq (⟨"ShelfSpinesModel", "isUsed", "(II)Z"⟩, 19) := ⟨⟨by decide +kernel, by decide +kernel⟩, List.mem_of_getElem? (i := 704) (by decide +kernel), List.mem_of_getElem? (i := 930) (by decide +kernel), List.mem_of_getElem? (i := 931) (by decide +kernel)⟩
theorem lw_p40 : lw_okq (⟨"ShelfSpinesModel", "sumOf", "(I)I"⟩, 19) := ⟨⟨by decide +kernel, by decide +kernel⟩, List.mem_of_getElem? (i := 704) (by decide +kernel), List.mem_of_getElem? (i := 938) (by decide +kernel), List.mem_of_getElem? (i := 939) (by decide +kernel)⟩
theorem lw_p41 : lw_okq (⟨"ShelfSpinesModel", "isWordInOrder", "()Z"⟩, 19) := ⟨⟨by decide +kernel, by decide +kernel⟩, List.mem_of_getElem? (i := 704) (by decide +kernel), List.mem_of_getElem? (i := 942) (by decide +kernel), List.mem_of_getElem? (i := 943) (by decide +kernel)⟩
theorem lw_p42 : lw_okq (⟨"ShelfSpinesModel", "disorderOfWord", "()I"⟩, 19) := ⟨⟨by decide +kernel, by decide +kernel⟩, List.mem_of_getElem? (i := 704) (by decide +kernel), List.mem_of_getElem? (i := 946) (by decide +kernel), List.mem_of_getElem? (i := 947) (by decide +kernel)⟩
theorem lw_p43 : lw_okq (⟨"ShelfSpinesModel", "rankNow", "()I"⟩, 19) := ⟨⟨by decide +kernel, by decide +kernel⟩, List.mem_of_getElem? (i := 704) (by decide +kernel), List.mem_of_getElem? (i := 950) (by decide +kernel), List.mem_of_getElem? (i := 951) (by decide +kernel)⟩
theorem lw_p44 : lw_okq (⟨"ShelfSpinesModel", "wordsInOrder", "()I"⟩, 19) := ⟨⟨by decide +kernel, by decide +kernel⟩, List.mem_of_getElem? (i := 704) (by decide +kernel), List.mem_of_getElem? (i := 954) (by decide +kernel), List.mem_of_getElem? (i := 955) (by decide +kernel)⟩
theorem lw_p45 : lw_okq (⟨"ShelfSpinesModel", "movesNow", "()I"⟩, 19) := ⟨⟨by decide +kernel, by decide +kernel⟩, List.mem_of_getElem? (i := 704) (by decide +kernel), List.mem_of_getElem? (i := 958) (by decide +kernel), List.mem_of_getElem? (i := 959) (by decide +kernel)⟩
theorem lw_p46 : lw_okq (⟨"ShelfSpinesModel", "solves", "()V"⟩, 19) := ⟨⟨by decide +kernel, by decide +kernel⟩, List.mem_of_getElem? (i := 704) (by decide +kernel), List.mem_of_getElem? (i := 966) (by decide +kernel), List.mem_of_getElem? (i := 967) (by decide +kernel)⟩
theorem lw_p47 : lw_okq (⟨"ShelfSpinesModel", "findsMoves", "()V"⟩, 19) := ⟨⟨by decide +kernel, by decide +kernel⟩, List.mem_of_getElem? (i := 704) (by decide +kernel), List.mem_of_getElem? (i := 970) (by decide +kernel), List.mem_of_getElem? (i := 971) (by decide +kernel)⟩
def lw_privs_3 : List (MethodName × Nat) := [(⟨"ShelfSpinesModel", "before", "(I)I"⟩, 19), (⟨"ShelfSpinesModel", "moveAt", "(I)I"⟩, 19), (⟨"ShelfSpinesModel", "wrongWith", "(I)I"⟩, 19), (⟨"ShelfSpinesModel", "isWrong", "(II)Z"⟩, 19), (⟨"ShelfSpinesModel", "words", "()I"⟩, 19), (⟨"ShelfSpinesModel", "spells", "(I)V"⟩, 19), (⟨"ShelfSpinesModel", "unused", "(II)I"⟩, 19), (⟨"ShelfSpinesModel", "isUsed", "(II)Z"⟩, 19), (⟨"ShelfSpinesModel", "sumOf", "(I)I"⟩, 19), (⟨"ShelfSpinesModel", "isWordInOrder", "()Z"⟩, 19), (⟨"ShelfSpinesModel", "disorderOfWord", "()I"⟩, 19), (⟨"ShelfSpinesModel", "rankNow", "()I"⟩, 19), (⟨"ShelfSpinesModel", "wordsInOrder", "()I"⟩, 19), (⟨"ShelfSpinesModel", "movesNow", "()I"⟩, 19), (⟨"ShelfSpinesModel", "solves", "()V"⟩, 19), (⟨"ShelfSpinesModel", "findsMoves", "()V"⟩, 19)]
theorem lw_r3 : ∀ q ∈ lw_privs_3, lw_okq q := List.forall_mem_cons.mpr ⟨lw_p32, List.forall_mem_cons.mpr ⟨lw_p33, List.forall_mem_cons.mpr ⟨lw_p34, List.forall_mem_cons.mpr ⟨lw_p35, List.forall_mem_cons.mpr ⟨lw_p36, List.forall_mem_cons.mpr ⟨lw_p37, List.forall_mem_cons.mpr ⟨lw_p38, List.forall_mem_cons.mpr ⟨lw_p39, List.forall_mem_cons.mpr ⟨lw_p40, List.forall_mem_cons.mpr ⟨lw_p41, List.forall_mem_cons.mpr ⟨lw_p42, List.forall_mem_cons.mpr ⟨lw_p43, List.forall_mem_cons.mpr ⟨lw_p44, List.forall_mem_cons.mpr ⟨lw_p45, List.forall_mem_cons.mpr ⟨lw_p46, List.forall_mem_cons.mpr ⟨lw_p47, fun _ h => absurd h List.not_mem_nil⟩⟩⟩⟩⟩⟩⟩⟩⟩⟩⟩⟩⟩⟩⟩⟩
theorem lw_p48 : lw_okq (⟨"ShelfSpinesModel", "lessens", "(II)Z"⟩, 19) := ⟨⟨by decide +kernel, by decide +kernel⟩, List.mem_of_getElem? (i := 704) (by decide +kernel), List.mem_of_getElem? (i := 975) (by decide +kernel), List.mem_of_getElem? (i := 976) (by decide +kernel)⟩
theorem lw_p49 : lw_okq (⟨"ShelfSpinesModel", "first", "(IZ)I"⟩, 19) := ⟨⟨by decide +kernel, by decide +kernel⟩, List.mem_of_getElem? (i := 704) (by decide +kernel), List.mem_of_getElem? (i := 983) (by decide +kernel), List.mem_of_getElem? (i := 984) (by decide +kernel)⟩
theorem lw_p50 : lw_okq (⟨"ShelfSpinesModel", "reached", "(I)I"⟩, 19) := ⟨⟨by decide +kernel, by decide +kernel⟩, List.mem_of_getElem? (i := 704) (by decide +kernel), List.mem_of_getElem? (i := 991) (by decide +kernel), List.mem_of_getElem? (i := 992) (by decide +kernel)⟩
theorem lw_p51 : lw_okq (⟨"ShelfSpinesModel", "rounds", "()I"⟩, 19) := ⟨⟨by decide +kernel, by decide +kernel⟩, List.mem_of_getElem? (i := 704) (by decide +kernel), List.mem_of_getElem? (i := 1003) (by decide +kernel), List.mem_of_getElem? (i := 1004) (by decide +kernel)⟩
theorem lw_p52 : lw_okq (⟨"ShelfSpinesModel", "rankOfWord", "()I"⟩, 19) := ⟨⟨by decide +kernel, by decide +kernel⟩, List.mem_of_getElem? (i := 704) (by decide +kernel), List.mem_of_getElem? (i := 1007) (by decide +kernel), List.mem_of_getElem? (i := 1008) (by decide +kernel)⟩
def lw_privs_4 : List (MethodName × Nat) := [(⟨"ShelfSpinesModel", "lessens", "(II)Z"⟩, 19), (⟨"ShelfSpinesModel", "first", "(IZ)I"⟩, 19), (⟨"ShelfSpinesModel", "reached", "(I)I"⟩, 19), (⟨"ShelfSpinesModel", "rounds", "()I"⟩, 19), (⟨"ShelfSpinesModel", "rankOfWord", "()I"⟩, 19)]
theorem lw_r4 : ∀ q ∈ lw_privs_4, lw_okq q := List.forall_mem_cons.mpr ⟨lw_p48, List.forall_mem_cons.mpr ⟨lw_p49, List.forall_mem_cons.mpr ⟨lw_p50, List.forall_mem_cons.mpr ⟨lw_p51, List.forall_mem_cons.mpr ⟨lw_p52, fun _ h => absurd h List.not_mem_nil⟩⟩⟩⟩⟩
def lw_privs : List (MethodName × Nat) := lw_privs_1 ++ (lw_privs_2 ++ (lw_privs_3 ++ (lw_privs_4)))
def lw_tbl : List Cond := k2_sels lw_privs ++ tables_1
theorem lw_privs_ok : ∀ q ∈ lw_privs, lw_okq q := by
  show ∀ q ∈ lw_privs_1 ++ (lw_privs_2 ++ (lw_privs_3 ++ (lw_privs_4))), lw_okq q
  exact List.forall_mem_append.mpr ⟨lw_r1, List.forall_mem_append.mpr ⟨lw_r2, List.forall_mem_append.mpr ⟨lw_r3, lw_r4⟩⟩⟩
/-- the streams that the claim lets the run draw from -/
abbrev lw_cs : List Choice := [Jvm.Choice.named "NaN.bits"]
theorem lw_bits : nanBits ∈ lw_cs := by first | decide | exact List.mem_cons_self | simp [lw_cs, nanBits]
-- ===== end of PART A; then your names; then what follows =====
end
section
def RX0 : String := "ShelfSpines$Graph"
def TX0 : u_T := fun k => match k with
  | 0 => ("ShelfSpines$Graph", "words", "LShelfSpines$Row;", true)
  | 1 => ("ShelfSpines$Graph", "onward", "LShelfSpines$Row;", true)
  | 2 => ("ShelfSpines$Graph", "into", "LShelfSpines$Row;", true)
  | 3 => ("ShelfSpines$Graph", "intoStart", "LShelfSpines$Row;", true)
  | 4 => ("ShelfSpines$Graph", "intoEnd", "LShelfSpines$Row;", true)
  | _ => ("ShelfSpines$Graph", "drawn", "I", false)
def tyX0 : Nat → FieldType := fun k => match k with
  | 0 => .object "ShelfSpines$Row"
  | 1 => .object "ShelfSpines$Row"
  | 2 => .object "ShelfSpines$Row"
  | 3 => .object "ShelfSpines$Row"
  | 4 => .object "ShelfSpines$Row"
  | _ => .int
abbrev wsX00 : List Cond := u_ws RX0 TX0 6
theorem nmX0 : ∀ a, a < 6 → ∀ b, b < 6 → a ≠ b → (TX0 a).2.1 ≠ (TX0 b).2.1 := by decide +kernel
theorem tyX0_ok : ∀ k, k < 6 → parseFieldDescriptor (TX0 k).2.2.1 = some (tyX0 k) := by decide +kernel
abbrev cX0_init : ByteArray := prog_2_method_1_code
def yX0_init : MethodName := ⟨RX0, "<init>", "()V"⟩
abbrev cX0_firstNode : ByteArray := prog_2_method_2_code
def yX0_firstNode : MethodName := ⟨RX0, "firstNode", "(I)I"⟩
abbrev cX0_draw : ByteArray := prog_2_method_3_code
def yX0_draw : MethodName := ⟨RX0, "draw", "(I)V"⟩
abbrev cX0_drawOnward : ByteArray := prog_2_method_4_code
def yX0_drawOnward : MethodName := ⟨RX0, "drawOnward", "(III)V"⟩
abbrev cX0_shareOut : ByteArray := prog_2_method_5_code
def yX0_shareOut : MethodName := ⟨RX0, "shareOut", "(II)V"⟩
abbrev cX0_drawInto : ByteArray := prog_2_method_6_code
def yX0_drawInto : MethodName := ⟨RX0, "drawInto", "(II)V"⟩
abbrev cX0_behind : ByteArray := prog_2_method_7_code
def yX0_behind : MethodName := ⟨RX0, "behind", "(II)I"⟩
abbrev cX0_isHeld : ByteArray := prog_2_method_8_code
def yX0_isHeld : MethodName := ⟨RX0, "isHeld", "(III)Z"⟩
def RX1 : String := "ShelfSpines$History"
def TX1 : u_T := fun k => match k with
  | 0 => ("ShelfSpines$History", "states", "[LShelfSpines$Shelf;", true)
  | _ => ("ShelfSpines$History", "length", "I", false)
def tyX1 : Nat → FieldType := fun k => match k with
  | 0 => .array (.object "ShelfSpines$Shelf")
  | _ => .int
abbrev wsX10 : List Cond := u_ws RX1 TX1 2
theorem nmX1 : ∀ a, a < 2 → ∀ b, b < 2 → a ≠ b → (TX1 a).2.1 ≠ (TX1 b).2.1 := by decide +kernel
theorem tyX1_ok : ∀ k, k < 2 → parseFieldDescriptor (TX1 k).2.2.1 = some (tyX1 k) := by decide +kernel
abbrev cX1_init : ByteArray := prog_3_method_1_code
def yX1_init : MethodName := ⟨RX1, "<init>", "()V"⟩
abbrev cX1_keep : ByteArray := prog_3_method_2_code
def yX1_keep : MethodName := ⟨RX1, "keep", "(LShelfSpines$Shelf;)V"⟩
abbrev cX1_dropOldest : ByteArray := prog_3_method_3_code
def yX1_dropOldest : MethodName := ⟨RX1, "dropOldest", "()V"⟩
abbrev cX1_giveBack : ByteArray := prog_3_method_4_code
def yX1_giveBack : MethodName := ⟨RX1, "giveBack", "(LShelfSpines$Shelf;)V"⟩
def RX2 : String := "ShelfSpines$Pad"
def TX2 : u_T := fun k => match k with
  | 0 => ("ShelfSpines$Pad", "signs", "LShelfSpines$Row;", true)
  | _ => ("ShelfSpines$Pad", "length", "I", false)
def tyX2 : Nat → FieldType := fun k => match k with
  | 0 => .object "ShelfSpines$Row"
  | _ => .int
abbrev wsX20 : List Cond := u_ws RX2 TX2 2
theorem nmX2 : ∀ a, a < 2 → ∀ b, b < 2 → a ≠ b → (TX2 a).2.1 ≠ (TX2 b).2.1 := by decide +kernel
theorem tyX2_ok : ∀ k, k < 2 → parseFieldDescriptor (TX2 k).2.2.1 = some (tyX2 k) := by decide +kernel
abbrev cX2_init : ByteArray := prog_4_method_1_code
def yX2_init : MethodName := ⟨RX2, "<init>", "()V"⟩
abbrev cX2_write : ByteArray := prog_4_method_2_code
def yX2_write : MethodName := ⟨RX2, "write", "(I)V"⟩
abbrev cX2_programFault : ByteArray := prog_4_method_3_code
def yX2_programFault : MethodName := ⟨RX2, "programFault", "()I"⟩
abbrev cX2_isKind : ByteArray := prog_4_method_4_code
def yX2_isKind : MethodName := ⟨RX2, "isKind", "(I)Z"⟩
abbrev cX2_isPlaceFor : ByteArray := prog_4_method_5_code
def yX2_isPlaceFor : MethodName := ⟨RX2, "isPlaceFor", "(II)Z"⟩
abbrev cX2_steps : ByteArray := prog_4_method_6_code
def yX2_steps : MethodName := ⟨RX2, "steps", "()I"⟩
abbrev cX2_moveAt : ByteArray := prog_4_method_7_code
def yX2_moveAt : MethodName := ⟨RX2, "moveAt", "(I)I"⟩
abbrev cX2_wordFault : ByteArray := prog_4_method_8_code
def yX2_wordFault : MethodName := ⟨RX2, "wordFault", "(LShelfSpines$Shelf;)I"⟩
abbrev cX2_slotOfSign : ByteArray := prog_4_method_9_code
def yX2_slotOfSign : MethodName := ⟨RX2, "slotOfSign", "(LShelfSpines$Shelf;I)I"⟩
abbrev cX2_readWord : ByteArray := prog_4_method_10_code
def yX2_readWord : MethodName := ⟨RX2, "readWord", "(LShelfSpines$Shelf;)I"⟩
def RX3 : String := "ShelfSpines$Ranks"
def TX3 : u_T := fun k => match k with
  | _ => ("", "", "", false)
def tyX3 : Nat → FieldType := fun k => match k with
  | _ => .int
abbrev wsX30 : List Cond := u_ws RX3 TX3 0
theorem nmX3 : ∀ a, a < 0 → ∀ b, b < 0 → a ≠ b → (TX3 a).2.1 ≠ (TX3 b).2.1 := by decide +kernel
theorem tyX3_ok : ∀ k, k < 0 → parseFieldDescriptor (TX3 k).2.2.1 = some (tyX3 k) := by decide +kernel
abbrev cX3_ways : ByteArray := prog_5_method_2_code
def yX3_ways : MethodName := ⟨RX3, "ways", "(II)I"⟩
abbrev cX3_wordsOf : ByteArray := prog_5_method_3_code
def yX3_wordsOf : MethodName := ⟨RX3, "wordsOf", "(I)I"⟩
abbrev cX3_risingWordsOf : ByteArray := prog_5_method_4_code
def yX3_risingWordsOf : MethodName := ⟨RX3, "risingWordsOf", "(I)I"⟩
abbrev cX3_rankOf : ByteArray := prog_5_method_5_code
def yX3_rankOf : MethodName := ⟨RX3, "rankOf", "(II)I"⟩
abbrev cX3_wordAt : ByteArray := prog_5_method_6_code
def yX3_wordAt : MethodName := ⟨RX3, "wordAt", "(II)I"⟩
abbrev cX3_slotBehind : ByteArray := prog_5_method_7_code
def yX3_slotBehind : MethodName := ⟨RX3, "slotBehind", "(II)I"⟩
def RX4 : String := "ShelfSpines$Rounds"
def TX4 : u_T := fun k => match k with
  | 0 => ("ShelfSpines$Rounds", "cameAt", "LShelfSpines$Row;", true)
  | 1 => ("ShelfSpines$Rounds", "paidThen", "LShelfSpines$Row;", true)
  | 2 => ("ShelfSpines$Rounds", "packed", "I", false)
  | 3 => ("ShelfSpines$Rounds", "paid", "I", false)
  | 4 => ("ShelfSpines$Rounds", "lead", "I", false)
  | 5 => ("ShelfSpines$Rounds", "cycle", "I", false)
  | 6 => ("ShelfSpines$Rounds", "cycleCosts", "I", false)
  | _ => ("ShelfSpines$Rounds", "leastDisorder", "I", false)
def tyX4 : Nat → FieldType := fun k => match k with
  | 0 => .object "ShelfSpines$Row"
  | 1 => .object "ShelfSpines$Row"
  | 2 => .int
  | 3 => .int
  | 4 => .int
  | 5 => .int
  | 6 => .int
  | _ => .int
abbrev wsX40 : List Cond := u_ws RX4 TX4 8
theorem nmX4 : ∀ a, a < 8 → ∀ b, b < 8 → a ≠ b → (TX4 a).2.1 ≠ (TX4 b).2.1 := by decide +kernel
theorem tyX4_ok : ∀ k, k < 8 → parseFieldDescriptor (TX4 k).2.2.1 = some (tyX4 k) := by decide +kernel
abbrev cX4_init : ByteArray := prog_6_method_1_code
def yX4_init : MethodName := ⟨RX4, "<init>", "()V"⟩
abbrev cX4_follow : ByteArray := prog_6_method_2_code
def yX4_follow : MethodName := ⟨RX4, "follow", "(LShelfSpines$Shelf;LShelfSpines$Pad;)V"⟩
abbrev cX4_start : ByteArray := prog_6_method_3_code
def yX4_start : MethodName := ⟨RX4, "start", "(LShelfSpines$Shelf;)V"⟩
abbrev cX4_goRound : ByteArray := prog_6_method_4_code
def yX4_goRound : MethodName := ⟨RX4, "goRound", "(LShelfSpines$Shelf;LShelfSpines$Pad;)V"⟩
def RX5 : String := "ShelfSpines$Row"
def TX5 : u_T := fun k => match k with
  | _ => ("ShelfSpines$Row", "cells", "[I", true)
def tyX5 : Nat → FieldType := fun k => match k with
  | _ => .array .int
abbrev wsX50 : List Cond := u_ws RX5 TX5 1
theorem nmX5 : ∀ a, a < 1 → ∀ b, b < 1 → a ≠ b → (TX5 a).2.1 ≠ (TX5 b).2.1 := by decide +kernel
theorem tyX5_ok : ∀ k, k < 1 → parseFieldDescriptor (TX5 k).2.2.1 = some (tyX5 k) := by decide +kernel
abbrev cX5_init : ByteArray := prog_7_method_1_code
def yX5_init : MethodName := ⟨RX5, "<init>", "(I)V"⟩
abbrev cX5_get : ByteArray := prog_7_method_2_code
def yX5_get : MethodName := ⟨RX5, "get", "(I)I"⟩
abbrev cX5_put : ByteArray := prog_7_method_3_code
def yX5_put : MethodName := ⟨RX5, "put", "(II)V"⟩
abbrev cX5_become : ByteArray := prog_7_method_4_code
def yX5_become : MethodName := ⟨RX5, "become", "(LShelfSpines$Row;)V"⟩
def RX6 : String := "ShelfSpines$Search"
def TX6 : u_T := fun k => match k with
  | 0 => ("ShelfSpines$Search", "graph", "LShelfSpines$Graph;", true)
  | 1 => ("ShelfSpines$Search", "fewest", "LShelfSpines$Row;", true)
  | 2 => ("ShelfSpines$Search", "settled", "LShelfSpines$Row;", true)
  | 3 => ("ShelfSpines$Search", "lowered", "LShelfSpines$Row;", true)
  | 4 => ("ShelfSpines$Search", "keyOfFewest", "I", false)
  | 5 => ("ShelfSpines$Search", "keyOfSettled", "I", false)
  | 6 => ("ShelfSpines$Search", "keyOfLowered", "I", false)
  | 7 => ("ShelfSpines$Search", "reached", "LShelfSpines$Row;", true)
  | _ => ("ShelfSpines$Search", "queue", "LShelfSpines$Row;", true)
def tyX6 : Nat → FieldType := fun k => match k with
  | 0 => .object "ShelfSpines$Graph"
  | 1 => .object "ShelfSpines$Row"
  | 2 => .object "ShelfSpines$Row"
  | 3 => .object "ShelfSpines$Row"
  | 4 => .int
  | 5 => .int
  | 6 => .int
  | 7 => .object "ShelfSpines$Row"
  | _ => .object "ShelfSpines$Row"
abbrev wsX60 : List Cond := u_ws RX6 TX6 9
theorem nmX6 : ∀ a, a < 9 → ∀ b, b < 9 → a ≠ b → (TX6 a).2.1 ≠ (TX6 b).2.1 := by decide +kernel
theorem tyX6_ok : ∀ k, k < 9 → parseFieldDescriptor (TX6 k).2.2.1 = some (tyX6 k) := by decide +kernel
abbrev cX6_init : ByteArray := prog_8_method_1_code
def yX6_init : MethodName := ⟨RX6, "<init>", "(LShelfSpines$Graph;)V"⟩
abbrev cX6_wayFrom : ByteArray := prog_8_method_2_code
def yX6_wayFrom : MethodName := ⟨RX6, "wayFrom", "(LShelfSpines$Shelf;II)I"⟩
abbrev cX6_plannedMove : ByteArray := prog_8_method_3_code
def yX6_plannedMove : MethodName := ⟨RX6, "plannedMove", "(LShelfSpines$Shelf;ZI)I"⟩
abbrev cX6_savableWords : ByteArray := prog_8_method_4_code
def yX6_savableWords : MethodName := ⟨RX6, "savableWords", "(LShelfSpines$Shelf;)I"⟩
abbrev cX6_sumOfWays : ByteArray := prog_8_method_5_code
def yX6_sumOfWays : MethodName := ⟨RX6, "sumOfWays", "(LShelfSpines$Shelf;)I"⟩
abbrev cX6_greatestWay : ByteArray := prog_8_method_6_code
def yX6_greatestWay : MethodName := ⟨RX6, "greatestWay", "(LShelfSpines$Shelf;I)I"⟩
abbrev cX6_worstRank : ByteArray := prog_8_method_7_code
def yX6_worstRank : MethodName := ⟨RX6, "worstRank", "(LShelfSpines$Shelf;)I"⟩
abbrev cX6_reach : ByteArray := prog_8_method_8_code
def yX6_reach : MethodName := ⟨RX6, "reach", "(LShelfSpines$Shelf;I)I"⟩
abbrev cX6_reachOn : ByteArray := prog_8_method_9_code
def yX6_reachOn : MethodName := ⟨RX6, "reachOn", "(III)I"⟩
abbrev cX6_wayWith : ByteArray := prog_8_method_10_code
def yX6_wayWith : MethodName := ⟨RX6, "wayWith", "(LShelfSpines$Shelf;I)I"⟩
abbrev cX6_nextMove : ByteArray := prog_8_method_11_code
def yX6_nextMove : MethodName := ⟨RX6, "nextMove", "(LShelfSpines$Shelf;LShelfSpines$Row;ZI)I"⟩
abbrev cX6_findWays : ByteArray := prog_8_method_12_code
def yX6_findWays : MethodName := ⟨RX6, "findWays", "(LShelfSpines$Shelf;I)LShelfSpines$Row;"⟩
abbrev cX6_startAtOrder : ByteArray := prog_8_method_13_code
def yX6_startAtOrder : MethodName := ⟨RX6, "startAtOrder", "(LShelfSpines$Shelf;LShelfSpines$Row;II)V"⟩
abbrev cX6_findFewest : ByteArray := prog_8_method_14_code
def yX6_findFewest : MethodName := ⟨RX6, "findFewest", "(LShelfSpines$Shelf;)V"⟩
abbrev cX6_comeFrom : ByteArray := prog_8_method_15_code
def yX6_comeFrom : MethodName := ⟨RX6, "comeFrom", "(III)I"⟩
abbrev cX6_settleCosts : ByteArray := prog_8_method_16_code
def yX6_settleCosts : MethodName := ⟨RX6, "settleCosts", "(LShelfSpines$Shelf;)V"⟩
abbrev cX6_offerBack : ByteArray := prog_8_method_17_code
def yX6_offerBack : MethodName := ⟨RX6, "offerBack", "(LShelfSpines$Shelf;LShelfSpines$Row;I)I"⟩
abbrev cX6_lowerCosts : ByteArray := prog_8_method_18_code
def yX6_lowerCosts : MethodName := ⟨RX6, "lowerCosts", "(LShelfSpines$Shelf;)V"⟩
def RX7 : String := "ShelfSpines$Shelf"
def TX7 : u_T := fun k => match k with
  | 0 => ("ShelfSpines$Shelf", "packed", "I", false)
  | 1 => ("ShelfSpines$Shelf", "books", "I", false)
  | 2 => ("ShelfSpines$Shelf", "letters", "LShelfSpines$Row;", true)
  | 3 => ("ShelfSpines$Shelf", "weights", "LShelfSpines$Row;", true)
  | 4 => ("ShelfSpines$Shelf", "stuck", "I", false)
  | 5 => ("ShelfSpines$Shelf", "falling", "I", false)
  | 6 => ("ShelfSpines$Shelf", "closed", "I", false)
  | 7 => ("ShelfSpines$Shelf", "made", "I", false)
  | 8 => ("ShelfSpines$Shelf", "spent", "I", false)
  | _ => ("ShelfSpines$Shelf", "refused", "I", false)
def tyX7 : Nat → FieldType := fun k => match k with
  | 0 => .int
  | 1 => .int
  | 2 => .object "ShelfSpines$Row"
  | 3 => .object "ShelfSpines$Row"
  | 4 => .int
  | 5 => .int
  | 6 => .int
  | 7 => .int
  | 8 => .int
  | _ => .int
abbrev wsX70 : List Cond := u_ws RX7 TX7 10
theorem nmX7 : ∀ a, a < 10 → ∀ b, b < 10 → a ≠ b → (TX7 a).2.1 ≠ (TX7 b).2.1 := by decide +kernel
theorem tyX7_ok : ∀ k, k < 10 → parseFieldDescriptor (TX7 k).2.2.1 = some (tyX7 k) := by decide +kernel
abbrev cX7_init : ByteArray := prog_9_method_1_code
def yX7_init : MethodName := ⟨RX7, "<init>", "()V"⟩
abbrev cX7_become : ByteArray := prog_9_method_2_code
def yX7_become : MethodName := ⟨RX7, "become", "(LShelfSpines$Shelf;)V"⟩
abbrev cX7_slotOf : ByteArray := prog_9_method_3_code
def yX7_slotOf : MethodName := ⟨RX7, "slotOf", "(I)I"⟩
abbrev cX7_insert : ByteArray := prog_9_method_4_code
def yX7_insert : MethodName := ⟨RX7, "insert", "(III)V"⟩
abbrev cX7_takeOff : ByteArray := prog_9_method_5_code
def yX7_takeOff : MethodName := ⟨RX7, "takeOff", "(I)I"⟩
abbrev cX7_renumber : ByteArray := prog_9_method_6_code
def yX7_renumber : MethodName := ⟨RX7, "renumber", "(II)V"⟩
abbrev cX7_tryMove : ByteArray := prog_9_method_7_code
def yX7_tryMove : MethodName := ⟨RX7, "tryMove", "(I)I"⟩
abbrev cX7_rankOfNow : ByteArray := prog_9_method_8_code
def yX7_rankOfNow : MethodName := ⟨RX7, "rankOfNow", "()I"⟩
abbrev cX7_sumOfWeights : ByteArray := prog_9_method_9_code
def yX7_sumOfWeights : MethodName := ⟨RX7, "sumOfWeights", "()I"⟩
abbrev cX7_possibleMoves : ByteArray := prog_9_method_10_code
def yX7_possibleMoves : MethodName := ⟨RX7, "possibleMoves", "()I"⟩
abbrev cX7_keyOfMoves : ByteArray := prog_9_method_11_code
def yX7_keyOfMoves : MethodName := ⟨RX7, "keyOfMoves", "()I"⟩
abbrev cX7_keyOfCosts : ByteArray := prog_9_method_12_code
def yX7_keyOfCosts : MethodName := ⟨RX7, "keyOfCosts", "()I"⟩
def RX8 : String := "ShelfSpines$Spines"
def TX8 : u_T := fun k => match k with
  | _ => ("", "", "", false)
def tyX8 : Nat → FieldType := fun k => match k with
  | _ => .int
abbrev wsX80 : List Cond := u_ws RX8 TX8 0
theorem nmX8 : ∀ a, a < 0 → ∀ b, b < 0 → a ≠ b → (TX8 a).2.1 ≠ (TX8 b).2.1 := by decide +kernel
theorem tyX8_ok : ∀ k, k < 0 → parseFieldDescriptor (TX8 k).2.2.1 = some (tyX8 k) := by decide +kernel
abbrev cX8_slotAt : ByteArray := prog_10_method_2_code
def yX8_slotAt : MethodName := ⟨RX8, "slotAt", "(II)I"⟩
abbrev cX8_withSlot : ByteArray := prog_10_method_3_code
def yX8_withSlot : MethodName := ⟨RX8, "withSlot", "(III)I"⟩
abbrev cX8_isGap : ByteArray := prog_10_method_4_code
def yX8_isGap : MethodName := ⟨RX8, "isGap", "(II)Z"⟩
abbrev cX8_isIn : ByteArray := prog_10_method_5_code
def yX8_isIn : MethodName := ⟨RX8, "isIn", "(II)Z"⟩
abbrev cX8_gapBeside : ByteArray := prog_10_method_6_code
def yX8_gapBeside : MethodName := ⟨RX8, "gapBeside", "(II)I"⟩
abbrev cX8_isPull : ByteArray := prog_10_method_7_code
def yX8_isPull : MethodName := ⟨RX8, "isPull", "(I)Z"⟩
abbrev cX8_placeOf : ByteArray := prog_10_method_8_code
def yX8_placeOf : MethodName := ⟨RX8, "placeOf", "(I)I"⟩
abbrev cX8_reason : ByteArray := prog_10_method_9_code
def yX8_reason : MethodName := ⟨RX8, "reason", "(III)I"⟩
abbrev cX8_after : ByteArray := prog_10_method_10_code
def yX8_after : MethodName := ⟨RX8, "after", "(II)I"⟩
abbrev cX8_price : ByteArray := prog_10_method_11_code
def yX8_price : MethodName := ⟨RX8, "price", "(ILShelfSpines$Row;I)I"⟩
abbrev cX8_isWrong : ByteArray := prog_10_method_12_code
def yX8_isWrong : MethodName := ⟨RX8, "isWrong", "(III)Z"⟩
abbrev cX8_wrongBooks : ByteArray := prog_10_method_13_code
def yX8_wrongBooks : MethodName := ⟨RX8, "wrongBooks", "(III)I"⟩
abbrev cX8_disorder : ByteArray := prog_10_method_14_code
def yX8_disorder : MethodName := ⟨RX8, "disorder", "(II)I"⟩
abbrev cX8_isInOrder : ByteArray := prog_10_method_15_code
def yX8_isInOrder : MethodName := ⟨RX8, "isInOrder", "(III)Z"⟩
def RX9 : String := "ShelfSpines"
def TX9 : u_T := fun k => match k with
  | 0 => ("ShelfSpines", "shelf", "LShelfSpines$Shelf;", true)
  | 1 => ("ShelfSpines", "snapshot", "LShelfSpines$Shelf;", true)
  | 2 => ("ShelfSpines", "hasSnapshot", "Z", false)
  | 3 => ("ShelfSpines", "history", "LShelfSpines$History;", true)
  | 4 => ("ShelfSpines", "pad", "LShelfSpines$Pad;", true)
  | 5 => ("ShelfSpines", "graph", "LShelfSpines$Graph;", true)
  | 6 => ("ShelfSpines", "search", "LShelfSpines$Search;", true)
  | _ => ("ShelfSpines", "rounds", "LShelfSpines$Rounds;", true)
def tyX9 : Nat → FieldType := fun k => match k with
  | 0 => .object "ShelfSpines$Shelf"
  | 1 => .object "ShelfSpines$Shelf"
  | 2 => .boolean
  | 3 => .object "ShelfSpines$History"
  | 4 => .object "ShelfSpines$Pad"
  | 5 => .object "ShelfSpines$Graph"
  | 6 => .object "ShelfSpines$Search"
  | _ => .object "ShelfSpines$Rounds"
abbrev wsX90 : List Cond := u_ws RX9 TX9 8
theorem nmX9 : ∀ a, a < 8 → ∀ b, b < 8 → a ≠ b → (TX9 a).2.1 ≠ (TX9 b).2.1 := by decide +kernel
theorem tyX9_ok : ∀ k, k < 8 → parseFieldDescriptor (TX9 k).2.2.1 = some (tyX9 k) := by decide +kernel
abbrev cX9_init : ByteArray := prog_1_method_1_code
def yX9_init : MethodName := ⟨RX9, "<init>", "()V"⟩
abbrev cX9_add : ByteArray := prog_1_method_2_code
def yX9_add : MethodName := ⟨RX9, "add", "(III)I"⟩
abbrev cX9_remove : ByteArray := prog_1_method_3_code
def yX9_remove : MethodName := ⟨RX9, "remove", "(I)I"⟩
abbrev cX9_stick : ByteArray := prog_1_method_4_code
def yX9_stick : MethodName := ⟨RX9, "stick", "(I)I"⟩
abbrev cX9_pull : ByteArray := prog_1_method_5_code
def yX9_pull : MethodName := ⟨RX9, "pull", "(I)I"⟩
abbrev cX9_push : ByteArray := prog_1_method_6_code
def yX9_push : MethodName := ⟨RX9, "push", "(IZ)I"⟩
abbrev cX9_set : ByteArray := prog_1_method_7_code
def yX9_set : MethodName := ⟨RX9, "set", "(II)I"⟩
abbrev cX9_append : ByteArray := prog_1_method_8_code
def yX9_append : MethodName := ⟨RX9, "append", "(I)I"⟩
abbrev cX9_clear : ByteArray := prog_1_method_9_code
def yX9_clear : MethodName := ⟨RX9, "clear", "()I"⟩
abbrev cX9_fault : ByteArray := prog_1_method_10_code
def yX9_fault : MethodName := ⟨RX9, "fault", "(I)I"⟩
abbrev cX9_arrange : ByteArray := prog_1_method_11_code
def yX9_arrange : MethodName := ⟨RX9, "arrange", "()I"⟩
abbrev cX9_run : ByteArray := prog_1_method_12_code
def yX9_run : MethodName := ⟨RX9, "run", "()I"⟩
abbrev cX9_at : ByteArray := prog_1_method_13_code
def yX9_at : MethodName := ⟨RX9, "at", "(II)I"⟩
abbrev cX9_whyNot : ByteArray := prog_1_method_14_code
def yX9_whyNot : MethodName := ⟨RX9, "whyNot", "(I)I"⟩
abbrev cX9_cost : ByteArray := prog_1_method_15_code
def yX9_cost : MethodName := ⟨RX9, "cost", "(I)I"⟩
abbrev cX9_leads : ByteArray := prog_1_method_16_code
def yX9_leads : MethodName := ⟨RX9, "leads", "(I)I"⟩
abbrev cX9_word : ByteArray := prog_1_method_17_code
def yX9_word : MethodName := ⟨RX9, "word", "(II)I"⟩
abbrev cX9_count : ByteArray := prog_1_method_18_code
def yX9_count : MethodName := ⟨RX9, "count", "(I)I"⟩
abbrev cX9_countAccounts : ByteArray := prog_1_method_19_code
def yX9_countAccounts : MethodName := ⟨RX9, "countAccounts", "(I)I"⟩
abbrev cX9_least : ByteArray := prog_1_method_20_code
def yX9_least : MethodName := ⟨RX9, "least", "(II)I"⟩
abbrev cX9_plan : ByteArray := prog_1_method_21_code
def yX9_plan : MethodName := ⟨RX9, "plan", "(ZI)I"⟩
abbrev cX9_all : ByteArray := prog_1_method_22_code
def yX9_all : MethodName := ⟨RX9, "all", "(I)I"⟩
abbrev cX9_mean : ByteArray := prog_1_method_23_code
def yX9_mean : MethodName := ⟨RX9, "mean", "()D"⟩
abbrev cX9_round : ByteArray := prog_1_method_24_code
def yX9_round : MethodName := ⟨RX9, "round", "(I)I"⟩
abbrev cX9_loosen : ByteArray := prog_1_method_25_code
def yX9_loosen : MethodName := ⟨RX9, "loosen", "()I"⟩
abbrev cX9_undo : ByteArray := prog_1_method_26_code
def yX9_undo : MethodName := ⟨RX9, "undo", "()I"⟩
abbrev cX9_save : ByteArray := prog_1_method_27_code
def yX9_save : MethodName := ⟨RX9, "save", "()I"⟩
abbrev cX9_restore : ByteArray := prog_1_method_28_code
def yX9_restore : MethodName := ⟨RX9, "restore", "()I"⟩
abbrev cX9_drawnSearch : ByteArray := prog_1_method_29_code
def yX9_drawnSearch : MethodName := ⟨RX9, "drawnSearch", "()LShelfSpines$Search;"⟩
abbrev cX9_isBelow : ByteArray := prog_1_method_30_code
def yX9_isBelow : MethodName := ⟨RX9, "isBelow", "(II)Z"⟩
def RX10 : String := "ShelfSpinesModel"
def TX10 : u_T := fun k => match k with
  | 0 => ("ShelfSpinesModel", "s", "[I", true)
  | 1 => ("ShelfSpinesModel", "past", "[I", true)
  | 2 => ("ShelfSpinesModel", "known", "I", false)
  | 3 => ("ShelfSpinesModel", "snap", "[I", true)
  | 4 => ("ShelfSpinesModel", "isSaved", "Z", false)
  | 5 => ("ShelfSpinesModel", "pad", "[I", true)
  | 6 => ("ShelfSpinesModel", "length", "I", false)
  | 7 => ("ShelfSpinesModel", "letter", "[I", true)
  | 8 => ("ShelfSpinesModel", "weight", "[I", true)
  | 9 => ("ShelfSpinesModel", "stuck", "[I", true)
  | 10 => ("ShelfSpinesModel", "books", "I", false)
  | 11 => ("ShelfSpinesModel", "word", "[I", true)
  | 12 => ("ShelfSpinesModel", "then", "[I", true)
  | 13 => ("ShelfSpinesModel", "price", "I", false)
  | 14 => ("ShelfSpinesModel", "next", "[I", true)
  | 15 => ("ShelfSpinesModel", "prices", "[I", true)
  | 16 => ("ShelfSpinesModel", "fewest", "[I", true)
  | 17 => ("ShelfSpinesModel", "cheapest", "[I", true)
  | _ => ("ShelfSpinesModel", "seen", "[I", true)
def tyX10 : Nat → FieldType := fun k => match k with
  | 0 => .array .int
  | 1 => .array .int
  | 2 => .int
  | 3 => .array .int
  | 4 => .boolean
  | 5 => .array .int
  | 6 => .int
  | 7 => .array .int
  | 8 => .array .int
  | 9 => .array .int
  | 10 => .int
  | 11 => .array .int
  | 12 => .array .int
  | 13 => .int
  | 14 => .array .int
  | 15 => .array .int
  | 16 => .array .int
  | 17 => .array .int
  | _ => .array .int
abbrev wsX100 : List Cond := u_ws RX10 TX10 19
theorem nmX10 : ∀ a, a < 19 → ∀ b, b < 19 → a ≠ b → (TX10 a).2.1 ≠ (TX10 b).2.1 := by decide +kernel
theorem tyX10_ok : ∀ k, k < 19 → parseFieldDescriptor (TX10 k).2.2.1 = some (tyX10 k) := by decide +kernel
abbrev cX10_init : ByteArray := prog_12_method_1_code
def yX10_init : MethodName := ⟨RX10, "<init>", "()V"⟩
abbrev cX10_in : ByteArray := prog_12_method_3_code
def yX10_in : MethodName := ⟨RX10, "in", "(III)Z"⟩
abbrev cX10_isPlace : ByteArray := prog_12_method_4_code
def yX10_isPlace : MethodName := ⟨RX10, "isPlace", "(I)Z"⟩
abbrev cX10_remembers : ByteArray := prog_12_method_5_code
def yX10_remembers : MethodName := ⟨RX10, "remembers", "()V"⟩
abbrev cX10_looks : ByteArray := prog_12_method_6_code
def yX10_looks : MethodName := ⟨RX10, "looks", "()V"⟩
abbrev cX10_ways : ByteArray := prog_12_method_7_code
def yX10_ways : MethodName := ⟨RX10, "ways", "(II)I"⟩
abbrev cX10_words : ByteArray := prog_12_method_8_code
def yX10_words : MethodName := ⟨RX10, "words", "()I"⟩
abbrev cX10_before : ByteArray := prog_12_method_9_code
def yX10_before : MethodName := ⟨RX10, "before", "(I)I"⟩
abbrev cX10_rankOfThen : ByteArray := prog_12_method_10_code
def yX10_rankOfThen : MethodName := ⟨RX10, "rankOfThen", "()I"⟩
abbrev cX10_rankNow : ByteArray := prog_12_method_11_code
def yX10_rankNow : MethodName := ⟨RX10, "rankNow", "()I"⟩
abbrev cX10_isUsed : ByteArray := prog_12_method_12_code
def yX10_isUsed : MethodName := ⟨RX10, "isUsed", "(II)Z"⟩
abbrev cX10_spells : ByteArray := prog_12_method_13_code
def yX10_spells : MethodName := ⟨RX10, "spells", "(I)V"⟩
abbrev cX10_unused : ByteArray := prog_12_method_14_code
def yX10_unused : MethodName := ⟨RX10, "unused", "(II)I"⟩
abbrev cX10_isWrong : ByteArray := prog_12_method_15_code
def yX10_isWrong : MethodName := ⟨RX10, "isWrong", "(II)Z"⟩
abbrev cX10_disorderOfWord : ByteArray := prog_12_method_16_code
def yX10_disorderOfWord : MethodName := ⟨RX10, "disorderOfWord", "()I"⟩
abbrev cX10_isWordInOrder : ByteArray := prog_12_method_17_code
def yX10_isWordInOrder : MethodName := ⟨RX10, "isWordInOrder", "()Z"⟩
abbrev cX10_nearestGap : ByteArray := prog_12_method_18_code
def yX10_nearestGap : MethodName := ⟨RX10, "nearestGap", "(I)I"⟩
abbrev cX10_whyNotOf : ByteArray := prog_12_method_19_code
def yX10_whyNotOf : MethodName := ⟨RX10, "whyNotOf", "(I)I"⟩
abbrev cX10_makes : ByteArray := prog_12_method_20_code
def yX10_makes : MethodName := ⟨RX10, "makes", "(I)V"⟩
abbrev cX10_goesOn : ByteArray := prog_12_method_21_code
def yX10_goesOn : MethodName := ⟨RX10, "goesOn", "()V"⟩
abbrev cX10_findsMoves : ByteArray := prog_12_method_22_code
def yX10_findsMoves : MethodName := ⟨RX10, "findsMoves", "()V"⟩
abbrev cX10_lessens : ByteArray := prog_12_method_23_code
def yX10_lessens : MethodName := ⟨RX10, "lessens", "(II)Z"⟩
abbrev cX10_solves : ByteArray := prog_12_method_24_code
def yX10_solves : MethodName := ⟨RX10, "solves", "()V"⟩
abbrev cX10_place : ByteArray := prog_12_method_25_code
def yX10_place : MethodName := ⟨RX10, "place", "(I)I"⟩
abbrev cX10_booksNow : ByteArray := prog_12_method_26_code
def yX10_booksNow : MethodName := ⟨RX10, "booksNow", "()I"⟩
abbrev cX10_add : ByteArray := prog_12_method_27_code
def yX10_add : MethodName := ⟨RX10, "add", "(III)I"⟩
abbrev cX10_remove : ByteArray := prog_12_method_28_code
def yX10_remove : MethodName := ⟨RX10, "remove", "(I)I"⟩
abbrev cX10_stick : ByteArray := prog_12_method_29_code
def yX10_stick : MethodName := ⟨RX10, "stick", "(I)I"⟩
abbrev cX10_stands : ByteArray := prog_12_method_30_code
def yX10_stands : MethodName := ⟨RX10, "stands", "()V"⟩
abbrev cX10_does : ByteArray := prog_12_method_31_code
def yX10_does : MethodName := ⟨RX10, "does", "(I)I"⟩
abbrev cX10_pull : ByteArray := prog_12_method_32_code
def yX10_pull : MethodName := ⟨RX10, "pull", "(I)I"⟩
abbrev cX10_push : ByteArray := prog_12_method_33_code
def yX10_push : MethodName := ⟨RX10, "push", "(IZ)I"⟩
abbrev cX10_set : ByteArray := prog_12_method_34_code
def yX10_set : MethodName := ⟨RX10, "set", "(II)I"⟩
abbrev cX10_append : ByteArray := prog_12_method_35_code
def yX10_append : MethodName := ⟨RX10, "append", "(I)I"⟩
abbrev cX10_clear : ByteArray := prog_12_method_36_code
def yX10_clear : MethodName := ⟨RX10, "clear", "()I"⟩
abbrev cX10_mostOf : ByteArray := prog_12_method_37_code
def yX10_mostOf : MethodName := ⟨RX10, "mostOf", "(I)I"⟩
abbrev cX10_faultOfProgram : ByteArray := prog_12_method_38_code
def yX10_faultOfProgram : MethodName := ⟨RX10, "faultOfProgram", "()I"⟩
abbrev cX10_signed : ByteArray := prog_12_method_39_code
def yX10_signed : MethodName := ⟨RX10, "signed", "(I)I"⟩
abbrev cX10_faultOfWord : ByteArray := prog_12_method_40_code
def yX10_faultOfWord : MethodName := ⟨RX10, "faultOfWord", "()I"⟩
abbrev cX10_fault : ByteArray := prog_12_method_41_code
def yX10_fault : MethodName := ⟨RX10, "fault", "(I)I"⟩
abbrev cX10_arrange : ByteArray := prog_12_method_42_code
def yX10_arrange : MethodName := ⟨RX10, "arrange", "()I"⟩
abbrev cX10_moveAt : ByteArray := prog_12_method_43_code
def yX10_moveAt : MethodName := ⟨RX10, "moveAt", "(I)I"⟩
abbrev cX10_run : ByteArray := prog_12_method_44_code
def yX10_run : MethodName := ⟨RX10, "run", "()I"⟩
abbrev cX10_at : ByteArray := prog_12_method_45_code
def yX10_at : MethodName := ⟨RX10, "at", "(II)I"⟩
abbrev cX10_wrongWith : ByteArray := prog_12_method_46_code
def yX10_wrongWith : MethodName := ⟨RX10, "wrongWith", "(I)I"⟩
abbrev cX10_whyNot : ByteArray := prog_12_method_47_code
def yX10_whyNot : MethodName := ⟨RX10, "whyNot", "(I)I"⟩
abbrev cX10_cost : ByteArray := prog_12_method_48_code
def yX10_cost : MethodName := ⟨RX10, "cost", "(I)I"⟩
abbrev cX10_leads : ByteArray := prog_12_method_49_code
def yX10_leads : MethodName := ⟨RX10, "leads", "(I)I"⟩
abbrev cX10_word : ByteArray := prog_12_method_50_code
def yX10_word : MethodName := ⟨RX10, "word", "(II)I"⟩
abbrev cX10_sumOf : ByteArray := prog_12_method_51_code
def yX10_sumOf : MethodName := ⟨RX10, "sumOf", "(I)I"⟩
abbrev cX10_wordsInOrder : ByteArray := prog_12_method_52_code
def yX10_wordsInOrder : MethodName := ⟨RX10, "wordsInOrder", "()I"⟩
abbrev cX10_movesNow : ByteArray := prog_12_method_53_code
def yX10_movesNow : MethodName := ⟨RX10, "movesNow", "()I"⟩
abbrev cX10_count : ByteArray := prog_12_method_54_code
def yX10_count : MethodName := ⟨RX10, "count", "(I)I"⟩
abbrev cX10_least : ByteArray := prog_12_method_55_code
def yX10_least : MethodName := ⟨RX10, "least", "(II)I"⟩
abbrev cX10_first : ByteArray := prog_12_method_56_code
def yX10_first : MethodName := ⟨RX10, "first", "(IZ)I"⟩
abbrev cX10_plan : ByteArray := prog_12_method_57_code
def yX10_plan : MethodName := ⟨RX10, "plan", "(ZI)I"⟩
abbrev cX10_reached : ByteArray := prog_12_method_58_code
def yX10_reached : MethodName := ⟨RX10, "reached", "(I)I"⟩
abbrev cX10_all : ByteArray := prog_12_method_59_code
def yX10_all : MethodName := ⟨RX10, "all", "(I)I"⟩
abbrev cX10_mean : ByteArray := prog_12_method_60_code
def yX10_mean : MethodName := ⟨RX10, "mean", "()D"⟩
abbrev cX10_rounds : ByteArray := prog_12_method_61_code
def yX10_rounds : MethodName := ⟨RX10, "rounds", "()I"⟩
abbrev cX10_rankOfWord : ByteArray := prog_12_method_62_code
def yX10_rankOfWord : MethodName := ⟨RX10, "rankOfWord", "()I"⟩
abbrev cX10_round : ByteArray := prog_12_method_63_code
def yX10_round : MethodName := ⟨RX10, "round", "(I)I"⟩
abbrev cX10_loosen : ByteArray := prog_12_method_64_code
def yX10_loosen : MethodName := ⟨RX10, "loosen", "()I"⟩
abbrev cX10_undo : ByteArray := prog_12_method_65_code
def yX10_undo : MethodName := ⟨RX10, "undo", "()I"⟩
abbrev cX10_save : ByteArray := prog_12_method_66_code
def yX10_save : MethodName := ⟨RX10, "save", "()I"⟩
abbrev cX10_restore : ByteArray := prog_12_method_67_code
def yX10_restore : MethodName := ⟨RX10, "restore", "()I"⟩
def RJ6 : String := "java/lang/Integer"
abbrev cJ6_bitCount_0f7a4 : ByteArray := prog_13_method_49_code
def yJ6_bitCount_0f7a4 : MethodName := ⟨RJ6, "bitCount", "(I)I"⟩
def RJ9 : String := "java/lang/Math"
abbrev cJ9_max_7cf53 : ByteArray := prog_14_method_65_code
def yJ9_max_7cf53 : MethodName := ⟨RJ9, "max", "(II)I"⟩
abbrev cJ9_min_7cf53 : ByteArray := prog_14_method_69_code
def yJ9_min_7cf53 : MethodName := ⟨RJ9, "min", "(II)I"⟩
def RL : String := "ShelfSpinesLaw"
abbrev cL_law : ByteArray := code
def yL_law : MethodName := ⟨RL, "law", "([I)Z"⟩
abbrev vwCl : List vw_C := [(RX0, TX0, 6), (RX1, TX1, 2), (RX2, TX2, 2), (RX4, TX4, 8), (RX5, TX5, 1), (RX6, TX6, 9), (RX7, TX7, 10), (RX9, TX9, 8), (RX10, TX10, 19)]

/-- kinds of fields: 0 int, 1 boolean, 2 reference -/
def pFk : List (List Nat) := [[2, 2, 2, 2, 2, 0], [2, 0], [2, 0], [2, 2, 0, 0, 0, 0, 0, 0], [2], [2, 2, 2, 2, 0, 0, 0, 2, 2], [0, 0, 2, 2, 0, 0, 0, 0, 0, 0], [2, 2, 1, 2, 2, 2, 2, 2], [2, 2, 0, 2, 1, 2, 0, 2, 2, 2, 0, 2, 2, 0, 2, 2, 2, 2, 2]]
end
section
/-! THE PURE MACHINE: places of objects are their numbers in the order of making; ints and references in two tables -/
abbrev pK : Type := Nat ⊕ (Nat ⊕ Nat)
abbrev pH : Type := List pK × (Nat → Nat → Option Nat) × (Nat → Nat → Int32)
/-- pc, length, tag, a, b, v, l -/
abbrev pE : Type := Nat × Nat × Nat × Nat × Nat × Int32 × List Nat
abbrev pL : Type := List (Option Value)
abbrev pR : Type := Option (Option Value × pH)
abbrev pX : Type := Option (Nat × (Nat → Int32))
abbrev pC : Type := List (Nat × List Bool)
/-- name, code, slots of its frame, answer, frames below it, room of frames below it, rows, cuts -/
abbrev pM : Type := MethodName × ByteArray × Nat × Option FieldType × Nat × Nat × List pE × pC
def s2 {α : Type} (f : Nat → Nat → α) (k j : Nat) (x : α) : Nat → Nat → α := fun a b => if a = k then (if b = j then x else f a b) else f a b
def z2 {α : Type} (f : Nat → Nat → α) (k : Nat) (d : α) : Nat → Nat → α := fun a b => if a = k then d else f a b
def inb (i : Int32) (n : Nat) : Bool := !(decide (i < 0)) && decide (i.toNatClampNeg < n)
def kO (h : pH) (ci k : Nat) : Bool := decide (h.1[k]? = some (.inl ci))
def hI (h : pH) (ci k j : Nat) : Option Int32 := if h.1[k]? = some (.inl ci) then some (h.2.2 k j) else none
def hR (h : pH) (ci k j : Nat) : Option Nat := if h.1[k]? = some (.inl ci) then h.2.1 k j else none
def hA (h : pH) (k : Nat) (i : Int32) : Option Int32 := match h.1[k]? with
  | some (.inr (.inl n)) => if inb i n = true then some (h.2.2 k i.toNatClampNeg) else none
  | _ => none
def hQ (h : pH) (k : Nat) (i : Int32) : Option Nat := match h.1[k]? with
  | some (.inr (.inr n)) => if inb i n = true then h.2.1 k i.toNatClampNeg else none
  | _ => none
def hN (h : pH) (k : Nat) : Option Int32 := match h.1[k]? with
  | some (.inr (.inl n)) => some (Int32.ofNat n)
  | some (.inr (.inr n)) => some (Int32.ofNat n)
  | _ => none
def bA (h : pH) (k : Nat) (i : Int32) : Bool := match h.1[k]? with
  | some (.inr (.inl n)) => inb i n
  | _ => false
def bQ (h : pH) (k : Nat) (i : Int32) (v : Nat) : Bool := match h.1[k]? with
  | some (.inr (.inr n)) => inb i n && decide (h.1[v]? = some (.inl 6))
  | _ => false
def sI (h : pH) (k j : Nat) (x : Int32) : pH := (h.1, h.2.1, s2 h.2.2 k j x)
def sR (h : pH) (k j r : Nat) : pH := (h.1, s2 h.2.1 k j (some r), h.2.2)
def nK (h : pH) (q : pK) : pH := (h.1 ++ [q], z2 h.2.1 h.1.length none, z2 h.2.2 h.1.length 0)
def ius (x y : Int32) : Int32 := (x.toUInt32 >>> (y.toUInt32 &&& Int32.toUInt32 31)).toInt32
def bop {R : Type} (b : Nat) (x y : Int32) (K : Int32 → R) : R := match b with
  | 0 => K (x + y)
  | 1 => K (x - y)
  | 2 => K (x * y)
  | 3 => K (x &&& y)
  | 4 => K (x ||| y)
  | 5 => K (x ^^^ y)
  | 6 => K (x <<< (y &&& 31))
  | 7 => K (x >>> (y &&& 31))
  | _ => K (ius x y)
def ldI (ls : pL) (a : Nat) : Option Int32 := match ls[a]? with
  | some (some (.int x)) => some x
  | _ => none
def ldD (ls : pL) (a : Nat) : Option UInt64 := match ls[a]? with
  | some (some (.double x)) => some x
  | _ => none
def ldR (ls : pL) (a : Nat) : Option Value := match ls[a]? with
  | some (some (.ref x)) => some (.ref x)
  | some (some .null) => some .null
  | _ => none
def stl (ls : pL) (a : Nat) (v : Option Value) : pL := if a < ls.length then ls.set a v else ls ++ List.replicate (a - ls.length) none ++ [v]
def okS (ls : pL) (a : Nat) : Bool := match a with
  | 0 => true
  | a + 1 => match ls[a]? with
    | some (some v) => !(v.category == 2)
    | _ => true
/-- the same list, its cells made first -/
def frc {R : Type} : pL → (pL → R) → R
  | [], K => K []
  | o :: ls, K => frc ls fun l => K (o :: l)
theorem frc_eq {R : Type} : ∀ (ls : pL) (K : pL → R), frc ls K = K ls
  | [], _ => rfl
  | o :: ls, K => frc_eq ls fun l => K (o :: l)
def oo {α R : Type} (fl : R) (o : Option α) (K : α → R) : R := match o with
  | some x => K x
  | none => fl
def imax (x y : Int32) : Int32 := if x < y then y else x
def imin (x y : Int32) : Int32 := if y < x then y else x
def swt {R : Type} (x v : Int32) (ts : List Nat) (d : Nat) (K : Nat → R) : R := match ts with
  | [] => K d
  | t :: ts => if x = v then K t else swt x (v + 1) ts d K
/-- what a row does: it fails, answers, goes on, or calls -/
def stp {R : Type} (sc : pX) (fl : R) (rt : Option Value → pH → R) (go : Nat → pL → List Value → pH → R) (cl : Nat → List Value → Nat → Nat → pL → List Value → pH → R) (e : pE) (ls : pL) (st : List Value) (h : pH) : R :=
  match e with
  | (pc, len, tag, a, b, v, l) =>
  match tag with
  | 0 => oo fl (ldR ls a) fun w => go (pc + len) ls (w :: st) h
  | 1 => oo fl (ldI ls a) fun x => go (pc + len) ls (.int x :: st) h
  | 2 => match st with
    | .ref k :: r => oo fl (hI h a k b) fun x => go (pc + len) ls (.int x :: r) h
    | _ => fl
  | 3 => match st with
    | .ref k :: r => oo fl (hR h a k b) fun x => go (pc + len) ls (.ref x :: r) h
    | _ => fl
  | 4 => go (pc + len) ls (.int v :: st) h
  | 5 => go a ls st h
  | 6 => match st.drop (b - 1) with
    | .ref k :: r => bif Nat.ble (r.map Value.category).sum 8 && (st.take (b - 1)).all (fun v => Nat.beq v.category 1) then (if kO h (l.getD 2 0) k = true then cl a (.ref k :: (st.take (b - 1)).reverse) (l.getD 1 0) (pc + len) ls r h else fl) else fl
    | _ => fl
  | 7 => bif (Nat.ble b st.length && Nat.ble ((st.drop b).map Value.category).sum 8) && (st.take b).all (fun v => Nat.beq v.category 1) then cl a (st.take b).reverse (l.getD 1 0) (pc + len) ls (st.drop b) h else fl
  | 8 => match st.drop (b - 1) with
    | .ref k :: r => bif Nat.ble (r.map Value.category).sum 8 && (st.take (b - 1)).all (fun v => Nat.beq v.category 1) then cl a (.ref k :: (st.take (b - 1)).reverse) (l.getD 1 0) (pc + len) ls r h else fl
    | _ => fl
  | 9 => match st with
    | [.int x] => bif Nat.beq b 0 then rt (some (.int x)) h else (if x = 0 ∨ x = 1 then rt (some (.int x)) h else fl)
    | _ => fl
  | 10 => match st with
    | .int x :: r => bif okS ls a then (frc (stl ls a (some (.int x))) fun ls => go (pc + len) ls r h) else fl
    | _ => fl
  | 11 => match st with
    | .int y :: .int x :: r => bop b x y fun z => go (pc + len) ls (.int z :: r) h
    | _ => fl
  | 12 => match st with
    | .int i :: .ref k :: r => oo fl (hA h k i) fun x => go (pc + len) ls (.int x :: r) h
    | .int i :: .null :: r => oo fl sc fun q => if inb i q.1 = true then go (pc + len) ls (.int (q.2 i.toNatClampNeg) :: r) h else fl
    | _ => fl
  | 13 => match st with
    | .int y :: .int x :: r => match b with
      | 0 => if x = y then go a ls r h else go (pc + len) ls r h
      | 1 => if x = y then go (pc + len) ls r h else go a ls r h
      | 2 => if x < y then go a ls r h else go (pc + len) ls r h
      | 3 => if y ≤ x then go a ls r h else go (pc + len) ls r h
      | 4 => if y < x then go a ls r h else go (pc + len) ls r h
      | _ => if x ≤ y then go a ls r h else go (pc + len) ls r h
    | _ => fl
  | 14 => match st with
    | .int x :: r => match b with
      | 0 => if x = 0 then go a ls r h else go (pc + len) ls r h
      | 1 => if x = 0 then go (pc + len) ls r h else go a ls r h
      | 2 => if x < 0 then go a ls r h else go (pc + len) ls r h
      | 3 => if 0 ≤ x then go a ls r h else go (pc + len) ls r h
      | 4 => if 0 < x then go a ls r h else go (pc + len) ls r h
      | _ => if x ≤ 0 then go a ls r h else go (pc + len) ls r h
    | _ => fl
  | 15 => oo fl (ldI ls a) fun x => bif okS ls a then (frc (stl ls a (some (.int (x + v)))) fun ls => go (pc + len) ls st h) else fl
  | 16 => match st with
    | .int x :: .ref k :: r => bif Nat.beq (l.getD 2 0) 0 then (if kO h a k = true then go (pc + len) ls r (sI h k b x) else fl) else (if kO h a k = true ∧ (x = 0 ∨ x = 1) then go (pc + len) ls r (sI h k b x) else fl)
    | _ => fl
  | 17 => match st with
    | .ref x :: .ref k :: r => if kO h a k = true then go (pc + len) ls r (sR h k b x) else fl
    | _ => fl
  | 18 => match st with
    | .int x :: .int i :: .ref k :: r => if bA h k i = true then go (pc + len) ls r (sI h k i.toNatClampNeg x) else fl
    | _ => fl
  | 19 => match st with
    | [] => rt none h
    | _ => fl
  | 20 => match st with
    | w :: r => bif Nat.beq w.category 1 then go (pc + len) ls (w :: w :: r) h else fl
    | _ => fl
  | 21 => go (pc + len) ls (.ref h.1.length :: st) (nK h (.inl a))
  | 22 => match st with
    | .int n :: r => if ¬ n < 0 ∧ n.toNatClampNeg ≤ 100000 then go (pc + len) ls (.ref h.1.length :: r) (nK h (.inr (.inl n.toNatClampNeg))) else fl
    | _ => fl
  | 23 => match st with
    | .ref x :: r => bif okS ls a then (frc (stl ls a (some (.ref x))) fun ls => go (pc + len) ls r h) else fl
    | _ => fl
  | 24 => match st with
    | .int x :: r => swt x v (l.drop 1) (l.getD 0 0) fun t => go t ls r h
    | _ => fl
  | 25 => match st with
    | .int x :: r => if x = 0 then go (l.getD 1 0) ls r h else if x = 1 then go (l.getD 2 0) ls r h else go (l.getD 0 0) ls r h
    | _ => fl
  | 26 => match st with
    | .ref k :: r => oo fl (hN h k) fun x => go (pc + len) ls (.int x :: r) h
    | .null :: r => oo fl sc fun q => go (pc + len) ls (.int (Int32.ofNat q.1) :: r) h
    | _ => fl
  | 27 => oo fl (ldD ls a) fun x => go (pc + len) ls (.double x :: st) h
  | 28 => match st with
    | .int i :: .ref k :: r => oo fl (hQ h k i) fun x => go (pc + len) ls (.ref x :: r) h
    | _ => fl
  | 29 => match st with
    | .int x :: r => go (pc + len) ls (.double (FP.i2d x) :: r) h
    | _ => fl
  | 30 => match st with
    | [.ref x] => rt (some (.ref x)) h
    | _ => fl
  | 31 => match st with
    | w :: u :: r => bif Nat.beq w.category 1 && Nat.beq u.category 1 then go (pc + len) ls (w :: u :: w :: u :: r) h else fl
    | _ => fl
  | 32 => match st with
    | .double y :: .double x :: r => go (pc + len) ls (.int (Op.cmpValue (FP.dcmp x y) .l) :: r) h
    | _ => fl
  | 33 => match st with
    | .ref x :: .int i :: .ref k :: r => if bQ h k i x = true then go (pc + len) ls r (sR h k i.toNatClampNeg x) else fl
    | _ => fl
  | 34 => match st with
    | .ref _ :: r => go (pc + len) ls r h
    | _ => fl
  | 35 => match st with
    | .double x :: r => bif okS ls a then (frc (stl (stl ls a (some (.double x))) (a + 1) none) fun ls => go (pc + len) ls r h) else fl
    | _ => fl
  | 36 => match st with
    | [.double x] => rt (some (.double x)) h
    | _ => fl
  | 37 => match st with
    | .double y :: .double x :: r => if FP.ddiv x y &&& 0x7fffffffffffffff ≤ 0x7ff0000000000000 then go (pc + len) ls (.double (FP.ddiv x y) :: r) h else fl
    | _ => fl
  | 38 => bif Nat.beq b 0 then go (pc + len) ls (.double FP.dconst0 :: st) h else go (pc + len) ls (.double FP.dconst1 :: st) h
  | 39 => match st with
    | w :: r => bif Nat.beq w.category 1 then go (pc + len) ls r h else fl
    | _ => fl
  | 40 => match st with
    | .double y :: .double x :: r => if FP.dmul x y &&& 0x7fffffffffffffff ≤ 0x7ff0000000000000 then go (pc + len) ls (.double (FP.dmul x y) :: r) h else fl
    | _ => fl
  | 41 => match st with
    | .int n :: r => if ¬ n < 0 ∧ n.toNatClampNeg ≤ 100000 then go (pc + len) ls (.ref h.1.length :: r) (nK h (.inr (.inr n.toNatClampNeg))) else fl
    | _ => fl
  | 42 => match st with
    | .ref _ :: r => bif Nat.ble (r.map Value.category).sum 8 then go (pc + len) ls r h else fl
    | _ => fl
  | 43 => match st with
    | .int y :: .int x :: r => if y = 0 then fl else go (pc + len) ls (.int (x / y) :: r) h
    | _ => fl
  | 44 => match st with
    | .int y :: .int x :: r => if y = 0 then fl else go (pc + len) ls (.int (x - x / y * y) :: r) h
    | _ => fl
  | 45 => match st with
    | .int y :: .int x :: r => bif Nat.ble (r.map Value.category).sum 8 then go (pc + len) ls (.int (imax x y) :: r) h else fl
    | _ => fl
  | 46 => match st with
    | .int y :: .int x :: r => bif Nat.ble (r.map Value.category).sum 8 then go (pc + len) ls (.int (imin x y) :: r) h else fl
    | _ => fl
  | _ => fl
def fe : List pE → Nat → Option pE
  | [], _ => none
  | e :: I, pc => bif Nat.beq e.1 pc then some e else fe I pc
def mk : List Bool → pL → pL
  | b :: m, o :: ls => (bif b then o else none) :: mk m ls
  | _, _ => []
def cf : pC → Nat → Option (List Bool)
  | [], _ => none
  | q :: C, pc => bif Nat.beq q.1 pc then some q.2 else cf C pc
def trm (C : pC) (pc : Nat) (ls : pL) : pL := match cf C pc with
  | some m => mk m ls
  | none => ls
def cV (o : pR) (K : pH → pR) : pR := match o with
  | some (none, h) => K h
  | _ => none
def cI (o : pR) (K : Int32 → pH → pR) : pR := match o with
  | some (some (.int x), h) => K x h
  | _ => none
def cR (o : pR) (K : Nat → pH → pR) : pR := match o with
  | some (some (.ref x), h) => K x h
  | _ => none
def cD (o : pR) (K : UInt64 → pH → pR) : pR := match o with
  | some (some (.double x), h) => K x h
  | _ => none
def cc (rk : Nat) (o : pR) (K : List Value → pH → pR) : pR := match rk with
  | 0 => cV o fun h => K [] h
  | 1 => cI o fun x h => K [.int x] h
  | 2 => cR o fun x h => K [.ref x] h
  | _ => cD o fun x h => K [.double x] h
section Runs
variable (Ms : List pM)
def rn (sc : pX) : Nat → Nat → Nat → pL → List Value → pH → pR
  | 0, _, _, _, _, _ => none
  | n + 1, mi, pc, ls, st, h => oo none Ms[mi]? fun M => oo none (fe M.2.2.2.2.2.2.1 pc) fun e =>
    stp sc none (fun v h => some (v, h)) (fun pc ls st h => rn sc n mi pc (trm M.2.2.2.2.2.2.2 pc ls) st h)
      (fun y as rk pc ls r h => cc rk (rn none n y 0 (as.map some) [] h) fun w h => rn sc n mi pc (trm M.2.2.2.2.2.2.2 pc ls) (w ++ r) h) e ls st h
end Runs
end
section
/-! sizes only grow; what a row does with its next state; the limit of the runs -/
def kz (q : pK) : Nat := match q with
  | .inl ci => (vwCl[ci]?.map (fun q => q.2.2)).getD 0
  | .inr (.inl n) => n
  | .inr (.inr n) => n
def hz (h : pH) : Nat := (h.1.map kz).sum
def hle (h h' : pH) : Prop := h.1.length ≤ h'.1.length ∧ hz h ≤ hz h'
theorem hle_rf {h : pH} : hle h h := ⟨Nat.le_refl _, Nat.le_refl _⟩
theorem hle_tr {a b c : pH} (h : hle a b) (k : hle b c) : hle a c := ⟨Nat.le_trans h.1 k.1, Nat.le_trans h.2 k.2⟩
theorem hle_sI {h : pH} {k j : Nat} {x : Int32} : hle h (sI h k j x) := ⟨Nat.le_refl _, Nat.le_refl _⟩
theorem hle_sR {h : pH} {k j r : Nat} : hle h (sR h k j r) := ⟨Nat.le_refl _, Nat.le_refl _⟩
theorem hle_nK {h : pH} {q : pK} : hle h (nK h q) := by
  refine ⟨?_, ?_⟩
  · show h.1.length ≤ (h.1 ++ [q]).length
    simp
  · show hz h ≤ ((h.1 ++ [q]).map kz).sum
    simp [hz]
theorem oo_v {α β : Type} {fl : β} {x : α} {K : α → β} : oo fl (some x) K = K x := rfl
theorem oo_some {α β : Type} {o : Option α} {K : α → Option β} {r : β} (H : oo none o K = some r) : ∃ x, o = some x ∧ K x = some r := by
  cases o with
  | none => cases H
  | some x => exact ⟨x, rfl, H⟩
theorem bop_leaf {β : Type} {b : Nat} {x y : Int32} {K : Int32 → Option β} {r : β} (H : bop b x y K = some r) : ∃ z, K z = some r ∧ ∀ {γ : Type} (K' : Int32 → γ), bop b x y K' = K' z := by
  unfold bop at H ⊢
  split at H <;> exact ⟨_, H, fun _ => rfl⟩
theorem swt_leaf {β : Type} {x : Int32} {d : Nat} {r : β} : ∀ {ts : List Nat} {v : Int32} {K : Nat → Option β}, swt x v ts d K = some r → ∃ t, K t = some r ∧ ∀ {γ : Type} (K' : Nat → γ), swt x v ts d K' = K' t
  | [], v, K, H => ⟨d, H, fun _ => rfl⟩
  | t :: ts, v, K, H => by
    unfold swt at H
    split at H
    · rename_i hc
      exact ⟨t, H, fun K' => by unfold swt; rw [if_pos hc]⟩
    · rename_i hc
      obtain ⟨t', h1, h2⟩ := swt_leaf H
      exact ⟨t', h1, fun K' => by unfold swt; rw [if_neg hc]; exact h2 K'⟩
set_option maxHeartbeats 4000000 in
theorem stp_leaf {sc : pX} {go : Nat → pL → List Value → pH → pR} {cl : Nat → List Value → Nat → Nat → pL → List Value → pH → pR} {e : pE} {ls : pL} {st : List Value} {h : pH} {r : Option Value × pH}
    (H : stp sc none (fun v h => some (v, h)) go cl e ls st h = some r) :
    (r.2 = h ∧ ∀ go' cl', stp sc none (fun v h => some (v, h)) go' cl' e ls st h = some r) ∨
    (∃ pc' ls' st' h', go pc' ls' st' h' = some r ∧ hle h h' ∧ ∀ go' cl', stp sc none (fun v h => some (v, h)) go' cl' e ls st h = go' pc' ls' st' h') ∨
    (∃ y as rk pc' ls' st', cl y as rk pc' ls' st' h = some r ∧ ∀ go' cl', stp sc none (fun v h => some (v, h)) go' cl' e ls st h = cl' y as rk pc' ls' st' h) := by
  obtain ⟨pc, len, tag, a, b, v, l⟩ := e
  unfold stp at H ⊢
  dsimp only at H ⊢
  simp only [cond_eq_ite, frc_eq] at H ⊢
  split at H
  all_goals first
    | exact Or.inr (Or.inl ⟨_, _, _, _, H, by first | exact hle_rf | exact hle_nK, fun _ _ => rfl⟩)
    | skip
  all_goals try (split at H)
  all_goals first
    | (cases H; done)
    | exact Or.inl ⟨by cases H; rfl, fun _ _ => H⟩
    | exact Or.inr (Or.inl ⟨_, _, _, _, H, by first | exact hle_rf | exact hle_nK, fun _ _ => rfl⟩)
    | skip
  all_goals first
    | (refine Exists.elim (oo_some H) fun t ht => ?_; obtain ⟨h1, H⟩ := ht; simp only [h1, oo])
    | (refine Exists.elim (bop_leaf H) fun t ht => ?_; exact Or.inr (Or.inl ⟨_, _, _, _, ht.1, hle_rf, fun _ _ => ht.2 _⟩))
    | (refine Exists.elim (swt_leaf H) fun t ht => ?_; exact Or.inr (Or.inl ⟨_, _, _, _, ht.1, hle_rf, fun _ _ => ht.2 _⟩))
    | skip
  all_goals try (split at H)
  all_goals try (split at H)
  all_goals try (split at H)
  all_goals first
    | (cases H; done)
    | exact Or.inl ⟨by cases H; rfl, fun _ _ => by first | (simp only [*, ↓reduceIte]; done) | simp [*]⟩
    | exact Or.inr (Or.inl ⟨_, _, _, _, H, by first | exact hle_rf | exact hle_nK | exact hle_sI | exact hle_sR, fun _ _ => by first | rfl | (simp only [*, ↓reduceIte]; done) | simp [*]⟩)
    | exact Or.inr (Or.inr ⟨_, _, _, _, _, _, H, fun _ _ => by first | rfl | (simp only [*, ↓reduceIte]; done) | simp [*]⟩)
    | skip
/-- a row's end, read with other hands -/
theorem stp_use {sc : pX} {go go' : Nat → pL → List Value → pH → pR} {cl cl' : Nat → List Value → Nat → Nat → pL → List Value → pH → pR} {e : pE} {ls : pL} {st : List Value} {h : pH} {r : Option Value × pH}
    (H : stp sc none (fun v h => some (v, h)) go cl e ls st h = some r) (hg : ∀ pc ls st h, go pc ls st h = some r → go' pc ls st h = some r) (hc : ∀ y as rk pc ls st h, cl y as rk pc ls st h = some r → cl' y as rk pc ls st h = some r) :
    stp sc none (fun v h => some (v, h)) go' cl' e ls st h = some r := by
  rcases stp_leaf H with ⟨-, H⟩ | ⟨pc', ls', st', h', H, -, H2⟩ | ⟨y, as, rk, pc', ls', st', H, H2⟩
  · exact H _ _
  · rw [H2]; exact hg _ _ _ _ H
  · rw [H2]; exact hc _ _ _ _ _ _ _ H
theorem cc_use {rk : Nat} {o o' : pR} {K K' : List Value → pH → pR} {r : Option Value × pH} (H : cc rk o K = some r) (ho : ∀ x, o = some x → o' = some x) (hK : ∀ v h w, o = some (v, h) → w = v.toList → K w h = some r → K' w h = some r) : cc rk o' K' = some r := by
  rcases rk with _ | _ | _ | rk
  · change cV o _ = _ at H
    change cV o' _ = _
    unfold cV at H ⊢
    split at H
    · rw [ho _ rfl]; exact hK _ _ _ rfl rfl H
    · cases H
  · change cI o _ = _ at H
    change cI o' _ = _
    unfold cI at H ⊢
    split at H
    · rw [ho _ rfl]; exact hK _ _ _ rfl rfl H
    · cases H
  · change cR o _ = _ at H
    change cR o' _ = _
    unfold cR at H ⊢
    split at H
    · rw [ho _ rfl]; exact hK _ _ _ rfl rfl H
    · cases H
  · change cD o _ = _ at H
    change cD o' _ = _
    unfold cD at H ⊢
    split at H
    · rw [ho _ rfl]; exact hK _ _ _ rfl rfl H
    · cases H
theorem cc_some {rk : Nat} {o : pR} {K : List Value → pH → pR} {r : Option Value × pH} (H : cc rk o K = some r) : ∃ v h w, o = some (v, h) ∧ w = v.toList ∧ K w h = some r := by
  unfold cc at H
  split at H
  · unfold cV at H
    split at H
    · exact ⟨_, _, _, rfl, rfl, H⟩
    · cases H
  · unfold cI at H
    split at H
    · exact ⟨_, _, _, rfl, rfl, H⟩
    · cases H
  · unfold cR at H
    split at H
    · exact ⟨_, _, _, rfl, rfl, H⟩
    · cases H
  · unfold cD at H
    split at H
    · exact ⟨_, _, _, rfl, rfl, H⟩
    · cases H
section RunsB
variable {Ms : List pM}
theorem rn_succ {sc : pX} {n mi pc : Nat} {ls : pL} {st : List Value} {h : pH} : rn Ms sc (n + 1) mi pc ls st h = oo none Ms[mi]? fun M => oo none (fe M.2.2.2.2.2.2.1 pc) fun e =>
    stp sc none (fun v h => some (v, h)) (fun pc ls st h => rn Ms sc n mi pc (trm M.2.2.2.2.2.2.2 pc ls) st h)
      (fun y as rk pc ls r h => cc rk (rn Ms none n y 0 (as.map some) [] h) fun w h => rn Ms sc n mi pc (trm M.2.2.2.2.2.2.2 pc ls) (w ++ r) h) e ls st h := rfl
theorem rn_mono1 : ∀ (n : Nat) {sc : pX} {mi pc : Nat} {ls : pL} {st : List Value} {h : pH} {r : Option Value × pH}, rn Ms sc n mi pc ls st h = some r → rn Ms sc (n + 1) mi pc ls st h = some r
  | 0, _, _, _, _, _, _, _, H => by cases H
  | n + 1, sc, mi, pc, ls, st, h, r, H => by
    rw [rn_succ] at H ⊢
    obtain ⟨M, h1, H⟩ := oo_some H
    obtain ⟨e, h2, H⟩ := oo_some H
    rw [h1]
    show oo none (fe M.2.2.2.2.2.2.1 pc) _ = some r
    rw [h2]
    exact stp_use H (fun _ _ _ _ k => rn_mono1 n k) (fun _ _ _ _ _ _ _ k => cc_use k (fun _ k => rn_mono1 n k) (fun _ _ _ _ _ k => rn_mono1 n k))
theorem rn_mono {n k : Nat} (hk : n ≤ k) {sc : pX} {mi pc : Nat} {ls : pL} {st : List Value} {h : pH} {r : Option Value × pH} (H : rn Ms sc n mi pc ls st h = some r) : rn Ms sc k mi pc ls st h = some r := by
  induction hk with
  | refl => exact H
  | step _ ih => exact rn_mono1 _ ih
theorem rn_le : ∀ (n : Nat) {sc : pX} {mi pc : Nat} {ls : pL} {st : List Value} {h : pH} {r : Option Value × pH}, rn Ms sc n mi pc ls st h = some r → hle h r.2
  | 0, _, _, _, _, _, _, _, H => by cases H
  | n + 1, sc, mi, pc, ls, st, h, r, H => by
    rw [rn_succ] at H
    obtain ⟨M, h1, H⟩ := oo_some H
    obtain ⟨e, h2, H⟩ := oo_some H
    rcases stp_leaf H with ⟨h3, -⟩ | ⟨pc', ls', st', h', H, h3, -⟩ | ⟨y, as, rk, pc', ls', st', H, -⟩
    · rw [h3]; exact hle_rf
    · exact hle_tr h3 (rn_le n H)
    · obtain ⟨v, h4, w, h5, -, h6⟩ := cc_some H
      exact hle_tr (rn_le n h5) (rn_le n h6)
variable (Ms)
noncomputable def run (sc : pX) (mi pc : Nat) (ls : pL) (st : List Value) (h : pH) : pR := @dite _ (∃ n r, rn Ms sc n mi pc ls st h = some r) (Classical.propDecidable _) (fun H => some (Classical.choose (Classical.choose_spec H))) (fun _ => none)
variable {Ms}
theorem run_of {n : Nat} {sc : pX} {mi pc : Nat} {ls : pL} {st : List Value} {h : pH} {r : Option Value × pH} (H : rn Ms sc n mi pc ls st h = some r) : run Ms sc mi pc ls st h = some r := by
  have E : ∃ n r, rn Ms sc n mi pc ls st h = some r := ⟨n, r, H⟩
  unfold run
  rw [dif_pos E]
  have h1 := Classical.choose_spec (Classical.choose_spec E)
  have h2 := rn_mono (Nat.le_max_left n (Classical.choose E)) H
  have h3 := rn_mono (Nat.le_max_right n (Classical.choose E)) h1
  rw [h2] at h3
  exact h3.symm
theorem run_to {sc : pX} {mi pc : Nat} {ls : pL} {st : List Value} {h : pH} {r : Option Value × pH} (H : run Ms sc mi pc ls st h = some r) : ∃ n, rn Ms sc n mi pc ls st h = some r := by
  unfold run at H
  split at H
  · rename_i E
    have h1 := Classical.choose_spec (Classical.choose_spec E)
    cases H
    exact ⟨_, h1⟩
  · cases H
/-- the row at pc, with the runs themselves as hands -/
theorem run_row {sc : pX} {mi pc : Nat} {ls : pL} {st : List Value} {h : pH} {M : pM} (hM : Ms[mi]? = some M) : run Ms sc mi pc ls st h = oo none (fe M.2.2.2.2.2.2.1 pc) fun e =>
    stp sc none (fun v h => some (v, h)) (fun pc ls st h => run Ms sc mi pc (trm M.2.2.2.2.2.2.2 pc ls) st h)
      (fun y as rk pc ls r h => cc rk (run Ms none y 0 (as.map some) [] h) fun w h => run Ms sc mi pc (trm M.2.2.2.2.2.2.2 pc ls) (w ++ r) h) e ls st h := by
  apply Option.ext
  intro r
  constructor
  · intro H
    obtain ⟨n, H⟩ := run_to H
    cases n with
    | zero => cases H
    | succ n =>
      rw [rn_succ, hM] at H
      rw [oo_v] at H
      obtain ⟨e, h2, H⟩ := oo_some H
      rw [h2]
      exact stp_use H (fun _ _ _ _ k => run_of k) (fun _ _ _ _ _ _ _ k => cc_use k (fun _ k => run_of k) (fun _ _ _ _ _ k => run_of k))
  · intro H
    obtain ⟨e, h2, H⟩ := oo_some H
    have fin : ∀ n, (stp sc none (fun v h => some (v, h)) (fun pc ls st h => rn Ms sc n mi pc (trm M.2.2.2.2.2.2.2 pc ls) st h)
      (fun y as rk pc ls r h => cc rk (rn Ms none n y 0 (as.map some) [] h) fun w h => rn Ms sc n mi pc (trm M.2.2.2.2.2.2.2 pc ls) (w ++ r) h) e ls st h = some r) → run Ms sc mi pc ls st h = some r := by
      intro n k
      refine run_of (n := n + 1) ?_
      rw [rn_succ, hM]
      show oo none (fe M.2.2.2.2.2.2.1 pc) _ = some r
      rw [h2]
      exact k
    rcases stp_leaf H with ⟨-, H⟩ | ⟨pc', ls', st', h', H, -, H2⟩ | ⟨y, as, rk, pc', ls', st', H, H2⟩
    · exact fin 0 (H _ _)
    · obtain ⟨n, H⟩ := run_to H
      exact fin n ((H2 _ _).trans H)
    · obtain ⟨v, h4, w, h5, h6, h7⟩ := cc_some H
      obtain ⟨n1, k1⟩ := run_to h5
      obtain ⟨n2, k2⟩ := run_to h7
      refine fin (max n1 n2) ((H2 _ _).trans ?_)
      refine cc_use H (fun x hx => ?_) (fun v' h' w' hx hw _ => ?_)
      · rw [h5] at hx
        cases hx
        exact rn_mono (Nat.le_max_left _ _) k1
      · rw [h5] at hx
        cases hx
        rw [h6, ← hw] at k2
        exact rn_mono (Nat.le_max_right _ _) k2
/-- a stretch of rows, up to the next cut -/
noncomputable def exq (Ms : List pM) (sc : pX) (C : pC) (I : List pE) (mi : Nat) : Nat → Nat → pL → List Value → pH → pR
  | 0, pc, ls, st, h => run Ms sc mi pc ls st h
  | k + 1, pc, ls, st, h => oo none (fe I pc) fun e =>
    stp sc none (fun v h => some (v, h)) (fun pc ls st h => match cf C pc with
        | some m => run Ms sc mi pc (mk m ls) st h
        | none => exq Ms sc C I mi k pc ls st h)
      (fun y as rk pc ls r h => cc rk (run Ms none y 0 (as.map some) [] h) fun w h => match cf C pc with
        | some m => run Ms sc mi pc (mk m ls) (w ++ r) h
        | none => exq Ms sc C I mi k pc ls (w ++ r) h) e ls st h
theorem exq_run {sc : pX} {mi : Nat} {M : pM} (hM : Ms[mi]? = some M) : ∀ (k pc : Nat) (ls : pL) (st : List Value) (h : pH), exq Ms sc M.2.2.2.2.2.2.2 M.2.2.2.2.2.2.1 mi k pc ls st h = run Ms sc mi pc ls st h
  | 0, _, _, _, _ => rfl
  | k + 1, pc, ls, st, h => by
    have ih : ∀ pc ls st h, (match cf M.2.2.2.2.2.2.2 pc with
        | some m => run Ms sc mi pc (mk m ls) st h
        | none => exq Ms sc M.2.2.2.2.2.2.2 M.2.2.2.2.2.2.1 mi k pc ls st h) = run Ms sc mi pc (trm M.2.2.2.2.2.2.2 pc ls) st h := by
      intro pc ls st h
      unfold trm
      cases cf M.2.2.2.2.2.2.2 pc with
      | some m => rfl
      | none => exact exq_run hM k pc ls st h
    rw [run_row hM]
    unfold exq
    simp only [ih]
end RunsB
end
section
/-! the pure heap as a world of the kit: the object of number k lies at base + k -/
def fk (ci j : Nat) : Nat := (pFk.getD ci []).getD j 9
def pN (ci : Nat) : Nat := (vwCl[ci]?.map (fun q => q.2.2)).getD 0
def pv (base b : Nat) (v : Value) : Value := match v with
  | .ref k => .ref (base + k)
  | .null => .ref b
  | v => v
def pF (base : Nat) (h : pH) (ci k : Nat) : List Value := (List.range (pN ci)).map fun j => if fk ci j = 2 then va_rf ((h.2.1 k j).map (base + ·)) else .int (h.2.2 k j)
def pent (base : Nat) (cI cQ : ClassId) (h : pH) (q : pK) (k : Nat) : va_E := match q with
  | .inl ci => .inr (ci, pF base h ci k)
  | .inr (.inl n) => .inl (cI, n, .inl (h.2.2 k))
  | .inr (.inr n) => .inl (cQ, n, .inr (.inr (.inr (.inr fun j => (h.2.1 k j).map (base + ·)))))
def pW (base : Nat) (cI cQ : ClassId) (h : pH) : va_W := h.1.zipIdx.map fun q => (base + q.2, pent base cI cQ h q.1 q.2)
section World
variable {base : Nat} {cI cQ : ClassId} {h : pH}
theorem pW_i (i : Nat) : (pW base cI cQ h)[i]? = h.1[i]?.map fun q => (base + i, pent base cI cQ h q i) := by
  simp only [pW, List.getElem?_map, List.getElem?_zipIdx, Option.map_map, Nat.zero_add]
  rfl
theorem pW_at {k : Nat} {q : pK} (hk : h.1[k]? = some q) : (pW base cI cQ h)[k]? = some (base + k, pent base cI cQ h q k) := by rw [pW_i, hk]; rfl
theorem pW_D : va_D (fun q => base ≤ q) (pW base cI cQ h) := by
  have key : ∀ (k : Nat) (q : Nat × va_E), (pW base cI cQ h)[k]? = some q → q.1 = base + k := by
    intro k q hk
    rw [pW_i] at hk
    cases hq : h.1[k]? with
    | none => rw [hq] at hk; cases hk
    | some z => rw [hq] at hk; cases hk; rfl
  refine ⟨fun i j p q hi hj hpq => ?_, fun k q hk => ?_⟩
  · have h1 := key i p hi
    have h2 := key j q hj
    omega
  · have h1 := key k q hk
    show base ≤ q.1
    omega
theorem pent_eq {h' : pH} {q : pK} {k : Nat} (h1 : h.2.1 k = h'.2.1 k) (h2 : h.2.2 k = h'.2.2 k) : pent base cI cQ h q k = pent base cI cQ h' q k := by
  unfold pent pF
  rw [h1, h2]
theorem pW_set {h' : pH} {k : Nat} {q : pK} {e : va_E} (hk : h.1[k]? = some q) (hK : h'.1 = h.1) (ho : ∀ i, i ≠ k → h.2.1 i = h'.2.1 i ∧ h.2.2 i = h'.2.2 i) (he : pent base cI cQ h' q k = e) : pW base cI cQ h' = (pW base cI cQ h).set k (base + k, e) := by
  apply List.ext_getElem?
  intro i
  rw [List.getElem?_set]
  by_cases hi : k = i
  · subst hi
    have hl : k < (pW base cI cQ h).length := (List.getElem?_eq_some_iff.mp (pW_at (base := base) (cI := cI) (cQ := cQ) hk)).1
    rw [if_pos rfl, if_pos hl, pW_i, hK, hk, ← he]
    rfl
  · rw [if_neg hi, pW_i, pW_i, hK]
    cases hq : h.1[i]? with
    | none => rfl
    | some z =>
      exact congrArg (fun e => some (base + i, e)) (pent_eq (ho i (Ne.symm hi)).1 (ho i (Ne.symm hi)).2).symm
theorem s2_ne {α : Type} {f : Nat → Nat → α} {k j i : Nat} {x : α} (hi : i ≠ k) : s2 f k j x i = f i := by
  funext b
  simp [s2, hi]
theorem s2_self {α : Type} {f : Nat → Nat → α} {k j b : Nat} {x : α} : s2 f k j x k b = if b = j then x else f k b := by simp [s2]
theorem pF_set {h' : pH} {ci k j : Nat} {v : Value} (hj : j < pN ci) (h1 : ∀ i, i ≠ j → h'.2.1 k i = h.2.1 k i ∧ h'.2.2 k i = h.2.2 k i) (hv : (if fk ci j = 2 then va_rf ((h'.2.1 k j).map (base + ·)) else .int (h'.2.2 k j)) = v) : pF base h' ci k = (pF base h ci k).set j v := by
  apply List.ext_getElem?
  intro i
  rw [List.getElem?_set]
  by_cases hi : j = i
  · subst hi
    rw [if_pos rfl, if_pos (by simp [pF, hj])]
    simp only [pF, List.getElem?_map, List.getElem?_range hj, Option.map_some]
    rw [hv]
  · rw [if_neg hi]
    simp only [pF, List.getElem?_map]
    cases hr : (List.range (pN ci))[i]? with
    | none => rfl
    | some z =>
      have hz : z = i := by
        have := List.getElem?_eq_some_iff.mp hr
        obtain ⟨a1, a2⟩ := this
        simpa using a2.symm
      subst hz
      simp only [Option.map_some]
      rw [(h1 z (Ne.symm hi)).1, (h1 z (Ne.symm hi)).2]
theorem pW_sI {k ci j : Nat} {x : Int32} (hk : h.1[k]? = some (.inl ci)) (hj : j < pN ci) (hf : fk ci j ≠ 2) : pW base cI cQ (sI h k j x) = (pW base cI cQ h).set k (base + k, .inr (ci, (pF base h ci k).set j (.int x))) := by
  refine pW_set hk rfl (fun i hi => ⟨rfl, (s2_ne hi).symm⟩) ?_
  show Sum.inr (ci, pF base (sI h k j x) ci k) = _
  rw [pF_set (h := h) (h' := sI h k j x) (v := .int x) hj (fun i hi => ⟨rfl, by show s2 h.2.2 k j x k i = _; rw [s2_self, if_neg hi]⟩) (by rw [if_neg hf]; show Value.int (s2 h.2.2 k j x k j) = _; rw [s2_self, if_pos rfl])]
theorem pW_sR {k ci j r : Nat} (hk : h.1[k]? = some (.inl ci)) (hj : j < pN ci) (hf : fk ci j = 2) : pW base cI cQ (sR h k j r) = (pW base cI cQ h).set k (base + k, .inr (ci, (pF base h ci k).set j (.ref (base + r)))) := by
  refine pW_set hk rfl (fun i hi => ⟨(s2_ne hi).symm, rfl⟩) ?_
  show Sum.inr (ci, pF base (sR h k j r) ci k) = _
  rw [pF_set (h := h) (h' := sR h k j r) (v := .ref (base + r)) hj (fun i hi => ⟨by show s2 h.2.1 k j (some r) k i = _; rw [s2_self, if_neg hi], rfl⟩) (by rw [if_pos hf]; show va_rf ((s2 h.2.1 k j (some r) k j).map (base + ·)) = _; rw [s2_self, if_pos rfl]; rfl)]
theorem pW_aI {k n j : Nat} {x : Int32} (hk : h.1[k]? = some (.inr (.inl n))) : pW base cI cQ (sI h k j x) = (pW base cI cQ h).set k (base + k, .inl (cI, n, .inl (upd (h.2.2 k) j x))) := by
  refine pW_set hk rfl (fun i hi => ⟨rfl, (s2_ne hi).symm⟩) ?_
  show Sum.inl (cI, n, Sum.inl (s2 h.2.2 k j x k)) = _
  rw [show s2 h.2.2 k j x k = upd (h.2.2 k) j x from by funext b; rw [s2_self]; rfl]
theorem pW_aR {k n j r : Nat} (hk : h.1[k]? = some (.inr (.inr n))) : pW base cI cQ (sR h k j r) = (pW base cI cQ h).set k (base + k, .inl (cQ, n, .inr (.inr (.inr (.inr (va_up (fun j => (h.2.1 k j).map (base + ·)) j (some (base + r)))))))) := by
  refine pW_set hk rfl (fun i hi => ⟨(s2_ne hi).symm, rfl⟩) ?_
  show Sum.inl (cQ, n, Sum.inr (Sum.inr (Sum.inr (Sum.inr fun i => (s2 h.2.1 k j (some r) k i).map (base + ·))))) = _
  rw [show (fun i => (s2 h.2.1 k j (some r) k i).map (base + ·)) = va_up (fun j => (h.2.1 k j).map (base + ·)) j (some (base + r)) from by
    funext b
    rw [s2_self]
    unfold va_up
    by_cases hb : b = j
    · rw [if_pos hb, if_pos hb]; rfl
    · rw [if_neg hb, if_neg hb]]
theorem pW_nK {q : pK} : pW base cI cQ (nK h q) = pW base cI cQ h ++ [(base + h.1.length, pent base cI cQ (nK h q) q h.1.length)] := by
  have hl : (pW base cI cQ h).length = h.1.length := by simp [pW]
  apply List.ext_getElem?
  intro i
  rw [pW_i]
  show (h.1 ++ [q])[i]?.map _ = _
  by_cases hi : i < h.1.length
  · rw [List.getElem?_append_left hi, List.getElem?_append_left (by rw [hl]; exact hi), pW_i]
    cases hq : h.1[i]? with
    | none => rfl
    | some z =>
      have hne : i ≠ h.1.length := by omega
      exact congrArg (fun e => some (base + i, e)) (pent_eq (h := nK h q) (h' := h) (by funext b; simp [nK, z2, hne]) (by funext b; simp [nK, z2, hne]))
  · rw [List.getElem?_append_right (by omega), List.getElem?_append_right (by rw [hl]; omega), hl]
    by_cases he : i = h.1.length
    · subst he
      rw [Nat.sub_self]
      rfl
    · rw [List.getElem?_eq_none (by simp; omega), List.getElem?_eq_none (by simp; omega)]
      rfl
end World
/-! locals -/
def lr (base b nL : Nat) (ls : pL) (LS : Array Slot) : Prop := LS.size = nL ∧ lv_wf LS ∧ ∀ (i : Nat) (v : Value), ls[i]? = some (some v) → LS[i]? = some (.val (pv base b v))
def asc (base b : Nat) (ls : pL) : List (Nat × Value) := (List.range ls.length).filterMap fun i => match ls[i]? with
  | some (some v) => some (i, pv base b v)
  | _ => none
theorem asc_mem {base b : Nat} {ls : pL} {q : Nat × Value} : q ∈ asc base b ls ↔ ∃ v, ls[q.1]? = some (some v) ∧ q.2 = pv base b v := by
  unfold asc
  rw [List.mem_filterMap]
  constructor
  · rintro ⟨i, -, hi⟩
    split at hi
    · rename_i v hv
      cases hi
      exact ⟨v, hv, rfl⟩
    · cases hi
  · rintro ⟨v, hv, he⟩
    refine ⟨q.1, List.mem_range.mpr (List.getElem?_eq_some_iff.mp hv).1, ?_⟩
    rw [hv]
    show some (q.1, pv base b v) = some q
    rw [← he]
theorem lr_has {base b nL : Nat} {ls : pL} {LS : Array Slot} (h : lr base b nL ls LS) : lv_has LS nL (asc base b ls) := ⟨h.1, h.2.1, fun q hq => by
  obtain ⟨v, hv, he⟩ := asc_mem.mp hq
  rw [he]
  exact h.2.2 q.1 v hv⟩
theorem stl_at {ls : pL} {a i : Nat} {o : Option Value} {v : Value} (h : (stl ls a o)[i]? = some (some v)) : (i = a ∧ o = some v) ∨ (i ≠ a ∧ ls[i]? = some (some v)) := by
  unfold stl at h
  split at h
  · rename_i hl
    by_cases hi : i = a
    · subst hi
      rw [List.getElem?_set_self hl] at h
      exact Or.inl ⟨rfl, Option.some.inj h⟩
    · rw [List.getElem?_set_ne (Ne.symm hi)] at h
      exact Or.inr ⟨hi, h⟩
  · rename_i hl
    by_cases h1 : i < ls.length
    · rw [List.append_assoc, List.getElem?_append_left h1] at h
      exact Or.inr ⟨by omega, h⟩
    · by_cases h2 : i < a
      · rw [List.getElem?_append_left (by simp; omega), List.getElem?_append_right (by omega), List.getElem?_replicate] at h
        split at h <;> cases h
      · rw [List.getElem?_append_right (by simp; omega)] at h
        simp only [List.length_append, List.length_replicate] at h
        have hz : i - (ls.length + (a - ls.length)) < 1 := (List.getElem?_eq_some_iff.mp h).1
        rw [show i - (ls.length + (a - ls.length)) = 0 by omega] at h
        exact Or.inl ⟨by omega, Option.some.inj h⟩
theorem pv_cat {base b : Nat} {v : Value} : (pv base b v).category = v.category := by cases v <;> rfl
theorem lr_stl1 {base b nL a : Nat} {ls : pL} {LS : Array Slot} {v : Value} (ho : okS ls a = true)
    (h : lv_has LS nL ((a, pv base b v) :: (asc base b ls).filter (fun q => !(q.1 == a) && !(q.1 + 1 == a && q.2.category == 2)))) : lr base b nL (stl ls a (some v)) LS := by
  refine ⟨h.1, h.2.1, fun i w hi => ?_⟩
  rcases stl_at hi with ⟨rfl, h1⟩ | ⟨h1, h2⟩
  · cases h1
    exact h.2.2 (i, pv base b v) List.mem_cons_self
  · refine h.2.2 (i, pv base b w) (List.mem_cons_of_mem _ (List.mem_filter.mpr ⟨asc_mem.mpr ⟨w, h2, rfl⟩, ?_⟩))
    simp only [Bool.and_eq_true, Bool.not_eq_true', beq_eq_false_iff_ne, ne_eq, Bool.and_eq_false_iff]
    refine ⟨h1, ?_⟩
    by_cases h3 : i + 1 = a
    · refine Or.inr ?_
      subst h3
      unfold okS at ho
      simp only [h2] at ho
      rw [pv_cat]
      simpa using ho
    · exact Or.inl h3
theorem lr_stl2 {base b nL a : Nat} {ls : pL} {LS : Array Slot} {v : Value} (ho : okS ls a = true)
    (h : lv_has LS nL ((a, pv base b v) :: (asc base b ls).filter (fun q => !(q.1 == a) && (!(q.1 == a + 1) && !(q.1 + 1 == a && q.2.category == 2))))) : lr base b nL (stl (stl ls a (some v)) (a + 1) none) LS := by
  refine ⟨h.1, h.2.1, fun i w hi => ?_⟩
  rcases stl_at hi with ⟨-, h1⟩ | ⟨h0, hi⟩
  · cases h1
  rcases stl_at hi with ⟨rfl, h1⟩ | ⟨h1, h2⟩
  · cases h1
    exact h.2.2 (i, pv base b v) List.mem_cons_self
  · refine h.2.2 (i, pv base b w) (List.mem_cons_of_mem _ (List.mem_filter.mpr ⟨asc_mem.mpr ⟨w, h2, rfl⟩, ?_⟩))
    simp only [Bool.and_eq_true, Bool.not_eq_true', beq_eq_false_iff_ne, ne_eq, Bool.and_eq_false_iff]
    refine ⟨h1, h0, ?_⟩
    by_cases h3 : i + 1 = a
    · refine Or.inr ?_
      subst h3
      unfold okS at ho
      simp only [h2] at ho
      rw [pv_cat]
      simpa using ho
    · exact Or.inl h3
theorem mk_at : ∀ {m : List Bool} {ls : pL} {i : Nat} {v : Value}, (mk m ls)[i]? = some (some v) → ls[i]? = some (some v)
  | [], _, i, v, h => by simp [mk] at h
  | _ :: _, [], i, v, h => by simp [mk] at h
  | b :: m, o :: ls, 0, v, h => by
    cases b with
    | true => exact h
    | false => simp [mk] at h
  | b :: m, o :: ls, i + 1, v, h => by
    rw [List.getElem?_cons_succ]
    exact mk_at (by simpa [mk] using h)
theorem lr_trm {base b nL pc : Nat} {C : pC} {ls : pL} {LS : Array Slot} (h : lr base b nL ls LS) : lr base b nL (trm C pc ls) LS := by
  refine ⟨h.1, h.2.1, fun i v hi => h.2.2 i v ?_⟩
  unfold trm at hi
  split at hi
  · exact mk_at hi
  · exact hi
theorem ldI_at {ls : pL} {a : Nat} {x : Int32} (h : ldI ls a = some x) : ls[a]? = some (some (.int x)) := by
  unfold ldI at h
  split at h
  · rename_i y hy
    cases h
    exact hy
  · cases h
theorem ldD_at {ls : pL} {a : Nat} {x : UInt64} (h : ldD ls a = some x) : ls[a]? = some (some (.double x)) := by
  unfold ldD at h
  split at h
  · rename_i y hy
    cases h
    exact hy
  · cases h
theorem ldR_at {ls : pL} {a : Nat} {w : Value} (h : ldR ls a = some w) : ls[a]? = some (some w) ∧ ((∃ k, w = .ref k) ∨ w = .null) := by
  unfold ldR at h
  split at h
  · rename_i y hy
    cases h
    exact ⟨hy, Or.inl ⟨_, rfl⟩⟩
  · rename_i hy
    cases h
    exact ⟨hy, Or.inr rfl⟩
  · cases h
end
section
/-! what is checked of a method's rows beforehand -/
abbrev mI (M : pM) : List pE := M.2.2.2.2.2.2.1
abbrev mC (M : pM) : pC := M.2.2.2.2.2.2.2
abbrev mL (M : pM) : Nat := M.2.2.1
abbrev mR (M : pM) : Option FieldType := M.2.2.2.1
abbrev mF (M : pM) : Nat := M.2.2.2.2.1
abbrev mO (M : pM) : Nat := M.2.2.2.2.2.1
def gW : List Cond := lw_tbl.filter goodWord
def wAt (i : Nat) (w : Cond) : Bool := decide (lw_tbl[i]? = some w) && goodWord w
theorem wAt_in {i : Nat} {w : Cond} (h : wAt i w = true) : w ∈ gW := by
  simp only [wAt, Bool.and_eq_true, decide_eq_true_eq] at h
  exact List.mem_filter.mpr ⟨List.mem_of_getElem? h.1, h.2⟩
def pTy (ci k : Nat) : FieldType := match ci with
  | 0 => tyX0 k
  | 1 => tyX1 k
  | 2 => tyX2 k
  | 3 => tyX4 k
  | 4 => tyX5 k
  | 5 => tyX6 k
  | 6 => tyX7 k
  | 7 => tyX9 k
  | _ => tyX10 k
def tyk (t : FieldType) : Nat := match t with
  | .int => 0
  | .boolean => 1
  | .object _ => 2
  | .array _ => 2
  | _ => 9
def rkOf (t : Option FieldType) : Nat := match t with
  | none => 0
  | some .int => 1
  | some .boolean => 1
  | some (.object _) => 2
  | some (.array _) => 2
  | some .double => 3
  | _ => 9
def exI (e : pE) : Instr := match e with
  | (pc, len, tag, a, b, v, l) => match tag with
    | 0 => if len = 1 then .aload_n (Fin.ofNat 4 a) else .aload a
    | 1 => if len = 1 then .iload_n (Fin.ofNat 4 a) else .iload a
    | 2 => .getfield (l.getD 0 0)
    | 3 => .getfield (l.getD 0 0)
    | 4 => match b with
      | 0 => .iconst v.toInt
      | 1 => .bipush v.toInt
      | 2 => .sipush v.toInt
      | 3 => .ldc a
      | _ => .ldc_w a
    | 5 => .goto ((a : Int) - pc)
    | 6 => .invokevirtual (l.getD 0 0)
    | 7 => .invokestatic (l.getD 0 0)
    | 8 => .invokespecial (l.getD 0 0)
    | 9 => .ireturn
    | 10 => if len = 1 then .istore_n (Fin.ofNat 4 a) else .istore a
    | 11 => match b with
      | 0 => .iadd
      | 1 => .isub
      | 2 => .imul
      | 3 => .iand
      | 4 => .ior
      | 5 => .ixor
      | 6 => .ishl
      | 7 => .ishr
      | _ => .iushr
    | 12 => .iaload
    | 13 => match b with
      | 0 => .if_icmp .eq ((a : Int) - pc)
      | 1 => .if_icmp .ne ((a : Int) - pc)
      | 2 => .if_icmp .lt ((a : Int) - pc)
      | 3 => .if_icmp .ge ((a : Int) - pc)
      | 4 => .if_icmp .gt ((a : Int) - pc)
      | _ => .if_icmp .le ((a : Int) - pc)
    | 14 => match b with
      | 0 => .ifCond .eq ((a : Int) - pc)
      | 1 => .ifCond .ne ((a : Int) - pc)
      | 2 => .ifCond .lt ((a : Int) - pc)
      | 3 => .ifCond .ge ((a : Int) - pc)
      | 4 => .ifCond .gt ((a : Int) - pc)
      | _ => .ifCond .le ((a : Int) - pc)
    | 15 => .iinc a v.toInt
    | 16 => .putfield (l.getD 0 0)
    | 17 => .putfield (l.getD 0 0)
    | 18 => .iastore
    | 19 => .return_
    | 20 => .dup
    | 21 => .new (l.getD 0 0)
    | 22 => .newarray .int
    | 23 => if len = 1 then .astore_n (Fin.ofNat 4 a) else .astore a
    | 24 => .tableswitch ((l.getD 0 0 : Nat) - (pc : Int)) v.toInt (v.toInt + (l.length : Int) - 2) ((l.drop 1).map (fun (t : Nat) => (t : Int) - (pc : Int))).toArray
    | 25 => .lookupswitch ((l.getD 0 0 : Nat) - (pc : Int)) #[(0, (l.getD 1 0 : Nat) - (pc : Int)), (1, (l.getD 2 0 : Nat) - (pc : Int))]
    | 26 => .arraylength
    | 27 => if len = 1 then .dload_n (Fin.ofNat 4 a) else .dload a
    | 28 => .aaload
    | 29 => .i2d
    | 30 => .areturn
    | 31 => .dup2
    | 32 => .dcmp .l
    | 33 => .aastore
    | 34 => .ifnull ((a : Int) - pc)
    | 35 => if len = 1 then .dstore_n (Fin.ofNat 4 a) else .dstore a
    | 36 => .dreturn
    | 37 => .ddiv
    | 38 => match b with
      | 0 => .dconst 0
      | _ => .dconst 1
    | 39 => .pop
    | 40 => .dmul
    | 41 => .anewarray (l.getD 0 0)
    | 42 => .invokespecial (l.getD 0 0)
    | 43 => .idiv
    | 45 => .invokestatic (l.getD 0 0)
    | 46 => .invokestatic (l.getD 0 0)
    | _ => .irem
def fldB (M : pM) (a b : Nat) (l : List Nat) : Bool := match vwCl[a]? with
  | some q => decide (b < q.2.2) && decide ((q.2.1 b).1 = q.1) && (bif Nat.beq (l.getD 1 0) 0 then wAt (l.getD 3 0) (.fieldLink M.1.cls (l.getD 0 0) q.1 (q.2.1 b).2.1 (q.2.1 b).2.2.1) else decide (lw_tbl[l.getD 3 0]? = some (.fieldLinkNest M.1.cls (l.getD 0 0) q.1 (q.2.1 b).2.1 (q.2.1 b).2.2.1 "ShelfSpines")))
  | none => false
def finB (M : pM) (a b : Nat) (l : List Nat) : Bool := match vwCl[a]? with
  | some q => !(q.2.1 b).2.2.2 || (Nat.beq (l.getD 1 0) 0 && decide (M.1.name = "<init>") && decide ((q.2.1 b).1 = M.1.cls))
  | none => false
def calB (Ms : List pM) (M : pM) (a np nl : Nat) (l : List Nat) : Bool := match Ms[a]? with
  | some N => wAt (l.getD 3 0) (.methodLink M.1.cls (l.getD 0 0) N.1) && wAt (l.getD 4 0) (.code N.1 N.2.1 (mL N) (mR N)) && wAt (l.getD 5 0) (.initialized N.1.cls) && decide (mF N + 1 ≤ mF M) && decide (8 + (mL N + 11) + mO N ≤ mO M) && decide (N.1.cls ≠ "java/lang/invoke/MethodHandle") && decide (N.1.cls ≠ "java/lang/invoke/VarHandle") && decide ((parseMethodDescriptor N.1.desc).map (fun d => d.parameters.length) = some np) && decide (rkOf (mR N) = l.getD 1 0) && decide (nl ≤ mL N)
  | none => false
def newB (M : pM) (a : Nat) (l : List Nat) : Bool := match vwCl[a]? with
  | some q => wAt (l.getD 3 0) (.classLink M.1.cls (l.getD 0 0) q.1) && wAt (l.getD 4 0) (.instantiable q.1 q.2.2) && wAt (l.getD 5 0) (.initialized q.1)
  | none => false
def virB (Ms : List pM) (a : Nat) (l : List Nat) : Bool := match Ms[a]? with
  | some N => wAt (l.getD 6 0) (.instanceMethod N.1) && wAt (l.getD 7 0) (.selects N.1.cls N.1 N.1) && (match vwCl[l.getD 2 0]? with
    | some q => decide (q.1 = N.1.cls)
    | none => false)
  | none => false
def stcB (Ms : List pM) (a : Nat) (l : List Nat) : Bool := match Ms[a]? with
  | some N => wAt (l.getD 6 0) (.static N.1)
  | none => false
def spcB (Ms : List pM) (a : Nat) (l : List Nat) : Bool := match Ms[a]? with
  | some N => wAt (l.getD 6 0) (.instanceMethod N.1) && decide (N.1.name = "<init>") && decide (mR N = none)
  | none => false
def sdB (Ms : List pM) (M : pM) (e : pE) : Bool := match e with
  | (pc, len, tag, a, b, v, l) => match tag with
    | 0 => (decide (len = 1) && decide (a < 4)) || decide (len = 2)
    | 1 => (decide (len = 1) && decide (a < 4)) || decide (len = 2)
    | 2 => decide (len = 3) && decide (fk a b ≠ 2) && fldB M a b l
    | 3 => decide (len = 3) && decide (fk a b = 2) && fldB M a b l
    | 4 => match b with
      | 0 => decide (len = 1)
      | 1 => decide (len = 2) && decide ((Int8.ofInt v.toInt).toInt32 = v)
      | 2 => decide (len = 3) && decide ((Int16.ofInt v.toInt).toInt32 = v)
      | 3 => decide (len = 2) && wAt (l.getD 3 0) (.constant M.1.cls a v)
      | _ => decide (len = 3) && wAt (l.getD 3 0) (.constant M.1.cls a v)
    | 5 => decide (len = 3)
    | 6 => decide (len = 3) && decide (1 ≤ b) && calB Ms M a (b - 1) b l && virB Ms a l
    | 7 => decide (len = 3) && calB Ms M a b b l && stcB Ms a l
    | 8 => decide (len = 3) && decide (1 ≤ b) && calB Ms M a (b - 1) b l && spcB Ms a l
    | 9 => decide (len = 1) && (bif Nat.beq b 0 then decide (mR M = some .int) else decide (mR M = some .boolean))
    | 10 => ((decide (len = 1) && decide (a < 4)) || decide (len = 2)) && decide (a < mL M)
    | 11 => decide (len = 1)
    | 12 => decide (len = 1)
    | 13 => decide (len = 3)
    | 14 => decide (len = 3)
    | 15 => decide (len = 3) && decide (a < mL M)
    | 16 => decide (len = 3) && decide (fk a b ≠ 2) && fldB M a b l && finB M a b l && decide (fk a b = l.getD 2 0)
    | 17 => decide (len = 3) && decide (fk a b = 2) && fldB M a b l && finB M a b l
    | 18 => decide (len = 1)
    | 19 => decide (len = 1) && decide (mR M = none)
    | 20 => decide (len = 1)
    | 21 => decide (len = 3) && newB M a l
    | 22 => decide (len = 2) && wAt (l.getD 3 0) (.arrayClass .int)
    | 23 => ((decide (len = 1) && decide (a < 4)) || decide (len = 2)) && decide (a < mL M)
    | 24 => decide (2 ≤ l.length) && decide (l.length ≤ 100) && decide (0 ≤ v.toInt) && decide (v.toInt ≤ 100)
    | 25 => decide (l.length = 3)
    | 26 => decide (len = 1)
    | 27 => (decide (len = 1) && decide (a < 4)) || decide (len = 2)
    | 28 => decide (len = 1)
    | 29 => decide (len = 1)
    | 30 => decide (len = 1) && decide (rkOf (mR M) = 2)
    | 31 => decide (len = 1)
    | 32 => decide (len = 1)
    | 33 => decide (len = 1)
    | 34 => decide (len = 3)
    | 35 => ((decide (len = 1) && decide (a < 4)) || decide (len = 2)) && decide (a + 1 < mL M)
    | 36 => decide (len = 1) && decide (mR M = some .double)
    | 37 => decide (len = 1)
    | 38 => decide (len = 1)
    | 39 => decide (len = 1)
    | 40 => decide (len = 1)
    | 41 => decide (len = 3) && wAt (l.getD 3 0) (.classLink M.1.cls (l.getD 0 0) "ShelfSpines$Shelf") && decide (lw_tbl[l.getD 4 0]? = some (.arrayOver (.object "ShelfSpines$Shelf")))
    | 42 => decide (len = 3) && wAt (l.getD 3 0) (.methodLink M.1.cls (l.getD 0 0) Lib.objectInit) && wAt (l.getD 4 0) (.instanceMethod Lib.objectInit) && wAt (l.getD 5 0) (.code Lib.objectInit ⟨#[0xb1]⟩ 1 none) && decide (1 ≤ mF M) && decide (20 ≤ mO M)
    | 43 => decide (len = 1)
    | 44 => decide (len = 1)
    | 45 => decide (len = 3) && wAt (l.getD 3 0) (.methodLink M.1.cls (l.getD 0 0) Lib.Math.max.name) && wAt (l.getD 4 0) (.static Lib.Math.max.name) && wAt (l.getD 5 0) (.initialized "java/lang/Math") && wAt (l.getD 6 0) (.code Lib.Math.max.name Lib.Math.max.code 2 (some .int)) && decide (1 ≤ mF M) && decide (21 ≤ mO M)
    | 46 => decide (len = 3) && wAt (l.getD 3 0) (.methodLink M.1.cls (l.getD 0 0) Lib.Math.min.name) && wAt (l.getD 4 0) (.static Lib.Math.min.name) && wAt (l.getD 5 0) (.initialized "java/lang/Math") && wAt (l.getD 6 0) (.code Lib.Math.min.name Lib.Math.min.code 2 (some .int)) && decide (1 ≤ mF M) && decide (21 ≤ mO M)
    | _ => false
/-- a method's rows are those of its code -/
def okM (Ms : List pM) (M : pM) : Prop := plainName M.1.cls = true ∧ ∀ e ∈ mI M, decode M.2.1 e.1 = .ok (exI e, e.2.1) ∧ sdB Ms M e = true
def okB (Ms : List pM) (M : pM) (I : List pE) : Bool := plainName M.1.cls && I.all fun e => decide (decode M.2.1 e.1 = .ok (exI e, e.2.1)) && sdB Ms M e
theorem okB_M {Ms : List pM} {M : pM} (h : okB Ms M (mI M) = true) : okM Ms M := by
  obtain ⟨h0, h⟩ := (Bool.and_eq_true _ _).mp h
  refine ⟨h0, fun e he => ?_⟩
  have h1 := List.all_eq_true.mp h e he
  simpa only [Bool.and_eq_true, decide_eq_true_eq] using h1
def pNt : List Cond := lw_tbl.filter fun w => match w with
  | .fieldLinkNest _ _ _ _ _ _ => true
  | .arrayOver (.object _) => true
  | _ => false
theorem fe_in : ∀ {I : List pE} {pc : Nat} {e : pE}, fe I pc = some e → e ∈ I ∧ e.1 = pc
  | [], _, _, h => by cases h
  | q :: I, pc, e, h => by
    unfold fe at h
    cases hb : Nat.beq q.1 pc with
    | true =>
      rw [hb] at h
      cases h
      exact ⟨List.mem_cons_self, Nat.eq_of_beq_eq_true hb⟩
    | false =>
      rw [hb] at h
      obtain ⟨h1, h2⟩ := fe_in (I := I) h
      exact ⟨List.mem_cons_of_mem _ h1, h2⟩

theorem cls_ok : ∀ (ci : Nat) (q : vw_C), vwCl[ci]? = some q → (∀ w ∈ u_ws q.1 q.2.1 q.2.2, w ∈ gW) ∧ (∀ k, k < q.2.2 → parseFieldDescriptor (q.2.1 k).2.2.1 = some (pTy ci k)) ∧ (∀ a, a < q.2.2 → ∀ b, b < q.2.2 → a ≠ b → (q.2.1 a).2.1 ≠ (q.2.1 b).2.1) ∧ (∀ k, k < q.2.2 → tyk (pTy ci k) = fk ci k) ∧ pN ci = q.2.2
  | 0, q, h => by
    cases h
    exact ⟨by decide +kernel, tyX0_ok, nmX0, by decide +kernel, by decide +kernel⟩
  | 1, q, h => by
    cases h
    exact ⟨by decide +kernel, tyX1_ok, nmX1, by decide +kernel, by decide +kernel⟩
  | 2, q, h => by
    cases h
    exact ⟨by decide +kernel, tyX2_ok, nmX2, by decide +kernel, by decide +kernel⟩
  | 3, q, h => by
    cases h
    exact ⟨by decide +kernel, tyX4_ok, nmX4, by decide +kernel, by decide +kernel⟩
  | 4, q, h => by
    cases h
    exact ⟨by decide +kernel, tyX5_ok, nmX5, by decide +kernel, by decide +kernel⟩
  | 5, q, h => by
    cases h
    exact ⟨by decide +kernel, tyX6_ok, nmX6, by decide +kernel, by decide +kernel⟩
  | 6, q, h => by
    cases h
    exact ⟨by decide +kernel, tyX7_ok, nmX7, by decide +kernel, by decide +kernel⟩
  | 7, q, h => by
    cases h
    exact ⟨by decide +kernel, tyX9_ok, nmX9, by decide +kernel, by decide +kernel⟩
  | 8, q, h => by
    cases h
    exact ⟨by decide +kernel, tyX10_ok, nmX10, by decide +kernel, by decide +kernel⟩
  | k + 9, q, h => by simp [vwCl] at h
end
section
/-! a state of the pure machine and a state of the machine -/
def pMt (base b0 : Nat) (D : va_G) (cI cQ : ClassId) (H0 : Heap) (nL C0 Z0 : Nat) (ls : pL) (h : pH) (LS : Array Slot) (H : Heap) (locs : List Loc) (cells slots : Nat) : Prop :=
  base + h.1.length ≤ H.size ∧ va_P D vwCl (pW base cI cQ h) H ∧ va_S (fun q => base ≤ q) H0 H locs ∧ lr base b0 nL ls LS ∧ cells + C0 = h.1.length ∧ slots + Z0 = hz h
def pFx (p : Program) (R : Room) (s : State) (m : MethodId) (args : Array Value) (meth : Method) (c : Code) (M : pM) (base C0 : Nat) (D : va_G) (cI cQ : ClassId) (H0 : Heap) : Prop :=
  p.tables.exec = Jvm.exec ∧ c.code = M.2.1 ∧ c.maxLocals = mL M ∧ s.vm.findClass M.1.cls = some m.cls ∧ (∀ w ∈ gW, w.before args s = true) ∧ (∀ w ∈ pNt, va_Nw w s) ∧ meth.name = M.1.name ∧ mF M ≤ R.frames ∧ mO M ≤ R.locals ∧ va_K D vwCl [(cI, .int), (cQ, .object "ShelfSpines$Shelf")] s ∧ base ≤ H0.size ∧ mR M = meth.sig.returnType ∧ s.heap.size = base + C0 ∧ meth.locks = false
/-- the script, where there is one -/
def pSc (sc : pX) (b0 : Nat) (s : State) (H0 : Heap) (base : Nat) : Prop := ∀ q, sc = some q → va_X b0 q.1 q.2 s H0 ∧ b0 < H0.size ∧ ¬ base ≤ b0
section Sound
variable {p : Program} {l : Launch} {e : Env} {R : Room} {s : State} {m : MethodId} {args : Array Value} {below : List Frame} {meth : Method} {c : Code} {Q : State → Prop}
variable {Ms : List pM} {M : pM} {base b0 : Nat} {D : va_G} {cI cQ : ClassId} {H0 H : Heap} {C0 Z0 : Nat} {r : Option Value × pH} {sc : pX} {go : Nat → pL → List Value → pH → pR} {cl : Nat → List Value → Nat → Nat → pL → List Value → pH → pR}
variable {pc len a b : Nat} {v : Int32} {li : List Nat} {ls : pL} {st : List Value} {h : pH} {LS : Array Slot} {locs : List Loc} {cells slots : Nat}
def pKK (p : Program) (l : Launch) (e : Env) (R : Room) (s : State) (m : MethodId) (args : Array Value) (below : List Frame) (meth : Method) (c : Code) (Q : State → Prop) (M : pM) (base b0 : Nat) (D : va_G) (cI cQ : ClassId) (H0 : Heap) (C0 Z0 : Nat) (r : Option Value × pH) (go : Nat → pL → List Value → pH → pR) : Prop :=
  ∀ (pc : Nat) (ls : pL) (st : List Value) (h : pH) (LS : Array Slot) (H : Heap) (locs : List Loc) (cells slots : Nat), go pc ls st h = some r → pMt base b0 D cI cQ H0 (mL M) C0 Z0 ls h LS H locs cells slots →
    W p l e R s m args below meth c H locs cells slots Q (F0 m pc LS (st.map (pv base b0)))
theorem len12 {len a : Nat} (h : ((decide (len = 1) && decide (a < 4)) || decide (len = 2)) = true) : (len = 1 ∧ a < 4) ∨ len = 2 := by simpa using h
theorem fin4 {a : Nat} (h : a < 4) : ((Fin.ofNat 4 a : Fin 4) : Nat) = a := Nat.mod_eq_of_lt h
theorem i32_of_toInt (v : Int32) : Int32.ofInt v.toInt = v := Int32.ofInt_toInt v

theorem tg_0 (F : pFx p R s m args meth c M base C0 D cI cQ H0) (K : pKK p l e R s m args below meth c Q M base b0 D cI cQ H0 C0 Z0 r go) (hs : stp sc none (fun v h => some (v, h)) go cl (pc, len, 0, a, b, v, li) ls st h = some r) (X : pMt base b0 D cI cQ H0 (mL M) C0 Z0 ls h LS H locs cells slots) (hd : decode M.2.1 pc = .ok (exI (pc, len, 0, a, b, v, li), len)) (sd : sdB Ms M (pc, len, 0, a, b, v, li) = true) : W p l e R s m args below meth c H locs cells slots Q (F0 m pc LS (st.map (pv base b0))) := by
  obtain ⟨hx, hb, hml, hown, hts, hnw, hnm, hfr, hlo, hK, hbs, hrt, hsz, hlk⟩ := F
  obtain ⟨x, h1, hs⟩ := oo_some (o := ldR ls a) hs
  obtain ⟨h1, h3⟩ := ldR_at h1
  have h2 := X.2.2.2.1.2.2 a _ h1
  rcases h3 with ⟨k, rfl⟩ | rfl <;> rcases len12 sd with ⟨rfl, h4⟩ | rfl
  · exact lv_aload_n hx hb hd (fin4 h4) h2 (K _ _ _ _ _ _ _ _ _ hs X)
  · exact lv_aload hx hb hd h2 (K _ _ _ _ _ _ _ _ _ hs X)
  · exact lv_aload_n hx hb hd (fin4 h4) h2 (K _ _ _ _ _ _ _ _ _ hs X)
  · exact lv_aload hx hb hd h2 (K _ _ _ _ _ _ _ _ _ hs X)
theorem tg_1 (F : pFx p R s m args meth c M base C0 D cI cQ H0) (K : pKK p l e R s m args below meth c Q M base b0 D cI cQ H0 C0 Z0 r go) (hs : stp sc none (fun v h => some (v, h)) go cl (pc, len, 1, a, b, v, li) ls st h = some r) (X : pMt base b0 D cI cQ H0 (mL M) C0 Z0 ls h LS H locs cells slots) (hd : decode M.2.1 pc = .ok (exI (pc, len, 1, a, b, v, li), len)) (sd : sdB Ms M (pc, len, 1, a, b, v, li) = true) : W p l e R s m args below meth c H locs cells slots Q (F0 m pc LS (st.map (pv base b0))) := by
  obtain ⟨hx, hb, hml, hown, hts, hnw, hnm, hfr, hlo, hK, hbs, hrt, hsz, hlk⟩ := F
  obtain ⟨x, h1, hs⟩ := oo_some (o := ldI ls a) hs
  have h2 := X.2.2.2.1.2.2 a _ (ldI_at h1)
  rcases len12 sd with ⟨rfl, h4⟩ | rfl
  · exact lv_iload_n hx hb hd (fin4 h4) h2 (K _ _ _ _ _ _ _ _ _ hs X)
  · exact lv_iload hx hb hd h2 (K _ _ _ _ _ _ _ _ _ hs X)
theorem tg_27 (F : pFx p R s m args meth c M base C0 D cI cQ H0) (K : pKK p l e R s m args below meth c Q M base b0 D cI cQ H0 C0 Z0 r go) (hs : stp sc none (fun v h => some (v, h)) go cl (pc, len, 27, a, b, v, li) ls st h = some r) (X : pMt base b0 D cI cQ H0 (mL M) C0 Z0 ls h LS H locs cells slots) (hd : decode M.2.1 pc = .ok (exI (pc, len, 27, a, b, v, li), len)) (sd : sdB Ms M (pc, len, 27, a, b, v, li) = true) : W p l e R s m args below meth c H locs cells slots Q (F0 m pc LS (st.map (pv base b0))) := by
  obtain ⟨hx, hb, hml, hown, hts, hnw, hnm, hfr, hlo, hK, hbs, hrt, hsz, hlk⟩ := F
  obtain ⟨x, h1, hs⟩ := oo_some (o := ldD ls a) hs
  have h2 := X.2.2.2.1.2.2 a _ (ldD_at h1)
  rcases len12 sd with ⟨rfl, h4⟩ | rfl
  · exact lv_dload_n hx hb hd (fin4 h4) h2 (K _ _ _ _ _ _ _ _ _ hs X)
  · exact lv_dload hx hb hd h2 (K _ _ _ _ _ _ _ _ _ hs X)
theorem tg_4 (F : pFx p R s m args meth c M base C0 D cI cQ H0) (K : pKK p l e R s m args below meth c Q M base b0 D cI cQ H0 C0 Z0 r go) (hs : stp sc none (fun v h => some (v, h)) go cl (pc, len, 4, a, b, v, li) ls st h = some r) (X : pMt base b0 D cI cQ H0 (mL M) C0 Z0 ls h LS H locs cells slots) (hd : decode M.2.1 pc = .ok (exI (pc, len, 4, a, b, v, li), len)) (sd : sdB Ms M (pc, len, 4, a, b, v, li) = true) : W p l e R s m args below meth c H locs cells slots Q (F0 m pc LS (st.map (pv base b0))) := by
  obtain ⟨hx, hb, hml, hown, hts, hnw, hnm, hfr, hlo, hK, hbs, hrt, hsz, hlk⟩ := F
  match b, hd, sd, hs with
  | 0, hd, sd, hs =>
    have h1 : len = 1 := by simpa [sdB] using sd
    subst h1
    exact lv_iconst hx hb hd (i32_of_toInt v) (K _ _ _ _ _ _ _ _ _ hs X)
  | 1, hd, sd, hs =>
    have h1 : len = 2 ∧ (Int8.ofInt v.toInt).toInt32 = v := by simpa only [sdB, Bool.and_eq_true, decide_eq_true_eq] using sd
    obtain ⟨rfl, h1⟩ := h1
    exact lv_bipush hx hb hd h1 (K _ _ _ _ _ _ _ _ _ hs X)
  | 2, hd, sd, hs =>
    have h1 : len = 3 ∧ (Int16.ofInt v.toInt).toInt32 = v := by simpa only [sdB, Bool.and_eq_true, decide_eq_true_eq] using sd
    obtain ⟨rfl, h1⟩ := h1
    exact lv_sipush hx hb hd h1 (K _ _ _ _ _ _ _ _ _ hs X)
  | 3, hd, sd, hs =>
    have h1 : len = 2 ∧ wAt (li.getD 3 0) (.constant M.1.cls a v) = true := by simpa only [sdB, Bool.and_eq_true, decide_eq_true_eq] using sd
    obtain ⟨rfl, h1⟩ := h1
    exact lv_ldc hx hb hown (hts _ (wAt_in h1)) hd (K _ _ _ _ _ _ _ _ _ hs X)
  | b + 4, hd, sd, hs =>
    have h1 : len = 3 ∧ wAt (li.getD 3 0) (.constant M.1.cls a v) = true := by simpa only [sdB, Bool.and_eq_true, decide_eq_true_eq] using sd
    obtain ⟨rfl, h1⟩ := h1
    exact lv_ldcw hx hb hown (hts _ (wAt_in h1)) hd (K _ _ _ _ _ _ _ _ _ hs X)
theorem tg_5 (F : pFx p R s m args meth c M base C0 D cI cQ H0) (K : pKK p l e R s m args below meth c Q M base b0 D cI cQ H0 C0 Z0 r go) (hs : stp sc none (fun v h => some (v, h)) go cl (pc, len, 5, a, b, v, li) ls st h = some r) (X : pMt base b0 D cI cQ H0 (mL M) C0 Z0 ls h LS H locs cells slots) (hd : decode M.2.1 pc = .ok (exI (pc, len, 5, a, b, v, li), len)) (sd : sdB Ms M (pc, len, 5, a, b, v, li) = true) : W p l e R s m args below meth c H locs cells slots Q (F0 m pc LS (st.map (pv base b0))) := by
  obtain ⟨hx, hb, hml, hown, hts, hnw, hnm, hfr, hlo, hK, hbs, hrt, hsz, hlk⟩ := F
  have h1 : len = 3 := by simpa [sdB] using sd
  subst h1
  exact lv_goto hx hb hd (by omega) (K _ _ _ _ _ _ _ _ _ hs X)
theorem tg_10 (F : pFx p R s m args meth c M base C0 D cI cQ H0) (K : pKK p l e R s m args below meth c Q M base b0 D cI cQ H0 C0 Z0 r go) (hs : stp sc none (fun v h => some (v, h)) go cl (pc, len, 10, a, b, v, li) ls st h = some r) (X : pMt base b0 D cI cQ H0 (mL M) C0 Z0 ls h LS H locs cells slots) (hd : decode M.2.1 pc = .ok (exI (pc, len, 10, a, b, v, li), len)) (sd : sdB Ms M (pc, len, 10, a, b, v, li) = true) : W p l e R s m args below meth c H locs cells slots Q (F0 m pc LS (st.map (pv base b0))) := by
  obtain ⟨hx, hb, hml, hown, hts, hnw, hnm, hfr, hlo, hK, hbs, hrt, hsz, hlk⟩ := F
  have hs : (match (generalizing := false) st with
        | .int x :: r => bif okS ls a then (frc (stl ls a (some (.int x))) fun ls => go (pc + len) ls r h) else none
        | _ => none : pR) = some r := hs
  split at hs
  · rename_i x y z
    simp only [cond_eq_ite, frc_eq] at hs
    split at hs
    · rename_i ho
      have h1 : ((decide (len = 1) && decide (a < 4)) || decide (len = 2)) = true ∧ a < mL M := by simpa only [sdB, Bool.and_eq_true, decide_eq_true_eq] using sd
      obtain ⟨h1, h5⟩ := h1
      rcases len12 h1 with ⟨rfl, h4⟩ | rfl
      · exact lv_istore_n (lv := asc base b0 ls) hx hb hd (fin4 h4) (lr_has X.2.2.2.1) h5 rfl (fun ls' hl => K _ _ _ _ _ _ _ _ _ hs ⟨X.1, X.2.1, X.2.2.1, lr_stl1 (v := .int x) ho hl, X.2.2.2.2⟩)
      · exact lv_istore (lv := asc base b0 ls) hx hb hd (lr_has X.2.2.2.1) h5 rfl (fun ls' hl => K _ _ _ _ _ _ _ _ _ hs ⟨X.1, X.2.1, X.2.2.1, lr_stl1 (v := .int x) ho hl, X.2.2.2.2⟩)
    · cases hs
  · cases hs
theorem tg_23 (F : pFx p R s m args meth c M base C0 D cI cQ H0) (K : pKK p l e R s m args below meth c Q M base b0 D cI cQ H0 C0 Z0 r go) (hs : stp sc none (fun v h => some (v, h)) go cl (pc, len, 23, a, b, v, li) ls st h = some r) (X : pMt base b0 D cI cQ H0 (mL M) C0 Z0 ls h LS H locs cells slots) (hd : decode M.2.1 pc = .ok (exI (pc, len, 23, a, b, v, li), len)) (sd : sdB Ms M (pc, len, 23, a, b, v, li) = true) : W p l e R s m args below meth c H locs cells slots Q (F0 m pc LS (st.map (pv base b0))) := by
  obtain ⟨hx, hb, hml, hown, hts, hnw, hnm, hfr, hlo, hK, hbs, hrt, hsz, hlk⟩ := F
  have hs : (match (generalizing := false) st with
        | .ref x :: r => bif okS ls a then (frc (stl ls a (some (.ref x))) fun ls => go (pc + len) ls r h) else none
        | _ => none : pR) = some r := hs
  split at hs
  · rename_i x y z
    simp only [cond_eq_ite, frc_eq] at hs
    split at hs
    · rename_i ho
      have h1 : ((decide (len = 1) && decide (a < 4)) || decide (len = 2)) = true ∧ a < mL M := by simpa only [sdB, Bool.and_eq_true, decide_eq_true_eq] using sd
      obtain ⟨h1, h5⟩ := h1
      rcases len12 h1 with ⟨rfl, h4⟩ | rfl
      · exact lv_astore_n (lv := asc base b0 ls) hx hb hd (fin4 h4) (lr_has X.2.2.2.1) h5 rfl (fun ls' hl => K _ _ _ _ _ _ _ _ _ hs ⟨X.1, X.2.1, X.2.2.1, lr_stl1 (v := .ref x) ho hl, X.2.2.2.2⟩)
      · exact lv_astore (lv := asc base b0 ls) hx hb hd (lr_has X.2.2.2.1) h5 rfl (fun ls' hl => K _ _ _ _ _ _ _ _ _ hs ⟨X.1, X.2.1, X.2.2.1, lr_stl1 (v := .ref x) ho hl, X.2.2.2.2⟩)
    · cases hs
  · cases hs
theorem tg_35 (F : pFx p R s m args meth c M base C0 D cI cQ H0) (K : pKK p l e R s m args below meth c Q M base b0 D cI cQ H0 C0 Z0 r go) (hs : stp sc none (fun v h => some (v, h)) go cl (pc, len, 35, a, b, v, li) ls st h = some r) (X : pMt base b0 D cI cQ H0 (mL M) C0 Z0 ls h LS H locs cells slots) (hd : decode M.2.1 pc = .ok (exI (pc, len, 35, a, b, v, li), len)) (sd : sdB Ms M (pc, len, 35, a, b, v, li) = true) : W p l e R s m args below meth c H locs cells slots Q (F0 m pc LS (st.map (pv base b0))) := by
  obtain ⟨hx, hb, hml, hown, hts, hnw, hnm, hfr, hlo, hK, hbs, hrt, hsz, hlk⟩ := F
  have hs : (match (generalizing := false) st with
        | .double x :: r => bif okS ls a then (frc (stl (stl ls a (some (.double x))) (a + 1) none) fun ls => go (pc + len) ls r h) else none
        | _ => none : pR) = some r := hs
  split at hs
  · rename_i x y z
    simp only [cond_eq_ite, frc_eq] at hs
    split at hs
    · rename_i ho
      have h1 : ((decide (len = 1) && decide (a < 4)) || decide (len = 2)) = true ∧ a + 1 < mL M := by simpa only [sdB, Bool.and_eq_true, decide_eq_true_eq] using sd
      obtain ⟨h1, h5⟩ := h1
      rcases len12 h1 with ⟨rfl, h4⟩ | rfl
      · exact lv_dstore_n (lv := asc base b0 ls) hx hb hd (fin4 h4) (lr_has X.2.2.2.1) h5 rfl (fun ls' hl => K _ _ _ _ _ _ _ _ _ hs ⟨X.1, X.2.1, X.2.2.1, lr_stl2 (v := .double x) ho hl, X.2.2.2.2⟩)
      · exact lv_dstore (lv := asc base b0 ls) hx hb hd (lr_has X.2.2.2.1) h5 rfl (fun ls' hl => K _ _ _ _ _ _ _ _ _ hs ⟨X.1, X.2.1, X.2.2.1, lr_stl2 (v := .double x) ho hl, X.2.2.2.2⟩)
    · cases hs
  · cases hs
theorem tg_15 (F : pFx p R s m args meth c M base C0 D cI cQ H0) (K : pKK p l e R s m args below meth c Q M base b0 D cI cQ H0 C0 Z0 r go) (hs : stp sc none (fun v h => some (v, h)) go cl (pc, len, 15, a, b, v, li) ls st h = some r) (X : pMt base b0 D cI cQ H0 (mL M) C0 Z0 ls h LS H locs cells slots) (hd : decode M.2.1 pc = .ok (exI (pc, len, 15, a, b, v, li), len)) (sd : sdB Ms M (pc, len, 15, a, b, v, li) = true) : W p l e R s m args below meth c H locs cells slots Q (F0 m pc LS (st.map (pv base b0))) := by
  obtain ⟨hx, hb, hml, hown, hts, hnw, hnm, hfr, hlo, hK, hbs, hrt, hsz, hlk⟩ := F
  obtain ⟨x, h1, hs⟩ := oo_some (o := ldI ls a) hs
  simp only [cond_eq_ite, frc_eq] at hs
  split at hs
  · rename_i ho
    have h5 : len = 3 ∧ a < mL M := by simpa only [sdB, Bool.and_eq_true, decide_eq_true_eq] using sd
    obtain ⟨rfl, h5⟩ := h5
    have h6 : (a, Value.int x) ∈ asc base b0 ls := asc_mem.mpr ⟨.int x, ldI_at h1, rfl⟩
    obtain ⟨q, h7⟩ := List.getElem?_of_mem h6
    exact lv_iinc (lv := asc base b0 ls) (v := x + v) hx hb hd (lr_has X.2.2.2.1) h7 (by rw [i32_of_toInt]) h5 rfl (fun ls' hl => K _ _ _ _ _ _ _ _ _ hs ⟨X.1, X.2.1, X.2.2.1, lr_stl1 (v := .int (x + v)) ho hl, X.2.2.2.2⟩)
  · cases hs
theorem tg_11 (F : pFx p R s m args meth c M base C0 D cI cQ H0) (K : pKK p l e R s m args below meth c Q M base b0 D cI cQ H0 C0 Z0 r go) (hs : stp sc none (fun v h => some (v, h)) go cl (pc, len, 11, a, b, v, li) ls st h = some r) (X : pMt base b0 D cI cQ H0 (mL M) C0 Z0 ls h LS H locs cells slots) (hd : decode M.2.1 pc = .ok (exI (pc, len, 11, a, b, v, li), len)) (sd : sdB Ms M (pc, len, 11, a, b, v, li) = true) : W p l e R s m args below meth c H locs cells slots Q (F0 m pc LS (st.map (pv base b0))) := by
  obtain ⟨hx, hb, hml, hown, hts, hnw, hnm, hfr, hlo, hK, hbs, hrt, hsz, hlk⟩ := F
  have hs : (match (generalizing := false) st with
        | .int y :: .int x :: r => bop b x y fun z => go (pc + len) ls (.int z :: r) h
        | _ => none : pR) = some r := hs
  have h1 : len = 1 := by simpa [sdB] using sd
  subst h1
  split at hs
  · match b, hd, hs with
    | 0, hd, hs => exact lv_iadd hx hb hd (K _ _ _ _ _ _ _ _ _ hs X)
    | 1, hd, hs => exact lv_isub hx hb hd (K _ _ _ _ _ _ _ _ _ hs X)
    | 2, hd, hs => exact lv_imul hx hb hd (K _ _ _ _ _ _ _ _ _ hs X)
    | 3, hd, hs => exact lv_iand hx hb hd (K _ _ _ _ _ _ _ _ _ hs X)
    | 4, hd, hs => exact lv_ior hx hb hd (K _ _ _ _ _ _ _ _ _ hs X)
    | 5, hd, hs => exact lv_ixor hx hb hd (K _ _ _ _ _ _ _ _ _ hs X)
    | 6, hd, hs => exact lv_ishl hx hb hd (K _ _ _ _ _ _ _ _ _ hs X)
    | 7, hd, hs => exact lv_ishr hx hb hd (K _ _ _ _ _ _ _ _ _ hs X)
    | b + 8, hd, hs => exact lv_iushr hx hb hd rfl (K _ _ _ _ _ _ _ _ _ hs X)
  · cases hs
theorem tg_43 (F : pFx p R s m args meth c M base C0 D cI cQ H0) (K : pKK p l e R s m args below meth c Q M base b0 D cI cQ H0 C0 Z0 r go) (hs : stp sc none (fun v h => some (v, h)) go cl (pc, len, 43, a, b, v, li) ls st h = some r) (X : pMt base b0 D cI cQ H0 (mL M) C0 Z0 ls h LS H locs cells slots) (hd : decode M.2.1 pc = .ok (exI (pc, len, 43, a, b, v, li), len)) (sd : sdB Ms M (pc, len, 43, a, b, v, li) = true) : W p l e R s m args below meth c H locs cells slots Q (F0 m pc LS (st.map (pv base b0))) := by
  obtain ⟨hx, hb, hml, hown, hts, hnw, hnm, hfr, hlo, hK, hbs, hrt, hsz, hlk⟩ := F
  have hs : (match (generalizing := false) st with
        | .int y :: .int x :: r => if y = 0 then none else go (pc + len) ls (.int (x / y) :: r) h
        | _ => none : pR) = some r := hs
  have h1 : len = 1 := by simpa [sdB] using sd
  subst h1
  split at hs
  · split at hs
    · cases hs
    · rename_i hne
      exact lv_idiv hx hb hd hne (K _ _ _ _ _ _ _ _ _ hs X)
  · cases hs
theorem tg_44 (F : pFx p R s m args meth c M base C0 D cI cQ H0) (K : pKK p l e R s m args below meth c Q M base b0 D cI cQ H0 C0 Z0 r go) (hs : stp sc none (fun v h => some (v, h)) go cl (pc, len, 44, a, b, v, li) ls st h = some r) (X : pMt base b0 D cI cQ H0 (mL M) C0 Z0 ls h LS H locs cells slots) (hd : decode M.2.1 pc = .ok (exI (pc, len, 44, a, b, v, li), len)) (sd : sdB Ms M (pc, len, 44, a, b, v, li) = true) : W p l e R s m args below meth c H locs cells slots Q (F0 m pc LS (st.map (pv base b0))) := by
  obtain ⟨hx, hb, hml, hown, hts, hnw, hnm, hfr, hlo, hK, hbs, hrt, hsz, hlk⟩ := F
  have hs : (match (generalizing := false) st with
        | .int y :: .int x :: r => if y = 0 then none else go (pc + len) ls (.int (x - x / y * y) :: r) h
        | _ => none : pR) = some r := hs
  have h1 : len = 1 := by simpa [sdB] using sd
  subst h1
  split at hs
  · split at hs
    · cases hs
    · rename_i hne
      exact lv_irem hx hb hd hne (K _ _ _ _ _ _ _ _ _ hs X)
  · cases hs
theorem tg_13 (F : pFx p R s m args meth c M base C0 D cI cQ H0) (K : pKK p l e R s m args below meth c Q M base b0 D cI cQ H0 C0 Z0 r go) (hs : stp sc none (fun v h => some (v, h)) go cl (pc, len, 13, a, b, v, li) ls st h = some r) (X : pMt base b0 D cI cQ H0 (mL M) C0 Z0 ls h LS H locs cells slots) (hd : decode M.2.1 pc = .ok (exI (pc, len, 13, a, b, v, li), len)) (sd : sdB Ms M (pc, len, 13, a, b, v, li) = true) : W p l e R s m args below meth c H locs cells slots Q (F0 m pc LS (st.map (pv base b0))) := by
  obtain ⟨hx, hb, hml, hown, hts, hnw, hnm, hfr, hlo, hK, hbs, hrt, hsz, hlk⟩ := F
  have hs : (match (generalizing := false) st with
        | .int y :: .int x :: r => match (generalizing := false) b with
          | 0 => if x = y then go a ls r h else go (pc + len) ls r h
          | 1 => if x = y then go (pc + len) ls r h else go a ls r h
          | 2 => if x < y then go a ls r h else go (pc + len) ls r h
          | 3 => if y ≤ x then go a ls r h else go (pc + len) ls r h
          | 4 => if y < x then go a ls r h else go (pc + len) ls r h
          | _ => if x ≤ y then go a ls r h else go (pc + len) ls r h
        | _ => none : pR) = some r := hs
  have h1 : len = 3 := by simpa [sdB] using sd
  subst h1
  split at hs
  · match b, hd, hs with
    | 0, hd, hs =>
      refine lv_icmp_eq (tgt := a) hx hb hd (by omega) (fun hc => ?_) (fun hc => ?_)
      · exact K _ _ _ _ _ _ _ _ _ ((if_pos hc).symm.trans hs) X
      · exact K _ _ _ _ _ _ _ _ _ ((if_neg hc).symm.trans hs) X
    | 1, hd, hs =>
      refine lv_icmp_ne (tgt := a) hx hb hd (by omega) (fun hc => ?_) (fun hc => ?_)
      · exact K _ _ _ _ _ _ _ _ _ ((if_neg hc).symm.trans hs) X
      · exact K _ _ _ _ _ _ _ _ _ ((if_pos hc).symm.trans hs) X
    | 2, hd, hs =>
      refine lv_icmp_lt (tgt := a) hx hb hd (by omega) (fun hc => ?_) (fun hc => ?_)
      · exact K _ _ _ _ _ _ _ _ _ ((if_pos hc).symm.trans hs) X
      · exact K _ _ _ _ _ _ _ _ _ ((if_neg hc).symm.trans hs) X
    | 3, hd, hs =>
      refine lv_icmp_ge (tgt := a) hx hb hd (by omega) (fun hc => ?_) (fun hc => ?_)
      · exact K _ _ _ _ _ _ _ _ _ ((if_pos hc).symm.trans hs) X
      · exact K _ _ _ _ _ _ _ _ _ ((if_neg hc).symm.trans hs) X
    | 4, hd, hs =>
      refine lv_icmp_gt (tgt := a) hx hb hd (by omega) (fun hc => ?_) (fun hc => ?_)
      · exact K _ _ _ _ _ _ _ _ _ ((if_pos hc).symm.trans hs) X
      · exact K _ _ _ _ _ _ _ _ _ ((if_neg hc).symm.trans hs) X
    | b + 5, hd, hs =>
      refine lv_icmp_le (tgt := a) hx hb hd (by omega) (fun hc => ?_) (fun hc => ?_)
      · exact K _ _ _ _ _ _ _ _ _ ((if_pos hc).symm.trans hs) X
      · exact K _ _ _ _ _ _ _ _ _ ((if_neg hc).symm.trans hs) X
  · cases hs
theorem tg_14 (F : pFx p R s m args meth c M base C0 D cI cQ H0) (K : pKK p l e R s m args below meth c Q M base b0 D cI cQ H0 C0 Z0 r go) (hs : stp sc none (fun v h => some (v, h)) go cl (pc, len, 14, a, b, v, li) ls st h = some r) (X : pMt base b0 D cI cQ H0 (mL M) C0 Z0 ls h LS H locs cells slots) (hd : decode M.2.1 pc = .ok (exI (pc, len, 14, a, b, v, li), len)) (sd : sdB Ms M (pc, len, 14, a, b, v, li) = true) : W p l e R s m args below meth c H locs cells slots Q (F0 m pc LS (st.map (pv base b0))) := by
  obtain ⟨hx, hb, hml, hown, hts, hnw, hnm, hfr, hlo, hK, hbs, hrt, hsz, hlk⟩ := F
  have hs : (match (generalizing := false) st with
        | .int x :: r => match (generalizing := false) b with
          | 0 => if x = 0 then go a ls r h else go (pc + len) ls r h
          | 1 => if x = 0 then go (pc + len) ls r h else go a ls r h
          | 2 => if x < 0 then go a ls r h else go (pc + len) ls r h
          | 3 => if 0 ≤ x then go a ls r h else go (pc + len) ls r h
          | 4 => if 0 < x then go a ls r h else go (pc + len) ls r h
          | _ => if x ≤ 0 then go a ls r h else go (pc + len) ls r h
        | _ => none : pR) = some r := hs
  have h1 : len = 3 := by simpa [sdB] using sd
  subst h1
  split at hs
  · match b, hd, hs with
    | 0, hd, hs =>
      refine lv_if_eq (tgt := a) hx hb hd (by omega) (fun hc => ?_) (fun hc => ?_)
      · exact K _ _ _ _ _ _ _ _ _ ((if_pos hc).symm.trans hs) X
      · exact K _ _ _ _ _ _ _ _ _ ((if_neg hc).symm.trans hs) X
    | 1, hd, hs =>
      refine lv_if_ne (tgt := a) hx hb hd (by omega) (fun hc => ?_) (fun hc => ?_)
      · exact K _ _ _ _ _ _ _ _ _ ((if_neg hc).symm.trans hs) X
      · exact K _ _ _ _ _ _ _ _ _ ((if_pos hc).symm.trans hs) X
    | 2, hd, hs =>
      refine lv_if_lt (tgt := a) hx hb hd (by omega) (fun hc => ?_) (fun hc => ?_)
      · exact K _ _ _ _ _ _ _ _ _ ((if_pos hc).symm.trans hs) X
      · exact K _ _ _ _ _ _ _ _ _ ((if_neg hc).symm.trans hs) X
    | 3, hd, hs =>
      refine lv_if_ge (tgt := a) hx hb hd (by omega) (fun hc => ?_) (fun hc => ?_)
      · exact K _ _ _ _ _ _ _ _ _ ((if_pos hc).symm.trans hs) X
      · exact K _ _ _ _ _ _ _ _ _ ((if_neg hc).symm.trans hs) X
    | 4, hd, hs =>
      refine lv_if_gt (tgt := a) hx hb hd (by omega) (fun hc => ?_) (fun hc => ?_)
      · exact K _ _ _ _ _ _ _ _ _ ((if_pos hc).symm.trans hs) X
      · exact K _ _ _ _ _ _ _ _ _ ((if_neg hc).symm.trans hs) X
    | b + 5, hd, hs =>
      refine lv_if_le (tgt := a) hx hb hd (by omega) (fun hc => ?_) (fun hc => ?_)
      · exact K _ _ _ _ _ _ _ _ _ ((if_pos hc).symm.trans hs) X
      · exact K _ _ _ _ _ _ _ _ _ ((if_neg hc).symm.trans hs) X
  · cases hs
theorem tg_29 (F : pFx p R s m args meth c M base C0 D cI cQ H0) (K : pKK p l e R s m args below meth c Q M base b0 D cI cQ H0 C0 Z0 r go) (hs : stp sc none (fun v h => some (v, h)) go cl (pc, len, 29, a, b, v, li) ls st h = some r) (X : pMt base b0 D cI cQ H0 (mL M) C0 Z0 ls h LS H locs cells slots) (hd : decode M.2.1 pc = .ok (exI (pc, len, 29, a, b, v, li), len)) (sd : sdB Ms M (pc, len, 29, a, b, v, li) = true) : W p l e R s m args below meth c H locs cells slots Q (F0 m pc LS (st.map (pv base b0))) := by
  obtain ⟨hx, hb, hml, hown, hts, hnw, hnm, hfr, hlo, hK, hbs, hrt, hsz, hlk⟩ := F
  have hs : (match (generalizing := false) st with
        | .int x :: r => go (pc + len) ls (.double (FP.i2d x) :: r) h
        | _ => none : pR) = some r := hs
  have h1 : len = 1 := by simpa [sdB] using sd
  subst h1
  split at hs
  · exact lv_i2d hx hb hd (K _ _ _ _ _ _ _ _ _ hs X)
  · cases hs
theorem tg_32 (F : pFx p R s m args meth c M base C0 D cI cQ H0) (K : pKK p l e R s m args below meth c Q M base b0 D cI cQ H0 C0 Z0 r go) (hs : stp sc none (fun v h => some (v, h)) go cl (pc, len, 32, a, b, v, li) ls st h = some r) (X : pMt base b0 D cI cQ H0 (mL M) C0 Z0 ls h LS H locs cells slots) (hd : decode M.2.1 pc = .ok (exI (pc, len, 32, a, b, v, li), len)) (sd : sdB Ms M (pc, len, 32, a, b, v, li) = true) : W p l e R s m args below meth c H locs cells slots Q (F0 m pc LS (st.map (pv base b0))) := by
  obtain ⟨hx, hb, hml, hown, hts, hnw, hnm, hfr, hlo, hK, hbs, hrt, hsz, hlk⟩ := F
  have hs : (match (generalizing := false) st with
        | .double y :: .double x :: r => go (pc + len) ls (.int (Op.cmpValue (FP.dcmp x y) .l) :: r) h
        | _ => none : pR) = some r := hs
  have h1 : len = 1 := by simpa [sdB] using sd
  subst h1
  split at hs
  · exact lv_dcmp hx hb hd (K _ _ _ _ _ _ _ _ _ hs X)
  · cases hs
theorem tg_37 (F : pFx p R s m args meth c M base C0 D cI cQ H0) (K : pKK p l e R s m args below meth c Q M base b0 D cI cQ H0 C0 Z0 r go) (hs : stp sc none (fun v h => some (v, h)) go cl (pc, len, 37, a, b, v, li) ls st h = some r) (X : pMt base b0 D cI cQ H0 (mL M) C0 Z0 ls h LS H locs cells slots) (hd : decode M.2.1 pc = .ok (exI (pc, len, 37, a, b, v, li), len)) (sd : sdB Ms M (pc, len, 37, a, b, v, li) = true) : W p l e R s m args below meth c H locs cells slots Q (F0 m pc LS (st.map (pv base b0))) := by
  obtain ⟨hx, hb, hml, hown, hts, hnw, hnm, hfr, hlo, hK, hbs, hrt, hsz, hlk⟩ := F
  have hs : (match (generalizing := false) st with
        | .double y :: .double x :: r => if FP.ddiv x y &&& 0x7fffffffffffffff ≤ 0x7ff0000000000000 then go (pc + len) ls (.double (FP.ddiv x y) :: r) h else none
        | _ => none : pR) = some r := hs
  have h1 : len = 1 := by simpa [sdB] using sd
  subst h1
  split at hs
  · split at hs
    · rename_i hne
      exact lv_ddiv hx hb hd hne (K _ _ _ _ _ _ _ _ _ hs X)
    · cases hs
  · cases hs
theorem tg_40 (F : pFx p R s m args meth c M base C0 D cI cQ H0) (K : pKK p l e R s m args below meth c Q M base b0 D cI cQ H0 C0 Z0 r go) (hs : stp sc none (fun v h => some (v, h)) go cl (pc, len, 40, a, b, v, li) ls st h = some r) (X : pMt base b0 D cI cQ H0 (mL M) C0 Z0 ls h LS H locs cells slots) (hd : decode M.2.1 pc = .ok (exI (pc, len, 40, a, b, v, li), len)) (sd : sdB Ms M (pc, len, 40, a, b, v, li) = true) : W p l e R s m args below meth c H locs cells slots Q (F0 m pc LS (st.map (pv base b0))) := by
  obtain ⟨hx, hb, hml, hown, hts, hnw, hnm, hfr, hlo, hK, hbs, hrt, hsz, hlk⟩ := F
  have hs : (match (generalizing := false) st with
        | .double y :: .double x :: r => if FP.dmul x y &&& 0x7fffffffffffffff ≤ 0x7ff0000000000000 then go (pc + len) ls (.double (FP.dmul x y) :: r) h else none
        | _ => none : pR) = some r := hs
  have h1 : len = 1 := by simpa [sdB] using sd
  subst h1
  split at hs
  · split at hs
    · rename_i hne
      exact lv_dmul hx hb hd hne (K _ _ _ _ _ _ _ _ _ hs X)
    · cases hs
  · cases hs
theorem tg_38 (F : pFx p R s m args meth c M base C0 D cI cQ H0) (K : pKK p l e R s m args below meth c Q M base b0 D cI cQ H0 C0 Z0 r go) (hs : stp sc none (fun v h => some (v, h)) go cl (pc, len, 38, a, b, v, li) ls st h = some r) (X : pMt base b0 D cI cQ H0 (mL M) C0 Z0 ls h LS H locs cells slots) (hd : decode M.2.1 pc = .ok (exI (pc, len, 38, a, b, v, li), len)) (sd : sdB Ms M (pc, len, 38, a, b, v, li) = true) : W p l e R s m args below meth c H locs cells slots Q (F0 m pc LS (st.map (pv base b0))) := by
  obtain ⟨hx, hb, hml, hown, hts, hnw, hnm, hfr, hlo, hK, hbs, hrt, hsz, hlk⟩ := F
  have h1 : len = 1 := by simpa [sdB] using sd
  subst h1
  match b, hd, hs with
  | 0, hd, hs => exact lv_dconst0 hx hb hd (K _ _ _ _ _ _ _ _ _ hs X)
  | b + 1, hd, hs => exact lv_dconst1 hx hb hd (K _ _ _ _ _ _ _ _ _ hs X)
theorem tg_34 (F : pFx p R s m args meth c M base C0 D cI cQ H0) (K : pKK p l e R s m args below meth c Q M base b0 D cI cQ H0 C0 Z0 r go) (hs : stp sc none (fun v h => some (v, h)) go cl (pc, len, 34, a, b, v, li) ls st h = some r) (X : pMt base b0 D cI cQ H0 (mL M) C0 Z0 ls h LS H locs cells slots) (hd : decode M.2.1 pc = .ok (exI (pc, len, 34, a, b, v, li), len)) (sd : sdB Ms M (pc, len, 34, a, b, v, li) = true) : W p l e R s m args below meth c H locs cells slots Q (F0 m pc LS (st.map (pv base b0))) := by
  obtain ⟨hx, hb, hml, hown, hts, hnw, hnm, hfr, hlo, hK, hbs, hrt, hsz, hlk⟩ := F
  have hs : (match (generalizing := false) st with
        | .ref _ :: r => go (pc + len) ls r h
        | _ => none : pR) = some r := hs
  have h1 : len = 3 := by simpa [sdB] using sd
  subst h1
  split at hs
  · exact lv_ifnull hx hb hd (K _ _ _ _ _ _ _ _ _ hs X)
  · cases hs
theorem tg_20 (F : pFx p R s m args meth c M base C0 D cI cQ H0) (K : pKK p l e R s m args below meth c Q M base b0 D cI cQ H0 C0 Z0 r go) (hs : stp sc none (fun v h => some (v, h)) go cl (pc, len, 20, a, b, v, li) ls st h = some r) (X : pMt base b0 D cI cQ H0 (mL M) C0 Z0 ls h LS H locs cells slots) (hd : decode M.2.1 pc = .ok (exI (pc, len, 20, a, b, v, li), len)) (sd : sdB Ms M (pc, len, 20, a, b, v, li) = true) : W p l e R s m args below meth c H locs cells slots Q (F0 m pc LS (st.map (pv base b0))) := by
  obtain ⟨hx, hb, hml, hown, hts, hnw, hnm, hfr, hlo, hK, hbs, hrt, hsz, hlk⟩ := F
  have hs : (match (generalizing := false) st with
        | w :: r => bif Nat.beq w.category 1 then go (pc + len) ls (w :: w :: r) h else none
        | _ => none : pR) = some r := hs
  have h1 : len = 1 := by simpa [sdB] using sd
  subst h1
  split at hs
  · rw [cond_eq_ite] at hs
    split at hs
    · rename_i hc
      exact lv_dup hx hb hd (by rw [pv_cat]; exact Nat.eq_of_beq_eq_true hc) (K _ _ _ _ _ _ _ _ _ hs X)
    · cases hs
  · cases hs
theorem tg_39 (F : pFx p R s m args meth c M base C0 D cI cQ H0) (K : pKK p l e R s m args below meth c Q M base b0 D cI cQ H0 C0 Z0 r go) (hs : stp sc none (fun v h => some (v, h)) go cl (pc, len, 39, a, b, v, li) ls st h = some r) (X : pMt base b0 D cI cQ H0 (mL M) C0 Z0 ls h LS H locs cells slots) (hd : decode M.2.1 pc = .ok (exI (pc, len, 39, a, b, v, li), len)) (sd : sdB Ms M (pc, len, 39, a, b, v, li) = true) : W p l e R s m args below meth c H locs cells slots Q (F0 m pc LS (st.map (pv base b0))) := by
  obtain ⟨hx, hb, hml, hown, hts, hnw, hnm, hfr, hlo, hK, hbs, hrt, hsz, hlk⟩ := F
  have hs : (match (generalizing := false) st with
        | w :: r => bif Nat.beq w.category 1 then go (pc + len) ls r h else none
        | _ => none : pR) = some r := hs
  have h1 : len = 1 := by simpa [sdB] using sd
  subst h1
  split at hs
  · rw [cond_eq_ite] at hs
    split at hs
    · rename_i hc
      exact lv_pop hx hb hd (by rw [pv_cat]; exact Nat.eq_of_beq_eq_true hc) (K _ _ _ _ _ _ _ _ _ hs X)
    · cases hs
  · cases hs
theorem tg_31 (F : pFx p R s m args meth c M base C0 D cI cQ H0) (K : pKK p l e R s m args below meth c Q M base b0 D cI cQ H0 C0 Z0 r go) (hs : stp sc none (fun v h => some (v, h)) go cl (pc, len, 31, a, b, v, li) ls st h = some r) (X : pMt base b0 D cI cQ H0 (mL M) C0 Z0 ls h LS H locs cells slots) (hd : decode M.2.1 pc = .ok (exI (pc, len, 31, a, b, v, li), len)) (sd : sdB Ms M (pc, len, 31, a, b, v, li) = true) : W p l e R s m args below meth c H locs cells slots Q (F0 m pc LS (st.map (pv base b0))) := by
  obtain ⟨hx, hb, hml, hown, hts, hnw, hnm, hfr, hlo, hK, hbs, hrt, hsz, hlk⟩ := F
  have hs : (match (generalizing := false) st with
        | w :: u :: r => bif Nat.beq w.category 1 && Nat.beq u.category 1 then go (pc + len) ls (w :: u :: w :: u :: r) h else none
        | _ => none : pR) = some r := hs
  have h1 : len = 1 := by simpa [sdB] using sd
  subst h1
  split at hs
  · rw [cond_eq_ite] at hs
    split at hs
    · rename_i hc
      rw [Bool.and_eq_true] at hc
      exact lv_dup2_11 hx hb hd (by rw [pv_cat]; exact Nat.eq_of_beq_eq_true hc.1) (by rw [pv_cat]; exact Nat.eq_of_beq_eq_true hc.2) (K _ _ _ _ _ _ _ _ _ hs X)
    · cases hs
  · cases hs
end Sound
end
section
section Sound2
variable {p : Program} {l : Launch} {e : Env} {R : Room} {s : State} {m : MethodId} {args : Array Value} {below : List Frame} {meth : Method} {c : Code} {Q : State → Prop}
variable {Ms : List pM} {M : pM} {base b0 : Nat} {D : va_G} {cI cQ : ClassId} {H0 H : Heap} {C0 Z0 : Nat} {r : Option Value × pH} {sc : pX} {go : Nat → pL → List Value → pH → pR} {cl : Nat → List Value → Nat → Nat → pL → List Value → pH → pR}
variable {pc len a b : Nat} {v : Int32} {li : List Nat} {ls : pL} {st : List Value} {h : pH} {LS : Array Slot} {locs : List Loc} {cells slots : Nat}
theorem W_size (hsz : s.heap.size = base + C0) (k : H.size ≤ base + C0 + cells → W p l e R s m args below meth c H locs cells slots Q (F0 m pc LS st)) : W p l e R s m args below meth c H locs cells slots Q (F0 m pc LS st) := by
  intro T hT X
  have h1 : T.heap.size ≤ s.heap.size + cells := X.same.2.2.1
  rw [hT, hsz] at h1
  exact k h1 T hT X
theorem pW_lo (hb : base ≤ H.size) (hP : va_P D vwCl (pW base cI cQ h) H) : base + h.1.length ≤ H.size := by
  by_cases h0 : h.1.length = 0
  · omega
  · have h1 : h.1.length - 1 < h.1.length := by omega
    have h2 := (hP _ _ (pW_at (List.getElem?_eq_getElem h1))).lt
    have h3 : base + (h.1.length - 1) < H.size := h2
    omega
theorem fld_of {M : pM} (hf : fldB M a b li = true) : ∃ q : vw_C, vwCl[a]? = some (q.1, q.2.1, q.2.2) ∧ b < q.2.2 ∧ (q.2.1 b).1 = q.1 ∧ ((Nat.beq (li.getD 1 0) 0 = true ∧ Cond.fieldLink M.1.cls (li.getD 0 0) q.1 (q.2.1 b).2.1 (q.2.1 b).2.2.1 ∈ gW) ∨ (Nat.beq (li.getD 1 0) 0 = false ∧ Cond.fieldLinkNest M.1.cls (li.getD 0 0) q.1 (q.2.1 b).2.1 (q.2.1 b).2.2.1 "ShelfSpines" ∈ pNt)) := by
  unfold fldB at hf
  split at hf
  · rename_i q hq
    simp only [Bool.and_eq_true, decide_eq_true_eq] at hf
    obtain ⟨⟨h1, h2⟩, h3⟩ := hf
    refine ⟨q, hq, h1, h2, ?_⟩
    cases hn : Nat.beq (li.getD 1 0) 0 with
    | true =>
      rw [hn] at h3
      exact Or.inl ⟨rfl, wAt_in h3⟩
    | false =>
      rw [hn] at h3
      simp only [cond_false, decide_eq_true_eq] at h3
      exact Or.inr ⟨rfl, List.mem_filter.mpr ⟨List.mem_of_getElem? h3, rfl⟩⟩
  · cases hf
theorem pF_at {ci j k : Nat} (hj : j < pN ci) : (pF base h ci k)[j]? = some (if fk ci j = 2 then va_rf ((h.2.1 k j).map (base + ·)) else .int (h.2.2 k j)) := by
  simp only [pF, List.getElem?_map, List.getElem?_range hj, Option.map_some]
theorem pF_len {ci k : Nat} : (pF base h ci k).length = pN ci := by simp [pF]
theorem hI_at {ci k j : Nat} {x : Int32} (hh : hI h ci k j = some x) : h.1[k]? = some (.inl ci) ∧ h.2.2 k j = x := by
  unfold hI at hh
  split at hh
  · rename_i h1
    exact ⟨h1, Option.some.inj hh⟩
  · cases hh
theorem hR_at {ci k j : Nat} {x : Nat} (hh : hR h ci k j = some x) : h.1[k]? = some (.inl ci) ∧ h.2.1 k j = some x := by
  unfold hR at hh
  split at hh
  · rename_i h1
    exact ⟨h1, hh⟩
  · cases hh
theorem inb_vp {i : Int32} {n : Nat} (hh : inb i n = true) : vp_in i n := by
  simp only [inb, Bool.and_eq_true, Bool.not_eq_true', decide_eq_false_iff_not, decide_eq_true_eq] at hh
  rintro (h1 | h1)
  · exact hh.1 h1
  · omega
theorem hA_at {k : Nat} {i x : Int32} (hh : hA h k i = some x) : ∃ n, h.1[k]? = some (.inr (.inl n)) ∧ vp_in i n ∧ h.2.2 k i.toNatClampNeg = x := by
  unfold hA at hh
  split at hh
  · rename_i n h1
    split at hh
    · rename_i h2
      exact ⟨n, h1, inb_vp h2, Option.some.inj hh⟩
    · cases hh
  · cases hh
theorem hQ_at {k : Nat} {i : Int32} {x : Nat} (hh : hQ h k i = some x) : ∃ n, h.1[k]? = some (.inr (.inr n)) ∧ vp_in i n ∧ h.2.1 k i.toNatClampNeg = some x := by
  unfold hQ at hh
  split at hh
  · rename_i n h1
    split at hh
    · rename_i h2
      exact ⟨n, h1, inb_vp h2, hh⟩
    · cases hh
  · cases hh
theorem hN_at {k : Nat} {x : Int32} (hh : hN h k = some x) : ∃ n, (h.1[k]? = some (.inr (.inl n)) ∨ h.1[k]? = some (.inr (.inr n))) ∧ Int32.ofNat n = x := by
  unfold hN at hh
  split at hh
  · rename_i n h1
    exact ⟨n, Or.inl h1, Option.some.inj hh⟩
  · rename_i n h1
    exact ⟨n, Or.inr h1, Option.some.inj hh⟩
  · cases hh
theorem bA_at {k : Nat} {i : Int32} (hh : bA h k i = true) : ∃ n, h.1[k]? = some (.inr (.inl n)) ∧ vp_in i n := by
  unfold bA at hh
  split at hh
  · rename_i n h1
    exact ⟨n, h1, inb_vp hh⟩
  · cases hh
theorem bQ_at {k x : Nat} {i : Int32} (hh : bQ h k i x = true) : ∃ n, h.1[k]? = some (.inr (.inr n)) ∧ vp_in i n ∧ h.1[x]? = some (.inl 6) := by
  unfold bQ at hh
  split at hh
  · rename_i n h1
    simp only [Bool.and_eq_true, decide_eq_true_eq] at hh
    exact ⟨n, h1, inb_vp hh.1, hh.2⟩
  · cases hh
theorem kO_at {ci k : Nat} (hh : kO h ci k = true) : h.1[k]? = some (.inl ci) := of_decide_eq_true hh
theorem i32_len3 {x : Prop} (h : x) : x := h
theorem tg_2 (F : pFx p R s m args meth c M base C0 D cI cQ H0) (K : pKK p l e R s m args below meth c Q M base b0 D cI cQ H0 C0 Z0 r go) (hs : stp sc none (fun v h => some (v, h)) go cl (pc, len, 2, a, b, v, li) ls st h = some r) (X : pMt base b0 D cI cQ H0 (mL M) C0 Z0 ls h LS H locs cells slots) (hd : decode M.2.1 pc = .ok (exI (pc, len, 2, a, b, v, li), len)) (sd : sdB Ms M (pc, len, 2, a, b, v, li) = true) : W p l e R s m args below meth c H locs cells slots Q (F0 m pc LS (st.map (pv base b0))) := by
  obtain ⟨hx, hb, hml, hown, hts, hnw, hnm, hfr, hlo, hK, hbs, hrt, hsz, hlk⟩ := F
  have hs : (match (generalizing := false) st with
        | .ref k :: r => oo none (hI h a k b) fun x => go (pc + len) ls (.int x :: r) h
        | _ => none : pR) = some r := hs
  have h1 : (len = 3 ∧ fk a b ≠ 2) ∧ fldB M a b li = true := by simpa only [sdB, Bool.and_eq_true, decide_eq_true_eq] using sd
  obtain ⟨⟨rfl, h2⟩, hf⟩ := h1
  obtain ⟨q, hq, g2, g3, hl⟩ := fld_of hf
  obtain ⟨c1, c2, c3, c4, g5⟩ := cls_ok a _ hq
  split at hs
  · obtain ⟨x, h3, hs⟩ := oo_some hs
    obtain ⟨h3, h4⟩ := hI_at h3
    have hsame : ∀ x, s.fieldFound? (q.2.1 b).1 (q.2.1 b).2.1 (q.2.1 b).2.2.1 = some x → s.fieldFound? q.1 (q.2.1 b).2.1 (q.2.1 b).2.2.1 = some x := fun x h => by rw [g3] at h; exact h
    rcases hl with ⟨-, hl⟩ | ⟨-, hl⟩
    · exact va_get (D := D) (ci := a) (C := q.1) (T := q.2.1) (N := q.2.2) (v := .int x) hx hb hts c1 hown hK X.2.1 _ (pW_at h3) hq b g2 (hts _ hl) hsame (by rw [pF_at (by rw [g5]; exact g2), if_neg h2, h4]) hd (K _ _ _ _ _ _ _ _ _ hs X)
    · exact va_getN (D := D) (ci := a) (C := q.1) (T := q.2.1) (N := q.2.2) (v := .int x) hx hb hts c1 hown hK X.2.1 _ (pW_at h3) hq b g2 (va_Nw.use rfl (hnw _ hl)) hsame (by rw [pF_at (by rw [g5]; exact g2), if_neg h2, h4]) hd (K _ _ _ _ _ _ _ _ _ hs X)
  · cases hs
theorem tg_3 (F : pFx p R s m args meth c M base C0 D cI cQ H0) (K : pKK p l e R s m args below meth c Q M base b0 D cI cQ H0 C0 Z0 r go) (hs : stp sc none (fun v h => some (v, h)) go cl (pc, len, 3, a, b, v, li) ls st h = some r) (X : pMt base b0 D cI cQ H0 (mL M) C0 Z0 ls h LS H locs cells slots) (hd : decode M.2.1 pc = .ok (exI (pc, len, 3, a, b, v, li), len)) (sd : sdB Ms M (pc, len, 3, a, b, v, li) = true) : W p l e R s m args below meth c H locs cells slots Q (F0 m pc LS (st.map (pv base b0))) := by
  obtain ⟨hx, hb, hml, hown, hts, hnw, hnm, hfr, hlo, hK, hbs, hrt, hsz, hlk⟩ := F
  have hs : (match (generalizing := false) st with
        | .ref k :: r => oo none (hR h a k b) fun x => go (pc + len) ls (.ref x :: r) h
        | _ => none : pR) = some r := hs
  have h1 : (len = 3 ∧ fk a b = 2) ∧ fldB M a b li = true := by simpa only [sdB, Bool.and_eq_true, decide_eq_true_eq] using sd
  obtain ⟨⟨rfl, h2⟩, hf⟩ := h1
  obtain ⟨q, hq, g2, g3, hl⟩ := fld_of hf
  obtain ⟨c1, c2, c3, c4, g5⟩ := cls_ok a _ hq
  split at hs
  · obtain ⟨x, h3, hs⟩ := oo_some hs
    obtain ⟨h3, h4⟩ := hR_at h3
    have hsame : ∀ x, s.fieldFound? (q.2.1 b).1 (q.2.1 b).2.1 (q.2.1 b).2.2.1 = some x → s.fieldFound? q.1 (q.2.1 b).2.1 (q.2.1 b).2.2.1 = some x := fun x h => by rw [g3] at h; exact h
    rcases hl with ⟨-, hl⟩ | ⟨-, hl⟩
    · exact va_get (D := D) (ci := a) (C := q.1) (T := q.2.1) (N := q.2.2) (v := .ref (base + x)) hx hb hts c1 hown hK X.2.1 _ (pW_at h3) hq b g2 (hts _ hl) hsame (by rw [pF_at (by rw [g5]; exact g2), if_pos h2, h4]; rfl) hd (K _ _ _ _ _ _ _ _ _ hs X)
    · exact va_getN (D := D) (ci := a) (C := q.1) (T := q.2.1) (N := q.2.2) (v := .ref (base + x)) hx hb hts c1 hown hK X.2.1 _ (pW_at h3) hq b g2 (va_Nw.use rfl (hnw _ hl)) hsame (by rw [pF_at (by rw [g5]; exact g2), if_pos h2, h4]; rfl) hd (K _ _ _ _ _ _ _ _ _ hs X)
  · cases hs
theorem put_16 {x : Int32} {k : Nat} {r' : List Value} (F : pFx p R s m args meth c M base C0 D cI cQ H0) (X : pMt base b0 D cI cQ H0 (mL M) C0 Z0 ls h LS H locs cells slots) (hd : decode M.2.1 pc = .ok (.putfield (li.getD 0 0), 3)) (h2 : fk a b ≠ 2) (hf : fldB M a b li = true) (hfi : finB M a b li = true) (hk : h.1[k]? = some (.inl a)) (hb2 : fk a b = 0 ∨ fk a b = 1 ∧ (x = 0 ∨ x = 1))
    (kk : ∀ (H1 : Heap) (locs1 : List Loc), pMt base b0 D cI cQ H0 (mL M) C0 Z0 ls (sI h k b x) LS H1 locs1 cells slots → W p l e R s m args below meth c H1 locs1 cells slots Q (F0 m (pc + 3) LS r')) : W p l e R s m args below meth c H locs cells slots Q (F0 m pc LS (.int x :: .ref (base + k) :: r')) := by
  obtain ⟨hx, hb, hml, hown, hts, hnw, hnm, hfr, hlo, hK, hbs, hrt, hsz, hlk⟩ := F
  obtain ⟨q, hq, g2, g3, hl⟩ := fld_of hf
  obtain ⟨c1, c2, c3, c4, g5⟩ := cls_ok a _ hq
  have hsame : ∀ x, s.fieldFound? (q.2.1 b).1 (q.2.1 b).2.1 (q.2.1 b).2.2.1 = some x → s.fieldFound? q.1 (q.2.1 b).2.1 (q.2.1 b).2.2.1 = some x := fun x h => by rw [g3] at h; exact h
  have hty : narrow (pTy a b) (.int x) = .int x ∧ fits (pTy a b) (.int x) = true := by
    have h8 := c4 b g2
    rcases hb2 with h9 | ⟨h9, h10⟩
    · rw [h9] at h8
      generalize pTy a b = t at h8
      cases t <;> first | exact ⟨rfl, rfl⟩ | (simp [tyk] at h8)
    · rw [h9] at h8
      generalize pTy a b = t at h8
      rcases h10 with rfl | rfl <;> cases t <;> first | exact ⟨by decide, by decide⟩ | (simp [tyk] at h8)
  have fin : ∀ (H1 : Heap) (locs1 : List Loc), va_P D vwCl ((pW base cI cQ h).set k (base + k, .inr (a, (pF base h a k).set b (.int x)))) H1 → va_D (fun q => base ≤ q) ((pW base cI cQ h).set k (base + k, .inr (a, (pF base h a k).set b (.int x)))) → va_S (fun q => base ≤ q) H0 H1 locs1 → W p l e R s m args below meth c H1 locs1 cells slots Q (F0 m (pc + 3) LS r') := by
    intro H1 locs1 hP1 hD1 hS1
    have hP2 : va_P D vwCl (pW base cI cQ (sI h k b x)) H1 := by rw [pW_sI hk (by rw [g5]; exact g2) h2]; exact hP1
    exact kk H1 locs1 ⟨pW_lo (Nat.le_trans hbs hS1.1) hP2, hP2, hS1, X.2.2.2.1, X.2.2.2.2⟩
  have hlen : b < (pF base h a k).length := by rw [pF_len, g5]; exact g2
  unfold finB at hfi
  rw [hq] at hfi
  simp only [Bool.or_eq_true, Bool.and_eq_true, Bool.not_eq_true', decide_eq_true_eq] at hfi
  rcases hfi with hff | ⟨⟨f1, f2⟩, f3⟩
  · rcases hl with ⟨-, hl⟩ | ⟨-, hl⟩
    · exact va_put (D := D) (ci := a) (C := q.1) (T := q.2.1) (N := q.2.2) (ty := pTy a b) hx hb hts c1 (pTy a) c2 c3 hown hK X.2.1 pW_D X.2.2.1 k (pW_at hk) hq b g2 (hts _ hl) hsame hff (c2 b g2) hty.1 hty.2 hlen hd fin
    · exact va_putN (D := D) (ci := a) (C := q.1) (T := q.2.1) (N := q.2.2) (ty := pTy a b) hx hb hts c1 (pTy a) c2 c3 hown hK X.2.1 pW_D X.2.2.1 k (pW_at hk) hq b g2 (va_Nw.use rfl (hnw _ hl)) hsame hff (c2 b g2) hty.1 hty.2 hlen hd fin
  · rcases hl with ⟨-, hl⟩ | ⟨hl0, hl⟩
    · by_cases hff : (q.2.1 b).2.2.2 = true
      · exact va_putF (D := D) (ci := a) (C := q.1) (T := q.2.1) (N := q.2.2) (ty := pTy a b) hx hb hts c1 (pTy a) c2 c3 hown hK X.2.1 pW_D X.2.2.1 k (pW_at hk) hq b g2 (hts _ hl) hsame hff (hnm.trans f2) f3 (c2 b g2) hty.1 hty.2 hlen hd fin
      · exact va_put (D := D) (ci := a) (C := q.1) (T := q.2.1) (N := q.2.2) (ty := pTy a b) hx hb hts c1 (pTy a) c2 c3 hown hK X.2.1 pW_D X.2.2.1 k (pW_at hk) hq b g2 (hts _ hl) hsame (by simpa using hff) (c2 b g2) hty.1 hty.2 hlen hd fin
    · rw [hl0] at f1
      cases f1
theorem put_17 {x : Nat} {k : Nat} {r' : List Value} (F : pFx p R s m args meth c M base C0 D cI cQ H0) (X : pMt base b0 D cI cQ H0 (mL M) C0 Z0 ls h LS H locs cells slots) (hd : decode M.2.1 pc = .ok (.putfield (li.getD 0 0), 3)) (h2 : fk a b = 2) (hf : fldB M a b li = true) (hfi : finB M a b li = true) (hk : h.1[k]? = some (.inl a)) 
    (kk : ∀ (H1 : Heap) (locs1 : List Loc), pMt base b0 D cI cQ H0 (mL M) C0 Z0 ls (sR h k b x) LS H1 locs1 cells slots → W p l e R s m args below meth c H1 locs1 cells slots Q (F0 m (pc + 3) LS r')) : W p l e R s m args below meth c H locs cells slots Q (F0 m pc LS (.ref (base + x) :: .ref (base + k) :: r')) := by
  obtain ⟨hx, hb, hml, hown, hts, hnw, hnm, hfr, hlo, hK, hbs, hrt, hsz, hlk⟩ := F
  obtain ⟨q, hq, g2, g3, hl⟩ := fld_of hf
  obtain ⟨c1, c2, c3, c4, g5⟩ := cls_ok a _ hq
  have hsame : ∀ x, s.fieldFound? (q.2.1 b).1 (q.2.1 b).2.1 (q.2.1 b).2.2.1 = some x → s.fieldFound? q.1 (q.2.1 b).2.1 (q.2.1 b).2.2.1 = some x := fun x h => by rw [g3] at h; exact h
  have hty : narrow (pTy a b) (.ref (base + x)) = .ref (base + x) ∧ fits (pTy a b) (.ref (base + x)) = true := by
    have h8 := c4 b g2
    rw [h2] at h8
    generalize pTy a b = t at h8
    cases t <;> first | exact ⟨rfl, rfl⟩ | (simp [tyk] at h8)
  have fin : ∀ (H1 : Heap) (locs1 : List Loc), va_P D vwCl ((pW base cI cQ h).set k (base + k, .inr (a, (pF base h a k).set b (.ref (base + x))))) H1 → va_D (fun q => base ≤ q) ((pW base cI cQ h).set k (base + k, .inr (a, (pF base h a k).set b (.ref (base + x))))) → va_S (fun q => base ≤ q) H0 H1 locs1 → W p l e R s m args below meth c H1 locs1 cells slots Q (F0 m (pc + 3) LS r') := by
    intro H1 locs1 hP1 hD1 hS1
    have hP2 : va_P D vwCl (pW base cI cQ (sR h k b x)) H1 := by rw [pW_sR hk (by rw [g5]; exact g2) h2]; exact hP1
    exact kk H1 locs1 ⟨pW_lo (Nat.le_trans hbs hS1.1) hP2, hP2, hS1, X.2.2.2.1, X.2.2.2.2⟩
  have hlen : b < (pF base h a k).length := by rw [pF_len, g5]; exact g2
  unfold finB at hfi
  rw [hq] at hfi
  simp only [Bool.or_eq_true, Bool.and_eq_true, Bool.not_eq_true', decide_eq_true_eq] at hfi
  rcases hfi with hff | ⟨⟨f1, f2⟩, f3⟩
  · rcases hl with ⟨-, hl⟩ | ⟨-, hl⟩
    · exact va_put (D := D) (ci := a) (C := q.1) (T := q.2.1) (N := q.2.2) (ty := pTy a b) hx hb hts c1 (pTy a) c2 c3 hown hK X.2.1 pW_D X.2.2.1 k (pW_at hk) hq b g2 (hts _ hl) hsame hff (c2 b g2) hty.1 hty.2 hlen hd fin
    · exact va_putN (D := D) (ci := a) (C := q.1) (T := q.2.1) (N := q.2.2) (ty := pTy a b) hx hb hts c1 (pTy a) c2 c3 hown hK X.2.1 pW_D X.2.2.1 k (pW_at hk) hq b g2 (va_Nw.use rfl (hnw _ hl)) hsame hff (c2 b g2) hty.1 hty.2 hlen hd fin
  · rcases hl with ⟨-, hl⟩ | ⟨hl0, hl⟩
    · by_cases hff : (q.2.1 b).2.2.2 = true
      · exact va_putF (D := D) (ci := a) (C := q.1) (T := q.2.1) (N := q.2.2) (ty := pTy a b) hx hb hts c1 (pTy a) c2 c3 hown hK X.2.1 pW_D X.2.2.1 k (pW_at hk) hq b g2 (hts _ hl) hsame hff (hnm.trans f2) f3 (c2 b g2) hty.1 hty.2 hlen hd fin
      · exact va_put (D := D) (ci := a) (C := q.1) (T := q.2.1) (N := q.2.2) (ty := pTy a b) hx hb hts c1 (pTy a) c2 c3 hown hK X.2.1 pW_D X.2.2.1 k (pW_at hk) hq b g2 (hts _ hl) hsame (by simpa using hff) (c2 b g2) hty.1 hty.2 hlen hd fin
    · rw [hl0] at f1
      cases f1
theorem fk_ne9 {q : vw_C} (hq : vwCl[a]? = some q) (hb : b < q.2.2) : fk a b ≠ 9 := by
  have key : ∀ (ci : Nat) (q : vw_C), vwCl[ci]? = some q → ∀ k, k < q.2.2 → fk ci k ≠ 9
    | 0, q, h => by cases h; decide
    | 1, q, h => by cases h; decide
    | 2, q, h => by cases h; decide
    | 3, q, h => by cases h; decide
    | 4, q, h => by cases h; decide
    | 5, q, h => by cases h; decide
    | 6, q, h => by cases h; decide
    | 7, q, h => by cases h; decide
    | 8, q, h => by cases h; decide
    | k + 9, q, h => by simp [vwCl] at h
  exact key a q hq b hb
theorem tg_16 (F : pFx p R s m args meth c M base C0 D cI cQ H0) (K : pKK p l e R s m args below meth c Q M base b0 D cI cQ H0 C0 Z0 r go) (hs : stp sc none (fun v h => some (v, h)) go cl (pc, len, 16, a, b, v, li) ls st h = some r) (X : pMt base b0 D cI cQ H0 (mL M) C0 Z0 ls h LS H locs cells slots) (hd : decode M.2.1 pc = .ok (exI (pc, len, 16, a, b, v, li), len)) (sd : sdB Ms M (pc, len, 16, a, b, v, li) = true) : W p l e R s m args below meth c H locs cells slots Q (F0 m pc LS (st.map (pv base b0))) := by
  obtain ⟨hx, hb, hml, hown, hts, hnw, hnm, hfr, hlo, hK, hbs, hrt, hsz, hlk⟩ := F
  have hs : (match (generalizing := false) st with
        | .int x :: .ref k :: r => bif Nat.beq (li.getD 2 0) 0 then (if kO h a k = true then go (pc + len) ls r (sI h k b x) else none) else (if kO h a k = true ∧ (x = 0 ∨ x = 1) then go (pc + len) ls r (sI h k b x) else none)
        | _ => none : pR) = some r := hs
  have h1 : ((((len = 3 ∧ fk a b ≠ 2) ∧ fldB M a b li = true) ∧ finB M a b li = true) ∧ fk a b = li.getD 2 0) := by simpa only [sdB, Bool.and_eq_true, decide_eq_true_eq] using sd
  obtain ⟨⟨⟨⟨rfl, h2⟩, hf⟩, hfi⟩, h6⟩ := h1
  have F : pFx p R s m args meth c M base C0 D cI cQ H0 := ⟨hx, hb, hml, hown, hts, hnw, hnm, hfr, hlo, hK, hbs, hrt, hsz, hlk⟩
  split at hs
  · rw [cond_eq_ite] at hs
    split at hs
    · rename_i hz0
      split at hs
      · rename_i hk
        exact put_16 F X hd h2 hf hfi (kO_at hk) (Or.inl (h6.trans (Nat.eq_of_beq_eq_true hz0))) (fun H1 locs1 X1 => K _ _ _ _ _ _ _ _ _ hs X1)
      · cases hs
    · split at hs
      · rename_i hk
        refine put_16 F X hd h2 hf hfi (kO_at hk.1) ?_ (fun H1 locs1 X1 => K _ _ _ _ _ _ _ _ _ hs X1)
        obtain ⟨q, hq, g2, -⟩ := fld_of hf
        have h8 := (cls_ok a _ hq).2.2.2.1 b g2
        have h9 : fk a b = 0 ∨ fk a b = 1 ∨ fk a b = 2 ∨ fk a b = 9 := by
          rw [← h8]
          generalize pTy a b = t
          cases t <;> simp [tyk]
        rcases h9 with h9 | h9 | h9 | h9
        · exact Or.inl h9
        · exact Or.inr ⟨h9, hk.2⟩
        · exact absurd h9 h2
        · exact absurd h9 (by rename_i hz0 hk0; exact fk_ne9 hq g2)
      · cases hs
  · cases hs
theorem tg_17 (F : pFx p R s m args meth c M base C0 D cI cQ H0) (K : pKK p l e R s m args below meth c Q M base b0 D cI cQ H0 C0 Z0 r go) (hs : stp sc none (fun v h => some (v, h)) go cl (pc, len, 17, a, b, v, li) ls st h = some r) (X : pMt base b0 D cI cQ H0 (mL M) C0 Z0 ls h LS H locs cells slots) (hd : decode M.2.1 pc = .ok (exI (pc, len, 17, a, b, v, li), len)) (sd : sdB Ms M (pc, len, 17, a, b, v, li) = true) : W p l e R s m args below meth c H locs cells slots Q (F0 m pc LS (st.map (pv base b0))) := by
  obtain ⟨hx, hb, hml, hown, hts, hnw, hnm, hfr, hlo, hK, hbs, hrt, hsz, hlk⟩ := F
  have hs : (match (generalizing := false) st with
        | .ref x :: .ref k :: r => if kO h a k = true then go (pc + len) ls r (sR h k b x) else none
        | _ => none : pR) = some r := hs
  have h1 : ((len = 3 ∧ fk a b = 2) ∧ fldB M a b li = true) ∧ finB M a b li = true := by simpa only [sdB, Bool.and_eq_true, decide_eq_true_eq] using sd
  obtain ⟨⟨⟨rfl, h2⟩, hf⟩, hfi⟩ := h1
  have F : pFx p R s m args meth c M base C0 D cI cQ H0 := ⟨hx, hb, hml, hown, hts, hnw, hnm, hfr, hlo, hK, hbs, hrt, hsz, hlk⟩
  split at hs
  · split at hs
    · rename_i hk
      exact put_17 F X hd h2 hf hfi (kO_at hk) (fun H1 locs1 X1 => K _ _ _ _ _ _ _ _ _ hs X1)
    · cases hs
  · cases hs
theorem tg_18 (F : pFx p R s m args meth c M base C0 D cI cQ H0) (K : pKK p l e R s m args below meth c Q M base b0 D cI cQ H0 C0 Z0 r go) (hs : stp sc none (fun v h => some (v, h)) go cl (pc, len, 18, a, b, v, li) ls st h = some r) (X : pMt base b0 D cI cQ H0 (mL M) C0 Z0 ls h LS H locs cells slots) (hd : decode M.2.1 pc = .ok (exI (pc, len, 18, a, b, v, li), len)) (sd : sdB Ms M (pc, len, 18, a, b, v, li) = true) : W p l e R s m args below meth c H locs cells slots Q (F0 m pc LS (st.map (pv base b0))) := by
  obtain ⟨hx, hb, hml, hown, hts, hnw, hnm, hfr, hlo, hK, hbs, hrt, hsz, hlk⟩ := F
  have hs : (match (generalizing := false) st with
        | .int x :: .int i :: .ref k :: r => if bA h k i = true then go (pc + len) ls r (sI h k i.toNatClampNeg x) else none
        | _ => none : pR) = some r := hs
  have h1 : len = 1 := by simpa [sdB] using sd
  subst h1
  split at hs
  · split at hs
    · rename_i hk
      obtain ⟨n, h3, h4⟩ := bA_at hk
      refine va_iast hx hb hK X.2.1 pW_D X.2.2.1 _ 0 (pW_at h3) rfl h4 hd (fun H1 locs1 hP1 hD1 hS1 => ?_)
      have hP2 := hP1
      rw [← pW_aI h3] at hP2
      exact K _ _ _ _ _ _ _ _ _ hs ⟨pW_lo (Nat.le_trans hbs hS1.1) hP2, hP2, hS1, X.2.2.2.1, X.2.2.2.2⟩
    · cases hs
  · cases hs
theorem tg_33 (F : pFx p R s m args meth c M base C0 D cI cQ H0) (K : pKK p l e R s m args below meth c Q M base b0 D cI cQ H0 C0 Z0 r go) (hs : stp sc none (fun v h => some (v, h)) go cl (pc, len, 33, a, b, v, li) ls st h = some r) (X : pMt base b0 D cI cQ H0 (mL M) C0 Z0 ls h LS H locs cells slots) (hd : decode M.2.1 pc = .ok (exI (pc, len, 33, a, b, v, li), len)) (sd : sdB Ms M (pc, len, 33, a, b, v, li) = true) : W p l e R s m args below meth c H locs cells slots Q (F0 m pc LS (st.map (pv base b0))) := by
  obtain ⟨hx, hb, hml, hown, hts, hnw, hnm, hfr, hlo, hK, hbs, hrt, hsz, hlk⟩ := F
  have hs : (match (generalizing := false) st with
        | .ref x :: .int i :: .ref k :: r => if bQ h k i x = true then go (pc + len) ls r (sR h k i.toNatClampNeg x) else none
        | _ => none : pR) = some r := hs
  have h1 : len = 1 := by simpa [sdB] using sd
  subst h1
  split at hs
  · split at hs
    · rename_i hk
      obtain ⟨n, h3, h4, h5⟩ := bQ_at hk
      refine va_astq (r := (RX7, TX7, 10)) hx hb hK X.2.1 pW_D X.2.2.1 _ 1 _ 6 (pW_at h3) rfl (pW_at h5) rfl h4 hd (fun H1 locs1 hP1 hD1 hS1 => ?_)
      have hP2 := hP1
      rw [← pW_aR h3] at hP2
      exact K _ _ _ _ _ _ _ _ _ hs ⟨pW_lo (Nat.le_trans hbs hS1.1) hP2, hP2, hS1, X.2.2.2.1, X.2.2.2.2⟩
    · cases hs
  · cases hs
theorem tg_12 (F : pFx p R s m args meth c M base C0 D cI cQ H0) (K : pKK p l e R s m args below meth c Q M base b0 D cI cQ H0 C0 Z0 r go) (hs : stp sc none (fun v h => some (v, h)) go cl (pc, len, 12, a, b, v, li) ls st h = some r) (X : pMt base b0 D cI cQ H0 (mL M) C0 Z0 ls h LS H locs cells slots) (hd : decode M.2.1 pc = .ok (exI (pc, len, 12, a, b, v, li), len)) (sd : sdB Ms M (pc, len, 12, a, b, v, li) = true) (S : pSc sc b0 s H0 base) : W p l e R s m args below meth c H locs cells slots Q (F0 m pc LS (st.map (pv base b0))) := by
  obtain ⟨hx, hb, hml, hown, hts, hnw, hnm, hfr, hlo, hK, hbs, hrt, hsz, hlk⟩ := F
  have hs : (match (generalizing := false) st with
        | .int i :: .ref k :: r => oo none (hA h k i) fun x => go (pc + len) ls (.int x :: r) h
        | .int i :: .null :: r => oo none sc fun q => if inb i q.1 = true then go (pc + len) ls (.int (q.2 i.toNatClampNeg) :: r) h else none
        | _ => none : pR) = some r := hs
  have h1 : len = 1 := by simpa [sdB] using sd
  subst h1
  split at hs
  · obtain ⟨x, h2, hs⟩ := oo_some hs
    obtain ⟨n, h3, h4, h5⟩ := hA_at h2
    subst h5
    exact va_iald hx hb hK X.2.1 _ 0 (pW_at h3) rfl h4 hd (K _ _ _ _ _ _ _ _ _ hs X)
  · obtain ⟨q, h2, hs⟩ := oo_some hs
    obtain ⟨s1, s2, s3⟩ := S q h2
    split at hs
    · rename_i h4
      exact va_sld (A := fun q => base ≤ q) hx hb s1 s2 s3 X.2.2.1 (inb_vp h4) hd (K _ _ _ _ _ _ _ _ _ hs X)
    · cases hs
  · cases hs
theorem tg_26 (F : pFx p R s m args meth c M base C0 D cI cQ H0) (K : pKK p l e R s m args below meth c Q M base b0 D cI cQ H0 C0 Z0 r go) (hs : stp sc none (fun v h => some (v, h)) go cl (pc, len, 26, a, b, v, li) ls st h = some r) (X : pMt base b0 D cI cQ H0 (mL M) C0 Z0 ls h LS H locs cells slots) (hd : decode M.2.1 pc = .ok (exI (pc, len, 26, a, b, v, li), len)) (sd : sdB Ms M (pc, len, 26, a, b, v, li) = true) (S : pSc sc b0 s H0 base) : W p l e R s m args below meth c H locs cells slots Q (F0 m pc LS (st.map (pv base b0))) := by
  obtain ⟨hx, hb, hml, hown, hts, hnw, hnm, hfr, hlo, hK, hbs, hrt, hsz, hlk⟩ := F
  have hs : (match (generalizing := false) st with
        | .ref k :: r => oo none (hN h k) fun x => go (pc + len) ls (.int x :: r) h
        | .null :: r => oo none sc fun q => go (pc + len) ls (.int (Int32.ofNat q.1) :: r) h
        | _ => none : pR) = some r := hs
  have h1 : len = 1 := by simpa [sdB] using sd
  subst h1
  split at hs
  · obtain ⟨x, h2, hs⟩ := oo_some hs
    obtain ⟨n, h3, h5⟩ := hN_at h2
    rcases h3 with h3 | h3
    · exact va_alen hx hb hK X.2.1 _ 0 (pW_at h3) rfl h5 hd (K _ _ _ _ _ _ _ _ _ hs X)
    · exact va_alen hx hb hK X.2.1 _ 1 (pW_at h3) rfl h5 hd (K _ _ _ _ _ _ _ _ _ hs X)
  · obtain ⟨q, h2, hs⟩ := oo_some hs
    obtain ⟨s1, s2, s3⟩ := S q h2
    exact va_slen (A := fun q => base ≤ q) hx hb s1 s2 s3 X.2.2.1 hd (K _ _ _ _ _ _ _ _ _ hs X)
  · cases hs
theorem tg_28 (F : pFx p R s m args meth c M base C0 D cI cQ H0) (K : pKK p l e R s m args below meth c Q M base b0 D cI cQ H0 C0 Z0 r go) (hs : stp sc none (fun v h => some (v, h)) go cl (pc, len, 28, a, b, v, li) ls st h = some r) (X : pMt base b0 D cI cQ H0 (mL M) C0 Z0 ls h LS H locs cells slots) (hd : decode M.2.1 pc = .ok (exI (pc, len, 28, a, b, v, li), len)) (sd : sdB Ms M (pc, len, 28, a, b, v, li) = true) : W p l e R s m args below meth c H locs cells slots Q (F0 m pc LS (st.map (pv base b0))) := by
  obtain ⟨hx, hb, hml, hown, hts, hnw, hnm, hfr, hlo, hK, hbs, hrt, hsz, hlk⟩ := F
  have hs : (match (generalizing := false) st with
        | .int i :: .ref k :: r => oo none (hQ h k i) fun x => go (pc + len) ls (.ref x :: r) h
        | _ => none : pR) = some r := hs
  have h1 : len = 1 := by simpa [sdB] using sd
  subst h1
  split at hs
  · obtain ⟨x, h2, hs⟩ := oo_some hs
    obtain ⟨n, h3, h4, h5⟩ := hQ_at h2
    refine va_aldq hx hb hK X.2.1 _ 1 (pW_at h3) rfl h4 hd ?_
    rw [h5]
    exact K _ _ _ _ _ _ _ _ _ hs X
  · cases hs
end Sound2
end
section
section Sound3
variable {p : Program} {l : Launch} {e : Env} {R : Room} {s : State} {m : MethodId} {args : Array Value} {below : List Frame} {meth : Method} {c : Code} {Q : State → Prop}
variable {Ms : List pM} {M : pM} {base b0 : Nat} {D : va_G} {cI cQ : ClassId} {H0 H : Heap} {C0 Z0 : Nat} {r : Option Value × pH} {sc : pX} {go : Nat → pL → List Value → pH → pR} {cl : Nat → List Value → Nat → Nat → pL → List Value → pH → pR}
variable {pc len a b : Nat} {v : Int32} {li : List Nat} {ls : pL} {st : List Value} {h : pH} {LS : Array Slot} {locs : List Loc} {cells slots : Nat}
/-- the end of a method: its answer on the stack -/
def pRi (M : pM) (i : Instr) (v : Option Value) : Prop :=
  (i = .ireturn ∧ ∃ x, v = some (.int x) ∧ (mR M = some .int ∨ (mR M = some .boolean ∧ (x = 0 ∨ x = 1)))) ∨ (i = .return_ ∧ v = none ∧ mR M = none) ∨ (i = .areturn ∧ ∃ k, v = some (.ref k) ∧ rkOf (mR M) = 2) ∨ (i = .dreturn ∧ ∃ x, v = some (.double x) ∧ mR M = some .double)
def pRT (p : Program) (l : Launch) (e : Env) (R : Room) (s : State) (m : MethodId) (args : Array Value) (below : List Frame) (meth : Method) (c : Code) (Q : State → Prop) (M : pM) (base b0 : Nat) (D : va_G) (cI cQ : ClassId) (H0 : Heap) (C0 Z0 : Nat) (r : Option Value × pH) : Prop :=
  ∀ (pc : Nat) (i : Instr) (LS : Array Slot) (H : Heap) (locs : List Loc) (cells slots : Nat), decode M.2.1 pc = .ok (i, 1) → pRi M i r.1 → base + r.2.1.length ≤ H.size → va_P D vwCl (pW base cI cQ r.2) H → va_S (fun q => base ≤ q) H0 H locs → cells + C0 = r.2.1.length → slots + Z0 = hz r.2 →
    W p l e R s m args below meth c H locs cells slots Q (F0 m pc LS (r.1.map (pv base b0)).toList)
/-- a call, read as a contract -/
def pB (base : Nat) (D : va_G) (cI cQ : ClassId) (h : pH) (U : State) : Prop := U.heap.size = base + h.1.length ∧ va_P D vwCl (pW base cI cQ h) U.heap ∧ va_K D vwCl [(cI, .int), (cQ, .object "ShelfSpines$Shelf")] U ∧ ∀ w ∈ pNt, va_Nw w U
def pQ (base b0 : Nat) (D : va_G) (cI cQ : ClassId) (v : Option Value) (h : pH) : Array Value → State → Outcome → State → Prop := fun _ st oc t => (oc = .returned (v.map (pv base b0)) ∧ va_P D vwCl (pW base cI cQ h) t.heap ∧ base + h.1.length ≤ t.heap.size) ∧ va_F (fun q => base ≤ q) st t
def pMet (l : Launch) (base b0 : Nat) (D : va_G) (cI cQ : ClassId) (N : pM) (as : List Value) (h : pH) (v : Option Value) (h' : pH) : Prop :=
  Met l N.1 (Cond.code N.1 N.2.1 (mL N) (mR N) :: gW) ({ frames := mF N, cells := h'.1.length - h.1.length, slots := hz h' - hz h, locals := mO N }) (va_Pc (as.map (pv base b0)) (pB base D cI cQ h)) (pQ base b0 D cI cQ v h') (h'.1.length - h.1.length) (hz h' - hz h) (fun q => base ≤ q)
/-- what is known of calls: of each that ends, its contract -/
def pCH (Ms : List pM) (l : Launch) (base b0 : Nat) (D : va_G) (cI cQ : ClassId) (call : Nat → List Value → pH → pR) : Prop :=
  ∀ (y : Nat) (N : pM) (as : List Value) (h : pH) (v : Option Value) (h' : pH), Ms[y]? = some N → (∀ v ∈ as, v.category = 1) → as.length ≤ mL N → call y as h = some (v, h') → hle h h' ∧ pMet l base b0 D cI cQ N as h v h'
theorem pNt_kind {w : Cond} (h : (match w with
    | .fieldLinkNest _ _ _ _ _ _ => true
    | .arrayOver (.object _) => true
    | _ => false) = true) : (∃ a b c d e f, w = .fieldLinkNest a b c d e f) ∨ ∃ n, w = .arrayOver (.object n) := by
  split at h
  · exact Or.inl ⟨_, _, _, _, _, _, rfl⟩
  · exact Or.inr ⟨_, rfl⟩
  · cases h
theorem pB_blind {as : List Value} : FrameBlind (va_Pc as (pB base D cI cQ h)) := by
  rintro a U g mk ⟨h1, h2, h3, h4, h5⟩
  refine ⟨h1, h2, h3, va_K.moved (u := U) (U := U.calling g mk a) (Vm.Alike.refl U.vm) h4, fun w hw => ?_⟩
  have h6 := (List.mem_filter.mp hw).2
  have h7 := h5 w hw
  rcases pNt_kind h6 with ⟨_, _, _, _, _, _, rfl⟩ | ⟨_, rfl⟩
  · exact va_Nw.same rfl (u := U) (U := U.calling g mk a) rfl h7
  · exact va_AO.moved (u := U) (U := U.calling g mk a) (Vm.Alike.refl U.vm) h7
theorem pNt_warm {s U : State} (hW : s.WarmedH U.vm) (hn : ∀ w ∈ pNt, va_Nw w s) : ∀ w ∈ pNt, va_Nw w U := by
  intro w hw
  have h6 := (List.mem_filter.mp hw).2
  have h7 := hn w hw
  rcases pNt_kind h6 with ⟨_, _, _, _, _, _, rfl⟩ | ⟨_, rfl⟩
  · exact va_Nw.warmF hW h7
  · exact va_AO.moved hW.alike h7
theorem gW_good : GoodIn gW gW := fun w hw => ⟨hw, good_of_word (List.mem_filter.mp hw).2⟩
/-- from a call's run to what stands behind it -/
theorem pc_call {g : JFrame} {rest st0 : List Value} {a : Array Value} {mc ms : Nat} {v : Option Value} {h' : pH} (hg : g = F0 m pc LS st0)
    (hr : va_Run p l e R s m args below meth c H locs cells slots mc ms g rest (pQ base b0 D cI cQ v h' a) (fun q => base ≤ q)) (hS : va_S (fun q => base ≤ q) H0 H locs)
    (kk : ∀ (H1 : Heap) (locs1 : List Loc), va_P D vwCl (pW base cI cQ h') H1 → base + h'.1.length ≤ H1.size → va_S (fun q => base ≤ q) H0 H1 locs1 → W p l e R s m args below meth c H1 locs1 (cells + mc) (slots + ms) Q (F0 m (pc + 3) LS ((v.map (pv base b0)).toList ++ rest))) : W p l e R s m args below meth c H locs cells slots Q (F0 m pc LS st0) := by
  intro T hT X
  subst hg
  obtain ⟨v', st₀, t, T', L, h0, X', hL, e1, e2, ⟨⟨hv, hP, hz⟩, hF⟩, st⟩ := hr T hT X
  cases hv
  have hF1 := hF.1
  have hF2 := hF.2
  rw [h0] at hF1 hF2
  obtain ⟨t2, a1, b1⟩ := kk T'.heap (locs ++ L) (by rw [e1]; exact hP) (by rw [e1]; exact hz)
    ⟨Nat.le_trans hS.1 (by rw [e1]; exact hF1), fun q h1 h2 => by rw [e1, hF2 q (Nat.lt_of_lt_of_le h1 hS.1) h2]; exact hS.2.1 q h1 h2, fun q hq => by
      rcases List.mem_append.mp hq with h | h
      · exact hS.2.2 q h
      · exact hL q h⟩ T' rfl X'
  exact ⟨t2, st t2 a1, b1⟩
theorem cats {st : List Value} : ((st.map (pv base b0)).map fun v => v.category).sum = (st.map Value.category).sum := by
  rw [List.map_map]
  congr 1
  apply List.map_congr_left
  intro v _
  exact pv_cat
theorem tg_9 (F : pFx p R s m args meth c M base C0 D cI cQ H0) (K : pKK p l e R s m args below meth c Q M base b0 D cI cQ H0 C0 Z0 r go) (hs : stp sc none (fun v h => some (v, h)) go cl (pc, len, 9, a, b, v, li) ls st h = some r) (X : pMt base b0 D cI cQ H0 (mL M) C0 Z0 ls h LS H locs cells slots) (hd : decode M.2.1 pc = .ok (exI (pc, len, 9, a, b, v, li), len)) (sd : sdB Ms M (pc, len, 9, a, b, v, li) = true) (T : pRT p l e R s m args below meth c Q M base b0 D cI cQ H0 C0 Z0 r) : W p l e R s m args below meth c H locs cells slots Q (F0 m pc LS (st.map (pv base b0))) := by
  obtain ⟨hx, hb, hml, hown, hts, hnw, hnm, hfr, hlo, hK, hbs, hrt, hsz, hlk⟩ := F
  have hs : (match (generalizing := false) st with
        | [.int x] => bif Nat.beq b 0 then some (some (.int x), h) else (if x = 0 ∨ x = 1 then some (some (.int x), h) else none)
        | _ => none : pR) = some r := hs
  have h1 : len = 1 ∧ (bif Nat.beq b 0 then decide (mR M = some .int) else decide (mR M = some .boolean)) = true := by simpa only [sdB, Bool.and_eq_true, decide_eq_true_eq] using sd
  split at hs
  · rename_i x hold
    clear hold
    obtain ⟨rfl, h2⟩ := h1
    rw [cond_eq_ite] at hs h2
    split at hs
    · rename_i h3
      rw [if_pos h3] at h2
      cases hs
      exact T pc .ireturn LS H locs cells slots hd (Or.inl ⟨rfl, x, rfl, Or.inl (of_decide_eq_true h2)⟩) X.1 X.2.1 X.2.2.1 X.2.2.2.2.1 X.2.2.2.2.2
    · rename_i h3
      rw [if_neg h3] at h2
      split at hs
      · rename_i h4
        cases hs
        exact T pc .ireturn LS H locs cells slots hd (Or.inl ⟨rfl, x, rfl, Or.inr ⟨of_decide_eq_true h2, h4⟩⟩) X.1 X.2.1 X.2.2.1 X.2.2.2.2.1 X.2.2.2.2.2
      · cases hs
  · cases hs
theorem tg_19 (F : pFx p R s m args meth c M base C0 D cI cQ H0) (K : pKK p l e R s m args below meth c Q M base b0 D cI cQ H0 C0 Z0 r go) (hs : stp sc none (fun v h => some (v, h)) go cl (pc, len, 19, a, b, v, li) ls st h = some r) (X : pMt base b0 D cI cQ H0 (mL M) C0 Z0 ls h LS H locs cells slots) (hd : decode M.2.1 pc = .ok (exI (pc, len, 19, a, b, v, li), len)) (sd : sdB Ms M (pc, len, 19, a, b, v, li) = true) (T : pRT p l e R s m args below meth c Q M base b0 D cI cQ H0 C0 Z0 r) : W p l e R s m args below meth c H locs cells slots Q (F0 m pc LS (st.map (pv base b0))) := by
  obtain ⟨hx, hb, hml, hown, hts, hnw, hnm, hfr, hlo, hK, hbs, hrt, hsz, hlk⟩ := F
  have hs : (match (generalizing := false) st with
        | [] => some (none, h)
        | _ => none : pR) = some r := hs
  split at hs
  · have h1 : len = 1 ∧ mR M = none := by simpa only [sdB, Bool.and_eq_true, decide_eq_true_eq] using sd
    obtain ⟨rfl, h2⟩ := h1
    cases hs
    exact T pc .return_ LS H locs cells slots hd (Or.inr (Or.inl ⟨rfl, rfl, h2⟩)) X.1 X.2.1 X.2.2.1 X.2.2.2.2.1 X.2.2.2.2.2
  · cases hs
theorem tg_30 (F : pFx p R s m args meth c M base C0 D cI cQ H0) (K : pKK p l e R s m args below meth c Q M base b0 D cI cQ H0 C0 Z0 r go) (hs : stp sc none (fun v h => some (v, h)) go cl (pc, len, 30, a, b, v, li) ls st h = some r) (X : pMt base b0 D cI cQ H0 (mL M) C0 Z0 ls h LS H locs cells slots) (hd : decode M.2.1 pc = .ok (exI (pc, len, 30, a, b, v, li), len)) (sd : sdB Ms M (pc, len, 30, a, b, v, li) = true) (T : pRT p l e R s m args below meth c Q M base b0 D cI cQ H0 C0 Z0 r) : W p l e R s m args below meth c H locs cells slots Q (F0 m pc LS (st.map (pv base b0))) := by
  obtain ⟨hx, hb, hml, hown, hts, hnw, hnm, hfr, hlo, hK, hbs, hrt, hsz, hlk⟩ := F
  have hs : (match (generalizing := false) st with
        | [.ref x] => some (some (.ref x), h)
        | _ => none : pR) = some r := hs
  split at hs
  · rename_i x _
    have h1 : len = 1 ∧ rkOf (mR M) = 2 := by simpa only [sdB, Bool.and_eq_true, decide_eq_true_eq] using sd
    obtain ⟨rfl, h2⟩ := h1
    cases hs
    exact T pc .areturn LS H locs cells slots hd (Or.inr (Or.inr (Or.inl ⟨rfl, x, rfl, h2⟩))) X.1 X.2.1 X.2.2.1 X.2.2.2.2.1 X.2.2.2.2.2
  · cases hs
theorem tg_36 (F : pFx p R s m args meth c M base C0 D cI cQ H0) (K : pKK p l e R s m args below meth c Q M base b0 D cI cQ H0 C0 Z0 r go) (hs : stp sc none (fun v h => some (v, h)) go cl (pc, len, 36, a, b, v, li) ls st h = some r) (X : pMt base b0 D cI cQ H0 (mL M) C0 Z0 ls h LS H locs cells slots) (hd : decode M.2.1 pc = .ok (exI (pc, len, 36, a, b, v, li), len)) (sd : sdB Ms M (pc, len, 36, a, b, v, li) = true) (T : pRT p l e R s m args below meth c Q M base b0 D cI cQ H0 C0 Z0 r) : W p l e R s m args below meth c H locs cells slots Q (F0 m pc LS (st.map (pv base b0))) := by
  obtain ⟨hx, hb, hml, hown, hts, hnw, hnm, hfr, hlo, hK, hbs, hrt, hsz, hlk⟩ := F
  have hs : (match (generalizing := false) st with
        | [.double x] => some (some (.double x), h)
        | _ => none : pR) = some r := hs
  split at hs
  · rename_i x _
    have h1 : len = 1 ∧ mR M = some .double := by simpa only [sdB, Bool.and_eq_true, decide_eq_true_eq] using sd
    obtain ⟨rfl, h2⟩ := h1
    cases hs
    exact T pc .dreturn LS H locs cells slots hd (Or.inr (Or.inr (Or.inr ⟨rfl, x, rfl, h2⟩))) X.1 X.2.1 X.2.2.1 X.2.2.2.2.1 X.2.2.2.2.2
  · cases hs
theorem hz_nK {q : pK} : hz (nK h q) = hz h + kz q := by
  show ((h.1 ++ [q]).map kz).sum = _
  simp [hz]
theorem nK_len {q : pK} : (nK h q).1.length = h.1.length + 1 := by
  show (h.1 ++ [q]).length = _
  simp
theorem tg_21 (F : pFx p R s m args meth c M base C0 D cI cQ H0) (K : pKK p l e R s m args below meth c Q M base b0 D cI cQ H0 C0 Z0 r go) (hs : stp sc none (fun v h => some (v, h)) go cl (pc, len, 21, a, b, v, li) ls st h = some r) (X : pMt base b0 D cI cQ H0 (mL M) C0 Z0 ls h LS H locs cells slots) (hd : decode M.2.1 pc = .ok (exI (pc, len, 21, a, b, v, li), len)) (sd : sdB Ms M (pc, len, 21, a, b, v, li) = true) (KM : ∀ pc ls st h, go pc ls st h = some r → hle h r.2) (hRc : r.2.1.length ≤ R.cells + C0) (hRs : hz r.2 ≤ R.slots + Z0) : W p l e R s m args below meth c H locs cells slots Q (F0 m pc LS (st.map (pv base b0))) := by
  obtain ⟨hx, hb, hml, hown, hts, hnw, hnm, hfr, hlo, hK, hbs, hrt, hsz, hlk⟩ := F
  have hs : (go (pc + len) ls (.ref h.1.length :: st) (nK h (.inl a)) : pR) = some r := hs
  have h1 : len = 3 ∧ newB M a li = true := by simpa only [sdB, Bool.and_eq_true, decide_eq_true_eq] using sd
  obtain ⟨rfl, h2⟩ := h1
  unfold newB at h2
  split at h2
  · rename_i q hq
    simp only [Bool.and_eq_true] at h2
    obtain ⟨⟨w1, w2⟩, w3⟩ := h2
    obtain ⟨c1, c2, c3, c4, g5⟩ := cls_ok a _ hq
    have hm := KM _ _ _ _ hs
    have hm1 := hm.1
    have hm2 := hm.2
    rw [nK_len] at hm1
    rw [hz_nK] at hm2
    have hkz : kz (.inl a) = q.2.2 := by rw [← g5]; rfl
    rw [hkz] at hm2
    have x5 := X.2.2.2.2.1
    have x6 := X.2.2.2.2.2
    refine W_size hsz (fun hsl => ?_)
    have hHs : H.size = base + h.1.length := by
      have := X.1
      omega
    have hKn := hK.1 a _ hq
    refine W.newcK hx hb hown (hts _ (wAt_in w1)) (hts _ (wAt_in w2)) (hts _ (wAt_in w3)) rfl hd (by omega) (by omega) hKn.2.1 rfl fun H1 kC hkC e1 z1 o1 => ?_
    have hP1 : va_P D vwCl (pW base cI cQ (nK h (.inl a))) H1 := by
      rw [pW_nK]
      refine (X.2.1.kept (fun k x hx => o1 x.1 ((X.2.1 k x hx).lt))).app (fun k x hx => ?_)
      have hz : k < 1 := (List.getElem?_eq_some_iff.mp hx).1
      rw [show k = 0 by omega] at hx
      cases hx
      refine ⟨_, hq, ?_⟩
      rw [← hHs]
      refine (u_born (pTy a) hts c1 hKn hkC e1 c2).to (fun j hj => ?_)
      show _ = (pF base (nK h (.inl a)) a _).getD j .null
      rw [List.getD_eq_getElem?_getD, pF_at (by rw [g5]; exact hj)]
      have h8 := c4 j hj
      have h9 : (nK h (.inl a)).2.1 h.1.length j = none := by simp [nK, z2]
      have h10 : (nK h (.inl a)).2.2 h.1.length j = 0 := by simp [nK, z2]
      rw [h9, h10]
      have h11 := fk_ne9 hq hj
      generalize pTy a j = t at h8
      cases t <;> simp only [tyk] at h8 <;> first | (exact absurd h8.symm h11) | (rw [← h8]; rfl)
    have hS1 : va_S (fun q => base ≤ q) H0 H1 locs := ⟨Nat.le_trans X.2.2.1.1 (by omega), fun x h1 h2 => (o1 x (Nat.lt_of_lt_of_le h1 X.2.2.1.1)).trans (X.2.2.1.2.1 x h1 h2), X.2.2.1.2.2⟩
    have hk2 := K _ _ _ _ LS H1 locs (cells + 1) (slots + q.2.2) hs ⟨by rw [nK_len]; omega, hP1, hS1, X.2.2.2.1, by rw [nK_len]; omega, by rw [hz_nK, hkz]; omega⟩
    rw [hHs]
    exact hk2
  · cases h2
theorem tg_22 (F : pFx p R s m args meth c M base C0 D cI cQ H0) (K : pKK p l e R s m args below meth c Q M base b0 D cI cQ H0 C0 Z0 r go) (hs : stp sc none (fun v h => some (v, h)) go cl (pc, len, 22, a, b, v, li) ls st h = some r) (X : pMt base b0 D cI cQ H0 (mL M) C0 Z0 ls h LS H locs cells slots) (hd : decode M.2.1 pc = .ok (exI (pc, len, 22, a, b, v, li), len)) (sd : sdB Ms M (pc, len, 22, a, b, v, li) = true) (KM : ∀ pc ls st h, go pc ls st h = some r → hle h r.2) (hRc : r.2.1.length ≤ R.cells + C0) (hRs : hz r.2 ≤ R.slots + Z0) : W p l e R s m args below meth c H locs cells slots Q (F0 m pc LS (st.map (pv base b0))) := by
  obtain ⟨hx, hb, hml, hown, hts, hnw, hnm, hfr, hlo, hK, hbs, hrt, hsz, hlk⟩ := F
  have hs : (match (generalizing := false) st with
        | .int n :: r => if ¬ n < 0 ∧ n.toNatClampNeg ≤ 100000 then go (pc + len) ls (.ref h.1.length :: r) (nK h (.inr (.inl n.toNatClampNeg))) else none
        | _ => none : pR) = some r := hs
  have h1 : len = 2 ∧ wAt (li.getD 3 0) (.arrayClass .int) = true := by simpa only [sdB, Bool.and_eq_true, decide_eq_true_eq] using sd
  obtain ⟨rfl, w1⟩ := h1
  split at hs
  · rename_i n _ _
    split at hs
    · rename_i hn
      have hm := KM _ _ _ _ hs
      have hm1 := hm.1
      have hm2 := hm.2
      rw [nK_len] at hm1
      rw [hz_nK] at hm2
      have hkz : kz (.inr (.inl n.toNatClampNeg)) = n.toNatClampNeg := rfl
      rw [hkz] at hm2
      have x5 := X.2.2.2.2.1
      have x6 := X.2.2.2.2.2
      refine W_size hsz (fun hsl => ?_)
      have hHs : H.size = base + h.1.length := by
        have := X.1
        omega
      refine va_newaK (atype := .int) hx hb (hts _ (wAt_in w1)) rfl hd rfl hn.1 rfl (by show n.toNatClampNeg * 4 ≤ _; omega) (by omega) (by omega) rfl fun H1 cA e1 z1 o1 hAr hNm => ?_
      have hcA : cA = cI := by
        have h7 : s.vm.findClass ("[" ++ FieldType.int.toString) = some cI := (hK.2 0 _ rfl).2
        exact Option.some.inj (hNm.symm.trans h7)
      subst hcA
      have hP1 : va_P D vwCl (pW base cA cQ (nK h (.inr (.inl n.toNatClampNeg)))) H1 := by
        rw [pW_nK]
        refine (X.2.1.kept (fun k x hx => o1 x.1 ((X.2.1 k x hx).lt))).app (fun k x hx => ?_)
        have hz : k < 1 := (List.getElem?_eq_some_iff.mp hx).1
        rw [show k = 0 by omega] at hx
        cases hx
        show H1[base + h.1.length]? = some (vp_cell cA (n.toNatClampNeg, .inl ((nK h (.inr (.inl n.toNatClampNeg))).2.2 h.1.length)))
        have h10 : (nK h (.inr (.inl n.toNatClampNeg))).2.2 h.1.length = fun _ => 0 := by funext j; simp [nK, z2]
        rw [h10, vp_cell_i, ← hHs]
        exact e1
      have hS1 : va_S (fun q => base ≤ q) H0 H1 locs := ⟨Nat.le_trans X.2.2.1.1 (by omega), fun x h1 h2 => (o1 x (Nat.lt_of_lt_of_le h1 X.2.2.1.1)).trans (X.2.2.1.2.1 x h1 h2), X.2.2.1.2.2⟩
      have hk2 := K _ _ _ _ LS H1 locs (cells + 1) (slots + n.toNatClampNeg) hs ⟨by rw [nK_len]; omega, hP1, hS1, X.2.2.2.1, by rw [nK_len]; omega, by rw [hz_nK, hkz]; omega⟩
      rw [hHs]
      exact hk2
    · cases hs
  · cases hs
theorem tg_41 (F : pFx p R s m args meth c M base C0 D cI cQ H0) (K : pKK p l e R s m args below meth c Q M base b0 D cI cQ H0 C0 Z0 r go) (hs : stp sc none (fun v h => some (v, h)) go cl (pc, len, 41, a, b, v, li) ls st h = some r) (X : pMt base b0 D cI cQ H0 (mL M) C0 Z0 ls h LS H locs cells slots) (hd : decode M.2.1 pc = .ok (exI (pc, len, 41, a, b, v, li), len)) (sd : sdB Ms M (pc, len, 41, a, b, v, li) = true) (KM : ∀ pc ls st h, go pc ls st h = some r → hle h r.2) (hRc : r.2.1.length ≤ R.cells + C0) (hRs : hz r.2 ≤ R.slots + Z0) : W p l e R s m args below meth c H locs cells slots Q (F0 m pc LS (st.map (pv base b0))) := by
  obtain ⟨hx, hb, hml, hown, hts, hnw, hnm, hfr, hlo, hK, hbs, hrt, hsz, hlk⟩ := F
  have hs : (match (generalizing := false) st with
        | .int n :: r => if ¬ n < 0 ∧ n.toNatClampNeg ≤ 100000 then go (pc + len) ls (.ref h.1.length :: r) (nK h (.inr (.inr n.toNatClampNeg))) else none
        | _ => none : pR) = some r := hs
  have h1 : (len = 3 ∧ wAt (li.getD 3 0) (.classLink M.1.cls (li.getD 0 0) "ShelfSpines$Shelf") = true) ∧ lw_tbl[li.getD 4 0]? = some (.arrayOver (.object "ShelfSpines$Shelf")) := by simpa only [sdB, Bool.and_eq_true, decide_eq_true_eq] using sd
  obtain ⟨⟨rfl, w1⟩, w2⟩ := h1
  split at hs
  · rename_i n _ _
    split at hs
    · rename_i hn
      have hm := KM _ _ _ _ hs
      have hm1 := hm.1
      have hm2 := hm.2
      rw [nK_len] at hm1
      rw [hz_nK] at hm2
      have hkz : kz (.inr (.inr n.toNatClampNeg)) = n.toNatClampNeg := rfl
      rw [hkz] at hm2
      have x5 := X.2.2.2.2.1
      have x6 := X.2.2.2.2.2
      refine W_size hsz (fun hsl => ?_)
      have hHs : H.size = base + h.1.length := by
        have := X.1
        omega
      refine W.anew hx hb hown (hts _ (wAt_in w1)) (va_AO.use (hnw _ (List.mem_filter.mpr ⟨List.mem_of_getElem? w2, rfl⟩))) rfl hd rfl hn.1 (by omega) (by omega) (by omega) fun cA kA comp f1 f2 f3 f4 => ?_
      have hcA : cA = cQ := by
        obtain ⟨_, _, _, _, _, h7⟩ := (hK.2 1 _ rfl).2
        exact Option.some.inj (f1.symm.trans h7)
      subst hcA
      generalize hH1 : H.push ({ cls := cA, slots := Array.replicate n.toNatClampNeg .null, vm := .none } : Cell) = H1
      have z1 : H1.size = H.size + 1 := by rw [← hH1, Array.size_push]
      have e1 : H1[H.size]? = some (arrV cA n.toNatClampNeg (fun _ => .null)) := by rw [← hH1, Array.getElem?_push_size, ← arrV_new]
      have o1 : ∀ q : Nat, q < H.size → H1[q]? = H[q]? := fun q hq => by rw [← hH1, Array.getElem?_push, if_neg (Nat.ne_of_lt hq)]
      have hP1 : va_P D vwCl (pW base cI cA (nK h (.inr (.inr n.toNatClampNeg)))) H1 := by
        rw [pW_nK]
        refine (X.2.1.kept (fun k x hx => o1 x.1 ((X.2.1 k x hx).lt))).app (fun k x hx => ?_)
        have hz : k < 1 := (List.getElem?_eq_some_iff.mp hx).1
        rw [show k = 0 by omega] at hx
        cases hx
        show H1[base + h.1.length]? = some (vp_cell cA (n.toNatClampNeg, .inr (.inr (.inr (.inr (fun j => ((nK h (.inr (.inr n.toNatClampNeg))).2.1 h.1.length j).map (base + ·)))))))
        have h10 : (fun j => ((nK h (.inr (.inr n.toNatClampNeg))).2.1 h.1.length j).map (base + ·)) = fun _ => none := by funext j; simp [nK, z2]
        rw [h10, vp_cell_q, ← hHs]
        exact e1
      have hS1 : va_S (fun q => base ≤ q) H0 H1 locs := ⟨Nat.le_trans X.2.2.1.1 (by omega), fun x h1 h2 => (o1 x (Nat.lt_of_lt_of_le h1 X.2.2.1.1)).trans (X.2.2.1.2.1 x h1 h2), X.2.2.1.2.2⟩
      have hk2 := K _ _ _ _ LS H1 locs (cells + 1) (slots + n.toNatClampNeg) hs ⟨by rw [nK_len]; omega, hP1, hS1, X.2.2.2.1, by rw [nK_len]; omega, by rw [hz_nK, hkz]; omega⟩
      rw [hHs]
      exact hk2
    · cases hs
  · cases hs
theorem tg_42 (F : pFx p R s m args meth c M base C0 D cI cQ H0) (K : pKK p l e R s m args below meth c Q M base b0 D cI cQ H0 C0 Z0 r go) (hs : stp sc none (fun v h => some (v, h)) go cl (pc, len, 42, a, b, v, li) ls st h = some r) (X : pMt base b0 D cI cQ H0 (mL M) C0 Z0 ls h LS H locs cells slots) (hd : decode M.2.1 pc = .ok (exI (pc, len, 42, a, b, v, li), len)) (sd : sdB Ms M (pc, len, 42, a, b, v, li) = true) : W p l e R s m args below meth c H locs cells slots Q (F0 m pc LS (st.map (pv base b0))) := by
  obtain ⟨hx, hb, hml, hown, hts, hnw, hnm, hfr, hlo, hK, hbs, hrt, hsz, hlk⟩ := F
  have hs : (match (generalizing := false) st with
        | .ref _ :: r => bif Nat.ble (r.map Value.category).sum 8 then go (pc + len) ls r h else none
        | _ => none : pR) = some r := hs
  have h1 : ((((len = 3 ∧ wAt (li.getD 3 0) (.methodLink M.1.cls (li.getD 0 0) Lib.objectInit) = true) ∧ wAt (li.getD 4 0) (.instanceMethod Lib.objectInit) = true) ∧ wAt (li.getD 5 0) (.code Lib.objectInit ⟨#[0xb1]⟩ 1 none) = true) ∧ 1 ≤ mF M) ∧ 20 ≤ mO M := by simpa only [sdB, Bool.and_eq_true, decide_eq_true_eq] using sd
  obtain ⟨⟨⟨⟨⟨rfl, w1⟩, w2⟩, w3⟩, h5⟩, h6⟩ := h1
  split at hs
  · rename_i _ r' _
    rw [cond_eq_ite] at hs
    split at hs
    · rename_i h7
      refine W.objInit hx hb hown (hts _ (wAt_in w1)) (hts _ (wAt_in w2)) (hts _ (wAt_in w3)) rfl (by rw [hml]; exact X.2.2.2.1.1) rfl hd (Nat.le_trans h5 hfr) ?_ (K _ _ _ _ _ _ _ _ _ hs X)
      have h8 := Nat.le_of_ble_eq_true h7
      show 2 * 0 + ((r'.map (pv base b0)).map fun v => v.category).sum + 12 ≤ _
      rw [cats]
      omega
    · cases hs
  · cases hs
theorem i32_addn {v : Int32} {i : Nat} (h0 : 0 ≤ v.toInt) (h1 : v.toInt ≤ 100) (hi : i ≤ 100) : (v + Int32.ofNat i).toInt = v.toInt + i := by
  rw [Int32.toInt_add, Int32.toInt_ofNat_of_lt (by omega)]
  exact Int.bmod_eq_of_le (by omega) (by omega)
theorem i32_succ {v : Int32} {i : Nat} : v + 1 + Int32.ofNat i = v + Int32.ofNat (i + 1) := by
  rw [Int32.ofNat_add, Int32.add_assoc, Int32.add_comm 1]
  rfl
theorem swt_some {x : Int32} {d : Nat} {ro : Option Value × pH} {K' : Nat → pR} : ∀ {ts : List Nat} {v : Int32}, swt x v ts d K' = some ro → (∃ i t, ts[i]? = some t ∧ x = v + Int32.ofNat i ∧ K' t = some ro) ∨ ((∀ i, i < ts.length → x ≠ v + Int32.ofNat i) ∧ K' d = some ro)
  | [], v, H => Or.inr ⟨fun i h => by simp at h, H⟩
  | t :: ts, v, H => by
    unfold swt at H
    split at H
    · rename_i hc
      exact Or.inl ⟨0, t, rfl, by rw [hc]; simp, H⟩
    · rename_i hc
      rcases swt_some H with ⟨i, t', h1, h2, h3⟩ | ⟨h1, h2⟩
      · exact Or.inl ⟨i + 1, t', by simpa using h1, by rw [h2, i32_succ], h3⟩
      · refine Or.inr ⟨fun i hi => ?_, h2⟩
        cases i with
        | zero => simpa using hc
        | succ i =>
          rw [← i32_succ]
          exact h1 i (by simpa using hi)
theorem tg_24 (F : pFx p R s m args meth c M base C0 D cI cQ H0) (K : pKK p l e R s m args below meth c Q M base b0 D cI cQ H0 C0 Z0 r go) (hs : stp sc none (fun v h => some (v, h)) go cl (pc, len, 24, a, b, v, li) ls st h = some r) (X : pMt base b0 D cI cQ H0 (mL M) C0 Z0 ls h LS H locs cells slots) (hd : decode M.2.1 pc = .ok (exI (pc, len, 24, a, b, v, li), len)) (sd : sdB Ms M (pc, len, 24, a, b, v, li) = true) : W p l e R s m args below meth c H locs cells slots Q (F0 m pc LS (st.map (pv base b0))) := by
  obtain ⟨hx, hb, hml, hown, hts, hnw, hnm, hfr, hlo, hK, hbs, hrt, hsz, hlk⟩ := F
  have hs : (match (generalizing := false) st with
        | .int x :: r => swt x v (li.drop 1) (li.getD 0 0) fun t => go t ls r h
        | _ => none : pR) = some r := hs
  have h1 : ((2 ≤ li.length ∧ li.length ≤ 100) ∧ 0 ≤ v.toInt) ∧ v.toInt ≤ 100 := by simpa only [sdB, Bool.and_eq_true, decide_eq_true_eq] using sd
  obtain ⟨⟨⟨n1, n2⟩, n3⟩, n4⟩ := h1
  split at hs
  · rename_i x _ _
    rcases swt_some hs with ⟨i, t, h1, h2, h3⟩ | ⟨h1, h3⟩
    · have hi : i < (li.drop 1).length := (List.getElem?_eq_some_iff.mp h1).1
      rw [List.length_drop] at hi
      have h4 : x.toInt = v.toInt + i := by rw [h2]; exact i32_addn n3 n4 (by omega)
      refine lv_tableIn (off := (t : Int) - (pc : Int)) (tgt := t) hx hb hd (by omega) (by omega) ?_ (by omega) (K _ _ _ _ _ _ _ _ _ h3 X)
      rw [show (x.toInt - v.toInt).toNat = i by omega]
      rw [List.getElem?_toArray, List.getElem?_map, h1]
      rfl
    · refine lv_tableOut (tgt := li.getD 0 0) hx hb hd ?_ (by omega) (K _ _ _ _ _ _ _ _ _ h3 X)
      rcases Int.lt_or_le x.toInt v.toInt with h5 | h5
      · exact Or.inl h5
      · refine Or.inr (Int.not_le.mp fun h6 => ?_)
        refine h1 (x.toInt - v.toInt).toNat (by rw [List.length_drop]; omega) (Int32.toInt_inj.mp ?_)
        rw [i32_addn n3 n4 (by omega)]
        omega
  · cases hs
theorem tg_25 (F : pFx p R s m args meth c M base C0 D cI cQ H0) (K : pKK p l e R s m args below meth c Q M base b0 D cI cQ H0 C0 Z0 r go) (hs : stp sc none (fun v h => some (v, h)) go cl (pc, len, 25, a, b, v, li) ls st h = some r) (X : pMt base b0 D cI cQ H0 (mL M) C0 Z0 ls h LS H locs cells slots) (hd : decode M.2.1 pc = .ok (exI (pc, len, 25, a, b, v, li), len)) (sd : sdB Ms M (pc, len, 25, a, b, v, li) = true) : W p l e R s m args below meth c H locs cells slots Q (F0 m pc LS (st.map (pv base b0))) := by
  obtain ⟨hx, hb, hml, hown, hts, hnw, hnm, hfr, hlo, hK, hbs, hrt, hsz, hlk⟩ := F
  have hs : (match (generalizing := false) st with
        | .int x :: r => if x = 0 then go (li.getD 1 0) ls r h else if x = 1 then go (li.getD 2 0) ls r h else go (li.getD 0 0) ls r h
        | _ => none : pR) = some r := hs
  have hp : ((#[(0, (li.getD 1 0 : Nat) - (pc : Int)), (1, (li.getD 2 0 : Nat) - (pc : Int))] : Array (Int × Int)).toList.zip ((#[(0, (li.getD 1 0 : Nat) - (pc : Int)), (1, (li.getD 2 0 : Nat) - (pc : Int))] : Array (Int × Int)).toList.drop 1)).all (fun (a, next) => a.1 < next.1) = true := by simp
  split at hs
  · rename_i x _ _
    split at hs
    · rename_i h1
      subst h1
      exact lv_lookup (off := (li.getD 1 0 : Nat) - (pc : Int)) (tgt := li.getD 1 0) hx hb hd hp (by simp [Op.lookupswitch.offset]) (by omega) (K _ _ _ _ _ _ _ _ _ hs X)
    · rename_i h0
      split at hs
      · rename_i h1
        subst h1
        exact lv_lookup (off := (li.getD 2 0 : Nat) - (pc : Int)) (tgt := li.getD 2 0) hx hb hd hp (by simp [Op.lookupswitch.offset]) (by omega) (K _ _ _ _ _ _ _ _ _ hs X)
      · rename_i h1
        have h2 : ¬ x.toInt = 0 := fun q => h0 (Int32.toInt_inj.mp (q.trans (by decide)))
        have h3 : ¬ x.toInt = 1 := fun q => h1 (Int32.toInt_inj.mp (q.trans (by decide)))
        have h4 : ¬ 0 = x.toInt := fun q => h2 q.symm
        have h5 : ¬ 1 = x.toInt := fun q => h3 q.symm
        exact lv_lookup (off := (li.getD 0 0 : Nat) - (pc : Int)) (tgt := li.getD 0 0) hx hb hd hp (by simp [Op.lookupswitch.offset, h4, h5]) (by omega) (K _ _ _ _ _ _ _ _ _ hs X)
  · cases hs
theorem tg_45 (F : pFx p R s m args meth c M base C0 D cI cQ H0) (K : pKK p l e R s m args below meth c Q M base b0 D cI cQ H0 C0 Z0 r go) (hs : stp sc none (fun v h => some (v, h)) go cl (pc, len, 45, a, b, v, li) ls st h = some r) (X : pMt base b0 D cI cQ H0 (mL M) C0 Z0 ls h LS H locs cells slots) (hd : decode M.2.1 pc = .ok (exI (pc, len, 45, a, b, v, li), len)) (sd : sdB Ms M (pc, len, 45, a, b, v, li) = true) (KM : ∀ pc ls st h, go pc ls st h = some r → hle h r.2) (hRc : r.2.1.length ≤ R.cells + C0) (hRs : hz r.2 ≤ R.slots + Z0) : W p l e R s m args below meth c H locs cells slots Q (F0 m pc LS (st.map (pv base b0))) := by
  obtain ⟨hx, hb, hml, hown, hts, hnw, hnm, hfr, hlo, hK, hbs, hrt, hsz, hlk⟩ := F
  have hs : (match (generalizing := false) st with
        | .int y :: .int x :: r => bif Nat.ble (r.map Value.category).sum 8 then go (pc + len) ls (.int (imax x y) :: r) h else none
        | _ => none : pR) = some r := hs
  have h1 : (((((len = 3 ∧ wAt (li.getD 3 0) (.methodLink M.1.cls (li.getD 0 0) Lib.Math.max.name) = true) ∧ wAt (li.getD 4 0) (.static Lib.Math.max.name) = true) ∧ wAt (li.getD 5 0) (.initialized "java/lang/Math") = true) ∧ wAt (li.getD 6 0) (.code Lib.Math.max.name Lib.Math.max.code 2 (some .int)) = true) ∧ 1 ≤ mF M) ∧ 21 ≤ mO M := by simpa only [sdB, Bool.and_eq_true, decide_eq_true_eq] using sd
  obtain ⟨⟨⟨⟨⟨⟨rfl, w1⟩, w2⟩, w3⟩, w4⟩, h5⟩, h6⟩ := h1
  split at hs
  · rename_i y x r' _
    rw [cond_eq_ite] at hs
    split at hs
    · rename_i h7
      have h8 := Nat.le_of_ble_eq_true h7
      have hm := KM _ _ _ _ hs
      have hm1 := hm.1
      have hm2 := hm.2
      have x5 := X.2.2.2.2.1
      have x6 := X.2.2.2.2.2
      exact va_mmax hx hb (hml.trans X.2.2.2.1.1.symm) hown (hts _ (wAt_in w1)) (hts _ (wAt_in w2)) (hts _ (wAt_in w3)) (hts _ (wAt_in w4)) (Nat.le_trans h5 hfr) (by rw [cats]; omega) (by omega) (by omega) hd (K _ _ _ _ _ _ _ _ _ hs X)
    · cases hs
  · cases hs
theorem tg_46 (F : pFx p R s m args meth c M base C0 D cI cQ H0) (K : pKK p l e R s m args below meth c Q M base b0 D cI cQ H0 C0 Z0 r go) (hs : stp sc none (fun v h => some (v, h)) go cl (pc, len, 46, a, b, v, li) ls st h = some r) (X : pMt base b0 D cI cQ H0 (mL M) C0 Z0 ls h LS H locs cells slots) (hd : decode M.2.1 pc = .ok (exI (pc, len, 46, a, b, v, li), len)) (sd : sdB Ms M (pc, len, 46, a, b, v, li) = true) (KM : ∀ pc ls st h, go pc ls st h = some r → hle h r.2) (hRc : r.2.1.length ≤ R.cells + C0) (hRs : hz r.2 ≤ R.slots + Z0) : W p l e R s m args below meth c H locs cells slots Q (F0 m pc LS (st.map (pv base b0))) := by
  obtain ⟨hx, hb, hml, hown, hts, hnw, hnm, hfr, hlo, hK, hbs, hrt, hsz, hlk⟩ := F
  have hs : (match (generalizing := false) st with
        | .int y :: .int x :: r => bif Nat.ble (r.map Value.category).sum 8 then go (pc + len) ls (.int (imin x y) :: r) h else none
        | _ => none : pR) = some r := hs
  have h1 : (((((len = 3 ∧ wAt (li.getD 3 0) (.methodLink M.1.cls (li.getD 0 0) Lib.Math.min.name) = true) ∧ wAt (li.getD 4 0) (.static Lib.Math.min.name) = true) ∧ wAt (li.getD 5 0) (.initialized "java/lang/Math") = true) ∧ wAt (li.getD 6 0) (.code Lib.Math.min.name Lib.Math.min.code 2 (some .int)) = true) ∧ 1 ≤ mF M) ∧ 21 ≤ mO M := by simpa only [sdB, Bool.and_eq_true, decide_eq_true_eq] using sd
  obtain ⟨⟨⟨⟨⟨⟨rfl, w1⟩, w2⟩, w3⟩, w4⟩, h5⟩, h6⟩ := h1
  split at hs
  · rename_i y x r' _
    rw [cond_eq_ite] at hs
    split at hs
    · rename_i h7
      have h8 := Nat.le_of_ble_eq_true h7
      have hm := KM _ _ _ _ hs
      have hm1 := hm.1
      have hm2 := hm.2
      have x5 := X.2.2.2.2.1
      have x6 := X.2.2.2.2.2
      exact va_mmin hx hb (hml.trans X.2.2.2.1.1.symm) hown (hts _ (wAt_in w1)) (hts _ (wAt_in w2)) (hts _ (wAt_in w3)) (hts _ (wAt_in w4)) (Nat.le_trans h5 hfr) (by rw [cats]; omega) (by omega) (by omega) hd (K _ _ _ _ _ _ _ _ _ hs X)
    · cases hs
  · cases hs
end Sound3
end
section
section Sound4
variable {p : Program} {l : Launch} {e : Env} {R : Room} {s : State} {m : MethodId} {args : Array Value} {below : List Frame} {meth : Method} {c : Code} {Q : State → Prop}
variable {Ms : List pM} {M : pM} {base b0 : Nat} {D : va_G} {cI cQ : ClassId} {H0 H : Heap} {C0 Z0 : Nat} {r : Option Value × pH} {sc : pX} {go : Nat → pL → List Value → pH → pR} {cl : Nat → List Value → Nat → Nat → pL → List Value → pH → pR}
variable {pc len a b : Nat} {v : Int32} {li : List Nat} {ls : pL} {st : List Value} {h : pH} {LS : Array Slot} {locs : List Loc} {cells slots : Nat}
variable {call : Nat → List Value → pH → pR}
theorem cal_of {M : pM} {np nl : Nat} (hf : calB Ms M a np nl li = true) : ∃ N, Ms[a]? = some N ∧ Cond.methodLink M.1.cls (li.getD 0 0) N.1 ∈ gW ∧ Cond.code N.1 N.2.1 (mL N) (mR N) ∈ gW ∧ Cond.initialized N.1.cls ∈ gW ∧ mF N + 1 ≤ mF M ∧ 8 + (mL N + 11) + mO N ≤ mO M ∧ (N.1.cls ≠ "java/lang/invoke/MethodHandle" ∧ N.1.cls ≠ "java/lang/invoke/VarHandle") ∧ (parseMethodDescriptor N.1.desc).map (fun d => d.parameters.length) = some np ∧ nl ≤ mL N := by
  unfold calB at hf
  split at hf
  · rename_i N hN
    simp only [Bool.and_eq_true, decide_eq_true_eq] at hf
    obtain ⟨⟨⟨⟨⟨⟨⟨⟨⟨h1, h2⟩, h3⟩, h4⟩, h5⟩, h6⟩, h7⟩, h8⟩, h9⟩, h10⟩ := hf
    exact ⟨N, hN, wAt_in h1, wAt_in h2, wAt_in h3, h4, h5, ⟨h6, h7⟩, h8, h10⟩
  · cases hf
theorem calW {N : pM} {np mc ms : Nat} {s : State} {args : Array Value} {R : Room} {own : String} {idx : Nat} (hts : ∀ w ∈ gW, w.before args s = true) (h1 : Cond.methodLink own idx N.1 ∈ gW) (h2 : Cond.code N.1 N.2.1 (mL N) (mR N) ∈ gW) (h3 : Cond.initialized N.1.cls ∈ gW) (h4 : mF N + 1 ≤ R.frames) (h5 : 8 + (mL N + 11) + mO N ≤ R.locals) (h6 : N.1.cls ≠ "java/lang/invoke/MethodHandle" ∧ N.1.cls ≠ "java/lang/invoke/VarHandle") (h7 : (parseMethodDescriptor N.1.desc).map (fun d => d.parameters.length) = some np) :
    CallB R s args own idx N.1 N.2.1 (mL N) (mR N) (Cond.code N.1 N.2.1 (mL N) (mR N) :: gW) ({ frames := mF N, cells := mc, slots := ms, locals := mO N }) mc ms np := by
  have hG : GoodIn gW (Cond.code N.1 N.2.1 (mL N) (mR N) :: gW) := fun w hw => by
    rcases List.mem_cons.mp hw with rfl | hw
    · exact gW_good _ h2
    · exact gW_good _ hw
  refine ⟨rfl, rfl, h4, h5, pay_in hts hG, List.mem_cons_self, hts _ h2, hts _ h3, h6, fun sig hs => ?_, hts _ h1⟩
  rw [hs] at h7
  exact (Option.some.inj h7).symm
theorem pv_app {v : Option Value} {r' : List Value} : (v.map (pv base b0)).toList ++ r'.map (pv base b0) = (v.toList ++ r').map (pv base b0) := by cases v <;> simp
theorem take_rev {n : Nat} {st : List Value} : ((st.take n).reverse.map (pv base b0)).reverse = (st.take n).map (pv base b0) := by rw [← List.map_reverse, List.reverse_reverse]
theorem tg_6 (F : pFx p R s m args meth c M base C0 D cI cQ H0) (K : pKK p l e R s m args below meth c Q M base b0 D cI cQ H0 C0 Z0 r go) (hs : stp sc none (fun v h => some (v, h)) go cl (pc, len, 6, a, b, v, li) ls st h = some r) (X : pMt base b0 D cI cQ H0 (mL M) C0 Z0 ls h LS H locs cells slots) (hd : decode M.2.1 pc = .ok (exI (pc, len, 6, a, b, v, li), len)) (sd : sdB Ms M (pc, len, 6, a, b, v, li) = true) (KM : ∀ pc ls st h, go pc ls st h = some r → hle h r.2) (hRc : r.2.1.length ≤ R.cells + C0) (hRs : hz r.2 ≤ R.slots + Z0) (hcl : ∀ y as rk pc ls st h, cl y as rk pc ls st h = some r → ∃ v h', call y as h = some (v, h') ∧ go pc ls (v.toList ++ st) h' = some r) (CH : pCH Ms l base b0 D cI cQ call) : W p l e R s m args below meth c H locs cells slots Q (F0 m pc LS (st.map (pv base b0))) := by
  obtain ⟨hx, hb, hml, hown, hts, hnw, hnm, hfr, hlo, hK, hbs, hrt, hsz, hlk⟩ := F
  have hs : (match (generalizing := false) st.drop (b - 1) with
        | .ref k :: r => bif Nat.ble (r.map Value.category).sum 8 && (st.take (b - 1)).all (fun v => Nat.beq v.category 1) then (if kO h (li.getD 2 0) k = true then cl a (.ref k :: (st.take (b - 1)).reverse) (li.getD 1 0) (pc + len) ls r h else none) else none
        | _ => none : pR) = some r := hs
  have h1 : ((len = 3 ∧ 1 ≤ b) ∧ calB Ms M a (b - 1) b li = true) ∧ virB Ms a li = true := by simpa only [sdB, Bool.and_eq_true, decide_eq_true_eq] using sd
  obtain ⟨⟨⟨rfl, hb1'⟩, hf⟩, hv⟩ := h1
  obtain ⟨N, hN, w1, w2, w3, f1, f2, f3, f4, f5⟩ := cal_of hf
  split at hs
  rotate_left
  · cases hs
  rename_i k r' hst
  have hlen : b - 1 < st.length := by
    have h9 := congrArg List.length hst
    rw [List.length_drop, List.length_cons] at h9
    omega
  rw [cond_eq_ite] at hs
  split at hs
  · rename_i hbb
    simp only [Bool.and_eq_true] at hbb
    obtain ⟨hb1, hb2⟩ := hbb
    split at hs
    rotate_left
    · cases hs
    rename_i hk
    have hk := kO_at hk
    obtain ⟨v', h', hcall, hs⟩ := hcl _ _ _ _ _ _ _ hs
    have hb8 := Nat.le_of_ble_eq_true hb1
    have hcat : ∀ v ∈ (.ref k :: (st.take (b - 1)).reverse), v.category = 1 := by
      intro v hv
      rcases List.mem_cons.mp hv with rfl | hv
      · rfl
      · exact Nat.eq_of_beq_eq_true (List.all_eq_true.mp hb2 v (List.mem_reverse.mp hv))
    have hln : (.ref k :: (st.take (b - 1)).reverse).length ≤ mL N := by
      rw [List.length_cons, List.length_reverse, List.length_take]
      omega
    obtain ⟨hle1, hMet⟩ := CH a N _ _ _ _ hN hcat hln hcall
    have hle2 := KM _ _ _ _ hs
    have a1 := hle1.1
    have a2 := hle1.2
    have a3 := hle2.1
    have a4 := hle2.2
    have x5 := X.2.2.2.2.1
    have x6 := X.2.2.2.2.2
    refine W_size hsz (fun hsl => ?_)
    have hHs : H.size = base + h.1.length := by
      have := X.1
      omega
    unfold virB at hv
    rw [hN] at hv
    simp only [Bool.and_eq_true] at hv
    obtain ⟨⟨v1, v2⟩, v3⟩ := hv
    split at v3
    rotate_left
    · cases v3
    rename_i q hq
    have v3 := of_decide_eq_true v3
    refine pc_call (v := v') (h' := h') (rest := (r'.map (pv base b0))) rfl (va_runV (As := ((st.take (b - 1)).reverse.map (pv base b0))) (rest := (r'.map (pv base b0))) (C := N.1.cls) (b := base + k) ⟨hx, hb, hml, hown, hts⟩ hMet ⟨calW hts w1 w2 w3 (Nat.le_trans f1 hfr) (Nat.le_trans f2 hlo) f3 f4, hts _ (wAt_in v1), hts _ (wAt_in v2)⟩ ⟨pB_blind, by have h9 := va_recv hK X.2.1 hq (pW_at hk); rw [v3] at h9; exact h9, fun U hU hW => ⟨rfl, by rw [hU]; exact hHs, by rw [hU]; exact X.2.1, va_K.moved hW.alike hK, pNt_warm hW hnw⟩⟩ rfl (by rw [List.length_map, List.length_reverse, List.length_take]; omega) X.2.2.2.1.1 (by show st.map (pv base b0) = _; rw [take_rev, show Value.ref (base + k) :: r'.map (pv base b0) = (Value.ref k :: r').map (pv base b0) from rfl, ← hst, ← List.map_append, List.take_append_drop]) (lv_room (by rw [cats]; exact hb8)) hd ⟨by omega, by omega⟩) X.2.2.1 (fun H1 locs1 hP1 hz1 hS1 => ?_)
    rw [pv_app]
    exact K _ _ _ _ _ _ _ _ _ hs ⟨hz1, hP1, hS1, X.2.2.2.1, by omega, by omega⟩
  · cases hs
theorem tg_8 (F : pFx p R s m args meth c M base C0 D cI cQ H0) (K : pKK p l e R s m args below meth c Q M base b0 D cI cQ H0 C0 Z0 r go) (hs : stp sc none (fun v h => some (v, h)) go cl (pc, len, 8, a, b, v, li) ls st h = some r) (X : pMt base b0 D cI cQ H0 (mL M) C0 Z0 ls h LS H locs cells slots) (hd : decode M.2.1 pc = .ok (exI (pc, len, 8, a, b, v, li), len)) (sd : sdB Ms M (pc, len, 8, a, b, v, li) = true) (KM : ∀ pc ls st h, go pc ls st h = some r → hle h r.2) (hRc : r.2.1.length ≤ R.cells + C0) (hRs : hz r.2 ≤ R.slots + Z0) (hcl : ∀ y as rk pc ls st h, cl y as rk pc ls st h = some r → ∃ v h', call y as h = some (v, h') ∧ go pc ls (v.toList ++ st) h' = some r) (CH : pCH Ms l base b0 D cI cQ call) : W p l e R s m args below meth c H locs cells slots Q (F0 m pc LS (st.map (pv base b0))) := by
  obtain ⟨hx, hb, hml, hown, hts, hnw, hnm, hfr, hlo, hK, hbs, hrt, hsz, hlk⟩ := F
  have hs : (match (generalizing := false) st.drop (b - 1) with
        | .ref k :: r => bif Nat.ble (r.map Value.category).sum 8 && (st.take (b - 1)).all (fun v => Nat.beq v.category 1) then cl a (.ref k :: (st.take (b - 1)).reverse) (li.getD 1 0) (pc + len) ls r h else none
        | _ => none : pR) = some r := hs
  have h1 : ((len = 3 ∧ 1 ≤ b) ∧ calB Ms M a (b - 1) b li = true) ∧ spcB Ms a li = true := by simpa only [sdB, Bool.and_eq_true, decide_eq_true_eq] using sd
  obtain ⟨⟨⟨rfl, hb1'⟩, hf⟩, hv⟩ := h1
  obtain ⟨N, hN, w1, w2, w3, f1, f2, f3, f4, f5⟩ := cal_of hf
  split at hs
  rotate_left
  · cases hs
  rename_i k r' hst
  have hlen : b - 1 < st.length := by
    have h9 := congrArg List.length hst
    rw [List.length_drop, List.length_cons] at h9
    omega
  rw [cond_eq_ite] at hs
  split at hs
  · rename_i hbb
    simp only [Bool.and_eq_true] at hbb
    obtain ⟨hb1, hb2⟩ := hbb
    obtain ⟨v', h', hcall, hs⟩ := hcl _ _ _ _ _ _ _ hs
    have hb8 := Nat.le_of_ble_eq_true hb1
    have hcat : ∀ v ∈ (.ref k :: (st.take (b - 1)).reverse), v.category = 1 := by
      intro v hv
      rcases List.mem_cons.mp hv with rfl | hv
      · rfl
      · exact Nat.eq_of_beq_eq_true (List.all_eq_true.mp hb2 v (List.mem_reverse.mp hv))
    have hln : (.ref k :: (st.take (b - 1)).reverse).length ≤ mL N := by
      rw [List.length_cons, List.length_reverse, List.length_take]
      omega
    obtain ⟨hle1, hMet⟩ := CH a N _ _ _ _ hN hcat hln hcall
    have hle2 := KM _ _ _ _ hs
    have a1 := hle1.1
    have a2 := hle1.2
    have a3 := hle2.1
    have a4 := hle2.2
    have x5 := X.2.2.2.2.1
    have x6 := X.2.2.2.2.2
    refine W_size hsz (fun hsl => ?_)
    have hHs : H.size = base + h.1.length := by
      have := X.1
      omega
    unfold spcB at hv
    rw [hN] at hv
    simp only [Bool.and_eq_true, decide_eq_true_eq] at hv
    obtain ⟨⟨v1, v2⟩, v3⟩ := hv
    refine pc_call (v := v') (h' := h') (rest := (r'.map (pv base b0))) rfl (va_runI (As := ((st.take (b - 1)).reverse.map (pv base b0))) (rest := (r'.map (pv base b0))) (b := base + k) ⟨hx, hb, hml, hown, hts⟩ hMet ⟨by have h9 := calW (N := N) (mc := h'.1.length - h.1.length) (ms := hz h' - hz h) hts w1 w2 w3 (Nat.le_trans f1 hfr) (Nat.le_trans f2 hlo) f3 f4; rw [v3] at h9 ⊢; exact h9, v2, hts _ (wAt_in v1)⟩ ⟨pB_blind, fun U hU hW => ⟨rfl, by rw [hU]; exact hHs, by rw [hU]; exact X.2.1, va_K.moved hW.alike hK, pNt_warm hW hnw⟩⟩ rfl (by rw [List.length_map, List.length_reverse, List.length_take]; omega) X.2.2.2.1.1 (by show st.map (pv base b0) = _; rw [take_rev, show Value.ref (base + k) :: r'.map (pv base b0) = (Value.ref k :: r').map (pv base b0) from rfl, ← hst, ← List.map_append, List.take_append_drop]) (lv_room (by rw [cats]; exact hb8)) hd ⟨by omega, by omega⟩) X.2.2.1 (fun H1 locs1 hP1 hz1 hS1 => ?_)
    rw [pv_app]
    exact K _ _ _ _ _ _ _ _ _ hs ⟨hz1, hP1, hS1, X.2.2.2.1, by omega, by omega⟩
  · cases hs
theorem tg_7 (F : pFx p R s m args meth c M base C0 D cI cQ H0) (K : pKK p l e R s m args below meth c Q M base b0 D cI cQ H0 C0 Z0 r go) (hs : stp sc none (fun v h => some (v, h)) go cl (pc, len, 7, a, b, v, li) ls st h = some r) (X : pMt base b0 D cI cQ H0 (mL M) C0 Z0 ls h LS H locs cells slots) (hd : decode M.2.1 pc = .ok (exI (pc, len, 7, a, b, v, li), len)) (sd : sdB Ms M (pc, len, 7, a, b, v, li) = true) (KM : ∀ pc ls st h, go pc ls st h = some r → hle h r.2) (hRc : r.2.1.length ≤ R.cells + C0) (hRs : hz r.2 ≤ R.slots + Z0) (hcl : ∀ y as rk pc ls st h, cl y as rk pc ls st h = some r → ∃ v h', call y as h = some (v, h') ∧ go pc ls (v.toList ++ st) h' = some r) (CH : pCH Ms l base b0 D cI cQ call) : W p l e R s m args below meth c H locs cells slots Q (F0 m pc LS (st.map (pv base b0))) := by
  obtain ⟨hx, hb, hml, hown, hts, hnw, hnm, hfr, hlo, hK, hbs, hrt, hsz, hlk⟩ := F
  have hs : (bif (Nat.ble b st.length && Nat.ble ((st.drop b).map Value.category).sum 8) && (st.take b).all (fun v => Nat.beq v.category 1) then cl a (st.take b).reverse (li.getD 1 0) (pc + len) ls (st.drop b) h else none : pR) = some r := hs
  have h1 : (len = 3 ∧ calB Ms M a b b li = true) ∧ stcB Ms a li = true := by simpa only [sdB, Bool.and_eq_true, decide_eq_true_eq] using sd
  obtain ⟨⟨rfl, hf⟩, hv⟩ := h1
  obtain ⟨N, hN, w1, w2, w3, f1, f2, f3, f4, f5⟩ := cal_of hf
  rw [cond_eq_ite] at hs
  split at hs
  · rename_i hbb
    simp only [Bool.and_eq_true] at hbb
    obtain ⟨⟨hb0, hb1⟩, hb2⟩ := hbb
    have hlen := Nat.le_of_ble_eq_true hb0
    obtain ⟨v', h', hcall, hs⟩ := hcl _ _ _ _ _ _ _ hs
    have hb8 := Nat.le_of_ble_eq_true hb1
    have hcat : ∀ v ∈ (st.take b).reverse, v.category = 1 := by
      intro v hv
      skip
      skip
      exact Nat.eq_of_beq_eq_true (List.all_eq_true.mp hb2 v (List.mem_reverse.mp hv))
    have hln : (st.take b).reverse.length ≤ mL N := by
      rw [List.length_reverse, List.length_take]
      omega
    obtain ⟨hle1, hMet⟩ := CH a N _ _ _ _ hN hcat hln hcall
    have hle2 := KM _ _ _ _ hs
    have a1 := hle1.1
    have a2 := hle1.2
    have a3 := hle2.1
    have a4 := hle2.2
    have x5 := X.2.2.2.2.1
    have x6 := X.2.2.2.2.2
    refine W_size hsz (fun hsl => ?_)
    have hHs : H.size = base + h.1.length := by
      have := X.1
      omega
    unfold stcB at hv
    rw [hN] at hv
    refine pc_call (v := v') (h' := h') (rest := ((st.drop b).map (pv base b0))) rfl (va_runS (As := ((st.take b).reverse.map (pv base b0))) (rest := ((st.drop b).map (pv base b0))) ⟨hx, hb, hml, hown, hts⟩ hMet ⟨calW hts w1 w2 w3 (Nat.le_trans f1 hfr) (Nat.le_trans f2 hlo) f3 f4, hts _ (wAt_in hv)⟩ ⟨pB_blind, fun U hU hW => ⟨rfl, by rw [hU]; exact hHs, by rw [hU]; exact X.2.1, va_K.moved hW.alike hK, pNt_warm hW hnw⟩⟩ rfl (by rw [List.length_map, List.length_reverse, List.length_take]; omega) X.2.2.2.1.1 (by show st.map (pv base b0) = _; rw [take_rev, ← List.map_append, List.take_append_drop]) (lv_room (by rw [cats]; exact hb8)) hd ⟨by omega, by omega⟩) X.2.2.1 (fun H1 locs1 hP1 hz1 hS1 => ?_)
    rw [pv_app]
    exact K _ _ _ _ _ _ _ _ _ hs ⟨hz1, hP1, hS1, X.2.2.2.1, by omega, by omega⟩
  · cases hs
end Sound4
end
section
section Sound5
variable {Ms : List pM} {l : Launch}
def pCHn (Ms : List pM) (l : Launch) (n : Nat) : Prop := ∀ (base b0 : Nat) (D : va_G) (cI cQ : ClassId), pCH Ms l base b0 D cI cQ (fun y as h => rn Ms none n y 0 (as.map some) [] h)
def pFR (Ms : List pM) (l : Launch) (n : Nat) : Prop :=
  ∀ (sc : pX) (mi : Nat) (M : pM) (pc : Nat) (ls : pL) (st : List Value) (h : pH) (r : Option Value × pH), Ms[mi]? = some M → rn Ms sc n mi pc ls st h = some r →
    ∀ (p : Program) (e : Env) (R : Room) (s : State) (m : MethodId) (args : Array Value) (below : List Frame) (meth : Method) (c : Code) (Q : State → Prop) (base b0 : Nat) (D : va_G) (cI cQ : ClassId) (H0 H : Heap) (C0 Z0 : Nat) (LS : Array Slot) (locs : List Loc) (cells slots : Nat),
      pFx p R s m args meth c M base C0 D cI cQ H0 → pSc sc b0 s H0 base → pRT p l e R s m args below meth c Q M base b0 D cI cQ H0 C0 Z0 r → pMt base b0 D cI cQ H0 (mL M) C0 Z0 ls h LS H locs cells slots → r.2.1.length ≤ R.cells + C0 → hz r.2 ≤ R.slots + Z0 →
      W p l e R s m args below meth c H locs cells slots Q (F0 m pc LS (st.map (pv base b0)))
theorem fr_step (hMs : ∀ (mi : Nat) (M : pM), Ms[mi]? = some M → okM Ms M) {n : Nat} (hF : pFR Ms l n) (hC : pCHn Ms l n) : pFR Ms l (n + 1) := by
  intro sc mi M pc ls st h r hM hr p e R s m args below meth c Q base b0 D cI cQ H0 H C0 Z0 LS locs cells slots F S T X hRc hRs
  rw [rn_succ, hM, oo_v] at hr
  obtain ⟨e0, he, hs⟩ := oo_some hr
  obtain ⟨hein, hepc⟩ := fe_in he
  obtain ⟨hd, sd⟩ := (hMs mi M hM).2 e0 hein
  obtain ⟨pc0, len, tag, a, b, v, li⟩ := e0
  have hepc : pc0 = pc := hepc
  subst hepc
  have K : pKK p l e R s m args below meth c Q M base b0 D cI cQ H0 C0 Z0 r (fun pc ls st h => rn Ms sc n mi pc (trm M.2.2.2.2.2.2.2 pc ls) st h) := by
    intro pc ls st h LS H locs cells slots h1 X1
    exact hF sc mi M pc _ st h r hM h1 p e R s m args below meth c Q base b0 D cI cQ H0 H C0 Z0 LS locs cells slots F S T ⟨X1.1, X1.2.1, X1.2.2.1, lr_trm X1.2.2.2.1, X1.2.2.2.2⟩ hRc hRs
  have KM : ∀ (pc : Nat) (ls : pL) (st : List Value) (h : pH), rn Ms sc n mi pc (trm M.2.2.2.2.2.2.2 pc ls) st h = some r → hle h r.2 := fun pc ls st h h1 => rn_le n h1
  have hcl : ∀ (y : Nat) (as : List Value) (rk pc : Nat) (ls : pL) (st : List Value) (h : pH), cc rk (rn Ms none n y 0 (as.map some) [] h) (fun w h => rn Ms sc n mi pc (trm M.2.2.2.2.2.2.2 pc ls) (w ++ st) h) = some r → ∃ (v : Option Value) (h' : pH), rn Ms none n y 0 (as.map some) [] h = some (v, h') ∧ rn Ms sc n mi pc (trm M.2.2.2.2.2.2.2 pc ls) (v.toList ++ st) h' = some r := by
    intro y as rk pc ls st h h1
    obtain ⟨v, h', w, h2, h3, h4⟩ := cc_some h1
    exact ⟨v, h', h2, by rw [← h3]; exact h4⟩
  have CH := hC base b0 D cI cQ
  match tag, hs, hd, sd with
  | 0, hs, hd, sd => exact tg_0 F K hs X hd sd
  | 1, hs, hd, sd => exact tg_1 F K hs X hd sd
  | 2, hs, hd, sd => exact tg_2 F K hs X hd sd
  | 3, hs, hd, sd => exact tg_3 F K hs X hd sd
  | 4, hs, hd, sd => exact tg_4 F K hs X hd sd
  | 5, hs, hd, sd => exact tg_5 F K hs X hd sd
  | 6, hs, hd, sd => exact tg_6 F K hs X hd sd KM hRc hRs hcl CH
  | 7, hs, hd, sd => exact tg_7 F K hs X hd sd KM hRc hRs hcl CH
  | 8, hs, hd, sd => exact tg_8 F K hs X hd sd KM hRc hRs hcl CH
  | 9, hs, hd, sd => exact tg_9 F K hs X hd sd T
  | 10, hs, hd, sd => exact tg_10 F K hs X hd sd
  | 11, hs, hd, sd => exact tg_11 F K hs X hd sd
  | 12, hs, hd, sd => exact tg_12 F K hs X hd sd S
  | 13, hs, hd, sd => exact tg_13 F K hs X hd sd
  | 14, hs, hd, sd => exact tg_14 F K hs X hd sd
  | 15, hs, hd, sd => exact tg_15 F K hs X hd sd
  | 16, hs, hd, sd => exact tg_16 F K hs X hd sd
  | 17, hs, hd, sd => exact tg_17 F K hs X hd sd
  | 18, hs, hd, sd => exact tg_18 F K hs X hd sd
  | 19, hs, hd, sd => exact tg_19 F K hs X hd sd T
  | 20, hs, hd, sd => exact tg_20 F K hs X hd sd
  | 21, hs, hd, sd => exact tg_21 F K hs X hd sd KM hRc hRs
  | 22, hs, hd, sd => exact tg_22 F K hs X hd sd KM hRc hRs
  | 23, hs, hd, sd => exact tg_23 F K hs X hd sd
  | 24, hs, hd, sd => exact tg_24 F K hs X hd sd
  | 25, hs, hd, sd => exact tg_25 F K hs X hd sd
  | 26, hs, hd, sd => exact tg_26 F K hs X hd sd S
  | 27, hs, hd, sd => exact tg_27 F K hs X hd sd
  | 28, hs, hd, sd => exact tg_28 F K hs X hd sd
  | 29, hs, hd, sd => exact tg_29 F K hs X hd sd
  | 30, hs, hd, sd => exact tg_30 F K hs X hd sd T
  | 31, hs, hd, sd => exact tg_31 F K hs X hd sd
  | 32, hs, hd, sd => exact tg_32 F K hs X hd sd
  | 33, hs, hd, sd => exact tg_33 F K hs X hd sd
  | 34, hs, hd, sd => exact tg_34 F K hs X hd sd
  | 35, hs, hd, sd => exact tg_35 F K hs X hd sd
  | 36, hs, hd, sd => exact tg_36 F K hs X hd sd T
  | 37, hs, hd, sd => exact tg_37 F K hs X hd sd
  | 38, hs, hd, sd => exact tg_38 F K hs X hd sd
  | 39, hs, hd, sd => exact tg_39 F K hs X hd sd
  | 40, hs, hd, sd => exact tg_40 F K hs X hd sd
  | 41, hs, hd, sd => exact tg_41 F K hs X hd sd KM hRc hRs
  | 42, hs, hd, sd => exact tg_42 F K hs X hd sd
  | 43, hs, hd, sd => exact tg_43 F K hs X hd sd
  | 44, hs, hd, sd => exact tg_44 F K hs X hd sd
  | 45, hs, hd, sd => exact tg_45 F K hs X hd sd KM hRc hRs
  | 46, hs, hd, sd => exact tg_46 F K hs X hd sd KM hRc hRs
  | t + 47, hs, hd, sd => simp [sdB] at sd
theorem lv_args_at : ∀ (vs : List Value) (j : Nat), (∀ v ∈ vs, v.category = 1) → ∀ (i : Nat) (v : Value), vs[i]? = some v → (j + i, v) ∈ lv_args j vs
  | [], j, _, i, v, h => by simp at h
  | w :: vs, j, hc, 0, v, h => by
    have : w = v := by simpa using h
    subst this
    exact List.mem_cons_self
  | w :: vs, j, hc, i + 1, v, h => by
    have h1 : vs[i]? = some v := by simpa using h
    have h2 := lv_args_at vs (j + 1) (fun v hv => hc v (List.mem_cons_of_mem _ hv)) i v h1
    have h3 : ¬ w.category = 2 := by
      have := hc w List.mem_cons_self
      omega
    show (j + (i + 1), v) ∈ (j, w) :: lv_args (if w.category = 2 then j + 2 else j + 1) vs
    rw [if_neg h3, show j + (i + 1) = j + 1 + i by omega]
    exact List.mem_cons_of_mem _ h2
theorem lg_len : ∀ (vs : List Value), (∀ v ∈ vs, v.category = 1) → (lg_sl vs).length = vs.length
  | [], _ => rfl
  | w :: vs, hc => by
    have h3 : ¬ w.category = 2 := by
      have := hc w List.mem_cons_self
      omega
    have h4 := lg_len vs (fun v hv => hc v (List.mem_cons_of_mem _ hv))
    unfold lg_sl at h4 ⊢
    rw [List.flatMap_cons, if_neg h3, List.length_append, h4, List.length_cons]
    simp only [List.length_cons, List.length_nil]
    omega
set_option maxHeartbeats 1000000 in
theorem ch_of (hMs : ∀ (mi : Nat) (M : pM), Ms[mi]? = some M → okM Ms M) {n : Nat} (hF : pFR Ms l n) : pCHn Ms l n := by
  intro base b0 D cI cQ y N as h v h' hN hcat hlen hrun
  have hle1 := rn_le n hrun
  refine ⟨hle1, ?_⟩
  unfold pMet
  refine Met.ofW (cc := N.2.1) (maxL := mL N) (ret := mR N) (hMs y N hN).1 rfl ?_
  intro p e s m args below meth c s₁ B hml hv
  obtain ⟨rfl, hsz, hP, hK, hn⟩ := hv
  have hts := atoms_spec (ws := Cond.code N.1 N.2.1 (mL N) (mR N) :: gW) B.pre
  have hcat' : ∀ v ∈ as.map (pv base b0), v.category = 1 := by
    intro v hv
    obtain ⟨w, h1, rfl⟩ := List.mem_map.mp hv
    rw [pv_cat]
    exact hcat w h1
  have hll : (lg_sl (as.map (pv base b0))).length ≤ mL N := by rw [lg_len _ hcat', List.length_map]; exact hlen
  have hl := lv_entry (as.map (pv base b0)) (n := mL N) hll
  rw [lg_entry_eq]
  have a1 := hle1.1
  have a2 := hle1.2
  dsimp only at a1 a2
  refine hF none y N 0 (as.map some) [] h (v, h') hN hrun p e _ s m _ below meth c _ base b0 D cI cQ s.heap s.heap h.1.length (hz h) _ [] 0 0
    ⟨B.exec, B.bytes, hml, findClass_of_methodNamed B.named, fun w hw => hts w (List.mem_cons_of_mem _ hw), hn, (name_of_methodNamed B.named B.method).1, Nat.le_refl _, Nat.le_refl _, hK, by omega, B.returns.symm, hsz, B.notSynchronized⟩
    (fun q hq => by cases hq) ?_ ⟨by omega, hP, va_S.rf, ⟨hl.1, hl.2.1, fun i w hi => ?_⟩, by omega, by omega⟩ (by show h'.1.length ≤ (h'.1.length - h.1.length) + h.1.length; omega) (by show hz h' ≤ (hz h' - hz h) + hz h; omega)
  · intro pc i LS H locs cells slots hd hi hlo hP1 hS1 hc hz1
    dsimp only at hc hz1
    obtain rfl : cells = h'.1.length - h.1.length := by omega
    obtain rfl : slots = hz h' - hz h := by omega
    have hq : ∀ t : State, t.heap = H → s.WarmedH t.vm → pQ base b0 D cI cQ v h' (as.map (pv base b0)).toArray s (.returned (v.map (pv base b0))) t := fun t ht hW => ⟨⟨rfl, by rw [ht]; exact hP1, by rw [ht]; exact hlo⟩, hS1.F ht⟩
    rcases hi with ⟨rfl, x, hx1, hx2⟩ | ⟨rfl, hx1, hx2⟩ | ⟨rfl, k, hx1, hx2⟩ | ⟨rfl, x, hx1, hx2⟩
    · dsimp only at hx1
      subst hx1
      rcases hx2 with hx2 | ⟨hx2, hx3⟩
      · exact W.iret (v := x) B.exec B.bytes (B.returns.trans hx2) hq hS1.2.2 hd B.notSynchronized
      · exact W.zret (v := x) (ty := .boolean) B.exec B.bytes (B.returns.trans hx2) (by rcases hx3 with rfl | rfl <;> decide) hq hS1.2.2 hd B.notSynchronized
    · dsimp only at hx1
      subst hx1
      exact W.vret B.exec B.bytes (B.returns.trans hx2) hq hS1.2.2 hd B.notSynchronized
    · dsimp only at hx1
      subst hx1
      have h9 : ∃ rt, mR N = some rt ∧ ((∃ n, rt = .object n) ∨ ∃ t, rt = .array t) := by
        revert hx2
        generalize mR N = o
        intro hx2
        cases o with
        | none => cases hx2
        | some rt => cases rt <;> first | exact ⟨_, rfl, Or.inl ⟨_, rfl⟩⟩ | exact ⟨_, rfl, Or.inr ⟨_, rfl⟩⟩ | (exact absurd hx2 (by simp [rkOf]))
      obtain ⟨rt, g1, g2⟩ := h9
      exact W.aret (v := .ref (base + k)) B.exec B.bytes (B.returns.trans g1) g2 (Or.inr ⟨_, rfl⟩) hq hS1.2.2 hd B.notSynchronized
    · dsimp only at hx1
      subst hx1
      exact W.dret (v := x) B.exec B.bytes (B.returns.trans hx2) hq hS1.2.2 hd B.notSynchronized
  · rw [List.getElem?_map] at hi
    cases hz1 : as[i]? with
    | none => rw [hz1] at hi; cases hi
    | some w1 =>
      rw [hz1] at hi
      obtain rfl : w1 = w := by simpa using hi
      have h8 := lv_args_at (as.map (pv base b0)) 0 hcat' i (pv base b0 w1) (by rw [List.getElem?_map, hz1]; rfl)
      rw [Nat.zero_add] at h8
      exact hl.2.2 (i, pv base b0 w1) h8
/-- THE MACHINE DOES WHAT THE PURE ONE DOES: every run that ends, of a frame and of a call -/
theorem fr_all (hMs : ∀ (mi : Nat) (M : pM), Ms[mi]? = some M → okM Ms M) : ∀ n, pFR Ms l n
  | 0 => fun _ _ _ _ _ _ _ _ _ h => by cases h
  | n + 1 => fr_step hMs (fr_all hMs n) (ch_of hMs (fr_all hMs n))
end Sound5
end
section
/-! the methods as rows of the pure machine, callees first -/
/-- yX5_init -/
def T_0 : List pE := [(0, 1, 0, 0, 0, 0, []), (1, 3, 42, 0, 0, 0, [1, 0, 0, 86, 73, 74]), (4, 1, 0, 0, 0, 0, []), (5, 1, 1, 1, 0, 0, []), (6, 3, 14, 13, 5, 0, []), (9, 1, 1, 1, 0, 0, []), (10, 3, 5, 14, 0, 0, []), (13, 1, 4, 0, 0, 0, []), (14, 2, 22, 0, 0, 0, [0, 0, 0, 91]), (16, 3, 17, 4, 0, 0, [7, 0, 2, 87]), (19, 1, 19, 0, 0, 0, [])]
def K_0 : pC := []
/-- yX7_init -/
def T_1 : List pE := [(0, 1, 0, 0, 0, 0, []), (1, 3, 42, 0, 0, 0, [3, 0, 0, 80, 73, 74]), (4, 1, 0, 0, 0, 0, []), (5, 3, 21, 4, 0, 0, [9, 0, 0, 81, 82, 56]), (8, 1, 20, 0, 0, 0, []), (9, 2, 4, 0, 1, 6, []), (11, 3, 8, 0, 2, 0, [11, 0, 0, 83, 85, 56, 84]), (14, 3, 17, 6, 2, 0, [14, 0, 2, 100]), (17, 1, 0, 0, 0, 0, []), (18, 3, 21, 4, 0, 0, [9, 0, 0, 81, 82, 56]), (21, 1, 20, 0, 0, 0, []), (22, 2, 4, 0, 1, 6, []), (24, 3, 8, 0, 2, 0, [11, 0, 0, 83, 85, 56, 84]), (27, 3, 17, 6, 3, 0, [20, 0, 2, 102]), (30, 1, 19, 0, 0, 0, [])]
def K_1 : pC := []
/-- yX1_init -/
def T_2 : List pE := [(0, 1, 0, 0, 0, 0, []), (1, 3, 42, 0, 0, 0, [3, 0, 0, 149, 73, 74]), (4, 1, 0, 0, 0, 0, []), (5, 1, 4, 0, 0, 4, []), (6, 3, 41, 0, 0, 0, [9, 0, 0, 150, 151]), (9, 3, 17, 1, 0, 0, [11, 0, 2, 153]), (12, 1, 4, 0, 0, 0, []), (13, 1, 10, 1, 0, 0, []), (14, 1, 1, 1, 0, 0, []), (15, 1, 0, 0, 0, 0, []), (16, 3, 3, 1, 0, 0, [11, 0, 0, 153]), (19, 1, 26, 0, 0, 0, []), (20, 3, 13, 42, 3, 0, []), (23, 1, 0, 0, 0, 0, []), (24, 3, 3, 1, 0, 0, [11, 0, 0, 153]), (27, 1, 1, 1, 0, 0, []), (28, 3, 21, 6, 0, 0, [9, 0, 0, 150, 76, 55]), (31, 1, 20, 0, 0, 0, []), (32, 3, 8, 1, 1, 0, [17, 0, 0, 152, 79, 55, 78]), (35, 1, 33, 0, 0, 0, []), (36, 3, 15, 1, 0, 1, []), (39, 3, 5, 14, 0, 0, []), (42, 1, 19, 0, 0, 0, [])]
def K_2 : pC := [(14, [true, true])]
/-- yX2_init -/
def T_3 : List pE := [(0, 1, 0, 0, 0, 0, []), (1, 3, 42, 0, 0, 0, [3, 0, 0, 166, 73, 74]), (4, 1, 0, 0, 0, 0, []), (5, 3, 21, 4, 0, 0, [9, 0, 0, 167, 82, 56]), (8, 1, 20, 0, 0, 0, []), (9, 2, 4, 0, 1, 60, []), (11, 3, 8, 0, 2, 0, [11, 0, 0, 168, 85, 56, 84]), (14, 3, 17, 2, 0, 0, [14, 0, 2, 169]), (17, 1, 19, 0, 0, 0, [])]
def K_3 : pC := []
/-- yX0_init -/
def T_4 : List pE := [(0, 1, 0, 0, 0, 0, []), (1, 3, 42, 0, 0, 0, [3, 0, 0, 182, 73, 74]), (4, 1, 0, 0, 0, 0, []), (5, 3, 21, 4, 0, 0, [9, 0, 0, 183, 82, 56]), (8, 1, 20, 0, 0, 0, []), (9, 3, 4, 0, 2, 3620, []), (12, 3, 8, 0, 2, 0, [11, 0, 0, 184, 85, 56, 84]), (15, 3, 17, 0, 0, 0, [14, 0, 2, 186]), (18, 1, 0, 0, 0, 0, []), (19, 3, 21, 4, 0, 0, [9, 0, 0, 183, 82, 56]), (22, 1, 20, 0, 0, 0, []), (23, 2, 4, 20, 3, 68780, [0, 0, 0, 185]), (25, 3, 8, 0, 2, 0, [11, 0, 0, 184, 85, 56, 84]), (28, 3, 17, 0, 1, 0, [21, 0, 2, 188]), (31, 1, 0, 0, 0, 0, []), (32, 3, 21, 4, 0, 0, [9, 0, 0, 183, 82, 56]), (35, 1, 20, 0, 0, 0, []), (36, 2, 4, 20, 3, 68780, [0, 0, 0, 185]), (38, 3, 8, 0, 2, 0, [11, 0, 0, 184, 85, 56, 84]), (41, 3, 17, 0, 2, 0, [24, 0, 2, 189]), (44, 1, 0, 0, 0, 0, []), (45, 3, 21, 4, 0, 0, [9, 0, 0, 183, 82, 56]), (48, 1, 20, 0, 0, 0, []), (49, 3, 4, 0, 2, 3620, []), (52, 3, 8, 0, 2, 0, [11, 0, 0, 184, 85, 56, 84]), (55, 3, 17, 0, 3, 0, [27, 0, 2, 191]), (58, 1, 0, 0, 0, 0, []), (59, 3, 21, 4, 0, 0, [9, 0, 0, 183, 82, 56]), (62, 1, 20, 0, 0, 0, []), (63, 3, 4, 0, 2, 3620, []), (66, 3, 8, 0, 2, 0, [11, 0, 0, 184, 85, 56, 84]), (69, 3, 17, 0, 4, 0, [30, 0, 2, 193]), (72, 1, 19, 0, 0, 0, [])]
def K_4 : pC := []
/-- yX6_init -/
def T_5 : List pE := [(0, 1, 0, 0, 0, 0, []), (1, 3, 42, 0, 0, 0, [3, 0, 0, 214, 73, 74]), (4, 1, 0, 0, 0, 0, []), (5, 1, 0, 1, 0, 0, []), (6, 3, 17, 5, 0, 0, [9, 0, 2, 217]), (9, 1, 0, 0, 0, 0, []), (10, 3, 21, 4, 0, 0, [15, 0, 0, 215, 82, 56]), (13, 1, 20, 0, 0, 0, []), (14, 3, 4, 0, 2, 3620, []), (17, 3, 8, 0, 2, 0, [17, 0, 0, 216, 85, 56, 84]), (20, 3, 17, 5, 1, 0, [20, 0, 2, 218]), (23, 1, 0, 0, 0, 0, []), (24, 3, 21, 4, 0, 0, [15, 0, 0, 215, 82, 56]), (27, 1, 20, 0, 0, 0, []), (28, 3, 4, 0, 2, 3620, []), (31, 3, 8, 0, 2, 0, [17, 0, 0, 216, 85, 56, 84]), (34, 3, 17, 5, 2, 0, [24, 0, 2, 219]), (37, 1, 0, 0, 0, 0, []), (38, 3, 21, 4, 0, 0, [15, 0, 0, 215, 82, 56]), (41, 1, 20, 0, 0, 0, []), (42, 3, 4, 0, 2, 3620, []), (45, 3, 8, 0, 2, 0, [17, 0, 0, 216, 85, 56, 84]), (48, 3, 17, 5, 3, 0, [27, 0, 2, 220]), (51, 1, 0, 0, 0, 0, []), (52, 1, 4, 0, 0, (-1), []), (53, 3, 16, 5, 4, 0, [30, 0, 0, 221]), (56, 1, 0, 0, 0, 0, []), (57, 1, 4, 0, 0, (-1), []), (58, 3, 16, 5, 5, 0, [34, 0, 0, 222]), (61, 1, 0, 0, 0, 0, []), (62, 1, 4, 0, 0, (-1), []), (63, 3, 16, 5, 6, 0, [37, 0, 0, 223]), (66, 1, 0, 0, 0, 0, []), (67, 3, 21, 4, 0, 0, [15, 0, 0, 215, 82, 56]), (70, 1, 20, 0, 0, 0, []), (71, 3, 4, 0, 2, 3620, []), (74, 3, 8, 0, 2, 0, [17, 0, 0, 216, 85, 56, 84]), (77, 3, 17, 5, 7, 0, [40, 0, 2, 224]), (80, 1, 0, 0, 0, 0, []), (81, 3, 21, 4, 0, 0, [15, 0, 0, 215, 82, 56]), (84, 1, 20, 0, 0, 0, []), (85, 3, 4, 0, 2, 3620, []), (88, 3, 8, 0, 2, 0, [17, 0, 0, 216, 85, 56, 84]), (91, 3, 17, 5, 8, 0, [43, 0, 2, 225]), (94, 1, 19, 0, 0, 0, [])]
def K_5 : pC := []
/-- yX4_init -/
def T_6 : List pE := [(0, 1, 0, 0, 0, 0, []), (1, 3, 42, 0, 0, 0, [3, 0, 0, 250, 73, 74]), (4, 1, 0, 0, 0, 0, []), (5, 3, 21, 4, 0, 0, [9, 0, 0, 251, 82, 56]), (8, 1, 20, 0, 0, 0, []), (9, 3, 4, 0, 2, 2520, []), (12, 3, 8, 0, 2, 0, [11, 0, 0, 252, 85, 56, 84]), (15, 3, 17, 3, 0, 0, [14, 0, 2, 253]), (18, 1, 0, 0, 0, 0, []), (19, 3, 21, 4, 0, 0, [9, 0, 0, 251, 82, 56]), (22, 1, 20, 0, 0, 0, []), (23, 3, 4, 0, 2, 2520, []), (26, 3, 8, 0, 2, 0, [11, 0, 0, 252, 85, 56, 84]), (29, 3, 17, 3, 1, 0, [20, 0, 2, 254]), (32, 1, 19, 0, 0, 0, [])]
def K_6 : pC := []
/-- yX9_init -/
def T_7 : List pE := [(0, 1, 0, 0, 0, 0, []), (1, 3, 42, 0, 0, 0, [1, 0, 0, 72, 73, 74]), (4, 1, 0, 0, 0, 0, []), (5, 3, 21, 6, 0, 0, [7, 0, 0, 75, 76, 55]), (8, 1, 20, 0, 0, 0, []), (9, 3, 8, 1, 1, 0, [9, 0, 0, 77, 79, 55, 78]), (12, 3, 17, 7, 0, 0, [10, 0, 2, 282]), (15, 1, 0, 0, 0, 0, []), (16, 3, 21, 6, 0, 0, [7, 0, 0, 75, 76, 55]), (19, 1, 20, 0, 0, 0, []), (20, 3, 8, 1, 1, 0, [9, 0, 0, 77, 79, 55, 78]), (23, 3, 17, 7, 1, 0, [16, 0, 2, 283]), (26, 1, 0, 0, 0, 0, []), (27, 1, 4, 0, 0, 0, []), (28, 3, 16, 7, 2, 0, [19, 0, 1, 284]), (31, 1, 0, 0, 0, 0, []), (32, 3, 21, 1, 0, 0, [23, 0, 0, 144, 145, 57]), (35, 1, 20, 0, 0, 0, []), (36, 3, 8, 2, 1, 0, [25, 0, 0, 146, 148, 57, 147]), (39, 3, 17, 7, 3, 0, [26, 0, 2, 285]), (42, 1, 0, 0, 0, 0, []), (43, 3, 21, 2, 0, 0, [30, 0, 0, 161, 162, 58]), (46, 1, 20, 0, 0, 0, []), (47, 3, 8, 3, 1, 0, [32, 0, 0, 163, 165, 58, 164]), (50, 3, 17, 7, 4, 0, [33, 0, 2, 286]), (53, 1, 0, 0, 0, 0, []), (54, 3, 21, 0, 0, 0, [37, 0, 0, 177, 178, 59]), (57, 1, 20, 0, 0, 0, []), (58, 3, 8, 4, 1, 0, [39, 0, 0, 179, 181, 59, 180]), (61, 3, 17, 7, 5, 0, [40, 0, 2, 287]), (64, 1, 0, 0, 0, 0, []), (65, 3, 21, 5, 0, 0, [44, 0, 0, 209, 210, 60]), (68, 1, 20, 0, 0, 0, []), (69, 1, 0, 0, 0, 0, []), (70, 3, 3, 7, 5, 0, [40, 0, 0, 287]), (73, 3, 8, 5, 2, 0, [46, 0, 0, 211, 213, 60, 212]), (76, 3, 17, 7, 6, 0, [49, 0, 2, 288]), (79, 1, 0, 0, 0, 0, []), (80, 3, 21, 3, 0, 0, [53, 0, 0, 245, 246, 61]), (83, 1, 20, 0, 0, 0, []), (84, 3, 8, 6, 1, 0, [55, 0, 0, 247, 249, 61, 248]), (87, 3, 17, 7, 7, 0, [56, 0, 2, 289]), (90, 1, 19, 0, 0, 0, [])]
def K_7 : pC := []
/-- yX10_init -/
def T_8 : List pE := [(0, 1, 0, 0, 0, 0, []), (1, 3, 42, 0, 0, 0, [1, 0, 0, 761, 73, 74]), (4, 1, 0, 0, 0, 0, []), (5, 2, 4, 0, 1, 26, []), (7, 2, 22, 0, 0, 0, [0, 0, 0, 91]), (9, 3, 17, 8, 0, 0, [7, 0, 2, 763]), (12, 1, 0, 0, 0, 0, []), (13, 2, 4, 0, 1, 104, []), (15, 2, 22, 0, 0, 0, [0, 0, 0, 91]), (17, 3, 17, 8, 1, 0, [13, 0, 2, 764]), (20, 1, 0, 0, 0, 0, []), (21, 2, 4, 0, 1, 26, []), (23, 2, 22, 0, 0, 0, [0, 0, 0, 91]), (25, 3, 17, 8, 3, 0, [16, 0, 2, 766]), (28, 1, 0, 0, 0, 0, []), (29, 2, 4, 0, 1, 60, []), (31, 2, 22, 0, 0, 0, [0, 0, 0, 91]), (33, 3, 17, 8, 5, 0, [19, 0, 2, 768]), (36, 1, 0, 0, 0, 0, []), (37, 1, 4, 0, 0, 5, []), (38, 2, 22, 0, 0, 0, [0, 0, 0, 91]), (40, 3, 17, 8, 7, 0, [22, 0, 2, 770]), (43, 1, 0, 0, 0, 0, []), (44, 1, 4, 0, 0, 5, []), (45, 2, 22, 0, 0, 0, [0, 0, 0, 91]), (47, 3, 17, 8, 8, 0, [25, 0, 2, 771]), (50, 1, 0, 0, 0, 0, []), (51, 1, 4, 0, 0, 5, []), (52, 2, 22, 0, 0, 0, [0, 0, 0, 91]), (54, 3, 17, 8, 9, 0, [28, 0, 2, 772]), (57, 1, 0, 0, 0, 0, []), (58, 2, 4, 0, 1, 7, []), (60, 2, 22, 0, 0, 0, [0, 0, 0, 91]), (62, 3, 17, 8, 11, 0, [31, 0, 2, 774]), (65, 1, 0, 0, 0, 0, []), (66, 2, 4, 0, 1, 7, []), (68, 2, 22, 0, 0, 0, [0, 0, 0, 91]), (70, 3, 17, 8, 12, 0, [34, 0, 2, 775]), (73, 1, 0, 0, 0, 0, []), (74, 2, 4, 37, 3, 47880, [0, 0, 0, 762]), (76, 2, 22, 0, 0, 0, [0, 0, 0, 91]), (78, 3, 17, 8, 14, 0, [38, 0, 2, 777]), (81, 1, 0, 0, 0, 0, []), (82, 2, 4, 37, 3, 47880, [0, 0, 0, 762]), (84, 2, 22, 0, 0, 0, [0, 0, 0, 91]), (86, 3, 17, 8, 15, 0, [41, 0, 2, 778]), (89, 1, 0, 0, 0, 0, []), (90, 3, 4, 0, 2, 2520, []), (93, 2, 22, 0, 0, 0, [0, 0, 0, 91]), (95, 3, 17, 8, 16, 0, [44, 0, 2, 779]), (98, 1, 0, 0, 0, 0, []), (99, 3, 4, 0, 2, 2520, []), (102, 2, 22, 0, 0, 0, [0, 0, 0, 91]), (104, 3, 17, 8, 17, 0, [47, 0, 2, 780]), (107, 1, 0, 0, 0, 0, []), (108, 3, 4, 0, 2, 2520, []), (111, 2, 22, 0, 0, 0, [0, 0, 0, 91]), (113, 3, 17, 8, 18, 0, [50, 0, 2, 781]), (116, 1, 0, 0, 0, 0, []), (117, 1, 4, 0, 0, 0, []), (118, 3, 16, 8, 2, 0, [53, 0, 0, 765]), (121, 1, 19, 0, 0, 0, [])]
def K_8 : pC := []
/-- yX9_isBelow -/
def T_9 : List pE := [(0, 1, 1, 0, 0, 0, []), (1, 3, 14, 13, 2, 0, []), (4, 1, 1, 0, 0, 0, []), (5, 1, 1, 1, 0, 0, []), (6, 3, 13, 13, 3, 0, []), (9, 1, 4, 0, 0, 1, []), (10, 3, 5, 14, 0, 0, []), (13, 1, 4, 0, 0, 0, []), (14, 1, 9, 0, 1, 0, [])]
def K_9 : pC := []
/-- yX5_get -/
def T_10 : List pE := [(0, 1, 1, 1, 0, 0, []), (1, 3, 14, 22, 2, 0, []), (4, 1, 1, 1, 0, 0, []), (5, 1, 0, 0, 0, 0, []), (6, 3, 3, 4, 0, 0, [7, 0, 0, 87]), (9, 1, 26, 0, 0, 0, []), (10, 3, 13, 22, 3, 0, []), (13, 1, 0, 0, 0, 0, []), (14, 3, 3, 4, 0, 0, [7, 0, 0, 87]), (17, 1, 1, 1, 0, 0, []), (18, 1, 12, 0, 0, 0, []), (19, 3, 5, 23, 0, 0, []), (22, 1, 4, 0, 0, 0, []), (23, 1, 9, 0, 0, 0, [])]
def K_10 : pC := []
/-- yX7_slotOf -/
def T_11 : List pE := [(0, 1, 4, 0, 0, 1, []), (1, 1, 10, 2, 0, 0, []), (2, 1, 1, 2, 0, 0, []), (3, 1, 0, 0, 0, 0, []), (4, 3, 2, 6, 1, 0, [27, 0, 0, 96]), (7, 3, 13, 30, 4, 0, []), (10, 1, 0, 0, 0, 0, []), (11, 3, 3, 6, 2, 0, [14, 0, 0, 100]), (14, 1, 1, 2, 0, 0, []), (15, 3, 6, 10, 2, 0, [52, 1, 4, 318, 321, 56, 319, 320]), (18, 1, 1, 1, 0, 0, []), (19, 3, 13, 24, 1, 0, []), (22, 1, 1, 2, 0, 0, []), (23, 1, 9, 0, 0, 0, []), (24, 3, 15, 2, 0, 1, []), (27, 3, 5, 2, 0, 0, []), (30, 1, 4, 0, 0, 0, []), (31, 1, 9, 0, 0, 0, [])]
def K_11 : pC := [(2, [true, true, true])]
/-- yX8_slotAt -/
def T_12 : List pE := [(0, 1, 1, 0, 0, 0, []), (1, 1, 4, 0, 0, 3, []), (2, 1, 1, 1, 0, 0, []), (3, 1, 11, 0, 2, 0, []), (4, 1, 11, 0, 8, 0, []), (5, 2, 4, 0, 1, 7, []), (7, 1, 11, 0, 3, 0, []), (8, 1, 9, 0, 0, 0, [])]
def K_12 : pC := []
/-- yX1_dropOldest -/
def T_13 : List pE := [(0, 1, 4, 0, 0, 1, []), (1, 1, 10, 1, 0, 0, []), (2, 1, 1, 1, 0, 0, []), (3, 1, 0, 0, 0, 0, []), (4, 3, 3, 1, 0, 0, [11, 0, 0, 153]), (7, 1, 26, 0, 0, 0, []), (8, 3, 13, 47, 3, 0, []), (11, 1, 0, 0, 0, 0, []), (12, 3, 3, 1, 0, 0, [11, 0, 0, 153]), (15, 1, 1, 1, 0, 0, []), (16, 1, 4, 0, 0, 1, []), (17, 1, 11, 0, 1, 0, []), (18, 1, 28, 0, 0, 0, []), (19, 1, 23, 2, 0, 0, []), (20, 1, 0, 0, 0, 0, []), (21, 3, 3, 1, 0, 0, [11, 0, 0, 153]), (24, 1, 1, 1, 0, 0, []), (25, 1, 4, 0, 0, 1, []), (26, 1, 11, 0, 1, 0, []), (27, 1, 0, 0, 0, 0, []), (28, 3, 3, 1, 0, 0, [11, 0, 0, 153]), (31, 1, 1, 1, 0, 0, []), (32, 1, 28, 0, 0, 0, []), (33, 1, 33, 0, 0, 0, []), (34, 1, 0, 0, 0, 0, []), (35, 3, 3, 1, 0, 0, [11, 0, 0, 153]), (38, 1, 1, 1, 0, 0, []), (39, 1, 0, 2, 0, 0, []), (40, 1, 33, 0, 0, 0, []), (41, 3, 15, 1, 0, 1, []), (44, 3, 5, 2, 0, 0, []), (47, 1, 0, 0, 0, 0, []), (48, 1, 20, 0, 0, 0, []), (49, 3, 2, 1, 1, 0, [18, 0, 0, 154]), (52, 1, 4, 0, 0, 1, []), (53, 1, 11, 0, 1, 0, []), (54, 3, 16, 1, 1, 0, [18, 0, 0, 154]), (57, 1, 19, 0, 0, 0, [])]
def K_13 : pC := [(2, [true, true])]
/-- yX5_become -/
def T_14 : List pE := [(0, 1, 4, 0, 0, 0, []), (1, 1, 10, 2, 0, 0, []), (2, 1, 1, 2, 0, 0, []), (3, 1, 0, 0, 0, 0, []), (4, 3, 3, 4, 0, 0, [7, 0, 0, 87]), (7, 1, 26, 0, 0, 0, []), (8, 3, 13, 28, 3, 0, []), (11, 1, 0, 0, 0, 0, []), (12, 3, 3, 4, 0, 0, [7, 0, 0, 87]), (15, 1, 1, 2, 0, 0, []), (16, 1, 0, 1, 0, 0, []), (17, 1, 1, 2, 0, 0, []), (18, 3, 6, 10, 2, 0, [13, 1, 4, 341, 321, 56, 319, 320]), (21, 1, 18, 0, 0, 0, []), (22, 3, 15, 2, 0, 1, []), (25, 3, 5, 2, 0, 0, []), (28, 1, 19, 0, 0, 0, [])]
def K_14 : pC := [(2, [true, true, true])]
/-- yX7_become -/
def T_15 : List pE := [(0, 1, 0, 0, 0, 0, []), (1, 1, 0, 1, 0, 0, []), (2, 3, 2, 6, 0, 0, [23, 0, 0, 92]), (5, 3, 16, 6, 0, 0, [23, 0, 0, 92]), (8, 1, 0, 0, 0, 0, []), (9, 1, 0, 1, 0, 0, []), (10, 3, 2, 6, 1, 0, [27, 0, 0, 96]), (13, 3, 16, 6, 1, 0, [27, 0, 0, 96]), (16, 1, 0, 0, 0, 0, []), (17, 3, 3, 6, 2, 0, [14, 0, 0, 100]), (20, 1, 0, 1, 0, 0, []), (21, 3, 3, 6, 2, 0, [14, 0, 0, 100]), (24, 3, 6, 14, 2, 0, [30, 0, 4, 337, 340, 56, 338, 339]), (27, 1, 0, 0, 0, 0, []), (28, 3, 3, 6, 3, 0, [20, 0, 0, 102]), (31, 1, 0, 1, 0, 0, []), (32, 3, 3, 6, 3, 0, [20, 0, 0, 102]), (35, 3, 6, 14, 2, 0, [30, 0, 4, 337, 340, 56, 338, 339]), (38, 1, 0, 0, 0, 0, []), (39, 1, 0, 1, 0, 0, []), (40, 3, 2, 6, 4, 0, [34, 0, 0, 106]), (43, 3, 16, 6, 4, 0, [34, 0, 0, 106]), (46, 1, 0, 0, 0, 0, []), (47, 1, 0, 1, 0, 0, []), (48, 3, 2, 6, 5, 0, [37, 0, 0, 110]), (51, 3, 16, 6, 5, 0, [37, 0, 0, 110]), (54, 1, 0, 0, 0, 0, []), (55, 1, 0, 1, 0, 0, []), (56, 3, 2, 6, 6, 0, [40, 0, 0, 114]), (59, 3, 16, 6, 6, 0, [40, 0, 0, 114]), (62, 1, 0, 0, 0, 0, []), (63, 1, 0, 1, 0, 0, []), (64, 3, 2, 6, 7, 0, [43, 0, 0, 117]), (67, 3, 16, 6, 7, 0, [43, 0, 0, 117]), (70, 1, 0, 0, 0, 0, []), (71, 1, 0, 1, 0, 0, []), (72, 3, 2, 6, 8, 0, [46, 0, 0, 119]), (75, 3, 16, 6, 8, 0, [46, 0, 0, 119]), (78, 1, 0, 0, 0, 0, []), (79, 1, 0, 1, 0, 0, []), (80, 3, 2, 6, 9, 0, [49, 0, 0, 121]), (83, 3, 16, 6, 9, 0, [49, 0, 0, 121]), (86, 1, 19, 0, 0, 0, [])]
def K_15 : pC := []
/-- yX1_keep -/
def T_16 : List pE := [(0, 1, 0, 0, 0, 0, []), (1, 3, 2, 1, 1, 0, [18, 0, 0, 154]), (4, 1, 0, 0, 0, 0, []), (5, 3, 3, 1, 0, 0, [11, 0, 0, 153]), (8, 1, 26, 0, 0, 0, []), (9, 3, 13, 16, 2, 0, []), (12, 1, 0, 0, 0, 0, []), (13, 3, 6, 13, 1, 0, [22, 0, 1, 329, 332, 57, 331, 0]), (16, 1, 0, 0, 0, 0, []), (17, 3, 2, 1, 1, 0, [18, 0, 0, 154]), (20, 3, 14, 70, 2, 0, []), (23, 1, 0, 0, 0, 0, []), (24, 3, 2, 1, 1, 0, [18, 0, 0, 154]), (27, 1, 0, 0, 0, 0, []), (28, 3, 3, 1, 0, 0, [11, 0, 0, 153]), (31, 1, 26, 0, 0, 0, []), (32, 3, 13, 70, 3, 0, []), (35, 1, 0, 0, 0, 0, []), (36, 3, 3, 1, 0, 0, [11, 0, 0, 153]), (39, 1, 0, 0, 0, 0, []), (40, 3, 2, 1, 1, 0, [18, 0, 0, 154]), (43, 1, 28, 0, 0, 0, []), (44, 3, 34, 70, 0, 0, []), (47, 1, 0, 0, 0, 0, []), (48, 3, 3, 1, 0, 0, [11, 0, 0, 153]), (51, 1, 0, 0, 0, 0, []), (52, 3, 2, 1, 1, 0, [18, 0, 0, 154]), (55, 1, 28, 0, 0, 0, []), (56, 1, 0, 1, 0, 0, []), (57, 3, 6, 15, 2, 0, [25, 0, 6, 333, 336, 55, 334, 335]), (60, 1, 0, 0, 0, 0, []), (61, 1, 20, 0, 0, 0, []), (62, 3, 2, 1, 1, 0, [18, 0, 0, 154]), (65, 1, 4, 0, 0, 1, []), (66, 1, 11, 0, 0, 0, []), (67, 3, 16, 1, 1, 0, [18, 0, 0, 154]), (70, 1, 19, 0, 0, 0, [])]
def K_16 : pC := [(16, [true, true])]
/-- yX5_put -/
def T_17 : List pE := [(0, 1, 1, 1, 0, 0, []), (1, 3, 14, 20, 2, 0, []), (4, 1, 1, 1, 0, 0, []), (5, 1, 0, 0, 0, 0, []), (6, 3, 3, 4, 0, 0, [7, 0, 0, 87]), (9, 1, 26, 0, 0, 0, []), (10, 3, 13, 20, 3, 0, []), (13, 1, 0, 0, 0, 0, []), (14, 3, 3, 4, 0, 0, [7, 0, 0, 87]), (17, 1, 1, 1, 0, 0, []), (18, 1, 1, 2, 0, 0, []), (19, 1, 18, 0, 0, 0, []), (20, 1, 19, 0, 0, 0, [])]
def K_17 : pC := []
/-- yX8_withSlot -/
def T_18 : List pE := [(0, 1, 1, 0, 0, 0, []), (1, 2, 4, 0, 1, 7, []), (3, 1, 4, 0, 0, 3, []), (4, 1, 1, 1, 0, 0, []), (5, 1, 11, 0, 2, 0, []), (6, 1, 11, 0, 6, 0, []), (7, 1, 4, 0, 0, (-1), []), (8, 1, 11, 0, 5, 0, []), (9, 1, 11, 0, 3, 0, []), (10, 1, 1, 2, 0, 0, []), (11, 1, 4, 0, 0, 3, []), (12, 1, 1, 1, 0, 0, []), (13, 1, 11, 0, 2, 0, []), (14, 1, 11, 0, 6, 0, []), (15, 1, 11, 0, 4, 0, []), (16, 1, 9, 0, 0, 0, [])]
def K_18 : pC := []
/-- yX7_renumber -/
def T_19 : List pE := [(0, 1, 4, 0, 0, 0, []), (1, 1, 10, 3, 0, 0, []), (2, 1, 1, 3, 0, 0, []), (3, 2, 4, 0, 1, 7, []), (5, 3, 13, 46, 3, 0, []), (8, 1, 0, 0, 0, 0, []), (9, 3, 2, 6, 0, 0, [23, 0, 0, 92]), (12, 1, 1, 3, 0, 0, []), (13, 3, 7, 12, 2, 0, [69, 1, 0, 354, 324, 63, 323]), (16, 2, 10, 4, 0, 0, []), (18, 2, 1, 4, 0, 0, []), (20, 1, 1, 1, 0, 0, []), (21, 3, 13, 40, 2, 0, []), (24, 1, 0, 0, 0, 0, []), (25, 1, 0, 0, 0, 0, []), (26, 3, 2, 6, 0, 0, [23, 0, 0, 92]), (29, 1, 1, 3, 0, 0, []), (30, 2, 1, 4, 0, 0, []), (32, 1, 1, 2, 0, 0, []), (33, 1, 11, 0, 0, 0, []), (34, 3, 7, 18, 3, 0, [63, 1, 0, 355, 357, 63, 356]), (37, 3, 16, 6, 0, 0, [23, 0, 0, 92]), (40, 3, 15, 3, 0, 1, []), (43, 3, 5, 2, 0, 0, []), (46, 1, 19, 0, 0, 0, [])]
def K_19 : pC := [(2, [true, true, true, true])]
/-- yX7_insert -/
def T_20 : List pE := [(0, 1, 4, 0, 0, 1, []), (1, 2, 10, 4, 0, 0, []), (3, 1, 4, 0, 0, 1, []), (4, 2, 10, 5, 0, 0, []), (6, 2, 1, 5, 0, 0, []), (8, 1, 0, 0, 0, 0, []), (9, 3, 2, 6, 1, 0, [27, 0, 0, 96]), (12, 3, 13, 37, 4, 0, []), (15, 1, 0, 0, 0, 0, []), (16, 3, 3, 6, 2, 0, [14, 0, 0, 100]), (19, 2, 1, 5, 0, 0, []), (21, 3, 6, 10, 2, 0, [52, 1, 4, 318, 321, 56, 319, 320]), (24, 1, 1, 1, 0, 0, []), (25, 3, 13, 31, 3, 0, []), (28, 3, 15, 4, 0, 1, []), (31, 3, 15, 5, 0, 1, []), (34, 3, 5, 6, 0, 0, []), (37, 1, 0, 0, 0, 0, []), (38, 3, 2, 6, 1, 0, [27, 0, 0, 96]), (41, 2, 10, 5, 0, 0, []), (43, 2, 1, 5, 0, 0, []), (45, 2, 1, 4, 0, 0, []), (47, 3, 13, 96, 2, 0, []), (50, 1, 0, 0, 0, 0, []), (51, 3, 3, 6, 2, 0, [14, 0, 0, 100]), (54, 2, 1, 5, 0, 0, []), (56, 1, 4, 0, 0, 1, []), (57, 1, 11, 0, 0, 0, []), (58, 1, 0, 0, 0, 0, []), (59, 3, 3, 6, 2, 0, [14, 0, 0, 100]), (62, 2, 1, 5, 0, 0, []), (64, 3, 6, 10, 2, 0, [52, 1, 4, 318, 321, 56, 319, 320]), (67, 3, 6, 17, 3, 0, [56, 0, 4, 346, 349, 56, 347, 348]), (70, 1, 0, 0, 0, 0, []), (71, 3, 3, 6, 3, 0, [20, 0, 0, 102]), (74, 2, 1, 5, 0, 0, []), (76, 1, 4, 0, 0, 1, []), (77, 1, 11, 0, 0, 0, []), (78, 1, 0, 0, 0, 0, []), (79, 3, 3, 6, 3, 0, [20, 0, 0, 102]), (82, 2, 1, 5, 0, 0, []), (84, 3, 6, 10, 2, 0, [52, 1, 4, 318, 321, 56, 319, 320]), (87, 3, 6, 17, 3, 0, [56, 0, 4, 346, 349, 56, 347, 348]), (90, 3, 15, 5, 0, (-1), []), (93, 3, 5, 43, 0, 0, []), (96, 1, 0, 0, 0, 0, []), (97, 3, 3, 6, 2, 0, [14, 0, 0, 100]), (100, 2, 1, 4, 0, 0, []), (102, 1, 1, 1, 0, 0, []), (103, 3, 6, 17, 3, 0, [56, 0, 4, 346, 349, 56, 347, 348]), (106, 1, 0, 0, 0, 0, []), (107, 3, 3, 6, 3, 0, [20, 0, 0, 102]), (110, 2, 1, 4, 0, 0, []), (112, 1, 1, 2, 0, 0, []), (113, 3, 6, 17, 3, 0, [56, 0, 4, 346, 349, 56, 347, 348]), (116, 1, 0, 0, 0, 0, []), (117, 2, 1, 4, 0, 0, []), (119, 1, 4, 0, 0, 1, []), (120, 3, 6, 19, 3, 0, [60, 0, 6, 350, 353, 55, 352, 1]), (123, 1, 0, 0, 0, 0, []), (124, 3, 2, 6, 4, 0, [34, 0, 0, 106]), (127, 1, 4, 0, 0, 1, []), (128, 2, 1, 4, 0, 0, []), (130, 1, 11, 0, 6, 0, []), (131, 1, 4, 0, 0, 1, []), (132, 1, 11, 0, 1, 0, []), (133, 1, 11, 0, 3, 0, []), (134, 2, 10, 5, 0, 0, []), (136, 1, 0, 0, 0, 0, []), (137, 1, 0, 0, 0, 0, []), (138, 3, 2, 6, 4, 0, [34, 0, 0, 106]), (141, 2, 1, 5, 0, 0, []), (143, 1, 11, 0, 1, 0, []), (144, 1, 4, 0, 0, 1, []), (145, 1, 11, 0, 6, 0, []), (146, 2, 1, 5, 0, 0, []), (148, 1, 11, 0, 4, 0, []), (149, 3, 16, 6, 4, 0, [34, 0, 0, 106]), (152, 1, 0, 0, 0, 0, []), (153, 1, 0, 0, 0, 0, []), (154, 3, 2, 6, 0, 0, [23, 0, 0, 92]), (157, 1, 1, 3, 0, 0, []), (158, 2, 1, 4, 0, 0, []), (160, 3, 7, 18, 3, 0, [63, 1, 0, 355, 357, 63, 356]), (163, 3, 16, 6, 0, 0, [23, 0, 0, 92]), (166, 1, 0, 0, 0, 0, []), (167, 1, 20, 0, 0, 0, []), (168, 3, 2, 6, 1, 0, [27, 0, 0, 96]), (171, 1, 4, 0, 0, 1, []), (172, 1, 11, 0, 0, 0, []), (173, 3, 16, 6, 1, 0, [27, 0, 0, 96]), (176, 1, 19, 0, 0, 0, [])]
def K_20 : pC := [(6, [true, true, true, true, true, true]), (43, [true, true, true, true, true, true])]
/-- yX9_add -/
def T_21 : List pE := [(0, 1, 1, 1, 0, 0, []), (1, 2, 4, 0, 1, 26, []), (3, 3, 7, 9, 2, 0, [60, 1, 0, 311, 313, 54, 312]), (6, 3, 14, 29, 0, 0, []), (9, 1, 1, 2, 0, 0, []), (10, 1, 4, 0, 0, 1, []), (11, 3, 13, 29, 2, 0, []), (14, 1, 1, 2, 0, 0, []), (15, 2, 4, 0, 1, 9, []), (17, 3, 13, 29, 4, 0, []), (20, 1, 1, 3, 0, 0, []), (21, 2, 4, 0, 1, 7, []), (23, 3, 7, 9, 2, 0, [60, 1, 0, 311, 313, 54, 312]), (26, 3, 14, 31, 1, 0, []), (29, 1, 4, 0, 0, (-1), []), (30, 1, 9, 0, 0, 0, []), (31, 1, 0, 0, 0, 0, []), (32, 3, 3, 7, 0, 0, [10, 0, 0, 282]), (35, 1, 1, 1, 0, 0, []), (36, 3, 6, 11, 2, 0, [64, 1, 6, 314, 317, 55, 315, 316]), (39, 3, 14, 56, 1, 0, []), (42, 1, 0, 0, 0, 0, []), (43, 3, 3, 7, 0, 0, [10, 0, 0, 282]), (46, 3, 2, 6, 0, 0, [68, 1, 0, 93]), (49, 1, 1, 3, 0, 0, []), (50, 3, 7, 12, 2, 0, [72, 1, 0, 322, 324, 63, 323]), (53, 3, 14, 59, 0, 0, []), (56, 2, 4, 0, 1, (-2), []), (58, 1, 9, 0, 0, 0, []), (59, 1, 0, 0, 0, 0, []), (60, 3, 3, 7, 0, 0, [10, 0, 0, 282]), (63, 3, 2, 6, 1, 0, [78, 1, 0, 98]), (66, 1, 4, 0, 0, 5, []), (67, 3, 13, 73, 2, 0, []), (70, 2, 4, 0, 1, (-3), []), (72, 1, 9, 0, 0, 0, []), (73, 1, 0, 0, 0, 0, []), (74, 3, 3, 7, 3, 0, [26, 0, 0, 285]), (77, 1, 0, 0, 0, 0, []), (78, 3, 3, 7, 0, 0, [10, 0, 0, 282]), (81, 3, 6, 16, 2, 0, [81, 0, 1, 325, 328, 57, 326, 327]), (84, 1, 0, 0, 0, 0, []), (85, 3, 3, 7, 0, 0, [10, 0, 0, 282]), (88, 1, 1, 1, 0, 0, []), (89, 1, 1, 2, 0, 0, []), (90, 1, 1, 3, 0, 0, []), (91, 3, 6, 20, 4, 0, [85, 0, 6, 342, 345, 55, 343, 344]), (94, 1, 0, 0, 0, 0, []), (95, 3, 3, 7, 0, 0, [10, 0, 0, 282]), (98, 3, 2, 6, 1, 0, [78, 1, 0, 98]), (101, 1, 9, 0, 0, 0, [])]
def K_21 : pC := []
/-- yX10_in -/
def T_22 : List pE := [(0, 1, 1, 0, 0, 0, []), (1, 1, 1, 1, 0, 0, []), (2, 3, 13, 14, 2, 0, []), (5, 1, 1, 0, 0, 0, []), (6, 1, 1, 2, 0, 0, []), (7, 3, 13, 14, 4, 0, []), (10, 1, 4, 0, 0, 1, []), (11, 3, 5, 15, 0, 0, []), (14, 1, 4, 0, 0, 0, []), (15, 1, 9, 0, 1, 0, [])]
def K_22 : pC := []
/-- yX10_isPlace -/
def T_23 : List pE := [(0, 1, 1, 0, 0, 0, []), (1, 1, 4, 0, 0, 0, []), (2, 2, 4, 0, 1, 6, []), (4, 3, 7, 22, 3, 0, [57, 1, 0, 825, 827, 62, 826]), (7, 1, 9, 0, 1, 0, [])]
def K_23 : pC := []
/-- yX10_place -/
def T_24 : List pE := [(0, 1, 4, 0, 0, 0, []), (1, 1, 10, 2, 0, 0, []), (2, 1, 1, 2, 0, 0, []), (3, 2, 4, 0, 1, 7, []), (5, 3, 13, 30, 3, 0, []), (8, 1, 0, 0, 0, 0, []), (9, 3, 3, 8, 0, 0, [7, 0, 0, 763]), (12, 1, 4, 0, 0, 0, []), (13, 1, 1, 2, 0, 0, []), (14, 1, 11, 0, 0, 0, []), (15, 1, 12, 0, 0, 0, []), (16, 1, 1, 1, 0, 0, []), (17, 1, 4, 0, 0, 1, []), (18, 1, 11, 0, 0, 0, []), (19, 3, 13, 24, 1, 0, []), (22, 1, 1, 2, 0, 0, []), (23, 1, 9, 0, 0, 0, []), (24, 3, 15, 2, 0, 1, []), (27, 3, 5, 2, 0, 0, []), (30, 2, 4, 0, 1, (-4), []), (32, 1, 9, 0, 0, 0, [])]
def K_24 : pC := [(2, [true, true, true])]
/-- yX10_looks -/
def T_25 : List pE := [(0, 1, 0, 0, 0, 0, []), (1, 1, 4, 0, 0, 0, []), (2, 3, 16, 8, 10, 0, [61, 0, 0, 773]), (5, 1, 4, 0, 0, 0, []), (6, 1, 10, 1, 0, 0, []), (7, 1, 1, 1, 0, 0, []), (8, 2, 4, 0, 1, 7, []), (10, 3, 13, 26, 3, 0, []), (13, 1, 0, 0, 0, 0, []), (14, 3, 3, 8, 11, 0, [31, 0, 0, 774]), (17, 1, 1, 1, 0, 0, []), (18, 1, 4, 0, 0, 0, []), (19, 1, 18, 0, 0, 0, []), (20, 3, 15, 1, 0, 1, []), (23, 3, 5, 7, 0, 0, []), (26, 1, 4, 0, 0, 1, []), (27, 1, 10, 1, 0, 0, []), (28, 1, 1, 1, 0, 0, []), (29, 2, 4, 0, 1, 26, []), (31, 3, 13, 134, 4, 0, []), (34, 1, 4, 0, 0, 0, []), (35, 1, 10, 2, 0, 0, []), (36, 1, 1, 2, 0, 0, []), (37, 2, 4, 0, 1, 7, []), (39, 3, 13, 128, 3, 0, []), (42, 1, 0, 0, 0, 0, []), (43, 3, 3, 8, 0, 0, [7, 0, 0, 763]), (46, 1, 4, 0, 0, 0, []), (47, 1, 1, 2, 0, 0, []), (48, 1, 11, 0, 0, 0, []), (49, 1, 12, 0, 0, 0, []), (50, 1, 1, 1, 0, 0, []), (51, 3, 13, 122, 1, 0, []), (54, 1, 0, 0, 0, 0, []), (55, 3, 3, 8, 7, 0, [22, 0, 0, 770]), (58, 1, 0, 0, 0, 0, []), (59, 3, 2, 8, 10, 0, [61, 0, 0, 773]), (62, 1, 1, 1, 0, 0, []), (63, 1, 4, 0, 0, 1, []), (64, 1, 11, 0, 1, 0, []), (65, 1, 18, 0, 0, 0, []), (66, 1, 0, 0, 0, 0, []), (67, 3, 3, 8, 8, 0, [25, 0, 0, 771]), (70, 1, 0, 0, 0, 0, []), (71, 3, 2, 8, 10, 0, [61, 0, 0, 773]), (74, 1, 0, 0, 0, 0, []), (75, 3, 3, 8, 0, 0, [7, 0, 0, 763]), (78, 2, 4, 0, 1, 7, []), (80, 1, 1, 2, 0, 0, []), (81, 1, 11, 0, 0, 0, []), (82, 1, 12, 0, 0, 0, []), (83, 1, 18, 0, 0, 0, []), (84, 1, 0, 0, 0, 0, []), (85, 3, 3, 8, 9, 0, [28, 0, 0, 772]), (88, 1, 0, 0, 0, 0, []), (89, 3, 2, 8, 10, 0, [61, 0, 0, 773]), (92, 1, 0, 0, 0, 0, []), (93, 3, 3, 8, 0, 0, [7, 0, 0, 763]), (96, 2, 4, 0, 1, 14, []), (98, 1, 1, 2, 0, 0, []), (99, 1, 11, 0, 0, 0, []), (100, 1, 12, 0, 0, 0, []), (101, 1, 18, 0, 0, 0, []), (102, 1, 0, 0, 0, 0, []), (103, 1, 20, 0, 0, 0, []), (104, 3, 2, 8, 10, 0, [61, 0, 0, 773]), (107, 1, 4, 0, 0, 1, []), (108, 1, 11, 0, 0, 0, []), (109, 3, 16, 8, 10, 0, [61, 0, 0, 773]), (112, 1, 0, 0, 0, 0, []), (113, 3, 3, 8, 11, 0, [31, 0, 0, 774]), (116, 1, 1, 2, 0, 0, []), (117, 1, 0, 0, 0, 0, []), (118, 3, 2, 8, 10, 0, [61, 0, 0, 773]), (121, 1, 18, 0, 0, 0, []), (122, 3, 15, 2, 0, 1, []), (125, 3, 5, 36, 0, 0, []), (128, 3, 15, 1, 0, 1, []), (131, 3, 5, 28, 0, 0, []), (134, 1, 19, 0, 0, 0, [])]
def K_25 : pC := [(7, [true, true]), (28, [true, true]), (36, [true, true, true])]
/-- yX10_booksNow -/
def T_26 : List pE := [(0, 1, 0, 0, 0, 0, []), (1, 3, 6, 25, 1, 0, [72, 0, 8, 839, 842, 62, 841, 20]), (4, 1, 0, 0, 0, 0, []), (5, 3, 2, 8, 10, 0, [61, 0, 0, 773]), (8, 1, 9, 0, 0, 0, [])]
def K_26 : pC := []
/-- yX10_remembers -/
def T_27 : List pE := [(0, 1, 0, 0, 0, 0, []), (1, 3, 2, 8, 2, 0, [53, 0, 0, 765]), (4, 1, 4, 0, 0, 4, []), (5, 3, 13, 47, 1, 0, []), (8, 1, 4, 0, 0, 0, []), (9, 1, 10, 1, 0, 0, []), (10, 1, 1, 1, 0, 0, []), (11, 2, 4, 0, 1, 78, []), (13, 3, 13, 37, 3, 0, []), (16, 1, 0, 0, 0, 0, []), (17, 3, 3, 8, 1, 0, [13, 0, 0, 764]), (20, 1, 1, 1, 0, 0, []), (21, 1, 0, 0, 0, 0, []), (22, 3, 3, 8, 1, 0, [13, 0, 0, 764]), (25, 2, 4, 0, 1, 26, []), (27, 1, 1, 1, 0, 0, []), (28, 1, 11, 0, 0, 0, []), (29, 1, 12, 0, 0, 0, []), (30, 1, 18, 0, 0, 0, []), (31, 3, 15, 1, 0, 1, []), (34, 3, 5, 10, 0, 0, []), (37, 1, 0, 0, 0, 0, []), (38, 1, 20, 0, 0, 0, []), (39, 3, 2, 8, 2, 0, [53, 0, 0, 765]), (42, 1, 4, 0, 0, 1, []), (43, 1, 11, 0, 1, 0, []), (44, 3, 16, 8, 2, 0, [53, 0, 0, 765]), (47, 1, 4, 0, 0, 0, []), (48, 1, 10, 1, 0, 0, []), (49, 1, 1, 1, 0, 0, []), (50, 2, 4, 0, 1, 26, []), (52, 3, 13, 81, 3, 0, []), (55, 1, 0, 0, 0, 0, []), (56, 3, 3, 8, 1, 0, [13, 0, 0, 764]), (59, 2, 4, 0, 1, 26, []), (61, 1, 0, 0, 0, 0, []), (62, 3, 2, 8, 2, 0, [53, 0, 0, 765]), (65, 1, 11, 0, 2, 0, []), (66, 1, 1, 1, 0, 0, []), (67, 1, 11, 0, 0, 0, []), (68, 1, 0, 0, 0, 0, []), (69, 3, 3, 8, 0, 0, [7, 0, 0, 763]), (72, 1, 1, 1, 0, 0, []), (73, 1, 12, 0, 0, 0, []), (74, 1, 18, 0, 0, 0, []), (75, 3, 15, 1, 0, 1, []), (78, 3, 5, 49, 0, 0, []), (81, 1, 0, 0, 0, 0, []), (82, 1, 20, 0, 0, 0, []), (83, 3, 2, 8, 2, 0, [53, 0, 0, 765]), (86, 1, 4, 0, 0, 1, []), (87, 1, 11, 0, 0, 0, []), (88, 3, 16, 8, 2, 0, [53, 0, 0, 765]), (91, 1, 19, 0, 0, 0, [])]
def K_27 : pC := [(10, [true, true]), (49, [true, true])]
/-- yX10_add -/
def T_28 : List pE := [(0, 1, 1, 1, 0, 0, []), (1, 1, 4, 0, 0, 0, []), (2, 2, 4, 0, 1, 25, []), (4, 3, 7, 22, 3, 0, [57, 1, 0, 825, 827, 62, 826]), (7, 3, 14, 27, 0, 0, []), (10, 1, 1, 2, 0, 0, []), (11, 1, 4, 0, 0, 1, []), (12, 2, 4, 0, 1, 9, []), (14, 3, 7, 22, 3, 0, [57, 1, 0, 825, 827, 62, 826]), (17, 3, 14, 27, 0, 0, []), (20, 1, 1, 3, 0, 0, []), (21, 3, 7, 23, 1, 0, [92, 1, 0, 828, 830, 62, 829]), (24, 3, 14, 29, 1, 0, []), (27, 1, 4, 0, 0, (-1), []), (28, 1, 9, 0, 0, 0, []), (29, 1, 0, 0, 0, 0, []), (30, 1, 1, 1, 0, 0, []), (31, 3, 6, 24, 2, 0, [126, 1, 8, 831, 834, 62, 833, 18]), (34, 3, 14, 48, 3, 0, []), (37, 1, 0, 0, 0, 0, []), (38, 3, 3, 8, 0, 0, [7, 0, 0, 763]), (41, 1, 4, 0, 0, 0, []), (42, 1, 1, 3, 0, 0, []), (43, 1, 11, 0, 0, 0, []), (44, 1, 12, 0, 0, 0, []), (45, 3, 14, 51, 5, 0, []), (48, 2, 4, 0, 1, (-2), []), (50, 1, 9, 0, 0, 0, []), (51, 1, 0, 0, 0, 0, []), (52, 3, 6, 26, 1, 0, [129, 1, 8, 835, 838, 62, 837, 19]), (55, 1, 4, 0, 0, 5, []), (56, 3, 13, 62, 1, 0, []), (59, 2, 4, 0, 1, (-3), []), (61, 1, 9, 0, 0, 0, []), (62, 1, 0, 0, 0, 0, []), (63, 3, 6, 27, 1, 0, [132, 0, 8, 843, 846, 62, 845, 21]), (66, 1, 0, 0, 0, 0, []), (67, 3, 3, 8, 0, 0, [7, 0, 0, 763]), (70, 1, 4, 0, 0, 0, []), (71, 1, 1, 3, 0, 0, []), (72, 1, 11, 0, 0, 0, []), (73, 1, 1, 1, 0, 0, []), (74, 1, 4, 0, 0, 1, []), (75, 1, 11, 0, 0, 0, []), (76, 1, 18, 0, 0, 0, []), (77, 1, 0, 0, 0, 0, []), (78, 3, 3, 8, 0, 0, [7, 0, 0, 763]), (81, 2, 4, 0, 1, 7, []), (83, 1, 1, 3, 0, 0, []), (84, 1, 11, 0, 0, 0, []), (85, 1, 1, 2, 0, 0, []), (86, 1, 18, 0, 0, 0, []), (87, 1, 0, 0, 0, 0, []), (88, 3, 3, 8, 0, 0, [7, 0, 0, 763]), (91, 2, 4, 0, 1, 14, []), (93, 1, 1, 3, 0, 0, []), (94, 1, 11, 0, 0, 0, []), (95, 1, 4, 0, 0, 0, []), (96, 1, 18, 0, 0, 0, []), (97, 1, 0, 0, 0, 0, []), (98, 3, 6, 26, 1, 0, [129, 1, 8, 835, 838, 62, 837, 19]), (101, 1, 9, 0, 0, 0, [])]
def K_28 : pC := []
/-- yX7_takeOff -/
def T_29 : List pE := [(0, 1, 0, 0, 0, 0, []), (1, 3, 2, 6, 0, 0, [23, 0, 0, 92]), (4, 1, 1, 1, 0, 0, []), (5, 3, 7, 12, 2, 0, [69, 1, 0, 354, 324, 63, 323]), (8, 1, 10, 2, 0, 0, []), (9, 1, 0, 0, 0, 0, []), (10, 3, 3, 6, 2, 0, [14, 0, 0, 100]), (13, 1, 1, 2, 0, 0, []), (14, 3, 6, 10, 2, 0, [52, 1, 4, 318, 321, 56, 319, 320]), (17, 1, 10, 3, 0, 0, []), (18, 1, 0, 0, 0, 0, []), (19, 1, 0, 0, 0, 0, []), (20, 3, 2, 6, 0, 0, [23, 0, 0, 92]), (23, 1, 1, 1, 0, 0, []), (24, 1, 4, 0, 0, 0, []), (25, 3, 7, 18, 3, 0, [63, 1, 0, 355, 357, 63, 356]), (28, 3, 16, 6, 0, 0, [23, 0, 0, 92]), (31, 1, 1, 2, 0, 0, []), (32, 2, 10, 4, 0, 0, []), (34, 2, 1, 4, 0, 0, []), (36, 1, 0, 0, 0, 0, []), (37, 3, 2, 6, 1, 0, [27, 0, 0, 96]), (40, 3, 13, 89, 3, 0, []), (43, 1, 0, 0, 0, 0, []), (44, 3, 3, 6, 2, 0, [14, 0, 0, 100]), (47, 2, 1, 4, 0, 0, []), (49, 1, 0, 0, 0, 0, []), (50, 3, 3, 6, 2, 0, [14, 0, 0, 100]), (53, 2, 1, 4, 0, 0, []), (55, 1, 4, 0, 0, 1, []), (56, 1, 11, 0, 0, 0, []), (57, 3, 6, 10, 2, 0, [52, 1, 4, 318, 321, 56, 319, 320]), (60, 3, 6, 17, 3, 0, [56, 0, 4, 346, 349, 56, 347, 348]), (63, 1, 0, 0, 0, 0, []), (64, 3, 3, 6, 3, 0, [20, 0, 0, 102]), (67, 2, 1, 4, 0, 0, []), (69, 1, 0, 0, 0, 0, []), (70, 3, 3, 6, 3, 0, [20, 0, 0, 102]), (73, 2, 1, 4, 0, 0, []), (75, 1, 4, 0, 0, 1, []), (76, 1, 11, 0, 0, 0, []), (77, 3, 6, 10, 2, 0, [52, 1, 4, 318, 321, 56, 319, 320]), (80, 3, 6, 17, 3, 0, [56, 0, 4, 346, 349, 56, 347, 348]), (83, 3, 15, 4, 0, 1, []), (86, 3, 5, 34, 0, 0, []), (89, 1, 0, 0, 0, 0, []), (90, 1, 1, 2, 0, 0, []), (91, 1, 4, 0, 0, 1, []), (92, 1, 11, 0, 0, 0, []), (93, 1, 4, 0, 0, (-1), []), (94, 3, 6, 19, 3, 0, [60, 0, 6, 350, 353, 55, 352, 1]), (97, 1, 0, 0, 0, 0, []), (98, 3, 2, 6, 4, 0, [34, 0, 0, 106]), (101, 1, 4, 0, 0, 1, []), (102, 1, 1, 2, 0, 0, []), (103, 1, 11, 0, 6, 0, []), (104, 1, 4, 0, 0, 1, []), (105, 1, 11, 0, 1, 0, []), (106, 1, 11, 0, 3, 0, []), (107, 2, 10, 4, 0, 0, []), (109, 1, 0, 0, 0, 0, []), (110, 1, 0, 0, 0, 0, []), (111, 3, 2, 6, 4, 0, [34, 0, 0, 106]), (114, 1, 1, 2, 0, 0, []), (115, 1, 4, 0, 0, 1, []), (116, 1, 11, 0, 0, 0, []), (117, 1, 11, 0, 8, 0, []), (118, 1, 1, 2, 0, 0, []), (119, 1, 11, 0, 6, 0, []), (120, 2, 1, 4, 0, 0, []), (122, 1, 11, 0, 4, 0, []), (123, 3, 16, 6, 4, 0, [34, 0, 0, 106]), (126, 1, 0, 0, 0, 0, []), (127, 1, 20, 0, 0, 0, []), (128, 3, 2, 6, 1, 0, [27, 0, 0, 96]), (131, 1, 4, 0, 0, 1, []), (132, 1, 11, 0, 1, 0, []), (133, 3, 16, 6, 1, 0, [27, 0, 0, 96]), (136, 1, 1, 3, 0, 0, []), (137, 1, 9, 0, 0, 0, [])]
def K_29 : pC := [(34, [true, false, true, true, true])]
/-- yX9_remove -/
def T_30 : List pE := [(0, 1, 1, 1, 0, 0, []), (1, 2, 4, 0, 1, 7, []), (3, 3, 7, 9, 2, 0, [60, 1, 0, 311, 313, 54, 312]), (6, 3, 14, 11, 1, 0, []), (9, 1, 4, 0, 0, (-1), []), (10, 1, 9, 0, 0, 0, []), (11, 1, 0, 0, 0, 0, []), (12, 3, 3, 7, 0, 0, [10, 0, 0, 282]), (15, 3, 2, 6, 0, 0, [68, 1, 0, 93]), (18, 1, 1, 1, 0, 0, []), (19, 3, 7, 12, 2, 0, [72, 1, 0, 322, 324, 63, 323]), (22, 3, 14, 28, 1, 0, []), (25, 2, 4, 0, 1, (-2), []), (27, 1, 9, 0, 0, 0, []), (28, 1, 0, 0, 0, 0, []), (29, 3, 3, 7, 3, 0, [26, 0, 0, 285]), (32, 1, 0, 0, 0, 0, []), (33, 3, 3, 7, 0, 0, [10, 0, 0, 282]), (36, 3, 6, 16, 2, 0, [81, 0, 1, 325, 328, 57, 326, 327]), (39, 1, 0, 0, 0, 0, []), (40, 3, 3, 7, 0, 0, [10, 0, 0, 282]), (43, 1, 1, 1, 0, 0, []), (44, 3, 6, 29, 2, 0, [89, 1, 6, 362, 365, 55, 363, 364]), (47, 1, 9, 0, 0, 0, [])]
def K_30 : pC := []
/-- yX10_remove -/
def T_31 : List pE := [(0, 1, 1, 1, 0, 0, []), (1, 3, 7, 23, 1, 0, [92, 1, 0, 828, 830, 62, 829]), (4, 3, 14, 9, 1, 0, []), (7, 1, 4, 0, 0, (-1), []), (8, 1, 9, 0, 0, 0, []), (9, 1, 0, 0, 0, 0, []), (10, 3, 3, 8, 0, 0, [7, 0, 0, 763]), (13, 1, 4, 0, 0, 0, []), (14, 1, 1, 1, 0, 0, []), (15, 1, 11, 0, 0, 0, []), (16, 1, 12, 0, 0, 0, []), (17, 3, 14, 23, 1, 0, []), (20, 2, 4, 0, 1, (-2), []), (22, 1, 9, 0, 0, 0, []), (23, 1, 0, 0, 0, 0, []), (24, 3, 6, 27, 1, 0, [132, 0, 8, 843, 846, 62, 845, 21]), (27, 1, 0, 0, 0, 0, []), (28, 3, 3, 8, 0, 0, [7, 0, 0, 763]), (31, 1, 4, 0, 0, 0, []), (32, 1, 1, 1, 0, 0, []), (33, 1, 11, 0, 0, 0, []), (34, 1, 12, 0, 0, 0, []), (35, 1, 4, 0, 0, 1, []), (36, 1, 11, 0, 1, 0, []), (37, 1, 10, 2, 0, 0, []), (38, 1, 0, 0, 0, 0, []), (39, 3, 3, 8, 0, 0, [7, 0, 0, 763]), (42, 1, 4, 0, 0, 0, []), (43, 1, 1, 1, 0, 0, []), (44, 1, 11, 0, 0, 0, []), (45, 1, 4, 0, 0, 0, []), (46, 1, 18, 0, 0, 0, []), (47, 1, 1, 2, 0, 0, []), (48, 1, 9, 0, 0, 0, [])]
def K_31 : pC := []
/-- yX8_isIn -/
def T_32 : List pE := [(0, 1, 1, 0, 0, 0, []), (1, 1, 1, 1, 0, 0, []), (2, 1, 11, 0, 8, 0, []), (3, 1, 4, 0, 0, 1, []), (4, 1, 11, 0, 3, 0, []), (5, 1, 4, 0, 0, 1, []), (6, 3, 13, 13, 1, 0, []), (9, 1, 4, 0, 0, 1, []), (10, 3, 5, 14, 0, 0, []), (13, 1, 4, 0, 0, 0, []), (14, 1, 9, 0, 1, 0, [])]
def K_32 : pC := []
/-- yX9_stick -/
def T_33 : List pE := [(0, 1, 1, 1, 0, 0, []), (1, 2, 4, 0, 1, 7, []), (3, 3, 7, 9, 2, 0, [60, 1, 0, 311, 313, 54, 312]), (6, 3, 14, 11, 1, 0, []), (9, 1, 4, 0, 0, (-1), []), (10, 1, 9, 0, 0, 0, []), (11, 1, 0, 0, 0, 0, []), (12, 3, 3, 7, 0, 0, [10, 0, 0, 282]), (15, 3, 2, 6, 0, 0, [68, 1, 0, 93]), (18, 1, 1, 1, 0, 0, []), (19, 3, 7, 12, 2, 0, [72, 1, 0, 322, 324, 63, 323]), (22, 1, 10, 2, 0, 0, []), (23, 1, 1, 2, 0, 0, []), (24, 3, 14, 30, 1, 0, []), (27, 2, 4, 0, 1, (-2), []), (29, 1, 9, 0, 0, 0, []), (30, 1, 0, 0, 0, 0, []), (31, 3, 3, 7, 3, 0, [26, 0, 0, 285]), (34, 1, 0, 0, 0, 0, []), (35, 3, 3, 7, 0, 0, [10, 0, 0, 282]), (38, 3, 6, 16, 2, 0, [81, 0, 1, 325, 328, 57, 326, 327]), (41, 1, 0, 0, 0, 0, []), (42, 3, 3, 7, 0, 0, [10, 0, 0, 282]), (45, 1, 20, 0, 0, 0, []), (46, 3, 2, 6, 4, 0, [92, 1, 0, 108]), (49, 1, 4, 0, 0, 1, []), (50, 1, 1, 2, 0, 0, []), (51, 1, 11, 0, 6, 0, []), (52, 1, 11, 0, 5, 0, []), (53, 3, 16, 6, 4, 0, [92, 1, 0, 108]), (56, 1, 0, 0, 0, 0, []), (57, 3, 3, 7, 0, 0, [10, 0, 0, 282]), (60, 3, 2, 6, 4, 0, [92, 1, 0, 108]), (63, 1, 1, 2, 0, 0, []), (64, 3, 7, 32, 2, 0, [95, 1, 0, 370, 372, 63, 371]), (67, 3, 14, 74, 0, 0, []), (70, 1, 4, 0, 0, 1, []), (71, 3, 5, 75, 0, 0, []), (74, 1, 4, 0, 0, 0, []), (75, 1, 9, 0, 0, 0, [])]
def K_33 : pC := []
/-- yX10_stick -/
def T_34 : List pE := [(0, 1, 1, 1, 0, 0, []), (1, 3, 7, 23, 1, 0, [92, 1, 0, 828, 830, 62, 829]), (4, 3, 14, 9, 1, 0, []), (7, 1, 4, 0, 0, (-1), []), (8, 1, 9, 0, 0, 0, []), (9, 1, 0, 0, 0, 0, []), (10, 3, 3, 8, 0, 0, [7, 0, 0, 763]), (13, 1, 4, 0, 0, 0, []), (14, 1, 1, 1, 0, 0, []), (15, 1, 11, 0, 0, 0, []), (16, 1, 12, 0, 0, 0, []), (17, 3, 14, 23, 1, 0, []), (20, 2, 4, 0, 1, (-2), []), (22, 1, 9, 0, 0, 0, []), (23, 1, 0, 0, 0, 0, []), (24, 3, 6, 27, 1, 0, [132, 0, 8, 843, 846, 62, 845, 21]), (27, 1, 0, 0, 0, 0, []), (28, 3, 3, 8, 0, 0, [7, 0, 0, 763]), (31, 2, 4, 0, 1, 14, []), (33, 1, 1, 1, 0, 0, []), (34, 1, 11, 0, 0, 0, []), (35, 1, 4, 0, 0, 1, []), (36, 1, 0, 0, 0, 0, []), (37, 3, 3, 8, 0, 0, [7, 0, 0, 763]), (40, 2, 4, 0, 1, 14, []), (42, 1, 1, 1, 0, 0, []), (43, 1, 11, 0, 0, 0, []), (44, 1, 12, 0, 0, 0, []), (45, 1, 11, 0, 1, 0, []), (46, 1, 18, 0, 0, 0, []), (47, 1, 0, 0, 0, 0, []), (48, 3, 3, 8, 0, 0, [7, 0, 0, 763]), (51, 2, 4, 0, 1, 14, []), (53, 1, 1, 1, 0, 0, []), (54, 1, 11, 0, 0, 0, []), (55, 1, 12, 0, 0, 0, []), (56, 1, 9, 0, 0, 0, [])]
def K_34 : pC := []
/-- yX8_isGap -/
def T_35 : List pE := [(0, 1, 1, 1, 0, 0, []), (1, 3, 14, 25, 2, 0, []), (4, 1, 1, 1, 0, 0, []), (5, 2, 4, 0, 1, 7, []), (7, 3, 13, 25, 3, 0, []), (10, 1, 1, 0, 0, 0, []), (11, 1, 4, 0, 0, 3, []), (12, 1, 1, 1, 0, 0, []), (13, 1, 11, 0, 2, 0, []), (14, 1, 11, 0, 8, 0, []), (15, 2, 4, 0, 1, 7, []), (17, 1, 11, 0, 3, 0, []), (18, 3, 14, 25, 1, 0, []), (21, 1, 4, 0, 0, 1, []), (22, 3, 5, 26, 0, 0, []), (25, 1, 4, 0, 0, 0, []), (26, 1, 9, 0, 1, 0, [])]
def K_35 : pC := []
/-- yX8_gapBeside -/
def T_36 : List pE := [(0, 1, 4, 0, 0, 1, []), (1, 1, 10, 2, 0, 0, []), (2, 1, 1, 2, 0, 0, []), (3, 2, 4, 0, 1, 7, []), (5, 3, 13, 42, 3, 0, []), (8, 1, 1, 0, 0, 0, []), (9, 1, 1, 1, 0, 0, []), (10, 1, 1, 2, 0, 0, []), (11, 1, 11, 0, 1, 0, []), (12, 3, 7, 35, 2, 0, [9, 1, 0, 380, 382, 63, 381]), (15, 3, 14, 22, 0, 0, []), (18, 1, 1, 1, 0, 0, []), (19, 1, 1, 2, 0, 0, []), (20, 1, 11, 0, 1, 0, []), (21, 1, 9, 0, 0, 0, []), (22, 1, 1, 0, 0, 0, []), (23, 1, 1, 1, 0, 0, []), (24, 1, 1, 2, 0, 0, []), (25, 1, 11, 0, 0, 0, []), (26, 3, 7, 35, 2, 0, [9, 1, 0, 380, 382, 63, 381]), (29, 3, 14, 36, 0, 0, []), (32, 1, 1, 1, 0, 0, []), (33, 1, 1, 2, 0, 0, []), (34, 1, 11, 0, 0, 0, []), (35, 1, 9, 0, 0, 0, []), (36, 3, 15, 2, 0, 1, []), (39, 3, 5, 2, 0, 0, []), (42, 1, 1, 1, 0, 0, []), (43, 1, 9, 0, 0, 0, [])]
def K_36 : pC := [(2, [true, true, true])]
/-- yX8_placeOf -/
def T_37 : List pE := [(0, 1, 1, 0, 0, 0, []), (1, 2, 4, 0, 1, 7, []), (3, 3, 13, 8, 3, 0, []), (6, 1, 1, 0, 0, 0, []), (7, 1, 9, 0, 0, 0, []), (8, 1, 1, 0, 0, 0, []), (9, 2, 4, 0, 1, 13, []), (11, 3, 13, 21, 3, 0, []), (14, 1, 1, 0, 0, 0, []), (15, 2, 4, 0, 1, 7, []), (17, 1, 11, 0, 1, 0, []), (18, 3, 5, 25, 0, 0, []), (21, 1, 1, 0, 0, 0, []), (22, 2, 4, 0, 1, 13, []), (24, 1, 11, 0, 1, 0, []), (25, 1, 9, 0, 0, 0, [])]
def K_37 : pC := []
/-- yX8_isPull -/
def T_38 : List pE := [(0, 1, 1, 0, 0, 0, []), (1, 2, 4, 0, 1, 7, []), (3, 3, 13, 10, 3, 0, []), (6, 1, 4, 0, 0, 1, []), (7, 3, 5, 11, 0, 0, []), (10, 1, 4, 0, 0, 0, []), (11, 1, 9, 0, 1, 0, [])]
def K_38 : pC := []
/-- yX8_reason -/
def T_39 : List pE := [(0, 1, 1, 2, 0, 0, []), (1, 3, 7, 37, 1, 0, [15, 1, 0, 390, 392, 63, 391]), (4, 1, 10, 3, 0, 0, []), (5, 1, 1, 0, 0, 0, []), (6, 1, 1, 3, 0, 0, []), (7, 3, 7, 12, 2, 0, [19, 1, 0, 393, 324, 63, 323]), (10, 2, 10, 4, 0, 0, []), (12, 1, 1, 2, 0, 0, []), (13, 3, 7, 38, 1, 0, [23, 1, 0, 394, 396, 63, 395]), (16, 3, 14, 41, 0, 0, []), (19, 2, 1, 4, 0, 0, []), (21, 3, 14, 26, 1, 0, []), (24, 1, 4, 0, 0, 1, []), (25, 1, 9, 0, 0, 0, []), (26, 1, 1, 1, 0, 0, []), (27, 2, 1, 4, 0, 0, []), (29, 3, 7, 32, 2, 0, [27, 1, 0, 397, 372, 63, 371]), (32, 3, 14, 39, 0, 0, []), (35, 1, 4, 0, 0, 2, []), (36, 3, 5, 40, 0, 0, []), (39, 1, 4, 0, 0, 0, []), (40, 1, 9, 0, 0, 0, []), (41, 2, 1, 4, 0, 0, []), (43, 3, 14, 56, 0, 0, []), (46, 1, 1, 0, 0, 0, []), (47, 1, 1, 3, 0, 0, []), (48, 1, 4, 0, 0, 1, []), (49, 1, 11, 0, 0, 0, []), (50, 3, 7, 12, 2, 0, [19, 1, 0, 393, 324, 63, 323]), (53, 3, 14, 58, 1, 0, []), (56, 1, 4, 0, 0, 3, []), (57, 1, 9, 0, 0, 0, []), (58, 1, 1, 0, 0, 0, []), (59, 1, 1, 2, 0, 0, []), (60, 2, 4, 0, 1, 13, []), (62, 3, 13, 71, 3, 0, []), (65, 1, 1, 3, 0, 0, []), (66, 1, 4, 0, 0, 2, []), (67, 1, 11, 0, 0, 0, []), (68, 3, 5, 74, 0, 0, []), (71, 1, 1, 3, 0, 0, []), (72, 1, 4, 0, 0, 1, []), (73, 1, 11, 0, 1, 0, []), (74, 3, 7, 35, 2, 0, [9, 1, 0, 380, 382, 63, 381]), (77, 3, 14, 84, 0, 0, []), (80, 1, 4, 0, 0, 0, []), (81, 3, 5, 85, 0, 0, []), (84, 1, 4, 0, 0, 4, []), (85, 1, 9, 0, 0, 0, [])]
def K_39 : pC := []
/-- yX8_price -/
def T_40 : List pE := [(0, 1, 1, 2, 0, 0, []), (1, 3, 7, 37, 1, 0, [15, 1, 0, 390, 392, 63, 391]), (4, 1, 10, 3, 0, 0, []), (5, 1, 0, 1, 0, 0, []), (6, 1, 1, 0, 0, 0, []), (7, 1, 1, 3, 0, 0, []), (8, 3, 7, 12, 2, 0, [19, 1, 0, 393, 324, 63, 323]), (11, 3, 6, 10, 2, 0, [37, 1, 4, 401, 321, 56, 319, 320]), (14, 2, 10, 4, 0, 0, []), (16, 1, 1, 2, 0, 0, []), (17, 3, 7, 38, 1, 0, [23, 1, 0, 394, 396, 63, 395]), (20, 3, 14, 26, 0, 0, []), (23, 2, 1, 4, 0, 0, []), (25, 1, 9, 0, 0, 0, []), (26, 2, 1, 4, 0, 0, []), (28, 1, 0, 1, 0, 0, []), (29, 1, 1, 0, 0, 0, []), (30, 1, 1, 3, 0, 0, []), (31, 1, 4, 0, 0, 1, []), (32, 1, 11, 0, 0, 0, []), (33, 3, 7, 12, 2, 0, [19, 1, 0, 393, 324, 63, 323]), (36, 3, 6, 10, 2, 0, [37, 1, 4, 401, 321, 56, 319, 320]), (39, 3, 45, 0, 0, 0, [42, 0, 0, 402, 403, 64, 404]), (42, 1, 9, 0, 0, 0, [])]
def K_40 : pC := []
/-- yX8_after -/
def T_41 : List pE := [(0, 1, 1, 1, 0, 0, []), (1, 3, 7, 37, 1, 0, [15, 1, 0, 390, 392, 63, 391]), (4, 1, 10, 2, 0, 0, []), (5, 1, 1, 0, 0, 0, []), (6, 1, 1, 2, 0, 0, []), (7, 3, 7, 12, 2, 0, [19, 1, 0, 393, 324, 63, 323]), (10, 1, 10, 3, 0, 0, []), (11, 1, 1, 1, 0, 0, []), (12, 3, 7, 38, 1, 0, [23, 1, 0, 394, 396, 63, 395]), (15, 3, 14, 34, 0, 0, []), (18, 1, 1, 0, 0, 0, []), (19, 1, 1, 2, 0, 0, []), (20, 1, 4, 0, 0, 0, []), (21, 3, 7, 18, 3, 0, [30, 1, 0, 408, 357, 63, 356]), (24, 1, 1, 0, 0, 0, []), (25, 1, 1, 2, 0, 0, []), (26, 3, 7, 36, 2, 0, [34, 1, 0, 409, 379, 63, 378]), (29, 1, 1, 3, 0, 0, []), (30, 3, 7, 18, 3, 0, [30, 1, 0, 408, 357, 63, 356]), (33, 1, 9, 0, 0, 0, []), (34, 1, 1, 0, 0, 0, []), (35, 1, 1, 2, 0, 0, []), (36, 1, 4, 0, 0, 1, []), (37, 1, 11, 0, 0, 0, []), (38, 3, 7, 12, 2, 0, [19, 1, 0, 393, 324, 63, 323]), (41, 2, 10, 4, 0, 0, []), (43, 1, 1, 1, 0, 0, []), (44, 2, 4, 0, 1, 13, []), (46, 3, 13, 71, 3, 0, []), (49, 1, 1, 0, 0, 0, []), (50, 1, 1, 2, 0, 0, []), (51, 1, 4, 0, 0, 0, []), (52, 3, 7, 18, 3, 0, [30, 1, 0, 408, 357, 63, 356]), (55, 1, 1, 2, 0, 0, []), (56, 1, 4, 0, 0, 1, []), (57, 1, 11, 0, 0, 0, []), (58, 1, 1, 3, 0, 0, []), (59, 3, 7, 18, 3, 0, [30, 1, 0, 408, 357, 63, 356]), (62, 1, 1, 2, 0, 0, []), (63, 1, 4, 0, 0, 2, []), (64, 1, 11, 0, 0, 0, []), (65, 2, 1, 4, 0, 0, []), (67, 3, 7, 18, 3, 0, [30, 1, 0, 408, 357, 63, 356]), (70, 1, 9, 0, 0, 0, []), (71, 1, 1, 0, 0, 0, []), (72, 1, 1, 2, 0, 0, []), (73, 1, 4, 0, 0, 1, []), (74, 1, 11, 0, 0, 0, []), (75, 1, 4, 0, 0, 0, []), (76, 3, 7, 18, 3, 0, [30, 1, 0, 408, 357, 63, 356]), (79, 1, 1, 2, 0, 0, []), (80, 1, 4, 0, 0, 1, []), (81, 1, 11, 0, 1, 0, []), (82, 1, 1, 3, 0, 0, []), (83, 3, 7, 18, 3, 0, [30, 1, 0, 408, 357, 63, 356]), (86, 1, 1, 2, 0, 0, []), (87, 2, 1, 4, 0, 0, []), (89, 3, 7, 18, 3, 0, [30, 1, 0, 408, 357, 63, 356]), (92, 1, 9, 0, 0, 0, [])]
def K_41 : pC := []
/-- yX7_tryMove -/
def T_42 : List pE := [(0, 1, 0, 0, 0, 0, []), (1, 3, 2, 6, 0, 0, [23, 0, 0, 92]), (4, 1, 0, 0, 0, 0, []), (5, 3, 2, 6, 4, 0, [34, 0, 0, 106]), (8, 1, 1, 1, 0, 0, []), (9, 3, 7, 39, 3, 0, [73, 1, 0, 387, 389, 63, 388]), (12, 1, 10, 2, 0, 0, []), (13, 1, 1, 2, 0, 0, []), (14, 3, 14, 29, 0, 0, []), (17, 1, 0, 0, 0, 0, []), (18, 1, 20, 0, 0, 0, []), (19, 3, 2, 6, 9, 0, [49, 0, 0, 121]), (22, 1, 4, 0, 0, 1, []), (23, 1, 11, 0, 0, 0, []), (24, 3, 16, 6, 9, 0, [49, 0, 0, 121]), (27, 1, 1, 2, 0, 0, []), (28, 1, 9, 0, 0, 0, []), (29, 1, 0, 0, 0, 0, []), (30, 1, 20, 0, 0, 0, []), (31, 3, 2, 6, 7, 0, [43, 0, 0, 117]), (34, 1, 4, 0, 0, 1, []), (35, 1, 11, 0, 0, 0, []), (36, 3, 16, 6, 7, 0, [43, 0, 0, 117]), (39, 1, 0, 0, 0, 0, []), (40, 1, 20, 0, 0, 0, []), (41, 3, 2, 6, 8, 0, [46, 0, 0, 119]), (44, 1, 0, 0, 0, 0, []), (45, 3, 2, 6, 0, 0, [23, 0, 0, 92]), (48, 1, 0, 0, 0, 0, []), (49, 3, 3, 6, 3, 0, [20, 0, 0, 102]), (52, 1, 1, 1, 0, 0, []), (53, 3, 7, 40, 3, 0, [76, 1, 0, 398, 400, 63, 399]), (56, 1, 11, 0, 0, 0, []), (57, 3, 16, 6, 8, 0, [46, 0, 0, 119]), (60, 1, 0, 0, 0, 0, []), (61, 1, 0, 0, 0, 0, []), (62, 3, 2, 6, 0, 0, [23, 0, 0, 92]), (65, 1, 1, 1, 0, 0, []), (66, 3, 7, 41, 2, 0, [80, 1, 0, 405, 407, 63, 406]), (69, 3, 16, 6, 0, 0, [23, 0, 0, 92]), (72, 1, 4, 0, 0, 0, []), (73, 1, 9, 0, 0, 0, [])]
def K_42 : pC := []
/-- yX9_pull -/
def T_43 : List pE := [(0, 1, 1, 1, 0, 0, []), (1, 2, 4, 0, 1, 7, []), (3, 3, 7, 9, 2, 0, [60, 1, 0, 311, 313, 54, 312]), (6, 3, 14, 11, 1, 0, []), (9, 1, 4, 0, 0, (-1), []), (10, 1, 9, 0, 0, 0, []), (11, 1, 0, 0, 0, 0, []), (12, 3, 3, 7, 0, 0, [10, 0, 0, 282]), (15, 3, 2, 6, 0, 0, [68, 1, 0, 93]), (18, 1, 1, 1, 0, 0, []), (19, 3, 7, 36, 2, 0, [98, 1, 0, 377, 379, 63, 378]), (22, 1, 10, 2, 0, 0, []), (23, 1, 0, 0, 0, 0, []), (24, 3, 3, 7, 3, 0, [26, 0, 0, 285]), (27, 1, 0, 0, 0, 0, []), (28, 3, 3, 7, 0, 0, [10, 0, 0, 282]), (31, 3, 6, 16, 2, 0, [81, 0, 1, 325, 328, 57, 326, 327]), (34, 1, 0, 0, 0, 0, []), (35, 3, 3, 7, 0, 0, [10, 0, 0, 282]), (38, 1, 1, 1, 0, 0, []), (39, 3, 6, 42, 2, 0, [101, 1, 6, 383, 386, 55, 384, 385]), (42, 1, 10, 3, 0, 0, []), (43, 1, 1, 3, 0, 0, []), (44, 3, 14, 51, 0, 0, []), (47, 1, 1, 3, 0, 0, []), (48, 3, 5, 55, 0, 0, []), (51, 2, 4, 0, 1, 10, []), (53, 1, 1, 2, 0, 0, []), (54, 1, 11, 0, 0, 0, []), (55, 1, 9, 0, 0, 0, [])]
def K_43 : pC := []
/-- yX10_nearestGap -/
def T_44 : List pE := [(0, 1, 4, 0, 0, 0, []), (1, 1, 10, 2, 0, 0, []), (2, 1, 1, 2, 0, 0, []), (3, 2, 4, 0, 1, 7, []), (5, 3, 13, 58, 3, 0, []), (8, 1, 1, 1, 0, 0, []), (9, 1, 1, 2, 0, 0, []), (10, 1, 11, 0, 1, 0, []), (11, 3, 14, 29, 2, 0, []), (14, 1, 0, 0, 0, 0, []), (15, 3, 3, 8, 11, 0, [31, 0, 0, 774]), (18, 1, 1, 1, 0, 0, []), (19, 1, 1, 2, 0, 0, []), (20, 1, 11, 0, 1, 0, []), (21, 1, 12, 0, 0, 0, []), (22, 3, 14, 29, 1, 0, []), (25, 1, 1, 1, 0, 0, []), (26, 1, 1, 2, 0, 0, []), (27, 1, 11, 0, 1, 0, []), (28, 1, 9, 0, 0, 0, []), (29, 1, 1, 1, 0, 0, []), (30, 1, 1, 2, 0, 0, []), (31, 1, 11, 0, 0, 0, []), (32, 2, 4, 0, 1, 7, []), (34, 3, 13, 52, 3, 0, []), (37, 1, 0, 0, 0, 0, []), (38, 3, 3, 8, 11, 0, [31, 0, 0, 774]), (41, 1, 1, 1, 0, 0, []), (42, 1, 1, 2, 0, 0, []), (43, 1, 11, 0, 0, 0, []), (44, 1, 12, 0, 0, 0, []), (45, 3, 14, 52, 1, 0, []), (48, 1, 1, 1, 0, 0, []), (49, 1, 1, 2, 0, 0, []), (50, 1, 11, 0, 0, 0, []), (51, 1, 9, 0, 0, 0, []), (52, 3, 15, 2, 0, 1, []), (55, 3, 5, 2, 0, 0, []), (58, 2, 4, 0, 1, (-4), []), (60, 1, 9, 0, 0, 0, [])]
def K_44 : pC := [(2, [true, true, true]), (29, [true, true, true])]
/-- yX10_whyNotOf -/
def T_45 : List pE := [(0, 1, 1, 1, 0, 0, []), (1, 2, 4, 0, 1, 7, []), (3, 3, 13, 42, 3, 0, []), (6, 1, 0, 0, 0, 0, []), (7, 3, 3, 8, 11, 0, [31, 0, 0, 774]), (10, 1, 1, 1, 0, 0, []), (11, 1, 12, 0, 0, 0, []), (12, 3, 14, 19, 1, 0, []), (15, 1, 4, 0, 0, 1, []), (16, 3, 5, 41, 0, 0, []), (19, 1, 0, 0, 0, 0, []), (20, 3, 3, 8, 9, 0, [28, 0, 0, 772]), (23, 1, 0, 0, 0, 0, []), (24, 3, 3, 8, 11, 0, [31, 0, 0, 774]), (27, 1, 1, 1, 0, 0, []), (28, 1, 12, 0, 0, 0, []), (29, 1, 4, 0, 0, 1, []), (30, 1, 11, 0, 1, 0, []), (31, 1, 12, 0, 0, 0, []), (32, 1, 4, 0, 0, 1, []), (33, 3, 13, 40, 1, 0, []), (36, 1, 4, 0, 0, 2, []), (37, 3, 5, 41, 0, 0, []), (40, 1, 4, 0, 0, 0, []), (41, 1, 9, 0, 0, 0, []), (42, 1, 1, 1, 0, 0, []), (43, 2, 4, 0, 1, 7, []), (45, 1, 11, 0, 1, 0, []), (46, 2, 4, 0, 1, 6, []), (48, 1, 44, 0, 0, 0, []), (49, 1, 10, 2, 0, 0, []), (50, 1, 1, 1, 0, 0, []), (51, 2, 4, 0, 1, 13, []), (53, 3, 13, 62, 3, 0, []), (56, 1, 1, 2, 0, 0, []), (57, 1, 4, 0, 0, 2, []), (58, 1, 11, 0, 0, 0, []), (59, 3, 5, 65, 0, 0, []), (62, 1, 1, 2, 0, 0, []), (63, 1, 4, 0, 0, 1, []), (64, 1, 11, 0, 1, 0, []), (65, 1, 10, 3, 0, 0, []), (66, 1, 0, 0, 0, 0, []), (67, 3, 3, 8, 11, 0, [31, 0, 0, 774]), (70, 1, 1, 2, 0, 0, []), (71, 1, 12, 0, 0, 0, []), (72, 3, 14, 86, 0, 0, []), (75, 1, 0, 0, 0, 0, []), (76, 3, 3, 8, 11, 0, [31, 0, 0, 774]), (79, 1, 1, 2, 0, 0, []), (80, 1, 4, 0, 0, 1, []), (81, 1, 11, 0, 0, 0, []), (82, 1, 12, 0, 0, 0, []), (83, 3, 14, 88, 1, 0, []), (86, 1, 4, 0, 0, 3, []), (87, 1, 9, 0, 0, 0, []), (88, 1, 1, 3, 0, 0, []), (89, 3, 7, 23, 1, 0, [92, 1, 0, 828, 830, 62, 829]), (92, 3, 14, 108, 0, 0, []), (95, 1, 0, 0, 0, 0, []), (96, 3, 3, 8, 11, 0, [31, 0, 0, 774]), (99, 1, 1, 3, 0, 0, []), (100, 1, 12, 0, 0, 0, []), (101, 3, 14, 108, 1, 0, []), (104, 1, 4, 0, 0, 0, []), (105, 3, 5, 109, 0, 0, []), (108, 1, 4, 0, 0, 4, []), (109, 1, 9, 0, 0, 0, [])]
def K_45 : pC := [(65, [true, false, true])]
/-- yX10_makes -/
def T_46 : List pE := [(0, 1, 4, 0, 0, 0, []), (1, 1, 10, 2, 0, 0, []), (2, 1, 1, 2, 0, 0, []), (3, 2, 4, 0, 1, 7, []), (5, 3, 13, 26, 3, 0, []), (8, 1, 0, 0, 0, 0, []), (9, 3, 3, 8, 12, 0, [34, 0, 0, 775]), (12, 1, 1, 2, 0, 0, []), (13, 1, 0, 0, 0, 0, []), (14, 3, 3, 8, 11, 0, [31, 0, 0, 774]), (17, 1, 1, 2, 0, 0, []), (18, 1, 12, 0, 0, 0, []), (19, 1, 18, 0, 0, 0, []), (20, 3, 15, 2, 0, 1, []), (23, 3, 5, 2, 0, 0, []), (26, 1, 1, 1, 0, 0, []), (27, 2, 4, 0, 1, 7, []), (29, 3, 13, 73, 3, 0, []), (32, 1, 0, 0, 0, 0, []), (33, 1, 0, 0, 0, 0, []), (34, 3, 3, 8, 8, 0, [25, 0, 0, 771]), (37, 1, 0, 0, 0, 0, []), (38, 3, 3, 8, 11, 0, [31, 0, 0, 774]), (41, 1, 1, 1, 0, 0, []), (42, 1, 12, 0, 0, 0, []), (43, 1, 4, 0, 0, 1, []), (44, 1, 11, 0, 1, 0, []), (45, 1, 12, 0, 0, 0, []), (46, 3, 16, 8, 13, 0, [96, 0, 0, 776]), (49, 1, 0, 0, 0, 0, []), (50, 3, 3, 8, 12, 0, [34, 0, 0, 775]), (53, 1, 0, 0, 0, 0, []), (54, 1, 1, 1, 0, 0, []), (55, 3, 6, 44, 2, 0, [99, 1, 8, 859, 862, 62, 861, 22]), (58, 1, 0, 0, 0, 0, []), (59, 3, 3, 8, 11, 0, [31, 0, 0, 774]), (62, 1, 1, 1, 0, 0, []), (63, 1, 12, 0, 0, 0, []), (64, 1, 18, 0, 0, 0, []), (65, 1, 0, 0, 0, 0, []), (66, 3, 3, 8, 12, 0, [34, 0, 0, 775]), (69, 1, 1, 1, 0, 0, []), (70, 1, 4, 0, 0, 0, []), (71, 1, 18, 0, 0, 0, []), (72, 1, 19, 0, 0, 0, []), (73, 1, 1, 1, 0, 0, []), (74, 2, 4, 0, 1, 7, []), (76, 1, 11, 0, 1, 0, []), (77, 2, 4, 0, 1, 6, []), (79, 1, 44, 0, 0, 0, []), (80, 1, 10, 2, 0, 0, []), (81, 1, 0, 0, 0, 0, []), (82, 3, 3, 8, 8, 0, [25, 0, 0, 771]), (85, 1, 0, 0, 0, 0, []), (86, 3, 3, 8, 11, 0, [31, 0, 0, 774]), (89, 1, 1, 2, 0, 0, []), (90, 1, 12, 0, 0, 0, []), (91, 1, 4, 0, 0, 1, []), (92, 1, 11, 0, 1, 0, []), (93, 1, 12, 0, 0, 0, []), (94, 1, 10, 3, 0, 0, []), (95, 1, 0, 0, 0, 0, []), (96, 3, 3, 8, 8, 0, [25, 0, 0, 771]), (99, 1, 0, 0, 0, 0, []), (100, 3, 3, 8, 11, 0, [31, 0, 0, 774]), (103, 1, 1, 2, 0, 0, []), (104, 1, 4, 0, 0, 1, []), (105, 1, 11, 0, 0, 0, []), (106, 1, 12, 0, 0, 0, []), (107, 1, 4, 0, 0, 1, []), (108, 1, 11, 0, 1, 0, []), (109, 1, 12, 0, 0, 0, []), (110, 2, 10, 4, 0, 0, []), (112, 1, 1, 1, 0, 0, []), (113, 2, 4, 0, 1, 13, []), (115, 3, 13, 124, 3, 0, []), (118, 1, 1, 2, 0, 0, []), (119, 1, 4, 0, 0, 1, []), (120, 1, 11, 0, 0, 0, []), (121, 3, 5, 127, 0, 0, []), (124, 1, 1, 2, 0, 0, []), (125, 1, 4, 0, 0, 1, []), (126, 1, 11, 0, 1, 0, []), (127, 2, 10, 5, 0, 0, []), (129, 1, 0, 0, 0, 0, []), (130, 1, 1, 3, 0, 0, []), (131, 2, 1, 4, 0, 0, []), (133, 3, 13, 140, 5, 0, []), (136, 1, 1, 3, 0, 0, []), (137, 3, 5, 142, 0, 0, []), (140, 2, 1, 4, 0, 0, []), (142, 3, 16, 8, 13, 0, [96, 0, 0, 776]), (145, 1, 0, 0, 0, 0, []), (146, 3, 3, 8, 12, 0, [34, 0, 0, 775]), (149, 1, 1, 1, 0, 0, []), (150, 2, 4, 0, 1, 13, []), (152, 3, 13, 159, 3, 0, []), (155, 1, 1, 2, 0, 0, []), (156, 3, 5, 162, 0, 0, []), (159, 1, 1, 2, 0, 0, []), (160, 1, 4, 0, 0, 1, []), (161, 1, 11, 0, 0, 0, []), (162, 1, 4, 0, 0, 0, []), (163, 1, 18, 0, 0, 0, []), (164, 1, 0, 0, 0, 0, []), (165, 3, 3, 8, 12, 0, [34, 0, 0, 775]), (168, 2, 1, 5, 0, 0, []), (170, 1, 0, 0, 0, 0, []), (171, 3, 3, 8, 11, 0, [31, 0, 0, 774]), (174, 1, 1, 2, 0, 0, []), (175, 1, 12, 0, 0, 0, []), (176, 1, 18, 0, 0, 0, []), (177, 1, 0, 0, 0, 0, []), (178, 3, 3, 8, 12, 0, [34, 0, 0, 775]), (181, 2, 1, 5, 0, 0, []), (183, 1, 4, 0, 0, 1, []), (184, 1, 11, 0, 0, 0, []), (185, 1, 0, 0, 0, 0, []), (186, 3, 3, 8, 11, 0, [31, 0, 0, 774]), (189, 1, 1, 2, 0, 0, []), (190, 1, 4, 0, 0, 1, []), (191, 1, 11, 0, 0, 0, []), (192, 1, 12, 0, 0, 0, []), (193, 1, 18, 0, 0, 0, []), (194, 1, 19, 0, 0, 0, [])]
def K_46 : pC := [(2, [true, true, true]), (127, [true, true, true, true, true]), (142, [true, true, true, false, false, true]), (162, [true, false, true, false, false, true])]
/-- yX10_goesOn -/
def T_47 : List pE := [(0, 1, 4, 0, 0, 0, []), (1, 1, 10, 1, 0, 0, []), (2, 1, 1, 1, 0, 0, []), (3, 2, 4, 0, 1, 7, []), (5, 3, 13, 26, 3, 0, []), (8, 1, 0, 0, 0, 0, []), (9, 3, 3, 8, 11, 0, [31, 0, 0, 774]), (12, 1, 1, 1, 0, 0, []), (13, 1, 0, 0, 0, 0, []), (14, 3, 3, 8, 12, 0, [34, 0, 0, 775]), (17, 1, 1, 1, 0, 0, []), (18, 1, 12, 0, 0, 0, []), (19, 1, 18, 0, 0, 0, []), (20, 3, 15, 1, 0, 1, []), (23, 3, 5, 2, 0, 0, []), (26, 1, 19, 0, 0, 0, [])]
def K_47 : pC := [(2, [true, true])]
/-- yX10_stands -/
def T_48 : List pE := [(0, 1, 4, 0, 0, 0, []), (1, 1, 10, 1, 0, 0, []), (2, 1, 1, 1, 0, 0, []), (3, 2, 4, 0, 1, 7, []), (5, 3, 13, 93, 3, 0, []), (8, 1, 0, 0, 0, 0, []), (9, 3, 3, 8, 11, 0, [31, 0, 0, 774]), (12, 1, 1, 1, 0, 0, []), (13, 1, 12, 0, 0, 0, []), (14, 1, 4, 0, 0, 1, []), (15, 1, 11, 0, 1, 0, []), (16, 1, 10, 2, 0, 0, []), (17, 1, 0, 0, 0, 0, []), (18, 3, 3, 8, 0, 0, [7, 0, 0, 763]), (21, 1, 4, 0, 0, 0, []), (22, 1, 1, 1, 0, 0, []), (23, 1, 11, 0, 0, 0, []), (24, 1, 1, 2, 0, 0, []), (25, 3, 14, 32, 3, 0, []), (28, 1, 4, 0, 0, 0, []), (29, 3, 5, 40, 0, 0, []), (32, 1, 0, 0, 0, 0, []), (33, 3, 3, 8, 7, 0, [22, 0, 0, 770]), (36, 1, 1, 2, 0, 0, []), (37, 1, 12, 0, 0, 0, []), (38, 1, 4, 0, 0, 1, []), (39, 1, 11, 0, 0, 0, []), (40, 1, 18, 0, 0, 0, []), (41, 1, 0, 0, 0, 0, []), (42, 3, 3, 8, 0, 0, [7, 0, 0, 763]), (45, 2, 4, 0, 1, 7, []), (47, 1, 1, 1, 0, 0, []), (48, 1, 11, 0, 0, 0, []), (49, 1, 1, 2, 0, 0, []), (50, 3, 14, 57, 3, 0, []), (53, 1, 4, 0, 0, 0, []), (54, 3, 5, 63, 0, 0, []), (57, 1, 0, 0, 0, 0, []), (58, 3, 3, 8, 8, 0, [25, 0, 0, 771]), (61, 1, 1, 2, 0, 0, []), (62, 1, 12, 0, 0, 0, []), (63, 1, 18, 0, 0, 0, []), (64, 1, 0, 0, 0, 0, []), (65, 3, 3, 8, 0, 0, [7, 0, 0, 763]), (68, 2, 4, 0, 1, 14, []), (70, 1, 1, 1, 0, 0, []), (71, 1, 11, 0, 0, 0, []), (72, 1, 1, 2, 0, 0, []), (73, 3, 14, 80, 3, 0, []), (76, 1, 4, 0, 0, 0, []), (77, 3, 5, 86, 0, 0, []), (80, 1, 0, 0, 0, 0, []), (81, 3, 3, 8, 9, 0, [28, 0, 0, 772]), (84, 1, 1, 2, 0, 0, []), (85, 1, 12, 0, 0, 0, []), (86, 1, 18, 0, 0, 0, []), (87, 3, 15, 1, 0, 1, []), (90, 3, 5, 2, 0, 0, []), (93, 1, 19, 0, 0, 0, [])]
def K_48 : pC := [(2, [true, true]), (40, [true, true, true]), (63, [true, true, true])]
/-- yX10_does -/
def T_49 : List pE := [(0, 1, 0, 0, 0, 0, []), (1, 3, 6, 25, 1, 0, [72, 0, 8, 839, 842, 62, 841, 20]), (4, 1, 0, 0, 0, 0, []), (5, 1, 1, 1, 0, 0, []), (6, 3, 6, 45, 2, 0, [114, 1, 8, 867, 870, 62, 869, 24]), (9, 1, 10, 2, 0, 0, []), (10, 1, 1, 2, 0, 0, []), (11, 3, 14, 27, 5, 0, []), (14, 1, 0, 0, 0, 0, []), (15, 3, 3, 8, 0, 0, [7, 0, 0, 763]), (18, 2, 4, 0, 1, 25, []), (20, 1, 31, 0, 0, 0, []), (21, 1, 12, 0, 0, 0, []), (22, 1, 4, 0, 0, 1, []), (23, 1, 11, 0, 0, 0, []), (24, 1, 18, 0, 0, 0, []), (25, 1, 1, 2, 0, 0, []), (26, 1, 9, 0, 0, 0, []), (27, 1, 0, 0, 0, 0, []), (28, 1, 1, 1, 0, 0, []), (29, 3, 6, 46, 2, 0, [117, 0, 8, 871, 874, 62, 873, 25]), (32, 1, 0, 0, 0, 0, []), (33, 3, 6, 47, 1, 0, [135, 0, 8, 875, 878, 62, 877, 26]), (36, 1, 0, 0, 0, 0, []), (37, 3, 6, 48, 1, 0, [138, 0, 8, 879, 882, 62, 881, 27]), (40, 1, 0, 0, 0, 0, []), (41, 3, 3, 8, 0, 0, [7, 0, 0, 763]), (44, 2, 4, 0, 1, 23, []), (46, 1, 31, 0, 0, 0, []), (47, 1, 12, 0, 0, 0, []), (48, 1, 4, 0, 0, 1, []), (49, 1, 11, 0, 0, 0, []), (50, 1, 18, 0, 0, 0, []), (51, 1, 0, 0, 0, 0, []), (52, 3, 3, 8, 0, 0, [7, 0, 0, 763]), (55, 2, 4, 0, 1, 24, []), (57, 1, 31, 0, 0, 0, []), (58, 1, 12, 0, 0, 0, []), (59, 1, 0, 0, 0, 0, []), (60, 3, 2, 8, 13, 0, [96, 0, 0, 776]), (63, 1, 11, 0, 0, 0, []), (64, 1, 18, 0, 0, 0, []), (65, 1, 4, 0, 0, 0, []), (66, 1, 9, 0, 0, 0, [])]
def K_49 : pC := []
/-- yX10_pull -/
def T_50 : List pE := [(0, 1, 1, 1, 0, 0, []), (1, 3, 7, 23, 1, 0, [92, 1, 0, 828, 830, 62, 829]), (4, 3, 14, 9, 1, 0, []), (7, 1, 4, 0, 0, (-1), []), (8, 1, 9, 0, 0, 0, []), (9, 1, 0, 0, 0, 0, []), (10, 3, 6, 27, 1, 0, [132, 0, 8, 843, 846, 62, 845, 21]), (13, 1, 0, 0, 0, 0, []), (14, 3, 6, 25, 1, 0, [72, 0, 8, 839, 842, 62, 841, 20]), (17, 1, 0, 0, 0, 0, []), (18, 1, 1, 1, 0, 0, []), (19, 3, 6, 44, 2, 0, [99, 1, 8, 859, 862, 62, 861, 22]), (22, 1, 10, 2, 0, 0, []), (23, 1, 0, 0, 0, 0, []), (24, 1, 1, 1, 0, 0, []), (25, 3, 6, 49, 2, 0, [141, 1, 8, 863, 866, 62, 865, 23]), (28, 1, 10, 3, 0, 0, []), (29, 1, 1, 3, 0, 0, []), (30, 3, 14, 37, 5, 0, []), (33, 1, 1, 3, 0, 0, []), (34, 3, 5, 41, 0, 0, []), (37, 2, 4, 0, 1, 10, []), (39, 1, 1, 2, 0, 0, []), (40, 1, 11, 0, 0, 0, []), (41, 1, 9, 0, 0, 0, [])]
def K_50 : pC := []
/-- yX9_push -/
def T_51 : List pE := [(0, 1, 1, 1, 0, 0, []), (1, 2, 4, 0, 1, 6, []), (3, 3, 7, 9, 2, 0, [60, 1, 0, 311, 313, 54, 312]), (6, 3, 14, 11, 1, 0, []), (9, 1, 4, 0, 0, (-1), []), (10, 1, 9, 0, 0, 0, []), (11, 1, 0, 0, 0, 0, []), (12, 3, 3, 7, 3, 0, [26, 0, 0, 285]), (15, 1, 0, 0, 0, 0, []), (16, 3, 3, 7, 0, 0, [10, 0, 0, 282]), (19, 3, 6, 16, 2, 0, [81, 0, 1, 325, 328, 57, 326, 327]), (22, 1, 0, 0, 0, 0, []), (23, 3, 3, 7, 0, 0, [10, 0, 0, 282]), (26, 1, 1, 2, 0, 0, []), (27, 3, 14, 35, 0, 0, []), (30, 2, 4, 0, 1, 7, []), (32, 3, 5, 37, 0, 0, []), (35, 2, 4, 0, 1, 13, []), (37, 1, 1, 1, 0, 0, []), (38, 1, 11, 0, 0, 0, []), (39, 3, 6, 42, 2, 0, [101, 1, 6, 383, 386, 55, 384, 385]), (42, 1, 9, 0, 0, 0, [])]
def K_51 : pC := []
/-- yX10_push -/
def T_52 : List pE := [(0, 1, 1, 1, 0, 0, []), (1, 1, 4, 0, 0, 0, []), (2, 1, 4, 0, 0, 5, []), (3, 3, 7, 22, 3, 0, [57, 1, 0, 825, 827, 62, 826]), (6, 3, 14, 11, 1, 0, []), (9, 1, 4, 0, 0, (-1), []), (10, 1, 9, 0, 0, 0, []), (11, 1, 0, 0, 0, 0, []), (12, 3, 6, 27, 1, 0, [132, 0, 8, 843, 846, 62, 845, 21]), (15, 1, 0, 0, 0, 0, []), (16, 1, 1, 2, 0, 0, []), (17, 3, 14, 25, 0, 0, []), (20, 2, 4, 0, 1, 7, []), (22, 3, 5, 27, 0, 0, []), (25, 2, 4, 0, 1, 13, []), (27, 1, 1, 1, 0, 0, []), (28, 1, 11, 0, 0, 0, []), (29, 3, 6, 49, 2, 0, [141, 1, 8, 863, 866, 62, 865, 23]), (32, 1, 9, 0, 0, 0, [])]
def K_52 : pC := []
/-- yX9_set -/
def T_53 : List pE := [(0, 1, 1, 1, 0, 0, []), (1, 1, 4, 0, 0, 2, []), (2, 3, 7, 9, 2, 0, [60, 1, 0, 311, 313, 54, 312]), (5, 3, 14, 16, 0, 0, []), (8, 1, 1, 2, 0, 0, []), (9, 1, 4, 0, 0, 2, []), (10, 3, 7, 9, 2, 0, [60, 1, 0, 311, 313, 54, 312]), (13, 3, 14, 18, 1, 0, []), (16, 1, 4, 0, 0, (-1), []), (17, 1, 9, 0, 0, 0, []), (18, 1, 0, 0, 0, 0, []), (19, 3, 3, 7, 3, 0, [26, 0, 0, 285]), (22, 1, 0, 0, 0, 0, []), (23, 3, 3, 7, 0, 0, [10, 0, 0, 282]), (26, 3, 6, 16, 2, 0, [81, 0, 1, 325, 328, 57, 326, 327]), (29, 1, 1, 1, 0, 0, []), (30, 3, 14, 52, 1, 0, []), (33, 1, 0, 0, 0, 0, []), (34, 3, 3, 7, 0, 0, [10, 0, 0, 282]), (37, 3, 2, 6, 5, 0, [104, 1, 0, 112]), (40, 1, 10, 3, 0, 0, []), (41, 1, 0, 0, 0, 0, []), (42, 3, 3, 7, 0, 0, [10, 0, 0, 282]), (45, 1, 1, 2, 0, 0, []), (46, 3, 16, 6, 5, 0, [104, 1, 0, 112]), (49, 3, 5, 68, 0, 0, []), (52, 1, 0, 0, 0, 0, []), (53, 3, 3, 7, 0, 0, [10, 0, 0, 282]), (56, 3, 2, 6, 6, 0, [107, 1, 0, 115]), (59, 1, 10, 3, 0, 0, []), (60, 1, 0, 0, 0, 0, []), (61, 3, 3, 7, 0, 0, [10, 0, 0, 282]), (64, 1, 1, 2, 0, 0, []), (65, 3, 16, 6, 6, 0, [107, 1, 0, 115]), (68, 1, 1, 3, 0, 0, []), (69, 1, 9, 0, 0, 0, [])]
def K_53 : pC := []
/-- yX10_set -/
def T_54 : List pE := [(0, 1, 1, 1, 0, 0, []), (1, 1, 4, 0, 0, 0, []), (2, 1, 4, 0, 0, 1, []), (3, 3, 7, 22, 3, 0, [57, 1, 0, 825, 827, 62, 826]), (6, 3, 14, 18, 0, 0, []), (9, 1, 1, 2, 0, 0, []), (10, 1, 4, 0, 0, 0, []), (11, 1, 4, 0, 0, 1, []), (12, 3, 7, 22, 3, 0, [57, 1, 0, 825, 827, 62, 826]), (15, 3, 14, 20, 1, 0, []), (18, 1, 4, 0, 0, (-1), []), (19, 1, 9, 0, 0, 0, []), (20, 1, 0, 0, 0, 0, []), (21, 3, 6, 27, 1, 0, [132, 0, 8, 843, 846, 62, 845, 21]), (24, 1, 0, 0, 0, 0, []), (25, 3, 3, 8, 0, 0, [7, 0, 0, 763]), (28, 2, 4, 0, 1, 21, []), (30, 1, 1, 1, 0, 0, []), (31, 1, 11, 0, 0, 0, []), (32, 1, 12, 0, 0, 0, []), (33, 1, 10, 3, 0, 0, []), (34, 1, 0, 0, 0, 0, []), (35, 3, 3, 8, 0, 0, [7, 0, 0, 763]), (38, 2, 4, 0, 1, 21, []), (40, 1, 1, 1, 0, 0, []), (41, 1, 11, 0, 0, 0, []), (42, 1, 1, 2, 0, 0, []), (43, 1, 18, 0, 0, 0, []), (44, 1, 1, 3, 0, 0, []), (45, 1, 9, 0, 0, 0, [])]
def K_54 : pC := []
/-- yX2_write -/
def T_55 : List pE := [(0, 1, 0, 0, 0, 0, []), (1, 3, 3, 2, 0, 0, [14, 0, 0, 169]), (4, 1, 0, 0, 0, 0, []), (5, 3, 2, 2, 1, 0, [20, 0, 0, 170]), (8, 1, 1, 1, 0, 0, []), (9, 3, 6, 17, 3, 0, [24, 0, 4, 426, 349, 56, 347, 348]), (12, 1, 0, 0, 0, 0, []), (13, 1, 20, 0, 0, 0, []), (14, 3, 2, 2, 1, 0, [20, 0, 0, 170]), (17, 1, 4, 0, 0, 1, []), (18, 1, 11, 0, 0, 0, []), (19, 3, 16, 2, 1, 0, [20, 0, 0, 170]), (22, 1, 19, 0, 0, 0, [])]
def K_55 : pC := []
/-- yX9_append -/
def T_56 : List pE := [(0, 1, 1, 1, 0, 0, []), (1, 2, 4, 0, 1, 33, []), (3, 3, 13, 12, 2, 0, []), (6, 1, 1, 1, 0, 0, []), (7, 2, 4, 0, 1, 126, []), (9, 3, 13, 14, 5, 0, []), (12, 1, 4, 0, 0, (-1), []), (13, 1, 9, 0, 0, 0, []), (14, 1, 0, 0, 0, 0, []), (15, 3, 3, 7, 4, 0, [33, 0, 0, 286]), (18, 3, 2, 2, 1, 0, [110, 1, 0, 171]), (21, 2, 4, 0, 1, 60, []), (23, 3, 13, 29, 2, 0, []), (26, 2, 4, 0, 1, (-3), []), (28, 1, 9, 0, 0, 0, []), (29, 1, 0, 0, 0, 0, []), (30, 3, 3, 7, 4, 0, [33, 0, 0, 286]), (33, 1, 1, 1, 0, 0, []), (34, 3, 6, 55, 2, 0, [113, 0, 2, 422, 425, 58, 423, 424]), (37, 1, 0, 0, 0, 0, []), (38, 3, 3, 7, 4, 0, [33, 0, 0, 286]), (41, 3, 2, 2, 1, 0, [110, 1, 0, 171]), (44, 1, 9, 0, 0, 0, [])]
def K_56 : pC := []
/-- yX10_append -/
def T_57 : List pE := [(0, 1, 1, 1, 0, 0, []), (1, 2, 4, 0, 1, 33, []), (3, 2, 4, 0, 1, 126, []), (5, 3, 7, 22, 3, 0, [57, 1, 0, 825, 827, 62, 826]), (8, 3, 14, 13, 1, 0, []), (11, 1, 4, 0, 0, (-1), []), (12, 1, 9, 0, 0, 0, []), (13, 1, 0, 0, 0, 0, []), (14, 3, 2, 8, 6, 0, [144, 0, 0, 769]), (17, 2, 4, 0, 1, 60, []), (19, 3, 13, 25, 1, 0, []), (22, 2, 4, 0, 1, (-3), []), (24, 1, 9, 0, 0, 0, []), (25, 1, 0, 0, 0, 0, []), (26, 3, 3, 8, 5, 0, [19, 0, 0, 768]), (29, 1, 0, 0, 0, 0, []), (30, 3, 2, 8, 6, 0, [144, 0, 0, 769]), (33, 1, 1, 1, 0, 0, []), (34, 1, 18, 0, 0, 0, []), (35, 1, 0, 0, 0, 0, []), (36, 1, 20, 0, 0, 0, []), (37, 3, 2, 8, 6, 0, [144, 0, 0, 769]), (40, 1, 4, 0, 0, 1, []), (41, 1, 11, 0, 0, 0, []), (42, 3, 16, 8, 6, 0, [144, 0, 0, 769]), (45, 1, 0, 0, 0, 0, []), (46, 3, 2, 8, 6, 0, [144, 0, 0, 769]), (49, 1, 9, 0, 0, 0, [])]
def K_57 : pC := []
/-- yX9_clear -/
def T_58 : List pE := [(0, 1, 0, 0, 0, 0, []), (1, 3, 3, 7, 4, 0, [33, 0, 0, 286]), (4, 3, 2, 2, 1, 0, [110, 1, 0, 171]), (7, 1, 10, 1, 0, 0, []), (8, 1, 0, 0, 0, 0, []), (9, 3, 3, 7, 4, 0, [33, 0, 0, 286]), (12, 1, 4, 0, 0, 0, []), (13, 3, 16, 2, 1, 0, [110, 1, 0, 171]), (16, 1, 1, 1, 0, 0, []), (17, 1, 9, 0, 0, 0, [])]
def K_58 : pC := []
/-- yX10_clear -/
def T_59 : List pE := [(0, 1, 0, 0, 0, 0, []), (1, 3, 2, 8, 6, 0, [144, 0, 0, 769]), (4, 1, 10, 1, 0, 0, []), (5, 1, 0, 0, 0, 0, []), (6, 1, 4, 0, 0, 0, []), (7, 3, 16, 8, 6, 0, [144, 0, 0, 769]), (10, 1, 1, 1, 0, 0, []), (11, 1, 9, 0, 0, 0, [])]
def K_59 : pC := []
/-- yX2_isKind -/
def T_60 : List pE := [(0, 1, 1, 0, 0, 0, []), (1, 2, 4, 0, 1, 112, []), (3, 3, 13, 18, 0, 0, []), (6, 1, 1, 0, 0, 0, []), (7, 2, 4, 0, 1, 114, []), (9, 3, 13, 18, 0, 0, []), (12, 1, 1, 0, 0, 0, []), (13, 2, 4, 0, 1, 108, []), (15, 3, 13, 22, 1, 0, []), (18, 1, 4, 0, 0, 1, []), (19, 3, 5, 23, 0, 0, []), (22, 1, 4, 0, 0, 0, []), (23, 1, 9, 0, 1, 0, [])]
def K_60 : pC := []
/-- yX2_isPlaceFor -/
def T_61 : List pE := [(0, 1, 1, 1, 0, 0, []), (1, 2, 4, 0, 1, 48, []), (3, 3, 13, 30, 2, 0, []), (6, 1, 1, 1, 0, 0, []), (7, 2, 4, 0, 1, 48, []), (9, 1, 1, 0, 0, 0, []), (10, 2, 4, 0, 1, 112, []), (12, 3, 13, 20, 1, 0, []), (15, 2, 4, 0, 1, 7, []), (17, 3, 5, 22, 0, 0, []), (20, 2, 4, 0, 1, 6, []), (22, 1, 11, 0, 0, 0, []), (23, 3, 13, 30, 3, 0, []), (26, 1, 4, 0, 0, 1, []), (27, 3, 5, 31, 0, 0, []), (30, 1, 4, 0, 0, 0, []), (31, 1, 9, 0, 1, 0, [])]
def K_61 : pC := []
/-- yX2_programFault -/
def T_62 : List pE := [(0, 1, 4, 0, 0, 0, []), (1, 1, 10, 1, 0, 0, []), (2, 1, 1, 1, 0, 0, []), (3, 1, 0, 0, 0, 0, []), (4, 3, 2, 2, 1, 0, [20, 0, 0, 170]), (7, 3, 13, 59, 3, 0, []), (10, 1, 0, 0, 0, 0, []), (11, 3, 3, 2, 0, 0, [14, 0, 0, 169]), (14, 1, 1, 1, 0, 0, []), (15, 3, 6, 10, 2, 0, [28, 1, 4, 439, 321, 56, 319, 320]), (18, 1, 10, 2, 0, 0, []), (19, 1, 1, 1, 0, 0, []), (20, 1, 4, 0, 0, 1, []), (21, 1, 11, 0, 3, 0, []), (22, 3, 14, 32, 1, 0, []), (25, 1, 1, 2, 0, 0, []), (26, 3, 7, 60, 1, 0, [32, 1, 0, 440, 442, 58, 441]), (29, 3, 5, 46, 0, 0, []), (32, 1, 0, 0, 0, 0, []), (33, 3, 3, 2, 0, 0, [14, 0, 0, 169]), (36, 1, 1, 1, 0, 0, []), (37, 1, 4, 0, 0, 1, []), (38, 1, 11, 0, 1, 0, []), (39, 3, 6, 10, 2, 0, [28, 1, 4, 439, 321, 56, 319, 320]), (42, 1, 1, 2, 0, 0, []), (43, 3, 7, 61, 2, 0, [36, 1, 0, 443, 445, 58, 444]), (46, 1, 10, 3, 0, 0, []), (47, 1, 1, 3, 0, 0, []), (48, 3, 14, 53, 1, 0, []), (51, 1, 1, 1, 0, 0, []), (52, 1, 9, 0, 0, 0, []), (53, 3, 15, 1, 0, 1, []), (56, 3, 5, 2, 0, 0, []), (59, 1, 0, 0, 0, 0, []), (60, 3, 2, 2, 1, 0, [20, 0, 0, 170]), (63, 3, 14, 76, 0, 0, []), (66, 1, 0, 0, 0, 0, []), (67, 3, 2, 2, 1, 0, [20, 0, 0, 170]), (70, 1, 4, 0, 0, 1, []), (71, 1, 11, 0, 3, 0, []), (72, 1, 4, 0, 0, 1, []), (73, 3, 13, 83, 1, 0, []), (76, 1, 0, 0, 0, 0, []), (77, 3, 2, 2, 1, 0, [20, 0, 0, 170]), (80, 3, 5, 85, 0, 0, []), (83, 2, 4, 0, 1, (-4), []), (85, 1, 9, 0, 0, 0, [])]
def K_62 : pC := [(2, [true, true])]
/-- yX2_slotOfSign -/
def T_63 : List pE := [(0, 1, 0, 0, 0, 0, []), (1, 1, 1, 1, 0, 0, []), (2, 2, 4, 0, 1, 97, []), (4, 1, 11, 0, 1, 0, []), (5, 3, 6, 11, 2, 0, [54, 1, 6, 453, 317, 55, 315, 316]), (8, 1, 9, 0, 0, 0, [])]
def K_63 : pC := []
/-- yX2_wordFault -/
def T_64 : List pE := [(0, 2, 4, 0, 1, 7, []), (2, 1, 0, 1, 0, 0, []), (3, 3, 2, 6, 1, 0, [40, 1, 0, 99]), (6, 1, 11, 0, 1, 0, []), (7, 1, 10, 2, 0, 0, []), (8, 1, 4, 0, 0, 1, []), (9, 1, 0, 1, 0, 0, []), (10, 3, 2, 6, 1, 0, [40, 1, 0, 99]), (13, 1, 4, 0, 0, 1, []), (14, 1, 11, 0, 0, 0, []), (15, 1, 11, 0, 6, 0, []), (16, 1, 4, 0, 0, 2, []), (17, 1, 11, 0, 1, 0, []), (18, 1, 10, 3, 0, 0, []), (19, 1, 4, 0, 0, 0, []), (20, 2, 10, 4, 0, 0, []), (22, 2, 1, 4, 0, 0, []), (24, 1, 0, 0, 0, 0, []), (25, 3, 2, 2, 1, 0, [20, 0, 0, 170]), (28, 3, 13, 104, 3, 0, []), (31, 1, 0, 0, 0, 0, []), (32, 3, 3, 2, 0, 0, [14, 0, 0, 169]), (35, 2, 1, 4, 0, 0, []), (37, 3, 6, 10, 2, 0, [28, 1, 4, 439, 321, 56, 319, 320]), (40, 2, 10, 5, 0, 0, []), (42, 1, 0, 1, 0, 0, []), (43, 2, 1, 5, 0, 0, []), (45, 3, 7, 63, 2, 0, [45, 1, 0, 450, 452, 58, 451]), (48, 2, 10, 6, 0, 0, []), (50, 2, 1, 5, 0, 0, []), (52, 2, 4, 0, 1, 46, []), (54, 3, 13, 64, 1, 0, []), (57, 1, 1, 2, 0, 0, []), (58, 3, 14, 76, 1, 0, []), (61, 3, 5, 73, 0, 0, []), (64, 1, 1, 3, 0, 0, []), (65, 2, 1, 6, 0, 0, []), (67, 3, 7, 32, 2, 0, [49, 1, 0, 454, 372, 63, 371]), (70, 3, 14, 76, 1, 0, []), (73, 2, 1, 4, 0, 0, []), (75, 1, 9, 0, 0, 0, []), (76, 2, 1, 5, 0, 0, []), (78, 2, 4, 0, 1, 46, []), (80, 3, 13, 89, 1, 0, []), (83, 3, 15, 2, 0, (-1), []), (86, 3, 5, 98, 0, 0, []), (89, 1, 1, 3, 0, 0, []), (90, 1, 4, 0, 0, 1, []), (91, 2, 1, 6, 0, 0, []), (93, 1, 11, 0, 6, 0, []), (94, 1, 4, 0, 0, (-1), []), (95, 1, 11, 0, 5, 0, []), (96, 1, 11, 0, 3, 0, []), (97, 1, 10, 3, 0, 0, []), (98, 3, 15, 4, 0, 1, []), (101, 3, 5, 22, 0, 0, []), (104, 1, 0, 0, 0, 0, []), (105, 3, 2, 2, 1, 0, [20, 0, 0, 170]), (108, 2, 4, 0, 1, 7, []), (110, 3, 13, 120, 3, 0, []), (113, 1, 0, 0, 0, 0, []), (114, 3, 2, 2, 1, 0, [20, 0, 0, 170]), (117, 3, 5, 122, 0, 0, []), (120, 2, 4, 0, 1, (-4), []), (122, 1, 9, 0, 0, 0, [])]
def K_64 : pC := [(22, [true, true, true, true, true]), (76, [true, true, true, true, true, true, true])]
/-- yX9_fault -/
def T_65 : List pE := [(0, 1, 1, 1, 0, 0, []), (1, 1, 4, 0, 0, 2, []), (2, 3, 7, 9, 2, 0, [60, 1, 0, 311, 313, 54, 312]), (5, 3, 14, 10, 1, 0, []), (8, 1, 4, 0, 0, (-1), []), (9, 1, 9, 0, 0, 0, []), (10, 1, 1, 1, 0, 0, []), (11, 3, 14, 24, 1, 0, []), (14, 1, 0, 0, 0, 0, []), (15, 3, 3, 7, 4, 0, [33, 0, 0, 286]), (18, 3, 6, 62, 1, 0, [117, 1, 2, 435, 438, 58, 436, 437]), (21, 3, 5, 35, 0, 0, []), (24, 1, 0, 0, 0, 0, []), (25, 3, 3, 7, 4, 0, [33, 0, 0, 286]), (28, 1, 0, 0, 0, 0, []), (29, 3, 3, 7, 0, 0, [10, 0, 0, 282]), (32, 3, 6, 64, 2, 0, [121, 1, 2, 446, 449, 58, 447, 448]), (35, 1, 9, 0, 0, 0, [])]
def K_65 : pC := []
/-- yX10_mostOf -/
def T_66 : List pE := [(0, 1, 1, 0, 0, 0, []), (1, 2, 4, 0, 1, 112, []), (3, 3, 13, 11, 1, 0, []), (6, 2, 4, 0, 1, 6, []), (8, 3, 5, 28, 0, 0, []), (11, 1, 1, 0, 0, 0, []), (12, 2, 4, 0, 1, 114, []), (14, 3, 13, 23, 0, 0, []), (17, 1, 1, 0, 0, 0, []), (18, 2, 4, 0, 1, 108, []), (20, 3, 13, 27, 1, 0, []), (23, 1, 4, 0, 0, 5, []), (24, 3, 5, 28, 0, 0, []), (27, 1, 4, 0, 0, (-1), []), (28, 1, 9, 0, 0, 0, [])]
def K_66 : pC := []
/-- yX10_faultOfProgram -/
def T_67 : List pE := [(0, 1, 4, 0, 0, 0, []), (1, 1, 10, 1, 0, 0, []), (2, 1, 1, 1, 0, 0, []), (3, 1, 0, 0, 0, 0, []), (4, 3, 2, 8, 6, 0, [144, 0, 0, 769]), (7, 3, 13, 73, 3, 0, []), (10, 1, 1, 1, 0, 0, []), (11, 1, 4, 0, 0, 2, []), (12, 1, 44, 0, 0, 0, []), (13, 3, 14, 36, 1, 0, []), (16, 1, 0, 0, 0, 0, []), (17, 3, 3, 8, 5, 0, [19, 0, 0, 768]), (20, 1, 1, 1, 0, 0, []), (21, 1, 12, 0, 0, 0, []), (22, 3, 7, 66, 1, 0, [147, 1, 0, 907, 909, 62, 908]), (25, 3, 14, 32, 5, 0, []), (28, 1, 4, 0, 0, 1, []), (29, 3, 5, 60, 0, 0, []), (32, 1, 4, 0, 0, 0, []), (33, 3, 5, 60, 0, 0, []), (36, 1, 0, 0, 0, 0, []), (37, 3, 3, 8, 5, 0, [19, 0, 0, 768]), (40, 1, 1, 1, 0, 0, []), (41, 1, 12, 0, 0, 0, []), (42, 2, 4, 0, 1, 48, []), (44, 1, 11, 0, 1, 0, []), (45, 1, 4, 0, 0, 0, []), (46, 1, 0, 0, 0, 0, []), (47, 3, 3, 8, 5, 0, [19, 0, 0, 768]), (50, 1, 1, 1, 0, 0, []), (51, 1, 4, 0, 0, 1, []), (52, 1, 11, 0, 1, 0, []), (53, 1, 12, 0, 0, 0, []), (54, 3, 7, 66, 1, 0, [147, 1, 0, 907, 909, 62, 908]), (57, 3, 7, 22, 3, 0, [57, 1, 0, 825, 827, 62, 826]), (60, 1, 10, 2, 0, 0, []), (61, 1, 1, 2, 0, 0, []), (62, 3, 14, 67, 1, 0, []), (65, 1, 1, 1, 0, 0, []), (66, 1, 9, 0, 0, 0, []), (67, 3, 15, 1, 0, 1, []), (70, 3, 5, 2, 0, 0, []), (73, 1, 0, 0, 0, 0, []), (74, 3, 2, 8, 6, 0, [144, 0, 0, 769]), (77, 3, 14, 90, 0, 0, []), (80, 1, 0, 0, 0, 0, []), (81, 3, 2, 8, 6, 0, [144, 0, 0, 769]), (84, 1, 4, 0, 0, 2, []), (85, 1, 44, 0, 0, 0, []), (86, 1, 4, 0, 0, 1, []), (87, 3, 13, 97, 1, 0, []), (90, 1, 0, 0, 0, 0, []), (91, 3, 2, 8, 6, 0, [144, 0, 0, 769]), (94, 3, 5, 99, 0, 0, []), (97, 2, 4, 0, 1, (-4), []), (99, 1, 9, 0, 0, 0, [])]
def K_67 : pC := [(2, [true, true])]
/-- yX10_signed -/
def T_68 : List pE := [(0, 1, 0, 0, 0, 0, []), (1, 3, 3, 8, 5, 0, [19, 0, 0, 768]), (4, 1, 1, 1, 0, 0, []), (5, 1, 12, 0, 0, 0, []), (6, 2, 4, 0, 1, 46, []), (8, 3, 13, 15, 1, 0, []), (11, 1, 4, 0, 0, 0, []), (12, 3, 5, 16, 0, 0, []), (15, 1, 4, 0, 0, (-1), []), (16, 1, 10, 2, 0, 0, []), (17, 1, 4, 0, 0, 0, []), (18, 1, 10, 3, 0, 0, []), (19, 1, 1, 3, 0, 0, []), (20, 1, 0, 0, 0, 0, []), (21, 3, 2, 8, 10, 0, [61, 0, 0, 773]), (24, 3, 13, 59, 3, 0, []), (27, 1, 0, 0, 0, 0, []), (28, 3, 3, 8, 5, 0, [19, 0, 0, 768]), (31, 1, 1, 1, 0, 0, []), (32, 1, 12, 0, 0, 0, []), (33, 2, 4, 0, 1, 97, []), (35, 1, 0, 0, 0, 0, []), (36, 3, 3, 8, 7, 0, [22, 0, 0, 770]), (39, 1, 1, 3, 0, 0, []), (40, 1, 12, 0, 0, 0, []), (41, 1, 11, 0, 0, 0, []), (42, 3, 13, 51, 1, 0, []), (45, 1, 1, 3, 0, 0, []), (46, 1, 4, 0, 0, 1, []), (47, 1, 11, 0, 0, 0, []), (48, 3, 5, 52, 0, 0, []), (51, 1, 1, 2, 0, 0, []), (52, 1, 10, 2, 0, 0, []), (53, 3, 15, 3, 0, 1, []), (56, 3, 5, 19, 0, 0, []), (59, 1, 1, 2, 0, 0, []), (60, 1, 9, 0, 0, 0, [])]
def K_68 : pC := [(19, [true, true, true, true])]
/-- yX10_faultOfWord -/
def T_69 : List pE := [(0, 1, 0, 0, 0, 0, []), (1, 3, 6, 25, 1, 0, [72, 0, 8, 839, 842, 62, 841, 20]), (4, 1, 4, 0, 0, 0, []), (5, 1, 10, 1, 0, 0, []), (6, 1, 1, 1, 0, 0, []), (7, 1, 0, 0, 0, 0, []), (8, 3, 2, 8, 6, 0, [144, 0, 0, 769]), (11, 3, 13, 104, 3, 0, []), (14, 1, 1, 1, 0, 0, []), (15, 2, 4, 0, 1, 7, []), (17, 3, 13, 28, 3, 0, []), (20, 1, 0, 0, 0, 0, []), (21, 1, 1, 1, 0, 0, []), (22, 3, 6, 68, 2, 0, [150, 1, 8, 914, 917, 62, 916, 30]), (25, 3, 5, 29, 0, 0, []), (28, 1, 4, 0, 0, (-1), []), (29, 1, 10, 2, 0, 0, []), (30, 1, 4, 0, 0, 0, []), (31, 1, 10, 3, 0, 0, []), (32, 1, 4, 0, 0, 0, []), (33, 2, 10, 4, 0, 0, []), (35, 2, 1, 4, 0, 0, []), (37, 1, 1, 1, 0, 0, []), (38, 3, 13, 69, 3, 0, []), (41, 1, 1, 2, 0, 0, []), (42, 3, 14, 69, 2, 0, []), (45, 1, 1, 3, 0, 0, []), (46, 1, 0, 0, 0, 0, []), (47, 2, 1, 4, 0, 0, []), (49, 3, 6, 68, 2, 0, [150, 1, 8, 914, 917, 62, 916, 30]), (52, 1, 1, 2, 0, 0, []), (53, 3, 13, 60, 1, 0, []), (56, 1, 4, 0, 0, 1, []), (57, 3, 5, 61, 0, 0, []), (60, 1, 4, 0, 0, 0, []), (61, 1, 11, 0, 0, 0, []), (62, 1, 10, 3, 0, 0, []), (63, 3, 15, 4, 0, 1, []), (66, 3, 5, 35, 0, 0, []), (69, 1, 1, 2, 0, 0, []), (70, 3, 14, 83, 1, 0, []), (73, 2, 4, 0, 1, 7, []), (75, 1, 0, 0, 0, 0, []), (76, 3, 2, 8, 10, 0, [61, 0, 0, 773]), (79, 1, 11, 0, 1, 0, []), (80, 3, 5, 84, 0, 0, []), (83, 1, 4, 0, 0, 1, []), (84, 2, 10, 4, 0, 0, []), (86, 1, 1, 2, 0, 0, []), (87, 3, 14, 96, 2, 0, []), (90, 1, 1, 3, 0, 0, []), (91, 2, 1, 4, 0, 0, []), (93, 3, 13, 98, 1, 0, []), (96, 1, 1, 1, 0, 0, []), (97, 1, 9, 0, 0, 0, []), (98, 3, 15, 1, 0, 1, []), (101, 3, 5, 6, 0, 0, []), (104, 1, 0, 0, 0, 0, []), (105, 3, 2, 8, 6, 0, [144, 0, 0, 769]), (108, 2, 4, 0, 1, 7, []), (110, 3, 13, 120, 3, 0, []), (113, 1, 0, 0, 0, 0, []), (114, 3, 2, 8, 6, 0, [144, 0, 0, 769]), (117, 3, 5, 122, 0, 0, []), (120, 2, 4, 0, 1, (-4), []), (122, 1, 9, 0, 0, 0, [])]
def K_69 : pC := [(6, [true, true]), (35, [true, true, true, true, true]), (69, [true, true, true, true]), (84, [true, true, true, true])]
/-- yX10_fault -/
def T_70 : List pE := [(0, 1, 1, 1, 0, 0, []), (1, 3, 14, 11, 1, 0, []), (4, 1, 0, 0, 0, 0, []), (5, 3, 6, 67, 1, 0, [153, 1, 8, 903, 906, 62, 905, 28]), (8, 3, 5, 24, 0, 0, []), (11, 1, 1, 1, 0, 0, []), (12, 1, 4, 0, 0, 1, []), (13, 3, 13, 23, 1, 0, []), (16, 1, 0, 0, 0, 0, []), (17, 3, 6, 69, 1, 0, [156, 1, 8, 910, 913, 62, 912, 29]), (20, 3, 5, 24, 0, 0, []), (23, 1, 4, 0, 0, (-1), []), (24, 1, 9, 0, 0, 0, [])]
def K_70 : pC := []
/-- yX2_readWord -/
def T_71 : List pE := [(0, 1, 4, 0, 0, 0, []), (1, 1, 10, 2, 0, 0, []), (2, 1, 4, 0, 0, 0, []), (3, 1, 10, 3, 0, 0, []), (4, 1, 1, 3, 0, 0, []), (5, 2, 4, 0, 1, 7, []), (7, 3, 13, 34, 3, 0, []), (10, 1, 1, 2, 0, 0, []), (11, 1, 1, 3, 0, 0, []), (12, 1, 0, 1, 0, 0, []), (13, 1, 0, 0, 0, 0, []), (14, 3, 3, 2, 0, 0, [14, 0, 0, 169]), (17, 1, 1, 3, 0, 0, []), (18, 3, 6, 10, 2, 0, [28, 1, 4, 439, 321, 56, 319, 320]), (21, 3, 7, 63, 2, 0, [45, 1, 0, 450, 452, 58, 451]), (24, 3, 7, 18, 3, 0, [57, 1, 0, 463, 357, 63, 356]), (27, 1, 10, 2, 0, 0, []), (28, 3, 15, 3, 0, 1, []), (31, 3, 5, 4, 0, 0, []), (34, 1, 1, 2, 0, 0, []), (35, 1, 9, 0, 0, 0, [])]
def K_71 : pC := [(4, [true, true, true, true])]
/-- yX3_ways -/
def T_72 : List pE := [(0, 1, 4, 0, 0, 1, []), (1, 1, 10, 2, 0, 0, []), (2, 1, 1, 0, 0, 0, []), (3, 1, 4, 0, 0, 1, []), (4, 1, 11, 0, 0, 0, []), (5, 1, 10, 3, 0, 0, []), (6, 1, 1, 3, 0, 0, []), (7, 1, 1, 0, 0, 0, []), (8, 1, 1, 1, 0, 0, []), (9, 1, 11, 0, 0, 0, []), (10, 3, 13, 23, 4, 0, []), (13, 1, 1, 2, 0, 0, []), (14, 1, 1, 3, 0, 0, []), (15, 1, 11, 0, 2, 0, []), (16, 1, 10, 2, 0, 0, []), (17, 3, 15, 3, 0, 1, []), (20, 3, 5, 6, 0, 0, []), (23, 1, 1, 2, 0, 0, []), (24, 1, 9, 0, 0, 0, [])]
def K_72 : pC := [(6, [true, true, true, true])]
/-- yJ6_bitCount_0f7a4 -/
def T_73 : List pE := [(0, 1, 1, 0, 0, 0, []), (1, 1, 1, 0, 0, 0, []), (2, 1, 4, 0, 0, 1, []), (3, 1, 11, 0, 8, 0, []), (4, 3, 4, 265, 4, 1431655765, [0, 0, 0, 478]), (7, 1, 11, 0, 3, 0, []), (8, 1, 11, 0, 1, 0, []), (9, 1, 10, 0, 0, 0, []), (10, 1, 1, 0, 0, 0, []), (11, 3, 4, 266, 4, 858993459, [0, 0, 0, 479]), (14, 1, 11, 0, 3, 0, []), (15, 1, 1, 0, 0, 0, []), (16, 1, 4, 0, 0, 2, []), (17, 1, 11, 0, 8, 0, []), (18, 3, 4, 266, 4, 858993459, [0, 0, 0, 479]), (21, 1, 11, 0, 3, 0, []), (22, 1, 11, 0, 0, 0, []), (23, 1, 10, 0, 0, 0, []), (24, 1, 1, 0, 0, 0, []), (25, 1, 1, 0, 0, 0, []), (26, 1, 4, 0, 0, 4, []), (27, 1, 11, 0, 8, 0, []), (28, 1, 11, 0, 0, 0, []), (29, 3, 4, 267, 4, 252645135, [0, 0, 0, 480]), (32, 1, 11, 0, 3, 0, []), (33, 1, 10, 0, 0, 0, []), (34, 1, 1, 0, 0, 0, []), (35, 1, 1, 0, 0, 0, []), (36, 2, 4, 0, 1, 8, []), (38, 1, 11, 0, 8, 0, []), (39, 1, 11, 0, 0, 0, []), (40, 1, 10, 0, 0, 0, []), (41, 1, 1, 0, 0, 0, []), (42, 1, 1, 0, 0, 0, []), (43, 2, 4, 0, 1, 16, []), (45, 1, 11, 0, 8, 0, []), (46, 1, 11, 0, 0, 0, []), (47, 1, 10, 0, 0, 0, []), (48, 1, 1, 0, 0, 0, []), (49, 2, 4, 0, 1, 63, []), (51, 1, 11, 0, 3, 0, []), (52, 1, 9, 0, 0, 0, [])]
def K_73 : pC := []
/-- yX3_rankOf -/
def T_74 : List pE := [(0, 2, 4, 0, 1, 7, []), (2, 1, 1, 1, 0, 0, []), (3, 1, 11, 0, 1, 0, []), (4, 1, 10, 2, 0, 0, []), (5, 1, 1, 1, 0, 0, []), (6, 1, 10, 3, 0, 0, []), (7, 1, 4, 0, 0, 1, []), (8, 1, 1, 1, 0, 0, []), (9, 1, 4, 0, 0, 1, []), (10, 1, 11, 0, 0, 0, []), (11, 1, 11, 0, 6, 0, []), (12, 1, 4, 0, 0, 2, []), (13, 1, 11, 0, 1, 0, []), (14, 2, 10, 4, 0, 0, []), (16, 1, 4, 0, 0, 0, []), (17, 2, 10, 5, 0, 0, []), (19, 1, 4, 0, 0, 0, []), (20, 2, 10, 6, 0, 0, []), (22, 2, 1, 6, 0, 0, []), (24, 2, 4, 0, 1, 7, []), (26, 3, 13, 107, 3, 0, []), (29, 1, 1, 0, 0, 0, []), (30, 2, 1, 6, 0, 0, []), (32, 3, 7, 12, 2, 0, [19, 1, 0, 471, 324, 63, 323]), (35, 2, 10, 7, 0, 0, []), (37, 2, 1, 7, 0, 0, []), (39, 3, 14, 48, 1, 0, []), (42, 3, 15, 2, 0, (-1), []), (45, 3, 5, 101, 0, 0, []), (48, 1, 1, 2, 0, 0, []), (49, 3, 14, 64, 5, 0, []), (52, 2, 1, 5, 0, 0, []), (54, 1, 1, 2, 0, 0, []), (55, 1, 4, 0, 0, 1, []), (56, 1, 11, 0, 1, 0, []), (57, 1, 1, 3, 0, 0, []), (58, 3, 7, 72, 2, 0, [9, 1, 0, 472, 474, 65, 473]), (61, 1, 11, 0, 0, 0, []), (62, 2, 10, 5, 0, 0, []), (64, 3, 15, 3, 0, (-1), []), (67, 2, 1, 5, 0, 0, []), (69, 2, 1, 4, 0, 0, []), (71, 1, 4, 0, 0, 1, []), (72, 2, 1, 7, 0, 0, []), (74, 1, 11, 0, 6, 0, []), (75, 1, 4, 0, 0, 1, []), (76, 1, 11, 0, 1, 0, []), (77, 1, 11, 0, 3, 0, []), (78, 3, 7, 73, 1, 0, [24, 1, 0, 475, 477, 66, 476]), (81, 1, 1, 2, 0, 0, []), (82, 1, 1, 3, 0, 0, []), (83, 3, 7, 72, 2, 0, [9, 1, 0, 472, 474, 65, 473]), (86, 1, 11, 0, 2, 0, []), (87, 1, 11, 0, 0, 0, []), (88, 2, 10, 5, 0, 0, []), (90, 2, 1, 4, 0, 0, []), (92, 1, 4, 0, 0, 1, []), (93, 2, 1, 7, 0, 0, []), (95, 1, 11, 0, 6, 0, []), (96, 1, 4, 0, 0, (-1), []), (97, 1, 11, 0, 5, 0, []), (98, 1, 11, 0, 3, 0, []), (99, 2, 10, 4, 0, 0, []), (101, 3, 15, 6, 0, 1, []), (104, 3, 5, 22, 0, 0, []), (107, 2, 1, 5, 0, 0, []), (109, 1, 9, 0, 0, 0, [])]
def K_74 : pC := [(22, [true, false, true, true, true, true, true]), (64, [true, false, true, true, true, true, true, true])]
/-- yX7_rankOfNow -/
def T_75 : List pE := [(0, 1, 0, 0, 0, 0, []), (1, 3, 2, 6, 0, 0, [23, 0, 0, 92]), (4, 1, 0, 0, 0, 0, []), (5, 3, 2, 6, 1, 0, [27, 0, 0, 96]), (8, 3, 7, 74, 2, 0, [83, 1, 0, 468, 470, 65, 469]), (11, 1, 9, 0, 0, 0, [])]
def K_75 : pC := []
/-- yX9_arrange -/
def T_76 : List pE := [(0, 1, 0, 0, 0, 0, []), (1, 3, 3, 7, 4, 0, [33, 0, 0, 286]), (4, 1, 0, 0, 0, 0, []), (5, 3, 3, 7, 0, 0, [10, 0, 0, 282]), (8, 3, 6, 64, 2, 0, [121, 1, 2, 446, 449, 58, 447, 448]), (11, 2, 4, 0, 1, (-4), []), (13, 3, 13, 19, 0, 0, []), (16, 2, 4, 0, 1, (-2), []), (18, 1, 9, 0, 0, 0, []), (19, 1, 0, 0, 0, 0, []), (20, 3, 3, 7, 3, 0, [26, 0, 0, 285]), (23, 1, 0, 0, 0, 0, []), (24, 3, 3, 7, 0, 0, [10, 0, 0, 282]), (27, 3, 6, 16, 2, 0, [81, 0, 1, 325, 328, 57, 326, 327]), (30, 1, 0, 0, 0, 0, []), (31, 3, 3, 7, 0, 0, [10, 0, 0, 282]), (34, 1, 0, 0, 0, 0, []), (35, 3, 3, 7, 4, 0, [33, 0, 0, 286]), (38, 1, 0, 0, 0, 0, []), (39, 3, 3, 7, 0, 0, [10, 0, 0, 282]), (42, 3, 6, 71, 2, 0, [125, 1, 2, 459, 462, 58, 460, 461]), (45, 3, 16, 6, 0, 0, [68, 1, 0, 93]), (48, 1, 0, 0, 0, 0, []), (49, 3, 3, 7, 4, 0, [33, 0, 0, 286]), (52, 1, 4, 0, 0, 0, []), (53, 3, 16, 2, 1, 0, [110, 1, 0, 171]), (56, 1, 0, 0, 0, 0, []), (57, 3, 3, 7, 0, 0, [10, 0, 0, 282]), (60, 3, 6, 75, 1, 0, [128, 1, 6, 464, 467, 55, 465, 466]), (63, 1, 9, 0, 0, 0, [])]
def K_76 : pC := []
/-- yX10_ways -/
def T_77 : List pE := [(0, 1, 1, 1, 0, 0, []), (1, 1, 1, 0, 0, 0, []), (2, 3, 13, 9, 5, 0, []), (5, 1, 4, 0, 0, 0, []), (6, 3, 5, 10, 0, 0, []), (9, 1, 4, 0, 0, 1, []), (10, 1, 10, 2, 0, 0, []), (11, 1, 4, 0, 0, 0, []), (12, 1, 10, 3, 0, 0, []), (13, 1, 1, 3, 0, 0, []), (14, 1, 1, 1, 0, 0, []), (15, 3, 13, 34, 3, 0, []), (18, 1, 1, 2, 0, 0, []), (19, 3, 14, 34, 5, 0, []), (22, 1, 1, 2, 0, 0, []), (23, 1, 1, 0, 0, 0, []), (24, 1, 1, 3, 0, 0, []), (25, 1, 11, 0, 1, 0, []), (26, 1, 11, 0, 2, 0, []), (27, 1, 10, 2, 0, 0, []), (28, 3, 15, 3, 0, 1, []), (31, 3, 5, 13, 0, 0, []), (34, 1, 1, 2, 0, 0, []), (35, 1, 9, 0, 0, 0, [])]
def K_77 : pC := [(13, [true, true, true, true])]
/-- yX10_before -/
def T_78 : List pE := [(0, 2, 4, 0, 1, 7, []), (2, 1, 0, 0, 0, 0, []), (3, 3, 2, 8, 10, 0, [61, 0, 0, 773]), (6, 1, 11, 0, 1, 0, []), (7, 1, 10, 2, 0, 0, []), (8, 1, 0, 0, 0, 0, []), (9, 3, 3, 8, 12, 0, [34, 0, 0, 775]), (12, 1, 1, 1, 0, 0, []), (13, 1, 12, 0, 0, 0, []), (14, 1, 4, 0, 0, 1, []), (15, 1, 11, 0, 1, 0, []), (16, 1, 10, 3, 0, 0, []), (17, 1, 0, 0, 0, 0, []), (18, 3, 2, 8, 10, 0, [61, 0, 0, 773]), (21, 2, 10, 4, 0, 0, []), (23, 1, 4, 0, 0, 0, []), (24, 2, 10, 5, 0, 0, []), (26, 2, 1, 5, 0, 0, []), (28, 1, 1, 1, 0, 0, []), (29, 3, 13, 110, 3, 0, []), (32, 1, 1, 2, 0, 0, []), (33, 1, 0, 0, 0, 0, []), (34, 3, 3, 8, 12, 0, [34, 0, 0, 775]), (37, 2, 1, 5, 0, 0, []), (39, 1, 12, 0, 0, 0, []), (40, 3, 14, 47, 1, 0, []), (43, 1, 4, 0, 0, 1, []), (44, 3, 5, 48, 0, 0, []), (47, 1, 4, 0, 0, 0, []), (48, 1, 11, 0, 1, 0, []), (49, 1, 10, 2, 0, 0, []), (50, 2, 1, 4, 0, 0, []), (52, 1, 0, 0, 0, 0, []), (53, 3, 3, 8, 12, 0, [34, 0, 0, 775]), (56, 2, 1, 5, 0, 0, []), (58, 1, 12, 0, 0, 0, []), (59, 3, 14, 66, 1, 0, []), (62, 1, 4, 0, 0, 0, []), (63, 3, 5, 67, 0, 0, []), (66, 1, 4, 0, 0, 1, []), (67, 1, 11, 0, 1, 0, []), (68, 2, 10, 4, 0, 0, []), (70, 1, 1, 3, 0, 0, []), (71, 1, 0, 0, 0, 0, []), (72, 3, 3, 8, 12, 0, [34, 0, 0, 775]), (75, 2, 1, 5, 0, 0, []), (77, 1, 12, 0, 0, 0, []), (78, 3, 14, 101, 5, 0, []), (81, 1, 0, 0, 0, 0, []), (82, 3, 3, 8, 12, 0, [34, 0, 0, 775]), (85, 2, 1, 5, 0, 0, []), (87, 1, 12, 0, 0, 0, []), (88, 1, 0, 0, 0, 0, []), (89, 3, 3, 8, 12, 0, [34, 0, 0, 775]), (92, 1, 1, 1, 0, 0, []), (93, 1, 12, 0, 0, 0, []), (94, 3, 13, 101, 3, 0, []), (97, 1, 4, 0, 0, 1, []), (98, 3, 5, 102, 0, 0, []), (101, 1, 4, 0, 0, 0, []), (102, 1, 11, 0, 1, 0, []), (103, 1, 10, 3, 0, 0, []), (104, 3, 15, 5, 0, 1, []), (107, 3, 5, 26, 0, 0, []), (110, 1, 0, 0, 0, 0, []), (111, 3, 3, 8, 12, 0, [34, 0, 0, 775]), (114, 1, 1, 1, 0, 0, []), (115, 1, 12, 0, 0, 0, []), (116, 3, 14, 121, 1, 0, []), (119, 1, 4, 0, 0, 0, []), (120, 1, 9, 0, 0, 0, []), (121, 1, 1, 3, 0, 0, []), (122, 2, 4, 0, 1, 6, []), (124, 1, 1, 1, 0, 0, []), (125, 1, 11, 0, 1, 0, []), (126, 2, 1, 4, 0, 0, []), (128, 1, 4, 0, 0, 1, []), (129, 1, 11, 0, 1, 0, []), (130, 3, 7, 77, 2, 0, [64, 1, 0, 930, 932, 62, 931]), (133, 1, 11, 0, 2, 0, []), (134, 2, 10, 5, 0, 0, []), (136, 1, 1, 2, 0, 0, []), (137, 3, 14, 155, 5, 0, []), (140, 2, 1, 5, 0, 0, []), (142, 2, 4, 0, 1, 6, []), (144, 1, 1, 1, 0, 0, []), (145, 1, 11, 0, 1, 0, []), (146, 2, 1, 4, 0, 0, []), (148, 3, 7, 77, 2, 0, [64, 1, 0, 930, 932, 62, 931]), (151, 1, 11, 0, 0, 0, []), (152, 3, 5, 157, 0, 0, []), (155, 2, 1, 5, 0, 0, []), (157, 1, 9, 0, 0, 0, [])]
def K_78 : pC := [(26, [true, true, true, true, true, true]), (48, [true, true, false, true, true, true]), (67, [true, true, true, true, false, true])]
/-- yX10_rankOfThen -/
def T_79 : List pE := [(0, 1, 4, 0, 0, 0, []), (1, 1, 10, 1, 0, 0, []), (2, 1, 4, 0, 0, 0, []), (3, 1, 10, 2, 0, 0, []), (4, 1, 1, 2, 0, 0, []), (5, 2, 4, 0, 1, 7, []), (7, 3, 13, 24, 3, 0, []), (10, 1, 1, 1, 0, 0, []), (11, 1, 0, 0, 0, 0, []), (12, 1, 1, 2, 0, 0, []), (13, 3, 6, 78, 2, 0, [68, 1, 8, 926, 929, 62, 928, 32]), (16, 1, 11, 0, 0, 0, []), (17, 1, 10, 1, 0, 0, []), (18, 3, 15, 2, 0, 1, []), (21, 3, 5, 4, 0, 0, []), (24, 1, 1, 1, 0, 0, []), (25, 1, 9, 0, 0, 0, [])]
def K_79 : pC := [(4, [true, true, true])]
/-- yX10_arrange -/
def T_80 : List pE := [(0, 1, 0, 0, 0, 0, []), (1, 3, 6, 69, 1, 0, [156, 1, 8, 910, 913, 62, 912, 29]), (4, 2, 4, 0, 1, (-4), []), (6, 3, 13, 12, 0, 0, []), (9, 2, 4, 0, 1, (-2), []), (11, 1, 9, 0, 0, 0, []), (12, 1, 0, 0, 0, 0, []), (13, 3, 6, 27, 1, 0, [132, 0, 8, 843, 846, 62, 845, 21]), (16, 1, 4, 0, 0, 0, []), (17, 1, 10, 1, 0, 0, []), (18, 1, 1, 1, 0, 0, []), (19, 2, 4, 0, 1, 7, []), (21, 3, 13, 41, 3, 0, []), (24, 1, 0, 0, 0, 0, []), (25, 3, 3, 8, 12, 0, [34, 0, 0, 775]), (28, 1, 1, 1, 0, 0, []), (29, 1, 0, 0, 0, 0, []), (30, 1, 1, 1, 0, 0, []), (31, 3, 6, 68, 2, 0, [150, 1, 8, 914, 917, 62, 916, 30]), (34, 1, 18, 0, 0, 0, []), (35, 3, 15, 1, 0, 1, []), (38, 3, 5, 18, 0, 0, []), (41, 1, 0, 0, 0, 0, []), (42, 3, 6, 47, 1, 0, [135, 0, 8, 875, 878, 62, 877, 26]), (45, 1, 0, 0, 0, 0, []), (46, 3, 6, 48, 1, 0, [138, 0, 8, 879, 882, 62, 881, 27]), (49, 1, 0, 0, 0, 0, []), (50, 1, 4, 0, 0, 0, []), (51, 3, 16, 8, 6, 0, [144, 0, 0, 769]), (54, 1, 0, 0, 0, 0, []), (55, 3, 6, 79, 1, 0, [75, 1, 8, 922, 925, 62, 924, 31]), (58, 1, 9, 0, 0, 0, [])]
def K_80 : pC := [(18, [true, true])]
/-- yX2_steps -/
def T_81 : List pE := [(0, 1, 0, 0, 0, 0, []), (1, 3, 2, 2, 1, 0, [20, 0, 0, 170]), (4, 1, 4, 0, 0, 1, []), (5, 1, 11, 0, 7, 0, []), (6, 1, 9, 0, 0, 0, [])]
def K_81 : pC := []
/-- yX2_moveAt -/
def T_82 : List pE := [(0, 1, 0, 0, 0, 0, []), (1, 3, 3, 2, 0, 0, [14, 0, 0, 169]), (4, 1, 4, 0, 0, 2, []), (5, 1, 1, 1, 0, 0, []), (6, 1, 11, 0, 2, 0, []), (7, 3, 6, 10, 2, 0, [28, 1, 4, 439, 321, 56, 319, 320]), (10, 1, 10, 2, 0, 0, []), (11, 1, 0, 0, 0, 0, []), (12, 3, 3, 2, 0, 0, [14, 0, 0, 169]), (15, 1, 4, 0, 0, 2, []), (16, 1, 1, 1, 0, 0, []), (17, 1, 11, 0, 2, 0, []), (18, 1, 4, 0, 0, 1, []), (19, 1, 11, 0, 0, 0, []), (20, 3, 6, 10, 2, 0, [28, 1, 4, 439, 321, 56, 319, 320]), (23, 2, 4, 0, 1, 48, []), (25, 1, 11, 0, 1, 0, []), (26, 1, 10, 3, 0, 0, []), (27, 1, 1, 2, 0, 0, []), (28, 2, 4, 0, 1, 112, []), (30, 3, 13, 35, 1, 0, []), (33, 1, 1, 3, 0, 0, []), (34, 1, 9, 0, 0, 0, []), (35, 1, 1, 3, 0, 0, []), (36, 1, 1, 2, 0, 0, []), (37, 2, 4, 0, 1, 114, []), (39, 3, 13, 47, 1, 0, []), (42, 2, 4, 0, 1, 7, []), (44, 3, 5, 49, 0, 0, []), (47, 2, 4, 0, 1, 13, []), (49, 1, 11, 0, 0, 0, []), (50, 1, 9, 0, 0, 0, [])]
def K_82 : pC := []
/-- yX9_run -/
def T_83 : List pE := [(0, 1, 0, 0, 0, 0, []), (1, 3, 3, 7, 4, 0, [33, 0, 0, 286]), (4, 3, 6, 62, 1, 0, [117, 1, 2, 435, 438, 58, 436, 437]), (7, 2, 4, 0, 1, (-4), []), (9, 3, 13, 15, 0, 0, []), (12, 2, 4, 0, 1, (-2), []), (14, 1, 9, 0, 0, 0, []), (15, 1, 0, 0, 0, 0, []), (16, 3, 3, 7, 3, 0, [26, 0, 0, 285]), (19, 1, 0, 0, 0, 0, []), (20, 3, 3, 7, 0, 0, [10, 0, 0, 282]), (23, 3, 6, 16, 2, 0, [81, 0, 1, 325, 328, 57, 326, 327]), (26, 1, 0, 0, 0, 0, []), (27, 3, 3, 7, 0, 0, [10, 0, 0, 282]), (30, 3, 2, 6, 7, 0, [131, 1, 0, 118]), (33, 1, 10, 1, 0, 0, []), (34, 1, 4, 0, 0, 0, []), (35, 1, 10, 2, 0, 0, []), (36, 1, 1, 2, 0, 0, []), (37, 1, 0, 0, 0, 0, []), (38, 3, 3, 7, 4, 0, [33, 0, 0, 286]), (41, 3, 6, 81, 1, 0, [134, 1, 2, 485, 488, 58, 486, 487]), (44, 3, 13, 69, 3, 0, []), (47, 1, 0, 0, 0, 0, []), (48, 3, 3, 7, 0, 0, [10, 0, 0, 282]), (51, 1, 0, 0, 0, 0, []), (52, 3, 3, 7, 4, 0, [33, 0, 0, 286]), (55, 1, 1, 2, 0, 0, []), (56, 3, 6, 82, 2, 0, [137, 1, 2, 489, 492, 58, 490, 491]), (59, 3, 6, 42, 2, 0, [101, 1, 6, 383, 386, 55, 384, 385]), (62, 1, 39, 0, 0, 0, []), (63, 3, 15, 2, 0, 1, []), (66, 3, 5, 36, 0, 0, []), (69, 1, 0, 0, 0, 0, []), (70, 3, 3, 7, 0, 0, [10, 0, 0, 282]), (73, 3, 2, 6, 7, 0, [131, 1, 0, 118]), (76, 1, 1, 1, 0, 0, []), (77, 1, 11, 0, 1, 0, []), (78, 1, 9, 0, 0, 0, [])]
def K_83 : pC := [(36, [true, true, true])]
/-- yX10_moveAt -/
def T_84 : List pE := [(0, 1, 0, 0, 0, 0, []), (1, 3, 3, 8, 5, 0, [19, 0, 0, 768]), (4, 1, 4, 0, 0, 2, []), (5, 1, 1, 1, 0, 0, []), (6, 1, 11, 0, 2, 0, []), (7, 1, 4, 0, 0, 1, []), (8, 1, 11, 0, 0, 0, []), (9, 1, 12, 0, 0, 0, []), (10, 2, 4, 0, 1, 48, []), (12, 1, 11, 0, 1, 0, []), (13, 1, 10, 2, 0, 0, []), (14, 1, 1, 2, 0, 0, []), (15, 1, 0, 0, 0, 0, []), (16, 3, 3, 8, 5, 0, [19, 0, 0, 768]), (19, 1, 4, 0, 0, 2, []), (20, 1, 1, 1, 0, 0, []), (21, 1, 11, 0, 2, 0, []), (22, 1, 12, 0, 0, 0, []), (23, 2, 4, 0, 1, 112, []), (25, 3, 13, 32, 1, 0, []), (28, 1, 4, 0, 0, 0, []), (29, 3, 5, 52, 0, 0, []), (32, 1, 0, 0, 0, 0, []), (33, 3, 3, 8, 5, 0, [19, 0, 0, 768]), (36, 1, 4, 0, 0, 2, []), (37, 1, 1, 1, 0, 0, []), (38, 1, 11, 0, 2, 0, []), (39, 1, 12, 0, 0, 0, []), (40, 2, 4, 0, 1, 114, []), (42, 3, 13, 50, 1, 0, []), (45, 2, 4, 0, 1, 7, []), (47, 3, 5, 52, 0, 0, []), (50, 2, 4, 0, 1, 13, []), (52, 1, 11, 0, 0, 0, []), (53, 1, 9, 0, 0, 0, [])]
def K_84 : pC := []
/-- yX10_run -/
def T_85 : List pE := [(0, 1, 0, 0, 0, 0, []), (1, 3, 6, 67, 1, 0, [153, 1, 8, 903, 906, 62, 905, 28]), (4, 2, 4, 0, 1, (-4), []), (6, 3, 13, 12, 0, 0, []), (9, 2, 4, 0, 1, (-2), []), (11, 1, 9, 0, 0, 0, []), (12, 1, 0, 0, 0, 0, []), (13, 3, 6, 27, 1, 0, [132, 0, 8, 843, 846, 62, 845, 21]), (16, 1, 4, 0, 0, 0, []), (17, 1, 10, 1, 0, 0, []), (18, 1, 4, 0, 0, 0, []), (19, 1, 10, 2, 0, 0, []), (20, 1, 1, 2, 0, 0, []), (21, 1, 0, 0, 0, 0, []), (22, 3, 2, 8, 6, 0, [144, 0, 0, 769]), (25, 1, 4, 0, 0, 2, []), (26, 1, 43, 0, 0, 0, []), (27, 3, 13, 56, 3, 0, []), (30, 1, 1, 1, 0, 0, []), (31, 1, 0, 0, 0, 0, []), (32, 1, 0, 0, 0, 0, []), (33, 1, 1, 2, 0, 0, []), (34, 3, 6, 84, 2, 0, [159, 1, 8, 937, 940, 62, 939, 33]), (37, 3, 6, 49, 2, 0, [141, 1, 8, 863, 866, 62, 865, 23]), (40, 3, 14, 47, 1, 0, []), (43, 1, 4, 0, 0, 1, []), (44, 3, 5, 48, 0, 0, []), (47, 1, 4, 0, 0, 0, []), (48, 1, 11, 0, 0, 0, []), (49, 1, 10, 1, 0, 0, []), (50, 3, 15, 2, 0, 1, []), (53, 3, 5, 20, 0, 0, []), (56, 1, 1, 1, 0, 0, []), (57, 1, 9, 0, 0, 0, [])]
def K_85 : pC := [(20, [true, true, true])]
/-- yX8_isWrong -/
def T_86 : List pE := [(0, 1, 1, 0, 0, 0, []), (1, 3, 14, 30, 0, 0, []), (4, 1, 1, 1, 0, 0, []), (5, 3, 14, 30, 0, 0, []), (8, 1, 1, 2, 0, 0, []), (9, 1, 4, 0, 0, 1, []), (10, 3, 13, 21, 1, 0, []), (13, 1, 1, 0, 0, 0, []), (14, 1, 1, 1, 0, 0, []), (15, 3, 13, 30, 3, 0, []), (18, 3, 5, 26, 0, 0, []), (21, 1, 1, 0, 0, 0, []), (22, 1, 1, 1, 0, 0, []), (23, 3, 13, 30, 5, 0, []), (26, 1, 4, 0, 0, 1, []), (27, 3, 5, 31, 0, 0, []), (30, 1, 4, 0, 0, 0, []), (31, 1, 9, 0, 1, 0, [])]
def K_86 : pC := []
/-- yX8_wrongBooks -/
def T_87 : List pE := [(0, 1, 1, 0, 0, 0, []), (1, 1, 1, 1, 0, 0, []), (2, 3, 7, 12, 2, 0, [19, 1, 0, 393, 324, 63, 323]), (5, 1, 10, 3, 0, 0, []), (6, 1, 4, 0, 0, 0, []), (7, 2, 10, 4, 0, 0, []), (9, 1, 4, 0, 0, 0, []), (10, 2, 10, 5, 0, 0, []), (12, 2, 1, 5, 0, 0, []), (14, 2, 4, 0, 1, 7, []), (16, 3, 13, 75, 3, 0, []), (19, 2, 1, 5, 0, 0, []), (21, 1, 1, 1, 0, 0, []), (22, 3, 13, 34, 3, 0, []), (25, 1, 1, 0, 0, 0, []), (26, 2, 1, 5, 0, 0, []), (28, 3, 7, 12, 2, 0, [19, 1, 0, 393, 324, 63, 323]), (31, 3, 5, 35, 0, 0, []), (34, 1, 1, 3, 0, 0, []), (35, 2, 10, 6, 0, 0, []), (37, 2, 1, 5, 0, 0, []), (39, 1, 1, 1, 0, 0, []), (40, 3, 13, 47, 3, 0, []), (43, 1, 1, 3, 0, 0, []), (44, 3, 5, 53, 0, 0, []), (47, 1, 1, 0, 0, 0, []), (48, 2, 1, 5, 0, 0, []), (50, 3, 7, 12, 2, 0, [19, 1, 0, 393, 324, 63, 323]), (53, 2, 10, 7, 0, 0, []), (55, 2, 1, 6, 0, 0, []), (57, 2, 1, 7, 0, 0, []), (59, 1, 1, 2, 0, 0, []), (60, 3, 7, 86, 3, 0, [47, 1, 0, 501, 503, 63, 502]), (63, 3, 14, 69, 0, 0, []), (66, 3, 15, 4, 0, 1, []), (69, 3, 15, 5, 0, 1, []), (72, 3, 5, 12, 0, 0, []), (75, 2, 1, 4, 0, 0, []), (77, 1, 9, 0, 0, 0, [])]
def K_87 : pC := [(12, [true, true, true, true, true, true]), (35, [true, true, true, true, true, true]), (53, [true, true, true, true, true, true, true])]
/-- yX9_at -/
def T_88 : List pE := [(0, 1, 1, 1, 0, 0, []), (1, 2, 4, 0, 1, 7, []), (3, 3, 7, 9, 2, 0, [60, 1, 0, 311, 313, 54, 312]), (6, 3, 14, 18, 0, 0, []), (9, 1, 1, 2, 0, 0, []), (10, 2, 4, 0, 1, 6, []), (12, 3, 7, 9, 2, 0, [60, 1, 0, 311, 313, 54, 312]), (15, 3, 14, 20, 1, 0, []), (18, 1, 4, 0, 0, (-1), []), (19, 1, 9, 0, 0, 0, []), (20, 1, 0, 0, 0, 0, []), (21, 3, 3, 7, 0, 0, [10, 0, 0, 282]), (24, 3, 2, 6, 0, 0, [68, 1, 0, 93]), (27, 1, 1, 1, 0, 0, []), (28, 3, 7, 12, 2, 0, [72, 1, 0, 322, 324, 63, 323]), (31, 1, 10, 3, 0, 0, []), (32, 1, 1, 3, 0, 0, []), (33, 3, 14, 48, 1, 0, []), (36, 1, 1, 2, 0, 0, []), (37, 1, 4, 0, 0, 5, []), (38, 3, 13, 45, 1, 0, []), (41, 1, 1, 1, 0, 0, []), (42, 3, 5, 47, 0, 0, []), (45, 2, 4, 0, 1, (-4), []), (47, 1, 9, 0, 0, 0, []), (48, 1, 1, 2, 0, 0, []), (49, 35, 24, 0, 0, 0, [147, 84, 96, 108, 147, 128]), (84, 1, 0, 0, 0, 0, []), (85, 3, 3, 7, 0, 0, [10, 0, 0, 282]), (88, 3, 3, 6, 2, 0, [140, 1, 0, 101]), (91, 1, 1, 3, 0, 0, []), (92, 3, 6, 10, 2, 0, [144, 1, 4, 497, 321, 56, 319, 320]), (95, 1, 9, 0, 0, 0, []), (96, 1, 0, 0, 0, 0, []), (97, 3, 3, 7, 0, 0, [10, 0, 0, 282]), (100, 3, 3, 6, 3, 0, [149, 1, 0, 105]), (103, 1, 1, 3, 0, 0, []), (104, 3, 6, 10, 2, 0, [144, 1, 4, 497, 321, 56, 319, 320]), (107, 1, 9, 0, 0, 0, []), (108, 1, 0, 0, 0, 0, []), (109, 3, 3, 7, 0, 0, [10, 0, 0, 282]), (112, 3, 2, 6, 4, 0, [92, 1, 0, 108]), (115, 1, 1, 3, 0, 0, []), (116, 3, 7, 32, 2, 0, [95, 1, 0, 370, 372, 63, 371]), (119, 3, 14, 126, 0, 0, []), (122, 1, 4, 0, 0, 1, []), (123, 3, 5, 127, 0, 0, []), (126, 1, 4, 0, 0, 0, []), (127, 1, 9, 0, 0, 0, []), (128, 1, 0, 0, 0, 0, []), (129, 3, 3, 7, 0, 0, [10, 0, 0, 282]), (132, 3, 2, 6, 0, 0, [68, 1, 0, 93]), (135, 1, 1, 1, 0, 0, []), (136, 1, 0, 0, 0, 0, []), (137, 3, 3, 7, 0, 0, [10, 0, 0, 282]), (140, 3, 2, 6, 5, 0, [104, 1, 0, 112]), (143, 3, 7, 87, 3, 0, [152, 1, 0, 498, 500, 63, 499]), (146, 1, 9, 0, 0, 0, []), (147, 1, 0, 0, 0, 0, []), (148, 3, 3, 7, 0, 0, [10, 0, 0, 282]), (151, 3, 2, 6, 0, 0, [68, 1, 0, 93]), (154, 1, 1, 1, 0, 0, []), (155, 3, 7, 36, 2, 0, [98, 1, 0, 377, 379, 63, 378]), (158, 1, 9, 0, 0, 0, [])]
def K_88 : pC := []
/-- yX10_isWrong -/
def T_89 : List pE := [(0, 1, 0, 0, 0, 0, []), (1, 3, 3, 8, 0, 0, [7, 0, 0, 763]), (4, 2, 4, 0, 1, 21, []), (6, 1, 12, 0, 0, 0, []), (7, 1, 4, 0, 0, 1, []), (8, 3, 13, 24, 1, 0, []), (11, 1, 1, 1, 0, 0, []), (12, 1, 1, 2, 0, 0, []), (13, 3, 13, 20, 3, 0, []), (16, 1, 4, 0, 0, 1, []), (17, 3, 5, 34, 0, 0, []), (20, 1, 4, 0, 0, 0, []), (21, 3, 5, 34, 0, 0, []), (24, 1, 1, 1, 0, 0, []), (25, 1, 1, 2, 0, 0, []), (26, 3, 13, 33, 5, 0, []), (29, 1, 4, 0, 0, 1, []), (30, 3, 5, 34, 0, 0, []), (33, 1, 4, 0, 0, 0, []), (34, 1, 9, 0, 1, 0, [])]
def K_89 : pC := []
/-- yX10_wrongWith -/
def T_90 : List pE := [(0, 1, 4, 0, 0, 0, []), (1, 1, 10, 2, 0, 0, []), (2, 1, 4, 0, 0, 0, []), (3, 1, 10, 3, 0, 0, []), (4, 1, 1, 3, 0, 0, []), (5, 2, 4, 0, 1, 7, []), (7, 3, 13, 93, 3, 0, []), (10, 1, 1, 3, 0, 0, []), (11, 1, 1, 1, 0, 0, []), (12, 3, 13, 24, 3, 0, []), (15, 1, 0, 0, 0, 0, []), (16, 3, 3, 8, 11, 0, [31, 0, 0, 774]), (19, 1, 1, 3, 0, 0, []), (20, 1, 12, 0, 0, 0, []), (21, 3, 5, 30, 0, 0, []), (24, 1, 0, 0, 0, 0, []), (25, 3, 3, 8, 11, 0, [31, 0, 0, 774]), (28, 1, 1, 1, 0, 0, []), (29, 1, 12, 0, 0, 0, []), (30, 2, 10, 4, 0, 0, []), (32, 1, 1, 3, 0, 0, []), (33, 1, 1, 1, 0, 0, []), (34, 3, 13, 46, 3, 0, []), (37, 1, 0, 0, 0, 0, []), (38, 3, 3, 8, 11, 0, [31, 0, 0, 774]), (41, 1, 1, 1, 0, 0, []), (42, 1, 12, 0, 0, 0, []), (43, 3, 5, 52, 0, 0, []), (46, 1, 0, 0, 0, 0, []), (47, 3, 3, 8, 11, 0, [31, 0, 0, 774]), (50, 1, 1, 3, 0, 0, []), (51, 1, 12, 0, 0, 0, []), (52, 2, 10, 5, 0, 0, []), (54, 1, 1, 2, 0, 0, []), (55, 1, 1, 3, 0, 0, []), (56, 1, 1, 1, 0, 0, []), (57, 3, 13, 84, 0, 0, []), (60, 1, 0, 0, 0, 0, []), (61, 3, 3, 8, 11, 0, [31, 0, 0, 774]), (64, 1, 1, 3, 0, 0, []), (65, 1, 12, 0, 0, 0, []), (66, 3, 14, 84, 5, 0, []), (69, 1, 0, 0, 0, 0, []), (70, 2, 1, 4, 0, 0, []), (72, 2, 1, 5, 0, 0, []), (74, 3, 6, 89, 3, 0, [86, 1, 8, 949, 952, 62, 951, 35]), (77, 3, 14, 84, 0, 0, []), (80, 1, 4, 0, 0, 1, []), (81, 3, 5, 85, 0, 0, []), (84, 1, 4, 0, 0, 0, []), (85, 1, 11, 0, 0, 0, []), (86, 1, 10, 2, 0, 0, []), (87, 3, 15, 3, 0, 1, []), (90, 3, 5, 4, 0, 0, []), (93, 1, 1, 2, 0, 0, []), (94, 1, 9, 0, 0, 0, [])]
def K_90 : pC := [(4, [true, true, true, true]), (30, [true, true, true, true]), (52, [true, true, true, true, true])]
/-- yX10_at -/
def T_91 : List pE := [(0, 1, 1, 1, 0, 0, []), (1, 3, 7, 23, 1, 0, [92, 1, 0, 828, 830, 62, 829]), (4, 3, 14, 16, 0, 0, []), (7, 1, 1, 2, 0, 0, []), (8, 1, 4, 0, 0, 0, []), (9, 1, 4, 0, 0, 5, []), (10, 3, 7, 22, 3, 0, [57, 1, 0, 825, 827, 62, 826]), (13, 3, 14, 18, 1, 0, []), (16, 1, 4, 0, 0, (-1), []), (17, 1, 9, 0, 0, 0, []), (18, 1, 0, 0, 0, 0, []), (19, 3, 6, 25, 1, 0, [72, 0, 8, 839, 842, 62, 841, 20]), (22, 1, 1, 2, 0, 0, []), (23, 1, 4, 0, 0, 5, []), (24, 3, 13, 33, 1, 0, []), (27, 1, 0, 0, 0, 0, []), (28, 1, 1, 1, 0, 0, []), (29, 3, 6, 44, 2, 0, [99, 1, 8, 859, 862, 62, 861, 22]), (32, 1, 9, 0, 0, 0, []), (33, 1, 0, 0, 0, 0, []), (34, 3, 3, 8, 11, 0, [31, 0, 0, 774]), (37, 1, 1, 1, 0, 0, []), (38, 1, 12, 0, 0, 0, []), (39, 3, 14, 45, 1, 0, []), (42, 2, 4, 0, 1, (-4), []), (44, 1, 9, 0, 0, 0, []), (45, 1, 1, 2, 0, 0, []), (46, 30, 24, 0, 0, 0, [113, 76, 87, 97, 107]), (76, 1, 0, 0, 0, 0, []), (77, 3, 3, 8, 0, 0, [7, 0, 0, 763]), (80, 1, 4, 0, 0, 0, []), (81, 1, 1, 1, 0, 0, []), (82, 1, 11, 0, 0, 0, []), (83, 1, 12, 0, 0, 0, []), (84, 1, 4, 0, 0, 1, []), (85, 1, 11, 0, 1, 0, []), (86, 1, 9, 0, 0, 0, []), (87, 1, 0, 0, 0, 0, []), (88, 3, 3, 8, 0, 0, [7, 0, 0, 763]), (91, 2, 4, 0, 1, 7, []), (93, 1, 1, 1, 0, 0, []), (94, 1, 11, 0, 0, 0, []), (95, 1, 12, 0, 0, 0, []), (96, 1, 9, 0, 0, 0, []), (97, 1, 0, 0, 0, 0, []), (98, 3, 3, 8, 0, 0, [7, 0, 0, 763]), (101, 2, 4, 0, 1, 14, []), (103, 1, 1, 1, 0, 0, []), (104, 1, 11, 0, 0, 0, []), (105, 1, 12, 0, 0, 0, []), (106, 1, 9, 0, 0, 0, []), (107, 1, 0, 0, 0, 0, []), (108, 1, 1, 1, 0, 0, []), (109, 3, 6, 44, 2, 0, [99, 1, 8, 859, 862, 62, 861, 22]), (112, 1, 9, 0, 0, 0, []), (113, 1, 0, 0, 0, 0, []), (114, 1, 1, 1, 0, 0, []), (115, 3, 6, 90, 2, 0, [162, 1, 8, 945, 948, 62, 947, 34]), (118, 1, 9, 0, 0, 0, [])]
def K_91 : pC := []
/-- yX9_whyNot -/
def T_92 : List pE := [(0, 1, 1, 1, 0, 0, []), (1, 2, 4, 0, 1, 19, []), (3, 3, 7, 9, 2, 0, [60, 1, 0, 311, 313, 54, 312]), (6, 3, 14, 11, 1, 0, []), (9, 1, 4, 0, 0, (-1), []), (10, 1, 9, 0, 0, 0, []), (11, 1, 0, 0, 0, 0, []), (12, 3, 3, 7, 0, 0, [10, 0, 0, 282]), (15, 3, 2, 6, 0, 0, [68, 1, 0, 93]), (18, 1, 0, 0, 0, 0, []), (19, 3, 3, 7, 0, 0, [10, 0, 0, 282]), (22, 3, 2, 6, 4, 0, [92, 1, 0, 108]), (25, 1, 1, 1, 0, 0, []), (26, 3, 7, 39, 3, 0, [156, 1, 0, 508, 389, 63, 388]), (29, 1, 9, 0, 0, 0, [])]
def K_92 : pC := []
/-- yX10_whyNot -/
def T_93 : List pE := [(0, 1, 1, 1, 0, 0, []), (1, 1, 4, 0, 0, 0, []), (2, 2, 4, 0, 1, 18, []), (4, 3, 7, 22, 3, 0, [57, 1, 0, 825, 827, 62, 826]), (7, 3, 14, 12, 1, 0, []), (10, 1, 4, 0, 0, (-1), []), (11, 1, 9, 0, 0, 0, []), (12, 1, 0, 0, 0, 0, []), (13, 3, 6, 25, 1, 0, [72, 0, 8, 839, 842, 62, 841, 20]), (16, 1, 0, 0, 0, 0, []), (17, 1, 1, 1, 0, 0, []), (18, 3, 6, 45, 2, 0, [114, 1, 8, 867, 870, 62, 869, 24]), (21, 1, 9, 0, 0, 0, [])]
def K_93 : pC := []
/-- yX9_cost -/
def T_94 : List pE := [(0, 1, 1, 1, 0, 0, []), (1, 2, 4, 0, 1, 19, []), (3, 3, 7, 9, 2, 0, [60, 1, 0, 311, 313, 54, 312]), (6, 3, 14, 11, 1, 0, []), (9, 1, 4, 0, 0, (-1), []), (10, 1, 9, 0, 0, 0, []), (11, 1, 0, 0, 0, 0, []), (12, 3, 3, 7, 0, 0, [10, 0, 0, 282]), (15, 3, 2, 6, 0, 0, [68, 1, 0, 93]), (18, 1, 0, 0, 0, 0, []), (19, 3, 3, 7, 0, 0, [10, 0, 0, 282]), (22, 3, 2, 6, 4, 0, [92, 1, 0, 108]), (25, 1, 1, 1, 0, 0, []), (26, 3, 7, 39, 3, 0, [156, 1, 0, 508, 389, 63, 388]), (29, 3, 14, 35, 0, 0, []), (32, 2, 4, 0, 1, (-2), []), (34, 1, 9, 0, 0, 0, []), (35, 1, 0, 0, 0, 0, []), (36, 3, 3, 7, 0, 0, [10, 0, 0, 282]), (39, 3, 2, 6, 0, 0, [68, 1, 0, 93]), (42, 1, 0, 0, 0, 0, []), (43, 3, 3, 7, 0, 0, [10, 0, 0, 282]), (46, 3, 3, 6, 3, 0, [149, 1, 0, 105]), (49, 1, 1, 1, 0, 0, []), (50, 3, 7, 40, 3, 0, [159, 1, 0, 513, 400, 63, 399]), (53, 1, 9, 0, 0, 0, [])]
def K_94 : pC := []
/-- yX10_cost -/
def T_95 : List pE := [(0, 1, 0, 0, 0, 0, []), (1, 1, 1, 1, 0, 0, []), (2, 3, 6, 93, 2, 0, [165, 1, 8, 961, 956, 62, 954, 955]), (5, 1, 10, 2, 0, 0, []), (6, 1, 1, 2, 0, 0, []), (7, 3, 14, 21, 0, 0, []), (10, 1, 1, 2, 0, 0, []), (11, 3, 14, 19, 5, 0, []), (14, 2, 4, 0, 1, (-2), []), (16, 3, 5, 20, 0, 0, []), (19, 1, 1, 2, 0, 0, []), (20, 1, 9, 0, 0, 0, []), (21, 1, 0, 0, 0, 0, []), (22, 1, 1, 1, 0, 0, []), (23, 3, 6, 46, 2, 0, [117, 0, 8, 871, 874, 62, 873, 25]), (26, 1, 0, 0, 0, 0, []), (27, 3, 2, 8, 13, 0, [96, 0, 0, 776]), (30, 1, 9, 0, 0, 0, [])]
def K_95 : pC := []
/-- yX9_leads -/
def T_96 : List pE := [(0, 1, 1, 1, 0, 0, []), (1, 2, 4, 0, 1, 19, []), (3, 3, 7, 9, 2, 0, [60, 1, 0, 311, 313, 54, 312]), (6, 3, 14, 11, 1, 0, []), (9, 1, 4, 0, 0, (-1), []), (10, 1, 9, 0, 0, 0, []), (11, 1, 0, 0, 0, 0, []), (12, 3, 3, 7, 0, 0, [10, 0, 0, 282]), (15, 3, 2, 6, 0, 0, [68, 1, 0, 93]), (18, 1, 0, 0, 0, 0, []), (19, 3, 3, 7, 0, 0, [10, 0, 0, 282]), (22, 3, 2, 6, 4, 0, [92, 1, 0, 108]), (25, 1, 1, 1, 0, 0, []), (26, 3, 7, 39, 3, 0, [156, 1, 0, 508, 389, 63, 388]), (29, 3, 14, 35, 0, 0, []), (32, 2, 4, 0, 1, (-2), []), (34, 1, 9, 0, 0, 0, []), (35, 1, 0, 0, 0, 0, []), (36, 3, 3, 7, 0, 0, [10, 0, 0, 282]), (39, 3, 2, 6, 0, 0, [68, 1, 0, 93]), (42, 1, 1, 1, 0, 0, []), (43, 3, 7, 41, 2, 0, [163, 1, 0, 518, 407, 63, 406]), (46, 1, 0, 0, 0, 0, []), (47, 3, 3, 7, 0, 0, [10, 0, 0, 282]), (50, 3, 2, 6, 1, 0, [78, 1, 0, 98]), (53, 3, 7, 74, 2, 0, [166, 1, 0, 519, 470, 65, 469]), (56, 1, 9, 0, 0, 0, [])]
def K_96 : pC := []
/-- yX10_leads -/
def T_97 : List pE := [(0, 1, 0, 0, 0, 0, []), (1, 1, 1, 1, 0, 0, []), (2, 3, 6, 93, 2, 0, [165, 1, 8, 961, 956, 62, 954, 955]), (5, 1, 10, 2, 0, 0, []), (6, 1, 1, 2, 0, 0, []), (7, 3, 14, 21, 0, 0, []), (10, 1, 1, 2, 0, 0, []), (11, 3, 14, 19, 5, 0, []), (14, 2, 4, 0, 1, (-2), []), (16, 3, 5, 20, 0, 0, []), (19, 1, 1, 2, 0, 0, []), (20, 1, 9, 0, 0, 0, []), (21, 1, 0, 0, 0, 0, []), (22, 1, 1, 1, 0, 0, []), (23, 3, 6, 46, 2, 0, [117, 0, 8, 871, 874, 62, 873, 25]), (26, 1, 0, 0, 0, 0, []), (27, 3, 6, 79, 1, 0, [75, 1, 8, 922, 925, 62, 924, 31]), (30, 1, 9, 0, 0, 0, [])]
def K_97 : pC := []
/-- yX3_wordsOf -/
def T_98 : List pE := [(0, 2, 4, 0, 1, 7, []), (2, 1, 1, 0, 0, 0, []), (3, 1, 11, 0, 1, 0, []), (4, 1, 1, 0, 0, 0, []), (5, 3, 7, 72, 2, 0, [9, 1, 0, 472, 474, 65, 473]), (8, 1, 9, 0, 0, 0, [])]
def K_98 : pC := []
/-- yX3_slotBehind -/
def T_99 : List pE := [(0, 1, 4, 0, 0, 0, []), (1, 1, 10, 2, 0, 0, []), (2, 1, 4, 0, 0, 1, []), (3, 1, 10, 3, 0, 0, []), (4, 1, 1, 3, 0, 0, []), (5, 1, 4, 0, 0, 5, []), (6, 3, 13, 33, 4, 0, []), (9, 1, 1, 0, 0, 0, []), (10, 1, 1, 3, 0, 0, []), (11, 3, 7, 32, 2, 0, [36, 1, 0, 533, 372, 63, 371]), (14, 3, 14, 27, 0, 0, []), (17, 1, 1, 2, 0, 0, []), (18, 1, 1, 1, 0, 0, []), (19, 3, 13, 24, 1, 0, []), (22, 1, 1, 3, 0, 0, []), (23, 1, 9, 0, 0, 0, []), (24, 3, 15, 2, 0, 1, []), (27, 3, 15, 3, 0, 1, []), (30, 3, 5, 4, 0, 0, []), (33, 1, 4, 0, 0, 0, []), (34, 1, 9, 0, 0, 0, [])]
def K_99 : pC := [(4, [true, true, true, true])]
/-- yX3_wordAt -/
def T_100 : List pE := [(0, 2, 4, 0, 1, 7, []), (2, 1, 1, 1, 0, 0, []), (3, 1, 11, 0, 1, 0, []), (4, 1, 10, 2, 0, 0, []), (5, 1, 1, 1, 0, 0, []), (6, 1, 10, 3, 0, 0, []), (7, 1, 4, 0, 0, 1, []), (8, 1, 1, 1, 0, 0, []), (9, 1, 4, 0, 0, 1, []), (10, 1, 11, 0, 0, 0, []), (11, 1, 11, 0, 6, 0, []), (12, 1, 4, 0, 0, 2, []), (13, 1, 11, 0, 1, 0, []), (14, 2, 10, 4, 0, 0, []), (16, 1, 1, 0, 0, 0, []), (17, 2, 10, 5, 0, 0, []), (19, 1, 4, 0, 0, 0, []), (20, 2, 10, 6, 0, 0, []), (22, 1, 4, 0, 0, 0, []), (23, 2, 10, 7, 0, 0, []), (25, 2, 1, 7, 0, 0, []), (27, 2, 4, 0, 1, 7, []), (29, 3, 13, 142, 3, 0, []), (32, 1, 1, 2, 0, 0, []), (33, 3, 14, 46, 5, 0, []), (36, 1, 1, 2, 0, 0, []), (37, 1, 4, 0, 0, 1, []), (38, 1, 11, 0, 1, 0, []), (39, 1, 1, 3, 0, 0, []), (40, 3, 7, 72, 2, 0, [9, 1, 0, 472, 474, 65, 473]), (43, 3, 5, 47, 0, 0, []), (46, 1, 4, 0, 0, 0, []), (47, 2, 10, 8, 0, 0, []), (49, 2, 1, 5, 0, 0, []), (51, 2, 1, 8, 0, 0, []), (53, 3, 13, 62, 3, 0, []), (56, 3, 15, 2, 0, (-1), []), (59, 3, 5, 136, 0, 0, []), (62, 2, 1, 5, 0, 0, []), (64, 2, 1, 8, 0, 0, []), (66, 1, 11, 0, 1, 0, []), (67, 2, 10, 5, 0, 0, []), (69, 3, 15, 3, 0, (-1), []), (72, 1, 1, 2, 0, 0, []), (73, 1, 1, 3, 0, 0, []), (74, 3, 7, 72, 2, 0, [9, 1, 0, 472, 474, 65, 473]), (77, 2, 10, 9, 0, 0, []), (79, 2, 1, 9, 0, 0, []), (81, 3, 14, 92, 5, 0, []), (84, 2, 1, 5, 0, 0, []), (86, 2, 1, 9, 0, 0, []), (88, 1, 43, 0, 0, 0, []), (89, 3, 5, 93, 0, 0, []), (92, 1, 4, 0, 0, 0, []), (93, 2, 10, 10, 0, 0, []), (95, 2, 1, 5, 0, 0, []), (97, 2, 1, 10, 0, 0, []), (99, 2, 1, 9, 0, 0, []), (101, 1, 11, 0, 2, 0, []), (102, 1, 11, 0, 1, 0, []), (103, 2, 10, 5, 0, 0, []), (105, 2, 1, 4, 0, 0, []), (107, 2, 1, 10, 0, 0, []), (109, 3, 7, 99, 2, 0, [29, 1, 0, 530, 532, 65, 531]), (112, 2, 10, 11, 0, 0, []), (114, 2, 1, 4, 0, 0, []), (116, 1, 4, 0, 0, 1, []), (117, 2, 1, 11, 0, 0, []), (119, 1, 11, 0, 6, 0, []), (120, 1, 4, 0, 0, (-1), []), (121, 1, 11, 0, 5, 0, []), (122, 1, 11, 0, 3, 0, []), (123, 2, 10, 4, 0, 0, []), (125, 2, 1, 6, 0, 0, []), (127, 2, 1, 7, 0, 0, []), (129, 2, 1, 11, 0, 0, []), (131, 3, 7, 18, 3, 0, [32, 1, 0, 534, 357, 63, 356]), (134, 2, 10, 6, 0, 0, []), (136, 3, 15, 7, 0, 1, []), (139, 3, 5, 25, 0, 0, []), (142, 2, 1, 6, 0, 0, []), (144, 1, 9, 0, 0, 0, [])]
def K_100 : pC := [(25, [false, false, true, true, true, true, true, true]), (47, [false, false, true, true, true, true, true, true]), (93, [false, false, true, true, true, true, true, true, false, true])]
/-- yX9_word -/
def T_101 : List pE := [(0, 1, 1, 1, 0, 0, []), (1, 1, 0, 0, 0, 0, []), (2, 3, 3, 7, 0, 0, [10, 0, 0, 282]), (5, 3, 2, 6, 1, 0, [78, 1, 0, 98]), (8, 3, 7, 98, 1, 0, [171, 1, 0, 524, 526, 65, 525]), (11, 3, 7, 9, 2, 0, [60, 1, 0, 311, 313, 54, 312]), (14, 3, 14, 26, 0, 0, []), (17, 1, 1, 2, 0, 0, []), (18, 2, 4, 0, 1, 7, []), (20, 3, 7, 9, 2, 0, [60, 1, 0, 311, 313, 54, 312]), (23, 3, 14, 28, 1, 0, []), (26, 1, 4, 0, 0, (-1), []), (27, 1, 9, 0, 0, 0, []), (28, 1, 1, 1, 0, 0, []), (29, 1, 0, 0, 0, 0, []), (30, 3, 3, 7, 0, 0, [10, 0, 0, 282]), (33, 3, 2, 6, 1, 0, [78, 1, 0, 98]), (36, 3, 7, 100, 2, 0, [174, 1, 0, 527, 529, 65, 528]), (39, 1, 1, 2, 0, 0, []), (40, 3, 7, 12, 2, 0, [72, 1, 0, 322, 324, 63, 323]), (43, 1, 10, 3, 0, 0, []), (44, 1, 1, 3, 0, 0, []), (45, 3, 14, 53, 1, 0, []), (48, 2, 4, 0, 1, (-4), []), (50, 3, 5, 64, 0, 0, []), (53, 1, 0, 0, 0, 0, []), (54, 3, 3, 7, 0, 0, [10, 0, 0, 282]), (57, 3, 3, 6, 2, 0, [140, 1, 0, 101]), (60, 1, 1, 3, 0, 0, []), (61, 3, 6, 10, 2, 0, [144, 1, 4, 497, 321, 56, 319, 320]), (64, 1, 9, 0, 0, 0, [])]
def K_101 : pC := []
/-- yX10_words -/
def T_102 : List pE := [(0, 2, 4, 0, 1, 7, []), (2, 1, 0, 0, 0, 0, []), (3, 3, 2, 8, 10, 0, [61, 0, 0, 773]), (6, 3, 7, 77, 2, 0, [64, 1, 0, 930, 932, 62, 931]), (9, 1, 9, 0, 0, 0, [])]
def K_102 : pC := []
/-- yX10_isUsed -/
def T_103 : List pE := [(0, 1, 4, 0, 0, 0, []), (1, 1, 10, 3, 0, 0, []), (2, 1, 4, 0, 0, 0, []), (3, 2, 10, 4, 0, 0, []), (5, 2, 1, 4, 0, 0, []), (7, 1, 1, 2, 0, 0, []), (8, 3, 13, 38, 3, 0, []), (11, 1, 1, 3, 0, 0, []), (12, 3, 14, 26, 1, 0, []), (15, 1, 0, 0, 0, 0, []), (16, 3, 3, 8, 11, 0, [31, 0, 0, 774]), (19, 2, 1, 4, 0, 0, []), (21, 1, 12, 0, 0, 0, []), (22, 1, 1, 1, 0, 0, []), (23, 3, 13, 30, 1, 0, []), (26, 1, 4, 0, 0, 1, []), (27, 3, 5, 31, 0, 0, []), (30, 1, 4, 0, 0, 0, []), (31, 1, 10, 3, 0, 0, []), (32, 3, 15, 4, 0, 1, []), (35, 3, 5, 5, 0, 0, []), (38, 1, 1, 3, 0, 0, []), (39, 1, 9, 0, 1, 0, [])]
def K_103 : pC := [(5, [true, true, true, true, true])]
/-- yX10_unused -/
def T_104 : List pE := [(0, 1, 1, 1, 0, 0, []), (1, 1, 10, 3, 0, 0, []), (2, 1, 4, 0, 0, 1, []), (3, 2, 10, 4, 0, 0, []), (5, 2, 1, 4, 0, 0, []), (7, 1, 0, 0, 0, 0, []), (8, 3, 2, 8, 10, 0, [61, 0, 0, 773]), (11, 3, 13, 40, 4, 0, []), (14, 1, 0, 0, 0, 0, []), (15, 2, 1, 4, 0, 0, []), (17, 1, 1, 2, 0, 0, []), (18, 3, 6, 103, 3, 0, [82, 1, 8, 982, 985, 62, 984, 39]), (21, 3, 14, 34, 1, 0, []), (24, 1, 1, 3, 0, 0, []), (25, 3, 14, 31, 1, 0, []), (28, 2, 1, 4, 0, 0, []), (30, 1, 9, 0, 0, 0, []), (31, 3, 15, 3, 0, (-1), []), (34, 3, 15, 4, 0, 1, []), (37, 3, 5, 5, 0, 0, []), (40, 1, 4, 0, 0, 0, []), (41, 1, 9, 0, 0, 0, [])]
def K_104 : pC := [(5, [true, false, true, true, true])]
/-- yX10_spells -/
def T_105 : List pE := [(0, 1, 1, 1, 0, 0, []), (1, 1, 10, 2, 0, 0, []), (2, 2, 4, 0, 1, 7, []), (4, 1, 0, 0, 0, 0, []), (5, 3, 2, 8, 10, 0, [61, 0, 0, 773]), (8, 1, 11, 0, 1, 0, []), (9, 1, 10, 3, 0, 0, []), (10, 1, 0, 0, 0, 0, []), (11, 3, 2, 8, 10, 0, [61, 0, 0, 773]), (14, 2, 10, 4, 0, 0, []), (16, 1, 4, 0, 0, 0, []), (17, 2, 10, 5, 0, 0, []), (19, 2, 1, 5, 0, 0, []), (21, 2, 4, 0, 1, 7, []), (23, 3, 13, 118, 3, 0, []), (26, 1, 1, 3, 0, 0, []), (27, 3, 14, 43, 5, 0, []), (30, 2, 4, 0, 1, 6, []), (32, 2, 1, 5, 0, 0, []), (34, 1, 11, 0, 1, 0, []), (35, 2, 1, 4, 0, 0, []), (37, 3, 7, 77, 2, 0, [64, 1, 0, 930, 932, 62, 931]), (40, 3, 5, 44, 0, 0, []), (43, 1, 4, 0, 0, 0, []), (44, 2, 10, 6, 0, 0, []), (46, 1, 0, 0, 0, 0, []), (47, 3, 3, 8, 11, 0, [31, 0, 0, 774]), (50, 2, 1, 5, 0, 0, []), (52, 1, 4, 0, 0, 0, []), (53, 1, 18, 0, 0, 0, []), (54, 1, 1, 2, 0, 0, []), (55, 2, 1, 6, 0, 0, []), (57, 3, 13, 66, 3, 0, []), (60, 3, 15, 3, 0, (-1), []), (63, 3, 5, 112, 0, 0, []), (66, 1, 1, 2, 0, 0, []), (67, 2, 1, 6, 0, 0, []), (69, 1, 11, 0, 1, 0, []), (70, 1, 10, 2, 0, 0, []), (71, 3, 15, 4, 0, (-1), []), (74, 2, 4, 0, 1, 6, []), (76, 2, 1, 5, 0, 0, []), (78, 1, 11, 0, 1, 0, []), (79, 2, 1, 4, 0, 0, []), (81, 3, 7, 77, 2, 0, [64, 1, 0, 930, 932, 62, 931]), (84, 2, 10, 7, 0, 0, []), (86, 1, 1, 2, 0, 0, []), (87, 2, 1, 7, 0, 0, []), (89, 1, 43, 0, 0, 0, []), (90, 2, 10, 8, 0, 0, []), (92, 1, 1, 2, 0, 0, []), (93, 2, 1, 7, 0, 0, []), (95, 1, 44, 0, 0, 0, []), (96, 1, 10, 2, 0, 0, []), (97, 1, 0, 0, 0, 0, []), (98, 3, 3, 8, 11, 0, [31, 0, 0, 774]), (101, 2, 1, 5, 0, 0, []), (103, 1, 0, 0, 0, 0, []), (104, 2, 1, 8, 0, 0, []), (106, 2, 1, 5, 0, 0, []), (108, 3, 6, 104, 3, 0, [79, 1, 8, 978, 981, 62, 980, 38]), (111, 1, 18, 0, 0, 0, []), (112, 3, 15, 5, 0, 1, []), (115, 3, 5, 19, 0, 0, []), (118, 1, 19, 0, 0, 0, [])]
def K_105 : pC := [(19, [true, false, true, true, true, true]), (44, [true, false, true, true, true, true])]
/-- yX10_word -/
def T_106 : List pE := [(0, 1, 0, 0, 0, 0, []), (1, 3, 6, 25, 1, 0, [72, 0, 8, 839, 842, 62, 841, 20]), (4, 1, 1, 1, 0, 0, []), (5, 1, 4, 0, 0, 0, []), (6, 1, 0, 0, 0, 0, []), (7, 3, 6, 102, 1, 0, [102, 1, 8, 970, 973, 62, 972, 36]), (10, 1, 4, 0, 0, 1, []), (11, 1, 11, 0, 1, 0, []), (12, 3, 7, 22, 3, 0, [57, 1, 0, 825, 827, 62, 826]), (15, 3, 14, 25, 0, 0, []), (18, 1, 1, 2, 0, 0, []), (19, 3, 7, 23, 1, 0, [92, 1, 0, 828, 830, 62, 829]), (22, 3, 14, 27, 1, 0, []), (25, 1, 4, 0, 0, (-1), []), (26, 1, 9, 0, 0, 0, []), (27, 1, 0, 0, 0, 0, []), (28, 1, 1, 1, 0, 0, []), (29, 3, 6, 105, 2, 0, [105, 0, 8, 974, 977, 62, 976, 37]), (32, 1, 0, 0, 0, 0, []), (33, 3, 3, 8, 11, 0, [31, 0, 0, 774]), (36, 1, 1, 2, 0, 0, []), (37, 1, 12, 0, 0, 0, []), (38, 3, 14, 46, 1, 0, []), (41, 2, 4, 0, 1, (-4), []), (43, 3, 5, 59, 0, 0, []), (46, 1, 0, 0, 0, 0, []), (47, 3, 3, 8, 7, 0, [22, 0, 0, 770]), (50, 1, 0, 0, 0, 0, []), (51, 3, 3, 8, 11, 0, [31, 0, 0, 774]), (54, 1, 1, 2, 0, 0, []), (55, 1, 12, 0, 0, 0, []), (56, 1, 4, 0, 0, 1, []), (57, 1, 11, 0, 1, 0, []), (58, 1, 12, 0, 0, 0, []), (59, 1, 9, 0, 0, 0, [])]
def K_106 : pC := []
/-- yX7_sumOfWeights -/
def T_107 : List pE := [(0, 1, 4, 0, 0, 0, []), (1, 1, 10, 1, 0, 0, []), (2, 1, 4, 0, 0, 1, []), (3, 1, 10, 2, 0, 0, []), (4, 1, 1, 2, 0, 0, []), (5, 1, 0, 0, 0, 0, []), (6, 3, 2, 6, 1, 0, [27, 0, 0, 96]), (9, 3, 13, 29, 4, 0, []), (12, 1, 1, 1, 0, 0, []), (13, 1, 0, 0, 0, 0, []), (14, 3, 3, 6, 3, 0, [20, 0, 0, 102]), (17, 1, 1, 2, 0, 0, []), (18, 3, 6, 10, 2, 0, [52, 1, 4, 318, 321, 56, 319, 320]), (21, 1, 11, 0, 0, 0, []), (22, 1, 10, 1, 0, 0, []), (23, 3, 15, 2, 0, 1, []), (26, 3, 5, 4, 0, 0, []), (29, 1, 1, 1, 0, 0, []), (30, 1, 9, 0, 0, 0, [])]
def K_107 : pC := [(4, [true, true, true])]
/-- yX8_isInOrder -/
def T_108 : List pE := [(0, 1, 4, 0, 0, 0, []), (1, 1, 10, 3, 0, 0, []), (2, 1, 4, 0, 0, 0, []), (3, 2, 10, 4, 0, 0, []), (5, 1, 4, 0, 0, 0, []), (6, 2, 10, 5, 0, 0, []), (8, 2, 1, 5, 0, 0, []), (10, 2, 4, 0, 1, 7, []), (12, 3, 13, 65, 3, 0, []), (15, 1, 1, 0, 0, 0, []), (16, 2, 1, 5, 0, 0, []), (18, 3, 7, 12, 2, 0, [19, 1, 0, 393, 324, 63, 323]), (21, 2, 10, 6, 0, 0, []), (23, 2, 1, 6, 0, 0, []), (25, 3, 14, 34, 1, 0, []), (28, 1, 4, 0, 0, 1, []), (29, 2, 10, 4, 0, 0, []), (31, 3, 5, 59, 0, 0, []), (34, 2, 1, 4, 0, 0, []), (36, 3, 14, 44, 0, 0, []), (39, 1, 1, 2, 0, 0, []), (40, 1, 4, 0, 0, 1, []), (41, 3, 13, 54, 0, 0, []), (44, 1, 1, 3, 0, 0, []), (45, 2, 1, 6, 0, 0, []), (47, 1, 1, 1, 0, 0, []), (48, 3, 7, 86, 3, 0, [47, 1, 0, 501, 503, 63, 502]), (51, 3, 14, 56, 0, 0, []), (54, 1, 4, 0, 0, 0, []), (55, 1, 9, 0, 1, 0, []), (56, 2, 1, 6, 0, 0, []), (58, 1, 10, 3, 0, 0, []), (59, 3, 15, 5, 0, 1, []), (62, 3, 5, 8, 0, 0, []), (65, 1, 4, 0, 0, 1, []), (66, 1, 9, 0, 1, 0, [])]
def K_108 : pC := [(8, [true, true, true, true, true, true]), (44, [true, true, true, true, true, true, true])]
/-- yX8_disorder -/
def T_109 : List pE := [(0, 1, 4, 0, 0, 0, []), (1, 1, 10, 2, 0, 0, []), (2, 1, 4, 0, 0, 0, []), (3, 1, 10, 3, 0, 0, []), (4, 1, 1, 3, 0, 0, []), (5, 2, 4, 0, 1, 7, []), (7, 3, 13, 25, 3, 0, []), (10, 1, 1, 2, 0, 0, []), (11, 1, 1, 0, 0, 0, []), (12, 1, 1, 3, 0, 0, []), (13, 1, 1, 1, 0, 0, []), (14, 3, 7, 87, 3, 0, [51, 1, 0, 550, 500, 63, 499]), (17, 1, 11, 0, 0, 0, []), (18, 1, 10, 2, 0, 0, []), (19, 3, 15, 3, 0, 1, []), (22, 3, 5, 4, 0, 0, []), (25, 1, 1, 2, 0, 0, []), (26, 1, 4, 0, 0, 1, []), (27, 1, 11, 0, 7, 0, []), (28, 1, 9, 0, 0, 0, [])]
def K_109 : pC := [(4, [true, true, true, true])]
/-- yX3_risingWordsOf -/
def T_110 : List pE := [(0, 1, 4, 0, 0, 0, []), (1, 1, 1, 0, 0, 0, []), (2, 3, 7, 72, 2, 0, [9, 1, 0, 472, 474, 65, 473]), (5, 1, 10, 1, 0, 0, []), (6, 1, 1, 1, 0, 0, []), (7, 3, 14, 19, 5, 0, []), (10, 1, 1, 0, 0, 0, []), (11, 3, 7, 98, 1, 0, [15, 1, 0, 554, 526, 65, 525]), (14, 1, 1, 1, 0, 0, []), (15, 1, 43, 0, 0, 0, []), (16, 3, 5, 20, 0, 0, []), (19, 1, 4, 0, 0, 0, []), (20, 1, 9, 0, 0, 0, [])]
def K_110 : pC := []
/-- yX7_possibleMoves -/
def T_111 : List pE := [(0, 1, 4, 0, 0, 0, []), (1, 1, 10, 1, 0, 0, []), (2, 1, 4, 0, 0, 0, []), (3, 1, 10, 2, 0, 0, []), (4, 1, 1, 2, 0, 0, []), (5, 2, 4, 0, 1, 19, []), (7, 3, 13, 34, 3, 0, []), (10, 1, 0, 0, 0, 0, []), (11, 3, 2, 6, 0, 0, [23, 0, 0, 92]), (14, 1, 0, 0, 0, 0, []), (15, 3, 2, 6, 4, 0, [34, 0, 0, 106]), (18, 1, 1, 2, 0, 0, []), (19, 3, 7, 39, 3, 0, [73, 1, 0, 387, 389, 63, 388]), (22, 3, 14, 28, 1, 0, []), (25, 3, 15, 1, 0, 1, []), (28, 3, 15, 2, 0, 1, []), (31, 3, 5, 4, 0, 0, []), (34, 1, 1, 1, 0, 0, []), (35, 1, 9, 0, 0, 0, [])]
def K_111 : pC := [(4, [true, true, true])]
/-- yX9_countAccounts -/
def T_112 : List pE := [(0, 1, 1, 1, 0, 0, []), (1, 47, 24, 0, 0, 8, [112, 48, 56, 64, 72, 80, 88, 96, 104]), (48, 1, 0, 0, 0, 0, []), (49, 3, 3, 7, 0, 0, [10, 0, 0, 282]), (52, 3, 2, 6, 7, 0, [131, 1, 0, 118]), (55, 1, 9, 0, 0, 0, []), (56, 1, 0, 0, 0, 0, []), (57, 3, 3, 7, 0, 0, [10, 0, 0, 282]), (60, 3, 2, 6, 8, 0, [198, 1, 0, 120]), (63, 1, 9, 0, 0, 0, []), (64, 1, 0, 0, 0, 0, []), (65, 3, 3, 7, 0, 0, [10, 0, 0, 282]), (68, 3, 2, 6, 9, 0, [201, 1, 0, 122]), (71, 1, 9, 0, 0, 0, []), (72, 1, 0, 0, 0, 0, []), (73, 3, 3, 7, 0, 0, [10, 0, 0, 282]), (76, 3, 6, 111, 1, 0, [204, 1, 6, 559, 562, 55, 560, 561]), (79, 1, 9, 0, 0, 0, []), (80, 1, 0, 0, 0, 0, []), (81, 3, 3, 7, 0, 0, [10, 0, 0, 282]), (84, 3, 2, 6, 5, 0, [104, 1, 0, 112]), (87, 1, 9, 0, 0, 0, []), (88, 1, 0, 0, 0, 0, []), (89, 3, 3, 7, 0, 0, [10, 0, 0, 282]), (92, 3, 2, 6, 6, 0, [107, 1, 0, 115]), (95, 1, 9, 0, 0, 0, []), (96, 1, 0, 0, 0, 0, []), (97, 3, 3, 7, 4, 0, [33, 0, 0, 286]), (100, 3, 2, 2, 1, 0, [110, 1, 0, 171]), (103, 1, 9, 0, 0, 0, []), (104, 1, 0, 0, 0, 0, []), (105, 3, 3, 7, 3, 0, [26, 0, 0, 285]), (108, 3, 2, 1, 1, 0, [207, 1, 0, 155]), (111, 1, 9, 0, 0, 0, []), (112, 1, 4, 0, 0, (-1), []), (113, 1, 9, 0, 0, 0, [])]
def K_112 : pC := []
/-- yX9_count -/
def T_113 : List pE := [(0, 1, 1, 1, 0, 0, []), (1, 47, 24, 0, 0, 0, [171, 48, 56, 67, 75, 108, 126, 134, 145]), (48, 1, 0, 0, 0, 0, []), (49, 3, 3, 7, 0, 0, [10, 0, 0, 282]), (52, 3, 2, 6, 1, 0, [78, 1, 0, 98]), (55, 1, 9, 0, 0, 0, []), (56, 1, 0, 0, 0, 0, []), (57, 3, 3, 7, 0, 0, [10, 0, 0, 282]), (60, 3, 2, 6, 4, 0, [92, 1, 0, 108]), (63, 3, 7, 73, 1, 0, [177, 1, 0, 539, 477, 66, 476]), (66, 1, 9, 0, 0, 0, []), (67, 1, 0, 0, 0, 0, []), (68, 3, 3, 7, 0, 0, [10, 0, 0, 282]), (71, 3, 6, 107, 1, 0, [182, 1, 6, 540, 543, 55, 541, 542]), (74, 1, 9, 0, 0, 0, []), (75, 1, 0, 0, 0, 0, []), (76, 3, 3, 7, 0, 0, [10, 0, 0, 282]), (79, 3, 2, 6, 0, 0, [68, 1, 0, 93]), (82, 1, 0, 0, 0, 0, []), (83, 3, 3, 7, 0, 0, [10, 0, 0, 282]), (86, 3, 2, 6, 5, 0, [104, 1, 0, 112]), (89, 1, 0, 0, 0, 0, []), (90, 3, 3, 7, 0, 0, [10, 0, 0, 282]), (93, 3, 2, 6, 6, 0, [107, 1, 0, 115]), (96, 3, 7, 108, 3, 0, [185, 1, 0, 544, 546, 63, 545]), (99, 3, 14, 106, 0, 0, []), (102, 1, 4, 0, 0, 1, []), (103, 3, 5, 107, 0, 0, []), (106, 1, 4, 0, 0, 0, []), (107, 1, 9, 0, 0, 0, []), (108, 1, 0, 0, 0, 0, []), (109, 3, 3, 7, 0, 0, [10, 0, 0, 282]), (112, 3, 2, 6, 0, 0, [68, 1, 0, 93]), (115, 1, 0, 0, 0, 0, []), (116, 3, 3, 7, 0, 0, [10, 0, 0, 282]), (119, 3, 2, 6, 5, 0, [104, 1, 0, 112]), (122, 3, 7, 109, 2, 0, [189, 1, 0, 547, 549, 63, 548]), (125, 1, 9, 0, 0, 0, []), (126, 1, 0, 0, 0, 0, []), (127, 3, 3, 7, 0, 0, [10, 0, 0, 282]), (130, 3, 6, 75, 1, 0, [128, 1, 6, 464, 467, 55, 465, 466]), (133, 1, 9, 0, 0, 0, []), (134, 1, 0, 0, 0, 0, []), (135, 3, 3, 7, 0, 0, [10, 0, 0, 282]), (138, 3, 2, 6, 1, 0, [78, 1, 0, 98]), (141, 3, 7, 98, 1, 0, [171, 1, 0, 524, 526, 65, 525]), (144, 1, 9, 0, 0, 0, []), (145, 1, 0, 0, 0, 0, []), (146, 3, 3, 7, 0, 0, [10, 0, 0, 282]), (149, 3, 2, 6, 6, 0, [107, 1, 0, 115]), (152, 1, 4, 0, 0, 1, []), (153, 3, 13, 160, 1, 0, []), (156, 1, 4, 0, 0, 1, []), (157, 3, 5, 170, 0, 0, []), (160, 1, 0, 0, 0, 0, []), (161, 3, 3, 7, 0, 0, [10, 0, 0, 282]), (164, 3, 2, 6, 1, 0, [78, 1, 0, 98]), (167, 3, 7, 110, 1, 0, [192, 1, 0, 551, 553, 65, 552]), (170, 1, 9, 0, 0, 0, []), (171, 1, 0, 0, 0, 0, []), (172, 1, 1, 1, 0, 0, []), (173, 3, 6, 112, 2, 0, [195, 1, 7, 555, 558, 54, 557, 2]), (176, 1, 9, 0, 0, 0, [])]
def K_113 : pC := []
/-- yX10_sumOf -/
def T_114 : List pE := [(0, 1, 4, 0, 0, 0, []), (1, 1, 10, 2, 0, 0, []), (2, 1, 4, 0, 0, 0, []), (3, 1, 10, 3, 0, 0, []), (4, 1, 1, 3, 0, 0, []), (5, 2, 4, 0, 1, 7, []), (7, 3, 13, 42, 3, 0, []), (10, 1, 1, 2, 0, 0, []), (11, 1, 0, 0, 0, 0, []), (12, 3, 3, 8, 0, 0, [7, 0, 0, 763]), (15, 1, 4, 0, 0, 0, []), (16, 1, 1, 3, 0, 0, []), (17, 1, 11, 0, 0, 0, []), (18, 1, 12, 0, 0, 0, []), (19, 3, 14, 33, 5, 0, []), (22, 1, 0, 0, 0, 0, []), (23, 3, 3, 8, 0, 0, [7, 0, 0, 763]), (26, 1, 1, 1, 0, 0, []), (27, 1, 1, 3, 0, 0, []), (28, 1, 11, 0, 0, 0, []), (29, 1, 12, 0, 0, 0, []), (30, 3, 5, 34, 0, 0, []), (33, 1, 4, 0, 0, 0, []), (34, 1, 11, 0, 0, 0, []), (35, 1, 10, 2, 0, 0, []), (36, 3, 15, 3, 0, 1, []), (39, 3, 5, 4, 0, 0, []), (42, 1, 1, 2, 0, 0, []), (43, 1, 9, 0, 0, 0, [])]
def K_114 : pC := [(4, [true, true, true, true])]
/-- yX10_disorderOfWord -/
def T_115 : List pE := [(0, 1, 4, 0, 0, 0, []), (1, 1, 10, 1, 0, 0, []), (2, 1, 4, 0, 0, 0, []), (3, 1, 10, 2, 0, 0, []), (4, 1, 1, 2, 0, 0, []), (5, 2, 4, 0, 1, 7, []), (7, 3, 13, 77, 3, 0, []), (10, 1, 1, 2, 0, 0, []), (11, 1, 4, 0, 0, 1, []), (12, 1, 11, 0, 0, 0, []), (13, 1, 10, 3, 0, 0, []), (14, 1, 1, 3, 0, 0, []), (15, 2, 4, 0, 1, 7, []), (17, 3, 13, 71, 3, 0, []), (20, 1, 1, 1, 0, 0, []), (21, 1, 0, 0, 0, 0, []), (22, 3, 3, 8, 11, 0, [31, 0, 0, 774]), (25, 1, 1, 2, 0, 0, []), (26, 1, 12, 0, 0, 0, []), (27, 3, 14, 62, 5, 0, []), (30, 1, 0, 0, 0, 0, []), (31, 3, 3, 8, 11, 0, [31, 0, 0, 774]), (34, 1, 1, 3, 0, 0, []), (35, 1, 12, 0, 0, 0, []), (36, 3, 14, 62, 5, 0, []), (39, 1, 0, 0, 0, 0, []), (40, 1, 0, 0, 0, 0, []), (41, 3, 3, 8, 11, 0, [31, 0, 0, 774]), (44, 1, 1, 2, 0, 0, []), (45, 1, 12, 0, 0, 0, []), (46, 1, 0, 0, 0, 0, []), (47, 3, 3, 8, 11, 0, [31, 0, 0, 774]), (50, 1, 1, 3, 0, 0, []), (51, 1, 12, 0, 0, 0, []), (52, 3, 6, 89, 3, 0, [86, 1, 8, 949, 952, 62, 951, 35]), (55, 3, 14, 62, 0, 0, []), (58, 1, 4, 0, 0, 1, []), (59, 3, 5, 63, 0, 0, []), (62, 1, 4, 0, 0, 0, []), (63, 1, 11, 0, 0, 0, []), (64, 1, 10, 1, 0, 0, []), (65, 3, 15, 3, 0, 1, []), (68, 3, 5, 14, 0, 0, []), (71, 3, 15, 2, 0, 1, []), (74, 3, 5, 4, 0, 0, []), (77, 1, 1, 1, 0, 0, []), (78, 1, 9, 0, 0, 0, [])]
def K_115 : pC := [(4, [true, true, true]), (14, [true, true, true, true])]
/-- yX10_isWordInOrder -/
def T_116 : List pE := [(0, 1, 4, 0, 0, 1, []), (1, 1, 10, 1, 0, 0, []), (2, 1, 4, 0, 0, 1, []), (3, 1, 10, 2, 0, 0, []), (4, 1, 1, 2, 0, 0, []), (5, 2, 4, 0, 1, 7, []), (7, 3, 13, 46, 3, 0, []), (10, 1, 1, 1, 0, 0, []), (11, 3, 14, 38, 0, 0, []), (14, 1, 0, 0, 0, 0, []), (15, 3, 3, 8, 11, 0, [31, 0, 0, 774]), (18, 1, 1, 2, 0, 0, []), (19, 1, 12, 0, 0, 0, []), (20, 3, 14, 34, 0, 0, []), (23, 1, 0, 0, 0, 0, []), (24, 3, 3, 8, 11, 0, [31, 0, 0, 774]), (27, 1, 1, 2, 0, 0, []), (28, 1, 4, 0, 0, 1, []), (29, 1, 11, 0, 1, 0, []), (30, 1, 12, 0, 0, 0, []), (31, 3, 14, 38, 5, 0, []), (34, 1, 4, 0, 0, 1, []), (35, 3, 5, 39, 0, 0, []), (38, 1, 4, 0, 0, 0, []), (39, 1, 10, 1, 0, 0, []), (40, 3, 15, 2, 0, 1, []), (43, 3, 5, 4, 0, 0, []), (46, 1, 0, 0, 0, 0, []), (47, 3, 6, 115, 1, 0, [89, 1, 8, 998, 1001, 62, 1000, 42]), (50, 3, 14, 71, 1, 0, []), (53, 1, 1, 1, 0, 0, []), (54, 3, 14, 67, 1, 0, []), (57, 1, 0, 0, 0, 0, []), (58, 3, 3, 8, 0, 0, [7, 0, 0, 763]), (61, 2, 4, 0, 1, 22, []), (63, 1, 12, 0, 0, 0, []), (64, 3, 14, 71, 1, 0, []), (67, 1, 4, 0, 0, 1, []), (68, 3, 5, 72, 0, 0, []), (71, 1, 4, 0, 0, 0, []), (72, 1, 9, 0, 1, 0, [])]
def K_116 : pC := [(4, [true, true, true])]
/-- yX10_rankNow -/
def T_117 : List pE := [(0, 1, 0, 0, 0, 0, []), (1, 3, 6, 25, 1, 0, [72, 0, 8, 839, 842, 62, 841, 20]), (4, 1, 4, 0, 0, 0, []), (5, 1, 10, 1, 0, 0, []), (6, 1, 1, 1, 0, 0, []), (7, 2, 4, 0, 1, 7, []), (9, 3, 13, 30, 3, 0, []), (12, 1, 0, 0, 0, 0, []), (13, 3, 3, 8, 12, 0, [34, 0, 0, 775]), (16, 1, 1, 1, 0, 0, []), (17, 1, 0, 0, 0, 0, []), (18, 3, 3, 8, 11, 0, [31, 0, 0, 774]), (21, 1, 1, 1, 0, 0, []), (22, 1, 12, 0, 0, 0, []), (23, 1, 18, 0, 0, 0, []), (24, 3, 15, 1, 0, 1, []), (27, 3, 5, 6, 0, 0, []), (30, 1, 0, 0, 0, 0, []), (31, 3, 6, 79, 1, 0, [75, 1, 8, 922, 925, 62, 924, 31]), (34, 1, 9, 0, 0, 0, [])]
def K_117 : pC := [(6, [true, true])]
/-- yX10_wordsInOrder -/
def T_118 : List pE := [(0, 1, 4, 0, 0, 0, []), (1, 1, 10, 1, 0, 0, []), (2, 1, 4, 0, 0, 0, []), (3, 1, 10, 2, 0, 0, []), (4, 1, 1, 2, 0, 0, []), (5, 1, 0, 0, 0, 0, []), (6, 3, 6, 102, 1, 0, [102, 1, 8, 970, 973, 62, 972, 36]), (9, 3, 13, 38, 3, 0, []), (12, 1, 0, 0, 0, 0, []), (13, 1, 1, 2, 0, 0, []), (14, 3, 6, 105, 2, 0, [105, 0, 8, 974, 977, 62, 976, 37]), (17, 1, 1, 1, 0, 0, []), (18, 1, 0, 0, 0, 0, []), (19, 3, 6, 116, 1, 0, [109, 1, 8, 994, 997, 62, 996, 41]), (22, 3, 14, 29, 0, 0, []), (25, 1, 4, 0, 0, 1, []), (26, 3, 5, 30, 0, 0, []), (29, 1, 4, 0, 0, 0, []), (30, 1, 11, 0, 0, 0, []), (31, 1, 10, 1, 0, 0, []), (32, 3, 15, 2, 0, 1, []), (35, 3, 5, 4, 0, 0, []), (38, 1, 1, 1, 0, 0, []), (39, 1, 9, 0, 0, 0, [])]
def K_118 : pC := [(4, [true, true, true])]
/-- yX10_movesNow -/
def T_119 : List pE := [(0, 1, 4, 0, 0, 0, []), (1, 1, 10, 1, 0, 0, []), (2, 1, 4, 0, 0, 0, []), (3, 1, 10, 2, 0, 0, []), (4, 1, 1, 2, 0, 0, []), (5, 2, 4, 0, 1, 19, []), (7, 3, 13, 32, 3, 0, []), (10, 1, 1, 1, 0, 0, []), (11, 1, 0, 0, 0, 0, []), (12, 1, 1, 2, 0, 0, []), (13, 3, 6, 45, 2, 0, [114, 1, 8, 867, 870, 62, 869, 24]), (16, 3, 14, 23, 1, 0, []), (19, 1, 4, 0, 0, 1, []), (20, 3, 5, 24, 0, 0, []), (23, 1, 4, 0, 0, 0, []), (24, 1, 11, 0, 0, 0, []), (25, 1, 10, 1, 0, 0, []), (26, 3, 15, 2, 0, 1, []), (29, 3, 5, 4, 0, 0, []), (32, 1, 1, 1, 0, 0, []), (33, 1, 9, 0, 0, 0, [])]
def K_119 : pC := [(4, [true, true, true])]
/-- yX10_count -/
def T_120 : List pE := [(0, 1, 0, 0, 0, 0, []), (1, 3, 6, 25, 1, 0, [72, 0, 8, 839, 842, 62, 841, 20]), (4, 1, 1, 1, 0, 0, []), (5, 79, 24, 0, 0, 0, [177, 84, 89, 96, 103, 116, 121, 126, 131, 136, 136, 136, 149, 154, 154, 167, 172]), (84, 1, 0, 0, 0, 0, []), (85, 3, 2, 8, 10, 0, [61, 0, 0, 773]), (88, 1, 9, 0, 0, 0, []), (89, 1, 0, 0, 0, 0, []), (90, 2, 4, 0, 1, 14, []), (92, 3, 6, 114, 2, 0, [168, 1, 8, 990, 993, 62, 992, 40]), (95, 1, 9, 0, 0, 0, []), (96, 1, 0, 0, 0, 0, []), (97, 2, 4, 0, 1, 7, []), (99, 3, 6, 114, 2, 0, [168, 1, 8, 990, 993, 62, 992, 40]), (102, 1, 9, 0, 0, 0, []), (103, 1, 0, 0, 0, 0, []), (104, 3, 6, 116, 1, 0, [109, 1, 8, 994, 997, 62, 996, 41]), (107, 3, 14, 114, 0, 0, []), (110, 1, 4, 0, 0, 1, []), (111, 3, 5, 115, 0, 0, []), (114, 1, 4, 0, 0, 0, []), (115, 1, 9, 0, 0, 0, []), (116, 1, 0, 0, 0, 0, []), (117, 3, 6, 115, 1, 0, [89, 1, 8, 998, 1001, 62, 1000, 42]), (120, 1, 9, 0, 0, 0, []), (121, 1, 0, 0, 0, 0, []), (122, 3, 6, 117, 1, 0, [171, 1, 8, 1002, 1005, 62, 1004, 43]), (125, 1, 9, 0, 0, 0, []), (126, 1, 0, 0, 0, 0, []), (127, 3, 6, 102, 1, 0, [102, 1, 8, 970, 973, 62, 972, 36]), (130, 1, 9, 0, 0, 0, []), (131, 1, 0, 0, 0, 0, []), (132, 3, 6, 118, 1, 0, [174, 1, 8, 1006, 1009, 62, 1008, 44]), (135, 1, 9, 0, 0, 0, []), (136, 1, 0, 0, 0, 0, []), (137, 3, 3, 8, 0, 0, [7, 0, 0, 763]), (140, 2, 4, 0, 1, 23, []), (142, 1, 1, 1, 0, 0, []), (143, 1, 11, 0, 0, 0, []), (144, 2, 4, 0, 1, 8, []), (146, 1, 11, 0, 1, 0, []), (147, 1, 12, 0, 0, 0, []), (148, 1, 9, 0, 0, 0, []), (149, 1, 0, 0, 0, 0, []), (150, 3, 6, 119, 1, 0, [177, 1, 8, 1010, 1013, 62, 1012, 45]), (153, 1, 9, 0, 0, 0, []), (154, 1, 0, 0, 0, 0, []), (155, 3, 3, 8, 0, 0, [7, 0, 0, 763]), (158, 2, 4, 0, 1, 21, []), (160, 1, 1, 1, 0, 0, []), (161, 1, 11, 0, 0, 0, []), (162, 2, 4, 0, 1, 12, []), (164, 1, 11, 0, 1, 0, []), (165, 1, 12, 0, 0, 0, []), (166, 1, 9, 0, 0, 0, []), (167, 1, 0, 0, 0, 0, []), (168, 3, 2, 8, 6, 0, [144, 0, 0, 769]), (171, 1, 9, 0, 0, 0, []), (172, 1, 0, 0, 0, 0, []), (173, 3, 2, 8, 2, 0, [53, 0, 0, 765]), (176, 1, 9, 0, 0, 0, []), (177, 1, 4, 0, 0, (-1), []), (178, 1, 9, 0, 0, 0, [])]
def K_120 : pC := [(136, [true, true]), (154, [true, true])]
/-- yX0_firstNode -/
def T_121 : List pE := [(0, 1, 4, 0, 0, 0, []), (1, 1, 10, 1, 0, 0, []), (2, 1, 4, 0, 0, 0, []), (3, 1, 10, 2, 0, 0, []), (4, 1, 1, 2, 0, 0, []), (5, 1, 1, 0, 0, 0, []), (6, 3, 13, 22, 3, 0, []), (9, 1, 1, 1, 0, 0, []), (10, 1, 1, 2, 0, 0, []), (11, 3, 7, 98, 1, 0, [33, 1, 0, 579, 526, 65, 525]), (14, 1, 11, 0, 0, 0, []), (15, 1, 10, 1, 0, 0, []), (16, 3, 15, 2, 0, 1, []), (19, 3, 5, 4, 0, 0, []), (22, 1, 1, 1, 0, 0, []), (23, 1, 9, 0, 0, 0, [])]
def K_121 : pC := [(4, [true, true, true])]
/-- yX0_drawOnward -/
def T_122 : List pE := [(0, 1, 1, 2, 0, 0, []), (1, 2, 10, 4, 0, 0, []), (3, 2, 1, 4, 0, 0, []), (5, 1, 1, 3, 0, 0, []), (6, 3, 13, 118, 3, 0, []), (9, 2, 1, 4, 0, 0, []), (11, 1, 1, 2, 0, 0, []), (12, 1, 11, 0, 1, 0, []), (13, 1, 1, 1, 0, 0, []), (14, 3, 7, 100, 2, 0, [63, 1, 0, 584, 529, 65, 528]), (17, 2, 10, 5, 0, 0, []), (19, 1, 0, 0, 0, 0, []), (20, 3, 3, 0, 0, 0, [14, 0, 0, 186]), (23, 2, 1, 4, 0, 0, []), (25, 2, 1, 5, 0, 0, []), (27, 3, 6, 17, 3, 0, [67, 0, 4, 585, 349, 56, 347, 348]), (30, 1, 4, 0, 0, 0, []), (31, 2, 10, 6, 0, 0, []), (33, 2, 1, 6, 0, 0, []), (35, 2, 4, 0, 1, 19, []), (37, 3, 13, 112, 3, 0, []), (40, 1, 4, 0, 0, (-1), []), (41, 2, 10, 7, 0, 0, []), (43, 2, 1, 5, 0, 0, []), (45, 1, 4, 0, 0, 0, []), (46, 2, 1, 6, 0, 0, []), (48, 3, 7, 39, 3, 0, [70, 1, 0, 586, 389, 63, 388]), (51, 3, 14, 89, 1, 0, []), (54, 1, 1, 2, 0, 0, []), (55, 2, 1, 5, 0, 0, []), (57, 2, 1, 6, 0, 0, []), (59, 3, 7, 41, 2, 0, [74, 1, 0, 587, 407, 63, 406]), (62, 1, 1, 1, 0, 0, []), (63, 3, 7, 74, 2, 0, [77, 1, 0, 588, 470, 65, 469]), (66, 1, 11, 0, 0, 0, []), (67, 2, 10, 7, 0, 0, []), (69, 1, 0, 0, 0, 0, []), (70, 3, 3, 0, 4, 0, [30, 0, 0, 193]), (73, 2, 1, 7, 0, 0, []), (75, 1, 0, 0, 0, 0, []), (76, 3, 3, 0, 4, 0, [30, 0, 0, 193]), (79, 2, 1, 7, 0, 0, []), (81, 3, 6, 10, 2, 0, [80, 1, 4, 589, 321, 56, 319, 320]), (84, 1, 4, 0, 0, 1, []), (85, 1, 11, 0, 0, 0, []), (86, 3, 6, 17, 3, 0, [67, 0, 4, 585, 349, 56, 347, 348]), (89, 1, 0, 0, 0, 0, []), (90, 3, 3, 0, 1, 0, [21, 0, 0, 188]), (93, 2, 1, 4, 0, 0, []), (95, 2, 4, 0, 1, 19, []), (97, 1, 11, 0, 2, 0, []), (98, 2, 1, 6, 0, 0, []), (100, 1, 11, 0, 0, 0, []), (101, 2, 1, 7, 0, 0, []), (103, 3, 6, 17, 3, 0, [67, 0, 4, 585, 349, 56, 347, 348]), (106, 3, 15, 6, 0, 1, []), (109, 3, 5, 33, 0, 0, []), (112, 3, 15, 4, 0, 1, []), (115, 3, 5, 3, 0, 0, []), (118, 1, 19, 0, 0, 0, [])]
def K_122 : pC := [(3, [true, true, true, true, true]), (33, [true, true, true, true, true, true, true]), (89, [true, true, true, true, true, true, true, true])]
/-- yX0_shareOut -/
def T_123 : List pE := [(0, 1, 1, 1, 0, 0, []), (1, 2, 4, 0, 1, 19, []), (3, 1, 11, 0, 2, 0, []), (4, 1, 10, 3, 0, 0, []), (5, 1, 1, 1, 0, 0, []), (6, 2, 10, 4, 0, 0, []), (8, 2, 1, 4, 0, 0, []), (10, 1, 1, 2, 0, 0, []), (11, 3, 13, 56, 3, 0, []), (14, 1, 0, 0, 0, 0, []), (15, 3, 3, 0, 4, 0, [30, 0, 0, 193]), (18, 2, 1, 4, 0, 0, []), (20, 3, 6, 10, 2, 0, [80, 1, 4, 589, 321, 56, 319, 320]), (23, 2, 10, 5, 0, 0, []), (25, 1, 0, 0, 0, 0, []), (26, 3, 3, 0, 3, 0, [27, 0, 0, 191]), (29, 2, 1, 4, 0, 0, []), (31, 1, 1, 3, 0, 0, []), (32, 3, 6, 17, 3, 0, [67, 0, 4, 585, 349, 56, 347, 348]), (35, 1, 0, 0, 0, 0, []), (36, 3, 3, 0, 4, 0, [30, 0, 0, 193]), (39, 2, 1, 4, 0, 0, []), (41, 1, 1, 3, 0, 0, []), (42, 3, 6, 17, 3, 0, [67, 0, 4, 585, 349, 56, 347, 348]), (45, 1, 1, 3, 0, 0, []), (46, 2, 1, 5, 0, 0, []), (48, 1, 11, 0, 0, 0, []), (49, 1, 10, 3, 0, 0, []), (50, 3, 15, 4, 0, 1, []), (53, 3, 5, 8, 0, 0, []), (56, 1, 19, 0, 0, 0, [])]
def K_123 : pC := [(8, [true, false, true, true, true])]
/-- yX0_drawInto -/
def T_124 : List pE := [(0, 1, 1, 1, 0, 0, []), (1, 2, 4, 0, 1, 19, []), (3, 1, 11, 0, 2, 0, []), (4, 1, 10, 3, 0, 0, []), (5, 1, 1, 3, 0, 0, []), (6, 1, 1, 2, 0, 0, []), (7, 2, 4, 0, 1, 19, []), (9, 1, 11, 0, 2, 0, []), (10, 3, 13, 72, 3, 0, []), (13, 1, 0, 0, 0, 0, []), (14, 3, 3, 0, 1, 0, [21, 0, 0, 188]), (17, 1, 1, 3, 0, 0, []), (18, 3, 6, 10, 2, 0, [80, 1, 4, 589, 321, 56, 319, 320]), (21, 2, 10, 4, 0, 0, []), (23, 2, 1, 4, 0, 0, []), (25, 1, 4, 0, 0, (-1), []), (26, 3, 13, 66, 0, 0, []), (29, 1, 0, 0, 0, 0, []), (30, 3, 3, 0, 2, 0, [24, 0, 0, 189]), (33, 1, 0, 0, 0, 0, []), (34, 3, 3, 0, 4, 0, [30, 0, 0, 193]), (37, 2, 1, 4, 0, 0, []), (39, 3, 6, 10, 2, 0, [80, 1, 4, 589, 321, 56, 319, 320]), (42, 1, 1, 3, 0, 0, []), (43, 3, 6, 17, 3, 0, [67, 0, 4, 585, 349, 56, 347, 348]), (46, 1, 0, 0, 0, 0, []), (47, 3, 3, 0, 4, 0, [30, 0, 0, 193]), (50, 2, 1, 4, 0, 0, []), (52, 1, 0, 0, 0, 0, []), (53, 3, 3, 0, 4, 0, [30, 0, 0, 193]), (56, 2, 1, 4, 0, 0, []), (58, 3, 6, 10, 2, 0, [80, 1, 4, 589, 321, 56, 319, 320]), (61, 1, 4, 0, 0, 1, []), (62, 1, 11, 0, 0, 0, []), (63, 3, 6, 17, 3, 0, [67, 0, 4, 585, 349, 56, 347, 348]), (66, 3, 15, 3, 0, 1, []), (69, 3, 5, 5, 0, 0, []), (72, 1, 19, 0, 0, 0, [])]
def K_124 : pC := [(5, [true, false, true, true])]
/-- yX0_draw -/
def T_125 : List pE := [(0, 1, 0, 0, 0, 0, []), (1, 3, 2, 0, 5, 0, [39, 0, 0, 195]), (4, 1, 1, 1, 0, 0, []), (5, 3, 7, 32, 2, 0, [43, 1, 0, 575, 372, 63, 371]), (8, 3, 14, 54, 1, 0, []), (11, 1, 0, 0, 0, 0, []), (12, 1, 20, 0, 0, 0, []), (13, 3, 2, 0, 5, 0, [39, 0, 0, 195]), (16, 1, 4, 0, 0, 1, []), (17, 1, 1, 1, 0, 0, []), (18, 1, 11, 0, 6, 0, []), (19, 1, 11, 0, 4, 0, []), (20, 3, 16, 0, 5, 0, [39, 0, 0, 195]), (23, 1, 1, 1, 0, 0, []), (24, 3, 7, 121, 1, 0, [49, 1, 0, 576, 578, 59, 577]), (27, 1, 10, 2, 0, 0, []), (28, 1, 1, 2, 0, 0, []), (29, 1, 1, 1, 0, 0, []), (30, 3, 7, 98, 1, 0, [33, 1, 0, 579, 526, 65, 525]), (33, 1, 11, 0, 0, 0, []), (34, 1, 10, 3, 0, 0, []), (35, 1, 0, 0, 0, 0, []), (36, 1, 1, 1, 0, 0, []), (37, 1, 1, 2, 0, 0, []), (38, 1, 1, 3, 0, 0, []), (39, 3, 6, 122, 4, 0, [52, 0, 0, 580, 583, 59, 582, 4]), (42, 1, 0, 0, 0, 0, []), (43, 1, 1, 2, 0, 0, []), (44, 1, 1, 3, 0, 0, []), (45, 3, 6, 123, 3, 0, [56, 0, 0, 590, 593, 59, 592, 5]), (48, 1, 0, 0, 0, 0, []), (49, 1, 1, 2, 0, 0, []), (50, 1, 1, 3, 0, 0, []), (51, 3, 6, 124, 3, 0, [60, 0, 0, 594, 597, 59, 596, 6]), (54, 1, 19, 0, 0, 0, [])]
def K_125 : pC := []
/-- yX9_drawnSearch -/
def T_126 : List pE := [(0, 1, 0, 0, 0, 0, []), (1, 3, 3, 7, 5, 0, [40, 0, 0, 287]), (4, 1, 0, 0, 0, 0, []), (5, 3, 3, 7, 0, 0, [10, 0, 0, 282]), (8, 3, 2, 6, 1, 0, [78, 1, 0, 98]), (11, 3, 6, 125, 2, 0, [261, 0, 0, 571, 574, 59, 572, 573]), (14, 1, 0, 0, 0, 0, []), (15, 3, 3, 7, 6, 0, [49, 0, 0, 288]), (18, 1, 30, 0, 0, 0, [])]
def K_126 : pC := []
/-- yX7_keyOfMoves -/
def T_127 : List pE := [(0, 1, 0, 0, 0, 0, []), (1, 3, 2, 6, 4, 0, [34, 0, 0, 106]), (4, 1, 4, 0, 0, 1, []), (5, 1, 11, 0, 6, 0, []), (6, 1, 0, 0, 0, 0, []), (7, 3, 2, 6, 5, 0, [37, 0, 0, 110]), (10, 1, 11, 0, 4, 0, []), (11, 1, 4, 0, 0, 1, []), (12, 1, 11, 0, 6, 0, []), (13, 1, 0, 0, 0, 0, []), (14, 3, 2, 6, 6, 0, [40, 0, 0, 114]), (17, 1, 11, 0, 4, 0, []), (18, 1, 4, 0, 0, 3, []), (19, 1, 11, 0, 6, 0, []), (20, 1, 0, 0, 0, 0, []), (21, 3, 2, 6, 1, 0, [27, 0, 0, 96]), (24, 1, 11, 0, 4, 0, []), (25, 1, 9, 0, 0, 0, [])]
def K_127 : pC := []
/-- yX6_startAtOrder -/
def T_128 : List pE := [(0, 1, 1, 3, 0, 0, []), (1, 2, 10, 5, 0, 0, []), (3, 2, 1, 5, 0, 0, []), (5, 2, 1, 4, 0, 0, []), (7, 3, 13, 57, 3, 0, []), (10, 1, 0, 0, 0, 0, []), (11, 3, 3, 5, 0, 0, [9, 0, 0, 217]), (14, 3, 3, 0, 0, 0, [102, 1, 0, 187]), (17, 2, 1, 5, 0, 0, []), (19, 3, 6, 10, 2, 0, [61, 1, 4, 620, 321, 56, 319, 320]), (22, 1, 0, 1, 0, 0, []), (23, 3, 2, 6, 5, 0, [105, 1, 0, 113]), (26, 1, 0, 1, 0, 0, []), (27, 3, 2, 6, 6, 0, [108, 1, 0, 116]), (30, 3, 7, 108, 3, 0, [111, 1, 0, 621, 546, 63, 545]), (33, 2, 10, 6, 0, 0, []), (35, 1, 0, 2, 0, 0, []), (36, 2, 1, 5, 0, 0, []), (38, 2, 1, 6, 0, 0, []), (40, 3, 14, 47, 0, 0, []), (43, 1, 4, 0, 0, 0, []), (44, 3, 5, 48, 0, 0, []), (47, 1, 4, 0, 0, (-1), []), (48, 3, 6, 17, 3, 0, [86, 0, 4, 622, 349, 56, 347, 348]), (51, 3, 15, 5, 0, 1, []), (54, 3, 5, 3, 0, 0, []), (57, 1, 19, 0, 0, 0, [])]
def K_128 : pC := [(3, [true, true, true, false, true, true])]
/-- yX0_isHeld -/
def T_129 : List pE := [(0, 1, 1, 2, 0, 0, []), (1, 3, 7, 38, 1, 0, [83, 1, 0, 631, 396, 63, 395]), (4, 3, 14, 30, 0, 0, []), (7, 1, 1, 3, 0, 0, []), (8, 1, 0, 0, 0, 0, []), (9, 3, 3, 0, 0, 0, [14, 0, 0, 186]), (12, 1, 1, 1, 0, 0, []), (13, 3, 6, 10, 2, 0, [80, 1, 4, 589, 321, 56, 319, 320]), (16, 1, 1, 2, 0, 0, []), (17, 3, 7, 12, 2, 0, [87, 1, 0, 632, 324, 63, 323]), (20, 3, 7, 32, 2, 0, [43, 1, 0, 575, 372, 63, 371]), (23, 3, 14, 30, 0, 0, []), (26, 1, 4, 0, 0, 1, []), (27, 3, 5, 31, 0, 0, []), (30, 1, 4, 0, 0, 0, []), (31, 1, 9, 0, 1, 0, [])]
def K_129 : pC := []
/-- yX6_comeFrom -/
def T_130 : List pE := [(0, 1, 1, 3, 0, 0, []), (1, 2, 10, 4, 0, 0, []), (3, 1, 0, 0, 0, 0, []), (4, 3, 3, 5, 0, 0, [9, 0, 0, 217]), (7, 3, 3, 0, 3, 0, [146, 1, 0, 192]), (10, 1, 1, 1, 0, 0, []), (11, 3, 6, 10, 2, 0, [61, 1, 4, 620, 321, 56, 319, 320]), (14, 2, 10, 5, 0, 0, []), (16, 2, 1, 5, 0, 0, []), (18, 1, 0, 0, 0, 0, []), (19, 3, 3, 5, 0, 0, [9, 0, 0, 217]), (22, 3, 3, 0, 4, 0, [149, 1, 0, 194]), (25, 1, 1, 1, 0, 0, []), (26, 3, 6, 10, 2, 0, [61, 1, 4, 620, 321, 56, 319, 320]), (29, 3, 13, 123, 3, 0, []), (32, 1, 0, 0, 0, 0, []), (33, 3, 3, 5, 0, 0, [9, 0, 0, 217]), (36, 3, 3, 0, 2, 0, [152, 1, 0, 190]), (39, 2, 1, 5, 0, 0, []), (41, 3, 6, 10, 2, 0, [61, 1, 4, 620, 321, 56, 319, 320]), (44, 2, 10, 6, 0, 0, []), (46, 2, 1, 6, 0, 0, []), (48, 2, 4, 0, 1, 19, []), (50, 1, 43, 0, 0, 0, []), (51, 2, 10, 7, 0, 0, []), (53, 1, 0, 0, 0, 0, []), (54, 3, 3, 5, 1, 0, [20, 0, 0, 218]), (57, 2, 1, 7, 0, 0, []), (59, 3, 6, 10, 2, 0, [61, 1, 4, 620, 321, 56, 319, 320]), (62, 1, 4, 0, 0, (-1), []), (63, 3, 13, 117, 1, 0, []), (66, 1, 0, 0, 0, 0, []), (67, 3, 3, 5, 0, 0, [9, 0, 0, 217]), (70, 2, 1, 7, 0, 0, []), (72, 2, 1, 6, 0, 0, []), (74, 2, 4, 0, 1, 19, []), (76, 1, 44, 0, 0, 0, []), (77, 1, 1, 2, 0, 0, []), (78, 3, 6, 129, 4, 0, [94, 1, 0, 627, 630, 59, 628, 629]), (81, 3, 14, 117, 1, 0, []), (84, 1, 0, 0, 0, 0, []), (85, 3, 3, 5, 1, 0, [20, 0, 0, 218]), (88, 2, 1, 7, 0, 0, []), (90, 1, 0, 0, 0, 0, []), (91, 3, 3, 5, 1, 0, [20, 0, 0, 218]), (94, 1, 1, 1, 0, 0, []), (95, 3, 6, 10, 2, 0, [61, 1, 4, 620, 321, 56, 319, 320]), (98, 1, 4, 0, 0, 1, []), (99, 1, 11, 0, 0, 0, []), (100, 3, 6, 17, 3, 0, [86, 0, 4, 622, 349, 56, 347, 348]), (103, 1, 0, 0, 0, 0, []), (104, 3, 3, 5, 8, 0, [43, 0, 0, 225]), (107, 2, 1, 4, 0, 0, []), (109, 2, 1, 7, 0, 0, []), (111, 3, 6, 17, 3, 0, [86, 0, 4, 622, 349, 56, 347, 348]), (114, 3, 15, 4, 0, 1, []), (117, 3, 15, 5, 0, 1, []), (120, 3, 5, 16, 0, 0, []), (123, 2, 1, 4, 0, 0, []), (125, 1, 9, 0, 0, 0, [])]
def K_130 : pC := [(16, [true, true, true, false, true, true])]
/-- yX6_findFewest -/
def T_131 : List pE := [(0, 1, 0, 1, 0, 0, []), (1, 3, 6, 127, 1, 0, [136, 1, 6, 610, 613, 55, 611, 612]), (4, 1, 10, 2, 0, 0, []), (5, 1, 1, 2, 0, 0, []), (6, 1, 0, 0, 0, 0, []), (7, 3, 2, 5, 4, 0, [30, 0, 0, 221]), (10, 3, 13, 14, 1, 0, []), (13, 1, 19, 0, 0, 0, []), (14, 1, 0, 0, 0, 0, []), (15, 1, 1, 2, 0, 0, []), (16, 3, 16, 5, 4, 0, [30, 0, 0, 221]), (19, 1, 0, 1, 0, 0, []), (20, 3, 2, 6, 1, 0, [50, 1, 0, 95]), (23, 3, 7, 121, 1, 0, [55, 1, 0, 614, 578, 59, 577]), (26, 1, 10, 3, 0, 0, []), (27, 1, 1, 3, 0, 0, []), (28, 1, 0, 1, 0, 0, []), (29, 3, 2, 6, 1, 0, [50, 1, 0, 95]), (32, 3, 7, 98, 1, 0, [76, 1, 0, 615, 526, 65, 525]), (35, 1, 11, 0, 0, 0, []), (36, 2, 10, 4, 0, 0, []), (38, 1, 0, 0, 0, 0, []), (39, 1, 0, 1, 0, 0, []), (40, 1, 0, 0, 0, 0, []), (41, 3, 3, 5, 1, 0, [20, 0, 0, 218]), (44, 1, 1, 3, 0, 0, []), (45, 2, 1, 4, 0, 0, []), (47, 3, 6, 128, 5, 0, [139, 0, 5, 616, 619, 60, 618, 9]), (50, 1, 4, 0, 0, 0, []), (51, 2, 10, 5, 0, 0, []), (53, 1, 1, 3, 0, 0, []), (54, 2, 10, 6, 0, 0, []), (56, 2, 1, 6, 0, 0, []), (58, 2, 1, 4, 0, 0, []), (60, 3, 13, 95, 3, 0, []), (63, 1, 0, 0, 0, 0, []), (64, 3, 3, 5, 1, 0, [20, 0, 0, 218]), (67, 2, 1, 6, 0, 0, []), (69, 3, 6, 10, 2, 0, [61, 1, 4, 620, 321, 56, 319, 320]), (72, 3, 14, 89, 1, 0, []), (75, 1, 0, 0, 0, 0, []), (76, 3, 3, 5, 8, 0, [43, 0, 0, 225]), (79, 2, 1, 5, 0, 0, []), (81, 2, 1, 6, 0, 0, []), (83, 3, 6, 17, 3, 0, [86, 0, 4, 622, 349, 56, 347, 348]), (86, 3, 15, 5, 0, 1, []), (89, 3, 15, 6, 0, 1, []), (92, 3, 5, 56, 0, 0, []), (95, 1, 4, 0, 0, 0, []), (96, 2, 10, 6, 0, 0, []), (98, 2, 1, 6, 0, 0, []), (100, 2, 1, 5, 0, 0, []), (102, 3, 13, 140, 3, 0, []), (105, 2, 1, 6, 0, 0, []), (107, 3, 4, 0, 2, 2520, []), (110, 3, 13, 140, 3, 0, []), (113, 1, 0, 0, 0, 0, []), (114, 1, 0, 0, 0, 0, []), (115, 3, 3, 5, 8, 0, [43, 0, 0, 225]), (118, 2, 1, 6, 0, 0, []), (120, 3, 6, 10, 2, 0, [61, 1, 4, 620, 321, 56, 319, 320]), (123, 1, 0, 1, 0, 0, []), (124, 3, 2, 6, 4, 0, [116, 1, 0, 109]), (127, 2, 1, 5, 0, 0, []), (129, 3, 6, 130, 4, 0, [143, 1, 5, 623, 626, 60, 625, 10]), (132, 2, 10, 5, 0, 0, []), (134, 3, 15, 6, 0, 1, []), (137, 3, 5, 98, 0, 0, []), (140, 1, 19, 0, 0, 0, [])]
def K_131 : pC := [(56, [true, true, false, false, true, true, true]), (98, [true, true, false, false, false, true, true])]
/-- yX7_keyOfCosts -/
def T_132 : List pE := [(0, 1, 4, 0, 0, 0, []), (1, 1, 10, 1, 0, 0, []), (2, 1, 4, 0, 0, 1, []), (3, 1, 10, 2, 0, 0, []), (4, 1, 1, 2, 0, 0, []), (5, 1, 0, 0, 0, 0, []), (6, 3, 2, 6, 1, 0, [27, 0, 0, 96]), (9, 3, 13, 31, 4, 0, []), (12, 1, 1, 1, 0, 0, []), (13, 1, 4, 0, 0, 4, []), (14, 1, 11, 0, 6, 0, []), (15, 1, 0, 0, 0, 0, []), (16, 3, 3, 6, 3, 0, [20, 0, 0, 102]), (19, 1, 1, 2, 0, 0, []), (20, 3, 6, 10, 2, 0, [52, 1, 4, 318, 321, 56, 319, 320]), (23, 1, 11, 0, 4, 0, []), (24, 1, 10, 1, 0, 0, []), (25, 3, 15, 2, 0, 1, []), (28, 3, 5, 4, 0, 0, []), (31, 1, 1, 1, 0, 0, []), (32, 2, 4, 0, 1, 11, []), (34, 1, 11, 0, 6, 0, []), (35, 1, 0, 0, 0, 0, []), (36, 3, 6, 127, 1, 0, [88, 1, 6, 641, 613, 55, 611, 612]), (39, 1, 11, 0, 4, 0, []), (40, 1, 9, 0, 0, 0, [])]
def K_132 : pC := [(4, [true, true, true])]
/-- yX6_offerBack -/
def T_133 : List pE := [(0, 1, 4, 0, 0, (-1), []), (1, 2, 10, 4, 0, 0, []), (3, 1, 0, 0, 0, 0, []), (4, 3, 3, 5, 0, 0, [9, 0, 0, 217]), (7, 3, 3, 0, 3, 0, [146, 1, 0, 192]), (10, 1, 1, 3, 0, 0, []), (11, 3, 6, 10, 2, 0, [61, 1, 4, 620, 321, 56, 319, 320]), (14, 2, 10, 5, 0, 0, []), (16, 2, 1, 5, 0, 0, []), (18, 1, 0, 0, 0, 0, []), (19, 3, 3, 5, 0, 0, [9, 0, 0, 217]), (22, 3, 3, 0, 4, 0, [149, 1, 0, 194]), (25, 1, 1, 3, 0, 0, []), (26, 3, 6, 10, 2, 0, [61, 1, 4, 620, 321, 56, 319, 320]), (29, 3, 13, 151, 3, 0, []), (32, 1, 0, 0, 0, 0, []), (33, 3, 3, 5, 0, 0, [9, 0, 0, 217]), (36, 3, 3, 0, 2, 0, [152, 1, 0, 190]), (39, 2, 1, 5, 0, 0, []), (41, 3, 6, 10, 2, 0, [61, 1, 4, 620, 321, 56, 319, 320]), (44, 2, 10, 6, 0, 0, []), (46, 2, 1, 6, 0, 0, []), (48, 2, 4, 0, 1, 19, []), (50, 1, 43, 0, 0, 0, []), (51, 2, 10, 7, 0, 0, []), (53, 2, 1, 6, 0, 0, []), (55, 2, 4, 0, 1, 19, []), (57, 1, 44, 0, 0, 0, []), (58, 2, 10, 8, 0, 0, []), (60, 1, 0, 2, 0, 0, []), (61, 1, 1, 3, 0, 0, []), (62, 3, 6, 10, 2, 0, [61, 1, 4, 620, 321, 56, 319, 320]), (65, 1, 0, 0, 0, 0, []), (66, 3, 3, 5, 0, 0, [9, 0, 0, 217]), (69, 3, 3, 0, 0, 0, [102, 1, 0, 187]), (72, 2, 1, 7, 0, 0, []), (74, 3, 6, 10, 2, 0, [61, 1, 4, 620, 321, 56, 319, 320]), (77, 1, 0, 1, 0, 0, []), (78, 3, 3, 6, 3, 0, [119, 1, 0, 104]), (81, 2, 1, 8, 0, 0, []), (83, 3, 7, 40, 3, 0, [122, 1, 0, 646, 400, 63, 399]), (86, 1, 11, 0, 0, 0, []), (87, 2, 10, 9, 0, 0, []), (89, 1, 0, 2, 0, 0, []), (90, 2, 1, 7, 0, 0, []), (92, 3, 6, 10, 2, 0, [61, 1, 4, 620, 321, 56, 319, 320]), (95, 2, 10, 10, 0, 0, []), (97, 2, 1, 10, 0, 0, []), (99, 1, 4, 0, 0, (-1), []), (100, 3, 13, 110, 0, 0, []), (103, 2, 1, 9, 0, 0, []), (105, 2, 1, 10, 0, 0, []), (107, 3, 13, 145, 3, 0, []), (110, 1, 0, 0, 0, 0, []), (111, 3, 3, 5, 0, 0, [9, 0, 0, 217]), (114, 2, 1, 7, 0, 0, []), (116, 2, 1, 8, 0, 0, []), (118, 1, 0, 1, 0, 0, []), (119, 3, 2, 6, 4, 0, [116, 1, 0, 109]), (122, 3, 6, 129, 4, 0, [94, 1, 0, 627, 630, 59, 628, 629]), (125, 3, 14, 145, 1, 0, []), (128, 1, 0, 2, 0, 0, []), (129, 2, 1, 7, 0, 0, []), (131, 2, 1, 9, 0, 0, []), (133, 3, 6, 17, 3, 0, [86, 0, 4, 622, 349, 56, 347, 348]), (136, 2, 1, 4, 0, 0, []), (138, 2, 1, 9, 0, 0, []), (140, 3, 45, 0, 0, 0, [81, 0, 0, 647, 403, 64, 404]), (143, 2, 10, 4, 0, 0, []), (145, 3, 15, 5, 0, 1, []), (148, 3, 5, 16, 0, 0, []), (151, 2, 1, 4, 0, 0, []), (153, 1, 9, 0, 0, 0, [])]
def K_133 : pC := [(16, [true, true, true, true, true, true]), (110, [true, true, true, true, true, true, false, true, true, true])]
/-- yX6_settleCosts -/
def T_134 : List pE := [(0, 1, 0, 1, 0, 0, []), (1, 3, 6, 132, 1, 0, [155, 1, 6, 637, 640, 55, 638, 639]), (4, 1, 10, 2, 0, 0, []), (5, 1, 1, 2, 0, 0, []), (6, 1, 0, 0, 0, 0, []), (7, 3, 2, 5, 5, 0, [34, 0, 0, 222]), (10, 3, 13, 14, 1, 0, []), (13, 1, 19, 0, 0, 0, []), (14, 1, 0, 0, 0, 0, []), (15, 1, 1, 2, 0, 0, []), (16, 3, 16, 5, 5, 0, [34, 0, 0, 222]), (19, 1, 0, 1, 0, 0, []), (20, 3, 2, 6, 1, 0, [50, 1, 0, 95]), (23, 3, 7, 121, 1, 0, [55, 1, 0, 614, 578, 59, 577]), (26, 1, 10, 3, 0, 0, []), (27, 1, 1, 3, 0, 0, []), (28, 1, 0, 1, 0, 0, []), (29, 3, 2, 6, 1, 0, [50, 1, 0, 95]), (32, 3, 7, 98, 1, 0, [76, 1, 0, 615, 526, 65, 525]), (35, 1, 11, 0, 0, 0, []), (36, 2, 10, 4, 0, 0, []), (38, 1, 0, 0, 0, 0, []), (39, 1, 0, 1, 0, 0, []), (40, 1, 0, 0, 0, 0, []), (41, 3, 3, 5, 2, 0, [24, 0, 0, 219]), (44, 1, 1, 3, 0, 0, []), (45, 2, 1, 4, 0, 0, []), (47, 3, 6, 128, 5, 0, [139, 0, 5, 616, 619, 60, 618, 9]), (50, 1, 4, 0, 0, 0, []), (51, 2, 10, 5, 0, 0, []), (53, 1, 4, 0, 0, 0, []), (54, 2, 10, 6, 0, 0, []), (56, 2, 1, 6, 0, 0, []), (58, 2, 1, 5, 0, 0, []), (60, 3, 13, 125, 4, 0, []), (63, 2, 1, 6, 0, 0, []), (65, 3, 4, 0, 2, 22680, []), (68, 3, 13, 125, 4, 0, []), (71, 1, 1, 3, 0, 0, []), (72, 2, 10, 7, 0, 0, []), (74, 2, 1, 7, 0, 0, []), (76, 2, 1, 4, 0, 0, []), (78, 3, 13, 119, 3, 0, []), (81, 1, 0, 0, 0, 0, []), (82, 3, 3, 5, 2, 0, [24, 0, 0, 219]), (85, 2, 1, 7, 0, 0, []), (87, 3, 6, 10, 2, 0, [61, 1, 4, 620, 321, 56, 319, 320]), (90, 2, 1, 6, 0, 0, []), (92, 3, 13, 113, 1, 0, []), (95, 2, 1, 5, 0, 0, []), (97, 1, 0, 0, 0, 0, []), (98, 1, 0, 1, 0, 0, []), (99, 1, 0, 0, 0, 0, []), (100, 3, 3, 5, 2, 0, [24, 0, 0, 219]), (103, 2, 1, 7, 0, 0, []), (105, 3, 6, 133, 4, 0, [158, 1, 5, 642, 645, 60, 644, 12]), (108, 3, 45, 0, 0, 0, [81, 0, 0, 647, 403, 64, 404]), (111, 2, 10, 5, 0, 0, []), (113, 3, 15, 7, 0, 1, []), (116, 3, 5, 74, 0, 0, []), (119, 3, 15, 6, 0, 1, []), (122, 3, 5, 56, 0, 0, []), (125, 1, 19, 0, 0, 0, [])]
def K_134 : pC := [(56, [true, true, false, true, true, true, true]), (74, [true, true, false, true, true, true, true, true])]
/-- yX6_lowerCosts -/
def T_135 : List pE := [(0, 1, 0, 1, 0, 0, []), (1, 3, 6, 132, 1, 0, [155, 1, 6, 637, 640, 55, 638, 639]), (4, 1, 10, 2, 0, 0, []), (5, 1, 1, 2, 0, 0, []), (6, 1, 0, 0, 0, 0, []), (7, 3, 2, 5, 6, 0, [37, 0, 0, 223]), (10, 3, 13, 14, 1, 0, []), (13, 1, 19, 0, 0, 0, []), (14, 1, 0, 0, 0, 0, []), (15, 1, 1, 2, 0, 0, []), (16, 3, 16, 5, 6, 0, [37, 0, 0, 223]), (19, 1, 0, 1, 0, 0, []), (20, 3, 2, 6, 1, 0, [50, 1, 0, 95]), (23, 3, 7, 121, 1, 0, [55, 1, 0, 614, 578, 59, 577]), (26, 1, 10, 3, 0, 0, []), (27, 1, 1, 3, 0, 0, []), (28, 1, 0, 1, 0, 0, []), (29, 3, 2, 6, 1, 0, [50, 1, 0, 95]), (32, 3, 7, 98, 1, 0, [76, 1, 0, 615, 526, 65, 525]), (35, 1, 11, 0, 0, 0, []), (36, 2, 10, 4, 0, 0, []), (38, 1, 0, 0, 0, 0, []), (39, 1, 0, 1, 0, 0, []), (40, 1, 0, 0, 0, 0, []), (41, 3, 3, 5, 3, 0, [27, 0, 0, 220]), (44, 1, 1, 3, 0, 0, []), (45, 2, 1, 4, 0, 0, []), (47, 3, 6, 128, 5, 0, [139, 0, 5, 616, 619, 60, 618, 9]), (50, 1, 4, 0, 0, 1, []), (51, 2, 10, 5, 0, 0, []), (53, 1, 4, 0, 0, 0, []), (54, 2, 10, 6, 0, 0, []), (56, 2, 1, 5, 0, 0, []), (58, 3, 14, 125, 0, 0, []), (61, 2, 1, 6, 0, 0, []), (63, 3, 4, 0, 2, 2520, []), (66, 3, 13, 125, 4, 0, []), (69, 1, 4, 0, 0, 0, []), (70, 2, 10, 5, 0, 0, []), (72, 1, 1, 3, 0, 0, []), (73, 2, 10, 7, 0, 0, []), (75, 2, 1, 7, 0, 0, []), (77, 2, 1, 4, 0, 0, []), (79, 3, 13, 119, 3, 0, []), (82, 1, 0, 0, 0, 0, []), (83, 3, 3, 5, 3, 0, [27, 0, 0, 220]), (86, 2, 1, 7, 0, 0, []), (88, 3, 6, 10, 2, 0, [61, 1, 4, 620, 321, 56, 319, 320]), (91, 1, 4, 0, 0, (-1), []), (92, 3, 13, 113, 0, 0, []), (95, 1, 0, 0, 0, 0, []), (96, 1, 0, 1, 0, 0, []), (97, 1, 0, 0, 0, 0, []), (98, 3, 3, 5, 3, 0, [27, 0, 0, 220]), (101, 2, 1, 7, 0, 0, []), (103, 3, 6, 133, 4, 0, [158, 1, 5, 642, 645, 60, 644, 12]), (106, 1, 4, 0, 0, (-1), []), (107, 3, 13, 113, 0, 0, []), (110, 1, 4, 0, 0, 1, []), (111, 2, 10, 5, 0, 0, []), (113, 3, 15, 7, 0, 1, []), (116, 3, 5, 75, 0, 0, []), (119, 3, 15, 6, 0, 1, []), (122, 3, 5, 56, 0, 0, []), (125, 1, 19, 0, 0, 0, [])]
def K_135 : pC := [(56, [true, true, false, true, true, true, true]), (75, [true, true, false, true, true, true, true, true])]
/-- yX6_findWays -/
def T_136 : List pE := [(0, 1, 1, 2, 0, 0, []), (1, 27, 25, 0, 0, 0, [48, 28, 38]), (28, 1, 0, 0, 0, 0, []), (29, 1, 0, 1, 0, 0, []), (30, 3, 6, 131, 2, 0, [126, 0, 5, 606, 609, 60, 608, 8]), (33, 1, 0, 0, 0, 0, []), (34, 3, 3, 5, 1, 0, [20, 0, 0, 218]), (37, 1, 30, 0, 0, 0, []), (38, 1, 0, 0, 0, 0, []), (39, 1, 0, 1, 0, 0, []), (40, 3, 6, 134, 2, 0, [130, 0, 5, 633, 636, 60, 635, 11]), (43, 1, 0, 0, 0, 0, []), (44, 3, 3, 5, 2, 0, [24, 0, 0, 219]), (47, 1, 30, 0, 0, 0, []), (48, 1, 0, 0, 0, 0, []), (49, 1, 0, 1, 0, 0, []), (50, 3, 6, 135, 2, 0, [133, 0, 5, 648, 651, 60, 650, 13]), (53, 1, 0, 0, 0, 0, []), (54, 3, 3, 5, 3, 0, [27, 0, 0, 220]), (57, 1, 30, 0, 0, 0, [])]
def K_136 : pC := []
/-- yX6_wayFrom -/
def T_137 : List pE := [(0, 1, 0, 0, 0, 0, []), (1, 1, 0, 1, 0, 0, []), (2, 1, 1, 3, 0, 0, []), (3, 3, 6, 136, 3, 0, [46, 2, 5, 602, 605, 60, 604, 7]), (6, 1, 0, 1, 0, 0, []), (7, 3, 2, 6, 1, 0, [50, 1, 0, 95]), (10, 3, 7, 121, 1, 0, [55, 1, 0, 614, 578, 59, 577]), (13, 1, 1, 2, 0, 0, []), (14, 1, 11, 0, 0, 0, []), (15, 3, 6, 10, 2, 0, [61, 1, 4, 620, 321, 56, 319, 320]), (18, 1, 9, 0, 0, 0, [])]
def K_137 : pC := []
/-- yX9_least -/
def T_138 : List pE := [(0, 1, 1, 1, 0, 0, []), (1, 1, 0, 0, 0, 0, []), (2, 3, 3, 7, 0, 0, [10, 0, 0, 282]), (5, 3, 2, 6, 1, 0, [78, 1, 0, 98]), (8, 3, 7, 98, 1, 0, [171, 1, 0, 524, 526, 65, 525]), (11, 3, 7, 9, 2, 0, [60, 1, 0, 311, 313, 54, 312]), (14, 3, 14, 25, 0, 0, []), (17, 1, 1, 2, 0, 0, []), (18, 1, 4, 0, 0, 3, []), (19, 3, 7, 9, 2, 0, [60, 1, 0, 311, 313, 54, 312]), (22, 3, 14, 27, 1, 0, []), (25, 1, 4, 0, 0, (-1), []), (26, 1, 9, 0, 0, 0, []), (27, 1, 0, 0, 0, 0, []), (28, 3, 6, 126, 1, 0, [208, 2, 7, 567, 570, 54, 569, 3]), (31, 1, 0, 0, 0, 0, []), (32, 3, 3, 7, 0, 0, [10, 0, 0, 282]), (35, 1, 1, 1, 0, 0, []), (36, 1, 1, 2, 0, 0, []), (37, 3, 6, 137, 4, 0, [212, 1, 5, 598, 601, 60, 599, 600]), (40, 1, 10, 3, 0, 0, []), (41, 1, 1, 3, 0, 0, []), (42, 1, 4, 0, 0, (-1), []), (43, 3, 13, 51, 1, 0, []), (46, 2, 4, 0, 1, (-4), []), (48, 3, 5, 52, 0, 0, []), (51, 1, 1, 3, 0, 0, []), (52, 1, 9, 0, 0, 0, [])]
def K_138 : pC := []
/-- yX10_findsMoves -/
def T_139 : List pE := [(0, 1, 4, 0, 0, 0, []), (1, 1, 10, 1, 0, 0, []), (2, 1, 1, 1, 0, 0, []), (3, 1, 0, 0, 0, 0, []), (4, 3, 6, 102, 1, 0, [102, 1, 8, 970, 973, 62, 972, 36]), (7, 3, 13, 131, 3, 0, []), (10, 1, 0, 0, 0, 0, []), (11, 1, 1, 1, 0, 0, []), (12, 3, 6, 105, 2, 0, [105, 0, 8, 974, 977, 62, 976, 37]), (15, 1, 0, 0, 0, 0, []), (16, 3, 3, 8, 16, 0, [44, 0, 0, 779]), (19, 1, 1, 1, 0, 0, []), (20, 1, 0, 0, 0, 0, []), (21, 3, 6, 116, 1, 0, [109, 1, 8, 994, 997, 62, 996, 41]), (24, 3, 14, 31, 0, 0, []), (27, 1, 4, 0, 0, 0, []), (28, 3, 5, 33, 0, 0, []), (31, 2, 4, 113, 3, 1000000, [0, 0, 0, 1026]), (33, 1, 18, 0, 0, 0, []), (34, 1, 0, 0, 0, 0, []), (35, 3, 3, 8, 17, 0, [47, 0, 0, 780]), (38, 1, 1, 1, 0, 0, []), (39, 1, 0, 0, 0, 0, []), (40, 3, 3, 8, 16, 0, [44, 0, 0, 779]), (43, 1, 1, 1, 0, 0, []), (44, 1, 12, 0, 0, 0, []), (45, 1, 18, 0, 0, 0, []), (46, 1, 4, 0, 0, 0, []), (47, 1, 10, 2, 0, 0, []), (48, 1, 1, 2, 0, 0, []), (49, 2, 4, 0, 1, 19, []), (51, 3, 13, 125, 3, 0, []), (54, 1, 0, 0, 0, 0, []), (55, 1, 1, 2, 0, 0, []), (56, 3, 6, 45, 2, 0, [114, 1, 8, 867, 870, 62, 869, 24]), (59, 3, 14, 66, 1, 0, []), (62, 1, 4, 0, 0, 1, []), (63, 3, 5, 67, 0, 0, []), (66, 1, 4, 0, 0, 0, []), (67, 1, 10, 3, 0, 0, []), (68, 1, 0, 0, 0, 0, []), (69, 3, 3, 8, 14, 0, [38, 0, 0, 777]), (72, 2, 4, 0, 1, 19, []), (74, 1, 1, 1, 0, 0, []), (75, 1, 11, 0, 2, 0, []), (76, 1, 1, 2, 0, 0, []), (77, 1, 11, 0, 0, 0, []), (78, 1, 4, 0, 0, (-1), []), (79, 1, 18, 0, 0, 0, []), (80, 1, 1, 3, 0, 0, []), (81, 3, 14, 119, 0, 0, []), (84, 1, 0, 0, 0, 0, []), (85, 1, 1, 2, 0, 0, []), (86, 3, 6, 46, 2, 0, [117, 0, 8, 871, 874, 62, 873, 25]), (89, 1, 0, 0, 0, 0, []), (90, 3, 3, 8, 14, 0, [38, 0, 0, 777]), (93, 2, 4, 0, 1, 19, []), (95, 1, 1, 1, 0, 0, []), (96, 1, 11, 0, 2, 0, []), (97, 1, 1, 2, 0, 0, []), (98, 1, 11, 0, 0, 0, []), (99, 1, 0, 0, 0, 0, []), (100, 3, 6, 79, 1, 0, [75, 1, 8, 922, 925, 62, 924, 31]), (103, 1, 18, 0, 0, 0, []), (104, 1, 0, 0, 0, 0, []), (105, 3, 3, 8, 15, 0, [41, 0, 0, 778]), (108, 2, 4, 0, 1, 19, []), (110, 1, 1, 1, 0, 0, []), (111, 1, 11, 0, 2, 0, []), (112, 1, 1, 2, 0, 0, []), (113, 1, 11, 0, 0, 0, []), (114, 1, 0, 0, 0, 0, []), (115, 3, 2, 8, 13, 0, [96, 0, 0, 776]), (118, 1, 18, 0, 0, 0, []), (119, 3, 15, 2, 0, 1, []), (122, 3, 5, 48, 0, 0, []), (125, 3, 15, 1, 0, 1, []), (128, 3, 5, 2, 0, 0, []), (131, 1, 19, 0, 0, 0, [])]
def K_139 : pC := [(2, [true, true]), (33, [true, true]), (48, [true, true, true]), (67, [true, true, true])]
/-- yX10_lessens -/
def T_140 : List pE := [(0, 1, 0, 0, 0, 0, []), (1, 3, 3, 8, 14, 0, [38, 0, 0, 777]), (4, 2, 4, 0, 1, 19, []), (6, 1, 1, 1, 0, 0, []), (7, 1, 11, 0, 2, 0, []), (8, 1, 1, 2, 0, 0, []), (9, 1, 11, 0, 0, 0, []), (10, 1, 12, 0, 0, 0, []), (11, 1, 10, 3, 0, 0, []), (12, 1, 1, 3, 0, 0, []), (13, 3, 14, 18, 3, 0, []), (16, 1, 4, 0, 0, 0, []), (17, 1, 9, 0, 1, 0, []), (18, 1, 0, 0, 0, 0, []), (19, 3, 3, 8, 16, 0, [44, 0, 0, 779]), (22, 1, 1, 3, 0, 0, []), (23, 1, 12, 0, 0, 0, []), (24, 1, 4, 0, 0, 1, []), (25, 1, 11, 0, 0, 0, []), (26, 1, 0, 0, 0, 0, []), (27, 3, 3, 8, 16, 0, [44, 0, 0, 779]), (30, 1, 1, 1, 0, 0, []), (31, 1, 12, 0, 0, 0, []), (32, 3, 13, 62, 2, 0, []), (35, 1, 0, 0, 0, 0, []), (36, 3, 3, 8, 17, 0, [47, 0, 0, 780]), (39, 1, 1, 3, 0, 0, []), (40, 1, 12, 0, 0, 0, []), (41, 1, 0, 0, 0, 0, []), (42, 3, 3, 8, 15, 0, [41, 0, 0, 778]), (45, 2, 4, 0, 1, 19, []), (47, 1, 1, 1, 0, 0, []), (48, 1, 11, 0, 2, 0, []), (49, 1, 1, 2, 0, 0, []), (50, 1, 11, 0, 0, 0, []), (51, 1, 12, 0, 0, 0, []), (52, 1, 11, 0, 0, 0, []), (53, 1, 0, 0, 0, 0, []), (54, 3, 3, 8, 17, 0, [47, 0, 0, 780]), (57, 1, 1, 1, 0, 0, []), (58, 1, 12, 0, 0, 0, []), (59, 3, 13, 66, 3, 0, []), (62, 1, 4, 0, 0, 1, []), (63, 3, 5, 67, 0, 0, []), (66, 1, 4, 0, 0, 0, []), (67, 2, 10, 4, 0, 0, []), (69, 1, 0, 0, 0, 0, []), (70, 3, 3, 8, 16, 0, [44, 0, 0, 779]), (73, 1, 1, 1, 0, 0, []), (74, 1, 0, 0, 0, 0, []), (75, 3, 3, 8, 16, 0, [44, 0, 0, 779]), (78, 1, 1, 3, 0, 0, []), (79, 1, 12, 0, 0, 0, []), (80, 1, 4, 0, 0, 1, []), (81, 1, 11, 0, 0, 0, []), (82, 1, 0, 0, 0, 0, []), (83, 3, 3, 8, 16, 0, [44, 0, 0, 779]), (86, 1, 1, 1, 0, 0, []), (87, 1, 12, 0, 0, 0, []), (88, 3, 13, 102, 3, 0, []), (91, 1, 0, 0, 0, 0, []), (92, 3, 3, 8, 16, 0, [44, 0, 0, 779]), (95, 1, 1, 3, 0, 0, []), (96, 1, 12, 0, 0, 0, []), (97, 1, 4, 0, 0, 1, []), (98, 1, 11, 0, 0, 0, []), (99, 3, 5, 108, 0, 0, []), (102, 1, 0, 0, 0, 0, []), (103, 3, 3, 8, 16, 0, [44, 0, 0, 779]), (106, 1, 1, 1, 0, 0, []), (107, 1, 12, 0, 0, 0, []), (108, 1, 18, 0, 0, 0, []), (109, 1, 0, 0, 0, 0, []), (110, 3, 3, 8, 17, 0, [47, 0, 0, 780]), (113, 1, 1, 3, 0, 0, []), (114, 1, 12, 0, 0, 0, []), (115, 1, 0, 0, 0, 0, []), (116, 3, 3, 8, 15, 0, [41, 0, 0, 778]), (119, 2, 4, 0, 1, 19, []), (121, 1, 1, 1, 0, 0, []), (122, 1, 11, 0, 2, 0, []), (123, 1, 1, 2, 0, 0, []), (124, 1, 11, 0, 0, 0, []), (125, 1, 12, 0, 0, 0, []), (126, 1, 11, 0, 0, 0, []), (127, 2, 10, 5, 0, 0, []), (129, 1, 0, 0, 0, 0, []), (130, 3, 3, 8, 17, 0, [47, 0, 0, 780]), (133, 1, 1, 1, 0, 0, []), (134, 2, 1, 5, 0, 0, []), (136, 1, 0, 0, 0, 0, []), (137, 3, 3, 8, 17, 0, [47, 0, 0, 780]), (140, 1, 1, 1, 0, 0, []), (141, 1, 12, 0, 0, 0, []), (142, 3, 13, 150, 3, 0, []), (145, 2, 1, 5, 0, 0, []), (147, 3, 5, 156, 0, 0, []), (150, 1, 0, 0, 0, 0, []), (151, 3, 3, 8, 17, 0, [47, 0, 0, 780]), (154, 1, 1, 1, 0, 0, []), (155, 1, 12, 0, 0, 0, []), (156, 1, 18, 0, 0, 0, []), (157, 2, 1, 4, 0, 0, []), (159, 1, 9, 0, 1, 0, [])]
def K_140 : pC := [(67, [true, true, true, true]), (108, [true, true, true, true, true])]
/-- yX10_solves -/
def T_141 : List pE := [(0, 1, 0, 0, 0, 0, []), (1, 3, 6, 139, 1, 0, [120, 0, 8, 1022, 1025, 62, 1024, 47]), (4, 1, 4, 0, 0, 1, []), (5, 1, 10, 1, 0, 0, []), (6, 1, 1, 1, 0, 0, []), (7, 3, 14, 59, 0, 0, []), (10, 1, 4, 0, 0, 0, []), (11, 1, 10, 1, 0, 0, []), (12, 1, 4, 0, 0, 0, []), (13, 1, 10, 2, 0, 0, []), (14, 1, 1, 2, 0, 0, []), (15, 2, 4, 0, 1, 19, []), (17, 1, 0, 0, 0, 0, []), (18, 3, 6, 102, 1, 0, [102, 1, 8, 970, 973, 62, 972, 36]), (21, 1, 11, 0, 2, 0, []), (22, 3, 13, 56, 3, 0, []), (25, 1, 0, 0, 0, 0, []), (26, 1, 1, 2, 0, 0, []), (27, 2, 4, 0, 1, 19, []), (29, 1, 43, 0, 0, 0, []), (30, 1, 1, 2, 0, 0, []), (31, 2, 4, 0, 1, 19, []), (33, 1, 44, 0, 0, 0, []), (34, 3, 6, 140, 3, 0, [123, 1, 8, 1027, 1030, 62, 1029, 48]), (37, 3, 14, 44, 1, 0, []), (40, 1, 1, 1, 0, 0, []), (41, 3, 14, 48, 0, 0, []), (44, 1, 4, 0, 0, 1, []), (45, 3, 5, 49, 0, 0, []), (48, 1, 4, 0, 0, 0, []), (49, 1, 10, 1, 0, 0, []), (50, 3, 15, 2, 0, 1, []), (53, 3, 5, 14, 0, 0, []), (56, 3, 5, 6, 0, 0, []), (59, 1, 19, 0, 0, 0, [])]
def K_141 : pC := [(6, [true, true]), (14, [true, true, true])]
/-- yX10_least -/
def T_142 : List pE := [(0, 1, 0, 0, 0, 0, []), (1, 3, 6, 25, 1, 0, [72, 0, 8, 839, 842, 62, 841, 20]), (4, 1, 1, 1, 0, 0, []), (5, 1, 4, 0, 0, 0, []), (6, 1, 0, 0, 0, 0, []), (7, 3, 6, 102, 1, 0, [102, 1, 8, 970, 973, 62, 972, 36]), (10, 1, 4, 0, 0, 1, []), (11, 1, 11, 0, 1, 0, []), (12, 3, 7, 22, 3, 0, [57, 1, 0, 825, 827, 62, 826]), (15, 3, 14, 27, 0, 0, []), (18, 1, 1, 2, 0, 0, []), (19, 1, 4, 0, 0, 0, []), (20, 1, 4, 0, 0, 2, []), (21, 3, 7, 22, 3, 0, [57, 1, 0, 825, 827, 62, 826]), (24, 3, 14, 29, 1, 0, []), (27, 1, 4, 0, 0, (-1), []), (28, 1, 9, 0, 0, 0, []), (29, 1, 0, 0, 0, 0, []), (30, 3, 6, 141, 1, 0, [180, 0, 8, 1018, 1021, 62, 1020, 46]), (33, 1, 1, 2, 0, 0, []), (34, 3, 14, 46, 1, 0, []), (37, 1, 0, 0, 0, 0, []), (38, 3, 3, 8, 16, 0, [44, 0, 0, 779]), (41, 1, 1, 1, 0, 0, []), (42, 1, 12, 0, 0, 0, []), (43, 3, 5, 52, 0, 0, []), (46, 1, 0, 0, 0, 0, []), (47, 3, 3, 8, 17, 0, [47, 0, 0, 780]), (50, 1, 1, 1, 0, 0, []), (51, 1, 12, 0, 0, 0, []), (52, 1, 10, 3, 0, 0, []), (53, 1, 1, 3, 0, 0, []), (54, 2, 4, 113, 3, 1000000, [0, 0, 0, 1026]), (56, 3, 13, 63, 3, 0, []), (59, 1, 1, 3, 0, 0, []), (60, 3, 5, 65, 0, 0, []), (63, 2, 4, 0, 1, (-4), []), (65, 1, 9, 0, 0, 0, [])]
def K_142 : pC := [(52, [])]
/-- yX0_behind -/
def T_143 : List pE := [(0, 1, 0, 0, 0, 0, []), (1, 3, 3, 0, 1, 0, [21, 0, 0, 188]), (4, 1, 1, 1, 0, 0, []), (5, 2, 4, 0, 1, 19, []), (7, 1, 11, 0, 2, 0, []), (8, 1, 1, 2, 0, 0, []), (9, 1, 11, 0, 0, 0, []), (10, 3, 6, 10, 2, 0, [80, 1, 4, 589, 321, 56, 319, 320]), (13, 1, 9, 0, 0, 0, [])]
def K_143 : pC := []
/-- yX6_nextMove -/
def T_144 : List pE := [(0, 1, 4, 0, 0, 0, []), (1, 2, 10, 5, 0, 0, []), (3, 2, 1, 5, 0, 0, []), (5, 2, 4, 0, 1, 19, []), (7, 3, 13, 115, 3, 0, []), (10, 1, 0, 0, 0, 0, []), (11, 3, 3, 5, 0, 0, [9, 0, 0, 217]), (14, 2, 1, 4, 0, 0, []), (16, 2, 1, 5, 0, 0, []), (18, 3, 6, 143, 3, 0, [72, 1, 0, 665, 668, 59, 666, 667]), (21, 2, 10, 6, 0, 0, []), (23, 2, 1, 6, 0, 0, []), (25, 1, 4, 0, 0, (-1), []), (26, 3, 13, 109, 0, 0, []), (29, 1, 0, 2, 0, 0, []), (30, 2, 1, 6, 0, 0, []), (32, 3, 6, 10, 2, 0, [61, 1, 4, 620, 321, 56, 319, 320]), (35, 1, 4, 0, 0, (-1), []), (36, 3, 13, 109, 0, 0, []), (39, 1, 0, 0, 0, 0, []), (40, 3, 3, 5, 0, 0, [9, 0, 0, 217]), (43, 2, 1, 4, 0, 0, []), (45, 2, 1, 5, 0, 0, []), (47, 1, 0, 1, 0, 0, []), (48, 3, 2, 6, 4, 0, [116, 1, 0, 109]), (51, 3, 6, 129, 4, 0, [94, 1, 0, 627, 630, 59, 628, 629]), (54, 3, 14, 109, 1, 0, []), (57, 1, 1, 3, 0, 0, []), (58, 3, 14, 85, 0, 0, []), (61, 1, 0, 0, 0, 0, []), (62, 3, 3, 5, 0, 0, [9, 0, 0, 217]), (65, 3, 3, 0, 0, 0, [102, 1, 0, 187]), (68, 2, 1, 4, 0, 0, []), (70, 3, 6, 10, 2, 0, [61, 1, 4, 620, 321, 56, 319, 320]), (73, 1, 0, 1, 0, 0, []), (74, 3, 3, 6, 3, 0, [119, 1, 0, 104]), (77, 2, 1, 5, 0, 0, []), (79, 3, 7, 40, 3, 0, [122, 1, 0, 646, 400, 63, 399]), (82, 3, 5, 86, 0, 0, []), (85, 1, 4, 0, 0, 1, []), (86, 2, 10, 7, 0, 0, []), (88, 2, 1, 7, 0, 0, []), (90, 1, 0, 2, 0, 0, []), (91, 2, 1, 6, 0, 0, []), (93, 3, 6, 10, 2, 0, [61, 1, 4, 620, 321, 56, 319, 320]), (96, 1, 11, 0, 0, 0, []), (97, 1, 0, 2, 0, 0, []), (98, 2, 1, 4, 0, 0, []), (100, 3, 6, 10, 2, 0, [61, 1, 4, 620, 321, 56, 319, 320]), (103, 3, 13, 109, 1, 0, []), (106, 2, 1, 5, 0, 0, []), (108, 1, 9, 0, 0, 0, []), (109, 3, 15, 5, 0, 1, []), (112, 3, 5, 3, 0, 0, []), (115, 1, 4, 0, 0, (-1), []), (116, 1, 9, 0, 0, 0, [])]
def K_144 : pC := [(3, [true, true, true, true, true, true]), (86, [true, true, true, true, true, true, true])]
/-- yX6_plannedMove -/
def T_145 : List pE := [(0, 1, 0, 0, 0, 0, []), (1, 1, 0, 1, 0, 0, []), (2, 1, 1, 2, 0, 0, []), (3, 3, 14, 10, 0, 0, []), (6, 1, 4, 0, 0, 1, []), (7, 3, 5, 11, 0, 0, []), (10, 1, 4, 0, 0, 0, []), (11, 3, 6, 136, 3, 0, [46, 2, 5, 602, 605, 60, 604, 7]), (14, 2, 23, 4, 0, 0, []), (16, 1, 0, 1, 0, 0, []), (17, 3, 2, 6, 1, 0, [50, 1, 0, 95]), (20, 3, 7, 121, 1, 0, [55, 1, 0, 614, 578, 59, 577]), (23, 1, 0, 1, 0, 0, []), (24, 3, 6, 75, 1, 0, [64, 1, 6, 660, 467, 55, 465, 466]), (27, 1, 11, 0, 0, 0, []), (28, 2, 10, 5, 0, 0, []), (30, 1, 4, 0, 0, (-1), []), (31, 2, 10, 6, 0, 0, []), (33, 1, 4, 0, 0, 0, []), (34, 2, 10, 7, 0, 0, []), (36, 2, 1, 7, 0, 0, []), (38, 1, 1, 3, 0, 0, []), (39, 3, 13, 89, 4, 0, []), (42, 2, 1, 7, 0, 0, []), (44, 3, 4, 0, 2, 2520, []), (47, 3, 13, 89, 3, 0, []), (50, 1, 0, 0, 0, 0, []), (51, 1, 0, 1, 0, 0, []), (52, 2, 0, 4, 0, 0, []), (54, 1, 1, 2, 0, 0, []), (55, 2, 1, 5, 0, 0, []), (57, 3, 6, 144, 5, 0, [68, 1, 5, 661, 664, 60, 663, 14]), (60, 2, 10, 6, 0, 0, []), (62, 2, 1, 6, 0, 0, []), (64, 1, 4, 0, 0, (-1), []), (65, 3, 13, 70, 1, 0, []), (68, 1, 4, 0, 0, (-1), []), (69, 1, 9, 0, 0, 0, []), (70, 1, 0, 0, 0, 0, []), (71, 3, 3, 5, 0, 0, [9, 0, 0, 217]), (74, 2, 1, 5, 0, 0, []), (76, 2, 1, 6, 0, 0, []), (78, 3, 6, 143, 3, 0, [72, 1, 0, 665, 668, 59, 666, 667]), (81, 2, 10, 5, 0, 0, []), (83, 3, 15, 7, 0, 1, []), (86, 3, 5, 36, 0, 0, []), (89, 1, 1, 3, 0, 0, []), (90, 3, 4, 0, 2, 2520, []), (93, 3, 13, 101, 3, 0, []), (96, 2, 1, 6, 0, 0, []), (98, 3, 5, 102, 0, 0, []), (101, 1, 4, 0, 0, (-1), []), (102, 1, 9, 0, 0, 0, [])]
def K_145 : pC := [(11, [true, true, true, true]), (36, [true, true, true, true, true, true, true, true]), (89, [false, false, false, true, false, false, true])]
/-- yX9_plan -/
def T_146 : List pE := [(0, 1, 1, 2, 0, 0, []), (1, 3, 14, 6, 3, 0, []), (4, 1, 4, 0, 0, (-1), []), (5, 1, 9, 0, 0, 0, []), (6, 1, 0, 0, 0, 0, []), (7, 3, 6, 126, 1, 0, [208, 2, 7, 567, 570, 54, 569, 3]), (10, 1, 0, 0, 0, 0, []), (11, 3, 3, 7, 0, 0, [10, 0, 0, 282]), (14, 1, 1, 1, 0, 0, []), (15, 1, 1, 2, 0, 0, []), (16, 3, 6, 145, 4, 0, [216, 1, 5, 656, 659, 60, 657, 658]), (19, 1, 10, 3, 0, 0, []), (20, 1, 1, 3, 0, 0, []), (21, 1, 4, 0, 0, (-1), []), (22, 3, 13, 30, 1, 0, []), (25, 2, 4, 0, 1, (-4), []), (27, 3, 5, 31, 0, 0, []), (30, 1, 1, 3, 0, 0, []), (31, 1, 9, 0, 0, 0, [])]
def K_146 : pC := []
/-- yX10_first -/
def T_147 : List pE := [(0, 1, 4, 0, 0, 0, []), (1, 1, 10, 3, 0, 0, []), (2, 1, 1, 3, 0, 0, []), (3, 2, 4, 0, 1, 19, []), (5, 3, 13, 124, 3, 0, []), (8, 1, 0, 0, 0, 0, []), (9, 3, 3, 8, 14, 0, [38, 0, 0, 777]), (12, 2, 4, 0, 1, 19, []), (14, 1, 1, 1, 0, 0, []), (15, 1, 11, 0, 2, 0, []), (16, 1, 1, 3, 0, 0, []), (17, 1, 11, 0, 0, 0, []), (18, 1, 12, 0, 0, 0, []), (19, 2, 10, 4, 0, 0, []), (21, 2, 1, 4, 0, 0, []), (23, 3, 14, 118, 2, 0, []), (26, 1, 0, 0, 0, 0, []), (27, 3, 3, 8, 16, 0, [44, 0, 0, 779]), (30, 1, 1, 1, 0, 0, []), (31, 1, 12, 0, 0, 0, []), (32, 2, 4, 113, 3, 1000000, [0, 0, 0, 1026]), (34, 3, 13, 118, 3, 0, []), (37, 1, 0, 0, 0, 0, []), (38, 3, 3, 8, 16, 0, [44, 0, 0, 779]), (41, 1, 1, 1, 0, 0, []), (42, 1, 12, 0, 0, 0, []), (43, 3, 14, 118, 5, 0, []), (46, 1, 1, 2, 0, 0, []), (47, 3, 14, 86, 0, 0, []), (50, 1, 0, 0, 0, 0, []), (51, 3, 3, 8, 17, 0, [47, 0, 0, 780]), (54, 2, 1, 4, 0, 0, []), (56, 1, 12, 0, 0, 0, []), (57, 1, 0, 0, 0, 0, []), (58, 3, 3, 8, 15, 0, [41, 0, 0, 778]), (61, 2, 4, 0, 1, 19, []), (63, 1, 1, 1, 0, 0, []), (64, 1, 11, 0, 2, 0, []), (65, 1, 1, 3, 0, 0, []), (66, 1, 11, 0, 0, 0, []), (67, 1, 12, 0, 0, 0, []), (68, 1, 11, 0, 0, 0, []), (69, 1, 0, 0, 0, 0, []), (70, 3, 3, 8, 17, 0, [47, 0, 0, 780]), (73, 1, 1, 1, 0, 0, []), (74, 1, 12, 0, 0, 0, []), (75, 3, 13, 82, 1, 0, []), (78, 1, 4, 0, 0, 1, []), (79, 3, 5, 109, 0, 0, []), (82, 1, 4, 0, 0, 0, []), (83, 3, 5, 109, 0, 0, []), (86, 1, 0, 0, 0, 0, []), (87, 3, 3, 8, 16, 0, [44, 0, 0, 779]), (90, 2, 1, 4, 0, 0, []), (92, 1, 12, 0, 0, 0, []), (93, 1, 4, 0, 0, 1, []), (94, 1, 11, 0, 0, 0, []), (95, 1, 0, 0, 0, 0, []), (96, 3, 3, 8, 16, 0, [44, 0, 0, 779]), (99, 1, 1, 1, 0, 0, []), (100, 1, 12, 0, 0, 0, []), (101, 3, 13, 108, 1, 0, []), (104, 1, 4, 0, 0, 1, []), (105, 3, 5, 109, 0, 0, []), (108, 1, 4, 0, 0, 0, []), (109, 2, 10, 5, 0, 0, []), (111, 2, 1, 5, 0, 0, []), (113, 3, 14, 118, 0, 0, []), (116, 1, 1, 3, 0, 0, []), (117, 1, 9, 0, 0, 0, []), (118, 3, 15, 3, 0, 1, []), (121, 3, 5, 2, 0, 0, []), (124, 2, 4, 0, 1, (-4), []), (126, 1, 9, 0, 0, 0, [])]
def K_147 : pC := [(2, [true, true, true, true])]
/-- yX10_plan -/
def T_148 : List pE := [(0, 1, 1, 2, 0, 0, []), (1, 3, 14, 6, 3, 0, []), (4, 1, 4, 0, 0, (-1), []), (5, 1, 9, 0, 0, 0, []), (6, 1, 0, 0, 0, 0, []), (7, 3, 6, 117, 1, 0, [171, 1, 8, 1002, 1005, 62, 1004, 43]), (10, 1, 10, 3, 0, 0, []), (11, 1, 0, 0, 0, 0, []), (12, 3, 6, 141, 1, 0, [180, 0, 8, 1018, 1021, 62, 1020, 46]), (15, 1, 0, 0, 0, 0, []), (16, 1, 1, 3, 0, 0, []), (17, 1, 1, 1, 0, 0, []), (18, 3, 6, 147, 3, 0, [183, 1, 8, 1035, 1038, 62, 1037, 49]), (21, 2, 10, 4, 0, 0, []), (23, 1, 4, 0, 0, 0, []), (24, 2, 10, 5, 0, 0, []), (26, 2, 1, 5, 0, 0, []), (28, 1, 1, 2, 0, 0, []), (29, 3, 13, 66, 3, 0, []), (32, 2, 1, 4, 0, 0, []), (34, 2, 4, 0, 1, (-4), []), (36, 3, 13, 66, 0, 0, []), (39, 1, 0, 0, 0, 0, []), (40, 3, 3, 8, 14, 0, [38, 0, 0, 777]), (43, 2, 4, 0, 1, 19, []), (45, 1, 1, 3, 0, 0, []), (46, 1, 11, 0, 2, 0, []), (47, 2, 1, 4, 0, 0, []), (49, 1, 11, 0, 0, 0, []), (50, 1, 12, 0, 0, 0, []), (51, 1, 10, 3, 0, 0, []), (52, 1, 0, 0, 0, 0, []), (53, 1, 1, 3, 0, 0, []), (54, 1, 1, 1, 0, 0, []), (55, 3, 6, 147, 3, 0, [183, 1, 8, 1035, 1038, 62, 1037, 49]), (58, 2, 10, 4, 0, 0, []), (60, 3, 15, 5, 0, 1, []), (63, 3, 5, 26, 0, 0, []), (66, 2, 1, 4, 0, 0, []), (68, 1, 9, 0, 0, 0, [])]
def K_148 : pC := [(26, [true, true, true, true, true, true])]
/-- yX6_savableWords -/
def T_149 : List pE := [(0, 1, 0, 0, 0, 0, []), (1, 1, 0, 1, 0, 0, []), (2, 1, 4, 0, 0, 0, []), (3, 3, 6, 136, 3, 0, [46, 2, 5, 602, 605, 60, 604, 7]), (6, 1, 23, 2, 0, 0, []), (7, 1, 0, 1, 0, 0, []), (8, 3, 2, 6, 1, 0, [50, 1, 0, 95]), (11, 3, 7, 121, 1, 0, [55, 1, 0, 614, 578, 59, 577]), (14, 1, 10, 3, 0, 0, []), (15, 1, 4, 0, 0, 0, []), (16, 2, 10, 4, 0, 0, []), (18, 1, 4, 0, 0, 0, []), (19, 2, 10, 5, 0, 0, []), (21, 2, 1, 5, 0, 0, []), (23, 1, 0, 1, 0, 0, []), (24, 3, 2, 6, 1, 0, [50, 1, 0, 95]), (27, 3, 7, 98, 1, 0, [76, 1, 0, 615, 526, 65, 525]), (30, 3, 13, 54, 3, 0, []), (33, 1, 0, 2, 0, 0, []), (34, 1, 1, 3, 0, 0, []), (35, 2, 1, 5, 0, 0, []), (37, 1, 11, 0, 0, 0, []), (38, 3, 6, 10, 2, 0, [61, 1, 4, 620, 321, 56, 319, 320]), (41, 1, 4, 0, 0, (-1), []), (42, 3, 13, 48, 0, 0, []), (45, 3, 15, 4, 0, 1, []), (48, 3, 15, 5, 0, 1, []), (51, 3, 5, 21, 0, 0, []), (54, 2, 1, 4, 0, 0, []), (56, 1, 9, 0, 0, 0, [])]
def K_149 : pC := [(21, [false, true, true, true, true, true])]
/-- yX6_greatestWay -/
def T_150 : List pE := [(0, 1, 0, 0, 0, 0, []), (1, 1, 0, 1, 0, 0, []), (2, 1, 1, 2, 0, 0, []), (3, 3, 6, 136, 3, 0, [46, 2, 5, 602, 605, 60, 604, 7]), (6, 1, 23, 3, 0, 0, []), (7, 1, 0, 1, 0, 0, []), (8, 3, 2, 6, 1, 0, [50, 1, 0, 95]), (11, 3, 7, 121, 1, 0, [55, 1, 0, 614, 578, 59, 577]), (14, 2, 10, 4, 0, 0, []), (16, 1, 4, 0, 0, 0, []), (17, 2, 10, 5, 0, 0, []), (19, 1, 4, 0, 0, 0, []), (20, 2, 10, 6, 0, 0, []), (22, 2, 1, 6, 0, 0, []), (24, 1, 0, 1, 0, 0, []), (25, 3, 2, 6, 1, 0, [50, 1, 0, 95]), (28, 3, 7, 98, 1, 0, [76, 1, 0, 615, 526, 65, 525]), (31, 3, 13, 56, 3, 0, []), (34, 2, 1, 5, 0, 0, []), (36, 1, 0, 3, 0, 0, []), (37, 2, 1, 4, 0, 0, []), (39, 2, 1, 6, 0, 0, []), (41, 1, 11, 0, 0, 0, []), (42, 3, 6, 10, 2, 0, [61, 1, 4, 620, 321, 56, 319, 320]), (45, 3, 45, 0, 0, 0, [81, 0, 0, 647, 403, 64, 404]), (48, 2, 10, 5, 0, 0, []), (50, 3, 15, 6, 0, 1, []), (53, 3, 5, 22, 0, 0, []), (56, 2, 1, 5, 0, 0, []), (58, 1, 9, 0, 0, 0, [])]
def K_150 : pC := [(22, [false, true, false, true, true, true, true])]
/-- yX6_worstRank -/
def T_151 : List pE := [(0, 1, 0, 0, 0, 0, []), (1, 1, 0, 1, 0, 0, []), (2, 1, 4, 0, 0, 0, []), (3, 3, 6, 136, 3, 0, [46, 2, 5, 602, 605, 60, 604, 7]), (6, 1, 23, 2, 0, 0, []), (7, 1, 0, 1, 0, 0, []), (8, 3, 2, 6, 1, 0, [50, 1, 0, 95]), (11, 3, 7, 121, 1, 0, [55, 1, 0, 614, 578, 59, 577]), (14, 1, 10, 3, 0, 0, []), (15, 1, 4, 0, 0, (-1), []), (16, 2, 10, 4, 0, 0, []), (18, 1, 4, 0, 0, 0, []), (19, 2, 10, 5, 0, 0, []), (21, 1, 4, 0, 0, 0, []), (22, 2, 10, 6, 0, 0, []), (24, 2, 1, 6, 0, 0, []), (26, 1, 0, 1, 0, 0, []), (27, 3, 2, 6, 1, 0, [50, 1, 0, 95]), (30, 3, 7, 98, 1, 0, [76, 1, 0, 615, 526, 65, 525]), (33, 3, 13, 69, 3, 0, []), (36, 1, 0, 2, 0, 0, []), (37, 1, 1, 3, 0, 0, []), (38, 2, 1, 6, 0, 0, []), (40, 1, 11, 0, 0, 0, []), (41, 3, 6, 10, 2, 0, [61, 1, 4, 620, 321, 56, 319, 320]), (44, 2, 1, 4, 0, 0, []), (46, 3, 13, 63, 5, 0, []), (49, 1, 0, 2, 0, 0, []), (50, 1, 1, 3, 0, 0, []), (51, 2, 1, 6, 0, 0, []), (53, 1, 11, 0, 0, 0, []), (54, 3, 6, 10, 2, 0, [61, 1, 4, 620, 321, 56, 319, 320]), (57, 2, 10, 4, 0, 0, []), (59, 2, 1, 6, 0, 0, []), (61, 2, 10, 5, 0, 0, []), (63, 3, 15, 6, 0, 1, []), (66, 3, 5, 24, 0, 0, []), (69, 2, 1, 5, 0, 0, []), (71, 1, 9, 0, 0, 0, [])]
def K_151 : pC := [(24, [false, true, true, true, true, true, true])]
/-- yX6_reachOn -/
def T_152 : List pE := [(0, 1, 1, 3, 0, 0, []), (1, 2, 10, 4, 0, 0, []), (3, 1, 4, 0, 0, 0, []), (4, 2, 10, 5, 0, 0, []), (6, 2, 1, 5, 0, 0, []), (8, 2, 4, 0, 1, 19, []), (10, 3, 13, 97, 3, 0, []), (13, 1, 0, 0, 0, 0, []), (14, 3, 3, 5, 0, 0, [9, 0, 0, 217]), (17, 1, 1, 1, 0, 0, []), (18, 2, 1, 5, 0, 0, []), (20, 3, 6, 143, 3, 0, [72, 1, 0, 665, 668, 59, 666, 667]), (23, 2, 10, 6, 0, 0, []), (25, 2, 1, 6, 0, 0, []), (27, 1, 4, 0, 0, (-1), []), (28, 3, 13, 91, 0, 0, []), (31, 1, 0, 0, 0, 0, []), (32, 3, 3, 5, 7, 0, [40, 0, 0, 224]), (35, 2, 1, 6, 0, 0, []), (37, 3, 6, 10, 2, 0, [61, 1, 4, 620, 321, 56, 319, 320]), (40, 1, 4, 0, 0, (-1), []), (41, 3, 13, 91, 1, 0, []), (44, 1, 0, 0, 0, 0, []), (45, 3, 3, 5, 0, 0, [9, 0, 0, 217]), (48, 1, 1, 1, 0, 0, []), (49, 2, 1, 5, 0, 0, []), (51, 1, 1, 2, 0, 0, []), (52, 3, 6, 129, 4, 0, [94, 1, 0, 627, 630, 59, 628, 629]), (55, 3, 14, 91, 1, 0, []), (58, 1, 0, 0, 0, 0, []), (59, 3, 3, 5, 7, 0, [40, 0, 0, 224]), (62, 2, 1, 6, 0, 0, []), (64, 1, 0, 0, 0, 0, []), (65, 3, 3, 5, 7, 0, [40, 0, 0, 224]), (68, 1, 1, 1, 0, 0, []), (69, 3, 6, 10, 2, 0, [61, 1, 4, 620, 321, 56, 319, 320]), (72, 1, 4, 0, 0, 1, []), (73, 1, 11, 0, 0, 0, []), (74, 3, 6, 17, 3, 0, [86, 0, 4, 622, 349, 56, 347, 348]), (77, 1, 0, 0, 0, 0, []), (78, 3, 3, 5, 8, 0, [43, 0, 0, 225]), (81, 2, 1, 4, 0, 0, []), (83, 2, 1, 6, 0, 0, []), (85, 3, 6, 17, 3, 0, [86, 0, 4, 622, 349, 56, 347, 348]), (88, 3, 15, 4, 0, 1, []), (91, 3, 15, 5, 0, 1, []), (94, 3, 5, 6, 0, 0, []), (97, 2, 1, 4, 0, 0, []), (99, 1, 9, 0, 0, 0, [])]
def K_152 : pC := [(6, [true, true, true, false, true, true])]
/-- yX6_reach -/
def T_153 : List pE := [(0, 1, 0, 1, 0, 0, []), (1, 3, 2, 6, 1, 0, [50, 1, 0, 95]), (4, 3, 7, 121, 1, 0, [55, 1, 0, 614, 578, 59, 577]), (7, 1, 10, 3, 0, 0, []), (8, 1, 4, 0, 0, 0, []), (9, 2, 10, 4, 0, 0, []), (11, 2, 1, 4, 0, 0, []), (13, 1, 0, 1, 0, 0, []), (14, 3, 2, 6, 1, 0, [50, 1, 0, 95]), (17, 3, 7, 98, 1, 0, [76, 1, 0, 615, 526, 65, 525]), (20, 3, 13, 41, 3, 0, []), (23, 1, 0, 0, 0, 0, []), (24, 3, 3, 5, 7, 0, [40, 0, 0, 224]), (27, 1, 1, 3, 0, 0, []), (28, 2, 1, 4, 0, 0, []), (30, 1, 11, 0, 0, 0, []), (31, 1, 4, 0, 0, (-1), []), (32, 3, 6, 17, 3, 0, [86, 0, 4, 622, 349, 56, 347, 348]), (35, 3, 15, 4, 0, 1, []), (38, 3, 5, 11, 0, 0, []), (41, 1, 1, 3, 0, 0, []), (42, 1, 0, 1, 0, 0, []), (43, 3, 6, 75, 1, 0, [64, 1, 6, 660, 467, 55, 465, 466]), (46, 1, 11, 0, 0, 0, []), (47, 2, 10, 4, 0, 0, []), (49, 1, 0, 0, 0, 0, []), (50, 3, 3, 5, 7, 0, [40, 0, 0, 224]), (53, 2, 1, 4, 0, 0, []), (55, 1, 4, 0, 0, 0, []), (56, 3, 6, 17, 3, 0, [86, 0, 4, 622, 349, 56, 347, 348]), (59, 1, 0, 0, 0, 0, []), (60, 3, 3, 5, 8, 0, [43, 0, 0, 225]), (63, 1, 4, 0, 0, 0, []), (64, 2, 1, 4, 0, 0, []), (66, 3, 6, 17, 3, 0, [86, 0, 4, 622, 349, 56, 347, 348]), (69, 1, 4, 0, 0, 1, []), (70, 2, 10, 5, 0, 0, []), (72, 1, 4, 0, 0, 0, []), (73, 2, 10, 6, 0, 0, []), (75, 2, 1, 6, 0, 0, []), (77, 2, 1, 5, 0, 0, []), (79, 3, 13, 114, 3, 0, []), (82, 2, 1, 6, 0, 0, []), (84, 3, 4, 0, 2, 2520, []), (87, 3, 13, 114, 3, 0, []), (90, 1, 0, 0, 0, 0, []), (91, 1, 0, 0, 0, 0, []), (92, 3, 3, 5, 8, 0, [43, 0, 0, 225]), (95, 2, 1, 6, 0, 0, []), (97, 3, 6, 10, 2, 0, [61, 1, 4, 620, 321, 56, 319, 320]), (100, 1, 1, 2, 0, 0, []), (101, 2, 1, 5, 0, 0, []), (103, 3, 6, 152, 4, 0, [90, 1, 5, 689, 692, 60, 691, 15]), (106, 2, 10, 5, 0, 0, []), (108, 3, 15, 6, 0, 1, []), (111, 3, 5, 75, 0, 0, []), (114, 2, 1, 5, 0, 0, []), (116, 1, 9, 0, 0, 0, [])]
def K_153 : pC := [(11, [true, true, true, true, true]), (75, [true, false, true, false, false, true, true])]
/-- yX9_all -/
def T_154 : List pE := [(0, 1, 1, 1, 0, 0, []), (1, 35, 24, 0, 0, 0, [105, 36, 48, 61, 74, 86]), (36, 1, 0, 0, 0, 0, []), (37, 3, 6, 126, 1, 0, [208, 2, 7, 567, 570, 54, 569, 3]), (40, 1, 0, 0, 0, 0, []), (41, 3, 3, 7, 0, 0, [10, 0, 0, 282]), (44, 3, 6, 149, 2, 0, [220, 1, 5, 673, 676, 60, 674, 675]), (47, 1, 9, 0, 0, 0, []), (48, 1, 0, 0, 0, 0, []), (49, 3, 6, 126, 1, 0, [208, 2, 7, 567, 570, 54, 569, 3]), (52, 1, 0, 0, 0, 0, []), (53, 3, 3, 7, 0, 0, [10, 0, 0, 282]), (56, 1, 4, 0, 0, 0, []), (57, 3, 6, 150, 3, 0, [223, 1, 5, 677, 680, 60, 678, 679]), (60, 1, 9, 0, 0, 0, []), (61, 1, 0, 0, 0, 0, []), (62, 3, 6, 126, 1, 0, [208, 2, 7, 567, 570, 54, 569, 3]), (65, 1, 0, 0, 0, 0, []), (66, 3, 3, 7, 0, 0, [10, 0, 0, 282]), (69, 1, 4, 0, 0, 1, []), (70, 3, 6, 150, 3, 0, [223, 1, 5, 677, 680, 60, 678, 679]), (73, 1, 9, 0, 0, 0, []), (74, 1, 0, 0, 0, 0, []), (75, 3, 6, 126, 1, 0, [208, 2, 7, 567, 570, 54, 569, 3]), (78, 1, 0, 0, 0, 0, []), (79, 3, 3, 7, 0, 0, [10, 0, 0, 282]), (82, 3, 6, 151, 2, 0, [227, 1, 5, 681, 684, 60, 682, 683]), (85, 1, 9, 0, 0, 0, []), (86, 1, 0, 0, 0, 0, []), (87, 3, 6, 126, 1, 0, [208, 2, 7, 567, 570, 54, 569, 3]), (90, 1, 0, 0, 0, 0, []), (91, 3, 3, 7, 0, 0, [10, 0, 0, 282]), (94, 1, 0, 0, 0, 0, []), (95, 3, 3, 7, 0, 0, [10, 0, 0, 282]), (98, 3, 2, 6, 4, 0, [92, 1, 0, 108]), (101, 3, 6, 153, 3, 0, [230, 1, 5, 685, 688, 60, 686, 687]), (104, 1, 9, 0, 0, 0, []), (105, 1, 4, 0, 0, (-1), []), (106, 1, 9, 0, 0, 0, [])]
def K_154 : pC := []
/-- yX10_reached -/
def T_155 : List pE := [(0, 1, 4, 0, 0, 0, []), (1, 1, 10, 2, 0, 0, []), (2, 1, 1, 2, 0, 0, []), (3, 1, 0, 0, 0, 0, []), (4, 3, 6, 102, 1, 0, [102, 1, 8, 970, 973, 62, 972, 36]), (7, 3, 13, 32, 3, 0, []), (10, 1, 0, 0, 0, 0, []), (11, 3, 3, 8, 18, 0, [50, 0, 0, 781]), (14, 1, 1, 2, 0, 0, []), (15, 1, 1, 2, 0, 0, []), (16, 1, 1, 1, 0, 0, []), (17, 3, 13, 24, 1, 0, []), (20, 1, 4, 0, 0, 1, []), (21, 3, 5, 25, 0, 0, []), (24, 1, 4, 0, 0, 0, []), (25, 1, 18, 0, 0, 0, []), (26, 3, 15, 2, 0, 1, []), (29, 3, 5, 2, 0, 0, []), (32, 1, 4, 0, 0, 1, []), (33, 1, 10, 2, 0, 0, []), (34, 1, 4, 0, 0, 1, []), (35, 1, 10, 3, 0, 0, []), (36, 1, 1, 3, 0, 0, []), (37, 3, 14, 123, 0, 0, []), (40, 1, 4, 0, 0, 0, []), (41, 1, 10, 3, 0, 0, []), (42, 1, 4, 0, 0, 0, []), (43, 2, 10, 4, 0, 0, []), (45, 2, 1, 4, 0, 0, []), (47, 2, 4, 0, 1, 19, []), (49, 1, 0, 0, 0, 0, []), (50, 3, 6, 102, 1, 0, [102, 1, 8, 970, 973, 62, 972, 36]), (53, 1, 11, 0, 2, 0, []), (54, 3, 13, 120, 3, 0, []), (57, 1, 0, 0, 0, 0, []), (58, 3, 3, 8, 18, 0, [50, 0, 0, 781]), (61, 2, 1, 4, 0, 0, []), (63, 2, 4, 0, 1, 19, []), (65, 1, 43, 0, 0, 0, []), (66, 1, 12, 0, 0, 0, []), (67, 1, 4, 0, 0, 1, []), (68, 3, 13, 114, 1, 0, []), (71, 1, 0, 0, 0, 0, []), (72, 3, 3, 8, 14, 0, [38, 0, 0, 777]), (75, 2, 1, 4, 0, 0, []), (77, 1, 12, 0, 0, 0, []), (78, 3, 14, 114, 2, 0, []), (81, 1, 0, 0, 0, 0, []), (82, 3, 3, 8, 18, 0, [50, 0, 0, 781]), (85, 1, 0, 0, 0, 0, []), (86, 3, 3, 8, 14, 0, [38, 0, 0, 777]), (89, 2, 1, 4, 0, 0, []), (91, 1, 12, 0, 0, 0, []), (92, 1, 12, 0, 0, 0, []), (93, 3, 14, 114, 1, 0, []), (96, 1, 0, 0, 0, 0, []), (97, 3, 3, 8, 18, 0, [50, 0, 0, 781]), (100, 1, 0, 0, 0, 0, []), (101, 3, 3, 8, 14, 0, [38, 0, 0, 777]), (104, 2, 1, 4, 0, 0, []), (106, 1, 12, 0, 0, 0, []), (107, 1, 4, 0, 0, 1, []), (108, 1, 18, 0, 0, 0, []), (109, 1, 4, 0, 0, 1, []), (110, 1, 10, 3, 0, 0, []), (111, 3, 15, 2, 0, 1, []), (114, 3, 15, 4, 0, 1, []), (117, 3, 5, 45, 0, 0, []), (120, 3, 5, 36, 0, 0, []), (123, 1, 1, 2, 0, 0, []), (124, 1, 9, 0, 0, 0, [])]
def K_155 : pC := [(2, [true, true, true]), (36, [true, false, true, true]), (45, [true, false, true, true, true])]
/-- yX10_all -/
def T_156 : List pE := [(0, 1, 1, 1, 0, 0, []), (1, 1, 4, 0, 0, 0, []), (2, 1, 4, 0, 0, 4, []), (3, 3, 7, 22, 3, 0, [57, 1, 0, 825, 827, 62, 826]), (6, 3, 14, 11, 1, 0, []), (9, 1, 4, 0, 0, (-1), []), (10, 1, 9, 0, 0, 0, []), (11, 1, 0, 0, 0, 0, []), (12, 3, 6, 117, 1, 0, [171, 1, 8, 1002, 1005, 62, 1004, 43]), (15, 1, 10, 2, 0, 0, []), (16, 1, 0, 0, 0, 0, []), (17, 3, 6, 141, 1, 0, [180, 0, 8, 1018, 1021, 62, 1020, 46]), (20, 1, 1, 1, 0, 0, []), (21, 1, 4, 0, 0, 4, []), (22, 3, 13, 31, 1, 0, []), (25, 1, 0, 0, 0, 0, []), (26, 1, 1, 2, 0, 0, []), (27, 3, 6, 155, 2, 0, [187, 1, 8, 1043, 1046, 62, 1045, 50]), (30, 1, 9, 0, 0, 0, []), (31, 1, 4, 0, 0, 0, []), (32, 1, 10, 3, 0, 0, []), (33, 1, 4, 0, 0, (-1), []), (34, 2, 10, 4, 0, 0, []), (36, 1, 4, 0, 0, 0, []), (37, 2, 10, 5, 0, 0, []), (39, 1, 4, 0, 0, 0, []), (40, 2, 10, 6, 0, 0, []), (42, 1, 4, 0, 0, 0, []), (43, 2, 10, 7, 0, 0, []), (45, 2, 1, 7, 0, 0, []), (47, 1, 0, 0, 0, 0, []), (48, 3, 6, 102, 1, 0, [102, 1, 8, 970, 973, 62, 972, 36]), (51, 3, 13, 180, 3, 0, []), (54, 1, 0, 0, 0, 0, []), (55, 3, 3, 8, 16, 0, [44, 0, 0, 779]), (58, 2, 1, 7, 0, 0, []), (60, 1, 12, 0, 0, 0, []), (61, 2, 4, 113, 3, 1000000, [0, 0, 0, 1026]), (63, 3, 13, 70, 3, 0, []), (66, 1, 4, 0, 0, 1, []), (67, 3, 5, 71, 0, 0, []), (70, 1, 4, 0, 0, 0, []), (71, 2, 10, 8, 0, 0, []), (73, 1, 1, 3, 0, 0, []), (74, 2, 1, 8, 0, 0, []), (76, 3, 14, 83, 0, 0, []), (79, 1, 4, 0, 0, 1, []), (80, 3, 5, 84, 0, 0, []), (83, 1, 4, 0, 0, 0, []), (84, 1, 11, 0, 0, 0, []), (85, 1, 10, 3, 0, 0, []), (86, 2, 1, 8, 0, 0, []), (88, 3, 14, 108, 0, 0, []), (91, 1, 0, 0, 0, 0, []), (92, 3, 3, 8, 16, 0, [44, 0, 0, 779]), (95, 2, 1, 7, 0, 0, []), (97, 1, 12, 0, 0, 0, []), (98, 2, 1, 4, 0, 0, []), (100, 3, 13, 108, 5, 0, []), (103, 2, 1, 7, 0, 0, []), (105, 3, 5, 110, 0, 0, []), (108, 2, 1, 6, 0, 0, []), (110, 2, 10, 6, 0, 0, []), (112, 2, 1, 8, 0, 0, []), (114, 3, 14, 139, 0, 0, []), (117, 1, 0, 0, 0, 0, []), (118, 3, 3, 8, 16, 0, [44, 0, 0, 779]), (121, 2, 1, 7, 0, 0, []), (123, 1, 12, 0, 0, 0, []), (124, 2, 1, 4, 0, 0, []), (126, 3, 13, 139, 5, 0, []), (129, 1, 0, 0, 0, 0, []), (130, 3, 3, 8, 16, 0, [44, 0, 0, 779]), (133, 2, 1, 7, 0, 0, []), (135, 1, 12, 0, 0, 0, []), (136, 3, 5, 141, 0, 0, []), (139, 2, 1, 4, 0, 0, []), (141, 2, 10, 4, 0, 0, []), (143, 2, 1, 8, 0, 0, []), (145, 3, 14, 170, 0, 0, []), (148, 1, 0, 0, 0, 0, []), (149, 3, 3, 8, 17, 0, [47, 0, 0, 780]), (152, 2, 1, 7, 0, 0, []), (154, 1, 12, 0, 0, 0, []), (155, 2, 1, 5, 0, 0, []), (157, 3, 13, 170, 5, 0, []), (160, 1, 0, 0, 0, 0, []), (161, 3, 3, 8, 17, 0, [47, 0, 0, 780]), (164, 2, 1, 7, 0, 0, []), (166, 1, 12, 0, 0, 0, []), (167, 3, 5, 172, 0, 0, []), (170, 2, 1, 5, 0, 0, []), (172, 2, 10, 5, 0, 0, []), (174, 3, 15, 7, 0, 1, []), (177, 3, 5, 45, 0, 0, []), (180, 1, 1, 1, 0, 0, []), (181, 3, 14, 188, 1, 0, []), (184, 1, 1, 3, 0, 0, []), (185, 3, 5, 210, 0, 0, []), (188, 1, 1, 1, 0, 0, []), (189, 1, 4, 0, 0, 1, []), (190, 3, 13, 198, 1, 0, []), (193, 2, 1, 4, 0, 0, []), (195, 3, 5, 210, 0, 0, []), (198, 1, 1, 1, 0, 0, []), (199, 1, 4, 0, 0, 2, []), (200, 3, 13, 208, 1, 0, []), (203, 2, 1, 5, 0, 0, []), (205, 3, 5, 210, 0, 0, []), (208, 2, 1, 6, 0, 0, []), (210, 1, 9, 0, 0, 0, [])]
def K_156 : pC := [(45, [true, true, false, true, true, true, true, true]), (84, [true, true, false, false, true, true, true, true, true]), (110, [true, true, false, true, true, true, false, true, true]), (141, [true, true, false, true, false, true, true, true, true])]
/-- yX6_sumOfWays -/
def T_157 : List pE := [(0, 1, 0, 0, 0, 0, []), (1, 1, 0, 1, 0, 0, []), (2, 1, 4, 0, 0, 0, []), (3, 3, 6, 136, 3, 0, [46, 2, 5, 602, 605, 60, 604, 7]), (6, 1, 23, 2, 0, 0, []), (7, 1, 0, 1, 0, 0, []), (8, 3, 2, 6, 1, 0, [50, 1, 0, 95]), (11, 3, 7, 121, 1, 0, [55, 1, 0, 614, 578, 59, 577]), (14, 1, 10, 3, 0, 0, []), (15, 1, 4, 0, 0, 0, []), (16, 2, 10, 4, 0, 0, []), (18, 1, 4, 0, 0, 0, []), (19, 2, 10, 5, 0, 0, []), (21, 2, 1, 5, 0, 0, []), (23, 1, 0, 1, 0, 0, []), (24, 3, 2, 6, 1, 0, [50, 1, 0, 95]), (27, 3, 7, 98, 1, 0, [76, 1, 0, 615, 526, 65, 525]), (30, 3, 13, 56, 3, 0, []), (33, 2, 1, 4, 0, 0, []), (35, 1, 0, 2, 0, 0, []), (36, 1, 1, 3, 0, 0, []), (37, 2, 1, 5, 0, 0, []), (39, 1, 11, 0, 0, 0, []), (40, 3, 6, 10, 2, 0, [61, 1, 4, 620, 321, 56, 319, 320]), (43, 1, 4, 0, 0, 0, []), (44, 3, 45, 0, 0, 0, [81, 0, 0, 647, 403, 64, 404]), (47, 1, 11, 0, 0, 0, []), (48, 2, 10, 4, 0, 0, []), (50, 3, 15, 5, 0, 1, []), (53, 3, 5, 21, 0, 0, []), (56, 2, 1, 4, 0, 0, []), (58, 1, 9, 0, 0, 0, [])]
def K_157 : pC := [(21, [false, true, true, true, true, true])]
/-- yX9_mean -/
def T_158 : List pE := [(0, 1, 0, 0, 0, 0, []), (1, 3, 6, 126, 1, 0, [208, 2, 7, 567, 570, 54, 569, 3]), (4, 1, 0, 0, 0, 0, []), (5, 3, 3, 7, 0, 0, [10, 0, 0, 282]), (8, 3, 6, 149, 2, 0, [220, 1, 5, 673, 676, 60, 674, 675]), (11, 1, 10, 1, 0, 0, []), (12, 1, 1, 1, 0, 0, []), (13, 3, 14, 34, 5, 0, []), (16, 1, 0, 0, 0, 0, []), (17, 3, 3, 7, 6, 0, [49, 0, 0, 288]), (20, 1, 0, 0, 0, 0, []), (21, 3, 3, 7, 0, 0, [10, 0, 0, 282]), (24, 3, 6, 157, 2, 0, [233, 1, 5, 697, 700, 60, 698, 699]), (27, 1, 29, 0, 0, 0, []), (28, 1, 1, 1, 0, 0, []), (29, 1, 29, 0, 0, 0, []), (30, 1, 37, 0, 0, 0, []), (31, 3, 5, 35, 0, 0, []), (34, 1, 38, 0, 0, 0, []), (35, 1, 36, 0, 0, 0, [])]
def K_158 : pC := []
/-- yX10_mean -/
def T_159 : List pE := [(0, 1, 0, 0, 0, 0, []), (1, 3, 6, 25, 1, 0, [72, 0, 8, 839, 842, 62, 841, 20]), (4, 1, 0, 0, 0, 0, []), (5, 3, 6, 141, 1, 0, [180, 0, 8, 1018, 1021, 62, 1020, 46]), (8, 1, 4, 0, 0, 0, []), (9, 1, 10, 1, 0, 0, []), (10, 1, 4, 0, 0, 0, []), (11, 1, 10, 2, 0, 0, []), (12, 1, 4, 0, 0, 0, []), (13, 1, 10, 3, 0, 0, []), (14, 1, 1, 3, 0, 0, []), (15, 1, 0, 0, 0, 0, []), (16, 3, 6, 102, 1, 0, [102, 1, 8, 970, 973, 62, 972, 36]), (19, 3, 13, 71, 3, 0, []), (22, 1, 1, 1, 0, 0, []), (23, 1, 0, 0, 0, 0, []), (24, 3, 3, 8, 16, 0, [44, 0, 0, 779]), (27, 1, 1, 3, 0, 0, []), (28, 1, 12, 0, 0, 0, []), (29, 2, 4, 113, 3, 1000000, [0, 0, 0, 1026]), (31, 3, 13, 38, 3, 0, []), (34, 1, 4, 0, 0, 1, []), (35, 3, 5, 39, 0, 0, []), (38, 1, 4, 0, 0, 0, []), (39, 1, 11, 0, 0, 0, []), (40, 1, 10, 1, 0, 0, []), (41, 1, 1, 2, 0, 0, []), (42, 1, 0, 0, 0, 0, []), (43, 3, 3, 8, 16, 0, [44, 0, 0, 779]), (46, 1, 1, 3, 0, 0, []), (47, 1, 12, 0, 0, 0, []), (48, 2, 4, 113, 3, 1000000, [0, 0, 0, 1026]), (50, 3, 13, 62, 3, 0, []), (53, 1, 0, 0, 0, 0, []), (54, 3, 3, 8, 16, 0, [44, 0, 0, 779]), (57, 1, 1, 3, 0, 0, []), (58, 1, 12, 0, 0, 0, []), (59, 3, 5, 63, 0, 0, []), (62, 1, 4, 0, 0, 0, []), (63, 1, 11, 0, 0, 0, []), (64, 1, 10, 2, 0, 0, []), (65, 3, 15, 3, 0, 1, []), (68, 3, 5, 14, 0, 0, []), (71, 1, 1, 2, 0, 0, []), (72, 1, 29, 0, 0, 0, []), (73, 1, 38, 0, 1, 0, []), (74, 1, 40, 0, 0, 0, []), (75, 1, 1, 1, 0, 0, []), (76, 1, 29, 0, 0, 0, []), (77, 1, 37, 0, 0, 0, []), (78, 1, 36, 0, 0, 0, [])]
def K_159 : pC := [(14, [true, true, true, true]), (39, [true, false, true, true])]
/-- yX4_start -/
def T_160 : List pE := [(0, 1, 4, 0, 0, 0, []), (1, 1, 10, 2, 0, 0, []), (2, 1, 1, 2, 0, 0, []), (3, 1, 0, 1, 0, 0, []), (4, 3, 2, 6, 1, 0, [31, 1, 0, 97]), (7, 3, 7, 98, 1, 0, [82, 1, 0, 713, 526, 65, 525]), (10, 3, 13, 28, 3, 0, []), (13, 1, 0, 0, 0, 0, []), (14, 3, 3, 3, 0, 0, [14, 0, 0, 253]), (17, 1, 1, 2, 0, 0, []), (18, 1, 4, 0, 0, (-1), []), (19, 3, 6, 17, 3, 0, [58, 0, 4, 714, 349, 56, 347, 348]), (22, 3, 15, 2, 0, 1, []), (25, 3, 5, 2, 0, 0, []), (28, 1, 0, 0, 0, 0, []), (29, 1, 0, 1, 0, 0, []), (30, 3, 2, 6, 0, 0, [85, 1, 0, 94]), (33, 3, 16, 3, 2, 0, [27, 0, 0, 255]), (36, 1, 0, 0, 0, 0, []), (37, 1, 4, 0, 0, 0, []), (38, 3, 16, 3, 3, 0, [52, 0, 0, 256]), (41, 1, 0, 0, 0, 0, []), (42, 1, 0, 0, 0, 0, []), (43, 3, 2, 3, 2, 0, [27, 0, 0, 255]), (46, 1, 0, 1, 0, 0, []), (47, 3, 2, 6, 5, 0, [65, 1, 0, 111]), (50, 3, 7, 109, 2, 0, [68, 1, 0, 715, 549, 63, 548]), (53, 3, 16, 3, 7, 0, [62, 0, 0, 263]), (56, 1, 19, 0, 0, 0, [])]
def K_160 : pC := [(2, [true, true, true])]
/-- yX4_goRound -/
def T_161 : List pE := [(0, 1, 4, 0, 0, 0, []), (1, 1, 10, 3, 0, 0, []), (2, 1, 1, 3, 0, 0, []), (3, 1, 0, 2, 0, 0, []), (4, 3, 6, 81, 1, 0, [86, 1, 2, 725, 488, 58, 486, 487]), (7, 3, 13, 74, 3, 0, []), (10, 1, 0, 2, 0, 0, []), (11, 1, 1, 3, 0, 0, []), (12, 3, 6, 82, 2, 0, [92, 1, 2, 726, 492, 58, 490, 491]), (15, 2, 10, 4, 0, 0, []), (17, 1, 0, 0, 0, 0, []), (18, 3, 2, 3, 2, 0, [27, 0, 0, 255]), (21, 1, 0, 1, 0, 0, []), (22, 3, 2, 6, 4, 0, [95, 1, 0, 107]), (25, 2, 1, 4, 0, 0, []), (27, 3, 7, 39, 3, 0, [98, 1, 0, 727, 389, 63, 388]), (30, 3, 14, 68, 1, 0, []), (33, 1, 0, 0, 0, 0, []), (34, 1, 20, 0, 0, 0, []), (35, 3, 2, 3, 3, 0, [52, 0, 0, 256]), (38, 1, 0, 0, 0, 0, []), (39, 3, 2, 3, 2, 0, [27, 0, 0, 255]), (42, 1, 0, 1, 0, 0, []), (43, 3, 3, 6, 3, 0, [102, 1, 0, 103]), (46, 2, 1, 4, 0, 0, []), (48, 3, 7, 40, 3, 0, [105, 1, 0, 728, 400, 63, 399]), (51, 1, 11, 0, 0, 0, []), (52, 3, 16, 3, 3, 0, [52, 0, 0, 256]), (55, 1, 0, 0, 0, 0, []), (56, 1, 0, 0, 0, 0, []), (57, 3, 2, 3, 2, 0, [27, 0, 0, 255]), (60, 2, 1, 4, 0, 0, []), (62, 3, 7, 41, 2, 0, [109, 1, 0, 729, 407, 63, 406]), (65, 3, 16, 3, 2, 0, [27, 0, 0, 255]), (68, 3, 15, 3, 0, 1, []), (71, 3, 5, 2, 0, 0, []), (74, 1, 19, 0, 0, 0, [])]
def K_161 : pC := [(2, [true, true, true, true])]
/-- yX4_follow -/
def T_162 : List pE := [(0, 1, 0, 0, 0, 0, []), (1, 1, 0, 1, 0, 0, []), (2, 3, 6, 160, 2, 0, [23, 0, 3, 709, 712, 61, 711, 16]), (5, 1, 4, 0, 0, 0, []), (6, 1, 10, 3, 0, 0, []), (7, 1, 4, 0, 0, 0, []), (8, 2, 10, 4, 0, 0, []), (10, 1, 1, 3, 0, 0, []), (11, 3, 14, 161, 1, 0, []), (14, 2, 1, 4, 0, 0, []), (16, 3, 4, 0, 2, 2520, []), (19, 3, 13, 161, 4, 0, []), (22, 1, 0, 0, 0, 0, []), (23, 3, 2, 3, 2, 0, [27, 0, 0, 255]), (26, 1, 0, 1, 0, 0, []), (27, 3, 2, 6, 1, 0, [31, 1, 0, 97]), (30, 3, 7, 74, 2, 0, [36, 1, 0, 716, 470, 65, 469]), (33, 2, 10, 5, 0, 0, []), (35, 1, 0, 0, 0, 0, []), (36, 3, 3, 3, 0, 0, [14, 0, 0, 253]), (39, 2, 1, 5, 0, 0, []), (41, 3, 6, 10, 2, 0, [42, 1, 4, 717, 321, 56, 319, 320]), (44, 1, 4, 0, 0, (-1), []), (45, 3, 13, 52, 0, 0, []), (48, 1, 4, 0, 0, 1, []), (49, 3, 5, 53, 0, 0, []), (52, 1, 4, 0, 0, 0, []), (53, 1, 10, 3, 0, 0, []), (54, 1, 1, 3, 0, 0, []), (55, 3, 14, 103, 0, 0, []), (58, 1, 0, 0, 0, 0, []), (59, 1, 0, 0, 0, 0, []), (60, 3, 3, 3, 0, 0, [14, 0, 0, 253]), (63, 2, 1, 5, 0, 0, []), (65, 3, 6, 10, 2, 0, [42, 1, 4, 717, 321, 56, 319, 320]), (68, 3, 16, 3, 4, 0, [46, 0, 0, 257]), (71, 1, 0, 0, 0, 0, []), (72, 2, 1, 4, 0, 0, []), (74, 1, 0, 0, 0, 0, []), (75, 3, 2, 3, 4, 0, [46, 0, 0, 257]), (78, 1, 11, 0, 1, 0, []), (79, 3, 16, 3, 5, 0, [49, 0, 0, 259]), (82, 1, 0, 0, 0, 0, []), (83, 1, 0, 0, 0, 0, []), (84, 3, 2, 3, 3, 0, [52, 0, 0, 256]), (87, 1, 0, 0, 0, 0, []), (88, 3, 3, 3, 1, 0, [20, 0, 0, 254]), (91, 2, 1, 5, 0, 0, []), (93, 3, 6, 10, 2, 0, [42, 1, 4, 717, 321, 56, 319, 320]), (96, 1, 11, 0, 1, 0, []), (97, 3, 16, 3, 6, 0, [55, 0, 0, 261]), (100, 3, 5, 155, 0, 0, []), (103, 1, 0, 0, 0, 0, []), (104, 3, 3, 3, 0, 0, [14, 0, 0, 253]), (107, 2, 1, 5, 0, 0, []), (109, 2, 1, 4, 0, 0, []), (111, 3, 6, 17, 3, 0, [58, 0, 4, 714, 349, 56, 347, 348]), (114, 1, 0, 0, 0, 0, []), (115, 3, 3, 3, 1, 0, [20, 0, 0, 254]), (118, 2, 1, 5, 0, 0, []), (120, 1, 0, 0, 0, 0, []), (121, 3, 2, 3, 3, 0, [52, 0, 0, 256]), (124, 3, 6, 17, 3, 0, [58, 0, 4, 714, 349, 56, 347, 348]), (127, 1, 0, 0, 0, 0, []), (128, 1, 0, 0, 0, 0, []), (129, 3, 2, 3, 7, 0, [62, 0, 0, 263]), (132, 1, 0, 0, 0, 0, []), (133, 3, 2, 3, 2, 0, [27, 0, 0, 255]), (136, 1, 0, 1, 0, 0, []), (137, 3, 2, 6, 5, 0, [65, 1, 0, 111]), (140, 3, 7, 109, 2, 0, [68, 1, 0, 715, 549, 63, 548]), (143, 3, 46, 0, 0, 0, [73, 0, 0, 718, 719, 64, 720]), (146, 3, 16, 3, 7, 0, [62, 0, 0, 263]), (149, 1, 0, 0, 0, 0, []), (150, 1, 0, 1, 0, 0, []), (151, 1, 0, 2, 0, 0, []), (152, 3, 6, 161, 3, 0, [78, 0, 3, 721, 724, 61, 723, 17]), (155, 3, 15, 4, 0, 1, []), (158, 3, 5, 10, 0, 0, []), (161, 1, 19, 0, 0, 0, [])]
def K_162 : pC := [(10, [true, true, true, true, true]), (53, [true, true, true, false, true, true])]
/-- yX9_round -/
def T_163 : List pE := [(0, 1, 1, 1, 0, 0, []), (1, 1, 4, 0, 0, 4, []), (2, 3, 7, 9, 2, 0, [60, 1, 0, 311, 313, 54, 312]), (5, 3, 14, 10, 1, 0, []), (8, 1, 4, 0, 0, (-1), []), (9, 1, 9, 0, 0, 0, []), (10, 1, 0, 0, 0, 0, []), (11, 3, 3, 7, 4, 0, [33, 0, 0, 286]), (14, 3, 6, 62, 1, 0, [117, 1, 2, 435, 438, 58, 436, 437]), (17, 2, 4, 0, 1, (-4), []), (19, 3, 13, 25, 0, 0, []), (22, 2, 4, 0, 1, (-2), []), (24, 1, 9, 0, 0, 0, []), (25, 1, 0, 0, 0, 0, []), (26, 3, 3, 7, 7, 0, [56, 0, 0, 289]), (29, 1, 0, 0, 0, 0, []), (30, 3, 3, 7, 0, 0, [10, 0, 0, 282]), (33, 1, 0, 0, 0, 0, []), (34, 3, 3, 7, 4, 0, [33, 0, 0, 286]), (37, 3, 6, 162, 3, 0, [236, 0, 3, 705, 708, 61, 706, 707]), (40, 1, 1, 1, 0, 0, []), (41, 27, 24, 0, 0, 0, [92, 68, 76, 84]), (68, 1, 0, 0, 0, 0, []), (69, 3, 3, 7, 7, 0, [56, 0, 0, 289]), (72, 3, 2, 3, 4, 0, [240, 1, 0, 258]), (75, 1, 9, 0, 0, 0, []), (76, 1, 0, 0, 0, 0, []), (77, 3, 3, 7, 7, 0, [56, 0, 0, 289]), (80, 3, 2, 3, 5, 0, [243, 1, 0, 260]), (83, 1, 9, 0, 0, 0, []), (84, 1, 0, 0, 0, 0, []), (85, 3, 3, 7, 7, 0, [56, 0, 0, 289]), (88, 3, 2, 3, 6, 0, [246, 1, 0, 262]), (91, 1, 9, 0, 0, 0, []), (92, 1, 0, 0, 0, 0, []), (93, 3, 3, 7, 7, 0, [56, 0, 0, 289]), (96, 3, 2, 3, 7, 0, [249, 1, 0, 264]), (99, 1, 9, 0, 0, 0, [])]
def K_163 : pC := []
/-- yX10_rounds -/
def T_164 : List pE := [(0, 1, 4, 0, 0, 0, []), (1, 1, 10, 1, 0, 0, []), (2, 1, 4, 0, 0, 0, []), (3, 1, 10, 2, 0, 0, []), (4, 1, 1, 2, 0, 0, []), (5, 1, 0, 0, 0, 0, []), (6, 3, 2, 8, 6, 0, [144, 0, 0, 769]), (9, 1, 4, 0, 0, 2, []), (10, 1, 43, 0, 0, 0, []), (11, 3, 13, 52, 3, 0, []), (14, 1, 0, 0, 0, 0, []), (15, 1, 0, 0, 0, 0, []), (16, 1, 1, 2, 0, 0, []), (17, 3, 6, 84, 2, 0, [159, 1, 8, 937, 940, 62, 939, 33]), (20, 3, 6, 45, 2, 0, [114, 1, 8, 867, 870, 62, 869, 24]), (23, 3, 14, 46, 1, 0, []), (26, 1, 0, 0, 0, 0, []), (27, 1, 0, 0, 0, 0, []), (28, 1, 1, 2, 0, 0, []), (29, 3, 6, 84, 2, 0, [159, 1, 8, 937, 940, 62, 939, 33]), (32, 3, 6, 46, 2, 0, [117, 0, 8, 871, 874, 62, 873, 25]), (35, 1, 0, 0, 0, 0, []), (36, 3, 6, 47, 1, 0, [135, 0, 8, 875, 878, 62, 877, 26]), (39, 1, 1, 1, 0, 0, []), (40, 1, 0, 0, 0, 0, []), (41, 3, 2, 8, 13, 0, [96, 0, 0, 776]), (44, 1, 11, 0, 0, 0, []), (45, 1, 10, 1, 0, 0, []), (46, 3, 15, 2, 0, 1, []), (49, 3, 5, 4, 0, 0, []), (52, 1, 1, 1, 0, 0, []), (53, 1, 9, 0, 0, 0, [])]
def K_164 : pC := [(4, [true, true, true])]
/-- yX10_rankOfWord -/
def T_165 : List pE := [(0, 1, 4, 0, 0, 0, []), (1, 1, 10, 1, 0, 0, []), (2, 1, 1, 1, 0, 0, []), (3, 2, 4, 0, 1, 7, []), (5, 3, 13, 26, 3, 0, []), (8, 1, 0, 0, 0, 0, []), (9, 3, 3, 8, 12, 0, [34, 0, 0, 775]), (12, 1, 1, 1, 0, 0, []), (13, 1, 0, 0, 0, 0, []), (14, 3, 3, 8, 11, 0, [31, 0, 0, 774]), (17, 1, 1, 1, 0, 0, []), (18, 1, 12, 0, 0, 0, []), (19, 1, 18, 0, 0, 0, []), (20, 3, 15, 1, 0, 1, []), (23, 3, 5, 2, 0, 0, []), (26, 1, 0, 0, 0, 0, []), (27, 3, 6, 79, 1, 0, [75, 1, 8, 922, 925, 62, 924, 31]), (30, 1, 9, 0, 0, 0, [])]
def K_165 : pC := [(2, [true, true])]
/-- yX10_round -/
def T_166 : List pE := [(0, 1, 1, 1, 0, 0, []), (1, 1, 4, 0, 0, 0, []), (2, 1, 4, 0, 0, 3, []), (3, 3, 7, 22, 3, 0, [57, 1, 0, 825, 827, 62, 826]), (6, 3, 14, 11, 1, 0, []), (9, 1, 4, 0, 0, (-1), []), (10, 1, 9, 0, 0, 0, []), (11, 1, 0, 0, 0, 0, []), (12, 3, 6, 67, 1, 0, [153, 1, 8, 903, 906, 62, 905, 28]), (15, 2, 4, 0, 1, (-4), []), (17, 3, 13, 23, 0, 0, []), (20, 2, 4, 0, 1, (-2), []), (22, 1, 9, 0, 0, 0, []), (23, 1, 0, 0, 0, 0, []), (24, 3, 6, 117, 1, 0, [171, 1, 8, 1002, 1005, 62, 1004, 43]), (27, 1, 10, 2, 0, 0, []), (28, 1, 4, 0, 0, 0, []), (29, 1, 10, 3, 0, 0, []), (30, 1, 1, 3, 0, 0, []), (31, 1, 0, 0, 0, 0, []), (32, 3, 6, 102, 1, 0, [102, 1, 8, 970, 973, 62, 972, 36]), (35, 3, 13, 51, 3, 0, []), (38, 1, 0, 0, 0, 0, []), (39, 3, 3, 8, 18, 0, [50, 0, 0, 781]), (42, 1, 1, 3, 0, 0, []), (43, 1, 4, 0, 0, (-1), []), (44, 1, 18, 0, 0, 0, []), (45, 3, 15, 3, 0, 1, []), (48, 3, 5, 30, 0, 0, []), (51, 1, 4, 0, 0, 0, []), (52, 1, 10, 3, 0, 0, []), (53, 2, 4, 113, 3, 1000000, [0, 0, 0, 1026]), (55, 2, 10, 4, 0, 0, []), (57, 1, 0, 0, 0, 0, []), (58, 3, 3, 8, 18, 0, [50, 0, 0, 781]), (61, 1, 1, 2, 0, 0, []), (62, 1, 12, 0, 0, 0, []), (63, 3, 14, 112, 3, 0, []), (66, 1, 0, 0, 0, 0, []), (67, 3, 3, 8, 18, 0, [50, 0, 0, 781]), (70, 1, 1, 2, 0, 0, []), (71, 1, 1, 3, 0, 0, []), (72, 1, 18, 0, 0, 0, []), (73, 1, 0, 0, 0, 0, []), (74, 3, 6, 115, 1, 0, [89, 1, 8, 998, 1001, 62, 1000, 42]), (77, 2, 10, 5, 0, 0, []), (79, 2, 1, 5, 0, 0, []), (81, 2, 1, 4, 0, 0, []), (83, 3, 13, 91, 3, 0, []), (86, 2, 1, 5, 0, 0, []), (88, 3, 5, 93, 0, 0, []), (91, 2, 1, 4, 0, 0, []), (93, 2, 10, 4, 0, 0, []), (95, 1, 0, 0, 0, 0, []), (96, 3, 6, 164, 1, 0, [190, 1, 8, 1055, 1058, 62, 1057, 51]), (99, 2, 10, 6, 0, 0, []), (101, 1, 0, 0, 0, 0, []), (102, 3, 6, 165, 1, 0, [193, 1, 8, 1059, 1062, 62, 1061, 52]), (105, 1, 10, 2, 0, 0, []), (106, 3, 15, 3, 0, 1, []), (109, 3, 5, 57, 0, 0, []), (112, 1, 1, 3, 0, 0, []), (113, 1, 0, 0, 0, 0, []), (114, 3, 3, 8, 18, 0, [50, 0, 0, 781]), (117, 1, 1, 2, 0, 0, []), (118, 1, 12, 0, 0, 0, []), (119, 1, 11, 0, 1, 0, []), (120, 2, 10, 5, 0, 0, []), (122, 1, 4, 0, 0, 0, []), (123, 2, 10, 6, 0, 0, []), (125, 1, 4, 0, 0, 0, []), (126, 2, 10, 7, 0, 0, []), (128, 2, 1, 7, 0, 0, []), (130, 2, 1, 5, 0, 0, []), (132, 3, 13, 150, 3, 0, []), (135, 2, 1, 6, 0, 0, []), (137, 1, 0, 0, 0, 0, []), (138, 3, 6, 164, 1, 0, [190, 1, 8, 1055, 1058, 62, 1057, 51]), (141, 1, 11, 0, 0, 0, []), (142, 2, 10, 6, 0, 0, []), (144, 3, 15, 7, 0, 1, []), (147, 3, 5, 128, 0, 0, []), (150, 1, 1, 1, 0, 0, []), (151, 3, 14, 163, 1, 0, []), (154, 1, 0, 0, 0, 0, []), (155, 3, 3, 8, 18, 0, [50, 0, 0, 781]), (158, 1, 1, 2, 0, 0, []), (159, 1, 12, 0, 0, 0, []), (160, 3, 5, 185, 0, 0, []), (163, 1, 1, 1, 0, 0, []), (164, 1, 4, 0, 0, 1, []), (165, 3, 13, 173, 1, 0, []), (168, 2, 1, 5, 0, 0, []), (170, 3, 5, 185, 0, 0, []), (173, 1, 1, 1, 0, 0, []), (174, 1, 4, 0, 0, 2, []), (175, 3, 13, 183, 1, 0, []), (178, 2, 1, 6, 0, 0, []), (180, 3, 5, 185, 0, 0, []), (183, 2, 1, 4, 0, 0, []), (185, 1, 9, 0, 0, 0, [])]
def K_166 : pC := [(30, [true, true, true, true]), (57, [true, true, true, true, true]), (93, [true, true, false, true]), (128, [true, true, true, false, true, true, true, true])]
/-- yX6_wayWith -/
def T_167 : List pE := [(0, 1, 0, 0, 0, 0, []), (1, 1, 0, 1, 0, 0, []), (2, 1, 1, 2, 0, 0, []), (3, 3, 6, 153, 3, 0, [98, 1, 5, 738, 688, 60, 686, 687]), (6, 1, 10, 3, 0, 0, []), (7, 1, 4, 0, 0, 0, []), (8, 2, 10, 4, 0, 0, []), (10, 2, 1, 4, 0, 0, []), (12, 1, 1, 3, 0, 0, []), (13, 3, 13, 69, 3, 0, []), (16, 1, 0, 0, 0, 0, []), (17, 3, 3, 5, 8, 0, [43, 0, 0, 225]), (20, 2, 1, 4, 0, 0, []), (22, 3, 6, 10, 2, 0, [61, 1, 4, 620, 321, 56, 319, 320]), (25, 2, 10, 5, 0, 0, []), (27, 1, 0, 0, 0, 0, []), (28, 3, 3, 5, 0, 0, [9, 0, 0, 217]), (31, 3, 3, 0, 0, 0, [102, 1, 0, 187]), (34, 2, 1, 5, 0, 0, []), (36, 3, 6, 10, 2, 0, [61, 1, 4, 620, 321, 56, 319, 320]), (39, 1, 0, 1, 0, 0, []), (40, 3, 2, 6, 5, 0, [105, 1, 0, 113]), (43, 1, 0, 1, 0, 0, []), (44, 3, 2, 6, 6, 0, [108, 1, 0, 116]), (47, 3, 7, 108, 3, 0, [111, 1, 0, 621, 546, 63, 545]), (50, 3, 14, 63, 0, 0, []), (53, 1, 0, 0, 0, 0, []), (54, 3, 3, 5, 7, 0, [40, 0, 0, 224]), (57, 2, 1, 5, 0, 0, []), (59, 3, 6, 10, 2, 0, [61, 1, 4, 620, 321, 56, 319, 320]), (62, 1, 9, 0, 0, 0, []), (63, 3, 15, 4, 0, 1, []), (66, 3, 5, 10, 0, 0, []), (69, 1, 4, 0, 0, (-1), []), (70, 1, 9, 0, 0, 0, [])]
def K_167 : pC := [(10, [true, true, false, true, true])]
/-- yX9_loosen -/
def T_168 : List pE := [(0, 2, 4, 0, 1, (-4), []), (2, 1, 10, 1, 0, 0, []), (3, 1, 4, 0, 0, (-1), []), (4, 1, 10, 2, 0, 0, []), (5, 1, 4, 0, 0, 0, []), (6, 1, 10, 3, 0, 0, []), (7, 1, 1, 3, 0, 0, []), (8, 2, 4, 0, 1, 7, []), (10, 3, 13, 102, 3, 0, []), (13, 1, 0, 0, 0, 0, []), (14, 3, 3, 7, 0, 0, [10, 0, 0, 282]), (17, 3, 2, 6, 0, 0, [68, 1, 0, 93]), (20, 1, 1, 3, 0, 0, []), (21, 3, 7, 12, 2, 0, [72, 1, 0, 322, 324, 63, 323]), (24, 2, 10, 4, 0, 0, []), (26, 1, 0, 0, 0, 0, []), (27, 3, 3, 7, 0, 0, [10, 0, 0, 282]), (30, 3, 2, 6, 4, 0, [92, 1, 0, 108]), (33, 2, 1, 4, 0, 0, []), (35, 3, 7, 32, 2, 0, [95, 1, 0, 370, 372, 63, 371]), (38, 3, 14, 96, 0, 0, []), (41, 1, 0, 0, 0, 0, []), (42, 3, 6, 126, 1, 0, [208, 2, 7, 567, 570, 54, 569, 3]), (45, 1, 0, 0, 0, 0, []), (46, 3, 3, 7, 0, 0, [10, 0, 0, 282]), (49, 1, 0, 0, 0, 0, []), (50, 3, 3, 7, 0, 0, [10, 0, 0, 282]), (53, 3, 2, 6, 4, 0, [92, 1, 0, 108]), (56, 1, 4, 0, 0, 1, []), (57, 2, 1, 4, 0, 0, []), (59, 1, 11, 0, 6, 0, []), (60, 1, 4, 0, 0, (-1), []), (61, 1, 11, 0, 5, 0, []), (62, 1, 11, 0, 3, 0, []), (63, 3, 6, 167, 3, 0, [252, 1, 5, 734, 737, 60, 735, 736]), (66, 2, 10, 5, 0, 0, []), (68, 1, 1, 1, 0, 0, []), (69, 2, 4, 0, 1, (-4), []), (71, 3, 13, 91, 0, 0, []), (74, 2, 1, 5, 0, 0, []), (76, 1, 4, 0, 0, (-1), []), (77, 3, 13, 96, 0, 0, []), (80, 1, 1, 2, 0, 0, []), (81, 1, 4, 0, 0, (-1), []), (82, 3, 13, 91, 0, 0, []), (85, 2, 1, 5, 0, 0, []), (87, 1, 1, 2, 0, 0, []), (88, 3, 13, 96, 3, 0, []), (91, 1, 1, 3, 0, 0, []), (92, 1, 10, 1, 0, 0, []), (93, 2, 1, 5, 0, 0, []), (95, 1, 10, 2, 0, 0, []), (96, 3, 15, 3, 0, 1, []), (99, 3, 5, 7, 0, 0, []), (102, 1, 1, 1, 0, 0, []), (103, 1, 9, 0, 0, 0, [])]
def K_168 : pC := [(7, [true, true, true, true])]
/-- yX10_loosen -/
def T_169 : List pE := [(0, 2, 4, 0, 1, (-4), []), (2, 1, 10, 1, 0, 0, []), (3, 1, 4, 0, 0, 0, []), (4, 1, 10, 2, 0, 0, []), (5, 1, 4, 0, 0, 0, []), (6, 1, 10, 3, 0, 0, []), (7, 1, 1, 3, 0, 0, []), (8, 2, 4, 0, 1, 7, []), (10, 3, 13, 117, 3, 0, []), (13, 1, 0, 0, 0, 0, []), (14, 3, 6, 117, 1, 0, [171, 1, 8, 1002, 1005, 62, 1004, 43]), (17, 2, 10, 4, 0, 0, []), (19, 1, 0, 0, 0, 0, []), (20, 3, 3, 8, 11, 0, [31, 0, 0, 774]), (23, 1, 1, 3, 0, 0, []), (24, 1, 12, 0, 0, 0, []), (25, 3, 14, 111, 5, 0, []), (28, 1, 0, 0, 0, 0, []), (29, 3, 3, 8, 0, 0, [7, 0, 0, 763]), (32, 2, 4, 0, 1, 14, []), (34, 1, 1, 3, 0, 0, []), (35, 1, 11, 0, 0, 0, []), (36, 1, 12, 0, 0, 0, []), (37, 1, 4, 0, 0, 1, []), (38, 3, 13, 111, 1, 0, []), (41, 1, 0, 0, 0, 0, []), (42, 3, 3, 8, 9, 0, [28, 0, 0, 772]), (45, 1, 0, 0, 0, 0, []), (46, 3, 3, 8, 11, 0, [31, 0, 0, 774]), (49, 1, 1, 3, 0, 0, []), (50, 1, 12, 0, 0, 0, []), (51, 1, 4, 0, 0, 1, []), (52, 1, 11, 0, 1, 0, []), (53, 1, 4, 0, 0, 0, []), (54, 1, 18, 0, 0, 0, []), (55, 1, 0, 0, 0, 0, []), (56, 3, 6, 141, 1, 0, [180, 0, 8, 1018, 1021, 62, 1020, 46]), (59, 1, 1, 1, 0, 0, []), (60, 2, 4, 0, 1, (-4), []), (62, 3, 13, 76, 0, 0, []), (65, 1, 0, 0, 0, 0, []), (66, 3, 3, 8, 16, 0, [44, 0, 0, 779]), (69, 2, 1, 4, 0, 0, []), (71, 1, 12, 0, 0, 0, []), (72, 1, 1, 2, 0, 0, []), (73, 3, 13, 80, 3, 0, []), (76, 1, 4, 0, 0, 1, []), (77, 3, 5, 81, 0, 0, []), (80, 1, 4, 0, 0, 0, []), (81, 2, 10, 5, 0, 0, []), (83, 2, 1, 5, 0, 0, []), (85, 3, 14, 92, 0, 0, []), (88, 1, 1, 3, 0, 0, []), (89, 3, 5, 93, 0, 0, []), (92, 1, 1, 1, 0, 0, []), (93, 1, 10, 1, 0, 0, []), (94, 2, 1, 5, 0, 0, []), (96, 3, 14, 109, 0, 0, []), (99, 1, 0, 0, 0, 0, []), (100, 3, 3, 8, 16, 0, [44, 0, 0, 779]), (103, 2, 1, 4, 0, 0, []), (105, 1, 12, 0, 0, 0, []), (106, 3, 5, 110, 0, 0, []), (109, 1, 1, 2, 0, 0, []), (110, 1, 10, 2, 0, 0, []), (111, 3, 15, 3, 0, 1, []), (114, 3, 5, 7, 0, 0, []), (117, 1, 1, 1, 0, 0, []), (118, 1, 9, 0, 0, 0, [])]
def K_169 : pC := [(7, [true, true, true, true]), (76, [true, true, true, true, true]), (93, [true, false, true, true, true, true])]
/-- yX1_giveBack -/
def T_170 : List pE := [(0, 1, 0, 0, 0, 0, []), (1, 3, 2, 1, 1, 0, [18, 0, 0, 154]), (4, 1, 4, 0, 0, 1, []), (5, 1, 11, 0, 1, 0, []), (6, 1, 10, 2, 0, 0, []), (7, 1, 1, 2, 0, 0, []), (8, 3, 14, 44, 2, 0, []), (11, 1, 1, 2, 0, 0, []), (12, 1, 0, 0, 0, 0, []), (13, 3, 3, 1, 0, 0, [11, 0, 0, 153]), (16, 1, 26, 0, 0, 0, []), (17, 3, 13, 44, 3, 0, []), (20, 1, 0, 0, 0, 0, []), (21, 3, 3, 1, 0, 0, [11, 0, 0, 153]), (24, 1, 1, 2, 0, 0, []), (25, 1, 28, 0, 0, 0, []), (26, 3, 34, 44, 0, 0, []), (29, 1, 0, 1, 0, 0, []), (30, 1, 0, 0, 0, 0, []), (31, 3, 3, 1, 0, 0, [11, 0, 0, 153]), (34, 1, 1, 2, 0, 0, []), (35, 1, 28, 0, 0, 0, []), (36, 3, 6, 15, 2, 0, [25, 0, 6, 333, 336, 55, 334, 335]), (39, 1, 0, 0, 0, 0, []), (40, 1, 1, 2, 0, 0, []), (41, 3, 16, 1, 1, 0, [18, 0, 0, 154]), (44, 1, 19, 0, 0, 0, [])]
def K_170 : pC := []
/-- yX9_undo -/
def T_171 : List pE := [(0, 1, 0, 0, 0, 0, []), (1, 3, 3, 7, 3, 0, [26, 0, 0, 285]), (4, 3, 2, 1, 1, 0, [207, 1, 0, 155]), (7, 3, 14, 13, 1, 0, []), (10, 2, 4, 0, 1, (-2), []), (12, 1, 9, 0, 0, 0, []), (13, 1, 0, 0, 0, 0, []), (14, 3, 3, 7, 3, 0, [26, 0, 0, 285]), (17, 1, 0, 0, 0, 0, []), (18, 3, 3, 7, 0, 0, [10, 0, 0, 282]), (21, 3, 6, 170, 2, 0, [255, 0, 1, 743, 746, 57, 744, 745]), (24, 1, 0, 0, 0, 0, []), (25, 3, 3, 7, 3, 0, [26, 0, 0, 285]), (28, 3, 2, 1, 1, 0, [207, 1, 0, 155]), (31, 1, 9, 0, 0, 0, [])]
def K_171 : pC := []
/-- yX10_undo -/
def T_172 : List pE := [(0, 1, 0, 0, 0, 0, []), (1, 3, 2, 8, 2, 0, [53, 0, 0, 765]), (4, 3, 14, 10, 1, 0, []), (7, 2, 4, 0, 1, (-2), []), (9, 1, 9, 0, 0, 0, []), (10, 1, 0, 0, 0, 0, []), (11, 1, 20, 0, 0, 0, []), (12, 3, 2, 8, 2, 0, [53, 0, 0, 765]), (15, 1, 4, 0, 0, 1, []), (16, 1, 11, 0, 1, 0, []), (17, 3, 16, 8, 2, 0, [53, 0, 0, 765]), (20, 1, 4, 0, 0, 0, []), (21, 1, 10, 1, 0, 0, []), (22, 1, 1, 1, 0, 0, []), (23, 2, 4, 0, 1, 26, []), (25, 3, 13, 54, 3, 0, []), (28, 1, 0, 0, 0, 0, []), (29, 3, 3, 8, 0, 0, [7, 0, 0, 763]), (32, 1, 1, 1, 0, 0, []), (33, 1, 0, 0, 0, 0, []), (34, 3, 3, 8, 1, 0, [13, 0, 0, 764]), (37, 2, 4, 0, 1, 26, []), (39, 1, 0, 0, 0, 0, []), (40, 3, 2, 8, 2, 0, [53, 0, 0, 765]), (43, 1, 11, 0, 2, 0, []), (44, 1, 1, 1, 0, 0, []), (45, 1, 11, 0, 0, 0, []), (46, 1, 12, 0, 0, 0, []), (47, 1, 18, 0, 0, 0, []), (48, 3, 15, 1, 0, 1, []), (51, 3, 5, 22, 0, 0, []), (54, 1, 0, 0, 0, 0, []), (55, 3, 2, 8, 2, 0, [53, 0, 0, 765]), (58, 1, 9, 0, 0, 0, [])]
def K_172 : pC := [(22, [true, true])]
/-- yX9_save -/
def T_173 : List pE := [(0, 1, 0, 0, 0, 0, []), (1, 3, 3, 7, 1, 0, [16, 0, 0, 283]), (4, 1, 0, 0, 0, 0, []), (5, 3, 3, 7, 0, 0, [10, 0, 0, 282]), (8, 3, 6, 15, 2, 0, [258, 0, 6, 751, 336, 55, 334, 335]), (11, 1, 0, 0, 0, 0, []), (12, 1, 4, 0, 0, 1, []), (13, 3, 16, 7, 2, 0, [19, 0, 1, 284]), (16, 1, 0, 0, 0, 0, []), (17, 3, 3, 7, 0, 0, [10, 0, 0, 282]), (20, 3, 6, 75, 1, 0, [128, 1, 6, 464, 467, 55, 465, 466]), (23, 1, 9, 0, 0, 0, [])]
def K_173 : pC := []
/-- yX10_save -/
def T_174 : List pE := [(0, 1, 4, 0, 0, 0, []), (1, 1, 10, 1, 0, 0, []), (2, 1, 1, 1, 0, 0, []), (3, 2, 4, 0, 1, 26, []), (5, 3, 13, 26, 3, 0, []), (8, 1, 0, 0, 0, 0, []), (9, 3, 3, 8, 3, 0, [16, 0, 0, 766]), (12, 1, 1, 1, 0, 0, []), (13, 1, 0, 0, 0, 0, []), (14, 3, 3, 8, 0, 0, [7, 0, 0, 763]), (17, 1, 1, 1, 0, 0, []), (18, 1, 12, 0, 0, 0, []), (19, 1, 18, 0, 0, 0, []), (20, 3, 15, 1, 0, 1, []), (23, 3, 5, 2, 0, 0, []), (26, 1, 0, 0, 0, 0, []), (27, 1, 4, 0, 0, 1, []), (28, 3, 16, 8, 4, 0, [196, 0, 1, 767]), (31, 1, 0, 0, 0, 0, []), (32, 3, 6, 117, 1, 0, [171, 1, 8, 1002, 1005, 62, 1004, 43]), (35, 1, 9, 0, 0, 0, [])]
def K_174 : pC := [(2, [true, true])]
/-- yX9_restore -/
def T_175 : List pE := [(0, 1, 0, 0, 0, 0, []), (1, 3, 2, 7, 2, 0, [19, 0, 0, 284]), (4, 3, 14, 10, 1, 0, []), (7, 2, 4, 0, 1, (-2), []), (9, 1, 9, 0, 0, 0, []), (10, 1, 0, 0, 0, 0, []), (11, 3, 3, 7, 3, 0, [26, 0, 0, 285]), (14, 1, 0, 0, 0, 0, []), (15, 3, 3, 7, 0, 0, [10, 0, 0, 282]), (18, 3, 6, 16, 2, 0, [81, 0, 1, 325, 328, 57, 326, 327]), (21, 1, 0, 0, 0, 0, []), (22, 3, 3, 7, 0, 0, [10, 0, 0, 282]), (25, 1, 0, 0, 0, 0, []), (26, 3, 3, 7, 1, 0, [16, 0, 0, 283]), (29, 3, 6, 15, 2, 0, [258, 0, 6, 751, 336, 55, 334, 335]), (32, 1, 0, 0, 0, 0, []), (33, 3, 3, 7, 0, 0, [10, 0, 0, 282]), (36, 3, 6, 75, 1, 0, [128, 1, 6, 464, 467, 55, 465, 466]), (39, 1, 9, 0, 0, 0, [])]
def K_175 : pC := []
/-- yX10_restore -/
def T_176 : List pE := [(0, 1, 0, 0, 0, 0, []), (1, 3, 2, 8, 4, 0, [196, 0, 0, 767]), (4, 3, 14, 10, 1, 0, []), (7, 2, 4, 0, 1, (-2), []), (9, 1, 9, 0, 0, 0, []), (10, 1, 0, 0, 0, 0, []), (11, 3, 6, 27, 1, 0, [132, 0, 8, 843, 846, 62, 845, 21]), (14, 1, 4, 0, 0, 0, []), (15, 1, 10, 1, 0, 0, []), (16, 1, 1, 1, 0, 0, []), (17, 2, 4, 0, 1, 26, []), (19, 3, 13, 40, 3, 0, []), (22, 1, 0, 0, 0, 0, []), (23, 3, 3, 8, 0, 0, [7, 0, 0, 763]), (26, 1, 1, 1, 0, 0, []), (27, 1, 0, 0, 0, 0, []), (28, 3, 3, 8, 3, 0, [16, 0, 0, 766]), (31, 1, 1, 1, 0, 0, []), (32, 1, 12, 0, 0, 0, []), (33, 1, 18, 0, 0, 0, []), (34, 3, 15, 1, 0, 1, []), (37, 3, 5, 16, 0, 0, []), (40, 1, 0, 0, 0, 0, []), (41, 3, 6, 117, 1, 0, [171, 1, 8, 1002, 1005, 62, 1004, 43]), (44, 1, 9, 0, 0, 0, [])]
def K_176 : pC := [(16, [true, true])]
/-- yL_law -/
def T_177 : List pE := [(0, 3, 21, 7, 0, 0, [7, 0, 0, 67, 68, 54]), (3, 1, 20, 0, 0, 0, []), (4, 3, 8, 7, 1, 0, [9, 0, 0, 69, 71, 54, 70]), (7, 1, 23, 1, 0, 0, []), (8, 3, 21, 8, 0, 0, [10, 0, 0, 756, 757, 62]), (11, 1, 20, 0, 0, 0, []), (12, 3, 8, 8, 1, 0, [12, 0, 0, 758, 760, 62, 759]), (15, 1, 23, 2, 0, 0, []), (16, 1, 4, 0, 0, 0, []), (17, 1, 10, 3, 0, 0, []), (18, 1, 1, 3, 0, 0, []), (19, 1, 0, 0, 0, 0, []), (20, 1, 26, 0, 0, 0, []), (21, 1, 4, 0, 0, 4, []), (22, 1, 11, 0, 1, 0, []), (23, 3, 13, 816, 4, 0, []), (26, 1, 0, 0, 0, 0, []), (27, 1, 1, 3, 0, 0, []), (28, 1, 12, 0, 0, 0, []), (29, 2, 4, 0, 1, 31, []), (31, 1, 11, 0, 3, 0, []), (32, 120, 24, 0, 0, 0, [810, 152, 195, 218, 241, 264, 313, 346, 369, 382, 405, 418, 431, 464, 487, 510, 533, 566, 589, 622, 671, 694, 735, 758, 771, 784, 797]), (152, 1, 0, 1, 0, 0, []), (153, 1, 0, 0, 0, 0, []), (154, 1, 1, 3, 0, 0, []), (155, 1, 4, 0, 0, 1, []), (156, 1, 11, 0, 0, 0, []), (157, 1, 12, 0, 0, 0, []), (158, 1, 0, 0, 0, 0, []), (159, 1, 1, 3, 0, 0, []), (160, 1, 4, 0, 0, 2, []), (161, 1, 11, 0, 0, 0, []), (162, 1, 12, 0, 0, 0, []), (163, 1, 0, 0, 0, 0, []), (164, 1, 1, 3, 0, 0, []), (165, 1, 4, 0, 0, 3, []), (166, 1, 11, 0, 0, 0, []), (167, 1, 12, 0, 0, 0, []), (168, 3, 6, 21, 4, 0, [13, 1, 7, 307, 310, 54, 308, 309]), (171, 1, 0, 2, 0, 0, []), (172, 1, 0, 0, 0, 0, []), (173, 1, 1, 3, 0, 0, []), (174, 1, 4, 0, 0, 1, []), (175, 1, 11, 0, 0, 0, []), (176, 1, 12, 0, 0, 0, []), (177, 1, 0, 0, 0, 0, []), (178, 1, 1, 3, 0, 0, []), (179, 1, 4, 0, 0, 2, []), (180, 1, 11, 0, 0, 0, []), (181, 1, 12, 0, 0, 0, []), (182, 1, 0, 0, 0, 0, []), (183, 1, 1, 3, 0, 0, []), (184, 1, 4, 0, 0, 3, []), (185, 1, 11, 0, 0, 0, []), (186, 1, 12, 0, 0, 0, []), (187, 3, 6, 28, 4, 0, [17, 1, 8, 821, 824, 62, 822, 823]), (190, 3, 13, 810, 0, 0, []), (193, 1, 4, 0, 0, 0, []), (194, 1, 9, 0, 1, 0, []), (195, 1, 0, 1, 0, 0, []), (196, 1, 0, 0, 0, 0, []), (197, 1, 1, 3, 0, 0, []), (198, 1, 4, 0, 0, 1, []), (199, 1, 11, 0, 0, 0, []), (200, 1, 12, 0, 0, 0, []), (201, 3, 6, 30, 2, 0, [18, 1, 7, 358, 361, 54, 359, 360]), (204, 1, 0, 2, 0, 0, []), (205, 1, 0, 0, 0, 0, []), (206, 1, 1, 3, 0, 0, []), (207, 1, 4, 0, 0, 1, []), (208, 1, 11, 0, 0, 0, []), (209, 1, 12, 0, 0, 0, []), (210, 3, 6, 31, 2, 0, [22, 1, 8, 847, 850, 62, 848, 849]), (213, 3, 13, 810, 0, 0, []), (216, 1, 4, 0, 0, 0, []), (217, 1, 9, 0, 1, 0, []), (218, 1, 0, 1, 0, 0, []), (219, 1, 0, 0, 0, 0, []), (220, 1, 1, 3, 0, 0, []), (221, 1, 4, 0, 0, 1, []), (222, 1, 11, 0, 0, 0, []), (223, 1, 12, 0, 0, 0, []), (224, 3, 6, 33, 2, 0, [23, 1, 7, 366, 369, 54, 367, 368]), (227, 1, 0, 2, 0, 0, []), (228, 1, 0, 0, 0, 0, []), (229, 1, 1, 3, 0, 0, []), (230, 1, 4, 0, 0, 1, []), (231, 1, 11, 0, 0, 0, []), (232, 1, 12, 0, 0, 0, []), (233, 3, 6, 34, 2, 0, [26, 1, 8, 851, 854, 62, 852, 853]), (236, 3, 13, 810, 0, 0, []), (239, 1, 4, 0, 0, 0, []), (240, 1, 9, 0, 1, 0, []), (241, 1, 0, 1, 0, 0, []), (242, 1, 0, 0, 0, 0, []), (243, 1, 1, 3, 0, 0, []), (244, 1, 4, 0, 0, 1, []), (245, 1, 11, 0, 0, 0, []), (246, 1, 12, 0, 0, 0, []), (247, 3, 6, 43, 2, 0, [27, 1, 7, 373, 376, 54, 374, 375]), (250, 1, 0, 2, 0, 0, []), (251, 1, 0, 0, 0, 0, []), (252, 1, 1, 3, 0, 0, []), (253, 1, 4, 0, 0, 1, []), (254, 1, 11, 0, 0, 0, []), (255, 1, 12, 0, 0, 0, []), (256, 3, 6, 50, 2, 0, [30, 1, 8, 855, 858, 62, 856, 857]), (259, 3, 13, 810, 0, 0, []), (262, 1, 4, 0, 0, 0, []), (263, 1, 9, 0, 1, 0, []), (264, 1, 0, 1, 0, 0, []), (265, 1, 0, 0, 0, 0, []), (266, 1, 1, 3, 0, 0, []), (267, 1, 4, 0, 0, 1, []), (268, 1, 11, 0, 0, 0, []), (269, 1, 12, 0, 0, 0, []), (270, 1, 0, 0, 0, 0, []), (271, 1, 1, 3, 0, 0, []), (272, 1, 4, 0, 0, 2, []), (273, 1, 11, 0, 0, 0, []), (274, 1, 12, 0, 0, 0, []), (275, 3, 14, 282, 0, 0, []), (278, 1, 4, 0, 0, 1, []), (279, 3, 5, 283, 0, 0, []), (282, 1, 4, 0, 0, 0, []), (283, 3, 6, 51, 3, 0, [31, 1, 7, 410, 413, 54, 411, 412]), (286, 1, 0, 2, 0, 0, []), (287, 1, 0, 0, 0, 0, []), (288, 1, 1, 3, 0, 0, []), (289, 1, 4, 0, 0, 1, []), (290, 1, 11, 0, 0, 0, []), (291, 1, 12, 0, 0, 0, []), (292, 1, 0, 0, 0, 0, []), (293, 1, 1, 3, 0, 0, []), (294, 1, 4, 0, 0, 2, []), (295, 1, 11, 0, 0, 0, []), (296, 1, 12, 0, 0, 0, []), (297, 3, 14, 304, 0, 0, []), (300, 1, 4, 0, 0, 1, []), (301, 3, 5, 305, 0, 0, []), (304, 1, 4, 0, 0, 0, []), (305, 3, 6, 52, 3, 0, [35, 1, 8, 883, 886, 62, 884, 885]), (308, 3, 13, 810, 0, 0, []), (311, 1, 4, 0, 0, 0, []), (312, 1, 9, 0, 1, 0, []), (313, 1, 0, 1, 0, 0, []), (314, 1, 0, 0, 0, 0, []), (315, 1, 1, 3, 0, 0, []), (316, 1, 4, 0, 0, 1, []), (317, 1, 11, 0, 0, 0, []), (318, 1, 12, 0, 0, 0, []), (319, 1, 0, 0, 0, 0, []), (320, 1, 1, 3, 0, 0, []), (321, 1, 4, 0, 0, 2, []), (322, 1, 11, 0, 0, 0, []), (323, 1, 12, 0, 0, 0, []), (324, 3, 6, 53, 3, 0, [36, 1, 7, 414, 417, 54, 415, 416]), (327, 1, 0, 2, 0, 0, []), (328, 1, 0, 0, 0, 0, []), (329, 1, 1, 3, 0, 0, []), (330, 1, 4, 0, 0, 1, []), (331, 1, 11, 0, 0, 0, []), (332, 1, 12, 0, 0, 0, []), (333, 1, 0, 0, 0, 0, []), (334, 1, 1, 3, 0, 0, []), (335, 1, 4, 0, 0, 2, []), (336, 1, 11, 0, 0, 0, []), (337, 1, 12, 0, 0, 0, []), (338, 3, 6, 54, 3, 0, [40, 1, 8, 887, 890, 62, 888, 889]), (341, 3, 13, 810, 0, 0, []), (344, 1, 4, 0, 0, 0, []), (345, 1, 9, 0, 1, 0, []), (346, 1, 0, 1, 0, 0, []), (347, 1, 0, 0, 0, 0, []), (348, 1, 1, 3, 0, 0, []), (349, 1, 4, 0, 0, 1, []), (350, 1, 11, 0, 0, 0, []), (351, 1, 12, 0, 0, 0, []), (352, 3, 6, 56, 2, 0, [41, 1, 7, 418, 421, 54, 419, 420]), (355, 1, 0, 2, 0, 0, []), (356, 1, 0, 0, 0, 0, []), (357, 1, 1, 3, 0, 0, []), (358, 1, 4, 0, 0, 1, []), (359, 1, 11, 0, 0, 0, []), (360, 1, 12, 0, 0, 0, []), (361, 3, 6, 57, 2, 0, [44, 1, 8, 891, 894, 62, 892, 893]), (364, 3, 13, 810, 0, 0, []), (367, 1, 4, 0, 0, 0, []), (368, 1, 9, 0, 1, 0, []), (369, 1, 0, 1, 0, 0, []), (370, 3, 6, 58, 1, 0, [45, 1, 7, 427, 430, 54, 428, 429]), (373, 1, 0, 2, 0, 0, []), (374, 3, 6, 59, 1, 0, [49, 1, 8, 895, 898, 62, 896, 897]), (377, 3, 13, 810, 0, 0, []), (380, 1, 4, 0, 0, 0, []), (381, 1, 9, 0, 1, 0, []), (382, 1, 0, 1, 0, 0, []), (383, 1, 0, 0, 0, 0, []), (384, 1, 1, 3, 0, 0, []), (385, 1, 4, 0, 0, 1, []), (386, 1, 11, 0, 0, 0, []), (387, 1, 12, 0, 0, 0, []), (388, 3, 6, 65, 2, 0, [50, 1, 7, 431, 434, 54, 432, 433]), (391, 1, 0, 2, 0, 0, []), (392, 1, 0, 0, 0, 0, []), (393, 1, 1, 3, 0, 0, []), (394, 1, 4, 0, 0, 1, []), (395, 1, 11, 0, 0, 0, []), (396, 1, 12, 0, 0, 0, []), (397, 3, 6, 70, 2, 0, [53, 1, 8, 899, 902, 62, 900, 901]), (400, 3, 13, 810, 0, 0, []), (403, 1, 4, 0, 0, 0, []), (404, 1, 9, 0, 1, 0, []), (405, 1, 0, 1, 0, 0, []), (406, 3, 6, 76, 1, 0, [54, 1, 7, 455, 458, 54, 456, 457]), (409, 1, 0, 2, 0, 0, []), (410, 3, 6, 80, 1, 0, [57, 1, 8, 918, 921, 62, 919, 920]), (413, 3, 13, 810, 0, 0, []), (416, 1, 4, 0, 0, 0, []), (417, 1, 9, 0, 1, 0, []), (418, 1, 0, 1, 0, 0, []), (419, 3, 6, 83, 1, 0, [58, 1, 7, 481, 484, 54, 482, 483]), (422, 1, 0, 2, 0, 0, []), (423, 3, 6, 85, 1, 0, [61, 1, 8, 933, 936, 62, 934, 935]), (426, 3, 13, 810, 0, 0, []), (429, 1, 4, 0, 0, 0, []), (430, 1, 9, 0, 1, 0, []), (431, 1, 0, 1, 0, 0, []), (432, 1, 0, 0, 0, 0, []), (433, 1, 1, 3, 0, 0, []), (434, 1, 4, 0, 0, 1, []), (435, 1, 11, 0, 0, 0, []), (436, 1, 12, 0, 0, 0, []), (437, 1, 0, 0, 0, 0, []), (438, 1, 1, 3, 0, 0, []), (439, 1, 4, 0, 0, 2, []), (440, 1, 11, 0, 0, 0, []), (441, 1, 12, 0, 0, 0, []), (442, 3, 6, 88, 3, 0, [62, 1, 7, 493, 496, 54, 494, 495]), (445, 1, 0, 2, 0, 0, []), (446, 1, 0, 0, 0, 0, []), (447, 1, 1, 3, 0, 0, []), (448, 1, 4, 0, 0, 1, []), (449, 1, 11, 0, 0, 0, []), (450, 1, 12, 0, 0, 0, []), (451, 1, 0, 0, 0, 0, []), (452, 1, 1, 3, 0, 0, []), (453, 1, 4, 0, 0, 2, []), (454, 1, 11, 0, 0, 0, []), (455, 1, 12, 0, 0, 0, []), (456, 3, 6, 91, 3, 0, [65, 1, 8, 941, 944, 62, 942, 943]), (459, 3, 13, 810, 0, 0, []), (462, 1, 4, 0, 0, 0, []), (463, 1, 9, 0, 1, 0, []), (464, 1, 0, 1, 0, 0, []), (465, 1, 0, 0, 0, 0, []), (466, 1, 1, 3, 0, 0, []), (467, 1, 4, 0, 0, 1, []), (468, 1, 11, 0, 0, 0, []), (469, 1, 12, 0, 0, 0, []), (470, 3, 6, 92, 2, 0, [66, 1, 7, 504, 507, 54, 505, 506]), (473, 1, 0, 2, 0, 0, []), (474, 1, 0, 0, 0, 0, []), (475, 1, 1, 3, 0, 0, []), (476, 1, 4, 0, 0, 1, []), (477, 1, 11, 0, 0, 0, []), (478, 1, 12, 0, 0, 0, []), (479, 3, 6, 93, 2, 0, [69, 1, 8, 953, 956, 62, 954, 955]), (482, 3, 13, 810, 0, 0, []), (485, 1, 4, 0, 0, 0, []), (486, 1, 9, 0, 1, 0, []), (487, 1, 0, 1, 0, 0, []), (488, 1, 0, 0, 0, 0, []), (489, 1, 1, 3, 0, 0, []), (490, 1, 4, 0, 0, 1, []), (491, 1, 11, 0, 0, 0, []), (492, 1, 12, 0, 0, 0, []), (493, 3, 6, 94, 2, 0, [70, 1, 7, 509, 512, 54, 510, 511]), (496, 1, 0, 2, 0, 0, []), (497, 1, 0, 0, 0, 0, []), (498, 1, 1, 3, 0, 0, []), (499, 1, 4, 0, 0, 1, []), (500, 1, 11, 0, 0, 0, []), (501, 1, 12, 0, 0, 0, []), (502, 3, 6, 95, 2, 0, [73, 1, 8, 957, 960, 62, 958, 959]), (505, 3, 13, 810, 0, 0, []), (508, 1, 4, 0, 0, 0, []), (509, 1, 9, 0, 1, 0, []), (510, 1, 0, 1, 0, 0, []), (511, 1, 0, 0, 0, 0, []), (512, 1, 1, 3, 0, 0, []), (513, 1, 4, 0, 0, 1, []), (514, 1, 11, 0, 0, 0, []), (515, 1, 12, 0, 0, 0, []), (516, 3, 6, 96, 2, 0, [74, 1, 7, 514, 517, 54, 515, 516]), (519, 1, 0, 2, 0, 0, []), (520, 1, 0, 0, 0, 0, []), (521, 1, 1, 3, 0, 0, []), (522, 1, 4, 0, 0, 1, []), (523, 1, 11, 0, 0, 0, []), (524, 1, 12, 0, 0, 0, []), (525, 3, 6, 97, 2, 0, [77, 1, 8, 962, 965, 62, 963, 964]), (528, 3, 13, 810, 0, 0, []), (531, 1, 4, 0, 0, 0, []), (532, 1, 9, 0, 1, 0, []), (533, 1, 0, 1, 0, 0, []), (534, 1, 0, 0, 0, 0, []), (535, 1, 1, 3, 0, 0, []), (536, 1, 4, 0, 0, 1, []), (537, 1, 11, 0, 0, 0, []), (538, 1, 12, 0, 0, 0, []), (539, 1, 0, 0, 0, 0, []), (540, 1, 1, 3, 0, 0, []), (541, 1, 4, 0, 0, 2, []), (542, 1, 11, 0, 0, 0, []), (543, 1, 12, 0, 0, 0, []), (544, 3, 6, 101, 3, 0, [78, 1, 7, 520, 523, 54, 521, 522]), (547, 1, 0, 2, 0, 0, []), (548, 1, 0, 0, 0, 0, []), (549, 1, 1, 3, 0, 0, []), (550, 1, 4, 0, 0, 1, []), (551, 1, 11, 0, 0, 0, []), (552, 1, 12, 0, 0, 0, []), (553, 1, 0, 0, 0, 0, []), (554, 1, 1, 3, 0, 0, []), (555, 1, 4, 0, 0, 2, []), (556, 1, 11, 0, 0, 0, []), (557, 1, 12, 0, 0, 0, []), (558, 3, 6, 106, 3, 0, [81, 1, 8, 966, 969, 62, 967, 968]), (561, 3, 13, 810, 0, 0, []), (564, 1, 4, 0, 0, 0, []), (565, 1, 9, 0, 1, 0, []), (566, 1, 0, 1, 0, 0, []), (567, 1, 0, 0, 0, 0, []), (568, 1, 1, 3, 0, 0, []), (569, 1, 4, 0, 0, 1, []), (570, 1, 11, 0, 0, 0, []), (571, 1, 12, 0, 0, 0, []), (572, 3, 6, 113, 2, 0, [82, 1, 7, 535, 538, 54, 536, 537]), (575, 1, 0, 2, 0, 0, []), (576, 1, 0, 0, 0, 0, []), (577, 1, 1, 3, 0, 0, []), (578, 1, 4, 0, 0, 1, []), (579, 1, 11, 0, 0, 0, []), (580, 1, 12, 0, 0, 0, []), (581, 3, 6, 120, 2, 0, [85, 1, 8, 986, 989, 62, 987, 988]), (584, 3, 13, 810, 0, 0, []), (587, 1, 4, 0, 0, 0, []), (588, 1, 9, 0, 1, 0, []), (589, 1, 0, 1, 0, 0, []), (590, 1, 0, 0, 0, 0, []), (591, 1, 1, 3, 0, 0, []), (592, 1, 4, 0, 0, 1, []), (593, 1, 11, 0, 0, 0, []), (594, 1, 12, 0, 0, 0, []), (595, 1, 0, 0, 0, 0, []), (596, 1, 1, 3, 0, 0, []), (597, 1, 4, 0, 0, 2, []), (598, 1, 11, 0, 0, 0, []), (599, 1, 12, 0, 0, 0, []), (600, 3, 6, 138, 3, 0, [86, 1, 7, 563, 566, 54, 564, 565]), (603, 1, 0, 2, 0, 0, []), (604, 1, 0, 0, 0, 0, []), (605, 1, 1, 3, 0, 0, []), (606, 1, 4, 0, 0, 1, []), (607, 1, 11, 0, 0, 0, []), (608, 1, 12, 0, 0, 0, []), (609, 1, 0, 0, 0, 0, []), (610, 1, 1, 3, 0, 0, []), (611, 1, 4, 0, 0, 2, []), (612, 1, 11, 0, 0, 0, []), (613, 1, 12, 0, 0, 0, []), (614, 3, 6, 142, 3, 0, [89, 1, 8, 1014, 1017, 62, 1015, 1016]), (617, 3, 13, 810, 0, 0, []), (620, 1, 4, 0, 0, 0, []), (621, 1, 9, 0, 1, 0, []), (622, 1, 0, 1, 0, 0, []), (623, 1, 0, 0, 0, 0, []), (624, 1, 1, 3, 0, 0, []), (625, 1, 4, 0, 0, 1, []), (626, 1, 11, 0, 0, 0, []), (627, 1, 12, 0, 0, 0, []), (628, 3, 14, 635, 0, 0, []), (631, 1, 4, 0, 0, 1, []), (632, 3, 5, 636, 0, 0, []), (635, 1, 4, 0, 0, 0, []), (636, 1, 0, 0, 0, 0, []), (637, 1, 1, 3, 0, 0, []), (638, 1, 4, 0, 0, 2, []), (639, 1, 11, 0, 0, 0, []), (640, 1, 12, 0, 0, 0, []), (641, 3, 6, 146, 3, 0, [90, 1, 7, 652, 655, 54, 653, 654]), (644, 1, 0, 2, 0, 0, []), (645, 1, 0, 0, 0, 0, []), (646, 1, 1, 3, 0, 0, []), (647, 1, 4, 0, 0, 1, []), (648, 1, 11, 0, 0, 0, []), (649, 1, 12, 0, 0, 0, []), (650, 3, 14, 657, 0, 0, []), (653, 1, 4, 0, 0, 1, []), (654, 3, 5, 658, 0, 0, []), (657, 1, 4, 0, 0, 0, []), (658, 1, 0, 0, 0, 0, []), (659, 1, 1, 3, 0, 0, []), (660, 1, 4, 0, 0, 2, []), (661, 1, 11, 0, 0, 0, []), (662, 1, 12, 0, 0, 0, []), (663, 3, 6, 148, 3, 0, [94, 1, 8, 1031, 1034, 62, 1032, 1033]), (666, 3, 13, 810, 0, 0, []), (669, 1, 4, 0, 0, 0, []), (670, 1, 9, 0, 1, 0, []), (671, 1, 0, 1, 0, 0, []), (672, 1, 0, 0, 0, 0, []), (673, 1, 1, 3, 0, 0, []), (674, 1, 4, 0, 0, 1, []), (675, 1, 11, 0, 0, 0, []), (676, 1, 12, 0, 0, 0, []), (677, 3, 6, 154, 2, 0, [95, 1, 7, 669, 672, 54, 670, 671]), (680, 1, 0, 2, 0, 0, []), (681, 1, 0, 0, 0, 0, []), (682, 1, 1, 3, 0, 0, []), (683, 1, 4, 0, 0, 1, []), (684, 1, 11, 0, 0, 0, []), (685, 1, 12, 0, 0, 0, []), (686, 3, 6, 156, 2, 0, [98, 1, 8, 1039, 1042, 62, 1040, 1041]), (689, 3, 13, 810, 0, 0, []), (692, 1, 4, 0, 0, 0, []), (693, 1, 9, 0, 1, 0, []), (694, 1, 0, 1, 0, 0, []), (695, 3, 6, 158, 1, 0, [99, 3, 7, 693, 696, 54, 694, 695]), (698, 2, 35, 4, 0, 0, []), (700, 1, 0, 2, 0, 0, []), (701, 3, 6, 159, 1, 0, [103, 3, 8, 1047, 1050, 62, 1048, 1049]), (704, 2, 35, 6, 0, 0, []), (706, 2, 27, 4, 0, 0, []), (708, 2, 27, 6, 0, 0, []), (710, 1, 32, 0, 0, 0, []), (711, 3, 14, 732, 0, 0, []), (714, 2, 27, 4, 0, 0, []), (716, 2, 27, 4, 0, 0, []), (718, 1, 32, 0, 0, 0, []), (719, 3, 14, 730, 0, 0, []), (722, 2, 27, 6, 0, 0, []), (724, 2, 27, 6, 0, 0, []), (726, 1, 32, 0, 0, 0, []), (727, 3, 14, 732, 1, 0, []), (730, 1, 4, 0, 0, 0, []), (731, 1, 9, 0, 1, 0, []), (732, 3, 5, 810, 0, 0, []), (735, 1, 0, 1, 0, 0, []), (736, 1, 0, 0, 0, 0, []), (737, 1, 1, 3, 0, 0, []), (738, 1, 4, 0, 0, 1, []), (739, 1, 11, 0, 0, 0, []), (740, 1, 12, 0, 0, 0, []), (741, 3, 6, 163, 2, 0, [104, 1, 7, 701, 704, 54, 702, 703]), (744, 1, 0, 2, 0, 0, []), (745, 1, 0, 0, 0, 0, []), (746, 1, 1, 3, 0, 0, []), (747, 1, 4, 0, 0, 1, []), (748, 1, 11, 0, 0, 0, []), (749, 1, 12, 0, 0, 0, []), (750, 3, 6, 166, 2, 0, [107, 1, 8, 1051, 1054, 62, 1052, 1053]), (753, 3, 13, 810, 0, 0, []), (756, 1, 4, 0, 0, 0, []), (757, 1, 9, 0, 1, 0, []), (758, 1, 0, 1, 0, 0, []), (759, 3, 6, 168, 1, 0, [108, 1, 7, 730, 733, 54, 731, 732]), (762, 1, 0, 2, 0, 0, []), (763, 3, 6, 169, 1, 0, [111, 1, 8, 1063, 1066, 62, 1064, 1065]), (766, 3, 13, 810, 0, 0, []), (769, 1, 4, 0, 0, 0, []), (770, 1, 9, 0, 1, 0, []), (771, 1, 0, 1, 0, 0, []), (772, 3, 6, 171, 1, 0, [112, 1, 7, 739, 742, 54, 740, 741]), (775, 1, 0, 2, 0, 0, []), (776, 3, 6, 172, 1, 0, [115, 1, 8, 1067, 1070, 62, 1068, 1069]), (779, 3, 13, 810, 0, 0, []), (782, 1, 4, 0, 0, 0, []), (783, 1, 9, 0, 1, 0, []), (784, 1, 0, 1, 0, 0, []), (785, 3, 6, 173, 1, 0, [116, 1, 7, 747, 750, 54, 748, 749]), (788, 1, 0, 2, 0, 0, []), (789, 3, 6, 174, 1, 0, [119, 1, 8, 1071, 1074, 62, 1072, 1073]), (792, 3, 13, 810, 0, 0, []), (795, 1, 4, 0, 0, 0, []), (796, 1, 9, 0, 1, 0, []), (797, 1, 0, 1, 0, 0, []), (798, 3, 6, 175, 1, 0, [120, 1, 7, 752, 755, 54, 753, 754]), (801, 1, 0, 2, 0, 0, []), (802, 3, 6, 176, 1, 0, [123, 1, 8, 1075, 1078, 62, 1076, 1077]), (805, 3, 13, 810, 0, 0, []), (808, 1, 4, 0, 0, 0, []), (809, 1, 9, 0, 1, 0, []), (810, 3, 15, 3, 0, 4, []), (813, 3, 5, 18, 0, 0, []), (816, 1, 4, 0, 0, 1, []), (817, 1, 9, 0, 1, 0, [])]
def K_177 : pC := [(18, [true, true, true, true]), (283, [true, true, true, true]), (636, [true, true, true, true]), (658, [true, true, true, true])]
def M_0 : pM := (yX5_init, cX5_init, 2, none, 1, 20, T_0, K_0)
def M_1 : pM := (yX7_init, cX7_init, 1, none, 2, 41, T_1, K_1)
def M_2 : pM := (yX1_init, cX1_init, 2, none, 3, 61, T_2, K_2)
def M_3 : pM := (yX2_init, cX2_init, 1, none, 2, 41, T_3, K_3)
def M_4 : pM := (yX0_init, cX0_init, 1, none, 2, 41, T_4, K_4)
def M_5 : pM := (yX6_init, cX6_init, 2, none, 2, 41, T_5, K_5)
def M_6 : pM := (yX4_init, cX4_init, 1, none, 2, 41, T_6, K_6)
def M_7 : pM := (yX9_init, cX9_init, 1, none, 4, 82, T_7, K_7)
def M_8 : pM := (yX10_init, cX10_init, 1, none, 1, 20, T_8, K_8)
def M_9 : pM := (yX9_isBelow, cX9_isBelow, 2, (some FieldType.boolean), 0, 0, T_9, K_9)
def M_10 : pM := (yX5_get, cX5_get, 2, (some FieldType.int), 0, 0, T_10, K_10)
def M_11 : pM := (yX7_slotOf, cX7_slotOf, 3, (some FieldType.int), 1, 21, T_11, K_11)
def M_12 : pM := (yX8_slotAt, cX8_slotAt, 2, (some FieldType.int), 0, 0, T_12, K_12)
def M_13 : pM := (yX1_dropOldest, cX1_dropOldest, 3, none, 0, 0, T_13, K_13)
def M_14 : pM := (yX5_become, cX5_become, 3, none, 1, 21, T_14, K_14)
def M_15 : pM := (yX7_become, cX7_become, 2, none, 2, 43, T_15, K_15)
def M_16 : pM := (yX1_keep, cX1_keep, 2, none, 3, 64, T_16, K_16)
def M_17 : pM := (yX5_put, cX5_put, 3, none, 0, 0, T_17, K_17)
def M_18 : pM := (yX8_withSlot, cX8_withSlot, 3, (some FieldType.int), 0, 0, T_18, K_18)
def M_19 : pM := (yX7_renumber, cX7_renumber, 5, none, 1, 22, T_19, K_19)
def M_20 : pM := (yX7_insert, cX7_insert, 6, none, 2, 46, T_20, K_20)
def M_21 : pM := (yX9_add, cX9_add, 4, (some FieldType.int), 4, 85, T_21, K_21)
def M_22 : pM := (yX10_in, cX10_in, 3, (some FieldType.boolean), 0, 0, T_22, K_22)
def M_23 : pM := (yX10_isPlace, cX10_isPlace, 1, (some FieldType.boolean), 1, 22, T_23, K_23)
def M_24 : pM := (yX10_place, cX10_place, 3, (some FieldType.int), 0, 0, T_24, K_24)
def M_25 : pM := (yX10_looks, cX10_looks, 3, none, 0, 0, T_25, K_25)
def M_26 : pM := (yX10_booksNow, cX10_booksNow, 1, (some FieldType.int), 1, 22, T_26, K_26)
def M_27 : pM := (yX10_remembers, cX10_remembers, 2, none, 0, 0, T_27, K_27)
def M_28 : pM := (yX10_add, cX10_add, 4, (some FieldType.int), 2, 42, T_28, K_28)
def M_29 : pM := (yX7_takeOff, cX7_takeOff, 5, (some FieldType.int), 2, 46, T_29, K_29)
def M_30 : pM := (yX9_remove, cX9_remove, 2, (some FieldType.int), 4, 85, T_30, K_30)
def M_31 : pM := (yX10_remove, cX10_remove, 3, (some FieldType.int), 2, 42, T_31, K_31)
def M_32 : pM := (yX8_isIn, cX8_isIn, 2, (some FieldType.boolean), 0, 0, T_32, K_32)
def M_33 : pM := (yX9_stick, cX9_stick, 3, (some FieldType.int), 4, 85, T_33, K_33)
def M_34 : pM := (yX10_stick, cX10_stick, 2, (some FieldType.int), 2, 42, T_34, K_34)
def M_35 : pM := (yX8_isGap, cX8_isGap, 2, (some FieldType.boolean), 0, 0, T_35, K_35)
def M_36 : pM := (yX8_gapBeside, cX8_gapBeside, 3, (some FieldType.int), 1, 21, T_36, K_36)
def M_37 : pM := (yX8_placeOf, cX8_placeOf, 1, (some FieldType.int), 0, 0, T_37, K_37)
def M_38 : pM := (yX8_isPull, cX8_isPull, 1, (some FieldType.boolean), 0, 0, T_38, K_38)
def M_39 : pM := (yX8_reason, cX8_reason, 5, (some FieldType.int), 1, 21, T_39, K_39)
def M_40 : pM := (yX8_price, cX8_price, 5, (some FieldType.int), 1, 21, T_40, K_40)
def M_41 : pM := (yX8_after, cX8_after, 5, (some FieldType.int), 2, 43, T_41, K_41)
def M_42 : pM := (yX7_tryMove, cX7_tryMove, 3, (some FieldType.int), 3, 67, T_42, K_42)
def M_43 : pM := (yX9_pull, cX9_pull, 4, (some FieldType.int), 4, 89, T_43, K_43)
def M_44 : pM := (yX10_nearestGap, cX10_nearestGap, 3, (some FieldType.int), 0, 0, T_44, K_44)
def M_45 : pM := (yX10_whyNotOf, cX10_whyNotOf, 4, (some FieldType.int), 2, 42, T_45, K_45)
def M_46 : pM := (yX10_makes, cX10_makes, 6, none, 1, 22, T_46, K_46)
def M_47 : pM := (yX10_goesOn, cX10_goesOn, 2, none, 0, 0, T_47, K_47)
def M_48 : pM := (yX10_stands, cX10_stands, 3, none, 0, 0, T_48, K_48)
def M_49 : pM := (yX10_does, cX10_does, 3, (some FieldType.int), 3, 65, T_49, K_49)
def M_50 : pM := (yX10_pull, cX10_pull, 4, (some FieldType.int), 4, 87, T_50, K_50)
def M_51 : pM := (yX9_push, cX9_push, 3, (some FieldType.int), 4, 89, T_51, K_51)
def M_52 : pM := (yX10_push, cX10_push, 3, (some FieldType.int), 4, 87, T_52, K_52)
def M_53 : pM := (yX9_set, cX9_set, 4, (some FieldType.int), 4, 85, T_53, K_53)
def M_54 : pM := (yX10_set, cX10_set, 4, (some FieldType.int), 1, 22, T_54, K_54)
def M_55 : pM := (yX2_write, cX2_write, 2, none, 1, 22, T_55, K_55)
def M_56 : pM := (yX9_append, cX9_append, 2, (some FieldType.int), 2, 43, T_56, K_56)
def M_57 : pM := (yX10_append, cX10_append, 2, (some FieldType.int), 1, 22, T_57, K_57)
def M_58 : pM := (yX9_clear, cX9_clear, 2, (some FieldType.int), 0, 0, T_58, K_58)
def M_59 : pM := (yX10_clear, cX10_clear, 2, (some FieldType.int), 0, 0, T_59, K_59)
def M_60 : pM := (yX2_isKind, cX2_isKind, 1, (some FieldType.boolean), 0, 0, T_60, K_60)
def M_61 : pM := (yX2_isPlaceFor, cX2_isPlaceFor, 2, (some FieldType.boolean), 0, 0, T_61, K_61)
def M_62 : pM := (yX2_programFault, cX2_programFault, 4, (some FieldType.int), 1, 21, T_62, K_62)
def M_63 : pM := (yX2_slotOfSign, cX2_slotOfSign, 2, (some FieldType.int), 2, 43, T_63, K_63)
def M_64 : pM := (yX2_wordFault, cX2_wordFault, 7, (some FieldType.int), 3, 64, T_64, K_64)
def M_65 : pM := (yX9_fault, cX9_fault, 2, (some FieldType.int), 4, 90, T_65, K_65)
def M_66 : pM := (yX10_mostOf, cX10_mostOf, 1, (some FieldType.int), 0, 0, T_66, K_66)
def M_67 : pM := (yX10_faultOfProgram, cX10_faultOfProgram, 3, (some FieldType.int), 1, 22, T_67, K_67)
def M_68 : pM := (yX10_signed, cX10_signed, 4, (some FieldType.int), 0, 0, T_68, K_68)
def M_69 : pM := (yX10_faultOfWord, cX10_faultOfWord, 5, (some FieldType.int), 1, 23, T_69, K_69)
def M_70 : pM := (yX10_fault, cX10_fault, 2, (some FieldType.int), 2, 47, T_70, K_70)
def M_71 : pM := (yX2_readWord, cX2_readWord, 4, (some FieldType.int), 3, 64, T_71, K_71)
def M_72 : pM := (yX3_ways, cX3_ways, 4, (some FieldType.int), 0, 0, T_72, K_72)
def M_73 : pM := (yJ6_bitCount_0f7a4, cJ6_bitCount_0f7a4, 1, (some FieldType.int), 0, 0, T_73, K_73)
def M_74 : pM := (yX3_rankOf, cX3_rankOf, 8, (some FieldType.int), 1, 23, T_74, K_74)
def M_75 : pM := (yX7_rankOfNow, cX7_rankOfNow, 1, (some FieldType.int), 2, 50, T_75, K_75)
def M_76 : pM := (yX9_arrange, cX9_arrange, 1, (some FieldType.int), 4, 90, T_76, K_76)
def M_77 : pM := (yX10_ways, cX10_ways, 4, (some FieldType.int), 0, 0, T_77, K_77)
def M_78 : pM := (yX10_before, cX10_before, 6, (some FieldType.int), 1, 23, T_78, K_78)
def M_79 : pM := (yX10_rankOfThen, cX10_rankOfThen, 3, (some FieldType.int), 2, 48, T_79, K_79)
def M_80 : pM := (yX10_arrange, cX10_arrange, 2, (some FieldType.int), 3, 70, T_80, K_80)
def M_81 : pM := (yX2_steps, cX2_steps, 1, (some FieldType.int), 0, 0, T_81, K_81)
def M_82 : pM := (yX2_moveAt, cX2_moveAt, 4, (some FieldType.int), 1, 21, T_82, K_82)
def M_83 : pM := (yX9_run, cX9_run, 3, (some FieldType.int), 4, 89, T_83, K_83)
def M_84 : pM := (yX10_moveAt, cX10_moveAt, 3, (some FieldType.int), 0, 0, T_84, K_84)
def M_85 : pM := (yX10_run, cX10_run, 3, (some FieldType.int), 4, 87, T_85, K_85)
def M_86 : pM := (yX8_isWrong, cX8_isWrong, 3, (some FieldType.boolean), 0, 0, T_86, K_86)
def M_87 : pM := (yX8_wrongBooks, cX8_wrongBooks, 8, (some FieldType.int), 1, 22, T_87, K_87)
def M_88 : pM := (yX9_at, cX9_at, 4, (some FieldType.int), 2, 49, T_88, K_88)
def M_89 : pM := (yX10_isWrong, cX10_isWrong, 3, (some FieldType.boolean), 0, 0, T_89, K_89)
def M_90 : pM := (yX10_wrongWith, cX10_wrongWith, 6, (some FieldType.int), 1, 22, T_90, K_90)
def M_91 : pM := (yX10_at, cX10_at, 3, (some FieldType.int), 2, 47, T_91, K_91)
def M_92 : pM := (yX9_whyNot, cX9_whyNot, 2, (some FieldType.int), 2, 45, T_92, K_92)
def M_93 : pM := (yX10_whyNot, cX10_whyNot, 2, (some FieldType.int), 3, 65, T_93, K_93)
def M_94 : pM := (yX9_cost, cX9_cost, 2, (some FieldType.int), 2, 45, T_94, K_94)
def M_95 : pM := (yX10_cost, cX10_cost, 3, (some FieldType.int), 4, 86, T_95, K_95)
def M_96 : pM := (yX9_leads, cX9_leads, 2, (some FieldType.int), 3, 67, T_96, K_96)
def M_97 : pM := (yX10_leads, cX10_leads, 3, (some FieldType.int), 4, 86, T_97, K_97)
def M_98 : pM := (yX3_wordsOf, cX3_wordsOf, 1, (some FieldType.int), 1, 23, T_98, K_98)
def M_99 : pM := (yX3_slotBehind, cX3_slotBehind, 4, (some FieldType.int), 1, 21, T_99, K_99)
def M_100 : pM := (yX3_wordAt, cX3_wordAt, 12, (some FieldType.int), 2, 44, T_100, K_100)
def M_101 : pM := (yX9_word, cX9_word, 4, (some FieldType.int), 3, 75, T_101, K_101)
def M_102 : pM := (yX10_words, cX10_words, 1, (some FieldType.int), 1, 23, T_102, K_102)
def M_103 : pM := (yX10_isUsed, cX10_isUsed, 5, (some FieldType.boolean), 0, 0, T_103, K_103)
def M_104 : pM := (yX10_unused, cX10_unused, 5, (some FieldType.int), 1, 24, T_104, K_104)
def M_105 : pM := (yX10_spells, cX10_spells, 9, none, 2, 48, T_105, K_105)
def M_106 : pM := (yX10_word, cX10_word, 3, (some FieldType.int), 3, 76, T_106, K_106)
def M_107 : pM := (yX7_sumOfWeights, cX7_sumOfWeights, 3, (some FieldType.int), 1, 21, T_107, K_107)
def M_108 : pM := (yX8_isInOrder, cX8_isInOrder, 7, (some FieldType.boolean), 1, 22, T_108, K_108)
def M_109 : pM := (yX8_disorder, cX8_disorder, 4, (some FieldType.int), 2, 49, T_109, K_109)
def M_110 : pM := (yX3_risingWordsOf, cX3_risingWordsOf, 2, (some FieldType.int), 2, 43, T_110, K_110)
def M_111 : pM := (yX7_possibleMoves, cX7_possibleMoves, 3, (some FieldType.int), 2, 45, T_111, K_111)
def M_112 : pM := (yX9_countAccounts, cX9_countAccounts, 2, (some FieldType.int), 3, 67, T_112, K_112)
def M_113 : pM := (yX9_count, cX9_count, 2, (some FieldType.int), 4, 88, T_113, K_113)
def M_114 : pM := (yX10_sumOf, cX10_sumOf, 4, (some FieldType.int), 0, 0, T_114, K_114)
def M_115 : pM := (yX10_disorderOfWord, cX10_disorderOfWord, 4, (some FieldType.int), 1, 22, T_115, K_115)
def M_116 : pM := (yX10_isWordInOrder, cX10_isWordInOrder, 3, (some FieldType.boolean), 2, 45, T_116, K_116)
def M_117 : pM := (yX10_rankNow, cX10_rankNow, 2, (some FieldType.int), 3, 70, T_117, K_117)
def M_118 : pM := (yX10_wordsInOrder, cX10_wordsInOrder, 3, (some FieldType.int), 3, 76, T_118, K_118)
def M_119 : pM := (yX10_movesNow, cX10_movesNow, 3, (some FieldType.int), 3, 65, T_119, K_119)
def M_120 : pM := (yX10_count, cX10_count, 2, (some FieldType.int), 4, 98, T_120, K_120)
def M_121 : pM := (yX0_firstNode, cX0_firstNode, 3, (some FieldType.int), 2, 43, T_121, K_121)
def M_122 : pM := (yX0_drawOnward, cX0_drawOnward, 8, none, 3, 75, T_122, K_122)
def M_123 : pM := (yX0_shareOut, cX0_shareOut, 6, none, 1, 22, T_123, K_123)
def M_124 : pM := (yX0_drawInto, cX0_drawInto, 5, none, 1, 22, T_124, K_124)
def M_125 : pM := (yX0_draw, cX0_draw, 4, none, 4, 102, T_125, K_125)
def M_126 : pM := (yX9_drawnSearch, cX9_drawnSearch, 1, (some (FieldType.object "ShelfSpines$Search")), 5, 125, T_126, K_126)
def M_127 : pM := (yX7_keyOfMoves, cX7_keyOfMoves, 1, (some FieldType.int), 0, 0, T_127, K_127)
def M_128 : pM := (yX6_startAtOrder, cX6_startAtOrder, 7, none, 2, 48, T_128, K_128)
def M_129 : pM := (yX0_isHeld, cX0_isHeld, 4, (some FieldType.boolean), 1, 21, T_129, K_129)
def M_130 : pM := (yX6_comeFrom, cX6_comeFrom, 8, (some FieldType.int), 2, 44, T_130, K_130)
def M_131 : pM := (yX6_findFewest, cX6_findFewest, 7, none, 3, 74, T_131, K_131)
def M_132 : pM := (yX7_keyOfCosts, cX7_keyOfCosts, 3, (some FieldType.int), 1, 21, T_132, K_132)
def M_133 : pM := (yX6_offerBack, cX6_offerBack, 11, (some FieldType.int), 2, 45, T_133, K_133)
def M_134 : pM := (yX6_settleCosts, cX6_settleCosts, 8, none, 3, 75, T_134, K_134)
def M_135 : pM := (yX6_lowerCosts, cX6_lowerCosts, 8, none, 3, 75, T_135, K_135)
def M_136 : pM := (yX6_findWays, cX6_findWays, 3, (some (FieldType.object "ShelfSpines$Row")), 4, 102, T_136, K_136)
def M_137 : pM := (yX6_wayFrom, cX6_wayFrom, 4, (some FieldType.int), 5, 124, T_137, K_137)
def M_138 : pM := (yX9_least, cX9_least, 4, (some FieldType.int), 6, 147, T_138, K_138)
def M_139 : pM := (yX10_findsMoves, cX10_findsMoves, 4, none, 3, 76, T_139, K_139)
def M_140 : pM := (yX10_lessens, cX10_lessens, 6, (some FieldType.boolean), 0, 0, T_140, K_140)
def M_141 : pM := (yX10_solves, cX10_solves, 3, none, 4, 99, T_141, K_141)
def M_142 : pM := (yX10_least, cX10_least, 4, (some FieldType.int), 5, 121, T_142, K_142)
def M_143 : pM := (yX0_behind, cX0_behind, 3, (some FieldType.int), 1, 21, T_143, K_143)
def M_144 : pM := (yX6_nextMove, cX6_nextMove, 8, (some FieldType.int), 2, 45, T_144, K_144)
def M_145 : pM := (yX6_plannedMove, cX6_plannedMove, 8, (some FieldType.int), 5, 124, T_145, K_145)
def M_146 : pM := (yX9_plan, cX9_plan, 4, (some FieldType.int), 6, 151, T_146, K_146)
def M_147 : pM := (yX10_first, cX10_first, 6, (some FieldType.int), 0, 0, T_147, K_147)
def M_148 : pM := (yX10_plan, cX10_plan, 6, (some FieldType.int), 5, 121, T_148, K_148)
def M_149 : pM := (yX6_savableWords, cX6_savableWords, 6, (some FieldType.int), 5, 124, T_149, K_149)
def M_150 : pM := (yX6_greatestWay, cX6_greatestWay, 7, (some FieldType.int), 5, 124, T_150, K_150)
def M_151 : pM := (yX6_worstRank, cX6_worstRank, 7, (some FieldType.int), 5, 124, T_151, K_151)
def M_152 : pM := (yX6_reachOn, cX6_reachOn, 7, (some FieldType.int), 2, 44, T_152, K_152)
def M_153 : pM := (yX6_reach, cX6_reach, 7, (some FieldType.int), 3, 70, T_153, K_153)
def M_154 : pM := (yX9_all, cX9_all, 2, (some FieldType.int), 6, 150, T_154, K_154)
def M_155 : pM := (yX10_reached, cX10_reached, 5, (some FieldType.int), 2, 43, T_155, K_155)
def M_156 : pM := (yX10_all, cX10_all, 9, (some FieldType.int), 5, 121, T_156, K_156)
def M_157 : pM := (yX6_sumOfWays, cX6_sumOfWays, 6, (some FieldType.int), 5, 124, T_157, K_157)
def M_158 : pM := (yX9_mean, cX9_mean, 2, (some FieldType.double), 6, 149, T_158, K_158)
def M_159 : pM := (yX10_mean, cX10_mean, 4, (some FieldType.double), 5, 121, T_159, K_159)
def M_160 : pM := (yX4_start, cX4_start, 3, none, 3, 72, T_160, K_160)
def M_161 : pM := (yX4_goRound, cX4_goRound, 5, none, 3, 67, T_161, K_161)
def M_162 : pM := (yX4_follow, cX4_follow, 6, none, 4, 94, T_162, K_162)
def M_163 : pM := (yX9_round, cX9_round, 2, (some FieldType.int), 5, 119, T_163, K_163)
def M_164 : pM := (yX10_rounds, cX10_rounds, 3, (some FieldType.int), 3, 65, T_164, K_164)
def M_165 : pM := (yX10_rankOfWord, cX10_rankOfWord, 2, (some FieldType.int), 3, 70, T_165, K_165)
def M_166 : pM := (yX10_round, cX10_round, 8, (some FieldType.int), 4, 91, T_166, K_166)
def M_167 : pM := (yX6_wayWith, cX6_wayWith, 6, (some FieldType.int), 4, 96, T_167, K_167)
def M_168 : pM := (yX9_loosen, cX9_loosen, 6, (some FieldType.int), 6, 145, T_168, K_168)
def M_169 : pM := (yX10_loosen, cX10_loosen, 6, (some FieldType.int), 5, 121, T_169, K_169)
def M_170 : pM := (yX1_giveBack, cX1_giveBack, 3, none, 3, 64, T_170, K_170)
def M_171 : pM := (yX9_undo, cX9_undo, 1, (some FieldType.int), 4, 86, T_171, K_171)
def M_172 : pM := (yX10_undo, cX10_undo, 2, (some FieldType.int), 0, 0, T_172, K_172)
def M_173 : pM := (yX9_save, cX9_save, 1, (some FieldType.int), 3, 70, T_173, K_173)
def M_174 : pM := (yX10_save, cX10_save, 2, (some FieldType.int), 4, 91, T_174, K_174)
def M_175 : pM := (yX9_restore, cX9_restore, 1, (some FieldType.int), 4, 85, T_175, K_175)
def M_176 : pM := (yX10_restore, cX10_restore, 2, (some FieldType.int), 4, 91, T_176, K_176)
def M_177 : pM := (yL_law, cL_law, 8, (some FieldType.boolean), 7, 174, T_177, K_177)
def pMs : List pM := [M_0, M_1, M_2, M_3, M_4, M_5, M_6, M_7, M_8, M_9, M_10, M_11, M_12, M_13, M_14, M_15, M_16, M_17, M_18, M_19, M_20, M_21, M_22, M_23, M_24, M_25, M_26, M_27, M_28, M_29, M_30, M_31, M_32, M_33, M_34, M_35, M_36, M_37, M_38, M_39, M_40, M_41, M_42, M_43, M_44, M_45, M_46, M_47, M_48, M_49, M_50, M_51, M_52, M_53, M_54, M_55, M_56, M_57, M_58, M_59, M_60, M_61, M_62, M_63, M_64, M_65, M_66, M_67, M_68, M_69, M_70, M_71, M_72, M_73, M_74, M_75, M_76, M_77, M_78, M_79, M_80, M_81, M_82, M_83, M_84, M_85, M_86, M_87, M_88, M_89, M_90, M_91, M_92, M_93, M_94, M_95, M_96, M_97, M_98, M_99, M_100, M_101, M_102, M_103, M_104, M_105, M_106, M_107, M_108, M_109, M_110, M_111, M_112, M_113, M_114, M_115, M_116, M_117, M_118, M_119, M_120, M_121, M_122, M_123, M_124, M_125, M_126, M_127, M_128, M_129, M_130, M_131, M_132, M_133, M_134, M_135, M_136, M_137, M_138, M_139, M_140, M_141, M_142, M_143, M_144, M_145, M_146, M_147, M_148, M_149, M_150, M_151, M_152, M_153, M_154, M_155, M_156, M_157, M_158, M_159, M_160, M_161, M_162, M_163, M_164, M_165, M_166, M_167, M_168, M_169, M_170, M_171, M_172, M_173, M_174, M_175, M_176, M_177]
end
section
def rI (x : Int32) (h : pH) : pR := some (some (.int x), h)
def rV (h : pH) : pR := some (none, h)
def rR (k : Nat) (h : pH) : pR := some (some (.ref k), h)
def rD (d : UInt64) (h : pH) : pR := some (some (.double d), h)
noncomputable def f_R_get (k0 : Nat) (x1 : Int32) (h : pH) : pR := run pMs none 10 0 [some (.ref k0), some (.int x1)] [] h
set_option maxRecDepth 100000 in
theorem e_R_get (k0 : Nat) (x1 : Int32) (h : pH) : f_R_get k0 x1 h =
    if x1 < 0 then
    (rI (0 : Int32) h)
    else
    (oo none (hR h 4 k0 0) fun k_1 =>
      oo none (hN h k_1) fun x_2 =>
      if x_2 ≤ x1 then
      (rI (0 : Int32) h)
      else
      (oo none (hR h 4 k0 0) fun k_3 =>
        oo none (hA h k_3 x1) fun x_4 =>
        rI x_4 h)) := (exq_run (M := M_10) rfl 14 _ _ _ _).symm.trans rfl
noncomputable def f_N_slotAt (x0 : Int32) (x1 : Int32) (h : pH) : pR := run pMs none 12 0 [some (.int x0), some (.int x1)] [] h
theorem e_N_slotAt (x0 : Int32) (x1 : Int32) (h : pH) : f_N_slotAt x0 x1 h =
    rI ((ius x0 ((3 : Int32) * x1)) &&& (7 : Int32)) h := (exq_run (M := M_12) rfl 9 _ _ _ _).symm.trans rfl
noncomputable def f_R_become (k0 : Nat) (k1 : Nat) (h : pH) : pR := run pMs none 14 0 [some (.ref k0), some (.ref k1)] [] h
noncomputable def f_R_become_2 (k0 : Nat) (k1 : Nat) (x2 : Int32) (h : pH) : pR := run pMs none 14 2 [some (.ref k0), some (.ref k1), some (.int x2)] [] h
theorem e_R_become (k0 : Nat) (k1 : Nat) (h : pH) : f_R_become k0 k1 h =
    (f_R_become_2 k0 k1 (0 : Int32) h) := (exq_run (M := M_14) rfl 3 _ _ _ _).symm.trans rfl
set_option maxRecDepth 100000 in
theorem e_R_become_2 (k0 : Nat) (k1 : Nat) (x2 : Int32) (h : pH) : f_R_become_2 k0 k1 x2 h =
    oo none (hR h 4 k0 0) fun k_1 =>
    oo none (hN h k_1) fun x_2 =>
    if x_2 ≤ x2 then
    (rV h)
    else
    (oo none (hR h 4 k0 0) fun k_3 =>
      if kO h 4 k1 = true then (cI (f_R_get k1 x2 h) fun x_5 h_4 =>
      if bA h_4 k_3 x2 = true then
      ((f_R_become_2 k0 k1 (x2 + 1) (sI h_4 k_3 (Int32.toNatClampNeg x2) x_5)))
      else none) else none) := (exq_run (M := M_14) rfl 15 _ _ _ _).symm.trans rfl
noncomputable def f_R_put (k0 : Nat) (x1 : Int32) (x2 : Int32) (h : pH) : pR := run pMs none 17 0 [some (.ref k0), some (.int x1), some (.int x2)] [] h
set_option maxRecDepth 100000 in
theorem e_R_put (k0 : Nat) (x1 : Int32) (x2 : Int32) (h : pH) : f_R_put k0 x1 x2 h =
    if x1 < 0 then
    (rV h)
    else
    (oo none (hR h 4 k0 0) fun k_1 =>
      oo none (hN h k_1) fun x_2 =>
      if x_2 ≤ x1 then
      (rV h)
      else
      (oo none (hR h 4 k0 0) fun k_3 =>
        if bA h k_3 x1 = true then
        (rV (sI h k_3 (Int32.toNatClampNeg x1) x2))
        else none)) := (exq_run (M := M_17) rfl 14 _ _ _ _).symm.trans rfl
noncomputable def f_N_withSlot (x0 : Int32) (x1 : Int32) (x2 : Int32) (h : pH) : pR := run pMs none 18 0 [some (.int x0), some (.int x1), some (.int x2)] [] h
set_option maxRecDepth 100000 in
theorem e_N_withSlot (x0 : Int32) (x1 : Int32) (x2 : Int32) (h : pH) : f_N_withSlot x0 x1 x2 h =
    rI ((x0 &&& (((7 : Int32) <<< (((3 : Int32) * x1) &&& 31)) ^^^ (-1 : Int32))) ||| (x2 <<< (((3 : Int32) * x1) &&& 31))) h := (exq_run (M := M_18) rfl 17 _ _ _ _).symm.trans rfl
noncomputable def f_N_isIn (x0 : Int32) (x1 : Int32) (h : pH) : pR := run pMs none 32 0 [some (.int x0), some (.int x1)] [] h
theorem e_N_isIn (x0 : Int32) (x1 : Int32) (h : pH) : f_N_isIn x0 x1 h =
    if ((ius x0 x1) &&& (1 : Int32)) = (1 : Int32) then
    (rI (1 : Int32) h)
    else
    (rI (0 : Int32) h) := (exq_run (M := M_32) rfl 11 _ _ _ _).symm.trans rfl
noncomputable def f_N_isGap (x0 : Int32) (x1 : Int32) (h : pH) : pR := run pMs none 35 0 [some (.int x0), some (.int x1)] [] h
set_option maxRecDepth 100000 in
theorem e_N_isGap (x0 : Int32) (x1 : Int32) (h : pH) : f_N_isGap x0 x1 h =
    if x1 < 0 then
    (rI (0 : Int32) h)
    else
    (if (7 : Int32) ≤ x1 then
      (rI (0 : Int32) h)
      else
      (if ((ius x0 ((3 : Int32) * x1)) &&& (7 : Int32)) = 0 then
        (rI (1 : Int32) h)
        else
        (rI (0 : Int32) h))) := (exq_run (M := M_35) rfl 17 _ _ _ _).symm.trans rfl
noncomputable def f_N_gapBeside (x0 : Int32) (x1 : Int32) (h : pH) : pR := run pMs none 36 0 [some (.int x0), some (.int x1)] [] h
noncomputable def f_N_gapBeside_2 (x0 : Int32) (x1 : Int32) (x2 : Int32) (h : pH) : pR := run pMs none 36 2 [some (.int x0), some (.int x1), some (.int x2)] [] h
theorem e_N_gapBeside (x0 : Int32) (x1 : Int32) (h : pH) : f_N_gapBeside x0 x1 h =
    (f_N_gapBeside_2 x0 x1 (1 : Int32) h) := (exq_run (M := M_36) rfl 3 _ _ _ _).symm.trans rfl
set_option maxRecDepth 100000 in
theorem e_N_gapBeside_2 (x0 : Int32) (x1 : Int32) (x2 : Int32) (h : pH) : f_N_gapBeside_2 x0 x1 x2 h =
    if (7 : Int32) ≤ x2 then
    (rI x1 h)
    else
    (cI (f_N_isGap x0 (x1 - x2) h) fun x_2 h_1 =>
      if x_2 = 0 then
      (cI (f_N_isGap x0 (x1 + x2) h_1) fun x_4 h_3 =>
        if x_4 = 0 then
        ((f_N_gapBeside_2 x0 x1 (x2 + 1) h_3))
        else
        (rI (x1 + x2) h_3))
      else
      (rI (x1 - x2) h_1)) := (exq_run (M := M_36) rfl 20 _ _ _ _).symm.trans rfl
noncomputable def f_N_placeOf (x0 : Int32) (h : pH) : pR := run pMs none 37 0 [some (.int x0)] [] h
theorem e_N_placeOf (x0 : Int32) (h : pH) : f_N_placeOf x0 h =
    if (7 : Int32) ≤ x0 then
    (if (13 : Int32) ≤ x0 then
      (rI (x0 - (13 : Int32)) h)
      else
      (rI (x0 - (7 : Int32)) h))
    else
    (rI x0 h) := (exq_run (M := M_37) rfl 12 _ _ _ _).symm.trans rfl
noncomputable def f_N_isPull (x0 : Int32) (h : pH) : pR := run pMs none 38 0 [some (.int x0)] [] h
theorem e_N_isPull (x0 : Int32) (h : pH) : f_N_isPull x0 h =
    if (7 : Int32) ≤ x0 then
    (rI (0 : Int32) h)
    else
    (rI (1 : Int32) h) := (exq_run (M := M_38) rfl 7 _ _ _ _).symm.trans rfl
noncomputable def f_N_reason (x0 : Int32) (x1 : Int32) (x2 : Int32) (h : pH) : pR := run pMs none 39 0 [some (.int x0), some (.int x1), some (.int x2)] [] h
set_option maxRecDepth 100000 in
theorem e_N_reason (x0 : Int32) (x1 : Int32) (x2 : Int32) (h : pH) : f_N_reason x0 x1 x2 h =
    cI (f_N_placeOf x2 h) fun x_2 h_1 =>
    cI (f_N_slotAt x0 x_2 h_1) fun x_4 h_3 =>
    cI (f_N_isPull x2 h_3) fun x_6 h_5 =>
    if x_6 = 0 then
    (if x_4 = 0 then
      (rI (3 : Int32) h_5)
      else
      (cI (f_N_slotAt x0 (x_2 + (1 : Int32)) h_5) fun x_8 h_7 =>
        if x_8 = 0 then
        (rI (3 : Int32) h_7)
        else
        (if (13 : Int32) ≤ x2 then
          (cI (f_N_isGap x0 (x_2 - (1 : Int32)) h_7) fun x_10 h_9 =>
            if x_10 = 0 then
            (rI (4 : Int32) h_9)
            else
            (rI (0 : Int32) h_9))
          else
          (cI (f_N_isGap x0 (x_2 + (2 : Int32)) h_7) fun x_12 h_11 =>
            if x_12 = 0 then
            (rI (4 : Int32) h_11)
            else
            (rI (0 : Int32) h_11)))))
    else
    (if x_4 = 0 then
      (rI (1 : Int32) h_5)
      else
      (cI (f_N_isIn x1 x_4 h_5) fun x_14 h_13 =>
        if x_14 = 0 then
        (rI (0 : Int32) h_13)
        else
        (rI (2 : Int32) h_13))) := (exq_run (M := M_39) rfl 32 _ _ _ _).symm.trans rfl
noncomputable def f_N_price (x0 : Int32) (k1 : Nat) (x2 : Int32) (h : pH) : pR := run pMs none 40 0 [some (.int x0), some (.ref k1), some (.int x2)] [] h
set_option maxRecDepth 100000 in
theorem e_N_price (x0 : Int32) (k1 : Nat) (x2 : Int32) (h : pH) : f_N_price x0 k1 x2 h =
    cI (f_N_placeOf x2 h) fun x_2 h_1 =>
    cI (f_N_slotAt x0 x_2 h_1) fun x_4 h_3 =>
    if kO h_3 4 k1 = true then (cI (f_R_get k1 x_4 h_3) fun x_6 h_5 =>
    cI (f_N_isPull x2 h_5) fun x_8 h_7 =>
    if x_8 = 0 then
    (cI (f_N_slotAt x0 (x_2 + (1 : Int32)) h_7) fun x_10 h_9 =>
      if kO h_9 4 k1 = true then (cI (f_R_get k1 x_10 h_9) fun x_12 h_11 =>
      rI (imax x_6 x_12) h_11) else none)
    else
    (rI x_6 h_7)) else none := (exq_run (M := M_40) rfl 23 _ _ _ _).symm.trans rfl
noncomputable def f_N_after (x0 : Int32) (x1 : Int32) (h : pH) : pR := run pMs none 41 0 [some (.int x0), some (.int x1)] [] h
set_option maxRecDepth 100000 in
theorem e_N_after (x0 : Int32) (x1 : Int32) (h : pH) : f_N_after x0 x1 h =
    cI (f_N_placeOf x1 h) fun x_2 h_1 =>
    cI (f_N_slotAt x0 x_2 h_1) fun x_4 h_3 =>
    cI (f_N_isPull x1 h_3) fun x_6 h_5 =>
    if x_6 = 0 then
    (cI (f_N_slotAt x0 (x_2 + (1 : Int32)) h_5) fun x_8 h_7 =>
      if (13 : Int32) ≤ x1 then
      (cI (f_N_withSlot x0 (x_2 + (1 : Int32)) (0 : Int32) h_7) fun x_10 h_9 =>
        cI (f_N_withSlot x_10 (x_2 - (1 : Int32)) x_4 h_9) fun x_12 h_11 =>
        cI (f_N_withSlot x_12 x_2 x_8 h_11) fun x_14 h_13 =>
        rI x_14 h_13)
      else
      (cI (f_N_withSlot x0 x_2 (0 : Int32) h_7) fun x_16 h_15 =>
        cI (f_N_withSlot x_16 (x_2 + (1 : Int32)) x_4 h_15) fun x_18 h_17 =>
        cI (f_N_withSlot x_18 (x_2 + (2 : Int32)) x_8 h_17) fun x_20 h_19 =>
        rI x_20 h_19))
    else
    (cI (f_N_withSlot x0 x_2 (0 : Int32) h_5) fun x_22 h_21 =>
      cI (f_N_gapBeside x0 x_2 h_21) fun x_24 h_23 =>
      cI (f_N_withSlot x_22 x_24 x_4 h_23) fun x_26 h_25 =>
      rI x_26 h_25) := (exq_run (M := M_41) rfl 35 _ _ _ _).symm.trans rfl
noncomputable def f_K_ways (x0 : Int32) (x1 : Int32) (h : pH) : pR := run pMs none 72 0 [some (.int x0), some (.int x1)] [] h
noncomputable def f_K_ways_6 (x0 : Int32) (x1 : Int32) (x2 : Int32) (x3 : Int32) (h : pH) : pR := run pMs none 72 6 [some (.int x0), some (.int x1), some (.int x2), some (.int x3)] [] h
theorem e_K_ways (x0 : Int32) (x1 : Int32) (h : pH) : f_K_ways x0 x1 h =
    (f_K_ways_6 x0 x1 (1 : Int32) (x0 + (1 : Int32)) h) := (exq_run (M := M_72) rfl 7 _ _ _ _).symm.trans rfl
theorem e_K_ways_6 (x0 : Int32) (x1 : Int32) (x2 : Int32) (x3 : Int32) (h : pH) : f_K_ways_6 x0 x1 x2 x3 h =
    if (x0 + x1) < x3 then
    (rI x2 h)
    else
    ((f_K_ways_6 x0 x1 (x2 * x3) (x3 + 1) h)) := (exq_run (M := M_72) rfl 12 _ _ _ _).symm.trans rfl
noncomputable def f_J_bitCount (x0 : Int32) (h : pH) : pR := run pMs none 73 0 [some (.int x0)] [] h
set_option maxRecDepth 100000 in
theorem e_J_bitCount (x0 : Int32) (h : pH) : f_J_bitCount x0 h =
    rI ((((((((x0 - ((ius x0 (1 : Int32)) &&& (1431655765 : Int32))) &&& (858993459 : Int32)) + ((ius (x0 - ((ius x0 (1 : Int32)) &&& (1431655765 : Int32))) (2 : Int32)) &&& (858993459 : Int32))) + (ius (((x0 - ((ius x0 (1 : Int32)) &&& (1431655765 : Int32))) &&& (858993459 : Int32)) + ((ius (x0 - ((ius x0 (1 : Int32)) &&& (1431655765 : Int32))) (2 : Int32)) &&& (858993459 : Int32))) (4 : Int32))) &&& (252645135 : Int32)) + (ius (((((x0 - ((ius x0 (1 : Int32)) &&& (1431655765 : Int32))) &&& (858993459 : Int32)) + ((ius (x0 - ((ius x0 (1 : Int32)) &&& (1431655765 : Int32))) (2 : Int32)) &&& (858993459 : Int32))) + (ius (((x0 - ((ius x0 (1 : Int32)) &&& (1431655765 : Int32))) &&& (858993459 : Int32)) + ((ius (x0 - ((ius x0 (1 : Int32)) &&& (1431655765 : Int32))) (2 : Int32)) &&& (858993459 : Int32))) (4 : Int32))) &&& (252645135 : Int32)) (8 : Int32))) + (ius ((((((x0 - ((ius x0 (1 : Int32)) &&& (1431655765 : Int32))) &&& (858993459 : Int32)) + ((ius (x0 - ((ius x0 (1 : Int32)) &&& (1431655765 : Int32))) (2 : Int32)) &&& (858993459 : Int32))) + (ius (((x0 - ((ius x0 (1 : Int32)) &&& (1431655765 : Int32))) &&& (858993459 : Int32)) + ((ius (x0 - ((ius x0 (1 : Int32)) &&& (1431655765 : Int32))) (2 : Int32)) &&& (858993459 : Int32))) (4 : Int32))) &&& (252645135 : Int32)) + (ius (((((x0 - ((ius x0 (1 : Int32)) &&& (1431655765 : Int32))) &&& (858993459 : Int32)) + ((ius (x0 - ((ius x0 (1 : Int32)) &&& (1431655765 : Int32))) (2 : Int32)) &&& (858993459 : Int32))) + (ius (((x0 - ((ius x0 (1 : Int32)) &&& (1431655765 : Int32))) &&& (858993459 : Int32)) + ((ius (x0 - ((ius x0 (1 : Int32)) &&& (1431655765 : Int32))) (2 : Int32)) &&& (858993459 : Int32))) (4 : Int32))) &&& (252645135 : Int32)) (8 : Int32))) (16 : Int32))) &&& (63 : Int32)) h := (exq_run (M := M_73) rfl 43 _ _ _ _).symm.trans rfl
noncomputable def f_K_rankOf (x0 : Int32) (x1 : Int32) (h : pH) : pR := run pMs none 74 0 [some (.int x0), some (.int x1)] [] h
noncomputable def f_K_rankOf_22 (x0 : Int32) (x2 : Int32) (x3 : Int32) (x4 : Int32) (x5 : Int32) (x6 : Int32) (h : pH) : pR := run pMs none 74 22 [some (.int x0), none, some (.int x2), some (.int x3), some (.int x4), some (.int x5), some (.int x6)] [] h
noncomputable def f_K_rankOf_64 (x0 : Int32) (x2 : Int32) (x3 : Int32) (x4 : Int32) (x5 : Int32) (x6 : Int32) (x7 : Int32) (h : pH) : pR := run pMs none 74 64 [some (.int x0), none, some (.int x2), some (.int x3), some (.int x4), some (.int x5), some (.int x6), some (.int x7)] [] h
set_option maxRecDepth 100000 in
theorem e_K_rankOf (x0 : Int32) (x1 : Int32) (h : pH) : f_K_rankOf x0 x1 h =
    (f_K_rankOf_22 x0 ((7 : Int32) - x1) x1 (((1 : Int32) <<< ((x1 + (1 : Int32)) &&& 31)) - (2 : Int32)) (0 : Int32) (0 : Int32) h) := (exq_run (M := M_74) rfl 19 _ _ _ _).symm.trans rfl
set_option maxRecDepth 100000 in
theorem e_K_rankOf_22 (x0 : Int32) (x2 : Int32) (x3 : Int32) (x4 : Int32) (x5 : Int32) (x6 : Int32) (h : pH) : f_K_rankOf_22 x0 x2 x3 x4 x5 x6 h =
    if (7 : Int32) ≤ x6 then
    (rI x5 h)
    else
    (cI (f_N_slotAt x0 x6 h) fun x_2 h_1 =>
      if x_2 = 0 then
      ((f_K_rankOf_22 x0 (x2 + (-1)) x3 x4 x5 (x6 + 1) h_1))
      else
      (if x2 ≤ 0 then
        ((f_K_rankOf_64 x0 x2 x3 x4 x5 x6 x_2 h_1))
        else
        (cI (f_K_ways (x2 - (1 : Int32)) x3 h_1) fun x_4 h_3 =>
          (f_K_rankOf_64 x0 x2 x3 x4 (x5 + x_4) x6 x_2 h_3)))) := (exq_run (M := M_74) rfl 20 _ _ _ _).symm.trans rfl
set_option maxRecDepth 100000 in
theorem e_K_rankOf_64 (x0 : Int32) (x2 : Int32) (x3 : Int32) (x4 : Int32) (x5 : Int32) (x6 : Int32) (x7 : Int32) (h : pH) : f_K_rankOf_64 x0 x2 x3 x4 x5 x6 x7 h =
    cI (f_J_bitCount (x4 &&& (((1 : Int32) <<< (x7 &&& 31)) - (1 : Int32))) h) fun x_2 h_1 =>
    cI (f_K_ways x2 (x3 + (-1)) h_1) fun x_4 h_3 =>
    (f_K_rankOf_22 x0 x2 (x3 + (-1)) (x4 &&& (((1 : Int32) <<< (x7 &&& 31)) ^^^ (-1 : Int32))) (x5 + (x_2 * x_4)) (x6 + 1) h_3) := (exq_run (M := M_74) rfl 27 _ _ _ _).symm.trans rfl
noncomputable def f_N_isWrong (x0 : Int32) (x1 : Int32) (x2 : Int32) (h : pH) : pR := run pMs none 86 0 [some (.int x0), some (.int x1), some (.int x2)] [] h
set_option maxRecDepth 100000 in
theorem e_N_isWrong (x0 : Int32) (x1 : Int32) (x2 : Int32) (h : pH) : f_N_isWrong x0 x1 x2 h =
    if x0 = 0 then
    (rI (0 : Int32) h)
    else
    (if x1 = 0 then
      (rI (0 : Int32) h)
      else
      (if x2 = (1 : Int32) then
        (if x1 ≤ x0 then
          (rI (0 : Int32) h)
          else
          (rI (1 : Int32) h))
        else
        (if x0 ≤ x1 then
          (rI (0 : Int32) h)
          else
          (rI (1 : Int32) h)))) := (exq_run (M := M_86) rfl 15 _ _ _ _).symm.trans rfl
noncomputable def f_N_wrongBooks (x0 : Int32) (x1 : Int32) (x2 : Int32) (h : pH) : pR := run pMs none 87 0 [some (.int x0), some (.int x1), some (.int x2)] [] h
noncomputable def f_N_wrongBooks_12 (x0 : Int32) (x1 : Int32) (x2 : Int32) (x3 : Int32) (x4 : Int32) (x5 : Int32) (h : pH) : pR := run pMs none 87 12 [some (.int x0), some (.int x1), some (.int x2), some (.int x3), some (.int x4), some (.int x5)] [] h
noncomputable def f_N_wrongBooks_35 (x0 : Int32) (x1 : Int32) (x2 : Int32) (x3 : Int32) (x4 : Int32) (x5 : Int32) (t0 : Int32) (h : pH) : pR := run pMs none 87 35 [some (.int x0), some (.int x1), some (.int x2), some (.int x3), some (.int x4), some (.int x5)] [.int t0] h
noncomputable def f_N_wrongBooks_53 (x0 : Int32) (x1 : Int32) (x2 : Int32) (x3 : Int32) (x4 : Int32) (x5 : Int32) (x6 : Int32) (t0 : Int32) (h : pH) : pR := run pMs none 87 53 [some (.int x0), some (.int x1), some (.int x2), some (.int x3), some (.int x4), some (.int x5), some (.int x6)] [.int t0] h
theorem e_N_wrongBooks (x0 : Int32) (x1 : Int32) (x2 : Int32) (h : pH) : f_N_wrongBooks x0 x1 x2 h =
    cI (f_N_slotAt x0 x1 h) fun x_2 h_1 =>
    (f_N_wrongBooks_12 x0 x1 x2 x_2 (0 : Int32) (0 : Int32) h_1) := (exq_run (M := M_87) rfl 9 _ _ _ _).symm.trans rfl
theorem e_N_wrongBooks_12 (x0 : Int32) (x1 : Int32) (x2 : Int32) (x3 : Int32) (x4 : Int32) (x5 : Int32) (h : pH) : f_N_wrongBooks_12 x0 x1 x2 x3 x4 x5 h =
    if (7 : Int32) ≤ x5 then
    (rI x4 h)
    else
    (if x1 ≤ x5 then
      ((f_N_wrongBooks_35 x0 x1 x2 x3 x4 x5 x3 h))
      else
      (cI (f_N_slotAt x0 x5 h) fun x_2 h_1 =>
        (f_N_wrongBooks_35 x0 x1 x2 x3 x4 x5 x_2 h_1))) := (exq_run (M := M_87) rfl 11 _ _ _ _).symm.trans rfl
theorem e_N_wrongBooks_35 (x0 : Int32) (x1 : Int32) (x2 : Int32) (x3 : Int32) (x4 : Int32) (x5 : Int32) (t0 : Int32) (h : pH) : f_N_wrongBooks_35 x0 x1 x2 x3 x4 x5 t0 h =
    if x1 ≤ x5 then
    (cI (f_N_slotAt x0 x5 h) fun x_2 h_1 =>
      (f_N_wrongBooks_53 x0 x1 x2 x3 x4 x5 t0 x_2 h_1))
    else
    ((f_N_wrongBooks_53 x0 x1 x2 x3 x4 x5 t0 x3 h)) := (exq_run (M := M_87) rfl 8 _ _ _ _).symm.trans rfl
theorem e_N_wrongBooks_53 (x0 : Int32) (x1 : Int32) (x2 : Int32) (x3 : Int32) (x4 : Int32) (x5 : Int32) (x6 : Int32) (t0 : Int32) (h : pH) : f_N_wrongBooks_53 x0 x1 x2 x3 x4 x5 x6 t0 h =
    cI (f_N_isWrong x6 t0 x2 h) fun x_2 h_1 =>
    if x_2 = 0 then
    ((f_N_wrongBooks_12 x0 x1 x2 x3 x4 (x5 + 1) h_1))
    else
    ((f_N_wrongBooks_12 x0 x1 x2 x3 (x4 + 1) (x5 + 1) h_1)) := (exq_run (M := M_87) rfl 10 _ _ _ _).symm.trans rfl
noncomputable def f_K_wordsOf (x0 : Int32) (h : pH) : pR := run pMs none 98 0 [some (.int x0)] [] h
theorem e_K_wordsOf (x0 : Int32) (h : pH) : f_K_wordsOf x0 h =
    cI (f_K_ways ((7 : Int32) - x0) x0 h) fun x_2 h_1 =>
    rI x_2 h_1 := (exq_run (M := M_98) rfl 7 _ _ _ _).symm.trans rfl
noncomputable def f_K_slotBehind (x0 : Int32) (x1 : Int32) (h : pH) : pR := run pMs none 99 0 [some (.int x0), some (.int x1)] [] h
noncomputable def f_K_slotBehind_4 (x0 : Int32) (x1 : Int32) (x2 : Int32) (x3 : Int32) (h : pH) : pR := run pMs none 99 4 [some (.int x0), some (.int x1), some (.int x2), some (.int x3)] [] h
theorem e_K_slotBehind (x0 : Int32) (x1 : Int32) (h : pH) : f_K_slotBehind x0 x1 h =
    (f_K_slotBehind_4 x0 x1 (0 : Int32) (1 : Int32) h) := (exq_run (M := M_99) rfl 5 _ _ _ _).symm.trans rfl
set_option maxRecDepth 100000 in
theorem e_K_slotBehind_4 (x0 : Int32) (x1 : Int32) (x2 : Int32) (x3 : Int32) (h : pH) : f_K_slotBehind_4 x0 x1 x2 x3 h =
    if (5 : Int32) < x3 then
    (rI (0 : Int32) h)
    else
    (cI (f_N_isIn x0 x3 h) fun x_2 h_1 =>
      if x_2 = 0 then
      ((f_K_slotBehind_4 x0 x1 x2 (x3 + 1) h_1))
      else
      (if x2 = x1 then
        (rI x3 h_1)
        else
        ((f_K_slotBehind_4 x0 x1 (x2 + 1) (x3 + 1) h_1)))) := (exq_run (M := M_99) rfl 14 _ _ _ _).symm.trans rfl
noncomputable def f_K_wordAt (x0 : Int32) (x1 : Int32) (h : pH) : pR := run pMs none 100 0 [some (.int x0), some (.int x1)] [] h
noncomputable def f_K_wordAt_25 (x2 : Int32) (x3 : Int32) (x4 : Int32) (x5 : Int32) (x6 : Int32) (x7 : Int32) (h : pH) : pR := run pMs none 100 25 [none, none, some (.int x2), some (.int x3), some (.int x4), some (.int x5), some (.int x6), some (.int x7)] [] h
noncomputable def f_K_wordAt_47 (x2 : Int32) (x3 : Int32) (x4 : Int32) (x5 : Int32) (x6 : Int32) (x7 : Int32) (t0 : Int32) (h : pH) : pR := run pMs none 100 47 [none, none, some (.int x2), some (.int x3), some (.int x4), some (.int x5), some (.int x6), some (.int x7)] [.int t0] h
noncomputable def f_K_wordAt_93 (x2 : Int32) (x3 : Int32) (x4 : Int32) (x5 : Int32) (x6 : Int32) (x7 : Int32) (x9 : Int32) (t0 : Int32) (h : pH) : pR := run pMs none 100 93 [none, none, some (.int x2), some (.int x3), some (.int x4), some (.int x5), some (.int x6), some (.int x7), none, some (.int x9)] [.int t0] h
set_option maxRecDepth 100000 in
theorem e_K_wordAt (x0 : Int32) (x1 : Int32) (h : pH) : f_K_wordAt x0 x1 h =
    (f_K_wordAt_25 ((7 : Int32) - x1) x1 (((1 : Int32) <<< ((x1 + (1 : Int32)) &&& 31)) - (2 : Int32)) x0 (0 : Int32) (0 : Int32) h) := (exq_run (M := M_100) rfl 21 _ _ _ _).symm.trans rfl
theorem e_K_wordAt_25 (x2 : Int32) (x3 : Int32) (x4 : Int32) (x5 : Int32) (x6 : Int32) (x7 : Int32) (h : pH) : f_K_wordAt_25 x2 x3 x4 x5 x6 x7 h =
    if (7 : Int32) ≤ x7 then
    (rI x6 h)
    else
    (if x2 ≤ 0 then
      ((f_K_wordAt_47 x2 x3 x4 x5 x6 x7 (0 : Int32) h))
      else
      (cI (f_K_ways (x2 - (1 : Int32)) x3 h) fun x_2 h_1 =>
        (f_K_wordAt_47 x2 x3 x4 x5 x6 x7 x_2 h_1))) := (exq_run (M := M_100) rfl 12 _ _ _ _).symm.trans rfl
set_option maxRecDepth 100000 in
theorem e_K_wordAt_47 (x2 : Int32) (x3 : Int32) (x4 : Int32) (x5 : Int32) (x6 : Int32) (x7 : Int32) (t0 : Int32) (h : pH) : f_K_wordAt_47 x2 x3 x4 x5 x6 x7 t0 h =
    if t0 ≤ x5 then
    (cI (f_K_ways x2 (x3 + (-1)) h) fun x_2 h_1 =>
      if x_2 ≤ 0 then
      ((f_K_wordAt_93 x2 (x3 + (-1)) x4 (x5 - t0) x6 x7 x_2 (0 : Int32) h_1))
      else
      (if x_2 = 0 then none else
        (f_K_wordAt_93 x2 (x3 + (-1)) x4 (x5 - t0) x6 x7 x_2 ((x5 - t0) / x_2) h_1)))
    else
    ((f_K_wordAt_25 (x2 + (-1)) x3 x4 x5 x6 (x7 + 1) h)) := (exq_run (M := M_100) rfl 20 _ _ _ _).symm.trans rfl
set_option maxRecDepth 100000 in
theorem e_K_wordAt_93 (x2 : Int32) (x3 : Int32) (x4 : Int32) (x5 : Int32) (x6 : Int32) (x7 : Int32) (x9 : Int32) (t0 : Int32) (h : pH) : f_K_wordAt_93 x2 x3 x4 x5 x6 x7 x9 t0 h =
    cI (f_K_slotBehind x4 t0 h) fun x_2 h_1 =>
    cI (f_N_withSlot x6 x7 x_2 h_1) fun x_4 h_3 =>
    (f_K_wordAt_25 x2 x3 (x4 &&& (((1 : Int32) <<< (x_2 &&& 31)) ^^^ (-1 : Int32))) (x5 - (t0 * x9)) x_4 (x7 + 1) h_3) := (exq_run (M := M_100) rfl 27 _ _ _ _).symm.trans rfl
noncomputable def f_N_isInOrder (x0 : Int32) (x1 : Int32) (x2 : Int32) (h : pH) : pR := run pMs none 108 0 [some (.int x0), some (.int x1), some (.int x2)] [] h
noncomputable def f_N_isInOrder_8 (x0 : Int32) (x1 : Int32) (x2 : Int32) (x3 : Int32) (x4 : Int32) (x5 : Int32) (h : pH) : pR := run pMs none 108 8 [some (.int x0), some (.int x1), some (.int x2), some (.int x3), some (.int x4), some (.int x5)] [] h
noncomputable def f_N_isInOrder_44 (x0 : Int32) (x1 : Int32) (x2 : Int32) (x3 : Int32) (x4 : Int32) (x5 : Int32) (x6 : Int32) (h : pH) : pR := run pMs none 108 44 [some (.int x0), some (.int x1), some (.int x2), some (.int x3), some (.int x4), some (.int x5), some (.int x6)] [] h
theorem e_N_isInOrder (x0 : Int32) (x1 : Int32) (x2 : Int32) (h : pH) : f_N_isInOrder x0 x1 x2 h =
    (f_N_isInOrder_8 x0 x1 x2 (0 : Int32) (0 : Int32) (0 : Int32) h) := (exq_run (M := M_108) rfl 7 _ _ _ _).symm.trans rfl
set_option maxRecDepth 100000 in
theorem e_N_isInOrder_8 (x0 : Int32) (x1 : Int32) (x2 : Int32) (x3 : Int32) (x4 : Int32) (x5 : Int32) (h : pH) : f_N_isInOrder_8 x0 x1 x2 x3 x4 x5 h =
    if (7 : Int32) ≤ x5 then
    (rI (1 : Int32) h)
    else
    (cI (f_N_slotAt x0 x5 h) fun x_2 h_1 =>
      if x_2 = 0 then
      ((f_N_isInOrder_8 x0 x1 x2 x3 (1 : Int32) (x5 + 1) h_1))
      else
      (if x4 = 0 then
        ((f_N_isInOrder_44 x0 x1 x2 x3 x4 x5 x_2 h_1))
        else
        (if x2 = (1 : Int32) then
          (rI (0 : Int32) h_1)
          else
          ((f_N_isInOrder_44 x0 x1 x2 x3 x4 x5 x_2 h_1))))) := (exq_run (M := M_108) rfl 17 _ _ _ _).symm.trans rfl
theorem e_N_isInOrder_44 (x0 : Int32) (x1 : Int32) (x2 : Int32) (x3 : Int32) (x4 : Int32) (x5 : Int32) (x6 : Int32) (h : pH) : f_N_isInOrder_44 x0 x1 x2 x3 x4 x5 x6 h =
    cI (f_N_isWrong x3 x6 x1 h) fun x_2 h_1 =>
    if x_2 = 0 then
    ((f_N_isInOrder_8 x0 x1 x2 x6 x4 (x5 + 1) h_1))
    else
    (rI (0 : Int32) h_1) := (exq_run (M := M_108) rfl 10 _ _ _ _).symm.trans rfl
noncomputable def f_N_disorder (x0 : Int32) (x1 : Int32) (h : pH) : pR := run pMs none 109 0 [some (.int x0), some (.int x1)] [] h
noncomputable def f_N_disorder_4 (x0 : Int32) (x1 : Int32) (x2 : Int32) (x3 : Int32) (h : pH) : pR := run pMs none 109 4 [some (.int x0), some (.int x1), some (.int x2), some (.int x3)] [] h
theorem e_N_disorder (x0 : Int32) (x1 : Int32) (h : pH) : f_N_disorder x0 x1 h =
    (f_N_disorder_4 x0 x1 (0 : Int32) (0 : Int32) h) := (exq_run (M := M_109) rfl 5 _ _ _ _).symm.trans rfl
theorem e_N_disorder_4 (x0 : Int32) (x1 : Int32) (x2 : Int32) (x3 : Int32) (h : pH) : f_N_disorder_4 x0 x1 x2 x3 h =
    if (7 : Int32) ≤ x3 then
    (rI (x2 >>> ((1 : Int32) &&& 31)) h)
    else
    (cI (f_N_wrongBooks x0 x3 x1 h) fun x_2 h_1 =>
      (f_N_disorder_4 x0 x1 (x2 + x_2) (x3 + 1) h_1)) := (exq_run (M := M_109) rfl 13 _ _ _ _).symm.trans rfl
noncomputable def f_K_risingWordsOf (x0 : Int32) (h : pH) : pR := run pMs none 110 0 [some (.int x0)] [] h
theorem e_K_risingWordsOf (x0 : Int32) (h : pH) : f_K_risingWordsOf x0 h =
    cI (f_K_ways (0 : Int32) x0 h) fun x_2 h_1 =>
    if x_2 ≤ 0 then
    (rI (0 : Int32) h_1)
    else
    (cI (f_K_wordsOf x0 h_1) fun x_4 h_3 =>
      if x_2 = 0 then none else
      rI (x_4 / x_2) h_3) := (exq_run (M := M_110) rfl 13 _ _ _ _).symm.trans rfl
end
section
noncomputable def f_B_slotOf (k0 : Nat) (x1 : Int32) (h : pH) : pR := run pMs none 11 0 [some (.ref k0), some (.int x1)] [] h
noncomputable def f_B_slotOf_2 (k0 : Nat) (x1 : Int32) (x2 : Int32) (h : pH) : pR := run pMs none 11 2 [some (.ref k0), some (.int x1), some (.int x2)] [] h
theorem e_B_slotOf (k0 : Nat) (x1 : Int32) (h : pH) : f_B_slotOf k0 x1 h =
    (f_B_slotOf_2 k0 x1 (1 : Int32) h) := (exq_run (M := M_11) rfl 3 _ _ _ _).symm.trans rfl
theorem e_B_slotOf_2 (k0 : Nat) (x1 : Int32) (x2 : Int32) (h : pH) : f_B_slotOf_2 k0 x1 x2 h =
    oo none (hI h 6 k0 1) fun x_1 =>
    if x_1 < x2 then
    (rI (0 : Int32) h)
    else
    (oo none (hR h 6 k0 2) fun k_2 =>
      if kO h 4 k_2 = true then (cI (f_R_get k_2 x2 h) fun x_4 h_3 =>
      if x_4 = x1 then
      (rI x2 h_3)
      else
      ((f_B_slotOf_2 k0 x1 (x2 + 1) h_3))) else none) := (exq_run (M := M_11) rfl 13 _ _ _ _).symm.trans rfl
noncomputable def f_H_dropOldest (k0 : Nat) (h : pH) : pR := run pMs none 13 0 [some (.ref k0)] [] h
noncomputable def f_H_dropOldest_2 (k0 : Nat) (x1 : Int32) (h : pH) : pR := run pMs none 13 2 [some (.ref k0), some (.int x1)] [] h
theorem e_H_dropOldest (k0 : Nat) (h : pH) : f_H_dropOldest k0 h =
    (f_H_dropOldest_2 k0 (1 : Int32) h) := (exq_run (M := M_13) rfl 3 _ _ _ _).symm.trans rfl
set_option maxRecDepth 100000 in
theorem e_H_dropOldest_2 (k0 : Nat) (x1 : Int32) (h : pH) : f_H_dropOldest_2 k0 x1 h =
    oo none (hR h 1 k0 0) fun k_1 =>
    oo none (hN h k_1) fun x_2 =>
    if x_2 ≤ x1 then
    (oo none (hI h 1 k0 1) fun x_3 =>
      if kO h 1 k0 = true then
      (rV (sI h k0 1 (x_3 - (1 : Int32))))
      else none)
    else
    (oo none (hR h 1 k0 0) fun k_4 =>
      oo none (hQ h k_4 (x1 - (1 : Int32))) fun k_5 =>
      oo none (hR h 1 k0 0) fun k_6 =>
      oo none (hR h 1 k0 0) fun k_7 =>
      oo none (hQ h k_7 x1) fun k_8 =>
      if bQ h k_6 (x1 - (1 : Int32)) k_8 = true then
      (oo none (hR (sR h k_6 (Int32.toNatClampNeg (x1 - (1 : Int32))) k_8) 1 k0 0) fun k_9 =>
      if bQ (sR h k_6 (Int32.toNatClampNeg (x1 - (1 : Int32))) k_8) k_9 x1 k_5 = true then
      ((f_H_dropOldest_2 k0 (x1 + 1) (sR (sR h k_6 (Int32.toNatClampNeg (x1 - (1 : Int32))) k_8) k_9 (Int32.toNatClampNeg x1) k_5)))
      else none)
      else none) := (exq_run (M := M_13) rfl 30 _ _ _ _).symm.trans rfl
noncomputable def f_B_become (k0 : Nat) (k1 : Nat) (h : pH) : pR := run pMs none 15 0 [some (.ref k0), some (.ref k1)] [] h
set_option maxRecDepth 100000 in
theorem e_B_become (k0 : Nat) (k1 : Nat) (h : pH) : f_B_become k0 k1 h =
    oo none (hI h 6 k1 0) fun x_1 =>
    if kO h 6 k0 = true then
    (oo none (hI (sI h k0 0 x_1) 6 k1 1) fun x_2 =>
    if kO (sI h k0 0 x_1) 6 k0 = true then
    (oo none (hR (sI (sI h k0 0 x_1) k0 1 x_2) 6 k0 2) fun k_3 =>
    oo none (hR (sI (sI h k0 0 x_1) k0 1 x_2) 6 k1 2) fun k_4 =>
    if kO (sI (sI h k0 0 x_1) k0 1 x_2) 4 k_3 = true then (cV (f_R_become k_3 k_4 (sI (sI h k0 0 x_1) k0 1 x_2)) fun h_5 =>
    oo none (hR h_5 6 k0 3) fun k_6 =>
    oo none (hR h_5 6 k1 3) fun k_7 =>
    if kO h_5 4 k_6 = true then (cV (f_R_become k_6 k_7 h_5) fun h_8 =>
    oo none (hI h_8 6 k1 4) fun x_9 =>
    if kO h_8 6 k0 = true then
    (oo none (hI (sI h_8 k0 4 x_9) 6 k1 5) fun x_10 =>
    if kO (sI h_8 k0 4 x_9) 6 k0 = true then
    (oo none (hI (sI (sI h_8 k0 4 x_9) k0 5 x_10) 6 k1 6) fun x_11 =>
    if kO (sI (sI h_8 k0 4 x_9) k0 5 x_10) 6 k0 = true then
    (oo none (hI (sI (sI (sI h_8 k0 4 x_9) k0 5 x_10) k0 6 x_11) 6 k1 7) fun x_12 =>
    if kO (sI (sI (sI h_8 k0 4 x_9) k0 5 x_10) k0 6 x_11) 6 k0 = true then
    (oo none (hI (sI (sI (sI (sI h_8 k0 4 x_9) k0 5 x_10) k0 6 x_11) k0 7 x_12) 6 k1 8) fun x_13 =>
    if kO (sI (sI (sI (sI h_8 k0 4 x_9) k0 5 x_10) k0 6 x_11) k0 7 x_12) 6 k0 = true then
    (oo none (hI (sI (sI (sI (sI (sI h_8 k0 4 x_9) k0 5 x_10) k0 6 x_11) k0 7 x_12) k0 8 x_13) 6 k1 9) fun x_14 =>
    if kO (sI (sI (sI (sI (sI h_8 k0 4 x_9) k0 5 x_10) k0 6 x_11) k0 7 x_12) k0 8 x_13) 6 k0 = true then
    (rV (sI (sI (sI (sI (sI (sI h_8 k0 4 x_9) k0 5 x_10) k0 6 x_11) k0 7 x_12) k0 8 x_13) k0 9 x_14))
    else none)
    else none)
    else none)
    else none)
    else none)
    else none) else none) else none)
    else none)
    else none := (exq_run (M := M_15) rfl 44 _ _ _ _).symm.trans rfl
noncomputable def f_H_keep (k0 : Nat) (k1 : Nat) (h : pH) : pR := run pMs none 16 0 [some (.ref k0), some (.ref k1)] [] h
noncomputable def f_H_keep_16 (k0 : Nat) (k1 : Nat) (h : pH) : pR := run pMs none 16 16 [some (.ref k0), some (.ref k1)] [] h
theorem e_H_keep (k0 : Nat) (k1 : Nat) (h : pH) : f_H_keep k0 k1 h =
    oo none (hI h 1 k0 1) fun x_1 =>
    oo none (hR h 1 k0 0) fun k_2 =>
    oo none (hN h k_2) fun x_3 =>
    if x_1 < x_3 then
    ((f_H_keep_16 k0 k1 h))
    else
    (if kO h 1 k0 = true then (cV (f_H_dropOldest k0 h) fun h_4 =>
      (f_H_keep_16 k0 k1 h_4)) else none) := (exq_run (M := M_16) rfl 9 _ _ _ _).symm.trans rfl
set_option maxRecDepth 100000 in
theorem e_H_keep_16 (k0 : Nat) (k1 : Nat) (h : pH) : f_H_keep_16 k0 k1 h =
    oo none (hI h 1 k0 1) fun x_1 =>
    if x_1 < 0 then
    (rV h)
    else
    (oo none (hI h 1 k0 1) fun x_2 =>
      oo none (hR h 1 k0 0) fun k_3 =>
      oo none (hN h k_3) fun x_4 =>
      if x_4 ≤ x_2 then
      (rV h)
      else
      (oo none (hR h 1 k0 0) fun k_5 =>
        oo none (hI h 1 k0 1) fun x_6 =>
        oo none (hQ h k_5 x_6) fun k_7 =>
        oo none (hR h 1 k0 0) fun k_8 =>
        oo none (hI h 1 k0 1) fun x_9 =>
        oo none (hQ h k_8 x_9) fun k_10 =>
        if kO h 6 k_10 = true then (cV (f_B_become k_10 k1 h) fun h_11 =>
        oo none (hI h_11 1 k0 1) fun x_12 =>
        if kO h_11 1 k0 = true then
        (rV (sI h_11 k0 1 (x_12 + (1 : Int32))))
        else none) else none)) := (exq_run (M := M_16) rfl 30 _ _ _ _).symm.trans rfl
noncomputable def f_B_renumber (k0 : Nat) (x1 : Int32) (x2 : Int32) (h : pH) : pR := run pMs none 19 0 [some (.ref k0), some (.int x1), some (.int x2)] [] h
noncomputable def f_B_renumber_2 (k0 : Nat) (x1 : Int32) (x2 : Int32) (x3 : Int32) (h : pH) : pR := run pMs none 19 2 [some (.ref k0), some (.int x1), some (.int x2), some (.int x3)] [] h
theorem e_B_renumber (k0 : Nat) (x1 : Int32) (x2 : Int32) (h : pH) : f_B_renumber k0 x1 x2 h =
    (f_B_renumber_2 k0 x1 x2 (0 : Int32) h) := (exq_run (M := M_19) rfl 3 _ _ _ _).symm.trans rfl
set_option maxRecDepth 100000 in
theorem e_B_renumber_2 (k0 : Nat) (x1 : Int32) (x2 : Int32) (x3 : Int32) (h : pH) : f_B_renumber_2 k0 x1 x2 x3 h =
    if (7 : Int32) ≤ x3 then
    (rV h)
    else
    (oo none (hI h 6 k0 0) fun x_1 =>
      cI (f_N_slotAt x_1 x3 h) fun x_3 h_2 =>
      if x_3 < x1 then
      ((f_B_renumber_2 k0 x1 x2 (x3 + 1) h_2))
      else
      (oo none (hI h_2 6 k0 0) fun x_4 =>
        cI (f_N_withSlot x_4 x3 (x_3 + x2) h_2) fun x_6 h_5 =>
        if kO h_5 6 k0 = true then
        ((f_B_renumber_2 k0 x1 x2 (x3 + 1) (sI h_5 k0 0 x_6)))
        else none)) := (exq_run (M := M_19) rfl 23 _ _ _ _).symm.trans rfl
noncomputable def f_B_insert (k0 : Nat) (x1 : Int32) (x2 : Int32) (x3 : Int32) (h : pH) : pR := run pMs none 20 0 [some (.ref k0), some (.int x1), some (.int x2), some (.int x3)] [] h
noncomputable def f_B_insert_6 (k0 : Nat) (x1 : Int32) (x2 : Int32) (x3 : Int32) (x4 : Int32) (x5 : Int32) (h : pH) : pR := run pMs none 20 6 [some (.ref k0), some (.int x1), some (.int x2), some (.int x3), some (.int x4), some (.int x5)] [] h
noncomputable def f_B_insert_43 (k0 : Nat) (x1 : Int32) (x2 : Int32) (x3 : Int32) (x4 : Int32) (x5 : Int32) (h : pH) : pR := run pMs none 20 43 [some (.ref k0), some (.int x1), some (.int x2), some (.int x3), some (.int x4), some (.int x5)] [] h
theorem e_B_insert (k0 : Nat) (x1 : Int32) (x2 : Int32) (x3 : Int32) (h : pH) : f_B_insert k0 x1 x2 x3 h =
    (f_B_insert_6 k0 x1 x2 x3 (1 : Int32) (1 : Int32) h) := (exq_run (M := M_20) rfl 5 _ _ _ _).symm.trans rfl
set_option maxRecDepth 100000 in
theorem e_B_insert_6 (k0 : Nat) (x1 : Int32) (x2 : Int32) (x3 : Int32) (x4 : Int32) (x5 : Int32) (h : pH) : f_B_insert_6 k0 x1 x2 x3 x4 x5 h =
    oo none (hI h 6 k0 1) fun x_1 =>
    if x_1 < x5 then
    (oo none (hI h 6 k0 1) fun x_2 =>
      (f_B_insert_43 k0 x1 x2 x3 x4 x_2 h))
    else
    (oo none (hR h 6 k0 2) fun k_3 =>
      if kO h 4 k_3 = true then (cI (f_R_get k_3 x5 h) fun x_5 h_4 =>
      if x1 ≤ x_5 then
      ((f_B_insert_6 k0 x1 x2 x3 x4 (x5 + 1) h_4))
      else
      ((f_B_insert_6 k0 x1 x2 x3 (x4 + 1) (x5 + 1) h_4))) else none) := (exq_run (M := M_20) rfl 14 _ _ _ _).symm.trans rfl
set_option maxRecDepth 100000 in
theorem e_B_insert_43 (k0 : Nat) (x1 : Int32) (x2 : Int32) (x3 : Int32) (x4 : Int32) (x5 : Int32) (h : pH) : f_B_insert_43 k0 x1 x2 x3 x4 x5 h =
    if x5 < x4 then
    (oo none (hR h 6 k0 2) fun k_1 =>
      if kO h 4 k_1 = true then (cV (f_R_put k_1 x4 x1 h) fun h_2 =>
      oo none (hR h_2 6 k0 3) fun k_3 =>
      if kO h_2 4 k_3 = true then (cV (f_R_put k_3 x4 x2 h_2) fun h_4 =>
      if kO h_4 6 k0 = true then (cV (f_B_renumber k0 x4 (1 : Int32) h_4) fun h_5 =>
      oo none (hI h_5 6 k0 4) fun x_6 =>
      oo none (hI h_5 6 k0 4) fun x_7 =>
      if kO h_5 6 k0 = true then
      (oo none (hI (sI h_5 k0 4 (((x_7 - (x_6 &&& (((1 : Int32) <<< (x4 &&& 31)) - (1 : Int32)))) <<< ((1 : Int32) &&& 31)) ||| (x_6 &&& (((1 : Int32) <<< (x4 &&& 31)) - (1 : Int32))))) 6 k0 0) fun x_8 =>
      cI (f_N_withSlot x_8 x3 x4 (sI h_5 k0 4 (((x_7 - (x_6 &&& (((1 : Int32) <<< (x4 &&& 31)) - (1 : Int32)))) <<< ((1 : Int32) &&& 31)) ||| (x_6 &&& (((1 : Int32) <<< (x4 &&& 31)) - (1 : Int32)))))) fun x_10 h_9 =>
      if kO h_9 6 k0 = true then
      (oo none (hI (sI h_9 k0 0 x_10) 6 k0 1) fun x_11 =>
      if kO (sI h_9 k0 0 x_10) 6 k0 = true then
      (rV (sI (sI h_9 k0 0 x_10) k0 1 (x_11 + (1 : Int32))))
      else none)
      else none)
      else none) else none) else none) else none)
    else
    (oo none (hR h 6 k0 2) fun k_12 =>
      oo none (hR h 6 k0 2) fun k_13 =>
      if kO h 4 k_13 = true then (cI (f_R_get k_13 x5 h) fun x_15 h_14 =>
      if kO h_14 4 k_12 = true then (cV (f_R_put k_12 (x5 + (1 : Int32)) x_15 h_14) fun h_16 =>
      oo none (hR h_16 6 k0 3) fun k_17 =>
      oo none (hR h_16 6 k0 3) fun k_18 =>
      if kO h_16 4 k_18 = true then (cI (f_R_get k_18 x5 h_16) fun x_20 h_19 =>
      if kO h_19 4 k_17 = true then (cV (f_R_put k_17 (x5 + (1 : Int32)) x_20 h_19) fun h_21 =>
      (f_B_insert_43 k0 x1 x2 x3 x4 (x5 + (-1)) h_21)) else none) else none) else none) else none) := (exq_run (M := M_20) rfl 51 _ _ _ _).symm.trans rfl
noncomputable def f_B_takeOff (k0 : Nat) (x1 : Int32) (h : pH) : pR := run pMs none 29 0 [some (.ref k0), some (.int x1)] [] h
noncomputable def f_B_takeOff_34 (k0 : Nat) (x2 : Int32) (x3 : Int32) (x4 : Int32) (h : pH) : pR := run pMs none 29 34 [some (.ref k0), none, some (.int x2), some (.int x3), some (.int x4)] [] h
set_option maxRecDepth 100000 in
theorem e_B_takeOff (k0 : Nat) (x1 : Int32) (h : pH) : f_B_takeOff k0 x1 h =
    oo none (hI h 6 k0 0) fun x_1 =>
    cI (f_N_slotAt x_1 x1 h) fun x_3 h_2 =>
    oo none (hR h_2 6 k0 2) fun k_4 =>
    if kO h_2 4 k_4 = true then (cI (f_R_get k_4 x_3 h_2) fun x_6 h_5 =>
    oo none (hI h_5 6 k0 0) fun x_7 =>
    cI (f_N_withSlot x_7 x1 (0 : Int32) h_5) fun x_9 h_8 =>
    if kO h_8 6 k0 = true then
    ((f_B_takeOff_34 k0 x_3 x_6 x_3 (sI h_8 k0 0 x_9)))
    else none) else none := (exq_run (M := M_29) rfl 20 _ _ _ _).symm.trans rfl
set_option maxRecDepth 100000 in
theorem e_B_takeOff_34 (k0 : Nat) (x2 : Int32) (x3 : Int32) (x4 : Int32) (h : pH) : f_B_takeOff_34 k0 x2 x3 x4 h =
    oo none (hI h 6 k0 1) fun x_1 =>
    if x_1 ≤ x4 then
    (if kO h 6 k0 = true then (cV (f_B_renumber k0 (x2 + (1 : Int32)) (-1 : Int32) h) fun h_2 =>
      oo none (hI h_2 6 k0 4) fun x_3 =>
      oo none (hI h_2 6 k0 4) fun x_4 =>
      if kO h_2 6 k0 = true then
      (oo none (hI (sI h_2 k0 4 (((ius x_4 (x2 + (1 : Int32))) <<< (x2 &&& 31)) ||| (x_3 &&& (((1 : Int32) <<< (x2 &&& 31)) - (1 : Int32))))) 6 k0 1) fun x_5 =>
      if kO (sI h_2 k0 4 (((ius x_4 (x2 + (1 : Int32))) <<< (x2 &&& 31)) ||| (x_3 &&& (((1 : Int32) <<< (x2 &&& 31)) - (1 : Int32))))) 6 k0 = true then
      (rI x3 (sI (sI h_2 k0 4 (((ius x_4 (x2 + (1 : Int32))) <<< (x2 &&& 31)) ||| (x_3 &&& (((1 : Int32) <<< (x2 &&& 31)) - (1 : Int32))))) k0 1 (x_5 - (1 : Int32))))
      else none)
      else none) else none)
    else
    (oo none (hR h 6 k0 2) fun k_6 =>
      oo none (hR h 6 k0 2) fun k_7 =>
      if kO h 4 k_7 = true then (cI (f_R_get k_7 (x4 + (1 : Int32)) h) fun x_9 h_8 =>
      if kO h_8 4 k_6 = true then (cV (f_R_put k_6 x4 x_9 h_8) fun h_10 =>
      oo none (hR h_10 6 k0 3) fun k_11 =>
      oo none (hR h_10 6 k0 3) fun k_12 =>
      if kO h_10 4 k_12 = true then (cI (f_R_get k_12 (x4 + (1 : Int32)) h_10) fun x_14 h_13 =>
      if kO h_13 4 k_11 = true then (cV (f_R_put k_11 x4 x_14 h_13) fun h_15 =>
      (f_B_takeOff_34 k0 x2 x3 (x4 + 1) h_15)) else none) else none) else none) else none) := (exq_run (M := M_29) rfl 40 _ _ _ _).symm.trans rfl
noncomputable def f_B_tryMove (k0 : Nat) (x1 : Int32) (h : pH) : pR := run pMs none 42 0 [some (.ref k0), some (.int x1)] [] h
set_option maxRecDepth 100000 in
theorem e_B_tryMove (k0 : Nat) (x1 : Int32) (h : pH) : f_B_tryMove k0 x1 h =
    oo none (hI h 6 k0 0) fun x_1 =>
    oo none (hI h 6 k0 4) fun x_2 =>
    cI (f_N_reason x_1 x_2 x1 h) fun x_4 h_3 =>
    if x_4 = 0 then
    (oo none (hI h_3 6 k0 7) fun x_5 =>
      if kO h_3 6 k0 = true then
      (oo none (hI (sI h_3 k0 7 (x_5 + (1 : Int32))) 6 k0 8) fun x_6 =>
      oo none (hI (sI h_3 k0 7 (x_5 + (1 : Int32))) 6 k0 0) fun x_7 =>
      oo none (hR (sI h_3 k0 7 (x_5 + (1 : Int32))) 6 k0 3) fun k_8 =>
      cI (f_N_price x_7 k_8 x1 (sI h_3 k0 7 (x_5 + (1 : Int32)))) fun x_10 h_9 =>
      if kO h_9 6 k0 = true then
      (oo none (hI (sI h_9 k0 8 (x_6 + x_10)) 6 k0 0) fun x_11 =>
      cI (f_N_after x_11 x1 (sI h_9 k0 8 (x_6 + x_10))) fun x_13 h_12 =>
      if kO h_12 6 k0 = true then
      (rI (0 : Int32) (sI h_12 k0 0 x_13))
      else none)
      else none)
      else none)
    else
    (oo none (hI h_3 6 k0 9) fun x_14 =>
      if kO h_3 6 k0 = true then
      (rI x_4 (sI h_3 k0 9 (x_14 + (1 : Int32))))
      else none) := (exq_run (M := M_42) rfl 35 _ _ _ _).symm.trans rfl
noncomputable def f_P_write (k0 : Nat) (x1 : Int32) (h : pH) : pR := run pMs none 55 0 [some (.ref k0), some (.int x1)] [] h
set_option maxRecDepth 100000 in
theorem e_P_write (k0 : Nat) (x1 : Int32) (h : pH) : f_P_write k0 x1 h =
    oo none (hR h 2 k0 0) fun k_1 =>
    oo none (hI h 2 k0 1) fun x_2 =>
    if kO h 4 k_1 = true then (cV (f_R_put k_1 x_2 x1 h) fun h_3 =>
    oo none (hI h_3 2 k0 1) fun x_4 =>
    if kO h_3 2 k0 = true then
    (rV (sI h_3 k0 1 (x_4 + (1 : Int32))))
    else none) else none := (exq_run (M := M_55) rfl 14 _ _ _ _).symm.trans rfl
noncomputable def f_P_isKind (x0 : Int32) (h : pH) : pR := run pMs none 60 0 [some (.int x0)] [] h
theorem e_P_isKind (x0 : Int32) (h : pH) : f_P_isKind x0 h =
    if x0 = (112 : Int32) then
    (rI (1 : Int32) h)
    else
    (if x0 = (114 : Int32) then
      (rI (1 : Int32) h)
      else
      (if x0 = (108 : Int32) then
        (rI (1 : Int32) h)
        else
        (rI (0 : Int32) h))) := (exq_run (M := M_60) rfl 13 _ _ _ _).symm.trans rfl
noncomputable def f_P_isPlaceFor (x0 : Int32) (x1 : Int32) (h : pH) : pR := run pMs none 61 0 [some (.int x0), some (.int x1)] [] h
set_option maxRecDepth 100000 in
theorem e_P_isPlaceFor (x0 : Int32) (x1 : Int32) (h : pH) : f_P_isPlaceFor x0 x1 h =
    if x1 < (48 : Int32) then
    (rI (0 : Int32) h)
    else
    (if x0 = (112 : Int32) then
      (if ((48 : Int32) + (7 : Int32)) ≤ x1 then
        (rI (0 : Int32) h)
        else
        (rI (1 : Int32) h))
      else
      (if ((48 : Int32) + (6 : Int32)) ≤ x1 then
        (rI (0 : Int32) h)
        else
        (rI (1 : Int32) h))) := (exq_run (M := M_61) rfl 16 _ _ _ _).symm.trans rfl
noncomputable def f_P_programFault (k0 : Nat) (h : pH) : pR := run pMs none 62 0 [some (.ref k0)] [] h
noncomputable def f_P_programFault_2 (k0 : Nat) (x1 : Int32) (h : pH) : pR := run pMs none 62 2 [some (.ref k0), some (.int x1)] [] h
theorem e_P_programFault (k0 : Nat) (h : pH) : f_P_programFault k0 h =
    (f_P_programFault_2 k0 (0 : Int32) h) := (exq_run (M := M_62) rfl 3 _ _ _ _).symm.trans rfl
set_option maxRecDepth 100000 in
theorem e_P_programFault_2 (k0 : Nat) (x1 : Int32) (h : pH) : f_P_programFault_2 k0 x1 h =
    oo none (hI h 2 k0 1) fun x_1 =>
    if x_1 ≤ x1 then
    (oo none (hI h 2 k0 1) fun x_2 =>
      if x_2 = 0 then
      (oo none (hI h 2 k0 1) fun x_3 =>
        rI x_3 h)
      else
      (oo none (hI h 2 k0 1) fun x_4 =>
        if (x_4 &&& (1 : Int32)) = (1 : Int32) then
        (oo none (hI h 2 k0 1) fun x_5 =>
          rI x_5 h)
        else
        (rI (-4 : Int32) h)))
    else
    (oo none (hR h 2 k0 0) fun k_6 =>
      if kO h 4 k_6 = true then (cI (f_R_get k_6 x1 h) fun x_8 h_7 =>
      if (x1 &&& (1 : Int32)) = 0 then
      (cI (f_P_isKind x_8 h_7) fun x_15 h_14 =>
        if x_15 = 0 then
        (rI x1 h_14)
        else
        ((f_P_programFault_2 k0 (x1 + 1) h_14)))
      else
      (oo none (hR h_7 2 k0 0) fun k_9 =>
        if kO h_7 4 k_9 = true then (cI (f_R_get k_9 (x1 - (1 : Int32)) h_7) fun x_11 h_10 =>
        cI (f_P_isPlaceFor x_11 x_8 h_10) fun x_13 h_12 =>
        if x_13 = 0 then
        (rI x1 h_12)
        else
        ((f_P_programFault_2 k0 (x1 + 1) h_12))) else none)) else none) := (exq_run (M := M_62) rfl 27 _ _ _ _).symm.trans rfl
noncomputable def f_P_slotOfSign (k0 : Nat) (x1 : Int32) (h : pH) : pR := run pMs none 63 0 [some (.ref k0), some (.int x1)] [] h
theorem e_P_slotOfSign (k0 : Nat) (x1 : Int32) (h : pH) : f_P_slotOfSign k0 x1 h =
    if kO h 6 k0 = true then (cI (f_B_slotOf k0 (x1 - (97 : Int32)) h) fun x_2 h_1 =>
    rI x_2 h_1) else none := (exq_run (M := M_63) rfl 7 _ _ _ _).symm.trans rfl
noncomputable def f_P_wordFault (k0 : Nat) (k1 : Nat) (h : pH) : pR := run pMs none 64 0 [some (.ref k0), some (.ref k1)] [] h
noncomputable def f_P_wordFault_22 (k0 : Nat) (k1 : Nat) (x2 : Int32) (x3 : Int32) (x4 : Int32) (h : pH) : pR := run pMs none 64 22 [some (.ref k0), some (.ref k1), some (.int x2), some (.int x3), some (.int x4)] [] h
noncomputable def f_P_wordFault_76 (k0 : Nat) (k1 : Nat) (x2 : Int32) (x3 : Int32) (x4 : Int32) (x5 : Int32) (x6 : Int32) (h : pH) : pR := run pMs none 64 76 [some (.ref k0), some (.ref k1), some (.int x2), some (.int x3), some (.int x4), some (.int x5), some (.int x6)] [] h
set_option maxRecDepth 100000 in
theorem e_P_wordFault (k0 : Nat) (k1 : Nat) (h : pH) : f_P_wordFault k0 k1 h =
    oo none (hI h 6 k1 1) fun x_1 =>
    oo none (hI h 6 k1 1) fun x_2 =>
    (f_P_wordFault_22 k0 k1 ((7 : Int32) - x_1) (((1 : Int32) <<< ((x_2 + (1 : Int32)) &&& 31)) - (2 : Int32)) (0 : Int32) h) := (exq_run (M := M_64) rfl 17 _ _ _ _).symm.trans rfl
set_option maxRecDepth 100000 in
theorem e_P_wordFault_22 (k0 : Nat) (k1 : Nat) (x2 : Int32) (x3 : Int32) (x4 : Int32) (h : pH) : f_P_wordFault_22 k0 k1 x2 x3 x4 h =
    oo none (hI h 2 k0 1) fun x_1 =>
    if x_1 ≤ x4 then
    (oo none (hI h 2 k0 1) fun x_2 =>
      if (7 : Int32) ≤ x_2 then
      (rI (-4 : Int32) h)
      else
      (oo none (hI h 2 k0 1) fun x_3 =>
        rI x_3 h))
    else
    (oo none (hR h 2 k0 0) fun k_4 =>
      if kO h 4 k_4 = true then (cI (f_R_get k_4 x4 h) fun x_6 h_5 =>
      cI (f_P_slotOfSign k1 x_6 h_5) fun x_8 h_7 =>
      if x_6 = (46 : Int32) then
      (if x2 = 0 then
        (rI x4 h_7)
        else
        ((f_P_wordFault_76 k0 k1 x2 x3 x4 x_6 x_8 h_7)))
      else
      (cI (f_N_isIn x3 x_8 h_7) fun x_10 h_9 =>
        if x_10 = 0 then
        (rI x4 h_9)
        else
        ((f_P_wordFault_76 k0 k1 x2 x3 x4 x_6 x_8 h_9)))) else none) := (exq_run (M := M_64) rfl 23 _ _ _ _).symm.trans rfl
set_option maxRecDepth 100000 in
theorem e_P_wordFault_76 (k0 : Nat) (k1 : Nat) (x2 : Int32) (x3 : Int32) (x4 : Int32) (x5 : Int32) (x6 : Int32) (h : pH) : f_P_wordFault_76 k0 k1 x2 x3 x4 x5 x6 h =
    if x5 = (46 : Int32) then
    ((f_P_wordFault_22 k0 k1 (x2 + (-1)) x3 (x4 + 1) h))
    else
    ((f_P_wordFault_22 k0 k1 x2 (x3 &&& (((1 : Int32) <<< (x6 &&& 31)) ^^^ (-1 : Int32))) (x4 + 1) h)) := (exq_run (M := M_64) rfl 14 _ _ _ _).symm.trans rfl
noncomputable def f_P_readWord (k0 : Nat) (k1 : Nat) (h : pH) : pR := run pMs none 71 0 [some (.ref k0), some (.ref k1)] [] h
noncomputable def f_P_readWord_4 (k0 : Nat) (k1 : Nat) (x2 : Int32) (x3 : Int32) (h : pH) : pR := run pMs none 71 4 [some (.ref k0), some (.ref k1), some (.int x2), some (.int x3)] [] h
theorem e_P_readWord (k0 : Nat) (k1 : Nat) (h : pH) : f_P_readWord k0 k1 h =
    (f_P_readWord_4 k0 k1 (0 : Int32) (0 : Int32) h) := (exq_run (M := M_71) rfl 5 _ _ _ _).symm.trans rfl
set_option maxRecDepth 100000 in
theorem e_P_readWord_4 (k0 : Nat) (k1 : Nat) (x2 : Int32) (x3 : Int32) (h : pH) : f_P_readWord_4 k0 k1 x2 x3 h =
    if (7 : Int32) ≤ x3 then
    (rI x2 h)
    else
    (oo none (hR h 2 k0 0) fun k_1 =>
      if kO h 4 k_1 = true then (cI (f_R_get k_1 x3 h) fun x_3 h_2 =>
      cI (f_P_slotOfSign k1 x_3 h_2) fun x_5 h_4 =>
      cI (f_N_withSlot x2 x3 x_5 h_4) fun x_7 h_6 =>
      (f_P_readWord_4 k0 k1 x_7 (x3 + 1) h_6)) else none) := (exq_run (M := M_71) rfl 16 _ _ _ _).symm.trans rfl
noncomputable def f_B_rankOfNow (k0 : Nat) (h : pH) : pR := run pMs none 75 0 [some (.ref k0)] [] h
theorem e_B_rankOfNow (k0 : Nat) (h : pH) : f_B_rankOfNow k0 h =
    oo none (hI h 6 k0 0) fun x_1 =>
    oo none (hI h 6 k0 1) fun x_2 =>
    cI (f_K_rankOf x_1 x_2 h) fun x_4 h_3 =>
    rI x_4 h_3 := (exq_run (M := M_75) rfl 7 _ _ _ _).symm.trans rfl
noncomputable def f_P_steps (k0 : Nat) (h : pH) : pR := run pMs none 81 0 [some (.ref k0)] [] h
theorem e_P_steps (k0 : Nat) (h : pH) : f_P_steps k0 h =
    oo none (hI h 2 k0 1) fun x_1 =>
    rI (x_1 >>> ((1 : Int32) &&& 31)) h := (exq_run (M := M_81) rfl 6 _ _ _ _).symm.trans rfl
noncomputable def f_P_moveAt (k0 : Nat) (x1 : Int32) (h : pH) : pR := run pMs none 82 0 [some (.ref k0), some (.int x1)] [] h
set_option maxRecDepth 100000 in
theorem e_P_moveAt (k0 : Nat) (x1 : Int32) (h : pH) : f_P_moveAt k0 x1 h =
    oo none (hR h 2 k0 0) fun k_1 =>
    if kO h 4 k_1 = true then (cI (f_R_get k_1 ((2 : Int32) * x1) h) fun x_3 h_2 =>
    oo none (hR h_2 2 k0 0) fun k_4 =>
    if kO h_2 4 k_4 = true then (cI (f_R_get k_4 (((2 : Int32) * x1) + (1 : Int32)) h_2) fun x_6 h_5 =>
    if x_3 = (112 : Int32) then
    (rI (x_6 - (48 : Int32)) h_5)
    else
    (if x_3 = (114 : Int32) then
      (rI ((x_6 - (48 : Int32)) + (7 : Int32)) h_5)
      else
      (rI ((x_6 - (48 : Int32)) + (13 : Int32)) h_5))) else none) else none := (exq_run (M := M_82) rfl 30 _ _ _ _).symm.trans rfl
noncomputable def f_B_sumOfWeights (k0 : Nat) (h : pH) : pR := run pMs none 107 0 [some (.ref k0)] [] h
noncomputable def f_B_sumOfWeights_4 (k0 : Nat) (x1 : Int32) (x2 : Int32) (h : pH) : pR := run pMs none 107 4 [some (.ref k0), some (.int x1), some (.int x2)] [] h
theorem e_B_sumOfWeights (k0 : Nat) (h : pH) : f_B_sumOfWeights k0 h =
    (f_B_sumOfWeights_4 k0 (0 : Int32) (1 : Int32) h) := (exq_run (M := M_107) rfl 5 _ _ _ _).symm.trans rfl
set_option maxRecDepth 100000 in
theorem e_B_sumOfWeights_4 (k0 : Nat) (x1 : Int32) (x2 : Int32) (h : pH) : f_B_sumOfWeights_4 k0 x1 x2 h =
    oo none (hI h 6 k0 1) fun x_1 =>
    if x_1 < x2 then
    (rI x1 h)
    else
    (oo none (hR h 6 k0 3) fun k_2 =>
      if kO h 4 k_2 = true then (cI (f_R_get k_2 x2 h) fun x_4 h_3 =>
      (f_B_sumOfWeights_4 k0 (x1 + x_4) (x2 + 1) h_3)) else none) := (exq_run (M := M_107) rfl 14 _ _ _ _).symm.trans rfl
noncomputable def f_B_possibleMoves (k0 : Nat) (h : pH) : pR := run pMs none 111 0 [some (.ref k0)] [] h
noncomputable def f_B_possibleMoves_4 (k0 : Nat) (x1 : Int32) (x2 : Int32) (h : pH) : pR := run pMs none 111 4 [some (.ref k0), some (.int x1), some (.int x2)] [] h
theorem e_B_possibleMoves (k0 : Nat) (h : pH) : f_B_possibleMoves k0 h =
    (f_B_possibleMoves_4 k0 (0 : Int32) (0 : Int32) h) := (exq_run (M := M_111) rfl 5 _ _ _ _).symm.trans rfl
set_option maxRecDepth 100000 in
theorem e_B_possibleMoves_4 (k0 : Nat) (x1 : Int32) (x2 : Int32) (h : pH) : f_B_possibleMoves_4 k0 x1 x2 h =
    if (19 : Int32) ≤ x2 then
    (rI x1 h)
    else
    (oo none (hI h 6 k0 0) fun x_1 =>
      oo none (hI h 6 k0 4) fun x_2 =>
      cI (f_N_reason x_1 x_2 x2 h) fun x_4 h_3 =>
      if x_4 = 0 then
      ((f_B_possibleMoves_4 k0 (x1 + 1) (x2 + 1) h_3))
      else
      ((f_B_possibleMoves_4 k0 x1 (x2 + 1) h_3))) := (exq_run (M := M_111) rfl 14 _ _ _ _).symm.trans rfl
noncomputable def f_G_firstNode (x0 : Int32) (h : pH) : pR := run pMs none 121 0 [some (.int x0)] [] h
noncomputable def f_G_firstNode_4 (x0 : Int32) (x1 : Int32) (x2 : Int32) (h : pH) : pR := run pMs none 121 4 [some (.int x0), some (.int x1), some (.int x2)] [] h
theorem e_G_firstNode (x0 : Int32) (h : pH) : f_G_firstNode x0 h =
    (f_G_firstNode_4 x0 (0 : Int32) (0 : Int32) h) := (exq_run (M := M_121) rfl 5 _ _ _ _).symm.trans rfl
theorem e_G_firstNode_4 (x0 : Int32) (x1 : Int32) (x2 : Int32) (h : pH) : f_G_firstNode_4 x0 x1 x2 h =
    if x0 ≤ x2 then
    (rI x1 h)
    else
    (cI (f_K_wordsOf x2 h) fun x_2 h_1 =>
      (f_G_firstNode_4 x0 (x1 + x_2) (x2 + 1) h_1)) := (exq_run (M := M_121) rfl 11 _ _ _ _).symm.trans rfl
noncomputable def f_G_drawOnward (k0 : Nat) (x1 : Int32) (x2 : Int32) (x3 : Int32) (h : pH) : pR := run pMs none 122 0 [some (.ref k0), some (.int x1), some (.int x2), some (.int x3)] [] h
noncomputable def f_G_drawOnward_3 (k0 : Nat) (x1 : Int32) (x2 : Int32) (x3 : Int32) (x4 : Int32) (h : pH) : pR := run pMs none 122 3 [some (.ref k0), some (.int x1), some (.int x2), some (.int x3), some (.int x4)] [] h
noncomputable def f_G_drawOnward_33 (k0 : Nat) (x1 : Int32) (x2 : Int32) (x3 : Int32) (x4 : Int32) (x5 : Int32) (x6 : Int32) (h : pH) : pR := run pMs none 122 33 [some (.ref k0), some (.int x1), some (.int x2), some (.int x3), some (.int x4), some (.int x5), some (.int x6)] [] h
noncomputable def f_G_drawOnward_89 (k0 : Nat) (x1 : Int32) (x2 : Int32) (x3 : Int32) (x4 : Int32) (x5 : Int32) (x6 : Int32) (x7 : Int32) (h : pH) : pR := run pMs none 122 89 [some (.ref k0), some (.int x1), some (.int x2), some (.int x3), some (.int x4), some (.int x5), some (.int x6), some (.int x7)] [] h
theorem e_G_drawOnward (k0 : Nat) (x1 : Int32) (x2 : Int32) (x3 : Int32) (h : pH) : f_G_drawOnward k0 x1 x2 x3 h =
    (f_G_drawOnward_3 k0 x1 x2 x3 x2 h) := (exq_run (M := M_122) rfl 3 _ _ _ _).symm.trans rfl
set_option maxRecDepth 100000 in
theorem e_G_drawOnward_3 (k0 : Nat) (x1 : Int32) (x2 : Int32) (x3 : Int32) (x4 : Int32) (h : pH) : f_G_drawOnward_3 k0 x1 x2 x3 x4 h =
    if x3 ≤ x4 then
    (rV h)
    else
    (cI (f_K_wordAt (x4 - x2) x1 h) fun x_2 h_1 =>
      oo none (hR h_1 0 k0 0) fun k_3 =>
      if kO h_1 4 k_3 = true then (cV (f_R_put k_3 x4 x_2 h_1) fun h_4 =>
      (f_G_drawOnward_33 k0 x1 x2 x3 x4 x_2 (0 : Int32) h_4)) else none) := (exq_run (M := M_122) rfl 17 _ _ _ _).symm.trans rfl
set_option maxRecDepth 100000 in
theorem e_G_drawOnward_33 (k0 : Nat) (x1 : Int32) (x2 : Int32) (x3 : Int32) (x4 : Int32) (x5 : Int32) (x6 : Int32) (h : pH) : f_G_drawOnward_33 k0 x1 x2 x3 x4 x5 x6 h =
    if (19 : Int32) ≤ x6 then
    ((f_G_drawOnward_3 k0 x1 x2 x3 (x4 + 1) h))
    else
    (cI (f_N_reason x5 (0 : Int32) x6 h) fun x_2 h_1 =>
      if x_2 = 0 then
      (cI (f_N_after x5 x6 h_1) fun x_4 h_3 =>
        cI (f_K_rankOf x_4 x1 h_3) fun x_6 h_5 =>
        oo none (hR h_5 0 k0 4) fun k_7 =>
        oo none (hR h_5 0 k0 4) fun k_8 =>
        if kO h_5 4 k_8 = true then (cI (f_R_get k_8 (x2 + x_6) h_5) fun x_10 h_9 =>
        if kO h_9 4 k_7 = true then (cV (f_R_put k_7 (x2 + x_6) (x_10 + (1 : Int32)) h_9) fun h_11 =>
        (f_G_drawOnward_89 k0 x1 x2 x3 x4 x5 x6 (x2 + x_6) h_11)) else none) else none)
      else
      ((f_G_drawOnward_89 k0 x1 x2 x3 x4 x5 x6 (-1 : Int32) h_1))) := (exq_run (M := M_122) rfl 29 _ _ _ _).symm.trans rfl
theorem e_G_drawOnward_89 (k0 : Nat) (x1 : Int32) (x2 : Int32) (x3 : Int32) (x4 : Int32) (x5 : Int32) (x6 : Int32) (x7 : Int32) (h : pH) : f_G_drawOnward_89 k0 x1 x2 x3 x4 x5 x6 x7 h =
    oo none (hR h 0 k0 1) fun k_1 =>
    if kO h 4 k_1 = true then (cV (f_R_put k_1 ((x4 * (19 : Int32)) + x6) x7 h) fun h_2 =>
    (f_G_drawOnward_33 k0 x1 x2 x3 x4 x5 (x6 + 1) h_2)) else none := (exq_run (M := M_122) rfl 12 _ _ _ _).symm.trans rfl
noncomputable def f_G_shareOut (k0 : Nat) (x1 : Int32) (x2 : Int32) (h : pH) : pR := run pMs none 123 0 [some (.ref k0), some (.int x1), some (.int x2)] [] h
noncomputable def f_G_shareOut_8 (k0 : Nat) (x2 : Int32) (x3 : Int32) (x4 : Int32) (h : pH) : pR := run pMs none 123 8 [some (.ref k0), none, some (.int x2), some (.int x3), some (.int x4)] [] h
theorem e_G_shareOut (k0 : Nat) (x1 : Int32) (x2 : Int32) (h : pH) : f_G_shareOut k0 x1 x2 h =
    (f_G_shareOut_8 k0 x2 (x1 * (19 : Int32)) x1 h) := (exq_run (M := M_123) rfl 7 _ _ _ _).symm.trans rfl
set_option maxRecDepth 100000 in
theorem e_G_shareOut_8 (k0 : Nat) (x2 : Int32) (x3 : Int32) (x4 : Int32) (h : pH) : f_G_shareOut_8 k0 x2 x3 x4 h =
    if x2 ≤ x4 then
    (rV h)
    else
    (oo none (hR h 0 k0 4) fun k_1 =>
      if kO h 4 k_1 = true then (cI (f_R_get k_1 x4 h) fun x_3 h_2 =>
      oo none (hR h_2 0 k0 3) fun k_4 =>
      if kO h_2 4 k_4 = true then (cV (f_R_put k_4 x4 x3 h_2) fun h_5 =>
      oo none (hR h_5 0 k0 4) fun k_6 =>
      if kO h_5 4 k_6 = true then (cV (f_R_put k_6 x4 x3 h_5) fun h_7 =>
      (f_G_shareOut_8 k0 x2 (x3 + x_3) (x4 + 1) h_7)) else none) else none) else none) := (exq_run (M := M_123) rfl 25 _ _ _ _).symm.trans rfl
noncomputable def f_G_drawInto (k0 : Nat) (x1 : Int32) (x2 : Int32) (h : pH) : pR := run pMs none 124 0 [some (.ref k0), some (.int x1), some (.int x2)] [] h
noncomputable def f_G_drawInto_5 (k0 : Nat) (x2 : Int32) (x3 : Int32) (h : pH) : pR := run pMs none 124 5 [some (.ref k0), none, some (.int x2), some (.int x3)] [] h
theorem e_G_drawInto (k0 : Nat) (x1 : Int32) (x2 : Int32) (h : pH) : f_G_drawInto k0 x1 x2 h =
    (f_G_drawInto_5 k0 x2 (x1 * (19 : Int32)) h) := (exq_run (M := M_124) rfl 5 _ _ _ _).symm.trans rfl
set_option maxRecDepth 100000 in
theorem e_G_drawInto_5 (k0 : Nat) (x2 : Int32) (x3 : Int32) (h : pH) : f_G_drawInto_5 k0 x2 x3 h =
    if (x2 * (19 : Int32)) ≤ x3 then
    (rV h)
    else
    (oo none (hR h 0 k0 1) fun k_1 =>
      if kO h 4 k_1 = true then (cI (f_R_get k_1 x3 h) fun x_3 h_2 =>
      if x_3 = (-1 : Int32) then
      ((f_G_drawInto_5 k0 x2 (x3 + 1) h_2))
      else
      (oo none (hR h_2 0 k0 2) fun k_4 =>
        oo none (hR h_2 0 k0 4) fun k_5 =>
        if kO h_2 4 k_5 = true then (cI (f_R_get k_5 x_3 h_2) fun x_7 h_6 =>
        if kO h_6 4 k_4 = true then (cV (f_R_put k_4 x_7 x3 h_6) fun h_8 =>
        oo none (hR h_8 0 k0 4) fun k_9 =>
        oo none (hR h_8 0 k0 4) fun k_10 =>
        if kO h_8 4 k_10 = true then (cI (f_R_get k_10 x_3 h_8) fun x_12 h_11 =>
        if kO h_11 4 k_9 = true then (cV (f_R_put k_9 x_3 (x_12 + (1 : Int32)) h_11) fun h_13 =>
        (f_G_drawInto_5 k0 x2 (x3 + 1) h_13)) else none) else none) else none) else none)) else none) := (exq_run (M := M_124) rfl 34 _ _ _ _).symm.trans rfl
noncomputable def f_G_draw (k0 : Nat) (x1 : Int32) (h : pH) : pR := run pMs none 125 0 [some (.ref k0), some (.int x1)] [] h
set_option maxRecDepth 100000 in
theorem e_G_draw (k0 : Nat) (x1 : Int32) (h : pH) : f_G_draw k0 x1 h =
    oo none (hI h 0 k0 5) fun x_1 =>
    cI (f_N_isIn x_1 x1 h) fun x_3 h_2 =>
    if x_3 = 0 then
    (oo none (hI h_2 0 k0 5) fun x_4 =>
      if kO h_2 0 k0 = true then
      (cI (f_G_firstNode x1 (sI h_2 k0 5 (x_4 ||| ((1 : Int32) <<< (x1 &&& 31))))) fun x_6 h_5 =>
      cI (f_K_wordsOf x1 h_5) fun x_8 h_7 =>
      if kO h_7 0 k0 = true then (cV (f_G_drawOnward k0 x1 x_6 (x_6 + x_8) h_7) fun h_9 =>
      if kO h_9 0 k0 = true then (cV (f_G_shareOut k0 x_6 (x_6 + x_8) h_9) fun h_10 =>
      if kO h_10 0 k0 = true then (cV (f_G_drawInto k0 x_6 (x_6 + x_8) h_10) fun h_11 =>
      rV h_11) else none) else none) else none)
      else none)
    else
    (rV h_2) := (exq_run (M := M_125) rfl 36 _ _ _ _).symm.trans rfl
noncomputable def f_B_keyOfMoves (k0 : Nat) (h : pH) : pR := run pMs none 127 0 [some (.ref k0)] [] h
set_option maxRecDepth 100000 in
theorem e_B_keyOfMoves (k0 : Nat) (h : pH) : f_B_keyOfMoves k0 h =
    oo none (hI h 6 k0 4) fun x_1 =>
    oo none (hI h 6 k0 5) fun x_2 =>
    oo none (hI h 6 k0 6) fun x_3 =>
    oo none (hI h 6 k0 1) fun x_4 =>
    rI ((((((x_1 <<< ((1 : Int32) &&& 31)) ||| x_2) <<< ((1 : Int32) &&& 31)) ||| x_3) <<< ((3 : Int32) &&& 31)) ||| x_4) h := (exq_run (M := M_127) rfl 19 _ _ _ _).symm.trans rfl
noncomputable def f_G_isHeld (k0 : Nat) (x1 : Int32) (x2 : Int32) (x3 : Int32) (h : pH) : pR := run pMs none 129 0 [some (.ref k0), some (.int x1), some (.int x2), some (.int x3)] [] h
set_option maxRecDepth 100000 in
theorem e_G_isHeld (k0 : Nat) (x1 : Int32) (x2 : Int32) (x3 : Int32) (h : pH) : f_G_isHeld k0 x1 x2 x3 h =
    cI (f_N_isPull x2 h) fun x_2 h_1 =>
    if x_2 = 0 then
    (rI (0 : Int32) h_1)
    else
    (oo none (hR h_1 0 k0 0) fun k_3 =>
      if kO h_1 4 k_3 = true then (cI (f_R_get k_3 x1 h_1) fun x_5 h_4 =>
      cI (f_N_slotAt x_5 x2 h_4) fun x_7 h_6 =>
      cI (f_N_isIn x3 x_7 h_6) fun x_9 h_8 =>
      if x_9 = 0 then
      (rI (0 : Int32) h_8)
      else
      (rI (1 : Int32) h_8)) else none) := (exq_run (M := M_129) rfl 16 _ _ _ _).symm.trans rfl
noncomputable def f_B_keyOfCosts (k0 : Nat) (h : pH) : pR := run pMs none 132 0 [some (.ref k0)] [] h
noncomputable def f_B_keyOfCosts_4 (k0 : Nat) (x1 : Int32) (x2 : Int32) (h : pH) : pR := run pMs none 132 4 [some (.ref k0), some (.int x1), some (.int x2)] [] h
theorem e_B_keyOfCosts (k0 : Nat) (h : pH) : f_B_keyOfCosts k0 h =
    (f_B_keyOfCosts_4 k0 (0 : Int32) (1 : Int32) h) := (exq_run (M := M_132) rfl 5 _ _ _ _).symm.trans rfl
set_option maxRecDepth 100000 in
theorem e_B_keyOfCosts_4 (k0 : Nat) (x1 : Int32) (x2 : Int32) (h : pH) : f_B_keyOfCosts_4 k0 x1 x2 h =
    oo none (hI h 6 k0 1) fun x_1 =>
    if x_1 < x2 then
    (if kO h 6 k0 = true then (cI (f_B_keyOfMoves k0 h) fun x_3 h_2 =>
      rI ((x1 <<< ((11 : Int32) &&& 31)) ||| x_3) h_2) else none)
    else
    (oo none (hR h 6 k0 3) fun k_4 =>
      if kO h 4 k_4 = true then (cI (f_R_get k_4 x2 h) fun x_6 h_5 =>
      (f_B_keyOfCosts_4 k0 ((x1 <<< ((4 : Int32) &&& 31)) ||| x_6) (x2 + 1) h_5)) else none) := (exq_run (M := M_132) rfl 16 _ _ _ _).symm.trans rfl
noncomputable def f_G_behind (k0 : Nat) (x1 : Int32) (x2 : Int32) (h : pH) : pR := run pMs none 143 0 [some (.ref k0), some (.int x1), some (.int x2)] [] h
theorem e_G_behind (k0 : Nat) (x1 : Int32) (x2 : Int32) (h : pH) : f_G_behind k0 x1 x2 h =
    oo none (hR h 0 k0 1) fun k_1 =>
    if kO h 4 k_1 = true then (cI (f_R_get k_1 ((x1 * (19 : Int32)) + x2) h) fun x_3 h_2 =>
    rI x_3 h_2) else none := (exq_run (M := M_143) rfl 10 _ _ _ _).symm.trans rfl
noncomputable def f_D_start (k0 : Nat) (k1 : Nat) (h : pH) : pR := run pMs none 160 0 [some (.ref k0), some (.ref k1)] [] h
noncomputable def f_D_start_2 (k0 : Nat) (k1 : Nat) (x2 : Int32) (h : pH) : pR := run pMs none 160 2 [some (.ref k0), some (.ref k1), some (.int x2)] [] h
theorem e_D_start (k0 : Nat) (k1 : Nat) (h : pH) : f_D_start k0 k1 h =
    (f_D_start_2 k0 k1 (0 : Int32) h) := (exq_run (M := M_160) rfl 3 _ _ _ _).symm.trans rfl
set_option maxRecDepth 100000 in
theorem e_D_start_2 (k0 : Nat) (k1 : Nat) (x2 : Int32) (h : pH) : f_D_start_2 k0 k1 x2 h =
    oo none (hI h 6 k1 1) fun x_1 =>
    cI (f_K_wordsOf x_1 h) fun x_3 h_2 =>
    if x_3 ≤ x2 then
    (oo none (hI h_2 6 k1 0) fun x_4 =>
      if kO h_2 3 k0 = true then
      (if kO (sI h_2 k0 2 x_4) 3 k0 = true then
      (oo none (hI (sI (sI h_2 k0 2 x_4) k0 3 (0 : Int32)) 3 k0 2) fun x_5 =>
      oo none (hI (sI (sI h_2 k0 2 x_4) k0 3 (0 : Int32)) 6 k1 5) fun x_6 =>
      cI (f_N_disorder x_5 x_6 (sI (sI h_2 k0 2 x_4) k0 3 (0 : Int32))) fun x_8 h_7 =>
      if kO h_7 3 k0 = true then
      (rV (sI h_7 k0 7 x_8))
      else none)
      else none)
      else none)
    else
    (oo none (hR h_2 3 k0 0) fun k_9 =>
      if kO h_2 4 k_9 = true then (cV (f_R_put k_9 x2 (-1 : Int32) h_2) fun h_10 =>
      (f_D_start_2 k0 k1 (x2 + 1) h_10)) else none) := (exq_run (M := M_160) rfl 21 _ _ _ _).symm.trans rfl
noncomputable def f_D_goRound (k0 : Nat) (k1 : Nat) (k2 : Nat) (h : pH) : pR := run pMs none 161 0 [some (.ref k0), some (.ref k1), some (.ref k2)] [] h
noncomputable def f_D_goRound_2 (k0 : Nat) (k1 : Nat) (k2 : Nat) (x3 : Int32) (h : pH) : pR := run pMs none 161 2 [some (.ref k0), some (.ref k1), some (.ref k2), some (.int x3)] [] h
theorem e_D_goRound (k0 : Nat) (k1 : Nat) (k2 : Nat) (h : pH) : f_D_goRound k0 k1 k2 h =
    (f_D_goRound_2 k0 k1 k2 (0 : Int32) h) := (exq_run (M := M_161) rfl 3 _ _ _ _).symm.trans rfl
set_option maxRecDepth 100000 in
theorem e_D_goRound_2 (k0 : Nat) (k1 : Nat) (k2 : Nat) (x3 : Int32) (h : pH) : f_D_goRound_2 k0 k1 k2 x3 h =
    if kO h 2 k2 = true then (cI (f_P_steps k2 h) fun x_2 h_1 =>
    if x_2 ≤ x3 then
    (rV h_1)
    else
    (if kO h_1 2 k2 = true then (cI (f_P_moveAt k2 x3 h_1) fun x_4 h_3 =>
      oo none (hI h_3 3 k0 2) fun x_5 =>
      oo none (hI h_3 6 k1 4) fun x_6 =>
      cI (f_N_reason x_5 x_6 x_4 h_3) fun x_8 h_7 =>
      if x_8 = 0 then
      (oo none (hI h_7 3 k0 3) fun x_9 =>
        oo none (hI h_7 3 k0 2) fun x_10 =>
        oo none (hR h_7 6 k1 3) fun k_11 =>
        cI (f_N_price x_10 k_11 x_4 h_7) fun x_13 h_12 =>
        if kO h_12 3 k0 = true then
        (oo none (hI (sI h_12 k0 3 (x_9 + x_13)) 3 k0 2) fun x_14 =>
        cI (f_N_after x_14 x_4 (sI h_12 k0 3 (x_9 + x_13))) fun x_16 h_15 =>
        if kO h_15 3 k0 = true then
        ((f_D_goRound_2 k0 k1 k2 (x3 + 1) (sI h_15 k0 2 x_16)))
        else none)
        else none)
      else
      ((f_D_goRound_2 k0 k1 k2 (x3 + 1) h_7))) else none)) else none := (exq_run (M := M_161) rfl 35 _ _ _ _).symm.trans rfl
noncomputable def f_D_follow (k0 : Nat) (k1 : Nat) (k2 : Nat) (h : pH) : pR := run pMs none 162 0 [some (.ref k0), some (.ref k1), some (.ref k2)] [] h
noncomputable def f_D_follow_10 (k0 : Nat) (k1 : Nat) (k2 : Nat) (x3 : Int32) (x4 : Int32) (h : pH) : pR := run pMs none 162 10 [some (.ref k0), some (.ref k1), some (.ref k2), some (.int x3), some (.int x4)] [] h
noncomputable def f_D_follow_53 (k0 : Nat) (k1 : Nat) (k2 : Nat) (x4 : Int32) (x5 : Int32) (t0 : Int32) (h : pH) : pR := run pMs none 162 53 [some (.ref k0), some (.ref k1), some (.ref k2), none, some (.int x4), some (.int x5)] [.int t0] h
theorem e_D_follow (k0 : Nat) (k1 : Nat) (k2 : Nat) (h : pH) : f_D_follow k0 k1 k2 h =
    if kO h 3 k0 = true then (cV (f_D_start k0 k1 h) fun h_1 =>
    (f_D_follow_10 k0 k1 k2 (0 : Int32) (0 : Int32) h_1)) else none := (exq_run (M := M_162) rfl 8 _ _ _ _).symm.trans rfl
set_option maxRecDepth 100000 in
theorem e_D_follow_10 (k0 : Nat) (k1 : Nat) (k2 : Nat) (x3 : Int32) (x4 : Int32) (h : pH) : f_D_follow_10 k0 k1 k2 x3 x4 h =
    if x3 = 0 then
    (if (2520 : Int32) < x4 then
      (rV h)
      else
      (oo none (hI h 3 k0 2) fun x_1 =>
        oo none (hI h 6 k1 1) fun x_2 =>
        cI (f_K_rankOf x_1 x_2 h) fun x_4 h_3 =>
        oo none (hR h_3 3 k0 0) fun k_5 =>
        if kO h_3 4 k_5 = true then (cI (f_R_get k_5 x_4 h_3) fun x_7 h_6 =>
        if x_7 = (-1 : Int32) then
        ((f_D_follow_53 k0 k1 k2 x4 x_4 (0 : Int32) h_6))
        else
        ((f_D_follow_53 k0 k1 k2 x4 x_4 (1 : Int32) h_6))) else none))
    else
    (rV h) := (exq_run (M := M_162) rfl 20 _ _ _ _).symm.trans rfl
set_option maxRecDepth 100000 in
theorem e_D_follow_53 (k0 : Nat) (k1 : Nat) (k2 : Nat) (x4 : Int32) (x5 : Int32) (t0 : Int32) (h : pH) : f_D_follow_53 k0 k1 k2 x4 x5 t0 h =
    if t0 = 0 then
    (oo none (hR h 3 k0 0) fun k_1 =>
      if kO h 4 k_1 = true then (cV (f_R_put k_1 x5 x4 h) fun h_2 =>
      oo none (hR h_2 3 k0 1) fun k_3 =>
      oo none (hI h_2 3 k0 3) fun x_4 =>
      if kO h_2 4 k_3 = true then (cV (f_R_put k_3 x5 x_4 h_2) fun h_5 =>
      oo none (hI h_5 3 k0 7) fun x_6 =>
      oo none (hI h_5 3 k0 2) fun x_7 =>
      oo none (hI h_5 6 k1 5) fun x_8 =>
      cI (f_N_disorder x_7 x_8 h_5) fun x_10 h_9 =>
      if kO h_9 3 k0 = true then
      (if kO (sI h_9 k0 7 (imin x_6 x_10)) 3 k0 = true then (cV (f_D_goRound k0 k1 k2 (sI h_9 k0 7 (imin x_6 x_10))) fun h_11 =>
      (f_D_follow_10 k0 k1 k2 t0 (x4 + 1) h_11)) else none)
      else none) else none) else none)
    else
    (oo none (hR h 3 k0 0) fun k_12 =>
      if kO h 4 k_12 = true then (cI (f_R_get k_12 x5 h) fun x_14 h_13 =>
      if kO h_13 3 k0 = true then
      (oo none (hI (sI h_13 k0 4 x_14) 3 k0 4) fun x_15 =>
      if kO (sI h_13 k0 4 x_14) 3 k0 = true then
      (oo none (hI (sI (sI h_13 k0 4 x_14) k0 5 (x4 - x_15)) 3 k0 3) fun x_16 =>
      oo none (hR (sI (sI h_13 k0 4 x_14) k0 5 (x4 - x_15)) 3 k0 1) fun k_17 =>
      if kO (sI (sI h_13 k0 4 x_14) k0 5 (x4 - x_15)) 4 k_17 = true then (cI (f_R_get k_17 x5 (sI (sI h_13 k0 4 x_14) k0 5 (x4 - x_15))) fun x_19 h_18 =>
      if kO h_18 3 k0 = true then
      ((f_D_follow_10 k0 k1 k2 t0 (x4 + 1) (sI h_18 k0 6 (x_16 - x_19))))
      else none) else none)
      else none)
      else none) else none) := (exq_run (M := M_162) rfl 31 _ _ _ _).symm.trans rfl
noncomputable def f_H_giveBack (k0 : Nat) (k1 : Nat) (h : pH) : pR := run pMs none 170 0 [some (.ref k0), some (.ref k1)] [] h
set_option maxRecDepth 100000 in
theorem e_H_giveBack (k0 : Nat) (k1 : Nat) (h : pH) : f_H_giveBack k0 k1 h =
    oo none (hI h 1 k0 1) fun x_1 =>
    if (x_1 - (1 : Int32)) < 0 then
    (rV h)
    else
    (oo none (hR h 1 k0 0) fun k_2 =>
      oo none (hN h k_2) fun x_3 =>
      if x_3 ≤ (x_1 - (1 : Int32)) then
      (rV h)
      else
      (oo none (hR h 1 k0 0) fun k_4 =>
        oo none (hQ h k_4 (x_1 - (1 : Int32))) fun k_5 =>
        oo none (hR h 1 k0 0) fun k_6 =>
        oo none (hQ h k_6 (x_1 - (1 : Int32))) fun k_7 =>
        if kO h 6 k1 = true then (cV (f_B_become k1 k_7 h) fun h_8 =>
        if kO h_8 1 k0 = true then
        (rV (sI h_8 k0 1 (x_1 - (1 : Int32))))
        else none) else none)) := (exq_run (M := M_170) rfl 28 _ _ _ _).symm.trans rfl
end
section
noncomputable def f_S_startAtOrder (k0 : Nat) (k1 : Nat) (k2 : Nat) (x3 : Int32) (x4 : Int32) (h : pH) : pR := run pMs none 128 0 [some (.ref k0), some (.ref k1), some (.ref k2), some (.int x3), some (.int x4)] [] h
noncomputable def f_S_startAtOrder_3 (k0 : Nat) (k1 : Nat) (k2 : Nat) (x4 : Int32) (x5 : Int32) (h : pH) : pR := run pMs none 128 3 [some (.ref k0), some (.ref k1), some (.ref k2), none, some (.int x4), some (.int x5)] [] h
theorem e_S_startAtOrder (k0 : Nat) (k1 : Nat) (k2 : Nat) (x3 : Int32) (x4 : Int32) (h : pH) : f_S_startAtOrder k0 k1 k2 x3 x4 h =
    (f_S_startAtOrder_3 k0 k1 k2 x4 x3 h) := (exq_run (M := M_128) rfl 3 _ _ _ _).symm.trans rfl
set_option maxRecDepth 100000 in
theorem e_S_startAtOrder_3 (k0 : Nat) (k1 : Nat) (k2 : Nat) (x4 : Int32) (x5 : Int32) (h : pH) : f_S_startAtOrder_3 k0 k1 k2 x4 x5 h =
    if x4 ≤ x5 then
    (rV h)
    else
    (oo none (hR h 5 k0 0) fun k_1 =>
      oo none (hR h 0 k_1 0) fun k_2 =>
      if kO h 4 k_2 = true then (cI (f_R_get k_2 x5 h) fun x_4 h_3 =>
      oo none (hI h_3 6 k1 5) fun x_5 =>
      oo none (hI h_3 6 k1 6) fun x_6 =>
      cI (f_N_isInOrder x_4 x_5 x_6 h_3) fun x_8 h_7 =>
      if x_8 = 0 then
      (if kO h_7 4 k2 = true then (cV (f_R_put k2 x5 (-1 : Int32) h_7) fun h_9 =>
        (f_S_startAtOrder_3 k0 k1 k2 x4 (x5 + 1) h_9)) else none)
      else
      (if kO h_7 4 k2 = true then (cV (f_R_put k2 x5 (0 : Int32) h_7) fun h_10 =>
        (f_S_startAtOrder_3 k0 k1 k2 x4 (x5 + 1) h_10)) else none)) else none) := (exq_run (M := M_128) rfl 24 _ _ _ _).symm.trans rfl
noncomputable def f_S_comeFrom (k0 : Nat) (x1 : Int32) (x2 : Int32) (x3 : Int32) (h : pH) : pR := run pMs none 130 0 [some (.ref k0), some (.int x1), some (.int x2), some (.int x3)] [] h
noncomputable def f_S_comeFrom_16 (k0 : Nat) (x1 : Int32) (x2 : Int32) (x4 : Int32) (x5 : Int32) (h : pH) : pR := run pMs none 130 16 [some (.ref k0), some (.int x1), some (.int x2), none, some (.int x4), some (.int x5)] [] h
theorem e_S_comeFrom (k0 : Nat) (x1 : Int32) (x2 : Int32) (x3 : Int32) (h : pH) : f_S_comeFrom k0 x1 x2 x3 h =
    oo none (hR h 5 k0 0) fun k_1 =>
    oo none (hR h 0 k_1 3) fun k_2 =>
    if kO h 4 k_2 = true then (cI (f_R_get k_2 x1 h) fun x_4 h_3 =>
    (f_S_comeFrom_16 k0 x1 x2 x3 x_4 h_3)) else none := (exq_run (M := M_130) rfl 9 _ _ _ _).symm.trans rfl
set_option maxRecDepth 100000 in
theorem e_S_comeFrom_16 (k0 : Nat) (x1 : Int32) (x2 : Int32) (x4 : Int32) (x5 : Int32) (h : pH) : f_S_comeFrom_16 k0 x1 x2 x4 x5 h =
    oo none (hR h 5 k0 0) fun k_1 =>
    oo none (hR h 0 k_1 4) fun k_2 =>
    if kO h 4 k_2 = true then (cI (f_R_get k_2 x1 h) fun x_4 h_3 =>
    if x_4 ≤ x5 then
    (rI x4 h_3)
    else
    (oo none (hR h_3 5 k0 0) fun k_5 =>
      oo none (hR h_3 0 k_5 2) fun k_6 =>
      if kO h_3 4 k_6 = true then (cI (f_R_get k_6 x5 h_3) fun x_8 h_7 =>
      if (19 : Int32) = 0 then none else
      oo none (hR h_7 5 k0 1) fun k_9 =>
      if kO h_7 4 k_9 = true then (cI (f_R_get k_9 (x_8 / (19 : Int32)) h_7) fun x_11 h_10 =>
      if x_11 = (-1 : Int32) then
      (oo none (hR h_10 5 k0 0) fun k_12 =>
        if (19 : Int32) = 0 then none else
        if kO h_10 0 k_12 = true then (cI (f_G_isHeld k_12 (x_8 / (19 : Int32)) (x_8 - x_8 / (19 : Int32) * (19 : Int32)) x2 h_10) fun x_14 h_13 =>
        if x_14 = 0 then
        (oo none (hR h_13 5 k0 1) fun k_15 =>
          oo none (hR h_13 5 k0 1) fun k_16 =>
          if kO h_13 4 k_16 = true then (cI (f_R_get k_16 x1 h_13) fun x_18 h_17 =>
          if kO h_17 4 k_15 = true then (cV (f_R_put k_15 (x_8 / (19 : Int32)) (x_18 + (1 : Int32)) h_17) fun h_19 =>
          oo none (hR h_19 5 k0 8) fun k_20 =>
          if kO h_19 4 k_20 = true then (cV (f_R_put k_20 x4 (x_8 / (19 : Int32)) h_19) fun h_21 =>
          (f_S_comeFrom_16 k0 x1 x2 (x4 + 1) (x5 + 1) h_21)) else none) else none) else none)
        else
        ((f_S_comeFrom_16 k0 x1 x2 x4 (x5 + 1) h_13))) else none)
      else
      ((f_S_comeFrom_16 k0 x1 x2 x4 (x5 + 1) h_10))) else none) else none)) else none := (exq_run (M := M_130) rfl 51 _ _ _ _).symm.trans rfl
noncomputable def f_S_findFewest (k0 : Nat) (k1 : Nat) (h : pH) : pR := run pMs none 131 0 [some (.ref k0), some (.ref k1)] [] h
noncomputable def f_S_findFewest_56 (k0 : Nat) (k1 : Nat) (x4 : Int32) (x5 : Int32) (x6 : Int32) (h : pH) : pR := run pMs none 131 56 [some (.ref k0), some (.ref k1), none, none, some (.int x4), some (.int x5), some (.int x6)] [] h
noncomputable def f_S_findFewest_98 (k0 : Nat) (k1 : Nat) (x5 : Int32) (x6 : Int32) (h : pH) : pR := run pMs none 131 98 [some (.ref k0), some (.ref k1), none, none, none, some (.int x5), some (.int x6)] [] h
set_option maxRecDepth 100000 in
theorem e_S_findFewest (k0 : Nat) (k1 : Nat) (h : pH) : f_S_findFewest k0 k1 h =
    if kO h 6 k1 = true then (cI (f_B_keyOfMoves k1 h) fun x_2 h_1 =>
    oo none (hI h_1 5 k0 4) fun x_3 =>
    if x_2 = x_3 then
    (rV h_1)
    else
    (if kO h_1 5 k0 = true then
      (oo none (hI (sI h_1 k0 4 x_2) 6 k1 1) fun x_4 =>
      cI (f_G_firstNode x_4 (sI h_1 k0 4 x_2)) fun x_6 h_5 =>
      oo none (hI h_5 6 k1 1) fun x_7 =>
      cI (f_K_wordsOf x_7 h_5) fun x_9 h_8 =>
      oo none (hR h_8 5 k0 1) fun k_10 =>
      if kO h_8 5 k0 = true then (cV (f_S_startAtOrder k0 k1 k_10 x_6 (x_6 + x_9) h_8) fun h_11 =>
      (f_S_findFewest_56 k0 k1 (x_6 + x_9) (0 : Int32) x_6 h_11)) else none)
      else none)) else none := (exq_run (M := M_131) rfl 32 _ _ _ _).symm.trans rfl
set_option maxRecDepth 100000 in
theorem e_S_findFewest_56 (k0 : Nat) (k1 : Nat) (x4 : Int32) (x5 : Int32) (x6 : Int32) (h : pH) : f_S_findFewest_56 k0 k1 x4 x5 x6 h =
    if x4 ≤ x6 then
    ((f_S_findFewest_98 k0 k1 x5 (0 : Int32) h))
    else
    (oo none (hR h 5 k0 1) fun k_1 =>
      if kO h 4 k_1 = true then (cI (f_R_get k_1 x6 h) fun x_3 h_2 =>
      if x_3 = 0 then
      (oo none (hR h_2 5 k0 8) fun k_4 =>
        if kO h_2 4 k_4 = true then (cV (f_R_put k_4 x5 x6 h_2) fun h_5 =>
        (f_S_findFewest_56 k0 k1 x4 (x5 + 1) (x6 + 1) h_5)) else none)
      else
      ((f_S_findFewest_56 k0 k1 x4 x5 (x6 + 1) h_2))) else none) := (exq_run (M := M_131) rfl 17 _ _ _ _).symm.trans rfl
set_option maxRecDepth 100000 in
theorem e_S_findFewest_98 (k0 : Nat) (k1 : Nat) (x5 : Int32) (x6 : Int32) (h : pH) : f_S_findFewest_98 k0 k1 x5 x6 h =
    if x5 ≤ x6 then
    (rV h)
    else
    (if (2520 : Int32) ≤ x6 then
      (rV h)
      else
      (oo none (hR h 5 k0 8) fun k_1 =>
        if kO h 4 k_1 = true then (cI (f_R_get k_1 x6 h) fun x_3 h_2 =>
        oo none (hI h_2 6 k1 4) fun x_4 =>
        if kO h_2 5 k0 = true then (cI (f_S_comeFrom k0 x_3 x_4 x5 h_2) fun x_6 h_5 =>
        (f_S_findFewest_98 k0 k1 x_6 (x6 + 1) h_5)) else none) else none)) := (exq_run (M := M_131) rfl 19 _ _ _ _).symm.trans rfl
noncomputable def f_S_offerBack (k0 : Nat) (k1 : Nat) (k2 : Nat) (x3 : Int32) (h : pH) : pR := run pMs none 133 0 [some (.ref k0), some (.ref k1), some (.ref k2), some (.int x3)] [] h
noncomputable def f_S_offerBack_16 (k0 : Nat) (k1 : Nat) (k2 : Nat) (x3 : Int32) (x4 : Int32) (x5 : Int32) (h : pH) : pR := run pMs none 133 16 [some (.ref k0), some (.ref k1), some (.ref k2), some (.int x3), some (.int x4), some (.int x5)] [] h
noncomputable def f_S_offerBack_110 (k0 : Nat) (k1 : Nat) (k2 : Nat) (x3 : Int32) (x4 : Int32) (x5 : Int32) (x7 : Int32) (x8 : Int32) (x9 : Int32) (h : pH) : pR := run pMs none 133 110 [some (.ref k0), some (.ref k1), some (.ref k2), some (.int x3), some (.int x4), some (.int x5), none, some (.int x7), some (.int x8), some (.int x9)] [] h
theorem e_S_offerBack (k0 : Nat) (k1 : Nat) (k2 : Nat) (x3 : Int32) (h : pH) : f_S_offerBack k0 k1 k2 x3 h =
    oo none (hR h 5 k0 0) fun k_1 =>
    oo none (hR h 0 k_1 3) fun k_2 =>
    if kO h 4 k_2 = true then (cI (f_R_get k_2 x3 h) fun x_4 h_3 =>
    (f_S_offerBack_16 k0 k1 k2 x3 (-1 : Int32) x_4 h_3)) else none := (exq_run (M := M_133) rfl 9 _ _ _ _).symm.trans rfl
set_option maxRecDepth 100000 in
theorem e_S_offerBack_16 (k0 : Nat) (k1 : Nat) (k2 : Nat) (x3 : Int32) (x4 : Int32) (x5 : Int32) (h : pH) : f_S_offerBack_16 k0 k1 k2 x3 x4 x5 h =
    oo none (hR h 5 k0 0) fun k_1 =>
    oo none (hR h 0 k_1 4) fun k_2 =>
    if kO h 4 k_2 = true then (cI (f_R_get k_2 x3 h) fun x_4 h_3 =>
    if x_4 ≤ x5 then
    (rI x4 h_3)
    else
    (oo none (hR h_3 5 k0 0) fun k_5 =>
      oo none (hR h_3 0 k_5 2) fun k_6 =>
      if kO h_3 4 k_6 = true then (cI (f_R_get k_6 x5 h_3) fun x_8 h_7 =>
      if (19 : Int32) = 0 then none else
      if (19 : Int32) = 0 then none else
      if kO h_7 4 k2 = true then (cI (f_R_get k2 x3 h_7) fun x_10 h_9 =>
      oo none (hR h_9 5 k0 0) fun k_11 =>
      oo none (hR h_9 0 k_11 0) fun k_12 =>
      if kO h_9 4 k_12 = true then (cI (f_R_get k_12 (x_8 / (19 : Int32)) h_9) fun x_14 h_13 =>
      oo none (hR h_13 6 k1 3) fun k_15 =>
      cI (f_N_price x_14 k_15 (x_8 - x_8 / (19 : Int32) * (19 : Int32)) h_13) fun x_17 h_16 =>
      if kO h_16 4 k2 = true then (cI (f_R_get k2 (x_8 / (19 : Int32)) h_16) fun x_19 h_18 =>
      if x_19 = (-1 : Int32) then
      ((f_S_offerBack_110 k0 k1 k2 x3 x4 x5 (x_8 / (19 : Int32)) (x_8 - x_8 / (19 : Int32) * (19 : Int32)) (x_10 + x_17) h_18))
      else
      (if x_19 ≤ (x_10 + x_17) then
        ((f_S_offerBack_16 k0 k1 k2 x3 x4 (x5 + 1) h_18))
        else
        ((f_S_offerBack_110 k0 k1 k2 x3 x4 x5 (x_8 / (19 : Int32)) (x_8 - x_8 / (19 : Int32) * (19 : Int32)) (x_10 + x_17) h_18)))) else none) else none) else none) else none)) else none := (exq_run (M := M_133) rfl 48 _ _ _ _).symm.trans rfl
set_option maxRecDepth 100000 in
theorem e_S_offerBack_110 (k0 : Nat) (k1 : Nat) (k2 : Nat) (x3 : Int32) (x4 : Int32) (x5 : Int32) (x7 : Int32) (x8 : Int32) (x9 : Int32) (h : pH) : f_S_offerBack_110 k0 k1 k2 x3 x4 x5 x7 x8 x9 h =
    oo none (hR h 5 k0 0) fun k_1 =>
    oo none (hI h 6 k1 4) fun x_2 =>
    if kO h 0 k_1 = true then (cI (f_G_isHeld k_1 x7 x8 x_2 h) fun x_4 h_3 =>
    if x_4 = 0 then
    (if kO h_3 4 k2 = true then (cV (f_R_put k2 x7 x9 h_3) fun h_5 =>
      (f_S_offerBack_16 k0 k1 k2 x3 (imax x4 x9) (x5 + 1) h_5)) else none)
    else
    ((f_S_offerBack_16 k0 k1 k2 x3 x4 (x5 + 1) h_3))) else none := (exq_run (M := M_133) rfl 19 _ _ _ _).symm.trans rfl
noncomputable def f_S_settleCosts (k0 : Nat) (k1 : Nat) (h : pH) : pR := run pMs none 134 0 [some (.ref k0), some (.ref k1)] [] h
noncomputable def f_S_settleCosts_56 (k0 : Nat) (k1 : Nat) (x3 : Int32) (x4 : Int32) (x5 : Int32) (x6 : Int32) (h : pH) : pR := run pMs none 134 56 [some (.ref k0), some (.ref k1), none, some (.int x3), some (.int x4), some (.int x5), some (.int x6)] [] h
noncomputable def f_S_settleCosts_74 (k0 : Nat) (k1 : Nat) (x3 : Int32) (x4 : Int32) (x5 : Int32) (x6 : Int32) (x7 : Int32) (h : pH) : pR := run pMs none 134 74 [some (.ref k0), some (.ref k1), none, some (.int x3), some (.int x4), some (.int x5), some (.int x6), some (.int x7)] [] h
set_option maxRecDepth 100000 in
theorem e_S_settleCosts (k0 : Nat) (k1 : Nat) (h : pH) : f_S_settleCosts k0 k1 h =
    if kO h 6 k1 = true then (cI (f_B_keyOfCosts k1 h) fun x_2 h_1 =>
    oo none (hI h_1 5 k0 5) fun x_3 =>
    if x_2 = x_3 then
    (rV h_1)
    else
    (if kO h_1 5 k0 = true then
      (oo none (hI (sI h_1 k0 5 x_2) 6 k1 1) fun x_4 =>
      cI (f_G_firstNode x_4 (sI h_1 k0 5 x_2)) fun x_6 h_5 =>
      oo none (hI h_5 6 k1 1) fun x_7 =>
      cI (f_K_wordsOf x_7 h_5) fun x_9 h_8 =>
      oo none (hR h_8 5 k0 2) fun k_10 =>
      if kO h_8 5 k0 = true then (cV (f_S_startAtOrder k0 k1 k_10 x_6 (x_6 + x_9) h_8) fun h_11 =>
      (f_S_settleCosts_56 k0 k1 x_6 (x_6 + x_9) (0 : Int32) (0 : Int32) h_11)) else none)
      else none)) else none := (exq_run (M := M_134) rfl 32 _ _ _ _).symm.trans rfl
theorem e_S_settleCosts_56 (k0 : Nat) (k1 : Nat) (x3 : Int32) (x4 : Int32) (x5 : Int32) (x6 : Int32) (h : pH) : f_S_settleCosts_56 k0 k1 x3 x4 x5 x6 h =
    if x5 < x6 then
    (rV h)
    else
    (if (22680 : Int32) < x6 then
      (rV h)
      else
      ((f_S_settleCosts_74 k0 k1 x3 x4 x5 x6 x3 h))) := (exq_run (M := M_134) rfl 9 _ _ _ _).symm.trans rfl
set_option maxRecDepth 100000 in
theorem e_S_settleCosts_74 (k0 : Nat) (k1 : Nat) (x3 : Int32) (x4 : Int32) (x5 : Int32) (x6 : Int32) (x7 : Int32) (h : pH) : f_S_settleCosts_74 k0 k1 x3 x4 x5 x6 x7 h =
    if x4 ≤ x7 then
    ((f_S_settleCosts_56 k0 k1 x3 x4 x5 (x6 + 1) h))
    else
    (oo none (hR h 5 k0 2) fun k_1 =>
      if kO h 4 k_1 = true then (cI (f_R_get k_1 x7 h) fun x_3 h_2 =>
      if x_3 = x6 then
      (oo none (hR h_2 5 k0 2) fun k_4 =>
        if kO h_2 5 k0 = true then (cI (f_S_offerBack k0 k1 k_4 x7 h_2) fun x_6 h_5 =>
        (f_S_settleCosts_74 k0 k1 x3 x4 (imax x5 x_6) x6 (x7 + 1) h_5)) else none)
      else
      ((f_S_settleCosts_74 k0 k1 x3 x4 x5 x6 (x7 + 1) h_2))) else none) := (exq_run (M := M_134) rfl 21 _ _ _ _).symm.trans rfl
noncomputable def f_S_lowerCosts (k0 : Nat) (k1 : Nat) (h : pH) : pR := run pMs none 135 0 [some (.ref k0), some (.ref k1)] [] h
noncomputable def f_S_lowerCosts_56 (k0 : Nat) (k1 : Nat) (x3 : Int32) (x4 : Int32) (x5 : Int32) (x6 : Int32) (h : pH) : pR := run pMs none 135 56 [some (.ref k0), some (.ref k1), none, some (.int x3), some (.int x4), some (.int x5), some (.int x6)] [] h
noncomputable def f_S_lowerCosts_75 (k0 : Nat) (k1 : Nat) (x3 : Int32) (x4 : Int32) (x5 : Int32) (x6 : Int32) (x7 : Int32) (h : pH) : pR := run pMs none 135 75 [some (.ref k0), some (.ref k1), none, some (.int x3), some (.int x4), some (.int x5), some (.int x6), some (.int x7)] [] h
set_option maxRecDepth 100000 in
theorem e_S_lowerCosts (k0 : Nat) (k1 : Nat) (h : pH) : f_S_lowerCosts k0 k1 h =
    if kO h 6 k1 = true then (cI (f_B_keyOfCosts k1 h) fun x_2 h_1 =>
    oo none (hI h_1 5 k0 6) fun x_3 =>
    if x_2 = x_3 then
    (rV h_1)
    else
    (if kO h_1 5 k0 = true then
      (oo none (hI (sI h_1 k0 6 x_2) 6 k1 1) fun x_4 =>
      cI (f_G_firstNode x_4 (sI h_1 k0 6 x_2)) fun x_6 h_5 =>
      oo none (hI h_5 6 k1 1) fun x_7 =>
      cI (f_K_wordsOf x_7 h_5) fun x_9 h_8 =>
      oo none (hR h_8 5 k0 3) fun k_10 =>
      if kO h_8 5 k0 = true then (cV (f_S_startAtOrder k0 k1 k_10 x_6 (x_6 + x_9) h_8) fun h_11 =>
      (f_S_lowerCosts_56 k0 k1 x_6 (x_6 + x_9) (1 : Int32) (0 : Int32) h_11)) else none)
      else none)) else none := (exq_run (M := M_135) rfl 32 _ _ _ _).symm.trans rfl
theorem e_S_lowerCosts_56 (k0 : Nat) (k1 : Nat) (x3 : Int32) (x4 : Int32) (x5 : Int32) (x6 : Int32) (h : pH) : f_S_lowerCosts_56 k0 k1 x3 x4 x5 x6 h =
    if x5 = 0 then
    (rV h)
    else
    (if (2520 : Int32) < x6 then
      (rV h)
      else
      ((f_S_lowerCosts_75 k0 k1 x3 x4 (0 : Int32) x6 x3 h))) := (exq_run (M := M_135) rfl 10 _ _ _ _).symm.trans rfl
set_option maxRecDepth 100000 in
theorem e_S_lowerCosts_75 (k0 : Nat) (k1 : Nat) (x3 : Int32) (x4 : Int32) (x5 : Int32) (x6 : Int32) (x7 : Int32) (h : pH) : f_S_lowerCosts_75 k0 k1 x3 x4 x5 x6 x7 h =
    if x4 ≤ x7 then
    ((f_S_lowerCosts_56 k0 k1 x3 x4 x5 (x6 + 1) h))
    else
    (oo none (hR h 5 k0 3) fun k_1 =>
      if kO h 4 k_1 = true then (cI (f_R_get k_1 x7 h) fun x_3 h_2 =>
      if x_3 = (-1 : Int32) then
      ((f_S_lowerCosts_75 k0 k1 x3 x4 x5 x6 (x7 + 1) h_2))
      else
      (oo none (hR h_2 5 k0 3) fun k_4 =>
        if kO h_2 5 k0 = true then (cI (f_S_offerBack k0 k1 k_4 x7 h_2) fun x_6 h_5 =>
        if x_6 = (-1 : Int32) then
        ((f_S_lowerCosts_75 k0 k1 x3 x4 x5 x6 (x7 + 1) h_5))
        else
        ((f_S_lowerCosts_75 k0 k1 x3 x4 (1 : Int32) x6 (x7 + 1) h_5))) else none)) else none) := (exq_run (M := M_135) rfl 22 _ _ _ _).symm.trans rfl
noncomputable def f_S_findWays (k0 : Nat) (k1 : Nat) (x2 : Int32) (h : pH) : pR := run pMs none 136 0 [some (.ref k0), some (.ref k1), some (.int x2)] [] h
theorem e_S_findWays (k0 : Nat) (k1 : Nat) (x2 : Int32) (h : pH) : f_S_findWays k0 k1 x2 h =
    if x2 = 0 then
    (if kO h 5 k0 = true then (cV (f_S_findFewest k0 k1 h) fun h_1 =>
    oo none (hR h_1 5 k0 1) fun k_2 =>
    rR k_2 h_1) else none)
    else if x2 = 1 then
    (if kO h 5 k0 = true then (cV (f_S_settleCosts k0 k1 h) fun h_3 =>
    oo none (hR h_3 5 k0 2) fun k_4 =>
    rR k_4 h_3) else none)
    else
    (if kO h 5 k0 = true then (cV (f_S_lowerCosts k0 k1 h) fun h_5 =>
    oo none (hR h_5 5 k0 3) fun k_6 =>
    rR k_6 h_5) else none) := (exq_run (M := M_136) rfl 9 _ _ _ _).symm.trans rfl
noncomputable def f_S_wayFrom (k0 : Nat) (k1 : Nat) (x2 : Int32) (x3 : Int32) (h : pH) : pR := run pMs none 137 0 [some (.ref k0), some (.ref k1), some (.int x2), some (.int x3)] [] h
theorem e_S_wayFrom (k0 : Nat) (k1 : Nat) (x2 : Int32) (x3 : Int32) (h : pH) : f_S_wayFrom k0 k1 x2 x3 h =
    if kO h 5 k0 = true then (cR (f_S_findWays k0 k1 x3 h) fun k_2 h_1 =>
    oo none (hI h_1 6 k1 1) fun x_3 =>
    cI (f_G_firstNode x_3 h_1) fun x_5 h_4 =>
    if kO h_4 4 k_2 = true then (cI (f_R_get k_2 (x_5 + x2) h_4) fun x_7 h_6 =>
    rI x_7 h_6) else none) else none := (exq_run (M := M_137) rfl 12 _ _ _ _).symm.trans rfl
noncomputable def f_S_nextMove (k0 : Nat) (k1 : Nat) (k2 : Nat) (x3 : Int32) (x4 : Int32) (h : pH) : pR := run pMs none 144 0 [some (.ref k0), some (.ref k1), some (.ref k2), some (.int x3), some (.int x4)] [] h
noncomputable def f_S_nextMove_3 (k0 : Nat) (k1 : Nat) (k2 : Nat) (x3 : Int32) (x4 : Int32) (x5 : Int32) (h : pH) : pR := run pMs none 144 3 [some (.ref k0), some (.ref k1), some (.ref k2), some (.int x3), some (.int x4), some (.int x5)] [] h
noncomputable def f_S_nextMove_86 (k0 : Nat) (k1 : Nat) (k2 : Nat) (x3 : Int32) (x4 : Int32) (x5 : Int32) (x6 : Int32) (t0 : Int32) (h : pH) : pR := run pMs none 144 86 [some (.ref k0), some (.ref k1), some (.ref k2), some (.int x3), some (.int x4), some (.int x5), some (.int x6)] [.int t0] h
theorem e_S_nextMove (k0 : Nat) (k1 : Nat) (k2 : Nat) (x3 : Int32) (x4 : Int32) (h : pH) : f_S_nextMove k0 k1 k2 x3 x4 h =
    (f_S_nextMove_3 k0 k1 k2 x3 x4 (0 : Int32) h) := (exq_run (M := M_144) rfl 3 _ _ _ _).symm.trans rfl
set_option maxRecDepth 100000 in
theorem e_S_nextMove_3 (k0 : Nat) (k1 : Nat) (k2 : Nat) (x3 : Int32) (x4 : Int32) (x5 : Int32) (h : pH) : f_S_nextMove_3 k0 k1 k2 x3 x4 x5 h =
    if (19 : Int32) ≤ x5 then
    (rI (-1 : Int32) h)
    else
    (oo none (hR h 5 k0 0) fun k_1 =>
      if kO h 0 k_1 = true then (cI (f_G_behind k_1 x4 x5 h) fun x_3 h_2 =>
      if x_3 = (-1 : Int32) then
      ((f_S_nextMove_3 k0 k1 k2 x3 x4 (x5 + 1) h_2))
      else
      (if kO h_2 4 k2 = true then (cI (f_R_get k2 x_3 h_2) fun x_5 h_4 =>
        if x_5 = (-1 : Int32) then
        ((f_S_nextMove_3 k0 k1 k2 x3 x4 (x5 + 1) h_4))
        else
        (oo none (hR h_4 5 k0 0) fun k_6 =>
          oo none (hI h_4 6 k1 4) fun x_7 =>
          if kO h_4 0 k_6 = true then (cI (f_G_isHeld k_6 x4 x5 x_7 h_4) fun x_9 h_8 =>
          if x_9 = 0 then
          (if x3 = 0 then
            ((f_S_nextMove_86 k0 k1 k2 x3 x4 x5 x_3 (1 : Int32) h_8))
            else
            (oo none (hR h_8 5 k0 0) fun k_10 =>
              oo none (hR h_8 0 k_10 0) fun k_11 =>
              if kO h_8 4 k_11 = true then (cI (f_R_get k_11 x4 h_8) fun x_13 h_12 =>
              oo none (hR h_12 6 k1 3) fun k_14 =>
              cI (f_N_price x_13 k_14 x5 h_12) fun x_16 h_15 =>
              (f_S_nextMove_86 k0 k1 k2 x3 x4 x5 x_3 x_16 h_15)) else none))
          else
          ((f_S_nextMove_3 k0 k1 k2 x3 x4 (x5 + 1) h_8))) else none)) else none)) else none) := (exq_run (M := M_144) rfl 38 _ _ _ _).symm.trans rfl
theorem e_S_nextMove_86 (k0 : Nat) (k1 : Nat) (k2 : Nat) (x3 : Int32) (x4 : Int32) (x5 : Int32) (x6 : Int32) (t0 : Int32) (h : pH) : f_S_nextMove_86 k0 k1 k2 x3 x4 x5 x6 t0 h =
    if kO h 4 k2 = true then (cI (f_R_get k2 x6 h) fun x_2 h_1 =>
    if kO h_1 4 k2 = true then (cI (f_R_get k2 x4 h_1) fun x_4 h_3 =>
    if (t0 + x_2) = x_4 then
    (rI x5 h_3)
    else
    ((f_S_nextMove_3 k0 k1 k2 x3 x4 (x5 + 1) h_3))) else none) else none := (exq_run (M := M_144) rfl 13 _ _ _ _).symm.trans rfl
noncomputable def f_S_plannedMove (k0 : Nat) (k1 : Nat) (x2 : Int32) (x3 : Int32) (h : pH) : pR := run pMs none 145 0 [some (.ref k0), some (.ref k1), some (.int x2), some (.int x3)] [] h
noncomputable def f_S_plannedMove_11 (k0 : Nat) (k1 : Nat) (x2 : Int32) (x3 : Int32) (t0 : Nat) (t1 : Nat) (t2 : Int32) (h : pH) : pR := run pMs none 145 11 [some (.ref k0), some (.ref k1), some (.int x2), some (.int x3)] [.int t2, .ref t1, .ref t0] h
noncomputable def f_S_plannedMove_36 (k0 : Nat) (k1 : Nat) (x2 : Int32) (x3 : Int32) (k4 : Nat) (x5 : Int32) (x6 : Int32) (x7 : Int32) (h : pH) : pR := run pMs none 145 36 [some (.ref k0), some (.ref k1), some (.int x2), some (.int x3), some (.ref k4), some (.int x5), some (.int x6), some (.int x7)] [] h
noncomputable def f_S_plannedMove_89 (x3 : Int32) (x6 : Int32) (h : pH) : pR := run pMs none 145 89 [none, none, none, some (.int x3), none, none, some (.int x6)] [] h
theorem e_S_plannedMove (k0 : Nat) (k1 : Nat) (x2 : Int32) (x3 : Int32) (h : pH) : f_S_plannedMove k0 k1 x2 x3 h =
    if x2 = 0 then
    ((f_S_plannedMove_11 k0 k1 x2 x3 k0 k1 (0 : Int32) h))
    else
    ((f_S_plannedMove_11 k0 k1 x2 x3 k0 k1 (1 : Int32) h)) := (exq_run (M := M_145) rfl 7 _ _ _ _).symm.trans rfl
set_option maxRecDepth 100000 in
theorem e_S_plannedMove_11 (k0 : Nat) (k1 : Nat) (x2 : Int32) (x3 : Int32) (t0 : Nat) (t1 : Nat) (t2 : Int32) (h : pH) : f_S_plannedMove_11 k0 k1 x2 x3 t0 t1 t2 h =
    if kO h 5 t0 = true then (cR (f_S_findWays t0 t1 t2 h) fun k_2 h_1 =>
    oo none (hI h_1 6 k1 1) fun x_3 =>
    cI (f_G_firstNode x_3 h_1) fun x_5 h_4 =>
    if kO h_4 6 k1 = true then (cI (f_B_rankOfNow k1 h_4) fun x_7 h_6 =>
    (f_S_plannedMove_36 k0 k1 x2 x3 k_2 (x_5 + x_7) (-1 : Int32) (0 : Int32) h_6)) else none) else none := (exq_run (M := M_145) rfl 14 _ _ _ _).symm.trans rfl
set_option maxRecDepth 100000 in
theorem e_S_plannedMove_36 (k0 : Nat) (k1 : Nat) (x2 : Int32) (x3 : Int32) (k4 : Nat) (x5 : Int32) (x6 : Int32) (x7 : Int32) (h : pH) : f_S_plannedMove_36 k0 k1 x2 x3 k4 x5 x6 x7 h =
    if x3 < x7 then
    ((f_S_plannedMove_89 x3 x6 h))
    else
    (if (2520 : Int32) ≤ x7 then
      ((f_S_plannedMove_89 x3 x6 h))
      else
      (if kO h 5 k0 = true then (cI (f_S_nextMove k0 k1 k4 x2 x5 h) fun x_2 h_1 =>
        if x_2 = (-1 : Int32) then
        (rI (-1 : Int32) h_1)
        else
        (oo none (hR h_1 5 k0 0) fun k_3 =>
          if kO h_1 0 k_3 = true then (cI (f_G_behind k_3 x5 x_2 h_1) fun x_5 h_4 =>
          (f_S_plannedMove_36 k0 k1 x2 x3 k4 x_5 x_2 (x7 + 1) h_4)) else none)) else none)) := (exq_run (M := M_145) rfl 25 _ _ _ _).symm.trans rfl
theorem e_S_plannedMove_89 (x3 : Int32) (x6 : Int32) (h : pH) : f_S_plannedMove_89 x3 x6 h =
    if (2520 : Int32) ≤ x3 then
    (rI (-1 : Int32) h)
    else
    (rI x6 h) := (exq_run (M := M_145) rfl 7 _ _ _ _).symm.trans rfl
noncomputable def f_S_savableWords (k0 : Nat) (k1 : Nat) (h : pH) : pR := run pMs none 149 0 [some (.ref k0), some (.ref k1)] [] h
noncomputable def f_S_savableWords_21 (k1 : Nat) (k2 : Nat) (x3 : Int32) (x4 : Int32) (x5 : Int32) (h : pH) : pR := run pMs none 149 21 [none, some (.ref k1), some (.ref k2), some (.int x3), some (.int x4), some (.int x5)] [] h
set_option maxRecDepth 100000 in
theorem e_S_savableWords (k0 : Nat) (k1 : Nat) (h : pH) : f_S_savableWords k0 k1 h =
    if kO h 5 k0 = true then (cR (f_S_findWays k0 k1 (0 : Int32) h) fun k_2 h_1 =>
    oo none (hI h_1 6 k1 1) fun x_3 =>
    cI (f_G_firstNode x_3 h_1) fun x_5 h_4 =>
    (f_S_savableWords_21 k1 k_2 x_5 (0 : Int32) (0 : Int32) h_4)) else none := (exq_run (M := M_149) rfl 14 _ _ _ _).symm.trans rfl
set_option maxRecDepth 100000 in
theorem e_S_savableWords_21 (k1 : Nat) (k2 : Nat) (x3 : Int32) (x4 : Int32) (x5 : Int32) (h : pH) : f_S_savableWords_21 k1 k2 x3 x4 x5 h =
    oo none (hI h 6 k1 1) fun x_1 =>
    cI (f_K_wordsOf x_1 h) fun x_3 h_2 =>
    if x_3 ≤ x5 then
    (rI x4 h_2)
    else
    (if kO h_2 4 k2 = true then (cI (f_R_get k2 (x3 + x5) h_2) fun x_5 h_4 =>
      if x_5 = (-1 : Int32) then
      ((f_S_savableWords_21 k1 k2 x3 x4 (x5 + 1) h_4))
      else
      ((f_S_savableWords_21 k1 k2 x3 (x4 + 1) (x5 + 1) h_4))) else none) := (exq_run (M := M_149) rfl 16 _ _ _ _).symm.trans rfl
noncomputable def f_S_greatestWay (k0 : Nat) (k1 : Nat) (x2 : Int32) (h : pH) : pR := run pMs none 150 0 [some (.ref k0), some (.ref k1), some (.int x2)] [] h
noncomputable def f_S_greatestWay_22 (k1 : Nat) (k3 : Nat) (x4 : Int32) (x5 : Int32) (x6 : Int32) (h : pH) : pR := run pMs none 150 22 [none, some (.ref k1), none, some (.ref k3), some (.int x4), some (.int x5), some (.int x6)] [] h
set_option maxRecDepth 100000 in
theorem e_S_greatestWay (k0 : Nat) (k1 : Nat) (x2 : Int32) (h : pH) : f_S_greatestWay k0 k1 x2 h =
    if kO h 5 k0 = true then (cR (f_S_findWays k0 k1 x2 h) fun k_2 h_1 =>
    oo none (hI h_1 6 k1 1) fun x_3 =>
    cI (f_G_firstNode x_3 h_1) fun x_5 h_4 =>
    (f_S_greatestWay_22 k1 k_2 x_5 (0 : Int32) (0 : Int32) h_4)) else none := (exq_run (M := M_150) rfl 14 _ _ _ _).symm.trans rfl
set_option maxRecDepth 100000 in
theorem e_S_greatestWay_22 (k1 : Nat) (k3 : Nat) (x4 : Int32) (x5 : Int32) (x6 : Int32) (h : pH) : f_S_greatestWay_22 k1 k3 x4 x5 x6 h =
    oo none (hI h 6 k1 1) fun x_1 =>
    cI (f_K_wordsOf x_1 h) fun x_3 h_2 =>
    if x_3 ≤ x6 then
    (rI x5 h_2)
    else
    (if kO h_2 4 k3 = true then (cI (f_R_get k3 (x4 + x6) h_2) fun x_5 h_4 =>
      (f_S_greatestWay_22 k1 k3 x4 (imax x5 x_5) (x6 + 1) h_4)) else none) := (exq_run (M := M_150) rfl 16 _ _ _ _).symm.trans rfl
noncomputable def f_S_worstRank (k0 : Nat) (k1 : Nat) (h : pH) : pR := run pMs none 151 0 [some (.ref k0), some (.ref k1)] [] h
noncomputable def f_S_worstRank_24 (k1 : Nat) (k2 : Nat) (x3 : Int32) (x4 : Int32) (x5 : Int32) (x6 : Int32) (h : pH) : pR := run pMs none 151 24 [none, some (.ref k1), some (.ref k2), some (.int x3), some (.int x4), some (.int x5), some (.int x6)] [] h
set_option maxRecDepth 100000 in
theorem e_S_worstRank (k0 : Nat) (k1 : Nat) (h : pH) : f_S_worstRank k0 k1 h =
    if kO h 5 k0 = true then (cR (f_S_findWays k0 k1 (0 : Int32) h) fun k_2 h_1 =>
    oo none (hI h_1 6 k1 1) fun x_3 =>
    cI (f_G_firstNode x_3 h_1) fun x_5 h_4 =>
    (f_S_worstRank_24 k1 k_2 x_5 (-1 : Int32) (0 : Int32) (0 : Int32) h_4)) else none := (exq_run (M := M_151) rfl 16 _ _ _ _).symm.trans rfl
set_option maxRecDepth 100000 in
theorem e_S_worstRank_24 (k1 : Nat) (k2 : Nat) (x3 : Int32) (x4 : Int32) (x5 : Int32) (x6 : Int32) (h : pH) : f_S_worstRank_24 k1 k2 x3 x4 x5 x6 h =
    oo none (hI h 6 k1 1) fun x_1 =>
    cI (f_K_wordsOf x_1 h) fun x_3 h_2 =>
    if x_3 ≤ x6 then
    (rI x5 h_2)
    else
    (if kO h_2 4 k2 = true then (cI (f_R_get k2 (x3 + x6) h_2) fun x_5 h_4 =>
      if x_5 ≤ x4 then
      ((f_S_worstRank_24 k1 k2 x3 x4 x5 (x6 + 1) h_4))
      else
      (if kO h_4 4 k2 = true then (cI (f_R_get k2 (x3 + x6) h_4) fun x_7 h_6 =>
        (f_S_worstRank_24 k1 k2 x3 x_7 x6 (x6 + 1) h_6)) else none)) else none) := (exq_run (M := M_151) rfl 23 _ _ _ _).symm.trans rfl
noncomputable def f_S_reachOn (k0 : Nat) (x1 : Int32) (x2 : Int32) (x3 : Int32) (h : pH) : pR := run pMs none 152 0 [some (.ref k0), some (.int x1), some (.int x2), some (.int x3)] [] h
noncomputable def f_S_reachOn_6 (k0 : Nat) (x1 : Int32) (x2 : Int32) (x4 : Int32) (x5 : Int32) (h : pH) : pR := run pMs none 152 6 [some (.ref k0), some (.int x1), some (.int x2), none, some (.int x4), some (.int x5)] [] h
theorem e_S_reachOn (k0 : Nat) (x1 : Int32) (x2 : Int32) (x3 : Int32) (h : pH) : f_S_reachOn k0 x1 x2 x3 h =
    (f_S_reachOn_6 k0 x1 x2 x3 (0 : Int32) h) := (exq_run (M := M_152) rfl 5 _ _ _ _).symm.trans rfl
set_option maxRecDepth 100000 in
theorem e_S_reachOn_6 (k0 : Nat) (x1 : Int32) (x2 : Int32) (x4 : Int32) (x5 : Int32) (h : pH) : f_S_reachOn_6 k0 x1 x2 x4 x5 h =
    if (19 : Int32) ≤ x5 then
    (rI x4 h)
    else
    (oo none (hR h 5 k0 0) fun k_1 =>
      if kO h 0 k_1 = true then (cI (f_G_behind k_1 x1 x5 h) fun x_3 h_2 =>
      if x_3 = (-1 : Int32) then
      ((f_S_reachOn_6 k0 x1 x2 x4 (x5 + 1) h_2))
      else
      (oo none (hR h_2 5 k0 7) fun k_4 =>
        if kO h_2 4 k_4 = true then (cI (f_R_get k_4 x_3 h_2) fun x_6 h_5 =>
        if x_6 = (-1 : Int32) then
        (oo none (hR h_5 5 k0 0) fun k_7 =>
          if kO h_5 0 k_7 = true then (cI (f_G_isHeld k_7 x1 x5 x2 h_5) fun x_9 h_8 =>
          if x_9 = 0 then
          (oo none (hR h_8 5 k0 7) fun k_10 =>
            oo none (hR h_8 5 k0 7) fun k_11 =>
            if kO h_8 4 k_11 = true then (cI (f_R_get k_11 x1 h_8) fun x_13 h_12 =>
            if kO h_12 4 k_10 = true then (cV (f_R_put k_10 x_3 (x_13 + (1 : Int32)) h_12) fun h_14 =>
            oo none (hR h_14 5 k0 8) fun k_15 =>
            if kO h_14 4 k_15 = true then (cV (f_R_put k_15 x4 x_3 h_14) fun h_16 =>
            (f_S_reachOn_6 k0 x1 x2 (x4 + 1) (x5 + 1) h_16)) else none) else none) else none)
          else
          ((f_S_reachOn_6 k0 x1 x2 x4 (x5 + 1) h_8))) else none)
        else
        ((f_S_reachOn_6 k0 x1 x2 x4 (x5 + 1) h_5))) else none)) else none) := (exq_run (M := M_152) rfl 44 _ _ _ _).symm.trans rfl
noncomputable def f_S_reach (k0 : Nat) (k1 : Nat) (x2 : Int32) (h : pH) : pR := run pMs none 153 0 [some (.ref k0), some (.ref k1), some (.int x2)] [] h
noncomputable def f_S_reach_11 (k0 : Nat) (k1 : Nat) (x2 : Int32) (x3 : Int32) (x4 : Int32) (h : pH) : pR := run pMs none 153 11 [some (.ref k0), some (.ref k1), some (.int x2), some (.int x3), some (.int x4)] [] h
noncomputable def f_S_reach_75 (k0 : Nat) (x2 : Int32) (x5 : Int32) (x6 : Int32) (h : pH) : pR := run pMs none 153 75 [some (.ref k0), none, some (.int x2), none, none, some (.int x5), some (.int x6)] [] h
theorem e_S_reach (k0 : Nat) (k1 : Nat) (x2 : Int32) (h : pH) : f_S_reach k0 k1 x2 h =
    oo none (hI h 6 k1 1) fun x_1 =>
    cI (f_G_firstNode x_1 h) fun x_3 h_2 =>
    (f_S_reach_11 k0 k1 x2 x_3 (0 : Int32) h_2) := (exq_run (M := M_153) rfl 7 _ _ _ _).symm.trans rfl
set_option maxRecDepth 100000 in
theorem e_S_reach_11 (k0 : Nat) (k1 : Nat) (x2 : Int32) (x3 : Int32) (x4 : Int32) (h : pH) : f_S_reach_11 k0 k1 x2 x3 x4 h =
    oo none (hI h 6 k1 1) fun x_1 =>
    cI (f_K_wordsOf x_1 h) fun x_3 h_2 =>
    if x_3 ≤ x4 then
    (if kO h_2 6 k1 = true then (cI (f_B_rankOfNow k1 h_2) fun x_5 h_4 =>
      oo none (hR h_4 5 k0 7) fun k_6 =>
      if kO h_4 4 k_6 = true then (cV (f_R_put k_6 (x3 + x_5) (0 : Int32) h_4) fun h_7 =>
      oo none (hR h_7 5 k0 8) fun k_8 =>
      if kO h_7 4 k_8 = true then (cV (f_R_put k_8 (0 : Int32) (x3 + x_5) h_7) fun h_9 =>
      (f_S_reach_75 k0 x2 (1 : Int32) (0 : Int32) h_9)) else none) else none) else none)
    else
    (oo none (hR h_2 5 k0 7) fun k_10 =>
      if kO h_2 4 k_10 = true then (cV (f_R_put k_10 (x3 + x4) (-1 : Int32) h_2) fun h_11 =>
      (f_S_reach_11 k0 k1 x2 x3 (x4 + 1) h_11)) else none) := (exq_run (M := M_153) rfl 25 _ _ _ _).symm.trans rfl
set_option maxRecDepth 100000 in
theorem e_S_reach_75 (k0 : Nat) (x2 : Int32) (x5 : Int32) (x6 : Int32) (h : pH) : f_S_reach_75 k0 x2 x5 x6 h =
    if x5 ≤ x6 then
    (rI x5 h)
    else
    (if (2520 : Int32) ≤ x6 then
      (rI x5 h)
      else
      (oo none (hR h 5 k0 8) fun k_1 =>
        if kO h 4 k_1 = true then (cI (f_R_get k_1 x6 h) fun x_3 h_2 =>
        if kO h_2 5 k0 = true then (cI (f_S_reachOn k0 x_3 x2 x5 h_2) fun x_5 h_4 =>
        (f_S_reach_75 k0 x2 x_5 (x6 + 1) h_4)) else none) else none)) := (exq_run (M := M_153) rfl 18 _ _ _ _).symm.trans rfl
noncomputable def f_S_sumOfWays (k0 : Nat) (k1 : Nat) (h : pH) : pR := run pMs none 157 0 [some (.ref k0), some (.ref k1)] [] h
noncomputable def f_S_sumOfWays_21 (k1 : Nat) (k2 : Nat) (x3 : Int32) (x4 : Int32) (x5 : Int32) (h : pH) : pR := run pMs none 157 21 [none, some (.ref k1), some (.ref k2), some (.int x3), some (.int x4), some (.int x5)] [] h
set_option maxRecDepth 100000 in
theorem e_S_sumOfWays (k0 : Nat) (k1 : Nat) (h : pH) : f_S_sumOfWays k0 k1 h =
    if kO h 5 k0 = true then (cR (f_S_findWays k0 k1 (0 : Int32) h) fun k_2 h_1 =>
    oo none (hI h_1 6 k1 1) fun x_3 =>
    cI (f_G_firstNode x_3 h_1) fun x_5 h_4 =>
    (f_S_sumOfWays_21 k1 k_2 x_5 (0 : Int32) (0 : Int32) h_4)) else none := (exq_run (M := M_157) rfl 14 _ _ _ _).symm.trans rfl
set_option maxRecDepth 100000 in
theorem e_S_sumOfWays_21 (k1 : Nat) (k2 : Nat) (x3 : Int32) (x4 : Int32) (x5 : Int32) (h : pH) : f_S_sumOfWays_21 k1 k2 x3 x4 x5 h =
    oo none (hI h 6 k1 1) fun x_1 =>
    cI (f_K_wordsOf x_1 h) fun x_3 h_2 =>
    if x_3 ≤ x5 then
    (rI x4 h_2)
    else
    (if kO h_2 4 k2 = true then (cI (f_R_get k2 (x3 + x5) h_2) fun x_5 h_4 =>
      (f_S_sumOfWays_21 k1 k2 x3 (x4 + (imax x_5 (0 : Int32))) (x5 + 1) h_4)) else none) := (exq_run (M := M_157) rfl 18 _ _ _ _).symm.trans rfl
noncomputable def f_S_wayWith (k0 : Nat) (k1 : Nat) (x2 : Int32) (h : pH) : pR := run pMs none 167 0 [some (.ref k0), some (.ref k1), some (.int x2)] [] h
noncomputable def f_S_wayWith_10 (k0 : Nat) (k1 : Nat) (x3 : Int32) (x4 : Int32) (h : pH) : pR := run pMs none 167 10 [some (.ref k0), some (.ref k1), none, some (.int x3), some (.int x4)] [] h
theorem e_S_wayWith (k0 : Nat) (k1 : Nat) (x2 : Int32) (h : pH) : f_S_wayWith k0 k1 x2 h =
    if kO h 5 k0 = true then (cI (f_S_reach k0 k1 x2 h) fun x_2 h_1 =>
    (f_S_wayWith_10 k0 k1 x_2 (0 : Int32) h_1)) else none := (exq_run (M := M_167) rfl 8 _ _ _ _).symm.trans rfl
set_option maxRecDepth 100000 in
theorem e_S_wayWith_10 (k0 : Nat) (k1 : Nat) (x3 : Int32) (x4 : Int32) (h : pH) : f_S_wayWith_10 k0 k1 x3 x4 h =
    if x3 ≤ x4 then
    (rI (-1 : Int32) h)
    else
    (oo none (hR h 5 k0 8) fun k_1 =>
      if kO h 4 k_1 = true then (cI (f_R_get k_1 x4 h) fun x_3 h_2 =>
      oo none (hR h_2 5 k0 0) fun k_4 =>
      oo none (hR h_2 0 k_4 0) fun k_5 =>
      if kO h_2 4 k_5 = true then (cI (f_R_get k_5 x_3 h_2) fun x_7 h_6 =>
      oo none (hI h_6 6 k1 5) fun x_8 =>
      oo none (hI h_6 6 k1 6) fun x_9 =>
      cI (f_N_isInOrder x_7 x_8 x_9 h_6) fun x_11 h_10 =>
      if x_11 = 0 then
      ((f_S_wayWith_10 k0 k1 x3 (x4 + 1) h_10))
      else
      (oo none (hR h_10 5 k0 7) fun k_12 =>
        if kO h_10 4 k_12 = true then (cI (f_R_get k_12 x_3 h_10) fun x_14 h_13 =>
        rI x_14 h_13) else none)) else none) else none) := (exq_run (M := M_167) rfl 25 _ _ _ _).symm.trans rfl
end
section
noncomputable def f_X_isBelow (x0 : Int32) (x1 : Int32) (h : pH) : pR := run pMs none 9 0 [some (.int x0), some (.int x1)] [] h
theorem e_X_isBelow (x0 : Int32) (x1 : Int32) (h : pH) : f_X_isBelow x0 x1 h =
    if x0 < 0 then
    (rI (0 : Int32) h)
    else
    (if x1 ≤ x0 then
      (rI (0 : Int32) h)
      else
      (rI (1 : Int32) h)) := (exq_run (M := M_9) rfl 9 _ _ _ _).symm.trans rfl
noncomputable def f_X_add (k0 : Nat) (x1 : Int32) (x2 : Int32) (x3 : Int32) (h : pH) : pR := run pMs none 21 0 [some (.ref k0), some (.int x1), some (.int x2), some (.int x3)] [] h
set_option maxRecDepth 100000 in
theorem e_X_add (k0 : Nat) (x1 : Int32) (x2 : Int32) (x3 : Int32) (h : pH) : f_X_add k0 x1 x2 x3 h =
    cI (f_X_isBelow x1 (26 : Int32) h) fun x_2 h_1 =>
    if x_2 = 0 then
    (rI (-1 : Int32) h_1)
    else
    (if x2 < (1 : Int32) then
      (rI (-1 : Int32) h_1)
      else
      (if (9 : Int32) < x2 then
        (rI (-1 : Int32) h_1)
        else
        (cI (f_X_isBelow x3 (7 : Int32) h_1) fun x_4 h_3 =>
          if x_4 = 0 then
          (rI (-1 : Int32) h_3)
          else
          (oo none (hR h_3 7 k0 0) fun k_5 =>
            if kO h_3 6 k_5 = true then (cI (f_B_slotOf k_5 x1 h_3) fun x_7 h_6 =>
            if x_7 = 0 then
            (oo none (hR h_6 7 k0 0) fun k_8 =>
              oo none (hI h_6 6 k_8 0) fun x_9 =>
              cI (f_N_slotAt x_9 x3 h_6) fun x_11 h_10 =>
              if x_11 = 0 then
              (oo none (hR h_10 7 k0 0) fun k_12 =>
                oo none (hI h_10 6 k_12 1) fun x_13 =>
                if x_13 < (5 : Int32) then
                (oo none (hR h_10 7 k0 3) fun k_14 =>
                  oo none (hR h_10 7 k0 0) fun k_15 =>
                  if kO h_10 1 k_14 = true then (cV (f_H_keep k_14 k_15 h_10) fun h_16 =>
                  oo none (hR h_16 7 k0 0) fun k_17 =>
                  if kO h_16 6 k_17 = true then (cV (f_B_insert k_17 x1 x2 x3 h_16) fun h_18 =>
                  oo none (hR h_18 7 k0 0) fun k_19 =>
                  oo none (hI h_18 6 k_19 1) fun x_20 =>
                  rI x_20 h_18) else none) else none)
                else
                (rI (-3 : Int32) h_10))
              else
              (rI (-2 : Int32) h_10))
            else
            (rI (-2 : Int32) h_6)) else none)))) := (exq_run (M := M_21) rfl 46 _ _ _ _).symm.trans rfl
noncomputable def f_X_remove (k0 : Nat) (x1 : Int32) (h : pH) : pR := run pMs none 30 0 [some (.ref k0), some (.int x1)] [] h
set_option maxRecDepth 100000 in
theorem e_X_remove (k0 : Nat) (x1 : Int32) (h : pH) : f_X_remove k0 x1 h =
    cI (f_X_isBelow x1 (7 : Int32) h) fun x_2 h_1 =>
    if x_2 = 0 then
    (rI (-1 : Int32) h_1)
    else
    (oo none (hR h_1 7 k0 0) fun k_3 =>
      oo none (hI h_1 6 k_3 0) fun x_4 =>
      cI (f_N_slotAt x_4 x1 h_1) fun x_6 h_5 =>
      if x_6 = 0 then
      (rI (-2 : Int32) h_5)
      else
      (oo none (hR h_5 7 k0 3) fun k_7 =>
        oo none (hR h_5 7 k0 0) fun k_8 =>
        if kO h_5 1 k_7 = true then (cV (f_H_keep k_7 k_8 h_5) fun h_9 =>
        oo none (hR h_9 7 k0 0) fun k_10 =>
        if kO h_9 6 k_10 = true then (cI (f_B_takeOff k_10 x1 h_9) fun x_12 h_11 =>
        rI x_12 h_11) else none) else none)) := (exq_run (M := M_30) rfl 21 _ _ _ _).symm.trans rfl
noncomputable def f_X_stick (k0 : Nat) (x1 : Int32) (h : pH) : pR := run pMs none 33 0 [some (.ref k0), some (.int x1)] [] h
set_option maxRecDepth 100000 in
theorem e_X_stick (k0 : Nat) (x1 : Int32) (h : pH) : f_X_stick k0 x1 h =
    cI (f_X_isBelow x1 (7 : Int32) h) fun x_2 h_1 =>
    if x_2 = 0 then
    (rI (-1 : Int32) h_1)
    else
    (oo none (hR h_1 7 k0 0) fun k_3 =>
      oo none (hI h_1 6 k_3 0) fun x_4 =>
      cI (f_N_slotAt x_4 x1 h_1) fun x_6 h_5 =>
      if x_6 = 0 then
      (rI (-2 : Int32) h_5)
      else
      (oo none (hR h_5 7 k0 3) fun k_7 =>
        oo none (hR h_5 7 k0 0) fun k_8 =>
        if kO h_5 1 k_7 = true then (cV (f_H_keep k_7 k_8 h_5) fun h_9 =>
        oo none (hR h_9 7 k0 0) fun k_10 =>
        oo none (hI h_9 6 k_10 4) fun x_11 =>
        if kO h_9 6 k_10 = true then
        (oo none (hR (sI h_9 k_10 4 (x_11 ^^^ ((1 : Int32) <<< (x_6 &&& 31)))) 7 k0 0) fun k_12 =>
        oo none (hI (sI h_9 k_10 4 (x_11 ^^^ ((1 : Int32) <<< (x_6 &&& 31)))) 6 k_12 4) fun x_13 =>
        cI (f_N_isIn x_13 x_6 (sI h_9 k_10 4 (x_11 ^^^ ((1 : Int32) <<< (x_6 &&& 31))))) fun x_15 h_14 =>
        if x_15 = 0 then
        (rI (0 : Int32) h_14)
        else
        (rI (1 : Int32) h_14))
        else none) else none)) := (exq_run (M := M_33) rfl 36 _ _ _ _).symm.trans rfl
noncomputable def f_X_pull (k0 : Nat) (x1 : Int32) (h : pH) : pR := run pMs none 43 0 [some (.ref k0), some (.int x1)] [] h
set_option maxRecDepth 100000 in
theorem e_X_pull (k0 : Nat) (x1 : Int32) (h : pH) : f_X_pull k0 x1 h =
    cI (f_X_isBelow x1 (7 : Int32) h) fun x_2 h_1 =>
    if x_2 = 0 then
    (rI (-1 : Int32) h_1)
    else
    (oo none (hR h_1 7 k0 0) fun k_3 =>
      oo none (hI h_1 6 k_3 0) fun x_4 =>
      cI (f_N_gapBeside x_4 x1 h_1) fun x_6 h_5 =>
      oo none (hR h_5 7 k0 3) fun k_7 =>
      oo none (hR h_5 7 k0 0) fun k_8 =>
      if kO h_5 1 k_7 = true then (cV (f_H_keep k_7 k_8 h_5) fun h_9 =>
      oo none (hR h_9 7 k0 0) fun k_10 =>
      if kO h_9 6 k_10 = true then (cI (f_B_tryMove k_10 x1 h_9) fun x_12 h_11 =>
      if x_12 = 0 then
      (rI ((10 : Int32) + x_6) h_11)
      else
      (rI x_12 h_11)) else none) else none) := (exq_run (M := M_43) rfl 27 _ _ _ _).symm.trans rfl
noncomputable def f_X_push (k0 : Nat) (x1 : Int32) (x2 : Int32) (h : pH) : pR := run pMs none 51 0 [some (.ref k0), some (.int x1), some (.int x2)] [] h
set_option maxRecDepth 100000 in
theorem e_X_push (k0 : Nat) (x1 : Int32) (x2 : Int32) (h : pH) : f_X_push k0 x1 x2 h =
    cI (f_X_isBelow x1 (6 : Int32) h) fun x_2 h_1 =>
    if x_2 = 0 then
    (rI (-1 : Int32) h_1)
    else
    (oo none (hR h_1 7 k0 3) fun k_3 =>
      oo none (hR h_1 7 k0 0) fun k_4 =>
      if kO h_1 1 k_3 = true then (cV (f_H_keep k_3 k_4 h_1) fun h_5 =>
      oo none (hR h_5 7 k0 0) fun k_6 =>
      if x2 = 0 then
      (if kO h_5 6 k_6 = true then (cI (f_B_tryMove k_6 ((13 : Int32) + x1) h_5) fun x_8 h_7 =>
        rI x_8 h_7) else none)
      else
      (if kO h_5 6 k_6 = true then (cI (f_B_tryMove k_6 ((7 : Int32) + x1) h_5) fun x_10 h_9 =>
        rI x_10 h_9) else none)) else none) := (exq_run (M := M_51) rfl 20 _ _ _ _).symm.trans rfl
noncomputable def f_X_set (k0 : Nat) (x1 : Int32) (x2 : Int32) (h : pH) : pR := run pMs none 53 0 [some (.ref k0), some (.int x1), some (.int x2)] [] h
set_option maxRecDepth 100000 in
theorem e_X_set (k0 : Nat) (x1 : Int32) (x2 : Int32) (h : pH) : f_X_set k0 x1 x2 h =
    cI (f_X_isBelow x1 (2 : Int32) h) fun x_2 h_1 =>
    if x_2 = 0 then
    (rI (-1 : Int32) h_1)
    else
    (cI (f_X_isBelow x2 (2 : Int32) h_1) fun x_4 h_3 =>
      if x_4 = 0 then
      (rI (-1 : Int32) h_3)
      else
      (oo none (hR h_3 7 k0 3) fun k_5 =>
        oo none (hR h_3 7 k0 0) fun k_6 =>
        if kO h_3 1 k_5 = true then (cV (f_H_keep k_5 k_6 h_3) fun h_7 =>
        if x1 = 0 then
        (oo none (hR h_7 7 k0 0) fun k_11 =>
          oo none (hI h_7 6 k_11 5) fun x_12 =>
          oo none (hR h_7 7 k0 0) fun k_13 =>
          if kO h_7 6 k_13 = true then
          (rI x_12 (sI h_7 k_13 5 x2))
          else none)
        else
        (oo none (hR h_7 7 k0 0) fun k_8 =>
          oo none (hI h_7 6 k_8 6) fun x_9 =>
          oo none (hR h_7 7 k0 0) fun k_10 =>
          if kO h_7 6 k_10 = true then
          (rI x_9 (sI h_7 k_10 6 x2))
          else none)) else none)) := (exq_run (M := M_53) rfl 27 _ _ _ _).symm.trans rfl
noncomputable def f_X_append (k0 : Nat) (x1 : Int32) (h : pH) : pR := run pMs none 56 0 [some (.ref k0), some (.int x1)] [] h
set_option maxRecDepth 100000 in
theorem e_X_append (k0 : Nat) (x1 : Int32) (h : pH) : f_X_append k0 x1 h =
    if x1 < (33 : Int32) then
    (rI (-1 : Int32) h)
    else
    (if x1 ≤ (126 : Int32) then
      (oo none (hR h 7 k0 4) fun k_1 =>
        oo none (hI h 2 k_1 1) fun x_2 =>
        if x_2 < (60 : Int32) then
        (oo none (hR h 7 k0 4) fun k_3 =>
          if kO h 2 k_3 = true then (cV (f_P_write k_3 x1 h) fun h_4 =>
          oo none (hR h_4 7 k0 4) fun k_5 =>
          oo none (hI h_4 2 k_5 1) fun x_6 =>
          rI x_6 h_4) else none)
        else
        (rI (-3 : Int32) h))
      else
      (rI (-1 : Int32) h)) := (exq_run (M := M_56) rfl 20 _ _ _ _).symm.trans rfl
noncomputable def f_X_clear (k0 : Nat) (h : pH) : pR := run pMs none 58 0 [some (.ref k0)] [] h
theorem e_X_clear (k0 : Nat) (h : pH) : f_X_clear k0 h =
    oo none (hR h 7 k0 4) fun k_1 =>
    oo none (hI h 2 k_1 1) fun x_2 =>
    oo none (hR h 7 k0 4) fun k_3 =>
    if kO h 2 k_3 = true then
    (rI x_2 (sI h k_3 1 (0 : Int32)))
    else none := (exq_run (M := M_58) rfl 11 _ _ _ _).symm.trans rfl
noncomputable def f_X_fault (k0 : Nat) (x1 : Int32) (h : pH) : pR := run pMs none 65 0 [some (.ref k0), some (.int x1)] [] h
theorem e_X_fault (k0 : Nat) (x1 : Int32) (h : pH) : f_X_fault k0 x1 h =
    cI (f_X_isBelow x1 (2 : Int32) h) fun x_2 h_1 =>
    if x_2 = 0 then
    (rI (-1 : Int32) h_1)
    else
    (if x1 = 0 then
      (oo none (hR h_1 7 k0 4) fun k_7 =>
        if kO h_1 2 k_7 = true then (cI (f_P_programFault k_7 h_1) fun x_9 h_8 =>
        rI x_9 h_8) else none)
      else
      (oo none (hR h_1 7 k0 4) fun k_3 =>
        oo none (hR h_1 7 k0 0) fun k_4 =>
        if kO h_1 2 k_3 = true then (cI (f_P_wordFault k_3 k_4 h_1) fun x_6 h_5 =>
        rI x_6 h_5) else none)) := (exq_run (M := M_65) rfl 13 _ _ _ _).symm.trans rfl
noncomputable def f_X_arrange (k0 : Nat) (h : pH) : pR := run pMs none 76 0 [some (.ref k0)] [] h
set_option maxRecDepth 100000 in
theorem e_X_arrange (k0 : Nat) (h : pH) : f_X_arrange k0 h =
    oo none (hR h 7 k0 4) fun k_1 =>
    oo none (hR h 7 k0 0) fun k_2 =>
    if kO h 2 k_1 = true then (cI (f_P_wordFault k_1 k_2 h) fun x_4 h_3 =>
    if x_4 = (-4 : Int32) then
    (oo none (hR h_3 7 k0 3) fun k_5 =>
      oo none (hR h_3 7 k0 0) fun k_6 =>
      if kO h_3 1 k_5 = true then (cV (f_H_keep k_5 k_6 h_3) fun h_7 =>
      oo none (hR h_7 7 k0 0) fun k_8 =>
      oo none (hR h_7 7 k0 4) fun k_9 =>
      oo none (hR h_7 7 k0 0) fun k_10 =>
      if kO h_7 2 k_9 = true then (cI (f_P_readWord k_9 k_10 h_7) fun x_12 h_11 =>
      if kO h_11 6 k_8 = true then
      (oo none (hR (sI h_11 k_8 0 x_12) 7 k0 4) fun k_13 =>
      if kO (sI h_11 k_8 0 x_12) 2 k_13 = true then
      (oo none (hR (sI (sI h_11 k_8 0 x_12) k_13 1 (0 : Int32)) 7 k0 0) fun k_14 =>
      if kO (sI (sI h_11 k_8 0 x_12) k_13 1 (0 : Int32)) 6 k_14 = true then (cI (f_B_rankOfNow k_14 (sI (sI h_11 k_8 0 x_12) k_13 1 (0 : Int32))) fun x_16 h_15 =>
      rI x_16 h_15) else none)
      else none)
      else none) else none) else none)
    else
    (rI (-2 : Int32) h_3)) else none := (exq_run (M := M_76) rfl 29 _ _ _ _).symm.trans rfl
noncomputable def f_X_run (k0 : Nat) (h : pH) : pR := run pMs none 83 0 [some (.ref k0)] [] h
noncomputable def f_X_run_36 (k0 : Nat) (x1 : Int32) (x2 : Int32) (h : pH) : pR := run pMs none 83 36 [some (.ref k0), some (.int x1), some (.int x2)] [] h
set_option maxRecDepth 100000 in
theorem e_X_run (k0 : Nat) (h : pH) : f_X_run k0 h =
    oo none (hR h 7 k0 4) fun k_1 =>
    if kO h 2 k_1 = true then (cI (f_P_programFault k_1 h) fun x_3 h_2 =>
    if x_3 = (-4 : Int32) then
    (oo none (hR h_2 7 k0 3) fun k_4 =>
      oo none (hR h_2 7 k0 0) fun k_5 =>
      if kO h_2 1 k_4 = true then (cV (f_H_keep k_4 k_5 h_2) fun h_6 =>
      oo none (hR h_6 7 k0 0) fun k_7 =>
      oo none (hI h_6 6 k_7 7) fun x_8 =>
      (f_X_run_36 k0 x_8 (0 : Int32) h_6)) else none)
    else
    (rI (-2 : Int32) h_2)) else none := (exq_run (M := M_83) rfl 17 _ _ _ _).symm.trans rfl
set_option maxRecDepth 100000 in
theorem e_X_run_36 (k0 : Nat) (x1 : Int32) (x2 : Int32) (h : pH) : f_X_run_36 k0 x1 x2 h =
    oo none (hR h 7 k0 4) fun k_1 =>
    if kO h 2 k_1 = true then (cI (f_P_steps k_1 h) fun x_3 h_2 =>
    if x_3 ≤ x2 then
    (oo none (hR h_2 7 k0 0) fun k_4 =>
      oo none (hI h_2 6 k_4 7) fun x_5 =>
      rI (x_5 - x1) h_2)
    else
    (oo none (hR h_2 7 k0 0) fun k_6 =>
      oo none (hR h_2 7 k0 4) fun k_7 =>
      if kO h_2 2 k_7 = true then (cI (f_P_moveAt k_7 x2 h_2) fun x_9 h_8 =>
      if kO h_8 6 k_6 = true then (cI (f_B_tryMove k_6 x_9 h_8) fun x_11 h_10 =>
      (f_X_run_36 k0 x1 (x2 + 1) h_10)) else none) else none)) else none := (exq_run (M := M_83) rfl 16 _ _ _ _).symm.trans rfl
noncomputable def f_X_at (k0 : Nat) (x1 : Int32) (x2 : Int32) (h : pH) : pR := run pMs none 88 0 [some (.ref k0), some (.int x1), some (.int x2)] [] h
set_option maxRecDepth 100000 in
theorem e_X_at (k0 : Nat) (x1 : Int32) (x2 : Int32) (h : pH) : f_X_at k0 x1 x2 h =
    cI (f_X_isBelow x1 (7 : Int32) h) fun x_2 h_1 =>
    if x_2 = 0 then
    (rI (-1 : Int32) h_1)
    else
    (cI (f_X_isBelow x2 (6 : Int32) h_1) fun x_4 h_3 =>
      if x_4 = 0 then
      (rI (-1 : Int32) h_3)
      else
      (oo none (hR h_3 7 k0 0) fun k_5 =>
        oo none (hI h_3 6 k_5 0) fun x_6 =>
        cI (f_N_slotAt x_6 x1 h_3) fun x_8 h_7 =>
        if x_8 = 0 then
        (if x2 = (5 : Int32) then
          (rI x1 h_7)
          else
          (rI (-4 : Int32) h_7))
        else
        (if x2 = 0 then
          (oo none (hR h_7 7 k0 0) fun k_9 =>
            oo none (hR h_7 6 k_9 2) fun k_10 =>
            if kO h_7 4 k_10 = true then (cI (f_R_get k_10 x_8 h_7) fun x_12 h_11 =>
            rI x_12 h_11) else none)
          else if x2 = 1 then
          (oo none (hR h_7 7 k0 0) fun k_13 =>
            oo none (hR h_7 6 k_13 3) fun k_14 =>
            if kO h_7 4 k_14 = true then (cI (f_R_get k_14 x_8 h_7) fun x_16 h_15 =>
            rI x_16 h_15) else none)
          else if x2 = 2 then
          (oo none (hR h_7 7 k0 0) fun k_17 =>
            oo none (hI h_7 6 k_17 4) fun x_18 =>
            cI (f_N_isIn x_18 x_8 h_7) fun x_20 h_19 =>
            if x_20 = 0 then
            (rI (0 : Int32) h_19)
            else
            (rI (1 : Int32) h_19))
          else if x2 = 3 then
          (oo none (hR h_7 7 k0 0) fun k_21 =>
            oo none (hI h_7 6 k_21 0) fun x_22 =>
            cI (f_N_gapBeside x_22 x1 h_7) fun x_24 h_23 =>
            rI x_24 h_23)
          else if x2 = 4 then
          (oo none (hR h_7 7 k0 0) fun k_25 =>
            oo none (hI h_7 6 k_25 0) fun x_26 =>
            oo none (hR h_7 7 k0 0) fun k_27 =>
            oo none (hI h_7 6 k_27 5) fun x_28 =>
            cI (f_N_wrongBooks x_26 x1 x_28 h_7) fun x_30 h_29 =>
            rI x_30 h_29)
          else (oo none (hR h_7 7 k0 0) fun k_31 =>
            oo none (hI h_7 6 k_31 0) fun x_32 =>
            cI (f_N_gapBeside x_32 x1 h_7) fun x_34 h_33 =>
            rI x_34 h_33)))) := (exq_run (M := M_88) rfl 28 _ _ _ _).symm.trans rfl
noncomputable def f_X_whyNot (k0 : Nat) (x1 : Int32) (h : pH) : pR := run pMs none 92 0 [some (.ref k0), some (.int x1)] [] h
set_option maxRecDepth 100000 in
theorem e_X_whyNot (k0 : Nat) (x1 : Int32) (h : pH) : f_X_whyNot k0 x1 h =
    cI (f_X_isBelow x1 (19 : Int32) h) fun x_2 h_1 =>
    if x_2 = 0 then
    (rI (-1 : Int32) h_1)
    else
    (oo none (hR h_1 7 k0 0) fun k_3 =>
      oo none (hI h_1 6 k_3 0) fun x_4 =>
      oo none (hR h_1 7 k0 0) fun k_5 =>
      oo none (hI h_1 6 k_5 4) fun x_6 =>
      cI (f_N_reason x_4 x_6 x1 h_1) fun x_8 h_7 =>
      rI x_8 h_7) := (exq_run (M := M_92) rfl 14 _ _ _ _).symm.trans rfl
noncomputable def f_X_cost (k0 : Nat) (x1 : Int32) (h : pH) : pR := run pMs none 94 0 [some (.ref k0), some (.int x1)] [] h
set_option maxRecDepth 100000 in
theorem e_X_cost (k0 : Nat) (x1 : Int32) (h : pH) : f_X_cost k0 x1 h =
    cI (f_X_isBelow x1 (19 : Int32) h) fun x_2 h_1 =>
    if x_2 = 0 then
    (rI (-1 : Int32) h_1)
    else
    (oo none (hR h_1 7 k0 0) fun k_3 =>
      oo none (hI h_1 6 k_3 0) fun x_4 =>
      oo none (hR h_1 7 k0 0) fun k_5 =>
      oo none (hI h_1 6 k_5 4) fun x_6 =>
      cI (f_N_reason x_4 x_6 x1 h_1) fun x_8 h_7 =>
      if x_8 = 0 then
      (oo none (hR h_7 7 k0 0) fun k_9 =>
        oo none (hI h_7 6 k_9 0) fun x_10 =>
        oo none (hR h_7 7 k0 0) fun k_11 =>
        oo none (hR h_7 6 k_11 3) fun k_12 =>
        cI (f_N_price x_10 k_12 x1 h_7) fun x_14 h_13 =>
        rI x_14 h_13)
      else
      (rI (-2 : Int32) h_7)) := (exq_run (M := M_94) rfl 23 _ _ _ _).symm.trans rfl
noncomputable def f_X_leads (k0 : Nat) (x1 : Int32) (h : pH) : pR := run pMs none 96 0 [some (.ref k0), some (.int x1)] [] h
set_option maxRecDepth 100000 in
theorem e_X_leads (k0 : Nat) (x1 : Int32) (h : pH) : f_X_leads k0 x1 h =
    cI (f_X_isBelow x1 (19 : Int32) h) fun x_2 h_1 =>
    if x_2 = 0 then
    (rI (-1 : Int32) h_1)
    else
    (oo none (hR h_1 7 k0 0) fun k_3 =>
      oo none (hI h_1 6 k_3 0) fun x_4 =>
      oo none (hR h_1 7 k0 0) fun k_5 =>
      oo none (hI h_1 6 k_5 4) fun x_6 =>
      cI (f_N_reason x_4 x_6 x1 h_1) fun x_8 h_7 =>
      if x_8 = 0 then
      (oo none (hR h_7 7 k0 0) fun k_9 =>
        oo none (hI h_7 6 k_9 0) fun x_10 =>
        cI (f_N_after x_10 x1 h_7) fun x_12 h_11 =>
        oo none (hR h_11 7 k0 0) fun k_13 =>
        oo none (hI h_11 6 k_13 1) fun x_14 =>
        cI (f_K_rankOf x_12 x_14 h_11) fun x_16 h_15 =>
        rI x_16 h_15)
      else
      (rI (-2 : Int32) h_7)) := (exq_run (M := M_96) rfl 24 _ _ _ _).symm.trans rfl
noncomputable def f_X_word (k0 : Nat) (x1 : Int32) (x2 : Int32) (h : pH) : pR := run pMs none 101 0 [some (.ref k0), some (.int x1), some (.int x2)] [] h
set_option maxRecDepth 100000 in
theorem e_X_word (k0 : Nat) (x1 : Int32) (x2 : Int32) (h : pH) : f_X_word k0 x1 x2 h =
    oo none (hR h 7 k0 0) fun k_1 =>
    oo none (hI h 6 k_1 1) fun x_2 =>
    cI (f_K_wordsOf x_2 h) fun x_4 h_3 =>
    cI (f_X_isBelow x1 x_4 h_3) fun x_6 h_5 =>
    if x_6 = 0 then
    (rI (-1 : Int32) h_5)
    else
    (cI (f_X_isBelow x2 (7 : Int32) h_5) fun x_8 h_7 =>
      if x_8 = 0 then
      (rI (-1 : Int32) h_7)
      else
      (oo none (hR h_7 7 k0 0) fun k_9 =>
        oo none (hI h_7 6 k_9 1) fun x_10 =>
        cI (f_K_wordAt x1 x_10 h_7) fun x_12 h_11 =>
        cI (f_N_slotAt x_12 x2 h_11) fun x_14 h_13 =>
        if x_14 = 0 then
        (rI (-4 : Int32) h_13)
        else
        (oo none (hR h_13 7 k0 0) fun k_15 =>
          oo none (hR h_13 6 k_15 2) fun k_16 =>
          if kO h_13 4 k_16 = true then (cI (f_R_get k_16 x_14 h_13) fun x_18 h_17 =>
          rI x_18 h_17) else none))) := (exq_run (M := M_101) rfl 28 _ _ _ _).symm.trans rfl
noncomputable def f_X_countAccounts (k0 : Nat) (x1 : Int32) (h : pH) : pR := run pMs none 112 0 [some (.ref k0), some (.int x1)] [] h
theorem e_X_countAccounts (k0 : Nat) (x1 : Int32) (h : pH) : f_X_countAccounts k0 x1 h =
    if x1 = 8 then
    (oo none (hR h 7 k0 0) fun k_1 =>
      oo none (hI h 6 k_1 7) fun x_2 =>
      rI x_2 h)
    else if x1 = 9 then
    (oo none (hR h 7 k0 0) fun k_3 =>
      oo none (hI h 6 k_3 8) fun x_4 =>
      rI x_4 h)
    else if x1 = 10 then
    (oo none (hR h 7 k0 0) fun k_5 =>
      oo none (hI h 6 k_5 9) fun x_6 =>
      rI x_6 h)
    else if x1 = 11 then
    (oo none (hR h 7 k0 0) fun k_7 =>
      if kO h 6 k_7 = true then (cI (f_B_possibleMoves k_7 h) fun x_9 h_8 =>
      rI x_9 h_8) else none)
    else if x1 = 12 then
    (oo none (hR h 7 k0 0) fun k_10 =>
      oo none (hI h 6 k_10 5) fun x_11 =>
      rI x_11 h)
    else if x1 = 13 then
    (oo none (hR h 7 k0 0) fun k_12 =>
      oo none (hI h 6 k_12 6) fun x_13 =>
      rI x_13 h)
    else if x1 = 14 then
    (oo none (hR h 7 k0 4) fun k_14 =>
      oo none (hI h 2 k_14 1) fun x_15 =>
      rI x_15 h)
    else if x1 = 15 then
    (oo none (hR h 7 k0 3) fun k_16 =>
      oo none (hI h 1 k_16 1) fun x_17 =>
      rI x_17 h)
    else (rI (-1 : Int32) h) := (exq_run (M := M_112) rfl 7 _ _ _ _).symm.trans rfl
noncomputable def f_X_count (k0 : Nat) (x1 : Int32) (h : pH) : pR := run pMs none 113 0 [some (.ref k0), some (.int x1)] [] h
set_option maxRecDepth 100000 in
theorem e_X_count (k0 : Nat) (x1 : Int32) (h : pH) : f_X_count k0 x1 h =
    if x1 = 0 then
    (oo none (hR h 7 k0 0) fun k_1 =>
      oo none (hI h 6 k_1 1) fun x_2 =>
      rI x_2 h)
    else if x1 = 1 then
    (oo none (hR h 7 k0 0) fun k_3 =>
      oo none (hI h 6 k_3 4) fun x_4 =>
      cI (f_J_bitCount x_4 h) fun x_6 h_5 =>
      rI x_6 h_5)
    else if x1 = 2 then
    (oo none (hR h 7 k0 0) fun k_7 =>
      if kO h 6 k_7 = true then (cI (f_B_sumOfWeights k_7 h) fun x_9 h_8 =>
      rI x_9 h_8) else none)
    else if x1 = 3 then
    (oo none (hR h 7 k0 0) fun k_10 =>
      oo none (hI h 6 k_10 0) fun x_11 =>
      oo none (hR h 7 k0 0) fun k_12 =>
      oo none (hI h 6 k_12 5) fun x_13 =>
      oo none (hR h 7 k0 0) fun k_14 =>
      oo none (hI h 6 k_14 6) fun x_15 =>
      cI (f_N_isInOrder x_11 x_13 x_15 h) fun x_17 h_16 =>
      if x_17 = 0 then
      (rI (0 : Int32) h_16)
      else
      (rI (1 : Int32) h_16))
    else if x1 = 4 then
    (oo none (hR h 7 k0 0) fun k_18 =>
      oo none (hI h 6 k_18 0) fun x_19 =>
      oo none (hR h 7 k0 0) fun k_20 =>
      oo none (hI h 6 k_20 5) fun x_21 =>
      cI (f_N_disorder x_19 x_21 h) fun x_23 h_22 =>
      rI x_23 h_22)
    else if x1 = 5 then
    (oo none (hR h 7 k0 0) fun k_24 =>
      if kO h 6 k_24 = true then (cI (f_B_rankOfNow k_24 h) fun x_26 h_25 =>
      rI x_26 h_25) else none)
    else if x1 = 6 then
    (oo none (hR h 7 k0 0) fun k_27 =>
      oo none (hI h 6 k_27 1) fun x_28 =>
      cI (f_K_wordsOf x_28 h) fun x_30 h_29 =>
      rI x_30 h_29)
    else if x1 = 7 then
    (oo none (hR h 7 k0 0) fun k_31 =>
      oo none (hI h 6 k_31 6) fun x_32 =>
      if x_32 = (1 : Int32) then
      (rI (1 : Int32) h)
      else
      (oo none (hR h 7 k0 0) fun k_33 =>
        oo none (hI h 6 k_33 1) fun x_34 =>
        cI (f_K_risingWordsOf x_34 h) fun x_36 h_35 =>
        rI x_36 h_35))
    else (if kO h 7 k0 = true then (cI (f_X_countAccounts k0 x1 h) fun x_38 h_37 =>
      rI x_38 h_37) else none) := (exq_run (M := M_113) rfl 17 _ _ _ _).symm.trans rfl
noncomputable def f_X_drawnSearch (k0 : Nat) (h : pH) : pR := run pMs none 126 0 [some (.ref k0)] [] h
theorem e_X_drawnSearch (k0 : Nat) (h : pH) : f_X_drawnSearch k0 h =
    oo none (hR h 7 k0 5) fun k_1 =>
    oo none (hR h 7 k0 0) fun k_2 =>
    oo none (hI h 6 k_2 1) fun x_3 =>
    if kO h 0 k_1 = true then (cV (f_G_draw k_1 x_3 h) fun h_4 =>
    oo none (hR h_4 7 k0 6) fun k_5 =>
    rR k_5 h_4) else none := (exq_run (M := M_126) rfl 10 _ _ _ _).symm.trans rfl
noncomputable def f_X_least (k0 : Nat) (x1 : Int32) (x2 : Int32) (h : pH) : pR := run pMs none 138 0 [some (.ref k0), some (.int x1), some (.int x2)] [] h
set_option maxRecDepth 100000 in
theorem e_X_least (k0 : Nat) (x1 : Int32) (x2 : Int32) (h : pH) : f_X_least k0 x1 x2 h =
    oo none (hR h 7 k0 0) fun k_1 =>
    oo none (hI h 6 k_1 1) fun x_2 =>
    cI (f_K_wordsOf x_2 h) fun x_4 h_3 =>
    cI (f_X_isBelow x1 x_4 h_3) fun x_6 h_5 =>
    if x_6 = 0 then
    (rI (-1 : Int32) h_5)
    else
    (cI (f_X_isBelow x2 (3 : Int32) h_5) fun x_8 h_7 =>
      if x_8 = 0 then
      (rI (-1 : Int32) h_7)
      else
      (if kO h_7 7 k0 = true then (cR (f_X_drawnSearch k0 h_7) fun k_10 h_9 =>
        oo none (hR h_9 7 k0 0) fun k_11 =>
        if kO h_9 5 k_10 = true then (cI (f_S_wayFrom k_10 k_11 x1 x2 h_9) fun x_13 h_12 =>
        if x_13 = (-1 : Int32) then
        (rI (-4 : Int32) h_12)
        else
        (rI x_13 h_12)) else none) else none)) := (exq_run (M := M_138) rfl 26 _ _ _ _).symm.trans rfl
noncomputable def f_X_plan (k0 : Nat) (x1 : Int32) (x2 : Int32) (h : pH) : pR := run pMs none 146 0 [some (.ref k0), some (.int x1), some (.int x2)] [] h
set_option maxRecDepth 100000 in
theorem e_X_plan (k0 : Nat) (x1 : Int32) (x2 : Int32) (h : pH) : f_X_plan k0 x1 x2 h =
    if 0 ≤ x2 then
    (if kO h 7 k0 = true then (cR (f_X_drawnSearch k0 h) fun k_2 h_1 =>
      oo none (hR h_1 7 k0 0) fun k_3 =>
      if kO h_1 5 k_2 = true then (cI (f_S_plannedMove k_2 k_3 x1 x2 h_1) fun x_5 h_4 =>
      if x_5 = (-1 : Int32) then
      (rI (-4 : Int32) h_4)
      else
      (rI x_5 h_4)) else none) else none)
    else
    (rI (-1 : Int32) h) := (exq_run (M := M_146) rfl 17 _ _ _ _).symm.trans rfl
noncomputable def f_X_all (k0 : Nat) (x1 : Int32) (h : pH) : pR := run pMs none 154 0 [some (.ref k0), some (.int x1)] [] h
theorem e_X_all (k0 : Nat) (x1 : Int32) (h : pH) : f_X_all k0 x1 h =
    if x1 = 0 then
    (if kO h 7 k0 = true then (cR (f_X_drawnSearch k0 h) fun k_2 h_1 =>
      oo none (hR h_1 7 k0 0) fun k_3 =>
      if kO h_1 5 k_2 = true then (cI (f_S_savableWords k_2 k_3 h_1) fun x_5 h_4 =>
      rI x_5 h_4) else none) else none)
    else if x1 = 1 then
    (if kO h 7 k0 = true then (cR (f_X_drawnSearch k0 h) fun k_7 h_6 =>
      oo none (hR h_6 7 k0 0) fun k_8 =>
      if kO h_6 5 k_7 = true then (cI (f_S_greatestWay k_7 k_8 (0 : Int32) h_6) fun x_10 h_9 =>
      rI x_10 h_9) else none) else none)
    else if x1 = 2 then
    (if kO h 7 k0 = true then (cR (f_X_drawnSearch k0 h) fun k_12 h_11 =>
      oo none (hR h_11 7 k0 0) fun k_13 =>
      if kO h_11 5 k_12 = true then (cI (f_S_greatestWay k_12 k_13 (1 : Int32) h_11) fun x_15 h_14 =>
      rI x_15 h_14) else none) else none)
    else if x1 = 3 then
    (if kO h 7 k0 = true then (cR (f_X_drawnSearch k0 h) fun k_17 h_16 =>
      oo none (hR h_16 7 k0 0) fun k_18 =>
      if kO h_16 5 k_17 = true then (cI (f_S_worstRank k_17 k_18 h_16) fun x_20 h_19 =>
      rI x_20 h_19) else none) else none)
    else if x1 = 4 then
    (if kO h 7 k0 = true then (cR (f_X_drawnSearch k0 h) fun k_22 h_21 =>
      oo none (hR h_21 7 k0 0) fun k_23 =>
      oo none (hR h_21 7 k0 0) fun k_24 =>
      oo none (hI h_21 6 k_24 4) fun x_25 =>
      if kO h_21 5 k_22 = true then (cI (f_S_reach k_22 k_23 x_25 h_21) fun x_27 h_26 =>
      rI x_27 h_26) else none) else none)
    else (rI (-1 : Int32) h) := (exq_run (M := M_154) rfl 12 _ _ _ _).symm.trans rfl
noncomputable def f_X_mean (k0 : Nat) (h : pH) : pR := run pMs none 158 0 [some (.ref k0)] [] h
set_option maxRecDepth 100000 in
theorem e_X_mean (k0 : Nat) (h : pH) : f_X_mean k0 h =
    if kO h 7 k0 = true then (cR (f_X_drawnSearch k0 h) fun k_2 h_1 =>
    oo none (hR h_1 7 k0 0) fun k_3 =>
    if kO h_1 5 k_2 = true then (cI (f_S_savableWords k_2 k_3 h_1) fun x_5 h_4 =>
    if x_5 ≤ 0 then
    (rD FP.dconst0 h_4)
    else
    (oo none (hR h_4 7 k0 6) fun k_6 =>
      oo none (hR h_4 7 k0 0) fun k_7 =>
      if kO h_4 5 k_6 = true then (cI (f_S_sumOfWays k_6 k_7 h_4) fun x_9 h_8 =>
      if (FP.ddiv (FP.i2d x_9) (FP.i2d x_5)) &&& 0x7fffffffffffffff ≤ 0x7ff0000000000000 then
      (rD (FP.ddiv (FP.i2d x_9) (FP.i2d x_5)) h_8)
      else none) else none)) else none) else none := (exq_run (M := M_158) rfl 20 _ _ _ _).symm.trans rfl
noncomputable def f_X_round (k0 : Nat) (x1 : Int32) (h : pH) : pR := run pMs none 163 0 [some (.ref k0), some (.int x1)] [] h
set_option maxRecDepth 100000 in
theorem e_X_round (k0 : Nat) (x1 : Int32) (h : pH) : f_X_round k0 x1 h =
    cI (f_X_isBelow x1 (4 : Int32) h) fun x_2 h_1 =>
    if x_2 = 0 then
    (rI (-1 : Int32) h_1)
    else
    (oo none (hR h_1 7 k0 4) fun k_3 =>
      if kO h_1 2 k_3 = true then (cI (f_P_programFault k_3 h_1) fun x_5 h_4 =>
      if x_5 = (-4 : Int32) then
      (oo none (hR h_4 7 k0 7) fun k_6 =>
        oo none (hR h_4 7 k0 0) fun k_7 =>
        oo none (hR h_4 7 k0 4) fun k_8 =>
        if kO h_4 3 k_6 = true then (cV (f_D_follow k_6 k_7 k_8 h_4) fun h_9 =>
        if x1 = 0 then
        (oo none (hR h_9 7 k0 7) fun k_10 =>
          oo none (hI h_9 3 k_10 4) fun x_11 =>
          rI x_11 h_9)
        else if x1 = 1 then
        (oo none (hR h_9 7 k0 7) fun k_12 =>
          oo none (hI h_9 3 k_12 5) fun x_13 =>
          rI x_13 h_9)
        else if x1 = 2 then
        (oo none (hR h_9 7 k0 7) fun k_14 =>
          oo none (hI h_9 3 k_14 6) fun x_15 =>
          rI x_15 h_9)
        else (oo none (hR h_9 7 k0 7) fun k_16 =>
          oo none (hI h_9 3 k_16 7) fun x_17 =>
          rI x_17 h_9)) else none)
      else
      (rI (-2 : Int32) h_4)) else none) := (exq_run (M := M_163) rfl 23 _ _ _ _).symm.trans rfl
noncomputable def f_X_loosen (k0 : Nat) (h : pH) : pR := run pMs none 168 0 [some (.ref k0)] [] h
noncomputable def f_X_loosen_7 (k0 : Nat) (x1 : Int32) (x2 : Int32) (x3 : Int32) (h : pH) : pR := run pMs none 168 7 [some (.ref k0), some (.int x1), some (.int x2), some (.int x3)] [] h
theorem e_X_loosen (k0 : Nat) (h : pH) : f_X_loosen k0 h =
    (f_X_loosen_7 k0 (-4 : Int32) (-1 : Int32) (0 : Int32) h) := (exq_run (M := M_168) rfl 7 _ _ _ _).symm.trans rfl
set_option maxRecDepth 100000 in
theorem e_X_loosen_7 (k0 : Nat) (x1 : Int32) (x2 : Int32) (x3 : Int32) (h : pH) : f_X_loosen_7 k0 x1 x2 x3 h =
    if (7 : Int32) ≤ x3 then
    (rI x1 h)
    else
    (oo none (hR h 7 k0 0) fun k_1 =>
      oo none (hI h 6 k_1 0) fun x_2 =>
      cI (f_N_slotAt x_2 x3 h) fun x_4 h_3 =>
      oo none (hR h_3 7 k0 0) fun k_5 =>
      oo none (hI h_3 6 k_5 4) fun x_6 =>
      cI (f_N_isIn x_6 x_4 h_3) fun x_8 h_7 =>
      if x_8 = 0 then
      ((f_X_loosen_7 k0 x1 x2 (x3 + 1) h_7))
      else
      (if kO h_7 7 k0 = true then (cR (f_X_drawnSearch k0 h_7) fun k_10 h_9 =>
        oo none (hR h_9 7 k0 0) fun k_11 =>
        oo none (hR h_9 7 k0 0) fun k_12 =>
        oo none (hI h_9 6 k_12 4) fun x_13 =>
        if kO h_9 5 k_10 = true then (cI (f_S_wayWith k_10 k_11 (x_13 &&& (((1 : Int32) <<< (x_4 &&& 31)) ^^^ (-1 : Int32))) h_9) fun x_15 h_14 =>
        if x1 = (-4 : Int32) then
        ((f_X_loosen_7 k0 x3 x_15 (x3 + 1) h_14))
        else
        (if x_15 = (-1 : Int32) then
          ((f_X_loosen_7 k0 x1 x2 (x3 + 1) h_14))
          else
          (if x2 = (-1 : Int32) then
            ((f_X_loosen_7 k0 x3 x_15 (x3 + 1) h_14))
            else
            (if x2 ≤ x_15 then
              ((f_X_loosen_7 k0 x1 x2 (x3 + 1) h_14))
              else
              ((f_X_loosen_7 k0 x3 x_15 (x3 + 1) h_14)))))) else none) else none)) := (exq_run (M := M_168) rfl 49 _ _ _ _).symm.trans rfl
noncomputable def f_X_undo (k0 : Nat) (h : pH) : pR := run pMs none 171 0 [some (.ref k0)] [] h
set_option maxRecDepth 100000 in
theorem e_X_undo (k0 : Nat) (h : pH) : f_X_undo k0 h =
    oo none (hR h 7 k0 3) fun k_1 =>
    oo none (hI h 1 k_1 1) fun x_2 =>
    if x_2 = 0 then
    (rI (-2 : Int32) h)
    else
    (oo none (hR h 7 k0 3) fun k_3 =>
      oo none (hR h 7 k0 0) fun k_4 =>
      if kO h 1 k_3 = true then (cV (f_H_giveBack k_3 k_4 h) fun h_5 =>
      oo none (hR h_5 7 k0 3) fun k_6 =>
      oo none (hI h_5 1 k_6 1) fun x_7 =>
      rI x_7 h_5) else none) := (exq_run (M := M_171) rfl 14 _ _ _ _).symm.trans rfl
noncomputable def f_X_save (k0 : Nat) (h : pH) : pR := run pMs none 173 0 [some (.ref k0)] [] h
theorem e_X_save (k0 : Nat) (h : pH) : f_X_save k0 h =
    oo none (hR h 7 k0 1) fun k_1 =>
    oo none (hR h 7 k0 0) fun k_2 =>
    if kO h 6 k_1 = true then (cV (f_B_become k_1 k_2 h) fun h_3 =>
    if kO h_3 7 k0 = true ∧ ((1 : Int32) = 0 ∨ (1 : Int32) = 1) then
    (oo none (hR (sI h_3 k0 2 (1 : Int32)) 7 k0 0) fun k_4 =>
    if kO (sI h_3 k0 2 (1 : Int32)) 6 k_4 = true then (cI (f_B_rankOfNow k_4 (sI h_3 k0 2 (1 : Int32))) fun x_6 h_5 =>
    rI x_6 h_5) else none)
    else none) else none := (exq_run (M := M_173) rfl 13 _ _ _ _).symm.trans rfl
noncomputable def f_X_restore (k0 : Nat) (h : pH) : pR := run pMs none 175 0 [some (.ref k0)] [] h
set_option maxRecDepth 100000 in
theorem e_X_restore (k0 : Nat) (h : pH) : f_X_restore k0 h =
    oo none (hI h 7 k0 2) fun x_1 =>
    if x_1 = 0 then
    (rI (-2 : Int32) h)
    else
    (oo none (hR h 7 k0 3) fun k_2 =>
      oo none (hR h 7 k0 0) fun k_3 =>
      if kO h 1 k_2 = true then (cV (f_H_keep k_2 k_3 h) fun h_4 =>
      oo none (hR h_4 7 k0 0) fun k_5 =>
      oo none (hR h_4 7 k0 1) fun k_6 =>
      if kO h_4 6 k_5 = true then (cV (f_B_become k_5 k_6 h_4) fun h_7 =>
      oo none (hR h_7 7 k0 0) fun k_8 =>
      if kO h_7 6 k_8 = true then (cI (f_B_rankOfNow k_8 h_7) fun x_10 h_9 =>
      rI x_10 h_9) else none) else none) else none) := (exq_run (M := M_175) rfl 18 _ _ _ _).symm.trans rfl
end
section
noncomputable def f_Y_in (x0 : Int32) (x1 : Int32) (x2 : Int32) (h : pH) : pR := run pMs none 22 0 [some (.int x0), some (.int x1), some (.int x2)] [] h
theorem e_Y_in (x0 : Int32) (x1 : Int32) (x2 : Int32) (h : pH) : f_Y_in x0 x1 x2 h =
    if x0 < x1 then
    (rI (0 : Int32) h)
    else
    (if x2 < x0 then
      (rI (0 : Int32) h)
      else
      (rI (1 : Int32) h)) := (exq_run (M := M_22) rfl 10 _ _ _ _).symm.trans rfl
noncomputable def f_Y_isPlace (x0 : Int32) (h : pH) : pR := run pMs none 23 0 [some (.int x0)] [] h
theorem e_Y_isPlace (x0 : Int32) (h : pH) : f_Y_isPlace x0 h =
    cI (f_Y_in x0 (0 : Int32) (6 : Int32) h) fun x_2 h_1 =>
    if x_2 = 0 ∨ x_2 = 1 then rI x_2 h_1 else none := (exq_run (M := M_23) rfl 6 _ _ _ _).symm.trans rfl
noncomputable def f_Y_place (k0 : Nat) (x1 : Int32) (h : pH) : pR := run pMs none 24 0 [some (.ref k0), some (.int x1)] [] h
noncomputable def f_Y_place_2 (k0 : Nat) (x1 : Int32) (x2 : Int32) (h : pH) : pR := run pMs none 24 2 [some (.ref k0), some (.int x1), some (.int x2)] [] h
theorem e_Y_place (k0 : Nat) (x1 : Int32) (h : pH) : f_Y_place k0 x1 h =
    (f_Y_place_2 k0 x1 (0 : Int32) h) := (exq_run (M := M_24) rfl 3 _ _ _ _).symm.trans rfl
set_option maxRecDepth 100000 in
theorem e_Y_place_2 (k0 : Nat) (x1 : Int32) (x2 : Int32) (h : pH) : f_Y_place_2 k0 x1 x2 h =
    if (7 : Int32) ≤ x2 then
    (rI (-4 : Int32) h)
    else
    (oo none (hR h 8 k0 0) fun k_1 =>
      oo none (hA h k_1 ((0 : Int32) + x2)) fun x_2 =>
      if x_2 = (x1 + (1 : Int32)) then
      (rI x2 h)
      else
      ((f_Y_place_2 k0 x1 (x2 + 1) h))) := (exq_run (M := M_24) rfl 16 _ _ _ _).symm.trans rfl
noncomputable def f_Y_looks (k0 : Nat) (h : pH) : pR := run pMs none 25 0 [some (.ref k0)] [] h
noncomputable def f_Y_looks_7 (k0 : Nat) (x1 : Int32) (h : pH) : pR := run pMs none 25 7 [some (.ref k0), some (.int x1)] [] h
noncomputable def f_Y_looks_28 (k0 : Nat) (x1 : Int32) (h : pH) : pR := run pMs none 25 28 [some (.ref k0), some (.int x1)] [] h
noncomputable def f_Y_looks_36 (k0 : Nat) (x1 : Int32) (x2 : Int32) (h : pH) : pR := run pMs none 25 36 [some (.ref k0), some (.int x1), some (.int x2)] [] h
theorem e_Y_looks (k0 : Nat) (h : pH) : f_Y_looks k0 h =
    if kO h 8 k0 = true then
    ((f_Y_looks_7 k0 (0 : Int32) (sI h k0 10 (0 : Int32))))
    else none := (exq_run (M := M_25) rfl 6 _ _ _ _).symm.trans rfl
theorem e_Y_looks_7 (k0 : Nat) (x1 : Int32) (h : pH) : f_Y_looks_7 k0 x1 h =
    if (7 : Int32) ≤ x1 then
    ((f_Y_looks_28 k0 (1 : Int32) h))
    else
    (oo none (hR h 8 k0 11) fun k_1 =>
      if bA h k_1 x1 = true then
      ((f_Y_looks_7 k0 (x1 + 1) (sI h k_1 (Int32.toNatClampNeg x1) (0 : Int32))))
      else none) := (exq_run (M := M_25) rfl 11 _ _ _ _).symm.trans rfl
theorem e_Y_looks_28 (k0 : Nat) (x1 : Int32) (h : pH) : f_Y_looks_28 k0 x1 h =
    if (26 : Int32) < x1 then
    (rV h)
    else
    ((f_Y_looks_36 k0 x1 (0 : Int32) h)) := (exq_run (M := M_25) rfl 6 _ _ _ _).symm.trans rfl
set_option maxRecDepth 100000 in
theorem e_Y_looks_36 (k0 : Nat) (x1 : Int32) (x2 : Int32) (h : pH) : f_Y_looks_36 k0 x1 x2 h =
    if (7 : Int32) ≤ x2 then
    ((f_Y_looks_28 k0 (x1 + 1) h))
    else
    (oo none (hR h 8 k0 0) fun k_1 =>
      oo none (hA h k_1 ((0 : Int32) + x2)) fun x_2 =>
      if x_2 = x1 then
      (oo none (hR h 8 k0 7) fun k_3 =>
        oo none (hI h 8 k0 10) fun x_4 =>
        if bA h k_3 x_4 = true then
        (oo none (hR (sI h k_3 (Int32.toNatClampNeg x_4) (x1 - (1 : Int32))) 8 k0 8) fun k_5 =>
        oo none (hI (sI h k_3 (Int32.toNatClampNeg x_4) (x1 - (1 : Int32))) 8 k0 10) fun x_6 =>
        oo none (hR (sI h k_3 (Int32.toNatClampNeg x_4) (x1 - (1 : Int32))) 8 k0 0) fun k_7 =>
        oo none (hA (sI h k_3 (Int32.toNatClampNeg x_4) (x1 - (1 : Int32))) k_7 ((7 : Int32) + x2)) fun x_8 =>
        if bA (sI h k_3 (Int32.toNatClampNeg x_4) (x1 - (1 : Int32))) k_5 x_6 = true then
        (oo none (hR (sI (sI h k_3 (Int32.toNatClampNeg x_4) (x1 - (1 : Int32))) k_5 (Int32.toNatClampNeg x_6) x_8) 8 k0 9) fun k_9 =>
        oo none (hI (sI (sI h k_3 (Int32.toNatClampNeg x_4) (x1 - (1 : Int32))) k_5 (Int32.toNatClampNeg x_6) x_8) 8 k0 10) fun x_10 =>
        oo none (hR (sI (sI h k_3 (Int32.toNatClampNeg x_4) (x1 - (1 : Int32))) k_5 (Int32.toNatClampNeg x_6) x_8) 8 k0 0) fun k_11 =>
        oo none (hA (sI (sI h k_3 (Int32.toNatClampNeg x_4) (x1 - (1 : Int32))) k_5 (Int32.toNatClampNeg x_6) x_8) k_11 ((14 : Int32) + x2)) fun x_12 =>
        if bA (sI (sI h k_3 (Int32.toNatClampNeg x_4) (x1 - (1 : Int32))) k_5 (Int32.toNatClampNeg x_6) x_8) k_9 x_10 = true then
        (oo none (hI (sI (sI (sI h k_3 (Int32.toNatClampNeg x_4) (x1 - (1 : Int32))) k_5 (Int32.toNatClampNeg x_6) x_8) k_9 (Int32.toNatClampNeg x_10) x_12) 8 k0 10) fun x_13 =>
        if kO (sI (sI (sI h k_3 (Int32.toNatClampNeg x_4) (x1 - (1 : Int32))) k_5 (Int32.toNatClampNeg x_6) x_8) k_9 (Int32.toNatClampNeg x_10) x_12) 8 k0 = true then
        (oo none (hR (sI (sI (sI (sI h k_3 (Int32.toNatClampNeg x_4) (x1 - (1 : Int32))) k_5 (Int32.toNatClampNeg x_6) x_8) k_9 (Int32.toNatClampNeg x_10) x_12) k0 10 (x_13 + (1 : Int32))) 8 k0 11) fun k_14 =>
        oo none (hI (sI (sI (sI (sI h k_3 (Int32.toNatClampNeg x_4) (x1 - (1 : Int32))) k_5 (Int32.toNatClampNeg x_6) x_8) k_9 (Int32.toNatClampNeg x_10) x_12) k0 10 (x_13 + (1 : Int32))) 8 k0 10) fun x_15 =>
        if bA (sI (sI (sI (sI h k_3 (Int32.toNatClampNeg x_4) (x1 - (1 : Int32))) k_5 (Int32.toNatClampNeg x_6) x_8) k_9 (Int32.toNatClampNeg x_10) x_12) k0 10 (x_13 + (1 : Int32))) k_14 x2 = true then
        ((f_Y_looks_36 k0 x1 (x2 + 1) (sI (sI (sI (sI (sI h k_3 (Int32.toNatClampNeg x_4) (x1 - (1 : Int32))) k_5 (Int32.toNatClampNeg x_6) x_8) k_9 (Int32.toNatClampNeg x_10) x_12) k0 10 (x_13 + (1 : Int32))) k_14 (Int32.toNatClampNeg x2) x_15)))
        else none)
        else none)
        else none)
        else none)
        else none)
      else
      ((f_Y_looks_36 k0 x1 (x2 + 1) h))) := (exq_run (M := M_25) rfl 56 _ _ _ _).symm.trans rfl
noncomputable def f_Y_booksNow (k0 : Nat) (h : pH) : pR := run pMs none 26 0 [some (.ref k0)] [] h
theorem e_Y_booksNow (k0 : Nat) (h : pH) : f_Y_booksNow k0 h =
    if kO h 8 k0 = true then (cV (f_Y_looks k0 h) fun h_1 =>
    oo none (hI h_1 8 k0 10) fun x_2 =>
    rI x_2 h_1) else none := (exq_run (M := M_26) rfl 6 _ _ _ _).symm.trans rfl
noncomputable def f_Y_remembers (k0 : Nat) (h : pH) : pR := run pMs none 27 0 [some (.ref k0)] [] h
noncomputable def f_Y_remembers_10 (k0 : Nat) (x1 : Int32) (h : pH) : pR := run pMs none 27 10 [some (.ref k0), some (.int x1)] [] h
noncomputable def f_Y_remembers_49 (k0 : Nat) (x1 : Int32) (h : pH) : pR := run pMs none 27 49 [some (.ref k0), some (.int x1)] [] h
theorem e_Y_remembers (k0 : Nat) (h : pH) : f_Y_remembers k0 h =
    oo none (hI h 8 k0 2) fun x_1 =>
    if x_1 = (4 : Int32) then
    ((f_Y_remembers_10 k0 (0 : Int32) h))
    else
    ((f_Y_remembers_49 k0 (0 : Int32) h)) := (exq_run (M := M_27) rfl 7 _ _ _ _).symm.trans rfl
set_option maxRecDepth 100000 in
theorem e_Y_remembers_10 (k0 : Nat) (x1 : Int32) (h : pH) : f_Y_remembers_10 k0 x1 h =
    if (78 : Int32) ≤ x1 then
    (oo none (hI h 8 k0 2) fun x_1 =>
      if kO h 8 k0 = true then
      ((f_Y_remembers_49 k0 (0 : Int32) (sI h k0 2 (x_1 - (1 : Int32)))))
      else none)
    else
    (oo none (hR h 8 k0 1) fun k_2 =>
      oo none (hR h 8 k0 1) fun k_3 =>
      oo none (hA h k_3 ((26 : Int32) + x1)) fun x_4 =>
      if bA h k_2 x1 = true then
      ((f_Y_remembers_10 k0 (x1 + 1) (sI h k_2 (Int32.toNatClampNeg x1) x_4)))
      else none) := (exq_run (M := M_27) rfl 16 _ _ _ _).symm.trans rfl
set_option maxRecDepth 100000 in
theorem e_Y_remembers_49 (k0 : Nat) (x1 : Int32) (h : pH) : f_Y_remembers_49 k0 x1 h =
    if (26 : Int32) ≤ x1 then
    (oo none (hI h 8 k0 2) fun x_1 =>
      if kO h 8 k0 = true then
      (rV (sI h k0 2 (x_1 + (1 : Int32))))
      else none)
    else
    (oo none (hR h 8 k0 1) fun k_2 =>
      oo none (hI h 8 k0 2) fun x_3 =>
      oo none (hR h 8 k0 0) fun k_4 =>
      oo none (hA h k_4 x1) fun x_5 =>
      if bA h k_2 (((26 : Int32) * x_3) + x1) = true then
      ((f_Y_remembers_49 k0 (x1 + 1) (sI h k_2 (Int32.toNatClampNeg (((26 : Int32) * x_3) + x1)) x_5)))
      else none) := (exq_run (M := M_27) rfl 19 _ _ _ _).symm.trans rfl
noncomputable def f_Y_add (k0 : Nat) (x1 : Int32) (x2 : Int32) (x3 : Int32) (h : pH) : pR := run pMs none 28 0 [some (.ref k0), some (.int x1), some (.int x2), some (.int x3)] [] h
set_option maxRecDepth 100000 in
theorem e_Y_add (k0 : Nat) (x1 : Int32) (x2 : Int32) (x3 : Int32) (h : pH) : f_Y_add k0 x1 x2 x3 h =
    cI (f_Y_in x1 (0 : Int32) (25 : Int32) h) fun x_2 h_1 =>
    if x_2 = 0 then
    (rI (-1 : Int32) h_1)
    else
    (cI (f_Y_in x2 (1 : Int32) (9 : Int32) h_1) fun x_4 h_3 =>
      if x_4 = 0 then
      (rI (-1 : Int32) h_3)
      else
      (cI (f_Y_isPlace x3 h_3) fun x_6 h_5 =>
        if x_6 = 0 then
        (rI (-1 : Int32) h_5)
        else
        (if kO h_5 8 k0 = true then (cI (f_Y_place k0 x1 h_5) fun x_8 h_7 =>
          if 0 ≤ x_8 then
          (rI (-2 : Int32) h_7)
          else
          (oo none (hR h_7 8 k0 0) fun k_9 =>
            oo none (hA h_7 k_9 ((0 : Int32) + x3)) fun x_10 =>
            if x_10 ≤ 0 then
            (if kO h_7 8 k0 = true then (cI (f_Y_booksNow k0 h_7) fun x_12 h_11 =>
              if x_12 = (5 : Int32) then
              (rI (-3 : Int32) h_11)
              else
              (if kO h_11 8 k0 = true then (cV (f_Y_remembers k0 h_11) fun h_13 =>
                oo none (hR h_13 8 k0 0) fun k_14 =>
                if bA h_13 k_14 ((0 : Int32) + x3) = true then
                (oo none (hR (sI h_13 k_14 (Int32.toNatClampNeg ((0 : Int32) + x3)) (x1 + (1 : Int32))) 8 k0 0) fun k_15 =>
                if bA (sI h_13 k_14 (Int32.toNatClampNeg ((0 : Int32) + x3)) (x1 + (1 : Int32))) k_15 ((7 : Int32) + x3) = true then
                (oo none (hR (sI (sI h_13 k_14 (Int32.toNatClampNeg ((0 : Int32) + x3)) (x1 + (1 : Int32))) k_15 (Int32.toNatClampNeg ((7 : Int32) + x3)) x2) 8 k0 0) fun k_16 =>
                if bA (sI (sI h_13 k_14 (Int32.toNatClampNeg ((0 : Int32) + x3)) (x1 + (1 : Int32))) k_15 (Int32.toNatClampNeg ((7 : Int32) + x3)) x2) k_16 ((14 : Int32) + x3) = true then
                (if kO (sI (sI (sI h_13 k_14 (Int32.toNatClampNeg ((0 : Int32) + x3)) (x1 + (1 : Int32))) k_15 (Int32.toNatClampNeg ((7 : Int32) + x3)) x2) k_16 (Int32.toNatClampNeg ((14 : Int32) + x3)) (0 : Int32)) 8 k0 = true then (cI (f_Y_booksNow k0 (sI (sI (sI h_13 k_14 (Int32.toNatClampNeg ((0 : Int32) + x3)) (x1 + (1 : Int32))) k_15 (Int32.toNatClampNeg ((7 : Int32) + x3)) x2) k_16 (Int32.toNatClampNeg ((14 : Int32) + x3)) (0 : Int32))) fun x_18 h_17 =>
                rI x_18 h_17) else none)
                else none)
                else none)
                else none) else none)) else none)
            else
            (rI (-2 : Int32) h_7))) else none))) := (exq_run (M := M_28) rfl 57 _ _ _ _).symm.trans rfl
noncomputable def f_Y_remove (k0 : Nat) (x1 : Int32) (h : pH) : pR := run pMs none 31 0 [some (.ref k0), some (.int x1)] [] h
set_option maxRecDepth 100000 in
theorem e_Y_remove (k0 : Nat) (x1 : Int32) (h : pH) : f_Y_remove k0 x1 h =
    cI (f_Y_isPlace x1 h) fun x_2 h_1 =>
    if x_2 = 0 then
    (rI (-1 : Int32) h_1)
    else
    (oo none (hR h_1 8 k0 0) fun k_3 =>
      oo none (hA h_1 k_3 ((0 : Int32) + x1)) fun x_4 =>
      if x_4 = 0 then
      (rI (-2 : Int32) h_1)
      else
      (if kO h_1 8 k0 = true then (cV (f_Y_remembers k0 h_1) fun h_5 =>
        oo none (hR h_5 8 k0 0) fun k_6 =>
        oo none (hA h_5 k_6 ((0 : Int32) + x1)) fun x_7 =>
        oo none (hR h_5 8 k0 0) fun k_8 =>
        if bA h_5 k_8 ((0 : Int32) + x1) = true then
        (rI (x_7 - (1 : Int32)) (sI h_5 k_8 (Int32.toNatClampNeg ((0 : Int32) + x1)) (0 : Int32)))
        else none) else none)) := (exq_run (M := M_31) rfl 31 _ _ _ _).symm.trans rfl
noncomputable def f_Y_stick (k0 : Nat) (x1 : Int32) (h : pH) : pR := run pMs none 34 0 [some (.ref k0), some (.int x1)] [] h
set_option maxRecDepth 100000 in
theorem e_Y_stick (k0 : Nat) (x1 : Int32) (h : pH) : f_Y_stick k0 x1 h =
    cI (f_Y_isPlace x1 h) fun x_2 h_1 =>
    if x_2 = 0 then
    (rI (-1 : Int32) h_1)
    else
    (oo none (hR h_1 8 k0 0) fun k_3 =>
      oo none (hA h_1 k_3 ((0 : Int32) + x1)) fun x_4 =>
      if x_4 = 0 then
      (rI (-2 : Int32) h_1)
      else
      (if kO h_1 8 k0 = true then (cV (f_Y_remembers k0 h_1) fun h_5 =>
        oo none (hR h_5 8 k0 0) fun k_6 =>
        oo none (hR h_5 8 k0 0) fun k_7 =>
        oo none (hA h_5 k_7 ((14 : Int32) + x1)) fun x_8 =>
        if bA h_5 k_6 ((14 : Int32) + x1) = true then
        (oo none (hR (sI h_5 k_6 (Int32.toNatClampNeg ((14 : Int32) + x1)) ((1 : Int32) - x_8)) 8 k0 0) fun k_9 =>
        oo none (hA (sI h_5 k_6 (Int32.toNatClampNeg ((14 : Int32) + x1)) ((1 : Int32) - x_8)) k_9 ((14 : Int32) + x1)) fun x_10 =>
        rI x_10 (sI h_5 k_6 (Int32.toNatClampNeg ((14 : Int32) + x1)) ((1 : Int32) - x_8)))
        else none) else none)) := (exq_run (M := M_34) rfl 34 _ _ _ _).symm.trans rfl
noncomputable def f_Y_nearestGap (k0 : Nat) (x1 : Int32) (h : pH) : pR := run pMs none 44 0 [some (.ref k0), some (.int x1)] [] h
noncomputable def f_Y_nearestGap_2 (k0 : Nat) (x1 : Int32) (x2 : Int32) (h : pH) : pR := run pMs none 44 2 [some (.ref k0), some (.int x1), some (.int x2)] [] h
noncomputable def f_Y_nearestGap_29 (k0 : Nat) (x1 : Int32) (x2 : Int32) (h : pH) : pR := run pMs none 44 29 [some (.ref k0), some (.int x1), some (.int x2)] [] h
theorem e_Y_nearestGap (k0 : Nat) (x1 : Int32) (h : pH) : f_Y_nearestGap k0 x1 h =
    (f_Y_nearestGap_2 k0 x1 (0 : Int32) h) := (exq_run (M := M_44) rfl 3 _ _ _ _).symm.trans rfl
set_option maxRecDepth 100000 in
theorem e_Y_nearestGap_2 (k0 : Nat) (x1 : Int32) (x2 : Int32) (h : pH) : f_Y_nearestGap_2 k0 x1 x2 h =
    if (7 : Int32) ≤ x2 then
    (rI (-4 : Int32) h)
    else
    (if (x1 - x2) < 0 then
      ((f_Y_nearestGap_29 k0 x1 x2 h))
      else
      (oo none (hR h 8 k0 11) fun k_1 =>
        oo none (hA h k_1 (x1 - x2)) fun x_2 =>
        if x_2 = 0 then
        (rI (x1 - x2) h)
        else
        ((f_Y_nearestGap_29 k0 x1 x2 h)))) := (exq_run (M := M_44) rfl 19 _ _ _ _).symm.trans rfl
set_option maxRecDepth 100000 in
theorem e_Y_nearestGap_29 (k0 : Nat) (x1 : Int32) (x2 : Int32) (h : pH) : f_Y_nearestGap_29 k0 x1 x2 h =
    if (7 : Int32) ≤ (x1 + x2) then
    ((f_Y_nearestGap_2 k0 x1 (x2 + 1) h))
    else
    (oo none (hR h 8 k0 11) fun k_1 =>
      oo none (hA h k_1 (x1 + x2)) fun x_2 =>
      if x_2 = 0 then
      (rI (x1 + x2) h)
      else
      ((f_Y_nearestGap_2 k0 x1 (x2 + 1) h))) := (exq_run (M := M_44) rfl 17 _ _ _ _).symm.trans rfl
noncomputable def f_Y_whyNotOf (k0 : Nat) (x1 : Int32) (h : pH) : pR := run pMs none 45 0 [some (.ref k0), some (.int x1)] [] h
noncomputable def f_Y_whyNotOf_65 (k0 : Nat) (x2 : Int32) (t0 : Int32) (h : pH) : pR := run pMs none 45 65 [some (.ref k0), none, some (.int x2)] [.int t0] h
set_option maxRecDepth 100000 in
theorem e_Y_whyNotOf (k0 : Nat) (x1 : Int32) (h : pH) : f_Y_whyNotOf k0 x1 h =
    if (7 : Int32) ≤ x1 then
    (if (6 : Int32) = 0 then none else
      if (13 : Int32) ≤ x1 then
      ((f_Y_whyNotOf_65 k0 ((x1 - (7 : Int32)) - (x1 - (7 : Int32)) / (6 : Int32) * (6 : Int32)) (((x1 - (7 : Int32)) - (x1 - (7 : Int32)) / (6 : Int32) * (6 : Int32)) - (1 : Int32)) h))
      else
      ((f_Y_whyNotOf_65 k0 ((x1 - (7 : Int32)) - (x1 - (7 : Int32)) / (6 : Int32) * (6 : Int32)) (((x1 - (7 : Int32)) - (x1 - (7 : Int32)) / (6 : Int32) * (6 : Int32)) + (2 : Int32)) h)))
    else
    (oo none (hR h 8 k0 11) fun k_1 =>
      oo none (hA h k_1 x1) fun x_2 =>
      if x_2 = 0 then
      (rI (1 : Int32) h)
      else
      (oo none (hR h 8 k0 9) fun k_3 =>
        oo none (hR h 8 k0 11) fun k_4 =>
        oo none (hA h k_4 x1) fun x_5 =>
        oo none (hA h k_3 (x_5 - (1 : Int32))) fun x_6 =>
        if x_6 = (1 : Int32) then
        (rI (2 : Int32) h)
        else
        (rI (0 : Int32) h))) := (exq_run (M := M_45) rfl 23 _ _ _ _).symm.trans rfl
set_option maxRecDepth 100000 in
theorem e_Y_whyNotOf_65 (k0 : Nat) (x2 : Int32) (t0 : Int32) (h : pH) : f_Y_whyNotOf_65 k0 x2 t0 h =
    oo none (hR h 8 k0 11) fun k_1 =>
    oo none (hA h k_1 x2) fun x_2 =>
    if x_2 = 0 then
    (rI (3 : Int32) h)
    else
    (oo none (hR h 8 k0 11) fun k_3 =>
      oo none (hA h k_3 (x2 + (1 : Int32))) fun x_4 =>
      if x_4 = 0 then
      (rI (3 : Int32) h)
      else
      (cI (f_Y_isPlace t0 h) fun x_6 h_5 =>
        if x_6 = 0 then
        (rI (4 : Int32) h_5)
        else
        (oo none (hR h_5 8 k0 11) fun k_7 =>
          oo none (hA h_5 k_7 t0) fun x_8 =>
          if x_8 = 0 then
          (rI (0 : Int32) h_5)
          else
          (rI (4 : Int32) h_5)))) := (exq_run (M := M_45) rfl 25 _ _ _ _).symm.trans rfl
noncomputable def f_Y_makes (k0 : Nat) (x1 : Int32) (h : pH) : pR := run pMs none 46 0 [some (.ref k0), some (.int x1)] [] h
noncomputable def f_Y_makes_2 (k0 : Nat) (x1 : Int32) (x2 : Int32) (h : pH) : pR := run pMs none 46 2 [some (.ref k0), some (.int x1), some (.int x2)] [] h
noncomputable def f_Y_makes_127 (k0 : Nat) (x1 : Int32) (x2 : Int32) (x3 : Int32) (x4 : Int32) (t0 : Int32) (h : pH) : pR := run pMs none 46 127 [some (.ref k0), some (.int x1), some (.int x2), some (.int x3), some (.int x4)] [.int t0] h
noncomputable def f_Y_makes_142 (k0 : Nat) (x1 : Int32) (x2 : Int32) (x5 : Int32) (t0 : Nat) (t1 : Int32) (h : pH) : pR := run pMs none 46 142 [some (.ref k0), some (.int x1), some (.int x2), none, none, some (.int x5)] [.int t1, .ref t0] h
noncomputable def f_Y_makes_162 (k0 : Nat) (x2 : Int32) (x5 : Int32) (t0 : Nat) (t1 : Int32) (h : pH) : pR := run pMs none 46 162 [some (.ref k0), none, some (.int x2), none, none, some (.int x5)] [.int t1, .ref t0] h
theorem e_Y_makes (k0 : Nat) (x1 : Int32) (h : pH) : f_Y_makes k0 x1 h =
    (f_Y_makes_2 k0 x1 (0 : Int32) h) := (exq_run (M := M_46) rfl 3 _ _ _ _).symm.trans rfl
set_option maxRecDepth 100000 in
theorem e_Y_makes_2 (k0 : Nat) (x1 : Int32) (x2 : Int32) (h : pH) : f_Y_makes_2 k0 x1 x2 h =
    if (7 : Int32) ≤ x2 then
    (if (7 : Int32) ≤ x1 then
      (if (6 : Int32) = 0 then none else
        oo none (hR h 8 k0 8) fun k_1 =>
        oo none (hR h 8 k0 11) fun k_2 =>
        oo none (hA h k_2 ((x1 - (7 : Int32)) - (x1 - (7 : Int32)) / (6 : Int32) * (6 : Int32))) fun x_3 =>
        oo none (hA h k_1 (x_3 - (1 : Int32))) fun x_4 =>
        oo none (hR h 8 k0 8) fun k_5 =>
        oo none (hR h 8 k0 11) fun k_6 =>
        oo none (hA h k_6 (((x1 - (7 : Int32)) - (x1 - (7 : Int32)) / (6 : Int32) * (6 : Int32)) + (1 : Int32))) fun x_7 =>
        oo none (hA h k_5 (x_7 - (1 : Int32))) fun x_8 =>
        if (13 : Int32) ≤ x1 then
        ((f_Y_makes_127 k0 x1 ((x1 - (7 : Int32)) - (x1 - (7 : Int32)) / (6 : Int32) * (6 : Int32)) x_4 x_8 (((x1 - (7 : Int32)) - (x1 - (7 : Int32)) / (6 : Int32) * (6 : Int32)) - (1 : Int32)) h))
        else
        ((f_Y_makes_127 k0 x1 ((x1 - (7 : Int32)) - (x1 - (7 : Int32)) / (6 : Int32) * (6 : Int32)) x_4 x_8 (((x1 - (7 : Int32)) - (x1 - (7 : Int32)) / (6 : Int32) * (6 : Int32)) + (1 : Int32)) h)))
      else
      (oo none (hR h 8 k0 8) fun k_9 =>
        oo none (hR h 8 k0 11) fun k_10 =>
        oo none (hA h k_10 x1) fun x_11 =>
        oo none (hA h k_9 (x_11 - (1 : Int32))) fun x_12 =>
        if kO h 8 k0 = true then
        (oo none (hR (sI h k0 13 x_12) 8 k0 12) fun k_13 =>
        if kO (sI h k0 13 x_12) 8 k0 = true then (cI (f_Y_nearestGap k0 x1 (sI h k0 13 x_12)) fun x_15 h_14 =>
        oo none (hR h_14 8 k0 11) fun k_16 =>
        oo none (hA h_14 k_16 x1) fun x_17 =>
        if bA h_14 k_13 x_15 = true then
        (oo none (hR (sI h_14 k_13 (Int32.toNatClampNeg x_15) x_17) 8 k0 12) fun k_18 =>
        if bA (sI h_14 k_13 (Int32.toNatClampNeg x_15) x_17) k_18 x1 = true then
        (rV (sI (sI h_14 k_13 (Int32.toNatClampNeg x_15) x_17) k_18 (Int32.toNatClampNeg x1) (0 : Int32)))
        else none)
        else none) else none)
        else none))
    else
    (oo none (hR h 8 k0 12) fun k_19 =>
      oo none (hR h 8 k0 11) fun k_20 =>
      oo none (hA h k_20 x2) fun x_21 =>
      if bA h k_19 x2 = true then
      ((f_Y_makes_2 k0 x1 (x2 + 1) (sI h k_19 (Int32.toNatClampNeg x2) x_21)))
      else none) := (exq_run (M := M_46) rfl 42 _ _ _ _).symm.trans rfl
theorem e_Y_makes_127 (k0 : Nat) (x1 : Int32) (x2 : Int32) (x3 : Int32) (x4 : Int32) (t0 : Int32) (h : pH) : f_Y_makes_127 k0 x1 x2 x3 x4 t0 h =
    if x3 ≤ x4 then
    ((f_Y_makes_142 k0 x1 x2 t0 k0 x4 h))
    else
    ((f_Y_makes_142 k0 x1 x2 t0 k0 x3 h)) := (exq_run (M := M_46) rfl 8 _ _ _ _).symm.trans rfl
theorem e_Y_makes_142 (k0 : Nat) (x1 : Int32) (x2 : Int32) (x5 : Int32) (t0 : Nat) (t1 : Int32) (h : pH) : f_Y_makes_142 k0 x1 x2 x5 t0 t1 h =
    if kO h 8 t0 = true then
    (oo none (hR (sI h t0 13 t1) 8 k0 12) fun k_1 =>
    if (13 : Int32) ≤ x1 then
    ((f_Y_makes_162 k0 x2 x5 k_1 (x2 + (1 : Int32)) (sI h t0 13 t1)))
    else
    ((f_Y_makes_162 k0 x2 x5 k_1 x2 (sI h t0 13 t1))))
    else none := (exq_run (M := M_46) rfl 10 _ _ _ _).symm.trans rfl
set_option maxRecDepth 100000 in
theorem e_Y_makes_162 (k0 : Nat) (x2 : Int32) (x5 : Int32) (t0 : Nat) (t1 : Int32) (h : pH) : f_Y_makes_162 k0 x2 x5 t0 t1 h =
    if bA h t0 t1 = true then
    (oo none (hR (sI h t0 (Int32.toNatClampNeg t1) (0 : Int32)) 8 k0 12) fun k_1 =>
    oo none (hR (sI h t0 (Int32.toNatClampNeg t1) (0 : Int32)) 8 k0 11) fun k_2 =>
    oo none (hA (sI h t0 (Int32.toNatClampNeg t1) (0 : Int32)) k_2 x2) fun x_3 =>
    if bA (sI h t0 (Int32.toNatClampNeg t1) (0 : Int32)) k_1 x5 = true then
    (oo none (hR (sI (sI h t0 (Int32.toNatClampNeg t1) (0 : Int32)) k_1 (Int32.toNatClampNeg x5) x_3) 8 k0 12) fun k_4 =>
    oo none (hR (sI (sI h t0 (Int32.toNatClampNeg t1) (0 : Int32)) k_1 (Int32.toNatClampNeg x5) x_3) 8 k0 11) fun k_5 =>
    oo none (hA (sI (sI h t0 (Int32.toNatClampNeg t1) (0 : Int32)) k_1 (Int32.toNatClampNeg x5) x_3) k_5 (x2 + (1 : Int32))) fun x_6 =>
    if bA (sI (sI h t0 (Int32.toNatClampNeg t1) (0 : Int32)) k_1 (Int32.toNatClampNeg x5) x_3) k_4 (x5 + (1 : Int32)) = true then
    (rV (sI (sI (sI h t0 (Int32.toNatClampNeg t1) (0 : Int32)) k_1 (Int32.toNatClampNeg x5) x_3) k_4 (Int32.toNatClampNeg (x5 + (1 : Int32))) x_6))
    else none)
    else none)
    else none := (exq_run (M := M_46) rfl 24 _ _ _ _).symm.trans rfl
noncomputable def f_Y_goesOn (k0 : Nat) (h : pH) : pR := run pMs none 47 0 [some (.ref k0)] [] h
noncomputable def f_Y_goesOn_2 (k0 : Nat) (x1 : Int32) (h : pH) : pR := run pMs none 47 2 [some (.ref k0), some (.int x1)] [] h
theorem e_Y_goesOn (k0 : Nat) (h : pH) : f_Y_goesOn k0 h =
    (f_Y_goesOn_2 k0 (0 : Int32) h) := (exq_run (M := M_47) rfl 3 _ _ _ _).symm.trans rfl
set_option maxRecDepth 100000 in
theorem e_Y_goesOn_2 (k0 : Nat) (x1 : Int32) (h : pH) : f_Y_goesOn_2 k0 x1 h =
    if (7 : Int32) ≤ x1 then
    (rV h)
    else
    (oo none (hR h 8 k0 11) fun k_1 =>
      oo none (hR h 8 k0 12) fun k_2 =>
      oo none (hA h k_2 x1) fun x_3 =>
      if bA h k_1 x1 = true then
      ((f_Y_goesOn_2 k0 (x1 + 1) (sI h k_1 (Int32.toNatClampNeg x1) x_3)))
      else none) := (exq_run (M := M_47) rfl 14 _ _ _ _).symm.trans rfl
noncomputable def f_Y_stands (k0 : Nat) (h : pH) : pR := run pMs none 48 0 [some (.ref k0)] [] h
noncomputable def f_Y_stands_2 (k0 : Nat) (x1 : Int32) (h : pH) : pR := run pMs none 48 2 [some (.ref k0), some (.int x1)] [] h
noncomputable def f_Y_stands_40 (k0 : Nat) (x1 : Int32) (x2 : Int32) (t0 : Nat) (t1 : Int32) (t2 : Int32) (h : pH) : pR := run pMs none 48 40 [some (.ref k0), some (.int x1), some (.int x2)] [.int t2, .int t1, .ref t0] h
noncomputable def f_Y_stands_63 (k0 : Nat) (x1 : Int32) (x2 : Int32) (t0 : Nat) (t1 : Int32) (t2 : Int32) (h : pH) : pR := run pMs none 48 63 [some (.ref k0), some (.int x1), some (.int x2)] [.int t2, .int t1, .ref t0] h
theorem e_Y_stands (k0 : Nat) (h : pH) : f_Y_stands k0 h =
    (f_Y_stands_2 k0 (0 : Int32) h) := (exq_run (M := M_48) rfl 3 _ _ _ _).symm.trans rfl
set_option maxRecDepth 100000 in
theorem e_Y_stands_2 (k0 : Nat) (x1 : Int32) (h : pH) : f_Y_stands_2 k0 x1 h =
    if (7 : Int32) ≤ x1 then
    (rV h)
    else
    (oo none (hR h 8 k0 11) fun k_1 =>
      oo none (hA h k_1 x1) fun x_2 =>
      oo none (hR h 8 k0 0) fun k_3 =>
      if 0 ≤ (x_2 - (1 : Int32)) then
      (oo none (hR h 8 k0 7) fun k_4 =>
        oo none (hA h k_4 (x_2 - (1 : Int32))) fun x_5 =>
        (f_Y_stands_40 k0 x1 (x_2 - (1 : Int32)) k_3 ((0 : Int32) + x1) (x_5 + (1 : Int32)) h))
      else
      ((f_Y_stands_40 k0 x1 (x_2 - (1 : Int32)) k_3 ((0 : Int32) + x1) (0 : Int32) h))) := (exq_run (M := M_48) rfl 24 _ _ _ _).symm.trans rfl
theorem e_Y_stands_40 (k0 : Nat) (x1 : Int32) (x2 : Int32) (t0 : Nat) (t1 : Int32) (t2 : Int32) (h : pH) : f_Y_stands_40 k0 x1 x2 t0 t1 t2 h =
    if bA h t0 t1 = true then
    (oo none (hR (sI h t0 (Int32.toNatClampNeg t1) t2) 8 k0 0) fun k_1 =>
    if 0 ≤ x2 then
    (oo none (hR (sI h t0 (Int32.toNatClampNeg t1) t2) 8 k0 8) fun k_2 =>
      oo none (hA (sI h t0 (Int32.toNatClampNeg t1) t2) k_2 x2) fun x_3 =>
      (f_Y_stands_63 k0 x1 x2 k_1 ((7 : Int32) + x1) x_3 (sI h t0 (Int32.toNatClampNeg t1) t2)))
    else
    ((f_Y_stands_63 k0 x1 x2 k_1 ((7 : Int32) + x1) (0 : Int32) (sI h t0 (Int32.toNatClampNeg t1) t2))))
    else none := (exq_run (M := M_48) rfl 13 _ _ _ _).symm.trans rfl
set_option maxRecDepth 100000 in
theorem e_Y_stands_63 (k0 : Nat) (x1 : Int32) (x2 : Int32) (t0 : Nat) (t1 : Int32) (t2 : Int32) (h : pH) : f_Y_stands_63 k0 x1 x2 t0 t1 t2 h =
    if bA h t0 t1 = true then
    (oo none (hR (sI h t0 (Int32.toNatClampNeg t1) t2) 8 k0 0) fun k_1 =>
    if 0 ≤ x2 then
    (oo none (hR (sI h t0 (Int32.toNatClampNeg t1) t2) 8 k0 9) fun k_2 =>
      oo none (hA (sI h t0 (Int32.toNatClampNeg t1) t2) k_2 x2) fun x_3 =>
      if bA (sI h t0 (Int32.toNatClampNeg t1) t2) k_1 ((14 : Int32) + x1) = true then
      ((f_Y_stands_2 k0 (x1 + 1) (sI (sI h t0 (Int32.toNatClampNeg t1) t2) k_1 (Int32.toNatClampNeg ((14 : Int32) + x1)) x_3)))
      else none)
    else
    (if bA (sI h t0 (Int32.toNatClampNeg t1) t2) k_1 ((14 : Int32) + x1) = true then
      ((f_Y_stands_2 k0 (x1 + 1) (sI (sI h t0 (Int32.toNatClampNeg t1) t2) k_1 (Int32.toNatClampNeg ((14 : Int32) + x1)) (0 : Int32))))
      else none))
    else none := (exq_run (M := M_48) rfl 16 _ _ _ _).symm.trans rfl
noncomputable def f_Y_does (k0 : Nat) (x1 : Int32) (h : pH) : pR := run pMs none 49 0 [some (.ref k0), some (.int x1)] [] h
set_option maxRecDepth 100000 in
theorem e_Y_does (k0 : Nat) (x1 : Int32) (h : pH) : f_Y_does k0 x1 h =
    if kO h 8 k0 = true then (cV (f_Y_looks k0 h) fun h_1 =>
    if kO h_1 8 k0 = true then (cI (f_Y_whyNotOf k0 x1 h_1) fun x_3 h_2 =>
    if x_3 ≤ 0 then
    (if kO h_2 8 k0 = true then (cV (f_Y_makes k0 x1 h_2) fun h_4 =>
      if kO h_4 8 k0 = true then (cV (f_Y_goesOn k0 h_4) fun h_5 =>
      if kO h_5 8 k0 = true then (cV (f_Y_stands k0 h_5) fun h_6 =>
      oo none (hR h_6 8 k0 0) fun k_7 =>
      oo none (hA h_6 k_7 (23 : Int32)) fun x_8 =>
      if bA h_6 k_7 (23 : Int32) = true then
      (oo none (hR (sI h_6 k_7 (Int32.toNatClampNeg (23 : Int32)) (x_8 + (1 : Int32))) 8 k0 0) fun k_9 =>
      oo none (hA (sI h_6 k_7 (Int32.toNatClampNeg (23 : Int32)) (x_8 + (1 : Int32))) k_9 (24 : Int32)) fun x_10 =>
      oo none (hI (sI h_6 k_7 (Int32.toNatClampNeg (23 : Int32)) (x_8 + (1 : Int32))) 8 k0 13) fun x_11 =>
      if bA (sI h_6 k_7 (Int32.toNatClampNeg (23 : Int32)) (x_8 + (1 : Int32))) k_9 (24 : Int32) = true then
      (rI (0 : Int32) (sI (sI h_6 k_7 (Int32.toNatClampNeg (23 : Int32)) (x_8 + (1 : Int32))) k_9 (Int32.toNatClampNeg (24 : Int32)) (x_10 + x_11)))
      else none)
      else none) else none) else none) else none)
    else
    (oo none (hR h_2 8 k0 0) fun k_12 =>
      oo none (hA h_2 k_12 (25 : Int32)) fun x_13 =>
      if bA h_2 k_12 (25 : Int32) = true then
      (rI x_3 (sI h_2 k_12 (Int32.toNatClampNeg (25 : Int32)) (x_13 + (1 : Int32))))
      else none)) else none) else none := (exq_run (M := M_49) rfl 35 _ _ _ _).symm.trans rfl
noncomputable def f_Y_pull (k0 : Nat) (x1 : Int32) (h : pH) : pR := run pMs none 50 0 [some (.ref k0), some (.int x1)] [] h
set_option maxRecDepth 100000 in
theorem e_Y_pull (k0 : Nat) (x1 : Int32) (h : pH) : f_Y_pull k0 x1 h =
    cI (f_Y_isPlace x1 h) fun x_2 h_1 =>
    if x_2 = 0 then
    (rI (-1 : Int32) h_1)
    else
    (if kO h_1 8 k0 = true then (cV (f_Y_remembers k0 h_1) fun h_3 =>
      if kO h_3 8 k0 = true then (cV (f_Y_looks k0 h_3) fun h_4 =>
      if kO h_4 8 k0 = true then (cI (f_Y_nearestGap k0 x1 h_4) fun x_6 h_5 =>
      if kO h_5 8 k0 = true then (cI (f_Y_does k0 x1 h_5) fun x_8 h_7 =>
      if x_8 ≤ 0 then
      (rI ((10 : Int32) + x_6) h_7)
      else
      (rI x_8 h_7)) else none) else none) else none) else none) := (exq_run (M := M_50) rfl 22 _ _ _ _).symm.trans rfl
noncomputable def f_Y_push (k0 : Nat) (x1 : Int32) (x2 : Int32) (h : pH) : pR := run pMs none 52 0 [some (.ref k0), some (.int x1), some (.int x2)] [] h
set_option maxRecDepth 100000 in
theorem e_Y_push (k0 : Nat) (x1 : Int32) (x2 : Int32) (h : pH) : f_Y_push k0 x1 x2 h =
    cI (f_Y_in x1 (0 : Int32) (5 : Int32) h) fun x_2 h_1 =>
    if x_2 = 0 then
    (rI (-1 : Int32) h_1)
    else
    (if kO h_1 8 k0 = true then (cV (f_Y_remembers k0 h_1) fun h_3 =>
      if x2 = 0 then
      (if kO h_3 8 k0 = true then (cI (f_Y_does k0 ((13 : Int32) + x1) h_3) fun x_5 h_4 =>
        rI x_5 h_4) else none)
      else
      (if kO h_3 8 k0 = true then (cI (f_Y_does k0 ((7 : Int32) + x1) h_3) fun x_7 h_6 =>
        rI x_7 h_6) else none)) else none) := (exq_run (M := M_52) rfl 17 _ _ _ _).symm.trans rfl
noncomputable def f_Y_set (k0 : Nat) (x1 : Int32) (x2 : Int32) (h : pH) : pR := run pMs none 54 0 [some (.ref k0), some (.int x1), some (.int x2)] [] h
set_option maxRecDepth 100000 in
theorem e_Y_set (k0 : Nat) (x1 : Int32) (x2 : Int32) (h : pH) : f_Y_set k0 x1 x2 h =
    cI (f_Y_in x1 (0 : Int32) (1 : Int32) h) fun x_2 h_1 =>
    if x_2 = 0 then
    (rI (-1 : Int32) h_1)
    else
    (cI (f_Y_in x2 (0 : Int32) (1 : Int32) h_1) fun x_4 h_3 =>
      if x_4 = 0 then
      (rI (-1 : Int32) h_3)
      else
      (if kO h_3 8 k0 = true then (cV (f_Y_remembers k0 h_3) fun h_5 =>
        oo none (hR h_5 8 k0 0) fun k_6 =>
        oo none (hA h_5 k_6 ((21 : Int32) + x1)) fun x_7 =>
        oo none (hR h_5 8 k0 0) fun k_8 =>
        if bA h_5 k_8 ((21 : Int32) + x1) = true then
        (rI x_7 (sI h_5 k_8 (Int32.toNatClampNeg ((21 : Int32) + x1)) x2))
        else none) else none)) := (exq_run (M := M_54) rfl 29 _ _ _ _).symm.trans rfl
noncomputable def f_Y_append (k0 : Nat) (x1 : Int32) (h : pH) : pR := run pMs none 57 0 [some (.ref k0), some (.int x1)] [] h
set_option maxRecDepth 100000 in
theorem e_Y_append (k0 : Nat) (x1 : Int32) (h : pH) : f_Y_append k0 x1 h =
    cI (f_Y_in x1 (33 : Int32) (126 : Int32) h) fun x_2 h_1 =>
    if x_2 = 0 then
    (rI (-1 : Int32) h_1)
    else
    (oo none (hI h_1 8 k0 6) fun x_3 =>
      if x_3 = (60 : Int32) then
      (rI (-3 : Int32) h_1)
      else
      (oo none (hR h_1 8 k0 5) fun k_4 =>
        oo none (hI h_1 8 k0 6) fun x_5 =>
        if bA h_1 k_4 x_5 = true then
        (oo none (hI (sI h_1 k_4 (Int32.toNatClampNeg x_5) x1) 8 k0 6) fun x_6 =>
        if kO (sI h_1 k_4 (Int32.toNatClampNeg x_5) x1) 8 k0 = true then
        (oo none (hI (sI (sI h_1 k_4 (Int32.toNatClampNeg x_5) x1) k0 6 (x_6 + (1 : Int32))) 8 k0 6) fun x_7 =>
        rI x_7 (sI (sI h_1 k_4 (Int32.toNatClampNeg x_5) x1) k0 6 (x_6 + (1 : Int32))))
        else none)
        else none)) := (exq_run (M := M_57) rfl 25 _ _ _ _).symm.trans rfl
noncomputable def f_Y_clear (k0 : Nat) (h : pH) : pR := run pMs none 59 0 [some (.ref k0)] [] h
theorem e_Y_clear (k0 : Nat) (h : pH) : f_Y_clear k0 h =
    oo none (hI h 8 k0 6) fun x_1 =>
    if kO h 8 k0 = true then
    (rI x_1 (sI h k0 6 (0 : Int32)))
    else none := (exq_run (M := M_59) rfl 9 _ _ _ _).symm.trans rfl
noncomputable def f_Y_mostOf (x0 : Int32) (h : pH) : pR := run pMs none 66 0 [some (.int x0)] [] h
theorem e_Y_mostOf (x0 : Int32) (h : pH) : f_Y_mostOf x0 h =
    if x0 = (112 : Int32) then
    (rI (6 : Int32) h)
    else
    (if x0 = (114 : Int32) then
      (rI (5 : Int32) h)
      else
      (if x0 = (108 : Int32) then
        (rI (5 : Int32) h)
        else
        (rI (-1 : Int32) h))) := (exq_run (M := M_66) rfl 13 _ _ _ _).symm.trans rfl
noncomputable def f_Y_faultOfProgram (k0 : Nat) (h : pH) : pR := run pMs none 67 0 [some (.ref k0)] [] h
noncomputable def f_Y_faultOfProgram_2 (k0 : Nat) (x1 : Int32) (h : pH) : pR := run pMs none 67 2 [some (.ref k0), some (.int x1)] [] h
theorem e_Y_faultOfProgram (k0 : Nat) (h : pH) : f_Y_faultOfProgram k0 h =
    (f_Y_faultOfProgram_2 k0 (0 : Int32) h) := (exq_run (M := M_67) rfl 3 _ _ _ _).symm.trans rfl
set_option maxRecDepth 100000 in
theorem e_Y_faultOfProgram_2 (k0 : Nat) (x1 : Int32) (h : pH) : f_Y_faultOfProgram_2 k0 x1 h =
    oo none (hI h 8 k0 6) fun x_1 =>
    if x_1 ≤ x1 then
    (oo none (hI h 8 k0 6) fun x_2 =>
      if x_2 = 0 then
      (oo none (hI h 8 k0 6) fun x_3 =>
        rI x_3 h)
      else
      (oo none (hI h 8 k0 6) fun x_4 =>
        if (2 : Int32) = 0 then none else
        if (x_4 - x_4 / (2 : Int32) * (2 : Int32)) = (1 : Int32) then
        (oo none (hI h 8 k0 6) fun x_5 =>
          rI x_5 h)
        else
        (rI (-4 : Int32) h)))
    else
    (if (2 : Int32) = 0 then none else
      if (x1 - x1 / (2 : Int32) * (2 : Int32)) = 0 then
      (oo none (hR h 8 k0 5) fun k_14 =>
        oo none (hA h k_14 x1) fun x_15 =>
        cI (f_Y_mostOf x_15 h) fun x_17 h_16 =>
        if x_17 ≤ 0 then
        (if (0 : Int32) = 0 then
          (rI x1 h_16)
          else
          ((f_Y_faultOfProgram_2 k0 (x1 + 1) h_16)))
        else
        (if (1 : Int32) = 0 then
          (rI x1 h_16)
          else
          ((f_Y_faultOfProgram_2 k0 (x1 + 1) h_16))))
      else
      (oo none (hR h 8 k0 5) fun k_6 =>
        oo none (hA h k_6 x1) fun x_7 =>
        oo none (hR h 8 k0 5) fun k_8 =>
        oo none (hA h k_8 (x1 - (1 : Int32))) fun x_9 =>
        cI (f_Y_mostOf x_9 h) fun x_11 h_10 =>
        cI (f_Y_in (x_7 - (48 : Int32)) (0 : Int32) x_11 h_10) fun x_13 h_12 =>
        if x_13 = 0 then
        (rI x1 h_12)
        else
        ((f_Y_faultOfProgram_2 k0 (x1 + 1) h_12)))) := (exq_run (M := M_67) rfl 29 _ _ _ _).symm.trans rfl
noncomputable def f_Y_signed (k0 : Nat) (x1 : Int32) (h : pH) : pR := run pMs none 68 0 [some (.ref k0), some (.int x1)] [] h
noncomputable def f_Y_signed_19 (k0 : Nat) (x1 : Int32) (x2 : Int32) (x3 : Int32) (h : pH) : pR := run pMs none 68 19 [some (.ref k0), some (.int x1), some (.int x2), some (.int x3)] [] h
theorem e_Y_signed (k0 : Nat) (x1 : Int32) (h : pH) : f_Y_signed k0 x1 h =
    oo none (hR h 8 k0 5) fun k_1 =>
    oo none (hA h k_1 x1) fun x_2 =>
    if x_2 = (46 : Int32) then
    ((f_Y_signed_19 k0 x1 (0 : Int32) (0 : Int32) h))
    else
    ((f_Y_signed_19 k0 x1 (-1 : Int32) (0 : Int32) h)) := (exq_run (M := M_68) rfl 12 _ _ _ _).symm.trans rfl
set_option maxRecDepth 100000 in
theorem e_Y_signed_19 (k0 : Nat) (x1 : Int32) (x2 : Int32) (x3 : Int32) (h : pH) : f_Y_signed_19 k0 x1 x2 x3 h =
    oo none (hI h 8 k0 10) fun x_1 =>
    if x_1 ≤ x3 then
    (rI x2 h)
    else
    (oo none (hR h 8 k0 5) fun k_2 =>
      oo none (hA h k_2 x1) fun x_3 =>
      oo none (hR h 8 k0 7) fun k_4 =>
      oo none (hA h k_4 x3) fun x_5 =>
      if x_3 = ((97 : Int32) + x_5) then
      ((f_Y_signed_19 k0 x1 (x3 + (1 : Int32)) (x3 + 1) h))
      else
      ((f_Y_signed_19 k0 x1 x2 (x3 + 1) h))) := (exq_run (M := M_68) rfl 23 _ _ _ _).symm.trans rfl
noncomputable def f_Y_faultOfWord (k0 : Nat) (h : pH) : pR := run pMs none 69 0 [some (.ref k0)] [] h
noncomputable def f_Y_faultOfWord_6 (k0 : Nat) (x1 : Int32) (h : pH) : pR := run pMs none 69 6 [some (.ref k0), some (.int x1)] [] h
noncomputable def f_Y_faultOfWord_35 (k0 : Nat) (x1 : Int32) (x2 : Int32) (x3 : Int32) (x4 : Int32) (h : pH) : pR := run pMs none 69 35 [some (.ref k0), some (.int x1), some (.int x2), some (.int x3), some (.int x4)] [] h
noncomputable def f_Y_faultOfWord_69 (k0 : Nat) (x1 : Int32) (x2 : Int32) (x3 : Int32) (h : pH) : pR := run pMs none 69 69 [some (.ref k0), some (.int x1), some (.int x2), some (.int x3)] [] h
noncomputable def f_Y_faultOfWord_84 (k0 : Nat) (x1 : Int32) (x2 : Int32) (x3 : Int32) (t0 : Int32) (h : pH) : pR := run pMs none 69 84 [some (.ref k0), some (.int x1), some (.int x2), some (.int x3)] [.int t0] h
theorem e_Y_faultOfWord (k0 : Nat) (h : pH) : f_Y_faultOfWord k0 h =
    if kO h 8 k0 = true then (cV (f_Y_looks k0 h) fun h_1 =>
    (f_Y_faultOfWord_6 k0 (0 : Int32) h_1)) else none := (exq_run (M := M_69) rfl 5 _ _ _ _).symm.trans rfl
set_option maxRecDepth 100000 in
theorem e_Y_faultOfWord_6 (k0 : Nat) (x1 : Int32) (h : pH) : f_Y_faultOfWord_6 k0 x1 h =
    oo none (hI h 8 k0 6) fun x_1 =>
    if x_1 ≤ x1 then
    (oo none (hI h 8 k0 6) fun x_2 =>
      if (7 : Int32) ≤ x_2 then
      (rI (-4 : Int32) h)
      else
      (oo none (hI h 8 k0 6) fun x_3 =>
        rI x_3 h))
    else
    (if (7 : Int32) ≤ x1 then
      ((f_Y_faultOfWord_35 k0 x1 (-1 : Int32) (0 : Int32) (0 : Int32) h))
      else
      (if kO h 8 k0 = true then (cI (f_Y_signed k0 x1 h) fun x_5 h_4 =>
        (f_Y_faultOfWord_35 k0 x1 x_5 (0 : Int32) (0 : Int32) h_4)) else none)) := (exq_run (M := M_69) rfl 17 _ _ _ _).symm.trans rfl
set_option maxRecDepth 100000 in
theorem e_Y_faultOfWord_35 (k0 : Nat) (x1 : Int32) (x2 : Int32) (x3 : Int32) (x4 : Int32) (h : pH) : f_Y_faultOfWord_35 k0 x1 x2 x3 x4 h =
    if x1 ≤ x4 then
    ((f_Y_faultOfWord_69 k0 x1 x2 x3 h))
    else
    (if x2 < 0 then
      ((f_Y_faultOfWord_69 k0 x1 x2 x3 h))
      else
      (if kO h 8 k0 = true then (cI (f_Y_signed k0 x4 h) fun x_2 h_1 =>
        if x_2 = x2 then
        ((f_Y_faultOfWord_35 k0 x1 x2 (x3 + (1 : Int32)) (x4 + 1) h_1))
        else
        ((f_Y_faultOfWord_35 k0 x1 x2 (x3 + (0 : Int32)) (x4 + 1) h_1))) else none)) := (exq_run (M := M_69) rfl 18 _ _ _ _).symm.trans rfl
theorem e_Y_faultOfWord_69 (k0 : Nat) (x1 : Int32) (x2 : Int32) (x3 : Int32) (h : pH) : f_Y_faultOfWord_69 k0 x1 x2 x3 h =
    if x2 = 0 then
    (oo none (hI h 8 k0 10) fun x_1 =>
      (f_Y_faultOfWord_84 k0 x1 x2 x3 ((7 : Int32) - x_1) h))
    else
    ((f_Y_faultOfWord_84 k0 x1 x2 x3 (1 : Int32) h)) := (exq_run (M := M_69) rfl 8 _ _ _ _).symm.trans rfl
theorem e_Y_faultOfWord_84 (k0 : Nat) (x1 : Int32) (x2 : Int32) (x3 : Int32) (t0 : Int32) (h : pH) : f_Y_faultOfWord_84 k0 x1 x2 x3 t0 h =
    if x2 < 0 then
    (rI x1 h)
    else
    (if x3 = t0 then
      (rI x1 h)
      else
      ((f_Y_faultOfWord_6 k0 (x1 + 1) h))) := (exq_run (M := M_69) rfl 9 _ _ _ _).symm.trans rfl
noncomputable def f_Y_fault (k0 : Nat) (x1 : Int32) (h : pH) : pR := run pMs none 70 0 [some (.ref k0), some (.int x1)] [] h
theorem e_Y_fault (k0 : Nat) (x1 : Int32) (h : pH) : f_Y_fault k0 x1 h =
    if x1 = 0 then
    (if kO h 8 k0 = true then (cI (f_Y_faultOfProgram k0 h) fun x_4 h_3 =>
      rI x_4 h_3) else none)
    else
    (if x1 = (1 : Int32) then
      (if kO h 8 k0 = true then (cI (f_Y_faultOfWord k0 h) fun x_2 h_1 =>
        rI x_2 h_1) else none)
      else
      (rI (-1 : Int32) h)) := (exq_run (M := M_70) rfl 10 _ _ _ _).symm.trans rfl
noncomputable def f_Y_ways (x0 : Int32) (x1 : Int32) (h : pH) : pR := run pMs none 77 0 [some (.int x0), some (.int x1)] [] h
noncomputable def f_Y_ways_13 (x0 : Int32) (x1 : Int32) (x2 : Int32) (x3 : Int32) (h : pH) : pR := run pMs none 77 13 [some (.int x0), some (.int x1), some (.int x2), some (.int x3)] [] h
theorem e_Y_ways (x0 : Int32) (x1 : Int32) (h : pH) : f_Y_ways x0 x1 h =
    if x1 ≤ x0 then
    ((f_Y_ways_13 x0 x1 (1 : Int32) (0 : Int32) h))
    else
    ((f_Y_ways_13 x0 x1 (0 : Int32) (0 : Int32) h)) := (exq_run (M := M_77) rfl 9 _ _ _ _).symm.trans rfl
set_option maxRecDepth 100000 in
theorem e_Y_ways_13 (x0 : Int32) (x1 : Int32) (x2 : Int32) (x3 : Int32) (h : pH) : f_Y_ways_13 x0 x1 x2 x3 h =
    if x1 ≤ x3 then
    (rI x2 h)
    else
    (if x2 ≤ 0 then
      (rI x2 h)
      else
      ((f_Y_ways_13 x0 x1 (x2 * (x0 - x3)) (x3 + 1) h))) := (exq_run (M := M_77) rfl 14 _ _ _ _).symm.trans rfl
noncomputable def f_Y_before (k0 : Nat) (x1 : Int32) (h : pH) : pR := run pMs none 78 0 [some (.ref k0), some (.int x1)] [] h
noncomputable def f_Y_before_26 (k0 : Nat) (x1 : Int32) (x2 : Int32) (x3 : Int32) (x4 : Int32) (x5 : Int32) (h : pH) : pR := run pMs none 78 26 [some (.ref k0), some (.int x1), some (.int x2), some (.int x3), some (.int x4), some (.int x5)] [] h
noncomputable def f_Y_before_48 (k0 : Nat) (x1 : Int32) (x3 : Int32) (x4 : Int32) (x5 : Int32) (t0 : Int32) (t1 : Int32) (h : pH) : pR := run pMs none 78 48 [some (.ref k0), some (.int x1), none, some (.int x3), some (.int x4), some (.int x5)] [.int t1, .int t0] h
noncomputable def f_Y_before_67 (k0 : Nat) (x1 : Int32) (x2 : Int32) (x3 : Int32) (x5 : Int32) (t0 : Int32) (t1 : Int32) (h : pH) : pR := run pMs none 78 67 [some (.ref k0), some (.int x1), some (.int x2), some (.int x3), none, some (.int x5)] [.int t1, .int t0] h
set_option maxRecDepth 100000 in
theorem e_Y_before (k0 : Nat) (x1 : Int32) (h : pH) : f_Y_before k0 x1 h =
    oo none (hI h 8 k0 10) fun x_1 =>
    oo none (hR h 8 k0 12) fun k_2 =>
    oo none (hA h k_2 x1) fun x_3 =>
    oo none (hI h 8 k0 10) fun x_4 =>
    (f_Y_before_26 k0 x1 ((7 : Int32) - x_1) (x_3 - (1 : Int32)) x_4 (0 : Int32) h) := (exq_run (M := M_78) rfl 18 _ _ _ _).symm.trans rfl
set_option maxRecDepth 100000 in
theorem e_Y_before_26 (k0 : Nat) (x1 : Int32) (x2 : Int32) (x3 : Int32) (x4 : Int32) (x5 : Int32) (h : pH) : f_Y_before_26 k0 x1 x2 x3 x4 x5 h =
    if x1 ≤ x5 then
    (oo none (hR h 8 k0 12) fun k_1 =>
      oo none (hA h k_1 x1) fun x_2 =>
      if x_2 = 0 then
      (rI (0 : Int32) h)
      else
      (cI (f_Y_ways ((6 : Int32) - x1) (x4 - (1 : Int32)) h) fun x_4 h_3 =>
        if x2 ≤ 0 then
        (rI (x3 * x_4) h_3)
        else
        (cI (f_Y_ways ((6 : Int32) - x1) x4 h_3) fun x_6 h_5 =>
          rI ((x3 * x_4) + x_6) h_5)))
    else
    (oo none (hR h 8 k0 12) fun k_7 =>
      oo none (hA h k_7 x5) fun x_8 =>
      if x_8 = 0 then
      ((f_Y_before_48 k0 x1 x3 x4 x5 x2 (1 : Int32) h))
      else
      ((f_Y_before_48 k0 x1 x3 x4 x5 x2 (0 : Int32) h))) := (exq_run (M := M_78) rfl 30 _ _ _ _).symm.trans rfl
theorem e_Y_before_48 (k0 : Nat) (x1 : Int32) (x3 : Int32) (x4 : Int32) (x5 : Int32) (t0 : Int32) (t1 : Int32) (h : pH) : f_Y_before_48 k0 x1 x3 x4 x5 t0 t1 h =
    oo none (hR h 8 k0 12) fun k_1 =>
    oo none (hA h k_1 x5) fun x_2 =>
    if x_2 = 0 then
    ((f_Y_before_67 k0 x1 (t0 - t1) x3 x5 x4 (0 : Int32) h))
    else
    ((f_Y_before_67 k0 x1 (t0 - t1) x3 x5 x4 (1 : Int32) h)) := (exq_run (M := M_78) rfl 11 _ _ _ _).symm.trans rfl
set_option maxRecDepth 100000 in
theorem e_Y_before_67 (k0 : Nat) (x1 : Int32) (x2 : Int32) (x3 : Int32) (x5 : Int32) (t0 : Int32) (t1 : Int32) (h : pH) : f_Y_before_67 k0 x1 x2 x3 x5 t0 t1 h =
    oo none (hR h 8 k0 12) fun k_1 =>
    oo none (hA h k_1 x5) fun x_2 =>
    if x_2 ≤ 0 then
    ((f_Y_before_26 k0 x1 x2 (x3 - (0 : Int32)) (t0 - t1) (x5 + 1) h))
    else
    (oo none (hR h 8 k0 12) fun k_3 =>
      oo none (hA h k_3 x5) fun x_4 =>
      oo none (hR h 8 k0 12) fun k_5 =>
      oo none (hA h k_5 x1) fun x_6 =>
      if x_6 ≤ x_4 then
      ((f_Y_before_26 k0 x1 x2 (x3 - (0 : Int32)) (t0 - t1) (x5 + 1) h))
      else
      ((f_Y_before_26 k0 x1 x2 (x3 - (1 : Int32)) (t0 - t1) (x5 + 1) h))) := (exq_run (M := M_78) rfl 24 _ _ _ _).symm.trans rfl
noncomputable def f_Y_rankOfThen (k0 : Nat) (h : pH) : pR := run pMs none 79 0 [some (.ref k0)] [] h
noncomputable def f_Y_rankOfThen_4 (k0 : Nat) (x1 : Int32) (x2 : Int32) (h : pH) : pR := run pMs none 79 4 [some (.ref k0), some (.int x1), some (.int x2)] [] h
theorem e_Y_rankOfThen (k0 : Nat) (h : pH) : f_Y_rankOfThen k0 h =
    (f_Y_rankOfThen_4 k0 (0 : Int32) (0 : Int32) h) := (exq_run (M := M_79) rfl 5 _ _ _ _).symm.trans rfl
theorem e_Y_rankOfThen_4 (k0 : Nat) (x1 : Int32) (x2 : Int32) (h : pH) : f_Y_rankOfThen_4 k0 x1 x2 h =
    if (7 : Int32) ≤ x2 then
    (rI x1 h)
    else
    (if kO h 8 k0 = true then (cI (f_Y_before k0 x2 h) fun x_2 h_1 =>
      (f_Y_rankOfThen_4 k0 (x1 + x_2) (x2 + 1) h_1)) else none) := (exq_run (M := M_79) rfl 12 _ _ _ _).symm.trans rfl
noncomputable def f_Y_arrange (k0 : Nat) (h : pH) : pR := run pMs none 80 0 [some (.ref k0)] [] h
noncomputable def f_Y_arrange_18 (k0 : Nat) (x1 : Int32) (h : pH) : pR := run pMs none 80 18 [some (.ref k0), some (.int x1)] [] h
theorem e_Y_arrange (k0 : Nat) (h : pH) : f_Y_arrange k0 h =
    if kO h 8 k0 = true then (cI (f_Y_faultOfWord k0 h) fun x_2 h_1 =>
    if x_2 = (-4 : Int32) then
    (if kO h_1 8 k0 = true then (cV (f_Y_remembers k0 h_1) fun h_3 =>
      (f_Y_arrange_18 k0 (0 : Int32) h_3)) else none)
    else
    (rI (-2 : Int32) h_1)) else none := (exq_run (M := M_80) rfl 9 _ _ _ _).symm.trans rfl
set_option maxRecDepth 100000 in
theorem e_Y_arrange_18 (k0 : Nat) (x1 : Int32) (h : pH) : f_Y_arrange_18 k0 x1 h =
    if (7 : Int32) ≤ x1 then
    (if kO h 8 k0 = true then (cV (f_Y_goesOn k0 h) fun h_1 =>
      if kO h_1 8 k0 = true then (cV (f_Y_stands k0 h_1) fun h_2 =>
      if kO h_2 8 k0 = true then
      (if kO (sI h_2 k0 6 (0 : Int32)) 8 k0 = true then (cI (f_Y_rankOfThen k0 (sI h_2 k0 6 (0 : Int32))) fun x_4 h_3 =>
      rI x_4 h_3) else none)
      else none) else none) else none)
    else
    (oo none (hR h 8 k0 12) fun k_5 =>
      if kO h 8 k0 = true then (cI (f_Y_signed k0 x1 h) fun x_7 h_6 =>
      if bA h_6 k_5 x1 = true then
      ((f_Y_arrange_18 k0 (x1 + 1) (sI h_6 k_5 (Int32.toNatClampNeg x1) x_7)))
      else none) else none) := (exq_run (M := M_80) rfl 14 _ _ _ _).symm.trans rfl
noncomputable def f_Y_moveAt (k0 : Nat) (x1 : Int32) (h : pH) : pR := run pMs none 84 0 [some (.ref k0), some (.int x1)] [] h
set_option maxRecDepth 100000 in
theorem e_Y_moveAt (k0 : Nat) (x1 : Int32) (h : pH) : f_Y_moveAt k0 x1 h =
    oo none (hR h 8 k0 5) fun k_1 =>
    oo none (hA h k_1 (((2 : Int32) * x1) + (1 : Int32))) fun x_2 =>
    oo none (hR h 8 k0 5) fun k_3 =>
    oo none (hA h k_3 ((2 : Int32) * x1)) fun x_4 =>
    if x_4 = (112 : Int32) then
    (rI ((x_2 - (48 : Int32)) + (0 : Int32)) h)
    else
    (oo none (hR h 8 k0 5) fun k_5 =>
      oo none (hA h k_5 ((2 : Int32) * x1)) fun x_6 =>
      if x_6 = (114 : Int32) then
      (rI ((x_2 - (48 : Int32)) + (7 : Int32)) h)
      else
      (rI ((x_2 - (48 : Int32)) + (13 : Int32)) h)) := (exq_run (M := M_84) rfl 33 _ _ _ _).symm.trans rfl
end
section
noncomputable def f_Y_run (k0 : Nat) (h : pH) : pR := run pMs none 85 0 [some (.ref k0)] [] h
noncomputable def f_Y_run_20 (k0 : Nat) (x1 : Int32) (x2 : Int32) (h : pH) : pR := run pMs none 85 20 [some (.ref k0), some (.int x1), some (.int x2)] [] h
theorem e_Y_run (k0 : Nat) (h : pH) : f_Y_run k0 h =
    if kO h 8 k0 = true then (cI (f_Y_faultOfProgram k0 h) fun x_2 h_1 =>
    if x_2 = (-4 : Int32) then
    (if kO h_1 8 k0 = true then (cV (f_Y_remembers k0 h_1) fun h_3 =>
      (f_Y_run_20 k0 (0 : Int32) (0 : Int32) h_3)) else none)
    else
    (rI (-2 : Int32) h_1)) else none := (exq_run (M := M_85) rfl 11 _ _ _ _).symm.trans rfl
set_option maxRecDepth 100000 in
theorem e_Y_run_20 (k0 : Nat) (x1 : Int32) (x2 : Int32) (h : pH) : f_Y_run_20 k0 x1 x2 h =
    oo none (hI h 8 k0 6) fun x_1 =>
    if (2 : Int32) = 0 then none else
    if (x_1 / (2 : Int32)) ≤ x2 then
    (rI x1 h)
    else
    (if kO h 8 k0 = true then (cI (f_Y_moveAt k0 x2 h) fun x_3 h_2 =>
      if kO h_2 8 k0 = true then (cI (f_Y_does k0 x_3 h_2) fun x_5 h_4 =>
      if x_5 = 0 then
      ((f_Y_run_20 k0 (x1 + (1 : Int32)) (x2 + 1) h_4))
      else
      ((f_Y_run_20 k0 (x1 + (0 : Int32)) (x2 + 1) h_4))) else none) else none) := (exq_run (M := M_85) rfl 20 _ _ _ _).symm.trans rfl
noncomputable def f_Y_isWrong (k0 : Nat) (x1 : Int32) (x2 : Int32) (h : pH) : pR := run pMs none 89 0 [some (.ref k0), some (.int x1), some (.int x2)] [] h
theorem e_Y_isWrong (k0 : Nat) (x1 : Int32) (x2 : Int32) (h : pH) : f_Y_isWrong k0 x1 x2 h =
    oo none (hR h 8 k0 0) fun k_1 =>
    oo none (hA h k_1 (21 : Int32)) fun x_2 =>
    if x_2 = (1 : Int32) then
    (if x2 ≤ x1 then
      (rI (0 : Int32) h)
      else
      (rI (1 : Int32) h))
    else
    (if x1 ≤ x2 then
      (rI (0 : Int32) h)
      else
      (rI (1 : Int32) h)) := (exq_run (M := M_89) rfl 13 _ _ _ _).symm.trans rfl
noncomputable def f_Y_wrongWith (k0 : Nat) (x1 : Int32) (h : pH) : pR := run pMs none 90 0 [some (.ref k0), some (.int x1)] [] h
noncomputable def f_Y_wrongWith_4 (k0 : Nat) (x1 : Int32) (x2 : Int32) (x3 : Int32) (h : pH) : pR := run pMs none 90 4 [some (.ref k0), some (.int x1), some (.int x2), some (.int x3)] [] h
noncomputable def f_Y_wrongWith_30 (k0 : Nat) (x1 : Int32) (x2 : Int32) (x3 : Int32) (t0 : Int32) (h : pH) : pR := run pMs none 90 30 [some (.ref k0), some (.int x1), some (.int x2), some (.int x3)] [.int t0] h
noncomputable def f_Y_wrongWith_52 (k0 : Nat) (x1 : Int32) (x2 : Int32) (x3 : Int32) (x4 : Int32) (t0 : Int32) (h : pH) : pR := run pMs none 90 52 [some (.ref k0), some (.int x1), some (.int x2), some (.int x3), some (.int x4)] [.int t0] h
theorem e_Y_wrongWith (k0 : Nat) (x1 : Int32) (h : pH) : f_Y_wrongWith k0 x1 h =
    (f_Y_wrongWith_4 k0 x1 (0 : Int32) (0 : Int32) h) := (exq_run (M := M_90) rfl 5 _ _ _ _).symm.trans rfl
theorem e_Y_wrongWith_4 (k0 : Nat) (x1 : Int32) (x2 : Int32) (x3 : Int32) (h : pH) : f_Y_wrongWith_4 k0 x1 x2 x3 h =
    if (7 : Int32) ≤ x3 then
    (rI x2 h)
    else
    (if x1 ≤ x3 then
      (oo none (hR h 8 k0 11) fun k_1 =>
        oo none (hA h k_1 x1) fun x_2 =>
        (f_Y_wrongWith_30 k0 x1 x2 x3 x_2 h))
      else
      (oo none (hR h 8 k0 11) fun k_3 =>
        oo none (hA h k_3 x3) fun x_4 =>
        (f_Y_wrongWith_30 k0 x1 x2 x3 x_4 h))) := (exq_run (M := M_90) rfl 12 _ _ _ _).symm.trans rfl
theorem e_Y_wrongWith_30 (k0 : Nat) (x1 : Int32) (x2 : Int32) (x3 : Int32) (t0 : Int32) (h : pH) : f_Y_wrongWith_30 k0 x1 x2 x3 t0 h =
    if x1 ≤ x3 then
    (oo none (hR h 8 k0 11) fun k_1 =>
      oo none (hA h k_1 x3) fun x_2 =>
      (f_Y_wrongWith_52 k0 x1 x2 x3 t0 x_2 h))
    else
    (oo none (hR h 8 k0 11) fun k_3 =>
      oo none (hA h k_3 x1) fun x_4 =>
      (f_Y_wrongWith_52 k0 x1 x2 x3 t0 x_4 h)) := (exq_run (M := M_90) rfl 10 _ _ _ _).symm.trans rfl
set_option maxRecDepth 100000 in
theorem e_Y_wrongWith_52 (k0 : Nat) (x1 : Int32) (x2 : Int32) (x3 : Int32) (x4 : Int32) (t0 : Int32) (h : pH) : f_Y_wrongWith_52 k0 x1 x2 x3 x4 t0 h =
    if x3 = x1 then
    ((f_Y_wrongWith_4 k0 x1 (x2 + (0 : Int32)) (x3 + 1) h))
    else
    (oo none (hR h 8 k0 11) fun k_1 =>
      oo none (hA h k_1 x3) fun x_2 =>
      if x_2 ≤ 0 then
      ((f_Y_wrongWith_4 k0 x1 (x2 + (0 : Int32)) (x3 + 1) h))
      else
      (if kO h 8 k0 = true then (cI (f_Y_isWrong k0 x4 t0 h) fun x_4 h_3 =>
        if x_4 = 0 then
        ((f_Y_wrongWith_4 k0 x1 (x2 + (0 : Int32)) (x3 + 1) h_3))
        else
        ((f_Y_wrongWith_4 k0 x1 (x2 + (1 : Int32)) (x3 + 1) h_3))) else none)) := (exq_run (M := M_90) rfl 22 _ _ _ _).symm.trans rfl
noncomputable def f_Y_at (k0 : Nat) (x1 : Int32) (x2 : Int32) (h : pH) : pR := run pMs none 91 0 [some (.ref k0), some (.int x1), some (.int x2)] [] h
set_option maxRecDepth 100000 in
theorem e_Y_at (k0 : Nat) (x1 : Int32) (x2 : Int32) (h : pH) : f_Y_at k0 x1 x2 h =
    cI (f_Y_isPlace x1 h) fun x_2 h_1 =>
    if x_2 = 0 then
    (rI (-1 : Int32) h_1)
    else
    (cI (f_Y_in x2 (0 : Int32) (5 : Int32) h_1) fun x_4 h_3 =>
      if x_4 = 0 then
      (rI (-1 : Int32) h_3)
      else
      (if kO h_3 8 k0 = true then (cV (f_Y_looks k0 h_3) fun h_5 =>
        if x2 = (5 : Int32) then
        (if kO h_5 8 k0 = true then (cI (f_Y_nearestGap k0 x1 h_5) fun x_19 h_18 =>
          rI x_19 h_18) else none)
        else
        (oo none (hR h_5 8 k0 11) fun k_6 =>
          oo none (hA h_5 k_6 x1) fun x_7 =>
          if x_7 = 0 then
          (rI (-4 : Int32) h_5)
          else
          (if x2 = 0 then
            (oo none (hR h_5 8 k0 0) fun k_8 =>
              oo none (hA h_5 k_8 ((0 : Int32) + x1)) fun x_9 =>
              rI (x_9 - (1 : Int32)) h_5)
            else if x2 = 1 then
            (oo none (hR h_5 8 k0 0) fun k_10 =>
              oo none (hA h_5 k_10 ((7 : Int32) + x1)) fun x_11 =>
              rI x_11 h_5)
            else if x2 = 2 then
            (oo none (hR h_5 8 k0 0) fun k_12 =>
              oo none (hA h_5 k_12 ((14 : Int32) + x1)) fun x_13 =>
              rI x_13 h_5)
            else if x2 = 3 then
            (if kO h_5 8 k0 = true then (cI (f_Y_nearestGap k0 x1 h_5) fun x_15 h_14 =>
              rI x_15 h_14) else none)
            else (if kO h_5 8 k0 = true then (cI (f_Y_wrongWith k0 x1 h_5) fun x_17 h_16 =>
              rI x_17 h_16) else none)))) else none)) := (exq_run (M := M_91) rfl 30 _ _ _ _).symm.trans rfl
noncomputable def f_Y_whyNot (k0 : Nat) (x1 : Int32) (h : pH) : pR := run pMs none 93 0 [some (.ref k0), some (.int x1)] [] h
theorem e_Y_whyNot (k0 : Nat) (x1 : Int32) (h : pH) : f_Y_whyNot k0 x1 h =
    cI (f_Y_in x1 (0 : Int32) (18 : Int32) h) fun x_2 h_1 =>
    if x_2 = 0 then
    (rI (-1 : Int32) h_1)
    else
    (if kO h_1 8 k0 = true then (cV (f_Y_looks k0 h_1) fun h_3 =>
      if kO h_3 8 k0 = true then (cI (f_Y_whyNotOf k0 x1 h_3) fun x_5 h_4 =>
      rI x_5 h_4) else none) else none) := (exq_run (M := M_93) rfl 12 _ _ _ _).symm.trans rfl
noncomputable def f_Y_cost (k0 : Nat) (x1 : Int32) (h : pH) : pR := run pMs none 95 0 [some (.ref k0), some (.int x1)] [] h
theorem e_Y_cost (k0 : Nat) (x1 : Int32) (h : pH) : f_Y_cost k0 x1 h =
    if kO h 8 k0 = true then (cI (f_Y_whyNot k0 x1 h) fun x_2 h_1 =>
    if x_2 = 0 then
    (if kO h_1 8 k0 = true then (cV (f_Y_makes k0 x1 h_1) fun h_3 =>
      oo none (hI h_3 8 k0 13) fun x_4 =>
      rI x_4 h_3) else none)
    else
    (if x_2 ≤ 0 then
      (rI x_2 h_1)
      else
      (rI (-2 : Int32) h_1))) else none := (exq_run (M := M_95) rfl 13 _ _ _ _).symm.trans rfl
noncomputable def f_Y_leads (k0 : Nat) (x1 : Int32) (h : pH) : pR := run pMs none 97 0 [some (.ref k0), some (.int x1)] [] h
theorem e_Y_leads (k0 : Nat) (x1 : Int32) (h : pH) : f_Y_leads k0 x1 h =
    if kO h 8 k0 = true then (cI (f_Y_whyNot k0 x1 h) fun x_2 h_1 =>
    if x_2 = 0 then
    (if kO h_1 8 k0 = true then (cV (f_Y_makes k0 x1 h_1) fun h_3 =>
      if kO h_3 8 k0 = true then (cI (f_Y_rankOfThen k0 h_3) fun x_5 h_4 =>
      rI x_5 h_4) else none) else none)
    else
    (if x_2 ≤ 0 then
      (rI x_2 h_1)
      else
      (rI (-2 : Int32) h_1))) else none := (exq_run (M := M_97) rfl 13 _ _ _ _).symm.trans rfl
noncomputable def f_Y_words (k0 : Nat) (h : pH) : pR := run pMs none 102 0 [some (.ref k0)] [] h
theorem e_Y_words (k0 : Nat) (h : pH) : f_Y_words k0 h =
    oo none (hI h 8 k0 10) fun x_1 =>
    cI (f_Y_ways (7 : Int32) x_1 h) fun x_3 h_2 =>
    rI x_3 h_2 := (exq_run (M := M_102) rfl 6 _ _ _ _).symm.trans rfl
noncomputable def f_Y_isUsed (k0 : Nat) (x1 : Int32) (x2 : Int32) (h : pH) : pR := run pMs none 103 0 [some (.ref k0), some (.int x1), some (.int x2)] [] h
noncomputable def f_Y_isUsed_5 (k0 : Nat) (x1 : Int32) (x2 : Int32) (x3 : Int32) (x4 : Int32) (h : pH) : pR := run pMs none 103 5 [some (.ref k0), some (.int x1), some (.int x2), some (.int x3), some (.int x4)] [] h
theorem e_Y_isUsed (k0 : Nat) (x1 : Int32) (x2 : Int32) (h : pH) : f_Y_isUsed k0 x1 x2 h =
    (f_Y_isUsed_5 k0 x1 x2 (0 : Int32) (0 : Int32) h) := (exq_run (M := M_103) rfl 5 _ _ _ _).symm.trans rfl
set_option maxRecDepth 100000 in
theorem e_Y_isUsed_5 (k0 : Nat) (x1 : Int32) (x2 : Int32) (x3 : Int32) (x4 : Int32) (h : pH) : f_Y_isUsed_5 k0 x1 x2 x3 x4 h =
    if x2 ≤ x4 then
    (if x3 = 0 ∨ x3 = 1 then rI x3 h else none)
    else
    (if x3 = 0 then
      (oo none (hR h 8 k0 11) fun k_1 =>
        oo none (hA h k_1 x4) fun x_2 =>
        if x_2 = x1 then
        ((f_Y_isUsed_5 k0 x1 x2 (1 : Int32) (x4 + 1) h))
        else
        ((f_Y_isUsed_5 k0 x1 x2 (0 : Int32) (x4 + 1) h)))
      else
      ((f_Y_isUsed_5 k0 x1 x2 (1 : Int32) (x4 + 1) h))) := (exq_run (M := M_103) rfl 17 _ _ _ _).symm.trans rfl
noncomputable def f_Y_unused (k0 : Nat) (x1 : Int32) (x2 : Int32) (h : pH) : pR := run pMs none 104 0 [some (.ref k0), some (.int x1), some (.int x2)] [] h
noncomputable def f_Y_unused_5 (k0 : Nat) (x2 : Int32) (x3 : Int32) (x4 : Int32) (h : pH) : pR := run pMs none 104 5 [some (.ref k0), none, some (.int x2), some (.int x3), some (.int x4)] [] h
theorem e_Y_unused (k0 : Nat) (x1 : Int32) (x2 : Int32) (h : pH) : f_Y_unused k0 x1 x2 h =
    (f_Y_unused_5 k0 x2 x1 (1 : Int32) h) := (exq_run (M := M_104) rfl 5 _ _ _ _).symm.trans rfl
set_option maxRecDepth 100000 in
theorem e_Y_unused_5 (k0 : Nat) (x2 : Int32) (x3 : Int32) (x4 : Int32) (h : pH) : f_Y_unused_5 k0 x2 x3 x4 h =
    oo none (hI h 8 k0 10) fun x_1 =>
    if x_1 < x4 then
    (rI (0 : Int32) h)
    else
    (if kO h 8 k0 = true then (cI (f_Y_isUsed k0 x4 x2 h) fun x_3 h_2 =>
      if x_3 = 0 then
      (if x3 = 0 then
        (rI x4 h_2)
        else
        ((f_Y_unused_5 k0 x2 (x3 + (-1)) (x4 + 1) h_2)))
      else
      ((f_Y_unused_5 k0 x2 x3 (x4 + 1) h_2))) else none) := (exq_run (M := M_104) rfl 15 _ _ _ _).symm.trans rfl
noncomputable def f_Y_spells (k0 : Nat) (x1 : Int32) (h : pH) : pR := run pMs none 105 0 [some (.ref k0), some (.int x1)] [] h
noncomputable def f_Y_spells_19 (k0 : Nat) (x2 : Int32) (x3 : Int32) (x4 : Int32) (x5 : Int32) (h : pH) : pR := run pMs none 105 19 [some (.ref k0), none, some (.int x2), some (.int x3), some (.int x4), some (.int x5)] [] h
noncomputable def f_Y_spells_44 (k0 : Nat) (x2 : Int32) (x3 : Int32) (x4 : Int32) (x5 : Int32) (t0 : Int32) (h : pH) : pR := run pMs none 105 44 [some (.ref k0), none, some (.int x2), some (.int x3), some (.int x4), some (.int x5)] [.int t0] h
theorem e_Y_spells (k0 : Nat) (x1 : Int32) (h : pH) : f_Y_spells k0 x1 h =
    oo none (hI h 8 k0 10) fun x_1 =>
    oo none (hI h 8 k0 10) fun x_2 =>
    (f_Y_spells_19 k0 x1 ((7 : Int32) - x_1) x_2 (0 : Int32) h) := (exq_run (M := M_105) rfl 13 _ _ _ _).symm.trans rfl
theorem e_Y_spells_19 (k0 : Nat) (x2 : Int32) (x3 : Int32) (x4 : Int32) (x5 : Int32) (h : pH) : f_Y_spells_19 k0 x2 x3 x4 x5 h =
    if (7 : Int32) ≤ x5 then
    (rV h)
    else
    (if x3 ≤ 0 then
      ((f_Y_spells_44 k0 x2 x3 x4 x5 (0 : Int32) h))
      else
      (cI (f_Y_ways ((6 : Int32) - x5) x4 h) fun x_2 h_1 =>
        (f_Y_spells_44 k0 x2 x3 x4 x5 x_2 h_1))) := (exq_run (M := M_105) rfl 12 _ _ _ _).symm.trans rfl
set_option maxRecDepth 100000 in
theorem e_Y_spells_44 (k0 : Nat) (x2 : Int32) (x3 : Int32) (x4 : Int32) (x5 : Int32) (t0 : Int32) (h : pH) : f_Y_spells_44 k0 x2 x3 x4 x5 t0 h =
    oo none (hR h 8 k0 11) fun k_1 =>
    if bA h k_1 x5 = true then
    (if t0 ≤ x2 then
    (cI (f_Y_ways ((6 : Int32) - x5) (x4 + (-1)) (sI h k_1 (Int32.toNatClampNeg x5) (0 : Int32))) fun x_3 h_2 =>
      if x_3 = 0 then none else
      if x_3 = 0 then none else
      oo none (hR h_2 8 k0 11) fun k_4 =>
      if kO h_2 8 k0 = true then (cI (f_Y_unused k0 ((x2 - t0) / x_3) x5 h_2) fun x_6 h_5 =>
      if bA h_5 k_4 x5 = true then
      ((f_Y_spells_19 k0 ((x2 - t0) - (x2 - t0) / x_3 * x_3) x3 (x4 + (-1)) (x5 + 1) (sI h_5 k_4 (Int32.toNatClampNeg x5) x_6)))
      else none) else none)
    else
    ((f_Y_spells_19 k0 x2 (x3 + (-1)) x4 (x5 + 1) (sI h k_1 (Int32.toNatClampNeg x5) (0 : Int32)))))
    else none := (exq_run (M := M_105) rfl 39 _ _ _ _).symm.trans rfl
noncomputable def f_Y_word (k0 : Nat) (x1 : Int32) (x2 : Int32) (h : pH) : pR := run pMs none 106 0 [some (.ref k0), some (.int x1), some (.int x2)] [] h
set_option maxRecDepth 100000 in
theorem e_Y_word (k0 : Nat) (x1 : Int32) (x2 : Int32) (h : pH) : f_Y_word k0 x1 x2 h =
    if kO h 8 k0 = true then (cV (f_Y_looks k0 h) fun h_1 =>
    if kO h_1 8 k0 = true then (cI (f_Y_words k0 h_1) fun x_3 h_2 =>
    cI (f_Y_in x1 (0 : Int32) (x_3 - (1 : Int32)) h_2) fun x_5 h_4 =>
    if x_5 = 0 then
    (rI (-1 : Int32) h_4)
    else
    (cI (f_Y_isPlace x2 h_4) fun x_7 h_6 =>
      if x_7 = 0 then
      (rI (-1 : Int32) h_6)
      else
      (if kO h_6 8 k0 = true then (cV (f_Y_spells k0 x1 h_6) fun h_8 =>
        oo none (hR h_8 8 k0 11) fun k_9 =>
        oo none (hA h_8 k_9 x2) fun x_10 =>
        if x_10 = 0 then
        (rI (-4 : Int32) h_8)
        else
        (oo none (hR h_8 8 k0 7) fun k_11 =>
          oo none (hR h_8 8 k0 11) fun k_12 =>
          oo none (hA h_8 k_12 x2) fun x_13 =>
          oo none (hA h_8 k_11 (x_13 - (1 : Int32))) fun x_14 =>
          rI x_14 h_8)) else none))) else none) else none := (exq_run (M := M_106) rfl 32 _ _ _ _).symm.trans rfl
noncomputable def f_Y_sumOf (k0 : Nat) (x1 : Int32) (h : pH) : pR := run pMs none 114 0 [some (.ref k0), some (.int x1)] [] h
noncomputable def f_Y_sumOf_4 (k0 : Nat) (x1 : Int32) (x2 : Int32) (x3 : Int32) (h : pH) : pR := run pMs none 114 4 [some (.ref k0), some (.int x1), some (.int x2), some (.int x3)] [] h
theorem e_Y_sumOf (k0 : Nat) (x1 : Int32) (h : pH) : f_Y_sumOf k0 x1 h =
    (f_Y_sumOf_4 k0 x1 (0 : Int32) (0 : Int32) h) := (exq_run (M := M_114) rfl 5 _ _ _ _).symm.trans rfl
set_option maxRecDepth 100000 in
theorem e_Y_sumOf_4 (k0 : Nat) (x1 : Int32) (x2 : Int32) (x3 : Int32) (h : pH) : f_Y_sumOf_4 k0 x1 x2 x3 h =
    if (7 : Int32) ≤ x3 then
    (rI x2 h)
    else
    (oo none (hR h 8 k0 0) fun k_1 =>
      oo none (hA h k_1 ((0 : Int32) + x3)) fun x_2 =>
      if x_2 ≤ 0 then
      ((f_Y_sumOf_4 k0 x1 (x2 + (0 : Int32)) (x3 + 1) h))
      else
      (oo none (hR h 8 k0 0) fun k_3 =>
        oo none (hA h k_3 (x1 + x3)) fun x_4 =>
        (f_Y_sumOf_4 k0 x1 (x2 + x_4) (x3 + 1) h))) := (exq_run (M := M_114) rfl 23 _ _ _ _).symm.trans rfl
noncomputable def f_Y_disorderOfWord (k0 : Nat) (h : pH) : pR := run pMs none 115 0 [some (.ref k0)] [] h
noncomputable def f_Y_disorderOfWord_4 (k0 : Nat) (x1 : Int32) (x2 : Int32) (h : pH) : pR := run pMs none 115 4 [some (.ref k0), some (.int x1), some (.int x2)] [] h
noncomputable def f_Y_disorderOfWord_14 (k0 : Nat) (x1 : Int32) (x2 : Int32) (x3 : Int32) (h : pH) : pR := run pMs none 115 14 [some (.ref k0), some (.int x1), some (.int x2), some (.int x3)] [] h
theorem e_Y_disorderOfWord (k0 : Nat) (h : pH) : f_Y_disorderOfWord k0 h =
    (f_Y_disorderOfWord_4 k0 (0 : Int32) (0 : Int32) h) := (exq_run (M := M_115) rfl 5 _ _ _ _).symm.trans rfl
theorem e_Y_disorderOfWord_4 (k0 : Nat) (x1 : Int32) (x2 : Int32) (h : pH) : f_Y_disorderOfWord_4 k0 x1 x2 h =
    if (7 : Int32) ≤ x2 then
    (rI x1 h)
    else
    ((f_Y_disorderOfWord_14 k0 x1 x2 (x2 + (1 : Int32)) h)) := (exq_run (M := M_115) rfl 8 _ _ _ _).symm.trans rfl
set_option maxRecDepth 100000 in
theorem e_Y_disorderOfWord_14 (k0 : Nat) (x1 : Int32) (x2 : Int32) (x3 : Int32) (h : pH) : f_Y_disorderOfWord_14 k0 x1 x2 x3 h =
    if (7 : Int32) ≤ x3 then
    ((f_Y_disorderOfWord_4 k0 x1 (x2 + 1) h))
    else
    (oo none (hR h 8 k0 11) fun k_1 =>
      oo none (hA h k_1 x2) fun x_2 =>
      if x_2 ≤ 0 then
      ((f_Y_disorderOfWord_14 k0 (x1 + (0 : Int32)) x2 (x3 + 1) h))
      else
      (oo none (hR h 8 k0 11) fun k_3 =>
        oo none (hA h k_3 x3) fun x_4 =>
        if x_4 ≤ 0 then
        ((f_Y_disorderOfWord_14 k0 (x1 + (0 : Int32)) x2 (x3 + 1) h))
        else
        (oo none (hR h 8 k0 11) fun k_5 =>
          oo none (hA h k_5 x2) fun x_6 =>
          oo none (hR h 8 k0 11) fun k_7 =>
          oo none (hA h k_7 x3) fun x_8 =>
          if kO h 8 k0 = true then (cI (f_Y_isWrong k0 x_6 x_8 h) fun x_10 h_9 =>
          if x_10 = 0 then
          ((f_Y_disorderOfWord_14 k0 (x1 + (0 : Int32)) x2 (x3 + 1) h_9))
          else
          ((f_Y_disorderOfWord_14 k0 (x1 + (1 : Int32)) x2 (x3 + 1) h_9))) else none))) := (exq_run (M := M_115) rfl 32 _ _ _ _).symm.trans rfl
noncomputable def f_Y_isWordInOrder (k0 : Nat) (h : pH) : pR := run pMs none 116 0 [some (.ref k0)] [] h
noncomputable def f_Y_isWordInOrder_4 (k0 : Nat) (x1 : Int32) (x2 : Int32) (h : pH) : pR := run pMs none 116 4 [some (.ref k0), some (.int x1), some (.int x2)] [] h
theorem e_Y_isWordInOrder (k0 : Nat) (h : pH) : f_Y_isWordInOrder k0 h =
    (f_Y_isWordInOrder_4 k0 (1 : Int32) (1 : Int32) h) := (exq_run (M := M_116) rfl 5 _ _ _ _).symm.trans rfl
set_option maxRecDepth 100000 in
theorem e_Y_isWordInOrder_4 (k0 : Nat) (x1 : Int32) (x2 : Int32) (h : pH) : f_Y_isWordInOrder_4 k0 x1 x2 h =
    if (7 : Int32) ≤ x2 then
    (if kO h 8 k0 = true then (cI (f_Y_disorderOfWord k0 h) fun x_2 h_1 =>
      if x_2 = 0 then
      (if x1 = 0 then
        (oo none (hR h_1 8 k0 0) fun k_3 =>
          oo none (hA h_1 k_3 (22 : Int32)) fun x_4 =>
          if x_4 = 0 then
          (rI (1 : Int32) h_1)
          else
          (rI (0 : Int32) h_1))
        else
        (rI (1 : Int32) h_1))
      else
      (rI (0 : Int32) h_1)) else none)
    else
    (if x1 = 0 then
      ((f_Y_isWordInOrder_4 k0 (0 : Int32) (x2 + 1) h))
      else
      (oo none (hR h 8 k0 11) fun k_5 =>
        oo none (hA h k_5 x2) fun x_6 =>
        if x_6 = 0 then
        ((f_Y_isWordInOrder_4 k0 (1 : Int32) (x2 + 1) h))
        else
        (oo none (hR h 8 k0 11) fun k_7 =>
          oo none (hA h k_7 (x2 - (1 : Int32))) fun x_8 =>
          if x_8 ≤ 0 then
          ((f_Y_isWordInOrder_4 k0 (0 : Int32) (x2 + 1) h))
          else
          ((f_Y_isWordInOrder_4 k0 (1 : Int32) (x2 + 1) h))))) := (exq_run (M := M_116) rfl 23 _ _ _ _).symm.trans rfl
noncomputable def f_Y_rankNow (k0 : Nat) (h : pH) : pR := run pMs none 117 0 [some (.ref k0)] [] h
noncomputable def f_Y_rankNow_6 (k0 : Nat) (x1 : Int32) (h : pH) : pR := run pMs none 117 6 [some (.ref k0), some (.int x1)] [] h
theorem e_Y_rankNow (k0 : Nat) (h : pH) : f_Y_rankNow k0 h =
    if kO h 8 k0 = true then (cV (f_Y_looks k0 h) fun h_1 =>
    (f_Y_rankNow_6 k0 (0 : Int32) h_1)) else none := (exq_run (M := M_117) rfl 5 _ _ _ _).symm.trans rfl
set_option maxRecDepth 100000 in
theorem e_Y_rankNow_6 (k0 : Nat) (x1 : Int32) (h : pH) : f_Y_rankNow_6 k0 x1 h =
    if (7 : Int32) ≤ x1 then
    (if kO h 8 k0 = true then (cI (f_Y_rankOfThen k0 h) fun x_2 h_1 =>
      rI x_2 h_1) else none)
    else
    (oo none (hR h 8 k0 12) fun k_3 =>
      oo none (hR h 8 k0 11) fun k_4 =>
      oo none (hA h k_4 x1) fun x_5 =>
      if bA h k_3 x1 = true then
      ((f_Y_rankNow_6 k0 (x1 + 1) (sI h k_3 (Int32.toNatClampNeg x1) x_5)))
      else none) := (exq_run (M := M_117) rfl 14 _ _ _ _).symm.trans rfl
noncomputable def f_Y_wordsInOrder (k0 : Nat) (h : pH) : pR := run pMs none 118 0 [some (.ref k0)] [] h
noncomputable def f_Y_wordsInOrder_4 (k0 : Nat) (x1 : Int32) (x2 : Int32) (h : pH) : pR := run pMs none 118 4 [some (.ref k0), some (.int x1), some (.int x2)] [] h
theorem e_Y_wordsInOrder (k0 : Nat) (h : pH) : f_Y_wordsInOrder k0 h =
    (f_Y_wordsInOrder_4 k0 (0 : Int32) (0 : Int32) h) := (exq_run (M := M_118) rfl 5 _ _ _ _).symm.trans rfl
set_option maxRecDepth 100000 in
theorem e_Y_wordsInOrder_4 (k0 : Nat) (x1 : Int32) (x2 : Int32) (h : pH) : f_Y_wordsInOrder_4 k0 x1 x2 h =
    if kO h 8 k0 = true then (cI (f_Y_words k0 h) fun x_2 h_1 =>
    if x_2 ≤ x2 then
    (rI x1 h_1)
    else
    (if kO h_1 8 k0 = true then (cV (f_Y_spells k0 x2 h_1) fun h_3 =>
      if kO h_3 8 k0 = true then (cI (f_Y_isWordInOrder k0 h_3) fun x_5 h_4 =>
      if x_5 = 0 then
      ((f_Y_wordsInOrder_4 k0 (x1 + (0 : Int32)) (x2 + 1) h_4))
      else
      ((f_Y_wordsInOrder_4 k0 (x1 + (1 : Int32)) (x2 + 1) h_4))) else none) else none)) else none := (exq_run (M := M_118) rfl 18 _ _ _ _).symm.trans rfl
noncomputable def f_Y_movesNow (k0 : Nat) (h : pH) : pR := run pMs none 119 0 [some (.ref k0)] [] h
noncomputable def f_Y_movesNow_4 (k0 : Nat) (x1 : Int32) (x2 : Int32) (h : pH) : pR := run pMs none 119 4 [some (.ref k0), some (.int x1), some (.int x2)] [] h
theorem e_Y_movesNow (k0 : Nat) (h : pH) : f_Y_movesNow k0 h =
    (f_Y_movesNow_4 k0 (0 : Int32) (0 : Int32) h) := (exq_run (M := M_119) rfl 5 _ _ _ _).symm.trans rfl
set_option maxRecDepth 100000 in
theorem e_Y_movesNow_4 (k0 : Nat) (x1 : Int32) (x2 : Int32) (h : pH) : f_Y_movesNow_4 k0 x1 x2 h =
    if (19 : Int32) ≤ x2 then
    (rI x1 h)
    else
    (if kO h 8 k0 = true then (cI (f_Y_whyNotOf k0 x2 h) fun x_2 h_1 =>
      if x_2 = 0 then
      ((f_Y_movesNow_4 k0 (x1 + (1 : Int32)) (x2 + 1) h_1))
      else
      ((f_Y_movesNow_4 k0 (x1 + (0 : Int32)) (x2 + 1) h_1))) else none) := (exq_run (M := M_119) rfl 15 _ _ _ _).symm.trans rfl
noncomputable def f_Y_count (k0 : Nat) (x1 : Int32) (h : pH) : pR := run pMs none 120 0 [some (.ref k0), some (.int x1)] [] h
noncomputable def f_Y_count_136 (k0 : Nat) (x1 : Int32) (h : pH) : pR := run pMs none 120 136 [some (.ref k0), some (.int x1)] [] h
noncomputable def f_Y_count_154 (k0 : Nat) (x1 : Int32) (h : pH) : pR := run pMs none 120 154 [some (.ref k0), some (.int x1)] [] h
theorem e_Y_count (k0 : Nat) (x1 : Int32) (h : pH) : f_Y_count k0 x1 h =
    if kO h 8 k0 = true then (cV (f_Y_looks k0 h) fun h_1 =>
    if x1 = 0 then
    (oo none (hI h_1 8 k0 10) fun x_2 =>
      rI x_2 h_1)
    else if x1 = 1 then
    (if kO h_1 8 k0 = true then (cI (f_Y_sumOf k0 (14 : Int32) h_1) fun x_4 h_3 =>
      rI x_4 h_3) else none)
    else if x1 = 2 then
    (if kO h_1 8 k0 = true then (cI (f_Y_sumOf k0 (7 : Int32) h_1) fun x_6 h_5 =>
      rI x_6 h_5) else none)
    else if x1 = 3 then
    (if kO h_1 8 k0 = true then (cI (f_Y_isWordInOrder k0 h_1) fun x_8 h_7 =>
      if x_8 = 0 then
      (rI (0 : Int32) h_7)
      else
      (rI (1 : Int32) h_7)) else none)
    else if x1 = 4 then
    (if kO h_1 8 k0 = true then (cI (f_Y_disorderOfWord k0 h_1) fun x_10 h_9 =>
      rI x_10 h_9) else none)
    else if x1 = 5 then
    (if kO h_1 8 k0 = true then (cI (f_Y_rankNow k0 h_1) fun x_12 h_11 =>
      rI x_12 h_11) else none)
    else if x1 = 6 then
    (if kO h_1 8 k0 = true then (cI (f_Y_words k0 h_1) fun x_14 h_13 =>
      rI x_14 h_13) else none)
    else if x1 = 7 then
    (if kO h_1 8 k0 = true then (cI (f_Y_wordsInOrder k0 h_1) fun x_16 h_15 =>
      rI x_16 h_15) else none)
    else if x1 = 8 then
    ((f_Y_count_136 k0 x1 h_1))
    else if x1 = 9 then
    ((f_Y_count_136 k0 x1 h_1))
    else if x1 = 10 then
    ((f_Y_count_136 k0 x1 h_1))
    else if x1 = 11 then
    (if kO h_1 8 k0 = true then (cI (f_Y_movesNow k0 h_1) fun x_18 h_17 =>
      rI x_18 h_17) else none)
    else if x1 = 12 then
    ((f_Y_count_154 k0 x1 h_1))
    else if x1 = 13 then
    ((f_Y_count_154 k0 x1 h_1))
    else if x1 = 14 then
    (oo none (hI h_1 8 k0 6) fun x_19 =>
      rI x_19 h_1)
    else if x1 = 15 then
    (oo none (hI h_1 8 k0 2) fun x_20 =>
      rI x_20 h_1)
    else (rI (-1 : Int32) h_1)) else none := (exq_run (M := M_120) rfl 11 _ _ _ _).symm.trans rfl
theorem e_Y_count_136 (k0 : Nat) (x1 : Int32) (h : pH) : f_Y_count_136 k0 x1 h =
    oo none (hR h 8 k0 0) fun k_1 =>
    oo none (hA h k_1 (((23 : Int32) + x1) - (8 : Int32))) fun x_2 =>
    rI x_2 h := (exq_run (M := M_120) rfl 10 _ _ _ _).symm.trans rfl
theorem e_Y_count_154 (k0 : Nat) (x1 : Int32) (h : pH) : f_Y_count_154 k0 x1 h =
    oo none (hR h 8 k0 0) fun k_1 =>
    oo none (hA h k_1 (((21 : Int32) + x1) - (12 : Int32))) fun x_2 =>
    rI x_2 h := (exq_run (M := M_120) rfl 10 _ _ _ _).symm.trans rfl
noncomputable def f_Y_findsMoves (k0 : Nat) (h : pH) : pR := run pMs none 139 0 [some (.ref k0)] [] h
noncomputable def f_Y_findsMoves_2 (k0 : Nat) (x1 : Int32) (h : pH) : pR := run pMs none 139 2 [some (.ref k0), some (.int x1)] [] h
noncomputable def f_Y_findsMoves_33 (k0 : Nat) (x1 : Int32) (t0 : Nat) (t1 : Int32) (t2 : Int32) (h : pH) : pR := run pMs none 139 33 [some (.ref k0), some (.int x1)] [.int t2, .int t1, .ref t0] h
noncomputable def f_Y_findsMoves_48 (k0 : Nat) (x1 : Int32) (x2 : Int32) (h : pH) : pR := run pMs none 139 48 [some (.ref k0), some (.int x1), some (.int x2)] [] h
noncomputable def f_Y_findsMoves_67 (k0 : Nat) (x1 : Int32) (x2 : Int32) (t0 : Int32) (h : pH) : pR := run pMs none 139 67 [some (.ref k0), some (.int x1), some (.int x2)] [.int t0] h
theorem e_Y_findsMoves (k0 : Nat) (h : pH) : f_Y_findsMoves k0 h =
    (f_Y_findsMoves_2 k0 (0 : Int32) h) := (exq_run (M := M_139) rfl 3 _ _ _ _).symm.trans rfl
set_option maxRecDepth 100000 in
theorem e_Y_findsMoves_2 (k0 : Nat) (x1 : Int32) (h : pH) : f_Y_findsMoves_2 k0 x1 h =
    if kO h 8 k0 = true then (cI (f_Y_words k0 h) fun x_2 h_1 =>
    if x_2 ≤ x1 then
    (rV h_1)
    else
    (if kO h_1 8 k0 = true then (cV (f_Y_spells k0 x1 h_1) fun h_3 =>
      oo none (hR h_3 8 k0 16) fun k_4 =>
      if kO h_3 8 k0 = true then (cI (f_Y_isWordInOrder k0 h_3) fun x_6 h_5 =>
      if x_6 = 0 then
      ((f_Y_findsMoves_33 k0 x1 k_4 x1 (1000000 : Int32) h_5))
      else
      ((f_Y_findsMoves_33 k0 x1 k_4 x1 (0 : Int32) h_5))) else none) else none)) else none := (exq_run (M := M_139) rfl 16 _ _ _ _).symm.trans rfl
theorem e_Y_findsMoves_33 (k0 : Nat) (x1 : Int32) (t0 : Nat) (t1 : Int32) (t2 : Int32) (h : pH) : f_Y_findsMoves_33 k0 x1 t0 t1 t2 h =
    if bA h t0 t1 = true then
    (oo none (hR (sI h t0 (Int32.toNatClampNeg t1) t2) 8 k0 17) fun k_1 =>
    oo none (hR (sI h t0 (Int32.toNatClampNeg t1) t2) 8 k0 16) fun k_2 =>
    oo none (hA (sI h t0 (Int32.toNatClampNeg t1) t2) k_2 x1) fun x_3 =>
    if bA (sI h t0 (Int32.toNatClampNeg t1) t2) k_1 x1 = true then
    ((f_Y_findsMoves_48 k0 x1 (0 : Int32) (sI (sI h t0 (Int32.toNatClampNeg t1) t2) k_1 (Int32.toNatClampNeg x1) x_3)))
    else none)
    else none := (exq_run (M := M_139) rfl 12 _ _ _ _).symm.trans rfl
theorem e_Y_findsMoves_48 (k0 : Nat) (x1 : Int32) (x2 : Int32) (h : pH) : f_Y_findsMoves_48 k0 x1 x2 h =
    if (19 : Int32) ≤ x2 then
    ((f_Y_findsMoves_2 k0 (x1 + 1) h))
    else
    (if kO h 8 k0 = true then (cI (f_Y_whyNotOf k0 x2 h) fun x_2 h_1 =>
      if x_2 = 0 then
      ((f_Y_findsMoves_67 k0 x1 x2 (1 : Int32) h_1))
      else
      ((f_Y_findsMoves_67 k0 x1 x2 (0 : Int32) h_1))) else none) := (exq_run (M := M_139) rfl 10 _ _ _ _).symm.trans rfl
set_option maxRecDepth 100000 in
theorem e_Y_findsMoves_67 (k0 : Nat) (x1 : Int32) (x2 : Int32) (t0 : Int32) (h : pH) : f_Y_findsMoves_67 k0 x1 x2 t0 h =
    oo none (hR h 8 k0 14) fun k_1 =>
    if bA h k_1 (((19 : Int32) * x1) + x2) = true then
    (if t0 = 0 then
    ((f_Y_findsMoves_48 k0 x1 (x2 + 1) (sI h k_1 (Int32.toNatClampNeg (((19 : Int32) * x1) + x2)) (-1 : Int32))))
    else
    (if kO (sI h k_1 (Int32.toNatClampNeg (((19 : Int32) * x1) + x2)) (-1 : Int32)) 8 k0 = true then (cV (f_Y_makes k0 x2 (sI h k_1 (Int32.toNatClampNeg (((19 : Int32) * x1) + x2)) (-1 : Int32))) fun h_2 =>
      oo none (hR h_2 8 k0 14) fun k_3 =>
      if kO h_2 8 k0 = true then (cI (f_Y_rankOfThen k0 h_2) fun x_5 h_4 =>
      if bA h_4 k_3 (((19 : Int32) * x1) + x2) = true then
      (oo none (hR (sI h_4 k_3 (Int32.toNatClampNeg (((19 : Int32) * x1) + x2)) x_5) 8 k0 15) fun k_6 =>
      oo none (hI (sI h_4 k_3 (Int32.toNatClampNeg (((19 : Int32) * x1) + x2)) x_5) 8 k0 13) fun x_7 =>
      if bA (sI h_4 k_3 (Int32.toNatClampNeg (((19 : Int32) * x1) + x2)) x_5) k_6 (((19 : Int32) * x1) + x2) = true then
      ((f_Y_findsMoves_48 k0 x1 (x2 + 1) (sI (sI h_4 k_3 (Int32.toNatClampNeg (((19 : Int32) * x1) + x2)) x_5) k_6 (Int32.toNatClampNeg (((19 : Int32) * x1) + x2)) x_7)))
      else none)
      else none) else none) else none))
    else none := (exq_run (M := M_139) rfl 38 _ _ _ _).symm.trans rfl
noncomputable def f_Y_lessens (k0 : Nat) (x1 : Int32) (x2 : Int32) (h : pH) : pR := run pMs none 140 0 [some (.ref k0), some (.int x1), some (.int x2)] [] h
noncomputable def f_Y_lessens_67 (k0 : Nat) (x1 : Int32) (x2 : Int32) (x3 : Int32) (t0 : Int32) (h : pH) : pR := run pMs none 140 67 [some (.ref k0), some (.int x1), some (.int x2), some (.int x3)] [.int t0] h
noncomputable def f_Y_lessens_108 (k0 : Nat) (x1 : Int32) (x2 : Int32) (x3 : Int32) (x4 : Int32) (t0 : Nat) (t1 : Int32) (t2 : Int32) (h : pH) : pR := run pMs none 140 108 [some (.ref k0), some (.int x1), some (.int x2), some (.int x3), some (.int x4)] [.int t2, .int t1, .ref t0] h
set_option maxRecDepth 100000 in
theorem e_Y_lessens (k0 : Nat) (x1 : Int32) (x2 : Int32) (h : pH) : f_Y_lessens k0 x1 x2 h =
    oo none (hR h 8 k0 14) fun k_1 =>
    oo none (hA h k_1 (((19 : Int32) * x1) + x2)) fun x_2 =>
    if 0 ≤ x_2 then
    (oo none (hR h 8 k0 16) fun k_3 =>
      oo none (hA h k_3 x_2) fun x_4 =>
      oo none (hR h 8 k0 16) fun k_5 =>
      oo none (hA h k_5 x1) fun x_6 =>
      if (x_4 + (1 : Int32)) < x_6 then
      ((f_Y_lessens_67 k0 x1 x2 x_2 (1 : Int32) h))
      else
      (oo none (hR h 8 k0 17) fun k_7 =>
        oo none (hA h k_7 x_2) fun x_8 =>
        oo none (hR h 8 k0 15) fun k_9 =>
        oo none (hA h k_9 (((19 : Int32) * x1) + x2)) fun x_10 =>
        oo none (hR h 8 k0 17) fun k_11 =>
        oo none (hA h k_11 x1) fun x_12 =>
        if x_12 ≤ (x_8 + x_10) then
        ((f_Y_lessens_67 k0 x1 x2 x_2 (0 : Int32) h))
        else
        ((f_Y_lessens_67 k0 x1 x2 x_2 (1 : Int32) h))))
    else
    (rI (0 : Int32) h) := (exq_run (M := M_140) rfl 43 _ _ _ _).symm.trans rfl
set_option maxRecDepth 100000 in
theorem e_Y_lessens_67 (k0 : Nat) (x1 : Int32) (x2 : Int32) (x3 : Int32) (t0 : Int32) (h : pH) : f_Y_lessens_67 k0 x1 x2 x3 t0 h =
    oo none (hR h 8 k0 16) fun k_1 =>
    oo none (hR h 8 k0 16) fun k_2 =>
    oo none (hA h k_2 x3) fun x_3 =>
    oo none (hR h 8 k0 16) fun k_4 =>
    oo none (hA h k_4 x1) fun x_5 =>
    if x_5 ≤ (x_3 + (1 : Int32)) then
    (oo none (hR h 8 k0 16) fun k_6 =>
      oo none (hA h k_6 x1) fun x_7 =>
      (f_Y_lessens_108 k0 x1 x2 x3 t0 k_1 x1 x_7 h))
    else
    (oo none (hR h 8 k0 16) fun k_8 =>
      oo none (hA h k_8 x3) fun x_9 =>
      (f_Y_lessens_108 k0 x1 x2 x3 t0 k_1 x1 (x_9 + (1 : Int32)) h)) := (exq_run (M := M_140) rfl 23 _ _ _ _).symm.trans rfl
set_option maxRecDepth 100000 in
theorem e_Y_lessens_108 (k0 : Nat) (x1 : Int32) (x2 : Int32) (x3 : Int32) (x4 : Int32) (t0 : Nat) (t1 : Int32) (t2 : Int32) (h : pH) : f_Y_lessens_108 k0 x1 x2 x3 x4 t0 t1 t2 h =
    if bA h t0 t1 = true then
    (oo none (hR (sI h t0 (Int32.toNatClampNeg t1) t2) 8 k0 17) fun k_1 =>
    oo none (hA (sI h t0 (Int32.toNatClampNeg t1) t2) k_1 x3) fun x_2 =>
    oo none (hR (sI h t0 (Int32.toNatClampNeg t1) t2) 8 k0 15) fun k_3 =>
    oo none (hA (sI h t0 (Int32.toNatClampNeg t1) t2) k_3 (((19 : Int32) * x1) + x2)) fun x_4 =>
    oo none (hR (sI h t0 (Int32.toNatClampNeg t1) t2) 8 k0 17) fun k_5 =>
    oo none (hR (sI h t0 (Int32.toNatClampNeg t1) t2) 8 k0 17) fun k_6 =>
    oo none (hA (sI h t0 (Int32.toNatClampNeg t1) t2) k_6 x1) fun x_7 =>
    if x_7 ≤ (x_2 + x_4) then
    (oo none (hR (sI h t0 (Int32.toNatClampNeg t1) t2) 8 k0 17) fun k_8 =>
      oo none (hA (sI h t0 (Int32.toNatClampNeg t1) t2) k_8 x1) fun x_9 =>
      if bA (sI h t0 (Int32.toNatClampNeg t1) t2) k_5 x1 = true then
      (if x4 = 0 ∨ x4 = 1 then rI x4 (sI (sI h t0 (Int32.toNatClampNeg t1) t2) k_5 (Int32.toNatClampNeg x1) x_9) else none)
      else none)
    else
    (if bA (sI h t0 (Int32.toNatClampNeg t1) t2) k_5 x1 = true then
      (if x4 = 0 ∨ x4 = 1 then rI x4 (sI (sI h t0 (Int32.toNatClampNeg t1) t2) k_5 (Int32.toNatClampNeg x1) (x_2 + x_4)) else none)
      else none))
    else none := (exq_run (M := M_140) rfl 32 _ _ _ _).symm.trans rfl
noncomputable def f_Y_solves (k0 : Nat) (h : pH) : pR := run pMs none 141 0 [some (.ref k0)] [] h
noncomputable def f_Y_solves_6 (k0 : Nat) (x1 : Int32) (h : pH) : pR := run pMs none 141 6 [some (.ref k0), some (.int x1)] [] h
noncomputable def f_Y_solves_14 (k0 : Nat) (x1 : Int32) (x2 : Int32) (h : pH) : pR := run pMs none 141 14 [some (.ref k0), some (.int x1), some (.int x2)] [] h
theorem e_Y_solves (k0 : Nat) (h : pH) : f_Y_solves k0 h =
    if kO h 8 k0 = true then (cV (f_Y_findsMoves k0 h) fun h_1 =>
    (f_Y_solves_6 k0 (1 : Int32) h_1)) else none := (exq_run (M := M_141) rfl 5 _ _ _ _).symm.trans rfl
theorem e_Y_solves_6 (k0 : Nat) (x1 : Int32) (h : pH) : f_Y_solves_6 k0 x1 h =
    if x1 = 0 then
    (rV h)
    else
    ((f_Y_solves_14 k0 (0 : Int32) (0 : Int32) h)) := (exq_run (M := M_141) rfl 7 _ _ _ _).symm.trans rfl
set_option maxRecDepth 100000 in
theorem e_Y_solves_14 (k0 : Nat) (x1 : Int32) (x2 : Int32) (h : pH) : f_Y_solves_14 k0 x1 x2 h =
    if kO h 8 k0 = true then (cI (f_Y_words k0 h) fun x_2 h_1 =>
    if ((19 : Int32) * x_2) ≤ x2 then
    ((f_Y_solves_6 k0 x1 h_1))
    else
    (if (19 : Int32) = 0 then none else
      if (19 : Int32) = 0 then none else
      if kO h_1 8 k0 = true then (cI (f_Y_lessens k0 (x2 / (19 : Int32)) (x2 - x2 / (19 : Int32) * (19 : Int32)) h_1) fun x_4 h_3 =>
      if x_4 = 0 then
      (if x1 = 0 then
        ((f_Y_solves_14 k0 (0 : Int32) (x2 + 1) h_3))
        else
        ((f_Y_solves_14 k0 (1 : Int32) (x2 + 1) h_3)))
      else
      ((f_Y_solves_14 k0 (1 : Int32) (x2 + 1) h_3))) else none)) else none := (exq_run (M := M_141) rfl 23 _ _ _ _).symm.trans rfl
noncomputable def f_Y_least (k0 : Nat) (x1 : Int32) (x2 : Int32) (h : pH) : pR := run pMs none 142 0 [some (.ref k0), some (.int x1), some (.int x2)] [] h
noncomputable def f_Y_least_52 (t0 : Int32) (h : pH) : pR := run pMs none 142 52 [] [.int t0] h
set_option maxRecDepth 100000 in
theorem e_Y_least (k0 : Nat) (x1 : Int32) (x2 : Int32) (h : pH) : f_Y_least k0 x1 x2 h =
    if kO h 8 k0 = true then (cV (f_Y_looks k0 h) fun h_1 =>
    if kO h_1 8 k0 = true then (cI (f_Y_words k0 h_1) fun x_3 h_2 =>
    cI (f_Y_in x1 (0 : Int32) (x_3 - (1 : Int32)) h_2) fun x_5 h_4 =>
    if x_5 = 0 then
    (rI (-1 : Int32) h_4)
    else
    (cI (f_Y_in x2 (0 : Int32) (2 : Int32) h_4) fun x_7 h_6 =>
      if x_7 = 0 then
      (rI (-1 : Int32) h_6)
      else
      (if kO h_6 8 k0 = true then (cV (f_Y_solves k0 h_6) fun h_8 =>
        if x2 = 0 then
        (oo none (hR h_8 8 k0 16) fun k_11 =>
          oo none (hA h_8 k_11 x1) fun x_12 =>
          (f_Y_least_52 x_12 h_8))
        else
        (oo none (hR h_8 8 k0 17) fun k_9 =>
          oo none (hA h_8 k_9 x1) fun x_10 =>
          (f_Y_least_52 x_10 h_8))) else none))) else none) else none := (exq_run (M := M_142) rfl 25 _ _ _ _).symm.trans rfl
theorem e_Y_least_52 (t0 : Int32) (h : pH) : f_Y_least_52 t0 h =
    if (1000000 : Int32) ≤ t0 then
    (rI (-4 : Int32) h)
    else
    (rI t0 h) := (exq_run (M := M_142) rfl 8 _ _ _ _).symm.trans rfl
noncomputable def f_Y_first (k0 : Nat) (x1 : Int32) (x2 : Int32) (h : pH) : pR := run pMs none 147 0 [some (.ref k0), some (.int x1), some (.int x2)] [] h
noncomputable def f_Y_first_2 (k0 : Nat) (x1 : Int32) (x2 : Int32) (x3 : Int32) (h : pH) : pR := run pMs none 147 2 [some (.ref k0), some (.int x1), some (.int x2), some (.int x3)] [] h
theorem e_Y_first (k0 : Nat) (x1 : Int32) (x2 : Int32) (h : pH) : f_Y_first k0 x1 x2 h =
    (f_Y_first_2 k0 x1 x2 (0 : Int32) h) := (exq_run (M := M_147) rfl 3 _ _ _ _).symm.trans rfl
set_option maxRecDepth 100000 in
theorem e_Y_first_2 (k0 : Nat) (x1 : Int32) (x2 : Int32) (x3 : Int32) (h : pH) : f_Y_first_2 k0 x1 x2 x3 h =
    if (19 : Int32) ≤ x3 then
    (rI (-4 : Int32) h)
    else
    (oo none (hR h 8 k0 14) fun k_1 =>
      oo none (hA h k_1 (((19 : Int32) * x1) + x3)) fun x_2 =>
      if x_2 < 0 then
      ((f_Y_first_2 k0 x1 x2 (x3 + 1) h))
      else
      (oo none (hR h 8 k0 16) fun k_3 =>
        oo none (hA h k_3 x1) fun x_4 =>
        if (1000000 : Int32) ≤ x_4 then
        ((f_Y_first_2 k0 x1 x2 (x3 + 1) h))
        else
        (oo none (hR h 8 k0 16) fun k_5 =>
          oo none (hA h k_5 x1) fun x_6 =>
          if x_6 ≤ 0 then
          ((f_Y_first_2 k0 x1 x2 (x3 + 1) h))
          else
          (if x2 = 0 then
            (oo none (hR h 8 k0 16) fun k_7 =>
              oo none (hA h k_7 x_2) fun x_8 =>
              oo none (hR h 8 k0 16) fun k_9 =>
              oo none (hA h k_9 x1) fun x_10 =>
              if (x_8 + (1 : Int32)) = x_10 then
              (if (1 : Int32) = 0 then
                ((f_Y_first_2 k0 x1 x2 (x3 + 1) h))
                else
                (rI x3 h))
              else
              (if (0 : Int32) = 0 then
                ((f_Y_first_2 k0 x1 x2 (x3 + 1) h))
                else
                (rI x3 h)))
            else
            (oo none (hR h 8 k0 17) fun k_11 =>
              oo none (hA h k_11 x_2) fun x_12 =>
              oo none (hR h 8 k0 15) fun k_13 =>
              oo none (hA h k_13 (((19 : Int32) * x1) + x3)) fun x_14 =>
              oo none (hR h 8 k0 17) fun k_15 =>
              oo none (hA h k_15 x1) fun x_16 =>
              if (x_12 + x_14) = x_16 then
              (if (1 : Int32) = 0 then
                ((f_Y_first_2 k0 x1 x2 (x3 + 1) h))
                else
                (rI x3 h))
              else
              (if (0 : Int32) = 0 then
                ((f_Y_first_2 k0 x1 x2 (x3 + 1) h))
                else
                (rI x3 h))))))) := (exq_run (M := M_147) rfl 53 _ _ _ _).symm.trans rfl
noncomputable def f_Y_plan (k0 : Nat) (x1 : Int32) (x2 : Int32) (h : pH) : pR := run pMs none 148 0 [some (.ref k0), some (.int x1), some (.int x2)] [] h
noncomputable def f_Y_plan_26 (k0 : Nat) (x1 : Int32) (x2 : Int32) (x3 : Int32) (x4 : Int32) (x5 : Int32) (h : pH) : pR := run pMs none 148 26 [some (.ref k0), some (.int x1), some (.int x2), some (.int x3), some (.int x4), some (.int x5)] [] h
set_option maxRecDepth 100000 in
theorem e_Y_plan (k0 : Nat) (x1 : Int32) (x2 : Int32) (h : pH) : f_Y_plan k0 x1 x2 h =
    if 0 ≤ x2 then
    (if kO h 8 k0 = true then (cI (f_Y_rankNow k0 h) fun x_2 h_1 =>
      if kO h_1 8 k0 = true then (cV (f_Y_solves k0 h_1) fun h_3 =>
      if kO h_3 8 k0 = true then (cI (f_Y_first k0 x_2 x1 h_3) fun x_5 h_4 =>
      (f_Y_plan_26 k0 x1 x2 x_2 x_5 (0 : Int32) h_4)) else none) else none) else none)
    else
    (rI (-1 : Int32) h) := (exq_run (M := M_148) rfl 15 _ _ _ _).symm.trans rfl
set_option maxRecDepth 100000 in
theorem e_Y_plan_26 (k0 : Nat) (x1 : Int32) (x2 : Int32) (x3 : Int32) (x4 : Int32) (x5 : Int32) (h : pH) : f_Y_plan_26 k0 x1 x2 x3 x4 x5 h =
    if x2 ≤ x5 then
    (rI x4 h)
    else
    (if x4 = (-4 : Int32) then
      (rI x4 h)
      else
      (oo none (hR h 8 k0 14) fun k_1 =>
        oo none (hA h k_1 (((19 : Int32) * x3) + x4)) fun x_2 =>
        if kO h 8 k0 = true then (cI (f_Y_first k0 x_2 x1 h) fun x_4 h_3 =>
        (f_Y_plan_26 k0 x1 x2 x_2 x_4 (x5 + 1) h_3)) else none)) := (exq_run (M := M_148) rfl 23 _ _ _ _).symm.trans rfl
noncomputable def f_Y_reached (k0 : Nat) (x1 : Int32) (h : pH) : pR := run pMs none 155 0 [some (.ref k0), some (.int x1)] [] h
noncomputable def f_Y_reached_2 (k0 : Nat) (x1 : Int32) (x2 : Int32) (h : pH) : pR := run pMs none 155 2 [some (.ref k0), some (.int x1), some (.int x2)] [] h
noncomputable def f_Y_reached_36 (k0 : Nat) (x2 : Int32) (x3 : Int32) (h : pH) : pR := run pMs none 155 36 [some (.ref k0), none, some (.int x2), some (.int x3)] [] h
noncomputable def f_Y_reached_45 (k0 : Nat) (x2 : Int32) (x3 : Int32) (x4 : Int32) (h : pH) : pR := run pMs none 155 45 [some (.ref k0), none, some (.int x2), some (.int x3), some (.int x4)] [] h
theorem e_Y_reached (k0 : Nat) (x1 : Int32) (h : pH) : f_Y_reached k0 x1 h =
    (f_Y_reached_2 k0 x1 (0 : Int32) h) := (exq_run (M := M_155) rfl 3 _ _ _ _).symm.trans rfl
set_option maxRecDepth 100000 in
theorem e_Y_reached_2 (k0 : Nat) (x1 : Int32) (x2 : Int32) (h : pH) : f_Y_reached_2 k0 x1 x2 h =
    if kO h 8 k0 = true then (cI (f_Y_words k0 h) fun x_2 h_1 =>
    if x_2 ≤ x2 then
    ((f_Y_reached_36 k0 (1 : Int32) (1 : Int32) h_1))
    else
    (oo none (hR h_1 8 k0 18) fun k_3 =>
      if x2 = x1 then
      (if bA h_1 k_3 x2 = true then
        ((f_Y_reached_2 k0 x1 (x2 + 1) (sI h_1 k_3 (Int32.toNatClampNeg x2) (1 : Int32))))
        else none)
      else
      (if bA h_1 k_3 x2 = true then
        ((f_Y_reached_2 k0 x1 (x2 + 1) (sI h_1 k_3 (Int32.toNatClampNeg x2) (0 : Int32))))
        else none))) else none := (exq_run (M := M_155) rfl 16 _ _ _ _).symm.trans rfl
theorem e_Y_reached_36 (k0 : Nat) (x2 : Int32) (x3 : Int32) (h : pH) : f_Y_reached_36 k0 x2 x3 h =
    if x3 = 0 then
    (rI x2 h)
    else
    ((f_Y_reached_45 k0 x2 (0 : Int32) (0 : Int32) h)) := (exq_run (M := M_155) rfl 7 _ _ _ _).symm.trans rfl
set_option maxRecDepth 100000 in
theorem e_Y_reached_45 (k0 : Nat) (x2 : Int32) (x3 : Int32) (x4 : Int32) (h : pH) : f_Y_reached_45 k0 x2 x3 x4 h =
    if kO h 8 k0 = true then (cI (f_Y_words k0 h) fun x_2 h_1 =>
    if ((19 : Int32) * x_2) ≤ x4 then
    ((f_Y_reached_36 k0 x2 x3 h_1))
    else
    (oo none (hR h_1 8 k0 18) fun k_3 =>
      if (19 : Int32) = 0 then none else
      oo none (hA h_1 k_3 (x4 / (19 : Int32))) fun x_4 =>
      if x_4 = (1 : Int32) then
      (oo none (hR h_1 8 k0 14) fun k_5 =>
        oo none (hA h_1 k_5 x4) fun x_6 =>
        if x_6 < 0 then
        ((f_Y_reached_45 k0 x2 x3 (x4 + 1) h_1))
        else
        (oo none (hR h_1 8 k0 18) fun k_7 =>
          oo none (hR h_1 8 k0 14) fun k_8 =>
          oo none (hA h_1 k_8 x4) fun x_9 =>
          oo none (hA h_1 k_7 x_9) fun x_10 =>
          if x_10 = 0 then
          (oo none (hR h_1 8 k0 18) fun k_11 =>
            oo none (hR h_1 8 k0 14) fun k_12 =>
            oo none (hA h_1 k_12 x4) fun x_13 =>
            if bA h_1 k_11 x_13 = true then
            ((f_Y_reached_45 k0 (x2 + 1) (1 : Int32) (x4 + 1) (sI h_1 k_11 (Int32.toNatClampNeg x_13) (1 : Int32))))
            else none)
          else
          ((f_Y_reached_45 k0 x2 x3 (x4 + 1) h_1))))
      else
      ((f_Y_reached_45 k0 x2 x3 (x4 + 1) h_1)))) else none := (exq_run (M := M_155) rfl 41 _ _ _ _).symm.trans rfl
noncomputable def f_Y_all (k0 : Nat) (x1 : Int32) (h : pH) : pR := run pMs none 156 0 [some (.ref k0), some (.int x1)] [] h
noncomputable def f_Y_all_45 (k0 : Nat) (x1 : Int32) (x3 : Int32) (x4 : Int32) (x5 : Int32) (x6 : Int32) (x7 : Int32) (h : pH) : pR := run pMs none 156 45 [some (.ref k0), some (.int x1), none, some (.int x3), some (.int x4), some (.int x5), some (.int x6), some (.int x7)] [] h
noncomputable def f_Y_all_84 (k0 : Nat) (x1 : Int32) (x4 : Int32) (x5 : Int32) (x6 : Int32) (x7 : Int32) (x8 : Int32) (t0 : Int32) (t1 : Int32) (h : pH) : pR := run pMs none 156 84 [some (.ref k0), some (.int x1), none, none, some (.int x4), some (.int x5), some (.int x6), some (.int x7), some (.int x8)] [.int t1, .int t0] h
noncomputable def f_Y_all_110 (k0 : Nat) (x1 : Int32) (x3 : Int32) (x4 : Int32) (x5 : Int32) (x7 : Int32) (x8 : Int32) (t0 : Int32) (h : pH) : pR := run pMs none 156 110 [some (.ref k0), some (.int x1), none, some (.int x3), some (.int x4), some (.int x5), none, some (.int x7), some (.int x8)] [.int t0] h
noncomputable def f_Y_all_141 (k0 : Nat) (x1 : Int32) (x3 : Int32) (x5 : Int32) (x6 : Int32) (x7 : Int32) (x8 : Int32) (t0 : Int32) (h : pH) : pR := run pMs none 156 141 [some (.ref k0), some (.int x1), none, some (.int x3), none, some (.int x5), some (.int x6), some (.int x7), some (.int x8)] [.int t0] h
set_option maxRecDepth 100000 in
theorem e_Y_all (k0 : Nat) (x1 : Int32) (h : pH) : f_Y_all k0 x1 h =
    cI (f_Y_in x1 (0 : Int32) (4 : Int32) h) fun x_2 h_1 =>
    if x_2 = 0 then
    (rI (-1 : Int32) h_1)
    else
    (if kO h_1 8 k0 = true then (cI (f_Y_rankNow k0 h_1) fun x_4 h_3 =>
      if kO h_3 8 k0 = true then (cV (f_Y_solves k0 h_3) fun h_5 =>
      if x1 = (4 : Int32) then
      (if kO h_5 8 k0 = true then (cI (f_Y_reached k0 x_4 h_5) fun x_7 h_6 =>
        rI x_7 h_6) else none)
      else
      ((f_Y_all_45 k0 x1 (0 : Int32) (-1 : Int32) (0 : Int32) (0 : Int32) (0 : Int32) h_5))) else none) else none) := (exq_run (M := M_156) rfl 24 _ _ _ _).symm.trans rfl
set_option maxRecDepth 100000 in
theorem e_Y_all_45 (k0 : Nat) (x1 : Int32) (x3 : Int32) (x4 : Int32) (x5 : Int32) (x6 : Int32) (x7 : Int32) (h : pH) : f_Y_all_45 k0 x1 x3 x4 x5 x6 x7 h =
    if kO h 8 k0 = true then (cI (f_Y_words k0 h) fun x_2 h_1 =>
    if x_2 ≤ x7 then
    (if x1 = 0 then
      (rI x3 h_1)
      else
      (if x1 = (1 : Int32) then
        (rI x4 h_1)
        else
        (if x1 = (2 : Int32) then
          (rI x5 h_1)
          else
          (rI x6 h_1))))
    else
    (oo none (hR h_1 8 k0 16) fun k_3 =>
      oo none (hA h_1 k_3 x7) fun x_4 =>
      if (1000000 : Int32) ≤ x_4 then
      (if (0 : Int32) = 0 then
        ((f_Y_all_84 k0 x1 x4 x5 x6 x7 (0 : Int32) x3 (0 : Int32) h_1))
        else
        ((f_Y_all_84 k0 x1 x4 x5 x6 x7 (0 : Int32) x3 (1 : Int32) h_1)))
      else
      (if (1 : Int32) = 0 then
        ((f_Y_all_84 k0 x1 x4 x5 x6 x7 (1 : Int32) x3 (0 : Int32) h_1))
        else
        ((f_Y_all_84 k0 x1 x4 x5 x6 x7 (1 : Int32) x3 (1 : Int32) h_1))))) else none := (exq_run (M := M_156) rfl 19 _ _ _ _).symm.trans rfl
theorem e_Y_all_84 (k0 : Nat) (x1 : Int32) (x4 : Int32) (x5 : Int32) (x6 : Int32) (x7 : Int32) (x8 : Int32) (t0 : Int32) (t1 : Int32) (h : pH) : f_Y_all_84 k0 x1 x4 x5 x6 x7 x8 t0 t1 h =
    if x8 = 0 then
    ((f_Y_all_110 k0 x1 (t0 + t1) x4 x5 x7 x8 x6 h))
    else
    (oo none (hR h 8 k0 16) fun k_1 =>
      oo none (hA h k_1 x7) fun x_2 =>
      if x_2 ≤ x4 then
      ((f_Y_all_110 k0 x1 (t0 + t1) x4 x5 x7 x8 x6 h))
      else
      ((f_Y_all_110 k0 x1 (t0 + t1) x4 x5 x7 x8 x7 h))) := (exq_run (M := M_156) rfl 13 _ _ _ _).symm.trans rfl
set_option maxRecDepth 100000 in
theorem e_Y_all_110 (k0 : Nat) (x1 : Int32) (x3 : Int32) (x4 : Int32) (x5 : Int32) (x7 : Int32) (x8 : Int32) (t0 : Int32) (h : pH) : f_Y_all_110 k0 x1 x3 x4 x5 x7 x8 t0 h =
    if x8 = 0 then
    ((f_Y_all_141 k0 x1 x3 x5 t0 x7 x8 x4 h))
    else
    (oo none (hR h 8 k0 16) fun k_1 =>
      oo none (hA h k_1 x7) fun x_2 =>
      if x_2 ≤ x4 then
      ((f_Y_all_141 k0 x1 x3 x5 t0 x7 x8 x4 h))
      else
      (oo none (hR h 8 k0 16) fun k_3 =>
        oo none (hA h k_3 x7) fun x_4 =>
        (f_Y_all_141 k0 x1 x3 x5 t0 x7 x8 x_4 h))) := (exq_run (M := M_156) rfl 15 _ _ _ _).symm.trans rfl
set_option maxRecDepth 100000 in
theorem e_Y_all_141 (k0 : Nat) (x1 : Int32) (x3 : Int32) (x5 : Int32) (x6 : Int32) (x7 : Int32) (x8 : Int32) (t0 : Int32) (h : pH) : f_Y_all_141 k0 x1 x3 x5 x6 x7 x8 t0 h =
    if x8 = 0 then
    ((f_Y_all_45 k0 x1 x3 t0 x5 x6 (x7 + 1) h))
    else
    (oo none (hR h 8 k0 17) fun k_1 =>
      oo none (hA h k_1 x7) fun x_2 =>
      if x_2 ≤ x5 then
      ((f_Y_all_45 k0 x1 x3 t0 x5 x6 (x7 + 1) h))
      else
      (oo none (hR h 8 k0 17) fun k_3 =>
        oo none (hA h k_3 x7) fun x_4 =>
        (f_Y_all_45 k0 x1 x3 t0 x_4 x6 (x7 + 1) h))) := (exq_run (M := M_156) rfl 18 _ _ _ _).symm.trans rfl
noncomputable def f_Y_mean (k0 : Nat) (h : pH) : pR := run pMs none 159 0 [some (.ref k0)] [] h
noncomputable def f_Y_mean_14 (k0 : Nat) (x1 : Int32) (x2 : Int32) (x3 : Int32) (h : pH) : pR := run pMs none 159 14 [some (.ref k0), some (.int x1), some (.int x2), some (.int x3)] [] h
noncomputable def f_Y_mean_39 (k0 : Nat) (x2 : Int32) (x3 : Int32) (t0 : Int32) (t1 : Int32) (h : pH) : pR := run pMs none 159 39 [some (.ref k0), none, some (.int x2), some (.int x3)] [.int t1, .int t0] h
theorem e_Y_mean (k0 : Nat) (h : pH) : f_Y_mean k0 h =
    if kO h 8 k0 = true then (cV (f_Y_looks k0 h) fun h_1 =>
    if kO h_1 8 k0 = true then (cV (f_Y_solves k0 h_1) fun h_2 =>
    (f_Y_mean_14 k0 (0 : Int32) (0 : Int32) (0 : Int32) h_2)) else none) else none := (exq_run (M := M_159) rfl 11 _ _ _ _).symm.trans rfl
set_option maxRecDepth 100000 in
theorem e_Y_mean_14 (k0 : Nat) (x1 : Int32) (x2 : Int32) (x3 : Int32) (h : pH) : f_Y_mean_14 k0 x1 x2 x3 h =
    if kO h 8 k0 = true then (cI (f_Y_words k0 h) fun x_2 h_1 =>
    if x_2 ≤ x3 then
    (if (FP.dmul (FP.i2d x2) FP.dconst1) &&& 0x7fffffffffffffff ≤ 0x7ff0000000000000 then
      (if (FP.ddiv (FP.dmul (FP.i2d x2) FP.dconst1) (FP.i2d x1)) &&& 0x7fffffffffffffff ≤ 0x7ff0000000000000 then
      (rD (FP.ddiv (FP.dmul (FP.i2d x2) FP.dconst1) (FP.i2d x1)) h_1)
      else none)
      else none)
    else
    (oo none (hR h_1 8 k0 16) fun k_3 =>
      oo none (hA h_1 k_3 x3) fun x_4 =>
      if (1000000 : Int32) ≤ x_4 then
      ((f_Y_mean_39 k0 x2 x3 x1 (0 : Int32) h_1))
      else
      ((f_Y_mean_39 k0 x2 x3 x1 (1 : Int32) h_1)))) else none := (exq_run (M := M_159) rfl 14 _ _ _ _).symm.trans rfl
set_option maxRecDepth 100000 in
theorem e_Y_mean_39 (k0 : Nat) (x2 : Int32) (x3 : Int32) (t0 : Int32) (t1 : Int32) (h : pH) : f_Y_mean_39 k0 x2 x3 t0 t1 h =
    oo none (hR h 8 k0 16) fun k_1 =>
    oo none (hA h k_1 x3) fun x_2 =>
    if (1000000 : Int32) ≤ x_2 then
    ((f_Y_mean_14 k0 (t0 + t1) (x2 + (0 : Int32)) (x3 + 1) h))
    else
    (oo none (hR h 8 k0 16) fun k_3 =>
      oo none (hA h k_3 x3) fun x_4 =>
      (f_Y_mean_14 k0 (t0 + t1) (x2 + x_4) (x3 + 1) h)) := (exq_run (M := M_159) rfl 19 _ _ _ _).symm.trans rfl
noncomputable def f_Y_rounds (k0 : Nat) (h : pH) : pR := run pMs none 164 0 [some (.ref k0)] [] h
noncomputable def f_Y_rounds_4 (k0 : Nat) (x1 : Int32) (x2 : Int32) (h : pH) : pR := run pMs none 164 4 [some (.ref k0), some (.int x1), some (.int x2)] [] h
theorem e_Y_rounds (k0 : Nat) (h : pH) : f_Y_rounds k0 h =
    (f_Y_rounds_4 k0 (0 : Int32) (0 : Int32) h) := (exq_run (M := M_164) rfl 5 _ _ _ _).symm.trans rfl
set_option maxRecDepth 100000 in
theorem e_Y_rounds_4 (k0 : Nat) (x1 : Int32) (x2 : Int32) (h : pH) : f_Y_rounds_4 k0 x1 x2 h =
    oo none (hI h 8 k0 6) fun x_1 =>
    if (2 : Int32) = 0 then none else
    if (x_1 / (2 : Int32)) ≤ x2 then
    (rI x1 h)
    else
    (if kO h 8 k0 = true then (cI (f_Y_moveAt k0 x2 h) fun x_3 h_2 =>
      if kO h_2 8 k0 = true then (cI (f_Y_whyNotOf k0 x_3 h_2) fun x_5 h_4 =>
      if x_5 = 0 then
      (if kO h_4 8 k0 = true then (cI (f_Y_moveAt k0 x2 h_4) fun x_7 h_6 =>
        if kO h_6 8 k0 = true then (cV (f_Y_makes k0 x_7 h_6) fun h_8 =>
        if kO h_8 8 k0 = true then (cV (f_Y_goesOn k0 h_8) fun h_9 =>
        oo none (hI h_9 8 k0 13) fun x_10 =>
        (f_Y_rounds_4 k0 (x1 + x_10) (x2 + 1) h_9)) else none) else none) else none)
      else
      ((f_Y_rounds_4 k0 x1 (x2 + 1) h_4))) else none) else none) := (exq_run (M := M_164) rfl 27 _ _ _ _).symm.trans rfl
noncomputable def f_Y_rankOfWord (k0 : Nat) (h : pH) : pR := run pMs none 165 0 [some (.ref k0)] [] h
noncomputable def f_Y_rankOfWord_2 (k0 : Nat) (x1 : Int32) (h : pH) : pR := run pMs none 165 2 [some (.ref k0), some (.int x1)] [] h
theorem e_Y_rankOfWord (k0 : Nat) (h : pH) : f_Y_rankOfWord k0 h =
    (f_Y_rankOfWord_2 k0 (0 : Int32) h) := (exq_run (M := M_165) rfl 3 _ _ _ _).symm.trans rfl
set_option maxRecDepth 100000 in
theorem e_Y_rankOfWord_2 (k0 : Nat) (x1 : Int32) (h : pH) : f_Y_rankOfWord_2 k0 x1 h =
    if (7 : Int32) ≤ x1 then
    (if kO h 8 k0 = true then (cI (f_Y_rankOfThen k0 h) fun x_2 h_1 =>
      rI x_2 h_1) else none)
    else
    (oo none (hR h 8 k0 12) fun k_3 =>
      oo none (hR h 8 k0 11) fun k_4 =>
      oo none (hA h k_4 x1) fun x_5 =>
      if bA h k_3 x1 = true then
      ((f_Y_rankOfWord_2 k0 (x1 + 1) (sI h k_3 (Int32.toNatClampNeg x1) x_5)))
      else none) := (exq_run (M := M_165) rfl 14 _ _ _ _).symm.trans rfl
noncomputable def f_Y_round (k0 : Nat) (x1 : Int32) (h : pH) : pR := run pMs none 166 0 [some (.ref k0), some (.int x1)] [] h
noncomputable def f_Y_round_30 (k0 : Nat) (x1 : Int32) (x2 : Int32) (x3 : Int32) (h : pH) : pR := run pMs none 166 30 [some (.ref k0), some (.int x1), some (.int x2), some (.int x3)] [] h
noncomputable def f_Y_round_57 (k0 : Nat) (x1 : Int32) (x2 : Int32) (x3 : Int32) (x4 : Int32) (h : pH) : pR := run pMs none 166 57 [some (.ref k0), some (.int x1), some (.int x2), some (.int x3), some (.int x4)] [] h
noncomputable def f_Y_round_93 (k0 : Nat) (x1 : Int32) (x3 : Int32) (t0 : Int32) (h : pH) : pR := run pMs none 166 93 [some (.ref k0), some (.int x1), none, some (.int x3)] [.int t0] h
noncomputable def f_Y_round_128 (k0 : Nat) (x1 : Int32) (x2 : Int32) (x4 : Int32) (x5 : Int32) (x6 : Int32) (x7 : Int32) (h : pH) : pR := run pMs none 166 128 [some (.ref k0), some (.int x1), some (.int x2), none, some (.int x4), some (.int x5), some (.int x6), some (.int x7)] [] h
set_option maxRecDepth 100000 in
theorem e_Y_round (k0 : Nat) (x1 : Int32) (h : pH) : f_Y_round k0 x1 h =
    cI (f_Y_in x1 (0 : Int32) (3 : Int32) h) fun x_2 h_1 =>
    if x_2 = 0 then
    (rI (-1 : Int32) h_1)
    else
    (if kO h_1 8 k0 = true then (cI (f_Y_faultOfProgram k0 h_1) fun x_4 h_3 =>
      if x_4 = (-4 : Int32) then
      (if kO h_3 8 k0 = true then (cI (f_Y_rankNow k0 h_3) fun x_6 h_5 =>
        (f_Y_round_30 k0 x1 x_6 (0 : Int32) h_5)) else none)
      else
      (rI (-2 : Int32) h_3)) else none) := (exq_run (M := M_166) rfl 15 _ _ _ _).symm.trans rfl
theorem e_Y_round_30 (k0 : Nat) (x1 : Int32) (x2 : Int32) (x3 : Int32) (h : pH) : f_Y_round_30 k0 x1 x2 x3 h =
    if kO h 8 k0 = true then (cI (f_Y_words k0 h) fun x_2 h_1 =>
    if x_2 ≤ x3 then
    ((f_Y_round_57 k0 x1 x2 (0 : Int32) (1000000 : Int32) h_1))
    else
    (oo none (hR h_1 8 k0 18) fun k_3 =>
      if bA h_1 k_3 x3 = true then
      ((f_Y_round_30 k0 x1 x2 (x3 + 1) (sI h_1 k_3 (Int32.toNatClampNeg x3) (-1 : Int32))))
      else none)) else none := (exq_run (M := M_166) rfl 12 _ _ _ _).symm.trans rfl
set_option maxRecDepth 100000 in
theorem e_Y_round_57 (k0 : Nat) (x1 : Int32) (x2 : Int32) (x3 : Int32) (x4 : Int32) (h : pH) : f_Y_round_57 k0 x1 x2 x3 x4 h =
    oo none (hR h 8 k0 18) fun k_1 =>
    oo none (hA h k_1 x2) fun x_2 =>
    if 0 ≤ x_2 then
    (oo none (hR h 8 k0 18) fun k_3 =>
      oo none (hA h k_3 x2) fun x_4 =>
      (f_Y_round_128 k0 x1 x2 x4 (x3 - x_4) (0 : Int32) (0 : Int32) h))
    else
    (oo none (hR h 8 k0 18) fun k_5 =>
      if bA h k_5 x2 = true then
      (if kO (sI h k_5 (Int32.toNatClampNeg x2) x3) 8 k0 = true then (cI (f_Y_disorderOfWord k0 (sI h k_5 (Int32.toNatClampNeg x2) x3)) fun x_7 h_6 =>
      if x4 ≤ x_7 then
      ((f_Y_round_93 k0 x1 x3 x4 h_6))
      else
      ((f_Y_round_93 k0 x1 x3 x_7 h_6))) else none)
      else none) := (exq_run (M := M_166) rfl 19 _ _ _ _).symm.trans rfl
theorem e_Y_round_93 (k0 : Nat) (x1 : Int32) (x3 : Int32) (t0 : Int32) (h : pH) : f_Y_round_93 k0 x1 x3 t0 h =
    if kO h 8 k0 = true then (cI (f_Y_rounds k0 h) fun x_2 h_1 =>
    if kO h_1 8 k0 = true then (cI (f_Y_rankOfWord k0 h_1) fun x_4 h_3 =>
    (f_Y_round_57 k0 x1 x_4 (x3 + 1) t0 h_3)) else none) else none := (exq_run (M := M_166) rfl 10 _ _ _ _).symm.trans rfl
set_option maxRecDepth 100000 in
theorem e_Y_round_128 (k0 : Nat) (x1 : Int32) (x2 : Int32) (x4 : Int32) (x5 : Int32) (x6 : Int32) (x7 : Int32) (h : pH) : f_Y_round_128 k0 x1 x2 x4 x5 x6 x7 h =
    if x5 ≤ x7 then
    (if x1 = 0 then
      (oo none (hR h 8 k0 18) fun k_1 =>
        oo none (hA h k_1 x2) fun x_2 =>
        rI x_2 h)
      else
      (if x1 = (1 : Int32) then
        (rI x5 h)
        else
        (if x1 = (2 : Int32) then
          (rI x6 h)
          else
          (rI x4 h))))
    else
    (if kO h 8 k0 = true then (cI (f_Y_rounds k0 h) fun x_4 h_3 =>
      (f_Y_round_128 k0 x1 x2 x4 x5 (x6 + x_4) (x7 + 1) h_3)) else none) := (exq_run (M := M_166) rfl 15 _ _ _ _).symm.trans rfl
noncomputable def f_Y_loosen (k0 : Nat) (h : pH) : pR := run pMs none 169 0 [some (.ref k0)] [] h
noncomputable def f_Y_loosen_7 (k0 : Nat) (x1 : Int32) (x2 : Int32) (x3 : Int32) (h : pH) : pR := run pMs none 169 7 [some (.ref k0), some (.int x1), some (.int x2), some (.int x3)] [] h
noncomputable def f_Y_loosen_76 (k0 : Nat) (x1 : Int32) (x2 : Int32) (x3 : Int32) (x4 : Int32) (h : pH) : pR := run pMs none 169 76 [some (.ref k0), some (.int x1), some (.int x2), some (.int x3), some (.int x4)] [] h
noncomputable def f_Y_loosen_93 (k0 : Nat) (x2 : Int32) (x3 : Int32) (x4 : Int32) (x5 : Int32) (t0 : Int32) (h : pH) : pR := run pMs none 169 93 [some (.ref k0), none, some (.int x2), some (.int x3), some (.int x4), some (.int x5)] [.int t0] h
theorem e_Y_loosen (k0 : Nat) (h : pH) : f_Y_loosen k0 h =
    (f_Y_loosen_7 k0 (-4 : Int32) (0 : Int32) (0 : Int32) h) := (exq_run (M := M_169) rfl 7 _ _ _ _).symm.trans rfl
set_option maxRecDepth 100000 in
theorem e_Y_loosen_7 (k0 : Nat) (x1 : Int32) (x2 : Int32) (x3 : Int32) (h : pH) : f_Y_loosen_7 k0 x1 x2 x3 h =
    if (7 : Int32) ≤ x3 then
    (rI x1 h)
    else
    (if kO h 8 k0 = true then (cI (f_Y_rankNow k0 h) fun x_2 h_1 =>
      oo none (hR h_1 8 k0 11) fun k_3 =>
      oo none (hA h_1 k_3 x3) fun x_4 =>
      if x_4 ≤ 0 then
      ((f_Y_loosen_7 k0 x1 x2 (x3 + 1) h_1))
      else
      (oo none (hR h_1 8 k0 0) fun k_5 =>
        oo none (hA h_1 k_5 ((14 : Int32) + x3)) fun x_6 =>
        if x_6 = (1 : Int32) then
        (oo none (hR h_1 8 k0 9) fun k_7 =>
          oo none (hR h_1 8 k0 11) fun k_8 =>
          oo none (hA h_1 k_8 x3) fun x_9 =>
          if bA h_1 k_7 (x_9 - (1 : Int32)) = true then
          (if kO (sI h_1 k_7 (Int32.toNatClampNeg (x_9 - (1 : Int32))) (0 : Int32)) 8 k0 = true then (cV (f_Y_solves k0 (sI h_1 k_7 (Int32.toNatClampNeg (x_9 - (1 : Int32))) (0 : Int32))) fun h_10 =>
          if x1 = (-4 : Int32) then
          ((f_Y_loosen_76 k0 x1 x2 x3 x_2 h_10))
          else
          (oo none (hR h_10 8 k0 16) fun k_11 =>
            oo none (hA h_10 k_11 x_2) fun x_12 =>
            if x2 ≤ x_12 then
            (if (0 : Int32) = 0 then
              ((f_Y_loosen_93 k0 x2 x3 x_2 (0 : Int32) x1 h_10))
              else
              ((f_Y_loosen_93 k0 x2 x3 x_2 (0 : Int32) x3 h_10)))
            else
            ((f_Y_loosen_76 k0 x1 x2 x3 x_2 h_10)))) else none)
          else none)
        else
        ((f_Y_loosen_7 k0 x1 x2 (x3 + 1) h_1)))) else none) := (exq_run (M := M_169) rfl 47 _ _ _ _).symm.trans rfl
theorem e_Y_loosen_76 (k0 : Nat) (x1 : Int32) (x2 : Int32) (x3 : Int32) (x4 : Int32) (h : pH) : f_Y_loosen_76 k0 x1 x2 x3 x4 h =
    if (1 : Int32) = 0 then
    ((f_Y_loosen_93 k0 x2 x3 x4 (1 : Int32) x1 h))
    else
    ((f_Y_loosen_93 k0 x2 x3 x4 (1 : Int32) x3 h)) := (exq_run (M := M_169) rfl 8 _ _ _ _).symm.trans rfl
theorem e_Y_loosen_93 (k0 : Nat) (x2 : Int32) (x3 : Int32) (x4 : Int32) (x5 : Int32) (t0 : Int32) (h : pH) : f_Y_loosen_93 k0 x2 x3 x4 x5 t0 h =
    if x5 = 0 then
    ((f_Y_loosen_7 k0 t0 x2 (x3 + 1) h))
    else
    (oo none (hR h 8 k0 16) fun k_1 =>
      oo none (hA h k_1 x4) fun x_2 =>
      (f_Y_loosen_7 k0 t0 x_2 (x3 + 1) h)) := (exq_run (M := M_169) rfl 12 _ _ _ _).symm.trans rfl
noncomputable def f_Y_undo (k0 : Nat) (h : pH) : pR := run pMs none 172 0 [some (.ref k0)] [] h
noncomputable def f_Y_undo_22 (k0 : Nat) (x1 : Int32) (h : pH) : pR := run pMs none 172 22 [some (.ref k0), some (.int x1)] [] h
theorem e_Y_undo (k0 : Nat) (h : pH) : f_Y_undo k0 h =
    oo none (hI h 8 k0 2) fun x_1 =>
    if x_1 = 0 then
    (rI (-2 : Int32) h)
    else
    (oo none (hI h 8 k0 2) fun x_2 =>
      if kO h 8 k0 = true then
      ((f_Y_undo_22 k0 (0 : Int32) (sI h k0 2 (x_2 - (1 : Int32)))))
      else none) := (exq_run (M := M_172) rfl 12 _ _ _ _).symm.trans rfl
set_option maxRecDepth 100000 in
theorem e_Y_undo_22 (k0 : Nat) (x1 : Int32) (h : pH) : f_Y_undo_22 k0 x1 h =
    if (26 : Int32) ≤ x1 then
    (oo none (hI h 8 k0 2) fun x_1 =>
      rI x_1 h)
    else
    (oo none (hR h 8 k0 0) fun k_2 =>
      oo none (hR h 8 k0 1) fun k_3 =>
      oo none (hI h 8 k0 2) fun x_4 =>
      oo none (hA h k_3 (((26 : Int32) * x_4) + x1)) fun x_5 =>
      if bA h k_2 x1 = true then
      ((f_Y_undo_22 k0 (x1 + 1) (sI h k_2 (Int32.toNatClampNeg x1) x_5)))
      else none) := (exq_run (M := M_172) rfl 19 _ _ _ _).symm.trans rfl
noncomputable def f_Y_save (k0 : Nat) (h : pH) : pR := run pMs none 174 0 [some (.ref k0)] [] h
noncomputable def f_Y_save_2 (k0 : Nat) (x1 : Int32) (h : pH) : pR := run pMs none 174 2 [some (.ref k0), some (.int x1)] [] h
theorem e_Y_save (k0 : Nat) (h : pH) : f_Y_save k0 h =
    (f_Y_save_2 k0 (0 : Int32) h) := (exq_run (M := M_174) rfl 3 _ _ _ _).symm.trans rfl
set_option maxRecDepth 100000 in
theorem e_Y_save_2 (k0 : Nat) (x1 : Int32) (h : pH) : f_Y_save_2 k0 x1 h =
    if (26 : Int32) ≤ x1 then
    (if kO h 8 k0 = true ∧ ((1 : Int32) = 0 ∨ (1 : Int32) = 1) then
      (if kO (sI h k0 4 (1 : Int32)) 8 k0 = true then (cI (f_Y_rankNow k0 (sI h k0 4 (1 : Int32))) fun x_2 h_1 =>
      rI x_2 h_1) else none)
      else none)
    else
    (oo none (hR h 8 k0 3) fun k_3 =>
      oo none (hR h 8 k0 0) fun k_4 =>
      oo none (hA h k_4 x1) fun x_5 =>
      if bA h k_3 x1 = true then
      ((f_Y_save_2 k0 (x1 + 1) (sI h k_3 (Int32.toNatClampNeg x1) x_5)))
      else none) := (exq_run (M := M_174) rfl 14 _ _ _ _).symm.trans rfl
noncomputable def f_Y_restore (k0 : Nat) (h : pH) : pR := run pMs none 176 0 [some (.ref k0)] [] h
noncomputable def f_Y_restore_16 (k0 : Nat) (x1 : Int32) (h : pH) : pR := run pMs none 176 16 [some (.ref k0), some (.int x1)] [] h
theorem e_Y_restore (k0 : Nat) (h : pH) : f_Y_restore k0 h =
    oo none (hI h 8 k0 4) fun x_1 =>
    if x_1 = 0 then
    (rI (-2 : Int32) h)
    else
    (if kO h 8 k0 = true then (cV (f_Y_remembers k0 h) fun h_2 =>
      (f_Y_restore_16 k0 (0 : Int32) h_2)) else none) := (exq_run (M := M_176) rfl 8 _ _ _ _).symm.trans rfl
set_option maxRecDepth 100000 in
theorem e_Y_restore_16 (k0 : Nat) (x1 : Int32) (h : pH) : f_Y_restore_16 k0 x1 h =
    if (26 : Int32) ≤ x1 then
    (if kO h 8 k0 = true then (cI (f_Y_rankNow k0 h) fun x_2 h_1 =>
      rI x_2 h_1) else none)
    else
    (oo none (hR h 8 k0 0) fun k_3 =>
      oo none (hR h 8 k0 3) fun k_4 =>
      oo none (hA h k_4 x1) fun x_5 =>
      if bA h k_3 x1 = true then
      ((f_Y_restore_16 k0 (x1 + 1) (sI h k_3 (Int32.toNatClampNeg x1) x_5)))
      else none) := (exq_run (M := M_176) rfl 14 _ _ _ _).symm.trans rfl
end
section
noncomputable def f_X_init (k0 : Nat) (h : pH) : pR := run pMs none 7 0 [some (.ref k0)] [] h
noncomputable def f_Y_init (k0 : Nat) (h : pH) : pR := run pMs none 8 0 [some (.ref k0)] [] h
end
section
noncomputable def f_L_law (L : Nat) (xs : Nat → Int32) (h : pH) : pR := run pMs (some (L, xs)) 177 0 [some (.null)] [] h
noncomputable def f_L_law_18 (L : Nat) (xs : Nat → Int32) (k1 : Nat) (k2 : Nat) (x3 : Int32) (h : pH) : pR := run pMs (some (L, xs)) 177 18 [some (.null), some (.ref k1), some (.ref k2), some (.int x3)] [] h
noncomputable def f_L_law_283 (L : Nat) (xs : Nat → Int32) (k1 : Nat) (k2 : Nat) (x3 : Int32) (t0 : Nat) (t1 : Int32) (t2 : Int32) (h : pH) : pR := run pMs (some (L, xs)) 177 283 [some (.null), some (.ref k1), some (.ref k2), some (.int x3)] [.int t2, .int t1, .ref t0] h
noncomputable def f_L_law_636 (L : Nat) (xs : Nat → Int32) (k1 : Nat) (k2 : Nat) (x3 : Int32) (t0 : Nat) (t1 : Int32) (h : pH) : pR := run pMs (some (L, xs)) 177 636 [some (.null), some (.ref k1), some (.ref k2), some (.int x3)] [.int t1, .ref t0] h
noncomputable def f_L_law_658 (L : Nat) (xs : Nat → Int32) (k1 : Nat) (k2 : Nat) (x3 : Int32) (t0 : Int32) (t1 : Nat) (t2 : Int32) (h : pH) : pR := run pMs (some (L, xs)) 177 658 [some (.null), some (.ref k1), some (.ref k2), some (.int x3)] [.int t2, .ref t1, .int t0] h
set_option maxRecDepth 100000 in
theorem e_L_law (L : Nat) (xs : Nat → Int32) (h : pH) : f_L_law L xs h =
    cV (f_X_init (List.length (Prod.fst h)) (nK h (.inl 7))) fun h_1 =>
    cV (f_Y_init (List.length (Prod.fst h_1)) (nK h_1 (.inl 8))) fun h_2 =>
    (f_L_law_18 L xs (List.length (Prod.fst h)) (List.length (Prod.fst h_1)) (0 : Int32) h_2) := (exq_run (M := M_177) rfl 11 _ _ _ _).symm.trans rfl
set_option maxRecDepth 100000 in
theorem e_L_law_18 (L : Nat) (xs : Nat → Int32) (k1 : Nat) (k2 : Nat) (x3 : Int32) (h : pH) : f_L_law_18 L xs k1 k2 x3 h =
    if ((Int32.ofNat L) - (4 : Int32)) < x3 then
    (rI (1 : Int32) h)
    else
    (if inb x3 L = true then
      if ((xs (Int32.toNatClampNeg x3)) &&& (31 : Int32)) = 0 then
      (if inb (x3 + (1 : Int32)) L = true then
        if inb (x3 + (2 : Int32)) L = true then
        if inb (x3 + (3 : Int32)) L = true then
        if kO h 7 k1 = true then (cI (f_X_add k1 (xs (Int32.toNatClampNeg (x3 + (1 : Int32)))) (xs (Int32.toNatClampNeg (x3 + (2 : Int32)))) (xs (Int32.toNatClampNeg (x3 + (3 : Int32)))) h) fun x_2 h_1 =>
        if inb (x3 + (1 : Int32)) L = true then
        if inb (x3 + (2 : Int32)) L = true then
        if inb (x3 + (3 : Int32)) L = true then
        if kO h_1 8 k2 = true then (cI (f_Y_add k2 (xs (Int32.toNatClampNeg (x3 + (1 : Int32)))) (xs (Int32.toNatClampNeg (x3 + (2 : Int32)))) (xs (Int32.toNatClampNeg (x3 + (3 : Int32)))) h_1) fun x_4 h_3 =>
        if x_2 = x_4 then
        ((f_L_law_18 L xs k1 k2 (x3 + 4) h_3))
        else
        (rI (0 : Int32) h_3)) else none
        else none
        else none
        else none) else none
        else none
        else none
        else none)
      else if ((xs (Int32.toNatClampNeg x3)) &&& (31 : Int32)) = 1 then
      (if inb (x3 + (1 : Int32)) L = true then
        if kO h 7 k1 = true then (cI (f_X_remove k1 (xs (Int32.toNatClampNeg (x3 + (1 : Int32)))) h) fun x_6 h_5 =>
        if inb (x3 + (1 : Int32)) L = true then
        if kO h_5 8 k2 = true then (cI (f_Y_remove k2 (xs (Int32.toNatClampNeg (x3 + (1 : Int32)))) h_5) fun x_8 h_7 =>
        if x_6 = x_8 then
        ((f_L_law_18 L xs k1 k2 (x3 + 4) h_7))
        else
        (rI (0 : Int32) h_7)) else none
        else none) else none
        else none)
      else if ((xs (Int32.toNatClampNeg x3)) &&& (31 : Int32)) = 2 then
      (if inb (x3 + (1 : Int32)) L = true then
        if kO h 7 k1 = true then (cI (f_X_stick k1 (xs (Int32.toNatClampNeg (x3 + (1 : Int32)))) h) fun x_10 h_9 =>
        if inb (x3 + (1 : Int32)) L = true then
        if kO h_9 8 k2 = true then (cI (f_Y_stick k2 (xs (Int32.toNatClampNeg (x3 + (1 : Int32)))) h_9) fun x_12 h_11 =>
        if x_10 = x_12 then
        ((f_L_law_18 L xs k1 k2 (x3 + 4) h_11))
        else
        (rI (0 : Int32) h_11)) else none
        else none) else none
        else none)
      else if ((xs (Int32.toNatClampNeg x3)) &&& (31 : Int32)) = 3 then
      (if inb (x3 + (1 : Int32)) L = true then
        if kO h 7 k1 = true then (cI (f_X_pull k1 (xs (Int32.toNatClampNeg (x3 + (1 : Int32)))) h) fun x_14 h_13 =>
        if inb (x3 + (1 : Int32)) L = true then
        if kO h_13 8 k2 = true then (cI (f_Y_pull k2 (xs (Int32.toNatClampNeg (x3 + (1 : Int32)))) h_13) fun x_16 h_15 =>
        if x_14 = x_16 then
        ((f_L_law_18 L xs k1 k2 (x3 + 4) h_15))
        else
        (rI (0 : Int32) h_15)) else none
        else none) else none
        else none)
      else if ((xs (Int32.toNatClampNeg x3)) &&& (31 : Int32)) = 4 then
      (if inb (x3 + (1 : Int32)) L = true then
        if inb (x3 + (2 : Int32)) L = true then
        if (xs (Int32.toNatClampNeg (x3 + (2 : Int32)))) = 0 then
        ((f_L_law_283 L xs k1 k2 x3 k1 (xs (Int32.toNatClampNeg (x3 + (1 : Int32)))) (0 : Int32) h))
        else
        ((f_L_law_283 L xs k1 k2 x3 k1 (xs (Int32.toNatClampNeg (x3 + (1 : Int32)))) (1 : Int32) h))
        else none
        else none)
      else if ((xs (Int32.toNatClampNeg x3)) &&& (31 : Int32)) = 5 then
      (if inb (x3 + (1 : Int32)) L = true then
        if inb (x3 + (2 : Int32)) L = true then
        if kO h 7 k1 = true then (cI (f_X_set k1 (xs (Int32.toNatClampNeg (x3 + (1 : Int32)))) (xs (Int32.toNatClampNeg (x3 + (2 : Int32)))) h) fun x_18 h_17 =>
        if inb (x3 + (1 : Int32)) L = true then
        if inb (x3 + (2 : Int32)) L = true then
        if kO h_17 8 k2 = true then (cI (f_Y_set k2 (xs (Int32.toNatClampNeg (x3 + (1 : Int32)))) (xs (Int32.toNatClampNeg (x3 + (2 : Int32)))) h_17) fun x_20 h_19 =>
        if x_18 = x_20 then
        ((f_L_law_18 L xs k1 k2 (x3 + 4) h_19))
        else
        (rI (0 : Int32) h_19)) else none
        else none
        else none) else none
        else none
        else none)
      else if ((xs (Int32.toNatClampNeg x3)) &&& (31 : Int32)) = 6 then
      (if inb (x3 + (1 : Int32)) L = true then
        if kO h 7 k1 = true then (cI (f_X_append k1 (xs (Int32.toNatClampNeg (x3 + (1 : Int32)))) h) fun x_22 h_21 =>
        if inb (x3 + (1 : Int32)) L = true then
        if kO h_21 8 k2 = true then (cI (f_Y_append k2 (xs (Int32.toNatClampNeg (x3 + (1 : Int32)))) h_21) fun x_24 h_23 =>
        if x_22 = x_24 then
        ((f_L_law_18 L xs k1 k2 (x3 + 4) h_23))
        else
        (rI (0 : Int32) h_23)) else none
        else none) else none
        else none)
      else if ((xs (Int32.toNatClampNeg x3)) &&& (31 : Int32)) = 7 then
      (if kO h 7 k1 = true then (cI (f_X_clear k1 h) fun x_26 h_25 =>
        if kO h_25 8 k2 = true then (cI (f_Y_clear k2 h_25) fun x_28 h_27 =>
        if x_26 = x_28 then
        ((f_L_law_18 L xs k1 k2 (x3 + 4) h_27))
        else
        (rI (0 : Int32) h_27)) else none) else none)
      else if ((xs (Int32.toNatClampNeg x3)) &&& (31 : Int32)) = 8 then
      (if inb (x3 + (1 : Int32)) L = true then
        if kO h 7 k1 = true then (cI (f_X_fault k1 (xs (Int32.toNatClampNeg (x3 + (1 : Int32)))) h) fun x_30 h_29 =>
        if inb (x3 + (1 : Int32)) L = true then
        if kO h_29 8 k2 = true then (cI (f_Y_fault k2 (xs (Int32.toNatClampNeg (x3 + (1 : Int32)))) h_29) fun x_32 h_31 =>
        if x_30 = x_32 then
        ((f_L_law_18 L xs k1 k2 (x3 + 4) h_31))
        else
        (rI (0 : Int32) h_31)) else none
        else none) else none
        else none)
      else if ((xs (Int32.toNatClampNeg x3)) &&& (31 : Int32)) = 9 then
      (if kO h 7 k1 = true then (cI (f_X_arrange k1 h) fun x_34 h_33 =>
        if kO h_33 8 k2 = true then (cI (f_Y_arrange k2 h_33) fun x_36 h_35 =>
        if x_34 = x_36 then
        ((f_L_law_18 L xs k1 k2 (x3 + 4) h_35))
        else
        (rI (0 : Int32) h_35)) else none) else none)
      else if ((xs (Int32.toNatClampNeg x3)) &&& (31 : Int32)) = 10 then
      (if kO h 7 k1 = true then (cI (f_X_run k1 h) fun x_38 h_37 =>
        if kO h_37 8 k2 = true then (cI (f_Y_run k2 h_37) fun x_40 h_39 =>
        if x_38 = x_40 then
        ((f_L_law_18 L xs k1 k2 (x3 + 4) h_39))
        else
        (rI (0 : Int32) h_39)) else none) else none)
      else if ((xs (Int32.toNatClampNeg x3)) &&& (31 : Int32)) = 11 then
      (if inb (x3 + (1 : Int32)) L = true then
        if inb (x3 + (2 : Int32)) L = true then
        if kO h 7 k1 = true then (cI (f_X_at k1 (xs (Int32.toNatClampNeg (x3 + (1 : Int32)))) (xs (Int32.toNatClampNeg (x3 + (2 : Int32)))) h) fun x_42 h_41 =>
        if inb (x3 + (1 : Int32)) L = true then
        if inb (x3 + (2 : Int32)) L = true then
        if kO h_41 8 k2 = true then (cI (f_Y_at k2 (xs (Int32.toNatClampNeg (x3 + (1 : Int32)))) (xs (Int32.toNatClampNeg (x3 + (2 : Int32)))) h_41) fun x_44 h_43 =>
        if x_42 = x_44 then
        ((f_L_law_18 L xs k1 k2 (x3 + 4) h_43))
        else
        (rI (0 : Int32) h_43)) else none
        else none
        else none) else none
        else none
        else none)
      else if ((xs (Int32.toNatClampNeg x3)) &&& (31 : Int32)) = 12 then
      (if inb (x3 + (1 : Int32)) L = true then
        if kO h 7 k1 = true then (cI (f_X_whyNot k1 (xs (Int32.toNatClampNeg (x3 + (1 : Int32)))) h) fun x_46 h_45 =>
        if inb (x3 + (1 : Int32)) L = true then
        if kO h_45 8 k2 = true then (cI (f_Y_whyNot k2 (xs (Int32.toNatClampNeg (x3 + (1 : Int32)))) h_45) fun x_48 h_47 =>
        if x_46 = x_48 then
        ((f_L_law_18 L xs k1 k2 (x3 + 4) h_47))
        else
        (rI (0 : Int32) h_47)) else none
        else none) else none
        else none)
      else if ((xs (Int32.toNatClampNeg x3)) &&& (31 : Int32)) = 13 then
      (if inb (x3 + (1 : Int32)) L = true then
        if kO h 7 k1 = true then (cI (f_X_cost k1 (xs (Int32.toNatClampNeg (x3 + (1 : Int32)))) h) fun x_50 h_49 =>
        if inb (x3 + (1 : Int32)) L = true then
        if kO h_49 8 k2 = true then (cI (f_Y_cost k2 (xs (Int32.toNatClampNeg (x3 + (1 : Int32)))) h_49) fun x_52 h_51 =>
        if x_50 = x_52 then
        ((f_L_law_18 L xs k1 k2 (x3 + 4) h_51))
        else
        (rI (0 : Int32) h_51)) else none
        else none) else none
        else none)
      else if ((xs (Int32.toNatClampNeg x3)) &&& (31 : Int32)) = 14 then
      (if inb (x3 + (1 : Int32)) L = true then
        if kO h 7 k1 = true then (cI (f_X_leads k1 (xs (Int32.toNatClampNeg (x3 + (1 : Int32)))) h) fun x_54 h_53 =>
        if inb (x3 + (1 : Int32)) L = true then
        if kO h_53 8 k2 = true then (cI (f_Y_leads k2 (xs (Int32.toNatClampNeg (x3 + (1 : Int32)))) h_53) fun x_56 h_55 =>
        if x_54 = x_56 then
        ((f_L_law_18 L xs k1 k2 (x3 + 4) h_55))
        else
        (rI (0 : Int32) h_55)) else none
        else none) else none
        else none)
      else if ((xs (Int32.toNatClampNeg x3)) &&& (31 : Int32)) = 15 then
      (if inb (x3 + (1 : Int32)) L = true then
        if inb (x3 + (2 : Int32)) L = true then
        if kO h 7 k1 = true then (cI (f_X_word k1 (xs (Int32.toNatClampNeg (x3 + (1 : Int32)))) (xs (Int32.toNatClampNeg (x3 + (2 : Int32)))) h) fun x_58 h_57 =>
        if inb (x3 + (1 : Int32)) L = true then
        if inb (x3 + (2 : Int32)) L = true then
        if kO h_57 8 k2 = true then (cI (f_Y_word k2 (xs (Int32.toNatClampNeg (x3 + (1 : Int32)))) (xs (Int32.toNatClampNeg (x3 + (2 : Int32)))) h_57) fun x_60 h_59 =>
        if x_58 = x_60 then
        ((f_L_law_18 L xs k1 k2 (x3 + 4) h_59))
        else
        (rI (0 : Int32) h_59)) else none
        else none
        else none) else none
        else none
        else none)
      else if ((xs (Int32.toNatClampNeg x3)) &&& (31 : Int32)) = 16 then
      (if inb (x3 + (1 : Int32)) L = true then
        if kO h 7 k1 = true then (cI (f_X_count k1 (xs (Int32.toNatClampNeg (x3 + (1 : Int32)))) h) fun x_62 h_61 =>
        if inb (x3 + (1 : Int32)) L = true then
        if kO h_61 8 k2 = true then (cI (f_Y_count k2 (xs (Int32.toNatClampNeg (x3 + (1 : Int32)))) h_61) fun x_64 h_63 =>
        if x_62 = x_64 then
        ((f_L_law_18 L xs k1 k2 (x3 + 4) h_63))
        else
        (rI (0 : Int32) h_63)) else none
        else none) else none
        else none)
      else if ((xs (Int32.toNatClampNeg x3)) &&& (31 : Int32)) = 17 then
      (if inb (x3 + (1 : Int32)) L = true then
        if inb (x3 + (2 : Int32)) L = true then
        if kO h 7 k1 = true then (cI (f_X_least k1 (xs (Int32.toNatClampNeg (x3 + (1 : Int32)))) (xs (Int32.toNatClampNeg (x3 + (2 : Int32)))) h) fun x_66 h_65 =>
        if inb (x3 + (1 : Int32)) L = true then
        if inb (x3 + (2 : Int32)) L = true then
        if kO h_65 8 k2 = true then (cI (f_Y_least k2 (xs (Int32.toNatClampNeg (x3 + (1 : Int32)))) (xs (Int32.toNatClampNeg (x3 + (2 : Int32)))) h_65) fun x_68 h_67 =>
        if x_66 = x_68 then
        ((f_L_law_18 L xs k1 k2 (x3 + 4) h_67))
        else
        (rI (0 : Int32) h_67)) else none
        else none
        else none) else none
        else none
        else none)
      else if ((xs (Int32.toNatClampNeg x3)) &&& (31 : Int32)) = 18 then
      (if inb (x3 + (1 : Int32)) L = true then
        if (xs (Int32.toNatClampNeg (x3 + (1 : Int32)))) = 0 then
        ((f_L_law_636 L xs k1 k2 x3 k1 (0 : Int32) h))
        else
        ((f_L_law_636 L xs k1 k2 x3 k1 (1 : Int32) h))
        else none)
      else if ((xs (Int32.toNatClampNeg x3)) &&& (31 : Int32)) = 19 then
      (if inb (x3 + (1 : Int32)) L = true then
        if kO h 7 k1 = true then (cI (f_X_all k1 (xs (Int32.toNatClampNeg (x3 + (1 : Int32)))) h) fun x_70 h_69 =>
        if inb (x3 + (1 : Int32)) L = true then
        if kO h_69 8 k2 = true then (cI (f_Y_all k2 (xs (Int32.toNatClampNeg (x3 + (1 : Int32)))) h_69) fun x_72 h_71 =>
        if x_70 = x_72 then
        ((f_L_law_18 L xs k1 k2 (x3 + 4) h_71))
        else
        (rI (0 : Int32) h_71)) else none
        else none) else none
        else none)
      else if ((xs (Int32.toNatClampNeg x3)) &&& (31 : Int32)) = 20 then
      (if kO h 7 k1 = true then (cD (f_X_mean k1 h) fun d_74 h_73 =>
        if kO h_73 8 k2 = true then (cD (f_Y_mean k2 h_73) fun d_76 h_75 =>
        if (Op.cmpValue (FP.dcmp d_74 d_76) .l) = 0 then
        ((f_L_law_18 L xs k1 k2 (x3 + 4) h_75))
        else
        (if (Op.cmpValue (FP.dcmp d_74 d_74) .l) = 0 then
          (rI (0 : Int32) h_75)
          else
          (if (Op.cmpValue (FP.dcmp d_76 d_76) .l) = 0 then
            (rI (0 : Int32) h_75)
            else
            ((f_L_law_18 L xs k1 k2 (x3 + 4) h_75))))) else none) else none)
      else if ((xs (Int32.toNatClampNeg x3)) &&& (31 : Int32)) = 21 then
      (if inb (x3 + (1 : Int32)) L = true then
        if kO h 7 k1 = true then (cI (f_X_round k1 (xs (Int32.toNatClampNeg (x3 + (1 : Int32)))) h) fun x_78 h_77 =>
        if inb (x3 + (1 : Int32)) L = true then
        if kO h_77 8 k2 = true then (cI (f_Y_round k2 (xs (Int32.toNatClampNeg (x3 + (1 : Int32)))) h_77) fun x_80 h_79 =>
        if x_78 = x_80 then
        ((f_L_law_18 L xs k1 k2 (x3 + 4) h_79))
        else
        (rI (0 : Int32) h_79)) else none
        else none) else none
        else none)
      else if ((xs (Int32.toNatClampNeg x3)) &&& (31 : Int32)) = 22 then
      (if kO h 7 k1 = true then (cI (f_X_loosen k1 h) fun x_82 h_81 =>
        if kO h_81 8 k2 = true then (cI (f_Y_loosen k2 h_81) fun x_84 h_83 =>
        if x_82 = x_84 then
        ((f_L_law_18 L xs k1 k2 (x3 + 4) h_83))
        else
        (rI (0 : Int32) h_83)) else none) else none)
      else if ((xs (Int32.toNatClampNeg x3)) &&& (31 : Int32)) = 23 then
      (if kO h 7 k1 = true then (cI (f_X_undo k1 h) fun x_86 h_85 =>
        if kO h_85 8 k2 = true then (cI (f_Y_undo k2 h_85) fun x_88 h_87 =>
        if x_86 = x_88 then
        ((f_L_law_18 L xs k1 k2 (x3 + 4) h_87))
        else
        (rI (0 : Int32) h_87)) else none) else none)
      else if ((xs (Int32.toNatClampNeg x3)) &&& (31 : Int32)) = 24 then
      (if kO h 7 k1 = true then (cI (f_X_save k1 h) fun x_90 h_89 =>
        if kO h_89 8 k2 = true then (cI (f_Y_save k2 h_89) fun x_92 h_91 =>
        if x_90 = x_92 then
        ((f_L_law_18 L xs k1 k2 (x3 + 4) h_91))
        else
        (rI (0 : Int32) h_91)) else none) else none)
      else if ((xs (Int32.toNatClampNeg x3)) &&& (31 : Int32)) = 25 then
      (if kO h 7 k1 = true then (cI (f_X_restore k1 h) fun x_94 h_93 =>
        if kO h_93 8 k2 = true then (cI (f_Y_restore k2 h_93) fun x_96 h_95 =>
        if x_94 = x_96 then
        ((f_L_law_18 L xs k1 k2 (x3 + 4) h_95))
        else
        (rI (0 : Int32) h_95)) else none) else none)
      else ((f_L_law_18 L xs k1 k2 (x3 + 4) h))
      else none) := (exq_run (M := M_177) rfl 50 _ _ _ _).symm.trans rfl
set_option maxRecDepth 100000 in
theorem e_L_law_283 (L : Nat) (xs : Nat → Int32) (k1 : Nat) (k2 : Nat) (x3 : Int32) (t0 : Nat) (t1 : Int32) (t2 : Int32) (h : pH) : f_L_law_283 L xs k1 k2 x3 t0 t1 t2 h =
    if kO h 7 t0 = true then (cI (f_X_push t0 t1 t2 h) fun x_2 h_1 =>
    if inb (x3 + (1 : Int32)) L = true then
    if inb (x3 + (2 : Int32)) L = true then
    if (xs (Int32.toNatClampNeg (x3 + (2 : Int32)))) = 0 then
    (if kO h_1 8 k2 = true then (cI (f_Y_push k2 (xs (Int32.toNatClampNeg (x3 + (1 : Int32)))) (0 : Int32) h_1) fun x_4 h_3 =>
      if x_2 = x_4 then
      ((f_L_law_18 L xs k1 k2 (x3 + 4) h_3))
      else
      (rI (0 : Int32) h_3)) else none)
    else
    (if kO h_1 8 k2 = true then (cI (f_Y_push k2 (xs (Int32.toNatClampNeg (x3 + (1 : Int32)))) (1 : Int32) h_1) fun x_6 h_5 =>
      if x_2 = x_6 then
      ((f_L_law_18 L xs k1 k2 (x3 + 4) h_5))
      else
      (rI (0 : Int32) h_5)) else none)
    else none
    else none) else none := (exq_run (M := M_177) rfl 20 _ _ _ _).symm.trans rfl
set_option maxRecDepth 100000 in
theorem e_L_law_636 (L : Nat) (xs : Nat → Int32) (k1 : Nat) (k2 : Nat) (x3 : Int32) (t0 : Nat) (t1 : Int32) (h : pH) : f_L_law_636 L xs k1 k2 x3 t0 t1 h =
    if inb (x3 + (2 : Int32)) L = true then
    if kO h 7 t0 = true then (cI (f_X_plan t0 t1 (xs (Int32.toNatClampNeg (x3 + (2 : Int32)))) h) fun x_2 h_1 =>
    if inb (x3 + (1 : Int32)) L = true then
    if (xs (Int32.toNatClampNeg (x3 + (1 : Int32)))) = 0 then
    ((f_L_law_658 L xs k1 k2 x3 x_2 k2 (0 : Int32) h_1))
    else
    ((f_L_law_658 L xs k1 k2 x3 x_2 k2 (1 : Int32) h_1))
    else none) else none
    else none := (exq_run (M := M_177) rfl 16 _ _ _ _).symm.trans rfl
set_option maxRecDepth 100000 in
theorem e_L_law_658 (L : Nat) (xs : Nat → Int32) (k1 : Nat) (k2 : Nat) (x3 : Int32) (t0 : Int32) (t1 : Nat) (t2 : Int32) (h : pH) : f_L_law_658 L xs k1 k2 x3 t0 t1 t2 h =
    if inb (x3 + (2 : Int32)) L = true then
    if kO h 8 t1 = true then (cI (f_Y_plan t1 t2 (xs (Int32.toNatClampNeg (x3 + (2 : Int32)))) h) fun x_2 h_1 =>
    if t0 = x_2 then
    ((f_L_law_18 L xs k1 k2 (x3 + 4) h_1))
    else
    (rI (0 : Int32) h_1)) else none
    else none := (exq_run (M := M_177) rfl 10 _ _ _ _).symm.trans rfl
end
section
/-! numbers: ints that are written as Nat -/
theorem i_add (a b : Nat) : nI a + nI b = nI (a + b) := (Int32.ofNat_add a b).symm
theorem i_mul (a b : Nat) : nI a * nI b = nI (a * b) := (Int32.ofNat_mul a b).symm
theorem i_toInt {a : Nat} (h : a < 2147483648) : (nI a).toInt = (a : Int) := nI_toInt h
theorem i_inj {a b : Nat} (ha : a < 2147483648) (hb : b < 2147483648) : nI a = nI b ↔ a = b := by
  constructor
  · intro h
    have h1 := congrArg Int32.toInt h
    rw [i_toInt ha, i_toInt hb] at h1
    omega
  · rintro rfl; rfl
theorem i_le {a b : Nat} (ha : a < 2147483648) (hb : b < 2147483648) : nI a ≤ nI b ↔ a ≤ b := by
  rw [Int32.le_iff_toInt_le, i_toInt ha, i_toInt hb]
  omega
theorem i_lt {a b : Nat} (ha : a < 2147483648) (hb : b < 2147483648) : nI a < nI b ↔ a < b := by
  rw [Int32.lt_iff_toInt_lt, i_toInt ha, i_toInt hb]
  omega
theorem i_sub {a b : Nat} (h : b ≤ a) : nI a - nI b = nI (a - b) := by
  have h1 := i_add (a - b) b
  rw [Nat.sub_add_cancel h] at h1
  rw [← h1, Int32.add_sub_cancel]
theorem i_clamp {a : Nat} (h : a < 2147483648) : (nI a).toNatClampNeg = a := nI_clamp h
theorem i_nneg {a : Nat} (h : a < 2147483648) : ¬ nI a < 0 := by
  rw [Int32.lt_iff_toInt_lt, i_toInt h, Int32.toInt_zero]
  omega
theorem i_div {a b : Nat} (ha : a < 2147483648) (hb : b < 2147483648) : nI a / nI b = nI (a / b) := by
  apply Int32.toInt_inj.mp
  rw [Int32.toInt_div, i_toInt ha, i_toInt hb, i_toInt (Nat.lt_of_le_of_lt (Nat.div_le_self a b) ha), Int.tdiv_eq_ediv_of_nonneg (by omega)]
  have h1 : ((a : Int) / (b : Int)) = ((a / b : Nat) : Int) := by simp
  rw [h1]
  have h2 : a / b ≤ a := Nat.div_le_self a b
  generalize a / b = q at h2 ⊢
  exact Int.bmod_eq_of_le (by omega) (by omega)
theorem i_bv (a : Nat) : (nI a).toBitVec = BitVec.ofNat 32 a := rfl
theorem i_and (a b : Nat) : nI a &&& nI b = nI (a &&& b) := by
  apply Int32.toBitVec_inj.mp
  rw [Int32.toBitVec_and, i_bv, i_bv, i_bv]
  apply BitVec.eq_of_toNat_eq
  simp [Nat.and_mod_two_pow]
theorem i_or (a b : Nat) : nI a ||| nI b = nI (a ||| b) := by
  apply Int32.toBitVec_inj.mp
  rw [Int32.toBitVec_or, i_bv, i_bv, i_bv]
  apply BitVec.eq_of_toNat_eq
  simp [Nat.or_mod_two_pow]
theorem i_xor (a b : Nat) : nI a ^^^ nI b = nI (a ^^^ b) := by
  apply Int32.toBitVec_inj.mp
  rw [Int32.toBitVec_xor, i_bv, i_bv, i_bv]
  apply BitVec.eq_of_toNat_eq
  simp [Nat.xor_mod_two_pow]
theorem smod32 : ∀ s, s < 32 → (BitVec.ofNat 32 s).smod 32 = BitVec.ofNat 32 s := by decide
theorem i_shl {a s : Nat} (hs : s < 32) : nI a <<< (nI s &&& 31) = nI (a <<< s) := by
  rw [show (31 : Int32) = nI 31 from rfl, i_and, show s &&& 31 = s from by
    rw [show (31 : Nat) = 2 ^ 5 - 1 from rfl, Nat.and_two_pow_sub_one_eq_mod]
    omega]
  apply Int32.toBitVec_inj.mp
  rw [Int32.toBitVec_shiftLeft, i_bv, i_bv, i_bv, smod32 s hs, BitVec.shiftLeft_eq']
  apply BitVec.eq_of_toNat_eq
  have h2 : s % 4294967296 = s := by omega
  simp [BitVec.toNat_shiftLeft, h2, Nat.shiftLeft_eq, Nat.mod_mul_mod]
theorem and31 {s : Nat} (hs : s < 32) : s &&& 31 = s := by
  rw [show (31 : Nat) = 2 ^ 5 - 1 from rfl, Nat.and_two_pow_sub_one_eq_mod]
  omega
theorem i_ius {a s : Nat} (ha : a < 2147483648) (hs : s < 32) : ius (nI a) (nI s) = nI (a >>> s) := by
  apply Int32.toBitVec_inj.mp
  have h1 : (ius (nI a) (nI s)).toBitVec = (nI a).toBitVec >>> (((nI s).toBitVec &&& 31#32) % 32#32) := rfl
  rw [h1, i_bv, i_bv, i_bv, BitVec.ushiftRight_eq']
  apply BitVec.eq_of_toNat_eq
  have h2 : s % 4294967296 = s := by omega
  have h3 : a % 4294967296 = a := by omega
  have h4 : s % 32 = s := by omega
  have h5 : a >>> s ≤ a := by rw [Nat.shiftRight_eq_div_pow]; exact Nat.div_le_self _ _
  simp [h2, h3, and31 hs, h4]
  exact (Nat.mod_eq_of_lt (Nat.lt_of_le_of_lt h5 (by omega))).symm
theorem i_m1 {a b : Nat} (ha : a < 2097152) (hb : b < 2097152) : nI a &&& (nI b ^^^ (-1 : Int32)) = nI (a &&& (b ^^^ 2097151)) := by
  apply Int32.toBitVec_inj.mp
  rw [Int32.toBitVec_and, Int32.toBitVec_xor, i_bv, i_bv, i_bv, show (-1 : Int32).toBitVec = BitVec.ofNat 32 (2 ^ 32 - 1) from by decide]
  apply BitVec.eq_of_toNat_eq
  have h2 : a % 4294967296 = a := by omega
  have h3 : b % 4294967296 = b := by omega
  have h4 : a &&& (b ^^^ 2097151) ≤ a := Nat.and_le_left
  simp only [BitVec.toNat_and, BitVec.toNat_xor, BitVec.toNat_ofNat]
  rw [show 2 ^ 32 = 4294967296 from rfl, h2, h3, Nat.mod_eq_of_lt (show a &&& (b ^^^ 2097151) < 4294967296 by omega)]
  apply Nat.eq_of_testBit_eq
  intro i
  simp only [Nat.testBit_and, Nat.testBit_xor]
  by_cases hi : i < 21
  · rw [show (4294967296 - 1) % 4294967296 = 2 ^ 32 - 1 from rfl, show 2097151 = 2 ^ 21 - 1 from rfl, Nat.testBit_two_pow_sub_one, Nat.testBit_two_pow_sub_one]
    simp [hi, show i < 32 by omega]
  · have h5 : a.testBit i = false := Nat.testBit_lt_two_pow (Nat.lt_of_lt_of_le ha (show 2 ^ 21 ≤ 2 ^ i from Nat.pow_le_pow_right (by omega) (by omega)))
    simp [h5]
theorem i_subneg {a b : Nat} (h : a < b) (hb : b < 2147483648) : nI a - nI b < 0 := by
  rw [Int32.lt_iff_toInt_lt, Int32.toInt_sub, i_toInt (by omega), i_toInt hb, Int32.toInt_zero, Int.bmod_eq_of_le (by omega) (by omega)]
  omega
/-! words: seven places of three bits -/
def sl (P p : Nat) : Nat := P >>> (3 * p) &&& 7
def wsl (P p s : Nat) : Nat := (P &&& ((7 <<< (3 * p)) ^^^ 2097151)) ||| (s <<< (3 * p))
theorem sl_lt (P p : Nat) : sl P p < 8 := by
  have : sl P p ≤ 7 := Nat.and_le_right
  omega
theorem t7 (i : Nat) : Nat.testBit 7 i = decide (i < 3) := Nat.testBit_two_pow_sub_one (n := 3) (i := i)
theorem t21 (i : Nat) : Nat.testBit 2097151 i = decide (i < 21) := Nat.testBit_two_pow_sub_one (n := 21) (i := i)
theorem sl_bit (P p i : Nat) : (sl P p).testBit i = (P.testBit (3 * p + i) && decide (i < 3)) := by
  unfold sl
  rw [Nat.testBit_and, Nat.testBit_shiftRight, t7]
theorem big {n i k : Nat} (h : n < 2 ^ k) (hi : k ≤ i) : n.testBit i = false := Nat.testBit_lt_two_pow (Nat.lt_of_lt_of_le h (Nat.pow_le_pow_right (by omega) hi))
theorem wsl_bit {P p s i : Nat} : (wsl P p s).testBit i = ((P.testBit i && ((decide (3 * p ≤ i) && decide (i - 3 * p < 3)) != decide (i < 21))) || (decide (3 * p ≤ i) && s.testBit (i - 3 * p))) := by
  unfold wsl
  rw [Nat.testBit_or, Nat.testBit_and, Nat.testBit_xor, Nat.testBit_shiftLeft, Nat.testBit_shiftLeft, t7, t21]
theorem sl_wsl {P p s q : Nat} (hp : p < 7) (hq : q < 7) (hs : s < 8) : sl (wsl P p s) q = if q = p then s else sl P q := by
  apply Nat.eq_of_testBit_eq
  intro i
  rw [sl_bit, wsl_bit]
  by_cases hi : i < 3
  · by_cases hqp : q = p
    · subst hqp
      rw [if_pos rfl]
      have h1 : 3 * q ≤ 3 * q + i := by omega
      have h2 : 3 * q + i - 3 * q = i := by omega
      have h3 : 3 * q + i < 21 := by omega
      simp [h2, h3, hi]
    · rw [if_neg hqp, sl_bit]
      have h3 : 3 * q + i < 21 := by omega
      rcases Nat.lt_or_gt_of_ne hqp with h | h
      · have h4 : ¬ 3 * p ≤ 3 * q + i := by omega
        simp [h3, h4, hi]
      · have h4 : 3 * p ≤ 3 * q + i := by omega
        have h5 : ¬ 3 * q + i - 3 * p < 3 := by omega
        have h6 : s.testBit (3 * q + i - 3 * p) = false := big (k := 3) hs (by omega)
        simp [h3, h5, h6, hi]
  · have h1 : (if q = p then s else sl P q).testBit i = false := by
      by_cases hqp : q = p
      · rw [if_pos hqp]; exact big (k := 3) hs (by omega)
      · rw [if_neg hqp]; exact big (k := 3) (sl_lt P q) (by omega)
    rw [h1]
    simp [hi]
theorem lt_21 {n : Nat} (h : ∀ i, 21 ≤ i → n.testBit i = false) : n < 2097152 := Nat.lt_pow_two_of_testBit n h
theorem wsl_lt {P p s : Nat} (hP : P < 2097152) (hp : p < 7) (hs : s < 8) : wsl P p s < 2097152 := by
  apply lt_21
  intro i hi
  rw [wsl_bit, big (n := P) (k := 21) hP hi]
  have h6 : s.testBit (i - 3 * p) = false := big (k := 3) hs (by omega)
  simp [h6]
theorem sl_ext {P Q : Nat} (hP : P < 2097152) (hQ : Q < 2097152) (h : ∀ q, q < 7 → sl P q = sl Q q) : P = Q := by
  apply Nat.eq_of_testBit_eq
  intro i
  by_cases hi : i < 21
  · have h1 := congrArg (fun n => n.testBit (i % 3)) (h (i / 3) (by omega))
    simp only [sl_bit] at h1
    rw [show 3 * (i / 3) + i % 3 = i by omega] at h1
    simpa [show i % 3 < 3 by omega] using h1
  · rw [big (n := P) (k := 21) hP (by omega), big (n := Q) (k := 21) hQ (by omega)]
end
section
/-! what the static methods of the class answer -/
theorem cI_v {x : Int32} {h : pH} {K : Int32 → pH → pR} : cI (rI x h) K = K x h := rfl
theorem cV_v {h : pH} {K : pH → pR} : cV (rV h) K = K h := rfl
theorem cR_v {k : Nat} {h : pH} {K : Nat → pH → pR} : cR (rR k h) K = K k h := rfl
theorem cD_v {d : UInt64} {h : pH} {K : UInt64 → pH → pR} : cD (rD d h) K = K d h := rfl
theorem L0 : (0 : Int32) = nI 0 := rfl
theorem L1 : (1 : Int32) = nI 1 := rfl
theorem L2 : (2 : Int32) = nI 2 := rfl
theorem L3 : (3 : Int32) = nI 3 := rfl
theorem L4 : (4 : Int32) = nI 4 := rfl
theorem L5 : (5 : Int32) = nI 5 := rfl
theorem L6 : (6 : Int32) = nI 6 := rfl
theorem L7 : (7 : Int32) = nI 7 := rfl
theorem L8 : (8 : Int32) = nI 8 := rfl
theorem L9 : (9 : Int32) = nI 9 := rfl
theorem L10 : (10 : Int32) = nI 10 := rfl
theorem L13 : (13 : Int32) = nI 13 := rfl
theorem L19 : (19 : Int32) = nI 19 := rfl
theorem L26 : (26 : Int32) = nI 26 := rfl
theorem L60 : (60 : Int32) = nI 60 := rfl
theorem i_pos {a : Nat} (h : a < 2147483648) : (0 : Int32) < nI a ↔ 0 < a := by rw [L0, i_lt (by omega) h]
theorem i_eq0 {a : Nat} (h : a < 2147483648) : nI a = 0 ↔ a = 0 := by rw [L0, i_inj h (by omega)]
theorem i_le0 {a : Nat} (h : a < 2147483648) : nI a ≤ 0 ↔ a = 0 := by rw [L0, i_le h (by omega)]; omega
theorem s_slotAt {P p : Nat} {h : pH} (hP : P < 2097152) (hp : p < 7) : f_N_slotAt (nI P) (nI p) h = rI (nI (sl P p)) h := by
  rw [e_N_slotAt, L3, L7, i_mul, i_ius (by omega) (by omega), i_and]
  rfl
theorem s_withSlot {P p s : Nat} {h : pH} (hP : P < 2097152) (hp : p < 7) (hs : s < 8) : f_N_withSlot (nI P) (nI p) (nI s) h = rI (nI (wsl P p s)) h := by
  have h7 : 7 <<< (3 * p) < 2097152 := by
    apply lt_21
    intro i hi
    rw [Nat.testBit_shiftLeft, t7]
    simp
    omega
  rw [e_N_withSlot, L3, L7, i_mul, i_shl (by omega), i_shl (by omega), i_m1 hP h7, i_or]
  rfl
theorem and1 (n : Nat) : n &&& 1 = if n.testBit 0 then 1 else 0 := by
  rw [Nat.and_one_is_mod, Nat.testBit_zero]
  by_cases h : n % 2 = 1
  · simp [h]
  · simp [h]; omega
theorem s_isIn {S s : Nat} {h : pH} (hS : S < 2147483648) (hs : s < 32) : f_N_isIn (nI S) (nI s) h = rI (nI (if S.testBit s then 1 else 0)) h := by
  rw [e_N_isIn, L1, i_ius hS hs, i_and, and1, Nat.testBit_shiftRight, Nat.add_zero]
  cases S.testBit s
  · rw [if_neg (by decide)]; rfl
  · rw [if_pos (by decide)]; rfl
def gapAt (P q : Nat) : Prop := q < 7 ∧ sl P q = 0
theorem s_isGap {P q : Nat} {h : pH} (hP : P < 2097152) (hq : q < 100) : f_N_isGap (nI P) (nI q) h = rI (nI (if q < 7 ∧ sl P q = 0 then 1 else 0)) h := by
  rw [e_N_isGap, if_neg (i_nneg (by omega))]
  by_cases h7 : q < 7
  · rw [if_neg (by rw [L7, i_le (by omega) (by omega)]; omega), L3, L7, i_mul, i_ius (by omega) (by omega), i_and]
    have h1 : sl P q < 8 := sl_lt P q
    show (if nI (sl P q) = 0 then _ else _) = _
    by_cases h2 : sl P q = 0
    · rw [if_pos (by rw [h2]; rfl), if_pos ⟨h7, h2⟩]; rfl
    · rw [if_neg (by rw [i_eq0 (by omega)]; exact h2), if_neg (fun k => h2 k.2)]; rfl
  · rw [if_pos (by rw [L7, i_le (by omega) (by omega)]; omega), if_neg (fun k => h7 k.1)]; rfl
theorem s_isGapN {P : Nat} {x : Int32} {h : pH} (hx : x < 0) : f_N_isGap (nI P) x h = rI (nI 0) h := by
  rw [e_N_isGap, if_pos hx]; rfl
/-- the nearest gap beside a place, from a distance on -/
def gB (P p : Nat) : Nat → Nat → Nat
  | _, 0 => p
  | d, k + 1 => if d ≤ p ∧ sl P (p - d) = 0 then p - d else if p + d < 7 ∧ sl P (p + d) = 0 then p + d else gB P p (d + 1) k
def gap (P p : Nat) : Nat := gB P p 1 6
theorem s_gB {P p : Nat} {h : pH} (hP : P < 2097152) (hp : p < 7) : ∀ (k d : Nat), d + k = 7 → f_N_gapBeside_2 (nI P) (nI p) (nI d) h = rI (nI (gB P p d k)) h
  | 0, d, hd => by
    rw [e_N_gapBeside_2, if_pos (by rw [L7, i_le (by omega) (by omega)]; omega)]
    rfl
  | k + 1, d, hd => by
    rw [e_N_gapBeside_2, if_neg (by rw [L7, i_le (by omega) (by omega)]; omega)]
    have h1 : f_N_isGap (nI P) (nI p - nI d) h = rI (nI (if d ≤ p ∧ sl P (p - d) = 0 then 1 else 0)) h := by
      by_cases hdp : d ≤ p
      · rw [i_sub hdp, s_isGap hP (by omega)]
        simp only [hdp, show p - d < 7 by omega, true_and]
      · rw [s_isGapN (i_subneg (by omega) (by omega)), if_neg (fun k => hdp k.1)]
    rw [h1, cI_v]
    unfold gB
    by_cases c1 : d ≤ p ∧ sl P (p - d) = 0
    · rw [if_pos c1, if_pos c1, if_neg (by decide), i_sub c1.1]
    · rw [if_neg c1, if_neg c1, if_pos (by decide), i_add, s_isGap hP (by omega), cI_v]
      by_cases c2 : p + d < 7 ∧ sl P (p + d) = 0
      · rw [if_pos c2, if_pos c2, if_neg (by decide)]
      · rw [if_neg c2, if_neg c2, if_pos (by decide), L1, i_add]
        exact s_gB hP hp k (d + 1) (by omega)
theorem s_gapBeside {P p : Nat} {h : pH} (hP : P < 2097152) (hp : p < 7) : f_N_gapBeside (nI P) (nI p) h = rI (nI (gap P p)) h := by
  rw [e_N_gapBeside]
  exact s_gB hP hp 6 1 rfl
/-- the place of a move -/
def plc (m : Nat) : Nat := if m < 7 then m else if m < 13 then m - 7 else m - 13
theorem plc_lt {m : Nat} (hm : m < 19) : plc m < 7 := by unfold plc; split; omega; split <;> omega
theorem plc_lt6 {m : Nat} (hm : m < 19) (h7 : ¬ m < 7) : plc m < 6 := by unfold plc; rw [if_neg h7]; split <;> omega
theorem s_placeOf {m : Nat} {h : pH} (hm : m < 19) : f_N_placeOf (nI m) h = rI (nI (plc m)) h := by
  rw [e_N_placeOf, plc]
  by_cases h1 : m < 7
  · rw [if_neg (by rw [L7, i_le (by omega) (by omega)]; omega), if_pos h1]
  · rw [if_pos (by rw [L7, i_le (by omega) (by omega)]; omega), if_neg h1]
    by_cases h2 : m < 13
    · rw [if_neg (by rw [L13, i_le (by omega) (by omega)]; omega), if_pos h2, L7, i_sub (by omega)]
    · rw [if_pos (by rw [L13, i_le (by omega) (by omega)]; omega), if_neg h2, L13, i_sub (by omega)]
theorem s_isPull {m : Nat} {h : pH} (hm : m < 19) : f_N_isPull (nI m) h = rI (nI (if m < 7 then 1 else 0)) h := by
  rw [e_N_isPull]
  by_cases h1 : m < 7
  · rw [if_neg (by rw [L7, i_le (by omega) (by omega)]; omega), if_pos h1]; rfl
  · rw [if_pos (by rw [L7, i_le (by omega) (by omega)]; omega), if_neg h1]; rfl
/-- why a move is refused; 0: it isn't -/
def rsn (P S m : Nat) : Nat :=
  if m < 7 then (if sl P m = 0 then 1 else if S.testBit (sl P m) then 2 else 0)
  else if sl P (plc m) = 0 then 3 else if sl P (plc m + 1) = 0 then 3
  else if m < 13 then (if plc m + 2 < 7 ∧ sl P (plc m + 2) = 0 then 0 else 4) else (if 1 ≤ plc m ∧ sl P (plc m - 1) = 0 then 0 else 4)
theorem rsn_lt (P S m : Nat) : rsn P S m < 5 := by unfold rsn; (repeat' split) <;> omega
theorem s_reason {P S m : Nat} {h : pH} (hP : P < 2097152) (hS : S < 2147483648) (hm : m < 19) : f_N_reason (nI P) (nI S) (nI m) h = rI (nI (rsn P S m)) h := by
  have hs := sl_lt P (plc m)
  have hp := plc_lt hm
  rw [e_N_reason, s_placeOf hm, cI_v, s_slotAt hP hp, cI_v, s_isPull hm, cI_v]
  unfold rsn
  by_cases h7 : m < 7
  · have hpm : plc m = m := by unfold plc; rw [if_pos h7]
    rw [if_pos h7, if_pos h7, if_neg (by decide), hpm]
    rw [hpm] at hs
    by_cases h0 : sl P m = 0
    · rw [if_pos h0, h0, if_pos (by decide)]; rfl
    · rw [if_neg (by rw [i_eq0 (by omega)]; exact h0), if_neg h0, s_isIn hS (by omega), cI_v]
      cases S.testBit (sl P m)
      · rw [if_pos (by decide), if_neg (by decide)]; rfl
      · rw [if_neg (by decide), if_pos rfl]; rfl
  · have hp6 := plc_lt6 hm h7
    have hs1 := sl_lt P (plc m + 1)
    rw [if_neg h7, if_neg h7, if_pos (by decide)]
    by_cases h0 : sl P (plc m) = 0
    · rw [if_pos h0, h0, if_pos (by decide)]; rfl
    · rw [if_neg (by rw [i_eq0 (by omega)]; exact h0), if_neg h0, L1, i_add, s_slotAt hP (by omega), cI_v]
      by_cases h1 : sl P (plc m + 1) = 0
      · rw [if_pos h1, h1, if_pos (by decide)]; rfl
      · rw [if_neg (by rw [i_eq0 (by omega)]; exact h1), if_neg h1]
        by_cases h13 : m < 13
        · rw [if_neg (by rw [L13, i_le (by omega) (by omega)]; omega), if_pos h13, L2, i_add, s_isGap hP (by omega), cI_v]
          by_cases h2 : plc m + 2 < 7 ∧ sl P (plc m + 2) = 0
          · rw [if_pos h2, if_pos h2, if_neg (by decide)]; rfl
          · rw [if_neg h2, if_neg h2, if_pos (by decide)]; rfl
        · rw [if_pos (by rw [L13, i_le (by omega) (by omega)]; omega), if_neg h13]
          have h3 : f_N_isGap (nI P) (nI (plc m) - nI 1) h = rI (nI (if 1 ≤ plc m ∧ sl P (plc m - 1) = 0 then 1 else 0)) h := by
            by_cases hdp : 1 ≤ plc m
            · rw [i_sub hdp, s_isGap hP (by omega)]
              simp only [hdp, show plc m - 1 < 7 by omega, true_and]
            · rw [s_isGapN (i_subneg (by omega) (by omega)), if_neg (fun k => hdp k.1)]
          rw [h3, cI_v]
          by_cases h2 : 1 ≤ plc m ∧ sl P (plc m - 1) = 0
          · rw [if_pos h2, if_pos h2, if_neg (by decide)]; rfl
          · rw [if_neg h2, if_neg h2, if_pos (by decide)]; rfl
theorem gB_lt {P p : Nat} (hp : p < 7) : ∀ (k d : Nat), gB P p d k < 7
  | 0, d => hp
  | k + 1, d => by
    unfold gB
    split
    · omega
    · split
      · omega
      · exact gB_lt hp k (d + 1)
theorem gap_lt {P p : Nat} (hp : p < 7) : gap P p < 7 := gB_lt hp 6 1
/-- the word behind a move -/
def aft (P m : Nat) : Nat :=
  if m < 7 then wsl (wsl P m 0) (gap P m) (sl P m)
  else if m < 13 then wsl (wsl (wsl P (plc m) 0) (plc m + 1) (sl P (plc m))) (plc m + 2) (sl P (plc m + 1))
  else wsl (wsl (wsl P (plc m + 1) 0) (plc m - 1) (sl P (plc m))) (plc m) (sl P (plc m + 1))
theorem rsn_push {P S m : Nat} (hm : m < 19) (h7 : ¬ m < 7) (h0 : rsn P S m = 0) : sl P (plc m) ≠ 0 ∧ sl P (plc m + 1) ≠ 0 ∧ (m < 13 → plc m + 2 < 7 ∧ sl P (plc m + 2) = 0) ∧ (¬ m < 13 → 1 ≤ plc m ∧ sl P (plc m - 1) = 0) := by
  unfold rsn at h0
  rw [if_neg h7] at h0
  split at h0
  · omega
  · rename_i h1
    split at h0
    · omega
    · rename_i h2
      split at h0
      · rename_i h3
        split at h0
        · rename_i h4
          exact ⟨h1, h2, fun _ => h4, fun k => absurd h3 k⟩
        · omega
      · rename_i h3
        split at h0
        · rename_i h4
          exact ⟨h1, h2, fun k => absurd k h3, fun _ => h4⟩
        · omega
theorem s_after {P S m : Nat} {h : pH} (hP : P < 2097152) (hm : m < 19) (h0 : rsn P S m = 0) : f_N_after (nI P) (nI m) h = rI (nI (aft P m)) h := by
  have hs := sl_lt P (plc m)
  have hp := plc_lt hm
  rw [e_N_after, s_placeOf hm, cI_v, s_slotAt hP hp, cI_v, s_isPull hm, cI_v]
  unfold aft
  by_cases h7 : m < 7
  · have hpm : plc m = m := by unfold plc; rw [if_pos h7]
    rw [if_pos h7, if_pos h7, if_neg (by decide), hpm, L0, s_withSlot hP h7 (by omega), cI_v, s_gapBeside hP h7, cI_v, s_withSlot (wsl_lt hP h7 (by omega)) (gap_lt h7) (by rw [hpm] at hs; exact hs), cI_v]
  · obtain ⟨h1, h2, h3, h4⟩ := rsn_push hm h7 h0
    have hp6 := plc_lt6 hm h7
    have hs1 := sl_lt P (plc m + 1)
    rw [if_neg h7, if_neg h7, if_pos (by decide), L1, i_add, s_slotAt hP (by omega), cI_v]
    by_cases h13 : m < 13
    · obtain ⟨h5, h6⟩ := h3 h13
      rw [if_neg (by rw [L13, i_le (by omega) (by omega)]; omega), if_pos h13, L0, s_withSlot hP hp (by omega), cI_v, s_withSlot (wsl_lt hP hp (by omega)) (by omega) hs, cI_v, L2, i_add, s_withSlot (wsl_lt (wsl_lt hP hp (by omega)) (by omega) hs) (by omega) hs1, cI_v]
    · obtain ⟨h5, h6⟩ := h4 h13
      rw [if_pos (by rw [L13, i_le (by omega) (by omega)]; omega), if_neg h13, L0, s_withSlot hP (by omega) (by omega), cI_v, i_sub h5, s_withSlot (wsl_lt hP (by omega) (by omega)) (by omega) hs, cI_v, s_withSlot (wsl_lt (wsl_lt hP (by omega) (by omega)) (by omega) hs) hp hs1, cI_v]
end
section
/-! order, disorder -/
def cnt (g : Nat → Bool) : Nat → Nat
  | 0 => 0
  | n + 1 => cnt g n + (g n).toNat
def wrg (f a c : Nat) : Bool := decide (a ≠ 0) && decide (c ≠ 0) && (if f = 1 then decide (a < c) else decide (c < a))
theorem s_isWrong {a c f : Nat} {h : pH} (ha : a < 8) (hc : c < 8) (hf : f < 2) : f_N_isWrong (nI a) (nI c) (nI f) h = rI (nI (wrg f a c).toNat) h := by
  rw [e_N_isWrong, wrg]
  by_cases h1 : a = 0
  · subst h1; rw [if_pos (by decide)]; rfl
  · rw [if_neg (by rw [i_eq0 (by omega)]; exact h1)]
    by_cases h2 : c = 0
    · subst h2; rw [if_pos (by decide)]; simp [L0]
    · rw [if_neg (by rw [i_eq0 (by omega)]; exact h2)]
      by_cases h3 : f = 1
      · subst h3
        rw [if_pos (by decide)]
        by_cases h4 : a < c
        · rw [if_neg (by rw [i_le (by omega) (by omega)]; omega)]; simp [h1, h2, h4]; rfl
        · rw [if_pos (by rw [i_le (by omega) (by omega)]; omega)]; simp [h1, h2, h4]; rfl
      · have h5 : f = 0 := by omega
        subst h5
        rw [if_neg (by decide)]
        by_cases h4 : c < a
        · rw [if_neg (by rw [i_le (by omega) (by omega)]; omega)]; simp [h1, h2, h4]; rfl
        · rw [if_pos (by rw [i_le (by omega) (by omega)]; omega)]; simp [h1, h2, h4]; rfl
theorem cnt_le (g : Nat → Bool) : ∀ n, cnt g n ≤ n
  | 0 => Nat.le_refl _
  | n + 1 => by
    have h1 := cnt_le g n
    have h2 : (g n).toNat ≤ 1 := by cases g n <;> decide
    unfold cnt
    omega
def wbf (P p f q : Nat) : Bool := wrg f (if q < p then sl P q else sl P p) (if q < p then sl P p else sl P q)
theorem s_wb {P p f : Nat} {h : pH} (hP : P < 2097152) (hp : p < 7) (hf : f < 2) : ∀ (k q : Nat), q + k = 7 → f_N_wrongBooks_12 (nI P) (nI p) (nI f) (nI (sl P p)) (nI (cnt (wbf P p f) q)) (nI q) h = rI (nI (cnt (wbf P p f) 7)) h
  | 0, q, hq => by
    obtain rfl : q = 7 := by omega
    rw [e_N_wrongBooks_12, if_pos (by decide)]
  | k + 1, q, hq => by
    have hc := cnt_le (wbf P p f) q
    have ih := s_wb (h := h) hP hp hf k (q + 1) (by omega)
    have fin : ∀ b : Bool, wbf P p f q = b → cI (rI (nI b.toNat) h) (fun x_2 h_1 => if x_2 = 0 then f_N_wrongBooks_12 (nI P) (nI p) (nI f) (nI (sl P p)) (nI (cnt (wbf P p f) q)) (nI q + 1) h_1 else f_N_wrongBooks_12 (nI P) (nI p) (nI f) (nI (sl P p)) (nI (cnt (wbf P p f) q) + 1) (nI q + 1) h_1) = rI (nI (cnt (wbf P p f) 7)) h := by
      intro b hb
      rw [cI_v, L1, i_add, i_add]
      rw [show cnt (wbf P p f) (q + 1) = cnt (wbf P p f) q + b.toNat from by rw [← hb]; rfl] at ih
      cases b
      · rw [if_pos (by decide)]; exact ih
      · rw [if_neg (by decide)]; exact ih
    rw [e_N_wrongBooks_12, if_neg (by rw [L7, i_le (by omega) (by omega)]; omega)]
    by_cases hqp : q < p
    · rw [if_neg (by rw [i_le (by omega) (by omega)]; omega), s_slotAt hP (by omega), cI_v, e_N_wrongBooks_35, if_neg (by rw [i_le (by omega) (by omega)]; omega), e_N_wrongBooks_53, s_isWrong (sl_lt _ _) (sl_lt _ _) hf]
      exact fin _ (by unfold wbf; rw [if_pos hqp, if_pos hqp])
    · rw [if_pos (by rw [i_le (by omega) (by omega)]; omega), e_N_wrongBooks_35, if_pos (by rw [i_le (by omega) (by omega)]; omega), s_slotAt hP (by omega), cI_v, e_N_wrongBooks_53, s_isWrong (sl_lt _ _) (sl_lt _ _) hf]
      exact fin _ (by unfold wbf; rw [if_neg hqp, if_neg hqp])
def wb (P p f : Nat) : Nat := cnt (wbf P p f) 7
theorem s_wrongBooks {P p f : Nat} {h : pH} (hP : P < 2097152) (hp : p < 7) (hf : f < 2) : f_N_wrongBooks (nI P) (nI p) (nI f) h = rI (nI (wb P p f)) h := by
  rw [e_N_wrongBooks, s_slotAt hP hp, cI_v]
  exact s_wb hP hp hf 7 0 rfl
def sm (g : Nat → Nat) : Nat → Nat
  | 0 => 0
  | n + 1 => sm g n + g n
theorem sm_le (g : Nat → Nat) (c : Nat) (hg : ∀ i, g i ≤ c) : ∀ n, sm g n ≤ n * c
  | 0 => Nat.zero_le _
  | n + 1 => by
    have h1 := sm_le g c hg n
    have h2 := hg n
    unfold sm
    rw [Nat.succ_mul]
    omega
theorem s_dis {P f : Nat} {h : pH} (hP : P < 2097152) (hf : f < 2) : ∀ (k p : Nat), p + k = 7 → f_N_disorder_4 (nI P) (nI f) (nI (sm (fun p => wb P p f) p)) (nI p) h = rI (nI (sm (fun p => wb P p f) 7 / 2)) h
  | 0, p, hp => by
    obtain rfl : p = 7 := by omega
    have h1 := sm_le (fun p => wb P p f) 7 (fun p => cnt_le _ 7) 7
    rw [e_N_disorder_4, if_pos (by decide)]
    generalize sm (fun p => wb P p f) 7 = z at h1 ⊢
    have h2 : ∀ z, z < 50 → nI z >>> ((1 : Int32) &&& 31) = nI (z / 2) := by decide
    rw [h2 z (by omega)]
  | k + 1, p, hp => by
    rw [e_N_disorder_4, if_neg (by rw [L7, i_le (by omega) (by omega)]; omega), s_wrongBooks hP (by omega) hf, cI_v, i_add, L1, i_add]
    exact s_dis hP hf k (p + 1) (by omega)
def dis (P f : Nat) : Nat := sm (fun p => wb P p f) 7 / 2
theorem s_disorder {P f : Nat} {h : pH} (hP : P < 2097152) (hf : f < 2) : f_N_disorder (nI P) (nI f) h = rI (nI (dis P f)) h := by
  rw [e_N_disorder]
  exact s_dis hP hf 7 0 rfl
/-- in order: from a place on, the book before it, whether a gap was there -/
def ord (P f c : Nat) : Nat → Nat → Nat → Nat → Bool
  | 0, _, _, _ => true
  | k + 1, p, last, g => if sl P p = 0 then ord P f c k (p + 1) last 1 else if g = 1 ∧ c = 1 then false else if wrg f last (sl P p) then false else ord P f c k (p + 1) (sl P p) g
theorem s_ord {P f c : Nat} {h : pH} (hP : P < 2097152) (hf : f < 2) (hc : c < 2) : ∀ (k p last g : Nat), p + k = 7 → last < 8 → g < 2 → f_N_isInOrder_8 (nI P) (nI f) (nI c) (nI last) (nI g) (nI p) h = rI (nI (ord P f c k p last g).toNat) h
  | 0, p, last, g, hp, hl, hg => by
    rw [e_N_isInOrder_8, if_pos (by rw [L7, i_le (by omega) (by omega)]; omega)]; rfl
  | k + 1, p, last, g, hp, hl, hg => by
    have hs := sl_lt P p
    have h44 : (¬ (g = 1 ∧ c = 1)) → sl P p ≠ 0 → f_N_isInOrder_44 (nI P) (nI f) (nI c) (nI last) (nI g) (nI p) (nI (sl P p)) h = rI (nI (ord P f c (k + 1) p last g).toNat) h := by
      intro h1 h2
      rw [e_N_isInOrder_44, s_isWrong hl hs hf, cI_v]
      unfold ord
      rw [if_neg h2, if_neg h1]
      cases hw : wrg f last (sl P p)
      · rw [if_pos (by decide), if_neg (by decide), L1, i_add]
        exact s_ord hP hf hc k (p + 1) (sl P p) g (by omega) hs hg
      · rw [if_neg (by decide), if_pos (by decide)]; rfl
    rw [e_N_isInOrder_8, if_neg (by rw [L7, i_le (by omega) (by omega)]; omega), s_slotAt hP (by omega), cI_v]
    by_cases h0 : sl P p = 0
    · rw [h0, if_pos (by decide), L1, i_add]
      have ih := s_ord (h := h) hP hf hc k (p + 1) last 1 (by omega) hl (by omega)
      unfold ord
      rw [if_pos h0]
      exact ih
    · rw [if_neg (by rw [i_eq0 (by omega)]; exact h0)]
      by_cases hg0 : g = 0
      · subst hg0
        rw [if_pos (by decide)]
        exact h44 (by omega) h0
      · have : g = 1 := by omega
        subst this
        rw [if_neg (by decide)]
        by_cases hc1 : c = 1
        · subst hc1
          rw [if_pos (by decide)]
          unfold ord
          rw [if_neg h0, if_pos ⟨rfl, rfl⟩]; rfl
        · have : c = 0 := by omega
          subst this
          rw [if_neg (by decide)]
          exact h44 (by omega) h0
def inOrd (P f c : Nat) : Bool := ord P f c 7 0 0 0
theorem s_isInOrder {P f c : Nat} {h : pH} (hP : P < 2097152) (hf : f < 2) (hc : c < 2) : f_N_isInOrder (nI P) (nI f) (nI c) h = rI (nI (inOrd P f c).toNat) h := by
  rw [e_N_isInOrder]
  exact s_ord hP hf hc 7 0 0 0 rfl (by omega) (by omega)
/-! the dictionary -/
def wyL (a x : Nat) : Nat → Nat
  | 0 => a
  | k + 1 => wyL (a * x) (x + 1) k
def wy (g k : Nat) : Nat := wyL 1 (g + 1) k
theorem s_wyL {g k : Nat} {h : pH} (hg : g < 100) (hk : k < 100) : ∀ (j a x : Nat), x + j = g + k + 1 → f_K_ways_6 (nI g) (nI k) (nI a) (nI x) h = rI (nI (wyL a x j)) h
  | 0, a, x, hx => by
    rw [e_K_ways_6, i_add, if_pos (by rw [i_lt (by omega) (by omega)]; omega)]; rfl
  | j + 1, a, x, hx => by
    rw [e_K_ways_6, i_add, if_neg (by rw [i_lt (by omega) (by omega)]; omega), i_mul, L1, i_add]
    exact s_wyL hg hk j (a * x) (x + 1) (by omega)
theorem s_ways {g k : Nat} {h : pH} (hg : g < 100) (hk : k < 100) : f_K_ways (nI g) (nI k) h = rI (nI (wy g k)) h := by
  rw [e_K_ways, L1, i_add]
  exact s_wyL hg hk k 1 (g + 1) (by omega)
def wds (b : Nat) : Nat := wy (7 - b) b
theorem s_wordsOf {b : Nat} {h : pH} (hb : b < 6) : f_K_wordsOf (nI b) h = rI (nI (wds b)) h := by
  rw [e_K_wordsOf, L7, i_sub (by omega), s_ways (by omega) (by omega), cI_v]
  rfl
def pop (n : Nat) : Nat := cnt (fun i => n.testBit i) 6
def bcA (x : Int32) : Int32 := x - (ius x (1 : Int32) &&& (1431655765 : Int32))
def bcB (x : Int32) : Int32 := (x &&& (858993459 : Int32)) + (ius x (2 : Int32) &&& (858993459 : Int32))
def bcC (x : Int32) : Int32 := (x + ius x (4 : Int32)) &&& (252645135 : Int32)
def bcD (x : Int32) : Int32 := x + ius x (8 : Int32)
def bcE (x : Int32) : Int32 := (x + ius x (16 : Int32)) &&& (63 : Int32)
theorem s_bitCount {n : Nat} {h : pH} (hn : n < 64) : f_J_bitCount (nI n) h = rI (nI (pop n)) h := by
  have key : ∀ n, n < 64 → bcE (bcD (bcC (bcB (bcA (nI n))))) = nI (pop n) := by decide +kernel
  rw [e_J_bitCount, ← key n hn]
  rfl
/-- the rank of a word, as the class counts it; none: out of the range that is looked at -/
def rkL (P : Nat) : Nat → Nat → Nat → Nat → Nat → Nat → Option Nat
  | 0, _, _, _, acc, _ => some acc
  | k + 1, g, b, S, acc, p =>
    if sl P p = 0 then (if g = 0 then none else rkL P k (g - 1) b S acc (p + 1))
    else if b = 0 then none else rkL P k g (b - 1) (S &&& ((1 <<< sl P p) ^^^ 2097151)) ((if g = 0 then acc else acc + wy (g - 1) b) + pop (S &&& (1 <<< sl P p) - 1) * wy g (b - 1)) (p + 1)
theorem shl1_lt {s : Nat} (hs : s < 8) : 1 <<< s < 256 := by
  have : ∀ s, s < 8 → 1 <<< s < 256 := by decide
  exact this s hs
theorem shl1_pos {s : Nat} (hs : s < 8) : 1 ≤ 1 <<< s := by
  have : ∀ s, s < 8 → 1 ≤ 1 <<< s := by decide
  exact this s hs
theorem i_dec {a : Nat} (ha : 1 ≤ a) : nI a + (-1 : Int32) = nI (a - 1) := by
  obtain ⟨c, rfl⟩ : ∃ c, a = c + 1 := ⟨a - 1, by omega⟩
  rw [Nat.add_sub_cancel, ← i_add, Int32.add_assoc, show nI 1 + (-1 : Int32) = 0 from rfl, Int32.add_zero]
theorem i_dec1 {a : Nat} (ha : 1 ≤ a) : nI a + -nI 1 = nI (a - 1) := i_dec ha
theorem i_m11 {a b : Nat} (ha : a < 2097152) (hb : b < 2097152) : nI a &&& (nI b ^^^ -nI 1) = nI (a &&& (b ^^^ 2097151)) := i_m1 ha hb
theorem s_rkL {P : Nat} {h : pH} (hP : P < 2097152) : ∀ (k g b S acc p r : Nat), p + k = 7 → g < 8 → b < 8 → S < 64 → rkL P k g b S acc p = some r → f_K_rankOf_22 (nI P) (nI g) (nI b) (nI S) (nI acc) (nI p) h = rI (nI r) h
  | 0, g, b, S, acc, p, r, hp, hg, hb, hS, hr => by
    cases hr
    rw [e_K_rankOf_22, if_pos (by rw [L7, i_le (by omega) (by omega)]; omega)]
  | k + 1, g, b, S, acc, p, r, hp, hg, hb, hS, hr => by
    have hs := sl_lt P p
    unfold rkL at hr
    rw [e_K_rankOf_22, if_neg (by rw [L7, i_le (by omega) (by omega)]; omega), s_slotAt hP (by omega), cI_v]
    by_cases h0 : sl P p = 0
    · rw [if_pos h0] at hr
      split at hr
      · cases hr
      · rename_i hg0
        rw [h0, if_pos (by decide), i_dec (by omega), L1, i_add]
        exact s_rkL hP k (g - 1) b S acc (p + 1) r (by omega) (by omega) hb hS hr
    · rw [if_neg h0] at hr
      rw [if_neg (by rw [i_eq0 (by omega)]; exact h0)]
      split at hr
      · cases hr
      · rename_i hb0
        have hS2 : S &&& ((1 <<< sl P p) ^^^ 2097151) < 64 := Nat.lt_of_le_of_lt Nat.and_le_left hS
        have hS3 : S &&& (1 <<< sl P p) - 1 < 64 := Nat.lt_of_le_of_lt Nat.and_le_left hS
        have h64 : ∀ a, f_K_rankOf_64 (nI P) (nI g) (nI b) (nI S) (nI a) (nI p) (nI (sl P p)) h = f_K_rankOf_22 (nI P) (nI g) (nI (b - 1)) (nI (S &&& ((1 <<< sl P p) ^^^ 2097151))) (nI (a + pop (S &&& (1 <<< sl P p) - 1) * wy g (b - 1))) (nI (p + 1)) h := by
          intro a
          have hs1 := shl1_lt hs
          rw [e_K_rankOf_64, L1, i_shl (by omega), i_sub (shl1_pos hs), i_and, s_bitCount hS3, cI_v, i_dec1 (by omega), s_ways (by omega) (by omega), cI_v, i_m11 (by omega) (by omega), i_mul, i_add, i_add]
        by_cases hg0 : g = 0
        · subst hg0
          rw [if_pos (by decide), h64]
          exact s_rkL hP k 0 (b - 1) _ _ (p + 1) r (by omega) (by omega) (by omega) hS2 (by rw [if_pos rfl] at hr; exact hr)
        · rw [if_neg (by rw [i_le0 (by omega)]; exact hg0), L1, i_sub (by omega), s_ways (by omega) (by omega), cI_v, i_add, h64]
          exact s_rkL hP k g (b - 1) _ _ (p + 1) r (by omega) hg (by omega) hS2 (by rw [if_neg hg0] at hr; exact hr)
def rkC (b P : Nat) : Option Nat := rkL P 7 (7 - b) b ((1 <<< (b + 1)) - 2) 0 0
theorem shlb {b : Nat} (hb : b < 6) : (1 <<< (b + 1)) - 2 < 64 ∧ 2 ≤ 1 <<< (b + 1) := by
  have : ∀ b, b < 6 → (1 <<< (b + 1)) - 2 < 64 ∧ 2 ≤ 1 <<< (b + 1) := by decide
  exact this b hb
theorem s_rankOf {b P r : Nat} {h : pH} (hP : P < 2097152) (hb : b < 6) (hr : rkC b P = some r) : f_K_rankOf (nI P) (nI b) h = rI (nI r) h := by
  rw [e_K_rankOf, L7, i_sub (by omega), L1, i_add, i_shl (by omega), L2, i_sub (shlb hb).2]
  exact s_rkL hP 7 (7 - b) b _ 0 0 r rfl (by omega) (by omega) (shlb hb).1 hr
/-- the slot behind so many lesser ones -/
def sbL (S n : Nat) : Nat → Nat → Nat → Nat
  | 0, _, _ => 0
  | k + 1, ps, s => if S.testBit s then (if ps = n then s else sbL S n k (ps + 1) (s + 1)) else sbL S n k ps (s + 1)
theorem s_sbL {S n : Nat} {h : pH} (hS : S < 64) (hn : n < 100000) : ∀ (k ps s : Nat), s + k = 6 → ps < 100 → ps + k < 100 → f_K_slotBehind_4 (nI S) (nI n) (nI ps) (nI s) h = rI (nI (sbL S n k ps s)) h
  | 0, ps, s, hs, _, _ => by
    rw [e_K_slotBehind_4, if_pos (by rw [L5, i_lt (by omega) (by omega)]; omega)]; rfl
  | k + 1, ps, s, hs, h1, h2 => by
    rw [e_K_slotBehind_4, if_neg (by rw [L5, i_lt (by omega) (by omega)]; omega), s_isIn (by omega) (by omega), cI_v]
    unfold sbL
    cases S.testBit s
    · rw [if_pos (by decide), if_neg (by decide), L1, i_add]
      exact s_sbL hS hn k ps (s + 1) (by omega) h1 (by omega)
    · rw [if_neg (by decide), if_pos rfl]
      by_cases h3 : ps = n
      · rw [if_pos (by rw [h3]), if_pos h3]
      · rw [if_neg (by rw [i_inj (by omega) (by omega)]; exact h3), if_neg h3, L1, i_add, i_add]
        exact s_sbL hS hn k (ps + 1) (s + 1) (by omega) (by omega) (by omega)
theorem s_slotBehind {S n : Nat} {h : pH} (hS : S < 64) (hn : n < 100000) : f_K_slotBehind (nI S) (nI n) h = rI (nI (sbL S n 5 0 1)) h := by
  rw [e_K_slotBehind]
  exact s_sbL hS hn 5 0 1 rfl (by omega) (by omega)
theorem sbL_lt {S n : Nat} : ∀ (k ps s : Nat), s + k = 6 → sbL S n k ps s < 8
  | 0, ps, s, hs => by show 0 < 8; omega
  | k + 1, ps, s, hs => by
    unfold sbL
    split
    · split
      · omega
      · exact sbL_lt k _ _ (by omega)
    · exact sbL_lt k _ _ (by omega)
/-- the word of a rank -/
def wdL : Nat → Nat → Nat → Nat → Nat → Nat → Nat → Option Nat
  | 0, _, _, _, _, P, _ => some P
  | k + 1, g, b, S, rest, P, p =>
    if (if g = 0 then 0 else wy (g - 1) b) ≤ rest then
      (if b = 0 ∨ wy g (b - 1) = 0 ∨ 100000 ≤ wy g (b - 1) then none else
        wdL k g (b - 1) (S &&& ((1 <<< sbL S ((rest - (if g = 0 then 0 else wy (g - 1) b)) / wy g (b - 1)) 5 0 1) ^^^ 2097151)) ((rest - (if g = 0 then 0 else wy (g - 1) b)) - (rest - (if g = 0 then 0 else wy (g - 1) b)) / wy g (b - 1) * wy g (b - 1)) (wsl P p (sbL S ((rest - (if g = 0 then 0 else wy (g - 1) b)) / wy g (b - 1)) 5 0 1)) (p + 1))
    else if g = 0 then none else wdL k (g - 1) b S rest P (p + 1)
theorem s_wdL {h : pH} : ∀ (k g b S rest P p r : Nat), P < 2097152 → p + k = 7 → g < 8 → b < 8 → S < 64 → rest < 100000 → (∀ g b, g < 8 → b < 8 → wy g b < 2147483648) → wdL k g b S rest P p = some r → f_K_wordAt_25 (nI g) (nI b) (nI S) (nI rest) (nI P) (nI p) h = rI (nI r) h
  | 0, g, b, S, rest, P, p, r, hP, hp, hg, hb, hS, hre, hw, hr => by
    cases hr
    rw [e_K_wordAt_25, if_pos (by rw [L7, i_le (by omega) (by omega)]; omega)]
  | k + 1, g, b, S, rest, P, p, r, hP, hp, hg, hb, hS, hre, hw, hr => by
    unfold wdL at hr
    have h47 : ∀ w, (w = if g = 0 then 0 else wy (g - 1) b) → f_K_wordAt_47 (nI g) (nI b) (nI S) (nI rest) (nI P) (nI p) (nI w) h = rI (nI r) h := by
      intro w hww
      rw [← hww] at hr
      have hw1 : w < 2147483648 := by
        rw [hww]
        split
        · omega
        · exact hw _ _ (by omega) hb
      rw [e_K_wordAt_47]
      by_cases hc : w ≤ rest
      · rw [if_pos hc] at hr
        rw [if_pos (by rw [i_le hw1 (by omega)]; exact hc)]
        split at hr
        · cases hr
        · rename_i hn
          have hb0 : 1 ≤ b := by omega
          have hx := hw g (b - 1) hg (by omega)
          have hx0 : wy g (b - 1) ≠ 0 := by omega
          have hd : (rest - w) / wy g (b - 1) ≤ rest - w := Nat.div_le_self _ _
          have hmul : (rest - w) / wy g (b - 1) * wy g (b - 1) ≤ rest - w := Nat.div_mul_le_self _ _
          have hsb := sbL_lt (S := S) (n := (rest - w) / wy g (b - 1)) 5 0 1 rfl
          have hs1 := shl1_lt hsb
          rw [i_dec hb0, s_ways (by omega) (by omega), cI_v, if_neg (by rw [i_le0 hx]; exact hx0), if_neg (by rw [i_eq0 hx]; exact hx0), i_sub hc, i_div (by omega) hx, e_K_wordAt_93, s_slotBehind hS (by omega), cI_v, s_withSlot hP (by omega) hsb, cI_v, L1, i_shl (by omega), i_m11 (by omega) (by omega), i_mul, i_sub hmul, i_add]
          exact s_wdL k g (b - 1) _ _ _ (p + 1) r (wsl_lt hP (by omega) hsb) (by omega) hg (by omega) (Nat.lt_of_le_of_lt Nat.and_le_left hS) (by omega) hw hr
      · rw [if_neg hc] at hr
        rw [if_neg (by rw [i_le hw1 (by omega)]; exact hc)]
        split at hr
        · cases hr
        · rename_i hg0
          rw [i_dec (by omega), L1, i_add]
          exact s_wdL k (g - 1) b S rest P (p + 1) r hP (by omega) (by omega) hb hS hre hw hr
    rw [e_K_wordAt_25, if_neg (by rw [L7, i_le (by omega) (by omega)]; omega)]
    by_cases hg0 : g = 0
    · subst hg0
      rw [if_pos (by decide), L0]
      exact h47 0 (by rw [if_pos rfl])
    · rw [if_neg (by rw [i_le0 (by omega)]; exact hg0), L1, i_sub (by omega), s_ways (by omega) (by omega), cI_v]
      exact h47 _ (by rw [if_neg hg0])
def wdC (b r : Nat) : Option Nat := wdL 7 (7 - b) b ((1 <<< (b + 1)) - 2) r 0 0
theorem wy_lt : ∀ g b, g < 8 → b < 8 → wy g b < 2147483648 := by
  have : ∀ g, g < 8 → ∀ b, b < 8 → wy g b < 2147483648 := by decide +kernel
  exact fun g b h1 h2 => this g h1 b h2
theorem s_wordAt {b r P : Nat} {h : pH} (hb : b < 6) (hr : r < 100000) (hw : wdC b r = some P) : f_K_wordAt (nI r) (nI b) h = rI (nI P) h := by
  rw [e_K_wordAt, L7, i_sub (by omega), L1, i_add, i_shl (by omega), L2, i_sub (shlb hb).2]
  exact s_wdL 7 (7 - b) b _ r 0 0 P (by omega) rfl (by omega) (by omega) (shlb hb).1 hr wy_lt hw
end
section
/-! all words of some number of books, in the order of their ranks -/
def awL : Nat → List Nat → Nat → List (List Nat)
  | 0, ss, g => if ss = [] ∧ g = 0 then [[]] else []
  | k + 1, ss, g => (if g = 0 then [] else (awL k ss (g - 1)).map (fun w => 0 :: w)) ++ ss.flatMap (fun s => (awL k (ss.erase s) g).map (fun w => s :: w))
def pkL : List Nat → Nat
  | [] => 0
  | s :: w => s + 8 * pkL w
def allW (b : Nat) : List Nat := (awL 7 ((List.range b).map (fun s => s + 1)) (7 - b)).map pkL
def cs (P t : Nat) : Nat := cnt (fun p => sl P p == t) 7
def VW (b P : Nat) : Prop := P < 2097152 ∧ (∀ p, p < 7 → sl P p ≤ b) ∧ ∀ s, 1 ≤ s → s ≤ b → cs P s = 1
def vwB (b P : Nat) : Bool := decide (P < 2097152) && ((List.range 7).all fun p => decide (sl P p ≤ b)) && ((List.range b).all fun s => decide (cs P (s + 1) = 1))
theorem vwB_of {b P : Nat} (h : vwB b P = true) : VW b P := by
  simp only [vwB, Bool.and_eq_true, decide_eq_true_eq, List.all_eq_true, List.mem_range] at h
  refine ⟨h.1.1, h.1.2, fun s h1 h2 => ?_⟩
  have h3 := h.2 (s - 1) (by omega)
  rwa [show s - 1 + 1 = s by omega] at h3
def chk (b : Nat) (q : Nat × Nat) : Bool := decide (rkC b q.1 = some q.2) && decide (wdC b q.2 = some q.1) && vwB b q.1
theorem chk_0 : (allW 0).zipIdx.all (chk 0) = true := by decide +kernel
theorem chk_1 : (allW 1).zipIdx.all (chk 1) = true := by decide +kernel
theorem chk_2 : (allW 2).zipIdx.all (chk 2) = true := by decide +kernel
theorem chk_3 : (allW 3).zipIdx.all (chk 3) = true := by decide +kernel
theorem chk_4 : (allW 4).zipIdx.all (chk 4) = true := by decide +kernel
theorem chk_5 : (allW 5).zipIdx.all (chk 5) = true := by decide +kernel
theorem chk_all {b : Nat} (hb : b < 6) : (allW b).zipIdx.all (chk b) = true := by
  match b, hb with
  | 0, _ => exact chk_0
  | 1, _ => exact chk_1
  | 2, _ => exact chk_2
  | 3, _ => exact chk_3
  | 4, _ => exact chk_4
  | 5, _ => exact chk_5
theorem allW_len {b : Nat} (hb : b < 6) : (allW b).length = wds b := by
  have : ∀ b, b < 6 → (allW b).length = wds b := by decide +kernel
  exact this b hb
theorem awL_mem : ∀ (k : Nat) (w ss : List Nat) (g : Nat), w.length = k → (w.filter (fun s => s != 0)).Perm ss → w.count 0 = g → w ∈ awL k ss g
  | 0, w, ss, g, hl, hp, hc => by
    obtain rfl : w = [] := List.eq_nil_of_length_eq_zero hl
    have h1 : ss = [] := List.nil_perm.mp (by simpa using hp)
    subst h1
    subst hc
    simp [awL]
  | k + 1, [], ss, g, hl, hp, hc => by simp at hl
  | k + 1, s :: w, ss, g, hl, hp, hc => by
    have hl' : w.length = k := by simpa using hl
    unfold awL
    rw [List.mem_append]
    by_cases h0 : s = 0
    · subst h0
      have h1 : w.count 0 + 1 = g := by simpa using hc
      refine Or.inl ?_
      rw [if_neg (by omega)]
      exact List.mem_map.mpr ⟨w, awL_mem k w ss (g - 1) hl' (by simpa using hp) (by omega), rfl⟩
    · refine Or.inr ?_
      have h2 : ((s :: w).filter (fun s => s != 0)) = s :: w.filter (fun s => s != 0) := List.filter_cons_of_pos (by simpa using h0)
      rw [h2] at hp
      have h3 := List.cons_perm_iff_perm_erase.mp hp
      rw [List.mem_flatMap]
      refine ⟨s, h3.1, List.mem_map.mpr ⟨w, awL_mem k w (ss.erase s) g hl' h3.2 ?_, rfl⟩⟩
      rw [← hc, List.count_cons_of_ne (by simpa using h0)]
theorem sl_div (P p : Nat) : sl P p = P / 2 ^ (3 * p) % 8 := by
  unfold sl
  rw [Nat.shiftRight_eq_div_pow, show (7 : Nat) = 2 ^ 3 - 1 from rfl, Nat.and_two_pow_sub_one_eq_mod]
theorem pkL_sl {P : Nat} (hP : P < 2097152) : pkL ((List.range 7).map (sl P)) = P := by
  have h : (List.range 7).map (sl P) = [sl P 0, sl P 1, sl P 2, sl P 3, sl P 4, sl P 5, sl P 6] := rfl
  rw [h]
  simp only [pkL, sl_div]
  omega
theorem VW_mem {b P : Nat} (hb : b < 6) (h : VW b P) : P ∈ allW b := by
  obtain ⟨h1, h2, h3⟩ := h
  unfold allW
  refine List.mem_map.mpr ⟨(List.range 7).map (sl P), ?_, pkL_sl h1⟩
  have hcs : ∀ t, List.count t ((List.range 7).map (sl P)) = cs P t := by
    intro t
    have h : (List.range 7).map (sl P) = [sl P 0, sl P 1, sl P 2, sl P 3, sl P 4, sl P 5, sl P 6] := rfl
    rw [h]
    simp only [List.count_cons, List.count_nil, cs, cnt]
    have hb : ∀ c : Bool, (if c = true then 1 else 0) = c.toNat := by decide
    simp only [hb]
    omega
  have hperm : (((List.range 7).map (sl P)).filter (fun s => s != 0)).Perm ((List.range b).map (fun s => s + 1)) := by
    rw [List.perm_iff_count]
    intro t
    by_cases ht0 : t = 0
    · subst ht0
      rw [List.count_eq_zero.mpr (by simp), List.count_eq_zero.mpr (by simp)]
    · rw [List.count_filter (by simpa using ht0), hcs]
      by_cases htb : t ≤ b
      · rw [h3 t (by omega) htb]
        have h9 : ∀ b, b < 6 → ∀ t, t < 6 → 1 ≤ t → t ≤ b → List.count t ((List.range b).map (fun s => s + 1)) = 1 := by decide
        exact (h9 b hb t (by omega) (by omega) htb).symm
      · rw [← hcs, List.count_eq_zero.mpr, List.count_eq_zero.mpr]
        · intro h
          obtain ⟨s, h4, h5⟩ := List.mem_map.mp h
          have := List.mem_range.mp h4
          omega
        · intro h
          obtain ⟨s, h4, h5⟩ := List.mem_map.mp h
          have := h2 s (List.mem_range.mp h4)
          omega
  refine awL_mem 7 _ _ (7 - b) (by simp) hperm ?_
  have h5 := hperm.length_eq
  have h6 := List.length_eq_countP_add_countP (fun s => s != 0) (l := (List.range 7).map (sl P))
  rw [List.length_map, List.length_range] at h5 h6
  rw [← List.countP_eq_length_filter] at h5
  have h7 : List.count 0 ((List.range 7).map (sl P)) = List.countP (fun s => decide ¬(s != 0) = true) ((List.range 7).map (sl P)) := by
    unfold List.count
    congr 1
    funext s
    by_cases hs : s = 0 <;> simp [hs]
  omega
/-- a word has a rank, and the rank its word -/
theorem VW_rank {b P : Nat} (hb : b < 6) (h : VW b P) : ∃ r, r < wds b ∧ rkC b P = some r ∧ wdC b r = some P := by
  obtain ⟨r, hr⟩ := List.getElem?_of_mem (VW_mem hb h)
  have h1 := List.all_eq_true.mp (chk_all hb) (P, r) (List.mem_iff_getElem?.mpr ⟨r, by rw [List.getElem?_zipIdx, hr]; simp⟩)
  simp only [chk, Bool.and_eq_true, decide_eq_true_eq] at h1
  refine ⟨r, ?_, h1.1.1, h1.1.2⟩
  rw [← allW_len hb]
  exact (List.getElem?_eq_some_iff.mp hr).1
theorem rank_VW {b r : Nat} (hb : b < 6) (h : r < wds b) : ∃ P, VW b P ∧ wdC b r = some P ∧ rkC b P = some r := by
  rw [← allW_len hb] at h
  have hr := List.getElem?_eq_getElem h
  generalize (allW b)[r] = P at hr
  have h1 := List.all_eq_true.mp (chk_all hb) (P, r) (List.mem_iff_getElem?.mpr ⟨r, by rw [List.getElem?_zipIdx, hr]; simp⟩)
  simp only [chk, Bool.and_eq_true, decide_eq_true_eq] at h1
  exact ⟨P, vwB_of h1.2, h1.1.2, h1.1.1⟩
def rk (b P : Nat) : Nat := (rkC b P).getD 0
def wd (b r : Nat) : Nat := (wdC b r).getD 0
theorem rk_lt {b P : Nat} (hb : b < 6) (h : VW b P) : rk b P < wds b := by
  obtain ⟨r, h1, h2, h3⟩ := VW_rank hb h
  unfold rk
  rw [h2]
  exact h1
theorem rk_some {b P : Nat} (hb : b < 6) (h : VW b P) : rkC b P = some (rk b P) := by
  obtain ⟨r, h1, h2, h3⟩ := VW_rank hb h
  unfold rk
  rw [h2]
  rfl
theorem wd_rk {b P : Nat} (hb : b < 6) (h : VW b P) : wd b (rk b P) = P := by
  obtain ⟨r, h1, h2, h3⟩ := VW_rank hb h
  unfold rk wd
  rw [h2]
  show (wdC b r).getD 0 = P
  rw [h3]
  rfl
theorem wd_VW {b r : Nat} (hb : b < 6) (h : r < wds b) : VW b (wd b r) := by
  obtain ⟨P, h1, h2, h3⟩ := rank_VW hb h
  unfold wd
  rw [h2]
  exact h1
theorem wd_some {b r : Nat} (hb : b < 6) (h : r < wds b) : wdC b r = some (wd b r) := by
  obtain ⟨P, h1, h2, h3⟩ := rank_VW hb h
  unfold wd
  rw [h2]
  rfl
theorem rk_wd {b r : Nat} (hb : b < 6) (h : r < wds b) : rk b (wd b r) = r := by
  obtain ⟨P, h1, h2, h3⟩ := rank_VW hb h
  unfold rk wd
  rw [h2]
  show (rkC b P).getD 0 = r
  rw [h3]
  rfl
theorem wds_lt {b : Nat} (hb : b < 6) : wds b ≤ 2520 := by
  have : ∀ b, b < 6 → wds b ≤ 2520 := by decide
  exact this b hb
theorem wds_pos {b : Nat} (hb : b < 6) : 0 < wds b := by
  have : ∀ b, b < 6 → 0 < wds b := by decide
  exact this b hb
theorem s_rank {b P : Nat} {h : pH} (hb : b < 6) (hv : VW b P) : f_K_rankOf (nI P) (nI b) h = rI (nI (rk b P)) h := s_rankOf hv.1 hb (rk_some hb hv)
theorem s_word {b r : Nat} {h : pH} (hb : b < 6) (hr : r < wds b) : f_K_wordAt (nI r) (nI b) h = rI (nI (wd b r)) h := s_wordAt hb (by have := wds_lt hb; omega) (wd_some hb hr)
/-! moves keep words words -/
theorem cnt_upd (g : Nat → Bool) (v : Bool) (i : Nat) : ∀ n, i < n → cnt (fun q => if q = i then v else g q) n + (g i).toNat = cnt g n + v.toNat
  | 0, h => by omega
  | n + 1, h => by
    show cnt (fun q => if q = i then v else g q) n + (if n = i then v else g n).toNat + (g i).toNat = cnt g n + (g n).toNat + v.toNat
    by_cases hn : n = i
    · subst hn
      rw [if_pos rfl]
      have h1 : ∀ m, m ≤ n → cnt (fun q => if q = n then v else g q) m = cnt g m := by
        intro m
        induction m with
        | zero => intro _; rfl
        | succ m ih =>
          intro hm
          show cnt _ m + (if m = n then v else g m).toNat = cnt g m + (g m).toNat
          rw [ih (by omega), if_neg (by omega)]
      rw [h1 n (Nat.le_refl _)]
      omega
    · rw [if_neg hn]
      have := cnt_upd g v i n (by omega)
      omega
theorem cnt_congr {g g' : Nat → Bool} : ∀ n, (∀ q, q < n → g q = g' q) → cnt g n = cnt g' n
  | 0, _ => rfl
  | n + 1, h => by
    show cnt g n + (g n).toNat = cnt g' n + (g' n).toNat
    rw [cnt_congr n (fun q hq => h q (by omega)), h n (by omega)]
theorem cs_wsl {P p s t : Nat} (hp : p < 7) (hs : s < 8) : cs (wsl P p s) t + (sl P p == t).toNat = cs P t + (s == t).toNat := by
  have h1 := cnt_upd (fun q => sl P q == t) (s == t) p 7 hp
  have h2 : cs (wsl P p s) t = cnt (fun q => if q = p then (s == t) else (sl P q == t)) 7 := by
    apply cnt_congr
    intro q hq
    rw [sl_wsl hp hq hs]
    by_cases hqp : q = p
    · rw [if_pos hqp, if_pos hqp]
    · rw [if_neg hqp, if_neg hqp]
  rw [h2]
  exact h1
theorem gB_gap {P p : Nat} (hp : p < 7) : ∀ (k d : Nat), d + k = 7 → 1 ≤ d → (∃ q, q < 7 ∧ sl P q = 0 ∧ (q + d ≤ p ∨ p + d ≤ q)) → gB P p d k ≠ p ∧ sl P (gB P p d k) = 0
  | 0, d, hd, h1, ⟨q, h2, h3, h4⟩ => by omega
  | k + 1, d, hd, h1, ⟨q, h2, h3, h4⟩ => by
    unfold gB
    split
    · rename_i h; exact ⟨by omega, h.2⟩
    · rename_i h5
      split
      · rename_i h; exact ⟨by omega, h.2⟩
      · rename_i h6
        refine gB_gap hp k (d + 1) (by omega) (by omega) ⟨q, h2, h3, ?_⟩
        rcases h4 with h4 | h4
        · refine Or.inl ?_
          rcases Nat.lt_or_eq_of_le h4 with h7 | h7
          · omega
          · exact absurd ⟨by omega, by rw [show p - d = q by omega]; exact h3⟩ h5
        · refine Or.inr ?_
          rcases Nat.lt_or_eq_of_le h4 with h7 | h7
          · omega
          · exact absurd ⟨by omega, by rw [h7]; exact h3⟩ h6
theorem gap_at {P p : Nat} (hp : p < 7) (h : ∃ q, q < 7 ∧ sl P q = 0 ∧ q ≠ p) : gap P p ≠ p ∧ sl P (gap P p) = 0 := by
  obtain ⟨q, h1, h2, h3⟩ := h
  exact gB_gap hp 6 1 rfl (by omega) ⟨q, h1, h2, by omega⟩
theorem VW_gap {b P p : Nat} (hb : b < 6) (hv : VW b P) (hp : p < 7) : ∃ q, q < 7 ∧ sl P q = 0 ∧ q ≠ p := by
  refine Classical.byContradiction fun hn => ?_
  have h1 : ∀ q, q < 7 → q ≠ p → sl P q ≠ 0 := fun q h2 h3 h4 => hn ⟨q, h2, h4, h3⟩
  have tot : ∀ q, q < 7 → q ≠ p → 1 ≤ (sl P q == 1).toNat + (sl P q == 2).toNat + (sl P q == 3).toNat + (sl P q == 4).toNat + (sl P q == 5).toNat := by
    intro q h2 h3
    have h4 := h1 q h2 h3
    have h5 := hv.2.1 q h2
    have h6 : sl P q = 1 ∨ sl P q = 2 ∨ sl P q = 3 ∨ sl P q = 4 ∨ sl P q = 5 := by omega
    rcases h6 with h6 | h6 | h6 | h6 | h6 <;> rw [h6] <;> decide
  have hle : ∀ s, 1 ≤ s → cs P s ≤ 1 := by
    intro s hs
    by_cases hsb : s ≤ b
    · rw [hv.2.2 s hs hsb]; omega
    · have : cs P s = 0 := by
        unfold cs
        rw [cnt_congr (g' := fun _ => false) 7 (fun q hq => by
          have := hv.2.1 q hq
          simp only [beq_eq_false_iff_ne, ne_eq]
          omega)]
        rfl
      omega
  have c1 := hle 1 (by omega)
  have c2 := hle 2 (by omega)
  have c3 := hle 3 (by omega)
  have c4 := hle 4 (by omega)
  have c5 := hle 5 (by omega)
  simp only [cs, cnt] at c1 c2 c3 c4 c5
  have t0 := tot 0 (by omega)
  have t1 := tot 1 (by omega)
  have t2 := tot 2 (by omega)
  have t3 := tot 3 (by omega)
  have t4 := tot 4 (by omega)
  have t5 := tot 5 (by omega)
  have t6 := tot 6 (by omega)
  have hp' : p = 0 ∨ p = 1 ∨ p = 2 ∨ p = 3 ∨ p = 4 ∨ p = 5 ∨ p = 6 := by omega
  rcases hp' with rfl | rfl | rfl | rfl | rfl | rfl | rfl
  · have := t1 (by decide); have := t2 (by decide); have := t3 (by decide); have := t4 (by decide); have := t5 (by decide); have := t6 (by decide); omega
  · have := t0 (by decide); have := t2 (by decide); have := t3 (by decide); have := t4 (by decide); have := t5 (by decide); have := t6 (by decide); omega
  · have := t0 (by decide); have := t1 (by decide); have := t3 (by decide); have := t4 (by decide); have := t5 (by decide); have := t6 (by decide); omega
  · have := t0 (by decide); have := t1 (by decide); have := t2 (by decide); have := t4 (by decide); have := t5 (by decide); have := t6 (by decide); omega
  · have := t0 (by decide); have := t1 (by decide); have := t2 (by decide); have := t3 (by decide); have := t5 (by decide); have := t6 (by decide); omega
  · have := t0 (by decide); have := t1 (by decide); have := t2 (by decide); have := t3 (by decide); have := t4 (by decide); have := t6 (by decide); omega
  · have := t0 (by decide); have := t1 (by decide); have := t2 (by decide); have := t3 (by decide); have := t4 (by decide); have := t5 (by decide); omega
theorem aft_sl {P m q : Nat} (hb : ∃ g, g < 7 ∧ sl P g = 0 ∧ g ≠ m) (hm : m < 19) (h0 : rsn P 0 m = 0) (hq : q < 7) : sl (aft P m) q =
    if m < 7 then (if q = gap P m then sl P m else if q = m then 0 else sl P q)
    else if m < 13 then (if q = plc m + 2 then sl P (plc m + 1) else if q = plc m + 1 then sl P (plc m) else if q = plc m then 0 else sl P q)
    else (if q = plc m then sl P (plc m + 1) else if q = plc m - 1 then sl P (plc m) else if q = plc m + 1 then 0 else sl P q) := by
  unfold aft
  by_cases h7 : m < 7
  · rw [if_pos h7, if_pos h7, sl_wsl (gap_lt h7) hq (sl_lt _ _), sl_wsl h7 hq (by omega)]
  · obtain ⟨h1, h2, h3, h4⟩ := rsn_push hm h7 h0
    have hp6 := plc_lt6 hm h7
    rw [if_neg h7, if_neg h7]
    by_cases h13 : m < 13
    · have := (h3 h13).1
      rw [if_pos h13, if_pos h13, sl_wsl (by omega) hq (sl_lt _ _), sl_wsl (by omega) hq (sl_lt _ _), sl_wsl (by omega) hq (by omega)]
    · have := (h4 h13).1
      rw [if_neg h13, if_neg h13, sl_wsl (by omega) hq (sl_lt _ _), sl_wsl (by omega) hq (sl_lt _ _), sl_wsl (by omega) hq (by omega)]
theorem rsn_0 {P S m : Nat} (h : rsn P S m = 0) : rsn P 0 m = 0 := by
  unfold rsn at *
  by_cases h7 : m < 7
  · rw [if_pos h7] at *
    split at h
    · omega
    · rename_i h1
      rw [if_neg h1, Nat.zero_testBit]
      rfl
  · rw [if_neg h7] at *
    exact h
theorem aft_lt {P m : Nat} (hP : P < 2097152) (hm : m < 19) (h0 : rsn P 0 m = 0) : aft P m < 2097152 := by
  unfold aft
  by_cases h7 : m < 7
  · rw [if_pos h7]
    exact wsl_lt (wsl_lt hP h7 (by omega)) (gap_lt h7) (sl_lt _ _)
  · obtain ⟨h1, h2, h3, h4⟩ := rsn_push hm h7 h0
    have hp6 := plc_lt6 hm h7
    rw [if_neg h7]
    by_cases h13 : m < 13
    · have := (h3 h13).1
      rw [if_pos h13]
      exact wsl_lt (wsl_lt (wsl_lt hP (by omega) (by omega)) (by omega) (sl_lt _ _)) (by omega) (sl_lt _ _)
    · have := (h4 h13).1
      rw [if_neg h13]
      exact wsl_lt (wsl_lt (wsl_lt hP (by omega) (by omega)) (by omega) (sl_lt _ _)) (by omega) (sl_lt _ _)
theorem aft_cs {b P m t : Nat} (hb : b < 6) (hv : VW b P) (hm : m < 19) (h0 : rsn P 0 m = 0) (ht : 1 ≤ t) : cs (aft P m) t = cs P t := by
  have z : (0 == t) = false := by simp; omega
  unfold aft
  by_cases h7 : m < 7
  · rw [if_pos h7]
    have hg := gap_at h7 (VW_gap hb hv h7)
    have e1 := cs_wsl (P := P) (p := m) (s := 0) (t := t) h7 (by omega)
    have e2 := cs_wsl (P := wsl P m 0) (p := gap P m) (s := sl P m) (t := t) (gap_lt h7) (sl_lt _ _)
    rw [sl_wsl h7 (gap_lt h7) (by omega), if_neg hg.1, hg.2] at e2
    rw [z] at e1 e2
    simp only [Bool.toNat_false] at e1 e2
    omega
  · obtain ⟨h1, h2, h3, h4⟩ := rsn_push hm h7 h0
    have hp6 := plc_lt6 hm h7
    rw [if_neg h7]
    by_cases h13 : m < 13
    · obtain ⟨h5, h6⟩ := h3 h13
      rw [if_pos h13]
      have e1 := cs_wsl (P := P) (p := plc m) (s := 0) (t := t) (by omega) (by omega)
      have e2 := cs_wsl (P := wsl P (plc m) 0) (p := plc m + 1) (s := sl P (plc m)) (t := t) (by omega) (sl_lt _ _)
      have e3 := cs_wsl (P := wsl (wsl P (plc m) 0) (plc m + 1) (sl P (plc m))) (p := plc m + 2) (s := sl P (plc m + 1)) (t := t) (by omega) (sl_lt _ _)
      rw [sl_wsl (by omega) (by omega) (by omega), if_neg (by omega)] at e2
      rw [sl_wsl (by omega) (by omega) (sl_lt _ _), if_neg (by omega), sl_wsl (by omega) (by omega) (by omega), if_neg (by omega), h6] at e3
      rw [z] at e1 e3
      simp only [Bool.toNat_false] at e1 e2 e3
      omega
    · obtain ⟨h5, h6⟩ := h4 h13
      rw [if_neg h13]
      have e1 := cs_wsl (P := P) (p := plc m + 1) (s := 0) (t := t) (by omega) (by omega)
      have e2 := cs_wsl (P := wsl P (plc m + 1) 0) (p := plc m - 1) (s := sl P (plc m)) (t := t) (by omega) (sl_lt _ _)
      have e3 := cs_wsl (P := wsl (wsl P (plc m + 1) 0) (plc m - 1) (sl P (plc m))) (p := plc m) (s := sl P (plc m + 1)) (t := t) (by omega) (sl_lt _ _)
      rw [sl_wsl (by omega) (by omega) (by omega), if_neg (by omega), h6] at e2
      rw [sl_wsl (by omega) (by omega) (sl_lt _ _), if_neg (by omega), sl_wsl (by omega) (by omega) (by omega), if_neg (by omega)] at e3
      rw [z] at e1 e2
      simp only [Bool.toNat_false] at e1 e2 e3
      omega
/-- a move leads from a word to a word -/
theorem aft_VW {b P S m : Nat} (hb : b < 6) (hv : VW b P) (hm : m < 19) (hr : rsn P S m = 0) : VW b (aft P m) := by
  have h0 := rsn_0 hr
  refine ⟨aft_lt hv.1 hm h0, fun q hq => ?_, fun s h1 h2 => (aft_cs hb hv hm h0 h1).trans (hv.2.2 s h1 h2)⟩
  by_cases h7 : m < 7
  · rw [aft_sl (VW_gap hb hv h7) hm h0 hq, if_pos h7]
    have a1 := hv.2.1 q hq
    have a2 := hv.2.1 m h7
    split
    · omega
    · split <;> omega
  · obtain ⟨h1, h2, h3, h4⟩ := rsn_push hm h7 h0
    have hp6 := plc_lt6 hm h7
    have a1 := hv.2.1 q hq
    have a2 := hv.2.1 (plc m) (by omega)
    have a3 := hv.2.1 (plc m + 1) (by omega)
    rw [aft_sl (by
      by_cases h13 : m < 13
      · exact ⟨_, (h3 h13).1, (h3 h13).2, by omega⟩
      · exact ⟨_, by omega, (h4 h13).2, by omega⟩) hm h0 hq, if_neg h7]
    split
    · split
      · omega
      · split
        · omega
        · split <;> omega
    · split
      · omega
      · split
        · omega
        · split <;> omega
end
section
/-! where the objects lie behind the two constructors -/
def K0 : List pK := [.inl 7, .inl 6, .inl 4, .inr (.inl 6), .inl 4, .inr (.inl 6), .inl 6, .inl 4, .inr (.inl 6), .inl 4, .inr (.inl 6), .inl 1, .inr (.inr 4), .inl 6, .inl 4, .inr (.inl 6), .inl 4, .inr (.inl 6), .inl 6, .inl 4, .inr (.inl 6), .inl 4, .inr (.inl 6), .inl 6, .inl 4, .inr (.inl 6), .inl 4, .inr (.inl 6), .inl 6, .inl 4, .inr (.inl 6), .inl 4, .inr (.inl 6), .inl 2, .inl 4, .inr (.inl 60), .inl 0, .inl 4, .inr (.inl 3620), .inl 4, .inr (.inl 68780), .inl 4, .inr (.inl 68780), .inl 4, .inr (.inl 3620), .inl 4, .inr (.inl 3620), .inl 5, .inl 4, .inr (.inl 3620), .inl 4, .inr (.inl 3620), .inl 4, .inr (.inl 3620), .inl 4, .inr (.inl 3620), .inl 4, .inr (.inl 3620), .inl 3, .inl 4, .inr (.inl 2520), .inl 4, .inr (.inl 2520), .inl 8, .inr (.inl 26), .inr (.inl 104), .inr (.inl 26), .inr (.inl 60), .inr (.inl 5), .inr (.inl 5), .inr (.inl 5), .inr (.inl 7), .inr (.inl 7), .inr (.inl 47880), .inr (.inl 47880), .inr (.inl 2520), .inr (.inl 2520), .inr (.inl 2520)]
def R0l : List (List (Option Nat)) := [[some 1, some 6, none, some 11, some 33, some 36, some 47, some 58], [none, none, some 2, some 4, none, none, none, none, none, none], [some 3], [], [some 5], [], [none, none, some 7, some 9, none, none, none, none, none, none], [some 8], [], [some 10], [], [some 12, none], [], [none, none, some 14, some 16, none, none, none, none, none, none], [some 15], [], [some 17], [], [none, none, some 19, some 21, none, none, none, none, none, none], [some 20], [], [some 22], [], [none, none, some 24, some 26, none, none, none, none, none, none], [some 25], [], [some 27], [], [none, none, some 29, some 31, none, none, none, none, none, none], [some 30], [], [some 32], [], [some 34, none], [some 35], [], [some 37, some 39, some 41, some 43, some 45, none], [some 38], [], [some 40], [], [some 42], [], [some 44], [], [some 46], [], [some 36, some 48, some 50, some 52, none, none, none, some 54, some 56], [some 49], [], [some 51], [], [some 53], [], [some 55], [], [some 57], [], [some 59, some 61, none, none, none, none, none, none], [some 60], [], [some 62], [], [some 64, some 65, none, some 66, none, some 67, none, some 68, some 69, some 70, none, some 71, some 72, none, some 73, some 74, some 75, some 76, some 77], [], [], [], [], [], [], [], [], [], [], [], [], [], []]
def R0 (k j : Nat) : Option Nat := (R0l.getD k []).getD j none
/-- the heap behind the constructors: kinds and references as they were made, but for the history's row of shelves (12) -/
def WF (h : pH) : Prop := h.1 = K0 ∧ ∀ k j, k ≠ 12 → h.2.1 k j = R0 k j
def hS (h : pH) (f : Nat → Nat → Int32) : pH := (h.1, h.2.1, f)
theorem WF_S {h : pH} {f : Nat → Nat → Int32} (w : WF h) : WF (hS h f) := w
theorem WF_I {h : pH} {k j : Nat} {x : Int32} (w : WF h) : WF (sI h k j x) := w
theorem sI_S {h : pH} {k j : Nat} {x : Int32} : sI h k j x = hS h (s2 h.2.2 k j x) := rfl
theorem hS_S {h : pH} {f g : Nat → Nat → Int32} : hS (hS h f) g = hS h g := rfl
theorem hS_2 {h : pH} {f : Nat → Nat → Int32} : (hS h f).2.2 = f := rfl
theorem hS_self {h : pH} : hS h h.2.2 = h := rfl
theorem s2_at {f : Nat → Nat → Int32} {k j a b : Nat} {x : Int32} : s2 f k j x a b = if a = k then (if b = j then x else f a b) else f a b := rfl
theorem inb_of {i n : Nat} (hi : i < n) (hn : n < 2147483648) : inb (nI i) n = true := by
  unfold inb
  rw [i_clamp (by omega)]
  have := i_nneg (a := i) (by omega)
  simp [this, hi]
section Layout
variable {h : pH} {ci k j r n i : Nat} {x : Int32}
theorem hR_W (w : WF h) (e : K0[k]? = some (.inl ci)) (hk : k ≠ 12) (e2 : R0 k j = some r) : hR h ci k j = some r := by
  unfold hR
  rw [w.1, if_pos e, w.2 k j hk, e2]
theorem hI_W (w : WF h) (e : K0[k]? = some (.inl ci)) : hI h ci k j = some (h.2.2 k j) := by
  unfold hI
  rw [w.1, if_pos e]
theorem kO_W (w : WF h) (e : K0[k]? = some (.inl ci)) : kO h ci k = true := by
  unfold kO
  rw [w.1]
  exact decide_eq_true e
theorem hN_W (w : WF h) (e : K0[k]? = some (.inr (.inl n))) : hN h k = some (nI n) := by
  unfold hN
  rw [w.1, e]
  rfl
theorem hA_W (w : WF h) (e : K0[k]? = some (.inr (.inl n))) (hi : i < n) (hn : n < 2147483648) : hA h k (nI i) = some (h.2.2 k i) := by
  unfold hA
  rw [w.1, e]
  show (if inb (nI i) n = true then some (h.2.2 k (nI i).toNatClampNeg) else none) = _
  rw [if_pos (inb_of hi hn), i_clamp (by omega)]
theorem bA_W (w : WF h) (e : K0[k]? = some (.inr (.inl n))) (hi : i < n) (hn : n < 2147483648) : bA h k (nI i) = true := by
  unfold bA
  rw [w.1, e]
  exact inb_of hi hn
/-- a Row at r, with n cells -/
def rowW (r n : Nat) : Prop := K0[r]? = some (.inl 4) ∧ R0 r 0 = some (r + 1) ∧ K0[r + 1]? = some (.inr (.inl n)) ∧ r ≠ 12 ∧ n < 2147483648
theorem s_get (w : WF h) (q : rowW r n) (hi : i < n) : f_R_get r (nI i) h = rI (h.2.2 (r + 1) i) h := by
  obtain ⟨q1, q2, q3, q4, q5⟩ := q
  rw [e_R_get, if_neg (i_nneg (by omega)), hR_W w q1 q4 q2, oo_v, hN_W w q3, oo_v, if_neg (by rw [i_le q5 (by omega)]; omega), oo_v, hA_W w q3 hi q5, oo_v]
theorem s_getN (w : WF h) (q : rowW r n) (hi : x < 0) : f_R_get r x h = rI (nI 0) h := by
  rw [e_R_get, if_pos hi]
  rfl
theorem s_getO (w : WF h) (q : rowW r n) (hi : n ≤ i) (h2 : i < 2147483648) : f_R_get r (nI i) h = rI (nI 0) h := by
  obtain ⟨q1, q2, q3, q4, q5⟩ := q
  rw [e_R_get, if_neg (i_nneg h2), hR_W w q1 q4 q2, oo_v, hN_W w q3, oo_v, if_pos (by rw [i_le q5 h2]; exact hi)]
  rfl
theorem s_put (w : WF h) (q : rowW r n) (hi : i < n) : f_R_put r (nI i) x h = rV (hS h (s2 h.2.2 (r + 1) i x)) := by
  obtain ⟨q1, q2, q3, q4, q5⟩ := q
  rw [e_R_put, if_neg (i_nneg (by omega)), hR_W w q1 q4 q2, oo_v, hN_W w q3, oo_v, if_neg (by rw [i_le q5 (by omega)]; omega), oo_v, if_pos (bA_W w q3 hi q5), i_clamp (by omega)]
  rfl
theorem s_putO (w : WF h) (q : rowW r n) (hi : n ≤ i) (h2 : i < 2147483648) : f_R_put r (nI i) x h = rV h := by
  obtain ⟨q1, q2, q3, q4, q5⟩ := q
  rw [e_R_put, if_neg (i_nneg h2), hR_W w q1 q4 q2, oo_v, hN_W w q3, oo_v, if_pos (by rw [i_le q5 h2]; exact hi)]
/-- the first i cells of row a as those of row c -/
def cp (f : Nat → Nat → Int32) (a c i : Nat) : Nat → Nat → Int32 := fun k j => if k = a ∧ j < i then f c j else f k j
theorem cp_succ {f : Nat → Nat → Int32} {a c i : Nat} (hac : c ≠ a) : s2 (cp f a c i) a i (cp f a c i c i) = cp f a c (i + 1) := by
  have h1 : cp f a c i c i = f c i := by
    unfold cp
    rw [if_neg (fun q => hac q.1)]
  rw [h1]
  funext k j
  rw [s2_at]
  unfold cp
  by_cases hk : k = a
  · subst hk
    rw [if_pos rfl]
    by_cases hj : j = i
    · subst hj
      rw [if_pos rfl, if_pos ⟨rfl, by omega⟩]
    · rw [if_neg hj]
      by_cases h2 : j < i
      · rw [if_pos ⟨rfl, h2⟩, if_pos ⟨rfl, by omega⟩]
      · rw [if_neg (fun q => h2 q.2), if_neg (fun q => by have := q.2; omega)]
  · rw [if_neg hk, if_neg (fun q => hk q.1), if_neg (fun q => hk q.1)]
theorem s_becomeL {r r' : Nat} (w : WF h) (q : rowW r n) (q' : rowW r' n) (hne : r' ≠ r) : ∀ (m i : Nat), i + m = n → f_R_become_2 r r' (nI i) (hS h (cp h.2.2 (r + 1) (r' + 1) i)) = rV (hS h (cp h.2.2 (r + 1) (r' + 1) n))
  | 0, i, hi => by
    obtain ⟨q1, q2, q3, q4, q5⟩ := q
    obtain rfl : i = n := by omega
    rw [e_R_become_2, hR_W (WF_S w) q1 q4 q2, oo_v, hN_W (WF_S w) q3, oo_v, if_pos (by rw [i_le q5 q5]; exact Nat.le_refl _)]
  | m + 1, i, hi => by
    have ih := s_becomeL w q q' hne m (i + 1) (by omega)
    obtain ⟨q1, q2, q3, q4, q5⟩ := id q
    rw [e_R_become_2, hR_W (WF_S w) q1 q4 q2, oo_v, hN_W (WF_S w) q3, oo_v, if_neg (by rw [i_le q5 (by omega)]; omega), oo_v, if_pos (kO_W (WF_S w) q'.1), s_get (WF_S w) q' (by omega), cI_v, if_pos (bA_W (WF_S w) q3 (by omega) q5), i_clamp (by omega), sI_S, hS_S, hS_2, cp_succ (by omega), L1, i_add]
    exact ih
theorem s_become {r r' : Nat} (w : WF h) (q : rowW r n) (q' : rowW r' n) (hne : r' ≠ r) : f_R_become r r' h = rV (hS h (cp h.2.2 (r + 1) (r' + 1) n)) := by
  have h1 := s_becomeL w q q' hne n 0 (by omega)
  have h2 : cp h.2.2 (r + 1) (r' + 1) 0 = h.2.2 := by
    funext k j
    unfold cp
    rw [if_neg (fun q => by have := q.2; omega)]
  rw [h2, hS_self] at h1
  rw [e_R_become]
  exact h1
end Layout
/-- the six shelves of the class: this one, the snapshot, four of the history -/
def isSh (B : Nat) : Prop := B = 1 ∨ B = 6 ∨ B = 13 ∨ B = 18 ∨ B = 23 ∨ B = 28
theorem sh_at {B : Nat} (hB : isSh B) : K0[B]? = some (.inl 6) ∧ R0 B 2 = some (B + 1) ∧ R0 B 3 = some (B + 3) ∧ rowW (B + 1) 6 ∧ rowW (B + 3) 6 ∧ B ≠ 12 := by
  rcases hB with rfl | rfl | rfl | rfl | rfl | rfl <;> (unfold rowW; decide)
end
section
/-! the abstract shelf: word, books, stuck ones, settings; letters and weights by slots; accounts -/
abbrev AS : Type := (Nat × Nat × Nat × Nat × Nat) × (Nat → Nat) × (Nat → Nat) × Int32 × Int32 × Int32
abbrev aP (a : AS) : Nat := a.1.1
abbrev aB (a : AS) : Nat := a.1.2.1
abbrev aS (a : AS) : Nat := a.1.2.2.1
abbrev aF (a : AS) : Nat := a.1.2.2.2.1
abbrev aC (a : AS) : Nat := a.1.2.2.2.2
abbrev aL (a : AS) : Nat → Nat := a.2.1
abbrev aO (a : AS) : Nat → Nat := a.2.2.1
abbrev aM (a : AS) : Int32 := a.2.2.2.1
abbrev aE (a : AS) : Int32 := a.2.2.2.2.1
abbrev aR (a : AS) : Int32 := a.2.2.2.2.2
def AOK (a : AS) : Prop := VW (aB a) (aP a) ∧ aB a < 6 ∧ aS a < 64 ∧ (∀ s, (aS a).testBit s = true → 1 ≤ s ∧ s ≤ aB a) ∧ aF a < 2 ∧ aC a < 2 ∧ (∀ s, 1 ≤ s → s ≤ aB a → aL a s < 26 ∧ 1 ≤ aO a s ∧ aO a s ≤ 9) ∧ ∀ s t, 1 ≤ s → s < t → t ≤ aB a → aL a s < aL a t
def CAt (f : Nat → Nat → Int32) (B : Nat) (a : AS) : Prop := f B 0 = nI (aP a) ∧ f B 1 = nI (aB a) ∧ (∀ s, 1 ≤ s → s ≤ aB a → f (B + 2) s = nI (aL a s)) ∧ (∀ s, 1 ≤ s → s ≤ aB a → f (B + 4) s = nI (aO a s)) ∧ f B 4 = nI (aS a) ∧ f B 5 = nI (aF a) ∧ f B 6 = nI (aC a) ∧ f B 7 = aM a ∧ f B 8 = aE a ∧ f B 9 = aR a
/-- only these rows have changed -/
def Off (f g : Nat → Nat → Int32) (l : List Nat) : Prop := ∀ k, k ∉ l → g k = f k
theorem Off.rf {f : Nat → Nat → Int32} {l : List Nat} : Off f f l := fun _ _ => rfl
theorem Off.tr {f g h : Nat → Nat → Int32} {l : List Nat} (a : Off f g l) (b : Off g h l) : Off f h l := fun k hk => (b k hk).trans (a k hk)
theorem Off.mono {f g : Nat → Nat → Int32} {l l' : List Nat} (a : Off f g l) (h : ∀ k, k ∈ l → k ∈ l') : Off f g l' := fun k hk => a k (fun q => hk (h k q))
theorem s2_off {f : Nat → Nat → Int32} {k j : Nat} {x : Int32} {l : List Nat} (h : k ∈ l) : Off f (s2 f k j x) l := by
  intro a ha
  funext b
  rw [s2_at, if_neg (fun (q : a = k) => ha (q ▸ h))]
theorem cp_off {f : Nat → Nat → Int32} {a c i : Nat} {l : List Nat} (h : a ∈ l) : Off f (cp f a c i) l := by
  intro k hk
  funext b
  unfold cp
  rw [if_neg (fun (q : k = a ∧ b < i) => hk (q.1 ▸ h))]
theorem hR_W' {h : pH} {ci k j : Nat} (w : WF h) (e : K0[k]? = some (.inl ci)) (hk : k ≠ 12) : hR h ci k j = R0 k j := by
  unfold hR
  rw [w.1, if_pos e, w.2 k j hk]
theorem hI_k {h : pH} {c k j : Nat} : hI h c k j = if kO h c k = true then some (h.2.2 k j) else none := by
  unfold hI kO
  by_cases e : h.1[k]? = some (.inl c)
  · rw [if_pos e, if_pos (decide_eq_true e)]
  · rw [if_neg e, if_neg (by simpa using e)]
theorem kO_I {h : pH} {c k' k j : Nat} {x : Int32} : kO (sI h k j x) c k' = kO h c k' := rfl
theorem kO_S {h : pH} {c k : Nat} {f : Nat → Nat → Int32} : kO (hS h f) c k = kO h c k := rfl
theorem hR_I {h : pH} {c k' j' k j : Nat} {x : Int32} : hR (sI h k j x) c k' j' = hR h c k' j' := rfl
theorem hR_S {h : pH} {c k j : Nat} {f : Nat → Nat → Int32} : hR (hS h f) c k j = hR h c k j := rfl
theorem hN_I {h : pH} {k' k j : Nat} {x : Int32} : hN (sI h k j x) k' = hN h k' := rfl
theorem hN_S {h : pH} {k : Nat} {f : Nat → Nat → Int32} : hN (hS h f) k = hN h k := rfl
theorem sI_2 {h : pH} {k j : Nat} {x : Int32} : (sI h k j x).2.2 = s2 h.2.2 k j x := rfl
theorem s_Bbecome {h : pH} {B C : Nat} {a : AS} (w : WF h) (hB : isSh B) (hC : isSh C) (hne : B ≠ C) (hc : CAt h.2.2 C a) (hb : aB a < 6) : ∃ g, f_B_become B C h = rV (hS h g) ∧ CAt g B a ∧ Off h.2.2 g [B, B + 2, B + 4] := by
  obtain ⟨e1, e2, e3, e4, e5, e6⟩ := sh_at hB
  obtain ⟨c1, c2, c3, c4, c5, c6⟩ := sh_at hC
  have n1 : C + 1 ≠ B + 1 := by omega
  have n3 : C + 3 ≠ B + 3 := by omega
  rw [e_B_become]
  have k1 := kO_W w e1
  have k2 := kO_W w c1
  have k3 := kO_W w e4.1
  have k4 := kO_W w e5.1
  have r1 := hR_W w e1 e6 e2
  have r2 := hR_W w e1 e6 e3
  have r3 := hR_W w c1 c6 c2
  have r4 := hR_W w c1 c6 c3
  simp only [oo_v, hI_k, kO_I, kO_S, hR_I, hR_S, k1, k2, k3, k4, r1, r2, r3, r4, if_true, cV_v, s_become (WF_S w) e4 c4 n1, s_become (WF_S w) e5 c5 n3, sI_S, hS_S, hS_2]
  have hCB : C ≠ B := Ne.symm hne
  have dj : ¬ C + 1 + 1 = B ∧ ¬ C + 3 + 1 = B ∧ ¬ C + 2 = B ∧ ¬ C = B + 1 + 1 ∧ ¬ C = B + 3 + 1 ∧ ¬ B = B + 1 + 1 ∧ ¬ B = B + 3 + 1 := by
    unfold isSh at hB hC
    omega
  obtain ⟨j1, j2, j3, j4, j5, j6, j7⟩ := dj
  refine ⟨_, rfl, ?_, ?_⟩
  · obtain ⟨d1, d2, d3, d4, d5, d6, d7, d8, d9, d10⟩ := hc
    refine ⟨?_, ?_, fun s hs1 hs2 => ?_, fun s hs1 hs2 => ?_, ?_, ?_, ?_, ?_, ?_, ?_⟩
    · simp [s2_at, cp, hCB, j1, j2, j3, j4, j5, j6, j7, d1]
    · simp [s2_at, cp, hCB, j1, j2, j3, j4, j5, j6, j7, d2]
    · have hs6 : s < 6 := by omega
      simp [s2_at, cp, hCB, j1, j2, j3, j4, j5, j6, j7, hs6, d3 s hs1 hs2]
    · have hs6 : s < 6 := by omega
      simp [s2_at, cp, hCB, j1, j2, j3, j4, j5, j6, j7, hs6, d4 s hs1 hs2]
    · simp [s2_at, cp, hCB, j1, j2, j3, j4, j5, j6, j7, d5]
    · simp [s2_at, cp, hCB, j1, j2, j3, j4, j5, j6, j7, d6]
    · simp [s2_at, cp, hCB, j1, j2, j3, j4, j5, j6, j7, d7]
    · simp [s2_at, cp, hCB, j1, j2, j3, j4, j5, j6, j7, d8]
    · simp [s2_at, cp, hCB, j1, j2, j3, j4, j5, j6, j7, d9]
    · simp [s2_at, cp, hCB, j1, j2, j3, j4, j5, j6, j7, d10]
  · intro k hk
    funext j
    simp only [List.mem_cons, List.not_mem_nil, or_false, not_or] at hk
    obtain ⟨z1, z2, z3⟩ := hk
    simp [s2_at, cp, z1, z2, z3]
end
section
/-! the history: four shelves of the class, by their places in the row 12 -/
def isHs (B : Nat) : Prop := B = 13 ∨ B = 18 ∨ B = 23 ∨ B = 28
def hRows : List Nat := [11, 13, 15, 17, 18, 20, 22, 23, 25, 27, 28, 30, 32]
theorem hs_sh {B : Nat} (hB : isHs B) : isSh B := by
  unfold isHs at hB
  unfold isSh
  omega
def HAt (h : pH) (l : List AS) : Prop := l.length ≤ 4 ∧ h.2.2 11 1 = nI l.length ∧ ∃ π : Nat → Nat, (∀ j, j < 4 → h.2.1 12 j = some (π j) ∧ isHs (π j)) ∧ (∀ i j, i < 4 → j < 4 → π i = π j → i = j) ∧ ∀ (i : Nat) (a : AS), l[i]? = some a → CAt h.2.2 (π i) a ∧ aB a < 6
theorem K12 : K0[12]? = some (.inr (.inr 4)) := rfl
theorem K11 : K0[11]? = some (.inl 1) := rfl
theorem R11 : R0 11 0 = some 12 := rfl
section Hist
variable {h : pH} {j v : Nat}
theorem hQ_W (w : WF h) (hj : j < 4) : hQ h 12 (nI j) = h.2.1 12 j := by
  unfold hQ
  rw [w.1, K12]
  show (if inb (nI j) 4 = true then h.2.1 12 (nI j).toNatClampNeg else none) = _
  rw [if_pos (inb_of hj (by omega)), i_clamp (by omega)]
theorem bQ_W (w : WF h) (hj : j < 4) (hv : K0[v]? = some (.inl 6)) : bQ h 12 (nI j) v = true := by
  unfold bQ
  rw [w.1, K12]
  show (inb (nI j) 4 && decide (K0[v]? = some (.inl 6))) = true
  rw [inb_of hj (by omega), hv]
  rfl
theorem hN_12 (w : WF h) : hN h 12 = some (nI 4) := by
  unfold hN
  rw [w.1, K12]
  rfl
theorem WF_R {r : Nat} (w : WF h) : WF (sR h 12 j r) := ⟨w.1, fun k i hk => by
  show s2 h.2.1 12 j (some r) k i = _
  rw [s2_ne hk]
  exact w.2 k i hk⟩
theorem sR_12 {r i : Nat} : (sR h 12 j r).2.1 12 i = if i = j then some r else h.2.1 12 i := by
  show s2 h.2.1 12 j (some r) 12 i = _
  rw [s2_self]
theorem s_drop1 {i p q : Nat} (w : WF h) (h1 : 1 ≤ i) (h4 : i < 4) (hp : h.2.1 12 (i - 1) = some p) (hq : h.2.1 12 i = some q) (kp : K0[p]? = some (.inl 6)) (kq : K0[q]? = some (.inl 6)) :
    f_H_dropOldest_2 11 (nI i) h = f_H_dropOldest_2 11 (nI (i + 1)) (sR (sR h 12 (i - 1) q) 12 i p) := by
  have r1 := hR_W w K11 (by omega) R11
  rw [e_H_dropOldest_2, r1, oo_v, hN_12 w, oo_v, if_neg (by rw [i_le (by omega) (by omega)]; omega), oo_v, L1, i_sub h1, hQ_W w (by omega), hp, oo_v, oo_v, oo_v, hQ_W w h4, hq, oo_v, if_pos (bQ_W w (by omega) kq), hR_W (WF_R w) K11 (by omega) R11, oo_v, i_clamp (by omega), if_pos (bQ_W (WF_R w) h4 kp), i_clamp (by omega), i_add]
theorem s_drop {π : Nat → Nat} (w : WF h) (hlen : h.2.2 11 1 = nI 4) (hπ : ∀ j, j < 4 → h.2.1 12 j = some (π j) ∧ isHs (π j)) : ∃ h', f_H_dropOldest 11 h = rV h' ∧ WF h' ∧ h'.2.2 = s2 h.2.2 11 1 (nI 3) ∧ ∀ j, j < 4 → h'.2.1 12 j = some (if j = 3 then π 0 else π (j + 1)) := by
  obtain ⟨p0, q0⟩ := hπ 0 (by omega)
  obtain ⟨p1, q1⟩ := hπ 1 (by omega)
  obtain ⟨p2, q2⟩ := hπ 2 (by omega)
  obtain ⟨p3, q3⟩ := hπ 3 (by omega)
  have k0 := (sh_at (hs_sh q0)).1
  have k1 := (sh_at (hs_sh q1)).1
  have k2 := (sh_at (hs_sh q2)).1
  have k3 := (sh_at (hs_sh q3)).1
  rw [e_H_dropOldest, L1, s_drop1 w (Nat.le_refl 1) (by omega) p0 p1 k0 k1]
  generalize ha : sR (sR h 12 (1 - 1) (π 1)) 12 1 (π 0) = ha'
  have wa : WF ha' := ha ▸ WF_R (WF_R w)
  have fa : ∀ i, ha'.2.1 12 i = if i = 1 then some (π 0) else if i = 0 then some (π 1) else h.2.1 12 i := fun i => by rw [← ha, sR_12, sR_12]
  have sa : ha'.2.2 = h.2.2 := by rw [← ha]; rfl
  rw [s_drop1 wa (by omega) (by omega) (by rw [fa]; rfl) (by rw [fa]; exact p2) k0 k2]
  generalize hb : sR (sR ha' 12 (1 + 1 - 1) (π 2)) 12 (1 + 1) (π 0) = hb'
  have wb : WF hb' := hb ▸ WF_R (WF_R wa)
  have fb : ∀ i, hb'.2.1 12 i = if i = 2 then some (π 0) else if i = 1 then some (π 2) else ha'.2.1 12 i := fun i => by rw [← hb, sR_12, sR_12]
  have sb : hb'.2.2 = h.2.2 := by rw [← hb]; exact sa
  rw [s_drop1 wb (by omega) (by omega) (by rw [fb]; rfl) (by rw [fb]; simp only [show ¬ (1 + 1 + 1 = 2) by omega, show ¬ (1 + 1 + 1 = 1) by omega, if_false]; rw [fa]; exact p3) k0 k3]
  generalize hc : sR (sR hb' 12 (1 + 1 + 1 - 1) (π 3)) 12 (1 + 1 + 1) (π 0) = hc'
  have wc : WF hc' := hc ▸ WF_R (WF_R wb)
  have fc : ∀ i, hc'.2.1 12 i = if i = 3 then some (π 0) else if i = 2 then some (π 3) else hb'.2.1 12 i := fun i => by rw [← hc, sR_12, sR_12]
  have sc : hc'.2.2 = h.2.2 := by rw [← hc]; exact sb
  have r1 := hR_W wc K11 (by omega) R11
  refine ⟨sI hc' 11 1 (nI 3), ?_, WF_I wc, by show s2 hc'.2.2 11 1 (nI 3) = _; rw [sc], fun j hj => ?_⟩
  · rw [e_H_dropOldest_2, r1, oo_v, hN_12 wc, oo_v, if_pos (by decide), hI_W wc K11, oo_v, if_pos (kO_W wc K11), sc, hlen]
    rfl
  · show hc'.2.1 12 j = _
    rw [fc, fb, fa]
    have : j = 0 ∨ j = 1 ∨ j = 2 ∨ j = 3 := by omega
    rcases this with rfl | rfl | rfl | rfl <;> rfl
def kept (l : List AS) (a : AS) : List AS := (if l.length < 4 then l else l.drop 1) ++ [a]
theorem hs_in {B : Nat} (hB : isHs B) : B ∈ hRows ∧ B + 2 ∈ hRows ∧ B + 4 ∈ hRows ∧ B ≠ 11 ∧ B + 2 ≠ 11 ∧ B + 4 ≠ 11 := by
  rcases hB with rfl | rfl | rfl | rfl <;> decide
theorem hs_apart {B C : Nat} (hB : isHs B) (hC : isHs C) (hne : B ≠ C) : C ∉ [B, B + 2, B + 4] ∧ C + 2 ∉ [B, B + 2, B + 4] ∧ C + 4 ∉ [B, B + 2, B + 4] := by
  rcases hB with rfl | rfl | rfl | rfl <;> rcases hC with rfl | rfl | rfl | rfl <;> first | (exact absurd rfl hne) | decide
theorem CAt_off {f g : Nat → Nat → Int32} {B : Nat} {a : AS} {l : List Nat} (hc : CAt f B a) (ho : Off f g l) (h0 : B ∉ l) (h2 : B + 2 ∉ l) (h4 : B + 4 ∉ l) : CAt g B a := by
  unfold CAt at *
  rw [ho B h0, ho (B + 2) h2, ho (B + 4) h4]
  exact hc
theorem s_keep16 {l : List AS} {a : AS} (w : WF h) (hl : l.length < 4) (hh : HAt h l) (hc : CAt h.2.2 1 a) (hb : aB a < 6) : ∃ h', f_H_keep_16 11 1 h = rV h' ∧ WF h' ∧ HAt h' (l ++ [a]) ∧ Off h.2.2 h'.2.2 hRows ∧ h'.2.1 = h.2.1 := by
  obtain ⟨h1, h2, π, h3, h4, h5⟩ := hh
  have r1 := hR_W w K11 (by omega) R11
  obtain ⟨p0, q0⟩ := h3 l.length hl
  have qs := hs_sh q0
  have hin := hs_in q0
  have hne1 : π l.length ≠ 1 := by
    unfold isHs at q0
    omega
  obtain ⟨g, e1, e2, e3⟩ := s_Bbecome w qs (Or.inl rfl) hne1 hc hb
  have e4 : g 11 = h.2.2 11 := e3 11 (by
    simp only [List.mem_cons, List.not_mem_nil, or_false, not_or]
    omega)
  refine ⟨sI (hS h g) 11 1 (nI (l.length + 1)), ?_, WF_I (WF_S w), ⟨?_, ?_, π, h3, h4, fun i c hi => ?_⟩, ?_, rfl⟩
  · rw [e_H_keep_16]
    simp only [hI_W w K11, r1, hN_12 w, h2, hQ_W w hl, p0, oo_v, hI_W (WF_S w) K11, hS_2]
    rw [if_neg (i_nneg (by omega)), if_neg (by rw [i_le (by omega) (by omega)]; omega), if_pos (kO_W w (sh_at qs).1), e1, cV_v, hI_W (WF_S w) K11, oo_v, if_pos (kO_W (WF_S w) K11), hS_2, e4, h2, L1, i_add]
  · rw [List.length_append]
    show l.length + 1 ≤ 4
    omega
  · show s2 g 11 1 (nI (l.length + 1)) 11 1 = _
    rw [s2_at, if_pos rfl, if_pos rfl, List.length_append]
    rfl
  · have hoff : Off g (s2 g 11 1 (nI (l.length + 1))) [11] := s2_off (by simp)
    by_cases hil : i < l.length
    · rw [List.getElem?_append_left hil] at hi
      obtain ⟨a1, a2⟩ := h5 i c hi
      have qi := (h3 i (by omega)).2
      have hd := hs_apart q0 qi (fun e => by have := h4 _ _ hl (by omega) e; omega)
      have hi2 := hs_in qi
      exact ⟨CAt_off (CAt_off a1 e3 hd.1 hd.2.1 hd.2.2) hoff (by simpa using hi2.2.2.2.1) (by simpa using hi2.2.2.2.2.1) (by simpa using hi2.2.2.2.2.2), a2⟩
    · rw [List.getElem?_append_right (by omega)] at hi
      have hz : i - l.length < 1 := (List.getElem?_eq_some_iff.mp hi).1
      rw [show i - l.length = 0 by omega] at hi
      cases hi
      rw [show i = l.length by omega]
      exact ⟨CAt_off e2 hoff (by simpa using hin.2.2.2.1) (by simpa using hin.2.2.2.2.1) (by simpa using hin.2.2.2.2.2), hb⟩
  · refine Off.tr (e3.mono (fun k hk => ?_)) (s2_off (by decide))
    simp only [List.mem_cons, List.not_mem_nil, or_false] at hk
    rcases hk with rfl | rfl | rfl
    · exact hin.1
    · exact hin.2.1
    · exact hin.2.2.1
/-- a change is kept: the shelf before it, of five the oldest falls out -/
theorem s_keep {l : List AS} {a : AS} (w : WF h) (hh : HAt h l) (hc : CAt h.2.2 1 a) (hb : aB a < 6) : ∃ h', f_H_keep 11 1 h = rV h' ∧ WF h' ∧ HAt h' (kept l a) ∧ Off h.2.2 h'.2.2 hRows := by
  obtain ⟨h1, h2, π, h3, h4, h5⟩ := id hh
  have r1 := hR_W w K11 (by omega) R11
  rw [e_H_keep, hI_W w K11, oo_v, r1, oo_v, hN_12 w, oo_v, h2]
  unfold kept
  by_cases hl : l.length < 4
  · rw [if_pos (by rw [i_lt (by omega) (by omega)]; exact hl), if_pos hl]
    obtain ⟨h', e1, e2, e3, e4, -⟩ := s_keep16 w hl hh hc hb
    exact ⟨h', e1, e2, e3, e4⟩
  · rw [if_neg (by rw [i_lt (by omega) (by omega)]; exact hl), if_neg hl, if_pos (kO_W w K11)]
    obtain ⟨h', e1, e2, e3, e4⟩ := s_drop w (by rw [h2]; congr 1; omega) h3
    rw [e1, cV_v]
    have hoff : Off h.2.2 h'.2.2 [11] := by rw [e3]; exact s2_off (by simp)
    have hh' : HAt h' (l.drop 1) := by
      refine ⟨by rw [List.length_drop]; omega, ?_, fun j => if j = 3 then π 0 else π (j + 1), fun j hj => ⟨e4 j hj, ?_⟩, fun i j hi hj hij => ?_, fun i c hi => ?_⟩
      · rw [e3, s2_at, if_pos rfl, if_pos rfl, List.length_drop]
        congr 1
        omega
      · show isHs (if j = 3 then π 0 else π (j + 1))
        split
        · exact (h3 0 (by omega)).2
        · exact (h3 (j + 1) (by omega)).2
      · dsimp only at hij
        split at hij <;> split at hij
        · omega
        · have := h4 _ _ (by omega) (by omega) hij
          omega
        · have := h4 _ _ (by omega) (by omega) hij
          omega
        · have := h4 _ _ (by omega) (by omega) hij
          omega
      · rw [List.getElem?_drop] at hi
        have hil : 1 + i < l.length := (List.getElem?_eq_some_iff.mp hi).1
        obtain ⟨a1, a2⟩ := h5 (1 + i) c hi
        have hi2 := hs_in (h3 (1 + i) (by omega)).2
        dsimp only
        rw [if_neg (by omega), show i + 1 = 1 + i by omega]
        exact ⟨CAt_off a1 hoff (by simpa using hi2.2.2.2.1) (by simpa using hi2.2.2.2.2.1) (by simpa using hi2.2.2.2.2.2), a2⟩
    have hc' : CAt h'.2.2 1 a := CAt_off hc hoff (by simp) (by simp) (by simp)
    obtain ⟨h'', g1, g2, g3, g4, -⟩ := s_keep16 e2 (by rw [List.length_drop]; omega) hh' hc' hb
    exact ⟨h'', g1, g2, g3, Off.tr (hoff.mono (by decide)) g4⟩
/-- the latest state comes back -/
theorem s_giveBack {l : List AS} {a : AS} (w : WF h) (hh : HAt h (l ++ [a])) : ∃ h', f_H_giveBack 11 1 h = rV h' ∧ WF h' ∧ HAt h' l ∧ CAt h'.2.2 1 a ∧ Off h.2.2 h'.2.2 [11, 1, 3, 5] := by
  obtain ⟨h1, h2, π, h3, h4, h5⟩ := hh
  rw [List.length_append] at h1 h2
  have h1 : l.length + 1 ≤ 4 := h1
  have h2 : h.2.2 11 1 = nI (l.length + 1) := h2
  have r1 := hR_W w K11 (by omega) R11
  obtain ⟨p0, q0⟩ := h3 l.length (by omega)
  obtain ⟨a1, a2⟩ := h5 l.length a (by rw [List.getElem?_append_right (Nat.le_refl _), Nat.sub_self]; rfl)
  have qs := hs_sh q0
  have hne1 : 1 ≠ π l.length := by
    unfold isHs at q0
    omega
  obtain ⟨g, e1, e2, e3⟩ := s_Bbecome w (Or.inl rfl) qs hne1 a1 a2
  have hoff : Off g (s2 g 11 1 (nI l.length)) [11] := s2_off (by simp)
  refine ⟨sI (hS h g) 11 1 (nI l.length), ?_, WF_I (WF_S w), ⟨by omega, ?_, π, h3, h4, fun i c hi => ?_⟩, CAt_off e2 hoff (by simp) (by simp) (by simp), Off.tr (e3.mono (by decide)) (s2_off (by decide))⟩
  · rw [e_H_giveBack, hI_W w K11, oo_v, h2, L1, i_sub (by omega), Nat.add_sub_cancel, if_neg (i_nneg (by omega)), r1, oo_v, hN_12 w, oo_v, if_neg (by rw [i_le (by omega) (by omega)]; omega), oo_v, hQ_W w (by omega), p0, oo_v, oo_v, hQ_W w (by omega), p0, oo_v, if_pos (kO_W w (show K0[1]? = some (.inl 6) from rfl)), e1, cV_v, if_pos (kO_W (WF_S w) K11)]
  · show s2 g 11 1 (nI l.length) 11 1 = _
    rw [s2_at, if_pos rfl, if_pos rfl]
  · have hil : i < l.length := (List.getElem?_eq_some_iff.mp hi).1
    obtain ⟨b1, b2⟩ := h5 i c (by rw [List.getElem?_append_left hil]; exact hi)
    have qi := (h3 i (by omega)).2
    have hi2 := hs_in qi
    have d1 : π i ∉ [1, 1 + 2, 1 + 4] ∧ π i + 2 ∉ [1, 1 + 2, 1 + 4] ∧ π i + 4 ∉ [1, 1 + 2, 1 + 4] := by
      unfold isHs at qi
      simp only [List.mem_cons, List.not_mem_nil, or_false, not_or]
      omega
    exact ⟨CAt_off (CAt_off b1 e3 d1.1 d1.2.1 d1.2.2) hoff (by simpa using hi2.2.2.2.1) (by simpa using hi2.2.2.2.2.1) (by simpa using hi2.2.2.2.2.2), b2⟩
end Hist
end
section
/-! the shelf of now: what a move costs, moves, sums, keys -/
theorem K1 : K0[1]? = some (.inl 6) := rfl
theorem RW2 : rowW 2 6 := by unfold rowW; decide
theorem RW4 : rowW 4 6 := by unfold rowW; decide
def prc (o : Nat → Nat) (P m : Nat) : Nat := if m < 7 then o (sl P m) else max (o (sl P (plc m))) (o (sl P (plc m + 1)))
theorem imax_n {a b : Nat} (ha : a < 2147483648) (hb : b < 2147483648) : imax (nI a) (nI b) = nI (max a b) := by
  unfold imax
  by_cases h : a < b
  · rw [if_pos (by rw [i_lt ha hb]; exact h), Nat.max_eq_right (by omega)]
  · rw [if_neg (by rw [i_lt ha hb]; exact h), Nat.max_eq_left (by omega)]
theorem imin_n {a b : Nat} (ha : a < 2147483648) (hb : b < 2147483648) : imin (nI a) (nI b) = nI (min a b) := by
  unfold imin
  by_cases h : b < a
  · rw [if_pos (by rw [i_lt hb ha]; exact h), Nat.min_eq_right (by omega)]
  · rw [if_neg (by rw [i_lt hb ha]; exact h), Nat.min_eq_left (by omega)]
theorem rsn_pull {P S m : Nat} (h7 : m < 7) (h0 : rsn P S m = 0) : sl P m ≠ 0 ∧ S.testBit (sl P m) = false := by
  unfold rsn at h0
  rw [if_pos h7] at h0
  split at h0
  · omega
  · rename_i h1
    split at h0
    · omega
    · rename_i h2
      exact ⟨h1, by simpa using h2⟩
section Sh1
variable {h : pH} {a : AS} {m : Nat}
theorem s_price {r b P S : Nat} {o : Nat → Nat} (w : WF h) (q : rowW r 6) (hb : b < 6) (hv : VW b P) (ho : ∀ s, 1 ≤ s → s ≤ b → h.2.2 (r + 1) s = nI (o s) ∧ o s ≤ 9) (hm : m < 19) (h0 : rsn P S m = 0) : f_N_price (nI P) r (nI m) h = rI (nI (prc o P m)) h := by
  have hp := plc_lt hm
  have k1 := kO_W w q.1
  have b0 := hv.2.1 (plc m) hp
  unfold prc
  rw [e_N_price, s_placeOf hm, cI_v, s_slotAt hv.1 hp, cI_v, if_pos k1, s_get w q (by omega), cI_v, s_isPull hm, cI_v]
  by_cases h7 : m < 7
  · have hpm : plc m = m := by unfold plc; rw [if_pos h7]
    have h1 := rsn_pull h7 h0
    rw [hpm] at b0 ⊢
    rw [if_pos h7, if_pos h7, if_neg (by decide), (ho _ (by omega) b0).1]
  · obtain ⟨h1, h2, -, -⟩ := rsn_push hm h7 h0
    have hp6 := plc_lt6 hm h7
    have b1 := hv.2.1 (plc m + 1) (by omega)
    have o1 := ho (sl P (plc m)) (by omega) b0
    have o2 := ho (sl P (plc m + 1)) (by omega) b1
    rw [if_neg h7, if_neg h7, if_pos (by decide), L1, i_add, s_slotAt hv.1 (by omega), cI_v, if_pos k1, s_get w q (by omega), cI_v, o1.1, o2.1, imax_n (by omega) (by omega)]
/-- a move is made, or counted as refused -/
def mv (a : AS) (m : Nat) : AS := if rsn (aP a) (aS a) m = 0 then ((aft (aP a) m, aB a, aS a, aF a, aC a), aL a, aO a, aM a + 1, aE a + nI (prc (aO a) (aP a) m), aR a) else ((aP a, aB a, aS a, aF a, aC a), aL a, aO a, aM a, aE a, aR a + 1)
theorem mv_ok (ok : AOK a) (hm : m < 19) : AOK (mv a m) := by
  unfold mv
  split
  · rename_i h0
    exact ⟨aft_VW ok.2.1 ok.1 hm h0, ok.2⟩
  · exact ok
theorem mv_b : aB (mv a m) = aB a := by
  unfold mv
  split <;> rfl
theorem s_tryMove (w : WF h) (hc : CAt h.2.2 1 a) (ok : AOK a) (hm : m < 19) : ∃ g, f_B_tryMove 1 (nI m) h = rI (nI (rsn (aP a) (aS a) m)) (hS h g) ∧ CAt g 1 (mv a m) ∧ Off h.2.2 g [1] := by
  obtain ⟨c1, c2, c3, c4, c5, c6, c7, c8, c9, c10⟩ := id hc
  obtain ⟨v1, v2, v3, v4, v5, v6, v7, v8⟩ := id ok
  have k1 := kO_W w K1
  have r3 := hR_W w K1 (by omega) (show R0 1 3 = some 4 from rfl)
  rw [e_B_tryMove]
  simp only [oo_v, hI_k, k1, if_true, c1, c5, s_reason v1.1 (show aS a < 2147483648 by omega) hm, cI_v]
  by_cases h0 : rsn (aP a) (aS a) m = 0
  · have pr : ∀ g : Nat → Nat → Int32, Off h.2.2 g [1] → f_N_price (nI (aP a)) 4 (nI m) (hS h g) = rI (nI (prc (aO a) (aP a) m)) (hS h g) := by
      intro g hg
      refine s_price (WF_S w) RW4 v2 v1 (fun s h1 h2 => ⟨?_, (v7 s h1 h2).2.2⟩) hm h0
      show g 5 s = _
      rw [hg 5 (by simp)]
      exact c4 s h1 h2
    have n0 : ¬ (0 : Nat) = 7 := by omega
    have n1 : ¬ (8 : Nat) = 7 := by omega
    rw [h0, if_pos (by decide)]
    simp only [oo_v, hI_k, kO_I, kO_S, hR_I, hR_S, k1, r3, if_true, sI_S, hS_S, hS_2, s2_at, c1, c8, c9, n0, n1, if_false]
    rw [pr _ (s2_off (by simp)), cI_v]
    simp only [oo_v, hI_k, kO_I, kO_S, k1, if_true, sI_S, hS_S, hS_2, s2_at, c1, n0, if_false, cI_v, s_after v1.1 hm h0, show ¬ (0 : Nat) = 8 by omega]
    refine ⟨_, rfl, ?_, ?_⟩
    · unfold mv
      rw [if_pos h0]
      refine ⟨?_, ?_, fun s h1 h2 => ?_, fun s h1 h2 => ?_, ?_, ?_, ?_, ?_, ?_, ?_⟩
      · simp [s2_at]
      · simp [s2_at, c2]
      · simpa [s2_at] using c3 s h1 h2
      · simpa [s2_at] using c4 s h1 h2
      · simp [s2_at, c5]
      · simp [s2_at, c6]
      · simp [s2_at, c7]
      · simp [s2_at]
      · simp [s2_at]
      · simp [s2_at, c10]
    · exact Off.tr (Off.tr (s2_off (by simp)) (s2_off (by simp))) (s2_off (by simp))
  · have hlt := rsn_lt (aP a) (aS a) m
    rw [if_neg (by rw [i_eq0 (by omega)]; exact h0)]
    simp only [oo_v, hI_k, k1, if_true, c10, sI_S]
    refine ⟨_, rfl, ?_, s2_off (by simp)⟩
    unfold mv
    rw [if_neg h0]
    refine ⟨?_, ?_, fun s h1 h2 => ?_, fun s h1 h2 => ?_, ?_, ?_, ?_, ?_, ?_, ?_⟩
    · simp [s2_at, c1]
    · simp [s2_at, c2]
    · simpa [s2_at] using c3 s h1 h2
    · simpa [s2_at] using c4 s h1 h2
    · simp [s2_at, c5]
    · simp [s2_at, c6]
    · simp [s2_at, c7]
    · simp [s2_at, c8]
    · simp [s2_at, c9]
    · simp [s2_at]
theorem s_rankOfNow (w : WF h) (hc : CAt h.2.2 1 a) (ok : AOK a) : f_B_rankOfNow 1 h = rI (nI (rk (aB a) (aP a))) h := by
  rw [e_B_rankOfNow]
  simp only [oo_v, hI_k, kO_W w K1, if_true, hc.1, hc.2.1, s_rank ok.2.1 ok.1, cI_v]
/-- the slot of the book with this letter; 0 if there is none -/
def slt (a : AS) (x : Int32) : Nat → Nat → Nat
  | 0, _ => 0
  | k + 1, s => if nI (aL a s) = x then s else slt a x k (s + 1)
theorem s_slotOfL {x : Int32} (w : WF h) (hc : CAt h.2.2 1 a) (ok : AOK a) : ∀ (k s : Nat), 1 ≤ s → s + k = aB a + 1 → f_B_slotOf_2 1 x (nI s) h = rI (nI (slt a x k s)) h
  | 0, s, h1, hs => by
    have := ok.2.1
    rw [e_B_slotOf_2]
    simp only [oo_v, hI_k, kO_W w K1, if_true, hc.2.1]
    rw [if_pos (by rw [i_lt (by omega) (by omega)]; omega)]
    rfl
  | k + 1, s, h1, hs => by
    have := ok.2.1
    rw [e_B_slotOf_2]
    simp only [oo_v, hI_k, kO_W w K1, if_true, hc.2.1, hR_W w K1 (by omega) (show R0 1 2 = some 2 from rfl), kO_W w RW2.1, s_get w RW2 (show s < 6 by omega), cI_v, hc.2.2.1 s h1 (by omega)]
    rw [if_neg (by rw [i_lt (by omega) (by omega)]; omega)]
    unfold slt
    by_cases hx : nI (aL a s) = x
    · rw [if_pos hx, if_pos hx]
    · rw [if_neg hx, if_neg hx, L1, i_add]
      exact s_slotOfL w hc ok k (s + 1) (by omega) (by omega)
def slotOf (a : AS) (x : Int32) : Nat := slt a x (aB a) 1
theorem s_slotOf {x : Int32} (w : WF h) (hc : CAt h.2.2 1 a) (ok : AOK a) : f_B_slotOf 1 x h = rI (nI (slotOf a x)) h := by
  rw [e_B_slotOf]
  exact s_slotOfL w hc ok (aB a) 1 (by omega) (by omega)
def smw (o : Nat → Nat) : Nat → Nat
  | 0 => 0
  | n + 1 => smw o n + o (n + 1)
theorem s_sumL (w : WF h) (hc : CAt h.2.2 1 a) (ok : AOK a) : ∀ (k s : Nat), s + k = aB a → f_B_sumOfWeights_4 1 (nI (smw (aO a) s)) (nI (s + 1)) h = rI (nI (smw (aO a) (aB a))) h
  | 0, s, hs => by
    have := ok.2.1
    obtain rfl : s = aB a := by omega
    rw [e_B_sumOfWeights_4]
    simp only [oo_v, hI_k, kO_W w K1, if_true, hc.2.1]
    rw [if_pos (by rw [i_lt (by omega) (by omega)]; omega)]
  | k + 1, s, hs => by
    have := ok.2.1
    rw [e_B_sumOfWeights_4]
    simp only [oo_v, hI_k, kO_W w K1, if_true, hc.2.1, hR_W w K1 (by omega) (show R0 1 3 = some 4 from rfl), kO_W w RW4.1, s_get w RW4 (show s + 1 < 6 by omega), cI_v, hc.2.2.2.1 (s + 1) (by omega) (by omega)]
    rw [if_neg (by rw [i_lt (by omega) (by omega)]; omega), i_add, L1, i_add]
    exact s_sumL w hc ok k (s + 1) (by omega)
theorem s_sumOfWeights (w : WF h) (hc : CAt h.2.2 1 a) (ok : AOK a) : f_B_sumOfWeights 1 h = rI (nI (smw (aO a) (aB a))) h := by
  rw [e_B_sumOfWeights]
  exact s_sumL w hc ok (aB a) 0 (by omega)
def pmB (a : AS) (m : Nat) : Bool := decide (rsn (aP a) (aS a) m = 0)
theorem s_possL (w : WF h) (hc : CAt h.2.2 1 a) (ok : AOK a) : ∀ (k m : Nat), m + k = 19 → f_B_possibleMoves_4 1 (nI (cnt (pmB a) m)) (nI m) h = rI (nI (cnt (pmB a) 19)) h
  | 0, m, hm => by
    obtain rfl : m = 19 := by omega
    rw [e_B_possibleMoves_4, if_pos (by decide)]
  | k + 1, m, hm => by
    have h6 := ok.2.2.1
    have ih := s_possL w hc ok k (m + 1) (by omega)
    rw [e_B_possibleMoves_4, if_neg (by rw [L19, i_le (by omega) (by omega)]; omega)]
    simp only [oo_v, hI_k, kO_W w K1, if_true, hc.1, hc.2.2.2.2.1, s_reason ok.1.1 (show aS a < 2147483648 by omega) (show m < 19 by omega), cI_v]
    have hlt := rsn_lt (aP a) (aS a) m
    rw [show cnt (pmB a) (m + 1) = cnt (pmB a) m + (pmB a m).toNat from rfl] at ih
    unfold pmB at ih ⊢
    by_cases h0 : rsn (aP a) (aS a) m = 0
    · rw [if_pos (by rw [h0]; rfl), L1, i_add, i_add]
      rw [h0] at ih
      exact ih
    · rw [if_neg (by rw [i_eq0 (by omega)]; exact h0), L1, i_add]
      rw [decide_eq_false h0] at ih
      exact ih
theorem s_possibleMoves (w : WF h) (hc : CAt h.2.2 1 a) (ok : AOK a) : f_B_possibleMoves 1 h = rI (nI (cnt (pmB a) 19)) h := by
  rw [e_B_possibleMoves]
  exact s_possL w hc ok 19 0 rfl
end Sh1
end
section
/-! a book more, a book less -/
def pk7 (g : Nat → Nat) : Nat := g 0 + 8 * (g 1 + 8 * (g 2 + 8 * (g 3 + 8 * (g 4 + 8 * (g 5 + 8 * g 6)))))
theorem pk7_lt {g : Nat → Nat} (hg : ∀ i, i < 7 → g i < 8) : pk7 g < 2097152 := by
  have h0 := hg 0 (by omega)
  have h1 := hg 1 (by omega)
  have h2 := hg 2 (by omega)
  have h3 := hg 3 (by omega)
  have h4 := hg 4 (by omega)
  have h5 := hg 5 (by omega)
  have h6 := hg 6 (by omega)
  unfold pk7
  omega
theorem pk7_sl {g : Nat → Nat} (hg : ∀ i, i < 7 → g i < 8) {q : Nat} (hq : q < 7) : sl (pk7 g) q = g q := by
  have h0 := hg 0 (by omega)
  have h1 := hg 1 (by omega)
  have h2 := hg 2 (by omega)
  have h3 := hg 3 (by omega)
  have h4 := hg 4 (by omega)
  have h5 := hg 5 (by omega)
  have h6 := hg 6 (by omega)
  have hq' : q = 0 ∨ q = 1 ∨ q = 2 ∨ q = 3 ∨ q = 4 ∨ q = 5 ∨ q = 6 := by omega
  rw [sl_div]
  unfold pk7
  rcases hq' with rfl | rfl | rfl | rfl | rfl | rfl | rfl <;> omega
def rnm (u : Nat → Nat) (P : Nat) : Nat := pk7 fun q => u (sl P q)
section Ren
variable {h : pH}
theorem s_renL {P t : Nat} {y : Int32} {u : Nat → Nat} (w : WF h) (ht : t < 100) (hu : ∀ q, q < 7 → u (sl P q) < 8 ∧ (t ≤ sl P q → nI (sl P q) + y = nI (u (sl P q))) ∧ (sl P q < t → u (sl P q) = sl P q)) : ∀ (k i : Nat), i + k = 7 →
    f_B_renumber_2 1 (nI t) y (nI i) (hS h (s2 h.2.2 1 0 (nI (pk7 fun q => if q < i then u (sl P q) else sl P q)))) = rV (hS h (s2 h.2.2 1 0 (nI (rnm u P))))
  | 0, i, hi => by
    obtain rfl : i = 7 := by omega
    rw [e_B_renumber_2, if_pos (by decide)]
    have : (pk7 fun q => if q < 7 then u (sl P q) else sl P q) = rnm u P := by
      unfold rnm pk7
      simp
    rw [this]
  | k + 1, i, hi => by
    have hg : ∀ j, j < 7 → (if j < i then u (sl P j) else sl P j) < 8 := by
      intro j hj
      split
      · exact (hu j hj).1
      · exact sl_lt _ _
    have hPi := pk7_lt hg
    have hsl := pk7_sl hg (show i < 7 by omega)
    have ih := s_renL (P := P) w ht hu k (i + 1) (by omega)
    rw [if_neg (by omega)] at hsl
    generalize hQ : (pk7 fun q => if q < i then u (sl P q) else sl P q) = Q at *
    have hs := sl_lt P i
    obtain ⟨u1, u2, u3⟩ := hu i (by omega)
    have hnext : (pk7 fun q => if q < i + 1 then u (sl P q) else sl P q) = wsl Q i (u (sl P i)) := by
      have hg2 : ∀ j, j < 7 → (if j < i + 1 then u (sl P j) else sl P j) < 8 := by
        intro j hj
        split
        · exact (hu j hj).1
        · exact sl_lt _ _
      refine sl_ext (pk7_lt hg2) (wsl_lt hPi (by omega) u1) (fun q hq => ?_)
      rw [pk7_sl hg2 hq, sl_wsl (by omega) hq u1]
      by_cases hqi : q = i
      · rw [if_pos hqi, if_pos (by omega), hqi]
      · rw [if_neg hqi, ← hQ, pk7_sl hg hq]
        by_cases h2 : q < i
        · rw [if_pos h2, if_pos (by omega)]
        · rw [if_neg h2, if_neg (by omega)]
    rw [e_B_renumber_2, if_neg (by rw [L7, i_le (by omega) (by omega)]; omega)]
    simp only [oo_v, hI_k, kO_S, kO_W w K1, if_true, hS_2, s2_at, s_slotAt hPi (show i < 7 by omega), cI_v, hsl]
    by_cases hst : sl P i < t
    · rw [if_pos (by rw [i_lt (by omega) (by omega)]; exact hst), L1, i_add]
      have hsame : wsl Q i (u (sl P i)) = Q := by
        refine sl_ext (wsl_lt hPi (by omega) u1) hPi (fun q hq => ?_)
        rw [sl_wsl (by omega) hq u1]
        by_cases hqi : q = i
        · rw [if_pos hqi, hqi, hsl, u3 hst]
        · rw [if_neg hqi]
      rw [hnext, hsame] at ih
      exact ih
    · rw [if_neg (by rw [i_lt (by omega) (by omega)]; exact hst), u2 (by omega), s_withSlot hPi (by omega) u1, cI_v]
      simp only [sI_S, hS_S, hS_2, L1, i_add]
      rw [hnext] at ih
      have e1 : s2 (s2 h.2.2 1 0 (nI Q)) 1 0 (nI (wsl Q i (u (sl P i)))) = s2 h.2.2 1 0 (nI (wsl Q i (u (sl P i)))) := by
        funext a b
        simp only [s2_at]
        split
        · split <;> rfl
        · rfl
      rw [e1, if_pos (kO_W (WF_S w) K1)]
      exact ih
theorem s_renumber {P t : Nat} {y : Int32} {u : Nat → Nat} (w : WF h) (hP : P < 2097152) (hp : h.2.2 1 0 = nI P) (ht : t < 100) (hu : ∀ q, q < 7 → u (sl P q) < 8 ∧ (t ≤ sl P q → nI (sl P q) + y = nI (u (sl P q))) ∧ (sl P q < t → u (sl P q) = sl P q)) : f_B_renumber 1 (nI t) y h = rV (hS h (s2 h.2.2 1 0 (nI (rnm u P)))) := by
  have h1 := s_renL (h := h) (P := P) w ht hu 7 0 rfl
  have h2 : (pk7 fun q => if q < 0 then u (sl P q) else sl P q) = P := by
    have hg : ∀ j, j < 7 → (if j < 0 then u (sl P j) else sl P j) < 8 := fun j _ => by rw [if_neg (by omega)]; exact sl_lt _ _
    refine sl_ext (pk7_lt hg) hP (fun q hq => ?_)
    rw [pk7_sl hg hq, if_neg (by omega)]
  have h3 : s2 h.2.2 1 0 (nI P) = h.2.2 := by
    funext a b
    rw [s2_at]
    split
    · rename_i e1
      split
      · rename_i e2
        rw [e1, e2, hp]
      · rfl
    · rfl
  rw [h2, h3, hS_self] at h1
  rw [e_B_renumber]
  exact h1
end Ren
/-- behind a letter's place the slots go up by one -/
def up1 (t s : Nat) : Nat := if t ≤ s then s + 1 else s
def dn1 (t s : Nat) : Nat := if t < s then s - 1 else s
/-- how many letters are lesser -/
def les (a : AS) (x : Nat) : Nat := cnt (fun i => decide (aL a (i + 1) < x)) (aB a)
theorem les_le (a : AS) (x : Nat) : les a x ≤ aB a := cnt_le _ _
def insS (S t : Nat) : Nat := ((S - (S &&& (1 <<< t) - 1)) <<< 1) ||| (S &&& (1 <<< t) - 1)
/-- a book of letter x and weight y at place p -/
def ins (a : AS) (x y p : Nat) : AS :=
  ((wsl (rnm (up1 (les a x + 1)) (aP a)) p (les a x + 1), aB a + 1, insS (aS a) (les a x + 1), aF a, aC a), (fun s => if s < les a x + 1 then aL a s else if s = les a x + 1 then x else aL a (s - 1)), (fun s => if s < les a x + 1 then aO a s else if s = les a x + 1 then y else aO a (s - 1)), aM a, aE a, aR a)
section Ins
variable {h : pH} {a : AS}
def shG (f : Nat → Nat → Int32) (j b : Nat) : Nat → Nat → Int32 := fun k s => if (k = 3 ∨ k = 5) ∧ j + 1 < s ∧ s ≤ b + 1 then f k (s - 1) else f k s
theorem shG_step {f : Nat → Nat → Int32} {j b : Nat} (hj : 1 ≤ j) (hb : j ≤ b) : s2 (s2 (shG f j b) 3 (j + 1) (f 3 j)) 5 (j + 1) (f 5 j) = shG f (j - 1) b := by
  funext k s
  simp only [s2_at, shG]
  by_cases hk3 : k = 3
  · subst hk3
    by_cases hs : s = j + 1
    · subst hs
      have : j - 1 + 1 < j + 1 := by omega
      simp [this, hb]
    · by_cases h2 : j + 1 < s
      · have : j - 1 + 1 < s := by omega
        simp [hs, h2, this]
      · have : ¬ j - 1 + 1 < s := by omega
        simp [hs, h2, this]
  · by_cases hk5 : k = 5
    · subst hk5
      by_cases hs : s = j + 1
      · subst hs
        have : j - 1 + 1 < j + 1 := by omega
        simp [this, hb]
      · by_cases h2 : j + 1 < s
        · have : j - 1 + 1 < s := by omega
          simp [hs, h2, this]
        · have : ¬ j - 1 + 1 < s := by omega
          simp [hs, h2, this]
    · simp [hk3, hk5]
theorem s_insCount {x : Nat} {y z : Int32} (w : WF h) (hc : CAt h.2.2 1 a) (ok : AOK a) (hx : x < 26) : ∀ (k i : Nat), i + k = aB a → f_B_insert_6 1 (nI x) y z (nI (cnt (fun i => decide (aL a (i + 1) < x)) i + 1)) (nI (i + 1)) h = f_B_insert_43 1 (nI x) y z (nI (les a x + 1)) (nI (aB a)) h
  | 0, i, hi => by
    have := ok.2.1
    obtain rfl : i = aB a := by omega
    rw [e_B_insert_6]
    simp only [oo_v, hI_k, kO_W w K1, if_true, hc.2.1]
    rw [if_pos (by rw [i_lt (by omega) (by omega)]; omega)]
    rfl
  | k + 1, i, hi => by
    have := ok.2.1
    have hcl := cnt_le (fun i => decide (aL a (i + 1) < x)) i
    have hL := (ok.2.2.2.2.2.2.1 (i + 1) (by omega) (by omega)).1
    have ih := s_insCount (y := y) (z := z) w hc ok hx k (i + 1) (by omega)
    rw [show cnt (fun i => decide (aL a (i + 1) < x)) (i + 1) = cnt (fun i => decide (aL a (i + 1) < x)) i + (decide (aL a (i + 1) < x)).toNat from rfl] at ih
    rw [e_B_insert_6]
    simp only [oo_v, hI_k, kO_W w K1, if_true, hc.2.1, hR_W w K1 (by omega) (show R0 1 2 = some 2 from rfl), kO_W w RW2.1, s_get w RW2 (show i + 1 < 6 by omega), cI_v, hc.2.2.1 (i + 1) (by omega) (by omega)]
    rw [if_neg (by rw [i_lt (by omega) (by omega)]; omega)]
    by_cases hlt : aL a (i + 1) < x
    · rw [if_neg (by rw [i_le (by omega) (by omega)]; omega), L1, i_add, i_add]
      rw [decide_eq_true hlt] at ih
      exact ih
    · rw [if_pos (by rw [i_le (by omega) (by omega)]; omega), L1, i_add]
      rw [decide_eq_false hlt] at ih
      exact ih
theorem s_insShift {x t y p : Nat} {f : Nat → Nat → Int32} (w : WF h) (hf : f 1 1 = nI (aB a)) (hb : aB a < 5) (ht1 : 1 ≤ t) (ht2 : t ≤ aB a + 1) : ∀ (k j : Nat), j + 1 = t + k → j ≤ aB a →
    f_B_insert_43 1 (nI x) (nI y) (nI p) (nI t) (nI j) (hS h (shG f j (aB a))) = f_B_insert_43 1 (nI x) (nI y) (nI p) (nI t) (nI (t - 1)) (hS h (shG f (t - 1) (aB a)))
  | 0, j, hj, hjb => by
    rw [show j = t - 1 by omega]
  | k + 1, j, hj, hjb => by
    have ih := s_insShift (x := x) (y := y) (p := p) w hf hb ht1 ht2 k (j - 1) (by omega) (by omega)
    have r2 := hR_W w K1 (by omega) (show R0 1 2 = some 2 from rfl)
    have r3 := hR_W w K1 (by omega) (show R0 1 3 = some 4 from rfl)
    have g3 : shG f j (aB a) 3 j = f 3 j := by simp [shG, show ¬ j + 1 < j by omega]
    have g5 : s2 (shG f j (aB a)) 3 (j + 1) (f 3 j) 5 j = f 5 j := by simp [s2_at, shG, show ¬ j + 1 < j by omega]
    rw [e_B_insert_43, if_neg (by rw [i_lt (by omega) (by omega)]; omega)]
    simp only [oo_v, hR_S, r2, kO_S, kO_W w RW2.1, if_true, s_get (WF_S w) RW2 (show j < 6 by omega), cI_v, hS_2, g3, L1, i_add, s_put (WF_S w) RW2 (show j + 1 < 6 by omega), cV_v, hS_S, r3, kO_W w RW4.1, s_get (WF_S w) RW4 (show j < 6 by omega), g5, s_put (WF_S w) RW4 (show j + 1 < 6 by omega), i_dec1 (show 1 ≤ j by omega)]
    rw [shG_step (by omega) hjb]
    exact ih
theorem shG_0 {f : Nat → Nat → Int32} {b : Nat} : shG f b b = f := by
  funext k s
  unfold shG
  rw [if_neg (by omega)]
theorem and_pow1 (n t : Nat) : n &&& (1 <<< t) - 1 = n % 2 ^ t := by rw [Nat.one_shiftLeft, Nat.and_two_pow_sub_one_eq_mod]
theorem insS_bit {S t s : Nat} (ht : 1 ≤ t) : (insS S t).testBit s = if s < t then S.testBit s else if s = t then false else S.testBit (s - 1) := by
  unfold insS
  rw [and_pow1]
  have h1 : S - S % 2 ^ t = (S >>> t) <<< t := by
    rw [Nat.shiftRight_eq_div_pow, Nat.shiftLeft_eq]
    have := Nat.mod_add_div S (2 ^ t)
    rw [Nat.mul_comm] at this
    omega
  rw [h1, Nat.testBit_or, Nat.testBit_shiftLeft, Nat.testBit_shiftLeft, Nat.testBit_shiftRight, Nat.testBit_mod_two_pow]
  by_cases h2 : s < t
  · rw [if_pos h2]
    have h3 : ¬ t ≤ s - 1 := by omega
    simp [h2, h3]
  · rw [if_neg h2]
    by_cases h3 : s = t
    · rw [if_pos h3]
      have h4 : ¬ t ≤ s - 1 := by omega
      simp [h2, h4]
    · rw [if_neg h3]
      have h4 : t ≤ s - 1 := by omega
      have h5 : 1 ≤ s := by omega
      simp [h2, h4, h5]
theorem insS_lt {S t b : Nat} (ht1 : 1 ≤ t) (hb : b < 5) (htb : t ≤ b + 1) (hS : ∀ s, S.testBit s = true → 1 ≤ s ∧ s ≤ b) : (∀ s, (insS S t).testBit s = true → 1 ≤ s ∧ s ≤ b + 1) ∧ insS S t < 64 := by
  have h1 : ∀ s, (insS S t).testBit s = true → 1 ≤ s ∧ s ≤ b + 1 := by
    intro s hs
    rw [insS_bit ht1] at hs
    split at hs
    · have := hS s hs
      omega
    · split at hs
      · cases hs
      · have := hS _ hs
        omega
  refine ⟨h1, Nat.lt_pow_two_of_testBit (n := 6) _ fun i hi => ?_⟩
  cases hbit : (insS S t).testBit i
  · rfl
  · have := h1 i hbit
    omega
theorem insS_i {S t : Nat} (hS : S < 64) (ht : t < 8) : ((nI S - (nI S &&& (((1 : Int32) <<< (nI t &&& 31)) - (1 : Int32)))) <<< ((1 : Int32) &&& 31)) ||| (nI S &&& (((1 : Int32) <<< (nI t &&& 31)) - (1 : Int32))) = nI (insS S t) := by
  have h1 : S &&& (1 <<< t) - 1 ≤ S := Nat.and_le_left
  rw [L1, i_shl (by omega), i_sub (shl1_pos ht), i_and, i_sub h1, i_shl (by omega), i_or]
  rfl
theorem up1_ok {t : Nat} (ht : t < 8) {P b : Nat} (hb : b < 5) (hv : VW b P) : ∀ q, q < 7 → up1 t (sl P q) < 8 := by
  intro q hq
  have := hv.2.1 q hq
  unfold up1
  split <;> omega
theorem s_insert {x y p : Nat} (w : WF h) (hc : CAt h.2.2 1 a) (ok : AOK a) (hx : x < 26) (hp : p < 7) (h5 : aB a < 5) : ∃ g, f_B_insert 1 (nI x) (nI y) (nI p) h = rV (hS h g) ∧ CAt g 1 (ins a x y p) ∧ Off h.2.2 g [1, 3, 5] := by
  obtain ⟨c1, c2, c3, c4, c5, c6, c7, c8, c9, c10⟩ := id hc
  have hles := les_le a x
  have ht : les a x + 1 < 8 := by omega
  have k1 := kO_W w K1
  have r2 := hR_W w K1 (by omega) (show R0 1 2 = some 2 from rfl)
  have r3 := hR_W w K1 (by omega) (show R0 1 3 = some 4 from rfl)
  have e0 := s_insCount (y := nI y) (z := nI p) w hc ok hx (aB a) 0 (by omega)
  have e1 := s_insShift (x := x) (y := y) (p := p) (f := h.2.2) w c2 h5 (show 1 ≤ les a x + 1 by omega) (by omega) (aB a - les a x) (aB a) (by omega) (Nat.le_refl _)
  rw [shG_0, hS_self] at e1
  rw [e_B_insert, L1]
  rw [show f_B_insert_6 1 (nI x) (nI y) (nI p) (nI 1) (nI 1) h = _ from e0, e1, e_B_insert_43, if_pos (by rw [i_lt (by omega) (by omega)]; omega)]
  have hS64 := ok.2.2.1
  have hv := ok.1
  have hu8 := up1_ok ht h5 hv
  generalize hT : les a x + 1 = T at *
  have g1 : ∀ j, shG h.2.2 (T - 1) (aB a) 1 j = h.2.2 1 j := fun j => by simp [shG]
  have hP1 : rnm (up1 T) (aP a) < 2097152 := pk7_lt hu8
  have hT6 : T < 6 := by omega
  have rn1 := s_renumber (h := hS h (s2 (s2 (shG h.2.2 (T - 1) (aB a)) 3 T (nI x)) 5 T (nI y))) (P := aP a) (t := T) (y := (1 : Int32)) (u := up1 T) (WF_S w) hv.1 (by simp [hS_2, s2_at, g1, c1]) (by omega) (fun q hq => ⟨hu8 q hq, fun hle => by rw [L1, i_add]; unfold up1; rw [if_pos hle], fun hlt => by unfold up1; rw [if_neg (by omega)]⟩)
  rw [hS_S, hS_2] at rn1
  simp only [oo_v, hI_k, hR_S, r2, r3, kO_S, k1, kO_W w RW2.1, kO_W w RW4.1, if_true, s_put (WF_S w) RW2 hT6, cV_v, hS_S, hS_2, s_put (WF_S w) RW4 hT6, rn1]
  have e5 : s2 (s2 (s2 (shG h.2.2 (T - 1) (aB a)) 3 T (nI x)) 5 T (nI y)) 1 0 (nI (rnm (up1 T) (aP a))) 1 4 = nI (aS a) := by simp [s2_at, g1, c5]
  have e6 : s2 (s2 (s2 (shG h.2.2 (T - 1) (aB a)) 3 T (nI x)) 5 T (nI y)) 1 0 (nI (rnm (up1 T) (aP a))) 1 1 = nI (aB a) := by simp [s2_at, g1, c2]
  have e7 : s2 (s2 (s2 (shG h.2.2 (T - 1) (aB a)) 3 T (nI x)) 5 T (nI y)) 1 0 (nI (rnm (up1 T) (aP a))) 1 0 = nI (rnm (up1 T) (aP a)) := by simp [s2_at]
  simp only [e5, insS_i hS64 ht, sI_S, hS_S, hS_2, kO_S, k1, if_true, oo_v]
  simp only [s2_at (k := 1) (j := 4), show ¬ (0 : Nat) = 4 by omega, if_true, if_false, e7, s_withSlot hP1 hp (show T < 8 by omega), cI_v, sI_S, hS_S, hS_2, kO_S, k1, oo_v]
  simp only [s2_at (k := 1) (j := 0) (b := 1), s2_at (k := 1) (j := 4) (b := 1), show ¬ (1 : Nat) = 0 by omega, show ¬ (1 : Nat) = 4 by omega, if_true, if_false, e6, L1, i_add]
  refine ⟨_, rfl, ?_, ?_⟩
  · unfold ins
    rw [hT]
    refine ⟨?_, ?_, fun s h1 h2 => ?_, fun s h1 h2 => ?_, ?_, ?_, ?_, ?_, ?_, ?_⟩
    · simp [s2_at]
    · show _ = nI (aB a + 1)
      simp [s2_at, g1, c2, i_add]
    · show _ = nI (if s < T then aL a s else if s = T then x else aL a (s - 1))
      have h2 : s ≤ aB a + 1 := h2
      simp only [s2_at, shG]
      by_cases z1 : s = T
      · subst z1; simp
      · by_cases z2 : s < T
        · have z3 : ¬ T - 1 + 1 < s := by omega
          have z4 := c3 s h1 (by omega)
          simp [z1, z2, z3, z4]
        · have z3 : T - 1 + 1 < s := by omega
          have z4 := c3 (s - 1) (by omega) (by omega)
          simp [z1, z2, z3, h2, z4]
    · show _ = nI (if s < T then aO a s else if s = T then y else aO a (s - 1))
      have h2 : s ≤ aB a + 1 := h2
      simp only [s2_at, shG]
      by_cases z1 : s = T
      · subst z1; simp
      · by_cases z2 : s < T
        · have z3 : ¬ T - 1 + 1 < s := by omega
          have z4 := c4 s h1 (by omega)
          simp [z1, z2, z3, z4]
        · have z3 : T - 1 + 1 < s := by omega
          have z4 := c4 (s - 1) (by omega) (by omega)
          simp [z1, z2, z3, h2, z4]
    · simp [s2_at]
    · simp [s2_at, g1, c6]
    · simp [s2_at, g1, c7]
    · simp [s2_at, g1, c8]
    · simp [s2_at, g1, c9]
    · simp [s2_at, g1, c10]
  · intro k hk
    funext j
    simp only [List.mem_cons, List.not_mem_nil, or_false, not_or] at hk
    obtain ⟨z1, z2, z3⟩ := hk
    simp [s2_at, shG, z1, z2, z3]
theorem cnt_mono {g : Nat → Bool} : ∀ (n : Nat), (∀ i j, i < n → j ≤ i → g i = true → g j = true) → ∀ i, i < n → (g i = true ↔ i < cnt g n)
  | 0, _, i, hi => by omega
  | n + 1, hg, i, hi => by
    have ih := cnt_mono n (fun i j h1 h2 => hg i j (by omega) h2)
    have hle := cnt_le g n
    show g i = true ↔ i < cnt g n + (g n).toNat
    cases hn : g n
    · show g i = true ↔ i < cnt g n
      by_cases h1 : i < n
      · exact ih i h1
      · obtain rfl : i = n := by omega
        rw [hn]
        simp
        omega
    · have hall : ∀ j, j < n → g j = true := fun j hj => hg n j (by omega) (by omega) hn
      have hc : cnt g n = n := by
        refine Nat.le_antisymm hle ?_
        cases n with
        | zero => omega
        | succ k =>
          have := (ih k (by omega)).mp (hall k (by omega))
          omega
      show g i = true ↔ i < cnt g n + 1
      rw [hc]
      constructor
      · intro _; omega
      · intro h1
        by_cases h2 : i < n
        · exact hall i h2
        · rw [show i = n by omega]; exact hn
theorem les_iff (ok : AOK a) {x s : Nat} (h1 : 1 ≤ s) (h2 : s ≤ aB a) : aL a s < x ↔ s ≤ les a x := by
  have hm := cnt_mono (g := fun i => decide (aL a (i + 1) < x)) (aB a) (fun i j hi hj hg => by
    have hg := of_decide_eq_true hg
    rcases Nat.lt_or_eq_of_le hj with h | h
    · have := ok.2.2.2.2.2.2.2 (j + 1) (i + 1) (by omega) (by omega) (by omega)
      exact decide_eq_true (by omega)
    · rw [h]; exact decide_eq_true hg) (s - 1) (by omega)
  rw [show s - 1 + 1 = s by omega, decide_eq_true_eq] at hm
  rw [hm]
  show s - 1 < les a x ↔ _
  omega
theorem ins_ok {x y p : Nat} (ok : AOK a) (hx : x < 26) (hy : 1 ≤ y ∧ y ≤ 9) (hp : p < 7) (h5 : aB a < 5) (h0 : sl (aP a) p = 0) (hn : ∀ s, 1 ≤ s → s ≤ aB a → aL a s ≠ x) : AOK (ins a x y p) := by
  obtain ⟨v1, v2, v3, v4, v5, v6, v7, v8⟩ := id ok
  have hles := les_le a x
  have hu8 := up1_ok (t := les a x + 1) (by omega) h5 v1
  have hQ := pk7_lt hu8
  have hsl : ∀ q, q < 7 → sl (rnm (up1 (les a x + 1)) (aP a)) q = up1 (les a x + 1) (sl (aP a) q) := fun q hq => pk7_sl hu8 hq
  have hi := insS_lt (t := les a x + 1) (by omega) h5 (by omega) v4
  have hli := fun s (h1 : 1 ≤ s) (h2 : s ≤ aB a) => les_iff (x := x) ok h1 h2
  have hqp : sl (rnm (up1 (les a x + 1)) (aP a)) p = 0 := by
    rw [hsl p hp, h0]
    unfold up1
    rw [if_neg (by omega)]
  unfold ins
  generalize hT : les a x + 1 = T at *
  refine ⟨⟨wsl_lt hQ hp (by omega), fun q hq => ?_, fun s h1 h2 => ?_⟩, by show aB a + 1 < 6; omega, hi.2, hi.1, v5, v6, fun s h1 h2 => ?_, fun s u h1 h2 h3 => ?_⟩
  · rw [sl_wsl hp hq (by omega)]
    have := v1.2.1 q hq
    show _ ≤ aB a + 1
    split
    · omega
    · rw [hsl q hq]
      unfold up1
      split <;> omega
  · have h2 : s ≤ aB a + 1 := h2
    have e1 := cs_wsl (P := rnm (up1 T) (aP a)) (p := p) (s := T) (t := s) hp (by omega)
    rw [hqp, show (0 == s) = false from by simp; omega] at e1
    have e2 : cs (rnm (up1 T) (aP a)) s = if s < T then cs (aP a) s else if s = T then 0 else cs (aP a) (s - 1) := by
      by_cases z1 : s < T
      · rw [if_pos z1]
        refine cnt_congr 7 (fun q hq => ?_)
        rw [hsl q hq]
        unfold up1
        split
        · rw [beq_eq_false_iff_ne.mpr (by omega), beq_eq_false_iff_ne.mpr (by omega)]
        · rfl
      · rw [if_neg z1]
        by_cases z2 : s = T
        · rw [if_pos z2]
          rw [show cs (rnm (up1 T) (aP a)) s = cnt (fun _ => false) 7 from cnt_congr 7 (fun q hq => by
            rw [hsl q hq]
            unfold up1
            split <;> exact beq_eq_false_iff_ne.mpr (by omega))]
          rfl
        · rw [if_neg z2]
          refine cnt_congr 7 (fun q hq => ?_)
          rw [hsl q hq]
          unfold up1
          split
          · by_cases z3 : sl (aP a) q = s - 1
            · rw [z3, beq_self_eq_true]
              exact beq_iff_eq.mpr (by omega)
            · rw [beq_eq_false_iff_ne.mpr (by omega), beq_eq_false_iff_ne.mpr z3]
          · rw [beq_eq_false_iff_ne.mpr (by omega), beq_eq_false_iff_ne.mpr (by omega)]
    rw [e2] at e1
    show cs _ s = 1
    by_cases z1 : s < T
    · rw [if_pos z1, v1.2.2 s h1 (by omega), show (T == s) = false from beq_eq_false_iff_ne.mpr (by omega)] at e1
      simpa using e1
    · rw [if_neg z1] at e1
      by_cases z2 : s = T
      · rw [if_pos z2, show (T == s) = true from beq_iff_eq.mpr z2.symm] at e1
        simpa using e1
      · rw [if_neg z2, v1.2.2 (s - 1) (by omega) (by omega), show (T == s) = false from beq_eq_false_iff_ne.mpr (by omega)] at e1
        simpa using e1
  · have h2 : s ≤ aB a + 1 := h2
    show (if s < T then aL a s else if s = T then x else aL a (s - 1)) < 26 ∧ 1 ≤ (if s < T then aO a s else if s = T then y else aO a (s - 1)) ∧ (if s < T then aO a s else if s = T then y else aO a (s - 1)) ≤ 9
    by_cases z1 : s < T
    · rw [if_pos z1, if_pos z1]
      exact v7 s h1 (by omega)
    · rw [if_neg z1, if_neg z1]
      by_cases z2 : s = T
      · rw [if_pos z2, if_pos z2]
        exact ⟨hx, hy⟩
      · rw [if_neg z2, if_neg z2]
        exact v7 (s - 1) (by omega) (by omega)
  · have h3 : u ≤ aB a + 1 := h3
    show (if s < T then aL a s else if s = T then x else aL a (s - 1)) < (if u < T then aL a u else if u = T then x else aL a (u - 1))
    by_cases z1 : s < T
    · rw [if_pos z1]
      by_cases z2 : u < T
      · rw [if_pos z2]
        exact v8 s u h1 h2 (by omega)
      · rw [if_neg z2]
        have y1 := (hli s h1 (by omega)).mpr (by omega)
        by_cases z3 : u = T
        · rw [if_pos z3]
          exact y1
        · rw [if_neg z3]
          by_cases z4 : s = u - 1
          · omega
          · exact v8 s (u - 1) h1 (by omega) (by omega)
    · rw [if_neg z1, if_neg (show ¬ u < T by omega), if_neg (show ¬ u = T by omega)]
      by_cases z2 : s = T
      · rw [if_pos z2]
        have y1 := mt (hli (u - 1) (by omega) (by omega)).mp (by omega)
        have y2 := hn (u - 1) (by omega) (by omega)
        omega
      · rw [if_neg z2]
        exact v8 (s - 1) (u - 1) (by omega) (by omega) (by omega)
end Ins
end
section
/-! a book less -/
def takS (S t : Nat) : Nat := ((S >>> (t + 1)) <<< t) ||| (S &&& (1 <<< t) - 1)
/-- the book at place p comes off -/
def tak (a : AS) (p : Nat) : AS :=
  ((rnm (dn1 (sl (aP a) p)) (wsl (aP a) p 0), aB a - 1, takS (aS a) (sl (aP a) p), aF a, aC a), (fun s => if s < sl (aP a) p then aL a s else aL a (s + 1)), (fun s => if s < sl (aP a) p then aO a s else aO a (s + 1)), aM a, aE a, aR a)
theorem takS_i {S t : Nat} (hS : S < 64) (ht : t < 8) : ((ius (nI S) (nI t + (1 : Int32))) <<< (nI t &&& 31)) ||| (nI S &&& (((1 : Int32) <<< (nI t &&& 31)) - (1 : Int32))) = nI (takS S t) := by
  rw [L1, i_add, i_ius (by omega) (by omega), i_shl (by omega), i_shl (by omega), i_sub (shl1_pos ht), i_and, i_or]
  rfl
theorem takS_bit {S t s : Nat} : (takS S t).testBit s = if s < t then S.testBit s else S.testBit (s + 1) := by
  unfold takS
  rw [and_pow1, Nat.testBit_or, Nat.testBit_shiftLeft, Nat.testBit_shiftRight, Nat.testBit_mod_two_pow]
  by_cases h2 : s < t
  · rw [if_pos h2]
    have h3 : ¬ t ≤ s := by omega
    simp [h2, h3]
  · rw [if_neg h2]
    have h3 : t ≤ s := by omega
    have h4 : t + 1 + (s - t) = s + 1 := by omega
    simp [h2, h3, h4]
section Tak
variable {h : pH} {a : AS}
def shT (f : Nat → Nat → Int32) (t j : Nat) : Nat → Nat → Int32 := fun k s => if (k = 3 ∨ k = 5) ∧ t ≤ s ∧ s < j then f k (s + 1) else f k s
theorem shT_step {f : Nat → Nat → Int32} {t j : Nat} (hj : t ≤ j) : s2 (s2 (shT f t j) 3 j (f 3 (j + 1))) 5 j (f 5 (j + 1)) = shT f t (j + 1) := by
  funext k s
  simp only [s2_at, shT]
  by_cases hk3 : k = 3
  · subst hk3
    by_cases hs : s = j
    · subst hs
      simp [hj]
    · by_cases h2 : s < j
      · have : s < j + 1 := by omega
        simp [hs, h2, this]
      · have : ¬ s < j + 1 := by omega
        simp [hs, h2, this]
  · by_cases hk5 : k = 5
    · subst hk5
      by_cases hs : s = j
      · subst hs
        simp [hj]
      · by_cases h2 : s < j
        · have : s < j + 1 := by omega
          simp [hs, h2, this]
        · have : ¬ s < j + 1 := by omega
          simp [hs, h2, this]
    · simp [hk3, hk5]
theorem shT_0 {f : Nat → Nat → Int32} {t : Nat} : shT f t t = f := by
  funext k s
  unfold shT
  rw [if_neg (by omega)]
theorem s_takShift {t : Nat} {x : Int32} {f : Nat → Nat → Int32} (w : WF h) (hf : f 1 1 = nI (aB a)) (hb : aB a < 6) : ∀ (k j : Nat), j + k = aB a → t ≤ j →
    f_B_takeOff_34 1 (nI t) x (nI j) (hS h (shT f t j)) = f_B_takeOff_34 1 (nI t) x (nI (aB a)) (hS h (shT f t (aB a)))
  | 0, j, hj, htj => by rw [show j = aB a by omega]
  | k + 1, j, hj, htj => by
    have ih := s_takShift (t := t) (x := x) w hf hb k (j + 1) (by omega) (by omega)
    have r2 := hR_W w K1 (by omega) (show R0 1 2 = some 2 from rfl)
    have r3 := hR_W w K1 (by omega) (show R0 1 3 = some 4 from rfl)
    have k1 := kO_W w K1
    have g1 : shT f t j 1 1 = nI (aB a) := by simp [shT, hf]
    have g3 : shT f t j 3 (j + 1) = f 3 (j + 1) := by simp [shT, show ¬ j + 1 < j by omega]
    have g5 : s2 (shT f t j) 3 j (f 3 (j + 1)) 5 (j + 1) = f 5 (j + 1) := by simp [s2_at, shT, show ¬ j + 1 < j by omega]
    rw [e_B_takeOff_34]
    simp only [oo_v, hI_k, hR_S, r2, kO_S, k1, kO_W w RW2.1, if_true, hS_2, g1, L1, i_add, s_get (WF_S w) RW2 (show j + 1 < 6 by omega), cI_v, g3, s_put (WF_S w) RW2 (show j < 6 by omega), cV_v, hS_S, r3, kO_W w RW4.1, s_get (WF_S w) RW4 (show j + 1 < 6 by omega), g5, s_put (WF_S w) RW4 (show j < 6 by omega)]
    rw [if_neg (by rw [i_le (by omega) (by omega)]; omega), shT_step htj]
    exact ih
theorem s_takeOff {p : Nat} (w : WF h) (hc : CAt h.2.2 1 a) (ok : AOK a) (hp : p < 7) (h0 : sl (aP a) p ≠ 0) : ∃ g, f_B_takeOff 1 (nI p) h = rI (nI (aL a (sl (aP a) p))) (hS h g) ∧ CAt g 1 (tak a p) ∧ Off h.2.2 g [1, 3, 5] := by
  obtain ⟨c1, c2, c3, c4, c5, c6, c7, c8, c9, c10⟩ := id hc
  have v1 := ok.1
  have hb := ok.2.1
  have hS64 := ok.2.2.1
  have htb := v1.2.1 p hp
  have k1 := kO_W w K1
  have r2 := hR_W w K1 (by omega) (show R0 1 2 = some 2 from rfl)
  have e1 := s_takShift (t := sl (aP a) p) (x := nI (aL a (sl (aP a) p))) (f := s2 h.2.2 1 0 (nI (wsl (aP a) p 0))) w (by simp [s2_at, c2]) hb (aB a - sl (aP a) p) (sl (aP a) p) (by omega) (Nat.le_refl _)
  rw [shT_0] at e1
  rw [e_B_takeOff]
  simp only [oo_v, hI_k, k1, if_true, c1, s_slotAt v1.1 hp, cI_v, r2, kO_W w RW2.1, s_get w RW2 (show sl (aP a) p < 6 by omega), L0, s_withSlot v1.1 hp (show (0 : Nat) < 8 by omega), sI_S]
  rw [show h.2.2 (2 + 1) (sl (aP a) p) = nI (aL a (sl (aP a) p)) from c3 _ (by omega) htb, e1]
  unfold tak
  have hW : wsl (aP a) p 0 < 2097152 := wsl_lt v1.1 hp (by omega)
  have hsl : ∀ q, q < 7 → sl (wsl (aP a) p 0) q < 6 ∧ (q = p → sl (wsl (aP a) p 0) q = 0) := fun q hq => by
    rw [sl_wsl hp hq (by omega)]
    have := v1.2.1 q hq
    split
    · exact ⟨by omega, fun _ => rfl⟩
    · rename_i z
      exact ⟨by omega, fun y => absurd y z⟩
  generalize hT : sl (aP a) p = T at *
  generalize hQ : wsl (aP a) p 0 = Q at *
  have hd8 : ∀ q, q < 7 → dn1 T (sl Q q) < 8 := fun q hq => by
    have := (hsl q hq).1
    unfold dn1
    split <;> omega
  have g1 : ∀ j, shT (s2 h.2.2 1 0 (nI Q)) T (aB a) 1 j = if j = 0 then nI Q else h.2.2 1 j := fun j => by simp [shT, s2_at]
  have rn1 := s_renumber (h := hS h (shT (s2 h.2.2 1 0 (nI Q)) T (aB a))) (P := Q) (t := T + 1) (y := (-1 : Int32)) (u := dn1 T) (WF_S w) hW (by rw [hS_2, g1, if_pos rfl]) (by omega) (fun q hq => ⟨hd8 q hq, fun hle => by rw [i_dec (by omega)]; unfold dn1; rw [if_pos (by omega)], fun hlt => by unfold dn1; rw [if_neg (by omega)]⟩)
  rw [hS_S, hS_2] at rn1
  have e4 : s2 (shT (s2 h.2.2 1 0 (nI Q)) T (aB a)) 1 0 (nI (rnm (dn1 T) Q)) 1 4 = nI (aS a) := by simp [s2_at, g1, c5]
  have e5 : s2 (shT (s2 h.2.2 1 0 (nI Q)) T (aB a)) 1 0 (nI (rnm (dn1 T) Q)) 1 1 = nI (aB a) := by simp [s2_at, g1, c2]
  have e6 : shT (s2 h.2.2 1 0 (nI Q)) T (aB a) 1 1 = nI (aB a) := by simp [g1, c2]
  rw [e_B_takeOff_34]
  simp only [oo_v, hI_k, kO_S, k1, if_true, hS_2, e6]
  rw [if_pos (by rw [i_le (by omega) (by omega)]; exact Nat.le_refl _)]
  rw [show nI T + (1 : Int32) = nI (T + 1) from i_add T 1, rn1, cV_v]
  have ts := takS_i (S := aS a) (t := T) hS64 (by omega)
  rw [show nI T + (1 : Int32) = nI (T + 1) from i_add T 1] at ts
  simp only [oo_v, hI_k, kO_S, kO_I, k1, if_true, hS_2, hS_S, sI_S, e4, ts]
  simp only [s2_at (k := 1) (j := 4) (b := 1), show ¬ (1 : Nat) = 4 by omega, if_true, if_false, e5, L1, i_sub (show 1 ≤ aB a by omega)]
  refine ⟨_, rfl, ?_, ?_⟩
  · refine ⟨?_, ?_, fun s h1 h2 => ?_, fun s h1 h2 => ?_, ?_, ?_, ?_, ?_, ?_, ?_⟩
    · simp [s2_at]
    · simp [s2_at]
    · show _ = nI (if s < T then aL a s else aL a (s + 1))
      have h2 : s ≤ aB a - 1 := h2
      simp only [s2_at, shT]
      by_cases z2 : s < T
      · have z4 := c3 s h1 (by omega)
        have z5 : ¬ T ≤ s := by omega
        simp [z2, z4, z5]
      · have z4 := c3 (s + 1) (by omega) (by omega)
        have z5 : T ≤ s := by omega
        have z6 : s < aB a := by omega
        simp [z2, z4, z5, z6]
    · show _ = nI (if s < T then aO a s else aO a (s + 1))
      have h2 : s ≤ aB a - 1 := h2
      simp only [s2_at, shT]
      by_cases z2 : s < T
      · have z4 := c4 s h1 (by omega)
        have z5 : ¬ T ≤ s := by omega
        simp [z2, z4, z5]
      · have z4 := c4 (s + 1) (by omega) (by omega)
        have z5 : T ≤ s := by omega
        have z6 : s < aB a := by omega
        simp [z2, z4, z5, z6]
    · simp [s2_at]
    · simp [s2_at, g1, c6]
    · simp [s2_at, g1, c7]
    · simp [s2_at, g1, c8]
    · simp [s2_at, g1, c9]
    · simp [s2_at, g1, c10]
  · intro k hk
    funext j
    simp only [List.mem_cons, List.not_mem_nil, or_false, not_or] at hk
    obtain ⟨z1, z2, z3⟩ := hk
    simp [s2_at, shT, z1, z2, z3]
theorem cs_at {b P p : Nat} (hv : VW b P) (hp : p < 7) (h0 : sl P p ≠ 0) : ∀ q, q < 7 → sl P q = sl P p → q = p := by
  intro q hq he
  have h1 := hv.2.2 (sl P p) (by omega) (hv.2.1 p hp)
  by_cases hqp : q = p
  · exact hqp
  · exfalso
    have e1 := cs_wsl (P := P) (p := q) (s := 0) (t := sl P p) hq (by omega)
    have e2 := cs_wsl (P := wsl P q 0) (p := p) (s := 0) (t := sl P p) hp (by omega)
    rw [sl_wsl hq hp (by omega), if_neg (Ne.symm hqp)] at e2
    rw [he] at e1
    have z : (0 == sl P p) = false := beq_eq_false_iff_ne.mpr (by omega)
    rw [z, beq_self_eq_true] at e1 e2
    simp only [Bool.toNat_true, Bool.toNat_false] at e1 e2
    omega
theorem tak_ok {p : Nat} (ok : AOK a) (hp : p < 7) (h0 : sl (aP a) p ≠ 0) : AOK (tak a p) := by
  obtain ⟨v1, v2, v3, v4, v5, v6, v7, v8⟩ := id ok
  have htb := v1.2.1 p hp
  have hW : wsl (aP a) p 0 < 2097152 := wsl_lt v1.1 hp (by omega)
  have hslq : ∀ q, q < 7 → sl (wsl (aP a) p 0) q = if q = p then 0 else sl (aP a) q := fun q hq => sl_wsl hp hq (by omega)
  have hne : ∀ q, q < 7 → sl (wsl (aP a) p 0) q ≠ sl (aP a) p := fun q hq he => by
    rw [hslq q hq] at he
    split at he
    · omega
    · rename_i z
      exact z (cs_at v1 hp h0 q hq he)
  have hcs := fun t => cs_wsl (P := aP a) (p := p) (s := 0) (t := t) hp (by omega)
  unfold tak
  generalize hT : sl (aP a) p = T at *
  have hd8 : ∀ q, q < 7 → dn1 T (sl (wsl (aP a) p 0) q) < 8 := fun q hq => by
    have := v1.2.1 q hq
    rw [hslq q hq]
    unfold dn1
    split <;> split <;> omega
  have hsl : ∀ q, q < 7 → sl (rnm (dn1 T) (wsl (aP a) p 0)) q = dn1 T (sl (wsl (aP a) p 0) q) := fun q hq => pk7_sl hd8 hq
  have hbit : ∀ s, (takS (aS a) T).testBit s = true → 1 ≤ s ∧ s ≤ aB a - 1 := by
    intro s hs
    rw [takS_bit] at hs
    split at hs
    · have := v4 s hs
      omega
    · have := v4 _ hs
      omega
  refine ⟨⟨pk7_lt hd8, fun q hq => ?_, fun s h1 h2 => ?_⟩, by show aB a - 1 < 6; omega, ?_, hbit, v5, v6, fun s h1 h2 => ?_, fun s u h1 h2 h3 => ?_⟩
  · have e1 := v1.2.1 q hq
    have e2 := hne q hq
    show sl (rnm (dn1 T) (wsl (aP a) p 0)) q ≤ aB a - 1
    rw [hsl q hq]
    rw [hslq q hq] at e2 ⊢
    unfold dn1
    split at e2 <;> (repeat' split) <;> omega
  · have h2 : s ≤ aB a - 1 := h2
    show cs (rnm (dn1 T) (wsl (aP a) p 0)) s = 1
    by_cases z1 : s < T
    · have e1 : cs (rnm (dn1 T) (wsl (aP a) p 0)) s = cs (wsl (aP a) p 0) s := cnt_congr 7 (fun q hq => by
        rw [hsl q hq]
        have := hne q hq
        unfold dn1
        split
        · rw [beq_eq_false_iff_ne.mpr (by omega), beq_eq_false_iff_ne.mpr (by omega)]
        · rfl)
      have e2 := hcs s
      rw [v1.2.2 s h1 (by omega), show (T == s) = false from beq_eq_false_iff_ne.mpr (by omega), show (0 == s) = false from beq_eq_false_iff_ne.mpr (by omega)] at e2
      rw [e1]
      simpa using e2
    · have e1 : cs (rnm (dn1 T) (wsl (aP a) p 0)) s = cs (wsl (aP a) p 0) (s + 1) := cnt_congr 7 (fun q hq => by
        rw [hsl q hq]
        have := hne q hq
        unfold dn1
        split
        · by_cases z3 : sl (wsl (aP a) p 0) q = s + 1
          · rw [z3, beq_self_eq_true]
            exact beq_iff_eq.mpr (by omega)
          · rw [beq_eq_false_iff_ne.mpr (by omega), beq_eq_false_iff_ne.mpr z3]
        · rw [beq_eq_false_iff_ne.mpr (by omega), beq_eq_false_iff_ne.mpr (by omega)])
      have e2 := hcs (s + 1)
      rw [v1.2.2 (s + 1) (by omega) (by omega), show (T == s + 1) = false from beq_eq_false_iff_ne.mpr (by omega), show (0 == s + 1) = false from beq_eq_false_iff_ne.mpr (by omega)] at e2
      rw [e1]
      simpa using e2
  · refine Nat.lt_pow_two_of_testBit (n := 6) _ fun i hi => ?_
    cases hb : (takS (aS a) T).testBit i
    · rfl
    · have := hbit i hb
      omega
  · have h2 : s ≤ aB a - 1 := h2
    show (if s < T then aL a s else aL a (s + 1)) < 26 ∧ 1 ≤ (if s < T then aO a s else aO a (s + 1)) ∧ (if s < T then aO a s else aO a (s + 1)) ≤ 9
    by_cases z1 : s < T
    · rw [if_pos z1, if_pos z1]
      exact v7 s h1 (by omega)
    · rw [if_neg z1, if_neg z1]
      exact v7 (s + 1) (by omega) (by omega)
  · have h3 : u ≤ aB a - 1 := h3
    show (if s < T then aL a s else aL a (s + 1)) < (if u < T then aL a u else aL a (u + 1))
    by_cases z1 : s < T
    · rw [if_pos z1]
      by_cases z2 : u < T
      · rw [if_pos z2]
        exact v8 s u h1 h2 (by omega)
      · rw [if_neg z2]
        exact v8 s (u + 1) h1 (by omega) (by omega)
    · rw [if_neg z1, if_neg (show ¬ u < T by omega)]
      exact v8 (s + 1) (u + 1) (by omega) (by omega) (by omega)
end Tak
end
section
/-! the pad of the class -/
def PAt (f : Nat → Nat → Int32) (n : Nat) (l : Nat → Nat) : Prop := f 33 1 = nI n ∧ n ≤ 60 ∧ ∀ i, i < n → f 35 i = nI (l i) ∧ 33 ≤ l i ∧ l i ≤ 126
theorem K33 : K0[33]? = some (.inl 2) := rfl
theorem R33 : R0 33 0 = some 34 := rfl
theorem RW34 : rowW 34 60 := by unfold rowW; decide
theorem L46 : (46 : Int32) = nI 46 := rfl
theorem L48 : (48 : Int32) = nI 48 := rfl
theorem L97 : (97 : Int32) = nI 97 := rfl
theorem L108 : (108 : Int32) = nI 108 := rfl
theorem L112 : (112 : Int32) = nI 112 := rfl
theorem L114 : (114 : Int32) = nI 114 := rfl
def isK (c : Nat) : Bool := decide (c = 112) || decide (c = 114) || decide (c = 108)
def isPl (k c : Nat) : Bool := decide (48 ≤ c) && decide (c < 48 + (if k = 112 then 7 else 6))
def fitP (l : Nat → Nat) (i : Nat) : Bool := if i % 2 = 0 then isK (l i) else isPl (l (i - 1)) (l i)
/-- the fault of the pad, read as a program, from a sign on -/
def pfL (n : Nat) (l : Nat → Nat) : Nat → Nat → Int32
  | 0, _ => if n = 0 ∨ n % 2 = 1 then nI n else -4
  | k + 1, i => if fitP l i then pfL n l k (i + 1) else nI i
def pfR (n : Nat) (l : Nat → Nat) : Int32 := pfL n l n 0
def sgn (a : AS) (c : Nat) : Nat := slotOf a (nI c - nI 97)
/-- the fault of the pad, read as a word, from a sign on, with so many gaps and these slots left -/
def wfL (a : AS) (n : Nat) (l : Nat → Nat) : Nat → Nat → Nat → Nat → Int32
  | 0, _, _, _ => if 7 ≤ n then -4 else nI n
  | k + 1, i, G, S => if l i = 46 then (if G = 0 then nI i else wfL a n l k (i + 1) (G - 1) S) else if S.testBit (sgn a (l i)) then wfL a n l k (i + 1) G (S &&& ((1 <<< sgn a (l i)) ^^^ 2097151)) else nI i
def wfR (a : AS) (n : Nat) (l : Nat → Nat) : Int32 := wfL a n l n 0 (7 - aB a) ((1 <<< (aB a + 1)) - 2)
/-- the move of a step -/
def mvAt (l : Nat → Nat) (i : Nat) : Nat := if l (2 * i) = 112 then l (2 * i + 1) - 48 else if l (2 * i) = 114 then l (2 * i + 1) - 48 + 7 else l (2 * i + 1) - 48 + 13
/-- the word of the pad, its first signs -/
def rdL (a : AS) (l : Nat → Nat) : Nat → Nat → Nat → Nat
  | 0, P, _ => P
  | k + 1, P, i => rdL a l k (wsl P i (sgn a (l i))) (i + 1)
theorem slt_lt {a : AS} {x : Int32} (hb : aB a < 6) : ∀ (k s : Nat), s + k ≤ 7 → 1 ≤ s → slt a x k s < 8
  | 0, s, _, _ => by show 0 < 8; omega
  | k + 1, s, h1, h2 => by
    unfold slt
    split
    · omega
    · exact slt_lt hb k (s + 1) (by omega) (by omega)
theorem sgn_lt {a : AS} {c : Nat} (hb : aB a < 6) : sgn a c < 8 := slt_lt hb (aB a) 1 (by omega) (by omega)
section Pad
variable {h : pH} {a : AS} {n : Nat} {l : Nat → Nat}
theorem s_isKind {c : Nat} (hc : c < 1000) : f_P_isKind (nI c) h = rI (nI (isK c).toNat) h := by
  rw [e_P_isKind, isK]
  by_cases h1 : c = 112
  · subst h1; rw [if_pos (by decide)]; rfl
  · rw [if_neg (by rw [L112, i_inj (by omega) (by omega)]; exact h1)]
    by_cases h2 : c = 114
    · subst h2; rw [if_pos (by decide)]; rfl
    · rw [if_neg (by rw [L114, i_inj (by omega) (by omega)]; exact h2)]
      by_cases h3 : c = 108
      · subst h3; rw [if_pos (by decide)]; rfl
      · rw [if_neg (by rw [L108, i_inj (by omega) (by omega)]; exact h3), decide_eq_false h1, decide_eq_false h2, decide_eq_false h3]; rfl
theorem s_isPlaceFor {k c : Nat} (hk : k < 1000) (hc : c < 1000) : f_P_isPlaceFor (nI k) (nI c) h = rI (nI (isPl k c).toNat) h := by
  rw [e_P_isPlaceFor, isPl]
  by_cases h1 : 48 ≤ c
  · rw [if_neg (by rw [L48, i_lt (by omega) (by omega)]; omega), decide_eq_true h1]
    by_cases h2 : k = 112
    · subst h2
      rw [if_pos (by decide), if_pos rfl, L48, L7, i_add]
      by_cases h3 : c < 48 + 7
      · rw [if_neg (by rw [i_le (by omega) (by omega)]; omega), decide_eq_true h3]; rfl
      · rw [if_pos (by rw [i_le (by omega) (by omega)]; omega), decide_eq_false h3]; rfl
    · rw [if_neg (by rw [L112, i_inj (by omega) (by omega)]; exact h2), if_neg h2, L48, L6, i_add]
      by_cases h3 : c < 48 + 6
      · rw [if_neg (by rw [i_le (by omega) (by omega)]; omega), decide_eq_true h3]; rfl
      · rw [if_pos (by rw [i_le (by omega) (by omega)]; omega), decide_eq_false h3]; rfl
  · rw [if_pos (by rw [L48, i_lt (by omega) (by omega)]; omega), decide_eq_false h1]; rfl
theorem and1_m (n : Nat) : n &&& 1 = n % 2 := Nat.and_one_is_mod n
theorem s_pfL (w : WF h) (hp : PAt h.2.2 n l) : ∀ (k i : Nat), i + k = n → f_P_programFault_2 33 (nI i) h = rI (pfL n l k i) h
  | 0, i, hi => by
    obtain ⟨p1, p2, p3⟩ := hp
    obtain rfl : i = n := by omega
    rw [e_P_programFault_2]
    simp only [oo_v, hI_W w K33, p1]
    rw [if_pos (by rw [i_le (by omega) (by omega)]; exact Nat.le_refl _)]
    unfold pfL
    by_cases h0 : i = 0
    · rw [if_pos (by rw [h0]; rfl), if_pos (Or.inl h0)]
    · rw [if_neg (by rw [i_eq0 (by omega)]; exact h0), L1, i_and, and1_m]
      by_cases h1 : i % 2 = 1
      · rw [if_pos (by rw [h1]), if_pos (Or.inr h1)]
      · rw [if_neg (by rw [i_inj (by omega) (by omega)]; exact h1), if_neg (by omega)]
  | k + 1, i, hi => by
    obtain ⟨p1, p2, p3⟩ := id hp
    have ih := s_pfL w hp k (i + 1) (by omega)
    obtain ⟨q1, q2, q3⟩ := p3 i (by omega)
    have r1 := hR_W w K33 (by omega) R33
    rw [e_P_programFault_2]
    simp only [oo_v, hI_W w K33, p1, r1, kO_W w RW34.1, if_true, s_get w RW34 (show i < 60 by omega), cI_v, q1]
    rw [if_neg (by rw [i_le (by omega) (by omega)]; omega), L1, i_and, and1_m]
    unfold pfL fitP
    by_cases h2 : i % 2 = 0
    · rw [if_pos (by rw [h2]; rfl), if_pos h2, s_isKind (by omega), cI_v]
      cases isK (l i)
      · rw [if_pos (by decide), if_neg (by decide)]
      · rw [if_neg (by decide), if_pos rfl, i_add]
        exact ih
    · obtain ⟨q4, q5, q6⟩ := p3 (i - 1) (by omega)
      rw [if_neg (by rw [i_eq0 (by omega)]; exact h2), if_neg h2, i_sub (by omega), s_get w RW34 (by omega), cI_v, q4, s_isPlaceFor (by omega) (by omega), cI_v]
      cases isPl (l (i - 1)) (l i)
      · rw [if_pos (by decide), if_neg (by decide)]
      · rw [if_neg (by decide), if_pos rfl, i_add]
        exact ih
theorem s_programFault (w : WF h) (hp : PAt h.2.2 n l) : f_P_programFault 33 h = rI (pfR n l) h := by
  rw [e_P_programFault]
  exact s_pfL w hp n 0 (by omega)
theorem s_steps (w : WF h) (hp : PAt h.2.2 n l) : f_P_steps 33 h = rI (nI (n / 2)) h := by
  have h2 : ∀ z, z < 61 → nI z >>> ((1 : Int32) &&& 31) = nI (z / 2) := by decide
  rw [e_P_steps]
  simp only [oo_v, hI_W w K33, hp.1]
  rw [h2 n (by have := hp.2.1; omega)]
/-- a pad without a fault as a program holds kinds and places -/
theorem pfL_fit (n : Nat) (l : Nat → Nat) : ∀ (k i : Nat), i + k = n → n ≤ 60 → pfL n l k i = -4 → ∀ j, i ≤ j → j < n → fitP l j = true
  | 0, i, hi, hn, h, j, h1, h2 => by omega
  | k + 1, i, hi, hn, h, j, h1, h2 => by
    unfold pfL at h
    split at h
    · rename_i hf
      rcases Nat.lt_or_eq_of_le h1 with h3 | h3
      · exact pfL_fit n l k (i + 1) (by omega) hn h j (by omega) h2
      · rw [← h3]; exact hf
    · have h4 : i < 60 := by omega
      have h5 : ∀ i, i < 60 → nI i ≠ -4 := by decide
      exact absurd h (h5 i h4)
theorem pfL_even (n : Nat) (l : Nat → Nat) : ∀ (k i : Nat), i + k = n → n ≤ 60 → pfL n l k i = -4 → n % 2 = 0 ∧ n ≠ 0
  | 0, i, hi, hn, h => by
    unfold pfL at h
    split at h
    · have h5 : ∀ i, i < 61 → nI i ≠ -4 := by decide
      exact absurd h (h5 n (by omega))
    · omega
  | k + 1, i, hi, hn, h => by
    unfold pfL at h
    split at h
    · exact pfL_even n l k (i + 1) (by omega) hn h
    · have h5 : ∀ i, i < 61 → nI i ≠ -4 := by decide
      exact absurd h (h5 i (by omega))
theorem isPl_ge {k c : Nat} (h : isPl k c = true) : 48 ≤ c ∧ c < 48 + (if k = 112 then 7 else 6) := by
  unfold isPl at h
  rw [Bool.and_eq_true, decide_eq_true_eq, decide_eq_true_eq] at h
  exact h
theorem mvAt_lt {i : Nat} (hn : n ≤ 60) (h : pfR n l = -4) (hi : i < n / 2) : mvAt l i < 19 ∧ 48 ≤ l (2 * i + 1) := by
  have h1 := pfL_fit n l n 0 (by omega) hn h (2 * i + 1) (by omega) (by omega)
  unfold fitP at h1
  rw [if_neg (by omega), show 2 * i + 1 - 1 = 2 * i by omega] at h1
  have h2 := isPl_ge h1
  unfold mvAt
  refine ⟨?_, h2.1⟩
  by_cases h3 : l (2 * i) = 112
  · rw [if_pos h3] at h2 ⊢
    omega
  · rw [if_neg h3] at h2 ⊢
    split <;> omega
theorem s_moveAt {i : Nat} (w : WF h) (hp : PAt h.2.2 n l) (hf : pfR n l = -4) (hi : i < n / 2) : f_P_moveAt 33 (nI i) h = rI (nI (mvAt l i)) h := by
  obtain ⟨p1, p2, p3⟩ := hp
  have h1 := mvAt_lt p2 hf hi
  obtain ⟨q1, q2, q3⟩ := p3 (2 * i) (by omega)
  obtain ⟨q4, q5, q6⟩ := p3 (2 * i + 1) (by omega)
  have r1 := hR_W w K33 (by omega) R33
  rw [e_P_moveAt]
  simp only [oo_v, r1, kO_W w RW34.1, if_true, L2, L1, i_mul, i_add, s_get w RW34 (show 2 * i < 60 by omega), cI_v, s_get w RW34 (show 2 * i + 1 < 60 by omega), q1, q4, L48, i_sub h1.2, L7, L13]
  unfold mvAt
  by_cases h3 : l (2 * i) = 112
  · rw [if_pos (by rw [h3]; rfl), if_pos h3]
  · rw [if_neg (by rw [L112, i_inj (by omega) (by omega)]; exact h3), if_neg h3]
    by_cases h4 : l (2 * i) = 114
    · rw [if_pos (by rw [h4]; rfl), if_pos h4]
    · rw [if_neg (by rw [L114, i_inj (by omega) (by omega)]; exact h4), if_neg h4]
theorem s_slotOfSign {c : Nat} (w : WF h) (hc : CAt h.2.2 1 a) (ok : AOK a) : f_P_slotOfSign 1 (nI c) h = rI (nI (sgn a c)) h := by
  rw [e_P_slotOfSign, if_pos (kO_W w K1), L97, s_slotOf w hc ok, cI_v]
  rfl
theorem s_wfL (w : WF h) (hp : PAt h.2.2 n l) (hc : CAt h.2.2 1 a) (ok : AOK a) : ∀ (k i G S : Nat), i + k = n → G < 100 → S < 64 → f_P_wordFault_22 33 1 (nI G) (nI S) (nI i) h = rI (wfL a n l k i G S) h
  | 0, i, G, S, hi, hG, hS => by
    obtain ⟨p1, p2, p3⟩ := hp
    obtain rfl : i = n := by omega
    rw [e_P_wordFault_22]
    simp only [oo_v, hI_W w K33, p1]
    rw [if_pos (by rw [i_le (by omega) (by omega)]; exact Nat.le_refl _)]
    unfold wfL
    by_cases h7 : 7 ≤ i
    · rw [if_pos (by rw [L7, i_le (by omega) (by omega)]; exact h7), if_pos h7]
    · rw [if_neg (by rw [L7, i_le (by omega) (by omega)]; exact h7), if_neg h7]
  | k + 1, i, G, S, hi, hG, hS => by
    obtain ⟨p1, p2, p3⟩ := id hp
    obtain ⟨q1, q2, q3⟩ := p3 i (by omega)
    have r1 := hR_W w K33 (by omega) R33
    have hs := sgn_lt (a := a) (c := l i) ok.2.1
    rw [e_P_wordFault_22]
    simp only [oo_v, hI_W w K33, p1, r1, kO_W w RW34.1, if_true, s_get w RW34 (show i < 60 by omega), cI_v, q1, s_slotOfSign w hc ok]
    rw [if_neg (by rw [i_le (by omega) (by omega)]; omega)]
    unfold wfL
    by_cases h46 : l i = 46
    · rw [if_pos (by rw [h46]; rfl), if_pos h46]
      by_cases hG0 : G = 0
      · rw [if_pos (by rw [hG0]; rfl), if_pos hG0]
      · rw [if_neg (by rw [i_eq0 (by omega)]; exact hG0), if_neg hG0, e_P_wordFault_76, if_pos (by rw [h46]; rfl), i_dec (by omega), L1, i_add]
        exact s_wfL w hp hc ok k (i + 1) (G - 1) S (by omega) (by omega) hS
    · rw [if_neg (by rw [L46, i_inj (by omega) (by omega)]; exact h46), if_neg h46, s_isIn (by omega) (by omega), cI_v]
      cases hb : S.testBit (sgn a (l i))
      · rw [if_pos (by decide), if_neg (by decide)]
      · have hs1 := shl1_lt hs
        rw [if_neg (by decide), if_pos rfl, e_P_wordFault_76, if_neg (by rw [L46, i_inj (by omega) (by omega)]; exact h46), L1, i_shl (by omega), i_m11 (by omega) (by omega), i_add]
        exact s_wfL w hp hc ok k (i + 1) G _ (by omega) hG (Nat.lt_of_le_of_lt Nat.and_le_left hS)
theorem s_wordFault (w : WF h) (hp : PAt h.2.2 n l) (hc : CAt h.2.2 1 a) (ok : AOK a) : f_P_wordFault 33 1 h = rI (wfR a n l) h := by
  have hb := ok.2.1
  rw [e_P_wordFault]
  simp only [oo_v, hI_W w K1, hc.2.1]
  rw [L7, i_sub (by omega), L1, i_add, i_shl (by omega), L2, i_sub (shlb hb).2]
  exact s_wfL w hp hc ok n 0 _ _ (by omega) (by omega) (shlb hb).1
theorem s_rdL (w : WF h) (hp : PAt h.2.2 n l) (hc : CAt h.2.2 1 a) (ok : AOK a) (hn : 7 ≤ n) : ∀ (k i P : Nat), i + k = 7 → P < 2097152 → f_P_readWord_4 33 1 (nI P) (nI i) h = rI (nI (rdL a l k P i)) h
  | 0, i, P, hi, hP => by
    rw [e_P_readWord_4, if_pos (by rw [L7, i_le (by omega) (by omega)]; omega)]
    rfl
  | k + 1, i, P, hi, hP => by
    obtain ⟨p1, p2, p3⟩ := id hp
    obtain ⟨q1, q2, q3⟩ := p3 i (by omega)
    have r1 := hR_W w K33 (by omega) R33
    have hs := sgn_lt (a := a) (c := l i) ok.2.1
    rw [e_P_readWord_4, if_neg (by rw [L7, i_le (by omega) (by omega)]; omega)]
    simp only [oo_v, r1, kO_W w RW34.1, if_true, s_get w RW34 (show i < 60 by omega), cI_v, q1, s_slotOfSign w hc ok, s_withSlot hP (show i < 7 by omega) hs, L1, i_add]
    exact s_rdL w hp hc ok hn k (i + 1) _ (by omega) (wsl_lt hP (by omega) hs)
theorem s_readWord (w : WF h) (hp : PAt h.2.2 n l) (hc : CAt h.2.2 1 a) (ok : AOK a) (hn : 7 ≤ n) : f_P_readWord 33 1 h = rI (nI (rdL a l 7 0 0)) h := by
  rw [e_P_readWord]
  exact s_rdL w hp hc ok hn 7 0 0 rfl (by omega)
theorem s_write {c : Nat} (w : WF h) (hp : PAt h.2.2 n l) (hn : n < 60) (hc : 33 ≤ c ∧ c ≤ 126) : ∃ g, f_P_write 33 (nI c) h = rV (hS h g) ∧ PAt g (n + 1) (fun i => if i = n then c else l i) ∧ Off h.2.2 g [33, 35] := by
  obtain ⟨p1, p2, p3⟩ := hp
  have r1 := hR_W w K33 (by omega) R33
  have k1 := kO_W w K33
  rw [e_P_write]
  simp only [oo_v, r1, hI_k, k1, kO_S, kO_W w RW34.1, if_true, p1, s_put w RW34 hn, cV_v, hS_2, sI_S, hS_S, show s2 h.2.2 35 n (nI c) 33 1 = nI n from p1, show s2 h.2.2 (34 + 1) n (nI c) 33 1 = nI n from p1, L1, i_add]
  refine ⟨_, rfl, ⟨?_, by omega, fun i hi => ?_⟩, Off.tr (s2_off (by simp)) (s2_off (by simp))⟩
  · simp [s2_at]
  · by_cases hin : i = n
    · subst hin
      simp [s2_at, hc]
    · have := p3 i (by omega)
      simp [s2_at, hin, this]
end Pad
end
section
/-! the graph of the class: one region of nodes for each number of books -/
def fn : Nat → Nat
  | 0 => 0
  | b + 1 => fn b + wds b
theorem fn_le {b : Nat} (hb : b < 6) : fn b + wds b ≤ 3620 := by
  have : ∀ b, b < 6 → fn b + wds b ≤ 3620 := by decide
  exact this b hb
theorem s_fnL {h : pH} {b : Nat} (hb : b < 7) : ∀ (k i : Nat), i + k = b → f_G_firstNode_4 (nI b) (nI (fn i)) (nI i) h = rI (nI (fn b)) h
  | 0, i, hi => by
    obtain rfl : i = b := by omega
    rw [e_G_firstNode_4, if_pos (by rw [i_le (by omega) (by omega)]; exact Nat.le_refl _)]
  | k + 1, i, hi => by
    rw [e_G_firstNode_4, if_neg (by rw [i_le (by omega) (by omega)]; omega), s_wordsOf (by omega), cI_v, i_add, L1, i_add]
    exact s_fnL hb k (i + 1) (by omega)
theorem s_firstNode {h : pH} {b : Nat} (hb : b < 7) : f_G_firstNode (nI b) h = rI (nI (fn b)) h := by
  rw [e_G_firstNode]
  exact s_fnL hb b 0 (by omega)
theorem K36 : K0[36]? = some (.inl 0) := rfl
theorem RW37 : rowW 37 3620 := by unfold rowW; decide
theorem RW39 : rowW 39 68780 := by unfold rowW; decide
theorem RW41 : rowW 41 68780 := by unfold rowW; decide
theorem RW43 : rowW 43 3620 := by unfold rowW; decide
theorem RW45 : rowW 45 3620 := by unfold rowW; decide
/-- where a move leads, from the i-th step of a region on (19 steps a word): a node, if it is no move that is refused with no book stuck -/
def T (b i : Nat) : Option Nat := if rsn (wd b (i / 19)) 0 (i % 19) = 0 then some (rk b (aft (wd b (i / 19)) (i % 19))) else none
theorem T_lt {b i r : Nat} (hb : b < 6) (hi : i < 19 * wds b) (h : T b i = some r) : r < wds b := by
  unfold T at h
  split at h
  · rename_i h0
    cases h
    exact rk_lt hb (aft_VW hb (wd_VW hb (by omega)) (by omega) h0)
  · cases h
/-- how many of the first i steps lead to a word -/
def cN (b r i : Nat) : Nat := cnt (fun j => decide (T b j = some r)) i
theorem cN_le (b r i : Nat) : cN b r i ≤ i := cnt_le _ _
theorem cN_succ {b r i : Nat} : cN b r (i + 1) = cN b r i + (decide (T b i = some r)).toNat := rfl
theorem cN_mono {b r i k : Nat} (h : i ≤ k) : cN b r i ≤ cN b r k := by
  induction h with
  | refl => exact Nat.le_refl _
  | step _ ih => exact Nat.le_trans ih (Nat.le_add_right _ _)
theorem sm_one (g : Nat → Nat) (r0 : Nat) : ∀ n, sm (fun r => g r + (if r = r0 then 1 else 0)) n ≤ sm g n + (if r0 < n then 1 else 0)
  | 0 => by show 0 ≤ 0 + _; omega
  | n + 1 => by
    have ih := sm_one g r0 n
    show sm (fun r => g r + (if r = r0 then 1 else 0)) n + (g n + (if n = r0 then 1 else 0)) ≤ sm g n + g n + _
    split at ih <;> split <;> split <;> omega
theorem sm_congr {g g' : Nat → Nat} : ∀ n, (∀ i, i < n → g i = g' i) → sm g n = sm g' n
  | 0, _ => rfl
  | n + 1, h => by
    show sm g n + g n = sm g' n + g' n
    rw [sm_congr n (fun i hi => h i (by omega)), h n (by omega)]
theorem sm_mono {g : Nat → Nat} {a c : Nat} (h : a ≤ c) : sm g a ≤ sm g c := by
  induction h with
  | refl => exact Nat.le_refl _
  | step _ ih => exact Nat.le_trans ih (Nat.le_add_right _ _)
theorem sm_zero : ∀ n, sm (fun _ => 0) n = 0
  | 0 => rfl
  | n + 1 => by
    show sm (fun _ => 0) n + 0 = 0
    rw [sm_zero n]
theorem sm_cN (b : Nat) (n : Nat) : ∀ i, sm (fun r => cN b r i) n ≤ i
  | 0 => by
    rw [show (fun r => cN b r 0) = fun _ => 0 from rfl, sm_zero]
    exact Nat.le_refl _
  | i + 1 => by
    have ih := sm_cN b n i
    cases hT : T b i with
    | none =>
      have e : (fun r => cN b r (i + 1)) = fun r => cN b r i := by
        funext r
        rw [cN_succ, hT, decide_eq_false (by simp)]
        rfl
      rw [e]
      omega
    | some r0 =>
      have e : (fun r => cN b r (i + 1)) = fun r => cN b r i + (if r = r0 then 1 else 0) := by
        funext r
        rw [cN_succ, hT]
        by_cases hr : r = r0
        · rw [if_pos hr, decide_eq_true (by rw [hr])]; rfl
        · rw [if_neg hr, decide_eq_false (fun q => hr (Option.some.inj q).symm)]; rfl
      rw [e]
      have := sm_one (fun r => cN b r i) r0 n
      split at this <;> omega
/-- where the steps into a word begin, from the region's first step on -/
def st0 (b r : Nat) : Nat := sm (fun r => cN b r (19 * wds b)) r
theorem st0_le {b r : Nat} (hr : r ≤ wds b) : st0 b r ≤ 19 * wds b := Nat.le_trans (sm_mono hr) (sm_cN b (wds b) (19 * wds b))
theorem st0_succ {b r : Nat} : st0 b (r + 1) = st0 b r + cN b r (19 * wds b) := rfl
/-- what is outside a region's cells stays -/
def Rg (b k j : Nat) : Prop := ((k = 38 ∨ k = 44 ∨ k = 46) ∧ fn b ≤ j ∧ j < fn b + wds b) ∨ ((k = 40 ∨ k = 42) ∧ fn b * 19 ≤ j ∧ j < (fn b + wds b) * 19)
def OffR (b : Nat) (f g : Nat → Nat → Int32) : Prop := ∀ k j, ¬ Rg b k j → g k j = f k j
theorem OffR.rf {b : Nat} {f : Nat → Nat → Int32} : OffR b f f := fun _ _ _ => rfl
theorem OffR.tr {b : Nat} {f g h : Nat → Nat → Int32} (x : OffR b f g) (y : OffR b g h) : OffR b f h := fun k j q => (y k j q).trans (x k j q)
theorem s2_offR {b k j : Nat} {f : Nat → Nat → Int32} {x : Int32} (h : Rg b k j) : OffR b f (s2 f k j x) := by
  intro a c hac
  rw [s2_at]
  split
  · rename_i e1
    split
    · rename_i e2
      exact absurd (by rw [e1, e2]; exact h) hac
    · rfl
  · rfl
/-- a region that is drawn -/
def GOK (f : Nat → Nat → Int32) (b : Nat) : Prop :=
  (∀ r, r < wds b → f 38 (fn b + r) = nI (wd b r)) ∧
  (∀ i, i < 19 * wds b → f 40 (fn b * 19 + i) = match T b i with
    | some r => nI (fn b + r)
    | none => -1) ∧
  (∀ r, r < wds b → f 44 (fn b + r) = nI (fn b * 19 + st0 b r)) ∧
  (∀ r, r < wds b → f 46 (fn b + r) = nI (fn b * 19 + st0 b r + cN b r (19 * wds b))) ∧
  (∀ r q, r < wds b → q < cN b r (19 * wds b) → ∃ i, i < 19 * wds b ∧ T b i = some r ∧ f 42 (fn b * 19 + st0 b r + q) = nI (fn b * 19 + i)) ∧
  (∀ r i, r < wds b → i < 19 * wds b → T b i = some r → ∃ q, q < cN b r (19 * wds b) ∧ f 42 (fn b * 19 + st0 b r + q) = nI (fn b * 19 + i))
section Graph
variable {h : pH} {b : Nat}
/-- the first i steps of a region are drawn -/
def On (f : Nat → Nat → Int32) (b i : Nat) : Prop :=
  (∀ r, 19 * r < i → f 38 (fn b + r) = nI (wd b r)) ∧
  (∀ j, j < i → f 40 (fn b * 19 + j) = match T b j with
    | some r => nI (fn b + r)
    | none => -1) ∧
  (∀ r, r < wds b → f 46 (fn b + r) = nI (cN b r i))
theorem s_on89 {r m : Nat} {x : Int32} {g : Nat → Nat → Int32} (w : WF h) (hb : b < 6) (hr : r < wds b) (hm : m < 19) {y1 y2 y3 y5 : Int32} : f_G_drawOnward_89 36 y1 y2 y3 (nI (fn b + r)) y5 (nI m) x (hS h g) = f_G_drawOnward_33 36 y1 y2 y3 (nI (fn b + r)) y5 (nI (m + 1)) (hS h (s2 g 40 (fn b * 19 + (19 * r + m)) x)) := by
  have hle := fn_le hb
  rw [e_G_drawOnward_89]
  simp only [oo_v, hR_S, hR_W w K36 (by omega) (show R0 36 1 = some 39 from rfl), kO_S, kO_W w RW39.1, if_true, L19, L1, i_mul, i_add]
  rw [show (fn b + r) * 19 + m = fn b * 19 + (19 * r + m) by omega, s_put (WF_S w) RW39 (by omega), cV_v, hS_S, hS_2]
theorem s_on33 {r : Nat} (w : WF h) (hb : b < 6) (hr : r < wds b) {y3 : Int32} : ∀ (k m : Nat) (g : Nat → Nat → Int32), m + k = 19 → On g b (19 * r + m) → g 38 (fn b + r) = nI (wd b r) → OffR b h.2.2 g →
    ∃ g', f_G_drawOnward_33 36 (nI b) (nI (fn b)) y3 (nI (fn b + r)) (nI (wd b r)) (nI m) (hS h g) = f_G_drawOnward_3 36 (nI b) (nI (fn b)) y3 (nI (fn b + (r + 1))) (hS h g') ∧ On g' b (19 * (r + 1)) ∧ OffR b h.2.2 g'
  | 0, m, g, hm, ho, h38, hoff => by
    obtain rfl : m = 19 := by omega
    refine ⟨g, ?_, ?_, hoff⟩
    · rw [e_G_drawOnward_33, if_pos (by decide), L1, i_add]
      rfl
    · obtain ⟨o1, o2, o3⟩ := ho
      refine ⟨fun r' hr' => ?_, fun j hj => o2 j (by omega), fun r' hr' => ?_⟩
      · by_cases hrr : r' = r
        · rw [hrr]; exact h38
        · exact o1 r' (by omega)
      · rw [o3 r' hr', show 19 * r + 19 = 19 * (r + 1) by omega]
  | k + 1, m, g, hm, ho, h38, hoff => by
    have hle := fn_le hb
    have hv := wd_VW hb hr
    obtain ⟨o1, o2, o3⟩ := ho
    have hTi : T b (19 * r + m) = if rsn (wd b r) 0 m = 0 then some (rk b (aft (wd b r) m)) else none := by
      unfold T
      rw [show (19 * r + m) / 19 = r by omega, show (19 * r + m) % 19 = m by omega]
    have hstep : ∀ (x : Int32) (g1 : Nat → Nat → Int32), x = (match T b (19 * r + m) with
        | some r => nI (fn b + r)
        | none => -1) → (∀ r', r' < wds b → g1 46 (fn b + r') = nI (cN b r' (19 * r + m + 1))) → OffR b h.2.2 g1 → (∀ j, g1 38 j = g 38 j) → (∀ j, g1 40 j = g 40 j) →
        ∃ g', f_G_drawOnward_89 36 (nI b) (nI (fn b)) y3 (nI (fn b + r)) (nI (wd b r)) (nI m) x (hS h g1) = f_G_drawOnward_3 36 (nI b) (nI (fn b)) y3 (nI (fn b + (r + 1))) (hS h g') ∧ On g' b (19 * (r + 1)) ∧ OffR b h.2.2 g' := by
      intro x g1 hx h46 hoff1 e38 e40
      rw [s_on89 w hb hr (by omega)]
      refine s_on33 w hb hr k (m + 1) _ (by omega) ⟨fun r' hr' => ?_, fun j hj => ?_, fun r' hr' => ?_⟩ ?_ (OffR.tr hoff1 (s2_offR (Or.inr ⟨Or.inl rfl, by omega, by omega⟩)))
      · rw [s2_at, if_neg (by omega), e38]
        by_cases hrr : r' = r
        · rw [hrr]; exact h38
        · exact o1 r' (by omega)
      · rw [s2_at, if_pos rfl]
        by_cases hjj : j = 19 * r + m
        · rw [if_pos (by omega), hx, hjj]
        · rw [if_neg (by omega), e40]
          exact o2 j (by omega)
      · rw [s2_at, if_neg (by omega), h46 r' hr']
        rfl
      · rw [s2_at, if_neg (by omega), e38]
        exact h38
    have hrl := rsn_lt (wd b r) 0 m
    rw [e_G_drawOnward_33, if_neg (by rw [L19, i_le (by omega) (by omega)]; omega), L0, s_reason hv.1 (by omega) (by omega), cI_v]
    by_cases h0 : rsn (wd b r) 0 m = 0
    · have hva := aft_VW hb hv (show m < 19 by omega) h0
      have hrk := rk_lt hb hva
      rw [if_pos h0] at hTi
      rw [if_pos (by rw [h0]), s_after hv.1 (by omega) h0, cI_v, s_rank hb hva, cI_v, i_add]
      have hc := cN_le b (rk b (aft (wd b r) m)) (19 * r + m)
      simp only [oo_v, hR_S, hR_W w K36 (by omega) (show R0 36 4 = some 45 from rfl), kO_S, kO_W w RW45.1, if_true, s_get (WF_S w) RW45 (show fn b + rk b (aft (wd b r) m) < 3620 by omega), cI_v, hS_2, o3 _ hrk, L1, i_add, s_put (WF_S w) RW45 (show fn b + rk b (aft (wd b r) m) < 3620 by omega), cV_v, hS_S]
      refine hstep _ _ (by rw [hTi]) (fun r' hr' => ?_) (OffR.tr hoff (s2_offR (Or.inl ⟨Or.inr (Or.inr rfl), by omega, by omega⟩))) (fun j => by rw [s2_at, if_neg (by omega)]) (fun j => by rw [s2_at, if_neg (by omega)])
      rw [s2_at, if_pos rfl, cN_succ, hTi]
      by_cases hrr : r' = rk b (aft (wd b r) m)
      · rw [if_pos (by rw [hrr]), decide_eq_true (by rw [hrr]), hrr]
        rfl
      · rw [if_neg (by omega), decide_eq_false (fun q => hrr (Option.some.inj q).symm), o3 r' hr']
        rfl
    · rw [if_neg h0] at hTi
      rw [if_neg (by rw [i_inj (by omega) (by omega)]; exact h0)]
      refine hstep _ g (by rw [hTi]) (fun r' hr' => ?_) hoff (fun _ => rfl) (fun _ => rfl)
      rw [cN_succ, hTi, decide_eq_false (by simp), o3 r' hr']
      rfl
theorem s_on3 (w : WF h) (hb : b < 6) : ∀ (k r : Nat) (g : Nat → Nat → Int32), r + k = wds b → On g b (19 * r) → OffR b h.2.2 g →
    ∃ g', f_G_drawOnward_3 36 (nI b) (nI (fn b)) (nI (fn b + wds b)) (nI (fn b + r)) (hS h g) = rV (hS h g') ∧ On g' b (19 * wds b) ∧ OffR b h.2.2 g'
  | 0, r, g, hr, ho, hoff => by
    have hle := fn_le hb
    obtain rfl : r = wds b := by omega
    refine ⟨g, ?_, ho, hoff⟩
    rw [e_G_drawOnward_3, if_pos (by rw [i_le (by omega) (by omega)]; exact Nat.le_refl _)]
  | k + 1, r, g, hr, ho, hoff => by
    have hle := fn_le hb
    obtain ⟨o1, o2, o3⟩ := id ho
    rw [e_G_drawOnward_3, if_neg (by rw [i_le (by omega) (by omega)]; omega), i_sub (by omega), show fn b + r - fn b = r by omega, s_word hb (by omega), cI_v]
    simp only [oo_v, hR_S, hR_W w K36 (by omega) (show R0 36 0 = some 37 from rfl), kO_S, kO_W w RW37.1, if_true, s_put (WF_S w) RW37 (show fn b + r < 3620 by omega), cV_v, hS_S, hS_2]
    obtain ⟨g1, e1, e2, e3⟩ := s_on33 (y3 := nI (fn b + wds b)) w hb (show r < wds b by omega) 19 0 (s2 g 38 (fn b + r) (nI (wd b r))) rfl
      ⟨fun r' hr' => by
        rw [s2_at, if_pos rfl]
        split
        · rename_i e; rw [show r' = r by omega]
        · exact o1 r' (by omega), fun j hj => by rw [s2_at, if_neg (by omega)]; exact o2 j (by omega), fun r' hr' => by rw [s2_at, if_neg (by omega)]; exact o3 r' hr'⟩
      (by rw [s2_at, if_pos rfl, if_pos rfl]) (OffR.tr hoff (s2_offR (Or.inl ⟨Or.inl rfl, by omega, by omega⟩)))
    obtain ⟨g2, e4, e5, e6⟩ := s_on3 w hb k (r + 1) g1 (by omega) e2 e3
    exact ⟨g2, e1.trans e4, e5, e6⟩
end Graph
end
section
/-! the steps into each word, shared out and drawn -/
theorem t1b (b i : Nat) : (1 <<< b).testBit i = decide (b = i) := by rw [Nat.one_shiftLeft, Nat.testBit_two_pow]
section GraphB
variable {h : pH} {b : Nat}
theorem st0_lt {r : Nat} (hb : b < 6) (hr : r ≤ wds b) : fn b * 19 + st0 b r ≤ 68780 := by
  have := st0_le (b := b) hr
  have := fn_le hb
  omega
theorem s_share (w : WF h) (hb : b < 6) {f : Nat → Nat → Int32} (hf : ∀ r, r < wds b → f 46 (fn b + r) = nI (cN b r (19 * wds b))) : ∀ (k r : Nat) (g : Nat → Nat → Int32), r + k = wds b →
    (∀ r', r' < r → g 44 (fn b + r') = nI (fn b * 19 + st0 b r') ∧ g 46 (fn b + r') = nI (fn b * 19 + st0 b r')) → (∀ r', r ≤ r' → r' < wds b → g 46 (fn b + r') = f 46 (fn b + r')) → (∀ k', k' ≠ 44 → k' ≠ 46 → g k' = f k') → OffR b f g →
    ∃ g', f_G_shareOut_8 36 (nI (fn b + wds b)) (nI (fn b * 19 + st0 b r)) (nI (fn b + r)) (hS h g) = rV (hS h g') ∧ (∀ r', r' < wds b → g' 44 (fn b + r') = nI (fn b * 19 + st0 b r') ∧ g' 46 (fn b + r') = nI (fn b * 19 + st0 b r')) ∧ (∀ k', k' ≠ 44 → k' ≠ 46 → g' k' = f k') ∧ OffR b f g'
  | 0, r, g, hr, h1, h2, h3, h4 => by
    have hle := fn_le hb
    obtain rfl : r = wds b := by omega
    refine ⟨g, ?_, h1, h3, h4⟩
    rw [e_G_shareOut_8, if_pos (by rw [i_le (by omega) (by omega)]; exact Nat.le_refl _)]
  | k + 1, r, g, hr, h1, h2, h3, h4 => by
    have hle := fn_le hb
    have hst := st0_lt hb (show r ≤ wds b by omega)
    rw [e_G_shareOut_8, if_neg (by rw [i_le (by omega) (by omega)]; omega)]
    simp only [oo_v, hR_S, hR_W w K36 (by omega) (show R0 36 4 = some 45 from rfl), hR_W w K36 (by omega) (show R0 36 3 = some 43 from rfl), kO_S, kO_W w RW45.1, kO_W w RW43.1, if_true, s_get (WF_S w) RW45 (show fn b + r < 3620 by omega), cI_v, hS_2, s_put (WF_S w) RW43 (show fn b + r < 3620 by omega), cV_v, hS_S, s_put (WF_S w) RW45 (show fn b + r < 3620 by omega), L1, i_add, h2 r (Nat.le_refl _) (by omega), hf r (by omega)]
    have hR1 : Rg b 44 (fn b + r) := Or.inl ⟨Or.inr (Or.inl rfl), by omega, by omega⟩
    have hR2 : Rg b 46 (fn b + r) := Or.inl ⟨Or.inr (Or.inr rfl), by omega, by omega⟩
    rw [show fn b * 19 + st0 b r + cN b r (19 * wds b) = fn b * 19 + st0 b (r + 1) from by rw [st0_succ]; omega, show fn b + r + 1 = fn b + (r + 1) by omega]
    refine s_share w hb hf k (r + 1) (s2 (s2 g 44 (fn b + r) (nI (fn b * 19 + st0 b r))) 46 (fn b + r) (nI (fn b * 19 + st0 b r))) (by omega) (fun r' hr' => ?_) (fun r' h5 h6 => ?_) (fun k' h5 h6 => ?_) (OffR.tr h4 (OffR.tr (s2_offR hR1) (s2_offR hR2)))
    · by_cases hrr : r' = r
      · subst hrr
        exact ⟨by simp [s2_at], by simp [s2_at]⟩
      · have h7 := h1 r' (by omega)
        exact ⟨by simp [s2_at, hrr, h7.1], by simp [s2_at, hrr, h7.2]⟩
    · have hrr : r' ≠ r := by omega
      have h7 := h2 r' (by omega) h6
      simp [s2_at, hrr, h7]
    · funext j
      rw [s2_at, if_neg h6, s2_at, if_neg h5, h3 k' h5 h6]
theorem cN_lt {r i : Nat} (hi : i < 19 * wds b) (hT : T b i = some r) : cN b r i < cN b r (19 * wds b) := by
  have h1 := cN_mono (b := b) (r := r) (show i + 1 ≤ 19 * wds b by omega)
  rw [cN_succ, decide_eq_true hT] at h1
  exact h1
/-- the first i steps stand in the rows of their ends -/
def In (f : Nat → Nat → Int32) (b i : Nat) : Prop :=
  (∀ r, r < wds b → f 46 (fn b + r) = nI (fn b * 19 + st0 b r + cN b r i)) ∧
  (∀ r q, r < wds b → q < cN b r i → ∃ j, j < i ∧ T b j = some r ∧ f 42 (fn b * 19 + st0 b r + q) = nI (fn b * 19 + j)) ∧
  (∀ r j, r < wds b → j < i → T b j = some r → ∃ q, q < cN b r i ∧ f 42 (fn b * 19 + st0 b r + q) = nI (fn b * 19 + j))
theorem st0_apart {r r' q q' : Nat} (h1 : q < cN b r (19 * wds b)) (h2 : q' < cN b r' (19 * wds b)) (hne : r ≠ r') : st0 b r + q ≠ st0 b r' + q' := by
  rcases Nat.lt_or_gt_of_ne hne with h | h
  · have h3 : st0 b (r + 1) ≤ st0 b r' := sm_mono h
    rw [st0_succ] at h3
    omega
  · have h3 : st0 b (r' + 1) ≤ st0 b r := sm_mono h
    rw [st0_succ] at h3
    omega
theorem s_into (w : WF h) (hb : b < 6) {f : Nat → Nat → Int32} (hf : ∀ i, i < 19 * wds b → f 40 (fn b * 19 + i) = match T b i with
    | some r => nI (fn b + r)
    | none => -1) : ∀ (k i : Nat) (g : Nat → Nat → Int32), i + k = 19 * wds b → In g b i → (∀ k', k' ≠ 42 → k' ≠ 46 → g k' = f k') → OffR b f g →
    ∃ g', f_G_drawInto_5 36 (nI (fn b + wds b)) (nI (fn b * 19 + i)) (hS h g) = rV (hS h g') ∧ In g' b (19 * wds b) ∧ (∀ k', k' ≠ 42 → k' ≠ 46 → g' k' = f k') ∧ OffR b f g'
  | 0, i, g, hi, h1, h2, h3 => by
    have hle := fn_le hb
    obtain rfl : i = 19 * wds b := by omega
    refine ⟨g, ?_, h1, h2, h3⟩
    rw [e_G_drawInto_5, L19, i_mul, if_pos (by rw [i_le (by omega) (by omega)]; omega)]
  | k + 1, i, g, hi, h1, h2, h3 => by
    have hle := fn_le hb
    obtain ⟨d1, d2, d3⟩ := h1
    have g40 : g 40 (fn b * 19 + i) = match T b i with
        | some r => nI (fn b + r)
        | none => -1 := by rw [h2 40 (by omega) (by omega)]; exact hf i (by omega)
    rw [e_G_drawInto_5, L19, i_mul, if_neg (by rw [i_le (by omega) (by omega)]; omega)]
    simp only [oo_v, hR_S, hR_W w K36 (by omega) (show R0 36 1 = some 39 from rfl), kO_S, kO_W w RW39.1, if_true, s_get (WF_S w) RW39 (show fn b * 19 + i < 68780 by omega), cI_v, hS_2]
    rw [show g (39 + 1) (fn b * 19 + i) = _ from g40]
    cases hT : T b i with
    | none =>
      have nx : ∀ r, cN b r (i + 1) = cN b r i := fun r => by
        rw [cN_succ, hT, decide_eq_false (by simp)]
        rfl
      rw [if_pos (by rfl), L1, i_add]
      refine s_into w hb hf k (i + 1) g (by omega) ⟨fun r hr => by rw [nx]; exact d1 r hr, fun r q hr hq => ?_, fun r j hr hj hTj => ?_⟩ h2 h3
      · obtain ⟨j, e1, e2⟩ := d2 r q hr (by rw [nx] at hq; exact hq)
        exact ⟨j, by omega, e2⟩
      · have hji : j ≠ i := fun e => by rw [e, hT] at hTj; cases hTj
        obtain ⟨q, e1, e2⟩ := d3 r j hr (by omega) hTj
        exact ⟨q, by rw [nx]; exact e1, e2⟩
    | some r0 =>
      have hr0 := T_lt hb (show i < 19 * wds b by omega) hT
      have hlt := cN_lt (show i < 19 * wds b by omega) hT
      have hst : st0 b (r0 + 1) ≤ 19 * wds b := st0_le hr0
      rw [st0_succ] at hst
      have hne : nI (fn b + r0) ≠ -1 := fun e => by
        have := congrArg Int32.toInt e
        rw [i_toInt (by omega)] at this
        have h9 : Int32.toInt (-1) = -1 := by decide
        omega
      rw [if_neg hne]
      simp only [oo_v, hR_S, hR_W w K36 (by omega) (show R0 36 2 = some 41 from rfl), hR_W w K36 (by omega) (show R0 36 4 = some 45 from rfl), kO_S, kO_W w RW41.1, kO_W w RW45.1, if_true, s_get (WF_S w) RW45 (show fn b + r0 < 3620 by omega), cI_v, hS_2, d1 r0 hr0, s_put (WF_S w) RW41 (show fn b * 19 + st0 b r0 + cN b r0 i < 68780 by omega), cV_v, hS_S, show s2 g (41 + 1) (fn b * 19 + st0 b r0 + cN b r0 i) (nI (fn b * 19 + i)) (45 + 1) (fn b + r0) = nI (fn b * 19 + st0 b r0 + cN b r0 i) from d1 r0 hr0, s_put (WF_S w) RW45 (show fn b + r0 < 3620 by omega), L1, i_add]
      have hR1 : Rg b 42 (fn b * 19 + st0 b r0 + cN b r0 i) := Or.inr ⟨Or.inr rfl, by omega, by omega⟩
      have hR2 : Rg b 46 (fn b + r0) := Or.inl ⟨Or.inr (Or.inr rfl), by omega, by omega⟩
      have nx0 : cN b r0 (i + 1) = cN b r0 i + 1 := by rw [cN_succ, decide_eq_true hT]; rfl
      have nx : ∀ r, r ≠ r0 → cN b r (i + 1) = cN b r i := fun r hr => by
        rw [cN_succ, hT, decide_eq_false (fun q => hr (Option.some.inj q).symm)]
        rfl
      refine s_into w hb hf k (i + 1) (s2 (s2 g 42 (fn b * 19 + st0 b r0 + cN b r0 i) (nI (fn b * 19 + i))) 46 (fn b + r0) (nI (fn b * 19 + st0 b r0 + cN b r0 i + 1))) (by omega) ⟨fun r hr => ?_, fun r q hr hq => ?_, fun r j hr hj hTj => ?_⟩ (fun k' h5 h6 => ?_) (OffR.tr h3 (OffR.tr (s2_offR hR1) (s2_offR hR2)))
      · by_cases hrr : r = r0
        · subst hrr
          rw [nx0]
          simp [s2_at]
          rfl
        · rw [nx r hrr]
          have := d1 r hr
          simp [s2_at, hrr, this]
      · by_cases hrr : r = r0
        · subst hrr
          rw [nx0] at hq
          by_cases hqq : q = cN b r i
          · subst hqq
            exact ⟨i, by omega, hT, by simp [s2_at]⟩
          · obtain ⟨j, e1, e2, e3⟩ := d2 r q hr (by omega)
            refine ⟨j, by omega, e2, ?_⟩
            rw [s2_at, if_neg (by omega), s2_at, if_pos rfl, if_neg (by omega)]
            exact e3
        · rw [nx r hrr] at hq
          obtain ⟨j, e1, e2, e3⟩ := d2 r q hr hq
          refine ⟨j, by omega, e2, ?_⟩
          have hq2 : q < cN b r (19 * wds b) := Nat.lt_of_lt_of_le hq (cN_mono (by omega))
          have hap := st0_apart hq2 hlt hrr
          rw [s2_at, if_neg (by omega), s2_at, if_pos rfl, if_neg (by omega)]
          exact e3
      · by_cases hji : j = i
        · subst hji
          have : r = r0 := by rw [hT] at hTj; exact (Option.some.inj hTj).symm
          subst this
          exact ⟨cN b r j, by rw [nx0]; omega, by simp [s2_at]⟩
        · obtain ⟨q, e1, e2⟩ := d3 r j hr (by omega) hTj
          by_cases hrr : r = r0
          · subst hrr
            refine ⟨q, by rw [nx0]; omega, ?_⟩
            rw [s2_at, if_neg (by omega), s2_at, if_pos rfl, if_neg (by omega)]
            exact e2
          · refine ⟨q, by rw [nx r hrr]; exact e1, ?_⟩
            have hq2 : q < cN b r (19 * wds b) := Nat.lt_of_lt_of_le e1 (cN_mono (by omega))
            have hap := st0_apart hq2 hlt hrr
            rw [s2_at, if_neg (by omega), s2_at, if_pos rfl, if_neg (by omega)]
            exact e2
      · funext j
        rw [s2_at, if_neg h6, s2_at, if_neg h5, h2 k' h5 h6]
/-- the drawn regions; the counters of the others are 0 -/
def GAt (f : Nat → Nat → Int32) : Prop := ∃ D, D < 64 ∧ f 36 5 = nI D ∧ ∀ b, b < 6 → (D.testBit b = true → GOK f b) ∧ (D.testBit b = false → ∀ r, r < wds b → f 46 (fn b + r) = nI 0)
def gRows : List Nat := [36, 38, 40, 42, 44, 46]
theorem fn_mono {a c : Nat} (h : a ≤ c) : fn a ≤ fn c := by
  induction h with
  | refl => exact Nat.le_refl _
  | step _ ih => exact Nat.le_trans ih (Nat.le_add_right _ _)
theorem Rg_apart {a c j k : Nat} (hac : a ≠ c) (h : Rg a k j) : ¬ Rg c k j := by
  have h1 : a < c → fn a + wds a ≤ fn c := fun q => fn_mono q
  have h2 : c < a → fn c + wds c ≤ fn a := fun q => fn_mono q
  unfold Rg at *
  rcases Nat.lt_or_gt_of_ne hac with q | q
  · have := h1 q
    omega
  · have := h2 q
    omega
theorem GOK_off {f g : Nat → Nat → Int32} {a c : Nat} (ha : a < 6) (hac : a ≠ c) (h : GOK f a) (ho : OffR c f g) : GOK g a := by
  obtain ⟨h1, h2, h3, h4, h5, h6⟩ := h
  have hb : ∀ r, r < wds a → st0 a r + cN a r (19 * wds a) ≤ 19 * wds a := fun r hr => by
    have := st0_le (b := a) (r := r + 1) hr
    rwa [st0_succ] at this
  refine ⟨fun r hr => ?_, fun i hi => ?_, fun r hr => ?_, fun r hr => ?_, fun r q hr hq => ?_, fun r i hr hi hT => ?_⟩
  · rw [ho _ _ (Rg_apart hac (Or.inl ⟨Or.inl rfl, by omega, by omega⟩))]; exact h1 r hr
  · rw [ho _ _ (Rg_apart hac (Or.inr ⟨Or.inl rfl, by omega, by omega⟩))]; exact h2 i hi
  · rw [ho _ _ (Rg_apart hac (Or.inl ⟨Or.inr (Or.inl rfl), by omega, by omega⟩))]; exact h3 r hr
  · rw [ho _ _ (Rg_apart hac (Or.inl ⟨Or.inr (Or.inr rfl), by omega, by omega⟩))]; exact h4 r hr
  · have := hb r hr
    obtain ⟨i, e1, e2, e3⟩ := h5 r q hr hq
    exact ⟨i, e1, e2, by rw [ho _ _ (Rg_apart hac (Or.inr ⟨Or.inr rfl, by omega, by omega⟩))]; exact e3⟩
  · have := hb r hr
    obtain ⟨q, e1, e2⟩ := h6 r i hr hi hT
    exact ⟨q, e1, by rw [ho _ _ (Rg_apart hac (Or.inr ⟨Or.inr rfl, by omega, by omega⟩))]; exact e2⟩
theorem OffR_off {f g : Nat → Nat → Int32} (ho : OffR b f g) : Off f g gRows := by
  intro k hk
  funext j
  refine ho k j (fun q => hk ?_)
  unfold gRows
  simp only [List.mem_cons, List.not_mem_nil, or_false]
  unfold Rg at q
  omega
theorem s_draw (w : WF h) (hb : b < 6) (hg : GAt h.2.2) : ∃ g, f_G_draw 36 (nI b) h = rV (hS h g) ∧ GAt g ∧ GOK g b ∧ Off h.2.2 g gRows := by
  obtain ⟨D, hD, h36, hall⟩ := hg
  have hle := fn_le hb
  have k36 := kO_W w K36
  rw [e_G_draw, hI_W w K36, oo_v, h36, s_isIn (by omega) (by omega), cI_v]
  cases hbit : D.testBit b with
  | true =>
    refine ⟨h.2.2, ?_, ⟨D, hD, h36, hall⟩, (hall b hb).1 hbit, Off.rf⟩
    rw [if_pos rfl, if_neg (by decide)]
    rfl
  | false =>
    have hz := (hall b hb).2 hbit
    rw [if_pos (by decide)]
    generalize hf0 : s2 h.2.2 36 5 (nI (D ||| 1 <<< b)) = f0
    have hoff0 : Off h.2.2 f0 gRows := by rw [← hf0]; exact s2_off (by decide)
    have f36 : f0 36 5 = nI (D ||| 1 <<< b) := by rw [← hf0]; simp [s2_at]
    have fo : ∀ k, k ≠ 36 → f0 k = h.2.2 k := fun k hk => by
      rw [← hf0]
      funext j
      rw [s2_at, if_neg hk]
    have hw0 : WF (hS h f0) := WF_S w
    obtain ⟨g1, a1, a2, a3⟩ := s_on3 (h := hS h f0) hw0 hb (wds b) 0 f0 (by omega) ⟨fun r hr => by omega, fun j hj => by omega, fun r hr => by rw [fo 46 (by omega)]; exact hz r hr⟩ OffR.rf
    obtain ⟨o1, o2, o3⟩ := a2
    obtain ⟨g2, b1, b2, b3, b4⟩ := s_share (h := hS h f0) hw0 hb (f := g1) o3 (wds b) 0 g1 (by omega) (fun r' hr' => by omega) (fun r' _ _ => rfl) (fun _ _ _ => rfl) OffR.rf
    have g240 : ∀ i, i < 19 * wds b → g2 40 (fn b * 19 + i) = match T b i with
        | some r => nI (fn b + r)
        | none => -1 := fun i hi => by rw [b3 40 (by omega) (by omega)]; exact o2 i hi
    obtain ⟨g3, c1, c2, c3, c4⟩ := s_into (h := hS h f0) hw0 hb (f := g2) g240 (19 * wds b) 0 g2 (by omega) ⟨fun r hr => (b2 r hr).2, fun r q hr hq => by exact absurd hq (Nat.not_lt_zero _), fun r j hr hj => by omega⟩ (fun _ _ _ => rfl) OffR.rf
    have hoffR : OffR b f0 g3 := OffR.tr a3 (OffR.tr b4 c4)
    have hGb : GOK g3 b := by
      obtain ⟨i1, i2, i3⟩ := c2
      refine ⟨fun r hr => ?_, fun i hi => ?_, fun r hr => ?_, i1, i2, i3⟩
      · rw [c3 38 (by omega) (by omega), b3 38 (by omega) (by omega)]
        exact o1 r (by omega)
      · rw [c3 40 (by omega) (by omega)]
        exact g240 i hi
      · rw [c3 44 (by omega) (by omega)]
        exact (b2 r hr).1
    refine ⟨g3, ?_, ⟨D ||| 1 <<< b, ?_, ?_, fun c hc => ⟨fun hbc => ?_, fun hbc r hr => ?_⟩⟩, hGb, Off.tr hoff0 (OffR_off hoffR)⟩
    · rw [hI_W w K36, oo_v, if_pos k36, h36, L1, i_shl (by omega), i_or]
      simp only [sI_S, hf0, s_firstNode (show b < 7 by omega), s_wordsOf hb, cI_v, i_add, kO_S, k36, if_true]
      rw [e_G_drawOnward, show f_G_drawOnward_3 36 (nI b) (nI (fn b)) (nI (fn b + wds b)) (nI (fn b)) (hS h f0) = _ from a1, cV_v]
      simp only [kO_S, k36, if_true, hS_S]
      rw [e_G_shareOut, L19, i_mul, show f_G_shareOut_8 36 (nI (fn b + wds b)) (nI (fn b * 19)) (nI (fn b)) (hS h g1) = _ from b1, cV_v]
      simp only [kO_S, k36, if_true, hS_S]
      rw [e_G_drawInto, L19, i_mul, show f_G_drawInto_5 36 (nI (fn b + wds b)) (nI (fn b * 19)) (hS h g2) = _ from c1, cV_v]
      rfl
    · refine Nat.lt_pow_two_of_testBit (n := 6) _ fun i hi => ?_
      rw [Nat.testBit_or, t1b, big (k := 6) hD hi, decide_eq_false (by omega)]
      rfl
    · rw [hoffR 36 5 (by unfold Rg; omega)]
      exact f36
    · by_cases hcb : c = b
      · rw [hcb]; exact hGb
      · refine GOK_off hc hcb ?_ hoffR
        rw [Nat.testBit_or, t1b, decide_eq_false (show ¬ b = c by omega), Bool.or_false] at hbc
        have : D.testBit c = true := hbc
        have hG := (hall c hc).1 this
        obtain ⟨z1, z2, z3, z4, z5, z6⟩ := hG
        unfold GOK
        rw [fo 38 (by omega), fo 40 (by omega), fo 42 (by omega), fo 44 (by omega), fo 46 (by omega)]
        exact ⟨z1, z2, z3, z4, z5, z6⟩
    · rw [Nat.testBit_or, t1b, Bool.or_eq_false_iff, decide_eq_false_iff_not] at hbc
      have hcb : c ≠ b := fun e => hbc.2 e.symm
      rw [hoffR 46 _ (Rg_apart hcb (Or.inl ⟨Or.inr (Or.inr rfl), by omega, by omega⟩)), fo 46 (by omega)]
      exact (hall c hc).2 hbc.1 r hr
end GraphB
end
section
/-! ways in a graph of at most N words: n moves, price w in all; the least price -/
section Paths
variable (E : Nat → Nat → Option Nat) (p : Nat → Nat → Nat) (goal : Nat → Bool)
def Pt : Nat → Nat → Nat → Prop
  | 0, r, w => goal r = true ∧ w = 0
  | n + 1, r, w => ∃ m r' w', m < 19 ∧ E r m = some r' ∧ Pt n r' w' ∧ w = p r m + w'
/-- w is the least price of a way from r -/
def Lst (r w : Nat) : Prop := (∃ n, Pt E p goal n r w) ∧ ∀ n' w', Pt E p goal n' r w' → w ≤ w'
variable {E p goal}
theorem lst_uniq {r w w' : Nat} (h : Lst E p goal r w) (h' : Lst E p goal r w') : w = w' := by
  obtain ⟨⟨n, h1⟩, h2⟩ := h
  obtain ⟨⟨n', h3⟩, h4⟩ := h'
  have := h2 _ _ h3
  have := h4 _ _ h1
  omega
theorem lst_ex {r : Nat} : ∀ (w n : Nat), Pt E p goal n r w → ∃ w', w' ≤ w ∧ Lst E p goal r w' := by
  intro w
  induction w using Nat.strongRecOn with
  | ind w ih =>
    intro n hn
    by_cases hw : ∃ n' w', Pt E p goal n' r w' ∧ w' < w
    · obtain ⟨n', w', h1, h2⟩ := hw
      obtain ⟨v, h3, h4⟩ := ih w' h2 n' h1
      exact ⟨v, by omega, h4⟩
    · refine ⟨w, Nat.le_refl _, ⟨n, hn⟩, fun n' w' h1 => ?_⟩
      rcases Nat.lt_or_ge w' w with h2 | h2
      · exact absurd ⟨n', w', h1, h2⟩ hw
      · exact h2
theorem lst_goal {r : Nat} (h : goal r = true) : Lst E p goal r 0 := ⟨⟨0, h, rfl⟩, fun _ _ _ => Nat.zero_le _⟩
theorem lst_edge {r m r' w w' : Nat} (hm : m < 19) (he : E r m = some r') (h : Lst E p goal r w) (h' : Lst E p goal r' w') : w ≤ p r m + w' := by
  obtain ⟨⟨n', h3⟩, _⟩ := h'
  exact h.2 (n' + 1) _ ⟨m, r', w', hm, he, h3, rfl⟩
theorem lst_back {r m r' w' : Nat} (hm : m < 19) (he : E r m = some r') (h' : Lst E p goal r' w') : ∃ w, w ≤ p r m + w' ∧ Lst E p goal r w := by
  obtain ⟨⟨n', h3⟩, _⟩ := h'
  exact lst_ex (p r m + w') (n' + 1) ⟨m, r', w', hm, he, h3, rfl⟩
/-- the first move of a least way leaves a least way -/
theorem lst_step {n r w : Nat} (h : Pt E p goal (n + 1) r w) (hl : Lst E p goal r w) : ∃ m r' w', m < 19 ∧ E r m = some r' ∧ Pt E p goal n r' w' ∧ Lst E p goal r' w' ∧ w = p r m + w' := by
  obtain ⟨m, r', w', hm, he, h1, h2⟩ := h
  refine ⟨m, r', w', hm, he, h1, ⟨⟨n, h1⟩, fun n'' w'' h3 => ?_⟩, h2⟩
  have := hl.2 (n'' + 1) _ ⟨m, r', w'', hm, he, h3, rfl⟩
  omega
theorem lst_pos {r w : Nat} (hg : goal r = false) (hl : Lst E p goal r w) : ∃ m r' w', m < 19 ∧ E r m = some r' ∧ Lst E p goal r' w' ∧ w = p r m + w' := by
  obtain ⟨n, h1⟩ := hl.1
  cases n with
  | zero => rw [h1.1] at hg; cases hg
  | succ n =>
    obtain ⟨m, r', w', a1, a2, _, a3, a4⟩ := lst_step h1 hl
    exact ⟨m, r', w', a1, a2, a3, a4⟩
theorem lst_zero {N r w : Nat} (hr : r < N) (hp : ∀ r m r', r < N → m < 19 → E r m = some r' → 1 ≤ p r m) (hl : Lst E p goal r w) : w = 0 ↔ goal r = true := by
  constructor
  · intro hw
    cases hg : goal r with
    | true => rfl
    | false =>
      obtain ⟨m, r', w', a1, a2, _, a4⟩ := lst_pos hg hl
      have := hp r m r' hr a1 a2
      omega
  · exact fun hg => lst_uniq hl (lst_goal hg)
/-- n + 1 different numbers under N: n is under N -/
theorem pigeon : ∀ (N n : Nat) (f : Nat → Nat), (∀ j, j ≤ n → f j < N) → (∀ i j, i < j → j ≤ n → f i ≠ f j) → n < N
  | 0, n, f, h, _ => absurd (h 0 (Nat.zero_le _)) (Nat.not_lt_zero _)
  | N + 1, 0, _, _, _ => Nat.succ_pos _
  | N + 1, n + 1, f, h, hne => by
    have := pigeon N n (fun i => if f i = N then f (n + 1) else f i) (fun j hj => by
      have h1 := h j (by omega)
      have h2 := h (n + 1) (Nat.le_refl _)
      have h3 := hne j (n + 1) (by omega) (Nat.le_refl _)
      show (if f j = N then f (n + 1) else f j) < N
      by_cases hN : f j = N
      · rw [if_pos hN]; omega
      · rw [if_neg hN]; omega) (fun i j hij hj => by
      have h3 := hne j (n + 1) (by omega) (Nat.le_refl _)
      have h4 := hne i (n + 1) (by omega) (Nat.le_refl _)
      have h5 := hne i j hij (by omega)
      show (if f i = N then f (n + 1) else f i) ≠ (if f j = N then f (n + 1) else f j)
      by_cases hi : f i = N
      · by_cases hj' : f j = N
        · exact absurd (hi.trans hj'.symm) h5
        · rw [if_pos hi, if_neg hj']; exact fun e => h3 e.symm
      · by_cases hj' : f j = N
        · rw [if_neg hi, if_pos hj']; exact h4
        · rw [if_neg hi, if_neg hj']; exact h5)
    omega
/-- the words of a least way, from its end -/
theorem lst_nodes {N : Nat} (hp : ∀ r m r', r < N → m < 19 → E r m = some r' → 1 ≤ p r m) (hE : ∀ r m r', r < N → m < 19 → E r m = some r' → r' < N) : ∀ (n r w : Nat), r < N → Pt E p goal n r w → Lst E p goal r w →
    ∃ f c : Nat → Nat, (∀ j, j ≤ n → f j < N ∧ Lst E p goal (f j) (c j)) ∧ (∀ i j, i < j → j ≤ n → c i < c j) ∧ c n = w
  | 0, r, w, hr, h, hl => ⟨fun _ => r, fun _ => w, fun _ _ => ⟨hr, hl⟩, fun i j hij hj => by omega, rfl⟩
  | n + 1, r, w, hr, h, hl => by
    obtain ⟨m, r', w', a1, a2, a3, a4, a5⟩ := lst_step h hl
    obtain ⟨f, c, b1, b2, b3⟩ := lst_nodes hp hE n r' w' (hE r m r' hr a1 a2) a3 a4
    have hpm := hp r m r' hr a1 a2
    refine ⟨fun j => if j ≤ n then f j else r, fun j => if j ≤ n then c j else w, fun j hj => ?_, fun i j hij hj => ?_, ?_⟩
    · by_cases hjn : j ≤ n
      · simp only [if_pos hjn]; exact b1 j hjn
      · simp only [if_neg hjn]; exact ⟨hr, hl⟩
    · by_cases hjn : j ≤ n
      · simp only [if_pos hjn, if_pos (show i ≤ n by omega)]; exact b2 i j hij hjn
      · simp only [if_neg hjn, if_pos (show i ≤ n by omega)]
        rcases Nat.lt_or_ge i n with h5 | h5
        · have := b2 i n h5 (Nat.le_refl _)
          omega
        · obtain rfl : i = n := by omega
          omega
    · simp only [if_neg (show ¬ n + 1 ≤ n by omega)]
theorem lst_short {N n r w : Nat} (hp : ∀ r m r', r < N → m < 19 → E r m = some r' → 1 ≤ p r m) (hE : ∀ r m r', r < N → m < 19 → E r m = some r' → r' < N) (hr : r < N) (h : Pt E p goal n r w) (hl : Lst E p goal r w) : n < N := by
  obtain ⟨f, c, b1, b2, _⟩ := lst_nodes hp hE n r w hr h hl
  refine pigeon N n f (fun j hj => (b1 j hj).1) (fun i j hij hj e => ?_)
  have h1 := (b1 i (by omega)).2
  have h2 := (b1 j hj).2
  rw [e] at h1
  have := lst_uniq h1 h2
  have := b2 i j hij hj
  omega
theorem pt_le {N B : Nat} (hE : ∀ r m r', r < N → m < 19 → E r m = some r' → r' < N) (hB : ∀ r m r', r < N → m < 19 → E r m = some r' → p r m ≤ B) : ∀ (n r w : Nat), r < N → Pt E p goal n r w → w ≤ B * n
  | 0, _, _, _, h => by rw [h.2]; exact Nat.zero_le _
  | n + 1, r, _, hr, h => by
    obtain ⟨m, r', w', a1, a2, a3, a4⟩ := h
    have := pt_le hE hB n r' w' (hE r m r' hr a1 a2) a3
    have := hB r m r' hr a1 a2
    rw [a4, Nat.mul_succ]
    omega
theorem lst_le {N B r w : Nat} (hp : ∀ r m r', r < N → m < 19 → E r m = some r' → 1 ≤ p r m) (hB : ∀ r m r', r < N → m < 19 → E r m = some r' → p r m ≤ B) (hE : ∀ r m r', r < N → m < 19 → E r m = some r' → r' < N) (hr : r < N) (hl : Lst E p goal r w) : w ≤ B * (N - 1) := by
  obtain ⟨n, h1⟩ := hl.1
  have h2 := lst_short hp hE hr h1 hl
  exact Nat.le_trans (pt_le hE hB n r w hr h1) (Nat.mul_le_mul_left _ (by omega))
/-- numbers that are prices of ways, are 0 in order, and stand for every step: they are the least -/
theorem lst_of {N : Nat} {d : Nat → Option Nat} (hE : ∀ r m r', r < N → m < 19 → E r m = some r' → r' < N)
    (h1 : ∀ r w, r < N → d r = some w → ∃ n, Pt E p goal n r w) (h2 : ∀ r, r < N → goal r = true → d r = some 0)
    (h3 : ∀ r m r' w', r < N → m < 19 → E r m = some r' → d r' = some w' → ∃ w, d r = some w ∧ w ≤ p r m + w') :
    ∀ r, r < N → ∀ w, d r = some w ↔ Lst E p goal r w := by
  have key : ∀ n r w, r < N → Pt E p goal n r w → ∃ v, d r = some v ∧ v ≤ w := by
    intro n
    induction n with
    | zero => exact fun r w hr h => ⟨0, h2 r hr h.1, Nat.zero_le _⟩
    | succ n ih =>
      intro r w hr h
      obtain ⟨m, r', w', a1, a2, a3, a4⟩ := h
      obtain ⟨v', b1, b2⟩ := ih r' w' (hE r m r' hr a1 a2) a3
      obtain ⟨v, c1, c2⟩ := h3 r m r' v' hr a1 a2 b1
      exact ⟨v, c1, by omega⟩
  intro r hr w
  constructor
  · refine fun hd => ⟨h1 r w hr hd, fun n' w' h' => ?_⟩
    obtain ⟨v, c1, c2⟩ := key n' r w' hr h'
    rw [hd] at c1
    cases c1
    exact c2
  · intro hl
    obtain ⟨n, hn⟩ := hl.1
    obtain ⟨v, c1, c2⟩ := key n r w hr hn
    obtain ⟨n', hn'⟩ := h1 r v hr c1
    have := hl.2 n' v hn'
    rw [c1, show v = w by omega]
end Paths
end
section
/-! the search of the class: steps of a shelf, words in order -/
def ED (b S r m : Nat) : Option Nat := if rsn (wd b r) S m = 0 then some (rk b (aft (wd b r) m)) else none
def gol (b F C r : Nat) : Bool := inOrd (wd b r) F C
/-- the move pulls a book that is stuck -/
def hld (P S m : Nat) : Bool := decide (m < 7) && S.testBit (sl P m)
theorem rsn_split {P S m : Nat} : rsn P S m = 0 ↔ rsn P 0 m = 0 ∧ hld P S m = false := by
  unfold rsn hld
  by_cases h7 : m < 7
  · rw [if_pos h7, if_pos h7, decide_eq_true h7, Nat.zero_testBit, Bool.true_and]
    by_cases h0 : sl P m = 0
    · rw [if_pos h0, if_pos h0]; exact ⟨fun q => absurd q (by omega), fun q => absurd q.1 (by omega)⟩
    · rw [if_neg h0, if_neg h0]
      cases S.testBit (sl P m)
      · exact ⟨fun _ => ⟨rfl, rfl⟩, fun _ => rfl⟩
      · exact ⟨fun q => absurd q (by decide), fun q => absurd q.2 (by decide)⟩
  · rw [if_neg h7, if_neg h7, decide_eq_false h7, Bool.false_and]
    exact ⟨fun q => ⟨q, rfl⟩, fun q => q.1⟩
theorem ED_T {b S r m r' : Nat} (hm : m < 19) : ED b S r m = some r' ↔ T b (19 * r + m) = some r' ∧ hld (wd b r) S m = false := by
  unfold ED T
  rw [show (19 * r + m) / 19 = r by omega, show (19 * r + m) % 19 = m by omega]
  by_cases h0 : rsn (wd b r) S m = 0
  · have h1 := rsn_split.1 h0
    rw [if_pos h0, if_pos h1.1, h1.2]
    exact ⟨fun q => ⟨q, rfl⟩, fun q => q.1⟩
  · rw [if_neg h0]
    by_cases h1 : rsn (wd b r) 0 m = 0
    · rw [if_pos h1]
      exact ⟨fun q => (nomatch q), fun q => absurd (rsn_split.2 ⟨h1, q.2⟩) h0⟩
    · rw [if_neg h1]
      exact ⟨fun q => (nomatch q), fun q => (nomatch q.1)⟩
theorem ED_lt {b S : Nat} (hb : b < 6) : ∀ r m r', r < wds b → m < 19 → ED b S r m = some r' → r' < wds b := fun r m r' hr hm h =>
  T_lt hb (show 19 * r + m < 19 * wds b by omega) ((ED_T hm).1 h).1
/-- a price or none, as the rows keep it -/
def vI : Option Nat → Int32
  | none => -1
  | some w => nI w
theorem vI_m1 {x : Option Nat} (hx : ∀ w, x = some w → w < 2147483648) : vI x = -1 ↔ x = none := by
  cases x with
  | none => exact ⟨fun _ => rfl, fun _ => rfl⟩
  | some w =>
    refine ⟨fun q => ?_, fun q => nomatch q⟩
    have h1 := i_nneg (hx w rfl)
    rw [show nI w = -1 from q] at h1
    exact absurd (by decide) h1
section Search
variable {h : pH} {b : Nat}
theorem s_isHeld {r m S : Nat} (w : WF h) (hb : b < 6) (hr : r < wds b) (hm : m < 19) (hSl : S < 2147483648) {f : Nat → Nat → Int32} (hf : f 38 (fn b + r) = nI (wd b r)) :
    f_G_isHeld 36 (nI (fn b + r)) (nI m) (nI S) (hS h f) = rI (nI (hld (wd b r) S m).toNat) (hS h f) := by
  have hle := fn_le hb
  have hv := wd_VW hb hr
  have hs := sl_lt (wd b r) m
  rw [e_G_isHeld, s_isPull hm, cI_v]
  unfold hld
  by_cases h7 : m < 7
  · rw [if_pos h7, if_neg (by decide)]
    simp only [oo_v, hR_S, hR_W w K36 (by omega) (show R0 36 0 = some 37 from rfl), kO_S, kO_W w RW37.1, if_true, s_get (WF_S w) RW37 (show fn b + r < 3620 by omega), cI_v, hS_2]
    rw [show f (37 + 1) (fn b + r) = _ from hf, s_slotAt hv.1 h7, cI_v, s_isIn hSl (by omega), cI_v, decide_eq_true h7, Bool.true_and]
    cases S.testBit (sl (wd b r) m)
    · rw [if_pos (by decide)]; rfl
    · rw [if_neg (by decide)]; rfl
  · rw [if_neg h7, if_pos (by decide), decide_eq_false h7, Bool.false_and]; rfl
theorem K47 : K0[47]? = some (.inl 5) := rfl
theorem s_startAtOrder {k2 F C : Nat} {f : Nat → Nat → Int32} (w : WF h) (hb : b < 6) (hF : F < 2) (hC : C < 2) (hk : rowW k2 3620) (h2 : k2 + 1 ≠ 38) (h3 : k2 + 1 ≠ 1) (hg : GOK f b) (hf5 : f 1 5 = nI F) (hf6 : f 1 6 = nI C) : ∀ (k r : Nat) (g : Nat → Nat → Int32), r + k = wds b →
    (∀ r', r' < r → g (k2 + 1) (fn b + r') = vI (if gol b F C r' then some 0 else none)) → Off f g [k2 + 1] →
    ∃ g', f_S_startAtOrder_3 47 1 k2 (nI (fn b + wds b)) (nI (fn b + r)) (hS h g) = rV (hS h g') ∧ (∀ r', r' < wds b → g' (k2 + 1) (fn b + r') = vI (if gol b F C r' then some 0 else none)) ∧ Off f g' [k2 + 1]
  | 0, r, g, hr, h1, ho => by
    have hle := fn_le hb
    obtain rfl : r = wds b := by omega
    refine ⟨g, ?_, h1, ho⟩
    rw [e_S_startAtOrder_3, if_pos (by rw [i_le (by omega) (by omega)]; exact Nat.le_refl _)]
  | k + 1, r, g, hr, h1, ho => by
    have hle := fn_le hb
    have hv := wd_VW hb (show r < wds b by omega)
    have g38 : g 38 (fn b + r) = nI (wd b r) := by
      rw [ho 38 (by simp; omega)]
      exact hg.1 r (by omega)
    have g15 : g 1 5 = nI F := by rw [ho 1 (by simp; omega)]; exact hf5
    have g16 : g 1 6 = nI C := by rw [ho 1 (by simp; omega)]; exact hf6
    rw [e_S_startAtOrder_3, if_neg (by rw [i_le (by omega) (by omega)]; omega)]
    simp only [oo_v, hR_S, hR_W w K47 (by omega) (show R0 47 0 = some 36 from rfl), hR_W w K36 (by omega) (show R0 36 0 = some 37 from rfl), kO_S, kO_W w RW37.1, if_true, s_get (WF_S w) RW37 (show fn b + r < 3620 by omega), cI_v, hS_2, hI_W (WF_S w) K1]
    rw [show g (37 + 1) (fn b + r) = _ from g38, g15, g16, s_isInOrder hv.1 hF hC, cI_v]
    have nx : ∀ x : Int32, x = vI (if gol b F C r then some 0 else none) → ∃ g', f_S_startAtOrder_3 47 1 k2 (nI (fn b + wds b)) (nI (fn b + (r + 1))) (hS h (s2 g (k2 + 1) (fn b + r) x)) = rV (hS h g') ∧ (∀ r', r' < wds b → g' (k2 + 1) (fn b + r') = vI (if gol b F C r' then some 0 else none)) ∧ Off f g' [k2 + 1] := fun x hx => by
      refine s_startAtOrder w hb hF hC hk h2 h3 hg hf5 hf6 k (r + 1) _ (by omega) (fun r' hr' => ?_) (Off.tr ho (s2_off (by simp)))
      by_cases hrr : r' = r
      · subst hrr
        rw [s2_at]
        simp [hx]
      · have := h1 r' (by omega)
        rw [s2_at]
        simp [hrr, this]
    cases hgo : inOrd (wd b r) F C with
    | false =>
      rw [if_pos (by rfl)]
      simp only [kO_S, kO_W w hk.1, if_true, s_put (WF_S w) hk (show fn b + r < 3620 by omega), cV_v, hS_S, hS_2, L1, i_add]
      rw [show fn b + r + 1 = fn b + (r + 1) by omega]
      exact nx _ (by unfold gol; rw [hgo]; rfl)
    | true =>
      rw [if_neg (by decide)]
      simp only [kO_S, kO_W w hk.1, if_true, s_put (WF_S w) hk (show fn b + r < 3620 by omega), cV_v, hS_S, hS_2, L1, i_add]
      rw [show fn b + r + 1 = fn b + (r + 1) by omega]
      exact nx _ (by unfold gol; rw [hgo]; rfl)
end Search
end
section
/-! the fewest moves to order: breadth first, from the words in order back -/
def Bf (b S F C : Nat) (f : Nat → Nat → Int32) (d : Nat → Option Nat) (q : Nat → Nat) (len head : Nat) : Prop :=
  (∀ r, r < wds b → f 49 (fn b + r) = vI (d r)) ∧
  (∀ i, i < len → q i < wds b ∧ f 57 i = nI (fn b + q i) ∧ ∃ w, w ≤ i ∧ d (q i) = some w) ∧
  (∀ i j, i < j → j < len → q i ≠ q j) ∧
  (∀ i j u v, i ≤ j → j < len → d (q i) = some u → d (q j) = some v → u ≤ v) ∧
  (∀ r w, r < wds b → d r = some w → (∃ i, i < len ∧ q i = r) ∧ ∃ n, Pt (ED b S) (fun _ _ => 1) (gol b F C) n r w) ∧
  (∀ r, r < wds b → gol b F C r = true → d r = some 0) ∧
  (∀ i r m, i < head → r < wds b → m < 19 → ED b S r m = some (q i) → ∃ u v, d r = some u ∧ d (q i) = some v ∧ u ≤ v + 1) ∧
  (∀ j u v, j < len → head < len → d (q head) = some v → d (q j) = some u → u ≤ v + 1) ∧ head ≤ len
theorem Bf_len {b S F C : Nat} {f : Nat → Nat → Int32} {d : Nat → Option Nat} {q : Nat → Nat} {len head : Nat} (h : Bf b S F C f d q len head) : len ≤ wds b := by
  obtain ⟨_, h2, h3, _⟩ := h
  rcases Nat.eq_zero_or_pos len with e | e
  · omega
  · have := pigeon (wds b) (len - 1) q (fun j hj => (h2 j (by omega)).1) (fun i j hij hj => h3 i j hij (by omega))
    omega
theorem Bf_lt {b S F C : Nat} {f : Nat → Nat → Int32} {d : Nat → Option Nat} {q : Nat → Nat} {len head r w : Nat} (hb : b < 6) (h : Bf b S F C f d q len head) (hr : r < wds b) (hd : d r = some w) : w < 2520 := by
  have hl := Bf_len h
  have hw := wds_lt hb
  obtain ⟨_, h2, _, _, h5, _⟩ := h
  obtain ⟨i, hi, hq⟩ := (h5 r w hr hd).1
  obtain ⟨w', hw', hd'⟩ := (h2 i hi).2.2
  rw [hq, hd] at hd'
  cases hd'
  omega
/-- a word that was not reached is reached from the head -/
theorem Bf_add {b S F C : Nat} {f : Nat → Nat → Int32} {d : Nat → Option Nat} {q : Nat → Nat} {len head r m v : Nat} (hr : r < wds b) (hm : m < 19) (hh : head < len) (h : Bf b S F C f d q len head) (hE : ED b S r m = some (q head)) (hv : d (q head) = some v) (hn : d r = none) :
    Bf b S F C (s2 (s2 f 49 (fn b + r) (nI (v + 1))) 57 len (nI (fn b + r))) (fun r' => if r' = r then some (v + 1) else d r') (fun i => if i = len then r else q i) (len + 1) head := by
  obtain ⟨h1, h2, h3, h4, h5, h6, h7, h8, h9⟩ := h
  have hold : ∀ i, i < len → q i ≠ r := fun i hi e => by
    obtain ⟨w, _, hw⟩ := (h2 i hi).2.2
    rw [e, hn] at hw
    cases hw
  obtain ⟨wv, hwv, hdv⟩ := (h2 head hh).2.2
  have hvh : v ≤ head := by rw [hv] at hdv; cases hdv; exact hwv
  refine ⟨fun r' hr' => ?_, fun i hi => ?_, fun i j hij hj => ?_, fun i j u x hij hj hu hx => ?_, fun r' w' hr' hw' => ?_, fun r' hr' hg => ?_, fun i r' m' hi hr' hm' hE' => ?_, fun j u x hj _ hx hu => ?_, by omega⟩
  · by_cases hrr : r' = r
    · subst hrr
      simp [s2_at, vI]
    · simp [s2_at, hrr, h1 r' hr']
  · by_cases hil : i = len
    · subst hil
      refine ⟨by simp [hr], by simp [s2_at], v + 1, by omega, by simp⟩
    · have h0 := h2 i (by omega)
      have h00 := hold i (by omega)
      simp only [if_neg hil, if_neg h00]
      refine ⟨h0.1, ?_, h0.2.2⟩
      simp [s2_at, hil, h0.2.1]
  · have hi : i ≠ len := by omega
    by_cases hjl : j = len
    · simp only [if_neg hi, if_pos hjl]
      exact hold i (by omega)
    · simp only [if_neg hi, if_neg hjl]
      exact h3 i j hij (by omega)
  · by_cases hjl : j = len
    · simp only [if_pos hjl, if_true, Option.some.injEq] at hx
      by_cases hil : i = len
      · simp only [if_pos hil, if_true, Option.some.injEq] at hu
        omega
      · simp only [if_neg hil, if_neg (hold i (by omega))] at hu
        have := h8 i u v (by omega) hh hv hu
        omega
    · have hil : i ≠ len := by omega
      simp only [if_neg hil, if_neg (hold i (by omega))] at hu
      simp only [if_neg hjl, if_neg (hold j (by omega))] at hx
      exact h4 i j u x hij (by omega) hu hx
  · by_cases hrr : r' = r
    · subst hrr
      simp only [if_true, Option.some.injEq] at hw'
      refine ⟨⟨len, by omega, by simp⟩, ?_⟩
      obtain ⟨n, hn'⟩ := (h5 (q head) v (h2 head hh).1 hv).2
      exact ⟨n + 1, m, q head, v, hm, hE, hn', by rw [← hw']; exact Nat.add_comm _ _⟩
    · simp only [if_neg hrr] at hw'
      obtain ⟨⟨i, hi, hq⟩, hp⟩ := h5 r' w' hr' hw'
      exact ⟨⟨i, by omega, by simp [show i ≠ len by omega, hq]⟩, hp⟩
  · by_cases hrr : r' = r
    · subst hrr
      rw [h6 r' hr' hg] at hn
      cases hn
    · simp only [if_neg hrr]
      exact h6 r' hr' hg
  · have hil : i ≠ len := by omega
    simp only [if_neg hil] at hE' ⊢
    obtain ⟨u, x, a1, a2, a3⟩ := h7 i r' m' hi hr' hm' hE'
    have hrr : r' ≠ r := fun e => by rw [e, hn] at a1; cases a1
    simp only [if_neg hrr, if_neg (hold i (by omega))]
    exact ⟨u, x, a1, a2, a3⟩
  · have hhl : head ≠ len := by omega
    simp only [if_neg hhl, if_neg (hold head hh)] at hx
    rw [hv] at hx
    cases hx
    by_cases hjl : j = len
    · simp only [if_pos hjl, if_true, Option.some.injEq] at hu
      omega
    · simp only [if_neg hjl, if_neg (hold j (by omega))] at hu
      exact h8 j u v (by omega) hh hv hu
theorem Bf_next {b S F C : Nat} {f : Nat → Nat → Int32} {d : Nat → Option Nat} {q : Nat → Nat} {len head : Nat} (hh : head < len) (h : Bf b S F C f d q len head) (hs : ∀ r m, r < wds b → m < 19 → ED b S r m = some (q head) → ∃ u, d r = some u) : Bf b S F C f d q len (head + 1) := by
  obtain ⟨h1, h2, h3, h4, h5, h6, h7, h8, h9⟩ := h
  obtain ⟨v, _, hv⟩ := (h2 head hh).2.2
  refine ⟨h1, h2, h3, h4, h5, h6, fun i r m hi hr hm hE => ?_, fun j u x hj hh' hx hu => ?_, by omega⟩
  · by_cases hih : i = head
    · subst hih
      obtain ⟨u, hu⟩ := hs r m hr hm hE
      obtain ⟨j, hj, hq⟩ := (h5 r u hr hu).1
      exact ⟨u, v, hu, hv, h8 j u v hj hh hv (by rw [hq]; exact hu)⟩
    · exact h7 i r m (by omega) hr hm hE
  · have a1 := h8 j u v hj hh hv hu
    have a2 := h4 head (head + 1) v x (by omega) hh' hv hx
    omega
theorem Bf_end {b S F C : Nat} {f : Nat → Nat → Int32} {d : Nat → Option Nat} {q : Nat → Nat} {len : Nat} (hb : b < 6) (h : Bf b S F C f d q len len) : ∀ r, r < wds b → ∀ w, d r = some w ↔ Lst (ED b S) (fun _ _ => 1) (gol b F C) r w := by
  obtain ⟨h1, h2, h3, h4, h5, h6, h7, h8, h9⟩ := h
  refine lst_of (ED_lt hb) (fun r w hr hw => (h5 r w hr hw).2) h6 (fun r m r' w' hr hm hE hd => ?_)
  obtain ⟨i, hi, hq⟩ := (h5 r' w' (ED_lt hb r m r' hr hm hE) hd).1
  obtain ⟨u, v, a1, a2, a3⟩ := h7 i r m hi hr hm (by rw [hq]; exact hE)
  rw [hq, hd] at a2
  cases a2
  exact ⟨u, a1, by omega⟩
theorem RW48 : rowW 48 3620 := by unfold rowW; decide
theorem RW56 : rowW 56 3620 := by unfold rowW; decide
theorem Bf_off {b S F C : Nat} {f g : Nat → Nat → Int32} {d : Nat → Option Nat} {q : Nat → Nat} {len head : Nat} (h : Bf b S F C f d q len head) (h1 : g 49 = f 49) (h2 : g 57 = f 57) : Bf b S F C g d q len head := by
  unfold Bf at *
  rw [h1, h2]
  exact h
section Fewest
variable {h : pH} {b : Nat}
theorem s_comeFrom_16 {S F C head : Nat} (w : WF h) (hb : b < 6) (hSl : S < 2147483648) (hG : GOK h.2.2 b) : ∀ (k j : Nat) (g : Nat → Nat → Int32) (d : Nat → Option Nat) (q : Nat → Nat) (len v : Nat), j + k = cN b (q head) (19 * wds b) → Bf b S F C g d q len head → head < len → d (q head) = some v →
    (∀ i p, i < 19 * wds b → T b i = some (q head) → p < j → h.2.2 42 (fn b * 19 + st0 b (q head) + p) = nI (fn b * 19 + i) → hld (wd b (i / 19)) S (i % 19) = false → ∃ u, d (i / 19) = some u) → Off h.2.2 g [49, 57] →
    ∃ g' d' q' len', f_S_comeFrom_16 47 (nI (fn b + q head)) (nI S) (nI len) (nI (fn b * 19 + st0 b (q head) + j)) (hS h g) = rI (nI len') (hS h g') ∧ Bf b S F C g' d' q' len' (head + 1) ∧ Off h.2.2 g' [49, 57]
  | 0, j, g, d, q, len, v, hj, hB, hh, hv, hs, ho => by
    have hle := fn_le hb
    have hx := (hB.2.1 head hh).1
    have hst := st0_lt hb (show q head + 1 ≤ wds b by omega)
    rw [st0_succ] at hst
    have g46 : g 46 (fn b + q head) = nI (fn b * 19 + st0 b (q head) + cN b (q head) (19 * wds b)) := by
      rw [ho 46 (by simp)]
      exact hG.2.2.2.1 _ hx
    refine ⟨g, d, q, len, ?_, Bf_next hh hB (fun r m hr hm hE => ?_), ho⟩
    · rw [e_S_comeFrom_16]
      simp only [oo_v, hR_S, hR_W w K47 (by omega) (show R0 47 0 = some 36 from rfl), hR_W w K36 (by omega) (show R0 36 4 = some 45 from rfl), kO_S, kO_W w RW45.1, if_true, s_get (WF_S w) RW45 (show fn b + q head < 3620 by omega), cI_v, hS_2]
      rw [show g (45 + 1) (fn b + q head) = _ from g46, if_pos (by rw [i_le (by omega) (by omega)]; omega)]
    · obtain ⟨hT, hhd⟩ := (ED_T hm).1 hE
      obtain ⟨p, hp, hp2⟩ := hG.2.2.2.2.2 (q head) (19 * r + m) hx (by omega) hT
      have h5 := hs (19 * r + m) p (by omega) hT (by omega) hp2
      rw [show (19 * r + m) / 19 = r by omega, show (19 * r + m) % 19 = m by omega] at h5
      exact h5 hhd
  | k + 1, j, g, d, q, len, v, hj, hB, hh, hv, hs, ho => by
    have hle := fn_le hb
    have hx := (hB.2.1 head hh).1
    have hlen := Bf_len hB
    have hw25 := wds_lt hb
    have hst := st0_lt hb (show q head + 1 ≤ wds b by omega)
    rw [st0_succ] at hst
    have g46 : g 46 (fn b + q head) = nI (fn b * 19 + st0 b (q head) + cN b (q head) (19 * wds b)) := by
      rw [ho 46 (by simp)]
      exact hG.2.2.2.1 _ hx
    obtain ⟨i, hi, hT, h42⟩ := hG.2.2.2.2.1 (q head) j hx (by omega)
    have g42 : g 42 (fn b * 19 + st0 b (q head) + j) = nI (fn b * 19 + i) := by
      rw [ho 42 (by simp)]
      exact h42
    have hr : i / 19 < wds b := by omega
    have hm : i % 19 < 19 := Nat.mod_lt _ (by omega)
    have g38 : g 38 (fn b + i / 19) = nI (wd b (i / 19)) := by
      rw [ho 38 (by simp)]
      exact hG.1 _ hr
    have g49 : g 49 (fn b + i / 19) = vI (d (i / 19)) := hB.1 _ hr
    have hvlt := Bf_lt hb hB hx hv
    have g49x : g 49 (fn b + q head) = nI v := by rw [hB.1 _ hx, hv]; rfl
    have hone : ∀ i' p, i' < 19 * wds b → p < j + 1 → h.2.2 42 (fn b * 19 + st0 b (q head) + p) = nI (fn b * 19 + i') → p = j → i' = i := fun i' p hi' _ he hpj => by
      rw [hpj, h42, i_inj (by omega) (by omega)] at he
      omega
    have go : ∀ {g1 d1 q1 len1}, Bf b S F C g1 d1 q1 len1 head → head < len1 → q1 head = q head → d1 (q head) = some v → (∀ r u, d r = some u → d1 r = some u) → (hld (wd b (i / 19)) S (i % 19) = false → ∃ u, d1 (i / 19) = some u) → Off h.2.2 g1 [49, 57] →
        ∃ g' d' q' len', f_S_comeFrom_16 47 (nI (fn b + q head)) (nI S) (nI len1) (nI (fn b * 19 + st0 b (q head) + (j + 1))) (hS h g1) = rI (nI len') (hS h g') ∧ Bf b S F C g' d' q' len' (head + 1) ∧ Off h.2.2 g' [49, 57] := fun {g1 d1 q1 len1} c1 c2 c3 c4 c5 c6 c7 => by
      have := s_comeFrom_16 (F := F) (C := C) (head := head) w hb hSl hG k (j + 1) g1 d1 q1 len1 v (by rw [c3]; omega) c1 c2 (by rw [c3]; exact c4) (fun i' p hi' hT' hp he hhd => ?_) c7
      · rw [c3] at this
        exact this
      · rw [c3] at hT' he
        by_cases hpj : p = j
        · have := hone i' p hi' hp he hpj
          subst this
          exact c6 hhd
        · obtain ⟨u, hu⟩ := hs i' p hi' hT' (by omega) he hhd
          exact ⟨u, c5 _ _ hu⟩
    rw [e_S_comeFrom_16]
    simp only [oo_v, hR_S, hR_W w K47 (by omega) (show R0 47 0 = some 36 from rfl), hR_W w K36 (by omega) (show R0 36 4 = some 45 from rfl), kO_S, kO_W w RW45.1, if_true, s_get (WF_S w) RW45 (show fn b + q head < 3620 by omega), cI_v, hS_2]
    rw [show g (45 + 1) (fn b + q head) = _ from g46, if_neg (by rw [i_le (by omega) (by omega)]; omega)]
    simp only [oo_v, hR_S, hR_W w K47 (by omega) (show R0 47 0 = some 36 from rfl), hR_W w K36 (by omega) (show R0 36 2 = some 41 from rfl), kO_S, kO_W w RW41.1, if_true, s_get (WF_S w) RW41 (show fn b * 19 + st0 b (q head) + j < 68780 by omega), cI_v, hS_2]
    rw [show g (41 + 1) (fn b * 19 + st0 b (q head) + j) = _ from g42, if_neg (by decide), L19, i_div (by omega) (by omega), show (fn b * 19 + i) / 19 = fn b + i / 19 by omega, i_mul, i_sub (by omega), show fn b * 19 + i - (fn b + i / 19) * 19 = i % 19 by omega]
    simp only [oo_v, hR_S, hR_W w K47 (by omega) (show R0 47 1 = some 48 from rfl), kO_S, kO_W w RW48.1, if_true, s_get (WF_S w) RW48 (show fn b + i / 19 < 3620 by omega), cI_v, hS_2]
    rw [show g (48 + 1) (fn b + i / 19) = _ from g49]
    cases hd : d (i / 19) with
    | some u =>
      have hul := Bf_lt hb hB hr hd
      rw [if_neg (by rw [vI_m1 (fun w' e => by cases e; omega)]; simp), L1, i_add]
      exact go hB hh rfl hv (fun _ _ e => e) (fun _ => ⟨u, hd⟩) ho
    | none =>
      rw [if_pos (show vI none = -1 from rfl)]
      simp only [oo_v, hR_S, hR_W w K47 (by omega) (show R0 47 0 = some 36 from rfl), if_neg (show ¬ nI 19 = 0 by decide), kO_S, kO_W w K36, if_true, s_isHeld w hb hr hm hSl g38, cI_v]
      cases hhd : hld (wd b (i / 19)) S (i % 19) with
      | true =>
        rw [if_neg (by decide), L1, i_add]
        exact go hB hh rfl hv (fun _ _ e => e) (fun e => by rw [hhd] at e; cases e) ho
      | false =>
        have hE : ED b S (i / 19) (i % 19) = some (q head) := (ED_T hm).2 ⟨by rw [show 19 * (i / 19) + i % 19 = i by omega]; exact hT, hhd⟩
        have hA := Bf_add hr hm hh hB hE hv hd
        rw [if_pos (by rfl)]
        simp only [oo_v, hR_S, hR_W w K47 (by omega) (show R0 47 1 = some 48 from rfl), hR_W w K47 (by omega) (show R0 47 8 = some 56 from rfl), kO_S, kO_W w RW48.1, kO_W w RW56.1, if_true, s_get (WF_S w) RW48 (show fn b + q head < 3620 by omega), cI_v, hS_2, s_put (WF_S w) RW48 (show fn b + i / 19 < 3620 by omega), cV_v, hS_S, s_put (WF_S w) RW56 (show len < 3620 by omega)]
        rw [show g (48 + 1) (fn b + q head) = _ from g49x, L1, i_add, i_add, i_add]
        refine go hA (by omega) ?_ ?_ (fun r u hu => ?_) (fun _ => ⟨v + 1, by simp⟩) (Off.tr ho (Off.tr (s2_off (by simp)) (s2_off (by simp))))
        · simp only [if_neg (show head ≠ len by omega)]
        · rw [if_neg (fun e => by rw [e, hd] at hv; cases hv)]; exact hv
        · show (if r = i / 19 then some (v + 1) else d r) = some u
          rw [if_neg (fun e => by rw [e, hd] at hu; cases hu)]
          exact hu
end Fewest
end
section
/-! the fewest moves, from the words in order on; the key that says for which shelf they stand -/
def d0 (b F C r : Nat) : Option Nat := if gol b F C r then some 0 else none
/-- the first len places of the queue are the words in order under r -/
def Qi (b F C : Nat) (f : Nat → Nat → Int32) (q : Nat → Nat) (len r : Nat) : Prop :=
  (∀ i, i < len → q i < r ∧ gol b F C (q i) = true ∧ f 57 i = nI (fn b + q i)) ∧ (∀ i j, i < j → j < len → q i < q j) ∧ (∀ r', r' < r → gol b F C r' = true → ∃ i, i < len ∧ q i = r') ∧ len ≤ r
theorem Qi_Bf {b S F C : Nat} {f : Nat → Nat → Int32} {q : Nat → Nat} {len : Nat} (h : Qi b F C f q len (wds b)) (h9 : ∀ r, r < wds b → f 49 (fn b + r) = vI (d0 b F C r)) : Bf b S F C f (d0 b F C) q len 0 := by
  obtain ⟨h1, h2, h3, h4⟩ := h
  have hd : ∀ r w, d0 b F C r = some w → gol b F C r = true ∧ w = 0 := fun r w e => by
    unfold d0 at e
    split at e
    · rename_i hg
      cases e
      exact ⟨hg, rfl⟩
    · cases e
  have hd' : ∀ r, gol b F C r = true → d0 b F C r = some 0 := fun r e => by unfold d0; rw [if_pos e]
  refine ⟨h9, fun i hi => ⟨(h1 i hi).1, (h1 i hi).2.2, 0, Nat.zero_le _, hd' _ (h1 i hi).2.1⟩, fun i j hij hj => Nat.ne_of_lt (h2 i j hij hj), fun i j u v hij hj hu hv => ?_, fun r w hr e => ?_, fun r hr hg => hd' r hg, fun i r m hi => absurd hi (Nat.not_lt_zero _), fun j u v hj hh hv hu => ?_, Nat.zero_le _⟩
  · rw [(hd _ _ hu).2]; exact Nat.zero_le _
  · obtain ⟨hg, hw⟩ := hd r w e
    exact ⟨h3 r hr hg, 0, hg, hw⟩
  · rw [(hd _ _ hu).2]; exact Nat.zero_le _
/-- the rows hold the fewest moves of every word -/
def Fw (b S F C : Nat) (f : Nat → Nat → Int32) : Prop := ∀ r, r < wds b → ∃ o, f 49 (fn b + r) = vI o ∧ ∀ w, o = some w ↔ Lst (ED b S) (fun _ _ => 1) (gol b F C) r w
def kyM (b S F C : Nat) : Nat := ((S * 2 + F) * 2 + C) * 8 + b
/-- what was found once stands for its key -/
def FewC (f : Nat → Nat → Int32) : Prop := f 47 4 = -1 ∨ ∃ b S F C, b < 6 ∧ S < 64 ∧ F < 2 ∧ C < 2 ∧ f 47 4 = nI (kyM b S F C) ∧ Fw b S F C f
theorem kyM_lt {b S F C : Nat} (hb : b < 6) (hSl : S < 64) (hF : F < 2) (hC : C < 2) : kyM b S F C < 2048 := by unfold kyM; omega
theorem kyM_inj {b S F C b' S' F' C' : Nat} (hb : b < 6) (hF : F < 2) (hC : C < 2) (hb' : b' < 6) (hF' : F' < 2) (hC' : C' < 2) (e : kyM b S F C = kyM b' S' F' C') : b = b' ∧ S = S' ∧ F = F' ∧ C = C' := by unfold kyM at e; omega
set_option maxRecDepth 20000 in
theorem kyM_all : ∀ S, S < 64 → ∀ F, F < 2 → ∀ C, C < 2 → ∀ b, b < 6 → ((((((nI S <<< ((1 : Int32) &&& 31)) ||| nI F) <<< ((1 : Int32) &&& 31)) ||| nI C) <<< ((3 : Int32) &&& 31)) ||| nI b) = nI (kyM b S F C) := by decide +kernel
theorem GOK_of {f g : Nat → Nat → Int32} {b : Nat} {l : List Nat} (hc : GOK f b) (ho : Off f g l) (hl : 38 ∉ l ∧ 40 ∉ l ∧ 42 ∉ l ∧ 44 ∉ l ∧ 46 ∉ l) : GOK g b := by
  unfold GOK at *
  rw [ho 38 hl.1, ho 40 hl.2.1, ho 42 hl.2.2.1, ho 44 hl.2.2.2.1, ho 46 hl.2.2.2.2]
  exact hc
section Fewestb
variable {h : pH} {b : Nat}
theorem s_keyOfMoves {a : AS} {f : Nat → Nat → Int32} (w : WF h) (ha : AOK a) (hc : CAt f 1 a) : f_B_keyOfMoves 1 (hS h f) = rI (nI (kyM (aB a) (aS a) (aF a) (aC a))) (hS h f) := by
  obtain ⟨c0, c1, c2, c3, c4, c5, c6, _⟩ := hc
  rw [e_B_keyOfMoves]
  simp only [hI_W (WF_S w) K1, oo_v, hS_2, c1, c4, c5, c6]
  rw [kyM_all _ ha.2.2.1 _ ha.2.2.2.2.1 _ ha.2.2.2.2.2.1 _ ha.2.1]
theorem s_findFewest_98 {a : AS} (w : WF h) (ha : AOK a) (hc : CAt h.2.2 1 a) (hG : GOK h.2.2 (aB a)) : ∀ (k head : Nat) (g : Nat → Nat → Int32) (d : Nat → Option Nat) (q : Nat → Nat) (len : Nat), head + k = wds (aB a) → Bf (aB a) (aS a) (aF a) (aC a) g d q len head → Off h.2.2 g [49, 57] →
    ∃ g', f_S_findFewest_98 47 1 (nI len) (nI head) (hS h g) = rV (hS h g') ∧ Fw (aB a) (aS a) (aF a) (aC a) g' ∧ Off h.2.2 g' [49, 57] := by
  have hb : aB a < 6 := ha.2.1
  have hle := fn_le hb
  have hw25 := wds_lt hb
  have fin : ∀ (g : Nat → Nat → Int32) d q len head, len ≤ head → Bf (aB a) (aS a) (aF a) (aC a) g d q len head → Fw (aB a) (aS a) (aF a) (aC a) g := fun g d q len head hl hB r hr => by
    have h9 := hB.2.2.2.2.2.2.2.2
    obtain rfl : len = head := by omega
    exact ⟨d r, hB.1 r hr, Bf_end hb hB r hr⟩
  intro k
  induction k with
  | zero =>
    intro head g d q len hk hB ho
    have hl := Bf_len hB
    refine ⟨g, ?_, fin g d q len head (by omega) hB, ho⟩
    rw [e_S_findFewest_98, if_pos (by rw [i_le (by omega) (by omega)]; omega)]
  | succ k ih =>
    intro head g d q len hk hB ho
    have hl := Bf_len hB
    by_cases hh : len ≤ head
    · refine ⟨g, ?_, fin g d q len head hh hB, ho⟩
      rw [e_S_findFewest_98, if_pos (by rw [i_le (by omega) (by omega)]; omega)]
    · have hx := (hB.2.1 head (by omega)).1
      obtain ⟨v, _, hv⟩ := (hB.2.1 head (by omega)).2.2
      have g57 : g 57 head = nI (fn (aB a) + q head) := (hB.2.1 head (by omega)).2.1
      have hst := st0_lt hb (show q head ≤ wds (aB a) by omega)
      have g44 : g 44 (fn (aB a) + q head) = nI (fn (aB a) * 19 + st0 (aB a) (q head)) := by
        rw [ho 44 (by simp)]
        exact hG.2.2.1 _ hx
      have g14 : g 1 4 = nI (aS a) := by rw [ho 1 (by simp)]; exact hc.2.2.2.2.1
      have hSl : aS a < 64 := ha.2.2.1
      obtain ⟨g', d', q', len', e1, e2, e3⟩ := s_comeFrom_16 (F := aF a) (C := aC a) w hb (by omega) hG (cN (aB a) (q head) (19 * wds (aB a))) 0 g d q len v (by omega) hB (by omega) hv (fun i p _ _ hp => absurd hp (Nat.not_lt_zero _)) ho
      obtain ⟨g'', e4, e5, e6⟩ := ih (head + 1) g' d' q' len' (by omega) e2 e3
      refine ⟨g'', ?_, e5, e6⟩
      rw [← e4, e_S_findFewest_98, if_neg (by rw [i_le (by omega) (by omega)]; omega), if_neg (by rw [show (2520 : Int32) = nI 2520 from rfl, i_le (by omega) (by omega)]; omega)]
      simp only [oo_v, hR_S, hR_W w K47 (by omega) (show R0 47 8 = some 56 from rfl), kO_S, kO_W w RW56.1, kO_W w K47, if_true, s_get (WF_S w) RW56 (show head < 3620 by omega), cI_v, hS_2, hI_W (WF_S w) K1]
      rw [show g (56 + 1) head = _ from g57, g14, e_S_comeFrom]
      simp only [oo_v, hR_S, hR_W w K47 (by omega) (show R0 47 0 = some 36 from rfl), hR_W w K36 (by omega) (show R0 36 3 = some 43 from rfl), kO_S, kO_W w RW43.1, if_true, s_get (WF_S w) RW43 (show fn (aB a) + q head < 3620 by omega), cI_v, hS_2]
      rw [show g (43 + 1) (fn (aB a) + q head) = _ from g44]
      rw [Nat.add_zero] at e1
      rw [e1, cI_v, L1, i_add]
theorem s_findFewest_56 {a : AS} (w : WF h) (ha : AOK a) (hc : CAt h.2.2 1 a) (hG : GOK h.2.2 (aB a)) : ∀ (k r : Nat) (g : Nat → Nat → Int32) (q : Nat → Nat) (len : Nat), r + k = wds (aB a) → Qi (aB a) (aF a) (aC a) g q len r → (∀ r', r' < wds (aB a) → g 49 (fn (aB a) + r') = vI (d0 (aB a) (aF a) (aC a) r')) → Off h.2.2 g [49, 57] →
    ∃ g', f_S_findFewest_56 47 1 (nI (fn (aB a) + wds (aB a))) (nI len) (nI (fn (aB a) + r)) (hS h g) = rV (hS h g') ∧ Fw (aB a) (aS a) (aF a) (aC a) g' ∧ Off h.2.2 g' [49, 57]
  | 0, r, g, q, len, hr, hq, h9, ho => by
    have hle := fn_le ha.2.1
    obtain rfl : r = wds (aB a) := by omega
    obtain ⟨g', e1, e2⟩ := s_findFewest_98 w ha hc hG (wds (aB a)) 0 g _ q len (by omega) (Qi_Bf (S := aS a) hq h9) ho
    refine ⟨g', ?_, e2⟩
    rw [e_S_findFewest_56, if_pos (by rw [i_le (by omega) (by omega)]; exact Nat.le_refl _)]
    exact e1
  | k + 1, r, g, q, len, hr, hq, h9, ho => by
    have hle := fn_le ha.2.1
    obtain ⟨q1, q2, q3, q4⟩ := hq
    rw [e_S_findFewest_56, if_neg (by rw [i_le (by omega) (by omega)]; omega)]
    simp only [oo_v, hR_S, hR_W w K47 (by omega) (show R0 47 1 = some 48 from rfl), kO_S, kO_W w RW48.1, if_true, s_get (WF_S w) RW48 (show fn (aB a) + r < 3620 by omega), cI_v, hS_2]
    rw [show g (48 + 1) (fn (aB a) + r) = _ from h9 r (by omega)]
    cases hg : gol (aB a) (aF a) (aC a) r with
    | true =>
      rw [if_pos (by unfold d0; rw [hg]; rfl)]
      simp only [oo_v, hR_S, hR_W w K47 (by omega) (show R0 47 8 = some 56 from rfl), kO_S, kO_W w RW56.1, if_true, s_put (WF_S w) RW56 (show len < 3620 by omega), cV_v, hS_S, hS_2, L1, i_add]
      refine s_findFewest_56 w ha hc hG k (r + 1) _ (fun i => if i = len then r else q i) (len + 1) (by omega) ⟨fun i hi => ?_, fun i j hij hj => ?_, fun r' hr' hg' => ?_, by omega⟩ (fun r' hr' => ?_) (Off.tr ho (s2_off (by simp)))
      · by_cases hil : i = len
        · subst hil
          simp [s2_at, hg]
        · have := q1 i (by omega)
          simp [s2_at, hil, this]
          omega
      · have hil : i ≠ len := by omega
        by_cases hjl : j = len
        · simp only [if_neg hil, if_pos hjl]
          exact (q1 i (by omega)).1
        · simp only [if_neg hil, if_neg hjl]
          exact q2 i j hij (by omega)
      · by_cases hrr : r' = r
        · exact ⟨len, by omega, by simp [hrr]⟩
        · obtain ⟨i, hi, e⟩ := q3 r' (by omega) hg'
          exact ⟨i, by omega, by simp [show i ≠ len by omega, e]⟩
      · rw [s2_at, if_neg (by omega)]
        exact h9 r' hr'
    | false =>
      rw [if_neg (by unfold d0; rw [hg]; decide), L1, i_add]
      refine s_findFewest_56 w ha hc hG k (r + 1) g q len (by omega) ⟨fun i hi => ?_, q2, fun r' hr' hg' => ?_, by omega⟩ h9 ho
      · have := q1 i hi
        exact ⟨by omega, this.2⟩
      · refine q3 r' ?_ hg'
        have : r' ≠ r := fun e => by rw [e, hg] at hg'; cases hg'
        omega
/-- the fewest moves of every word stand behind findFewest -/
theorem s_findFewest {a : AS} {f : Nat → Nat → Int32} (w : WF h) (ha : AOK a) (hc : CAt f 1 a) (hG : GOK f (aB a)) (hK : FewC f) :
    ∃ g, f_S_findFewest 47 1 (hS h f) = rV (hS h g) ∧ Fw (aB a) (aS a) (aF a) (aC a) g ∧ FewC g ∧ Off f g [47, 49, 57] ∧ ∀ j, j ≠ 4 → g 47 j = f 47 j := by
  have hb : aB a < 6 := ha.2.1
  have hSl : aS a < 64 := ha.2.2.1
  have hF : aF a < 2 := ha.2.2.2.2.1
  have hC : aC a < 2 := ha.2.2.2.2.2.1
  have hle := fn_le hb
  have hlt := kyM_lt hb hSl hF hC
  have hhit : nI (kyM (aB a) (aS a) (aF a) (aC a)) = f 47 4 → Fw (aB a) (aS a) (aF a) (aC a) f := fun e => by
    rcases hK with e1 | ⟨b, S, F, C, k1, k2, k3, k4, k5, k6⟩
    · have h1 := i_nneg (show kyM (aB a) (aS a) (aF a) (aC a) < 2147483648 by omega)
      rw [e, e1] at h1
      exact absurd (by decide) h1
    · have hlt' := kyM_lt k1 k2 k3 k4
      rw [k5, i_inj (by omega) (by omega)] at e
      obtain ⟨rfl, e2, e3, e4⟩ := kyM_inj hb hF hC k1 k3 k4 e
      rw [e2, e3, e4]
      exact k6
  rw [e_S_findFewest]
  simp only [kO_S, kO_W w K1, kO_W w K47, if_true, s_keyOfMoves w ha hc, cI_v, oo_v, hS_2, hI_W (WF_S w) K47]
  by_cases he : nI (kyM (aB a) (aS a) (aF a) (aC a)) = f 47 4
  · rw [if_pos he]
    exact ⟨f, rfl, hhit he, hK, Off.rf, fun _ _ => rfl⟩
  · rw [if_neg he]
    have ho1 : Off f (s2 f 47 4 (nI (kyM (aB a) (aS a) (aF a) (aC a)))) [47] := s2_off (by simp)
    have hc' := CAt_off hc ho1 (by simp) (by simp) (by simp)
    have hG' := GOK_of hG ho1 (by simp)
    obtain ⟨g1, e1, e2, e3⟩ := s_startAtOrder (F := aF a) (C := aC a) w hb hF hC RW48 (by omega) (by omega) hG' hc'.2.2.2.2.2.1 hc'.2.2.2.2.2.2.1 (wds (aB a)) 0 _ (by omega) (fun r' hr' => absurd hr' (Nat.not_lt_zero _)) Off.rf
    have hc1 := CAt_off hc' e3 (by simp) (by simp) (by simp)
    have hG1 := GOK_of hG' e3 (by simp)
    obtain ⟨g2, e4, e5, e6⟩ := s_findFewest_56 (h := hS h g1) w ha hc1 hG1 (wds (aB a)) 0 g1 (fun _ => 0) 0 (by omega) ⟨fun i hi => absurd hi (Nat.not_lt_zero _), fun i j _ hj => absurd hj (Nat.not_lt_zero _), fun r hr => absurd hr (Nat.not_lt_zero _), Nat.zero_le _⟩ e2 Off.rf
    have ho2 : Off f g2 [47, 49, 57] := Off.tr (Off.mono ho1 (by simp)) (Off.tr (Off.mono e3 (by simp)) (Off.mono e6 (by simp)))
    have h47 : ∀ j, g2 47 j = s2 f 47 4 (nI (kyM (aB a) (aS a) (aF a) (aC a))) 47 j := fun j => by
      rw [e6 47 (by simp)]
      show g1 47 j = _
      rw [e3 47 (by simp)]
    refine ⟨g2, ?_, e5, Or.inr ⟨aB a, aS a, aF a, aC a, hb, hSl, hF, hC, ?_, e5⟩, ho2, fun j hj => ?_⟩
    · simp only [sI_S, hS_S, hS_2, kO_S, kO_W w K1, kO_W w K47, if_true, hI_W (WF_S w) K1, oo_v, hc'.2.1, s_firstNode (show aB a < 7 by omega), cI_v, s_wordsOf hb, hR_S, hR_W w K47 (by omega) (show R0 47 1 = some 48 from rfl), i_add]
      rw [e_S_startAtOrder]
      rw [Nat.add_zero] at e1
      rw [e1, cV_v]
      exact e4
    · rw [h47, s2_at, if_pos rfl, if_pos rfl]
    · rw [h47, s2_at, if_pos rfl, if_neg hj]
end Fewestb
end
section
/-! the cheapest ways: the key, and what a word offers to those before it -/
def kyO (o : Nat → Nat) : Nat → Nat
  | 0 => 0
  | i + 1 => kyO o i * 16 + o (i + 1)
def kyC (b S F C : Nat) (o : Nat → Nat) : Nat := kyO o b * 2048 + kyM b S F C
theorem kyO_lt {o : Nat → Nat} : ∀ b, b < 6 → (∀ s, 1 ≤ s → s ≤ b → o s ≤ 9) → kyO o b < 655360
  | 0, _, _ => by show 0 < 655360; decide
  | 1, _, h => by
    have := h 1 (by omega) (by omega)
    simp only [kyO, Nat.zero_add, Nat.reduceAdd]; omega
  | 2, _, h => by
    have := h 1 (by omega) (by omega)
    have := h 2 (by omega) (by omega)
    simp only [kyO, Nat.zero_add, Nat.reduceAdd]; omega
  | 3, _, h => by
    have := h 1 (by omega) (by omega)
    have := h 2 (by omega) (by omega)
    have := h 3 (by omega) (by omega)
    simp only [kyO, Nat.zero_add, Nat.reduceAdd]; omega
  | 4, _, h => by
    have := h 1 (by omega) (by omega)
    have := h 2 (by omega) (by omega)
    have := h 3 (by omega) (by omega)
    have := h 4 (by omega) (by omega)
    simp only [kyO, Nat.zero_add, Nat.reduceAdd]; omega
  | 5, _, h => by
    have := h 1 (by omega) (by omega)
    have := h 2 (by omega) (by omega)
    have := h 3 (by omega) (by omega)
    have := h 4 (by omega) (by omega)
    have := h 5 (by omega) (by omega)
    simp only [kyO, Nat.zero_add, Nat.reduceAdd]; omega
  | b + 6, h, _ => by omega
theorem kyO_inj {o o' : Nat → Nat} : ∀ b, (∀ s, 1 ≤ s → s ≤ b → o s ≤ 9 ∧ o' s ≤ 9) → kyO o b = kyO o' b → ∀ s, 1 ≤ s → s ≤ b → o s = o' s
  | 0, _, _ => fun s h1 h2 => by omega
  | b + 1, h, e => fun s h1 h2 => by
    have h3 := h (b + 1) (by omega) (by omega)
    simp only [kyO] at e
    by_cases hs : s = b + 1
    · subst hs; omega
    · exact kyO_inj b (fun t ht1 ht2 => h t ht1 (by omega)) (by omega) s h1 (by omega)
theorem kyC_lt {b S F C : Nat} {o : Nat → Nat} (hb : b < 6) (hSl : S < 64) (hF : F < 2) (hC : C < 2) (ho : ∀ s, 1 ≤ s → s ≤ b → o s ≤ 9) : kyC b S F C o < 2147483648 := by
  have := kyO_lt b hb ho
  have := kyM_lt hb hSl hF hC
  unfold kyC
  omega
theorem shl_or {a c s : Nat} (hc : c < 2 ^ s) : a <<< s ||| c = a * 2 ^ s + c := by
  rw [← Nat.shiftLeft_add_eq_or_of_lt hc, Nat.shiftLeft_eq]
theorem prc_bd {b P m : Nat} {o : Nat → Nat} (hv : VW b P) (ho : ∀ s, 1 ≤ s → s ≤ b → 1 ≤ o s ∧ o s ≤ 9) (hm : m < 19) (h0 : rsn P 0 m = 0) : 1 ≤ prc o P m ∧ prc o P m ≤ 9 := by
  unfold rsn at h0
  unfold prc
  by_cases h7 : m < 7
  · rw [if_pos h7] at *
    have h1 := hv.2.1 m h7
    by_cases hz : sl P m = 0
    · rw [if_pos hz] at h0; omega
    · exact ho _ (by omega) h1
  · have h6 := plc_lt6 hm h7
    rw [if_neg h7] at *
    have h1 := hv.2.1 (plc m) (by omega)
    have h2 := hv.2.1 (plc m + 1) (by omega)
    by_cases hz : sl P (plc m) = 0
    · rw [if_pos hz] at h0; omega
    · rw [if_neg hz] at h0
      by_cases hz' : sl P (plc m + 1) = 0
      · rw [if_pos hz'] at h0; omega
      · have h3 := ho _ (show 1 ≤ sl P (plc m) by omega) h1
        have h4 := ho _ (show 1 ≤ sl P (plc m + 1) by omega) h2
        omega
def pr (b : Nat) (o : Nat → Nat) (r m : Nat) : Nat := prc o (wd b r) m
theorem ED_rsn {b S r m r' : Nat} (h : ED b S r m = some r') : rsn (wd b r) 0 m = 0 := by
  unfold ED at h
  split at h
  · rename_i h0; exact rsn_0 h0
  · cases h
theorem pr_bd {b S : Nat} {o : Nat → Nat} (hb : b < 6) (ho : ∀ s, 1 ≤ s → s ≤ b → 1 ≤ o s ∧ o s ≤ 9) : ∀ r m r', r < wds b → m < 19 → ED b S r m = some r' → 1 ≤ pr b o r m ∧ pr b o r m ≤ 9 := fun r m r' hr hm h =>
  prc_bd (wd_VW hb hr) ho hm (ED_rsn h)
def mxO (x : Option Nat) (n : Nat) : Nat := match x with
  | none => n
  | some t => max t n
theorem imax_v {x : Option Nat} {n : Nat} (hx : ∀ t, x = some t → t < 2147483648) (hn : n < 2147483648) : imax (vI x) (nI n) = vI (some (mxO x n)) := by
  cases x with
  | none =>
    show imax (-1) (nI n) = nI n
    unfold imax
    have h1 : (-1 : Int32) < nI n := by
      rw [Int32.lt_iff_toInt_lt, i_toInt hn]
      have : (-1 : Int32).toInt = -1 := by decide
      omega
    rw [if_pos h1]
  | some t => exact imax_n (hx t rfl) hn
/-- what the word x, c from order, has offered -/
def Ob (b S : Nat) (o : Nat → Nat) (x c : Nat) (d d' : Nat → Option Nat) (res : Option Nat) : Prop :=
  (∀ r u, r < wds b → d r = some u → ∃ u', d' r = some u' ∧ u' ≤ u) ∧
  (∀ r, r < wds b → d' r = d r ∨ ∃ m t, m < 19 ∧ ED b S r m = some x ∧ d' r = some (c + pr b o r m) ∧ res = some t ∧ c + pr b o r m ≤ t) ∧
  (∀ t, res = some t → t ≤ c + 9)
def Dt (k b : Nat) (f : Nat → Nat → Int32) (d : Nat → Option Nat) : Prop := ∀ r, r < wds b → f k (fn b + r) = vI (d r)
section Offer
variable {h : pH}
theorem s_keyC4 {a : AS} {f : Nat → Nat → Int32} (w : WF h) (ha : AOK a) (hc : CAt f 1 a) : ∀ (k i : Nat), i + k = aB a → f_B_keyOfCosts_4 1 (nI (kyO (aO a) i)) (nI (i + 1)) (hS h f) = rI (nI (kyC (aB a) (aS a) (aF a) (aC a) (aO a))) (hS h f)
  | 0, i, hi => by
    have hb := ha.2.1
    have hlt := kyM_lt hb ha.2.2.1 ha.2.2.2.2.1 ha.2.2.2.2.2.1
    obtain rfl : i = aB a := by omega
    rw [e_B_keyOfCosts_4]
    simp only [hI_W (WF_S w) K1, oo_v, hS_2, hc.2.1]
    rw [if_pos (by rw [i_lt (by omega) (by omega)]; omega)]
    simp only [kO_S, kO_W w K1, if_true, s_keyOfMoves w ha hc, cI_v]
    rw [show (11 : Int32) = nI 11 from rfl, i_shl (by omega), i_or, shl_or (by omega)]
    rfl
  | k + 1, i, hi => by
    have hb := ha.2.1
    have h9 := (ha.2.2.2.2.2.2.1 (i + 1) (by omega) (by omega)).2.2
    rw [e_B_keyOfCosts_4]
    simp only [hI_W (WF_S w) K1, oo_v, hS_2, hc.2.1]
    rw [if_neg (by rw [i_lt (by omega) (by omega)]; omega)]
    simp only [hR_S, hR_W w K1 (by omega) (show R0 1 3 = some 4 from rfl), oo_v, kO_S, kO_W w RW4.1, if_true, s_get (WF_S w) RW4 (show i + 1 < 6 by omega), cI_v, hS_2]
    rw [show f (4 + 1) (i + 1) = nI (aO a (i + 1)) from hc.2.2.2.1 (i + 1) (by omega) (by omega), show (4 : Int32) = nI 4 from rfl, i_shl (by omega), i_or, shl_or (by omega), L1, i_add]
    exact s_keyC4 w ha hc k (i + 1) (by omega)
theorem s_keyOfCosts {a : AS} {f : Nat → Nat → Int32} (w : WF h) (ha : AOK a) (hc : CAt f 1 a) : f_B_keyOfCosts 1 (hS h f) = rI (nI (kyC (aB a) (aS a) (aF a) (aC a) (aO a))) (hS h f) := by
  rw [e_B_keyOfCosts]
  exact s_keyC4 w ha hc (aB a) 0 (by omega)
end Offer
end
section
/-! offerBack -/
theorem RW50 : rowW 50 3620 := by unfold rowW; decide
theorem RW52 : rowW 52 3620 := by unfold rowW; decide
section Offerb
variable {h : pH}
theorem Ob_rf {b S x c : Nat} {o : Nat → Nat} {d : Nat → Option Nat} : Ob b S o x c d d none :=
  ⟨fun _ u _ hu => ⟨u, hu, Nat.le_refl _⟩, fun _ _ => Or.inl rfl, fun _ e => nomatch e⟩
theorem Ob_add {b S x c r m : Nat} {o : Nat → Nat} {d d' : Nat → Option Nat} {res : Option Nat} (hm : m < 19) (hE : ED b S r m = some x) (hp : pr b o r m ≤ 9) (h : Ob b S o x c d d' res) (hn : ∀ u, d' r = some u → c + pr b o r m ≤ u) :
    Ob b S o x c d (fun r' => if r' = r then some (c + pr b o r m) else d' r') (some (mxO res (c + pr b o r m))) := by
  obtain ⟨h1, h2, h3⟩ := h
  have hge : ∀ t, res = some t → t ≤ mxO res (c + pr b o r m) := fun t e => by subst e; exact Nat.le_max_left _ _
  have hge' : c + pr b o r m ≤ mxO res (c + pr b o r m) := by
    cases res with
    | none => exact Nat.le_refl _
    | some t => exact Nat.le_max_right _ _
  have hle' : mxO res (c + pr b o r m) ≤ c + 9 := by
    cases hres : res with
    | none => show c + pr b o r m ≤ c + 9; omega
    | some t =>
      have := h3 t hres
      show max t (c + pr b o r m) ≤ c + 9
      omega
  generalize mxO res (c + pr b o r m) = M at *
  refine ⟨fun r' u hr' hu => ?_, fun r' hr' => ?_, fun t e => by cases e; exact hle'⟩
  · obtain ⟨u', a1, a2⟩ := h1 r' u hr' hu
    by_cases hrr : r' = r
    · subst hrr
      have := hn u' a1
      exact ⟨_, if_pos rfl, by omega⟩
    · exact ⟨u', by simp [hrr, a1], a2⟩
  · by_cases hrr : r' = r
    · subst hrr
      exact Or.inr ⟨m, M, hm, hE, if_pos rfl, rfl, hge'⟩
    · simp only [if_neg hrr]
      rcases h2 r' hr' with e | ⟨m', t, a1, a2, a3, a4, a5⟩
      · exact Or.inl e
      · exact Or.inr ⟨m', M, a1, a2, a3, rfl, Nat.le_trans a5 (hge t a4)⟩
theorem s_offerBack_16 {a : AS} {k2 x c V : Nat} (w : WF h) (ha : AOK a) (hc : CAt h.2.2 1 a) (hG : GOK h.2.2 (aB a)) (hk : k2 = 50 ∨ k2 = 52) (hx : x < wds (aB a)) (hV : V < 1000000000) (hcV : c ≤ V) {d0 : Nat → Option Nat} (hd0 : ∀ r u, r < wds (aB a) → d0 r = some u → u ≤ V) : ∀ (k j : Nat) (g : Nat → Nat → Int32) (d : Nat → Option Nat) (res : Option Nat), j + k = cN (aB a) x (19 * wds (aB a)) → Dt (k2 + 1) (aB a) g d → Ob (aB a) (aS a) (aO a) x c d0 d res → d x = some c →
    (∀ i p, i < 19 * wds (aB a) → T (aB a) i = some x → p < j → h.2.2 42 (fn (aB a) * 19 + st0 (aB a) x + p) = nI (fn (aB a) * 19 + i) → hld (wd (aB a) (i / 19)) (aS a) (i % 19) = false → ∃ u, d (i / 19) = some u ∧ u ≤ c + pr (aB a) (aO a) (i / 19) (i % 19)) → Off h.2.2 g [k2 + 1] →
    ∃ g' d' res', f_S_offerBack_16 47 1 k2 (nI (fn (aB a) + x)) (vI res) (nI (fn (aB a) * 19 + st0 (aB a) x + j)) (hS h g) = rI (vI res') (hS h g') ∧ Dt (k2 + 1) (aB a) g' d' ∧ Ob (aB a) (aS a) (aO a) x c d0 d' res' ∧ d' x = some c ∧ (∀ r m, r < wds (aB a) → m < 19 → ED (aB a) (aS a) r m = some x → ∃ u, d' r = some u ∧ u ≤ c + pr (aB a) (aO a) r m) ∧ Off h.2.2 g' [k2 + 1]
  | 0, j, g, d, res, hj, hD, hO, hdx, hs, ho => by
    have hb := ha.2.1
    have hle := fn_le hb
    have hst := st0_lt hb (show x + 1 ≤ wds (aB a) by omega)
    rw [st0_succ] at hst
    have g46 : g 46 (fn (aB a) + x) = nI (fn (aB a) * 19 + st0 (aB a) x + cN (aB a) x (19 * wds (aB a))) := by
      rw [ho 46 (by simp; omega)]
      exact hG.2.2.2.1 _ hx
    refine ⟨g, d, res, ?_, hD, hO, hdx, fun r m hr hm hE => ?_, ho⟩
    · rw [e_S_offerBack_16]
      simp only [oo_v, hR_S, hR_W w K47 (by omega) (show R0 47 0 = some 36 from rfl), hR_W w K36 (by omega) (show R0 36 4 = some 45 from rfl), kO_S, kO_W w RW45.1, if_true, s_get (WF_S w) RW45 (show fn (aB a) + x < 3620 by omega), cI_v, hS_2]
      rw [show g (45 + 1) (fn (aB a) + x) = _ from g46, if_pos (by rw [i_le (by omega) (by omega)]; omega)]
    · obtain ⟨hT, hhd⟩ := (ED_T hm).1 hE
      obtain ⟨p, hp, hp2⟩ := hG.2.2.2.2.2 x (19 * r + m) hx (by omega) hT
      have h5 := hs (19 * r + m) p (by omega) hT (by omega) hp2
      rw [show (19 * r + m) / 19 = r by omega, show (19 * r + m) % 19 = m by omega] at h5
      exact h5 hhd
  | k + 1, j, g, d, res, hj, hD, hO, hdx, hs, ho => by
    have hb := ha.2.1
    have hle := fn_le hb
    have hw25 := wds_lt hb
    have hSl : aS a < 64 := ha.2.2.1
    have hk2 : rowW k2 3620 := by rcases hk with rfl | rfl
                                  · exact RW50
                                  · exact RW52
    have ho9 : ∀ s, 1 ≤ s → s ≤ aB a → 1 ≤ aO a s ∧ aO a s ≤ 9 := fun s s1 s2 => (ha.2.2.2.2.2.2.1 s s1 s2).2
    have hst := st0_lt hb (show x + 1 ≤ wds (aB a) by omega)
    rw [st0_succ] at hst
    have g46 : g 46 (fn (aB a) + x) = nI (fn (aB a) * 19 + st0 (aB a) x + cN (aB a) x (19 * wds (aB a))) := by
      rw [ho 46 (by simp; omega)]
      exact hG.2.2.2.1 _ hx
    obtain ⟨i, hi, hT, h42⟩ := hG.2.2.2.2.1 x j hx (by omega)
    have g42 : g 42 (fn (aB a) * 19 + st0 (aB a) x + j) = nI (fn (aB a) * 19 + i) := by
      rw [ho 42 (by simp; omega)]
      exact h42
    have hr : i / 19 < wds (aB a) := by omega
    have hm : i % 19 < 19 := Nat.mod_lt _ (by omega)
    have hT' : T (aB a) (19 * (i / 19) + i % 19) = some x := by rw [show 19 * (i / 19) + i % 19 = i by omega]; exact hT
    have hrs : rsn (wd (aB a) (i / 19)) 0 (i % 19) = 0 := by
      unfold T at hT
      split at hT
      · rename_i h0; exact h0
      · cases hT
    have hpb := prc_bd (wd_VW hb hr) ho9 hm hrs
    have g38 : g 38 (fn (aB a) + i / 19) = nI (wd (aB a) (i / 19)) := by
      rw [ho 38 (by simp; omega)]
      exact hG.1 _ hr
    have gd : g (k2 + 1) (fn (aB a) + i / 19) = vI (d (i / 19)) := hD _ hr
    have gx : g (k2 + 1) (fn (aB a) + x) = nI c := by rw [hD _ hx, hdx]; rfl
    have g14 : g 1 4 = nI (aS a) := by rw [ho 1 (by simp; omega)]; exact hc.2.2.2.2.1
    have g5 : ∀ s, 1 ≤ s → s ≤ aB a → (hS h g).2.2 (4 + 1) s = nI (aO a s) ∧ aO a s ≤ 9 := fun s s1 s2 => ⟨by
      show g 5 s = _
      rw [ho 5 (by simp; omega)]
      exact hc.2.2.2.1 s s1 s2, (ho9 s s1 s2).2⟩
    have hone : ∀ i' p, i' < 19 * wds (aB a) → h.2.2 42 (fn (aB a) * 19 + st0 (aB a) x + p) = nI (fn (aB a) * 19 + i') → p = j → i' = i := fun i' p hi' he hpj => by
      rw [hpj, h42, i_inj (by omega) (by omega)] at he
      omega
    have hdV : ∀ u, d (i / 19) = some u → u ≤ V + 9 := fun u hu => by
      rcases hO.2.1 _ hr with e | ⟨m', t, a1, a2, a3, a4, a5⟩
      · rw [e] at hu
        have := hd0 _ u hr hu
        omega
      · have := hO.2.2 t a4
        rw [a3] at hu
        cases hu
        omega
    have hresV : ∀ t, res = some t → t < 2147483648 := fun t e => by
      have := hO.2.2 t e
      omega
    have go : ∀ {g1 d1 res1}, Dt (k2 + 1) (aB a) g1 d1 → Ob (aB a) (aS a) (aO a) x c d0 d1 res1 → d1 x = some c → (∀ r u, d r = some u → ∃ u', d1 r = some u' ∧ u' ≤ u) → (hld (wd (aB a) (i / 19)) (aS a) (i % 19) = false → ∃ u, d1 (i / 19) = some u ∧ u ≤ c + pr (aB a) (aO a) (i / 19) (i % 19)) → Off h.2.2 g1 [k2 + 1] →
        ∃ g' d' res', f_S_offerBack_16 47 1 k2 (nI (fn (aB a) + x)) (vI res1) (nI (fn (aB a) * 19 + st0 (aB a) x + (j + 1))) (hS h g1) = rI (vI res') (hS h g') ∧ Dt (k2 + 1) (aB a) g' d' ∧ Ob (aB a) (aS a) (aO a) x c d0 d' res' ∧ d' x = some c ∧ (∀ r m, r < wds (aB a) → m < 19 → ED (aB a) (aS a) r m = some x → ∃ u, d' r = some u ∧ u ≤ c + pr (aB a) (aO a) r m) ∧ Off h.2.2 g' [k2 + 1] := fun {g1 d1 res1} c1 c2 c3 c4 c5 c6 => by
      refine s_offerBack_16 w ha hc hG hk hx hV hcV hd0 k (j + 1) g1 d1 res1 (by omega) c1 c2 c3 (fun i' p hi' hTi hp he hhd => ?_) c6
      by_cases hpj : p = j
      · have := hone i' p hi' he hpj
        subst this
        exact c5 hhd
      · obtain ⟨u, hu, hu2⟩ := hs i' p hi' hTi (by omega) he hhd
        obtain ⟨u', hu', hu3⟩ := c4 _ u hu
        exact ⟨u', hu', by omega⟩
    have g110 : (∀ u, d (i / 19) = some u → c + pr (aB a) (aO a) (i / 19) (i % 19) < u) → ∃ g' d' res', f_S_offerBack_110 47 1 k2 (nI (fn (aB a) + x)) (vI res) (nI (fn (aB a) * 19 + st0 (aB a) x + j)) (nI (fn (aB a) + i / 19)) (nI (i % 19)) (nI (c + pr (aB a) (aO a) (i / 19) (i % 19))) (hS h g) = rI (vI res') (hS h g') ∧ Dt (k2 + 1) (aB a) g' d' ∧ Ob (aB a) (aS a) (aO a) x c d0 d' res' ∧ d' x = some c ∧ (∀ r m, r < wds (aB a) → m < 19 → ED (aB a) (aS a) r m = some x → ∃ u, d' r = some u ∧ u ≤ c + pr (aB a) (aO a) r m) ∧ Off h.2.2 g' [k2 + 1] := fun hless => by
      rw [e_S_offerBack_110]
      simp only [oo_v, hR_S, hR_W w K47 (by omega) (show R0 47 0 = some 36 from rfl), kO_S, kO_W w K36, if_true, hI_W (WF_S w) K1, hS_2, g14, s_isHeld w hb hr hm (show aS a < 2147483648 by omega) g38, cI_v]
      cases hhd : hld (wd (aB a) (i / 19)) (aS a) (i % 19) with
      | true =>
        rw [if_neg (by decide), L1, i_add]
        exact go hD hO hdx (fun r u hu => ⟨u, hu, Nat.le_refl _⟩) (fun e => by rw [hhd] at e; cases e) ho
      | false =>
        have hE : ED (aB a) (aS a) (i / 19) (i % 19) = some x := (ED_T hm).2 ⟨hT', hhd⟩
        have hA := Ob_add hm hE hpb.2 hO (fun u hu => Nat.le_of_lt (hless u hu))
        rw [if_pos (by rfl)]
        simp only [kO_S, kO_W w hk2.1, if_true, s_put (WF_S w) hk2 (show fn (aB a) + i / 19 < 3620 by omega), cV_v, hS_S, hS_2, L1, i_add]
        have hpp : pr (aB a) (aO a) (i / 19) (i % 19) ≤ 9 := hpb.2
        rw [imax_v hresV (by omega)]
        refine go (fun r hr' => ?_) hA ?_ (fun r u hu => ?_) (fun _ => ⟨_, if_pos rfl, Nat.le_refl _⟩) (Off.tr ho (s2_off (by simp)))
        · by_cases hrr : r = i / 19
          · subst hrr
            simp [s2_at, vI]
          · simp [s2_at, hrr, hD r hr']
        · show (if x = i / 19 then some (c + pr (aB a) (aO a) (i / 19) (i % 19)) else d x) = some c
          rw [if_neg (fun e => by rw [e] at hdx; have := hless c hdx; omega)]
          exact hdx
        · show ∃ u', (if r = i / 19 then some (c + pr (aB a) (aO a) (i / 19) (i % 19)) else d r) = some u' ∧ u' ≤ u
          by_cases hrr : r = i / 19
          · rw [if_pos hrr]
            subst hrr
            exact ⟨_, rfl, Nat.le_of_lt (hless u hu)⟩
          · rw [if_neg hrr]
            exact ⟨u, hu, Nat.le_refl _⟩
    rw [e_S_offerBack_16]
    simp only [oo_v, hR_S, hR_W w K47 (by omega) (show R0 47 0 = some 36 from rfl), hR_W w K36 (by omega) (show R0 36 4 = some 45 from rfl), kO_S, kO_W w RW45.1, if_true, s_get (WF_S w) RW45 (show fn (aB a) + x < 3620 by omega), cI_v, hS_2]
    rw [show g (45 + 1) (fn (aB a) + x) = _ from g46, if_neg (by rw [i_le (by omega) (by omega)]; omega)]
    simp only [oo_v, hR_S, hR_W w K47 (by omega) (show R0 47 0 = some 36 from rfl), hR_W w K36 (by omega) (show R0 36 2 = some 41 from rfl), kO_S, kO_W w RW41.1, if_true, s_get (WF_S w) RW41 (show fn (aB a) * 19 + st0 (aB a) x + j < 68780 by omega), cI_v, hS_2]
    rw [show g (41 + 1) (fn (aB a) * 19 + st0 (aB a) x + j) = _ from g42, if_neg (by decide), if_neg (by decide), L19, i_div (by omega) (by omega), show (fn (aB a) * 19 + i) / 19 = fn (aB a) + i / 19 by omega, i_mul, i_sub (by omega), show fn (aB a) * 19 + i - (fn (aB a) + i / 19) * 19 = i % 19 by omega]
    simp only [oo_v, hR_S, hR_W w K47 (by omega) (show R0 47 0 = some 36 from rfl), hR_W w K36 (by omega) (show R0 36 0 = some 37 from rfl), hR_W w K1 (by omega) (show R0 1 3 = some 4 from rfl), kO_S, kO_W w RW37.1, kO_W w hk2.1, if_true, s_get (WF_S w) hk2 (show fn (aB a) + x < 3620 by omega), s_get (WF_S w) hk2 (show fn (aB a) + i / 19 < 3620 by omega), s_get (WF_S w) RW37 (show fn (aB a) + i / 19 < 3620 by omega), cI_v, hS_2]
    rw [show g (37 + 1) (fn (aB a) + i / 19) = _ from g38, gx, s_price (WF_S w) RW4 hb (wd_VW hb hr) g5 hm hrs, cI_v]
    simp only [kO_S, kO_W w hk2.1, if_true, s_get (WF_S w) hk2 (show fn (aB a) + i / 19 < 3620 by omega), cI_v, hS_2, gd, i_add]
    have hpp : pr (aB a) (aO a) (i / 19) (i % 19) ≤ 9 := hpb.2
    change ∃ g' d' res', (if vI (d (i / 19)) = -1 then f_S_offerBack_110 47 1 k2 (nI (fn (aB a) + x)) (vI res) (nI (fn (aB a) * 19 + st0 (aB a) x + j)) (nI (fn (aB a) + i / 19)) (nI (i % 19)) (nI (c + pr (aB a) (aO a) (i / 19) (i % 19))) (hS h g) else if vI (d (i / 19)) ≤ nI (c + pr (aB a) (aO a) (i / 19) (i % 19)) then _ else f_S_offerBack_110 47 1 k2 (nI (fn (aB a) + x)) (vI res) (nI (fn (aB a) * 19 + st0 (aB a) x + j)) (nI (fn (aB a) + i / 19)) (nI (i % 19)) (nI (c + pr (aB a) (aO a) (i / 19) (i % 19))) (hS h g)) = _ ∧ _
    cases hd : d (i / 19) with
    | none =>
      rw [if_pos (by rfl)]
      exact g110 (fun u hu => by rw [hd] at hu; cases hu)
    | some u =>
      have hul := hdV u hd
      rw [if_neg (by rw [vI_m1 (fun w' e => by cases e; omega)]; simp)]
      by_cases hcu : u ≤ c + pr (aB a) (aO a) (i / 19) (i % 19)
      · rw [if_pos (show vI (some u) ≤ nI (c + pr (aB a) (aO a) (i / 19) (i % 19)) by show nI u ≤ _; rw [i_le (by omega) (by omega)]; exact hcu), L1, i_add]
        exact go hD hO hdx (fun r u hu => ⟨u, hu, Nat.le_refl _⟩) (fun _ => ⟨u, hd, hcu⟩) ho
      · rw [if_neg (show ¬ vI (some u) ≤ nI (c + pr (aB a) (aO a) (i / 19) (i % 19)) by show ¬ nI u ≤ _; rw [i_le (by omega) (by omega)]; exact hcu)]
        exact g110 (fun u' hu' => by rw [hd] at hu'; cases hu'; omega)
end Offerb
end
section
/-! settleCosts: prices in their order -/
def mxN (H : Nat) (x : Option Nat) : Nat := match x with
  | none => H
  | some t => max H t
theorem mxN_ge (H : Nat) (x : Option Nat) : H ≤ mxN H x := by
  cases x with
  | none => exact Nat.le_refl _
  | some t => exact Nat.le_max_left _ _
theorem imax_v2 {x : Option Nat} {H : Nat} (hH : H < 2147483648) (hx : ∀ t, x = some t → t < 2147483648) : imax (nI H) (vI x) = nI (mxN H x) := by
  cases x with
  | none =>
    show imax (nI H) (-1) = nI H
    unfold imax
    rw [if_neg (by
      rw [Int32.lt_iff_toInt_lt, i_toInt hH]
      have : (-1 : Int32).toInt = -1 := by decide
      omega)]
  | some t => exact imax_n hH (hx t rfl)
/-- prices that stand up to level t, and at level t for words under r -/
def St (b S F C : Nat) (o : Nat → Nat) (d : Nat → Option Nat) (H t r : Nat) : Prop :=
  (∀ x v, x < wds b → d x = some v → (∃ n, Pt (ED b S) (pr b o) (gol b F C) n x v) ∧ v ≤ H ∧ v ≤ 22700) ∧
  (∀ x, x < wds b → gol b F C x = true → d x = some 0) ∧
  (∀ x v, x < wds b → d x = some v → v < t ∨ (v = t ∧ x < r) → ∀ r' m, r' < wds b → m < 19 → ED b S r' m = some x → ∃ u, d r' = some u ∧ u ≤ pr b o r' m + v)
theorem St_step {b S F C H t r : Nat} {o : Nat → Nat} {d d' : Nat → Option Nat} {res : Option Nat} (hb : b < 6) (ho9 : ∀ s, 1 ≤ s → s ≤ b → 1 ≤ o s ∧ o s ≤ 9) (ht : t ≤ 22680) (hr : r < wds b) (hd : d r = some t) (h : St b S F C o d H t r) (hO : Ob b S o r t d d' res)
    (hcl : ∀ r' m, r' < wds b → m < 19 → ED b S r' m = some r → ∃ u, d' r' = some u ∧ u ≤ t + pr b o r' m) : St b S F C o d' (mxN H res) t (r + 1) := by
  obtain ⟨h1, h2, h3⟩ := h
  obtain ⟨o1, o2, o3⟩ := hO
  have hge := mxN_ge H res
  refine ⟨fun x v hx hv => ?_, fun x hx hg => ?_, fun x v hx hv hvt r' m hr' hm hE => ?_⟩
  · rcases o2 x hx with e | ⟨m, t', a1, a2, a3, a4, a5⟩
    · rw [e] at hv
      have := h1 x v hx hv
      exact ⟨this.1, by omega, this.2.2⟩
    · rw [a3] at hv
      cases hv
      have hp := pr_bd hb ho9 x m r hx a1 a2
      obtain ⟨n, hn⟩ := (h1 r t hr hd).1
      refine ⟨⟨n + 1, m, r, t, a1, a2, hn, Nat.add_comm _ _⟩, ?_, by omega⟩
      subst a4
      have : t' ≤ mxN H (some t') := Nat.le_max_right _ _
      omega
  · obtain ⟨u, a1, a2⟩ := o1 x 0 hx (h2 x hx hg)
    rw [a1, show u = 0 by omega]
  · have hdx : d x = some v := by
      rcases o2 x hx with e | ⟨m', t', a1, a2, a3, a4, a5⟩
      · rw [← e]; exact hv
      · rw [a3] at hv
        cases hv
        have hp := pr_bd hb ho9 x m' r hx a1 a2
        omega
    by_cases hxr : x = r
    · subst hxr
      rw [hd] at hdx
      cases hdx
      obtain ⟨u, a1, a2⟩ := hcl r' m hr' hm hE
      exact ⟨u, a1, by omega⟩
    · obtain ⟨u, a1, a2⟩ := h3 x v hx hdx (by omega) r' m hr' hm hE
      obtain ⟨u', a3, a4⟩ := o1 r' u hr' a1
      exact ⟨u', a3, by omega⟩
theorem St_end {b S F C H t : Nat} {o : Nat → Nat} {d : Nat → Option Nat} (hb : b < 6) (ho9 : ∀ s, 1 ≤ s → s ≤ b → 1 ≤ o s ∧ o s ≤ 9) (h : St b S F C o d H t 0) (ht : H < t ∨ 22680 < t) : ∀ r, r < wds b → ∀ v, d r = some v ↔ Lst (ED b S) (pr b o) (gol b F C) r v := by
  obtain ⟨h1, h2, h3⟩ := h
  have hbd := pr_bd (S := S) hb ho9
  rcases ht with ht | ht
  · refine lst_of (ED_lt hb) (fun r v hr hv => (h1 r v hr hv).1) h2 (fun r m x v hr hm hE hv => ?_)
    have hx := ED_lt hb r m x hr hm hE
    exact h3 x v hx hv (Or.inl (by have := (h1 x v hx hv).2.1; omega)) r m hr hm hE
  · have hw := wds_lt hb
    have key : ∀ n r v, r < wds b → Pt (ED b S) (pr b o) (gol b F C) n r v → Lst (ED b S) (pr b o) (gol b F C) r v → d r = some v := by
      intro n
      induction n with
      | zero => exact fun r v hr hp hl => by rw [hp.2]; exact h2 r hr hp.1
      | succ n ih =>
        intro r v hr hp hl
        obtain ⟨m, x, v', a1, a2, a3, a4, a5⟩ := lst_step hp hl
        have hx := ED_lt hb r m x hr a1 a2
        have hdx := ih x v' hx a3 a4
        have hv' := lst_le (B := 9) (fun r m r' q1 q2 q3 => (hbd r m r' q1 q2 q3).1) (fun r m r' q1 q2 q3 => (hbd r m r' q1 q2 q3).2) (ED_lt hb) hx a4
        obtain ⟨u, b1, b2⟩ := h3 x v' hx hdx (Or.inl (by omega)) r m hr a1 a2
        obtain ⟨n', hn'⟩ := (h1 r u hr b1).1
        have := hl.2 n' u hn'
        rw [b1, show u = v by omega]
    intro r hr v
    refine ⟨fun hv => ?_, fun hl => ?_⟩
    · obtain ⟨n, hn⟩ := (h1 r v hr hv).1
      obtain ⟨v', _, hl⟩ := lst_ex v n hn
      obtain ⟨n', hn'⟩ := hl.1
      have := key n' r v' hr hn' hl
      rw [hv] at this
      cases this
      exact hl
    · obtain ⟨n', hn'⟩ := hl.1
      exact key n' r v hr hn' hl
section Settle
variable {h : pH}
theorem s_offerBack {a : AS} {k2 x c V : Nat} {f : Nat → Nat → Int32} {d : Nat → Option Nat} (w : WF h) (ha : AOK a) (hc : CAt f 1 a) (hG : GOK f (aB a)) (hk : k2 = 50 ∨ k2 = 52) (hx : x < wds (aB a)) (hV : V < 1000000000) (hcV : c ≤ V) (hd : ∀ r u, r < wds (aB a) → d r = some u → u ≤ V) (hD : Dt (k2 + 1) (aB a) f d) (hdx : d x = some c) :
    ∃ g' d' res', f_S_offerBack 47 1 k2 (nI (fn (aB a) + x)) (hS h f) = rI (vI res') (hS h g') ∧ Dt (k2 + 1) (aB a) g' d' ∧ Ob (aB a) (aS a) (aO a) x c d d' res' ∧ d' x = some c ∧ (∀ r m, r < wds (aB a) → m < 19 → ED (aB a) (aS a) r m = some x → ∃ u, d' r = some u ∧ u ≤ c + pr (aB a) (aO a) r m) ∧ Off f g' [k2 + 1] := by
  have hle := fn_le ha.2.1
  obtain ⟨g', d', res', e⟩ := s_offerBack_16 (h := hS h f) w ha hc hG hk hx hV hcV hd (cN (aB a) x (19 * wds (aB a))) 0 f d none (by omega) hD Ob_rf hdx (fun _ _ _ _ q => absurd q (Nat.not_lt_zero _)) Off.rf
  refine ⟨g', d', res', ?_, e.2⟩
  rw [e_S_offerBack]
  simp only [oo_v, hR_S, hR_W w K47 (by omega) (show R0 47 0 = some 36 from rfl), hR_W w K36 (by omega) (show R0 36 3 = some 43 from rfl), kO_S, kO_W w RW43.1, if_true, s_get (WF_S w) RW43 (show fn (aB a) + x < 3620 by omega), cI_v, hS_2]
  rw [show f (43 + 1) (fn (aB a) + x) = _ from hG.2.2.1 x hx]
  exact e.1
theorem s_settle_74 {a : AS} {t : Nat} (w : WF h) (ha : AOK a) (hc : CAt h.2.2 1 a) (hG : GOK h.2.2 (aB a)) (ht : t ≤ 22680) : ∀ (k r : Nat) (g : Nat → Nat → Int32) (d : Nat → Option Nat) (H : Nat), r + k = wds (aB a) → St (aB a) (aS a) (aF a) (aC a) (aO a) d H t r → H ≤ 22700 → Dt 51 (aB a) g d → Off h.2.2 g [51] →
    ∃ g' d' H', f_S_settleCosts_74 47 1 (nI (fn (aB a))) (nI (fn (aB a) + wds (aB a))) (nI H) (nI t) (nI (fn (aB a) + r)) (hS h g) = f_S_settleCosts_56 47 1 (nI (fn (aB a))) (nI (fn (aB a) + wds (aB a))) (nI H') (nI (t + 1)) (hS h g') ∧ St (aB a) (aS a) (aF a) (aC a) (aO a) d' H' (t + 1) 0 ∧ H' ≤ 22700 ∧ Dt 51 (aB a) g' d' ∧ Off h.2.2 g' [51]
  | 0, r, g, d, H, hr, hs, hH, hD, ho => by
    have hle := fn_le ha.2.1
    obtain rfl : r = wds (aB a) := by omega
    refine ⟨g, d, H, ?_, ⟨hs.1, hs.2.1, fun x v hx hv hvt => hs.2.2 x v hx hv (by omega)⟩, hH, hD, ho⟩
    rw [e_S_settleCosts_74, if_pos (by rw [i_le (by omega) (by omega)]; exact Nat.le_refl _), L1, i_add]
  | k + 1, r, g, d, H, hr, hs, hH, hD, ho => by
    have hle := fn_le ha.2.1
    have ho9 : ∀ s, 1 ≤ s → s ≤ aB a → 1 ≤ aO a s ∧ aO a s ≤ 9 := fun s s1 s2 => (ha.2.2.2.2.2.2.1 s s1 s2).2
    rw [e_S_settleCosts_74, if_neg (by rw [i_le (by omega) (by omega)]; omega)]
    simp only [oo_v, hR_S, hR_W w K47 (by omega) (show R0 47 2 = some 50 from rfl), kO_S, kO_W w RW50.1, kO_W w K47, if_true, s_get (WF_S w) RW50 (show fn (aB a) + r < 3620 by omega), cI_v, hS_2]
    rw [show g (50 + 1) (fn (aB a) + r) = _ from hD r (by omega)]
    by_cases hd : d r = some t
    · obtain ⟨g1, d1, res, e1, e2, e3, e4, e5, e6⟩ := s_offerBack (k2 := 50) w ha (CAt_off hc ho (by simp) (by simp) (by simp)) (GOK_of hG ho (by simp)) (Or.inl rfl) (show r < wds (aB a) by omega) (show 22700 < 1000000000 by omega) (show t ≤ 22700 by omega) (fun x u hx hu => (hs.1 x u hx hu).2.2) hD hd
      have hres : ∀ t', res = some t' → t' ≤ 22689 := fun t' q => by
        have := e3.2.2 t' q
        omega
      rw [if_pos (by rw [hd]; rfl), e1, cI_v, imax_v2 (by omega) (fun t' q => by have := hres t' q; omega), L1, i_add]
      refine s_settle_74 w ha hc hG ht k (r + 1) g1 d1 (mxN H res) (by omega) (St_step ha.2.1 ho9 ht (by omega) hd hs e3 e5) ?_ e2 (Off.tr ho e6)
      cases hq : res with
      | none => exact hH
      | some t' =>
        have := hres t' hq
        exact Nat.max_le.2 ⟨hH, by omega⟩
    · rw [if_neg ?_, L1, i_add]
      · refine s_settle_74 w ha hc hG ht k (r + 1) g d H (by omega) ⟨hs.1, hs.2.1, fun x v hx hv hvt => hs.2.2 x v hx hv ?_⟩ hH hD ho
        by_cases hxr : x = r
        · subst hxr
          rcases hvt with q | q
          · exact Or.inl q
          · rw [hv, q.1] at hd
            exact absurd rfl hd
        · omega
      · cases hdr : d r with
        | none =>
          intro q
          have h1 := i_nneg (show t < 2147483648 by omega)
          rw [← show vI none = nI t from q] at h1
          exact absurd (by decide) h1
        | some u =>
          have hu := (hs.1 r u (by omega) hdr).2.2
          show ¬ nI u = nI t
          rw [i_inj (by omega) (by omega)]
          intro q
          rw [hdr, q] at hd
          exact hd rfl
theorem s_settle_56 {a : AS} (w : WF h) (ha : AOK a) (hc : CAt h.2.2 1 a) (hG : GOK h.2.2 (aB a)) : ∀ (k t : Nat) (g : Nat → Nat → Int32) (d : Nat → Option Nat) (H : Nat), t + k = 22681 → St (aB a) (aS a) (aF a) (aC a) (aO a) d H t 0 → H ≤ 22700 → Dt 51 (aB a) g d → Off h.2.2 g [51] →
    ∃ g' d', f_S_settleCosts_56 47 1 (nI (fn (aB a))) (nI (fn (aB a) + wds (aB a))) (nI H) (nI t) (hS h g) = rV (hS h g') ∧ (∀ r, r < wds (aB a) → ∀ v, d' r = some v ↔ Lst (ED (aB a) (aS a)) (pr (aB a) (aO a)) (gol (aB a) (aF a) (aC a)) r v) ∧ Dt 51 (aB a) g' d' ∧ Off h.2.2 g' [51] := by
  have ho9 : ∀ s, 1 ≤ s → s ≤ aB a → 1 ≤ aO a s ∧ aO a s ≤ 9 := fun s s1 s2 => (ha.2.2.2.2.2.2.1 s s1 s2).2
  intro k
  induction k with
  | zero =>
    intro t g d H ht hs hH hD ho
    refine ⟨g, d, ?_, St_end ha.2.1 ho9 hs (Or.inr (by omega)), hD, ho⟩
    rw [e_S_settleCosts_56]
    by_cases hHt : H < t
    · rw [if_pos (by rw [i_lt (by omega) (by omega)]; exact hHt)]
    · rw [if_neg (by rw [i_lt (by omega) (by omega)]; exact hHt), if_pos (by rw [show (22680 : Int32) = nI 22680 from rfl, i_lt (by omega) (by omega)]; omega)]
  | succ k ih =>
    intro t g d H ht hs hH hD ho
    by_cases hHt : H < t
    · refine ⟨g, d, ?_, St_end ha.2.1 ho9 hs (Or.inl hHt), hD, ho⟩
      rw [e_S_settleCosts_56, if_pos (by rw [i_lt (by omega) (by omega)]; exact hHt)]
    · obtain ⟨g1, d1, H1, e1, e2, e3, e4, e5⟩ := s_settle_74 w ha hc hG (show t ≤ 22680 by omega) (wds (aB a)) 0 g d H (by omega) hs hH hD ho
      obtain ⟨g2, d2, e6, e7⟩ := ih (t + 1) g1 d1 H1 (by omega) e2 e3 e4 e5
      refine ⟨g2, d2, ?_, e7⟩
      rw [e_S_settleCosts_56, if_neg (by rw [i_lt (by omega) (by omega)]; exact hHt), if_neg (by rw [show (22680 : Int32) = nI 22680 from rfl, i_lt (by omega) (by omega)]; omega)]
      rw [Nat.add_zero] at e1
      rw [e1]
      exact e6
end Settle
end
section
/-! lowerCosts: pass by pass -/
def Lw (b S F C : Nat) (o : Nat → Nat) (d : Nat → Option Nat) (V i r : Nat) (fl : Bool) : Prop :=
  (∀ x v, x < wds b → d x = some v → (∃ n, Pt (ED b S) (pr b o) (gol b F C) n x v) ∧ v ≤ V) ∧
  (∀ x, x < wds b → gol b F C x = true → d x = some 0) ∧
  (∀ n x v, n ≤ i → x < wds b → Pt (ED b S) (pr b o) (gol b F C) n x v → ∃ u, d x = some u ∧ u ≤ v) ∧
  (∀ n x v, n ≤ i → x < r → x < wds b → Pt (ED b S) (pr b o) (gol b F C) n x v → ∀ r' m, r' < wds b → m < 19 → ED b S r' m = some x → ∃ u, d r' = some u ∧ u ≤ pr b o r' m + v) ∧
  (fl = false → ∀ x v, x < r → x < wds b → d x = some v → ∀ r' m, r' < wds b → m < 19 → ED b S r' m = some x → ∃ u, d r' = some u ∧ u ≤ pr b o r' m + v)
theorem Lw_step {b S F C V i r c : Nat} {o : Nat → Nat} {d d' : Nat → Option Nat} {res : Option Nat} {fl : Bool} (hb : b < 6) (ho9 : ∀ s, 1 ≤ s → s ≤ b → 1 ≤ o s ∧ o s ≤ 9) (hr : r < wds b) (hd : d r = some c) (hd' : d' r = some c) (h : Lw b S F C o d V i r fl) (hO : Ob b S o r c d d' res)
    (hcl : ∀ r' m, r' < wds b → m < 19 → ED b S r' m = some r → ∃ u, d' r' = some u ∧ u ≤ c + pr b o r' m) : Lw b S F C o d' (V + 9) i (r + 1) (fl || res.isSome) := by
  obtain ⟨h1, h2, h3, h4, h5⟩ := h
  obtain ⟨o1, o2, o3⟩ := hO
  have hcV := (h1 r c hr hd).2
  refine ⟨fun x v hx hv => ?_, fun x hx hg => ?_, fun n x v hn hx hp => ?_, fun n x v hn hxr hx hp r' m hr' hm hE => ?_, fun hfl x v hxr hx hv r' m hr' hm hE => ?_⟩
  · rcases o2 x hx with e | ⟨m, t', a1, a2, a3, a4, a5⟩
    · rw [e] at hv
      have := h1 x v hx hv
      exact ⟨this.1, by omega⟩
    · rw [a3] at hv
      cases hv
      have hp := pr_bd hb ho9 x m r hx a1 a2
      obtain ⟨n, hn⟩ := (h1 r c hr hd).1
      exact ⟨⟨n + 1, m, r, c, a1, a2, hn, Nat.add_comm _ _⟩, by omega⟩
  · obtain ⟨u, a1, a2⟩ := o1 x 0 hx (h2 x hx hg)
    rw [a1, show u = 0 by omega]
  · obtain ⟨u, a1, a2⟩ := h3 n x v hn hx hp
    obtain ⟨u', a3, a4⟩ := o1 x u hx a1
    exact ⟨u', a3, by omega⟩
  · by_cases hxe : x = r
    · subst hxe
      obtain ⟨u, a1, a2⟩ := hcl r' m hr' hm hE
      obtain ⟨u2, a3, a4⟩ := h3 n x v hn hx hp
      rw [hd] at a3
      cases a3
      exact ⟨u, a1, by omega⟩
    · obtain ⟨u, a1, a2⟩ := h4 n x v hn (by omega) hx hp r' m hr' hm hE
      obtain ⟨u', a3, a4⟩ := o1 r' u hr' a1
      exact ⟨u', a3, by omega⟩
  · rw [Bool.or_eq_false_iff] at hfl
    have hsame : ∀ y, y < wds b → d' y = d y := fun y hy => by
      rcases o2 y hy with e | ⟨m', t', a1, a2, a3, a4, a5⟩
      · exact e
      · rw [a4] at hfl
        exact absurd hfl.2 (by simp)
    by_cases hxe : x = r
    · subst hxe
      rw [hd'] at hv
      cases hv
      obtain ⟨u, a1, a2⟩ := hcl r' m hr' hm hE
      exact ⟨u, a1, by omega⟩
    · rw [hsame x hx] at hv
      rw [hsame r' hr']
      exact h5 hfl.1 x v (by omega) hx hv r' m hr' hm hE
theorem Lw_skip {b S F C V i r : Nat} {o : Nat → Nat} {d : Nat → Option Nat} {fl : Bool} (hd : d r = none) (h : Lw b S F C o d V i r fl) : Lw b S F C o d V i (r + 1) fl := by
  obtain ⟨h1, h2, h3, h4, h5⟩ := h
  refine ⟨h1, h2, h3, fun n x v hn hxr hx hp => ?_, fun hfl x v hxr hx hv => ?_⟩
  · by_cases hxe : x = r
    · subst hxe
      obtain ⟨u, a1, _⟩ := h3 n x v hn hx hp
      rw [hd] at a1
      cases a1
    · exact h4 n x v hn (by omega) hx hp
  · by_cases hxe : x = r
    · subst hxe
      rw [hd] at hv
      cases hv
    · exact h5 hfl x v (by omega) hx hv
theorem Lw_pass {b S F C V i : Nat} {o : Nat → Nat} {d : Nat → Option Nat} {fl : Bool} (hb : b < 6) (h : Lw b S F C o d V i (wds b) fl) : Lw b S F C o d V (i + 1) 0 false ∧ (fl = false → ∀ r, r < wds b → ∀ v, d r = some v ↔ Lst (ED b S) (pr b o) (gol b F C) r v) := by
  obtain ⟨h1, h2, h3, h4, h5⟩ := h
  refine ⟨⟨h1, h2, fun n x v hn hx hp => ?_, fun n x v _ q => absurd q (Nat.not_lt_zero _), fun _ x v q => absurd q (Nat.not_lt_zero _)⟩, fun hfl => ?_⟩
  · cases n with
    | zero => exact ⟨0, h2 x hx hp.1, Nat.zero_le _⟩
    | succ n =>
      obtain ⟨m, y, v', a1, a2, a3, a4⟩ := hp
      have hy := ED_lt hb x m y hx a1 a2
      obtain ⟨u, b1, b2⟩ := h4 n y v' (by omega) hy hy a3 x m hx a1 a2
      exact ⟨u, b1, by omega⟩
  · exact lst_of (ED_lt hb) (fun r v hr hv => (h1 r v hr hv).1) h2 (fun r m x v hr hm hE hv => h5 hfl x v (ED_lt hb r m x hr hm hE) (ED_lt hb r m x hr hm hE) hv r m hr hm hE)
theorem Lw_end {b S F C V i : Nat} {o : Nat → Nat} {d : Nat → Option Nat} {fl : Bool} (hb : b < 6) (ho9 : ∀ s, 1 ≤ s → s ≤ b → 1 ≤ o s ∧ o s ≤ 9) (hi : 2520 ≤ i) (h : Lw b S F C o d V i 0 fl) : ∀ r, r < wds b → ∀ v, d r = some v ↔ Lst (ED b S) (pr b o) (gol b F C) r v := by
  obtain ⟨h1, h2, h3, h4, h5⟩ := h
  have hw := wds_lt hb
  have key : ∀ r v, r < wds b → Lst (ED b S) (pr b o) (gol b F C) r v → d r = some v := fun r v hr hl => by
    obtain ⟨n, hn⟩ := hl.1
    have hs := lst_short (fun r m r' q1 q2 q3 => (pr_bd hb ho9 r m r' q1 q2 q3).1) (ED_lt hb) hr hn hl
    obtain ⟨u, a1, a2⟩ := h3 n r v (by omega) hr hn
    obtain ⟨n', hn'⟩ := (h1 r u hr a1).1
    have := hl.2 n' u hn'
    rw [a1, show u = v by omega]
  intro r hr v
  refine ⟨fun hv => ?_, key r v hr⟩
  obtain ⟨n, hn⟩ := (h1 r v hr hv).1
  obtain ⟨v', _, hl⟩ := lst_ex v n hn
  have := key r v' hr hl
  rw [hv] at this
  cases this
  exact hl
section Lower
variable {h : pH}
theorem s_lower_75 {a : AS} {i : Nat} (w : WF h) (ha : AOK a) (hc : CAt h.2.2 1 a) (hG : GOK h.2.2 (aB a)) (hi : i ≤ 2520) : ∀ (k r : Nat) (g : Nat → Nat → Int32) (d : Nat → Option Nat) (V : Nat) (fl : Bool), r + k = wds (aB a) → Lw (aB a) (aS a) (aF a) (aC a) (aO a) d V i r fl → V + 9 * k < 900000000 → Dt 53 (aB a) g d → Off h.2.2 g [53] →
    ∃ g' d' fl', f_S_lowerCosts_75 47 1 (nI (fn (aB a))) (nI (fn (aB a) + wds (aB a))) (nI fl.toNat) (nI i) (nI (fn (aB a) + r)) (hS h g) = f_S_lowerCosts_56 47 1 (nI (fn (aB a))) (nI (fn (aB a) + wds (aB a))) (nI fl'.toNat) (nI (i + 1)) (hS h g') ∧ Lw (aB a) (aS a) (aF a) (aC a) (aO a) d' (V + 9 * k) (i + 1) 0 false ∧ (fl' = false → ∀ r, r < wds (aB a) → ∀ v, d' r = some v ↔ Lst (ED (aB a) (aS a)) (pr (aB a) (aO a)) (gol (aB a) (aF a) (aC a)) r v) ∧ Dt 53 (aB a) g' d' ∧ Off h.2.2 g' [53]
  | 0, r, g, d, V, fl, hr, hs, hV, hD, ho => by
    have hle := fn_le ha.2.1
    obtain rfl : r = wds (aB a) := by omega
    have hp := Lw_pass ha.2.1 hs
    refine ⟨g, d, fl, ?_, hp.1, hp.2, hD, ho⟩
    rw [e_S_lowerCosts_75, if_pos (by rw [i_le (by omega) (by omega)]; exact Nat.le_refl _), L1, i_add]
  | k + 1, r, g, d, V, fl, hr, hs, hV, hD, ho => by
    have hle := fn_le ha.2.1
    have ho9 : ∀ s, 1 ≤ s → s ≤ aB a → 1 ≤ aO a s ∧ aO a s ≤ 9 := fun s s1 s2 => (ha.2.2.2.2.2.2.1 s s1 s2).2
    rw [e_S_lowerCosts_75, if_neg (by rw [i_le (by omega) (by omega)]; omega)]
    simp only [oo_v, hR_S, hR_W w K47 (by omega) (show R0 47 3 = some 52 from rfl), kO_S, kO_W w RW52.1, kO_W w K47, if_true, s_get (WF_S w) RW52 (show fn (aB a) + r < 3620 by omega), cI_v, hS_2]
    rw [show g (52 + 1) (fn (aB a) + r) = _ from hD r (by omega)]
    cases hd : d r with
    | none =>
      rw [if_pos (show vI none = -1 from rfl), L1, i_add]
      have hV' : Lw (aB a) (aS a) (aF a) (aC a) (aO a) d (V + 9) i (r + 1) fl := by
        obtain ⟨q1, q2⟩ := Lw_skip hd hs
        exact ⟨fun x v hx hv => ⟨(q1 x v hx hv).1, by have := (q1 x v hx hv).2; omega⟩, q2⟩
      have := s_lower_75 w ha hc hG hi k (r + 1) g d (V + 9) fl (by omega) hV' (by omega) hD ho
      rw [show V + 9 + 9 * k = V + 9 * (k + 1) by omega] at this
      exact this
    | some c =>
      have hcV := (hs.1 r c (by omega) hd).2
      obtain ⟨g1, d1, res, e1, e2, e3, e4, e5, e6⟩ := s_offerBack (k2 := 52) w ha (CAt_off hc ho (by simp) (by simp) (by simp)) (GOK_of hG ho (by simp)) (Or.inr rfl) (show r < wds (aB a) by omega) (show V < 1000000000 by omega) hcV (fun x u hx hu => (hs.1 x u hx hu).2) hD hd
      rw [if_neg (by rw [vI_m1 (fun w' e => by cases e; omega)]; simp), e1, cI_v]
      have hst := Lw_step ha.2.1 ho9 (by omega) hd e4 hs e3 e5
      have := s_lower_75 w ha hc hG hi k (r + 1) g1 d1 (V + 9) (fl || res.isSome) (by omega) hst (by omega) e2 (Off.tr ho e6)
      rw [show V + 9 + 9 * k = V + 9 * (k + 1) by omega] at this
      cases hq : res with
      | none =>
        rw [hq, Option.isSome_none, Bool.or_false] at this
        rw [if_pos (show vI none = -1 from rfl), L1, i_add]
        exact this
      | some t =>
        have ht := e3.2.2 t hq
        rw [hq, Option.isSome_some, Bool.or_true] at this
        rw [if_neg (by rw [vI_m1 (fun w' e => by cases e; omega)]; simp), L1, i_add]
        exact this
theorem s_lower_56 {a : AS} (w : WF h) (ha : AOK a) (hc : CAt h.2.2 1 a) (hG : GOK h.2.2 (aB a)) : ∀ (k i : Nat) (g : Nat → Nat → Int32) (d : Nat → Option Nat) (V : Nat) (fl : Bool), i + k = 2521 → Lw (aB a) (aS a) (aF a) (aC a) (aO a) d V i 0 false → (fl = false → ∀ r, r < wds (aB a) → ∀ v, d r = some v ↔ Lst (ED (aB a) (aS a)) (pr (aB a) (aO a)) (gol (aB a) (aF a) (aC a)) r v) → V + 22680 * k < 900000000 → Dt 53 (aB a) g d → Off h.2.2 g [53] →
    ∃ g' d', f_S_lowerCosts_56 47 1 (nI (fn (aB a))) (nI (fn (aB a) + wds (aB a))) (nI fl.toNat) (nI i) (hS h g) = rV (hS h g') ∧ (∀ r, r < wds (aB a) → ∀ v, d' r = some v ↔ Lst (ED (aB a) (aS a)) (pr (aB a) (aO a)) (gol (aB a) (aF a) (aC a)) r v) ∧ Dt 53 (aB a) g' d' ∧ Off h.2.2 g' [53] := by
  have ho9 : ∀ s, 1 ≤ s → s ≤ aB a → 1 ≤ aO a s ∧ aO a s ≤ 9 := fun s s1 s2 => (ha.2.2.2.2.2.2.1 s s1 s2).2
  have hw := wds_lt ha.2.1
  intro k
  induction k with
  | zero =>
    intro i g d V fl hi hs hfl hV hD ho
    refine ⟨g, d, ?_, Lw_end ha.2.1 ho9 (by omega) hs, hD, ho⟩
    rw [e_S_lowerCosts_56]
    cases fl with
    | false => rw [if_pos (by decide)]
    | true => rw [if_neg (by decide), if_pos (by rw [show (2520 : Int32) = nI 2520 from rfl, i_lt (by omega) (by omega)]; omega)]
  | succ k ih =>
    intro i g d V fl hi hs hfl hV hD ho
    cases fl with
    | false =>
      refine ⟨g, d, ?_, hfl rfl, hD, ho⟩
      rw [e_S_lowerCosts_56, if_pos (by decide)]
    | true =>
      obtain ⟨g1, d1, fl1, e1, e2, e3, e4, e5⟩ := s_lower_75 w ha hc hG (show i ≤ 2520 by omega) (wds (aB a)) 0 g d V false (by omega) hs (by omega) hD ho
      obtain ⟨g2, d2, e6, e7⟩ := ih (i + 1) g1 d1 (V + 9 * wds (aB a)) fl1 (by omega) e2 e3 (by omega) e4 e5
      refine ⟨g2, d2, ?_, e7⟩
      have hlt : ¬ ((2520 : Int32) < nI i) := by
        have h2 : i ≤ 2520 := by omega
        rw [show (2520 : Int32) = nI 2520 from rfl, i_lt (a := 2520) (b := i) (by decide) (Nat.lt_of_le_of_lt h2 (by decide))]
        exact Nat.not_lt.2 h2
      rw [e_S_lowerCosts_56, if_neg (by decide), if_neg hlt]
      rw [Nat.add_zero] at e1
      exact e1.trans e6
end Lower
end
section
/-! the cheapest ways, found twice: settleCosts and lowerCosts behind their keys -/
section Congr
variable {E : Nat → Nat → Option Nat} {p p' : Nat → Nat → Nat} {goal : Nat → Bool} {N : Nat}
theorem pt_congr (hE : ∀ r m r', r < N → m < 19 → E r m = some r' → r' < N) (hp : ∀ r m r', r < N → m < 19 → E r m = some r' → p r m = p' r m) : ∀ (n r w : Nat), r < N → Pt E p goal n r w → Pt E p' goal n r w
  | 0, _, _, _, h => h
  | n + 1, r, w, hr, h => by
    obtain ⟨m, r', w', a1, a2, a3, a4⟩ := h
    exact ⟨m, r', w', a1, a2, pt_congr hE hp n r' w' (hE r m r' hr a1 a2) a3, by rw [← hp r m r' hr a1 a2]; exact a4⟩
theorem lst_congr (hE : ∀ r m r', r < N → m < 19 → E r m = some r' → r' < N) (hp : ∀ r m r', r < N → m < 19 → E r m = some r' → p r m = p' r m) {r w : Nat} (hr : r < N) : Lst E p goal r w ↔ Lst E p' goal r w := by
  have hp' : ∀ r m r', r < N → m < 19 → E r m = some r' → p' r m = p r m := fun r m r' q1 q2 q3 => (hp r m r' q1 q2 q3).symm
  constructor
  · refine fun ⟨⟨n, h1⟩, h2⟩ => ⟨⟨n, pt_congr hE hp n r w hr h1⟩, fun n' w' h3 => h2 n' w' (pt_congr hE hp' n' r w' hr h3)⟩
  · refine fun ⟨⟨n, h1⟩, h2⟩ => ⟨⟨n, pt_congr hE hp' n r w hr h1⟩, fun n' w' h3 => h2 n' w' (pt_congr hE hp n' r w' hr h3)⟩
end Congr
theorem prc_congr {b P m : Nat} {o o' : Nat → Nat} (hv : VW b P) (ho : ∀ s, 1 ≤ s → s ≤ b → o s = o' s) (hm : m < 19) (h0 : rsn P 0 m = 0) : prc o P m = prc o' P m := by
  unfold rsn at h0
  unfold prc
  by_cases h7 : m < 7
  · rw [if_pos h7] at h0
    rw [if_pos h7, if_pos h7]
    have h1 := hv.2.1 m h7
    by_cases hz : sl P m = 0
    · rw [if_pos hz] at h0; omega
    · exact ho _ (by omega) h1
  · have h6 := plc_lt6 hm h7
    rw [if_neg h7] at h0
    rw [if_neg h7, if_neg h7]
    have h1 := hv.2.1 (plc m) (by omega)
    have h2 := hv.2.1 (plc m + 1) (by omega)
    by_cases hz : sl P (plc m) = 0
    · rw [if_pos hz] at h0; omega
    · rw [if_neg hz] at h0
      by_cases hz' : sl P (plc m + 1) = 0
      · rw [if_pos hz'] at h0; omega
      · rw [ho _ (show 1 ≤ sl P (plc m) by omega) h1, ho _ (show 1 ≤ sl P (plc m + 1) by omega) h2]
/-- the row k holds the least prices of every word -/
def Cw (k b S F C : Nat) (o : Nat → Nat) (f : Nat → Nat → Int32) : Prop := ∀ r, r < wds b → ∃ v, f k (fn b + r) = vI v ∧ ∀ u, v = some u ↔ Lst (ED b S) (pr b o) (gol b F C) r u
theorem Cw_congr {k b S F C : Nat} {o o' : Nat → Nat} {f : Nat → Nat → Int32} (hb : b < 6) (ho : ∀ s, 1 ≤ s → s ≤ b → o s = o' s) (h : Cw k b S F C o f) : Cw k b S F C o' f := fun r hr => by
  obtain ⟨v, h1, h2⟩ := h r hr
  refine ⟨v, h1, fun u => (h2 u).trans (lst_congr (ED_lt hb) (fun r m r' q1 q2 q3 => ?_) hr)⟩
  exact prc_congr (wd_VW hb q1) ho q2 (ED_rsn q3)
/-- what was found once stands for its key: the key in slot j, the prices in row k -/
def CstC (k j : Nat) (f : Nat → Nat → Int32) : Prop := f 47 j = -1 ∨ ∃ b S F C o, b < 6 ∧ S < 64 ∧ F < 2 ∧ C < 2 ∧ (∀ s, 1 ≤ s → s ≤ b → o s ≤ 9) ∧ f 47 j = nI (kyC b S F C o) ∧ Cw k b S F C o f
theorem CstC_hit {k j : Nat} {a : AS} {f : Nat → Nat → Int32} (ha : AOK a) (hK : CstC k j f) (e : nI (kyC (aB a) (aS a) (aF a) (aC a) (aO a)) = f 47 j) : Cw k (aB a) (aS a) (aF a) (aC a) (aO a) f := by
  have ho9 : ∀ s, 1 ≤ s → s ≤ aB a → aO a s ≤ 9 := fun s s1 s2 => (ha.2.2.2.2.2.2.1 s s1 s2).2.2
  have hlt := kyC_lt ha.2.1 ha.2.2.1 ha.2.2.2.2.1 ha.2.2.2.2.2.1 ho9
  rcases hK with e1 | ⟨b, S, F, C, o, k1, k2, k3, k4, ko, k5, k6⟩
  · have h1 := i_nneg hlt
    rw [e, e1] at h1
    exact absurd (by decide) h1
  · have hlt' := kyC_lt k1 k2 k3 k4 ko
    have hm1 := kyM_lt ha.2.1 ha.2.2.1 ha.2.2.2.2.1 ha.2.2.2.2.2.1
    have hm2 := kyM_lt k1 k2 k3 k4
    rw [k5, i_inj hlt hlt'] at e
    unfold kyC at e
    obtain ⟨e1, e2, e3, e4⟩ := kyM_inj (S := aS a) (S' := S) ha.2.1 ha.2.2.2.2.1 ha.2.2.2.2.2.1 k1 k3 k4 (by omega)
    have e5 : kyO (aO a) (aB a) = kyO o b := by omega
    subst e1
    rw [e2, e3, e4]
    exact Cw_congr ha.2.1 (fun s s1 s2 => (kyO_inj (aB a) (fun s s1 s2 => ⟨ho9 s s1 s2, ko s s1 s2⟩) e5 s s1 s2).symm) k6
section Costs
variable {h : pH}
theorem s_settleCosts {a : AS} {f : Nat → Nat → Int32} (w : WF h) (ha : AOK a) (hc : CAt f 1 a) (hG : GOK f (aB a)) (hK : CstC 51 5 f) :
    ∃ g, f_S_settleCosts 47 1 (hS h f) = rV (hS h g) ∧ Cw 51 (aB a) (aS a) (aF a) (aC a) (aO a) g ∧ CstC 51 5 g ∧ Off f g [47, 51] ∧ ∀ j, j ≠ 5 → g 47 j = f 47 j := by
  have hb : aB a < 6 := ha.2.1
  have hF : aF a < 2 := ha.2.2.2.2.1
  have hC : aC a < 2 := ha.2.2.2.2.2.1
  have ho9 : ∀ s, 1 ≤ s → s ≤ aB a → aO a s ≤ 9 := fun s s1 s2 => (ha.2.2.2.2.2.2.1 s s1 s2).2.2
  have hle := fn_le hb
  rw [e_S_settleCosts]
  simp only [kO_S, kO_W w K1, kO_W w K47, if_true, s_keyOfCosts w ha hc, cI_v, oo_v, hS_2, hI_W (WF_S w) K47]
  by_cases he : nI (kyC (aB a) (aS a) (aF a) (aC a) (aO a)) = f 47 5
  · rw [if_pos he]
    exact ⟨f, rfl, CstC_hit ha hK he, hK, Off.rf, fun _ _ => rfl⟩
  · rw [if_neg he]
    have ho1 : Off f (s2 f 47 5 (nI (kyC (aB a) (aS a) (aF a) (aC a) (aO a)))) [47] := s2_off (by simp)
    have hc' := CAt_off hc ho1 (by simp) (by simp) (by simp)
    have hG' := GOK_of hG ho1 (by simp)
    obtain ⟨g1, e1, e2, e3⟩ := s_startAtOrder (F := aF a) (C := aC a) w hb hF hC RW50 (by omega) (by omega) hG' hc'.2.2.2.2.2.1 hc'.2.2.2.2.2.2.1 (wds (aB a)) 0 _ (by omega) (fun r' hr' => absurd hr' (Nat.not_lt_zero _)) Off.rf
    have hc1 := CAt_off hc' e3 (by simp) (by simp) (by simp)
    have hG1 := GOK_of hG' e3 (by simp)
    have hst : St (aB a) (aS a) (aF a) (aC a) (aO a) (d0 (aB a) (aF a) (aC a)) 0 0 0 := by
      have hd : ∀ r v, d0 (aB a) (aF a) (aC a) r = some v → gol (aB a) (aF a) (aC a) r = true ∧ v = 0 := fun r v q => by
        unfold d0 at q
        split at q
        · rename_i hg
          cases q
          exact ⟨hg, rfl⟩
        · cases q
      refine ⟨fun x v hx hv => ?_, fun x hx hg => by unfold d0; rw [if_pos hg], fun x v hx hv q => by omega⟩
      obtain ⟨q1, q2⟩ := hd x v hv
      exact ⟨⟨0, q1, q2⟩, by omega, by omega⟩
    obtain ⟨g2, d2, e4, e5, e5', e6⟩ := s_settle_56 (h := hS h g1) w ha hc1 hG1 22681 0 g1 (d0 (aB a) (aF a) (aC a)) 0 (by omega) hst (by omega) e2 Off.rf
    have hCw : Cw 51 (aB a) (aS a) (aF a) (aC a) (aO a) g2 := fun r hr => ⟨d2 r, e5' r hr, e5 r hr⟩
    have ho2 : Off f g2 [47, 51] := Off.tr (Off.mono ho1 (by simp)) (Off.tr (Off.mono e3 (by simp)) (Off.mono e6 (by simp)))
    have h47 : ∀ j, g2 47 j = s2 f 47 5 (nI (kyC (aB a) (aS a) (aF a) (aC a) (aO a))) 47 j := fun j => by
      rw [e6 47 (by simp)]
      show g1 47 j = _
      rw [e3 47 (by simp)]
    refine ⟨g2, ?_, hCw, Or.inr ⟨aB a, aS a, aF a, aC a, aO a, hb, ha.2.2.1, hF, hC, ho9, ?_, hCw⟩, ho2, fun j hj => ?_⟩
    · simp only [sI_S, hS_S, hS_2, kO_S, kO_W w K1, kO_W w K47, if_true, hI_W (WF_S w) K1, oo_v, hc'.2.1, s_firstNode (show aB a < 7 by omega), cI_v, s_wordsOf hb, hR_S, hR_W w K47 (by omega) (show R0 47 2 = some 50 from rfl), i_add]
      rw [e_S_startAtOrder]
      rw [Nat.add_zero] at e1
      rw [e1, cV_v]
      exact e4
    · rw [h47, s2_at, if_pos rfl, if_pos rfl]
    · rw [h47, s2_at, if_pos rfl, if_neg hj]
theorem s_lowerCosts {a : AS} {f : Nat → Nat → Int32} (w : WF h) (ha : AOK a) (hc : CAt f 1 a) (hG : GOK f (aB a)) (hK : CstC 53 6 f) :
    ∃ g, f_S_lowerCosts 47 1 (hS h f) = rV (hS h g) ∧ Cw 53 (aB a) (aS a) (aF a) (aC a) (aO a) g ∧ CstC 53 6 g ∧ Off f g [47, 53] ∧ ∀ j, j ≠ 6 → g 47 j = f 47 j := by
  have hb : aB a < 6 := ha.2.1
  have hF : aF a < 2 := ha.2.2.2.2.1
  have hC : aC a < 2 := ha.2.2.2.2.2.1
  have ho9 : ∀ s, 1 ≤ s → s ≤ aB a → aO a s ≤ 9 := fun s s1 s2 => (ha.2.2.2.2.2.2.1 s s1 s2).2.2
  have hle := fn_le hb
  rw [e_S_lowerCosts]
  simp only [kO_S, kO_W w K1, kO_W w K47, if_true, s_keyOfCosts w ha hc, cI_v, oo_v, hS_2, hI_W (WF_S w) K47]
  by_cases he : nI (kyC (aB a) (aS a) (aF a) (aC a) (aO a)) = f 47 6
  · rw [if_pos he]
    exact ⟨f, rfl, CstC_hit ha hK he, hK, Off.rf, fun _ _ => rfl⟩
  · rw [if_neg he]
    have ho1 : Off f (s2 f 47 6 (nI (kyC (aB a) (aS a) (aF a) (aC a) (aO a)))) [47] := s2_off (by simp)
    have hc' := CAt_off hc ho1 (by simp) (by simp) (by simp)
    have hG' := GOK_of hG ho1 (by simp)
    obtain ⟨g1, e1, e2, e3⟩ := s_startAtOrder (F := aF a) (C := aC a) w hb hF hC RW52 (by omega) (by omega) hG' hc'.2.2.2.2.2.1 hc'.2.2.2.2.2.2.1 (wds (aB a)) 0 _ (by omega) (fun r' hr' => absurd hr' (Nat.not_lt_zero _)) Off.rf
    have hc1 := CAt_off hc' e3 (by simp) (by simp) (by simp)
    have hG1 := GOK_of hG' e3 (by simp)
    have hst : Lw (aB a) (aS a) (aF a) (aC a) (aO a) (d0 (aB a) (aF a) (aC a)) 0 0 0 false := by
      have hg0 : ∀ x, gol (aB a) (aF a) (aC a) x = true → d0 (aB a) (aF a) (aC a) x = some 0 := fun x hg => by unfold d0; rw [if_pos hg]
      have hd : ∀ r v, d0 (aB a) (aF a) (aC a) r = some v → gol (aB a) (aF a) (aC a) r = true ∧ v = 0 := fun r v q => by
        unfold d0 at q
        split at q
        · rename_i hg
          cases q
          exact ⟨hg, rfl⟩
        · cases q
      refine ⟨fun x v hx hv => ?_, fun x hx hg => hg0 x hg, fun n x v hn hx hp => ?_, fun n x v _ q => absurd q (Nat.not_lt_zero _), fun _ x v q => absurd q (Nat.not_lt_zero _)⟩
      · obtain ⟨q1, q2⟩ := hd x v hv
        exact ⟨⟨0, q1, q2⟩, by omega⟩
      · obtain rfl : n = 0 := by omega
        exact ⟨0, hg0 x hp.1, Nat.zero_le _⟩
    obtain ⟨g2, d2, e4, e5, e5', e6⟩ := s_lower_56 (h := hS h g1) w ha hc1 hG1 2521 0 g1 (d0 (aB a) (aF a) (aC a)) 0 true (by omega) hst (fun q => by cases q) (by omega) e2 Off.rf
    have hCw : Cw 53 (aB a) (aS a) (aF a) (aC a) (aO a) g2 := fun r hr => ⟨d2 r, e5' r hr, e5 r hr⟩
    have ho2 : Off f g2 [47, 53] := Off.tr (Off.mono ho1 (by simp)) (Off.tr (Off.mono e3 (by simp)) (Off.mono e6 (by simp)))
    have h47 : ∀ j, g2 47 j = s2 f 47 6 (nI (kyC (aB a) (aS a) (aF a) (aC a) (aO a))) 47 j := fun j => by
      rw [e6 47 (by simp)]
      show g1 47 j = _
      rw [e3 47 (by simp)]
    refine ⟨g2, ?_, hCw, Or.inr ⟨aB a, aS a, aF a, aC a, aO a, hb, ha.2.2.1, hF, hC, ho9, ?_, hCw⟩, ho2, fun j hj => ?_⟩
    · simp only [sI_S, hS_S, hS_2, kO_S, kO_W w K1, kO_W w K47, if_true, hI_W (WF_S w) K1, oo_v, hc'.2.1, s_firstNode (show aB a < 7 by omega), cI_v, s_wordsOf hb, hR_S, hR_W w K47 (by omega) (show R0 47 3 = some 52 from rfl), i_add]
      rw [e_S_startAtOrder]
      rw [Nat.add_zero] at e1
      rw [e1, cV_v]
      exact e4
    · rw [h47, s2_at, if_pos rfl, if_pos rfl]
    · rw [h47, s2_at, if_pos rfl, if_neg hj]
end Costs
end
section
/-! what is found for a shelf: the fewest moves (kind 0), the least price (kinds 1 and 2) -/

/-- the least price of a way, if there is one -/
noncomputable def lv (E : Nat → Nat → Option Nat) (p : Nat → Nat → Nat) (goal : Nat → Bool) (r : Nat) : Option Nat :=
  @dite _ (∃ w, Lst E p goal r w) (Classical.propDecidable _) (fun q => some q.choose) (fun _ => none)
theorem lv_eq {E : Nat → Nat → Option Nat} {p : Nat → Nat → Nat} {goal : Nat → Bool} {r w : Nat} : lv E p goal r = some w ↔ Lst E p goal r w := by
  unfold lv
  by_cases q : ∃ w, Lst E p goal r w
  · rw [dif_pos q]
    constructor
    · intro e
      cases e
      exact q.choose_spec
    · exact fun hl => congrArg some (lst_uniq q.choose_spec hl)
  · rw [dif_neg q]
    exact ⟨fun e => (nomatch e), fun hl => absurd ⟨w, hl⟩ q⟩
theorem lv_of {E : Nat → Nat → Option Nat} {p : Nat → Nat → Nat} {goal : Nat → Bool} {r : Nat} {v : Option Nat} (h : ∀ w, v = some w ↔ Lst E p goal r w) : v = lv E p goal r := by
  cases hl : lv E p goal r with
  | some w => exact (h w).2 (lv_eq.1 hl)
  | none =>
    cases hv : v with
    | none => rfl
    | some w =>
      have := lv_eq.2 ((h w).1 hv)
      rw [hl] at this
      cases this
/-- moves (0) or price (else) from a word of the shelf to order -/
noncomputable def wyO (a : AS) (kd r : Nat) : Option Nat := lv (ED (aB a) (aS a)) (if kd = 0 then fun _ _ => 1 else pr (aB a) (aO a)) (gol (aB a) (aF a) (aC a)) r
theorem wyO_lt {a : AS} {kd r u : Nat} (ha : AOK a) (hr : r < wds (aB a)) (h : wyO a kd r = some u) : u ≤ 9 * 2519 := by
  have hw := wds_lt ha.2.1
  have ho9 : ∀ s, 1 ≤ s → s ≤ aB a → 1 ≤ aO a s ∧ aO a s ≤ 9 := fun s s1 s2 => (ha.2.2.2.2.2.2.1 s s1 s2).2
  have h1 := lv_eq.1 h
  have hb := pr_bd (S := aS a) ha.2.1 ho9
  have h2 := lst_le (B := 9) (fun r m r' q1 q2 q3 => by
    by_cases hk : kd = 0
    · rw [if_pos hk]; exact Nat.le_refl _
    · rw [if_neg hk]; exact (hb r m r' q1 q2 q3).1) (fun r m r' q1 q2 q3 => by
    by_cases hk : kd = 0
    · rw [if_pos hk]; show 1 ≤ 9; omega
    · rw [if_neg hk]; exact (hb r m r' q1 q2 q3).2) (ED_lt ha.2.1) hr h1
  omega
/-- what the search keeps from one call to the next -/
def SC (f : Nat → Nat → Int32) : Prop := FewC f ∧ CstC 51 5 f ∧ CstC 53 6 f
theorem FewC_of {f g : Nat → Nat → Int32} (h : FewC f) (h1 : g 47 4 = f 47 4) (h2 : g 49 = f 49) : FewC g := by
  unfold FewC Fw at *
  rw [h1, h2]
  exact h
theorem CstC_of {k j : Nat} {f g : Nat → Nat → Int32} (h : CstC k j f) (h1 : g 47 j = f 47 j) (h2 : g k = f k) : CstC k j g := by
  unfold CstC Cw at *
  rw [h1, h2]
  exact h
theorem SC_of {f g : Nat → Nat → Int32} {l : List Nat} (h : SC f) (ho : Off f g l) (hl : 47 ∉ l ∧ 49 ∉ l ∧ 51 ∉ l ∧ 53 ∉ l) : SC g :=
  ⟨FewC_of h.1 (by rw [ho 47 hl.1]) (ho 49 hl.2.1), CstC_of h.2.1 (by rw [ho 47 hl.1]) (ho 51 hl.2.2.1), CstC_of h.2.2 (by rw [ho 47 hl.1]) (ho 53 hl.2.2.2)⟩
def sRows : List Nat := [47, 49, 51, 53, 57]
section Ways
variable {h : pH}
theorem s_findWays {a : AS} {f : Nat → Nat → Int32} {kd : Nat} (w : WF h) (ha : AOK a) (hc : CAt f 1 a) (hG : GOK f (aB a)) (hK : SC f) (hkd : kd < 3) :
    ∃ g k, f_S_findWays 47 1 (nI kd) (hS h f) = rR k (hS h g) ∧ rowW k 3620 ∧ (∀ r, r < wds (aB a) → g (k + 1) (fn (aB a) + r) = vI (wyO a kd r)) ∧ SC g ∧ Off f g sRows ∧ ∀ j, j ≠ 4 → j ≠ 5 → j ≠ 6 → g 47 j = f 47 j := by
  obtain ⟨k1, k2, k3⟩ := hK
  rw [e_S_findWays]
  rcases (show kd = 0 ∨ kd = 1 ∨ kd = 2 by omega) with rfl | rfl | rfl
  · obtain ⟨g, e1, e2, e3, e4, e5⟩ := s_findFewest w ha hc hG k1
    refine ⟨g, 48, ?_, RW48, fun r hr => ?_, ⟨e3, CstC_of k2 (e5 5 (by omega)) (e4 51 (by simp)), CstC_of k3 (e5 6 (by omega)) (e4 53 (by simp))⟩, Off.mono e4 (by simp [sRows]), fun j h4 _ _ => e5 j h4⟩
    · rw [if_pos (by decide)]
      simp only [kO_S, kO_W w K47, if_true, e1, cV_v, oo_v, hR_S, hR_W w K47 (by omega) (show R0 47 1 = some 48 from rfl)]
    · obtain ⟨v, q1, q2⟩ := e2 r hr
      rw [q1, lv_of q2]
      rfl
  · obtain ⟨g, e1, e2, e3, e4, e5⟩ := s_settleCosts w ha hc hG k2
    refine ⟨g, 50, ?_, RW50, fun r hr => ?_, ⟨FewC_of k1 (e5 4 (by omega)) (e4 49 (by simp)), e3, CstC_of k3 (e5 6 (by omega)) (e4 53 (by simp))⟩, Off.mono e4 (by simp [sRows]), fun j _ h5 _ => e5 j h5⟩
    · rw [if_neg (by decide), if_pos (by decide)]
      simp only [kO_S, kO_W w K47, if_true, e1, cV_v, oo_v, hR_S, hR_W w K47 (by omega) (show R0 47 2 = some 50 from rfl)]
    · obtain ⟨v, q1, q2⟩ := e2 r hr
      rw [q1, lv_of q2]
      rfl
  · obtain ⟨g, e1, e2, e3, e4, e5⟩ := s_lowerCosts w ha hc hG k3
    refine ⟨g, 52, ?_, RW52, fun r hr => ?_, ⟨FewC_of k1 (e5 4 (by omega)) (e4 49 (by simp)), CstC_of k2 (e5 5 (by omega)) (e4 51 (by simp)), e3⟩, Off.mono e4 (by simp [sRows]), fun j _ _ h6 => e5 j h6⟩
    · rw [if_neg (by decide), if_neg (by decide)]
      simp only [kO_S, kO_W w K47, if_true, e1, cV_v, oo_v, hR_S, hR_W w K47 (by omega) (show R0 47 3 = some 52 from rfl)]
    · obtain ⟨v, q1, q2⟩ := e2 r hr
      rw [q1, lv_of q2]
      rfl
theorem s_wayFrom {a : AS} {f : Nat → Nat → Int32} {kd r : Nat} (w : WF h) (ha : AOK a) (hc : CAt f 1 a) (hG : GOK f (aB a)) (hK : SC f) (hkd : kd < 3) (hr : r < wds (aB a)) :
    ∃ g, f_S_wayFrom 47 1 (nI r) (nI kd) (hS h f) = rI (vI (wyO a kd r)) (hS h g) ∧ SC g ∧ Off f g sRows ∧ ∀ j, j ≠ 4 → j ≠ 5 → j ≠ 6 → g 47 j = f 47 j := by
  have hb := ha.2.1
  have hle := fn_le hb
  obtain ⟨g, k, e1, e2, e3, e4⟩ := s_findWays w ha hc hG hK hkd
  have hc' := CAt_off hc e4.2.1 (by simp [sRows]) (by simp [sRows]) (by simp [sRows])
  refine ⟨g, ?_, e4⟩
  rw [e_S_wayFrom]
  simp only [kO_S, kO_W w K47, if_true, e1, cR_v, oo_v, hI_W (WF_S w) K1, hS_2, hc'.2.1, s_firstNode (show aB a < 7 by omega), cI_v, kO_W w e2.1, i_add, s_get (WF_S w) e2 (show fn (aB a) + r < 3620 by omega), e3 r hr]
end Ways
end
section
/-! what is told of all words of a shelf: how many can be put in order, the sum of moves, the greatest way, the worst word -/
def mxs (v : Nat → Option Nat) : Nat → Nat
  | 0 => 0
  | n + 1 => mxN (mxs v n) (v n)
def wst (v : Nat → Option Nat) : Nat → Option Nat × Nat
  | 0 => (none, 0)
  | n + 1 => match v n, (wst v n).1 with
    | none, _ => wst v n
    | some u, none => (some u, n)
    | some u, some t => if u ≤ t then wst v n else (some u, n)
theorem mxs_lt {v : Nat → Option Nat} {B : Nat} : ∀ n, (∀ r u, r < n → v r = some u → u ≤ B) → mxs v n ≤ B
  | 0, _ => Nat.zero_le _
  | n + 1, h => by
    have ih := mxs_lt n (fun r u hr hu => h r u (by omega) hu)
    show mxN (mxs v n) (v n) ≤ B
    cases hv : v n with
    | none => exact ih
    | some u => exact Nat.max_le.2 ⟨ih, h n u (by omega) hv⟩
theorem smv_lt {v : Nat → Option Nat} {B : Nat} : ∀ n, (∀ r u, r < n → v r = some u → u ≤ B) → sm (fun r => (v r).getD 0) n ≤ B * n
  | 0, _ => Nat.zero_le _
  | n + 1, h => by
    have ih := smv_lt n (fun r u hr hu => h r u (by omega) hu)
    show sm (fun r => (v r).getD 0) n + (v n).getD 0 ≤ B * (n + 1)
    have h2 : (v n).getD 0 ≤ B := by
      cases hv : v n with
      | none => exact Nat.zero_le _
      | some u => exact h n u (by omega) hv
    rw [Nat.mul_succ]
    omega
theorem wst_lt {v : Nat → Option Nat} {B : Nat} : ∀ n, (∀ r u, r < n → v r = some u → u ≤ B) → ∀ t, (wst v n).1 = some t → t ≤ B
  | 0, _, _, e => nomatch e
  | n + 1, h, t, e => by
    have ih := wst_lt n (fun r u hr hu => h r u (by omega) hu)
    simp only [wst] at e
    cases hv : v n with
    | none =>
      rw [hv] at e
      exact ih t e
    | some u =>
      have hu := h n u (by omega) hv
      rw [hv] at e
      cases hw : (wst v n).1 with
      | none =>
        rw [hw] at e
        cases e
        exact hu
      | some t' =>
        rw [hw] at e
        dsimp only at e
        split at e
        · exact ih t e
        · cases e
          exact hu
section Looks
variable {h : pH} {b k : Nat} {v : Nat → Option Nat} {g : Nat → Nat → Int32}
theorem s_savL (w : WF h) (hb : b < 6) (hB : g 1 1 = nI b) (hk : rowW k 3620) (hD : ∀ r, r < wds b → g (k + 1) (fn b + r) = vI (v r)) (hv : ∀ r u, r < wds b → v r = some u → u < 1000000) : ∀ (j r : Nat), r + j = wds b →
    f_S_savableWords_21 1 k (nI (fn b)) (nI (cnt (fun r => (v r).isSome) r)) (nI r) (hS h g) = rI (nI (cnt (fun r => (v r).isSome) (wds b))) (hS h g)
  | 0, r, hr => by
    have hw := wds_lt hb
    obtain rfl : r = wds b := by omega
    rw [e_S_savableWords_21]
    simp only [hI_W (WF_S w) K1, oo_v, hS_2, hB, s_wordsOf hb, cI_v]
    rw [if_pos (by rw [i_le (by omega) (by omega)]; exact Nat.le_refl _)]
  | j + 1, r, hr => by
    have hw := wds_lt hb
    have hle := fn_le hb
    have ih := s_savL w hb hB hk hD hv j (r + 1) (by omega)
    rw [e_S_savableWords_21]
    simp only [hI_W (WF_S w) K1, oo_v, hS_2, hB, s_wordsOf hb, cI_v]
    rw [if_neg (by rw [i_le (by omega) (by omega)]; omega)]
    simp only [kO_S, kO_W w hk.1, if_true, i_add, s_get (WF_S w) hk (show fn b + r < 3620 by omega), cI_v, hS_2, hD r (show r < wds b by omega), L1]
    have hc : cnt (fun r => (v r).isSome) (r + 1) = cnt (fun r => (v r).isSome) r + ((v r).isSome).toNat := rfl
    rw [hc] at ih
    cases hd : v r with
    | none =>
      rw [hd] at ih
      rw [if_pos (by rfl)]
      exact ih
    | some u =>
      have := hv r u (by omega) hd
      rw [hd] at ih
      rw [if_neg (by rw [show -nI 1 = (-1 : Int32) from rfl, vI_m1 (fun w' e => by cases e; omega)]; simp)]
      exact ih
theorem s_sumWL (w : WF h) (hb : b < 6) (hB : g 1 1 = nI b) (hk : rowW k 3620) (hD : ∀ r, r < wds b → g (k + 1) (fn b + r) = vI (v r)) (hv : ∀ r u, r < wds b → v r = some u → u < 1000000) : ∀ (j r : Nat), r + j = wds b →
    f_S_sumOfWays_21 1 k (nI (fn b)) (nI (sm (fun r => (v r).getD 0) r)) (nI r) (hS h g) = rI (nI (sm (fun r => (v r).getD 0) (wds b))) (hS h g)
  | 0, r, hr => by
    have hw := wds_lt hb
    obtain rfl : r = wds b := by omega
    rw [e_S_sumOfWays_21]
    simp only [hI_W (WF_S w) K1, oo_v, hS_2, hB, s_wordsOf hb, cI_v]
    rw [if_pos (by rw [i_le (by omega) (by omega)]; exact Nat.le_refl _)]
  | j + 1, r, hr => by
    have hw := wds_lt hb
    have hle := fn_le hb
    have ih := s_sumWL w hb hB hk hD hv j (r + 1) (by omega)
    rw [e_S_sumOfWays_21]
    simp only [hI_W (WF_S w) K1, oo_v, hS_2, hB, s_wordsOf hb, cI_v]
    rw [if_neg (by rw [i_le (by omega) (by omega)]; omega)]
    simp only [kO_S, kO_W w hk.1, if_true, i_add, s_get (WF_S w) hk (show fn b + r < 3620 by omega), cI_v, hS_2, hD r (show r < wds b by omega), L1]
    have hm : imax (vI (v r)) 0 = nI ((v r).getD 0) := by
      cases hd : v r with
      | none => decide
      | some u =>
        have := hv r u (by omega) hd
        show imax (nI u) 0 = nI u
        rw [L0, imax_n (by omega) (by omega), Nat.max_eq_left (Nat.zero_le _)]
    rw [hm, i_add]
    exact ih
theorem s_grtL (w : WF h) (hb : b < 6) (hB : g 1 1 = nI b) (hk : rowW k 3620) (hD : ∀ r, r < wds b → g (k + 1) (fn b + r) = vI (v r)) (hv : ∀ r u, r < wds b → v r = some u → u ≤ 1000000) : ∀ (j r : Nat), r + j = wds b →
    f_S_greatestWay_22 1 k (nI (fn b)) (nI (mxs v r)) (nI r) (hS h g) = rI (nI (mxs v (wds b))) (hS h g)
  | 0, r, hr => by
    have hw := wds_lt hb
    obtain rfl : r = wds b := by omega
    rw [e_S_greatestWay_22]
    simp only [hI_W (WF_S w) K1, oo_v, hS_2, hB, s_wordsOf hb, cI_v]
    rw [if_pos (by rw [i_le (by omega) (by omega)]; exact Nat.le_refl _)]
  | j + 1, r, hr => by
    have hw := wds_lt hb
    have hle := fn_le hb
    have hmx := mxs_lt r (fun r' u hr' hu => hv r' u (by omega) hu)
    have ih := s_grtL w hb hB hk hD hv j (r + 1) (by omega)
    rw [e_S_greatestWay_22]
    simp only [hI_W (WF_S w) K1, oo_v, hS_2, hB, s_wordsOf hb, cI_v]
    rw [if_neg (by rw [i_le (by omega) (by omega)]; omega)]
    simp only [kO_S, kO_W w hk.1, if_true, i_add, s_get (WF_S w) hk (show fn b + r < 3620 by omega), cI_v, hS_2, hD r (show r < wds b by omega), L1]
    rw [imax_v2 (by omega) (fun t e => by have := hv r t (by omega) e; omega)]
    exact ih
theorem s_wstL (w : WF h) (hb : b < 6) (hB : g 1 1 = nI b) (hk : rowW k 3620) (hD : ∀ r, r < wds b → g (k + 1) (fn b + r) = vI (v r)) (hv : ∀ r u, r < wds b → v r = some u → u ≤ 1000000) : ∀ (j r : Nat), r + j = wds b →
    f_S_worstRank_24 1 k (nI (fn b)) (vI (wst v r).1) (nI (wst v r).2) (nI r) (hS h g) = rI (nI (wst v (wds b)).2) (hS h g)
  | 0, r, hr => by
    have hw := wds_lt hb
    obtain rfl : r = wds b := by omega
    rw [e_S_worstRank_24]
    simp only [hI_W (WF_S w) K1, oo_v, hS_2, hB, s_wordsOf hb, cI_v]
    rw [if_pos (by rw [i_le (by omega) (by omega)]; exact Nat.le_refl _)]
  | j + 1, r, hr => by
    have hw := wds_lt hb
    have hle := fn_le hb
    have ih := s_wstL w hb hB hk hD hv j (r + 1) (by omega)
    have hwl := wst_lt r (fun r' u hr' hu => hv r' u (by omega) hu)
    rw [e_S_worstRank_24]
    simp only [hI_W (WF_S w) K1, oo_v, hS_2, hB, s_wordsOf hb, cI_v]
    rw [if_neg (by rw [i_le (by omega) (by omega)]; omega)]
    simp only [kO_S, kO_W w hk.1, if_true, i_add, s_get (WF_S w) hk (show fn b + r < 3620 by omega), cI_v, hS_2, hD r (show r < wds b by omega), L1]
    have hneg : ∀ u, u ≤ 1000000 → ¬ nI u ≤ (-1 : Int32) := fun u hu => by
      rw [Int32.le_iff_toInt_le, i_toInt (by omega)]
      have : (-1 : Int32).toInt = -1 := by decide
      omega
    cases hd : v r with
    | none =>
      have e : wst v (r + 1) = wst v r := by simp only [wst, hd]
      rw [e] at ih
      rw [if_pos ?_]
      · exact ih
      · cases hq : (wst v r).1 with
        | none => decide
        | some t =>
          have := hwl t hq
          show (-1 : Int32) ≤ nI t
          rw [Int32.le_iff_toInt_le, i_toInt (by omega)]
          have : (-1 : Int32).toInt = -1 := by decide
          omega
    | some u =>
      have hu := hv r u (by omega) hd
      cases hq : (wst v r).1 with
      | none =>
        have e : wst v (r + 1) = (some u, r) := by simp only [wst, hd, hq]
        rw [e] at ih
        rw [if_neg (show ¬ vI (some u) ≤ vI none from hneg u hu)]
        exact ih
      | some t =>
        have ht := hwl t hq
        by_cases hut : u ≤ t
        · have e : wst v (r + 1) = wst v r := by simp only [wst, hd, hq, if_pos hut]
          rw [e, hq] at ih
          rw [if_pos (show vI (some u) ≤ vI (some t) by show nI u ≤ nI t; rw [i_le (by omega) (by omega)]; exact hut)]
          exact ih
        · have e : wst v (r + 1) = (some u, r) := by simp only [wst, hd, hq, if_neg hut]
          rw [e] at ih
          rw [if_neg (show ¬ vI (some u) ≤ vI (some t) by show ¬ nI u ≤ nI t; rw [i_le (by omega) (by omega)]; exact hut)]
          exact ih
end Looks
section Looksb
variable {h : pH}
theorem s_savableWords {a : AS} {f : Nat → Nat → Int32} (w : WF h) (ha : AOK a) (hc : CAt f 1 a) (hG : GOK f (aB a)) (hK : SC f) :
    ∃ g, f_S_savableWords 47 1 (hS h f) = rI (nI (cnt (fun r => (wyO a 0 r).isSome) (wds (aB a)))) (hS h g) ∧ SC g ∧ Off f g sRows ∧ ∀ j, j ≠ 4 → j ≠ 5 → j ≠ 6 → g 47 j = f 47 j := by
  have hb := ha.2.1
  obtain ⟨g, k, e1, e2, e3, e4⟩ := s_findWays w ha hc hG hK (show 0 < 3 by omega)
  have hc' := CAt_off hc e4.2.1 (by simp [sRows]) (by simp [sRows]) (by simp [sRows])
  refine ⟨g, ?_, e4⟩
  rw [e_S_savableWords]
  rw [show (nI 0 : Int32) = 0 from rfl] at e1
  simp only [kO_S, kO_W w K47, if_true, e1, cR_v, oo_v, hI_W (WF_S w) K1, hS_2, hc'.2.1, s_firstNode (show aB a < 7 by omega), cI_v]
  exact s_savL w hb hc'.2.1 e2 e3 (fun r u hr hu => by have := wyO_lt ha hr hu; omega) (wds (aB a)) 0 (by omega)
theorem s_sumOfWays {a : AS} {f : Nat → Nat → Int32} (w : WF h) (ha : AOK a) (hc : CAt f 1 a) (hG : GOK f (aB a)) (hK : SC f) :
    ∃ g, f_S_sumOfWays 47 1 (hS h f) = rI (nI (sm (fun r => (wyO a 0 r).getD 0) (wds (aB a)))) (hS h g) ∧ SC g ∧ Off f g sRows ∧ ∀ j, j ≠ 4 → j ≠ 5 → j ≠ 6 → g 47 j = f 47 j := by
  have hb := ha.2.1
  obtain ⟨g, k, e1, e2, e3, e4⟩ := s_findWays w ha hc hG hK (show 0 < 3 by omega)
  have hc' := CAt_off hc e4.2.1 (by simp [sRows]) (by simp [sRows]) (by simp [sRows])
  refine ⟨g, ?_, e4⟩
  rw [e_S_sumOfWays]
  rw [show (nI 0 : Int32) = 0 from rfl] at e1
  simp only [kO_S, kO_W w K47, if_true, e1, cR_v, oo_v, hI_W (WF_S w) K1, hS_2, hc'.2.1, s_firstNode (show aB a < 7 by omega), cI_v]
  exact s_sumWL w hb hc'.2.1 e2 e3 (fun r u hr hu => by have := wyO_lt ha hr hu; omega) (wds (aB a)) 0 (by omega)
theorem s_greatestWay {a : AS} {f : Nat → Nat → Int32} {kd : Nat} (w : WF h) (ha : AOK a) (hc : CAt f 1 a) (hG : GOK f (aB a)) (hK : SC f) (hkd : kd < 3) :
    ∃ g, f_S_greatestWay 47 1 (nI kd) (hS h f) = rI (nI (mxs (wyO a kd) (wds (aB a)))) (hS h g) ∧ SC g ∧ Off f g sRows ∧ ∀ j, j ≠ 4 → j ≠ 5 → j ≠ 6 → g 47 j = f 47 j := by
  have hb := ha.2.1
  obtain ⟨g, k, e1, e2, e3, e4⟩ := s_findWays w ha hc hG hK hkd
  have hc' := CAt_off hc e4.2.1 (by simp [sRows]) (by simp [sRows]) (by simp [sRows])
  refine ⟨g, ?_, e4⟩
  rw [e_S_greatestWay]
  simp only [kO_S, kO_W w K47, if_true, e1, cR_v, oo_v, hI_W (WF_S w) K1, hS_2, hc'.2.1, s_firstNode (show aB a < 7 by omega), cI_v]
  exact s_grtL w hb hc'.2.1 e2 e3 (fun r u hr hu => by have := wyO_lt ha hr hu; omega) (wds (aB a)) 0 (by omega)
theorem s_worstRank {a : AS} {f : Nat → Nat → Int32} (w : WF h) (ha : AOK a) (hc : CAt f 1 a) (hG : GOK f (aB a)) (hK : SC f) :
    ∃ g, f_S_worstRank 47 1 (hS h f) = rI (nI (wst (wyO a 0) (wds (aB a))).2) (hS h g) ∧ SC g ∧ Off f g sRows ∧ ∀ j, j ≠ 4 → j ≠ 5 → j ≠ 6 → g 47 j = f 47 j := by
  have hb := ha.2.1
  obtain ⟨g, k, e1, e2, e3, e4⟩ := s_findWays w ha hc hG hK (show 0 < 3 by omega)
  have hc' := CAt_off hc e4.2.1 (by simp [sRows]) (by simp [sRows]) (by simp [sRows])
  refine ⟨g, ?_, e4⟩
  rw [e_S_worstRank]
  rw [show (nI 0 : Int32) = 0 from rfl] at e1
  simp only [kO_S, kO_W w K47, if_true, e1, cR_v, oo_v, hI_W (WF_S w) K1, hS_2, hc'.2.1, s_firstNode (show aB a < 7 by omega), cI_v]
  exact s_wstL w hb hc'.2.1 e2 e3 (fun r u hr hu => by have := wyO_lt ha hr hu; omega) (wds (aB a)) 0 (by omega)
end Looksb
end
section
/-! the first move that leads on along a way -/
def nxB (b S : Nat) (v : Nat → Option Nat) (p : Nat → Nat → Nat) (r m : Nat) : Bool := match ED b S r m with
  | none => false
  | some r' => match v r' with
    | none => false
    | some u => decide (v r = some (p r m + u))
def nxL (b S : Nat) (v : Nat → Option Nat) (p : Nat → Nat → Nat) (r : Nat) : Nat → Nat → Option Nat
  | 0, _ => none
  | k + 1, m => if nxB b S v p r m = true then some m else nxL b S v p r k (m + 1)
section Next
variable {h : pH}
theorem s_behind {b r m : Nat} {g : Nat → Nat → Int32} (w : WF h) (hb : b < 6) (hG : GOK g b) (hr : r < wds b) (hm : m < 19) : f_G_behind 36 (nI (fn b + r)) (nI m) (hS h g) = rI (match T b (19 * r + m) with
    | some r => nI (fn b + r)
    | none => -1) (hS h g) := by
  have hle := fn_le hb
  rw [e_G_behind, L19, i_mul, i_add, show (fn b + r) * 19 + m = fn b * 19 + (19 * r + m) by omega]
  simp only [oo_v, hR_S, hR_W w K36 (by omega) (show R0 36 1 = some 39 from rfl), kO_S, kO_W w RW39.1, if_true, s_get (WF_S w) RW39 (show fn b * 19 + (19 * r + m) < 68780 by omega), cI_v, hS_2]
  rw [show g (39 + 1) (fn b * 19 + (19 * r + m)) = _ from hG.2.1 (19 * r + m) (by omega)]
  cases T b (19 * r + m) <;> rfl
theorem s_nextMove_3 {a : AS} {k2 kd r : Nat} {g : Nat → Nat → Int32} {v : Nat → Option Nat} (w : WF h) (ha : AOK a) (hc : CAt g 1 a) (hG : GOK g (aB a)) (hk : rowW k2 3620) (hkd : kd < 3) (hr : r < wds (aB a)) (hD : ∀ r, r < wds (aB a) → g (k2 + 1) (fn (aB a) + r) = vI (v r)) (hv : ∀ r u, r < wds (aB a) → v r = some u → u ≤ 1000000) : ∀ (k m : Nat), m + k = 19 →
    f_S_nextMove_3 47 1 k2 (nI kd) (nI (fn (aB a) + r)) (nI m) (hS h g) = rI (vI (nxL (aB a) (aS a) v (if kd = 0 then fun _ _ => 1 else pr (aB a) (aO a)) r k m)) (hS h g)
  | 0, m, hm => by
    rw [e_S_nextMove_3, L19, if_pos (by rw [i_le (by omega) (by omega)]; omega)]
    rfl
  | k + 1, m, hm => by
    have hb := ha.2.1
    have hle := fn_le hb
    have hSl : aS a < 64 := ha.2.2.1
    have hm19 : m < 19 := by omega
    have ho9 : ∀ s, 1 ≤ s → s ≤ aB a → 1 ≤ aO a s ∧ aO a s ≤ 9 := fun s s1 s2 => (ha.2.2.2.2.2.2.1 s s1 s2).2
    have ih := s_nextMove_3 w ha hc hG hk hkd hr hD hv k (m + 1) (by omega)
    have g38 := hG.1 r hr
    rw [e_S_nextMove_3, if_neg (by rw [L19, i_le (by omega) (by omega)]; omega)]
    simp only [oo_v, hR_S, hR_W w K47 (by omega) (show R0 47 0 = some 36 from rfl), kO_S, kO_W w K36, if_true, s_behind w hb hG hr hm19, cI_v, L1, i_add]
    unfold nxL
    cases hT : T (aB a) (19 * r + m) with
    | none =>
      have hE : nxB (aB a) (aS a) v (if kd = 0 then fun _ _ => 1 else pr (aB a) (aO a)) r m = false := by
        unfold nxB
        cases hE : ED (aB a) (aS a) r m with
        | none => rfl
        | some r' =>
          have := ((ED_T hm19).1 hE).1
          rw [hT] at this
          cases this
      rw [hE]
      dsimp only
      rw [if_pos (by rfl), if_neg (by decide)]
      exact ih
    | some r' =>
      have hr' := T_lt hb (show 19 * r + m < 19 * wds (aB a) by omega) hT
      dsimp only
      rw [if_neg (by rw [show -nI 1 = (-1 : Int32) from rfl]; intro q; have h1 := i_nneg (show fn (aB a) + r' < 2147483648 by omega); rw [q] at h1; exact absurd (by decide) h1)]
      simp only [kO_S, kO_W w hk.1, if_true, s_get (WF_S w) hk (show fn (aB a) + r' < 3620 by omega), cI_v, hS_2, hD r' hr']
      cases hd : v r' with
      | none =>
        have hE : nxB (aB a) (aS a) v (if kd = 0 then fun _ _ => 1 else pr (aB a) (aO a)) r m = false := by
          unfold nxB
          cases hE : ED (aB a) (aS a) r m with
          | none => rfl
          | some r2 =>
            have := ((ED_T hm19).1 hE).1
            rw [hT] at this
            cases this
            simp only [hd]
        rw [hE, if_pos (by rfl), if_neg (by decide)]
        exact ih
      | some u =>
        have hu := hv r' u hr' hd
        rw [if_neg (by rw [show -nI 1 = (-1 : Int32) from rfl, vI_m1 (fun w' e => by cases e; omega)]; simp)]
        simp only [oo_v, hR_S, hR_W w K47 (by omega) (show R0 47 0 = some 36 from rfl), kO_S, kO_W w K36, if_true, hI_W (WF_S w) K1, hS_2, hc.2.2.2.2.1, s_isHeld w hb hr hm19 (show aS a < 2147483648 by omega) g38, cI_v]
        cases hh : hld (wd (aB a) r) (aS a) m with
        | true =>
          have hE : nxB (aB a) (aS a) v (if kd = 0 then fun _ _ => 1 else pr (aB a) (aO a)) r m = false := by
            unfold nxB
            cases hE : ED (aB a) (aS a) r m with
            | none => rfl
            | some r2 =>
              have := ((ED_T hm19).1 hE).2
              rw [hh] at this
              cases this
          rw [hE, if_neg (by decide), if_neg (by decide)]
          exact ih
        | false =>
          have hE0 := (ED_T hm19).2 ⟨hT, hh⟩
          have hrs := ED_rsn hE0
          have hpb := prc_bd (wd_VW hb hr) ho9 hm19 hrs
          have h86 : ∀ t, t ≤ 9 → (if kd = 0 then fun _ _ => 1 else pr (aB a) (aO a)) r m = t → f_S_nextMove_86 47 1 k2 (nI kd) (nI (fn (aB a) + r)) (nI m) (nI (fn (aB a) + r')) (nI t) (hS h g) = rI (vI (if nxB (aB a) (aS a) v (if kd = 0 then fun _ _ => 1 else pr (aB a) (aO a)) r m = true then some m else nxL (aB a) (aS a) v (if kd = 0 then fun _ _ => 1 else pr (aB a) (aO a)) r k (m + 1))) (hS h g) := fun t ht hpt => by
            rw [e_S_nextMove_86]
            simp only [kO_S, kO_W w hk.1, if_true, s_get (WF_S w) hk (show fn (aB a) + r' < 3620 by omega), s_get (WF_S w) hk (show fn (aB a) + r < 3620 by omega), cI_v, hS_2, hD r' hr', hD r hr, hd]
            have hn : nxB (aB a) (aS a) v (if kd = 0 then fun _ _ => 1 else pr (aB a) (aO a)) r m = decide (v r = some (t + u)) := by
              unfold nxB
              rw [hE0]
              simp only [hd, hpt]
            rw [hn, show nI t + vI (some u) = nI (t + u) from i_add t u]
            by_cases hvr : v r = some (t + u)
            · rw [decide_eq_true hvr, if_pos (by rw [hvr]; rfl), if_pos rfl]
              rfl
            · rw [decide_eq_false hvr, if_neg ?_, if_neg (by decide), L1, i_add]
              · exact ih
              · cases hq : v r with
                | none =>
                  intro q
                  have h1 := i_nneg (show t + u < 2147483648 by omega)
                  rw [show nI (t + u) = (-1 : Int32) from q] at h1
                  exact absurd (by decide) h1
                | some x =>
                  have hx := hv r x hr hq
                  intro q
                  rw [show vI (some x) = nI x from rfl, i_inj (by omega) (by omega)] at q
                  rw [hq, q] at hvr
                  exact hvr rfl
          rw [if_pos (by rfl)]
          by_cases hk0 : kd = 0
          · rw [if_pos (by rw [i_eq0 (by omega)]; exact hk0)]
            exact h86 1 (by omega) (by rw [if_pos hk0])
          · rw [if_neg (by rw [i_eq0 (by omega)]; exact hk0)]
            simp only [oo_v, hR_S, hR_W w K47 (by omega) (show R0 47 0 = some 36 from rfl), hR_W w K36 (by omega) (show R0 36 0 = some 37 from rfl), hR_W w K1 (by omega) (show R0 1 3 = some 4 from rfl), kO_S, kO_W w RW37.1, if_true, s_get (WF_S w) RW37 (show fn (aB a) + r < 3620 by omega), cI_v, hS_2]
            rw [show g (37 + 1) (fn (aB a) + r) = _ from g38, s_price (WF_S w) RW4 hb (wd_VW hb hr) (fun s s1 s2 => ⟨hc.2.2.2.1 s s1 s2, (ho9 s s1 s2).2⟩) hm19 hrs, cI_v]
            exact h86 _ hpb.2 (by rw [if_neg hk0]; rfl)
end Next
end
section
/-! the planned move: so many moves on along a way -/
def plL (b S : Nat) (v : Nat → Option Nat) (p : Nat → Nat → Nat) : Nat → Nat → Option Nat → Option Nat
  | 0, _, l => l
  | k + 1, r, _ => match nxL b S v p r 19 0 with
    | none => none
    | some m => match ED b S r m with
      | none => none
      | some r' => plL b S v p k r' (some m)
theorem nxL_some {b S r m' : Nat} {v : Nat → Option Nat} {p : Nat → Nat → Nat} : ∀ (k m : Nat), m + k = 19 → nxL b S v p r k m = some m' → m' < 19 ∧ ∃ r', ED b S r m' = some r'
  | 0, _, _, e => nomatch e
  | k + 1, m, hm, e => by
    unfold nxL at e
    by_cases hx : nxB b S v p r m = true
    · rw [if_pos hx] at e
      cases e
      refine ⟨by omega, ?_⟩
      unfold nxB at hx
      cases hE : ED b S r m with
      | none => rw [hE] at hx; cases hx
      | some r' => exact ⟨r', rfl⟩
    · rw [if_neg hx] at e
      exact nxL_some k (m + 1) (by omega) e
section Plan
variable {h : pH}
theorem s_planned_36 {a : AS} {k2 kd t : Nat} {g : Nat → Nat → Int32} {v : Nat → Option Nat} (w : WF h) (ha : AOK a) (hc : CAt g 1 a) (hG : GOK g (aB a)) (hk : rowW k2 3620) (hkd : kd < 3) (ht : t < 2147483648) (hD : ∀ r, r < wds (aB a) → g (k2 + 1) (fn (aB a) + r) = vI (v r)) (hv : ∀ r u, r < wds (aB a) → v r = some u → u ≤ 1000000) : ∀ (k i r : Nat) (l : Option Nat), i + k = min (t + 1) 2520 → r < wds (aB a) →
    f_S_plannedMove_36 47 1 (nI kd) (nI t) k2 (nI (fn (aB a) + r)) (vI l) (nI i) (hS h g) = rI (if 2520 ≤ t then -1 else vI (plL (aB a) (aS a) v (if kd = 0 then fun _ _ => 1 else pr (aB a) (aO a)) k r l)) (hS h g)
  | 0, i, r, l, hi, hr => by
    have h89 : f_S_plannedMove_89 (nI t) (vI l) (hS h g) = rI (if 2520 ≤ t then -1 else vI l) (hS h g) := by
      rw [e_S_plannedMove_89, show (2520 : Int32) = nI 2520 from rfl]
      by_cases h25 : 2520 ≤ t
      · rw [if_pos (by rw [i_le (by omega) ht]; exact h25), if_pos h25]
      · rw [if_neg (by rw [i_le (by omega) ht]; exact h25), if_neg h25]
    rw [e_S_plannedMove_36]
    by_cases h1 : t < i
    · rw [if_pos (by rw [i_lt ht (by omega)]; exact h1)]
      exact h89
    · rw [if_neg (by rw [i_lt ht (by omega)]; exact h1), if_pos (by rw [show (2520 : Int32) = nI 2520 from rfl, i_le (by omega) (by omega)]; omega)]
      exact h89
  | k + 1, i, r, l, hi, hr => by
    have hb := ha.2.1
    have hn := s_nextMove_3 w ha hc hG hk hkd hr hD hv 19 0 (by omega)
    rw [e_S_plannedMove_36, if_neg (by rw [i_lt ht (by omega)]; omega), if_neg (by rw [show (2520 : Int32) = nI 2520 from rfl, i_le (by omega) (by omega)]; omega)]
    simp only [kO_S, kO_W w K47, if_true]
    rw [e_S_nextMove, show (0 : Int32) = nI 0 from rfl, hn, cI_v]
    unfold plL
    cases hx : nxL (aB a) (aS a) v (if kd = 0 then fun _ _ => 1 else pr (aB a) (aO a)) r 19 0 with
    | none =>
      rw [if_pos (by rfl)]
      by_cases h25 : 2520 ≤ t
      · rw [if_pos h25]
      · rw [if_neg h25]; rfl
    | some m =>
      obtain ⟨hm, r', hE⟩ := nxL_some 19 0 (by omega) hx
      have hr' := ED_lt hb r m r' hr hm hE
      have hT := ((ED_T hm).1 hE).1
      have ih := s_planned_36 w ha hc hG hk hkd ht hD hv k (i + 1) r' (some m) (by omega) hr'
      rw [if_neg (by rw [vI_m1 (fun w' e => by cases e; omega)]; simp)]
      simp only [oo_v, hR_S, hR_W w K47 (by omega) (show R0 47 0 = some 36 from rfl), kO_S, kO_W w K36, if_true, show vI (some m) = nI m from rfl, s_behind w hb hG hr hm, cI_v, L1, i_add, hT, hE]
      exact ih
end Plan
end
