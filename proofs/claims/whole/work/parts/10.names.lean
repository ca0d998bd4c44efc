-- ===== PART A: goes FIRST, ahead of the names: the tables' words, and 'selects' of the private methods out of them =====
/-- a private method of a class that the tables say can be made, by its rows of tables_1 -/
def lw_okq (q : MethodName × Nat) : Prop := (q.1.cls ≠ "java/lang/invoke/MethodHandle" ∧ q.1.cls ≠ "java/lang/invoke/VarHandle") ∧ Cond.instantiable q.1.cls q.2 ∈ tables_1 ∧ Cond.privateMethod q.1 ∈ tables_1 ∧ Cond.instanceMethod q.1 ∈ tables_1
theorem lw_p0 : lw_okq (⟨"OneClock$Reader", "startAnew", "()V"⟩, 9) := ⟨⟨by decide +kernel, by decide +kernel⟩, List.mem_of_getElem? (i := 156) (by decide +kernel), List.mem_of_getElem? (i := 430) (by decide +kernel), List.mem_of_getElem? (i := 431) (by decide +kernel)⟩
theorem lw_p1 : lw_okq (⟨"OneClock$Tape", "skipBlanks", "(I)I"⟩, 6) := ⟨⟨by decide +kernel, by decide +kernel⟩, List.mem_of_getElem? (i := 28) (by decide +kernel), List.mem_of_getElem? (i := 439) (by decide +kernel), List.mem_of_getElem? (i := 440) (by decide +kernel)⟩
theorem lw_p2 : lw_okq (⟨"OneClock$Tape", "isBlank", "(I)Z"⟩, 6) := ⟨⟨by decide +kernel, by decide +kernel⟩, List.mem_of_getElem? (i := 28) (by decide +kernel), List.mem_of_getElem? (i := 443) (by decide +kernel), List.mem_of_getElem? (i := 444) (by decide +kernel)⟩
theorem lw_p3 : lw_okq (⟨"OneClock$Tape", "endOfThing", "(I)I"⟩, 6) := ⟨⟨by decide +kernel, by decide +kernel⟩, List.mem_of_getElem? (i := 28) (by decide +kernel), List.mem_of_getElem? (i := 447) (by decide +kernel), List.mem_of_getElem? (i := 448) (by decide +kernel)⟩
theorem lw_p4 : lw_okq (⟨"OneClock$Tape", "isLetter", "(I)Z"⟩, 6) := ⟨⟨by decide +kernel, by decide +kernel⟩, List.mem_of_getElem? (i := 28) (by decide +kernel), List.mem_of_getElem? (i := 451) (by decide +kernel), List.mem_of_getElem? (i := 452) (by decide +kernel)⟩
theorem lw_p5 : lw_okq (⟨"OneClock$Tape", "isDigit", "(I)Z"⟩, 6) := ⟨⟨by decide +kernel, by decide +kernel⟩, List.mem_of_getElem? (i := 28) (by decide +kernel), List.mem_of_getElem? (i := 455) (by decide +kernel), List.mem_of_getElem? (i := 456) (by decide +kernel)⟩
theorem lw_p6 : lw_okq (⟨"OneClock$Tape", "kindOfThing", "(II)I"⟩, 6) := ⟨⟨by decide +kernel, by decide +kernel⟩, List.mem_of_getElem? (i := 28) (by decide +kernel), List.mem_of_getElem? (i := 462) (by decide +kernel), List.mem_of_getElem? (i := 463) (by decide +kernel)⟩
theorem lw_p7 : lw_okq (⟨"OneClock$Tape", "isSign", "(I)Z"⟩, 6) := ⟨⟨by decide +kernel, by decide +kernel⟩, List.mem_of_getElem? (i := 28) (by decide +kernel), List.mem_of_getElem? (i := 466) (by decide +kernel), List.mem_of_getElem? (i := 467) (by decide +kernel)⟩
theorem lw_p8 : lw_okq (⟨"OneClock$Tape", "isWord", "(III)Z"⟩, 6) := ⟨⟨by decide +kernel, by decide +kernel⟩, List.mem_of_getElem? (i := 28) (by decide +kernel), List.mem_of_getElem? (i := 470) (by decide +kernel), List.mem_of_getElem? (i := 471) (by decide +kernel)⟩
theorem lw_p9 : lw_okq (⟨"OneClock$Tape", "valueOfDigits", "(II)I"⟩, 6) := ⟨⟨by decide +kernel, by decide +kernel⟩, List.mem_of_getElem? (i := 28) (by decide +kernel), List.mem_of_getElem? (i := 515) (by decide +kernel), List.mem_of_getElem? (i := 516) (by decide +kernel)⟩
theorem lw_p10 : lw_okq (⟨"OneClock$Reader", "readBoard", "()V"⟩, 9) := ⟨⟨by decide +kernel, by decide +kernel⟩, List.mem_of_getElem? (i := 156) (by decide +kernel), List.mem_of_getElem? (i := 519) (by decide +kernel), List.mem_of_getElem? (i := 520) (by decide +kernel)⟩
theorem lw_p11 : lw_okq (⟨"OneClock$Reader", "fail", "(I)V"⟩, 9) := ⟨⟨by decide +kernel, by decide +kernel⟩, List.mem_of_getElem? (i := 156) (by decide +kernel), List.mem_of_getElem? (i := 523) (by decide +kernel), List.mem_of_getElem? (i := 524) (by decide +kernel)⟩
theorem lw_p12 : lw_okq (⟨"OneClock$Reader", "pass", "(I)Z"⟩, 9) := ⟨⟨by decide +kernel, by decide +kernel⟩, List.mem_of_getElem? (i := 156) (by decide +kernel), List.mem_of_getElem? (i := 527) (by decide +kernel), List.mem_of_getElem? (i := 528) (by decide +kernel)⟩
theorem lw_p13 : lw_okq (⟨"OneClock$Reader", "findName", "()I"⟩, 9) := ⟨⟨by decide +kernel, by decide +kernel⟩, List.mem_of_getElem? (i := 156) (by decide +kernel), List.mem_of_getElem? (i := 531) (by decide +kernel), List.mem_of_getElem? (i := 532) (by decide +kernel)⟩
theorem lw_p14 : lw_okq (⟨"OneClock$Reader", "noteSlip", "(II)V"⟩, 9) := ⟨⟨by decide +kernel, by decide +kernel⟩, List.mem_of_getElem? (i := 156) (by decide +kernel), List.mem_of_getElem? (i := 539) (by decide +kernel), List.mem_of_getElem? (i := 540) (by decide +kernel)⟩
theorem lw_p15 : lw_okq (⟨"OneClock$Reader", "readInt", "(II)I"⟩, 9) := ⟨⟨by decide +kernel, by decide +kernel⟩, List.mem_of_getElem? (i := 156) (by decide +kernel), List.mem_of_getElem? (i := 543) (by decide +kernel), List.mem_of_getElem? (i := 544) (by decide +kernel)⟩
def lw_privs_1 : List (MethodName × Nat) := [(⟨"OneClock$Reader", "startAnew", "()V"⟩, 9), (⟨"OneClock$Tape", "skipBlanks", "(I)I"⟩, 6), (⟨"OneClock$Tape", "isBlank", "(I)Z"⟩, 6), (⟨"OneClock$Tape", "endOfThing", "(I)I"⟩, 6), (⟨"OneClock$Tape", "isLetter", "(I)Z"⟩, 6), (⟨"OneClock$Tape", "isDigit", "(I)Z"⟩, 6), (⟨"OneClock$Tape", "kindOfThing", "(II)I"⟩, 6), (⟨"OneClock$Tape", "isSign", "(I)Z"⟩, 6), (⟨"OneClock$Tape", "isWord", "(III)Z"⟩, 6), (⟨"OneClock$Tape", "valueOfDigits", "(II)I"⟩, 6), (⟨"OneClock$Reader", "readBoard", "()V"⟩, 9), (⟨"OneClock$Reader", "fail", "(I)V"⟩, 9), (⟨"OneClock$Reader", "pass", "(I)Z"⟩, 9), (⟨"OneClock$Reader", "findName", "()I"⟩, 9), (⟨"OneClock$Reader", "noteSlip", "(II)V"⟩, 9), (⟨"OneClock$Reader", "readInt", "(II)I"⟩, 9)]
theorem lw_r1 : ∀ q ∈ lw_privs_1, lw_okq q := List.forall_mem_cons.mpr ⟨lw_p0, List.forall_mem_cons.mpr ⟨lw_p1, List.forall_mem_cons.mpr ⟨lw_p2, List.forall_mem_cons.mpr ⟨lw_p3, List.forall_mem_cons.mpr ⟨lw_p4, List.forall_mem_cons.mpr ⟨lw_p5, List.forall_mem_cons.mpr ⟨lw_p6, List.forall_mem_cons.mpr ⟨lw_p7, List.forall_mem_cons.mpr ⟨lw_p8, List.forall_mem_cons.mpr ⟨lw_p9, List.forall_mem_cons.mpr ⟨lw_p10, List.forall_mem_cons.mpr ⟨lw_p11, List.forall_mem_cons.mpr ⟨lw_p12, List.forall_mem_cons.mpr ⟨lw_p13, List.forall_mem_cons.mpr ⟨lw_p14, List.forall_mem_cons.mpr ⟨lw_p15, fun _ h => absurd h List.not_mem_nil⟩⟩⟩⟩⟩⟩⟩⟩⟩⟩⟩⟩⟩⟩⟩⟩
theorem lw_p16 : lw_okq (⟨"OneClock$Reader", "readLaw", "(I)V"⟩, 9) := ⟨⟨by decide +kernel, by decide +kernel⟩, List.mem_of_getElem? (i := 156) (by decide +kernel), List.mem_of_getElem? (i := 547) (by decide +kernel), List.mem_of_getElem? (i := 548) (by decide +kernel)⟩
theorem lw_p17 : lw_okq (⟨"OneClock$Reader", "readSum", "(I)V"⟩, 9) := ⟨⟨by decide +kernel, by decide +kernel⟩, List.mem_of_getElem? (i := 156) (by decide +kernel), List.mem_of_getElem? (i := 555) (by decide +kernel), List.mem_of_getElem? (i := 556) (by decide +kernel)⟩
theorem lw_p18 : lw_okq (⟨"OneClock$Reader", "readProduct", "(I)V"⟩, 9) := ⟨⟨by decide +kernel, by decide +kernel⟩, List.mem_of_getElem? (i := 156) (by decide +kernel), List.mem_of_getElem? (i := 559) (by decide +kernel), List.mem_of_getElem? (i := 560) (by decide +kernel)⟩
theorem lw_p19 : lw_okq (⟨"OneClock$Reader", "readUnit", "(I)V"⟩, 9) := ⟨⟨by decide +kernel, by decide +kernel⟩, List.mem_of_getElem? (i := 156) (by decide +kernel), List.mem_of_getElem? (i := 563) (by decide +kernel), List.mem_of_getElem? (i := 564) (by decide +kernel)⟩
theorem lw_p20 : lw_okq (⟨"OneClock$Reader", "readThinks", "()V"⟩, 9) := ⟨⟨by decide +kernel, by decide +kernel⟩, List.mem_of_getElem? (i := 156) (by decide +kernel), List.mem_of_getElem? (i := 575) (by decide +kernel), List.mem_of_getElem? (i := 576) (by decide +kernel)⟩
theorem lw_p21 : lw_okq (⟨"OneClock$Reader", "readNumber", "(III)I"⟩, 9) := ⟨⟨by decide +kernel, by decide +kernel⟩, List.mem_of_getElem? (i := 156) (by decide +kernel), List.mem_of_getElem? (i := 580) (by decide +kernel), List.mem_of_getElem? (i := 581) (by decide +kernel)⟩
theorem lw_p22 : lw_okq (⟨"OneClock", "isBoard", "(I)Z"⟩, 9) := ⟨⟨by decide +kernel, by decide +kernel⟩, List.mem_of_getElem? (i := 20) (by decide +kernel), List.mem_of_getElem? (i := 617) (by decide +kernel), List.mem_of_getElem? (i := 618) (by decide +kernel)⟩
theorem lw_p23 : lw_okq (⟨"OneClock", "isThink", "(I)Z"⟩, 9) := ⟨⟨by decide +kernel, by decide +kernel⟩, List.mem_of_getElem? (i := 20) (by decide +kernel), List.mem_of_getElem? (i := 647) (by decide +kernel), List.mem_of_getElem? (i := 648) (by decide +kernel)⟩
theorem lw_p24 : lw_okq (⟨"OneClock", "canPlay", "(I)Z"⟩, 9) := ⟨⟨by decide +kernel, by decide +kernel⟩, List.mem_of_getElem? (i := 20) (by decide +kernel), List.mem_of_getElem? (i := 651) (by decide +kernel), List.mem_of_getElem? (i := 652) (by decide +kernel)⟩
theorem lw_p25 : lw_okq (⟨"OneClock", "noteWhatStands", "()V"⟩, 9) := ⟨⟨by decide +kernel, by decide +kernel⟩, List.mem_of_getElem? (i := 20) (by decide +kernel), List.mem_of_getElem? (i := 664) (by decide +kernel), List.mem_of_getElem? (i := 665) (by decide +kernel)⟩
theorem lw_p26 : lw_okq (⟨"OneClock$Play", "dropFlag", "(I)V"⟩, 11) := ⟨⟨by decide +kernel, by decide +kernel⟩, List.mem_of_getElem? (i := 191) (by decide +kernel), List.mem_of_getElem? (i := 692) (by decide +kernel), List.mem_of_getElem? (i := 693) (by decide +kernel)⟩
theorem lw_p27 : lw_okq (⟨"OneClock", "isDepth", "(I)Z"⟩, 9) := ⟨⟨by decide +kernel, by decide +kernel⟩, List.mem_of_getElem? (i := 20) (by decide +kernel), List.mem_of_getElem? (i := 763) (by decide +kernel), List.mem_of_getElem? (i := 764) (by decide +kernel)⟩
theorem lw_p28 : lw_okq (⟨"OneClock$Guide", "tryRows", "(I)V"⟩, 18) := ⟨⟨by decide +kernel, by decide +kernel⟩, List.mem_of_getElem? (i := 252) (by decide +kernel), List.mem_of_getElem? (i := 776) (by decide +kernel), List.mem_of_getElem? (i := 777) (by decide +kernel)⟩
theorem lw_p29 : lw_okq (⟨"OneClock$Guide", "keepRow", "(II)V"⟩, 18) := ⟨⟨by decide +kernel, by decide +kernel⟩, List.mem_of_getElem? (i := 252) (by decide +kernel), List.mem_of_getElem? (i := 781) (by decide +kernel), List.mem_of_getElem? (i := 782) (by decide +kernel)⟩
theorem lw_p30 : lw_okq (⟨"OneClock$Guide", "tryMovesAt", "(II)V"⟩, 18) := ⟨⟨by decide +kernel, by decide +kernel⟩, List.mem_of_getElem? (i := 252) (by decide +kernel), List.mem_of_getElem? (i := 788) (by decide +kernel), List.mem_of_getElem? (i := 789) (by decide +kernel)⟩
theorem lw_p31 : lw_okq (⟨"OneClock", "isRule", "(II)Z"⟩, 9) := ⟨⟨by decide +kernel, by decide +kernel⟩, List.mem_of_getElem? (i := 20) (by decide +kernel), List.mem_of_getElem? (i := 807) (by decide +kernel), List.mem_of_getElem? (i := 808) (by decide +kernel)⟩
def lw_privs_2 : List (MethodName × Nat) := [(⟨"OneClock$Reader", "readLaw", "(I)V"⟩, 9), (⟨"OneClock$Reader", "readSum", "(I)V"⟩, 9), (⟨"OneClock$Reader", "readProduct", "(I)V"⟩, 9), (⟨"OneClock$Reader", "readUnit", "(I)V"⟩, 9), (⟨"OneClock$Reader", "readThinks", "()V"⟩, 9), (⟨"OneClock$Reader", "readNumber", "(III)I"⟩, 9), (⟨"OneClock", "isBoard", "(I)Z"⟩, 9), (⟨"OneClock", "isThink", "(I)Z"⟩, 9), (⟨"OneClock", "canPlay", "(I)Z"⟩, 9), (⟨"OneClock", "noteWhatStands", "()V"⟩, 9), (⟨"OneClock$Play", "dropFlag", "(I)V"⟩, 11), (⟨"OneClock", "isDepth", "(I)Z"⟩, 9), (⟨"OneClock$Guide", "tryRows", "(I)V"⟩, 18), (⟨"OneClock$Guide", "keepRow", "(II)V"⟩, 18), (⟨"OneClock$Guide", "tryMovesAt", "(II)V"⟩, 18), (⟨"OneClock", "isRule", "(II)Z"⟩, 9)]
theorem lw_r2 : ∀ q ∈ lw_privs_2, lw_okq q := List.forall_mem_cons.mpr ⟨lw_p16, List.forall_mem_cons.mpr ⟨lw_p17, List.forall_mem_cons.mpr ⟨lw_p18, List.forall_mem_cons.mpr ⟨lw_p19, List.forall_mem_cons.mpr ⟨lw_p20, List.forall_mem_cons.mpr ⟨lw_p21, List.forall_mem_cons.mpr ⟨lw_p22, List.forall_mem_cons.mpr ⟨lw_p23, List.forall_mem_cons.mpr ⟨lw_p24, List.forall_mem_cons.mpr ⟨lw_p25, List.forall_mem_cons.mpr ⟨lw_p26, List.forall_mem_cons.mpr ⟨lw_p27, List.forall_mem_cons.mpr ⟨lw_p28, List.forall_mem_cons.mpr ⟨lw_p29, List.forall_mem_cons.mpr ⟨lw_p30, List.forall_mem_cons.mpr ⟨lw_p31, fun _ h => absurd h List.not_mem_nil⟩⟩⟩⟩⟩⟩⟩⟩⟩⟩⟩⟩⟩⟩⟩⟩
theorem lw_p32 : lw_okq (⟨"OneClock", "isHalf", "(I)Z"⟩, 9) := ⟨⟨by decide +kernel, by decide +kernel⟩, List.mem_of_getElem? (i := 20) (by decide +kernel), List.mem_of_getElem? (i := 811) (by decide +kernel), List.mem_of_getElem? (i := 812) (by decide +kernel)⟩
theorem lw_p33 : lw_okq (⟨"OneClock$Guide", "follow", "(II)V"⟩, 18) := ⟨⟨by decide +kernel, by decide +kernel⟩, List.mem_of_getElem? (i := 252) (by decide +kernel), List.mem_of_getElem? (i := 819) (by decide +kernel), List.mem_of_getElem? (i := 820) (by decide +kernel)⟩
theorem lw_p34 : lw_okq (⟨"OneClock$Guide", "choose", "(II)I"⟩, 18) := ⟨⟨by decide +kernel, by decide +kernel⟩, List.mem_of_getElem? (i := 252) (by decide +kernel), List.mem_of_getElem? (i := 823) (by decide +kernel), List.mem_of_getElem? (i := 824) (by decide +kernel)⟩
theorem lw_p35 : lw_okq (⟨"OneClock$Guide", "keepMost", "(II)V"⟩, 18) := ⟨⟨by decide +kernel, by decide +kernel⟩, List.mem_of_getElem? (i := 252) (by decide +kernel), List.mem_of_getElem? (i := 836) (by decide +kernel), List.mem_of_getElem? (i := 837) (by decide +kernel)⟩
theorem lw_p36 : lw_okq (⟨"OneClock$Guide", "areOpen", "(I)Z"⟩, 18) := ⟨⟨by decide +kernel, by decide +kernel⟩, List.mem_of_getElem? (i := 252) (by decide +kernel), List.mem_of_getElem? (i := 854) (by decide +kernel), List.mem_of_getElem? (i := 855) (by decide +kernel)⟩
theorem lw_p37 : lw_okq (⟨"OneClock$Guide", "isIn", "(II)Z"⟩, 18) := ⟨⟨by decide +kernel, by decide +kernel⟩, List.mem_of_getElem? (i := 252) (by decide +kernel), List.mem_of_getElem? (i := 858) (by decide +kernel), List.mem_of_getElem? (i := 859) (by decide +kernel)⟩
theorem lw_p38 : lw_okq (⟨"OneClock$Guide", "letGoAll", "(I)V"⟩, 18) := ⟨⟨by decide +kernel, by decide +kernel⟩, List.mem_of_getElem? (i := 252) (by decide +kernel), List.mem_of_getElem? (i := 862) (by decide +kernel), List.mem_of_getElem? (i := 863) (by decide +kernel)⟩
theorem lw_p39 : lw_okq (⟨"OneClock$Guide", "orderNext", "()Z"⟩, 18) := ⟨⟨by decide +kernel, by decide +kernel⟩, List.mem_of_getElem? (i := 252) (by decide +kernel), List.mem_of_getElem? (i := 910) (by decide +kernel), List.mem_of_getElem? (i := 911) (by decide +kernel)⟩
theorem lw_p40 : lw_okq (⟨"OneClock$Guide", "swapSeats", "(II)V"⟩, 18) := ⟨⟨by decide +kernel, by decide +kernel⟩, List.mem_of_getElem? (i := 252) (by decide +kernel), List.mem_of_getElem? (i := 914) (by decide +kernel), List.mem_of_getElem? (i := 915) (by decide +kernel)⟩
theorem lw_p41 : lw_okq (⟨"OneClock$Guide", "wonWith", "(III)I"⟩, 18) := ⟨⟨by decide +kernel, by decide +kernel⟩, List.mem_of_getElem? (i := 252) (by decide +kernel), List.mem_of_getElem? (i := 930) (by decide +kernel), List.mem_of_getElem? (i := 931) (by decide +kernel)⟩
theorem lw_p42 : lw_okq (⟨"OneClock$Witness", "rowsFrom", "(II)I"⟩, 6) := ⟨⟨by decide +kernel, by decide +kernel⟩, List.mem_of_getElem? (i := 322) (by decide +kernel), List.mem_of_getElem? (i := 955) (by decide +kernel), List.mem_of_getElem? (i := 956) (by decide +kernel)⟩
theorem lw_p43 : lw_okq (⟨"OneClock$Witness", "canThink", "(III)Z"⟩, 6) := ⟨⟨by decide +kernel, by decide +kernel⟩, List.mem_of_getElem? (i := 322) (by decide +kernel), List.mem_of_getElem? (i := 962) (by decide +kernel), List.mem_of_getElem? (i := 963) (by decide +kernel)⟩
theorem lw_p44 : lw_okq (⟨"OneClock", "isSlot", "(I)Z"⟩, 9) := ⟨⟨by decide +kernel, by decide +kernel⟩, List.mem_of_getElem? (i := 20) (by decide +kernel), List.mem_of_getElem? (i := 973) (by decide +kernel), List.mem_of_getElem? (i := 974) (by decide +kernel)⟩
theorem lw_p45 : lw_okq (⟨"OneClockModel", "plain", "(I)V"⟩, 67) := ⟨⟨by decide +kernel, by decide +kernel⟩, List.mem_of_getElem? (i := 1000) (by decide +kernel), List.mem_of_getElem? (i := 1006) (by decide +kernel), List.mem_of_getElem? (i := 1007) (by decide +kernel)⟩
theorem lw_p46 : lw_okq (⟨"OneClockModel", "begins0", "(I)V"⟩, 67) := ⟨⟨by decide +kernel, by decide +kernel⟩, List.mem_of_getElem? (i := 1000) (by decide +kernel), List.mem_of_getElem? (i := 1017) (by decide +kernel), List.mem_of_getElem? (i := 1018) (by decide +kernel)⟩
theorem lw_p47 : lw_okq (⟨"OneClockModel", "put", "(I)V"⟩, 67) := ⟨⟨by decide +kernel, by decide +kernel⟩, List.mem_of_getElem? (i := 1000) (by decide +kernel), List.mem_of_getElem? (i := 1227) (by decide +kernel), List.mem_of_getElem? (i := 1228) (by decide +kernel)⟩
def lw_privs_3 : List (MethodName × Nat) := [(⟨"OneClock", "isHalf", "(I)Z"⟩, 9), (⟨"OneClock$Guide", "follow", "(II)V"⟩, 18), (⟨"OneClock$Guide", "choose", "(II)I"⟩, 18), (⟨"OneClock$Guide", "keepMost", "(II)V"⟩, 18), (⟨"OneClock$Guide", "areOpen", "(I)Z"⟩, 18), (⟨"OneClock$Guide", "isIn", "(II)Z"⟩, 18), (⟨"OneClock$Guide", "letGoAll", "(I)V"⟩, 18), (⟨"OneClock$Guide", "orderNext", "()Z"⟩, 18), (⟨"OneClock$Guide", "swapSeats", "(II)V"⟩, 18), (⟨"OneClock$Guide", "wonWith", "(III)I"⟩, 18), (⟨"OneClock$Witness", "rowsFrom", "(II)I"⟩, 6), (⟨"OneClock$Witness", "canThink", "(III)Z"⟩, 6), (⟨"OneClock", "isSlot", "(I)Z"⟩, 9), (⟨"OneClockModel", "plain", "(I)V"⟩, 67), (⟨"OneClockModel", "begins0", "(I)V"⟩, 67), (⟨"OneClockModel", "put", "(I)V"⟩, 67)]
theorem lw_r3 : ∀ q ∈ lw_privs_3, lw_okq q := List.forall_mem_cons.mpr ⟨lw_p32, List.forall_mem_cons.mpr ⟨lw_p33, List.forall_mem_cons.mpr ⟨lw_p34, List.forall_mem_cons.mpr ⟨lw_p35, List.forall_mem_cons.mpr ⟨lw_p36, List.forall_mem_cons.mpr ⟨lw_p37, List.forall_mem_cons.mpr ⟨lw_p38, List.forall_mem_cons.mpr ⟨lw_p39, List.forall_mem_cons.mpr ⟨lw_p40, List.forall_mem_cons.mpr ⟨lw_p41, List.forall_mem_cons.mpr ⟨lw_p42, List.forall_mem_cons.mpr ⟨lw_p43, List.forall_mem_cons.mpr ⟨lw_p44, List.forall_mem_cons.mpr ⟨lw_p45, List.forall_mem_cons.mpr ⟨lw_p46, List.forall_mem_cons.mpr ⟨lw_p47, fun _ h => absurd h List.not_mem_nil⟩⟩⟩⟩⟩⟩⟩⟩⟩⟩⟩⟩⟩⟩⟩⟩
theorem lw_p48 : lw_okq (⟨"OneClockModel", "cut", "()V"⟩, 67) := ⟨⟨by decide +kernel, by decide +kernel⟩, List.mem_of_getElem? (i := 1000) (by decide +kernel), List.mem_of_getElem? (i := 1239) (by decide +kernel), List.mem_of_getElem? (i := 1240) (by decide +kernel)⟩
theorem lw_p49 : lw_okq (⟨"OneClockModel", "byteAt", "(I)I"⟩, 67) := ⟨⟨by decide +kernel, by decide +kernel⟩, List.mem_of_getElem? (i := 1000) (by decide +kernel), List.mem_of_getElem? (i := 1243) (by decide +kernel), List.mem_of_getElem? (i := 1244) (by decide +kernel)⟩
theorem lw_p50 : lw_okq (⟨"OneClockModel", "token", "(IIIJ)V"⟩, 67) := ⟨⟨by decide +kernel, by decide +kernel⟩, List.mem_of_getElem? (i := 1000) (by decide +kernel), List.mem_of_getElem? (i := 1247) (by decide +kernel), List.mem_of_getElem? (i := 1248) (by decide +kernel)⟩
theorem lw_p51 : lw_okq (⟨"OneClockModel", "sign", "(III)I"⟩, 67) := ⟨⟨by decide +kernel, by decide +kernel⟩, List.mem_of_getElem? (i := 1000) (by decide +kernel), List.mem_of_getElem? (i := 1257) (by decide +kernel), List.mem_of_getElem? (i := 1258) (by decide +kernel)⟩
theorem lw_p52 : lw_okq (⟨"OneClockModel", "is", "(I)Z"⟩, 67) := ⟨⟨by decide +kernel, by decide +kernel⟩, List.mem_of_getElem? (i := 1000) (by decide +kernel), List.mem_of_getElem? (i := 1261) (by decide +kernel), List.mem_of_getElem? (i := 1262) (by decide +kernel)⟩
theorem lw_p53 : lw_okq (⟨"OneClockModel", "tell", "()V"⟩, 67) := ⟨⟨by decide +kernel, by decide +kernel⟩, List.mem_of_getElem? (i := 1000) (by decide +kernel), List.mem_of_getElem? (i := 1265) (by decide +kernel), List.mem_of_getElem? (i := 1266) (by decide +kernel)⟩
theorem lw_p54 : lw_okq (⟨"OneClockModel", "fail", "(I)V"⟩, 67) := ⟨⟨by decide +kernel, by decide +kernel⟩, List.mem_of_getElem? (i := 1000) (by decide +kernel), List.mem_of_getElem? (i := 1269) (by decide +kernel), List.mem_of_getElem? (i := 1270) (by decide +kernel)⟩
theorem lw_p55 : lw_okq (⟨"OneClockModel", "tellBoard", "()V"⟩, 67) := ⟨⟨by decide +kernel, by decide +kernel⟩, List.mem_of_getElem? (i := 1000) (by decide +kernel), List.mem_of_getElem? (i := 1273) (by decide +kernel), List.mem_of_getElem? (i := 1274) (by decide +kernel)⟩
theorem lw_p56 : lw_okq (⟨"OneClockModel", "goesOn", "()V"⟩, 67) := ⟨⟨by decide +kernel, by decide +kernel⟩, List.mem_of_getElem? (i := 1000) (by decide +kernel), List.mem_of_getElem? (i := 1277) (by decide +kernel), List.mem_of_getElem? (i := 1278) (by decide +kernel)⟩
theorem lw_p57 : lw_okq (⟨"OneClockModel", "must", "(I)V"⟩, 67) := ⟨⟨by decide +kernel, by decide +kernel⟩, List.mem_of_getElem? (i := 1000) (by decide +kernel), List.mem_of_getElem? (i := 1281) (by decide +kernel), List.mem_of_getElem? (i := 1282) (by decide +kernel)⟩
theorem lw_p58 : lw_okq (⟨"OneClockModel", "wrong", "(II)V"⟩, 67) := ⟨⟨by decide +kernel, by decide +kernel⟩, List.mem_of_getElem? (i := 1000) (by decide +kernel), List.mem_of_getElem? (i := 1285) (by decide +kernel), List.mem_of_getElem? (i := 1286) (by decide +kernel)⟩
theorem lw_p59 : lw_okq (⟨"OneClockModel", "bounded", "(II)I"⟩, 67) := ⟨⟨by decide +kernel, by decide +kernel⟩, List.mem_of_getElem? (i := 1000) (by decide +kernel), List.mem_of_getElem? (i := 1289) (by decide +kernel), List.mem_of_getElem? (i := 1290) (by decide +kernel)⟩
theorem lw_p60 : lw_okq (⟨"OneClockModel", "known", "()I"⟩, 67) := ⟨⟨by decide +kernel, by decide +kernel⟩, List.mem_of_getElem? (i := 1000) (by decide +kernel), List.mem_of_getElem? (i := 1293) (by decide +kernel), List.mem_of_getElem? (i := 1294) (by decide +kernel)⟩
theorem lw_p61 : lw_okq (⟨"OneClockModel", "tellLaw", "(I)V"⟩, 67) := ⟨⟨by decide +kernel, by decide +kernel⟩, List.mem_of_getElem? (i := 1000) (by decide +kernel), List.mem_of_getElem? (i := 1297) (by decide +kernel), List.mem_of_getElem? (i := 1298) (by decide +kernel)⟩
theorem lw_p62 : lw_okq (⟨"OneClockModel", "expression", "()V"⟩, 67) := ⟨⟨by decide +kernel, by decide +kernel⟩, List.mem_of_getElem? (i := 1000) (by decide +kernel), List.mem_of_getElem? (i := 1301) (by decide +kernel), List.mem_of_getElem? (i := 1302) (by decide +kernel)⟩
theorem lw_p63 : lw_okq (⟨"OneClockModel", "unit", "()V"⟩, 67) := ⟨⟨by decide +kernel, by decide +kernel⟩, List.mem_of_getElem? (i := 1000) (by decide +kernel), List.mem_of_getElem? (i := 1305) (by decide +kernel), List.mem_of_getElem? (i := 1306) (by decide +kernel)⟩
def lw_privs_4 : List (MethodName × Nat) := [(⟨"OneClockModel", "cut", "()V"⟩, 67), (⟨"OneClockModel", "byteAt", "(I)I"⟩, 67), (⟨"OneClockModel", "token", "(IIIJ)V"⟩, 67), (⟨"OneClockModel", "sign", "(III)I"⟩, 67), (⟨"OneClockModel", "is", "(I)Z"⟩, 67), (⟨"OneClockModel", "tell", "()V"⟩, 67), (⟨"OneClockModel", "fail", "(I)V"⟩, 67), (⟨"OneClockModel", "tellBoard", "()V"⟩, 67), (⟨"OneClockModel", "goesOn", "()V"⟩, 67), (⟨"OneClockModel", "must", "(I)V"⟩, 67), (⟨"OneClockModel", "wrong", "(II)V"⟩, 67), (⟨"OneClockModel", "bounded", "(II)I"⟩, 67), (⟨"OneClockModel", "known", "()I"⟩, 67), (⟨"OneClockModel", "tellLaw", "(I)V"⟩, 67), (⟨"OneClockModel", "expression", "()V"⟩, 67), (⟨"OneClockModel", "unit", "()V"⟩, 67)]
theorem lw_r4 : ∀ q ∈ lw_privs_4, lw_okq q := List.forall_mem_cons.mpr ⟨lw_p48, List.forall_mem_cons.mpr ⟨lw_p49, List.forall_mem_cons.mpr ⟨lw_p50, List.forall_mem_cons.mpr ⟨lw_p51, List.forall_mem_cons.mpr ⟨lw_p52, List.forall_mem_cons.mpr ⟨lw_p53, List.forall_mem_cons.mpr ⟨lw_p54, List.forall_mem_cons.mpr ⟨lw_p55, List.forall_mem_cons.mpr ⟨lw_p56, List.forall_mem_cons.mpr ⟨lw_p57, List.forall_mem_cons.mpr ⟨lw_p58, List.forall_mem_cons.mpr ⟨lw_p59, List.forall_mem_cons.mpr ⟨lw_p60, List.forall_mem_cons.mpr ⟨lw_p61, List.forall_mem_cons.mpr ⟨lw_p62, List.forall_mem_cons.mpr ⟨lw_p63, fun _ h => absurd h List.not_mem_nil⟩⟩⟩⟩⟩⟩⟩⟩⟩⟩⟩⟩⟩⟩⟩⟩
theorem lw_p64 : lw_okq (⟨"OneClockModel", "emit", "(II)V"⟩, 67) := ⟨⟨by decide +kernel, by decide +kernel⟩, List.mem_of_getElem? (i := 1000) (by decide +kernel), List.mem_of_getElem? (i := 1309) (by decide +kernel), List.mem_of_getElem? (i := 1310) (by decide +kernel)⟩
theorem lw_p65 : lw_okq (⟨"OneClockModel", "comesOut", "(Z)V"⟩, 67) := ⟨⟨by decide +kernel, by decide +kernel⟩, List.mem_of_getElem? (i := 1000) (by decide +kernel), List.mem_of_getElem? (i := 1313) (by decide +kernel), List.mem_of_getElem? (i := 1314) (by decide +kernel)⟩
theorem lw_p66 : lw_okq (⟨"OneClockModel", "term", "()V"⟩, 67) := ⟨⟨by decide +kernel, by decide +kernel⟩, List.mem_of_getElem? (i := 1000) (by decide +kernel), List.mem_of_getElem? (i := 1317) (by decide +kernel), List.mem_of_getElem? (i := 1318) (by decide +kernel)⟩
theorem lw_p67 : lw_okq (⟨"OneClockModel", "tellThinks", "()V"⟩, 67) := ⟨⟨by decide +kernel, by decide +kernel⟩, List.mem_of_getElem? (i := 1000) (by decide +kernel), List.mem_of_getElem? (i := 1321) (by decide +kernel), List.mem_of_getElem? (i := 1322) (by decide +kernel)⟩
theorem lw_p68 : lw_okq (⟨"OneClockModel", "isBoard", "(I)Z"⟩, 67) := ⟨⟨by decide +kernel, by decide +kernel⟩, List.mem_of_getElem? (i := 1000) (by decide +kernel), List.mem_of_getElem? (i := 1333) (by decide +kernel), List.mem_of_getElem? (i := 1334) (by decide +kernel)⟩
theorem lw_p69 : lw_okq (⟨"OneClockModel", "copies", "()V"⟩, 67) := ⟨⟨by decide +kernel, by decide +kernel⟩, List.mem_of_getElem? (i := 1000) (by decide +kernel), List.mem_of_getElem? (i := 1340) (by decide +kernel), List.mem_of_getElem? (i := 1341) (by decide +kernel)⟩
theorem lw_p70 : lw_okq (⟨"OneClockModel", "isOpen", "(I)Z"⟩, 67) := ⟨⟨by decide +kernel, by decide +kernel⟩, List.mem_of_getElem? (i := 1000) (by decide +kernel), List.mem_of_getElem? (i := 1344) (by decide +kernel), List.mem_of_getElem? (i := 1345) (by decide +kernel)⟩
theorem lw_p71 : lw_okq (⟨"OneClockModel", "stepsTo", "(I)I"⟩, 67) := ⟨⟨by decide +kernel, by decide +kernel⟩, List.mem_of_getElem? (i := 1000) (by decide +kernel), List.mem_of_getElem? (i := 1348) (by decide +kernel), List.mem_of_getElem? (i := 1349) (by decide +kernel)⟩
theorem lw_p72 : lw_okq (⟨"OneClockModel", "isThink", "(I)Z"⟩, 67) := ⟨⟨by decide +kernel, by decide +kernel⟩, List.mem_of_getElem? (i := 1000) (by decide +kernel), List.mem_of_getElem? (i := 1360) (by decide +kernel), List.mem_of_getElem? (i := 1361) (by decide +kernel)⟩
theorem lw_p73 : lw_okq (⟨"OneClockModel", "isOver", "()Z"⟩, 67) := ⟨⟨by decide +kernel, by decide +kernel⟩, List.mem_of_getElem? (i := 1000) (by decide +kernel), List.mem_of_getElem? (i := 1364) (by decide +kernel), List.mem_of_getElem? (i := 1365) (by decide +kernel)⟩
theorem lw_p74 : lw_okq (⟨"OneClockModel", "openAll", "()I"⟩, 67) := ⟨⟨by decide +kernel, by decide +kernel⟩, List.mem_of_getElem? (i := 1000) (by decide +kernel), List.mem_of_getElem? (i := 1368) (by decide +kernel), List.mem_of_getElem? (i := 1369) (by decide +kernel)⟩
theorem lw_p75 : lw_okq (⟨"OneClockModel", "think", "(I)I"⟩, 67) := ⟨⟨by decide +kernel, by decide +kernel⟩, List.mem_of_getElem? (i := 1000) (by decide +kernel), List.mem_of_getElem? (i := 1372) (by decide +kernel), List.mem_of_getElem? (i := 1373) (by decide +kernel)⟩
theorem lw_p76 : lw_okq (⟨"OneClockModel", "movesNow", "(II)I"⟩, 67) := ⟨⟨by decide +kernel, by decide +kernel⟩, List.mem_of_getElem? (i := 1000) (by decide +kernel), List.mem_of_getElem? (i := 1376) (by decide +kernel), List.mem_of_getElem? (i := 1377) (by decide +kernel)⟩
theorem lw_p77 : lw_okq (⟨"OneClockModel", "beginsAt", "(I)I"⟩, 67) := ⟨⟨by decide +kernel, by decide +kernel⟩, List.mem_of_getElem? (i := 1000) (by decide +kernel), List.mem_of_getElem? (i := 1380) (by decide +kernel), List.mem_of_getElem? (i := 1381) (by decide +kernel)⟩
theorem lw_p78 : lw_okq (⟨"OneClockModel", "movesFrom", "(III)I"⟩, 67) := ⟨⟨by decide +kernel, by decide +kernel⟩, List.mem_of_getElem? (i := 1000) (by decide +kernel), List.mem_of_getElem? (i := 1384) (by decide +kernel), List.mem_of_getElem? (i := 1385) (by decide +kernel)⟩
theorem lw_p79 : lw_okq (⟨"OneClockModel", "falls", "(I)V"⟩, 67) := ⟨⟨by decide +kernel, by decide +kernel⟩, List.mem_of_getElem? (i := 1000) (by decide +kernel), List.mem_of_getElem? (i := 1388) (by decide +kernel), List.mem_of_getElem? (i := 1389) (by decide +kernel)⟩
def lw_privs_5 : List (MethodName × Nat) := [(⟨"OneClockModel", "emit", "(II)V"⟩, 67), (⟨"OneClockModel", "comesOut", "(Z)V"⟩, 67), (⟨"OneClockModel", "term", "()V"⟩, 67), (⟨"OneClockModel", "tellThinks", "()V"⟩, 67), (⟨"OneClockModel", "isBoard", "(I)Z"⟩, 67), (⟨"OneClockModel", "copies", "()V"⟩, 67), (⟨"OneClockModel", "isOpen", "(I)Z"⟩, 67), (⟨"OneClockModel", "stepsTo", "(I)I"⟩, 67), (⟨"OneClockModel", "isThink", "(I)Z"⟩, 67), (⟨"OneClockModel", "isOver", "()Z"⟩, 67), (⟨"OneClockModel", "openAll", "()I"⟩, 67), (⟨"OneClockModel", "think", "(I)I"⟩, 67), (⟨"OneClockModel", "movesNow", "(II)I"⟩, 67), (⟨"OneClockModel", "beginsAt", "(I)I"⟩, 67), (⟨"OneClockModel", "movesFrom", "(III)I"⟩, 67), (⟨"OneClockModel", "falls", "(I)V"⟩, 67)]
theorem lw_r5 : ∀ q ∈ lw_privs_5, lw_okq q := List.forall_mem_cons.mpr ⟨lw_p64, List.forall_mem_cons.mpr ⟨lw_p65, List.forall_mem_cons.mpr ⟨lw_p66, List.forall_mem_cons.mpr ⟨lw_p67, List.forall_mem_cons.mpr ⟨lw_p68, List.forall_mem_cons.mpr ⟨lw_p69, List.forall_mem_cons.mpr ⟨lw_p70, List.forall_mem_cons.mpr ⟨lw_p71, List.forall_mem_cons.mpr ⟨lw_p72, List.forall_mem_cons.mpr ⟨lw_p73, List.forall_mem_cons.mpr ⟨lw_p74, List.forall_mem_cons.mpr ⟨lw_p75, List.forall_mem_cons.mpr ⟨lw_p76, List.forall_mem_cons.mpr ⟨lw_p77, List.forall_mem_cons.mpr ⟨lw_p78, List.forall_mem_cons.mpr ⟨lw_p79, fun _ h => absurd h List.not_mem_nil⟩⟩⟩⟩⟩⟩⟩⟩⟩⟩⟩⟩⟩⟩⟩⟩
theorem lw_p80 : lw_okq (⟨"OneClockModel", "worthOf", "(III)I"⟩, 67) := ⟨⟨by decide +kernel, by decide +kernel⟩, List.mem_of_getElem? (i := 1000) (by decide +kernel), List.mem_of_getElem? (i := 1392) (by decide +kernel), List.mem_of_getElem? (i := 1393) (by decide +kernel)⟩
theorem lw_p81 : lw_okq (⟨"OneClockModel", "setsOf", "(III)V"⟩, 67) := ⟨⟨by decide +kernel, by decide +kernel⟩, List.mem_of_getElem? (i := 1000) (by decide +kernel), List.mem_of_getElem? (i := 1396) (by decide +kernel), List.mem_of_getElem? (i := 1397) (by decide +kernel)⟩
theorem lw_p82 : lw_okq (⟨"OneClockModel", "tells", "(IIII)I"⟩, 67) := ⟨⟨by decide +kernel, by decide +kernel⟩, List.mem_of_getElem? (i := 1000) (by decide +kernel), List.mem_of_getElem? (i := 1400) (by decide +kernel), List.mem_of_getElem? (i := 1401) (by decide +kernel)⟩
theorem lw_p83 : lw_okq (⟨"OneClockModel", "termOf", "(II)I"⟩, 67) := ⟨⟨by decide +kernel, by decide +kernel⟩, List.mem_of_getElem? (i := 1000) (by decide +kernel), List.mem_of_getElem? (i := 1404) (by decide +kernel), List.mem_of_getElem? (i := 1405) (by decide +kernel)⟩
theorem lw_p84 : lw_okq (⟨"OneClockModel", "keeps", "()V"⟩, 67) := ⟨⟨by decide +kernel, by decide +kernel⟩, List.mem_of_getElem? (i := 1000) (by decide +kernel), List.mem_of_getElem? (i := 1408) (by decide +kernel), List.mem_of_getElem? (i := 1409) (by decide +kernel)⟩
theorem lw_p85 : lw_okq (⟨"OneClockModel", "offersNow", "(I)I"⟩, 67) := ⟨⟨by decide +kernel, by decide +kernel⟩, List.mem_of_getElem? (i := 1000) (by decide +kernel), List.mem_of_getElem? (i := 1416) (by decide +kernel), List.mem_of_getElem? (i := 1417) (by decide +kernel)⟩
theorem lw_p86 : lw_okq (⟨"OneClockModel", "drops", "(I)V"⟩, 67) := ⟨⟨by decide +kernel, by decide +kernel⟩, List.mem_of_getElem? (i := 1000) (by decide +kernel), List.mem_of_getElem? (i := 1424) (by decide +kernel), List.mem_of_getElem? (i := 1425) (by decide +kernel)⟩
theorem lw_p87 : lw_okq (⟨"OneClockModel", "findsBest", "(I)V"⟩, 67) := ⟨⟨by decide +kernel, by decide +kernel⟩, List.mem_of_getElem? (i := 1000) (by decide +kernel), List.mem_of_getElem? (i := 1445) (by decide +kernel), List.mem_of_getElem? (i := 1446) (by decide +kernel)⟩
theorem lw_p88 : lw_okq (⟨"OneClockModel", "notesRow", "(I)V"⟩, 67) := ⟨⟨by decide +kernel, by decide +kernel⟩, List.mem_of_getElem? (i := 1000) (by decide +kernel), List.mem_of_getElem? (i := 1449) (by decide +kernel), List.mem_of_getElem? (i := 1450) (by decide +kernel)⟩
theorem lw_p89 : lw_okq (⟨"OneClockModel", "opens", "(I)V"⟩, 67) := ⟨⟨by decide +kernel, by decide +kernel⟩, List.mem_of_getElem? (i := 1000) (by decide +kernel), List.mem_of_getElem? (i := 1453) (by decide +kernel), List.mem_of_getElem? (i := 1454) (by decide +kernel)⟩
theorem lw_p90 : lw_okq (⟨"OneClockModel", "nextAt", "(I)Z"⟩, 67) := ⟨⟨by decide +kernel, by decide +kernel⟩, List.mem_of_getElem? (i := 1000) (by decide +kernel), List.mem_of_getElem? (i := 1457) (by decide +kernel), List.mem_of_getElem? (i := 1458) (by decide +kernel)⟩
theorem lw_p91 : lw_okq (⟨"OneClockModel", "isRule", "(II)Z"⟩, 67) := ⟨⟨by decide +kernel, by decide +kernel⟩, List.mem_of_getElem? (i := 1000) (by decide +kernel), List.mem_of_getElem? (i := 1469) (by decide +kernel), List.mem_of_getElem? (i := 1470) (by decide +kernel)⟩
theorem lw_p92 : lw_okq (⟨"OneClockModel", "goesBy", "(II)I"⟩, 67) := ⟨⟨by decide +kernel, by decide +kernel⟩, List.mem_of_getElem? (i := 1000) (by decide +kernel), List.mem_of_getElem? (i := 1473) (by decide +kernel), List.mem_of_getElem? (i := 1474) (by decide +kernel)⟩
theorem lw_p93 : lw_okq (⟨"OneClockModel", "nextBy", "(II)I"⟩, 67) := ⟨⟨by decide +kernel, by decide +kernel⟩, List.mem_of_getElem? (i := 1000) (by decide +kernel), List.mem_of_getElem? (i := 1477) (by decide +kernel), List.mem_of_getElem? (i := 1478) (by decide +kernel)⟩
theorem lw_p94 : lw_okq (⟨"OneClockModel", "wonBy", "(II)I"⟩, 67) := ⟨⟨by decide +kernel, by decide +kernel⟩, List.mem_of_getElem? (i := 1000) (by decide +kernel), List.mem_of_getElem? (i := 1485) (by decide +kernel), List.mem_of_getElem? (i := 1486) (by decide +kernel)⟩
theorem lw_p95 : lw_okq (⟨"OneClockModel", "canDrop", "(I)Z"⟩, 67) := ⟨⟨by decide +kernel, by decide +kernel⟩, List.mem_of_getElem? (i := 1000) (by decide +kernel), List.mem_of_getElem? (i := 1493) (by decide +kernel), List.mem_of_getElem? (i := 1494) (by decide +kernel)⟩
def lw_privs_6 : List (MethodName × Nat) := [(⟨"OneClockModel", "worthOf", "(III)I"⟩, 67), (⟨"OneClockModel", "setsOf", "(III)V"⟩, 67), (⟨"OneClockModel", "tells", "(IIII)I"⟩, 67), (⟨"OneClockModel", "termOf", "(II)I"⟩, 67), (⟨"OneClockModel", "keeps", "()V"⟩, 67), (⟨"OneClockModel", "offersNow", "(I)I"⟩, 67), (⟨"OneClockModel", "drops", "(I)V"⟩, 67), (⟨"OneClockModel", "findsBest", "(I)V"⟩, 67), (⟨"OneClockModel", "notesRow", "(I)V"⟩, 67), (⟨"OneClockModel", "opens", "(I)V"⟩, 67), (⟨"OneClockModel", "nextAt", "(I)Z"⟩, 67), (⟨"OneClockModel", "isRule", "(II)Z"⟩, 67), (⟨"OneClockModel", "goesBy", "(II)I"⟩, 67), (⟨"OneClockModel", "nextBy", "(II)I"⟩, 67), (⟨"OneClockModel", "wonBy", "(II)I"⟩, 67), (⟨"OneClockModel", "canDrop", "(I)Z"⟩, 67)]
theorem lw_r6 : ∀ q ∈ lw_privs_6, lw_okq q := List.forall_mem_cons.mpr ⟨lw_p80, List.forall_mem_cons.mpr ⟨lw_p81, List.forall_mem_cons.mpr ⟨lw_p82, List.forall_mem_cons.mpr ⟨lw_p83, List.forall_mem_cons.mpr ⟨lw_p84, List.forall_mem_cons.mpr ⟨lw_p85, List.forall_mem_cons.mpr ⟨lw_p86, List.forall_mem_cons.mpr ⟨lw_p87, List.forall_mem_cons.mpr ⟨lw_p88, List.forall_mem_cons.mpr ⟨lw_p89, List.forall_mem_cons.mpr ⟨lw_p90, List.forall_mem_cons.mpr ⟨lw_p91, List.forall_mem_cons.mpr ⟨lw_p92, List.forall_mem_cons.mpr ⟨lw_p93, List.forall_mem_cons.mpr ⟨lw_p94, List.forall_mem_cons.mpr ⟨lw_p95, fun _ h => absurd h List.not_mem_nil⟩⟩⟩⟩⟩⟩⟩⟩⟩⟩⟩⟩⟩⟩⟩⟩
theorem lw_p96 : lw_okq (⟨"OneClockModel", "seatsBy", "(II)I"⟩, 67) := ⟨⟨by decide +kernel, by decide +kernel⟩, List.mem_of_getElem? (i := 1000) (by decide +kernel), List.mem_of_getElem? (i := 1520) (by decide +kernel), List.mem_of_getElem? (i := 1521) (by decide +kernel)⟩
theorem lw_p97 : lw_okq (⟨"OneClockModel", "nextOrder", "()Z"⟩, 67) := ⟨⟨by decide +kernel, by decide +kernel⟩, List.mem_of_getElem? (i := 1000) (by decide +kernel), List.mem_of_getElem? (i := 1524) (by decide +kernel), List.mem_of_getElem? (i := 1525) (by decide +kernel)⟩
theorem lw_p98 : lw_okq (⟨"OneClockModel", "isSo", "(II)Z"⟩, 67) := ⟨⟨by decide +kernel, by decide +kernel⟩, List.mem_of_getElem? (i := 1000) (by decide +kernel), List.mem_of_getElem? (i := 1549) (by decide +kernel), List.mem_of_getElem? (i := 1550) (by decide +kernel)⟩
def lw_privs_7 : List (MethodName × Nat) := [(⟨"OneClockModel", "seatsBy", "(II)I"⟩, 67), (⟨"OneClockModel", "nextOrder", "()Z"⟩, 67), (⟨"OneClockModel", "isSo", "(II)Z"⟩, 67)]
theorem lw_r7 : ∀ q ∈ lw_privs_7, lw_okq q := List.forall_mem_cons.mpr ⟨lw_p96, List.forall_mem_cons.mpr ⟨lw_p97, List.forall_mem_cons.mpr ⟨lw_p98, fun _ h => absurd h List.not_mem_nil⟩⟩⟩
def lw_privs : List (MethodName × Nat) := lw_privs_1 ++ (lw_privs_2 ++ (lw_privs_3 ++ (lw_privs_4 ++ (lw_privs_5 ++ (lw_privs_6 ++ (lw_privs_7))))))
def lw_tbl : List Cond := k2_sels lw_privs ++ tables_1
theorem lw_privs_ok : ∀ q ∈ lw_privs, lw_okq q := by
  show ∀ q ∈ lw_privs_1 ++ (lw_privs_2 ++ (lw_privs_3 ++ (lw_privs_4 ++ (lw_privs_5 ++ (lw_privs_6 ++ (lw_privs_7)))))), lw_okq q
  exact List.forall_mem_append.mpr ⟨lw_r1, List.forall_mem_append.mpr ⟨lw_r2, List.forall_mem_append.mpr ⟨lw_r3, List.forall_mem_append.mpr ⟨lw_r4, List.forall_mem_append.mpr ⟨lw_r5, List.forall_mem_append.mpr ⟨lw_r6, lw_r7⟩⟩⟩⟩⟩⟩
def RX0 : String := "OneClock$Code"
def TX0 : u_T := fun k => match k with
  | 0 => ("OneClock$Code", "steps", "[I", true)
  | 1 => ("OneClock$Code", "arguments", "[I", true)
  | 2 => ("OneClock$Code", "facts", "[I", true)
  | 3 => ("OneClock$Code", "stack", "[I", true)
  | _ => ("OneClock$Code", "size", "I", false)
def tyX0 : Nat → FieldType := fun k => match k with
  | 0 => .array .int
  | 1 => .array .int
  | 2 => .array .int
  | 3 => .array .int
  | _ => .int
theorem nmX0 : ∀ a, a < 5 → ∀ b, b < 5 → a ≠ b → (TX0 a).2.1 ≠ (TX0 b).2.1 := by decide +kernel
theorem tyX0_ok : ∀ k, k < 5 → parseFieldDescriptor (TX0 k).2.2.1 = some (tyX0 k) := by decide +kernel
def RX1 : String := "OneClock$Guide"
def TX1 : u_T := fun k => match k with
  | 0 => ("OneClock$Guide", "plan", "LOneClock$Plan;", true)
  | 1 => ("OneClock$Guide", "now", "LOneClock$Play;", true)
  | 2 => ("OneClock$Guide", "trial", "LOneClock$Play;", true)
  | 3 => ("OneClock$Guide", "saved", "[I", true)
  | 4 => ("OneClock$Guide", "row", "[I", true)
  | 5 => ("OneClock$Guide", "bestRow", "[I", true)
  | 6 => ("OneClock$Guide", "bestLength", "I", false)
  | 7 => ("OneClock$Guide", "bestRowWon", "I", false)
  | 8 => ("OneClock$Guide", "depthFound", "I", false)
  | 9 => ("OneClock$Guide", "wanted", "I", false)
  | 10 => ("OneClock$Guide", "order", "[I", true)
  | 11 => ("OneClock$Guide", "bestOrder", "[I", true)
  | 12 => ("OneClock$Guide", "bestOrderWon", "I", false)
  | 13 => ("OneClock$Guide", "seatsFound", "I", false)
  | 14 => ("OneClock$Guide", "shareWon", "[I", true)
  | 15 => ("OneClock$Guide", "won", "I", false)
  | 16 => ("OneClock$Guide", "which", "I", false)
  | _ => ("OneClock$Guide", "found", "Z", false)
def tyX1 : Nat → FieldType := fun k => match k with
  | 0 => .object "OneClock$Plan"
  | 1 => .object "OneClock$Play"
  | 2 => .object "OneClock$Play"
  | 3 => .array .int
  | 4 => .array .int
  | 5 => .array .int
  | 6 => .int
  | 7 => .int
  | 8 => .int
  | 9 => .int
  | 10 => .array .int
  | 11 => .array .int
  | 12 => .int
  | 13 => .int
  | 14 => .array .int
  | 15 => .int
  | 16 => .int
  | _ => .boolean
theorem nmX1 : ∀ a, a < 18 → ∀ b, b < 18 → a ≠ b → (TX1 a).2.1 ≠ (TX1 b).2.1 := by decide +kernel
theorem tyX1_ok : ∀ k, k < 18 → parseFieldDescriptor (TX1 k).2.2.1 = some (tyX1 k) := by decide +kernel
def RX2 : String := "OneClock$Past"
def TX2 : u_T := fun k => match k with
  | 0 => ("OneClock$Past", "rows", "[I", true)
  | 1 => ("OneClock$Past", "next", "I", false)
  | _ => ("OneClock$Past", "size", "I", false)
def tyX2 : Nat → FieldType := fun k => match k with
  | 0 => .array .int
  | 1 => .int
  | _ => .int
theorem nmX2 : ∀ a, a < 3 → ∀ b, b < 3 → a ≠ b → (TX2 a).2.1 ≠ (TX2 b).2.1 := by decide +kernel
theorem tyX2_ok : ∀ k, k < 3 → parseFieldDescriptor (TX2 k).2.2.1 = some (tyX2 k) := by decide +kernel
def RX3 : String := "OneClock$Plan"
def TX3 : u_T := fun k => match k with
  | 0 => ("OneClock$Plan", "moves", "[I", true)
  | 1 => ("OneClock$Plan", "lost", "[I", true)
  | 2 => ("OneClock$Plan", "thinks", "[I", true)
  | 3 => ("OneClock$Plan", "code", "LOneClock$Code;", true)
  | 4 => ("OneClock$Plan", "lawStart", "[I", true)
  | 5 => ("OneClock$Plan", "boards", "I", false)
  | 6 => ("OneClock$Plan", "thinkCount", "I", false)
  | 7 => ("OneClock$Plan", "step", "I", false)
  | 8 => ("OneClock$Plan", "clock", "I", false)
  | _ => ("OneClock$Plan", "flag", "I", false)
def tyX3 : Nat → FieldType := fun k => match k with
  | 0 => .array .int
  | 1 => .array .int
  | 2 => .array .int
  | 3 => .object "OneClock$Code"
  | 4 => .array .int
  | 5 => .int
  | 6 => .int
  | 7 => .int
  | 8 => .int
  | _ => .int
theorem nmX3 : ∀ a, a < 10 → ∀ b, b < 10 → a ≠ b → (TX3 a).2.1 ≠ (TX3 b).2.1 := by decide +kernel
theorem tyX3_ok : ∀ k, k < 10 → parseFieldDescriptor (TX3 k).2.2.1 = some (tyX3 k) := by decide +kernel
def RX4 : String := "OneClock$Play"
def TX4 : u_T := fun k => match k with
  | 0 => ("OneClock$Play", "plan", "LOneClock$Plan;", true)
  | 1 => ("OneClock$Play", "left", "[I", true)
  | 2 => ("OneClock$Play", "ready", "[I", true)
  | 3 => ("OneClock$Play", "ended", "[I", true)
  | 4 => ("OneClock$Play", "seat", "[I", true)
  | 5 => ("OneClock$Play", "later", "[I", true)
  | 6 => ("OneClock$Play", "hasty", "I", false)
  | 7 => ("OneClock$Play", "minute", "I", false)
  | 8 => ("OneClock$Play", "spot", "I", false)
  | 9 => ("OneClock$Play", "won", "I", false)
  | _ => ("OneClock$Play", "fell", "Z", false)
def tyX4 : Nat → FieldType := fun k => match k with
  | 0 => .object "OneClock$Plan"
  | 1 => .array .int
  | 2 => .array .int
  | 3 => .array .int
  | 4 => .array .int
  | 5 => .array .int
  | 6 => .int
  | 7 => .int
  | 8 => .int
  | 9 => .int
  | _ => .boolean
theorem nmX4 : ∀ a, a < 11 → ∀ b, b < 11 → a ≠ b → (TX4 a).2.1 ≠ (TX4 b).2.1 := by decide +kernel
theorem tyX4_ok : ∀ k, k < 11 → parseFieldDescriptor (TX4 k).2.2.1 = some (tyX4 k) := by decide +kernel
def RX5 : String := "OneClock$Reader"
def TX5 : u_T := fun k => match k with
  | 0 => ("OneClock$Reader", "tape", "LOneClock$Tape;", true)
  | 1 => ("OneClock$Reader", "plan", "LOneClock$Plan;", true)
  | 2 => ("OneClock$Reader", "names", "[I", true)
  | 3 => ("OneClock$Reader", "at", "I", false)
  | 4 => ("OneClock$Reader", "kind", "I", false)
  | 5 => ("OneClock$Reader", "fault", "I", false)
  | 6 => ("OneClock$Reader", "faultPlace", "I", false)
  | 7 => ("OneClock$Reader", "slip", "I", false)
  | _ => ("OneClock$Reader", "slipPlace", "I", false)
def tyX5 : Nat → FieldType := fun k => match k with
  | 0 => .object "OneClock$Tape"
  | 1 => .object "OneClock$Plan"
  | 2 => .array .int
  | 3 => .int
  | 4 => .int
  | 5 => .int
  | 6 => .int
  | 7 => .int
  | _ => .int
theorem nmX5 : ∀ a, a < 9 → ∀ b, b < 9 → a ≠ b → (TX5 a).2.1 ≠ (TX5 b).2.1 := by decide +kernel
theorem tyX5_ok : ∀ k, k < 9 → parseFieldDescriptor (TX5 k).2.2.1 = some (tyX5 k) := by decide +kernel
def RX6 : String := "OneClock$Slots"
def TX6 : u_T := fun k => match k with
  | 0 => ("OneClock$Slots", "rows", "[I", true)
  | _ => ("OneClock$Slots", "held", "[Z", true)
def tyX6 : Nat → FieldType := fun k => match k with
  | 0 => .array .int
  | _ => .array .boolean
theorem nmX6 : ∀ a, a < 2 → ∀ b, b < 2 → a ≠ b → (TX6 a).2.1 ≠ (TX6 b).2.1 := by decide +kernel
theorem tyX6_ok : ∀ k, k < 2 → parseFieldDescriptor (TX6 k).2.2.1 = some (tyX6 k) := by decide +kernel
def RX7 : String := "OneClock$Tape"
def TX7 : u_T := fun k => match k with
  | 0 => ("OneClock$Tape", "bytes", "[B", true)
  | 1 => ("OneClock$Tape", "length", "I", false)
  | 2 => ("OneClock$Tape", "kinds", "[I", true)
  | 3 => ("OneClock$Tape", "values", "[I", true)
  | 4 => ("OneClock$Tape", "starts", "[I", true)
  | _ => ("OneClock$Tape", "ends", "[I", true)
def tyX7 : Nat → FieldType := fun k => match k with
  | 0 => .array .byte
  | 1 => .int
  | 2 => .array .int
  | 3 => .array .int
  | 4 => .array .int
  | _ => .array .int
theorem nmX7 : ∀ a, a < 6 → ∀ b, b < 6 → a ≠ b → (TX7 a).2.1 ≠ (TX7 b).2.1 := by decide +kernel
theorem tyX7_ok : ∀ k, k < 6 → parseFieldDescriptor (TX7 k).2.2.1 = some (tyX7 k) := by decide +kernel
def RX8 : String := "OneClock$Witness"
def TX8 : u_T := fun k => match k with
  | 0 => ("OneClock$Witness", "plan", "LOneClock$Plan;", true)
  | 1 => ("OneClock$Witness", "trial", "LOneClock$Play;", true)
  | 2 => ("OneClock$Witness", "boards", "[I", true)
  | 3 => ("OneClock$Witness", "minutes", "[I", true)
  | 4 => ("OneClock$Witness", "saved", "[I", true)
  | _ => ("OneClock$Witness", "size", "I", false)
def tyX8 : Nat → FieldType := fun k => match k with
  | 0 => .object "OneClock$Plan"
  | 1 => .object "OneClock$Play"
  | 2 => .array .int
  | 3 => .array .int
  | 4 => .array .int
  | _ => .int
theorem nmX8 : ∀ a, a < 6 → ∀ b, b < 6 → a ≠ b → (TX8 a).2.1 ≠ (TX8 b).2.1 := by decide +kernel
theorem tyX8_ok : ∀ k, k < 6 → parseFieldDescriptor (TX8 k).2.2.1 = some (tyX8 k) := by decide +kernel
def RX9 : String := "OneClock"
def TX9 : u_T := fun k => match k with
  | 0 => ("OneClock", "tape", "LOneClock$Tape;", true)
  | 1 => ("OneClock", "plan", "LOneClock$Plan;", true)
  | 2 => ("OneClock", "next", "LOneClock$Plan;", true)
  | 3 => ("OneClock", "reader", "LOneClock$Reader;", true)
  | 4 => ("OneClock", "now", "LOneClock$Play;", true)
  | 5 => ("OneClock", "guide", "LOneClock$Guide;", true)
  | 6 => ("OneClock", "witness", "LOneClock$Witness;", true)
  | 7 => ("OneClock", "past", "LOneClock$Past;", true)
  | _ => ("OneClock", "slots", "LOneClock$Slots;", true)
def tyX9 : Nat → FieldType := fun k => match k with
  | 0 => .object "OneClock$Tape"
  | 1 => .object "OneClock$Plan"
  | 2 => .object "OneClock$Plan"
  | 3 => .object "OneClock$Reader"
  | 4 => .object "OneClock$Play"
  | 5 => .object "OneClock$Guide"
  | 6 => .object "OneClock$Witness"
  | 7 => .object "OneClock$Past"
  | _ => .object "OneClock$Slots"
theorem nmX9 : ∀ a, a < 9 → ∀ b, b < 9 → a ≠ b → (TX9 a).2.1 ≠ (TX9 b).2.1 := by decide +kernel
theorem tyX9_ok : ∀ k, k < 9 → parseFieldDescriptor (TX9 k).2.2.1 = some (tyX9 k) := by decide +kernel
def RX10 : String := "OneClockModel"
def TX10 : u_T := fun k => match k with
  | 0 => ("OneClockModel", "thrown", "I", false)
  | 1 => ("OneClockModel", "tape", "[B", true)
  | 2 => ("OneClockModel", "taped", "I", false)
  | 3 => ("OneClockModel", "text", "[B", true)
  | 4 => ("OneClockModel", "size", "I", false)
  | 5 => ("OneClockModel", "tKind", "[I", true)
  | 6 => ("OneClockModel", "tPlace", "[I", true)
  | 7 => ("OneClockModel", "tValue", "[I", true)
  | 8 => ("OneClockModel", "tName", "[J", true)
  | 9 => ("OneClockModel", "keys", "[J", true)
  | 10 => ("OneClockModel", "tokens", "I", false)
  | 11 => ("OneClockModel", "t", "I", false)
  | 12 => ("OneClockModel", "open", "I", false)
  | 13 => ("OneClockModel", "fault", "I", false)
  | 14 => ("OneClockModel", "faultPlace", "I", false)
  | 15 => ("OneClockModel", "worst", "I", false)
  | 16 => ("OneClockModel", "worstPlace", "I", false)
  | 17 => ("OneClockModel", "place", "I", false)
  | 18 => ("OneClockModel", "live", "I", false)
  | 19 => ("OneClockModel", "side", "I", false)
  | 20 => ("OneClockModel", "names", "I", false)
  | 21 => ("OneClockModel", "nameOf", "[J", true)
  | 22 => ("OneClockModel", "boards", "[I", true)
  | 23 => ("OneClockModel", "movesTold", "[I", true)
  | 24 => ("OneClockModel", "lostOf", "[I", true)
  | 25 => ("OneClockModel", "thinks", "[I", true)
  | 26 => ("OneClockModel", "thinkOf", "[I", true)
  | 27 => ("OneClockModel", "step", "[I", true)
  | 28 => ("OneClockModel", "clock", "[I", true)
  | 29 => ("OneClockModel", "flag", "[I", true)
  | 30 => ("OneClockModel", "lawFirst", "[I", true)
  | 31 => ("OneClockModel", "lawLast", "[I", true)
  | 32 => ("OneClockModel", "branches", "I", false)
  | 33 => ("OneClockModel", "hasTest", "[Z", true)
  | 34 => ("OneClockModel", "testFrom", "[I", true)
  | 35 => ("OneClockModel", "testMid", "[I", true)
  | 36 => ("OneClockModel", "testTo", "[I", true)
  | 37 => ("OneClockModel", "termTo", "[I", true)
  | 38 => ("OneClockModel", "codes", "I", false)
  | 39 => ("OneClockModel", "code", "[I", true)
  | 40 => ("OneClockModel", "codeInt", "[I", true)
  | 41 => ("OneClockModel", "waits", "[I", true)
  | 42 => ("OneClockModel", "waiting", "I", false)
  | 43 => ("OneClockModel", "variables", "[I", true)
  | 44 => ("OneClockModel", "pile", "[I", true)
  | 45 => ("OneClockModel", "isBroken", "Z", false)
  | 46 => ("OneClockModel", "now", "[I", true)
  | 47 => ("OneClockModel", "row", "[I", true)
  | 48 => ("OneClockModel", "later", "[I", true)
  | 49 => ("OneClockModel", "hasty", "I", false)
  | 50 => ("OneClockModel", "undos", "I", false)
  | 51 => ("OneClockModel", "history", "[I", true)
  | 52 => ("OneClockModel", "boardAt", "[I", true)
  | 53 => ("OneClockModel", "thinkAt", "[I", true)
  | 54 => ("OneClockModel", "bestBoard", "[I", true)
  | 55 => ("OneClockModel", "bestThink", "[I", true)
  | 56 => ("OneClockModel", "stood", "[I", true)
  | 57 => ("OneClockModel", "bestLong", "I", false)
  | 58 => ("OneClockModel", "bestSum", "I", false)
  | 59 => ("OneClockModel", "isFound", "Z", false)
  | 60 => ("OneClockModel", "order", "[I", true)
  | 61 => ("OneClockModel", "bestOrder", "[I", true)
  | 62 => ("OneClockModel", "told", "I", false)
  | 63 => ("OneClockModel", "toldBoard", "[I", true)
  | 64 => ("OneClockModel", "toldMinute", "[I", true)
  | 65 => ("OneClockModel", "isHeld", "[Z", true)
  | _ => ("OneClockModel", "held", "[I", true)
def tyX10 : Nat → FieldType := fun k => match k with
  | 0 => .int
  | 1 => .array .byte
  | 2 => .int
  | 3 => .array .byte
  | 4 => .int
  | 5 => .array .int
  | 6 => .array .int
  | 7 => .array .int
  | 8 => .array .long
  | 9 => .array .long
  | 10 => .int
  | 11 => .int
  | 12 => .int
  | 13 => .int
  | 14 => .int
  | 15 => .int
  | 16 => .int
  | 17 => .int
  | 18 => .int
  | 19 => .int
  | 20 => .int
  | 21 => .array .long
  | 22 => .array .int
  | 23 => .array .int
  | 24 => .array .int
  | 25 => .array .int
  | 26 => .array .int
  | 27 => .array .int
  | 28 => .array .int
  | 29 => .array .int
  | 30 => .array .int
  | 31 => .array .int
  | 32 => .int
  | 33 => .array .boolean
  | 34 => .array .int
  | 35 => .array .int
  | 36 => .array .int
  | 37 => .array .int
  | 38 => .int
  | 39 => .array .int
  | 40 => .array .int
  | 41 => .array .int
  | 42 => .int
  | 43 => .array .int
  | 44 => .array .int
  | 45 => .boolean
  | 46 => .array .int
  | 47 => .array .int
  | 48 => .array .int
  | 49 => .int
  | 50 => .int
  | 51 => .array .int
  | 52 => .array .int
  | 53 => .array .int
  | 54 => .array .int
  | 55 => .array .int
  | 56 => .array .int
  | 57 => .int
  | 58 => .int
  | 59 => .boolean
  | 60 => .array .int
  | 61 => .array .int
  | 62 => .int
  | 63 => .array .int
  | 64 => .array .int
  | 65 => .array .boolean
  | _ => .array .int
theorem nmX10 : ∀ a, a < 67 → ∀ b, b < 67 → a ≠ b → (TX10 a).2.1 ≠ (TX10 b).2.1 := by decide +kernel
theorem tyX10_ok : ∀ k, k < 67 → parseFieldDescriptor (TX10 k).2.2.1 = some (tyX10 k) := by decide +kernel
def RL : String := "OneClockLaw"
def RJ0 : String := "java/lang/String"
def RJ1 : String := "java/lang/StringLatin1"
def RJ3 : String := "jdk/internal/util/Preconditions"
def RJ6 : String := "java/lang/Integer"
abbrev vwCl : List vw_C := [(RX0, TX0, 5), (RX1, TX1, 18), (RX2, TX2, 3), (RX3, TX3, 10), (RX4, TX4, 11), (RX5, TX5, 9), (RX6, TX6, 2), (RX7, TX7, 6), (RX8, TX8, 6), (RX9, TX9, 9), (RX10, TX10, 67)]
abbrev cX0_init : ByteArray := prog_2_method_1_code
def yX0_init : MethodName := ⟨RX0, "<init>", "()V"⟩
abbrev cX0_add : ByteArray := prog_2_method_2_code
def yX0_add : MethodName := ⟨RX0, "add", "(II)I"⟩
abbrev cX0_aimAtEnd : ByteArray := prog_2_method_3_code
def yX0_aimAtEnd : MethodName := ⟨RX0, "aimAtEnd", "(I)V"⟩
abbrev cX0_copyFrom : ByteArray := prog_2_method_4_code
def yX0_copyFrom : MethodName := ⟨RX0, "copyFrom", "(LOneClock$Code;)V"⟩
abbrev cX0_setFacts : ByteArray := prog_2_method_5_code
def yX0_setFacts : MethodName := ⟨RX0, "setFacts", "(IIIIII)V"⟩
abbrev cX0_valueOf : ByteArray := prog_2_method_6_code
def yX0_valueOf : MethodName := ⟨RX0, "valueOf", "(I)I"⟩
abbrev cX1_init : ByteArray := prog_3_method_1_code
def yX1_init : MethodName := ⟨RX1, "<init>", "(LOneClock$Plan;LOneClock$Play;)V"⟩
abbrev cX1_playChanges : ByteArray := prog_3_method_2_code
def yX1_playChanges : MethodName := ⟨RX1, "playChanges", "()V"⟩
abbrev cX1_textChanges : ByteArray := prog_3_method_3_code
def yX1_textChanges : MethodName := ⟨RX1, "textChanges", "()V"⟩
abbrev cX1_findRow : ByteArray := prog_3_method_4_code
def yX1_findRow : MethodName := ⟨RX1, "findRow", "(I)V"⟩
abbrev cX1_tryRows : ByteArray := prog_3_method_5_code
def yX1_tryRows : MethodName := ⟨RX1, "tryRows", "(I)V"⟩
abbrev cX1_tryMovesAt : ByteArray := prog_3_method_6_code
def yX1_tryMovesAt : MethodName := ⟨RX1, "tryMovesAt", "(II)V"⟩
abbrev cX1_keepRow : ByteArray := prog_3_method_7_code
def yX1_keepRow : MethodName := ⟨RX1, "keepRow", "(II)V"⟩
abbrev cX1_findEnd : ByteArray := prog_3_method_8_code
def yX1_findEnd : MethodName := ⟨RX1, "findEnd", "(II)V"⟩
abbrev cX1_findRule : ByteArray := prog_3_method_9_code
def yX1_findRule : MethodName := ⟨RX1, "findRule", "()V"⟩
abbrev cX1_findDrops : ByteArray := prog_3_method_10_code
def yX1_findDrops : MethodName := ⟨RX1, "findDrops", "(II)V"⟩
abbrev cX1_areOpen : ByteArray := prog_3_method_11_code
def yX1_areOpen : MethodName := ⟨RX1, "areOpen", "(I)Z"⟩
abbrev cX1_isIn : ByteArray := prog_3_method_12_code
def yX1_isIn : MethodName := ⟨RX1, "isIn", "(II)Z"⟩
abbrev cX1_letGoAll : ByteArray := prog_3_method_13_code
def yX1_letGoAll : MethodName := ⟨RX1, "letGoAll", "(I)V"⟩
abbrev cX1_findOffer : ByteArray := prog_3_method_14_code
def yX1_findOffer : MethodName := ⟨RX1, "findOffer", "(II)V"⟩
abbrev cX1_hasteOf : ByteArray := prog_3_method_15_code
def yX1_hasteOf : MethodName := ⟨RX1, "hasteOf", "(III)I"⟩
abbrev cX1_spareAt : ByteArray := prog_3_method_16_code
def yX1_spareAt : MethodName := ⟨RX1, "spareAt", "(III)I"⟩
abbrev cX1_findAgreed : ByteArray := prog_3_method_17_code
def yX1_findAgreed : MethodName := ⟨RX1, "findAgreed", "(IIII)V"⟩
abbrev cX1_findSeats : ByteArray := prog_3_method_18_code
def yX1_findSeats : MethodName := ⟨RX1, "findSeats", "(II)V"⟩
abbrev cX1_orderNext : ByteArray := prog_3_method_19_code
def yX1_orderNext : MethodName := ⟨RX1, "orderNext", "()Z"⟩
abbrev cX1_swapSeats : ByteArray := prog_3_method_20_code
def yX1_swapSeats : MethodName := ⟨RX1, "swapSeats", "(II)V"⟩
abbrev cX1_findShares : ByteArray := prog_3_method_21_code
def yX1_findShares : MethodName := ⟨RX1, "findShares", "(II)V"⟩
abbrev cX1_wonWith : ByteArray := prog_3_method_22_code
def yX1_wonWith : MethodName := ⟨RX1, "wonWith", "(III)I"⟩
abbrev cX1_keepMost : ByteArray := prog_3_method_23_code
def yX1_keepMost : MethodName := ⟨RX1, "keepMost", "(II)V"⟩
abbrev cX1_follow : ByteArray := prog_3_method_24_code
def yX1_follow : MethodName := ⟨RX1, "follow", "(II)V"⟩
abbrev cX1_choose : ByteArray := prog_3_method_25_code
def yX1_choose : MethodName := ⟨RX1, "choose", "(II)I"⟩
abbrev cX2_init : ByteArray := prog_4_method_1_code
def yX2_init : MethodName := ⟨RX2, "<init>", "()V"⟩
abbrev cX2_push : ByteArray := prog_4_method_2_code
def yX2_push : MethodName := ⟨RX2, "push", "(LOneClock$Play;)V"⟩
abbrev cX2_pop : ByteArray := prog_4_method_3_code
def yX2_pop : MethodName := ⟨RX2, "pop", "(LOneClock$Play;)Z"⟩
abbrev cX2_clear : ByteArray := prog_4_method_4_code
def yX2_clear : MethodName := ⟨RX2, "clear", "()V"⟩
abbrev cX3_init : ByteArray := prog_5_method_1_code
def yX3_init : MethodName := ⟨RX3, "<init>", "()V"⟩
abbrev cX3_clear : ByteArray := prog_5_method_2_code
def yX3_clear : MethodName := ⟨RX3, "clear", "()V"⟩
abbrev cX3_thinkOneMinute : ByteArray := prog_5_method_3_code
def yX3_thinkOneMinute : MethodName := ⟨RX3, "thinkOneMinute", "()V"⟩
abbrev cX3_tellLaw : ByteArray := prog_5_method_4_code
def yX3_tellLaw : MethodName := ⟨RX3, "tellLaw", "(III)V"⟩
abbrev cX3_copyFrom : ByteArray := prog_5_method_5_code
def yX3_copyFrom : MethodName := ⟨RX3, "copyFrom", "(LOneClock$Plan;)V"⟩
abbrev cX3_ask : ByteArray := prog_5_method_6_code
def yX3_ask : MethodName := ⟨RX3, "ask", "(II)I"⟩
abbrev cX4_init : ByteArray := prog_6_method_1_code
def yX4_init : MethodName := ⟨RX4, "<init>", "(LOneClock$Plan;)V"⟩
abbrev cX4_setOut : ByteArray := prog_6_method_2_code
def yX4_setOut : MethodName := ⟨RX4, "setOut", "()V"⟩
abbrev cX4_copyFrom : ByteArray := prog_6_method_3_code
def yX4_copyFrom : MethodName := ⟨RX4, "copyFrom", "(LOneClock$Play;)V"⟩
abbrev cX4_writeTo : ByteArray := prog_6_method_4_code
def yX4_writeTo : MethodName := ⟨RX4, "writeTo", "([II)V"⟩
abbrev cX4_readFrom : ByteArray := prog_6_method_5_code
def yX4_readFrom : MethodName := ⟨RX4, "readFrom", "([II)V"⟩
abbrev cX4_isOpen : ByteArray := prog_6_method_6_code
def yX4_isOpen : MethodName := ⟨RX4, "isOpen", "(I)Z"⟩
abbrev cX4_openBoards : ByteArray := prog_6_method_7_code
def yX4_openBoards : MethodName := ⟨RX4, "openBoards", "()I"⟩
abbrev cX4_isOver : ByteArray := prog_6_method_8_code
def yX4_isOver : MethodName := ⟨RX4, "isOver", "()Z"⟩
abbrev cX4_made : ByteArray := prog_6_method_9_code
def yX4_made : MethodName := ⟨RX4, "made", "(I)I"⟩
abbrev cX4_stepsTo : ByteArray := prog_6_method_10_code
def yX4_stepsTo : MethodName := ⟨RX4, "stepsTo", "(I)I"⟩
abbrev cX4_soonest : ByteArray := prog_6_method_11_code
def yX4_soonest : MethodName := ⟨RX4, "soonest", "(I)I"⟩
abbrev cX4_ask : ByteArray := prog_6_method_12_code
def yX4_ask : MethodName := ⟨RX4, "ask", "(IIII)I"⟩
abbrev cX4_gainOf : ByteArray := prog_6_method_13_code
def yX4_gainOf : MethodName := ⟨RX4, "gainOf", "(II)I"⟩
abbrev cX4_makeMove : ByteArray := prog_6_method_14_code
def yX4_makeMove : MethodName := ⟨RX4, "makeMove", "(III)I"⟩
abbrev cX4_makeOffer : ByteArray := prog_6_method_15_code
def yX4_makeOffer : MethodName := ⟨RX4, "makeOffer", "(I)I"⟩
abbrev cX4_letGo : ByteArray := prog_6_method_16_code
def yX4_letGo : MethodName := ⟨RX4, "letGo", "(I)V"⟩
abbrev cX4_dropFlag : ByteArray := prog_6_method_17_code
def yX4_dropFlag : MethodName := ⟨RX4, "dropFlag", "(I)V"⟩
abbrev cX5_init : ByteArray := prog_7_method_1_code
def yX5_init : MethodName := ⟨RX5, "<init>", "(LOneClock$Tape;LOneClock$Plan;)V"⟩
abbrev cX5_readText : ByteArray := prog_7_method_2_code
def yX5_readText : MethodName := ⟨RX5, "readText", "()I"⟩
abbrev cX5_startAnew : ByteArray := prog_7_method_3_code
def yX5_startAnew : MethodName := ⟨RX5, "startAnew", "()V"⟩
abbrev cX5_readBoard : ByteArray := prog_7_method_4_code
def yX5_readBoard : MethodName := ⟨RX5, "readBoard", "()V"⟩
abbrev cX5_readNumber : ByteArray := prog_7_method_5_code
def yX5_readNumber : MethodName := ⟨RX5, "readNumber", "(III)I"⟩
abbrev cX5_readThinks : ByteArray := prog_7_method_6_code
def yX5_readThinks : MethodName := ⟨RX5, "readThinks", "()V"⟩
abbrev cX5_readLaw : ByteArray := prog_7_method_7_code
def yX5_readLaw : MethodName := ⟨RX5, "readLaw", "(I)V"⟩
abbrev cX5_readSum : ByteArray := prog_7_method_8_code
def yX5_readSum : MethodName := ⟨RX5, "readSum", "(I)V"⟩
abbrev cX5_readProduct : ByteArray := prog_7_method_9_code
def yX5_readProduct : MethodName := ⟨RX5, "readProduct", "(I)V"⟩
abbrev cX5_readUnit : ByteArray := prog_7_method_10_code
def yX5_readUnit : MethodName := ⟨RX5, "readUnit", "(I)V"⟩
abbrev cX5_readInt : ByteArray := prog_7_method_11_code
def yX5_readInt : MethodName := ⟨RX5, "readInt", "(II)I"⟩
abbrev cX5_findName : ByteArray := prog_7_method_12_code
def yX5_findName : MethodName := ⟨RX5, "findName", "()I"⟩
abbrev cX5_pass : ByteArray := prog_7_method_13_code
def yX5_pass : MethodName := ⟨RX5, "pass", "(I)Z"⟩
abbrev cX5_fail : ByteArray := prog_7_method_14_code
def yX5_fail : MethodName := ⟨RX5, "fail", "(I)V"⟩
abbrev cX5_noteSlip : ByteArray := prog_7_method_15_code
def yX5_noteSlip : MethodName := ⟨RX5, "noteSlip", "(II)V"⟩
abbrev cX6_init : ByteArray := prog_8_method_1_code
def yX6_init : MethodName := ⟨RX6, "<init>", "()V"⟩
abbrev cX6_put : ByteArray := prog_8_method_2_code
def yX6_put : MethodName := ⟨RX6, "put", "(ILOneClock$Play;)V"⟩
abbrev cX6_take : ByteArray := prog_8_method_3_code
def yX6_take : MethodName := ⟨RX6, "take", "(ILOneClock$Play;)V"⟩
abbrev cX6_used : ByteArray := prog_8_method_4_code
def yX6_used : MethodName := ⟨RX6, "used", "()I"⟩
abbrev cX6_clear : ByteArray := prog_8_method_5_code
def yX6_clear : MethodName := ⟨RX6, "clear", "()V"⟩
abbrev cX7_init : ByteArray := prog_9_method_1_code
def yX7_init : MethodName := ⟨RX7, "<init>", "()V"⟩
abbrev cX7_addInt : ByteArray := prog_9_method_2_code
def yX7_addInt : MethodName := ⟨RX7, "addInt", "(I)V"⟩
abbrev cX7_scan : ByteArray := prog_9_method_3_code
def yX7_scan : MethodName := ⟨RX7, "scan", "()V"⟩
abbrev cX7_skipBlanks : ByteArray := prog_9_method_4_code
def yX7_skipBlanks : MethodName := ⟨RX7, "skipBlanks", "(I)I"⟩
abbrev cX7_endOfThing : ByteArray := prog_9_method_5_code
def yX7_endOfThing : MethodName := ⟨RX7, "endOfThing", "(I)I"⟩
abbrev cX7_kindOfThing : ByteArray := prog_9_method_6_code
def yX7_kindOfThing : MethodName := ⟨RX7, "kindOfThing", "(II)I"⟩
abbrev cX7_isWord : ByteArray := prog_9_method_7_code
def yX7_isWord : MethodName := ⟨RX7, "isWord", "(III)Z"⟩
abbrev cX7_valueOfDigits : ByteArray := prog_9_method_8_code
def yX7_valueOfDigits : MethodName := ⟨RX7, "valueOfDigits", "(II)I"⟩
abbrev cX7_areSame : ByteArray := prog_9_method_9_code
def yX7_areSame : MethodName := ⟨RX7, "areSame", "(II)Z"⟩
abbrev cX7_isBlank : ByteArray := prog_9_method_10_code
def yX7_isBlank : MethodName := ⟨RX7, "isBlank", "(I)Z"⟩
abbrev cX7_isLetter : ByteArray := prog_9_method_11_code
def yX7_isLetter : MethodName := ⟨RX7, "isLetter", "(I)Z"⟩
abbrev cX7_isDigit : ByteArray := prog_9_method_12_code
def yX7_isDigit : MethodName := ⟨RX7, "isDigit", "(I)Z"⟩
abbrev cX7_isSign : ByteArray := prog_9_method_13_code
def yX7_isSign : MethodName := ⟨RX7, "isSign", "(I)Z"⟩
abbrev cX8_init : ByteArray := prog_10_method_1_code
def yX8_init : MethodName := ⟨RX8, "<init>", "(LOneClock$Plan;)V"⟩
abbrev cX8_add : ByteArray := prog_10_method_2_code
def yX8_add : MethodName := ⟨RX8, "add", "(II)I"⟩
abbrev cX8_rowsThatFit : ByteArray := prog_10_method_3_code
def yX8_rowsThatFit : MethodName := ⟨RX8, "rowsThatFit", "(I)I"⟩
abbrev cX8_rowsFrom : ByteArray := prog_10_method_4_code
def yX8_rowsFrom : MethodName := ⟨RX8, "rowsFrom", "(II)I"⟩
abbrev cX8_canThink : ByteArray := prog_10_method_5_code
def yX8_canThink : MethodName := ⟨RX8, "canThink", "(III)Z"⟩
abbrev cX9_init : ByteArray := prog_1_method_1_code
def yX9_init : MethodName := ⟨RX9, "<init>", "()V"⟩
abbrev cX9_feed : ByteArray := prog_1_method_2_code
def yX9_feed : MethodName := ⟨RX9, "feed", "(IIIII)I"⟩
abbrev cX9_back : ByteArray := prog_1_method_3_code
def yX9_back : MethodName := ⟨RX9, "back", "(I)I"⟩
abbrev cX9_read : ByteArray := prog_1_method_4_code
def yX9_read : MethodName := ⟨RX9, "read", "()I"⟩
abbrev cX9_place : ByteArray := prog_1_method_5_code
def yX9_place : MethodName := ⟨RX9, "place", "()I"⟩
abbrev cX9_board : ByteArray := prog_1_method_6_code
def yX9_board : MethodName := ⟨RX9, "board", "(II)I"⟩
abbrev cX9_sum : ByteArray := prog_1_method_7_code
def yX9_sum : MethodName := ⟨RX9, "sum", "()I"⟩
abbrev cX9_move : ByteArray := prog_1_method_8_code
def yX9_move : MethodName := ⟨RX9, "move", "(II)I"⟩
abbrev cX9_offer : ByteArray := prog_1_method_9_code
def yX9_offer : MethodName := ⟨RX9, "offer", "(I)I"⟩
abbrev cX9_drop : ByteArray := prog_1_method_10_code
def yX9_drop : MethodName := ⟨RX9, "drop", "(I)Z"⟩
abbrev cX9_pause : ByteArray := prog_1_method_11_code
def yX9_pause : MethodName := ⟨RX9, "pause", "(I)I"⟩
abbrev cX9_undo : ByteArray := prog_1_method_12_code
def yX9_undo : MethodName := ⟨RX9, "undo", "()Z"⟩
abbrev cX9_begins : ByteArray := prog_1_method_13_code
def yX9_begins : MethodName := ⟨RX9, "begins", "(I)I"⟩
abbrev cX9_best : ByteArray := prog_1_method_14_code
def yX9_best : MethodName := ⟨RX9, "best", "(I)I"⟩
abbrev cX9_bestAt : ByteArray := prog_1_method_15_code
def yX9_bestAt : MethodName := ⟨RX9, "bestAt", "(II)I"⟩
abbrev cX9_rule : ByteArray := prog_1_method_16_code
def yX9_rule : MethodName := ⟨RX9, "rule", "(III)I"⟩
abbrev cX9_bestRule : ByteArray := prog_1_method_17_code
def yX9_bestRule : MethodName := ⟨RX9, "bestRule", "(I)I"⟩
abbrev cX9_dropBest : ByteArray := prog_1_method_18_code
def yX9_dropBest : MethodName := ⟨RX9, "dropBest", "(III)I"⟩
abbrev cX9_offerBest : ByteArray := prog_1_method_19_code
def yX9_offerBest : MethodName := ⟨RX9, "offerBest", "(III)I"⟩
abbrev cX9_haste : ByteArray := prog_1_method_20_code
def yX9_haste : MethodName := ⟨RX9, "haste", "(III)I"⟩
abbrev cX9_spare : ByteArray := prog_1_method_21_code
def yX9_spare : MethodName := ⟨RX9, "spare", "(III)I"⟩
abbrev cX9_agreed : ByteArray := prog_1_method_22_code
def yX9_agreed : MethodName := ⟨RX9, "agreed", "(IIIII)I"⟩
abbrev cX9_seats : ByteArray := prog_1_method_23_code
def yX9_seats : MethodName := ⟨RX9, "seats", "(II)I"⟩
abbrev cX9_seatAt : ByteArray := prog_1_method_24_code
def yX9_seatAt : MethodName := ⟨RX9, "seatAt", "(III)I"⟩
abbrev cX9_shared : ByteArray := prog_1_method_25_code
def yX9_shared : MethodName := ⟨RX9, "shared", "(III)I"⟩
abbrev cX9_tell : ByteArray := prog_1_method_26_code
def yX9_tell : MethodName := ⟨RX9, "tell", "(II)I"⟩
abbrev cX9_forget : ByteArray := prog_1_method_27_code
def yX9_forget : MethodName := ⟨RX9, "forget", "()I"⟩
abbrev cX9_fits : ByteArray := prog_1_method_28_code
def yX9_fits : MethodName := ⟨RX9, "fits", "(I)I"⟩
abbrev cX9_hold : ByteArray := prog_1_method_29_code
def yX9_hold : MethodName := ⟨RX9, "hold", "(I)Z"⟩
abbrev cX9_restore : ByteArray := prog_1_method_30_code
def yX9_restore : MethodName := ⟨RX9, "restore", "(I)Z"⟩
abbrev cX9_count : ByteArray := prog_1_method_31_code
def yX9_count : MethodName := ⟨RX9, "count", "(I)I"⟩
abbrev cX9_isBoard : ByteArray := prog_1_method_32_code
def yX9_isBoard : MethodName := ⟨RX9, "isBoard", "(I)Z"⟩
abbrev cX9_isThink : ByteArray := prog_1_method_33_code
def yX9_isThink : MethodName := ⟨RX9, "isThink", "(I)Z"⟩
abbrev cX9_isRule : ByteArray := prog_1_method_34_code
def yX9_isRule : MethodName := ⟨RX9, "isRule", "(II)Z"⟩
abbrev cX9_isDepth : ByteArray := prog_1_method_35_code
def yX9_isDepth : MethodName := ⟨RX9, "isDepth", "(I)Z"⟩
abbrev cX9_isSlot : ByteArray := prog_1_method_36_code
def yX9_isSlot : MethodName := ⟨RX9, "isSlot", "(I)Z"⟩
abbrev cX9_isHalf : ByteArray := prog_1_method_37_code
def yX9_isHalf : MethodName := ⟨RX9, "isHalf", "(I)Z"⟩
abbrev cX9_canPlay : ByteArray := prog_1_method_38_code
def yX9_canPlay : MethodName := ⟨RX9, "canPlay", "(I)Z"⟩
abbrev cX9_noteWhatStands : ByteArray := prog_1_method_39_code
def yX9_noteWhatStands : MethodName := ⟨RX9, "noteWhatStands", "()V"⟩
abbrev cX10_init : ByteArray := prog_12_method_2_code
def yX10_init : MethodName := ⟨RX10, "<init>", "()V"⟩
abbrev cX10_feed : ByteArray := prog_12_method_3_code
def yX10_feed : MethodName := ⟨RX10, "feed", "(IIIII)I"⟩
abbrev cX10_put : ByteArray := prog_12_method_4_code
def yX10_put : MethodName := ⟨RX10, "put", "(I)V"⟩
abbrev cX10_back : ByteArray := prog_12_method_5_code
def yX10_back : MethodName := ⟨RX10, "back", "(I)I"⟩
abbrev cX10_byteAt : ByteArray := prog_12_method_6_code
def yX10_byteAt : MethodName := ⟨RX10, "byteAt", "(I)I"⟩
abbrev cX10_isDigit : ByteArray := prog_12_method_7_code
def yX10_isDigit : MethodName := ⟨RX10, "isDigit", "(I)Z"⟩
abbrev cX10_isLetter : ByteArray := prog_12_method_8_code
def yX10_isLetter : MethodName := ⟨RX10, "isLetter", "(I)Z"⟩
abbrev cX10_appends : ByteArray := prog_12_method_9_code
def yX10_appends : MethodName := ⟨RX10, "appends", "(JI)J"⟩
abbrev cX10_word : ByteArray := prog_12_method_10_code
def yX10_word : MethodName := ⟨RX10, "word", "(IIIIIII)J"⟩
abbrev cX10_token : ByteArray := prog_12_method_11_code
def yX10_token : MethodName := ⟨RX10, "token", "(IIIJ)V"⟩
abbrev cX10_cut : ByteArray := prog_12_method_12_code
def yX10_cut : MethodName := ⟨RX10, "cut", "()V"⟩
abbrev cX10_sign : ByteArray := prog_12_method_13_code
def yX10_sign : MethodName := ⟨RX10, "sign", "(III)I"⟩
abbrev cX10_is : ByteArray := prog_12_method_14_code
def yX10_is : MethodName := ⟨RX10, "is", "(I)Z"⟩
abbrev cX10_fail : ByteArray := prog_12_method_15_code
def yX10_fail : MethodName := ⟨RX10, "fail", "(I)V"⟩
abbrev cX10_wrong : ByteArray := prog_12_method_16_code
def yX10_wrong : MethodName := ⟨RX10, "wrong", "(II)V"⟩
abbrev cX10_goesOn : ByteArray := prog_12_method_17_code
def yX10_goesOn : MethodName := ⟨RX10, "goesOn", "()V"⟩
abbrev cX10_must : ByteArray := prog_12_method_18_code
def yX10_must : MethodName := ⟨RX10, "must", "(I)V"⟩
abbrev cX10_plain : ByteArray := prog_12_method_19_code
def yX10_plain : MethodName := ⟨RX10, "plain", "(I)V"⟩
abbrev cX10_read : ByteArray := prog_12_method_20_code
def yX10_read : MethodName := ⟨RX10, "read", "()I"⟩
abbrev cX10_place : ByteArray := prog_12_method_21_code
def yX10_place : MethodName := ⟨RX10, "place", "()I"⟩
abbrev cX10_tell : ByteArray := prog_12_method_22_code
def yX10_tell : MethodName := ⟨RX10, "tell", "()V"⟩
abbrev cX10_known : ByteArray := prog_12_method_23_code
def yX10_known : MethodName := ⟨RX10, "known", "()I"⟩
abbrev cX10_bounded : ByteArray := prog_12_method_24_code
def yX10_bounded : MethodName := ⟨RX10, "bounded", "(II)I"⟩
abbrev cX10_tellBoard : ByteArray := prog_12_method_25_code
def yX10_tellBoard : MethodName := ⟨RX10, "tellBoard", "()V"⟩
abbrev cX10_tellThinks : ByteArray := prog_12_method_26_code
def yX10_tellThinks : MethodName := ⟨RX10, "tellThinks", "()V"⟩
abbrev cX10_tellLaw : ByteArray := prog_12_method_27_code
def yX10_tellLaw : MethodName := ⟨RX10, "tellLaw", "(I)V"⟩
abbrev cX10_term : ByteArray := prog_12_method_28_code
def yX10_term : MethodName := ⟨RX10, "term", "()V"⟩
abbrev cX10_emit : ByteArray := prog_12_method_29_code
def yX10_emit : MethodName := ⟨RX10, "emit", "(II)V"⟩
abbrev cX10_comesOut : ByteArray := prog_12_method_30_code
def yX10_comesOut : MethodName := ⟨RX10, "comesOut", "(Z)V"⟩
abbrev cX10_expression : ByteArray := prog_12_method_31_code
def yX10_expression : MethodName := ⟨RX10, "expression", "()V"⟩
abbrev cX10_unit : ByteArray := prog_12_method_32_code
def yX10_unit : MethodName := ⟨RX10, "unit", "()V"⟩
abbrev cX10_termOf : ByteArray := prog_12_method_33_code
def yX10_termOf : MethodName := ⟨RX10, "termOf", "(II)I"⟩
abbrev cX10_in : ByteArray := prog_12_method_34_code
def yX10_in : MethodName := ⟨RX10, "in", "(III)Z"⟩
abbrev cX10_isBoard : ByteArray := prog_12_method_35_code
def yX10_isBoard : MethodName := ⟨RX10, "isBoard", "(I)Z"⟩
abbrev cX10_begins0 : ByteArray := prog_12_method_36_code
def yX10_begins0 : MethodName := ⟨RX10, "begins0", "(I)V"⟩
abbrev cX10_copies : ByteArray := prog_12_method_37_code
def yX10_copies : MethodName := ⟨RX10, "copies", "()V"⟩
abbrev cX10_isOpen : ByteArray := prog_12_method_38_code
def yX10_isOpen : MethodName := ⟨RX10, "isOpen", "(I)Z"⟩
abbrev cX10_openAll : ByteArray := prog_12_method_39_code
def yX10_openAll : MethodName := ⟨RX10, "openAll", "()I"⟩
abbrev cX10_isOver : ByteArray := prog_12_method_40_code
def yX10_isOver : MethodName := ⟨RX10, "isOver", "()Z"⟩
abbrev cX10_stepsTo : ByteArray := prog_12_method_41_code
def yX10_stepsTo : MethodName := ⟨RX10, "stepsTo", "(I)I"⟩
abbrev cX10_beginsAt : ByteArray := prog_12_method_42_code
def yX10_beginsAt : MethodName := ⟨RX10, "beginsAt", "(I)I"⟩
abbrev cX10_tells : ByteArray := prog_12_method_43_code
def yX10_tells : MethodName := ⟨RX10, "tells", "(IIII)I"⟩
abbrev cX10_setsOf : ByteArray := prog_12_method_44_code
def yX10_setsOf : MethodName := ⟨RX10, "setsOf", "(III)V"⟩
abbrev cX10_worthOf : ByteArray := prog_12_method_45_code
def yX10_worthOf : MethodName := ⟨RX10, "worthOf", "(III)I"⟩
abbrev cX10_falls : ByteArray := prog_12_method_46_code
def yX10_falls : MethodName := ⟨RX10, "falls", "(I)V"⟩
abbrev cX10_movesFrom : ByteArray := prog_12_method_47_code
def yX10_movesFrom : MethodName := ⟨RX10, "movesFrom", "(III)I"⟩
abbrev cX10_movesNow : ByteArray := prog_12_method_48_code
def yX10_movesNow : MethodName := ⟨RX10, "movesNow", "(II)I"⟩
abbrev cX10_offersNow : ByteArray := prog_12_method_49_code
def yX10_offersNow : MethodName := ⟨RX10, "offersNow", "(I)I"⟩
abbrev cX10_drops : ByteArray := prog_12_method_50_code
def yX10_drops : MethodName := ⟨RX10, "drops", "(I)V"⟩
abbrev cX10_board : ByteArray := prog_12_method_51_code
def yX10_board : MethodName := ⟨RX10, "board", "(II)I"⟩
abbrev cX10_sum : ByteArray := prog_12_method_52_code
def yX10_sum : MethodName := ⟨RX10, "sum", "()I"⟩
abbrev cX10_keeps : ByteArray := prog_12_method_53_code
def yX10_keeps : MethodName := ⟨RX10, "keeps", "()V"⟩
abbrev cX10_isThink : ByteArray := prog_12_method_54_code
def yX10_isThink : MethodName := ⟨RX10, "isThink", "(I)Z"⟩
abbrev cX10_think : ByteArray := prog_12_method_55_code
def yX10_think : MethodName := ⟨RX10, "think", "(I)I"⟩
abbrev cX10_move : ByteArray := prog_12_method_56_code
def yX10_move : MethodName := ⟨RX10, "move", "(II)I"⟩
abbrev cX10_offer : ByteArray := prog_12_method_57_code
def yX10_offer : MethodName := ⟨RX10, "offer", "(I)I"⟩
abbrev cX10_drop : ByteArray := prog_12_method_58_code
def yX10_drop : MethodName := ⟨RX10, "drop", "(I)Z"⟩
abbrev cX10_pause : ByteArray := prog_12_method_59_code
def yX10_pause : MethodName := ⟨RX10, "pause", "(I)I"⟩
abbrev cX10_undo : ByteArray := prog_12_method_60_code
def yX10_undo : MethodName := ⟨RX10, "undo", "()Z"⟩
abbrev cX10_begins : ByteArray := prog_12_method_61_code
def yX10_begins : MethodName := ⟨RX10, "begins", "(I)I"⟩
abbrev cX10_notesRow : ByteArray := prog_12_method_62_code
def yX10_notesRow : MethodName := ⟨RX10, "notesRow", "(I)V"⟩
abbrev cX10_nextAt : ByteArray := prog_12_method_63_code
def yX10_nextAt : MethodName := ⟨RX10, "nextAt", "(I)Z"⟩
abbrev cX10_opens : ByteArray := prog_12_method_64_code
def yX10_opens : MethodName := ⟨RX10, "opens", "(I)V"⟩
abbrev cX10_findsBest : ByteArray := prog_12_method_65_code
def yX10_findsBest : MethodName := ⟨RX10, "findsBest", "(I)V"⟩
abbrev cX10_best : ByteArray := prog_12_method_66_code
def yX10_best : MethodName := ⟨RX10, "best", "(I)I"⟩
abbrev cX10_bestAt : ByteArray := prog_12_method_67_code
def yX10_bestAt : MethodName := ⟨RX10, "bestAt", "(II)I"⟩
abbrev cX10_nextBy : ByteArray := prog_12_method_68_code
def yX10_nextBy : MethodName := ⟨RX10, "nextBy", "(II)I"⟩
abbrev cX10_goesBy : ByteArray := prog_12_method_69_code
def yX10_goesBy : MethodName := ⟨RX10, "goesBy", "(II)I"⟩
abbrev cX10_isRule : ByteArray := prog_12_method_70_code
def yX10_isRule : MethodName := ⟨RX10, "isRule", "(II)Z"⟩
abbrev cX10_rule : ByteArray := prog_12_method_71_code
def yX10_rule : MethodName := ⟨RX10, "rule", "(III)I"⟩
abbrev cX10_wonBy : ByteArray := prog_12_method_72_code
def yX10_wonBy : MethodName := ⟨RX10, "wonBy", "(II)I"⟩
abbrev cX10_bestRule : ByteArray := prog_12_method_73_code
def yX10_bestRule : MethodName := ⟨RX10, "bestRule", "(I)I"⟩
abbrev cX10_bits : ByteArray := prog_12_method_74_code
def yX10_bits : MethodName := ⟨RX10, "bits", "(I)I"⟩
abbrev cX10_canDrop : ByteArray := prog_12_method_75_code
def yX10_canDrop : MethodName := ⟨RX10, "canDrop", "(I)Z"⟩
abbrev cX10_dropBest : ByteArray := prog_12_method_76_code
def yX10_dropBest : MethodName := ⟨RX10, "dropBest", "(III)I"⟩
abbrev cX10_offerBest : ByteArray := prog_12_method_77_code
def yX10_offerBest : MethodName := ⟨RX10, "offerBest", "(III)I"⟩
abbrev cX10_haste : ByteArray := prog_12_method_78_code
def yX10_haste : MethodName := ⟨RX10, "haste", "(III)I"⟩
abbrev cX10_spare : ByteArray := prog_12_method_79_code
def yX10_spare : MethodName := ⟨RX10, "spare", "(III)I"⟩
abbrev cX10_agreed : ByteArray := prog_12_method_80_code
def yX10_agreed : MethodName := ⟨RX10, "agreed", "(IIIII)I"⟩
abbrev cX10_nextOrder : ByteArray := prog_12_method_81_code
def yX10_nextOrder : MethodName := ⟨RX10, "nextOrder", "()Z"⟩
abbrev cX10_seatsBy : ByteArray := prog_12_method_82_code
def yX10_seatsBy : MethodName := ⟨RX10, "seatsBy", "(II)I"⟩
abbrev cX10_seats : ByteArray := prog_12_method_83_code
def yX10_seats : MethodName := ⟨RX10, "seats", "(II)I"⟩
abbrev cX10_seatAt : ByteArray := prog_12_method_84_code
def yX10_seatAt : MethodName := ⟨RX10, "seatAt", "(III)I"⟩
abbrev cX10_shared : ByteArray := prog_12_method_85_code
def yX10_shared : MethodName := ⟨RX10, "shared", "(III)I"⟩
abbrev cX10_tell_ : ByteArray := prog_12_method_86_code
def yX10_tell_ : MethodName := ⟨RX10, "tell", "(II)I"⟩
abbrev cX10_forget : ByteArray := prog_12_method_87_code
def yX10_forget : MethodName := ⟨RX10, "forget", "()I"⟩
abbrev cX10_isSo : ByteArray := prog_12_method_88_code
def yX10_isSo : MethodName := ⟨RX10, "isSo", "(II)Z"⟩
abbrev cX10_fits : ByteArray := prog_12_method_89_code
def yX10_fits : MethodName := ⟨RX10, "fits", "(I)I"⟩
abbrev cX10_hold : ByteArray := prog_12_method_90_code
def yX10_hold : MethodName := ⟨RX10, "hold", "(I)Z"⟩
abbrev cX10_restore : ByteArray := prog_12_method_91_code
def yX10_restore : MethodName := ⟨RX10, "restore", "(I)Z"⟩
abbrev cX10_count : ByteArray := prog_12_method_92_code
def yX10_count : MethodName := ⟨RX10, "count", "(I)I"⟩
abbrev cJ6_bitCount_0f7a4 : ByteArray := prog_13_method_49_code
def yJ6_bitCount_0f7a4 : MethodName := ⟨RJ6, "bitCount", "(I)I"⟩
abbrev cL_law : ByteArray := code
def yL_law : MethodName := ⟨RL, "law", "([I)Z"⟩
abbrev cJ0_charAt_5068e : ByteArray := prog_15_method_56_code
def yJ0_charAt_5068e : MethodName := ⟨RJ0, "charAt", "(I)C"⟩
abbrev cJ0_isLatin1_aae02 : ByteArray := prog_15_method_154_code
def yJ0_isLatin1_aae02 : MethodName := ⟨RJ0, "isLatin1", "()Z"⟩
abbrev cJ0_checkIndex_df160 : ByteArray := prog_15_method_155_code
def yJ0_checkIndex_df160 : MethodName := ⟨RJ0, "checkIndex", "(II)V"⟩
abbrev cJ1_charAt_3b067 : ByteArray := prog_16_method_2_code
def yJ1_charAt_3b067 : MethodName := ⟨RJ1, "charAt", "([BI)C"⟩
abbrev cJ3_checkIndex_8e157 : ByteArray := prog_19_method_11_code
def yJ3_checkIndex_8e157 : MethodName := ⟨RJ3, "checkIndex", "(IILjava/util/function/BiFunction;)I"⟩
/-- the words that every method may use -/
def am_W : List Cond := lw_tbl.filter goodWord
theorem am_Wm {i : Nat} {w : Cond} (h : lw_tbl[i]? = some w) (g : goodWord w = true) : w ∈ am_W := List.mem_filter.mpr ⟨List.mem_of_getElem? h, g⟩
theorem am_Wg : ∀ w ∈ am_W, w ∈ am_W ∧ ((w.onTables && w.keeps) = true ∨ ∃ ty, w = .arrayClass ty) := fun w h => ⟨h, good_of_word (List.mem_filter.mp h).2⟩
def am_wok (i : Nat) (w : Cond) : Bool := decide (lw_tbl[i]? = some w) && goodWord w
theorem am_wok_m {i : Nat} {w : Cond} (h : am_wok i w = true) : w ∈ am_W := by
  unfold am_wok at h
  simp only [Bool.and_eq_true, decide_eq_true_eq] at h
  exact am_Wm h.1 h.2
def am_own (n : Nat) : String := (["OneClock$Code", "OneClock$Guide", "OneClock$Past", "OneClock$Plan", "OneClock$Play", "OneClock$Reader", "OneClock$Slots", "OneClock$Tape", "OneClock$Witness", "OneClock", "OneClockModel", "OneClockLaw", "java/lang/Integer"] : List String).getD n ""
def am_K0 : vw_C := (RX0, TX0, 5)
def am_cls (n : Nat) : vw_C := vwCl.getD n am_K0
def am_Y : List MethodName := [yX0_init, yX0_add, yX0_aimAtEnd, yX0_copyFrom, yX0_setFacts, yX0_valueOf, yX1_init, yX1_playChanges, yX1_textChanges, yX1_findRow, yX1_tryRows, yX1_tryMovesAt, yX1_keepRow, yX1_findEnd, yX1_findRule, yX1_findDrops, yX1_areOpen, yX1_isIn, yX1_letGoAll, yX1_findOffer, yX1_hasteOf, yX1_spareAt, yX1_findAgreed, yX1_findSeats, yX1_orderNext, yX1_swapSeats, yX1_findShares, yX1_wonWith, yX1_keepMost, yX1_follow, yX1_choose, yX2_init, yX2_push, yX2_pop, yX2_clear, yX3_init, yX3_clear, yX3_thinkOneMinute, yX3_tellLaw, yX3_copyFrom, yX3_ask, yX4_init, yX4_setOut, yX4_copyFrom, yX4_writeTo, yX4_readFrom, yX4_isOpen, yX4_openBoards, yX4_isOver, yX4_made, yX4_stepsTo, yX4_soonest, yX4_ask, yX4_gainOf, yX4_makeMove, yX4_makeOffer, yX4_letGo, yX4_dropFlag, yX5_init, yX5_readText, yX5_startAnew, yX5_readBoard, yX5_readNumber, yX5_readThinks, yX5_readLaw, yX5_readSum, yX5_readProduct, yX5_readUnit, yX5_readInt, yX5_findName, yX5_pass, yX5_fail, yX5_noteSlip, yX6_init, yX6_put, yX6_take, yX6_used, yX6_clear, yX7_init, yX7_addInt, yX7_scan, yX7_skipBlanks, yX7_endOfThing, yX7_kindOfThing, yX7_isWord, yX7_valueOfDigits, yX7_areSame, yX7_isBlank, yX7_isLetter, yX7_isDigit, yX7_isSign, yX8_init, yX8_add, yX8_rowsThatFit, yX8_rowsFrom, yX8_canThink, yX9_init, yX9_feed, yX9_back, yX9_read, yX9_place, yX9_board, yX9_sum, yX9_move, yX9_offer, yX9_drop, yX9_pause, yX9_undo, yX9_begins, yX9_best, yX9_bestAt, yX9_rule, yX9_bestRule, yX9_dropBest, yX9_offerBest, yX9_haste, yX9_spare, yX9_agreed, yX9_seats, yX9_seatAt, yX9_shared, yX9_tell, yX9_forget, yX9_fits, yX9_hold, yX9_restore, yX9_count, yX9_isBoard, yX9_isThink, yX9_isRule, yX9_isDepth, yX9_isSlot, yX9_isHalf, yX9_canPlay, yX9_noteWhatStands, yX10_init, yX10_feed, yX10_put, yX10_back, yX10_byteAt, yX10_isDigit, yX10_isLetter, yX10_appends, yX10_word, yX10_token, yX10_cut, yX10_sign, yX10_is, yX10_fail, yX10_wrong, yX10_goesOn, yX10_must, yX10_plain, yX10_read, yX10_place, yX10_tell, yX10_known, yX10_bounded, yX10_tellBoard, yX10_tellThinks, yX10_tellLaw, yX10_term, yX10_emit, yX10_comesOut, yX10_expression, yX10_unit, yX10_termOf, yX10_in, yX10_isBoard, yX10_begins0, yX10_copies, yX10_isOpen, yX10_openAll, yX10_isOver, yX10_stepsTo, yX10_beginsAt, yX10_tells, yX10_setsOf, yX10_worthOf, yX10_falls, yX10_movesFrom, yX10_movesNow, yX10_offersNow, yX10_drops, yX10_board, yX10_sum, yX10_keeps, yX10_isThink, yX10_think, yX10_move, yX10_offer, yX10_drop, yX10_pause, yX10_undo, yX10_begins, yX10_notesRow, yX10_nextAt, yX10_opens, yX10_findsBest, yX10_best, yX10_bestAt, yX10_nextBy, yX10_goesBy, yX10_isRule, yX10_rule, yX10_wonBy, yX10_bestRule, yX10_bits, yX10_canDrop, yX10_dropBest, yX10_offerBest, yX10_haste, yX10_spare, yX10_agreed, yX10_nextOrder, yX10_seatsBy, yX10_seats, yX10_seatAt, yX10_shared, yX10_tell_, yX10_forget, yX10_isSo, yX10_fits, yX10_hold, yX10_restore, yX10_count, yJ6_bitCount_0f7a4, yL_law]
def am_B : List ByteArray := [cX0_init, cX0_add, cX0_aimAtEnd, cX0_copyFrom, cX0_setFacts, cX0_valueOf, cX1_init, cX1_playChanges, cX1_textChanges, cX1_findRow, cX1_tryRows, cX1_tryMovesAt, cX1_keepRow, cX1_findEnd, cX1_findRule, cX1_findDrops, cX1_areOpen, cX1_isIn, cX1_letGoAll, cX1_findOffer, cX1_hasteOf, cX1_spareAt, cX1_findAgreed, cX1_findSeats, cX1_orderNext, cX1_swapSeats, cX1_findShares, cX1_wonWith, cX1_keepMost, cX1_follow, cX1_choose, cX2_init, cX2_push, cX2_pop, cX2_clear, cX3_init, cX3_clear, cX3_thinkOneMinute, cX3_tellLaw, cX3_copyFrom, cX3_ask, cX4_init, cX4_setOut, cX4_copyFrom, cX4_writeTo, cX4_readFrom, cX4_isOpen, cX4_openBoards, cX4_isOver, cX4_made, cX4_stepsTo, cX4_soonest, cX4_ask, cX4_gainOf, cX4_makeMove, cX4_makeOffer, cX4_letGo, cX4_dropFlag, cX5_init, cX5_readText, cX5_startAnew, cX5_readBoard, cX5_readNumber, cX5_readThinks, cX5_readLaw, cX5_readSum, cX5_readProduct, cX5_readUnit, cX5_readInt, cX5_findName, cX5_pass, cX5_fail, cX5_noteSlip, cX6_init, cX6_put, cX6_take, cX6_used, cX6_clear, cX7_init, cX7_addInt, cX7_scan, cX7_skipBlanks, cX7_endOfThing, cX7_kindOfThing, cX7_isWord, cX7_valueOfDigits, cX7_areSame, cX7_isBlank, cX7_isLetter, cX7_isDigit, cX7_isSign, cX8_init, cX8_add, cX8_rowsThatFit, cX8_rowsFrom, cX8_canThink, cX9_init, cX9_feed, cX9_back, cX9_read, cX9_place, cX9_board, cX9_sum, cX9_move, cX9_offer, cX9_drop, cX9_pause, cX9_undo, cX9_begins, cX9_best, cX9_bestAt, cX9_rule, cX9_bestRule, cX9_dropBest, cX9_offerBest, cX9_haste, cX9_spare, cX9_agreed, cX9_seats, cX9_seatAt, cX9_shared, cX9_tell, cX9_forget, cX9_fits, cX9_hold, cX9_restore, cX9_count, cX9_isBoard, cX9_isThink, cX9_isRule, cX9_isDepth, cX9_isSlot, cX9_isHalf, cX9_canPlay, cX9_noteWhatStands, cX10_init, cX10_feed, cX10_put, cX10_back, cX10_byteAt, cX10_isDigit, cX10_isLetter, cX10_appends, cX10_word, cX10_token, cX10_cut, cX10_sign, cX10_is, cX10_fail, cX10_wrong, cX10_goesOn, cX10_must, cX10_plain, cX10_read, cX10_place, cX10_tell, cX10_known, cX10_bounded, cX10_tellBoard, cX10_tellThinks, cX10_tellLaw, cX10_term, cX10_emit, cX10_comesOut, cX10_expression, cX10_unit, cX10_termOf, cX10_in, cX10_isBoard, cX10_begins0, cX10_copies, cX10_isOpen, cX10_openAll, cX10_isOver, cX10_stepsTo, cX10_beginsAt, cX10_tells, cX10_setsOf, cX10_worthOf, cX10_falls, cX10_movesFrom, cX10_movesNow, cX10_offersNow, cX10_drops, cX10_board, cX10_sum, cX10_keeps, cX10_isThink, cX10_think, cX10_move, cX10_offer, cX10_drop, cX10_pause, cX10_undo, cX10_begins, cX10_notesRow, cX10_nextAt, cX10_opens, cX10_findsBest, cX10_best, cX10_bestAt, cX10_nextBy, cX10_goesBy, cX10_isRule, cX10_rule, cX10_wonBy, cX10_bestRule, cX10_bits, cX10_canDrop, cX10_dropBest, cX10_offerBest, cX10_haste, cX10_spare, cX10_agreed, cX10_nextOrder, cX10_seatsBy, cX10_seats, cX10_seatAt, cX10_shared, cX10_tell_, cX10_forget, cX10_isSo, cX10_fits, cX10_hold, cX10_restore, cX10_count, cJ6_bitCount_0f7a4, cL_law]
