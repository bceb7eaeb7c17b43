section
section
-- ===== PART A: goes FIRST, ahead of the names: the tables' words, and 'selects' of the private methods out of them =====
/-- a private method of a class that the tables say can be made, by its rows of tables_1 -/
def lw_okq (q : MethodName × Nat) : Prop := (q.1.cls ≠ "java/lang/invoke/MethodHandle" ∧ q.1.cls ≠ "java/lang/invoke/VarHandle") ∧ Cond.instantiable q.1.cls q.2 ∈ tables_1 ∧ Cond.privateMethod q.1 ∈ tables_1 ∧ Cond.instanceMethod q.1 ∈ tables_1
theorem lw_p0 : lw_okq (⟨"FreightYards$Tape", "cutToken", "(I)I"⟩, 8) := ⟨⟨by decide +kernel, by decide +kernel⟩, List.mem_of_getElem? (i := 35) (by decide +kernel), List.mem_of_getElem? (i := 368) (by decide +kernel), List.mem_of_getElem? (i := 369) (by decide +kernel)⟩
theorem lw_p1 : lw_okq (⟨"FreightYards$Tape", "sign", "()I"⟩, 8) := ⟨⟨by decide +kernel, by decide +kernel⟩, List.mem_of_getElem? (i := 35) (by decide +kernel), List.mem_of_getElem? (i := 372) (by decide +kernel), List.mem_of_getElem? (i := 373) (by decide +kernel)⟩
theorem lw_p2 : lw_okq (⟨"FreightYards$Tape", "cutSmall", "(I)I"⟩, 8) := ⟨⟨by decide +kernel, by decide +kernel⟩, List.mem_of_getElem? (i := 35) (by decide +kernel), List.mem_of_getElem? (i := 379) (by decide +kernel), List.mem_of_getElem? (i := 380) (by decide +kernel)⟩
theorem lw_p3 : lw_okq (⟨"FreightYards$Tape", "cutCapitals", "(I)I"⟩, 8) := ⟨⟨by decide +kernel, by decide +kernel⟩, List.mem_of_getElem? (i := 35) (by decide +kernel), List.mem_of_getElem? (i := 444) (by decide +kernel), List.mem_of_getElem? (i := 445) (by decide +kernel)⟩
theorem lw_p4 : lw_okq (⟨"FreightYards$Tape", "cutNumber", "(I)I"⟩, 8) := ⟨⟨by decide +kernel, by decide +kernel⟩, List.mem_of_getElem? (i := 35) (by decide +kernel), List.mem_of_getElem? (i := 450) (by decide +kernel), List.mem_of_getElem? (i := 451) (by decide +kernel)⟩
theorem lw_p5 : lw_okq (⟨"FreightYards$Tape", "cutSign", "()I"⟩, 8) := ⟨⟨by decide +kernel, by decide +kernel⟩, List.mem_of_getElem? (i := 35) (by decide +kernel), List.mem_of_getElem? (i := 455) (by decide +kernel), List.mem_of_getElem? (i := 456) (by decide +kernel)⟩
theorem lw_p6 : lw_okq (⟨"FreightYards$Reader", "pass", "()V"⟩, 13) := ⟨⟨by decide +kernel, by decide +kernel⟩, List.mem_of_getElem? (i := 189) (by decide +kernel), List.mem_of_getElem? (i := 525) (by decide +kernel), List.mem_of_getElem? (i := 526) (by decide +kernel)⟩
theorem lw_p7 : lw_okq (⟨"FreightYards$Reader", "readHead", "()V"⟩, 13) := ⟨⟨by decide +kernel, by decide +kernel⟩, List.mem_of_getElem? (i := 189) (by decide +kernel), List.mem_of_getElem? (i := 529) (by decide +kernel), List.mem_of_getElem? (i := 530) (by decide +kernel)⟩
theorem lw_p8 : lw_okq (⟨"FreightYards$Reader", "expect", "(I)V"⟩, 13) := ⟨⟨by decide +kernel, by decide +kernel⟩, List.mem_of_getElem? (i := 189) (by decide +kernel), List.mem_of_getElem? (i := 533) (by decide +kernel), List.mem_of_getElem? (i := 534) (by decide +kernel)⟩
theorem lw_p9 : lw_okq (⟨"FreightYards$Reader", "refuse", "(II)V"⟩, 13) := ⟨⟨by decide +kernel, by decide +kernel⟩, List.mem_of_getElem? (i := 189) (by decide +kernel), List.mem_of_getElem? (i := 537) (by decide +kernel), List.mem_of_getElem? (i := 538) (by decide +kernel)⟩
theorem lw_p10 : lw_okq (⟨"FreightYards$Reader", "readProcName", "()V"⟩, 13) := ⟨⟨by decide +kernel, by decide +kernel⟩, List.mem_of_getElem? (i := 189) (by decide +kernel), List.mem_of_getElem? (i := 541) (by decide +kernel), List.mem_of_getElem? (i := 542) (by decide +kernel)⟩
theorem lw_p11 : lw_okq (⟨"FreightYards$Reader", "findProc", "(J)I"⟩, 13) := ⟨⟨by decide +kernel, by decide +kernel⟩, List.mem_of_getElem? (i := 189) (by decide +kernel), List.mem_of_getElem? (i := 549) (by decide +kernel), List.mem_of_getElem? (i := 550) (by decide +kernel)⟩
theorem lw_p12 : lw_okq (⟨"FreightYards$Reader", "readParameter", "()V"⟩, 13) := ⟨⟨by decide +kernel, by decide +kernel⟩, List.mem_of_getElem? (i := 189) (by decide +kernel), List.mem_of_getElem? (i := 563) (by decide +kernel), List.mem_of_getElem? (i := 564) (by decide +kernel)⟩
theorem lw_p13 : lw_okq (⟨"FreightYards$Reader", "readType", "()I"⟩, 13) := ⟨⟨by decide +kernel, by decide +kernel⟩, List.mem_of_getElem? (i := 189) (by decide +kernel), List.mem_of_getElem? (i := 567) (by decide +kernel), List.mem_of_getElem? (i := 568) (by decide +kernel)⟩
theorem lw_p14 : lw_okq (⟨"FreightYards$Reader", "readTypeUpToLast", "()I"⟩, 13) := ⟨⟨by decide +kernel, by decide +kernel⟩, List.mem_of_getElem? (i := 189) (by decide +kernel), List.mem_of_getElem? (i := 571) (by decide +kernel), List.mem_of_getElem? (i := 572) (by decide +kernel)⟩
theorem lw_p15 : lw_okq (⟨"FreightYards$Code", "isProc", "(I)Z"⟩, 13) := ⟨⟨by decide +kernel, by decide +kernel⟩, List.mem_of_getElem? (i := 132) (by decide +kernel), List.mem_of_getElem? (i := 579) (by decide +kernel), List.mem_of_getElem? (i := 580) (by decide +kernel)⟩
def lw_privs_1 : List (MethodName × Nat) := [(⟨"FreightYards$Tape", "cutToken", "(I)I"⟩, 8), (⟨"FreightYards$Tape", "sign", "()I"⟩, 8), (⟨"FreightYards$Tape", "cutSmall", "(I)I"⟩, 8), (⟨"FreightYards$Tape", "cutCapitals", "(I)I"⟩, 8), (⟨"FreightYards$Tape", "cutNumber", "(I)I"⟩, 8), (⟨"FreightYards$Tape", "cutSign", "()I"⟩, 8), (⟨"FreightYards$Reader", "pass", "()V"⟩, 13), (⟨"FreightYards$Reader", "readHead", "()V"⟩, 13), (⟨"FreightYards$Reader", "expect", "(I)V"⟩, 13), (⟨"FreightYards$Reader", "refuse", "(II)V"⟩, 13), (⟨"FreightYards$Reader", "readProcName", "()V"⟩, 13), (⟨"FreightYards$Reader", "findProc", "(J)I"⟩, 13), (⟨"FreightYards$Reader", "readParameter", "()V"⟩, 13), (⟨"FreightYards$Reader", "readType", "()I"⟩, 13), (⟨"FreightYards$Reader", "readTypeUpToLast", "()I"⟩, 13), (⟨"FreightYards$Code", "isProc", "(I)Z"⟩, 13)]
theorem lw_r1 : ∀ q ∈ lw_privs_1, lw_okq q := List.forall_mem_cons.mpr ⟨lw_p0, List.forall_mem_cons.mpr ⟨lw_p1, List.forall_mem_cons.mpr ⟨lw_p2, List.forall_mem_cons.mpr ⟨lw_p3, List.forall_mem_cons.mpr ⟨lw_p4, List.forall_mem_cons.mpr ⟨lw_p5, List.forall_mem_cons.mpr ⟨lw_p6, List.forall_mem_cons.mpr ⟨lw_p7, List.forall_mem_cons.mpr ⟨lw_p8, List.forall_mem_cons.mpr ⟨lw_p9, List.forall_mem_cons.mpr ⟨lw_p10, List.forall_mem_cons.mpr ⟨lw_p11, List.forall_mem_cons.mpr ⟨lw_p12, List.forall_mem_cons.mpr ⟨lw_p13, List.forall_mem_cons.mpr ⟨lw_p14, List.forall_mem_cons.mpr ⟨lw_p15, fun _ h => absurd h List.not_mem_nil⟩⟩⟩⟩⟩⟩⟩⟩⟩⟩⟩⟩⟩⟩⟩⟩
theorem lw_p16 : lw_okq (⟨"FreightYards$Reader", "readNewName", "(IZ)I"⟩, 13) := ⟨⟨by decide +kernel, by decide +kernel⟩, List.mem_of_getElem? (i := 189) (by decide +kernel), List.mem_of_getElem? (i := 583) (by decide +kernel), List.mem_of_getElem? (i := 584) (by decide +kernel)⟩
theorem lw_p17 : lw_okq (⟨"FreightYards$Code", "isOwnProc", "(I)Z"⟩, 13) := ⟨⟨by decide +kernel, by decide +kernel⟩, List.mem_of_getElem? (i := 132) (by decide +kernel), List.mem_of_getElem? (i := 608) (by decide +kernel), List.mem_of_getElem? (i := 609) (by decide +kernel)⟩
theorem lw_p18 : lw_okq (⟨"FreightYards$Reader", "readBlock", "(I)V"⟩, 13) := ⟨⟨by decide +kernel, by decide +kernel⟩, List.mem_of_getElem? (i := 189) (by decide +kernel), List.mem_of_getElem? (i := 616) (by decide +kernel), List.mem_of_getElem? (i := 617) (by decide +kernel)⟩
theorem lw_p19 : lw_okq (⟨"FreightYards$Reader", "readStatement", "(I)V"⟩, 13) := ⟨⟨by decide +kernel, by decide +kernel⟩, List.mem_of_getElem? (i := 189) (by decide +kernel), List.mem_of_getElem? (i := 624) (by decide +kernel), List.mem_of_getElem? (i := 625) (by decide +kernel)⟩
theorem lw_p20 : lw_okq (⟨"FreightYards$Reader", "readVar", "()V"⟩, 13) := ⟨⟨by decide +kernel, by decide +kernel⟩, List.mem_of_getElem? (i := 189) (by decide +kernel), List.mem_of_getElem? (i := 628) (by decide +kernel), List.mem_of_getElem? (i := 629) (by decide +kernel)⟩
theorem lw_p21 : lw_okq (⟨"FreightYards$Reader", "readExpression", "(I)I"⟩, 13) := ⟨⟨by decide +kernel, by decide +kernel⟩, List.mem_of_getElem? (i := 189) (by decide +kernel), List.mem_of_getElem? (i := 632) (by decide +kernel), List.mem_of_getElem? (i := 633) (by decide +kernel)⟩
theorem lw_p22 : lw_okq (⟨"FreightYards$Reader", "readSum", "(I)I"⟩, 13) := ⟨⟨by decide +kernel, by decide +kernel⟩, List.mem_of_getElem? (i := 189) (by decide +kernel), List.mem_of_getElem? (i := 636) (by decide +kernel), List.mem_of_getElem? (i := 637) (by decide +kernel)⟩
theorem lw_p23 : lw_okq (⟨"FreightYards$Reader", "readProduct", "(I)I"⟩, 13) := ⟨⟨by decide +kernel, by decide +kernel⟩, List.mem_of_getElem? (i := 189) (by decide +kernel), List.mem_of_getElem? (i := 640) (by decide +kernel), List.mem_of_getElem? (i := 641) (by decide +kernel)⟩
theorem lw_p24 : lw_okq (⟨"FreightYards$Reader", "readUnit", "(I)I"⟩, 13) := ⟨⟨by decide +kernel, by decide +kernel⟩, List.mem_of_getElem? (i := 189) (by decide +kernel), List.mem_of_getElem? (i := 644) (by decide +kernel), List.mem_of_getElem? (i := 645) (by decide +kernel)⟩
theorem lw_p25 : lw_okq (⟨"FreightYards$Reader", "readFirst", "(I)I"⟩, 13) := ⟨⟨by decide +kernel, by decide +kernel⟩, List.mem_of_getElem? (i := 189) (by decide +kernel), List.mem_of_getElem? (i := 648) (by decide +kernel), List.mem_of_getElem? (i := 649) (by decide +kernel)⟩
theorem lw_p26 : lw_okq (⟨"FreightYards$Reader", "readNumber", "(II)I"⟩, 13) := ⟨⟨by decide +kernel, by decide +kernel⟩, List.mem_of_getElem? (i := 189) (by decide +kernel), List.mem_of_getElem? (i := 652) (by decide +kernel), List.mem_of_getElem? (i := 653) (by decide +kernel)⟩
theorem lw_p27 : lw_okq (⟨"FreightYards$Reader", "readCall", "(I)I"⟩, 13) := ⟨⟨by decide +kernel, by decide +kernel⟩, List.mem_of_getElem? (i := 189) (by decide +kernel), List.mem_of_getElem? (i := 660) (by decide +kernel), List.mem_of_getElem? (i := 661) (by decide +kernel)⟩
theorem lw_p28 : lw_okq (⟨"FreightYards$Reader", "expectOpening", "(II)V"⟩, 13) := ⟨⟨by decide +kernel, by decide +kernel⟩, List.mem_of_getElem? (i := 189) (by decide +kernel), List.mem_of_getElem? (i := 664) (by decide +kernel), List.mem_of_getElem? (i := 665) (by decide +kernel)⟩
theorem lw_p29 : lw_okq (⟨"FreightYards$Reader", "readArgument", "(III)V"⟩, 13) := ⟨⟨by decide +kernel, by decide +kernel⟩, List.mem_of_getElem? (i := 189) (by decide +kernel), List.mem_of_getElem? (i := 668) (by decide +kernel), List.mem_of_getElem? (i := 669) (by decide +kernel)⟩
theorem lw_p30 : lw_okq (⟨"FreightYards$Reader", "expectFit", "(IZ)V"⟩, 13) := ⟨⟨by decide +kernel, by decide +kernel⟩, List.mem_of_getElem? (i := 189) (by decide +kernel), List.mem_of_getElem? (i := 688) (by decide +kernel), List.mem_of_getElem? (i := 689) (by decide +kernel)⟩
theorem lw_p31 : lw_okq (⟨"FreightYards$Reader", "readValueOfName", "()I"⟩, 13) := ⟨⟨by decide +kernel, by decide +kernel⟩, List.mem_of_getElem? (i := 189) (by decide +kernel), List.mem_of_getElem? (i := 696) (by decide +kernel), List.mem_of_getElem? (i := 697) (by decide +kernel)⟩
def lw_privs_2 : List (MethodName × Nat) := [(⟨"FreightYards$Reader", "readNewName", "(IZ)I"⟩, 13), (⟨"FreightYards$Code", "isOwnProc", "(I)Z"⟩, 13), (⟨"FreightYards$Reader", "readBlock", "(I)V"⟩, 13), (⟨"FreightYards$Reader", "readStatement", "(I)V"⟩, 13), (⟨"FreightYards$Reader", "readVar", "()V"⟩, 13), (⟨"FreightYards$Reader", "readExpression", "(I)I"⟩, 13), (⟨"FreightYards$Reader", "readSum", "(I)I"⟩, 13), (⟨"FreightYards$Reader", "readProduct", "(I)I"⟩, 13), (⟨"FreightYards$Reader", "readUnit", "(I)I"⟩, 13), (⟨"FreightYards$Reader", "readFirst", "(I)I"⟩, 13), (⟨"FreightYards$Reader", "readNumber", "(II)I"⟩, 13), (⟨"FreightYards$Reader", "readCall", "(I)I"⟩, 13), (⟨"FreightYards$Reader", "expectOpening", "(II)V"⟩, 13), (⟨"FreightYards$Reader", "readArgument", "(III)V"⟩, 13), (⟨"FreightYards$Reader", "expectFit", "(IZ)V"⟩, 13), (⟨"FreightYards$Reader", "readValueOfName", "()I"⟩, 13)]
theorem lw_r2 : ∀ q ∈ lw_privs_2, lw_okq q := List.forall_mem_cons.mpr ⟨lw_p16, List.forall_mem_cons.mpr ⟨lw_p17, List.forall_mem_cons.mpr ⟨lw_p18, List.forall_mem_cons.mpr ⟨lw_p19, List.forall_mem_cons.mpr ⟨lw_p20, List.forall_mem_cons.mpr ⟨lw_p21, List.forall_mem_cons.mpr ⟨lw_p22, List.forall_mem_cons.mpr ⟨lw_p23, List.forall_mem_cons.mpr ⟨lw_p24, List.forall_mem_cons.mpr ⟨lw_p25, List.forall_mem_cons.mpr ⟨lw_p26, List.forall_mem_cons.mpr ⟨lw_p27, List.forall_mem_cons.mpr ⟨lw_p28, List.forall_mem_cons.mpr ⟨lw_p29, List.forall_mem_cons.mpr ⟨lw_p30, List.forall_mem_cons.mpr ⟨lw_p31, fun _ h => absurd h List.not_mem_nil⟩⟩⟩⟩⟩⟩⟩⟩⟩⟩⟩⟩⟩⟩⟩⟩
theorem lw_p32 : lw_okq (⟨"FreightYards$Reader", "readNew", "(I)I"⟩, 13) := ⟨⟨by decide +kernel, by decide +kernel⟩, List.mem_of_getElem? (i := 189) (by decide +kernel), List.mem_of_getElem? (i := 704) (by decide +kernel), List.mem_of_getElem? (i := 705) (by decide +kernel)⟩
theorem lw_p33 : lw_okq (⟨"FreightYards$Reader", "readIndex", "(II)I"⟩, 13) := ⟨⟨by decide +kernel, by decide +kernel⟩, List.mem_of_getElem? (i := 189) (by decide +kernel), List.mem_of_getElem? (i := 711) (by decide +kernel), List.mem_of_getElem? (i := 712) (by decide +kernel)⟩
theorem lw_p34 : lw_okq (⟨"FreightYards$Reader", "readMember", "(I)I"⟩, 13) := ⟨⟨by decide +kernel, by decide +kernel⟩, List.mem_of_getElem? (i := 189) (by decide +kernel), List.mem_of_getElem? (i := 718) (by decide +kernel), List.mem_of_getElem? (i := 719) (by decide +kernel)⟩
theorem lw_p35 : lw_okq (⟨"FreightYards$Reader", "readAsked", "(I)I"⟩, 13) := ⟨⟨by decide +kernel, by decide +kernel⟩, List.mem_of_getElem? (i := 189) (by decide +kernel), List.mem_of_getElem? (i := 725) (by decide +kernel), List.mem_of_getElem? (i := 726) (by decide +kernel)⟩
theorem lw_p36 : lw_okq (⟨"FreightYards$Reader", "finishSign", "(III)I"⟩, 13) := ⟨⟨by decide +kernel, by decide +kernel⟩, List.mem_of_getElem? (i := 189) (by decide +kernel), List.mem_of_getElem? (i := 734) (by decide +kernel), List.mem_of_getElem? (i := 735) (by decide +kernel)⟩
theorem lw_p37 : lw_okq (⟨"FreightYards$Reader", "readIf", "(I)V"⟩, 13) := ⟨⟨by decide +kernel, by decide +kernel⟩, List.mem_of_getElem? (i := 189) (by decide +kernel), List.mem_of_getElem? (i := 739) (by decide +kernel), List.mem_of_getElem? (i := 740) (by decide +kernel)⟩
theorem lw_p38 : lw_okq (⟨"FreightYards$Reader", "readCondition", "(I)I"⟩, 13) := ⟨⟨by decide +kernel, by decide +kernel⟩, List.mem_of_getElem? (i := 189) (by decide +kernel), List.mem_of_getElem? (i := 743) (by decide +kernel), List.mem_of_getElem? (i := 744) (by decide +kernel)⟩
theorem lw_p39 : lw_okq (⟨"FreightYards$Code", "isInstruction", "(I)Z"⟩, 13) := ⟨⟨by decide +kernel, by decide +kernel⟩, List.mem_of_getElem? (i := 132) (by decide +kernel), List.mem_of_getElem? (i := 751) (by decide +kernel), List.mem_of_getElem? (i := 752) (by decide +kernel)⟩
theorem lw_p40 : lw_okq (⟨"FreightYards$Reader", "readWhile", "(I)V"⟩, 13) := ⟨⟨by decide +kernel, by decide +kernel⟩, List.mem_of_getElem? (i := 189) (by decide +kernel), List.mem_of_getElem? (i := 755) (by decide +kernel), List.mem_of_getElem? (i := 756) (by decide +kernel)⟩
theorem lw_p41 : lw_okq (⟨"FreightYards$Reader", "readTry", "(I)V"⟩, 13) := ⟨⟨by decide +kernel, by decide +kernel⟩, List.mem_of_getElem? (i := 189) (by decide +kernel), List.mem_of_getElem? (i := 759) (by decide +kernel), List.mem_of_getElem? (i := 760) (by decide +kernel)⟩
theorem lw_p42 : lw_okq (⟨"FreightYards$Reader", "readReturn", "()V"⟩, 13) := ⟨⟨by decide +kernel, by decide +kernel⟩, List.mem_of_getElem? (i := 189) (by decide +kernel), List.mem_of_getElem? (i := 777) (by decide +kernel), List.mem_of_getElem? (i := 778) (by decide +kernel)⟩
theorem lw_p43 : lw_okq (⟨"FreightYards$Reader", "readSay", "()V"⟩, 13) := ⟨⟨by decide +kernel, by decide +kernel⟩, List.mem_of_getElem? (i := 189) (by decide +kernel), List.mem_of_getElem? (i := 781) (by decide +kernel), List.mem_of_getElem? (i := 782) (by decide +kernel)⟩
theorem lw_p44 : lw_okq (⟨"FreightYards$Reader", "readFail", "()V"⟩, 13) := ⟨⟨by decide +kernel, by decide +kernel⟩, List.mem_of_getElem? (i := 189) (by decide +kernel), List.mem_of_getElem? (i := 785) (by decide +kernel), List.mem_of_getElem? (i := 786) (by decide +kernel)⟩
theorem lw_p45 : lw_okq (⟨"FreightYards$Reader", "readPlaceOrCall", "()V"⟩, 13) := ⟨⟨by decide +kernel, by decide +kernel⟩, List.mem_of_getElem? (i := 189) (by decide +kernel), List.mem_of_getElem? (i := 789) (by decide +kernel), List.mem_of_getElem? (i := 790) (by decide +kernel)⟩
theorem lw_p46 : lw_okq (⟨"FreightYards$Machine", "push", "(I)V"⟩, 18) := ⟨⟨by decide +kernel, by decide +kernel⟩, List.mem_of_getElem? (i := 259) (by decide +kernel), List.mem_of_getElem? (i := 819) (by decide +kernel), List.mem_of_getElem? (i := 820) (by decide +kernel)⟩
theorem lw_p47 : lw_okq (⟨"FreightYards$Machine", "enter", "(I)V"⟩, 18) := ⟨⟨by decide +kernel, by decide +kernel⟩, List.mem_of_getElem? (i := 259) (by decide +kernel), List.mem_of_getElem? (i := 823) (by decide +kernel), List.mem_of_getElem? (i := 824) (by decide +kernel)⟩
def lw_privs_3 : List (MethodName × Nat) := [(⟨"FreightYards$Reader", "readNew", "(I)I"⟩, 13), (⟨"FreightYards$Reader", "readIndex", "(II)I"⟩, 13), (⟨"FreightYards$Reader", "readMember", "(I)I"⟩, 13), (⟨"FreightYards$Reader", "readAsked", "(I)I"⟩, 13), (⟨"FreightYards$Reader", "finishSign", "(III)I"⟩, 13), (⟨"FreightYards$Reader", "readIf", "(I)V"⟩, 13), (⟨"FreightYards$Reader", "readCondition", "(I)I"⟩, 13), (⟨"FreightYards$Code", "isInstruction", "(I)Z"⟩, 13), (⟨"FreightYards$Reader", "readWhile", "(I)V"⟩, 13), (⟨"FreightYards$Reader", "readTry", "(I)V"⟩, 13), (⟨"FreightYards$Reader", "readReturn", "()V"⟩, 13), (⟨"FreightYards$Reader", "readSay", "()V"⟩, 13), (⟨"FreightYards$Reader", "readFail", "()V"⟩, 13), (⟨"FreightYards$Reader", "readPlaceOrCall", "()V"⟩, 13), (⟨"FreightYards$Machine", "push", "(I)V"⟩, 18), (⟨"FreightYards$Machine", "enter", "(I)V"⟩, 18)]
theorem lw_r3 : ∀ q ∈ lw_privs_3, lw_okq q := List.forall_mem_cons.mpr ⟨lw_p32, List.forall_mem_cons.mpr ⟨lw_p33, List.forall_mem_cons.mpr ⟨lw_p34, List.forall_mem_cons.mpr ⟨lw_p35, List.forall_mem_cons.mpr ⟨lw_p36, List.forall_mem_cons.mpr ⟨lw_p37, List.forall_mem_cons.mpr ⟨lw_p38, List.forall_mem_cons.mpr ⟨lw_p39, List.forall_mem_cons.mpr ⟨lw_p40, List.forall_mem_cons.mpr ⟨lw_p41, List.forall_mem_cons.mpr ⟨lw_p42, List.forall_mem_cons.mpr ⟨lw_p43, List.forall_mem_cons.mpr ⟨lw_p44, List.forall_mem_cons.mpr ⟨lw_p45, List.forall_mem_cons.mpr ⟨lw_p46, List.forall_mem_cons.mpr ⟨lw_p47, fun _ h => absurd h List.not_mem_nil⟩⟩⟩⟩⟩⟩⟩⟩⟩⟩⟩⟩⟩⟩⟩⟩
theorem lw_p48 : lw_okq (⟨"FreightYards$Machine", "end", "(I)V"⟩, 18) := ⟨⟨by decide +kernel, by decide +kernel⟩, List.mem_of_getElem? (i := 259) (by decide +kernel), List.mem_of_getElem? (i := 827) (by decide +kernel), List.mem_of_getElem? (i := 828) (by decide +kernel)⟩
theorem lw_p49 : lw_okq (⟨"FreightYards$Machine", "doFree", "(II)V"⟩, 18) := ⟨⟨by decide +kernel, by decide +kernel⟩, List.mem_of_getElem? (i := 259) (by decide +kernel), List.mem_of_getElem? (i := 844) (by decide +kernel), List.mem_of_getElem? (i := 845) (by decide +kernel)⟩
theorem lw_p50 : lw_okq (⟨"FreightYards$Machine", "pop", "()I"⟩, 18) := ⟨⟨by decide +kernel, by decide +kernel⟩, List.mem_of_getElem? (i := 259) (by decide +kernel), List.mem_of_getElem? (i := 848) (by decide +kernel), List.mem_of_getElem? (i := 849) (by decide +kernel)⟩
theorem lw_p51 : lw_okq (⟨"FreightYards$Machine", "setName", "(II)V"⟩, 18) := ⟨⟨by decide +kernel, by decide +kernel⟩, List.mem_of_getElem? (i := 259) (by decide +kernel), List.mem_of_getElem? (i := 852) (by decide +kernel), List.mem_of_getElem? (i := 853) (by decide +kernel)⟩
theorem lw_p52 : lw_okq (⟨"FreightYards$Machine", "base", "()I"⟩, 18) := ⟨⟨by decide +kernel, by decide +kernel⟩, List.mem_of_getElem? (i := 259) (by decide +kernel), List.mem_of_getElem? (i := 856) (by decide +kernel), List.mem_of_getElem? (i := 857) (by decide +kernel)⟩
theorem lw_p53 : lw_okq (⟨"FreightYards$Machine", "leave", "(I)V"⟩, 18) := ⟨⟨by decide +kernel, by decide +kernel⟩, List.mem_of_getElem? (i := 259) (by decide +kernel), List.mem_of_getElem? (i := 860) (by decide +kernel), List.mem_of_getElem? (i := 861) (by decide +kernel)⟩
theorem lw_p54 : lw_okq (⟨"FreightYards$Machine", "doAct", "(II)V"⟩, 18) := ⟨⟨by decide +kernel, by decide +kernel⟩, List.mem_of_getElem? (i := 259) (by decide +kernel), List.mem_of_getElem? (i := 864) (by decide +kernel), List.mem_of_getElem? (i := 865) (by decide +kernel)⟩
theorem lw_p55 : lw_okq (⟨"FreightYards$Machine", "nameValue", "(I)I"⟩, 18) := ⟨⟨by decide +kernel, by decide +kernel⟩, List.mem_of_getElem? (i := 259) (by decide +kernel), List.mem_of_getElem? (i := 868) (by decide +kernel), List.mem_of_getElem? (i := 869) (by decide +kernel)⟩
theorem lw_p56 : lw_okq (⟨"FreightYards$Machine", "doAs", "(I)V"⟩, 18) := ⟨⟨by decide +kernel, by decide +kernel⟩, List.mem_of_getElem? (i := 259) (by decide +kernel), List.mem_of_getElem? (i := 872) (by decide +kernel), List.mem_of_getElem? (i := 873) (by decide +kernel)⟩
theorem lw_p57 : lw_okq (⟨"FreightYards$Machine", "raise", "(I)V"⟩, 18) := ⟨⟨by decide +kernel, by decide +kernel⟩, List.mem_of_getElem? (i := 259) (by decide +kernel), List.mem_of_getElem? (i := 889) (by decide +kernel), List.mem_of_getElem? (i := 890) (by decide +kernel)⟩
theorem lw_p58 : lw_okq (⟨"FreightYards$Machine", "raiseWith", "(II)V"⟩, 18) := ⟨⟨by decide +kernel, by decide +kernel⟩, List.mem_of_getElem? (i := 259) (by decide +kernel), List.mem_of_getElem? (i := 893) (by decide +kernel), List.mem_of_getElem? (i := 894) (by decide +kernel)⟩
theorem lw_p59 : lw_okq (⟨"FreightYards$Machine", "doIs", "(I)V"⟩, 18) := ⟨⟨by decide +kernel, by decide +kernel⟩, List.mem_of_getElem? (i := 259) (by decide +kernel), List.mem_of_getElem? (i := 902) (by decide +kernel), List.mem_of_getElem? (i := 903) (by decide +kernel)⟩
theorem lw_p60 : lw_okq (⟨"FreightYards$Machine", "doAt", "()V"⟩, 18) := ⟨⟨by decide +kernel, by decide +kernel⟩, List.mem_of_getElem? (i := 259) (by decide +kernel), List.mem_of_getElem? (i := 906) (by decide +kernel), List.mem_of_getElem? (i := 907) (by decide +kernel)⟩
theorem lw_p61 : lw_okq (⟨"FreightYards$Machine", "doPut", "()V"⟩, 18) := ⟨⟨by decide +kernel, by decide +kernel⟩, List.mem_of_getElem? (i := 259) (by decide +kernel), List.mem_of_getElem? (i := 923) (by decide +kernel), List.mem_of_getElem? (i := 924) (by decide +kernel)⟩
theorem lw_p62 : lw_okq (⟨"FreightYards$Machine", "doField", "(I)V"⟩, 18) := ⟨⟨by decide +kernel, by decide +kernel⟩, List.mem_of_getElem? (i := 259) (by decide +kernel), List.mem_of_getElem? (i := 937) (by decide +kernel), List.mem_of_getElem? (i := 938) (by decide +kernel)⟩
theorem lw_p63 : lw_okq (⟨"FreightYards$Vehicle", "mass", "()I"⟩, 8) := ⟨⟨by decide +kernel, by decide +kernel⟩, List.mem_of_getElem? (i := 947) (by decide +kernel), List.mem_of_getElem? (i := 945) (by decide +kernel), List.mem_of_getElem? (i := 946) (by decide +kernel)⟩
def lw_privs_4 : List (MethodName × Nat) := [(⟨"FreightYards$Machine", "end", "(I)V"⟩, 18), (⟨"FreightYards$Machine", "doFree", "(II)V"⟩, 18), (⟨"FreightYards$Machine", "pop", "()I"⟩, 18), (⟨"FreightYards$Machine", "setName", "(II)V"⟩, 18), (⟨"FreightYards$Machine", "base", "()I"⟩, 18), (⟨"FreightYards$Machine", "leave", "(I)V"⟩, 18), (⟨"FreightYards$Machine", "doAct", "(II)V"⟩, 18), (⟨"FreightYards$Machine", "nameValue", "(I)I"⟩, 18), (⟨"FreightYards$Machine", "doAs", "(I)V"⟩, 18), (⟨"FreightYards$Machine", "raise", "(I)V"⟩, 18), (⟨"FreightYards$Machine", "raiseWith", "(II)V"⟩, 18), (⟨"FreightYards$Machine", "doIs", "(I)V"⟩, 18), (⟨"FreightYards$Machine", "doAt", "()V"⟩, 18), (⟨"FreightYards$Machine", "doPut", "()V"⟩, 18), (⟨"FreightYards$Machine", "doField", "(I)V"⟩, 18), (⟨"FreightYards$Vehicle", "mass", "()I"⟩, 8)]
theorem lw_r4 : ∀ q ∈ lw_privs_4, lw_okq q := List.forall_mem_cons.mpr ⟨lw_p48, List.forall_mem_cons.mpr ⟨lw_p49, List.forall_mem_cons.mpr ⟨lw_p50, List.forall_mem_cons.mpr ⟨lw_p51, List.forall_mem_cons.mpr ⟨lw_p52, List.forall_mem_cons.mpr ⟨lw_p53, List.forall_mem_cons.mpr ⟨lw_p54, List.forall_mem_cons.mpr ⟨lw_p55, List.forall_mem_cons.mpr ⟨lw_p56, List.forall_mem_cons.mpr ⟨lw_p57, List.forall_mem_cons.mpr ⟨lw_p58, List.forall_mem_cons.mpr ⟨lw_p59, List.forall_mem_cons.mpr ⟨lw_p60, List.forall_mem_cons.mpr ⟨lw_p61, List.forall_mem_cons.mpr ⟨lw_p62, List.forall_mem_cons.mpr ⟨lw_p63, fun _ h => absurd h List.not_mem_nil⟩⟩⟩⟩⟩⟩⟩⟩⟩⟩⟩⟩⟩⟩⟩⟩
theorem lw_p64 : lw_okq (⟨"FreightYards$Vehicle", "grip", "()I"⟩, 8) := ⟨⟨by decide +kernel, by decide +kernel⟩, List.mem_of_getElem? (i := 947) (by decide +kernel), List.mem_of_getElem? (i := 950) (by decide +kernel), List.mem_of_getElem? (i := 951) (by decide +kernel)⟩
theorem lw_p65 : lw_okq (⟨"FreightYards$Vehicle", "pull", "()I"⟩, 8) := ⟨⟨by decide +kernel, by decide +kernel⟩, List.mem_of_getElem? (i := 947) (by decide +kernel), List.mem_of_getElem? (i := 954) (by decide +kernel), List.mem_of_getElem? (i := 955) (by decide +kernel)⟩
theorem lw_p66 : lw_okq (⟨"FreightYards$Machine", "doSetField", "(I)V"⟩, 18) := ⟨⟨by decide +kernel, by decide +kernel⟩, List.mem_of_getElem? (i := 259) (by decide +kernel), List.mem_of_getElem? (i := 958) (by decide +kernel), List.mem_of_getElem? (i := 959) (by decide +kernel)⟩
theorem lw_p67 : lw_okq (⟨"FreightYards$Machine", "doSize", "()V"⟩, 18) := ⟨⟨by decide +kernel, by decide +kernel⟩, List.mem_of_getElem? (i := 259) (by decide +kernel), List.mem_of_getElem? (i := 966) (by decide +kernel), List.mem_of_getElem? (i := 967) (by decide +kernel)⟩
theorem lw_p68 : lw_okq (⟨"FreightYards$Machine", "doNewVehicle", "(I)V"⟩, 18) := ⟨⟨by decide +kernel, by decide +kernel⟩, List.mem_of_getElem? (i := 259) (by decide +kernel), List.mem_of_getElem? (i := 970) (by decide +kernel), List.mem_of_getElem? (i := 971) (by decide +kernel)⟩
theorem lw_p69 : lw_okq (⟨"FreightYards$Machine", "doNewRow", "(I)V"⟩, 18) := ⟨⟨by decide +kernel, by decide +kernel⟩, List.mem_of_getElem? (i := 259) (by decide +kernel), List.mem_of_getElem? (i := 1016) (by decide +kernel), List.mem_of_getElem? (i := 1017) (by decide +kernel)⟩
theorem lw_p70 : lw_okq (⟨"FreightYards$Machine", "say", "(I)V"⟩, 18) := ⟨⟨by decide +kernel, by decide +kernel⟩, List.mem_of_getElem? (i := 259) (by decide +kernel), List.mem_of_getElem? (i := 1054) (by decide +kernel), List.mem_of_getElem? (i := 1055) (by decide +kernel)⟩
theorem lw_p71 : lw_okq (⟨"FreightYards$Machine", "sayReference", "()V"⟩, 18) := ⟨⟨by decide +kernel, by decide +kernel⟩, List.mem_of_getElem? (i := 259) (by decide +kernel), List.mem_of_getElem? (i := 1058) (by decide +kernel), List.mem_of_getElem? (i := 1059) (by decide +kernel)⟩
theorem lw_p72 : lw_okq (⟨"FreightYards$Machine", "doLay", "()V"⟩, 18) := ⟨⟨by decide +kernel, by decide +kernel⟩, List.mem_of_getElem? (i := 259) (by decide +kernel), List.mem_of_getElem? (i := 1072) (by decide +kernel), List.mem_of_getElem? (i := 1073) (by decide +kernel)⟩
theorem lw_p73 : lw_okq (⟨"FreightYards$Machine", "doHump", "()V"⟩, 18) := ⟨⟨by decide +kernel, by decide +kernel⟩, List.mem_of_getElem? (i := 259) (by decide +kernel), List.mem_of_getElem? (i := 1081) (by decide +kernel), List.mem_of_getElem? (i := 1082) (by decide +kernel)⟩
theorem lw_p74 : lw_okq (⟨"FreightYards$Row", "firstFree", "(I)I"⟩, 4) := ⟨⟨by decide +kernel, by decide +kernel⟩, List.mem_of_getElem? (i := 1028) (by decide +kernel), List.mem_of_getElem? (i := 1090) (by decide +kernel), List.mem_of_getElem? (i := 1091) (by decide +kernel)⟩
theorem lw_p75 : lw_okq (⟨"FreightYards$Machine", "doSend", "()V"⟩, 18) := ⟨⟨by decide +kernel, by decide +kernel⟩, List.mem_of_getElem? (i := 259) (by decide +kernel), List.mem_of_getElem? (i := 1095) (by decide +kernel), List.mem_of_getElem? (i := 1096) (by decide +kernel)⟩
theorem lw_p76 : lw_okq (⟨"FreightYards$Machine", "doSign", "(I)V"⟩, 18) := ⟨⟨by decide +kernel, by decide +kernel⟩, List.mem_of_getElem? (i := 259) (by decide +kernel), List.mem_of_getElem? (i := 1128) (by decide +kernel), List.mem_of_getElem? (i := 1129) (by decide +kernel)⟩
theorem lw_p77 : lw_okq (⟨"FreightYards$Machine", "keepRun", "(I)V"⟩, 18) := ⟨⟨by decide +kernel, by decide +kernel⟩, List.mem_of_getElem? (i := 259) (by decide +kernel), List.mem_of_getElem? (i := 1133) (by decide +kernel), List.mem_of_getElem? (i := 1134) (by decide +kernel)⟩
theorem lw_p78 : lw_okq (⟨"FreightYards$Line", "move", "(LFreightYards$Train;)Z"⟩, 5) := ⟨⟨by decide +kernel, by decide +kernel⟩, List.mem_of_getElem? (i := 104) (by decide +kernel), List.mem_of_getElem? (i := 1173) (by decide +kernel), List.mem_of_getElem? (i := 1174) (by decide +kernel)⟩
theorem lw_p79 : lw_okq (⟨"FreightYards$Train", "reckonSpeed", "()I"⟩, 5) := ⟨⟨by decide +kernel, by decide +kernel⟩, List.mem_of_getElem? (i := 1102) (by decide +kernel), List.mem_of_getElem? (i := 1181) (by decide +kernel), List.mem_of_getElem? (i := 1182) (by decide +kernel)⟩
def lw_privs_5 : List (MethodName × Nat) := [(⟨"FreightYards$Vehicle", "grip", "()I"⟩, 8), (⟨"FreightYards$Vehicle", "pull", "()I"⟩, 8), (⟨"FreightYards$Machine", "doSetField", "(I)V"⟩, 18), (⟨"FreightYards$Machine", "doSize", "()V"⟩, 18), (⟨"FreightYards$Machine", "doNewVehicle", "(I)V"⟩, 18), (⟨"FreightYards$Machine", "doNewRow", "(I)V"⟩, 18), (⟨"FreightYards$Machine", "say", "(I)V"⟩, 18), (⟨"FreightYards$Machine", "sayReference", "()V"⟩, 18), (⟨"FreightYards$Machine", "doLay", "()V"⟩, 18), (⟨"FreightYards$Machine", "doHump", "()V"⟩, 18), (⟨"FreightYards$Row", "firstFree", "(I)I"⟩, 4), (⟨"FreightYards$Machine", "doSend", "()V"⟩, 18), (⟨"FreightYards$Machine", "doSign", "(I)V"⟩, 18), (⟨"FreightYards$Machine", "keepRun", "(I)V"⟩, 18), (⟨"FreightYards$Line", "move", "(LFreightYards$Train;)Z"⟩, 5), (⟨"FreightYards$Train", "reckonSpeed", "()I"⟩, 5)]
theorem lw_r5 : ∀ q ∈ lw_privs_5, lw_okq q := List.forall_mem_cons.mpr ⟨lw_p64, List.forall_mem_cons.mpr ⟨lw_p65, List.forall_mem_cons.mpr ⟨lw_p66, List.forall_mem_cons.mpr ⟨lw_p67, List.forall_mem_cons.mpr ⟨lw_p68, List.forall_mem_cons.mpr ⟨lw_p69, List.forall_mem_cons.mpr ⟨lw_p70, List.forall_mem_cons.mpr ⟨lw_p71, List.forall_mem_cons.mpr ⟨lw_p72, List.forall_mem_cons.mpr ⟨lw_p73, List.forall_mem_cons.mpr ⟨lw_p74, List.forall_mem_cons.mpr ⟨lw_p75, List.forall_mem_cons.mpr ⟨lw_p76, List.forall_mem_cons.mpr ⟨lw_p77, List.forall_mem_cons.mpr ⟨lw_p78, List.forall_mem_cons.mpr ⟨lw_p79, fun _ h => absurd h List.not_mem_nil⟩⟩⟩⟩⟩⟩⟩⟩⟩⟩⟩⟩⟩⟩⟩⟩
theorem lw_p80 : lw_okq (⟨"FreightYards$Line", "leastTrackWith", "(LFreightYards$Row;)I"⟩, 5) := ⟨⟨by decide +kernel, by decide +kernel⟩, List.mem_of_getElem? (i := 104) (by decide +kernel), List.mem_of_getElem? (i := 1218) (by decide +kernel), List.mem_of_getElem? (i := 1219) (by decide +kernel)⟩
theorem lw_p81 : lw_okq (⟨"java/lang/Throwable", "fillInStackTrace", "(I)Ljava/lang/Throwable;"⟩, 6) := ⟨⟨by decide +kernel, by decide +kernel⟩, List.mem_of_getElem? (i := 1332) (by decide +kernel), List.mem_of_getElem? (i := 1330) (by decide +kernel), List.mem_of_getElem? (i := 1331) (by decide +kernel)⟩
theorem lw_p82 : lw_okq (⟨"FreightYardsModel", "comes", "(I)V"⟩, 67) := ⟨⟨by decide +kernel, by decide +kernel⟩, List.mem_of_getElem? (i := 1241) (by decide +kernel), List.mem_of_getElem? (i := 1567) (by decide +kernel), List.mem_of_getElem? (i := 1568) (by decide +kernel)⟩
theorem lw_p83 : lw_okq (⟨"FreightYardsModel", "scan", "(I)V"⟩, 67) := ⟨⟨by decide +kernel, by decide +kernel⟩, List.mem_of_getElem? (i := 1241) (by decide +kernel), List.mem_of_getElem? (i := 1575) (by decide +kernel), List.mem_of_getElem? (i := 1576) (by decide +kernel)⟩
theorem lw_p84 : lw_okq (⟨"FreightYardsModel", "sign", "(I)I"⟩, 67) := ⟨⟨by decide +kernel, by decide +kernel⟩, List.mem_of_getElem? (i := 1241) (by decide +kernel), List.mem_of_getElem? (i := 1579) (by decide +kernel), List.mem_of_getElem? (i := 1580) (by decide +kernel)⟩
theorem lw_p85 : lw_okq (⟨"FreightYardsModel", "token", "(II)I"⟩, 67) := ⟨⟨by decide +kernel, by decide +kernel⟩, List.mem_of_getElem? (i := 1241) (by decide +kernel), List.mem_of_getElem? (i := 1583) (by decide +kernel), List.mem_of_getElem? (i := 1584) (by decide +kernel)⟩
theorem lw_p86 : lw_okq (⟨"FreightYardsModel", "name", "(II)I"⟩, 67) := ⟨⟨by decide +kernel, by decide +kernel⟩, List.mem_of_getElem? (i := 1241) (by decide +kernel), List.mem_of_getElem? (i := 1590) (by decide +kernel), List.mem_of_getElem? (i := 1591) (by decide +kernel)⟩
theorem lw_p87 : lw_okq (⟨"FreightYardsModel", "kindOf", "(II)I"⟩, 67) := ⟨⟨by decide +kernel, by decide +kernel⟩, List.mem_of_getElem? (i := 1241) (by decide +kernel), List.mem_of_getElem? (i := 1626) (by decide +kernel), List.mem_of_getElem? (i := 1627) (by decide +kernel)⟩
theorem lw_p88 : lw_okq (⟨"FreightYardsModel", "text", "()V"⟩, 67) := ⟨⟨by decide +kernel, by decide +kernel⟩, List.mem_of_getElem? (i := 1241) (by decide +kernel), List.mem_of_getElem? (i := 1660) (by decide +kernel), List.mem_of_getElem? (i := 1661) (by decide +kernel)⟩
theorem lw_p89 : lw_okq (⟨"FreightYardsModel", "proc", "()V"⟩, 67) := ⟨⟨by decide +kernel, by decide +kernel⟩, List.mem_of_getElem? (i := 1241) (by decide +kernel), List.mem_of_getElem? (i := 1664) (by decide +kernel), List.mem_of_getElem? (i := 1665) (by decide +kernel)⟩
theorem lw_p90 : lw_okq (⟨"FreightYardsModel", "isWord", "(I)Z"⟩, 67) := ⟨⟨by decide +kernel, by decide +kernel⟩, List.mem_of_getElem? (i := 1241) (by decide +kernel), List.mem_of_getElem? (i := 1668) (by decide +kernel), List.mem_of_getElem? (i := 1669) (by decide +kernel)⟩
theorem lw_p91 : lw_okq (⟨"FreightYardsModel", "form", "(Z)V"⟩, 67) := ⟨⟨by decide +kernel, by decide +kernel⟩, List.mem_of_getElem? (i := 1241) (by decide +kernel), List.mem_of_getElem? (i := 1672) (by decide +kernel), List.mem_of_getElem? (i := 1673) (by decide +kernel)⟩
theorem lw_p92 : lw_okq (⟨"FreightYardsModel", "fails", "(II)Ljava/lang/IllegalStateException;"⟩, 67) := ⟨⟨by decide +kernel, by decide +kernel⟩, List.mem_of_getElem? (i := 1241) (by decide +kernel), List.mem_of_getElem? (i := 1676) (by decide +kernel), List.mem_of_getElem? (i := 1677) (by decide +kernel)⟩
theorem lw_p93 : lw_okq (⟨"FreightYardsModel", "next", "()V"⟩, 67) := ⟨⟨by decide +kernel, by decide +kernel⟩, List.mem_of_getElem? (i := 1241) (by decide +kernel), List.mem_of_getElem? (i := 1680) (by decide +kernel), List.mem_of_getElem? (i := 1681) (by decide +kernel)⟩
theorem lw_p94 : lw_okq (⟨"FreightYardsModel", "procOf", "(J)I"⟩, 67) := ⟨⟨by decide +kernel, by decide +kernel⟩, List.mem_of_getElem? (i := 1241) (by decide +kernel), List.mem_of_getElem? (i := 1684) (by decide +kernel), List.mem_of_getElem? (i := 1685) (by decide +kernel)⟩
theorem lw_p95 : lw_okq (⟨"FreightYardsModel", "must", "(I)V"⟩, 67) := ⟨⟨by decide +kernel, by decide +kernel⟩, List.mem_of_getElem? (i := 1241) (by decide +kernel), List.mem_of_getElem? (i := 1696) (by decide +kernel), List.mem_of_getElem? (i := 1697) (by decide +kernel)⟩
def lw_privs_6 : List (MethodName × Nat) := [(⟨"FreightYards$Line", "leastTrackWith", "(LFreightYards$Row;)I"⟩, 5), (⟨"java/lang/Throwable", "fillInStackTrace", "(I)Ljava/lang/Throwable;"⟩, 6), (⟨"FreightYardsModel", "comes", "(I)V"⟩, 67), (⟨"FreightYardsModel", "scan", "(I)V"⟩, 67), (⟨"FreightYardsModel", "sign", "(I)I"⟩, 67), (⟨"FreightYardsModel", "token", "(II)I"⟩, 67), (⟨"FreightYardsModel", "name", "(II)I"⟩, 67), (⟨"FreightYardsModel", "kindOf", "(II)I"⟩, 67), (⟨"FreightYardsModel", "text", "()V"⟩, 67), (⟨"FreightYardsModel", "proc", "()V"⟩, 67), (⟨"FreightYardsModel", "isWord", "(I)Z"⟩, 67), (⟨"FreightYardsModel", "form", "(Z)V"⟩, 67), (⟨"FreightYardsModel", "fails", "(II)Ljava/lang/IllegalStateException;"⟩, 67), (⟨"FreightYardsModel", "next", "()V"⟩, 67), (⟨"FreightYardsModel", "procOf", "(J)I"⟩, 67), (⟨"FreightYardsModel", "must", "(I)V"⟩, 67)]
theorem lw_r6 : ∀ q ∈ lw_privs_6, lw_okq q := List.forall_mem_cons.mpr ⟨lw_p80, List.forall_mem_cons.mpr ⟨lw_p81, List.forall_mem_cons.mpr ⟨lw_p82, List.forall_mem_cons.mpr ⟨lw_p83, List.forall_mem_cons.mpr ⟨lw_p84, List.forall_mem_cons.mpr ⟨lw_p85, List.forall_mem_cons.mpr ⟨lw_p86, List.forall_mem_cons.mpr ⟨lw_p87, List.forall_mem_cons.mpr ⟨lw_p88, List.forall_mem_cons.mpr ⟨lw_p89, List.forall_mem_cons.mpr ⟨lw_p90, List.forall_mem_cons.mpr ⟨lw_p91, List.forall_mem_cons.mpr ⟨lw_p92, List.forall_mem_cons.mpr ⟨lw_p93, List.forall_mem_cons.mpr ⟨lw_p94, List.forall_mem_cons.mpr ⟨lw_p95, fun _ h => absurd h List.not_mem_nil⟩⟩⟩⟩⟩⟩⟩⟩⟩⟩⟩⟩⟩⟩⟩⟩
theorem lw_p96 : lw_okq (⟨"FreightYardsModel", "is", "(I)Z"⟩, 67) := ⟨⟨by decide +kernel, by decide +kernel⟩, List.mem_of_getElem? (i := 1241) (by decide +kernel), List.mem_of_getElem? (i := 1700) (by decide +kernel), List.mem_of_getElem? (i := 1701) (by decide +kernel)⟩
theorem lw_p97 : lw_okq (⟨"FreightYardsModel", "params", "()V"⟩, 67) := ⟨⟨by decide +kernel, by decide +kernel⟩, List.mem_of_getElem? (i := 1241) (by decide +kernel), List.mem_of_getElem? (i := 1704) (by decide +kernel), List.mem_of_getElem? (i := 1705) (by decide +kernel)⟩
theorem lw_p98 : lw_okq (⟨"FreightYardsModel", "type", "()I"⟩, 67) := ⟨⟨by decide +kernel, by decide +kernel⟩, List.mem_of_getElem? (i := 1241) (by decide +kernel), List.mem_of_getElem? (i := 1708) (by decide +kernel), List.mem_of_getElem? (i := 1709) (by decide +kernel)⟩
theorem lw_p99 : lw_okq (⟨"FreightYardsModel", "variable", "(J)I"⟩, 67) := ⟨⟨by decide +kernel, by decide +kernel⟩, List.mem_of_getElem? (i := 1241) (by decide +kernel), List.mem_of_getElem? (i := 1712) (by decide +kernel), List.mem_of_getElem? (i := 1713) (by decide +kernel)⟩
theorem lw_p100 : lw_okq (⟨"FreightYardsModel", "knows", "(JI)V"⟩, 67) := ⟨⟨by decide +kernel, by decide +kernel⟩, List.mem_of_getElem? (i := 1241) (by decide +kernel), List.mem_of_getElem? (i := 1716) (by decide +kernel), List.mem_of_getElem? (i := 1717) (by decide +kernel)⟩
theorem lw_p101 : lw_okq (⟨"FreightYardsModel", "block", "()V"⟩, 67) := ⟨⟨by decide +kernel, by decide +kernel⟩, List.mem_of_getElem? (i := 1241) (by decide +kernel), List.mem_of_getElem? (i := 1720) (by decide +kernel), List.mem_of_getElem? (i := 1721) (by decide +kernel)⟩
theorem lw_p102 : lw_okq (⟨"FreightYardsModel", "statement", "()V"⟩, 67) := ⟨⟨by decide +kernel, by decide +kernel⟩, List.mem_of_getElem? (i := 1241) (by decide +kernel), List.mem_of_getElem? (i := 1724) (by decide +kernel), List.mem_of_getElem? (i := 1725) (by decide +kernel)⟩
theorem lw_p103 : lw_okq (⟨"FreightYardsModel", "acts", "()V"⟩, 67) := ⟨⟨by decide +kernel, by decide +kernel⟩, List.mem_of_getElem? (i := 1241) (by decide +kernel), List.mem_of_getElem? (i := 1728) (by decide +kernel), List.mem_of_getElem? (i := 1729) (by decide +kernel)⟩
theorem lw_p104 : lw_okq (⟨"FreightYardsModel", "unit", "()I"⟩, 67) := ⟨⟨by decide +kernel, by decide +kernel⟩, List.mem_of_getElem? (i := 1241) (by decide +kernel), List.mem_of_getElem? (i := 1732) (by decide +kernel), List.mem_of_getElem? (i := 1733) (by decide +kernel)⟩
theorem lw_p105 : lw_okq (⟨"FreightYardsModel", "first", "()I"⟩, 67) := ⟨⟨by decide +kernel, by decide +kernel⟩, List.mem_of_getElem? (i := 1241) (by decide +kernel), List.mem_of_getElem? (i := 1736) (by decide +kernel), List.mem_of_getElem? (i := 1737) (by decide +kernel)⟩
theorem lw_p106 : lw_okq (⟨"FreightYardsModel", "number", "(IZ)I"⟩, 67) := ⟨⟨by decide +kernel, by decide +kernel⟩, List.mem_of_getElem? (i := 1241) (by decide +kernel), List.mem_of_getElem? (i := 1740) (by decide +kernel), List.mem_of_getElem? (i := 1741) (by decide +kernel)⟩
theorem lw_p107 : lw_okq (⟨"FreightYardsModel", "put", "(III)I"⟩, 67) := ⟨⟨by decide +kernel, by decide +kernel⟩, List.mem_of_getElem? (i := 1241) (by decide +kernel), List.mem_of_getElem? (i := 1744) (by decide +kernel), List.mem_of_getElem? (i := 1745) (by decide +kernel)⟩
theorem lw_p108 : lw_okq (⟨"FreightYardsModel", "makes", "()I"⟩, 67) := ⟨⟨by decide +kernel, by decide +kernel⟩, List.mem_of_getElem? (i := 1241) (by decide +kernel), List.mem_of_getElem? (i := 1748) (by decide +kernel), List.mem_of_getElem? (i := 1749) (by decide +kernel)⟩
theorem lw_p109 : lw_okq (⟨"FreightYardsModel", "opens", "(I)V"⟩, 67) := ⟨⟨by decide +kernel, by decide +kernel⟩, List.mem_of_getElem? (i := 1241) (by decide +kernel), List.mem_of_getElem? (i := 1753) (by decide +kernel), List.mem_of_getElem? (i := 1754) (by decide +kernel)⟩
theorem lw_p110 : lw_okq (⟨"FreightYardsModel", "e", "()I"⟩, 67) := ⟨⟨by decide +kernel, by decide +kernel⟩, List.mem_of_getElem? (i := 1241) (by decide +kernel), List.mem_of_getElem? (i := 1757) (by decide +kernel), List.mem_of_getElem? (i := 1758) (by decide +kernel)⟩
theorem lw_p111 : lw_okq (⟨"FreightYardsModel", "sum", "()I"⟩, 67) := ⟨⟨by decide +kernel, by decide +kernel⟩, List.mem_of_getElem? (i := 1241) (by decide +kernel), List.mem_of_getElem? (i := 1761) (by decide +kernel), List.mem_of_getElem? (i := 1762) (by decide +kernel)⟩
def lw_privs_7 : List (MethodName × Nat) := [(⟨"FreightYardsModel", "is", "(I)Z"⟩, 67), (⟨"FreightYardsModel", "params", "()V"⟩, 67), (⟨"FreightYardsModel", "type", "()I"⟩, 67), (⟨"FreightYardsModel", "variable", "(J)I"⟩, 67), (⟨"FreightYardsModel", "knows", "(JI)V"⟩, 67), (⟨"FreightYardsModel", "block", "()V"⟩, 67), (⟨"FreightYardsModel", "statement", "()V"⟩, 67), (⟨"FreightYardsModel", "acts", "()V"⟩, 67), (⟨"FreightYardsModel", "unit", "()I"⟩, 67), (⟨"FreightYardsModel", "first", "()I"⟩, 67), (⟨"FreightYardsModel", "number", "(IZ)I"⟩, 67), (⟨"FreightYardsModel", "put", "(III)I"⟩, 67), (⟨"FreightYardsModel", "makes", "()I"⟩, 67), (⟨"FreightYardsModel", "opens", "(I)V"⟩, 67), (⟨"FreightYardsModel", "e", "()I"⟩, 67), (⟨"FreightYardsModel", "sum", "()I"⟩, 67)]
theorem lw_r7 : ∀ q ∈ lw_privs_7, lw_okq q := List.forall_mem_cons.mpr ⟨lw_p96, List.forall_mem_cons.mpr ⟨lw_p97, List.forall_mem_cons.mpr ⟨lw_p98, List.forall_mem_cons.mpr ⟨lw_p99, List.forall_mem_cons.mpr ⟨lw_p100, List.forall_mem_cons.mpr ⟨lw_p101, List.forall_mem_cons.mpr ⟨lw_p102, List.forall_mem_cons.mpr ⟨lw_p103, List.forall_mem_cons.mpr ⟨lw_p104, List.forall_mem_cons.mpr ⟨lw_p105, List.forall_mem_cons.mpr ⟨lw_p106, List.forall_mem_cons.mpr ⟨lw_p107, List.forall_mem_cons.mpr ⟨lw_p108, List.forall_mem_cons.mpr ⟨lw_p109, List.forall_mem_cons.mpr ⟨lw_p110, List.forall_mem_cons.mpr ⟨lw_p111, fun _ h => absurd h List.not_mem_nil⟩⟩⟩⟩⟩⟩⟩⟩⟩⟩⟩⟩⟩⟩⟩⟩
theorem lw_p112 : lw_okq (⟨"FreightYardsModel", "product", "()I"⟩, 67) := ⟨⟨by decide +kernel, by decide +kernel⟩, List.mem_of_getElem? (i := 1241) (by decide +kernel), List.mem_of_getElem? (i := 1765) (by decide +kernel), List.mem_of_getElem? (i := 1766) (by decide +kernel)⟩
theorem lw_p113 : lw_okq (⟨"FreightYardsModel", "unitValue", "()I"⟩, 67) := ⟨⟨by decide +kernel, by decide +kernel⟩, List.mem_of_getElem? (i := 1241) (by decide +kernel), List.mem_of_getElem? (i := 1769) (by decide +kernel), List.mem_of_getElem? (i := 1770) (by decide +kernel)⟩
theorem lw_p114 : lw_okq (⟨"FreightYardsModel", "reads", "()V"⟩, 67) := ⟨⟨by decide +kernel, by decide +kernel⟩, List.mem_of_getElem? (i := 1241) (by decide +kernel), List.mem_of_getElem? (i := 1773) (by decide +kernel), List.mem_of_getElem? (i := 1774) (by decide +kernel)⟩
theorem lw_p115 : lw_okq (⟨"FreightYardsModel", "types", "(ZI)V"⟩, 67) := ⟨⟨by decide +kernel, by decide +kernel⟩, List.mem_of_getElem? (i := 1241) (by decide +kernel), List.mem_of_getElem? (i := 1777) (by decide +kernel), List.mem_of_getElem? (i := 1778) (by decide +kernel)⟩
theorem lw_p116 : lw_okq (⟨"FreightYardsModel", "call", "()I"⟩, 67) := ⟨⟨by decide +kernel, by decide +kernel⟩, List.mem_of_getElem? (i := 1241) (by decide +kernel), List.mem_of_getElem? (i := 1785) (by decide +kernel), List.mem_of_getElem? (i := 1786) (by decide +kernel)⟩
theorem lw_p117 : lw_okq (⟨"FreightYardsModel", "paramType", "(II)I"⟩, 67) := ⟨⟨by decide +kernel, by decide +kernel⟩, List.mem_of_getElem? (i := 1241) (by decide +kernel), List.mem_of_getElem? (i := 1792) (by decide +kernel), List.mem_of_getElem? (i := 1793) (by decide +kernel)⟩
theorem lw_p118 : lw_okq (⟨"FreightYardsModel", "waits", "(III)V"⟩, 67) := ⟨⟨by decide +kernel, by decide +kernel⟩, List.mem_of_getElem? (i := 1241) (by decide +kernel), List.mem_of_getElem? (i := 1810) (by decide +kernel), List.mem_of_getElem? (i := 1811) (by decide +kernel)⟩
theorem lw_p119 : lw_okq (⟨"FreightYardsModel", "element", "(I)I"⟩, 67) := ⟨⟨by decide +kernel, by decide +kernel⟩, List.mem_of_getElem? (i := 1241) (by decide +kernel), List.mem_of_getElem? (i := 1814) (by decide +kernel), List.mem_of_getElem? (i := 1815) (by decide +kernel)⟩
theorem lw_p120 : lw_okq (⟨"FreightYardsModel", "field", "(I)I"⟩, 67) := ⟨⟨by decide +kernel, by decide +kernel⟩, List.mem_of_getElem? (i := 1241) (by decide +kernel), List.mem_of_getElem? (i := 1818) (by decide +kernel), List.mem_of_getElem? (i := 1819) (by decide +kernel)⟩
theorem lw_p121 : lw_okq (⟨"FreightYardsModel", "asked", "(I)I"⟩, 67) := ⟨⟨by decide +kernel, by decide +kernel⟩, List.mem_of_getElem? (i := 1241) (by decide +kernel), List.mem_of_getElem? (i := 1837) (by decide +kernel), List.mem_of_getElem? (i := 1838) (by decide +kernel)⟩
theorem lw_p122 : lw_okq (⟨"FreightYardsModel", "variable", "()V"⟩, 67) := ⟨⟨by decide +kernel, by decide +kernel⟩, List.mem_of_getElem? (i := 1241) (by decide +kernel), List.mem_of_getElem? (i := 1845) (by decide +kernel), List.mem_of_getElem? (i := 1846) (by decide +kernel)⟩
theorem lw_p123 : lw_okq (⟨"FreightYardsModel", "fresh", "()V"⟩, 67) := ⟨⟨by decide +kernel, by decide +kernel⟩, List.mem_of_getElem? (i := 1241) (by decide +kernel), List.mem_of_getElem? (i := 1849) (by decide +kernel), List.mem_of_getElem? (i := 1850) (by decide +kernel)⟩
theorem lw_p124 : lw_okq (⟨"FreightYardsModel", "chooses", "(I)V"⟩, 67) := ⟨⟨by decide +kernel, by decide +kernel⟩, List.mem_of_getElem? (i := 1241) (by decide +kernel), List.mem_of_getElem? (i := 1853) (by decide +kernel), List.mem_of_getElem? (i := 1854) (by decide +kernel)⟩
theorem lw_p125 : lw_okq (⟨"FreightYardsModel", "asks", "(I)I"⟩, 67) := ⟨⟨by decide +kernel, by decide +kernel⟩, List.mem_of_getElem? (i := 1241) (by decide +kernel), List.mem_of_getElem? (i := 1857) (by decide +kernel), List.mem_of_getElem? (i := 1858) (by decide +kernel)⟩
theorem lw_p126 : lw_okq (⟨"FreightYardsModel", "repeats", "(I)V"⟩, 67) := ⟨⟨by decide +kernel, by decide +kernel⟩, List.mem_of_getElem? (i := 1241) (by decide +kernel), List.mem_of_getElem? (i := 1861) (by decide +kernel), List.mem_of_getElem? (i := 1862) (by decide +kernel)⟩
theorem lw_p127 : lw_okq (⟨"FreightYardsModel", "attempts", "()V"⟩, 67) := ⟨⟨by decide +kernel, by decide +kernel⟩, List.mem_of_getElem? (i := 1241) (by decide +kernel), List.mem_of_getElem? (i := 1865) (by decide +kernel), List.mem_of_getElem? (i := 1866) (by decide +kernel)⟩
def lw_privs_8 : List (MethodName × Nat) := [(⟨"FreightYardsModel", "product", "()I"⟩, 67), (⟨"FreightYardsModel", "unitValue", "()I"⟩, 67), (⟨"FreightYardsModel", "reads", "()V"⟩, 67), (⟨"FreightYardsModel", "types", "(ZI)V"⟩, 67), (⟨"FreightYardsModel", "call", "()I"⟩, 67), (⟨"FreightYardsModel", "paramType", "(II)I"⟩, 67), (⟨"FreightYardsModel", "waits", "(III)V"⟩, 67), (⟨"FreightYardsModel", "element", "(I)I"⟩, 67), (⟨"FreightYardsModel", "field", "(I)I"⟩, 67), (⟨"FreightYardsModel", "asked", "(I)I"⟩, 67), (⟨"FreightYardsModel", "variable", "()V"⟩, 67), (⟨"FreightYardsModel", "fresh", "()V"⟩, 67), (⟨"FreightYardsModel", "chooses", "(I)V"⟩, 67), (⟨"FreightYardsModel", "asks", "(I)I"⟩, 67), (⟨"FreightYardsModel", "repeats", "(I)V"⟩, 67), (⟨"FreightYardsModel", "attempts", "()V"⟩, 67)]
theorem lw_r8 : ∀ q ∈ lw_privs_8, lw_okq q := List.forall_mem_cons.mpr ⟨lw_p112, List.forall_mem_cons.mpr ⟨lw_p113, List.forall_mem_cons.mpr ⟨lw_p114, List.forall_mem_cons.mpr ⟨lw_p115, List.forall_mem_cons.mpr ⟨lw_p116, List.forall_mem_cons.mpr ⟨lw_p117, List.forall_mem_cons.mpr ⟨lw_p118, List.forall_mem_cons.mpr ⟨lw_p119, List.forall_mem_cons.mpr ⟨lw_p120, List.forall_mem_cons.mpr ⟨lw_p121, List.forall_mem_cons.mpr ⟨lw_p122, List.forall_mem_cons.mpr ⟨lw_p123, List.forall_mem_cons.mpr ⟨lw_p124, List.forall_mem_cons.mpr ⟨lw_p125, List.forall_mem_cons.mpr ⟨lw_p126, List.forall_mem_cons.mpr ⟨lw_p127, fun _ h => absurd h List.not_mem_nil⟩⟩⟩⟩⟩⟩⟩⟩⟩⟩⟩⟩⟩⟩⟩⟩
theorem lw_p128 : lw_okq (⟨"FreightYardsModel", "gives", "(I)V"⟩, 67) := ⟨⟨by decide +kernel, by decide +kernel⟩, List.mem_of_getElem? (i := 1241) (by decide +kernel), List.mem_of_getElem? (i := 1869) (by decide +kernel), List.mem_of_getElem? (i := 1870) (by decide +kernel)⟩
theorem lw_p129 : lw_okq (⟨"FreightYardsModel", "isBare", "(I)Z"⟩, 67) := ⟨⟨by decide +kernel, by decide +kernel⟩, List.mem_of_getElem? (i := 1241) (by decide +kernel), List.mem_of_getElem? (i := 1873) (by decide +kernel), List.mem_of_getElem? (i := 1874) (by decide +kernel)⟩
theorem lw_p130 : lw_okq (⟨"FreightYardsModel", "mayRun", "(I)Z"⟩, 67) := ⟨⟨by decide +kernel, by decide +kernel⟩, List.mem_of_getElem? (i := 1241) (by decide +kernel), List.mem_of_getElem? (i := 1885) (by decide +kernel), List.mem_of_getElem? (i := 1886) (by decide +kernel)⟩
theorem lw_p131 : lw_okq (⟨"FreightYardsModel", "enters", "(II)V"⟩, 67) := ⟨⟨by decide +kernel, by decide +kernel⟩, List.mem_of_getElem? (i := 1241) (by decide +kernel), List.mem_of_getElem? (i := 1889) (by decide +kernel), List.mem_of_getElem? (i := 1890) (by decide +kernel)⟩
theorem lw_p132 : lw_okq (⟨"FreightYardsModel", "works", "()V"⟩, 67) := ⟨⟨by decide +kernel, by decide +kernel⟩, List.mem_of_getElem? (i := 1241) (by decide +kernel), List.mem_of_getElem? (i := 1893) (by decide +kernel), List.mem_of_getElem? (i := 1894) (by decide +kernel)⟩
theorem lw_p133 : lw_okq (⟨"FreightYardsModel", "ends", "(II)V"⟩, 67) := ⟨⟨by decide +kernel, by decide +kernel⟩, List.mem_of_getElem? (i := 1241) (by decide +kernel), List.mem_of_getElem? (i := 1897) (by decide +kernel), List.mem_of_getElem? (i := 1898) (by decide +kernel)⟩
theorem lw_p134 : lw_okq (⟨"FreightYardsModel", "act", "(III)V"⟩, 67) := ⟨⟨by decide +kernel, by decide +kernel⟩, List.mem_of_getElem? (i := 1241) (by decide +kernel), List.mem_of_getElem? (i := 1901) (by decide +kernel), List.mem_of_getElem? (i := 1902) (by decide +kernel)⟩
theorem lw_p135 : lw_okq (⟨"FreightYardsModel", "push", "(I)V"⟩, 67) := ⟨⟨by decide +kernel, by decide +kernel⟩, List.mem_of_getElem? (i := 1241) (by decide +kernel), List.mem_of_getElem? (i := 1905) (by decide +kernel), List.mem_of_getElem? (i := 1906) (by decide +kernel)⟩
theorem lw_p136 : lw_okq (⟨"FreightYardsModel", "pop", "()I"⟩, 67) := ⟨⟨by decide +kernel, by decide +kernel⟩, List.mem_of_getElem? (i := 1241) (by decide +kernel), List.mem_of_getElem? (i := 1909) (by decide +kernel), List.mem_of_getElem? (i := 1910) (by decide +kernel)⟩
theorem lw_p137 : lw_okq (⟨"FreightYardsModel", "element0", "(I)V"⟩, 67) := ⟨⟨by decide +kernel, by decide +kernel⟩, List.mem_of_getElem? (i := 1241) (by decide +kernel), List.mem_of_getElem? (i := 1913) (by decide +kernel), List.mem_of_getElem? (i := 1914) (by decide +kernel)⟩
theorem lw_p138 : lw_okq (⟨"FreightYardsModel", "fault", "(III)V"⟩, 67) := ⟨⟨by decide +kernel, by decide +kernel⟩, List.mem_of_getElem? (i := 1241) (by decide +kernel), List.mem_of_getElem? (i := 1917) (by decide +kernel), List.mem_of_getElem? (i := 1918) (by decide +kernel)⟩
theorem lw_p139 : lw_okq (⟨"FreightYardsModel", "puts", "(I)V"⟩, 67) := ⟨⟨by decide +kernel, by decide +kernel⟩, List.mem_of_getElem? (i := 1241) (by decide +kernel), List.mem_of_getElem? (i := 1921) (by decide +kernel), List.mem_of_getElem? (i := 1922) (by decide +kernel)⟩
theorem lw_p140 : lw_okq (⟨"FreightYardsModel", "isOf", "(II)Z"⟩, 67) := ⟨⟨by decide +kernel, by decide +kernel⟩, List.mem_of_getElem? (i := 1241) (by decide +kernel), List.mem_of_getElem? (i := 1925) (by decide +kernel), List.mem_of_getElem? (i := 1926) (by decide +kernel)⟩
theorem lw_p141 : lw_okq (⟨"FreightYardsModel", "typeOf", "(I)I"⟩, 67) := ⟨⟨by decide +kernel, by decide +kernel⟩, List.mem_of_getElem? (i := 1241) (by decide +kernel), List.mem_of_getElem? (i := 1929) (by decide +kernel), List.mem_of_getElem? (i := 1930) (by decide +kernel)⟩
theorem lw_p142 : lw_okq (⟨"FreightYardsModel", "fieldOf", "(II)I"⟩, 67) := ⟨⟨by decide +kernel, by decide +kernel⟩, List.mem_of_getElem? (i := 1241) (by decide +kernel), List.mem_of_getElem? (i := 1936) (by decide +kernel), List.mem_of_getElem? (i := 1937) (by decide +kernel)⟩
theorem lw_p143 : lw_okq (⟨"FreightYardsModel", "mass", "(I)I"⟩, 67) := ⟨⟨by decide +kernel, by decide +kernel⟩, List.mem_of_getElem? (i := 1241) (by decide +kernel), List.mem_of_getElem? (i := 1940) (by decide +kernel), List.mem_of_getElem? (i := 1941) (by decide +kernel)⟩
def lw_privs_9 : List (MethodName × Nat) := [(⟨"FreightYardsModel", "gives", "(I)V"⟩, 67), (⟨"FreightYardsModel", "isBare", "(I)Z"⟩, 67), (⟨"FreightYardsModel", "mayRun", "(I)Z"⟩, 67), (⟨"FreightYardsModel", "enters", "(II)V"⟩, 67), (⟨"FreightYardsModel", "works", "()V"⟩, 67), (⟨"FreightYardsModel", "ends", "(II)V"⟩, 67), (⟨"FreightYardsModel", "act", "(III)V"⟩, 67), (⟨"FreightYardsModel", "push", "(I)V"⟩, 67), (⟨"FreightYardsModel", "pop", "()I"⟩, 67), (⟨"FreightYardsModel", "element0", "(I)V"⟩, 67), (⟨"FreightYardsModel", "fault", "(III)V"⟩, 67), (⟨"FreightYardsModel", "puts", "(I)V"⟩, 67), (⟨"FreightYardsModel", "isOf", "(II)Z"⟩, 67), (⟨"FreightYardsModel", "typeOf", "(I)I"⟩, 67), (⟨"FreightYardsModel", "fieldOf", "(II)I"⟩, 67), (⟨"FreightYardsModel", "mass", "(I)I"⟩, 67)]
theorem lw_r9 : ∀ q ∈ lw_privs_9, lw_okq q := List.forall_mem_cons.mpr ⟨lw_p128, List.forall_mem_cons.mpr ⟨lw_p129, List.forall_mem_cons.mpr ⟨lw_p130, List.forall_mem_cons.mpr ⟨lw_p131, List.forall_mem_cons.mpr ⟨lw_p132, List.forall_mem_cons.mpr ⟨lw_p133, List.forall_mem_cons.mpr ⟨lw_p134, List.forall_mem_cons.mpr ⟨lw_p135, List.forall_mem_cons.mpr ⟨lw_p136, List.forall_mem_cons.mpr ⟨lw_p137, List.forall_mem_cons.mpr ⟨lw_p138, List.forall_mem_cons.mpr ⟨lw_p139, List.forall_mem_cons.mpr ⟨lw_p140, List.forall_mem_cons.mpr ⟨lw_p141, List.forall_mem_cons.mpr ⟨lw_p142, List.forall_mem_cons.mpr ⟨lw_p143, fun _ h => absurd h List.not_mem_nil⟩⟩⟩⟩⟩⟩⟩⟩⟩⟩⟩⟩⟩⟩⟩⟩
theorem lw_p144 : lw_okq (⟨"FreightYardsModel", "grip", "(I)I"⟩, 67) := ⟨⟨by decide +kernel, by decide +kernel⟩, List.mem_of_getElem? (i := 1241) (by decide +kernel), List.mem_of_getElem? (i := 1944) (by decide +kernel), List.mem_of_getElem? (i := 1945) (by decide +kernel)⟩
theorem lw_p145 : lw_okq (⟨"FreightYardsModel", "pull", "(I)I"⟩, 67) := ⟨⟨by decide +kernel, by decide +kernel⟩, List.mem_of_getElem? (i := 1241) (by decide +kernel), List.mem_of_getElem? (i := 1948) (by decide +kernel), List.mem_of_getElem? (i := 1949) (by decide +kernel)⟩
theorem lw_p146 : lw_okq (⟨"FreightYardsModel", "make", "(II)V"⟩, 67) := ⟨⟨by decide +kernel, by decide +kernel⟩, List.mem_of_getElem? (i := 1241) (by decide +kernel), List.mem_of_getElem? (i := 1952) (by decide +kernel), List.mem_of_getElem? (i := 1953) (by decide +kernel)⟩
theorem lw_p147 : lw_okq (⟨"FreightYardsModel", "makeRow", "(II)V"⟩, 67) := ⟨⟨by decide +kernel, by decide +kernel⟩, List.mem_of_getElem? (i := 1241) (by decide +kernel), List.mem_of_getElem? (i := 1956) (by decide +kernel), List.mem_of_getElem? (i := 1957) (by decide +kernel)⟩
theorem lw_p148 : lw_okq (⟨"FreightYardsModel", "begins", "(II)V"⟩, 67) := ⟨⟨by decide +kernel, by decide +kernel⟩, List.mem_of_getElem? (i := 1241) (by decide +kernel), List.mem_of_getElem? (i := 1960) (by decide +kernel), List.mem_of_getElem? (i := 1961) (by decide +kernel)⟩
theorem lw_p149 : lw_okq (⟨"FreightYardsModel", "five", "(II)V"⟩, 67) := ⟨⟨by decide +kernel, by decide +kernel⟩, List.mem_of_getElem? (i := 1241) (by decide +kernel), List.mem_of_getElem? (i := 1964) (by decide +kernel), List.mem_of_getElem? (i := 1965) (by decide +kernel)⟩
theorem lw_p150 : lw_okq (⟨"FreightYardsModel", "takes", "(II)Z"⟩, 67) := ⟨⟨by decide +kernel, by decide +kernel⟩, List.mem_of_getElem? (i := 1241) (by decide +kernel), List.mem_of_getElem? (i := 1971) (by decide +kernel), List.mem_of_getElem? (i := 1972) (by decide +kernel)⟩
theorem lw_p151 : lw_okq (⟨"FreightYardsModel", "hump", "(II)I"⟩, 67) := ⟨⟨by decide +kernel, by decide +kernel⟩, List.mem_of_getElem? (i := 1241) (by decide +kernel), List.mem_of_getElem? (i := 1975) (by decide +kernel), List.mem_of_getElem? (i := 1976) (by decide +kernel)⟩
theorem lw_p152 : lw_okq (⟨"FreightYardsModel", "send", "(III)I"⟩, 67) := ⟨⟨by decide +kernel, by decide +kernel⟩, List.mem_of_getElem? (i := 1241) (by decide +kernel), List.mem_of_getElem? (i := 1979) (by decide +kernel), List.mem_of_getElem? (i := 1980) (by decide +kernel)⟩
theorem lw_p153 : lw_okq (⟨"FreightYardsModel", "says", "(I)V"⟩, 67) := ⟨⟨by decide +kernel, by decide +kernel⟩, List.mem_of_getElem? (i := 1241) (by decide +kernel), List.mem_of_getElem? (i := 1983) (by decide +kernel), List.mem_of_getElem? (i := 1984) (by decide +kernel)⟩
theorem lw_p154 : lw_okq (⟨"FreightYardsModel", "returns", "(IZ)V"⟩, 67) := ⟨⟨by decide +kernel, by decide +kernel⟩, List.mem_of_getElem? (i := 1241) (by decide +kernel), List.mem_of_getElem? (i := 1987) (by decide +kernel), List.mem_of_getElem? (i := 1988) (by decide +kernel)⟩
theorem lw_p155 : lw_okq (⟨"FreightYardsModel", "reckons", "(I)V"⟩, 67) := ⟨⟨by decide +kernel, by decide +kernel⟩, List.mem_of_getElem? (i := 1241) (by decide +kernel), List.mem_of_getElem? (i := 1991) (by decide +kernel), List.mem_of_getElem? (i := 1992) (by decide +kernel)⟩
theorem lw_p156 : lw_okq (⟨"FreightYardsModel", "goes", "(I)Z"⟩, 67) := ⟨⟨by decide +kernel, by decide +kernel⟩, List.mem_of_getElem? (i := 1241) (by decide +kernel), List.mem_of_getElem? (i := 2011) (by decide +kernel), List.mem_of_getElem? (i := 2012) (by decide +kernel)⟩
theorem lw_p157 : lw_okq (⟨"FreightYardsModel", "speedOf", "(I)I"⟩, 67) := ⟨⟨by decide +kernel, by decide +kernel⟩, List.mem_of_getElem? (i := 1241) (by decide +kernel), List.mem_of_getElem? (i := 2015) (by decide +kernel), List.mem_of_getElem? (i := 2016) (by decide +kernel)⟩
theorem lw_p158 : lw_okq (⟨"FreightYardsModel", "massOf", "(I)I"⟩, 67) := ⟨⟨by decide +kernel, by decide +kernel⟩, List.mem_of_getElem? (i := 1241) (by decide +kernel), List.mem_of_getElem? (i := 2019) (by decide +kernel), List.mem_of_getElem? (i := 2020) (by decide +kernel)⟩
theorem lw_p159 : lw_okq (⟨"FreightYardsModel", "burns", "(I)V"⟩, 67) := ⟨⟨by decide +kernel, by decide +kernel⟩, List.mem_of_getElem? (i := 1241) (by decide +kernel), List.mem_of_getElem? (i := 2023) (by decide +kernel), List.mem_of_getElem? (i := 2024) (by decide +kernel)⟩
def lw_privs_10 : List (MethodName × Nat) := [(⟨"FreightYardsModel", "grip", "(I)I"⟩, 67), (⟨"FreightYardsModel", "pull", "(I)I"⟩, 67), (⟨"FreightYardsModel", "make", "(II)V"⟩, 67), (⟨"FreightYardsModel", "makeRow", "(II)V"⟩, 67), (⟨"FreightYardsModel", "begins", "(II)V"⟩, 67), (⟨"FreightYardsModel", "five", "(II)V"⟩, 67), (⟨"FreightYardsModel", "takes", "(II)Z"⟩, 67), (⟨"FreightYardsModel", "hump", "(II)I"⟩, 67), (⟨"FreightYardsModel", "send", "(III)I"⟩, 67), (⟨"FreightYardsModel", "says", "(I)V"⟩, 67), (⟨"FreightYardsModel", "returns", "(IZ)V"⟩, 67), (⟨"FreightYardsModel", "reckons", "(I)V"⟩, 67), (⟨"FreightYardsModel", "goes", "(I)Z"⟩, 67), (⟨"FreightYardsModel", "speedOf", "(I)I"⟩, 67), (⟨"FreightYardsModel", "massOf", "(I)I"⟩, 67), (⟨"FreightYardsModel", "burns", "(I)V"⟩, 67)]
theorem lw_r10 : ∀ q ∈ lw_privs_10, lw_okq q := List.forall_mem_cons.mpr ⟨lw_p144, List.forall_mem_cons.mpr ⟨lw_p145, List.forall_mem_cons.mpr ⟨lw_p146, List.forall_mem_cons.mpr ⟨lw_p147, List.forall_mem_cons.mpr ⟨lw_p148, List.forall_mem_cons.mpr ⟨lw_p149, List.forall_mem_cons.mpr ⟨lw_p150, List.forall_mem_cons.mpr ⟨lw_p151, List.forall_mem_cons.mpr ⟨lw_p152, List.forall_mem_cons.mpr ⟨lw_p153, List.forall_mem_cons.mpr ⟨lw_p154, List.forall_mem_cons.mpr ⟨lw_p155, List.forall_mem_cons.mpr ⟨lw_p156, List.forall_mem_cons.mpr ⟨lw_p157, List.forall_mem_cons.mpr ⟨lw_p158, List.forall_mem_cons.mpr ⟨lw_p159, fun _ h => absurd h List.not_mem_nil⟩⟩⟩⟩⟩⟩⟩⟩⟩⟩⟩⟩⟩⟩⟩⟩
theorem lw_p160 : lw_okq (⟨"FreightYardsModel", "least", "(I)I"⟩, 67) := ⟨⟨by decide +kernel, by decide +kernel⟩, List.mem_of_getElem? (i := 1241) (by decide +kernel), List.mem_of_getElem? (i := 2035) (by decide +kernel), List.mem_of_getElem? (i := 2036) (by decide +kernel)⟩
def lw_privs_11 : List (MethodName × Nat) := [(⟨"FreightYardsModel", "least", "(I)I"⟩, 67)]
theorem lw_r11 : ∀ q ∈ lw_privs_11, lw_okq q := List.forall_mem_cons.mpr ⟨lw_p160, fun _ h => absurd h List.not_mem_nil⟩
def lw_privs : List (MethodName × Nat) := lw_privs_1 ++ (lw_privs_2 ++ (lw_privs_3 ++ (lw_privs_4 ++ (lw_privs_5 ++ (lw_privs_6 ++ (lw_privs_7 ++ (lw_privs_8 ++ (lw_privs_9 ++ (lw_privs_10 ++ (lw_privs_11))))))))))
def lw_tbl : List Cond := k2_sels lw_privs ++ tables_1
theorem lw_privs_ok : ∀ q ∈ lw_privs, lw_okq q := by
  show ∀ q ∈ lw_privs_1 ++ (lw_privs_2 ++ (lw_privs_3 ++ (lw_privs_4 ++ (lw_privs_5 ++ (lw_privs_6 ++ (lw_privs_7 ++ (lw_privs_8 ++ (lw_privs_9 ++ (lw_privs_10 ++ (lw_privs_11)))))))))), lw_okq q
  exact List.forall_mem_append.mpr ⟨lw_r1, List.forall_mem_append.mpr ⟨lw_r2, List.forall_mem_append.mpr ⟨lw_r3, List.forall_mem_append.mpr ⟨lw_r4, List.forall_mem_append.mpr ⟨lw_r5, List.forall_mem_append.mpr ⟨lw_r6, List.forall_mem_append.mpr ⟨lw_r7, List.forall_mem_append.mpr ⟨lw_r8, List.forall_mem_append.mpr ⟨lw_r9, List.forall_mem_append.mpr ⟨lw_r10, lw_r11⟩⟩⟩⟩⟩⟩⟩⟩⟩⟩
end
end
section
section
def RX0 : String := "FreightYards$Code"
def TX0 : u_T := fun k => match k with
  | 0 => ("FreightYards$Code", "ops", "[I", true)
  | 1 => ("FreightYards$Code", "args", "[I", true)
  | 2 => ("FreightYards$Code", "tokenPlaces", "[I", true)
  | 3 => ("FreightYards$Code", "tries", "[I", true)
  | 4 => ("FreightYards$Code", "catches", "[I", true)
  | 5 => ("FreightYards$Code", "starts", "[I", true)
  | 6 => ("FreightYards$Code", "parameterCounts", "[I", true)
  | 7 => ("FreightYards$Code", "parameters", "[I", true)
  | 8 => ("FreightYards$Code", "gives", "[I", true)
  | 9 => ("FreightYards$Code", "procs", "I", false)
  | 10 => ("FreightYards$Code", "tryCount", "I", false)
  | 11 => ("FreightYards$Code", "size", "I", false)
  | _ => ("FreightYards$Code", "openTry", "I", false)
def tyX0 : Nat → FieldType := fun k => match k with
  | 0 => .array .int
  | 1 => .array .int
  | 2 => .array .int
  | 3 => .array .int
  | 4 => .array .int
  | 5 => .array .int
  | 6 => .array .int
  | 7 => .array .int
  | 8 => .array .int
  | 9 => .int
  | 10 => .int
  | 11 => .int
  | _ => .int
theorem nmX0 : ∀ a, a < 13 → ∀ b, b < 13 → a ≠ b → (TX0 a).2.1 ≠ (TX0 b).2.1 := by decide +kernel
theorem tyX0_ok : ∀ k, k < 13 → parseFieldDescriptor (TX0 k).2.2.1 = some (tyX0 k) := by decide +kernel
def RX1 : String := "FreightYards$Kinds"
def TX1 : u_T := fun k => match k with
  | _ => ("", "", "", false)
def tyX1 : Nat → FieldType := fun k => match k with
  | _ => .int
theorem nmX1 : ∀ a, a < 0 → ∀ b, b < 0 → a ≠ b → (TX1 a).2.1 ≠ (TX1 b).2.1 := by decide +kernel
theorem tyX1_ok : ∀ k, k < 0 → parseFieldDescriptor (TX1 k).2.2.1 = some (tyX1 k) := by decide +kernel
def RX2 : String := "FreightYards$Line"
def TX2 : u_T := fun k => match k with
  | 0 => ("FreightYards$Line", "stated", "[I", true)
  | 1 => ("FreightYards$Line", "trackRows", "[LFreightYards$Row;", true)
  | 2 => ("FreightYards$Line", "trains", "[LFreightYards$Train;", true)
  | 3 => ("FreightYards$Line", "trainCount", "I", false)
  | _ => ("FreightYards$Line", "clock", "I", false)
def tyX2 : Nat → FieldType := fun k => match k with
  | 0 => .array .int
  | 1 => .array (.object "FreightYards$Row")
  | 2 => .array (.object "FreightYards$Train")
  | 3 => .int
  | _ => .int
theorem nmX2 : ∀ a, a < 5 → ∀ b, b < 5 → a ≠ b → (TX2 a).2.1 ≠ (TX2 b).2.1 := by decide +kernel
theorem tyX2_ok : ∀ k, k < 5 → parseFieldDescriptor (TX2 k).2.2.1 = some (tyX2 k) := by decide +kernel
def RX3 : String := "FreightYards$Machine"
def TX3 : u_T := fun k => match k with
  | 0 => ("FreightYards$Machine", "yard", "LFreightYards$Yard;", true)
  | 1 => ("FreightYards$Machine", "line", "LFreightYards$Line;", true)
  | 2 => ("FreightYards$Machine", "stack", "[I", true)
  | 3 => ("FreightYards$Machine", "bases", "[I", true)
  | 4 => ("FreightYards$Machine", "backs", "[I", true)
  | 5 => ("FreightYards$Machine", "lastRun", "[I", true)
  | 6 => ("FreightYards$Machine", "hasRun", "Z", false)
  | 7 => ("FreightYards$Machine", "code", "LFreightYards$Code;", false)
  | 8 => ("FreightYards$Machine", "top", "I", false)
  | 9 => ("FreightYards$Machine", "deep", "I", false)
  | 10 => ("FreightYards$Machine", "next", "I", false)
  | 11 => ("FreightYards$Machine", "fuel", "I", false)
  | 12 => ("FreightYards$Machine", "outcome", "I", false)
  | 13 => ("FreightYards$Machine", "outcomeAt", "I", false)
  | 14 => ("FreightYards$Machine", "given", "I", false)
  | 15 => ("FreightYards$Machine", "saidNumbers", "[I", true)
  | 16 => ("FreightYards$Machine", "saidCount", "I", false)
  | _ => ("FreightYards$Machine", "faults", "I", false)
def tyX3 : Nat → FieldType := fun k => match k with
  | 0 => .object "FreightYards$Yard"
  | 1 => .object "FreightYards$Line"
  | 2 => .array .int
  | 3 => .array .int
  | 4 => .array .int
  | 5 => .array .int
  | 6 => .boolean
  | 7 => .object "FreightYards$Code"
  | 8 => .int
  | 9 => .int
  | 10 => .int
  | 11 => .int
  | 12 => .int
  | 13 => .int
  | 14 => .int
  | 15 => .array .int
  | 16 => .int
  | _ => .int
theorem nmX3 : ∀ a, a < 18 → ∀ b, b < 18 → a ≠ b → (TX3 a).2.1 ≠ (TX3 b).2.1 := by decide +kernel
theorem tyX3_ok : ∀ k, k < 18 → parseFieldDescriptor (TX3 k).2.2.1 = some (tyX3 k) := by decide +kernel
def RX4 : String := "FreightYards$Names"
def TX4 : u_T := fun k => match k with
  | 0 => ("FreightYards$Names", "codes", "[J", true)
  | 1 => ("FreightYards$Names", "types", "[I", true)
  | 2 => ("FreightYards$Names", "knownSlots", "[I", true)
  | 3 => ("FreightYards$Names", "made", "I", false)
  | _ => ("FreightYards$Names", "known", "I", false)
def tyX4 : Nat → FieldType := fun k => match k with
  | 0 => .array .long
  | 1 => .array .int
  | 2 => .array .int
  | 3 => .int
  | _ => .int
theorem nmX4 : ∀ a, a < 5 → ∀ b, b < 5 → a ≠ b → (TX4 a).2.1 ≠ (TX4 b).2.1 := by decide +kernel
theorem tyX4_ok : ∀ k, k < 5 → parseFieldDescriptor (TX4 k).2.2.1 = some (tyX4 k) := by decide +kernel
def RX5 : String := "FreightYards$Reader"
def TX5 : u_T := fun k => match k with
  | 0 => ("FreightYards$Reader", "tape", "LFreightYards$Tape;", true)
  | 1 => ("FreightYards$Reader", "names", "LFreightYards$Names;", true)
  | 2 => ("FreightYards$Reader", "procNames", "[J", true)
  | 3 => ("FreightYards$Reader", "code", "LFreightYards$Code;", false)
  | 4 => ("FreightYards$Reader", "proc", "I", false)
  | 5 => ("FreightYards$Reader", "at", "I", false)
  | 6 => ("FreightYards$Reader", "kind", "I", false)
  | 7 => ("FreightYards$Reader", "tokenPlace", "I", false)
  | 8 => ("FreightYards$Reader", "value", "J", false)
  | 9 => ("FreightYards$Reader", "nextKind", "I", false)
  | 10 => ("FreightYards$Reader", "shape", "I", false)
  | 11 => ("FreightYards$Reader", "fault", "I", false)
  | _ => ("FreightYards$Reader", "faultPlace", "I", false)
def tyX5 : Nat → FieldType := fun k => match k with
  | 0 => .object "FreightYards$Tape"
  | 1 => .object "FreightYards$Names"
  | 2 => .array .long
  | 3 => .object "FreightYards$Code"
  | 4 => .int
  | 5 => .int
  | 6 => .int
  | 7 => .int
  | 8 => .long
  | 9 => .int
  | 10 => .int
  | 11 => .int
  | _ => .int
theorem nmX5 : ∀ a, a < 13 → ∀ b, b < 13 → a ≠ b → (TX5 a).2.1 ≠ (TX5 b).2.1 := by decide +kernel
theorem tyX5_ok : ∀ k, k < 13 → parseFieldDescriptor (TX5 k).2.2.1 = some (tyX5 k) := by decide +kernel
def RX6 : String := "FreightYards$Row"
def TX6 : u_T := fun k => match k with
  | 0 => ("FreightYards$Row", "of", "I", true)
  | 1 => ("FreightYards$Row", "number", "I", true)
  | 2 => ("FreightYards$Row", "size", "I", true)
  | _ => ("FreightYards$Row", "places", "[LFreightYards$Vehicle;", true)
def tyX6 : Nat → FieldType := fun k => match k with
  | 0 => .int
  | 1 => .int
  | 2 => .int
  | _ => .array (.object "FreightYards$Vehicle")
theorem nmX6 : ∀ a, a < 4 → ∀ b, b < 4 → a ≠ b → (TX6 a).2.1 ≠ (TX6 b).2.1 := by decide +kernel
theorem tyX6_ok : ∀ k, k < 4 → parseFieldDescriptor (TX6 k).2.2.1 = some (tyX6 k) := by decide +kernel
def RX7 : String := "FreightYards$Tape"
def TX7 : u_T := fun k => match k with
  | 0 => ("FreightYards$Tape", "bytes", "[B", true)
  | 1 => ("FreightYards$Tape", "length", "I", false)
  | 2 => ("FreightYards$Tape", "end", "I", false)
  | 3 => ("FreightYards$Tape", "at", "I", false)
  | 4 => ("FreightYards$Tape", "kinds", "[I", true)
  | 5 => ("FreightYards$Tape", "places", "[I", true)
  | 6 => ("FreightYards$Tape", "values", "[J", true)
  | _ => ("FreightYards$Tape", "tokens", "I", false)
def tyX7 : Nat → FieldType := fun k => match k with
  | 0 => .array .byte
  | 1 => .int
  | 2 => .int
  | 3 => .int
  | 4 => .array .int
  | 5 => .array .int
  | 6 => .array .long
  | _ => .int
theorem nmX7 : ∀ a, a < 8 → ∀ b, b < 8 → a ≠ b → (TX7 a).2.1 ≠ (TX7 b).2.1 := by decide +kernel
theorem tyX7_ok : ∀ k, k < 8 → parseFieldDescriptor (TX7 k).2.2.1 = some (tyX7 k) := by decide +kernel
def RX8 : String := "FreightYards$Train"
def TX8 : u_T := fun k => match k with
  | 0 => ("FreightYards$Train", "row", "LFreightYards$Row;", true)
  | 1 => ("FreightYards$Train", "goal", "I", true)
  | 2 => ("FreightYards$Train", "miles", "I", false)
  | 3 => ("FreightYards$Train", "speed", "I", false)
  | _ => ("FreightYards$Train", "stage", "I", false)
def tyX8 : Nat → FieldType := fun k => match k with
  | 0 => .object "FreightYards$Row"
  | 1 => .int
  | 2 => .int
  | 3 => .int
  | _ => .int
theorem nmX8 : ∀ a, a < 5 → ∀ b, b < 5 → a ≠ b → (TX8 a).2.1 ≠ (TX8 b).2.1 := by decide +kernel
theorem tyX8_ok : ∀ k, k < 5 → parseFieldDescriptor (TX8 k).2.2.1 = some (tyX8 k) := by decide +kernel
def RX9 : String := "FreightYards$Vehicle"
def TX9 : u_T := fun k => match k with
  | 0 => ("FreightYards$Vehicle", "kind", "I", true)
  | 1 => ("FreightYards$Vehicle", "number", "I", true)
  | 2 => ("FreightYards$Vehicle", "tag", "I", false)
  | 3 => ("FreightYards$Vehicle", "behind", "I", false)
  | 4 => ("FreightYards$Vehicle", "load", "I", false)
  | 5 => ("FreightYards$Vehicle", "chill", "I", false)
  | 6 => ("FreightYards$Vehicle", "reach", "I", false)
  | _ => ("FreightYards$Vehicle", "fuel", "I", false)
def tyX9 : Nat → FieldType := fun k => match k with
  | 0 => .int
  | 1 => .int
  | 2 => .int
  | 3 => .int
  | 4 => .int
  | 5 => .int
  | 6 => .int
  | _ => .int
theorem nmX9 : ∀ a, a < 8 → ∀ b, b < 8 → a ≠ b → (TX9 a).2.1 ≠ (TX9 b).2.1 := by decide +kernel
theorem tyX9_ok : ∀ k, k < 8 → parseFieldDescriptor (TX9 k).2.2.1 = some (tyX9 k) := by decide +kernel
def RX10 : String := "FreightYards$Yard"
def TX10 : u_T := fun k => match k with
  | 0 => ("FreightYards$Yard", "vehicles", "[LFreightYards$Vehicle;", true)
  | 1 => ("FreightYards$Yard", "rows", "[LFreightYards$Row;", true)
  | 2 => ("FreightYards$Yard", "vehicleCount", "I", false)
  | 3 => ("FreightYards$Yard", "rowCount", "I", false)
  | _ => ("FreightYards$Yard", "placeCount", "I", false)
def tyX10 : Nat → FieldType := fun k => match k with
  | 0 => .array (.object "FreightYards$Vehicle")
  | 1 => .array (.object "FreightYards$Row")
  | 2 => .int
  | 3 => .int
  | _ => .int
theorem nmX10 : ∀ a, a < 5 → ∀ b, b < 5 → a ≠ b → (TX10 a).2.1 ≠ (TX10 b).2.1 := by decide +kernel
theorem tyX10_ok : ∀ k, k < 5 → parseFieldDescriptor (TX10 k).2.2.1 = some (tyX10 k) := by decide +kernel
def RX11 : String := "FreightYards"
def TX11 : u_T := fun k => match k with
  | 0 => ("FreightYards", "tape", "LFreightYards$Tape;", true)
  | 1 => ("FreightYards", "yard", "LFreightYards$Yard;", true)
  | 2 => ("FreightYards", "line", "LFreightYards$Line;", true)
  | 3 => ("FreightYards", "reader", "LFreightYards$Reader;", true)
  | 4 => ("FreightYards", "machine", "LFreightYards$Machine;", true)
  | 5 => ("FreightYards", "text", "LFreightYards$Code;", false)
  | _ => ("FreightYards", "spare", "LFreightYards$Code;", false)
def tyX11 : Nat → FieldType := fun k => match k with
  | 0 => .object "FreightYards$Tape"
  | 1 => .object "FreightYards$Yard"
  | 2 => .object "FreightYards$Line"
  | 3 => .object "FreightYards$Reader"
  | 4 => .object "FreightYards$Machine"
  | 5 => .object "FreightYards$Code"
  | _ => .object "FreightYards$Code"
theorem nmX11 : ∀ a, a < 7 → ∀ b, b < 7 → a ≠ b → (TX11 a).2.1 ≠ (TX11 b).2.1 := by decide +kernel
theorem tyX11_ok : ∀ k, k < 7 → parseFieldDescriptor (TX11 k).2.2.1 = some (tyX11 k) := by decide +kernel
def RX12 : String := "FreightYardsModel$Book"
def TX12 : u_T := fun k => match k with
  | 0 => ("FreightYardsModel$Book", "procs", "I", false)
  | 1 => ("FreightYardsModel$Book", "names", "[J", true)
  | 2 => ("FreightYardsModel$Book", "gives", "[I", true)
  | 3 => ("FreightYardsModel$Book", "params", "[I", true)
  | 4 => ("FreightYardsModel$Book", "paramTypes", "[I", true)
  | 5 => ("FreightYardsModel$Book", "begins", "[I", true)
  | 6 => ("FreightYardsModel$Book", "steps", "I", false)
  | 7 => ("FreightYardsModel$Book", "ops", "[I", true)
  | 8 => ("FreightYardsModel$Book", "numbers", "[I", true)
  | 9 => ("FreightYardsModel$Book", "second", "[I", true)
  | _ => ("FreightYardsModel$Book", "where", "[I", true)
def tyX12 : Nat → FieldType := fun k => match k with
  | 0 => .int
  | 1 => .array .long
  | 2 => .array .int
  | 3 => .array .int
  | 4 => .array .int
  | 5 => .array .int
  | 6 => .int
  | 7 => .array .int
  | 8 => .array .int
  | 9 => .array .int
  | _ => .array .int
theorem nmX12 : ∀ a, a < 11 → ∀ b, b < 11 → a ≠ b → (TX12 a).2.1 ≠ (TX12 b).2.1 := by decide +kernel
theorem tyX12_ok : ∀ k, k < 11 → parseFieldDescriptor (TX12 k).2.2.1 = some (tyX12 k) := by decide +kernel
def RX13 : String := "FreightYardsModel"
def TX13 : u_T := fun k => match k with
  | 0 => ("FreightYardsModel", "tape", "[B", true)
  | 1 => ("FreightYardsModel", "taped", "I", false)
  | 2 => ("FreightYardsModel", "kinds", "[I", true)
  | 3 => ("FreightYardsModel", "places", "[I", true)
  | 4 => ("FreightYardsModel", "values", "[J", true)
  | 5 => ("FreightYardsModel", "end", "I", false)
  | 6 => ("FreightYardsModel", "book", "LFreightYardsModel$Book;", false)
  | 7 => ("FreightYardsModel", "spare", "LFreightYardsModel$Book;", false)
  | 8 => ("FreightYardsModel", "wrong", "Ljava/lang/IllegalStateException;", true)
  | 9 => ("FreightYardsModel", "fault", "I", false)
  | 10 => ("FreightYardsModel", "faultPlace", "I", false)
  | 11 => ("FreightYardsModel", "at", "I", false)
  | 12 => ("FreightYardsModel", "proc", "I", false)
  | 13 => ("FreightYardsModel", "open", "I", false)
  | 14 => ("FreightYardsModel", "braces", "I", false)
  | 15 => ("FreightYardsModel", "made", "I", false)
  | 16 => ("FreightYardsModel", "known", "I", false)
  | 17 => ("FreightYardsModel", "knownName", "[J", true)
  | 18 => ("FreightYardsModel", "knownType", "[I", true)
  | 19 => ("FreightYardsModel", "knownSlot", "[I", true)
  | 20 => ("FreightYardsModel", "shape", "I", false)
  | 21 => ("FreightYardsModel", "waits", "I", false)
  | 22 => ("FreightYardsModel", "waitsNumber", "I", false)
  | 23 => ("FreightYardsModel", "waitsToken", "I", false)
  | 24 => ("FreightYardsModel", "vehicles", "I", false)
  | 25 => ("FreightYardsModel", "rows", "I", false)
  | 26 => ("FreightYardsModel", "spots", "I", false)
  | 27 => ("FreightYardsModel", "faults", "I", false)
  | 28 => ("FreightYardsModel", "saidMany", "I", false)
  | 29 => ("FreightYardsModel", "kind", "[I", true)
  | 30 => ("FreightYardsModel", "fields", "[I", true)
  | 31 => ("FreightYardsModel", "rowOf", "[I", true)
  | 32 => ("FreightYardsModel", "rowFrom", "[I", true)
  | 33 => ("FreightYardsModel", "rowSize", "[I", true)
  | 34 => ("FreightYardsModel", "cells", "[I", true)
  | 35 => ("FreightYardsModel", "said", "[I", true)
  | 36 => ("FreightYardsModel", "stack", "[I", true)
  | 37 => ("FreightYardsModel", "top", "I", false)
  | 38 => ("FreightYardsModel", "slots", "[I", true)
  | 39 => ("FreightYardsModel", "depth", "I", false)
  | 40 => ("FreightYardsModel", "backs", "[I", true)
  | 41 => ("FreightYardsModel", "doing", "[I", true)
  | 42 => ("FreightYardsModel", "bottoms", "[I", true)
  | 43 => ("FreightYardsModel", "tryStep", "[I", true)
  | 44 => ("FreightYardsModel", "tryDepth", "[I", true)
  | 45 => ("FreightYardsModel", "tryTop", "[I", true)
  | 46 => ("FreightYardsModel", "trySlot", "[I", true)
  | 47 => ("FreightYardsModel", "tries", "I", false)
  | 48 => ("FreightYardsModel", "step", "I", false)
  | 49 => ("FreightYardsModel", "fuel", "I", false)
  | 50 => ("FreightYardsModel", "answer", "I", false)
  | 51 => ("FreightYardsModel", "given", "I", false)
  | 52 => ("FreightYardsModel", "ownFault", "I", false)
  | 53 => ("FreightYardsModel", "place", "I", false)
  | 54 => ("FreightYardsModel", "givenType", "I", false)
  | 55 => ("FreightYardsModel", "givenNumber", "I", false)
  | 56 => ("FreightYardsModel", "ran", "Z", false)
  | 57 => ("FreightYardsModel", "isOver", "Z", false)
  | 58 => ("FreightYardsModel", "states", "[I", true)
  | 59 => ("FreightYardsModel", "trackRow", "[I", true)
  | 60 => ("FreightYardsModel", "trains", "I", false)
  | 61 => ("FreightYardsModel", "clock", "I", false)
  | 62 => ("FreightYardsModel", "trainRow", "[I", true)
  | 63 => ("FreightYardsModel", "trainTrack", "[I", true)
  | 64 => ("FreightYardsModel", "miles", "[I", true)
  | 65 => ("FreightYardsModel", "trainIs", "[I", true)
  | _ => ("FreightYardsModel", "speeds", "[I", true)
def tyX13 : Nat → FieldType := fun k => match k with
  | 0 => .array .byte
  | 1 => .int
  | 2 => .array .int
  | 3 => .array .int
  | 4 => .array .long
  | 5 => .int
  | 6 => .object "FreightYardsModel$Book"
  | 7 => .object "FreightYardsModel$Book"
  | 8 => .object "java/lang/IllegalStateException"
  | 9 => .int
  | 10 => .int
  | 11 => .int
  | 12 => .int
  | 13 => .int
  | 14 => .int
  | 15 => .int
  | 16 => .int
  | 17 => .array .long
  | 18 => .array .int
  | 19 => .array .int
  | 20 => .int
  | 21 => .int
  | 22 => .int
  | 23 => .int
  | 24 => .int
  | 25 => .int
  | 26 => .int
  | 27 => .int
  | 28 => .int
  | 29 => .array .int
  | 30 => .array .int
  | 31 => .array .int
  | 32 => .array .int
  | 33 => .array .int
  | 34 => .array .int
  | 35 => .array .int
  | 36 => .array .int
  | 37 => .int
  | 38 => .array .int
  | 39 => .int
  | 40 => .array .int
  | 41 => .array .int
  | 42 => .array .int
  | 43 => .array .int
  | 44 => .array .int
  | 45 => .array .int
  | 46 => .array .int
  | 47 => .int
  | 48 => .int
  | 49 => .int
  | 50 => .int
  | 51 => .int
  | 52 => .int
  | 53 => .int
  | 54 => .int
  | 55 => .int
  | 56 => .boolean
  | 57 => .boolean
  | 58 => .array .int
  | 59 => .array .int
  | 60 => .int
  | 61 => .int
  | 62 => .array .int
  | 63 => .array .int
  | 64 => .array .int
  | 65 => .array .int
  | _ => .array .int
theorem nmX13 : ∀ a, a < 67 → ∀ b, b < 67 → a ≠ b → (TX13 a).2.1 ≠ (TX13 b).2.1 := by decide +kernel
theorem tyX13_ok : ∀ k, k < 67 → parseFieldDescriptor (TX13 k).2.2.1 = some (tyX13 k) := by decide +kernel
/-- the classes, by their tags less 10 -/
abbrev sm_cls : List vw_C := [(RX0, TX0, 13), (RX1, TX1, 0), (RX2, TX2, 5), (RX3, TX3, 18), (RX4, TX4, 5), (RX5, TX5, 13), (RX6, TX6, 4), (RX7, TX7, 8), (RX8, TX8, 5), (RX9, TX9, 8), (RX10, TX10, 5), (RX11, TX11, 7), (RX12, TX12, 11), (RX13, TX13, 67)]
/-- how many fields tag t has, and of which kinds -/
def sm_fk (t : Nat) : List Nat := match t with
  | 10 => [30, 31, 32, 33, 34, 35, 36, 37, 38, 0, 0, 0, 0]
  | 11 => []
  | 12 => [39, 40, 41, 0, 0]
  | 13 => [20, 12, 42, 43, 44, 45, 3, 2, 0, 0, 0, 0, 0, 0, 0, 46, 0, 0]
  | 14 => [47, 48, 49, 0, 0]
  | 15 => [17, 14, 50, 2, 0, 0, 0, 0, 1, 0, 0, 0, 0]
  | 16 => [0, 0, 0, 2]
  | 17 => [52, 0, 0, 0, 53, 54, 55, 0]
  | 18 => [2, 0, 0, 0, 0]
  | 19 => [0, 0, 0, 0, 0, 0, 0, 0]
  | 20 => [56, 57, 0, 0, 0]
  | 21 => [17, 20, 12, 15, 13, 2, 2]
  | 22 => [0, 58, 59, 60, 61, 62, 0, 63, 64, 65, 66]
  | 23 => [67, 0, 68, 69, 70, 0, 2, 2, 24, 0, 0, 0, 0, 0, 0, 0, 0, 71, 72, 73, 0, 0, 0, 0, 0, 0, 0, 0, 0, 74, 75, 76, 77, 78, 79, 80, 81, 0, 82, 0, 83, 84, 85, 86, 87, 88, 89, 0, 0, 0, 0, 0, 0, 0, 0, 0, 3, 3, 90, 91, 0, 0, 92, 93, 94, 95, 96]
  | _ => []
def sm_cT (t : Nat) : u_T := match t with
  | 10 => TX0
  | 11 => TX1
  | 12 => TX2
  | 13 => TX3
  | 14 => TX4
  | 15 => TX5
  | 16 => TX6
  | 17 => TX7
  | 18 => TX8
  | 19 => TX9
  | 20 => TX10
  | 21 => TX11
  | 22 => TX12
  | 23 => TX13
  | _ => TX1
def sm_cR (t : Nat) : String := match t with
  | 10 => RX0
  | 11 => RX1
  | 12 => RX2
  | 13 => RX3
  | 14 => RX4
  | 15 => RX5
  | 16 => RX6
  | 17 => RX7
  | 18 => RX8
  | 19 => RX9
  | 20 => RX10
  | 21 => RX11
  | 22 => RX12
  | 23 => RX13
  | _ => ""
def sm_cty (t : Nat) : Nat → FieldType := match t with
  | 10 => tyX0
  | 11 => tyX1
  | 12 => tyX2
  | 13 => tyX3
  | 14 => tyX4
  | 15 => tyX5
  | 16 => tyX6
  | 17 => tyX7
  | 18 => tyX8
  | 19 => tyX9
  | 20 => tyX10
  | 21 => tyX11
  | 22 => tyX12
  | 23 => tyX13
  | _ => tyX1
/-- rows: kind 0 ints, 1 bytes, 2 longs, 3 references; and their length (0: free) -/
def sm_ak (t : Nat) : Nat × Nat := match t with
  | 30 => (0, 900)
  | 31 => (0, 900)
  | 32 => (0, 900)
  | 33 => (0, 900)
  | 34 => (0, 100)
  | 35 => (0, 17)
  | 36 => (0, 17)
  | 37 => (0, 68)
  | 38 => (0, 17)
  | 39 => (0, 8)
  | 40 => (3, 8)
  | 41 => (3, 10)
  | 42 => (0, 1560)
  | 43 => (0, 15)
  | 44 => (0, 15)
  | 45 => (0, 7)
  | 46 => (0, 300)
  | 47 => (2, 24)
  | 48 => (0, 24)
  | 49 => (0, 24)
  | 50 => (2, 12)
  | 51 => (3, 0)
  | 52 => (1, 3000)
  | 53 => (0, 802)
  | 54 => (0, 802)
  | 55 => (2, 802)
  | 56 => (3, 300)
  | 57 => (3, 200)
  | 58 => (2, 12)
  | 59 => (0, 12)
  | 60 => (0, 12)
  | 61 => (0, 48)
  | 62 => (0, 12)
  | 63 => (0, 4000)
  | 64 => (0, 4000)
  | 65 => (0, 4000)
  | 66 => (0, 4000)
  | 67 => (1, 3000)
  | 68 => (0, 803)
  | 69 => (0, 803)
  | 70 => (2, 803)
  | 71 => (2, 24)
  | 72 => (0, 24)
  | 73 => (0, 24)
  | 74 => (0, 300)
  | 75 => (0, 2700)
  | 76 => (0, 200)
  | 77 => (0, 200)
  | 78 => (0, 200)
  | 79 => (0, 2000)
  | 80 => (0, 300)
  | 81 => (0, 4000)
  | 82 => (0, 360)
  | 83 => (0, 15)
  | 84 => (0, 15)
  | 85 => (0, 15)
  | 86 => (0, 200)
  | 87 => (0, 200)
  | 88 => (0, 200)
  | 89 => (0, 200)
  | 90 => (0, 8)
  | 91 => (0, 8)
  | 92 => (0, 10)
  | 93 => (0, 10)
  | 94 => (0, 10)
  | 95 => (0, 10)
  | 96 => (0, 10)
  | _ => (0, 0)
def sm_ae (t : Nat) : String := match t with
  | 40 => "FreightYards$Row"
  | 41 => "FreightYards$Train"
  | 51 => "FreightYards$Vehicle"
  | 56 => "FreightYards$Vehicle"
  | 57 => "FreightYards$Row"
  | _ => ""
def sm_at_ (t : Nat) : FieldType := match (sm_ak t).1 with
  | 0 => .int
  | 1 => .byte
  | 2 => .long
  | _ => .object (sm_ae t)
theorem sm_uw0 : ∀ w ∈ u_ws RX0 TX0 13, w ∈ lw_tbl := by decide +kernel
theorem sm_uw2 : ∀ w ∈ u_ws RX2 TX2 5, w ∈ lw_tbl := by decide +kernel
theorem sm_uw3 : ∀ w ∈ u_ws RX3 TX3 18, w ∈ lw_tbl := by decide +kernel
theorem sm_uw4 : ∀ w ∈ u_ws RX4 TX4 5, w ∈ lw_tbl := by decide +kernel
theorem sm_uw5 : ∀ w ∈ u_ws RX5 TX5 13, w ∈ lw_tbl := by decide +kernel
theorem sm_uw6 : ∀ w ∈ u_ws RX6 TX6 4, w ∈ lw_tbl := by decide +kernel
theorem sm_uw7 : ∀ w ∈ u_ws RX7 TX7 8, w ∈ lw_tbl := by decide +kernel
theorem sm_uw8 : ∀ w ∈ u_ws RX8 TX8 5, w ∈ lw_tbl := by decide +kernel
theorem sm_uw9 : ∀ w ∈ u_ws RX9 TX9 8, w ∈ lw_tbl := by decide +kernel
theorem sm_uw10 : ∀ w ∈ u_ws RX10 TX10 5, w ∈ lw_tbl := by decide +kernel
theorem sm_uw11 : ∀ w ∈ u_ws RX11 TX11 7, w ∈ lw_tbl := by decide +kernel
theorem sm_uw12 : ∀ w ∈ u_ws RX12 TX12 11, w ∈ lw_tbl := by decide +kernel
theorem sm_uw13 : ∀ w ∈ u_ws RX13 TX13 67, w ∈ lw_tbl := by decide +kernel
end
end
section
section
/-- how many locals method number n has -/
def sm_nl (n : Nat) : Nat := match n with
  | 0 => 1
  | 1 => 1
  | 2 => 1
  | 3 => 2
  | 4 => 2
  | 5 => 1
  | 6 => 3
  | 7 => 3
  | 8 => 2
  | 9 => 4
  | 10 => 2
  | 11 => 2
  | 12 => 4
  | 13 => 4
  | 14 => 1
  | 15 => 2
  | 16 => 1
  | 17 => 2
  | 18 => 2
  | 19 => 2
  | 20 => 2
  | 21 => 2
  | 22 => 3
  | 23 => 1
  | 24 => 1
  | 25 => 1
  | 26 => 1
  | 27 => 2
  | 28 => 2
  | 29 => 3
  | 30 => 1
  | 31 => 1
  | 32 => 4
  | 33 => 2
  | 34 => 3
  | 35 => 5
  | 36 => 6
  | 37 => 2
  | 38 => 4
  | 39 => 3
  | 40 => 4
  | 41 => 4
  | 42 => 9
  | 43 => 5
  | 44 => 2
  | 45 => 2
  | 46 => 1
  | 47 => 1
  | 48 => 3
  | 49 => 4
  | 50 => 2
  | 51 => 2
  | 52 => 2
  | 53 => 2
  | 54 => 6
  | 55 => 3
  | 56 => 3
  | 57 => 4
  | 58 => 3
  | 59 => 3
  | 60 => 3
  | 61 => 4
  | 62 => 3
  | 63 => 4
  | 64 => 2
  | 65 => 2
  | 66 => 3
  | 67 => 2
  | 68 => 3
  | 69 => 3
  | 70 => 3
  | 71 => 4
  | 72 => 1
  | 73 => 1
  | 74 => 1
  | 75 => 4
  | 76 => 2
  | 77 => 1
  | 78 => 2
  | 79 => 4
  | 80 => 2
  | 81 => 3
  | 82 => 3
  | 83 => 3
  | 84 => 3
  | 85 => 3
  | 86 => 2
  | 87 => 3
  | 88 => 2
  | 89 => 2
  | 90 => 5
  | 91 => 4
  | 92 => 4
  | 93 => 2
  | 94 => 2
  | 95 => 4
  | 96 => 2
  | 97 => 5
  | 98 => 6
  | 99 => 3
  | 100 => 5
  | 101 => 5
  | 102 => 7
  | 103 => 4
  | 104 => 3
  | 105 => 3
  | 106 => 6
  | 107 => 7
  | 108 => 6
  | 109 => 4
  | 110 => 4
  | 111 => 4
  | 112 => 4
  | 113 => 2
  | 114 => 6
  | 115 => 6
  | 116 => 5
  | 117 => 5
  | 118 => 4
  | 119 => 5
  | 120 => 4
  | 121 => 2
  | 122 => 2
  | 123 => 3
  | 124 => 2
  | 125 => 6
  | 126 => 3
  | 127 => 5
  | 128 => 3
  | 129 => 1
  | 130 => 1
  | 131 => 3
  | 132 => 4
  | 133 => 8
  | 134 => 3
  | 135 => 1
  | 136 => 1
  | 137 => 1
  | 138 => 1
  | 139 => 2
  | 140 => 6
  | 141 => 6
  | 142 => 6
  | 143 => 2
  | 144 => 4
  | 145 => 1
  | 146 => 3
  | 147 => 3
  | 148 => 1
  | 149 => 2
  | 150 => 3
  | 151 => 3
  | 152 => 1
  | 153 => 1
  | 154 => 1
  | 155 => 1
  | 156 => 1
  | 157 => 1
  | 158 => 2
  | 159 => 2
  | 160 => 3
  | 161 => 2
  | 162 => 2
  | 163 => 1
  | 164 => 1
  | 165 => 4
  | 166 => 1
  | 167 => 6
  | 168 => 3
  | 169 => 2
  | 170 => 6
  | 171 => 2
  | 172 => 2
  | 173 => 3
  | 174 => 2
  | 175 => 4
  | 176 => 3
  | 177 => 5
  | 178 => 3
  | 179 => 2
  | 180 => 1
  | 181 => 2
  | 182 => 3
  | 183 => 1
  | 184 => 1
  | 185 => 2
  | 186 => 4
  | 187 => 1
  | 188 => 1
  | 189 => 1
  | 190 => 2
  | 191 => 4
  | 192 => 3
  | 193 => 1
  | 194 => 1
  | 195 => 6
  | 196 => 6
  | 197 => 6
  | 198 => 1
  | 199 => 7
  | 200 => 3
  | 201 => 2
  | 202 => 3
  | 203 => 1
  | 204 => 2
  | 205 => 2
  | 206 => 2
  | 207 => 5
  | 208 => 1
  | 209 => 2
  | 210 => 4
  | 211 => 1
  | 212 => 3
  | 213 => 4
  | 214 => 4
  | 215 => 1
  | 216 => 2
  | 217 => 2
  | 218 => 3
  | 219 => 6
  | 220 => 3
  | 221 => 4
  | 222 => 4
  | 223 => 6
  | 224 => 4
  | 225 => 2
  | 226 => 4
  | 227 => 1
  | 228 => 6
  | 229 => 2
  | 230 => 5
  | 231 => 4
  | 232 => 3
  | 233 => 2
  | 234 => 3
  | 235 => 3
  | 236 => 3
  | 237 => 4
  | 238 => 1
  | 239 => 4
  | 240 => 7
  | 241 => 4
  | 242 => 4
  | 243 => 1
  | 244 => 4
  | 245 => 5
  | 246 => 2
  | 247 => 1
  | 248 => 3
  | 249 => 5
  | 250 => 2
  | 251 => 3
  | 252 => 3
  | 253 => 2
  | 254 => 1
  | 255 => 3
  | 256 => 4
  | 257 => 3
  | 258 => 5
  | 259 => 3
  | 260 => 4
  | 261 => 6
  | 262 => 4
  | 263 => 2
  | 264 => 4
  | 265 => 5
  | 266 => 3
  | 267 => 4
  | 268 => 1
  | 269 => 3
  | 270 => 6
  | 271 => 7
  | 272 => 4
  | 273 => 5
  | 274 => 7
  | 275 => 5
  | 276 => 5
  | 277 => 1
  | 278 => 3
  | 279 => 6
  | 280 => 3
  | 281 => 2
  | 282 => 3
  | 283 => 7
  | 284 => 2
  | 285 => 2
  | 286 => 3
  | 287 => 5
  | 288 => 3
  | 289 => 3
  | 290 => 4
  | 291 => 4
  | 292 => 3
  | 293 => 2
  | 294 => 1
  | 295 => 2
  | 296 => 2
  | 297 => 3
  | 298 => 1
  | 299 => 1
  | 300 => 2
  | 301 => 2
  | 302 => 1
  | 303 => 4
  | 304 => 6
  | 305 => 3
  | 306 => 2
  | 307 => 2
  | 308 => 4
  | _ => 0
/-- tables of ints -/
def sm_tb (k : Nat) : List Int32 := match k with
  | 0 => [36, 0, 0, 0, 36, 18, 0, 0, 18, 18, 0, 0, 18, 36, 36, 0, 0, 0, 0, 0]
  | 1 => [1, 2, 2, 3, 0]
  | 2 => [18, 36, 36, 36, 36]
  | 3 => [1, 32771, 5, 163851, 163859, 8229, 8261, 8325, 33029, 229907, 156709, 26693, 77957, 8192, 16384, 32768, 65536, 131072]
  | 4 => [0, 0, 0, 15, 1, 13, 14, 16, 17]
  | 5 => [-1, 0, 0, 1, 1, 2, 2, 2, 2, 4, 5, 6, 7]
  | _ => []
/-- bytes of texts -/
def sm_by (k : Nat) : List Int32 := match k with
  | 0 => [116, 111, 32, 118, 97, 114, 32, 105, 102, 32, 101, 108, 115, 101, 32, 119, 104, 105, 108, 101, 32, 116, 114, 121, 32, 99, 97, 116, 99, 104, 32, 114, 101, 116, 117, 114, 110, 32, 115, 97, 121, 32, 102, 97, 105, 108, 32, 110, 101, 119, 32, 110, 111, 110, 101, 32, 105, 115, 32, 97, 115, 32, 115, 105, 122, 101, 32]
  | 1 => [86, 69, 72, 73, 67, 76, 69, 32, 69, 78, 71, 73, 78, 69, 32, 87, 65, 71, 79, 78, 32, 83, 84, 69, 65, 77, 32, 68, 73, 69, 83, 69, 76, 32, 66, 79, 88, 32, 84, 65, 78, 75, 32, 70, 76, 65, 84, 32, 86, 65, 78, 32, 83, 72, 85, 78, 84, 69, 82, 32, 82, 69, 69, 70, 69, 82, 32, 77, 73, 76, 75, 69, 82, 32, 67, 82, 65, 78, 69, 32, 72, 79, 76, 68, 83, 32, 67, 79, 79, 76, 83, 32, 66, 82, 65, 75, 69, 83, 32, 76, 73, 70, 84, 83, 32, 66, 85, 82, 78, 83, 32, 73, 78, 84, 32]
  | 2 => [40, 41, 123, 125, 91, 93, 44, 59, 46, 58, 61, 60, 43, 45, 42]
  | 3 => [116, 114, 97, 99, 107, 32, 108, 97, 121, 32, 104, 117, 109, 112, 32, 115, 101, 110, 100, 32, 110, 111, 119, 32]
  | 4 => [116, 97, 103, 32, 98, 101, 104, 105, 110, 100, 32, 109, 97, 115, 115, 32, 103, 114, 105, 112, 32, 112, 117, 108, 108, 32, 108, 111, 97, 100, 32, 99, 104, 105, 108, 108, 32, 114, 101, 97, 99, 104, 32, 102, 117, 101, 108, 32]
  | 5 => [119, 114, 111, 110, 103]
  | 6 => [116, 111]
  | 7 => [118, 97, 114]
  | 8 => [105, 102]
  | 9 => [101, 108, 115, 101]
  | 10 => [119, 104, 105, 108, 101]
  | 11 => [116, 114, 121]
  | 12 => [99, 97, 116, 99, 104]
  | 13 => [114, 101, 116, 117, 114, 110]
  | 14 => [115, 97, 121]
  | 15 => [102, 97, 105, 108]
  | 16 => [110, 101, 119]
  | 17 => [110, 111, 110, 101]
  | 18 => [105, 115]
  | 19 => [97, 115]
  | 20 => [115, 105, 122, 101]
  | 21 => [86, 69, 72, 73, 67, 76, 69]
  | 22 => [69, 78, 71, 73, 78, 69]
  | 23 => [87, 65, 71, 79, 78]
  | 24 => [83, 84, 69, 65, 77]
  | 25 => [68, 73, 69, 83, 69, 76]
  | 26 => [66, 79, 88]
  | 27 => [84, 65, 78, 75]
  | 28 => [70, 76, 65, 84]
  | 29 => [86, 65, 78]
  | 30 => [83, 72, 85, 78, 84, 69, 82]
  | 31 => [82, 69, 69, 70, 69, 82]
  | 32 => [77, 73, 76, 75, 69, 82]
  | 33 => [67, 82, 65, 78, 69]
  | 34 => [72, 79, 76, 68, 83]
  | 35 => [67, 79, 79, 76, 83]
  | 36 => [66, 82, 65, 75, 69, 83]
  | 37 => [76, 73, 70, 84, 83]
  | 38 => [66, 85, 82, 78, 83]
  | 39 => [73, 78, 84]
  | 40 => [116, 114, 97, 99, 107]
  | 41 => [108, 97, 121]
  | 42 => [104, 117, 109, 112]
  | 43 => [115, 101, 110, 100]
  | 44 => [110, 111, 119]
  | 45 => [116, 97, 103]
  | 46 => [98, 101, 104, 105, 110, 100]
  | 47 => [109, 97, 115, 115]
  | 48 => [103, 114, 105, 112]
  | 49 => [112, 117, 108, 108]
  | 50 => [108, 111, 97, 100]
  | 51 => [99, 104, 105, 108, 108]
  | 52 => [114, 101, 97, 99, 104]
  | 53 => [102, 117, 101, 108]
  | _ => []
def sm_lg (k : Nat) : Int64 := match k with
  | 0 => -1
  | 1 => 10
  | 2 => 36
  | 3 => 40
  | 4 => 48
  | 5 => 91
  | 6 => 300
  | 7 => 301
  | _ => 0
end
end
section
section
/-- classes that own code -/
def sm_cn (k : Nat) : String := match k with
  | 0 => "FreightYards$Code"
  | 1 => "FreightYards$Kinds"
  | 2 => "FreightYards$Line"
  | 3 => "FreightYards$Machine"
  | 4 => "FreightYards$Names"
  | 5 => "FreightYards$Reader"
  | 6 => "FreightYards$Row"
  | 7 => "FreightYards$Tape"
  | 8 => "FreightYards$Train"
  | 9 => "FreightYards$Vehicle"
  | 10 => "FreightYards$Yard"
  | 11 => "FreightYards"
  | 12 => "FreightYardsModel$Book"
  | 13 => "FreightYardsModel"
  | 14 => "FreightYardsLaw"
  | 15 => "java/lang/String"
  | 16 => "java/lang/StringLatin1"
  | 17 => "jdk/internal/util/Preconditions"
  | 18 => "java/lang/Math"
  | 19 => "java/lang/Object"
  | _ => ""
def sm_ow (n : Nat) : Nat := match n with
  | 0 => 0
  | 1 => 0
  | 2 => 0
  | 3 => 0
  | 4 => 0
  | 5 => 0
  | 6 => 0
  | 7 => 0
  | 8 => 0
  | 9 => 0
  | 10 => 0
  | 11 => 0
  | 12 => 0
  | 13 => 0
  | 14 => 0
  | 15 => 0
  | 16 => 0
  | 17 => 0
  | 18 => 0
  | 19 => 0
  | 20 => 0
  | 21 => 0
  | 22 => 0
  | 23 => 1
  | 24 => 1
  | 25 => 1
  | 26 => 1
  | 27 => 1
  | 28 => 1
  | 29 => 1
  | 30 => 2
  | 31 => 2
  | 32 => 2
  | 33 => 2
  | 34 => 2
  | 35 => 2
  | 36 => 2
  | 37 => 2
  | 38 => 2
  | 39 => 2
  | 40 => 2
  | 41 => 3
  | 42 => 3
  | 43 => 3
  | 44 => 3
  | 45 => 3
  | 46 => 3
  | 47 => 3
  | 48 => 3
  | 49 => 3
  | 50 => 3
  | 51 => 3
  | 52 => 3
  | 53 => 3
  | 54 => 3
  | 55 => 3
  | 56 => 3
  | 57 => 3
  | 58 => 3
  | 59 => 3
  | 60 => 3
  | 61 => 3
  | 62 => 3
  | 63 => 3
  | 64 => 3
  | 65 => 3
  | 66 => 3
  | 67 => 3
  | 68 => 3
  | 69 => 3
  | 70 => 3
  | 71 => 3
  | 72 => 4
  | 73 => 4
  | 74 => 4
  | 75 => 4
  | 76 => 4
  | 77 => 4
  | 78 => 4
  | 79 => 4
  | 80 => 4
  | 81 => 5
  | 82 => 5
  | 83 => 5
  | 84 => 5
  | 85 => 5
  | 86 => 5
  | 87 => 5
  | 88 => 5
  | 89 => 5
  | 90 => 5
  | 91 => 5
  | 92 => 5
  | 93 => 5
  | 94 => 5
  | 95 => 5
  | 96 => 5
  | 97 => 5
  | 98 => 5
  | 99 => 5
  | 100 => 5
  | 101 => 5
  | 102 => 5
  | 103 => 5
  | 104 => 5
  | 105 => 5
  | 106 => 5
  | 107 => 5
  | 108 => 5
  | 109 => 5
  | 110 => 5
  | 111 => 5
  | 112 => 5
  | 113 => 5
  | 114 => 5
  | 115 => 5
  | 116 => 5
  | 117 => 5
  | 118 => 5
  | 119 => 5
  | 120 => 6
  | 121 => 6
  | 122 => 6
  | 123 => 6
  | 124 => 6
  | 125 => 6
  | 126 => 6
  | 127 => 6
  | 128 => 6
  | 129 => 7
  | 130 => 7
  | 131 => 7
  | 132 => 7
  | 133 => 7
  | 134 => 7
  | 135 => 7
  | 136 => 7
  | 137 => 7
  | 138 => 7
  | 139 => 7
  | 140 => 7
  | 141 => 7
  | 142 => 7
  | 143 => 7
  | 144 => 8
  | 145 => 8
  | 146 => 8
  | 147 => 9
  | 148 => 9
  | 149 => 9
  | 150 => 9
  | 151 => 9
  | 152 => 9
  | 153 => 9
  | 154 => 9
  | 155 => 9
  | 156 => 10
  | 157 => 10
  | 158 => 10
  | 159 => 10
  | 160 => 10
  | 161 => 10
  | 162 => 10
  | 163 => 10
  | 164 => 10
  | 165 => 10
  | 166 => 11
  | 167 => 11
  | 168 => 11
  | 169 => 11
  | 170 => 11
  | 171 => 11
  | 172 => 11
  | 173 => 11
  | 174 => 11
  | 175 => 11
  | 176 => 11
  | 177 => 11
  | 178 => 11
  | 179 => 11
  | 180 => 12
  | 181 => 13
  | 182 => 13
  | 183 => 13
  | 184 => 13
  | 185 => 13
  | 186 => 13
  | 187 => 13
  | 188 => 13
  | 189 => 13
  | 190 => 13
  | 191 => 13
  | 192 => 13
  | 193 => 13
  | 194 => 13
  | 195 => 13
  | 196 => 13
  | 197 => 13
  | 198 => 13
  | 199 => 13
  | 200 => 13
  | 201 => 13
  | 202 => 13
  | 203 => 13
  | 204 => 13
  | 205 => 13
  | 206 => 13
  | 207 => 13
  | 208 => 13
  | 209 => 13
  | 210 => 13
  | 211 => 13
  | 212 => 13
  | 213 => 13
  | 214 => 13
  | 215 => 13
  | 216 => 13
  | 217 => 13
  | 218 => 13
  | 219 => 13
  | 220 => 13
  | 221 => 13
  | 222 => 13
  | 223 => 13
  | 224 => 13
  | 225 => 13
  | 226 => 13
  | 227 => 13
  | 228 => 13
  | 229 => 13
  | 230 => 13
  | 231 => 13
  | 232 => 13
  | 233 => 13
  | 234 => 13
  | 235 => 13
  | 236 => 13
  | 237 => 13
  | 238 => 13
  | 239 => 13
  | 240 => 13
  | 241 => 13
  | 242 => 13
  | 243 => 13
  | 244 => 13
  | 245 => 13
  | 246 => 13
  | 247 => 13
  | 248 => 13
  | 249 => 13
  | 250 => 13
  | 251 => 13
  | 252 => 13
  | 253 => 13
  | 254 => 13
  | 255 => 13
  | 256 => 13
  | 257 => 13
  | 258 => 13
  | 259 => 13
  | 260 => 13
  | 261 => 13
  | 262 => 13
  | 263 => 13
  | 264 => 13
  | 265 => 13
  | 266 => 13
  | 267 => 13
  | 268 => 13
  | 269 => 13
  | 270 => 13
  | 271 => 13
  | 272 => 13
  | 273 => 13
  | 274 => 13
  | 275 => 13
  | 276 => 13
  | 277 => 13
  | 278 => 13
  | 279 => 13
  | 280 => 13
  | 281 => 13
  | 282 => 13
  | 283 => 13
  | 284 => 13
  | 285 => 13
  | 286 => 13
  | 287 => 13
  | 288 => 13
  | 289 => 13
  | 290 => 13
  | 291 => 13
  | 292 => 13
  | 293 => 13
  | 294 => 15
  | 295 => 15
  | 296 => 15
  | 297 => 15
  | 298 => 15
  | 299 => 15
  | 300 => 15
  | 301 => 16
  | 302 => 16
  | 303 => 16
  | 304 => 16
  | 305 => 17
  | 306 => 18
  | 307 => 18
  | 308 => 14
  | _ => 0
def sm_y (n : Nat) : MethodName := match n with
  | 0 => ⟨"FreightYards$Code", "<init>", "()V"⟩
  | 1 => ⟨"FreightYards$Code", "clear", "()V"⟩
  | 2 => ⟨"FreightYards$Code", "ownProcs", "()I"⟩
  | 3 => ⟨"FreightYards$Code", "isProc", "(I)Z"⟩
  | 4 => ⟨"FreightYards$Code", "isOwnProc", "(I)Z"⟩
  | 5 => ⟨"FreightYards$Code", "addProc", "()I"⟩
  | 6 => ⟨"FreightYards$Code", "addParameter", "(II)V"⟩
  | 7 => ⟨"FreightYards$Code", "setGiven", "(II)V"⟩
  | 8 => ⟨"FreightYards$Code", "parameterCount", "(I)I"⟩
  | 9 => ⟨"FreightYards$Code", "parameter", "(II)I"⟩
  | 10 => ⟨"FreightYards$Code", "given", "(I)I"⟩
  | 11 => ⟨"FreightYards$Code", "start", "(I)I"⟩
  | 12 => ⟨"FreightYards$Code", "takesInts", "(I)Z"⟩
  | 13 => ⟨"FreightYards$Code", "emit", "(III)I"⟩
  | 14 => ⟨"FreightYards$Code", "takeBack", "()I"⟩
  | 15 => ⟨"FreightYards$Code", "aimHere", "(I)V"⟩
  | 16 => ⟨"FreightYards$Code", "addTry", "()I"⟩
  | 17 => ⟨"FreightYards$Code", "catchHere", "(I)V"⟩
  | 18 => ⟨"FreightYards$Code", "isInstruction", "(I)Z"⟩
  | 19 => ⟨"FreightYards$Code", "op", "(I)I"⟩
  | 20 => ⟨"FreightYards$Code", "arg", "(I)I"⟩
  | 21 => ⟨"FreightYards$Code", "tokenPlace", "(I)I"⟩
  | 22 => ⟨"FreightYards$Code", "catchOf", "(I)I"⟩
  | 23 => ⟨"FreightYards$Kinds", "isKind", "(I)Z"⟩
  | 24 => ⟨"FreightYards$Kinds", "isKindOrAbility", "(I)Z"⟩
  | 25 => ⟨"FreightYards$Kinds", "isRow", "(I)Z"⟩
  | 26 => ⟨"FreightYards$Kinds", "isReference", "(I)Z"⟩
  | 27 => ⟨"FreightYards$Kinds", "isBelow", "(II)Z"⟩
  | 28 => ⟨"FreightYards$Kinds", "fits", "(II)Z"⟩
  | 29 => ⟨"FreightYards$Kinds", "mayBeAsked", "(II)Z"⟩
  | 30 => ⟨"FreightYards$Line", "<init>", "()V"⟩
  | 31 => ⟨"FreightYards$Line", "isTrack", "(I)Z"⟩
  | 32 => ⟨"FreightYards$Line", "setStated", "(II)Z"⟩
  | 33 => ⟨"FreightYards$Line", "rowOn", "(I)LFreightYards$Row;"⟩
  | 34 => ⟨"FreightYards$Line", "lay", "(ILFreightYards$Row;)Z"⟩
  | 35 => ⟨"FreightYards$Line", "send", "(LFreightYards$Row;II)I"⟩
  | 36 => ⟨"FreightYards$Line", "passTime", "(I)I"⟩
  | 37 => ⟨"FreightYards$Line", "move", "(LFreightYards$Train;)Z"⟩
  | 38 => ⟨"FreightYards$Line", "tellTrack", "(II)I"⟩
  | 39 => ⟨"FreightYards$Line", "leastTrackWith", "(LFreightYards$Row;)I"⟩
  | 40 => ⟨"FreightYards$Line", "tellTrain", "(II)I"⟩
  | 41 => ⟨"FreightYards$Machine", "<init>", "(LFreightYards$Yard;LFreightYards$Line;LFreightYards$Code;)V"⟩
  | 42 => ⟨"FreightYards$Machine", "start", "(LFreightYards$Code;IIII)I"⟩
  | 43 => ⟨"FreightYards$Machine", "keepRun", "(I)V"⟩
  | 44 => ⟨"FreightYards$Machine", "tellRun", "(I)I"⟩
  | 45 => ⟨"FreightYards$Machine", "push", "(I)V"⟩
  | 46 => ⟨"FreightYards$Machine", "pop", "()I"⟩
  | 47 => ⟨"FreightYards$Machine", "base", "()I"⟩
  | 48 => ⟨"FreightYards$Machine", "nameValue", "(I)I"⟩
  | 49 => ⟨"FreightYards$Machine", "setName", "(II)V"⟩
  | 50 => ⟨"FreightYards$Machine", "enter", "(I)V"⟩
  | 51 => ⟨"FreightYards$Machine", "leave", "(I)V"⟩
  | 52 => ⟨"FreightYards$Machine", "end", "(I)V"⟩
  | 53 => ⟨"FreightYards$Machine", "raise", "(I)V"⟩
  | 54 => ⟨"FreightYards$Machine", "raiseWith", "(II)V"⟩
  | 55 => ⟨"FreightYards$Machine", "doFree", "(II)V"⟩
  | 56 => ⟨"FreightYards$Machine", "doAct", "(II)V"⟩
  | 57 => ⟨"FreightYards$Machine", "doSign", "(I)V"⟩
  | 58 => ⟨"FreightYards$Machine", "doAs", "(I)V"⟩
  | 59 => ⟨"FreightYards$Machine", "doIs", "(I)V"⟩
  | 60 => ⟨"FreightYards$Machine", "doAt", "()V"⟩
  | 61 => ⟨"FreightYards$Machine", "doPut", "()V"⟩
  | 62 => ⟨"FreightYards$Machine", "doField", "(I)V"⟩
  | 63 => ⟨"FreightYards$Machine", "doSetField", "(I)V"⟩
  | 64 => ⟨"FreightYards$Machine", "doSize", "()V"⟩
  | 65 => ⟨"FreightYards$Machine", "doNewVehicle", "(I)V"⟩
  | 66 => ⟨"FreightYards$Machine", "doNewRow", "(I)V"⟩
  | 67 => ⟨"FreightYards$Machine", "say", "(I)V"⟩
  | 68 => ⟨"FreightYards$Machine", "sayReference", "()V"⟩
  | 69 => ⟨"FreightYards$Machine", "doLay", "()V"⟩
  | 70 => ⟨"FreightYards$Machine", "doHump", "()V"⟩
  | 71 => ⟨"FreightYards$Machine", "doSend", "()V"⟩
  | 72 => ⟨"FreightYards$Names", "<init>", "()V"⟩
  | 73 => ⟨"FreightYards$Names", "clear", "()V"⟩
  | 74 => ⟨"FreightYards$Names", "isFull", "()Z"⟩
  | 75 => ⟨"FreightYards$Names", "make", "(JI)I"⟩
  | 76 => ⟨"FreightYards$Names", "know", "(I)V"⟩
  | 77 => ⟨"FreightYards$Names", "knownNow", "()I"⟩
  | 78 => ⟨"FreightYards$Names", "forgetDownTo", "(I)V"⟩
  | 79 => ⟨"FreightYards$Names", "slotOf", "(J)I"⟩
  | 80 => ⟨"FreightYards$Names", "typeOf", "(I)I"⟩
  | 81 => ⟨"FreightYards$Reader", "<init>", "(LFreightYards$Tape;LFreightYards$Code;)V"⟩
  | 82 => ⟨"FreightYards$Reader", "read", "(LFreightYards$Code;)V"⟩
  | 83 => ⟨"FreightYards$Reader", "refuse", "(II)V"⟩
  | 84 => ⟨"FreightYards$Reader", "pass", "()V"⟩
  | 85 => ⟨"FreightYards$Reader", "expectFit", "(IZ)V"⟩
  | 86 => ⟨"FreightYards$Reader", "expect", "(I)V"⟩
  | 87 => ⟨"FreightYards$Reader", "expectOpening", "(II)V"⟩
  | 88 => ⟨"FreightYards$Reader", "readHead", "()V"⟩
  | 89 => ⟨"FreightYards$Reader", "readProcName", "()V"⟩
  | 90 => ⟨"FreightYards$Reader", "findProc", "(J)I"⟩
  | 91 => ⟨"FreightYards$Reader", "readParameter", "()V"⟩
  | 92 => ⟨"FreightYards$Reader", "readNewName", "(IZ)I"⟩
  | 93 => ⟨"FreightYards$Reader", "readType", "()I"⟩
  | 94 => ⟨"FreightYards$Reader", "readTypeUpToLast", "()I"⟩
  | 95 => ⟨"FreightYards$Reader", "readBlock", "(I)V"⟩
  | 96 => ⟨"FreightYards$Reader", "readStatement", "(I)V"⟩
  | 97 => ⟨"FreightYards$Reader", "readVar", "()V"⟩
  | 98 => ⟨"FreightYards$Reader", "readPlaceOrCall", "()V"⟩
  | 99 => ⟨"FreightYards$Reader", "readCondition", "(I)I"⟩
  | 100 => ⟨"FreightYards$Reader", "readIf", "(I)V"⟩
  | 101 => ⟨"FreightYards$Reader", "readWhile", "(I)V"⟩
  | 102 => ⟨"FreightYards$Reader", "readTry", "(I)V"⟩
  | 103 => ⟨"FreightYards$Reader", "readReturn", "()V"⟩
  | 104 => ⟨"FreightYards$Reader", "readSay", "()V"⟩
  | 105 => ⟨"FreightYards$Reader", "readFail", "()V"⟩
  | 106 => ⟨"FreightYards$Reader", "readExpression", "(I)I"⟩
  | 107 => ⟨"FreightYards$Reader", "readSum", "(I)I"⟩
  | 108 => ⟨"FreightYards$Reader", "readProduct", "(I)I"⟩
  | 109 => ⟨"FreightYards$Reader", "finishSign", "(III)I"⟩
  | 110 => ⟨"FreightYards$Reader", "readUnit", "(I)I"⟩
  | 111 => ⟨"FreightYards$Reader", "readFirst", "(I)I"⟩
  | 112 => ⟨"FreightYards$Reader", "readNumber", "(II)I"⟩
  | 113 => ⟨"FreightYards$Reader", "readValueOfName", "()I"⟩
  | 114 => ⟨"FreightYards$Reader", "readCall", "(I)I"⟩
  | 115 => ⟨"FreightYards$Reader", "readArgument", "(III)V"⟩
  | 116 => ⟨"FreightYards$Reader", "readNew", "(I)I"⟩
  | 117 => ⟨"FreightYards$Reader", "readIndex", "(II)I"⟩
  | 118 => ⟨"FreightYards$Reader", "readMember", "(I)I"⟩
  | 119 => ⟨"FreightYards$Reader", "readAsked", "(I)I"⟩
  | 120 => ⟨"FreightYards$Row", "<init>", "(III)V"⟩
  | 121 => ⟨"FreightYards$Row", "hasPlace", "(I)Z"⟩
  | 122 => ⟨"FreightYards$Row", "vehicleAt", "(I)LFreightYards$Vehicle;"⟩
  | 123 => ⟨"FreightYards$Row", "put", "(ILFreightYards$Vehicle;)V"⟩
  | 124 => ⟨"FreightYards$Row", "takes", "(LFreightYards$Vehicle;)Z"⟩
  | 125 => ⟨"FreightYards$Row", "humpInto", "(LFreightYards$Row;)I"⟩
  | 126 => ⟨"FreightYards$Row", "firstFree", "(I)I"⟩
  | 127 => ⟨"FreightYards$Row", "sum", "(I)I"⟩
  | 128 => ⟨"FreightYards$Row", "burn", "()V"⟩
  | 129 => ⟨"FreightYards$Tape", "<init>", "()V"⟩
  | 130 => ⟨"FreightYards$Tape", "hasRoom", "()Z"⟩
  | 131 => ⟨"FreightYards$Tape", "add", "(I)V"⟩
  | 132 => ⟨"FreightYards$Tape", "cut", "(I)V"⟩
  | 133 => ⟨"FreightYards$Tape", "indexIn", "(Ljava/lang/String;J)I"⟩
  | 134 => ⟨"FreightYards$Tape", "withSign", "(JI)J"⟩
  | 135 => ⟨"FreightYards$Tape", "isSmall", "(I)Z"⟩
  | 136 => ⟨"FreightYards$Tape", "isCapital", "(I)Z"⟩
  | 137 => ⟨"FreightYards$Tape", "isDigit", "(I)Z"⟩
  | 138 => ⟨"FreightYards$Tape", "sign", "()I"⟩
  | 139 => ⟨"FreightYards$Tape", "cutToken", "(I)I"⟩
  | 140 => ⟨"FreightYards$Tape", "cutSmall", "(I)I"⟩
  | 141 => ⟨"FreightYards$Tape", "cutCapitals", "(I)I"⟩
  | 142 => ⟨"FreightYards$Tape", "cutNumber", "(I)I"⟩
  | 143 => ⟨"FreightYards$Tape", "cutSign", "()I"⟩
  | 144 => ⟨"FreightYards$Train", "<init>", "(LFreightYards$Row;II)V"⟩
  | 145 => ⟨"FreightYards$Train", "move", "()V"⟩
  | 146 => ⟨"FreightYards$Train", "reckonSpeed", "()I"⟩
  | 147 => ⟨"FreightYards$Vehicle", "<init>", "(II)V"⟩
  | 148 => ⟨"FreightYards$Vehicle", "isReckoned", "(I)Z"⟩
  | 149 => ⟨"FreightYards$Vehicle", "field", "(I)I"⟩
  | 150 => ⟨"FreightYards$Vehicle", "setField", "(II)V"⟩
  | 151 => ⟨"FreightYards$Vehicle", "tell", "(I)I"⟩
  | 152 => ⟨"FreightYards$Vehicle", "burn", "()V"⟩
  | 153 => ⟨"FreightYards$Vehicle", "mass", "()I"⟩
  | 154 => ⟨"FreightYards$Vehicle", "grip", "()I"⟩
  | 155 => ⟨"FreightYards$Vehicle", "pull", "()I"⟩
  | 156 => ⟨"FreightYards$Yard", "<init>", "()V"⟩
  | 157 => ⟨"FreightYards$Yard", "hasRoomForVehicle", "()Z"⟩
  | 158 => ⟨"FreightYards$Yard", "hasRoomForRow", "(I)Z"⟩
  | 159 => ⟨"FreightYards$Yard", "makeVehicle", "(I)I"⟩
  | 160 => ⟨"FreightYards$Yard", "makeRow", "(II)I"⟩
  | 161 => ⟨"FreightYards$Yard", "vehicleOf", "(I)LFreightYards$Vehicle;"⟩
  | 162 => ⟨"FreightYards$Yard", "rowOf", "(I)LFreightYards$Row;"⟩
  | 163 => ⟨"FreightYards$Yard", "referenceToVehicle", "(LFreightYards$Vehicle;)I"⟩
  | 164 => ⟨"FreightYards$Yard", "referenceToRow", "(LFreightYards$Row;)I"⟩
  | 165 => ⟨"FreightYards$Yard", "typeOf", "(I)I"⟩
  | 166 => ⟨"FreightYards", "<init>", "()V"⟩
  | 167 => ⟨"FreightYards", "feed", "(IIIII)I"⟩
  | 168 => ⟨"FreightYards", "load", "(I)I"⟩
  | 169 => ⟨"FreightYards", "fault", "(I)I"⟩
  | 170 => ⟨"FreightYards", "run", "(IIII)I"⟩
  | 171 => ⟨"FreightYards", "told", "(I)I"⟩
  | 172 => ⟨"FreightYards", "said", "(I)I"⟩
  | 173 => ⟨"FreightYards", "state", "(II)Z"⟩
  | 174 => ⟨"FreightYards", "tick", "(I)I"⟩
  | 175 => ⟨"FreightYards", "vehicle", "(II)I"⟩
  | 176 => ⟨"FreightYards", "track", "(II)I"⟩
  | 177 => ⟨"FreightYards", "place", "(II)I"⟩
  | 178 => ⟨"FreightYards", "train", "(II)I"⟩
  | 179 => ⟨"FreightYards", "count", "(I)I"⟩
  | 180 => ⟨"FreightYardsModel$Book", "<init>", "()V"⟩
  | 181 => ⟨"FreightYardsModel", "has", "(II)Z"⟩
  | 182 => ⟨"FreightYardsModel", "isBelow", "(II)Z"⟩
  | 183 => ⟨"FreightYardsModel", "isReference", "(I)Z"⟩
  | 184 => ⟨"FreightYardsModel", "isRow", "(I)Z"⟩
  | 185 => ⟨"FreightYardsModel", "fits", "(II)Z"⟩
  | 186 => ⟨"FreightYardsModel", "mayBe", "(II)Z"⟩
  | 187 => ⟨"FreightYardsModel", "isSmall", "(I)Z"⟩
  | 188 => ⟨"FreightYardsModel", "isCapital", "(I)Z"⟩
  | 189 => ⟨"FreightYardsModel", "isDigit", "(I)Z"⟩
  | 190 => ⟨"FreightYardsModel", "sign", "(I)I"⟩
  | 191 => ⟨"FreightYardsModel", "packed", "(Ljava/lang/String;)J"⟩
  | 192 => ⟨"FreightYardsModel", "wordOf", "(J)I"⟩
  | 193 => ⟨"FreightYardsModel", "word", "(I)Ljava/lang/String;"⟩
  | 194 => ⟨"FreightYardsModel", "kindName", "(I)Ljava/lang/String;"⟩
  | 195 => ⟨"FreightYardsModel", "kindOf", "(II)I"⟩
  | 196 => ⟨"FreightYardsModel", "scan", "(I)V"⟩
  | 197 => ⟨"FreightYardsModel", "token", "(II)I"⟩
  | 198 => ⟨"FreightYardsModel", "isSign", "(I)Z"⟩
  | 199 => ⟨"FreightYardsModel", "name", "(II)I"⟩
  | 200 => ⟨"FreightYardsModel", "fails", "(II)Ljava/lang/IllegalStateException;"⟩
  | 201 => ⟨"FreightYardsModel", "form", "(Z)V"⟩
  | 202 => ⟨"FreightYardsModel", "types", "(ZI)V"⟩
  | 203 => ⟨"FreightYardsModel", "next", "()V"⟩
  | 204 => ⟨"FreightYardsModel", "is", "(I)Z"⟩
  | 205 => ⟨"FreightYardsModel", "isWord", "(I)Z"⟩
  | 206 => ⟨"FreightYardsModel", "must", "(I)V"⟩
  | 207 => ⟨"FreightYardsModel", "put", "(III)I"⟩
  | 208 => ⟨"FreightYardsModel", "text", "()V"⟩
  | 209 => ⟨"FreightYardsModel", "five", "(J)I"⟩
  | 210 => ⟨"FreightYardsModel", "procOf", "(J)I"⟩
  | 211 => ⟨"FreightYardsModel", "proc", "()V"⟩
  | 212 => ⟨"FreightYardsModel", "params", "()V"⟩
  | 213 => ⟨"FreightYardsModel", "variable", "(J)I"⟩
  | 214 => ⟨"FreightYardsModel", "knows", "(JI)V"⟩
  | 215 => ⟨"FreightYardsModel", "fresh", "()V"⟩
  | 216 => ⟨"FreightYardsModel", "type", "()I"⟩
  | 217 => ⟨"FreightYardsModel", "block", "()V"⟩
  | 218 => ⟨"FreightYardsModel", "statement", "()V"⟩
  | 219 => ⟨"FreightYardsModel", "variable", "()V"⟩
  | 220 => ⟨"FreightYardsModel", "asks", "(I)I"⟩
  | 221 => ⟨"FreightYardsModel", "chooses", "(I)V"⟩
  | 222 => ⟨"FreightYardsModel", "repeats", "(I)V"⟩
  | 223 => ⟨"FreightYardsModel", "attempts", "()V"⟩
  | 224 => ⟨"FreightYardsModel", "gives", "(I)V"⟩
  | 225 => ⟨"FreightYardsModel", "isBare", "(I)Z"⟩
  | 226 => ⟨"FreightYardsModel", "waits", "(III)V"⟩
  | 227 => ⟨"FreightYardsModel", "reads", "()V"⟩
  | 228 => ⟨"FreightYardsModel", "acts", "()V"⟩
  | 229 => ⟨"FreightYardsModel", "opens", "(I)V"⟩
  | 230 => ⟨"FreightYardsModel", "e", "()I"⟩
  | 231 => ⟨"FreightYardsModel", "sum", "()I"⟩
  | 232 => ⟨"FreightYardsModel", "product", "()I"⟩
  | 233 => ⟨"FreightYardsModel", "unitValue", "()I"⟩
  | 234 => ⟨"FreightYardsModel", "unit", "()I"⟩
  | 235 => ⟨"FreightYardsModel", "number", "(IZ)I"⟩
  | 236 => ⟨"FreightYardsModel", "first", "()I"⟩
  | 237 => ⟨"FreightYardsModel", "makes", "()I"⟩
  | 238 => ⟨"FreightYardsModel", "paramsOfFive", "(I)I"⟩
  | 239 => ⟨"FreightYardsModel", "paramType", "(II)I"⟩
  | 240 => ⟨"FreightYardsModel", "call", "()I"⟩
  | 241 => ⟨"FreightYardsModel", "element", "(I)I"⟩
  | 242 => ⟨"FreightYardsModel", "fieldOf", "(J)I"⟩
  | 243 => ⟨"FreightYardsModel", "ownerOf", "(I)I"⟩
  | 244 => ⟨"FreightYardsModel", "field", "(I)I"⟩
  | 245 => ⟨"FreightYardsModel", "asked", "(I)I"⟩
  | 246 => ⟨"FreightYardsModel", "typeOf", "(I)I"⟩
  | 247 => ⟨"FreightYardsModel", "asVehicle", "(I)I"⟩
  | 248 => ⟨"FreightYardsModel", "isOf", "(II)Z"⟩
  | 249 => ⟨"FreightYardsModel", "mass", "(I)I"⟩
  | 250 => ⟨"FreightYardsModel", "grip", "(I)I"⟩
  | 251 => ⟨"FreightYardsModel", "pull", "(I)I"⟩
  | 252 => ⟨"FreightYardsModel", "fieldOf", "(II)I"⟩
  | 253 => ⟨"FreightYardsModel", "push", "(I)V"⟩
  | 254 => ⟨"FreightYardsModel", "pop", "()I"⟩
  | 255 => ⟨"FreightYardsModel", "ends", "(II)V"⟩
  | 256 => ⟨"FreightYardsModel", "fault", "(III)V"⟩
  | 257 => ⟨"FreightYardsModel", "returns", "(IZ)V"⟩
  | 258 => ⟨"FreightYardsModel", "enters", "(II)V"⟩
  | 259 => ⟨"FreightYardsModel", "begins", "(II)V"⟩
  | 260 => ⟨"FreightYardsModel", "works", "()V"⟩
  | 261 => ⟨"FreightYardsModel", "act", "(III)V"⟩
  | 262 => ⟨"FreightYardsModel", "reckons", "(I)V"⟩
  | 263 => ⟨"FreightYardsModel", "says", "(I)V"⟩
  | 264 => ⟨"FreightYardsModel", "element0", "(I)V"⟩
  | 265 => ⟨"FreightYardsModel", "puts", "(I)V"⟩
  | 266 => ⟨"FreightYardsModel", "make", "(II)V"⟩
  | 267 => ⟨"FreightYardsModel", "makeRow", "(II)V"⟩
  | 268 => ⟨"FreightYardsModel", "isTrack", "(I)Z"⟩
  | 269 => ⟨"FreightYardsModel", "takes", "(II)Z"⟩
  | 270 => ⟨"FreightYardsModel", "five", "(II)V"⟩
  | 271 => ⟨"FreightYardsModel", "hump", "(II)I"⟩
  | 272 => ⟨"FreightYardsModel", "send", "(III)I"⟩
  | 273 => ⟨"FreightYardsModel", "massOf", "(I)I"⟩
  | 274 => ⟨"FreightYardsModel", "speedOf", "(I)I"⟩
  | 275 => ⟨"FreightYardsModel", "burns", "(I)V"⟩
  | 276 => ⟨"FreightYardsModel", "goes", "(I)Z"⟩
  | 277 => ⟨"FreightYardsModel", "<init>", "()V"⟩
  | 278 => ⟨"FreightYardsModel", "comes", "(I)V"⟩
  | 279 => ⟨"FreightYardsModel", "feed", "(IIIII)I"⟩
  | 280 => ⟨"FreightYardsModel", "load", "(I)I"⟩
  | 281 => ⟨"FreightYardsModel", "fault", "(I)I"⟩
  | 282 => ⟨"FreightYardsModel", "mayRun", "(I)Z"⟩
  | 283 => ⟨"FreightYardsModel", "run", "(IIII)I"⟩
  | 284 => ⟨"FreightYardsModel", "told", "(I)I"⟩
  | 285 => ⟨"FreightYardsModel", "said", "(I)I"⟩
  | 286 => ⟨"FreightYardsModel", "state", "(II)Z"⟩
  | 287 => ⟨"FreightYardsModel", "tick", "(I)I"⟩
  | 288 => ⟨"FreightYardsModel", "vehicle", "(II)I"⟩
  | 289 => ⟨"FreightYardsModel", "least", "(I)I"⟩
  | 290 => ⟨"FreightYardsModel", "track", "(II)I"⟩
  | 291 => ⟨"FreightYardsModel", "place", "(II)I"⟩
  | 292 => ⟨"FreightYardsModel", "train", "(II)I"⟩
  | 293 => ⟨"FreightYardsModel", "count", "(I)I"⟩
  | 294 => ⟨"java/lang/String", "length", "()I"⟩
  | 295 => ⟨"java/lang/String", "charAt", "(I)C"⟩
  | 296 => ⟨"java/lang/String", "indexOf", "(I)I"⟩
  | 297 => ⟨"java/lang/String", "indexOf", "(II)I"⟩
  | 298 => ⟨"java/lang/String", "coder", "()B"⟩
  | 299 => ⟨"java/lang/String", "isLatin1", "()Z"⟩
  | 300 => ⟨"java/lang/String", "checkIndex", "(II)V"⟩
  | 301 => ⟨"java/lang/StringLatin1", "charAt", "([BI)C"⟩
  | 302 => ⟨"java/lang/StringLatin1", "canEncode", "(I)Z"⟩
  | 303 => ⟨"java/lang/StringLatin1", "indexOf", "([BIII)I"⟩
  | 304 => ⟨"java/lang/StringLatin1", "indexOfChar", "([BIII)I"⟩
  | 305 => ⟨"jdk/internal/util/Preconditions", "checkIndex", "(IILjava/util/function/BiFunction;)I"⟩
  | 306 => ⟨"java/lang/Math", "max", "(II)I"⟩
  | 307 => ⟨"java/lang/Math", "min", "(II)I"⟩
  | 308 => ⟨"FreightYardsLaw", "law", "([I)Z"⟩
  | _ => ⟨"", "", ""⟩
def sm_bc (n : Nat) : ByteArray := match n with
  | 0 => prog_2_method_1_code
  | 1 => prog_2_method_2_code
  | 2 => prog_2_method_3_code
  | 3 => prog_2_method_4_code
  | 4 => prog_2_method_5_code
  | 5 => prog_2_method_6_code
  | 6 => prog_2_method_7_code
  | 7 => prog_2_method_8_code
  | 8 => prog_2_method_9_code
  | 9 => prog_2_method_10_code
  | 10 => prog_2_method_11_code
  | 11 => prog_2_method_12_code
  | 12 => prog_2_method_13_code
  | 13 => prog_2_method_14_code
  | 14 => prog_2_method_15_code
  | 15 => prog_2_method_16_code
  | 16 => prog_2_method_17_code
  | 17 => prog_2_method_18_code
  | 18 => prog_2_method_19_code
  | 19 => prog_2_method_20_code
  | 20 => prog_2_method_21_code
  | 21 => prog_2_method_22_code
  | 22 => prog_2_method_23_code
  | 23 => prog_3_method_2_code
  | 24 => prog_3_method_3_code
  | 25 => prog_3_method_4_code
  | 26 => prog_3_method_5_code
  | 27 => prog_3_method_6_code
  | 28 => prog_3_method_7_code
  | 29 => prog_3_method_8_code
  | 30 => prog_4_method_1_code
  | 31 => prog_4_method_2_code
  | 32 => prog_4_method_3_code
  | 33 => prog_4_method_4_code
  | 34 => prog_4_method_5_code
  | 35 => prog_4_method_6_code
  | 36 => prog_4_method_7_code
  | 37 => prog_4_method_8_code
  | 38 => prog_4_method_9_code
  | 39 => prog_4_method_10_code
  | 40 => prog_4_method_11_code
  | 41 => prog_5_method_1_code
  | 42 => prog_5_method_2_code
  | 43 => prog_5_method_3_code
  | 44 => prog_5_method_4_code
  | 45 => prog_5_method_5_code
  | 46 => prog_5_method_6_code
  | 47 => prog_5_method_7_code
  | 48 => prog_5_method_8_code
  | 49 => prog_5_method_9_code
  | 50 => prog_5_method_10_code
  | 51 => prog_5_method_11_code
  | 52 => prog_5_method_12_code
  | 53 => prog_5_method_13_code
  | 54 => prog_5_method_14_code
  | 55 => prog_5_method_15_code
  | 56 => prog_5_method_16_code
  | 57 => prog_5_method_17_code
  | 58 => prog_5_method_18_code
  | 59 => prog_5_method_19_code
  | 60 => prog_5_method_20_code
  | 61 => prog_5_method_21_code
  | 62 => prog_5_method_22_code
  | 63 => prog_5_method_23_code
  | 64 => prog_5_method_24_code
  | 65 => prog_5_method_25_code
  | 66 => prog_5_method_26_code
  | 67 => prog_5_method_27_code
  | 68 => prog_5_method_28_code
  | 69 => prog_5_method_29_code
  | 70 => prog_5_method_30_code
  | 71 => prog_5_method_31_code
  | 72 => prog_6_method_1_code
  | 73 => prog_6_method_2_code
  | 74 => prog_6_method_3_code
  | 75 => prog_6_method_4_code
  | 76 => prog_6_method_5_code
  | 77 => prog_6_method_6_code
  | 78 => prog_6_method_7_code
  | 79 => prog_6_method_8_code
  | 80 => prog_6_method_9_code
  | 81 => prog_7_method_1_code
  | 82 => prog_7_method_2_code
  | 83 => prog_7_method_3_code
  | 84 => prog_7_method_4_code
  | 85 => prog_7_method_5_code
  | 86 => prog_7_method_6_code
  | 87 => prog_7_method_7_code
  | 88 => prog_7_method_8_code
  | 89 => prog_7_method_9_code
  | 90 => prog_7_method_10_code
  | 91 => prog_7_method_11_code
  | 92 => prog_7_method_12_code
  | 93 => prog_7_method_13_code
  | 94 => prog_7_method_14_code
  | 95 => prog_7_method_15_code
  | 96 => prog_7_method_16_code
  | 97 => prog_7_method_17_code
  | 98 => prog_7_method_18_code
  | 99 => prog_7_method_19_code
  | 100 => prog_7_method_20_code
  | 101 => prog_7_method_21_code
  | 102 => prog_7_method_22_code
  | 103 => prog_7_method_23_code
  | 104 => prog_7_method_24_code
  | 105 => prog_7_method_25_code
  | 106 => prog_7_method_26_code
  | 107 => prog_7_method_27_code
  | 108 => prog_7_method_28_code
  | 109 => prog_7_method_29_code
  | 110 => prog_7_method_30_code
  | 111 => prog_7_method_31_code
  | 112 => prog_7_method_32_code
  | 113 => prog_7_method_33_code
  | 114 => prog_7_method_34_code
  | 115 => prog_7_method_35_code
  | 116 => prog_7_method_36_code
  | 117 => prog_7_method_37_code
  | 118 => prog_7_method_38_code
  | 119 => prog_7_method_39_code
  | 120 => prog_8_method_1_code
  | 121 => prog_8_method_2_code
  | 122 => prog_8_method_3_code
  | 123 => prog_8_method_4_code
  | 124 => prog_8_method_5_code
  | 125 => prog_8_method_6_code
  | 126 => prog_8_method_7_code
  | 127 => prog_8_method_8_code
  | 128 => prog_8_method_9_code
  | 129 => prog_9_method_1_code
  | 130 => prog_9_method_2_code
  | 131 => prog_9_method_3_code
  | 132 => prog_9_method_4_code
  | 133 => prog_9_method_5_code
  | 134 => prog_9_method_6_code
  | 135 => prog_9_method_7_code
  | 136 => prog_9_method_8_code
  | 137 => prog_9_method_9_code
  | 138 => prog_9_method_10_code
  | 139 => prog_9_method_11_code
  | 140 => prog_9_method_12_code
  | 141 => prog_9_method_13_code
  | 142 => prog_9_method_14_code
  | 143 => prog_9_method_15_code
  | 144 => prog_10_method_1_code
  | 145 => prog_10_method_2_code
  | 146 => prog_10_method_3_code
  | 147 => prog_11_method_1_code
  | 148 => prog_11_method_2_code
  | 149 => prog_11_method_3_code
  | 150 => prog_11_method_4_code
  | 151 => prog_11_method_5_code
  | 152 => prog_11_method_6_code
  | 153 => prog_11_method_7_code
  | 154 => prog_11_method_8_code
  | 155 => prog_11_method_9_code
  | 156 => prog_12_method_1_code
  | 157 => prog_12_method_2_code
  | 158 => prog_12_method_3_code
  | 159 => prog_12_method_4_code
  | 160 => prog_12_method_5_code
  | 161 => prog_12_method_6_code
  | 162 => prog_12_method_7_code
  | 163 => prog_12_method_8_code
  | 164 => prog_12_method_9_code
  | 165 => prog_12_method_10_code
  | 166 => prog_1_method_1_code
  | 167 => prog_1_method_2_code
  | 168 => prog_1_method_3_code
  | 169 => prog_1_method_4_code
  | 170 => prog_1_method_5_code
  | 171 => prog_1_method_6_code
  | 172 => prog_1_method_7_code
  | 173 => prog_1_method_8_code
  | 174 => prog_1_method_9_code
  | 175 => prog_1_method_10_code
  | 176 => prog_1_method_11_code
  | 177 => prog_1_method_12_code
  | 178 => prog_1_method_13_code
  | 179 => prog_1_method_14_code
  | 180 => prog_15_method_1_code
  | 181 => prog_14_method_1_code
  | 182 => prog_14_method_2_code
  | 183 => prog_14_method_3_code
  | 184 => prog_14_method_4_code
  | 185 => prog_14_method_5_code
  | 186 => prog_14_method_6_code
  | 187 => prog_14_method_7_code
  | 188 => prog_14_method_8_code
  | 189 => prog_14_method_9_code
  | 190 => prog_14_method_10_code
  | 191 => prog_14_method_11_code
  | 192 => prog_14_method_12_code
  | 193 => prog_14_method_13_code
  | 194 => prog_14_method_14_code
  | 195 => prog_14_method_15_code
  | 196 => prog_14_method_16_code
  | 197 => prog_14_method_17_code
  | 198 => prog_14_method_18_code
  | 199 => prog_14_method_19_code
  | 200 => prog_14_method_20_code
  | 201 => prog_14_method_21_code
  | 202 => prog_14_method_22_code
  | 203 => prog_14_method_23_code
  | 204 => prog_14_method_24_code
  | 205 => prog_14_method_25_code
  | 206 => prog_14_method_26_code
  | 207 => prog_14_method_27_code
  | 208 => prog_14_method_28_code
  | 209 => prog_14_method_29_code
  | 210 => prog_14_method_30_code
  | 211 => prog_14_method_31_code
  | 212 => prog_14_method_32_code
  | 213 => prog_14_method_33_code
  | 214 => prog_14_method_34_code
  | 215 => prog_14_method_35_code
  | 216 => prog_14_method_36_code
  | 217 => prog_14_method_37_code
  | 218 => prog_14_method_38_code
  | 219 => prog_14_method_39_code
  | 220 => prog_14_method_40_code
  | 221 => prog_14_method_41_code
  | 222 => prog_14_method_42_code
  | 223 => prog_14_method_43_code
  | 224 => prog_14_method_44_code
  | 225 => prog_14_method_45_code
  | 226 => prog_14_method_46_code
  | 227 => prog_14_method_47_code
  | 228 => prog_14_method_48_code
  | 229 => prog_14_method_49_code
  | 230 => prog_14_method_50_code
  | 231 => prog_14_method_51_code
  | 232 => prog_14_method_52_code
  | 233 => prog_14_method_53_code
  | 234 => prog_14_method_54_code
  | 235 => prog_14_method_55_code
  | 236 => prog_14_method_56_code
  | 237 => prog_14_method_57_code
  | 238 => prog_14_method_58_code
  | 239 => prog_14_method_59_code
  | 240 => prog_14_method_60_code
  | 241 => prog_14_method_61_code
  | 242 => prog_14_method_62_code
  | 243 => prog_14_method_63_code
  | 244 => prog_14_method_64_code
  | 245 => prog_14_method_65_code
  | 246 => prog_14_method_66_code
  | 247 => prog_14_method_67_code
  | 248 => prog_14_method_68_code
  | 249 => prog_14_method_69_code
  | 250 => prog_14_method_70_code
  | 251 => prog_14_method_71_code
  | 252 => prog_14_method_72_code
  | 253 => prog_14_method_73_code
  | 254 => prog_14_method_74_code
  | 255 => prog_14_method_75_code
  | 256 => prog_14_method_76_code
  | 257 => prog_14_method_77_code
  | 258 => prog_14_method_78_code
  | 259 => prog_14_method_79_code
  | 260 => prog_14_method_80_code
  | 261 => prog_14_method_81_code
  | 262 => prog_14_method_82_code
  | 263 => prog_14_method_83_code
  | 264 => prog_14_method_84_code
  | 265 => prog_14_method_85_code
  | 266 => prog_14_method_86_code
  | 267 => prog_14_method_87_code
  | 268 => prog_14_method_88_code
  | 269 => prog_14_method_89_code
  | 270 => prog_14_method_90_code
  | 271 => prog_14_method_91_code
  | 272 => prog_14_method_92_code
  | 273 => prog_14_method_93_code
  | 274 => prog_14_method_94_code
  | 275 => prog_14_method_95_code
  | 276 => prog_14_method_96_code
  | 277 => prog_14_method_97_code
  | 278 => prog_14_method_98_code
  | 279 => prog_14_method_99_code
  | 280 => prog_14_method_100_code
  | 281 => prog_14_method_101_code
  | 282 => prog_14_method_102_code
  | 283 => prog_14_method_103_code
  | 284 => prog_14_method_104_code
  | 285 => prog_14_method_105_code
  | 286 => prog_14_method_106_code
  | 287 => prog_14_method_107_code
  | 288 => prog_14_method_108_code
  | 289 => prog_14_method_109_code
  | 290 => prog_14_method_110_code
  | 291 => prog_14_method_111_code
  | 292 => prog_14_method_112_code
  | 293 => prog_14_method_113_code
  | 294 => prog_21_method_54_code
  | 295 => prog_21_method_56_code
  | 296 => prog_21_method_79_code
  | 297 => prog_21_method_80_code
  | 298 => prog_21_method_152_code
  | 299 => prog_21_method_154_code
  | 300 => prog_21_method_155_code
  | 301 => prog_22_method_2_code
  | 302 => prog_22_method_4_code
  | 303 => prog_22_method_22_code
  | 304 => prog_22_method_23_code
  | 305 => prog_26_method_11_code
  | 306 => prog_19_method_65_code
  | 307 => prog_19_method_69_code
  | 308 => code
  | _ => ⟨#[]⟩
def sm_re (n : Nat) : Option FieldType := match n with
  | 0 => none
  | 1 => none
  | 2 => some .int
  | 3 => some .boolean
  | 4 => some .boolean
  | 5 => some .int
  | 6 => none
  | 7 => none
  | 8 => some .int
  | 9 => some .int
  | 10 => some .int
  | 11 => some .int
  | 12 => some .boolean
  | 13 => some .int
  | 14 => some .int
  | 15 => none
  | 16 => some .int
  | 17 => none
  | 18 => some .boolean
  | 19 => some .int
  | 20 => some .int
  | 21 => some .int
  | 22 => some .int
  | 23 => some .boolean
  | 24 => some .boolean
  | 25 => some .boolean
  | 26 => some .boolean
  | 27 => some .boolean
  | 28 => some .boolean
  | 29 => some .boolean
  | 30 => none
  | 31 => some .boolean
  | 32 => some .boolean
  | 33 => some (.object "FreightYards$Row")
  | 34 => some .boolean
  | 35 => some .int
  | 36 => some .int
  | 37 => some .boolean
  | 38 => some .int
  | 39 => some .int
  | 40 => some .int
  | 41 => none
  | 42 => some .int
  | 43 => none
  | 44 => some .int
  | 45 => none
  | 46 => some .int
  | 47 => some .int
  | 48 => some .int
  | 49 => none
  | 50 => none
  | 51 => none
  | 52 => none
  | 53 => none
  | 54 => none
  | 55 => none
  | 56 => none
  | 57 => none
  | 58 => none
  | 59 => none
  | 60 => none
  | 61 => none
  | 62 => none
  | 63 => none
  | 64 => none
  | 65 => none
  | 66 => none
  | 67 => none
  | 68 => none
  | 69 => none
  | 70 => none
  | 71 => none
  | 72 => none
  | 73 => none
  | 74 => some .boolean
  | 75 => some .int
  | 76 => none
  | 77 => some .int
  | 78 => none
  | 79 => some .int
  | 80 => some .int
  | 81 => none
  | 82 => none
  | 83 => none
  | 84 => none
  | 85 => none
  | 86 => none
  | 87 => none
  | 88 => none
  | 89 => none
  | 90 => some .int
  | 91 => none
  | 92 => some .int
  | 93 => some .int
  | 94 => some .int
  | 95 => none
  | 96 => none
  | 97 => none
  | 98 => none
  | 99 => some .int
  | 100 => none
  | 101 => none
  | 102 => none
  | 103 => none
  | 104 => none
  | 105 => none
  | 106 => some .int
  | 107 => some .int
  | 108 => some .int
  | 109 => some .int
  | 110 => some .int
  | 111 => some .int
  | 112 => some .int
  | 113 => some .int
  | 114 => some .int
  | 115 => none
  | 116 => some .int
  | 117 => some .int
  | 118 => some .int
  | 119 => some .int
  | 120 => none
  | 121 => some .boolean
  | 122 => some (.object "FreightYards$Vehicle")
  | 123 => none
  | 124 => some .boolean
  | 125 => some .int
  | 126 => some .int
  | 127 => some .int
  | 128 => none
  | 129 => none
  | 130 => some .boolean
  | 131 => none
  | 132 => none
  | 133 => some .int
  | 134 => some .long
  | 135 => some .boolean
  | 136 => some .boolean
  | 137 => some .boolean
  | 138 => some .int
  | 139 => some .int
  | 140 => some .int
  | 141 => some .int
  | 142 => some .int
  | 143 => some .int
  | 144 => none
  | 145 => none
  | 146 => some .int
  | 147 => none
  | 148 => some .boolean
  | 149 => some .int
  | 150 => none
  | 151 => some .int
  | 152 => none
  | 153 => some .int
  | 154 => some .int
  | 155 => some .int
  | 156 => none
  | 157 => some .boolean
  | 158 => some .boolean
  | 159 => some .int
  | 160 => some .int
  | 161 => some (.object "FreightYards$Vehicle")
  | 162 => some (.object "FreightYards$Row")
  | 163 => some .int
  | 164 => some .int
  | 165 => some .int
  | 166 => none
  | 167 => some .int
  | 168 => some .int
  | 169 => some .int
  | 170 => some .int
  | 171 => some .int
  | 172 => some .int
  | 173 => some .boolean
  | 174 => some .int
  | 175 => some .int
  | 176 => some .int
  | 177 => some .int
  | 178 => some .int
  | 179 => some .int
  | 180 => none
  | 181 => some .boolean
  | 182 => some .boolean
  | 183 => some .boolean
  | 184 => some .boolean
  | 185 => some .boolean
  | 186 => some .boolean
  | 187 => some .boolean
  | 188 => some .boolean
  | 189 => some .boolean
  | 190 => some .int
  | 191 => some .long
  | 192 => some .int
  | 193 => some (.object "java/lang/String")
  | 194 => some (.object "java/lang/String")
  | 195 => some .int
  | 196 => none
  | 197 => some .int
  | 198 => some .boolean
  | 199 => some .int
  | 200 => some (.object "java/lang/IllegalStateException")
  | 201 => none
  | 202 => none
  | 203 => none
  | 204 => some .boolean
  | 205 => some .boolean
  | 206 => none
  | 207 => some .int
  | 208 => none
  | 209 => some .int
  | 210 => some .int
  | 211 => none
  | 212 => none
  | 213 => some .int
  | 214 => none
  | 215 => none
  | 216 => some .int
  | 217 => none
  | 218 => none
  | 219 => none
  | 220 => some .int
  | 221 => none
  | 222 => none
  | 223 => none
  | 224 => none
  | 225 => some .boolean
  | 226 => none
  | 227 => none
  | 228 => none
  | 229 => none
  | 230 => some .int
  | 231 => some .int
  | 232 => some .int
  | 233 => some .int
  | 234 => some .int
  | 235 => some .int
  | 236 => some .int
  | 237 => some .int
  | 238 => some .int
  | 239 => some .int
  | 240 => some .int
  | 241 => some .int
  | 242 => some .int
  | 243 => some .int
  | 244 => some .int
  | 245 => some .int
  | 246 => some .int
  | 247 => some .int
  | 248 => some .boolean
  | 249 => some .int
  | 250 => some .int
  | 251 => some .int
  | 252 => some .int
  | 253 => none
  | 254 => some .int
  | 255 => none
  | 256 => none
  | 257 => none
  | 258 => none
  | 259 => none
  | 260 => none
  | 261 => none
  | 262 => none
  | 263 => none
  | 264 => none
  | 265 => none
  | 266 => none
  | 267 => none
  | 268 => some .boolean
  | 269 => some .boolean
  | 270 => none
  | 271 => some .int
  | 272 => some .int
  | 273 => some .int
  | 274 => some .int
  | 275 => none
  | 276 => some .boolean
  | 277 => none
  | 278 => none
  | 279 => some .int
  | 280 => some .int
  | 281 => some .int
  | 282 => some .boolean
  | 283 => some .int
  | 284 => some .int
  | 285 => some .int
  | 286 => some .boolean
  | 287 => some .int
  | 288 => some .int
  | 289 => some .int
  | 290 => some .int
  | 291 => some .int
  | 292 => some .int
  | 293 => some .int
  | 294 => some .int
  | 295 => some .char
  | 296 => some .int
  | 297 => some .int
  | 298 => some .byte
  | 299 => some .boolean
  | 300 => none
  | 301 => some .char
  | 302 => some .boolean
  | 303 => some .int
  | 304 => some .int
  | 305 => some .int
  | 306 => some .int
  | 307 => some .int
  | 308 => some .boolean
  | _ => none
/-- 0: an instance method, 1: static, 2: a maker -/
def sm_kn (n : Nat) : Nat := match n with
  | 0 => 2
  | 1 => 0
  | 2 => 0
  | 3 => 0
  | 4 => 0
  | 5 => 0
  | 6 => 0
  | 7 => 0
  | 8 => 0
  | 9 => 0
  | 10 => 0
  | 11 => 0
  | 12 => 0
  | 13 => 0
  | 14 => 0
  | 15 => 0
  | 16 => 0
  | 17 => 0
  | 18 => 0
  | 19 => 0
  | 20 => 0
  | 21 => 0
  | 22 => 0
  | 23 => 1
  | 24 => 1
  | 25 => 1
  | 26 => 1
  | 27 => 1
  | 28 => 1
  | 29 => 1
  | 30 => 2
  | 31 => 1
  | 32 => 0
  | 33 => 0
  | 34 => 0
  | 35 => 0
  | 36 => 0
  | 37 => 0
  | 38 => 0
  | 39 => 0
  | 40 => 0
  | 41 => 2
  | 42 => 0
  | 43 => 0
  | 44 => 0
  | 45 => 0
  | 46 => 0
  | 47 => 0
  | 48 => 0
  | 49 => 0
  | 50 => 0
  | 51 => 0
  | 52 => 0
  | 53 => 0
  | 54 => 0
  | 55 => 0
  | 56 => 0
  | 57 => 0
  | 58 => 0
  | 59 => 0
  | 60 => 0
  | 61 => 0
  | 62 => 0
  | 63 => 0
  | 64 => 0
  | 65 => 0
  | 66 => 0
  | 67 => 0
  | 68 => 0
  | 69 => 0
  | 70 => 0
  | 71 => 0
  | 72 => 2
  | 73 => 0
  | 74 => 0
  | 75 => 0
  | 76 => 0
  | 77 => 0
  | 78 => 0
  | 79 => 0
  | 80 => 0
  | 81 => 2
  | 82 => 0
  | 83 => 0
  | 84 => 0
  | 85 => 0
  | 86 => 0
  | 87 => 0
  | 88 => 0
  | 89 => 0
  | 90 => 0
  | 91 => 0
  | 92 => 0
  | 93 => 0
  | 94 => 0
  | 95 => 0
  | 96 => 0
  | 97 => 0
  | 98 => 0
  | 99 => 0
  | 100 => 0
  | 101 => 0
  | 102 => 0
  | 103 => 0
  | 104 => 0
  | 105 => 0
  | 106 => 0
  | 107 => 0
  | 108 => 0
  | 109 => 0
  | 110 => 0
  | 111 => 0
  | 112 => 0
  | 113 => 0
  | 114 => 0
  | 115 => 0
  | 116 => 0
  | 117 => 0
  | 118 => 0
  | 119 => 0
  | 120 => 2
  | 121 => 0
  | 122 => 0
  | 123 => 0
  | 124 => 0
  | 125 => 0
  | 126 => 0
  | 127 => 0
  | 128 => 0
  | 129 => 2
  | 130 => 0
  | 131 => 0
  | 132 => 0
  | 133 => 1
  | 134 => 1
  | 135 => 1
  | 136 => 1
  | 137 => 1
  | 138 => 0
  | 139 => 0
  | 140 => 0
  | 141 => 0
  | 142 => 0
  | 143 => 0
  | 144 => 2
  | 145 => 0
  | 146 => 0
  | 147 => 2
  | 148 => 1
  | 149 => 0
  | 150 => 0
  | 151 => 0
  | 152 => 0
  | 153 => 0
  | 154 => 0
  | 155 => 0
  | 156 => 2
  | 157 => 0
  | 158 => 0
  | 159 => 0
  | 160 => 0
  | 161 => 0
  | 162 => 0
  | 163 => 1
  | 164 => 1
  | 165 => 0
  | 166 => 2
  | 167 => 0
  | 168 => 0
  | 169 => 0
  | 170 => 0
  | 171 => 0
  | 172 => 0
  | 173 => 0
  | 174 => 0
  | 175 => 0
  | 176 => 0
  | 177 => 0
  | 178 => 0
  | 179 => 0
  | 180 => 2
  | 181 => 1
  | 182 => 1
  | 183 => 1
  | 184 => 1
  | 185 => 1
  | 186 => 1
  | 187 => 1
  | 188 => 1
  | 189 => 1
  | 190 => 0
  | 191 => 1
  | 192 => 1
  | 193 => 1
  | 194 => 1
  | 195 => 0
  | 196 => 0
  | 197 => 0
  | 198 => 1
  | 199 => 0
  | 200 => 0
  | 201 => 0
  | 202 => 0
  | 203 => 0
  | 204 => 0
  | 205 => 0
  | 206 => 0
  | 207 => 0
  | 208 => 0
  | 209 => 1
  | 210 => 0
  | 211 => 0
  | 212 => 0
  | 213 => 0
  | 214 => 0
  | 215 => 0
  | 216 => 0
  | 217 => 0
  | 218 => 0
  | 219 => 0
  | 220 => 0
  | 221 => 0
  | 222 => 0
  | 223 => 0
  | 224 => 0
  | 225 => 0
  | 226 => 0
  | 227 => 0
  | 228 => 0
  | 229 => 0
  | 230 => 0
  | 231 => 0
  | 232 => 0
  | 233 => 0
  | 234 => 0
  | 235 => 0
  | 236 => 0
  | 237 => 0
  | 238 => 1
  | 239 => 0
  | 240 => 0
  | 241 => 0
  | 242 => 1
  | 243 => 1
  | 244 => 0
  | 245 => 0
  | 246 => 0
  | 247 => 1
  | 248 => 0
  | 249 => 0
  | 250 => 0
  | 251 => 0
  | 252 => 0
  | 253 => 0
  | 254 => 0
  | 255 => 0
  | 256 => 0
  | 257 => 0
  | 258 => 0
  | 259 => 0
  | 260 => 0
  | 261 => 0
  | 262 => 0
  | 263 => 0
  | 264 => 0
  | 265 => 0
  | 266 => 0
  | 267 => 0
  | 268 => 1
  | 269 => 0
  | 270 => 0
  | 271 => 0
  | 272 => 0
  | 273 => 0
  | 274 => 0
  | 275 => 0
  | 276 => 0
  | 277 => 2
  | 278 => 0
  | 279 => 0
  | 280 => 0
  | 281 => 0
  | 282 => 0
  | 283 => 0
  | 284 => 0
  | 285 => 0
  | 286 => 0
  | 287 => 0
  | 288 => 0
  | 289 => 0
  | 290 => 0
  | 291 => 0
  | 292 => 0
  | 293 => 0
  | 294 => 0
  | 295 => 0
  | 296 => 0
  | 297 => 0
  | 298 => 0
  | 299 => 0
  | 300 => 1
  | 301 => 1
  | 302 => 1
  | 303 => 1
  | 304 => 1
  | 305 => 1
  | 306 => 1
  | 307 => 1
  | 308 => 1
  | _ => 0
def sm_LOAD : Nat := 280
def sm_LAW : Nat := 308
def sm_cw (n : Nat) : Cond := bif n == sm_LOAD then .codeWith (sm_y n) (sm_bc n) (sm_nl n) (sm_re n) [(34, 38, 41, 643)] else .code (sm_y n) (sm_bc n) (sm_nl n) (sm_re n)
end
end
section
section
/-- places of the words, in lw_tbl -/
def sm_pc : List (Nat) := [296, 684, 708, 742, 771, 718, 767, 775, 738, 835, 855, 994, 972, 819, 956, 910, 926, 930, 914, 999, 1003, 1301, 1061, 870, 1324, 877, 842, 845, 839, 891, 268, 1228, 1321, 1225, 1239, 1262, 1332, 1336, 1377, 1381, 1395, 423, 977, 1296, 1309, 982, 1011, 1019, 1031, 1015, 986, 1023, 990, 1052, 1056, 1007, 1027, 1291, 1035, 1065, 1069, 1086, 1100, 1121, 1129, 1133, 1179, 1217, 1221, 1235, 1244, 1258, 359, 722, 754, 758, 763, 783, 934, 750, 863, 353, 680, 700, 688, 851, 696, 827, 692, 704, 712, 726, 746, 730, 734, 779, 787, 791, 952, 906, 902, 918, 922, 940, 944, 948, 795, 799, 803, 897, 807, 811, 815, 859, 823, 831, 867, 874, 881, 888, 1192, 1074, 1078, 1096, 1091, 1248, 1253, 1348, 1355, 199, 512, 516, 524, 552, 548, 538, 603, 545, 535, 531, 542, 607, 613, 618, 1266, 1340, 1344, 1145, 959, 1104, 1125, 1368, 1359, 1109, 1113, 1117, 238, 1137, 1183, 1141, 1187, 1047, 1043, 1082, 1231, 1039, 191, 508, 520, 964, 968, 1305, 1313, 1317, 1328, 1364, 1373, 1385, 1391, 1400, 1411, 1967, 1964, 1943, 1961, 1958, 2004, 1749, 1785, 1756, 1742, 1780, 1759, 1762, 1792, 1789, 1738, 1746, 1819, 1753, 1839, 1835, 1940, 1843, 1863, 1831, 1859, 1907, 1823, 1850, 1847, 1827, 1867, 1875, 1879, 2012, 1871, 1883, 1887, 2008, 2020, 2016, 2024, 2028, 2032, 2036, 1973, 1936, 1891, 1916, 1920, 1924, 1928, 1932, 1895, 1903, 1899, 1911, 1951, 1955, 1948, 1977, 1984, 1996, 1981, 2000, 2092, 2095, 2088, 2103, 2107, 2111, 2099, 2068, 2072, 2060, 2080, 2150, 2052, 2123, 2056, 2064, 2154, 2146, 2076, 2084, 2115, 2119, 2130, 2134, 2127, 2138, 2142, 2182, 2178, 2186, 2174, 1405, 1730, 1726, 1734, 2040, 2048, 2044, 2158, 2162, 2166, 2170, 2190, 2198, 2194, 2202, 2206, 2210, 556, 566, 623, 627, 560, 570, 576, 573, 634, 631, 641, 581, 637, 527]
def sm_pi : List (Nat) := [166, 166, 166, 166, 166, 166, 166, 166, 166, 166, 166, 166, 166, 166, 166, 166, 166, 166, 166, 166, 166, 166, 166, 183, 183, 183, 183, 183, 183, 183, 165, 165, 165, 165, 165, 165, 165, 165, 165, 165, 165, 170, 170, 170, 170, 170, 170, 170, 170, 170, 170, 170, 170, 170, 170, 170, 170, 170, 170, 170, 170, 170, 170, 170, 170, 170, 170, 170, 170, 170, 170, 170, 169, 169, 169, 169, 169, 169, 169, 169, 169, 168, 168, 168, 168, 168, 168, 168, 168, 168, 168, 168, 168, 168, 168, 168, 168, 168, 168, 168, 168, 168, 168, 168, 168, 168, 168, 168, 168, 168, 168, 168, 168, 168, 168, 168, 168, 168, 168, 168, 185, 185, 185, 185, 185, 185, 185, 185, 185, 163, 163, 163, 163, 163, 163, 163, 163, 163, 163, 163, 163, 163, 163, 163, 186, 186, 186, 184, 184, 184, 184, 184, 184, 184, 184, 184, 164, 164, 164, 164, 164, 164, 164, 164, 164, 164, 162, 162, 162, 162, 162, 162, 162, 162, 162, 162, 162, 162, 162, 162, 172, 171, 171, 171, 171, 171, 171, 171, 171, 171, 171, 171, 171, 171, 171, 171, 171, 171, 171, 171, 171, 171, 171, 171, 171, 171, 171, 171, 171, 171, 171, 171, 171, 171, 171, 171, 171, 171, 171, 171, 171, 171, 171, 171, 171, 171, 171, 171, 171, 171, 171, 171, 171, 171, 171, 171, 171, 171, 171, 171, 171, 171, 171, 171, 171, 171, 171, 171, 171, 171, 171, 171, 171, 171, 171, 171, 171, 171, 171, 171, 171, 171, 171, 171, 171, 171, 171, 171, 171, 171, 171, 171, 171, 171, 171, 171, 171, 171, 171, 171, 171, 171, 171, 171, 171, 171, 171, 171, 171, 171, 171, 171, 171, 171, 178, 178, 178, 178, 178, 178, 178, 179, 179, 179, 179, 180, 177, 177]
def sm_ps : List (Nat) := [295, 682, 706, 741, 770, 716, 765, 773, 736, 833, 853, 992, 970, 817, 954, 908, 924, 928, 913, 997, 1001, 1299, 1059, 869, 1323, 876, 841, 844, 838, 890, 267, 1227, 1319, 1223, 1237, 1260, 1330, 1335, 1375, 1380, 1393, 422, 975, 1295, 1307, 981, 1010, 1018, 1030, 1014, 985, 1022, 989, 1051, 1055, 1006, 1026, 1290, 1034, 1064, 1068, 1085, 1099, 1120, 1128, 1132, 1178, 1216, 1220, 1234, 1243, 1257, 358, 720, 752, 756, 761, 781, 932, 748, 861, 352, 678, 699, 687, 850, 695, 826, 691, 703, 711, 725, 745, 729, 733, 778, 786, 790, 951, 905, 901, 917, 921, 939, 943, 947, 794, 798, 802, 896, 806, 810, 814, 858, 822, 830, 866, 873, 880, 887, 1191, 1072, 1076, 1094, 1089, 1246, 1252, 1346, 1353, 198, 510, 514, 522, 551, 547, 537, 602, 544, 534, 530, 541, 606, 612, 617, 1265, 1338, 1343, 1144, 958, 1102, 1123, 1366, 1357, 1107, 1112, 1116, 237, 1135, 1181, 1139, 1185, 1045, 1041, 1081, 1230, 1037, 190, 506, 518, 962, 966, 1303, 1311, 1315, 1326, 1362, 1371, 1383, 1389, 1398, 1410, 1966, 1963, 1942, 1960, 1957, 2003, 1748, 1784, 1755, 1741, 1779, 1758, 1761, 1791, 1788, 1737, 1745, 1818, 1752, 1838, 1834, 1939, 1842, 1862, 1830, 1858, 1906, 1822, 1849, 1846, 1826, 1866, 1874, 1878, 2011, 1870, 1882, 1886, 2007, 2019, 2015, 2023, 2027, 2031, 2035, 1972, 1935, 1890, 1915, 1919, 1923, 1927, 1931, 1894, 1902, 1898, 1910, 1950, 1954, 1947, 1976, 1983, 1995, 1980, 1999, 2091, 2094, 2087, 2102, 2106, 2110, 2098, 2067, 2071, 2059, 2079, 2149, 2051, 2122, 2055, 2063, 2153, 2145, 2075, 2083, 2114, 2118, 2129, 2133, 2126, 2137, 2141, 2181, 2177, 2185, 2173, 1404, 1729, 1724, 1732, 2038, 2047, 2042, 2156, 2160, 2164, 2168, 2188, 2197, 2192, 2200, 2204, 2208, 554, 564, 621, 625, 558, 568, 575, 572, 633, 630, 640, 580, 636, 526]
def sm_pn : List (Nat) := [295, 683, 707, 15, 17, 717, 766, 774, 737, 834, 854, 993, 971, 818, 955, 909, 925, 929, 39, 998, 1002, 1300, 1060, 869, 1323, 876, 841, 844, 838, 890, 267, 1227, 1320, 1224, 1238, 1261, 1331, 78, 1376, 80, 1394, 422, 976, 77, 1308, 46, 50, 52, 55, 51, 47, 53, 48, 57, 58, 49, 54, 76, 56, 59, 60, 61, 62, 66, 67, 68, 69, 70, 71, 72, 73, 75, 358, 721, 753, 757, 762, 782, 933, 749, 862, 352, 679, 9, 6, 30, 8, 28, 7, 10, 11, 12, 16, 13, 14, 18, 19, 20, 45, 38, 37, 40, 41, 42, 43, 44, 21, 22, 23, 36, 24, 25, 26, 31, 27, 29, 32, 33, 34, 35, 1191, 1073, 1077, 1095, 1090, 1247, 74, 1347, 1354, 198, 511, 515, 523, 551, 547, 537, 602, 544, 1, 0, 2, 3, 4, 5, 1265, 1339, 79, 1144, 958, 1103, 1124, 1367, 1358, 63, 64, 65, 237, 1136, 1182, 1140, 1186, 1046, 1042, 1081, 1230, 1038, 190, 507, 519, 963, 967, 1304, 1312, 1316, 1327, 1363, 1372, 1384, 1390, 1399, 1410, 1966, 1963, 1942, 1960, 1957, 2003, 1748, 1784, 1755, 84, 1779, 1758, 1761, 1791, 87, 83, 85, 1818, 86, 92, 91, 115, 93, 96, 90, 95, 107, 88, 1849, 94, 89, 97, 99, 100, 123, 98, 101, 102, 122, 125, 124, 126, 127, 128, 129, 118, 114, 103, 109, 110, 111, 112, 113, 104, 106, 105, 108, 1950, 117, 116, 119, 1983, 1995, 120, 121, 141, 2094, 140, 143, 144, 145, 142, 135, 136, 133, 138, 154, 131, 148, 132, 134, 155, 153, 137, 139, 146, 147, 2129, 150, 149, 151, 152, 158, 157, 159, 156, 1404, 82, 1725, 1733, 2039, 130, 2043, 2157, 2161, 2165, 2169, 2189, 160, 2193, 2201, 2205, 2209, 555, 565, 622, 626, 559, 569, 575, 572, 633, 630, 640, 580, 636, 526]
def sm_fl : List (Nat × Nat × Nat × Nat × Nat) := [(0, 13, 10, 0, 307), (0, 17, 10, 1, 308), (0, 20, 10, 2, 309), (0, 23, 10, 3, 310), (0, 26, 10, 4, 311), (0, 29, 10, 5, 312), (0, 32, 10, 6, 313), (0, 35, 10, 7, 314), (0, 38, 10, 8, 315), (0, 56, 10, 9, 316), (0, 60, 10, 12, 320), (0, 63, 10, 11, 318), (0, 66, 10, 10, 317), (2, 11, 12, 0, 273), (2, 17, 12, 1, 274), (2, 23, 12, 2, 275), (2, 36, 16, 0, 1197), (2, 44, 12, 3, 276), (2, 50, 12, 4, 278), (2, 53, 18, 4, 1276), (2, 62, 18, 2, 1273), (2, 65, 18, 1, 1271), (2, 68, 18, 0, 1269), (2, 76, 16, 2, 1203), (2, 83, 18, 3, 1275), (3, 13, 13, 2, 427), (3, 17, 13, 3, 428), (3, 20, 13, 4, 429), (3, 23, 13, 5, 430), (3, 26, 13, 15, 440), (3, 29, 13, 0, 425), (3, 33, 13, 1, 426), (3, 37, 13, 7, 432), (3, 41, 13, 8, 433), (3, 45, 13, 9, 434), (3, 48, 13, 11, 436), (3, 51, 13, 12, 437), (3, 54, 13, 13, 438), (3, 57, 13, 14, 439), (3, 74, 13, 10, 435), (3, 110, 13, 6, 431), (3, 117, 16, 2, 1202), (3, 135, 13, 17, 444), (3, 210, 12, 4, 280), (3, 266, 13, 16, 443), (4, 11, 14, 0, 361), (4, 15, 14, 1, 362), (4, 19, 14, 2, 363), (4, 22, 14, 3, 364), (4, 26, 14, 4, 365), (5, 12, 15, 1, 378), (5, 20, 15, 2, 379), (5, 24, 15, 12, 390), (5, 28, 15, 0, 377), (5, 32, 15, 3, 380), (5, 39, 15, 4, 381), (5, 42, 15, 11, 388), (5, 45, 15, 5, 382), (5, 51, 15, 6, 383), (5, 67, 15, 9, 386), (5, 70, 15, 7, 384), (5, 73, 17, 7, 213), (5, 76, 17, 4, 207), (5, 80, 17, 5, 209), (5, 83, 17, 6, 211), (5, 86, 15, 8, 385), (5, 204, 15, 10, 387), (5, 225, 10, 11, 319), (5, 228, 10, 12, 321), (6, 7, 16, 0, 1196), (6, 13, 16, 1, 1199), (6, 22, 16, 2, 1201), (6, 27, 16, 3, 1204), (6, 35, 19, 0, 1148), (7, 11, 17, 0, 201), (7, 15, 17, 4, 206), (7, 19, 17, 5, 208), (7, 22, 17, 6, 210), (7, 26, 17, 1, 202), (7, 36, 17, 2, 204), (7, 39, 17, 3, 205), (7, 42, 17, 7, 212), (8, 7, 18, 0, 1268), (8, 13, 18, 1, 1270), (8, 17, 18, 2, 1272), (8, 24, 18, 3, 1274), (9, 11, 19, 0, 1147), (9, 15, 19, 1, 1150), (9, 18, 19, 2, 1153), (9, 21, 19, 3, 1154), (9, 34, 19, 4, 1155), (9, 37, 19, 5, 1156), (9, 40, 19, 6, 1157), (9, 43, 19, 7, 1158), (10, 13, 20, 0, 244), (10, 19, 20, 1, 246), (10, 23, 20, 2, 247), (10, 27, 20, 3, 249), (10, 30, 20, 4, 251), (10, 47, 19, 1, 1151), (10, 50, 16, 1, 1200), (10, 57, 16, 0, 1198), (10, 64, 19, 0, 1149), (11, 10, 21, 0, 483), (11, 19, 21, 1, 484), (11, 26, 21, 2, 485), (11, 33, 21, 5, 488), (11, 37, 21, 6, 489), (11, 45, 21, 3, 486), (11, 54, 21, 4, 487), (11, 66, 17, 1, 203), (11, 77, 15, 11, 389), (11, 84, 15, 12, 391), (11, 99, 13, 16, 442), (11, 102, 13, 15, 441), (11, 113, 20, 2, 248), (11, 116, 20, 0, 245), (11, 139, 19, 1, 1152), (11, 145, 20, 3, 250), (11, 148, 20, 4, 252), (11, 151, 12, 3, 277), (11, 154, 12, 4, 279), (11, 157, 13, 17, 445), (12, 7, 22, 1, 1414), (12, 13, 22, 2, 1416), (12, 17, 22, 3, 1418), (12, 20, 22, 4, 1420), (12, 23, 22, 5, 1422), (12, 26, 22, 7, 1425), (12, 29, 22, 8, 1427), (12, 32, 22, 9, 1429), (12, 35, 22, 10, 1431), (13, 21, 23, 5, 1526), (13, 25, 23, 0, 1521), (13, 122, 23, 3, 1524), (13, 129, 23, 2, 1523), (13, 132, 23, 4, 1525), (13, 168, 23, 9, 1530), (13, 171, 23, 10, 1531), (13, 174, 23, 8, 1529), (13, 178, 23, 11, 1532), (13, 195, 23, 7, 1528), (13, 244, 23, 12, 1533), (13, 252, 23, 16, 1537), (13, 255, 23, 15, 1536), (13, 258, 23, 14, 1535), (13, 290, 23, 17, 1538), (13, 293, 23, 18, 1539), (13, 296, 23, 19, 1540), (13, 302, 23, 13, 1534), (13, 343, 23, 20, 1541), (13, 346, 23, 21, 1542), (13, 349, 23, 22, 1543), (13, 352, 23, 23, 1544), (13, 434, 23, 31, 1552), (13, 437, 23, 29, 1550), (13, 443, 23, 30, 1551), (13, 452, 23, 36, 1557), (13, 455, 23, 37, 1558), (13, 458, 23, 50, 1571), (13, 461, 23, 6, 1527), (13, 464, 23, 53, 1574), (13, 467, 23, 57, 1578), (13, 471, 23, 27, 1548), (13, 478, 23, 47, 1568), (13, 481, 23, 52, 1573), (13, 484, 23, 44, 1565), (13, 487, 23, 39, 1560), (13, 490, 23, 45, 1566), (13, 493, 23, 38, 1559), (13, 496, 23, 46, 1567), (13, 499, 23, 43, 1564), (13, 502, 23, 48, 1569), (13, 505, 23, 42, 1563), (13, 508, 23, 51, 1572), (13, 511, 23, 40, 1561), (13, 517, 23, 41, 1562), (13, 525, 23, 49, 1570), (13, 550, 23, 33, 1554), (13, 570, 23, 28, 1549), (13, 573, 23, 35, 1556), (13, 576, 23, 34, 1555), (13, 579, 23, 32, 1553), (13, 582, 23, 24, 1545), (13, 585, 23, 25, 1546), (13, 588, 23, 26, 1547), (13, 591, 23, 58, 1579), (13, 597, 23, 59, 1580), (13, 607, 23, 61, 1582), (13, 610, 23, 60, 1581), (13, 613, 23, 62, 1583), (13, 616, 23, 63, 1584), (13, 619, 23, 64, 1585), (13, 622, 23, 65, 1586), (13, 625, 23, 66, 1587), (13, 649, 23, 54, 1575), (13, 652, 23, 55, 1576), (13, 655, 23, 1, 1522), (13, 670, 23, 56, 1577), (15, 9, 5, 0, 2212), (15, 15, 5, 1, 2213)]
def sm_fn : List (Nat × Nat × Nat × Nat × Nat) := [(13, 199, 22, 6, 1424), (13, 204, 22, 7, 1426), (13, 207, 22, 8, 1428), (13, 210, 22, 9, 1430), (13, 213, 22, 10, 1432), (13, 216, 22, 0, 1413), (13, 232, 22, 1, 1415), (13, 246, 22, 3, 1419), (13, 249, 22, 2, 1417), (13, 270, 22, 5, 1423), (13, 283, 22, 4, 1421)]
def sm_ml : List (Nat × Nat × Nat × Nat) := [(0, 7, 1002, 297), (0, 44, 1000, 300), (0, 69, 4, 768), (0, 73, 3, 739), (0, 76, 8, 836), (0, 80, 9, 973), (0, 84, 18, 911), (1, 13, 26, 840), (1, 17, 27, 843), (1, 21, 25, 892), (1, 24, 23, 893), (2, 3, 1002, 269), (2, 27, 31, 1226), (2, 31, 24, 1322), (2, 40, 27, 1240), (2, 47, 144, 1264), (2, 56, 37, 1333), (2, 60, 145, 1337), (2, 72, 34, 1360), (2, 79, 39, 1378), (2, 88, 127, 1396), (3, 7, 1002, 424), (3, 60, 8, 978), (3, 66, 45, 979), (3, 70, 50, 983), (3, 77, 19, 996), (3, 80, 20, 1000), (3, 83, 55, 1004), (3, 87, 52, 987), (3, 90, 56, 1024), (3, 93, 10, 1292), (3, 95, 43, 1293), (3, 98, 26, 1297), (3, 104, 162, 1070), (3, 114, 165, 1036), (3, 122, 21, 1298), (3, 125, 47, 1016), (3, 129, 11, 991), (3, 132, 54, 1053), (3, 138, 307, 1057), (3, 144, 22, 1058), (3, 147, 46, 1008), (3, 150, 49, 1012), (3, 153, 51, 1020), (3, 156, 48, 1028), (3, 159, 58, 1032), (3, 162, 59, 1062), (3, 165, 60, 1066), (3, 168, 61, 1083), (3, 171, 62, 1097), (3, 174, 63, 1118), (3, 177, 64, 1126), (3, 180, 65, 1130), (3, 183, 66, 1176), (3, 186, 67, 1214), (3, 189, 68, 1218), (3, 192, 33, 1222), (3, 197, 164, 1229), (3, 201, 69, 1232), (3, 204, 70, 1241), (3, 207, 71, 1255), (3, 213, 57, 1288), (3, 216, 27, 1048), (3, 220, 53, 1049), (3, 223, 121, 1071), (3, 226, 122, 1075), (3, 230, 163, 1080), (3, 234, 161, 1087), (3, 237, 124, 1088), (3, 241, 123, 1093), (3, 245, 149, 1101), (3, 250, 150, 1122), (3, 253, 157, 1134), (3, 257, 159, 1138), (3, 260, 158, 1180), (3, 263, 160, 1184), (3, 269, 34, 1236), (3, 273, 125, 1245), (3, 276, 35, 1259), (4, 3, 1002, 360), (4, 29, 74, 759), (4, 33, 307, 935), (4, 39, 306, 936), (5, 3, 1002, 354), (5, 36, 1, 681), (5, 48, 84, 685), (5, 56, 88, 689), (5, 59, 95, 776), (5, 63, 13, 816), (5, 90, 83, 697), (5, 94, 86, 693), (5, 97, 89, 701), (5, 100, 73, 719), (5, 101, 91, 723), (5, 104, 93, 727), (5, 108, 7, 772), (5, 111, 2, 705), (5, 114, 90, 709), (5, 118, 5, 715), (5, 123, 133, 714), (5, 127, 8, 735), (5, 131, 92, 743), (5, 135, 76, 760), (5, 138, 6, 764), (5, 141, 79, 747), (5, 144, 74, 751), (5, 148, 75, 755), (5, 152, 94, 731), (5, 157, 77, 780), (5, 160, 96, 784), (5, 163, 78, 931), (5, 166, 97, 788), (5, 169, 100, 899), (5, 172, 101, 915), (5, 175, 102, 919), (5, 178, 103, 937), (5, 181, 104, 941), (5, 184, 105, 945), (5, 187, 98, 949), (5, 190, 106, 792), (5, 193, 28, 837), (5, 197, 85, 848), (5, 201, 110, 804), (5, 207, 14, 953), (5, 210, 148, 957), (5, 216, 87, 824), (5, 219, 99, 903), (5, 222, 15, 907), (5, 231, 16, 923), (5, 234, 17, 927), (5, 237, 10, 852), (5, 240, 107, 796), (5, 243, 26, 898), (5, 246, 108, 800), (5, 249, 109, 894), (5, 252, 111, 808), (5, 255, 117, 871), (5, 259, 118, 878), (5, 262, 119, 885), (5, 265, 112, 812), (5, 270, 114, 820), (5, 273, 113, 856), (5, 276, 116, 864), (5, 279, 80, 860), (5, 282, 115, 828), (5, 286, 9, 832), (5, 289, 23, 868), (5, 292, 25, 875), (5, 300, 29, 889), (6, 1, 1002, 1193), (6, 16, 306, 1194), (6, 31, 121, 1079), (6, 38, 27, 1092), (6, 44, 124, 1249), (6, 48, 126, 1250), (6, 52, 123, 1254), (6, 56, 149, 1349), (6, 59, 152, 1356), (7, 3, 1002, 200), (7, 30, 307, 525), (7, 45, 139, 528), (7, 49, 294, 553), (7, 54, 295, 563), (7, 58, 134, 546), (7, 62, 138, 532), (7, 65, 135, 536), (7, 69, 140, 539), (7, 72, 136, 601), (7, 75, 141, 604), (7, 78, 137, 543), (7, 81, 142, 610), (7, 84, 143, 615), (7, 89, 133, 550), (7, 103, 296, 620), (8, 1, 1002, 1267), (8, 20, 146, 1341), (8, 27, 306, 1351), (8, 33, 128, 1352), (8, 40, 127, 1345), (8, 44, 307, 1350), (9, 5, 1002, 1146), (9, 24, 153, 1105), (9, 28, 154, 1110), (9, 31, 155, 1114), (9, 46, 149, 1369), (10, 3, 1002, 239), (10, 33, 157, 1142), (10, 37, 147, 1143), (10, 40, 158, 1188), (10, 44, 120, 1190), (10, 51, 162, 1040), (10, 60, 161, 1044), (11, 1, 1002, 192), (11, 32, 0, 294), (11, 42, 81, 351), (11, 51, 41, 421), (11, 58, 130, 509), (11, 62, 131, 513), (11, 70, 132, 521), (11, 73, 82, 677), (11, 80, 2, 960), (11, 87, 12, 969), (11, 91, 42, 974), (11, 95, 44, 1306), (11, 106, 32, 1318), (11, 110, 36, 1329), (11, 120, 151, 1365), (11, 125, 38, 1374), (11, 129, 33, 1386), (11, 133, 122, 1387), (11, 142, 40, 1392), (12, 1, 1002, 1412), (13, 3, 182, 1962), (13, 7, 181, 1965), (13, 14, 183, 1941), (13, 18, 184, 1959), (13, 29, 294, 1781), (13, 35, 295, 1782), (13, 39, 193, 1760), (13, 43, 191, 1778), (13, 115, 194, 1790), (13, 118, 190, 1739), (13, 125, 197, 1743), (13, 136, 187, 1747), (13, 139, 199, 1750), (13, 142, 188, 1783), (13, 145, 195, 1786), (13, 150, 189, 1754), (13, 161, 198, 1817), (13, 164, 192, 1757), (13, 181, 200, 1836), (13, 185, 204, 1860), (13, 187, 201, 1832), (13, 191, 203, 1840), (13, 219, 211, 1824), (13, 235, 209, 1848), (13, 238, 205, 1828), (13, 241, 210, 1844), (13, 261, 206, 1856), (13, 265, 212, 1864), (13, 267, 216, 1868), (13, 273, 217, 1880), (13, 276, 207, 1904), (13, 280, 213, 1872), (13, 286, 214, 1876), (13, 299, 218, 1884), (13, 305, 228, 1888), (13, 308, 219, 2005), (13, 310, 221, 2013), (13, 313, 222, 2021), (13, 316, 223, 2025), (13, 319, 224, 2029), (13, 321, 230, 1917), (13, 324, 202, 1937), (13, 328, 215, 2009), (13, 331, 185, 1956), (13, 334, 229, 1913), (13, 337, 220, 2017), (13, 340, 225, 2033), (13, 355, 234, 1892), (13, 358, 231, 1921), (13, 361, 232, 1925), (13, 364, 233, 1929), (13, 367, 227, 1933), (13, 370, 236, 1896), (13, 373, 241, 1974), (13, 376, 244, 1978), (13, 379, 245, 1997), (13, 382, 235, 1900), (13, 386, 237, 1908), (13, 391, 240, 1945), (13, 394, 226, 1970), (13, 399, 238, 1949), (13, 402, 239, 1952), (13, 423, 242, 1982), (13, 426, 243, 1994), (13, 431, 186, 2002), (13, 440, 246, 2089), (13, 446, 249, 2100), (13, 448, 250, 2104), (13, 450, 251, 2108), (13, 474, 255, 2057), (13, 514, 253, 2065), (13, 520, 270, 2124), (13, 522, 258, 2049), (13, 527, 261, 2061), (13, 530, 257, 2147), (13, 534, 254, 2069), (13, 537, 264, 2073), (13, 540, 265, 2081), (13, 543, 256, 2077), (13, 545, 247, 2093), (13, 548, 252, 2096), (13, 553, 248, 2085), (13, 556, 266, 2112), (13, 559, 267, 2116), (13, 562, 259, 2120), (13, 564, 263, 2143), (13, 567, 262, 2151), (13, 594, 268, 2128), (13, 600, 269, 2131), (13, 603, 271, 2135), (13, 605, 272, 2139), (13, 628, 273, 2179), (13, 631, 274, 2175), (13, 634, 275, 2183), (13, 637, 1002, 1406), (13, 646, 1001, 1496), (13, 658, 278, 1727), (13, 661, 196, 1735), (13, 664, 208, 1820), (13, 667, 282, 2045), (13, 673, 260, 2053), (13, 676, 276, 2171), (13, 679, 289, 2195), (14, 9, 166, 189), (14, 12, 277, 1403), (14, 13, 167, 505), (14, 17, 279, 1723), (14, 18, 168, 517), (14, 22, 280, 1731), (14, 23, 169, 961), (14, 26, 281, 2037), (14, 27, 170, 965), (14, 31, 283, 2041), (14, 32, 171, 1302), (14, 35, 284, 2155), (14, 36, 172, 1310), (14, 39, 285, 2159), (14, 40, 173, 1314), (14, 44, 286, 2163), (14, 45, 174, 1325), (14, 48, 287, 2167), (14, 49, 175, 1361), (14, 53, 288, 2187), (14, 54, 176, 1370), (14, 57, 290, 2191), (14, 58, 177, 1382), (14, 61, 291, 2199), (14, 62, 178, 1388), (14, 65, 292, 2203), (14, 66, 179, 1397), (14, 69, 293, 2207), (15, 335, 298, 557), (15, 492, 299, 567), (15, 495, 301, 571), (15, 505, 294, 628), (15, 633, 297, 624), (15, 637, 303, 629), (15, 1059, 305, 579), (16, 9, 300, 574), (16, 38, 307, 638), (16, 88, 302, 632), (16, 92, 306, 635), (16, 95, 304, 639)]
def sm_mn : List (Nat × Nat × Nat × Nat) := [(5, 11, 72, 357), (11, 9, 129, 197), (11, 18, 156, 236), (11, 25, 30, 266), (13, 642, 180, 1409)]
def sm_kl : List (Nat × Nat × Nat × Nat) := [(2, 15, 16, 270), (2, 21, 18, 271), (5, 9, 14, 355), (6, 25, 19, 1195), (10, 11, 19, 240), (10, 17, 16, 242), (11, 7, 17, 195), (11, 16, 20, 234), (11, 23, 12, 264), (11, 30, 10, 292), (11, 40, 15, 349), (11, 49, 13, 419), (13, 200, 22, 1407), (13, 643, 24, 1456), (14, 7, 21, 187), (14, 10, 23, 1401)]
def sm_il : List (Nat × Nat × Nat × Nat) := [(3, 73, 10000000, 995)]
def sm_ll : List (Nat × Nat × Nat × Nat) := [(7, 97, 2, 609), (7, 99, 1, 614), (13, 148, 0, 1812), (13, 153, 1, 1813), (13, 155, 4, 1814), (13, 157, 6, 1815), (13, 159, 7, 1816), (13, 389, 3, 1944), (13, 397, 2, 1912), (13, 429, 5, 2001)]
def sm_sl : List (Nat × Nat × Nat × Nat) := [(5, 121, 3, 713), (5, 295, 4, 882), (7, 87, 0, 549), (7, 95, 1, 608), (7, 101, 2, 619), (13, 47, 6, 1763), (13, 49, 7, 1764), (13, 51, 8, 1765), (13, 53, 9, 1766), (13, 55, 10, 1767), (13, 57, 11, 1768), (13, 59, 12, 1769), (13, 61, 13, 1770), (13, 63, 14, 1771), (13, 65, 15, 1772), (13, 67, 16, 1773), (13, 69, 17, 1774), (13, 71, 18, 1775), (13, 73, 19, 1776), (13, 75, 20, 1777), (13, 77, 21, 1793), (13, 79, 22, 1794), (13, 81, 23, 1795), (13, 83, 24, 1796), (13, 85, 25, 1797), (13, 87, 26, 1798), (13, 89, 27, 1799), (13, 91, 28, 1800), (13, 93, 29, 1801), (13, 95, 30, 1802), (13, 97, 31, 1803), (13, 99, 32, 1804), (13, 101, 33, 1805), (13, 103, 34, 1806), (13, 105, 35, 1807), (13, 107, 36, 1808), (13, 109, 37, 1809), (13, 111, 38, 1810), (13, 113, 39, 1811), (13, 222, 40, 1851), (13, 224, 41, 1852), (13, 226, 42, 1853), (13, 228, 43, 1854), (13, 230, 44, 1855), (13, 405, 45, 1985), (13, 407, 46, 1986), (13, 409, 47, 1987), (13, 411, 48, 1988), (13, 413, 49, 1989), (13, 415, 50, 1990), (13, 417, 51, 1991), (13, 419, 52, 1992), (13, 421, 53, 1993), (13, 645, 5, 1495)]
def sm_tl : List (Nat × Nat × Nat × Nat × Nat) := [(0, 41, 1, 0, 298), (0, 50, 1, 1, 303), (0, 53, 1, 2, 305), (1, 9, 1, 3, 846), (5, 297, 1, 4, 883), (13, 10, 1, 5, 1968), (15, 38, 0, 1, 561), (15, 1053, 2, 0, 577)]
end
end
section
section
/-- what a link's word is -/
def sm_flw (q : Nat × Nat × Nat × Nat × Nat) : Cond := .fieldLink (sm_cn q.1) q.2.1 (bif q.2.2.1 == 5 then "java/lang/String" else sm_cR q.2.2.1) (bif q.2.2.1 == 5 then (bif q.2.2.2.1 == 0 then "value" else "coder") else (sm_cT q.2.2.1 q.2.2.2.1).2.1) (bif q.2.2.1 == 5 then (bif q.2.2.2.1 == 0 then "[B" else "B") else (sm_cT q.2.2.1 q.2.2.2.1).2.2.1)
def sm_fnw (q : Nat × Nat × Nat × Nat × Nat) : Cond := .fieldLinkNest (sm_cn q.1) q.2.1 (sm_cR q.2.2.1) (sm_cT q.2.2.1 q.2.2.2.1).2.1 (sm_cT q.2.2.1 q.2.2.2.1).2.2.1 "FreightYardsModel"
def sm_my (n : Nat) : MethodName := match n with
  | 1000 => arraycopyName
  | 1001 => ⟨"java/lang/IllegalStateException", "<init>", "(Ljava/lang/String;)V"⟩
  | 1002 => objectInit
  | _ => sm_y n
def sm_mlw (q : Nat × Nat × Nat × Nat) : Cond := .methodLink (sm_cn q.1) q.2.1 (sm_my q.2.2.1)
def sm_mnw (q : Nat × Nat × Nat × Nat) : Cond := .methodLinkNest (sm_cn q.1) q.2.1 (sm_my q.2.2.1) (bif q.1 == 13 then "FreightYardsModel" else "FreightYards")
def sm_klw (q : Nat × Nat × Nat × Nat) : Cond := .classLink (sm_cn q.1) q.2.1 (bif q.2.2.1 == 24 then "java/lang/IllegalStateException" else sm_cR q.2.2.1)
def sm_ilw (q : Nat × Nat × Nat × Nat) : Cond := .constant (sm_cn q.1) q.2.1 (Int32.ofNat q.2.2.1)
def sm_llw (q : Nat × Nat × Nat × Nat) : Cond := .constantLong (sm_cn q.1) q.2.1 (sm_lg q.2.2.1)
theorem sm_fl_in : sm_fl.all (fun q => decide (lw_tbl[q.2.2.2.2]? = some (sm_flw q))) = true := by decide +kernel
theorem sm_fn_in : sm_fn.all (fun q => decide (lw_tbl[q.2.2.2.2]? = some (sm_fnw q))) = true := by decide +kernel
theorem sm_ml_in : sm_ml.all (fun q => decide (lw_tbl[q.2.2.2]? = some (sm_mlw q))) = true := by decide +kernel
theorem sm_mn_in : sm_mn.all (fun q => decide (lw_tbl[q.2.2.2]? = some (sm_mnw q))) = true := by decide +kernel
theorem sm_kl_in : sm_kl.all (fun q => decide (lw_tbl[q.2.2.2]? = some (sm_klw q))) = true := by decide +kernel
theorem sm_il_in : sm_il.all (fun q => decide (lw_tbl[q.2.2.2]? = some (sm_ilw q))) = true := by decide +kernel
theorem sm_ll_in : sm_ll.all (fun q => decide (lw_tbl[q.2.2.2]? = some (sm_llw q))) = true := by decide +kernel
theorem sm_ps_in : (List.range 308).all (fun n => decide (lw_tbl[sm_ps.getD n 0]? = some (bif sm_kn n == 1 then Cond.static (sm_y n) else .instanceMethod (sm_y n)))) = true := by decide +kernel
theorem sm_pi_in : (List.range 308).all (fun n => decide (lw_tbl[sm_pi.getD n 0]? = some (Cond.initialized (sm_y n).cls))) = true := by decide +kernel
theorem sm_pn_in : (List.range 308).all (fun n => bif sm_kn n == 0 then decide (lw_tbl[sm_pn.getD n 0]? = some (Cond.selects (sm_y n).cls (sm_y n) (sm_y n))) else true) = true := by decide +kernel
end
end
section
section
set_option maxRecDepth 100000 in
theorem kc_0 : sm_cw 0 ∈ lw_tbl := List.mem_of_getElem? (i := 296) rfl
set_option maxRecDepth 100000 in
theorem kc_1 : sm_cw 1 ∈ lw_tbl := List.mem_of_getElem? (i := 684) rfl
set_option maxRecDepth 100000 in
theorem kc_2 : sm_cw 2 ∈ lw_tbl := List.mem_of_getElem? (i := 708) rfl
set_option maxRecDepth 100000 in
theorem kc_3 : sm_cw 3 ∈ lw_tbl := List.mem_of_getElem? (i := 742) rfl
set_option maxRecDepth 100000 in
theorem kc_4 : sm_cw 4 ∈ lw_tbl := List.mem_of_getElem? (i := 771) rfl
set_option maxRecDepth 100000 in
theorem kc_5 : sm_cw 5 ∈ lw_tbl := List.mem_of_getElem? (i := 718) rfl
set_option maxRecDepth 100000 in
theorem kc_6 : sm_cw 6 ∈ lw_tbl := List.mem_of_getElem? (i := 767) rfl
set_option maxRecDepth 100000 in
theorem kc_7 : sm_cw 7 ∈ lw_tbl := List.mem_of_getElem? (i := 775) rfl
set_option maxRecDepth 100000 in
theorem kc_8 : sm_cw 8 ∈ lw_tbl := List.mem_of_getElem? (i := 738) rfl
set_option maxRecDepth 100000 in
theorem kc_9 : sm_cw 9 ∈ lw_tbl := List.mem_of_getElem? (i := 835) rfl
set_option maxRecDepth 100000 in
theorem kc_10 : sm_cw 10 ∈ lw_tbl := List.mem_of_getElem? (i := 855) rfl
set_option maxRecDepth 100000 in
theorem kc_11 : sm_cw 11 ∈ lw_tbl := List.mem_of_getElem? (i := 994) rfl
set_option maxRecDepth 100000 in
theorem kc_12 : sm_cw 12 ∈ lw_tbl := List.mem_of_getElem? (i := 972) rfl
set_option maxRecDepth 100000 in
theorem kc_13 : sm_cw 13 ∈ lw_tbl := List.mem_of_getElem? (i := 819) rfl
set_option maxRecDepth 100000 in
theorem kc_14 : sm_cw 14 ∈ lw_tbl := List.mem_of_getElem? (i := 956) rfl
set_option maxRecDepth 100000 in
theorem kc_15 : sm_cw 15 ∈ lw_tbl := List.mem_of_getElem? (i := 910) rfl
set_option maxRecDepth 100000 in
theorem kc_16 : sm_cw 16 ∈ lw_tbl := List.mem_of_getElem? (i := 926) rfl
set_option maxRecDepth 100000 in
theorem kc_17 : sm_cw 17 ∈ lw_tbl := List.mem_of_getElem? (i := 930) rfl
set_option maxRecDepth 100000 in
theorem kc_18 : sm_cw 18 ∈ lw_tbl := List.mem_of_getElem? (i := 914) rfl
set_option maxRecDepth 100000 in
theorem kc_19 : sm_cw 19 ∈ lw_tbl := List.mem_of_getElem? (i := 999) rfl
set_option maxRecDepth 100000 in
theorem kc_20 : sm_cw 20 ∈ lw_tbl := List.mem_of_getElem? (i := 1003) rfl
set_option maxRecDepth 100000 in
theorem kc_21 : sm_cw 21 ∈ lw_tbl := List.mem_of_getElem? (i := 1301) rfl
set_option maxRecDepth 100000 in
theorem kc_22 : sm_cw 22 ∈ lw_tbl := List.mem_of_getElem? (i := 1061) rfl
set_option maxRecDepth 100000 in
theorem kc_23 : sm_cw 23 ∈ lw_tbl := List.mem_of_getElem? (i := 870) rfl
set_option maxRecDepth 100000 in
theorem kc_24 : sm_cw 24 ∈ lw_tbl := List.mem_of_getElem? (i := 1324) rfl
set_option maxRecDepth 100000 in
theorem kc_25 : sm_cw 25 ∈ lw_tbl := List.mem_of_getElem? (i := 877) rfl
set_option maxRecDepth 100000 in
theorem kc_26 : sm_cw 26 ∈ lw_tbl := List.mem_of_getElem? (i := 842) rfl
set_option maxRecDepth 100000 in
theorem kc_27 : sm_cw 27 ∈ lw_tbl := List.mem_of_getElem? (i := 845) rfl
set_option maxRecDepth 100000 in
theorem kc_28 : sm_cw 28 ∈ lw_tbl := List.mem_of_getElem? (i := 839) rfl
set_option maxRecDepth 100000 in
theorem kc_29 : sm_cw 29 ∈ lw_tbl := List.mem_of_getElem? (i := 891) rfl
set_option maxRecDepth 100000 in
theorem kc_30 : sm_cw 30 ∈ lw_tbl := List.mem_of_getElem? (i := 268) rfl
set_option maxRecDepth 100000 in
theorem kc_31 : sm_cw 31 ∈ lw_tbl := List.mem_of_getElem? (i := 1228) rfl
set_option maxRecDepth 100000 in
theorem kc_32 : sm_cw 32 ∈ lw_tbl := List.mem_of_getElem? (i := 1321) rfl
set_option maxRecDepth 100000 in
theorem kc_33 : sm_cw 33 ∈ lw_tbl := List.mem_of_getElem? (i := 1225) rfl
set_option maxRecDepth 100000 in
theorem kc_34 : sm_cw 34 ∈ lw_tbl := List.mem_of_getElem? (i := 1239) rfl
set_option maxRecDepth 100000 in
theorem kc_35 : sm_cw 35 ∈ lw_tbl := List.mem_of_getElem? (i := 1262) rfl
set_option maxRecDepth 100000 in
theorem kc_36 : sm_cw 36 ∈ lw_tbl := List.mem_of_getElem? (i := 1332) rfl
set_option maxRecDepth 100000 in
theorem kc_37 : sm_cw 37 ∈ lw_tbl := List.mem_of_getElem? (i := 1336) rfl
set_option maxRecDepth 100000 in
theorem kc_38 : sm_cw 38 ∈ lw_tbl := List.mem_of_getElem? (i := 1377) rfl
set_option maxRecDepth 100000 in
theorem kc_39 : sm_cw 39 ∈ lw_tbl := List.mem_of_getElem? (i := 1381) rfl
set_option maxRecDepth 100000 in
theorem kc_40 : sm_cw 40 ∈ lw_tbl := List.mem_of_getElem? (i := 1395) rfl
set_option maxRecDepth 100000 in
theorem kc_41 : sm_cw 41 ∈ lw_tbl := List.mem_of_getElem? (i := 423) rfl
set_option maxRecDepth 100000 in
theorem kc_42 : sm_cw 42 ∈ lw_tbl := List.mem_of_getElem? (i := 977) rfl
set_option maxRecDepth 100000 in
theorem kc_43 : sm_cw 43 ∈ lw_tbl := List.mem_of_getElem? (i := 1296) rfl
set_option maxRecDepth 100000 in
theorem kc_44 : sm_cw 44 ∈ lw_tbl := List.mem_of_getElem? (i := 1309) rfl
set_option maxRecDepth 100000 in
theorem kc_45 : sm_cw 45 ∈ lw_tbl := List.mem_of_getElem? (i := 982) rfl
set_option maxRecDepth 100000 in
theorem kc_46 : sm_cw 46 ∈ lw_tbl := List.mem_of_getElem? (i := 1011) rfl
set_option maxRecDepth 100000 in
theorem kc_47 : sm_cw 47 ∈ lw_tbl := List.mem_of_getElem? (i := 1019) rfl
set_option maxRecDepth 100000 in
theorem kc_48 : sm_cw 48 ∈ lw_tbl := List.mem_of_getElem? (i := 1031) rfl
set_option maxRecDepth 100000 in
theorem kc_49 : sm_cw 49 ∈ lw_tbl := List.mem_of_getElem? (i := 1015) rfl
set_option maxRecDepth 100000 in
theorem kc_50 : sm_cw 50 ∈ lw_tbl := List.mem_of_getElem? (i := 986) rfl
set_option maxRecDepth 100000 in
theorem kc_51 : sm_cw 51 ∈ lw_tbl := List.mem_of_getElem? (i := 1023) rfl
set_option maxRecDepth 100000 in
theorem kc_52 : sm_cw 52 ∈ lw_tbl := List.mem_of_getElem? (i := 990) rfl
set_option maxRecDepth 100000 in
theorem kc_53 : sm_cw 53 ∈ lw_tbl := List.mem_of_getElem? (i := 1052) rfl
set_option maxRecDepth 100000 in
theorem kc_54 : sm_cw 54 ∈ lw_tbl := List.mem_of_getElem? (i := 1056) rfl
set_option maxRecDepth 100000 in
theorem kc_55 : sm_cw 55 ∈ lw_tbl := List.mem_of_getElem? (i := 1007) rfl
set_option maxRecDepth 100000 in
theorem kc_56 : sm_cw 56 ∈ lw_tbl := List.mem_of_getElem? (i := 1027) rfl
set_option maxRecDepth 100000 in
theorem kc_57 : sm_cw 57 ∈ lw_tbl := List.mem_of_getElem? (i := 1291) rfl
set_option maxRecDepth 100000 in
theorem kc_58 : sm_cw 58 ∈ lw_tbl := List.mem_of_getElem? (i := 1035) rfl
set_option maxRecDepth 100000 in
theorem kc_59 : sm_cw 59 ∈ lw_tbl := List.mem_of_getElem? (i := 1065) rfl
set_option maxRecDepth 100000 in
theorem kc_60 : sm_cw 60 ∈ lw_tbl := List.mem_of_getElem? (i := 1069) rfl
set_option maxRecDepth 100000 in
theorem kc_61 : sm_cw 61 ∈ lw_tbl := List.mem_of_getElem? (i := 1086) rfl
set_option maxRecDepth 100000 in
theorem kc_62 : sm_cw 62 ∈ lw_tbl := List.mem_of_getElem? (i := 1100) rfl
set_option maxRecDepth 100000 in
theorem kc_63 : sm_cw 63 ∈ lw_tbl := List.mem_of_getElem? (i := 1121) rfl
set_option maxRecDepth 100000 in
theorem kc_64 : sm_cw 64 ∈ lw_tbl := List.mem_of_getElem? (i := 1129) rfl
set_option maxRecDepth 100000 in
theorem kc_65 : sm_cw 65 ∈ lw_tbl := List.mem_of_getElem? (i := 1133) rfl
set_option maxRecDepth 100000 in
theorem kc_66 : sm_cw 66 ∈ lw_tbl := List.mem_of_getElem? (i := 1179) rfl
set_option maxRecDepth 100000 in
theorem kc_67 : sm_cw 67 ∈ lw_tbl := List.mem_of_getElem? (i := 1217) rfl
set_option maxRecDepth 100000 in
theorem kc_68 : sm_cw 68 ∈ lw_tbl := List.mem_of_getElem? (i := 1221) rfl
set_option maxRecDepth 100000 in
theorem kc_69 : sm_cw 69 ∈ lw_tbl := List.mem_of_getElem? (i := 1235) rfl
set_option maxRecDepth 100000 in
theorem kc_70 : sm_cw 70 ∈ lw_tbl := List.mem_of_getElem? (i := 1244) rfl
set_option maxRecDepth 100000 in
theorem kc_71 : sm_cw 71 ∈ lw_tbl := List.mem_of_getElem? (i := 1258) rfl
set_option maxRecDepth 100000 in
theorem kc_72 : sm_cw 72 ∈ lw_tbl := List.mem_of_getElem? (i := 359) rfl
set_option maxRecDepth 100000 in
theorem kc_73 : sm_cw 73 ∈ lw_tbl := List.mem_of_getElem? (i := 722) rfl
set_option maxRecDepth 100000 in
theorem kc_74 : sm_cw 74 ∈ lw_tbl := List.mem_of_getElem? (i := 754) rfl
set_option maxRecDepth 100000 in
theorem kc_75 : sm_cw 75 ∈ lw_tbl := List.mem_of_getElem? (i := 758) rfl
set_option maxRecDepth 100000 in
theorem kc_76 : sm_cw 76 ∈ lw_tbl := List.mem_of_getElem? (i := 763) rfl
set_option maxRecDepth 100000 in
theorem kc_77 : sm_cw 77 ∈ lw_tbl := List.mem_of_getElem? (i := 783) rfl
set_option maxRecDepth 100000 in
theorem kc_78 : sm_cw 78 ∈ lw_tbl := List.mem_of_getElem? (i := 934) rfl
set_option maxRecDepth 100000 in
theorem kc_79 : sm_cw 79 ∈ lw_tbl := List.mem_of_getElem? (i := 750) rfl
set_option maxRecDepth 100000 in
theorem kc_80 : sm_cw 80 ∈ lw_tbl := List.mem_of_getElem? (i := 863) rfl
set_option maxRecDepth 100000 in
theorem kc_81 : sm_cw 81 ∈ lw_tbl := List.mem_of_getElem? (i := 353) rfl
set_option maxRecDepth 100000 in
theorem kc_82 : sm_cw 82 ∈ lw_tbl := List.mem_of_getElem? (i := 680) rfl
set_option maxRecDepth 100000 in
theorem kc_83 : sm_cw 83 ∈ lw_tbl := List.mem_of_getElem? (i := 700) rfl
set_option maxRecDepth 100000 in
theorem kc_84 : sm_cw 84 ∈ lw_tbl := List.mem_of_getElem? (i := 688) rfl
set_option maxRecDepth 100000 in
theorem kc_85 : sm_cw 85 ∈ lw_tbl := List.mem_of_getElem? (i := 851) rfl
set_option maxRecDepth 100000 in
theorem kc_86 : sm_cw 86 ∈ lw_tbl := List.mem_of_getElem? (i := 696) rfl
set_option maxRecDepth 100000 in
theorem kc_87 : sm_cw 87 ∈ lw_tbl := List.mem_of_getElem? (i := 827) rfl
set_option maxRecDepth 100000 in
theorem kc_88 : sm_cw 88 ∈ lw_tbl := List.mem_of_getElem? (i := 692) rfl
set_option maxRecDepth 100000 in
theorem kc_89 : sm_cw 89 ∈ lw_tbl := List.mem_of_getElem? (i := 704) rfl
set_option maxRecDepth 100000 in
theorem kc_90 : sm_cw 90 ∈ lw_tbl := List.mem_of_getElem? (i := 712) rfl
set_option maxRecDepth 100000 in
theorem kc_91 : sm_cw 91 ∈ lw_tbl := List.mem_of_getElem? (i := 726) rfl
set_option maxRecDepth 100000 in
theorem kc_92 : sm_cw 92 ∈ lw_tbl := List.mem_of_getElem? (i := 746) rfl
set_option maxRecDepth 100000 in
theorem kc_93 : sm_cw 93 ∈ lw_tbl := List.mem_of_getElem? (i := 730) rfl
set_option maxRecDepth 100000 in
theorem kc_94 : sm_cw 94 ∈ lw_tbl := List.mem_of_getElem? (i := 734) rfl
set_option maxRecDepth 100000 in
theorem kc_95 : sm_cw 95 ∈ lw_tbl := List.mem_of_getElem? (i := 779) rfl
set_option maxRecDepth 100000 in
theorem kc_96 : sm_cw 96 ∈ lw_tbl := List.mem_of_getElem? (i := 787) rfl
set_option maxRecDepth 100000 in
theorem kc_97 : sm_cw 97 ∈ lw_tbl := List.mem_of_getElem? (i := 791) rfl
set_option maxRecDepth 100000 in
theorem kc_98 : sm_cw 98 ∈ lw_tbl := List.mem_of_getElem? (i := 952) rfl
set_option maxRecDepth 100000 in
theorem kc_99 : sm_cw 99 ∈ lw_tbl := List.mem_of_getElem? (i := 906) rfl
set_option maxRecDepth 100000 in
theorem kc_100 : sm_cw 100 ∈ lw_tbl := List.mem_of_getElem? (i := 902) rfl
set_option maxRecDepth 100000 in
theorem kc_101 : sm_cw 101 ∈ lw_tbl := List.mem_of_getElem? (i := 918) rfl
set_option maxRecDepth 100000 in
theorem kc_102 : sm_cw 102 ∈ lw_tbl := List.mem_of_getElem? (i := 922) rfl
set_option maxRecDepth 100000 in
theorem kc_103 : sm_cw 103 ∈ lw_tbl := List.mem_of_getElem? (i := 940) rfl
set_option maxRecDepth 100000 in
theorem kc_104 : sm_cw 104 ∈ lw_tbl := List.mem_of_getElem? (i := 944) rfl
set_option maxRecDepth 100000 in
theorem kc_105 : sm_cw 105 ∈ lw_tbl := List.mem_of_getElem? (i := 948) rfl
set_option maxRecDepth 100000 in
theorem kc_106 : sm_cw 106 ∈ lw_tbl := List.mem_of_getElem? (i := 795) rfl
set_option maxRecDepth 100000 in
theorem kc_107 : sm_cw 107 ∈ lw_tbl := List.mem_of_getElem? (i := 799) rfl
set_option maxRecDepth 100000 in
theorem kc_108 : sm_cw 108 ∈ lw_tbl := List.mem_of_getElem? (i := 803) rfl
set_option maxRecDepth 100000 in
theorem kc_109 : sm_cw 109 ∈ lw_tbl := List.mem_of_getElem? (i := 897) rfl
set_option maxRecDepth 100000 in
theorem kc_110 : sm_cw 110 ∈ lw_tbl := List.mem_of_getElem? (i := 807) rfl
set_option maxRecDepth 100000 in
theorem kc_111 : sm_cw 111 ∈ lw_tbl := List.mem_of_getElem? (i := 811) rfl
set_option maxRecDepth 100000 in
theorem kc_112 : sm_cw 112 ∈ lw_tbl := List.mem_of_getElem? (i := 815) rfl
set_option maxRecDepth 100000 in
theorem kc_113 : sm_cw 113 ∈ lw_tbl := List.mem_of_getElem? (i := 859) rfl
set_option maxRecDepth 100000 in
theorem kc_114 : sm_cw 114 ∈ lw_tbl := List.mem_of_getElem? (i := 823) rfl
set_option maxRecDepth 100000 in
theorem kc_115 : sm_cw 115 ∈ lw_tbl := List.mem_of_getElem? (i := 831) rfl
set_option maxRecDepth 100000 in
theorem kc_116 : sm_cw 116 ∈ lw_tbl := List.mem_of_getElem? (i := 867) rfl
set_option maxRecDepth 100000 in
theorem kc_117 : sm_cw 117 ∈ lw_tbl := List.mem_of_getElem? (i := 874) rfl
set_option maxRecDepth 100000 in
theorem kc_118 : sm_cw 118 ∈ lw_tbl := List.mem_of_getElem? (i := 881) rfl
set_option maxRecDepth 100000 in
theorem kc_119 : sm_cw 119 ∈ lw_tbl := List.mem_of_getElem? (i := 888) rfl
set_option maxRecDepth 100000 in
theorem kc_120 : sm_cw 120 ∈ lw_tbl := List.mem_of_getElem? (i := 1192) rfl
set_option maxRecDepth 100000 in
theorem kc_121 : sm_cw 121 ∈ lw_tbl := List.mem_of_getElem? (i := 1074) rfl
set_option maxRecDepth 100000 in
theorem kc_122 : sm_cw 122 ∈ lw_tbl := List.mem_of_getElem? (i := 1078) rfl
set_option maxRecDepth 100000 in
theorem kc_123 : sm_cw 123 ∈ lw_tbl := List.mem_of_getElem? (i := 1096) rfl
set_option maxRecDepth 100000 in
theorem kc_124 : sm_cw 124 ∈ lw_tbl := List.mem_of_getElem? (i := 1091) rfl
set_option maxRecDepth 100000 in
theorem kc_125 : sm_cw 125 ∈ lw_tbl := List.mem_of_getElem? (i := 1248) rfl
set_option maxRecDepth 100000 in
theorem kc_126 : sm_cw 126 ∈ lw_tbl := List.mem_of_getElem? (i := 1253) rfl
set_option maxRecDepth 100000 in
theorem kc_127 : sm_cw 127 ∈ lw_tbl := List.mem_of_getElem? (i := 1348) rfl
set_option maxRecDepth 100000 in
theorem kc_128 : sm_cw 128 ∈ lw_tbl := List.mem_of_getElem? (i := 1355) rfl
set_option maxRecDepth 100000 in
theorem kc_129 : sm_cw 129 ∈ lw_tbl := List.mem_of_getElem? (i := 199) rfl
set_option maxRecDepth 100000 in
theorem kc_130 : sm_cw 130 ∈ lw_tbl := List.mem_of_getElem? (i := 512) rfl
set_option maxRecDepth 100000 in
theorem kc_131 : sm_cw 131 ∈ lw_tbl := List.mem_of_getElem? (i := 516) rfl
set_option maxRecDepth 100000 in
theorem kc_132 : sm_cw 132 ∈ lw_tbl := List.mem_of_getElem? (i := 524) rfl
set_option maxRecDepth 100000 in
theorem kc_133 : sm_cw 133 ∈ lw_tbl := List.mem_of_getElem? (i := 552) rfl
set_option maxRecDepth 100000 in
theorem kc_134 : sm_cw 134 ∈ lw_tbl := List.mem_of_getElem? (i := 548) rfl
set_option maxRecDepth 100000 in
theorem kc_135 : sm_cw 135 ∈ lw_tbl := List.mem_of_getElem? (i := 538) rfl
set_option maxRecDepth 100000 in
theorem kc_136 : sm_cw 136 ∈ lw_tbl := List.mem_of_getElem? (i := 603) rfl
set_option maxRecDepth 100000 in
theorem kc_137 : sm_cw 137 ∈ lw_tbl := List.mem_of_getElem? (i := 545) rfl
set_option maxRecDepth 100000 in
theorem kc_138 : sm_cw 138 ∈ lw_tbl := List.mem_of_getElem? (i := 535) rfl
set_option maxRecDepth 100000 in
theorem kc_139 : sm_cw 139 ∈ lw_tbl := List.mem_of_getElem? (i := 531) rfl
set_option maxRecDepth 100000 in
theorem kc_140 : sm_cw 140 ∈ lw_tbl := List.mem_of_getElem? (i := 542) rfl
set_option maxRecDepth 100000 in
theorem kc_141 : sm_cw 141 ∈ lw_tbl := List.mem_of_getElem? (i := 607) rfl
set_option maxRecDepth 100000 in
theorem kc_142 : sm_cw 142 ∈ lw_tbl := List.mem_of_getElem? (i := 613) rfl
set_option maxRecDepth 100000 in
theorem kc_143 : sm_cw 143 ∈ lw_tbl := List.mem_of_getElem? (i := 618) rfl
set_option maxRecDepth 100000 in
theorem kc_144 : sm_cw 144 ∈ lw_tbl := List.mem_of_getElem? (i := 1266) rfl
set_option maxRecDepth 100000 in
theorem kc_145 : sm_cw 145 ∈ lw_tbl := List.mem_of_getElem? (i := 1340) rfl
set_option maxRecDepth 100000 in
theorem kc_146 : sm_cw 146 ∈ lw_tbl := List.mem_of_getElem? (i := 1344) rfl
set_option maxRecDepth 100000 in
theorem kc_147 : sm_cw 147 ∈ lw_tbl := List.mem_of_getElem? (i := 1145) rfl
set_option maxRecDepth 100000 in
theorem kc_148 : sm_cw 148 ∈ lw_tbl := List.mem_of_getElem? (i := 959) rfl
set_option maxRecDepth 100000 in
theorem kc_149 : sm_cw 149 ∈ lw_tbl := List.mem_of_getElem? (i := 1104) rfl
set_option maxRecDepth 100000 in
theorem kc_150 : sm_cw 150 ∈ lw_tbl := List.mem_of_getElem? (i := 1125) rfl
set_option maxRecDepth 100000 in
theorem kc_151 : sm_cw 151 ∈ lw_tbl := List.mem_of_getElem? (i := 1368) rfl
set_option maxRecDepth 100000 in
theorem kc_152 : sm_cw 152 ∈ lw_tbl := List.mem_of_getElem? (i := 1359) rfl
set_option maxRecDepth 100000 in
theorem kc_153 : sm_cw 153 ∈ lw_tbl := List.mem_of_getElem? (i := 1109) rfl
set_option maxRecDepth 100000 in
theorem kc_154 : sm_cw 154 ∈ lw_tbl := List.mem_of_getElem? (i := 1113) rfl
set_option maxRecDepth 100000 in
theorem kc_155 : sm_cw 155 ∈ lw_tbl := List.mem_of_getElem? (i := 1117) rfl
set_option maxRecDepth 100000 in
theorem kc_156 : sm_cw 156 ∈ lw_tbl := List.mem_of_getElem? (i := 238) rfl
set_option maxRecDepth 100000 in
theorem kc_157 : sm_cw 157 ∈ lw_tbl := List.mem_of_getElem? (i := 1137) rfl
set_option maxRecDepth 100000 in
theorem kc_158 : sm_cw 158 ∈ lw_tbl := List.mem_of_getElem? (i := 1183) rfl
set_option maxRecDepth 100000 in
theorem kc_159 : sm_cw 159 ∈ lw_tbl := List.mem_of_getElem? (i := 1141) rfl
set_option maxRecDepth 100000 in
theorem kc_160 : sm_cw 160 ∈ lw_tbl := List.mem_of_getElem? (i := 1187) rfl
set_option maxRecDepth 100000 in
theorem kc_161 : sm_cw 161 ∈ lw_tbl := List.mem_of_getElem? (i := 1047) rfl
set_option maxRecDepth 100000 in
theorem kc_162 : sm_cw 162 ∈ lw_tbl := List.mem_of_getElem? (i := 1043) rfl
set_option maxRecDepth 100000 in
theorem kc_163 : sm_cw 163 ∈ lw_tbl := List.mem_of_getElem? (i := 1082) rfl
set_option maxRecDepth 100000 in
theorem kc_164 : sm_cw 164 ∈ lw_tbl := List.mem_of_getElem? (i := 1231) rfl
set_option maxRecDepth 100000 in
theorem kc_165 : sm_cw 165 ∈ lw_tbl := List.mem_of_getElem? (i := 1039) rfl
set_option maxRecDepth 100000 in
theorem kc_166 : sm_cw 166 ∈ lw_tbl := List.mem_of_getElem? (i := 191) rfl
set_option maxRecDepth 100000 in
theorem kc_167 : sm_cw 167 ∈ lw_tbl := List.mem_of_getElem? (i := 508) rfl
set_option maxRecDepth 100000 in
theorem kc_168 : sm_cw 168 ∈ lw_tbl := List.mem_of_getElem? (i := 520) rfl
set_option maxRecDepth 100000 in
theorem kc_169 : sm_cw 169 ∈ lw_tbl := List.mem_of_getElem? (i := 964) rfl
set_option maxRecDepth 100000 in
theorem kc_170 : sm_cw 170 ∈ lw_tbl := List.mem_of_getElem? (i := 968) rfl
set_option maxRecDepth 100000 in
theorem kc_171 : sm_cw 171 ∈ lw_tbl := List.mem_of_getElem? (i := 1305) rfl
set_option maxRecDepth 100000 in
theorem kc_172 : sm_cw 172 ∈ lw_tbl := List.mem_of_getElem? (i := 1313) rfl
set_option maxRecDepth 100000 in
theorem kc_173 : sm_cw 173 ∈ lw_tbl := List.mem_of_getElem? (i := 1317) rfl
set_option maxRecDepth 100000 in
theorem kc_174 : sm_cw 174 ∈ lw_tbl := List.mem_of_getElem? (i := 1328) rfl
set_option maxRecDepth 100000 in
theorem kc_175 : sm_cw 175 ∈ lw_tbl := List.mem_of_getElem? (i := 1364) rfl
set_option maxRecDepth 100000 in
theorem kc_176 : sm_cw 176 ∈ lw_tbl := List.mem_of_getElem? (i := 1373) rfl
set_option maxRecDepth 100000 in
theorem kc_177 : sm_cw 177 ∈ lw_tbl := List.mem_of_getElem? (i := 1385) rfl
set_option maxRecDepth 100000 in
theorem kc_178 : sm_cw 178 ∈ lw_tbl := List.mem_of_getElem? (i := 1391) rfl
set_option maxRecDepth 100000 in
theorem kc_179 : sm_cw 179 ∈ lw_tbl := List.mem_of_getElem? (i := 1400) rfl
set_option maxRecDepth 100000 in
theorem kc_180 : sm_cw 180 ∈ lw_tbl := List.mem_of_getElem? (i := 1411) rfl
set_option maxRecDepth 100000 in
theorem kc_181 : sm_cw 181 ∈ lw_tbl := List.mem_of_getElem? (i := 1967) rfl
set_option maxRecDepth 100000 in
theorem kc_182 : sm_cw 182 ∈ lw_tbl := List.mem_of_getElem? (i := 1964) rfl
set_option maxRecDepth 100000 in
theorem kc_183 : sm_cw 183 ∈ lw_tbl := List.mem_of_getElem? (i := 1943) rfl
set_option maxRecDepth 100000 in
theorem kc_184 : sm_cw 184 ∈ lw_tbl := List.mem_of_getElem? (i := 1961) rfl
set_option maxRecDepth 100000 in
theorem kc_185 : sm_cw 185 ∈ lw_tbl := List.mem_of_getElem? (i := 1958) rfl
set_option maxRecDepth 100000 in
theorem kc_186 : sm_cw 186 ∈ lw_tbl := List.mem_of_getElem? (i := 2004) rfl
set_option maxRecDepth 100000 in
theorem kc_187 : sm_cw 187 ∈ lw_tbl := List.mem_of_getElem? (i := 1749) rfl
set_option maxRecDepth 100000 in
theorem kc_188 : sm_cw 188 ∈ lw_tbl := List.mem_of_getElem? (i := 1785) rfl
set_option maxRecDepth 100000 in
theorem kc_189 : sm_cw 189 ∈ lw_tbl := List.mem_of_getElem? (i := 1756) rfl
set_option maxRecDepth 100000 in
theorem kc_190 : sm_cw 190 ∈ lw_tbl := List.mem_of_getElem? (i := 1742) rfl
set_option maxRecDepth 100000 in
theorem kc_191 : sm_cw 191 ∈ lw_tbl := List.mem_of_getElem? (i := 1780) rfl
set_option maxRecDepth 100000 in
theorem kc_192 : sm_cw 192 ∈ lw_tbl := List.mem_of_getElem? (i := 1759) rfl
set_option maxRecDepth 100000 in
theorem kc_193 : sm_cw 193 ∈ lw_tbl := List.mem_of_getElem? (i := 1762) rfl
set_option maxRecDepth 100000 in
theorem kc_194 : sm_cw 194 ∈ lw_tbl := List.mem_of_getElem? (i := 1792) rfl
set_option maxRecDepth 100000 in
theorem kc_195 : sm_cw 195 ∈ lw_tbl := List.mem_of_getElem? (i := 1789) rfl
set_option maxRecDepth 100000 in
theorem kc_196 : sm_cw 196 ∈ lw_tbl := List.mem_of_getElem? (i := 1738) rfl
set_option maxRecDepth 100000 in
theorem kc_197 : sm_cw 197 ∈ lw_tbl := List.mem_of_getElem? (i := 1746) rfl
set_option maxRecDepth 100000 in
theorem kc_198 : sm_cw 198 ∈ lw_tbl := List.mem_of_getElem? (i := 1819) rfl
set_option maxRecDepth 100000 in
theorem kc_199 : sm_cw 199 ∈ lw_tbl := List.mem_of_getElem? (i := 1753) rfl
set_option maxRecDepth 100000 in
theorem kc_200 : sm_cw 200 ∈ lw_tbl := List.mem_of_getElem? (i := 1839) rfl
set_option maxRecDepth 100000 in
theorem kc_201 : sm_cw 201 ∈ lw_tbl := List.mem_of_getElem? (i := 1835) rfl
set_option maxRecDepth 100000 in
theorem kc_202 : sm_cw 202 ∈ lw_tbl := List.mem_of_getElem? (i := 1940) rfl
set_option maxRecDepth 100000 in
theorem kc_203 : sm_cw 203 ∈ lw_tbl := List.mem_of_getElem? (i := 1843) rfl
set_option maxRecDepth 100000 in
theorem kc_204 : sm_cw 204 ∈ lw_tbl := List.mem_of_getElem? (i := 1863) rfl
set_option maxRecDepth 100000 in
theorem kc_205 : sm_cw 205 ∈ lw_tbl := List.mem_of_getElem? (i := 1831) rfl
set_option maxRecDepth 100000 in
theorem kc_206 : sm_cw 206 ∈ lw_tbl := List.mem_of_getElem? (i := 1859) rfl
set_option maxRecDepth 100000 in
theorem kc_207 : sm_cw 207 ∈ lw_tbl := List.mem_of_getElem? (i := 1907) rfl
set_option maxRecDepth 100000 in
theorem kc_208 : sm_cw 208 ∈ lw_tbl := List.mem_of_getElem? (i := 1823) rfl
set_option maxRecDepth 100000 in
theorem kc_209 : sm_cw 209 ∈ lw_tbl := List.mem_of_getElem? (i := 1850) rfl
set_option maxRecDepth 100000 in
theorem kc_210 : sm_cw 210 ∈ lw_tbl := List.mem_of_getElem? (i := 1847) rfl
set_option maxRecDepth 100000 in
theorem kc_211 : sm_cw 211 ∈ lw_tbl := List.mem_of_getElem? (i := 1827) rfl
set_option maxRecDepth 100000 in
theorem kc_212 : sm_cw 212 ∈ lw_tbl := List.mem_of_getElem? (i := 1867) rfl
set_option maxRecDepth 100000 in
theorem kc_213 : sm_cw 213 ∈ lw_tbl := List.mem_of_getElem? (i := 1875) rfl
set_option maxRecDepth 100000 in
theorem kc_214 : sm_cw 214 ∈ lw_tbl := List.mem_of_getElem? (i := 1879) rfl
set_option maxRecDepth 100000 in
theorem kc_215 : sm_cw 215 ∈ lw_tbl := List.mem_of_getElem? (i := 2012) rfl
set_option maxRecDepth 100000 in
theorem kc_216 : sm_cw 216 ∈ lw_tbl := List.mem_of_getElem? (i := 1871) rfl
set_option maxRecDepth 100000 in
theorem kc_217 : sm_cw 217 ∈ lw_tbl := List.mem_of_getElem? (i := 1883) rfl
set_option maxRecDepth 100000 in
theorem kc_218 : sm_cw 218 ∈ lw_tbl := List.mem_of_getElem? (i := 1887) rfl
set_option maxRecDepth 100000 in
theorem kc_219 : sm_cw 219 ∈ lw_tbl := List.mem_of_getElem? (i := 2008) rfl
set_option maxRecDepth 100000 in
theorem kc_220 : sm_cw 220 ∈ lw_tbl := List.mem_of_getElem? (i := 2020) rfl
set_option maxRecDepth 100000 in
theorem kc_221 : sm_cw 221 ∈ lw_tbl := List.mem_of_getElem? (i := 2016) rfl
set_option maxRecDepth 100000 in
theorem kc_222 : sm_cw 222 ∈ lw_tbl := List.mem_of_getElem? (i := 2024) rfl
set_option maxRecDepth 100000 in
theorem kc_223 : sm_cw 223 ∈ lw_tbl := List.mem_of_getElem? (i := 2028) rfl
set_option maxRecDepth 100000 in
theorem kc_224 : sm_cw 224 ∈ lw_tbl := List.mem_of_getElem? (i := 2032) rfl
set_option maxRecDepth 100000 in
theorem kc_225 : sm_cw 225 ∈ lw_tbl := List.mem_of_getElem? (i := 2036) rfl
set_option maxRecDepth 100000 in
theorem kc_226 : sm_cw 226 ∈ lw_tbl := List.mem_of_getElem? (i := 1973) rfl
set_option maxRecDepth 100000 in
theorem kc_227 : sm_cw 227 ∈ lw_tbl := List.mem_of_getElem? (i := 1936) rfl
set_option maxRecDepth 100000 in
theorem kc_228 : sm_cw 228 ∈ lw_tbl := List.mem_of_getElem? (i := 1891) rfl
set_option maxRecDepth 100000 in
theorem kc_229 : sm_cw 229 ∈ lw_tbl := List.mem_of_getElem? (i := 1916) rfl
set_option maxRecDepth 100000 in
theorem kc_230 : sm_cw 230 ∈ lw_tbl := List.mem_of_getElem? (i := 1920) rfl
set_option maxRecDepth 100000 in
theorem kc_231 : sm_cw 231 ∈ lw_tbl := List.mem_of_getElem? (i := 1924) rfl
set_option maxRecDepth 100000 in
theorem kc_232 : sm_cw 232 ∈ lw_tbl := List.mem_of_getElem? (i := 1928) rfl
set_option maxRecDepth 100000 in
theorem kc_233 : sm_cw 233 ∈ lw_tbl := List.mem_of_getElem? (i := 1932) rfl
set_option maxRecDepth 100000 in
theorem kc_234 : sm_cw 234 ∈ lw_tbl := List.mem_of_getElem? (i := 1895) rfl
set_option maxRecDepth 100000 in
theorem kc_235 : sm_cw 235 ∈ lw_tbl := List.mem_of_getElem? (i := 1903) rfl
set_option maxRecDepth 100000 in
theorem kc_236 : sm_cw 236 ∈ lw_tbl := List.mem_of_getElem? (i := 1899) rfl
set_option maxRecDepth 100000 in
theorem kc_237 : sm_cw 237 ∈ lw_tbl := List.mem_of_getElem? (i := 1911) rfl
set_option maxRecDepth 100000 in
theorem kc_238 : sm_cw 238 ∈ lw_tbl := List.mem_of_getElem? (i := 1951) rfl
set_option maxRecDepth 100000 in
theorem kc_239 : sm_cw 239 ∈ lw_tbl := List.mem_of_getElem? (i := 1955) rfl
set_option maxRecDepth 100000 in
theorem kc_240 : sm_cw 240 ∈ lw_tbl := List.mem_of_getElem? (i := 1948) rfl
set_option maxRecDepth 100000 in
theorem kc_241 : sm_cw 241 ∈ lw_tbl := List.mem_of_getElem? (i := 1977) rfl
set_option maxRecDepth 100000 in
theorem kc_242 : sm_cw 242 ∈ lw_tbl := List.mem_of_getElem? (i := 1984) rfl
set_option maxRecDepth 100000 in
theorem kc_243 : sm_cw 243 ∈ lw_tbl := List.mem_of_getElem? (i := 1996) rfl
set_option maxRecDepth 100000 in
theorem kc_244 : sm_cw 244 ∈ lw_tbl := List.mem_of_getElem? (i := 1981) rfl
set_option maxRecDepth 100000 in
theorem kc_245 : sm_cw 245 ∈ lw_tbl := List.mem_of_getElem? (i := 2000) rfl
set_option maxRecDepth 100000 in
theorem kc_246 : sm_cw 246 ∈ lw_tbl := List.mem_of_getElem? (i := 2092) rfl
set_option maxRecDepth 100000 in
theorem kc_247 : sm_cw 247 ∈ lw_tbl := List.mem_of_getElem? (i := 2095) rfl
set_option maxRecDepth 100000 in
theorem kc_248 : sm_cw 248 ∈ lw_tbl := List.mem_of_getElem? (i := 2088) rfl
set_option maxRecDepth 100000 in
theorem kc_249 : sm_cw 249 ∈ lw_tbl := List.mem_of_getElem? (i := 2103) rfl
set_option maxRecDepth 100000 in
theorem kc_250 : sm_cw 250 ∈ lw_tbl := List.mem_of_getElem? (i := 2107) rfl
set_option maxRecDepth 100000 in
theorem kc_251 : sm_cw 251 ∈ lw_tbl := List.mem_of_getElem? (i := 2111) rfl
set_option maxRecDepth 100000 in
theorem kc_252 : sm_cw 252 ∈ lw_tbl := List.mem_of_getElem? (i := 2099) rfl
set_option maxRecDepth 100000 in
theorem kc_253 : sm_cw 253 ∈ lw_tbl := List.mem_of_getElem? (i := 2068) rfl
set_option maxRecDepth 100000 in
theorem kc_254 : sm_cw 254 ∈ lw_tbl := List.mem_of_getElem? (i := 2072) rfl
set_option maxRecDepth 100000 in
theorem kc_255 : sm_cw 255 ∈ lw_tbl := List.mem_of_getElem? (i := 2060) rfl
set_option maxRecDepth 100000 in
theorem kc_256 : sm_cw 256 ∈ lw_tbl := List.mem_of_getElem? (i := 2080) rfl
set_option maxRecDepth 100000 in
theorem kc_257 : sm_cw 257 ∈ lw_tbl := List.mem_of_getElem? (i := 2150) rfl
set_option maxRecDepth 100000 in
theorem kc_258 : sm_cw 258 ∈ lw_tbl := List.mem_of_getElem? (i := 2052) rfl
set_option maxRecDepth 100000 in
theorem kc_259 : sm_cw 259 ∈ lw_tbl := List.mem_of_getElem? (i := 2123) rfl
set_option maxRecDepth 100000 in
theorem kc_260 : sm_cw 260 ∈ lw_tbl := List.mem_of_getElem? (i := 2056) rfl
set_option maxRecDepth 100000 in
theorem kc_261 : sm_cw 261 ∈ lw_tbl := List.mem_of_getElem? (i := 2064) rfl
set_option maxRecDepth 100000 in
theorem kc_262 : sm_cw 262 ∈ lw_tbl := List.mem_of_getElem? (i := 2154) rfl
set_option maxRecDepth 100000 in
theorem kc_263 : sm_cw 263 ∈ lw_tbl := List.mem_of_getElem? (i := 2146) rfl
set_option maxRecDepth 100000 in
theorem kc_264 : sm_cw 264 ∈ lw_tbl := List.mem_of_getElem? (i := 2076) rfl
set_option maxRecDepth 100000 in
theorem kc_265 : sm_cw 265 ∈ lw_tbl := List.mem_of_getElem? (i := 2084) rfl
set_option maxRecDepth 100000 in
theorem kc_266 : sm_cw 266 ∈ lw_tbl := List.mem_of_getElem? (i := 2115) rfl
set_option maxRecDepth 100000 in
theorem kc_267 : sm_cw 267 ∈ lw_tbl := List.mem_of_getElem? (i := 2119) rfl
set_option maxRecDepth 100000 in
theorem kc_268 : sm_cw 268 ∈ lw_tbl := List.mem_of_getElem? (i := 2130) rfl
set_option maxRecDepth 100000 in
theorem kc_269 : sm_cw 269 ∈ lw_tbl := List.mem_of_getElem? (i := 2134) rfl
set_option maxRecDepth 100000 in
theorem kc_270 : sm_cw 270 ∈ lw_tbl := List.mem_of_getElem? (i := 2127) rfl
set_option maxRecDepth 100000 in
theorem kc_271 : sm_cw 271 ∈ lw_tbl := List.mem_of_getElem? (i := 2138) rfl
set_option maxRecDepth 100000 in
theorem kc_272 : sm_cw 272 ∈ lw_tbl := List.mem_of_getElem? (i := 2142) rfl
set_option maxRecDepth 100000 in
theorem kc_273 : sm_cw 273 ∈ lw_tbl := List.mem_of_getElem? (i := 2182) rfl
set_option maxRecDepth 100000 in
theorem kc_274 : sm_cw 274 ∈ lw_tbl := List.mem_of_getElem? (i := 2178) rfl
set_option maxRecDepth 100000 in
theorem kc_275 : sm_cw 275 ∈ lw_tbl := List.mem_of_getElem? (i := 2186) rfl
set_option maxRecDepth 100000 in
theorem kc_276 : sm_cw 276 ∈ lw_tbl := List.mem_of_getElem? (i := 2174) rfl
set_option maxRecDepth 100000 in
theorem kc_277 : sm_cw 277 ∈ lw_tbl := List.mem_of_getElem? (i := 1405) rfl
set_option maxRecDepth 100000 in
theorem kc_278 : sm_cw 278 ∈ lw_tbl := List.mem_of_getElem? (i := 1730) rfl
set_option maxRecDepth 100000 in
theorem kc_279 : sm_cw 279 ∈ lw_tbl := List.mem_of_getElem? (i := 1726) rfl
set_option maxRecDepth 100000 in
theorem kc_280 : sm_cw 280 ∈ lw_tbl := List.mem_of_getElem? (i := 1734) rfl
set_option maxRecDepth 100000 in
theorem kc_281 : sm_cw 281 ∈ lw_tbl := List.mem_of_getElem? (i := 2040) rfl
set_option maxRecDepth 100000 in
theorem kc_282 : sm_cw 282 ∈ lw_tbl := List.mem_of_getElem? (i := 2048) rfl
set_option maxRecDepth 100000 in
theorem kc_283 : sm_cw 283 ∈ lw_tbl := List.mem_of_getElem? (i := 2044) rfl
set_option maxRecDepth 100000 in
theorem kc_284 : sm_cw 284 ∈ lw_tbl := List.mem_of_getElem? (i := 2158) rfl
set_option maxRecDepth 100000 in
theorem kc_285 : sm_cw 285 ∈ lw_tbl := List.mem_of_getElem? (i := 2162) rfl
set_option maxRecDepth 100000 in
theorem kc_286 : sm_cw 286 ∈ lw_tbl := List.mem_of_getElem? (i := 2166) rfl
set_option maxRecDepth 100000 in
theorem kc_287 : sm_cw 287 ∈ lw_tbl := List.mem_of_getElem? (i := 2170) rfl
set_option maxRecDepth 100000 in
theorem kc_288 : sm_cw 288 ∈ lw_tbl := List.mem_of_getElem? (i := 2190) rfl
set_option maxRecDepth 100000 in
theorem kc_289 : sm_cw 289 ∈ lw_tbl := List.mem_of_getElem? (i := 2198) rfl
set_option maxRecDepth 100000 in
theorem kc_290 : sm_cw 290 ∈ lw_tbl := List.mem_of_getElem? (i := 2194) rfl
set_option maxRecDepth 100000 in
theorem kc_291 : sm_cw 291 ∈ lw_tbl := List.mem_of_getElem? (i := 2202) rfl
set_option maxRecDepth 100000 in
theorem kc_292 : sm_cw 292 ∈ lw_tbl := List.mem_of_getElem? (i := 2206) rfl
set_option maxRecDepth 100000 in
theorem kc_293 : sm_cw 293 ∈ lw_tbl := List.mem_of_getElem? (i := 2210) rfl
set_option maxRecDepth 100000 in
theorem kc_294 : sm_cw 294 ∈ lw_tbl := List.mem_of_getElem? (i := 556) rfl
set_option maxRecDepth 100000 in
theorem kc_295 : sm_cw 295 ∈ lw_tbl := List.mem_of_getElem? (i := 566) rfl
set_option maxRecDepth 100000 in
theorem kc_296 : sm_cw 296 ∈ lw_tbl := List.mem_of_getElem? (i := 623) rfl
set_option maxRecDepth 100000 in
theorem kc_297 : sm_cw 297 ∈ lw_tbl := List.mem_of_getElem? (i := 627) rfl
set_option maxRecDepth 100000 in
theorem kc_298 : sm_cw 298 ∈ lw_tbl := List.mem_of_getElem? (i := 560) rfl
set_option maxRecDepth 100000 in
theorem kc_299 : sm_cw 299 ∈ lw_tbl := List.mem_of_getElem? (i := 570) rfl
set_option maxRecDepth 100000 in
theorem kc_300 : sm_cw 300 ∈ lw_tbl := List.mem_of_getElem? (i := 576) rfl
set_option maxRecDepth 100000 in
theorem kc_301 : sm_cw 301 ∈ lw_tbl := List.mem_of_getElem? (i := 573) rfl
set_option maxRecDepth 100000 in
theorem kc_302 : sm_cw 302 ∈ lw_tbl := List.mem_of_getElem? (i := 634) rfl
set_option maxRecDepth 100000 in
theorem kc_303 : sm_cw 303 ∈ lw_tbl := List.mem_of_getElem? (i := 631) rfl
set_option maxRecDepth 100000 in
theorem kc_304 : sm_cw 304 ∈ lw_tbl := List.mem_of_getElem? (i := 641) rfl
set_option maxRecDepth 100000 in
theorem kc_305 : sm_cw 305 ∈ lw_tbl := List.mem_of_getElem? (i := 581) rfl
set_option maxRecDepth 100000 in
theorem kc_306 : sm_cw 306 ∈ lw_tbl := List.mem_of_getElem? (i := 637) rfl
set_option maxRecDepth 100000 in
theorem kc_307 : sm_cw 307 ∈ lw_tbl := List.mem_of_getElem? (i := 527) rfl
theorem sm_cw_in : ∀ n, n < 308 → sm_cw n ∈ lw_tbl := by
  intro n h
  match n, h with
  | 0, _ => exact kc_0
  | 1, _ => exact kc_1
  | 2, _ => exact kc_2
  | 3, _ => exact kc_3
  | 4, _ => exact kc_4
  | 5, _ => exact kc_5
  | 6, _ => exact kc_6
  | 7, _ => exact kc_7
  | 8, _ => exact kc_8
  | 9, _ => exact kc_9
  | 10, _ => exact kc_10
  | 11, _ => exact kc_11
  | 12, _ => exact kc_12
  | 13, _ => exact kc_13
  | 14, _ => exact kc_14
  | 15, _ => exact kc_15
  | 16, _ => exact kc_16
  | 17, _ => exact kc_17
  | 18, _ => exact kc_18
  | 19, _ => exact kc_19
  | 20, _ => exact kc_20
  | 21, _ => exact kc_21
  | 22, _ => exact kc_22
  | 23, _ => exact kc_23
  | 24, _ => exact kc_24
  | 25, _ => exact kc_25
  | 26, _ => exact kc_26
  | 27, _ => exact kc_27
  | 28, _ => exact kc_28
  | 29, _ => exact kc_29
  | 30, _ => exact kc_30
  | 31, _ => exact kc_31
  | 32, _ => exact kc_32
  | 33, _ => exact kc_33
  | 34, _ => exact kc_34
  | 35, _ => exact kc_35
  | 36, _ => exact kc_36
  | 37, _ => exact kc_37
  | 38, _ => exact kc_38
  | 39, _ => exact kc_39
  | 40, _ => exact kc_40
  | 41, _ => exact kc_41
  | 42, _ => exact kc_42
  | 43, _ => exact kc_43
  | 44, _ => exact kc_44
  | 45, _ => exact kc_45
  | 46, _ => exact kc_46
  | 47, _ => exact kc_47
  | 48, _ => exact kc_48
  | 49, _ => exact kc_49
  | 50, _ => exact kc_50
  | 51, _ => exact kc_51
  | 52, _ => exact kc_52
  | 53, _ => exact kc_53
  | 54, _ => exact kc_54
  | 55, _ => exact kc_55
  | 56, _ => exact kc_56
  | 57, _ => exact kc_57
  | 58, _ => exact kc_58
  | 59, _ => exact kc_59
  | 60, _ => exact kc_60
  | 61, _ => exact kc_61
  | 62, _ => exact kc_62
  | 63, _ => exact kc_63
  | 64, _ => exact kc_64
  | 65, _ => exact kc_65
  | 66, _ => exact kc_66
  | 67, _ => exact kc_67
  | 68, _ => exact kc_68
  | 69, _ => exact kc_69
  | 70, _ => exact kc_70
  | 71, _ => exact kc_71
  | 72, _ => exact kc_72
  | 73, _ => exact kc_73
  | 74, _ => exact kc_74
  | 75, _ => exact kc_75
  | 76, _ => exact kc_76
  | 77, _ => exact kc_77
  | 78, _ => exact kc_78
  | 79, _ => exact kc_79
  | 80, _ => exact kc_80
  | 81, _ => exact kc_81
  | 82, _ => exact kc_82
  | 83, _ => exact kc_83
  | 84, _ => exact kc_84
  | 85, _ => exact kc_85
  | 86, _ => exact kc_86
  | 87, _ => exact kc_87
  | 88, _ => exact kc_88
  | 89, _ => exact kc_89
  | 90, _ => exact kc_90
  | 91, _ => exact kc_91
  | 92, _ => exact kc_92
  | 93, _ => exact kc_93
  | 94, _ => exact kc_94
  | 95, _ => exact kc_95
  | 96, _ => exact kc_96
  | 97, _ => exact kc_97
  | 98, _ => exact kc_98
  | 99, _ => exact kc_99
  | 100, _ => exact kc_100
  | 101, _ => exact kc_101
  | 102, _ => exact kc_102
  | 103, _ => exact kc_103
  | 104, _ => exact kc_104
  | 105, _ => exact kc_105
  | 106, _ => exact kc_106
  | 107, _ => exact kc_107
  | 108, _ => exact kc_108
  | 109, _ => exact kc_109
  | 110, _ => exact kc_110
  | 111, _ => exact kc_111
  | 112, _ => exact kc_112
  | 113, _ => exact kc_113
  | 114, _ => exact kc_114
  | 115, _ => exact kc_115
  | 116, _ => exact kc_116
  | 117, _ => exact kc_117
  | 118, _ => exact kc_118
  | 119, _ => exact kc_119
  | 120, _ => exact kc_120
  | 121, _ => exact kc_121
  | 122, _ => exact kc_122
  | 123, _ => exact kc_123
  | 124, _ => exact kc_124
  | 125, _ => exact kc_125
  | 126, _ => exact kc_126
  | 127, _ => exact kc_127
  | 128, _ => exact kc_128
  | 129, _ => exact kc_129
  | 130, _ => exact kc_130
  | 131, _ => exact kc_131
  | 132, _ => exact kc_132
  | 133, _ => exact kc_133
  | 134, _ => exact kc_134
  | 135, _ => exact kc_135
  | 136, _ => exact kc_136
  | 137, _ => exact kc_137
  | 138, _ => exact kc_138
  | 139, _ => exact kc_139
  | 140, _ => exact kc_140
  | 141, _ => exact kc_141
  | 142, _ => exact kc_142
  | 143, _ => exact kc_143
  | 144, _ => exact kc_144
  | 145, _ => exact kc_145
  | 146, _ => exact kc_146
  | 147, _ => exact kc_147
  | 148, _ => exact kc_148
  | 149, _ => exact kc_149
  | 150, _ => exact kc_150
  | 151, _ => exact kc_151
  | 152, _ => exact kc_152
  | 153, _ => exact kc_153
  | 154, _ => exact kc_154
  | 155, _ => exact kc_155
  | 156, _ => exact kc_156
  | 157, _ => exact kc_157
  | 158, _ => exact kc_158
  | 159, _ => exact kc_159
  | 160, _ => exact kc_160
  | 161, _ => exact kc_161
  | 162, _ => exact kc_162
  | 163, _ => exact kc_163
  | 164, _ => exact kc_164
  | 165, _ => exact kc_165
  | 166, _ => exact kc_166
  | 167, _ => exact kc_167
  | 168, _ => exact kc_168
  | 169, _ => exact kc_169
  | 170, _ => exact kc_170
  | 171, _ => exact kc_171
  | 172, _ => exact kc_172
  | 173, _ => exact kc_173
  | 174, _ => exact kc_174
  | 175, _ => exact kc_175
  | 176, _ => exact kc_176
  | 177, _ => exact kc_177
  | 178, _ => exact kc_178
  | 179, _ => exact kc_179
  | 180, _ => exact kc_180
  | 181, _ => exact kc_181
  | 182, _ => exact kc_182
  | 183, _ => exact kc_183
  | 184, _ => exact kc_184
  | 185, _ => exact kc_185
  | 186, _ => exact kc_186
  | 187, _ => exact kc_187
  | 188, _ => exact kc_188
  | 189, _ => exact kc_189
  | 190, _ => exact kc_190
  | 191, _ => exact kc_191
  | 192, _ => exact kc_192
  | 193, _ => exact kc_193
  | 194, _ => exact kc_194
  | 195, _ => exact kc_195
  | 196, _ => exact kc_196
  | 197, _ => exact kc_197
  | 198, _ => exact kc_198
  | 199, _ => exact kc_199
  | 200, _ => exact kc_200
  | 201, _ => exact kc_201
  | 202, _ => exact kc_202
  | 203, _ => exact kc_203
  | 204, _ => exact kc_204
  | 205, _ => exact kc_205
  | 206, _ => exact kc_206
  | 207, _ => exact kc_207
  | 208, _ => exact kc_208
  | 209, _ => exact kc_209
  | 210, _ => exact kc_210
  | 211, _ => exact kc_211
  | 212, _ => exact kc_212
  | 213, _ => exact kc_213
  | 214, _ => exact kc_214
  | 215, _ => exact kc_215
  | 216, _ => exact kc_216
  | 217, _ => exact kc_217
  | 218, _ => exact kc_218
  | 219, _ => exact kc_219
  | 220, _ => exact kc_220
  | 221, _ => exact kc_221
  | 222, _ => exact kc_222
  | 223, _ => exact kc_223
  | 224, _ => exact kc_224
  | 225, _ => exact kc_225
  | 226, _ => exact kc_226
  | 227, _ => exact kc_227
  | 228, _ => exact kc_228
  | 229, _ => exact kc_229
  | 230, _ => exact kc_230
  | 231, _ => exact kc_231
  | 232, _ => exact kc_232
  | 233, _ => exact kc_233
  | 234, _ => exact kc_234
  | 235, _ => exact kc_235
  | 236, _ => exact kc_236
  | 237, _ => exact kc_237
  | 238, _ => exact kc_238
  | 239, _ => exact kc_239
  | 240, _ => exact kc_240
  | 241, _ => exact kc_241
  | 242, _ => exact kc_242
  | 243, _ => exact kc_243
  | 244, _ => exact kc_244
  | 245, _ => exact kc_245
  | 246, _ => exact kc_246
  | 247, _ => exact kc_247
  | 248, _ => exact kc_248
  | 249, _ => exact kc_249
  | 250, _ => exact kc_250
  | 251, _ => exact kc_251
  | 252, _ => exact kc_252
  | 253, _ => exact kc_253
  | 254, _ => exact kc_254
  | 255, _ => exact kc_255
  | 256, _ => exact kc_256
  | 257, _ => exact kc_257
  | 258, _ => exact kc_258
  | 259, _ => exact kc_259
  | 260, _ => exact kc_260
  | 261, _ => exact kc_261
  | 262, _ => exact kc_262
  | 263, _ => exact kc_263
  | 264, _ => exact kc_264
  | 265, _ => exact kc_265
  | 266, _ => exact kc_266
  | 267, _ => exact kc_267
  | 268, _ => exact kc_268
  | 269, _ => exact kc_269
  | 270, _ => exact kc_270
  | 271, _ => exact kc_271
  | 272, _ => exact kc_272
  | 273, _ => exact kc_273
  | 274, _ => exact kc_274
  | 275, _ => exact kc_275
  | 276, _ => exact kc_276
  | 277, _ => exact kc_277
  | 278, _ => exact kc_278
  | 279, _ => exact kc_279
  | 280, _ => exact kc_280
  | 281, _ => exact kc_281
  | 282, _ => exact kc_282
  | 283, _ => exact kc_283
  | 284, _ => exact kc_284
  | 285, _ => exact kc_285
  | 286, _ => exact kc_286
  | 287, _ => exact kc_287
  | 288, _ => exact kc_288
  | 289, _ => exact kc_289
  | 290, _ => exact kc_290
  | 291, _ => exact kc_291
  | 292, _ => exact kc_292
  | 293, _ => exact kc_293
  | 294, _ => exact kc_294
  | 295, _ => exact kc_295
  | 296, _ => exact kc_296
  | 297, _ => exact kc_297
  | 298, _ => exact kc_298
  | 299, _ => exact kc_299
  | 300, _ => exact kc_300
  | 301, _ => exact kc_301
  | 302, _ => exact kc_302
  | 303, _ => exact kc_303
  | 304, _ => exact kc_304
  | 305, _ => exact kc_305
  | 306, _ => exact kc_306
  | 307, _ => exact kc_307
  | n + 308, h => omega
end
end
section
section
/-- the frame of a call, however it ends -/
def sm_FE (first : State) (t : State) (L : List Loc) (k n : Nat) : Prop := first.WarmedH t.vm ∧ first.sameButNew ({ t with vm := first.vm } : State) L k n
/-- a contract, however the method ends; what it may write lies from bs on -/
def sm_Qx (bs mc ms : Nat) (Qc : Array Value → State → Outcome → State → Prop) : Array Value → State → Outcome → State → Prop := fun a st o t => Qc a st o t ∧ ∃ L, sm_FE st t L mc ms ∧ ∀ q ∈ L, bs ≤ q.base
/-- where a caller stands again -/
abbrev sm_back (U t : State) : State := ({ U with heap := t.heap, slotsUsed := t.slotsUsed } : State).setVm t.vm
variable {p : Program} {l : Launch} {e : Env} {R : Room} {s : State} {m : MethodId} {args : Array Value} {below : List Frame} {meth : Method} {c : Code} {U : State} {locs : List Loc} {cells slots : Nat}
theorem sm_call (X : Stand p l e R s m args below meth c U locs cells slots) {y : MethodName} {S : Spec} {Pc : Array Value → State → Prop} {Qc : Array Value → State → Outcome → State → Prop} {bs mc ms : Nat}
    (hM : MetFree l y S Pc (fun _ _ _ _ _ => True) (sm_Qx bs mc ms Qc)) {mk : MethodId} {methY : Method} {cY : Code} {kY : Class} {a : Array Value} (hn : U.methodNamed? y = some mk) (hmY : U.vm.method? mk = some methY) (hcY : methY.code = some cY) (hkY : U.vm.classes[mk.cls]? = some kY) (hiY : kY.init = .initialized)
    (hpre : S.pre.before a U = true) (hfr : S.room.frames + 1 ≤ R.frames) {g : JFrame} (hlo : 2 * g.monitorRoom + (g.stack.map fun v => v.category).sum + (cY.maxLocals + 11) + S.room.locals ≤ R.locals) (hcl : cells + S.room.cells ≤ R.cells) (hsl : slots + S.room.slots ≤ R.slots)
    (hg : g.method = m) (hsize : g.locals.size = c.maxLocals) {ig : Instr} {len : Nat} (hdg : decode c.code g.pc = .ok (ig, len)) (hP : Pc a (U.calling g mk a)) :
    ∃ (o : Outcome) (t : State) (L : List Loc), Qc a (U.calling g mk a) o t ∧ (∀ q ∈ L, bs ≤ q.base) ∧ Stand p l e R s m args below meth c (sm_back U t) (locs ++ L) (cells + mc) (slots + ms) ∧ U.WarmedH t.vm ∧
      (∀ v, o = .returned v → Steps p.tables e below (doInvoke e (U.setTop g) [] mk a).1 ((sm_back U t).setTop { g with pc := g.pc + len, stack := v.toList ++ g.stack })) ∧
      (∀ x, o = .threw x → Steps p.tables e below (doInvoke e (U.setTop g) [] mk a).1 (((sm_back U t).setTop g).pushFrame (.throwing x))) := by
  have h : At U g.method c below := by rw [hg]; exact X.here
  have happ : S.appliesLoose y e.platform (U.calling g mk a) = true :=
    Spec.appliesLoose_calling (g := g) h hdg hn hkY hiY (X.room_calling (g := g) (R' := S.room) hsize hmY hcY hfr hlo hcl hsl) hpre
  obtain ⟨mid, hmid⟩ := h.above
  have hfrm : (U.setTop g).frames = (.java g :: mid) ++ below := by rw [State.frames_setTop' g h.top, hmid]; rfl
  obtain ⟨o, t, hsteps, -, hend, hq⟩ := Steps.callFree hM p X.admits X.cas X.clock (acts := []) hfrm happ hP trivial
  obtain ⟨hq1, L, ⟨hW, e2, q2, q3, q4, q5, q6⟩, hL⟩ : sm_Qx bs mc ms Qc a (U.calling g mk a) o t := hq
  rw [State.frames_setTop' g h.top] at hend
  have e3 : t = ({ (U.calling g mk a).setFrames t.frames with heap := t.heap, slotsUsed := t.slotsUsed } : State).setVm t.vm := by
    have : t = ({ t with vm := (U.calling g mk a).vm } : State).setVm t.vm := rfl
    rw [e2] at this
    exact this
  have hW' : U.WarmedH t.vm := hW
  obtain ⟨g₀, hg0⟩ := Option.isSome_iff_exists.mp h.top
  obtain ⟨r, hr⟩ := State.topJava?_eq_some.mp hg0
  have hr' : (sm_back U t).frames = .java g₀ :: r := hr
  have hsame : U.sameButNew ({ U with heap := t.heap, slotsUsed := t.slotsUsed } : State) L mc ms := by
    refine ⟨?_, q2, q3, q4, q5, q6⟩
    obtain ⟨th, ht, -⟩ := State.frames_cons hr
    show ({ U with heap := t.heap, slotsUsed := t.slotsUsed } : State) = { U.setFrames U.frames with heap := t.heap, slotsUsed := t.slotsUsed }
    rw [State.setFrames_self ht]
  refine ⟨o, t, L, hq1, hL, ⟨X.admits, X.cas, X.clock, X.frames, X.room, X.hears, X.method, X.code, by have := (X.here.setHeapUsed t.heap t.slotsUsed).setVm hW'.alike; exact this, X.tail, State.WarmedH.trans X.warmed hW', X.limits, X.bytes, X.same.trans (hsame.setVm s.vm)⟩, hW', ?_, ?_⟩
  · rintro v rfl
    obtain ⟨c₂, i₂, len₂, hc₂, hd₂, hf₂⟩ := hend
    have hcc : c₂ = c := by
      have h1 : t.code? g.method = U.code? g.method := by
        rw [State.code?_eq, State.code?_eq, hW'.alike.method?]
      exact Option.some.inj (hc₂.symm.trans (h1.trans h.code))
    subst hcc
    have hlen : len₂ = len := by rw [hdg] at hd₂; cases hd₂; rfl
    subst hlen
    have ht : t = (sm_back U t).setTop { g with pc := g.pc + len₂, stack := v.toList ++ g.stack } := by
      refine e3.trans ?_
      rw [hf₂, State.calling_eq h.top, State.setFrames_setFrames, State.setTop_of_frames _ hr', hr]
      rfl
    rw [← ht]
    exact hsteps
  · rintro x rfl
    have hf₂ : t.frames = .throwing x :: .java g :: U.frames.tail := hend
    have ht : t = ((sm_back U t).setTop g).pushFrame (.throwing x) := by
      refine e3.trans ?_
      rw [hf₂, State.calling_eq h.top, State.setFrames_setFrames, State.pushFrame, State.frames_setTop _ hr', State.setTop_of_frames _ hr', State.setFrames_setFrames, hr]
      rfl
    rw [← ht]
    exact hsteps
end
end
section
section
/-! THE SMALL MACHINE. Values: an int, a long, a reference (tag, number); (0, 0) is null; or nothing of use. -/
abbrev sm_V : Type := Int32 ⊕ (Int64 ⊕ ((Nat × Nat) ⊕ Unit))
abbrev vI (x : Int32) : sm_V := Sum.inl x
abbrev vL (x : Int64) : sm_V := Sum.inr (Sum.inl x)
abbrev vP (q : Nat × Nat) : sm_V := Sum.inr (Sum.inr (Sum.inl q))
abbrev vU : sm_V := Sum.inr (Sum.inr (Sum.inr ()))
abbrev vN : sm_V := vP (0, 0)
/-- the state: ints, longs, references by (tag, number, place); lengths of rows whose length is free; how many of each tag; their order of making; cells and slots made -/
abbrev sm_S : Type := (Nat → Nat → Nat → Int32) × (Nat → Nat → Nat → Int64) × (Nat → Nat → Nat → Nat × Nat) × (Nat → Nat → Nat) × (Nat → Nat) × (Nat → Nat → Nat) × Nat × Nat
/-- how a method ends: none: it threw; some none: nothing given -/
abbrev sm_O : Type := Option (Option sm_V)
abbrev sm_R : Type := Option (sm_O × sm_S)
abbrev sm_C : Type := Nat → List sm_V → sm_S → sm_R
def sm_up3 {α : Type} (f : Nat → Nat → Nat → α) (t i k : Nat) (v : α) : Nat → Nat → Nat → α := fun t' i' k' => if t' = t ∧ i' = i ∧ k' = k then v else f t' i' k'
def sm_up2 {α : Type} (f : Nat → Nat → α) (t i : Nat) (v : α) : Nat → Nat → α := fun t' i' => if t' = t ∧ i' = i then v else f t' i'
def sm_up1 {α : Type} (f : Nat → α) (t : Nat) (v : α) : Nat → α := fun t' => if t' = t then v else f t'
def sI (σ : sm_S) (t i k : Nat) (v : Int32) : sm_S := (sm_up3 σ.1 t i k v, σ.2)
def sL (σ : sm_S) (t i k : Nat) (v : Int64) : sm_S := (σ.1, sm_up3 σ.2.1 t i k v, σ.2.2)
def sR (σ : sm_S) (t i k : Nat) (v : Nat × Nat) : sm_S := (σ.1, σ.2.1, sm_up3 σ.2.2.1 t i k v, σ.2.2.2)
/-- a new cell of tag t, with n slots, its own length m -/
def sN (σ : sm_S) (t n m : Nat) : sm_S := (σ.1, σ.2.1, σ.2.2.1, sm_up2 σ.2.2.2.1 t (σ.2.2.2.2.1 t) m, sm_up1 σ.2.2.2.2.1 t (σ.2.2.2.2.1 t + 1), sm_up2 σ.2.2.2.2.2.1 t (σ.2.2.2.2.1 t) σ.2.2.2.2.2.2.1, σ.2.2.2.2.2.2.1 + 1, σ.2.2.2.2.2.2.2 + n)
/-- a row of ints gets n ints of a table from its place d on -/
def sC (σ : sm_S) (t i d n : Nat) (f : Nat → Int32) : sm_S := (fun t' i' k' => if t' = t ∧ i' = i ∧ d ≤ k' ∧ k' < d + n then f (k' - d) else σ.1 t' i' k', σ.2)
def sm_nth : List sm_V → Nat → sm_V
  | [], _ => vU
  | v :: _, 0 => v
  | _ :: r, n + 1 => sm_nth r n
def sm_set : List sm_V → Nat → sm_V → List sm_V
  | [], _, _ => []
  | _ :: r, 0, v => v :: r
  | x :: r, n + 1, v => x :: sm_set r n v
def sm_isL (v : sm_V) : Bool := match v with
  | .inr (.inl _) => true
  | _ => false
def sm_cat1 (v : sm_V) : Nat := match v with
  | .inr (.inl _) => 2
  | _ => 1
def sm_cat : List sm_V → Nat
  | [] => 0
  | v :: r => sm_cat1 v + sm_cat r
/-- a value of one word goes to local i -/
def sm_st1 (L : List sm_V) (i : Nat) (v : sm_V) : List sm_V := match i with
  | 0 => sm_set L 0 v
  | j + 1 => bif sm_isL (sm_nth L j) then sm_set (sm_set L j vU) (j + 1) v else sm_set L (j + 1) v
def sm_st2 (L : List sm_V) (i : Nat) (v : sm_V) : List sm_V := sm_set (sm_st1 L i v) (i + 1) vU
/-- locals that are of no more use -/
def sm_mask : Nat → List Nat → List sm_V → List sm_V
  | _, _, [] => []
  | n, live, v :: r => (bif live.contains n then v else vU) :: sm_mask (n + 1) live r
def sm_tg (pc : Nat) (off : Int) : Nat := ((pc : Int) + off).toNat
def sm_sw (x : Int32) (jp : Nat → sm_R) (dflt : Nat) : List (Int32 × Nat) → sm_R
  | [] => jp dflt
  | q :: r => if x = q.1 then jp q.2 else sm_sw x jp dflt r
def sm_ix (x : Int32) (n : Nat) (k : Nat → sm_R) : sm_R := if x < 0 ∨ n ≤ x.toNatClampNeg then none else k x.toNatClampNeg
def sm_rq (q : Nat × Nat) (t : Nat) (k : Nat → sm_R) : sm_R := if q.1 = t then k q.2 else none
def sm_p1 (S : List sm_V) (k : Int32 → List sm_V → sm_R) : sm_R := match S with
  | .inl x :: r => k x r
  | _ => none
def sm_p2 (S : List sm_V) (k : Int32 → Int32 → List sm_V → sm_R) : sm_R := match S with
  | .inl y :: .inl x :: r => k x y r
  | _ => none
def sm_q1 (S : List sm_V) (k : Int64 → List sm_V → sm_R) : sm_R := match S with
  | .inr (.inl x) :: r => k x r
  | _ => none
def sm_q2 (S : List sm_V) (k : Int64 → Int64 → List sm_V → sm_R) : sm_R := match S with
  | .inr (.inl y) :: .inr (.inl x) :: r => k x y r
  | _ => none
def sm_r1 (S : List sm_V) (k : Nat × Nat → List sm_V → sm_R) : sm_R := match S with
  | .inr (.inr (.inl q)) :: r => k q r
  | _ => none
def sm_r2 (S : List sm_V) (k : Nat × Nat → Nat × Nat → List sm_V → sm_R) : sm_R := match S with
  | .inr (.inr (.inl y)) :: .inr (.inr (.inl x)) :: r => k x y r
  | _ => none
/-- an index over a row; an int, a long, a reference over these -/
def sm_a0 (S : List sm_V) (k : Nat × Nat → Int32 → List sm_V → sm_R) : sm_R := match S with
  | .inl j :: .inr (.inr (.inl q)) :: r => k q j r
  | _ => none
def sm_aI (S : List sm_V) (k : Nat × Nat → Int32 → Int32 → List sm_V → sm_R) : sm_R := match S with
  | .inl x :: .inl j :: .inr (.inr (.inl q)) :: r => k q j x r
  | _ => none
def sm_aL (S : List sm_V) (k : Nat × Nat → Int32 → Int64 → List sm_V → sm_R) : sm_R := match S with
  | .inr (.inl x) :: .inl j :: .inr (.inr (.inl q)) :: r => k q j x r
  | _ => none
def sm_aR (S : List sm_V) (k : Nat × Nat → Int32 → Nat × Nat → List sm_V → sm_R) : sm_R := match S with
  | .inr (.inr (.inl x)) :: .inl j :: .inr (.inr (.inl q)) :: r => k q j x r
  | _ => none
/-- how a call's answer is taken -/
def sm_bV (a : sm_R) (hx : sm_S → sm_R) (k : sm_S → sm_R) : sm_R := match a with
  | some (some none, s) => k s
  | some (none, s) => hx s
  | _ => none
def sm_bI (a : sm_R) (hx : sm_S → sm_R) (k : Int32 → sm_S → sm_R) : sm_R := match a with
  | some (some (some (.inl x)), s) => k x s
  | some (none, s) => hx s
  | _ => none
def sm_bL (a : sm_R) (hx : sm_S → sm_R) (k : Int64 → sm_S → sm_R) : sm_R := match a with
  | some (some (some (.inr (.inl x))), s) => k x s
  | some (none, s) => hx s
  | _ => none
def sm_bP (a : sm_R) (hx : sm_S → sm_R) (k : Nat × Nat → sm_S → sm_R) : sm_R := match a with
  | some (some (some (.inr (.inr (.inl q)))), s) => k q s
  | some (none, s) => hx s
  | _ => none
def sm_take : Nat → List sm_V → List sm_V → Option (List sm_V × List sm_V)
  | 0, acc, S => some (acc, S)
  | n + 1, acc, v :: S => sm_take n (v :: acc) S
  | _ + 1, _, [] => none
end
end
section
section
/-- what an int-row is read by: the script, a table, or a row of the state; n: its length -/
def sm_ild (X : Nat × (Nat → Int32)) (tb : Nat → List Int32) (t n : Nat) (q : Nat × Nat) (j : Int32) (σ : sm_S) (k : Int32 → sm_R) : sm_R := bif t == 4 then sm_rq q 4 fun _ => sm_ix j X.1 fun z => k (X.2 z) else bif t == 6 then sm_rq q 6 fun i => sm_ix j (tb i).length fun z => k ((tb i).getD z 0) else sm_rq q t fun i => sm_ix j n fun z => k (σ.1 t i z)
def sm_bld (by_ : Nat → List Int32) (t n : Nat) (q : Nat × Nat) (j : Int32) (σ : sm_S) (k : Int32 → sm_R) : sm_R := bif t == 7 then sm_rq q 7 fun i => sm_ix j (by_ i).length fun z => k ((by_ i).getD z 0) else sm_rq q t fun i => sm_ix j n fun z => k (σ.1 t i z)
/-- a row's length -/
def sm_len (X : Nat × (Nat → Int32)) (tb by_ : Nat → List Int32) (t n : Nat) (q : Nat × Nat) (σ : sm_S) (k : Int32 → sm_R) : sm_R := bif t == 4 then sm_rq q 4 fun _ => k (Int32.ofNat X.1) else bif t == 6 then sm_rq q 6 fun i => k (Int32.ofNat (tb i).length) else bif t == 7 then sm_rq q 7 fun i => k (Int32.ofNat (by_ i).length) else sm_rq q t fun i => k (Int32.ofNat (bif n == 0 then σ.2.2.2.1 t i else n))
/-- a field is read: kind 0: int, 3: a flag, 1: long, 2: reference, 10 and more: a reference that is set once, to the cell of that tag and the same number (w: it has been set); 9: the text's code, always 0 -/
def sm_gf (w : Bool) (t k kd : Nat) (i : Nat) (σ : sm_S) : sm_V := match kd with
  | 0 => vI (σ.1 t i k)
  | 1 => vL (σ.2.1 t i k)
  | 2 => vP (σ.2.2.1 t i k)
  | 3 => vI (σ.1 t i k)
  | 7 => vP (7, i)
  | 9 => vI 0
  | n + 4 => bif w then vP (n + 4, i) else vP (σ.2.2.1 t i k)
def sm_pf (w : Bool) (t k kd : Nat) (S : List sm_V) (σ : sm_S) (nx : List sm_V → sm_S → sm_R) : sm_R := match kd with
  | 0 => match S with
    | .inl x :: .inr (.inr (.inl q)) :: r => sm_rq q t fun i => nx r (sI σ t i k x)
    | _ => none
  | 1 => match S with
    | .inr (.inl x) :: .inr (.inr (.inl q)) :: r => sm_rq q t fun i => nx r (sL σ t i k x)
    | _ => none
  | 2 => match S with
    | .inr (.inr (.inl x)) :: .inr (.inr (.inl q)) :: r => sm_rq q t fun i => nx r (sR σ t i k x)
    | _ => none
  | 3 => match S with
    | .inl x :: .inr (.inr (.inl q)) :: r => if x = 0 ∨ x = 1 then sm_rq q t fun i => nx r (sI σ t i k x) else none
    | _ => none
  | 9 => none
  | _ + 4 => bif w then none else match S with
    | .inr (.inr (.inl x)) :: .inr (.inr (.inl q)) :: r => sm_rq q t fun i => nx r (sR σ t i k x)
    | _ => none
def sm_ld (v : sm_V) (k : sm_V → sm_R) (c : Nat) : sm_R := match c, v with
  | 0, .inl x => k (vI x)
  | 1, .inr (.inl x) => k (vL x)
  | 2, .inr (.inr (.inl q)) => k (vP q)
  | _, _ => none
/-- a call of method a.1, with a.2.1 values; a.2.2.1: what it gives (0 nothing, 1 int, 2 long, 3 reference); a.2.2.2: the receiver's tag, 0: none -/
def sm_cl (C : sm_C) (a : Nat × Nat × Nat × Nat) (hx : sm_S → sm_R) (S : List sm_V) (σ : sm_S) (nx : List sm_V → sm_S → sm_R) : sm_R := match sm_take a.2.1 [] S with
  | none => none
  | some (As, r) => if sm_cat r ≤ 8 then
      (let go : sm_R := match a.2.2.1 with
        | 0 => sm_bV (C a.1 As σ) hx fun s => nx r s
        | 1 => sm_bI (C a.1 As σ) hx fun x s => nx (vI x :: r) s
        | 2 => sm_bL (C a.1 As σ) hx fun x s => nx (vL x :: r) s
        | _ => sm_bP (C a.1 As σ) hx fun x s => nx (vP x :: r) s
      match a.2.2.2 with
        | 0 => go
        | t + 1 => match As with
          | .inr (.inr (.inl q)) :: _ => if q.1 = t + 1 then go else none
          | _ => none) else none
def sm_cases (pc : Nat) (lo : Int) : List Int → List (Int32 × Nat)
  | [] => []
  | o :: r => (Int32.ofInt lo, sm_tg pc o) :: sm_cases pc (lo + 1) r
def sm_pairs (pc : Nat) : List (Int × Int) → List (Int32 × Nat)
  | [] => []
  | q :: r => (Int32.ofInt q.1, sm_tg pc q.2) :: sm_pairs pc r
/-- ireturn: 0 int, 1 flag, 2 char, 3 byte -/
def sm_rt (k : Nat) (x : Int32) (σ : sm_S) : sm_R := match k with
  | 0 => some (some (some (vI x)), σ)
  | 1 => if x = 0 ∨ x = 1 then some (some (some (vI x)), σ) else none
  | 2 => if 0 ≤ x ∧ x ≤ 65535 then some (some (some (vI x)), σ) else none
  | _ => if -128 ≤ x ∧ x ≤ 127 then some (some (some (vI x)), σ) else none
/-- the tables of a claim: the script; tables of ints; bytes of texts; longs -/
abbrev sm_T : Type := (Nat × (Nat → Int32)) × (Nat → List Int32) × (Nat → List Int32) × (Nat → Int64)
/-- ONE INSTRUCTION -/
def sm_I (Z : sm_T) (w : Bool) (C : sm_C) (ins : Instr) (a : Nat × Nat × Nat × Nat) (pc : Nat) (nx : List sm_V → List sm_V → sm_S → sm_R) (jp : Nat → List sm_V → List sm_V → sm_S → sm_R) (hx : sm_S → sm_R) (L S : List sm_V) (σ : sm_S) : sm_R := match ins with
  | .iconst n => nx L (vI (Int32.ofInt n) :: S) σ
  | .bipush n => nx L (vI (Int8.ofInt n).toInt32 :: S) σ
  | .sipush n => nx L (vI (Int16.ofInt n).toInt32 :: S) σ
  | .lconst n => nx L (vL (Int64.ofNat n) :: S) σ
  | .aconst_null => nx L (vN :: S) σ
  | .iload i => sm_ld (sm_nth L i) (fun v => nx L (v :: S) σ) 0
  | .iload_n i => sm_ld (sm_nth L i) (fun v => nx L (v :: S) σ) 0
  | .lload i => sm_ld (sm_nth L i) (fun v => nx L (v :: S) σ) 1
  | .lload_n i => sm_ld (sm_nth L i) (fun v => nx L (v :: S) σ) 1
  | .aload i => sm_ld (sm_nth L i) (fun v => nx L (v :: S) σ) 2
  | .aload_n i => sm_ld (sm_nth L i) (fun v => nx L (v :: S) σ) 2
  | .istore i => sm_p1 S fun x r => nx (sm_st1 L i (vI x)) r σ
  | .istore_n i => sm_p1 S fun x r => nx (sm_st1 L i (vI x)) r σ
  | .lstore i => sm_q1 S fun x r => nx (sm_st2 L i (vL x)) r σ
  | .lstore_n i => sm_q1 S fun x r => nx (sm_st2 L i (vL x)) r σ
  | .astore i => sm_r1 S fun x r => nx (sm_st1 L i (vP x)) r σ
  | .astore_n i => sm_r1 S fun x r => nx (sm_st1 L i (vP x)) r σ
  | .iinc i n => sm_ld (sm_nth L i) (fun v => match v with
      | .inl x => nx (sm_st1 L i (vI (x + Int32.ofInt n))) S σ
      | _ => none) 0
  | .iadd => sm_p2 S fun x y r => nx L (vI (x + y) :: r) σ
  | .isub => sm_p2 S fun x y r => nx L (vI (x - y) :: r) σ
  | .imul => sm_p2 S fun x y r => nx L (vI (x * y) :: r) σ
  | .iand => sm_p2 S fun x y r => nx L (vI (x &&& y) :: r) σ
  | .ishr => sm_p2 S fun x y r => nx L (vI (x >>> (y &&& 31)) :: r) σ
  | .idiv => sm_p2 S fun x y r => if y = 0 then none else nx L (vI (x / y) :: r) σ
  | .irem => sm_p2 S fun x y r => if y = 0 then none else nx L (vI (x - x / y * y) :: r) σ
  | .ineg => sm_p1 S fun x r => nx L (vI (-x) :: r) σ
  | .ladd => sm_q2 S fun x y r => nx L (vL (x + y) :: r) σ
  | .lsub => sm_q2 S fun x y r => nx L (vL (x - y) :: r) σ
  | .lmul => sm_q2 S fun x y r => nx L (vL (x * y) :: r) σ
  | .lor => sm_q2 S fun x y r => nx L (vL (x ||| y) :: r) σ
  | .lneg => sm_q1 S fun x r => nx L (vL (-x) :: r) σ
  | .lshl => sm_p1 S fun y r => sm_q1 r fun x r2 => nx L (vL (x <<< (y.toInt64 &&& 63)) :: r2) σ
  | .lcmp => sm_q2 S fun x y r => nx L (vI (lg_cmp x y) :: r) σ
  | .i2l => sm_p1 S fun x r => nx L (vL x.toInt64 :: r) σ
  | .l2i => sm_q1 S fun x r => nx L (vI x.toInt32 :: r) σ
  | .i2b => sm_p1 S fun x r => nx L (vI x.toInt8.toInt32 :: r) σ
  | .i2c => sm_p1 S fun x r => nx L (vI (x.toUInt32 % 65536).toInt32 :: r) σ
  | .dup => match S with
    | v :: r => if sm_cat1 v = 1 then nx L (v :: v :: r) σ else none
    | _ => none
  | .dup2 => match S with
    | u :: v :: r => if sm_cat1 u = 1 ∧ sm_cat1 v = 1 then nx L (u :: v :: u :: v :: r) σ else none
    | _ => none
  | .pop => match S with
    | v :: r => if sm_cat1 v = 1 then nx L r σ else none
    | _ => none
  | .goto o => jp (sm_tg pc o) L S σ
  | .ifCond c o => sm_p1 S fun x r => match c with
    | .eq => if x = 0 then jp (sm_tg pc o) L r σ else nx L r σ
    | .ne => if x = 0 then nx L r σ else jp (sm_tg pc o) L r σ
    | .lt => if x < 0 then jp (sm_tg pc o) L r σ else nx L r σ
    | .ge => if x < 0 then nx L r σ else jp (sm_tg pc o) L r σ
    | .gt => if 0 < x then jp (sm_tg pc o) L r σ else nx L r σ
    | .le => if 0 < x then nx L r σ else jp (sm_tg pc o) L r σ
  | .if_icmp c o => sm_p2 S fun x y r => match c with
    | .eq => if x = y then jp (sm_tg pc o) L r σ else nx L r σ
    | .ne => if x = y then nx L r σ else jp (sm_tg pc o) L r σ
    | .lt => if x < y then jp (sm_tg pc o) L r σ else nx L r σ
    | .ge => if x < y then nx L r σ else jp (sm_tg pc o) L r σ
    | .gt => if y < x then jp (sm_tg pc o) L r σ else nx L r σ
    | .le => if y < x then nx L r σ else jp (sm_tg pc o) L r σ
  | .if_acmp c o => sm_r2 S fun x y r => match c with
    | .eq => if x = y then jp (sm_tg pc o) L r σ else if (x.1 = 0 ∨ 10 ≤ x.1) ∧ (y.1 = 0 ∨ 10 ≤ y.1) then nx L r σ else none
    | .ne => if x = y then nx L r σ else if (x.1 = 0 ∨ 10 ≤ x.1) ∧ (y.1 = 0 ∨ 10 ≤ y.1) then jp (sm_tg pc o) L r σ else none
  | .ifnull o => sm_r1 S fun x r => if x.1 = 0 then jp (sm_tg pc o) L r σ else nx L r σ
  | .ifnonnull o => sm_r1 S fun x r => if x.1 = 0 then nx L r σ else jp (sm_tg pc o) L r σ
  | .tableswitch d lo _ os => sm_p1 S fun x r => sm_sw x (fun t => jp t L r σ) (sm_tg pc d) (sm_cases pc lo os.toList)
  | .lookupswitch d ps => sm_p1 S fun x r => sm_sw x (fun t => jp t L r σ) (sm_tg pc d) (sm_pairs pc ps.toList)
  | .ldc _ => match a.1 with
    | 0 => nx L (vI (Int32.ofNat a.2.1) :: S) σ
    | _ => nx L (vP (5, a.2.1) :: S) σ
  | .ldc_w _ => match a.1 with
    | 0 => nx L (vI (Int32.ofNat a.2.1) :: S) σ
    | _ => nx L (vP (5, a.2.1) :: S) σ
  | .ldc2_w _ => nx L (vL (Z.2.2.2 a.1) :: S) σ
  | .getstatic _ => match a.1 with
    | 0 => nx L (vI (Int32.ofNat a.2.1) :: S) σ
    | 1 => nx L (vP (6, a.2.1) :: S) σ
    | _ => nx L (vU :: S) σ
  | .getfield _ => sm_r1 S fun q r => sm_rq q a.1 fun i => nx L (sm_gf w a.1 a.2.1 a.2.2.1 i σ :: r) σ
  | .putfield _ => sm_pf w a.1 a.2.1 a.2.2.1 S σ fun r s => nx L r s
  | .iaload => sm_a0 S fun q j r => sm_ild Z.1 Z.2.1 a.1 a.2.1 q j σ fun v => nx L (vI v :: r) σ
  | .baload => sm_a0 S fun q j r => sm_bld Z.2.2.1 a.1 a.2.1 q j σ fun v => nx L (vI v :: r) σ
  | .laload => sm_a0 S fun q j r => sm_rq q a.1 fun i => sm_ix j a.2.1 fun z => nx L (vL (σ.2.1 a.1 i z) :: r) σ
  | .aaload => sm_a0 S fun q j r => sm_rq q a.1 fun i => sm_ix j (bif a.2.1 == 0 then σ.2.2.2.1 a.1 i else a.2.1) fun z => nx L (vP (σ.2.2.1 a.1 i z) :: r) σ
  | .iastore => sm_aI S fun q j x r => sm_rq q a.1 fun i => sm_ix j a.2.1 fun z => nx L r (sI σ a.1 i z x)
  | .bastore => sm_aI S fun q j x r => sm_rq q a.1 fun i => sm_ix j a.2.1 fun z => nx L r (sI σ a.1 i z x.toInt8.toInt32)
  | .lastore => sm_aL S fun q j x r => sm_rq q a.1 fun i => sm_ix j a.2.1 fun z => nx L r (sL σ a.1 i z x)
  | .aastore => sm_aR S fun q j x r => sm_rq q a.1 fun i => sm_ix j (bif a.2.1 == 0 then σ.2.2.2.1 a.1 i else a.2.1) fun z => if x.1 = 0 ∨ x.1 = a.2.2.1 then nx L r (sR σ a.1 i z x) else none
  | .arraylength => sm_r1 S fun q r => sm_len Z.1 Z.2.1 Z.2.2.1 a.1 a.2.1 q σ fun v => nx L (vI v :: r) σ
  | .new _ => bif w && !(a.1 == 16 || a.1 == 18 || a.1 == 19) then none else nx L (vP (a.1, σ.2.2.2.2.1 a.1) :: S) (sN σ a.1 a.2.1 0)
  | .newarray _ => sm_p1 S fun n r => if n < 0 ∨ 100000 < n.toNatClampNeg ∨ ¬ (a.2.1 = 0 ∨ n.toNatClampNeg = a.2.1) then none else nx L (vP (a.1, σ.2.2.2.2.1 a.1) :: r) (sN σ a.1 n.toNatClampNeg n.toNatClampNeg)
  | .anewarray _ => sm_p1 S fun n r => if n < 0 ∨ 100000 < n.toNatClampNeg ∨ ¬ (a.2.1 = 0 ∨ n.toNatClampNeg = a.2.1) then none else nx L (vP (a.1, σ.2.2.2.2.1 a.1) :: r) (sN σ a.1 n.toNatClampNeg n.toNatClampNeg)
  | .invokestatic _ => match a.2.2.2 with
    | 1000 => match S with
      | .inl n :: .inl d :: .inr (.inr (.inl q)) :: .inl z :: .inr (.inr (.inl u)) :: r => if u.1 = 6 ∧ z = 0 ∧ d = 0 ∧ ¬ n < 0 ∧ n.toNatClampNeg ≤ (Z.2.1 u.2).length ∧ n.toNatClampNeg ≤ a.2.1 ∧ sm_cat r ≤ 8 then sm_rq q a.1 fun i => nx L r (sC σ a.1 i 0 n.toNatClampNeg fun k => (Z.2.1 u.2).getD k 0) else none
      | _ => none
    | _ => sm_cl C a hx S σ fun r s => nx L r s
  | .invokevirtual _ => sm_cl C a hx S σ fun r s => nx L r s
  | .invokespecial _ => match a.2.2.2 with
    | 1001 => match S with
      | .inr (.inr (.inl u)) :: .inr (.inr (.inl q)) :: r => if u.1 = 5 ∧ q.1 = 24 ∧ sm_cat r ≤ 8 then nx L r σ else none
      | _ => none
    | 1002 => sm_r1 S fun q r => if 10 ≤ q.1 ∧ sm_cat r ≤ 8 then nx L r σ else none
    | _ => sm_cl C a hx S σ fun r s => nx L r s
  | .athrow => sm_r1 S fun q _ => sm_rq q 24 fun _ => hx σ
  | .ireturn => match S with
    | [.inl x] => sm_rt a.1 x σ
    | _ => none
  | .lreturn => match S with
    | [.inr (.inl x)] => some (some (some (vL x)), σ)
    | _ => none
  | .areturn => match S with
    | [.inr (.inr (.inl q))] => some (some (some (vP q)), σ)
    | _ => none
  | .return_ => match S with
    | [] => some (some none, σ)
    | _ => none
  | _ => none
end
end
section
section
/-- a row of code: its place, the instruction, its length, what the tables say of it, which locals are of use (at a place where walks are cut) -/
abbrev sm_E : Type := Nat × Instr × Nat × (Nat × Nat × Nat × Nat) × Option (List Nat)
/-- a claim's code: rows by method; locals by method; handlers -/
abbrev sm_P : Type := (Nat → List sm_E) × (Nat → Nat) × (Nat → Nat → Option Nat)
def sm_find (pc : Nat) : List sm_E → Option sm_E
  | [] => none
  | e :: r => bif e.1 == pc then some e else sm_find pc r
def sm_lv (e : sm_E) (L : List sm_V) : List sm_V := match e.2.2.2.2 with
  | none => L
  | some l => sm_mask 0 l L
def sm_hx (P : sm_P) (m pc : Nat) (go : Nat → List sm_V → List sm_V → sm_S → sm_R) (L : List sm_V) (s : sm_S) : sm_R := match P.2.2 m pc with
  | none => some (none, s)
  | some h => go h L [vP (24, 0)] s
def sm_at (Z : sm_T) (P : sm_P) (w : Bool) (C : sm_C) (m : Nat) (e : sm_E) (go : Nat → List sm_V → List sm_V → sm_S → sm_R) (L S : List sm_V) (σ : sm_S) : sm_R :=
  sm_I Z w C e.2.1 e.2.2.2.1 e.1 (go (e.1 + e.2.2.1)) go (sm_hx P m e.1 go (sm_lv e L)) (sm_lv e L) S σ
def sm_run (Z : sm_T) (P : sm_P) (w : Bool) (C : sm_C) (m : Nat) : Nat → Nat → List sm_V → List sm_V → sm_S → sm_R
  | 0, _, _, _, _ => none
  | n + 1, pc, L, S, σ => match sm_find pc (P.1 m) with
    | none => none
    | some e => sm_at Z P w C m e (sm_run Z P w C m n) L S σ
end
section
theorem sm_p1_s (S : List sm_V) : (∀ k, sm_p1 S k = none) ∨ ∃ x r, S = vI x :: r := by
  rcases S with _ | ⟨v, r⟩
  · exact Or.inl fun _ => rfl
  · rcases v with x | x | x | x
    · exact Or.inr ⟨x, r, rfl⟩
    all_goals exact Or.inl fun _ => rfl
theorem sm_q1_s (S : List sm_V) : (∀ k, sm_q1 S k = none) ∨ ∃ x r, S = vL x :: r := by
  rcases S with _ | ⟨v, r⟩
  · exact Or.inl fun _ => rfl
  · rcases v with x | x | x | x
    · exact Or.inl fun _ => rfl
    · exact Or.inr ⟨x, r, rfl⟩
    all_goals exact Or.inl fun _ => rfl
theorem sm_r1_s (S : List sm_V) : (∀ k, sm_r1 S k = none) ∨ ∃ x r, S = vP x :: r := by
  rcases S with _ | ⟨v, r⟩
  · exact Or.inl fun _ => rfl
  · rcases v with x | x | x | x
    · exact Or.inl fun _ => rfl
    · exact Or.inl fun _ => rfl
    · exact Or.inr ⟨x, r, rfl⟩
    · exact Or.inl fun _ => rfl
theorem sm_p2_s (S : List sm_V) : (∀ k, sm_p2 S k = none) ∨ ∃ x y r, S = vI y :: vI x :: r := by
  rcases S with _ | ⟨v, _ | ⟨u, r⟩⟩
  · exact Or.inl fun _ => rfl
  · rcases v with x | x | x | x <;> exact Or.inl fun _ => rfl
  · rcases v with x | x | x | x <;> rcases u with y | y | y | y
    · exact Or.inr ⟨y, x, r, rfl⟩
    all_goals exact Or.inl fun _ => rfl
theorem sm_q2_s (S : List sm_V) : (∀ k, sm_q2 S k = none) ∨ ∃ x y r, S = vL y :: vL x :: r := by
  rcases S with _ | ⟨v, _ | ⟨u, r⟩⟩
  · exact Or.inl fun _ => rfl
  · rcases v with x | x | x | x <;> exact Or.inl fun _ => rfl
  · rcases v with x | x | x | x <;> rcases u with y | y | y | y
    all_goals first | exact Or.inl fun _ => rfl | exact Or.inr ⟨y, x, r, rfl⟩
theorem sm_r2_s (S : List sm_V) : (∀ k, sm_r2 S k = none) ∨ ∃ x y r, S = vP y :: vP x :: r := by
  rcases S with _ | ⟨v, _ | ⟨u, r⟩⟩
  · exact Or.inl fun _ => rfl
  · rcases v with x | x | x | x <;> exact Or.inl fun _ => rfl
  · rcases v with x | x | x | x <;> rcases u with y | y | y | y
    all_goals first | exact Or.inl fun _ => rfl | exact Or.inr ⟨y, x, r, rfl⟩
theorem sm_a0_s (S : List sm_V) : (∀ k, sm_a0 S k = none) ∨ ∃ j q r, S = vI j :: vP q :: r := by
  rcases S with _ | ⟨v, _ | ⟨u, r⟩⟩
  · exact Or.inl fun _ => rfl
  · rcases v with x | x | x | x <;> exact Or.inl fun _ => rfl
  · rcases v with x | x | x | x <;> rcases u with y | y | y | y
    all_goals first | exact Or.inl fun _ => rfl | exact Or.inr ⟨x, y, r, rfl⟩
theorem sm_aI_s (S : List sm_V) : (∀ k, sm_aI S k = none) ∨ ∃ x j q r, S = vI x :: vI j :: vP q :: r := by
  rcases S with _ | ⟨v, _ | ⟨u, _ | ⟨z, r⟩⟩⟩
  · exact Or.inl fun _ => rfl
  · rcases v with x | x | x | x <;> exact Or.inl fun _ => rfl
  · rcases v with x | x | x | x <;> rcases u with y | y | y | y <;> exact Or.inl fun _ => rfl
  · rcases v with x | x | x | x <;> rcases u with y | y | y | y <;> rcases z with z | z | z | z
    all_goals first | exact Or.inl fun _ => rfl | exact Or.inr ⟨x, y, z, r, rfl⟩
theorem sm_aL_s (S : List sm_V) : (∀ k, sm_aL S k = none) ∨ ∃ x j q r, S = vL x :: vI j :: vP q :: r := by
  rcases S with _ | ⟨v, _ | ⟨u, _ | ⟨z, r⟩⟩⟩
  · exact Or.inl fun _ => rfl
  · rcases v with x | x | x | x <;> exact Or.inl fun _ => rfl
  · rcases v with x | x | x | x <;> rcases u with y | y | y | y <;> exact Or.inl fun _ => rfl
  · rcases v with x | x | x | x <;> rcases u with y | y | y | y <;> rcases z with z | z | z | z
    all_goals first | exact Or.inl fun _ => rfl | exact Or.inr ⟨x, y, z, r, rfl⟩
theorem sm_aR_s (S : List sm_V) : (∀ k, sm_aR S k = none) ∨ ∃ x j q r, S = vP x :: vI j :: vP q :: r := by
  rcases S with _ | ⟨v, _ | ⟨u, _ | ⟨z, r⟩⟩⟩
  · exact Or.inl fun _ => rfl
  · rcases v with x | x | x | x <;> exact Or.inl fun _ => rfl
  · rcases v with x | x | x | x <;> rcases u with y | y | y | y <;> exact Or.inl fun _ => rfl
  · rcases v with x | x | x | x <;> rcases u with y | y | y | y <;> rcases z with z | z | z | z
    all_goals first | exact Or.inl fun _ => rfl | exact Or.inr ⟨x, y, z, r, rfl⟩
end
end
section
section
/-- what an instruction comes to, whatever comes behind it -/
abbrev sm_lin (F : (List sm_V → List sm_V → sm_S → sm_R) → (Nat → List sm_V → List sm_V → sm_S → sm_R) → (sm_S → sm_R) → sm_R) : Prop :=
  (∃ r0, ∀ nx jp hx, F nx jp hx = r0) ∨ (∃ L S s, ∀ nx jp hx, F nx jp hx = nx L S s) ∨ (∃ t L S s, ∀ nx jp hx, F nx jp hx = jp t L S s) ∨ (∃ s, ∀ nx jp hx, F nx jp hx = hx s)
theorem lin_n {F} (h : ∀ nx jp hx, F nx jp hx = none) : sm_lin F := Or.inl ⟨none, h⟩
theorem lin_r {F} (r0 : sm_R) (h : ∀ nx jp hx, F nx jp hx = r0) : sm_lin F := Or.inl ⟨r0, h⟩
theorem lin_x {F} (L S s) (h : ∀ nx jp hx, F nx jp hx = nx L S s) : sm_lin F := Or.inr (Or.inl ⟨L, S, s, h⟩)
theorem lin_j {F} (t L S s) (h : ∀ nx jp hx, F nx jp hx = jp t L S s) : sm_lin F := Or.inr (Or.inr (Or.inl ⟨t, L, S, s, h⟩))
theorem lin_h {F} (s) (h : ∀ nx jp hx, F nx jp hx = hx s) : sm_lin F := Or.inr (Or.inr (Or.inr ⟨s, h⟩))
theorem lin_e {F G} (h : ∀ nx jp hx, F nx jp hx = G nx jp hx) (k : sm_lin G) : sm_lin F := by
  rcases k with ⟨r0, k⟩ | ⟨L, S, s, k⟩ | ⟨t, L, S, s, k⟩ | ⟨s, k⟩
  · exact lin_r r0 fun a b c => (h a b c).trans (k a b c)
  · exact lin_x L S s fun a b c => (h a b c).trans (k a b c)
  · exact lin_j t L S s fun a b c => (h a b c).trans (k a b c)
  · exact lin_h s fun a b c => (h a b c).trans (k a b c)
theorem lin_if {c : Prop} [Decidable c] {F G} (h1 : c → sm_lin F) (h2 : ¬ c → sm_lin G) : sm_lin (fun nx jp hx => if c then F nx jp hx else G nx jp hx) := by
  by_cases h : c
  · exact lin_e (fun _ _ _ => if_pos h) (h1 h)
  · exact lin_e (fun _ _ _ => if_neg h) (h2 h)
theorem lin_rq {q : Nat × Nat} {t : Nat} {F : Nat → _ → _ → _ → sm_R} (h : ∀ i, q = (t, i) → sm_lin (F i)) : sm_lin (fun nx jp hx => sm_rq q t fun i => F i nx jp hx) :=
  lin_if (fun e => h q.2 (by rw [← e])) (fun _ => lin_n fun _ _ _ => rfl)
theorem lin_ix {x : Int32} {n : Nat} {F : Nat → _ → _ → _ → sm_R} (h : ∀ i, sm_lin (F i)) : sm_lin (fun nx jp hx => sm_ix x n fun i => F i nx jp hx) :=
  lin_if (fun _ => lin_n fun _ _ _ => rfl) (fun _ => h _)
theorem lin_b {b : Bool} {F G} (h1 : b = true → sm_lin F) (h2 : b = false → sm_lin G) : sm_lin (fun nx jp hx => bif b then F nx jp hx else G nx jp hx) := by
  cases b
  · exact h2 rfl
  · exact h1 rfl
theorem lin_sw {x : Int32} {d : Nat} {L S : List sm_V} {s : sm_S} : ∀ l : List (Int32 × Nat), sm_lin (fun _ jp _ => sm_sw x (fun t => jp t L S s) d l)
  | [] => lin_j d L S s fun _ _ _ => rfl
  | q :: r => lin_if (fun _ => lin_j q.2 L S s fun _ _ _ => rfl) (fun _ => lin_sw r)
theorem lin_ld {v : sm_V} {c : Nat} {F : sm_V → _ → _ → _ → sm_R} (h : ∀ u, sm_lin (F u)) : sm_lin (fun nx jp hx => sm_ld v (fun u => F u nx jp hx) c) := by
  rcases v with x | x | x | x <;> rcases c with _ | _ | _ | c <;> first | exact lin_n fun _ _ _ => rfl | exact h _
theorem lin_cl {C : sm_C} {a : Nat × Nat × Nat × Nat} {L S : List sm_V} {σ : sm_S} : sm_lin (fun nx _ hx => sm_cl C a hx S σ fun r s => nx L r s) := by
  obtain ⟨m, n, k, t⟩ := a
  unfold sm_cl
  dsimp only
  cases h : sm_take n [] S with
  | none => exact lin_n fun _ _ _ => rfl
  | some q =>
    obtain ⟨As, r⟩ := q
    dsimp only
    refine lin_if (fun _ => ?_) (fun _ => lin_n fun _ _ _ => rfl)
    have key : sm_lin (fun nx _ hx => match k with
        | 0 => sm_bV (C m As σ) hx fun s => nx L r s
        | 1 => sm_bI (C m As σ) hx fun x s => nx L (vI x :: r) s
        | 2 => sm_bL (C m As σ) hx fun x s => nx L (vL x :: r) s
        | _ => sm_bP (C m As σ) hx fun x s => nx L (vP x :: r) s) := by
      rcases hc : C m As σ with _ | ⟨_ | _ | o, s⟩
      · rcases k with _ | _ | _ | k <;> exact lin_n fun _ _ _ => rfl
      · rcases k with _ | _ | _ | k <;> exact lin_h s fun _ _ _ => rfl
      · rcases k with _ | _ | _ | k <;> first | exact lin_n fun _ _ _ => rfl | exact lin_x _ _ _ fun _ _ _ => rfl
      · rcases o with x | x | x | x <;> rcases k with _ | _ | _ | k <;> first | exact lin_n fun _ _ _ => rfl | exact lin_x _ _ _ fun _ _ _ => rfl
    cases t with
    | zero => exact key
    | succ t =>
      rcases As with _ | ⟨v, As⟩
      · exact lin_n fun _ _ _ => rfl
      · rcases v with x | x | x | x
        · exact lin_n fun _ _ _ => rfl
        · exact lin_n fun _ _ _ => rfl
        · exact lin_if (fun _ => key) (fun _ => lin_n fun _ _ _ => rfl)
        · exact lin_n fun _ _ _ => rfl
set_option maxHeartbeats 4000000 in
theorem sm_I_lin (Z : sm_T) (w : Bool) (C : sm_C) (ins : Instr) (a : Nat × Nat × Nat × Nat) (pc : Nat) (L S : List sm_V) (σ : sm_S) : sm_lin (fun nx jp hx => sm_I Z w C ins a pc nx jp hx L S σ) := by
  cases ins
  case invokevirtual i => exact lin_cl
  case invokestatic i =>
    obtain ⟨a1, a2, a3, a4⟩ := a
    by_cases h : a4 = 1000
    · subst h
      rcases S with _ | ⟨v1, _ | ⟨v2, _ | ⟨v3, _ | ⟨v4, _ | ⟨v5, r⟩⟩⟩⟩⟩
      · exact lin_n fun _ _ _ => rfl
      · rcases v1 with x | x | x | x <;> exact lin_n fun _ _ _ => rfl
      · rcases v1 with x | x | x | x <;> rcases v2 with y | y | y | y <;> exact lin_n fun _ _ _ => rfl
      · rcases v1 with x | x | x | x <;> rcases v2 with y | y | y | y <;> rcases v3 with z | z | z | z <;> exact lin_n fun _ _ _ => rfl
      · rcases v1 with x | x | x | x <;> rcases v2 with y | y | y | y <;> rcases v3 with z | z | z | z <;> rcases v4 with u | u | u | u <;> exact lin_n fun _ _ _ => rfl
      · rcases v1 with x | x | x | x <;> rcases v2 with y | y | y | y <;> rcases v3 with z | z | z | z <;> rcases v4 with u | u | u | u <;> rcases v5 with t | t | t | t
        all_goals first
          | exact lin_n fun _ _ _ => rfl
          | exact lin_if (fun _ => lin_rq fun i _ => lin_x _ _ _ fun _ _ _ => rfl) (fun _ => lin_n fun _ _ _ => rfl)
    · refine lin_e (G := fun nx _ hx => sm_cl C (a1, a2, a3, a4) hx S σ fun r s => nx L r s) (fun nx jp hx => ?_) lin_cl
      simp only [sm_I]
  case invokespecial i =>
    obtain ⟨a1, a2, a3, a4⟩ := a
    by_cases h : a4 = 1001
    · subst h
      rcases S with _ | ⟨v1, _ | ⟨v2, r⟩⟩
      · exact lin_n fun _ _ _ => rfl
      · rcases v1 with x | x | x | x <;> exact lin_n fun _ _ _ => rfl
      · rcases v1 with x | x | x | x <;> rcases v2 with y | y | y | y
        all_goals first
          | exact lin_n fun _ _ _ => rfl
          | exact lin_if (fun _ => lin_x _ _ _ fun _ _ _ => rfl) (fun _ => lin_n fun _ _ _ => rfl)
    · by_cases h2 : a4 = 1002
      · subst h2
        rcases sm_r1_s S with h | ⟨x, r, rfl⟩
        · exact lin_n fun _ _ _ => h _
        · exact lin_if (fun _ => lin_x _ _ _ fun _ _ _ => rfl) (fun _ => lin_n fun _ _ _ => rfl)
      · refine lin_e (G := fun nx _ hx => sm_cl C (a1, a2, a3, a4) hx S σ fun r s => nx L r s) (fun nx jp hx => ?_) lin_cl
        simp only [sm_I]
  case putfield i =>
    obtain ⟨a1, a2, a3, a4⟩ := a
    show sm_lin (fun nx _ _ => sm_pf w a1 a2 a3 S σ fun r s => nx L r s)
    rcases S with _ | ⟨v1, _ | ⟨v2, r⟩⟩
    · rcases a3 with _ | _ | _ | _ | _ | _ | _ | _ | _ | _ | n <;> first | exact lin_n fun _ _ _ => rfl | (cases w <;> exact lin_n fun _ _ _ => rfl)
    · rcases v1 with x | x | x | x <;> rcases a3 with _ | _ | _ | _ | _ | _ | _ | _ | _ | _ | n <;> first | exact lin_n fun _ _ _ => rfl | (cases w <;> exact lin_n fun _ _ _ => rfl)
    · rcases v1 with x | x | x | x <;> rcases v2 with y | y | y | y <;> rcases a3 with _ | _ | _ | _ | _ | _ | _ | _ | _ | _ | n
      all_goals first
        | exact lin_n fun _ _ _ => rfl
        | exact lin_rq fun i _ => lin_x _ _ _ fun _ _ _ => rfl
        | exact lin_if (fun _ => lin_rq fun i _ => lin_x _ _ _ fun _ _ _ => rfl) (fun _ => lin_n fun _ _ _ => rfl)
        | (cases w <;> first | exact lin_n fun _ _ _ => rfl | exact lin_rq fun i _ => lin_x _ _ _ fun _ _ _ => rfl)
  case dup =>
    rcases S with _ | ⟨v, r⟩
    · exact lin_n fun _ _ _ => rfl
    · exact lin_if (fun _ => lin_x _ _ _ fun _ _ _ => rfl) (fun _ => lin_n fun _ _ _ => rfl)
  case pop =>
    rcases S with _ | ⟨v, r⟩
    · exact lin_n fun _ _ _ => rfl
    · exact lin_if (fun _ => lin_x _ _ _ fun _ _ _ => rfl) (fun _ => lin_n fun _ _ _ => rfl)
  case dup2 =>
    rcases S with _ | ⟨v, _ | ⟨u, r⟩⟩
    · exact lin_n fun _ _ _ => rfl
    · exact lin_n fun _ _ _ => rfl
    · exact lin_if (fun _ => lin_x _ _ _ fun _ _ _ => rfl) (fun _ => lin_n fun _ _ _ => rfl)
  case ifCond c o =>
    rcases sm_p1_s S with h | ⟨x, r, rfl⟩
    · exact lin_n fun _ _ _ => h _
    · cases c <;> exact lin_if (fun _ => by first | exact lin_x _ _ _ fun _ _ _ => rfl | exact lin_j _ _ _ _ fun _ _ _ => rfl) (fun _ => by first | exact lin_x _ _ _ fun _ _ _ => rfl | exact lin_j _ _ _ _ fun _ _ _ => rfl)
  case if_icmp c o =>
    rcases sm_p2_s S with h | ⟨x, y, r, rfl⟩
    · exact lin_n fun _ _ _ => h _
    · cases c <;> exact lin_if (fun _ => by first | exact lin_x _ _ _ fun _ _ _ => rfl | exact lin_j _ _ _ _ fun _ _ _ => rfl) (fun _ => by first | exact lin_x _ _ _ fun _ _ _ => rfl | exact lin_j _ _ _ _ fun _ _ _ => rfl)
  case if_acmp c o =>
    rcases sm_r2_s S with h | ⟨x, y, r, rfl⟩
    · exact lin_n fun _ _ _ => h _
    · cases c <;> exact lin_if (fun _ => by first | exact lin_x _ _ _ fun _ _ _ => rfl | exact lin_j _ _ _ _ fun _ _ _ => rfl) (fun _ => lin_if (fun _ => by first | exact lin_x _ _ _ fun _ _ _ => rfl | exact lin_j _ _ _ _ fun _ _ _ => rfl) (fun _ => lin_n fun _ _ _ => rfl))
  case ifnull o =>
    rcases sm_r1_s S with h | ⟨x, r, rfl⟩
    · exact lin_n fun _ _ _ => h _
    · exact lin_if (fun _ => by first | exact lin_x _ _ _ fun _ _ _ => rfl | exact lin_j _ _ _ _ fun _ _ _ => rfl) (fun _ => by first | exact lin_x _ _ _ fun _ _ _ => rfl | exact lin_j _ _ _ _ fun _ _ _ => rfl)
  case ifnonnull o =>
    rcases sm_r1_s S with h | ⟨x, r, rfl⟩
    · exact lin_n fun _ _ _ => h _
    · exact lin_if (fun _ => by first | exact lin_x _ _ _ fun _ _ _ => rfl | exact lin_j _ _ _ _ fun _ _ _ => rfl) (fun _ => by first | exact lin_x _ _ _ fun _ _ _ => rfl | exact lin_j _ _ _ _ fun _ _ _ => rfl)
  case tableswitch d lo hi os =>
    rcases sm_p1_s S with h | ⟨x, r, rfl⟩
    · exact lin_n fun _ _ _ => h _
    · exact lin_sw _
  case lookupswitch d ps =>
    rcases sm_p1_s S with h | ⟨x, r, rfl⟩
    · exact lin_n fun _ _ _ => h _
    · exact lin_sw _
  case iaload =>
    rcases sm_a0_s S with h | ⟨j, q, r, rfl⟩
    · exact lin_n fun _ _ _ => h _
    · exact lin_b (fun _ => lin_rq fun _ _ => lin_ix fun _ => lin_x _ _ _ fun _ _ _ => rfl) (fun _ => lin_b (fun _ => lin_rq fun _ _ => lin_ix fun _ => lin_x _ _ _ fun _ _ _ => rfl) (fun _ => lin_rq fun _ _ => lin_ix fun _ => lin_x _ _ _ fun _ _ _ => rfl))
  case baload =>
    rcases sm_a0_s S with h | ⟨j, q, r, rfl⟩
    · exact lin_n fun _ _ _ => h _
    · exact lin_b (fun _ => lin_rq fun _ _ => lin_ix fun _ => lin_x _ _ _ fun _ _ _ => rfl) (fun _ => lin_rq fun _ _ => lin_ix fun _ => lin_x _ _ _ fun _ _ _ => rfl)
  case arraylength =>
    rcases sm_r1_s S with h | ⟨q, r, rfl⟩
    · exact lin_n fun _ _ _ => h _
    · exact lin_b (fun _ => lin_rq fun _ _ => lin_x _ _ _ fun _ _ _ => rfl) (fun _ => lin_b (fun _ => lin_rq fun _ _ => lin_x _ _ _ fun _ _ _ => rfl) (fun _ => lin_b (fun _ => lin_rq fun _ _ => lin_x _ _ _ fun _ _ _ => rfl) (fun _ => lin_rq fun _ _ => lin_x _ _ _ fun _ _ _ => rfl)))
  case laload =>
    rcases sm_a0_s S with h | ⟨j, q, r, rfl⟩
    · exact lin_n fun _ _ _ => h _
    · exact lin_rq fun _ _ => lin_ix fun _ => lin_x _ _ _ fun _ _ _ => rfl
  case aaload =>
    rcases sm_a0_s S with h | ⟨j, q, r, rfl⟩
    · exact lin_n fun _ _ _ => h _
    · exact lin_rq fun _ _ => lin_ix fun _ => lin_x _ _ _ fun _ _ _ => rfl
  case iastore =>
    rcases sm_aI_s S with h | ⟨x, j, q, r, rfl⟩
    · exact lin_n fun _ _ _ => h _
    · exact lin_rq fun _ _ => lin_ix fun _ => lin_x _ _ _ fun _ _ _ => rfl
  case bastore =>
    rcases sm_aI_s S with h | ⟨x, j, q, r, rfl⟩
    · exact lin_n fun _ _ _ => h _
    · exact lin_rq fun _ _ => lin_ix fun _ => lin_x _ _ _ fun _ _ _ => rfl
  case lastore =>
    rcases sm_aL_s S with h | ⟨x, j, q, r, rfl⟩
    · exact lin_n fun _ _ _ => h _
    · exact lin_rq fun _ _ => lin_ix fun _ => lin_x _ _ _ fun _ _ _ => rfl
  case aastore =>
    rcases sm_aR_s S with h | ⟨x, j, q, r, rfl⟩
    · exact lin_n fun _ _ _ => h _
    · exact lin_rq fun _ _ => lin_ix fun _ => lin_if (fun _ => lin_x _ _ _ fun _ _ _ => rfl) (fun _ => lin_n fun _ _ _ => rfl)
  case new i => exact lin_b (fun _ => lin_n fun _ _ _ => rfl) (fun _ => lin_x _ _ _ fun _ _ _ => rfl)
  case newarray t =>
    rcases sm_p1_s S with h | ⟨x, r, rfl⟩
    · exact lin_n fun _ _ _ => h _
    · exact lin_if (fun _ => lin_n fun _ _ _ => rfl) (fun _ => lin_x _ _ _ fun _ _ _ => rfl)
  case anewarray t =>
    rcases sm_p1_s S with h | ⟨x, r, rfl⟩
    · exact lin_n fun _ _ _ => h _
    · exact lin_if (fun _ => lin_n fun _ _ _ => rfl) (fun _ => lin_x _ _ _ fun _ _ _ => rfl)
  case idiv =>
    rcases sm_p2_s S with h | ⟨x, y, r, rfl⟩
    · exact lin_n fun _ _ _ => h _
    · exact lin_if (fun _ => lin_n fun _ _ _ => rfl) (fun _ => lin_x _ _ _ fun _ _ _ => rfl)
  case irem =>
    rcases sm_p2_s S with h | ⟨x, y, r, rfl⟩
    · exact lin_n fun _ _ _ => h _
    · exact lin_if (fun _ => lin_n fun _ _ _ => rfl) (fun _ => lin_x _ _ _ fun _ _ _ => rfl)
  case getfield i =>
    rcases sm_r1_s S with h | ⟨q, r, rfl⟩
    · exact lin_n fun _ _ _ => h _
    · exact lin_rq fun _ _ => lin_x _ _ _ fun _ _ _ => rfl
  case lshl =>
    rcases sm_p1_s S with h | ⟨y, r, rfl⟩
    · exact lin_n fun _ _ _ => h _
    · rcases sm_q1_s r with h | ⟨x, r, rfl⟩
      · exact lin_n fun _ _ _ => h _
      · exact lin_x _ _ _ fun _ _ _ => rfl
  case athrow =>
    rcases sm_r1_s S with h | ⟨q, r, rfl⟩
    · exact lin_n fun _ _ _ => h _
    · exact lin_rq fun _ _ => lin_h _ fun _ _ _ => rfl
  case getstatic i => rcases a with ⟨_ | _ | a, b⟩ <;> exact lin_x _ _ _ fun _ _ _ => rfl
  case ldc i => rcases a with ⟨_ | a, b⟩ <;> exact lin_x _ _ _ fun _ _ _ => rfl
  case ldc_w i => rcases a with ⟨_ | a, b⟩ <;> exact lin_x _ _ _ fun _ _ _ => rfl
  case goto o => exact lin_j _ _ _ _ fun _ _ _ => rfl
  case iinc i n =>
    refine lin_ld (F := fun v nx _ _ => match v with
      | .inl x => nx (sm_st1 L i (vI (x + Int32.ofInt n))) S σ
      | _ => none) fun v => ?_
    rcases v with x | x | x | x <;> first | exact lin_n fun _ _ _ => rfl | exact lin_x _ _ _ fun _ _ _ => rfl
  case iload i =>
    exact lin_ld (F := fun v nx _ _ => nx L (v :: S) σ) fun v => lin_x _ _ _ fun _ _ _ => rfl
  case iload_n i =>
    exact lin_ld (F := fun v nx _ _ => nx L (v :: S) σ) fun v => lin_x _ _ _ fun _ _ _ => rfl
  case lload i =>
    exact lin_ld (F := fun v nx _ _ => nx L (v :: S) σ) fun v => lin_x _ _ _ fun _ _ _ => rfl
  case lload_n i =>
    exact lin_ld (F := fun v nx _ _ => nx L (v :: S) σ) fun v => lin_x _ _ _ fun _ _ _ => rfl
  case aload i =>
    exact lin_ld (F := fun v nx _ _ => nx L (v :: S) σ) fun v => lin_x _ _ _ fun _ _ _ => rfl
  case aload_n i =>
    exact lin_ld (F := fun v nx _ _ => nx L (v :: S) σ) fun v => lin_x _ _ _ fun _ _ _ => rfl
  case ireturn =>
    rcases S with _ | ⟨v, _ | ⟨u, r⟩⟩
    · exact lin_n fun _ _ _ => rfl
    · rcases v with x | x | x | x <;> first | exact lin_n fun _ _ _ => rfl | exact lin_r (sm_rt a.1 x σ) fun _ _ _ => rfl
    · rcases v with x | x | x | x <;> exact lin_n fun _ _ _ => rfl
  case lreturn =>
    rcases S with _ | ⟨v, _ | ⟨u, r⟩⟩
    · exact lin_n fun _ _ _ => rfl
    · rcases v with x | x | x | x <;> first | exact lin_n fun _ _ _ => rfl | exact lin_r _ fun _ _ _ => rfl
    · rcases v with x | x | x | x <;> exact lin_n fun _ _ _ => rfl
  case areturn =>
    rcases S with _ | ⟨v, _ | ⟨u, r⟩⟩
    · exact lin_n fun _ _ _ => rfl
    · rcases v with x | x | x | x <;> first | exact lin_n fun _ _ _ => rfl | exact lin_r _ fun _ _ _ => rfl
    · rcases v with x | x | x | x <;> exact lin_n fun _ _ _ => rfl
  case return_ =>
    rcases S with _ | ⟨v, r⟩
    · exact lin_r _ fun _ _ _ => rfl
    · exact lin_n fun _ _ _ => rfl
  all_goals first
    | exact lin_n fun _ _ _ => rfl
    | exact lin_x _ _ _ fun _ _ _ => rfl
    | (rcases sm_p1_s S with h | ⟨x, r, rfl⟩
       · exact lin_n fun _ _ _ => h _
       · exact lin_x _ _ _ fun _ _ _ => rfl)
    | (rcases sm_p2_s S with h | ⟨x, y, r, rfl⟩
       · exact lin_n fun _ _ _ => h _
       · exact lin_x _ _ _ fun _ _ _ => rfl)
    | (rcases sm_q1_s S with h | ⟨x, r, rfl⟩
       · exact lin_n fun _ _ _ => h _
       · exact lin_x _ _ _ fun _ _ _ => rfl)
    | (rcases sm_q2_s S with h | ⟨x, y, r, rfl⟩
       · exact lin_n fun _ _ _ => h _
       · exact lin_x _ _ _ fun _ _ _ => rfl)
    | (rcases sm_r1_s S with h | ⟨x, r, rfl⟩
       · exact lin_n fun _ _ _ => h _
       · exact lin_x _ _ _ fun _ _ _ => rfl)
end
end
section
section
variable {Z : sm_T} {P : sm_P} {w : Bool} {C : sm_C} {m : Nat}
/-- one row of code, with other things behind it -/
theorem sm_at_mono {e : sm_E} {g g' : Nat → List sm_V → List sm_V → sm_S → sm_R} (h : ∀ pc L S s r, g pc L S s = some r → g' pc L S s = some r) {L S : List sm_V} {σ : sm_S} {r : sm_O × sm_S} (k : sm_at Z P w C m e g L S σ = some r) : sm_at Z P w C m e g' L S σ = some r := by
  unfold sm_at at k ⊢
  rcases sm_I_lin Z w C e.2.1 e.2.2.2.1 e.1 (sm_lv e L) S σ with ⟨r0, q⟩ | ⟨L1, S1, s1, q⟩ | ⟨t, L1, S1, s1, q⟩ | ⟨s1, q⟩ <;> dsimp only at q
  · rw [q] at k ⊢; exact k
  · rw [q] at k ⊢; exact h _ _ _ _ _ k
  · rw [q] at k ⊢; exact h _ _ _ _ _ k
  · rw [q] at k ⊢
    unfold sm_hx at k ⊢
    cases hh : P.2.2 m e.1 with
    | none => rw [hh] at k; exact k
    | some z => rw [hh] at k; exact h _ _ _ _ _ k
theorem sm_run_mono : ∀ (n : Nat) {pc : Nat} {L S : List sm_V} {σ : sm_S} {r : sm_O × sm_S}, sm_run Z P w C m n pc L S σ = some r → sm_run Z P w C m (n + 1) pc L S σ = some r
  | 0, _, _, _, _, _, h => by cases h
  | n + 1, pc, L, S, σ, r, h => by
    rw [sm_run] at h ⊢
    cases hf : sm_find pc (P.1 m) with
    | none => rw [hf] at h; cases h
    | some e =>
      rw [hf] at h
      exact sm_at_mono (fun _ _ _ _ _ q => sm_run_mono n q) h
theorem sm_run_le {n k : Nat} (hk : n ≤ k) {pc : Nat} {L S : List sm_V} {σ : sm_S} {r : sm_O × sm_S} (h : sm_run Z P w C m n pc L S σ = some r) : sm_run Z P w C m k pc L S σ = some r := by
  obtain ⟨d, rfl⟩ := Nat.exists_eq_add_of_le hk
  induction d with
  | zero => exact h
  | succ d ih => exact sm_run_mono _ (ih (Nat.le_add_right _ _))
/-- the limit of the runs -/
noncomputable def sm_go (Z : sm_T) (P : sm_P) (w : Bool) (C : sm_C) (m pc : Nat) (L S : List sm_V) (σ : sm_S) : sm_R := @dite _ (∃ n r, sm_run Z P w C m n pc L S σ = some r) (Classical.propDecidable _) (fun h => some (Classical.choose (Classical.choose_spec h))) (fun _ => none)
theorem sm_go_some {pc : Nat} {L S : List sm_V} {σ : sm_S} {r : sm_O × sm_S} : sm_go Z P w C m pc L S σ = some r ↔ ∃ n, sm_run Z P w C m n pc L S σ = some r := by
  unfold sm_go
  constructor
  · intro h
    split at h
    · rename_i q
      have e := Classical.choose_spec (Classical.choose_spec q)
      rw [Option.some.inj h] at e
      exact ⟨_, e⟩
    · cases h
  · rintro ⟨n, h⟩
    have q : ∃ n r, sm_run Z P w C m n pc L S σ = some r := ⟨n, r, h⟩
    rw [dif_pos q]
    have e := Classical.choose_spec (Classical.choose_spec q)
    have e1 := sm_run_le (Nat.le_max_left (Classical.choose q) n) e
    have e2 := sm_run_le (Nat.le_max_right (Classical.choose q) n) h
    rw [e1] at e2
    exact e2
theorem sm_at_lim {e : sm_E} {L S : List sm_V} {σ : sm_S} {r : sm_O × sm_S} (k : sm_at Z P w C m e (sm_go Z P w C m) L S σ = some r) : ∃ n, sm_at Z P w C m e (sm_run Z P w C m n) L S σ = some r := by
  unfold sm_at at k ⊢
  rcases sm_I_lin Z w C e.2.1 e.2.2.2.1 e.1 (sm_lv e L) S σ with ⟨r0, q⟩ | ⟨L1, S1, s1, q⟩ | ⟨t, L1, S1, s1, q⟩ | ⟨s1, q⟩ <;> dsimp only at q
  · rw [q] at k
    exact ⟨0, by rw [q]; exact k⟩
  · rw [q] at k
    obtain ⟨n, h⟩ := sm_go_some.mp k
    exact ⟨n, by rw [q]; exact h⟩
  · rw [q] at k
    obtain ⟨n, h⟩ := sm_go_some.mp k
    exact ⟨n, by rw [q]; exact h⟩
  · rw [q] at k
    unfold sm_hx at k
    cases hh : P.2.2 m e.1 with
    | none =>
      rw [hh] at k
      exact ⟨0, by rw [q]; unfold sm_hx; rw [hh]; exact k⟩
    | some z =>
      rw [hh] at k
      obtain ⟨n, h⟩ := sm_go_some.mp k
      exact ⟨n, by rw [q]; unfold sm_hx; rw [hh]; exact h⟩
theorem sm_go_eq (pc : Nat) (L S : List sm_V) (σ : sm_S) : sm_go Z P w C m pc L S σ = match sm_find pc (P.1 m) with
    | none => none
    | some e => sm_at Z P w C m e (sm_go Z P w C m) L S σ := by
  apply Option.ext
  intro r
  constructor
  · intro h
    obtain ⟨n, h⟩ := sm_go_some.mp h
    cases n with
    | zero => cases h
    | succ n =>
      rw [sm_run] at h
      cases hf : sm_find pc (P.1 m) with
      | none => rw [hf] at h; cases h
      | some e =>
        rw [hf] at h
        exact sm_at_mono (fun _ _ _ _ _ q => sm_go_some.mpr ⟨n, q⟩) h
  · intro h
    cases hf : sm_find pc (P.1 m) with
    | none => rw [hf] at h; cases h
    | some e =>
      rw [hf] at h
      obtain ⟨n, h⟩ := sm_at_lim h
      exact sm_go_some.mpr ⟨n + 1, by rw [sm_run, hf]; exact h⟩
/-- the rest of the code from a place on -/
def sm_seek (pc : Nat) : List sm_E → List sm_E
  | [] => []
  | e :: r => bif e.1 == pc then e :: r else sm_seek pc r
theorem sm_find_seek (pc : Nat) : ∀ l : List sm_E, sm_find pc l = (sm_seek pc l).head?
  | [] => rfl
  | e :: r => by
    rw [sm_find, sm_seek]
    cases e.1 == pc
    · exact sm_find_seek pc r
    · rfl
/-- rows follow each other -/
def sm_chain : Nat → List sm_E → Bool
  | _, [] => true
  | n, e :: r => e.1 == n && (0 < e.2.2.1 && sm_chain (n + e.2.2.1) r)
theorem sm_seek_at : ∀ (pre : List sm_E) (n : Nat) (e : sm_E) (r : List sm_E), sm_chain n (pre ++ e :: r) = true → n ≤ e.1 ∧ (∀ x ∈ pre, x.1 < e.1) ∧ sm_chain (e.1 + e.2.2.1) r = true
  | [], n, e, r, h => by
    simp only [List.nil_append, sm_chain, Bool.and_eq_true, beq_iff_eq, decide_eq_true_eq] at h
    obtain ⟨h1, h2, h3⟩ := h
    exact ⟨by omega, fun x hx => (by cases hx), by rw [h1]; exact h3⟩
  | x :: pre, n, e, r, h => by
    simp only [List.cons_append, sm_chain, Bool.and_eq_true, beq_iff_eq, decide_eq_true_eq] at h
    obtain ⟨h1, h2, h3⟩ := h
    obtain ⟨a, b, c⟩ := sm_seek_at pre _ e r h3
    refine ⟨by omega, fun y hy => ?_, c⟩
    rcases List.mem_cons.mp hy with rfl | hy
    · omega
    · exact b y hy
theorem sm_seek_mid : ∀ (pre : List sm_E) (e : sm_E) (r : List sm_E), (∀ x ∈ pre, x.1 < e.1) → sm_seek e.1 (pre ++ e :: r) = e :: r
  | [], e, r, _ => by simp [sm_seek]
  | x :: pre, e, r, h => by
    have hx : (x.1 == e.1) = false := by
      have := h x List.mem_cons_self
      simp; omega
    rw [List.cons_append, sm_seek, hx]
    exact sm_seek_mid pre e r fun y hy => h y (List.mem_cons_of_mem _ hy)
theorem sm_seek_pre (pc : Nat) : ∀ l : List sm_E, ∃ pre, l = pre ++ sm_seek pc l
  | [] => ⟨[], rfl⟩
  | e :: r => by
    rw [sm_seek]
    cases e.1 == pc
    · obtain ⟨pre, h⟩ := sm_seek_pre pc r
      exact ⟨e :: pre, by rw [List.cons_append]; exact congrArg _ h⟩
    · exact ⟨[], rfl⟩
theorem sm_seek_hd {pc : Nat} : ∀ {l : List sm_E} {e : sm_E} {r : List sm_E}, sm_seek pc l = e :: r → e.1 = pc
  | [], _, _, h => by cases h
  | x :: l, e, r, h => by
    rw [sm_seek] at h
    cases hx : x.1 == pc
    · rw [hx] at h
      exact sm_seek_hd (l := l) h
    · rw [hx] at h
      simp only [cond_true, List.cons.injEq] at h
      rw [← h.1]
      exact beq_iff_eq.mp hx
theorem sm_chain_hd {n : Nat} {l : List sm_E} (h : sm_chain n l = true) : l = [] ∨ ∃ e r, l = e :: r ∧ e.1 = n := by
  cases l with
  | nil => exact Or.inl rfl
  | cons e r =>
    simp only [sm_chain, Bool.and_eq_true, beq_iff_eq] at h
    exact Or.inr ⟨e, r, rfl, h.1⟩
/-- the walk from a row on, up to the next cut -/
def sm_ex (Z : sm_T) (P : sm_P) (w : Bool) (C : sm_C) (m : Nat) (G : Nat → List sm_V → List sm_V → sm_S → sm_R) (cd : List sm_E) : Nat → List sm_E → List sm_V → List sm_V → sm_S → sm_R
  | _, [], _, _, _ => none
  | 0, e :: _, L, S, σ => G e.1 L S σ
  | k + 1, e :: r, L, S, σ => match e.2.2.2.2 with
    | some _ => G e.1 L S σ
    | none => sm_I Z w C e.2.1 e.2.2.2.1 e.1 (sm_ex Z P w C m G cd k r) (fun t => sm_ex Z P w C m G cd k (sm_seek t cd)) (sm_hx P m e.1 G L) L S σ
/-- the same from a cut -/
def sm_x1 (Z : sm_T) (P : sm_P) (w : Bool) (C : sm_C) (m : Nat) (G : Nat → List sm_V → List sm_V → sm_S → sm_R) (cd : List sm_E) (k : Nat) (l : List sm_E) (L S : List sm_V) (σ : sm_S) : sm_R := match l with
  | [] => none
  | e :: r => sm_I Z w C e.2.1 e.2.2.2.1 e.1 (sm_ex Z P w C m G cd k r) (fun t => sm_ex Z P w C m G cd k (sm_seek t cd)) (sm_hx P m e.1 G (sm_lv e L)) (sm_lv e L) S σ
theorem sm_go_none {pc : Nat} (h : sm_seek pc (P.1 m) = []) (L S : List sm_V) (σ : sm_S) : sm_go Z P w C m pc L S σ = none := by
  rw [sm_go_eq, sm_find_seek, h]
  rfl
theorem sm_go_row {e : sm_E} {pre r : List sm_E} (hp : P.1 m = pre ++ e :: r) (hc : sm_chain 0 (P.1 m) = true) (L S : List sm_V) (σ : sm_S) : sm_go Z P w C m e.1 L S σ = sm_at Z P w C m e (sm_go Z P w C m) L S σ := by
  have h := sm_seek_at pre 0 e r (by rw [← hp]; exact hc)
  rw [sm_go_eq, sm_find_seek, hp, sm_seek_mid pre e r h.2.1]
  rfl
theorem sm_seek_next : ∀ (pre : List sm_E) (n : Nat) (e : sm_E) (r : List sm_E), sm_chain n (pre ++ e :: r) = true → sm_seek (e.1 + e.2.2.1) (pre ++ e :: r) = r
  | [], n, e, r, h => by
    simp only [List.nil_append, sm_chain, Bool.and_eq_true, beq_iff_eq, decide_eq_true_eq] at h
    obtain ⟨h1, h2, h3⟩ := h
    have hx : (e.1 == e.1 + e.2.2.1) = false := by simp; omega
    rw [List.nil_append, sm_seek, hx]
    show sm_seek (e.1 + e.2.2.1) r = r
    rcases sm_chain_hd h3 with rfl | ⟨f, r', rfl, hf⟩
    · rfl
    · rw [sm_seek, hf, h1]; simp
  | x :: pre, n, e, r, h => by
    have q := sm_seek_at (x :: pre) n e r h
    simp only [List.cons_append, sm_chain, Bool.and_eq_true, beq_iff_eq, decide_eq_true_eq] at h
    have hx : (x.1 == e.1 + e.2.2.1) = false := by
      have := q.2.1 x List.mem_cons_self
      simp; omega
    rw [List.cons_append, sm_seek, hx]
    exact sm_seek_next pre _ e r h.2.2
theorem sm_ex_go (hc : sm_chain 0 (P.1 m) = true) : ∀ (k : Nat) (pc : Nat) (L S : List sm_V) (σ : sm_S), sm_ex Z P w C m (sm_go Z P w C m) (P.1 m) k (sm_seek pc (P.1 m)) L S σ = sm_go Z P w C m pc L S σ
  | k, pc, L, S, σ => by
    obtain ⟨pre, hp⟩ := sm_seek_pre pc (P.1 m)
    cases hs : sm_seek pc (P.1 m) with
    | nil =>
      rw [sm_go_none hs]
      cases k <;> rfl
    | cons e r =>
      rw [hs] at hp
      have hpc := sm_seek_hd hs
      cases k with
      | zero => show sm_go Z P w C m e.1 L S σ = _; rw [hpc]
      | succ k =>
        rw [sm_ex]
        cases hm : e.2.2.2.2 with
        | some l => show sm_go Z P w C m e.1 L S σ = _; rw [hpc]
        | none =>
          rw [← hpc, sm_go_row hp hc]
          have hl : sm_lv e L = L := by unfold sm_lv; rw [hm]
          have hn : sm_seek (e.1 + e.2.2.1) (P.1 m) = r := by
            rw [hp]; exact sm_seek_next pre 0 e r (by rw [← hp]; exact hc)
          have e1 : sm_ex Z P w C m (sm_go Z P w C m) (P.1 m) k r = sm_go Z P w C m (e.1 + e.2.2.1) := by
            funext L1 S1 s1
            rw [← hn]
            exact sm_ex_go hc k _ L1 S1 s1
          have e2 : (fun t => sm_ex Z P w C m (sm_go Z P w C m) (P.1 m) k (sm_seek t (P.1 m))) = sm_go Z P w C m := by
            funext t L1 S1 s1
            exact sm_ex_go hc k t L1 S1 s1
          unfold sm_at
          rw [hl]
          show sm_I Z w C e.2.1 e.2.2.2.1 e.1 _ _ _ L S σ = _
          rw [e1, e2]
/-- FROM A CUT TO THE NEXT ONES -/
theorem sm_go_x {cd : List sm_E} (hcd : P.1 m = cd) (hc : sm_chain 0 cd = true) (k pc : Nat) (L S : List sm_V) (σ : sm_S) : sm_go Z P w C m pc L S σ = sm_x1 Z P w C m (sm_go Z P w C m) cd k (sm_seek pc cd) L S σ := by
  subst hcd
  obtain ⟨pre, hp⟩ := sm_seek_pre pc (P.1 m)
  cases hs : sm_seek pc (P.1 m) with
  | nil => exact sm_go_none hs _ _ _
  | cons e r =>
    rw [hs] at hp
    have hpc := sm_seek_hd hs
    have hn : sm_seek (e.1 + e.2.2.1) (P.1 m) = r := by
      rw [hp]; exact sm_seek_next pre 0 e r (by rw [← hp]; exact hc)
    have e1 : sm_ex Z P w C m (sm_go Z P w C m) (P.1 m) k r = sm_go Z P w C m (e.1 + e.2.2.1) := by
      funext L1 S1 s1
      rw [← hn]
      exact sm_ex_go hc k _ L1 S1 s1
    have e2 : (fun t => sm_ex Z P w C m (sm_go Z P w C m) (P.1 m) k (sm_seek t (P.1 m))) = sm_go Z P w C m := by
      funext t L1 S1 s1
      exact sm_ex_go hc k t L1 S1 s1
    rw [← hpc, sm_go_row hp hc]
    unfold sm_at sm_x1
    show _ = sm_I Z w C e.2.1 e.2.2.2.1 e.1 _ _ _ (sm_lv e L) S σ
    rw [e1, e2]
end
end
section
section
/-- cells and slots only grow -/
abbrev sm_mo (σ s : sm_S) : Prop := (σ.2.2.2.2.2.2.1 ≤ s.2.2.2.2.2.2.1 ∧ σ.2.2.2.2.2.2.2 ≤ s.2.2.2.2.2.2.2) ∧ (∀ t, σ.2.2.2.2.1 t ≤ s.2.2.2.2.1 t) ∧ ∀ t i, i < σ.2.2.2.2.1 t → s.2.2.2.2.2.1 t i = σ.2.2.2.2.2.1 t i
theorem mo_eq {σ s : sm_S} (h : s.2.2.2.2 = σ.2.2.2.2) : sm_mo σ s := by
  unfold sm_mo
  rw [h]
  exact ⟨⟨Nat.le_refl _, Nat.le_refl _⟩, fun _ => Nat.le_refl _, fun _ _ _ => rfl⟩
theorem mo_new {σ : sm_S} {t n m : Nat} : sm_mo σ (sN σ t n m) := by
  refine ⟨⟨Nat.le_succ _, Nat.le_add_right _ _⟩, fun t' => ?_, fun t' i hi => ?_⟩
  · show σ.2.2.2.2.1 t' ≤ (if t' = t then σ.2.2.2.2.1 t + 1 else σ.2.2.2.2.1 t')
    split
    · next h => rw [h]; exact Nat.le_succ _
    · exact Nat.le_refl _
  · show (if t' = t ∧ i = σ.2.2.2.2.1 t then σ.2.2.2.2.2.2.1 else σ.2.2.2.2.2.1 t' i) = _
    rw [if_neg]
    rintro ⟨rfl, rfl⟩
    omega
theorem mo_trans {σ s u : sm_S} (h : sm_mo σ s) (k : sm_mo s u) : sm_mo σ u :=
  ⟨⟨Nat.le_trans h.1.1 k.1.1, Nat.le_trans h.1.2 k.1.2⟩, fun t => Nat.le_trans (h.2.1 t) (k.2.1 t), fun t i hi => (k.2.2 t i (Nat.lt_of_lt_of_le hi (h.2.1 t))).trans (h.2.2 t i hi)⟩
abbrev sm_lim (σ : sm_S) (F : (List sm_V → List sm_V → sm_S → sm_R) → (Nat → List sm_V → List sm_V → sm_S → sm_R) → (sm_S → sm_R) → sm_R) : Prop :=
  (∃ r0, (∀ o s, r0 = some (o, s) → sm_mo σ s) ∧ ∀ nx jp hx, F nx jp hx = r0) ∨ (∃ L S s, sm_mo σ s ∧ ∀ nx jp hx, F nx jp hx = nx L S s) ∨ (∃ t L S s, sm_mo σ s ∧ ∀ nx jp hx, F nx jp hx = jp t L S s) ∨ (∃ s, sm_mo σ s ∧ ∀ nx jp hx, F nx jp hx = hx s)
variable {σ : sm_S}
theorem lim_n {F} (h : ∀ nx jp hx, F nx jp hx = none) : sm_lim σ F := Or.inl ⟨none, fun _ _ q => (by cases q), h⟩
theorem lim_r {F} (r0 : sm_R) (h : ∀ nx jp hx, F nx jp hx = r0) (hm : ∀ o s, r0 = some (o, s) → sm_mo σ s := by intro o s q; cases q; exact mo_eq rfl) : sm_lim σ F := Or.inl ⟨r0, hm, h⟩
theorem lim_x {F} (L S s) (h : ∀ nx jp hx, F nx jp hx = nx L S s) (hm : sm_mo σ s := by first | assumption | exact mo_eq rfl | exact mo_new) : sm_lim σ F := Or.inr (Or.inl ⟨L, S, s, hm, h⟩)
theorem lim_j {F} (t L S s) (h : ∀ nx jp hx, F nx jp hx = jp t L S s) (hm : sm_mo σ s := by exact mo_eq rfl) : sm_lim σ F := Or.inr (Or.inr (Or.inl ⟨t, L, S, s, hm, h⟩))
theorem lim_h {F} (s) (h : ∀ nx jp hx, F nx jp hx = hx s) (hm : sm_mo σ s := by first | assumption | exact mo_eq rfl) : sm_lim σ F := Or.inr (Or.inr (Or.inr ⟨s, hm, h⟩))
theorem lim_e {F G} (h : ∀ nx jp hx, F nx jp hx = G nx jp hx) (k : sm_lim σ G) : sm_lim σ F := by
  rcases k with ⟨r0, hm, k⟩ | ⟨L, S, s, hm, k⟩ | ⟨t, L, S, s, hm, k⟩ | ⟨s, hm, k⟩
  · exact Or.inl ⟨r0, hm, fun a b c => (h a b c).trans (k a b c)⟩
  · exact Or.inr (Or.inl ⟨L, S, s, hm, fun a b c => (h a b c).trans (k a b c)⟩)
  · exact Or.inr (Or.inr (Or.inl ⟨t, L, S, s, hm, fun a b c => (h a b c).trans (k a b c)⟩))
  · exact Or.inr (Or.inr (Or.inr ⟨s, hm, fun a b c => (h a b c).trans (k a b c)⟩))
theorem lim_if {c : Prop} [Decidable c] {F G} (h1 : c → sm_lim σ F) (h2 : ¬ c → sm_lim σ G) : sm_lim σ (fun nx jp hx => if c then F nx jp hx else G nx jp hx) := by
  by_cases h : c
  · exact lim_e (fun _ _ _ => if_pos h) (h1 h)
  · exact lim_e (fun _ _ _ => if_neg h) (h2 h)
theorem lim_rq {q : Nat × Nat} {t : Nat} {F : Nat → _ → _ → _ → sm_R} (h : ∀ i, q = (t, i) → sm_lim σ (F i)) : sm_lim σ (fun nx jp hx => sm_rq q t fun i => F i nx jp hx) :=
  lim_if (fun e => h q.2 (by rw [← e])) (fun _ => lim_n fun _ _ _ => rfl)
theorem lim_ix {x : Int32} {n : Nat} {F : Nat → _ → _ → _ → sm_R} (h : ∀ i, sm_lim σ (F i)) : sm_lim σ (fun nx jp hx => sm_ix x n fun i => F i nx jp hx) :=
  lim_if (fun _ => lim_n fun _ _ _ => rfl) (fun _ => h _)
theorem lim_b {b : Bool} {F G} (h1 : b = true → sm_lim σ F) (h2 : b = false → sm_lim σ G) : sm_lim σ (fun nx jp hx => bif b then F nx jp hx else G nx jp hx) := by
  cases b
  · exact h2 rfl
  · exact h1 rfl
theorem lim_sw {x : Int32} {d : Nat} {L S : List sm_V} : ∀ l : List (Int32 × Nat), sm_lim σ (fun _ jp _ => sm_sw x (fun t => jp t L S σ) d l)
  | [] => lim_j d L S σ fun _ _ _ => rfl
  | q :: r => lim_if (fun _ => lim_j q.2 L S σ fun _ _ _ => rfl) (fun _ => lim_sw r)
theorem lim_ld {v : sm_V} {c : Nat} {F : sm_V → _ → _ → _ → sm_R} (h : ∀ u, sm_lim σ (F u)) : sm_lim σ (fun nx jp hx => sm_ld v (fun u => F u nx jp hx) c) := by
  rcases v with x | x | x | x <;> rcases c with _ | _ | _ | c <;> first | exact lim_n fun _ _ _ => rfl | exact h _
theorem lim_cl {C : sm_C} (hC : ∀ m a s o t, C m a s = some (o, t) → sm_mo s t) {a : Nat × Nat × Nat × Nat} {L S : List sm_V} : sm_lim σ (fun nx _ hx => sm_cl C a hx S σ fun r s => nx L r s) := by
  obtain ⟨m, n, k, t⟩ := a
  unfold sm_cl
  dsimp only
  cases h : sm_take n [] S with
  | none => exact lim_n fun _ _ _ => rfl
  | some q =>
    obtain ⟨As, r⟩ := q
    dsimp only
    refine lim_if (fun _ => ?_) (fun _ => lim_n fun _ _ _ => rfl)
    have key : sm_lim σ (fun nx _ hx => match k with
        | 0 => sm_bV (C m As σ) hx fun s => nx L r s
        | 1 => sm_bI (C m As σ) hx fun x s => nx L (vI x :: r) s
        | 2 => sm_bL (C m As σ) hx fun x s => nx L (vL x :: r) s
        | _ => sm_bP (C m As σ) hx fun x s => nx L (vP x :: r) s) := by
      rcases hc : C m As σ with _ | ⟨_ | _ | o, s⟩ <;> try have hmo : sm_mo σ s := hC _ _ _ _ _ hc
      · rcases k with _ | _ | _ | k <;> exact lim_n fun _ _ _ => rfl
      · rcases k with _ | _ | _ | k <;> exact lim_h s fun _ _ _ => rfl
      · rcases k with _ | _ | _ | k <;> first | exact lim_n fun _ _ _ => rfl | exact lim_x _ _ _ fun _ _ _ => rfl
      · rcases o with x | x | x | x <;> rcases k with _ | _ | _ | k <;> first | exact lim_n fun _ _ _ => rfl | exact lim_x _ _ _ fun _ _ _ => rfl
    cases t with
    | zero => exact key
    | succ t =>
      rcases As with _ | ⟨v, As⟩
      · exact lim_n fun _ _ _ => rfl
      · rcases v with x | x | x | x
        · exact lim_n fun _ _ _ => rfl
        · exact lim_n fun _ _ _ => rfl
        · exact lim_if (fun _ => key) (fun _ => lim_n fun _ _ _ => rfl)
        · exact lim_n fun _ _ _ => rfl
theorem sm_rt_mo (k : Nat) (x : Int32) : ∀ o s, sm_rt k x σ = some (o, s) → sm_mo σ s := by
  intro o s h
  unfold sm_rt at h
  split at h
  · cases h; exact mo_eq rfl
  all_goals
    split at h
    · cases h; exact mo_eq rfl
    · cases h
set_option maxHeartbeats 4000000 in
theorem sm_I_mo (Z : sm_T) (w : Bool) (C : sm_C) (hC : ∀ m a s o t, C m a s = some (o, t) → sm_mo s t) (ins : Instr) (a : Nat × Nat × Nat × Nat) (pc : Nat) (L S : List sm_V) : sm_lim σ (fun nx jp hx => sm_I Z w C ins a pc nx jp hx L S σ) := by
  cases ins
  case invokevirtual i => exact lim_cl hC
  case invokestatic i =>
    obtain ⟨a1, a2, a3, a4⟩ := a
    by_cases h : a4 = 1000
    · subst h
      rcases S with _ | ⟨v1, _ | ⟨v2, _ | ⟨v3, _ | ⟨v4, _ | ⟨v5, r⟩⟩⟩⟩⟩
      · exact lim_n fun _ _ _ => rfl
      · rcases v1 with x | x | x | x <;> exact lim_n fun _ _ _ => rfl
      · rcases v1 with x | x | x | x <;> rcases v2 with y | y | y | y <;> exact lim_n fun _ _ _ => rfl
      · rcases v1 with x | x | x | x <;> rcases v2 with y | y | y | y <;> rcases v3 with z | z | z | z <;> exact lim_n fun _ _ _ => rfl
      · rcases v1 with x | x | x | x <;> rcases v2 with y | y | y | y <;> rcases v3 with z | z | z | z <;> rcases v4 with u | u | u | u <;> exact lim_n fun _ _ _ => rfl
      · rcases v1 with x | x | x | x <;> rcases v2 with y | y | y | y <;> rcases v3 with z | z | z | z <;> rcases v4 with u | u | u | u <;> rcases v5 with t | t | t | t
        all_goals first
          | exact lim_n fun _ _ _ => rfl
          | exact lim_if (fun _ => lim_rq fun i _ => lim_x _ _ _ fun _ _ _ => rfl) (fun _ => lim_n fun _ _ _ => rfl)
    · refine lim_e (G := fun nx _ hx => sm_cl C (a1, a2, a3, a4) hx S σ fun r s => nx L r s) (fun nx jp hx => ?_) (lim_cl hC)
      simp only [sm_I]
  case invokespecial i =>
    obtain ⟨a1, a2, a3, a4⟩ := a
    by_cases h : a4 = 1001
    · subst h
      rcases S with _ | ⟨v1, _ | ⟨v2, r⟩⟩
      · exact lim_n fun _ _ _ => rfl
      · rcases v1 with x | x | x | x <;> exact lim_n fun _ _ _ => rfl
      · rcases v1 with x | x | x | x <;> rcases v2 with y | y | y | y
        all_goals first
          | exact lim_n fun _ _ _ => rfl
          | exact lim_if (fun _ => lim_x _ _ _ fun _ _ _ => rfl) (fun _ => lim_n fun _ _ _ => rfl)
    · by_cases h2 : a4 = 1002
      · subst h2
        rcases sm_r1_s S with h | ⟨x, r, rfl⟩
        · exact lim_n fun _ _ _ => h _
        · exact lim_if (fun _ => lim_x _ _ _ fun _ _ _ => rfl) (fun _ => lim_n fun _ _ _ => rfl)
      · refine lim_e (G := fun nx _ hx => sm_cl C (a1, a2, a3, a4) hx S σ fun r s => nx L r s) (fun nx jp hx => ?_) (lim_cl hC)
        simp only [sm_I]
  case putfield i =>
    obtain ⟨a1, a2, a3, a4⟩ := a
    show sm_lim σ (fun nx _ _ => sm_pf w a1 a2 a3 S σ fun r s => nx L r s)
    rcases S with _ | ⟨v1, _ | ⟨v2, r⟩⟩
    · rcases a3 with _ | _ | _ | _ | _ | _ | _ | _ | _ | _ | n <;> first | exact lim_n fun _ _ _ => rfl | (cases w <;> exact lim_n fun _ _ _ => rfl)
    · rcases v1 with x | x | x | x <;> rcases a3 with _ | _ | _ | _ | _ | _ | _ | _ | _ | _ | n <;> first | exact lim_n fun _ _ _ => rfl | (cases w <;> exact lim_n fun _ _ _ => rfl)
    · rcases v1 with x | x | x | x <;> rcases v2 with y | y | y | y <;> rcases a3 with _ | _ | _ | _ | _ | _ | _ | _ | _ | _ | n
      all_goals first
        | exact lim_n fun _ _ _ => rfl
        | exact lim_rq fun i _ => lim_x _ _ _ fun _ _ _ => rfl
        | exact lim_if (fun _ => lim_rq fun i _ => lim_x _ _ _ fun _ _ _ => rfl) (fun _ => lim_n fun _ _ _ => rfl)
        | (cases w <;> first | exact lim_n fun _ _ _ => rfl | exact lim_rq fun i _ => lim_x _ _ _ fun _ _ _ => rfl)
  case dup =>
    rcases S with _ | ⟨v, r⟩
    · exact lim_n fun _ _ _ => rfl
    · exact lim_if (fun _ => lim_x _ _ _ fun _ _ _ => rfl) (fun _ => lim_n fun _ _ _ => rfl)
  case pop =>
    rcases S with _ | ⟨v, r⟩
    · exact lim_n fun _ _ _ => rfl
    · exact lim_if (fun _ => lim_x _ _ _ fun _ _ _ => rfl) (fun _ => lim_n fun _ _ _ => rfl)
  case dup2 =>
    rcases S with _ | ⟨v, _ | ⟨u, r⟩⟩
    · exact lim_n fun _ _ _ => rfl
    · exact lim_n fun _ _ _ => rfl
    · exact lim_if (fun _ => lim_x _ _ _ fun _ _ _ => rfl) (fun _ => lim_n fun _ _ _ => rfl)
  case ifCond c o =>
    rcases sm_p1_s S with h | ⟨x, r, rfl⟩
    · exact lim_n fun _ _ _ => h _
    · cases c <;> exact lim_if (fun _ => by first | exact lim_x _ _ _ fun _ _ _ => rfl | exact lim_j _ _ _ _ fun _ _ _ => rfl) (fun _ => by first | exact lim_x _ _ _ fun _ _ _ => rfl | exact lim_j _ _ _ _ fun _ _ _ => rfl)
  case if_icmp c o =>
    rcases sm_p2_s S with h | ⟨x, y, r, rfl⟩
    · exact lim_n fun _ _ _ => h _
    · cases c <;> exact lim_if (fun _ => by first | exact lim_x _ _ _ fun _ _ _ => rfl | exact lim_j _ _ _ _ fun _ _ _ => rfl) (fun _ => by first | exact lim_x _ _ _ fun _ _ _ => rfl | exact lim_j _ _ _ _ fun _ _ _ => rfl)
  case if_acmp c o =>
    rcases sm_r2_s S with h | ⟨x, y, r, rfl⟩
    · exact lim_n fun _ _ _ => h _
    · cases c <;> exact lim_if (fun _ => by first | exact lim_x _ _ _ fun _ _ _ => rfl | exact lim_j _ _ _ _ fun _ _ _ => rfl) (fun _ => lim_if (fun _ => by first | exact lim_x _ _ _ fun _ _ _ => rfl | exact lim_j _ _ _ _ fun _ _ _ => rfl) (fun _ => lim_n fun _ _ _ => rfl))
  case ifnull o =>
    rcases sm_r1_s S with h | ⟨x, r, rfl⟩
    · exact lim_n fun _ _ _ => h _
    · exact lim_if (fun _ => by first | exact lim_x _ _ _ fun _ _ _ => rfl | exact lim_j _ _ _ _ fun _ _ _ => rfl) (fun _ => by first | exact lim_x _ _ _ fun _ _ _ => rfl | exact lim_j _ _ _ _ fun _ _ _ => rfl)
  case ifnonnull o =>
    rcases sm_r1_s S with h | ⟨x, r, rfl⟩
    · exact lim_n fun _ _ _ => h _
    · exact lim_if (fun _ => by first | exact lim_x _ _ _ fun _ _ _ => rfl | exact lim_j _ _ _ _ fun _ _ _ => rfl) (fun _ => by first | exact lim_x _ _ _ fun _ _ _ => rfl | exact lim_j _ _ _ _ fun _ _ _ => rfl)
  case tableswitch d lo hi os =>
    rcases sm_p1_s S with h | ⟨x, r, rfl⟩
    · exact lim_n fun _ _ _ => h _
    · exact lim_sw _
  case lookupswitch d ps =>
    rcases sm_p1_s S with h | ⟨x, r, rfl⟩
    · exact lim_n fun _ _ _ => h _
    · exact lim_sw _
  case iaload =>
    rcases sm_a0_s S with h | ⟨j, q, r, rfl⟩
    · exact lim_n fun _ _ _ => h _
    · exact lim_b (fun _ => lim_rq fun _ _ => lim_ix fun _ => lim_x _ _ _ fun _ _ _ => rfl) (fun _ => lim_b (fun _ => lim_rq fun _ _ => lim_ix fun _ => lim_x _ _ _ fun _ _ _ => rfl) (fun _ => lim_rq fun _ _ => lim_ix fun _ => lim_x _ _ _ fun _ _ _ => rfl))
  case baload =>
    rcases sm_a0_s S with h | ⟨j, q, r, rfl⟩
    · exact lim_n fun _ _ _ => h _
    · exact lim_b (fun _ => lim_rq fun _ _ => lim_ix fun _ => lim_x _ _ _ fun _ _ _ => rfl) (fun _ => lim_rq fun _ _ => lim_ix fun _ => lim_x _ _ _ fun _ _ _ => rfl)
  case arraylength =>
    rcases sm_r1_s S with h | ⟨q, r, rfl⟩
    · exact lim_n fun _ _ _ => h _
    · exact lim_b (fun _ => lim_rq fun _ _ => lim_x _ _ _ fun _ _ _ => rfl) (fun _ => lim_b (fun _ => lim_rq fun _ _ => lim_x _ _ _ fun _ _ _ => rfl) (fun _ => lim_b (fun _ => lim_rq fun _ _ => lim_x _ _ _ fun _ _ _ => rfl) (fun _ => lim_rq fun _ _ => lim_x _ _ _ fun _ _ _ => rfl)))
  case laload =>
    rcases sm_a0_s S with h | ⟨j, q, r, rfl⟩
    · exact lim_n fun _ _ _ => h _
    · exact lim_rq fun _ _ => lim_ix fun _ => lim_x _ _ _ fun _ _ _ => rfl
  case aaload =>
    rcases sm_a0_s S with h | ⟨j, q, r, rfl⟩
    · exact lim_n fun _ _ _ => h _
    · exact lim_rq fun _ _ => lim_ix fun _ => lim_x _ _ _ fun _ _ _ => rfl
  case iastore =>
    rcases sm_aI_s S with h | ⟨x, j, q, r, rfl⟩
    · exact lim_n fun _ _ _ => h _
    · exact lim_rq fun _ _ => lim_ix fun _ => lim_x _ _ _ fun _ _ _ => rfl
  case bastore =>
    rcases sm_aI_s S with h | ⟨x, j, q, r, rfl⟩
    · exact lim_n fun _ _ _ => h _
    · exact lim_rq fun _ _ => lim_ix fun _ => lim_x _ _ _ fun _ _ _ => rfl
  case lastore =>
    rcases sm_aL_s S with h | ⟨x, j, q, r, rfl⟩
    · exact lim_n fun _ _ _ => h _
    · exact lim_rq fun _ _ => lim_ix fun _ => lim_x _ _ _ fun _ _ _ => rfl
  case aastore =>
    rcases sm_aR_s S with h | ⟨x, j, q, r, rfl⟩
    · exact lim_n fun _ _ _ => h _
    · exact lim_rq fun _ _ => lim_ix fun _ => lim_if (fun _ => lim_x _ _ _ fun _ _ _ => rfl) (fun _ => lim_n fun _ _ _ => rfl)
  case new i => exact lim_b (fun _ => lim_n fun _ _ _ => rfl) (fun _ => lim_x _ _ _ fun _ _ _ => rfl)
  case newarray t =>
    rcases sm_p1_s S with h | ⟨x, r, rfl⟩
    · exact lim_n fun _ _ _ => h _
    · exact lim_if (fun _ => lim_n fun _ _ _ => rfl) (fun _ => lim_x _ _ _ fun _ _ _ => rfl)
  case anewarray t =>
    rcases sm_p1_s S with h | ⟨x, r, rfl⟩
    · exact lim_n fun _ _ _ => h _
    · exact lim_if (fun _ => lim_n fun _ _ _ => rfl) (fun _ => lim_x _ _ _ fun _ _ _ => rfl)
  case idiv =>
    rcases sm_p2_s S with h | ⟨x, y, r, rfl⟩
    · exact lim_n fun _ _ _ => h _
    · exact lim_if (fun _ => lim_n fun _ _ _ => rfl) (fun _ => lim_x _ _ _ fun _ _ _ => rfl)
  case irem =>
    rcases sm_p2_s S with h | ⟨x, y, r, rfl⟩
    · exact lim_n fun _ _ _ => h _
    · exact lim_if (fun _ => lim_n fun _ _ _ => rfl) (fun _ => lim_x _ _ _ fun _ _ _ => rfl)
  case getfield i =>
    rcases sm_r1_s S with h | ⟨q, r, rfl⟩
    · exact lim_n fun _ _ _ => h _
    · exact lim_rq fun _ _ => lim_x _ _ _ fun _ _ _ => rfl
  case lshl =>
    rcases sm_p1_s S with h | ⟨y, r, rfl⟩
    · exact lim_n fun _ _ _ => h _
    · rcases sm_q1_s r with h | ⟨x, r, rfl⟩
      · exact lim_n fun _ _ _ => h _
      · exact lim_x _ _ _ fun _ _ _ => rfl
  case athrow =>
    rcases sm_r1_s S with h | ⟨q, r, rfl⟩
    · exact lim_n fun _ _ _ => h _
    · exact lim_rq fun _ _ => lim_h _ fun _ _ _ => rfl
  case getstatic i => rcases a with ⟨_ | _ | a, b⟩ <;> exact lim_x _ _ _ fun _ _ _ => rfl
  case ldc i => rcases a with ⟨_ | a, b⟩ <;> exact lim_x _ _ _ fun _ _ _ => rfl
  case ldc_w i => rcases a with ⟨_ | a, b⟩ <;> exact lim_x _ _ _ fun _ _ _ => rfl
  case goto o => exact lim_j _ _ _ _ fun _ _ _ => rfl
  case iinc i n =>
    refine lim_ld (F := fun v nx _ _ => match v with
      | .inl x => nx (sm_st1 L i (vI (x + Int32.ofInt n))) S σ
      | _ => none) fun v => ?_
    rcases v with x | x | x | x <;> first | exact lim_n fun _ _ _ => rfl | exact lim_x _ _ _ fun _ _ _ => rfl
  case iload i =>
    exact lim_ld (F := fun v nx _ _ => nx L (v :: S) σ) fun v => lim_x _ _ _ fun _ _ _ => rfl
  case iload_n i =>
    exact lim_ld (F := fun v nx _ _ => nx L (v :: S) σ) fun v => lim_x _ _ _ fun _ _ _ => rfl
  case lload i =>
    exact lim_ld (F := fun v nx _ _ => nx L (v :: S) σ) fun v => lim_x _ _ _ fun _ _ _ => rfl
  case lload_n i =>
    exact lim_ld (F := fun v nx _ _ => nx L (v :: S) σ) fun v => lim_x _ _ _ fun _ _ _ => rfl
  case aload i =>
    exact lim_ld (F := fun v nx _ _ => nx L (v :: S) σ) fun v => lim_x _ _ _ fun _ _ _ => rfl
  case aload_n i =>
    exact lim_ld (F := fun v nx _ _ => nx L (v :: S) σ) fun v => lim_x _ _ _ fun _ _ _ => rfl
  case ireturn =>
    rcases S with _ | ⟨v, _ | ⟨u, r⟩⟩
    · exact lim_n fun _ _ _ => rfl
    · rcases v with x | x | x | x <;> first | exact lim_n fun _ _ _ => rfl | exact lim_r (sm_rt a.1 x σ) (fun _ _ _ => rfl) (sm_rt_mo _ _)
    · rcases v with x | x | x | x <;> exact lim_n fun _ _ _ => rfl
  case lreturn =>
    rcases S with _ | ⟨v, _ | ⟨u, r⟩⟩
    · exact lim_n fun _ _ _ => rfl
    · rcases v with x | x | x | x <;> first | exact lim_n fun _ _ _ => rfl | exact lim_r _ fun _ _ _ => rfl
    · rcases v with x | x | x | x <;> exact lim_n fun _ _ _ => rfl
  case areturn =>
    rcases S with _ | ⟨v, _ | ⟨u, r⟩⟩
    · exact lim_n fun _ _ _ => rfl
    · rcases v with x | x | x | x <;> first | exact lim_n fun _ _ _ => rfl | exact lim_r _ fun _ _ _ => rfl
    · rcases v with x | x | x | x <;> exact lim_n fun _ _ _ => rfl
  case return_ =>
    rcases S with _ | ⟨v, r⟩
    · exact lim_r _ fun _ _ _ => rfl
    · exact lim_n fun _ _ _ => rfl
  all_goals first
    | exact lim_n fun _ _ _ => rfl
    | exact lim_x _ _ _ fun _ _ _ => rfl
    | (rcases sm_p1_s S with h | ⟨x, r, rfl⟩
       · exact lim_n fun _ _ _ => h _
       · exact lim_x _ _ _ fun _ _ _ => rfl)
    | (rcases sm_p2_s S with h | ⟨x, y, r, rfl⟩
       · exact lim_n fun _ _ _ => h _
       · exact lim_x _ _ _ fun _ _ _ => rfl)
    | (rcases sm_q1_s S with h | ⟨x, r, rfl⟩
       · exact lim_n fun _ _ _ => h _
       · exact lim_x _ _ _ fun _ _ _ => rfl)
    | (rcases sm_q2_s S with h | ⟨x, y, r, rfl⟩
       · exact lim_n fun _ _ _ => h _
       · exact lim_x _ _ _ fun _ _ _ => rfl)
    | (rcases sm_r1_s S with h | ⟨x, r, rfl⟩
       · exact lim_n fun _ _ _ => h _
       · exact lim_x _ _ _ fun _ _ _ => rfl)
variable {Z : sm_T} {P : sm_P} {w : Bool} {C : sm_C} {m : Nat}
theorem sm_run_mo (hC : ∀ m a s o t, C m a s = some (o, t) → sm_mo s t) : ∀ (n : Nat) {pc : Nat} {L S : List sm_V} {σ : sm_S} {o : sm_O} {s : sm_S}, sm_run Z P w C m n pc L S σ = some (o, s) → sm_mo σ s
  | 0, _, _, _, _, _, _, h => by cases h
  | n + 1, pc, L, S, σ, o, s, h => by
    rw [sm_run] at h
    cases hf : sm_find pc (P.1 m) with
    | none => rw [hf] at h; cases h
    | some e =>
      rw [hf] at h
      dsimp only at h
      unfold sm_at at h
      rcases sm_I_mo (σ := σ) Z w C hC e.2.1 e.2.2.2.1 e.1 (sm_lv e L) S with ⟨r0, hm, q⟩ | ⟨L1, S1, s1, hm, q⟩ | ⟨t, L1, S1, s1, hm, q⟩ | ⟨s1, hm, q⟩ <;> dsimp only at q
      · rw [q] at h; exact hm _ _ h
      · rw [q] at h
        have k := sm_run_mo hC n h
        exact mo_trans hm k
      · rw [q] at h
        have k := sm_run_mo hC n h
        exact mo_trans hm k
      · rw [q] at h
        unfold sm_hx at h
        cases hh : P.2.2 m e.1 with
        | none => rw [hh] at h; cases h; exact hm
        | some z =>
          rw [hh] at h
          have k := sm_run_mo hC n h
          exact mo_trans hm k
end
end
section
section
def cd_X0_init : List sm_E := [(0, .aload_n 0, 1, (0, 0, 0, 0), none),
  (1, .invokespecial 7, 3, (0, 0, 0, 1002), none),
  (4, .aload_n 0, 1, (0, 0, 0, 0), none),
  (5, .sipush 900, 3, (0, 0, 0, 0), none),
  (8, .newarray .int, 2, (30, 900, 0, 0), none),
  (10, .putfield 13, 3, (10, 0, 30, 0), none),
  (13, .aload_n 0, 1, (0, 0, 0, 0), none),
  (14, .sipush 900, 3, (0, 0, 0, 0), none),
  (17, .newarray .int, 2, (31, 900, 0, 0), none),
  (19, .putfield 17, 3, (10, 1, 31, 0), none),
  (22, .aload_n 0, 1, (0, 0, 0, 0), none),
  (23, .sipush 900, 3, (0, 0, 0, 0), none),
  (26, .newarray .int, 2, (32, 900, 0, 0), none),
  (28, .putfield 20, 3, (10, 2, 32, 0), none),
  (31, .aload_n 0, 1, (0, 0, 0, 0), none),
  (32, .sipush 900, 3, (0, 0, 0, 0), none),
  (35, .newarray .int, 2, (33, 900, 0, 0), none),
  (37, .putfield 23, 3, (10, 3, 33, 0), none),
  (40, .aload_n 0, 1, (0, 0, 0, 0), none),
  (41, .bipush 100, 2, (0, 0, 0, 0), none),
  (43, .newarray .int, 2, (34, 100, 0, 0), none),
  (45, .putfield 26, 3, (10, 4, 34, 0), none),
  (48, .aload_n 0, 1, (0, 0, 0, 0), none),
  (49, .bipush 17, 2, (0, 0, 0, 0), none),
  (51, .newarray .int, 2, (35, 17, 0, 0), none),
  (53, .putfield 29, 3, (10, 5, 35, 0), none),
  (56, .aload_n 0, 1, (0, 0, 0, 0), none),
  (57, .bipush 17, 2, (0, 0, 0, 0), none),
  (59, .newarray .int, 2, (36, 17, 0, 0), none),
  (61, .putfield 32, 3, (10, 6, 36, 0), none),
  (64, .aload_n 0, 1, (0, 0, 0, 0), none),
  (65, .bipush 68, 2, (0, 0, 0, 0), none),
  (67, .newarray .int, 2, (37, 68, 0, 0), none),
  (69, .putfield 35, 3, (10, 7, 37, 0), none),
  (72, .aload_n 0, 1, (0, 0, 0, 0), none),
  (73, .bipush 17, 2, (0, 0, 0, 0), none),
  (75, .newarray .int, 2, (38, 17, 0, 0), none),
  (77, .putfield 38, 3, (10, 8, 38, 0), none),
  (80, .getstatic 41, 3, (1, 0, 0, 0), none),
  (83, .iconst 0, 1, (0, 0, 0, 0), none),
  (84, .aload_n 0, 1, (0, 0, 0, 0), none),
  (85, .getfield 35, 3, (10, 7, 37, 0), none),
  (88, .iconst 0, 1, (0, 0, 0, 0), none),
  (89, .bipush 20, 2, (0, 0, 0, 0), none),
  (91, .invokestatic 44, 3, (37, 68, 0, 1000), none),
  (94, .getstatic 50, 3, (1, 1, 0, 0), none),
  (97, .iconst 0, 1, (0, 0, 0, 0), none),
  (98, .aload_n 0, 1, (0, 0, 0, 0), none),
  (99, .getfield 32, 3, (10, 6, 36, 0), none),
  (102, .iconst 0, 1, (0, 0, 0, 0), none),
  (103, .iconst 5, 1, (0, 0, 0, 0), none),
  (104, .invokestatic 44, 3, (36, 17, 0, 1000), none),
  (107, .getstatic 53, 3, (1, 2, 0, 0), none),
  (110, .iconst 0, 1, (0, 0, 0, 0), none),
  (111, .aload_n 0, 1, (0, 0, 0, 0), none),
  (112, .getfield 38, 3, (10, 8, 38, 0), none),
  (115, .iconst 0, 1, (0, 0, 0, 0), none),
  (116, .iconst 5, 1, (0, 0, 0, 0), none),
  (117, .invokestatic 44, 3, (38, 17, 0, 1000), none),
  (120, .aload_n 0, 1, (0, 0, 0, 0), none),
  (121, .iconst 5, 1, (0, 0, 0, 0), none),
  (122, .putfield 56, 3, (10, 9, 0, 0), none),
  (125, .aload_n 0, 1, (0, 0, 0, 0), none),
  (126, .iconst (-1), 1, (0, 0, 0, 0), none),
  (127, .putfield 60, 3, (10, 12, 0, 0), none),
  (130, .return_, 1, (0, 0, 0, 0), none)]
def cd_X0_clear : List sm_E := [(0, .aload_n 0, 1, (0, 0, 0, 0), none),
  (1, .iconst 0, 1, (0, 0, 0, 0), none),
  (2, .putfield 63, 3, (10, 11, 0, 0), none),
  (5, .aload_n 0, 1, (0, 0, 0, 0), none),
  (6, .iconst 5, 1, (0, 0, 0, 0), none),
  (7, .putfield 56, 3, (10, 9, 0, 0), none),
  (10, .aload_n 0, 1, (0, 0, 0, 0), none),
  (11, .iconst 0, 1, (0, 0, 0, 0), none),
  (12, .putfield 66, 3, (10, 10, 0, 0), none),
  (15, .aload_n 0, 1, (0, 0, 0, 0), none),
  (16, .iconst (-1), 1, (0, 0, 0, 0), none),
  (17, .putfield 60, 3, (10, 12, 0, 0), none),
  (20, .return_, 1, (0, 0, 0, 0), none)]
def cd_X0_ownProcs : List sm_E := [(0, .aload_n 0, 1, (0, 0, 0, 0), none),
  (1, .getfield 56, 3, (10, 9, 0, 0), none),
  (4, .iconst 5, 1, (0, 0, 0, 0), none),
  (5, .isub, 1, (0, 0, 0, 0), none),
  (6, .ireturn, 1, (0, 0, 0, 0), none)]
def cd_X0_isProc : List sm_E := [(0, .iload_n 1, 1, (0, 0, 0, 0), none),
  (1, .ifCond .lt 15, 3, (0, 0, 0, 0), none),
  (4, .iload_n 1, 1, (0, 0, 0, 0), none),
  (5, .aload_n 0, 1, (0, 0, 0, 0), none),
  (6, .getfield 56, 3, (10, 9, 0, 0), none),
  (9, .if_icmp .ge 7, 3, (0, 0, 0, 0), none),
  (12, .iconst 1, 1, (0, 0, 0, 0), none),
  (13, .goto 4, 3, (0, 0, 0, 0), none),
  (16, .iconst 0, 1, (0, 0, 0, 0), none),
  (17, .ireturn, 1, (1, 0, 0, 0), none)]
def cd_X0_isOwnProc : List sm_E := [(0, .iload_n 1, 1, (0, 0, 0, 0), none),
  (1, .iconst 5, 1, (0, 0, 0, 0), none),
  (2, .if_icmp .lt 15, 3, (0, 0, 0, 0), none),
  (5, .iload_n 1, 1, (0, 0, 0, 0), none),
  (6, .aload_n 0, 1, (0, 0, 0, 0), none),
  (7, .getfield 56, 3, (10, 9, 0, 0), none),
  (10, .if_icmp .ge 7, 3, (0, 0, 0, 0), none),
  (13, .iconst 1, 1, (0, 0, 0, 0), none),
  (14, .goto 4, 3, (0, 0, 0, 0), none),
  (17, .iconst 0, 1, (0, 0, 0, 0), none),
  (18, .ireturn, 1, (1, 0, 0, 0), none)]
def cd_X0_addProc : List sm_E := [(0, .aload_n 0, 1, (0, 0, 0, 0), none),
  (1, .getfield 56, 3, (10, 9, 0, 0), none),
  (4, .bipush 17, 2, (0, 0, 0, 0), none),
  (6, .if_icmp .lt 5, 3, (0, 0, 0, 0), none),
  (9, .iconst (-1), 1, (0, 0, 0, 0), none),
  (10, .ireturn, 1, (0, 0, 0, 0), none),
  (11, .aload_n 0, 1, (0, 0, 0, 0), none),
  (12, .getfield 29, 3, (10, 5, 35, 0), none),
  (15, .aload_n 0, 1, (0, 0, 0, 0), none),
  (16, .getfield 56, 3, (10, 9, 0, 0), none),
  (19, .aload_n 0, 1, (0, 0, 0, 0), none),
  (20, .getfield 63, 3, (10, 11, 0, 0), none),
  (23, .iastore, 1, (35, 17, 0, 0), none),
  (24, .aload_n 0, 1, (0, 0, 0, 0), none),
  (25, .getfield 32, 3, (10, 6, 36, 0), none),
  (28, .aload_n 0, 1, (0, 0, 0, 0), none),
  (29, .getfield 56, 3, (10, 9, 0, 0), none),
  (32, .iconst 0, 1, (0, 0, 0, 0), none),
  (33, .iastore, 1, (36, 17, 0, 0), none),
  (34, .aload_n 0, 1, (0, 0, 0, 0), none),
  (35, .getfield 38, 3, (10, 8, 38, 0), none),
  (38, .aload_n 0, 1, (0, 0, 0, 0), none),
  (39, .getfield 56, 3, (10, 9, 0, 0), none),
  (42, .bipush 38, 2, (0, 0, 0, 0), none),
  (44, .iastore, 1, (38, 17, 0, 0), none),
  (45, .aload_n 0, 1, (0, 0, 0, 0), none),
  (46, .dup, 1, (0, 0, 0, 0), none),
  (47, .getfield 56, 3, (10, 9, 0, 0), none),
  (50, .iconst 1, 1, (0, 0, 0, 0), none),
  (51, .iadd, 1, (0, 0, 0, 0), none),
  (52, .putfield 56, 3, (10, 9, 0, 0), none),
  (55, .aload_n 0, 1, (0, 0, 0, 0), none),
  (56, .getfield 56, 3, (10, 9, 0, 0), none),
  (59, .iconst 1, 1, (0, 0, 0, 0), none),
  (60, .isub, 1, (0, 0, 0, 0), none),
  (61, .ireturn, 1, (0, 0, 0, 0), none)]
def cd_X0_addParameter : List sm_E := [(0, .aload_n 0, 1, (0, 0, 0, 0), none),
  (1, .iload_n 1, 1, (0, 0, 0, 0), none),
  (2, .invokevirtual 69, 3, (4, 2, 1, 10), none),
  (5, .ifCond .eq 39, 3, (0, 0, 0, 0), none),
  (8, .aload_n 0, 1, (0, 0, 0, 0), none),
  (9, .getfield 32, 3, (10, 6, 36, 0), none),
  (12, .iload_n 1, 1, (0, 0, 0, 0), none),
  (13, .iaload, 1, (36, 17, 0, 0), none),
  (14, .iconst 4, 1, (0, 0, 0, 0), none),
  (15, .if_icmp .ge 29, 3, (0, 0, 0, 0), none),
  (18, .aload_n 0, 1, (0, 0, 0, 0), none),
  (19, .getfield 35, 3, (10, 7, 37, 0), none),
  (22, .iload_n 1, 1, (0, 0, 0, 0), none),
  (23, .iconst 4, 1, (0, 0, 0, 0), none),
  (24, .imul, 1, (0, 0, 0, 0), none),
  (25, .aload_n 0, 1, (0, 0, 0, 0), none),
  (26, .getfield 32, 3, (10, 6, 36, 0), none),
  (29, .iload_n 1, 1, (0, 0, 0, 0), none),
  (30, .iaload, 1, (36, 17, 0, 0), none),
  (31, .iadd, 1, (0, 0, 0, 0), none),
  (32, .iload_n 2, 1, (0, 0, 0, 0), none),
  (33, .iastore, 1, (37, 68, 0, 0), none),
  (34, .aload_n 0, 1, (0, 0, 0, 0), none),
  (35, .getfield 32, 3, (10, 6, 36, 0), none),
  (38, .iload_n 1, 1, (0, 0, 0, 0), none),
  (39, .dup2, 1, (0, 0, 0, 0), none),
  (40, .iaload, 1, (36, 17, 0, 0), none),
  (41, .iconst 1, 1, (0, 0, 0, 0), none),
  (42, .iadd, 1, (0, 0, 0, 0), none),
  (43, .iastore, 1, (36, 17, 0, 0), none),
  (44, .return_, 1, (0, 0, 0, 0), none)]
def cd_X0_setGiven : List sm_E := [(0, .aload_n 0, 1, (0, 0, 0, 0), none),
  (1, .iload_n 1, 1, (0, 0, 0, 0), none),
  (2, .invokevirtual 69, 3, (4, 2, 1, 10), none),
  (5, .ifCond .eq 10, 3, (0, 0, 0, 0), none),
  (8, .aload_n 0, 1, (0, 0, 0, 0), none),
  (9, .getfield 38, 3, (10, 8, 38, 0), none),
  (12, .iload_n 1, 1, (0, 0, 0, 0), none),
  (13, .iload_n 2, 1, (0, 0, 0, 0), none),
  (14, .iastore, 1, (38, 17, 0, 0), none),
  (15, .return_, 1, (0, 0, 0, 0), none)]
def cd_X0_parameterCount : List sm_E := [(0, .aload_n 0, 1, (0, 0, 0, 0), none),
  (1, .iload_n 1, 1, (0, 0, 0, 0), none),
  (2, .invokevirtual 73, 3, (3, 2, 1, 10), none),
  (5, .ifCond .eq 12, 3, (0, 0, 0, 0), none),
  (8, .aload_n 0, 1, (0, 0, 0, 0), none),
  (9, .getfield 32, 3, (10, 6, 36, 0), none),
  (12, .iload_n 1, 1, (0, 0, 0, 0), none),
  (13, .iaload, 1, (36, 17, 0, 0), none),
  (14, .goto 4, 3, (0, 0, 0, 0), none),
  (17, .iconst 0, 1, (0, 0, 0, 0), none),
  (18, .ireturn, 1, (0, 0, 0, 0), none)]
def cd_X0_parameter : List sm_E := [(0, .iload_n 2, 1, (0, 0, 0, 0), none),
  (1, .ifCond .lt 16, 3, (0, 0, 0, 0), none),
  (4, .iload_n 2, 1, (0, 0, 0, 0), none),
  (5, .aload_n 0, 1, (0, 0, 0, 0), none),
  (6, .iload_n 1, 1, (0, 0, 0, 0), none),
  (7, .invokevirtual 76, 3, (8, 2, 1, 10), none),
  (10, .if_icmp .ge 7, 3, (0, 0, 0, 0), none),
  (13, .iconst 1, 1, (0, 0, 0, 0), none),
  (14, .goto 4, 3, (0, 0, 0, 0), none),
  (17, .iconst 0, 1, (0, 0, 0, 0), none),
  (18, .istore_n 3, 1, (0, 0, 0, 0), some [0, 1, 2]),
  (19, .iload_n 3, 1, (0, 0, 0, 0), none),
  (20, .ifCond .eq 16, 3, (0, 0, 0, 0), none),
  (23, .aload_n 0, 1, (0, 0, 0, 0), none),
  (24, .getfield 35, 3, (10, 7, 37, 0), none),
  (27, .iload_n 1, 1, (0, 0, 0, 0), none),
  (28, .iconst 4, 1, (0, 0, 0, 0), none),
  (29, .imul, 1, (0, 0, 0, 0), none),
  (30, .iload_n 2, 1, (0, 0, 0, 0), none),
  (31, .iadd, 1, (0, 0, 0, 0), none),
  (32, .iaload, 1, (37, 68, 0, 0), none),
  (33, .goto 5, 3, (0, 0, 0, 0), none),
  (36, .bipush 38, 2, (0, 0, 0, 0), none),
  (38, .ireturn, 1, (0, 0, 0, 0), none)]
def cd_X0_given : List sm_E := [(0, .aload_n 0, 1, (0, 0, 0, 0), none),
  (1, .iload_n 1, 1, (0, 0, 0, 0), none),
  (2, .invokevirtual 73, 3, (3, 2, 1, 10), none),
  (5, .ifCond .eq 12, 3, (0, 0, 0, 0), none),
  (8, .aload_n 0, 1, (0, 0, 0, 0), none),
  (9, .getfield 38, 3, (10, 8, 38, 0), none),
  (12, .iload_n 1, 1, (0, 0, 0, 0), none),
  (13, .iaload, 1, (38, 17, 0, 0), none),
  (14, .goto 5, 3, (0, 0, 0, 0), none),
  (17, .bipush 38, 2, (0, 0, 0, 0), none),
  (19, .ireturn, 1, (0, 0, 0, 0), none)]
def cd_X0_start : List sm_E := [(0, .aload_n 0, 1, (0, 0, 0, 0), none),
  (1, .iload_n 1, 1, (0, 0, 0, 0), none),
  (2, .invokevirtual 73, 3, (3, 2, 1, 10), none),
  (5, .ifCond .eq 12, 3, (0, 0, 0, 0), none),
  (8, .aload_n 0, 1, (0, 0, 0, 0), none),
  (9, .getfield 29, 3, (10, 5, 35, 0), none),
  (12, .iload_n 1, 1, (0, 0, 0, 0), none),
  (13, .iaload, 1, (35, 17, 0, 0), none),
  (14, .goto 7, 3, (0, 0, 0, 0), none),
  (17, .aload_n 0, 1, (0, 0, 0, 0), none),
  (18, .getfield 63, 3, (10, 11, 0, 0), none),
  (21, .ireturn, 1, (0, 0, 0, 0), none)]
def cd_X0_takesInts : List sm_E := [(0, .aload_n 0, 1, (0, 0, 0, 0), none),
  (1, .iload_n 1, 1, (0, 0, 0, 0), none),
  (2, .invokevirtual 76, 3, (8, 2, 1, 10), none),
  (5, .istore_n 2, 1, (0, 0, 0, 0), none),
  (6, .iconst 0, 1, (0, 0, 0, 0), none),
  (7, .istore_n 3, 1, (0, 0, 0, 0), none),
  (8, .iload_n 3, 1, (0, 0, 0, 0), some [0, 1, 2, 3]),
  (9, .iload_n 2, 1, (0, 0, 0, 0), none),
  (10, .if_icmp .ge 22, 3, (0, 0, 0, 0), none),
  (13, .aload_n 0, 1, (0, 0, 0, 0), none),
  (14, .iload_n 1, 1, (0, 0, 0, 0), none),
  (15, .iload_n 3, 1, (0, 0, 0, 0), none),
  (16, .invokevirtual 80, 3, (9, 3, 1, 10), none),
  (19, .bipush 36, 2, (0, 0, 0, 0), none),
  (21, .if_icmp .eq 5, 3, (0, 0, 0, 0), none),
  (24, .iconst 0, 1, (0, 0, 0, 0), none),
  (25, .ireturn, 1, (1, 0, 0, 0), none),
  (26, .iinc 3 1, 3, (0, 0, 0, 0), none),
  (29, .goto (-21), 3, (0, 0, 0, 0), none),
  (32, .iload_n 2, 1, (0, 0, 0, 0), none),
  (33, .iconst 2, 1, (0, 0, 0, 0), none),
  (34, .if_icmp .gt 7, 3, (0, 0, 0, 0), none),
  (37, .iconst 1, 1, (0, 0, 0, 0), none),
  (38, .goto 4, 3, (0, 0, 0, 0), none),
  (41, .iconst 0, 1, (0, 0, 0, 0), none),
  (42, .ireturn, 1, (1, 0, 0, 0), none)]
def cd_X0_emit : List sm_E := [(0, .aload_n 0, 1, (0, 0, 0, 0), none),
  (1, .getfield 63, 3, (10, 11, 0, 0), none),
  (4, .sipush 900, 3, (0, 0, 0, 0), none),
  (7, .if_icmp .lt 8, 3, (0, 0, 0, 0), none),
  (10, .aload_n 0, 1, (0, 0, 0, 0), none),
  (11, .getfield 63, 3, (10, 11, 0, 0), none),
  (14, .ireturn, 1, (0, 0, 0, 0), none),
  (15, .aload_n 0, 1, (0, 0, 0, 0), none),
  (16, .getfield 13, 3, (10, 0, 30, 0), none),
  (19, .aload_n 0, 1, (0, 0, 0, 0), none),
  (20, .getfield 63, 3, (10, 11, 0, 0), none),
  (23, .iload_n 1, 1, (0, 0, 0, 0), none),
  (24, .iastore, 1, (30, 900, 0, 0), none),
  (25, .aload_n 0, 1, (0, 0, 0, 0), none),
  (26, .getfield 17, 3, (10, 1, 31, 0), none),
  (29, .aload_n 0, 1, (0, 0, 0, 0), none),
  (30, .getfield 63, 3, (10, 11, 0, 0), none),
  (33, .iload_n 2, 1, (0, 0, 0, 0), none),
  (34, .iastore, 1, (31, 900, 0, 0), none),
  (35, .aload_n 0, 1, (0, 0, 0, 0), none),
  (36, .getfield 20, 3, (10, 2, 32, 0), none),
  (39, .aload_n 0, 1, (0, 0, 0, 0), none),
  (40, .getfield 63, 3, (10, 11, 0, 0), none),
  (43, .iload_n 3, 1, (0, 0, 0, 0), none),
  (44, .iastore, 1, (32, 900, 0, 0), none),
  (45, .aload_n 0, 1, (0, 0, 0, 0), none),
  (46, .getfield 23, 3, (10, 3, 33, 0), none),
  (49, .aload_n 0, 1, (0, 0, 0, 0), none),
  (50, .getfield 63, 3, (10, 11, 0, 0), none),
  (53, .aload_n 0, 1, (0, 0, 0, 0), none),
  (54, .getfield 60, 3, (10, 12, 0, 0), none),
  (57, .iastore, 1, (33, 900, 0, 0), none),
  (58, .aload_n 0, 1, (0, 0, 0, 0), none),
  (59, .dup, 1, (0, 0, 0, 0), none),
  (60, .getfield 63, 3, (10, 11, 0, 0), none),
  (63, .iconst 1, 1, (0, 0, 0, 0), none),
  (64, .iadd, 1, (0, 0, 0, 0), none),
  (65, .putfield 63, 3, (10, 11, 0, 0), none),
  (68, .aload_n 0, 1, (0, 0, 0, 0), none),
  (69, .getfield 63, 3, (10, 11, 0, 0), none),
  (72, .iconst 1, 1, (0, 0, 0, 0), none),
  (73, .isub, 1, (0, 0, 0, 0), none),
  (74, .ireturn, 1, (0, 0, 0, 0), none)]
def cd_X0_takeBack : List sm_E := [(0, .aload_n 0, 1, (0, 0, 0, 0), none),
  (1, .getfield 63, 3, (10, 11, 0, 0), none),
  (4, .ifCond .gt 5, 3, (0, 0, 0, 0), none),
  (7, .iconst 0, 1, (0, 0, 0, 0), none),
  (8, .ireturn, 1, (0, 0, 0, 0), none),
  (9, .aload_n 0, 1, (0, 0, 0, 0), none),
  (10, .dup, 1, (0, 0, 0, 0), none),
  (11, .getfield 63, 3, (10, 11, 0, 0), none),
  (14, .iconst 1, 1, (0, 0, 0, 0), none),
  (15, .isub, 1, (0, 0, 0, 0), none),
  (16, .putfield 63, 3, (10, 11, 0, 0), none),
  (19, .aload_n 0, 1, (0, 0, 0, 0), none),
  (20, .getfield 17, 3, (10, 1, 31, 0), none),
  (23, .aload_n 0, 1, (0, 0, 0, 0), none),
  (24, .getfield 63, 3, (10, 11, 0, 0), none),
  (27, .iaload, 1, (31, 900, 0, 0), none),
  (28, .ireturn, 1, (0, 0, 0, 0), none)]
def cd_X0_aimHere : List sm_E := [(0, .aload_n 0, 1, (0, 0, 0, 0), none),
  (1, .iload_n 1, 1, (0, 0, 0, 0), none),
  (2, .invokevirtual 84, 3, (18, 2, 1, 10), none),
  (5, .ifCond .eq 13, 3, (0, 0, 0, 0), none),
  (8, .aload_n 0, 1, (0, 0, 0, 0), none),
  (9, .getfield 17, 3, (10, 1, 31, 0), none),
  (12, .iload_n 1, 1, (0, 0, 0, 0), none),
  (13, .aload_n 0, 1, (0, 0, 0, 0), none),
  (14, .getfield 63, 3, (10, 11, 0, 0), none),
  (17, .iastore, 1, (31, 900, 0, 0), none),
  (18, .return_, 1, (0, 0, 0, 0), none)]
def cd_X0_addTry : List sm_E := [(0, .aload_n 0, 1, (0, 0, 0, 0), none),
  (1, .getfield 66, 3, (10, 10, 0, 0), none),
  (4, .bipush 100, 2, (0, 0, 0, 0), none),
  (6, .if_icmp .lt 5, 3, (0, 0, 0, 0), none),
  (9, .iconst (-1), 1, (0, 0, 0, 0), none),
  (10, .ireturn, 1, (0, 0, 0, 0), none),
  (11, .aload_n 0, 1, (0, 0, 0, 0), none),
  (12, .getfield 26, 3, (10, 4, 34, 0), none),
  (15, .aload_n 0, 1, (0, 0, 0, 0), none),
  (16, .getfield 66, 3, (10, 10, 0, 0), none),
  (19, .aload_n 0, 1, (0, 0, 0, 0), none),
  (20, .getfield 63, 3, (10, 11, 0, 0), none),
  (23, .iastore, 1, (34, 100, 0, 0), none),
  (24, .aload_n 0, 1, (0, 0, 0, 0), none),
  (25, .dup, 1, (0, 0, 0, 0), none),
  (26, .getfield 66, 3, (10, 10, 0, 0), none),
  (29, .iconst 1, 1, (0, 0, 0, 0), none),
  (30, .iadd, 1, (0, 0, 0, 0), none),
  (31, .putfield 66, 3, (10, 10, 0, 0), none),
  (34, .aload_n 0, 1, (0, 0, 0, 0), none),
  (35, .getfield 66, 3, (10, 10, 0, 0), none),
  (38, .iconst 1, 1, (0, 0, 0, 0), none),
  (39, .isub, 1, (0, 0, 0, 0), none),
  (40, .ireturn, 1, (0, 0, 0, 0), none)]
def cd_X0_catchHere : List sm_E := [(0, .iload_n 1, 1, (0, 0, 0, 0), none),
  (1, .ifCond .lt 21, 3, (0, 0, 0, 0), none),
  (4, .iload_n 1, 1, (0, 0, 0, 0), none),
  (5, .aload_n 0, 1, (0, 0, 0, 0), none),
  (6, .getfield 66, 3, (10, 10, 0, 0), none),
  (9, .if_icmp .ge 13, 3, (0, 0, 0, 0), none),
  (12, .aload_n 0, 1, (0, 0, 0, 0), none),
  (13, .getfield 26, 3, (10, 4, 34, 0), none),
  (16, .iload_n 1, 1, (0, 0, 0, 0), none),
  (17, .aload_n 0, 1, (0, 0, 0, 0), none),
  (18, .getfield 63, 3, (10, 11, 0, 0), none),
  (21, .iastore, 1, (34, 100, 0, 0), none),
  (22, .return_, 1, (0, 0, 0, 0), none)]
def cd_X0_isInstruction : List sm_E := [(0, .iload_n 1, 1, (0, 0, 0, 0), none),
  (1, .ifCond .lt 15, 3, (0, 0, 0, 0), none),
  (4, .iload_n 1, 1, (0, 0, 0, 0), none),
  (5, .aload_n 0, 1, (0, 0, 0, 0), none),
  (6, .getfield 63, 3, (10, 11, 0, 0), none),
  (9, .if_icmp .ge 7, 3, (0, 0, 0, 0), none),
  (12, .iconst 1, 1, (0, 0, 0, 0), none),
  (13, .goto 4, 3, (0, 0, 0, 0), none),
  (16, .iconst 0, 1, (0, 0, 0, 0), none),
  (17, .ireturn, 1, (1, 0, 0, 0), none)]
def cd_X0_op : List sm_E := [(0, .aload_n 0, 1, (0, 0, 0, 0), none),
  (1, .iload_n 1, 1, (0, 0, 0, 0), none),
  (2, .invokevirtual 84, 3, (18, 2, 1, 10), none),
  (5, .ifCond .eq 12, 3, (0, 0, 0, 0), none),
  (8, .aload_n 0, 1, (0, 0, 0, 0), none),
  (9, .getfield 13, 3, (10, 0, 30, 0), none),
  (12, .iload_n 1, 1, (0, 0, 0, 0), none),
  (13, .iaload, 1, (30, 900, 0, 0), none),
  (14, .goto 4, 3, (0, 0, 0, 0), none),
  (17, .iconst 3, 1, (0, 0, 0, 0), none),
  (18, .ireturn, 1, (0, 0, 0, 0), none)]
def cd_X0_arg : List sm_E := [(0, .aload_n 0, 1, (0, 0, 0, 0), none),
  (1, .iload_n 1, 1, (0, 0, 0, 0), none),
  (2, .invokevirtual 84, 3, (18, 2, 1, 10), none),
  (5, .ifCond .eq 12, 3, (0, 0, 0, 0), none),
  (8, .aload_n 0, 1, (0, 0, 0, 0), none),
  (9, .getfield 17, 3, (10, 1, 31, 0), none),
  (12, .iload_n 1, 1, (0, 0, 0, 0), none),
  (13, .iaload, 1, (31, 900, 0, 0), none),
  (14, .goto 4, 3, (0, 0, 0, 0), none),
  (17, .iconst 0, 1, (0, 0, 0, 0), none),
  (18, .ireturn, 1, (0, 0, 0, 0), none)]
def cd_X0_tokenPlace : List sm_E := [(0, .aload_n 0, 1, (0, 0, 0, 0), none),
  (1, .iload_n 1, 1, (0, 0, 0, 0), none),
  (2, .invokevirtual 84, 3, (18, 2, 1, 10), none),
  (5, .ifCond .eq 12, 3, (0, 0, 0, 0), none),
  (8, .aload_n 0, 1, (0, 0, 0, 0), none),
  (9, .getfield 20, 3, (10, 2, 32, 0), none),
  (12, .iload_n 1, 1, (0, 0, 0, 0), none),
  (13, .iaload, 1, (32, 900, 0, 0), none),
  (14, .goto 4, 3, (0, 0, 0, 0), none),
  (17, .iconst (-1), 1, (0, 0, 0, 0), none),
  (18, .ireturn, 1, (0, 0, 0, 0), none)]
def cd_X0_catchOf : List sm_E := [(0, .aload_n 0, 1, (0, 0, 0, 0), none),
  (1, .iload_n 1, 1, (0, 0, 0, 0), none),
  (2, .invokevirtual 84, 3, (18, 2, 1, 10), none),
  (5, .ifCond .eq 12, 3, (0, 0, 0, 0), none),
  (8, .aload_n 0, 1, (0, 0, 0, 0), none),
  (9, .getfield 23, 3, (10, 3, 33, 0), none),
  (12, .iload_n 1, 1, (0, 0, 0, 0), none),
  (13, .iaload, 1, (33, 900, 0, 0), none),
  (14, .goto 4, 3, (0, 0, 0, 0), none),
  (17, .iconst (-1), 1, (0, 0, 0, 0), none),
  (18, .istore_n 2, 1, (0, 0, 0, 0), some [0]),
  (19, .iload_n 2, 1, (0, 0, 0, 0), none),
  (20, .ifCond .lt 20, 3, (0, 0, 0, 0), none),
  (23, .iload_n 2, 1, (0, 0, 0, 0), none),
  (24, .aload_n 0, 1, (0, 0, 0, 0), none),
  (25, .getfield 66, 3, (10, 10, 0, 0), none),
  (28, .if_icmp .ge 12, 3, (0, 0, 0, 0), none),
  (31, .aload_n 0, 1, (0, 0, 0, 0), none),
  (32, .getfield 26, 3, (10, 4, 34, 0), none),
  (35, .iload_n 2, 1, (0, 0, 0, 0), none),
  (36, .iaload, 1, (34, 100, 0, 0), none),
  (37, .goto 4, 3, (0, 0, 0, 0), none),
  (40, .iconst (-1), 1, (0, 0, 0, 0), none),
  (41, .ireturn, 1, (0, 0, 0, 0), none)]
def cd_X1_isKind : List sm_E := [(0, .iload_n 0, 1, (0, 0, 0, 0), none),
  (1, .ifCond .lt 13, 3, (0, 0, 0, 0), none),
  (4, .iload_n 0, 1, (0, 0, 0, 0), none),
  (5, .bipush 12, 2, (0, 0, 0, 0), none),
  (7, .if_icmp .gt 7, 3, (0, 0, 0, 0), none),
  (10, .iconst 1, 1, (0, 0, 0, 0), none),
  (11, .goto 4, 3, (0, 0, 0, 0), none),
  (14, .iconst 0, 1, (0, 0, 0, 0), none),
  (15, .ireturn, 1, (1, 0, 0, 0), none)]
def cd_X1_isKindOrAbility : List sm_E := [(0, .iload_n 0, 1, (0, 0, 0, 0), none),
  (1, .ifCond .lt 13, 3, (0, 0, 0, 0), none),
  (4, .iload_n 0, 1, (0, 0, 0, 0), none),
  (5, .bipush 18, 2, (0, 0, 0, 0), none),
  (7, .if_icmp .ge 7, 3, (0, 0, 0, 0), none),
  (10, .iconst 1, 1, (0, 0, 0, 0), none),
  (11, .goto 4, 3, (0, 0, 0, 0), none),
  (14, .iconst 0, 1, (0, 0, 0, 0), none),
  (15, .ireturn, 1, (1, 0, 0, 0), none)]
def cd_X1_isRow : List sm_E := [(0, .iload_n 0, 1, (0, 0, 0, 0), none),
  (1, .bipush 18, 2, (0, 0, 0, 0), none),
  (3, .if_icmp .lt 13, 3, (0, 0, 0, 0), none),
  (6, .iload_n 0, 1, (0, 0, 0, 0), none),
  (7, .bipush 36, 2, (0, 0, 0, 0), none),
  (9, .if_icmp .ge 7, 3, (0, 0, 0, 0), none),
  (12, .iconst 1, 1, (0, 0, 0, 0), none),
  (13, .goto 4, 3, (0, 0, 0, 0), none),
  (16, .iconst 0, 1, (0, 0, 0, 0), none),
  (17, .ireturn, 1, (1, 0, 0, 0), none)]
def cd_X1_isReference : List sm_E := [(0, .iload_n 0, 1, (0, 0, 0, 0), none),
  (1, .ifCond .lt 9, 3, (0, 0, 0, 0), none),
  (4, .iload_n 0, 1, (0, 0, 0, 0), none),
  (5, .bipush 36, 2, (0, 0, 0, 0), none),
  (7, .if_icmp .lt 9, 3, (0, 0, 0, 0), none),
  (10, .iload_n 0, 1, (0, 0, 0, 0), none),
  (11, .bipush 37, 2, (0, 0, 0, 0), none),
  (13, .if_icmp .ne 7, 3, (0, 0, 0, 0), none),
  (16, .iconst 1, 1, (0, 0, 0, 0), none),
  (17, .goto 4, 3, (0, 0, 0, 0), none),
  (20, .iconst 0, 1, (0, 0, 0, 0), none),
  (21, .ireturn, 1, (1, 0, 0, 0), none)]
def cd_X1_isBelow : List sm_E := [(0, .iload_n 0, 1, (0, 0, 0, 0), none),
  (1, .ifCond .lt 19, 3, (0, 0, 0, 0), none),
  (4, .iload_n 0, 1, (0, 0, 0, 0), none),
  (5, .bipush 36, 2, (0, 0, 0, 0), none),
  (7, .if_icmp .ge 13, 3, (0, 0, 0, 0), none),
  (10, .iload_n 1, 1, (0, 0, 0, 0), none),
  (11, .ifCond .lt 9, 3, (0, 0, 0, 0), none),
  (14, .iload_n 1, 1, (0, 0, 0, 0), none),
  (15, .bipush 36, 2, (0, 0, 0, 0), none),
  (17, .if_icmp .lt 5, 3, (0, 0, 0, 0), none),
  (20, .iconst 0, 1, (0, 0, 0, 0), none),
  (21, .ireturn, 1, (1, 0, 0, 0), none),
  (22, .iload_n 0, 1, (0, 0, 0, 0), none),
  (23, .bipush 18, 2, (0, 0, 0, 0), none),
  (25, .if_icmp .lt 7, 3, (0, 0, 0, 0), none),
  (28, .iconst 1, 1, (0, 0, 0, 0), none),
  (29, .goto 4, 3, (0, 0, 0, 0), none),
  (32, .iconst 0, 1, (0, 0, 0, 0), none),
  (33, .iload_n 1, 1, (0, 0, 0, 0), none),
  (34, .bipush 18, 2, (0, 0, 0, 0), none),
  (36, .if_icmp .lt 7, 3, (0, 0, 0, 0), none),
  (39, .iconst 1, 1, (0, 0, 0, 0), none),
  (40, .goto 4, 3, (0, 0, 0, 0), none),
  (43, .iconst 0, 1, (0, 0, 0, 0), none),
  (44, .if_icmp .eq 5, 3, (0, 0, 0, 0), some [0, 1]),
  (47, .iconst 0, 1, (0, 0, 0, 0), none),
  (48, .ireturn, 1, (1, 0, 0, 0), none),
  (49, .getstatic 9, 3, (1, 3, 0, 0), none),
  (52, .iload_n 0, 1, (0, 0, 0, 0), none),
  (53, .bipush 18, 2, (0, 0, 0, 0), none),
  (55, .irem, 1, (0, 0, 0, 0), none),
  (56, .iaload, 1, (6, 0, 0, 0), none),
  (57, .iload_n 1, 1, (0, 0, 0, 0), none),
  (58, .bipush 18, 2, (0, 0, 0, 0), none),
  (60, .irem, 1, (0, 0, 0, 0), none),
  (61, .ishr, 1, (0, 0, 0, 0), none),
  (62, .iconst 1, 1, (0, 0, 0, 0), none),
  (63, .iand, 1, (0, 0, 0, 0), none),
  (64, .iconst 1, 1, (0, 0, 0, 0), none),
  (65, .if_icmp .ne 7, 3, (0, 0, 0, 0), none),
  (68, .iconst 1, 1, (0, 0, 0, 0), none),
  (69, .goto 4, 3, (0, 0, 0, 0), none),
  (72, .iconst 0, 1, (0, 0, 0, 0), none),
  (73, .ireturn, 1, (1, 0, 0, 0), none)]
def cd_X1_fits : List sm_E := [(0, .iload_n 0, 1, (0, 0, 0, 0), none),
  (1, .bipush 37, 2, (0, 0, 0, 0), none),
  (3, .if_icmp .ne 8, 3, (0, 0, 0, 0), none),
  (6, .iload_n 1, 1, (0, 0, 0, 0), none),
  (7, .invokestatic 13, 3, (26, 1, 1, 0), none),
  (10, .ireturn, 1, (1, 0, 0, 0), none),
  (11, .iload_n 0, 1, (0, 0, 0, 0), none),
  (12, .bipush 36, 2, (0, 0, 0, 0), none),
  (14, .if_icmp .ne 17, 3, (0, 0, 0, 0), none),
  (17, .iload_n 1, 1, (0, 0, 0, 0), none),
  (18, .bipush 36, 2, (0, 0, 0, 0), none),
  (20, .if_icmp .ne 7, 3, (0, 0, 0, 0), none),
  (23, .iconst 1, 1, (0, 0, 0, 0), none),
  (24, .goto 12, 3, (0, 0, 0, 0), none),
  (27, .iconst 0, 1, (0, 0, 0, 0), none),
  (28, .goto 8, 3, (0, 0, 0, 0), none),
  (31, .iload_n 0, 1, (0, 0, 0, 0), none),
  (32, .iload_n 1, 1, (0, 0, 0, 0), none),
  (33, .invokestatic 17, 3, (27, 2, 1, 0), none),
  (36, .ireturn, 1, (1, 0, 0, 0), none)]
def cd_X1_mayBeAsked : List sm_E := [(0, .iload_n 0, 1, (0, 0, 0, 0), none),
  (1, .invokestatic 13, 3, (26, 1, 1, 0), none),
  (4, .ifCond .eq 10, 3, (0, 0, 0, 0), none),
  (7, .iload_n 1, 1, (0, 0, 0, 0), none),
  (8, .invokestatic 13, 3, (26, 1, 1, 0), none),
  (11, .ifCond .ne 5, 3, (0, 0, 0, 0), none),
  (14, .iconst 0, 1, (0, 0, 0, 0), none),
  (15, .ireturn, 1, (1, 0, 0, 0), none),
  (16, .iload_n 0, 1, (0, 0, 0, 0), none),
  (17, .bipush 37, 2, (0, 0, 0, 0), none),
  (19, .if_icmp .ne 5, 3, (0, 0, 0, 0), none),
  (22, .iconst 1, 1, (0, 0, 0, 0), none),
  (23, .ireturn, 1, (1, 0, 0, 0), none),
  (24, .iload_n 0, 1, (0, 0, 0, 0), none),
  (25, .invokestatic 21, 3, (25, 1, 1, 0), none),
  (28, .iload_n 1, 1, (0, 0, 0, 0), none),
  (29, .invokestatic 21, 3, (25, 1, 1, 0), none),
  (32, .if_icmp .eq 5, 3, (0, 0, 0, 0), none),
  (35, .iconst 0, 1, (0, 0, 0, 0), none),
  (36, .ireturn, 1, (1, 0, 0, 0), none),
  (37, .iload_n 0, 1, (0, 0, 0, 0), none),
  (38, .bipush 18, 2, (0, 0, 0, 0), none),
  (40, .irem, 1, (0, 0, 0, 0), none),
  (41, .invokestatic 24, 3, (23, 1, 1, 0), none),
  (44, .ifCond .eq 17, 3, (0, 0, 0, 0), none),
  (47, .iload_n 1, 1, (0, 0, 0, 0), none),
  (48, .bipush 18, 2, (0, 0, 0, 0), none),
  (50, .irem, 1, (0, 0, 0, 0), none),
  (51, .invokestatic 24, 3, (23, 1, 1, 0), none),
  (54, .ifCond .eq 7, 3, (0, 0, 0, 0), none),
  (57, .iconst 1, 1, (0, 0, 0, 0), none),
  (58, .goto 4, 3, (0, 0, 0, 0), none),
  (61, .iconst 0, 1, (0, 0, 0, 0), none),
  (62, .istore_n 2, 1, (0, 0, 0, 0), some [0, 1]),
  (63, .iload_n 2, 1, (0, 0, 0, 0), none),
  (64, .ifCond .eq 19, 3, (0, 0, 0, 0), none),
  (67, .iload_n 0, 1, (0, 0, 0, 0), none),
  (68, .iload_n 1, 1, (0, 0, 0, 0), none),
  (69, .invokestatic 17, 3, (27, 2, 1, 0), none),
  (72, .ifCond .ne 11, 3, (0, 0, 0, 0), none),
  (75, .iload_n 1, 1, (0, 0, 0, 0), none),
  (76, .iload_n 0, 1, (0, 0, 0, 0), none),
  (77, .invokestatic 17, 3, (27, 2, 1, 0), none),
  (80, .ifCond .eq 7, 3, (0, 0, 0, 0), none),
  (83, .iconst 1, 1, (0, 0, 0, 0), none),
  (84, .goto 4, 3, (0, 0, 0, 0), none),
  (87, .iconst 0, 1, (0, 0, 0, 0), none),
  (88, .ireturn, 1, (1, 0, 0, 0), none)]
def cd_X2_init : List sm_E := [(0, .aload_n 0, 1, (0, 0, 0, 0), none),
  (1, .invokespecial 3, 3, (0, 0, 0, 1002), none),
  (4, .aload_n 0, 1, (0, 0, 0, 0), none),
  (5, .bipush 8, 2, (0, 0, 0, 0), none),
  (7, .newarray .int, 2, (39, 8, 0, 0), none),
  (9, .putfield 11, 3, (12, 0, 39, 0), none),
  (12, .aload_n 0, 1, (0, 0, 0, 0), none),
  (13, .bipush 8, 2, (0, 0, 0, 0), none),
  (15, .anewarray 15, 3, (40, 8, 0, 0), none),
  (18, .putfield 17, 3, (12, 1, 40, 0), none),
  (21, .aload_n 0, 1, (0, 0, 0, 0), none),
  (22, .bipush 10, 2, (0, 0, 0, 0), none),
  (24, .anewarray 21, 3, (41, 10, 0, 0), none),
  (27, .putfield 23, 3, (12, 2, 41, 0), none),
  (30, .return_, 1, (0, 0, 0, 0), none)]
def cd_X2_isTrack : List sm_E := [(0, .iload_n 0, 1, (0, 0, 0, 0), none),
  (1, .ifCond .lt 13, 3, (0, 0, 0, 0), none),
  (4, .iload_n 0, 1, (0, 0, 0, 0), none),
  (5, .bipush 8, 2, (0, 0, 0, 0), none),
  (7, .if_icmp .ge 7, 3, (0, 0, 0, 0), none),
  (10, .iconst 1, 1, (0, 0, 0, 0), none),
  (11, .goto 4, 3, (0, 0, 0, 0), none),
  (14, .iconst 0, 1, (0, 0, 0, 0), none),
  (15, .ireturn, 1, (1, 0, 0, 0), none)]
def cd_X2_setStated : List sm_E := [(0, .iload_n 1, 1, (0, 0, 0, 0), none),
  (1, .invokestatic 27, 3, (31, 1, 1, 0), none),
  (4, .ifCond .eq 10, 3, (0, 0, 0, 0), none),
  (7, .iload_n 2, 1, (0, 0, 0, 0), none),
  (8, .invokestatic 31, 3, (24, 1, 1, 0), none),
  (11, .ifCond .ne 5, 3, (0, 0, 0, 0), none),
  (14, .iconst 0, 1, (0, 0, 0, 0), none),
  (15, .ireturn, 1, (1, 0, 0, 0), none),
  (16, .aload_n 0, 1, (0, 0, 0, 0), none),
  (17, .getfield 11, 3, (12, 0, 39, 0), none),
  (20, .iload_n 1, 1, (0, 0, 0, 0), none),
  (21, .iload_n 2, 1, (0, 0, 0, 0), none),
  (22, .iastore, 1, (39, 8, 0, 0), none),
  (23, .aload_n 0, 1, (0, 0, 0, 0), none),
  (24, .getfield 17, 3, (12, 1, 40, 0), none),
  (27, .iload_n 1, 1, (0, 0, 0, 0), none),
  (28, .aaload, 1, (40, 8, 0, 0), none),
  (29, .astore_n 3, 1, (0, 0, 0, 0), none),
  (30, .aload_n 3, 1, (0, 0, 0, 0), none),
  (31, .ifnull 21, 3, (0, 0, 0, 0), none),
  (34, .aload_n 3, 1, (0, 0, 0, 0), none),
  (35, .getfield 36, 3, (16, 0, 0, 0), none),
  (38, .iload_n 2, 1, (0, 0, 0, 0), none),
  (39, .invokestatic 40, 3, (27, 2, 1, 0), none),
  (42, .ifCond .ne 10, 3, (0, 0, 0, 0), none),
  (45, .aload_n 0, 1, (0, 0, 0, 0), none),
  (46, .getfield 17, 3, (12, 1, 40, 0), none),
  (49, .iload_n 1, 1, (0, 0, 0, 0), none),
  (50, .aconst_null, 1, (0, 0, 0, 0), none),
  (51, .aastore, 1, (40, 8, 16, 0), none),
  (52, .iconst 1, 1, (0, 0, 0, 0), none),
  (53, .ireturn, 1, (1, 0, 0, 0), none)]
def cd_X2_rowOn : List sm_E := [(0, .iload_n 1, 1, (0, 0, 0, 0), none),
  (1, .invokestatic 27, 3, (31, 1, 1, 0), none),
  (4, .ifCond .eq 12, 3, (0, 0, 0, 0), none),
  (7, .aload_n 0, 1, (0, 0, 0, 0), none),
  (8, .getfield 17, 3, (12, 1, 40, 0), none),
  (11, .iload_n 1, 1, (0, 0, 0, 0), none),
  (12, .aaload, 1, (40, 8, 0, 0), none),
  (13, .goto 4, 3, (0, 0, 0, 0), none),
  (16, .aconst_null, 1, (0, 0, 0, 0), none),
  (17, .areturn, 1, (0, 0, 0, 0), none)]
def cd_X2_lay : List sm_E := [(0, .iload_n 1, 1, (0, 0, 0, 0), none),
  (1, .invokestatic 27, 3, (31, 1, 1, 0), none),
  (4, .ifCond .eq 23, 3, (0, 0, 0, 0), none),
  (7, .aload_n 2, 1, (0, 0, 0, 0), none),
  (8, .ifnull 21, 3, (0, 0, 0, 0), none),
  (11, .aload_n 2, 1, (0, 0, 0, 0), none),
  (12, .getfield 36, 3, (16, 0, 0, 0), none),
  (15, .aload_n 0, 1, (0, 0, 0, 0), none),
  (16, .getfield 11, 3, (12, 0, 39, 0), none),
  (19, .iload_n 1, 1, (0, 0, 0, 0), none),
  (20, .iaload, 1, (39, 8, 0, 0), none),
  (21, .invokestatic 40, 3, (27, 2, 1, 0), none),
  (24, .ifCond .ne 5, 3, (0, 0, 0, 0), none),
  (27, .iconst 0, 1, (0, 0, 0, 0), none),
  (28, .ireturn, 1, (1, 0, 0, 0), none),
  (29, .aload_n 0, 1, (0, 0, 0, 0), none),
  (30, .getfield 17, 3, (12, 1, 40, 0), none),
  (33, .iload_n 1, 1, (0, 0, 0, 0), none),
  (34, .aload_n 2, 1, (0, 0, 0, 0), none),
  (35, .aastore, 1, (40, 8, 16, 0), none),
  (36, .iconst 1, 1, (0, 0, 0, 0), none),
  (37, .ireturn, 1, (1, 0, 0, 0), none)]
def cd_X2_send : List sm_E := [(0, .iload_n 2, 1, (0, 0, 0, 0), none),
  (1, .invokestatic 27, 3, (31, 1, 1, 0), none),
  (4, .ifCond .eq 19, 3, (0, 0, 0, 0), none),
  (7, .iload_n 3, 1, (0, 0, 0, 0), none),
  (8, .iconst 1, 1, (0, 0, 0, 0), none),
  (9, .if_icmp .lt 14, 3, (0, 0, 0, 0), none),
  (12, .iload_n 3, 1, (0, 0, 0, 0), none),
  (13, .sipush 1000, 3, (0, 0, 0, 0), none),
  (16, .if_icmp .gt 7, 3, (0, 0, 0, 0), none),
  (19, .iconst 1, 1, (0, 0, 0, 0), none),
  (20, .goto 4, 3, (0, 0, 0, 0), none),
  (23, .iconst 0, 1, (0, 0, 0, 0), none),
  (24, .istore 4, 2, (0, 0, 0, 0), some [0, 1, 2, 3]),
  (26, .iload 4, 2, (0, 0, 0, 0), none),
  (28, .ifCond .eq 12, 3, (0, 0, 0, 0), none),
  (31, .aload_n 0, 1, (0, 0, 0, 0), none),
  (32, .getfield 44, 3, (12, 3, 0, 0), none),
  (35, .bipush 10, 2, (0, 0, 0, 0), none),
  (37, .if_icmp .lt 5, 3, (0, 0, 0, 0), none),
  (40, .iconst (-1), 1, (0, 0, 0, 0), none),
  (41, .ireturn, 1, (0, 0, 0, 0), none),
  (42, .aload_n 0, 1, (0, 0, 0, 0), none),
  (43, .getfield 23, 3, (12, 2, 41, 0), none),
  (46, .aload_n 0, 1, (0, 0, 0, 0), none),
  (47, .getfield 44, 3, (12, 3, 0, 0), none),
  (50, .new 21, 3, (18, 5, 0, 0), none),
  (53, .dup, 1, (0, 0, 0, 0), none),
  (54, .aload_n 1, 1, (0, 0, 0, 0), none),
  (55, .iload_n 2, 1, (0, 0, 0, 0), none),
  (56, .iload_n 3, 1, (0, 0, 0, 0), none),
  (57, .invokespecial 47, 3, (144, 4, 0, 18), none),
  (60, .aastore, 1, (41, 10, 18, 0), none),
  (61, .aload_n 0, 1, (0, 0, 0, 0), none),
  (62, .dup, 1, (0, 0, 0, 0), none),
  (63, .getfield 44, 3, (12, 3, 0, 0), none),
  (66, .iconst 1, 1, (0, 0, 0, 0), none),
  (67, .iadd, 1, (0, 0, 0, 0), none),
  (68, .putfield 44, 3, (12, 3, 0, 0), none),
  (71, .aload_n 0, 1, (0, 0, 0, 0), none),
  (72, .getfield 44, 3, (12, 3, 0, 0), none),
  (75, .iconst 1, 1, (0, 0, 0, 0), none),
  (76, .isub, 1, (0, 0, 0, 0), none),
  (77, .ireturn, 1, (0, 0, 0, 0), none)]
def cd_X2_passTime : List sm_E := [(0, .iconst 0, 1, (0, 0, 0, 0), none),
  (1, .istore_n 2, 1, (0, 0, 0, 0), none),
  (2, .iconst 0, 1, (0, 0, 0, 0), none),
  (3, .istore_n 3, 1, (0, 0, 0, 0), none),
  (4, .iload_n 3, 1, (0, 0, 0, 0), some [0, 1, 2, 3]),
  (5, .iload_n 1, 1, (0, 0, 0, 0), none),
  (6, .if_icmp .ge 76, 3, (0, 0, 0, 0), none),
  (9, .aload_n 0, 1, (0, 0, 0, 0), none),
  (10, .dup, 1, (0, 0, 0, 0), none),
  (11, .getfield 50, 3, (12, 4, 0, 0), none),
  (14, .iconst 1, 1, (0, 0, 0, 0), none),
  (15, .iadd, 1, (0, 0, 0, 0), none),
  (16, .putfield 50, 3, (12, 4, 0, 0), none),
  (19, .iconst 0, 1, (0, 0, 0, 0), none),
  (20, .istore 4, 2, (0, 0, 0, 0), none),
  (22, .iload 4, 2, (0, 0, 0, 0), some [0, 1, 2, 3, 4]),
  (24, .aload_n 0, 1, (0, 0, 0, 0), none),
  (25, .getfield 44, 3, (12, 3, 0, 0), none),
  (28, .if_icmp .ge 48, 3, (0, 0, 0, 0), none),
  (31, .aload_n 0, 1, (0, 0, 0, 0), none),
  (32, .getfield 23, 3, (12, 2, 41, 0), none),
  (35, .iload 4, 2, (0, 0, 0, 0), none),
  (37, .aaload, 1, (41, 10, 0, 0), none),
  (38, .astore 5, 2, (0, 0, 0, 0), none),
  (40, .aload 5, 2, (0, 0, 0, 0), none),
  (42, .ifnull 28, 3, (0, 0, 0, 0), none),
  (45, .aload 5, 2, (0, 0, 0, 0), none),
  (47, .getfield 53, 3, (18, 4, 0, 0), none),
  (50, .ifCond .ne 20, 3, (0, 0, 0, 0), none),
  (53, .iload_n 2, 1, (0, 0, 0, 0), none),
  (54, .aload_n 0, 1, (0, 0, 0, 0), none),
  (55, .aload 5, 2, (0, 0, 0, 0), none),
  (57, .invokevirtual 56, 3, (37, 2, 1, 12), none),
  (60, .ifCond .eq 7, 3, (0, 0, 0, 0), none),
  (63, .iconst 1, 1, (0, 0, 0, 0), none),
  (64, .goto 4, 3, (0, 0, 0, 0), none),
  (67, .iconst 0, 1, (0, 0, 0, 0), none),
  (68, .iadd, 1, (0, 0, 0, 0), none),
  (69, .istore_n 2, 1, (0, 0, 0, 0), none),
  (70, .iinc 4 1, 3, (0, 0, 0, 0), none),
  (73, .goto (-51), 3, (0, 0, 0, 0), none),
  (76, .iinc 3 1, 3, (0, 0, 0, 0), none),
  (79, .goto (-75), 3, (0, 0, 0, 0), none),
  (82, .iload_n 2, 1, (0, 0, 0, 0), none),
  (83, .ireturn, 1, (0, 0, 0, 0), none)]
def cd_X2_move : List sm_E := [(0, .aload_n 1, 1, (0, 0, 0, 0), none),
  (1, .invokevirtual 60, 3, (145, 1, 0, 18), none),
  (4, .aload_n 1, 1, (0, 0, 0, 0), none),
  (5, .getfield 62, 3, (18, 2, 0, 0), none),
  (8, .ifCond .le 5, 3, (0, 0, 0, 0), none),
  (11, .iconst 0, 1, (0, 0, 0, 0), none),
  (12, .ireturn, 1, (1, 0, 0, 0), none),
  (13, .aload_n 1, 1, (0, 0, 0, 0), none),
  (14, .aload_n 0, 1, (0, 0, 0, 0), none),
  (15, .aload_n 1, 1, (0, 0, 0, 0), none),
  (16, .getfield 65, 3, (18, 1, 0, 0), none),
  (19, .aload_n 1, 1, (0, 0, 0, 0), none),
  (20, .getfield 68, 3, (18, 0, 2, 0), none),
  (23, .invokevirtual 72, 3, (34, 3, 1, 12), none),
  (26, .ifCond .eq 7, 3, (0, 0, 0, 0), none),
  (29, .iconst 1, 1, (0, 0, 0, 0), none),
  (30, .goto 4, 3, (0, 0, 0, 0), none),
  (33, .iconst 2, 1, (0, 0, 0, 0), none),
  (34, .putfield 53, 3, (18, 4, 0, 0), none),
  (37, .iconst 1, 1, (0, 0, 0, 0), none),
  (38, .ireturn, 1, (1, 0, 0, 0), none)]
def cd_X2_tellTrack : List sm_E := [(0, .iload_n 1, 1, (0, 0, 0, 0), none),
  (1, .invokestatic 27, 3, (31, 1, 1, 0), none),
  (4, .ifCond .ne 5, 3, (0, 0, 0, 0), none),
  (7, .iconst (-1), 1, (0, 0, 0, 0), none),
  (8, .ireturn, 1, (0, 0, 0, 0), none),
  (9, .aload_n 0, 1, (0, 0, 0, 0), none),
  (10, .getfield 17, 3, (12, 1, 40, 0), none),
  (13, .iload_n 1, 1, (0, 0, 0, 0), none),
  (14, .aaload, 1, (40, 8, 0, 0), none),
  (15, .astore_n 3, 1, (0, 0, 0, 0), none),
  (16, .iload_n 2, 1, (0, 0, 0, 0), none),
  (17, .tableswitch 78 0 3 #[31, 38, 51, 64], 31, (0, 0, 0, 0), none),
  (48, .aload_n 0, 1, (0, 0, 0, 0), none),
  (49, .getfield 11, 3, (12, 0, 39, 0), none),
  (52, .iload_n 1, 1, (0, 0, 0, 0), none),
  (53, .iaload, 1, (39, 8, 0, 0), none),
  (54, .ireturn, 1, (0, 0, 0, 0), none),
  (55, .aload_n 3, 1, (0, 0, 0, 0), none),
  (56, .ifnonnull 7, 3, (0, 0, 0, 0), none),
  (59, .iconst (-1), 1, (0, 0, 0, 0), none),
  (60, .goto 7, 3, (0, 0, 0, 0), none),
  (63, .aload_n 3, 1, (0, 0, 0, 0), none),
  (64, .getfield 36, 3, (16, 0, 0, 0), none),
  (67, .ireturn, 1, (0, 0, 0, 0), none),
  (68, .aload_n 3, 1, (0, 0, 0, 0), none),
  (69, .ifnonnull 7, 3, (0, 0, 0, 0), none),
  (72, .iconst 0, 1, (0, 0, 0, 0), none),
  (73, .goto 7, 3, (0, 0, 0, 0), none),
  (76, .aload_n 3, 1, (0, 0, 0, 0), none),
  (77, .getfield 76, 3, (16, 2, 0, 0), none),
  (80, .ireturn, 1, (0, 0, 0, 0), none),
  (81, .aload_n 3, 1, (0, 0, 0, 0), none),
  (82, .ifnonnull 7, 3, (0, 0, 0, 0), none),
  (85, .iconst (-1), 1, (0, 0, 0, 0), none),
  (86, .goto 8, 3, (0, 0, 0, 0), none),
  (89, .aload_n 0, 1, (0, 0, 0, 0), none),
  (90, .aload_n 3, 1, (0, 0, 0, 0), none),
  (91, .invokevirtual 79, 3, (39, 2, 1, 12), none),
  (94, .ireturn, 1, (0, 0, 0, 0), none),
  (95, .iconst (-1), 1, (0, 0, 0, 0), none),
  (96, .ireturn, 1, (0, 0, 0, 0), none)]
def cd_X2_leastTrackWith : List sm_E := [(0, .iconst 0, 1, (0, 0, 0, 0), none),
  (1, .istore_n 2, 1, (0, 0, 0, 0), none),
  (2, .iload_n 2, 1, (0, 0, 0, 0), some [0, 1, 2]),
  (3, .bipush 8, 2, (0, 0, 0, 0), none),
  (5, .if_icmp .ge 21, 3, (0, 0, 0, 0), none),
  (8, .aload_n 0, 1, (0, 0, 0, 0), none),
  (9, .getfield 17, 3, (12, 1, 40, 0), none),
  (12, .iload_n 2, 1, (0, 0, 0, 0), none),
  (13, .aaload, 1, (40, 8, 0, 0), none),
  (14, .aload_n 1, 1, (0, 0, 0, 0), none),
  (15, .if_acmp .ne 5, 3, (0, 0, 0, 0), none),
  (18, .iload_n 2, 1, (0, 0, 0, 0), none),
  (19, .ireturn, 1, (0, 0, 0, 0), none),
  (20, .iinc 2 1, 3, (0, 0, 0, 0), none),
  (23, .goto (-21), 3, (0, 0, 0, 0), none),
  (26, .iconst (-1), 1, (0, 0, 0, 0), none),
  (27, .ireturn, 1, (0, 0, 0, 0), none)]
def cd_X2_tellTrain : List sm_E := [(0, .iload_n 1, 1, (0, 0, 0, 0), none),
  (1, .ifCond .lt 11, 3, (0, 0, 0, 0), none),
  (4, .iload_n 1, 1, (0, 0, 0, 0), none),
  (5, .aload_n 0, 1, (0, 0, 0, 0), none),
  (6, .getfield 44, 3, (12, 3, 0, 0), none),
  (9, .if_icmp .lt 7, 3, (0, 0, 0, 0), none),
  (12, .aconst_null, 1, (0, 0, 0, 0), none),
  (13, .goto 9, 3, (0, 0, 0, 0), none),
  (16, .aload_n 0, 1, (0, 0, 0, 0), none),
  (17, .getfield 23, 3, (12, 2, 41, 0), none),
  (20, .iload_n 1, 1, (0, 0, 0, 0), none),
  (21, .aaload, 1, (41, 10, 0, 0), none),
  (22, .astore_n 3, 1, (0, 0, 0, 0), some [2]),
  (23, .aload_n 3, 1, (0, 0, 0, 0), none),
  (24, .ifnonnull 5, 3, (0, 0, 0, 0), none),
  (27, .iconst (-1), 1, (0, 0, 0, 0), none),
  (28, .ireturn, 1, (0, 0, 0, 0), none),
  (29, .iload_n 2, 1, (0, 0, 0, 0), none),
  (30, .tableswitch 63 0 4 #[34, 39, 44, 49, 54], 34, (0, 0, 0, 0), none),
  (64, .aload_n 3, 1, (0, 0, 0, 0), none),
  (65, .getfield 53, 3, (18, 4, 0, 0), none),
  (68, .ireturn, 1, (0, 0, 0, 0), none),
  (69, .aload_n 3, 1, (0, 0, 0, 0), none),
  (70, .getfield 65, 3, (18, 1, 0, 0), none),
  (73, .ireturn, 1, (0, 0, 0, 0), none),
  (74, .aload_n 3, 1, (0, 0, 0, 0), none),
  (75, .getfield 62, 3, (18, 2, 0, 0), none),
  (78, .ireturn, 1, (0, 0, 0, 0), none),
  (79, .aload_n 3, 1, (0, 0, 0, 0), none),
  (80, .getfield 83, 3, (18, 3, 0, 0), none),
  (83, .ireturn, 1, (0, 0, 0, 0), none),
  (84, .aload_n 3, 1, (0, 0, 0, 0), none),
  (85, .getfield 68, 3, (18, 0, 2, 0), none),
  (88, .iconst 2, 1, (0, 0, 0, 0), none),
  (89, .invokevirtual 88, 3, (127, 2, 1, 16), none),
  (92, .ireturn, 1, (0, 0, 0, 0), none),
  (93, .iconst (-1), 1, (0, 0, 0, 0), none),
  (94, .ireturn, 1, (0, 0, 0, 0), none)]
def cd_X3_init : List sm_E := [(0, .aload_n 0, 1, (0, 0, 0, 0), none),
  (1, .invokespecial 7, 3, (0, 0, 0, 1002), none),
  (4, .aload_n 0, 1, (0, 0, 0, 0), none),
  (5, .sipush 1560, 3, (0, 0, 0, 0), none),
  (8, .newarray .int, 2, (42, 1560, 0, 0), none),
  (10, .putfield 13, 3, (13, 2, 42, 0), none),
  (13, .aload_n 0, 1, (0, 0, 0, 0), none),
  (14, .bipush 15, 2, (0, 0, 0, 0), none),
  (16, .newarray .int, 2, (43, 15, 0, 0), none),
  (18, .putfield 17, 3, (13, 3, 43, 0), none),
  (21, .aload_n 0, 1, (0, 0, 0, 0), none),
  (22, .bipush 15, 2, (0, 0, 0, 0), none),
  (24, .newarray .int, 2, (44, 15, 0, 0), none),
  (26, .putfield 20, 3, (13, 4, 44, 0), none),
  (29, .aload_n 0, 1, (0, 0, 0, 0), none),
  (30, .bipush 7, 2, (0, 0, 0, 0), none),
  (32, .newarray .int, 2, (45, 7, 0, 0), none),
  (34, .putfield 23, 3, (13, 5, 45, 0), none),
  (37, .aload_n 0, 1, (0, 0, 0, 0), none),
  (38, .sipush 300, 3, (0, 0, 0, 0), none),
  (41, .newarray .int, 2, (46, 300, 0, 0), none),
  (43, .putfield 26, 3, (13, 15, 46, 0), none),
  (46, .aload_n 0, 1, (0, 0, 0, 0), none),
  (47, .aload_n 1, 1, (0, 0, 0, 0), none),
  (48, .putfield 29, 3, (13, 0, 20, 0), none),
  (51, .aload_n 0, 1, (0, 0, 0, 0), none),
  (52, .aload_n 2, 1, (0, 0, 0, 0), none),
  (53, .putfield 33, 3, (13, 1, 12, 0), none),
  (56, .aload_n 0, 1, (0, 0, 0, 0), none),
  (57, .aload_n 3, 1, (0, 0, 0, 0), none),
  (58, .putfield 37, 3, (13, 7, 2, 0), none),
  (61, .return_, 1, (0, 0, 0, 0), none)]
def cd_X3_start : List sm_E := [(0, .aload_n 0, 1, (0, 0, 0, 0), none),
  (1, .aload_n 1, 1, (0, 0, 0, 0), none),
  (2, .putfield 37, 3, (13, 7, 2, 0), none),
  (5, .aload_n 0, 1, (0, 0, 0, 0), none),
  (6, .iconst 0, 1, (0, 0, 0, 0), none),
  (7, .putfield 41, 3, (13, 8, 0, 0), none),
  (10, .aload_n 0, 1, (0, 0, 0, 0), none),
  (11, .iconst 0, 1, (0, 0, 0, 0), none),
  (12, .putfield 45, 3, (13, 9, 0, 0), none),
  (15, .aload_n 0, 1, (0, 0, 0, 0), none),
  (16, .iload 5, 2, (0, 0, 0, 0), none),
  (18, .putfield 48, 3, (13, 11, 0, 0), none),
  (21, .aload_n 0, 1, (0, 0, 0, 0), none),
  (22, .bipush 10, 2, (0, 0, 0, 0), none),
  (24, .putfield 51, 3, (13, 12, 0, 0), none),
  (27, .aload_n 0, 1, (0, 0, 0, 0), none),
  (28, .iconst (-1), 1, (0, 0, 0, 0), none),
  (29, .putfield 54, 3, (13, 13, 0, 0), none),
  (32, .aload_n 0, 1, (0, 0, 0, 0), none),
  (33, .iconst 0, 1, (0, 0, 0, 0), none),
  (34, .putfield 57, 3, (13, 14, 0, 0), none),
  (37, .aload_n 0, 1, (0, 0, 0, 0), none),
  (38, .getfield 37, 3, (13, 7, 2, 0), none),
  (41, .iload_n 2, 1, (0, 0, 0, 0), none),
  (42, .invokevirtual 60, 3, (8, 2, 1, 10), none),
  (45, .ifCond .le 8, 3, (0, 0, 0, 0), none),
  (48, .aload_n 0, 1, (0, 0, 0, 0), none),
  (49, .iload_n 3, 1, (0, 0, 0, 0), none),
  (50, .invokevirtual 66, 3, (45, 2, 0, 13), none),
  (53, .aload_n 0, 1, (0, 0, 0, 0), some [0, 2, 4]),
  (54, .getfield 37, 3, (13, 7, 2, 0), none),
  (57, .iload_n 2, 1, (0, 0, 0, 0), none),
  (58, .invokevirtual 60, 3, (8, 2, 1, 10), none),
  (61, .iconst 1, 1, (0, 0, 0, 0), none),
  (62, .if_icmp .le 9, 3, (0, 0, 0, 0), none),
  (65, .aload_n 0, 1, (0, 0, 0, 0), none),
  (66, .iload 4, 2, (0, 0, 0, 0), none),
  (68, .invokevirtual 66, 3, (45, 2, 0, 13), none),
  (71, .aload_n 0, 1, (0, 0, 0, 0), none),
  (72, .iload_n 2, 1, (0, 0, 0, 0), none),
  (73, .invokevirtual 70, 3, (50, 2, 0, 13), none),
  (76, .iconst 0, 1, (0, 0, 0, 0), none),
  (77, .istore 6, 2, (0, 0, 0, 0), none),
  (79, .iload 6, 2, (0, 0, 0, 0), some [0, 2, 6]),
  (81, .ldc 73, 2, (0, 10000000, 0, 0), none),
  (83, .if_icmp .ge 105, 3, (0, 0, 0, 0), none),
  (86, .aload_n 0, 1, (0, 0, 0, 0), none),
  (87, .getfield 51, 3, (13, 12, 0, 0), none),
  (90, .bipush 10, 2, (0, 0, 0, 0), none),
  (92, .if_icmp .ne 96, 3, (0, 0, 0, 0), none),
  (95, .aload_n 0, 1, (0, 0, 0, 0), none),
  (96, .getfield 37, 3, (13, 7, 2, 0), none),
  (99, .aload_n 0, 1, (0, 0, 0, 0), none),
  (100, .getfield 74, 3, (13, 10, 0, 0), none),
  (103, .invokevirtual 77, 3, (19, 2, 1, 10), none),
  (106, .istore 7, 2, (0, 0, 0, 0), none),
  (108, .aload_n 0, 1, (0, 0, 0, 0), none),
  (109, .getfield 37, 3, (13, 7, 2, 0), none),
  (112, .aload_n 0, 1, (0, 0, 0, 0), none),
  (113, .getfield 74, 3, (13, 10, 0, 0), none),
  (116, .invokevirtual 80, 3, (20, 2, 1, 10), none),
  (119, .istore 8, 2, (0, 0, 0, 0), none),
  (121, .aload_n 0, 1, (0, 0, 0, 0), none),
  (122, .dup, 1, (0, 0, 0, 0), none),
  (123, .getfield 74, 3, (13, 10, 0, 0), none),
  (126, .iconst 1, 1, (0, 0, 0, 0), none),
  (127, .iadd, 1, (0, 0, 0, 0), none),
  (128, .putfield 74, 3, (13, 10, 0, 0), none),
  (131, .iload 7, 2, (0, 0, 0, 0), none),
  (133, .iconst 4, 1, (0, 0, 0, 0), none),
  (134, .if_icmp .ge 14, 3, (0, 0, 0, 0), none),
  (137, .aload_n 0, 1, (0, 0, 0, 0), none),
  (138, .iload 7, 2, (0, 0, 0, 0), none),
  (140, .iload 8, 2, (0, 0, 0, 0), none),
  (142, .invokevirtual 83, 3, (55, 3, 0, 13), none),
  (145, .goto 37, 3, (0, 0, 0, 0), none),
  (148, .aload_n 0, 1, (0, 0, 0, 0), none),
  (149, .getfield 48, 3, (13, 11, 0, 0), none),
  (152, .ifCond .gt 12, 3, (0, 0, 0, 0), none),
  (155, .aload_n 0, 1, (0, 0, 0, 0), none),
  (156, .bipush 7, 2, (0, 0, 0, 0), none),
  (158, .invokevirtual 87, 3, (52, 2, 0, 13), none),
  (161, .goto 21, 3, (0, 0, 0, 0), none),
  (164, .aload_n 0, 1, (0, 0, 0, 0), none),
  (165, .dup, 1, (0, 0, 0, 0), none),
  (166, .getfield 48, 3, (13, 11, 0, 0), none),
  (169, .iconst 1, 1, (0, 0, 0, 0), none),
  (170, .isub, 1, (0, 0, 0, 0), none),
  (171, .putfield 48, 3, (13, 11, 0, 0), none),
  (174, .aload_n 0, 1, (0, 0, 0, 0), none),
  (175, .iload 7, 2, (0, 0, 0, 0), none),
  (177, .iload 8, 2, (0, 0, 0, 0), none),
  (179, .invokevirtual 90, 3, (56, 3, 0, 13), none),
  (182, .iinc 6 1, 3, (0, 0, 0, 0), none),
  (185, .goto (-106), 3, (0, 0, 0, 0), none),
  (188, .aload_n 0, 1, (0, 0, 0, 0), none),
  (189, .aload_n 0, 1, (0, 0, 0, 0), none),
  (190, .getfield 37, 3, (13, 7, 2, 0), none),
  (193, .iload_n 2, 1, (0, 0, 0, 0), none),
  (194, .invokevirtual 93, 3, (10, 2, 1, 10), none),
  (197, .invokevirtual 95, 3, (43, 2, 0, 13), none),
  (200, .aload_n 0, 1, (0, 0, 0, 0), none),
  (201, .getfield 51, 3, (13, 12, 0, 0), none),
  (204, .ireturn, 1, (0, 0, 0, 0), none)]
def cd_X3_keepRun : List sm_E := [(0, .aload_n 0, 1, (0, 0, 0, 0), none),
  (1, .getfield 51, 3, (13, 12, 0, 0), none),
  (4, .ifCond .ne 7, 3, (0, 0, 0, 0), none),
  (7, .iconst 1, 1, (0, 0, 0, 0), none),
  (8, .goto 4, 3, (0, 0, 0, 0), none),
  (11, .iconst 0, 1, (0, 0, 0, 0), none),
  (12, .istore_n 2, 1, (0, 0, 0, 0), some [0, 1]),
  (13, .iload_n 2, 1, (0, 0, 0, 0), none),
  (14, .ifCond .eq 14, 3, (0, 0, 0, 0), none),
  (17, .iload_n 1, 1, (0, 0, 0, 0), none),
  (18, .invokestatic 98, 3, (26, 1, 1, 0), none),
  (21, .ifCond .eq 7, 3, (0, 0, 0, 0), none),
  (24, .iconst 1, 1, (0, 0, 0, 0), none),
  (25, .goto 4, 3, (0, 0, 0, 0), none),
  (28, .iconst 0, 1, (0, 0, 0, 0), none),
  (29, .istore_n 3, 1, (0, 0, 0, 0), some [0, 1, 2]),
  (30, .iload_n 3, 1, (0, 0, 0, 0), none),
  (31, .ifCond .eq 17, 3, (0, 0, 0, 0), none),
  (34, .aload_n 0, 1, (0, 0, 0, 0), none),
  (35, .getfield 29, 3, (13, 0, 20, 0), none),
  (38, .aload_n 0, 1, (0, 0, 0, 0), none),
  (39, .getfield 57, 3, (13, 14, 0, 0), none),
  (42, .invokevirtual 104, 3, (162, 2, 3, 20), none),
  (45, .goto 4, 3, (0, 0, 0, 0), none),
  (48, .aconst_null, 1, (0, 0, 0, 0), none),
  (49, .astore 4, 2, (0, 0, 0, 0), some [0, 1, 2, 3]),
  (51, .aload_n 0, 1, (0, 0, 0, 0), none),
  (52, .iconst 1, 1, (0, 0, 0, 0), none),
  (53, .putfield 110, 3, (13, 6, 3, 0), none),
  (56, .aload_n 0, 1, (0, 0, 0, 0), none),
  (57, .getfield 23, 3, (13, 5, 45, 0), none),
  (60, .iconst 0, 1, (0, 0, 0, 0), none),
  (61, .aload_n 0, 1, (0, 0, 0, 0), none),
  (62, .getfield 51, 3, (13, 12, 0, 0), none),
  (65, .iastore, 1, (45, 7, 0, 0), none),
  (66, .aload_n 0, 1, (0, 0, 0, 0), none),
  (67, .getfield 23, 3, (13, 5, 45, 0), none),
  (70, .iconst 1, 1, (0, 0, 0, 0), none),
  (71, .iload_n 2, 1, (0, 0, 0, 0), none),
  (72, .ifCond .eq 16, 3, (0, 0, 0, 0), none),
  (75, .iload_n 1, 1, (0, 0, 0, 0), none),
  (76, .bipush 36, 2, (0, 0, 0, 0), none),
  (78, .if_icmp .ne 10, 3, (0, 0, 0, 0), none),
  (81, .aload_n 0, 1, (0, 0, 0, 0), none),
  (82, .getfield 57, 3, (13, 14, 0, 0), none),
  (85, .goto 4, 3, (0, 0, 0, 0), none),
  (88, .iconst 0, 1, (0, 0, 0, 0), none),
  (89, .iastore, 1, (45, 7, 0, 0), some [0, 2, 3, 4]),
  (90, .aload_n 0, 1, (0, 0, 0, 0), none),
  (91, .getfield 23, 3, (13, 5, 45, 0), none),
  (94, .iconst 2, 1, (0, 0, 0, 0), none),
  (95, .iload_n 3, 1, (0, 0, 0, 0), none),
  (96, .ifCond .eq 17, 3, (0, 0, 0, 0), none),
  (99, .aload_n 0, 1, (0, 0, 0, 0), none),
  (100, .getfield 29, 3, (13, 0, 20, 0), none),
  (103, .aload_n 0, 1, (0, 0, 0, 0), none),
  (104, .getfield 57, 3, (13, 14, 0, 0), none),
  (107, .invokevirtual 114, 3, (165, 2, 1, 20), none),
  (110, .goto 4, 3, (0, 0, 0, 0), none),
  (113, .iconst (-1), 1, (0, 0, 0, 0), none),
  (114, .iastore, 1, (45, 7, 0, 0), some [0, 2, 3, 4]),
  (115, .aload_n 0, 1, (0, 0, 0, 0), none),
  (116, .getfield 23, 3, (13, 5, 45, 0), none),
  (119, .iconst 3, 1, (0, 0, 0, 0), none),
  (120, .iload_n 3, 1, (0, 0, 0, 0), none),
  (121, .ifCond .eq 12, 3, (0, 0, 0, 0), none),
  (124, .aload_n 0, 1, (0, 0, 0, 0), none),
  (125, .getfield 57, 3, (13, 14, 0, 0), none),
  (128, .iconst 1, 1, (0, 0, 0, 0), none),
  (129, .isub, 1, (0, 0, 0, 0), none),
  (130, .goto 4, 3, (0, 0, 0, 0), none),
  (133, .iconst (-1), 1, (0, 0, 0, 0), none),
  (134, .iastore, 1, (45, 7, 0, 0), some [0, 2, 4]),
  (135, .aload 4, 2, (0, 0, 0, 0), none),
  (137, .ifnull 14, 3, (0, 0, 0, 0), none),
  (140, .aload_n 0, 1, (0, 0, 0, 0), none),
  (141, .getfield 23, 3, (13, 5, 45, 0), none),
  (144, .iconst 3, 1, (0, 0, 0, 0), none),
  (145, .aload 4, 2, (0, 0, 0, 0), none),
  (147, .getfield 117, 3, (16, 2, 0, 0), none),
  (150, .iastore, 1, (45, 7, 0, 0), none),
  (151, .aload_n 0, 1, (0, 0, 0, 0), some [0, 2]),
  (152, .getfield 23, 3, (13, 5, 45, 0), none),
  (155, .iconst 4, 1, (0, 0, 0, 0), none),
  (156, .aload_n 0, 1, (0, 0, 0, 0), none),
  (157, .getfield 48, 3, (13, 11, 0, 0), none),
  (160, .iastore, 1, (45, 7, 0, 0), none),
  (161, .aload_n 0, 1, (0, 0, 0, 0), none),
  (162, .getfield 23, 3, (13, 5, 45, 0), none),
  (165, .iconst 5, 1, (0, 0, 0, 0), none),
  (166, .aload_n 0, 1, (0, 0, 0, 0), none),
  (167, .getfield 51, 3, (13, 12, 0, 0), none),
  (170, .bipush 6, 2, (0, 0, 0, 0), none),
  (172, .if_icmp .ne 10, 3, (0, 0, 0, 0), none),
  (175, .aload_n 0, 1, (0, 0, 0, 0), none),
  (176, .getfield 57, 3, (13, 14, 0, 0), none),
  (179, .goto 4, 3, (0, 0, 0, 0), none),
  (182, .iconst 0, 1, (0, 0, 0, 0), none),
  (183, .iastore, 1, (45, 7, 0, 0), some [0, 2]),
  (184, .aload_n 0, 1, (0, 0, 0, 0), none),
  (185, .getfield 23, 3, (13, 5, 45, 0), none),
  (188, .bipush 6, 2, (0, 0, 0, 0), none),
  (190, .iload_n 2, 1, (0, 0, 0, 0), none),
  (191, .ifCond .eq 7, 3, (0, 0, 0, 0), none),
  (194, .iconst (-1), 1, (0, 0, 0, 0), none),
  (195, .goto 14, 3, (0, 0, 0, 0), none),
  (198, .aload_n 0, 1, (0, 0, 0, 0), none),
  (199, .getfield 37, 3, (13, 7, 2, 0), none),
  (202, .aload_n 0, 1, (0, 0, 0, 0), none),
  (203, .getfield 54, 3, (13, 13, 0, 0), none),
  (206, .invokevirtual 122, 3, (21, 2, 1, 10), none),
  (209, .iastore, 1, (45, 7, 0, 0), none),
  (210, .return_, 1, (0, 0, 0, 0), none)]
def cd_X3_tellRun : List sm_E := [(0, .aload_n 0, 1, (0, 0, 0, 0), none),
  (1, .getfield 110, 3, (13, 6, 3, 0), none),
  (4, .ifCond .eq 16, 3, (0, 0, 0, 0), none),
  (7, .iload_n 1, 1, (0, 0, 0, 0), none),
  (8, .ifCond .lt 12, 3, (0, 0, 0, 0), none),
  (11, .iload_n 1, 1, (0, 0, 0, 0), none),
  (12, .aload_n 0, 1, (0, 0, 0, 0), none),
  (13, .getfield 23, 3, (13, 5, 45, 0), none),
  (16, .arraylength, 1, (45, 7, 0, 0), none),
  (17, .if_icmp .lt 7, 3, (0, 0, 0, 0), none),
  (20, .iconst (-1), 1, (0, 0, 0, 0), none),
  (21, .goto 9, 3, (0, 0, 0, 0), none),
  (24, .aload_n 0, 1, (0, 0, 0, 0), none),
  (25, .getfield 23, 3, (13, 5, 45, 0), none),
  (28, .iload_n 1, 1, (0, 0, 0, 0), none),
  (29, .iaload, 1, (45, 7, 0, 0), none),
  (30, .ireturn, 1, (0, 0, 0, 0), none)]
def cd_X3_push : List sm_E := [(0, .aload_n 0, 1, (0, 0, 0, 0), none),
  (1, .getfield 41, 3, (13, 8, 0, 0), none),
  (4, .ifCond .lt 33, 3, (0, 0, 0, 0), none),
  (7, .aload_n 0, 1, (0, 0, 0, 0), none),
  (8, .getfield 41, 3, (13, 8, 0, 0), none),
  (11, .sipush 1560, 3, (0, 0, 0, 0), none),
  (14, .if_icmp .ge 23, 3, (0, 0, 0, 0), none),
  (17, .aload_n 0, 1, (0, 0, 0, 0), none),
  (18, .getfield 13, 3, (13, 2, 42, 0), none),
  (21, .aload_n 0, 1, (0, 0, 0, 0), none),
  (22, .getfield 41, 3, (13, 8, 0, 0), none),
  (25, .iload_n 1, 1, (0, 0, 0, 0), none),
  (26, .iastore, 1, (42, 1560, 0, 0), none),
  (27, .aload_n 0, 1, (0, 0, 0, 0), none),
  (28, .dup, 1, (0, 0, 0, 0), none),
  (29, .getfield 41, 3, (13, 8, 0, 0), none),
  (32, .iconst 1, 1, (0, 0, 0, 0), none),
  (33, .iadd, 1, (0, 0, 0, 0), none),
  (34, .putfield 41, 3, (13, 8, 0, 0), none),
  (37, .return_, 1, (0, 0, 0, 0), none)]
def cd_X3_pop : List sm_E := [(0, .aload_n 0, 1, (0, 0, 0, 0), none),
  (1, .getfield 41, 3, (13, 8, 0, 0), none),
  (4, .ifCond .le 13, 3, (0, 0, 0, 0), none),
  (7, .aload_n 0, 1, (0, 0, 0, 0), none),
  (8, .getfield 41, 3, (13, 8, 0, 0), none),
  (11, .sipush 1560, 3, (0, 0, 0, 0), none),
  (14, .if_icmp .le 5, 3, (0, 0, 0, 0), none),
  (17, .iconst 0, 1, (0, 0, 0, 0), none),
  (18, .ireturn, 1, (0, 0, 0, 0), none),
  (19, .aload_n 0, 1, (0, 0, 0, 0), none),
  (20, .dup, 1, (0, 0, 0, 0), none),
  (21, .getfield 41, 3, (13, 8, 0, 0), none),
  (24, .iconst 1, 1, (0, 0, 0, 0), none),
  (25, .isub, 1, (0, 0, 0, 0), none),
  (26, .putfield 41, 3, (13, 8, 0, 0), none),
  (29, .aload_n 0, 1, (0, 0, 0, 0), none),
  (30, .getfield 13, 3, (13, 2, 42, 0), none),
  (33, .aload_n 0, 1, (0, 0, 0, 0), none),
  (34, .getfield 41, 3, (13, 8, 0, 0), none),
  (37, .iaload, 1, (42, 1560, 0, 0), none),
  (38, .ireturn, 1, (0, 0, 0, 0), none)]
def cd_X3_base : List sm_E := [(0, .aload_n 0, 1, (0, 0, 0, 0), none),
  (1, .getfield 45, 3, (13, 9, 0, 0), none),
  (4, .ifCond .le 26, 3, (0, 0, 0, 0), none),
  (7, .aload_n 0, 1, (0, 0, 0, 0), none),
  (8, .getfield 45, 3, (13, 9, 0, 0), none),
  (11, .bipush 15, 2, (0, 0, 0, 0), none),
  (13, .if_icmp .gt 17, 3, (0, 0, 0, 0), none),
  (16, .aload_n 0, 1, (0, 0, 0, 0), none),
  (17, .getfield 17, 3, (13, 3, 43, 0), none),
  (20, .aload_n 0, 1, (0, 0, 0, 0), none),
  (21, .getfield 45, 3, (13, 9, 0, 0), none),
  (24, .iconst 1, 1, (0, 0, 0, 0), none),
  (25, .isub, 1, (0, 0, 0, 0), none),
  (26, .iaload, 1, (43, 15, 0, 0), none),
  (27, .goto 4, 3, (0, 0, 0, 0), none),
  (30, .iconst 0, 1, (0, 0, 0, 0), none),
  (31, .ireturn, 1, (0, 0, 0, 0), none)]
def cd_X3_nameValue : List sm_E := [(0, .aload_n 0, 1, (0, 0, 0, 0), none),
  (1, .invokevirtual 125, 3, (47, 1, 1, 13), none),
  (4, .iload_n 1, 1, (0, 0, 0, 0), none),
  (5, .iadd, 1, (0, 0, 0, 0), none),
  (6, .istore_n 2, 1, (0, 0, 0, 0), none),
  (7, .iload_n 2, 1, (0, 0, 0, 0), none),
  (8, .ifCond .lt 19, 3, (0, 0, 0, 0), none),
  (11, .iload_n 2, 1, (0, 0, 0, 0), none),
  (12, .sipush 1560, 3, (0, 0, 0, 0), none),
  (15, .if_icmp .ge 12, 3, (0, 0, 0, 0), none),
  (18, .aload_n 0, 1, (0, 0, 0, 0), none),
  (19, .getfield 13, 3, (13, 2, 42, 0), none),
  (22, .iload_n 2, 1, (0, 0, 0, 0), none),
  (23, .iaload, 1, (42, 1560, 0, 0), none),
  (24, .goto 4, 3, (0, 0, 0, 0), none),
  (27, .iconst 0, 1, (0, 0, 0, 0), none),
  (28, .ireturn, 1, (0, 0, 0, 0), none)]
def cd_X3_setName : List sm_E := [(0, .aload_n 0, 1, (0, 0, 0, 0), none),
  (1, .invokevirtual 125, 3, (47, 1, 1, 13), none),
  (4, .iload_n 1, 1, (0, 0, 0, 0), none),
  (5, .iadd, 1, (0, 0, 0, 0), none),
  (6, .istore_n 3, 1, (0, 0, 0, 0), none),
  (7, .iload_n 3, 1, (0, 0, 0, 0), none),
  (8, .ifCond .lt 17, 3, (0, 0, 0, 0), none),
  (11, .iload_n 3, 1, (0, 0, 0, 0), none),
  (12, .sipush 1560, 3, (0, 0, 0, 0), none),
  (15, .if_icmp .ge 10, 3, (0, 0, 0, 0), none),
  (18, .aload_n 0, 1, (0, 0, 0, 0), none),
  (19, .getfield 13, 3, (13, 2, 42, 0), none),
  (22, .iload_n 3, 1, (0, 0, 0, 0), none),
  (23, .iload_n 2, 1, (0, 0, 0, 0), none),
  (24, .iastore, 1, (42, 1560, 0, 0), none),
  (25, .return_, 1, (0, 0, 0, 0), none)]
def cd_X3_enter : List sm_E := [(0, .aload_n 0, 1, (0, 0, 0, 0), none),
  (1, .getfield 45, 3, (13, 9, 0, 0), none),
  (4, .bipush 15, 2, (0, 0, 0, 0), none),
  (6, .if_icmp .lt 10, 3, (0, 0, 0, 0), none),
  (9, .aload_n 0, 1, (0, 0, 0, 0), none),
  (10, .bipush 9, 2, (0, 0, 0, 0), none),
  (12, .invokevirtual 87, 3, (52, 2, 0, 13), none),
  (15, .return_, 1, (0, 0, 0, 0), none),
  (16, .aload_n 0, 1, (0, 0, 0, 0), none),
  (17, .getfield 17, 3, (13, 3, 43, 0), none),
  (20, .aload_n 0, 1, (0, 0, 0, 0), none),
  (21, .getfield 45, 3, (13, 9, 0, 0), none),
  (24, .aload_n 0, 1, (0, 0, 0, 0), none),
  (25, .getfield 41, 3, (13, 8, 0, 0), none),
  (28, .aload_n 0, 1, (0, 0, 0, 0), none),
  (29, .getfield 37, 3, (13, 7, 2, 0), none),
  (32, .iload_n 1, 1, (0, 0, 0, 0), none),
  (33, .invokevirtual 60, 3, (8, 2, 1, 10), none),
  (36, .isub, 1, (0, 0, 0, 0), none),
  (37, .iastore, 1, (43, 15, 0, 0), none),
  (38, .aload_n 0, 1, (0, 0, 0, 0), none),
  (39, .getfield 20, 3, (13, 4, 44, 0), none),
  (42, .aload_n 0, 1, (0, 0, 0, 0), none),
  (43, .getfield 45, 3, (13, 9, 0, 0), none),
  (46, .aload_n 0, 1, (0, 0, 0, 0), none),
  (47, .getfield 74, 3, (13, 10, 0, 0), none),
  (50, .iastore, 1, (44, 15, 0, 0), none),
  (51, .aload_n 0, 1, (0, 0, 0, 0), none),
  (52, .aload_n 0, 1, (0, 0, 0, 0), none),
  (53, .getfield 17, 3, (13, 3, 43, 0), none),
  (56, .aload_n 0, 1, (0, 0, 0, 0), none),
  (57, .getfield 45, 3, (13, 9, 0, 0), none),
  (60, .iaload, 1, (43, 15, 0, 0), none),
  (61, .bipush 24, 2, (0, 0, 0, 0), none),
  (63, .iadd, 1, (0, 0, 0, 0), none),
  (64, .putfield 41, 3, (13, 8, 0, 0), none),
  (67, .aload_n 0, 1, (0, 0, 0, 0), none),
  (68, .dup, 1, (0, 0, 0, 0), none),
  (69, .getfield 45, 3, (13, 9, 0, 0), none),
  (72, .iconst 1, 1, (0, 0, 0, 0), none),
  (73, .iadd, 1, (0, 0, 0, 0), none),
  (74, .putfield 45, 3, (13, 9, 0, 0), none),
  (77, .aload_n 0, 1, (0, 0, 0, 0), none),
  (78, .aload_n 0, 1, (0, 0, 0, 0), none),
  (79, .getfield 37, 3, (13, 7, 2, 0), none),
  (82, .iload_n 1, 1, (0, 0, 0, 0), none),
  (83, .invokevirtual 129, 3, (11, 2, 1, 10), none),
  (86, .putfield 74, 3, (13, 10, 0, 0), none),
  (89, .return_, 1, (0, 0, 0, 0), none)]
def cd_X3_leave : List sm_E := [(0, .aload_n 0, 1, (0, 0, 0, 0), none),
  (1, .aload_n 0, 1, (0, 0, 0, 0), none),
  (2, .invokevirtual 125, 3, (47, 1, 1, 13), none),
  (5, .putfield 41, 3, (13, 8, 0, 0), none),
  (8, .aload_n 0, 1, (0, 0, 0, 0), none),
  (9, .getfield 45, 3, (13, 9, 0, 0), none),
  (12, .ifCond .le 26, 3, (0, 0, 0, 0), none),
  (15, .aload_n 0, 1, (0, 0, 0, 0), none),
  (16, .dup, 1, (0, 0, 0, 0), none),
  (17, .getfield 45, 3, (13, 9, 0, 0), none),
  (20, .iconst 1, 1, (0, 0, 0, 0), none),
  (21, .isub, 1, (0, 0, 0, 0), none),
  (22, .putfield 45, 3, (13, 9, 0, 0), none),
  (25, .aload_n 0, 1, (0, 0, 0, 0), none),
  (26, .aload_n 0, 1, (0, 0, 0, 0), none),
  (27, .getfield 20, 3, (13, 4, 44, 0), none),
  (30, .aload_n 0, 1, (0, 0, 0, 0), none),
  (31, .getfield 45, 3, (13, 9, 0, 0), none),
  (34, .iaload, 1, (44, 15, 0, 0), none),
  (35, .putfield 74, 3, (13, 10, 0, 0), none),
  (38, .aload_n 0, 1, (0, 0, 0, 0), some [0, 1]),
  (39, .getfield 45, 3, (13, 9, 0, 0), none),
  (42, .ifCond .le 11, 3, (0, 0, 0, 0), none),
  (45, .aload_n 0, 1, (0, 0, 0, 0), none),
  (46, .iload_n 1, 1, (0, 0, 0, 0), none),
  (47, .invokevirtual 66, 3, (45, 2, 0, 13), none),
  (50, .goto 13, 3, (0, 0, 0, 0), none),
  (53, .aload_n 0, 1, (0, 0, 0, 0), none),
  (54, .iload_n 1, 1, (0, 0, 0, 0), none),
  (55, .putfield 57, 3, (13, 14, 0, 0), none),
  (58, .aload_n 0, 1, (0, 0, 0, 0), none),
  (59, .iconst 0, 1, (0, 0, 0, 0), none),
  (60, .putfield 51, 3, (13, 12, 0, 0), none),
  (63, .return_, 1, (0, 0, 0, 0), none)]
def cd_X3_end : List sm_E := [(0, .aload_n 0, 1, (0, 0, 0, 0), none),
  (1, .iload_n 1, 1, (0, 0, 0, 0), none),
  (2, .putfield 51, 3, (13, 12, 0, 0), none),
  (5, .aload_n 0, 1, (0, 0, 0, 0), none),
  (6, .aload_n 0, 1, (0, 0, 0, 0), none),
  (7, .getfield 74, 3, (13, 10, 0, 0), none),
  (10, .iconst 1, 1, (0, 0, 0, 0), none),
  (11, .isub, 1, (0, 0, 0, 0), none),
  (12, .putfield 54, 3, (13, 13, 0, 0), none),
  (15, .return_, 1, (0, 0, 0, 0), none)]
def cd_X3_raise : List sm_E := [(0, .aload_n 0, 1, (0, 0, 0, 0), none),
  (1, .iload_n 1, 1, (0, 0, 0, 0), none),
  (2, .iload_n 1, 1, (0, 0, 0, 0), none),
  (3, .invokevirtual 132, 3, (54, 3, 0, 13), none),
  (6, .return_, 1, (0, 0, 0, 0), none)]
def cd_X3_raiseWith : List sm_E := [(0, .aload_n 0, 1, (0, 0, 0, 0), none),
  (1, .getfield 135, 3, (13, 17, 0, 0), none),
  (4, .sipush 600, 3, (0, 0, 0, 0), none),
  (7, .if_icmp .lt 10, 3, (0, 0, 0, 0), none),
  (10, .aload_n 0, 1, (0, 0, 0, 0), none),
  (11, .bipush 8, 2, (0, 0, 0, 0), none),
  (13, .invokevirtual 87, 3, (52, 2, 0, 13), none),
  (16, .return_, 1, (0, 0, 0, 0), none),
  (17, .aload_n 0, 1, (0, 0, 0, 0), none),
  (18, .dup, 1, (0, 0, 0, 0), none),
  (19, .getfield 135, 3, (13, 17, 0, 0), none),
  (22, .iconst 1, 1, (0, 0, 0, 0), none),
  (23, .iadd, 1, (0, 0, 0, 0), none),
  (24, .putfield 135, 3, (13, 17, 0, 0), none),
  (27, .aload_n 0, 1, (0, 0, 0, 0), none),
  (28, .getfield 74, 3, (13, 10, 0, 0), none),
  (31, .iconst 1, 1, (0, 0, 0, 0), none),
  (32, .isub, 1, (0, 0, 0, 0), none),
  (33, .istore_n 3, 1, (0, 0, 0, 0), none),
  (34, .aload_n 0, 1, (0, 0, 0, 0), none),
  (35, .getfield 45, 3, (13, 9, 0, 0), none),
  (38, .bipush 15, 2, (0, 0, 0, 0), none),
  (40, .invokestatic 138, 3, (307, 2, 1, 0), none),
  (43, .iconst 1, 1, (0, 0, 0, 0), none),
  (44, .isub, 1, (0, 0, 0, 0), none),
  (45, .istore 4, 2, (0, 0, 0, 0), none),
  (47, .iload 4, 2, (0, 0, 0, 0), some [0, 1, 2, 3, 4]),
  (49, .ifCond .lt 69, 3, (0, 0, 0, 0), none),
  (52, .aload_n 0, 1, (0, 0, 0, 0), none),
  (53, .getfield 37, 3, (13, 7, 2, 0), none),
  (56, .iload_n 3, 1, (0, 0, 0, 0), none),
  (57, .invokevirtual 144, 3, (22, 2, 1, 10), none),
  (60, .istore 5, 2, (0, 0, 0, 0), none),
  (62, .iload 5, 2, (0, 0, 0, 0), none),
  (64, .iconst (-1), 1, (0, 0, 0, 0), none),
  (65, .if_icmp .eq 37, 3, (0, 0, 0, 0), none),
  (68, .aload_n 0, 1, (0, 0, 0, 0), none),
  (69, .iload 4, 2, (0, 0, 0, 0), none),
  (71, .iconst 1, 1, (0, 0, 0, 0), none),
  (72, .iadd, 1, (0, 0, 0, 0), none),
  (73, .putfield 45, 3, (13, 9, 0, 0), none),
  (76, .aload_n 0, 1, (0, 0, 0, 0), none),
  (77, .aload_n 0, 1, (0, 0, 0, 0), none),
  (78, .getfield 17, 3, (13, 3, 43, 0), none),
  (81, .iload 4, 2, (0, 0, 0, 0), none),
  (83, .iaload, 1, (43, 15, 0, 0), none),
  (84, .bipush 24, 2, (0, 0, 0, 0), none),
  (86, .iadd, 1, (0, 0, 0, 0), none),
  (87, .putfield 41, 3, (13, 8, 0, 0), none),
  (90, .aload_n 0, 1, (0, 0, 0, 0), none),
  (91, .iload_n 2, 1, (0, 0, 0, 0), none),
  (92, .invokevirtual 66, 3, (45, 2, 0, 13), none),
  (95, .aload_n 0, 1, (0, 0, 0, 0), none),
  (96, .iload 5, 2, (0, 0, 0, 0), none),
  (98, .putfield 74, 3, (13, 10, 0, 0), none),
  (101, .return_, 1, (0, 0, 0, 0), none),
  (102, .aload_n 0, 1, (0, 0, 0, 0), none),
  (103, .getfield 20, 3, (13, 4, 44, 0), none),
  (106, .iload 4, 2, (0, 0, 0, 0), none),
  (108, .iaload, 1, (44, 15, 0, 0), none),
  (109, .iconst 1, 1, (0, 0, 0, 0), none),
  (110, .isub, 1, (0, 0, 0, 0), none),
  (111, .istore_n 3, 1, (0, 0, 0, 0), none),
  (112, .iinc 4 (-1), 3, (0, 0, 0, 0), none),
  (115, .goto (-68), 3, (0, 0, 0, 0), none),
  (118, .aload_n 0, 1, (0, 0, 0, 0), none),
  (119, .iload_n 2, 1, (0, 0, 0, 0), none),
  (120, .putfield 57, 3, (13, 14, 0, 0), none),
  (123, .aload_n 0, 1, (0, 0, 0, 0), none),
  (124, .iload_n 1, 1, (0, 0, 0, 0), none),
  (125, .invokevirtual 87, 3, (52, 2, 0, 13), none),
  (128, .return_, 1, (0, 0, 0, 0), none)]
def cd_X3_doFree : List sm_E := [(0, .iload_n 1, 1, (0, 0, 0, 0), none),
  (1, .tableswitch 55 0 2 #[27, 35, 43], 27, (0, 0, 0, 0), none),
  (28, .aload_n 0, 1, (0, 0, 0, 0), none),
  (29, .iload_n 2, 1, (0, 0, 0, 0), none),
  (30, .putfield 74, 3, (13, 10, 0, 0), none),
  (33, .goto 28, 3, (0, 0, 0, 0), none),
  (36, .aload_n 0, 1, (0, 0, 0, 0), none),
  (37, .invokevirtual 147, 3, (46, 1, 1, 13), none),
  (40, .pop, 1, (0, 0, 0, 0), none),
  (41, .goto 20, 3, (0, 0, 0, 0), none),
  (44, .aload_n 0, 1, (0, 0, 0, 0), none),
  (45, .iload_n 2, 1, (0, 0, 0, 0), none),
  (46, .aload_n 0, 1, (0, 0, 0, 0), none),
  (47, .invokevirtual 147, 3, (46, 1, 1, 13), none),
  (50, .invokevirtual 150, 3, (49, 3, 0, 13), none),
  (53, .goto 8, 3, (0, 0, 0, 0), none),
  (56, .aload_n 0, 1, (0, 0, 0, 0), none),
  (57, .iconst 0, 1, (0, 0, 0, 0), none),
  (58, .invokevirtual 153, 3, (51, 2, 0, 13), none),
  (61, .return_, 1, (0, 0, 0, 0), none)]
def cd_X3_doAct : List sm_E := [(0, .iload_n 1, 1, (0, 0, 0, 0), none),
  (1, .tableswitch 369 4 32 #[131, 139, 151, 369, 369, 369, 369, 369, 369, 163, 171, 179, 186, 193, 201, 209, 216, 224, 232, 243, 250, 270, 283, 305, 313, 334, 341, 348, 355], 131, (0, 0, 0, 0), none),
  (132, .aload_n 0, 1, (0, 0, 0, 0), none),
  (133, .iload_n 2, 1, (0, 0, 0, 0), none),
  (134, .invokevirtual 66, 3, (45, 2, 0, 13), none),
  (137, .goto 238, 3, (0, 0, 0, 0), none),
  (140, .aload_n 0, 1, (0, 0, 0, 0), none),
  (141, .aload_n 0, 1, (0, 0, 0, 0), none),
  (142, .iload_n 2, 1, (0, 0, 0, 0), none),
  (143, .invokevirtual 156, 3, (48, 2, 1, 13), none),
  (146, .invokevirtual 66, 3, (45, 2, 0, 13), none),
  (149, .goto 226, 3, (0, 0, 0, 0), none),
  (152, .aload_n 0, 1, (0, 0, 0, 0), none),
  (153, .iload_n 2, 1, (0, 0, 0, 0), none),
  (154, .aload_n 0, 1, (0, 0, 0, 0), none),
  (155, .invokevirtual 147, 3, (46, 1, 1, 13), none),
  (158, .invokevirtual 150, 3, (49, 3, 0, 13), none),
  (161, .goto 214, 3, (0, 0, 0, 0), none),
  (164, .aload_n 0, 1, (0, 0, 0, 0), none),
  (165, .iload_n 2, 1, (0, 0, 0, 0), none),
  (166, .invokevirtual 159, 3, (58, 2, 0, 13), none),
  (169, .goto 206, 3, (0, 0, 0, 0), none),
  (172, .aload_n 0, 1, (0, 0, 0, 0), none),
  (173, .iload_n 2, 1, (0, 0, 0, 0), none),
  (174, .invokevirtual 162, 3, (59, 2, 0, 13), none),
  (177, .goto 198, 3, (0, 0, 0, 0), none),
  (180, .aload_n 0, 1, (0, 0, 0, 0), none),
  (181, .invokevirtual 165, 3, (60, 1, 0, 13), none),
  (184, .goto 191, 3, (0, 0, 0, 0), none),
  (187, .aload_n 0, 1, (0, 0, 0, 0), none),
  (188, .invokevirtual 168, 3, (61, 1, 0, 13), none),
  (191, .goto 184, 3, (0, 0, 0, 0), none),
  (194, .aload_n 0, 1, (0, 0, 0, 0), none),
  (195, .iload_n 2, 1, (0, 0, 0, 0), none),
  (196, .invokevirtual 171, 3, (62, 2, 0, 13), none),
  (199, .goto 176, 3, (0, 0, 0, 0), none),
  (202, .aload_n 0, 1, (0, 0, 0, 0), none),
  (203, .iload_n 2, 1, (0, 0, 0, 0), none),
  (204, .invokevirtual 174, 3, (63, 2, 0, 13), none),
  (207, .goto 168, 3, (0, 0, 0, 0), none),
  (210, .aload_n 0, 1, (0, 0, 0, 0), none),
  (211, .invokevirtual 177, 3, (64, 1, 0, 13), none),
  (214, .goto 161, 3, (0, 0, 0, 0), none),
  (217, .aload_n 0, 1, (0, 0, 0, 0), none),
  (218, .iload_n 2, 1, (0, 0, 0, 0), none),
  (219, .invokevirtual 180, 3, (65, 2, 0, 13), none),
  (222, .goto 153, 3, (0, 0, 0, 0), none),
  (225, .aload_n 0, 1, (0, 0, 0, 0), none),
  (226, .iload_n 2, 1, (0, 0, 0, 0), none),
  (227, .invokevirtual 183, 3, (66, 2, 0, 13), none),
  (230, .goto 145, 3, (0, 0, 0, 0), none),
  (233, .aload_n 0, 1, (0, 0, 0, 0), none),
  (234, .aload_n 0, 1, (0, 0, 0, 0), none),
  (235, .invokevirtual 147, 3, (46, 1, 1, 13), none),
  (238, .invokevirtual 186, 3, (67, 2, 0, 13), none),
  (241, .goto 134, 3, (0, 0, 0, 0), none),
  (244, .aload_n 0, 1, (0, 0, 0, 0), none),
  (245, .invokevirtual 189, 3, (68, 1, 0, 13), none),
  (248, .goto 127, 3, (0, 0, 0, 0), none),
  (251, .aload_n 0, 1, (0, 0, 0, 0), none),
  (252, .iload_n 2, 1, (0, 0, 0, 0), none),
  (253, .iconst 1, 1, (0, 0, 0, 0), none),
  (254, .if_icmp .ne 10, 3, (0, 0, 0, 0), none),
  (257, .aload_n 0, 1, (0, 0, 0, 0), none),
  (258, .invokevirtual 147, 3, (46, 1, 1, 13), none),
  (261, .goto 4, 3, (0, 0, 0, 0), none),
  (264, .iconst 0, 1, (0, 0, 0, 0), none),
  (265, .invokevirtual 153, 3, (51, 2, 0, 13), none),
  (268, .goto 107, 3, (0, 0, 0, 0), none),
  (271, .aload_n 0, 1, (0, 0, 0, 0), none),
  (272, .bipush 6, 2, (0, 0, 0, 0), none),
  (274, .aload_n 0, 1, (0, 0, 0, 0), none),
  (275, .invokevirtual 147, 3, (46, 1, 1, 13), none),
  (278, .invokevirtual 132, 3, (54, 3, 0, 13), none),
  (281, .goto 94, 3, (0, 0, 0, 0), none),
  (284, .aload_n 0, 1, (0, 0, 0, 0), none),
  (285, .aload_n 0, 1, (0, 0, 0, 0), none),
  (286, .invokevirtual 147, 3, (46, 1, 1, 13), none),
  (289, .ifCond .ne 7, 3, (0, 0, 0, 0), none),
  (292, .iload_n 2, 1, (0, 0, 0, 0), none),
  (293, .goto 7, 3, (0, 0, 0, 0), none),
  (296, .aload_n 0, 1, (0, 0, 0, 0), none),
  (297, .getfield 74, 3, (13, 10, 0, 0), none),
  (300, .putfield 74, 3, (13, 10, 0, 0), none),
  (303, .goto 72, 3, (0, 0, 0, 0), none),
  (306, .aload_n 0, 1, (0, 0, 0, 0), none),
  (307, .iload_n 2, 1, (0, 0, 0, 0), none),
  (308, .invokevirtual 70, 3, (50, 2, 0, 13), none),
  (311, .goto 64, 3, (0, 0, 0, 0), none),
  (314, .aload_n 0, 1, (0, 0, 0, 0), none),
  (315, .aload_n 0, 1, (0, 0, 0, 0), none),
  (316, .getfield 33, 3, (13, 1, 12, 0), none),
  (319, .aload_n 0, 1, (0, 0, 0, 0), none),
  (320, .invokevirtual 147, 3, (46, 1, 1, 13), none),
  (323, .invokevirtual 192, 3, (33, 2, 3, 12), none),
  (326, .invokestatic 197, 3, (164, 1, 1, 0), none),
  (329, .invokevirtual 66, 3, (45, 2, 0, 13), none),
  (332, .goto 43, 3, (0, 0, 0, 0), none),
  (335, .aload_n 0, 1, (0, 0, 0, 0), none),
  (336, .invokevirtual 201, 3, (69, 1, 0, 13), none),
  (339, .goto 36, 3, (0, 0, 0, 0), none),
  (342, .aload_n 0, 1, (0, 0, 0, 0), none),
  (343, .invokevirtual 204, 3, (70, 1, 0, 13), none),
  (346, .goto 29, 3, (0, 0, 0, 0), none),
  (349, .aload_n 0, 1, (0, 0, 0, 0), none),
  (350, .invokevirtual 207, 3, (71, 1, 0, 13), none),
  (353, .goto 22, 3, (0, 0, 0, 0), none),
  (356, .aload_n 0, 1, (0, 0, 0, 0), none),
  (357, .aload_n 0, 1, (0, 0, 0, 0), none),
  (358, .getfield 33, 3, (13, 1, 12, 0), none),
  (361, .getfield 210, 3, (12, 4, 0, 0), none),
  (364, .invokevirtual 66, 3, (45, 2, 0, 13), none),
  (367, .goto 8, 3, (0, 0, 0, 0), none),
  (370, .aload_n 0, 1, (0, 0, 0, 0), none),
  (371, .iload_n 1, 1, (0, 0, 0, 0), none),
  (372, .invokevirtual 213, 3, (57, 2, 0, 13), none),
  (375, .return_, 1, (0, 0, 0, 0), none)]
def cd_X3_doSign : List sm_E := [(0, .aload_n 0, 1, (0, 0, 0, 0), none),
  (1, .invokevirtual 147, 3, (46, 1, 1, 13), none),
  (4, .istore_n 2, 1, (0, 0, 0, 0), none),
  (5, .aload_n 0, 1, (0, 0, 0, 0), none),
  (6, .invokevirtual 147, 3, (46, 1, 1, 13), none),
  (9, .istore_n 3, 1, (0, 0, 0, 0), none),
  (10, .iload_n 1, 1, (0, 0, 0, 0), none),
  (11, .tableswitch 97 7 11 #[33, 43, 53, 63, 80], 33, (0, 0, 0, 0), none),
  (44, .aload_n 0, 1, (0, 0, 0, 0), none),
  (45, .iload_n 3, 1, (0, 0, 0, 0), none),
  (46, .iload_n 2, 1, (0, 0, 0, 0), none),
  (47, .iadd, 1, (0, 0, 0, 0), none),
  (48, .invokevirtual 66, 3, (45, 2, 0, 13), none),
  (51, .goto 71, 3, (0, 0, 0, 0), none),
  (54, .aload_n 0, 1, (0, 0, 0, 0), none),
  (55, .iload_n 3, 1, (0, 0, 0, 0), none),
  (56, .iload_n 2, 1, (0, 0, 0, 0), none),
  (57, .isub, 1, (0, 0, 0, 0), none),
  (58, .invokevirtual 66, 3, (45, 2, 0, 13), none),
  (61, .goto 61, 3, (0, 0, 0, 0), none),
  (64, .aload_n 0, 1, (0, 0, 0, 0), none),
  (65, .iload_n 3, 1, (0, 0, 0, 0), none),
  (66, .iload_n 2, 1, (0, 0, 0, 0), none),
  (67, .imul, 1, (0, 0, 0, 0), none),
  (68, .invokevirtual 66, 3, (45, 2, 0, 13), none),
  (71, .goto 51, 3, (0, 0, 0, 0), none),
  (74, .aload_n 0, 1, (0, 0, 0, 0), none),
  (75, .iload_n 3, 1, (0, 0, 0, 0), none),
  (76, .iload_n 2, 1, (0, 0, 0, 0), none),
  (77, .if_icmp .ne 7, 3, (0, 0, 0, 0), none),
  (80, .iconst 1, 1, (0, 0, 0, 0), none),
  (81, .goto 4, 3, (0, 0, 0, 0), none),
  (84, .iconst 0, 1, (0, 0, 0, 0), none),
  (85, .invokevirtual 66, 3, (45, 2, 0, 13), none),
  (88, .goto 34, 3, (0, 0, 0, 0), none),
  (91, .aload_n 0, 1, (0, 0, 0, 0), none),
  (92, .iload_n 3, 1, (0, 0, 0, 0), none),
  (93, .iload_n 2, 1, (0, 0, 0, 0), none),
  (94, .if_icmp .eq 7, 3, (0, 0, 0, 0), none),
  (97, .iconst 1, 1, (0, 0, 0, 0), none),
  (98, .goto 4, 3, (0, 0, 0, 0), none),
  (101, .iconst 0, 1, (0, 0, 0, 0), none),
  (102, .invokevirtual 66, 3, (45, 2, 0, 13), none),
  (105, .goto 17, 3, (0, 0, 0, 0), none),
  (108, .aload_n 0, 1, (0, 0, 0, 0), none),
  (109, .iload_n 3, 1, (0, 0, 0, 0), none),
  (110, .iload_n 2, 1, (0, 0, 0, 0), none),
  (111, .if_icmp .ge 7, 3, (0, 0, 0, 0), none),
  (114, .iconst 1, 1, (0, 0, 0, 0), none),
  (115, .goto 4, 3, (0, 0, 0, 0), none),
  (118, .iconst 0, 1, (0, 0, 0, 0), none),
  (119, .invokevirtual 66, 3, (45, 2, 0, 13), none),
  (122, .return_, 1, (0, 0, 0, 0), none)]
def cd_X3_doAs : List sm_E := [(0, .aload_n 0, 1, (0, 0, 0, 0), none),
  (1, .invokevirtual 147, 3, (46, 1, 1, 13), none),
  (4, .istore_n 2, 1, (0, 0, 0, 0), none),
  (5, .iload_n 2, 1, (0, 0, 0, 0), none),
  (6, .ifCond .eq 26, 3, (0, 0, 0, 0), none),
  (9, .aload_n 0, 1, (0, 0, 0, 0), none),
  (10, .getfield 29, 3, (13, 0, 20, 0), none),
  (13, .iload_n 2, 1, (0, 0, 0, 0), none),
  (14, .invokevirtual 114, 3, (165, 2, 1, 20), none),
  (17, .iload_n 1, 1, (0, 0, 0, 0), none),
  (18, .invokestatic 216, 3, (27, 2, 1, 0), none),
  (21, .ifCond .ne 11, 3, (0, 0, 0, 0), none),
  (24, .aload_n 0, 1, (0, 0, 0, 0), none),
  (25, .iconst 4, 1, (0, 0, 0, 0), none),
  (26, .invokevirtual 220, 3, (53, 2, 0, 13), none),
  (29, .goto 8, 3, (0, 0, 0, 0), none),
  (32, .aload_n 0, 1, (0, 0, 0, 0), none),
  (33, .iload_n 2, 1, (0, 0, 0, 0), none),
  (34, .invokevirtual 66, 3, (45, 2, 0, 13), none),
  (37, .return_, 1, (0, 0, 0, 0), none)]
def cd_X3_doIs : List sm_E := [(0, .aload_n 0, 1, (0, 0, 0, 0), none),
  (1, .invokevirtual 147, 3, (46, 1, 1, 13), none),
  (4, .istore_n 2, 1, (0, 0, 0, 0), none),
  (5, .aload_n 0, 1, (0, 0, 0, 0), none),
  (6, .iload_n 2, 1, (0, 0, 0, 0), none),
  (7, .ifCond .eq 22, 3, (0, 0, 0, 0), none),
  (10, .aload_n 0, 1, (0, 0, 0, 0), none),
  (11, .getfield 29, 3, (13, 0, 20, 0), none),
  (14, .iload_n 2, 1, (0, 0, 0, 0), none),
  (15, .invokevirtual 114, 3, (165, 2, 1, 20), none),
  (18, .iload_n 1, 1, (0, 0, 0, 0), none),
  (19, .invokestatic 216, 3, (27, 2, 1, 0), none),
  (22, .ifCond .eq 7, 3, (0, 0, 0, 0), none),
  (25, .iconst 1, 1, (0, 0, 0, 0), none),
  (26, .goto 4, 3, (0, 0, 0, 0), none),
  (29, .iconst 0, 1, (0, 0, 0, 0), none),
  (30, .invokevirtual 66, 3, (45, 2, 0, 13), none),
  (33, .return_, 1, (0, 0, 0, 0), none)]
def cd_X3_doAt : List sm_E := [(0, .aload_n 0, 1, (0, 0, 0, 0), none),
  (1, .invokevirtual 147, 3, (46, 1, 1, 13), none),
  (4, .istore_n 1, 1, (0, 0, 0, 0), none),
  (5, .aload_n 0, 1, (0, 0, 0, 0), none),
  (6, .getfield 29, 3, (13, 0, 20, 0), none),
  (9, .aload_n 0, 1, (0, 0, 0, 0), none),
  (10, .invokevirtual 147, 3, (46, 1, 1, 13), none),
  (13, .invokevirtual 104, 3, (162, 2, 3, 20), none),
  (16, .astore_n 2, 1, (0, 0, 0, 0), none),
  (17, .aload_n 2, 1, (0, 0, 0, 0), none),
  (18, .ifnonnull 11, 3, (0, 0, 0, 0), none),
  (21, .aload_n 0, 1, (0, 0, 0, 0), none),
  (22, .iconst 1, 1, (0, 0, 0, 0), none),
  (23, .invokevirtual 220, 3, (53, 2, 0, 13), none),
  (26, .goto 31, 3, (0, 0, 0, 0), none),
  (29, .aload_n 2, 1, (0, 0, 0, 0), none),
  (30, .iload_n 1, 1, (0, 0, 0, 0), none),
  (31, .invokevirtual 223, 3, (121, 2, 1, 16), none),
  (34, .ifCond .ne 11, 3, (0, 0, 0, 0), none),
  (37, .aload_n 0, 1, (0, 0, 0, 0), none),
  (38, .iconst 2, 1, (0, 0, 0, 0), none),
  (39, .invokevirtual 220, 3, (53, 2, 0, 13), none),
  (42, .goto 15, 3, (0, 0, 0, 0), none),
  (45, .aload_n 0, 1, (0, 0, 0, 0), none),
  (46, .aload_n 2, 1, (0, 0, 0, 0), none),
  (47, .iload_n 1, 1, (0, 0, 0, 0), none),
  (48, .invokevirtual 226, 3, (122, 2, 3, 16), none),
  (51, .invokestatic 230, 3, (163, 1, 1, 0), none),
  (54, .invokevirtual 66, 3, (45, 2, 0, 13), none),
  (57, .return_, 1, (0, 0, 0, 0), none)]
def cd_X3_doPut : List sm_E := [(0, .aload_n 0, 1, (0, 0, 0, 0), none),
  (1, .getfield 29, 3, (13, 0, 20, 0), none),
  (4, .aload_n 0, 1, (0, 0, 0, 0), none),
  (5, .invokevirtual 147, 3, (46, 1, 1, 13), none),
  (8, .invokevirtual 234, 3, (161, 2, 3, 20), none),
  (11, .astore_n 1, 1, (0, 0, 0, 0), none),
  (12, .aload_n 0, 1, (0, 0, 0, 0), none),
  (13, .invokevirtual 147, 3, (46, 1, 1, 13), none),
  (16, .istore_n 2, 1, (0, 0, 0, 0), none),
  (17, .aload_n 0, 1, (0, 0, 0, 0), none),
  (18, .getfield 29, 3, (13, 0, 20, 0), none),
  (21, .aload_n 0, 1, (0, 0, 0, 0), none),
  (22, .invokevirtual 147, 3, (46, 1, 1, 13), none),
  (25, .invokevirtual 104, 3, (162, 2, 3, 20), none),
  (28, .astore_n 3, 1, (0, 0, 0, 0), none),
  (29, .aload_n 3, 1, (0, 0, 0, 0), none),
  (30, .ifnonnull 11, 3, (0, 0, 0, 0), none),
  (33, .aload_n 0, 1, (0, 0, 0, 0), none),
  (34, .iconst 1, 1, (0, 0, 0, 0), none),
  (35, .invokevirtual 220, 3, (53, 2, 0, 13), none),
  (38, .goto 41, 3, (0, 0, 0, 0), none),
  (41, .aload_n 3, 1, (0, 0, 0, 0), none),
  (42, .iload_n 2, 1, (0, 0, 0, 0), none),
  (43, .invokevirtual 223, 3, (121, 2, 1, 16), none),
  (46, .ifCond .ne 11, 3, (0, 0, 0, 0), none),
  (49, .aload_n 0, 1, (0, 0, 0, 0), none),
  (50, .iconst 2, 1, (0, 0, 0, 0), none),
  (51, .invokevirtual 220, 3, (53, 2, 0, 13), none),
  (54, .goto 25, 3, (0, 0, 0, 0), none),
  (57, .aload_n 3, 1, (0, 0, 0, 0), none),
  (58, .aload_n 1, 1, (0, 0, 0, 0), none),
  (59, .invokevirtual 237, 3, (124, 2, 1, 16), none),
  (62, .ifCond .ne 11, 3, (0, 0, 0, 0), none),
  (65, .aload_n 0, 1, (0, 0, 0, 0), none),
  (66, .iconst 5, 1, (0, 0, 0, 0), none),
  (67, .invokevirtual 220, 3, (53, 2, 0, 13), none),
  (70, .goto 9, 3, (0, 0, 0, 0), none),
  (73, .aload_n 3, 1, (0, 0, 0, 0), none),
  (74, .iload_n 2, 1, (0, 0, 0, 0), none),
  (75, .aload_n 1, 1, (0, 0, 0, 0), none),
  (76, .invokevirtual 241, 3, (123, 3, 0, 16), none),
  (79, .return_, 1, (0, 0, 0, 0), none)]
def cd_X3_doField : List sm_E := [(0, .aload_n 0, 1, (0, 0, 0, 0), none),
  (1, .getfield 29, 3, (13, 0, 20, 0), none),
  (4, .aload_n 0, 1, (0, 0, 0, 0), none),
  (5, .invokevirtual 147, 3, (46, 1, 1, 13), none),
  (8, .invokevirtual 234, 3, (161, 2, 3, 20), none),
  (11, .astore_n 2, 1, (0, 0, 0, 0), none),
  (12, .aload_n 2, 1, (0, 0, 0, 0), none),
  (13, .ifnonnull 11, 3, (0, 0, 0, 0), none),
  (16, .aload_n 0, 1, (0, 0, 0, 0), none),
  (17, .iconst 1, 1, (0, 0, 0, 0), none),
  (18, .invokevirtual 220, 3, (53, 2, 0, 13), none),
  (21, .goto 12, 3, (0, 0, 0, 0), none),
  (24, .aload_n 0, 1, (0, 0, 0, 0), none),
  (25, .aload_n 2, 1, (0, 0, 0, 0), none),
  (26, .iload_n 1, 1, (0, 0, 0, 0), none),
  (27, .invokevirtual 245, 3, (149, 2, 1, 19), none),
  (30, .invokevirtual 66, 3, (45, 2, 0, 13), none),
  (33, .return_, 1, (0, 0, 0, 0), none)]
def cd_X3_doSetField : List sm_E := [(0, .aload_n 0, 1, (0, 0, 0, 0), none),
  (1, .invokevirtual 147, 3, (46, 1, 1, 13), none),
  (4, .istore_n 2, 1, (0, 0, 0, 0), none),
  (5, .aload_n 0, 1, (0, 0, 0, 0), none),
  (6, .getfield 29, 3, (13, 0, 20, 0), none),
  (9, .aload_n 0, 1, (0, 0, 0, 0), none),
  (10, .invokevirtual 147, 3, (46, 1, 1, 13), none),
  (13, .invokevirtual 234, 3, (161, 2, 3, 20), none),
  (16, .astore_n 3, 1, (0, 0, 0, 0), none),
  (17, .aload_n 3, 1, (0, 0, 0, 0), none),
  (18, .ifnonnull 11, 3, (0, 0, 0, 0), none),
  (21, .aload_n 0, 1, (0, 0, 0, 0), none),
  (22, .iconst 1, 1, (0, 0, 0, 0), none),
  (23, .invokevirtual 220, 3, (53, 2, 0, 13), none),
  (26, .goto 9, 3, (0, 0, 0, 0), none),
  (29, .aload_n 3, 1, (0, 0, 0, 0), none),
  (30, .iload_n 1, 1, (0, 0, 0, 0), none),
  (31, .iload_n 2, 1, (0, 0, 0, 0), none),
  (32, .invokevirtual 250, 3, (150, 3, 0, 19), none),
  (35, .return_, 1, (0, 0, 0, 0), none)]
def cd_X3_doSize : List sm_E := [(0, .aload_n 0, 1, (0, 0, 0, 0), none),
  (1, .getfield 29, 3, (13, 0, 20, 0), none),
  (4, .aload_n 0, 1, (0, 0, 0, 0), none),
  (5, .invokevirtual 147, 3, (46, 1, 1, 13), none),
  (8, .invokevirtual 104, 3, (162, 2, 3, 20), none),
  (11, .astore_n 1, 1, (0, 0, 0, 0), none),
  (12, .aload_n 1, 1, (0, 0, 0, 0), none),
  (13, .ifnonnull 11, 3, (0, 0, 0, 0), none),
  (16, .aload_n 0, 1, (0, 0, 0, 0), none),
  (17, .iconst 1, 1, (0, 0, 0, 0), none),
  (18, .invokevirtual 220, 3, (53, 2, 0, 13), none),
  (21, .goto 11, 3, (0, 0, 0, 0), none),
  (24, .aload_n 0, 1, (0, 0, 0, 0), none),
  (25, .aload_n 1, 1, (0, 0, 0, 0), none),
  (26, .getfield 117, 3, (16, 2, 0, 0), none),
  (29, .invokevirtual 66, 3, (45, 2, 0, 13), none),
  (32, .return_, 1, (0, 0, 0, 0), none)]
def cd_X3_doNewVehicle : List sm_E := [(0, .aload_n 0, 1, (0, 0, 0, 0), none),
  (1, .getfield 29, 3, (13, 0, 20, 0), none),
  (4, .invokevirtual 253, 3, (157, 1, 1, 20), none),
  (7, .ifCond .eq 18, 3, (0, 0, 0, 0), none),
  (10, .aload_n 0, 1, (0, 0, 0, 0), none),
  (11, .aload_n 0, 1, (0, 0, 0, 0), none),
  (12, .getfield 29, 3, (13, 0, 20, 0), none),
  (15, .iload_n 1, 1, (0, 0, 0, 0), none),
  (16, .invokevirtual 257, 3, (159, 2, 1, 20), none),
  (19, .invokevirtual 66, 3, (45, 2, 0, 13), none),
  (22, .goto 9, 3, (0, 0, 0, 0), none),
  (25, .aload_n 0, 1, (0, 0, 0, 0), none),
  (26, .bipush 8, 2, (0, 0, 0, 0), none),
  (28, .invokevirtual 87, 3, (52, 2, 0, 13), none),
  (31, .return_, 1, (0, 0, 0, 0), none)]
def cd_X3_doNewRow : List sm_E := [(0, .aload_n 0, 1, (0, 0, 0, 0), none),
  (1, .invokevirtual 147, 3, (46, 1, 1, 13), none),
  (4, .istore_n 2, 1, (0, 0, 0, 0), none),
  (5, .aload_n 0, 1, (0, 0, 0, 0), none),
  (6, .getfield 29, 3, (13, 0, 20, 0), none),
  (9, .iload_n 2, 1, (0, 0, 0, 0), none),
  (10, .invokevirtual 260, 3, (158, 2, 1, 20), none),
  (13, .ifCond .ne 12, 3, (0, 0, 0, 0), none),
  (16, .aload_n 0, 1, (0, 0, 0, 0), none),
  (17, .bipush 8, 2, (0, 0, 0, 0), none),
  (19, .invokevirtual 87, 3, (52, 2, 0, 13), none),
  (22, .goto 28, 3, (0, 0, 0, 0), none),
  (25, .iload_n 2, 1, (0, 0, 0, 0), none),
  (26, .ifCond .ge 11, 3, (0, 0, 0, 0), none),
  (29, .aload_n 0, 1, (0, 0, 0, 0), none),
  (30, .iconst 3, 1, (0, 0, 0, 0), none),
  (31, .invokevirtual 220, 3, (53, 2, 0, 13), none),
  (34, .goto 16, 3, (0, 0, 0, 0), none),
  (37, .aload_n 0, 1, (0, 0, 0, 0), none),
  (38, .aload_n 0, 1, (0, 0, 0, 0), none),
  (39, .getfield 29, 3, (13, 0, 20, 0), none),
  (42, .iload_n 1, 1, (0, 0, 0, 0), none),
  (43, .iload_n 2, 1, (0, 0, 0, 0), none),
  (44, .invokevirtual 263, 3, (160, 3, 1, 20), none),
  (47, .invokevirtual 66, 3, (45, 2, 0, 13), none),
  (50, .return_, 1, (0, 0, 0, 0), none)]
def cd_X3_say : List sm_E := [(0, .aload_n 0, 1, (0, 0, 0, 0), none),
  (1, .getfield 266, 3, (13, 16, 0, 0), none),
  (4, .sipush 300, 3, (0, 0, 0, 0), none),
  (7, .if_icmp .ge 23, 3, (0, 0, 0, 0), none),
  (10, .aload_n 0, 1, (0, 0, 0, 0), none),
  (11, .getfield 26, 3, (13, 15, 46, 0), none),
  (14, .aload_n 0, 1, (0, 0, 0, 0), none),
  (15, .getfield 266, 3, (13, 16, 0, 0), none),
  (18, .iload_n 1, 1, (0, 0, 0, 0), none),
  (19, .iastore, 1, (46, 300, 0, 0), none),
  (20, .aload_n 0, 1, (0, 0, 0, 0), none),
  (21, .dup, 1, (0, 0, 0, 0), none),
  (22, .getfield 266, 3, (13, 16, 0, 0), none),
  (25, .iconst 1, 1, (0, 0, 0, 0), none),
  (26, .iadd, 1, (0, 0, 0, 0), none),
  (27, .putfield 266, 3, (13, 16, 0, 0), none),
  (30, .return_, 1, (0, 0, 0, 0), none)]
def cd_X3_sayReference : List sm_E := [(0, .aload_n 0, 1, (0, 0, 0, 0), none),
  (1, .invokevirtual 147, 3, (46, 1, 1, 13), none),
  (4, .istore_n 1, 1, (0, 0, 0, 0), none),
  (5, .aload_n 0, 1, (0, 0, 0, 0), none),
  (6, .getfield 29, 3, (13, 0, 20, 0), none),
  (9, .iload_n 1, 1, (0, 0, 0, 0), none),
  (10, .invokevirtual 104, 3, (162, 2, 3, 20), none),
  (13, .astore_n 2, 1, (0, 0, 0, 0), none),
  (14, .aload_n 2, 1, (0, 0, 0, 0), none),
  (15, .ifnull 16, 3, (0, 0, 0, 0), none),
  (18, .aload_n 0, 1, (0, 0, 0, 0), none),
  (19, .iconst (-1), 1, (0, 0, 0, 0), none),
  (20, .aload_n 2, 1, (0, 0, 0, 0), none),
  (21, .getfield 117, 3, (16, 2, 0, 0), none),
  (24, .isub, 1, (0, 0, 0, 0), none),
  (25, .invokevirtual 186, 3, (67, 2, 0, 13), none),
  (28, .goto 20, 3, (0, 0, 0, 0), none),
  (31, .aload_n 0, 1, (0, 0, 0, 0), none),
  (32, .iload_n 1, 1, (0, 0, 0, 0), none),
  (33, .ifCond .ne 9, 3, (0, 0, 0, 0), none),
  (36, .sipush (-1000), 3, (0, 0, 0, 0), none),
  (39, .goto 6, 3, (0, 0, 0, 0), none),
  (42, .iload_n 1, 1, (0, 0, 0, 0), none),
  (43, .iconst 1, 1, (0, 0, 0, 0), none),
  (44, .isub, 1, (0, 0, 0, 0), none),
  (45, .invokevirtual 186, 3, (67, 2, 0, 13), none),
  (48, .return_, 1, (0, 0, 0, 0), none)]
def cd_X3_doLay : List sm_E := [(0, .aload_n 0, 1, (0, 0, 0, 0), none),
  (1, .getfield 29, 3, (13, 0, 20, 0), none),
  (4, .aload_n 0, 1, (0, 0, 0, 0), none),
  (5, .invokevirtual 147, 3, (46, 1, 1, 13), none),
  (8, .invokevirtual 104, 3, (162, 2, 3, 20), none),
  (11, .astore_n 1, 1, (0, 0, 0, 0), none),
  (12, .aload_n 0, 1, (0, 0, 0, 0), none),
  (13, .invokevirtual 147, 3, (46, 1, 1, 13), none),
  (16, .istore_n 2, 1, (0, 0, 0, 0), none),
  (17, .aload_n 0, 1, (0, 0, 0, 0), none),
  (18, .aload_n 0, 1, (0, 0, 0, 0), none),
  (19, .getfield 33, 3, (13, 1, 12, 0), none),
  (22, .iload_n 2, 1, (0, 0, 0, 0), none),
  (23, .aload_n 1, 1, (0, 0, 0, 0), none),
  (24, .invokevirtual 269, 3, (34, 3, 1, 12), none),
  (27, .ifCond .eq 7, 3, (0, 0, 0, 0), none),
  (30, .iconst 1, 1, (0, 0, 0, 0), none),
  (31, .goto 4, 3, (0, 0, 0, 0), none),
  (34, .iconst 0, 1, (0, 0, 0, 0), none),
  (35, .invokevirtual 66, 3, (45, 2, 0, 13), none),
  (38, .return_, 1, (0, 0, 0, 0), none)]
def cd_X3_doHump : List sm_E := [(0, .aload_n 0, 1, (0, 0, 0, 0), none),
  (1, .getfield 29, 3, (13, 0, 20, 0), none),
  (4, .aload_n 0, 1, (0, 0, 0, 0), none),
  (5, .invokevirtual 147, 3, (46, 1, 1, 13), none),
  (8, .invokevirtual 104, 3, (162, 2, 3, 20), none),
  (11, .astore_n 1, 1, (0, 0, 0, 0), none),
  (12, .aload_n 0, 1, (0, 0, 0, 0), none),
  (13, .getfield 29, 3, (13, 0, 20, 0), none),
  (16, .aload_n 0, 1, (0, 0, 0, 0), none),
  (17, .invokevirtual 147, 3, (46, 1, 1, 13), none),
  (20, .invokevirtual 104, 3, (162, 2, 3, 20), none),
  (23, .astore_n 2, 1, (0, 0, 0, 0), none),
  (24, .aload_n 2, 1, (0, 0, 0, 0), none),
  (25, .ifnull 7, 3, (0, 0, 0, 0), none),
  (28, .aload_n 1, 1, (0, 0, 0, 0), none),
  (29, .ifnonnull 11, 3, (0, 0, 0, 0), none),
  (32, .aload_n 0, 1, (0, 0, 0, 0), none),
  (33, .iconst 1, 1, (0, 0, 0, 0), none),
  (34, .invokevirtual 220, 3, (53, 2, 0, 13), none),
  (37, .goto 12, 3, (0, 0, 0, 0), none),
  (40, .aload_n 0, 1, (0, 0, 0, 0), none),
  (41, .aload_n 2, 1, (0, 0, 0, 0), none),
  (42, .aload_n 1, 1, (0, 0, 0, 0), none),
  (43, .invokevirtual 273, 3, (125, 2, 1, 16), none),
  (46, .invokevirtual 66, 3, (45, 2, 0, 13), none),
  (49, .return_, 1, (0, 0, 0, 0), none)]
def cd_X3_doSend : List sm_E := [(0, .aload_n 0, 1, (0, 0, 0, 0), none),
  (1, .invokevirtual 147, 3, (46, 1, 1, 13), none),
  (4, .istore_n 1, 1, (0, 0, 0, 0), none),
  (5, .aload_n 0, 1, (0, 0, 0, 0), none),
  (6, .invokevirtual 147, 3, (46, 1, 1, 13), none),
  (9, .istore_n 2, 1, (0, 0, 0, 0), none),
  (10, .aload_n 0, 1, (0, 0, 0, 0), none),
  (11, .getfield 29, 3, (13, 0, 20, 0), none),
  (14, .aload_n 0, 1, (0, 0, 0, 0), none),
  (15, .invokevirtual 147, 3, (46, 1, 1, 13), none),
  (18, .invokevirtual 104, 3, (162, 2, 3, 20), none),
  (21, .astore_n 3, 1, (0, 0, 0, 0), none),
  (22, .aload_n 3, 1, (0, 0, 0, 0), none),
  (23, .ifnonnull 11, 3, (0, 0, 0, 0), none),
  (26, .aload_n 0, 1, (0, 0, 0, 0), none),
  (27, .iconst 1, 1, (0, 0, 0, 0), none),
  (28, .invokevirtual 220, 3, (53, 2, 0, 13), none),
  (31, .goto 17, 3, (0, 0, 0, 0), none),
  (34, .aload_n 0, 1, (0, 0, 0, 0), none),
  (35, .aload_n 0, 1, (0, 0, 0, 0), none),
  (36, .getfield 33, 3, (13, 1, 12, 0), none),
  (39, .aload_n 3, 1, (0, 0, 0, 0), none),
  (40, .iload_n 2, 1, (0, 0, 0, 0), none),
  (41, .iload_n 1, 1, (0, 0, 0, 0), none),
  (42, .invokevirtual 276, 3, (35, 4, 1, 12), none),
  (45, .invokevirtual 66, 3, (45, 2, 0, 13), none),
  (48, .return_, 1, (0, 0, 0, 0), none)]
def cd_X4_init : List sm_E := [(0, .aload_n 0, 1, (0, 0, 0, 0), none),
  (1, .invokespecial 3, 3, (0, 0, 0, 1002), none),
  (4, .aload_n 0, 1, (0, 0, 0, 0), none),
  (5, .bipush 24, 2, (0, 0, 0, 0), none),
  (7, .newarray .long, 2, (47, 24, 0, 0), none),
  (9, .putfield 11, 3, (14, 0, 47, 0), none),
  (12, .aload_n 0, 1, (0, 0, 0, 0), none),
  (13, .bipush 24, 2, (0, 0, 0, 0), none),
  (15, .newarray .int, 2, (48, 24, 0, 0), none),
  (17, .putfield 15, 3, (14, 1, 48, 0), none),
  (20, .aload_n 0, 1, (0, 0, 0, 0), none),
  (21, .bipush 24, 2, (0, 0, 0, 0), none),
  (23, .newarray .int, 2, (49, 24, 0, 0), none),
  (25, .putfield 19, 3, (14, 2, 49, 0), none),
  (28, .return_, 1, (0, 0, 0, 0), none)]
def cd_X4_clear : List sm_E := [(0, .aload_n 0, 1, (0, 0, 0, 0), none),
  (1, .iconst 0, 1, (0, 0, 0, 0), none),
  (2, .putfield 22, 3, (14, 3, 0, 0), none),
  (5, .aload_n 0, 1, (0, 0, 0, 0), none),
  (6, .iconst 0, 1, (0, 0, 0, 0), none),
  (7, .putfield 26, 3, (14, 4, 0, 0), none),
  (10, .return_, 1, (0, 0, 0, 0), none)]
def cd_X4_isFull : List sm_E := [(0, .aload_n 0, 1, (0, 0, 0, 0), none),
  (1, .getfield 22, 3, (14, 3, 0, 0), none),
  (4, .bipush 24, 2, (0, 0, 0, 0), none),
  (6, .if_icmp .lt 7, 3, (0, 0, 0, 0), none),
  (9, .iconst 1, 1, (0, 0, 0, 0), none),
  (10, .goto 4, 3, (0, 0, 0, 0), none),
  (13, .iconst 0, 1, (0, 0, 0, 0), none),
  (14, .ireturn, 1, (1, 0, 0, 0), none)]
def cd_X4_make : List sm_E := [(0, .aload_n 0, 1, (0, 0, 0, 0), none),
  (1, .invokevirtual 29, 3, (74, 1, 1, 14), none),
  (4, .ifCond .eq 5, 3, (0, 0, 0, 0), none),
  (7, .iconst 0, 1, (0, 0, 0, 0), none),
  (8, .ireturn, 1, (0, 0, 0, 0), none),
  (9, .aload_n 0, 1, (0, 0, 0, 0), none),
  (10, .getfield 11, 3, (14, 0, 47, 0), none),
  (13, .aload_n 0, 1, (0, 0, 0, 0), none),
  (14, .getfield 22, 3, (14, 3, 0, 0), none),
  (17, .lload_n 1, 1, (0, 0, 0, 0), none),
  (18, .lastore, 1, (47, 24, 0, 0), none),
  (19, .aload_n 0, 1, (0, 0, 0, 0), none),
  (20, .getfield 15, 3, (14, 1, 48, 0), none),
  (23, .aload_n 0, 1, (0, 0, 0, 0), none),
  (24, .getfield 22, 3, (14, 3, 0, 0), none),
  (27, .iload_n 3, 1, (0, 0, 0, 0), none),
  (28, .iastore, 1, (48, 24, 0, 0), none),
  (29, .aload_n 0, 1, (0, 0, 0, 0), none),
  (30, .dup, 1, (0, 0, 0, 0), none),
  (31, .getfield 22, 3, (14, 3, 0, 0), none),
  (34, .iconst 1, 1, (0, 0, 0, 0), none),
  (35, .iadd, 1, (0, 0, 0, 0), none),
  (36, .putfield 22, 3, (14, 3, 0, 0), none),
  (39, .aload_n 0, 1, (0, 0, 0, 0), none),
  (40, .getfield 22, 3, (14, 3, 0, 0), none),
  (43, .iconst 1, 1, (0, 0, 0, 0), none),
  (44, .isub, 1, (0, 0, 0, 0), none),
  (45, .ireturn, 1, (0, 0, 0, 0), none)]
def cd_X4_know : List sm_E := [(0, .aload_n 0, 1, (0, 0, 0, 0), none),
  (1, .getfield 26, 3, (14, 4, 0, 0), none),
  (4, .bipush 24, 2, (0, 0, 0, 0), none),
  (6, .if_icmp .ge 33, 3, (0, 0, 0, 0), none),
  (9, .iload_n 1, 1, (0, 0, 0, 0), none),
  (10, .ifCond .lt 29, 3, (0, 0, 0, 0), none),
  (13, .iload_n 1, 1, (0, 0, 0, 0), none),
  (14, .bipush 24, 2, (0, 0, 0, 0), none),
  (16, .if_icmp .ge 23, 3, (0, 0, 0, 0), none),
  (19, .aload_n 0, 1, (0, 0, 0, 0), none),
  (20, .getfield 19, 3, (14, 2, 49, 0), none),
  (23, .aload_n 0, 1, (0, 0, 0, 0), none),
  (24, .getfield 26, 3, (14, 4, 0, 0), none),
  (27, .iload_n 1, 1, (0, 0, 0, 0), none),
  (28, .iastore, 1, (49, 24, 0, 0), none),
  (29, .aload_n 0, 1, (0, 0, 0, 0), none),
  (30, .dup, 1, (0, 0, 0, 0), none),
  (31, .getfield 26, 3, (14, 4, 0, 0), none),
  (34, .iconst 1, 1, (0, 0, 0, 0), none),
  (35, .iadd, 1, (0, 0, 0, 0), none),
  (36, .putfield 26, 3, (14, 4, 0, 0), none),
  (39, .return_, 1, (0, 0, 0, 0), none)]
def cd_X4_knownNow : List sm_E := [(0, .aload_n 0, 1, (0, 0, 0, 0), none),
  (1, .getfield 26, 3, (14, 4, 0, 0), none),
  (4, .ireturn, 1, (0, 0, 0, 0), none)]
def cd_X4_forgetDownTo : List sm_E := [(0, .aload_n 0, 1, (0, 0, 0, 0), none),
  (1, .iconst 0, 1, (0, 0, 0, 0), none),
  (2, .aload_n 0, 1, (0, 0, 0, 0), none),
  (3, .getfield 26, 3, (14, 4, 0, 0), none),
  (6, .iload_n 1, 1, (0, 0, 0, 0), none),
  (7, .invokestatic 33, 3, (307, 2, 1, 0), none),
  (10, .invokestatic 39, 3, (306, 2, 1, 0), none),
  (13, .putfield 26, 3, (14, 4, 0, 0), none),
  (16, .return_, 1, (0, 0, 0, 0), none)]
def cd_X4_slotOf : List sm_E := [(0, .iconst 0, 1, (0, 0, 0, 0), none),
  (1, .istore_n 3, 1, (0, 0, 0, 0), none),
  (2, .iload_n 3, 1, (0, 0, 0, 0), some [0, 1, 3]),
  (3, .aload_n 0, 1, (0, 0, 0, 0), none),
  (4, .getfield 26, 3, (14, 4, 0, 0), none),
  (7, .if_icmp .ge 32, 3, (0, 0, 0, 0), none),
  (10, .aload_n 0, 1, (0, 0, 0, 0), none),
  (11, .getfield 11, 3, (14, 0, 47, 0), none),
  (14, .aload_n 0, 1, (0, 0, 0, 0), none),
  (15, .getfield 19, 3, (14, 2, 49, 0), none),
  (18, .iload_n 3, 1, (0, 0, 0, 0), none),
  (19, .iaload, 1, (49, 24, 0, 0), none),
  (20, .laload, 1, (47, 24, 0, 0), none),
  (21, .lload_n 1, 1, (0, 0, 0, 0), none),
  (22, .lcmp, 1, (0, 0, 0, 0), none),
  (23, .ifCond .ne 10, 3, (0, 0, 0, 0), none),
  (26, .aload_n 0, 1, (0, 0, 0, 0), none),
  (27, .getfield 19, 3, (14, 2, 49, 0), none),
  (30, .iload_n 3, 1, (0, 0, 0, 0), none),
  (31, .iaload, 1, (49, 24, 0, 0), none),
  (32, .ireturn, 1, (0, 0, 0, 0), none),
  (33, .iinc 3 1, 3, (0, 0, 0, 0), none),
  (36, .goto (-34), 3, (0, 0, 0, 0), none),
  (39, .iconst (-1), 1, (0, 0, 0, 0), none),
  (40, .ireturn, 1, (0, 0, 0, 0), none)]
def cd_X4_typeOf : List sm_E := [(0, .iload_n 1, 1, (0, 0, 0, 0), none),
  (1, .ifCond .lt 11, 3, (0, 0, 0, 0), none),
  (4, .iload_n 1, 1, (0, 0, 0, 0), none),
  (5, .aload_n 0, 1, (0, 0, 0, 0), none),
  (6, .getfield 22, 3, (14, 3, 0, 0), none),
  (9, .if_icmp .lt 8, 3, (0, 0, 0, 0), none),
  (12, .bipush 38, 2, (0, 0, 0, 0), none),
  (14, .goto 9, 3, (0, 0, 0, 0), none),
  (17, .aload_n 0, 1, (0, 0, 0, 0), none),
  (18, .getfield 15, 3, (14, 1, 48, 0), none),
  (21, .iload_n 1, 1, (0, 0, 0, 0), none),
  (22, .iaload, 1, (48, 24, 0, 0), none),
  (23, .ireturn, 1, (0, 0, 0, 0), none)]
def cd_X5_init : List sm_E := [(0, .aload_n 0, 1, (0, 0, 0, 0), none),
  (1, .invokespecial 3, 3, (0, 0, 0, 1002), none),
  (4, .aload_n 0, 1, (0, 0, 0, 0), none),
  (5, .new 9, 3, (14, 5, 0, 0), none),
  (8, .dup, 1, (0, 0, 0, 0), none),
  (9, .invokespecial 11, 3, (72, 1, 0, 14), none),
  (12, .putfield 12, 3, (15, 1, 14, 0), none),
  (15, .aload_n 0, 1, (0, 0, 0, 0), none),
  (16, .bipush 12, 2, (0, 0, 0, 0), none),
  (18, .newarray .long, 2, (50, 12, 0, 0), none),
  (20, .putfield 20, 3, (15, 2, 50, 0), none),
  (23, .aload_n 0, 1, (0, 0, 0, 0), none),
  (24, .iconst (-1), 1, (0, 0, 0, 0), none),
  (25, .putfield 24, 3, (15, 12, 0, 0), none),
  (28, .aload_n 0, 1, (0, 0, 0, 0), none),
  (29, .aload_n 1, 1, (0, 0, 0, 0), none),
  (30, .putfield 28, 3, (15, 0, 17, 0), none),
  (33, .aload_n 0, 1, (0, 0, 0, 0), none),
  (34, .aload_n 2, 1, (0, 0, 0, 0), none),
  (35, .putfield 32, 3, (15, 3, 2, 0), none),
  (38, .return_, 1, (0, 0, 0, 0), none)]
def cd_X5_read : List sm_E := [(0, .aload_n 0, 1, (0, 0, 0, 0), none),
  (1, .aload_n 1, 1, (0, 0, 0, 0), none),
  (2, .putfield 32, 3, (15, 3, 2, 0), none),
  (5, .aload_n 0, 1, (0, 0, 0, 0), none),
  (6, .getfield 32, 3, (15, 3, 2, 0), none),
  (9, .invokevirtual 36, 3, (1, 1, 0, 10), none),
  (12, .aload_n 0, 1, (0, 0, 0, 0), none),
  (13, .iconst (-1), 1, (0, 0, 0, 0), none),
  (14, .putfield 39, 3, (15, 4, 0, 0), none),
  (17, .aload_n 0, 1, (0, 0, 0, 0), none),
  (18, .iconst 0, 1, (0, 0, 0, 0), none),
  (19, .putfield 42, 3, (15, 11, 0, 0), none),
  (22, .aload_n 0, 1, (0, 0, 0, 0), none),
  (23, .iconst (-1), 1, (0, 0, 0, 0), none),
  (24, .putfield 24, 3, (15, 12, 0, 0), none),
  (27, .aload_n 0, 1, (0, 0, 0, 0), none),
  (28, .iconst (-1), 1, (0, 0, 0, 0), none),
  (29, .putfield 45, 3, (15, 5, 0, 0), none),
  (32, .aload_n 0, 1, (0, 0, 0, 0), none),
  (33, .invokevirtual 48, 3, (84, 1, 0, 15), none),
  (36, .iconst 0, 1, (0, 0, 0, 0), none),
  (37, .istore_n 2, 1, (0, 0, 0, 0), none),
  (38, .iload_n 2, 1, (0, 0, 0, 0), some [0, 2]),
  (39, .sipush 800, 3, (0, 0, 0, 0), none),
  (42, .if_icmp .gt 49, 3, (0, 0, 0, 0), none),
  (45, .aload_n 0, 1, (0, 0, 0, 0), none),
  (46, .getfield 42, 3, (15, 11, 0, 0), none),
  (49, .ifCond .ne 42, 3, (0, 0, 0, 0), none),
  (52, .iload_n 2, 1, (0, 0, 0, 0), none),
  (53, .ifCond .eq 12, 3, (0, 0, 0, 0), none),
  (56, .aload_n 0, 1, (0, 0, 0, 0), none),
  (57, .getfield 51, 3, (15, 6, 0, 0), none),
  (60, .bipush 6, 2, (0, 0, 0, 0), none),
  (62, .if_icmp .eq 29, 3, (0, 0, 0, 0), none),
  (65, .aload_n 0, 1, (0, 0, 0, 0), some [0, 2]),
  (66, .invokevirtual 56, 3, (88, 1, 0, 15), none),
  (69, .aload_n 0, 1, (0, 0, 0, 0), none),
  (70, .iconst 0, 1, (0, 0, 0, 0), none),
  (71, .invokevirtual 59, 3, (95, 2, 0, 15), none),
  (74, .aload_n 0, 1, (0, 0, 0, 0), none),
  (75, .getfield 32, 3, (15, 3, 2, 0), none),
  (78, .iconst 3, 1, (0, 0, 0, 0), none),
  (79, .iconst 0, 1, (0, 0, 0, 0), none),
  (80, .iconst (-1), 1, (0, 0, 0, 0), none),
  (81, .invokevirtual 63, 3, (13, 4, 1, 10), none),
  (84, .pop, 1, (0, 0, 0, 0), none),
  (85, .iinc 2 1, 3, (0, 0, 0, 0), none),
  (88, .goto (-50), 3, (0, 0, 0, 0), none),
  (91, .return_, 1, (0, 0, 0, 0), none)]
def cd_X5_refuse : List sm_E := [(0, .aload_n 0, 1, (0, 0, 0, 0), none),
  (1, .getfield 42, 3, (15, 11, 0, 0), none),
  (4, .ifCond .ne 23, 3, (0, 0, 0, 0), none),
  (7, .aload_n 0, 1, (0, 0, 0, 0), none),
  (8, .iload_n 1, 1, (0, 0, 0, 0), none),
  (9, .putfield 42, 3, (15, 11, 0, 0), none),
  (12, .aload_n 0, 1, (0, 0, 0, 0), none),
  (13, .iload_n 2, 1, (0, 0, 0, 0), none),
  (14, .putfield 24, 3, (15, 12, 0, 0), none),
  (17, .aload_n 0, 1, (0, 0, 0, 0), none),
  (18, .iconst 0, 1, (0, 0, 0, 0), none),
  (19, .putfield 51, 3, (15, 6, 0, 0), none),
  (22, .aload_n 0, 1, (0, 0, 0, 0), none),
  (23, .iconst 0, 1, (0, 0, 0, 0), none),
  (24, .putfield 67, 3, (15, 9, 0, 0), none),
  (27, .return_, 1, (0, 0, 0, 0), none)]
def cd_X5_pass : List sm_E := [(0, .aload_n 0, 1, (0, 0, 0, 0), none),
  (1, .getfield 45, 3, (15, 5, 0, 0), none),
  (4, .iconst 1, 1, (0, 0, 0, 0), none),
  (5, .iadd, 1, (0, 0, 0, 0), none),
  (6, .istore_n 1, 1, (0, 0, 0, 0), none),
  (7, .aload_n 0, 1, (0, 0, 0, 0), none),
  (8, .getfield 42, 3, (15, 11, 0, 0), none),
  (11, .ifCond .ne 23, 3, (0, 0, 0, 0), none),
  (14, .iload_n 1, 1, (0, 0, 0, 0), none),
  (15, .sipush 800, 3, (0, 0, 0, 0), none),
  (18, .if_icmp .le 16, 3, (0, 0, 0, 0), none),
  (21, .aload_n 0, 1, (0, 0, 0, 0), none),
  (22, .iconst 5, 1, (0, 0, 0, 0), none),
  (23, .putfield 42, 3, (15, 11, 0, 0), none),
  (26, .aload_n 0, 1, (0, 0, 0, 0), none),
  (27, .aload_n 0, 1, (0, 0, 0, 0), none),
  (28, .getfield 70, 3, (15, 7, 0, 0), none),
  (31, .putfield 24, 3, (15, 12, 0, 0), none),
  (34, .aload_n 0, 1, (0, 0, 0, 0), some [0, 1]),
  (35, .getfield 42, 3, (15, 11, 0, 0), none),
  (38, .ifCond .ne 22, 3, (0, 0, 0, 0), none),
  (41, .iload_n 1, 1, (0, 0, 0, 0), none),
  (42, .ifCond .lt 18, 3, (0, 0, 0, 0), none),
  (45, .iload_n 1, 1, (0, 0, 0, 0), none),
  (46, .aload_n 0, 1, (0, 0, 0, 0), none),
  (47, .getfield 28, 3, (15, 0, 17, 0), none),
  (50, .getfield 73, 3, (17, 7, 0, 0), none),
  (53, .if_icmp .ge 7, 3, (0, 0, 0, 0), none),
  (56, .iconst 1, 1, (0, 0, 0, 0), none),
  (57, .goto 4, 3, (0, 0, 0, 0), none),
  (60, .iconst 0, 1, (0, 0, 0, 0), none),
  (61, .istore_n 2, 1, (0, 0, 0, 0), some [0, 1]),
  (62, .aload_n 0, 1, (0, 0, 0, 0), none),
  (63, .iload_n 2, 1, (0, 0, 0, 0), none),
  (64, .ifCond .eq 15, 3, (0, 0, 0, 0), none),
  (67, .aload_n 0, 1, (0, 0, 0, 0), none),
  (68, .getfield 28, 3, (15, 0, 17, 0), none),
  (71, .getfield 76, 3, (17, 4, 53, 0), none),
  (74, .iload_n 1, 1, (0, 0, 0, 0), none),
  (75, .iaload, 1, (53, 802, 0, 0), none),
  (76, .goto 4, 3, (0, 0, 0, 0), none),
  (79, .iconst 0, 1, (0, 0, 0, 0), none),
  (80, .putfield 51, 3, (15, 6, 0, 0), some [0, 1, 2]),
  (83, .aload_n 0, 1, (0, 0, 0, 0), none),
  (84, .iload_n 2, 1, (0, 0, 0, 0), none),
  (85, .ifCond .eq 30, 3, (0, 0, 0, 0), none),
  (88, .iload_n 1, 1, (0, 0, 0, 0), none),
  (89, .iconst 1, 1, (0, 0, 0, 0), none),
  (90, .iadd, 1, (0, 0, 0, 0), none),
  (91, .aload_n 0, 1, (0, 0, 0, 0), none),
  (92, .getfield 28, 3, (15, 0, 17, 0), none),
  (95, .getfield 73, 3, (17, 7, 0, 0), none),
  (98, .if_icmp .ge 17, 3, (0, 0, 0, 0), none),
  (101, .aload_n 0, 1, (0, 0, 0, 0), none),
  (102, .getfield 28, 3, (15, 0, 17, 0), none),
  (105, .getfield 76, 3, (17, 4, 53, 0), none),
  (108, .iload_n 1, 1, (0, 0, 0, 0), none),
  (109, .iconst 1, 1, (0, 0, 0, 0), none),
  (110, .iadd, 1, (0, 0, 0, 0), none),
  (111, .iaload, 1, (53, 802, 0, 0), none),
  (112, .goto 4, 3, (0, 0, 0, 0), none),
  (115, .iconst 0, 1, (0, 0, 0, 0), none),
  (116, .putfield 67, 3, (15, 9, 0, 0), some [0, 1, 2]),
  (119, .iload_n 2, 1, (0, 0, 0, 0), none),
  (120, .ifCond .eq 34, 3, (0, 0, 0, 0), none),
  (123, .aload_n 0, 1, (0, 0, 0, 0), none),
  (124, .iload_n 1, 1, (0, 0, 0, 0), none),
  (125, .putfield 45, 3, (15, 5, 0, 0), none),
  (128, .aload_n 0, 1, (0, 0, 0, 0), none),
  (129, .aload_n 0, 1, (0, 0, 0, 0), none),
  (130, .getfield 28, 3, (15, 0, 17, 0), none),
  (133, .getfield 80, 3, (17, 5, 54, 0), none),
  (136, .iload_n 1, 1, (0, 0, 0, 0), none),
  (137, .iaload, 1, (54, 802, 0, 0), none),
  (138, .putfield 70, 3, (15, 7, 0, 0), none),
  (141, .aload_n 0, 1, (0, 0, 0, 0), none),
  (142, .aload_n 0, 1, (0, 0, 0, 0), none),
  (143, .getfield 28, 3, (15, 0, 17, 0), none),
  (146, .getfield 83, 3, (17, 6, 55, 0), none),
  (149, .iload_n 1, 1, (0, 0, 0, 0), none),
  (150, .laload, 1, (55, 802, 0, 0), none),
  (151, .putfield 86, 3, (15, 8, 1, 0), none),
  (154, .return_, 1, (0, 0, 0, 0), none)]
end
end
section
section
def cd_X5_expectFit : List sm_E := [(0, .aload_n 0, 1, (0, 0, 0, 0), none),
  (1, .getfield 51, 3, (15, 6, 0, 0), none),
  (4, .iload_n 1, 1, (0, 0, 0, 0), none),
  (5, .if_icmp .eq 15, 3, (0, 0, 0, 0), none),
  (8, .aload_n 0, 1, (0, 0, 0, 0), none),
  (9, .iconst 1, 1, (0, 0, 0, 0), none),
  (10, .aload_n 0, 1, (0, 0, 0, 0), none),
  (11, .getfield 70, 3, (15, 7, 0, 0), none),
  (14, .invokevirtual 90, 3, (83, 3, 0, 15), none),
  (17, .goto 16, 3, (0, 0, 0, 0), none),
  (20, .iload_n 2, 1, (0, 0, 0, 0), none),
  (21, .ifCond .ne 12, 3, (0, 0, 0, 0), none),
  (24, .aload_n 0, 1, (0, 0, 0, 0), none),
  (25, .iconst 4, 1, (0, 0, 0, 0), none),
  (26, .aload_n 0, 1, (0, 0, 0, 0), none),
  (27, .getfield 70, 3, (15, 7, 0, 0), none),
  (30, .invokevirtual 90, 3, (83, 3, 0, 15), none),
  (33, .aload_n 0, 1, (0, 0, 0, 0), none),
  (34, .invokevirtual 48, 3, (84, 1, 0, 15), none),
  (37, .return_, 1, (0, 0, 0, 0), none)]
def cd_X5_expect : List sm_E := [(0, .aload_n 0, 1, (0, 0, 0, 0), none),
  (1, .getfield 51, 3, (15, 6, 0, 0), none),
  (4, .iload_n 1, 1, (0, 0, 0, 0), none),
  (5, .if_icmp .eq 12, 3, (0, 0, 0, 0), none),
  (8, .aload_n 0, 1, (0, 0, 0, 0), none),
  (9, .iconst 1, 1, (0, 0, 0, 0), none),
  (10, .aload_n 0, 1, (0, 0, 0, 0), none),
  (11, .getfield 70, 3, (15, 7, 0, 0), none),
  (14, .invokevirtual 90, 3, (83, 3, 0, 15), none),
  (17, .aload_n 0, 1, (0, 0, 0, 0), none),
  (18, .invokevirtual 48, 3, (84, 1, 0, 15), none),
  (21, .return_, 1, (0, 0, 0, 0), none)]
def cd_X5_expectOpening : List sm_E := [(0, .aload_n 0, 1, (0, 0, 0, 0), none),
  (1, .getfield 51, 3, (15, 6, 0, 0), none),
  (4, .iload_n 1, 1, (0, 0, 0, 0), none),
  (5, .if_icmp .ne 9, 3, (0, 0, 0, 0), none),
  (8, .iload_n 2, 1, (0, 0, 0, 0), none),
  (9, .bipush 10, 2, (0, 0, 0, 0), none),
  (11, .if_icmp .lt 12, 3, (0, 0, 0, 0), none),
  (14, .aload_n 0, 1, (0, 0, 0, 0), none),
  (15, .iconst 1, 1, (0, 0, 0, 0), none),
  (16, .aload_n 0, 1, (0, 0, 0, 0), none),
  (17, .getfield 70, 3, (15, 7, 0, 0), none),
  (20, .invokevirtual 90, 3, (83, 3, 0, 15), none),
  (23, .aload_n 0, 1, (0, 0, 0, 0), none),
  (24, .invokevirtual 48, 3, (84, 1, 0, 15), none),
  (27, .return_, 1, (0, 0, 0, 0), none)]
def cd_X5_readHead : List sm_E := [(0, .aload_n 0, 1, (0, 0, 0, 0), none),
  (1, .sipush 200, 3, (0, 0, 0, 0), none),
  (4, .invokevirtual 94, 3, (86, 2, 0, 15), none),
  (7, .aload_n 0, 1, (0, 0, 0, 0), none),
  (8, .invokevirtual 97, 3, (89, 1, 0, 15), none),
  (11, .aload_n 0, 1, (0, 0, 0, 0), none),
  (12, .getfield 12, 3, (15, 1, 14, 0), none),
  (15, .invokevirtual 100, 3, (73, 1, 0, 14), none),
  (18, .aload_n 0, 1, (0, 0, 0, 0), none),
  (19, .bipush 40, 2, (0, 0, 0, 0), none),
  (21, .invokevirtual 94, 3, (86, 2, 0, 15), none),
  (24, .aload_n 0, 1, (0, 0, 0, 0), none),
  (25, .getfield 51, 3, (15, 6, 0, 0), none),
  (28, .bipush 41, 2, (0, 0, 0, 0), none),
  (30, .if_icmp .eq 39, 3, (0, 0, 0, 0), none),
  (33, .aload_n 0, 1, (0, 0, 0, 0), none),
  (34, .invokevirtual 101, 3, (91, 1, 0, 15), none),
  (37, .iconst 0, 1, (0, 0, 0, 0), none),
  (38, .istore_n 1, 1, (0, 0, 0, 0), none),
  (39, .iload_n 1, 1, (0, 0, 0, 0), some [0, 1]),
  (40, .sipush 800, 3, (0, 0, 0, 0), none),
  (43, .if_icmp .gt 26, 3, (0, 0, 0, 0), none),
  (46, .aload_n 0, 1, (0, 0, 0, 0), none),
  (47, .getfield 51, 3, (15, 6, 0, 0), none),
  (50, .bipush 44, 2, (0, 0, 0, 0), none),
  (52, .if_icmp .ne 17, 3, (0, 0, 0, 0), none),
  (55, .aload_n 0, 1, (0, 0, 0, 0), none),
  (56, .invokevirtual 48, 3, (84, 1, 0, 15), none),
  (59, .aload_n 0, 1, (0, 0, 0, 0), none),
  (60, .invokevirtual 101, 3, (91, 1, 0, 15), none),
  (63, .iinc 1 1, 3, (0, 0, 0, 0), none),
  (66, .goto (-27), 3, (0, 0, 0, 0), none),
  (69, .aload_n 0, 1, (0, 0, 0, 0), some [0]),
  (70, .bipush 41, 2, (0, 0, 0, 0), none),
  (72, .invokevirtual 94, 3, (86, 2, 0, 15), none),
  (75, .aload_n 0, 1, (0, 0, 0, 0), none),
  (76, .getfield 51, 3, (15, 6, 0, 0), none),
  (79, .bipush 58, 2, (0, 0, 0, 0), none),
  (81, .if_icmp .ne 22, 3, (0, 0, 0, 0), none),
  (84, .aload_n 0, 1, (0, 0, 0, 0), none),
  (85, .invokevirtual 48, 3, (84, 1, 0, 15), none),
  (88, .aload_n 0, 1, (0, 0, 0, 0), none),
  (89, .getfield 32, 3, (15, 3, 2, 0), none),
  (92, .aload_n 0, 1, (0, 0, 0, 0), none),
  (93, .getfield 39, 3, (15, 4, 0, 0), none),
  (96, .aload_n 0, 1, (0, 0, 0, 0), none),
  (97, .invokevirtual 104, 3, (93, 1, 1, 15), none),
  (100, .invokevirtual 108, 3, (7, 3, 0, 10), none),
  (103, .return_, 1, (0, 0, 0, 0), none)]
def cd_X5_readProcName : List sm_E := [(0, .aload_n 0, 1, (0, 0, 0, 0), none),
  (1, .getfield 32, 3, (15, 3, 2, 0), none),
  (4, .invokevirtual 111, 3, (2, 1, 1, 10), none),
  (7, .istore_n 1, 1, (0, 0, 0, 0), none),
  (8, .aload_n 0, 1, (0, 0, 0, 0), none),
  (9, .getfield 51, 3, (15, 6, 0, 0), none),
  (12, .iconst 3, 1, (0, 0, 0, 0), none),
  (13, .if_icmp .eq 15, 3, (0, 0, 0, 0), none),
  (16, .aload_n 0, 1, (0, 0, 0, 0), none),
  (17, .iconst 1, 1, (0, 0, 0, 0), none),
  (18, .aload_n 0, 1, (0, 0, 0, 0), none),
  (19, .getfield 70, 3, (15, 7, 0, 0), none),
  (22, .invokevirtual 90, 3, (83, 3, 0, 15), none),
  (25, .goto 74, 3, (0, 0, 0, 0), none),
  (28, .aload_n 0, 1, (0, 0, 0, 0), none),
  (29, .aload_n 0, 1, (0, 0, 0, 0), none),
  (30, .getfield 86, 3, (15, 8, 1, 0), none),
  (33, .invokevirtual 114, 3, (90, 2, 1, 15), none),
  (36, .iconst (-1), 1, (0, 0, 0, 0), none),
  (37, .if_icmp .eq 15, 3, (0, 0, 0, 0), none),
  (40, .aload_n 0, 1, (0, 0, 0, 0), none),
  (41, .iconst 3, 1, (0, 0, 0, 0), none),
  (42, .aload_n 0, 1, (0, 0, 0, 0), none),
  (43, .getfield 70, 3, (15, 7, 0, 0), none),
  (46, .invokevirtual 90, 3, (83, 3, 0, 15), none),
  (49, .goto 50, 3, (0, 0, 0, 0), none),
  (52, .iload_n 1, 1, (0, 0, 0, 0), none),
  (53, .ifCond .lt 9, 3, (0, 0, 0, 0), none),
  (56, .iload_n 1, 1, (0, 0, 0, 0), none),
  (57, .bipush 12, 2, (0, 0, 0, 0), none),
  (59, .if_icmp .lt 15, 3, (0, 0, 0, 0), none),
  (62, .aload_n 0, 1, (0, 0, 0, 0), none),
  (63, .iconst 5, 1, (0, 0, 0, 0), none),
  (64, .aload_n 0, 1, (0, 0, 0, 0), none),
  (65, .getfield 70, 3, (15, 7, 0, 0), none),
  (68, .invokevirtual 90, 3, (83, 3, 0, 15), none),
  (71, .goto 28, 3, (0, 0, 0, 0), none),
  (74, .aload_n 0, 1, (0, 0, 0, 0), none),
  (75, .getfield 20, 3, (15, 2, 50, 0), none),
  (78, .iload_n 1, 1, (0, 0, 0, 0), none),
  (79, .aload_n 0, 1, (0, 0, 0, 0), none),
  (80, .getfield 86, 3, (15, 8, 1, 0), none),
  (83, .lastore, 1, (50, 12, 0, 0), none),
  (84, .aload_n 0, 1, (0, 0, 0, 0), none),
  (85, .aload_n 0, 1, (0, 0, 0, 0), none),
  (86, .getfield 32, 3, (15, 3, 2, 0), none),
  (89, .invokevirtual 118, 3, (5, 1, 1, 10), none),
  (92, .putfield 39, 3, (15, 4, 0, 0), none),
  (95, .aload_n 0, 1, (0, 0, 0, 0), none),
  (96, .invokevirtual 48, 3, (84, 1, 0, 15), none),
  (99, .return_, 1, (0, 0, 0, 0), none)]
def cd_X5_findProc : List sm_E := [(0, .aload_n 0, 1, (0, 0, 0, 0), none),
  (1, .getfield 32, 3, (15, 3, 2, 0), none),
  (4, .invokevirtual 111, 3, (2, 1, 1, 10), none),
  (7, .istore_n 3, 1, (0, 0, 0, 0), none),
  (8, .iconst 0, 1, (0, 0, 0, 0), none),
  (9, .istore 4, 2, (0, 0, 0, 0), none),
  (11, .iload 4, 2, (0, 0, 0, 0), some [0, 1, 3, 4]),
  (13, .iload_n 3, 1, (0, 0, 0, 0), none),
  (14, .if_icmp .ge 33, 3, (0, 0, 0, 0), none),
  (17, .iload 4, 2, (0, 0, 0, 0), none),
  (19, .bipush 12, 2, (0, 0, 0, 0), none),
  (21, .if_icmp .ge 26, 3, (0, 0, 0, 0), none),
  (24, .aload_n 0, 1, (0, 0, 0, 0), none),
  (25, .getfield 20, 3, (15, 2, 50, 0), none),
  (28, .iload 4, 2, (0, 0, 0, 0), none),
  (30, .laload, 1, (50, 12, 0, 0), none),
  (31, .lload_n 1, 1, (0, 0, 0, 0), none),
  (32, .lcmp, 1, (0, 0, 0, 0), none),
  (33, .ifCond .ne 8, 3, (0, 0, 0, 0), none),
  (36, .iconst 5, 1, (0, 0, 0, 0), none),
  (37, .iload 4, 2, (0, 0, 0, 0), none),
  (39, .iadd, 1, (0, 0, 0, 0), none),
  (40, .ireturn, 1, (0, 0, 0, 0), none),
  (41, .iinc 4 1, 3, (0, 0, 0, 0), none),
  (44, .goto (-33), 3, (0, 0, 0, 0), none),
  (47, .ldc 121, 2, (1, 3, 0, 0), none),
  (49, .lload_n 1, 1, (0, 0, 0, 0), none),
  (50, .invokestatic 123, 3, (133, 2, 1, 0), none),
  (53, .ireturn, 1, (0, 0, 0, 0), none)]
def cd_X5_readParameter : List sm_E := [(0, .aload_n 0, 1, (0, 0, 0, 0), none),
  (1, .invokevirtual 104, 3, (93, 1, 1, 15), none),
  (4, .istore_n 1, 1, (0, 0, 0, 0), none),
  (5, .aload_n 0, 1, (0, 0, 0, 0), none),
  (6, .getfield 32, 3, (15, 3, 2, 0), none),
  (9, .aload_n 0, 1, (0, 0, 0, 0), none),
  (10, .getfield 39, 3, (15, 4, 0, 0), none),
  (13, .invokevirtual 127, 3, (8, 2, 1, 10), none),
  (16, .iconst 4, 1, (0, 0, 0, 0), none),
  (17, .if_icmp .lt 7, 3, (0, 0, 0, 0), none),
  (20, .iconst 1, 1, (0, 0, 0, 0), none),
  (21, .goto 4, 3, (0, 0, 0, 0), none),
  (24, .iconst 0, 1, (0, 0, 0, 0), none),
  (25, .istore_n 2, 1, (0, 0, 0, 0), some [0, 1]),
  (26, .aload_n 0, 1, (0, 0, 0, 0), none),
  (27, .iload_n 1, 1, (0, 0, 0, 0), none),
  (28, .iload_n 2, 1, (0, 0, 0, 0), none),
  (29, .invokevirtual 131, 3, (92, 3, 1, 15), none),
  (32, .istore_n 3, 1, (0, 0, 0, 0), none),
  (33, .aload_n 0, 1, (0, 0, 0, 0), none),
  (34, .getfield 12, 3, (15, 1, 14, 0), none),
  (37, .iload_n 3, 1, (0, 0, 0, 0), none),
  (38, .invokevirtual 135, 3, (76, 2, 0, 14), none),
  (41, .aload_n 0, 1, (0, 0, 0, 0), none),
  (42, .getfield 32, 3, (15, 3, 2, 0), none),
  (45, .aload_n 0, 1, (0, 0, 0, 0), none),
  (46, .getfield 39, 3, (15, 4, 0, 0), none),
  (49, .iload_n 1, 1, (0, 0, 0, 0), none),
  (50, .invokevirtual 138, 3, (6, 3, 0, 10), none),
  (53, .return_, 1, (0, 0, 0, 0), none)]
def cd_X5_readNewName : List sm_E := [(0, .aload_n 0, 1, (0, 0, 0, 0), none),
  (1, .getfield 51, 3, (15, 6, 0, 0), none),
  (4, .iconst 3, 1, (0, 0, 0, 0), none),
  (5, .if_icmp .eq 15, 3, (0, 0, 0, 0), none),
  (8, .aload_n 0, 1, (0, 0, 0, 0), none),
  (9, .iconst 1, 1, (0, 0, 0, 0), none),
  (10, .aload_n 0, 1, (0, 0, 0, 0), none),
  (11, .getfield 70, 3, (15, 7, 0, 0), none),
  (14, .invokevirtual 90, 3, (83, 3, 0, 15), none),
  (17, .goto 53, 3, (0, 0, 0, 0), none),
  (20, .aload_n 0, 1, (0, 0, 0, 0), none),
  (21, .getfield 12, 3, (15, 1, 14, 0), none),
  (24, .aload_n 0, 1, (0, 0, 0, 0), none),
  (25, .getfield 86, 3, (15, 8, 1, 0), none),
  (28, .invokevirtual 141, 3, (79, 2, 1, 14), none),
  (31, .iconst (-1), 1, (0, 0, 0, 0), none),
  (32, .if_icmp .eq 15, 3, (0, 0, 0, 0), none),
  (35, .aload_n 0, 1, (0, 0, 0, 0), none),
  (36, .iconst 3, 1, (0, 0, 0, 0), none),
  (37, .aload_n 0, 1, (0, 0, 0, 0), none),
  (38, .getfield 70, 3, (15, 7, 0, 0), none),
  (41, .invokevirtual 90, 3, (83, 3, 0, 15), none),
  (44, .goto 26, 3, (0, 0, 0, 0), none),
  (47, .iload_n 2, 1, (0, 0, 0, 0), none),
  (48, .ifCond .ne 13, 3, (0, 0, 0, 0), none),
  (51, .aload_n 0, 1, (0, 0, 0, 0), none),
  (52, .getfield 12, 3, (15, 1, 14, 0), none),
  (55, .invokevirtual 144, 3, (74, 1, 1, 14), none),
  (58, .ifCond .eq 12, 3, (0, 0, 0, 0), none),
  (61, .aload_n 0, 1, (0, 0, 0, 0), none),
  (62, .iconst 5, 1, (0, 0, 0, 0), none),
  (63, .aload_n 0, 1, (0, 0, 0, 0), none),
  (64, .getfield 70, 3, (15, 7, 0, 0), none),
  (67, .invokevirtual 90, 3, (83, 3, 0, 15), none),
  (70, .aload_n 0, 1, (0, 0, 0, 0), some [0, 1]),
  (71, .getfield 12, 3, (15, 1, 14, 0), none),
  (74, .aload_n 0, 1, (0, 0, 0, 0), none),
  (75, .getfield 86, 3, (15, 8, 1, 0), none),
  (78, .iload_n 1, 1, (0, 0, 0, 0), none),
  (79, .invokevirtual 148, 3, (75, 3, 1, 14), none),
  (82, .istore_n 3, 1, (0, 0, 0, 0), none),
  (83, .aload_n 0, 1, (0, 0, 0, 0), none),
  (84, .invokevirtual 48, 3, (84, 1, 0, 15), none),
  (87, .iload_n 3, 1, (0, 0, 0, 0), none),
  (88, .ireturn, 1, (0, 0, 0, 0), none)]
def cd_X5_readType : List sm_E := [(0, .aload_n 0, 1, (0, 0, 0, 0), none),
  (1, .invokevirtual 152, 3, (94, 1, 1, 15), none),
  (4, .istore_n 1, 1, (0, 0, 0, 0), none),
  (5, .aload_n 0, 1, (0, 0, 0, 0), none),
  (6, .invokevirtual 48, 3, (84, 1, 0, 15), none),
  (9, .iload_n 1, 1, (0, 0, 0, 0), none),
  (10, .ireturn, 1, (0, 0, 0, 0), none)]
def cd_X5_readTypeUpToLast : List sm_E := [(0, .aload_n 0, 1, (0, 0, 0, 0), none),
  (1, .getfield 51, 3, (15, 6, 0, 0), none),
  (4, .iconst 5, 1, (0, 0, 0, 0), none),
  (5, .if_icmp .eq 15, 3, (0, 0, 0, 0), none),
  (8, .aload_n 0, 1, (0, 0, 0, 0), none),
  (9, .iconst 1, 1, (0, 0, 0, 0), none),
  (10, .aload_n 0, 1, (0, 0, 0, 0), none),
  (11, .getfield 70, 3, (15, 7, 0, 0), none),
  (14, .invokevirtual 90, 3, (83, 3, 0, 15), none),
  (17, .bipush 38, 2, (0, 0, 0, 0), none),
  (19, .ireturn, 1, (0, 0, 0, 0), none),
  (20, .aload_n 0, 1, (0, 0, 0, 0), none),
  (21, .getfield 86, 3, (15, 8, 1, 0), none),
  (24, .l2i, 1, (0, 0, 0, 0), none),
  (25, .istore_n 1, 1, (0, 0, 0, 0), none),
  (26, .iload_n 1, 1, (0, 0, 0, 0), none),
  (27, .bipush 36, 2, (0, 0, 0, 0), none),
  (29, .if_icmp .eq 12, 3, (0, 0, 0, 0), none),
  (32, .aload_n 0, 1, (0, 0, 0, 0), none),
  (33, .getfield 67, 3, (15, 9, 0, 0), none),
  (36, .bipush 91, 2, (0, 0, 0, 0), none),
  (38, .if_icmp .eq 5, 3, (0, 0, 0, 0), none),
  (41, .iload_n 1, 1, (0, 0, 0, 0), none),
  (42, .ireturn, 1, (0, 0, 0, 0), none),
  (43, .aload_n 0, 1, (0, 0, 0, 0), none),
  (44, .invokevirtual 48, 3, (84, 1, 0, 15), none),
  (47, .aload_n 0, 1, (0, 0, 0, 0), none),
  (48, .invokevirtual 48, 3, (84, 1, 0, 15), none),
  (51, .aload_n 0, 1, (0, 0, 0, 0), none),
  (52, .getfield 51, 3, (15, 6, 0, 0), none),
  (55, .bipush 93, 2, (0, 0, 0, 0), none),
  (57, .if_icmp .eq 12, 3, (0, 0, 0, 0), none),
  (60, .aload_n 0, 1, (0, 0, 0, 0), none),
  (61, .iconst 1, 1, (0, 0, 0, 0), none),
  (62, .aload_n 0, 1, (0, 0, 0, 0), none),
  (63, .getfield 70, 3, (15, 7, 0, 0), none),
  (66, .invokevirtual 90, 3, (83, 3, 0, 15), none),
  (69, .bipush 18, 2, (0, 0, 0, 0), none),
  (71, .iload_n 1, 1, (0, 0, 0, 0), none),
  (72, .iadd, 1, (0, 0, 0, 0), none),
  (73, .ireturn, 1, (0, 0, 0, 0), none)]
def cd_X5_readBlock : List sm_E := [(0, .aload_n 0, 1, (0, 0, 0, 0), none),
  (1, .getfield 51, 3, (15, 6, 0, 0), none),
  (4, .bipush 123, 2, (0, 0, 0, 0), none),
  (6, .if_icmp .ne 9, 3, (0, 0, 0, 0), none),
  (9, .iload_n 1, 1, (0, 0, 0, 0), none),
  (10, .bipush 8, 2, (0, 0, 0, 0), none),
  (12, .if_icmp .lt 12, 3, (0, 0, 0, 0), none),
  (15, .aload_n 0, 1, (0, 0, 0, 0), some [0, 1]),
  (16, .iconst 1, 1, (0, 0, 0, 0), none),
  (17, .aload_n 0, 1, (0, 0, 0, 0), none),
  (18, .getfield 70, 3, (15, 7, 0, 0), none),
  (21, .invokevirtual 90, 3, (83, 3, 0, 15), none),
  (24, .aload_n 0, 1, (0, 0, 0, 0), none),
  (25, .invokevirtual 48, 3, (84, 1, 0, 15), none),
  (28, .aload_n 0, 1, (0, 0, 0, 0), none),
  (29, .getfield 12, 3, (15, 1, 14, 0), none),
  (32, .invokevirtual 157, 3, (77, 1, 1, 14), none),
  (35, .istore_n 2, 1, (0, 0, 0, 0), none),
  (36, .iconst 0, 1, (0, 0, 0, 0), none),
  (37, .istore_n 3, 1, (0, 0, 0, 0), none),
  (38, .iload_n 3, 1, (0, 0, 0, 0), some [0, 1, 2, 3]),
  (39, .sipush 800, 3, (0, 0, 0, 0), none),
  (42, .if_icmp .gt 32, 3, (0, 0, 0, 0), none),
  (45, .aload_n 0, 1, (0, 0, 0, 0), none),
  (46, .getfield 42, 3, (15, 11, 0, 0), none),
  (49, .ifCond .ne 25, 3, (0, 0, 0, 0), none),
  (52, .aload_n 0, 1, (0, 0, 0, 0), none),
  (53, .getfield 51, 3, (15, 6, 0, 0), none),
  (56, .bipush 125, 2, (0, 0, 0, 0), none),
  (58, .if_icmp .eq 16, 3, (0, 0, 0, 0), none),
  (61, .aload_n 0, 1, (0, 0, 0, 0), none),
  (62, .iload_n 1, 1, (0, 0, 0, 0), none),
  (63, .iconst 1, 1, (0, 0, 0, 0), none),
  (64, .iadd, 1, (0, 0, 0, 0), none),
  (65, .invokevirtual 160, 3, (96, 2, 0, 15), none),
  (68, .iinc 3 1, 3, (0, 0, 0, 0), none),
  (71, .goto (-33), 3, (0, 0, 0, 0), none),
  (74, .aload_n 0, 1, (0, 0, 0, 0), none),
  (75, .bipush 125, 2, (0, 0, 0, 0), none),
  (77, .invokevirtual 94, 3, (86, 2, 0, 15), none),
  (80, .aload_n 0, 1, (0, 0, 0, 0), none),
  (81, .getfield 12, 3, (15, 1, 14, 0), none),
  (84, .iload_n 2, 1, (0, 0, 0, 0), none),
  (85, .invokevirtual 163, 3, (78, 2, 0, 14), none),
  (88, .return_, 1, (0, 0, 0, 0), none)]
def cd_X5_readStatement : List sm_E := [(0, .aload_n 0, 1, (0, 0, 0, 0), none),
  (1, .getfield 51, 3, (15, 6, 0, 0), none),
  (4, .tableswitch 104 201 209 #[52, 59, 104, 67, 75, 104, 83, 90, 97], 52, (0, 0, 0, 0), none),
  (56, .aload_n 0, 1, (0, 0, 0, 0), none),
  (57, .invokevirtual 166, 3, (97, 1, 0, 15), none),
  (60, .goto 52, 3, (0, 0, 0, 0), none),
  (63, .aload_n 0, 1, (0, 0, 0, 0), none),
  (64, .iload_n 1, 1, (0, 0, 0, 0), none),
  (65, .invokevirtual 169, 3, (100, 2, 0, 15), none),
  (68, .goto 44, 3, (0, 0, 0, 0), none),
  (71, .aload_n 0, 1, (0, 0, 0, 0), none),
  (72, .iload_n 1, 1, (0, 0, 0, 0), none),
  (73, .invokevirtual 172, 3, (101, 2, 0, 15), none),
  (76, .goto 36, 3, (0, 0, 0, 0), none),
  (79, .aload_n 0, 1, (0, 0, 0, 0), none),
  (80, .iload_n 1, 1, (0, 0, 0, 0), none),
  (81, .invokevirtual 175, 3, (102, 2, 0, 15), none),
  (84, .goto 28, 3, (0, 0, 0, 0), none),
  (87, .aload_n 0, 1, (0, 0, 0, 0), none),
  (88, .invokevirtual 178, 3, (103, 1, 0, 15), none),
  (91, .goto 21, 3, (0, 0, 0, 0), none),
  (94, .aload_n 0, 1, (0, 0, 0, 0), none),
  (95, .invokevirtual 181, 3, (104, 1, 0, 15), none),
  (98, .goto 14, 3, (0, 0, 0, 0), none),
  (101, .aload_n 0, 1, (0, 0, 0, 0), none),
  (102, .invokevirtual 184, 3, (105, 1, 0, 15), none),
  (105, .goto 7, 3, (0, 0, 0, 0), none),
  (108, .aload_n 0, 1, (0, 0, 0, 0), none),
  (109, .invokevirtual 187, 3, (98, 1, 0, 15), none),
  (112, .return_, 1, (0, 0, 0, 0), none)]
def cd_X5_readVar : List sm_E := [(0, .aload_n 0, 1, (0, 0, 0, 0), none),
  (1, .invokevirtual 48, 3, (84, 1, 0, 15), none),
  (4, .aload_n 0, 1, (0, 0, 0, 0), none),
  (5, .invokevirtual 104, 3, (93, 1, 1, 15), none),
  (8, .istore_n 1, 1, (0, 0, 0, 0), none),
  (9, .aload_n 0, 1, (0, 0, 0, 0), none),
  (10, .iload_n 1, 1, (0, 0, 0, 0), none),
  (11, .iconst 0, 1, (0, 0, 0, 0), none),
  (12, .invokevirtual 131, 3, (92, 3, 1, 15), none),
  (15, .istore_n 2, 1, (0, 0, 0, 0), none),
  (16, .aload_n 0, 1, (0, 0, 0, 0), none),
  (17, .getfield 70, 3, (15, 7, 0, 0), none),
  (20, .istore_n 3, 1, (0, 0, 0, 0), none),
  (21, .aload_n 0, 1, (0, 0, 0, 0), none),
  (22, .bipush 61, 2, (0, 0, 0, 0), none),
  (24, .invokevirtual 94, 3, (86, 2, 0, 15), none),
  (27, .aload_n 0, 1, (0, 0, 0, 0), none),
  (28, .iconst 0, 1, (0, 0, 0, 0), none),
  (29, .invokevirtual 190, 3, (106, 2, 1, 15), none),
  (32, .istore 4, 2, (0, 0, 0, 0), none),
  (34, .aload_n 0, 1, (0, 0, 0, 0), none),
  (35, .bipush 59, 2, (0, 0, 0, 0), none),
  (37, .iload 4, 2, (0, 0, 0, 0), none),
  (39, .iload_n 1, 1, (0, 0, 0, 0), none),
  (40, .invokestatic 193, 3, (28, 2, 1, 0), none),
  (43, .invokevirtual 197, 3, (85, 3, 0, 15), none),
  (46, .aload_n 0, 1, (0, 0, 0, 0), none),
  (47, .getfield 12, 3, (15, 1, 14, 0), none),
  (50, .iload_n 2, 1, (0, 0, 0, 0), none),
  (51, .invokevirtual 135, 3, (76, 2, 0, 14), none),
  (54, .aload_n 0, 1, (0, 0, 0, 0), none),
  (55, .getfield 32, 3, (15, 3, 2, 0), none),
  (58, .bipush 6, 2, (0, 0, 0, 0), none),
  (60, .iload_n 2, 1, (0, 0, 0, 0), none),
  (61, .iload_n 3, 1, (0, 0, 0, 0), none),
  (62, .invokevirtual 63, 3, (13, 4, 1, 10), none),
  (65, .pop, 1, (0, 0, 0, 0), none),
  (66, .return_, 1, (0, 0, 0, 0), none)]
def cd_X5_readPlaceOrCall : List sm_E := [(0, .aload_n 0, 1, (0, 0, 0, 0), none),
  (1, .iconst 0, 1, (0, 0, 0, 0), none),
  (2, .invokevirtual 201, 3, (110, 2, 1, 15), none),
  (5, .istore_n 1, 1, (0, 0, 0, 0), none),
  (6, .aload_n 0, 1, (0, 0, 0, 0), none),
  (7, .getfield 204, 3, (15, 10, 0, 0), none),
  (10, .istore_n 2, 1, (0, 0, 0, 0), none),
  (11, .iload_n 2, 1, (0, 0, 0, 0), none),
  (12, .iconst 1, 1, (0, 0, 0, 0), none),
  (13, .if_icmp .ne 21, 3, (0, 0, 0, 0), none),
  (16, .aload_n 0, 1, (0, 0, 0, 0), none),
  (17, .bipush 59, 2, (0, 0, 0, 0), none),
  (19, .invokevirtual 94, 3, (86, 2, 0, 15), none),
  (22, .aload_n 0, 1, (0, 0, 0, 0), none),
  (23, .getfield 32, 3, (15, 3, 2, 0), none),
  (26, .iconst 1, 1, (0, 0, 0, 0), none),
  (27, .iconst 0, 1, (0, 0, 0, 0), none),
  (28, .iconst (-1), 1, (0, 0, 0, 0), none),
  (29, .invokevirtual 63, 3, (13, 4, 1, 10), none),
  (32, .pop, 1, (0, 0, 0, 0), none),
  (33, .return_, 1, (0, 0, 0, 0), none),
  (34, .aload_n 0, 1, (0, 0, 0, 0), none),
  (35, .getfield 51, 3, (15, 6, 0, 0), none),
  (38, .bipush 61, 2, (0, 0, 0, 0), none),
  (40, .if_icmp .ne 8, 3, (0, 0, 0, 0), none),
  (43, .iload_n 2, 1, (0, 0, 0, 0), none),
  (44, .iconst 4, 1, (0, 0, 0, 0), none),
  (45, .if_icmp .ne 13, 3, (0, 0, 0, 0), none),
  (48, .aload_n 0, 1, (0, 0, 0, 0), none),
  (49, .iconst 1, 1, (0, 0, 0, 0), none),
  (50, .aload_n 0, 1, (0, 0, 0, 0), none),
  (51, .getfield 70, 3, (15, 7, 0, 0), none),
  (54, .invokevirtual 90, 3, (83, 3, 0, 15), none),
  (57, .return_, 1, (0, 0, 0, 0), none),
  (58, .aload_n 0, 1, (0, 0, 0, 0), none),
  (59, .getfield 32, 3, (15, 3, 2, 0), none),
  (62, .invokevirtual 207, 3, (14, 1, 1, 10), none),
  (65, .istore_n 3, 1, (0, 0, 0, 0), none),
  (66, .aload_n 0, 1, (0, 0, 0, 0), none),
  (67, .getfield 70, 3, (15, 7, 0, 0), none),
  (70, .istore 4, 2, (0, 0, 0, 0), none),
  (72, .aload_n 0, 1, (0, 0, 0, 0), none),
  (73, .bipush 61, 2, (0, 0, 0, 0), none),
  (75, .iload_n 2, 1, (0, 0, 0, 0), none),
  (76, .iconst 3, 1, (0, 0, 0, 0), none),
  (77, .if_icmp .ne 10, 3, (0, 0, 0, 0), none),
  (80, .iload_n 3, 1, (0, 0, 0, 0), none),
  (81, .invokestatic 210, 3, (148, 1, 1, 0), none),
  (84, .ifCond .ne 7, 3, (0, 0, 0, 0), none),
  (87, .iconst 1, 1, (0, 0, 0, 0), none),
  (88, .goto 4, 3, (0, 0, 0, 0), none),
  (91, .iconst 0, 1, (0, 0, 0, 0), none),
  (92, .invokevirtual 197, 3, (85, 3, 0, 15), some [0, 1, 2, 3, 4]),
  (95, .aload_n 0, 1, (0, 0, 0, 0), none),
  (96, .iconst 0, 1, (0, 0, 0, 0), none),
  (97, .invokevirtual 190, 3, (106, 2, 1, 15), none),
  (100, .istore 5, 2, (0, 0, 0, 0), none),
  (102, .aload_n 0, 1, (0, 0, 0, 0), none),
  (103, .bipush 59, 2, (0, 0, 0, 0), none),
  (105, .iload 5, 2, (0, 0, 0, 0), none),
  (107, .iload_n 1, 1, (0, 0, 0, 0), none),
  (108, .invokestatic 193, 3, (28, 2, 1, 0), none),
  (111, .invokevirtual 197, 3, (85, 3, 0, 15), none),
  (114, .iload_n 2, 1, (0, 0, 0, 0), none),
  (115, .ifCond .ne 19, 3, (0, 0, 0, 0), none),
  (118, .aload_n 0, 1, (0, 0, 0, 0), none),
  (119, .getfield 32, 3, (15, 3, 2, 0), none),
  (122, .bipush 6, 2, (0, 0, 0, 0), none),
  (124, .iload_n 3, 1, (0, 0, 0, 0), none),
  (125, .iload 4, 2, (0, 0, 0, 0), none),
  (127, .invokevirtual 63, 3, (13, 4, 1, 10), none),
  (130, .pop, 1, (0, 0, 0, 0), none),
  (131, .goto 26, 3, (0, 0, 0, 0), none),
  (134, .aload_n 0, 1, (0, 0, 0, 0), none),
  (135, .getfield 32, 3, (15, 3, 2, 0), none),
  (138, .iload_n 2, 1, (0, 0, 0, 0), none),
  (139, .iconst 3, 1, (0, 0, 0, 0), none),
  (140, .if_icmp .ne 8, 3, (0, 0, 0, 0), none),
  (143, .bipush 18, 2, (0, 0, 0, 0), none),
  (145, .goto 5, 3, (0, 0, 0, 0), none),
  (148, .bipush 16, 2, (0, 0, 0, 0), none),
  (150, .iload_n 3, 1, (0, 0, 0, 0), none),
  (151, .iload 4, 2, (0, 0, 0, 0), none),
  (153, .invokevirtual 63, 3, (13, 4, 1, 10), none),
  (156, .pop, 1, (0, 0, 0, 0), none),
  (157, .return_, 1, (0, 0, 0, 0), none)]
def cd_X5_readCondition : List sm_E := [(0, .aload_n 0, 1, (0, 0, 0, 0), none),
  (1, .bipush 40, 2, (0, 0, 0, 0), none),
  (3, .iconst 0, 1, (0, 0, 0, 0), none),
  (4, .invokevirtual 216, 3, (87, 3, 0, 15), none),
  (7, .aload_n 0, 1, (0, 0, 0, 0), none),
  (8, .iconst 1, 1, (0, 0, 0, 0), none),
  (9, .invokevirtual 190, 3, (106, 2, 1, 15), none),
  (12, .istore_n 2, 1, (0, 0, 0, 0), none),
  (13, .aload_n 0, 1, (0, 0, 0, 0), none),
  (14, .bipush 41, 2, (0, 0, 0, 0), none),
  (16, .iload_n 2, 1, (0, 0, 0, 0), none),
  (17, .bipush 36, 2, (0, 0, 0, 0), none),
  (19, .if_icmp .ne 7, 3, (0, 0, 0, 0), none),
  (22, .iconst 1, 1, (0, 0, 0, 0), none),
  (23, .goto 4, 3, (0, 0, 0, 0), none),
  (26, .iconst 0, 1, (0, 0, 0, 0), none),
  (27, .invokevirtual 197, 3, (85, 3, 0, 15), none),
  (30, .aload_n 0, 1, (0, 0, 0, 0), none),
  (31, .getfield 32, 3, (15, 3, 2, 0), none),
  (34, .bipush 26, 2, (0, 0, 0, 0), none),
  (36, .iconst 0, 1, (0, 0, 0, 0), none),
  (37, .iload_n 1, 1, (0, 0, 0, 0), none),
  (38, .invokevirtual 63, 3, (13, 4, 1, 10), none),
  (41, .ireturn, 1, (0, 0, 0, 0), none)]
def cd_X5_readIf : List sm_E := [(0, .aload_n 0, 1, (0, 0, 0, 0), none),
  (1, .getfield 70, 3, (15, 7, 0, 0), none),
  (4, .istore_n 2, 1, (0, 0, 0, 0), none),
  (5, .aload_n 0, 1, (0, 0, 0, 0), none),
  (6, .invokevirtual 48, 3, (84, 1, 0, 15), none),
  (9, .aload_n 0, 1, (0, 0, 0, 0), none),
  (10, .iload_n 2, 1, (0, 0, 0, 0), none),
  (11, .invokevirtual 219, 3, (99, 2, 1, 15), none),
  (14, .istore_n 3, 1, (0, 0, 0, 0), none),
  (15, .aload_n 0, 1, (0, 0, 0, 0), none),
  (16, .iload_n 1, 1, (0, 0, 0, 0), none),
  (17, .invokevirtual 59, 3, (95, 2, 0, 15), none),
  (20, .aload_n 0, 1, (0, 0, 0, 0), none),
  (21, .getfield 51, 3, (15, 6, 0, 0), none),
  (24, .sipush 203, 3, (0, 0, 0, 0), none),
  (27, .if_icmp .eq 12, 3, (0, 0, 0, 0), none),
  (30, .aload_n 0, 1, (0, 0, 0, 0), none),
  (31, .getfield 32, 3, (15, 3, 2, 0), none),
  (34, .iload_n 3, 1, (0, 0, 0, 0), none),
  (35, .invokevirtual 222, 3, (15, 2, 0, 10), none),
  (38, .return_, 1, (0, 0, 0, 0), none),
  (39, .aload_n 0, 1, (0, 0, 0, 0), none),
  (40, .invokevirtual 48, 3, (84, 1, 0, 15), none),
  (43, .aload_n 0, 1, (0, 0, 0, 0), none),
  (44, .getfield 32, 3, (15, 3, 2, 0), none),
  (47, .iconst 0, 1, (0, 0, 0, 0), none),
  (48, .iconst 0, 1, (0, 0, 0, 0), none),
  (49, .iconst (-1), 1, (0, 0, 0, 0), none),
  (50, .invokevirtual 63, 3, (13, 4, 1, 10), none),
  (53, .istore 4, 2, (0, 0, 0, 0), none),
  (55, .aload_n 0, 1, (0, 0, 0, 0), none),
  (56, .getfield 32, 3, (15, 3, 2, 0), none),
  (59, .iload_n 3, 1, (0, 0, 0, 0), none),
  (60, .invokevirtual 222, 3, (15, 2, 0, 10), none),
  (63, .aload_n 0, 1, (0, 0, 0, 0), none),
  (64, .iload_n 1, 1, (0, 0, 0, 0), none),
  (65, .invokevirtual 59, 3, (95, 2, 0, 15), none),
  (68, .aload_n 0, 1, (0, 0, 0, 0), none),
  (69, .getfield 32, 3, (15, 3, 2, 0), none),
  (72, .iload 4, 2, (0, 0, 0, 0), none),
  (74, .invokevirtual 222, 3, (15, 2, 0, 10), none),
  (77, .return_, 1, (0, 0, 0, 0), none)]
def cd_X5_readWhile : List sm_E := [(0, .aload_n 0, 1, (0, 0, 0, 0), none),
  (1, .getfield 70, 3, (15, 7, 0, 0), none),
  (4, .istore_n 2, 1, (0, 0, 0, 0), none),
  (5, .aload_n 0, 1, (0, 0, 0, 0), none),
  (6, .getfield 32, 3, (15, 3, 2, 0), none),
  (9, .getfield 225, 3, (10, 11, 0, 0), none),
  (12, .istore_n 3, 1, (0, 0, 0, 0), none),
  (13, .aload_n 0, 1, (0, 0, 0, 0), none),
  (14, .invokevirtual 48, 3, (84, 1, 0, 15), none),
  (17, .aload_n 0, 1, (0, 0, 0, 0), none),
  (18, .iload_n 2, 1, (0, 0, 0, 0), none),
  (19, .invokevirtual 219, 3, (99, 2, 1, 15), none),
  (22, .istore 4, 2, (0, 0, 0, 0), none),
  (24, .aload_n 0, 1, (0, 0, 0, 0), none),
  (25, .iload_n 1, 1, (0, 0, 0, 0), none),
  (26, .invokevirtual 59, 3, (95, 2, 0, 15), none),
  (29, .aload_n 0, 1, (0, 0, 0, 0), none),
  (30, .getfield 32, 3, (15, 3, 2, 0), none),
  (33, .iconst 0, 1, (0, 0, 0, 0), none),
  (34, .iload_n 3, 1, (0, 0, 0, 0), none),
  (35, .iconst (-1), 1, (0, 0, 0, 0), none),
  (36, .invokevirtual 63, 3, (13, 4, 1, 10), none),
  (39, .pop, 1, (0, 0, 0, 0), none),
  (40, .aload_n 0, 1, (0, 0, 0, 0), none),
  (41, .getfield 32, 3, (15, 3, 2, 0), none),
  (44, .iload 4, 2, (0, 0, 0, 0), none),
  (46, .invokevirtual 222, 3, (15, 2, 0, 10), none),
  (49, .return_, 1, (0, 0, 0, 0), none)]
def cd_X5_readTry : List sm_E := [(0, .aload_n 0, 1, (0, 0, 0, 0), none),
  (1, .invokevirtual 48, 3, (84, 1, 0, 15), none),
  (4, .aload_n 0, 1, (0, 0, 0, 0), none),
  (5, .getfield 32, 3, (15, 3, 2, 0), none),
  (8, .getfield 228, 3, (10, 12, 0, 0), none),
  (11, .istore_n 2, 1, (0, 0, 0, 0), none),
  (12, .aload_n 0, 1, (0, 0, 0, 0), none),
  (13, .getfield 32, 3, (15, 3, 2, 0), none),
  (16, .invokevirtual 231, 3, (16, 1, 1, 10), none),
  (19, .istore_n 3, 1, (0, 0, 0, 0), none),
  (20, .aload_n 0, 1, (0, 0, 0, 0), none),
  (21, .getfield 32, 3, (15, 3, 2, 0), none),
  (24, .iload_n 3, 1, (0, 0, 0, 0), none),
  (25, .putfield 228, 3, (10, 12, 0, 0), none),
  (28, .aload_n 0, 1, (0, 0, 0, 0), none),
  (29, .iload_n 1, 1, (0, 0, 0, 0), none),
  (30, .invokevirtual 59, 3, (95, 2, 0, 15), none),
  (33, .aload_n 0, 1, (0, 0, 0, 0), none),
  (34, .getfield 32, 3, (15, 3, 2, 0), none),
  (37, .iload_n 2, 1, (0, 0, 0, 0), none),
  (38, .putfield 228, 3, (10, 12, 0, 0), none),
  (41, .aload_n 0, 1, (0, 0, 0, 0), none),
  (42, .getfield 32, 3, (15, 3, 2, 0), none),
  (45, .iconst 0, 1, (0, 0, 0, 0), none),
  (46, .iconst 0, 1, (0, 0, 0, 0), none),
  (47, .iconst (-1), 1, (0, 0, 0, 0), none),
  (48, .invokevirtual 63, 3, (13, 4, 1, 10), none),
  (51, .istore 4, 2, (0, 0, 0, 0), none),
  (53, .aload_n 0, 1, (0, 0, 0, 0), none),
  (54, .sipush 206, 3, (0, 0, 0, 0), none),
  (57, .invokevirtual 94, 3, (86, 2, 0, 15), none),
  (60, .aload_n 0, 1, (0, 0, 0, 0), none),
  (61, .bipush 40, 2, (0, 0, 0, 0), none),
  (63, .invokevirtual 94, 3, (86, 2, 0, 15), none),
  (66, .aload_n 0, 1, (0, 0, 0, 0), none),
  (67, .bipush 36, 2, (0, 0, 0, 0), none),
  (69, .iconst 0, 1, (0, 0, 0, 0), none),
  (70, .invokevirtual 131, 3, (92, 3, 1, 15), none),
  (73, .istore 5, 2, (0, 0, 0, 0), none),
  (75, .aload_n 0, 1, (0, 0, 0, 0), none),
  (76, .bipush 41, 2, (0, 0, 0, 0), none),
  (78, .invokevirtual 94, 3, (86, 2, 0, 15), none),
  (81, .aload_n 0, 1, (0, 0, 0, 0), none),
  (82, .getfield 32, 3, (15, 3, 2, 0), none),
  (85, .iload_n 3, 1, (0, 0, 0, 0), none),
  (86, .invokevirtual 234, 3, (17, 2, 0, 10), none),
  (89, .aload_n 0, 1, (0, 0, 0, 0), none),
  (90, .getfield 32, 3, (15, 3, 2, 0), none),
  (93, .iconst 2, 1, (0, 0, 0, 0), none),
  (94, .iload 5, 2, (0, 0, 0, 0), none),
  (96, .iconst (-1), 1, (0, 0, 0, 0), none),
  (97, .invokevirtual 63, 3, (13, 4, 1, 10), none),
  (100, .pop, 1, (0, 0, 0, 0), none),
  (101, .aload_n 0, 1, (0, 0, 0, 0), none),
  (102, .getfield 12, 3, (15, 1, 14, 0), none),
  (105, .invokevirtual 157, 3, (77, 1, 1, 14), none),
  (108, .istore 6, 2, (0, 0, 0, 0), none),
  (110, .aload_n 0, 1, (0, 0, 0, 0), none),
  (111, .getfield 12, 3, (15, 1, 14, 0), none),
  (114, .iload 5, 2, (0, 0, 0, 0), none),
  (116, .invokevirtual 135, 3, (76, 2, 0, 14), none),
  (119, .aload_n 0, 1, (0, 0, 0, 0), none),
  (120, .iload_n 1, 1, (0, 0, 0, 0), none),
  (121, .invokevirtual 59, 3, (95, 2, 0, 15), none),
  (124, .aload_n 0, 1, (0, 0, 0, 0), none),
  (125, .getfield 12, 3, (15, 1, 14, 0), none),
  (128, .iload 6, 2, (0, 0, 0, 0), none),
  (130, .invokevirtual 163, 3, (78, 2, 0, 14), none),
  (133, .aload_n 0, 1, (0, 0, 0, 0), none),
  (134, .getfield 32, 3, (15, 3, 2, 0), none),
  (137, .iload 4, 2, (0, 0, 0, 0), none),
  (139, .invokevirtual 222, 3, (15, 2, 0, 10), none),
  (142, .return_, 1, (0, 0, 0, 0), none)]
def cd_X5_readReturn : List sm_E := [(0, .aload_n 0, 1, (0, 0, 0, 0), none),
  (1, .getfield 70, 3, (15, 7, 0, 0), none),
  (4, .istore_n 1, 1, (0, 0, 0, 0), none),
  (5, .aload_n 0, 1, (0, 0, 0, 0), none),
  (6, .getfield 32, 3, (15, 3, 2, 0), none),
  (9, .aload_n 0, 1, (0, 0, 0, 0), none),
  (10, .getfield 39, 3, (15, 4, 0, 0), none),
  (13, .invokevirtual 237, 3, (10, 2, 1, 10), none),
  (16, .istore_n 2, 1, (0, 0, 0, 0), none),
  (17, .aload_n 0, 1, (0, 0, 0, 0), none),
  (18, .invokevirtual 48, 3, (84, 1, 0, 15), none),
  (21, .aload_n 0, 1, (0, 0, 0, 0), none),
  (22, .getfield 51, 3, (15, 6, 0, 0), none),
  (25, .bipush 59, 2, (0, 0, 0, 0), none),
  (27, .if_icmp .ne 33, 3, (0, 0, 0, 0), none),
  (30, .aload_n 0, 1, (0, 0, 0, 0), none),
  (31, .bipush 59, 2, (0, 0, 0, 0), none),
  (33, .iload_n 2, 1, (0, 0, 0, 0), none),
  (34, .bipush 38, 2, (0, 0, 0, 0), none),
  (36, .if_icmp .ne 7, 3, (0, 0, 0, 0), none),
  (39, .iconst 1, 1, (0, 0, 0, 0), none),
  (40, .goto 4, 3, (0, 0, 0, 0), none),
  (43, .iconst 0, 1, (0, 0, 0, 0), none),
  (44, .invokevirtual 197, 3, (85, 3, 0, 15), none),
  (47, .aload_n 0, 1, (0, 0, 0, 0), none),
  (48, .getfield 32, 3, (15, 3, 2, 0), none),
  (51, .bipush 24, 2, (0, 0, 0, 0), none),
  (53, .iconst 0, 1, (0, 0, 0, 0), none),
  (54, .iload_n 1, 1, (0, 0, 0, 0), none),
  (55, .invokevirtual 63, 3, (13, 4, 1, 10), none),
  (58, .pop, 1, (0, 0, 0, 0), none),
  (59, .return_, 1, (0, 0, 0, 0), none),
  (60, .aload_n 0, 1, (0, 0, 0, 0), none),
  (61, .iconst 0, 1, (0, 0, 0, 0), none),
  (62, .invokevirtual 190, 3, (106, 2, 1, 15), none),
  (65, .istore_n 3, 1, (0, 0, 0, 0), none),
  (66, .aload_n 0, 1, (0, 0, 0, 0), none),
  (67, .bipush 59, 2, (0, 0, 0, 0), none),
  (69, .iload_n 3, 1, (0, 0, 0, 0), none),
  (70, .iload_n 2, 1, (0, 0, 0, 0), none),
  (71, .invokestatic 193, 3, (28, 2, 1, 0), none),
  (74, .invokevirtual 197, 3, (85, 3, 0, 15), none),
  (77, .aload_n 0, 1, (0, 0, 0, 0), none),
  (78, .getfield 32, 3, (15, 3, 2, 0), none),
  (81, .bipush 24, 2, (0, 0, 0, 0), none),
  (83, .iconst 1, 1, (0, 0, 0, 0), none),
  (84, .iload_n 1, 1, (0, 0, 0, 0), none),
  (85, .invokevirtual 63, 3, (13, 4, 1, 10), none),
  (88, .pop, 1, (0, 0, 0, 0), none),
  (89, .return_, 1, (0, 0, 0, 0), none)]
def cd_X5_readSay : List sm_E := [(0, .aload_n 0, 1, (0, 0, 0, 0), none),
  (1, .getfield 70, 3, (15, 7, 0, 0), none),
  (4, .istore_n 1, 1, (0, 0, 0, 0), none),
  (5, .aload_n 0, 1, (0, 0, 0, 0), none),
  (6, .invokevirtual 48, 3, (84, 1, 0, 15), none),
  (9, .aload_n 0, 1, (0, 0, 0, 0), none),
  (10, .iconst 0, 1, (0, 0, 0, 0), none),
  (11, .invokevirtual 190, 3, (106, 2, 1, 15), none),
  (14, .istore_n 2, 1, (0, 0, 0, 0), none),
  (15, .aload_n 0, 1, (0, 0, 0, 0), none),
  (16, .bipush 59, 2, (0, 0, 0, 0), none),
  (18, .iload_n 2, 1, (0, 0, 0, 0), none),
  (19, .bipush 38, 2, (0, 0, 0, 0), none),
  (21, .if_icmp .eq 7, 3, (0, 0, 0, 0), none),
  (24, .iconst 1, 1, (0, 0, 0, 0), none),
  (25, .goto 4, 3, (0, 0, 0, 0), none),
  (28, .iconst 0, 1, (0, 0, 0, 0), none),
  (29, .invokevirtual 197, 3, (85, 3, 0, 15), some [0, 1, 2]),
  (32, .aload_n 0, 1, (0, 0, 0, 0), none),
  (33, .getfield 32, 3, (15, 3, 2, 0), none),
  (36, .iload_n 2, 1, (0, 0, 0, 0), none),
  (37, .bipush 36, 2, (0, 0, 0, 0), none),
  (39, .if_icmp .ne 8, 3, (0, 0, 0, 0), none),
  (42, .bipush 22, 2, (0, 0, 0, 0), none),
  (44, .goto 5, 3, (0, 0, 0, 0), none),
  (47, .bipush 23, 2, (0, 0, 0, 0), none),
  (49, .iconst 0, 1, (0, 0, 0, 0), none),
  (50, .iload_n 1, 1, (0, 0, 0, 0), none),
  (51, .invokevirtual 63, 3, (13, 4, 1, 10), none),
  (54, .pop, 1, (0, 0, 0, 0), none),
  (55, .return_, 1, (0, 0, 0, 0), none)]
def cd_X5_readFail : List sm_E := [(0, .aload_n 0, 1, (0, 0, 0, 0), none),
  (1, .getfield 70, 3, (15, 7, 0, 0), none),
  (4, .istore_n 1, 1, (0, 0, 0, 0), none),
  (5, .aload_n 0, 1, (0, 0, 0, 0), none),
  (6, .invokevirtual 48, 3, (84, 1, 0, 15), none),
  (9, .aload_n 0, 1, (0, 0, 0, 0), none),
  (10, .iconst 0, 1, (0, 0, 0, 0), none),
  (11, .invokevirtual 190, 3, (106, 2, 1, 15), none),
  (14, .istore_n 2, 1, (0, 0, 0, 0), none),
  (15, .aload_n 0, 1, (0, 0, 0, 0), none),
  (16, .bipush 59, 2, (0, 0, 0, 0), none),
  (18, .iload_n 2, 1, (0, 0, 0, 0), none),
  (19, .bipush 36, 2, (0, 0, 0, 0), none),
  (21, .if_icmp .ne 7, 3, (0, 0, 0, 0), none),
  (24, .iconst 1, 1, (0, 0, 0, 0), none),
  (25, .goto 4, 3, (0, 0, 0, 0), none),
  (28, .iconst 0, 1, (0, 0, 0, 0), none),
  (29, .invokevirtual 197, 3, (85, 3, 0, 15), none),
  (32, .aload_n 0, 1, (0, 0, 0, 0), none),
  (33, .getfield 32, 3, (15, 3, 2, 0), none),
  (36, .bipush 25, 2, (0, 0, 0, 0), none),
  (38, .iconst 0, 1, (0, 0, 0, 0), none),
  (39, .iload_n 1, 1, (0, 0, 0, 0), none),
  (40, .invokevirtual 63, 3, (13, 4, 1, 10), none),
  (43, .pop, 1, (0, 0, 0, 0), none),
  (44, .return_, 1, (0, 0, 0, 0), none)]
def cd_X5_readExpression : List sm_E := [(0, .aload_n 0, 1, (0, 0, 0, 0), none),
  (1, .iload_n 1, 1, (0, 0, 0, 0), none),
  (2, .invokevirtual 240, 3, (107, 2, 1, 15), none),
  (5, .istore_n 2, 1, (0, 0, 0, 0), none),
  (6, .aload_n 0, 1, (0, 0, 0, 0), none),
  (7, .getfield 51, 3, (15, 6, 0, 0), none),
  (10, .istore_n 3, 1, (0, 0, 0, 0), none),
  (11, .iload_n 3, 1, (0, 0, 0, 0), none),
  (12, .iconst 1, 1, (0, 0, 0, 0), none),
  (13, .if_icmp .eq 16, 3, (0, 0, 0, 0), none),
  (16, .iload_n 3, 1, (0, 0, 0, 0), none),
  (17, .iconst 2, 1, (0, 0, 0, 0), none),
  (18, .if_icmp .eq 11, 3, (0, 0, 0, 0), none),
  (21, .iload_n 3, 1, (0, 0, 0, 0), none),
  (22, .bipush 60, 2, (0, 0, 0, 0), none),
  (24, .if_icmp .eq 5, 3, (0, 0, 0, 0), none),
  (27, .iload_n 2, 1, (0, 0, 0, 0), none),
  (28, .ireturn, 1, (0, 0, 0, 0), none),
  (29, .aload_n 0, 1, (0, 0, 0, 0), some [0, 1, 2, 3]),
  (30, .getfield 70, 3, (15, 7, 0, 0), none),
  (33, .istore 4, 2, (0, 0, 0, 0), none),
  (35, .aload_n 0, 1, (0, 0, 0, 0), none),
  (36, .iload_n 3, 1, (0, 0, 0, 0), none),
  (37, .iload_n 2, 1, (0, 0, 0, 0), none),
  (38, .bipush 38, 2, (0, 0, 0, 0), none),
  (40, .if_icmp .eq 19, 3, (0, 0, 0, 0), none),
  (43, .iload_n 3, 1, (0, 0, 0, 0), none),
  (44, .bipush 60, 2, (0, 0, 0, 0), none),
  (46, .if_icmp .ne 9, 3, (0, 0, 0, 0), none),
  (49, .iload_n 2, 1, (0, 0, 0, 0), none),
  (50, .bipush 36, 2, (0, 0, 0, 0), none),
  (52, .if_icmp .ne 7, 3, (0, 0, 0, 0), none),
  (55, .iconst 1, 1, (0, 0, 0, 0), none),
  (56, .goto 4, 3, (0, 0, 0, 0), none),
  (59, .iconst 0, 1, (0, 0, 0, 0), none),
  (60, .invokevirtual 197, 3, (85, 3, 0, 15), some [0, 1, 2, 3, 4]),
  (63, .aload_n 0, 1, (0, 0, 0, 0), none),
  (64, .iload_n 1, 1, (0, 0, 0, 0), none),
  (65, .invokevirtual 240, 3, (107, 2, 1, 15), none),
  (68, .istore 5, 2, (0, 0, 0, 0), none),
  (70, .iload_n 2, 1, (0, 0, 0, 0), none),
  (71, .bipush 36, 2, (0, 0, 0, 0), none),
  (73, .if_icmp .ne 13, 3, (0, 0, 0, 0), none),
  (76, .iload 5, 2, (0, 0, 0, 0), none),
  (78, .bipush 36, 2, (0, 0, 0, 0), none),
  (80, .if_icmp .eq 21, 3, (0, 0, 0, 0), none),
  (83, .goto 11, 3, (0, 0, 0, 0), none),
  (86, .iload 5, 2, (0, 0, 0, 0), none),
  (88, .invokestatic 243, 3, (26, 1, 1, 0), none),
  (91, .ifCond .ne 10, 3, (0, 0, 0, 0), none),
  (94, .aload_n 0, 1, (0, 0, 0, 0), none),
  (95, .iconst 4, 1, (0, 0, 0, 0), none),
  (96, .iload 4, 2, (0, 0, 0, 0), none),
  (98, .invokevirtual 90, 3, (83, 3, 0, 15), none),
  (101, .iload_n 3, 1, (0, 0, 0, 0), some [0, 3, 4]),
  (102, .bipush 60, 2, (0, 0, 0, 0), none),
  (104, .if_icmp .ne 19, 3, (0, 0, 0, 0), none),
  (107, .aload_n 0, 1, (0, 0, 0, 0), none),
  (108, .getfield 32, 3, (15, 3, 2, 0), none),
  (111, .bipush 12, 2, (0, 0, 0, 0), none),
  (113, .iconst 0, 1, (0, 0, 0, 0), none),
  (114, .iload 4, 2, (0, 0, 0, 0), none),
  (116, .invokevirtual 63, 3, (13, 4, 1, 10), none),
  (119, .pop, 1, (0, 0, 0, 0), none),
  (120, .goto 26, 3, (0, 0, 0, 0), none),
  (123, .aload_n 0, 1, (0, 0, 0, 0), none),
  (124, .getfield 32, 3, (15, 3, 2, 0), none),
  (127, .iload_n 3, 1, (0, 0, 0, 0), none),
  (128, .iconst 1, 1, (0, 0, 0, 0), none),
  (129, .if_icmp .ne 8, 3, (0, 0, 0, 0), none),
  (132, .bipush 10, 2, (0, 0, 0, 0), none),
  (134, .goto 5, 3, (0, 0, 0, 0), none),
  (137, .bipush 11, 2, (0, 0, 0, 0), none),
  (139, .iconst 0, 1, (0, 0, 0, 0), none),
  (140, .iload 4, 2, (0, 0, 0, 0), none),
  (142, .invokevirtual 63, 3, (13, 4, 1, 10), none),
  (145, .pop, 1, (0, 0, 0, 0), none),
  (146, .bipush 36, 2, (0, 0, 0, 0), none),
  (148, .ireturn, 1, (0, 0, 0, 0), none)]
def cd_X5_readSum : List sm_E := [(0, .aload_n 0, 1, (0, 0, 0, 0), none),
  (1, .iload_n 1, 1, (0, 0, 0, 0), none),
  (2, .invokevirtual 246, 3, (108, 2, 1, 15), none),
  (5, .istore_n 2, 1, (0, 0, 0, 0), none),
  (6, .iconst 0, 1, (0, 0, 0, 0), none),
  (7, .istore_n 3, 1, (0, 0, 0, 0), none),
  (8, .iload_n 3, 1, (0, 0, 0, 0), some [0, 1, 2, 3]),
  (9, .sipush 800, 3, (0, 0, 0, 0), none),
  (12, .if_icmp .gt 88, 3, (0, 0, 0, 0), none),
  (15, .aload_n 0, 1, (0, 0, 0, 0), none),
  (16, .getfield 51, 3, (15, 6, 0, 0), none),
  (19, .bipush 43, 2, (0, 0, 0, 0), none),
  (21, .if_icmp .eq 12, 3, (0, 0, 0, 0), none),
  (24, .aload_n 0, 1, (0, 0, 0, 0), none),
  (25, .getfield 51, 3, (15, 6, 0, 0), none),
  (28, .bipush 45, 2, (0, 0, 0, 0), none),
  (30, .if_icmp .ne 70, 3, (0, 0, 0, 0), none),
  (33, .aload_n 0, 1, (0, 0, 0, 0), none),
  (34, .getfield 51, 3, (15, 6, 0, 0), none),
  (37, .bipush 43, 2, (0, 0, 0, 0), none),
  (39, .if_icmp .ne 8, 3, (0, 0, 0, 0), none),
  (42, .bipush 7, 2, (0, 0, 0, 0), none),
  (44, .goto 5, 3, (0, 0, 0, 0), none),
  (47, .bipush 8, 2, (0, 0, 0, 0), none),
  (49, .istore 4, 2, (0, 0, 0, 0), some [0, 1, 2, 3]),
  (51, .aload_n 0, 1, (0, 0, 0, 0), none),
  (52, .getfield 70, 3, (15, 7, 0, 0), none),
  (55, .istore 5, 2, (0, 0, 0, 0), none),
  (57, .aload_n 0, 1, (0, 0, 0, 0), none),
  (58, .aload_n 0, 1, (0, 0, 0, 0), none),
  (59, .getfield 51, 3, (15, 6, 0, 0), none),
  (62, .iload_n 2, 1, (0, 0, 0, 0), none),
  (63, .bipush 36, 2, (0, 0, 0, 0), none),
  (65, .if_icmp .ne 7, 3, (0, 0, 0, 0), none),
  (68, .iconst 1, 1, (0, 0, 0, 0), none),
  (69, .goto 4, 3, (0, 0, 0, 0), none),
  (72, .iconst 0, 1, (0, 0, 0, 0), none),
  (73, .invokevirtual 197, 3, (85, 3, 0, 15), some [0, 1, 3, 4, 5]),
  (76, .aload_n 0, 1, (0, 0, 0, 0), none),
  (77, .iload_n 1, 1, (0, 0, 0, 0), none),
  (78, .invokevirtual 246, 3, (108, 2, 1, 15), none),
  (81, .istore 6, 2, (0, 0, 0, 0), none),
  (83, .aload_n 0, 1, (0, 0, 0, 0), none),
  (84, .iload 4, 2, (0, 0, 0, 0), none),
  (86, .iload 6, 2, (0, 0, 0, 0), none),
  (88, .iload 5, 2, (0, 0, 0, 0), none),
  (90, .invokevirtual 249, 3, (109, 4, 1, 15), none),
  (93, .istore_n 2, 1, (0, 0, 0, 0), none),
  (94, .iinc 3 1, 3, (0, 0, 0, 0), none),
  (97, .goto (-89), 3, (0, 0, 0, 0), none),
  (100, .iload_n 2, 1, (0, 0, 0, 0), none),
  (101, .ireturn, 1, (0, 0, 0, 0), none)]
def cd_X5_readProduct : List sm_E := [(0, .aload_n 0, 1, (0, 0, 0, 0), none),
  (1, .iload_n 1, 1, (0, 0, 0, 0), none),
  (2, .invokevirtual 201, 3, (110, 2, 1, 15), none),
  (5, .istore_n 2, 1, (0, 0, 0, 0), none),
  (6, .iconst 0, 1, (0, 0, 0, 0), none),
  (7, .istore_n 3, 1, (0, 0, 0, 0), none),
  (8, .iload_n 3, 1, (0, 0, 0, 0), some [0, 1, 2, 3]),
  (9, .sipush 800, 3, (0, 0, 0, 0), none),
  (12, .if_icmp .gt 59, 3, (0, 0, 0, 0), none),
  (15, .aload_n 0, 1, (0, 0, 0, 0), none),
  (16, .getfield 51, 3, (15, 6, 0, 0), none),
  (19, .bipush 42, 2, (0, 0, 0, 0), none),
  (21, .if_icmp .ne 50, 3, (0, 0, 0, 0), none),
  (24, .aload_n 0, 1, (0, 0, 0, 0), none),
  (25, .getfield 70, 3, (15, 7, 0, 0), none),
  (28, .istore 4, 2, (0, 0, 0, 0), none),
  (30, .aload_n 0, 1, (0, 0, 0, 0), none),
  (31, .bipush 42, 2, (0, 0, 0, 0), none),
  (33, .iload_n 2, 1, (0, 0, 0, 0), none),
  (34, .bipush 36, 2, (0, 0, 0, 0), none),
  (36, .if_icmp .ne 7, 3, (0, 0, 0, 0), none),
  (39, .iconst 1, 1, (0, 0, 0, 0), none),
  (40, .goto 4, 3, (0, 0, 0, 0), none),
  (43, .iconst 0, 1, (0, 0, 0, 0), none),
  (44, .invokevirtual 197, 3, (85, 3, 0, 15), some [0, 1, 3, 4]),
  (47, .aload_n 0, 1, (0, 0, 0, 0), none),
  (48, .iload_n 1, 1, (0, 0, 0, 0), none),
  (49, .invokevirtual 201, 3, (110, 2, 1, 15), none),
  (52, .istore 5, 2, (0, 0, 0, 0), none),
  (54, .aload_n 0, 1, (0, 0, 0, 0), none),
  (55, .bipush 9, 2, (0, 0, 0, 0), none),
  (57, .iload 5, 2, (0, 0, 0, 0), none),
  (59, .iload 4, 2, (0, 0, 0, 0), none),
  (61, .invokevirtual 249, 3, (109, 4, 1, 15), none),
  (64, .istore_n 2, 1, (0, 0, 0, 0), none),
  (65, .iinc 3 1, 3, (0, 0, 0, 0), none),
  (68, .goto (-60), 3, (0, 0, 0, 0), none),
  (71, .iload_n 2, 1, (0, 0, 0, 0), none),
  (72, .ireturn, 1, (0, 0, 0, 0), none)]
def cd_X5_finishSign : List sm_E := [(0, .iload_n 2, 1, (0, 0, 0, 0), none),
  (1, .bipush 36, 2, (0, 0, 0, 0), none),
  (3, .if_icmp .eq 9, 3, (0, 0, 0, 0), none),
  (6, .aload_n 0, 1, (0, 0, 0, 0), none),
  (7, .iconst 4, 1, (0, 0, 0, 0), none),
  (8, .iload_n 3, 1, (0, 0, 0, 0), none),
  (9, .invokevirtual 90, 3, (83, 3, 0, 15), none),
  (12, .aload_n 0, 1, (0, 0, 0, 0), none),
  (13, .getfield 32, 3, (15, 3, 2, 0), none),
  (16, .iload_n 1, 1, (0, 0, 0, 0), none),
  (17, .iconst 0, 1, (0, 0, 0, 0), none),
  (18, .iload_n 3, 1, (0, 0, 0, 0), none),
  (19, .invokevirtual 63, 3, (13, 4, 1, 10), none),
  (22, .pop, 1, (0, 0, 0, 0), none),
  (23, .bipush 36, 2, (0, 0, 0, 0), none),
  (25, .ireturn, 1, (0, 0, 0, 0), none)]
def cd_X5_readUnit : List sm_E := [(0, .aload_n 0, 1, (0, 0, 0, 0), none),
  (1, .iload_n 1, 1, (0, 0, 0, 0), none),
  (2, .invokevirtual 252, 3, (111, 2, 1, 15), none),
  (5, .istore_n 2, 1, (0, 0, 0, 0), none),
  (6, .iconst 0, 1, (0, 0, 0, 0), none),
  (7, .istore_n 3, 1, (0, 0, 0, 0), none),
  (8, .iload_n 3, 1, (0, 0, 0, 0), some [0, 1, 2, 3]),
  (9, .sipush 800, 3, (0, 0, 0, 0), none),
  (12, .if_icmp .gt 72, 3, (0, 0, 0, 0), none),
  (15, .aload_n 0, 1, (0, 0, 0, 0), none),
  (16, .getfield 51, 3, (15, 6, 0, 0), none),
  (19, .bipush 91, 2, (0, 0, 0, 0), none),
  (21, .if_icmp .ne 13, 3, (0, 0, 0, 0), none),
  (24, .aload_n 0, 1, (0, 0, 0, 0), none),
  (25, .iload_n 2, 1, (0, 0, 0, 0), none),
  (26, .iload_n 1, 1, (0, 0, 0, 0), none),
  (27, .invokevirtual 255, 3, (117, 3, 1, 15), none),
  (30, .istore_n 2, 1, (0, 0, 0, 0), none),
  (31, .goto 47, 3, (0, 0, 0, 0), none),
  (34, .aload_n 0, 1, (0, 0, 0, 0), none),
  (35, .getfield 51, 3, (15, 6, 0, 0), none),
  (38, .bipush 46, 2, (0, 0, 0, 0), none),
  (40, .if_icmp .ne 12, 3, (0, 0, 0, 0), none),
  (43, .aload_n 0, 1, (0, 0, 0, 0), none),
  (44, .iload_n 2, 1, (0, 0, 0, 0), none),
  (45, .invokevirtual 259, 3, (118, 2, 1, 15), none),
  (48, .istore_n 2, 1, (0, 0, 0, 0), none),
  (49, .goto 29, 3, (0, 0, 0, 0), none),
  (52, .aload_n 0, 1, (0, 0, 0, 0), none),
  (53, .getfield 51, 3, (15, 6, 0, 0), none),
  (56, .sipush 213, 3, (0, 0, 0, 0), none),
  (59, .if_icmp .eq 13, 3, (0, 0, 0, 0), none),
  (62, .aload_n 0, 1, (0, 0, 0, 0), none),
  (63, .getfield 51, 3, (15, 6, 0, 0), none),
  (66, .sipush 212, 3, (0, 0, 0, 0), none),
  (69, .if_icmp .ne 15, 3, (0, 0, 0, 0), none),
  (72, .aload_n 0, 1, (0, 0, 0, 0), none),
  (73, .iload_n 2, 1, (0, 0, 0, 0), none),
  (74, .invokevirtual 262, 3, (119, 2, 1, 15), none),
  (77, .istore_n 2, 1, (0, 0, 0, 0), none),
  (78, .iinc 3 1, 3, (0, 0, 0, 0), none),
  (81, .goto (-73), 3, (0, 0, 0, 0), none),
  (84, .iload_n 2, 1, (0, 0, 0, 0), none),
  (85, .ireturn, 1, (0, 0, 0, 0), none)]
def cd_X5_readFirst : List sm_E := [(0, .aload_n 0, 1, (0, 0, 0, 0), none),
  (1, .getfield 70, 3, (15, 7, 0, 0), none),
  (4, .istore_n 2, 1, (0, 0, 0, 0), none),
  (5, .aload_n 0, 1, (0, 0, 0, 0), none),
  (6, .getfield 51, 3, (15, 6, 0, 0), none),
  (9, .lookupswitch 156 #[(3, 100), (4, 59), (40, 128), (45, 66), (210, 122), (211, 77)], 59, (0, 0, 0, 0), none),
  (68, .aload_n 0, 1, (0, 0, 0, 0), none),
  (69, .iconst 1, 1, (0, 0, 0, 0), none),
  (70, .iload_n 2, 1, (0, 0, 0, 0), none),
  (71, .invokevirtual 265, 3, (112, 3, 1, 15), none),
  (74, .ireturn, 1, (0, 0, 0, 0), none),
  (75, .aload_n 0, 1, (0, 0, 0, 0), none),
  (76, .invokevirtual 48, 3, (84, 1, 0, 15), none),
  (79, .aload_n 0, 1, (0, 0, 0, 0), none),
  (80, .iconst (-1), 1, (0, 0, 0, 0), none),
  (81, .iload_n 2, 1, (0, 0, 0, 0), none),
  (82, .invokevirtual 265, 3, (112, 3, 1, 15), none),
  (85, .ireturn, 1, (0, 0, 0, 0), none),
  (86, .aload_n 0, 1, (0, 0, 0, 0), none),
  (87, .invokevirtual 48, 3, (84, 1, 0, 15), none),
  (90, .aload_n 0, 1, (0, 0, 0, 0), none),
  (91, .iconst 4, 1, (0, 0, 0, 0), none),
  (92, .putfield 204, 3, (15, 10, 0, 0), none),
  (95, .aload_n 0, 1, (0, 0, 0, 0), none),
  (96, .getfield 32, 3, (15, 3, 2, 0), none),
  (99, .iconst 4, 1, (0, 0, 0, 0), none),
  (100, .iconst 0, 1, (0, 0, 0, 0), none),
  (101, .iload_n 2, 1, (0, 0, 0, 0), none),
  (102, .invokevirtual 63, 3, (13, 4, 1, 10), none),
  (105, .pop, 1, (0, 0, 0, 0), none),
  (106, .bipush 37, 2, (0, 0, 0, 0), none),
  (108, .ireturn, 1, (0, 0, 0, 0), none),
  (109, .aload_n 0, 1, (0, 0, 0, 0), none),
  (110, .getfield 67, 3, (15, 9, 0, 0), none),
  (113, .bipush 40, 2, (0, 0, 0, 0), none),
  (115, .if_icmp .ne 11, 3, (0, 0, 0, 0), none),
  (118, .aload_n 0, 1, (0, 0, 0, 0), none),
  (119, .iload_n 1, 1, (0, 0, 0, 0), none),
  (120, .invokevirtual 270, 3, (114, 2, 1, 15), none),
  (123, .goto 7, 3, (0, 0, 0, 0), none),
  (126, .aload_n 0, 1, (0, 0, 0, 0), none),
  (127, .invokevirtual 273, 3, (113, 1, 1, 15), none),
  (130, .ireturn, 1, (0, 0, 0, 0), none),
  (131, .aload_n 0, 1, (0, 0, 0, 0), none),
  (132, .iload_n 1, 1, (0, 0, 0, 0), none),
  (133, .invokevirtual 276, 3, (116, 2, 1, 15), none),
  (136, .ireturn, 1, (0, 0, 0, 0), none),
  (137, .aload_n 0, 1, (0, 0, 0, 0), none),
  (138, .bipush 40, 2, (0, 0, 0, 0), none),
  (140, .iload_n 1, 1, (0, 0, 0, 0), none),
  (141, .invokevirtual 216, 3, (87, 3, 0, 15), none),
  (144, .aload_n 0, 1, (0, 0, 0, 0), none),
  (145, .iload_n 1, 1, (0, 0, 0, 0), none),
  (146, .iconst 1, 1, (0, 0, 0, 0), none),
  (147, .iadd, 1, (0, 0, 0, 0), none),
  (148, .invokevirtual 190, 3, (106, 2, 1, 15), none),
  (151, .istore_n 3, 1, (0, 0, 0, 0), none),
  (152, .aload_n 0, 1, (0, 0, 0, 0), none),
  (153, .bipush 41, 2, (0, 0, 0, 0), none),
  (155, .invokevirtual 94, 3, (86, 2, 0, 15), none),
  (158, .aload_n 0, 1, (0, 0, 0, 0), none),
  (159, .iconst 4, 1, (0, 0, 0, 0), none),
  (160, .putfield 204, 3, (15, 10, 0, 0), none),
  (163, .iload_n 3, 1, (0, 0, 0, 0), none),
  (164, .ireturn, 1, (0, 0, 0, 0), none),
  (165, .aload_n 0, 1, (0, 0, 0, 0), none),
  (166, .iconst 1, 1, (0, 0, 0, 0), none),
  (167, .aload_n 0, 1, (0, 0, 0, 0), none),
  (168, .getfield 70, 3, (15, 7, 0, 0), none),
  (171, .invokevirtual 90, 3, (83, 3, 0, 15), none),
  (174, .bipush 38, 2, (0, 0, 0, 0), none),
  (176, .ireturn, 1, (0, 0, 0, 0), none)]
def cd_X5_readNumber : List sm_E := [(0, .iload_n 1, 1, (0, 0, 0, 0), none),
  (1, .aload_n 0, 1, (0, 0, 0, 0), none),
  (2, .getfield 86, 3, (15, 8, 1, 0), none),
  (5, .l2i, 1, (0, 0, 0, 0), none),
  (6, .imul, 1, (0, 0, 0, 0), none),
  (7, .istore_n 3, 1, (0, 0, 0, 0), none),
  (8, .aload_n 0, 1, (0, 0, 0, 0), none),
  (9, .iconst 4, 1, (0, 0, 0, 0), none),
  (10, .invokevirtual 94, 3, (86, 2, 0, 15), none),
  (13, .aload_n 0, 1, (0, 0, 0, 0), none),
  (14, .getfield 32, 3, (15, 3, 2, 0), none),
  (17, .iconst 4, 1, (0, 0, 0, 0), none),
  (18, .iload_n 3, 1, (0, 0, 0, 0), none),
  (19, .iload_n 2, 1, (0, 0, 0, 0), none),
  (20, .invokevirtual 63, 3, (13, 4, 1, 10), none),
  (23, .pop, 1, (0, 0, 0, 0), none),
  (24, .aload_n 0, 1, (0, 0, 0, 0), none),
  (25, .iconst 4, 1, (0, 0, 0, 0), none),
  (26, .putfield 204, 3, (15, 10, 0, 0), none),
  (29, .bipush 36, 2, (0, 0, 0, 0), none),
  (31, .ireturn, 1, (0, 0, 0, 0), none)]
def cd_X5_readValueOfName : List sm_E := [(0, .aload_n 0, 1, (0, 0, 0, 0), none),
  (1, .getfield 12, 3, (15, 1, 14, 0), none),
  (4, .aload_n 0, 1, (0, 0, 0, 0), none),
  (5, .getfield 86, 3, (15, 8, 1, 0), none),
  (8, .invokevirtual 141, 3, (79, 2, 1, 14), none),
  (11, .istore_n 1, 1, (0, 0, 0, 0), none),
  (12, .iload_n 1, 1, (0, 0, 0, 0), none),
  (13, .iconst (-1), 1, (0, 0, 0, 0), none),
  (14, .if_icmp .ne 12, 3, (0, 0, 0, 0), none),
  (17, .aload_n 0, 1, (0, 0, 0, 0), none),
  (18, .iconst 2, 1, (0, 0, 0, 0), none),
  (19, .aload_n 0, 1, (0, 0, 0, 0), none),
  (20, .getfield 70, 3, (15, 7, 0, 0), none),
  (23, .invokevirtual 90, 3, (83, 3, 0, 15), none),
  (26, .aload_n 0, 1, (0, 0, 0, 0), some [0, 1]),
  (27, .getfield 32, 3, (15, 3, 2, 0), none),
  (30, .iconst 5, 1, (0, 0, 0, 0), none),
  (31, .iload_n 1, 1, (0, 0, 0, 0), none),
  (32, .aload_n 0, 1, (0, 0, 0, 0), none),
  (33, .getfield 70, 3, (15, 7, 0, 0), none),
  (36, .invokevirtual 63, 3, (13, 4, 1, 10), none),
  (39, .pop, 1, (0, 0, 0, 0), none),
  (40, .aload_n 0, 1, (0, 0, 0, 0), none),
  (41, .invokevirtual 48, 3, (84, 1, 0, 15), none),
  (44, .aload_n 0, 1, (0, 0, 0, 0), none),
  (45, .iconst 0, 1, (0, 0, 0, 0), none),
  (46, .putfield 204, 3, (15, 10, 0, 0), none),
  (49, .aload_n 0, 1, (0, 0, 0, 0), none),
  (50, .getfield 12, 3, (15, 1, 14, 0), none),
  (53, .iload_n 1, 1, (0, 0, 0, 0), none),
  (54, .invokevirtual 279, 3, (80, 2, 1, 14), none),
  (57, .ireturn, 1, (0, 0, 0, 0), none)]
def cd_X5_readCall : List sm_E := [(0, .aload_n 0, 1, (0, 0, 0, 0), none),
  (1, .getfield 70, 3, (15, 7, 0, 0), none),
  (4, .istore_n 2, 1, (0, 0, 0, 0), none),
  (5, .aload_n 0, 1, (0, 0, 0, 0), none),
  (6, .aload_n 0, 1, (0, 0, 0, 0), none),
  (7, .getfield 86, 3, (15, 8, 1, 0), none),
  (10, .invokevirtual 114, 3, (90, 2, 1, 15), none),
  (13, .istore_n 3, 1, (0, 0, 0, 0), none),
  (14, .iload_n 3, 1, (0, 0, 0, 0), none),
  (15, .iconst (-1), 1, (0, 0, 0, 0), none),
  (16, .if_icmp .ne 12, 3, (0, 0, 0, 0), none),
  (19, .aload_n 0, 1, (0, 0, 0, 0), none),
  (20, .iconst 2, 1, (0, 0, 0, 0), none),
  (21, .aload_n 0, 1, (0, 0, 0, 0), none),
  (22, .getfield 70, 3, (15, 7, 0, 0), none),
  (25, .invokevirtual 90, 3, (83, 3, 0, 15), none),
  (28, .aload_n 0, 1, (0, 0, 0, 0), some [0, 1, 2, 3]),
  (29, .invokevirtual 48, 3, (84, 1, 0, 15), none),
  (32, .aload_n 0, 1, (0, 0, 0, 0), none),
  (33, .bipush 40, 2, (0, 0, 0, 0), none),
  (35, .iload_n 1, 1, (0, 0, 0, 0), none),
  (36, .invokevirtual 216, 3, (87, 3, 0, 15), none),
  (39, .iconst 0, 1, (0, 0, 0, 0), none),
  (40, .istore 4, 2, (0, 0, 0, 0), none),
  (42, .aload_n 0, 1, (0, 0, 0, 0), none),
  (43, .getfield 51, 3, (15, 6, 0, 0), none),
  (46, .bipush 41, 2, (0, 0, 0, 0), none),
  (48, .if_icmp .eq 59, 3, (0, 0, 0, 0), none),
  (51, .aload_n 0, 1, (0, 0, 0, 0), none),
  (52, .iload_n 3, 1, (0, 0, 0, 0), none),
  (53, .iload 4, 2, (0, 0, 0, 0), none),
  (55, .iload_n 1, 1, (0, 0, 0, 0), none),
  (56, .iconst 1, 1, (0, 0, 0, 0), none),
  (57, .iadd, 1, (0, 0, 0, 0), none),
  (58, .invokevirtual 282, 3, (115, 4, 0, 15), none),
  (61, .iinc 4 1, 3, (0, 0, 0, 0), none),
  (64, .iconst 0, 1, (0, 0, 0, 0), none),
  (65, .istore 5, 2, (0, 0, 0, 0), none),
  (67, .iload 5, 2, (0, 0, 0, 0), some [0, 1, 2, 3, 4, 5]),
  (69, .sipush 800, 3, (0, 0, 0, 0), none),
  (72, .if_icmp .gt 35, 3, (0, 0, 0, 0), none),
  (75, .aload_n 0, 1, (0, 0, 0, 0), none),
  (76, .getfield 51, 3, (15, 6, 0, 0), none),
  (79, .bipush 44, 2, (0, 0, 0, 0), none),
  (81, .if_icmp .ne 26, 3, (0, 0, 0, 0), none),
  (84, .aload_n 0, 1, (0, 0, 0, 0), none),
  (85, .invokevirtual 48, 3, (84, 1, 0, 15), none),
  (88, .aload_n 0, 1, (0, 0, 0, 0), none),
  (89, .iload_n 3, 1, (0, 0, 0, 0), none),
  (90, .iload 4, 2, (0, 0, 0, 0), none),
  (92, .iload_n 1, 1, (0, 0, 0, 0), none),
  (93, .iconst 1, 1, (0, 0, 0, 0), none),
  (94, .iadd, 1, (0, 0, 0, 0), none),
  (95, .invokevirtual 282, 3, (115, 4, 0, 15), none),
  (98, .iinc 4 1, 3, (0, 0, 0, 0), none),
  (101, .iinc 5 1, 3, (0, 0, 0, 0), none),
  (104, .goto (-37), 3, (0, 0, 0, 0), none),
  (107, .aload_n 0, 1, (0, 0, 0, 0), some [0, 2, 3, 4]),
  (108, .bipush 41, 2, (0, 0, 0, 0), none),
  (110, .iload 4, 2, (0, 0, 0, 0), none),
  (112, .aload_n 0, 1, (0, 0, 0, 0), none),
  (113, .getfield 32, 3, (15, 3, 2, 0), none),
  (116, .iload_n 3, 1, (0, 0, 0, 0), none),
  (117, .invokevirtual 127, 3, (8, 2, 1, 10), none),
  (120, .if_icmp .lt 7, 3, (0, 0, 0, 0), none),
  (123, .iconst 1, 1, (0, 0, 0, 0), none),
  (124, .goto 4, 3, (0, 0, 0, 0), none),
  (127, .iconst 0, 1, (0, 0, 0, 0), none),
  (128, .invokevirtual 197, 3, (85, 3, 0, 15), some [0, 2, 3]),
  (131, .iload_n 3, 1, (0, 0, 0, 0), none),
  (132, .iconst 5, 1, (0, 0, 0, 0), none),
  (133, .if_icmp .ge 20, 3, (0, 0, 0, 0), none),
  (136, .aload_n 0, 1, (0, 0, 0, 0), none),
  (137, .getfield 32, 3, (15, 3, 2, 0), none),
  (140, .bipush 28, 2, (0, 0, 0, 0), none),
  (142, .iload_n 3, 1, (0, 0, 0, 0), none),
  (143, .iadd, 1, (0, 0, 0, 0), none),
  (144, .iconst 0, 1, (0, 0, 0, 0), none),
  (145, .iload_n 2, 1, (0, 0, 0, 0), none),
  (146, .invokevirtual 63, 3, (13, 4, 1, 10), none),
  (149, .pop, 1, (0, 0, 0, 0), none),
  (150, .goto 15, 3, (0, 0, 0, 0), none),
  (153, .aload_n 0, 1, (0, 0, 0, 0), none),
  (154, .getfield 32, 3, (15, 3, 2, 0), none),
  (157, .bipush 27, 2, (0, 0, 0, 0), none),
  (159, .iload_n 3, 1, (0, 0, 0, 0), none),
  (160, .iload_n 2, 1, (0, 0, 0, 0), none),
  (161, .invokevirtual 63, 3, (13, 4, 1, 10), none),
  (164, .pop, 1, (0, 0, 0, 0), none),
  (165, .aload_n 0, 1, (0, 0, 0, 0), none),
  (166, .iconst 1, 1, (0, 0, 0, 0), none),
  (167, .putfield 204, 3, (15, 10, 0, 0), none),
  (170, .aload_n 0, 1, (0, 0, 0, 0), none),
  (171, .getfield 32, 3, (15, 3, 2, 0), none),
  (174, .iload_n 3, 1, (0, 0, 0, 0), none),
  (175, .invokevirtual 237, 3, (10, 2, 1, 10), none),
  (178, .ireturn, 1, (0, 0, 0, 0), none)]
def cd_X5_readArgument : List sm_E := [(0, .aload_n 0, 1, (0, 0, 0, 0), none),
  (1, .iload_n 3, 1, (0, 0, 0, 0), none),
  (2, .invokevirtual 190, 3, (106, 2, 1, 15), none),
  (5, .istore 4, 2, (0, 0, 0, 0), none),
  (7, .aload_n 0, 1, (0, 0, 0, 0), none),
  (8, .getfield 51, 3, (15, 6, 0, 0), none),
  (11, .bipush 44, 2, (0, 0, 0, 0), none),
  (13, .if_icmp .eq 12, 3, (0, 0, 0, 0), none),
  (16, .aload_n 0, 1, (0, 0, 0, 0), none),
  (17, .getfield 51, 3, (15, 6, 0, 0), none),
  (20, .bipush 41, 2, (0, 0, 0, 0), none),
  (22, .if_icmp .ne 7, 3, (0, 0, 0, 0), none),
  (25, .iconst 1, 1, (0, 0, 0, 0), none),
  (26, .goto 4, 3, (0, 0, 0, 0), none),
  (29, .iconst 0, 1, (0, 0, 0, 0), none),
  (30, .istore 5, 2, (0, 0, 0, 0), some [0, 1, 2, 4]),
  (32, .iload 5, 2, (0, 0, 0, 0), none),
  (34, .ifCond .eq 29, 3, (0, 0, 0, 0), none),
  (37, .iload 4, 2, (0, 0, 0, 0), none),
  (39, .aload_n 0, 1, (0, 0, 0, 0), none),
  (40, .getfield 32, 3, (15, 3, 2, 0), none),
  (43, .iload_n 1, 1, (0, 0, 0, 0), none),
  (44, .iload_n 2, 1, (0, 0, 0, 0), none),
  (45, .invokevirtual 286, 3, (9, 3, 1, 10), none),
  (48, .invokestatic 193, 3, (28, 2, 1, 0), none),
  (51, .ifCond .ne 12, 3, (0, 0, 0, 0), none),
  (54, .aload_n 0, 1, (0, 0, 0, 0), none),
  (55, .iconst 4, 1, (0, 0, 0, 0), none),
  (56, .aload_n 0, 1, (0, 0, 0, 0), none),
  (57, .getfield 70, 3, (15, 7, 0, 0), none),
  (60, .invokevirtual 90, 3, (83, 3, 0, 15), none),
  (63, .return_, 1, (0, 0, 0, 0), none)]
def cd_X5_readNew : List sm_E := [(0, .aload_n 0, 1, (0, 0, 0, 0), none),
  (1, .getfield 70, 3, (15, 7, 0, 0), none),
  (4, .istore_n 2, 1, (0, 0, 0, 0), none),
  (5, .aload_n 0, 1, (0, 0, 0, 0), none),
  (6, .invokevirtual 48, 3, (84, 1, 0, 15), none),
  (9, .aload_n 0, 1, (0, 0, 0, 0), none),
  (10, .getfield 86, 3, (15, 8, 1, 0), none),
  (13, .l2i, 1, (0, 0, 0, 0), none),
  (14, .istore_n 3, 1, (0, 0, 0, 0), none),
  (15, .aload_n 0, 1, (0, 0, 0, 0), none),
  (16, .getfield 51, 3, (15, 6, 0, 0), none),
  (19, .iconst 5, 1, (0, 0, 0, 0), none),
  (20, .if_icmp .ne 9, 3, (0, 0, 0, 0), none),
  (23, .iload_n 3, 1, (0, 0, 0, 0), none),
  (24, .bipush 36, 2, (0, 0, 0, 0), none),
  (26, .if_icmp .ne 12, 3, (0, 0, 0, 0), none),
  (29, .aload_n 0, 1, (0, 0, 0, 0), none),
  (30, .iconst 1, 1, (0, 0, 0, 0), none),
  (31, .aload_n 0, 1, (0, 0, 0, 0), none),
  (32, .getfield 70, 3, (15, 7, 0, 0), none),
  (35, .invokevirtual 90, 3, (83, 3, 0, 15), none),
  (38, .aload_n 0, 1, (0, 0, 0, 0), some [0, 1, 2, 3]),
  (39, .invokevirtual 48, 3, (84, 1, 0, 15), none),
  (42, .aload_n 0, 1, (0, 0, 0, 0), none),
  (43, .getfield 51, 3, (15, 6, 0, 0), none),
  (46, .bipush 40, 2, (0, 0, 0, 0), none),
  (48, .if_icmp .ne 42, 3, (0, 0, 0, 0), none),
  (51, .iload_n 3, 1, (0, 0, 0, 0), none),
  (52, .invokestatic 289, 3, (23, 1, 1, 0), none),
  (55, .ifCond .eq 35, 3, (0, 0, 0, 0), none),
  (58, .aload_n 0, 1, (0, 0, 0, 0), none),
  (59, .bipush 40, 2, (0, 0, 0, 0), none),
  (61, .iload_n 1, 1, (0, 0, 0, 0), none),
  (62, .invokevirtual 216, 3, (87, 3, 0, 15), none),
  (65, .aload_n 0, 1, (0, 0, 0, 0), none),
  (66, .bipush 41, 2, (0, 0, 0, 0), none),
  (68, .invokevirtual 94, 3, (86, 2, 0, 15), none),
  (71, .aload_n 0, 1, (0, 0, 0, 0), none),
  (72, .getfield 32, 3, (15, 3, 2, 0), none),
  (75, .bipush 20, 2, (0, 0, 0, 0), none),
  (77, .iload_n 3, 1, (0, 0, 0, 0), none),
  (78, .iload_n 2, 1, (0, 0, 0, 0), none),
  (79, .invokevirtual 63, 3, (13, 4, 1, 10), none),
  (82, .pop, 1, (0, 0, 0, 0), none),
  (83, .aload_n 0, 1, (0, 0, 0, 0), none),
  (84, .iconst 4, 1, (0, 0, 0, 0), none),
  (85, .putfield 204, 3, (15, 10, 0, 0), none),
  (88, .iload_n 3, 1, (0, 0, 0, 0), none),
  (89, .ireturn, 1, (0, 0, 0, 0), none),
  (90, .aload_n 0, 1, (0, 0, 0, 0), some [0, 1, 2, 3]),
  (91, .bipush 91, 2, (0, 0, 0, 0), none),
  (93, .iload_n 1, 1, (0, 0, 0, 0), none),
  (94, .invokevirtual 216, 3, (87, 3, 0, 15), none),
  (97, .aload_n 0, 1, (0, 0, 0, 0), none),
  (98, .iload_n 1, 1, (0, 0, 0, 0), none),
  (99, .iconst 1, 1, (0, 0, 0, 0), none),
  (100, .iadd, 1, (0, 0, 0, 0), none),
  (101, .invokevirtual 190, 3, (106, 2, 1, 15), none),
  (104, .istore 4, 2, (0, 0, 0, 0), none),
  (106, .aload_n 0, 1, (0, 0, 0, 0), none),
  (107, .bipush 93, 2, (0, 0, 0, 0), none),
  (109, .iload 4, 2, (0, 0, 0, 0), none),
  (111, .bipush 36, 2, (0, 0, 0, 0), none),
  (113, .if_icmp .ne 7, 3, (0, 0, 0, 0), none),
  (116, .iconst 1, 1, (0, 0, 0, 0), none),
  (117, .goto 4, 3, (0, 0, 0, 0), none),
  (120, .iconst 0, 1, (0, 0, 0, 0), none),
  (121, .invokevirtual 197, 3, (85, 3, 0, 15), some [0, 2, 3]),
  (124, .aload_n 0, 1, (0, 0, 0, 0), none),
  (125, .getfield 32, 3, (15, 3, 2, 0), none),
  (128, .bipush 21, 2, (0, 0, 0, 0), none),
  (130, .iload_n 3, 1, (0, 0, 0, 0), none),
  (131, .iload_n 2, 1, (0, 0, 0, 0), none),
  (132, .invokevirtual 63, 3, (13, 4, 1, 10), none),
  (135, .pop, 1, (0, 0, 0, 0), none),
  (136, .aload_n 0, 1, (0, 0, 0, 0), none),
  (137, .iconst 4, 1, (0, 0, 0, 0), none),
  (138, .putfield 204, 3, (15, 10, 0, 0), none),
  (141, .bipush 18, 2, (0, 0, 0, 0), none),
  (143, .iload_n 3, 1, (0, 0, 0, 0), none),
  (144, .iadd, 1, (0, 0, 0, 0), none),
  (145, .ireturn, 1, (0, 0, 0, 0), none)]
def cd_X5_readIndex : List sm_E := [(0, .aload_n 0, 1, (0, 0, 0, 0), none),
  (1, .getfield 70, 3, (15, 7, 0, 0), none),
  (4, .istore_n 3, 1, (0, 0, 0, 0), none),
  (5, .aload_n 0, 1, (0, 0, 0, 0), none),
  (6, .bipush 91, 2, (0, 0, 0, 0), none),
  (8, .iload_n 2, 1, (0, 0, 0, 0), none),
  (9, .invokevirtual 216, 3, (87, 3, 0, 15), none),
  (12, .aload_n 0, 1, (0, 0, 0, 0), none),
  (13, .iload_n 2, 1, (0, 0, 0, 0), none),
  (14, .iconst 1, 1, (0, 0, 0, 0), none),
  (15, .iadd, 1, (0, 0, 0, 0), none),
  (16, .invokevirtual 190, 3, (106, 2, 1, 15), none),
  (19, .istore 4, 2, (0, 0, 0, 0), none),
  (21, .aload_n 0, 1, (0, 0, 0, 0), none),
  (22, .bipush 93, 2, (0, 0, 0, 0), none),
  (24, .iload_n 1, 1, (0, 0, 0, 0), none),
  (25, .invokestatic 292, 3, (25, 1, 1, 0), none),
  (28, .ifCond .eq 14, 3, (0, 0, 0, 0), none),
  (31, .iload 4, 2, (0, 0, 0, 0), none),
  (33, .bipush 36, 2, (0, 0, 0, 0), none),
  (35, .if_icmp .ne 7, 3, (0, 0, 0, 0), none),
  (38, .iconst 1, 1, (0, 0, 0, 0), none),
  (39, .goto 4, 3, (0, 0, 0, 0), none),
  (42, .iconst 0, 1, (0, 0, 0, 0), none),
  (43, .invokevirtual 197, 3, (85, 3, 0, 15), some [0, 1, 3]),
  (46, .aload_n 0, 1, (0, 0, 0, 0), none),
  (47, .getfield 32, 3, (15, 3, 2, 0), none),
  (50, .bipush 15, 2, (0, 0, 0, 0), none),
  (52, .iconst 0, 1, (0, 0, 0, 0), none),
  (53, .iload_n 3, 1, (0, 0, 0, 0), none),
  (54, .invokevirtual 63, 3, (13, 4, 1, 10), none),
  (57, .pop, 1, (0, 0, 0, 0), none),
  (58, .aload_n 0, 1, (0, 0, 0, 0), none),
  (59, .iconst 2, 1, (0, 0, 0, 0), none),
  (60, .putfield 204, 3, (15, 10, 0, 0), none),
  (63, .iload_n 1, 1, (0, 0, 0, 0), none),
  (64, .bipush 18, 2, (0, 0, 0, 0), none),
  (66, .isub, 1, (0, 0, 0, 0), none),
  (67, .ireturn, 1, (0, 0, 0, 0), none)]
def cd_X5_readMember : List sm_E := [(0, .aload_n 0, 1, (0, 0, 0, 0), none),
  (1, .invokevirtual 48, 3, (84, 1, 0, 15), none),
  (4, .aload_n 0, 1, (0, 0, 0, 0), none),
  (5, .getfield 70, 3, (15, 7, 0, 0), none),
  (8, .istore_n 2, 1, (0, 0, 0, 0), none),
  (9, .aload_n 0, 1, (0, 0, 0, 0), none),
  (10, .getfield 51, 3, (15, 6, 0, 0), none),
  (13, .sipush 214, 3, (0, 0, 0, 0), none),
  (16, .if_icmp .ne 34, 3, (0, 0, 0, 0), none),
  (19, .aload_n 0, 1, (0, 0, 0, 0), none),
  (20, .sipush 214, 3, (0, 0, 0, 0), none),
  (23, .iload_n 1, 1, (0, 0, 0, 0), none),
  (24, .invokestatic 292, 3, (25, 1, 1, 0), none),
  (27, .invokevirtual 197, 3, (85, 3, 0, 15), none),
  (30, .aload_n 0, 1, (0, 0, 0, 0), none),
  (31, .getfield 32, 3, (15, 3, 2, 0), none),
  (34, .bipush 19, 2, (0, 0, 0, 0), none),
  (36, .iconst 0, 1, (0, 0, 0, 0), none),
  (37, .iload_n 2, 1, (0, 0, 0, 0), none),
  (38, .invokevirtual 63, 3, (13, 4, 1, 10), none),
  (41, .pop, 1, (0, 0, 0, 0), none),
  (42, .aload_n 0, 1, (0, 0, 0, 0), none),
  (43, .iconst 4, 1, (0, 0, 0, 0), none),
  (44, .putfield 204, 3, (15, 10, 0, 0), none),
  (47, .bipush 36, 2, (0, 0, 0, 0), none),
  (49, .ireturn, 1, (0, 0, 0, 0), none),
  (50, .ldc_w 295, 3, (1, 4, 0, 0), none),
  (53, .aload_n 0, 1, (0, 0, 0, 0), none),
  (54, .getfield 86, 3, (15, 8, 1, 0), none),
  (57, .invokestatic 123, 3, (133, 2, 1, 0), none),
  (60, .istore_n 3, 1, (0, 0, 0, 0), none),
  (61, .aload_n 0, 1, (0, 0, 0, 0), none),
  (62, .getfield 51, 3, (15, 6, 0, 0), none),
  (65, .iconst 3, 1, (0, 0, 0, 0), none),
  (66, .if_icmp .eq 15, 3, (0, 0, 0, 0), none),
  (69, .aload_n 0, 1, (0, 0, 0, 0), none),
  (70, .iconst 1, 1, (0, 0, 0, 0), none),
  (71, .aload_n 0, 1, (0, 0, 0, 0), none),
  (72, .getfield 70, 3, (15, 7, 0, 0), none),
  (75, .invokevirtual 90, 3, (83, 3, 0, 15), none),
  (78, .goto 53, 3, (0, 0, 0, 0), none),
  (81, .iload_n 3, 1, (0, 0, 0, 0), none),
  (82, .ifCond .lt 11, 3, (0, 0, 0, 0), none),
  (85, .iload_n 3, 1, (0, 0, 0, 0), none),
  (86, .getstatic 297, 3, (1, 4, 0, 0), none),
  (89, .arraylength, 1, (6, 0, 0, 0), none),
  (90, .if_icmp .lt 15, 3, (0, 0, 0, 0), none),
  (93, .aload_n 0, 1, (0, 0, 0, 0), none),
  (94, .iconst 2, 1, (0, 0, 0, 0), none),
  (95, .aload_n 0, 1, (0, 0, 0, 0), none),
  (96, .getfield 70, 3, (15, 7, 0, 0), none),
  (99, .invokevirtual 90, 3, (83, 3, 0, 15), none),
  (102, .goto 29, 3, (0, 0, 0, 0), none),
  (105, .aload_n 0, 1, (0, 0, 0, 0), none),
  (106, .iconst 3, 1, (0, 0, 0, 0), none),
  (107, .iload_n 1, 1, (0, 0, 0, 0), none),
  (108, .getstatic 297, 3, (1, 4, 0, 0), none),
  (111, .iload_n 3, 1, (0, 0, 0, 0), none),
  (112, .iaload, 1, (6, 0, 0, 0), none),
  (113, .invokestatic 193, 3, (28, 2, 1, 0), none),
  (116, .invokevirtual 197, 3, (85, 3, 0, 15), none),
  (119, .aload_n 0, 1, (0, 0, 0, 0), none),
  (120, .getfield 32, 3, (15, 3, 2, 0), none),
  (123, .bipush 17, 2, (0, 0, 0, 0), none),
  (125, .iload_n 3, 1, (0, 0, 0, 0), none),
  (126, .iload_n 2, 1, (0, 0, 0, 0), none),
  (127, .invokevirtual 63, 3, (13, 4, 1, 10), none),
  (130, .pop, 1, (0, 0, 0, 0), none),
  (131, .aload_n 0, 1, (0, 0, 0, 0), some [0, 3]),
  (132, .iconst 3, 1, (0, 0, 0, 0), none),
  (133, .putfield 204, 3, (15, 10, 0, 0), none),
  (136, .iload_n 3, 1, (0, 0, 0, 0), none),
  (137, .iconst 1, 1, (0, 0, 0, 0), none),
  (138, .if_icmp .ne 7, 3, (0, 0, 0, 0), none),
  (141, .iconst 0, 1, (0, 0, 0, 0), none),
  (142, .goto 5, 3, (0, 0, 0, 0), none),
  (145, .bipush 36, 2, (0, 0, 0, 0), none),
  (147, .ireturn, 1, (0, 0, 0, 0), none)]
def cd_X5_readAsked : List sm_E := [(0, .aload_n 0, 1, (0, 0, 0, 0), none),
  (1, .getfield 51, 3, (15, 6, 0, 0), none),
  (4, .sipush 213, 3, (0, 0, 0, 0), none),
  (7, .if_icmp .ne 7, 3, (0, 0, 0, 0), none),
  (10, .iconst 1, 1, (0, 0, 0, 0), none),
  (11, .goto 4, 3, (0, 0, 0, 0), none),
  (14, .iconst 0, 1, (0, 0, 0, 0), none),
  (15, .istore_n 2, 1, (0, 0, 0, 0), some [0, 1]),
  (16, .aload_n 0, 1, (0, 0, 0, 0), none),
  (17, .getfield 70, 3, (15, 7, 0, 0), none),
  (20, .istore_n 3, 1, (0, 0, 0, 0), none),
  (21, .aload_n 0, 1, (0, 0, 0, 0), none),
  (22, .invokevirtual 48, 3, (84, 1, 0, 15), none),
  (25, .aload_n 0, 1, (0, 0, 0, 0), none),
  (26, .invokevirtual 152, 3, (94, 1, 1, 15), none),
  (29, .istore 4, 2, (0, 0, 0, 0), none),
  (31, .iload_n 1, 1, (0, 0, 0, 0), none),
  (32, .iload 4, 2, (0, 0, 0, 0), none),
  (34, .invokestatic 300, 3, (29, 2, 1, 0), none),
  (37, .ifCond .ne 12, 3, (0, 0, 0, 0), none),
  (40, .aload_n 0, 1, (0, 0, 0, 0), none),
  (41, .iconst 4, 1, (0, 0, 0, 0), none),
  (42, .aload_n 0, 1, (0, 0, 0, 0), none),
  (43, .getfield 70, 3, (15, 7, 0, 0), none),
  (46, .invokevirtual 90, 3, (83, 3, 0, 15), none),
  (49, .aload_n 0, 1, (0, 0, 0, 0), some [0, 2, 3, 4]),
  (50, .invokevirtual 48, 3, (84, 1, 0, 15), none),
  (53, .aload_n 0, 1, (0, 0, 0, 0), none),
  (54, .getfield 32, 3, (15, 3, 2, 0), none),
  (57, .iload_n 2, 1, (0, 0, 0, 0), none),
  (58, .ifCond .eq 8, 3, (0, 0, 0, 0), none),
  (61, .bipush 13, 2, (0, 0, 0, 0), none),
  (63, .goto 5, 3, (0, 0, 0, 0), none),
  (66, .bipush 14, 2, (0, 0, 0, 0), none),
  (68, .iload 4, 2, (0, 0, 0, 0), some [0, 2, 3, 4]),
  (70, .iload_n 3, 1, (0, 0, 0, 0), none),
  (71, .invokevirtual 63, 3, (13, 4, 1, 10), none),
  (74, .pop, 1, (0, 0, 0, 0), none),
  (75, .aload_n 0, 1, (0, 0, 0, 0), none),
  (76, .iconst 4, 1, (0, 0, 0, 0), none),
  (77, .putfield 204, 3, (15, 10, 0, 0), none),
  (80, .iload_n 2, 1, (0, 0, 0, 0), none),
  (81, .ifCond .eq 8, 3, (0, 0, 0, 0), none),
  (84, .iload 4, 2, (0, 0, 0, 0), none),
  (86, .goto 5, 3, (0, 0, 0, 0), none),
  (89, .bipush 36, 2, (0, 0, 0, 0), none),
  (91, .ireturn, 1, (0, 0, 0, 0), none)]
def cd_X6_init : List sm_E := [(0, .aload_n 0, 1, (0, 0, 0, 0), none),
  (1, .invokespecial 1, 3, (0, 0, 0, 1002), none),
  (4, .aload_n 0, 1, (0, 0, 0, 0), none),
  (5, .iload_n 1, 1, (0, 0, 0, 0), none),
  (6, .putfield 7, 3, (16, 0, 0, 0), none),
  (9, .aload_n 0, 1, (0, 0, 0, 0), none),
  (10, .iload_n 2, 1, (0, 0, 0, 0), none),
  (11, .putfield 13, 3, (16, 1, 0, 0), none),
  (14, .aload_n 0, 1, (0, 0, 0, 0), none),
  (15, .iconst 0, 1, (0, 0, 0, 0), none),
  (16, .iload_n 3, 1, (0, 0, 0, 0), none),
  (17, .invokestatic 16, 3, (306, 2, 1, 0), none),
  (20, .putfield 22, 3, (16, 2, 0, 0), none),
  (23, .aload_n 0, 1, (0, 0, 0, 0), none),
  (24, .aload_n 0, 1, (0, 0, 0, 0), none),
  (25, .getfield 22, 3, (16, 2, 0, 0), none),
  (28, .anewarray 25, 3, (51, 0, 0, 0), none),
  (31, .putfield 27, 3, (16, 3, 2, 0), none),
  (34, .return_, 1, (0, 0, 0, 0), none)]
def cd_X6_hasPlace : List sm_E := [(0, .iload_n 1, 1, (0, 0, 0, 0), none),
  (1, .ifCond .lt 15, 3, (0, 0, 0, 0), none),
  (4, .iload_n 1, 1, (0, 0, 0, 0), none),
  (5, .aload_n 0, 1, (0, 0, 0, 0), none),
  (6, .getfield 22, 3, (16, 2, 0, 0), none),
  (9, .if_icmp .ge 7, 3, (0, 0, 0, 0), none),
  (12, .iconst 1, 1, (0, 0, 0, 0), none),
  (13, .goto 4, 3, (0, 0, 0, 0), none),
  (16, .iconst 0, 1, (0, 0, 0, 0), none),
  (17, .ireturn, 1, (1, 0, 0, 0), none)]
def cd_X6_vehicleAt : List sm_E := [(0, .aload_n 0, 1, (0, 0, 0, 0), none),
  (1, .iload_n 1, 1, (0, 0, 0, 0), none),
  (2, .invokevirtual 31, 3, (121, 2, 1, 16), none),
  (5, .ifCond .eq 12, 3, (0, 0, 0, 0), none),
  (8, .aload_n 0, 1, (0, 0, 0, 0), none),
  (9, .getfield 27, 3, (16, 3, 2, 0), none),
  (12, .iload_n 1, 1, (0, 0, 0, 0), none),
  (13, .aaload, 1, (51, 0, 0, 0), none),
  (14, .goto 4, 3, (0, 0, 0, 0), none),
  (17, .aconst_null, 1, (0, 0, 0, 0), none),
  (18, .areturn, 1, (0, 0, 0, 0), none)]
def cd_X6_put : List sm_E := [(0, .aload_n 0, 1, (0, 0, 0, 0), none),
  (1, .iload_n 1, 1, (0, 0, 0, 0), none),
  (2, .invokevirtual 31, 3, (121, 2, 1, 16), none),
  (5, .ifCond .eq 10, 3, (0, 0, 0, 0), none),
  (8, .aload_n 0, 1, (0, 0, 0, 0), none),
  (9, .getfield 27, 3, (16, 3, 2, 0), none),
  (12, .iload_n 1, 1, (0, 0, 0, 0), none),
  (13, .aload_n 2, 1, (0, 0, 0, 0), none),
  (14, .aastore, 1, (51, 0, 19, 0), none),
  (15, .return_, 1, (0, 0, 0, 0), none)]
def cd_X6_takes : List sm_E := [(0, .aload_n 1, 1, (0, 0, 0, 0), none),
  (1, .ifnull 17, 3, (0, 0, 0, 0), none),
  (4, .aload_n 1, 1, (0, 0, 0, 0), none),
  (5, .getfield 35, 3, (19, 0, 0, 0), none),
  (8, .aload_n 0, 1, (0, 0, 0, 0), none),
  (9, .getfield 7, 3, (16, 0, 0, 0), none),
  (12, .invokestatic 38, 3, (27, 2, 1, 0), none),
  (15, .ifCond .eq 7, 3, (0, 0, 0, 0), none),
  (18, .iconst 1, 1, (0, 0, 0, 0), none),
  (19, .goto 4, 3, (0, 0, 0, 0), none),
  (22, .iconst 0, 1, (0, 0, 0, 0), none),
  (23, .ireturn, 1, (1, 0, 0, 0), none)]
def cd_X6_humpInto : List sm_E := [(0, .iconst 0, 1, (0, 0, 0, 0), none),
  (1, .istore_n 2, 1, (0, 0, 0, 0), none),
  (2, .iconst 0, 1, (0, 0, 0, 0), none),
  (3, .istore_n 3, 1, (0, 0, 0, 0), none),
  (4, .iconst 0, 1, (0, 0, 0, 0), none),
  (5, .istore 4, 2, (0, 0, 0, 0), none),
  (7, .iload 4, 2, (0, 0, 0, 0), some [0, 1, 2, 3, 4]),
  (9, .aload_n 0, 1, (0, 0, 0, 0), none),
  (10, .getfield 22, 3, (16, 2, 0, 0), none),
  (13, .if_icmp .ge 72, 3, (0, 0, 0, 0), none),
  (16, .aload_n 0, 1, (0, 0, 0, 0), none),
  (17, .aload_n 1, 1, (0, 0, 0, 0), none),
  (18, .if_acmp .eq 67, 3, (0, 0, 0, 0), none),
  (21, .aload_n 0, 1, (0, 0, 0, 0), none),
  (22, .getfield 27, 3, (16, 3, 2, 0), none),
  (25, .iload 4, 2, (0, 0, 0, 0), none),
  (27, .aaload, 1, (51, 0, 0, 0), none),
  (28, .astore 5, 2, (0, 0, 0, 0), none),
  (30, .aload 5, 2, (0, 0, 0, 0), none),
  (32, .ifnull 47, 3, (0, 0, 0, 0), none),
  (35, .aload_n 1, 1, (0, 0, 0, 0), none),
  (36, .aload 5, 2, (0, 0, 0, 0), none),
  (38, .invokevirtual 44, 3, (124, 2, 1, 16), none),
  (41, .ifCond .eq 38, 3, (0, 0, 0, 0), none),
  (44, .aload_n 1, 1, (0, 0, 0, 0), none),
  (45, .iload_n 3, 1, (0, 0, 0, 0), none),
  (46, .invokevirtual 48, 3, (126, 2, 1, 16), none),
  (49, .istore_n 3, 1, (0, 0, 0, 0), none),
  (50, .aload_n 1, 1, (0, 0, 0, 0), none),
  (51, .iload_n 3, 1, (0, 0, 0, 0), none),
  (52, .invokevirtual 31, 3, (121, 2, 1, 16), none),
  (55, .ifCond .ne 6, 3, (0, 0, 0, 0), none),
  (58, .goto 27, 3, (0, 0, 0, 0), none),
  (61, .aload_n 1, 1, (0, 0, 0, 0), none),
  (62, .iload_n 3, 1, (0, 0, 0, 0), none),
  (63, .aload 5, 2, (0, 0, 0, 0), none),
  (65, .invokevirtual 52, 3, (123, 3, 0, 16), none),
  (68, .aload_n 0, 1, (0, 0, 0, 0), none),
  (69, .getfield 27, 3, (16, 3, 2, 0), none),
  (72, .iload 4, 2, (0, 0, 0, 0), none),
  (74, .aconst_null, 1, (0, 0, 0, 0), none),
  (75, .aastore, 1, (51, 0, 19, 0), none),
  (76, .iinc 2 1, 3, (0, 0, 0, 0), none),
  (79, .iinc 4 1, 3, (0, 0, 0, 0), none),
  (82, .goto (-75), 3, (0, 0, 0, 0), none),
  (85, .iload_n 2, 1, (0, 0, 0, 0), none),
  (86, .ireturn, 1, (0, 0, 0, 0), none)]
def cd_X6_firstFree : List sm_E := [(0, .iconst 0, 1, (0, 0, 0, 0), none),
  (1, .iload_n 1, 1, (0, 0, 0, 0), none),
  (2, .invokestatic 16, 3, (306, 2, 1, 0), none),
  (5, .istore_n 2, 1, (0, 0, 0, 0), none),
  (6, .iload_n 2, 1, (0, 0, 0, 0), some [0, 2]),
  (7, .aload_n 0, 1, (0, 0, 0, 0), none),
  (8, .getfield 22, 3, (16, 2, 0, 0), none),
  (11, .if_icmp .ge 20, 3, (0, 0, 0, 0), none),
  (14, .aload_n 0, 1, (0, 0, 0, 0), none),
  (15, .getfield 27, 3, (16, 3, 2, 0), none),
  (18, .iload_n 2, 1, (0, 0, 0, 0), none),
  (19, .aaload, 1, (51, 0, 0, 0), none),
  (20, .ifnonnull 5, 3, (0, 0, 0, 0), none),
  (23, .iload_n 2, 1, (0, 0, 0, 0), none),
  (24, .ireturn, 1, (0, 0, 0, 0), none),
  (25, .iinc 2 1, 3, (0, 0, 0, 0), none),
  (28, .goto (-22), 3, (0, 0, 0, 0), none),
  (31, .aload_n 0, 1, (0, 0, 0, 0), none),
  (32, .getfield 22, 3, (16, 2, 0, 0), none),
  (35, .ireturn, 1, (0, 0, 0, 0), none)]
def cd_X6_sum : List sm_E := [(0, .iconst 0, 1, (0, 0, 0, 0), none),
  (1, .istore_n 2, 1, (0, 0, 0, 0), none),
  (2, .iconst 0, 1, (0, 0, 0, 0), none),
  (3, .istore_n 3, 1, (0, 0, 0, 0), none),
  (4, .iload_n 3, 1, (0, 0, 0, 0), some [0, 1, 2, 3]),
  (5, .aload_n 0, 1, (0, 0, 0, 0), none),
  (6, .getfield 22, 3, (16, 2, 0, 0), none),
  (9, .if_icmp .ge 31, 3, (0, 0, 0, 0), none),
  (12, .aload_n 0, 1, (0, 0, 0, 0), none),
  (13, .getfield 27, 3, (16, 3, 2, 0), none),
  (16, .iload_n 3, 1, (0, 0, 0, 0), none),
  (17, .aaload, 1, (51, 0, 0, 0), none),
  (18, .astore 4, 2, (0, 0, 0, 0), none),
  (20, .aload 4, 2, (0, 0, 0, 0), none),
  (22, .ifnull 12, 3, (0, 0, 0, 0), none),
  (25, .iload_n 2, 1, (0, 0, 0, 0), none),
  (26, .aload 4, 2, (0, 0, 0, 0), none),
  (28, .iload_n 1, 1, (0, 0, 0, 0), none),
  (29, .invokevirtual 56, 3, (149, 2, 1, 19), none),
  (32, .iadd, 1, (0, 0, 0, 0), none),
  (33, .istore_n 2, 1, (0, 0, 0, 0), none),
  (34, .iinc 3 1, 3, (0, 0, 0, 0), none),
  (37, .goto (-33), 3, (0, 0, 0, 0), none),
  (40, .iload_n 2, 1, (0, 0, 0, 0), none),
  (41, .ireturn, 1, (0, 0, 0, 0), none)]
def cd_X6_burn : List sm_E := [(0, .iconst 0, 1, (0, 0, 0, 0), none),
  (1, .istore_n 1, 1, (0, 0, 0, 0), none),
  (2, .iload_n 1, 1, (0, 0, 0, 0), some [0, 1]),
  (3, .aload_n 0, 1, (0, 0, 0, 0), none),
  (4, .getfield 22, 3, (16, 2, 0, 0), none),
  (7, .if_icmp .ge 24, 3, (0, 0, 0, 0), none),
  (10, .aload_n 0, 1, (0, 0, 0, 0), none),
  (11, .getfield 27, 3, (16, 3, 2, 0), none),
  (14, .iload_n 1, 1, (0, 0, 0, 0), none),
  (15, .aaload, 1, (51, 0, 0, 0), none),
  (16, .astore_n 2, 1, (0, 0, 0, 0), none),
  (17, .aload_n 2, 1, (0, 0, 0, 0), none),
  (18, .ifnull 7, 3, (0, 0, 0, 0), none),
  (21, .aload_n 2, 1, (0, 0, 0, 0), none),
  (22, .invokevirtual 59, 3, (152, 1, 0, 19), none),
  (25, .iinc 1 1, 3, (0, 0, 0, 0), none),
  (28, .goto (-26), 3, (0, 0, 0, 0), none),
  (31, .return_, 1, (0, 0, 0, 0), none)]
def cd_X7_init : List sm_E := [(0, .aload_n 0, 1, (0, 0, 0, 0), none),
  (1, .invokespecial 3, 3, (0, 0, 0, 1002), none),
  (4, .aload_n 0, 1, (0, 0, 0, 0), none),
  (5, .sipush 3000, 3, (0, 0, 0, 0), none),
  (8, .newarray .byte, 2, (52, 3000, 0, 0), none),
  (10, .putfield 11, 3, (17, 0, 52, 0), none),
  (13, .aload_n 0, 1, (0, 0, 0, 0), none),
  (14, .sipush 802, 3, (0, 0, 0, 0), none),
  (17, .newarray .int, 2, (53, 802, 0, 0), none),
  (19, .putfield 15, 3, (17, 4, 53, 0), none),
  (22, .aload_n 0, 1, (0, 0, 0, 0), none),
  (23, .sipush 802, 3, (0, 0, 0, 0), none),
  (26, .newarray .int, 2, (54, 802, 0, 0), none),
  (28, .putfield 19, 3, (17, 5, 54, 0), none),
  (31, .aload_n 0, 1, (0, 0, 0, 0), none),
  (32, .sipush 802, 3, (0, 0, 0, 0), none),
  (35, .newarray .long, 2, (55, 802, 0, 0), none),
  (37, .putfield 22, 3, (17, 6, 55, 0), none),
  (40, .return_, 1, (0, 0, 0, 0), none)]
def cd_X7_hasRoom : List sm_E := [(0, .aload_n 0, 1, (0, 0, 0, 0), none),
  (1, .getfield 26, 3, (17, 1, 0, 0), none),
  (4, .bipush 20, 2, (0, 0, 0, 0), none),
  (6, .iadd, 1, (0, 0, 0, 0), none),
  (7, .sipush 3000, 3, (0, 0, 0, 0), none),
  (10, .if_icmp .gt 7, 3, (0, 0, 0, 0), none),
  (13, .iconst 1, 1, (0, 0, 0, 0), none),
  (14, .goto 4, 3, (0, 0, 0, 0), none),
  (17, .iconst 0, 1, (0, 0, 0, 0), none),
  (18, .ireturn, 1, (1, 0, 0, 0), none)]
def cd_X7_add : List sm_E := [(0, .bipush 24, 2, (0, 0, 0, 0), none),
  (2, .istore_n 2, 1, (0, 0, 0, 0), none),
  (3, .iload_n 2, 1, (0, 0, 0, 0), some [0, 1, 2]),
  (4, .ifCond .lt 42, 3, (0, 0, 0, 0), none),
  (7, .aload_n 0, 1, (0, 0, 0, 0), none),
  (8, .getfield 26, 3, (17, 1, 0, 0), none),
  (11, .sipush 3000, 3, (0, 0, 0, 0), none),
  (14, .if_icmp .ge 26, 3, (0, 0, 0, 0), none),
  (17, .aload_n 0, 1, (0, 0, 0, 0), none),
  (18, .getfield 11, 3, (17, 0, 52, 0), none),
  (21, .aload_n 0, 1, (0, 0, 0, 0), none),
  (22, .getfield 26, 3, (17, 1, 0, 0), none),
  (25, .iload_n 1, 1, (0, 0, 0, 0), none),
  (26, .iload_n 2, 1, (0, 0, 0, 0), none),
  (27, .ishr, 1, (0, 0, 0, 0), none),
  (28, .i2b, 1, (0, 0, 0, 0), none),
  (29, .bastore, 1, (52, 3000, 0, 0), none),
  (30, .aload_n 0, 1, (0, 0, 0, 0), none),
  (31, .dup, 1, (0, 0, 0, 0), none),
  (32, .getfield 26, 3, (17, 1, 0, 0), none),
  (35, .iconst 1, 1, (0, 0, 0, 0), none),
  (36, .iadd, 1, (0, 0, 0, 0), none),
  (37, .putfield 26, 3, (17, 1, 0, 0), none),
  (40, .iinc 2 (-8), 3, (0, 0, 0, 0), none),
  (43, .goto (-40), 3, (0, 0, 0, 0), none),
  (46, .return_, 1, (0, 0, 0, 0), none)]
def cd_X7_cut : List sm_E := [(0, .aload_n 0, 1, (0, 0, 0, 0), none),
  (1, .iload_n 1, 1, (0, 0, 0, 0), none),
  (2, .sipush 3000, 3, (0, 0, 0, 0), none),
  (5, .invokestatic 30, 3, (307, 2, 1, 0), none),
  (8, .putfield 36, 3, (17, 2, 0, 0), none),
  (11, .aload_n 0, 1, (0, 0, 0, 0), none),
  (12, .iconst 0, 1, (0, 0, 0, 0), none),
  (13, .putfield 39, 3, (17, 3, 0, 0), none),
  (16, .aload_n 0, 1, (0, 0, 0, 0), none),
  (17, .iconst 0, 1, (0, 0, 0, 0), none),
  (18, .putfield 42, 3, (17, 7, 0, 0), none),
  (21, .iconst 3, 1, (0, 0, 0, 0), none),
  (22, .istore_n 2, 1, (0, 0, 0, 0), none),
  (23, .iconst 0, 1, (0, 0, 0, 0), none),
  (24, .istore_n 3, 1, (0, 0, 0, 0), none),
  (25, .iload_n 3, 1, (0, 0, 0, 0), some [0, 2, 3]),
  (26, .sipush 802, 3, (0, 0, 0, 0), none),
  (29, .if_icmp .ge 44, 3, (0, 0, 0, 0), none),
  (32, .iload_n 2, 1, (0, 0, 0, 0), none),
  (33, .bipush 6, 2, (0, 0, 0, 0), none),
  (35, .if_icmp .eq 38, 3, (0, 0, 0, 0), none),
  (38, .iload_n 2, 1, (0, 0, 0, 0), none),
  (39, .bipush 7, 2, (0, 0, 0, 0), none),
  (41, .if_icmp .eq 32, 3, (0, 0, 0, 0), none),
  (44, .aload_n 0, 1, (0, 0, 0, 0), none),
  (45, .iload_n 3, 1, (0, 0, 0, 0), none),
  (46, .invokevirtual 45, 3, (139, 2, 1, 17), none),
  (49, .istore_n 2, 1, (0, 0, 0, 0), none),
  (50, .aload_n 0, 1, (0, 0, 0, 0), none),
  (51, .getfield 15, 3, (17, 4, 53, 0), none),
  (54, .iload_n 3, 1, (0, 0, 0, 0), none),
  (55, .iload_n 2, 1, (0, 0, 0, 0), none),
  (56, .iastore, 1, (53, 802, 0, 0), none),
  (57, .aload_n 0, 1, (0, 0, 0, 0), none),
  (58, .dup, 1, (0, 0, 0, 0), none),
  (59, .getfield 42, 3, (17, 7, 0, 0), none),
  (62, .iconst 1, 1, (0, 0, 0, 0), none),
  (63, .iadd, 1, (0, 0, 0, 0), none),
  (64, .putfield 42, 3, (17, 7, 0, 0), none),
  (67, .iinc 3 1, 3, (0, 0, 0, 0), none),
  (70, .goto (-45), 3, (0, 0, 0, 0), none),
  (73, .return_, 1, (0, 0, 0, 0), none)]
def cd_X7_indexIn : List sm_E := [(0, .lconst 0, 1, (0, 0, 0, 0), none),
  (1, .lstore_n 3, 1, (0, 0, 0, 0), none),
  (2, .iconst 0, 1, (0, 0, 0, 0), none),
  (3, .istore 5, 2, (0, 0, 0, 0), none),
  (5, .iconst 0, 1, (0, 0, 0, 0), none),
  (6, .istore 6, 2, (0, 0, 0, 0), none),
  (8, .iload 6, 2, (0, 0, 0, 0), some [0, 1, 3, 5, 6]),
  (10, .aload_n 0, 1, (0, 0, 0, 0), none),
  (11, .invokevirtual 49, 3, (294, 1, 1, 5), none),
  (14, .if_icmp .ge 48, 3, (0, 0, 0, 0), none),
  (17, .aload_n 0, 1, (0, 0, 0, 0), none),
  (18, .iload 6, 2, (0, 0, 0, 0), none),
  (20, .invokevirtual 54, 3, (295, 2, 1, 5), none),
  (23, .istore 7, 2, (0, 0, 0, 0), none),
  (25, .iload 7, 2, (0, 0, 0, 0), none),
  (27, .bipush 32, 2, (0, 0, 0, 0), none),
  (29, .if_icmp .eq 13, 3, (0, 0, 0, 0), none),
  (32, .lload_n 3, 1, (0, 0, 0, 0), none),
  (33, .iload 7, 2, (0, 0, 0, 0), none),
  (35, .invokestatic 58, 3, (134, 2, 2, 0), none),
  (38, .lstore_n 3, 1, (0, 0, 0, 0), none),
  (39, .goto 17, 3, (0, 0, 0, 0), none),
  (42, .lload_n 3, 1, (0, 0, 0, 0), none),
  (43, .lload_n 1, 1, (0, 0, 0, 0), none),
  (44, .lcmp, 1, (0, 0, 0, 0), none),
  (45, .ifCond .ne 6, 3, (0, 0, 0, 0), none),
  (48, .iload 5, 2, (0, 0, 0, 0), none),
  (50, .ireturn, 1, (0, 0, 0, 0), none),
  (51, .iinc 5 1, 3, (0, 0, 0, 0), none),
  (54, .lconst 0, 1, (0, 0, 0, 0), none),
  (55, .lstore_n 3, 1, (0, 0, 0, 0), none),
  (56, .iinc 6 1, 3, (0, 0, 0, 0), none),
  (59, .goto (-51), 3, (0, 0, 0, 0), none),
  (62, .iconst (-1), 1, (0, 0, 0, 0), none),
  (63, .ireturn, 1, (0, 0, 0, 0), none)]
def cd_X7_withSign : List sm_E := [(0, .lload_n 0, 1, (0, 0, 0, 0), none),
  (1, .bipush 7, 2, (0, 0, 0, 0), none),
  (3, .lshl, 1, (0, 0, 0, 0), none),
  (4, .iload_n 2, 1, (0, 0, 0, 0), none),
  (5, .i2l, 1, (0, 0, 0, 0), none),
  (6, .lor, 1, (0, 0, 0, 0), none),
  (7, .lreturn, 1, (0, 0, 0, 0), none)]
def cd_X7_isSmall : List sm_E := [(0, .iload_n 0, 1, (0, 0, 0, 0), none),
  (1, .bipush 97, 2, (0, 0, 0, 0), none),
  (3, .if_icmp .lt 13, 3, (0, 0, 0, 0), none),
  (6, .iload_n 0, 1, (0, 0, 0, 0), none),
  (7, .bipush 122, 2, (0, 0, 0, 0), none),
  (9, .if_icmp .gt 7, 3, (0, 0, 0, 0), none),
  (12, .iconst 1, 1, (0, 0, 0, 0), none),
  (13, .goto 4, 3, (0, 0, 0, 0), none),
  (16, .iconst 0, 1, (0, 0, 0, 0), none),
  (17, .ireturn, 1, (1, 0, 0, 0), none)]
def cd_X7_isCapital : List sm_E := [(0, .iload_n 0, 1, (0, 0, 0, 0), none),
  (1, .bipush 65, 2, (0, 0, 0, 0), none),
  (3, .if_icmp .lt 13, 3, (0, 0, 0, 0), none),
  (6, .iload_n 0, 1, (0, 0, 0, 0), none),
  (7, .bipush 90, 2, (0, 0, 0, 0), none),
  (9, .if_icmp .gt 7, 3, (0, 0, 0, 0), none),
  (12, .iconst 1, 1, (0, 0, 0, 0), none),
  (13, .goto 4, 3, (0, 0, 0, 0), none),
  (16, .iconst 0, 1, (0, 0, 0, 0), none),
  (17, .ireturn, 1, (1, 0, 0, 0), none)]
def cd_X7_isDigit : List sm_E := [(0, .iload_n 0, 1, (0, 0, 0, 0), none),
  (1, .bipush 48, 2, (0, 0, 0, 0), none),
  (3, .if_icmp .lt 13, 3, (0, 0, 0, 0), none),
  (6, .iload_n 0, 1, (0, 0, 0, 0), none),
  (7, .bipush 57, 2, (0, 0, 0, 0), none),
  (9, .if_icmp .gt 7, 3, (0, 0, 0, 0), none),
  (12, .iconst 1, 1, (0, 0, 0, 0), none),
  (13, .goto 4, 3, (0, 0, 0, 0), none),
  (16, .iconst 0, 1, (0, 0, 0, 0), none),
  (17, .ireturn, 1, (1, 0, 0, 0), none)]
def cd_X7_sign : List sm_E := [(0, .aload_n 0, 1, (0, 0, 0, 0), none),
  (1, .getfield 39, 3, (17, 3, 0, 0), none),
  (4, .ifCond .lt 30, 3, (0, 0, 0, 0), none),
  (7, .aload_n 0, 1, (0, 0, 0, 0), none),
  (8, .getfield 39, 3, (17, 3, 0, 0), none),
  (11, .aload_n 0, 1, (0, 0, 0, 0), none),
  (12, .getfield 36, 3, (17, 2, 0, 0), none),
  (15, .if_icmp .ge 19, 3, (0, 0, 0, 0), none),
  (18, .aload_n 0, 1, (0, 0, 0, 0), none),
  (19, .getfield 11, 3, (17, 0, 52, 0), none),
  (22, .aload_n 0, 1, (0, 0, 0, 0), none),
  (23, .getfield 39, 3, (17, 3, 0, 0), none),
  (26, .baload, 1, (52, 3000, 0, 0), none),
  (27, .sipush 255, 3, (0, 0, 0, 0), none),
  (30, .iand, 1, (0, 0, 0, 0), none),
  (31, .goto 4, 3, (0, 0, 0, 0), none),
  (34, .iconst 0, 1, (0, 0, 0, 0), none),
  (35, .ireturn, 1, (0, 0, 0, 0), none)]
def cd_X7_cutToken : List sm_E := [(0, .aload_n 0, 1, (0, 0, 0, 0), some [0, 1]),
  (1, .getfield 39, 3, (17, 3, 0, 0), none),
  (4, .aload_n 0, 1, (0, 0, 0, 0), none),
  (5, .getfield 36, 3, (17, 2, 0, 0), none),
  (8, .if_icmp .ge 34, 3, (0, 0, 0, 0), none),
  (11, .aload_n 0, 1, (0, 0, 0, 0), none),
  (12, .invokevirtual 62, 3, (138, 1, 1, 17), none),
  (15, .bipush 32, 2, (0, 0, 0, 0), none),
  (17, .if_icmp .eq 12, 3, (0, 0, 0, 0), none),
  (20, .aload_n 0, 1, (0, 0, 0, 0), none),
  (21, .invokevirtual 62, 3, (138, 1, 1, 17), none),
  (24, .bipush 10, 2, (0, 0, 0, 0), none),
  (26, .if_icmp .ne 16, 3, (0, 0, 0, 0), none),
  (29, .aload_n 0, 1, (0, 0, 0, 0), none),
  (30, .dup, 1, (0, 0, 0, 0), none),
  (31, .getfield 39, 3, (17, 3, 0, 0), none),
  (34, .iconst 1, 1, (0, 0, 0, 0), none),
  (35, .iadd, 1, (0, 0, 0, 0), none),
  (36, .putfield 39, 3, (17, 3, 0, 0), none),
  (39, .goto (-39), 3, (0, 0, 0, 0), none),
  (42, .aload_n 0, 1, (0, 0, 0, 0), some [0, 1]),
  (43, .getfield 19, 3, (17, 5, 54, 0), none),
  (46, .iload_n 1, 1, (0, 0, 0, 0), none),
  (47, .aload_n 0, 1, (0, 0, 0, 0), none),
  (48, .getfield 39, 3, (17, 3, 0, 0), none),
  (51, .iastore, 1, (54, 802, 0, 0), none),
  (52, .aload_n 0, 1, (0, 0, 0, 0), none),
  (53, .getfield 22, 3, (17, 6, 55, 0), none),
  (56, .iload_n 1, 1, (0, 0, 0, 0), none),
  (57, .lconst 0, 1, (0, 0, 0, 0), none),
  (58, .lastore, 1, (55, 802, 0, 0), none),
  (59, .aload_n 0, 1, (0, 0, 0, 0), none),
  (60, .getfield 39, 3, (17, 3, 0, 0), none),
  (63, .aload_n 0, 1, (0, 0, 0, 0), none),
  (64, .getfield 36, 3, (17, 2, 0, 0), none),
  (67, .if_icmp .lt 6, 3, (0, 0, 0, 0), none),
  (70, .bipush 6, 2, (0, 0, 0, 0), none),
  (72, .ireturn, 1, (0, 0, 0, 0), none),
  (73, .aload_n 0, 1, (0, 0, 0, 0), none),
  (74, .invokevirtual 62, 3, (138, 1, 1, 17), none),
  (77, .invokestatic 65, 3, (135, 1, 1, 0), none),
  (80, .ifCond .eq 9, 3, (0, 0, 0, 0), none),
  (83, .aload_n 0, 1, (0, 0, 0, 0), none),
  (84, .iload_n 1, 1, (0, 0, 0, 0), none),
  (85, .invokevirtual 69, 3, (140, 2, 1, 17), none),
  (88, .ireturn, 1, (0, 0, 0, 0), none),
  (89, .aload_n 0, 1, (0, 0, 0, 0), none),
  (90, .invokevirtual 62, 3, (138, 1, 1, 17), none),
  (93, .invokestatic 72, 3, (136, 1, 1, 0), none),
  (96, .ifCond .eq 9, 3, (0, 0, 0, 0), none),
  (99, .aload_n 0, 1, (0, 0, 0, 0), none),
  (100, .iload_n 1, 1, (0, 0, 0, 0), none),
  (101, .invokevirtual 75, 3, (141, 2, 1, 17), none),
  (104, .ireturn, 1, (0, 0, 0, 0), none),
  (105, .aload_n 0, 1, (0, 0, 0, 0), none),
  (106, .invokevirtual 62, 3, (138, 1, 1, 17), none),
  (109, .invokestatic 78, 3, (137, 1, 1, 0), none),
  (112, .ifCond .eq 11, 3, (0, 0, 0, 0), none),
  (115, .aload_n 0, 1, (0, 0, 0, 0), none),
  (116, .iload_n 1, 1, (0, 0, 0, 0), none),
  (117, .invokevirtual 81, 3, (142, 2, 1, 17), none),
  (120, .goto 7, 3, (0, 0, 0, 0), none),
  (123, .aload_n 0, 1, (0, 0, 0, 0), none),
  (124, .invokevirtual 84, 3, (143, 1, 1, 17), none),
  (127, .ireturn, 1, (0, 0, 0, 0), none)]
def cd_X7_cutSmall : List sm_E := [(0, .aload_n 0, 1, (0, 0, 0, 0), none),
  (1, .getfield 39, 3, (17, 3, 0, 0), none),
  (4, .istore_n 2, 1, (0, 0, 0, 0), none),
  (5, .lconst 0, 1, (0, 0, 0, 0), none),
  (6, .lstore_n 3, 1, (0, 0, 0, 0), none),
  (7, .aload_n 0, 1, (0, 0, 0, 0), some [0, 1, 2, 3]),
  (8, .getfield 39, 3, (17, 3, 0, 0), none),
  (11, .aload_n 0, 1, (0, 0, 0, 0), none),
  (12, .getfield 36, 3, (17, 2, 0, 0), none),
  (15, .if_icmp .ge 45, 3, (0, 0, 0, 0), none),
  (18, .aload_n 0, 1, (0, 0, 0, 0), none),
  (19, .invokevirtual 62, 3, (138, 1, 1, 17), none),
  (22, .invokestatic 65, 3, (135, 1, 1, 0), none),
  (25, .ifCond .ne 13, 3, (0, 0, 0, 0), none),
  (28, .aload_n 0, 1, (0, 0, 0, 0), none),
  (29, .invokevirtual 62, 3, (138, 1, 1, 17), none),
  (32, .invokestatic 78, 3, (137, 1, 1, 0), none),
  (35, .ifCond .eq 25, 3, (0, 0, 0, 0), none),
  (38, .lload_n 3, 1, (0, 0, 0, 0), some [0, 1, 2, 3]),
  (39, .aload_n 0, 1, (0, 0, 0, 0), none),
  (40, .invokevirtual 62, 3, (138, 1, 1, 17), none),
  (43, .invokestatic 58, 3, (134, 2, 2, 0), none),
  (46, .lstore_n 3, 1, (0, 0, 0, 0), none),
  (47, .aload_n 0, 1, (0, 0, 0, 0), none),
  (48, .dup, 1, (0, 0, 0, 0), none),
  (49, .getfield 39, 3, (17, 3, 0, 0), none),
  (52, .iconst 1, 1, (0, 0, 0, 0), none),
  (53, .iadd, 1, (0, 0, 0, 0), none),
  (54, .putfield 39, 3, (17, 3, 0, 0), none),
  (57, .goto (-50), 3, (0, 0, 0, 0), none),
  (60, .aload_n 0, 1, (0, 0, 0, 0), some [0, 1, 2, 3]),
  (61, .getfield 39, 3, (17, 3, 0, 0), none),
  (64, .iload_n 2, 1, (0, 0, 0, 0), none),
  (65, .isub, 1, (0, 0, 0, 0), none),
  (66, .bipush 8, 2, (0, 0, 0, 0), none),
  (68, .if_icmp .le 6, 3, (0, 0, 0, 0), none),
  (71, .bipush 7, 2, (0, 0, 0, 0), none),
  (73, .ireturn, 1, (0, 0, 0, 0), none),
  (74, .aload_n 0, 1, (0, 0, 0, 0), none),
  (75, .getfield 22, 3, (17, 6, 55, 0), none),
  (78, .iload_n 1, 1, (0, 0, 0, 0), none),
  (79, .lload_n 3, 1, (0, 0, 0, 0), none),
  (80, .lastore, 1, (55, 802, 0, 0), none),
  (81, .ldc 87, 2, (1, 0, 0, 0), none),
  (83, .lload_n 3, 1, (0, 0, 0, 0), none),
  (84, .invokestatic 89, 3, (133, 2, 1, 0), none),
  (87, .istore 5, 2, (0, 0, 0, 0), none),
  (89, .iload 5, 2, (0, 0, 0, 0), none),
  (91, .iconst (-1), 1, (0, 0, 0, 0), none),
  (92, .if_icmp .ne 7, 3, (0, 0, 0, 0), none),
  (95, .iconst 3, 1, (0, 0, 0, 0), none),
  (96, .goto 9, 3, (0, 0, 0, 0), none),
  (99, .sipush 200, 3, (0, 0, 0, 0), none),
  (102, .iload 5, 2, (0, 0, 0, 0), none),
  (104, .iadd, 1, (0, 0, 0, 0), none),
  (105, .ireturn, 1, (0, 0, 0, 0), none)]
def cd_X7_cutCapitals : List sm_E := [(0, .aload_n 0, 1, (0, 0, 0, 0), none),
  (1, .getfield 39, 3, (17, 3, 0, 0), none),
  (4, .istore_n 2, 1, (0, 0, 0, 0), none),
  (5, .lconst 0, 1, (0, 0, 0, 0), none),
  (6, .lstore_n 3, 1, (0, 0, 0, 0), none),
  (7, .aload_n 0, 1, (0, 0, 0, 0), some [0, 1, 2, 3]),
  (8, .getfield 39, 3, (17, 3, 0, 0), none),
  (11, .aload_n 0, 1, (0, 0, 0, 0), none),
  (12, .getfield 36, 3, (17, 2, 0, 0), none),
  (15, .if_icmp .ge 35, 3, (0, 0, 0, 0), none),
  (18, .aload_n 0, 1, (0, 0, 0, 0), none),
  (19, .invokevirtual 62, 3, (138, 1, 1, 17), none),
  (22, .invokestatic 72, 3, (136, 1, 1, 0), none),
  (25, .ifCond .eq 25, 3, (0, 0, 0, 0), none),
  (28, .lload_n 3, 1, (0, 0, 0, 0), none),
  (29, .aload_n 0, 1, (0, 0, 0, 0), none),
  (30, .invokevirtual 62, 3, (138, 1, 1, 17), none),
  (33, .invokestatic 58, 3, (134, 2, 2, 0), none),
  (36, .lstore_n 3, 1, (0, 0, 0, 0), none),
  (37, .aload_n 0, 1, (0, 0, 0, 0), none),
  (38, .dup, 1, (0, 0, 0, 0), none),
  (39, .getfield 39, 3, (17, 3, 0, 0), none),
  (42, .iconst 1, 1, (0, 0, 0, 0), none),
  (43, .iadd, 1, (0, 0, 0, 0), none),
  (44, .putfield 39, 3, (17, 3, 0, 0), none),
  (47, .goto (-40), 3, (0, 0, 0, 0), none),
  (50, .ldc 95, 2, (1, 1, 0, 0), some [0, 1, 2, 3]),
  (52, .lload_n 3, 1, (0, 0, 0, 0), none),
  (53, .invokestatic 89, 3, (133, 2, 1, 0), none),
  (56, .istore 5, 2, (0, 0, 0, 0), none),
  (58, .iload 5, 2, (0, 0, 0, 0), none),
  (60, .iconst (-1), 1, (0, 0, 0, 0), none),
  (61, .if_icmp .eq 14, 3, (0, 0, 0, 0), none),
  (64, .aload_n 0, 1, (0, 0, 0, 0), none),
  (65, .getfield 39, 3, (17, 3, 0, 0), none),
  (68, .iload_n 2, 1, (0, 0, 0, 0), none),
  (69, .isub, 1, (0, 0, 0, 0), none),
  (70, .bipush 8, 2, (0, 0, 0, 0), none),
  (72, .if_icmp .le 6, 3, (0, 0, 0, 0), none),
  (75, .bipush 7, 2, (0, 0, 0, 0), none),
  (77, .ireturn, 1, (0, 0, 0, 0), none),
  (78, .aload_n 0, 1, (0, 0, 0, 0), none),
  (79, .getfield 22, 3, (17, 6, 55, 0), none),
  (82, .iload_n 1, 1, (0, 0, 0, 0), none),
  (83, .iload 5, 2, (0, 0, 0, 0), none),
  (85, .bipush 18, 2, (0, 0, 0, 0), none),
  (87, .if_icmp .ne 9, 3, (0, 0, 0, 0), none),
  (90, .ldc2_w 97, 3, (2, 0, 0, 0), none),
  (93, .goto 6, 3, (0, 0, 0, 0), none),
  (96, .iload 5, 2, (0, 0, 0, 0), none),
  (98, .i2l, 1, (0, 0, 0, 0), none),
  (99, .lastore, 1, (55, 802, 0, 0), none),
  (100, .iconst 5, 1, (0, 0, 0, 0), none),
  (101, .ireturn, 1, (0, 0, 0, 0), none)]
def cd_X7_cutNumber : List sm_E := [(0, .aload_n 0, 1, (0, 0, 0, 0), none),
  (1, .getfield 39, 3, (17, 3, 0, 0), none),
  (4, .istore_n 2, 1, (0, 0, 0, 0), none),
  (5, .lconst 0, 1, (0, 0, 0, 0), none),
  (6, .lstore_n 3, 1, (0, 0, 0, 0), none),
  (7, .aload_n 0, 1, (0, 0, 0, 0), some [0, 1, 2, 3]),
  (8, .getfield 39, 3, (17, 3, 0, 0), none),
  (11, .aload_n 0, 1, (0, 0, 0, 0), none),
  (12, .getfield 36, 3, (17, 2, 0, 0), none),
  (15, .if_icmp .ge 41, 3, (0, 0, 0, 0), none),
  (18, .aload_n 0, 1, (0, 0, 0, 0), none),
  (19, .invokevirtual 62, 3, (138, 1, 1, 17), none),
  (22, .invokestatic 78, 3, (137, 1, 1, 0), none),
  (25, .ifCond .eq 31, 3, (0, 0, 0, 0), none),
  (28, .lload_n 3, 1, (0, 0, 0, 0), none),
  (29, .ldc2_w 99, 3, (1, 0, 0, 0), none),
  (32, .lmul, 1, (0, 0, 0, 0), none),
  (33, .aload_n 0, 1, (0, 0, 0, 0), none),
  (34, .invokevirtual 62, 3, (138, 1, 1, 17), none),
  (37, .bipush 48, 2, (0, 0, 0, 0), none),
  (39, .isub, 1, (0, 0, 0, 0), none),
  (40, .i2l, 1, (0, 0, 0, 0), none),
  (41, .ladd, 1, (0, 0, 0, 0), none),
  (42, .lstore_n 3, 1, (0, 0, 0, 0), none),
  (43, .aload_n 0, 1, (0, 0, 0, 0), none),
  (44, .dup, 1, (0, 0, 0, 0), none),
  (45, .getfield 39, 3, (17, 3, 0, 0), none),
  (48, .iconst 1, 1, (0, 0, 0, 0), none),
  (49, .iadd, 1, (0, 0, 0, 0), none),
  (50, .putfield 39, 3, (17, 3, 0, 0), none),
  (53, .goto (-46), 3, (0, 0, 0, 0), none),
  (56, .aload_n 0, 1, (0, 0, 0, 0), some [0, 1, 2, 3]),
  (57, .getfield 22, 3, (17, 6, 55, 0), none),
  (60, .iload_n 1, 1, (0, 0, 0, 0), none),
  (61, .lload_n 3, 1, (0, 0, 0, 0), none),
  (62, .lastore, 1, (55, 802, 0, 0), none),
  (63, .aload_n 0, 1, (0, 0, 0, 0), none),
  (64, .invokevirtual 62, 3, (138, 1, 1, 17), none),
  (67, .invokestatic 65, 3, (135, 1, 1, 0), none),
  (70, .ifCond .ne 13, 3, (0, 0, 0, 0), none),
  (73, .aload_n 0, 1, (0, 0, 0, 0), none),
  (74, .invokevirtual 62, 3, (138, 1, 1, 17), none),
  (77, .invokestatic 72, 3, (136, 1, 1, 0), none),
  (80, .ifCond .eq 7, 3, (0, 0, 0, 0), none),
  (83, .iconst 1, 1, (0, 0, 0, 0), none),
  (84, .goto 4, 3, (0, 0, 0, 0), none),
  (87, .iconst 0, 1, (0, 0, 0, 0), none),
  (88, .istore 5, 2, (0, 0, 0, 0), some [0, 2]),
  (90, .iload 5, 2, (0, 0, 0, 0), none),
  (92, .ifCond .ne 14, 3, (0, 0, 0, 0), none),
  (95, .aload_n 0, 1, (0, 0, 0, 0), none),
  (96, .getfield 39, 3, (17, 3, 0, 0), none),
  (99, .iload_n 2, 1, (0, 0, 0, 0), none),
  (100, .isub, 1, (0, 0, 0, 0), none),
  (101, .bipush 9, 2, (0, 0, 0, 0), none),
  (103, .if_icmp .le 8, 3, (0, 0, 0, 0), none),
  (106, .bipush 7, 2, (0, 0, 0, 0), none),
  (108, .goto 4, 3, (0, 0, 0, 0), none),
  (111, .iconst 4, 1, (0, 0, 0, 0), none),
  (112, .ireturn, 1, (0, 0, 0, 0), none)]
def cd_X7_cutSign : List sm_E := [(0, .aload_n 0, 1, (0, 0, 0, 0), none),
  (1, .invokevirtual 62, 3, (138, 1, 1, 17), none),
  (4, .istore_n 1, 1, (0, 0, 0, 0), none),
  (5, .aload_n 0, 1, (0, 0, 0, 0), none),
  (6, .dup, 1, (0, 0, 0, 0), none),
  (7, .getfield 39, 3, (17, 3, 0, 0), none),
  (10, .iconst 1, 1, (0, 0, 0, 0), none),
  (11, .iadd, 1, (0, 0, 0, 0), none),
  (12, .putfield 39, 3, (17, 3, 0, 0), none),
  (15, .aload_n 0, 1, (0, 0, 0, 0), none),
  (16, .invokevirtual 62, 3, (138, 1, 1, 17), none),
  (19, .bipush 61, 2, (0, 0, 0, 0), none),
  (21, .if_icmp .ne 37, 3, (0, 0, 0, 0), none),
  (24, .iload_n 1, 1, (0, 0, 0, 0), none),
  (25, .bipush 61, 2, (0, 0, 0, 0), none),
  (27, .if_icmp .eq 9, 3, (0, 0, 0, 0), none),
  (30, .iload_n 1, 1, (0, 0, 0, 0), none),
  (31, .bipush 33, 2, (0, 0, 0, 0), none),
  (33, .if_icmp .ne 25, 3, (0, 0, 0, 0), none),
  (36, .aload_n 0, 1, (0, 0, 0, 0), some [0, 1]),
  (37, .dup, 1, (0, 0, 0, 0), none),
  (38, .getfield 39, 3, (17, 3, 0, 0), none),
  (41, .iconst 1, 1, (0, 0, 0, 0), none),
  (42, .iadd, 1, (0, 0, 0, 0), none),
  (43, .putfield 39, 3, (17, 3, 0, 0), none),
  (46, .iload_n 1, 1, (0, 0, 0, 0), none),
  (47, .bipush 61, 2, (0, 0, 0, 0), none),
  (49, .if_icmp .ne 7, 3, (0, 0, 0, 0), none),
  (52, .iconst 1, 1, (0, 0, 0, 0), none),
  (53, .goto 4, 3, (0, 0, 0, 0), none),
  (56, .iconst 2, 1, (0, 0, 0, 0), none),
  (57, .ireturn, 1, (0, 0, 0, 0), none),
  (58, .ldc 101, 2, (1, 2, 0, 0), some [1]),
  (60, .iload_n 1, 1, (0, 0, 0, 0), none),
  (61, .i2c, 1, (0, 0, 0, 0), none),
  (62, .invokevirtual 103, 3, (296, 2, 1, 5), none),
  (65, .iconst (-1), 1, (0, 0, 0, 0), none),
  (66, .if_icmp .ne 8, 3, (0, 0, 0, 0), none),
  (69, .bipush 7, 2, (0, 0, 0, 0), none),
  (71, .goto 4, 3, (0, 0, 0, 0), none),
  (74, .iload_n 1, 1, (0, 0, 0, 0), none),
  (75, .ireturn, 1, (0, 0, 0, 0), none)]
def cd_X8_init : List sm_E := [(0, .aload_n 0, 1, (0, 0, 0, 0), none),
  (1, .invokespecial 1, 3, (0, 0, 0, 1002), none),
  (4, .aload_n 0, 1, (0, 0, 0, 0), none),
  (5, .aload_n 1, 1, (0, 0, 0, 0), none),
  (6, .putfield 7, 3, (18, 0, 2, 0), none),
  (9, .aload_n 0, 1, (0, 0, 0, 0), none),
  (10, .iload_n 2, 1, (0, 0, 0, 0), none),
  (11, .putfield 13, 3, (18, 1, 0, 0), none),
  (14, .aload_n 0, 1, (0, 0, 0, 0), none),
  (15, .iload_n 3, 1, (0, 0, 0, 0), none),
  (16, .putfield 17, 3, (18, 2, 0, 0), none),
  (19, .return_, 1, (0, 0, 0, 0), none)]
def cd_X8_move : List sm_E := [(0, .aload_n 0, 1, (0, 0, 0, 0), none),
  (1, .aload_n 0, 1, (0, 0, 0, 0), none),
  (2, .invokevirtual 20, 3, (146, 1, 1, 18), none),
  (5, .putfield 24, 3, (18, 3, 0, 0), none),
  (8, .aload_n 0, 1, (0, 0, 0, 0), none),
  (9, .iconst 0, 1, (0, 0, 0, 0), none),
  (10, .aload_n 0, 1, (0, 0, 0, 0), none),
  (11, .getfield 17, 3, (18, 2, 0, 0), none),
  (14, .aload_n 0, 1, (0, 0, 0, 0), none),
  (15, .getfield 24, 3, (18, 3, 0, 0), none),
  (18, .isub, 1, (0, 0, 0, 0), none),
  (19, .invokestatic 27, 3, (306, 2, 1, 0), none),
  (22, .putfield 17, 3, (18, 2, 0, 0), none),
  (25, .aload_n 0, 1, (0, 0, 0, 0), none),
  (26, .getfield 24, 3, (18, 3, 0, 0), none),
  (29, .ifCond .le 10, 3, (0, 0, 0, 0), none),
  (32, .aload_n 0, 1, (0, 0, 0, 0), none),
  (33, .getfield 7, 3, (18, 0, 2, 0), none),
  (36, .invokevirtual 33, 3, (128, 1, 0, 16), none),
  (39, .return_, 1, (0, 0, 0, 0), none)]
def cd_X8_reckonSpeed : List sm_E := [(0, .aload_n 0, 1, (0, 0, 0, 0), none),
  (1, .getfield 7, 3, (18, 0, 2, 0), none),
  (4, .iconst 2, 1, (0, 0, 0, 0), none),
  (5, .invokevirtual 40, 3, (127, 2, 1, 16), none),
  (8, .istore_n 1, 1, (0, 0, 0, 0), none),
  (9, .iload_n 1, 1, (0, 0, 0, 0), none),
  (10, .iconst 1, 1, (0, 0, 0, 0), none),
  (11, .if_icmp .ge 5, 3, (0, 0, 0, 0), none),
  (14, .iconst 0, 1, (0, 0, 0, 0), none),
  (15, .ireturn, 1, (0, 0, 0, 0), none),
  (16, .aload_n 0, 1, (0, 0, 0, 0), none),
  (17, .getfield 7, 3, (18, 0, 2, 0), none),
  (20, .iconst 3, 1, (0, 0, 0, 0), none),
  (21, .invokevirtual 40, 3, (127, 2, 1, 16), none),
  (24, .iconst 5, 1, (0, 0, 0, 0), none),
  (25, .idiv, 1, (0, 0, 0, 0), none),
  (26, .iconst 1, 1, (0, 0, 0, 0), none),
  (27, .iadd, 1, (0, 0, 0, 0), none),
  (28, .istore_n 2, 1, (0, 0, 0, 0), none),
  (29, .iconst 0, 1, (0, 0, 0, 0), none),
  (30, .aload_n 0, 1, (0, 0, 0, 0), none),
  (31, .getfield 7, 3, (18, 0, 2, 0), none),
  (34, .iconst 4, 1, (0, 0, 0, 0), none),
  (35, .invokevirtual 40, 3, (127, 2, 1, 16), none),
  (38, .iload_n 1, 1, (0, 0, 0, 0), none),
  (39, .idiv, 1, (0, 0, 0, 0), none),
  (40, .iload_n 2, 1, (0, 0, 0, 0), none),
  (41, .invokestatic 44, 3, (307, 2, 1, 0), none),
  (44, .invokestatic 27, 3, (306, 2, 1, 0), none),
  (47, .ireturn, 1, (0, 0, 0, 0), none)]
def cd_X9_init : List sm_E := [(0, .aload_n 0, 1, (0, 0, 0, 0), none),
  (1, .invokespecial 5, 3, (0, 0, 0, 1002), none),
  (4, .aload_n 0, 1, (0, 0, 0, 0), none),
  (5, .iload_n 1, 1, (0, 0, 0, 0), none),
  (6, .putfield 11, 3, (19, 0, 0, 0), none),
  (9, .aload_n 0, 1, (0, 0, 0, 0), none),
  (10, .iload_n 2, 1, (0, 0, 0, 0), none),
  (11, .putfield 15, 3, (19, 1, 0, 0), none),
  (14, .return_, 1, (0, 0, 0, 0), none)]
end
end
section
section
def cd_X9_isReckoned : List sm_E := [(0, .iload_n 0, 1, (0, 0, 0, 0), none),
  (1, .iconst 2, 1, (0, 0, 0, 0), none),
  (2, .if_icmp .eq 13, 3, (0, 0, 0, 0), none),
  (5, .iload_n 0, 1, (0, 0, 0, 0), none),
  (6, .iconst 3, 1, (0, 0, 0, 0), none),
  (7, .if_icmp .eq 8, 3, (0, 0, 0, 0), none),
  (10, .iload_n 0, 1, (0, 0, 0, 0), none),
  (11, .iconst 4, 1, (0, 0, 0, 0), none),
  (12, .if_icmp .ne 7, 3, (0, 0, 0, 0), none),
  (15, .iconst 1, 1, (0, 0, 0, 0), none),
  (16, .goto 4, 3, (0, 0, 0, 0), none),
  (19, .iconst 0, 1, (0, 0, 0, 0), none),
  (20, .ireturn, 1, (1, 0, 0, 0), none)]
def cd_X9_field : List sm_E := [(0, .iload_n 1, 1, (0, 0, 0, 0), none),
  (1, .tableswitch 96 0 8 #[51, 56, 61, 66, 71, 76, 81, 86, 91], 51, (0, 0, 0, 0), none),
  (52, .aload_n 0, 1, (0, 0, 0, 0), none),
  (53, .getfield 18, 3, (19, 2, 0, 0), none),
  (56, .ireturn, 1, (0, 0, 0, 0), none),
  (57, .aload_n 0, 1, (0, 0, 0, 0), none),
  (58, .getfield 21, 3, (19, 3, 0, 0), none),
  (61, .ireturn, 1, (0, 0, 0, 0), none),
  (62, .aload_n 0, 1, (0, 0, 0, 0), none),
  (63, .invokevirtual 24, 3, (153, 1, 1, 19), none),
  (66, .ireturn, 1, (0, 0, 0, 0), none),
  (67, .aload_n 0, 1, (0, 0, 0, 0), none),
  (68, .invokevirtual 28, 3, (154, 1, 1, 19), none),
  (71, .ireturn, 1, (0, 0, 0, 0), none),
  (72, .aload_n 0, 1, (0, 0, 0, 0), none),
  (73, .invokevirtual 31, 3, (155, 1, 1, 19), none),
  (76, .ireturn, 1, (0, 0, 0, 0), none),
  (77, .aload_n 0, 1, (0, 0, 0, 0), none),
  (78, .getfield 34, 3, (19, 4, 0, 0), none),
  (81, .ireturn, 1, (0, 0, 0, 0), none),
  (82, .aload_n 0, 1, (0, 0, 0, 0), none),
  (83, .getfield 37, 3, (19, 5, 0, 0), none),
  (86, .ireturn, 1, (0, 0, 0, 0), none),
  (87, .aload_n 0, 1, (0, 0, 0, 0), none),
  (88, .getfield 40, 3, (19, 6, 0, 0), none),
  (91, .ireturn, 1, (0, 0, 0, 0), none),
  (92, .aload_n 0, 1, (0, 0, 0, 0), none),
  (93, .getfield 43, 3, (19, 7, 0, 0), none),
  (96, .ireturn, 1, (0, 0, 0, 0), none),
  (97, .iconst 0, 1, (0, 0, 0, 0), none),
  (98, .ireturn, 1, (0, 0, 0, 0), none)]
def cd_X9_setField : List sm_E := [(0, .iload_n 1, 1, (0, 0, 0, 0), none),
  (1, .tableswitch 99 0 8 #[51, 59, 99, 99, 99, 67, 75, 83, 91], 51, (0, 0, 0, 0), none),
  (52, .aload_n 0, 1, (0, 0, 0, 0), none),
  (53, .iload_n 2, 1, (0, 0, 0, 0), none),
  (54, .putfield 18, 3, (19, 2, 0, 0), none),
  (57, .goto 43, 3, (0, 0, 0, 0), none),
  (60, .aload_n 0, 1, (0, 0, 0, 0), none),
  (61, .iload_n 2, 1, (0, 0, 0, 0), none),
  (62, .putfield 21, 3, (19, 3, 0, 0), none),
  (65, .goto 35, 3, (0, 0, 0, 0), none),
  (68, .aload_n 0, 1, (0, 0, 0, 0), none),
  (69, .iload_n 2, 1, (0, 0, 0, 0), none),
  (70, .putfield 34, 3, (19, 4, 0, 0), none),
  (73, .goto 27, 3, (0, 0, 0, 0), none),
  (76, .aload_n 0, 1, (0, 0, 0, 0), none),
  (77, .iload_n 2, 1, (0, 0, 0, 0), none),
  (78, .putfield 37, 3, (19, 5, 0, 0), none),
  (81, .goto 19, 3, (0, 0, 0, 0), none),
  (84, .aload_n 0, 1, (0, 0, 0, 0), none),
  (85, .iload_n 2, 1, (0, 0, 0, 0), none),
  (86, .putfield 40, 3, (19, 6, 0, 0), none),
  (89, .goto 11, 3, (0, 0, 0, 0), none),
  (92, .aload_n 0, 1, (0, 0, 0, 0), none),
  (93, .iload_n 2, 1, (0, 0, 0, 0), none),
  (94, .putfield 43, 3, (19, 7, 0, 0), none),
  (97, .goto 3, 3, (0, 0, 0, 0), none),
  (100, .return_, 1, (0, 0, 0, 0), none)]
def cd_X9_tell : List sm_E := [(0, .iload_n 1, 1, (0, 0, 0, 0), none),
  (1, .ifCond .lt 9, 3, (0, 0, 0, 0), none),
  (4, .iload_n 1, 1, (0, 0, 0, 0), none),
  (5, .bipush 9, 2, (0, 0, 0, 0), none),
  (7, .if_icmp .le 5, 3, (0, 0, 0, 0), none),
  (10, .iconst (-1), 1, (0, 0, 0, 0), none),
  (11, .ireturn, 1, (0, 0, 0, 0), none),
  (12, .iload_n 1, 1, (0, 0, 0, 0), none),
  (13, .ifCond .ne 8, 3, (0, 0, 0, 0), none),
  (16, .aload_n 0, 1, (0, 0, 0, 0), none),
  (17, .getfield 11, 3, (19, 0, 0, 0), none),
  (20, .ireturn, 1, (0, 0, 0, 0), none),
  (21, .aload_n 0, 1, (0, 0, 0, 0), none),
  (22, .iload_n 1, 1, (0, 0, 0, 0), none),
  (23, .iconst 1, 1, (0, 0, 0, 0), none),
  (24, .isub, 1, (0, 0, 0, 0), none),
  (25, .invokevirtual 46, 3, (149, 2, 1, 19), none),
  (28, .istore_n 2, 1, (0, 0, 0, 0), none),
  (29, .iload_n 1, 1, (0, 0, 0, 0), none),
  (30, .iconst 1, 1, (0, 0, 0, 0), none),
  (31, .isub, 1, (0, 0, 0, 0), none),
  (32, .iconst 1, 1, (0, 0, 0, 0), none),
  (33, .if_icmp .ne 9, 3, (0, 0, 0, 0), none),
  (36, .iload_n 2, 1, (0, 0, 0, 0), none),
  (37, .iconst 1, 1, (0, 0, 0, 0), none),
  (38, .isub, 1, (0, 0, 0, 0), none),
  (39, .goto 4, 3, (0, 0, 0, 0), none),
  (42, .iload_n 2, 1, (0, 0, 0, 0), none),
  (43, .ireturn, 1, (0, 0, 0, 0), none)]
def cd_X9_burn : List sm_E := [(0, .aload_n 0, 1, (0, 0, 0, 0), none),
  (1, .getfield 43, 3, (19, 7, 0, 0), none),
  (4, .ifCond .le 13, 3, (0, 0, 0, 0), none),
  (7, .aload_n 0, 1, (0, 0, 0, 0), none),
  (8, .dup, 1, (0, 0, 0, 0), none),
  (9, .getfield 43, 3, (19, 7, 0, 0), none),
  (12, .iconst 1, 1, (0, 0, 0, 0), none),
  (13, .isub, 1, (0, 0, 0, 0), none),
  (14, .putfield 43, 3, (19, 7, 0, 0), none),
  (17, .return_, 1, (0, 0, 0, 0), none)]
def cd_X9_mass : List sm_E := [(0, .aload_n 0, 1, (0, 0, 0, 0), none),
  (1, .getfield 11, 3, (19, 0, 0, 0), none),
  (4, .tableswitch 181 1 12 #[64, 98, 67, 75, 101, 124, 157, 178, 85, 109, 134, 165], 64, (0, 0, 0, 0), none),
  (68, .bipush 45, 2, (0, 0, 0, 0), none),
  (70, .ireturn, 1, (0, 0, 0, 0), none),
  (71, .bipush 45, 2, (0, 0, 0, 0), none),
  (73, .aload_n 0, 1, (0, 0, 0, 0), none),
  (74, .getfield 43, 3, (19, 7, 0, 0), none),
  (77, .iadd, 1, (0, 0, 0, 0), none),
  (78, .ireturn, 1, (0, 0, 0, 0), none),
  (79, .bipush 45, 2, (0, 0, 0, 0), none),
  (81, .aload_n 0, 1, (0, 0, 0, 0), none),
  (82, .getfield 43, 3, (19, 7, 0, 0), none),
  (85, .iconst 2, 1, (0, 0, 0, 0), none),
  (86, .idiv, 1, (0, 0, 0, 0), none),
  (87, .iadd, 1, (0, 0, 0, 0), none),
  (88, .ireturn, 1, (0, 0, 0, 0), none),
  (89, .bipush 45, 2, (0, 0, 0, 0), none),
  (91, .aload_n 0, 1, (0, 0, 0, 0), none),
  (92, .getfield 43, 3, (19, 7, 0, 0), none),
  (95, .iconst 2, 1, (0, 0, 0, 0), none),
  (96, .idiv, 1, (0, 0, 0, 0), none),
  (97, .iadd, 1, (0, 0, 0, 0), none),
  (98, .bipush 20, 2, (0, 0, 0, 0), none),
  (100, .isub, 1, (0, 0, 0, 0), none),
  (101, .ireturn, 1, (0, 0, 0, 0), none),
  (102, .bipush 15, 2, (0, 0, 0, 0), none),
  (104, .ireturn, 1, (0, 0, 0, 0), none),
  (105, .bipush 15, 2, (0, 0, 0, 0), none),
  (107, .aload_n 0, 1, (0, 0, 0, 0), none),
  (108, .getfield 34, 3, (19, 4, 0, 0), none),
  (111, .iadd, 1, (0, 0, 0, 0), none),
  (112, .ireturn, 1, (0, 0, 0, 0), none),
  (113, .bipush 15, 2, (0, 0, 0, 0), none),
  (115, .aload_n 0, 1, (0, 0, 0, 0), none),
  (116, .getfield 34, 3, (19, 4, 0, 0), none),
  (119, .iadd, 1, (0, 0, 0, 0), none),
  (120, .aload_n 0, 1, (0, 0, 0, 0), none),
  (121, .getfield 43, 3, (19, 7, 0, 0), none),
  (124, .iadd, 1, (0, 0, 0, 0), none),
  (125, .iconst 3, 1, (0, 0, 0, 0), none),
  (126, .iadd, 1, (0, 0, 0, 0), none),
  (127, .ireturn, 1, (0, 0, 0, 0), none),
  (128, .bipush 15, 2, (0, 0, 0, 0), none),
  (130, .iconst 2, 1, (0, 0, 0, 0), none),
  (131, .aload_n 0, 1, (0, 0, 0, 0), none),
  (132, .getfield 34, 3, (19, 4, 0, 0), none),
  (135, .imul, 1, (0, 0, 0, 0), none),
  (136, .iadd, 1, (0, 0, 0, 0), none),
  (137, .ireturn, 1, (0, 0, 0, 0), none),
  (138, .bipush 15, 2, (0, 0, 0, 0), none),
  (140, .iconst 2, 1, (0, 0, 0, 0), none),
  (141, .aload_n 0, 1, (0, 0, 0, 0), none),
  (142, .getfield 34, 3, (19, 4, 0, 0), none),
  (145, .imul, 1, (0, 0, 0, 0), none),
  (146, .iadd, 1, (0, 0, 0, 0), none),
  (147, .aload_n 0, 1, (0, 0, 0, 0), none),
  (148, .getfield 37, 3, (19, 5, 0, 0), none),
  (151, .ifCond .ge 7, 3, (0, 0, 0, 0), none),
  (154, .iconst 1, 1, (0, 0, 0, 0), none),
  (155, .goto 4, 3, (0, 0, 0, 0), none),
  (158, .iconst 0, 1, (0, 0, 0, 0), none),
  (159, .iadd, 1, (0, 0, 0, 0), none),
  (160, .ireturn, 1, (0, 0, 0, 0), none),
  (161, .bipush 15, 2, (0, 0, 0, 0), none),
  (163, .aload_n 0, 1, (0, 0, 0, 0), none),
  (164, .getfield 34, 3, (19, 4, 0, 0), none),
  (167, .iadd, 1, (0, 0, 0, 0), none),
  (168, .ireturn, 1, (0, 0, 0, 0), none),
  (169, .bipush 15, 2, (0, 0, 0, 0), none),
  (171, .aload_n 0, 1, (0, 0, 0, 0), none),
  (172, .getfield 34, 3, (19, 4, 0, 0), none),
  (175, .iadd, 1, (0, 0, 0, 0), none),
  (176, .aload_n 0, 1, (0, 0, 0, 0), none),
  (177, .getfield 40, 3, (19, 6, 0, 0), none),
  (180, .iadd, 1, (0, 0, 0, 0), none),
  (181, .ireturn, 1, (0, 0, 0, 0), none),
  (182, .bipush 17, 2, (0, 0, 0, 0), none),
  (184, .ireturn, 1, (0, 0, 0, 0), none),
  (185, .iconst 5, 1, (0, 0, 0, 0), none),
  (186, .ireturn, 1, (0, 0, 0, 0), none)]
def cd_X9_grip : List sm_E := [(0, .aload_n 0, 1, (0, 0, 0, 0), none),
  (1, .getfield 11, 3, (19, 0, 0, 0), none),
  (4, .tableswitch 67 1 9 #[52, 67, 55, 58, 67, 67, 67, 64, 61], 52, (0, 0, 0, 0), none),
  (56, .bipush 10, 2, (0, 0, 0, 0), none),
  (58, .ireturn, 1, (0, 0, 0, 0), none),
  (59, .bipush 15, 2, (0, 0, 0, 0), none),
  (61, .ireturn, 1, (0, 0, 0, 0), none),
  (62, .bipush 20, 2, (0, 0, 0, 0), none),
  (64, .ireturn, 1, (0, 0, 0, 0), none),
  (65, .bipush 17, 2, (0, 0, 0, 0), none),
  (67, .ireturn, 1, (0, 0, 0, 0), none),
  (68, .bipush 25, 2, (0, 0, 0, 0), none),
  (70, .ireturn, 1, (0, 0, 0, 0), none),
  (71, .iconst 0, 1, (0, 0, 0, 0), none),
  (72, .ireturn, 1, (0, 0, 0, 0), none)]
def cd_X9_pull : List sm_E := [(0, .aload_n 0, 1, (0, 0, 0, 0), none),
  (1, .getfield 11, 3, (19, 0, 0, 0), none),
  (4, .lookupswitch 52 #[(3, 36), (4, 44), (9, 48)], 36, (0, 0, 0, 0), none),
  (40, .bipush 20, 2, (0, 0, 0, 0), none),
  (42, .aload_n 0, 1, (0, 0, 0, 0), none),
  (43, .getfield 43, 3, (19, 7, 0, 0), none),
  (46, .imul, 1, (0, 0, 0, 0), none),
  (47, .ireturn, 1, (0, 0, 0, 0), none),
  (48, .sipush 300, 3, (0, 0, 0, 0), none),
  (51, .ireturn, 1, (0, 0, 0, 0), none),
  (52, .sipush 150, 3, (0, 0, 0, 0), none),
  (55, .ireturn, 1, (0, 0, 0, 0), none),
  (56, .iconst 0, 1, (0, 0, 0, 0), none),
  (57, .ireturn, 1, (0, 0, 0, 0), none)]
def cd_X10_init : List sm_E := [(0, .aload_n 0, 1, (0, 0, 0, 0), none),
  (1, .invokespecial 3, 3, (0, 0, 0, 1002), none),
  (4, .aload_n 0, 1, (0, 0, 0, 0), none),
  (5, .sipush 300, 3, (0, 0, 0, 0), none),
  (8, .anewarray 11, 3, (56, 300, 0, 0), none),
  (11, .putfield 13, 3, (20, 0, 56, 0), none),
  (14, .aload_n 0, 1, (0, 0, 0, 0), none),
  (15, .sipush 200, 3, (0, 0, 0, 0), none),
  (18, .anewarray 17, 3, (57, 200, 0, 0), none),
  (21, .putfield 19, 3, (20, 1, 57, 0), none),
  (24, .return_, 1, (0, 0, 0, 0), none)]
def cd_X10_hasRoomForVehicle : List sm_E := [(0, .aload_n 0, 1, (0, 0, 0, 0), none),
  (1, .getfield 23, 3, (20, 2, 0, 0), none),
  (4, .sipush 300, 3, (0, 0, 0, 0), none),
  (7, .if_icmp .ge 7, 3, (0, 0, 0, 0), none),
  (10, .iconst 1, 1, (0, 0, 0, 0), none),
  (11, .goto 4, 3, (0, 0, 0, 0), none),
  (14, .iconst 0, 1, (0, 0, 0, 0), none),
  (15, .ireturn, 1, (1, 0, 0, 0), none)]
def cd_X10_hasRoomForRow : List sm_E := [(0, .aload_n 0, 1, (0, 0, 0, 0), none),
  (1, .getfield 27, 3, (20, 3, 0, 0), none),
  (4, .sipush 200, 3, (0, 0, 0, 0), none),
  (7, .if_icmp .ge 25, 3, (0, 0, 0, 0), none),
  (10, .iload_n 1, 1, (0, 0, 0, 0), none),
  (11, .bipush 40, 2, (0, 0, 0, 0), none),
  (13, .if_icmp .gt 19, 3, (0, 0, 0, 0), none),
  (16, .aload_n 0, 1, (0, 0, 0, 0), none),
  (17, .getfield 30, 3, (20, 4, 0, 0), none),
  (20, .iload_n 1, 1, (0, 0, 0, 0), none),
  (21, .iadd, 1, (0, 0, 0, 0), none),
  (22, .sipush 2000, 3, (0, 0, 0, 0), none),
  (25, .if_icmp .gt 7, 3, (0, 0, 0, 0), none),
  (28, .iconst 1, 1, (0, 0, 0, 0), none),
  (29, .goto 4, 3, (0, 0, 0, 0), none),
  (32, .iconst 0, 1, (0, 0, 0, 0), none),
  (33, .ireturn, 1, (1, 0, 0, 0), none)]
def cd_X10_makeVehicle : List sm_E := [(0, .aload_n 0, 1, (0, 0, 0, 0), none),
  (1, .invokevirtual 33, 3, (157, 1, 1, 20), none),
  (4, .ifCond .ne 5, 3, (0, 0, 0, 0), none),
  (7, .iconst 0, 1, (0, 0, 0, 0), none),
  (8, .ireturn, 1, (0, 0, 0, 0), none),
  (9, .aload_n 0, 1, (0, 0, 0, 0), none),
  (10, .getfield 13, 3, (20, 0, 56, 0), none),
  (13, .aload_n 0, 1, (0, 0, 0, 0), none),
  (14, .getfield 23, 3, (20, 2, 0, 0), none),
  (17, .new 11, 3, (19, 8, 0, 0), none),
  (20, .dup, 1, (0, 0, 0, 0), none),
  (21, .iload_n 1, 1, (0, 0, 0, 0), none),
  (22, .aload_n 0, 1, (0, 0, 0, 0), none),
  (23, .getfield 23, 3, (20, 2, 0, 0), none),
  (26, .invokespecial 37, 3, (147, 3, 0, 19), none),
  (29, .aastore, 1, (56, 300, 19, 0), none),
  (30, .aload_n 0, 1, (0, 0, 0, 0), none),
  (31, .dup, 1, (0, 0, 0, 0), none),
  (32, .getfield 23, 3, (20, 2, 0, 0), none),
  (35, .iconst 1, 1, (0, 0, 0, 0), none),
  (36, .iadd, 1, (0, 0, 0, 0), none),
  (37, .putfield 23, 3, (20, 2, 0, 0), none),
  (40, .aload_n 0, 1, (0, 0, 0, 0), none),
  (41, .getfield 23, 3, (20, 2, 0, 0), none),
  (44, .ireturn, 1, (0, 0, 0, 0), none)]
def cd_X10_makeRow : List sm_E := [(0, .iload_n 2, 1, (0, 0, 0, 0), none),
  (1, .ifCond .lt 11, 3, (0, 0, 0, 0), none),
  (4, .aload_n 0, 1, (0, 0, 0, 0), none),
  (5, .iload_n 2, 1, (0, 0, 0, 0), none),
  (6, .invokevirtual 40, 3, (158, 2, 1, 20), none),
  (9, .ifCond .ne 5, 3, (0, 0, 0, 0), none),
  (12, .iconst 0, 1, (0, 0, 0, 0), none),
  (13, .ireturn, 1, (0, 0, 0, 0), none),
  (14, .aload_n 0, 1, (0, 0, 0, 0), none),
  (15, .getfield 19, 3, (20, 1, 57, 0), none),
  (18, .aload_n 0, 1, (0, 0, 0, 0), none),
  (19, .getfield 27, 3, (20, 3, 0, 0), none),
  (22, .new 17, 3, (16, 4, 0, 0), none),
  (25, .dup, 1, (0, 0, 0, 0), none),
  (26, .iload_n 1, 1, (0, 0, 0, 0), none),
  (27, .aload_n 0, 1, (0, 0, 0, 0), none),
  (28, .getfield 27, 3, (20, 3, 0, 0), none),
  (31, .iload_n 2, 1, (0, 0, 0, 0), none),
  (32, .invokespecial 44, 3, (120, 4, 0, 16), none),
  (35, .aastore, 1, (57, 200, 16, 0), none),
  (36, .aload_n 0, 1, (0, 0, 0, 0), none),
  (37, .dup, 1, (0, 0, 0, 0), none),
  (38, .getfield 27, 3, (20, 3, 0, 0), none),
  (41, .iconst 1, 1, (0, 0, 0, 0), none),
  (42, .iadd, 1, (0, 0, 0, 0), none),
  (43, .putfield 27, 3, (20, 3, 0, 0), none),
  (46, .aload_n 0, 1, (0, 0, 0, 0), none),
  (47, .dup, 1, (0, 0, 0, 0), none),
  (48, .getfield 30, 3, (20, 4, 0, 0), none),
  (51, .iload_n 2, 1, (0, 0, 0, 0), none),
  (52, .iadd, 1, (0, 0, 0, 0), none),
  (53, .putfield 30, 3, (20, 4, 0, 0), none),
  (56, .aload_n 0, 1, (0, 0, 0, 0), none),
  (57, .getfield 27, 3, (20, 3, 0, 0), none),
  (60, .ineg, 1, (0, 0, 0, 0), none),
  (61, .ireturn, 1, (0, 0, 0, 0), none)]
def cd_X10_vehicleOf : List sm_E := [(0, .iload_n 1, 1, (0, 0, 0, 0), none),
  (1, .ifCond .le 22, 3, (0, 0, 0, 0), none),
  (4, .iload_n 1, 1, (0, 0, 0, 0), none),
  (5, .aload_n 0, 1, (0, 0, 0, 0), none),
  (6, .getfield 23, 3, (20, 2, 0, 0), none),
  (9, .if_icmp .gt 14, 3, (0, 0, 0, 0), none),
  (12, .aload_n 0, 1, (0, 0, 0, 0), none),
  (13, .getfield 13, 3, (20, 0, 56, 0), none),
  (16, .iload_n 1, 1, (0, 0, 0, 0), none),
  (17, .iconst 1, 1, (0, 0, 0, 0), none),
  (18, .isub, 1, (0, 0, 0, 0), none),
  (19, .aaload, 1, (56, 300, 0, 0), none),
  (20, .goto 4, 3, (0, 0, 0, 0), none),
  (23, .aconst_null, 1, (0, 0, 0, 0), none),
  (24, .areturn, 1, (0, 0, 0, 0), none)]
def cd_X10_rowOf : List sm_E := [(0, .iload_n 1, 1, (0, 0, 0, 0), none),
  (1, .ifCond .ge 24, 3, (0, 0, 0, 0), none),
  (4, .iload_n 1, 1, (0, 0, 0, 0), none),
  (5, .aload_n 0, 1, (0, 0, 0, 0), none),
  (6, .getfield 27, 3, (20, 3, 0, 0), none),
  (9, .ineg, 1, (0, 0, 0, 0), none),
  (10, .if_icmp .lt 15, 3, (0, 0, 0, 0), none),
  (13, .aload_n 0, 1, (0, 0, 0, 0), none),
  (14, .getfield 19, 3, (20, 1, 57, 0), none),
  (17, .iload_n 1, 1, (0, 0, 0, 0), none),
  (18, .ineg, 1, (0, 0, 0, 0), none),
  (19, .iconst 1, 1, (0, 0, 0, 0), none),
  (20, .isub, 1, (0, 0, 0, 0), none),
  (21, .aaload, 1, (57, 200, 0, 0), none),
  (22, .goto 4, 3, (0, 0, 0, 0), none),
  (25, .aconst_null, 1, (0, 0, 0, 0), none),
  (26, .areturn, 1, (0, 0, 0, 0), none)]
def cd_X10_referenceToVehicle : List sm_E := [(0, .aload_n 0, 1, (0, 0, 0, 0), none),
  (1, .ifnonnull 7, 3, (0, 0, 0, 0), none),
  (4, .iconst 0, 1, (0, 0, 0, 0), none),
  (5, .goto 9, 3, (0, 0, 0, 0), none),
  (8, .aload_n 0, 1, (0, 0, 0, 0), none),
  (9, .getfield 47, 3, (19, 1, 0, 0), none),
  (12, .iconst 1, 1, (0, 0, 0, 0), none),
  (13, .iadd, 1, (0, 0, 0, 0), none),
  (14, .ireturn, 1, (0, 0, 0, 0), none)]
def cd_X10_referenceToRow : List sm_E := [(0, .aload_n 0, 1, (0, 0, 0, 0), none),
  (1, .ifnonnull 7, 3, (0, 0, 0, 0), none),
  (4, .iconst 0, 1, (0, 0, 0, 0), none),
  (5, .goto 9, 3, (0, 0, 0, 0), none),
  (8, .iconst (-1), 1, (0, 0, 0, 0), none),
  (9, .aload_n 0, 1, (0, 0, 0, 0), none),
  (10, .getfield 50, 3, (16, 1, 0, 0), none),
  (13, .isub, 1, (0, 0, 0, 0), none),
  (14, .ireturn, 1, (0, 0, 0, 0), none)]
def cd_X10_typeOf : List sm_E := [(0, .aload_n 0, 1, (0, 0, 0, 0), none),
  (1, .iload_n 1, 1, (0, 0, 0, 0), none),
  (2, .invokevirtual 51, 3, (162, 2, 3, 20), none),
  (5, .astore_n 2, 1, (0, 0, 0, 0), none),
  (6, .aload_n 2, 1, (0, 0, 0, 0), none),
  (7, .ifnull 11, 3, (0, 0, 0, 0), none),
  (10, .bipush 18, 2, (0, 0, 0, 0), none),
  (12, .aload_n 2, 1, (0, 0, 0, 0), none),
  (13, .getfield 57, 3, (16, 0, 0, 0), none),
  (16, .iadd, 1, (0, 0, 0, 0), none),
  (17, .ireturn, 1, (0, 0, 0, 0), none),
  (18, .aload_n 0, 1, (0, 0, 0, 0), none),
  (19, .iload_n 1, 1, (0, 0, 0, 0), none),
  (20, .invokevirtual 60, 3, (161, 2, 3, 20), none),
  (23, .astore_n 3, 1, (0, 0, 0, 0), none),
  (24, .aload_n 3, 1, (0, 0, 0, 0), none),
  (25, .ifnonnull 7, 3, (0, 0, 0, 0), none),
  (28, .iconst (-1), 1, (0, 0, 0, 0), none),
  (29, .goto 7, 3, (0, 0, 0, 0), none),
  (32, .aload_n 3, 1, (0, 0, 0, 0), none),
  (33, .getfield 64, 3, (19, 0, 0, 0), none),
  (36, .ireturn, 1, (0, 0, 0, 0), none)]
def cd_X11_init : List sm_E := [(0, .aload_n 0, 1, (0, 0, 0, 0), none),
  (1, .invokespecial 1, 3, (0, 0, 0, 1002), none),
  (4, .aload_n 0, 1, (0, 0, 0, 0), none),
  (5, .new 7, 3, (17, 8, 0, 0), none),
  (8, .dup, 1, (0, 0, 0, 0), none),
  (9, .invokespecial 9, 3, (129, 1, 0, 17), none),
  (12, .putfield 10, 3, (21, 0, 17, 0), none),
  (15, .aload_n 0, 1, (0, 0, 0, 0), none),
  (16, .new 16, 3, (20, 5, 0, 0), none),
  (19, .dup, 1, (0, 0, 0, 0), none),
  (20, .invokespecial 18, 3, (156, 1, 0, 20), none),
  (23, .putfield 19, 3, (21, 1, 20, 0), none),
  (26, .aload_n 0, 1, (0, 0, 0, 0), none),
  (27, .new 23, 3, (12, 5, 0, 0), none),
  (30, .dup, 1, (0, 0, 0, 0), none),
  (31, .invokespecial 25, 3, (30, 1, 0, 12), none),
  (34, .putfield 26, 3, (21, 2, 12, 0), none),
  (37, .aload_n 0, 1, (0, 0, 0, 0), none),
  (38, .new 30, 3, (10, 13, 0, 0), none),
  (41, .dup, 1, (0, 0, 0, 0), none),
  (42, .invokespecial 32, 3, (0, 1, 0, 10), none),
  (45, .putfield 33, 3, (21, 5, 2, 0), none),
  (48, .aload_n 0, 1, (0, 0, 0, 0), none),
  (49, .new 30, 3, (10, 13, 0, 0), none),
  (52, .dup, 1, (0, 0, 0, 0), none),
  (53, .invokespecial 32, 3, (0, 1, 0, 10), none),
  (56, .putfield 37, 3, (21, 6, 2, 0), none),
  (59, .aload_n 0, 1, (0, 0, 0, 0), none),
  (60, .new 40, 3, (15, 13, 0, 0), none),
  (63, .dup, 1, (0, 0, 0, 0), none),
  (64, .aload_n 0, 1, (0, 0, 0, 0), none),
  (65, .getfield 10, 3, (21, 0, 17, 0), none),
  (68, .aload_n 0, 1, (0, 0, 0, 0), none),
  (69, .getfield 37, 3, (21, 6, 2, 0), none),
  (72, .invokespecial 42, 3, (81, 3, 0, 15), none),
  (75, .putfield 45, 3, (21, 3, 15, 0), none),
  (78, .aload_n 0, 1, (0, 0, 0, 0), none),
  (79, .new 49, 3, (13, 18, 0, 0), none),
  (82, .dup, 1, (0, 0, 0, 0), none),
  (83, .aload_n 0, 1, (0, 0, 0, 0), none),
  (84, .getfield 19, 3, (21, 1, 20, 0), none),
  (87, .aload_n 0, 1, (0, 0, 0, 0), none),
  (88, .getfield 26, 3, (21, 2, 12, 0), none),
  (91, .aload_n 0, 1, (0, 0, 0, 0), none),
  (92, .getfield 33, 3, (21, 5, 2, 0), none),
  (95, .invokespecial 51, 3, (41, 4, 0, 13), none),
  (98, .putfield 54, 3, (21, 4, 13, 0), none),
  (101, .return_, 1, (0, 0, 0, 0), none)]
def cd_X11_feed : List sm_E := [(0, .aload_n 0, 1, (0, 0, 0, 0), none),
  (1, .getfield 10, 3, (21, 0, 17, 0), none),
  (4, .invokevirtual 58, 3, (130, 1, 1, 17), none),
  (7, .ifCond .ne 5, 3, (0, 0, 0, 0), none),
  (10, .iconst (-1), 1, (0, 0, 0, 0), none),
  (11, .ireturn, 1, (0, 0, 0, 0), none),
  (12, .aload_n 0, 1, (0, 0, 0, 0), none),
  (13, .getfield 10, 3, (21, 0, 17, 0), none),
  (16, .iload_n 1, 1, (0, 0, 0, 0), none),
  (17, .invokevirtual 62, 3, (131, 2, 0, 17), none),
  (20, .aload_n 0, 1, (0, 0, 0, 0), none),
  (21, .getfield 10, 3, (21, 0, 17, 0), none),
  (24, .iload_n 2, 1, (0, 0, 0, 0), none),
  (25, .invokevirtual 62, 3, (131, 2, 0, 17), none),
  (28, .aload_n 0, 1, (0, 0, 0, 0), none),
  (29, .getfield 10, 3, (21, 0, 17, 0), none),
  (32, .iload_n 3, 1, (0, 0, 0, 0), none),
  (33, .invokevirtual 62, 3, (131, 2, 0, 17), none),
  (36, .aload_n 0, 1, (0, 0, 0, 0), none),
  (37, .getfield 10, 3, (21, 0, 17, 0), none),
  (40, .iload 4, 2, (0, 0, 0, 0), none),
  (42, .invokevirtual 62, 3, (131, 2, 0, 17), none),
  (45, .aload_n 0, 1, (0, 0, 0, 0), none),
  (46, .getfield 10, 3, (21, 0, 17, 0), none),
  (49, .iload 5, 2, (0, 0, 0, 0), none),
  (51, .invokevirtual 62, 3, (131, 2, 0, 17), none),
  (54, .aload_n 0, 1, (0, 0, 0, 0), none),
  (55, .getfield 10, 3, (21, 0, 17, 0), none),
  (58, .getfield 66, 3, (17, 1, 0, 0), none),
  (61, .ireturn, 1, (0, 0, 0, 0), none)]
def cd_X11_load : List sm_E := [(0, .iload_n 1, 1, (0, 0, 0, 0), none),
  (1, .ifCond .lt 14, 3, (0, 0, 0, 0), none),
  (4, .iload_n 1, 1, (0, 0, 0, 0), none),
  (5, .aload_n 0, 1, (0, 0, 0, 0), none),
  (6, .getfield 10, 3, (21, 0, 17, 0), none),
  (9, .getfield 66, 3, (17, 1, 0, 0), none),
  (12, .if_icmp .le 5, 3, (0, 0, 0, 0), none),
  (15, .iconst (-1), 1, (0, 0, 0, 0), none),
  (16, .ireturn, 1, (0, 0, 0, 0), none),
  (17, .aload_n 0, 1, (0, 0, 0, 0), none),
  (18, .getfield 10, 3, (21, 0, 17, 0), none),
  (21, .iload_n 1, 1, (0, 0, 0, 0), none),
  (22, .invokevirtual 70, 3, (132, 2, 0, 17), none),
  (25, .aload_n 0, 1, (0, 0, 0, 0), none),
  (26, .getfield 10, 3, (21, 0, 17, 0), none),
  (29, .iconst 0, 1, (0, 0, 0, 0), none),
  (30, .putfield 66, 3, (17, 1, 0, 0), none),
  (33, .aload_n 0, 1, (0, 0, 0, 0), none),
  (34, .getfield 45, 3, (21, 3, 15, 0), none),
  (37, .aload_n 0, 1, (0, 0, 0, 0), none),
  (38, .getfield 37, 3, (21, 6, 2, 0), none),
  (41, .invokevirtual 73, 3, (82, 2, 0, 15), none),
  (44, .aload_n 0, 1, (0, 0, 0, 0), none),
  (45, .getfield 45, 3, (21, 3, 15, 0), none),
  (48, .getfield 77, 3, (15, 11, 0, 0), none),
  (51, .ifCond .eq 5, 3, (0, 0, 0, 0), none),
  (54, .iconst 0, 1, (0, 0, 0, 0), none),
  (55, .ireturn, 1, (0, 0, 0, 0), none),
  (56, .aload_n 0, 1, (0, 0, 0, 0), none),
  (57, .getfield 37, 3, (21, 6, 2, 0), none),
  (60, .astore_n 2, 1, (0, 0, 0, 0), none),
  (61, .aload_n 0, 1, (0, 0, 0, 0), none),
  (62, .aload_n 0, 1, (0, 0, 0, 0), none),
  (63, .getfield 33, 3, (21, 5, 2, 0), none),
  (66, .putfield 37, 3, (21, 6, 2, 0), none),
  (69, .aload_n 0, 1, (0, 0, 0, 0), none),
  (70, .aload_n 2, 1, (0, 0, 0, 0), none),
  (71, .putfield 33, 3, (21, 5, 2, 0), none),
  (74, .aload_n 0, 1, (0, 0, 0, 0), none),
  (75, .getfield 33, 3, (21, 5, 2, 0), none),
  (78, .invokevirtual 80, 3, (2, 1, 1, 10), none),
  (81, .ireturn, 1, (0, 0, 0, 0), none)]
def cd_X11_fault : List sm_E := [(0, .iload_n 1, 1, (0, 0, 0, 0), none),
  (1, .ifCond .ne 11, 3, (0, 0, 0, 0), none),
  (4, .aload_n 0, 1, (0, 0, 0, 0), none),
  (5, .getfield 45, 3, (21, 3, 15, 0), none),
  (8, .getfield 77, 3, (15, 11, 0, 0), none),
  (11, .ireturn, 1, (0, 0, 0, 0), none),
  (12, .iload_n 1, 1, (0, 0, 0, 0), none),
  (13, .iconst 1, 1, (0, 0, 0, 0), none),
  (14, .if_icmp .ne 13, 3, (0, 0, 0, 0), none),
  (17, .aload_n 0, 1, (0, 0, 0, 0), none),
  (18, .getfield 45, 3, (21, 3, 15, 0), none),
  (21, .getfield 84, 3, (15, 12, 0, 0), none),
  (24, .goto 4, 3, (0, 0, 0, 0), none),
  (27, .iconst (-1), 1, (0, 0, 0, 0), none),
  (28, .ireturn, 1, (0, 0, 0, 0), none)]
def cd_X11_run : List sm_E := [(0, .iload_n 1, 1, (0, 0, 0, 0), none),
  (1, .ifCond .lt 27, 3, (0, 0, 0, 0), none),
  (4, .iload_n 1, 1, (0, 0, 0, 0), none),
  (5, .aload_n 0, 1, (0, 0, 0, 0), none),
  (6, .getfield 33, 3, (21, 5, 2, 0), none),
  (9, .invokevirtual 80, 3, (2, 1, 1, 10), none),
  (12, .if_icmp .ge 16, 3, (0, 0, 0, 0), none),
  (15, .iload 4, 2, (0, 0, 0, 0), none),
  (17, .ifCond .lt 11, 3, (0, 0, 0, 0), none),
  (20, .iload 4, 2, (0, 0, 0, 0), none),
  (22, .sipush 2000, 3, (0, 0, 0, 0), none),
  (25, .if_icmp .le 5, 3, (0, 0, 0, 0), none),
  (28, .iconst (-1), 1, (0, 0, 0, 0), none),
  (29, .ireturn, 1, (0, 0, 0, 0), none),
  (30, .iconst 5, 1, (0, 0, 0, 0), none),
  (31, .iload_n 1, 1, (0, 0, 0, 0), none),
  (32, .iadd, 1, (0, 0, 0, 0), none),
  (33, .istore 5, 2, (0, 0, 0, 0), none),
  (35, .aload_n 0, 1, (0, 0, 0, 0), none),
  (36, .getfield 33, 3, (21, 5, 2, 0), none),
  (39, .iload 5, 2, (0, 0, 0, 0), none),
  (41, .invokevirtual 87, 3, (12, 2, 1, 10), none),
  (44, .ifCond .eq 23, 3, (0, 0, 0, 0), none),
  (47, .aload_n 0, 1, (0, 0, 0, 0), none),
  (48, .getfield 54, 3, (21, 4, 13, 0), none),
  (51, .aload_n 0, 1, (0, 0, 0, 0), none),
  (52, .getfield 33, 3, (21, 5, 2, 0), none),
  (55, .iload 5, 2, (0, 0, 0, 0), none),
  (57, .iload_n 2, 1, (0, 0, 0, 0), none),
  (58, .iload_n 3, 1, (0, 0, 0, 0), none),
  (59, .iload 4, 2, (0, 0, 0, 0), none),
  (61, .invokevirtual 91, 3, (42, 6, 1, 13), none),
  (64, .goto 4, 3, (0, 0, 0, 0), none),
  (67, .iconst (-1), 1, (0, 0, 0, 0), none),
  (68, .ireturn, 1, (0, 0, 0, 0), none)]
def cd_X11_told : List sm_E := [(0, .aload_n 0, 1, (0, 0, 0, 0), none),
  (1, .getfield 54, 3, (21, 4, 13, 0), none),
  (4, .iload_n 1, 1, (0, 0, 0, 0), none),
  (5, .invokevirtual 95, 3, (44, 2, 1, 13), none),
  (8, .ireturn, 1, (0, 0, 0, 0), none)]
def cd_X11_said : List sm_E := [(0, .iload_n 1, 1, (0, 0, 0, 0), none),
  (1, .ifCond .lt 14, 3, (0, 0, 0, 0), none),
  (4, .iload_n 1, 1, (0, 0, 0, 0), none),
  (5, .aload_n 0, 1, (0, 0, 0, 0), none),
  (6, .getfield 54, 3, (21, 4, 13, 0), none),
  (9, .getfield 99, 3, (13, 16, 0, 0), none),
  (12, .if_icmp .lt 7, 3, (0, 0, 0, 0), none),
  (15, .iconst 0, 1, (0, 0, 0, 0), none),
  (16, .goto 12, 3, (0, 0, 0, 0), none),
  (19, .aload_n 0, 1, (0, 0, 0, 0), none),
  (20, .getfield 54, 3, (21, 4, 13, 0), none),
  (23, .getfield 102, 3, (13, 15, 46, 0), none),
  (26, .iload_n 1, 1, (0, 0, 0, 0), none),
  (27, .iaload, 1, (46, 300, 0, 0), none),
  (28, .ireturn, 1, (0, 0, 0, 0), none)]
def cd_X11_state : List sm_E := [(0, .aload_n 0, 1, (0, 0, 0, 0), none),
  (1, .getfield 26, 3, (21, 2, 12, 0), none),
  (4, .iload_n 1, 1, (0, 0, 0, 0), none),
  (5, .iload_n 2, 1, (0, 0, 0, 0), none),
  (6, .invokevirtual 106, 3, (32, 3, 1, 12), none),
  (9, .ireturn, 1, (1, 0, 0, 0), none)]
def cd_X11_tick : List sm_E := [(0, .iload_n 1, 1, (0, 0, 0, 0), none),
  (1, .ifCond .lt 10, 3, (0, 0, 0, 0), none),
  (4, .iload_n 1, 1, (0, 0, 0, 0), none),
  (5, .sipush 200, 3, (0, 0, 0, 0), none),
  (8, .if_icmp .le 7, 3, (0, 0, 0, 0), none),
  (11, .iconst (-1), 1, (0, 0, 0, 0), none),
  (12, .goto 11, 3, (0, 0, 0, 0), none),
  (15, .aload_n 0, 1, (0, 0, 0, 0), none),
  (16, .getfield 26, 3, (21, 2, 12, 0), none),
  (19, .iload_n 1, 1, (0, 0, 0, 0), none),
  (20, .invokevirtual 110, 3, (36, 2, 1, 12), none),
  (23, .ireturn, 1, (0, 0, 0, 0), none)]
def cd_X11_vehicle : List sm_E := [(0, .iload_n 1, 1, (0, 0, 0, 0), none),
  (1, .ifCond .lt 14, 3, (0, 0, 0, 0), none),
  (4, .iload_n 1, 1, (0, 0, 0, 0), none),
  (5, .aload_n 0, 1, (0, 0, 0, 0), none),
  (6, .getfield 19, 3, (21, 1, 20, 0), none),
  (9, .getfield 113, 3, (20, 2, 0, 0), none),
  (12, .if_icmp .lt 7, 3, (0, 0, 0, 0), none),
  (15, .aconst_null, 1, (0, 0, 0, 0), none),
  (16, .goto 12, 3, (0, 0, 0, 0), none),
  (19, .aload_n 0, 1, (0, 0, 0, 0), none),
  (20, .getfield 19, 3, (21, 1, 20, 0), none),
  (23, .getfield 116, 3, (20, 0, 56, 0), none),
  (26, .iload_n 1, 1, (0, 0, 0, 0), none),
  (27, .aaload, 1, (56, 300, 0, 0), none),
  (28, .astore_n 3, 1, (0, 0, 0, 0), some [2]),
  (29, .aload_n 3, 1, (0, 0, 0, 0), none),
  (30, .ifnonnull 7, 3, (0, 0, 0, 0), none),
  (33, .iconst (-1), 1, (0, 0, 0, 0), none),
  (34, .goto 8, 3, (0, 0, 0, 0), none),
  (37, .aload_n 3, 1, (0, 0, 0, 0), none),
  (38, .iload_n 2, 1, (0, 0, 0, 0), none),
  (39, .invokevirtual 120, 3, (151, 2, 1, 19), none),
  (42, .ireturn, 1, (0, 0, 0, 0), none)]
def cd_X11_track : List sm_E := [(0, .aload_n 0, 1, (0, 0, 0, 0), none),
  (1, .getfield 26, 3, (21, 2, 12, 0), none),
  (4, .iload_n 1, 1, (0, 0, 0, 0), none),
  (5, .iload_n 2, 1, (0, 0, 0, 0), none),
  (6, .invokevirtual 125, 3, (38, 3, 1, 12), none),
  (9, .ireturn, 1, (0, 0, 0, 0), none)]
def cd_X11_place : List sm_E := [(0, .aload_n 0, 1, (0, 0, 0, 0), none),
  (1, .getfield 26, 3, (21, 2, 12, 0), none),
  (4, .iload_n 1, 1, (0, 0, 0, 0), none),
  (5, .invokevirtual 129, 3, (33, 2, 3, 12), none),
  (8, .astore_n 3, 1, (0, 0, 0, 0), none),
  (9, .aload_n 3, 1, (0, 0, 0, 0), none),
  (10, .ifnonnull 7, 3, (0, 0, 0, 0), none),
  (13, .aconst_null, 1, (0, 0, 0, 0), none),
  (14, .goto 8, 3, (0, 0, 0, 0), none),
  (17, .aload_n 3, 1, (0, 0, 0, 0), none),
  (18, .iload_n 2, 1, (0, 0, 0, 0), none),
  (19, .invokevirtual 133, 3, (122, 2, 3, 16), none),
  (22, .astore 4, 2, (0, 0, 0, 0), none),
  (24, .aload 4, 2, (0, 0, 0, 0), none),
  (26, .ifnonnull 7, 3, (0, 0, 0, 0), none),
  (29, .iconst (-1), 1, (0, 0, 0, 0), none),
  (30, .goto 8, 3, (0, 0, 0, 0), none),
  (33, .aload 4, 2, (0, 0, 0, 0), none),
  (35, .getfield 139, 3, (19, 1, 0, 0), none),
  (38, .ireturn, 1, (0, 0, 0, 0), none)]
def cd_X11_train : List sm_E := [(0, .aload_n 0, 1, (0, 0, 0, 0), none),
  (1, .getfield 26, 3, (21, 2, 12, 0), none),
  (4, .iload_n 1, 1, (0, 0, 0, 0), none),
  (5, .iload_n 2, 1, (0, 0, 0, 0), none),
  (6, .invokevirtual 142, 3, (40, 3, 1, 12), none),
  (9, .ireturn, 1, (0, 0, 0, 0), none)]
def cd_X11_count : List sm_E := [(0, .iload_n 1, 1, (0, 0, 0, 0), none),
  (1, .tableswitch 123 0 8 #[51, 59, 67, 75, 83, 91, 99, 107, 115], 51, (0, 0, 0, 0), none),
  (52, .aload_n 0, 1, (0, 0, 0, 0), none),
  (53, .getfield 33, 3, (21, 5, 2, 0), none),
  (56, .invokevirtual 80, 3, (2, 1, 1, 10), none),
  (59, .ireturn, 1, (0, 0, 0, 0), none),
  (60, .aload_n 0, 1, (0, 0, 0, 0), none),
  (61, .getfield 19, 3, (21, 1, 20, 0), none),
  (64, .getfield 113, 3, (20, 2, 0, 0), none),
  (67, .ireturn, 1, (0, 0, 0, 0), none),
  (68, .aload_n 0, 1, (0, 0, 0, 0), none),
  (69, .getfield 19, 3, (21, 1, 20, 0), none),
  (72, .getfield 145, 3, (20, 3, 0, 0), none),
  (75, .ireturn, 1, (0, 0, 0, 0), none),
  (76, .aload_n 0, 1, (0, 0, 0, 0), none),
  (77, .getfield 19, 3, (21, 1, 20, 0), none),
  (80, .getfield 148, 3, (20, 4, 0, 0), none),
  (83, .ireturn, 1, (0, 0, 0, 0), none),
  (84, .aload_n 0, 1, (0, 0, 0, 0), none),
  (85, .getfield 26, 3, (21, 2, 12, 0), none),
  (88, .getfield 151, 3, (12, 3, 0, 0), none),
  (91, .ireturn, 1, (0, 0, 0, 0), none),
  (92, .aload_n 0, 1, (0, 0, 0, 0), none),
  (93, .getfield 26, 3, (21, 2, 12, 0), none),
  (96, .getfield 154, 3, (12, 4, 0, 0), none),
  (99, .ireturn, 1, (0, 0, 0, 0), none),
  (100, .aload_n 0, 1, (0, 0, 0, 0), none),
  (101, .getfield 54, 3, (21, 4, 13, 0), none),
  (104, .getfield 157, 3, (13, 17, 0, 0), none),
  (107, .ireturn, 1, (0, 0, 0, 0), none),
  (108, .aload_n 0, 1, (0, 0, 0, 0), none),
  (109, .getfield 54, 3, (21, 4, 13, 0), none),
  (112, .getfield 99, 3, (13, 16, 0, 0), none),
  (115, .ireturn, 1, (0, 0, 0, 0), none),
  (116, .aload_n 0, 1, (0, 0, 0, 0), none),
  (117, .getfield 10, 3, (21, 0, 17, 0), none),
  (120, .getfield 66, 3, (17, 1, 0, 0), none),
  (123, .ireturn, 1, (0, 0, 0, 0), none),
  (124, .iconst (-1), 1, (0, 0, 0, 0), none),
  (125, .ireturn, 1, (0, 0, 0, 0), none)]
def cd_X12_init : List sm_E := [(0, .aload_n 0, 1, (0, 0, 0, 0), none),
  (1, .invokespecial 1, 3, (0, 0, 0, 1002), none),
  (4, .aload_n 0, 1, (0, 0, 0, 0), none),
  (5, .bipush 12, 2, (0, 0, 0, 0), none),
  (7, .newarray .long, 2, (58, 12, 0, 0), none),
  (9, .putfield 7, 3, (22, 1, 58, 0), none),
  (12, .aload_n 0, 1, (0, 0, 0, 0), none),
  (13, .bipush 12, 2, (0, 0, 0, 0), none),
  (15, .newarray .int, 2, (59, 12, 0, 0), none),
  (17, .putfield 13, 3, (22, 2, 59, 0), none),
  (20, .aload_n 0, 1, (0, 0, 0, 0), none),
  (21, .bipush 12, 2, (0, 0, 0, 0), none),
  (23, .newarray .int, 2, (60, 12, 0, 0), none),
  (25, .putfield 17, 3, (22, 3, 60, 0), none),
  (28, .aload_n 0, 1, (0, 0, 0, 0), none),
  (29, .bipush 48, 2, (0, 0, 0, 0), none),
  (31, .newarray .int, 2, (61, 48, 0, 0), none),
  (33, .putfield 20, 3, (22, 4, 61, 0), none),
  (36, .aload_n 0, 1, (0, 0, 0, 0), none),
  (37, .bipush 12, 2, (0, 0, 0, 0), none),
  (39, .newarray .int, 2, (62, 12, 0, 0), none),
  (41, .putfield 23, 3, (22, 5, 62, 0), none),
  (44, .aload_n 0, 1, (0, 0, 0, 0), none),
  (45, .sipush 4000, 3, (0, 0, 0, 0), none),
  (48, .newarray .int, 2, (63, 4000, 0, 0), none),
  (50, .putfield 26, 3, (22, 7, 63, 0), none),
  (53, .aload_n 0, 1, (0, 0, 0, 0), none),
  (54, .sipush 4000, 3, (0, 0, 0, 0), none),
  (57, .newarray .int, 2, (64, 4000, 0, 0), none),
  (59, .putfield 29, 3, (22, 8, 64, 0), none),
  (62, .aload_n 0, 1, (0, 0, 0, 0), none),
  (63, .sipush 4000, 3, (0, 0, 0, 0), none),
  (66, .newarray .int, 2, (65, 4000, 0, 0), none),
  (68, .putfield 32, 3, (22, 9, 65, 0), none),
  (71, .aload_n 0, 1, (0, 0, 0, 0), none),
  (72, .sipush 4000, 3, (0, 0, 0, 0), none),
  (75, .newarray .int, 2, (66, 4000, 0, 0), none),
  (77, .putfield 35, 3, (22, 10, 66, 0), none),
  (80, .return_, 1, (0, 0, 0, 0), none)]
def cd_X13_has : List sm_E := [(0, .iload_n 1, 1, (0, 0, 0, 0), none),
  (1, .tableswitch 119 13 16 #[31, 63, 81, 101], 31, (0, 0, 0, 0), none),
  (32, .iload_n 0, 1, (0, 0, 0, 0), none),
  (33, .iconst 5, 1, (0, 0, 0, 0), none),
  (34, .invokestatic 3, 3, (182, 2, 1, 0), none),
  (37, .ifCond .ne 21, 3, (0, 0, 0, 0), none),
  (40, .iload_n 0, 1, (0, 0, 0, 0), none),
  (41, .bipush 6, 2, (0, 0, 0, 0), none),
  (43, .invokestatic 3, 3, (182, 2, 1, 0), none),
  (46, .ifCond .ne 12, 3, (0, 0, 0, 0), none),
  (49, .iload_n 0, 1, (0, 0, 0, 0), none),
  (50, .bipush 7, 2, (0, 0, 0, 0), none),
  (52, .invokestatic 3, 3, (182, 2, 1, 0), none),
  (55, .ifCond .eq 7, 3, (0, 0, 0, 0), none),
  (58, .iconst 1, 1, (0, 0, 0, 0), none),
  (59, .goto 4, 3, (0, 0, 0, 0), none),
  (62, .iconst 0, 1, (0, 0, 0, 0), none),
  (63, .ireturn, 1, (1, 0, 0, 0), none),
  (64, .iload_n 0, 1, (0, 0, 0, 0), none),
  (65, .bipush 10, 2, (0, 0, 0, 0), none),
  (67, .if_icmp .eq 9, 3, (0, 0, 0, 0), none),
  (70, .iload_n 0, 1, (0, 0, 0, 0), none),
  (71, .bipush 11, 2, (0, 0, 0, 0), none),
  (73, .if_icmp .ne 7, 3, (0, 0, 0, 0), none),
  (76, .iconst 1, 1, (0, 0, 0, 0), none),
  (77, .goto 4, 3, (0, 0, 0, 0), none),
  (80, .iconst 0, 1, (0, 0, 0, 0), none),
  (81, .ireturn, 1, (1, 0, 0, 0), none),
  (82, .iload_n 0, 1, (0, 0, 0, 0), none),
  (83, .iconst 1, 1, (0, 0, 0, 0), none),
  (84, .invokestatic 3, 3, (182, 2, 1, 0), none),
  (87, .ifCond .ne 9, 3, (0, 0, 0, 0), none),
  (90, .iload_n 0, 1, (0, 0, 0, 0), none),
  (91, .bipush 8, 2, (0, 0, 0, 0), none),
  (93, .if_icmp .ne 7, 3, (0, 0, 0, 0), none),
  (96, .iconst 1, 1, (0, 0, 0, 0), none),
  (97, .goto 4, 3, (0, 0, 0, 0), none),
  (100, .iconst 0, 1, (0, 0, 0, 0), none),
  (101, .ireturn, 1, (1, 0, 0, 0), none),
  (102, .iload_n 0, 1, (0, 0, 0, 0), none),
  (103, .bipush 9, 2, (0, 0, 0, 0), none),
  (105, .if_icmp .eq 9, 3, (0, 0, 0, 0), none),
  (108, .iload_n 0, 1, (0, 0, 0, 0), none),
  (109, .bipush 12, 2, (0, 0, 0, 0), none),
  (111, .if_icmp .ne 7, 3, (0, 0, 0, 0), none),
  (114, .iconst 1, 1, (0, 0, 0, 0), none),
  (115, .goto 4, 3, (0, 0, 0, 0), none),
  (118, .iconst 0, 1, (0, 0, 0, 0), none),
  (119, .ireturn, 1, (1, 0, 0, 0), none),
  (120, .iload_n 0, 1, (0, 0, 0, 0), none),
  (121, .iconst 3, 1, (0, 0, 0, 0), none),
  (122, .if_icmp .eq 17, 3, (0, 0, 0, 0), none),
  (125, .iload_n 0, 1, (0, 0, 0, 0), none),
  (126, .iconst 4, 1, (0, 0, 0, 0), none),
  (127, .invokestatic 3, 3, (182, 2, 1, 0), none),
  (130, .ifCond .ne 9, 3, (0, 0, 0, 0), none),
  (133, .iload_n 0, 1, (0, 0, 0, 0), none),
  (134, .bipush 10, 2, (0, 0, 0, 0), none),
  (136, .if_icmp .ne 7, 3, (0, 0, 0, 0), none),
  (139, .iconst 1, 1, (0, 0, 0, 0), none),
  (140, .goto 4, 3, (0, 0, 0, 0), none),
  (143, .iconst 0, 1, (0, 0, 0, 0), none),
  (144, .ireturn, 1, (1, 0, 0, 0), none)]
def cd_X13_isBelow : List sm_E := [(0, .iload_n 0, 1, (0, 0, 0, 0), none),
  (1, .iload_n 1, 1, (0, 0, 0, 0), none),
  (2, .if_icmp .ne 5, 3, (0, 0, 0, 0), none),
  (5, .iconst 1, 1, (0, 0, 0, 0), none),
  (6, .ireturn, 1, (1, 0, 0, 0), none),
  (7, .iload_n 0, 1, (0, 0, 0, 0), none),
  (8, .bipush 13, 2, (0, 0, 0, 0), none),
  (10, .if_icmp .lt 5, 3, (0, 0, 0, 0), none),
  (13, .iconst 0, 1, (0, 0, 0, 0), none),
  (14, .ireturn, 1, (1, 0, 0, 0), none),
  (15, .iload_n 1, 1, (0, 0, 0, 0), none),
  (16, .bipush 13, 2, (0, 0, 0, 0), none),
  (18, .if_icmp .lt 9, 3, (0, 0, 0, 0), none),
  (21, .iload_n 0, 1, (0, 0, 0, 0), none),
  (22, .iload_n 1, 1, (0, 0, 0, 0), none),
  (23, .invokestatic 7, 3, (181, 2, 1, 0), none),
  (26, .ireturn, 1, (1, 0, 0, 0), none),
  (27, .getstatic 10, 3, (1, 5, 0, 0), none),
  (30, .iload_n 0, 1, (0, 0, 0, 0), none),
  (31, .iaload, 1, (6, 0, 0, 0), none),
  (32, .istore_n 2, 1, (0, 0, 0, 0), none),
  (33, .iload_n 2, 1, (0, 0, 0, 0), some [1, 2]),
  (34, .iconst (-1), 1, (0, 0, 0, 0), none),
  (35, .if_icmp .eq 17, 3, (0, 0, 0, 0), none),
  (38, .iload_n 2, 1, (0, 0, 0, 0), none),
  (39, .iload_n 1, 1, (0, 0, 0, 0), none),
  (40, .if_icmp .eq 12, 3, (0, 0, 0, 0), none),
  (43, .getstatic 10, 3, (1, 5, 0, 0), none),
  (46, .iload_n 2, 1, (0, 0, 0, 0), none),
  (47, .iaload, 1, (6, 0, 0, 0), none),
  (48, .istore_n 2, 1, (0, 0, 0, 0), none),
  (49, .goto (-16), 3, (0, 0, 0, 0), none),
  (52, .iload_n 2, 1, (0, 0, 0, 0), none),
  (53, .iload_n 1, 1, (0, 0, 0, 0), none),
  (54, .if_icmp .ne 7, 3, (0, 0, 0, 0), none),
  (57, .iconst 1, 1, (0, 0, 0, 0), none),
  (58, .goto 4, 3, (0, 0, 0, 0), none),
  (61, .iconst 0, 1, (0, 0, 0, 0), none),
  (62, .ireturn, 1, (1, 0, 0, 0), none)]
def cd_X13_isReference : List sm_E := [(0, .iload_n 0, 1, (0, 0, 0, 0), none),
  (1, .ifCond .lt 9, 3, (0, 0, 0, 0), none),
  (4, .iload_n 0, 1, (0, 0, 0, 0), none),
  (5, .bipush 36, 2, (0, 0, 0, 0), none),
  (7, .if_icmp .lt 9, 3, (0, 0, 0, 0), none),
  (10, .iload_n 0, 1, (0, 0, 0, 0), none),
  (11, .bipush 37, 2, (0, 0, 0, 0), none),
  (13, .if_icmp .ne 7, 3, (0, 0, 0, 0), none),
  (16, .iconst 1, 1, (0, 0, 0, 0), none),
  (17, .goto 4, 3, (0, 0, 0, 0), none),
  (20, .iconst 0, 1, (0, 0, 0, 0), none),
  (21, .ireturn, 1, (1, 0, 0, 0), none)]
def cd_X13_isRow : List sm_E := [(0, .iload_n 0, 1, (0, 0, 0, 0), none),
  (1, .bipush 18, 2, (0, 0, 0, 0), none),
  (3, .if_icmp .lt 13, 3, (0, 0, 0, 0), none),
  (6, .iload_n 0, 1, (0, 0, 0, 0), none),
  (7, .bipush 36, 2, (0, 0, 0, 0), none),
  (9, .if_icmp .ge 7, 3, (0, 0, 0, 0), none),
  (12, .iconst 1, 1, (0, 0, 0, 0), none),
  (13, .goto 4, 3, (0, 0, 0, 0), none),
  (16, .iconst 0, 1, (0, 0, 0, 0), none),
  (17, .ireturn, 1, (1, 0, 0, 0), none)]
def cd_X13_fits : List sm_E := [(0, .iload_n 0, 1, (0, 0, 0, 0), none),
  (1, .bipush 37, 2, (0, 0, 0, 0), none),
  (3, .if_icmp .ne 8, 3, (0, 0, 0, 0), none),
  (6, .iload_n 1, 1, (0, 0, 0, 0), none),
  (7, .invokestatic 14, 3, (183, 1, 1, 0), none),
  (10, .ireturn, 1, (1, 0, 0, 0), none),
  (11, .iload_n 0, 1, (0, 0, 0, 0), none),
  (12, .bipush 36, 2, (0, 0, 0, 0), none),
  (14, .if_icmp .ge 9, 3, (0, 0, 0, 0), none),
  (17, .iload_n 1, 1, (0, 0, 0, 0), none),
  (18, .bipush 36, 2, (0, 0, 0, 0), none),
  (20, .if_icmp .lt 21, 3, (0, 0, 0, 0), none),
  (23, .iload_n 0, 1, (0, 0, 0, 0), some [0, 1]),
  (24, .bipush 36, 2, (0, 0, 0, 0), none),
  (26, .if_icmp .ne 13, 3, (0, 0, 0, 0), none),
  (29, .iload_n 1, 1, (0, 0, 0, 0), none),
  (30, .bipush 36, 2, (0, 0, 0, 0), none),
  (32, .if_icmp .ne 7, 3, (0, 0, 0, 0), none),
  (35, .iconst 1, 1, (0, 0, 0, 0), none),
  (36, .goto 4, 3, (0, 0, 0, 0), none),
  (39, .iconst 0, 1, (0, 0, 0, 0), none),
  (40, .ireturn, 1, (1, 0, 0, 0), none),
  (41, .iload_n 0, 1, (0, 0, 0, 0), none),
  (42, .invokestatic 18, 3, (184, 1, 1, 0), none),
  (45, .iload_n 1, 1, (0, 0, 0, 0), none),
  (46, .invokestatic 18, 3, (184, 1, 1, 0), none),
  (49, .if_icmp .ne 21, 3, (0, 0, 0, 0), none),
  (52, .iload_n 0, 1, (0, 0, 0, 0), none),
  (53, .bipush 18, 2, (0, 0, 0, 0), none),
  (55, .irem, 1, (0, 0, 0, 0), none),
  (56, .iload_n 1, 1, (0, 0, 0, 0), none),
  (57, .bipush 18, 2, (0, 0, 0, 0), none),
  (59, .irem, 1, (0, 0, 0, 0), none),
  (60, .invokestatic 3, 3, (182, 2, 1, 0), none),
  (63, .ifCond .eq 7, 3, (0, 0, 0, 0), none),
  (66, .iconst 1, 1, (0, 0, 0, 0), none),
  (67, .goto 4, 3, (0, 0, 0, 0), none),
  (70, .iconst 0, 1, (0, 0, 0, 0), none),
  (71, .ireturn, 1, (1, 0, 0, 0), none)]
def cd_X13_mayBe : List sm_E := [(0, .iload_n 0, 1, (0, 0, 0, 0), none),
  (1, .invokestatic 14, 3, (183, 1, 1, 0), none),
  (4, .ifCond .eq 10, 3, (0, 0, 0, 0), none),
  (7, .iload_n 1, 1, (0, 0, 0, 0), none),
  (8, .invokestatic 14, 3, (183, 1, 1, 0), none),
  (11, .ifCond .ne 5, 3, (0, 0, 0, 0), none),
  (14, .iconst 0, 1, (0, 0, 0, 0), none),
  (15, .ireturn, 1, (1, 0, 0, 0), none),
  (16, .iload_n 0, 1, (0, 0, 0, 0), none),
  (17, .bipush 37, 2, (0, 0, 0, 0), none),
  (19, .if_icmp .ne 5, 3, (0, 0, 0, 0), none),
  (22, .iconst 1, 1, (0, 0, 0, 0), none),
  (23, .ireturn, 1, (1, 0, 0, 0), none),
  (24, .iload_n 0, 1, (0, 0, 0, 0), none),
  (25, .invokestatic 18, 3, (184, 1, 1, 0), none),
  (28, .iload_n 1, 1, (0, 0, 0, 0), none),
  (29, .invokestatic 18, 3, (184, 1, 1, 0), none),
  (32, .if_icmp .eq 5, 3, (0, 0, 0, 0), none),
  (35, .iconst 0, 1, (0, 0, 0, 0), none),
  (36, .ireturn, 1, (1, 0, 0, 0), none),
  (37, .iload_n 0, 1, (0, 0, 0, 0), none),
  (38, .bipush 18, 2, (0, 0, 0, 0), none),
  (40, .irem, 1, (0, 0, 0, 0), none),
  (41, .istore_n 2, 1, (0, 0, 0, 0), none),
  (42, .iload_n 1, 1, (0, 0, 0, 0), none),
  (43, .bipush 18, 2, (0, 0, 0, 0), none),
  (45, .irem, 1, (0, 0, 0, 0), none),
  (46, .istore_n 3, 1, (0, 0, 0, 0), none),
  (47, .iload_n 2, 1, (0, 0, 0, 0), none),
  (48, .bipush 13, 2, (0, 0, 0, 0), none),
  (50, .if_icmp .ge 25, 3, (0, 0, 0, 0), none),
  (53, .iload_n 3, 1, (0, 0, 0, 0), none),
  (54, .bipush 13, 2, (0, 0, 0, 0), none),
  (56, .if_icmp .ge 19, 3, (0, 0, 0, 0), none),
  (59, .iload_n 2, 1, (0, 0, 0, 0), none),
  (60, .iload_n 3, 1, (0, 0, 0, 0), none),
  (61, .invokestatic 3, 3, (182, 2, 1, 0), none),
  (64, .ifCond .ne 11, 3, (0, 0, 0, 0), none),
  (67, .iload_n 3, 1, (0, 0, 0, 0), none),
  (68, .iload_n 2, 1, (0, 0, 0, 0), none),
  (69, .invokestatic 3, 3, (182, 2, 1, 0), none),
  (72, .ifCond .eq 7, 3, (0, 0, 0, 0), none),
  (75, .iconst 1, 1, (0, 0, 0, 0), none),
  (76, .goto 4, 3, (0, 0, 0, 0), none),
  (79, .iconst 0, 1, (0, 0, 0, 0), none),
  (80, .ireturn, 1, (1, 0, 0, 0), none)]
def cd_X13_isSmall : List sm_E := [(0, .iload_n 0, 1, (0, 0, 0, 0), none),
  (1, .bipush 97, 2, (0, 0, 0, 0), none),
  (3, .if_icmp .lt 13, 3, (0, 0, 0, 0), none),
  (6, .iload_n 0, 1, (0, 0, 0, 0), none),
  (7, .bipush 122, 2, (0, 0, 0, 0), none),
  (9, .if_icmp .gt 7, 3, (0, 0, 0, 0), none),
  (12, .iconst 1, 1, (0, 0, 0, 0), none),
  (13, .goto 4, 3, (0, 0, 0, 0), none),
  (16, .iconst 0, 1, (0, 0, 0, 0), none),
  (17, .ireturn, 1, (1, 0, 0, 0), none)]
def cd_X13_isCapital : List sm_E := [(0, .iload_n 0, 1, (0, 0, 0, 0), none),
  (1, .bipush 65, 2, (0, 0, 0, 0), none),
  (3, .if_icmp .lt 13, 3, (0, 0, 0, 0), none),
  (6, .iload_n 0, 1, (0, 0, 0, 0), none),
  (7, .bipush 90, 2, (0, 0, 0, 0), none),
  (9, .if_icmp .gt 7, 3, (0, 0, 0, 0), none),
  (12, .iconst 1, 1, (0, 0, 0, 0), none),
  (13, .goto 4, 3, (0, 0, 0, 0), none),
  (16, .iconst 0, 1, (0, 0, 0, 0), none),
  (17, .ireturn, 1, (1, 0, 0, 0), none)]
def cd_X13_isDigit : List sm_E := [(0, .iload_n 0, 1, (0, 0, 0, 0), none),
  (1, .bipush 48, 2, (0, 0, 0, 0), none),
  (3, .if_icmp .lt 13, 3, (0, 0, 0, 0), none),
  (6, .iload_n 0, 1, (0, 0, 0, 0), none),
  (7, .bipush 57, 2, (0, 0, 0, 0), none),
  (9, .if_icmp .gt 7, 3, (0, 0, 0, 0), none),
  (12, .iconst 1, 1, (0, 0, 0, 0), none),
  (13, .goto 4, 3, (0, 0, 0, 0), none),
  (16, .iconst 0, 1, (0, 0, 0, 0), none),
  (17, .ireturn, 1, (1, 0, 0, 0), none)]
def cd_X13_sign : List sm_E := [(0, .iload_n 1, 1, (0, 0, 0, 0), none),
  (1, .aload_n 0, 1, (0, 0, 0, 0), none),
  (2, .getfield 21, 3, (23, 5, 0, 0), none),
  (5, .if_icmp .ge 16, 3, (0, 0, 0, 0), none),
  (8, .aload_n 0, 1, (0, 0, 0, 0), none),
  (9, .getfield 25, 3, (23, 0, 67, 0), none),
  (12, .iload_n 1, 1, (0, 0, 0, 0), none),
  (13, .baload, 1, (67, 3000, 0, 0), none),
  (14, .sipush 255, 3, (0, 0, 0, 0), none),
  (17, .iand, 1, (0, 0, 0, 0), none),
  (18, .goto 4, 3, (0, 0, 0, 0), none),
  (21, .iconst (-1), 1, (0, 0, 0, 0), none),
  (22, .ireturn, 1, (0, 0, 0, 0), none)]
def cd_X13_packed : List sm_E := [(0, .lconst 0, 1, (0, 0, 0, 0), none),
  (1, .lstore_n 1, 1, (0, 0, 0, 0), none),
  (2, .iconst 0, 1, (0, 0, 0, 0), none),
  (3, .istore_n 3, 1, (0, 0, 0, 0), none),
  (4, .iload_n 3, 1, (0, 0, 0, 0), some [0, 1, 3]),
  (5, .aload_n 0, 1, (0, 0, 0, 0), none),
  (6, .invokevirtual 29, 3, (294, 1, 1, 5), none),
  (9, .if_icmp .ge 21, 3, (0, 0, 0, 0), none),
  (12, .lload_n 1, 1, (0, 0, 0, 0), none),
  (13, .bipush 8, 2, (0, 0, 0, 0), none),
  (15, .lshl, 1, (0, 0, 0, 0), none),
  (16, .aload_n 0, 1, (0, 0, 0, 0), none),
  (17, .iload_n 3, 1, (0, 0, 0, 0), none),
  (18, .invokevirtual 35, 3, (295, 2, 1, 5), none),
  (21, .i2l, 1, (0, 0, 0, 0), none),
  (22, .lor, 1, (0, 0, 0, 0), none),
  (23, .lstore_n 1, 1, (0, 0, 0, 0), none),
  (24, .iinc 3 1, 3, (0, 0, 0, 0), none),
  (27, .goto (-23), 3, (0, 0, 0, 0), none),
  (30, .lload_n 1, 1, (0, 0, 0, 0), none),
  (31, .lreturn, 1, (0, 0, 0, 0), none)]
def cd_X13_wordOf : List sm_E := [(0, .iconst 0, 1, (0, 0, 0, 0), none),
  (1, .istore_n 2, 1, (0, 0, 0, 0), none),
  (2, .iload_n 2, 1, (0, 0, 0, 0), some [0, 2]),
  (3, .bipush 15, 2, (0, 0, 0, 0), none),
  (5, .if_icmp .ge 23, 3, (0, 0, 0, 0), none),
  (8, .iload_n 2, 1, (0, 0, 0, 0), none),
  (9, .invokestatic 39, 3, (193, 1, 3, 0), none),
  (12, .invokestatic 43, 3, (191, 1, 2, 0), none),
  (15, .lload_n 0, 1, (0, 0, 0, 0), none),
  (16, .lcmp, 1, (0, 0, 0, 0), none),
  (17, .ifCond .ne 5, 3, (0, 0, 0, 0), none),
  (20, .iload_n 2, 1, (0, 0, 0, 0), none),
  (21, .ireturn, 1, (0, 0, 0, 0), none),
  (22, .iinc 2 1, 3, (0, 0, 0, 0), none),
  (25, .goto (-23), 3, (0, 0, 0, 0), none),
  (28, .iconst (-1), 1, (0, 0, 0, 0), none),
  (29, .ireturn, 1, (0, 0, 0, 0), none)]
def cd_X13_word : List sm_E := [(0, .iload_n 0, 1, (0, 0, 0, 0), none),
  (1, .tableswitch 113 0 13 #[71, 74, 77, 80, 83, 86, 89, 92, 95, 98, 101, 104, 107, 110], 71, (0, 0, 0, 0), none),
  (72, .ldc 47, 2, (1, 6, 0, 0), none),
  (74, .areturn, 1, (0, 0, 0, 0), none),
  (75, .ldc 49, 2, (1, 7, 0, 0), none),
  (77, .areturn, 1, (0, 0, 0, 0), none),
  (78, .ldc 51, 2, (1, 8, 0, 0), none),
  (80, .areturn, 1, (0, 0, 0, 0), none),
  (81, .ldc 53, 2, (1, 9, 0, 0), none),
  (83, .areturn, 1, (0, 0, 0, 0), none),
  (84, .ldc 55, 2, (1, 10, 0, 0), none),
  (86, .areturn, 1, (0, 0, 0, 0), none),
  (87, .ldc 57, 2, (1, 11, 0, 0), none),
  (89, .areturn, 1, (0, 0, 0, 0), none),
  (90, .ldc 59, 2, (1, 12, 0, 0), none),
  (92, .areturn, 1, (0, 0, 0, 0), none),
  (93, .ldc 61, 2, (1, 13, 0, 0), none),
  (95, .areturn, 1, (0, 0, 0, 0), none),
  (96, .ldc 63, 2, (1, 14, 0, 0), none),
  (98, .areturn, 1, (0, 0, 0, 0), none),
  (99, .ldc 65, 2, (1, 15, 0, 0), none),
  (101, .areturn, 1, (0, 0, 0, 0), none),
  (102, .ldc 67, 2, (1, 16, 0, 0), none),
  (104, .areturn, 1, (0, 0, 0, 0), none),
  (105, .ldc 69, 2, (1, 17, 0, 0), none),
  (107, .areturn, 1, (0, 0, 0, 0), none),
  (108, .ldc 71, 2, (1, 18, 0, 0), none),
  (110, .areturn, 1, (0, 0, 0, 0), none),
  (111, .ldc 73, 2, (1, 19, 0, 0), none),
  (113, .areturn, 1, (0, 0, 0, 0), none),
  (114, .ldc 75, 2, (1, 20, 0, 0), none),
  (116, .areturn, 1, (0, 0, 0, 0), none)]
def cd_X13_kindName : List sm_E := [(0, .iload_n 0, 1, (0, 0, 0, 0), none),
  (1, .tableswitch 141 0 17 #[87, 90, 93, 96, 99, 102, 105, 108, 111, 114, 117, 120, 123, 126, 129, 132, 135, 138], 87, (0, 0, 0, 0), none),
  (88, .ldc 77, 2, (1, 21, 0, 0), none),
  (90, .areturn, 1, (0, 0, 0, 0), none),
  (91, .ldc 79, 2, (1, 22, 0, 0), none),
  (93, .areturn, 1, (0, 0, 0, 0), none),
  (94, .ldc 81, 2, (1, 23, 0, 0), none),
  (96, .areturn, 1, (0, 0, 0, 0), none),
  (97, .ldc 83, 2, (1, 24, 0, 0), none),
  (99, .areturn, 1, (0, 0, 0, 0), none),
  (100, .ldc 85, 2, (1, 25, 0, 0), none),
  (102, .areturn, 1, (0, 0, 0, 0), none),
  (103, .ldc 87, 2, (1, 26, 0, 0), none),
  (105, .areturn, 1, (0, 0, 0, 0), none),
  (106, .ldc 89, 2, (1, 27, 0, 0), none),
  (108, .areturn, 1, (0, 0, 0, 0), none),
  (109, .ldc 91, 2, (1, 28, 0, 0), none),
  (111, .areturn, 1, (0, 0, 0, 0), none),
  (112, .ldc 93, 2, (1, 29, 0, 0), none),
  (114, .areturn, 1, (0, 0, 0, 0), none),
  (115, .ldc 95, 2, (1, 30, 0, 0), none),
  (117, .areturn, 1, (0, 0, 0, 0), none),
  (118, .ldc 97, 2, (1, 31, 0, 0), none),
  (120, .areturn, 1, (0, 0, 0, 0), none),
  (121, .ldc 99, 2, (1, 32, 0, 0), none),
  (123, .areturn, 1, (0, 0, 0, 0), none),
  (124, .ldc 101, 2, (1, 33, 0, 0), none),
  (126, .areturn, 1, (0, 0, 0, 0), none),
  (127, .ldc 103, 2, (1, 34, 0, 0), none),
  (129, .areturn, 1, (0, 0, 0, 0), none),
  (130, .ldc 105, 2, (1, 35, 0, 0), none),
  (132, .areturn, 1, (0, 0, 0, 0), none),
  (133, .ldc 107, 2, (1, 36, 0, 0), none),
  (135, .areturn, 1, (0, 0, 0, 0), none),
  (136, .ldc 109, 2, (1, 37, 0, 0), none),
  (138, .areturn, 1, (0, 0, 0, 0), none),
  (139, .ldc 111, 2, (1, 38, 0, 0), none),
  (141, .areturn, 1, (0, 0, 0, 0), none),
  (142, .ldc 113, 2, (1, 39, 0, 0), none),
  (144, .areturn, 1, (0, 0, 0, 0), none)]
def cd_X13_kindOf : List sm_E := [(0, .iload_n 2, 1, (0, 0, 0, 0), none),
  (1, .bipush 8, 2, (0, 0, 0, 0), none),
  (3, .if_icmp .le 5, 3, (0, 0, 0, 0), none),
  (6, .iconst (-1), 1, (0, 0, 0, 0), none),
  (7, .ireturn, 1, (0, 0, 0, 0), none),
  (8, .lconst 0, 1, (0, 0, 0, 0), none),
  (9, .lstore_n 3, 1, (0, 0, 0, 0), none),
  (10, .iconst 0, 1, (0, 0, 0, 0), none),
  (11, .istore 5, 2, (0, 0, 0, 0), none),
  (13, .iload 5, 2, (0, 0, 0, 0), some [0, 1, 2, 3, 5]),
  (15, .iload_n 2, 1, (0, 0, 0, 0), none),
  (16, .if_icmp .ge 25, 3, (0, 0, 0, 0), none),
  (19, .lload_n 3, 1, (0, 0, 0, 0), none),
  (20, .bipush 8, 2, (0, 0, 0, 0), none),
  (22, .lshl, 1, (0, 0, 0, 0), none),
  (23, .aload_n 0, 1, (0, 0, 0, 0), none),
  (24, .getfield 25, 3, (23, 0, 67, 0), none),
  (27, .iload_n 1, 1, (0, 0, 0, 0), none),
  (28, .iload 5, 2, (0, 0, 0, 0), none),
  (30, .iadd, 1, (0, 0, 0, 0), none),
  (31, .baload, 1, (67, 3000, 0, 0), none),
  (32, .i2l, 1, (0, 0, 0, 0), none),
  (33, .lor, 1, (0, 0, 0, 0), none),
  (34, .lstore_n 3, 1, (0, 0, 0, 0), none),
  (35, .iinc 5 1, 3, (0, 0, 0, 0), none),
  (38, .goto (-25), 3, (0, 0, 0, 0), none),
  (41, .iconst 0, 1, (0, 0, 0, 0), none),
  (42, .istore 5, 2, (0, 0, 0, 0), none),
  (44, .iload 5, 2, (0, 0, 0, 0), some [3, 5]),
  (46, .bipush 18, 2, (0, 0, 0, 0), none),
  (48, .if_icmp .ge 25, 3, (0, 0, 0, 0), none),
  (51, .iload 5, 2, (0, 0, 0, 0), none),
  (53, .invokestatic 115, 3, (194, 1, 3, 0), none),
  (56, .invokestatic 43, 3, (191, 1, 2, 0), none),
  (59, .lload_n 3, 1, (0, 0, 0, 0), none),
  (60, .lcmp, 1, (0, 0, 0, 0), none),
  (61, .ifCond .ne 6, 3, (0, 0, 0, 0), none),
  (64, .iload 5, 2, (0, 0, 0, 0), none),
  (66, .ireturn, 1, (0, 0, 0, 0), none),
  (67, .iinc 5 1, 3, (0, 0, 0, 0), none),
  (70, .goto (-26), 3, (0, 0, 0, 0), none),
  (73, .ldc 113, 2, (1, 39, 0, 0), none),
  (75, .invokestatic 43, 3, (191, 1, 2, 0), none),
  (78, .lload_n 3, 1, (0, 0, 0, 0), none),
  (79, .lcmp, 1, (0, 0, 0, 0), none),
  (80, .ifCond .ne 8, 3, (0, 0, 0, 0), none),
  (83, .bipush 36, 2, (0, 0, 0, 0), none),
  (85, .goto 4, 3, (0, 0, 0, 0), none),
  (88, .iconst (-1), 1, (0, 0, 0, 0), none),
  (89, .ireturn, 1, (0, 0, 0, 0), none)]
def cd_X13_scan : List sm_E := [(0, .aload_n 0, 1, (0, 0, 0, 0), none),
  (1, .iload_n 1, 1, (0, 0, 0, 0), none),
  (2, .putfield 21, 3, (23, 5, 0, 0), none),
  (5, .iconst 0, 1, (0, 0, 0, 0), none),
  (6, .istore_n 2, 1, (0, 0, 0, 0), none),
  (7, .iconst 0, 1, (0, 0, 0, 0), none),
  (8, .istore_n 3, 1, (0, 0, 0, 0), none),
  (9, .iconst 1, 1, (0, 0, 0, 0), none),
  (10, .istore 4, 2, (0, 0, 0, 0), none),
  (12, .iload 4, 2, (0, 0, 0, 0), some [0, 2, 3, 4]),
  (14, .ifCond .eq 91, 3, (0, 0, 0, 0), none),
  (17, .aload_n 0, 1, (0, 0, 0, 0), some [0, 2, 3]),
  (18, .iload_n 2, 1, (0, 0, 0, 0), none),
  (19, .invokevirtual 118, 3, (190, 2, 1, 23), none),
  (22, .bipush 32, 2, (0, 0, 0, 0), none),
  (24, .if_icmp .eq 13, 3, (0, 0, 0, 0), none),
  (27, .aload_n 0, 1, (0, 0, 0, 0), none),
  (28, .iload_n 2, 1, (0, 0, 0, 0), none),
  (29, .invokevirtual 118, 3, (190, 2, 1, 23), none),
  (32, .bipush 10, 2, (0, 0, 0, 0), none),
  (34, .if_icmp .ne 9, 3, (0, 0, 0, 0), none),
  (37, .iinc 2 1, 3, (0, 0, 0, 0), none),
  (40, .goto (-23), 3, (0, 0, 0, 0), none),
  (43, .aload_n 0, 1, (0, 0, 0, 0), none),
  (44, .getfield 122, 3, (23, 3, 69, 0), none),
  (47, .iload_n 3, 1, (0, 0, 0, 0), none),
  (48, .iload_n 2, 1, (0, 0, 0, 0), none),
  (49, .iastore, 1, (69, 803, 0, 0), none),
  (50, .aload_n 0, 1, (0, 0, 0, 0), none),
  (51, .iload_n 3, 1, (0, 0, 0, 0), none),
  (52, .iload_n 2, 1, (0, 0, 0, 0), none),
  (53, .invokevirtual 125, 3, (197, 3, 1, 23), none),
  (56, .istore 5, 2, (0, 0, 0, 0), none),
  (58, .iload_n 2, 1, (0, 0, 0, 0), none),
  (59, .iload 5, 2, (0, 0, 0, 0), none),
  (61, .iadd, 1, (0, 0, 0, 0), none),
  (62, .istore_n 2, 1, (0, 0, 0, 0), none),
  (63, .aload_n 0, 1, (0, 0, 0, 0), none),
  (64, .getfield 129, 3, (23, 2, 68, 0), none),
  (67, .iload_n 3, 1, (0, 0, 0, 0), none),
  (68, .iaload, 1, (68, 803, 0, 0), none),
  (69, .bipush 7, 2, (0, 0, 0, 0), none),
  (71, .if_icmp .eq 25, 3, (0, 0, 0, 0), none),
  (74, .aload_n 0, 1, (0, 0, 0, 0), none),
  (75, .getfield 129, 3, (23, 2, 68, 0), none),
  (78, .iload_n 3, 1, (0, 0, 0, 0), none),
  (79, .iaload, 1, (68, 803, 0, 0), none),
  (80, .bipush 6, 2, (0, 0, 0, 0), none),
  (82, .if_icmp .eq 14, 3, (0, 0, 0, 0), none),
  (85, .iload_n 3, 1, (0, 0, 0, 0), none),
  (86, .sipush 800, 3, (0, 0, 0, 0), none),
  (89, .if_icmp .gt 7, 3, (0, 0, 0, 0), none),
  (92, .iconst 1, 1, (0, 0, 0, 0), none),
  (93, .goto 4, 3, (0, 0, 0, 0), none),
  (96, .iconst 0, 1, (0, 0, 0, 0), none),
  (97, .istore 4, 2, (0, 0, 0, 0), none),
  (99, .iinc 3 1, 3, (0, 0, 0, 0), none),
  (102, .goto (-90), 3, (0, 0, 0, 0), none),
  (105, .return_, 1, (0, 0, 0, 0), none)]
def cd_X13_token : List sm_E := [(0, .aload_n 0, 1, (0, 0, 0, 0), none),
  (1, .iload_n 2, 1, (0, 0, 0, 0), none),
  (2, .invokevirtual 118, 3, (190, 2, 1, 23), none),
  (5, .istore_n 3, 1, (0, 0, 0, 0), none),
  (6, .aload_n 0, 1, (0, 0, 0, 0), none),
  (7, .getfield 132, 3, (23, 4, 70, 0), none),
  (10, .iload_n 1, 1, (0, 0, 0, 0), none),
  (11, .lconst 0, 1, (0, 0, 0, 0), none),
  (12, .lastore, 1, (70, 803, 0, 0), none),
  (13, .iload_n 3, 1, (0, 0, 0, 0), none),
  (14, .iconst (-1), 1, (0, 0, 0, 0), none),
  (15, .if_icmp .ne 13, 3, (0, 0, 0, 0), none),
  (18, .aload_n 0, 1, (0, 0, 0, 0), none),
  (19, .getfield 129, 3, (23, 2, 68, 0), none),
  (22, .iload_n 1, 1, (0, 0, 0, 0), none),
  (23, .bipush 7, 2, (0, 0, 0, 0), none),
  (25, .iastore, 1, (68, 803, 0, 0), none),
  (26, .iconst 0, 1, (0, 0, 0, 0), none),
  (27, .ireturn, 1, (0, 0, 0, 0), none),
  (28, .iload_n 3, 1, (0, 0, 0, 0), none),
  (29, .invokestatic 136, 3, (187, 1, 1, 0), none),
  (32, .ifCond .eq 10, 3, (0, 0, 0, 0), none),
  (35, .aload_n 0, 1, (0, 0, 0, 0), none),
  (36, .iload_n 1, 1, (0, 0, 0, 0), none),
  (37, .iload_n 2, 1, (0, 0, 0, 0), none),
  (38, .invokevirtual 139, 3, (199, 3, 1, 23), none),
  (41, .ireturn, 1, (0, 0, 0, 0), none),
  (42, .iconst 1, 1, (0, 0, 0, 0), none),
  (43, .istore 4, 2, (0, 0, 0, 0), none),
  (45, .iload_n 3, 1, (0, 0, 0, 0), none),
  (46, .invokestatic 142, 3, (188, 1, 1, 0), none),
  (49, .ifCond .eq 65, 3, (0, 0, 0, 0), none),
  (52, .aload_n 0, 1, (0, 0, 0, 0), some [0, 1, 2, 4]),
  (53, .iload_n 2, 1, (0, 0, 0, 0), none),
  (54, .iload 4, 2, (0, 0, 0, 0), none),
  (56, .iadd, 1, (0, 0, 0, 0), none),
  (57, .invokevirtual 118, 3, (190, 2, 1, 23), none),
  (60, .invokestatic 142, 3, (188, 1, 1, 0), none),
  (63, .ifCond .eq 9, 3, (0, 0, 0, 0), none),
  (66, .iinc 4 1, 3, (0, 0, 0, 0), none),
  (69, .goto (-17), 3, (0, 0, 0, 0), none),
  (72, .aload_n 0, 1, (0, 0, 0, 0), none),
  (73, .getfield 132, 3, (23, 4, 70, 0), none),
  (76, .iload_n 1, 1, (0, 0, 0, 0), none),
  (77, .aload_n 0, 1, (0, 0, 0, 0), none),
  (78, .iload_n 2, 1, (0, 0, 0, 0), none),
  (79, .iload 4, 2, (0, 0, 0, 0), none),
  (81, .invokevirtual 145, 3, (195, 3, 1, 23), none),
  (84, .i2l, 1, (0, 0, 0, 0), none),
  (85, .lastore, 1, (70, 803, 0, 0), none),
  (86, .aload_n 0, 1, (0, 0, 0, 0), none),
  (87, .getfield 129, 3, (23, 2, 68, 0), none),
  (90, .iload_n 1, 1, (0, 0, 0, 0), none),
  (91, .aload_n 0, 1, (0, 0, 0, 0), none),
  (92, .getfield 132, 3, (23, 4, 70, 0), none),
  (95, .iload_n 1, 1, (0, 0, 0, 0), none),
  (96, .laload, 1, (70, 803, 0, 0), none),
  (97, .ldc2_w 148, 3, (0, 0, 0, 0), none),
  (100, .lcmp, 1, (0, 0, 0, 0), none),
  (101, .ifCond .ne 8, 3, (0, 0, 0, 0), none),
  (104, .bipush 6, 2, (0, 0, 0, 0), none),
  (106, .goto 4, 3, (0, 0, 0, 0), none),
  (109, .iconst 2, 1, (0, 0, 0, 0), none),
  (110, .iastore, 1, (68, 803, 0, 0), none),
  (111, .iload 4, 2, (0, 0, 0, 0), none),
  (113, .ireturn, 1, (0, 0, 0, 0), none),
  (114, .iload_n 3, 1, (0, 0, 0, 0), none),
  (115, .invokestatic 150, 3, (189, 1, 1, 0), none),
  (118, .ifCond .eq 126, 3, (0, 0, 0, 0), none),
  (121, .aload_n 0, 1, (0, 0, 0, 0), some [0, 1, 2, 4]),
  (122, .iload_n 2, 1, (0, 0, 0, 0), none),
  (123, .iload 4, 2, (0, 0, 0, 0), none),
  (125, .iadd, 1, (0, 0, 0, 0), none),
  (126, .invokevirtual 118, 3, (190, 2, 1, 23), none),
  (129, .invokestatic 150, 3, (189, 1, 1, 0), none),
  (132, .ifCond .eq 9, 3, (0, 0, 0, 0), none),
  (135, .iinc 4 1, 3, (0, 0, 0, 0), none),
  (138, .goto (-17), 3, (0, 0, 0, 0), none),
  (141, .iconst 0, 1, (0, 0, 0, 0), none),
  (142, .istore 5, 2, (0, 0, 0, 0), none),
  (144, .iload 5, 2, (0, 0, 0, 0), some [0, 1, 2, 4, 5]),
  (146, .iload 4, 2, (0, 0, 0, 0), none),
  (148, .if_icmp .ge 46, 3, (0, 0, 0, 0), none),
  (151, .iload 4, 2, (0, 0, 0, 0), none),
  (153, .bipush 10, 2, (0, 0, 0, 0), none),
  (155, .if_icmp .ge 39, 3, (0, 0, 0, 0), none),
  (158, .aload_n 0, 1, (0, 0, 0, 0), none),
  (159, .getfield 132, 3, (23, 4, 70, 0), none),
  (162, .iload_n 1, 1, (0, 0, 0, 0), none),
  (163, .ldc2_w 153, 3, (1, 0, 0, 0), none),
  (166, .aload_n 0, 1, (0, 0, 0, 0), none),
  (167, .getfield 132, 3, (23, 4, 70, 0), none),
  (170, .iload_n 1, 1, (0, 0, 0, 0), none),
  (171, .laload, 1, (70, 803, 0, 0), none),
  (172, .lmul, 1, (0, 0, 0, 0), none),
  (173, .aload_n 0, 1, (0, 0, 0, 0), none),
  (174, .iload_n 2, 1, (0, 0, 0, 0), none),
  (175, .iload 5, 2, (0, 0, 0, 0), none),
  (177, .iadd, 1, (0, 0, 0, 0), none),
  (178, .invokevirtual 118, 3, (190, 2, 1, 23), none),
  (181, .i2l, 1, (0, 0, 0, 0), none),
  (182, .ladd, 1, (0, 0, 0, 0), none),
  (183, .ldc2_w 155, 3, (4, 0, 0, 0), none),
  (186, .lsub, 1, (0, 0, 0, 0), none),
  (187, .lastore, 1, (70, 803, 0, 0), none),
  (188, .iinc 5 1, 3, (0, 0, 0, 0), none),
  (191, .goto (-47), 3, (0, 0, 0, 0), none),
  (194, .aload_n 0, 1, (0, 0, 0, 0), some [0, 1, 2, 4]),
  (195, .getfield 129, 3, (23, 2, 68, 0), none),
  (198, .iload_n 1, 1, (0, 0, 0, 0), none),
  (199, .iload 4, 2, (0, 0, 0, 0), none),
  (201, .bipush 9, 2, (0, 0, 0, 0), none),
  (203, .if_icmp .gt 31, 3, (0, 0, 0, 0), none),
  (206, .aload_n 0, 1, (0, 0, 0, 0), none),
  (207, .iload_n 2, 1, (0, 0, 0, 0), none),
  (208, .iload 4, 2, (0, 0, 0, 0), none),
  (210, .iadd, 1, (0, 0, 0, 0), none),
  (211, .invokevirtual 118, 3, (190, 2, 1, 23), none),
  (214, .invokestatic 136, 3, (187, 1, 1, 0), none),
  (217, .ifCond .ne 17, 3, (0, 0, 0, 0), none),
  (220, .aload_n 0, 1, (0, 0, 0, 0), none),
  (221, .iload_n 2, 1, (0, 0, 0, 0), none),
  (222, .iload 4, 2, (0, 0, 0, 0), none),
  (224, .iadd, 1, (0, 0, 0, 0), none),
  (225, .invokevirtual 118, 3, (190, 2, 1, 23), none),
  (228, .invokestatic 142, 3, (188, 1, 1, 0), none),
  (231, .ifCond .eq 8, 3, (0, 0, 0, 0), none),
  (234, .bipush 6, 2, (0, 0, 0, 0), none),
  (236, .goto 4, 3, (0, 0, 0, 0), none),
  (239, .iconst 3, 1, (0, 0, 0, 0), none),
  (240, .iastore, 1, (68, 803, 0, 0), none),
  (241, .iload 4, 2, (0, 0, 0, 0), none),
  (243, .ireturn, 1, (0, 0, 0, 0), none),
  (244, .aload_n 0, 1, (0, 0, 0, 0), none),
  (245, .getfield 129, 3, (23, 2, 68, 0), none),
  (248, .iload_n 1, 1, (0, 0, 0, 0), none),
  (249, .iconst 4, 1, (0, 0, 0, 0), none),
  (250, .iastore, 1, (68, 803, 0, 0), none),
  (251, .aload_n 0, 1, (0, 0, 0, 0), none),
  (252, .getfield 132, 3, (23, 4, 70, 0), none),
  (255, .iload_n 1, 1, (0, 0, 0, 0), none),
  (256, .iload_n 3, 1, (0, 0, 0, 0), none),
  (257, .i2l, 1, (0, 0, 0, 0), none),
  (258, .lastore, 1, (70, 803, 0, 0), none),
  (259, .aload_n 0, 1, (0, 0, 0, 0), none),
  (260, .iload_n 2, 1, (0, 0, 0, 0), none),
  (261, .iconst 1, 1, (0, 0, 0, 0), none),
  (262, .iadd, 1, (0, 0, 0, 0), none),
  (263, .invokevirtual 118, 3, (190, 2, 1, 23), none),
  (266, .bipush 61, 2, (0, 0, 0, 0), none),
  (268, .if_icmp .ne 19, 3, (0, 0, 0, 0), none),
  (271, .iload_n 3, 1, (0, 0, 0, 0), none),
  (272, .bipush 61, 2, (0, 0, 0, 0), none),
  (274, .if_icmp .eq 9, 3, (0, 0, 0, 0), none),
  (277, .iload_n 3, 1, (0, 0, 0, 0), none),
  (278, .bipush 33, 2, (0, 0, 0, 0), none),
  (280, .if_icmp .ne 7, 3, (0, 0, 0, 0), none),
  (283, .iconst 1, 1, (0, 0, 0, 0), none),
  (284, .goto 4, 3, (0, 0, 0, 0), none),
  (287, .iconst 0, 1, (0, 0, 0, 0), none),
  (288, .istore 5, 2, (0, 0, 0, 0), some [0, 1, 3]),
  (290, .iload 5, 2, (0, 0, 0, 0), none),
  (292, .ifCond .eq 27, 3, (0, 0, 0, 0), none),
  (295, .aload_n 0, 1, (0, 0, 0, 0), none),
  (296, .getfield 132, 3, (23, 4, 70, 0), none),
  (299, .iload_n 1, 1, (0, 0, 0, 0), none),
  (300, .iload_n 3, 1, (0, 0, 0, 0), none),
  (301, .bipush 61, 2, (0, 0, 0, 0), none),
  (303, .if_icmp .ne 9, 3, (0, 0, 0, 0), none),
  (306, .ldc2_w 157, 3, (6, 0, 0, 0), none),
  (309, .goto 6, 3, (0, 0, 0, 0), none),
  (312, .ldc2_w 159, 3, (7, 0, 0, 0), none),
  (315, .lastore, 1, (70, 803, 0, 0), none),
  (316, .goto 18, 3, (0, 0, 0, 0), none),
  (319, .iload_n 3, 1, (0, 0, 0, 0), none),
  (320, .invokestatic 161, 3, (198, 1, 1, 0), none),
  (323, .ifCond .ne 11, 3, (0, 0, 0, 0), none),
  (326, .aload_n 0, 1, (0, 0, 0, 0), none),
  (327, .getfield 129, 3, (23, 2, 68, 0), none),
  (330, .iload_n 1, 1, (0, 0, 0, 0), none),
  (331, .bipush 6, 2, (0, 0, 0, 0), none),
  (333, .iastore, 1, (68, 803, 0, 0), none),
  (334, .iload 5, 2, (0, 0, 0, 0), none),
  (336, .ifCond .eq 7, 3, (0, 0, 0, 0), none),
  (339, .iconst 2, 1, (0, 0, 0, 0), none),
  (340, .goto 4, 3, (0, 0, 0, 0), none),
  (343, .iconst 1, 1, (0, 0, 0, 0), none),
  (344, .ireturn, 1, (0, 0, 0, 0), none)]
def cd_X13_isSign : List sm_E := [(0, .iload_n 0, 1, (0, 0, 0, 0), none),
  (1, .lookupswitch 133 #[(40, 131), (41, 131), (42, 131), (43, 131), (44, 131), (45, 131), (46, 131), (58, 131), (59, 131), (60, 131), (61, 131), (91, 131), (93, 131), (123, 131), (125, 131)], 131, (0, 0, 0, 0), none),
  (132, .iconst 1, 1, (0, 0, 0, 0), none),
  (133, .ireturn, 1, (1, 0, 0, 0), none),
  (134, .iconst 0, 1, (0, 0, 0, 0), none),
  (135, .ireturn, 1, (1, 0, 0, 0), none)]
def cd_X13_name : List sm_E := [(0, .iconst 0, 1, (0, 0, 0, 0), none),
  (1, .istore_n 3, 1, (0, 0, 0, 0), none),
  (2, .lconst 0, 1, (0, 0, 0, 0), none),
  (3, .lstore 4, 2, (0, 0, 0, 0), none),
  (5, .aload_n 0, 1, (0, 0, 0, 0), some [0, 1, 2, 3, 4]),
  (6, .iload_n 2, 1, (0, 0, 0, 0), none),
  (7, .iload_n 3, 1, (0, 0, 0, 0), none),
  (8, .iadd, 1, (0, 0, 0, 0), none),
  (9, .invokevirtual 118, 3, (190, 2, 1, 23), none),
  (12, .invokestatic 136, 3, (187, 1, 1, 0), none),
  (15, .ifCond .ne 16, 3, (0, 0, 0, 0), none),
  (18, .aload_n 0, 1, (0, 0, 0, 0), none),
  (19, .iload_n 2, 1, (0, 0, 0, 0), none),
  (20, .iload_n 3, 1, (0, 0, 0, 0), none),
  (21, .iadd, 1, (0, 0, 0, 0), none),
  (22, .invokevirtual 118, 3, (190, 2, 1, 23), none),
  (25, .invokestatic 150, 3, (189, 1, 1, 0), none),
  (28, .ifCond .eq 25, 3, (0, 0, 0, 0), none),
  (31, .lload 4, 2, (0, 0, 0, 0), some [0, 1, 2, 3, 4]),
  (33, .bipush 8, 2, (0, 0, 0, 0), none),
  (35, .lshl, 1, (0, 0, 0, 0), none),
  (36, .aload_n 0, 1, (0, 0, 0, 0), none),
  (37, .iload_n 2, 1, (0, 0, 0, 0), none),
  (38, .iload_n 3, 1, (0, 0, 0, 0), none),
  (39, .iadd, 1, (0, 0, 0, 0), none),
  (40, .invokevirtual 118, 3, (190, 2, 1, 23), none),
  (43, .i2l, 1, (0, 0, 0, 0), none),
  (44, .lor, 1, (0, 0, 0, 0), none),
  (45, .lstore 4, 2, (0, 0, 0, 0), none),
  (47, .iinc 3 1, 3, (0, 0, 0, 0), none),
  (50, .goto (-45), 3, (0, 0, 0, 0), none),
  (53, .iload_n 3, 1, (0, 0, 0, 0), none),
  (54, .bipush 9, 2, (0, 0, 0, 0), none),
  (56, .if_icmp .ge 11, 3, (0, 0, 0, 0), none),
  (59, .lload 4, 2, (0, 0, 0, 0), none),
  (61, .invokestatic 164, 3, (192, 1, 1, 0), none),
  (64, .goto 4, 3, (0, 0, 0, 0), none),
  (67, .iconst (-1), 1, (0, 0, 0, 0), none),
  (68, .istore 6, 2, (0, 0, 0, 0), some [0, 1, 3, 4]),
  (70, .aload_n 0, 1, (0, 0, 0, 0), none),
  (71, .getfield 129, 3, (23, 2, 68, 0), none),
  (74, .iload_n 1, 1, (0, 0, 0, 0), none),
  (75, .iload_n 3, 1, (0, 0, 0, 0), none),
  (76, .bipush 8, 2, (0, 0, 0, 0), none),
  (78, .if_icmp .le 8, 3, (0, 0, 0, 0), none),
  (81, .bipush 6, 2, (0, 0, 0, 0), none),
  (83, .goto 14, 3, (0, 0, 0, 0), none),
  (86, .iload 6, 2, (0, 0, 0, 0), none),
  (88, .iconst (-1), 1, (0, 0, 0, 0), none),
  (89, .if_icmp .eq 7, 3, (0, 0, 0, 0), none),
  (92, .iconst 5, 1, (0, 0, 0, 0), none),
  (93, .goto 4, 3, (0, 0, 0, 0), none),
  (96, .iconst 1, 1, (0, 0, 0, 0), none),
  (97, .iastore, 1, (68, 803, 0, 0), some [0, 1, 3, 4, 6]),
  (98, .aload_n 0, 1, (0, 0, 0, 0), none),
  (99, .getfield 132, 3, (23, 4, 70, 0), none),
  (102, .iload_n 1, 1, (0, 0, 0, 0), none),
  (103, .iload 6, 2, (0, 0, 0, 0), none),
  (105, .iconst (-1), 1, (0, 0, 0, 0), none),
  (106, .if_icmp .eq 9, 3, (0, 0, 0, 0), none),
  (109, .iload 6, 2, (0, 0, 0, 0), none),
  (111, .i2l, 1, (0, 0, 0, 0), none),
  (112, .goto 5, 3, (0, 0, 0, 0), none),
  (115, .lload 4, 2, (0, 0, 0, 0), none),
  (117, .lastore, 1, (70, 803, 0, 0), none),
  (118, .iload_n 3, 1, (0, 0, 0, 0), none),
  (119, .ireturn, 1, (0, 0, 0, 0), none)]
def cd_X13_fails : List sm_E := [(0, .aload_n 0, 1, (0, 0, 0, 0), none),
  (1, .iload_n 1, 1, (0, 0, 0, 0), none),
  (2, .putfield 168, 3, (23, 9, 0, 0), none),
  (5, .aload_n 0, 1, (0, 0, 0, 0), none),
  (6, .aload_n 0, 1, (0, 0, 0, 0), none),
  (7, .getfield 122, 3, (23, 3, 69, 0), none),
  (10, .iload_n 2, 1, (0, 0, 0, 0), none),
  (11, .iaload, 1, (69, 803, 0, 0), none),
  (12, .putfield 171, 3, (23, 10, 0, 0), none),
  (15, .aload_n 0, 1, (0, 0, 0, 0), none),
  (16, .getfield 174, 3, (23, 8, 24, 0), none),
  (19, .areturn, 1, (0, 0, 0, 0), none)]
def cd_X13_form : List sm_E := [(0, .iload_n 1, 1, (0, 0, 0, 0), none),
  (1, .ifCond .ne 13, 3, (0, 0, 0, 0), none),
  (4, .aload_n 0, 1, (0, 0, 0, 0), none),
  (5, .iconst 1, 1, (0, 0, 0, 0), none),
  (6, .aload_n 0, 1, (0, 0, 0, 0), none),
  (7, .getfield 178, 3, (23, 11, 0, 0), none),
  (10, .invokevirtual 181, 3, (200, 3, 3, 23), none),
  (13, .athrow, 1, (0, 0, 0, 0), none),
  (14, .return_, 1, (0, 0, 0, 0), none)]
def cd_X13_types : List sm_E := [(0, .iload_n 1, 1, (0, 0, 0, 0), none),
  (1, .ifCond .ne 10, 3, (0, 0, 0, 0), none),
  (4, .aload_n 0, 1, (0, 0, 0, 0), none),
  (5, .iconst 4, 1, (0, 0, 0, 0), none),
  (6, .iload_n 2, 1, (0, 0, 0, 0), none),
  (7, .invokevirtual 181, 3, (200, 3, 3, 23), none),
  (10, .athrow, 1, (0, 0, 0, 0), none),
  (11, .return_, 1, (0, 0, 0, 0), none)]
def cd_X13_next : List sm_E := [(0, .aload_n 0, 1, (0, 0, 0, 0), none),
  (1, .getfield 178, 3, (23, 11, 0, 0), none),
  (4, .sipush 800, 3, (0, 0, 0, 0), none),
  (7, .if_icmp .ne 13, 3, (0, 0, 0, 0), none),
  (10, .aload_n 0, 1, (0, 0, 0, 0), none),
  (11, .iconst 5, 1, (0, 0, 0, 0), none),
  (12, .aload_n 0, 1, (0, 0, 0, 0), none),
  (13, .getfield 178, 3, (23, 11, 0, 0), none),
  (16, .invokevirtual 181, 3, (200, 3, 3, 23), none),
  (19, .athrow, 1, (0, 0, 0, 0), none),
  (20, .aload_n 0, 1, (0, 0, 0, 0), none),
  (21, .dup, 1, (0, 0, 0, 0), none),
  (22, .getfield 178, 3, (23, 11, 0, 0), none),
  (25, .iconst 1, 1, (0, 0, 0, 0), none),
  (26, .iadd, 1, (0, 0, 0, 0), none),
  (27, .putfield 178, 3, (23, 11, 0, 0), none),
  (30, .return_, 1, (0, 0, 0, 0), none)]
def cd_X13_is : List sm_E := [(0, .aload_n 0, 1, (0, 0, 0, 0), none),
  (1, .getfield 129, 3, (23, 2, 68, 0), none),
  (4, .aload_n 0, 1, (0, 0, 0, 0), none),
  (5, .getfield 178, 3, (23, 11, 0, 0), none),
  (8, .iaload, 1, (68, 803, 0, 0), none),
  (9, .iconst 4, 1, (0, 0, 0, 0), none),
  (10, .if_icmp .ne 22, 3, (0, 0, 0, 0), none),
  (13, .aload_n 0, 1, (0, 0, 0, 0), none),
  (14, .getfield 132, 3, (23, 4, 70, 0), none),
  (17, .aload_n 0, 1, (0, 0, 0, 0), none),
  (18, .getfield 178, 3, (23, 11, 0, 0), none),
  (21, .laload, 1, (70, 803, 0, 0), none),
  (22, .iload_n 1, 1, (0, 0, 0, 0), none),
  (23, .i2l, 1, (0, 0, 0, 0), none),
  (24, .lcmp, 1, (0, 0, 0, 0), none),
  (25, .ifCond .ne 7, 3, (0, 0, 0, 0), none),
  (28, .iconst 1, 1, (0, 0, 0, 0), none),
  (29, .goto 4, 3, (0, 0, 0, 0), none),
  (32, .iconst 0, 1, (0, 0, 0, 0), none),
  (33, .ireturn, 1, (1, 0, 0, 0), none)]
def cd_X13_isWord : List sm_E := [(0, .aload_n 0, 1, (0, 0, 0, 0), none),
  (1, .getfield 129, 3, (23, 2, 68, 0), none),
  (4, .aload_n 0, 1, (0, 0, 0, 0), none),
  (5, .getfield 178, 3, (23, 11, 0, 0), none),
  (8, .iaload, 1, (68, 803, 0, 0), none),
  (9, .iconst 5, 1, (0, 0, 0, 0), none),
  (10, .if_icmp .ne 22, 3, (0, 0, 0, 0), none),
  (13, .aload_n 0, 1, (0, 0, 0, 0), none),
  (14, .getfield 132, 3, (23, 4, 70, 0), none),
  (17, .aload_n 0, 1, (0, 0, 0, 0), none),
  (18, .getfield 178, 3, (23, 11, 0, 0), none),
  (21, .laload, 1, (70, 803, 0, 0), none),
  (22, .iload_n 1, 1, (0, 0, 0, 0), none),
  (23, .i2l, 1, (0, 0, 0, 0), none),
  (24, .lcmp, 1, (0, 0, 0, 0), none),
  (25, .ifCond .ne 7, 3, (0, 0, 0, 0), none),
  (28, .iconst 1, 1, (0, 0, 0, 0), none),
  (29, .goto 4, 3, (0, 0, 0, 0), none),
  (32, .iconst 0, 1, (0, 0, 0, 0), none),
  (33, .ireturn, 1, (1, 0, 0, 0), none)]
def cd_X13_must : List sm_E := [(0, .aload_n 0, 1, (0, 0, 0, 0), none),
  (1, .aload_n 0, 1, (0, 0, 0, 0), none),
  (2, .iload_n 1, 1, (0, 0, 0, 0), none),
  (3, .invokevirtual 185, 3, (204, 2, 1, 23), none),
  (6, .invokevirtual 187, 3, (201, 2, 0, 23), none),
  (9, .aload_n 0, 1, (0, 0, 0, 0), none),
  (10, .invokevirtual 191, 3, (203, 1, 0, 23), none),
  (13, .return_, 1, (0, 0, 0, 0), none)]
def cd_X13_put : List sm_E := [(0, .aload_n 0, 1, (0, 0, 0, 0), none),
  (1, .getfield 195, 3, (23, 7, 2, 0), none),
  (4, .getfield 199, 3, (22, 6, 0, 0), none),
  (7, .istore 4, 2, (0, 0, 0, 0), none),
  (9, .aload_n 0, 1, (0, 0, 0, 0), none),
  (10, .getfield 195, 3, (23, 7, 2, 0), none),
  (13, .getfield 204, 3, (22, 7, 63, 0), none),
  (16, .iload 4, 2, (0, 0, 0, 0), none),
  (18, .iload_n 1, 1, (0, 0, 0, 0), none),
  (19, .iastore, 1, (63, 4000, 0, 0), none),
  (20, .aload_n 0, 1, (0, 0, 0, 0), none),
  (21, .getfield 195, 3, (23, 7, 2, 0), none),
  (24, .getfield 207, 3, (22, 8, 64, 0), none),
  (27, .iload 4, 2, (0, 0, 0, 0), none),
  (29, .iload_n 2, 1, (0, 0, 0, 0), none),
  (30, .iastore, 1, (64, 4000, 0, 0), none),
  (31, .aload_n 0, 1, (0, 0, 0, 0), none),
  (32, .getfield 195, 3, (23, 7, 2, 0), none),
  (35, .getfield 210, 3, (22, 9, 65, 0), none),
  (38, .iload 4, 2, (0, 0, 0, 0), none),
  (40, .iconst 0, 1, (0, 0, 0, 0), none),
  (41, .iastore, 1, (65, 4000, 0, 0), none),
  (42, .aload_n 0, 1, (0, 0, 0, 0), none),
  (43, .getfield 195, 3, (23, 7, 2, 0), none),
  (46, .getfield 213, 3, (22, 10, 66, 0), none),
  (49, .iload 4, 2, (0, 0, 0, 0), none),
  (51, .iload_n 3, 1, (0, 0, 0, 0), none),
  (52, .ifCond .ge 7, 3, (0, 0, 0, 0), none),
  (55, .iconst (-1), 1, (0, 0, 0, 0), none),
  (56, .goto 9, 3, (0, 0, 0, 0), none),
  (59, .aload_n 0, 1, (0, 0, 0, 0), none),
  (60, .getfield 122, 3, (23, 3, 69, 0), none),
  (63, .iload_n 3, 1, (0, 0, 0, 0), none),
  (64, .iaload, 1, (69, 803, 0, 0), none),
  (65, .iastore, 1, (66, 4000, 0, 0), some [0, 4]),
  (66, .aload_n 0, 1, (0, 0, 0, 0), none),
  (67, .getfield 195, 3, (23, 7, 2, 0), none),
  (70, .dup, 1, (0, 0, 0, 0), none),
  (71, .getfield 199, 3, (22, 6, 0, 0), none),
  (74, .iconst 1, 1, (0, 0, 0, 0), none),
  (75, .iadd, 1, (0, 0, 0, 0), none),
  (76, .putfield 199, 3, (22, 6, 0, 0), none),
  (79, .iload 4, 2, (0, 0, 0, 0), none),
  (81, .ireturn, 1, (0, 0, 0, 0), none)]
def cd_X13_text : List sm_E := [(0, .aload_n 0, 1, (0, 0, 0, 0), none),
  (1, .getfield 195, 3, (23, 7, 2, 0), none),
  (4, .iconst 0, 1, (0, 0, 0, 0), none),
  (5, .putfield 216, 3, (22, 0, 0, 0), none),
  (8, .aload_n 0, 1, (0, 0, 0, 0), none),
  (9, .getfield 195, 3, (23, 7, 2, 0), none),
  (12, .iconst 0, 1, (0, 0, 0, 0), none),
  (13, .putfield 199, 3, (22, 6, 0, 0), none),
  (16, .aload_n 0, 1, (0, 0, 0, 0), none),
  (17, .iconst 0, 1, (0, 0, 0, 0), none),
  (18, .putfield 178, 3, (23, 11, 0, 0), none),
  (21, .aload_n 0, 1, (0, 0, 0, 0), some [0]),
  (22, .invokevirtual 219, 3, (211, 1, 0, 23), none),
  (25, .aload_n 0, 1, (0, 0, 0, 0), none),
  (26, .getfield 129, 3, (23, 2, 68, 0), none),
  (29, .aload_n 0, 1, (0, 0, 0, 0), none),
  (30, .getfield 178, 3, (23, 11, 0, 0), none),
  (33, .iaload, 1, (68, 803, 0, 0), none),
  (34, .bipush 7, 2, (0, 0, 0, 0), none),
  (36, .if_icmp .ne (-15), 3, (0, 0, 0, 0), none),
  (39, .return_, 1, (0, 0, 0, 0), none)]
def cd_X13_five : List sm_E := [(0, .lload_n 0, 1, (0, 0, 0, 0), none),
  (1, .ldc 222, 2, (1, 40, 0, 0), none),
  (3, .invokestatic 43, 3, (191, 1, 2, 0), none),
  (6, .lcmp, 1, (0, 0, 0, 0), none),
  (7, .ifCond .ne 6, 3, (0, 0, 0, 0), none),
  (10, .bipush 12, 2, (0, 0, 0, 0), none),
  (12, .ireturn, 1, (0, 0, 0, 0), none),
  (13, .lload_n 0, 1, (0, 0, 0, 0), none),
  (14, .ldc 224, 2, (1, 41, 0, 0), none),
  (16, .invokestatic 43, 3, (191, 1, 2, 0), none),
  (19, .lcmp, 1, (0, 0, 0, 0), none),
  (20, .ifCond .ne 6, 3, (0, 0, 0, 0), none),
  (23, .bipush 13, 2, (0, 0, 0, 0), none),
  (25, .ireturn, 1, (0, 0, 0, 0), none),
  (26, .lload_n 0, 1, (0, 0, 0, 0), none),
  (27, .ldc 226, 2, (1, 42, 0, 0), none),
  (29, .invokestatic 43, 3, (191, 1, 2, 0), none),
  (32, .lcmp, 1, (0, 0, 0, 0), none),
  (33, .ifCond .ne 6, 3, (0, 0, 0, 0), none),
  (36, .bipush 14, 2, (0, 0, 0, 0), none),
  (38, .ireturn, 1, (0, 0, 0, 0), none),
  (39, .lload_n 0, 1, (0, 0, 0, 0), none),
  (40, .ldc 228, 2, (1, 43, 0, 0), none),
  (42, .invokestatic 43, 3, (191, 1, 2, 0), none),
  (45, .lcmp, 1, (0, 0, 0, 0), none),
  (46, .ifCond .ne 6, 3, (0, 0, 0, 0), none),
  (49, .bipush 15, 2, (0, 0, 0, 0), none),
  (51, .ireturn, 1, (0, 0, 0, 0), none),
  (52, .lload_n 0, 1, (0, 0, 0, 0), none),
  (53, .ldc 230, 2, (1, 44, 0, 0), none),
  (55, .invokestatic 43, 3, (191, 1, 2, 0), none),
  (58, .lcmp, 1, (0, 0, 0, 0), none),
  (59, .ifCond .ne 8, 3, (0, 0, 0, 0), none),
  (62, .bipush 16, 2, (0, 0, 0, 0), none),
  (64, .goto 4, 3, (0, 0, 0, 0), none),
  (67, .iconst (-1), 1, (0, 0, 0, 0), none),
  (68, .ireturn, 1, (0, 0, 0, 0), none)]
def cd_X13_procOf : List sm_E := [(0, .iconst 0, 1, (0, 0, 0, 0), none),
  (1, .istore_n 3, 1, (0, 0, 0, 0), none),
  (2, .iload_n 3, 1, (0, 0, 0, 0), some [0, 1, 3]),
  (3, .aload_n 0, 1, (0, 0, 0, 0), none),
  (4, .getfield 195, 3, (23, 7, 2, 0), none),
  (7, .getfield 216, 3, (22, 0, 0, 0), none),
  (10, .if_icmp .ge 25, 3, (0, 0, 0, 0), none),
  (13, .aload_n 0, 1, (0, 0, 0, 0), none),
  (14, .getfield 195, 3, (23, 7, 2, 0), none),
  (17, .getfield 232, 3, (22, 1, 58, 0), none),
  (20, .iload_n 3, 1, (0, 0, 0, 0), none),
  (21, .laload, 1, (58, 12, 0, 0), none),
  (22, .lload_n 1, 1, (0, 0, 0, 0), none),
  (23, .lcmp, 1, (0, 0, 0, 0), none),
  (24, .ifCond .ne 5, 3, (0, 0, 0, 0), none),
  (27, .iload_n 3, 1, (0, 0, 0, 0), none),
  (28, .ireturn, 1, (0, 0, 0, 0), none),
  (29, .iinc 3 1, 3, (0, 0, 0, 0), none),
  (32, .goto (-30), 3, (0, 0, 0, 0), none),
  (35, .lload_n 1, 1, (0, 0, 0, 0), none),
  (36, .invokestatic 235, 3, (209, 1, 1, 0), none),
  (39, .ireturn, 1, (0, 0, 0, 0), none)]
def cd_X13_proc : List sm_E := [(0, .aload_n 0, 1, (0, 0, 0, 0), none),
  (1, .aload_n 0, 1, (0, 0, 0, 0), none),
  (2, .iconst 0, 1, (0, 0, 0, 0), none),
  (3, .invokevirtual 238, 3, (205, 2, 1, 23), none),
  (6, .invokevirtual 187, 3, (201, 2, 0, 23), none),
  (9, .aload_n 0, 1, (0, 0, 0, 0), none),
  (10, .invokevirtual 191, 3, (203, 1, 0, 23), none),
  (13, .aload_n 0, 1, (0, 0, 0, 0), none),
  (14, .aload_n 0, 1, (0, 0, 0, 0), none),
  (15, .getfield 129, 3, (23, 2, 68, 0), none),
  (18, .aload_n 0, 1, (0, 0, 0, 0), none),
  (19, .getfield 178, 3, (23, 11, 0, 0), none),
  (22, .iaload, 1, (68, 803, 0, 0), none),
  (23, .iconst 1, 1, (0, 0, 0, 0), none),
  (24, .if_icmp .ne 7, 3, (0, 0, 0, 0), none),
  (27, .iconst 1, 1, (0, 0, 0, 0), none),
  (28, .goto 4, 3, (0, 0, 0, 0), none),
  (31, .iconst 0, 1, (0, 0, 0, 0), none),
  (32, .invokevirtual 187, 3, (201, 2, 0, 23), some [0]),
  (35, .aload_n 0, 1, (0, 0, 0, 0), none),
  (36, .aload_n 0, 1, (0, 0, 0, 0), none),
  (37, .getfield 132, 3, (23, 4, 70, 0), none),
  (40, .aload_n 0, 1, (0, 0, 0, 0), none),
  (41, .getfield 178, 3, (23, 11, 0, 0), none),
  (44, .laload, 1, (70, 803, 0, 0), none),
  (45, .invokevirtual 241, 3, (210, 2, 1, 23), none),
  (48, .iconst (-1), 1, (0, 0, 0, 0), none),
  (49, .if_icmp .eq 13, 3, (0, 0, 0, 0), none),
  (52, .aload_n 0, 1, (0, 0, 0, 0), none),
  (53, .iconst 3, 1, (0, 0, 0, 0), none),
  (54, .aload_n 0, 1, (0, 0, 0, 0), none),
  (55, .getfield 178, 3, (23, 11, 0, 0), none),
  (58, .invokevirtual 181, 3, (200, 3, 3, 23), none),
  (61, .athrow, 1, (0, 0, 0, 0), none),
  (62, .aload_n 0, 1, (0, 0, 0, 0), none),
  (63, .getfield 195, 3, (23, 7, 2, 0), none),
  (66, .getfield 216, 3, (22, 0, 0, 0), none),
  (69, .bipush 12, 2, (0, 0, 0, 0), none),
  (71, .if_icmp .ne 13, 3, (0, 0, 0, 0), none),
  (74, .aload_n 0, 1, (0, 0, 0, 0), none),
  (75, .iconst 5, 1, (0, 0, 0, 0), none),
  (76, .aload_n 0, 1, (0, 0, 0, 0), none),
  (77, .getfield 178, 3, (23, 11, 0, 0), none),
  (80, .invokevirtual 181, 3, (200, 3, 3, 23), none),
  (83, .athrow, 1, (0, 0, 0, 0), none),
  (84, .aload_n 0, 1, (0, 0, 0, 0), none),
  (85, .aload_n 0, 1, (0, 0, 0, 0), none),
  (86, .getfield 195, 3, (23, 7, 2, 0), none),
  (89, .getfield 216, 3, (22, 0, 0, 0), none),
  (92, .putfield 244, 3, (23, 12, 0, 0), none),
  (95, .aload_n 0, 1, (0, 0, 0, 0), none),
  (96, .getfield 195, 3, (23, 7, 2, 0), none),
  (99, .getfield 232, 3, (22, 1, 58, 0), none),
  (102, .aload_n 0, 1, (0, 0, 0, 0), none),
  (103, .getfield 244, 3, (23, 12, 0, 0), none),
  (106, .aload_n 0, 1, (0, 0, 0, 0), none),
  (107, .getfield 132, 3, (23, 4, 70, 0), none),
  (110, .aload_n 0, 1, (0, 0, 0, 0), none),
  (111, .getfield 178, 3, (23, 11, 0, 0), none),
  (114, .laload, 1, (70, 803, 0, 0), none),
  (115, .lastore, 1, (58, 12, 0, 0), none),
  (116, .aload_n 0, 1, (0, 0, 0, 0), none),
  (117, .getfield 195, 3, (23, 7, 2, 0), none),
  (120, .getfield 246, 3, (22, 3, 60, 0), none),
  (123, .aload_n 0, 1, (0, 0, 0, 0), none),
  (124, .getfield 244, 3, (23, 12, 0, 0), none),
  (127, .iconst 0, 1, (0, 0, 0, 0), none),
  (128, .iastore, 1, (60, 12, 0, 0), none),
  (129, .aload_n 0, 1, (0, 0, 0, 0), none),
  (130, .getfield 195, 3, (23, 7, 2, 0), none),
  (133, .getfield 249, 3, (22, 2, 59, 0), none),
  (136, .aload_n 0, 1, (0, 0, 0, 0), none),
  (137, .getfield 244, 3, (23, 12, 0, 0), none),
  (140, .bipush 38, 2, (0, 0, 0, 0), none),
  (142, .iastore, 1, (59, 12, 0, 0), none),
  (143, .aload_n 0, 1, (0, 0, 0, 0), none),
  (144, .getfield 195, 3, (23, 7, 2, 0), none),
  (147, .dup, 1, (0, 0, 0, 0), none),
  (148, .getfield 216, 3, (22, 0, 0, 0), none),
  (151, .iconst 1, 1, (0, 0, 0, 0), none),
  (152, .iadd, 1, (0, 0, 0, 0), none),
  (153, .putfield 216, 3, (22, 0, 0, 0), none),
  (156, .aload_n 0, 1, (0, 0, 0, 0), none),
  (157, .invokevirtual 191, 3, (203, 1, 0, 23), none),
  (160, .aload_n 0, 1, (0, 0, 0, 0), none),
  (161, .iconst 0, 1, (0, 0, 0, 0), none),
  (162, .putfield 252, 3, (23, 16, 0, 0), none),
  (165, .aload_n 0, 1, (0, 0, 0, 0), none),
  (166, .iconst 0, 1, (0, 0, 0, 0), none),
  (167, .putfield 255, 3, (23, 15, 0, 0), none),
  (170, .aload_n 0, 1, (0, 0, 0, 0), none),
  (171, .iconst 0, 1, (0, 0, 0, 0), none),
  (172, .putfield 258, 3, (23, 14, 0, 0), none),
  (175, .aload_n 0, 1, (0, 0, 0, 0), none),
  (176, .bipush 40, 2, (0, 0, 0, 0), none),
  (178, .invokevirtual 261, 3, (206, 2, 0, 23), none),
  (181, .aload_n 0, 1, (0, 0, 0, 0), none),
  (182, .bipush 41, 2, (0, 0, 0, 0), none),
  (184, .invokevirtual 185, 3, (204, 2, 1, 23), none),
  (187, .ifCond .ne 7, 3, (0, 0, 0, 0), none),
  (190, .aload_n 0, 1, (0, 0, 0, 0), none),
  (191, .invokevirtual 265, 3, (212, 1, 0, 23), none),
  (194, .aload_n 0, 1, (0, 0, 0, 0), some [0]),
  (195, .bipush 41, 2, (0, 0, 0, 0), none),
  (197, .invokevirtual 261, 3, (206, 2, 0, 23), none),
  (200, .aload_n 0, 1, (0, 0, 0, 0), none),
  (201, .bipush 58, 2, (0, 0, 0, 0), none),
  (203, .invokevirtual 185, 3, (204, 2, 1, 23), none),
  (206, .ifCond .eq 23, 3, (0, 0, 0, 0), none),
  (209, .aload_n 0, 1, (0, 0, 0, 0), none),
  (210, .invokevirtual 191, 3, (203, 1, 0, 23), none),
  (213, .aload_n 0, 1, (0, 0, 0, 0), none),
  (214, .getfield 195, 3, (23, 7, 2, 0), none),
  (217, .getfield 249, 3, (22, 2, 59, 0), none),
  (220, .aload_n 0, 1, (0, 0, 0, 0), none),
  (221, .getfield 244, 3, (23, 12, 0, 0), none),
  (224, .aload_n 0, 1, (0, 0, 0, 0), none),
  (225, .invokevirtual 267, 3, (216, 1, 1, 23), none),
  (228, .iastore, 1, (59, 12, 0, 0), none),
  (229, .aload_n 0, 1, (0, 0, 0, 0), some [0]),
  (230, .getfield 195, 3, (23, 7, 2, 0), none),
  (233, .getfield 270, 3, (22, 5, 62, 0), none),
  (236, .aload_n 0, 1, (0, 0, 0, 0), none),
  (237, .getfield 244, 3, (23, 12, 0, 0), none),
  (240, .aload_n 0, 1, (0, 0, 0, 0), none),
  (241, .getfield 195, 3, (23, 7, 2, 0), none),
  (244, .getfield 199, 3, (22, 6, 0, 0), none),
  (247, .iastore, 1, (62, 12, 0, 0), none),
  (248, .aload_n 0, 1, (0, 0, 0, 0), none),
  (249, .invokevirtual 273, 3, (217, 1, 0, 23), none),
  (252, .aload_n 0, 1, (0, 0, 0, 0), none),
  (253, .bipush 29, 2, (0, 0, 0, 0), none),
  (255, .iconst 0, 1, (0, 0, 0, 0), none),
  (256, .iconst (-1), 1, (0, 0, 0, 0), none),
  (257, .invokevirtual 276, 3, (207, 4, 1, 23), none),
  (260, .pop, 1, (0, 0, 0, 0), none),
  (261, .return_, 1, (0, 0, 0, 0), none)]
def cd_X13_params : List sm_E := [(0, .iconst 1, 1, (0, 0, 0, 0), none),
  (1, .istore_n 1, 1, (0, 0, 0, 0), none),
  (2, .iload_n 1, 1, (0, 0, 0, 0), some [0, 1]),
  (3, .ifCond .eq 163, 3, (0, 0, 0, 0), none),
  (6, .aload_n 0, 1, (0, 0, 0, 0), none),
  (7, .invokevirtual 267, 3, (216, 1, 1, 23), none),
  (10, .istore_n 2, 1, (0, 0, 0, 0), none),
  (11, .aload_n 0, 1, (0, 0, 0, 0), none),
  (12, .aload_n 0, 1, (0, 0, 0, 0), none),
  (13, .getfield 129, 3, (23, 2, 68, 0), none),
  (16, .aload_n 0, 1, (0, 0, 0, 0), none),
  (17, .getfield 178, 3, (23, 11, 0, 0), none),
  (20, .iaload, 1, (68, 803, 0, 0), none),
  (21, .iconst 1, 1, (0, 0, 0, 0), none),
  (22, .if_icmp .ne 7, 3, (0, 0, 0, 0), none),
  (25, .iconst 1, 1, (0, 0, 0, 0), none),
  (26, .goto 4, 3, (0, 0, 0, 0), none),
  (29, .iconst 0, 1, (0, 0, 0, 0), none),
  (30, .invokevirtual 187, 3, (201, 2, 0, 23), some [0, 2]),
  (33, .aload_n 0, 1, (0, 0, 0, 0), none),
  (34, .aload_n 0, 1, (0, 0, 0, 0), none),
  (35, .getfield 132, 3, (23, 4, 70, 0), none),
  (38, .aload_n 0, 1, (0, 0, 0, 0), none),
  (39, .getfield 178, 3, (23, 11, 0, 0), none),
  (42, .laload, 1, (70, 803, 0, 0), none),
  (43, .invokevirtual 280, 3, (213, 2, 1, 23), none),
  (46, .iconst (-1), 1, (0, 0, 0, 0), none),
  (47, .if_icmp .eq 13, 3, (0, 0, 0, 0), none),
  (50, .aload_n 0, 1, (0, 0, 0, 0), none),
  (51, .iconst 3, 1, (0, 0, 0, 0), none),
  (52, .aload_n 0, 1, (0, 0, 0, 0), none),
  (53, .getfield 178, 3, (23, 11, 0, 0), none),
  (56, .invokevirtual 181, 3, (200, 3, 3, 23), none),
  (59, .athrow, 1, (0, 0, 0, 0), none),
  (60, .aload_n 0, 1, (0, 0, 0, 0), none),
  (61, .getfield 195, 3, (23, 7, 2, 0), none),
  (64, .getfield 246, 3, (22, 3, 60, 0), none),
  (67, .aload_n 0, 1, (0, 0, 0, 0), none),
  (68, .getfield 244, 3, (23, 12, 0, 0), none),
  (71, .iaload, 1, (60, 12, 0, 0), none),
  (72, .iconst 4, 1, (0, 0, 0, 0), none),
  (73, .if_icmp .ne 13, 3, (0, 0, 0, 0), none),
  (76, .aload_n 0, 1, (0, 0, 0, 0), none),
  (77, .iconst 5, 1, (0, 0, 0, 0), none),
  (78, .aload_n 0, 1, (0, 0, 0, 0), none),
  (79, .getfield 178, 3, (23, 11, 0, 0), none),
  (82, .invokevirtual 181, 3, (200, 3, 3, 23), none),
  (85, .athrow, 1, (0, 0, 0, 0), none),
  (86, .aload_n 0, 1, (0, 0, 0, 0), none),
  (87, .getfield 195, 3, (23, 7, 2, 0), none),
  (90, .getfield 283, 3, (22, 4, 61, 0), none),
  (93, .iconst 4, 1, (0, 0, 0, 0), none),
  (94, .aload_n 0, 1, (0, 0, 0, 0), none),
  (95, .getfield 244, 3, (23, 12, 0, 0), none),
  (98, .imul, 1, (0, 0, 0, 0), none),
  (99, .aload_n 0, 1, (0, 0, 0, 0), none),
  (100, .getfield 195, 3, (23, 7, 2, 0), none),
  (103, .getfield 246, 3, (22, 3, 60, 0), none),
  (106, .aload_n 0, 1, (0, 0, 0, 0), none),
  (107, .getfield 244, 3, (23, 12, 0, 0), none),
  (110, .iaload, 1, (60, 12, 0, 0), none),
  (111, .iadd, 1, (0, 0, 0, 0), none),
  (112, .iload_n 2, 1, (0, 0, 0, 0), none),
  (113, .iastore, 1, (61, 48, 0, 0), none),
  (114, .aload_n 0, 1, (0, 0, 0, 0), none),
  (115, .getfield 195, 3, (23, 7, 2, 0), none),
  (118, .getfield 246, 3, (22, 3, 60, 0), none),
  (121, .aload_n 0, 1, (0, 0, 0, 0), none),
  (122, .getfield 244, 3, (23, 12, 0, 0), none),
  (125, .dup2, 1, (0, 0, 0, 0), none),
  (126, .iaload, 1, (60, 12, 0, 0), none),
  (127, .iconst 1, 1, (0, 0, 0, 0), none),
  (128, .iadd, 1, (0, 0, 0, 0), none),
  (129, .iastore, 1, (60, 12, 0, 0), none),
  (130, .aload_n 0, 1, (0, 0, 0, 0), none),
  (131, .aload_n 0, 1, (0, 0, 0, 0), none),
  (132, .getfield 132, 3, (23, 4, 70, 0), none),
  (135, .aload_n 0, 1, (0, 0, 0, 0), none),
  (136, .getfield 178, 3, (23, 11, 0, 0), none),
  (139, .laload, 1, (70, 803, 0, 0), none),
  (140, .iload_n 2, 1, (0, 0, 0, 0), none),
  (141, .invokevirtual 286, 3, (214, 3, 0, 23), none),
  (144, .aload_n 0, 1, (0, 0, 0, 0), none),
  (145, .invokevirtual 191, 3, (203, 1, 0, 23), none),
  (148, .aload_n 0, 1, (0, 0, 0, 0), none),
  (149, .bipush 44, 2, (0, 0, 0, 0), none),
  (151, .invokevirtual 185, 3, (204, 2, 1, 23), none),
  (154, .istore_n 1, 1, (0, 0, 0, 0), none),
  (155, .iload_n 1, 1, (0, 0, 0, 0), none),
  (156, .ifCond .eq 7, 3, (0, 0, 0, 0), none),
  (159, .aload_n 0, 1, (0, 0, 0, 0), none),
  (160, .invokevirtual 191, 3, (203, 1, 0, 23), none),
  (163, .goto (-161), 3, (0, 0, 0, 0), none),
  (166, .return_, 1, (0, 0, 0, 0), none)]
def cd_X13_variable : List sm_E := [(0, .iconst 0, 1, (0, 0, 0, 0), none),
  (1, .istore_n 3, 1, (0, 0, 0, 0), none),
  (2, .iload_n 3, 1, (0, 0, 0, 0), some [0, 1, 3]),
  (3, .aload_n 0, 1, (0, 0, 0, 0), none),
  (4, .getfield 252, 3, (23, 16, 0, 0), none),
  (7, .if_icmp .ge 22, 3, (0, 0, 0, 0), none),
  (10, .aload_n 0, 1, (0, 0, 0, 0), none),
  (11, .getfield 290, 3, (23, 17, 71, 0), none),
  (14, .iload_n 3, 1, (0, 0, 0, 0), none),
  (15, .laload, 1, (71, 24, 0, 0), none),
  (16, .lload_n 1, 1, (0, 0, 0, 0), none),
  (17, .lcmp, 1, (0, 0, 0, 0), none),
  (18, .ifCond .ne 5, 3, (0, 0, 0, 0), none),
  (21, .iload_n 3, 1, (0, 0, 0, 0), none),
  (22, .ireturn, 1, (0, 0, 0, 0), none),
  (23, .iinc 3 1, 3, (0, 0, 0, 0), none),
  (26, .goto (-24), 3, (0, 0, 0, 0), none),
  (29, .iconst (-1), 1, (0, 0, 0, 0), none),
  (30, .ireturn, 1, (0, 0, 0, 0), none)]
def cd_X13_knows : List sm_E := [(0, .aload_n 0, 1, (0, 0, 0, 0), none),
  (1, .getfield 290, 3, (23, 17, 71, 0), none),
  (4, .aload_n 0, 1, (0, 0, 0, 0), none),
  (5, .getfield 252, 3, (23, 16, 0, 0), none),
  (8, .lload_n 1, 1, (0, 0, 0, 0), none),
  (9, .lastore, 1, (71, 24, 0, 0), none),
  (10, .aload_n 0, 1, (0, 0, 0, 0), none),
  (11, .getfield 293, 3, (23, 18, 72, 0), none),
  (14, .aload_n 0, 1, (0, 0, 0, 0), none),
  (15, .getfield 252, 3, (23, 16, 0, 0), none),
  (18, .iload_n 3, 1, (0, 0, 0, 0), none),
  (19, .iastore, 1, (72, 24, 0, 0), none),
  (20, .aload_n 0, 1, (0, 0, 0, 0), none),
  (21, .getfield 296, 3, (23, 19, 73, 0), none),
  (24, .aload_n 0, 1, (0, 0, 0, 0), none),
  (25, .getfield 252, 3, (23, 16, 0, 0), none),
  (28, .aload_n 0, 1, (0, 0, 0, 0), none),
  (29, .getfield 255, 3, (23, 15, 0, 0), none),
  (32, .iastore, 1, (73, 24, 0, 0), none),
  (33, .aload_n 0, 1, (0, 0, 0, 0), none),
  (34, .dup, 1, (0, 0, 0, 0), none),
  (35, .getfield 252, 3, (23, 16, 0, 0), none),
  (38, .iconst 1, 1, (0, 0, 0, 0), none),
  (39, .iadd, 1, (0, 0, 0, 0), none),
  (40, .putfield 252, 3, (23, 16, 0, 0), none),
  (43, .aload_n 0, 1, (0, 0, 0, 0), none),
  (44, .dup, 1, (0, 0, 0, 0), none),
  (45, .getfield 255, 3, (23, 15, 0, 0), none),
  (48, .iconst 1, 1, (0, 0, 0, 0), none),
  (49, .iadd, 1, (0, 0, 0, 0), none),
  (50, .putfield 255, 3, (23, 15, 0, 0), none),
  (53, .return_, 1, (0, 0, 0, 0), none)]
def cd_X13_fresh : List sm_E := [(0, .aload_n 0, 1, (0, 0, 0, 0), none),
  (1, .aload_n 0, 1, (0, 0, 0, 0), none),
  (2, .getfield 129, 3, (23, 2, 68, 0), none),
  (5, .aload_n 0, 1, (0, 0, 0, 0), none),
  (6, .getfield 178, 3, (23, 11, 0, 0), none),
  (9, .iaload, 1, (68, 803, 0, 0), none),
  (10, .iconst 1, 1, (0, 0, 0, 0), none),
  (11, .if_icmp .ne 7, 3, (0, 0, 0, 0), none),
  (14, .iconst 1, 1, (0, 0, 0, 0), none),
  (15, .goto 4, 3, (0, 0, 0, 0), none),
  (18, .iconst 0, 1, (0, 0, 0, 0), none),
  (19, .invokevirtual 187, 3, (201, 2, 0, 23), some [0]),
  (22, .aload_n 0, 1, (0, 0, 0, 0), none),
  (23, .aload_n 0, 1, (0, 0, 0, 0), none),
  (24, .getfield 132, 3, (23, 4, 70, 0), none),
  (27, .aload_n 0, 1, (0, 0, 0, 0), none),
  (28, .getfield 178, 3, (23, 11, 0, 0), none),
  (31, .laload, 1, (70, 803, 0, 0), none),
  (32, .invokevirtual 280, 3, (213, 2, 1, 23), none),
  (35, .iconst (-1), 1, (0, 0, 0, 0), none),
  (36, .if_icmp .eq 13, 3, (0, 0, 0, 0), none),
  (39, .aload_n 0, 1, (0, 0, 0, 0), none),
  (40, .iconst 3, 1, (0, 0, 0, 0), none),
  (41, .aload_n 0, 1, (0, 0, 0, 0), none),
  (42, .getfield 178, 3, (23, 11, 0, 0), none),
  (45, .invokevirtual 181, 3, (200, 3, 3, 23), none),
  (48, .athrow, 1, (0, 0, 0, 0), none),
  (49, .aload_n 0, 1, (0, 0, 0, 0), none),
  (50, .getfield 255, 3, (23, 15, 0, 0), none),
  (53, .bipush 24, 2, (0, 0, 0, 0), none),
  (55, .if_icmp .ne 13, 3, (0, 0, 0, 0), none),
  (58, .aload_n 0, 1, (0, 0, 0, 0), none),
  (59, .iconst 5, 1, (0, 0, 0, 0), none),
  (60, .aload_n 0, 1, (0, 0, 0, 0), none),
  (61, .getfield 178, 3, (23, 11, 0, 0), none),
  (64, .invokevirtual 181, 3, (200, 3, 3, 23), none),
  (67, .athrow, 1, (0, 0, 0, 0), none),
  (68, .return_, 1, (0, 0, 0, 0), none)]
def cd_X13_type : List sm_E := [(0, .aload_n 0, 1, (0, 0, 0, 0), none),
  (1, .aload_n 0, 1, (0, 0, 0, 0), none),
  (2, .getfield 129, 3, (23, 2, 68, 0), none),
  (5, .aload_n 0, 1, (0, 0, 0, 0), none),
  (6, .getfield 178, 3, (23, 11, 0, 0), none),
  (9, .iaload, 1, (68, 803, 0, 0), none),
  (10, .iconst 2, 1, (0, 0, 0, 0), none),
  (11, .if_icmp .ne 7, 3, (0, 0, 0, 0), none),
  (14, .iconst 1, 1, (0, 0, 0, 0), none),
  (15, .goto 4, 3, (0, 0, 0, 0), none),
  (18, .iconst 0, 1, (0, 0, 0, 0), none),
  (19, .invokevirtual 187, 3, (201, 2, 0, 23), some [0]),
  (22, .aload_n 0, 1, (0, 0, 0, 0), none),
  (23, .getfield 132, 3, (23, 4, 70, 0), none),
  (26, .aload_n 0, 1, (0, 0, 0, 0), none),
  (27, .getfield 178, 3, (23, 11, 0, 0), none),
  (30, .laload, 1, (70, 803, 0, 0), none),
  (31, .l2i, 1, (0, 0, 0, 0), none),
  (32, .istore_n 1, 1, (0, 0, 0, 0), none),
  (33, .aload_n 0, 1, (0, 0, 0, 0), none),
  (34, .invokevirtual 191, 3, (203, 1, 0, 23), none),
  (37, .iload_n 1, 1, (0, 0, 0, 0), none),
  (38, .bipush 36, 2, (0, 0, 0, 0), none),
  (40, .if_icmp .eq 12, 3, (0, 0, 0, 0), none),
  (43, .aload_n 0, 1, (0, 0, 0, 0), none),
  (44, .bipush 91, 2, (0, 0, 0, 0), none),
  (46, .invokevirtual 185, 3, (204, 2, 1, 23), none),
  (49, .ifCond .ne 5, 3, (0, 0, 0, 0), none),
  (52, .iload_n 1, 1, (0, 0, 0, 0), none),
  (53, .ireturn, 1, (0, 0, 0, 0), none),
  (54, .aload_n 0, 1, (0, 0, 0, 0), none),
  (55, .invokevirtual 191, 3, (203, 1, 0, 23), none),
  (58, .aload_n 0, 1, (0, 0, 0, 0), none),
  (59, .bipush 93, 2, (0, 0, 0, 0), none),
  (61, .invokevirtual 261, 3, (206, 2, 0, 23), none),
  (64, .bipush 18, 2, (0, 0, 0, 0), none),
  (66, .iload_n 1, 1, (0, 0, 0, 0), none),
  (67, .iadd, 1, (0, 0, 0, 0), none),
  (68, .ireturn, 1, (0, 0, 0, 0), none)]
def cd_X13_block : List sm_E := [(0, .aload_n 0, 1, (0, 0, 0, 0), none),
  (1, .aload_n 0, 1, (0, 0, 0, 0), none),
  (2, .bipush 123, 2, (0, 0, 0, 0), none),
  (4, .invokevirtual 185, 3, (204, 2, 1, 23), none),
  (7, .ifCond .eq 16, 3, (0, 0, 0, 0), none),
  (10, .aload_n 0, 1, (0, 0, 0, 0), none),
  (11, .getfield 258, 3, (23, 14, 0, 0), none),
  (14, .bipush 8, 2, (0, 0, 0, 0), none),
  (16, .if_icmp .ge 7, 3, (0, 0, 0, 0), none),
  (19, .iconst 1, 1, (0, 0, 0, 0), none),
  (20, .goto 4, 3, (0, 0, 0, 0), none),
  (23, .iconst 0, 1, (0, 0, 0, 0), none),
  (24, .invokevirtual 187, 3, (201, 2, 0, 23), some [0]),
  (27, .aload_n 0, 1, (0, 0, 0, 0), none),
  (28, .dup, 1, (0, 0, 0, 0), none),
  (29, .getfield 258, 3, (23, 14, 0, 0), none),
  (32, .iconst 1, 1, (0, 0, 0, 0), none),
  (33, .iadd, 1, (0, 0, 0, 0), none),
  (34, .putfield 258, 3, (23, 14, 0, 0), none),
  (37, .aload_n 0, 1, (0, 0, 0, 0), none),
  (38, .invokevirtual 191, 3, (203, 1, 0, 23), none),
  (41, .aload_n 0, 1, (0, 0, 0, 0), none),
  (42, .getfield 252, 3, (23, 16, 0, 0), none),
  (45, .istore_n 1, 1, (0, 0, 0, 0), none),
  (46, .aload_n 0, 1, (0, 0, 0, 0), some [0, 1]),
  (47, .bipush 125, 2, (0, 0, 0, 0), none),
  (49, .invokevirtual 185, 3, (204, 2, 1, 23), none),
  (52, .ifCond .ne 10, 3, (0, 0, 0, 0), none),
  (55, .aload_n 0, 1, (0, 0, 0, 0), none),
  (56, .invokevirtual 299, 3, (218, 1, 0, 23), none),
  (59, .goto (-13), 3, (0, 0, 0, 0), none),
  (62, .aload_n 0, 1, (0, 0, 0, 0), none),
  (63, .iload_n 1, 1, (0, 0, 0, 0), none),
  (64, .putfield 252, 3, (23, 16, 0, 0), none),
  (67, .aload_n 0, 1, (0, 0, 0, 0), none),
  (68, .dup, 1, (0, 0, 0, 0), none),
  (69, .getfield 258, 3, (23, 14, 0, 0), none),
  (72, .iconst 1, 1, (0, 0, 0, 0), none),
  (73, .isub, 1, (0, 0, 0, 0), none),
  (74, .putfield 258, 3, (23, 14, 0, 0), none),
  (77, .aload_n 0, 1, (0, 0, 0, 0), none),
  (78, .invokevirtual 191, 3, (203, 1, 0, 23), none),
  (81, .return_, 1, (0, 0, 0, 0), none)]
def cd_X13_statement : List sm_E := [(0, .aload_n 0, 1, (0, 0, 0, 0), none),
  (1, .iconst 0, 1, (0, 0, 0, 0), none),
  (2, .putfield 302, 3, (23, 13, 0, 0), none),
  (5, .aload_n 0, 1, (0, 0, 0, 0), none),
  (6, .getfield 129, 3, (23, 2, 68, 0), none),
  (9, .aload_n 0, 1, (0, 0, 0, 0), none),
  (10, .getfield 178, 3, (23, 11, 0, 0), none),
  (13, .iaload, 1, (68, 803, 0, 0), none),
  (14, .iconst 5, 1, (0, 0, 0, 0), none),
  (15, .if_icmp .eq 8, 3, (0, 0, 0, 0), none),
  (18, .aload_n 0, 1, (0, 0, 0, 0), none),
  (19, .invokevirtual 305, 3, (228, 1, 0, 23), none),
  (22, .return_, 1, (0, 0, 0, 0), none),
  (23, .aload_n 0, 1, (0, 0, 0, 0), none),
  (24, .getfield 178, 3, (23, 11, 0, 0), none),
  (27, .istore_n 1, 1, (0, 0, 0, 0), none),
  (28, .aload_n 0, 1, (0, 0, 0, 0), none),
  (29, .getfield 132, 3, (23, 4, 70, 0), none),
  (32, .aload_n 0, 1, (0, 0, 0, 0), none),
  (33, .getfield 178, 3, (23, 11, 0, 0), none),
  (36, .laload, 1, (70, 803, 0, 0), none),
  (37, .l2i, 1, (0, 0, 0, 0), none),
  (38, .tableswitch 214 1 9 #[50, 57, 214, 65, 73, 214, 80, 88, 160], 50, (0, 0, 0, 0), none),
  (88, .aload_n 0, 1, (0, 0, 0, 0), none),
  (89, .invokevirtual 308, 3, (219, 1, 0, 23), none),
  (92, .goto 164, 3, (0, 0, 0, 0), none),
  (95, .aload_n 0, 1, (0, 0, 0, 0), none),
  (96, .iload_n 1, 1, (0, 0, 0, 0), none),
  (97, .invokevirtual 310, 3, (221, 2, 0, 23), none),
  (100, .goto 156, 3, (0, 0, 0, 0), none),
  (103, .aload_n 0, 1, (0, 0, 0, 0), none),
  (104, .iload_n 1, 1, (0, 0, 0, 0), none),
  (105, .invokevirtual 313, 3, (222, 2, 0, 23), none),
  (108, .goto 148, 3, (0, 0, 0, 0), none),
  (111, .aload_n 0, 1, (0, 0, 0, 0), none),
  (112, .invokevirtual 316, 3, (223, 1, 0, 23), none),
  (115, .goto 141, 3, (0, 0, 0, 0), none),
  (118, .aload_n 0, 1, (0, 0, 0, 0), none),
  (119, .iload_n 1, 1, (0, 0, 0, 0), none),
  (120, .invokevirtual 319, 3, (224, 2, 0, 23), none),
  (123, .goto 133, 3, (0, 0, 0, 0), none),
  (126, .aload_n 0, 1, (0, 0, 0, 0), none),
  (127, .invokevirtual 191, 3, (203, 1, 0, 23), none),
  (130, .aload_n 0, 1, (0, 0, 0, 0), none),
  (131, .invokevirtual 321, 3, (230, 1, 1, 23), none),
  (134, .istore_n 2, 1, (0, 0, 0, 0), none),
  (135, .aload_n 0, 1, (0, 0, 0, 0), none),
  (136, .aload_n 0, 1, (0, 0, 0, 0), none),
  (137, .bipush 59, 2, (0, 0, 0, 0), none),
  (139, .invokevirtual 185, 3, (204, 2, 1, 23), none),
  (142, .invokevirtual 187, 3, (201, 2, 0, 23), none),
  (145, .aload_n 0, 1, (0, 0, 0, 0), none),
  (146, .iload_n 2, 1, (0, 0, 0, 0), none),
  (147, .bipush 36, 2, (0, 0, 0, 0), none),
  (149, .if_icmp .eq 10, 3, (0, 0, 0, 0), none),
  (152, .iload_n 2, 1, (0, 0, 0, 0), none),
  (153, .invokestatic 14, 3, (183, 1, 1, 0), none),
  (156, .ifCond .eq 7, 3, (0, 0, 0, 0), none),
  (159, .iconst 1, 1, (0, 0, 0, 0), none),
  (160, .goto 4, 3, (0, 0, 0, 0), none),
  (163, .iconst 0, 1, (0, 0, 0, 0), none),
  (164, .aload_n 0, 1, (0, 0, 0, 0), some [0, 1, 2]),
  (165, .getfield 178, 3, (23, 11, 0, 0), none),
  (168, .invokevirtual 324, 3, (202, 3, 0, 23), none),
  (171, .aload_n 0, 1, (0, 0, 0, 0), none),
  (172, .iload_n 2, 1, (0, 0, 0, 0), none),
  (173, .bipush 36, 2, (0, 0, 0, 0), none),
  (175, .if_icmp .ne 8, 3, (0, 0, 0, 0), none),
  (178, .bipush 20, 2, (0, 0, 0, 0), none),
  (180, .goto 5, 3, (0, 0, 0, 0), none),
  (183, .bipush 21, 2, (0, 0, 0, 0), none),
  (185, .iconst 0, 1, (0, 0, 0, 0), none),
  (186, .iload_n 1, 1, (0, 0, 0, 0), none),
  (187, .invokevirtual 276, 3, (207, 4, 1, 23), none),
  (190, .pop, 1, (0, 0, 0, 0), none),
  (191, .aload_n 0, 1, (0, 0, 0, 0), none),
  (192, .invokevirtual 191, 3, (203, 1, 0, 23), none),
  (195, .goto 61, 3, (0, 0, 0, 0), none),
  (198, .aload_n 0, 1, (0, 0, 0, 0), none),
  (199, .invokevirtual 191, 3, (203, 1, 0, 23), none),
  (202, .aload_n 0, 1, (0, 0, 0, 0), none),
  (203, .invokevirtual 321, 3, (230, 1, 1, 23), none),
  (206, .istore_n 2, 1, (0, 0, 0, 0), none),
  (207, .aload_n 0, 1, (0, 0, 0, 0), none),
  (208, .aload_n 0, 1, (0, 0, 0, 0), none),
  (209, .bipush 59, 2, (0, 0, 0, 0), none),
  (211, .invokevirtual 185, 3, (204, 2, 1, 23), none),
  (214, .invokevirtual 187, 3, (201, 2, 0, 23), none),
  (217, .aload_n 0, 1, (0, 0, 0, 0), none),
  (218, .iload_n 2, 1, (0, 0, 0, 0), none),
  (219, .bipush 36, 2, (0, 0, 0, 0), none),
  (221, .if_icmp .ne 7, 3, (0, 0, 0, 0), none),
  (224, .iconst 1, 1, (0, 0, 0, 0), none),
  (225, .goto 4, 3, (0, 0, 0, 0), none),
  (228, .iconst 0, 1, (0, 0, 0, 0), none),
  (229, .aload_n 0, 1, (0, 0, 0, 0), some [0, 1]),
  (230, .getfield 178, 3, (23, 11, 0, 0), none),
  (233, .invokevirtual 324, 3, (202, 3, 0, 23), none),
  (236, .aload_n 0, 1, (0, 0, 0, 0), none),
  (237, .bipush 22, 2, (0, 0, 0, 0), none),
  (239, .iconst 0, 1, (0, 0, 0, 0), none),
  (240, .iload_n 1, 1, (0, 0, 0, 0), none),
  (241, .invokevirtual 276, 3, (207, 4, 1, 23), none),
  (244, .pop, 1, (0, 0, 0, 0), none),
  (245, .aload_n 0, 1, (0, 0, 0, 0), none),
  (246, .invokevirtual 191, 3, (203, 1, 0, 23), none),
  (249, .goto 7, 3, (0, 0, 0, 0), none),
  (252, .aload_n 0, 1, (0, 0, 0, 0), none),
  (253, .invokevirtual 305, 3, (228, 1, 0, 23), none),
  (256, .return_, 1, (0, 0, 0, 0), none)]
def cd_X13_variable_ : List sm_E := [(0, .aload_n 0, 1, (0, 0, 0, 0), none),
  (1, .invokevirtual 191, 3, (203, 1, 0, 23), none),
  (4, .aload_n 0, 1, (0, 0, 0, 0), none),
  (5, .invokevirtual 267, 3, (216, 1, 1, 23), none),
  (8, .istore_n 1, 1, (0, 0, 0, 0), none),
  (9, .aload_n 0, 1, (0, 0, 0, 0), none),
  (10, .invokevirtual 328, 3, (215, 1, 0, 23), none),
  (13, .aload_n 0, 1, (0, 0, 0, 0), none),
  (14, .getfield 132, 3, (23, 4, 70, 0), none),
  (17, .aload_n 0, 1, (0, 0, 0, 0), none),
  (18, .getfield 178, 3, (23, 11, 0, 0), none),
  (21, .laload, 1, (70, 803, 0, 0), none),
  (22, .lstore_n 2, 1, (0, 0, 0, 0), none),
  (23, .aload_n 0, 1, (0, 0, 0, 0), none),
  (24, .invokevirtual 191, 3, (203, 1, 0, 23), none),
  (27, .aload_n 0, 1, (0, 0, 0, 0), none),
  (28, .getfield 178, 3, (23, 11, 0, 0), none),
  (31, .istore 4, 2, (0, 0, 0, 0), none),
  (33, .aload_n 0, 1, (0, 0, 0, 0), none),
  (34, .bipush 61, 2, (0, 0, 0, 0), none),
  (36, .invokevirtual 261, 3, (206, 2, 0, 23), none),
  (39, .aload_n 0, 1, (0, 0, 0, 0), none),
  (40, .invokevirtual 321, 3, (230, 1, 1, 23), none),
  (43, .istore 5, 2, (0, 0, 0, 0), none),
  (45, .aload_n 0, 1, (0, 0, 0, 0), none),
  (46, .aload_n 0, 1, (0, 0, 0, 0), none),
  (47, .bipush 59, 2, (0, 0, 0, 0), none),
  (49, .invokevirtual 185, 3, (204, 2, 1, 23), none),
  (52, .invokevirtual 187, 3, (201, 2, 0, 23), none),
  (55, .aload_n 0, 1, (0, 0, 0, 0), none),
  (56, .iload 5, 2, (0, 0, 0, 0), none),
  (58, .iload_n 1, 1, (0, 0, 0, 0), none),
  (59, .invokestatic 331, 3, (185, 2, 1, 0), none),
  (62, .aload_n 0, 1, (0, 0, 0, 0), none),
  (63, .getfield 178, 3, (23, 11, 0, 0), none),
  (66, .invokevirtual 324, 3, (202, 3, 0, 23), none),
  (69, .aload_n 0, 1, (0, 0, 0, 0), none),
  (70, .iconst 2, 1, (0, 0, 0, 0), none),
  (71, .aload_n 0, 1, (0, 0, 0, 0), none),
  (72, .getfield 255, 3, (23, 15, 0, 0), none),
  (75, .iload 4, 2, (0, 0, 0, 0), none),
  (77, .invokevirtual 276, 3, (207, 4, 1, 23), none),
  (80, .pop, 1, (0, 0, 0, 0), none),
  (81, .aload_n 0, 1, (0, 0, 0, 0), none),
  (82, .invokevirtual 191, 3, (203, 1, 0, 23), none),
  (85, .aload_n 0, 1, (0, 0, 0, 0), none),
  (86, .lload_n 2, 1, (0, 0, 0, 0), none),
  (87, .iload_n 1, 1, (0, 0, 0, 0), none),
  (88, .invokevirtual 286, 3, (214, 3, 0, 23), none),
  (91, .return_, 1, (0, 0, 0, 0), none)]
end
end
section
section
def cd_X13_asks : List sm_E := [(0, .aload_n 0, 1, (0, 0, 0, 0), none),
  (1, .invokevirtual 191, 3, (203, 1, 0, 23), none),
  (4, .aload_n 0, 1, (0, 0, 0, 0), none),
  (5, .bipush 40, 2, (0, 0, 0, 0), none),
  (7, .invokevirtual 334, 3, (229, 2, 0, 23), none),
  (10, .aload_n 0, 1, (0, 0, 0, 0), none),
  (11, .invokevirtual 321, 3, (230, 1, 1, 23), none),
  (14, .istore_n 2, 1, (0, 0, 0, 0), none),
  (15, .aload_n 0, 1, (0, 0, 0, 0), none),
  (16, .aload_n 0, 1, (0, 0, 0, 0), none),
  (17, .bipush 41, 2, (0, 0, 0, 0), none),
  (19, .invokevirtual 185, 3, (204, 2, 1, 23), none),
  (22, .invokevirtual 187, 3, (201, 2, 0, 23), none),
  (25, .aload_n 0, 1, (0, 0, 0, 0), none),
  (26, .iload_n 2, 1, (0, 0, 0, 0), none),
  (27, .bipush 36, 2, (0, 0, 0, 0), none),
  (29, .if_icmp .ne 7, 3, (0, 0, 0, 0), none),
  (32, .iconst 1, 1, (0, 0, 0, 0), none),
  (33, .goto 4, 3, (0, 0, 0, 0), none),
  (36, .iconst 0, 1, (0, 0, 0, 0), none),
  (37, .aload_n 0, 1, (0, 0, 0, 0), some [0, 1]),
  (38, .getfield 178, 3, (23, 11, 0, 0), none),
  (41, .invokevirtual 324, 3, (202, 3, 0, 23), none),
  (44, .aload_n 0, 1, (0, 0, 0, 0), none),
  (45, .dup, 1, (0, 0, 0, 0), none),
  (46, .getfield 302, 3, (23, 13, 0, 0), none),
  (49, .iconst 1, 1, (0, 0, 0, 0), none),
  (50, .isub, 1, (0, 0, 0, 0), none),
  (51, .putfield 302, 3, (23, 13, 0, 0), none),
  (54, .aload_n 0, 1, (0, 0, 0, 0), none),
  (55, .invokevirtual 191, 3, (203, 1, 0, 23), none),
  (58, .aload_n 0, 1, (0, 0, 0, 0), none),
  (59, .bipush 19, 2, (0, 0, 0, 0), none),
  (61, .iconst 0, 1, (0, 0, 0, 0), none),
  (62, .iload_n 1, 1, (0, 0, 0, 0), none),
  (63, .invokevirtual 276, 3, (207, 4, 1, 23), none),
  (66, .ireturn, 1, (0, 0, 0, 0), none)]
def cd_X13_chooses : List sm_E := [(0, .aload_n 0, 1, (0, 0, 0, 0), none),
  (1, .iload_n 1, 1, (0, 0, 0, 0), none),
  (2, .invokevirtual 337, 3, (220, 2, 1, 23), none),
  (5, .istore_n 2, 1, (0, 0, 0, 0), none),
  (6, .aload_n 0, 1, (0, 0, 0, 0), none),
  (7, .invokevirtual 273, 3, (217, 1, 0, 23), none),
  (10, .aload_n 0, 1, (0, 0, 0, 0), none),
  (11, .iconst 3, 1, (0, 0, 0, 0), none),
  (12, .invokevirtual 238, 3, (205, 2, 1, 23), none),
  (15, .ifCond .eq 55, 3, (0, 0, 0, 0), none),
  (18, .aload_n 0, 1, (0, 0, 0, 0), none),
  (19, .bipush 26, 2, (0, 0, 0, 0), none),
  (21, .iconst 0, 1, (0, 0, 0, 0), none),
  (22, .iconst (-1), 1, (0, 0, 0, 0), none),
  (23, .invokevirtual 276, 3, (207, 4, 1, 23), none),
  (26, .istore_n 3, 1, (0, 0, 0, 0), none),
  (27, .aload_n 0, 1, (0, 0, 0, 0), none),
  (28, .getfield 195, 3, (23, 7, 2, 0), none),
  (31, .getfield 207, 3, (22, 8, 64, 0), none),
  (34, .iload_n 2, 1, (0, 0, 0, 0), none),
  (35, .aload_n 0, 1, (0, 0, 0, 0), none),
  (36, .getfield 195, 3, (23, 7, 2, 0), none),
  (39, .getfield 199, 3, (22, 6, 0, 0), none),
  (42, .iastore, 1, (64, 4000, 0, 0), none),
  (43, .aload_n 0, 1, (0, 0, 0, 0), none),
  (44, .invokevirtual 191, 3, (203, 1, 0, 23), none),
  (47, .aload_n 0, 1, (0, 0, 0, 0), none),
  (48, .invokevirtual 273, 3, (217, 1, 0, 23), none),
  (51, .aload_n 0, 1, (0, 0, 0, 0), none),
  (52, .getfield 195, 3, (23, 7, 2, 0), none),
  (55, .getfield 207, 3, (22, 8, 64, 0), none),
  (58, .iload_n 3, 1, (0, 0, 0, 0), none),
  (59, .aload_n 0, 1, (0, 0, 0, 0), none),
  (60, .getfield 195, 3, (23, 7, 2, 0), none),
  (63, .getfield 199, 3, (22, 6, 0, 0), none),
  (66, .iastore, 1, (64, 4000, 0, 0), none),
  (67, .goto 19, 3, (0, 0, 0, 0), none),
  (70, .aload_n 0, 1, (0, 0, 0, 0), none),
  (71, .getfield 195, 3, (23, 7, 2, 0), none),
  (74, .getfield 207, 3, (22, 8, 64, 0), none),
  (77, .iload_n 2, 1, (0, 0, 0, 0), none),
  (78, .aload_n 0, 1, (0, 0, 0, 0), none),
  (79, .getfield 195, 3, (23, 7, 2, 0), none),
  (82, .getfield 199, 3, (22, 6, 0, 0), none),
  (85, .iastore, 1, (64, 4000, 0, 0), none),
  (86, .return_, 1, (0, 0, 0, 0), none)]
def cd_X13_repeats : List sm_E := [(0, .aload_n 0, 1, (0, 0, 0, 0), none),
  (1, .getfield 195, 3, (23, 7, 2, 0), none),
  (4, .getfield 199, 3, (22, 6, 0, 0), none),
  (7, .istore_n 2, 1, (0, 0, 0, 0), none),
  (8, .aload_n 0, 1, (0, 0, 0, 0), none),
  (9, .iload_n 1, 1, (0, 0, 0, 0), none),
  (10, .invokevirtual 337, 3, (220, 2, 1, 23), none),
  (13, .istore_n 3, 1, (0, 0, 0, 0), none),
  (14, .aload_n 0, 1, (0, 0, 0, 0), none),
  (15, .invokevirtual 273, 3, (217, 1, 0, 23), none),
  (18, .aload_n 0, 1, (0, 0, 0, 0), none),
  (19, .bipush 26, 2, (0, 0, 0, 0), none),
  (21, .iload_n 2, 1, (0, 0, 0, 0), none),
  (22, .iconst (-1), 1, (0, 0, 0, 0), none),
  (23, .invokevirtual 276, 3, (207, 4, 1, 23), none),
  (26, .pop, 1, (0, 0, 0, 0), none),
  (27, .aload_n 0, 1, (0, 0, 0, 0), none),
  (28, .getfield 195, 3, (23, 7, 2, 0), none),
  (31, .getfield 207, 3, (22, 8, 64, 0), none),
  (34, .iload_n 3, 1, (0, 0, 0, 0), none),
  (35, .aload_n 0, 1, (0, 0, 0, 0), none),
  (36, .getfield 195, 3, (23, 7, 2, 0), none),
  (39, .getfield 199, 3, (22, 6, 0, 0), none),
  (42, .iastore, 1, (64, 4000, 0, 0), none),
  (43, .return_, 1, (0, 0, 0, 0), none)]
def cd_X13_attempts : List sm_E := [(0, .aload_n 0, 1, (0, 0, 0, 0), none),
  (1, .invokevirtual 191, 3, (203, 1, 0, 23), none),
  (4, .aload_n 0, 1, (0, 0, 0, 0), none),
  (5, .bipush 27, 2, (0, 0, 0, 0), none),
  (7, .iconst 0, 1, (0, 0, 0, 0), none),
  (8, .iconst (-1), 1, (0, 0, 0, 0), none),
  (9, .invokevirtual 276, 3, (207, 4, 1, 23), none),
  (12, .istore_n 1, 1, (0, 0, 0, 0), none),
  (13, .aload_n 0, 1, (0, 0, 0, 0), none),
  (14, .invokevirtual 273, 3, (217, 1, 0, 23), none),
  (17, .aload_n 0, 1, (0, 0, 0, 0), none),
  (18, .bipush 28, 2, (0, 0, 0, 0), none),
  (20, .iconst 0, 1, (0, 0, 0, 0), none),
  (21, .iconst (-1), 1, (0, 0, 0, 0), none),
  (22, .invokevirtual 276, 3, (207, 4, 1, 23), none),
  (25, .pop, 1, (0, 0, 0, 0), none),
  (26, .aload_n 0, 1, (0, 0, 0, 0), none),
  (27, .bipush 26, 2, (0, 0, 0, 0), none),
  (29, .iconst 0, 1, (0, 0, 0, 0), none),
  (30, .iconst (-1), 1, (0, 0, 0, 0), none),
  (31, .invokevirtual 276, 3, (207, 4, 1, 23), none),
  (34, .istore_n 2, 1, (0, 0, 0, 0), none),
  (35, .aload_n 0, 1, (0, 0, 0, 0), none),
  (36, .aload_n 0, 1, (0, 0, 0, 0), none),
  (37, .bipush 6, 2, (0, 0, 0, 0), none),
  (39, .invokevirtual 238, 3, (205, 2, 1, 23), none),
  (42, .invokevirtual 187, 3, (201, 2, 0, 23), none),
  (45, .aload_n 0, 1, (0, 0, 0, 0), none),
  (46, .invokevirtual 191, 3, (203, 1, 0, 23), none),
  (49, .aload_n 0, 1, (0, 0, 0, 0), none),
  (50, .bipush 40, 2, (0, 0, 0, 0), none),
  (52, .invokevirtual 261, 3, (206, 2, 0, 23), none),
  (55, .aload_n 0, 1, (0, 0, 0, 0), none),
  (56, .invokevirtual 328, 3, (215, 1, 0, 23), none),
  (59, .aload_n 0, 1, (0, 0, 0, 0), none),
  (60, .getfield 132, 3, (23, 4, 70, 0), none),
  (63, .aload_n 0, 1, (0, 0, 0, 0), none),
  (64, .getfield 178, 3, (23, 11, 0, 0), none),
  (67, .laload, 1, (70, 803, 0, 0), none),
  (68, .lstore_n 3, 1, (0, 0, 0, 0), none),
  (69, .aload_n 0, 1, (0, 0, 0, 0), none),
  (70, .invokevirtual 191, 3, (203, 1, 0, 23), none),
  (73, .aload_n 0, 1, (0, 0, 0, 0), none),
  (74, .bipush 41, 2, (0, 0, 0, 0), none),
  (76, .invokevirtual 261, 3, (206, 2, 0, 23), none),
  (79, .aload_n 0, 1, (0, 0, 0, 0), none),
  (80, .getfield 195, 3, (23, 7, 2, 0), none),
  (83, .getfield 207, 3, (22, 8, 64, 0), none),
  (86, .iload_n 1, 1, (0, 0, 0, 0), none),
  (87, .aload_n 0, 1, (0, 0, 0, 0), none),
  (88, .getfield 195, 3, (23, 7, 2, 0), none),
  (91, .getfield 199, 3, (22, 6, 0, 0), none),
  (94, .iastore, 1, (64, 4000, 0, 0), none),
  (95, .aload_n 0, 1, (0, 0, 0, 0), none),
  (96, .getfield 195, 3, (23, 7, 2, 0), none),
  (99, .getfield 210, 3, (22, 9, 65, 0), none),
  (102, .iload_n 1, 1, (0, 0, 0, 0), none),
  (103, .aload_n 0, 1, (0, 0, 0, 0), none),
  (104, .getfield 255, 3, (23, 15, 0, 0), none),
  (107, .iastore, 1, (65, 4000, 0, 0), none),
  (108, .aload_n 0, 1, (0, 0, 0, 0), none),
  (109, .getfield 252, 3, (23, 16, 0, 0), none),
  (112, .istore 5, 2, (0, 0, 0, 0), none),
  (114, .aload_n 0, 1, (0, 0, 0, 0), none),
  (115, .lload_n 3, 1, (0, 0, 0, 0), none),
  (116, .bipush 36, 2, (0, 0, 0, 0), none),
  (118, .invokevirtual 286, 3, (214, 3, 0, 23), none),
  (121, .aload_n 0, 1, (0, 0, 0, 0), none),
  (122, .invokevirtual 273, 3, (217, 1, 0, 23), none),
  (125, .aload_n 0, 1, (0, 0, 0, 0), none),
  (126, .iload 5, 2, (0, 0, 0, 0), none),
  (128, .putfield 252, 3, (23, 16, 0, 0), none),
  (131, .aload_n 0, 1, (0, 0, 0, 0), none),
  (132, .getfield 195, 3, (23, 7, 2, 0), none),
  (135, .getfield 207, 3, (22, 8, 64, 0), none),
  (138, .iload_n 2, 1, (0, 0, 0, 0), none),
  (139, .aload_n 0, 1, (0, 0, 0, 0), none),
  (140, .getfield 195, 3, (23, 7, 2, 0), none),
  (143, .getfield 199, 3, (22, 6, 0, 0), none),
  (146, .iastore, 1, (64, 4000, 0, 0), none),
  (147, .return_, 1, (0, 0, 0, 0), none)]
def cd_X13_gives : List sm_E := [(0, .aload_n 0, 1, (0, 0, 0, 0), none),
  (1, .invokevirtual 191, 3, (203, 1, 0, 23), none),
  (4, .aload_n 0, 1, (0, 0, 0, 0), none),
  (5, .getfield 195, 3, (23, 7, 2, 0), none),
  (8, .getfield 249, 3, (22, 2, 59, 0), none),
  (11, .aload_n 0, 1, (0, 0, 0, 0), none),
  (12, .getfield 244, 3, (23, 12, 0, 0), none),
  (15, .iaload, 1, (59, 12, 0, 0), none),
  (16, .istore_n 2, 1, (0, 0, 0, 0), none),
  (17, .aload_n 0, 1, (0, 0, 0, 0), none),
  (18, .bipush 59, 2, (0, 0, 0, 0), none),
  (20, .invokevirtual 185, 3, (204, 2, 1, 23), none),
  (23, .ifCond .eq 8, 3, (0, 0, 0, 0), none),
  (26, .bipush 38, 2, (0, 0, 0, 0), none),
  (28, .goto 7, 3, (0, 0, 0, 0), none),
  (31, .aload_n 0, 1, (0, 0, 0, 0), none),
  (32, .invokevirtual 321, 3, (230, 1, 1, 23), none),
  (35, .istore_n 3, 1, (0, 0, 0, 0), some [0, 1, 2]),
  (36, .aload_n 0, 1, (0, 0, 0, 0), none),
  (37, .aload_n 0, 1, (0, 0, 0, 0), none),
  (38, .bipush 59, 2, (0, 0, 0, 0), none),
  (40, .invokevirtual 185, 3, (204, 2, 1, 23), none),
  (43, .invokevirtual 187, 3, (201, 2, 0, 23), none),
  (46, .aload_n 0, 1, (0, 0, 0, 0), none),
  (47, .iload_n 2, 1, (0, 0, 0, 0), none),
  (48, .bipush 38, 2, (0, 0, 0, 0), none),
  (50, .if_icmp .ne 35, 3, (0, 0, 0, 0), none),
  (53, .iload_n 3, 1, (0, 0, 0, 0), none),
  (54, .bipush 38, 2, (0, 0, 0, 0), none),
  (56, .if_icmp .ne 25, 3, (0, 0, 0, 0), none),
  (59, .aload_n 0, 1, (0, 0, 0, 0), none),
  (60, .getfield 195, 3, (23, 7, 2, 0), none),
  (63, .getfield 199, 3, (22, 6, 0, 0), none),
  (66, .ifCond .lt 15, 3, (0, 0, 0, 0), none),
  (69, .aload_n 0, 1, (0, 0, 0, 0), none),
  (70, .iload_n 1, 1, (0, 0, 0, 0), none),
  (71, .invokevirtual 340, 3, (225, 2, 1, 23), none),
  (74, .ifCond .eq 7, 3, (0, 0, 0, 0), none),
  (77, .iconst 1, 1, (0, 0, 0, 0), none),
  (78, .goto 12, 3, (0, 0, 0, 0), none),
  (81, .iconst 0, 1, (0, 0, 0, 0), none),
  (82, .goto 8, 3, (0, 0, 0, 0), none),
  (85, .iload_n 3, 1, (0, 0, 0, 0), none),
  (86, .iload_n 2, 1, (0, 0, 0, 0), none),
  (87, .invokestatic 331, 3, (185, 2, 1, 0), none),
  (90, .aload_n 0, 1, (0, 0, 0, 0), some [0, 1, 2]),
  (91, .getfield 178, 3, (23, 11, 0, 0), none),
  (94, .invokevirtual 324, 3, (202, 3, 0, 23), none),
  (97, .aload_n 0, 1, (0, 0, 0, 0), none),
  (98, .iload_n 2, 1, (0, 0, 0, 0), none),
  (99, .bipush 38, 2, (0, 0, 0, 0), none),
  (101, .if_icmp .ne 8, 3, (0, 0, 0, 0), none),
  (104, .bipush 24, 2, (0, 0, 0, 0), none),
  (106, .goto 5, 3, (0, 0, 0, 0), none),
  (109, .bipush 23, 2, (0, 0, 0, 0), none),
  (111, .iconst 0, 1, (0, 0, 0, 0), none),
  (112, .iload_n 1, 1, (0, 0, 0, 0), none),
  (113, .invokevirtual 276, 3, (207, 4, 1, 23), none),
  (116, .pop, 1, (0, 0, 0, 0), none),
  (117, .aload_n 0, 1, (0, 0, 0, 0), none),
  (118, .invokevirtual 191, 3, (203, 1, 0, 23), none),
  (121, .return_, 1, (0, 0, 0, 0), none)]
def cd_X13_isBare : List sm_E := [(0, .aload_n 0, 1, (0, 0, 0, 0), none),
  (1, .getfield 178, 3, (23, 11, 0, 0), none),
  (4, .iload_n 1, 1, (0, 0, 0, 0), none),
  (5, .iconst 1, 1, (0, 0, 0, 0), none),
  (6, .iadd, 1, (0, 0, 0, 0), none),
  (7, .if_icmp .ne 7, 3, (0, 0, 0, 0), none),
  (10, .iconst 1, 1, (0, 0, 0, 0), none),
  (11, .goto 4, 3, (0, 0, 0, 0), none),
  (14, .iconst 0, 1, (0, 0, 0, 0), none),
  (15, .ireturn, 1, (1, 0, 0, 0), none)]
def cd_X13_waits : List sm_E := [(0, .aload_n 0, 1, (0, 0, 0, 0), none),
  (1, .iload_n 1, 1, (0, 0, 0, 0), none),
  (2, .putfield 343, 3, (23, 20, 0, 0), none),
  (5, .aload_n 0, 1, (0, 0, 0, 0), none),
  (6, .iload_n 1, 1, (0, 0, 0, 0), none),
  (7, .putfield 346, 3, (23, 21, 0, 0), none),
  (10, .aload_n 0, 1, (0, 0, 0, 0), none),
  (11, .iload_n 2, 1, (0, 0, 0, 0), none),
  (12, .putfield 349, 3, (23, 22, 0, 0), none),
  (15, .aload_n 0, 1, (0, 0, 0, 0), none),
  (16, .iload_n 3, 1, (0, 0, 0, 0), none),
  (17, .putfield 352, 3, (23, 23, 0, 0), none),
  (20, .return_, 1, (0, 0, 0, 0), none)]
def cd_X13_reads : List sm_E := [(0, .aload_n 0, 1, (0, 0, 0, 0), none),
  (1, .getfield 346, 3, (23, 21, 0, 0), none),
  (4, .iconst 1, 1, (0, 0, 0, 0), none),
  (5, .if_icmp .ne 20, 3, (0, 0, 0, 0), none),
  (8, .aload_n 0, 1, (0, 0, 0, 0), none),
  (9, .iconst 1, 1, (0, 0, 0, 0), none),
  (10, .aload_n 0, 1, (0, 0, 0, 0), none),
  (11, .getfield 349, 3, (23, 22, 0, 0), none),
  (14, .aload_n 0, 1, (0, 0, 0, 0), none),
  (15, .getfield 352, 3, (23, 23, 0, 0), none),
  (18, .invokevirtual 276, 3, (207, 4, 1, 23), none),
  (21, .pop, 1, (0, 0, 0, 0), none),
  (22, .goto 47, 3, (0, 0, 0, 0), none),
  (25, .aload_n 0, 1, (0, 0, 0, 0), none),
  (26, .getfield 346, 3, (23, 21, 0, 0), none),
  (29, .iconst 2, 1, (0, 0, 0, 0), none),
  (30, .if_icmp .ne 17, 3, (0, 0, 0, 0), none),
  (33, .aload_n 0, 1, (0, 0, 0, 0), none),
  (34, .iconst 3, 1, (0, 0, 0, 0), none),
  (35, .iconst 0, 1, (0, 0, 0, 0), none),
  (36, .aload_n 0, 1, (0, 0, 0, 0), none),
  (37, .getfield 352, 3, (23, 23, 0, 0), none),
  (40, .invokevirtual 276, 3, (207, 4, 1, 23), none),
  (43, .pop, 1, (0, 0, 0, 0), none),
  (44, .goto 25, 3, (0, 0, 0, 0), none),
  (47, .aload_n 0, 1, (0, 0, 0, 0), none),
  (48, .getfield 346, 3, (23, 21, 0, 0), none),
  (51, .iconst 3, 1, (0, 0, 0, 0), none),
  (52, .if_icmp .ne 17, 3, (0, 0, 0, 0), none),
  (55, .aload_n 0, 1, (0, 0, 0, 0), none),
  (56, .iconst 5, 1, (0, 0, 0, 0), none),
  (57, .aload_n 0, 1, (0, 0, 0, 0), none),
  (58, .getfield 349, 3, (23, 22, 0, 0), none),
  (61, .aload_n 0, 1, (0, 0, 0, 0), none),
  (62, .getfield 352, 3, (23, 23, 0, 0), none),
  (65, .invokevirtual 276, 3, (207, 4, 1, 23), none),
  (68, .pop, 1, (0, 0, 0, 0), none),
  (69, .aload_n 0, 1, (0, 0, 0, 0), none),
  (70, .iconst 0, 1, (0, 0, 0, 0), none),
  (71, .putfield 346, 3, (23, 21, 0, 0), none),
  (74, .return_, 1, (0, 0, 0, 0), none)]
def cd_X13_acts : List sm_E := [(0, .aload_n 0, 1, (0, 0, 0, 0), none),
  (1, .invokevirtual 355, 3, (234, 1, 1, 23), none),
  (4, .istore_n 1, 1, (0, 0, 0, 0), none),
  (5, .aload_n 0, 1, (0, 0, 0, 0), none),
  (6, .getfield 343, 3, (23, 20, 0, 0), none),
  (9, .istore_n 2, 1, (0, 0, 0, 0), none),
  (10, .aload_n 0, 1, (0, 0, 0, 0), none),
  (11, .getfield 349, 3, (23, 22, 0, 0), none),
  (14, .istore_n 3, 1, (0, 0, 0, 0), none),
  (15, .aload_n 0, 1, (0, 0, 0, 0), none),
  (16, .bipush 61, 2, (0, 0, 0, 0), none),
  (18, .invokevirtual 185, 3, (204, 2, 1, 23), none),
  (21, .ifCond .eq 138, 3, (0, 0, 0, 0), none),
  (24, .aload_n 0, 1, (0, 0, 0, 0), none),
  (25, .getfield 178, 3, (23, 11, 0, 0), none),
  (28, .istore 4, 2, (0, 0, 0, 0), none),
  (30, .aload_n 0, 1, (0, 0, 0, 0), none),
  (31, .iload_n 2, 1, (0, 0, 0, 0), none),
  (32, .iconst 1, 1, (0, 0, 0, 0), none),
  (33, .if_icmp .eq 13, 3, (0, 0, 0, 0), none),
  (36, .iload_n 2, 1, (0, 0, 0, 0), none),
  (37, .iconst 2, 1, (0, 0, 0, 0), none),
  (38, .if_icmp .eq 8, 3, (0, 0, 0, 0), none),
  (41, .iload_n 2, 1, (0, 0, 0, 0), none),
  (42, .iconst 3, 1, (0, 0, 0, 0), none),
  (43, .if_icmp .ne 7, 3, (0, 0, 0, 0), none),
  (46, .iconst 1, 1, (0, 0, 0, 0), none),
  (47, .goto 4, 3, (0, 0, 0, 0), none),
  (50, .iconst 0, 1, (0, 0, 0, 0), none),
  (51, .invokevirtual 187, 3, (201, 2, 0, 23), some [0, 1, 2, 3, 4]),
  (54, .aload_n 0, 1, (0, 0, 0, 0), none),
  (55, .iload_n 2, 1, (0, 0, 0, 0), none),
  (56, .iconst 3, 1, (0, 0, 0, 0), none),
  (57, .if_icmp .ne 18, 3, (0, 0, 0, 0), none),
  (60, .iload_n 3, 1, (0, 0, 0, 0), none),
  (61, .iconst 2, 1, (0, 0, 0, 0), none),
  (62, .if_icmp .eq 17, 3, (0, 0, 0, 0), none),
  (65, .iload_n 3, 1, (0, 0, 0, 0), none),
  (66, .iconst 3, 1, (0, 0, 0, 0), none),
  (67, .if_icmp .eq 12, 3, (0, 0, 0, 0), none),
  (70, .iload_n 3, 1, (0, 0, 0, 0), none),
  (71, .iconst 4, 1, (0, 0, 0, 0), none),
  (72, .if_icmp .eq 7, 3, (0, 0, 0, 0), none),
  (75, .iconst 1, 1, (0, 0, 0, 0), none),
  (76, .goto 4, 3, (0, 0, 0, 0), none),
  (79, .iconst 0, 1, (0, 0, 0, 0), none),
  (80, .aload_n 0, 1, (0, 0, 0, 0), some [0, 1, 2, 3, 4]),
  (81, .getfield 178, 3, (23, 11, 0, 0), none),
  (84, .invokevirtual 324, 3, (202, 3, 0, 23), none),
  (87, .aload_n 0, 1, (0, 0, 0, 0), none),
  (88, .iconst 0, 1, (0, 0, 0, 0), none),
  (89, .putfield 346, 3, (23, 21, 0, 0), none),
  (92, .aload_n 0, 1, (0, 0, 0, 0), none),
  (93, .invokevirtual 191, 3, (203, 1, 0, 23), none),
  (96, .aload_n 0, 1, (0, 0, 0, 0), none),
  (97, .invokevirtual 321, 3, (230, 1, 1, 23), none),
  (100, .istore 5, 2, (0, 0, 0, 0), none),
  (102, .aload_n 0, 1, (0, 0, 0, 0), none),
  (103, .aload_n 0, 1, (0, 0, 0, 0), none),
  (104, .bipush 59, 2, (0, 0, 0, 0), none),
  (106, .invokevirtual 185, 3, (204, 2, 1, 23), none),
  (109, .invokevirtual 187, 3, (201, 2, 0, 23), none),
  (112, .aload_n 0, 1, (0, 0, 0, 0), none),
  (113, .iload 5, 2, (0, 0, 0, 0), none),
  (115, .iload_n 1, 1, (0, 0, 0, 0), none),
  (116, .invokestatic 331, 3, (185, 2, 1, 0), none),
  (119, .aload_n 0, 1, (0, 0, 0, 0), none),
  (120, .getfield 178, 3, (23, 11, 0, 0), none),
  (123, .invokevirtual 324, 3, (202, 3, 0, 23), none),
  (126, .aload_n 0, 1, (0, 0, 0, 0), none),
  (127, .iload_n 2, 1, (0, 0, 0, 0), none),
  (128, .iconst 1, 1, (0, 0, 0, 0), none),
  (129, .if_icmp .ne 7, 3, (0, 0, 0, 0), none),
  (132, .iconst 2, 1, (0, 0, 0, 0), none),
  (133, .goto 14, 3, (0, 0, 0, 0), none),
  (136, .iload_n 2, 1, (0, 0, 0, 0), none),
  (137, .iconst 2, 1, (0, 0, 0, 0), none),
  (138, .if_icmp .ne 7, 3, (0, 0, 0, 0), none),
  (141, .iconst 4, 1, (0, 0, 0, 0), none),
  (142, .goto 5, 3, (0, 0, 0, 0), none),
  (145, .bipush 6, 2, (0, 0, 0, 0), none),
  (147, .iload_n 3, 1, (0, 0, 0, 0), none),
  (148, .iload 4, 2, (0, 0, 0, 0), none),
  (150, .invokevirtual 276, 3, (207, 4, 1, 23), none),
  (153, .pop, 1, (0, 0, 0, 0), none),
  (154, .aload_n 0, 1, (0, 0, 0, 0), none),
  (155, .invokevirtual 191, 3, (203, 1, 0, 23), none),
  (158, .return_, 1, (0, 0, 0, 0), none),
  (159, .aload_n 0, 1, (0, 0, 0, 0), none),
  (160, .aload_n 0, 1, (0, 0, 0, 0), none),
  (161, .bipush 59, 2, (0, 0, 0, 0), none),
  (163, .invokevirtual 185, 3, (204, 2, 1, 23), none),
  (166, .ifCond .eq 12, 3, (0, 0, 0, 0), none),
  (169, .iload_n 2, 1, (0, 0, 0, 0), none),
  (170, .iconst 4, 1, (0, 0, 0, 0), none),
  (171, .if_icmp .ne 7, 3, (0, 0, 0, 0), none),
  (174, .iconst 1, 1, (0, 0, 0, 0), none),
  (175, .goto 4, 3, (0, 0, 0, 0), none),
  (178, .iconst 0, 1, (0, 0, 0, 0), none),
  (179, .invokevirtual 187, 3, (201, 2, 0, 23), some [0, 1]),
  (182, .iload_n 1, 1, (0, 0, 0, 0), none),
  (183, .bipush 38, 2, (0, 0, 0, 0), none),
  (185, .if_icmp .eq 12, 3, (0, 0, 0, 0), none),
  (188, .aload_n 0, 1, (0, 0, 0, 0), none),
  (189, .bipush 25, 2, (0, 0, 0, 0), none),
  (191, .iconst 0, 1, (0, 0, 0, 0), none),
  (192, .iconst (-1), 1, (0, 0, 0, 0), none),
  (193, .invokevirtual 276, 3, (207, 4, 1, 23), none),
  (196, .pop, 1, (0, 0, 0, 0), none),
  (197, .aload_n 0, 1, (0, 0, 0, 0), none),
  (198, .invokevirtual 191, 3, (203, 1, 0, 23), none),
  (201, .return_, 1, (0, 0, 0, 0), none)]
def cd_X13_opens : List sm_E := [(0, .aload_n 0, 1, (0, 0, 0, 0), none),
  (1, .aload_n 0, 1, (0, 0, 0, 0), none),
  (2, .iload_n 1, 1, (0, 0, 0, 0), none),
  (3, .invokevirtual 185, 3, (204, 2, 1, 23), none),
  (6, .ifCond .eq 16, 3, (0, 0, 0, 0), none),
  (9, .aload_n 0, 1, (0, 0, 0, 0), none),
  (10, .getfield 302, 3, (23, 13, 0, 0), none),
  (13, .bipush 10, 2, (0, 0, 0, 0), none),
  (15, .if_icmp .ge 7, 3, (0, 0, 0, 0), none),
  (18, .iconst 1, 1, (0, 0, 0, 0), none),
  (19, .goto 4, 3, (0, 0, 0, 0), none),
  (22, .iconst 0, 1, (0, 0, 0, 0), none),
  (23, .invokevirtual 187, 3, (201, 2, 0, 23), some [0]),
  (26, .aload_n 0, 1, (0, 0, 0, 0), none),
  (27, .dup, 1, (0, 0, 0, 0), none),
  (28, .getfield 302, 3, (23, 13, 0, 0), none),
  (31, .iconst 1, 1, (0, 0, 0, 0), none),
  (32, .iadd, 1, (0, 0, 0, 0), none),
  (33, .putfield 302, 3, (23, 13, 0, 0), none),
  (36, .aload_n 0, 1, (0, 0, 0, 0), none),
  (37, .invokevirtual 191, 3, (203, 1, 0, 23), none),
  (40, .return_, 1, (0, 0, 0, 0), none)]
def cd_X13_e : List sm_E := [(0, .aload_n 0, 1, (0, 0, 0, 0), none),
  (1, .invokevirtual 358, 3, (231, 1, 1, 23), none),
  (4, .istore_n 1, 1, (0, 0, 0, 0), none),
  (5, .aload_n 0, 1, (0, 0, 0, 0), none),
  (6, .sipush 300, 3, (0, 0, 0, 0), none),
  (9, .invokevirtual 185, 3, (204, 2, 1, 23), none),
  (12, .ifCond .ne 24, 3, (0, 0, 0, 0), none),
  (15, .aload_n 0, 1, (0, 0, 0, 0), none),
  (16, .sipush 301, 3, (0, 0, 0, 0), none),
  (19, .invokevirtual 185, 3, (204, 2, 1, 23), none),
  (22, .ifCond .ne 14, 3, (0, 0, 0, 0), none),
  (25, .aload_n 0, 1, (0, 0, 0, 0), none),
  (26, .bipush 60, 2, (0, 0, 0, 0), none),
  (28, .invokevirtual 185, 3, (204, 2, 1, 23), none),
  (31, .ifCond .ne 5, 3, (0, 0, 0, 0), none),
  (34, .iload_n 1, 1, (0, 0, 0, 0), none),
  (35, .ireturn, 1, (0, 0, 0, 0), none),
  (36, .aload_n 0, 1, (0, 0, 0, 0), some [0, 1]),
  (37, .getfield 178, 3, (23, 11, 0, 0), none),
  (40, .istore_n 2, 1, (0, 0, 0, 0), none),
  (41, .aload_n 0, 1, (0, 0, 0, 0), none),
  (42, .sipush 300, 3, (0, 0, 0, 0), none),
  (45, .invokevirtual 185, 3, (204, 2, 1, 23), none),
  (48, .ifCond .eq 8, 3, (0, 0, 0, 0), none),
  (51, .bipush 13, 2, (0, 0, 0, 0), none),
  (53, .goto 20, 3, (0, 0, 0, 0), none),
  (56, .aload_n 0, 1, (0, 0, 0, 0), none),
  (57, .sipush 301, 3, (0, 0, 0, 0), none),
  (60, .invokevirtual 185, 3, (204, 2, 1, 23), none),
  (63, .ifCond .eq 8, 3, (0, 0, 0, 0), none),
  (66, .bipush 14, 2, (0, 0, 0, 0), none),
  (68, .goto 5, 3, (0, 0, 0, 0), none),
  (71, .bipush 15, 2, (0, 0, 0, 0), none),
  (73, .istore_n 3, 1, (0, 0, 0, 0), some [0, 1, 2]),
  (74, .aload_n 0, 1, (0, 0, 0, 0), none),
  (75, .iload_n 1, 1, (0, 0, 0, 0), none),
  (76, .bipush 36, 2, (0, 0, 0, 0), none),
  (78, .if_icmp .eq 16, 3, (0, 0, 0, 0), none),
  (81, .iload_n 3, 1, (0, 0, 0, 0), none),
  (82, .bipush 15, 2, (0, 0, 0, 0), none),
  (84, .if_icmp .eq 14, 3, (0, 0, 0, 0), none),
  (87, .iload_n 1, 1, (0, 0, 0, 0), none),
  (88, .invokestatic 14, 3, (183, 1, 1, 0), none),
  (91, .ifCond .eq 7, 3, (0, 0, 0, 0), none),
  (94, .iconst 1, 1, (0, 0, 0, 0), none),
  (95, .goto 4, 3, (0, 0, 0, 0), none),
  (98, .iconst 0, 1, (0, 0, 0, 0), none),
  (99, .iload_n 2, 1, (0, 0, 0, 0), some [0, 1, 2, 3]),
  (100, .invokevirtual 324, 3, (202, 3, 0, 23), none),
  (103, .aload_n 0, 1, (0, 0, 0, 0), none),
  (104, .invokevirtual 191, 3, (203, 1, 0, 23), none),
  (107, .aload_n 0, 1, (0, 0, 0, 0), none),
  (108, .invokevirtual 358, 3, (231, 1, 1, 23), none),
  (111, .istore 4, 2, (0, 0, 0, 0), none),
  (113, .aload_n 0, 1, (0, 0, 0, 0), none),
  (114, .iload_n 1, 1, (0, 0, 0, 0), none),
  (115, .bipush 36, 2, (0, 0, 0, 0), none),
  (117, .if_icmp .ne 18, 3, (0, 0, 0, 0), none),
  (120, .iload 4, 2, (0, 0, 0, 0), none),
  (122, .bipush 36, 2, (0, 0, 0, 0), none),
  (124, .if_icmp .ne 7, 3, (0, 0, 0, 0), none),
  (127, .iconst 1, 1, (0, 0, 0, 0), none),
  (128, .goto 12, 3, (0, 0, 0, 0), none),
  (131, .iconst 0, 1, (0, 0, 0, 0), none),
  (132, .goto 8, 3, (0, 0, 0, 0), none),
  (135, .iload 4, 2, (0, 0, 0, 0), none),
  (137, .invokestatic 14, 3, (183, 1, 1, 0), none),
  (140, .iload_n 2, 1, (0, 0, 0, 0), some [0, 2, 3]),
  (141, .invokevirtual 324, 3, (202, 3, 0, 23), none),
  (144, .aload_n 0, 1, (0, 0, 0, 0), none),
  (145, .iload_n 3, 1, (0, 0, 0, 0), none),
  (146, .iconst 0, 1, (0, 0, 0, 0), none),
  (147, .iload_n 2, 1, (0, 0, 0, 0), none),
  (148, .invokevirtual 276, 3, (207, 4, 1, 23), none),
  (151, .pop, 1, (0, 0, 0, 0), none),
  (152, .bipush 36, 2, (0, 0, 0, 0), none),
  (154, .ireturn, 1, (0, 0, 0, 0), none)]
def cd_X13_sum : List sm_E := [(0, .aload_n 0, 1, (0, 0, 0, 0), none),
  (1, .invokevirtual 361, 3, (232, 1, 1, 23), none),
  (4, .istore_n 1, 1, (0, 0, 0, 0), none),
  (5, .aload_n 0, 1, (0, 0, 0, 0), some [0, 1]),
  (6, .bipush 43, 2, (0, 0, 0, 0), none),
  (8, .invokevirtual 185, 3, (204, 2, 1, 23), none),
  (11, .ifCond .ne 12, 3, (0, 0, 0, 0), none),
  (14, .aload_n 0, 1, (0, 0, 0, 0), none),
  (15, .bipush 45, 2, (0, 0, 0, 0), none),
  (17, .invokevirtual 185, 3, (204, 2, 1, 23), none),
  (20, .ifCond .eq 77, 3, (0, 0, 0, 0), none),
  (23, .aload_n 0, 1, (0, 0, 0, 0), some [0, 1]),
  (24, .getfield 178, 3, (23, 11, 0, 0), none),
  (27, .istore_n 2, 1, (0, 0, 0, 0), none),
  (28, .aload_n 0, 1, (0, 0, 0, 0), none),
  (29, .bipush 43, 2, (0, 0, 0, 0), none),
  (31, .invokevirtual 185, 3, (204, 2, 1, 23), none),
  (34, .ifCond .eq 8, 3, (0, 0, 0, 0), none),
  (37, .bipush 10, 2, (0, 0, 0, 0), none),
  (39, .goto 5, 3, (0, 0, 0, 0), none),
  (42, .bipush 11, 2, (0, 0, 0, 0), none),
  (44, .istore_n 3, 1, (0, 0, 0, 0), some [0, 1, 2]),
  (45, .aload_n 0, 1, (0, 0, 0, 0), none),
  (46, .iload_n 1, 1, (0, 0, 0, 0), none),
  (47, .bipush 36, 2, (0, 0, 0, 0), none),
  (49, .if_icmp .ne 7, 3, (0, 0, 0, 0), none),
  (52, .iconst 1, 1, (0, 0, 0, 0), none),
  (53, .goto 4, 3, (0, 0, 0, 0), none),
  (56, .iconst 0, 1, (0, 0, 0, 0), none),
  (57, .iload_n 2, 1, (0, 0, 0, 0), some [0, 2, 3]),
  (58, .invokevirtual 324, 3, (202, 3, 0, 23), none),
  (61, .aload_n 0, 1, (0, 0, 0, 0), none),
  (62, .invokevirtual 191, 3, (203, 1, 0, 23), none),
  (65, .aload_n 0, 1, (0, 0, 0, 0), none),
  (66, .invokevirtual 361, 3, (232, 1, 1, 23), none),
  (69, .istore_n 1, 1, (0, 0, 0, 0), none),
  (70, .aload_n 0, 1, (0, 0, 0, 0), none),
  (71, .iload_n 1, 1, (0, 0, 0, 0), none),
  (72, .bipush 36, 2, (0, 0, 0, 0), none),
  (74, .if_icmp .ne 7, 3, (0, 0, 0, 0), none),
  (77, .iconst 1, 1, (0, 0, 0, 0), none),
  (78, .goto 4, 3, (0, 0, 0, 0), none),
  (81, .iconst 0, 1, (0, 0, 0, 0), none),
  (82, .iload_n 2, 1, (0, 0, 0, 0), some [0, 1, 2, 3]),
  (83, .invokevirtual 324, 3, (202, 3, 0, 23), none),
  (86, .aload_n 0, 1, (0, 0, 0, 0), none),
  (87, .iload_n 3, 1, (0, 0, 0, 0), none),
  (88, .iconst 0, 1, (0, 0, 0, 0), none),
  (89, .iload_n 2, 1, (0, 0, 0, 0), none),
  (90, .invokevirtual 276, 3, (207, 4, 1, 23), none),
  (93, .pop, 1, (0, 0, 0, 0), none),
  (94, .goto (-89), 3, (0, 0, 0, 0), none),
  (97, .iload_n 1, 1, (0, 0, 0, 0), none),
  (98, .ireturn, 1, (0, 0, 0, 0), none)]
def cd_X13_product : List sm_E := [(0, .aload_n 0, 1, (0, 0, 0, 0), none),
  (1, .invokevirtual 364, 3, (233, 1, 1, 23), none),
  (4, .istore_n 1, 1, (0, 0, 0, 0), none),
  (5, .aload_n 0, 1, (0, 0, 0, 0), some [0, 1]),
  (6, .bipush 42, 2, (0, 0, 0, 0), none),
  (8, .invokevirtual 185, 3, (204, 2, 1, 23), none),
  (11, .ifCond .eq 61, 3, (0, 0, 0, 0), none),
  (14, .aload_n 0, 1, (0, 0, 0, 0), none),
  (15, .getfield 178, 3, (23, 11, 0, 0), none),
  (18, .istore_n 2, 1, (0, 0, 0, 0), none),
  (19, .aload_n 0, 1, (0, 0, 0, 0), none),
  (20, .iload_n 1, 1, (0, 0, 0, 0), none),
  (21, .bipush 36, 2, (0, 0, 0, 0), none),
  (23, .if_icmp .ne 7, 3, (0, 0, 0, 0), none),
  (26, .iconst 1, 1, (0, 0, 0, 0), none),
  (27, .goto 4, 3, (0, 0, 0, 0), none),
  (30, .iconst 0, 1, (0, 0, 0, 0), none),
  (31, .iload_n 2, 1, (0, 0, 0, 0), some [0, 2]),
  (32, .invokevirtual 324, 3, (202, 3, 0, 23), none),
  (35, .aload_n 0, 1, (0, 0, 0, 0), none),
  (36, .invokevirtual 191, 3, (203, 1, 0, 23), none),
  (39, .aload_n 0, 1, (0, 0, 0, 0), none),
  (40, .invokevirtual 364, 3, (233, 1, 1, 23), none),
  (43, .istore_n 1, 1, (0, 0, 0, 0), none),
  (44, .aload_n 0, 1, (0, 0, 0, 0), none),
  (45, .iload_n 1, 1, (0, 0, 0, 0), none),
  (46, .bipush 36, 2, (0, 0, 0, 0), none),
  (48, .if_icmp .ne 7, 3, (0, 0, 0, 0), none),
  (51, .iconst 1, 1, (0, 0, 0, 0), none),
  (52, .goto 4, 3, (0, 0, 0, 0), none),
  (55, .iconst 0, 1, (0, 0, 0, 0), none),
  (56, .iload_n 2, 1, (0, 0, 0, 0), some [0, 1, 2]),
  (57, .invokevirtual 324, 3, (202, 3, 0, 23), none),
  (60, .aload_n 0, 1, (0, 0, 0, 0), none),
  (61, .bipush 12, 2, (0, 0, 0, 0), none),
  (63, .iconst 0, 1, (0, 0, 0, 0), none),
  (64, .iload_n 2, 1, (0, 0, 0, 0), none),
  (65, .invokevirtual 276, 3, (207, 4, 1, 23), none),
  (68, .pop, 1, (0, 0, 0, 0), none),
  (69, .goto (-64), 3, (0, 0, 0, 0), none),
  (72, .iload_n 1, 1, (0, 0, 0, 0), none),
  (73, .ireturn, 1, (0, 0, 0, 0), none)]
def cd_X13_unitValue : List sm_E := [(0, .aload_n 0, 1, (0, 0, 0, 0), none),
  (1, .invokevirtual 355, 3, (234, 1, 1, 23), none),
  (4, .istore_n 1, 1, (0, 0, 0, 0), none),
  (5, .aload_n 0, 1, (0, 0, 0, 0), none),
  (6, .invokevirtual 367, 3, (227, 1, 0, 23), none),
  (9, .iload_n 1, 1, (0, 0, 0, 0), none),
  (10, .ireturn, 1, (0, 0, 0, 0), none)]
def cd_X13_unit : List sm_E := [(0, .aload_n 0, 1, (0, 0, 0, 0), none),
  (1, .invokevirtual 370, 3, (236, 1, 1, 23), none),
  (4, .istore_n 1, 1, (0, 0, 0, 0), none),
  (5, .iconst 1, 1, (0, 0, 0, 0), none),
  (6, .istore_n 2, 1, (0, 0, 0, 0), none),
  (7, .iload_n 2, 1, (0, 0, 0, 0), some [0, 1, 2]),
  (8, .ifCond .eq 71, 3, (0, 0, 0, 0), none),
  (11, .aload_n 0, 1, (0, 0, 0, 0), none),
  (12, .bipush 91, 2, (0, 0, 0, 0), none),
  (14, .invokevirtual 185, 3, (204, 2, 1, 23), none),
  (17, .ifCond .eq 12, 3, (0, 0, 0, 0), none),
  (20, .aload_n 0, 1, (0, 0, 0, 0), none),
  (21, .iload_n 1, 1, (0, 0, 0, 0), none),
  (22, .invokevirtual 373, 3, (241, 2, 1, 23), none),
  (25, .istore_n 1, 1, (0, 0, 0, 0), none),
  (26, .goto (-19), 3, (0, 0, 0, 0), none),
  (29, .aload_n 0, 1, (0, 0, 0, 0), none),
  (30, .bipush 46, 2, (0, 0, 0, 0), none),
  (32, .invokevirtual 185, 3, (204, 2, 1, 23), none),
  (35, .ifCond .eq 12, 3, (0, 0, 0, 0), none),
  (38, .aload_n 0, 1, (0, 0, 0, 0), none),
  (39, .iload_n 1, 1, (0, 0, 0, 0), none),
  (40, .invokevirtual 376, 3, (244, 2, 1, 23), none),
  (43, .istore_n 1, 1, (0, 0, 0, 0), none),
  (44, .goto (-37), 3, (0, 0, 0, 0), none),
  (47, .aload_n 0, 1, (0, 0, 0, 0), none),
  (48, .bipush 13, 2, (0, 0, 0, 0), none),
  (50, .invokevirtual 238, 3, (205, 2, 1, 23), none),
  (53, .ifCond .ne 12, 3, (0, 0, 0, 0), none),
  (56, .aload_n 0, 1, (0, 0, 0, 0), none),
  (57, .bipush 12, 2, (0, 0, 0, 0), none),
  (59, .invokevirtual 238, 3, (205, 2, 1, 23), none),
  (62, .ifCond .eq 12, 3, (0, 0, 0, 0), none),
  (65, .aload_n 0, 1, (0, 0, 0, 0), none),
  (66, .iload_n 1, 1, (0, 0, 0, 0), none),
  (67, .invokevirtual 379, 3, (245, 2, 1, 23), none),
  (70, .istore_n 1, 1, (0, 0, 0, 0), none),
  (71, .goto (-64), 3, (0, 0, 0, 0), none),
  (74, .iconst 0, 1, (0, 0, 0, 0), none),
  (75, .istore_n 2, 1, (0, 0, 0, 0), none),
  (76, .goto (-69), 3, (0, 0, 0, 0), none),
  (79, .iload_n 1, 1, (0, 0, 0, 0), none),
  (80, .ireturn, 1, (0, 0, 0, 0), none)]
def cd_X13_number : List sm_E := [(0, .aload_n 0, 1, (0, 0, 0, 0), none),
  (1, .iconst 0, 1, (0, 0, 0, 0), none),
  (2, .iload_n 2, 1, (0, 0, 0, 0), none),
  (3, .ifCond .eq 17, 3, (0, 0, 0, 0), none),
  (6, .aload_n 0, 1, (0, 0, 0, 0), none),
  (7, .getfield 132, 3, (23, 4, 70, 0), none),
  (10, .aload_n 0, 1, (0, 0, 0, 0), none),
  (11, .getfield 178, 3, (23, 11, 0, 0), none),
  (14, .laload, 1, (70, 803, 0, 0), none),
  (15, .lneg, 1, (0, 0, 0, 0), none),
  (16, .l2i, 1, (0, 0, 0, 0), none),
  (17, .goto 13, 3, (0, 0, 0, 0), none),
  (20, .aload_n 0, 1, (0, 0, 0, 0), none),
  (21, .getfield 132, 3, (23, 4, 70, 0), none),
  (24, .aload_n 0, 1, (0, 0, 0, 0), none),
  (25, .getfield 178, 3, (23, 11, 0, 0), none),
  (28, .laload, 1, (70, 803, 0, 0), none),
  (29, .l2i, 1, (0, 0, 0, 0), none),
  (30, .iload_n 1, 1, (0, 0, 0, 0), none),
  (31, .invokevirtual 276, 3, (207, 4, 1, 23), none),
  (34, .pop, 1, (0, 0, 0, 0), none),
  (35, .aload_n 0, 1, (0, 0, 0, 0), none),
  (36, .invokevirtual 191, 3, (203, 1, 0, 23), none),
  (39, .bipush 36, 2, (0, 0, 0, 0), none),
  (41, .ireturn, 1, (0, 0, 0, 0), none)]
def cd_X13_first : List sm_E := [(0, .aload_n 0, 1, (0, 0, 0, 0), none),
  (1, .getfield 178, 3, (23, 11, 0, 0), none),
  (4, .istore_n 1, 1, (0, 0, 0, 0), none),
  (5, .aload_n 0, 1, (0, 0, 0, 0), none),
  (6, .iconst 0, 1, (0, 0, 0, 0), none),
  (7, .putfield 343, 3, (23, 20, 0, 0), none),
  (10, .aload_n 0, 1, (0, 0, 0, 0), none),
  (11, .iconst 0, 1, (0, 0, 0, 0), none),
  (12, .putfield 346, 3, (23, 21, 0, 0), none),
  (15, .aload_n 0, 1, (0, 0, 0, 0), none),
  (16, .getfield 129, 3, (23, 2, 68, 0), none),
  (19, .aload_n 0, 1, (0, 0, 0, 0), none),
  (20, .getfield 178, 3, (23, 11, 0, 0), none),
  (23, .iaload, 1, (68, 803, 0, 0), none),
  (24, .iconst 3, 1, (0, 0, 0, 0), none),
  (25, .if_icmp .ne 10, 3, (0, 0, 0, 0), none),
  (28, .aload_n 0, 1, (0, 0, 0, 0), none),
  (29, .iload_n 1, 1, (0, 0, 0, 0), none),
  (30, .iconst 0, 1, (0, 0, 0, 0), none),
  (31, .invokevirtual 382, 3, (235, 3, 1, 23), none),
  (34, .ireturn, 1, (0, 0, 0, 0), none),
  (35, .aload_n 0, 1, (0, 0, 0, 0), none),
  (36, .bipush 45, 2, (0, 0, 0, 0), none),
  (38, .invokevirtual 185, 3, (204, 2, 1, 23), none),
  (41, .ifCond .eq 36, 3, (0, 0, 0, 0), none),
  (44, .aload_n 0, 1, (0, 0, 0, 0), none),
  (45, .invokevirtual 191, 3, (203, 1, 0, 23), none),
  (48, .aload_n 0, 1, (0, 0, 0, 0), none),
  (49, .aload_n 0, 1, (0, 0, 0, 0), none),
  (50, .getfield 129, 3, (23, 2, 68, 0), none),
  (53, .aload_n 0, 1, (0, 0, 0, 0), none),
  (54, .getfield 178, 3, (23, 11, 0, 0), none),
  (57, .iaload, 1, (68, 803, 0, 0), none),
  (58, .iconst 3, 1, (0, 0, 0, 0), none),
  (59, .if_icmp .ne 7, 3, (0, 0, 0, 0), none),
  (62, .iconst 1, 1, (0, 0, 0, 0), none),
  (63, .goto 4, 3, (0, 0, 0, 0), none),
  (66, .iconst 0, 1, (0, 0, 0, 0), none),
  (67, .invokevirtual 187, 3, (201, 2, 0, 23), none),
  (70, .aload_n 0, 1, (0, 0, 0, 0), none),
  (71, .iload_n 1, 1, (0, 0, 0, 0), none),
  (72, .iconst 1, 1, (0, 0, 0, 0), none),
  (73, .invokevirtual 382, 3, (235, 3, 1, 23), none),
  (76, .ireturn, 1, (0, 0, 0, 0), none),
  (77, .aload_n 0, 1, (0, 0, 0, 0), none),
  (78, .bipush 11, 2, (0, 0, 0, 0), none),
  (80, .invokevirtual 238, 3, (205, 2, 1, 23), none),
  (83, .ifCond .eq 18, 3, (0, 0, 0, 0), none),
  (86, .aload_n 0, 1, (0, 0, 0, 0), none),
  (87, .iconst 0, 1, (0, 0, 0, 0), none),
  (88, .iconst 0, 1, (0, 0, 0, 0), none),
  (89, .iload_n 1, 1, (0, 0, 0, 0), none),
  (90, .invokevirtual 276, 3, (207, 4, 1, 23), none),
  (93, .pop, 1, (0, 0, 0, 0), none),
  (94, .aload_n 0, 1, (0, 0, 0, 0), none),
  (95, .invokevirtual 191, 3, (203, 1, 0, 23), none),
  (98, .bipush 37, 2, (0, 0, 0, 0), none),
  (100, .ireturn, 1, (0, 0, 0, 0), none),
  (101, .aload_n 0, 1, (0, 0, 0, 0), none),
  (102, .bipush 10, 2, (0, 0, 0, 0), none),
  (104, .invokevirtual 238, 3, (205, 2, 1, 23), none),
  (107, .ifCond .eq 8, 3, (0, 0, 0, 0), none),
  (110, .aload_n 0, 1, (0, 0, 0, 0), none),
  (111, .invokevirtual 386, 3, (237, 1, 1, 23), none),
  (114, .ireturn, 1, (0, 0, 0, 0), none),
  (115, .aload_n 0, 1, (0, 0, 0, 0), none),
  (116, .bipush 40, 2, (0, 0, 0, 0), none),
  (118, .invokevirtual 185, 3, (204, 2, 1, 23), none),
  (121, .ifCond .eq 45, 3, (0, 0, 0, 0), none),
  (124, .aload_n 0, 1, (0, 0, 0, 0), none),
  (125, .bipush 40, 2, (0, 0, 0, 0), none),
  (127, .invokevirtual 334, 3, (229, 2, 0, 23), none),
  (130, .aload_n 0, 1, (0, 0, 0, 0), none),
  (131, .invokevirtual 321, 3, (230, 1, 1, 23), none),
  (134, .istore_n 2, 1, (0, 0, 0, 0), none),
  (135, .aload_n 0, 1, (0, 0, 0, 0), none),
  (136, .aload_n 0, 1, (0, 0, 0, 0), none),
  (137, .bipush 41, 2, (0, 0, 0, 0), none),
  (139, .invokevirtual 185, 3, (204, 2, 1, 23), none),
  (142, .invokevirtual 187, 3, (201, 2, 0, 23), none),
  (145, .aload_n 0, 1, (0, 0, 0, 0), none),
  (146, .dup, 1, (0, 0, 0, 0), none),
  (147, .getfield 302, 3, (23, 13, 0, 0), none),
  (150, .iconst 1, 1, (0, 0, 0, 0), none),
  (151, .isub, 1, (0, 0, 0, 0), none),
  (152, .putfield 302, 3, (23, 13, 0, 0), none),
  (155, .aload_n 0, 1, (0, 0, 0, 0), none),
  (156, .invokevirtual 191, 3, (203, 1, 0, 23), none),
  (159, .aload_n 0, 1, (0, 0, 0, 0), none),
  (160, .iconst 0, 1, (0, 0, 0, 0), none),
  (161, .putfield 343, 3, (23, 20, 0, 0), none),
  (164, .iload_n 2, 1, (0, 0, 0, 0), none),
  (165, .ireturn, 1, (0, 0, 0, 0), none),
  (166, .aload_n 0, 1, (0, 0, 0, 0), none),
  (167, .aload_n 0, 1, (0, 0, 0, 0), none),
  (168, .getfield 129, 3, (23, 2, 68, 0), none),
  (171, .aload_n 0, 1, (0, 0, 0, 0), none),
  (172, .getfield 178, 3, (23, 11, 0, 0), none),
  (175, .iaload, 1, (68, 803, 0, 0), none),
  (176, .iconst 1, 1, (0, 0, 0, 0), none),
  (177, .if_icmp .ne 7, 3, (0, 0, 0, 0), none),
  (180, .iconst 1, 1, (0, 0, 0, 0), none),
  (181, .goto 4, 3, (0, 0, 0, 0), none),
  (184, .iconst 0, 1, (0, 0, 0, 0), none),
  (185, .invokevirtual 187, 3, (201, 2, 0, 23), some [0, 1]),
  (188, .aload_n 0, 1, (0, 0, 0, 0), none),
  (189, .getfield 129, 3, (23, 2, 68, 0), none),
  (192, .aload_n 0, 1, (0, 0, 0, 0), none),
  (193, .getfield 178, 3, (23, 11, 0, 0), none),
  (196, .iconst 1, 1, (0, 0, 0, 0), none),
  (197, .iadd, 1, (0, 0, 0, 0), none),
  (198, .iaload, 1, (68, 803, 0, 0), none),
  (199, .iconst 4, 1, (0, 0, 0, 0), none),
  (200, .if_icmp .ne 26, 3, (0, 0, 0, 0), none),
  (203, .aload_n 0, 1, (0, 0, 0, 0), none),
  (204, .getfield 132, 3, (23, 4, 70, 0), none),
  (207, .aload_n 0, 1, (0, 0, 0, 0), none),
  (208, .getfield 178, 3, (23, 11, 0, 0), none),
  (211, .iconst 1, 1, (0, 0, 0, 0), none),
  (212, .iadd, 1, (0, 0, 0, 0), none),
  (213, .laload, 1, (70, 803, 0, 0), none),
  (214, .ldc2_w 389, 3, (3, 0, 0, 0), none),
  (217, .lcmp, 1, (0, 0, 0, 0), none),
  (218, .ifCond .ne 8, 3, (0, 0, 0, 0), none),
  (221, .aload_n 0, 1, (0, 0, 0, 0), none),
  (222, .invokevirtual 391, 3, (240, 1, 1, 23), none),
  (225, .ireturn, 1, (0, 0, 0, 0), none),
  (226, .aload_n 0, 1, (0, 0, 0, 0), some [0, 1]),
  (227, .aload_n 0, 1, (0, 0, 0, 0), none),
  (228, .getfield 132, 3, (23, 4, 70, 0), none),
  (231, .aload_n 0, 1, (0, 0, 0, 0), none),
  (232, .getfield 178, 3, (23, 11, 0, 0), none),
  (235, .laload, 1, (70, 803, 0, 0), none),
  (236, .invokevirtual 280, 3, (213, 2, 1, 23), none),
  (239, .istore_n 2, 1, (0, 0, 0, 0), none),
  (240, .iload_n 2, 1, (0, 0, 0, 0), none),
  (241, .iconst (-1), 1, (0, 0, 0, 0), none),
  (242, .if_icmp .ne 13, 3, (0, 0, 0, 0), none),
  (245, .aload_n 0, 1, (0, 0, 0, 0), none),
  (246, .iconst 2, 1, (0, 0, 0, 0), none),
  (247, .aload_n 0, 1, (0, 0, 0, 0), none),
  (248, .getfield 178, 3, (23, 11, 0, 0), none),
  (251, .invokevirtual 181, 3, (200, 3, 3, 23), none),
  (254, .athrow, 1, (0, 0, 0, 0), none),
  (255, .aload_n 0, 1, (0, 0, 0, 0), none),
  (256, .invokevirtual 191, 3, (203, 1, 0, 23), none),
  (259, .aload_n 0, 1, (0, 0, 0, 0), none),
  (260, .iconst 1, 1, (0, 0, 0, 0), none),
  (261, .aload_n 0, 1, (0, 0, 0, 0), none),
  (262, .getfield 296, 3, (23, 19, 73, 0), none),
  (265, .iload_n 2, 1, (0, 0, 0, 0), none),
  (266, .iaload, 1, (73, 24, 0, 0), none),
  (267, .iload_n 1, 1, (0, 0, 0, 0), none),
  (268, .invokevirtual 394, 3, (226, 4, 0, 23), none),
  (271, .aload_n 0, 1, (0, 0, 0, 0), none),
  (272, .getfield 293, 3, (23, 18, 72, 0), none),
  (275, .iload_n 2, 1, (0, 0, 0, 0), none),
  (276, .iaload, 1, (72, 24, 0, 0), none),
  (277, .ireturn, 1, (0, 0, 0, 0), none)]
def cd_X13_makes : List sm_E := [(0, .aload_n 0, 1, (0, 0, 0, 0), none),
  (1, .getfield 178, 3, (23, 11, 0, 0), none),
  (4, .istore_n 1, 1, (0, 0, 0, 0), none),
  (5, .aload_n 0, 1, (0, 0, 0, 0), none),
  (6, .invokevirtual 191, 3, (203, 1, 0, 23), none),
  (9, .aload_n 0, 1, (0, 0, 0, 0), none),
  (10, .aload_n 0, 1, (0, 0, 0, 0), none),
  (11, .getfield 129, 3, (23, 2, 68, 0), none),
  (14, .aload_n 0, 1, (0, 0, 0, 0), none),
  (15, .getfield 178, 3, (23, 11, 0, 0), none),
  (18, .iaload, 1, (68, 803, 0, 0), none),
  (19, .iconst 2, 1, (0, 0, 0, 0), none),
  (20, .if_icmp .ne 23, 3, (0, 0, 0, 0), none),
  (23, .aload_n 0, 1, (0, 0, 0, 0), none),
  (24, .getfield 132, 3, (23, 4, 70, 0), none),
  (27, .aload_n 0, 1, (0, 0, 0, 0), none),
  (28, .getfield 178, 3, (23, 11, 0, 0), none),
  (31, .laload, 1, (70, 803, 0, 0), none),
  (32, .ldc2_w 397, 3, (2, 0, 0, 0), none),
  (35, .lcmp, 1, (0, 0, 0, 0), none),
  (36, .ifCond .eq 7, 3, (0, 0, 0, 0), none),
  (39, .iconst 1, 1, (0, 0, 0, 0), none),
  (40, .goto 4, 3, (0, 0, 0, 0), none),
  (43, .iconst 0, 1, (0, 0, 0, 0), none),
  (44, .invokevirtual 187, 3, (201, 2, 0, 23), some [0, 1]),
  (47, .aload_n 0, 1, (0, 0, 0, 0), none),
  (48, .getfield 132, 3, (23, 4, 70, 0), none),
  (51, .aload_n 0, 1, (0, 0, 0, 0), none),
  (52, .getfield 178, 3, (23, 11, 0, 0), none),
  (55, .laload, 1, (70, 803, 0, 0), none),
  (56, .l2i, 1, (0, 0, 0, 0), none),
  (57, .istore_n 2, 1, (0, 0, 0, 0), none),
  (58, .aload_n 0, 1, (0, 0, 0, 0), none),
  (59, .invokevirtual 191, 3, (203, 1, 0, 23), none),
  (62, .aload_n 0, 1, (0, 0, 0, 0), none),
  (63, .bipush 40, 2, (0, 0, 0, 0), none),
  (65, .invokevirtual 185, 3, (204, 2, 1, 23), none),
  (68, .ifCond .eq 50, 3, (0, 0, 0, 0), none),
  (71, .iload_n 2, 1, (0, 0, 0, 0), none),
  (72, .bipush 13, 2, (0, 0, 0, 0), none),
  (74, .if_icmp .ge 44, 3, (0, 0, 0, 0), none),
  (77, .aload_n 0, 1, (0, 0, 0, 0), none),
  (78, .bipush 40, 2, (0, 0, 0, 0), none),
  (80, .invokevirtual 334, 3, (229, 2, 0, 23), none),
  (83, .aload_n 0, 1, (0, 0, 0, 0), none),
  (84, .aload_n 0, 1, (0, 0, 0, 0), none),
  (85, .bipush 41, 2, (0, 0, 0, 0), none),
  (87, .invokevirtual 185, 3, (204, 2, 1, 23), none),
  (90, .invokevirtual 187, 3, (201, 2, 0, 23), none),
  (93, .aload_n 0, 1, (0, 0, 0, 0), none),
  (94, .dup, 1, (0, 0, 0, 0), none),
  (95, .getfield 302, 3, (23, 13, 0, 0), none),
  (98, .iconst 1, 1, (0, 0, 0, 0), none),
  (99, .isub, 1, (0, 0, 0, 0), none),
  (100, .putfield 302, 3, (23, 13, 0, 0), none),
  (103, .aload_n 0, 1, (0, 0, 0, 0), none),
  (104, .invokevirtual 191, 3, (203, 1, 0, 23), none),
  (107, .aload_n 0, 1, (0, 0, 0, 0), none),
  (108, .bipush 16, 2, (0, 0, 0, 0), none),
  (110, .iload_n 2, 1, (0, 0, 0, 0), none),
  (111, .iload_n 1, 1, (0, 0, 0, 0), none),
  (112, .invokevirtual 276, 3, (207, 4, 1, 23), none),
  (115, .pop, 1, (0, 0, 0, 0), none),
  (116, .iload_n 2, 1, (0, 0, 0, 0), none),
  (117, .ireturn, 1, (0, 0, 0, 0), none),
  (118, .aload_n 0, 1, (0, 0, 0, 0), some [0, 1, 2]),
  (119, .bipush 91, 2, (0, 0, 0, 0), none),
  (121, .invokevirtual 334, 3, (229, 2, 0, 23), none),
  (124, .aload_n 0, 1, (0, 0, 0, 0), none),
  (125, .invokevirtual 321, 3, (230, 1, 1, 23), none),
  (128, .istore_n 3, 1, (0, 0, 0, 0), none),
  (129, .aload_n 0, 1, (0, 0, 0, 0), none),
  (130, .aload_n 0, 1, (0, 0, 0, 0), none),
  (131, .bipush 93, 2, (0, 0, 0, 0), none),
  (133, .invokevirtual 185, 3, (204, 2, 1, 23), none),
  (136, .invokevirtual 187, 3, (201, 2, 0, 23), none),
  (139, .aload_n 0, 1, (0, 0, 0, 0), none),
  (140, .iload_n 3, 1, (0, 0, 0, 0), none),
  (141, .bipush 36, 2, (0, 0, 0, 0), none),
  (143, .if_icmp .ne 7, 3, (0, 0, 0, 0), none),
  (146, .iconst 1, 1, (0, 0, 0, 0), none),
  (147, .goto 4, 3, (0, 0, 0, 0), none),
  (150, .iconst 0, 1, (0, 0, 0, 0), none),
  (151, .aload_n 0, 1, (0, 0, 0, 0), some [0, 1, 2]),
  (152, .getfield 178, 3, (23, 11, 0, 0), none),
  (155, .invokevirtual 324, 3, (202, 3, 0, 23), none),
  (158, .aload_n 0, 1, (0, 0, 0, 0), none),
  (159, .dup, 1, (0, 0, 0, 0), none),
  (160, .getfield 302, 3, (23, 13, 0, 0), none),
  (163, .iconst 1, 1, (0, 0, 0, 0), none),
  (164, .isub, 1, (0, 0, 0, 0), none),
  (165, .putfield 302, 3, (23, 13, 0, 0), none),
  (168, .aload_n 0, 1, (0, 0, 0, 0), none),
  (169, .invokevirtual 191, 3, (203, 1, 0, 23), none),
  (172, .aload_n 0, 1, (0, 0, 0, 0), none),
  (173, .bipush 17, 2, (0, 0, 0, 0), none),
  (175, .iload_n 2, 1, (0, 0, 0, 0), none),
  (176, .iload_n 1, 1, (0, 0, 0, 0), none),
  (177, .invokevirtual 276, 3, (207, 4, 1, 23), none),
  (180, .pop, 1, (0, 0, 0, 0), none),
  (181, .aload_n 0, 1, (0, 0, 0, 0), none),
  (182, .iconst 0, 1, (0, 0, 0, 0), none),
  (183, .putfield 343, 3, (23, 20, 0, 0), none),
  (186, .bipush 18, 2, (0, 0, 0, 0), none),
  (188, .iload_n 2, 1, (0, 0, 0, 0), none),
  (189, .iadd, 1, (0, 0, 0, 0), none),
  (190, .ireturn, 1, (0, 0, 0, 0), none)]
def cd_X13_paramsOfFive : List sm_E := [(0, .iload_n 0, 1, (0, 0, 0, 0), none),
  (1, .bipush 12, 2, (0, 0, 0, 0), none),
  (3, .if_icmp .ne 7, 3, (0, 0, 0, 0), none),
  (6, .iconst 1, 1, (0, 0, 0, 0), none),
  (7, .goto 30, 3, (0, 0, 0, 0), none),
  (10, .iload_n 0, 1, (0, 0, 0, 0), none),
  (11, .bipush 13, 2, (0, 0, 0, 0), none),
  (13, .if_icmp .eq 9, 3, (0, 0, 0, 0), none),
  (16, .iload_n 0, 1, (0, 0, 0, 0), none),
  (17, .bipush 14, 2, (0, 0, 0, 0), none),
  (19, .if_icmp .ne 7, 3, (0, 0, 0, 0), none),
  (22, .iconst 2, 1, (0, 0, 0, 0), none),
  (23, .goto 14, 3, (0, 0, 0, 0), none),
  (26, .iload_n 0, 1, (0, 0, 0, 0), none),
  (27, .bipush 15, 2, (0, 0, 0, 0), none),
  (29, .if_icmp .ne 7, 3, (0, 0, 0, 0), none),
  (32, .iconst 3, 1, (0, 0, 0, 0), none),
  (33, .goto 4, 3, (0, 0, 0, 0), none),
  (36, .iconst 0, 1, (0, 0, 0, 0), none),
  (37, .ireturn, 1, (0, 0, 0, 0), none)]
def cd_X13_paramType : List sm_E := [(0, .iload_n 1, 1, (0, 0, 0, 0), none),
  (1, .bipush 12, 2, (0, 0, 0, 0), none),
  (3, .if_icmp .ge 17, 3, (0, 0, 0, 0), none),
  (6, .aload_n 0, 1, (0, 0, 0, 0), none),
  (7, .getfield 195, 3, (23, 7, 2, 0), none),
  (10, .getfield 283, 3, (22, 4, 61, 0), none),
  (13, .iconst 4, 1, (0, 0, 0, 0), none),
  (14, .iload_n 1, 1, (0, 0, 0, 0), none),
  (15, .imul, 1, (0, 0, 0, 0), none),
  (16, .iload_n 2, 1, (0, 0, 0, 0), none),
  (17, .iadd, 1, (0, 0, 0, 0), none),
  (18, .iaload, 1, (61, 48, 0, 0), none),
  (19, .ireturn, 1, (0, 0, 0, 0), none),
  (20, .iload_n 1, 1, (0, 0, 0, 0), none),
  (21, .bipush 13, 2, (0, 0, 0, 0), none),
  (23, .if_icmp .ne 16, 3, (0, 0, 0, 0), none),
  (26, .iload_n 2, 1, (0, 0, 0, 0), none),
  (27, .iconst 1, 1, (0, 0, 0, 0), none),
  (28, .if_icmp .ne 7, 3, (0, 0, 0, 0), none),
  (31, .iconst 1, 1, (0, 0, 0, 0), none),
  (32, .goto 28, 3, (0, 0, 0, 0), none),
  (35, .iconst 0, 1, (0, 0, 0, 0), none),
  (36, .goto 24, 3, (0, 0, 0, 0), none),
  (39, .iload_n 1, 1, (0, 0, 0, 0), none),
  (40, .bipush 14, 2, (0, 0, 0, 0), none),
  (42, .if_icmp .eq 13, 3, (0, 0, 0, 0), none),
  (45, .iload_n 1, 1, (0, 0, 0, 0), none),
  (46, .bipush 15, 2, (0, 0, 0, 0), none),
  (48, .if_icmp .ne 11, 3, (0, 0, 0, 0), none),
  (51, .iload_n 2, 1, (0, 0, 0, 0), none),
  (52, .ifCond .ne 7, 3, (0, 0, 0, 0), none),
  (55, .iconst 1, 1, (0, 0, 0, 0), some []),
  (56, .goto 4, 3, (0, 0, 0, 0), none),
  (59, .iconst 0, 1, (0, 0, 0, 0), none),
  (60, .istore_n 3, 1, (0, 0, 0, 0), none),
  (61, .iload_n 3, 1, (0, 0, 0, 0), none),
  (62, .ifCond .eq 8, 3, (0, 0, 0, 0), none),
  (65, .bipush 18, 2, (0, 0, 0, 0), none),
  (67, .goto 5, 3, (0, 0, 0, 0), none),
  (70, .bipush 36, 2, (0, 0, 0, 0), none),
  (72, .ireturn, 1, (0, 0, 0, 0), none)]
def cd_X13_call : List sm_E := [(0, .aload_n 0, 1, (0, 0, 0, 0), none),
  (1, .getfield 178, 3, (23, 11, 0, 0), none),
  (4, .istore_n 1, 1, (0, 0, 0, 0), none),
  (5, .aload_n 0, 1, (0, 0, 0, 0), none),
  (6, .aload_n 0, 1, (0, 0, 0, 0), none),
  (7, .getfield 132, 3, (23, 4, 70, 0), none),
  (10, .aload_n 0, 1, (0, 0, 0, 0), none),
  (11, .getfield 178, 3, (23, 11, 0, 0), none),
  (14, .laload, 1, (70, 803, 0, 0), none),
  (15, .invokevirtual 241, 3, (210, 2, 1, 23), none),
  (18, .istore_n 2, 1, (0, 0, 0, 0), none),
  (19, .iload_n 2, 1, (0, 0, 0, 0), none),
  (20, .iconst (-1), 1, (0, 0, 0, 0), none),
  (21, .if_icmp .ne 13, 3, (0, 0, 0, 0), none),
  (24, .aload_n 0, 1, (0, 0, 0, 0), none),
  (25, .iconst 2, 1, (0, 0, 0, 0), none),
  (26, .aload_n 0, 1, (0, 0, 0, 0), none),
  (27, .getfield 178, 3, (23, 11, 0, 0), none),
  (30, .invokevirtual 181, 3, (200, 3, 3, 23), none),
  (33, .athrow, 1, (0, 0, 0, 0), none),
  (34, .aload_n 0, 1, (0, 0, 0, 0), none),
  (35, .invokevirtual 191, 3, (203, 1, 0, 23), none),
  (38, .aload_n 0, 1, (0, 0, 0, 0), none),
  (39, .bipush 40, 2, (0, 0, 0, 0), none),
  (41, .invokevirtual 334, 3, (229, 2, 0, 23), none),
  (44, .iload_n 2, 1, (0, 0, 0, 0), none),
  (45, .bipush 12, 2, (0, 0, 0, 0), none),
  (47, .if_icmp .ge 15, 3, (0, 0, 0, 0), none),
  (50, .aload_n 0, 1, (0, 0, 0, 0), none),
  (51, .getfield 195, 3, (23, 7, 2, 0), none),
  (54, .getfield 246, 3, (22, 3, 60, 0), none),
  (57, .iload_n 2, 1, (0, 0, 0, 0), none),
  (58, .iaload, 1, (60, 12, 0, 0), none),
  (59, .goto 7, 3, (0, 0, 0, 0), none),
  (62, .iload_n 2, 1, (0, 0, 0, 0), none),
  (63, .invokestatic 399, 3, (238, 1, 1, 0), none),
  (66, .istore_n 3, 1, (0, 0, 0, 0), some [0, 1, 2]),
  (67, .iconst 0, 1, (0, 0, 0, 0), none),
  (68, .istore 4, 2, (0, 0, 0, 0), none),
  (70, .aload_n 0, 1, (0, 0, 0, 0), none),
  (71, .bipush 41, 2, (0, 0, 0, 0), none),
  (73, .invokevirtual 185, 3, (204, 2, 1, 23), none),
  (76, .ifCond .ne 7, 3, (0, 0, 0, 0), none),
  (79, .iconst 1, 1, (0, 0, 0, 0), none),
  (80, .goto 4, 3, (0, 0, 0, 0), none),
  (83, .iconst 0, 1, (0, 0, 0, 0), none),
  (84, .istore 5, 2, (0, 0, 0, 0), none),
  (86, .iload 5, 2, (0, 0, 0, 0), some [0, 1, 2, 3, 4, 5]),
  (88, .ifCond .eq 93, 3, (0, 0, 0, 0), none),
  (91, .aload_n 0, 1, (0, 0, 0, 0), none),
  (92, .invokevirtual 321, 3, (230, 1, 1, 23), none),
  (95, .istore 6, 2, (0, 0, 0, 0), none),
  (97, .aload_n 0, 1, (0, 0, 0, 0), none),
  (98, .aload_n 0, 1, (0, 0, 0, 0), none),
  (99, .bipush 44, 2, (0, 0, 0, 0), none),
  (101, .invokevirtual 185, 3, (204, 2, 1, 23), none),
  (104, .ifCond .ne 12, 3, (0, 0, 0, 0), none),
  (107, .aload_n 0, 1, (0, 0, 0, 0), none),
  (108, .bipush 41, 2, (0, 0, 0, 0), none),
  (110, .invokevirtual 185, 3, (204, 2, 1, 23), none),
  (113, .ifCond .eq 7, 3, (0, 0, 0, 0), none),
  (116, .iconst 1, 1, (0, 0, 0, 0), none),
  (117, .goto 4, 3, (0, 0, 0, 0), none),
  (120, .iconst 0, 1, (0, 0, 0, 0), none),
  (121, .invokevirtual 187, 3, (201, 2, 0, 23), some [0, 1, 2, 3, 4, 6]),
  (124, .aload_n 0, 1, (0, 0, 0, 0), none),
  (125, .iload 4, 2, (0, 0, 0, 0), none),
  (127, .iload_n 3, 1, (0, 0, 0, 0), none),
  (128, .if_icmp .ge 22, 3, (0, 0, 0, 0), none),
  (131, .iload 6, 2, (0, 0, 0, 0), none),
  (133, .aload_n 0, 1, (0, 0, 0, 0), none),
  (134, .iload_n 2, 1, (0, 0, 0, 0), none),
  (135, .iload 4, 2, (0, 0, 0, 0), none),
  (137, .invokevirtual 402, 3, (239, 3, 1, 23), none),
  (140, .invokestatic 331, 3, (185, 2, 1, 0), none),
  (143, .ifCond .eq 7, 3, (0, 0, 0, 0), none),
  (146, .iconst 1, 1, (0, 0, 0, 0), none),
  (147, .goto 4, 3, (0, 0, 0, 0), none),
  (150, .iconst 0, 1, (0, 0, 0, 0), none),
  (151, .aload_n 0, 1, (0, 0, 0, 0), some [0, 1, 2, 3, 4]),
  (152, .getfield 178, 3, (23, 11, 0, 0), none),
  (155, .invokevirtual 324, 3, (202, 3, 0, 23), none),
  (158, .iinc 4 1, 3, (0, 0, 0, 0), none),
  (161, .aload_n 0, 1, (0, 0, 0, 0), none),
  (162, .bipush 44, 2, (0, 0, 0, 0), none),
  (164, .invokevirtual 185, 3, (204, 2, 1, 23), none),
  (167, .istore 5, 2, (0, 0, 0, 0), none),
  (169, .iload 5, 2, (0, 0, 0, 0), none),
  (171, .ifCond .eq 7, 3, (0, 0, 0, 0), none),
  (174, .aload_n 0, 1, (0, 0, 0, 0), none),
  (175, .invokevirtual 191, 3, (203, 1, 0, 23), none),
  (178, .goto (-92), 3, (0, 0, 0, 0), none),
  (181, .aload_n 0, 1, (0, 0, 0, 0), none),
  (182, .iload 4, 2, (0, 0, 0, 0), none),
  (184, .iload_n 3, 1, (0, 0, 0, 0), none),
  (185, .if_icmp .ne 7, 3, (0, 0, 0, 0), none),
  (188, .iconst 1, 1, (0, 0, 0, 0), none),
  (189, .goto 4, 3, (0, 0, 0, 0), none),
  (192, .iconst 0, 1, (0, 0, 0, 0), none),
  (193, .aload_n 0, 1, (0, 0, 0, 0), some [0, 1, 2]),
  (194, .getfield 178, 3, (23, 11, 0, 0), none),
  (197, .invokevirtual 324, 3, (202, 3, 0, 23), none),
  (200, .aload_n 0, 1, (0, 0, 0, 0), none),
  (201, .dup, 1, (0, 0, 0, 0), none),
  (202, .getfield 302, 3, (23, 13, 0, 0), none),
  (205, .iconst 1, 1, (0, 0, 0, 0), none),
  (206, .isub, 1, (0, 0, 0, 0), none),
  (207, .putfield 302, 3, (23, 13, 0, 0), none),
  (210, .aload_n 0, 1, (0, 0, 0, 0), none),
  (211, .invokevirtual 191, 3, (203, 1, 0, 23), none),
  (214, .aload_n 0, 1, (0, 0, 0, 0), none),
  (215, .bipush 18, 2, (0, 0, 0, 0), none),
  (217, .iload_n 2, 1, (0, 0, 0, 0), none),
  (218, .iload_n 1, 1, (0, 0, 0, 0), none),
  (219, .invokevirtual 276, 3, (207, 4, 1, 23), none),
  (222, .pop, 1, (0, 0, 0, 0), none),
  (223, .aload_n 0, 1, (0, 0, 0, 0), none),
  (224, .iconst 4, 1, (0, 0, 0, 0), none),
  (225, .putfield 343, 3, (23, 20, 0, 0), none),
  (228, .iload_n 2, 1, (0, 0, 0, 0), none),
  (229, .bipush 12, 2, (0, 0, 0, 0), none),
  (231, .if_icmp .lt 19, 3, (0, 0, 0, 0), none),
  (234, .iload_n 2, 1, (0, 0, 0, 0), none),
  (235, .bipush 12, 2, (0, 0, 0, 0), none),
  (237, .if_icmp .ne 8, 3, (0, 0, 0, 0), none),
  (240, .bipush 18, 2, (0, 0, 0, 0), none),
  (242, .goto 17, 3, (0, 0, 0, 0), none),
  (245, .bipush 36, 2, (0, 0, 0, 0), none),
  (247, .goto 12, 3, (0, 0, 0, 0), none),
  (250, .aload_n 0, 1, (0, 0, 0, 0), none),
  (251, .getfield 195, 3, (23, 7, 2, 0), none),
  (254, .getfield 249, 3, (22, 2, 59, 0), none),
  (257, .iload_n 2, 1, (0, 0, 0, 0), none),
  (258, .iaload, 1, (59, 12, 0, 0), none),
  (259, .ireturn, 1, (0, 0, 0, 0), none)]
def cd_X13_element : List sm_E := [(0, .aload_n 0, 1, (0, 0, 0, 0), none),
  (1, .invokevirtual 367, 3, (227, 1, 0, 23), none),
  (4, .aload_n 0, 1, (0, 0, 0, 0), none),
  (5, .getfield 178, 3, (23, 11, 0, 0), none),
  (8, .istore_n 2, 1, (0, 0, 0, 0), none),
  (9, .aload_n 0, 1, (0, 0, 0, 0), none),
  (10, .bipush 91, 2, (0, 0, 0, 0), none),
  (12, .invokevirtual 334, 3, (229, 2, 0, 23), none),
  (15, .aload_n 0, 1, (0, 0, 0, 0), none),
  (16, .invokevirtual 321, 3, (230, 1, 1, 23), none),
  (19, .istore_n 3, 1, (0, 0, 0, 0), none),
  (20, .aload_n 0, 1, (0, 0, 0, 0), none),
  (21, .aload_n 0, 1, (0, 0, 0, 0), none),
  (22, .bipush 93, 2, (0, 0, 0, 0), none),
  (24, .invokevirtual 185, 3, (204, 2, 1, 23), none),
  (27, .invokevirtual 187, 3, (201, 2, 0, 23), none),
  (30, .aload_n 0, 1, (0, 0, 0, 0), none),
  (31, .iload_n 1, 1, (0, 0, 0, 0), none),
  (32, .invokestatic 18, 3, (184, 1, 1, 0), none),
  (35, .ifCond .eq 13, 3, (0, 0, 0, 0), none),
  (38, .iload_n 3, 1, (0, 0, 0, 0), none),
  (39, .bipush 36, 2, (0, 0, 0, 0), none),
  (41, .if_icmp .ne 7, 3, (0, 0, 0, 0), none),
  (44, .iconst 1, 1, (0, 0, 0, 0), none),
  (45, .goto 4, 3, (0, 0, 0, 0), none),
  (48, .iconst 0, 1, (0, 0, 0, 0), none),
  (49, .aload_n 0, 1, (0, 0, 0, 0), some [0, 1, 2]),
  (50, .getfield 178, 3, (23, 11, 0, 0), none),
  (53, .invokevirtual 324, 3, (202, 3, 0, 23), none),
  (56, .aload_n 0, 1, (0, 0, 0, 0), none),
  (57, .dup, 1, (0, 0, 0, 0), none),
  (58, .getfield 302, 3, (23, 13, 0, 0), none),
  (61, .iconst 1, 1, (0, 0, 0, 0), none),
  (62, .isub, 1, (0, 0, 0, 0), none),
  (63, .putfield 302, 3, (23, 13, 0, 0), none),
  (66, .aload_n 0, 1, (0, 0, 0, 0), none),
  (67, .invokevirtual 191, 3, (203, 1, 0, 23), none),
  (70, .aload_n 0, 1, (0, 0, 0, 0), none),
  (71, .iconst 2, 1, (0, 0, 0, 0), none),
  (72, .iconst 0, 1, (0, 0, 0, 0), none),
  (73, .iload_n 2, 1, (0, 0, 0, 0), none),
  (74, .invokevirtual 394, 3, (226, 4, 0, 23), none),
  (77, .iload_n 1, 1, (0, 0, 0, 0), none),
  (78, .bipush 18, 2, (0, 0, 0, 0), none),
  (80, .irem, 1, (0, 0, 0, 0), none),
  (81, .ireturn, 1, (0, 0, 0, 0), none)]
def cd_X13_fieldOf : List sm_E := [(0, .ldc_w 405, 3, (1, 45, 0, 0), none),
  (3, .astore_n 2, 1, (0, 0, 0, 0), none),
  (4, .iconst 0, 1, (0, 0, 0, 0), none),
  (5, .istore_n 3, 1, (0, 0, 0, 0), none),
  (6, .iload_n 3, 1, (0, 0, 0, 0), some [0, 3]),
  (7, .bipush 9, 2, (0, 0, 0, 0), none),
  (9, .if_icmp .ge 113, 3, (0, 0, 0, 0), none),
  (12, .iload_n 3, 1, (0, 0, 0, 0), none),
  (13, .ifCond .ne 9, 3, (0, 0, 0, 0), none),
  (16, .ldc_w 405, 3, (1, 45, 0, 0), none),
  (19, .goto 85, 3, (0, 0, 0, 0), none),
  (22, .iload_n 3, 1, (0, 0, 0, 0), none),
  (23, .iconst 1, 1, (0, 0, 0, 0), none),
  (24, .if_icmp .ne 9, 3, (0, 0, 0, 0), none),
  (27, .ldc_w 407, 3, (1, 46, 0, 0), none),
  (30, .goto 74, 3, (0, 0, 0, 0), none),
  (33, .iload_n 3, 1, (0, 0, 0, 0), none),
  (34, .iconst 2, 1, (0, 0, 0, 0), none),
  (35, .if_icmp .ne 9, 3, (0, 0, 0, 0), none),
  (38, .ldc_w 409, 3, (1, 47, 0, 0), none),
  (41, .goto 63, 3, (0, 0, 0, 0), none),
  (44, .iload_n 3, 1, (0, 0, 0, 0), none),
  (45, .iconst 3, 1, (0, 0, 0, 0), none),
  (46, .if_icmp .ne 9, 3, (0, 0, 0, 0), none),
  (49, .ldc_w 411, 3, (1, 48, 0, 0), none),
  (52, .goto 52, 3, (0, 0, 0, 0), none),
  (55, .iload_n 3, 1, (0, 0, 0, 0), none),
  (56, .iconst 4, 1, (0, 0, 0, 0), none),
  (57, .if_icmp .ne 9, 3, (0, 0, 0, 0), none),
  (60, .ldc_w 413, 3, (1, 49, 0, 0), none),
  (63, .goto 41, 3, (0, 0, 0, 0), none),
  (66, .iload_n 3, 1, (0, 0, 0, 0), none),
  (67, .iconst 5, 1, (0, 0, 0, 0), none),
  (68, .if_icmp .ne 9, 3, (0, 0, 0, 0), none),
  (71, .ldc_w 415, 3, (1, 50, 0, 0), none),
  (74, .goto 30, 3, (0, 0, 0, 0), none),
  (77, .iload_n 3, 1, (0, 0, 0, 0), none),
  (78, .bipush 6, 2, (0, 0, 0, 0), none),
  (80, .if_icmp .ne 9, 3, (0, 0, 0, 0), none),
  (83, .ldc_w 417, 3, (1, 51, 0, 0), none),
  (86, .goto 18, 3, (0, 0, 0, 0), none),
  (89, .iload_n 3, 1, (0, 0, 0, 0), none),
  (90, .bipush 7, 2, (0, 0, 0, 0), none),
  (92, .if_icmp .ne 9, 3, (0, 0, 0, 0), none),
  (95, .ldc_w 419, 3, (1, 52, 0, 0), none),
  (98, .goto 6, 3, (0, 0, 0, 0), none),
  (101, .ldc_w 421, 3, (1, 53, 0, 0), none),
  (104, .astore_n 2, 1, (0, 0, 0, 0), some [0, 3]),
  (105, .aload_n 2, 1, (0, 0, 0, 0), none),
  (106, .invokestatic 43, 3, (191, 1, 2, 0), none),
  (109, .lload_n 0, 1, (0, 0, 0, 0), none),
  (110, .lcmp, 1, (0, 0, 0, 0), none),
  (111, .ifCond .ne 5, 3, (0, 0, 0, 0), none),
  (114, .iload_n 3, 1, (0, 0, 0, 0), none),
  (115, .ireturn, 1, (0, 0, 0, 0), none),
  (116, .iinc 3 1, 3, (0, 0, 0, 0), none),
  (119, .goto (-113), 3, (0, 0, 0, 0), none),
  (122, .iconst (-1), 1, (0, 0, 0, 0), none),
  (123, .ireturn, 1, (0, 0, 0, 0), none)]
def cd_X13_ownerOf : List sm_E := [(0, .iload_n 0, 1, (0, 0, 0, 0), none),
  (1, .iconst 2, 1, (0, 0, 0, 0), none),
  (2, .if_icmp .gt 7, 3, (0, 0, 0, 0), none),
  (5, .iconst 0, 1, (0, 0, 0, 0), none),
  (6, .goto 56, 3, (0, 0, 0, 0), none),
  (9, .iload_n 0, 1, (0, 0, 0, 0), none),
  (10, .iconst 3, 1, (0, 0, 0, 0), none),
  (11, .if_icmp .ne 8, 3, (0, 0, 0, 0), none),
  (14, .bipush 15, 2, (0, 0, 0, 0), none),
  (16, .goto 46, 3, (0, 0, 0, 0), none),
  (19, .iload_n 0, 1, (0, 0, 0, 0), none),
  (20, .iconst 4, 1, (0, 0, 0, 0), none),
  (21, .if_icmp .ne 7, 3, (0, 0, 0, 0), none),
  (24, .iconst 1, 1, (0, 0, 0, 0), none),
  (25, .goto 37, 3, (0, 0, 0, 0), none),
  (28, .iload_n 0, 1, (0, 0, 0, 0), none),
  (29, .iconst 5, 1, (0, 0, 0, 0), none),
  (30, .if_icmp .ne 8, 3, (0, 0, 0, 0), none),
  (33, .bipush 13, 2, (0, 0, 0, 0), none),
  (35, .goto 27, 3, (0, 0, 0, 0), none),
  (38, .iload_n 0, 1, (0, 0, 0, 0), none),
  (39, .bipush 6, 2, (0, 0, 0, 0), none),
  (41, .if_icmp .ne 8, 3, (0, 0, 0, 0), none),
  (44, .bipush 14, 2, (0, 0, 0, 0), none),
  (46, .goto 16, 3, (0, 0, 0, 0), none),
  (49, .iload_n 0, 1, (0, 0, 0, 0), none),
  (50, .bipush 7, 2, (0, 0, 0, 0), none),
  (52, .if_icmp .ne 8, 3, (0, 0, 0, 0), none),
  (55, .bipush 16, 2, (0, 0, 0, 0), none),
  (57, .goto 5, 3, (0, 0, 0, 0), none),
  (60, .bipush 17, 2, (0, 0, 0, 0), none),
  (62, .ireturn, 1, (0, 0, 0, 0), none)]
def cd_X13_field : List sm_E := [(0, .aload_n 0, 1, (0, 0, 0, 0), none),
  (1, .invokevirtual 367, 3, (227, 1, 0, 23), none),
  (4, .aload_n 0, 1, (0, 0, 0, 0), none),
  (5, .invokevirtual 191, 3, (203, 1, 0, 23), none),
  (8, .aload_n 0, 1, (0, 0, 0, 0), none),
  (9, .getfield 178, 3, (23, 11, 0, 0), none),
  (12, .istore_n 2, 1, (0, 0, 0, 0), none),
  (13, .aload_n 0, 1, (0, 0, 0, 0), none),
  (14, .bipush 14, 2, (0, 0, 0, 0), none),
  (16, .invokevirtual 238, 3, (205, 2, 1, 23), none),
  (19, .ifCond .eq 36, 3, (0, 0, 0, 0), none),
  (22, .aload_n 0, 1, (0, 0, 0, 0), none),
  (23, .iload_n 1, 1, (0, 0, 0, 0), none),
  (24, .invokestatic 18, 3, (184, 1, 1, 0), none),
  (27, .aload_n 0, 1, (0, 0, 0, 0), none),
  (28, .getfield 178, 3, (23, 11, 0, 0), none),
  (31, .invokevirtual 324, 3, (202, 3, 0, 23), none),
  (34, .aload_n 0, 1, (0, 0, 0, 0), none),
  (35, .bipush 7, 2, (0, 0, 0, 0), none),
  (37, .iconst 0, 1, (0, 0, 0, 0), none),
  (38, .iload_n 2, 1, (0, 0, 0, 0), none),
  (39, .invokevirtual 276, 3, (207, 4, 1, 23), none),
  (42, .pop, 1, (0, 0, 0, 0), none),
  (43, .aload_n 0, 1, (0, 0, 0, 0), none),
  (44, .invokevirtual 191, 3, (203, 1, 0, 23), none),
  (47, .aload_n 0, 1, (0, 0, 0, 0), none),
  (48, .iconst 0, 1, (0, 0, 0, 0), none),
  (49, .putfield 343, 3, (23, 20, 0, 0), none),
  (52, .bipush 36, 2, (0, 0, 0, 0), none),
  (54, .ireturn, 1, (0, 0, 0, 0), none),
  (55, .aload_n 0, 1, (0, 0, 0, 0), none),
  (56, .aload_n 0, 1, (0, 0, 0, 0), none),
  (57, .getfield 129, 3, (23, 2, 68, 0), none),
  (60, .aload_n 0, 1, (0, 0, 0, 0), none),
  (61, .getfield 178, 3, (23, 11, 0, 0), none),
  (64, .iaload, 1, (68, 803, 0, 0), none),
  (65, .iconst 1, 1, (0, 0, 0, 0), none),
  (66, .if_icmp .ne 7, 3, (0, 0, 0, 0), none),
  (69, .iconst 1, 1, (0, 0, 0, 0), none),
  (70, .goto 4, 3, (0, 0, 0, 0), none),
  (73, .iconst 0, 1, (0, 0, 0, 0), none),
  (74, .invokevirtual 187, 3, (201, 2, 0, 23), some [0, 1, 2]),
  (77, .aload_n 0, 1, (0, 0, 0, 0), none),
  (78, .getfield 132, 3, (23, 4, 70, 0), none),
  (81, .aload_n 0, 1, (0, 0, 0, 0), none),
  (82, .getfield 178, 3, (23, 11, 0, 0), none),
  (85, .laload, 1, (70, 803, 0, 0), none),
  (86, .invokestatic 423, 3, (242, 1, 1, 0), none),
  (89, .istore_n 3, 1, (0, 0, 0, 0), none),
  (90, .iload_n 3, 1, (0, 0, 0, 0), none),
  (91, .iconst (-1), 1, (0, 0, 0, 0), none),
  (92, .if_icmp .ne 13, 3, (0, 0, 0, 0), none),
  (95, .aload_n 0, 1, (0, 0, 0, 0), none),
  (96, .iconst 2, 1, (0, 0, 0, 0), none),
  (97, .aload_n 0, 1, (0, 0, 0, 0), none),
  (98, .getfield 178, 3, (23, 11, 0, 0), none),
  (101, .invokevirtual 181, 3, (200, 3, 3, 23), none),
  (104, .athrow, 1, (0, 0, 0, 0), none),
  (105, .aload_n 0, 1, (0, 0, 0, 0), none),
  (106, .iload_n 1, 1, (0, 0, 0, 0), none),
  (107, .iload_n 3, 1, (0, 0, 0, 0), none),
  (108, .invokestatic 426, 3, (243, 1, 1, 0), none),
  (111, .invokestatic 331, 3, (185, 2, 1, 0), none),
  (114, .aload_n 0, 1, (0, 0, 0, 0), none),
  (115, .getfield 178, 3, (23, 11, 0, 0), none),
  (118, .invokevirtual 324, 3, (202, 3, 0, 23), none),
  (121, .aload_n 0, 1, (0, 0, 0, 0), none),
  (122, .invokevirtual 191, 3, (203, 1, 0, 23), none),
  (125, .aload_n 0, 1, (0, 0, 0, 0), none),
  (126, .iconst 3, 1, (0, 0, 0, 0), none),
  (127, .iload_n 3, 1, (0, 0, 0, 0), none),
  (128, .iload_n 2, 1, (0, 0, 0, 0), none),
  (129, .invokevirtual 394, 3, (226, 4, 0, 23), none),
  (132, .iload_n 3, 1, (0, 0, 0, 0), none),
  (133, .iconst 1, 1, (0, 0, 0, 0), none),
  (134, .if_icmp .ne 7, 3, (0, 0, 0, 0), none),
  (137, .iconst 0, 1, (0, 0, 0, 0), none),
  (138, .goto 5, 3, (0, 0, 0, 0), none),
  (141, .bipush 36, 2, (0, 0, 0, 0), none),
  (143, .ireturn, 1, (0, 0, 0, 0), none)]
def cd_X13_asked : List sm_E := [(0, .aload_n 0, 1, (0, 0, 0, 0), none),
  (1, .invokevirtual 367, 3, (227, 1, 0, 23), none),
  (4, .aload_n 0, 1, (0, 0, 0, 0), none),
  (5, .getfield 178, 3, (23, 11, 0, 0), none),
  (8, .istore_n 2, 1, (0, 0, 0, 0), none),
  (9, .aload_n 0, 1, (0, 0, 0, 0), none),
  (10, .bipush 13, 2, (0, 0, 0, 0), none),
  (12, .invokevirtual 238, 3, (205, 2, 1, 23), none),
  (15, .istore_n 3, 1, (0, 0, 0, 0), none),
  (16, .aload_n 0, 1, (0, 0, 0, 0), none),
  (17, .invokevirtual 191, 3, (203, 1, 0, 23), none),
  (20, .aload_n 0, 1, (0, 0, 0, 0), none),
  (21, .aload_n 0, 1, (0, 0, 0, 0), none),
  (22, .getfield 129, 3, (23, 2, 68, 0), none),
  (25, .aload_n 0, 1, (0, 0, 0, 0), none),
  (26, .getfield 178, 3, (23, 11, 0, 0), none),
  (29, .iaload, 1, (68, 803, 0, 0), none),
  (30, .iconst 2, 1, (0, 0, 0, 0), none),
  (31, .if_icmp .ne 7, 3, (0, 0, 0, 0), none),
  (34, .iconst 1, 1, (0, 0, 0, 0), none),
  (35, .goto 4, 3, (0, 0, 0, 0), none),
  (38, .iconst 0, 1, (0, 0, 0, 0), none),
  (39, .invokevirtual 187, 3, (201, 2, 0, 23), some [0, 1, 2, 3]),
  (42, .aload_n 0, 1, (0, 0, 0, 0), none),
  (43, .getfield 132, 3, (23, 4, 70, 0), none),
  (46, .aload_n 0, 1, (0, 0, 0, 0), none),
  (47, .getfield 178, 3, (23, 11, 0, 0), none),
  (50, .laload, 1, (70, 803, 0, 0), none),
  (51, .l2i, 1, (0, 0, 0, 0), none),
  (52, .istore 4, 2, (0, 0, 0, 0), none),
  (54, .iload 4, 2, (0, 0, 0, 0), none),
  (56, .bipush 36, 2, (0, 0, 0, 0), none),
  (58, .if_icmp .ge 57, 3, (0, 0, 0, 0), none),
  (61, .aload_n 0, 1, (0, 0, 0, 0), none),
  (62, .getfield 129, 3, (23, 2, 68, 0), none),
  (65, .aload_n 0, 1, (0, 0, 0, 0), none),
  (66, .getfield 178, 3, (23, 11, 0, 0), none),
  (69, .iconst 1, 1, (0, 0, 0, 0), none),
  (70, .iadd, 1, (0, 0, 0, 0), none),
  (71, .iaload, 1, (68, 803, 0, 0), none),
  (72, .iconst 4, 1, (0, 0, 0, 0), none),
  (73, .if_icmp .ne 42, 3, (0, 0, 0, 0), none),
  (76, .aload_n 0, 1, (0, 0, 0, 0), none),
  (77, .getfield 132, 3, (23, 4, 70, 0), none),
  (80, .aload_n 0, 1, (0, 0, 0, 0), none),
  (81, .getfield 178, 3, (23, 11, 0, 0), none),
  (84, .iconst 1, 1, (0, 0, 0, 0), none),
  (85, .iadd, 1, (0, 0, 0, 0), none),
  (86, .laload, 1, (70, 803, 0, 0), none),
  (87, .ldc2_w 429, 3, (5, 0, 0, 0), none),
  (90, .lcmp, 1, (0, 0, 0, 0), none),
  (91, .ifCond .ne 24, 3, (0, 0, 0, 0), none),
  (94, .aload_n 0, 1, (0, 0, 0, 0), none),
  (95, .invokevirtual 191, 3, (203, 1, 0, 23), none),
  (98, .aload_n 0, 1, (0, 0, 0, 0), none),
  (99, .invokevirtual 191, 3, (203, 1, 0, 23), none),
  (102, .aload_n 0, 1, (0, 0, 0, 0), none),
  (103, .aload_n 0, 1, (0, 0, 0, 0), none),
  (104, .bipush 93, 2, (0, 0, 0, 0), none),
  (106, .invokevirtual 185, 3, (204, 2, 1, 23), none),
  (109, .invokevirtual 187, 3, (201, 2, 0, 23), none),
  (112, .iinc 4 18, 3, (0, 0, 0, 0), none),
  (115, .aload_n 0, 1, (0, 0, 0, 0), some [0, 1, 2, 3, 4]),
  (116, .iload_n 1, 1, (0, 0, 0, 0), none),
  (117, .iload 4, 2, (0, 0, 0, 0), none),
  (119, .invokestatic 431, 3, (186, 2, 1, 0), none),
  (122, .aload_n 0, 1, (0, 0, 0, 0), none),
  (123, .getfield 178, 3, (23, 11, 0, 0), none),
  (126, .invokevirtual 324, 3, (202, 3, 0, 23), none),
  (129, .aload_n 0, 1, (0, 0, 0, 0), none),
  (130, .invokevirtual 191, 3, (203, 1, 0, 23), none),
  (133, .aload_n 0, 1, (0, 0, 0, 0), none),
  (134, .iload_n 3, 1, (0, 0, 0, 0), none),
  (135, .ifCond .eq 8, 3, (0, 0, 0, 0), none),
  (138, .bipush 8, 2, (0, 0, 0, 0), none),
  (140, .goto 5, 3, (0, 0, 0, 0), none),
  (143, .bipush 9, 2, (0, 0, 0, 0), none),
  (145, .iload 4, 2, (0, 0, 0, 0), some [0, 2, 3, 4]),
  (147, .iload_n 2, 1, (0, 0, 0, 0), none),
  (148, .invokevirtual 276, 3, (207, 4, 1, 23), none),
  (151, .pop, 1, (0, 0, 0, 0), none),
  (152, .aload_n 0, 1, (0, 0, 0, 0), none),
  (153, .iconst 0, 1, (0, 0, 0, 0), none),
  (154, .putfield 343, 3, (23, 20, 0, 0), none),
  (157, .iload_n 3, 1, (0, 0, 0, 0), none),
  (158, .ifCond .eq 8, 3, (0, 0, 0, 0), none),
  (161, .iload 4, 2, (0, 0, 0, 0), none),
  (163, .goto 5, 3, (0, 0, 0, 0), none),
  (166, .bipush 36, 2, (0, 0, 0, 0), none),
  (168, .ireturn, 1, (0, 0, 0, 0), none)]
def cd_X13_typeOf : List sm_E := [(0, .iload_n 1, 1, (0, 0, 0, 0), none),
  (1, .sipush 1001, 3, (0, 0, 0, 0), none),
  (4, .if_icmp .lt 19, 3, (0, 0, 0, 0), none),
  (7, .bipush 18, 2, (0, 0, 0, 0), none),
  (9, .aload_n 0, 1, (0, 0, 0, 0), none),
  (10, .getfield 434, 3, (23, 31, 76, 0), none),
  (13, .iload_n 1, 1, (0, 0, 0, 0), none),
  (14, .sipush 1001, 3, (0, 0, 0, 0), none),
  (17, .isub, 1, (0, 0, 0, 0), none),
  (18, .iaload, 1, (76, 200, 0, 0), none),
  (19, .iadd, 1, (0, 0, 0, 0), none),
  (20, .goto 11, 3, (0, 0, 0, 0), none),
  (23, .aload_n 0, 1, (0, 0, 0, 0), none),
  (24, .getfield 437, 3, (23, 29, 74, 0), none),
  (27, .iload_n 1, 1, (0, 0, 0, 0), none),
  (28, .iconst 1, 1, (0, 0, 0, 0), none),
  (29, .isub, 1, (0, 0, 0, 0), none),
  (30, .iaload, 1, (74, 300, 0, 0), none),
  (31, .ireturn, 1, (0, 0, 0, 0), none)]
def cd_X13_asVehicle : List sm_E := [(0, .iload_n 0, 1, (0, 0, 0, 0), none),
  (1, .iconst 1, 1, (0, 0, 0, 0), none),
  (2, .isub, 1, (0, 0, 0, 0), none),
  (3, .ireturn, 1, (0, 0, 0, 0), none)]
def cd_X13_isOf : List sm_E := [(0, .iload_n 1, 1, (0, 0, 0, 0), none),
  (1, .ifCond .eq 19, 3, (0, 0, 0, 0), none),
  (4, .aload_n 0, 1, (0, 0, 0, 0), none),
  (5, .iload_n 1, 1, (0, 0, 0, 0), none),
  (6, .invokevirtual 440, 3, (246, 2, 1, 23), none),
  (9, .iload_n 2, 1, (0, 0, 0, 0), none),
  (10, .invokestatic 331, 3, (185, 2, 1, 0), none),
  (13, .ifCond .eq 7, 3, (0, 0, 0, 0), none),
  (16, .iconst 1, 1, (0, 0, 0, 0), none),
  (17, .goto 4, 3, (0, 0, 0, 0), none),
  (20, .iconst 0, 1, (0, 0, 0, 0), none),
  (21, .ireturn, 1, (1, 0, 0, 0), none)]
def cd_X13_mass : List sm_E := [(0, .aload_n 0, 1, (0, 0, 0, 0), none),
  (1, .getfield 437, 3, (23, 29, 74, 0), none),
  (4, .iload_n 1, 1, (0, 0, 0, 0), none),
  (5, .iaload, 1, (74, 300, 0, 0), none),
  (6, .istore_n 2, 1, (0, 0, 0, 0), none),
  (7, .aload_n 0, 1, (0, 0, 0, 0), none),
  (8, .getfield 443, 3, (23, 30, 75, 0), none),
  (11, .bipush 9, 2, (0, 0, 0, 0), none),
  (13, .iload_n 1, 1, (0, 0, 0, 0), none),
  (14, .imul, 1, (0, 0, 0, 0), none),
  (15, .iconst 5, 1, (0, 0, 0, 0), none),
  (16, .iadd, 1, (0, 0, 0, 0), none),
  (17, .iaload, 1, (75, 2700, 0, 0), none),
  (18, .istore_n 3, 1, (0, 0, 0, 0), none),
  (19, .aload_n 0, 1, (0, 0, 0, 0), none),
  (20, .getfield 443, 3, (23, 30, 75, 0), none),
  (23, .bipush 9, 2, (0, 0, 0, 0), none),
  (25, .iload_n 1, 1, (0, 0, 0, 0), none),
  (26, .imul, 1, (0, 0, 0, 0), none),
  (27, .bipush 8, 2, (0, 0, 0, 0), none),
  (29, .iadd, 1, (0, 0, 0, 0), none),
  (30, .iaload, 1, (75, 2700, 0, 0), none),
  (31, .istore 4, 2, (0, 0, 0, 0), none),
  (33, .iload_n 2, 1, (0, 0, 0, 0), none),
  (34, .tableswitch 143 0 11 #[62, 64, 89, 67, 73, 92, 97, 92, 104, 81, 107, 115], 62, (0, 0, 0, 0), none),
  (96, .iconst 5, 1, (0, 0, 0, 0), none),
  (97, .ireturn, 1, (0, 0, 0, 0), none),
  (98, .bipush 45, 2, (0, 0, 0, 0), none),
  (100, .ireturn, 1, (0, 0, 0, 0), none),
  (101, .bipush 45, 2, (0, 0, 0, 0), none),
  (103, .iload 4, 2, (0, 0, 0, 0), none),
  (105, .iadd, 1, (0, 0, 0, 0), none),
  (106, .ireturn, 1, (0, 0, 0, 0), none),
  (107, .bipush 45, 2, (0, 0, 0, 0), none),
  (109, .iload 4, 2, (0, 0, 0, 0), none),
  (111, .iconst 2, 1, (0, 0, 0, 0), none),
  (112, .idiv, 1, (0, 0, 0, 0), none),
  (113, .iadd, 1, (0, 0, 0, 0), none),
  (114, .ireturn, 1, (0, 0, 0, 0), none),
  (115, .bipush 25, 2, (0, 0, 0, 0), none),
  (117, .iload 4, 2, (0, 0, 0, 0), none),
  (119, .iconst 2, 1, (0, 0, 0, 0), none),
  (120, .idiv, 1, (0, 0, 0, 0), none),
  (121, .iadd, 1, (0, 0, 0, 0), none),
  (122, .ireturn, 1, (0, 0, 0, 0), none),
  (123, .bipush 15, 2, (0, 0, 0, 0), none),
  (125, .ireturn, 1, (0, 0, 0, 0), none),
  (126, .bipush 15, 2, (0, 0, 0, 0), none),
  (128, .iload_n 3, 1, (0, 0, 0, 0), none),
  (129, .iadd, 1, (0, 0, 0, 0), none),
  (130, .ireturn, 1, (0, 0, 0, 0), none),
  (131, .bipush 15, 2, (0, 0, 0, 0), none),
  (133, .iconst 2, 1, (0, 0, 0, 0), none),
  (134, .iload_n 3, 1, (0, 0, 0, 0), none),
  (135, .imul, 1, (0, 0, 0, 0), none),
  (136, .iadd, 1, (0, 0, 0, 0), none),
  (137, .ireturn, 1, (0, 0, 0, 0), none),
  (138, .bipush 17, 2, (0, 0, 0, 0), none),
  (140, .ireturn, 1, (0, 0, 0, 0), none),
  (141, .bipush 18, 2, (0, 0, 0, 0), none),
  (143, .iload_n 3, 1, (0, 0, 0, 0), none),
  (144, .iadd, 1, (0, 0, 0, 0), none),
  (145, .iload 4, 2, (0, 0, 0, 0), none),
  (147, .iadd, 1, (0, 0, 0, 0), none),
  (148, .ireturn, 1, (0, 0, 0, 0), none),
  (149, .bipush 15, 2, (0, 0, 0, 0), none),
  (151, .iconst 2, 1, (0, 0, 0, 0), none),
  (152, .iload_n 3, 1, (0, 0, 0, 0), none),
  (153, .imul, 1, (0, 0, 0, 0), none),
  (154, .iadd, 1, (0, 0, 0, 0), none),
  (155, .aload_n 0, 1, (0, 0, 0, 0), none),
  (156, .getfield 443, 3, (23, 30, 75, 0), none),
  (159, .bipush 9, 2, (0, 0, 0, 0), none),
  (161, .iload_n 1, 1, (0, 0, 0, 0), none),
  (162, .imul, 1, (0, 0, 0, 0), none),
  (163, .bipush 6, 2, (0, 0, 0, 0), none),
  (165, .iadd, 1, (0, 0, 0, 0), none),
  (166, .iaload, 1, (75, 2700, 0, 0), none),
  (167, .ifCond .ge 7, 3, (0, 0, 0, 0), none),
  (170, .iconst 1, 1, (0, 0, 0, 0), none),
  (171, .goto 4, 3, (0, 0, 0, 0), none),
  (174, .iconst 0, 1, (0, 0, 0, 0), none),
  (175, .iadd, 1, (0, 0, 0, 0), none),
  (176, .ireturn, 1, (0, 0, 0, 0), none),
  (177, .bipush 15, 2, (0, 0, 0, 0), none),
  (179, .iload_n 3, 1, (0, 0, 0, 0), none),
  (180, .iadd, 1, (0, 0, 0, 0), none),
  (181, .aload_n 0, 1, (0, 0, 0, 0), none),
  (182, .getfield 443, 3, (23, 30, 75, 0), none),
  (185, .bipush 9, 2, (0, 0, 0, 0), none),
  (187, .iload_n 1, 1, (0, 0, 0, 0), none),
  (188, .imul, 1, (0, 0, 0, 0), none),
  (189, .bipush 7, 2, (0, 0, 0, 0), none),
  (191, .iadd, 1, (0, 0, 0, 0), none),
  (192, .iaload, 1, (75, 2700, 0, 0), none),
  (193, .iadd, 1, (0, 0, 0, 0), none),
  (194, .ireturn, 1, (0, 0, 0, 0), none)]
def cd_X13_grip : List sm_E := [(0, .aload_n 0, 1, (0, 0, 0, 0), none),
  (1, .getfield 437, 3, (23, 29, 74, 0), none),
  (4, .iload_n 1, 1, (0, 0, 0, 0), none),
  (5, .iaload, 1, (74, 300, 0, 0), none),
  (6, .tableswitch 65 1 9 #[50, 65, 53, 56, 65, 65, 65, 62, 59], 50, (0, 0, 0, 0), none),
  (56, .bipush 10, 2, (0, 0, 0, 0), none),
  (58, .ireturn, 1, (0, 0, 0, 0), none),
  (59, .bipush 15, 2, (0, 0, 0, 0), none),
  (61, .ireturn, 1, (0, 0, 0, 0), none),
  (62, .bipush 20, 2, (0, 0, 0, 0), none),
  (64, .ireturn, 1, (0, 0, 0, 0), none),
  (65, .bipush 17, 2, (0, 0, 0, 0), none),
  (67, .ireturn, 1, (0, 0, 0, 0), none),
  (68, .bipush 25, 2, (0, 0, 0, 0), none),
  (70, .ireturn, 1, (0, 0, 0, 0), none),
  (71, .iconst 0, 1, (0, 0, 0, 0), none),
  (72, .ireturn, 1, (0, 0, 0, 0), none)]
def cd_X13_pull : List sm_E := [(0, .aload_n 0, 1, (0, 0, 0, 0), none),
  (1, .getfield 437, 3, (23, 29, 74, 0), none),
  (4, .iload_n 1, 1, (0, 0, 0, 0), none),
  (5, .iaload, 1, (74, 300, 0, 0), none),
  (6, .istore_n 2, 1, (0, 0, 0, 0), none),
  (7, .iload_n 2, 1, (0, 0, 0, 0), none),
  (8, .iconst 3, 1, (0, 0, 0, 0), none),
  (9, .if_icmp .ne 21, 3, (0, 0, 0, 0), none),
  (12, .bipush 20, 2, (0, 0, 0, 0), none),
  (14, .aload_n 0, 1, (0, 0, 0, 0), none),
  (15, .getfield 443, 3, (23, 30, 75, 0), none),
  (18, .bipush 9, 2, (0, 0, 0, 0), none),
  (20, .iload_n 1, 1, (0, 0, 0, 0), none),
  (21, .imul, 1, (0, 0, 0, 0), none),
  (22, .bipush 8, 2, (0, 0, 0, 0), none),
  (24, .iadd, 1, (0, 0, 0, 0), none),
  (25, .iaload, 1, (75, 2700, 0, 0), none),
  (26, .imul, 1, (0, 0, 0, 0), none),
  (27, .goto 27, 3, (0, 0, 0, 0), none),
  (30, .iload_n 2, 1, (0, 0, 0, 0), none),
  (31, .iconst 4, 1, (0, 0, 0, 0), none),
  (32, .if_icmp .ne 9, 3, (0, 0, 0, 0), none),
  (35, .sipush 300, 3, (0, 0, 0, 0), none),
  (38, .goto 16, 3, (0, 0, 0, 0), none),
  (41, .iload_n 2, 1, (0, 0, 0, 0), none),
  (42, .bipush 9, 2, (0, 0, 0, 0), none),
  (44, .if_icmp .ne 9, 3, (0, 0, 0, 0), none),
  (47, .sipush 150, 3, (0, 0, 0, 0), none),
  (50, .goto 4, 3, (0, 0, 0, 0), none),
  (53, .iconst 0, 1, (0, 0, 0, 0), none),
  (54, .ireturn, 1, (0, 0, 0, 0), none)]
def cd_X13_fieldOf_ : List sm_E := [(0, .iload_n 2, 1, (0, 0, 0, 0), none),
  (1, .iconst 2, 1, (0, 0, 0, 0), none),
  (2, .if_icmp .ne 11, 3, (0, 0, 0, 0), none),
  (5, .aload_n 0, 1, (0, 0, 0, 0), none),
  (6, .iload_n 1, 1, (0, 0, 0, 0), none),
  (7, .invokevirtual 446, 3, (249, 2, 1, 23), none),
  (10, .goto 40, 3, (0, 0, 0, 0), none),
  (13, .iload_n 2, 1, (0, 0, 0, 0), none),
  (14, .iconst 3, 1, (0, 0, 0, 0), none),
  (15, .if_icmp .ne 11, 3, (0, 0, 0, 0), none),
  (18, .aload_n 0, 1, (0, 0, 0, 0), none),
  (19, .iload_n 1, 1, (0, 0, 0, 0), none),
  (20, .invokevirtual 448, 3, (250, 2, 1, 23), none),
  (23, .goto 27, 3, (0, 0, 0, 0), none),
  (26, .iload_n 2, 1, (0, 0, 0, 0), none),
  (27, .iconst 4, 1, (0, 0, 0, 0), none),
  (28, .if_icmp .ne 11, 3, (0, 0, 0, 0), none),
  (31, .aload_n 0, 1, (0, 0, 0, 0), none),
  (32, .iload_n 1, 1, (0, 0, 0, 0), none),
  (33, .invokevirtual 450, 3, (251, 2, 1, 23), none),
  (36, .goto 14, 3, (0, 0, 0, 0), none),
  (39, .aload_n 0, 1, (0, 0, 0, 0), none),
  (40, .getfield 443, 3, (23, 30, 75, 0), none),
  (43, .bipush 9, 2, (0, 0, 0, 0), none),
  (45, .iload_n 1, 1, (0, 0, 0, 0), none),
  (46, .imul, 1, (0, 0, 0, 0), none),
  (47, .iload_n 2, 1, (0, 0, 0, 0), none),
  (48, .iadd, 1, (0, 0, 0, 0), none),
  (49, .iaload, 1, (75, 2700, 0, 0), none),
  (50, .ireturn, 1, (0, 0, 0, 0), none)]
def cd_X13_push : List sm_E := [(0, .aload_n 0, 1, (0, 0, 0, 0), none),
  (1, .getfield 452, 3, (23, 36, 81, 0), none),
  (4, .aload_n 0, 1, (0, 0, 0, 0), none),
  (5, .getfield 455, 3, (23, 37, 0, 0), none),
  (8, .iload_n 1, 1, (0, 0, 0, 0), none),
  (9, .iastore, 1, (81, 4000, 0, 0), none),
  (10, .aload_n 0, 1, (0, 0, 0, 0), none),
  (11, .dup, 1, (0, 0, 0, 0), none),
  (12, .getfield 455, 3, (23, 37, 0, 0), none),
  (15, .iconst 1, 1, (0, 0, 0, 0), none),
  (16, .iadd, 1, (0, 0, 0, 0), none),
  (17, .putfield 455, 3, (23, 37, 0, 0), none),
  (20, .return_, 1, (0, 0, 0, 0), none)]
def cd_X13_pop : List sm_E := [(0, .aload_n 0, 1, (0, 0, 0, 0), none),
  (1, .dup, 1, (0, 0, 0, 0), none),
  (2, .getfield 455, 3, (23, 37, 0, 0), none),
  (5, .iconst 1, 1, (0, 0, 0, 0), none),
  (6, .isub, 1, (0, 0, 0, 0), none),
  (7, .putfield 455, 3, (23, 37, 0, 0), none),
  (10, .aload_n 0, 1, (0, 0, 0, 0), none),
  (11, .getfield 452, 3, (23, 36, 81, 0), none),
  (14, .aload_n 0, 1, (0, 0, 0, 0), none),
  (15, .getfield 455, 3, (23, 37, 0, 0), none),
  (18, .iaload, 1, (81, 4000, 0, 0), none),
  (19, .ireturn, 1, (0, 0, 0, 0), none)]
def cd_X13_ends : List sm_E := [(0, .aload_n 0, 1, (0, 0, 0, 0), none),
  (1, .iload_n 1, 1, (0, 0, 0, 0), none),
  (2, .putfield 458, 3, (23, 50, 0, 0), none),
  (5, .aload_n 0, 1, (0, 0, 0, 0), none),
  (6, .aload_n 0, 1, (0, 0, 0, 0), none),
  (7, .getfield 461, 3, (23, 6, 2, 0), none),
  (10, .getfield 213, 3, (22, 10, 66, 0), none),
  (13, .iload_n 2, 1, (0, 0, 0, 0), none),
  (14, .iaload, 1, (66, 4000, 0, 0), none),
  (15, .putfield 464, 3, (23, 53, 0, 0), none),
  (18, .aload_n 0, 1, (0, 0, 0, 0), none),
  (19, .iconst 1, 1, (0, 0, 0, 0), none),
  (20, .putfield 467, 3, (23, 57, 3, 0), none),
  (23, .return_, 1, (0, 0, 0, 0), none)]
def cd_X13_fault : List sm_E := [(0, .aload_n 0, 1, (0, 0, 0, 0), none),
  (1, .getfield 471, 3, (23, 27, 0, 0), none),
  (4, .sipush 600, 3, (0, 0, 0, 0), none),
  (7, .if_icmp .ne 11, 3, (0, 0, 0, 0), none),
  (10, .aload_n 0, 1, (0, 0, 0, 0), none),
  (11, .bipush 8, 2, (0, 0, 0, 0), none),
  (13, .iload_n 3, 1, (0, 0, 0, 0), none),
  (14, .invokevirtual 474, 3, (255, 3, 0, 23), none),
  (17, .return_, 1, (0, 0, 0, 0), none),
  (18, .aload_n 0, 1, (0, 0, 0, 0), none),
  (19, .dup, 1, (0, 0, 0, 0), none),
  (20, .getfield 471, 3, (23, 27, 0, 0), none),
  (23, .iconst 1, 1, (0, 0, 0, 0), none),
  (24, .iadd, 1, (0, 0, 0, 0), none),
  (25, .putfield 471, 3, (23, 27, 0, 0), none),
  (28, .aload_n 0, 1, (0, 0, 0, 0), none),
  (29, .getfield 478, 3, (23, 47, 0, 0), none),
  (32, .ifCond .ne 25, 3, (0, 0, 0, 0), none),
  (35, .aload_n 0, 1, (0, 0, 0, 0), none),
  (36, .iload_n 1, 1, (0, 0, 0, 0), none),
  (37, .iload_n 3, 1, (0, 0, 0, 0), none),
  (38, .invokevirtual 474, 3, (255, 3, 0, 23), none),
  (41, .aload_n 0, 1, (0, 0, 0, 0), none),
  (42, .iload_n 1, 1, (0, 0, 0, 0), none),
  (43, .bipush 6, 2, (0, 0, 0, 0), none),
  (45, .if_icmp .ne 7, 3, (0, 0, 0, 0), none),
  (48, .iload_n 2, 1, (0, 0, 0, 0), none),
  (49, .goto 4, 3, (0, 0, 0, 0), none),
  (52, .iconst 0, 1, (0, 0, 0, 0), none),
  (53, .putfield 481, 3, (23, 52, 0, 0), none),
  (56, .return_, 1, (0, 0, 0, 0), none),
  (57, .aload_n 0, 1, (0, 0, 0, 0), none),
  (58, .dup, 1, (0, 0, 0, 0), none),
  (59, .getfield 478, 3, (23, 47, 0, 0), none),
  (62, .iconst 1, 1, (0, 0, 0, 0), none),
  (63, .isub, 1, (0, 0, 0, 0), none),
  (64, .putfield 478, 3, (23, 47, 0, 0), none),
  (67, .aload_n 0, 1, (0, 0, 0, 0), none),
  (68, .aload_n 0, 1, (0, 0, 0, 0), none),
  (69, .getfield 484, 3, (23, 44, 87, 0), none),
  (72, .aload_n 0, 1, (0, 0, 0, 0), none),
  (73, .getfield 478, 3, (23, 47, 0, 0), none),
  (76, .iaload, 1, (87, 200, 0, 0), none),
  (77, .putfield 487, 3, (23, 39, 0, 0), none),
  (80, .aload_n 0, 1, (0, 0, 0, 0), none),
  (81, .aload_n 0, 1, (0, 0, 0, 0), none),
  (82, .getfield 490, 3, (23, 45, 88, 0), none),
  (85, .aload_n 0, 1, (0, 0, 0, 0), none),
  (86, .getfield 478, 3, (23, 47, 0, 0), none),
  (89, .iaload, 1, (88, 200, 0, 0), none),
  (90, .putfield 455, 3, (23, 37, 0, 0), none),
  (93, .aload_n 0, 1, (0, 0, 0, 0), none),
  (94, .getfield 493, 3, (23, 38, 82, 0), none),
  (97, .bipush 24, 2, (0, 0, 0, 0), none),
  (99, .aload_n 0, 1, (0, 0, 0, 0), none),
  (100, .getfield 487, 3, (23, 39, 0, 0), none),
  (103, .imul, 1, (0, 0, 0, 0), none),
  (104, .aload_n 0, 1, (0, 0, 0, 0), none),
  (105, .getfield 496, 3, (23, 46, 89, 0), none),
  (108, .aload_n 0, 1, (0, 0, 0, 0), none),
  (109, .getfield 478, 3, (23, 47, 0, 0), none),
  (112, .iaload, 1, (89, 200, 0, 0), none),
  (113, .iadd, 1, (0, 0, 0, 0), none),
  (114, .iload_n 1, 1, (0, 0, 0, 0), none),
  (115, .bipush 6, 2, (0, 0, 0, 0), none),
  (117, .if_icmp .ne 7, 3, (0, 0, 0, 0), none),
  (120, .iload_n 2, 1, (0, 0, 0, 0), none),
  (121, .goto 4, 3, (0, 0, 0, 0), none),
  (124, .iload_n 1, 1, (0, 0, 0, 0), none),
  (125, .iastore, 1, (82, 360, 0, 0), none),
  (126, .aload_n 0, 1, (0, 0, 0, 0), none),
  (127, .aload_n 0, 1, (0, 0, 0, 0), none),
  (128, .getfield 499, 3, (23, 43, 86, 0), none),
  (131, .aload_n 0, 1, (0, 0, 0, 0), none),
  (132, .getfield 478, 3, (23, 47, 0, 0), none),
  (135, .iaload, 1, (86, 200, 0, 0), none),
  (136, .putfield 502, 3, (23, 48, 0, 0), none),
  (139, .return_, 1, (0, 0, 0, 0), none)]
def cd_X13_returns : List sm_E := [(0, .aload_n 0, 1, (0, 0, 0, 0), some [0, 1, 2]),
  (1, .getfield 478, 3, (23, 47, 0, 0), none),
  (4, .ifCond .le 34, 3, (0, 0, 0, 0), none),
  (7, .aload_n 0, 1, (0, 0, 0, 0), none),
  (8, .getfield 484, 3, (23, 44, 87, 0), none),
  (11, .aload_n 0, 1, (0, 0, 0, 0), none),
  (12, .getfield 478, 3, (23, 47, 0, 0), none),
  (15, .iconst 1, 1, (0, 0, 0, 0), none),
  (16, .isub, 1, (0, 0, 0, 0), none),
  (17, .iaload, 1, (87, 200, 0, 0), none),
  (18, .aload_n 0, 1, (0, 0, 0, 0), none),
  (19, .getfield 487, 3, (23, 39, 0, 0), none),
  (22, .if_icmp .ne 16, 3, (0, 0, 0, 0), none),
  (25, .aload_n 0, 1, (0, 0, 0, 0), none),
  (26, .dup, 1, (0, 0, 0, 0), none),
  (27, .getfield 478, 3, (23, 47, 0, 0), none),
  (30, .iconst 1, 1, (0, 0, 0, 0), none),
  (31, .isub, 1, (0, 0, 0, 0), none),
  (32, .putfield 478, 3, (23, 47, 0, 0), none),
  (35, .goto (-35), 3, (0, 0, 0, 0), none),
  (38, .aload_n 0, 1, (0, 0, 0, 0), some [0, 1, 2]),
  (39, .aload_n 0, 1, (0, 0, 0, 0), none),
  (40, .getfield 505, 3, (23, 42, 85, 0), none),
  (43, .aload_n 0, 1, (0, 0, 0, 0), none),
  (44, .getfield 487, 3, (23, 39, 0, 0), none),
  (47, .iaload, 1, (85, 15, 0, 0), none),
  (48, .putfield 455, 3, (23, 37, 0, 0), none),
  (51, .aload_n 0, 1, (0, 0, 0, 0), none),
  (52, .getfield 487, 3, (23, 39, 0, 0), none),
  (55, .ifCond .ne 19, 3, (0, 0, 0, 0), none),
  (58, .aload_n 0, 1, (0, 0, 0, 0), none),
  (59, .iconst 0, 1, (0, 0, 0, 0), none),
  (60, .putfield 458, 3, (23, 50, 0, 0), none),
  (63, .aload_n 0, 1, (0, 0, 0, 0), none),
  (64, .iload_n 1, 1, (0, 0, 0, 0), none),
  (65, .putfield 508, 3, (23, 51, 0, 0), none),
  (68, .aload_n 0, 1, (0, 0, 0, 0), none),
  (69, .iconst 1, 1, (0, 0, 0, 0), none),
  (70, .putfield 467, 3, (23, 57, 3, 0), none),
  (73, .return_, 1, (0, 0, 0, 0), none),
  (74, .aload_n 0, 1, (0, 0, 0, 0), none),
  (75, .aload_n 0, 1, (0, 0, 0, 0), none),
  (76, .getfield 511, 3, (23, 40, 83, 0), none),
  (79, .aload_n 0, 1, (0, 0, 0, 0), none),
  (80, .getfield 487, 3, (23, 39, 0, 0), none),
  (83, .iaload, 1, (83, 15, 0, 0), none),
  (84, .putfield 502, 3, (23, 48, 0, 0), none),
  (87, .aload_n 0, 1, (0, 0, 0, 0), none),
  (88, .dup, 1, (0, 0, 0, 0), none),
  (89, .getfield 487, 3, (23, 39, 0, 0), none),
  (92, .iconst 1, 1, (0, 0, 0, 0), none),
  (93, .isub, 1, (0, 0, 0, 0), none),
  (94, .putfield 487, 3, (23, 39, 0, 0), none),
  (97, .iload_n 2, 1, (0, 0, 0, 0), none),
  (98, .ifCond .eq 8, 3, (0, 0, 0, 0), none),
  (101, .aload_n 0, 1, (0, 0, 0, 0), none),
  (102, .iload_n 1, 1, (0, 0, 0, 0), none),
  (103, .invokevirtual 514, 3, (253, 2, 0, 23), none),
  (106, .return_, 1, (0, 0, 0, 0), none)]
def cd_X13_enters : List sm_E := [(0, .aload_n 0, 1, (0, 0, 0, 0), none),
  (1, .getfield 461, 3, (23, 6, 2, 0), none),
  (4, .getfield 246, 3, (22, 3, 60, 0), none),
  (7, .iload_n 1, 1, (0, 0, 0, 0), none),
  (8, .iaload, 1, (60, 12, 0, 0), none),
  (9, .istore_n 3, 1, (0, 0, 0, 0), none),
  (10, .aload_n 0, 1, (0, 0, 0, 0), none),
  (11, .dup, 1, (0, 0, 0, 0), none),
  (12, .getfield 455, 3, (23, 37, 0, 0), none),
  (15, .iload_n 3, 1, (0, 0, 0, 0), none),
  (16, .isub, 1, (0, 0, 0, 0), none),
  (17, .putfield 455, 3, (23, 37, 0, 0), none),
  (20, .iconst 0, 1, (0, 0, 0, 0), none),
  (21, .istore 4, 2, (0, 0, 0, 0), none),
  (23, .iload 4, 2, (0, 0, 0, 0), some [0, 1, 2, 3, 4]),
  (25, .iload_n 3, 1, (0, 0, 0, 0), none),
  (26, .if_icmp .ge 36, 3, (0, 0, 0, 0), none),
  (29, .aload_n 0, 1, (0, 0, 0, 0), none),
  (30, .getfield 493, 3, (23, 38, 82, 0), none),
  (33, .bipush 24, 2, (0, 0, 0, 0), none),
  (35, .aload_n 0, 1, (0, 0, 0, 0), none),
  (36, .getfield 487, 3, (23, 39, 0, 0), none),
  (39, .imul, 1, (0, 0, 0, 0), none),
  (40, .iload 4, 2, (0, 0, 0, 0), none),
  (42, .iadd, 1, (0, 0, 0, 0), none),
  (43, .aload_n 0, 1, (0, 0, 0, 0), none),
  (44, .getfield 452, 3, (23, 36, 81, 0), none),
  (47, .aload_n 0, 1, (0, 0, 0, 0), none),
  (48, .getfield 455, 3, (23, 37, 0, 0), none),
  (51, .iload 4, 2, (0, 0, 0, 0), none),
  (53, .iadd, 1, (0, 0, 0, 0), none),
  (54, .iaload, 1, (81, 4000, 0, 0), none),
  (55, .iastore, 1, (82, 360, 0, 0), none),
  (56, .iinc 4 1, 3, (0, 0, 0, 0), none),
  (59, .goto (-36), 3, (0, 0, 0, 0), none),
  (62, .aload_n 0, 1, (0, 0, 0, 0), none),
  (63, .getfield 517, 3, (23, 41, 84, 0), none),
  (66, .aload_n 0, 1, (0, 0, 0, 0), none),
  (67, .getfield 487, 3, (23, 39, 0, 0), none),
  (70, .iload_n 1, 1, (0, 0, 0, 0), none),
  (71, .iastore, 1, (84, 15, 0, 0), none),
  (72, .aload_n 0, 1, (0, 0, 0, 0), none),
  (73, .getfield 511, 3, (23, 40, 83, 0), none),
  (76, .aload_n 0, 1, (0, 0, 0, 0), none),
  (77, .getfield 487, 3, (23, 39, 0, 0), none),
  (80, .iload_n 2, 1, (0, 0, 0, 0), none),
  (81, .iastore, 1, (83, 15, 0, 0), none),
  (82, .aload_n 0, 1, (0, 0, 0, 0), none),
  (83, .getfield 505, 3, (23, 42, 85, 0), none),
  (86, .aload_n 0, 1, (0, 0, 0, 0), none),
  (87, .getfield 487, 3, (23, 39, 0, 0), none),
  (90, .aload_n 0, 1, (0, 0, 0, 0), none),
  (91, .getfield 455, 3, (23, 37, 0, 0), none),
  (94, .iastore, 1, (85, 15, 0, 0), none),
  (95, .aload_n 0, 1, (0, 0, 0, 0), none),
  (96, .aload_n 0, 1, (0, 0, 0, 0), none),
  (97, .getfield 461, 3, (23, 6, 2, 0), none),
  (100, .getfield 270, 3, (22, 5, 62, 0), none),
  (103, .iload_n 1, 1, (0, 0, 0, 0), none),
  (104, .iaload, 1, (62, 12, 0, 0), none),
  (105, .putfield 502, 3, (23, 48, 0, 0), none),
  (108, .return_, 1, (0, 0, 0, 0), none)]
def cd_X13_begins : List sm_E := [(0, .iload_n 1, 1, (0, 0, 0, 0), none),
  (1, .bipush 12, 2, (0, 0, 0, 0), none),
  (3, .if_icmp .lt 10, 3, (0, 0, 0, 0), none),
  (6, .aload_n 0, 1, (0, 0, 0, 0), none),
  (7, .iload_n 1, 1, (0, 0, 0, 0), none),
  (8, .iload_n 2, 1, (0, 0, 0, 0), none),
  (9, .invokevirtual 520, 3, (270, 3, 0, 23), none),
  (12, .return_, 1, (0, 0, 0, 0), none),
  (13, .aload_n 0, 1, (0, 0, 0, 0), none),
  (14, .getfield 487, 3, (23, 39, 0, 0), none),
  (17, .bipush 14, 2, (0, 0, 0, 0), none),
  (19, .if_icmp .ne 11, 3, (0, 0, 0, 0), none),
  (22, .aload_n 0, 1, (0, 0, 0, 0), none),
  (23, .bipush 9, 2, (0, 0, 0, 0), none),
  (25, .iload_n 2, 1, (0, 0, 0, 0), none),
  (26, .invokevirtual 474, 3, (255, 3, 0, 23), none),
  (29, .return_, 1, (0, 0, 0, 0), none),
  (30, .aload_n 0, 1, (0, 0, 0, 0), none),
  (31, .dup, 1, (0, 0, 0, 0), none),
  (32, .getfield 487, 3, (23, 39, 0, 0), none),
  (35, .iconst 1, 1, (0, 0, 0, 0), none),
  (36, .iadd, 1, (0, 0, 0, 0), none),
  (37, .putfield 487, 3, (23, 39, 0, 0), none),
  (40, .aload_n 0, 1, (0, 0, 0, 0), none),
  (41, .iload_n 1, 1, (0, 0, 0, 0), none),
  (42, .iload_n 2, 1, (0, 0, 0, 0), none),
  (43, .iconst 1, 1, (0, 0, 0, 0), none),
  (44, .iadd, 1, (0, 0, 0, 0), none),
  (45, .invokevirtual 522, 3, (258, 3, 0, 23), none),
  (48, .return_, 1, (0, 0, 0, 0), none)]
def cd_X13_works : List sm_E := [(0, .aload_n 0, 1, (0, 0, 0, 0), some [0]),
  (1, .getfield 467, 3, (23, 57, 3, 0), none),
  (4, .ifCond .ne 236, 3, (0, 0, 0, 0), none),
  (7, .aload_n 0, 1, (0, 0, 0, 0), none),
  (8, .getfield 502, 3, (23, 48, 0, 0), none),
  (11, .istore_n 1, 1, (0, 0, 0, 0), none),
  (12, .aload_n 0, 1, (0, 0, 0, 0), none),
  (13, .iload_n 1, 1, (0, 0, 0, 0), none),
  (14, .iconst 1, 1, (0, 0, 0, 0), none),
  (15, .iadd, 1, (0, 0, 0, 0), none),
  (16, .putfield 502, 3, (23, 48, 0, 0), none),
  (19, .aload_n 0, 1, (0, 0, 0, 0), none),
  (20, .getfield 461, 3, (23, 6, 2, 0), none),
  (23, .getfield 204, 3, (22, 7, 63, 0), none),
  (26, .iload_n 1, 1, (0, 0, 0, 0), none),
  (27, .iaload, 1, (63, 4000, 0, 0), none),
  (28, .istore_n 2, 1, (0, 0, 0, 0), none),
  (29, .aload_n 0, 1, (0, 0, 0, 0), none),
  (30, .getfield 461, 3, (23, 6, 2, 0), none),
  (33, .getfield 207, 3, (22, 8, 64, 0), none),
  (36, .iload_n 1, 1, (0, 0, 0, 0), none),
  (37, .iaload, 1, (64, 4000, 0, 0), none),
  (38, .istore_n 3, 1, (0, 0, 0, 0), none),
  (39, .iload_n 2, 1, (0, 0, 0, 0), none),
  (40, .bipush 25, 2, (0, 0, 0, 0), none),
  (42, .if_icmp .ge 38, 3, (0, 0, 0, 0), none),
  (45, .aload_n 0, 1, (0, 0, 0, 0), none),
  (46, .getfield 525, 3, (23, 49, 0, 0), none),
  (49, .ifCond .ne 11, 3, (0, 0, 0, 0), none),
  (52, .aload_n 0, 1, (0, 0, 0, 0), none),
  (53, .bipush 7, 2, (0, 0, 0, 0), none),
  (55, .iload_n 1, 1, (0, 0, 0, 0), none),
  (56, .invokevirtual 474, 3, (255, 3, 0, 23), none),
  (59, .return_, 1, (0, 0, 0, 0), none),
  (60, .aload_n 0, 1, (0, 0, 0, 0), none),
  (61, .dup, 1, (0, 0, 0, 0), none),
  (62, .getfield 525, 3, (23, 49, 0, 0), none),
  (65, .iconst 1, 1, (0, 0, 0, 0), none),
  (66, .isub, 1, (0, 0, 0, 0), none),
  (67, .putfield 525, 3, (23, 49, 0, 0), none),
  (70, .aload_n 0, 1, (0, 0, 0, 0), none),
  (71, .iload_n 2, 1, (0, 0, 0, 0), none),
  (72, .iload_n 3, 1, (0, 0, 0, 0), none),
  (73, .iload_n 1, 1, (0, 0, 0, 0), none),
  (74, .invokevirtual 527, 3, (261, 4, 0, 23), none),
  (77, .goto 160, 3, (0, 0, 0, 0), none),
  (80, .iload_n 2, 1, (0, 0, 0, 0), none),
  (81, .bipush 25, 2, (0, 0, 0, 0), none),
  (83, .if_icmp .ne 16, 3, (0, 0, 0, 0), none),
  (86, .aload_n 0, 1, (0, 0, 0, 0), none),
  (87, .dup, 1, (0, 0, 0, 0), none),
  (88, .getfield 455, 3, (23, 37, 0, 0), none),
  (91, .iconst 1, 1, (0, 0, 0, 0), none),
  (92, .isub, 1, (0, 0, 0, 0), none),
  (93, .putfield 455, 3, (23, 37, 0, 0), none),
  (96, .goto 141, 3, (0, 0, 0, 0), none),
  (99, .iload_n 2, 1, (0, 0, 0, 0), none),
  (100, .bipush 26, 2, (0, 0, 0, 0), none),
  (102, .if_icmp .ne 11, 3, (0, 0, 0, 0), none),
  (105, .aload_n 0, 1, (0, 0, 0, 0), none),
  (106, .iload_n 3, 1, (0, 0, 0, 0), none),
  (107, .putfield 502, 3, (23, 48, 0, 0), none),
  (110, .goto 127, 3, (0, 0, 0, 0), none),
  (113, .iload_n 2, 1, (0, 0, 0, 0), none),
  (114, .bipush 27, 2, (0, 0, 0, 0), none),
  (116, .if_icmp .ne 70, 3, (0, 0, 0, 0), none),
  (119, .aload_n 0, 1, (0, 0, 0, 0), none),
  (120, .getfield 499, 3, (23, 43, 86, 0), none),
  (123, .aload_n 0, 1, (0, 0, 0, 0), none),
  (124, .getfield 478, 3, (23, 47, 0, 0), none),
  (127, .iload_n 3, 1, (0, 0, 0, 0), none),
  (128, .iastore, 1, (86, 200, 0, 0), none),
  (129, .aload_n 0, 1, (0, 0, 0, 0), none),
  (130, .getfield 484, 3, (23, 44, 87, 0), none),
  (133, .aload_n 0, 1, (0, 0, 0, 0), none),
  (134, .getfield 478, 3, (23, 47, 0, 0), none),
  (137, .aload_n 0, 1, (0, 0, 0, 0), none),
  (138, .getfield 487, 3, (23, 39, 0, 0), none),
  (141, .iastore, 1, (87, 200, 0, 0), none),
  (142, .aload_n 0, 1, (0, 0, 0, 0), none),
  (143, .getfield 490, 3, (23, 45, 88, 0), none),
  (146, .aload_n 0, 1, (0, 0, 0, 0), none),
  (147, .getfield 478, 3, (23, 47, 0, 0), none),
  (150, .aload_n 0, 1, (0, 0, 0, 0), none),
  (151, .getfield 455, 3, (23, 37, 0, 0), none),
  (154, .iastore, 1, (88, 200, 0, 0), none),
  (155, .aload_n 0, 1, (0, 0, 0, 0), none),
  (156, .getfield 496, 3, (23, 46, 89, 0), none),
  (159, .aload_n 0, 1, (0, 0, 0, 0), none),
  (160, .getfield 478, 3, (23, 47, 0, 0), none),
  (163, .aload_n 0, 1, (0, 0, 0, 0), none),
  (164, .getfield 461, 3, (23, 6, 2, 0), none),
  (167, .getfield 210, 3, (22, 9, 65, 0), none),
  (170, .iload_n 1, 1, (0, 0, 0, 0), none),
  (171, .iaload, 1, (65, 4000, 0, 0), none),
  (172, .iastore, 1, (89, 200, 0, 0), none),
  (173, .aload_n 0, 1, (0, 0, 0, 0), none),
  (174, .dup, 1, (0, 0, 0, 0), none),
  (175, .getfield 478, 3, (23, 47, 0, 0), none),
  (178, .iconst 1, 1, (0, 0, 0, 0), none),
  (179, .iadd, 1, (0, 0, 0, 0), none),
  (180, .putfield 478, 3, (23, 47, 0, 0), none),
  (183, .goto 54, 3, (0, 0, 0, 0), none),
  (186, .iload_n 2, 1, (0, 0, 0, 0), none),
  (187, .bipush 28, 2, (0, 0, 0, 0), none),
  (189, .if_icmp .ne 16, 3, (0, 0, 0, 0), none),
  (192, .aload_n 0, 1, (0, 0, 0, 0), none),
  (193, .dup, 1, (0, 0, 0, 0), none),
  (194, .getfield 478, 3, (23, 47, 0, 0), none),
  (197, .iconst 1, 1, (0, 0, 0, 0), none),
  (198, .isub, 1, (0, 0, 0, 0), none),
  (199, .putfield 478, 3, (23, 47, 0, 0), none),
  (202, .goto 35, 3, (0, 0, 0, 0), none),
  (205, .aload_n 0, 1, (0, 0, 0, 0), none),
  (206, .iconst 0, 1, (0, 0, 0, 0), none),
  (207, .aload_n 0, 1, (0, 0, 0, 0), none),
  (208, .getfield 461, 3, (23, 6, 2, 0), none),
  (211, .getfield 249, 3, (22, 2, 59, 0), none),
  (214, .aload_n 0, 1, (0, 0, 0, 0), none),
  (215, .getfield 517, 3, (23, 41, 84, 0), none),
  (218, .aload_n 0, 1, (0, 0, 0, 0), none),
  (219, .getfield 487, 3, (23, 39, 0, 0), none),
  (222, .iaload, 1, (84, 15, 0, 0), none),
  (223, .iaload, 1, (59, 12, 0, 0), none),
  (224, .bipush 38, 2, (0, 0, 0, 0), none),
  (226, .if_icmp .eq 7, 3, (0, 0, 0, 0), none),
  (229, .iconst 1, 1, (0, 0, 0, 0), none),
  (230, .goto 4, 3, (0, 0, 0, 0), none),
  (233, .iconst 0, 1, (0, 0, 0, 0), none),
  (234, .invokevirtual 530, 3, (257, 3, 0, 23), none),
  (237, .goto (-237), 3, (0, 0, 0, 0), none),
  (240, .return_, 1, (0, 0, 0, 0), none)]
def cd_X13_act : List sm_E := [(0, .iload_n 1, 1, (0, 0, 0, 0), none),
  (1, .tableswitch 513 0 24 #[115, 123, 144, 165, 173, 181, 219, 266, 305, 348, 513, 513, 513, 513, 513, 513, 372, 381, 390, 399, 414, 425, 478, 492, 504], 115, (0, 0, 0, 0), none),
  (116, .aload_n 0, 1, (0, 0, 0, 0), none),
  (117, .iload_n 2, 1, (0, 0, 0, 0), none),
  (118, .invokevirtual 514, 3, (253, 2, 0, 23), none),
  (121, .goto 398, 3, (0, 0, 0, 0), none),
  (124, .aload_n 0, 1, (0, 0, 0, 0), none),
  (125, .aload_n 0, 1, (0, 0, 0, 0), none),
  (126, .getfield 493, 3, (23, 38, 82, 0), none),
  (129, .bipush 24, 2, (0, 0, 0, 0), none),
  (131, .aload_n 0, 1, (0, 0, 0, 0), none),
  (132, .getfield 487, 3, (23, 39, 0, 0), none),
  (135, .imul, 1, (0, 0, 0, 0), none),
  (136, .iload_n 2, 1, (0, 0, 0, 0), none),
  (137, .iadd, 1, (0, 0, 0, 0), none),
  (138, .iaload, 1, (82, 360, 0, 0), none),
  (139, .invokevirtual 514, 3, (253, 2, 0, 23), none),
  (142, .goto 377, 3, (0, 0, 0, 0), none),
  (145, .aload_n 0, 1, (0, 0, 0, 0), none),
  (146, .getfield 493, 3, (23, 38, 82, 0), none),
  (149, .bipush 24, 2, (0, 0, 0, 0), none),
  (151, .aload_n 0, 1, (0, 0, 0, 0), none),
  (152, .getfield 487, 3, (23, 39, 0, 0), none),
  (155, .imul, 1, (0, 0, 0, 0), none),
  (156, .iload_n 2, 1, (0, 0, 0, 0), none),
  (157, .iadd, 1, (0, 0, 0, 0), none),
  (158, .aload_n 0, 1, (0, 0, 0, 0), none),
  (159, .invokevirtual 534, 3, (254, 1, 1, 23), none),
  (162, .iastore, 1, (82, 360, 0, 0), none),
  (163, .goto 356, 3, (0, 0, 0, 0), none),
  (166, .aload_n 0, 1, (0, 0, 0, 0), none),
  (167, .iload_n 3, 1, (0, 0, 0, 0), none),
  (168, .invokevirtual 537, 3, (264, 2, 0, 23), none),
  (171, .goto 348, 3, (0, 0, 0, 0), none),
  (174, .aload_n 0, 1, (0, 0, 0, 0), none),
  (175, .iload_n 3, 1, (0, 0, 0, 0), none),
  (176, .invokevirtual 540, 3, (265, 2, 0, 23), none),
  (179, .goto 340, 3, (0, 0, 0, 0), none),
  (182, .aload_n 0, 1, (0, 0, 0, 0), none),
  (183, .invokevirtual 534, 3, (254, 1, 1, 23), none),
  (186, .istore 4, 2, (0, 0, 0, 0), none),
  (188, .iload 4, 2, (0, 0, 0, 0), none),
  (190, .ifCond .ne 13, 3, (0, 0, 0, 0), none),
  (193, .aload_n 0, 1, (0, 0, 0, 0), none),
  (194, .iconst 1, 1, (0, 0, 0, 0), none),
  (195, .iconst 0, 1, (0, 0, 0, 0), none),
  (196, .iload_n 3, 1, (0, 0, 0, 0), none),
  (197, .invokevirtual 543, 3, (256, 4, 0, 23), none),
  (200, .goto 319, 3, (0, 0, 0, 0), none),
  (203, .aload_n 0, 1, (0, 0, 0, 0), none),
  (204, .aload_n 0, 1, (0, 0, 0, 0), none),
  (205, .iload 4, 2, (0, 0, 0, 0), none),
  (207, .invokestatic 545, 3, (247, 1, 1, 0), none),
  (210, .iload_n 2, 1, (0, 0, 0, 0), none),
  (211, .invokevirtual 548, 3, (252, 3, 1, 23), none),
  (214, .invokevirtual 514, 3, (253, 2, 0, 23), none),
  (217, .goto 302, 3, (0, 0, 0, 0), none),
  (220, .aload_n 0, 1, (0, 0, 0, 0), none),
  (221, .invokevirtual 534, 3, (254, 1, 1, 23), none),
  (224, .istore 4, 2, (0, 0, 0, 0), none),
  (226, .aload_n 0, 1, (0, 0, 0, 0), none),
  (227, .invokevirtual 534, 3, (254, 1, 1, 23), none),
  (230, .istore 5, 2, (0, 0, 0, 0), none),
  (232, .iload 5, 2, (0, 0, 0, 0), none),
  (234, .ifCond .ne 13, 3, (0, 0, 0, 0), none),
  (237, .aload_n 0, 1, (0, 0, 0, 0), none),
  (238, .iconst 1, 1, (0, 0, 0, 0), none),
  (239, .iconst 0, 1, (0, 0, 0, 0), none),
  (240, .iload_n 3, 1, (0, 0, 0, 0), none),
  (241, .invokevirtual 543, 3, (256, 4, 0, 23), none),
  (244, .goto 275, 3, (0, 0, 0, 0), none),
  (247, .aload_n 0, 1, (0, 0, 0, 0), none),
  (248, .getfield 443, 3, (23, 30, 75, 0), none),
  (251, .bipush 9, 2, (0, 0, 0, 0), none),
  (253, .iload 5, 2, (0, 0, 0, 0), none),
  (255, .invokestatic 545, 3, (247, 1, 1, 0), none),
  (258, .imul, 1, (0, 0, 0, 0), none),
  (259, .iload_n 2, 1, (0, 0, 0, 0), none),
  (260, .iadd, 1, (0, 0, 0, 0), none),
  (261, .iload 4, 2, (0, 0, 0, 0), none),
  (263, .iastore, 1, (75, 2700, 0, 0), none),
  (264, .goto 255, 3, (0, 0, 0, 0), none),
  (267, .aload_n 0, 1, (0, 0, 0, 0), none),
  (268, .invokevirtual 534, 3, (254, 1, 1, 23), none),
  (271, .istore 4, 2, (0, 0, 0, 0), none),
  (273, .iload 4, 2, (0, 0, 0, 0), none),
  (275, .ifCond .ne 13, 3, (0, 0, 0, 0), none),
  (278, .aload_n 0, 1, (0, 0, 0, 0), none),
  (279, .iconst 1, 1, (0, 0, 0, 0), none),
  (280, .iconst 0, 1, (0, 0, 0, 0), none),
  (281, .iload_n 3, 1, (0, 0, 0, 0), none),
  (282, .invokevirtual 543, 3, (256, 4, 0, 23), none),
  (285, .goto 234, 3, (0, 0, 0, 0), none),
  (288, .aload_n 0, 1, (0, 0, 0, 0), none),
  (289, .aload_n 0, 1, (0, 0, 0, 0), none),
  (290, .getfield 550, 3, (23, 33, 78, 0), none),
  (293, .iload 4, 2, (0, 0, 0, 0), none),
  (295, .sipush 1001, 3, (0, 0, 0, 0), none),
  (298, .isub, 1, (0, 0, 0, 0), none),
  (299, .iaload, 1, (78, 200, 0, 0), none),
  (300, .invokevirtual 514, 3, (253, 2, 0, 23), none),
  (303, .goto 216, 3, (0, 0, 0, 0), none),
  (306, .aload_n 0, 1, (0, 0, 0, 0), none),
  (307, .getfield 452, 3, (23, 36, 81, 0), none),
  (310, .aload_n 0, 1, (0, 0, 0, 0), none),
  (311, .getfield 455, 3, (23, 37, 0, 0), none),
  (314, .iconst 1, 1, (0, 0, 0, 0), none),
  (315, .isub, 1, (0, 0, 0, 0), none),
  (316, .iaload, 1, (81, 4000, 0, 0), none),
  (317, .ifCond .eq 202, 3, (0, 0, 0, 0), none),
  (320, .aload_n 0, 1, (0, 0, 0, 0), none),
  (321, .aload_n 0, 1, (0, 0, 0, 0), none),
  (322, .getfield 452, 3, (23, 36, 81, 0), none),
  (325, .aload_n 0, 1, (0, 0, 0, 0), none),
  (326, .getfield 455, 3, (23, 37, 0, 0), none),
  (329, .iconst 1, 1, (0, 0, 0, 0), none),
  (330, .isub, 1, (0, 0, 0, 0), none),
  (331, .iaload, 1, (81, 4000, 0, 0), none),
  (332, .iload_n 2, 1, (0, 0, 0, 0), none),
  (333, .invokevirtual 553, 3, (248, 3, 1, 23), none),
  (336, .ifCond .ne 183, 3, (0, 0, 0, 0), none),
  (339, .aload_n 0, 1, (0, 0, 0, 0), none),
  (340, .iconst 4, 1, (0, 0, 0, 0), none),
  (341, .iconst 0, 1, (0, 0, 0, 0), none),
  (342, .iload_n 3, 1, (0, 0, 0, 0), none),
  (343, .invokevirtual 543, 3, (256, 4, 0, 23), none),
  (346, .goto 173, 3, (0, 0, 0, 0), none),
  (349, .aload_n 0, 1, (0, 0, 0, 0), none),
  (350, .aload_n 0, 1, (0, 0, 0, 0), none),
  (351, .aload_n 0, 1, (0, 0, 0, 0), none),
  (352, .invokevirtual 534, 3, (254, 1, 1, 23), none),
  (355, .iload_n 2, 1, (0, 0, 0, 0), none),
  (356, .invokevirtual 553, 3, (248, 3, 1, 23), none),
  (359, .ifCond .eq 7, 3, (0, 0, 0, 0), none),
  (362, .iconst 1, 1, (0, 0, 0, 0), none),
  (363, .goto 4, 3, (0, 0, 0, 0), none),
  (366, .iconst 0, 1, (0, 0, 0, 0), none),
  (367, .invokevirtual 514, 3, (253, 2, 0, 23), none),
  (370, .goto 149, 3, (0, 0, 0, 0), none),
  (373, .aload_n 0, 1, (0, 0, 0, 0), none),
  (374, .iload_n 2, 1, (0, 0, 0, 0), none),
  (375, .iload_n 3, 1, (0, 0, 0, 0), none),
  (376, .invokevirtual 556, 3, (266, 3, 0, 23), none),
  (379, .goto 140, 3, (0, 0, 0, 0), none),
  (382, .aload_n 0, 1, (0, 0, 0, 0), none),
  (383, .iload_n 2, 1, (0, 0, 0, 0), none),
  (384, .iload_n 3, 1, (0, 0, 0, 0), none),
  (385, .invokevirtual 559, 3, (267, 3, 0, 23), none),
  (388, .goto 131, 3, (0, 0, 0, 0), none),
  (391, .aload_n 0, 1, (0, 0, 0, 0), none),
  (392, .iload_n 2, 1, (0, 0, 0, 0), none),
  (393, .iload_n 3, 1, (0, 0, 0, 0), none),
  (394, .invokevirtual 562, 3, (259, 3, 0, 23), none),
  (397, .goto 122, 3, (0, 0, 0, 0), none),
  (400, .aload_n 0, 1, (0, 0, 0, 0), none),
  (401, .invokevirtual 534, 3, (254, 1, 1, 23), none),
  (404, .ifCond .ne 115, 3, (0, 0, 0, 0), none),
  (407, .aload_n 0, 1, (0, 0, 0, 0), none),
  (408, .iload_n 2, 1, (0, 0, 0, 0), none),
  (409, .putfield 502, 3, (23, 48, 0, 0), none),
  (412, .goto 107, 3, (0, 0, 0, 0), none),
  (415, .aload_n 0, 1, (0, 0, 0, 0), none),
  (416, .aload_n 0, 1, (0, 0, 0, 0), none),
  (417, .invokevirtual 534, 3, (254, 1, 1, 23), none),
  (420, .invokevirtual 564, 3, (263, 2, 0, 23), none),
  (423, .goto 96, 3, (0, 0, 0, 0), none),
  (426, .aload_n 0, 1, (0, 0, 0, 0), none),
  (427, .invokevirtual 534, 3, (254, 1, 1, 23), none),
  (430, .istore 4, 2, (0, 0, 0, 0), none),
  (432, .aload_n 0, 1, (0, 0, 0, 0), none),
  (433, .iload 4, 2, (0, 0, 0, 0), none),
  (435, .ifCond .ne 9, 3, (0, 0, 0, 0), none),
  (438, .sipush (-1000), 3, (0, 0, 0, 0), none),
  (441, .goto 32, 3, (0, 0, 0, 0), none),
  (444, .iload 4, 2, (0, 0, 0, 0), none),
  (446, .sipush 1001, 3, (0, 0, 0, 0), none),
  (449, .if_icmp .lt 19, 3, (0, 0, 0, 0), none),
  (452, .iconst (-1), 1, (0, 0, 0, 0), none),
  (453, .aload_n 0, 1, (0, 0, 0, 0), none),
  (454, .getfield 550, 3, (23, 33, 78, 0), none),
  (457, .iload 4, 2, (0, 0, 0, 0), none),
  (459, .sipush 1001, 3, (0, 0, 0, 0), none),
  (462, .isub, 1, (0, 0, 0, 0), none),
  (463, .iaload, 1, (78, 200, 0, 0), none),
  (464, .isub, 1, (0, 0, 0, 0), none),
  (465, .goto 8, 3, (0, 0, 0, 0), none),
  (468, .iload 4, 2, (0, 0, 0, 0), none),
  (470, .invokestatic 545, 3, (247, 1, 1, 0), none),
  (473, .invokevirtual 564, 3, (263, 2, 0, 23), none),
  (476, .goto 43, 3, (0, 0, 0, 0), none),
  (479, .aload_n 0, 1, (0, 0, 0, 0), none),
  (480, .bipush 6, 2, (0, 0, 0, 0), none),
  (482, .aload_n 0, 1, (0, 0, 0, 0), none),
  (483, .invokevirtual 534, 3, (254, 1, 1, 23), none),
  (486, .iload_n 3, 1, (0, 0, 0, 0), none),
  (487, .invokevirtual 543, 3, (256, 4, 0, 23), none),
  (490, .goto 29, 3, (0, 0, 0, 0), none),
  (493, .aload_n 0, 1, (0, 0, 0, 0), none),
  (494, .aload_n 0, 1, (0, 0, 0, 0), none),
  (495, .invokevirtual 534, 3, (254, 1, 1, 23), none),
  (498, .iconst 1, 1, (0, 0, 0, 0), none),
  (499, .invokevirtual 530, 3, (257, 3, 0, 23), none),
  (502, .goto 17, 3, (0, 0, 0, 0), none),
  (505, .aload_n 0, 1, (0, 0, 0, 0), none),
  (506, .iconst 0, 1, (0, 0, 0, 0), none),
  (507, .iconst 0, 1, (0, 0, 0, 0), none),
  (508, .invokevirtual 530, 3, (257, 3, 0, 23), none),
  (511, .goto 8, 3, (0, 0, 0, 0), none),
  (514, .aload_n 0, 1, (0, 0, 0, 0), none),
  (515, .iload_n 1, 1, (0, 0, 0, 0), none),
  (516, .invokevirtual 567, 3, (262, 2, 0, 23), none),
  (519, .return_, 1, (0, 0, 0, 0), none)]
end
end
section
section
def cd_X13_reckons : List sm_E := [(0, .aload_n 0, 1, (0, 0, 0, 0), none),
  (1, .invokevirtual 534, 3, (254, 1, 1, 23), none),
  (4, .istore_n 2, 1, (0, 0, 0, 0), none),
  (5, .aload_n 0, 1, (0, 0, 0, 0), none),
  (6, .invokevirtual 534, 3, (254, 1, 1, 23), none),
  (9, .istore_n 3, 1, (0, 0, 0, 0), none),
  (10, .aload_n 0, 1, (0, 0, 0, 0), none),
  (11, .iload_n 1, 1, (0, 0, 0, 0), none),
  (12, .bipush 10, 2, (0, 0, 0, 0), none),
  (14, .if_icmp .ne 9, 3, (0, 0, 0, 0), none),
  (17, .iload_n 3, 1, (0, 0, 0, 0), none),
  (18, .iload_n 2, 1, (0, 0, 0, 0), none),
  (19, .iadd, 1, (0, 0, 0, 0), none),
  (20, .goto 75, 3, (0, 0, 0, 0), none),
  (23, .iload_n 1, 1, (0, 0, 0, 0), none),
  (24, .bipush 11, 2, (0, 0, 0, 0), none),
  (26, .if_icmp .ne 9, 3, (0, 0, 0, 0), none),
  (29, .iload_n 3, 1, (0, 0, 0, 0), none),
  (30, .iload_n 2, 1, (0, 0, 0, 0), none),
  (31, .isub, 1, (0, 0, 0, 0), none),
  (32, .goto 63, 3, (0, 0, 0, 0), none),
  (35, .iload_n 1, 1, (0, 0, 0, 0), none),
  (36, .bipush 12, 2, (0, 0, 0, 0), none),
  (38, .if_icmp .ne 9, 3, (0, 0, 0, 0), none),
  (41, .iload_n 3, 1, (0, 0, 0, 0), none),
  (42, .iload_n 2, 1, (0, 0, 0, 0), none),
  (43, .imul, 1, (0, 0, 0, 0), none),
  (44, .goto 51, 3, (0, 0, 0, 0), none),
  (47, .iload_n 1, 1, (0, 0, 0, 0), none),
  (48, .bipush 13, 2, (0, 0, 0, 0), none),
  (50, .if_icmp .ne 16, 3, (0, 0, 0, 0), none),
  (53, .iload_n 3, 1, (0, 0, 0, 0), none),
  (54, .iload_n 2, 1, (0, 0, 0, 0), none),
  (55, .if_icmp .ne 7, 3, (0, 0, 0, 0), none),
  (58, .iconst 1, 1, (0, 0, 0, 0), none),
  (59, .goto 36, 3, (0, 0, 0, 0), none),
  (62, .iconst 0, 1, (0, 0, 0, 0), none),
  (63, .goto 32, 3, (0, 0, 0, 0), none),
  (66, .iload_n 1, 1, (0, 0, 0, 0), none),
  (67, .bipush 14, 2, (0, 0, 0, 0), none),
  (69, .if_icmp .ne 16, 3, (0, 0, 0, 0), none),
  (72, .iload_n 3, 1, (0, 0, 0, 0), none),
  (73, .iload_n 2, 1, (0, 0, 0, 0), none),
  (74, .if_icmp .ne 7, 3, (0, 0, 0, 0), none),
  (77, .iconst 0, 1, (0, 0, 0, 0), none),
  (78, .goto 17, 3, (0, 0, 0, 0), none),
  (81, .iconst 1, 1, (0, 0, 0, 0), none),
  (82, .goto 13, 3, (0, 0, 0, 0), none),
  (85, .iload_n 3, 1, (0, 0, 0, 0), none),
  (86, .iload_n 2, 1, (0, 0, 0, 0), none),
  (87, .if_icmp .ge 7, 3, (0, 0, 0, 0), none),
  (90, .iconst 1, 1, (0, 0, 0, 0), none),
  (91, .goto 4, 3, (0, 0, 0, 0), none),
  (94, .iconst 0, 1, (0, 0, 0, 0), none),
  (95, .invokevirtual 514, 3, (253, 2, 0, 23), none),
  (98, .return_, 1, (0, 0, 0, 0), none)]
def cd_X13_says : List sm_E := [(0, .aload_n 0, 1, (0, 0, 0, 0), none),
  (1, .getfield 570, 3, (23, 28, 0, 0), none),
  (4, .sipush 300, 3, (0, 0, 0, 0), none),
  (7, .if_icmp .ne 4, 3, (0, 0, 0, 0), none),
  (10, .return_, 1, (0, 0, 0, 0), none),
  (11, .aload_n 0, 1, (0, 0, 0, 0), none),
  (12, .getfield 573, 3, (23, 35, 80, 0), none),
  (15, .aload_n 0, 1, (0, 0, 0, 0), none),
  (16, .getfield 570, 3, (23, 28, 0, 0), none),
  (19, .iload_n 1, 1, (0, 0, 0, 0), none),
  (20, .iastore, 1, (80, 300, 0, 0), none),
  (21, .aload_n 0, 1, (0, 0, 0, 0), none),
  (22, .dup, 1, (0, 0, 0, 0), none),
  (23, .getfield 570, 3, (23, 28, 0, 0), none),
  (26, .iconst 1, 1, (0, 0, 0, 0), none),
  (27, .iadd, 1, (0, 0, 0, 0), none),
  (28, .putfield 570, 3, (23, 28, 0, 0), none),
  (31, .return_, 1, (0, 0, 0, 0), none)]
def cd_X13_element0 : List sm_E := [(0, .aload_n 0, 1, (0, 0, 0, 0), none),
  (1, .invokevirtual 534, 3, (254, 1, 1, 23), none),
  (4, .istore_n 2, 1, (0, 0, 0, 0), none),
  (5, .aload_n 0, 1, (0, 0, 0, 0), none),
  (6, .invokevirtual 534, 3, (254, 1, 1, 23), none),
  (9, .istore_n 3, 1, (0, 0, 0, 0), none),
  (10, .iload_n 3, 1, (0, 0, 0, 0), none),
  (11, .ifCond .ne 13, 3, (0, 0, 0, 0), none),
  (14, .aload_n 0, 1, (0, 0, 0, 0), none),
  (15, .iconst 1, 1, (0, 0, 0, 0), none),
  (16, .iconst 0, 1, (0, 0, 0, 0), none),
  (17, .iload_n 1, 1, (0, 0, 0, 0), none),
  (18, .invokevirtual 543, 3, (256, 4, 0, 23), none),
  (21, .goto 52, 3, (0, 0, 0, 0), none),
  (24, .iload_n 2, 1, (0, 0, 0, 0), none),
  (25, .ifCond .lt 17, 3, (0, 0, 0, 0), none),
  (28, .iload_n 2, 1, (0, 0, 0, 0), none),
  (29, .aload_n 0, 1, (0, 0, 0, 0), none),
  (30, .getfield 550, 3, (23, 33, 78, 0), none),
  (33, .iload_n 3, 1, (0, 0, 0, 0), none),
  (34, .sipush 1001, 3, (0, 0, 0, 0), none),
  (37, .isub, 1, (0, 0, 0, 0), none),
  (38, .iaload, 1, (78, 200, 0, 0), none),
  (39, .if_icmp .lt 13, 3, (0, 0, 0, 0), none),
  (42, .aload_n 0, 1, (0, 0, 0, 0), none),
  (43, .iconst 2, 1, (0, 0, 0, 0), none),
  (44, .iconst 0, 1, (0, 0, 0, 0), none),
  (45, .iload_n 1, 1, (0, 0, 0, 0), none),
  (46, .invokevirtual 543, 3, (256, 4, 0, 23), none),
  (49, .goto 24, 3, (0, 0, 0, 0), none),
  (52, .aload_n 0, 1, (0, 0, 0, 0), none),
  (53, .aload_n 0, 1, (0, 0, 0, 0), none),
  (54, .getfield 576, 3, (23, 34, 79, 0), none),
  (57, .aload_n 0, 1, (0, 0, 0, 0), none),
  (58, .getfield 579, 3, (23, 32, 77, 0), none),
  (61, .iload_n 3, 1, (0, 0, 0, 0), none),
  (62, .sipush 1001, 3, (0, 0, 0, 0), none),
  (65, .isub, 1, (0, 0, 0, 0), none),
  (66, .iaload, 1, (77, 200, 0, 0), none),
  (67, .iload_n 2, 1, (0, 0, 0, 0), none),
  (68, .iadd, 1, (0, 0, 0, 0), none),
  (69, .iaload, 1, (79, 2000, 0, 0), none),
  (70, .invokevirtual 514, 3, (253, 2, 0, 23), none),
  (73, .return_, 1, (0, 0, 0, 0), none)]
def cd_X13_puts : List sm_E := [(0, .aload_n 0, 1, (0, 0, 0, 0), none),
  (1, .invokevirtual 534, 3, (254, 1, 1, 23), none),
  (4, .istore_n 2, 1, (0, 0, 0, 0), none),
  (5, .aload_n 0, 1, (0, 0, 0, 0), none),
  (6, .invokevirtual 534, 3, (254, 1, 1, 23), none),
  (9, .istore_n 3, 1, (0, 0, 0, 0), none),
  (10, .aload_n 0, 1, (0, 0, 0, 0), none),
  (11, .invokevirtual 534, 3, (254, 1, 1, 23), none),
  (14, .istore 4, 2, (0, 0, 0, 0), none),
  (16, .iload 4, 2, (0, 0, 0, 0), none),
  (18, .ifCond .ne 13, 3, (0, 0, 0, 0), none),
  (21, .aload_n 0, 1, (0, 0, 0, 0), none),
  (22, .iconst 1, 1, (0, 0, 0, 0), none),
  (23, .iconst 0, 1, (0, 0, 0, 0), none),
  (24, .iload_n 1, 1, (0, 0, 0, 0), none),
  (25, .invokevirtual 543, 3, (256, 4, 0, 23), none),
  (28, .goto 84, 3, (0, 0, 0, 0), none),
  (31, .iload_n 3, 1, (0, 0, 0, 0), none),
  (32, .ifCond .lt 18, 3, (0, 0, 0, 0), none),
  (35, .iload_n 3, 1, (0, 0, 0, 0), none),
  (36, .aload_n 0, 1, (0, 0, 0, 0), none),
  (37, .getfield 550, 3, (23, 33, 78, 0), none),
  (40, .iload 4, 2, (0, 0, 0, 0), none),
  (42, .sipush 1001, 3, (0, 0, 0, 0), none),
  (45, .isub, 1, (0, 0, 0, 0), none),
  (46, .iaload, 1, (78, 200, 0, 0), none),
  (47, .if_icmp .lt 13, 3, (0, 0, 0, 0), none),
  (50, .aload_n 0, 1, (0, 0, 0, 0), none),
  (51, .iconst 2, 1, (0, 0, 0, 0), none),
  (52, .iconst 0, 1, (0, 0, 0, 0), none),
  (53, .iload_n 1, 1, (0, 0, 0, 0), none),
  (54, .invokevirtual 543, 3, (256, 4, 0, 23), none),
  (57, .goto 55, 3, (0, 0, 0, 0), none),
  (60, .iload_n 2, 1, (0, 0, 0, 0), none),
  (61, .ifCond .eq 32, 3, (0, 0, 0, 0), none),
  (64, .aload_n 0, 1, (0, 0, 0, 0), none),
  (65, .iload_n 2, 1, (0, 0, 0, 0), none),
  (66, .aload_n 0, 1, (0, 0, 0, 0), none),
  (67, .getfield 434, 3, (23, 31, 76, 0), none),
  (70, .iload 4, 2, (0, 0, 0, 0), none),
  (72, .sipush 1001, 3, (0, 0, 0, 0), none),
  (75, .isub, 1, (0, 0, 0, 0), none),
  (76, .iaload, 1, (76, 200, 0, 0), none),
  (77, .invokevirtual 553, 3, (248, 3, 1, 23), none),
  (80, .ifCond .ne 13, 3, (0, 0, 0, 0), none),
  (83, .aload_n 0, 1, (0, 0, 0, 0), none),
  (84, .iconst 5, 1, (0, 0, 0, 0), none),
  (85, .iconst 0, 1, (0, 0, 0, 0), none),
  (86, .iload_n 1, 1, (0, 0, 0, 0), none),
  (87, .invokevirtual 543, 3, (256, 4, 0, 23), none),
  (90, .goto 22, 3, (0, 0, 0, 0), none),
  (93, .aload_n 0, 1, (0, 0, 0, 0), some [0, 2, 3, 4]),
  (94, .getfield 576, 3, (23, 34, 79, 0), none),
  (97, .aload_n 0, 1, (0, 0, 0, 0), none),
  (98, .getfield 579, 3, (23, 32, 77, 0), none),
  (101, .iload 4, 2, (0, 0, 0, 0), none),
  (103, .sipush 1001, 3, (0, 0, 0, 0), none),
  (106, .isub, 1, (0, 0, 0, 0), none),
  (107, .iaload, 1, (77, 200, 0, 0), none),
  (108, .iload_n 3, 1, (0, 0, 0, 0), none),
  (109, .iadd, 1, (0, 0, 0, 0), none),
  (110, .iload_n 2, 1, (0, 0, 0, 0), none),
  (111, .iastore, 1, (79, 2000, 0, 0), none),
  (112, .return_, 1, (0, 0, 0, 0), none)]
def cd_X13_make : List sm_E := [(0, .aload_n 0, 1, (0, 0, 0, 0), none),
  (1, .getfield 582, 3, (23, 24, 0, 0), none),
  (4, .sipush 300, 3, (0, 0, 0, 0), none),
  (7, .if_icmp .ne 11, 3, (0, 0, 0, 0), none),
  (10, .aload_n 0, 1, (0, 0, 0, 0), none),
  (11, .bipush 8, 2, (0, 0, 0, 0), none),
  (13, .iload_n 2, 1, (0, 0, 0, 0), none),
  (14, .invokevirtual 474, 3, (255, 3, 0, 23), none),
  (17, .return_, 1, (0, 0, 0, 0), none),
  (18, .aload_n 0, 1, (0, 0, 0, 0), none),
  (19, .getfield 437, 3, (23, 29, 74, 0), none),
  (22, .aload_n 0, 1, (0, 0, 0, 0), none),
  (23, .getfield 582, 3, (23, 24, 0, 0), none),
  (26, .iload_n 1, 1, (0, 0, 0, 0), none),
  (27, .iastore, 1, (74, 300, 0, 0), none),
  (28, .aload_n 0, 1, (0, 0, 0, 0), none),
  (29, .dup, 1, (0, 0, 0, 0), none),
  (30, .getfield 582, 3, (23, 24, 0, 0), none),
  (33, .iconst 1, 1, (0, 0, 0, 0), none),
  (34, .iadd, 1, (0, 0, 0, 0), none),
  (35, .putfield 582, 3, (23, 24, 0, 0), none),
  (38, .aload_n 0, 1, (0, 0, 0, 0), none),
  (39, .aload_n 0, 1, (0, 0, 0, 0), none),
  (40, .getfield 582, 3, (23, 24, 0, 0), none),
  (43, .invokevirtual 514, 3, (253, 2, 0, 23), none),
  (46, .return_, 1, (0, 0, 0, 0), none)]
def cd_X13_makeRow : List sm_E := [(0, .aload_n 0, 1, (0, 0, 0, 0), none),
  (1, .invokevirtual 534, 3, (254, 1, 1, 23), none),
  (4, .istore_n 3, 1, (0, 0, 0, 0), none),
  (5, .aload_n 0, 1, (0, 0, 0, 0), none),
  (6, .getfield 585, 3, (23, 25, 0, 0), none),
  (9, .sipush 200, 3, (0, 0, 0, 0), none),
  (12, .if_icmp .eq 21, 3, (0, 0, 0, 0), none),
  (15, .iload_n 3, 1, (0, 0, 0, 0), none),
  (16, .bipush 40, 2, (0, 0, 0, 0), none),
  (18, .if_icmp .gt 15, 3, (0, 0, 0, 0), none),
  (21, .iload_n 3, 1, (0, 0, 0, 0), none),
  (22, .sipush 2000, 3, (0, 0, 0, 0), none),
  (25, .aload_n 0, 1, (0, 0, 0, 0), none),
  (26, .getfield 588, 3, (23, 26, 0, 0), none),
  (29, .isub, 1, (0, 0, 0, 0), none),
  (30, .if_icmp .le 13, 3, (0, 0, 0, 0), none),
  (33, .aload_n 0, 1, (0, 0, 0, 0), none),
  (34, .bipush 8, 2, (0, 0, 0, 0), none),
  (36, .iload_n 2, 1, (0, 0, 0, 0), none),
  (37, .invokevirtual 474, 3, (255, 3, 0, 23), none),
  (40, .goto 82, 3, (0, 0, 0, 0), none),
  (43, .iload_n 3, 1, (0, 0, 0, 0), none),
  (44, .ifCond .ge 13, 3, (0, 0, 0, 0), none),
  (47, .aload_n 0, 1, (0, 0, 0, 0), none),
  (48, .iconst 3, 1, (0, 0, 0, 0), none),
  (49, .iconst 0, 1, (0, 0, 0, 0), none),
  (50, .iload_n 2, 1, (0, 0, 0, 0), none),
  (51, .invokevirtual 543, 3, (256, 4, 0, 23), none),
  (54, .goto 68, 3, (0, 0, 0, 0), none),
  (57, .aload_n 0, 1, (0, 0, 0, 0), none),
  (58, .getfield 434, 3, (23, 31, 76, 0), none),
  (61, .aload_n 0, 1, (0, 0, 0, 0), none),
  (62, .getfield 585, 3, (23, 25, 0, 0), none),
  (65, .iload_n 1, 1, (0, 0, 0, 0), none),
  (66, .iastore, 1, (76, 200, 0, 0), none),
  (67, .aload_n 0, 1, (0, 0, 0, 0), none),
  (68, .getfield 579, 3, (23, 32, 77, 0), none),
  (71, .aload_n 0, 1, (0, 0, 0, 0), none),
  (72, .getfield 585, 3, (23, 25, 0, 0), none),
  (75, .aload_n 0, 1, (0, 0, 0, 0), none),
  (76, .getfield 588, 3, (23, 26, 0, 0), none),
  (79, .iastore, 1, (77, 200, 0, 0), none),
  (80, .aload_n 0, 1, (0, 0, 0, 0), none),
  (81, .getfield 550, 3, (23, 33, 78, 0), none),
  (84, .aload_n 0, 1, (0, 0, 0, 0), none),
  (85, .getfield 585, 3, (23, 25, 0, 0), none),
  (88, .iload_n 3, 1, (0, 0, 0, 0), none),
  (89, .iastore, 1, (78, 200, 0, 0), none),
  (90, .aload_n 0, 1, (0, 0, 0, 0), none),
  (91, .dup, 1, (0, 0, 0, 0), none),
  (92, .getfield 588, 3, (23, 26, 0, 0), none),
  (95, .iload_n 3, 1, (0, 0, 0, 0), none),
  (96, .iadd, 1, (0, 0, 0, 0), none),
  (97, .putfield 588, 3, (23, 26, 0, 0), none),
  (100, .aload_n 0, 1, (0, 0, 0, 0), none),
  (101, .sipush 1001, 3, (0, 0, 0, 0), none),
  (104, .aload_n 0, 1, (0, 0, 0, 0), none),
  (105, .getfield 585, 3, (23, 25, 0, 0), none),
  (108, .iadd, 1, (0, 0, 0, 0), none),
  (109, .invokevirtual 514, 3, (253, 2, 0, 23), none),
  (112, .aload_n 0, 1, (0, 0, 0, 0), none),
  (113, .dup, 1, (0, 0, 0, 0), none),
  (114, .getfield 585, 3, (23, 25, 0, 0), none),
  (117, .iconst 1, 1, (0, 0, 0, 0), none),
  (118, .iadd, 1, (0, 0, 0, 0), none),
  (119, .putfield 585, 3, (23, 25, 0, 0), none),
  (122, .return_, 1, (0, 0, 0, 0), none)]
def cd_X13_isTrack : List sm_E := [(0, .iload_n 0, 1, (0, 0, 0, 0), none),
  (1, .ifCond .lt 13, 3, (0, 0, 0, 0), none),
  (4, .iload_n 0, 1, (0, 0, 0, 0), none),
  (5, .bipush 8, 2, (0, 0, 0, 0), none),
  (7, .if_icmp .ge 7, 3, (0, 0, 0, 0), none),
  (10, .iconst 1, 1, (0, 0, 0, 0), none),
  (11, .goto 4, 3, (0, 0, 0, 0), none),
  (14, .iconst 0, 1, (0, 0, 0, 0), none),
  (15, .ireturn, 1, (1, 0, 0, 0), none)]
def cd_X13_takes : List sm_E := [(0, .aload_n 0, 1, (0, 0, 0, 0), none),
  (1, .iload_n 2, 1, (0, 0, 0, 0), none),
  (2, .bipush 18, 2, (0, 0, 0, 0), none),
  (4, .aload_n 0, 1, (0, 0, 0, 0), none),
  (5, .getfield 591, 3, (23, 58, 90, 0), none),
  (8, .iload_n 1, 1, (0, 0, 0, 0), none),
  (9, .iaload, 1, (90, 8, 0, 0), none),
  (10, .iadd, 1, (0, 0, 0, 0), none),
  (11, .invokevirtual 553, 3, (248, 3, 1, 23), none),
  (14, .ireturn, 1, (1, 0, 0, 0), none)]
def cd_X13_five_ : List sm_E := [(0, .iload_n 1, 1, (0, 0, 0, 0), none),
  (1, .bipush 12, 2, (0, 0, 0, 0), none),
  (3, .isub, 1, (0, 0, 0, 0), none),
  (4, .tableswitch 231 0 3 #[32, 61, 131, 183], 32, (0, 0, 0, 0), none),
  (36, .aload_n 0, 1, (0, 0, 0, 0), none),
  (37, .invokevirtual 534, 3, (254, 1, 1, 23), none),
  (40, .istore_n 3, 1, (0, 0, 0, 0), none),
  (41, .aload_n 0, 1, (0, 0, 0, 0), none),
  (42, .iload_n 3, 1, (0, 0, 0, 0), none),
  (43, .invokestatic 594, 3, (268, 1, 1, 0), none),
  (46, .ifCond .eq 12, 3, (0, 0, 0, 0), none),
  (49, .aload_n 0, 1, (0, 0, 0, 0), none),
  (50, .getfield 597, 3, (23, 59, 91, 0), none),
  (53, .iload_n 3, 1, (0, 0, 0, 0), none),
  (54, .iaload, 1, (91, 8, 0, 0), none),
  (55, .goto 4, 3, (0, 0, 0, 0), none),
  (58, .iconst 0, 1, (0, 0, 0, 0), none),
  (59, .invokevirtual 514, 3, (253, 2, 0, 23), none),
  (62, .goto 181, 3, (0, 0, 0, 0), none),
  (65, .aload_n 0, 1, (0, 0, 0, 0), none),
  (66, .invokevirtual 534, 3, (254, 1, 1, 23), none),
  (69, .istore_n 3, 1, (0, 0, 0, 0), none),
  (70, .aload_n 0, 1, (0, 0, 0, 0), none),
  (71, .invokevirtual 534, 3, (254, 1, 1, 23), none),
  (74, .istore 4, 2, (0, 0, 0, 0), none),
  (76, .iload 4, 2, (0, 0, 0, 0), none),
  (78, .invokestatic 594, 3, (268, 1, 1, 0), none),
  (81, .ifCond .eq 21, 3, (0, 0, 0, 0), none),
  (84, .iload_n 3, 1, (0, 0, 0, 0), none),
  (85, .ifCond .eq 13, 3, (0, 0, 0, 0), none),
  (88, .aload_n 0, 1, (0, 0, 0, 0), none),
  (89, .iload 4, 2, (0, 0, 0, 0), none),
  (91, .iload_n 3, 1, (0, 0, 0, 0), none),
  (92, .invokevirtual 600, 3, (269, 3, 1, 23), none),
  (95, .ifCond .eq 7, 3, (0, 0, 0, 0), none),
  (98, .iconst 1, 1, (0, 0, 0, 0), none),
  (99, .goto 4, 3, (0, 0, 0, 0), none),
  (102, .iconst 0, 1, (0, 0, 0, 0), none),
  (103, .istore 5, 2, (0, 0, 0, 0), some [0, 3, 4]),
  (105, .iload 5, 2, (0, 0, 0, 0), none),
  (107, .ifCond .eq 11, 3, (0, 0, 0, 0), none),
  (110, .aload_n 0, 1, (0, 0, 0, 0), none),
  (111, .getfield 597, 3, (23, 59, 91, 0), none),
  (114, .iload 4, 2, (0, 0, 0, 0), none),
  (116, .iload_n 3, 1, (0, 0, 0, 0), none),
  (117, .iastore, 1, (91, 8, 0, 0), none),
  (118, .aload_n 0, 1, (0, 0, 0, 0), some [0, 5]),
  (119, .iload 5, 2, (0, 0, 0, 0), none),
  (121, .ifCond .eq 7, 3, (0, 0, 0, 0), none),
  (124, .iconst 1, 1, (0, 0, 0, 0), none),
  (125, .goto 4, 3, (0, 0, 0, 0), none),
  (128, .iconst 0, 1, (0, 0, 0, 0), none),
  (129, .invokevirtual 514, 3, (253, 2, 0, 23), none),
  (132, .goto 111, 3, (0, 0, 0, 0), none),
  (135, .aload_n 0, 1, (0, 0, 0, 0), none),
  (136, .invokevirtual 534, 3, (254, 1, 1, 23), none),
  (139, .istore_n 3, 1, (0, 0, 0, 0), none),
  (140, .aload_n 0, 1, (0, 0, 0, 0), none),
  (141, .invokevirtual 534, 3, (254, 1, 1, 23), none),
  (144, .istore 4, 2, (0, 0, 0, 0), none),
  (146, .iload 4, 2, (0, 0, 0, 0), none),
  (148, .ifCond .eq 7, 3, (0, 0, 0, 0), none),
  (151, .iload_n 3, 1, (0, 0, 0, 0), none),
  (152, .ifCond .ne 13, 3, (0, 0, 0, 0), none),
  (155, .aload_n 0, 1, (0, 0, 0, 0), none),
  (156, .iconst 1, 1, (0, 0, 0, 0), none),
  (157, .iconst 0, 1, (0, 0, 0, 0), none),
  (158, .iload_n 2, 1, (0, 0, 0, 0), none),
  (159, .invokevirtual 543, 3, (256, 4, 0, 23), none),
  (162, .goto 81, 3, (0, 0, 0, 0), none),
  (165, .aload_n 0, 1, (0, 0, 0, 0), none),
  (166, .aload_n 0, 1, (0, 0, 0, 0), none),
  (167, .iload 4, 2, (0, 0, 0, 0), none),
  (169, .sipush 1001, 3, (0, 0, 0, 0), none),
  (172, .isub, 1, (0, 0, 0, 0), none),
  (173, .iload_n 3, 1, (0, 0, 0, 0), none),
  (174, .sipush 1001, 3, (0, 0, 0, 0), none),
  (177, .isub, 1, (0, 0, 0, 0), none),
  (178, .invokevirtual 603, 3, (271, 3, 1, 23), none),
  (181, .invokevirtual 514, 3, (253, 2, 0, 23), none),
  (184, .goto 59, 3, (0, 0, 0, 0), none),
  (187, .aload_n 0, 1, (0, 0, 0, 0), none),
  (188, .invokevirtual 534, 3, (254, 1, 1, 23), none),
  (191, .istore_n 3, 1, (0, 0, 0, 0), none),
  (192, .aload_n 0, 1, (0, 0, 0, 0), none),
  (193, .invokevirtual 534, 3, (254, 1, 1, 23), none),
  (196, .istore 4, 2, (0, 0, 0, 0), none),
  (198, .aload_n 0, 1, (0, 0, 0, 0), none),
  (199, .invokevirtual 534, 3, (254, 1, 1, 23), none),
  (202, .istore 5, 2, (0, 0, 0, 0), none),
  (204, .iload 5, 2, (0, 0, 0, 0), none),
  (206, .ifCond .ne 13, 3, (0, 0, 0, 0), none),
  (209, .aload_n 0, 1, (0, 0, 0, 0), none),
  (210, .iconst 1, 1, (0, 0, 0, 0), none),
  (211, .iconst 0, 1, (0, 0, 0, 0), none),
  (212, .iload_n 2, 1, (0, 0, 0, 0), none),
  (213, .invokevirtual 543, 3, (256, 4, 0, 23), none),
  (216, .goto 27, 3, (0, 0, 0, 0), none),
  (219, .aload_n 0, 1, (0, 0, 0, 0), none),
  (220, .aload_n 0, 1, (0, 0, 0, 0), none),
  (221, .iload 5, 2, (0, 0, 0, 0), none),
  (223, .iload 4, 2, (0, 0, 0, 0), none),
  (225, .iload_n 3, 1, (0, 0, 0, 0), none),
  (226, .invokevirtual 605, 3, (272, 4, 1, 23), none),
  (229, .invokevirtual 514, 3, (253, 2, 0, 23), none),
  (232, .goto 11, 3, (0, 0, 0, 0), none),
  (235, .aload_n 0, 1, (0, 0, 0, 0), none),
  (236, .aload_n 0, 1, (0, 0, 0, 0), none),
  (237, .getfield 607, 3, (23, 61, 0, 0), none),
  (240, .invokevirtual 514, 3, (253, 2, 0, 23), none),
  (243, .return_, 1, (0, 0, 0, 0), none)]
def cd_X13_hump : List sm_E := [(0, .iconst 0, 1, (0, 0, 0, 0), none),
  (1, .istore_n 3, 1, (0, 0, 0, 0), none),
  (2, .iconst 0, 1, (0, 0, 0, 0), none),
  (3, .istore 4, 2, (0, 0, 0, 0), none),
  (5, .iload 4, 2, (0, 0, 0, 0), some [0, 1, 2, 3, 4]),
  (7, .aload_n 0, 1, (0, 0, 0, 0), none),
  (8, .getfield 550, 3, (23, 33, 78, 0), none),
  (11, .iload_n 1, 1, (0, 0, 0, 0), none),
  (12, .iaload, 1, (78, 200, 0, 0), none),
  (13, .if_icmp .ge 135, 3, (0, 0, 0, 0), none),
  (16, .iload_n 1, 1, (0, 0, 0, 0), none),
  (17, .iload_n 2, 1, (0, 0, 0, 0), none),
  (18, .if_icmp .eq 130, 3, (0, 0, 0, 0), none),
  (21, .aload_n 0, 1, (0, 0, 0, 0), none),
  (22, .getfield 576, 3, (23, 34, 79, 0), none),
  (25, .aload_n 0, 1, (0, 0, 0, 0), none),
  (26, .getfield 579, 3, (23, 32, 77, 0), none),
  (29, .iload_n 1, 1, (0, 0, 0, 0), none),
  (30, .iaload, 1, (77, 200, 0, 0), none),
  (31, .iload 4, 2, (0, 0, 0, 0), none),
  (33, .iadd, 1, (0, 0, 0, 0), none),
  (34, .iaload, 1, (79, 2000, 0, 0), none),
  (35, .istore 5, 2, (0, 0, 0, 0), none),
  (37, .iconst 0, 1, (0, 0, 0, 0), none),
  (38, .istore 6, 2, (0, 0, 0, 0), none),
  (40, .iload 6, 2, (0, 0, 0, 0), some [0, 1, 2, 3, 4, 5, 6]),
  (42, .aload_n 0, 1, (0, 0, 0, 0), none),
  (43, .getfield 550, 3, (23, 33, 78, 0), none),
  (46, .iload_n 2, 1, (0, 0, 0, 0), none),
  (47, .iaload, 1, (78, 200, 0, 0), none),
  (48, .if_icmp .ge 26, 3, (0, 0, 0, 0), none),
  (51, .aload_n 0, 1, (0, 0, 0, 0), none),
  (52, .getfield 576, 3, (23, 34, 79, 0), none),
  (55, .aload_n 0, 1, (0, 0, 0, 0), none),
  (56, .getfield 579, 3, (23, 32, 77, 0), none),
  (59, .iload_n 2, 1, (0, 0, 0, 0), none),
  (60, .iaload, 1, (77, 200, 0, 0), none),
  (61, .iload 6, 2, (0, 0, 0, 0), none),
  (63, .iadd, 1, (0, 0, 0, 0), none),
  (64, .iaload, 1, (79, 2000, 0, 0), none),
  (65, .ifCond .eq 9, 3, (0, 0, 0, 0), none),
  (68, .iinc 6 1, 3, (0, 0, 0, 0), none),
  (71, .goto (-31), 3, (0, 0, 0, 0), none),
  (74, .iload 5, 2, (0, 0, 0, 0), some [0, 1, 2, 3, 4, 5, 6]),
  (76, .ifCond .eq 66, 3, (0, 0, 0, 0), none),
  (79, .iload 6, 2, (0, 0, 0, 0), none),
  (81, .aload_n 0, 1, (0, 0, 0, 0), none),
  (82, .getfield 550, 3, (23, 33, 78, 0), none),
  (85, .iload_n 2, 1, (0, 0, 0, 0), none),
  (86, .iaload, 1, (78, 200, 0, 0), none),
  (87, .if_icmp .eq 55, 3, (0, 0, 0, 0), none),
  (90, .aload_n 0, 1, (0, 0, 0, 0), none),
  (91, .iload 5, 2, (0, 0, 0, 0), none),
  (93, .aload_n 0, 1, (0, 0, 0, 0), none),
  (94, .getfield 434, 3, (23, 31, 76, 0), none),
  (97, .iload_n 2, 1, (0, 0, 0, 0), none),
  (98, .iaload, 1, (76, 200, 0, 0), none),
  (99, .invokevirtual 553, 3, (248, 3, 1, 23), none),
  (102, .ifCond .ne 6, 3, (0, 0, 0, 0), none),
  (105, .goto 37, 3, (0, 0, 0, 0), none),
  (108, .aload_n 0, 1, (0, 0, 0, 0), none),
  (109, .getfield 576, 3, (23, 34, 79, 0), none),
  (112, .aload_n 0, 1, (0, 0, 0, 0), none),
  (113, .getfield 579, 3, (23, 32, 77, 0), none),
  (116, .iload_n 2, 1, (0, 0, 0, 0), none),
  (117, .iaload, 1, (77, 200, 0, 0), none),
  (118, .iload 6, 2, (0, 0, 0, 0), none),
  (120, .iadd, 1, (0, 0, 0, 0), none),
  (121, .iload 5, 2, (0, 0, 0, 0), none),
  (123, .iastore, 1, (79, 2000, 0, 0), none),
  (124, .aload_n 0, 1, (0, 0, 0, 0), none),
  (125, .getfield 576, 3, (23, 34, 79, 0), none),
  (128, .aload_n 0, 1, (0, 0, 0, 0), none),
  (129, .getfield 579, 3, (23, 32, 77, 0), none),
  (132, .iload_n 1, 1, (0, 0, 0, 0), none),
  (133, .iaload, 1, (77, 200, 0, 0), none),
  (134, .iload 4, 2, (0, 0, 0, 0), none),
  (136, .iadd, 1, (0, 0, 0, 0), none),
  (137, .iconst 0, 1, (0, 0, 0, 0), none),
  (138, .iastore, 1, (79, 2000, 0, 0), none),
  (139, .iinc 3 1, 3, (0, 0, 0, 0), none),
  (142, .iinc 4 1, 3, (0, 0, 0, 0), none),
  (145, .goto (-140), 3, (0, 0, 0, 0), none),
  (148, .iload_n 3, 1, (0, 0, 0, 0), none),
  (149, .ireturn, 1, (0, 0, 0, 0), none)]
def cd_X13_send : List sm_E := [(0, .iload_n 2, 1, (0, 0, 0, 0), none),
  (1, .invokestatic 594, 3, (268, 1, 1, 0), none),
  (4, .ifCond .eq 24, 3, (0, 0, 0, 0), none),
  (7, .iload_n 3, 1, (0, 0, 0, 0), none),
  (8, .iconst 1, 1, (0, 0, 0, 0), none),
  (9, .if_icmp .lt 19, 3, (0, 0, 0, 0), none),
  (12, .iload_n 3, 1, (0, 0, 0, 0), none),
  (13, .sipush 1000, 3, (0, 0, 0, 0), none),
  (16, .if_icmp .gt 12, 3, (0, 0, 0, 0), none),
  (19, .aload_n 0, 1, (0, 0, 0, 0), none),
  (20, .getfield 610, 3, (23, 60, 0, 0), none),
  (23, .bipush 10, 2, (0, 0, 0, 0), none),
  (25, .if_icmp .ne 5, 3, (0, 0, 0, 0), none),
  (28, .iconst (-1), 1, (0, 0, 0, 0), none),
  (29, .ireturn, 1, (0, 0, 0, 0), none),
  (30, .aload_n 0, 1, (0, 0, 0, 0), none),
  (31, .getfield 613, 3, (23, 62, 92, 0), none),
  (34, .aload_n 0, 1, (0, 0, 0, 0), none),
  (35, .getfield 610, 3, (23, 60, 0, 0), none),
  (38, .iload_n 1, 1, (0, 0, 0, 0), none),
  (39, .iastore, 1, (92, 10, 0, 0), none),
  (40, .aload_n 0, 1, (0, 0, 0, 0), none),
  (41, .getfield 616, 3, (23, 63, 93, 0), none),
  (44, .aload_n 0, 1, (0, 0, 0, 0), none),
  (45, .getfield 610, 3, (23, 60, 0, 0), none),
  (48, .iload_n 2, 1, (0, 0, 0, 0), none),
  (49, .iastore, 1, (93, 10, 0, 0), none),
  (50, .aload_n 0, 1, (0, 0, 0, 0), none),
  (51, .getfield 619, 3, (23, 64, 94, 0), none),
  (54, .aload_n 0, 1, (0, 0, 0, 0), none),
  (55, .getfield 610, 3, (23, 60, 0, 0), none),
  (58, .iload_n 3, 1, (0, 0, 0, 0), none),
  (59, .iastore, 1, (94, 10, 0, 0), none),
  (60, .aload_n 0, 1, (0, 0, 0, 0), none),
  (61, .getfield 622, 3, (23, 65, 95, 0), none),
  (64, .aload_n 0, 1, (0, 0, 0, 0), none),
  (65, .getfield 610, 3, (23, 60, 0, 0), none),
  (68, .iconst 0, 1, (0, 0, 0, 0), none),
  (69, .iastore, 1, (95, 10, 0, 0), none),
  (70, .aload_n 0, 1, (0, 0, 0, 0), none),
  (71, .getfield 625, 3, (23, 66, 96, 0), none),
  (74, .aload_n 0, 1, (0, 0, 0, 0), none),
  (75, .getfield 610, 3, (23, 60, 0, 0), none),
  (78, .iconst 0, 1, (0, 0, 0, 0), none),
  (79, .iastore, 1, (96, 10, 0, 0), none),
  (80, .aload_n 0, 1, (0, 0, 0, 0), none),
  (81, .dup, 1, (0, 0, 0, 0), none),
  (82, .getfield 610, 3, (23, 60, 0, 0), none),
  (85, .iconst 1, 1, (0, 0, 0, 0), none),
  (86, .iadd, 1, (0, 0, 0, 0), none),
  (87, .putfield 610, 3, (23, 60, 0, 0), none),
  (90, .aload_n 0, 1, (0, 0, 0, 0), none),
  (91, .getfield 610, 3, (23, 60, 0, 0), none),
  (94, .iconst 1, 1, (0, 0, 0, 0), none),
  (95, .isub, 1, (0, 0, 0, 0), none),
  (96, .ireturn, 1, (0, 0, 0, 0), none)]
def cd_X13_massOf : List sm_E := [(0, .iconst 0, 1, (0, 0, 0, 0), none),
  (1, .istore_n 2, 1, (0, 0, 0, 0), none),
  (2, .iconst 0, 1, (0, 0, 0, 0), none),
  (3, .istore_n 3, 1, (0, 0, 0, 0), none),
  (4, .iload_n 3, 1, (0, 0, 0, 0), some [0, 1, 2, 3]),
  (5, .aload_n 0, 1, (0, 0, 0, 0), none),
  (6, .getfield 550, 3, (23, 33, 78, 0), none),
  (9, .iload_n 1, 1, (0, 0, 0, 0), none),
  (10, .iaload, 1, (78, 200, 0, 0), none),
  (11, .if_icmp .ge 45, 3, (0, 0, 0, 0), none),
  (14, .aload_n 0, 1, (0, 0, 0, 0), none),
  (15, .getfield 576, 3, (23, 34, 79, 0), none),
  (18, .aload_n 0, 1, (0, 0, 0, 0), none),
  (19, .getfield 579, 3, (23, 32, 77, 0), none),
  (22, .iload_n 1, 1, (0, 0, 0, 0), none),
  (23, .iaload, 1, (77, 200, 0, 0), none),
  (24, .iload_n 3, 1, (0, 0, 0, 0), none),
  (25, .iadd, 1, (0, 0, 0, 0), none),
  (26, .iaload, 1, (79, 2000, 0, 0), none),
  (27, .istore 4, 2, (0, 0, 0, 0), none),
  (29, .iload_n 2, 1, (0, 0, 0, 0), none),
  (30, .iload 4, 2, (0, 0, 0, 0), none),
  (32, .ifCond .ne 7, 3, (0, 0, 0, 0), none),
  (35, .iconst 0, 1, (0, 0, 0, 0), none),
  (36, .goto 12, 3, (0, 0, 0, 0), none),
  (39, .aload_n 0, 1, (0, 0, 0, 0), none),
  (40, .iload 4, 2, (0, 0, 0, 0), none),
  (42, .invokestatic 545, 3, (247, 1, 1, 0), none),
  (45, .invokevirtual 446, 3, (249, 2, 1, 23), none),
  (48, .iadd, 1, (0, 0, 0, 0), none),
  (49, .istore_n 2, 1, (0, 0, 0, 0), none),
  (50, .iinc 3 1, 3, (0, 0, 0, 0), none),
  (53, .goto (-49), 3, (0, 0, 0, 0), none),
  (56, .iload_n 2, 1, (0, 0, 0, 0), none),
  (57, .ireturn, 1, (0, 0, 0, 0), none)]
def cd_X13_speedOf : List sm_E := [(0, .aload_n 0, 1, (0, 0, 0, 0), none),
  (1, .iload_n 1, 1, (0, 0, 0, 0), none),
  (2, .invokevirtual 628, 3, (273, 2, 1, 23), none),
  (5, .istore_n 2, 1, (0, 0, 0, 0), none),
  (6, .iconst 0, 1, (0, 0, 0, 0), none),
  (7, .istore_n 3, 1, (0, 0, 0, 0), none),
  (8, .iconst 0, 1, (0, 0, 0, 0), none),
  (9, .istore 4, 2, (0, 0, 0, 0), none),
  (11, .iconst 0, 1, (0, 0, 0, 0), none),
  (12, .istore 5, 2, (0, 0, 0, 0), none),
  (14, .iload 5, 2, (0, 0, 0, 0), some [0, 1, 2, 3, 4, 5]),
  (16, .aload_n 0, 1, (0, 0, 0, 0), none),
  (17, .getfield 550, 3, (23, 33, 78, 0), none),
  (20, .iload_n 1, 1, (0, 0, 0, 0), none),
  (21, .iaload, 1, (78, 200, 0, 0), none),
  (22, .if_icmp .ge 69, 3, (0, 0, 0, 0), none),
  (25, .aload_n 0, 1, (0, 0, 0, 0), none),
  (26, .getfield 576, 3, (23, 34, 79, 0), none),
  (29, .aload_n 0, 1, (0, 0, 0, 0), none),
  (30, .getfield 579, 3, (23, 32, 77, 0), none),
  (33, .iload_n 1, 1, (0, 0, 0, 0), none),
  (34, .iaload, 1, (77, 200, 0, 0), none),
  (35, .iload 5, 2, (0, 0, 0, 0), none),
  (37, .iadd, 1, (0, 0, 0, 0), none),
  (38, .iaload, 1, (79, 2000, 0, 0), none),
  (39, .istore 6, 2, (0, 0, 0, 0), none),
  (41, .iload_n 3, 1, (0, 0, 0, 0), none),
  (42, .iload 6, 2, (0, 0, 0, 0), none),
  (44, .ifCond .ne 7, 3, (0, 0, 0, 0), none),
  (47, .iconst 0, 1, (0, 0, 0, 0), none),
  (48, .goto 12, 3, (0, 0, 0, 0), none),
  (51, .aload_n 0, 1, (0, 0, 0, 0), none),
  (52, .iload 6, 2, (0, 0, 0, 0), none),
  (54, .invokestatic 545, 3, (247, 1, 1, 0), none),
  (57, .invokevirtual 450, 3, (251, 2, 1, 23), none),
  (60, .iadd, 1, (0, 0, 0, 0), some [0, 1, 2, 4, 5, 6]),
  (61, .istore_n 3, 1, (0, 0, 0, 0), none),
  (62, .iload 4, 2, (0, 0, 0, 0), none),
  (64, .iload 6, 2, (0, 0, 0, 0), none),
  (66, .ifCond .ne 7, 3, (0, 0, 0, 0), none),
  (69, .iconst 0, 1, (0, 0, 0, 0), none),
  (70, .goto 12, 3, (0, 0, 0, 0), none),
  (73, .aload_n 0, 1, (0, 0, 0, 0), none),
  (74, .iload 6, 2, (0, 0, 0, 0), none),
  (76, .invokestatic 545, 3, (247, 1, 1, 0), none),
  (79, .invokevirtual 448, 3, (250, 2, 1, 23), none),
  (82, .iadd, 1, (0, 0, 0, 0), none),
  (83, .istore 4, 2, (0, 0, 0, 0), none),
  (85, .iinc 5 1, 3, (0, 0, 0, 0), none),
  (88, .goto (-74), 3, (0, 0, 0, 0), none),
  (91, .iload_n 2, 1, (0, 0, 0, 0), none),
  (92, .iconst 1, 1, (0, 0, 0, 0), none),
  (93, .if_icmp .ge 7, 3, (0, 0, 0, 0), none),
  (96, .iconst 0, 1, (0, 0, 0, 0), none),
  (97, .goto 6, 3, (0, 0, 0, 0), none),
  (100, .iload_n 3, 1, (0, 0, 0, 0), none),
  (101, .iload_n 2, 1, (0, 0, 0, 0), none),
  (102, .idiv, 1, (0, 0, 0, 0), none),
  (103, .istore 5, 2, (0, 0, 0, 0), some [4]),
  (105, .iload 4, 2, (0, 0, 0, 0), none),
  (107, .iconst 5, 1, (0, 0, 0, 0), none),
  (108, .idiv, 1, (0, 0, 0, 0), none),
  (109, .iconst 1, 1, (0, 0, 0, 0), none),
  (110, .iadd, 1, (0, 0, 0, 0), none),
  (111, .istore 6, 2, (0, 0, 0, 0), none),
  (113, .iload 5, 2, (0, 0, 0, 0), none),
  (115, .iload 6, 2, (0, 0, 0, 0), none),
  (117, .if_icmp .le 8, 3, (0, 0, 0, 0), none),
  (120, .iload 6, 2, (0, 0, 0, 0), none),
  (122, .goto 5, 3, (0, 0, 0, 0), none),
  (125, .iload 5, 2, (0, 0, 0, 0), none),
  (127, .istore 5, 2, (0, 0, 0, 0), none),
  (129, .iload 5, 2, (0, 0, 0, 0), none),
  (131, .ifCond .ge 7, 3, (0, 0, 0, 0), none),
  (134, .iconst 0, 1, (0, 0, 0, 0), none),
  (135, .goto 5, 3, (0, 0, 0, 0), none),
  (138, .iload 5, 2, (0, 0, 0, 0), none),
  (140, .ireturn, 1, (0, 0, 0, 0), none)]
def cd_X13_burns : List sm_E := [(0, .iconst 0, 1, (0, 0, 0, 0), none),
  (1, .istore_n 2, 1, (0, 0, 0, 0), none),
  (2, .iload_n 2, 1, (0, 0, 0, 0), some [0, 1, 2]),
  (3, .aload_n 0, 1, (0, 0, 0, 0), none),
  (4, .getfield 550, 3, (23, 33, 78, 0), none),
  (7, .iload_n 1, 1, (0, 0, 0, 0), none),
  (8, .iaload, 1, (78, 200, 0, 0), none),
  (9, .if_icmp .ge 95, 3, (0, 0, 0, 0), none),
  (12, .aload_n 0, 1, (0, 0, 0, 0), none),
  (13, .getfield 576, 3, (23, 34, 79, 0), none),
  (16, .aload_n 0, 1, (0, 0, 0, 0), none),
  (17, .getfield 579, 3, (23, 32, 77, 0), none),
  (20, .iload_n 1, 1, (0, 0, 0, 0), none),
  (21, .iaload, 1, (77, 200, 0, 0), none),
  (22, .iload_n 2, 1, (0, 0, 0, 0), none),
  (23, .iadd, 1, (0, 0, 0, 0), none),
  (24, .iaload, 1, (79, 2000, 0, 0), none),
  (25, .istore_n 3, 1, (0, 0, 0, 0), none),
  (26, .iload_n 3, 1, (0, 0, 0, 0), none),
  (27, .ifCond .eq 71, 3, (0, 0, 0, 0), none),
  (30, .aload_n 0, 1, (0, 0, 0, 0), none),
  (31, .getfield 437, 3, (23, 29, 74, 0), none),
  (34, .iload_n 3, 1, (0, 0, 0, 0), none),
  (35, .invokestatic 545, 3, (247, 1, 1, 0), none),
  (38, .iaload, 1, (74, 300, 0, 0), none),
  (39, .bipush 17, 2, (0, 0, 0, 0), none),
  (41, .invokestatic 3, 3, (182, 2, 1, 0), none),
  (44, .ifCond .ne 6, 3, (0, 0, 0, 0), none),
  (47, .goto 51, 3, (0, 0, 0, 0), none),
  (50, .bipush 9, 2, (0, 0, 0, 0), none),
  (52, .iload_n 3, 1, (0, 0, 0, 0), none),
  (53, .invokestatic 545, 3, (247, 1, 1, 0), none),
  (56, .imul, 1, (0, 0, 0, 0), none),
  (57, .bipush 8, 2, (0, 0, 0, 0), none),
  (59, .iadd, 1, (0, 0, 0, 0), none),
  (60, .istore 4, 2, (0, 0, 0, 0), none),
  (62, .aload_n 0, 1, (0, 0, 0, 0), none),
  (63, .getfield 443, 3, (23, 30, 75, 0), none),
  (66, .iload 4, 2, (0, 0, 0, 0), none),
  (68, .aload_n 0, 1, (0, 0, 0, 0), none),
  (69, .getfield 443, 3, (23, 30, 75, 0), none),
  (72, .iload 4, 2, (0, 0, 0, 0), none),
  (74, .iaload, 1, (75, 2700, 0, 0), none),
  (75, .ifCond .le 15, 3, (0, 0, 0, 0), none),
  (78, .aload_n 0, 1, (0, 0, 0, 0), none),
  (79, .getfield 443, 3, (23, 30, 75, 0), none),
  (82, .iload 4, 2, (0, 0, 0, 0), none),
  (84, .iaload, 1, (75, 2700, 0, 0), none),
  (85, .iconst 1, 1, (0, 0, 0, 0), none),
  (86, .isub, 1, (0, 0, 0, 0), none),
  (87, .goto 10, 3, (0, 0, 0, 0), none),
  (90, .aload_n 0, 1, (0, 0, 0, 0), none),
  (91, .getfield 443, 3, (23, 30, 75, 0), none),
  (94, .iload 4, 2, (0, 0, 0, 0), none),
  (96, .iaload, 1, (75, 2700, 0, 0), none),
  (97, .iastore, 1, (75, 2700, 0, 0), none),
  (98, .iinc 2 1, 3, (0, 0, 0, 0), none),
  (101, .goto (-99), 3, (0, 0, 0, 0), none),
  (104, .return_, 1, (0, 0, 0, 0), none)]
def cd_X13_goes : List sm_E := [(0, .aload_n 0, 1, (0, 0, 0, 0), none),
  (1, .getfield 613, 3, (23, 62, 92, 0), none),
  (4, .iload_n 1, 1, (0, 0, 0, 0), none),
  (5, .iaload, 1, (92, 10, 0, 0), none),
  (6, .sipush 1001, 3, (0, 0, 0, 0), none),
  (9, .isub, 1, (0, 0, 0, 0), none),
  (10, .istore_n 2, 1, (0, 0, 0, 0), none),
  (11, .aload_n 0, 1, (0, 0, 0, 0), none),
  (12, .iload_n 2, 1, (0, 0, 0, 0), none),
  (13, .invokevirtual 631, 3, (274, 2, 1, 23), none),
  (16, .istore_n 3, 1, (0, 0, 0, 0), none),
  (17, .aload_n 0, 1, (0, 0, 0, 0), none),
  (18, .getfield 625, 3, (23, 66, 96, 0), none),
  (21, .iload_n 1, 1, (0, 0, 0, 0), none),
  (22, .iload_n 3, 1, (0, 0, 0, 0), none),
  (23, .iastore, 1, (96, 10, 0, 0), none),
  (24, .aload_n 0, 1, (0, 0, 0, 0), none),
  (25, .getfield 619, 3, (23, 64, 94, 0), none),
  (28, .iload_n 1, 1, (0, 0, 0, 0), none),
  (29, .dup2, 1, (0, 0, 0, 0), none),
  (30, .iaload, 1, (94, 10, 0, 0), none),
  (31, .iload_n 3, 1, (0, 0, 0, 0), none),
  (32, .isub, 1, (0, 0, 0, 0), none),
  (33, .iastore, 1, (94, 10, 0, 0), none),
  (34, .iload_n 3, 1, (0, 0, 0, 0), none),
  (35, .ifCond .le 8, 3, (0, 0, 0, 0), none),
  (38, .aload_n 0, 1, (0, 0, 0, 0), none),
  (39, .iload_n 2, 1, (0, 0, 0, 0), none),
  (40, .invokevirtual 634, 3, (275, 2, 0, 23), none),
  (43, .aload_n 0, 1, (0, 0, 0, 0), some [0, 1]),
  (44, .getfield 619, 3, (23, 64, 94, 0), none),
  (47, .iload_n 1, 1, (0, 0, 0, 0), none),
  (48, .iaload, 1, (94, 10, 0, 0), none),
  (49, .ifCond .le 5, 3, (0, 0, 0, 0), none),
  (52, .iconst 0, 1, (0, 0, 0, 0), none),
  (53, .ireturn, 1, (1, 0, 0, 0), none),
  (54, .aload_n 0, 1, (0, 0, 0, 0), none),
  (55, .getfield 619, 3, (23, 64, 94, 0), none),
  (58, .iload_n 1, 1, (0, 0, 0, 0), none),
  (59, .iconst 0, 1, (0, 0, 0, 0), none),
  (60, .iastore, 1, (94, 10, 0, 0), none),
  (61, .aload_n 0, 1, (0, 0, 0, 0), none),
  (62, .aload_n 0, 1, (0, 0, 0, 0), none),
  (63, .getfield 616, 3, (23, 63, 93, 0), none),
  (66, .iload_n 1, 1, (0, 0, 0, 0), none),
  (67, .iaload, 1, (93, 10, 0, 0), none),
  (68, .aload_n 0, 1, (0, 0, 0, 0), none),
  (69, .getfield 613, 3, (23, 62, 92, 0), none),
  (72, .iload_n 1, 1, (0, 0, 0, 0), none),
  (73, .iaload, 1, (92, 10, 0, 0), none),
  (74, .invokevirtual 600, 3, (269, 3, 1, 23), none),
  (77, .istore 4, 2, (0, 0, 0, 0), none),
  (79, .aload_n 0, 1, (0, 0, 0, 0), none),
  (80, .getfield 622, 3, (23, 65, 95, 0), none),
  (83, .iload_n 1, 1, (0, 0, 0, 0), none),
  (84, .iload 4, 2, (0, 0, 0, 0), none),
  (86, .ifCond .eq 7, 3, (0, 0, 0, 0), none),
  (89, .iconst 1, 1, (0, 0, 0, 0), none),
  (90, .goto 4, 3, (0, 0, 0, 0), none),
  (93, .iconst 2, 1, (0, 0, 0, 0), none),
  (94, .iastore, 1, (95, 10, 0, 0), some [0, 1, 4]),
  (95, .iload 4, 2, (0, 0, 0, 0), none),
  (97, .ifCond .eq 20, 3, (0, 0, 0, 0), none),
  (100, .aload_n 0, 1, (0, 0, 0, 0), none),
  (101, .getfield 597, 3, (23, 59, 91, 0), none),
  (104, .aload_n 0, 1, (0, 0, 0, 0), none),
  (105, .getfield 616, 3, (23, 63, 93, 0), none),
  (108, .iload_n 1, 1, (0, 0, 0, 0), none),
  (109, .iaload, 1, (93, 10, 0, 0), none),
  (110, .aload_n 0, 1, (0, 0, 0, 0), none),
  (111, .getfield 613, 3, (23, 62, 92, 0), none),
  (114, .iload_n 1, 1, (0, 0, 0, 0), none),
  (115, .iaload, 1, (92, 10, 0, 0), none),
  (116, .iastore, 1, (91, 8, 0, 0), none),
  (117, .iconst 1, 1, (0, 0, 0, 0), none),
  (118, .ireturn, 1, (1, 0, 0, 0), none)]
def cd_X13_init : List sm_E := [(0, .aload_n 0, 1, (0, 0, 0, 0), none),
  (1, .invokespecial 637, 3, (0, 0, 0, 1002), none),
  (4, .aload_n 0, 1, (0, 0, 0, 0), none),
  (5, .sipush 3000, 3, (0, 0, 0, 0), none),
  (8, .newarray .byte, 2, (67, 3000, 0, 0), none),
  (10, .putfield 25, 3, (23, 0, 67, 0), none),
  (13, .aload_n 0, 1, (0, 0, 0, 0), none),
  (14, .sipush 803, 3, (0, 0, 0, 0), none),
  (17, .newarray .int, 2, (68, 803, 0, 0), none),
  (19, .putfield 129, 3, (23, 2, 68, 0), none),
  (22, .aload_n 0, 1, (0, 0, 0, 0), none),
  (23, .sipush 803, 3, (0, 0, 0, 0), none),
  (26, .newarray .int, 2, (69, 803, 0, 0), none),
  (28, .putfield 122, 3, (23, 3, 69, 0), none),
  (31, .aload_n 0, 1, (0, 0, 0, 0), none),
  (32, .sipush 803, 3, (0, 0, 0, 0), none),
  (35, .newarray .long, 2, (70, 803, 0, 0), none),
  (37, .putfield 132, 3, (23, 4, 70, 0), none),
  (40, .aload_n 0, 1, (0, 0, 0, 0), none),
  (41, .new 200, 3, (22, 11, 0, 0), none),
  (44, .dup, 1, (0, 0, 0, 0), none),
  (45, .invokespecial 642, 3, (180, 1, 0, 22), none),
  (48, .putfield 461, 3, (23, 6, 2, 0), none),
  (51, .aload_n 0, 1, (0, 0, 0, 0), none),
  (52, .new 200, 3, (22, 11, 0, 0), none),
  (55, .dup, 1, (0, 0, 0, 0), none),
  (56, .invokespecial 642, 3, (180, 1, 0, 22), none),
  (59, .putfield 195, 3, (23, 7, 2, 0), none),
  (62, .aload_n 0, 1, (0, 0, 0, 0), none),
  (63, .new 643, 3, (24, 6, 0, 0), none),
  (66, .dup, 1, (0, 0, 0, 0), none),
  (67, .ldc_w 645, 3, (1, 5, 0, 0), none),
  (70, .invokespecial 646, 3, (0, 0, 0, 1001), none),
  (73, .putfield 174, 3, (23, 8, 24, 0), none),
  (76, .aload_n 0, 1, (0, 0, 0, 0), none),
  (77, .iconst (-1), 1, (0, 0, 0, 0), none),
  (78, .putfield 171, 3, (23, 10, 0, 0), none),
  (81, .aload_n 0, 1, (0, 0, 0, 0), none),
  (82, .bipush 24, 2, (0, 0, 0, 0), none),
  (84, .newarray .long, 2, (71, 24, 0, 0), none),
  (86, .putfield 290, 3, (23, 17, 71, 0), none),
  (89, .aload_n 0, 1, (0, 0, 0, 0), none),
  (90, .bipush 24, 2, (0, 0, 0, 0), none),
  (92, .newarray .int, 2, (72, 24, 0, 0), none),
  (94, .putfield 293, 3, (23, 18, 72, 0), none),
  (97, .aload_n 0, 1, (0, 0, 0, 0), none),
  (98, .bipush 24, 2, (0, 0, 0, 0), none),
  (100, .newarray .int, 2, (73, 24, 0, 0), none),
  (102, .putfield 296, 3, (23, 19, 73, 0), none),
  (105, .aload_n 0, 1, (0, 0, 0, 0), none),
  (106, .sipush 300, 3, (0, 0, 0, 0), none),
  (109, .newarray .int, 2, (74, 300, 0, 0), none),
  (111, .putfield 437, 3, (23, 29, 74, 0), none),
  (114, .aload_n 0, 1, (0, 0, 0, 0), none),
  (115, .sipush 2700, 3, (0, 0, 0, 0), none),
  (118, .newarray .int, 2, (75, 2700, 0, 0), none),
  (120, .putfield 443, 3, (23, 30, 75, 0), none),
  (123, .aload_n 0, 1, (0, 0, 0, 0), none),
  (124, .sipush 200, 3, (0, 0, 0, 0), none),
  (127, .newarray .int, 2, (76, 200, 0, 0), none),
  (129, .putfield 434, 3, (23, 31, 76, 0), none),
  (132, .aload_n 0, 1, (0, 0, 0, 0), none),
  (133, .sipush 200, 3, (0, 0, 0, 0), none),
  (136, .newarray .int, 2, (77, 200, 0, 0), none),
  (138, .putfield 579, 3, (23, 32, 77, 0), none),
  (141, .aload_n 0, 1, (0, 0, 0, 0), none),
  (142, .sipush 200, 3, (0, 0, 0, 0), none),
  (145, .newarray .int, 2, (78, 200, 0, 0), none),
  (147, .putfield 550, 3, (23, 33, 78, 0), none),
  (150, .aload_n 0, 1, (0, 0, 0, 0), none),
  (151, .sipush 2000, 3, (0, 0, 0, 0), none),
  (154, .newarray .int, 2, (79, 2000, 0, 0), none),
  (156, .putfield 576, 3, (23, 34, 79, 0), none),
  (159, .aload_n 0, 1, (0, 0, 0, 0), none),
  (160, .sipush 300, 3, (0, 0, 0, 0), none),
  (163, .newarray .int, 2, (80, 300, 0, 0), none),
  (165, .putfield 573, 3, (23, 35, 80, 0), none),
  (168, .aload_n 0, 1, (0, 0, 0, 0), none),
  (169, .sipush 4000, 3, (0, 0, 0, 0), none),
  (172, .newarray .int, 2, (81, 4000, 0, 0), none),
  (174, .putfield 452, 3, (23, 36, 81, 0), none),
  (177, .aload_n 0, 1, (0, 0, 0, 0), none),
  (178, .sipush 360, 3, (0, 0, 0, 0), none),
  (181, .newarray .int, 2, (82, 360, 0, 0), none),
  (183, .putfield 493, 3, (23, 38, 82, 0), none),
  (186, .aload_n 0, 1, (0, 0, 0, 0), none),
  (187, .bipush 15, 2, (0, 0, 0, 0), none),
  (189, .newarray .int, 2, (83, 15, 0, 0), none),
  (191, .putfield 511, 3, (23, 40, 83, 0), none),
  (194, .aload_n 0, 1, (0, 0, 0, 0), none),
  (195, .bipush 15, 2, (0, 0, 0, 0), none),
  (197, .newarray .int, 2, (84, 15, 0, 0), none),
  (199, .putfield 517, 3, (23, 41, 84, 0), none),
  (202, .aload_n 0, 1, (0, 0, 0, 0), none),
  (203, .bipush 15, 2, (0, 0, 0, 0), none),
  (205, .newarray .int, 2, (85, 15, 0, 0), none),
  (207, .putfield 505, 3, (23, 42, 85, 0), none),
  (210, .aload_n 0, 1, (0, 0, 0, 0), none),
  (211, .sipush 200, 3, (0, 0, 0, 0), none),
  (214, .newarray .int, 2, (86, 200, 0, 0), none),
  (216, .putfield 499, 3, (23, 43, 86, 0), none),
  (219, .aload_n 0, 1, (0, 0, 0, 0), none),
  (220, .sipush 200, 3, (0, 0, 0, 0), none),
  (223, .newarray .int, 2, (87, 200, 0, 0), none),
  (225, .putfield 484, 3, (23, 44, 87, 0), none),
  (228, .aload_n 0, 1, (0, 0, 0, 0), none),
  (229, .sipush 200, 3, (0, 0, 0, 0), none),
  (232, .newarray .int, 2, (88, 200, 0, 0), none),
  (234, .putfield 490, 3, (23, 45, 88, 0), none),
  (237, .aload_n 0, 1, (0, 0, 0, 0), none),
  (238, .sipush 200, 3, (0, 0, 0, 0), none),
  (241, .newarray .int, 2, (89, 200, 0, 0), none),
  (243, .putfield 496, 3, (23, 46, 89, 0), none),
  (246, .aload_n 0, 1, (0, 0, 0, 0), none),
  (247, .iconst (-1), 1, (0, 0, 0, 0), none),
  (248, .putfield 458, 3, (23, 50, 0, 0), none),
  (251, .aload_n 0, 1, (0, 0, 0, 0), none),
  (252, .iconst (-1), 1, (0, 0, 0, 0), none),
  (253, .putfield 649, 3, (23, 54, 0, 0), none),
  (256, .aload_n 0, 1, (0, 0, 0, 0), none),
  (257, .iconst (-1), 1, (0, 0, 0, 0), none),
  (258, .putfield 652, 3, (23, 55, 0, 0), none),
  (261, .aload_n 0, 1, (0, 0, 0, 0), none),
  (262, .bipush 8, 2, (0, 0, 0, 0), none),
  (264, .newarray .int, 2, (90, 8, 0, 0), none),
  (266, .putfield 591, 3, (23, 58, 90, 0), none),
  (269, .aload_n 0, 1, (0, 0, 0, 0), none),
  (270, .bipush 8, 2, (0, 0, 0, 0), none),
  (272, .newarray .int, 2, (91, 8, 0, 0), none),
  (274, .putfield 597, 3, (23, 59, 91, 0), none),
  (277, .aload_n 0, 1, (0, 0, 0, 0), none),
  (278, .bipush 10, 2, (0, 0, 0, 0), none),
  (280, .newarray .int, 2, (92, 10, 0, 0), none),
  (282, .putfield 613, 3, (23, 62, 92, 0), none),
  (285, .aload_n 0, 1, (0, 0, 0, 0), none),
  (286, .bipush 10, 2, (0, 0, 0, 0), none),
  (288, .newarray .int, 2, (93, 10, 0, 0), none),
  (290, .putfield 616, 3, (23, 63, 93, 0), none),
  (293, .aload_n 0, 1, (0, 0, 0, 0), none),
  (294, .bipush 10, 2, (0, 0, 0, 0), none),
  (296, .newarray .int, 2, (94, 10, 0, 0), none),
  (298, .putfield 619, 3, (23, 64, 94, 0), none),
  (301, .aload_n 0, 1, (0, 0, 0, 0), none),
  (302, .bipush 10, 2, (0, 0, 0, 0), none),
  (304, .newarray .int, 2, (95, 10, 0, 0), none),
  (306, .putfield 622, 3, (23, 65, 95, 0), none),
  (309, .aload_n 0, 1, (0, 0, 0, 0), none),
  (310, .bipush 10, 2, (0, 0, 0, 0), none),
  (312, .newarray .int, 2, (96, 10, 0, 0), none),
  (314, .putfield 625, 3, (23, 66, 96, 0), none),
  (317, .return_, 1, (0, 0, 0, 0), none)]
def cd_X13_comes : List sm_E := [(0, .bipush 24, 2, (0, 0, 0, 0), none),
  (2, .istore_n 2, 1, (0, 0, 0, 0), none),
  (3, .iload_n 2, 1, (0, 0, 0, 0), some [0, 1, 2]),
  (4, .ifCond .lt 32, 3, (0, 0, 0, 0), none),
  (7, .aload_n 0, 1, (0, 0, 0, 0), none),
  (8, .getfield 25, 3, (23, 0, 67, 0), none),
  (11, .aload_n 0, 1, (0, 0, 0, 0), none),
  (12, .getfield 655, 3, (23, 1, 0, 0), none),
  (15, .iload_n 1, 1, (0, 0, 0, 0), none),
  (16, .iload_n 2, 1, (0, 0, 0, 0), none),
  (17, .ishr, 1, (0, 0, 0, 0), none),
  (18, .i2b, 1, (0, 0, 0, 0), none),
  (19, .bastore, 1, (67, 3000, 0, 0), none),
  (20, .aload_n 0, 1, (0, 0, 0, 0), none),
  (21, .dup, 1, (0, 0, 0, 0), none),
  (22, .getfield 655, 3, (23, 1, 0, 0), none),
  (25, .iconst 1, 1, (0, 0, 0, 0), none),
  (26, .iadd, 1, (0, 0, 0, 0), none),
  (27, .putfield 655, 3, (23, 1, 0, 0), none),
  (30, .iinc 2 (-8), 3, (0, 0, 0, 0), none),
  (33, .goto (-30), 3, (0, 0, 0, 0), none),
  (36, .return_, 1, (0, 0, 0, 0), none)]
def cd_X13_feed : List sm_E := [(0, .aload_n 0, 1, (0, 0, 0, 0), none),
  (1, .getfield 655, 3, (23, 1, 0, 0), none),
  (4, .bipush 20, 2, (0, 0, 0, 0), none),
  (6, .iadd, 1, (0, 0, 0, 0), none),
  (7, .sipush 3000, 3, (0, 0, 0, 0), none),
  (10, .if_icmp .le 5, 3, (0, 0, 0, 0), none),
  (13, .iconst (-1), 1, (0, 0, 0, 0), none),
  (14, .ireturn, 1, (0, 0, 0, 0), none),
  (15, .aload_n 0, 1, (0, 0, 0, 0), none),
  (16, .iload_n 1, 1, (0, 0, 0, 0), none),
  (17, .invokevirtual 658, 3, (278, 2, 0, 23), none),
  (20, .aload_n 0, 1, (0, 0, 0, 0), none),
  (21, .iload_n 2, 1, (0, 0, 0, 0), none),
  (22, .invokevirtual 658, 3, (278, 2, 0, 23), none),
  (25, .aload_n 0, 1, (0, 0, 0, 0), none),
  (26, .iload_n 3, 1, (0, 0, 0, 0), none),
  (27, .invokevirtual 658, 3, (278, 2, 0, 23), none),
  (30, .aload_n 0, 1, (0, 0, 0, 0), none),
  (31, .iload 4, 2, (0, 0, 0, 0), none),
  (33, .invokevirtual 658, 3, (278, 2, 0, 23), none),
  (36, .aload_n 0, 1, (0, 0, 0, 0), none),
  (37, .iload 5, 2, (0, 0, 0, 0), none),
  (39, .invokevirtual 658, 3, (278, 2, 0, 23), none),
  (42, .aload_n 0, 1, (0, 0, 0, 0), none),
  (43, .getfield 655, 3, (23, 1, 0, 0), none),
  (46, .ireturn, 1, (0, 0, 0, 0), none)]
def cd_X13_load : List sm_E := [(0, .iload_n 1, 1, (0, 0, 0, 0), none),
  (1, .ifCond .lt 11, 3, (0, 0, 0, 0), none),
  (4, .iload_n 1, 1, (0, 0, 0, 0), none),
  (5, .aload_n 0, 1, (0, 0, 0, 0), none),
  (6, .getfield 655, 3, (23, 1, 0, 0), none),
  (9, .if_icmp .le 5, 3, (0, 0, 0, 0), none),
  (12, .iconst (-1), 1, (0, 0, 0, 0), none),
  (13, .ireturn, 1, (0, 0, 0, 0), none),
  (14, .aload_n 0, 1, (0, 0, 0, 0), none),
  (15, .iload_n 1, 1, (0, 0, 0, 0), none),
  (16, .invokevirtual 661, 3, (196, 2, 0, 23), none),
  (19, .aload_n 0, 1, (0, 0, 0, 0), none),
  (20, .iconst 0, 1, (0, 0, 0, 0), none),
  (21, .putfield 655, 3, (23, 1, 0, 0), none),
  (24, .aload_n 0, 1, (0, 0, 0, 0), none),
  (25, .iconst 0, 1, (0, 0, 0, 0), none),
  (26, .putfield 168, 3, (23, 9, 0, 0), none),
  (29, .aload_n 0, 1, (0, 0, 0, 0), none),
  (30, .iconst (-1), 1, (0, 0, 0, 0), none),
  (31, .putfield 171, 3, (23, 10, 0, 0), none),
  (34, .aload_n 0, 1, (0, 0, 0, 0), none),
  (35, .invokevirtual 664, 3, (208, 1, 0, 23), none),
  (38, .goto 6, 3, (0, 0, 0, 0), none),
  (41, .astore_n 2, 1, (0, 0, 0, 0), none),
  (42, .iconst 0, 1, (0, 0, 0, 0), none),
  (43, .ireturn, 1, (0, 0, 0, 0), none),
  (44, .aload_n 0, 1, (0, 0, 0, 0), none),
  (45, .getfield 461, 3, (23, 6, 2, 0), none),
  (48, .astore_n 2, 1, (0, 0, 0, 0), none),
  (49, .aload_n 0, 1, (0, 0, 0, 0), none),
  (50, .aload_n 0, 1, (0, 0, 0, 0), none),
  (51, .getfield 195, 3, (23, 7, 2, 0), none),
  (54, .putfield 461, 3, (23, 6, 2, 0), none),
  (57, .aload_n 0, 1, (0, 0, 0, 0), none),
  (58, .aload_n 2, 1, (0, 0, 0, 0), none),
  (59, .putfield 195, 3, (23, 7, 2, 0), none),
  (62, .aload_n 0, 1, (0, 0, 0, 0), none),
  (63, .getfield 461, 3, (23, 6, 2, 0), none),
  (66, .getfield 216, 3, (22, 0, 0, 0), none),
  (69, .ireturn, 1, (0, 0, 0, 0), none)]
def cd_X13_fault_ : List sm_E := [(0, .iload_n 1, 1, (0, 0, 0, 0), none),
  (1, .ifCond .ne 10, 3, (0, 0, 0, 0), none),
  (4, .aload_n 0, 1, (0, 0, 0, 0), none),
  (5, .getfield 168, 3, (23, 9, 0, 0), none),
  (8, .goto 16, 3, (0, 0, 0, 0), none),
  (11, .iload_n 1, 1, (0, 0, 0, 0), none),
  (12, .iconst 1, 1, (0, 0, 0, 0), none),
  (13, .if_icmp .ne 10, 3, (0, 0, 0, 0), none),
  (16, .aload_n 0, 1, (0, 0, 0, 0), none),
  (17, .getfield 171, 3, (23, 10, 0, 0), none),
  (20, .goto 4, 3, (0, 0, 0, 0), none),
  (23, .iconst (-1), 1, (0, 0, 0, 0), none),
  (24, .ireturn, 1, (0, 0, 0, 0), none)]
def cd_X13_mayRun : List sm_E := [(0, .iload_n 1, 1, (0, 0, 0, 0), none),
  (1, .ifCond .lt 27, 3, (0, 0, 0, 0), none),
  (4, .iload_n 1, 1, (0, 0, 0, 0), none),
  (5, .aload_n 0, 1, (0, 0, 0, 0), none),
  (6, .getfield 461, 3, (23, 6, 2, 0), none),
  (9, .getfield 216, 3, (22, 0, 0, 0), none),
  (12, .if_icmp .ge 16, 3, (0, 0, 0, 0), none),
  (15, .aload_n 0, 1, (0, 0, 0, 0), none),
  (16, .getfield 461, 3, (23, 6, 2, 0), none),
  (19, .getfield 246, 3, (22, 3, 60, 0), none),
  (22, .iload_n 1, 1, (0, 0, 0, 0), none),
  (23, .iaload, 1, (60, 12, 0, 0), none),
  (24, .iconst 2, 1, (0, 0, 0, 0), none),
  (25, .if_icmp .le 5, 3, (0, 0, 0, 0), none),
  (28, .iconst 0, 1, (0, 0, 0, 0), none),
  (29, .ireturn, 1, (1, 0, 0, 0), none),
  (30, .iconst 0, 1, (0, 0, 0, 0), none),
  (31, .istore_n 2, 1, (0, 0, 0, 0), none),
  (32, .iload_n 2, 1, (0, 0, 0, 0), some [0, 1, 2]),
  (33, .aload_n 0, 1, (0, 0, 0, 0), none),
  (34, .getfield 461, 3, (23, 6, 2, 0), none),
  (37, .getfield 246, 3, (22, 3, 60, 0), none),
  (40, .iload_n 1, 1, (0, 0, 0, 0), none),
  (41, .iaload, 1, (60, 12, 0, 0), none),
  (42, .if_icmp .ge 29, 3, (0, 0, 0, 0), none),
  (45, .aload_n 0, 1, (0, 0, 0, 0), none),
  (46, .getfield 461, 3, (23, 6, 2, 0), none),
  (49, .getfield 283, 3, (22, 4, 61, 0), none),
  (52, .iconst 4, 1, (0, 0, 0, 0), none),
  (53, .iload_n 1, 1, (0, 0, 0, 0), none),
  (54, .imul, 1, (0, 0, 0, 0), none),
  (55, .iload_n 2, 1, (0, 0, 0, 0), none),
  (56, .iadd, 1, (0, 0, 0, 0), none),
  (57, .iaload, 1, (61, 48, 0, 0), none),
  (58, .bipush 36, 2, (0, 0, 0, 0), none),
  (60, .if_icmp .eq 5, 3, (0, 0, 0, 0), none),
  (63, .iconst 0, 1, (0, 0, 0, 0), none),
  (64, .ireturn, 1, (1, 0, 0, 0), none),
  (65, .iinc 2 1, 3, (0, 0, 0, 0), none),
  (68, .goto (-36), 3, (0, 0, 0, 0), none),
  (71, .iconst 1, 1, (0, 0, 0, 0), none),
  (72, .ireturn, 1, (1, 0, 0, 0), none)]
def cd_X13_run : List sm_E := [(0, .aload_n 0, 1, (0, 0, 0, 0), none),
  (1, .iload_n 1, 1, (0, 0, 0, 0), none),
  (2, .invokevirtual 667, 3, (282, 2, 1, 23), none),
  (5, .ifCond .eq 16, 3, (0, 0, 0, 0), none),
  (8, .iload 4, 2, (0, 0, 0, 0), none),
  (10, .ifCond .lt 11, 3, (0, 0, 0, 0), none),
  (13, .iload 4, 2, (0, 0, 0, 0), none),
  (15, .sipush 2000, 3, (0, 0, 0, 0), none),
  (18, .if_icmp .le 5, 3, (0, 0, 0, 0), none),
  (21, .iconst (-1), 1, (0, 0, 0, 0), none),
  (22, .ireturn, 1, (0, 0, 0, 0), none),
  (23, .aload_n 0, 1, (0, 0, 0, 0), none),
  (24, .iconst 1, 1, (0, 0, 0, 0), none),
  (25, .putfield 670, 3, (23, 56, 3, 0), none),
  (28, .aload_n 0, 1, (0, 0, 0, 0), none),
  (29, .iconst 0, 1, (0, 0, 0, 0), none),
  (30, .putfield 467, 3, (23, 57, 3, 0), none),
  (33, .aload_n 0, 1, (0, 0, 0, 0), none),
  (34, .iload 4, 2, (0, 0, 0, 0), none),
  (36, .putfield 525, 3, (23, 49, 0, 0), none),
  (39, .aload_n 0, 1, (0, 0, 0, 0), none),
  (40, .iconst 0, 1, (0, 0, 0, 0), none),
  (41, .putfield 508, 3, (23, 51, 0, 0), none),
  (44, .aload_n 0, 1, (0, 0, 0, 0), none),
  (45, .iconst 0, 1, (0, 0, 0, 0), none),
  (46, .putfield 481, 3, (23, 52, 0, 0), none),
  (49, .aload_n 0, 1, (0, 0, 0, 0), none),
  (50, .iconst (-1), 1, (0, 0, 0, 0), none),
  (51, .putfield 464, 3, (23, 53, 0, 0), none),
  (54, .aload_n 0, 1, (0, 0, 0, 0), none),
  (55, .iconst 0, 1, (0, 0, 0, 0), none),
  (56, .putfield 478, 3, (23, 47, 0, 0), none),
  (59, .aload_n 0, 1, (0, 0, 0, 0), none),
  (60, .iconst 0, 1, (0, 0, 0, 0), none),
  (61, .putfield 487, 3, (23, 39, 0, 0), none),
  (64, .aload_n 0, 1, (0, 0, 0, 0), none),
  (65, .getfield 452, 3, (23, 36, 81, 0), none),
  (68, .iconst 0, 1, (0, 0, 0, 0), none),
  (69, .iload_n 2, 1, (0, 0, 0, 0), none),
  (70, .iastore, 1, (81, 4000, 0, 0), none),
  (71, .aload_n 0, 1, (0, 0, 0, 0), none),
  (72, .getfield 452, 3, (23, 36, 81, 0), none),
  (75, .iconst 1, 1, (0, 0, 0, 0), none),
  (76, .iload_n 3, 1, (0, 0, 0, 0), none),
  (77, .iastore, 1, (81, 4000, 0, 0), none),
  (78, .aload_n 0, 1, (0, 0, 0, 0), none),
  (79, .aload_n 0, 1, (0, 0, 0, 0), none),
  (80, .getfield 461, 3, (23, 6, 2, 0), none),
  (83, .getfield 246, 3, (22, 3, 60, 0), none),
  (86, .iload_n 1, 1, (0, 0, 0, 0), none),
  (87, .iaload, 1, (60, 12, 0, 0), none),
  (88, .putfield 455, 3, (23, 37, 0, 0), none),
  (91, .aload_n 0, 1, (0, 0, 0, 0), none),
  (92, .iload_n 1, 1, (0, 0, 0, 0), none),
  (93, .iconst (-1), 1, (0, 0, 0, 0), none),
  (94, .invokevirtual 522, 3, (258, 3, 0, 23), none),
  (97, .aload_n 0, 1, (0, 0, 0, 0), none),
  (98, .invokevirtual 673, 3, (260, 1, 0, 23), none),
  (101, .aload_n 0, 1, (0, 0, 0, 0), none),
  (102, .getfield 458, 3, (23, 50, 0, 0), none),
  (105, .ifCond .ne 15, 3, (0, 0, 0, 0), none),
  (108, .aload_n 0, 1, (0, 0, 0, 0), none),
  (109, .getfield 461, 3, (23, 6, 2, 0), none),
  (112, .getfield 249, 3, (22, 2, 59, 0), none),
  (115, .iload_n 1, 1, (0, 0, 0, 0), none),
  (116, .iaload, 1, (59, 12, 0, 0), none),
  (117, .goto 5, 3, (0, 0, 0, 0), none),
  (120, .bipush 38, 2, (0, 0, 0, 0), none),
  (122, .istore 5, 2, (0, 0, 0, 0), some [0]),
  (124, .iload 5, 2, (0, 0, 0, 0), none),
  (126, .bipush 36, 2, (0, 0, 0, 0), none),
  (128, .if_icmp .ge 14, 3, (0, 0, 0, 0), none),
  (131, .aload_n 0, 1, (0, 0, 0, 0), none),
  (132, .getfield 508, 3, (23, 51, 0, 0), none),
  (135, .ifCond .eq 7, 3, (0, 0, 0, 0), none),
  (138, .iconst 1, 1, (0, 0, 0, 0), none),
  (139, .goto 4, 3, (0, 0, 0, 0), none),
  (142, .iconst 0, 1, (0, 0, 0, 0), none),
  (143, .istore 6, 2, (0, 0, 0, 0), some [0, 5]),
  (145, .aload_n 0, 1, (0, 0, 0, 0), none),
  (146, .iload 6, 2, (0, 0, 0, 0), none),
  (148, .ifCond .eq 14, 3, (0, 0, 0, 0), none),
  (151, .aload_n 0, 1, (0, 0, 0, 0), none),
  (152, .aload_n 0, 1, (0, 0, 0, 0), none),
  (153, .getfield 508, 3, (23, 51, 0, 0), none),
  (156, .invokevirtual 440, 3, (246, 2, 1, 23), none),
  (159, .goto 4, 3, (0, 0, 0, 0), none),
  (162, .iconst (-1), 1, (0, 0, 0, 0), none),
  (163, .putfield 649, 3, (23, 54, 0, 0), some [0, 5, 6]),
  (166, .aload_n 0, 1, (0, 0, 0, 0), none),
  (167, .iload 6, 2, (0, 0, 0, 0), none),
  (169, .ifCond .ne 7, 3, (0, 0, 0, 0), none),
  (172, .iconst (-1), 1, (0, 0, 0, 0), none),
  (173, .goto 36, 3, (0, 0, 0, 0), none),
  (176, .aload_n 0, 1, (0, 0, 0, 0), none),
  (177, .getfield 508, 3, (23, 51, 0, 0), none),
  (180, .sipush 1001, 3, (0, 0, 0, 0), none),
  (183, .if_icmp .lt 19, 3, (0, 0, 0, 0), none),
  (186, .aload_n 0, 1, (0, 0, 0, 0), none),
  (187, .getfield 550, 3, (23, 33, 78, 0), none),
  (190, .aload_n 0, 1, (0, 0, 0, 0), none),
  (191, .getfield 508, 3, (23, 51, 0, 0), none),
  (194, .sipush 1001, 3, (0, 0, 0, 0), none),
  (197, .isub, 1, (0, 0, 0, 0), none),
  (198, .iaload, 1, (78, 200, 0, 0), none),
  (199, .goto 10, 3, (0, 0, 0, 0), none),
  (202, .aload_n 0, 1, (0, 0, 0, 0), none),
  (203, .getfield 508, 3, (23, 51, 0, 0), none),
  (206, .invokestatic 545, 3, (247, 1, 1, 0), none),
  (209, .putfield 652, 3, (23, 55, 0, 0), some [0, 5]),
  (212, .aload_n 0, 1, (0, 0, 0, 0), none),
  (213, .iload 5, 2, (0, 0, 0, 0), none),
  (215, .bipush 36, 2, (0, 0, 0, 0), none),
  (217, .if_icmp .ne 10, 3, (0, 0, 0, 0), none),
  (220, .aload_n 0, 1, (0, 0, 0, 0), none),
  (221, .getfield 508, 3, (23, 51, 0, 0), none),
  (224, .goto 4, 3, (0, 0, 0, 0), none),
  (227, .iconst 0, 1, (0, 0, 0, 0), none),
  (228, .putfield 508, 3, (23, 51, 0, 0), none),
  (231, .aload_n 0, 1, (0, 0, 0, 0), none),
  (232, .getfield 458, 3, (23, 50, 0, 0), none),
  (235, .ireturn, 1, (0, 0, 0, 0), none)]
def cd_X13_told : List sm_E := [(0, .aload_n 0, 1, (0, 0, 0, 0), none),
  (1, .getfield 670, 3, (23, 56, 3, 0), none),
  (4, .ifCond .ne 5, 3, (0, 0, 0, 0), none),
  (7, .iconst (-1), 1, (0, 0, 0, 0), none),
  (8, .ireturn, 1, (0, 0, 0, 0), none),
  (9, .iload_n 1, 1, (0, 0, 0, 0), none),
  (10, .tableswitch 77 0 6 #[42, 47, 52, 57, 62, 67, 72], 42, (0, 0, 0, 0), none),
  (52, .aload_n 0, 1, (0, 0, 0, 0), none),
  (53, .getfield 458, 3, (23, 50, 0, 0), none),
  (56, .ireturn, 1, (0, 0, 0, 0), none),
  (57, .aload_n 0, 1, (0, 0, 0, 0), none),
  (58, .getfield 508, 3, (23, 51, 0, 0), none),
  (61, .ireturn, 1, (0, 0, 0, 0), none),
  (62, .aload_n 0, 1, (0, 0, 0, 0), none),
  (63, .getfield 649, 3, (23, 54, 0, 0), none),
  (66, .ireturn, 1, (0, 0, 0, 0), none),
  (67, .aload_n 0, 1, (0, 0, 0, 0), none),
  (68, .getfield 652, 3, (23, 55, 0, 0), none),
  (71, .ireturn, 1, (0, 0, 0, 0), none),
  (72, .aload_n 0, 1, (0, 0, 0, 0), none),
  (73, .getfield 525, 3, (23, 49, 0, 0), none),
  (76, .ireturn, 1, (0, 0, 0, 0), none),
  (77, .aload_n 0, 1, (0, 0, 0, 0), none),
  (78, .getfield 481, 3, (23, 52, 0, 0), none),
  (81, .ireturn, 1, (0, 0, 0, 0), none),
  (82, .aload_n 0, 1, (0, 0, 0, 0), none),
  (83, .getfield 464, 3, (23, 53, 0, 0), none),
  (86, .ireturn, 1, (0, 0, 0, 0), none),
  (87, .iconst (-1), 1, (0, 0, 0, 0), none),
  (88, .ireturn, 1, (0, 0, 0, 0), none)]
def cd_X13_said : List sm_E := [(0, .iload_n 1, 1, (0, 0, 0, 0), none),
  (1, .ifCond .lt 20, 3, (0, 0, 0, 0), none),
  (4, .iload_n 1, 1, (0, 0, 0, 0), none),
  (5, .aload_n 0, 1, (0, 0, 0, 0), none),
  (6, .getfield 570, 3, (23, 28, 0, 0), none),
  (9, .if_icmp .ge 12, 3, (0, 0, 0, 0), none),
  (12, .aload_n 0, 1, (0, 0, 0, 0), none),
  (13, .getfield 573, 3, (23, 35, 80, 0), none),
  (16, .iload_n 1, 1, (0, 0, 0, 0), none),
  (17, .iaload, 1, (80, 300, 0, 0), none),
  (18, .goto 4, 3, (0, 0, 0, 0), none),
  (21, .iconst 0, 1, (0, 0, 0, 0), none),
  (22, .ireturn, 1, (0, 0, 0, 0), none)]
def cd_X13_state : List sm_E := [(0, .iload_n 1, 1, (0, 0, 0, 0), none),
  (1, .invokestatic 594, 3, (268, 1, 1, 0), none),
  (4, .ifCond .eq 13, 3, (0, 0, 0, 0), none),
  (7, .iload_n 2, 1, (0, 0, 0, 0), none),
  (8, .ifCond .lt 9, 3, (0, 0, 0, 0), none),
  (11, .iload_n 2, 1, (0, 0, 0, 0), none),
  (12, .bipush 18, 2, (0, 0, 0, 0), none),
  (14, .if_icmp .lt 5, 3, (0, 0, 0, 0), none),
  (17, .iconst 0, 1, (0, 0, 0, 0), none),
  (18, .ireturn, 1, (1, 0, 0, 0), none),
  (19, .aload_n 0, 1, (0, 0, 0, 0), none),
  (20, .getfield 591, 3, (23, 58, 90, 0), none),
  (23, .iload_n 1, 1, (0, 0, 0, 0), none),
  (24, .iload_n 2, 1, (0, 0, 0, 0), none),
  (25, .iastore, 1, (90, 8, 0, 0), none),
  (26, .aload_n 0, 1, (0, 0, 0, 0), none),
  (27, .getfield 597, 3, (23, 59, 91, 0), none),
  (30, .iload_n 1, 1, (0, 0, 0, 0), none),
  (31, .iaload, 1, (91, 8, 0, 0), none),
  (32, .ifCond .eq 24, 3, (0, 0, 0, 0), none),
  (35, .aload_n 0, 1, (0, 0, 0, 0), none),
  (36, .iload_n 1, 1, (0, 0, 0, 0), none),
  (37, .aload_n 0, 1, (0, 0, 0, 0), none),
  (38, .getfield 597, 3, (23, 59, 91, 0), none),
  (41, .iload_n 1, 1, (0, 0, 0, 0), none),
  (42, .iaload, 1, (91, 8, 0, 0), none),
  (43, .invokevirtual 600, 3, (269, 3, 1, 23), none),
  (46, .ifCond .ne 10, 3, (0, 0, 0, 0), none),
  (49, .aload_n 0, 1, (0, 0, 0, 0), none),
  (50, .getfield 597, 3, (23, 59, 91, 0), none),
  (53, .iload_n 1, 1, (0, 0, 0, 0), none),
  (54, .iconst 0, 1, (0, 0, 0, 0), none),
  (55, .iastore, 1, (91, 8, 0, 0), none),
  (56, .iconst 1, 1, (0, 0, 0, 0), none),
  (57, .ireturn, 1, (1, 0, 0, 0), none)]
def cd_X13_tick : List sm_E := [(0, .iload_n 1, 1, (0, 0, 0, 0), none),
  (1, .ifCond .lt 10, 3, (0, 0, 0, 0), none),
  (4, .iload_n 1, 1, (0, 0, 0, 0), none),
  (5, .sipush 200, 3, (0, 0, 0, 0), none),
  (8, .if_icmp .le 5, 3, (0, 0, 0, 0), none),
  (11, .iconst (-1), 1, (0, 0, 0, 0), none),
  (12, .ireturn, 1, (0, 0, 0, 0), none),
  (13, .iconst 0, 1, (0, 0, 0, 0), none),
  (14, .istore_n 2, 1, (0, 0, 0, 0), none),
  (15, .iconst 0, 1, (0, 0, 0, 0), none),
  (16, .istore_n 3, 1, (0, 0, 0, 0), none),
  (17, .iload_n 3, 1, (0, 0, 0, 0), some [0, 1, 2, 3]),
  (18, .iload_n 1, 1, (0, 0, 0, 0), none),
  (19, .if_icmp .ge 64, 3, (0, 0, 0, 0), none),
  (22, .aload_n 0, 1, (0, 0, 0, 0), none),
  (23, .dup, 1, (0, 0, 0, 0), none),
  (24, .getfield 607, 3, (23, 61, 0, 0), none),
  (27, .iconst 1, 1, (0, 0, 0, 0), none),
  (28, .iadd, 1, (0, 0, 0, 0), none),
  (29, .putfield 607, 3, (23, 61, 0, 0), none),
  (32, .iconst 0, 1, (0, 0, 0, 0), none),
  (33, .istore 4, 2, (0, 0, 0, 0), none),
  (35, .iload 4, 2, (0, 0, 0, 0), some [0, 1, 2, 3, 4]),
  (37, .aload_n 0, 1, (0, 0, 0, 0), none),
  (38, .getfield 610, 3, (23, 60, 0, 0), none),
  (41, .if_icmp .ge 36, 3, (0, 0, 0, 0), none),
  (44, .iload_n 2, 1, (0, 0, 0, 0), none),
  (45, .aload_n 0, 1, (0, 0, 0, 0), none),
  (46, .getfield 622, 3, (23, 65, 95, 0), none),
  (49, .iload 4, 2, (0, 0, 0, 0), none),
  (51, .iaload, 1, (95, 10, 0, 0), none),
  (52, .ifCond .ne 16, 3, (0, 0, 0, 0), none),
  (55, .aload_n 0, 1, (0, 0, 0, 0), none),
  (56, .iload 4, 2, (0, 0, 0, 0), none),
  (58, .invokevirtual 676, 3, (276, 2, 1, 23), none),
  (61, .ifCond .eq 7, 3, (0, 0, 0, 0), none),
  (64, .iconst 1, 1, (0, 0, 0, 0), none),
  (65, .goto 4, 3, (0, 0, 0, 0), none),
  (68, .iconst 0, 1, (0, 0, 0, 0), none),
  (69, .iadd, 1, (0, 0, 0, 0), none),
  (70, .istore_n 2, 1, (0, 0, 0, 0), none),
  (71, .iinc 4 1, 3, (0, 0, 0, 0), none),
  (74, .goto (-39), 3, (0, 0, 0, 0), none),
  (77, .iinc 3 1, 3, (0, 0, 0, 0), none),
  (80, .goto (-63), 3, (0, 0, 0, 0), none),
  (83, .iload_n 2, 1, (0, 0, 0, 0), none),
  (84, .ireturn, 1, (0, 0, 0, 0), none)]
def cd_X13_vehicle : List sm_E := [(0, .iload_n 1, 1, (0, 0, 0, 0), none),
  (1, .ifCond .lt 11, 3, (0, 0, 0, 0), none),
  (4, .iload_n 1, 1, (0, 0, 0, 0), none),
  (5, .aload_n 0, 1, (0, 0, 0, 0), none),
  (6, .getfield 582, 3, (23, 24, 0, 0), none),
  (9, .if_icmp .lt 5, 3, (0, 0, 0, 0), none),
  (12, .iconst (-1), 1, (0, 0, 0, 0), none),
  (13, .ireturn, 1, (0, 0, 0, 0), none),
  (14, .iload_n 2, 1, (0, 0, 0, 0), none),
  (15, .tableswitch 155 0 9 #[53, 60, 72, 86, 92, 98, 104, 116, 129, 142], 53, (0, 0, 0, 0), none),
  (68, .aload_n 0, 1, (0, 0, 0, 0), none),
  (69, .getfield 437, 3, (23, 29, 74, 0), none),
  (72, .iload_n 1, 1, (0, 0, 0, 0), none),
  (73, .iaload, 1, (74, 300, 0, 0), none),
  (74, .ireturn, 1, (0, 0, 0, 0), none),
  (75, .aload_n 0, 1, (0, 0, 0, 0), none),
  (76, .getfield 443, 3, (23, 30, 75, 0), none),
  (79, .bipush 9, 2, (0, 0, 0, 0), none),
  (81, .iload_n 1, 1, (0, 0, 0, 0), none),
  (82, .imul, 1, (0, 0, 0, 0), none),
  (83, .iconst 0, 1, (0, 0, 0, 0), none),
  (84, .iadd, 1, (0, 0, 0, 0), none),
  (85, .iaload, 1, (75, 2700, 0, 0), none),
  (86, .ireturn, 1, (0, 0, 0, 0), none),
  (87, .aload_n 0, 1, (0, 0, 0, 0), none),
  (88, .getfield 443, 3, (23, 30, 75, 0), none),
  (91, .bipush 9, 2, (0, 0, 0, 0), none),
  (93, .iload_n 1, 1, (0, 0, 0, 0), none),
  (94, .imul, 1, (0, 0, 0, 0), none),
  (95, .iconst 1, 1, (0, 0, 0, 0), none),
  (96, .iadd, 1, (0, 0, 0, 0), none),
  (97, .iaload, 1, (75, 2700, 0, 0), none),
  (98, .iconst 1, 1, (0, 0, 0, 0), none),
  (99, .isub, 1, (0, 0, 0, 0), none),
  (100, .ireturn, 1, (0, 0, 0, 0), none),
  (101, .aload_n 0, 1, (0, 0, 0, 0), none),
  (102, .iload_n 1, 1, (0, 0, 0, 0), none),
  (103, .invokevirtual 446, 3, (249, 2, 1, 23), none),
  (106, .ireturn, 1, (0, 0, 0, 0), none),
  (107, .aload_n 0, 1, (0, 0, 0, 0), none),
  (108, .iload_n 1, 1, (0, 0, 0, 0), none),
  (109, .invokevirtual 448, 3, (250, 2, 1, 23), none),
  (112, .ireturn, 1, (0, 0, 0, 0), none),
  (113, .aload_n 0, 1, (0, 0, 0, 0), none),
  (114, .iload_n 1, 1, (0, 0, 0, 0), none),
  (115, .invokevirtual 450, 3, (251, 2, 1, 23), none),
  (118, .ireturn, 1, (0, 0, 0, 0), none),
  (119, .aload_n 0, 1, (0, 0, 0, 0), none),
  (120, .getfield 443, 3, (23, 30, 75, 0), none),
  (123, .bipush 9, 2, (0, 0, 0, 0), none),
  (125, .iload_n 1, 1, (0, 0, 0, 0), none),
  (126, .imul, 1, (0, 0, 0, 0), none),
  (127, .iconst 5, 1, (0, 0, 0, 0), none),
  (128, .iadd, 1, (0, 0, 0, 0), none),
  (129, .iaload, 1, (75, 2700, 0, 0), none),
  (130, .ireturn, 1, (0, 0, 0, 0), none),
  (131, .aload_n 0, 1, (0, 0, 0, 0), none),
  (132, .getfield 443, 3, (23, 30, 75, 0), none),
  (135, .bipush 9, 2, (0, 0, 0, 0), none),
  (137, .iload_n 1, 1, (0, 0, 0, 0), none),
  (138, .imul, 1, (0, 0, 0, 0), none),
  (139, .bipush 6, 2, (0, 0, 0, 0), none),
  (141, .iadd, 1, (0, 0, 0, 0), none),
  (142, .iaload, 1, (75, 2700, 0, 0), none),
  (143, .ireturn, 1, (0, 0, 0, 0), none),
  (144, .aload_n 0, 1, (0, 0, 0, 0), none),
  (145, .getfield 443, 3, (23, 30, 75, 0), none),
  (148, .bipush 9, 2, (0, 0, 0, 0), none),
  (150, .iload_n 1, 1, (0, 0, 0, 0), none),
  (151, .imul, 1, (0, 0, 0, 0), none),
  (152, .bipush 7, 2, (0, 0, 0, 0), none),
  (154, .iadd, 1, (0, 0, 0, 0), none),
  (155, .iaload, 1, (75, 2700, 0, 0), none),
  (156, .ireturn, 1, (0, 0, 0, 0), none),
  (157, .aload_n 0, 1, (0, 0, 0, 0), none),
  (158, .getfield 443, 3, (23, 30, 75, 0), none),
  (161, .bipush 9, 2, (0, 0, 0, 0), none),
  (163, .iload_n 1, 1, (0, 0, 0, 0), none),
  (164, .imul, 1, (0, 0, 0, 0), none),
  (165, .bipush 8, 2, (0, 0, 0, 0), none),
  (167, .iadd, 1, (0, 0, 0, 0), none),
  (168, .iaload, 1, (75, 2700, 0, 0), none),
  (169, .ireturn, 1, (0, 0, 0, 0), none),
  (170, .iconst (-1), 1, (0, 0, 0, 0), none),
  (171, .ireturn, 1, (0, 0, 0, 0), none)]
def cd_X13_least : List sm_E := [(0, .iconst 0, 1, (0, 0, 0, 0), none),
  (1, .istore_n 2, 1, (0, 0, 0, 0), none),
  (2, .aload_n 0, 1, (0, 0, 0, 0), some [0, 1, 2]),
  (3, .getfield 597, 3, (23, 59, 91, 0), none),
  (6, .iload_n 2, 1, (0, 0, 0, 0), none),
  (7, .iaload, 1, (91, 8, 0, 0), none),
  (8, .aload_n 0, 1, (0, 0, 0, 0), none),
  (9, .getfield 597, 3, (23, 59, 91, 0), none),
  (12, .iload_n 1, 1, (0, 0, 0, 0), none),
  (13, .iaload, 1, (91, 8, 0, 0), none),
  (14, .if_icmp .eq 9, 3, (0, 0, 0, 0), none),
  (17, .iinc 2 1, 3, (0, 0, 0, 0), none),
  (20, .goto (-18), 3, (0, 0, 0, 0), none),
  (23, .iload_n 2, 1, (0, 0, 0, 0), none),
  (24, .ireturn, 1, (0, 0, 0, 0), none)]
def cd_X13_track : List sm_E := [(0, .iload_n 1, 1, (0, 0, 0, 0), none),
  (1, .invokestatic 594, 3, (268, 1, 1, 0), none),
  (4, .ifCond .ne 5, 3, (0, 0, 0, 0), none),
  (7, .iconst (-1), 1, (0, 0, 0, 0), none),
  (8, .ireturn, 1, (0, 0, 0, 0), none),
  (9, .aload_n 0, 1, (0, 0, 0, 0), none),
  (10, .getfield 597, 3, (23, 59, 91, 0), none),
  (13, .iload_n 1, 1, (0, 0, 0, 0), none),
  (14, .iaload, 1, (91, 8, 0, 0), none),
  (15, .sipush 1001, 3, (0, 0, 0, 0), none),
  (18, .isub, 1, (0, 0, 0, 0), none),
  (19, .istore_n 3, 1, (0, 0, 0, 0), none),
  (20, .iload_n 2, 1, (0, 0, 0, 0), none),
  (21, .tableswitch 82 0 3 #[31, 38, 53, 68], 31, (0, 0, 0, 0), none),
  (52, .aload_n 0, 1, (0, 0, 0, 0), none),
  (53, .getfield 591, 3, (23, 58, 90, 0), none),
  (56, .iload_n 1, 1, (0, 0, 0, 0), none),
  (57, .iaload, 1, (90, 8, 0, 0), none),
  (58, .ireturn, 1, (0, 0, 0, 0), none),
  (59, .iload_n 3, 1, (0, 0, 0, 0), none),
  (60, .ifCond .ge 7, 3, (0, 0, 0, 0), none),
  (63, .iconst (-1), 1, (0, 0, 0, 0), none),
  (64, .goto 9, 3, (0, 0, 0, 0), none),
  (67, .aload_n 0, 1, (0, 0, 0, 0), none),
  (68, .getfield 434, 3, (23, 31, 76, 0), none),
  (71, .iload_n 3, 1, (0, 0, 0, 0), none),
  (72, .iaload, 1, (76, 200, 0, 0), none),
  (73, .ireturn, 1, (0, 0, 0, 0), none),
  (74, .iload_n 3, 1, (0, 0, 0, 0), none),
  (75, .ifCond .ge 7, 3, (0, 0, 0, 0), none),
  (78, .iconst 0, 1, (0, 0, 0, 0), none),
  (79, .goto 9, 3, (0, 0, 0, 0), none),
  (82, .aload_n 0, 1, (0, 0, 0, 0), none),
  (83, .getfield 550, 3, (23, 33, 78, 0), none),
  (86, .iload_n 3, 1, (0, 0, 0, 0), none),
  (87, .iaload, 1, (78, 200, 0, 0), none),
  (88, .ireturn, 1, (0, 0, 0, 0), none),
  (89, .iload_n 3, 1, (0, 0, 0, 0), none),
  (90, .ifCond .ge 7, 3, (0, 0, 0, 0), none),
  (93, .iconst (-1), 1, (0, 0, 0, 0), none),
  (94, .goto 8, 3, (0, 0, 0, 0), none),
  (97, .aload_n 0, 1, (0, 0, 0, 0), none),
  (98, .iload_n 1, 1, (0, 0, 0, 0), none),
  (99, .invokevirtual 679, 3, (289, 2, 1, 23), none),
  (102, .ireturn, 1, (0, 0, 0, 0), none),
  (103, .iconst (-1), 1, (0, 0, 0, 0), none),
  (104, .ireturn, 1, (0, 0, 0, 0), none)]
def cd_X13_place : List sm_E := [(0, .iload_n 1, 1, (0, 0, 0, 0), none),
  (1, .invokestatic 594, 3, (268, 1, 1, 0), none),
  (4, .ifCond .eq 12, 3, (0, 0, 0, 0), none),
  (7, .aload_n 0, 1, (0, 0, 0, 0), none),
  (8, .getfield 597, 3, (23, 59, 91, 0), none),
  (11, .iload_n 1, 1, (0, 0, 0, 0), none),
  (12, .iaload, 1, (91, 8, 0, 0), none),
  (13, .ifCond .ne 5, 3, (0, 0, 0, 0), none),
  (16, .iconst (-1), 1, (0, 0, 0, 0), none),
  (17, .ireturn, 1, (0, 0, 0, 0), none),
  (18, .aload_n 0, 1, (0, 0, 0, 0), none),
  (19, .getfield 597, 3, (23, 59, 91, 0), none),
  (22, .iload_n 1, 1, (0, 0, 0, 0), none),
  (23, .iaload, 1, (91, 8, 0, 0), none),
  (24, .sipush 1001, 3, (0, 0, 0, 0), none),
  (27, .isub, 1, (0, 0, 0, 0), none),
  (28, .istore_n 3, 1, (0, 0, 0, 0), none),
  (29, .iload_n 2, 1, (0, 0, 0, 0), none),
  (30, .ifCond .lt 13, 3, (0, 0, 0, 0), none),
  (33, .iload_n 2, 1, (0, 0, 0, 0), none),
  (34, .aload_n 0, 1, (0, 0, 0, 0), none),
  (35, .getfield 550, 3, (23, 33, 78, 0), none),
  (38, .iload_n 3, 1, (0, 0, 0, 0), none),
  (39, .iaload, 1, (78, 200, 0, 0), none),
  (40, .if_icmp .lt 7, 3, (0, 0, 0, 0), none),
  (43, .iconst (-1), 1, (0, 0, 0, 0), none),
  (44, .goto 19, 3, (0, 0, 0, 0), none),
  (47, .aload_n 0, 1, (0, 0, 0, 0), none),
  (48, .getfield 576, 3, (23, 34, 79, 0), none),
  (51, .aload_n 0, 1, (0, 0, 0, 0), none),
  (52, .getfield 579, 3, (23, 32, 77, 0), none),
  (55, .iload_n 3, 1, (0, 0, 0, 0), none),
  (56, .iaload, 1, (77, 200, 0, 0), none),
  (57, .iload_n 2, 1, (0, 0, 0, 0), none),
  (58, .iadd, 1, (0, 0, 0, 0), none),
  (59, .iaload, 1, (79, 2000, 0, 0), none),
  (60, .invokestatic 545, 3, (247, 1, 1, 0), none),
  (63, .ireturn, 1, (0, 0, 0, 0), none)]
def cd_X13_train : List sm_E := [(0, .iload_n 1, 1, (0, 0, 0, 0), none),
  (1, .ifCond .lt 11, 3, (0, 0, 0, 0), none),
  (4, .iload_n 1, 1, (0, 0, 0, 0), none),
  (5, .aload_n 0, 1, (0, 0, 0, 0), none),
  (6, .getfield 610, 3, (23, 60, 0, 0), none),
  (9, .if_icmp .lt 5, 3, (0, 0, 0, 0), none),
  (12, .iconst (-1), 1, (0, 0, 0, 0), none),
  (13, .ireturn, 1, (0, 0, 0, 0), none),
  (14, .iload_n 2, 1, (0, 0, 0, 0), none),
  (15, .tableswitch 76 0 4 #[33, 40, 47, 54, 61], 33, (0, 0, 0, 0), none),
  (48, .aload_n 0, 1, (0, 0, 0, 0), none),
  (49, .getfield 622, 3, (23, 65, 95, 0), none),
  (52, .iload_n 1, 1, (0, 0, 0, 0), none),
  (53, .iaload, 1, (95, 10, 0, 0), none),
  (54, .ireturn, 1, (0, 0, 0, 0), none),
  (55, .aload_n 0, 1, (0, 0, 0, 0), none),
  (56, .getfield 616, 3, (23, 63, 93, 0), none),
  (59, .iload_n 1, 1, (0, 0, 0, 0), none),
  (60, .iaload, 1, (93, 10, 0, 0), none),
  (61, .ireturn, 1, (0, 0, 0, 0), none),
  (62, .aload_n 0, 1, (0, 0, 0, 0), none),
  (63, .getfield 619, 3, (23, 64, 94, 0), none),
  (66, .iload_n 1, 1, (0, 0, 0, 0), none),
  (67, .iaload, 1, (94, 10, 0, 0), none),
  (68, .ireturn, 1, (0, 0, 0, 0), none),
  (69, .aload_n 0, 1, (0, 0, 0, 0), none),
  (70, .getfield 625, 3, (23, 66, 96, 0), none),
  (73, .iload_n 1, 1, (0, 0, 0, 0), none),
  (74, .iaload, 1, (96, 10, 0, 0), none),
  (75, .ireturn, 1, (0, 0, 0, 0), none),
  (76, .aload_n 0, 1, (0, 0, 0, 0), none),
  (77, .aload_n 0, 1, (0, 0, 0, 0), none),
  (78, .getfield 613, 3, (23, 62, 92, 0), none),
  (81, .iload_n 1, 1, (0, 0, 0, 0), none),
  (82, .iaload, 1, (92, 10, 0, 0), none),
  (83, .sipush 1001, 3, (0, 0, 0, 0), none),
  (86, .isub, 1, (0, 0, 0, 0), none),
  (87, .invokevirtual 628, 3, (273, 2, 1, 23), none),
  (90, .ireturn, 1, (0, 0, 0, 0), none),
  (91, .iconst (-1), 1, (0, 0, 0, 0), none),
  (92, .ireturn, 1, (0, 0, 0, 0), none)]
def cd_X13_count : List sm_E := [(0, .iload_n 1, 1, (0, 0, 0, 0), none),
  (1, .tableswitch 99 0 8 #[51, 59, 64, 69, 74, 79, 84, 89, 94], 51, (0, 0, 0, 0), none),
  (52, .aload_n 0, 1, (0, 0, 0, 0), none),
  (53, .getfield 461, 3, (23, 6, 2, 0), none),
  (56, .getfield 216, 3, (22, 0, 0, 0), none),
  (59, .ireturn, 1, (0, 0, 0, 0), none),
  (60, .aload_n 0, 1, (0, 0, 0, 0), none),
  (61, .getfield 582, 3, (23, 24, 0, 0), none),
  (64, .ireturn, 1, (0, 0, 0, 0), none),
  (65, .aload_n 0, 1, (0, 0, 0, 0), none),
  (66, .getfield 585, 3, (23, 25, 0, 0), none),
  (69, .ireturn, 1, (0, 0, 0, 0), none),
  (70, .aload_n 0, 1, (0, 0, 0, 0), none),
  (71, .getfield 588, 3, (23, 26, 0, 0), none),
  (74, .ireturn, 1, (0, 0, 0, 0), none),
  (75, .aload_n 0, 1, (0, 0, 0, 0), none),
  (76, .getfield 610, 3, (23, 60, 0, 0), none),
  (79, .ireturn, 1, (0, 0, 0, 0), none),
  (80, .aload_n 0, 1, (0, 0, 0, 0), none),
  (81, .getfield 607, 3, (23, 61, 0, 0), none),
  (84, .ireturn, 1, (0, 0, 0, 0), none),
  (85, .aload_n 0, 1, (0, 0, 0, 0), none),
  (86, .getfield 471, 3, (23, 27, 0, 0), none),
  (89, .ireturn, 1, (0, 0, 0, 0), none),
  (90, .aload_n 0, 1, (0, 0, 0, 0), none),
  (91, .getfield 570, 3, (23, 28, 0, 0), none),
  (94, .ireturn, 1, (0, 0, 0, 0), none),
  (95, .aload_n 0, 1, (0, 0, 0, 0), none),
  (96, .getfield 655, 3, (23, 1, 0, 0), none),
  (99, .ireturn, 1, (0, 0, 0, 0), none),
  (100, .iconst (-1), 1, (0, 0, 0, 0), none),
  (101, .ireturn, 1, (0, 0, 0, 0), none)]
def cd_J0_length_8abf5 : List sm_E := [(0, .aload_n 0, 1, (0, 0, 0, 0), none),
  (1, .getfield 9, 3, (5, 0, 7, 0), none),
  (4, .arraylength, 1, (7, 0, 0, 0), none),
  (5, .aload_n 0, 1, (0, 0, 0, 0), none),
  (6, .invokevirtual 335, 3, (298, 1, 1, 5), none),
  (9, .ishr, 1, (0, 0, 0, 0), none),
  (10, .ireturn, 1, (0, 0, 0, 0), none)]
def cd_J0_charAt_5068e : List sm_E := [(0, .aload_n 0, 1, (0, 0, 0, 0), none),
  (1, .invokevirtual 492, 3, (299, 1, 1, 5), none),
  (4, .ifCond .eq 12, 3, (0, 0, 0, 0), none),
  (7, .aload_n 0, 1, (0, 0, 0, 0), none),
  (8, .getfield 9, 3, (5, 0, 7, 0), none),
  (11, .iload_n 1, 1, (0, 0, 0, 0), none),
  (12, .invokestatic 495, 3, (301, 2, 1, 0), none),
  (15, .ireturn, 1, (2, 0, 0, 0), none),
  (16, .aload_n 0, 1, (0, 0, 0, 0), none),
  (17, .getfield 9, 3, (5, 0, 7, 0), none),
  (20, .iload_n 1, 1, (0, 0, 0, 0), none),
  (21, .invokestatic 498, 3, (9999, 2, 1, 0), none),
  (24, .ireturn, 1, (2, 0, 0, 0), none)]
def cd_J0_indexOf_0f7a4 : List sm_E := [(0, .aload_n 0, 1, (0, 0, 0, 0), none),
  (1, .iload_n 1, 1, (0, 0, 0, 0), none),
  (2, .iconst 0, 1, (0, 0, 0, 0), none),
  (3, .invokevirtual 633, 3, (297, 3, 1, 5), none),
  (6, .ireturn, 1, (0, 0, 0, 0), none)]
def cd_J0_indexOf_7cf53 : List sm_E := [(0, .aload_n 0, 1, (0, 0, 0, 0), none),
  (1, .invokevirtual 492, 3, (299, 1, 1, 5), none),
  (4, .ifCond .eq 19, 3, (0, 0, 0, 0), none),
  (7, .aload_n 0, 1, (0, 0, 0, 0), none),
  (8, .getfield 9, 3, (5, 0, 7, 0), none),
  (11, .iload_n 1, 1, (0, 0, 0, 0), none),
  (12, .iload_n 2, 1, (0, 0, 0, 0), none),
  (13, .aload_n 0, 1, (0, 0, 0, 0), none),
  (14, .invokevirtual 505, 3, (294, 1, 1, 5), none),
  (17, .invokestatic 637, 3, (303, 4, 1, 0), none),
  (20, .goto 16, 3, (0, 0, 0, 0), none),
  (23, .aload_n 0, 1, (0, 0, 0, 0), none),
  (24, .getfield 9, 3, (5, 0, 7, 0), none),
  (27, .iload_n 1, 1, (0, 0, 0, 0), none),
  (28, .iload_n 2, 1, (0, 0, 0, 0), none),
  (29, .aload_n 0, 1, (0, 0, 0, 0), none),
  (30, .invokevirtual 505, 3, (294, 1, 1, 5), none),
  (33, .invokestatic 640, 3, (9999, 4, 1, 0), none),
  (36, .ireturn, 1, (0, 0, 0, 0), none)]
def cd_J0_coder_7d493 : List sm_E := [(0, .getstatic 38, 3, (0, 1, 0, 0), none),
  (3, .ifCond .eq 10, 3, (0, 0, 0, 0), none),
  (6, .aload_n 0, 1, (0, 0, 0, 0), none),
  (7, .getfield 15, 3, (5, 1, 9, 0), none),
  (10, .goto 4, 3, (0, 0, 0, 0), none),
  (13, .iconst 1, 1, (0, 0, 0, 0), none),
  (14, .ireturn, 1, (3, 0, 0, 0), none)]
def cd_J0_isLatin1_aae02 : List sm_E := [(0, .getstatic 38, 3, (0, 1, 0, 0), none),
  (3, .ifCond .eq 14, 3, (0, 0, 0, 0), none),
  (6, .aload_n 0, 1, (0, 0, 0, 0), none),
  (7, .getfield 15, 3, (5, 1, 9, 0), none),
  (10, .ifCond .ne 7, 3, (0, 0, 0, 0), none),
  (13, .iconst 1, 1, (0, 0, 0, 0), none),
  (14, .goto 4, 3, (0, 0, 0, 0), none),
  (17, .iconst 0, 1, (0, 0, 0, 0), none),
  (18, .ireturn, 1, (1, 0, 0, 0), none)]
def cd_J0_checkIndex_df160 : List sm_E := [(0, .iload_n 0, 1, (0, 0, 0, 0), none),
  (1, .iload_n 1, 1, (0, 0, 0, 0), none),
  (2, .getstatic 1053, 3, (2, 0, 0, 0), none),
  (5, .invokestatic 1059, 3, (305, 3, 1, 0), none),
  (8, .pop, 1, (0, 0, 0, 0), none),
  (9, .return_, 1, (0, 0, 0, 0), none)]
def cd_J1_charAt_3b067 : List sm_E := [(0, .iload_n 1, 1, (0, 0, 0, 0), none),
  (1, .aload_n 0, 1, (0, 0, 0, 0), none),
  (2, .arraylength, 1, (7, 0, 0, 0), none),
  (3, .invokestatic 9, 3, (300, 2, 0, 0), none),
  (6, .aload_n 0, 1, (0, 0, 0, 0), none),
  (7, .iload_n 1, 1, (0, 0, 0, 0), none),
  (8, .baload, 1, (7, 0, 0, 0), none),
  (9, .sipush 255, 3, (0, 0, 0, 0), none),
  (12, .iand, 1, (0, 0, 0, 0), none),
  (13, .i2c, 1, (0, 0, 0, 0), none),
  (14, .ireturn, 1, (2, 0, 0, 0), none)]
def cd_J1_canEncode_9a6ad : List sm_E := [(0, .iload_n 0, 1, (0, 0, 0, 0), none),
  (1, .ifCond .lt 14, 3, (0, 0, 0, 0), none),
  (4, .iload_n 0, 1, (0, 0, 0, 0), none),
  (5, .sipush 255, 3, (0, 0, 0, 0), none),
  (8, .if_icmp .gt 7, 3, (0, 0, 0, 0), none),
  (11, .iconst 1, 1, (0, 0, 0, 0), none),
  (12, .goto 4, 3, (0, 0, 0, 0), none),
  (15, .iconst 0, 1, (0, 0, 0, 0), none),
  (16, .ireturn, 1, (1, 0, 0, 0), none)]
def cd_J1_indexOf_4cfef : List sm_E := [(0, .iload_n 1, 1, (0, 0, 0, 0), none),
  (1, .invokestatic 88, 3, (302, 1, 1, 0), none),
  (4, .ifCond .ne 5, 3, (0, 0, 0, 0), none),
  (7, .iconst (-1), 1, (0, 0, 0, 0), none),
  (8, .ireturn, 1, (0, 0, 0, 0), none),
  (9, .iload_n 2, 1, (0, 0, 0, 0), none),
  (10, .iconst 0, 1, (0, 0, 0, 0), none),
  (11, .invokestatic 92, 3, (306, 2, 1, 0), none),
  (14, .istore_n 2, 1, (0, 0, 0, 0), none),
  (15, .iload_n 3, 1, (0, 0, 0, 0), none),
  (16, .aload_n 0, 1, (0, 0, 0, 0), none),
  (17, .arraylength, 1, (7, 0, 0, 0), none),
  (18, .invokestatic 38, 3, (307, 2, 1, 0), none),
  (21, .istore_n 3, 1, (0, 0, 0, 0), none),
  (22, .iload_n 2, 1, (0, 0, 0, 0), none),
  (23, .iload_n 3, 1, (0, 0, 0, 0), none),
  (24, .if_icmp .lt 5, 3, (0, 0, 0, 0), none),
  (27, .iconst (-1), 1, (0, 0, 0, 0), none),
  (28, .ireturn, 1, (0, 0, 0, 0), none),
  (29, .aload_n 0, 1, (0, 0, 0, 0), none),
  (30, .iload_n 1, 1, (0, 0, 0, 0), none),
  (31, .iload_n 2, 1, (0, 0, 0, 0), none),
  (32, .iload_n 3, 1, (0, 0, 0, 0), none),
  (33, .invokestatic 95, 3, (304, 4, 1, 0), none),
  (36, .ireturn, 1, (0, 0, 0, 0), none)]
def cd_J1_indexOfChar_4cfef : List sm_E := [(0, .iload_n 1, 1, (0, 0, 0, 0), none),
  (1, .i2b, 1, (0, 0, 0, 0), none),
  (2, .istore 4, 2, (0, 0, 0, 0), none),
  (4, .iload_n 2, 1, (0, 0, 0, 0), none),
  (5, .istore 5, 2, (0, 0, 0, 0), none),
  (7, .iload 5, 2, (0, 0, 0, 0), some [0, 3, 4, 5]),
  (9, .iload_n 3, 1, (0, 0, 0, 0), none),
  (10, .if_icmp .ge 21, 3, (0, 0, 0, 0), none),
  (13, .aload_n 0, 1, (0, 0, 0, 0), none),
  (14, .iload 5, 2, (0, 0, 0, 0), none),
  (16, .baload, 1, (7, 0, 0, 0), none),
  (17, .iload 4, 2, (0, 0, 0, 0), none),
  (19, .if_icmp .ne 6, 3, (0, 0, 0, 0), none),
  (22, .iload 5, 2, (0, 0, 0, 0), none),
  (24, .ireturn, 1, (0, 0, 0, 0), none),
  (25, .iinc 5 1, 3, (0, 0, 0, 0), none),
  (28, .goto (-21), 3, (0, 0, 0, 0), none),
  (31, .iconst (-1), 1, (0, 0, 0, 0), none),
  (32, .ireturn, 1, (0, 0, 0, 0), none)]
def cd_J3_checkIndex_8e157 : List sm_E := [(0, .iload_n 0, 1, (0, 0, 0, 0), none),
  (1, .ifCond .lt 8, 3, (0, 0, 0, 0), none),
  (4, .iload_n 0, 1, (0, 0, 0, 0), none),
  (5, .iload_n 1, 1, (0, 0, 0, 0), none),
  (6, .if_icmp .lt 10, 3, (0, 0, 0, 0), none),
  (9, .aload_n 2, 1, (0, 0, 0, 0), none),
  (10, .iload_n 0, 1, (0, 0, 0, 0), none),
  (11, .iload_n 1, 1, (0, 0, 0, 0), none),
  (12, .invokestatic 95, 3, (0, 0, 0, 0), none),
  (15, .athrow, 1, (0, 0, 0, 0), none),
  (16, .iload_n 0, 1, (0, 0, 0, 0), none),
  (17, .ireturn, 1, (0, 0, 0, 0), none)]
def cd_J9_max_7cf53 : List sm_E := [(0, .iload_n 0, 1, (0, 0, 0, 0), none),
  (1, .iload_n 1, 1, (0, 0, 0, 0), none),
  (2, .if_icmp .lt 7, 3, (0, 0, 0, 0), none),
  (5, .iload_n 0, 1, (0, 0, 0, 0), none),
  (6, .goto 4, 3, (0, 0, 0, 0), none),
  (9, .iload_n 1, 1, (0, 0, 0, 0), none),
  (10, .ireturn, 1, (0, 0, 0, 0), none)]
def cd_J9_min_7cf53 : List sm_E := [(0, .iload_n 0, 1, (0, 0, 0, 0), none),
  (1, .iload_n 1, 1, (0, 0, 0, 0), none),
  (2, .if_icmp .gt 7, 3, (0, 0, 0, 0), none),
  (5, .iload_n 0, 1, (0, 0, 0, 0), none),
  (6, .goto 4, 3, (0, 0, 0, 0), none),
  (9, .iload_n 1, 1, (0, 0, 0, 0), none),
  (10, .ireturn, 1, (0, 0, 0, 0), none)]
def cd_L_law : List sm_E := [(0, .new 7, 3, (21, 7, 0, 0), none),
  (3, .dup, 1, (0, 0, 0, 0), none),
  (4, .invokespecial 9, 3, (166, 1, 0, 21), none),
  (7, .astore_n 1, 1, (0, 0, 0, 0), none),
  (8, .new 10, 3, (23, 67, 0, 0), none),
  (11, .dup, 1, (0, 0, 0, 0), none),
  (12, .invokespecial 12, 3, (277, 1, 0, 23), none),
  (15, .astore_n 2, 1, (0, 0, 0, 0), none),
  (16, .iconst 0, 1, (0, 0, 0, 0), none),
  (17, .istore_n 3, 1, (0, 0, 0, 0), none),
  (18, .iload_n 3, 1, (0, 0, 0, 0), some [0, 1, 2, 3]),
  (19, .aload_n 0, 1, (0, 0, 0, 0), none),
  (20, .arraylength, 1, (4, 0, 0, 0), none),
  (21, .bipush 6, 2, (0, 0, 0, 0), none),
  (23, .isub, 1, (0, 0, 0, 0), none),
  (24, .if_icmp .gt 501, 3, (0, 0, 0, 0), none),
  (27, .aload_n 0, 1, (0, 0, 0, 0), none),
  (28, .iload_n 3, 1, (0, 0, 0, 0), none),
  (29, .iaload, 1, (4, 0, 0, 0), none),
  (30, .bipush 15, 2, (0, 0, 0, 0), none),
  (32, .iand, 1, (0, 0, 0, 0), none),
  (33, .tableswitch 486 0 12 #[67, 130, 153, 176, 229, 252, 275, 308, 331, 364, 397, 430, 463], 67, (0, 0, 0, 0), none),
  (100, .aload_n 1, 1, (0, 0, 0, 0), none),
  (101, .aload_n 0, 1, (0, 0, 0, 0), none),
  (102, .iload_n 3, 1, (0, 0, 0, 0), none),
  (103, .iconst 1, 1, (0, 0, 0, 0), none),
  (104, .iadd, 1, (0, 0, 0, 0), none),
  (105, .iaload, 1, (4, 0, 0, 0), none),
  (106, .aload_n 0, 1, (0, 0, 0, 0), none),
  (107, .iload_n 3, 1, (0, 0, 0, 0), none),
  (108, .iconst 2, 1, (0, 0, 0, 0), none),
  (109, .iadd, 1, (0, 0, 0, 0), none),
  (110, .iaload, 1, (4, 0, 0, 0), none),
  (111, .aload_n 0, 1, (0, 0, 0, 0), none),
  (112, .iload_n 3, 1, (0, 0, 0, 0), none),
  (113, .iconst 3, 1, (0, 0, 0, 0), none),
  (114, .iadd, 1, (0, 0, 0, 0), none),
  (115, .iaload, 1, (4, 0, 0, 0), none),
  (116, .aload_n 0, 1, (0, 0, 0, 0), none),
  (117, .iload_n 3, 1, (0, 0, 0, 0), none),
  (118, .iconst 4, 1, (0, 0, 0, 0), none),
  (119, .iadd, 1, (0, 0, 0, 0), none),
  (120, .iaload, 1, (4, 0, 0, 0), none),
  (121, .aload_n 0, 1, (0, 0, 0, 0), none),
  (122, .iload_n 3, 1, (0, 0, 0, 0), none),
  (123, .iconst 5, 1, (0, 0, 0, 0), none),
  (124, .iadd, 1, (0, 0, 0, 0), none),
  (125, .iaload, 1, (4, 0, 0, 0), none),
  (126, .invokevirtual 13, 3, (167, 6, 1, 21), none),
  (129, .aload_n 2, 1, (0, 0, 0, 0), none),
  (130, .aload_n 0, 1, (0, 0, 0, 0), none),
  (131, .iload_n 3, 1, (0, 0, 0, 0), none),
  (132, .iconst 1, 1, (0, 0, 0, 0), none),
  (133, .iadd, 1, (0, 0, 0, 0), none),
  (134, .iaload, 1, (4, 0, 0, 0), none),
  (135, .aload_n 0, 1, (0, 0, 0, 0), none),
  (136, .iload_n 3, 1, (0, 0, 0, 0), none),
  (137, .iconst 2, 1, (0, 0, 0, 0), none),
  (138, .iadd, 1, (0, 0, 0, 0), none),
  (139, .iaload, 1, (4, 0, 0, 0), none),
  (140, .aload_n 0, 1, (0, 0, 0, 0), none),
  (141, .iload_n 3, 1, (0, 0, 0, 0), none),
  (142, .iconst 3, 1, (0, 0, 0, 0), none),
  (143, .iadd, 1, (0, 0, 0, 0), none),
  (144, .iaload, 1, (4, 0, 0, 0), none),
  (145, .aload_n 0, 1, (0, 0, 0, 0), none),
  (146, .iload_n 3, 1, (0, 0, 0, 0), none),
  (147, .iconst 4, 1, (0, 0, 0, 0), none),
  (148, .iadd, 1, (0, 0, 0, 0), none),
  (149, .iaload, 1, (4, 0, 0, 0), none),
  (150, .aload_n 0, 1, (0, 0, 0, 0), none),
  (151, .iload_n 3, 1, (0, 0, 0, 0), none),
  (152, .iconst 5, 1, (0, 0, 0, 0), none),
  (153, .iadd, 1, (0, 0, 0, 0), none),
  (154, .iaload, 1, (4, 0, 0, 0), none),
  (155, .invokevirtual 17, 3, (279, 6, 1, 23), none),
  (158, .if_icmp .eq 361, 3, (0, 0, 0, 0), none),
  (161, .iconst 0, 1, (0, 0, 0, 0), none),
  (162, .ireturn, 1, (1, 0, 0, 0), none),
  (163, .aload_n 1, 1, (0, 0, 0, 0), none),
  (164, .aload_n 0, 1, (0, 0, 0, 0), none),
  (165, .iload_n 3, 1, (0, 0, 0, 0), none),
  (166, .iconst 1, 1, (0, 0, 0, 0), none),
  (167, .iadd, 1, (0, 0, 0, 0), none),
  (168, .iaload, 1, (4, 0, 0, 0), none),
  (169, .invokevirtual 18, 3, (168, 2, 1, 21), none),
  (172, .aload_n 2, 1, (0, 0, 0, 0), none),
  (173, .aload_n 0, 1, (0, 0, 0, 0), none),
  (174, .iload_n 3, 1, (0, 0, 0, 0), none),
  (175, .iconst 1, 1, (0, 0, 0, 0), none),
  (176, .iadd, 1, (0, 0, 0, 0), none),
  (177, .iaload, 1, (4, 0, 0, 0), none),
  (178, .invokevirtual 22, 3, (280, 2, 1, 23), none),
  (181, .if_icmp .eq 338, 3, (0, 0, 0, 0), none),
  (184, .iconst 0, 1, (0, 0, 0, 0), none),
  (185, .ireturn, 1, (1, 0, 0, 0), none),
  (186, .aload_n 1, 1, (0, 0, 0, 0), none),
  (187, .aload_n 0, 1, (0, 0, 0, 0), none),
  (188, .iload_n 3, 1, (0, 0, 0, 0), none),
  (189, .iconst 1, 1, (0, 0, 0, 0), none),
  (190, .iadd, 1, (0, 0, 0, 0), none),
  (191, .iaload, 1, (4, 0, 0, 0), none),
  (192, .invokevirtual 23, 3, (169, 2, 1, 21), none),
  (195, .aload_n 2, 1, (0, 0, 0, 0), none),
  (196, .aload_n 0, 1, (0, 0, 0, 0), none),
  (197, .iload_n 3, 1, (0, 0, 0, 0), none),
  (198, .iconst 1, 1, (0, 0, 0, 0), none),
  (199, .iadd, 1, (0, 0, 0, 0), none),
  (200, .iaload, 1, (4, 0, 0, 0), none),
  (201, .invokevirtual 26, 3, (281, 2, 1, 23), none),
  (204, .if_icmp .eq 315, 3, (0, 0, 0, 0), none),
  (207, .iconst 0, 1, (0, 0, 0, 0), none),
  (208, .ireturn, 1, (1, 0, 0, 0), none),
  (209, .aload_n 1, 1, (0, 0, 0, 0), none),
  (210, .aload_n 0, 1, (0, 0, 0, 0), none),
  (211, .iload_n 3, 1, (0, 0, 0, 0), none),
  (212, .iconst 1, 1, (0, 0, 0, 0), none),
  (213, .iadd, 1, (0, 0, 0, 0), none),
  (214, .iaload, 1, (4, 0, 0, 0), none),
  (215, .aload_n 0, 1, (0, 0, 0, 0), none),
  (216, .iload_n 3, 1, (0, 0, 0, 0), none),
  (217, .iconst 2, 1, (0, 0, 0, 0), none),
  (218, .iadd, 1, (0, 0, 0, 0), none),
  (219, .iaload, 1, (4, 0, 0, 0), none),
  (220, .aload_n 0, 1, (0, 0, 0, 0), none),
  (221, .iload_n 3, 1, (0, 0, 0, 0), none),
  (222, .iconst 3, 1, (0, 0, 0, 0), none),
  (223, .iadd, 1, (0, 0, 0, 0), none),
  (224, .iaload, 1, (4, 0, 0, 0), none),
  (225, .aload_n 0, 1, (0, 0, 0, 0), none),
  (226, .iload_n 3, 1, (0, 0, 0, 0), none),
  (227, .iconst 4, 1, (0, 0, 0, 0), none),
  (228, .iadd, 1, (0, 0, 0, 0), none),
  (229, .iaload, 1, (4, 0, 0, 0), none),
  (230, .invokevirtual 27, 3, (170, 5, 1, 21), none),
  (233, .aload_n 2, 1, (0, 0, 0, 0), none),
  (234, .aload_n 0, 1, (0, 0, 0, 0), none),
  (235, .iload_n 3, 1, (0, 0, 0, 0), none),
  (236, .iconst 1, 1, (0, 0, 0, 0), none),
  (237, .iadd, 1, (0, 0, 0, 0), none),
  (238, .iaload, 1, (4, 0, 0, 0), none),
  (239, .aload_n 0, 1, (0, 0, 0, 0), none),
  (240, .iload_n 3, 1, (0, 0, 0, 0), none),
  (241, .iconst 2, 1, (0, 0, 0, 0), none),
  (242, .iadd, 1, (0, 0, 0, 0), none),
  (243, .iaload, 1, (4, 0, 0, 0), none),
  (244, .aload_n 0, 1, (0, 0, 0, 0), none),
  (245, .iload_n 3, 1, (0, 0, 0, 0), none),
  (246, .iconst 3, 1, (0, 0, 0, 0), none),
  (247, .iadd, 1, (0, 0, 0, 0), none),
  (248, .iaload, 1, (4, 0, 0, 0), none),
  (249, .aload_n 0, 1, (0, 0, 0, 0), none),
  (250, .iload_n 3, 1, (0, 0, 0, 0), none),
  (251, .iconst 4, 1, (0, 0, 0, 0), none),
  (252, .iadd, 1, (0, 0, 0, 0), none),
  (253, .iaload, 1, (4, 0, 0, 0), none),
  (254, .invokevirtual 31, 3, (283, 5, 1, 23), none),
  (257, .if_icmp .eq 262, 3, (0, 0, 0, 0), none),
  (260, .iconst 0, 1, (0, 0, 0, 0), none),
  (261, .ireturn, 1, (1, 0, 0, 0), none),
  (262, .aload_n 1, 1, (0, 0, 0, 0), none),
  (263, .aload_n 0, 1, (0, 0, 0, 0), none),
  (264, .iload_n 3, 1, (0, 0, 0, 0), none),
  (265, .iconst 1, 1, (0, 0, 0, 0), none),
  (266, .iadd, 1, (0, 0, 0, 0), none),
  (267, .iaload, 1, (4, 0, 0, 0), none),
  (268, .invokevirtual 32, 3, (171, 2, 1, 21), none),
  (271, .aload_n 2, 1, (0, 0, 0, 0), none),
  (272, .aload_n 0, 1, (0, 0, 0, 0), none),
  (273, .iload_n 3, 1, (0, 0, 0, 0), none),
  (274, .iconst 1, 1, (0, 0, 0, 0), none),
  (275, .iadd, 1, (0, 0, 0, 0), none),
  (276, .iaload, 1, (4, 0, 0, 0), none),
  (277, .invokevirtual 35, 3, (284, 2, 1, 23), none),
  (280, .if_icmp .eq 239, 3, (0, 0, 0, 0), none),
  (283, .iconst 0, 1, (0, 0, 0, 0), none),
  (284, .ireturn, 1, (1, 0, 0, 0), none),
  (285, .aload_n 1, 1, (0, 0, 0, 0), none),
  (286, .aload_n 0, 1, (0, 0, 0, 0), none),
  (287, .iload_n 3, 1, (0, 0, 0, 0), none),
  (288, .iconst 1, 1, (0, 0, 0, 0), none),
  (289, .iadd, 1, (0, 0, 0, 0), none),
  (290, .iaload, 1, (4, 0, 0, 0), none),
  (291, .invokevirtual 36, 3, (172, 2, 1, 21), none),
  (294, .aload_n 2, 1, (0, 0, 0, 0), none),
  (295, .aload_n 0, 1, (0, 0, 0, 0), none),
  (296, .iload_n 3, 1, (0, 0, 0, 0), none),
  (297, .iconst 1, 1, (0, 0, 0, 0), none),
  (298, .iadd, 1, (0, 0, 0, 0), none),
  (299, .iaload, 1, (4, 0, 0, 0), none),
  (300, .invokevirtual 39, 3, (285, 2, 1, 23), none),
  (303, .if_icmp .eq 216, 3, (0, 0, 0, 0), none),
  (306, .iconst 0, 1, (0, 0, 0, 0), none),
  (307, .ireturn, 1, (1, 0, 0, 0), none),
  (308, .aload_n 1, 1, (0, 0, 0, 0), none),
  (309, .aload_n 0, 1, (0, 0, 0, 0), none),
  (310, .iload_n 3, 1, (0, 0, 0, 0), none),
  (311, .iconst 1, 1, (0, 0, 0, 0), none),
  (312, .iadd, 1, (0, 0, 0, 0), none),
  (313, .iaload, 1, (4, 0, 0, 0), none),
  (314, .aload_n 0, 1, (0, 0, 0, 0), none),
  (315, .iload_n 3, 1, (0, 0, 0, 0), none),
  (316, .iconst 2, 1, (0, 0, 0, 0), none),
  (317, .iadd, 1, (0, 0, 0, 0), none),
  (318, .iaload, 1, (4, 0, 0, 0), none),
  (319, .invokevirtual 40, 3, (173, 3, 1, 21), none),
  (322, .aload_n 2, 1, (0, 0, 0, 0), none),
  (323, .aload_n 0, 1, (0, 0, 0, 0), none),
  (324, .iload_n 3, 1, (0, 0, 0, 0), none),
  (325, .iconst 1, 1, (0, 0, 0, 0), none),
  (326, .iadd, 1, (0, 0, 0, 0), none),
  (327, .iaload, 1, (4, 0, 0, 0), none),
  (328, .aload_n 0, 1, (0, 0, 0, 0), none),
  (329, .iload_n 3, 1, (0, 0, 0, 0), none),
  (330, .iconst 2, 1, (0, 0, 0, 0), none),
  (331, .iadd, 1, (0, 0, 0, 0), none),
  (332, .iaload, 1, (4, 0, 0, 0), none),
  (333, .invokevirtual 44, 3, (286, 3, 1, 23), none),
  (336, .if_icmp .eq 183, 3, (0, 0, 0, 0), none),
  (339, .iconst 0, 1, (0, 0, 0, 0), none),
  (340, .ireturn, 1, (1, 0, 0, 0), none),
  (341, .aload_n 1, 1, (0, 0, 0, 0), none),
  (342, .aload_n 0, 1, (0, 0, 0, 0), none),
  (343, .iload_n 3, 1, (0, 0, 0, 0), none),
  (344, .iconst 1, 1, (0, 0, 0, 0), none),
  (345, .iadd, 1, (0, 0, 0, 0), none),
  (346, .iaload, 1, (4, 0, 0, 0), none),
  (347, .invokevirtual 45, 3, (174, 2, 1, 21), none),
  (350, .aload_n 2, 1, (0, 0, 0, 0), none),
  (351, .aload_n 0, 1, (0, 0, 0, 0), none),
  (352, .iload_n 3, 1, (0, 0, 0, 0), none),
  (353, .iconst 1, 1, (0, 0, 0, 0), none),
  (354, .iadd, 1, (0, 0, 0, 0), none),
  (355, .iaload, 1, (4, 0, 0, 0), none),
  (356, .invokevirtual 48, 3, (287, 2, 1, 23), none),
  (359, .if_icmp .eq 160, 3, (0, 0, 0, 0), none),
  (362, .iconst 0, 1, (0, 0, 0, 0), none),
  (363, .ireturn, 1, (1, 0, 0, 0), none),
  (364, .aload_n 1, 1, (0, 0, 0, 0), none),
  (365, .aload_n 0, 1, (0, 0, 0, 0), none),
  (366, .iload_n 3, 1, (0, 0, 0, 0), none),
  (367, .iconst 1, 1, (0, 0, 0, 0), none),
  (368, .iadd, 1, (0, 0, 0, 0), none),
  (369, .iaload, 1, (4, 0, 0, 0), none),
  (370, .aload_n 0, 1, (0, 0, 0, 0), none),
  (371, .iload_n 3, 1, (0, 0, 0, 0), none),
  (372, .iconst 2, 1, (0, 0, 0, 0), none),
  (373, .iadd, 1, (0, 0, 0, 0), none),
  (374, .iaload, 1, (4, 0, 0, 0), none),
  (375, .invokevirtual 49, 3, (175, 3, 1, 21), none),
  (378, .aload_n 2, 1, (0, 0, 0, 0), none),
  (379, .aload_n 0, 1, (0, 0, 0, 0), none),
  (380, .iload_n 3, 1, (0, 0, 0, 0), none),
  (381, .iconst 1, 1, (0, 0, 0, 0), none),
  (382, .iadd, 1, (0, 0, 0, 0), none),
  (383, .iaload, 1, (4, 0, 0, 0), none),
  (384, .aload_n 0, 1, (0, 0, 0, 0), none),
  (385, .iload_n 3, 1, (0, 0, 0, 0), none),
  (386, .iconst 2, 1, (0, 0, 0, 0), none),
  (387, .iadd, 1, (0, 0, 0, 0), none),
  (388, .iaload, 1, (4, 0, 0, 0), none),
  (389, .invokevirtual 53, 3, (288, 3, 1, 23), none),
  (392, .if_icmp .eq 127, 3, (0, 0, 0, 0), none),
  (395, .iconst 0, 1, (0, 0, 0, 0), none),
  (396, .ireturn, 1, (1, 0, 0, 0), none),
  (397, .aload_n 1, 1, (0, 0, 0, 0), none),
  (398, .aload_n 0, 1, (0, 0, 0, 0), none),
  (399, .iload_n 3, 1, (0, 0, 0, 0), none),
  (400, .iconst 1, 1, (0, 0, 0, 0), none),
  (401, .iadd, 1, (0, 0, 0, 0), none),
  (402, .iaload, 1, (4, 0, 0, 0), none),
  (403, .aload_n 0, 1, (0, 0, 0, 0), none),
  (404, .iload_n 3, 1, (0, 0, 0, 0), none),
  (405, .iconst 2, 1, (0, 0, 0, 0), none),
  (406, .iadd, 1, (0, 0, 0, 0), none),
  (407, .iaload, 1, (4, 0, 0, 0), none),
  (408, .invokevirtual 54, 3, (176, 3, 1, 21), none),
  (411, .aload_n 2, 1, (0, 0, 0, 0), none),
  (412, .aload_n 0, 1, (0, 0, 0, 0), none),
  (413, .iload_n 3, 1, (0, 0, 0, 0), none),
  (414, .iconst 1, 1, (0, 0, 0, 0), none),
  (415, .iadd, 1, (0, 0, 0, 0), none),
  (416, .iaload, 1, (4, 0, 0, 0), none),
  (417, .aload_n 0, 1, (0, 0, 0, 0), none),
  (418, .iload_n 3, 1, (0, 0, 0, 0), none),
  (419, .iconst 2, 1, (0, 0, 0, 0), none),
  (420, .iadd, 1, (0, 0, 0, 0), none),
  (421, .iaload, 1, (4, 0, 0, 0), none),
  (422, .invokevirtual 57, 3, (290, 3, 1, 23), none),
  (425, .if_icmp .eq 94, 3, (0, 0, 0, 0), none),
  (428, .iconst 0, 1, (0, 0, 0, 0), none),
  (429, .ireturn, 1, (1, 0, 0, 0), none),
  (430, .aload_n 1, 1, (0, 0, 0, 0), none),
  (431, .aload_n 0, 1, (0, 0, 0, 0), none),
  (432, .iload_n 3, 1, (0, 0, 0, 0), none),
  (433, .iconst 1, 1, (0, 0, 0, 0), none),
  (434, .iadd, 1, (0, 0, 0, 0), none),
  (435, .iaload, 1, (4, 0, 0, 0), none),
  (436, .aload_n 0, 1, (0, 0, 0, 0), none),
  (437, .iload_n 3, 1, (0, 0, 0, 0), none),
  (438, .iconst 2, 1, (0, 0, 0, 0), none),
  (439, .iadd, 1, (0, 0, 0, 0), none),
  (440, .iaload, 1, (4, 0, 0, 0), none),
  (441, .invokevirtual 58, 3, (177, 3, 1, 21), none),
  (444, .aload_n 2, 1, (0, 0, 0, 0), none),
  (445, .aload_n 0, 1, (0, 0, 0, 0), none),
  (446, .iload_n 3, 1, (0, 0, 0, 0), none),
  (447, .iconst 1, 1, (0, 0, 0, 0), none),
  (448, .iadd, 1, (0, 0, 0, 0), none),
  (449, .iaload, 1, (4, 0, 0, 0), none),
  (450, .aload_n 0, 1, (0, 0, 0, 0), none),
  (451, .iload_n 3, 1, (0, 0, 0, 0), none),
  (452, .iconst 2, 1, (0, 0, 0, 0), none),
  (453, .iadd, 1, (0, 0, 0, 0), none),
  (454, .iaload, 1, (4, 0, 0, 0), none),
  (455, .invokevirtual 61, 3, (291, 3, 1, 23), none),
  (458, .if_icmp .eq 61, 3, (0, 0, 0, 0), none),
  (461, .iconst 0, 1, (0, 0, 0, 0), none),
  (462, .ireturn, 1, (1, 0, 0, 0), none),
  (463, .aload_n 1, 1, (0, 0, 0, 0), none),
  (464, .aload_n 0, 1, (0, 0, 0, 0), none),
  (465, .iload_n 3, 1, (0, 0, 0, 0), none),
  (466, .iconst 1, 1, (0, 0, 0, 0), none),
  (467, .iadd, 1, (0, 0, 0, 0), none),
  (468, .iaload, 1, (4, 0, 0, 0), none),
  (469, .aload_n 0, 1, (0, 0, 0, 0), none),
  (470, .iload_n 3, 1, (0, 0, 0, 0), none),
  (471, .iconst 2, 1, (0, 0, 0, 0), none),
  (472, .iadd, 1, (0, 0, 0, 0), none),
  (473, .iaload, 1, (4, 0, 0, 0), none),
  (474, .invokevirtual 62, 3, (178, 3, 1, 21), none),
  (477, .aload_n 2, 1, (0, 0, 0, 0), none),
  (478, .aload_n 0, 1, (0, 0, 0, 0), none),
  (479, .iload_n 3, 1, (0, 0, 0, 0), none),
  (480, .iconst 1, 1, (0, 0, 0, 0), none),
  (481, .iadd, 1, (0, 0, 0, 0), none),
  (482, .iaload, 1, (4, 0, 0, 0), none),
  (483, .aload_n 0, 1, (0, 0, 0, 0), none),
  (484, .iload_n 3, 1, (0, 0, 0, 0), none),
  (485, .iconst 2, 1, (0, 0, 0, 0), none),
  (486, .iadd, 1, (0, 0, 0, 0), none),
  (487, .iaload, 1, (4, 0, 0, 0), none),
  (488, .invokevirtual 65, 3, (292, 3, 1, 23), none),
  (491, .if_icmp .eq 28, 3, (0, 0, 0, 0), none),
  (494, .iconst 0, 1, (0, 0, 0, 0), none),
  (495, .ireturn, 1, (1, 0, 0, 0), none),
  (496, .aload_n 1, 1, (0, 0, 0, 0), none),
  (497, .aload_n 0, 1, (0, 0, 0, 0), none),
  (498, .iload_n 3, 1, (0, 0, 0, 0), none),
  (499, .iconst 1, 1, (0, 0, 0, 0), none),
  (500, .iadd, 1, (0, 0, 0, 0), none),
  (501, .iaload, 1, (4, 0, 0, 0), none),
  (502, .invokevirtual 66, 3, (179, 2, 1, 21), none),
  (505, .aload_n 2, 1, (0, 0, 0, 0), none),
  (506, .aload_n 0, 1, (0, 0, 0, 0), none),
  (507, .iload_n 3, 1, (0, 0, 0, 0), none),
  (508, .iconst 1, 1, (0, 0, 0, 0), none),
  (509, .iadd, 1, (0, 0, 0, 0), none),
  (510, .iaload, 1, (4, 0, 0, 0), none),
  (511, .invokevirtual 69, 3, (293, 2, 1, 23), none),
  (514, .if_icmp .eq 5, 3, (0, 0, 0, 0), none),
  (517, .iconst 0, 1, (0, 0, 0, 0), none),
  (518, .ireturn, 1, (1, 0, 0, 0), none),
  (519, .iinc 3 6, 3, (0, 0, 0, 0), none),
  (522, .goto (-504), 3, (0, 0, 0, 0), none),
  (525, .iconst 1, 1, (0, 0, 0, 0), none),
  (526, .ireturn, 1, (1, 0, 0, 0), none)]
end
end
section
section
/-- the code of method number n -/
def sm_cd (n : Nat) : List sm_E := match n with
  | 0 => cd_X0_init
  | 1 => cd_X0_clear
  | 2 => cd_X0_ownProcs
  | 3 => cd_X0_isProc
  | 4 => cd_X0_isOwnProc
  | 5 => cd_X0_addProc
  | 6 => cd_X0_addParameter
  | 7 => cd_X0_setGiven
  | 8 => cd_X0_parameterCount
  | 9 => cd_X0_parameter
  | 10 => cd_X0_given
  | 11 => cd_X0_start
  | 12 => cd_X0_takesInts
  | 13 => cd_X0_emit
  | 14 => cd_X0_takeBack
  | 15 => cd_X0_aimHere
  | 16 => cd_X0_addTry
  | 17 => cd_X0_catchHere
  | 18 => cd_X0_isInstruction
  | 19 => cd_X0_op
  | 20 => cd_X0_arg
  | 21 => cd_X0_tokenPlace
  | 22 => cd_X0_catchOf
  | 23 => cd_X1_isKind
  | 24 => cd_X1_isKindOrAbility
  | 25 => cd_X1_isRow
  | 26 => cd_X1_isReference
  | 27 => cd_X1_isBelow
  | 28 => cd_X1_fits
  | 29 => cd_X1_mayBeAsked
  | 30 => cd_X2_init
  | 31 => cd_X2_isTrack
  | 32 => cd_X2_setStated
  | 33 => cd_X2_rowOn
  | 34 => cd_X2_lay
  | 35 => cd_X2_send
  | 36 => cd_X2_passTime
  | 37 => cd_X2_move
  | 38 => cd_X2_tellTrack
  | 39 => cd_X2_leastTrackWith
  | 40 => cd_X2_tellTrain
  | 41 => cd_X3_init
  | 42 => cd_X3_start
  | 43 => cd_X3_keepRun
  | 44 => cd_X3_tellRun
  | 45 => cd_X3_push
  | 46 => cd_X3_pop
  | 47 => cd_X3_base
  | 48 => cd_X3_nameValue
  | 49 => cd_X3_setName
  | 50 => cd_X3_enter
  | 51 => cd_X3_leave
  | 52 => cd_X3_end
  | 53 => cd_X3_raise
  | 54 => cd_X3_raiseWith
  | 55 => cd_X3_doFree
  | 56 => cd_X3_doAct
  | 57 => cd_X3_doSign
  | 58 => cd_X3_doAs
  | 59 => cd_X3_doIs
  | 60 => cd_X3_doAt
  | 61 => cd_X3_doPut
  | 62 => cd_X3_doField
  | 63 => cd_X3_doSetField
  | 64 => cd_X3_doSize
  | 65 => cd_X3_doNewVehicle
  | 66 => cd_X3_doNewRow
  | 67 => cd_X3_say
  | 68 => cd_X3_sayReference
  | 69 => cd_X3_doLay
  | 70 => cd_X3_doHump
  | 71 => cd_X3_doSend
  | 72 => cd_X4_init
  | 73 => cd_X4_clear
  | 74 => cd_X4_isFull
  | 75 => cd_X4_make
  | 76 => cd_X4_know
  | 77 => cd_X4_knownNow
  | 78 => cd_X4_forgetDownTo
  | 79 => cd_X4_slotOf
  | 80 => cd_X4_typeOf
  | 81 => cd_X5_init
  | 82 => cd_X5_read
  | 83 => cd_X5_refuse
  | 84 => cd_X5_pass
  | 85 => cd_X5_expectFit
  | 86 => cd_X5_expect
  | 87 => cd_X5_expectOpening
  | 88 => cd_X5_readHead
  | 89 => cd_X5_readProcName
  | 90 => cd_X5_findProc
  | 91 => cd_X5_readParameter
  | 92 => cd_X5_readNewName
  | 93 => cd_X5_readType
  | 94 => cd_X5_readTypeUpToLast
  | 95 => cd_X5_readBlock
  | 96 => cd_X5_readStatement
  | 97 => cd_X5_readVar
  | 98 => cd_X5_readPlaceOrCall
  | 99 => cd_X5_readCondition
  | 100 => cd_X5_readIf
  | 101 => cd_X5_readWhile
  | 102 => cd_X5_readTry
  | 103 => cd_X5_readReturn
  | 104 => cd_X5_readSay
  | 105 => cd_X5_readFail
  | 106 => cd_X5_readExpression
  | 107 => cd_X5_readSum
  | 108 => cd_X5_readProduct
  | 109 => cd_X5_finishSign
  | 110 => cd_X5_readUnit
  | 111 => cd_X5_readFirst
  | 112 => cd_X5_readNumber
  | 113 => cd_X5_readValueOfName
  | 114 => cd_X5_readCall
  | 115 => cd_X5_readArgument
  | 116 => cd_X5_readNew
  | 117 => cd_X5_readIndex
  | 118 => cd_X5_readMember
  | 119 => cd_X5_readAsked
  | 120 => cd_X6_init
  | 121 => cd_X6_hasPlace
  | 122 => cd_X6_vehicleAt
  | 123 => cd_X6_put
  | 124 => cd_X6_takes
  | 125 => cd_X6_humpInto
  | 126 => cd_X6_firstFree
  | 127 => cd_X6_sum
  | 128 => cd_X6_burn
  | 129 => cd_X7_init
  | 130 => cd_X7_hasRoom
  | 131 => cd_X7_add
  | 132 => cd_X7_cut
  | 133 => cd_X7_indexIn
  | 134 => cd_X7_withSign
  | 135 => cd_X7_isSmall
  | 136 => cd_X7_isCapital
  | 137 => cd_X7_isDigit
  | 138 => cd_X7_sign
  | 139 => cd_X7_cutToken
  | 140 => cd_X7_cutSmall
  | 141 => cd_X7_cutCapitals
  | 142 => cd_X7_cutNumber
  | 143 => cd_X7_cutSign
  | 144 => cd_X8_init
  | 145 => cd_X8_move
  | 146 => cd_X8_reckonSpeed
  | 147 => cd_X9_init
  | 148 => cd_X9_isReckoned
  | 149 => cd_X9_field
  | 150 => cd_X9_setField
  | 151 => cd_X9_tell
  | 152 => cd_X9_burn
  | 153 => cd_X9_mass
  | 154 => cd_X9_grip
  | 155 => cd_X9_pull
  | 156 => cd_X10_init
  | 157 => cd_X10_hasRoomForVehicle
  | 158 => cd_X10_hasRoomForRow
  | 159 => cd_X10_makeVehicle
  | 160 => cd_X10_makeRow
  | 161 => cd_X10_vehicleOf
  | 162 => cd_X10_rowOf
  | 163 => cd_X10_referenceToVehicle
  | 164 => cd_X10_referenceToRow
  | 165 => cd_X10_typeOf
  | 166 => cd_X11_init
  | 167 => cd_X11_feed
  | 168 => cd_X11_load
  | 169 => cd_X11_fault
  | 170 => cd_X11_run
  | 171 => cd_X11_told
  | 172 => cd_X11_said
  | 173 => cd_X11_state
  | 174 => cd_X11_tick
  | 175 => cd_X11_vehicle
  | 176 => cd_X11_track
  | 177 => cd_X11_place
  | 178 => cd_X11_train
  | 179 => cd_X11_count
  | 180 => cd_X12_init
  | 181 => cd_X13_has
  | 182 => cd_X13_isBelow
  | 183 => cd_X13_isReference
  | 184 => cd_X13_isRow
  | 185 => cd_X13_fits
  | 186 => cd_X13_mayBe
  | 187 => cd_X13_isSmall
  | 188 => cd_X13_isCapital
  | 189 => cd_X13_isDigit
  | 190 => cd_X13_sign
  | 191 => cd_X13_packed
  | 192 => cd_X13_wordOf
  | 193 => cd_X13_word
  | 194 => cd_X13_kindName
  | 195 => cd_X13_kindOf
  | 196 => cd_X13_scan
  | 197 => cd_X13_token
  | 198 => cd_X13_isSign
  | 199 => cd_X13_name
  | 200 => cd_X13_fails
  | 201 => cd_X13_form
  | 202 => cd_X13_types
  | 203 => cd_X13_next
  | 204 => cd_X13_is
  | 205 => cd_X13_isWord
  | 206 => cd_X13_must
  | 207 => cd_X13_put
  | 208 => cd_X13_text
  | 209 => cd_X13_five
  | 210 => cd_X13_procOf
  | 211 => cd_X13_proc
  | 212 => cd_X13_params
  | 213 => cd_X13_variable
  | 214 => cd_X13_knows
  | 215 => cd_X13_fresh
  | 216 => cd_X13_type
  | 217 => cd_X13_block
  | 218 => cd_X13_statement
  | 219 => cd_X13_variable_
  | 220 => cd_X13_asks
  | 221 => cd_X13_chooses
  | 222 => cd_X13_repeats
  | 223 => cd_X13_attempts
  | 224 => cd_X13_gives
  | 225 => cd_X13_isBare
  | 226 => cd_X13_waits
  | 227 => cd_X13_reads
  | 228 => cd_X13_acts
  | 229 => cd_X13_opens
  | 230 => cd_X13_e
  | 231 => cd_X13_sum
  | 232 => cd_X13_product
  | 233 => cd_X13_unitValue
  | 234 => cd_X13_unit
  | 235 => cd_X13_number
  | 236 => cd_X13_first
  | 237 => cd_X13_makes
  | 238 => cd_X13_paramsOfFive
  | 239 => cd_X13_paramType
  | 240 => cd_X13_call
  | 241 => cd_X13_element
  | 242 => cd_X13_fieldOf
  | 243 => cd_X13_ownerOf
  | 244 => cd_X13_field
  | 245 => cd_X13_asked
  | 246 => cd_X13_typeOf
  | 247 => cd_X13_asVehicle
  | 248 => cd_X13_isOf
  | 249 => cd_X13_mass
  | 250 => cd_X13_grip
  | 251 => cd_X13_pull
  | 252 => cd_X13_fieldOf_
  | 253 => cd_X13_push
  | 254 => cd_X13_pop
  | 255 => cd_X13_ends
  | 256 => cd_X13_fault
  | 257 => cd_X13_returns
  | 258 => cd_X13_enters
  | 259 => cd_X13_begins
  | 260 => cd_X13_works
  | 261 => cd_X13_act
  | 262 => cd_X13_reckons
  | 263 => cd_X13_says
  | 264 => cd_X13_element0
  | 265 => cd_X13_puts
  | 266 => cd_X13_make
  | 267 => cd_X13_makeRow
  | 268 => cd_X13_isTrack
  | 269 => cd_X13_takes
  | 270 => cd_X13_five_
  | 271 => cd_X13_hump
  | 272 => cd_X13_send
  | 273 => cd_X13_massOf
  | 274 => cd_X13_speedOf
  | 275 => cd_X13_burns
  | 276 => cd_X13_goes
  | 277 => cd_X13_init
  | 278 => cd_X13_comes
  | 279 => cd_X13_feed
  | 280 => cd_X13_load
  | 281 => cd_X13_fault_
  | 282 => cd_X13_mayRun
  | 283 => cd_X13_run
  | 284 => cd_X13_told
  | 285 => cd_X13_said
  | 286 => cd_X13_state
  | 287 => cd_X13_tick
  | 288 => cd_X13_vehicle
  | 289 => cd_X13_least
  | 290 => cd_X13_track
  | 291 => cd_X13_place
  | 292 => cd_X13_train
  | 293 => cd_X13_count
  | 294 => cd_J0_length_8abf5
  | 295 => cd_J0_charAt_5068e
  | 296 => cd_J0_indexOf_0f7a4
  | 297 => cd_J0_indexOf_7cf53
  | 298 => cd_J0_coder_7d493
  | 299 => cd_J0_isLatin1_aae02
  | 300 => cd_J0_checkIndex_df160
  | 301 => cd_J1_charAt_3b067
  | 302 => cd_J1_canEncode_9a6ad
  | 303 => cd_J1_indexOf_4cfef
  | 304 => cd_J1_indexOfChar_4cfef
  | 305 => cd_J3_checkIndex_8e157
  | 306 => cd_J9_max_7cf53
  | 307 => cd_J9_min_7cf53
  | 308 => cd_L_law
  | _ => []
/-- the one handler -/
def sm_hd (n pc : Nat) : Option Nat := bif n == 280 then (bif Nat.ble 34 pc && Nat.blt pc 38 then some 41 else none) else none
def sm_PP : sm_P := (sm_cd, sm_nl, sm_hd)
abbrev sm_ZZ (X : Nat × (Nat → Int32)) : sm_T := (X, sm_tb, sm_by, sm_lg)
end
end
section
section
/-! THE SMALL STATE AND THE HEAP. E: where the claim's own cells begin; the script's cell; texts, their bytes, tables of ints; a static that nobody looks at; the classes' numbers and slots; classes of rows; the heap at the start -/
abbrev sm_G : Type := Nat × Nat × (Nat → Nat) × (Nat → Nat) × (Nat → Nat) × Value × va_G × (Nat → ClassId) × Heap
abbrev sm_ad (σ : sm_S) : Nat → Nat → Nat := σ.2.2.2.2.2.1
abbrev sm_cnt (σ : sm_S) : Nat → Nat := σ.2.2.2.2.1
abbrev sm_cells (σ : sm_S) : Nat := σ.2.2.2.2.2.2.1
abbrev sm_slots (σ : sm_S) : Nat := σ.2.2.2.2.2.2.2
def sm_rp (E : sm_G) (ad : Nat → Nat → Nat) (q : Nat × Nat) : Option Nat :=
  if q.1 = 0 then none else if q.1 = 4 then some E.2.1 else if q.1 = 5 then some (E.2.2.1 q.2) else if q.1 = 6 then some (E.2.2.2.2.1 q.2) else if q.1 = 7 then some (E.2.2.2.1 q.2) else some (E.1 + ad q.1 q.2)
def sm_rv (E : sm_G) (ad : Nat → Nat → Nat) (v : sm_V) : Value := match v with
  | .inl x => .int x
  | .inr (.inl x) => .long x
  | .inr (.inr (.inl q)) => va_rf (sm_rp E ad q)
  | .inr (.inr (.inr _)) => E.2.2.2.2.2.1
def sm_okp (cnt : Nat → Nat) (q : Nat × Nat) : Prop := q = (0, 0) ∨ q.1 = 4 ∨ (q.1 = 5 ∧ q.2 < 54) ∨ (q.1 = 6 ∧ q.2 < 6) ∨ (q.1 = 7 ∧ q.2 < 54) ∨ (10 ≤ q.1 ∧ q.2 < cnt q.1)
def sm_okv (cnt : Nat → Nat) (v : sm_V) : Prop := match v with
  | .inr (.inr (.inl q)) => sm_okp cnt q
  | _ => True
/-- element j of a row; field k of an object -/
def sm_av (E : sm_G) (σ : sm_S) (t i j : Nat) : Value := match (sm_ak t).1 with
  | 0 => .int (σ.1 t i j)
  | 1 => .int (σ.1 t i j)
  | 2 => .long (σ.2.1 t i j)
  | _ => va_rf (sm_rp E (sm_ad σ) (σ.2.2.1 t i j))
def sm_al (σ : sm_S) (t i : Nat) : Nat := bif (sm_ak t).2 == 0 then σ.2.2.2.1 t i else (sm_ak t).2
def sm_fv (E : sm_G) (w : Bool) (σ : sm_S) (t i k : Nat) : Value := sm_rv E (sm_ad σ) (sm_gf w t k ((sm_fk t).getD k 0) i σ)
def sm_cell (E : sm_G) (w : Bool) (σ : sm_S) (H : Heap) (t i : Nat) : Prop :=
  (t < 24 ∧ t_OB (E.1 + sm_ad σ t i) (E.2.2.2.2.2.2.1.1 (t - 10)) (sm_fk t).length (E.2.2.2.2.2.2.1.2 (t - 10)) H (sm_fv E w σ t i)) ∨
  (t = 24 ∧ ∃ cell, H[E.1 + sm_ad σ t i]? = some cell ∧ cell.cls = E.2.2.2.2.2.2.2.1 24 ∧ cell.vm = .none) ∨
  (30 ≤ t ∧ t < 97 ∧ H[E.1 + sm_ad σ t i]? = some (arrV (E.2.2.2.2.2.2.2.1 t) (sm_al σ t i) (sm_av E σ t i)))
def sm_HR (E : sm_G) (w : Bool) (σ : sm_S) (H : Heap) : Prop :=
  H.size = E.1 + sm_cells σ ∧ (∀ q, q < E.1 → H[q]? = E.2.2.2.2.2.2.2.2[q]?) ∧
  (∀ t i, 10 ≤ t → i < sm_cnt σ t → sm_ad σ t i < sm_cells σ ∧ sm_cell E w σ H t i) ∧
  (∀ t i t' i', 10 ≤ t → i < sm_cnt σ t → 10 ≤ t' → i' < sm_cnt σ t' → sm_ad σ t i = sm_ad σ t' i' → t = t' ∧ i = i') ∧
  (∀ t i k, sm_cnt σ t ≤ i → σ.1 t i k = 0 ∧ σ.2.1 t i k = 0 ∧ σ.2.2.1 t i k = (0, 0)) ∧
  (∀ t i k, sm_okp (sm_cnt σ) (σ.2.2.1 t i k)) ∧
  (w = true → ∀ t i k kd : Nat, 10 ≤ t → i < sm_cnt σ t → (sm_fk t)[k]? = some kd → 10 ≤ kd → i < sm_cnt σ kd)
/-- the locals -/
def sm_LR (E : sm_G) (σ : sm_S) (nL : Nat) (L : List sm_V) (ls : Array Slot) : Prop :=
  ls.size = nL ∧ lv_wf ls ∧ ∀ i, sm_nth L i ≠ vU → ls[i]? = some (.val (sm_rv E (sm_ad σ) (sm_nth L i))) ∧ sm_okv (sm_cnt σ) (sm_nth L i)
def sm_SR (σ : sm_S) (S : List sm_V) : Prop := ∀ v ∈ S, sm_okv (sm_cnt σ) v
abbrev sm_st (E : sm_G) (σ : sm_S) (S : List sm_V) : List Value := S.map (sm_rv E (sm_ad σ))
/-- what the tables say, at a state -/
def sm_sc (k : Nat) : String × String := match k with
  | 0 => ("FreightYards$Code", "FIVE_PARAMETERS")
  | 1 => ("FreightYards$Code", "FIVE_PARAMETER_COUNTS")
  | 2 => ("FreightYards$Code", "FIVE_GIVE")
  | 3 => ("FreightYards$Kinds", "ABOVE")
  | 4 => ("FreightYards$Reader", "FIELD_OWNERS")
  | _ => ("FreightYardsModel", "ABOVE")
def sm_len54 : List Nat := (List.range 54).map (fun k => (sm_by k).length)
def sm_byt54 : List (List Int32) := (List.range 54).map sm_by
def sm_EF (E : sm_G) (X : Nat × (Nat → Int32)) (U : State) : Prop :=
  (∀ t, 10 ≤ t → t < 24 → u_Kn U (sm_cR t) (sm_cT t) (sm_fk t).length (E.2.2.2.2.2.2.1.1 (t - 10)) (E.2.2.2.2.2.2.1.2 (t - 10))) ∧
  (∀ t, 30 ≤ t → t < 97 → ArrOfT U (E.2.2.2.2.2.2.2.1 t) (sm_at_ t) ∧ va_RA U (E.2.2.2.2.2.2.2.1 t) (sm_at_ t)) ∧
  vk_S 54 sm_len54 sm_byt54 E.2.2.1 E.2.2.2.1 (fun q => E.1 ≤ q) U E.2.2.2.2.2.2.2.2 ∧
  (∀ q ∈ sm_sl, ∃ tx, vk_R (sm_cn q.1) q.2.1 tx (E.2.2.1 q.2.2.1) U) ∧
  (∀ k, k < 6 → va_Z (sm_sc k).1 (sm_sc k).2 "[I" (.ref (E.2.2.2.2.1 k)) (fun q => E.1 ≤ q) U E.2.2.2.2.2.2.2.2 ∧ va_T .int (E.2.2.2.2.1 k) (sm_tb k).length (fun j => .int ((sm_tb k).getD j 0)) (fun q => E.1 ≤ q) U E.2.2.2.2.2.2.2.2) ∧
  va_Z "java/lang/String" "COMPACT_STRINGS" "Z" (.int 1) (fun q => E.1 ≤ q) U E.2.2.2.2.2.2.2.2 ∧
  va_Z "jdk/internal/util/Preconditions" "SIOOBE_FORMATTER" "Ljava/util/function/BiFunction;" E.2.2.2.2.2.1 (fun q => E.1 ≤ q) U E.2.2.2.2.2.2.2.2 ∧
  (∀ q ∈ sm_fn, va_Nw (sm_fnw q) U) ∧ (∀ q ∈ sm_mn, va_Nw (sm_mnw q) U) ∧
  (va_AO "FreightYards$Vehicle" U ∧ va_AO "FreightYards$Row" U ∧ va_AO "FreightYards$Train" U) ∧
  (va_X E.2.1 X.1 X.2 U E.2.2.2.2.2.2.2.2 ∧ E.2.1 < E.1 ∧ E.1 = E.2.2.2.2.2.2.2.2.size) ∧
  U.vm.findClass "java/lang/IllegalStateException" = some (E.2.2.2.2.2.2.2.1 24) ∧
  (E.2.2.2.2.2.1 = .null ∨ ∃ a, E.2.2.2.2.2.1 = .ref a)
theorem sm_EF.warm {E : sm_G} {X : Nat × (Nat → Int32)} {s U : State} (hW : s.WarmedH U.vm) (h : sm_EF E X s) : sm_EF E X U := by
  obtain ⟨h1, h2, h3, h4, h5, h6, h7, h8, h9, h10, h11, h12, h13⟩ := h
  have ha := hW.alike
  refine ⟨fun t a b => u_Kn_moved ha (h1 t a b), fun t a b => ⟨arrOfT_moved ha (h2 t a b).1, (h2 t a b).2.moved ha⟩, h3.moved ha, fun q hq => ?_, fun k hk => ⟨(h5 k hk).1.moved ha, (h5 k hk).2.moved ha⟩, h6.moved ha, h7.moved ha, fun q hq => ?_, fun q hq => ?_, ?_, ⟨h11.1.moved ha, h11.2⟩, by rw [ha.findClass]; exact h12, h13⟩
  · obtain ⟨tx, h⟩ := h4 q hq
    exact ⟨tx, h.warm hW⟩
  · exact va_Nw.warmF hW (h8 q hq)
  · exact va_Nw.warmM hW (h9 q hq)
  · exact ⟨va_AO.moved ha h10.1, va_AO.moved ha h10.2.1, va_AO.moved ha h10.2.2⟩
end
end
section
section
variable {E : sm_G} {w : Bool} {σ σ' : sm_S} {H H' : Heap}
theorem sm_okp.mono {c c' : Nat → Nat} (hc : ∀ t, c t ≤ c' t) {q : Nat × Nat} (h : sm_okp c q) : sm_okp c' q := by
  rcases h with h | h | h | h | h | h
  · exact Or.inl h
  · exact Or.inr (Or.inl h)
  · exact Or.inr (Or.inr (Or.inl h))
  · exact Or.inr (Or.inr (Or.inr (Or.inl h)))
  · exact Or.inr (Or.inr (Or.inr (Or.inr (Or.inl h))))
  · exact Or.inr (Or.inr (Or.inr (Or.inr (Or.inr ⟨h.1, Nat.lt_of_lt_of_le h.2 (hc _)⟩))))
theorem sm_okv.mono {c c' : Nat → Nat} (hc : ∀ t, c t ≤ c' t) {v : sm_V} (h : sm_okv c v) : sm_okv c' v := by
  rcases v with x | x | q | u
  · trivial
  · trivial
  · exact sm_okp.mono hc h
  · trivial
/-- another order of making that agrees on what is there -/
theorem sm_rp_eq {c : Nat → Nat} {a a' : Nat → Nat → Nat} (ha : ∀ t i, 10 ≤ t → i < c t → a' t i = a t i) {q : Nat × Nat} (h : sm_okp c q) : sm_rp E a' q = sm_rp E a q := by
  unfold sm_rp
  rcases h with h | h | h | h | h | h
  · rw [h]; rfl
  · rw [if_neg (by omega), if_pos h, if_neg (by omega), if_pos h]
  · rw [if_neg (by omega), if_neg (by omega), if_pos h.1, if_neg (by omega), if_neg (by omega), if_pos h.1]
  · rw [if_neg (by omega), if_neg (by omega), if_neg (by omega), if_pos h.1, if_neg (by omega), if_neg (by omega), if_neg (by omega), if_pos h.1]
  · rw [if_neg (by omega), if_neg (by omega), if_neg (by omega), if_neg (by omega), if_pos h.1, if_neg (by omega), if_neg (by omega), if_neg (by omega), if_neg (by omega), if_pos h.1]
  · rw [ha _ _ h.1 h.2]
theorem sm_rv_eq {c : Nat → Nat} {a a' : Nat → Nat → Nat} (ha : ∀ t i, 10 ≤ t → i < c t → a' t i = a t i) {v : sm_V} (h : sm_okv c v) : sm_rv E a' v = sm_rv E a v := by
  rcases v with x | x | q | u
  · rfl
  · rfl
  · show va_rf _ = va_rf _
    rw [sm_rp_eq ha h]
  · rfl
theorem sm_st_eq {S : List sm_V} (ha : ∀ t i, 10 ≤ t → i < sm_cnt σ t → sm_ad σ' t i = sm_ad σ t i) (h : sm_SR σ S) : sm_st E σ' S = sm_st E σ S :=
  List.map_congr_left fun v hv => sm_rv_eq ha (h v hv)
theorem sm_SR.mono {S : List sm_V} (hc : ∀ t, sm_cnt σ t ≤ sm_cnt σ' t) (h : sm_SR σ S) : sm_SR σ' S := fun v hv => (h v hv).mono hc
theorem sm_LR.mono {nL : Nat} {L : List sm_V} {ls : Array Slot} (hc : ∀ t, sm_cnt σ t ≤ sm_cnt σ' t) (ha : ∀ t i, 10 ≤ t → i < sm_cnt σ t → sm_ad σ' t i = sm_ad σ t i) (h : sm_LR E σ nL L ls) : sm_LR E σ' nL L ls :=
  ⟨h.1, h.2.1, fun i hi => ⟨by rw [sm_rv_eq ha (h.2.2 i hi).2]; exact (h.2.2 i hi).1, (h.2.2 i hi).2.mono hc⟩⟩
theorem sm_LR.same {nL : Nat} {L : List sm_V} {ls : Array Slot} (he : σ'.2.2.2 = σ.2.2.2) (h : sm_LR E σ nL L ls) : sm_LR E σ' nL L ls := by
  have h1 : sm_cnt σ' = sm_cnt σ := by show σ'.2.2.2.2.1 = _; rw [he]
  have h2 : sm_ad σ' = sm_ad σ := by show σ'.2.2.2.2.2.1 = _; rw [he]
  unfold sm_LR at h ⊢
  rw [h1, h2]
  exact h
/-- a field of an object that is there, as a value that is there -/
theorem sm_fk_kd : ∀ t, 10 ≤ t → t < 24 → ∀ kd ∈ sm_fk t, kd ≤ 3 ∨ 10 ≤ kd := by
  have h : ∀ u, u < 14 → ∀ kd ∈ sm_fk (u + 10), kd ≤ 3 ∨ 10 ≤ kd := by decide +kernel
  intro t h1 h2 kd hk
  exact h (t - 10) (by omega) kd (by rw [Nat.sub_add_cancel h1]; exact hk)
theorem sm_gf_ok (h : sm_HR E w σ H) {t i k kd : Nat} (ht : 10 ≤ t) (ht2 : t < 24) (hi : i < sm_cnt σ t) (hk : (sm_fk t)[k]? = some kd) : sm_okv (sm_cnt σ) (sm_gf w t k kd i σ) := by
  obtain ⟨-, -, -, -, -, h6, h7⟩ := h
  rcases sm_fk_kd t ht ht2 kd (List.mem_of_getElem? hk) with q | q
  · rcases (show kd = 0 ∨ kd = 1 ∨ kd = 2 ∨ kd = 3 by omega) with rfl | rfl | rfl | rfl
    · trivial
    · trivial
    · exact h6 t i k
    · trivial
  · obtain ⟨n, rfl⟩ := Nat.exists_eq_add_of_le q
    rw [show 10 + n = (n + 6) + 4 by omega] at *
    cases w with
    | true => exact Or.inr (Or.inr (Or.inr (Or.inr (Or.inr ⟨q, h7 rfl t i k _ ht hi hk q⟩))))
    | false => exact h6 t i k
/-- a cell, in another state that is the same as to it -/
theorem sm_cell.same {t i : Nat} (h : sm_cell E w σ H t i) (he : σ'.2.2.2 = σ.2.2.2) (hm : ∀ k, σ'.1 t i k = σ.1 t i k ∧ σ'.2.1 t i k = σ.2.1 t i k ∧ σ'.2.2.1 t i k = σ.2.2.1 t i k) (hq : H'[E.1 + sm_ad σ t i]? = H[E.1 + sm_ad σ t i]?) : sm_cell E w σ' H' t i := by
  have h2 : sm_ad σ' = sm_ad σ := by show σ'.2.2.2.2.2.1 = _; rw [he]
  have h3 : σ'.2.2.2.1 = σ.2.2.2.1 := by rw [he]
  have h4 : ∀ k kd, sm_gf w t k kd i σ' = sm_gf w t k kd i σ := by
    intro k kd
    unfold sm_gf
    obtain ⟨a, b, c⟩ := hm k
    rw [a, b, c]
  have h5 : sm_fv E w σ' t i = sm_fv E w σ t i := by
    funext k
    unfold sm_fv
    rw [h4, h2]
  have h6 : sm_av E σ' t i = sm_av E σ t i := by
    funext k
    unfold sm_av
    obtain ⟨a, b, c⟩ := hm k
    rw [a, b, c, h2]
  have h7 : sm_al σ' t i = sm_al σ t i := by unfold sm_al; rw [h3]
  unfold sm_cell at h ⊢
  rw [h2, h5, h6, h7, hq]
  rcases h with h | h | h
  · exact Or.inl ⟨h.1, h.2.kept hq⟩
  · exact Or.inr (Or.inl h)
  · exact Or.inr (Or.inr h)
/-- one cell is written -/
theorem sm_HR.set {t i : Nat} (h : sm_HR E w σ H) (ht : 10 ≤ t) (hi : i < sm_cnt σ t) (he : σ'.2.2.2 = σ.2.2.2)
    (hm : ∀ t' i' k, ¬ (t' = t ∧ i' = i) → σ'.1 t' i' k = σ.1 t' i' k ∧ σ'.2.1 t' i' k = σ.2.1 t' i' k ∧ σ'.2.2.1 t' i' k = σ.2.2.1 t' i' k) (hok : ∀ k, sm_okp (sm_cnt σ) (σ'.2.2.1 t i k))
    (hs : H'.size = H.size) (hq : ∀ q, q ≠ E.1 + sm_ad σ t i → H'[q]? = H[q]?) (hc : sm_cell E w σ' H' t i) : sm_HR E w σ' H' := by
  obtain ⟨h1, h2, h3, h4, h5, h6, h7⟩ := h
  have e1 : sm_cnt σ' = sm_cnt σ := by show σ'.2.2.2.2.1 = _; rw [he]
  have e2 : sm_ad σ' = sm_ad σ := by show σ'.2.2.2.2.2.1 = _; rw [he]
  have e3 : sm_cells σ' = sm_cells σ := by show σ'.2.2.2.2.2.2.1 = _; rw [he]
  unfold sm_HR
  rw [e1, e2, e3]
  refine ⟨hs.trans h1, fun q hq' => ?_, fun t' i' ht' hi' => ⟨(h3 t' i' ht' hi').1, ?_⟩, h4, fun t' i' k hk => ?_, fun t' i' k => ?_, h7⟩
  · rw [hq q (by omega)]; exact h2 q hq'
  · by_cases hx : t' = t ∧ i' = i
    · obtain ⟨rfl, rfl⟩ := hx; exact hc
    · refine (h3 t' i' ht' hi').2.same he (fun k => hm t' i' k hx) (hq _ fun hz => hx ?_)
      exact h4 t' i' t i ht' hi' ht hi (by omega)
  · have hx : ¬ (t' = t ∧ i' = i) := by rintro ⟨rfl, rfl⟩; omega
    obtain ⟨a, b, c⟩ := hm t' i' k hx
    rw [a, b, c]
    exact h5 t' i' k hk
  · by_cases hx : t' = t ∧ i' = i
    · obtain ⟨rfl, rfl⟩ := hx; exact hok k
    · rw [(hm t' i' k hx).2.2]; exact h6 t' i' k
theorem sm_up3_ne {α : Type} {f : Nat → Nat → Nat → α} {t i k t' i' k' : Nat} {v : α} (h : ¬ (t' = t ∧ i' = i)) : sm_up3 f t i k v t' i' k' = f t' i' k' := by
  unfold sm_up3
  rw [if_neg (fun q => h ⟨q.1, q.2.1⟩)]
theorem sm_up3_k {α : Type} {f : Nat → Nat → Nat → α} {t i k k' : Nat} {v : α} : sm_up3 f t i k v t i k' = if k' = k then v else f t i k' := by
  unfold sm_up3
  by_cases h : k' = k <;> simp [h]
/-- one cell is made -/
theorem sm_HR.new {t n m : Nat} (h : sm_HR E w σ H) (ht : 10 ≤ t) (ht2 : t < 97) (hw : w = true → t < 24 → t = 16 ∨ t = 18 ∨ t = 19) (hs : H'.size = H.size + 1) (hq : ∀ q, q < H.size → H'[q]? = H[q]?)
    (hc : sm_cell E w (sN σ t n m) H' t (sm_cnt σ t)) : sm_HR E w (sN σ t n m) H' ∧ (∀ t', sm_cnt σ t' ≤ sm_cnt (sN σ t n m) t') ∧ (∀ t' i', 10 ≤ t' → i' < sm_cnt σ t' → sm_ad (sN σ t n m) t' i' = sm_ad σ t' i') := by
  have h0 := h
  obtain ⟨h1, h2, h3, h4, h5, h6, h7⟩ := h
  have c1 : ∀ t', sm_cnt (sN σ t n m) t' = if t' = t then sm_cnt σ t + 1 else sm_cnt σ t' := fun t' => rfl
  have a1 : ∀ t' i', sm_ad (sN σ t n m) t' i' = if t' = t ∧ i' = sm_cnt σ t then sm_cells σ else sm_ad σ t' i' := fun t' i' => rfl
  have cm : ∀ t', sm_cnt σ t' ≤ sm_cnt (sN σ t n m) t' := by
    intro t'
    rw [c1]
    split
    · rename_i q; subst q; omega
    · exact Nat.le_refl _
  have am : ∀ t' i', i' < sm_cnt σ t' → sm_ad (sN σ t n m) t' i' = sm_ad σ t' i' := by
    intro t' i' hi'
    rw [a1, if_neg]
    rintro ⟨rfl, rfl⟩
    omega
  have hold : ∀ t' i', 10 ≤ t' → i' < sm_cnt (sN σ t n m) t' → i' < sm_cnt σ t' ∨ (t' = t ∧ i' = sm_cnt σ t) := by
    intro t' i' _ hi'
    rw [c1] at hi'
    by_cases q : t' = t
    · rw [if_pos q] at hi'
      subst q
      omega
    · rw [if_neg q] at hi'
      exact Or.inl hi'
  refine ⟨⟨?_, fun q hq' => ?_, fun t' i' ht' hi' => ?_, fun t1 i1 t2 i2 g1 g2 g3 g4 g5 => ?_, fun t' i' k hk => h5 t' i' k (Nat.le_trans (cm t') hk), fun t' i' k => (h6 t' i' k).mono cm, fun hw' t' i' k kd ht' hi' hk hkd => ?_⟩, cm, fun t' i' _ hi' => am t' i' hi'⟩
  · show H'.size = E.1 + (sm_cells σ + 1)
    omega
  · rw [hq q (by omega)]; exact h2 q hq'
  · show sm_ad (sN σ t n m) t' i' < sm_cells σ + 1 ∧ _
    rcases hold t' i' ht' hi' with q | ⟨rfl, rfl⟩
    · obtain ⟨u1, u2⟩ := h3 t' i' ht' q
      rw [am t' i' q]
      refine ⟨by omega, ?_⟩
      have hh : H'[E.1 + sm_ad σ t' i']? = H[E.1 + sm_ad σ t' i']? := hq _ (by omega)
      have e5 : ∀ k, k < (sm_fk t').length → t' < 24 → sm_fv E w (sN σ t n m) t' i' k = sm_fv E w σ t' i' k := by
        intro k hk h24
        have hgd : (sm_fk t')[k]? = some ((sm_fk t').getD k 0) := by simp [List.getD, hk]
        exact sm_rv_eq (fun a b c d => am a b d) (sm_gf_ok h0 ht' h24 q hgd)
      have e6 : sm_av E (sN σ t n m) t' i' = sm_av E σ t' i' := by
        funext k
        unfold sm_av
        split
        · rfl
        · rfl
        · rfl
        · show va_rf _ = va_rf _
          rw [show (sN σ t n m).2.2.1 t' i' k = σ.2.2.1 t' i' k from rfl, sm_rp_eq (fun a b c d => am a b d) (h6 t' i' k)]
      have e7 : sm_al (sN σ t n m) t' i' = sm_al σ t' i' := by
        unfold sm_al
        show (bif _ then sm_up2 σ.2.2.2.1 t (sm_cnt σ t) m t' i' else _) = _
        unfold sm_up2
        rw [if_neg (by rintro ⟨rfl, rfl⟩; omega)]
      unfold sm_cell at u2 ⊢
      rw [am t' i' q, e6, e7, hh]
      rcases u2 with u | u | u
      · exact Or.inl ⟨u.1, (u.2.kept hh).to fun k hk => (e5 k hk u.1).symm⟩
      · exact Or.inr (Or.inl u)
      · exact Or.inr (Or.inr u)
    · refine ⟨?_, hc⟩
      rw [a1, if_pos ⟨rfl, rfl⟩]
      omega
  · rcases hold t1 i1 g1 g2 with q1 | ⟨rfl, rfl⟩ <;> rcases hold t2 i2 g3 g4 with q2 | ⟨rfl, rfl⟩
    · rw [am t1 i1 q1, am t2 i2 q2] at g5
      exact h4 t1 i1 t2 i2 g1 q1 g3 q2 g5
    · rw [am t1 i1 q1, a1, if_pos ⟨rfl, rfl⟩] at g5
      have := (h3 t1 i1 g1 q1).1
      omega
    · rw [am t2 i2 q2, a1, if_pos ⟨rfl, rfl⟩] at g5
      have := (h3 t2 i2 g3 q2).1
      omega
    · exact ⟨rfl, rfl⟩
  · rcases hold t' i' ht' hi' with q | ⟨rfl, rfl⟩
    · exact Nat.lt_of_lt_of_le (h7 hw' t' i' k kd ht' q hk hkd) (cm kd)
    · have h24 : t' < 24 := by
        by_cases z : t' < 24
        · exact z
        · have : sm_fk t' = [] := by
            have hh : ∀ u, u < 73 → sm_fk (u + 24) = [] := by decide +kernel
            have := hh (t' - 24) (by omega)
            rw [Nat.sub_add_cancel (by omega)] at this
            exact this
          rw [this] at hk
          simp at hk
      have hm := List.mem_of_getElem? hk
      rcases hw hw' h24 with rfl | rfl | rfl
      · have : ∀ kd ∈ sm_fk 16, kd < 10 := by decide +kernel
        have := this kd hm; omega
      · have : ∀ kd ∈ sm_fk 18, kd < 10 := by decide +kernel
        have := this kd hm; omega
      · have : ∀ kd ∈ sm_fk 19, kd < 10 := by decide +kernel
        have := this kd hm; omega
end
end
section
section
def sm_wd : List Cond := lw_tbl.filter goodWord
def sm_has4 (l : List (Nat × Nat × Nat × Nat)) (a b c : Nat) : Bool := l.any (fun q => q.1 == a && (q.2.1 == b && q.2.2.1 == c))
def sm_has5 (l : List (Nat × Nat × Nat × Nat × Nat)) (a b c d : Nat) : Bool := l.any (fun q => q.1 == a && (q.2.1 == b && (q.2.2.1 == c && q.2.2.2.1 == d)))
def sm_inR (x : Int) : Bool := decide (-2147483648 ≤ x) && decide (x ≤ 2147483647)
def sm_sorted : List (Int × Int) → Bool
  | [] => true
  | [_] => true
  | a :: b :: r => decide (a.1 < b.1) && sm_sorted (b :: r)
/-- is what the tables say of a row of code so -/
def sm_okA (mn : Nat) (ins : Instr) (a : Nat × Nat × Nat × Nat) (pc : Nat) : Bool := match ins with
  | .istore i => decide (i < sm_nl mn)
  | .astore i => decide (i < sm_nl mn)
  | .istore_n i => decide (i.val < sm_nl mn)
  | .astore_n i => decide (i.val < sm_nl mn)
  | .iinc i _ => decide (i < sm_nl mn)
  | .lstore i => decide (i + 1 < sm_nl mn)
  | .lstore_n i => decide (i.val + 1 < sm_nl mn)
  | .goto o => decide (0 ≤ (pc : Int) + o)
  | .ifCond _ o => decide (0 ≤ (pc : Int) + o)
  | .if_icmp _ o => decide (0 ≤ (pc : Int) + o)
  | .if_acmp _ o => decide (0 ≤ (pc : Int) + o)
  | .ifnull o => decide (0 ≤ (pc : Int) + o)
  | .ifnonnull o => decide (0 ≤ (pc : Int) + o)
  | .tableswitch d lo hi os => decide (0 ≤ (pc : Int) + d) && (os.toList.all (fun o => decide (0 ≤ (pc : Int) + o)) && (decide (hi = lo + (os.size : Int) - 1) && (sm_inR lo && sm_inR (lo + (os.size : Int)))))
  | .lookupswitch d ps => decide (0 ≤ (pc : Int) + d) && (ps.toList.all (fun q => decide (0 ≤ (pc : Int) + q.2) && sm_inR q.1) && ((ps.toList.zip (ps.toList.drop 1)).all (fun (a, next) => a.1 < next.1)))
  | .ldc i => bif a.1 == 0 then sm_has4 sm_il (sm_ow mn) i a.2.1 else sm_has4 sm_sl (sm_ow mn) i a.2.1 && decide (a.2.1 < 54)
  | .ldc_w i => bif a.1 == 0 then sm_has4 sm_il (sm_ow mn) i a.2.1 else sm_has4 sm_sl (sm_ow mn) i a.2.1 && decide (a.2.1 < 54)
  | .ldc2_w i => sm_has4 sm_ll (sm_ow mn) i a.1
  | .getstatic i => sm_has5 sm_tl (sm_ow mn) i a.1 a.2.1
  | .getfield i => (sm_has5 sm_fl (sm_ow mn) i a.1 a.2.1 && ((a.1 == 5 && ((a.2.1 == 0 && a.2.2.1 == 7) || (a.2.1 == 1 && a.2.2.1 == 9))) || (decide (10 ≤ a.1) && (decide (a.1 < 24) && (sm_fk a.1)[a.2.1]? == some a.2.2.1)))) || (sm_has5 sm_fn (sm_ow mn) i a.1 a.2.1 && (decide (10 ≤ a.1) && (decide (a.1 < 24) && (sm_fk a.1)[a.2.1]? == some a.2.2.1)))
  | .putfield i => (decide (10 ≤ a.1) && (decide (a.1 < 24) && (sm_fk a.1)[a.2.1]? == some a.2.2.1)) && ((sm_has5 sm_fl (sm_ow mn) i a.1 a.2.1 && (bif (sm_cT a.1 a.2.1).2.2.2 then sm_kn mn == 2 && sm_ow mn == a.1 - 10 else true)) || (sm_has5 sm_fn (sm_ow mn) i a.1 a.2.1 && !(sm_cT a.1 a.2.1).2.2.2))
  | .iaload => a.1 == 4 || (a.1 == 6 || (decide (30 ≤ a.1) && (decide (a.1 < 97) && (sm_ak a.1 == (0, a.2.1) && !(a.2.1 == 0)))))
  | .baload => a.1 == 7 || (decide (30 ≤ a.1) && (decide (a.1 < 97) && (sm_ak a.1 == (1, a.2.1) && !(a.2.1 == 0))))
  | .laload => decide (30 ≤ a.1) && (decide (a.1 < 97) && (sm_ak a.1 == (2, a.2.1) && !(a.2.1 == 0)))
  | .aaload => decide (30 ≤ a.1) && (decide (a.1 < 97) && sm_ak a.1 == (3, a.2.1))
  | .iastore => decide (30 ≤ a.1) && (decide (a.1 < 97) && (sm_ak a.1 == (0, a.2.1) && !(a.2.1 == 0)))
  | .bastore => decide (30 ≤ a.1) && (decide (a.1 < 97) && (sm_ak a.1 == (1, a.2.1) && !(a.2.1 == 0)))
  | .lastore => decide (30 ≤ a.1) && (decide (a.1 < 97) && (sm_ak a.1 == (2, a.2.1) && !(a.2.1 == 0)))
  | .aastore => decide (30 ≤ a.1) && (decide (a.1 < 97) && (sm_ak a.1 == (3, a.2.1) && (decide (10 ≤ a.2.2.1) && (decide (a.2.2.1 < 24) && sm_cR a.2.2.1 == sm_ae a.1))))
  | .arraylength => a.1 == 4 || (a.1 == 6 || (a.1 == 7 || (decide (30 ≤ a.1) && (decide (a.1 < 97) && (sm_ak a.1).2 == a.2.1))))
  | .new i => sm_has4 sm_kl (sm_ow mn) i a.1 && ((a.1 == 24 && a.2.1 == 6) || (decide (10 ≤ a.1) && (decide (a.1 < 24) && (sm_fk a.1).length == a.2.1)))
  | .newarray ty => decide (30 ≤ a.1) && (decide (a.1 < 97) && ((sm_ak a.1).2 == a.2.1 && ((decide (ty = .int) && (sm_ak a.1).1 == 0) || ((decide (ty = .byte) && (sm_ak a.1).1 == 1) || (decide (ty = .long) && (sm_ak a.1).1 == 2)))))
  | .anewarray i => decide (30 ≤ a.1) && (decide (a.1 < 97) && ((sm_ak a.1) == (3, a.2.1) && sm_kl.any (fun q => q.1 == sm_ow mn && (q.2.1 == i && (decide (10 ≤ q.2.2.1) && (decide (q.2.2.1 < 24) && sm_cR q.2.2.1 == sm_ae a.1))))))
  | .invokestatic i => a.1 == 9999 || bif a.2.2.2 == 1000 then sm_has4 sm_ml (sm_ow mn) i 1000 && (decide (30 ≤ a.1) && (decide (a.1 < 97) && (sm_ak a.1 == (0, a.2.1) && !(a.2.1 == 0)))) else sm_has4 sm_ml (sm_ow mn) i a.1 && (decide (a.1 < 308) && (sm_kn a.1 == 1 && (a.2.2.2 == 0 && ((parseMethodDescriptor (sm_y a.1).desc).map (fun d => d.parameters.length) == some a.2.1 && sm_okR a.2.2.1 (sm_re a.1)))))
  | .invokevirtual i => a.1 == 9999 || sm_has4 sm_ml (sm_ow mn) i a.1 && (decide (a.1 < 308) && (sm_kn a.1 == 0 && ((a.2.2.2 == 5 && (sm_y a.1).cls == "java/lang/String" || (decide (10 ≤ a.2.2.2) && (decide (a.2.2.2 < 24) && (sm_y a.1).cls == sm_cR a.2.2.2))) && ((parseMethodDescriptor (sm_y a.1).desc).map (fun d => d.parameters.length + 1) == some a.2.1 && sm_okR a.2.2.1 (sm_re a.1)))))
  | .invokespecial i => bif a.2.2.2 == 1001 then sm_has4 sm_ml (sm_ow mn) i 1001 else bif a.2.2.2 == 1002 then sm_has4 sm_ml (sm_ow mn) i 1002 else (sm_has4 sm_ml (sm_ow mn) i a.1 || sm_has4 sm_mn (sm_ow mn) i a.1) && (decide (a.1 < 308) && (sm_kn a.1 == 2 && ((decide (10 ≤ a.2.2.2) && (decide (a.2.2.2 < 24) && (sm_y a.1).cls == sm_cR a.2.2.2)) && ((parseMethodDescriptor (sm_y a.1).desc).map (fun d => d.parameters.length + 1) == some a.2.1 && (a.2.2.1 == 0 && decide (sm_re a.1 = none))))))
  | .ireturn => (a.1 == 0 && decide (sm_re mn = some .int)) || ((a.1 == 1 && decide (sm_re mn = some .boolean)) || ((a.1 == 2 && decide (sm_re mn = some .char)) || (a.1 == 3 && decide (sm_re mn = some .byte))))
  | .lreturn => decide (sm_re mn = some .long)
  | .areturn => match sm_re mn with
    | some (.object _) => true
    | _ => false
  | .return_ => decide (sm_re mn = none)
  | _ => true
where
  sm_okR (k : Nat) (r : Option FieldType) : Bool := match r with
    | none => k == 0
    | some .long => k == 2
    | some (.object _) => k == 3
    | some (.array _) => false
    | some .float => false
    | some .double => false
    | some _ => k == 1
/-- how long an instruction is; 0: a switch -/
def sm_ln (ins : Instr) : Nat := match ins with
  | .bipush _ => 2
  | .sipush _ => 3
  | .iload _ => 2
  | .lload _ => 2
  | .aload _ => 2
  | .istore _ => 2
  | .lstore _ => 2
  | .astore _ => 2
  | .iinc _ _ => 3
  | .goto _ => 3
  | .ifCond _ _ => 3
  | .if_icmp _ _ => 3
  | .if_acmp _ _ => 3
  | .ifnull _ => 3
  | .ifnonnull _ => 3
  | .ldc _ => 2
  | .ldc_w _ => 3
  | .ldc2_w _ => 3
  | .getstatic _ => 3
  | .getfield _ => 3
  | .putfield _ => 3
  | .new _ => 3
  | .anewarray _ => 3
  | .newarray _ => 2
  | .invokestatic _ => 3
  | .invokevirtual _ => 3
  | .invokespecial _ => 3
  | .tableswitch _ _ _ _ => 0
  | .lookupswitch _ _ => 0
  | _ => 1
def sm_okE (mn : Nat) (e : sm_E) : Bool := (match decode (sm_bc mn) e.1 with
  | .ok q => decide (q = (e.2.1, e.2.2.1))
  | _ => false) && ((sm_ln e.2.1 == 0 || e.2.2.1 == sm_ln e.2.1) && sm_okA mn e.2.1 e.2.2.2.1 e.1)
theorem sm_okE_s {mn : Nat} {e : sm_E} (h : sm_okE mn e = true) : decode (sm_bc mn) e.1 = .ok (e.2.1, e.2.2.1) ∧ (sm_ln e.2.1 = 0 ∨ e.2.2.1 = sm_ln e.2.1) ∧ sm_okA mn e.2.1 e.2.2.2.1 e.1 = true := by
  unfold sm_okE at h
  simp only [Bool.and_eq_true, Bool.or_eq_true, beq_iff_eq] at h
  obtain ⟨h1, h2, h3⟩ := h
  refine ⟨?_, h2, h3⟩
  split at h1
  · rename_i q hq
    rw [hq, of_decide_eq_true h1]
  · cases h1
end
end
section
section
variable {E : sm_G} {σ : sm_S}
/-- the locals as a list of those that hold something -/
def sm_pl (E : sm_G) (ad : Nat → Nat → Nat) : Nat → List sm_V → List (Nat × Value)
  | _, [] => []
  | k, v :: r => match v with
    | .inr (.inr (.inr _)) => sm_pl E ad (k + 1) r
    | u => (k, sm_rv E ad u) :: sm_pl E ad (k + 1) r
theorem sm_pl_mem (ad : Nat → Nat → Nat) : ∀ (L : List sm_V) (k i : Nat), sm_nth L i ≠ vU → (k + i, sm_rv E ad (sm_nth L i)) ∈ sm_pl E ad k L
  | [], k, i, h => absurd rfl h
  | v :: r, k, 0, h => by
    have h : v ≠ vU := h
    rcases v with x | x | x | x
    · exact List.mem_cons_self
    · exact List.mem_cons_self
    · exact List.mem_cons_self
    · exact absurd rfl h
  | v :: r, k, i + 1, h => by
    have q := sm_pl_mem ad r (k + 1) i h
    rw [show k + 1 + i = k + (i + 1) by omega] at q
    rcases v with x | x | x | x
    · exact List.mem_cons_of_mem _ q
    · exact List.mem_cons_of_mem _ q
    · exact List.mem_cons_of_mem _ q
    · exact q
theorem sm_pl_of (ad : Nat → Nat → Nat) : ∀ (L : List sm_V) (k : Nat) (q : Nat × Value), q ∈ sm_pl E ad k L → ∃ i, q = (k + i, sm_rv E ad (sm_nth L i)) ∧ sm_nth L i ≠ vU
  | [], k, q, h => by cases h
  | v :: r, k, q, h => by
    have tl : q ∈ sm_pl E ad (k + 1) r → ∃ i, q = (k + i, sm_rv E ad (sm_nth (v :: r) i)) ∧ sm_nth (v :: r) i ≠ vU := by
      intro h
      obtain ⟨i, h1, h2⟩ := sm_pl_of ad r (k + 1) q h
      exact ⟨i + 1, by rw [h1, show k + 1 + i = k + (i + 1) by omega]; rfl, h2⟩
    rcases v with x | x | x | x
    · rcases List.mem_cons.mp h with h | h
      · exact ⟨0, h, fun z => by cases z⟩
      · exact tl h
    · rcases List.mem_cons.mp h with h | h
      · exact ⟨0, h, fun z => by cases z⟩
      · exact tl h
    · rcases List.mem_cons.mp h with h | h
      · exact ⟨0, h, fun z => by cases z⟩
      · exact tl h
    · exact tl h
theorem sm_LR.has {nL : Nat} {L : List sm_V} {ls : Array Slot} (h : sm_LR E σ nL L ls) : lv_has ls nL (sm_pl E (sm_ad σ) 0 L) := by
  refine ⟨h.1, h.2.1, fun q hq => ?_⟩
  obtain ⟨i, h1, h2⟩ := sm_pl_of (sm_ad σ) L 0 q hq
  rw [h1, Nat.zero_add]
  exact (h.2.2 i h2).1
theorem sm_nth_set : ∀ (L : List sm_V) (i : Nat) (v : sm_V) (j : Nat), sm_nth (sm_set L i v) j = v ∧ j = i ∨ sm_nth (sm_set L i v) j = sm_nth L j ∧ (j ≠ i ∨ sm_nth L j = vU)
  | [], i, v, j => Or.inr ⟨rfl, Or.inr rfl⟩
  | x :: r, 0, v, 0 => Or.inl ⟨rfl, rfl⟩
  | x :: r, 0, v, j + 1 => Or.inr ⟨rfl, Or.inl (by omega)⟩
  | x :: r, i + 1, v, 0 => Or.inr ⟨rfl, Or.inl (by omega)⟩
  | x :: r, i + 1, v, j + 1 => by
    rcases sm_nth_set r i v j with h | h
    · exact Or.inl ⟨h.1, by omega⟩
    · exact Or.inr ⟨h.1, h.2.imp (by omega) id⟩
theorem sm_cat_rv {v : sm_V} (h : sm_isL v = false) (ho : E.2.2.2.2.2.1 = .null ∨ ∃ a, E.2.2.2.2.2.1 = .ref a) (ad : Nat → Nat → Nat) : (sm_rv E ad v).category = 1 := by
  rcases v with x | x | x | x
  · rfl
  · cases h
  · show (va_rf (sm_rp E ad x)).category = 1
    cases sm_rp E ad x <;> rfl
  · show (E.2.2.2.2.2.1).category = 1
    rcases ho with h | ⟨a, h⟩ <;> rw [h] <;> rfl
theorem sm_LR.st1 (ho : E.2.2.2.2.2.1 = .null ∨ ∃ a, E.2.2.2.2.2.1 = .ref a) {nL i : Nat} {L : List sm_V} {ls ls' : Array Slot} {v : sm_V} (h : sm_LR E σ nL L ls) (hv : sm_okv (sm_cnt σ) v)
    (h' : lv_has ls' nL ((i, sm_rv E (sm_ad σ) v) :: (sm_pl E (sm_ad σ) 0 L).filter (fun q => !(q.1 == i) && !(q.1 + 1 == i && q.2.category == 2)))) : sm_LR E σ nL (sm_st1 L i v) ls' := by
  refine ⟨h'.1, h'.2.1, fun j hj => ?_⟩
  have key : ∀ j, j ≠ i → sm_nth L j ≠ vU → (j + 1 = i → sm_isL (sm_nth L j) = false) → ls'[j]? = some (.val (sm_rv E (sm_ad σ) (sm_nth L j))) ∧ sm_okv (sm_cnt σ) (sm_nth L j) := by
    intro j h1 h2 h3
    refine ⟨h'.2.2 (j, sm_rv E (sm_ad σ) (sm_nth L j)) (List.mem_cons_of_mem _ (List.mem_filter.mpr ⟨?_, ?_⟩)), (h.2.2 j h2).2⟩
    · have := sm_pl_mem (E := E) (sm_ad σ) L 0 j h2
      rw [Nat.zero_add] at this
      exact this
    · simp only [Bool.and_eq_true, Bool.not_eq_true', beq_eq_false_iff_ne, Bool.and_eq_false_iff]
      refine ⟨h1, ?_⟩
      by_cases hz : j + 1 = i
      · exact Or.inr (by rw [sm_cat_rv (h3 hz) ho]; decide)
      · exact Or.inl hz
  have self : ls'[i]? = some (.val (sm_rv E (sm_ad σ) v)) ∧ sm_okv (sm_cnt σ) v := ⟨h'.2.2 (i, sm_rv E (sm_ad σ) v) List.mem_cons_self, hv⟩
  cases i with
  | zero =>
    rcases sm_nth_set L 0 v j with ⟨a, rfl⟩ | ⟨a, b⟩
    · rw [show sm_st1 L 0 v = sm_set L 0 v from rfl, a]; exact self
    · rw [show sm_st1 L 0 v = sm_set L 0 v from rfl, a] at hj ⊢
      exact key j (b.resolve_right hj) hj (by omega)
  | succ i =>
    unfold sm_st1 at hj ⊢
    dsimp only at hj ⊢
    cases hl : sm_isL (sm_nth L i) with
    | false =>
      rw [hl] at hj
      rcases sm_nth_set L (i + 1) v j with ⟨a, rfl⟩ | ⟨a, b⟩
      · rw [show (bif false then sm_set (sm_set L i vU) (i + 1) v else sm_set L (i + 1) v) = sm_set L (i + 1) v from rfl, a]; exact self
      · rw [show (bif false then sm_set (sm_set L i vU) (i + 1) v else sm_set L (i + 1) v) = sm_set L (i + 1) v from rfl, a] at hj ⊢
        exact key j (b.resolve_right hj) hj (fun z => by rw [show j = i by omega]; exact hl)
    | true =>
      rw [hl] at hj
      rcases sm_nth_set (sm_set L i vU) (i + 1) v j with ⟨a, rfl⟩ | ⟨a, b⟩
      · rw [show (bif true then sm_set (sm_set L i vU) (i + 1) v else sm_set L (i + 1) v) = sm_set (sm_set L i vU) (i + 1) v from rfl, a]; exact self
      · rw [show (bif true then sm_set (sm_set L i vU) (i + 1) v else sm_set L (i + 1) v) = sm_set (sm_set L i vU) (i + 1) v from rfl, a] at hj ⊢
        rcases sm_nth_set L i vU j with ⟨a2, -⟩ | ⟨a2, b2⟩
        · exact absurd a2 hj
        · rw [a2] at hj b ⊢
          exact key j (b.resolve_right hj) hj (fun z => absurd (show j = i by omega) (b2.resolve_right hj))
theorem sm_LR.st2 (ho : E.2.2.2.2.2.1 = .null ∨ ∃ a, E.2.2.2.2.2.1 = .ref a) {nL i : Nat} {L : List sm_V} {ls ls' : Array Slot} {x : Int64} (h : sm_LR E σ nL L ls)
    (h' : lv_has ls' nL ((i, .long x) :: (sm_pl E (sm_ad σ) 0 L).filter (fun q => !(q.1 == i) && (!(q.1 == i + 1) && !(q.1 + 1 == i && q.2.category == 2))))) : sm_LR E σ nL (sm_st2 L i (vL x)) ls' := by
  refine ⟨h'.1, h'.2.1, fun j hj => ?_⟩
  unfold sm_st2 at hj ⊢
  rcases sm_nth_set (sm_st1 L i (vL x)) (i + 1) vU j with ⟨a, -⟩ | ⟨a, b⟩
  · exact absurd a hj
  · rw [a] at hj ⊢
    have hj1 : j ≠ i + 1 := b.resolve_right hj
    have key : j ≠ i → sm_nth L j ≠ vU → (j + 1 = i → sm_isL (sm_nth L j) = false) → ls'[j]? = some (.val (sm_rv E (sm_ad σ) (sm_nth L j))) ∧ sm_okv (sm_cnt σ) (sm_nth L j) := by
      intro h1 h2 h3
      refine ⟨h'.2.2 (j, sm_rv E (sm_ad σ) (sm_nth L j)) (List.mem_cons_of_mem _ (List.mem_filter.mpr ⟨?_, ?_⟩)), (h.2.2 j h2).2⟩
      · have := sm_pl_mem (E := E) (sm_ad σ) L 0 j h2
        rw [Nat.zero_add] at this
        exact this
      · simp only [Bool.and_eq_true, Bool.not_eq_true', beq_eq_false_iff_ne, Bool.and_eq_false_iff]
        refine ⟨h1, hj1, ?_⟩
        by_cases hz : j + 1 = i
        · exact Or.inr (by rw [sm_cat_rv (h3 hz) ho]; decide)
        · exact Or.inl hz
    have self : ls'[i]? = some (.val (.long x)) := h'.2.2 (i, .long x) List.mem_cons_self
    cases i with
    | zero =>
      rcases sm_nth_set L 0 (vL x) j with ⟨a, rfl⟩ | ⟨a, b⟩
      · rw [show sm_st1 L 0 (vL x) = sm_set L 0 (vL x) from rfl, a]; exact ⟨self, trivial⟩
      · rw [show sm_st1 L 0 (vL x) = sm_set L 0 (vL x) from rfl, a] at hj ⊢
        exact key (b.resolve_right hj) hj (by omega)
    | succ i =>
      unfold sm_st1 at hj ⊢
      dsimp only at hj ⊢
      cases hl : sm_isL (sm_nth L i) with
      | false =>
        rw [hl] at hj
        rcases sm_nth_set L (i + 1) (vL x) j with ⟨a, rfl⟩ | ⟨a, b⟩
        · rw [show (bif false then sm_set (sm_set L i vU) (i + 1) (vL x) else sm_set L (i + 1) (vL x)) = sm_set L (i + 1) (vL x) from rfl, a]; exact ⟨self, trivial⟩
        · rw [show (bif false then sm_set (sm_set L i vU) (i + 1) (vL x) else sm_set L (i + 1) (vL x)) = sm_set L (i + 1) (vL x) from rfl, a] at hj ⊢
          exact key (b.resolve_right hj) hj (fun z => by rw [show j = i by omega]; exact hl)
      | true =>
        rw [hl] at hj
        rcases sm_nth_set (sm_set L i vU) (i + 1) (vL x) j with ⟨a, rfl⟩ | ⟨a, b⟩
        · rw [show (bif true then sm_set (sm_set L i vU) (i + 1) (vL x) else sm_set L (i + 1) (vL x)) = sm_set (sm_set L i vU) (i + 1) (vL x) from rfl, a]; exact ⟨self, trivial⟩
        · rw [show (bif true then sm_set (sm_set L i vU) (i + 1) (vL x) else sm_set L (i + 1) (vL x)) = sm_set (sm_set L i vU) (i + 1) (vL x) from rfl, a] at hj ⊢
          rcases sm_nth_set L i vU j with ⟨a2, -⟩ | ⟨a2, b2⟩
          · exact absurd a2 hj
          · rw [a2] at hj b ⊢
            exact key (b.resolve_right hj) hj (fun z => absurd (show j = i by omega) (b2.resolve_right hj))
theorem sm_mask_nth : ∀ (L : List sm_V) (n : Nat) (l : List Nat) (i : Nat), sm_nth (sm_mask n l L) i ≠ vU → sm_nth (sm_mask n l L) i = sm_nth L i
  | [], _, _, _, _ => rfl
  | v :: r, n, l, 0, h => by
    show (bif l.contains n then v else vU) = v
    have h : (bif l.contains n then v else vU) ≠ vU := h
    cases hc : l.contains n
    · rw [hc] at h; exact absurd rfl h
    · rfl
  | v :: r, n, l, i + 1, h => sm_mask_nth r (n + 1) l i h
theorem sm_LR.lv {nL : Nat} {L : List sm_V} {ls : Array Slot} (e : sm_E) (h : sm_LR E σ nL L ls) : sm_LR E σ nL (sm_lv e L) ls := by
  unfold sm_lv
  split
  · exact h
  · refine ⟨h.1, h.2.1, fun i hi => ?_⟩
    have q := sm_mask_nth _ _ _ _ hi
    rw [q] at hi
    rw [q]
    exact h.2.2 i hi
end
end
section
section
variable {E : sm_G} {X : Nat × (Nat → Int32)} {w : Bool} {p : Program} {l : Launch} {e : Env} {R : Room} {s : State} {m : MethodId} {args : Array Value} {below : List Frame} {meth : Method} {c : Code} {mn : Nat} {C : sm_C} {r : sm_O × sm_S} {c0 s0 : Nat} {Q : State → Prop}
/-- what holds of an invocation of method mn -/
def sm_Cx (E : sm_G) (X : Nat × (Nat → Int32)) (p : Program) (s : State) (m : MethodId) (args : Array Value) (meth : Method) (c : Code) (mn : Nat) : Prop :=
  p.tables.exec = Jvm.exec ∧ c.code = sm_bc mn ∧ c.maxLocals = sm_nl mn ∧ s.vm.findClass (sm_cn (sm_ow mn)) = some m.cls ∧ (∀ u ∈ sm_wd, u.before args s = true) ∧ sm_EF E X s ∧ meth.locks = false ∧ meth.sig.returnType = sm_re mn ∧ (sm_kn mn = 2 → meth.name = "<init>") ∧
  (mn ≠ sm_LOAD → c.exceptionTable.toList = []) ∧ (mn = sm_LOAD → c.exceptionTable.toList.map (fun h => (h.startPc, h.endPc, h.handlerPc, h.catchType)) = [(34, 38, 41, 643)])
/-- the walk of what the small machine does in n steps -/
def sm_K (E : sm_G) (X : Nat × (Nat → Int32)) (w : Bool) (p : Program) (l : Launch) (e : Env) (R : Room) (s : State) (m : MethodId) (args : Array Value) (below : List Frame) (meth : Method) (c : Code) (mn : Nat) (C : sm_C) (r : sm_O × sm_S) (c0 s0 : Nat) (Q : State → Prop) (n : Nat) : Prop :=
  ∀ (pc : Nat) (L S : List sm_V) (σ : sm_S) (H : Heap) (locs : List Loc) (ls : Array Slot), sm_run (sm_ZZ X) sm_PP w C mn n pc L S σ = some r → sm_HR E w σ H → sm_LR E σ (sm_nl mn) L ls → sm_SR σ S → (∀ q ∈ locs, E.1 ≤ q.base) → c0 ≤ sm_cells σ → s0 ≤ sm_slots σ →
    W p l e R s m args below meth c H locs (sm_cells σ - c0) (sm_slots σ - s0) Q (F0 m pc ls (sm_st E σ S))
theorem sm_tg_eq {pc : Nat} {o : Int} (h : 0 ≤ (pc : Int) + o) : (pc : Int) + o = (sm_tg pc o : Int) := by
  unfold sm_tg; omega
theorem sm_rp_none {ad : Nat → Nat → Nat} {q : Nat × Nat} : sm_rp E ad q = none ↔ q.1 = 0 := by
  unfold sm_rp
  by_cases h : q.1 = 0
  · simp [h]
  · simp only [h, if_false, iff_false]
    repeat (split; · simp)
    simp
theorem sm_SR.tail {σ : sm_S} {v : sm_V} {S : List sm_V} (h : sm_SR σ (v :: S)) : sm_SR σ S := fun u hu => h u (List.mem_cons_of_mem _ hu)
theorem sm_SR.cons {σ : sm_S} {v : sm_V} {S : List sm_V} (hv : sm_okv (sm_cnt σ) v) (h : sm_SR σ S) : sm_SR σ (v :: S) := fun u hu => by
  rcases List.mem_cons.mp hu with rfl | hu
  · exact hv
  · exact h u hu
/-- two references that are the same cell are the same -/
theorem sm_rp_inj {σ : sm_S} {H : Heap} (hH : sm_HR E w σ H) {x y : Nat × Nat} (hx : sm_okp (sm_cnt σ) x) (hy : sm_okp (sm_cnt σ) y) (gx : x.1 = 0 ∨ 10 ≤ x.1) (gy : y.1 = 0 ∨ 10 ≤ y.1) (h : sm_rp E (sm_ad σ) x = sm_rp E (sm_ad σ) y) : x = y := by
  have big : ∀ z : Nat × Nat, 10 ≤ z.1 → sm_rp E (sm_ad σ) z = some (E.1 + sm_ad σ z.1 z.2) := by
    intro z hz
    unfold sm_rp
    rw [if_neg (by omega), if_neg (by omega), if_neg (by omega), if_neg (by omega), if_neg (by omega)]
  have okb : ∀ z : Nat × Nat, sm_okp (sm_cnt σ) z → 10 ≤ z.1 → z.2 < sm_cnt σ z.1 := by
    intro z hz h10
    rcases hz with q | q | q | q | q | q
    · rw [q] at h10; simp at h10
    all_goals omega
  have ok0 : ∀ z : Nat × Nat, sm_okp (sm_cnt σ) z → z.1 = 0 → z = (0, 0) := by
    intro z hz h0
    rcases hz with q | q | q | q | q | q
    · exact q
    all_goals omega
  rcases gx with g1 | g1 <;> rcases gy with g2 | g2
  · rw [ok0 x hx g1, ok0 y hy g2]
  · rw [sm_rp_none.mpr g1, big y g2] at h; cases h
  · rw [sm_rp_none.mpr g2, big x g1] at h; cases h
  · rw [big x g1, big y g2] at h
    have e1 : sm_ad σ x.1 x.2 = sm_ad σ y.1 y.2 := by
      have := Option.some.inj h; omega
    obtain ⟨a, b⟩ := hH.2.2.2.1 x.1 x.2 y.1 y.2 g1 (okb x hx g1) g2 (okb y hy g2) e1
    exact Prod.ext a b
/-- the instructions that touch neither heap nor tables nor calls -/
def sm_lt (ins : Instr) : Bool := match ins with
  | .ldc _ | .ldc_w _ | .ldc2_w _ | .getstatic _ | .getfield _ | .putfield _ | .iaload | .baload | .laload | .aaload | .iastore | .bastore | .lastore | .aastore | .arraylength | .new _ | .newarray _ | .anewarray _ | .invokestatic _ | .invokevirtual _ | .invokespecial _ | .athrow | .ireturn | .lreturn | .areturn | .return_ => false
  | _ => true
theorem sm_sw_lookup {x : Int32} {jp : Nat → sm_R} {pc d : Nat} : ∀ (l : List (Int × Int)), (l.all (fun q => decide (0 ≤ (pc : Int) + q.2) && sm_inR q.1)) = true → ∀ (dd : Int), 0 ≤ (pc : Int) + dd → sm_tg pc dd = d → ∃ off : Int, Op.lookupswitch.offset l dd x.toInt = off ∧ 0 ≤ (pc : Int) + off ∧ sm_sw x jp d (sm_pairs pc l) = jp (sm_tg pc off)
  | [], _, dd, hd, he => ⟨dd, rfl, hd, by rw [he]; rfl⟩
  | q :: r, hl, dd, hd, he => by
    simp only [List.all_cons, Bool.and_eq_true, decide_eq_true_eq] at hl
    obtain ⟨⟨h1, h2⟩, h3⟩ := hl
    have hq : x = Int32.ofInt q.1 ↔ x.toInt = q.1 := by
      unfold sm_inR at h2
      simp only [Bool.and_eq_true, decide_eq_true_eq] at h2
      constructor
      · intro h; rw [h]; exact Int32.toInt_ofInt_of_le (by simpa using h2.1) (by simp; omega)
      · intro h; rw [← h]; simp
    by_cases hx : x.toInt = q.1
    · refine ⟨q.2, ?_, h1, ?_⟩
      · simp [Op.lookupswitch.offset, hx]
      · show (if x = Int32.ofInt q.1 then _ else _) = _
        rw [if_pos (hq.mpr hx)]
    · obtain ⟨off, g1, g2, g3⟩ := sm_sw_lookup (x := x) (jp := jp) r (by simpa using h3) dd hd he
      refine ⟨off, ?_, g2, ?_⟩
      · rw [← g1]
        simp [Op.lookupswitch.offset, Ne.symm hx]
      · show (if x = Int32.ofInt q.1 then _ else _) = _
        rw [if_neg (fun z => hx (hq.mp z))]
        exact g3
theorem sm_sw_table {x : Int32} {jp : Nat → sm_R} {pc d : Nat} : ∀ (l : List Int) (lo : Int), sm_inR lo = true → sm_inR (lo + (l.length : Int)) = true →
    ((x.toInt < lo ∨ lo + (l.length : Int) ≤ x.toInt) → sm_sw x jp d (sm_cases pc lo l) = jp d) ∧ (lo ≤ x.toInt → x.toInt < lo + (l.length : Int) → ∃ off, l[(x.toInt - lo).toNat]? = some off ∧ sm_sw x jp d (sm_cases pc lo l) = jp (sm_tg pc off))
  | [], lo, _, _ => ⟨fun _ => rfl, fun a b => by simp at b; omega⟩
  | o :: r, lo, h1, h2 => by
    have e0 : lo + (((o :: r).length : Nat) : Int) = lo + 1 + (r.length : Int) := by simp; omega
    rw [e0] at h2 ⊢
    have hq : x = Int32.ofInt lo ↔ x.toInt = lo := by
      unfold sm_inR at h1
      simp only [Bool.and_eq_true, decide_eq_true_eq] at h1
      constructor
      · intro h; rw [h]; exact Int32.toInt_ofInt_of_le (by simpa using h1.1) (by simp; omega)
      · intro h; rw [← h]; simp
    have h1' : sm_inR (lo + 1) = true := by
      unfold sm_inR at h1 h2 ⊢
      simp only [Bool.and_eq_true, decide_eq_true_eq] at h1 h2 ⊢
      omega
    obtain ⟨g1, g2⟩ := sm_sw_table (x := x) (jp := jp) (pc := pc) (d := d) r (lo + 1) h1' h2
    refine ⟨fun hx => ?_, fun a b => ?_⟩
    · show (if x = Int32.ofInt lo then _ else _) = _
      rw [if_neg (fun z => by have := hq.mp z; omega)]
      exact g1 (by omega)
    · by_cases hx : x.toInt = lo
      · refine ⟨o, by rw [hx]; simp, ?_⟩
        show (if x = Int32.ofInt lo then _ else _) = _
        rw [if_pos (hq.mpr hx)]
      · obtain ⟨off, k1, k2⟩ := g2 (by omega) b
        refine ⟨off, ?_, ?_⟩
        · rw [show (x.toInt - lo).toNat = (x.toInt - (lo + 1)).toNat + 1 by omega]
          exact k1
        · show (if x = Int32.ofInt lo then _ else _) = _
          rw [if_neg (fun z => hx (hq.mp z))]
          exact k2
end
end
section
section
variable {E : sm_G} {X : Nat × (Nat → Int32)} {w : Bool} {p : Program} {l : Launch} {e : Env} {R : Room} {s : State} {m : MethodId} {args : Array Value} {below : List Frame} {meth : Method} {c : Code} {mn : Nat} {C : sm_C} {r : sm_O × sm_S} {c0 s0 : Nat} {Q : State → Prop} {n : Nat}
theorem sm_ln_r {a len k : Nat} (h : a = 0 ∨ len = a) (e : a = k + 1) : len = k + 1 := by omega
set_option maxHeartbeats 4000000 in
theorem sm_light (cx : sm_Cx E X p s m args meth c mn) (K : sm_K E X w p l e R s m args below meth c mn C r c0 s0 Q n) {ins : Instr} {len : Nat} {a : Nat × Nat × Nat × Nat} {pc : Nat} (hlt : sm_lt ins = true) (hd : decode (sm_bc mn) pc = .ok (ins, len)) (hlen : sm_ln ins = 0 ∨ len = sm_ln ins) (hok : sm_okA mn ins a pc = true)
    {L S : List sm_V} {σ : sm_S} {hx : sm_S → sm_R} (h : sm_I (sm_ZZ X) w C ins a pc (sm_run (sm_ZZ X) sm_PP w C mn n (pc + len)) (sm_run (sm_ZZ X) sm_PP w C mn n) hx L S σ = some r)
    {H : Heap} {locs : List Loc} {ls : Array Slot} (hH : sm_HR E w σ H) (hL : sm_LR E σ (sm_nl mn) L ls) (hS : sm_SR σ S) (hl : ∀ q ∈ locs, E.1 ≤ q.base) (hc : c0 ≤ sm_cells σ) (hs : s0 ≤ sm_slots σ) :
    W p l e R s m args below meth c H locs (sm_cells σ - c0) (sm_slots σ - s0) Q (F0 m pc ls (sm_st E σ S)) := by
  obtain ⟨hex, hb, hml, hown, hts, hEF, -⟩ := cx
  have ho := hEF.2.2.2.2.2.2.2.2.2.2.2.2
  have hLh := hL.has
  cases ins <;> first | cases hlt | skip
  all_goals first | (exact absurd h (by intro z; cases z)) | skip
  all_goals first | (replace hlen := sm_ln_r (k := 0) hlen rfl; subst hlen) | (replace hlen := sm_ln_r (k := 1) hlen rfl; subst hlen) | (replace hlen := sm_ln_r (k := 2) hlen rfl; subst hlen) | skip
  case iconst k => exact lv_iconst (v := Int32.ofInt k) hex hb hd rfl (K _ _ _ _ _ _ _ h hH hL (hS.cons trivial) hl hc hs)
  case bipush k => exact lv_bipush (v := (Int8.ofInt k).toInt32) hex hb hd rfl (K _ _ _ _ _ _ _ h hH hL (hS.cons trivial) hl hc hs)
  case sipush k => exact lv_sipush (v := (Int16.ofInt k).toInt32) hex hb hd rfl (K _ _ _ _ _ _ _ h hH hL (hS.cons trivial) hl hc hs)
  case lconst k => exact lv_lconst (v := Int64.ofNat k) hex hb hd rfl (K _ _ _ _ _ _ _ h hH hL (hS.cons trivial) hl hc hs)
  case aconst_null => exact lv_null hex hb hd (K _ _ _ _ _ _ _ h hH hL (hS.cons (Or.inl rfl)) hl hc hs)
  case iload i =>
    rcases hv : sm_nth L i with x | x | x | x <;> (simp only [sm_I, hv, sm_ld] at h) <;> try cases h
    exact lv_iload hex hb hd (by have := (hL.2.2 i (by rw [hv]; exact fun z => by cases z)).1; rw [hv] at this; exact this) (K _ _ _ _ _ _ _ h hH hL (hS.cons trivial) hl hc hs)
  case iload_n i =>
    rcases hv : sm_nth L i with x | x | x | x <;> (simp only [sm_I, hv, sm_ld] at h) <;> try cases h
    exact lv_iload_n hex hb hd rfl (by have := (hL.2.2 i (by rw [hv]; exact fun z => by cases z)).1; rw [hv] at this; exact this) (K _ _ _ _ _ _ _ h hH hL (hS.cons trivial) hl hc hs)
  case lload i =>
    rcases hv : sm_nth L i with x | x | x | x <;> (simp only [sm_I, hv, sm_ld] at h) <;> try cases h
    exact lv_lload hex hb hd (by have := (hL.2.2 i (by rw [hv]; exact fun z => by cases z)).1; rw [hv] at this; exact this) (K _ _ _ _ _ _ _ h hH hL (hS.cons trivial) hl hc hs)
  case lload_n i =>
    rcases hv : sm_nth L i with x | x | x | x <;> (simp only [sm_I, hv, sm_ld] at h) <;> try cases h
    exact lv_lload_n hex hb hd rfl (by have := (hL.2.2 i (by rw [hv]; exact fun z => by cases z)).1; rw [hv] at this; exact this) (K _ _ _ _ _ _ _ h hH hL (hS.cons trivial) hl hc hs)
  case aload i =>
    rcases hv : sm_nth L i with x | x | x | x <;> (simp only [sm_I, hv, sm_ld] at h) <;> try cases h
    have hq := hL.2.2 i (by rw [hv]; exact fun z => by cases z)
    rw [hv] at hq
    have g := K _ _ _ _ _ _ _ h hH hL (hS.cons hq.2) hl hc hs
    obtain ⟨q1, q2⟩ := hq
    have q1 : ls[i]? = some (.val (va_rf (sm_rp E (sm_ad σ) x))) := q1
    have g : W p l e R s m args below meth c H locs (sm_cells σ - c0) (sm_slots σ - s0) Q (F0 m (pc + 2) ls (va_rf (sm_rp E (sm_ad σ) x) :: sm_st E σ S)) := g
    cases hr : sm_rp E (sm_ad σ) x with
    | none => rw [hr] at q1 g; exact lv_aloadN hex hb hd q1 g
    | some y => rw [hr] at q1 g; exact lv_aload hex hb hd q1 g
  case aload_n i =>
    rcases hv : sm_nth L i with x | x | x | x <;> (simp only [sm_I, hv, sm_ld] at h) <;> try cases h
    have hq := hL.2.2 i (by rw [hv]; exact fun z => by cases z)
    rw [hv] at hq
    have g := K _ _ _ _ _ _ _ h hH hL (hS.cons hq.2) hl hc hs
    obtain ⟨q1, q2⟩ := hq
    have q1 : ls[(i : Nat)]? = some (.val (va_rf (sm_rp E (sm_ad σ) x))) := q1
    have g : W p l e R s m args below meth c H locs (sm_cells σ - c0) (sm_slots σ - s0) Q (F0 m (pc + 1) ls (va_rf (sm_rp E (sm_ad σ) x) :: sm_st E σ S)) := g
    cases hr : sm_rp E (sm_ad σ) x with
    | none => rw [hr] at q1 g; exact lv_aload_nN hex hb hd rfl q1 g
    | some y => rw [hr] at q1 g; exact lv_aload_n hex hb hd rfl q1 g
  case istore i =>
    rcases sm_p1_s S with q | ⟨x, S, rfl⟩
    · exact absurd h (by rw [show sm_I (sm_ZZ X) w C (.istore i) a pc _ _ hx L S σ = none from q _]; exact fun z => by cases z)
    · exact lv_istore hex hb hd hLh (of_decide_eq_true hok) rfl fun ls' h' => K _ _ _ _ _ _ _ h hH (hL.st1 ho (v := vI x) trivial h') hS.tail hl hc hs
  case istore_n i =>
    rcases sm_p1_s S with q | ⟨x, S, rfl⟩
    · exact absurd h (by rw [show sm_I (sm_ZZ X) w C (.istore_n i) a pc _ _ hx L S σ = none from q _]; exact fun z => by cases z)
    · exact lv_istore_n hex hb hd rfl hLh (of_decide_eq_true hok) rfl fun ls' h' => K _ _ _ _ _ _ _ h hH (hL.st1 ho (v := vI x) trivial h') hS.tail hl hc hs
  case lstore i =>
    rcases sm_q1_s S with q | ⟨x, S, rfl⟩
    · exact absurd h (by rw [show sm_I (sm_ZZ X) w C (.lstore i) a pc _ _ hx L S σ = none from q _]; exact fun z => by cases z)
    · exact lv_lstore hex hb hd hLh (of_decide_eq_true hok) rfl fun ls' h' => K _ _ _ _ _ _ _ h hH (hL.st2 ho h') hS.tail hl hc hs
  case lstore_n i =>
    rcases sm_q1_s S with q | ⟨x, S, rfl⟩
    · exact absurd h (by rw [show sm_I (sm_ZZ X) w C (.lstore_n i) a pc _ _ hx L S σ = none from q _]; exact fun z => by cases z)
    · exact lv_lstore_n hex hb hd rfl hLh (of_decide_eq_true hok) rfl fun ls' h' => K _ _ _ _ _ _ _ h hH (hL.st2 ho h') hS.tail hl hc hs
  case astore i =>
    rcases sm_r1_s S with q | ⟨x, S, rfl⟩
    · exact absurd h (by rw [show sm_I (sm_ZZ X) w C (.astore i) a pc _ _ hx L S σ = none from q _]; exact fun z => by cases z)
    · have hv : sm_okv (sm_cnt σ) (vP x) := hS _ List.mem_cons_self
      have g := fun (ls' : Array Slot) (h' : lv_has ls' (sm_nl mn) ((i, va_rf (sm_rp E (sm_ad σ) x)) :: (sm_pl E (sm_ad σ) 0 L).filter (fun q => !(q.1 == i) && !(q.1 + 1 == i && q.2.category == 2)))) => K _ _ _ _ _ _ _ h hH (hL.st1 ho (v := vP x) hv h') hS.tail hl hc hs
      show W p l e R s m args below meth c H locs _ _ Q (F0 m pc ls (va_rf (sm_rp E (sm_ad σ) x) :: sm_st E σ S))
      cases hr : sm_rp E (sm_ad σ) x with
      | none => rw [hr] at g; exact lv_astoreN hex hb hd hLh (of_decide_eq_true hok) rfl g
      | some y => rw [hr] at g; exact lv_astore hex hb hd hLh (of_decide_eq_true hok) rfl g
  case astore_n i =>
    rcases sm_r1_s S with q | ⟨x, S, rfl⟩
    · exact absurd h (by rw [show sm_I (sm_ZZ X) w C (.astore_n i) a pc _ _ hx L S σ = none from q _]; exact fun z => by cases z)
    · have hv : sm_okv (sm_cnt σ) (vP x) := hS _ List.mem_cons_self
      have g := fun (ls' : Array Slot) (h' : lv_has ls' (sm_nl mn) (((i : Nat), va_rf (sm_rp E (sm_ad σ) x)) :: (sm_pl E (sm_ad σ) 0 L).filter (fun q => !(q.1 == (i : Nat)) && !(q.1 + 1 == (i : Nat) && q.2.category == 2)))) => K _ _ _ _ _ _ _ h hH (hL.st1 ho (v := vP x) hv h') hS.tail hl hc hs
      show W p l e R s m args below meth c H locs _ _ Q (F0 m pc ls (va_rf (sm_rp E (sm_ad σ) x) :: sm_st E σ S))
      cases hr : sm_rp E (sm_ad σ) x with
      | none => rw [hr] at g; exact lv_astore_nN hex hb hd rfl hLh (of_decide_eq_true hok) rfl g
      | some y => rw [hr] at g; exact lv_astore_n hex hb hd rfl hLh (of_decide_eq_true hok) rfl g
  case iinc i k =>
    rcases hv : sm_nth L i with x | x | x | x <;> (simp only [sm_I, hv, sm_ld] at h) <;> try cases h
    have hm := sm_pl_mem (E := E) (sm_ad σ) L 0 i (by rw [hv]; exact fun z => by cases z)
    rw [hv, Nat.zero_add] at hm
    obtain ⟨j, hj⟩ := List.getElem?_of_mem hm
    exact lv_iinc hex hb hd hLh hj rfl (of_decide_eq_true hok) rfl fun ls' h' => K _ _ _ _ _ _ _ h hH (hL.st1 ho (v := vI (x + Int32.ofInt k)) trivial h') hS hl hc hs
  case goto o => exact lv_goto hex hb hd (sm_tg_eq (of_decide_eq_true hok)) (K _ _ _ _ _ _ _ h hH hL hS hl hc hs)
  case ifCond cd o =>
    rcases sm_p1_s S with q | ⟨x, S, rfl⟩
    · exact absurd h (by rw [show sm_I (sm_ZZ X) w C (.ifCond cd o) a pc _ _ hx L S σ = none from q _]; exact fun z => by cases z)
    · have ht := sm_tg_eq (of_decide_eq_true hok)
      cases cd
      · exact lv_if_eq hex hb hd ht (fun z => K _ _ _ _ _ _ _ ((if_pos z).symm.trans h) hH hL hS.tail hl hc hs) (fun z => K _ _ _ _ _ _ _ ((if_neg z).symm.trans h) hH hL hS.tail hl hc hs)
      · exact lv_if_ne hex hb hd ht (fun z => K _ _ _ _ _ _ _ ((if_neg z).symm.trans h) hH hL hS.tail hl hc hs) (fun z => K _ _ _ _ _ _ _ ((if_pos (by simpa using z)).symm.trans h) hH hL hS.tail hl hc hs)
      · exact lv_if_lt hex hb hd ht (fun z => K _ _ _ _ _ _ _ ((if_pos z).symm.trans h) hH hL hS.tail hl hc hs) (fun z => K _ _ _ _ _ _ _ ((if_neg z).symm.trans h) hH hL hS.tail hl hc hs)
      · exact lv_if_ge hex hb hd ht (fun z => K _ _ _ _ _ _ _ ((if_neg (by simpa using z)).symm.trans h) hH hL hS.tail hl hc hs) (fun z => K _ _ _ _ _ _ _ ((if_pos (by simpa using z)).symm.trans h) hH hL hS.tail hl hc hs)
      · exact lv_if_gt hex hb hd ht (fun z => K _ _ _ _ _ _ _ ((if_pos (by simpa using z)).symm.trans h) hH hL hS.tail hl hc hs) (fun z => K _ _ _ _ _ _ _ ((if_neg (by simpa using z)).symm.trans h) hH hL hS.tail hl hc hs)
      · exact lv_if_le hex hb hd ht (fun z => K _ _ _ _ _ _ _ ((if_neg (by simpa using z)).symm.trans h) hH hL hS.tail hl hc hs) (fun z => K _ _ _ _ _ _ _ ((if_pos (by simpa using z)).symm.trans h) hH hL hS.tail hl hc hs)
  case if_icmp cd o =>
    rcases sm_p2_s S with q | ⟨x, y, S, rfl⟩
    · exact absurd h (by rw [show sm_I (sm_ZZ X) w C (.if_icmp cd o) a pc _ _ hx L S σ = none from q _]; exact fun z => by cases z)
    · have ht := sm_tg_eq (of_decide_eq_true hok)
      cases cd
      · exact lv_icmp_eq hex hb hd ht (fun z => K _ _ _ _ _ _ _ ((if_pos z).symm.trans h) hH hL hS.tail.tail hl hc hs) (fun z => K _ _ _ _ _ _ _ ((if_neg z).symm.trans h) hH hL hS.tail.tail hl hc hs)
      · exact lv_icmp_ne hex hb hd ht (fun z => K _ _ _ _ _ _ _ ((if_neg z).symm.trans h) hH hL hS.tail.tail hl hc hs) (fun z => K _ _ _ _ _ _ _ ((if_pos (by simpa using z)).symm.trans h) hH hL hS.tail.tail hl hc hs)
      · exact lv_icmp_lt hex hb hd ht (fun z => K _ _ _ _ _ _ _ ((if_pos z).symm.trans h) hH hL hS.tail.tail hl hc hs) (fun z => K _ _ _ _ _ _ _ ((if_neg z).symm.trans h) hH hL hS.tail.tail hl hc hs)
      · exact lv_icmp_ge hex hb hd ht (fun z => K _ _ _ _ _ _ _ ((if_neg (by simpa using z)).symm.trans h) hH hL hS.tail.tail hl hc hs) (fun z => K _ _ _ _ _ _ _ ((if_pos (by simpa using z)).symm.trans h) hH hL hS.tail.tail hl hc hs)
      · exact lv_icmp_gt hex hb hd ht (fun z => K _ _ _ _ _ _ _ ((if_pos (by simpa using z)).symm.trans h) hH hL hS.tail.tail hl hc hs) (fun z => K _ _ _ _ _ _ _ ((if_neg (by simpa using z)).symm.trans h) hH hL hS.tail.tail hl hc hs)
      · exact lv_icmp_le hex hb hd ht (fun z => K _ _ _ _ _ _ _ ((if_neg (by simpa using z)).symm.trans h) hH hL hS.tail.tail hl hc hs) (fun z => K _ _ _ _ _ _ _ ((if_pos (by simpa using z)).symm.trans h) hH hL hS.tail.tail hl hc hs)
  case if_acmp cd o =>
    rcases sm_r2_s S with q | ⟨x, y, S, rfl⟩
    · exact absurd h (by rw [show sm_I (sm_ZZ X) w C (.if_acmp cd o) a pc _ _ hx L S σ = none from q _]; exact fun z => by cases z)
    · have ht := sm_tg_eq (of_decide_eq_true hok)
      have hy : sm_okp (sm_cnt σ) y := hS (vP y) List.mem_cons_self
      have hxx : sm_okp (sm_cnt σ) x := hS (vP x) (List.mem_cons_of_mem _ List.mem_cons_self)
      show W p l e R s m args below meth c H locs _ _ Q (F0 m pc ls (va_rf (sm_rp E (sm_ad σ) y) :: va_rf (sm_rp E (sm_ad σ) x) :: sm_st E σ S))
      cases cd
      · by_cases hxy : x = y
        · subst hxy
          exact lv_acmp_eq hex hb hd ht (fun _ => K _ _ _ _ _ _ _ ((if_pos rfl).symm.trans h) hH hL hS.tail.tail hl hc hs) (fun z => absurd rfl z)
        · have h1 := (if_neg hxy).symm.trans h
          by_cases hg : (x.1 = 0 ∨ 10 ≤ x.1) ∧ (y.1 = 0 ∨ 10 ≤ y.1)
          · exact lv_acmp_eq hex hb hd ht (fun z => absurd (sm_rp_inj hH hxx hy hg.1 hg.2 z) hxy) (fun _ => K _ _ _ _ _ _ _ ((if_pos hg).symm.trans h1) hH hL hS.tail.tail hl hc hs)
          · exact absurd ((if_neg hg).symm.trans h1) (fun z => by cases z)
      · by_cases hxy : x = y
        · subst hxy
          exact lv_acmp_ne hex hb hd ht (fun z => absurd rfl z) (fun _ => K _ _ _ _ _ _ _ ((if_pos rfl).symm.trans h) hH hL hS.tail.tail hl hc hs)
        · have h1 := (if_neg hxy).symm.trans h
          by_cases hg : (x.1 = 0 ∨ 10 ≤ x.1) ∧ (y.1 = 0 ∨ 10 ≤ y.1)
          · exact lv_acmp_ne hex hb hd ht (fun _ => K _ _ _ _ _ _ _ ((if_pos hg).symm.trans h1) hH hL hS.tail.tail hl hc hs) (fun z => absurd (sm_rp_inj hH hxx hy hg.1 hg.2 z) hxy)
          · exact absurd ((if_neg hg).symm.trans h1) (fun z => by cases z)
  case ifnull o =>
    rcases sm_r1_s S with q | ⟨x, S, rfl⟩
    · exact absurd h (by rw [show sm_I (sm_ZZ X) w C (.ifnull o) a pc _ _ hx L S σ = none from q _]; exact fun z => by cases z)
    · have ht := sm_tg_eq (of_decide_eq_true hok)
      show W p l e R s m args below meth c H locs _ _ Q (F0 m pc ls (va_rf (sm_rp E (sm_ad σ) x) :: sm_st E σ S))
      by_cases hz : x.1 = 0
      · rw [sm_rp_none.mpr hz]
        exact lv_ifnullN hex hb hd ht (K _ _ _ _ _ _ _ ((if_pos hz).symm.trans h) hH hL hS.tail hl hc hs)
      · cases hr : sm_rp E (sm_ad σ) x with
        | none => exact absurd (sm_rp_none.mp hr) hz
        | some y => exact lv_ifnull hex hb hd (K _ _ _ _ _ _ _ ((if_neg hz).symm.trans h) hH hL hS.tail hl hc hs)
  case ifnonnull o =>
    rcases sm_r1_s S with q | ⟨x, S, rfl⟩
    · exact absurd h (by rw [show sm_I (sm_ZZ X) w C (.ifnonnull o) a pc _ _ hx L S σ = none from q _]; exact fun z => by cases z)
    · have ht := sm_tg_eq (of_decide_eq_true hok)
      show W p l e R s m args below meth c H locs _ _ Q (F0 m pc ls (va_rf (sm_rp E (sm_ad σ) x) :: sm_st E σ S))
      by_cases hz : x.1 = 0
      · rw [sm_rp_none.mpr hz]
        exact lv_ifnonnullN hex hb hd (K _ _ _ _ _ _ _ ((if_pos hz).symm.trans h) hH hL hS.tail hl hc hs)
      · cases hr : sm_rp E (sm_ad σ) x with
        | none => exact absurd (sm_rp_none.mp hr) hz
        | some y => exact lv_ifnonnull hex hb hd ht (K _ _ _ _ _ _ _ ((if_neg hz).symm.trans h) hH hL hS.tail hl hc hs)
  case tableswitch d lo hi os =>
    rcases sm_p1_s S with q | ⟨x, S, rfl⟩
    · exact absurd h (by rw [show sm_I (sm_ZZ X) w C (.tableswitch d lo hi os) a pc _ _ hx L S σ = none from q _]; exact fun z => by cases z)
    · simp only [sm_okA, Bool.and_eq_true, decide_eq_true_eq] at hok
      obtain ⟨g1, g2, g3, g4, g5⟩ := hok
      have hsz : (os.size : Int) = (os.toList.length : Int) := by simp
      obtain ⟨u1, u2⟩ := sm_sw_table (x := x) (jp := fun t => sm_run (sm_ZZ X) sm_PP w C mn n t L S σ) (pc := pc) (d := sm_tg pc d) os.toList lo g4 (by rw [← hsz]; exact g5)
      rw [← hsz] at u1 u2
      by_cases hz : x.toInt < lo ∨ hi < x.toInt
      · exact lv_tableOut hex hb hd hz (sm_tg_eq g1) (K _ _ _ _ _ _ _ ((u1 (by omega)).symm.trans h) hH hL hS.tail hl hc hs)
      · obtain ⟨off, k1, k2⟩ := u2 (by omega) (by omega)
        have k1' : os[(x.toInt - lo).toNat]? = some off := by rw [← k1]; simp
        have hoff : 0 ≤ (pc : Int) + off := by
          have := List.all_eq_true.mp g2 off (List.mem_of_getElem? k1)
          exact of_decide_eq_true this
        exact lv_tableIn hex hb hd (by omega) (by omega) k1' (sm_tg_eq hoff) (K _ _ _ _ _ _ _ (k2.symm.trans h) hH hL hS.tail hl hc hs)
  case lookupswitch d ps =>
    rcases sm_p1_s S with q | ⟨x, S, rfl⟩
    · exact absurd h (by rw [show sm_I (sm_ZZ X) w C (.lookupswitch d ps) a pc _ _ hx L S σ = none from q _]; exact fun z => by cases z)
    · have hok' : (decide (0 ≤ (pc : Int) + d) && (ps.toList.all (fun q => decide (0 ≤ (pc : Int) + q.2) && sm_inR q.1) && ((ps.toList.zip (ps.toList.drop 1)).all (fun (a, next) => a.1 < next.1)))) = true := hok
      rw [Bool.and_eq_true, Bool.and_eq_true] at hok'
      obtain ⟨g1, g2, g3⟩ := hok'
      obtain ⟨off, k1, k2, k3⟩ := sm_sw_lookup (x := x) (jp := fun t => sm_run (sm_ZZ X) sm_PP w C mn n t L S σ) (pc := pc) (d := sm_tg pc d) ps.toList g2 d (of_decide_eq_true g1) rfl
      exact lv_lookup hex hb hd g3 k1 (sm_tg_eq k2) (K _ _ _ _ _ _ _ (k3.symm.trans h) hH hL hS.tail hl hc hs)
  case idiv =>
    rcases sm_p2_s S with q | ⟨x, y, S, rfl⟩
    · exact absurd h (by rw [show sm_I (sm_ZZ X) w C .idiv a pc _ _ hx L S σ = none from q _]; exact fun z => by cases z)
    · by_cases hz : y = 0
      · exact absurd ((if_pos hz).symm.trans h) (fun z => by cases z)
      · exact lv_idiv hex hb hd hz (K _ _ _ _ _ _ _ ((if_neg hz).symm.trans h) hH hL (hS.tail.tail.cons trivial) hl hc hs)
  case irem =>
    rcases sm_p2_s S with q | ⟨x, y, S, rfl⟩
    · exact absurd h (by rw [show sm_I (sm_ZZ X) w C .irem a pc _ _ hx L S σ = none from q _]; exact fun z => by cases z)
    · by_cases hz : y = 0
      · exact absurd ((if_pos hz).symm.trans h) (fun z => by cases z)
      · exact lv_irem hex hb hd hz (K _ _ _ _ _ _ _ ((if_neg hz).symm.trans h) hH hL (hS.tail.tail.cons trivial) hl hc hs)
  case lshl =>
    rcases sm_p1_s S with q | ⟨y, S, rfl⟩
    · exact absurd h (by rw [show sm_I (sm_ZZ X) w C .lshl a pc _ _ hx L S σ = none from q _]; exact fun z => by cases z)
    · rcases sm_q1_s S with q | ⟨x, S, rfl⟩
      · exact absurd h (by rw [show sm_I (sm_ZZ X) w C .lshl a pc _ _ hx L (vI y :: S) σ = none from q _]; exact fun z => by cases z)
      · exact lv_lshl hex hb hd rfl (K _ _ _ _ _ _ _ h hH hL (hS.tail.tail.cons trivial) hl hc hs)
  case dup =>
    rcases S with _ | ⟨v, S⟩
    · cases h
    · by_cases hz : sm_cat1 v = 1
      · have hv := hS v List.mem_cons_self
        have hcat : (sm_rv E (sm_ad σ) v).category = 1 := sm_cat_rv (by rcases v with x | x | x | x <;> first | rfl | cases hz) ho _
        exact lv_dup hex hb hd hcat (K _ _ _ _ _ _ _ ((if_pos hz).symm.trans h) hH hL (hS.cons hv) hl hc hs)
      · exact absurd ((if_neg hz).symm.trans h) (fun z => by cases z)
  case pop =>
    rcases S with _ | ⟨v, S⟩
    · cases h
    · by_cases hz : sm_cat1 v = 1
      · have hcat : (sm_rv E (sm_ad σ) v).category = 1 := sm_cat_rv (by rcases v with x | x | x | x <;> first | rfl | cases hz) ho _
        exact lv_pop hex hb hd hcat (K _ _ _ _ _ _ _ ((if_pos hz).symm.trans h) hH hL hS.tail hl hc hs)
      · exact absurd ((if_neg hz).symm.trans h) (fun z => by cases z)
  case dup2 =>
    rcases S with _ | ⟨u, _ | ⟨v, S⟩⟩
    · cases h
    · cases h
    · by_cases hz : sm_cat1 u = 1 ∧ sm_cat1 v = 1
      · have h1 : (sm_rv E (sm_ad σ) u).category = 1 := sm_cat_rv (by rcases u with x | x | x | x <;> first | rfl | cases hz.1) ho _
        have h2 : (sm_rv E (sm_ad σ) v).category = 1 := sm_cat_rv (by rcases v with x | x | x | x <;> first | rfl | cases hz.2) ho _
        have hu := hS u List.mem_cons_self
        have hv := hS v (List.mem_cons_of_mem _ List.mem_cons_self)
        exact lv_dup2_11 hex hb hd h1 h2 (K _ _ _ _ _ _ _ ((if_pos hz).symm.trans h) hH hL ((hS.cons hv).cons hu) hl hc hs)
      · exact absurd ((if_neg hz).symm.trans h) (fun z => by cases z)
  case iadd =>
    rcases sm_p2_s S with q | ⟨x, y, S, rfl⟩
    · exact absurd h (by rw [show sm_I (sm_ZZ X) w C .iadd a pc _ _ hx L S σ = none from q _]; exact fun z => by cases z)
    · exact lv_iadd hex hb hd (K _ _ _ _ _ _ _ h hH hL (hS.tail.tail.cons trivial) hl hc hs)
  case isub =>
    rcases sm_p2_s S with q | ⟨x, y, S, rfl⟩
    · exact absurd h (by rw [show sm_I (sm_ZZ X) w C .isub a pc _ _ hx L S σ = none from q _]; exact fun z => by cases z)
    · exact lv_isub hex hb hd (K _ _ _ _ _ _ _ h hH hL (hS.tail.tail.cons trivial) hl hc hs)
  case imul =>
    rcases sm_p2_s S with q | ⟨x, y, S, rfl⟩
    · exact absurd h (by rw [show sm_I (sm_ZZ X) w C .imul a pc _ _ hx L S σ = none from q _]; exact fun z => by cases z)
    · exact lv_imul hex hb hd (K _ _ _ _ _ _ _ h hH hL (hS.tail.tail.cons trivial) hl hc hs)
  case iand =>
    rcases sm_p2_s S with q | ⟨x, y, S, rfl⟩
    · exact absurd h (by rw [show sm_I (sm_ZZ X) w C .iand a pc _ _ hx L S σ = none from q _]; exact fun z => by cases z)
    · exact lv_iand hex hb hd (K _ _ _ _ _ _ _ h hH hL (hS.tail.tail.cons trivial) hl hc hs)
  case ishr =>
    rcases sm_p2_s S with q | ⟨x, y, S, rfl⟩
    · exact absurd h (by rw [show sm_I (sm_ZZ X) w C .ishr a pc _ _ hx L S σ = none from q _]; exact fun z => by cases z)
    · exact lv_ishr hex hb hd (K _ _ _ _ _ _ _ h hH hL (hS.tail.tail.cons trivial) hl hc hs)
  case ladd =>
    rcases sm_q2_s S with q | ⟨x, y, S, rfl⟩
    · exact absurd h (by rw [show sm_I (sm_ZZ X) w C .ladd a pc _ _ hx L S σ = none from q _]; exact fun z => by cases z)
    · exact lv_ladd hex hb hd (K _ _ _ _ _ _ _ h hH hL (hS.tail.tail.cons trivial) hl hc hs)
  case lsub =>
    rcases sm_q2_s S with q | ⟨x, y, S, rfl⟩
    · exact absurd h (by rw [show sm_I (sm_ZZ X) w C .lsub a pc _ _ hx L S σ = none from q _]; exact fun z => by cases z)
    · exact lv_lsub hex hb hd (K _ _ _ _ _ _ _ h hH hL (hS.tail.tail.cons trivial) hl hc hs)
  case lmul =>
    rcases sm_q2_s S with q | ⟨x, y, S, rfl⟩
    · exact absurd h (by rw [show sm_I (sm_ZZ X) w C .lmul a pc _ _ hx L S σ = none from q _]; exact fun z => by cases z)
    · exact lv_lmul hex hb hd (K _ _ _ _ _ _ _ h hH hL (hS.tail.tail.cons trivial) hl hc hs)
  case lor =>
    rcases sm_q2_s S with q | ⟨x, y, S, rfl⟩
    · exact absurd h (by rw [show sm_I (sm_ZZ X) w C .lor a pc _ _ hx L S σ = none from q _]; exact fun z => by cases z)
    · exact lv_lor hex hb hd (K _ _ _ _ _ _ _ h hH hL (hS.tail.tail.cons trivial) hl hc hs)
  case lcmp =>
    rcases sm_q2_s S with q | ⟨x, y, S, rfl⟩
    · exact absurd h (by rw [show sm_I (sm_ZZ X) w C .lcmp a pc _ _ hx L S σ = none from q _]; exact fun z => by cases z)
    · exact W.lcmp hex hb hd (K _ _ _ _ _ _ _ h hH hL (hS.tail.tail.cons trivial) hl hc hs)
  case ineg =>
    rcases sm_p1_s S with q | ⟨x, S, rfl⟩
    · exact absurd h (by rw [show sm_I (sm_ZZ X) w C .ineg a pc _ _ hx L S σ = none from q _]; exact fun z => by cases z)
    · exact lv_ineg hex hb hd (K _ _ _ _ _ _ _ h hH hL (hS.tail.cons trivial) hl hc hs)
  case i2l =>
    rcases sm_p1_s S with q | ⟨x, S, rfl⟩
    · exact absurd h (by rw [show sm_I (sm_ZZ X) w C .i2l a pc _ _ hx L S σ = none from q _]; exact fun z => by cases z)
    · exact lv_i2l hex hb hd rfl (K _ _ _ _ _ _ _ h hH hL (hS.tail.cons trivial) hl hc hs)
  case i2b =>
    rcases sm_p1_s S with q | ⟨x, S, rfl⟩
    · exact absurd h (by rw [show sm_I (sm_ZZ X) w C .i2b a pc _ _ hx L S σ = none from q _]; exact fun z => by cases z)
    · exact lv_i2b hex hb hd rfl (K _ _ _ _ _ _ _ h hH hL (hS.tail.cons trivial) hl hc hs)
  case i2c =>
    rcases sm_p1_s S with q | ⟨x, S, rfl⟩
    · exact absurd h (by rw [show sm_I (sm_ZZ X) w C .i2c a pc _ _ hx L S σ = none from q _]; exact fun z => by cases z)
    · exact lv_i2c hex hb hd rfl (K _ _ _ _ _ _ _ h hH hL (hS.tail.cons trivial) hl hc hs)
  case lneg =>
    rcases sm_q1_s S with q | ⟨x, S, rfl⟩
    · exact absurd h (by rw [show sm_I (sm_ZZ X) w C .lneg a pc _ _ hx L S σ = none from q _]; exact fun z => by cases z)
    · exact lv_lneg hex hb hd (K _ _ _ _ _ _ _ h hH hL (hS.tail.cons trivial) hl hc hs)
  case l2i =>
    rcases sm_q1_s S with q | ⟨x, S, rfl⟩
    · exact absurd h (by rw [show sm_I (sm_ZZ X) w C .l2i a pc _ _ hx L S σ = none from q _]; exact fun z => by cases z)
    · exact lv_l2i hex hb hd rfl (K _ _ _ _ _ _ _ h hH hL (hS.tail.cons trivial) hl hc hs)
end
end
section
section
variable {E : sm_G} {X : Nat × (Nat → Int32)} {w : Bool} {p : Program} {l : Launch} {e : Env} {R : Room} {s : State} {m : MethodId} {args : Array Value} {below : List Frame} {meth : Method} {c : Code} {mn : Nat} {C : sm_C} {r : sm_O × sm_S} {c0 s0 : Nat} {Q : State → Prop} {n : Nat}
variable {H : Heap} {locs : List Loc} {cells slots : Nat}
theorem sm_ldcwS {cc : ByteArray} {pc : Nat} {ls : Array Slot} {rest : List Value} (hexec : p.tables.exec = Jvm.exec) (hb : c.code = cc) {own tx : String} {index q : Nat} (hown : s.vm.findClass own = some m.cls) (hZ : vk_R own index tx q s) (hdg : decode cc pc = .ok (.ldc_w index, 3))
    (k : W p l e R s m args below meth c H locs cells slots Q (F0 m (pc + 3) ls (.ref q :: rest))) : W p l e R s m args below meth c H locs cells slots Q (F0 m pc ls rest) := by
  intro T hT X
  obtain ⟨t, a1, b1⟩ := k T hT X
  refine ⟨t, ?_, b1⟩
  have hZ1 : (Cond.stringRef own index tx).holds #[] s none s [] = true := hZ.1
  obtain ⟨k, cf, i, a', hk, hcf, hcp, -, hr, hev'⟩ := Cond.stringRef_spec hown hZ1
  cases hZ.2.symm.trans hev'
  obtain ⟨k', hk', he⟩ := X.warmed.alike.2.2 _ _ hk
  have hr' : k'.resolved[index]? = some (some (.string q)) := by
    rcases X.warmed.entry hk hk' index with h | ⟨h, -⟩
    · rw [h]; exact hr
    · rw [hr] at h; cases h
  have hdg' : decode c.code pc = .ok (.ldc_w index, 3) := by rw [hb]; exact hdg
  jvm_step X.here [hexec, hdg', ldc_w.wp_string (s := T) (f := F0 m pc ls rest) X.here.top hk' (by rw [he]; exact hcf) hcp hr']
  exact a1
end
section
/-- a word by its place -/
theorem sm_wrd {w : Cond} {i : Nat} (h : lw_tbl[i]? = some w) (hg : goodWord w = true) : w ∈ sm_wd := List.mem_filter.mpr ⟨List.mem_of_getElem? h, hg⟩
theorem sm_has4_s {l : List (Nat × Nat × Nat × Nat)} {a b c : Nat} (h : sm_has4 l a b c = true) : ∃ q ∈ l, q.1 = a ∧ q.2.1 = b ∧ q.2.2.1 = c := by
  obtain ⟨q, hq, h1⟩ := List.any_eq_true.mp h
  simp only [Bool.and_eq_true, beq_iff_eq] at h1
  exact ⟨q, hq, h1.1, h1.2.1, h1.2.2⟩
theorem sm_has5_s {l : List (Nat × Nat × Nat × Nat × Nat)} {a b c d : Nat} (h : sm_has5 l a b c d = true) : ∃ q ∈ l, q.1 = a ∧ q.2.1 = b ∧ q.2.2.1 = c ∧ q.2.2.2.1 = d := by
  obtain ⟨q, hq, h1⟩ := List.any_eq_true.mp h
  simp only [Bool.and_eq_true, beq_iff_eq] at h1
  exact ⟨q, hq, h1.1, h1.2.1, h1.2.2.1, h1.2.2.2⟩
theorem sm_il_w {a b c : Nat} (h : sm_has4 sm_il a b c = true) : Cond.constant (sm_cn a) b (Int32.ofNat c) ∈ sm_wd := by
  obtain ⟨q, hq, rfl, rfl, rfl⟩ := sm_has4_s h
  exact sm_wrd (of_decide_eq_true (List.all_eq_true.mp sm_il_in q hq)) rfl
theorem sm_ll_w {a b c : Nat} (h : sm_has4 sm_ll a b c = true) : Cond.constantLong (sm_cn a) b (sm_lg c) ∈ sm_wd := by
  obtain ⟨q, hq, rfl, rfl, rfl⟩ := sm_has4_s h
  exact sm_wrd (of_decide_eq_true (List.all_eq_true.mp sm_ll_in q hq)) rfl
theorem sm_kl_w {a b c : Nat} (h : sm_has4 sm_kl a b c = true) : Cond.classLink (sm_cn a) b (bif c == 24 then "java/lang/IllegalStateException" else sm_cR c) ∈ sm_wd := by
  obtain ⟨q, hq, rfl, rfl, rfl⟩ := sm_has4_s h
  exact sm_wrd (of_decide_eq_true (List.all_eq_true.mp sm_kl_in q hq)) rfl
theorem sm_ml_w {a b c : Nat} (h : sm_has4 sm_ml a b c = true) : Cond.methodLink (sm_cn a) b (sm_my c) ∈ sm_wd := by
  obtain ⟨q, hq, rfl, rfl, rfl⟩ := sm_has4_s h
  exact sm_wrd (of_decide_eq_true (List.all_eq_true.mp sm_ml_in q hq)) rfl
theorem sm_fl_w {a b c d : Nat} (h : sm_has5 sm_fl a b c d = true) : sm_flw (a, b, c, d, 0) ∈ sm_wd := by
  obtain ⟨q, hq, rfl, rfl, rfl, rfl⟩ := sm_has5_s h
  exact sm_wrd (of_decide_eq_true (List.all_eq_true.mp sm_fl_in q hq)) rfl
theorem sm_uw (t : Nat) (h1 : 10 ≤ t) (h2 : t < 24) : ∀ u ∈ u_ws (sm_cR t) (sm_cT t) (sm_fk t).length, u ∈ sm_wd := by
  have key : ∀ u ∈ u_ws (sm_cR t) (sm_cT t) (sm_fk t).length, u ∈ lw_tbl := by
    obtain ⟨k, rfl⟩ := Nat.exists_eq_add_of_le h1
    match k, h2 with
    | 0, _ => exact sm_uw0
    | 1, _ => exact fun u hu => by cases hu
    | 2, _ => exact sm_uw2
    | 3, _ => exact sm_uw3
    | 4, _ => exact sm_uw4
    | 5, _ => exact sm_uw5
    | 6, _ => exact sm_uw6
    | 7, _ => exact sm_uw7
    | 8, _ => exact sm_uw8
    | 9, _ => exact sm_uw9
    | 10, _ => exact sm_uw10
    | 11, _ => exact sm_uw11
    | 12, _ => exact sm_uw12
    | 13, _ => exact sm_uw13
    | k + 14, h => omega
  intro u hu
  refine List.mem_filter.mpr ⟨key u hu, ?_⟩
  obtain ⟨k, -, rfl⟩ := List.mem_map.mp hu
  unfold u_lay
  split <;> rfl
theorem sm_cty_ok (t : Nat) (h1 : 10 ≤ t) (h2 : t < 24) : ∀ k, k < (sm_fk t).length → parseFieldDescriptor (sm_cT t k).2.2.1 = some (sm_cty t k) := by
  obtain ⟨k, rfl⟩ := Nat.exists_eq_add_of_le h1
  match k, h2 with
  | 0, _ => exact tyX0_ok
  | 1, _ => exact tyX1_ok
  | 2, _ => exact tyX2_ok
  | 3, _ => exact tyX3_ok
  | 4, _ => exact tyX4_ok
  | 5, _ => exact tyX5_ok
  | 6, _ => exact tyX6_ok
  | 7, _ => exact tyX7_ok
  | 8, _ => exact tyX8_ok
  | 9, _ => exact tyX9_ok
  | 10, _ => exact tyX10_ok
  | 11, _ => exact tyX11_ok
  | 12, _ => exact tyX12_ok
  | 13, _ => exact tyX13_ok
  | k + 14, h => omega
theorem sm_cnm (t : Nat) (h1 : 10 ≤ t) (h2 : t < 24) : ∀ a, a < (sm_fk t).length → ∀ b, b < (sm_fk t).length → a ≠ b → (sm_cT t a).2.1 ≠ (sm_cT t b).2.1 := by
  obtain ⟨k, rfl⟩ := Nat.exists_eq_add_of_le h1
  match k, h2 with
  | 0, _ => exact nmX0
  | 1, _ => exact nmX1
  | 2, _ => exact nmX2
  | 3, _ => exact nmX3
  | 4, _ => exact nmX4
  | 5, _ => exact nmX5
  | 6, _ => exact nmX6
  | 7, _ => exact nmX7
  | 8, _ => exact nmX8
  | 9, _ => exact nmX9
  | 10, _ => exact nmX10
  | 11, _ => exact nmX11
  | 12, _ => exact nmX12
  | 13, _ => exact nmX13
  | k + 14, h => omega
/-- fields are declared by the class itself; kinds and types agree -/
theorem sm_cdecl (t : Nat) (h1 : 10 ≤ t) (h2 : t < 24) : ∀ k, k < (sm_fk t).length → (sm_cT t k).1 = sm_cR t := by
  have h : ∀ u, u < 14 → ∀ k, k < (sm_fk (u + 10)).length → (sm_cT (u + 10) k).1 = sm_cR (u + 10) := by decide +kernel
  have := h (t - 10) (by omega)
  rw [Nat.sub_add_cancel h1] at this
  exact this
def sm_tyk (ty : FieldType) (kd : Nat) : Bool := match ty with
  | .int => kd == 0
  | .boolean => kd == 3
  | .long => kd == 1
  | .object _ => kd == 2 || decide (10 ≤ kd)
  | .array _ => kd == 2 || decide (10 ≤ kd)
  | _ => false
theorem sm_ctyk (t : Nat) (h1 : 10 ≤ t) (h2 : t < 24) : ∀ k, k < (sm_fk t).length → sm_tyk (sm_cty t k) ((sm_fk t).getD k 0) = true := by
  have h : ∀ u, u < 14 → ∀ k, k < (sm_fk (u + 10)).length → sm_tyk (sm_cty (u + 10) k) ((sm_fk (u + 10)).getD k 0) = true := by decide +kernel
  have := h (t - 10) (by omega)
  rw [Nat.sub_add_cancel h1] at this
  exact this
end
end
section
section
variable {E : sm_G} {X : Nat × (Nat → Int32)} {w : Bool} {p : Program} {l : Launch} {e : Env} {R : Room} {s : State} {m : MethodId} {args : Array Value} {below : List Frame} {meth : Method} {c : Code} {mn : Nat} {C : sm_C} {r : sm_O × sm_S} {c0 s0 : Nat} {Q : State → Prop} {n : Nat}
variable {len : Nat} {a : Nat × Nat × Nat × Nat} {pc : Nat} {L S : List sm_V} {σ : sm_S} {hx : sm_S → sm_R} {H : Heap} {locs : List Loc} {ls : Array Slot}
/-- constants -/
theorem sm_s_ldc (cx : sm_Cx E X p s m args meth c mn) (K : sm_K E X w p l e R s m args below meth c mn C r c0 s0 Q n) {i : Nat} (hd : decode (sm_bc mn) pc = .ok (.ldc i, 2)) (hok : sm_okA mn (.ldc i) a pc = true)
    (h : sm_I (sm_ZZ X) w C (.ldc i) a pc (sm_run (sm_ZZ X) sm_PP w C mn n (pc + 2)) (sm_run (sm_ZZ X) sm_PP w C mn n) hx L S σ = some r) (hH : sm_HR E w σ H) (hL : sm_LR E σ (sm_nl mn) L ls) (hS : sm_SR σ S) (hl : ∀ q ∈ locs, E.1 ≤ q.base) (hc : c0 ≤ sm_cells σ) (hs : s0 ≤ sm_slots σ) :
    W p l e R s m args below meth c H locs (sm_cells σ - c0) (sm_slots σ - s0) Q (F0 m pc ls (sm_st E σ S)) := by
  obtain ⟨hex, hb, hml, hown, hts, hEF, -⟩ := cx
  obtain ⟨a1, a2, a3, a4⟩ := a
  cases a1 with
  | zero => exact lv_ldc hex hb hown (hts _ (sm_il_w hok)) hd (K _ _ _ _ _ _ _ h hH hL (hS.cons trivial) hl hc hs)
  | succ k =>
    have hok' : (sm_has4 sm_sl (sm_ow mn) i a2 && decide (a2 < 54)) = true := hok
    rw [Bool.and_eq_true] at hok'
    obtain ⟨q, hq, e1, e2, e3⟩ := sm_has4_s hok'.1
    obtain ⟨tx, hR⟩ := hEF.2.2.2.1 q hq
    rw [e1, e2, e3] at hR
    exact va_ldcS hex hb hown hR hd (K _ _ _ _ _ _ _ h hH hL (hS.cons (v := vP (5, a2)) (Or.inr (Or.inr (Or.inl ⟨rfl, of_decide_eq_true hok'.2⟩)))) hl hc hs)
theorem sm_s_ldcw (cx : sm_Cx E X p s m args meth c mn) (K : sm_K E X w p l e R s m args below meth c mn C r c0 s0 Q n) {i : Nat} (hd : decode (sm_bc mn) pc = .ok (.ldc_w i, 3)) (hok : sm_okA mn (.ldc_w i) a pc = true)
    (h : sm_I (sm_ZZ X) w C (.ldc_w i) a pc (sm_run (sm_ZZ X) sm_PP w C mn n (pc + 3)) (sm_run (sm_ZZ X) sm_PP w C mn n) hx L S σ = some r) (hH : sm_HR E w σ H) (hL : sm_LR E σ (sm_nl mn) L ls) (hS : sm_SR σ S) (hl : ∀ q ∈ locs, E.1 ≤ q.base) (hc : c0 ≤ sm_cells σ) (hs : s0 ≤ sm_slots σ) :
    W p l e R s m args below meth c H locs (sm_cells σ - c0) (sm_slots σ - s0) Q (F0 m pc ls (sm_st E σ S)) := by
  obtain ⟨hex, hb, hml, hown, hts, hEF, -⟩ := cx
  obtain ⟨a1, a2, a3, a4⟩ := a
  cases a1 with
  | zero => exact lv_ldcw hex hb hown (hts _ (sm_il_w hok)) hd (K _ _ _ _ _ _ _ h hH hL (hS.cons trivial) hl hc hs)
  | succ k =>
    have hok' : (sm_has4 sm_sl (sm_ow mn) i a2 && decide (a2 < 54)) = true := hok
    rw [Bool.and_eq_true] at hok'
    obtain ⟨q, hq, e1, e2, e3⟩ := sm_has4_s hok'.1
    obtain ⟨tx, hR⟩ := hEF.2.2.2.1 q hq
    rw [e1, e2, e3] at hR
    exact sm_ldcwS hex hb hown hR hd (K _ _ _ _ _ _ _ h hH hL (hS.cons (v := vP (5, a2)) (Or.inr (Or.inr (Or.inl ⟨rfl, of_decide_eq_true hok'.2⟩)))) hl hc hs)
theorem sm_s_ldc2 (cx : sm_Cx E X p s m args meth c mn) (K : sm_K E X w p l e R s m args below meth c mn C r c0 s0 Q n) {i : Nat} (hd : decode (sm_bc mn) pc = .ok (.ldc2_w i, 3)) (hok : sm_okA mn (.ldc2_w i) a pc = true)
    (h : sm_I (sm_ZZ X) w C (.ldc2_w i) a pc (sm_run (sm_ZZ X) sm_PP w C mn n (pc + 3)) (sm_run (sm_ZZ X) sm_PP w C mn n) hx L S σ = some r) (hH : sm_HR E w σ H) (hL : sm_LR E σ (sm_nl mn) L ls) (hS : sm_SR σ S) (hl : ∀ q ∈ locs, E.1 ≤ q.base) (hc : c0 ≤ sm_cells σ) (hs : s0 ≤ sm_slots σ) :
    W p l e R s m args below meth c H locs (sm_cells σ - c0) (sm_slots σ - s0) Q (F0 m pc ls (sm_st E σ S)) := by
  obtain ⟨hex, hb, hml, hown, hts, hEF, -⟩ := cx
  exact lv_ldc2 hex hb hown (hts _ (sm_ll_w hok)) hd (K _ _ _ _ _ _ _ h hH hL (hS.cons trivial) hl hc hs)
/-- a static that was there from the start -/
theorem sm_getsZ {cc : ByteArray} {rest : List Value} {cells slots : Nat} (hexec : p.tables.exec = Jvm.exec) (hb : c.code = cc) {C n d own : String} {v : Value} {index : Nat} (hZ : va_Z C n d v (fun q => E.1 ≤ q) s E.2.2.2.2.2.2.2.2) (hlow : ∀ q, q < E.1 → H[q]? = E.2.2.2.2.2.2.2.2[q]?) (hown : s.vm.findClass own = some m.cls) (hlink : (Cond.fieldLink own index C n d).before args s = true) (hdg : decode cc pc = .ok (.getstatic index, 3))
    (kk : W p l e R s m args below meth c H locs cells slots Q (F0 m (pc + 3) ls (v :: rest))) : W p l e R s m args below meth c H locs cells slots Q (F0 m pc ls rest) := by
  obtain ⟨cf, kf, fi, f, a, cell, h1, h2, h3, h4, h5, h6, h7, h8⟩ := hZ
  exact W.gets hexec hb hown hlink h1 h2 h3 h4 (by rw [hlow a (Nat.not_le.mp h8)]; exact h5) (fun e => by rw [e] at h6; cases h6) h7 rfl hdg kk
def sm_tlw (q : Nat × Nat × Nat × Nat × Nat) : Cond := match q.2.2.1 with
  | 0 => .fieldLink (sm_cn q.1) q.2.1 "java/lang/String" "COMPACT_STRINGS" "Z"
  | 1 => .fieldLink (sm_cn q.1) q.2.1 (sm_sc q.2.2.2.1).1 (sm_sc q.2.2.2.1).2 "[I"
  | _ => .fieldLink (sm_cn q.1) q.2.1 "jdk/internal/util/Preconditions" "SIOOBE_FORMATTER" "Ljava/util/function/BiFunction;"
theorem sm_tl_in : sm_tl.all (fun q => decide (lw_tbl[q.2.2.2.2]? = some (sm_tlw q)) && (bif q.2.2.1 == 0 then q.2.2.2.1 == 1 else decide (q.2.2.2.1 < 6))) = true := by decide +kernel
theorem sm_s_gets (cx : sm_Cx E X p s m args meth c mn) (K : sm_K E X w p l e R s m args below meth c mn C r c0 s0 Q n) {i : Nat} (hd : decode (sm_bc mn) pc = .ok (.getstatic i, 3)) (hok : sm_okA mn (.getstatic i) a pc = true)
    (h : sm_I (sm_ZZ X) w C (.getstatic i) a pc (sm_run (sm_ZZ X) sm_PP w C mn n (pc + 3)) (sm_run (sm_ZZ X) sm_PP w C mn n) hx L S σ = some r) (hH : sm_HR E w σ H) (hL : sm_LR E σ (sm_nl mn) L ls) (hS : sm_SR σ S) (hl : ∀ q ∈ locs, E.1 ≤ q.base) (hc : c0 ≤ sm_cells σ) (hs : s0 ≤ sm_slots σ) :
    W p l e R s m args below meth c H locs (sm_cells σ - c0) (sm_slots σ - s0) Q (F0 m pc ls (sm_st E σ S)) := by
  obtain ⟨hex, hb, hml, hown, hts, hEF, -⟩ := cx
  obtain ⟨q, hq, e1, e2, e3, e4⟩ := sm_has5_s (show sm_has5 sm_tl (sm_ow mn) i a.1 a.2.1 = true from hok)
  have h0 := List.all_eq_true.mp sm_tl_in q hq
  rw [Bool.and_eq_true] at h0
  have hw : sm_tlw q ∈ sm_wd := sm_wrd (of_decide_eq_true h0.1) (by unfold sm_tlw; split <;> rfl)
  have hlink := hts _ hw
  obtain ⟨q1, q2, q3, q4, q5⟩ := q
  dsimp only at e1 e2 e3 e4 h0
  subst e1; subst e2
  obtain ⟨a1, a2, a3, a4⟩ := a
  dsimp only at e3 e4
  subst e3; subst e4
  match q3, h0, hlink, h with
  | 0, h0, hlink, h =>
    have h1 : q4 = 1 := by simpa using h0.2
    subst h1
    exact sm_getsZ hex hb hEF.2.2.2.2.2.1 hH.2.1 hown hlink hd (K _ _ _ _ _ _ _ h hH hL (hS.cons trivial) hl hc hs)
  | 1, h0, hlink, h =>
    have h1 : q4 < 6 := of_decide_eq_true h0.2
    exact sm_getsZ hex hb (hEF.2.2.2.2.1 q4 h1).1 hH.2.1 hown hlink hd (K _ _ _ _ _ _ _ h hH hL (hS.cons (v := vP (6, q4)) (Or.inr (Or.inr (Or.inr (Or.inl ⟨rfl, h1⟩))))) hl hc hs)
  | k + 2, h0, hlink, h =>
    exact sm_getsZ hex hb hEF.2.2.2.2.2.2.1 hH.2.1 hown hlink hd (K _ _ _ _ _ _ _ h hH hL (hS.cons (v := vU) trivial) hl hc hs)
/-- a reference that a cell of ours is -/
theorem sm_rp_big {ad : Nat → Nat → Nat} {t i : Nat} (h : 10 ≤ t) : sm_rp E ad (t, i) = some (E.1 + ad t i) := by
  unfold sm_rp
  rw [if_neg (by show ¬ t = 0; omega), if_neg (by show ¬ t = 4; omega), if_neg (by show ¬ t = 5; omega), if_neg (by show ¬ t = 6; omega), if_neg (by show ¬ t = 7; omega)]
theorem sm_okp_big {cnt : Nat → Nat} {t i : Nat} (h : 10 ≤ t) (k : sm_okp cnt (t, i)) : i < cnt t := by
  rcases k with q | q | q | q | q | q
  · have := congrArg Prod.fst q; dsimp only at this; omega
  · dsimp only at q; omega
  · dsimp only at q; omega
  · dsimp only at q; omega
  · dsimp only at q; omega
  · exact q.2
theorem sm_okp_5 {cnt : Nat → Nat} {t i : Nat} (h : t = 5 ∨ t = 7) (k : sm_okp cnt (t, i)) : i < 54 := by
  rcases k with q | q | q | q | q | q
  · have := congrArg Prod.fst q; dsimp only at this; omega
  all_goals dsimp only at q; omega
theorem sm_okp_6 {cnt : Nat → Nat} {i : Nat} (k : sm_okp cnt (6, i)) : i < 6 := by
  rcases k with q | q | q | q | q | q
  · have := congrArg Prod.fst q; dsimp only at this; omega
  all_goals dsimp only at q; omega
theorem sm_HR.obj (hH : sm_HR E w σ H) {t i : Nat} (h1 : 10 ≤ t) (h2 : t < 24) (hi : i < sm_cnt σ t) : t_OB (E.1 + sm_ad σ t i) (E.2.2.2.2.2.2.1.1 (t - 10)) (sm_fk t).length (E.2.2.2.2.2.2.1.2 (t - 10)) H (sm_fv E w σ t i) := by
  rcases (hH.2.2.1 t i h1 hi).2 with q | q | q
  · exact q.2
  · omega
  · omega
theorem sm_HR.row (hH : sm_HR E w σ H) {t i : Nat} (h1 : 30 ≤ t) (hi : i < sm_cnt σ t) : t < 97 ∧ H[E.1 + sm_ad σ t i]? = some (arrV (E.2.2.2.2.2.2.2.1 t) (sm_al σ t i) (sm_av E σ t i)) := by
  rcases (hH.2.2.1 t i (by omega) hi).2 with q | q | q
  · omega
  · omega
  · exact q.2
theorem sm_rq_s {q : Nat × Nat} {t : Nat} {k : Nat → sm_R} {r : sm_O × sm_S} (h : sm_rq q t k = some r) : q.1 = t ∧ k q.2 = some r := by
  unfold sm_rq at h
  split at h
  · exact ⟨by assumption, h⟩
  · cases h
theorem sm_ix_s {x : Int32} {n : Nat} {k : Nat → sm_R} {r : sm_O × sm_S} (h : sm_ix x n k = some r) : ¬ (x < 0 ∨ n ≤ x.toNatClampNeg) ∧ k x.toNatClampNeg = some r := by
  unfold sm_ix at h
  split at h
  · cases h
  · exact ⟨by assumption, h⟩
set_option maxHeartbeats 1000000 in
theorem sm_s_getf (cx : sm_Cx E X p s m args meth c mn) (K : sm_K E X w p l e R s m args below meth c mn C r c0 s0 Q n) {i : Nat} (hd : decode (sm_bc mn) pc = .ok (.getfield i, 3)) (hok : sm_okA mn (.getfield i) a pc = true)
    (h : sm_I (sm_ZZ X) w C (.getfield i) a pc (sm_run (sm_ZZ X) sm_PP w C mn n (pc + 3)) (sm_run (sm_ZZ X) sm_PP w C mn n) hx L S σ = some r) (hH : sm_HR E w σ H) (hL : sm_LR E σ (sm_nl mn) L ls) (hS : sm_SR σ S) (hl : ∀ q ∈ locs, E.1 ≤ q.base) (hc : c0 ≤ sm_cells σ) (hs : s0 ≤ sm_slots σ) :
    W p l e R s m args below meth c H locs (sm_cells σ - c0) (sm_slots σ - s0) Q (F0 m pc ls (sm_st E σ S)) := by
  obtain ⟨hex, hb, hml, hown, hts, hEF, -⟩ := cx
  obtain ⟨t, k, kd, a4⟩ := a
  rcases sm_r1_s S with q | ⟨x, S, rfl⟩
  · exact absurd h (by rw [show sm_I (sm_ZZ X) w C (.getfield i) (t, k, kd, a4) pc _ _ hx L S σ = none from q _]; exact fun z => by cases z)
  obtain ⟨x1, x2⟩ := x
  obtain ⟨hz, h⟩ := sm_rq_s (k := fun i => sm_run (sm_ZZ X) sm_PP w C mn n (pc + 3) L (sm_gf w t k kd i σ :: S) σ) h
  dsimp only at hz h
  subst hz
  have hxo : sm_okp (sm_cnt σ) (x1, x2) := hS (vP (x1, x2)) List.mem_cons_self
  have obj : 10 ≤ x1 → x1 < 24 → (sm_fk x1)[k]? = some kd → ((Cond.fieldLink (sm_cn (sm_ow mn)) i (sm_cR x1) (sm_cT x1 k).2.1 (sm_cT x1 k).2.2.1).before args s = true ∨ (Cond.fieldLinkNest (sm_cn (sm_ow mn)) i (sm_cR x1) (sm_cT x1 k).2.1 (sm_cT x1 k).2.2.1 "FreightYardsModel").before args s = true) → W p l e R s m args below meth c H locs (sm_cells σ - c0) (sm_slots σ - s0) Q (F0 m pc ls (sm_st E σ (vP (x1, x2) :: S))) := by
    intro h10 h24 hkd hlink
    have hkl : k < (sm_fk x1).length := (List.getElem?_eq_some_iff.mp hkd).1
    have hi := sm_okp_big h10 hxo
    obtain ⟨cell, q1, q2, q3, q4⟩ := hH.obj h10 h24 hi
    obtain ⟨hSl, hfc, kC, hkC, hkind⟩ := hEF.1 x1 h10 h24
    obtain ⟨cf, kf, fi, f, hfi, hsl⟩ := hSl k hkl
    have hst := (u_facts hfc hkC (u_lays hts (sm_uw x1 h10 h24) hkl) hfi).1
    have hg := K _ _ _ _ _ _ _ h hH hL (hS.tail.cons (sm_gf_ok hH h10 h24 hi hkd)) hl hc hs
    have hv : cell.slots[f.slot]? = some (sm_rv E (sm_ad σ) (sm_gf w x1 k kd x2 σ)) := by
      rw [hsl, q4 k hkl]
      unfold sm_fv
      rw [List.getD_eq_getElem?_getD, hkd]
      rfl
    show W p l e R s m args below meth c H locs _ _ Q (F0 m pc ls (va_rf (sm_rp E (sm_ad σ) (x1, x2)) :: sm_st E σ S))
    rw [sm_rp_big h10]
    rw [sm_cdecl x1 h10 h24 k hkl] at hfi
    rcases hlink with hlink | hlink
    · exact W.getf hex hb hown hlink hfi hst q1 (by rw [q3]; exact fun z => by cases z) hv rfl rfl hd hg
    · exact va_Wgetf hex hb hown hlink hfi hst q1 (by rw [q3]; exact fun z => by cases z) hv rfl rfl hd hg
  have hok' : ((sm_has5 sm_fl (sm_ow mn) i x1 k && ((x1 == 5 && ((k == 0 && kd == 7) || (k == 1 && kd == 9))) || (decide (10 ≤ x1) && (decide (x1 < 24) && (sm_fk x1)[k]? == some kd)))) || (sm_has5 sm_fn (sm_ow mn) i x1 k && (decide (10 ≤ x1) && (decide (x1 < 24) && (sm_fk x1)[k]? == some kd)))) = true := hok
  simp only [Bool.or_eq_true, Bool.and_eq_true, beq_iff_eq, decide_eq_true_eq] at hok'
  rcases hok' with ⟨g1, g2⟩ | ⟨g1, g2, g3, g4⟩
  · have hw := hts _ (sm_fl_w g1)
    rcases g2 with ⟨rfl, g2⟩ | ⟨g2, g3, g4⟩
    · have hi := sm_okp_5 (Or.inl rfl) hxo
      obtain ⟨-, hco, hva, -⟩ := hEF.2.2.1.1 x2 hi
      have hrp : sm_rp E (sm_ad σ) (5, x2) = some (E.2.2.1 x2) := rfl
      rcases g2 with ⟨rfl, rfl⟩ | ⟨rfl, rfl⟩
      · obtain ⟨cf, kf, fi, f, cell, u1, u2, u3, u4, u5, u6⟩ := hva
        have hg := K _ _ _ _ _ _ _ h hH hL (hS.tail.cons (v := vP (7, x2)) (Or.inr (Or.inr (Or.inr (Or.inr (Or.inl ⟨rfl, hi⟩)))))) hl hc hs
        exact W.getf hex hb hown hw u1 u2 (by rw [hH.2.1 _ (Nat.not_le.mp u6)]; exact u3) u4 u5 rfl rfl hd hg
      · obtain ⟨cf, kf, fi, f, cell, u1, u2, u3, u4, u5, u6⟩ := hco
        have hg := K _ _ _ _ _ _ _ h hH hL (hS.tail.cons (v := vI 0) trivial) hl hc hs
        exact W.getf hex hb hown hw u1 u2 (by rw [hH.2.1 _ (Nat.not_le.mp u6)]; exact u3) u4 u5 rfl rfl hd hg
    · refine obj g2 g3 g4 (Or.inl ?_)
      have hw : (sm_flw (sm_ow mn, i, x1, k, 0)).before args s = true := hw
      unfold sm_flw at hw
      dsimp only at hw
      rw [show (x1 == 5) = false by simp; omega] at hw
      exact hw
  · refine obj g2 g3 g4 (Or.inr ?_)
    obtain ⟨q, hq, e1, e2, e3, e4⟩ := sm_has5_s g1
    have := hEF.2.2.2.2.2.2.2.1 q hq
    unfold sm_fnw at this
    rw [e1, e2, e3, e4] at this
    exact va_Nw.use rfl this
end
end
section
section
variable {E : sm_G} {X : Nat × (Nat → Int32)} {w : Bool} {p : Program} {l : Launch} {e : Env} {R : Room} {s : State} {m : MethodId} {args : Array Value} {below : List Frame} {meth : Method} {c : Code} {mn : Nat} {C : sm_C} {r : sm_O × sm_S} {c0 s0 : Nat} {Q : State → Prop} {n : Nat}
variable {len : Nat} {a : Nat × Nat × Nat × Nat} {pc : Nat} {L S : List sm_V} {σ σ' : sm_S} {hx : sm_S → sm_R} {H : Heap} {locs : List Loc} {ls : Array Slot}
theorem sm_own_cR : ∀ t, 10 ≤ t → t < 24 → sm_cn (t - 10) = sm_cR t := by
  have h : ∀ u, u < 14 → sm_cn u = sm_cR (u + 10) := by decide +kernel
  intro t h1 h2
  rw [h (t - 10) (by omega), Nat.sub_add_cancel h1]
set_option maxHeartbeats 1000000 in
/-- a field is written -/
theorem sm_put (cx : sm_Cx E X p s m args meth c mn) {i t k x kd cells slots : Nat} (hd : decode (sm_bc mn) pc = .ok (.putfield i, 3)) (hH : sm_HR E w σ H) (hl : ∀ q ∈ locs, E.1 ≤ q.base)
    (h10 : 10 ≤ t) (h24 : t < 24) (hkd : (sm_fk t)[k]? = some kd) (hi : x < sm_cnt σ t)
    (hlink : ((Cond.fieldLink (sm_cn (sm_ow mn)) i (sm_cR t) (sm_cT t k).2.1 (sm_cT t k).2.2.1).before args s = true ∧ ((sm_cT t k).2.2.2 = true → sm_kn mn = 2 ∧ sm_ow mn = t - 10)) ∨ ((Cond.fieldLinkNest (sm_cn (sm_ow mn)) i (sm_cR t) (sm_cT t k).2.1 (sm_cT t k).2.2.1 "FreightYardsModel").before args s = true ∧ (sm_cT t k).2.2.2 = false))
    {v : Value} {rest : List Value} (hn : narrow (sm_cty t k) v = v) (hfit : fits (sm_cty t k) v = true) (he : σ'.2.2.2 = σ.2.2.2)
    (hm : ∀ t' i' k', ¬ (t' = t ∧ i' = x) → σ'.1 t' i' k' = σ.1 t' i' k' ∧ σ'.2.1 t' i' k' = σ.2.1 t' i' k' ∧ σ'.2.2.1 t' i' k' = σ.2.2.1 t' i' k') (hok : ∀ k, sm_okp (sm_cnt σ) (σ'.2.2.1 t x k))
    (hfv : ∀ j, j < (sm_fk t).length → updV (sm_fv E w σ t x) k v j = sm_fv E w σ' t x j)
    (kk : ∀ H' locs', sm_HR E w σ' H' → (∀ q ∈ locs', E.1 ≤ q.base) → W p l e R s m args below meth c H' locs' cells slots Q (F0 m (pc + 3) ls rest)) :
    W p l e R s m args below meth c H locs cells slots Q (F0 m pc ls (v :: .ref (E.1 + sm_ad σ t x) :: rest)) := by
  obtain ⟨hex, hb, hml, hown, hts, hEF, -, -, hinit, -⟩ := cx
  have hkl : k < (sm_fk t).length := (List.getElem?_eq_some_iff.mp hkd).1
  obtain ⟨cell, q1, q2, q3, q4⟩ := hH.obj h10 h24 hi
  obtain ⟨hSl, hfc, kC, hkC, hkind⟩ := hEF.1 t h10 h24
  obtain ⟨cf, kf, fi, f, hfi, hsl⟩ := hSl k hkl
  have hin := sm_uw t h10 h24
  have hst := (u_facts hfc hkC (u_lays hts hin hkl) hfi).1
  have hty := sm_cty_ok t h10 h24
  have hap : ∀ x y, x < (sm_fk t).length → y < (sm_fk t).length → x ≠ y → (E.2.2.2.2.2.2.1.2 (t - 10)) x ≠ (E.2.2.2.2.2.2.1.2 (t - 10)) y := by
    intro x y hx hy hne
    obtain ⟨_, _, _, fa, hia, ea⟩ := hSl x hx
    obtain ⟨_, _, _, fb, hib, eb⟩ := hSl y hy
    rw [← ea, ← eb]
    refine u_apart (u_lays hts hin hx) (u_lays hts hin hy) hia hib ?_
    rw [(State.fieldFound?_type hia (hty x hx)).1, (State.fieldFound?_type hib (hty y hy)).1]
    exact sm_cnm t h10 h24 x hx y hy hne
  have hdecl := sm_cdecl t h10 h24 k hkl
  have hfi' := hfi
  rw [hdecl] at hfi'
  have hslot : f.slot < cell.slots.size := by rw [hsl]; exact k2_hasslot (q4 k hkl)
  have fin : ∀ H' : Heap, H'[E.1 + sm_ad σ t x]? = some (cell.setSlot f.slot v) → H'.size = H.size → (∀ q, q ≠ E.1 + sm_ad σ t x → H'[q]? = H[q]?) → W p l e R s m args below meth c H' (locs ++ [⟨E.1 + sm_ad σ t x, f.slot⟩]) cells slots Q (F0 m (pc + 3) ls rest) := by
    intro H' e1 e2 e3
    have ead : sm_ad σ' = sm_ad σ := by show σ'.2.2.2.2.2.1 = _; rw [he]
    rw [hsl] at e1
    refine kk H' _ (hH.set h10 hi he hm hok e2 e3 (Or.inl ⟨h24, ?_⟩)) (fun q hq => ?_)
    · rw [ead]
      exact t_OB.to (V := updV (sm_fv E w σ t x) k v) ⟨_, e1, q2, q3, t_set q4 hap hkl v⟩ hfv
    · rcases List.mem_append.mp hq with z | z
      · exact hl q z
      · rw [List.mem_singleton.mp z]; exact Nat.le_add_right _ _
  have hlay := hts _ (hin _ (u_in_lay hkl))
  unfold u_lay at hlay
  by_cases hfin : (sm_cT t k).2.2.2 = true
  · rw [if_pos hfin] at hlay
    rcases hlink with ⟨hlink, hf⟩ | ⟨hlink, hf⟩
    · obtain ⟨g1, g2⟩ := hf hfin
      have hcf : m.cls = cf := by
        obtain ⟨_, _, c', _, _, _, -, -, hf', -, -, -, hown2, -⟩ := Cond.laysFinal_spec hlay
        have e1 : c' = cf := by have := hfi.symm.trans hf'; simp at this; exact this.1.symm
        rw [hdecl] at hown2
        rw [g2, sm_own_cR t h10 h24] at hown
        rw [← e1]; exact Option.some.inj (hown.symm.trans hown2)
      have h6 := u_fits hfc hkC hkind (Or.inr hlay) hfi (hty k hkl) hn hfit
      exact W.putFinK hex hb hown hlink hfi' hst hcf (hinit g1) (by rw [q2]; exact h6) q1 q3 hslot rfl rfl hd fin
    · rw [hf] at hfin; cases hfin
  · rw [if_neg hfin] at hlay
    have h6 := u_store hfc hkC hkind hlay hfi (hty k hkl) hn hfit
    rcases hlink with ⟨hlink, hf⟩ | ⟨hlink, hf⟩
    · exact W.putK hex hb (f := f) ⟨hown, hlink, ⟨_, _, _, hfi'⟩, hst⟩ (by rw [q2]; exact h6) q1 q3 hslot rfl rfl hd fin
    · exact va_WputK hex hb (f := f) hown hlink hfi' hst (by rw [q2]; exact h6) q1 q3 hslot rfl rfl hd fin
/-- what a field holds in the new state -/
theorem sm_fv_up {t x k kd : Nat} (hkd : (sm_fk t)[k]? = some kd) (he : σ'.2.2.2 = σ.2.2.2) {v : Value} (hm : ∀ j, j ≠ k → σ'.1 t x j = σ.1 t x j ∧ σ'.2.1 t x j = σ.2.1 t x j ∧ σ'.2.2.1 t x j = σ.2.2.1 t x j) (hv : v = sm_rv E (sm_ad σ) (sm_gf w t k kd x σ')) : ∀ j, j < (sm_fk t).length → updV (sm_fv E w σ t x) k v j = sm_fv E w σ' t x j := by
  intro j _
  have ead : sm_ad σ' = sm_ad σ := by show σ'.2.2.2.2.2.1 = _; rw [he]
  unfold updV
  by_cases hj : j = k
  · rw [if_pos hj, hj, hv]
    unfold sm_fv
    rw [ead, List.getD_eq_getElem?_getD, hkd]
    rfl
  · rw [if_neg hj]
    unfold sm_fv
    rw [ead]
    obtain ⟨a, b, c⟩ := hm j hj
    have : sm_gf w t j ((sm_fk t).getD j 0) x σ' = sm_gf w t j ((sm_fk t).getD j 0) x σ := by unfold sm_gf; rw [a, b, c]
    rw [this]
theorem sm_e4_sI {t i k : Nat} {v : Int32} : (sI σ t i k v).2.2.2 = σ.2.2.2 := rfl
theorem sm_LRs (he : σ'.2.2.2 = σ.2.2.2) (hS : sm_SR σ S) : sm_SR σ' S ∧ sm_st E σ' S = sm_st E σ S ∧ sm_cells σ' = sm_cells σ ∧ sm_slots σ' = sm_slots σ := by
  have e1 : sm_cnt σ' = sm_cnt σ := by show σ'.2.2.2.2.1 = _; rw [he]
  have e2 : sm_ad σ' = sm_ad σ := by show σ'.2.2.2.2.2.1 = _; rw [he]
  refine ⟨?_, ?_, by show σ'.2.2.2.2.2.2.1 = _; rw [he], by show σ'.2.2.2.2.2.2.2 = _; rw [he]⟩
  · unfold sm_SR; rw [e1]; exact hS
  · unfold sm_st; rw [e2]
theorem sm_tyk_ref {ty : FieldType} {kd : Nat} (h : sm_tyk ty kd = true) (hk : kd = 2 ∨ 10 ≤ kd) (o : Option Nat) : narrow ty (va_rf o) = va_rf o ∧ fits ty (va_rf o) = true := by
  cases ty <;> simp [sm_tyk] at h <;> first | omega | (cases o <;> exact ⟨rfl, rfl⟩)
theorem sm_tyk_I {ty : FieldType} (h : sm_tyk ty 0 = true) : ty = .int := by cases ty <;> simp [sm_tyk] at h <;> rfl
theorem sm_tyk_Z {ty : FieldType} (h : sm_tyk ty 3 = true) : ty = .boolean := by cases ty <;> simp [sm_tyk] at h <;> rfl
theorem sm_tyk_J {ty : FieldType} (h : sm_tyk ty 1 = true) : ty = .long := by cases ty <;> simp [sm_tyk] at h <;> rfl
theorem sm_tyk_no {ty : FieldType} {kd : Nat} (h : sm_tyk ty kd = true) (h1 : 4 ≤ kd) (h2 : kd < 10) : False := by cases ty <;> simp [sm_tyk] at h <;> omega
theorem sm_up3_self {α : Type} {f : Nat → Nat → Nat → α} {t i k : Nat} {v : α} : sm_up3 f t i k v t i k = v := by simp [sm_up3]
theorem sm_up3_nk {α : Type} {f : Nat → Nat → Nat → α} {t i k j : Nat} {v : α} (h : j ≠ k) : sm_up3 f t i k v t i j = f t i j := by simp [sm_up3, h]
set_option maxHeartbeats 2000000 in
theorem sm_s_putf (cx : sm_Cx E X p s m args meth c mn) (K : sm_K E X w p l e R s m args below meth c mn C r c0 s0 Q n) {i : Nat} (hd : decode (sm_bc mn) pc = .ok (.putfield i, 3)) (hok : sm_okA mn (.putfield i) a pc = true)
    (h : sm_I (sm_ZZ X) w C (.putfield i) a pc (sm_run (sm_ZZ X) sm_PP w C mn n (pc + 3)) (sm_run (sm_ZZ X) sm_PP w C mn n) hx L S σ = some r) (hH : sm_HR E w σ H) (hL : sm_LR E σ (sm_nl mn) L ls) (hS : sm_SR σ S) (hl : ∀ q ∈ locs, E.1 ≤ q.base) (hc : c0 ≤ sm_cells σ) (hs : s0 ≤ sm_slots σ) :
    W p l e R s m args below meth c H locs (sm_cells σ - c0) (sm_slots σ - s0) Q (F0 m pc ls (sm_st E σ S)) := by
  have cx' := cx
  obtain ⟨hex, hb, hml, hown, hts, hEF, -, -, hinit, -⟩ := cx'
  obtain ⟨t, k, kd, a4⟩ := a
  have hok' : ((decide (10 ≤ t) && (decide (t < 24) && (sm_fk t)[k]? == some kd)) && ((sm_has5 sm_fl (sm_ow mn) i t k && (bif (sm_cT t k).2.2.2 then sm_kn mn == 2 && sm_ow mn == t - 10 else true)) || (sm_has5 sm_fn (sm_ow mn) i t k && !(sm_cT t k).2.2.2))) = true := hok
  simp only [Bool.or_eq_true, Bool.and_eq_true, beq_iff_eq, decide_eq_true_eq, Bool.not_eq_true'] at hok'
  obtain ⟨⟨h10, h24, hkd⟩, hlk⟩ := hok'
  have hkl : k < (sm_fk t).length := (List.getElem?_eq_some_iff.mp hkd).1
  have hlink : ((Cond.fieldLink (sm_cn (sm_ow mn)) i (sm_cR t) (sm_cT t k).2.1 (sm_cT t k).2.2.1).before args s = true ∧ ((sm_cT t k).2.2.2 = true → sm_kn mn = 2 ∧ sm_ow mn = t - 10)) ∨ ((Cond.fieldLinkNest (sm_cn (sm_ow mn)) i (sm_cR t) (sm_cT t k).2.1 (sm_cT t k).2.2.1 "FreightYardsModel").before args s = true ∧ (sm_cT t k).2.2.2 = false) := by
    rcases hlk with ⟨g1, g2⟩ | ⟨g1, g2⟩
    · refine Or.inl ⟨?_, fun hf => ?_⟩
      · have hw : (sm_flw (sm_ow mn, i, t, k, 0)).before args s = true := hts _ (sm_fl_w g1)
        unfold sm_flw at hw
        dsimp only at hw
        rw [show (t == 5) = false by simp; omega] at hw
        exact hw
      · rw [hf] at g2
        simp only [cond_true, Bool.and_eq_true, beq_iff_eq] at g2
        exact g2
    · refine Or.inr ⟨?_, g2⟩
      obtain ⟨q, hq, e1, e2, e3, e4⟩ := sm_has5_s g1
      have := hEF.2.2.2.2.2.2.2.1 q hq
      unfold sm_fnw at this
      rw [e1, e2, e3, e4] at this
      exact va_Nw.use rfl this
  have hty := sm_ctyk t h10 h24 k hkl
  rw [List.getD_eq_getElem?_getD, hkd, Option.getD_some] at hty
  have h : sm_pf w t k kd S σ (fun r s => sm_run (sm_ZZ X) sm_PP w C mn n (pc + 3) L r s) = some r := h
  have fin : ∀ (u : sm_V) (x : Nat) (S' : List sm_V) (σ' : sm_S), S = u :: vP (t, x) :: S' → σ'.2.2.2 = σ.2.2.2 → (∀ t' i' k', ¬ (t' = t ∧ i' = x) → σ'.1 t' i' k' = σ.1 t' i' k' ∧ σ'.2.1 t' i' k' = σ.2.1 t' i' k' ∧ σ'.2.2.1 t' i' k' = σ.2.2.1 t' i' k') → (∀ k, sm_okp (sm_cnt σ) (σ'.2.2.1 t x k)) → (∀ j, j ≠ k → σ'.1 t x j = σ.1 t x j ∧ σ'.2.1 t x j = σ.2.1 t x j ∧ σ'.2.2.1 t x j = σ.2.2.1 t x j) → sm_gf w t k kd x σ' = u → narrow (sm_cty t k) (sm_rv E (sm_ad σ) u) = sm_rv E (sm_ad σ) u → fits (sm_cty t k) (sm_rv E (sm_ad σ) u) = true → sm_run (sm_ZZ X) sm_PP w C mn n (pc + 3) L S' σ' = some r → W p l e R s m args below meth c H locs (sm_cells σ - c0) (sm_slots σ - s0) Q (F0 m pc ls (sm_st E σ S)) := by
    intro u x S' σ' hSe he hm hokp hmj hgf hn hfit hrun
    subst hSe
    have hxo : sm_okp (sm_cnt σ) (t, x) := hS (vP (t, x)) (List.mem_cons_of_mem _ List.mem_cons_self)
    have hi := sm_okp_big h10 hxo
    obtain ⟨hS', est, ec, es⟩ := sm_LRs (E := E) he hS.tail.tail
    show W p l e R s m args below meth c H locs _ _ Q (F0 m pc ls (sm_rv E (sm_ad σ) u :: va_rf (sm_rp E (sm_ad σ) (t, x)) :: sm_st E σ S'))
    rw [sm_rp_big h10]
    refine sm_put cx hd hH hl h10 h24 hkd hi hlink hn hfit he hm hokp (sm_fv_up hkd he hmj (by rw [hgf])) fun H' locs' hH' hl' => ?_
    have g := K _ _ _ _ _ _ _ hrun hH' (hL.same he) hS' hl' (by rw [ec]; exact hc) (by rw [es]; exact hs)
    rw [ec, es, est] at g
    exact g
  rcases S with _ | ⟨u, _ | ⟨v, S⟩⟩
  · rcases kd with _ | _ | _ | _ | _ | _ | _ | _ | _ | _ | kd <;> first | cases h | (cases w <;> cases h)
  · rcases u with x | x | x | x <;> rcases kd with _ | _ | _ | _ | _ | _ | _ | _ | _ | _ | kd <;> first | cases h | (cases w <;> cases h)
  · have h6 := hH.2.2.2.2.2.1
    have refs : ∀ (x y : Nat × Nat) (_ : u = vP x) (_ : v = vP y) (_ : kd = 2 ∨ 10 ≤ kd) (_ : ∀ z σ', sm_gf w t k kd z σ' = vP (σ'.2.2.1 t z k)) (_ : sm_rq y t (fun i => sm_run (sm_ZZ X) sm_PP w C mn n (pc + 3) L S (sR σ t i k x)) = some r), W p l e R s m args below meth c H locs (sm_cells σ - c0) (sm_slots σ - s0) Q (F0 m pc ls (sm_st E σ (u :: v :: S))) := by
      intro x y hu hv hk hg hrq
      subst hu; subst hv
      obtain ⟨y1, y2⟩ := y
      obtain ⟨hz, hrn⟩ := sm_rq_s hrq
      dsimp only at hz hrn
      subst hz
      have hxo : sm_okp (sm_cnt σ) x := hS (vP x) List.mem_cons_self
      obtain ⟨n1, n2⟩ := sm_tyk_ref hty hk (sm_rp E (sm_ad σ) x)
      refine fin (vP x) y2 S (sR σ y1 y2 k x) rfl rfl (fun t' i' k' hne => ⟨rfl, rfl, sm_up3_ne hne⟩) (fun k' => ?_) (fun j hj => ⟨rfl, rfl, sm_up3_nk hj⟩) ?_ n1 n2 hrn
      · show sm_okp _ (sm_up3 σ.2.2.1 y1 y2 k x y1 y2 k')
        rw [sm_up3_k]
        split
        · exact hxo
        · exact h6 _ _ _
      · rw [hg]
        show vP (sm_up3 σ.2.2.1 y1 y2 k x y1 y2 k) = vP x
        rw [sm_up3_self]
    have wires : ∀ (z : Nat), kd = z + 10 → w = false → ∀ z σ', sm_gf w t k kd z σ' = vP (σ'.2.2.1 t z k) := by
      intro z hz hw z' σ'
      subst hz; subst hw
      rfl
    rcases u with x | x | x | x <;> rcases v with y | y | y | y
    case inl.inr.inr.inl =>
      obtain ⟨y1, y2⟩ := y
      match kd, h, hty, fin with
      | 0, h, hty, fin =>
        have hty := sm_tyk_I hty
        obtain ⟨hz, h⟩ := sm_rq_s (k := fun i => sm_run (sm_ZZ X) sm_PP w C mn n (pc + 3) L S (sI σ t i k x)) h
        dsimp only at hz h
        subst hz
        exact fin (vI x) y2 S (sI σ y1 y2 k x) rfl rfl (fun t' i' k' hne => ⟨sm_up3_ne hne, rfl, rfl⟩) (fun k' => h6 _ _ _) (fun j hj => ⟨sm_up3_nk hj, rfl, rfl⟩) (congrArg vI sm_up3_self) (by rw [hty]; rfl) (by rw [hty]; rfl) h
      | 3, h, hty, fin =>
        have hty := sm_tyk_Z hty
        have h : (if x = 0 ∨ x = 1 then sm_rq (y1, y2) t (fun i => sm_run (sm_ZZ X) sm_PP w C mn n (pc + 3) L S (sI σ t i k x)) else none) = some r := h
        by_cases hb1 : x = 0 ∨ x = 1
        · rw [if_pos hb1] at h
          obtain ⟨hz, h⟩ := sm_rq_s h
          dsimp only at hz h
          subst hz
          refine fin (vI x) y2 S (sI σ y1 y2 k x) rfl rfl (fun t' i' k' hne => ⟨sm_up3_ne hne, rfl, rfl⟩) (fun k' => h6 _ _ _) (fun j hj => ⟨sm_up3_nk hj, rfl, rfl⟩) (congrArg vI sm_up3_self) ?_ ?_ h
          · rw [hty]; rcases hb1 with rfl | rfl <;> rfl
          · rw [hty]; rcases hb1 with rfl | rfl <;> rfl
        · rw [if_neg hb1] at h; cases h
      | 1, h, hty, fin => cases h
      | 2, h, hty, fin => cases h
      | 9, h, hty, fin => cases h
      | kd + 10, h, hty, fin => cases w <;> cases h
      | 4, h, hty, fin => exact (sm_tyk_no hty (by omega) (by omega)).elim
      | 5, h, hty, fin => exact (sm_tyk_no hty (by omega) (by omega)).elim
      | 6, h, hty, fin => exact (sm_tyk_no hty (by omega) (by omega)).elim
      | 7, h, hty, fin => exact (sm_tyk_no hty (by omega) (by omega)).elim
      | 8, h, hty, fin => exact (sm_tyk_no hty (by omega) (by omega)).elim
    case inr.inl.inr.inr.inl =>
      obtain ⟨y1, y2⟩ := y
      match kd, h, hty, fin with
      | 1, h, hty, fin =>
        have hty := sm_tyk_J hty
        obtain ⟨hz, h⟩ := sm_rq_s (k := fun i => sm_run (sm_ZZ X) sm_PP w C mn n (pc + 3) L S (sL σ t i k x)) h
        dsimp only at hz h
        subst hz
        exact fin (vL x) y2 S (sL σ y1 y2 k x) rfl rfl (fun t' i' k' hne => ⟨rfl, sm_up3_ne hne, rfl⟩) (fun k' => h6 _ _ _) (fun j hj => ⟨rfl, sm_up3_nk hj, rfl⟩) (congrArg vL sm_up3_self) (by rw [hty]; rfl) (by rw [hty]; rfl) h
      | 0, h, hty, fin => cases h
      | 2, h, hty, fin => cases h
      | 3, h, hty, fin => cases h
      | 9, h, hty, fin => cases h
      | kd + 10, h, hty, fin => cases w <;> cases h
      | 4, h, hty, fin => exact (sm_tyk_no hty (by omega) (by omega)).elim
      | 5, h, hty, fin => exact (sm_tyk_no hty (by omega) (by omega)).elim
      | 6, h, hty, fin => exact (sm_tyk_no hty (by omega) (by omega)).elim
      | 7, h, hty, fin => exact (sm_tyk_no hty (by omega) (by omega)).elim
      | 8, h, hty, fin => exact (sm_tyk_no hty (by omega) (by omega)).elim
    case inr.inr.inl.inr.inr.inl =>
      match kd, h, hty, refs, wires with
      | 2, h, hty, refs, _ => exact refs x y rfl rfl (Or.inl rfl) (fun _ _ => rfl) h
      | 0, h, hty, refs, _ => cases h
      | 1, h, hty, refs, _ => cases h
      | 3, h, hty, refs, _ => cases h
      | 9, h, hty, refs, _ => cases h
      | kd + 10, h, hty, refs, wires =>
        cases w with
        | true => cases h
        | false => exact refs x y rfl rfl (Or.inr (by omega)) (wires kd rfl rfl) h
      | 4, h, hty, refs, _ => exact (sm_tyk_no hty (by omega) (by omega)).elim
      | 5, h, hty, refs, _ => exact (sm_tyk_no hty (by omega) (by omega)).elim
      | 6, h, hty, refs, _ => exact (sm_tyk_no hty (by omega) (by omega)).elim
      | 7, h, hty, refs, _ => exact (sm_tyk_no hty (by omega) (by omega)).elim
      | 8, h, hty, refs, _ => exact (sm_tyk_no hty (by omega) (by omega)).elim
    all_goals (rcases kd with _ | _ | _ | _ | _ | _ | _ | _ | _ | _ | kd <;> first | cases h | (cases w <;> cases h))
end
end
section
section
variable {E : sm_G} {X : Nat × (Nat → Int32)} {w : Bool} {p : Program} {l : Launch} {e : Env} {R : Room} {s : State} {m : MethodId} {args : Array Value} {below : List Frame} {meth : Method} {c : Code} {mn : Nat} {C : sm_C} {r : sm_O × sm_S} {c0 s0 : Nat} {Q : State → Prop} {n : Nat}
variable {len : Nat} {a : Nat × Nat × Nat × Nat} {pc : Nat} {L S : List sm_V} {σ σ' : sm_S} {hx : sm_S → sm_R} {H : Heap} {locs : List Loc} {ls : Array Slot}
theorem sm_at0 {t n : Nat} (h : sm_ak t = (0, n)) : sm_at_ t = .int := by unfold sm_at_; rw [h]; rfl
theorem sm_at1 {t n : Nat} (h : sm_ak t = (1, n)) : sm_at_ t = .byte := by unfold sm_at_; rw [h]; rfl
theorem sm_at2 {t n : Nat} (h : sm_ak t = (2, n)) : sm_at_ t = .long := by unfold sm_at_; rw [h]; rfl
theorem sm_at3 {t n : Nat} (h : sm_ak t = (3, n)) : sm_at_ t = .object (sm_ae t) := by unfold sm_at_; rw [h]; rfl
theorem sm_nin {x : Int32} {N M k : Nat} (h : ¬ (x < 0 ∨ N ≤ k)) (hm : N ≤ M) : ¬ (x < 0 ∨ M ≤ k) := by
  rintro (q | q)
  · exact h (Or.inl q)
  · exact h (Or.inr (Nat.le_trans hm q))
theorem sm_bne {a b : Nat} (h : a ≠ b) : (a == b) = false := by simp; exact h
theorem sm_al_n {t i k n : Nat} (h : sm_ak t = (k, n)) (hn : n ≠ 0) : sm_al σ t i = n := by
  unfold sm_al
  rw [h]
  show (bif n == 0 then _ else n) = n
  rw [show (n == 0) = false by simp; exact hn]
  rfl
theorem sm_al_b {t i k n : Nat} (h : sm_ak t = (k, n)) : sm_al σ t i = (bif n == 0 then σ.2.2.2.1 t i else n) := by
  unfold sm_al
  rw [h]
/-- tables and the script, at the heap -/
theorem sm_low (hH : sm_HR E w σ H) {q : Nat} (h : ¬ E.1 ≤ q) : H[q]? = E.2.2.2.2.2.2.2.2[q]? := hH.2.1 q (Nat.not_le.mp h)
set_option maxHeartbeats 1000000 in
theorem sm_s_ild (cx : sm_Cx E X p s m args meth c mn) (K : sm_K E X w p l e R s m args below meth c mn C r c0 s0 Q n) (hd : decode (sm_bc mn) pc = .ok (.iaload, 1)) (hok : sm_okA mn .iaload a pc = true)
    (h : sm_I (sm_ZZ X) w C .iaload a pc (sm_run (sm_ZZ X) sm_PP w C mn n (pc + 1)) (sm_run (sm_ZZ X) sm_PP w C mn n) hx L S σ = some r) (hH : sm_HR E w σ H) (hL : sm_LR E σ (sm_nl mn) L ls) (hS : sm_SR σ S) (hl : ∀ q ∈ locs, E.1 ≤ q.base) (hc : c0 ≤ sm_cells σ) (hs : s0 ≤ sm_slots σ) :
    W p l e R s m args below meth c H locs (sm_cells σ - c0) (sm_slots σ - s0) Q (F0 m pc ls (sm_st E σ S)) := by
  obtain ⟨hex, hb, hml, hown, hts, hEF, -⟩ := cx
  obtain ⟨t, k, kd, a4⟩ := a
  rcases sm_a0_s S with q | ⟨j, x, S, rfl⟩
  · exact absurd h (by rw [show sm_I (sm_ZZ X) w C .iaload (t, k, kd, a4) pc _ _ hx L S σ = none from q _]; exact fun z => by cases z)
  obtain ⟨x1, x2⟩ := x
  have hxo : sm_okp (sm_cnt σ) (x1, x2) := hS (vP (x1, x2)) (List.mem_cons_of_mem _ List.mem_cons_self)
  have h : sm_ild X sm_tb t k (x1, x2) j σ (fun v => sm_run (sm_ZZ X) sm_PP w C mn n (pc + 1) L (vI v :: S) σ) = some r := h
  have hok' : (t == 4 || (t == 6 || (decide (30 ≤ t) && (decide (t < 97) && (sm_ak t == (0, k) && !(k == 0)))))) = true := hok
  simp only [Bool.or_eq_true, Bool.and_eq_true, beq_iff_eq, decide_eq_true_eq, Bool.not_eq_true', beq_eq_false_iff_ne] at hok'
  unfold sm_ild at h
  rcases hok' with rfl | rfl | ⟨g1, g2, g3, g4⟩
  · obtain ⟨hz, hh⟩ := sm_rq_s (t := 4) (k := fun _ => sm_ix j X.1 fun z => sm_run (sm_ZZ X) sm_PP w C mn n (pc + 1) L (vI (X.2 z) :: S) σ) h
    dsimp only at hz hh
    subst hz
    obtain ⟨hin, hk⟩ := sm_ix_s hh
    obtain ⟨⟨scr, u1, u2, u3, u4, u5⟩, u6, u7⟩ := hEF.2.2.2.2.2.2.2.2.2.2.1
    have hlt : j.toNatClampNeg < X.1 := Nat.not_le.mp fun q => hin (Or.inr q)
    have g := K _ _ _ _ _ _ _ hk hH hL (hS.tail.tail.cons (v := vI (X.2 j.toNatClampNeg)) trivial) hl hc hs
    exact W.iald (v := .int (X.2 j.toNatClampNeg)) hex hb (by rw [hH.2.1 _ u6]; exact u1) u2 u3 (by rw [u4]; exact hin) (u5 _ hlt) rfl rfl hd g
  · obtain ⟨hz, hh⟩ := sm_rq_s (t := 6) (k := fun i => sm_ix j (sm_tb i).length fun z => sm_run (sm_ZZ X) sm_PP w C mn n (pc + 1) L (vI ((sm_tb i).getD z 0) :: S) σ) h
    dsimp only at hz hh
    subst hz
    obtain ⟨hin, hk⟩ := sm_ix_s hh
    obtain ⟨cell, u1, u2, u3, u4, u5, u6, u7⟩ := (hEF.2.2.2.2.1 x2 (sm_okp_6 hxo)).2
    have hlt : j.toNatClampNeg < (sm_tb x2).length := Nat.not_le.mp fun q => hin (Or.inr q)
    have g := K _ _ _ _ _ _ _ hk hH hL (hS.tail.tail.cons (v := vI ((sm_tb x2).getD j.toNatClampNeg 0)) trivial) hl hc hs
    exact W.iald (v := .int ((sm_tb x2).getD j.toNatClampNeg 0)) hex hb (by rw [sm_low hH u7]; exact u1) u2 u3 (sm_nin hin u4) (u6 _ hlt) rfl rfl hd g
  · rw [sm_bne (show t ≠ 4 by omega), sm_bne (show t ≠ 6 by omega)] at h
    obtain ⟨hz, hh⟩ := sm_rq_s (t := t) (k := fun i => sm_ix j k fun z => sm_run (sm_ZZ X) sm_PP w C mn n (pc + 1) L (vI (σ.1 t i z) :: S) σ) h
    dsimp only at hz hh
    subst hz
    obtain ⟨hin, hk⟩ := sm_ix_s hh
    have hlt : j.toNatClampNeg < k := Nat.not_le.mp fun q => hin (Or.inr q)
    have hi := sm_okp_big (by omega) hxo
    obtain ⟨-, hrow⟩ := hH.row g1 hi
    rw [sm_al_n g3 g4] at hrow
    have harr := (hEF.2.1 x1 g1 g2).1 k (sm_av E σ x1 x2)
    rw [sm_at0 g3] at harr
    have g := K _ _ _ _ _ _ _ hk hH hL (hS.tail.tail.cons (v := vI (σ.1 x1 x2 j.toNatClampNeg)) trivial) hl hc hs
    show W p l e R s m args below meth c H locs _ _ Q (F0 m pc ls (.int j :: va_rf (sm_rp E (sm_ad σ) (x1, x2)) :: sm_st E σ S))
    rw [sm_rp_big (by omega)]
    refine W.iald (v := .int (σ.1 x1 x2 j.toNatClampNeg)) hex hb hrow harr (fun q => by cases q) (by rw [arrV_size]; exact hin) ?_ rfl rfl hd g
    rw [arrV_read _ _ hlt]
    unfold sm_av
    rw [g3]
    rfl
set_option maxHeartbeats 1000000 in
theorem sm_s_bld (cx : sm_Cx E X p s m args meth c mn) (K : sm_K E X w p l e R s m args below meth c mn C r c0 s0 Q n) (hd : decode (sm_bc mn) pc = .ok (.baload, 1)) (hok : sm_okA mn .baload a pc = true)
    (h : sm_I (sm_ZZ X) w C .baload a pc (sm_run (sm_ZZ X) sm_PP w C mn n (pc + 1)) (sm_run (sm_ZZ X) sm_PP w C mn n) hx L S σ = some r) (hH : sm_HR E w σ H) (hL : sm_LR E σ (sm_nl mn) L ls) (hS : sm_SR σ S) (hl : ∀ q ∈ locs, E.1 ≤ q.base) (hc : c0 ≤ sm_cells σ) (hs : s0 ≤ sm_slots σ) :
    W p l e R s m args below meth c H locs (sm_cells σ - c0) (sm_slots σ - s0) Q (F0 m pc ls (sm_st E σ S)) := by
  obtain ⟨hex, hb, hml, hown, hts, hEF, -⟩ := cx
  obtain ⟨t, k, kd, a4⟩ := a
  rcases sm_a0_s S with q | ⟨j, x, S, rfl⟩
  · exact absurd h (by rw [show sm_I (sm_ZZ X) w C .baload (t, k, kd, a4) pc _ _ hx L S σ = none from q _]; exact fun z => by cases z)
  obtain ⟨x1, x2⟩ := x
  have hxo : sm_okp (sm_cnt σ) (x1, x2) := hS (vP (x1, x2)) (List.mem_cons_of_mem _ List.mem_cons_self)
  have h : sm_bld sm_by t k (x1, x2) j σ (fun v => sm_run (sm_ZZ X) sm_PP w C mn n (pc + 1) L (vI v :: S) σ) = some r := h
  have hok' : (t == 7 || (decide (30 ≤ t) && (decide (t < 97) && (sm_ak t == (1, k) && !(k == 0))))) = true := hok
  simp only [Bool.or_eq_true, Bool.and_eq_true, beq_iff_eq, decide_eq_true_eq, Bool.not_eq_true', beq_eq_false_iff_ne] at hok'
  unfold sm_bld at h
  rcases hok' with rfl | ⟨g1, g2, g3, g4⟩
  · obtain ⟨hz, hh⟩ := sm_rq_s (t := 7) (k := fun i => sm_ix j (sm_by i).length fun z => sm_run (sm_ZZ X) sm_PP w C mn n (pc + 1) L (vI ((sm_by i).getD z 0) :: S) σ) h
    dsimp only at hz hh
    subst hz
    obtain ⟨hin, hk⟩ := sm_ix_s hh
    have hi := sm_okp_5 (Or.inr rfl) hxo
    obtain ⟨-, -, -, cell, u1, u2, u3, u4, u5, u6, u7⟩ := hEF.2.2.1.1 x2 hi
    have hlen : sm_len54.getD x2 0 = (sm_by x2).length := by
      unfold sm_len54
      rw [List.getD_eq_getElem?_getD, List.getElem?_map, List.getElem?_range hi]; rfl
    have hbyt : sm_byt54.getD x2 [] = sm_by x2 := by
      unfold sm_byt54
      rw [List.getD_eq_getElem?_getD, List.getElem?_map, List.getElem?_range hi]; rfl
    rw [hlen] at u4 u5 u6
    rw [hbyt] at u6
    have hlt : j.toNatClampNeg < (sm_by x2).length := Nat.not_le.mp fun q => hin (Or.inr q)
    have g := K _ _ _ _ _ _ _ hk hH hL (hS.tail.tail.cons (v := vI ((sm_by x2).getD j.toNatClampNeg 0)) trivial) hl hc hs
    exact W.bald (v := .int ((sm_by x2).getD j.toNatClampNeg 0)) hex hb (by rw [sm_low hH u7]; exact u1) u2 u3 (sm_nin hin u4) (u6 _ hlt) rfl rfl hd g
  · rw [sm_bne (show t ≠ 7 by omega)] at h
    obtain ⟨hz, hh⟩ := sm_rq_s (t := t) (k := fun i => sm_ix j k fun z => sm_run (sm_ZZ X) sm_PP w C mn n (pc + 1) L (vI (σ.1 t i z) :: S) σ) h
    dsimp only at hz hh
    subst hz
    obtain ⟨hin, hk⟩ := sm_ix_s hh
    have hlt : j.toNatClampNeg < k := Nat.not_le.mp fun q => hin (Or.inr q)
    have hi := sm_okp_big (by omega) hxo
    obtain ⟨-, hrow⟩ := hH.row g1 hi
    rw [sm_al_n g3 g4] at hrow
    have harr := (hEF.2.1 x1 g1 g2).1 k (sm_av E σ x1 x2)
    rw [sm_at1 g3] at harr
    have g := K _ _ _ _ _ _ _ hk hH hL (hS.tail.tail.cons (v := vI (σ.1 x1 x2 j.toNatClampNeg)) trivial) hl hc hs
    show W p l e R s m args below meth c H locs _ _ Q (F0 m pc ls (.int j :: va_rf (sm_rp E (sm_ad σ) (x1, x2)) :: sm_st E σ S))
    rw [sm_rp_big (by omega)]
    refine W.bald (v := .int (σ.1 x1 x2 j.toNatClampNeg)) hex hb hrow harr (fun q => by cases q) (by rw [arrV_size]; exact hin) ?_ rfl rfl hd g
    rw [arrV_read _ _ hlt]
    unfold sm_av
    rw [g3]
    rfl
theorem sm_s_lld (cx : sm_Cx E X p s m args meth c mn) (K : sm_K E X w p l e R s m args below meth c mn C r c0 s0 Q n) (hd : decode (sm_bc mn) pc = .ok (.laload, 1)) (hok : sm_okA mn .laload a pc = true)
    (h : sm_I (sm_ZZ X) w C .laload a pc (sm_run (sm_ZZ X) sm_PP w C mn n (pc + 1)) (sm_run (sm_ZZ X) sm_PP w C mn n) hx L S σ = some r) (hH : sm_HR E w σ H) (hL : sm_LR E σ (sm_nl mn) L ls) (hS : sm_SR σ S) (hl : ∀ q ∈ locs, E.1 ≤ q.base) (hc : c0 ≤ sm_cells σ) (hs : s0 ≤ sm_slots σ) :
    W p l e R s m args below meth c H locs (sm_cells σ - c0) (sm_slots σ - s0) Q (F0 m pc ls (sm_st E σ S)) := by
  obtain ⟨hex, hb, hml, hown, hts, hEF, -⟩ := cx
  obtain ⟨t, k, kd, a4⟩ := a
  rcases sm_a0_s S with q | ⟨j, x, S, rfl⟩
  · exact absurd h (by rw [show sm_I (sm_ZZ X) w C .laload (t, k, kd, a4) pc _ _ hx L S σ = none from q _]; exact fun z => by cases z)
  obtain ⟨x1, x2⟩ := x
  have hxo : sm_okp (sm_cnt σ) (x1, x2) := hS (vP (x1, x2)) (List.mem_cons_of_mem _ List.mem_cons_self)
  have hok' : (decide (30 ≤ t) && (decide (t < 97) && (sm_ak t == (2, k) && !(k == 0)))) = true := hok
  simp only [Bool.and_eq_true, beq_iff_eq, decide_eq_true_eq, Bool.not_eq_true', beq_eq_false_iff_ne] at hok'
  obtain ⟨g1, g2, g3, g4⟩ := hok'
  obtain ⟨hz, hh⟩ := sm_rq_s (t := t) (k := fun i => sm_ix j k fun z => sm_run (sm_ZZ X) sm_PP w C mn n (pc + 1) L (vL (σ.2.1 t i z) :: S) σ) h
  dsimp only at hz hh
  subst hz
  obtain ⟨hin, hk⟩ := sm_ix_s hh
  have hlt : j.toNatClampNeg < k := Nat.not_le.mp fun q => hin (Or.inr q)
  have hi := sm_okp_big (by omega) hxo
  obtain ⟨-, hrow⟩ := hH.row g1 hi
  rw [sm_al_n g3 g4] at hrow
  have harr := (hEF.2.1 x1 g1 g2).1 k (sm_av E σ x1 x2)
  rw [sm_at2 g3] at harr
  have g := K _ _ _ _ _ _ _ hk hH hL (hS.tail.tail.cons (v := vL (σ.2.1 x1 x2 j.toNatClampNeg)) trivial) hl hc hs
  show W p l e R s m args below meth c H locs _ _ Q (F0 m pc ls (.int j :: va_rf (sm_rp E (sm_ad σ) (x1, x2)) :: sm_st E σ S))
  rw [sm_rp_big (by omega)]
  refine W.lald (v := .long (σ.2.1 x1 x2 j.toNatClampNeg)) hex hb hrow harr (fun q => by cases q) (by rw [arrV_size]; exact hin) ?_ rfl rfl hd g
  rw [arrV_read _ _ hlt]
  unfold sm_av
  rw [g3]
  rfl
theorem sm_s_ald (cx : sm_Cx E X p s m args meth c mn) (K : sm_K E X w p l e R s m args below meth c mn C r c0 s0 Q n) (hd : decode (sm_bc mn) pc = .ok (.aaload, 1)) (hok : sm_okA mn .aaload a pc = true)
    (h : sm_I (sm_ZZ X) w C .aaload a pc (sm_run (sm_ZZ X) sm_PP w C mn n (pc + 1)) (sm_run (sm_ZZ X) sm_PP w C mn n) hx L S σ = some r) (hH : sm_HR E w σ H) (hL : sm_LR E σ (sm_nl mn) L ls) (hS : sm_SR σ S) (hl : ∀ q ∈ locs, E.1 ≤ q.base) (hc : c0 ≤ sm_cells σ) (hs : s0 ≤ sm_slots σ) :
    W p l e R s m args below meth c H locs (sm_cells σ - c0) (sm_slots σ - s0) Q (F0 m pc ls (sm_st E σ S)) := by
  obtain ⟨hex, hb, hml, hown, hts, hEF, -⟩ := cx
  obtain ⟨t, k, kd, a4⟩ := a
  rcases sm_a0_s S with q | ⟨j, x, S, rfl⟩
  · exact absurd h (by rw [show sm_I (sm_ZZ X) w C .aaload (t, k, kd, a4) pc _ _ hx L S σ = none from q _]; exact fun z => by cases z)
  obtain ⟨x1, x2⟩ := x
  have hxo : sm_okp (sm_cnt σ) (x1, x2) := hS (vP (x1, x2)) (List.mem_cons_of_mem _ List.mem_cons_self)
  have hok' : (decide (30 ≤ t) && (decide (t < 97) && sm_ak t == (3, k))) = true := hok
  simp only [Bool.and_eq_true, beq_iff_eq, decide_eq_true_eq] at hok'
  obtain ⟨g1, g2, g3⟩ := hok'
  obtain ⟨hz, hh⟩ := sm_rq_s (t := t) (k := fun i => sm_ix j (bif k == 0 then σ.2.2.2.1 t i else k) fun z => sm_run (sm_ZZ X) sm_PP w C mn n (pc + 1) L (vP (σ.2.2.1 t i z) :: S) σ) h
  dsimp only at hz hh
  subst hz
  rw [← sm_al_b (σ := σ) (i := x2) g3] at hh
  obtain ⟨hin, hk⟩ := sm_ix_s hh
  have hlt : j.toNatClampNeg < sm_al σ x1 x2 := Nat.not_le.mp fun q => hin (Or.inr q)
  have hi := sm_okp_big (by omega) hxo
  obtain ⟨-, hrow⟩ := hH.row g1 hi
  have harr := (hEF.2.1 x1 g1 g2).1 (sm_al σ x1 x2) (sm_av E σ x1 x2)
  rw [sm_at3 g3] at harr
  have g := K _ _ _ _ _ _ _ hk hH hL (hS.tail.tail.cons (v := vP (σ.2.2.1 x1 x2 j.toNatClampNeg)) (hH.2.2.2.2.2.1 _ _ _)) hl hc hs
  show W p l e R s m args below meth c H locs _ _ Q (F0 m pc ls (.int j :: va_rf (sm_rp E (sm_ad σ) (x1, x2)) :: sm_st E σ S))
  rw [sm_rp_big (by omega)]
  refine W.aald (v := va_rf (sm_rp E (sm_ad σ) (σ.2.2.1 x1 x2 j.toNatClampNeg))) hex hb hrow harr rfl (fun q => by cases q) (by rw [arrV_size]; exact hin) ?_ rfl rfl hd g
  rw [arrV_read _ _ hlt]
  unfold sm_av
  rw [g3]
  rfl
theorem sm_s_alen (cx : sm_Cx E X p s m args meth c mn) (K : sm_K E X w p l e R s m args below meth c mn C r c0 s0 Q n) (hd : decode (sm_bc mn) pc = .ok (.arraylength, 1)) (hok : sm_okA mn .arraylength a pc = true)
    (h : sm_I (sm_ZZ X) w C .arraylength a pc (sm_run (sm_ZZ X) sm_PP w C mn n (pc + 1)) (sm_run (sm_ZZ X) sm_PP w C mn n) hx L S σ = some r) (hH : sm_HR E w σ H) (hL : sm_LR E σ (sm_nl mn) L ls) (hS : sm_SR σ S) (hl : ∀ q ∈ locs, E.1 ≤ q.base) (hc : c0 ≤ sm_cells σ) (hs : s0 ≤ sm_slots σ) :
    W p l e R s m args below meth c H locs (sm_cells σ - c0) (sm_slots σ - s0) Q (F0 m pc ls (sm_st E σ S)) := by
  obtain ⟨hex, hb, hml, hown, hts, hEF, -⟩ := cx
  obtain ⟨t, k, kd, a4⟩ := a
  rcases sm_r1_s S with q | ⟨x, S, rfl⟩
  · exact absurd h (by rw [show sm_I (sm_ZZ X) w C .arraylength (t, k, kd, a4) pc _ _ hx L S σ = none from q _]; exact fun z => by cases z)
  obtain ⟨x1, x2⟩ := x
  have hxo : sm_okp (sm_cnt σ) (x1, x2) := hS (vP (x1, x2)) List.mem_cons_self
  have h : sm_len X sm_tb sm_by t k (x1, x2) σ (fun v => sm_run (sm_ZZ X) sm_PP w C mn n (pc + 1) L (vI v :: S) σ) = some r := h
  have hok' : (t == 4 || (t == 6 || (t == 7 || (decide (30 ≤ t) && (decide (t < 97) && (sm_ak t).2 == k))))) = true := hok
  simp only [Bool.or_eq_true, Bool.and_eq_true, beq_iff_eq, decide_eq_true_eq] at hok'
  unfold sm_len at h
  rcases hok' with rfl | rfl | rfl | ⟨g1, g2, g3⟩
  · obtain ⟨hz, hh⟩ := sm_rq_s (t := 4) (k := fun _ => sm_run (sm_ZZ X) sm_PP w C mn n (pc + 1) L (vI (Int32.ofNat X.1) :: S) σ) h
    dsimp only at hz hh
    subst hz
    obtain ⟨⟨scr, u1, u2, u3, u4, u5⟩, u6, u7⟩ := hEF.2.2.2.2.2.2.2.2.2.2.1
    have g := K _ _ _ _ _ _ _ hh hH hL (hS.tail.cons (v := vI (Int32.ofNat X.1)) trivial) hl hc hs
    exact W.alen (n := Int32.ofNat X.1) hex hb (by rw [hH.2.1 _ u6]; exact u1) u2 (by rw [u4]) rfl rfl hd g
  · obtain ⟨hz, hh⟩ := sm_rq_s (t := 6) (k := fun i => sm_run (sm_ZZ X) sm_PP w C mn n (pc + 1) L (vI (Int32.ofNat (sm_tb i).length) :: S) σ) h
    dsimp only at hz hh
    subst hz
    obtain ⟨cell, u1, u2, u3, u4, u5, u6, u7⟩ := (hEF.2.2.2.2.1 x2 (sm_okp_6 hxo)).2
    have g := K _ _ _ _ _ _ _ hh hH hL (hS.tail.cons (v := vI (Int32.ofNat (sm_tb x2).length)) trivial) hl hc hs
    exact W.alen hex hb (by rw [sm_low hH u7]; exact u1) u2 u5 rfl rfl hd g
  · obtain ⟨hz, hh⟩ := sm_rq_s (t := 7) (k := fun i => sm_run (sm_ZZ X) sm_PP w C mn n (pc + 1) L (vI (Int32.ofNat (sm_by i).length) :: S) σ) h
    dsimp only at hz hh
    subst hz
    have hi := sm_okp_5 (Or.inr rfl) hxo
    obtain ⟨-, -, -, cell, u1, u2, u3, u4, u5, u6, u7⟩ := hEF.2.2.1.1 x2 hi
    have hlen : sm_len54.getD x2 0 = (sm_by x2).length := by
      unfold sm_len54
      rw [List.getD_eq_getElem?_getD, List.getElem?_map, List.getElem?_range hi]; rfl
    rw [hlen] at u5
    have g := K _ _ _ _ _ _ _ hh hH hL (hS.tail.cons (v := vI (Int32.ofNat (sm_by x2).length)) trivial) hl hc hs
    exact W.alen hex hb (by rw [sm_low hH u7]; exact u1) u2 u5 rfl rfl hd g
  · rw [sm_bne (show t ≠ 4 by omega), sm_bne (show t ≠ 6 by omega), sm_bne (show t ≠ 7 by omega)] at h
    obtain ⟨hz, hh⟩ := sm_rq_s (t := t) (k := fun i => sm_run (sm_ZZ X) sm_PP w C mn n (pc + 1) L (vI (Int32.ofNat (bif k == 0 then σ.2.2.2.1 t i else k)) :: S) σ) h
    dsimp only at hz hh
    subst hz
    have hi := sm_okp_big (by omega) hxo
    obtain ⟨-, hrow⟩ := hH.row g1 hi
    have hal : sm_al σ x1 x2 = (bif k == 0 then σ.2.2.2.1 x1 x2 else k) := by unfold sm_al; rw [g3]
    rw [← hal] at hh
    have harr := (hEF.2.1 x1 g1 g2).1 (sm_al σ x1 x2) (sm_av E σ x1 x2)
    have g := K _ _ _ _ _ _ _ hh hH hL (hS.tail.cons (v := vI (Int32.ofNat (sm_al σ x1 x2))) trivial) hl hc hs
    show W p l e R s m args below meth c H locs _ _ Q (F0 m pc ls (va_rf (sm_rp E (sm_ad σ) (x1, x2)) :: sm_st E σ S))
    rw [sm_rp_big (by omega)]
    exact W.alen (n := Int32.ofNat (sm_al σ x1 x2)) hex hb hrow harr (by rw [arrV_size]) rfl rfl hd g
end
end
section
section
variable {E : sm_G} {X : Nat × (Nat → Int32)} {w : Bool} {p : Program} {l : Launch} {e : Env} {R : Room} {s : State} {m : MethodId} {args : Array Value} {below : List Frame} {meth : Method} {c : Code} {mn : Nat} {C : sm_C} {r : sm_O × sm_S} {c0 s0 : Nat} {Q : State → Prop} {n : Nat}
variable {len : Nat} {a : Nat × Nat × Nat × Nat} {pc : Nat} {L S : List sm_V} {σ σ' : sm_S} {hx : sm_S → sm_R} {H H' : Heap} {locs : List Loc} {ls : Array Slot}
/-- a row is written: what the heap holds then -/
theorem sm_rowset (hH : sm_HR E w σ H) {t i j : Nat} (h30 : 30 ≤ t) (h97 : t < 97) (hi : i < sm_cnt σ t) (he : σ'.2.2.2 = σ.2.2.2)
    (hm : ∀ t' i' k', ¬ (t' = t ∧ i' = i) → σ'.1 t' i' k' = σ.1 t' i' k' ∧ σ'.2.1 t' i' k' = σ.2.1 t' i' k' ∧ σ'.2.2.1 t' i' k' = σ.2.2.1 t' i' k') (hok : ∀ k, sm_okp (sm_cnt σ) (σ'.2.2.1 t i k))
    {v : Value} (hav : updV (sm_av E σ t i) j v = sm_av E σ' t i) (e1 : H'[E.1 + sm_ad σ t i]? = some ((arrV (E.2.2.2.2.2.2.2.1 t) (sm_al σ t i) (sm_av E σ t i)).setSlot j v)) (e2 : H'.size = H.size) (e3 : ∀ q, q ≠ E.1 + sm_ad σ t i → H'[q]? = H[q]?) : sm_HR E w σ' H' := by
  have ead : sm_ad σ' = sm_ad σ := by show σ'.2.2.2.2.2.1 = _; rw [he]
  have eal : sm_al σ' t i = sm_al σ t i := by unfold sm_al; rw [show σ'.2.2.2.1 = σ.2.2.2.1 by rw [he]]
  refine hH.set (by omega) hi he hm hok e2 e3 (Or.inr (Or.inr ⟨h30, h97, ?_⟩))
  rw [ead, eal, e1, arrV_store, hav]
theorem sm_locs {q0 : Loc} (hl : ∀ q ∈ locs, E.1 ≤ q.base) (h0 : E.1 ≤ q0.base) : ∀ q ∈ locs ++ [q0], E.1 ≤ q.base := fun q hq => by
  rcases List.mem_append.mp hq with z | z
  · exact hl q z
  · rw [List.mem_singleton.mp z]; exact h0
set_option maxHeartbeats 1000000 in
theorem sm_s_ist (cx : sm_Cx E X p s m args meth c mn) (K : sm_K E X w p l e R s m args below meth c mn C r c0 s0 Q n) (hd : decode (sm_bc mn) pc = .ok (.iastore, 1)) (hok : sm_okA mn .iastore a pc = true)
    (h : sm_I (sm_ZZ X) w C .iastore a pc (sm_run (sm_ZZ X) sm_PP w C mn n (pc + 1)) (sm_run (sm_ZZ X) sm_PP w C mn n) hx L S σ = some r) (hH : sm_HR E w σ H) (hL : sm_LR E σ (sm_nl mn) L ls) (hS : sm_SR σ S) (hl : ∀ q ∈ locs, E.1 ≤ q.base) (hc : c0 ≤ sm_cells σ) (hs : s0 ≤ sm_slots σ) :
    W p l e R s m args below meth c H locs (sm_cells σ - c0) (sm_slots σ - s0) Q (F0 m pc ls (sm_st E σ S)) := by
  obtain ⟨hex, hb, hml, hown, hts, hEF, -⟩ := cx
  obtain ⟨t, k, kd, a4⟩ := a
  rcases sm_aI_s S with q | ⟨v, j, x, S, rfl⟩
  · exact absurd h (by rw [show sm_I (sm_ZZ X) w C .iastore (t, k, kd, a4) pc _ _ hx L S σ = none from q _]; exact fun z => by cases z)
  obtain ⟨x1, x2⟩ := x
  have hxo : sm_okp (sm_cnt σ) (x1, x2) := hS (vP (x1, x2)) (List.mem_cons_of_mem _ (List.mem_cons_of_mem _ List.mem_cons_self))
  have hok' : (decide (30 ≤ t) && (decide (t < 97) && (sm_ak t == (0, k) && !(k == 0)))) = true := hok
  simp only [Bool.and_eq_true, beq_iff_eq, decide_eq_true_eq, Bool.not_eq_true', beq_eq_false_iff_ne] at hok'
  obtain ⟨g1, g2, g3, g4⟩ := hok'
  obtain ⟨hz, hh⟩ := sm_rq_s (t := t) (k := fun i => sm_ix j k fun z => sm_run (sm_ZZ X) sm_PP w C mn n (pc + 1) L S (sI σ t i z v)) h
  dsimp only at hz hh
  subst hz
  obtain ⟨hin, hk⟩ := sm_ix_s hh
  have hi := sm_okp_big (by omega) hxo
  obtain ⟨-, hrow⟩ := hH.row g1 hi
  have harr := (hEF.2.1 x1 g1 g2).1 (sm_al σ x1 x2) (sm_av E σ x1 x2)
  rw [sm_at0 g3] at harr
  show W p l e R s m args below meth c H locs _ _ Q (F0 m pc ls (.int v :: .int j :: va_rf (sm_rp E (sm_ad σ) (x1, x2)) :: sm_st E σ S))
  rw [sm_rp_big (by omega)]
  refine W.iast hex hb hrow harr (fun q => by cases q) (by rw [arrV_size, sm_al_n g3 g4]; exact hin) rfl rfl hd fun H' e1 e2 e3 => ?_
  refine K (pc + 1) L S (sI σ x1 x2 j.toNatClampNeg v) H' _ ls hk (sm_rowset (σ' := (sI σ x1 x2 j.toNatClampNeg v)) hH g1 g2 hi rfl (fun t' i' k' hne => ⟨sm_up3_ne hne, rfl, rfl⟩) (fun k' => hH.2.2.2.2.2.1 _ _ _) ?_ e1 e2 e3) (hL.same rfl) hS.tail.tail.tail (sm_locs hl (Nat.le_add_right _ _)) hc hs
  funext z
  unfold updV sm_av
  rw [g3]
  show (if z = _ then Value.int v else .int (σ.1 x1 x2 z)) = .int (sm_up3 σ.1 x1 x2 j.toNatClampNeg v x1 x2 z)
  rw [sm_up3_k]
  split <;> rfl
set_option maxHeartbeats 1000000 in
theorem sm_s_bst (cx : sm_Cx E X p s m args meth c mn) (K : sm_K E X w p l e R s m args below meth c mn C r c0 s0 Q n) (hd : decode (sm_bc mn) pc = .ok (.bastore, 1)) (hok : sm_okA mn .bastore a pc = true)
    (h : sm_I (sm_ZZ X) w C .bastore a pc (sm_run (sm_ZZ X) sm_PP w C mn n (pc + 1)) (sm_run (sm_ZZ X) sm_PP w C mn n) hx L S σ = some r) (hH : sm_HR E w σ H) (hL : sm_LR E σ (sm_nl mn) L ls) (hS : sm_SR σ S) (hl : ∀ q ∈ locs, E.1 ≤ q.base) (hc : c0 ≤ sm_cells σ) (hs : s0 ≤ sm_slots σ) :
    W p l e R s m args below meth c H locs (sm_cells σ - c0) (sm_slots σ - s0) Q (F0 m pc ls (sm_st E σ S)) := by
  obtain ⟨hex, hb, hml, hown, hts, hEF, -⟩ := cx
  obtain ⟨t, k, kd, a4⟩ := a
  rcases sm_aI_s S with q | ⟨v, j, x, S, rfl⟩
  · exact absurd h (by rw [show sm_I (sm_ZZ X) w C .bastore (t, k, kd, a4) pc _ _ hx L S σ = none from q _]; exact fun z => by cases z)
  obtain ⟨x1, x2⟩ := x
  have hxo : sm_okp (sm_cnt σ) (x1, x2) := hS (vP (x1, x2)) (List.mem_cons_of_mem _ (List.mem_cons_of_mem _ List.mem_cons_self))
  have hok' : (decide (30 ≤ t) && (decide (t < 97) && (sm_ak t == (1, k) && !(k == 0)))) = true := hok
  simp only [Bool.and_eq_true, beq_iff_eq, decide_eq_true_eq, Bool.not_eq_true', beq_eq_false_iff_ne] at hok'
  obtain ⟨g1, g2, g3, g4⟩ := hok'
  obtain ⟨hz, hh⟩ := sm_rq_s (t := t) (k := fun i => sm_ix j k fun z => sm_run (sm_ZZ X) sm_PP w C mn n (pc + 1) L S (sI σ t i z v.toInt8.toInt32)) h
  dsimp only at hz hh
  subst hz
  obtain ⟨hin, hk⟩ := sm_ix_s hh
  have hi := sm_okp_big (by omega) hxo
  obtain ⟨-, hrow⟩ := hH.row g1 hi
  have harr := (hEF.2.1 x1 g1 g2).1 (sm_al σ x1 x2) (sm_av E σ x1 x2)
  rw [sm_at1 g3] at harr
  show W p l e R s m args below meth c H locs _ _ Q (F0 m pc ls (.int v :: .int j :: va_rf (sm_rp E (sm_ad σ) (x1, x2)) :: sm_st E σ S))
  rw [sm_rp_big (by omega)]
  refine W.bast hex hb hrow harr (fun q => by cases q) (by rw [arrV_size, sm_al_n g3 g4]; exact hin) rfl rfl hd fun H' e1 e2 e3 => ?_
  refine K (pc + 1) L S (sI σ x1 x2 j.toNatClampNeg v.toInt8.toInt32) H' _ ls hk (sm_rowset (σ' := (sI σ x1 x2 j.toNatClampNeg v.toInt8.toInt32)) hH g1 g2 hi rfl (fun t' i' k' hne => ⟨sm_up3_ne hne, rfl, rfl⟩) (fun k' => hH.2.2.2.2.2.1 _ _ _) ?_ e1 e2 e3) (hL.same rfl) hS.tail.tail.tail (sm_locs hl (Nat.le_add_right _ _)) hc hs
  funext z
  unfold updV sm_av
  rw [g3]
  show (if z = _ then Value.int v.toInt8.toInt32 else .int (σ.1 x1 x2 z)) = .int (sm_up3 σ.1 x1 x2 j.toNatClampNeg v.toInt8.toInt32 x1 x2 z)
  rw [sm_up3_k]
  split <;> rfl
set_option maxHeartbeats 1000000 in
theorem sm_s_lst (cx : sm_Cx E X p s m args meth c mn) (K : sm_K E X w p l e R s m args below meth c mn C r c0 s0 Q n) (hd : decode (sm_bc mn) pc = .ok (.lastore, 1)) (hok : sm_okA mn .lastore a pc = true)
    (h : sm_I (sm_ZZ X) w C .lastore a pc (sm_run (sm_ZZ X) sm_PP w C mn n (pc + 1)) (sm_run (sm_ZZ X) sm_PP w C mn n) hx L S σ = some r) (hH : sm_HR E w σ H) (hL : sm_LR E σ (sm_nl mn) L ls) (hS : sm_SR σ S) (hl : ∀ q ∈ locs, E.1 ≤ q.base) (hc : c0 ≤ sm_cells σ) (hs : s0 ≤ sm_slots σ) :
    W p l e R s m args below meth c H locs (sm_cells σ - c0) (sm_slots σ - s0) Q (F0 m pc ls (sm_st E σ S)) := by
  obtain ⟨hex, hb, hml, hown, hts, hEF, -⟩ := cx
  obtain ⟨t, k, kd, a4⟩ := a
  rcases sm_aL_s S with q | ⟨v, j, x, S, rfl⟩
  · exact absurd h (by rw [show sm_I (sm_ZZ X) w C .lastore (t, k, kd, a4) pc _ _ hx L S σ = none from q _]; exact fun z => by cases z)
  obtain ⟨x1, x2⟩ := x
  have hxo : sm_okp (sm_cnt σ) (x1, x2) := hS (vP (x1, x2)) (List.mem_cons_of_mem _ (List.mem_cons_of_mem _ List.mem_cons_self))
  have hok' : (decide (30 ≤ t) && (decide (t < 97) && (sm_ak t == (2, k) && !(k == 0)))) = true := hok
  simp only [Bool.and_eq_true, beq_iff_eq, decide_eq_true_eq, Bool.not_eq_true', beq_eq_false_iff_ne] at hok'
  obtain ⟨g1, g2, g3, g4⟩ := hok'
  obtain ⟨hz, hh⟩ := sm_rq_s (t := t) (k := fun i => sm_ix j k fun z => sm_run (sm_ZZ X) sm_PP w C mn n (pc + 1) L S (sL σ t i z v)) h
  dsimp only at hz hh
  subst hz
  obtain ⟨hin, hk⟩ := sm_ix_s hh
  have hi := sm_okp_big (by omega) hxo
  obtain ⟨-, hrow⟩ := hH.row g1 hi
  have harr := (hEF.2.1 x1 g1 g2).1 (sm_al σ x1 x2) (sm_av E σ x1 x2)
  rw [sm_at2 g3] at harr
  show W p l e R s m args below meth c H locs _ _ Q (F0 m pc ls (.long v :: .int j :: va_rf (sm_rp E (sm_ad σ) (x1, x2)) :: sm_st E σ S))
  rw [sm_rp_big (by omega)]
  refine W.last hex hb hrow harr (fun q => by cases q) (by rw [arrV_size, sm_al_n g3 g4]; exact hin) rfl rfl hd fun H' e1 e2 e3 => ?_
  refine K (pc + 1) L S (sL σ x1 x2 j.toNatClampNeg v) H' _ ls hk (sm_rowset (σ' := (sL σ x1 x2 j.toNatClampNeg v)) hH g1 g2 hi rfl (fun t' i' k' hne => ⟨rfl, sm_up3_ne hne, rfl⟩) (fun k' => hH.2.2.2.2.2.1 _ _ _) ?_ e1 e2 e3) (hL.same rfl) hS.tail.tail.tail (sm_locs hl (Nat.le_add_right _ _)) hc hs
  funext z
  unfold updV sm_av
  rw [g3]
  show (if z = _ then Value.long v else .long (σ.2.1 x1 x2 z)) = .long (sm_up3 σ.2.1 x1 x2 j.toNatClampNeg v x1 x2 z)
  rw [sm_up3_k]
  split <;> rfl
set_option maxHeartbeats 1000000 in
theorem sm_s_ast (cx : sm_Cx E X p s m args meth c mn) (K : sm_K E X w p l e R s m args below meth c mn C r c0 s0 Q n) (hd : decode (sm_bc mn) pc = .ok (.aastore, 1)) (hok : sm_okA mn .aastore a pc = true)
    (h : sm_I (sm_ZZ X) w C .aastore a pc (sm_run (sm_ZZ X) sm_PP w C mn n (pc + 1)) (sm_run (sm_ZZ X) sm_PP w C mn n) hx L S σ = some r) (hH : sm_HR E w σ H) (hL : sm_LR E σ (sm_nl mn) L ls) (hS : sm_SR σ S) (hl : ∀ q ∈ locs, E.1 ≤ q.base) (hc : c0 ≤ sm_cells σ) (hs : s0 ≤ sm_slots σ) :
    W p l e R s m args below meth c H locs (sm_cells σ - c0) (sm_slots σ - s0) Q (F0 m pc ls (sm_st E σ S)) := by
  obtain ⟨hex, hb, hml, hown, hts, hEF, -⟩ := cx
  obtain ⟨t, k, et, a4⟩ := a
  rcases sm_aR_s S with q | ⟨v, j, x, S, rfl⟩
  · exact absurd h (by rw [show sm_I (sm_ZZ X) w C .aastore (t, k, et, a4) pc _ _ hx L S σ = none from q _]; exact fun z => by cases z)
  obtain ⟨x1, x2⟩ := x
  have hvo : sm_okp (sm_cnt σ) v := hS (vP v) List.mem_cons_self
  have hxo : sm_okp (sm_cnt σ) (x1, x2) := hS (vP (x1, x2)) (List.mem_cons_of_mem _ (List.mem_cons_of_mem _ List.mem_cons_self))
  have hok' : (decide (30 ≤ t) && (decide (t < 97) && (sm_ak t == (3, k) && (decide (10 ≤ et) && (decide (et < 24) && sm_cR et == sm_ae t))))) = true := hok
  simp only [Bool.and_eq_true, beq_iff_eq, decide_eq_true_eq] at hok'
  obtain ⟨g1, g2, g3, g4, g5, g6⟩ := hok'
  obtain ⟨hz, hh⟩ := sm_rq_s (t := t) (k := fun i => sm_ix j (bif k == 0 then σ.2.2.2.1 t i else k) fun z => if v.1 = 0 ∨ v.1 = et then sm_run (sm_ZZ X) sm_PP w C mn n (pc + 1) L S (sR σ t i z v) else none) h
  dsimp only at hz hh
  subst hz
  rw [← sm_al_b (σ := σ) (i := x2) g3] at hh
  obtain ⟨hin, hk⟩ := sm_ix_s hh
  have hi := sm_okp_big (by omega) hxo
  obtain ⟨-, hrow⟩ := hH.row g1 hi
  obtain ⟨harr, hra⟩ := hEF.2.1 x1 g1 g2
  have harr := harr (sm_al σ x1 x2) (sm_av E σ x1 x2)
  rw [sm_at3 g3] at harr hra
  by_cases hv0 : v.1 = 0 ∨ v.1 = et
  · rw [if_pos hv0] at hk
    have fin : ∀ H' : Heap, H'[E.1 + sm_ad σ x1 x2]? = some ((arrV (E.2.2.2.2.2.2.2.1 x1) (sm_al σ x1 x2) (sm_av E σ x1 x2)).setSlot j.toNatClampNeg (va_rf (sm_rp E (sm_ad σ) v))) → H'.size = H.size → (∀ q, q ≠ E.1 + sm_ad σ x1 x2 → H'[q]? = H[q]?) → W p l e R s m args below meth c H' (locs ++ [⟨E.1 + sm_ad σ x1 x2, j.toNatClampNeg⟩]) (sm_cells σ - c0) (sm_slots σ - s0) Q (F0 m (pc + 1) ls (sm_st E σ S)) := by
      intro H' e1 e2 e3
      refine K (pc + 1) L S (sR σ x1 x2 j.toNatClampNeg v) H' _ ls hk (sm_rowset (σ' := (sR σ x1 x2 j.toNatClampNeg v)) hH g1 g2 hi rfl (fun t' i' k' hne => ⟨rfl, rfl, sm_up3_ne hne⟩) (fun k' => ?_) ?_ e1 e2 e3) (hL.same rfl) hS.tail.tail.tail (sm_locs hl (Nat.le_add_right _ _)) hc hs
      · show sm_okp _ (sm_up3 σ.2.2.1 x1 x2 j.toNatClampNeg v x1 x2 k')
        rw [sm_up3_k]
        split
        · exact hvo
        · exact hH.2.2.2.2.2.1 _ _ _
      · funext z
        unfold updV sm_av
        rw [g3]
        show (if z = _ then va_rf (sm_rp E (sm_ad σ) v) else va_rf (sm_rp E (sm_ad σ) (σ.2.2.1 x1 x2 z))) = va_rf (sm_rp E (sm_ad σ) (sm_up3 σ.2.2.1 x1 x2 j.toNatClampNeg v x1 x2 z))
        rw [sm_up3_k]
        split <;> rfl
    show W p l e R s m args below meth c H locs _ _ Q (F0 m pc ls (va_rf (sm_rp E (sm_ad σ) v) :: .int j :: va_rf (sm_rp E (sm_ad σ) (x1, x2)) :: sm_st E σ S))
    rw [sm_rp_big (t := x1) (by omega)]
    by_cases hv1 : v.1 = 0
    · rw [sm_rp_none.mpr hv1] at fin ⊢
      exact va_WaastN hex hb hrow harr (fun q => by cases q) (by rw [arrV_size]; exact hin) rfl rfl hd fin
    · have hve : v.1 = et := hv0.resolve_left hv1
      obtain ⟨v1, v2⟩ := v
      dsimp only at hve
      subst hve
      have hvi := sm_okp_big g4 hvo
      obtain ⟨cellV, q1, q2, q3, q4⟩ := hH.obj g4 g5 hvi
      obtain ⟨hSl, hcls⟩ := hEF.1 v1 g4 g5
      obtain ⟨kA, comp, k1, k2, k3, -⟩ := hra
      rw [← g6] at k3
      have hcomp : comp = E.2.2.2.2.2.2.1.1 (v1 - 10) := Option.some.inj (k3.symm.trans hcls.1)
      subst hcomp
      obtain ⟨kC, hkC, -⟩ := hcls.2
      rw [sm_rp_big g4] at fin ⊢
      exact W.aast hex hb hrow (fun q h => by cases h) (fun h => by cases h) k1 k2 rfl hkC ⟨fun q => hin (Or.inl q), by rw [arrV_size]; exact Nat.not_le.mp fun q => hin (Or.inr q)⟩ q1 (fun q h => by rw [q3] at h; cases h) (by rw [q2]; exact hkC) (by rw [q2]; exact va_assign hcls) rfl rfl hd fin
  · rw [if_neg hv0] at hk; cases hk
end
end
section
section
variable {E : sm_G} {X : Nat × (Nat → Int32)} {w : Bool} {p : Program} {l : Launch} {e : Env} {R : Room} {s : State} {m : MethodId} {args : Array Value} {below : List Frame} {meth : Method} {c : Code} {mn : Nat} {C : sm_C} {r : sm_O × sm_S} {c0 s0 : Nat} {Q : State → Prop} {n : Nat}
variable {len : Nat} {a : Nat × Nat × Nat × Nat} {pc : Nat} {L S : List sm_V} {σ σ' : sm_S} {hx : sm_S → sm_R} {H H' : Heap} {locs : List Loc} {ls : Array Slot}
theorem sm_inst : sm_kl.all (fun q => bif q.2.2.1 == 24 then true else decide (q.2.2.1 < 24) && decide (Cond.instantiable (sm_cR q.2.2.1) (sm_fk q.2.2.1).length ∈ lw_tbl) && decide (Cond.initialized (sm_cR q.2.2.1) ∈ lw_tbl)) = true := by decide +kernel
theorem sm_inst24 : Cond.instantiable "java/lang/IllegalStateException" 6 ∈ lw_tbl ∧ Cond.initialized "java/lang/IllegalStateException" ∈ lw_tbl := by decide +kernel
theorem sm_arrc : Cond.arrayClass .int ∈ lw_tbl ∧ Cond.arrayClass .byte ∈ lw_tbl ∧ Cond.arrayClass .long ∈ lw_tbl := by decide +kernel
theorem sm_good_in {u : Cond} (h : u ∈ lw_tbl) (hg : goodWord u = true) : u ∈ sm_wd := List.mem_filter.mpr ⟨h, hg⟩
/-- the first state of a field is its type's default -/
theorem sm_fv_new (hH : sm_HR E w σ H) {t n m : Nat} (h10 : 10 ≤ t) (h24 : t < 24) (hw : w = true → t = 16 ∨ t = 18 ∨ t = 19) : ∀ k, k < (sm_fk t).length → defaultValue (sm_cty t k) = sm_fv E w (sN σ t n m) t (sm_cnt σ t) k := by
  intro k hk
  obtain ⟨z1, z2, z3⟩ := hH.2.2.2.2.1 t (sm_cnt σ t) k (Nat.le_refl _)
  have hty := sm_ctyk t h10 h24 k hk
  have hkd : (sm_fk t)[k]? = some ((sm_fk t).getD k 0) := by simp [List.getD, hk]
  unfold sm_fv
  generalize (sm_fk t).getD k 0 = kd at hty hkd ⊢
  have g1 : (sN σ t n m).1 t (sm_cnt σ t) k = 0 := z1
  have g2 : (sN σ t n m).2.1 t (sm_cnt σ t) k = 0 := z2
  have g3 : (sN σ t n m).2.2.1 t (sm_cnt σ t) k = (0, 0) := z3
  have null : ∀ (ty : FieldType), sm_tyk ty kd = true → (kd = 2 ∨ 10 ≤ kd) → defaultValue ty = .null := by
    intro ty h1 h2
    cases ty <;> simp [sm_tyk] at h1 <;> first | omega | rfl
  match kd, hty, hkd, null with
  | 0, hty, _, _ => rw [sm_tyk_I hty]; show Value.int 0 = .int ((sN σ t n m).1 t (sm_cnt σ t) k); rw [g1]
  | 1, hty, _, _ => rw [sm_tyk_J hty]; show Value.long 0 = .long ((sN σ t n m).2.1 t (sm_cnt σ t) k); rw [g2]
  | 3, hty, _, _ => rw [sm_tyk_Z hty]; show Value.int 0 = .int ((sN σ t n m).1 t (sm_cnt σ t) k); rw [g1]
  | 2, hty, _, null =>
    rw [null _ hty (Or.inl rfl)]
    show Value.null = va_rf (sm_rp E (sm_ad (sN σ t n m)) ((sN σ t n m).2.2.1 t (sm_cnt σ t) k))
    rw [g3]; rfl
  | kd + 10, hty, hkd, null =>
    rw [null _ hty (Or.inr (by omega))]
    cases w with
    | false =>
      show Value.null = va_rf (sm_rp E (sm_ad (sN σ t n m)) ((sN σ t n m).2.2.1 t (sm_cnt σ t) k))
      rw [g3]; rfl
    | true =>
      exfalso
      have hm := List.mem_of_getElem? hkd
      rcases hw rfl with rfl | rfl | rfl
      · have : ∀ kd ∈ sm_fk 16, kd < 10 := by decide +kernel
        have := this _ hm; omega
      · have : ∀ kd ∈ sm_fk 18, kd < 10 := by decide +kernel
        have := this _ hm; omega
      · have : ∀ kd ∈ sm_fk 19, kd < 10 := by decide +kernel
        have := this _ hm; omega
  | 4, hty, _, _ => exact (sm_tyk_no hty (by omega) (by omega)).elim
  | 5, hty, _, _ => exact (sm_tyk_no hty (by omega) (by omega)).elim
  | 6, hty, _, _ => exact (sm_tyk_no hty (by omega) (by omega)).elim
  | 7, hty, _, _ => exact (sm_tyk_no hty (by omega) (by omega)).elim
  | 8, hty, _, _ => exact (sm_tyk_no hty (by omega) (by omega)).elim
  | 9, hty, _, _ => exact (sm_tyk_no hty (by omega) (by omega)).elim
theorem sm_ad_new {t n m : Nat} : sm_ad (sN σ t n m) t (sm_cnt σ t) = sm_cells σ := by
  show sm_up2 σ.2.2.2.2.2.1 t (sm_cnt σ t) (sm_cells σ) t (sm_cnt σ t) = _
  simp [sm_up2]
/-- behind a new cell -/
theorem sm_after_new (K : sm_K E X w p l e R s m args below meth c mn C r c0 s0 Q n) {t k z len : Nat} (ht : 10 ≤ t) (h97 : t < 97) (hw : w = true → t < 24 → t = 16 ∨ t = 18 ∨ t = 19) (hH : sm_HR E w σ H) (hL : sm_LR E σ (sm_nl mn) L ls) (hS : sm_SR σ S) (hl : ∀ q ∈ locs, E.1 ≤ q.base) (hc : c0 ≤ sm_cells σ) (hs : s0 ≤ sm_slots σ)
    (h : sm_run (sm_ZZ X) sm_PP w C mn n (pc + len) L (vP (t, sm_cnt σ t) :: S) (sN σ t k z) = some r) (e2 : H'.size = H.size + 1) (e3 : ∀ q, q < H.size → H'[q]? = H[q]?) (hcell : sm_cell E w (sN σ t k z) H' t (sm_cnt σ t)) :
    W p l e R s m args below meth c H' locs (sm_cells σ - c0 + 1) (sm_slots σ - s0 + k) Q (F0 m (pc + len) ls (.ref H.size :: sm_st E σ S)) := by
  obtain ⟨hH', cm, am⟩ := hH.new ht h97 hw e2 e3 hcell
  have g := K _ _ _ _ _ _ _ h hH' (hL.mono cm am) ((hS.mono cm).cons (v := vP (t, sm_cnt σ t)) (Or.inr (Or.inr (Or.inr (Or.inr (Or.inr ⟨ht, ?_⟩)))))) hl (Nat.le_succ_of_le hc) (Nat.le_trans hs (Nat.le_add_right _ _))
  · have ec : sm_cells (sN σ t k z) - c0 = sm_cells σ - c0 + 1 := by show sm_cells σ + 1 - c0 = _; omega
    have es : sm_slots (sN σ t k z) - s0 = sm_slots σ - s0 + k := by show sm_slots σ + k - s0 = _; omega
    rw [ec, es] at g
    have est : sm_st E (sN σ t k z) (vP (t, sm_cnt σ t) :: S) = .ref H.size :: sm_st E σ S := by
      show va_rf (sm_rp E (sm_ad (sN σ t k z)) (t, sm_cnt σ t)) :: sm_st E (sN σ t k z) S = _
      rw [sm_rp_big ht, sm_ad_new, sm_st_eq am hS, hH.1]
      rfl
    rw [est] at g
    exact g
  · show sm_cnt σ t < sm_up1 σ.2.2.2.2.1 t (sm_cnt σ t + 1) t
    simp [sm_up1]
set_option maxHeartbeats 1000000 in
theorem sm_s_new (cx : sm_Cx E X p s m args meth c mn) (K : sm_K E X w p l e R s m args below meth c mn C r c0 s0 Q n) (hC : ∀ m a s o t, C m a s = some (o, t) → sm_mo s t) (hr : sm_cells r.2 ≤ c0 + R.cells ∧ sm_slots r.2 ≤ s0 + R.slots) {i : Nat} (hd : decode (sm_bc mn) pc = .ok (.new i, 3)) (hok : sm_okA mn (.new i) a pc = true)
    (h : sm_I (sm_ZZ X) w C (.new i) a pc (sm_run (sm_ZZ X) sm_PP w C mn n (pc + 3)) (sm_run (sm_ZZ X) sm_PP w C mn n) hx L S σ = some r) (hH : sm_HR E w σ H) (hL : sm_LR E σ (sm_nl mn) L ls) (hS : sm_SR σ S) (hl : ∀ q ∈ locs, E.1 ≤ q.base) (hc : c0 ≤ sm_cells σ) (hs : s0 ≤ sm_slots σ) :
    W p l e R s m args below meth c H locs (sm_cells σ - c0) (sm_slots σ - s0) Q (F0 m pc ls (sm_st E σ S)) := by
  obtain ⟨hex, hb, hml, hown, hts, hEF, -⟩ := cx
  obtain ⟨t, k, a3, a4⟩ := a
  have h : (bif w && !(t == 16 || t == 18 || t == 19) then none else sm_run (sm_ZZ X) sm_PP w C mn n (pc + 3) L (vP (t, sm_cnt σ t) :: S) (sN σ t k 0)) = some r := h
  have hw : w = true → t = 16 ∨ t = 18 ∨ t = 19 := by
    intro hw
    rw [hw] at h
    cases hq : (t == 16 || t == 18 || t == 19) with
    | false => rw [hq] at h; cases h
    | true =>
      simp only [Bool.or_eq_true, beq_iff_eq] at hq
      rcases hq with (q | q) | q
      · exact Or.inl q
      · exact Or.inr (Or.inl q)
      · exact Or.inr (Or.inr q)
  have h : sm_run (sm_ZZ X) sm_PP w C mn n (pc + 3) L (vP (t, sm_cnt σ t) :: S) (sN σ t k 0) = some r := by
    cases hq : (w && !(t == 16 || t == 18 || t == 19)) with
    | false => rw [hq] at h; exact h
    | true => rw [hq] at h; cases h
  have hok' : (sm_has4 sm_kl (sm_ow mn) i t && ((t == 24 && k == 6) || (decide (10 ≤ t) && (decide (t < 24) && (sm_fk t).length == k)))) = true := hok
  simp only [Bool.or_eq_true, Bool.and_eq_true, beq_iff_eq, decide_eq_true_eq] at hok'
  obtain ⟨hk, g⟩ := hok'
  have hmo := (sm_run_mo hC n h).1
  have hcl : sm_cells σ - c0 + 1 ≤ R.cells := by have : sm_cells σ + 1 ≤ sm_cells r.2 := hmo.1; omega
  have hsl : sm_slots σ - s0 + k ≤ R.slots := by have : sm_slots σ + k ≤ sm_slots r.2 := hmo.2; omega
  have hlink := hts _ (sm_kl_w hk)
  rcases g with ⟨rfl, rfl⟩ | ⟨h10, h24, rfl⟩
  · have hf := hEF.2.2.2.2.2.2.2.2.2.2.2.1
    refine W.newcK hex hb hown hlink (hts _ (sm_good_in sm_inst24.1 rfl)) (hts _ (sm_good_in sm_inst24.2 rfl)) rfl hd hcl hsl hf rfl fun H' kC hkC e1 e2 e3 => ?_
    exact sm_after_new K (by omega) (by omega) (fun a b => by omega) hH hL hS hl hc hs h e2 e3 (Or.inr (Or.inl ⟨rfl, _, by rw [sm_ad_new, ← hH.1]; exact e1, rfl, rfl⟩))
  · have hne : (t == 24) = false := sm_bne (by omega)
    rw [hne] at hlink
    obtain ⟨q, hq, e1, e2, e3⟩ := sm_has4_s hk
    have hi := List.all_eq_true.mp sm_inst q hq
    rw [e3, hne] at hi
    simp only [cond_false, Bool.and_eq_true, decide_eq_true_eq] at hi
    have hKn := hEF.1 t h10 h24
    refine W.newcK hex hb hown hlink (hts _ (sm_good_in hi.1.2 rfl)) (hts _ (sm_good_in hi.2 rfl)) rfl hd hcl hsl hKn.2.1 rfl fun H' kC hkC e1 e2 e3 => ?_
    refine sm_after_new K h10 (by omega) (fun a _ => hw a) hH hL hS hl hc hs h e2 e3 (Or.inl ⟨h24, ?_⟩)
    rw [sm_ad_new, ← hH.1]
    exact (u_born (sm_cty t) hts (sm_uw t h10 h24) hKn hkC e1 (sm_cty_ok t h10 h24)).to (sm_fv_new hH h10 h24 hw)
/-- a new row -/
theorem sm_row_new (hH : sm_HR E w σ H) {t N : Nat} (h30 : 30 ≤ t) (h97 : t < 97) (hN : (sm_ak t).2 = 0 ∨ N = (sm_ak t).2) {f : Nat → Value} (hf : ∀ j, f j = (match (sm_ak t).1 with
    | 0 => .int 0
    | 1 => .int 0
    | 2 => .long 0
    | _ => .null)) (e1 : H'[H.size]? = some (arrV (E.2.2.2.2.2.2.2.1 t) N f)) : sm_cell E w (sN σ t N N) H' t (sm_cnt σ t) := by
  refine Or.inr (Or.inr ⟨h30, h97, ?_⟩)
  rw [sm_ad_new, ← hH.1, e1]
  have hal : sm_al (sN σ t N N) t (sm_cnt σ t) = N := by
    unfold sm_al
    show (bif (sm_ak t).2 == 0 then sm_up2 σ.2.2.2.1 t (sm_cnt σ t) N t (sm_cnt σ t) else (sm_ak t).2) = N
    by_cases hz : (sm_ak t).2 = 0
    · rw [hz]; simp [sm_up2]
    · rw [sm_bne hz]; exact (hN.resolve_left hz).symm
  rw [hal]
  have hv : f = sm_av E (sN σ t N N) t (sm_cnt σ t) := by
    funext j
    obtain ⟨z1, z2, z3⟩ := hH.2.2.2.2.1 t (sm_cnt σ t) j (Nat.le_refl _)
    rw [hf j]
    unfold sm_av
    rw [show (sN σ t N N).1 t (sm_cnt σ t) j = 0 from z1, show (sN σ t N N).2.1 t (sm_cnt σ t) j = 0 from z2, show (sN σ t N N).2.2.1 t (sm_cnt σ t) j = (0, 0) from z3]
    generalize (sm_ak t).1 = kk
    rcases kk with _ | _ | _ | kk <;> rfl
  rw [hv]
set_option maxHeartbeats 1000000 in
theorem sm_s_newa (cx : sm_Cx E X p s m args meth c mn) (K : sm_K E X w p l e R s m args below meth c mn C r c0 s0 Q n) (hC : ∀ m a s o t, C m a s = some (o, t) → sm_mo s t) (hr : sm_cells r.2 ≤ c0 + R.cells ∧ sm_slots r.2 ≤ s0 + R.slots) {ty : ArrayType} (hd : decode (sm_bc mn) pc = .ok (.newarray ty, 2)) (hok : sm_okA mn (.newarray ty) a pc = true)
    (h : sm_I (sm_ZZ X) w C (.newarray ty) a pc (sm_run (sm_ZZ X) sm_PP w C mn n (pc + 2)) (sm_run (sm_ZZ X) sm_PP w C mn n) hx L S σ = some r) (hH : sm_HR E w σ H) (hL : sm_LR E σ (sm_nl mn) L ls) (hS : sm_SR σ S) (hl : ∀ q ∈ locs, E.1 ≤ q.base) (hc : c0 ≤ sm_cells σ) (hs : s0 ≤ sm_slots σ) :
    W p l e R s m args below meth c H locs (sm_cells σ - c0) (sm_slots σ - s0) Q (F0 m pc ls (sm_st E σ S)) := by
  obtain ⟨hex, hb, hml, hown, hts, hEF, -⟩ := cx
  obtain ⟨t, k, a3, a4⟩ := a
  rcases sm_p1_s S with q | ⟨x, S, rfl⟩
  · exact absurd h (by rw [show sm_I (sm_ZZ X) w C (.newarray ty) (t, k, a3, a4) pc _ _ hx L S σ = none from q _]; exact fun z => by cases z)
  have h : (if x < 0 ∨ 100000 < x.toNatClampNeg ∨ ¬ (k = 0 ∨ x.toNatClampNeg = k) then none else sm_run (sm_ZZ X) sm_PP w C mn n (pc + 2) L (vP (t, sm_cnt σ t) :: S) (sN σ t x.toNatClampNeg x.toNatClampNeg)) = some r := h
  by_cases hz : x < 0 ∨ 100000 < x.toNatClampNeg ∨ ¬ (k = 0 ∨ x.toNatClampNeg = k)
  · rw [if_pos hz] at h; cases h
  rw [if_neg hz] at h
  have hok' : (decide (30 ≤ t) && (decide (t < 97) && ((sm_ak t).2 == k && ((decide (ty = .int) && (sm_ak t).1 == 0) || ((decide (ty = .byte) && (sm_ak t).1 == 1) || (decide (ty = .long) && (sm_ak t).1 == 2)))))) = true := hok
  simp only [Bool.or_eq_true, Bool.and_eq_true, beq_iff_eq, decide_eq_true_eq] at hok'
  obtain ⟨h30, h97, hk, hty⟩ := hok'
  have hN : (sm_ak t).2 = 0 ∨ x.toNatClampNeg = (sm_ak t).2 := by
    rw [hk]
    by_cases q : k = 0 ∨ x.toNatClampNeg = k
    · exact q
    · exact absurd (Or.inr (Or.inr q)) hz
  have hx0 : ¬ x < 0 := fun q => hz (Or.inl q)
  have hbig : x.toNatClampNeg ≤ 100000 := Nat.not_lt.mp fun q => hz (Or.inr (Or.inl q))
  have hmo := (sm_run_mo hC n h).1
  have hcl : sm_cells σ - c0 + 1 ≤ R.cells := by have : sm_cells σ + 1 ≤ sm_cells r.2 := hmo.1; omega
  have hsl : sm_slots σ - s0 + x.toNatClampNeg ≤ R.slots := by have : sm_slots σ + x.toNatClampNeg ≤ sm_slots r.2 := hmo.2; omega
  obtain ⟨-, hra⟩ := hEF.2.1 t h30 h97
  have fin : ∀ (ft : FieldType), newarray.typeOf ty = ft → sm_at_ t = ft → (∀ C', ft ≠ .object C') → Cond.arrayClass ft ∈ sm_wd → x.toNatClampNeg * componentBytes ft ≤ 536870912 → (defaultValue ft = (match (sm_ak t).1 with
    | 0 => .int 0
    | 1 => .int 0
    | 2 => .long 0
    | _ => .null)) → W p l e R s m args below meth c H locs (sm_cells σ - c0) (sm_slots σ - s0) Q (F0 m pc ls (sm_st E σ (vI x :: S))) := by
    intro ft e1 e2 e3 e4 e5 e6
    subst e1
    refine va_newaK hex hb (hts _ e4) rfl hd rfl hx0 rfl e5 hcl hsl rfl fun H' cA q1 q2 q3 q4 q5 => ?_
    have hcA : cA = E.2.2.2.2.2.2.2.1 t := by
      rw [e2] at hra
      cases hft : newarray.typeOf ty with
      | object C' => exact absurd hft (e3 C')
      | _ => rw [hft] at hra q5; exact Option.some.inj (q5.symm.trans hra)
    subst hcA
    exact sm_after_new K (by omega) h97 (fun _ b => by omega) hH hL hS.tail hl hc hs h q2 q3 (sm_row_new hH h30 h97 hN (fun _ => e6) q1)
  rcases hty with ⟨rfl, h0⟩ | ⟨rfl, h0⟩ | ⟨rfl, h0⟩
  · exact fin .int rfl (sm_at0 (n := (sm_ak t).2) (by rw [← h0])) (fun _ q => by cases q) (sm_good_in sm_arrc.1 rfl) (by show x.toNatClampNeg * 4 ≤ _; omega) (by rw [h0]; rfl)
  · exact fin .byte rfl (sm_at1 (n := (sm_ak t).2) (by rw [← h0])) (fun _ q => by cases q) (sm_good_in sm_arrc.2.1 rfl) (by show x.toNatClampNeg * 1 ≤ _; omega) (by rw [h0]; rfl)
  · exact fin .long rfl (sm_at2 (n := (sm_ak t).2) (by rw [← h0])) (fun _ q => by cases q) (sm_good_in sm_arrc.2.2 rfl) (by show x.toNatClampNeg * 8 ≤ _; omega) (by rw [h0]; rfl)
set_option maxHeartbeats 1000000 in
theorem sm_s_anew (cx : sm_Cx E X p s m args meth c mn) (K : sm_K E X w p l e R s m args below meth c mn C r c0 s0 Q n) (hC : ∀ m a s o t, C m a s = some (o, t) → sm_mo s t) (hr : sm_cells r.2 ≤ c0 + R.cells ∧ sm_slots r.2 ≤ s0 + R.slots) {i : Nat} (hd : decode (sm_bc mn) pc = .ok (.anewarray i, 3)) (hok : sm_okA mn (.anewarray i) a pc = true)
    (h : sm_I (sm_ZZ X) w C (.anewarray i) a pc (sm_run (sm_ZZ X) sm_PP w C mn n (pc + 3)) (sm_run (sm_ZZ X) sm_PP w C mn n) hx L S σ = some r) (hH : sm_HR E w σ H) (hL : sm_LR E σ (sm_nl mn) L ls) (hS : sm_SR σ S) (hl : ∀ q ∈ locs, E.1 ≤ q.base) (hc : c0 ≤ sm_cells σ) (hs : s0 ≤ sm_slots σ) :
    W p l e R s m args below meth c H locs (sm_cells σ - c0) (sm_slots σ - s0) Q (F0 m pc ls (sm_st E σ S)) := by
  obtain ⟨hex, hb, hml, hown, hts, hEF, -⟩ := cx
  obtain ⟨t, k, a3, a4⟩ := a
  rcases sm_p1_s S with q | ⟨x, S, rfl⟩
  · exact absurd h (by rw [show sm_I (sm_ZZ X) w C (.anewarray i) (t, k, a3, a4) pc _ _ hx L S σ = none from q _]; exact fun z => by cases z)
  have h : (if x < 0 ∨ 100000 < x.toNatClampNeg ∨ ¬ (k = 0 ∨ x.toNatClampNeg = k) then none else sm_run (sm_ZZ X) sm_PP w C mn n (pc + 3) L (vP (t, sm_cnt σ t) :: S) (sN σ t x.toNatClampNeg x.toNatClampNeg)) = some r := h
  by_cases hz : x < 0 ∨ 100000 < x.toNatClampNeg ∨ ¬ (k = 0 ∨ x.toNatClampNeg = k)
  · rw [if_pos hz] at h; cases h
  rw [if_neg hz] at h
  have hok' : (decide (30 ≤ t) && (decide (t < 97) && ((sm_ak t) == (3, k) && sm_kl.any (fun q => q.1 == sm_ow mn && (q.2.1 == i && (decide (10 ≤ q.2.2.1) && (decide (q.2.2.1 < 24) && sm_cR q.2.2.1 == sm_ae t))))))) = true := hok
  simp only [Bool.and_eq_true, beq_iff_eq, decide_eq_true_eq] at hok'
  obtain ⟨h30, h97, hk, hany⟩ := hok'
  obtain ⟨q, hq, hq1⟩ := List.any_eq_true.mp hany
  simp only [Bool.and_eq_true, beq_iff_eq, decide_eq_true_eq] at hq1
  obtain ⟨e1, e2, e3, e4, e5⟩ := hq1
  have hw0 := sm_wrd (of_decide_eq_true (List.all_eq_true.mp sm_kl_in q hq)) (show goodWord (sm_klw q) = true from rfl)
  unfold sm_klw at hw0
  rw [e1, e2, sm_bne (show q.2.2.1 ≠ 24 by omega), cond_false, e5] at hw0
  have hN : (sm_ak t).2 = 0 ∨ x.toNatClampNeg = (sm_ak t).2 := by
    rw [hk]
    by_cases q : k = 0 ∨ x.toNatClampNeg = k
    · exact q
    · exact absurd (Or.inr (Or.inr q)) hz
  have hx0 : ¬ x < 0 := fun q => hz (Or.inl q)
  have hbig : x.toNatClampNeg ≤ 100000 := Nat.not_lt.mp fun q => hz (Or.inr (Or.inl q))
  have hmo := (sm_run_mo hC n h).1
  have hcl : sm_cells σ - c0 + 1 ≤ R.cells := by have : sm_cells σ + 1 ≤ sm_cells r.2 := hmo.1; omega
  have hsl : sm_slots σ - s0 + x.toNatClampNeg ≤ R.slots := by have : sm_slots σ + x.toNatClampNeg ≤ sm_slots r.2 := hmo.2; omega
  obtain ⟨-, hra⟩ := hEF.2.1 t h30 h97
  rw [sm_at3 hk] at hra
  obtain ⟨kA0, comp0, k1, k2, k3, k4⟩ := hra
  have hao : va_AO (sm_ae t) s := by
    have hh : ∀ u, u < 67 → (sm_ak (u + 30)).1 = 3 → sm_ae (u + 30) = "FreightYards$Vehicle" ∨ sm_ae (u + 30) = "FreightYards$Row" ∨ sm_ae (u + 30) = "FreightYards$Train" := by decide +kernel
    have := hh (t - 30) (by omega)
    rw [Nat.sub_add_cancel h30] at this
    rcases this (by rw [hk]) with z | z | z
    · rw [z]; exact hEF.2.2.2.2.2.2.2.2.2.1.1
    · rw [z]; exact hEF.2.2.2.2.2.2.2.2.2.1.2.1
    · rw [z]; exact hEF.2.2.2.2.2.2.2.2.2.1.2.2
  refine W.anew hex hb hown (hts _ hw0) (va_AO.use hao) rfl hd rfl hx0 (by omega) hcl hsl fun cA kA comp q1 q2 q3 q4 => ?_
  have hcA : cA = E.2.2.2.2.2.2.2.1 t := Option.some.inj (q1.symm.trans k4)
  subst hcA
  refine sm_after_new K (by omega) h97 (fun _ b => by omega) hH hL hS.tail hl hc hs h (by simp) (fun q hq => by rw [Array.getElem?_push, if_neg (Nat.ne_of_lt hq)]) (sm_row_new hH h30 h97 hN (f := fun _ => .null) (fun _ => by rw [hk]; rfl) ?_)
  rw [← arrV_new]; simp
end
end
section
section
variable {E : sm_G} {X : Nat × (Nat → Int32)} {w : Bool} {p : Program} {l : Launch} {e : Env} {R : Room} {s : State} {m : MethodId} {args : Array Value} {below : List Frame} {meth : Method} {c : Code} {mn : Nat} {C : sm_C} {r : sm_O × sm_S} {c0 s0 : Nat} {Q : State → Prop} {n pc : Nat} {a : Nat × Nat × Nat × Nat} {L S : List sm_V} {σ : sm_S} {hx : sm_S → sm_R} {H : Heap} {locs : List Loc} {ls : Array Slot}
/-- how a real method ends, by the small one's end -/
def sm_out (E : sm_G) (r : sm_O × sm_S) (o : Outcome) : Prop := match r.1 with
  | none => ∃ i, i < sm_cnt r.2 24 ∧ o = .threw (E.1 + sm_ad r.2 24 i)
  | some none => o = .returned none
  | some (some v) => o = .returned (some (sm_rv E (sm_ad r.2) v)) ∧ sm_okv (sm_cnt r.2) v
def sm_QE (E : sm_G) (w : Bool) (s : State) (below : List Frame) (r : sm_O × sm_S) (c0 s0 : Nat) : State → Prop := fun t =>
  ∃ o, t.status = .running ∧ Ended t below o ∧ (sm_out E r o ∧ sm_HR E w r.2 t.heap) ∧ ∃ L, sm_FE s t L (sm_cells r.2 - c0) (sm_slots r.2 - s0) ∧ ∀ q ∈ L, E.1 ≤ q.base
theorem sm_weak {Q Q' : State → Prop} {cells slots : Nat} {g : JFrame} (h : ∀ t, Q t → Q' t) (k : W p l e R s m args below meth c H locs cells slots Q g) : W p l e R s m args below meth c H locs cells slots Q' g := by
  intro T hT Y
  obtain ⟨t, x, y⟩ := k T hT Y
  exact ⟨t, x, h t y⟩
theorem sm_QE_of (t : State) (h : MQ below (fun _ _ o t => sm_out E r o ∧ sm_HR E w r.2 t.heap) args s (sm_cells r.2 - c0) (sm_slots r.2 - s0) (fun q => E.1 ≤ q) t) : sm_QE E w s below r c0 s0 t := by
  obtain ⟨o, x, y, z, L, f, g⟩ := h
  exact ⟨o, x, y, z, L, ⟨f.2.1, f.2.2⟩, g⟩
theorem sm_nar1 {x : Int32} (h : x = 0 ∨ x = 1) : narrow .boolean (.int x) = .int x := by
  rcases h with rfl | rfl <;> rfl
theorem sm_nar3 {x : Int32} (h : -128 ≤ x ∧ x ≤ 127) : narrow .byte (.int x) = .int x := by
  have h1 : (-128 : Int) ≤ x.toInt := Int32.le_iff_toInt_le.mp h.1
  have h2 : x.toInt ≤ 127 := Int32.le_iff_toInt_le.mp h.2
  show Value.int x.toInt8.toInt32 = .int x
  congr 1
  apply Int32.toInt_inj.mp
  rw [Int8.toInt_toInt32, Int32.toInt_toInt8]
  exact Int.bmod_eq_of_le (by omega) (by omega)
theorem sm_nar2 {x : Int32} (h : 0 ≤ x ∧ x ≤ 65535) : narrow .char (.int x) = .int x := by
  have h1 : (0 : Int) ≤ x.toInt := Int32.le_iff_toInt_le.mp h.1
  have h2 : x.toInt ≤ 65535 := Int32.le_iff_toInt_le.mp h.2
  show Value.int x.toUInt32.toUInt16.toUInt32.toInt32 = .int x
  congr 1
  have h3 : x.toUInt32.toNat < 65536 := by
    have e1 : x.toInt = (x.toUInt32.toNat : Int).bmod (2 ^ 32) := by
      show x.toBitVec.toInt = _
      rw [BitVec.toInt_eq_toNat_bmod]; rfl
    have e2 := x.toUInt32.toNat_lt
    rw [Int.bmod_def] at e1
    split at e1 <;> omega
  have h4 : x.toUInt32.toUInt16.toUInt32 = x.toUInt32 := by
    apply UInt32.toNat_inj.mp
    simp
    omega
  rw [h4]
  rfl
theorem sm_s_iret (cx : sm_Cx E X p s m args meth c mn) (hd : decode (sm_bc mn) pc = .ok (.ireturn, 1)) (hok : sm_okA mn .ireturn a pc = true)
    {nx : List sm_V → List sm_V → sm_S → sm_R} {jp : Nat → List sm_V → List sm_V → sm_S → sm_R} (h : sm_I (sm_ZZ X) w C .ireturn a pc nx jp hx L S σ = some r) (hH : sm_HR E w σ H) (hl : ∀ q ∈ locs, E.1 ≤ q.base) :
    W p l e R s m args below meth c H locs (sm_cells σ - c0) (sm_slots σ - s0) (sm_QE E w s below r c0 s0) (F0 m pc ls (sm_st E σ S)) := by
  obtain ⟨hex, hb, hml, hown, hts, hEF, hlk, hre, -⟩ := cx
  rcases S with _ | ⟨v, _ | ⟨u, S⟩⟩
  · have h : (none : sm_R) = some r := h
    cases h
  · rcases v with x | x | x | x
    · have h : sm_rt a.1 x σ = some r := h
      have hok : ((a.1 == 0 && decide (sm_re mn = some .int)) || ((a.1 == 1 && decide (sm_re mn = some .boolean)) || ((a.1 == 2 && decide (sm_re mn = some .char)) || (a.1 == 3 && decide (sm_re mn = some .byte))))) = true := hok
      simp only [Bool.or_eq_true, Bool.and_eq_true, beq_iff_eq, decide_eq_true_eq] at hok
      have fin : ∀ ty, sm_re mn = some ty → narrow ty (.int x) = .int x → r = (some (some (vI x)), σ) → W p l e R s m args below meth c H locs (sm_cells σ - c0) (sm_slots σ - s0) (sm_QE E w s below r c0 s0) (F0 m pc ls (sm_st E σ [vI x])) := by
        rintro ty h1 h2 rfl
        exact sm_weak sm_QE_of (W.zret (v := x) hex hb (hre.trans h1) h2 (fun t ht _ => ⟨⟨rfl, trivial⟩, by rw [ht]; exact hH⟩) hl hd hlk)
      rcases hok with ⟨e1, e2⟩ | ⟨e1, e2⟩ | ⟨e1, e2⟩ | ⟨e1, e2⟩ <;> rw [e1] at h
      · have h : some (some (some (vI x)), σ) = some r := h
        exact fin _ e2 rfl (Option.some.inj h).symm
      · have h : (if x = 0 ∨ x = 1 then some (some (some (vI x)), σ) else none) = some r := h
        by_cases hz : x = 0 ∨ x = 1
        · rw [if_pos hz] at h
          exact fin _ e2 (sm_nar1 hz) (Option.some.inj h).symm
        · rw [if_neg hz] at h; cases h
      · have h : (if 0 ≤ x ∧ x ≤ 65535 then some (some (some (vI x)), σ) else none) = some r := h
        by_cases hz : 0 ≤ x ∧ x ≤ 65535
        · rw [if_pos hz] at h
          exact fin _ e2 (sm_nar2 hz) (Option.some.inj h).symm
        · rw [if_neg hz] at h; cases h
      · have h : (if -128 ≤ x ∧ x ≤ 127 then some (some (some (vI x)), σ) else none) = some r := h
        by_cases hz : -128 ≤ x ∧ x ≤ 127
        · rw [if_pos hz] at h
          exact fin _ e2 (sm_nar3 hz) (Option.some.inj h).symm
        · rw [if_neg hz] at h; cases h
    all_goals (have h : (none : sm_R) = some r := h; cases h)
  · rcases v with x | x | x | x <;> (have h : (none : sm_R) = some r := h; cases h)
theorem sm_s_lret (cx : sm_Cx E X p s m args meth c mn) (hd : decode (sm_bc mn) pc = .ok (.lreturn, 1)) (hok : sm_okA mn .lreturn a pc = true)
    {nx : List sm_V → List sm_V → sm_S → sm_R} {jp : Nat → List sm_V → List sm_V → sm_S → sm_R} (h : sm_I (sm_ZZ X) w C .lreturn a pc nx jp hx L S σ = some r) (hH : sm_HR E w σ H) (hl : ∀ q ∈ locs, E.1 ≤ q.base) :
    W p l e R s m args below meth c H locs (sm_cells σ - c0) (sm_slots σ - s0) (sm_QE E w s below r c0 s0) (F0 m pc ls (sm_st E σ S)) := by
  obtain ⟨hex, hb, hml, hown, hts, hEF, hlk, hre, -⟩ := cx
  rcases S with _ | ⟨v, _ | ⟨u, S⟩⟩
  · have h : (none : sm_R) = some r := h
    cases h
  · rcases v with x | x | x | x
    · have h : (none : sm_R) = some r := h
      cases h
    · have h : some (some (some (vL x)), σ) = some r := h
      cases h
      exact sm_weak sm_QE_of (W.lret (v := x) hex hb (hre.trans (of_decide_eq_true hok)) (fun t ht _ => ⟨⟨rfl, trivial⟩, by rw [ht]; exact hH⟩) hl hd hlk)
    all_goals (have h : (none : sm_R) = some r := h; cases h)
  · rcases v with x | x | x | x <;> (have h : (none : sm_R) = some r := h; cases h)
theorem sm_s_aret (cx : sm_Cx E X p s m args meth c mn) (hd : decode (sm_bc mn) pc = .ok (.areturn, 1)) (hok : sm_okA mn .areturn a pc = true)
    {nx : List sm_V → List sm_V → sm_S → sm_R} {jp : Nat → List sm_V → List sm_V → sm_S → sm_R} (h : sm_I (sm_ZZ X) w C .areturn a pc nx jp hx L S σ = some r) (hH : sm_HR E w σ H) (hS : sm_SR σ S) (hl : ∀ q ∈ locs, E.1 ≤ q.base) :
    W p l e R s m args below meth c H locs (sm_cells σ - c0) (sm_slots σ - s0) (sm_QE E w s below r c0 s0) (F0 m pc ls (sm_st E σ S)) := by
  obtain ⟨hex, hb, hml, hown, hts, hEF, hlk, hre, -⟩ := cx
  rcases S with _ | ⟨v, _ | ⟨u, S⟩⟩
  · have h : (none : sm_R) = some r := h
    cases h
  · rcases v with x | x | x | x
    · have h : (none : sm_R) = some r := h
      cases h
    · have h : (none : sm_R) = some r := h
      cases h
    · have h : some (some (some (vP x)), σ) = some r := h
      cases h
      have hok : (match sm_re mn with
        | some (.object _) => true
        | _ => false) = true := hok
      have hv := hS (vP x) (List.mem_cons_self ..)
      split at hok
      · rename_i q hq
        refine sm_weak sm_QE_of (W.aret (v := va_rf (sm_rp E (sm_ad σ) x)) hex hb (hre.trans hq) (Or.inl ⟨_, rfl⟩) ?_ (fun t ht _ => ⟨⟨rfl, hv⟩, by rw [ht]; exact hH⟩) hl hd hlk)
        cases sm_rp E (sm_ad σ) x with
        | none => exact Or.inl rfl
        | some y => exact Or.inr ⟨y, rfl⟩
      · cases hok
    · have h : (none : sm_R) = some r := h
      cases h
  · rcases v with x | x | x | x <;> (have h : (none : sm_R) = some r := h; cases h)
theorem sm_s_vret (cx : sm_Cx E X p s m args meth c mn) (hd : decode (sm_bc mn) pc = .ok (.return_, 1)) (hok : sm_okA mn .return_ a pc = true)
    {nx : List sm_V → List sm_V → sm_S → sm_R} {jp : Nat → List sm_V → List sm_V → sm_S → sm_R} (h : sm_I (sm_ZZ X) w C .return_ a pc nx jp hx L S σ = some r) (hH : sm_HR E w σ H) (hl : ∀ q ∈ locs, E.1 ≤ q.base) :
    W p l e R s m args below meth c H locs (sm_cells σ - c0) (sm_slots σ - s0) (sm_QE E w s below r c0 s0) (F0 m pc ls (sm_st E σ S)) := by
  obtain ⟨hex, hb, hml, hown, hts, hEF, hlk, hre, -⟩ := cx
  rcases S with _ | ⟨v, S⟩
  · have h : some (some none, σ) = some r := h
    cases h
    exact sm_weak sm_QE_of (W.vret hex hb (hre.trans (of_decide_eq_true hok)) (fun t ht _ => ⟨rfl, by rw [ht]; exact hH⟩) hl hd hlk)
  · have h : (none : sm_R) = some r := h
    cases h
/-- Object's own <init> -/
theorem sm_cats (ho : E.2.2.2.2.2.1 = .null ∨ ∃ a, E.2.2.2.2.2.1 = .ref a) (ad : Nat → Nat → Nat) : ∀ S : List sm_V, ((S.map (sm_rv E ad)).map fun v => v.category).sum = sm_cat S
  | [] => rfl
  | v :: S => by
    have h := sm_cats ho ad S
    show (sm_rv E ad v).category + ((S.map (sm_rv E ad)).map fun v => v.category).sum = sm_cat1 v + sm_cat S
    rw [h]
    congr 1
    rcases v with x | x | x | x
    · rfl
    · rfl
    · exact sm_cat_rv (v := vP x) rfl ho ad
    · exact sm_cat_rv (v := vU) rfl ho ad
end
end
section
section
variable {E : sm_G} {X : Nat × (Nat → Int32)} {w : Bool} {p : Program} {l : Launch} {e : Env} {R : Room} {s : State} {m : MethodId} {args : Array Value} {below : List Frame} {meth : Method} {c : Code} {mn : Nat} {C : sm_C} {r : sm_O × sm_S} {c0 s0 : Nat} {Q : State → Prop} {n pc : Nat} {a : Nat × Nat × Nat × Nat} {L S : List sm_V} {σ : sm_S} {hx : sm_S → sm_R} {H : Heap} {locs : List Loc} {ls : Array Slot}
/-- a throw that leaves the method -/
theorem sm_thrown {T : State} {cells slots : Nat} (Y : Stand p l e R s m args below meth c T locs cells slots) (hlk : meth.locks = false) (hex0 : c.exceptionTable.toList = []) {g : JFrame} (hg : g.method = m) (h1 : g.locked = none) (h2 : g.entered = []) {i : Nat} {σ : sm_S} (hi : i < sm_cnt σ 24) (hH : sm_HR E w σ T.heap) (hl : ∀ q ∈ locs, E.1 ≤ q.base) (hc : cells = sm_cells σ - c0) (hs : slots = sm_slots σ - s0) :
    ∃ t, Steps p.tables e below ((T.setTop g).pushFrame (.throwing (E.1 + sm_ad σ 24 i))) t ∧ sm_QE E w s below (none, σ) c0 s0 t := by
  subst hc hs
  obtain ⟨st, hr, he, hw, hsm⟩ := Y.leaveThrown (E.1 + sm_ad σ 24 i) hg h1 h2 (by rw [hex0]; exact fun x hx => by cases hx) hlk
  exact ⟨_, st, .threw _, hr, he, ⟨⟨i, hi, rfl⟩, hH⟩, locs, ⟨hw, hsm⟩, hl⟩
theorem sm_s_athrow (cx : sm_Cx E X p s m args meth c mn) (hnl : mn ≠ sm_LOAD) (hd : decode (sm_bc mn) pc = .ok (.athrow, 1)) (hhx : hx σ = some (none, σ))
    {nx : List sm_V → List sm_V → sm_S → sm_R} {jp : Nat → List sm_V → List sm_V → sm_S → sm_R} (h : sm_I (sm_ZZ X) w C .athrow a pc nx jp hx L S σ = some r) (hH : sm_HR E w σ H) (hS : sm_SR σ S) (hl : ∀ q ∈ locs, E.1 ≤ q.base) :
    W p l e R s m args below meth c H locs (sm_cells σ - c0) (sm_slots σ - s0) (sm_QE E w s below r c0 s0) (F0 m pc ls (sm_st E σ S)) := by
  obtain ⟨hex, hb, hml, hown, hts, hEF, hlk, hre, -, hne, -⟩ := cx
  rcases sm_r1_s S with q | ⟨x, S, rfl⟩
  · exact absurd h (by rw [show sm_I (sm_ZZ X) w C .athrow a pc nx jp hx L S σ = none from q _]; exact fun z => by cases z)
  have h : sm_rq x 24 (fun _ => hx σ) = some r := h
  obtain ⟨h1, h2⟩ := sm_rq_s h
  rw [hhx] at h2
  cases h2
  obtain ⟨t, i⟩ := x
  have h1 : t = 24 := h1
  subst h1
  have hi := sm_okp_big (by decide) (hS (vP (24, i)) (List.mem_cons_self ..))
  intro T hT Y
  subst hT
  obtain ⟨st, hr, he, hw, hsm⟩ := Y.athrowLeaves hex (g := F0 m pc ls (sm_st E σ (vP (24, i) :: S))) rfl rfl rfl (by rw [hne hnl]; exact fun x hx => by cases hx) (a := E.1 + sm_ad σ 24 i) (rest := sm_st E σ S) (by show va_rf (sm_rp E (sm_ad σ) (24, i)) :: _ = _; rw [sm_rp_big (by decide)]; rfl) (by rw [hb]; exact hd) hlk
  exact ⟨_, st, .threw _, hr, he, ⟨⟨i, hi, rfl⟩, hH⟩, locs, ⟨hw, hsm⟩, hl⟩
/-- a handler's class is looked up at the first throw -/
theorem sm_find_cold {U : State} {f : JFrame} {x : ExceptionTableEntry} {tl : List ExceptionTableEntry} {cc : ClassId} {cell : Cell} {vm' : Vm} {b : Addr} {Q : Handler → Pre} {F : CtlPost} {d : Bool} {acts : List Action} (hcv : covers x f.pc = true) (h0 : x.catchType ≠ 0) (hg : (Jvm.resolveClass f.method.cls x.catchType).Gives e.toSetting U.vm (.ok cc) vm') (hcell : U.heap[b]? = some cell) (hobj : ∀ k, cell.vm ≠ .statics k)
    (hk : ∃ k, vm'.classes[cell.cls]? = some k) (hc : ∃ k, vm'.classes[cc]? = some k) (hfit : vm'.assignable cell.cls cc = true) (hsz : vm'.classes.size ≤ U.vm.classes.size) :
    wp (findHandler.go f b (x :: tl)) Q F e d acts U ↔ Q (.found x.handlerPc) d acts (U.setVm vm') := by
  simp only [covers] at hcv
  obtain ⟨ha, ht⟩ := hg.op (op := VmOp.resolveClass f.method.cls x.catchType) rfl
  have hcell' : (U.setVm vm').heap[b]? = some cell := hcell
  simp [findHandler.go, hcv, h0, ha, ht, hsz, hcell, hobj, hk, hc, hfit, VmOp.dirties, VmOp.acts]
theorem sm_catch_step {U : State} {f : JFrame} {b : Addr} {rs : List Frame} {pc : Nat} {vm' : Vm} (hfind : ∀ (Q : Handler → Pre) (F : CtlPost) (d : Bool) (acts : List Action), wp (findHandler f b) Q F e d acts U ↔ Q (.found pc) d acts (U.setVm vm')) :
    (stepThrowing e U b (.java f :: rs)).1 = (U.setVm vm').setFrames (.java { f with pc := pc, stack := [.ref b] } :: rs) := by
  have : (stepThrowing e U b (.java f :: rs)).Is ((U.setVm vm').setFrames (.java { f with pc := pc, stack := [.ref b] } :: rs)) [] := by
    simp only [stepThrowing, searchFrame, vmDo]
    generalize hr : Sem.go _ e false [] U = res
    obtain ⟨as, rfl, ha⟩ := Sem.eq_ok_of hr (a := Handler.found pc) (s' := U.setVm vm') (acts' := []) (by simp [hfind _ _ _ _])
    exact ⟨rfl, ha⟩
  exact this.1
theorem sm_caught {U : State} {g : JFrame} {b : Addr} {pc : Nat} {vm' : Vm} {target : State} (h : At U g.method c below) (hfind : ∀ (Q : Handler → Pre) (F : CtlPost) (d : Bool) (acts : List Action), wp (findHandler g b) Q F e d acts ((U.setTop g).pushFrame (.throwing b)) ↔ Q (.found pc) d acts (((U.setTop g).pushFrame (.throwing b)).setVm vm'))
    (hrest : Steps p.tables e below ((U.setVm vm').setTop { g with pc := pc, stack := [.ref b] }) target) : Steps p.tables e below ((U.setTop g).pushFrame (.throwing b)) target := by
  obtain ⟨hgo, hw⟩ := h.throwing b
  refine Steps.head hgo hw ?_
  rw [stepThread_throwing (frames_entered h.top _), sm_catch_step hfind]
  obtain ⟨g₀, hg⟩ := Option.isSome_iff_exists.mp h.top
  obtain ⟨rs, hr⟩ := State.topJava?_eq_some.mp hg
  have hr' : (U.setVm vm').frames = .java g₀ :: rs := hr
  rw [State.setTop_of_frames _ hr'] at hrest
  have : ((U.setTop g).pushFrame (.throwing b)).setVm vm' = (((U.setVm vm').setTop g).pushFrame (.throwing b)) := by
    rw [State.pushFrame, State.pushFrame, State.setTop_of_frames _ hr, State.setTop_of_frames _ hr']
    rfl
  rw [this, State.pushFrame, State.setFrames_setFrames, State.setTop_of_frames _ hr', State.setFrames_setFrames, hr]
  exact hrest
end
end
section
section
variable {E : sm_G} {X : Nat × (Nat → Int32)} {w : Bool} {p : Program} {l : Launch} {e : Env} {R : Room} {s : State} {m : MethodId} {args : Array Value} {below : List Frame} {meth : Method} {c : Code} {mn : Nat} {C : sm_C} {r : sm_O × sm_S} {c0 s0 : Nat} {Q : State → Prop} {n pc : Nat} {a : Nat × Nat × Nat × Nat} {L S : List sm_V} {σ : sm_S} {hx : sm_S → sm_R} {H : Heap} {locs : List Loc} {ls : Array Slot}
theorem sm_asg (vm : Vm) (k : ClassId) : vm.assignable k k = true := by
  show vm.assignableAux (255 + 1) k k = true
  rw [Vm.assignableAux]
  simp
theorem sm_load41 (h : sm_run (sm_ZZ X) sm_PP w C sm_LOAD n 41 L [vP (24, 0)] σ = some r) : r = (some (some (vI 0)), σ) := by
  match n, h with
  | 0, h => cases h
  | 1, h => have h : (none : sm_R) = some r := h
            cases h
  | 2, h => have h : (none : sm_R) = some r := h
            cases h
  | n + 3, h => have h : some (some (some (vI 0)), σ) = some r := h
                exact (Option.some.inj h).symm
theorem sm_loadw (cx : sm_Cx E X p s m args meth c sm_LOAD) (hL : sm_LR E σ (sm_nl sm_LOAD) L ls) {b : Addr} (hH : sm_HR E w σ H) (hl : ∀ q ∈ locs, E.1 ≤ q.base) :
    W p l e R s m args below meth c H locs (sm_cells σ - c0) (sm_slots σ - s0) (sm_QE E w s below (some (some (vI 0)), σ) c0 s0) (F0 m 41 ls [.ref b]) := by
  obtain ⟨hex, hb, hml, hown, hts, hEF, hlk, hre, -⟩ := cx
  refine lv_astore_n (k := 2) (i := 2) hex hb (by decide +kernel) rfl hL.has (by decide) rfl fun ls' _ => ?_
  refine lv_iconst (v := 0) hex hb (show decode (sm_bc sm_LOAD) 42 = .ok (.iconst 0, 1) by decide +kernel) rfl ?_
  exact sm_weak sm_QE_of (W.zret (v := 0) hex hb (hre.trans rfl) rfl (fun t ht _ => ⟨⟨rfl, trivial⟩, by rw [ht]; exact hH⟩) hl (by decide +kernel) hlk)
set_option maxHeartbeats 1000000 in
theorem sm_loadcatch (cx : sm_Cx E X p s m args meth c sm_LOAD) {T : State} {cells slots : Nat} (Y : Stand p l e R s m args below meth c T locs cells slots) (hpc : 34 ≤ pc ∧ pc < 38) (hL : sm_LR E σ (sm_nl sm_LOAD) L ls) {st : List Value} {i : Nat} (hi : i < sm_cnt σ 24) (hH : sm_HR E w σ T.heap) (hl : ∀ q ∈ locs, E.1 ≤ q.base) (hc : cells = sm_cells σ - c0) (hs : slots = sm_slots σ - s0)
    (h : sm_run (sm_ZZ X) sm_PP w C sm_LOAD n 41 L [vP (24, 0)] σ = some r) :
    ∃ t, Steps p.tables e below ((T.setTop (F0 m pc ls st)).pushFrame (.throwing (E.1 + sm_ad σ 24 i))) t ∧ sm_QE E w s below r c0 s0 t := by
  have hr := sm_load41 h
  subst hr hc hs
  have W0 := sm_loadw (R := R) (l := l) (e := e) (below := below) (c0 := c0) (s0 := s0) (b := E.1 + sm_ad σ 24 i) cx hL hH hl
  obtain ⟨hex, hb, hml, hown, hts, hEF, hlk, hre, -, -, htab⟩ := cx
  have htab := htab rfl
  obtain ⟨x, hx1, x1, x2, x3, x4⟩ : ∃ x : ExceptionTableEntry, c.exceptionTable.toList = [x] ∧ x.startPc = 34 ∧ x.endPc = 38 ∧ x.handlerPc = 41 ∧ x.catchType = 643 := by
    rcases hq : c.exceptionTable.toList with _ | ⟨x, _ | ⟨y, z⟩⟩
    · rw [hq] at htab; cases htab
    · rw [hq] at htab
      simp only [List.map_cons, List.map_nil, List.cons.injEq, Prod.mk.injEq, and_true] at htab
      exact ⟨x, rfl, htab.1, htab.2.1, htab.2.2.1, htab.2.2.2⟩
    · rw [hq] at htab
      simp at htab
  have hlink : (Cond.classLink (sm_cn 13) 643 "java/lang/IllegalStateException").before args s = true := hts _ (sm_kl_w (a := 13) (b := 643) (c := 24) (by decide +kernel))
  have hpl : e.platform.magicAccessors = ({} : Platform).magicAccessors := by rw [Y.admits.platform]
  obtain ⟨cT, hcT, hcl⟩ := Cond.classLink_spec (show s.vm.findClass (sm_cn 13) = some m.cls from hown) hlink e.platform hpl
  have h24 : E.2.2.2.2.2.2.2.1 24 = cT := Option.some.inj (hEF.2.2.2.2.2.2.2.2.2.2.2.1.symm.trans hcT)
  obtain ⟨dk, _, _, kt, hd, _, _, _, _, hkt, _, hop⟩ := hcl.here
  have hcl₀ := Y.warmed.classLinks hcl
  have hW' : s.WarmedH (T.vm.noted m.cls 643 (.cls cT)) := Y.warmed.noted hd hop (State.rightAt_cls hcl)
  obtain ⟨kt', hkt', -⟩ := hW'.alike.2.2 _ _ hkt
  obtain ⟨cell, e1, e2, e3⟩ : ∃ cell, T.heap[E.1 + sm_ad σ 24 i]? = some cell ∧ cell.cls = E.2.2.2.2.2.2.2.1 24 ∧ cell.vm = .none := by
    rcases (hH.2.2.1 24 i (by decide) hi).2 with ⟨q, -⟩ | ⟨-, q⟩ | ⟨q, -⟩
    · omega
    · exact q
    · omega
  obtain ⟨t, st2, hq⟩ := W0 (T.setVm (T.vm.noted m.cls 643 (.cls cT))) rfl (Y.noted hW')
  refine ⟨t, sm_caught (vm' := T.vm.noted m.cls 643 (.cls cT)) (pc := 41) (g := F0 m pc ls st) Y.here ?_ st2, hq⟩
  intro Q F d acts
  have hvm := Stand.throwing_vm T (F0 m pc ls st) (E.1 + sm_ad σ 24 i)
  have hhp := Stand.throwing_heap T (F0 m pc ls st) (E.1 + sm_ad σ 24 i)
  rw [W.findHandler_eq (meth := meth) (code := c) (by rw [hvm]; exact Y.method') Y.code, hx1]
  rw [sm_find_cold (cc := cT) (cell := cell) (vm' := T.vm.noted m.cls 643 (.cls cT)) (by simp only [covers, x1, x2]; simp; exact hpc) (by rw [x4]; decide) (by rw [x4, hvm]; exact resolveClass_links e.toSetting hcl₀) (by rw [hhp]; exact e1) (by rw [e3]; exact fun k q => by cases q) (by rw [e2, h24]; exact ⟨kt', hkt'⟩) ⟨kt', hkt'⟩ (by rw [e2, h24]; exact sm_asg _ _) (by rw [hvm]; no_record), x3]
end
end
section
section
variable {E : sm_G} {X : Nat × (Nat → Int32)} {w : Bool} {p : Program} {l : Launch} {e : Env} {R : Room} {s : State} {m : MethodId} {args : Array Value} {below : List Frame} {meth : Method} {c : Code} {mn : Nat} {C : sm_C} {r : sm_O × sm_S} {c0 s0 : Nat} {Q : State → Prop} {n pc : Nat} {a : Nat × Nat × Nat × Nat} {L S : List sm_V} {σ : sm_S} {hx : sm_S → sm_R} {H : Heap} {locs : List Loc} {ls : Array Slot}
theorem sm_inw {u : Cond} (h : u ∈ lw_tbl) (hg : goodWord u = true) : u ∈ sm_wd := List.mem_filter.mpr ⟨h, hg⟩
theorem sm_prim : (Cond.native arraycopyName ∈ lw_tbl ∧ Cond.static arraycopyName ∈ lw_tbl ∧ Cond.initialized "java/lang/System" ∈ lw_tbl) ∧ Cond.instanceMethod Lib.objectInit ∈ lw_tbl ∧ Cond.code Lib.objectInit ⟨#[0xb1]⟩ 1 none ∈ lw_tbl := by decide +kernel
theorem sm_s_obj (cx : sm_Cx E X p s m args meth c mn) (K : sm_K E X w p l e R s m args below meth c mn C r c0 s0 Q n) (hR : 1 ≤ R.frames ∧ 60 ≤ R.locals) {i a1 a2 a3 : Nat} (hd : decode (sm_bc mn) pc = .ok (.invokespecial i, 3)) (hok : sm_okA mn (.invokespecial i) (a1, a2, a3, 1002) pc = true)
    (h : sm_I (sm_ZZ X) w C (.invokespecial i) (a1, a2, a3, 1002) pc (sm_run (sm_ZZ X) sm_PP w C mn n (pc + 3)) (sm_run (sm_ZZ X) sm_PP w C mn n) hx L S σ = some r) (hH : sm_HR E w σ H) (hL : sm_LR E σ (sm_nl mn) L ls) (hS : sm_SR σ S) (hl : ∀ q ∈ locs, E.1 ≤ q.base) (hc : c0 ≤ sm_cells σ) (hs : s0 ≤ sm_slots σ) :
    W p l e R s m args below meth c H locs (sm_cells σ - c0) (sm_slots σ - s0) Q (F0 m pc ls (sm_st E σ S)) := by
  obtain ⟨hex, hb, hml, hown, hts, hEF, -⟩ := cx
  have ho := hEF.2.2.2.2.2.2.2.2.2.2.2.2
  rcases sm_r1_s S with q | ⟨x, S, rfl⟩
  · exact absurd h (by rw [show sm_I (sm_ZZ X) w C (.invokespecial i) (a1, a2, a3, 1002) pc _ _ hx L S σ = none from q _]; exact fun z => by cases z)
  have h : (if 10 ≤ x.1 ∧ sm_cat S ≤ 8 then sm_run (sm_ZZ X) sm_PP w C mn n (pc + 3) L S σ else none) = some r := h
  by_cases hz : ¬ (10 ≤ x.1 ∧ sm_cat S ≤ 8)
  · rw [if_neg hz] at h; cases h
  have hz := Decidable.not_not.mp hz
  rw [if_pos hz] at h
  have hok : sm_has4 sm_ml (sm_ow mn) i 1002 = true := hok
  show W p l e R s m args below meth c H locs _ _ Q (F0 m pc ls (va_rf (sm_rp E (sm_ad σ) (x.1, x.2)) :: sm_st E σ S))
  rw [sm_rp_big hz.1]
  refine W.objInit hex hb hown (hts _ (sm_ml_w hok)) (hts _ (sm_inw sm_prim.2.1 rfl)) (hts _ (sm_inw sm_prim.2.2 rfl)) rfl (hL.1.trans hml.symm) rfl hd hR.1 ?_ (K _ _ _ _ _ _ _ h hH hL hS.tail hl hc hs)
  show 2 * 0 + ((S.map (sm_rv E (sm_ad σ))).map fun v => v.category).sum + 12 ≤ R.locals
  rw [sm_cats ho]
  omega
end
end
section
section
variable {E : sm_G} {X : Nat × (Nat → Int32)} {w : Bool} {p : Program} {l : Launch} {e : Env} {R : Room} {s : State} {m : MethodId} {args : Array Value} {below : List Frame} {meth : Method} {c : Code} {mn : Nat} {C : sm_C} {r : sm_O × sm_S} {c0 s0 : Nat} {Q : State → Prop} {n pc : Nat} {a : Nat × Nat × Nat × Nat} {L S : List sm_V} {σ : sm_S} {hx : sm_S → sm_R} {H : Heap} {locs : List Loc} {ls : Array Slot}
theorem sm_nn {z : Int32} (hz : ¬ z < 0) : z.toInt = (z.toNatClampNeg : Int) := by
  have hz0 : (0 : Int) ≤ z.toInt := by
    have := Int32.not_lt.mp hz
    simpa using Int32.le_iff_toInt_le.mp this
  show z.toInt = ((z.toInt.toNat : Nat) : Int)
  omega
theorem sm_HR.tag (hH : sm_HR E w σ H) {t i : Nat} (ht : 10 ≤ t) (hi : i < sm_cnt σ t) : t < 97 := by
  rcases (hH.2.2.1 t i ht hi).2 with ⟨q, -⟩ | ⟨q, -⟩ | ⟨-, q, -⟩ <;> omega
set_option maxHeartbeats 1000000 in
theorem sm_s_copy (cx : sm_Cx E X p s m args meth c mn) (K : sm_K E X w p l e R s m args below meth c mn C r c0 s0 Q n) (hR : 1 ≤ R.frames ∧ 60 ≤ R.locals) {i t k a3 : Nat} (hd : decode (sm_bc mn) pc = .ok (.invokestatic i, 3)) (hok : sm_okA mn (.invokestatic i) (t, k, a3, 1000) pc = true)
    (h : sm_I (sm_ZZ X) w C (.invokestatic i) (t, k, a3, 1000) pc (sm_run (sm_ZZ X) sm_PP w C mn n (pc + 3)) (sm_run (sm_ZZ X) sm_PP w C mn n) hx L S σ = some r) (hH : sm_HR E w σ H) (hL : sm_LR E σ (sm_nl mn) L ls) (hS : sm_SR σ S) (hl : ∀ q ∈ locs, E.1 ≤ q.base) (hc : c0 ≤ sm_cells σ) (hs : s0 ≤ sm_slots σ) :
    W p l e R s m args below meth c H locs (sm_cells σ - c0) (sm_slots σ - s0) Q (F0 m pc ls (sm_st E σ S)) := by
  obtain ⟨hex, hb, hml, hown, hts, hEF, -⟩ := cx
  have ho := hEF.2.2.2.2.2.2.2.2.2.2.2.2
  rcases S with _ | ⟨v1, S⟩
  · exact absurd h (fun z => by cases z)
  rcases v1 with x | v1 <;> first | exact absurd h (fun z => by cases z) | skip
  rcases S with _ | ⟨v2, S⟩
  · exact absurd h (fun z => by cases z)
  rcases v2 with d | v2 <;> first | exact absurd h (fun z => by cases z) | skip
  rcases S with _ | ⟨v3, S⟩
  · exact absurd h (fun z => by cases z)
  rcases v3 with _ | _ | q | _ <;> first | exact absurd h (fun z => by cases z) | skip
  rcases S with _ | ⟨v4, S⟩
  · exact absurd h (fun z => by cases z)
  rcases v4 with z | v4 <;> first | exact absurd h (fun z => by cases z) | skip
  rcases S with _ | ⟨v5, S⟩
  · exact absurd h (fun z => by cases z)
  rcases v5 with _ | _ | u | _ <;> first | exact absurd h (fun z => by cases z) | skip
  have hk : (if u.1 = 6 ∧ z = 0 ∧ d = 0 ∧ ¬ x < 0 ∧ x.toNatClampNeg ≤ (sm_tb u.2).length ∧ x.toNatClampNeg ≤ k ∧ sm_cat S ≤ 8 then sm_rq q t fun i => sm_run (sm_ZZ X) sm_PP w C mn n (pc + 3) L S (sC σ t i 0 x.toNatClampNeg fun k => (sm_tb u.2).getD k 0) else none) = some r := h
  by_cases hz : ¬ (u.1 = 6 ∧ z = 0 ∧ d = 0 ∧ ¬ x < 0 ∧ x.toNatClampNeg ≤ (sm_tb u.2).length ∧ x.toNatClampNeg ≤ k ∧ sm_cat S ≤ 8)
  · rw [if_neg hz] at hk; cases hk
  have hz := Decidable.not_not.mp hz
  rw [if_pos hz] at hk
  obtain ⟨z1, rfl, rfl, z4, z5, z6, z7⟩ := hz
  obtain ⟨h1, hh⟩ := sm_rq_s hk
  obtain ⟨u1, u2⟩ := u
  obtain ⟨q1, q2⟩ := q
  dsimp only at z1 h1 hh z5
  subst z1 h1
  have hu : sm_okp (sm_cnt σ) (6, u2) := hS (vP (6, u2)) (by simp)
  have hq : sm_okp (sm_cnt σ) (q1, q2) := hS (vP (q1, q2)) (by simp)
  have hu6 := sm_okp_6 hu
  have hok : (q1 == 9999 || (sm_has4 sm_ml (sm_ow mn) i 1000 && (decide (30 ≤ q1) && (decide (q1 < 97) && (sm_ak q1 == (0, k) && !(k == 0)))))) = true := hok
  simp only [Bool.or_eq_true, Bool.and_eq_true, beq_iff_eq, decide_eq_true_eq, Bool.not_eq_true', beq_eq_false_iff_ne] at hok
  rcases hok with hok | ⟨g0, g1, g2, g3, g4⟩
  · subst hok
    have := hH.tag (by decide) (sm_okp_big (by decide) hq)
    omega
  have hi := sm_okp_big (by omega) hq
  obtain ⟨-, hrow⟩ := hH.row g1 hi
  obtain ⟨-, kd, hkd, cm1, hkk1⟩ := (hEF.2.1 q1 g1 g2).1 (sm_al σ q1 q2) (sm_av E σ q1 q2)
  rw [sm_at0 g3] at hkk1
  obtain ⟨scr, s1, s2, s3, s4, -, s6, s7⟩ := (hEF.2.2.2.2.1 u2 hu6).2
  have s1' : H[E.2.2.2.2.1 u2]? = some scr := by rw [sm_low hH s7]; exact s1
  obtain ⟨s8, ks, hks, cm0, hkk0⟩ := s2
  have hav : sm_av E σ q1 q2 = fun j => .int (σ.1 q1 q2 j) := by
    funext j; unfold sm_av; rw [g3]; rfl
  have hav2 : sm_av E (sC σ q1 q2 0 x.toNatClampNeg fun k => (sm_tb u2).getD k 0) q1 q2 = fun j => .int (va_cpy (fun j => (sm_tb u2).getD j 0) (fun j => σ.1 q1 q2 j) 0 0 x.toNatClampNeg j) := by
    funext j
    unfold sm_av
    rw [g3]
    show Value.int (if q1 = q1 ∧ q2 = q2 ∧ 0 ≤ j ∧ j < 0 + x.toNatClampNeg then (sm_tb u2).getD (j - 0) 0 else σ.1 q1 q2 j) = .int (if 0 ≤ j ∧ j < 0 + x.toNatClampNeg then (sm_tb u2).getD (0 + (j - 0)) 0 else σ.1 q1 q2 j)
    by_cases hj : 0 ≤ j ∧ j < 0 + x.toNatClampNeg
    · rw [if_pos hj, if_pos ⟨rfl, rfl, hj⟩, Nat.zero_add]
    · rw [if_neg hj, if_neg (fun z => hj z.2.2)]
  have hal : sm_al σ q1 q2 = k := sm_al_n g3 g4
  show W p l e R s m args below meth c H locs _ _ Q (F0 m pc ls (.int x :: .int 0 :: va_rf (sm_rp E (sm_ad σ) (q1, q2)) :: .int 0 :: .ref (E.2.2.2.2.1 u2) :: sm_st E σ S))
  rw [sm_rp_big (by omega)]
  intro T hT Y
  obtain ⟨vm', Y', step⟩ := Y.arraycopy hex hown (hts _ (sm_ml_w g0)) (hts _ (sm_inw sm_prim.1.1 rfl)) (hts _ (sm_inw sm_prim.1.2.1 rfl)) (hts _ (sm_inw sm_prim.1.2.2 rfl)) (src := E.2.2.2.2.1 u2) (dst := E.1 + sm_ad σ q1 q2) (cs := scr) (srcPos := 0) (destPos := 0) (n := x) (by rw [hT]; exact s1') (by rw [hT]; exact hrow)
    s8 (fun _ h => by cases h) s3 (fun h => by cases h) hks hkd hkk0 hkk1 (by simp [refKind]) (by decide) (by decide) z4
    (by rw [sm_nn z4]; show ¬ (0 : Int) + _ > _; omega)
    (by rw [sm_nn z4, arrV_size, hal]; show ¬ (0 : Int) + _ > _; omega)
    (fun vm₁ _ j hj => by
      have e : scr.slots.getD ((0 : Int32).toNatClampNeg + j) .null = .int ((sm_tb u2).getD j 0) := by
        rw [show (0 : Int32).toNatClampNeg + j = j from Nat.zero_add j, Array.getD_eq_getD_getElem?, s6 _ (by omega)]
        rfl
      rw [e]
      exact ⟨rfl, trivial⟩)
    (g := F0 m pc ls (.int x :: .int 0 :: .ref (E.1 + sm_ad σ q1 q2) :: .int 0 :: .ref (E.2.2.2.2.1 u2) :: sm_st E σ S)) rfl (hL.1.trans hml.symm) (rest := sm_st E σ S) rfl (by rw [hb]; exact hd) hR.1 (by show 2 * 0 + ((S.map (sm_rv E (sm_ad σ))).map fun v => v.category).sum + _ ≤ _; rw [sm_cats ho, show nativeFrameWords "java/lang/System" "arraycopy" 5 = 7 by decide +kernel]; omega)
  have e1 : copied scr (arrV (E.2.2.2.2.2.2.2.1 q1) (sm_al σ q1 q2) (sm_av E σ q1 q2)) 0 0 x = arrV (E.2.2.2.2.2.2.2.1 q1) (sm_al σ q1 q2) (sm_av E (sC σ q1 q2 0 x.toNatClampNeg fun k => (sm_tb u2).getD k 0) q1 q2) := by
    rw [hav]
    refine (va_copiedX (fun z => .int z) scr (E.2.2.2.2.2.2.2.1 q1) (n0 := (sm_tb u2).length) (n1 := sm_al σ q1 q2) (sp := 0) (dp := 0) (n := x.toNatClampNeg) (fun j => (sm_tb u2).getD j 0) (fun j => σ.1 q1 q2 j) s6 (by omega)).trans ?_
    exact congrArg (arrV (E.2.2.2.2.2.2.2.1 q1) (sm_al σ q1 q2)) hav2.symm
  rw [e1] at Y' step
  have hlt : E.1 + sm_ad σ q1 q2 < H.size := (Array.getElem?_eq_some_iff.mp hrow).1
  have hheap : ((T.setVm vm').setCell (E.1 + sm_ad σ q1 q2) (arrV (E.2.2.2.2.2.2.2.1 q1) (sm_al σ q1 q2) (sm_av E (sC σ q1 q2 0 x.toNatClampNeg fun k => (sm_tb u2).getD k 0) q1 q2))).heap = H.setIfInBounds (E.1 + sm_ad σ q1 q2) (arrV (E.2.2.2.2.2.2.2.1 q1) (sm_al σ q1 q2) (sm_av E (sC σ q1 q2 0 x.toNatClampNeg fun k => (sm_tb u2).getD k 0) q1 q2)) := by rw [← hT]; rfl
  have hHR : sm_HR E w (sC σ q1 q2 0 x.toNatClampNeg fun k => (sm_tb u2).getD k 0) (H.setIfInBounds (E.1 + sm_ad σ q1 q2) (arrV (E.2.2.2.2.2.2.2.1 q1) (sm_al σ q1 q2) (sm_av E (sC σ q1 q2 0 x.toNatClampNeg fun k => (sm_tb u2).getD k 0) q1 q2))) := by
    refine hH.set (σ' := sC σ q1 q2 0 x.toNatClampNeg fun k => (sm_tb u2).getD k 0) (by omega) hi rfl (fun t' i' k' hne => ⟨?_, rfl, rfl⟩) (fun k' => hH.2.2.2.2.2.1 _ _ _) (by simp) (fun q hq => by simp [Array.getElem?_setIfInBounds, Ne.symm hq]) (Or.inr (Or.inr ⟨g1, g2, ?_⟩))
    · show (if t' = q1 ∧ i' = q2 ∧ 0 ≤ k' ∧ k' < 0 + x.toNatClampNeg then _ else σ.1 t' i' k') = _
      rw [if_neg (fun z => hne ⟨z.1, z.2.1⟩)]
    · show (H.setIfInBounds (E.1 + sm_ad σ q1 q2) _)[E.1 + sm_ad σ q1 q2]? = _
      simp [hlt]
      rfl
  obtain ⟨t2, st2, hq2⟩ := K _ _ _ _ _ _ _ hh hHR (hL.same rfl) hS.tail.tail.tail.tail.tail (fun q hq => by
      rcases List.mem_append.mp hq with z | z
      · exact hl q z
      · obtain ⟨y, -, hy⟩ := List.mem_map.mp z
        rw [← hy]
        exact Nat.le_add_right _ _) hc hs _ hheap Y'
  exact ⟨t2, step t2 st2, hq2⟩
end
end
section
section
variable {E : sm_G} {X : Nat × (Nat → Int32)} {w : Bool} {p : Program} {l : Launch} {e : Env} {R : Room} {s : State} {m : MethodId} {args : Array Value} {below : List Frame} {meth : Method} {c : Code} {mn : Nat} {C : sm_C} {r : sm_O × sm_S} {c0 s0 : Nat} {Q : State → Prop} {n pc : Nat} {a : Nat × Nat × Nat × Nat} {L S : List sm_V} {σ : sm_S} {hx : sm_S → sm_R} {H : Heap} {locs : List Loc} {ls : Array Slot}
/-- what a call asks, what it gives -/
def sm_Pc (E : sm_G) (X : Nat × (Nat → Int32)) (w : Bool) (As : List sm_V) (σ : sm_S) : Array Value → State → Prop := fun a st => a = (As.map (sm_rv E (sm_ad σ))).toArray ∧ sm_HR E w σ st.heap ∧ sm_EF E X st ∧ sm_SR σ As
def sm_Qc (E : sm_G) (w : Bool) (r : sm_O × sm_S) : Array Value → State → Outcome → State → Prop := fun _ _ o t => sm_out E r o ∧ sm_HR E w r.2 t.heap
def sm_rm (fr lo : Nat) (σ σ' : sm_S) : Room := { frames := fr, locals := lo, cells := sm_cells σ' - sm_cells σ, slots := sm_slots σ' - sm_slots σ }
def sm_Met (l : Launch) (E : sm_G) (X : Nat × (Nat → Int32)) (w : Bool) (C : sm_C) (fr lo : Nat) : Prop := ∀ k As σ r, C k As σ = some r → MetFree l (sm_y k) (headSpec sm_wd (sm_rm fr lo σ r.2)) (sm_Pc E X w As σ) (fun _ _ _ _ _ => True) (sm_Qx E.1 (sm_cells r.2 - sm_cells σ) (sm_slots r.2 - sm_slots σ) (sm_Qc E w r))
theorem sm_cww {k : Nat} (hk : k < 308) : sm_cw k ∈ sm_wd := by
  refine sm_inw (sm_cw_in k hk) ?_
  unfold sm_cw
  cases k == sm_LOAD <;> rfl
/-- what the tables say of a method -/
theorem sm_meth {k : Nat} (hk : k < 308) (hts : ∀ u ∈ sm_wd, u.before args s = true) : ∃ mk meth c kP, s.methodNamed? (sm_y k) = some mk ∧ s.vm.method? mk = some meth ∧ meth.code = some c ∧ c.maxLocals = sm_nl k ∧ s.vm.classes[mk.cls]? = some kP ∧ kP.init = .initialized ∧ parseMethodDescriptor (sm_y k).desc = some meth.sig := by
  have h1 := hts _ (sm_cww hk)
  have h2 : (Cond.initialized (sm_y k).cls).before args s = true := hts _ (sm_wrd (of_decide_eq_true (List.all_eq_true.mp sm_pi_in k (List.mem_range.mpr hk))) rfl)
  have fin : ∀ mk meth c, s.methodNamed? (sm_y k) = some mk → s.vm.method? mk = some meth → meth.code = some c → c.maxLocals = sm_nl k → parseMethodDescriptor (sm_y k).desc = some meth.sig → ∃ mk meth c kP, s.methodNamed? (sm_y k) = some mk ∧ s.vm.method? mk = some meth ∧ meth.code = some c ∧ c.maxLocals = sm_nl k ∧ s.vm.classes[mk.cls]? = some kP ∧ kP.init = .initialized ∧ parseMethodDescriptor (sm_y k).desc = some meth.sig := by
    intro mk meth c e1 e2 e3 e4 e5
    obtain ⟨kP, hkP, -⟩ := className_of_methodNamed e1
    exact ⟨mk, meth, c, kP, e1, e2, e3, e4, hkP, Cond.initialized_spec (findClass_of_methodNamed e1) hkP h2, e5⟩
  unfold sm_cw at h1
  cases hb : k == sm_LOAD with
  | true =>
    rw [hb] at h1
    obtain ⟨mk, meth, c, e1, e2, e3, -, e4, -, -, -, e5⟩ := Cond.codeWith_spec h1
    exact fin mk meth c e1 e2 e3 e4 e5
  | false =>
    rw [hb] at h1
    obtain ⟨mk, e1⟩ := Cond.code_named h1
    obtain ⟨meth, c, e2, e3, -, e4, -, -, -, e5⟩ := Cond.code_spec e1 h1
    exact fin mk meth c e1 e2 e3 e4 e5
theorem sm_thrown2 {T : State} {cells slots : Nat} (Y : Stand p l e R s m args below meth c T locs cells slots) (hlk : meth.locks = false) {g : JFrame} (hex0 : ∀ x ∈ c.exceptionTable.toList, covers x g.pc = false) (hg : g.method = m) (h1 : g.locked = none) (h2 : g.entered = []) {i : Nat} {σ : sm_S} (hi : i < sm_cnt σ 24) (hH : sm_HR E w σ T.heap) (hl : ∀ q ∈ locs, E.1 ≤ q.base) (hc : cells = sm_cells σ - c0) (hs : slots = sm_slots σ - s0) :
    ∃ t, Steps p.tables e below ((T.setTop g).pushFrame (.throwing (E.1 + sm_ad σ 24 i))) t ∧ sm_QE E w s below (none, σ) c0 s0 t := by
  subst hc hs
  obtain ⟨st, hr, he, hw, hsm⟩ := Y.leaveThrown (E.1 + sm_ad σ 24 i) hg h1 h2 hex0 hlk
  exact ⟨_, st, .threw _, hr, he, ⟨⟨i, hi, rfl⟩, hH⟩, locs, ⟨hw, hsm⟩, hl⟩
theorem sm_nlm : (List.range 308).all (fun k => decide (sm_nl k ≤ 30)) = true := by decide +kernel
set_option maxHeartbeats 1000000 in
theorem sm_after (cx : sm_Cx E X p s m args meth c mn) (K : sm_K E X w p l e R s m args below meth c mn C r c0 s0 (sm_QE E w s below r c0 s0) n) {fr lo : Nat} (hM : sm_Met l E X w C fr lo) (hR : fr + 1 ≤ R.frames ∧ lo + 60 ≤ R.locals) (hC : ∀ m a s o t, C m a s = some (o, t) → sm_mo s t)
    {T : State} (Y : Stand p l e R s m args below meth c T locs (sm_cells σ - c0) (sm_slots σ - s0)) (hT : T.heap = H) (hH : sm_HR E w σ H) (hL : sm_LR E σ (sm_nl mn) L ls) (hl : ∀ q ∈ locs, E.1 ≤ q.base) (hc : c0 ≤ sm_cells σ) (hs : s0 ≤ sm_slots σ)
    {k : Nat} {As : List sm_V} (hk : k < 308) (hA : sm_SR σ As) (hS : sm_SR σ S) (hcat : sm_cat S ≤ 8) {o : sm_O} {σ' : sm_S} (hcall : C k As σ = some (o, σ')) (hcr : sm_cells σ' ≤ c0 + R.cells ∧ sm_slots σ' ≤ s0 + R.slots)
    {mk : MethodId} (hn : s.methodNamed? (sm_y k) = some mk) {ins : Instr} (hd : decode (sm_bc mn) pc = .ok (ins, 3))
    (hret : ∀ v, o = some v → sm_run (sm_ZZ X) sm_PP w C mn n (pc + 3) L (v.toList ++ S) σ' = some r) (hthr : o = none → sm_hx sm_PP mn pc (sm_run (sm_ZZ X) sm_PP w C mn n) L σ' = some r) :
    ∃ t, Steps p.tables e below (doInvoke e (T.setTop (F0 m pc ls (sm_st E σ S))) [] mk (As.map (sm_rv E (sm_ad σ))).toArray).1 t ∧ sm_QE E w s below r c0 s0 t := by
  have cx0 := cx
  obtain ⟨hex, hb, hml, hown, hts, hEF, hlk, hre, -, hne, hload⟩ := cx
  have ho := hEF.2.2.2.2.2.2.2.2.2.2.2.2
  have hm := hC _ _ _ _ _ hcall
  have m1 : sm_cells σ ≤ sm_cells σ' := hm.1.1
  have m2 : sm_slots σ ≤ sm_slots σ' := hm.1.2
  have htsT : ∀ u ∈ sm_wd, ∀ a' : Array Value, u.before a' T = true := fun u hu a' => word_at Y.warmed (good_of_word (List.mem_filter.mp hu).2) (hts u hu)
  obtain ⟨mk', methY, cY, kY, f1, f2, f3, f4, f5, f6, -⟩ := sm_meth (args := args) (s := T) hk (fun u hu => htsT u hu args)
  have hn' : T.methodNamed? (sm_y k) = some mk := Y.named hn
  cases hn'.symm.trans f1
  have hnl : sm_nl k ≤ 30 := of_decide_eq_true (List.all_eq_true.mp sm_nlm k (List.mem_range.mpr hk))
  obtain ⟨oo, t, Lc, hq, hLc, Y', hW, hre1, hth1⟩ := sm_call (bs := E.1) Y (hM k As σ (o, σ') hcall) (a := (As.map (sm_rv E (sm_ad σ))).toArray) hn' f2 f3 f5 f6 (atoms_intro fun u hu => htsT u hu _) hR.1 (g := F0 m pc ls (sm_st E σ S)) (by
      show 2 * 0 + ((S.map (sm_rv E (sm_ad σ))).map fun v => v.category).sum + (cY.maxLocals + 11) + lo ≤ R.locals
      rw [sm_cats ho, f4]; omega) (by
      show sm_cells σ - c0 + (sm_cells σ' - sm_cells σ) ≤ R.cells
      omega) (by
      show sm_slots σ - s0 + (sm_slots σ' - sm_slots σ) ≤ R.slots
      omega) rfl (hL.1.trans hml.symm) (by rw [hb]; exact hd) ⟨rfl, by show sm_HR E w σ T.heap; rw [hT]; exact hH, hEF.warm Y.warmed, hA⟩
  obtain ⟨hout, hH'⟩ := hq
  have e1 : sm_cells σ - c0 + (sm_cells σ' - sm_cells σ) = sm_cells σ' - c0 := by omega
  have e2 : sm_slots σ - s0 + (sm_slots σ' - sm_slots σ) = sm_slots σ' - s0 := by omega
  have Y2 : Stand p l e R s m args below meth c (sm_back T t) (locs ++ Lc) (sm_cells σ' - c0) (sm_slots σ' - s0) := by rw [← e1, ← e2]; exact Y'
  have hl' : ∀ q ∈ locs ++ Lc, E.1 ≤ q.base := fun q hq => by
    rcases List.mem_append.mp hq with z | z
    · exact hl q z
    · exact hLc q z
  have hL' : sm_LR E σ' (sm_nl mn) L ls := hL.mono hm.2.1 (fun t i _ h => hm.2.2 t i h)
  have hS' : sm_SR σ' S := hS.mono hm.2.1
  have hst : sm_st E σ' S = sm_st E σ S := sm_st_eq (fun t i _ h => hm.2.2 t i h) hS
  rcases o with _ | v
  · obtain ⟨i, hi, rfl⟩ : ∃ i, i < sm_cnt σ' 24 ∧ oo = .threw (E.1 + sm_ad σ' 24 i) := hout
    have h1 := hth1 _ rfl
    have h2 := hthr rfl
    have leave : sm_hd mn pc = none → (∀ x ∈ c.exceptionTable.toList, covers x pc = false) → ∃ t, Steps p.tables e below (doInvoke e (T.setTop (F0 m pc ls (sm_st E σ S))) [] mk (As.map (sm_rv E (sm_ad σ))).toArray).1 t ∧ sm_QE E w s below r c0 s0 t := by
      intro g1 g2
      unfold sm_hx at h2
      rw [show sm_PP.2.2 mn pc = none from g1] at h2
      cases h2
      obtain ⟨t2, st2, hq2⟩ := sm_thrown2 (E := E) (w := w) (c0 := c0) (s0 := s0) Y2 hlk (g := F0 m pc ls (sm_st E σ S)) g2 rfl rfl rfl hi hH' hl' rfl rfl
      exact ⟨t2, h1.trans st2, hq2⟩
    by_cases hld : mn = sm_LOAD
    · subst hld
      by_cases hp : 34 ≤ pc ∧ pc < 38
      · unfold sm_hx at h2
        rw [show sm_PP.2.2 sm_LOAD pc = some 41 by
          show (bif Nat.ble 34 pc && Nat.blt pc 38 then some 41 else none) = some 41
          rw [show Nat.ble 34 pc = true from Nat.ble_eq.mpr hp.1, show Nat.blt pc 38 = true from Nat.ble_eq.mpr hp.2]; rfl] at h2
        obtain ⟨t2, st2, hq2⟩ := sm_loadcatch (c0 := c0) (s0 := s0) cx0 Y2 hp hL' (st := sm_st E σ S) hi hH' hl' rfl rfl h2
        exact ⟨t2, h1.trans st2, hq2⟩
      · refine leave ?_ ?_
        · show (bif Nat.ble 34 pc && Nat.blt pc 38 then some 41 else none) = none
          cases h3 : (Nat.ble 34 pc && Nat.blt pc 38) with
          | false => rfl
          | true =>
            simp only [Bool.and_eq_true] at h3
            exact absurd ⟨Nat.ble_eq.mp h3.1, Nat.ble_eq.mp h3.2⟩ hp
        · intro x hx
          have htab := hload rfl
          have hx2 := List.mem_map_of_mem (f := fun h : ExceptionTableEntry => (h.startPc, h.endPc, h.handlerPc, h.catchType)) hx
          rw [htab] at hx2
          simp only [List.mem_singleton, Prod.mk.injEq] at hx2
          cases hcv : covers x pc with
          | false => rfl
          | true =>
            simp only [covers, hx2.1, hx2.2.1] at hcv
            simp at hcv
            exact absurd hcv hp
    · refine leave ?_ (by rw [hne hld]; exact fun x hx => by cases hx)
      show (bif mn == 280 then _ else none) = none
      rw [show (mn == 280) = false from sm_bne hld]; rfl
  · have fin : ∀ v : Option sm_V, oo = .returned (v.map (sm_rv E (sm_ad σ'))) → (∀ x, v = some x → sm_okv (sm_cnt σ') x) → sm_run (sm_ZZ X) sm_PP w C mn n (pc + 3) L (v.toList ++ S) σ' = some r → ∃ t, Steps p.tables e below (doInvoke e (T.setTop (F0 m pc ls (sm_st E σ S))) [] mk (As.map (sm_rv E (sm_ad σ))).toArray).1 t ∧ sm_QE E w s below r c0 s0 t := by
      intro v ev okv hrun
      obtain ⟨t2, st2, hq2⟩ := K (pc + 3) L (v.toList ++ S) σ' t.heap (locs ++ Lc) ls hrun hH' hL' (fun u hu => by
        rcases List.mem_append.mp hu with z | z
        · cases v with
          | none => cases z
          | some x => rcases List.mem_singleton.mp z with rfl; exact okv _ rfl
        · exact hS' u z) hl' (Nat.le_trans hc hm.1.1) (Nat.le_trans hs hm.1.2) (sm_back T t) rfl Y2
      refine ⟨t2, (hre1 _ ev).trans ?_, hq2⟩
      have : ({ F0 m pc ls (sm_st E σ S) with pc := pc + 3, stack := (v.map (sm_rv E (sm_ad σ'))).toList ++ sm_st E σ S } : JFrame) = F0 m (pc + 3) ls (sm_st E σ' (v.toList ++ S)) := by
        rw [← hst]
        cases v <;> rfl
      rw [show ({ F0 m pc ls (sm_st E σ S) with pc := (F0 m pc ls (sm_st E σ S)).pc + 3, stack := (v.map (sm_rv E (sm_ad σ'))).toList ++ (F0 m pc ls (sm_st E σ S)).stack } : JFrame) = F0 m (pc + 3) ls (sm_st E σ' (v.toList ++ S)) from this]
      exact st2
    rcases v with _ | v
    · have hout : oo = .returned none := hout
      exact fin none hout (fun x hx => by cases hx) (hret none rfl)
    · have hout : oo = .returned (some (sm_rv E (sm_ad σ') v)) ∧ sm_okv (sm_cnt σ') v := hout
      exact fin (some v) hout.1 (fun x hx => by cases hx; exact hout.2) (hret (some v) rfl)
end
end
section
section
variable {E : sm_G} {X : Nat × (Nat → Int32)} {w : Bool} {p : Program} {l : Launch} {e : Env} {R : Room} {s : State} {m : MethodId} {args : Array Value} {below : List Frame} {meth : Method} {c : Code} {mn : Nat} {C : sm_C} {r : sm_O × sm_S} {c0 s0 : Nat} {Q : State → Prop} {n pc : Nat} {a : Nat × Nat × Nat × Nat} {L S : List sm_V} {σ : sm_S} {hx : sm_S → sm_R} {H : Heap} {locs : List Loc} {ls : Array Slot}
theorem sm_take_s : ∀ (n : Nat) (acc S As S' : List sm_V), sm_take n acc S = some (As, S') → acc.reverse ++ S = As.reverse ++ S' ∧ As.length = n + acc.length
  | 0, acc, S, As, S', h => by
    have h : some (acc, S) = some (As, S') := by
      cases S <;> exact h
    cases h
    exact ⟨rfl, by omega⟩
  | n + 1, acc, [], As, S', h => by cases h
  | n + 1, acc, v :: S, As, S', h => by
    have h : sm_take n (v :: acc) S = some (As, S') := h
    obtain ⟨h1, h2⟩ := sm_take_s n (v :: acc) S As S' h
    refine ⟨?_, by simp at h2; omega⟩
    rw [← h1]
    simp
theorem sm_cl_s {nx : List sm_V → sm_S → sm_R} (h : sm_cl C a hx S σ nx = some r) : ∃ As S' o σ', S = As.reverse ++ S' ∧ As.length = a.2.1 ∧ sm_cat S' ≤ 8 ∧ C a.1 As σ = some (o, σ') ∧ (a.2.2.2 ≠ 0 → ∃ i As', As = vP (a.2.2.2, i) :: As') ∧ (∀ v, o = some v → nx (v.toList ++ S') σ' = some r) ∧ (o = none → hx σ' = some r) := by
  unfold sm_cl at h
  cases ht : sm_take a.2.1 [] S with
  | none => rw [ht] at h; cases h
  | some q =>
    obtain ⟨As, S'⟩ := q
    obtain ⟨t1, t2⟩ := sm_take_s _ _ _ _ _ ht
    rw [ht] at h
    dsimp only at h
    by_cases hcat : sm_cat S' ≤ 8
    · rw [if_pos hcat] at h
      have go : ∀ {g : sm_R}, (match a.2.2.1 with
        | 0 => sm_bV (C a.1 As σ) hx fun s => nx S' s
        | 1 => sm_bI (C a.1 As σ) hx fun x s => nx (vI x :: S') s
        | 2 => sm_bL (C a.1 As σ) hx fun x s => nx (vL x :: S') s
        | _ => sm_bP (C a.1 As σ) hx fun x s => nx (vP x :: S') s) = some r → ∃ o σ', C a.1 As σ = some (o, σ') ∧ (∀ v, o = some v → nx (v.toList ++ S') σ' = some r) ∧ (o = none → hx σ' = some r) := by
        intro _ hg
        rcases hc : C a.1 As σ with _ | ⟨_ | _ | v, σ'⟩
        · rw [hc] at hg
          split at hg <;> cases hg
        · rw [hc] at hg
          refine ⟨none, σ', rfl, fun v hv => (by cases hv), fun _ => ?_⟩
          split at hg <;> exact hg
        · rw [hc] at hg
          refine ⟨some none, σ', rfl, fun v hv => ?_, fun hv => by cases hv⟩
          cases hv
          split at hg
          · exact hg
          all_goals cases hg
        · rw [hc] at hg
          refine ⟨some (some v), σ', rfl, fun u hu => ?_, fun hv => by cases hv⟩
          cases hu
          rcases v with x | x | x | x <;> split at hg <;> first | exact hg | cases hg
      split at h
      · next h0 =>
        obtain ⟨o, σ', g1, g2, g3⟩ := go (g := none) h
        exact ⟨As, S', o, σ', t1, t2, hcat, g1, fun z => absurd h0 z, g2, g3⟩
      · next t h0 =>
        split at h
        · next q As' =>
          by_cases hq : q.1 = t + 1
          · rw [if_pos hq] at h
            obtain ⟨o, σ', g1, g2, g3⟩ := go (g := none) h
            exact ⟨_, S', o, σ', t1, t2, hcat, g1, fun _ => ⟨q.2, As', by rw [h0]; show _ = vP (t + 1, q.2) :: As'; rw [← hq]⟩, g2, g3⟩
          · rw [if_neg hq] at h; cases h
        · cases h
    · rw [if_neg hcat] at h; cases h
end
end
