-- ===== PART A: goes FIRST, ahead of the names: the tables' words, and 'selects' of the private methods out of them =====
/-- a private method of a class that the tables say can be made, by its rows of tables_1 -/
def lw_okq (q : MethodName × Nat) : Prop := (q.1.cls ≠ "java/lang/invoke/MethodHandle" ∧ q.1.cls ≠ "java/lang/invoke/VarHandle") ∧ Cond.instantiable q.1.cls q.2 ∈ tables_1 ∧ Cond.privateMethod q.1 ∈ tables_1 ∧ Cond.instanceMethod q.1 ∈ tables_1
theorem lw_p0 : lw_okq (⟨"RoundTypes$TypeReader", "readLabel", "()Z"⟩, 7) := ⟨⟨by decide +kernel, by decide +kernel⟩, List.mem_of_getElem? (i := 136) (by decide +kernel), List.mem_of_getElem? (i := 400) (by decide +kernel), List.mem_of_getElem? (i := 401) (by decide +kernel)⟩
theorem lw_p1 : lw_okq (⟨"RoundTypes$TypeReader", "readWord", "()Z"⟩, 7) := ⟨⟨by decide +kernel, by decide +kernel⟩, List.mem_of_getElem? (i := 136) (by decide +kernel), List.mem_of_getElem? (i := 420) (by decide +kernel), List.mem_of_getElem? (i := 421) (by decide +kernel)⟩
theorem lw_p2 : lw_okq (⟨"RoundTypes$TypeReader", "readBind", "()Z"⟩, 7) := ⟨⟨by decide +kernel, by decide +kernel⟩, List.mem_of_getElem? (i := 136) (by decide +kernel), List.mem_of_getElem? (i := 428) (by decide +kernel), List.mem_of_getElem? (i := 429) (by decide +kernel)⟩
theorem lw_p3 : lw_okq (⟨"RoundTypes$TypeReader", "push", "(III)V"⟩, 7) := ⟨⟨by decide +kernel, by decide +kernel⟩, List.mem_of_getElem? (i := 136) (by decide +kernel), List.mem_of_getElem? (i := 433) (by decide +kernel), List.mem_of_getElem? (i := 434) (by decide +kernel)⟩
theorem lw_p4 : lw_okq (⟨"RoundTypes$TypeReader", "readStand", "(I)Z"⟩, 7) := ⟨⟨by decide +kernel, by decide +kernel⟩, List.mem_of_getElem? (i := 136) (by decide +kernel), List.mem_of_getElem? (i := 437) (by decide +kernel), List.mem_of_getElem? (i := 438) (by decide +kernel)⟩
theorem lw_p5 : lw_okq (⟨"RoundTypes$TypeReader", "settle", "(I)V"⟩, 7) := ⟨⟨by decide +kernel, by decide +kernel⟩, List.mem_of_getElem? (i := 136) (by decide +kernel), List.mem_of_getElem? (i := 442) (by decide +kernel), List.mem_of_getElem? (i := 443) (by decide +kernel)⟩
theorem lw_p6 : lw_okq (⟨"RoundTypes$TypeReader", "readNode", "(I)Z"⟩, 7) := ⟨⟨by decide +kernel, by decide +kernel⟩, List.mem_of_getElem? (i := 136) (by decide +kernel), List.mem_of_getElem? (i := 450) (by decide +kernel), List.mem_of_getElem? (i := 451) (by decide +kernel)⟩
theorem lw_p7 : lw_okq (⟨"RoundTypes$TermReader", "readLabel", "()Z"⟩, 8) := ⟨⟨by decide +kernel, by decide +kernel⟩, List.mem_of_getElem? (i := 164) (by decide +kernel), List.mem_of_getElem? (i := 490) (by decide +kernel), List.mem_of_getElem? (i := 491) (by decide +kernel)⟩
theorem lw_p8 : lw_okq (⟨"RoundTypes$TermReader", "wordAround", "()I"⟩, 8) := ⟨⟨by decide +kernel, by decide +kernel⟩, List.mem_of_getElem? (i := 164) (by decide +kernel), List.mem_of_getElem? (i := 494) (by decide +kernel), List.mem_of_getElem? (i := 495) (by decide +kernel)⟩
theorem lw_p9 : lw_okq (⟨"RoundTypes$TermReader", "isCase", "()Z"⟩, 8) := ⟨⟨by decide +kernel, by decide +kernel⟩, List.mem_of_getElem? (i := 164) (by decide +kernel), List.mem_of_getElem? (i := 502) (by decide +kernel), List.mem_of_getElem? (i := 503) (by decide +kernel)⟩
theorem lw_p10 : lw_okq (⟨"RoundTypes$TermReader", "readTerm", "()Z"⟩, 8) := ⟨⟨by decide +kernel, by decide +kernel⟩, List.mem_of_getElem? (i := 164) (by decide +kernel), List.mem_of_getElem? (i := 508) (by decide +kernel), List.mem_of_getElem? (i := 509) (by decide +kernel)⟩
theorem lw_p11 : lw_okq (⟨"RoundTypes$TermReader", "enter", "(I)I"⟩, 8) := ⟨⟨by decide +kernel, by decide +kernel⟩, List.mem_of_getElem? (i := 164) (by decide +kernel), List.mem_of_getElem? (i := 513) (by decide +kernel), List.mem_of_getElem? (i := 514) (by decide +kernel)⟩
theorem lw_p12 : lw_okq (⟨"RoundTypes$TermReader", "readHead", "(III)I"⟩, 8) := ⟨⟨by decide +kernel, by decide +kernel⟩, List.mem_of_getElem? (i := 164) (by decide +kernel), List.mem_of_getElem? (i := 529) (by decide +kernel), List.mem_of_getElem? (i := 530) (by decide +kernel)⟩
theorem lw_p13 : lw_okq (⟨"RoundTypes$TermReader", "readVariable", "(II)Z"⟩, 8) := ⟨⟨by decide +kernel, by decide +kernel⟩, List.mem_of_getElem? (i := 164) (by decide +kernel), List.mem_of_getElem? (i := 533) (by decide +kernel), List.mem_of_getElem? (i := 534) (by decide +kernel)⟩
theorem lw_p14 : lw_okq (⟨"RoundTypes$TermReader", "readTag", "(I)Z"⟩, 8) := ⟨⟨by decide +kernel, by decide +kernel⟩, List.mem_of_getElem? (i := 164) (by decide +kernel), List.mem_of_getElem? (i := 549) (by decide +kernel), List.mem_of_getElem? (i := 550) (by decide +kernel)⟩
theorem lw_p15 : lw_okq (⟨"RoundTypes$TermReader", "push", "(III)V"⟩, 8) := ⟨⟨by decide +kernel, by decide +kernel⟩, List.mem_of_getElem? (i := 164) (by decide +kernel), List.mem_of_getElem? (i := 558) (by decide +kernel), List.mem_of_getElem? (i := 559) (by decide +kernel)⟩
def lw_privs_1 : List (MethodName × Nat) := [(⟨"RoundTypes$TypeReader", "readLabel", "()Z"⟩, 7), (⟨"RoundTypes$TypeReader", "readWord", "()Z"⟩, 7), (⟨"RoundTypes$TypeReader", "readBind", "()Z"⟩, 7), (⟨"RoundTypes$TypeReader", "push", "(III)V"⟩, 7), (⟨"RoundTypes$TypeReader", "readStand", "(I)Z"⟩, 7), (⟨"RoundTypes$TypeReader", "settle", "(I)V"⟩, 7), (⟨"RoundTypes$TypeReader", "readNode", "(I)Z"⟩, 7), (⟨"RoundTypes$TermReader", "readLabel", "()Z"⟩, 8), (⟨"RoundTypes$TermReader", "wordAround", "()I"⟩, 8), (⟨"RoundTypes$TermReader", "isCase", "()Z"⟩, 8), (⟨"RoundTypes$TermReader", "readTerm", "()Z"⟩, 8), (⟨"RoundTypes$TermReader", "enter", "(I)I"⟩, 8), (⟨"RoundTypes$TermReader", "readHead", "(III)I"⟩, 8), (⟨"RoundTypes$TermReader", "readVariable", "(II)Z"⟩, 8), (⟨"RoundTypes$TermReader", "readTag", "(I)Z"⟩, 8), (⟨"RoundTypes$TermReader", "push", "(III)V"⟩, 8)]
theorem lw_r1 : ∀ q ∈ lw_privs_1, lw_okq q := List.forall_mem_cons.mpr ⟨lw_p0, List.forall_mem_cons.mpr ⟨lw_p1, List.forall_mem_cons.mpr ⟨lw_p2, List.forall_mem_cons.mpr ⟨lw_p3, List.forall_mem_cons.mpr ⟨lw_p4, List.forall_mem_cons.mpr ⟨lw_p5, List.forall_mem_cons.mpr ⟨lw_p6, List.forall_mem_cons.mpr ⟨lw_p7, List.forall_mem_cons.mpr ⟨lw_p8, List.forall_mem_cons.mpr ⟨lw_p9, List.forall_mem_cons.mpr ⟨lw_p10, List.forall_mem_cons.mpr ⟨lw_p11, List.forall_mem_cons.mpr ⟨lw_p12, List.forall_mem_cons.mpr ⟨lw_p13, List.forall_mem_cons.mpr ⟨lw_p14, List.forall_mem_cons.mpr ⟨lw_p15, fun _ h => absurd h List.not_mem_nil⟩⟩⟩⟩⟩⟩⟩⟩⟩⟩⟩⟩⟩⟩⟩⟩
theorem lw_p16 : lw_okq (⟨"RoundTypes$TermReader", "settle", "()V"⟩, 8) := ⟨⟨by decide +kernel, by decide +kernel⟩, List.mem_of_getElem? (i := 164) (by decide +kernel), List.mem_of_getElem? (i := 562) (by decide +kernel), List.mem_of_getElem? (i := 563) (by decide +kernel)⟩
theorem lw_p17 : lw_okq (⟨"RoundTypes$Checker", "push", "(I)V"⟩, 10) := ⟨⟨by decide +kernel, by decide +kernel⟩, List.mem_of_getElem? (i := 195) (by decide +kernel), List.mem_of_getElem? (i := 571) (by decide +kernel), List.mem_of_getElem? (i := 572) (by decide +kernel)⟩
theorem lw_p18 : lw_okq (⟨"RoundTypes$Checker", "typeOf", "(I)I"⟩, 10) := ⟨⟨by decide +kernel, by decide +kernel⟩, List.mem_of_getElem? (i := 195) (by decide +kernel), List.mem_of_getElem? (i := 588) (by decide +kernel), List.mem_of_getElem? (i := 589) (by decide +kernel)⟩
theorem lw_p19 : lw_okq (⟨"RoundTypes$Checker", "typeOfVariable", "(I)I"⟩, 10) := ⟨⟨by decide +kernel, by decide +kernel⟩, List.mem_of_getElem? (i := 195) (by decide +kernel), List.mem_of_getElem? (i := 597) (by decide +kernel), List.mem_of_getElem? (i := 598) (by decide +kernel)⟩
theorem lw_p20 : lw_okq (⟨"RoundTypes$Checker", "typeIn", "(II)I"⟩, 10) := ⟨⟨by decide +kernel, by decide +kernel⟩, List.mem_of_getElem? (i := 195) (by decide +kernel), List.mem_of_getElem? (i := 601) (by decide +kernel), List.mem_of_getElem? (i := 602) (by decide +kernel)⟩
theorem lw_p21 : lw_okq (⟨"RoundTypes$Checker", "typeOfLambda", "(II)I"⟩, 10) := ⟨⟨by decide +kernel, by decide +kernel⟩, List.mem_of_getElem? (i := 195) (by decide +kernel), List.mem_of_getElem? (i := 606) (by decide +kernel), List.mem_of_getElem? (i := 607) (by decide +kernel)⟩
theorem lw_p22 : lw_okq (⟨"RoundTypes$Checker", "typeOfApply", "(II)I"⟩, 10) := ⟨⟨by decide +kernel, by decide +kernel⟩, List.mem_of_getElem? (i := 195) (by decide +kernel), List.mem_of_getElem? (i := 616) (by decide +kernel), List.mem_of_getElem? (i := 617) (by decide +kernel)⟩
theorem lw_p23 : lw_okq (⟨"RoundTypes$Order", "forget", "()V"⟩, 4) := ⟨⟨by decide +kernel, by decide +kernel⟩, List.mem_of_getElem? (i := 68) (by decide +kernel), List.mem_of_getElem? (i := 626) (by decide +kernel), List.mem_of_getElem? (i := 627) (by decide +kernel)⟩
theorem lw_p24 : lw_okq (⟨"RoundTypes$Order", "enter", "(IIII)V"⟩, 4) := ⟨⟨by decide +kernel, by decide +kernel⟩, List.mem_of_getElem? (i := 68) (by decide +kernel), List.mem_of_getElem? (i := 631) (by decide +kernel), List.mem_of_getElem? (i := 632) (by decide +kernel)⟩
theorem lw_p25 : lw_okq (⟨"RoundTypes$Order", "fitAtSight", "(II)Z"⟩, 4) := ⟨⟨by decide +kernel, by decide +kernel⟩, List.mem_of_getElem? (i := 68) (by decide +kernel), List.mem_of_getElem? (i := 635) (by decide +kernel), List.mem_of_getElem? (i := 636) (by decide +kernel)⟩
theorem lw_p26 : lw_okq (⟨"RoundTypes$Order", "enterParts", "(III)V"⟩, 4) := ⟨⟨by decide +kernel, by decide +kernel⟩, List.mem_of_getElem? (i := 68) (by decide +kernel), List.mem_of_getElem? (i := 644) (by decide +kernel), List.mem_of_getElem? (i := 645) (by decide +kernel)⟩
theorem lw_p27 : lw_okq (⟨"RoundTypes$Checker", "bothNumbers", "(I)Z"⟩, 10) := ⟨⟨by decide +kernel, by decide +kernel⟩, List.mem_of_getElem? (i := 195) (by decide +kernel), List.mem_of_getElem? (i := 649) (by decide +kernel), List.mem_of_getElem? (i := 650) (by decide +kernel)⟩
theorem lw_p28 : lw_okq (⟨"RoundTypes$Checker", "isOrNothing", "(II)Z"⟩, 10) := ⟨⟨by decide +kernel, by decide +kernel⟩, List.mem_of_getElem? (i := 195) (by decide +kernel), List.mem_of_getElem? (i := 653) (by decide +kernel), List.mem_of_getElem? (i := 654) (by decide +kernel)⟩
theorem lw_p29 : lw_okq (⟨"RoundTypes$Checker", "typeOfGather", "(I)I"⟩, 10) := ⟨⟨by decide +kernel, by decide +kernel⟩, List.mem_of_getElem? (i := 195) (by decide +kernel), List.mem_of_getElem? (i := 657) (by decide +kernel), List.mem_of_getElem? (i := 658) (by decide +kernel)⟩
theorem lw_p30 : lw_okq (⟨"RoundTypes$Checker", "typeOfPick", "(II)I"⟩, 10) := ⟨⟨by decide +kernel, by decide +kernel⟩, List.mem_of_getElem? (i := 195) (by decide +kernel), List.mem_of_getElem? (i := 666) (by decide +kernel), List.mem_of_getElem? (i := 667) (by decide +kernel)⟩
theorem lw_p31 : lw_okq (⟨"RoundTypes$Checker", "typeOfTag", "(III)I"⟩, 10) := ⟨⟨by decide +kernel, by decide +kernel⟩, List.mem_of_getElem? (i := 195) (by decide +kernel), List.mem_of_getElem? (i := 670) (by decide +kernel), List.mem_of_getElem? (i := 671) (by decide +kernel)⟩
def lw_privs_2 : List (MethodName × Nat) := [(⟨"RoundTypes$TermReader", "settle", "()V"⟩, 8), (⟨"RoundTypes$Checker", "push", "(I)V"⟩, 10), (⟨"RoundTypes$Checker", "typeOf", "(I)I"⟩, 10), (⟨"RoundTypes$Checker", "typeOfVariable", "(I)I"⟩, 10), (⟨"RoundTypes$Checker", "typeIn", "(II)I"⟩, 10), (⟨"RoundTypes$Checker", "typeOfLambda", "(II)I"⟩, 10), (⟨"RoundTypes$Checker", "typeOfApply", "(II)I"⟩, 10), (⟨"RoundTypes$Order", "forget", "()V"⟩, 4), (⟨"RoundTypes$Order", "enter", "(IIII)V"⟩, 4), (⟨"RoundTypes$Order", "fitAtSight", "(II)Z"⟩, 4), (⟨"RoundTypes$Order", "enterParts", "(III)V"⟩, 4), (⟨"RoundTypes$Checker", "bothNumbers", "(I)Z"⟩, 10), (⟨"RoundTypes$Checker", "isOrNothing", "(II)Z"⟩, 10), (⟨"RoundTypes$Checker", "typeOfGather", "(I)I"⟩, 10), (⟨"RoundTypes$Checker", "typeOfPick", "(II)I"⟩, 10), (⟨"RoundTypes$Checker", "typeOfTag", "(III)I"⟩, 10)]
theorem lw_r2 : ∀ q ∈ lw_privs_2, lw_okq q := List.forall_mem_cons.mpr ⟨lw_p16, List.forall_mem_cons.mpr ⟨lw_p17, List.forall_mem_cons.mpr ⟨lw_p18, List.forall_mem_cons.mpr ⟨lw_p19, List.forall_mem_cons.mpr ⟨lw_p20, List.forall_mem_cons.mpr ⟨lw_p21, List.forall_mem_cons.mpr ⟨lw_p22, List.forall_mem_cons.mpr ⟨lw_p23, List.forall_mem_cons.mpr ⟨lw_p24, List.forall_mem_cons.mpr ⟨lw_p25, List.forall_mem_cons.mpr ⟨lw_p26, List.forall_mem_cons.mpr ⟨lw_p27, List.forall_mem_cons.mpr ⟨lw_p28, List.forall_mem_cons.mpr ⟨lw_p29, List.forall_mem_cons.mpr ⟨lw_p30, List.forall_mem_cons.mpr ⟨lw_p31, fun _ h => absurd h List.not_mem_nil⟩⟩⟩⟩⟩⟩⟩⟩⟩⟩⟩⟩⟩⟩⟩⟩
theorem lw_p32 : lw_okq (⟨"RoundTypes$Checker", "typeOfSort", "(I)I"⟩, 10) := ⟨⟨by decide +kernel, by decide +kernel⟩, List.mem_of_getElem? (i := 195) (by decide +kernel), List.mem_of_getElem? (i := 674) (by decide +kernel), List.mem_of_getElem? (i := 675) (by decide +kernel)⟩
theorem lw_p33 : lw_okq (⟨"RoundTypes$Checker", "typeOfItself", "(II)I"⟩, 10) := ⟨⟨by decide +kernel, by decide +kernel⟩, List.mem_of_getElem? (i := 195) (by decide +kernel), List.mem_of_getElem? (i := 679) (by decide +kernel), List.mem_of_getElem? (i := 680) (by decide +kernel)⟩
theorem lw_p34 : lw_okq (⟨"RoundTypes$Checker", "joinBranches", "(II)I"⟩, 10) := ⟨⟨by decide +kernel, by decide +kernel⟩, List.mem_of_getElem? (i := 195) (by decide +kernel), List.mem_of_getElem? (i := 683) (by decide +kernel), List.mem_of_getElem? (i := 684) (by decide +kernel)⟩
theorem lw_p35 : lw_okq (⟨"RoundTypes$Bounds", "joinTop", "(III)I"⟩, 6) := ⟨⟨by decide +kernel, by decide +kernel⟩, List.mem_of_getElem? (i := 89) (by decide +kernel), List.mem_of_getElem? (i := 692) (by decide +kernel), List.mem_of_getElem? (i := 693) (by decide +kernel)⟩
theorem lw_p36 : lw_okq (⟨"RoundTypes$Bounds", "madeFor", "(I)I"⟩, 6) := ⟨⟨by decide +kernel, by decide +kernel⟩, List.mem_of_getElem? (i := 89) (by decide +kernel), List.mem_of_getElem? (i := 697) (by decide +kernel), List.mem_of_getElem? (i := 698) (by decide +kernel)⟩
theorem lw_p37 : lw_okq (⟨"RoundTypes$Bounds", "makeFor", "(II)I"⟩, 6) := ⟨⟨by decide +kernel, by decide +kernel⟩, List.mem_of_getElem? (i := 89) (by decide +kernel), List.mem_of_getElem? (i := 701) (by decide +kernel), List.mem_of_getElem? (i := 702) (by decide +kernel)⟩
theorem lw_p38 : lw_okq (⟨"RoundTypes$Bounds", "keyOf", "(I)I"⟩, 6) := ⟨⟨by decide +kernel, by decide +kernel⟩, List.mem_of_getElem? (i := 89) (by decide +kernel), List.mem_of_getElem? (i := 706) (by decide +kernel), List.mem_of_getElem? (i := 707) (by decide +kernel)⟩
theorem lw_p39 : lw_okq (⟨"RoundTypes$Bounds", "howOfPart", "(II)I"⟩, 6) := ⟨⟨by decide +kernel, by decide +kernel⟩, List.mem_of_getElem? (i := 89) (by decide +kernel), List.mem_of_getElem? (i := 711) (by decide +kernel), List.mem_of_getElem? (i := 712) (by decide +kernel)⟩
theorem lw_p40 : lw_okq (⟨"RoundTypes$Bounds", "lonePart", "(III)I"⟩, 6) := ⟨⟨by decide +kernel, by decide +kernel⟩, List.mem_of_getElem? (i := 89) (by decide +kernel), List.mem_of_getElem? (i := 715) (by decide +kernel), List.mem_of_getElem? (i := 716) (by decide +kernel)⟩
theorem lw_p41 : lw_okq (⟨"RoundTypes$Checker", "setType", "(II)V"⟩, 10) := ⟨⟨by decide +kernel, by decide +kernel⟩, List.mem_of_getElem? (i := 195) (by decide +kernel), List.mem_of_getElem? (i := 721) (by decide +kernel), List.mem_of_getElem? (i := 722) (by decide +kernel)⟩
theorem lw_p42 : lw_okq (⟨"RoundTypes$Checker", "bindIn", "(III)I"⟩, 10) := ⟨⟨by decide +kernel, by decide +kernel⟩, List.mem_of_getElem? (i := 195) (by decide +kernel), List.mem_of_getElem? (i := 725) (by decide +kernel), List.mem_of_getElem? (i := 726) (by decide +kernel)⟩
theorem lw_p43 : lw_okq (⟨"RoundTypes$Checker", "typeOfCase", "(II)I"⟩, 10) := ⟨⟨by decide +kernel, by decide +kernel⟩, List.mem_of_getElem? (i := 195) (by decide +kernel), List.mem_of_getElem? (i := 729) (by decide +kernel), List.mem_of_getElem? (i := 730) (by decide +kernel)⟩
theorem lw_p44 : lw_okq (⟨"RoundTypes$Order", "stepsTo", "(I)I"⟩, 4) := ⟨⟨by decide +kernel, by decide +kernel⟩, List.mem_of_getElem? (i := 68) (by decide +kernel), List.mem_of_getElem? (i := 766) (by decide +kernel), List.mem_of_getElem? (i := 767) (by decide +kernel)⟩
theorem lw_p45 : lw_okq (⟨"RoundTypes$Order", "cameFrom", "(I)I"⟩, 4) := ⟨⟨by decide +kernel, by decide +kernel⟩, List.mem_of_getElem? (i := 68) (by decide +kernel), List.mem_of_getElem? (i := 770) (by decide +kernel), List.mem_of_getElem? (i := 771) (by decide +kernel)⟩
theorem lw_p46 : lw_okq (⟨"RoundTypes$Machine", "want", "(II)V"⟩, 13) := ⟨⟨by decide +kernel, by decide +kernel⟩, List.mem_of_getElem? (i := 232) (by decide +kernel), List.mem_of_getElem? (i := 801) (by decide +kernel), List.mem_of_getElem? (i := 802) (by decide +kernel)⟩
theorem lw_p47 : lw_okq (⟨"RoundTypes$Machine", "resume", "()V"⟩, 13) := ⟨⟨by decide +kernel, by decide +kernel⟩, List.mem_of_getElem? (i := 232) (by decide +kernel), List.mem_of_getElem? (i := 806) (by decide +kernel), List.mem_of_getElem? (i := 807) (by decide +kernel)⟩
def lw_privs_3 : List (MethodName × Nat) := [(⟨"RoundTypes$Checker", "typeOfSort", "(I)I"⟩, 10), (⟨"RoundTypes$Checker", "typeOfItself", "(II)I"⟩, 10), (⟨"RoundTypes$Checker", "joinBranches", "(II)I"⟩, 10), (⟨"RoundTypes$Bounds", "joinTop", "(III)I"⟩, 6), (⟨"RoundTypes$Bounds", "madeFor", "(I)I"⟩, 6), (⟨"RoundTypes$Bounds", "makeFor", "(II)I"⟩, 6), (⟨"RoundTypes$Bounds", "keyOf", "(I)I"⟩, 6), (⟨"RoundTypes$Bounds", "howOfPart", "(II)I"⟩, 6), (⟨"RoundTypes$Bounds", "lonePart", "(III)I"⟩, 6), (⟨"RoundTypes$Checker", "setType", "(II)V"⟩, 10), (⟨"RoundTypes$Checker", "bindIn", "(III)I"⟩, 10), (⟨"RoundTypes$Checker", "typeOfCase", "(II)I"⟩, 10), (⟨"RoundTypes$Order", "stepsTo", "(I)I"⟩, 4), (⟨"RoundTypes$Order", "cameFrom", "(I)I"⟩, 4), (⟨"RoundTypes$Machine", "want", "(II)V"⟩, 13), (⟨"RoundTypes$Machine", "resume", "()V"⟩, 13)]
theorem lw_r3 : ∀ q ∈ lw_privs_3, lw_okq q := List.forall_mem_cons.mpr ⟨lw_p32, List.forall_mem_cons.mpr ⟨lw_p33, List.forall_mem_cons.mpr ⟨lw_p34, List.forall_mem_cons.mpr ⟨lw_p35, List.forall_mem_cons.mpr ⟨lw_p36, List.forall_mem_cons.mpr ⟨lw_p37, List.forall_mem_cons.mpr ⟨lw_p38, List.forall_mem_cons.mpr ⟨lw_p39, List.forall_mem_cons.mpr ⟨lw_p40, List.forall_mem_cons.mpr ⟨lw_p41, List.forall_mem_cons.mpr ⟨lw_p42, List.forall_mem_cons.mpr ⟨lw_p43, List.forall_mem_cons.mpr ⟨lw_p44, List.forall_mem_cons.mpr ⟨lw_p45, List.forall_mem_cons.mpr ⟨lw_p46, List.forall_mem_cons.mpr ⟨lw_p47, fun _ h => absurd h List.not_mem_nil⟩⟩⟩⟩⟩⟩⟩⟩⟩⟩⟩⟩⟩⟩⟩⟩
theorem lw_p48 : lw_okq (⟨"RoundTypes$Machine", "neededBy", "(I)I"⟩, 13) := ⟨⟨by decide +kernel, by decide +kernel⟩, List.mem_of_getElem? (i := 232) (by decide +kernel), List.mem_of_getElem? (i := 810) (by decide +kernel), List.mem_of_getElem? (i := 811) (by decide +kernel)⟩
theorem lw_p49 : lw_okq (⟨"RoundTypes$Machine", "gottenBy", "(II)I"⟩, 13) := ⟨⟨by decide +kernel, by decide +kernel⟩, List.mem_of_getElem? (i := 232) (by decide +kernel), List.mem_of_getElem? (i := 817) (by decide +kernel), List.mem_of_getElem? (i := 818) (by decide +kernel)⟩
theorem lw_p50 : lw_okq (⟨"RoundTypes$Machine", "finish", "(III)V"⟩, 13) := ⟨⟨by decide +kernel, by decide +kernel⟩, List.mem_of_getElem? (i := 232) (by decide +kernel), List.mem_of_getElem? (i := 821) (by decide +kernel), List.mem_of_getElem? (i := 822) (by decide +kernel)⟩
theorem lw_p51 : lw_okq (⟨"RoundTypes$Machine", "give", "(I)V"⟩, 13) := ⟨⟨by decide +kernel, by decide +kernel⟩, List.mem_of_getElem? (i := 232) (by decide +kernel), List.mem_of_getElem? (i := 850) (by decide +kernel), List.mem_of_getElem? (i := 851) (by decide +kernel)⟩
theorem lw_p52 : lw_okq (⟨"RoundTypes$Machine", "gather", "(II)I"⟩, 13) := ⟨⟨by decide +kernel, by decide +kernel⟩, List.mem_of_getElem? (i := 232) (by decide +kernel), List.mem_of_getElem? (i := 854) (by decide +kernel), List.mem_of_getElem? (i := 855) (by decide +kernel)⟩
theorem lw_p53 : lw_okq (⟨"RoundTypes$Machine", "tag", "(II)I"⟩, 13) := ⟨⟨by decide +kernel, by decide +kernel⟩, List.mem_of_getElem? (i := 232) (by decide +kernel), List.mem_of_getElem? (i := 867) (by decide +kernel), List.mem_of_getElem? (i := 868) (by decide +kernel)⟩
theorem lw_p54 : lw_okq (⟨"RoundTypes$Machine", "caseFor", "(II)I"⟩, 13) := ⟨⟨by decide +kernel, by decide +kernel⟩, List.mem_of_getElem? (i := 232) (by decide +kernel), List.mem_of_getElem? (i := 871) (by decide +kernel), List.mem_of_getElem? (i := 872) (by decide +kernel)⟩
theorem lw_p55 : lw_okq (⟨"RoundTypes$Machine", "partOfChoice", "(I)I"⟩, 13) := ⟨⟨by decide +kernel, by decide +kernel⟩, List.mem_of_getElem? (i := 232) (by decide +kernel), List.mem_of_getElem? (i := 875) (by decide +kernel), List.mem_of_getElem? (i := 876) (by decide +kernel)⟩
theorem lw_p56 : lw_okq (⟨"RoundTypes$Machine", "begin", "(II)V"⟩, 13) := ⟨⟨by decide +kernel, by decide +kernel⟩, List.mem_of_getElem? (i := 232) (by decide +kernel), List.mem_of_getElem? (i := 879) (by decide +kernel), List.mem_of_getElem? (i := 880) (by decide +kernel)⟩
theorem lw_p57 : lw_okq (⟨"RoundTypes$Machine", "beginLambda", "(II)V"⟩, 13) := ⟨⟨by decide +kernel, by decide +kernel⟩, List.mem_of_getElem? (i := 232) (by decide +kernel), List.mem_of_getElem? (i := 887) (by decide +kernel), List.mem_of_getElem? (i := 888) (by decide +kernel)⟩
theorem lw_p58 : lw_okq (⟨"RoundTypes$Machine", "beginItself", "(II)V"⟩, 13) := ⟨⟨by decide +kernel, by decide +kernel⟩, List.mem_of_getElem? (i := 232) (by decide +kernel), List.mem_of_getElem? (i := 895) (by decide +kernel), List.mem_of_getElem? (i := 896) (by decide +kernel)⟩
theorem lw_p59 : lw_okq (⟨"RoundTypes$Machine", "beginOpen", "(II)V"⟩, 13) := ⟨⟨by decide +kernel, by decide +kernel⟩, List.mem_of_getElem? (i := 232) (by decide +kernel), List.mem_of_getElem? (i := 899) (by decide +kernel), List.mem_of_getElem? (i := 900) (by decide +kernel)⟩
theorem lw_p60 : lw_okq (⟨"RoundTypes$Machine", "push", "(II)V"⟩, 13) := ⟨⟨by decide +kernel, by decide +kernel⟩, List.mem_of_getElem? (i := 232) (by decide +kernel), List.mem_of_getElem? (i := 903) (by decide +kernel), List.mem_of_getElem? (i := 904) (by decide +kernel)⟩
theorem lw_p61 : lw_okq (⟨"RoundTypesModel", "readWord", "()I"⟩, 76) := ⟨⟨by decide +kernel, by decide +kernel⟩, List.mem_of_getElem? (i := 938) (by decide +kernel), List.mem_of_getElem? (i := 1187) (by decide +kernel), List.mem_of_getElem? (i := 1188) (by decide +kernel)⟩
theorem lw_p62 : lw_okq (⟨"RoundTypesModel", "take", "(II)I"⟩, 76) := ⟨⟨by decide +kernel, by decide +kernel⟩, List.mem_of_getElem? (i := 938) (by decide +kernel), List.mem_of_getElem? (i := 1191) (by decide +kernel), List.mem_of_getElem? (i := 1192) (by decide +kernel)⟩
theorem lw_p63 : lw_okq (⟨"RoundTypesModel", "fail", "(II)I"⟩, 76) := ⟨⟨by decide +kernel, by decide +kernel⟩, List.mem_of_getElem? (i := 938) (by decide +kernel), List.mem_of_getElem? (i := 1195) (by decide +kernel), List.mem_of_getElem? (i := 1196) (by decide +kernel)⟩
def lw_privs_4 : List (MethodName × Nat) := [(⟨"RoundTypes$Machine", "neededBy", "(I)I"⟩, 13), (⟨"RoundTypes$Machine", "gottenBy", "(II)I"⟩, 13), (⟨"RoundTypes$Machine", "finish", "(III)V"⟩, 13), (⟨"RoundTypes$Machine", "give", "(I)V"⟩, 13), (⟨"RoundTypes$Machine", "gather", "(II)I"⟩, 13), (⟨"RoundTypes$Machine", "tag", "(II)I"⟩, 13), (⟨"RoundTypes$Machine", "caseFor", "(II)I"⟩, 13), (⟨"RoundTypes$Machine", "partOfChoice", "(I)I"⟩, 13), (⟨"RoundTypes$Machine", "begin", "(II)V"⟩, 13), (⟨"RoundTypes$Machine", "beginLambda", "(II)V"⟩, 13), (⟨"RoundTypes$Machine", "beginItself", "(II)V"⟩, 13), (⟨"RoundTypes$Machine", "beginOpen", "(II)V"⟩, 13), (⟨"RoundTypes$Machine", "push", "(II)V"⟩, 13), (⟨"RoundTypesModel", "readWord", "()I"⟩, 76), (⟨"RoundTypesModel", "take", "(II)I"⟩, 76), (⟨"RoundTypesModel", "fail", "(II)I"⟩, 76)]
theorem lw_r4 : ∀ q ∈ lw_privs_4, lw_okq q := List.forall_mem_cons.mpr ⟨lw_p48, List.forall_mem_cons.mpr ⟨lw_p49, List.forall_mem_cons.mpr ⟨lw_p50, List.forall_mem_cons.mpr ⟨lw_p51, List.forall_mem_cons.mpr ⟨lw_p52, List.forall_mem_cons.mpr ⟨lw_p53, List.forall_mem_cons.mpr ⟨lw_p54, List.forall_mem_cons.mpr ⟨lw_p55, List.forall_mem_cons.mpr ⟨lw_p56, List.forall_mem_cons.mpr ⟨lw_p57, List.forall_mem_cons.mpr ⟨lw_p58, List.forall_mem_cons.mpr ⟨lw_p59, List.forall_mem_cons.mpr ⟨lw_p60, List.forall_mem_cons.mpr ⟨lw_p61, List.forall_mem_cons.mpr ⟨lw_p62, List.forall_mem_cons.mpr ⟨lw_p63, fun _ h => absurd h List.not_mem_nil⟩⟩⟩⟩⟩⟩⟩⟩⟩⟩⟩⟩⟩⟩⟩⟩
theorem lw_p64 : lw_okq (⟨"RoundTypesModel", "pushFrame", "(III)V"⟩, 76) := ⟨⟨by decide +kernel, by decide +kernel⟩, List.mem_of_getElem? (i := 938) (by decide +kernel), List.mem_of_getElem? (i := 1202) (by decide +kernel), List.mem_of_getElem? (i := 1203) (by decide +kernel)⟩
theorem lw_p65 : lw_okq (⟨"RoundTypesModel", "readName", "(I)I"⟩, 76) := ⟨⟨by decide +kernel, by decide +kernel⟩, List.mem_of_getElem? (i := 938) (by decide +kernel), List.mem_of_getElem? (i := 1206) (by decide +kernel), List.mem_of_getElem? (i := 1207) (by decide +kernel)⟩
theorem lw_p66 : lw_okq (⟨"RoundTypesModel", "resolve", "(I)V"⟩, 76) := ⟨⟨by decide +kernel, by decide +kernel⟩, List.mem_of_getElem? (i := 938) (by decide +kernel), List.mem_of_getElem? (i := 1210) (by decide +kernel), List.mem_of_getElem? (i := 1211) (by decide +kernel)⟩
theorem lw_p67 : lw_okq (⟨"RoundTypesModel", "newNode", "(II)I"⟩, 76) := ⟨⟨by decide +kernel, by decide +kernel⟩, List.mem_of_getElem? (i := 938) (by decide +kernel), List.mem_of_getElem? (i := 1214) (by decide +kernel), List.mem_of_getElem? (i := 1215) (by decide +kernel)⟩
theorem lw_p68 : lw_okq (⟨"RoundTypesModel", "takeLabel", "()V"⟩, 76) := ⟨⟨by decide +kernel, by decide +kernel⟩, List.mem_of_getElem? (i := 938) (by decide +kernel), List.mem_of_getElem? (i := 1218) (by decide +kernel), List.mem_of_getElem? (i := 1219) (by decide +kernel)⟩
theorem lw_p69 : lw_okq (⟨"RoundTypesModel", "settle", "(I)I"⟩, 76) := ⟨⟨by decide +kernel, by decide +kernel⟩, List.mem_of_getElem? (i := 938) (by decide +kernel), List.mem_of_getElem? (i := 1222) (by decide +kernel), List.mem_of_getElem? (i := 1223) (by decide +kernel)⟩
theorem lw_p70 : lw_okq (⟨"RoundTypesModel", "isNode", "(I)Z"⟩, 76) := ⟨⟨by decide +kernel, by decide +kernel⟩, List.mem_of_getElem? (i := 938) (by decide +kernel), List.mem_of_getElem? (i := 1230) (by decide +kernel), List.mem_of_getElem? (i := 1231) (by decide +kernel)⟩
theorem lw_p71 : lw_okq (⟨"RoundTypesModel", "isBelow", "(II)Z"⟩, 76) := ⟨⟨by decide +kernel, by decide +kernel⟩, List.mem_of_getElem? (i := 938) (by decide +kernel), List.mem_of_getElem? (i := 1234) (by decide +kernel), List.mem_of_getElem? (i := 1235) (by decide +kernel)⟩
theorem lw_p72 : lw_okq (⟨"RoundTypesModel", "farOf", "(II)I"⟩, 76) := ⟨⟨by decide +kernel, by decide +kernel⟩, List.mem_of_getElem? (i := 938) (by decide +kernel), List.mem_of_getElem? (i := 1238) (by decide +kernel), List.mem_of_getElem? (i := 1239) (by decide +kernel)⟩
theorem lw_p73 : lw_okq (⟨"RoundTypesModel", "measure", "()V"⟩, 76) := ⟨⟨by decide +kernel, by decide +kernel⟩, List.mem_of_getElem? (i := 938) (by decide +kernel), List.mem_of_getElem? (i := 1242) (by decide +kernel), List.mem_of_getElem? (i := 1243) (by decide +kernel)⟩
theorem lw_p74 : lw_okq (⟨"RoundTypesModel", "fits", "(II)Z"⟩, 76) := ⟨⟨by decide +kernel, by decide +kernel⟩, List.mem_of_getElem? (i := 938) (by decide +kernel), List.mem_of_getElem? (i := 1246) (by decide +kernel), List.mem_of_getElem? (i := 1247) (by decide +kernel)⟩
theorem lw_p75 : lw_okq (⟨"RoundTypesModel", "addBack", "(III)I"⟩, 76) := ⟨⟨by decide +kernel, by decide +kernel⟩, List.mem_of_getElem? (i := 938) (by decide +kernel), List.mem_of_getElem? (i := 1250) (by decide +kernel), List.mem_of_getElem? (i := 1251) (by decide +kernel)⟩
theorem lw_p76 : lw_okq (⟨"RoundTypesModel", "wanted", "(II)I"⟩, 76) := ⟨⟨by decide +kernel, by decide +kernel⟩, List.mem_of_getElem? (i := 938) (by decide +kernel), List.mem_of_getElem? (i := 1254) (by decide +kernel), List.mem_of_getElem? (i := 1255) (by decide +kernel)⟩
theorem lw_p77 : lw_okq (⟨"RoundTypesModel", "nextPair", "(III)I"⟩, 76) := ⟨⟨by decide +kernel, by decide +kernel⟩, List.mem_of_getElem? (i := 938) (by decide +kernel), List.mem_of_getElem? (i := 1258) (by decide +kernel), List.mem_of_getElem? (i := 1259) (by decide +kernel)⟩
theorem lw_p78 : lw_okq (⟨"RoundTypesModel", "part", "(II)I"⟩, 76) := ⟨⟨by decide +kernel, by decide +kernel⟩, List.mem_of_getElem? (i := 938) (by decide +kernel), List.mem_of_getElem? (i := 1262) (by decide +kernel), List.mem_of_getElem? (i := 1263) (by decide +kernel)⟩
theorem lw_p79 : lw_okq (⟨"RoundTypesModel", "join", "(III)I"⟩, 76) := ⟨⟨by decide +kernel, by decide +kernel⟩, List.mem_of_getElem? (i := 938) (by decide +kernel), List.mem_of_getElem? (i := 1278) (by decide +kernel), List.mem_of_getElem? (i := 1279) (by decide +kernel)⟩
def lw_privs_5 : List (MethodName × Nat) := [(⟨"RoundTypesModel", "pushFrame", "(III)V"⟩, 76), (⟨"RoundTypesModel", "readName", "(I)I"⟩, 76), (⟨"RoundTypesModel", "resolve", "(I)V"⟩, 76), (⟨"RoundTypesModel", "newNode", "(II)I"⟩, 76), (⟨"RoundTypesModel", "takeLabel", "()V"⟩, 76), (⟨"RoundTypesModel", "settle", "(I)I"⟩, 76), (⟨"RoundTypesModel", "isNode", "(I)Z"⟩, 76), (⟨"RoundTypesModel", "isBelow", "(II)Z"⟩, 76), (⟨"RoundTypesModel", "farOf", "(II)I"⟩, 76), (⟨"RoundTypesModel", "measure", "()V"⟩, 76), (⟨"RoundTypesModel", "fits", "(II)Z"⟩, 76), (⟨"RoundTypesModel", "addBack", "(III)I"⟩, 76), (⟨"RoundTypesModel", "wanted", "(II)I"⟩, 76), (⟨"RoundTypesModel", "nextPair", "(III)I"⟩, 76), (⟨"RoundTypesModel", "part", "(II)I"⟩, 76), (⟨"RoundTypesModel", "join", "(III)I"⟩, 76)]
theorem lw_r5 : ∀ q ∈ lw_privs_5, lw_okq q := List.forall_mem_cons.mpr ⟨lw_p64, List.forall_mem_cons.mpr ⟨lw_p65, List.forall_mem_cons.mpr ⟨lw_p66, List.forall_mem_cons.mpr ⟨lw_p67, List.forall_mem_cons.mpr ⟨lw_p68, List.forall_mem_cons.mpr ⟨lw_p69, List.forall_mem_cons.mpr ⟨lw_p70, List.forall_mem_cons.mpr ⟨lw_p71, List.forall_mem_cons.mpr ⟨lw_p72, List.forall_mem_cons.mpr ⟨lw_p73, List.forall_mem_cons.mpr ⟨lw_p74, List.forall_mem_cons.mpr ⟨lw_p75, List.forall_mem_cons.mpr ⟨lw_p76, List.forall_mem_cons.mpr ⟨lw_p77, List.forall_mem_cons.mpr ⟨lw_p78, List.forall_mem_cons.mpr ⟨lw_p79, fun _ h => absurd h List.not_mem_nil⟩⟩⟩⟩⟩⟩⟩⟩⟩⟩⟩⟩⟩⟩⟩⟩
theorem lw_p80 : lw_okq (⟨"RoundTypesModel", "ask", "(IIIII)V"⟩, 76) := ⟨⟨by decide +kernel, by decide +kernel⟩, List.mem_of_getElem? (i := 938) (by decide +kernel), List.mem_of_getElem? (i := 1282) (by decide +kernel), List.mem_of_getElem? (i := 1283) (by decide +kernel)⟩
theorem lw_p81 : lw_okq (⟨"RoundTypesModel", "simple", "(III)I"⟩, 76) := ⟨⟨by decide +kernel, by decide +kernel⟩, List.mem_of_getElem? (i := 938) (by decide +kernel), List.mem_of_getElem? (i := 1286) (by decide +kernel), List.mem_of_getElem? (i := 1287) (by decide +kernel)⟩
theorem lw_p82 : lw_okq (⟨"RoundTypesModel", "findMade", "(III)I"⟩, 76) := ⟨⟨by decide +kernel, by decide +kernel⟩, List.mem_of_getElem? (i := 938) (by decide +kernel), List.mem_of_getElem? (i := 1290) (by decide +kernel), List.mem_of_getElem? (i := 1291) (by decide +kernel)⟩
theorem lw_p83 : lw_okq (⟨"RoundTypesModel", "make", "(III)I"⟩, 76) := ⟨⟨by decide +kernel, by decide +kernel⟩, List.mem_of_getElem? (i := 938) (by decide +kernel), List.mem_of_getElem? (i := 1294) (by decide +kernel), List.mem_of_getElem? (i := 1295) (by decide +kernel)⟩
theorem lw_p84 : lw_okq (⟨"RoundTypesModel", "readTerms", "()V"⟩, 76) := ⟨⟨by decide +kernel, by decide +kernel⟩, List.mem_of_getElem? (i := 938) (by decide +kernel), List.mem_of_getElem? (i := 1314) (by decide +kernel), List.mem_of_getElem? (i := 1315) (by decide +kernel)⟩
theorem lw_p85 : lw_okq (⟨"RoundTypesModel", "readTermWord", "(IZ)I"⟩, 76) := ⟨⟨by decide +kernel, by decide +kernel⟩, List.mem_of_getElem? (i := 938) (by decide +kernel), List.mem_of_getElem? (i := 1318) (by decide +kernel), List.mem_of_getElem? (i := 1319) (by decide +kernel)⟩
theorem lw_p86 : lw_okq (⟨"RoundTypesModel", "takeNode", "()V"⟩, 76) := ⟨⟨by decide +kernel, by decide +kernel⟩, List.mem_of_getElem? (i := 938) (by decide +kernel), List.mem_of_getElem? (i := 1325) (by decide +kernel), List.mem_of_getElem? (i := 1326) (by decide +kernel)⟩
theorem lw_p87 : lw_okq (⟨"RoundTypesModel", "readChoice", "(I)V"⟩, 76) := ⟨⟨by decide +kernel, by decide +kernel⟩, List.mem_of_getElem? (i := 938) (by decide +kernel), List.mem_of_getElem? (i := 1331) (by decide +kernel), List.mem_of_getElem? (i := 1332) (by decide +kernel)⟩
theorem lw_p88 : lw_okq (⟨"RoundTypesModel", "isLabelled", "(I)Z"⟩, 76) := ⟨⟨by decide +kernel, by decide +kernel⟩, List.mem_of_getElem? (i := 938) (by decide +kernel), List.mem_of_getElem? (i := 1335) (by decide +kernel), List.mem_of_getElem? (i := 1336) (by decide +kernel)⟩
theorem lw_p89 : lw_okq (⟨"RoundTypesModel", "takeTermLabel", "(I)V"⟩, 76) := ⟨⟨by decide +kernel, by decide +kernel⟩, List.mem_of_getElem? (i := 938) (by decide +kernel), List.mem_of_getElem? (i := 1339) (by decide +kernel), List.mem_of_getElem? (i := 1340) (by decide +kernel)⟩
theorem lw_p90 : lw_okq (⟨"RoundTypesModel", "typeTerms", "()V"⟩, 76) := ⟨⟨by decide +kernel, by decide +kernel⟩, List.mem_of_getElem? (i := 938) (by decide +kernel), List.mem_of_getElem? (i := 1343) (by decide +kernel), List.mem_of_getElem? (i := 1344) (by decide +kernel)⟩
theorem lw_p91 : lw_okq (⟨"RoundTypesModel", "beginTyping", "(II)V"⟩, 76) := ⟨⟨by decide +kernel, by decide +kernel⟩, List.mem_of_getElem? (i := 938) (by decide +kernel), List.mem_of_getElem? (i := 1347) (by decide +kernel), List.mem_of_getElem? (i := 1348) (by decide +kernel)⟩
theorem lw_p92 : lw_okq (⟨"RoundTypesModel", "bindFor", "(II)I"⟩, 76) := ⟨⟨by decide +kernel, by decide +kernel⟩, List.mem_of_getElem? (i := 938) (by decide +kernel), List.mem_of_getElem? (i := 1351) (by decide +kernel), List.mem_of_getElem? (i := 1352) (by decide +kernel)⟩
theorem lw_p93 : lw_okq (⟨"RoundTypesModel", "typeInside", "(II)I"⟩, 76) := ⟨⟨by decide +kernel, by decide +kernel⟩, List.mem_of_getElem? (i := 938) (by decide +kernel), List.mem_of_getElem? (i := 1355) (by decide +kernel), List.mem_of_getElem? (i := 1356) (by decide +kernel)⟩
theorem lw_p94 : lw_okq (⟨"RoundTypesModel", "more", "(I)I"⟩, 76) := ⟨⟨by decide +kernel, by decide +kernel⟩, List.mem_of_getElem? (i := 938) (by decide +kernel), List.mem_of_getElem? (i := 1359) (by decide +kernel), List.mem_of_getElem? (i := 1360) (by decide +kernel)⟩
theorem lw_p95 : lw_okq (⟨"RoundTypesModel", "insideAt", "(II)I"⟩, 76) := ⟨⟨by decide +kernel, by decide +kernel⟩, List.mem_of_getElem? (i := 938) (by decide +kernel), List.mem_of_getElem? (i := 1363) (by decide +kernel), List.mem_of_getElem? (i := 1364) (by decide +kernel)⟩
def lw_privs_6 : List (MethodName × Nat) := [(⟨"RoundTypesModel", "ask", "(IIIII)V"⟩, 76), (⟨"RoundTypesModel", "simple", "(III)I"⟩, 76), (⟨"RoundTypesModel", "findMade", "(III)I"⟩, 76), (⟨"RoundTypesModel", "make", "(III)I"⟩, 76), (⟨"RoundTypesModel", "readTerms", "()V"⟩, 76), (⟨"RoundTypesModel", "readTermWord", "(IZ)I"⟩, 76), (⟨"RoundTypesModel", "takeNode", "()V"⟩, 76), (⟨"RoundTypesModel", "readChoice", "(I)V"⟩, 76), (⟨"RoundTypesModel", "isLabelled", "(I)Z"⟩, 76), (⟨"RoundTypesModel", "takeTermLabel", "(I)V"⟩, 76), (⟨"RoundTypesModel", "typeTerms", "()V"⟩, 76), (⟨"RoundTypesModel", "beginTyping", "(II)V"⟩, 76), (⟨"RoundTypesModel", "bindFor", "(II)I"⟩, 76), (⟨"RoundTypesModel", "typeInside", "(II)I"⟩, 76), (⟨"RoundTypesModel", "more", "(I)I"⟩, 76), (⟨"RoundTypesModel", "insideAt", "(II)I"⟩, 76)]
theorem lw_r6 : ∀ q ∈ lw_privs_6, lw_okq q := List.forall_mem_cons.mpr ⟨lw_p80, List.forall_mem_cons.mpr ⟨lw_p81, List.forall_mem_cons.mpr ⟨lw_p82, List.forall_mem_cons.mpr ⟨lw_p83, List.forall_mem_cons.mpr ⟨lw_p84, List.forall_mem_cons.mpr ⟨lw_p85, List.forall_mem_cons.mpr ⟨lw_p86, List.forall_mem_cons.mpr ⟨lw_p87, List.forall_mem_cons.mpr ⟨lw_p88, List.forall_mem_cons.mpr ⟨lw_p89, List.forall_mem_cons.mpr ⟨lw_p90, List.forall_mem_cons.mpr ⟨lw_p91, List.forall_mem_cons.mpr ⟨lw_p92, List.forall_mem_cons.mpr ⟨lw_p93, List.forall_mem_cons.mpr ⟨lw_p94, List.forall_mem_cons.mpr ⟨lw_p95, fun _ h => absurd h List.not_mem_nil⟩⟩⟩⟩⟩⟩⟩⟩⟩⟩⟩⟩⟩⟩⟩⟩
theorem lw_p96 : lw_okq (⟨"RoundTypesModel", "typeDone", "(II)I"⟩, 76) := ⟨⟨by decide +kernel, by decide +kernel⟩, List.mem_of_getElem? (i := 938) (by decide +kernel), List.mem_of_getElem? (i := 1367) (by decide +kernel), List.mem_of_getElem? (i := 1368) (by decide +kernel)⟩
theorem lw_p97 : lw_okq (⟨"RoundTypesModel", "typeApplied", "(I)I"⟩, 76) := ⟨⟨by decide +kernel, by decide +kernel⟩, List.mem_of_getElem? (i := 938) (by decide +kernel), List.mem_of_getElem? (i := 1371) (by decide +kernel), List.mem_of_getElem? (i := 1372) (by decide +kernel)⟩
theorem lw_p98 : lw_okq (⟨"RoundTypesModel", "misfit", "(I)I"⟩, 76) := ⟨⟨by decide +kernel, by decide +kernel⟩, List.mem_of_getElem? (i := 938) (by decide +kernel), List.mem_of_getElem? (i := 1375) (by decide +kernel), List.mem_of_getElem? (i := 1376) (by decide +kernel)⟩
theorem lw_p99 : lw_okq (⟨"RoundTypesModel", "isKind", "(II)Z"⟩, 76) := ⟨⟨by decide +kernel, by decide +kernel⟩, List.mem_of_getElem? (i := 938) (by decide +kernel), List.mem_of_getElem? (i := 1379) (by decide +kernel), List.mem_of_getElem? (i := 1380) (by decide +kernel)⟩
theorem lw_p100 : lw_okq (⟨"RoundTypesModel", "united", "(II)I"⟩, 76) := ⟨⟨by decide +kernel, by decide +kernel⟩, List.mem_of_getElem? (i := 938) (by decide +kernel), List.mem_of_getElem? (i := 1383) (by decide +kernel), List.mem_of_getElem? (i := 1384) (by decide +kernel)⟩
theorem lw_p101 : lw_okq (⟨"RoundTypesModel", "typeRecord", "(I)I"⟩, 76) := ⟨⟨by decide +kernel, by decide +kernel⟩, List.mem_of_getElem? (i := 938) (by decide +kernel), List.mem_of_getElem? (i := 1387) (by decide +kernel), List.mem_of_getElem? (i := 1388) (by decide +kernel)⟩
theorem lw_p102 : lw_okq (⟨"RoundTypesModel", "typeTaken", "(I)I"⟩, 76) := ⟨⟨by decide +kernel, by decide +kernel⟩, List.mem_of_getElem? (i := 938) (by decide +kernel), List.mem_of_getElem? (i := 1391) (by decide +kernel), List.mem_of_getElem? (i := 1392) (by decide +kernel)⟩
theorem lw_p103 : lw_okq (⟨"RoundTypesModel", "begin", "(III)V"⟩, 76) := ⟨⟨by decide +kernel, by decide +kernel⟩, List.mem_of_getElem? (i := 938) (by decide +kernel), List.mem_of_getElem? (i := 1399) (by decide +kernel), List.mem_of_getElem? (i := 1400) (by decide +kernel)⟩
theorem lw_p104 : lw_okq (⟨"RoundTypesModel", "goOn", "()I"⟩, 76) := ⟨⟨by decide +kernel, by decide +kernel⟩, List.mem_of_getElem? (i := 938) (by decide +kernel), List.mem_of_getElem? (i := 1403) (by decide +kernel), List.mem_of_getElem? (i := 1404) (by decide +kernel)⟩
theorem lw_p105 : lw_okq (⟨"RoundTypesModel", "wantsMore", "(II)Z"⟩, 76) := ⟨⟨by decide +kernel, by decide +kernel⟩, List.mem_of_getElem? (i := 938) (by decide +kernel), List.mem_of_getElem? (i := 1407) (by decide +kernel), List.mem_of_getElem? (i := 1408) (by decide +kernel)⟩
theorem lw_p106 : lw_okq (⟨"RoundTypesModel", "next", "(III)V"⟩, 76) := ⟨⟨by decide +kernel, by decide +kernel⟩, List.mem_of_getElem? (i := 938) (by decide +kernel), List.mem_of_getElem? (i := 1411) (by decide +kernel), List.mem_of_getElem? (i := 1412) (by decide +kernel)⟩
theorem lw_p107 : lw_okq (⟨"RoundTypesModel", "finish", "(II)I"⟩, 76) := ⟨⟨by decide +kernel, by decide +kernel⟩, List.mem_of_getElem? (i := 938) (by decide +kernel), List.mem_of_getElem? (i := 1415) (by decide +kernel), List.mem_of_getElem? (i := 1416) (by decide +kernel)⟩
theorem lw_p108 : lw_okq (⟨"RoundTypesModel", "newValue", "(II)I"⟩, 76) := ⟨⟨by decide +kernel, by decide +kernel⟩, List.mem_of_getElem? (i := 938) (by decide +kernel), List.mem_of_getElem? (i := 1419) (by decide +kernel), List.mem_of_getElem? (i := 1420) (by decide +kernel)⟩
theorem lw_p109 : lw_okq (⟨"RoundTypesModel", "bind", "(II)I"⟩, 76) := ⟨⟨by decide +kernel, by decide +kernel⟩, List.mem_of_getElem? (i := 938) (by decide +kernel), List.mem_of_getElem? (i := 1423) (by decide +kernel), List.mem_of_getElem? (i := 1424) (by decide +kernel)⟩
theorem lw_p110 : lw_okq (⟨"RoundTypesModel", "finishMore", "(IIII)I"⟩, 76) := ⟨⟨by decide +kernel, by decide +kernel⟩, List.mem_of_getElem? (i := 938) (by decide +kernel), List.mem_of_getElem? (i := 1427) (by decide +kernel), List.mem_of_getElem? (i := 1428) (by decide +kernel)⟩
def lw_privs_7 : List (MethodName × Nat) := [(⟨"RoundTypesModel", "typeDone", "(II)I"⟩, 76), (⟨"RoundTypesModel", "typeApplied", "(I)I"⟩, 76), (⟨"RoundTypesModel", "misfit", "(I)I"⟩, 76), (⟨"RoundTypesModel", "isKind", "(II)Z"⟩, 76), (⟨"RoundTypesModel", "united", "(II)I"⟩, 76), (⟨"RoundTypesModel", "typeRecord", "(I)I"⟩, 76), (⟨"RoundTypesModel", "typeTaken", "(I)I"⟩, 76), (⟨"RoundTypesModel", "begin", "(III)V"⟩, 76), (⟨"RoundTypesModel", "goOn", "()I"⟩, 76), (⟨"RoundTypesModel", "wantsMore", "(II)Z"⟩, 76), (⟨"RoundTypesModel", "next", "(III)V"⟩, 76), (⟨"RoundTypesModel", "finish", "(II)I"⟩, 76), (⟨"RoundTypesModel", "newValue", "(II)I"⟩, 76), (⟨"RoundTypesModel", "bind", "(II)I"⟩, 76), (⟨"RoundTypesModel", "finishMore", "(IIII)I"⟩, 76)]
theorem lw_r7 : ∀ q ∈ lw_privs_7, lw_okq q := List.forall_mem_cons.mpr ⟨lw_p96, List.forall_mem_cons.mpr ⟨lw_p97, List.forall_mem_cons.mpr ⟨lw_p98, List.forall_mem_cons.mpr ⟨lw_p99, List.forall_mem_cons.mpr ⟨lw_p100, List.forall_mem_cons.mpr ⟨lw_p101, List.forall_mem_cons.mpr ⟨lw_p102, List.forall_mem_cons.mpr ⟨lw_p103, List.forall_mem_cons.mpr ⟨lw_p104, List.forall_mem_cons.mpr ⟨lw_p105, List.forall_mem_cons.mpr ⟨lw_p106, List.forall_mem_cons.mpr ⟨lw_p107, List.forall_mem_cons.mpr ⟨lw_p108, List.forall_mem_cons.mpr ⟨lw_p109, List.forall_mem_cons.mpr ⟨lw_p110, fun _ h => absurd h List.not_mem_nil⟩⟩⟩⟩⟩⟩⟩⟩⟩⟩⟩⟩⟩⟩⟩
def lw_privs : List (MethodName × Nat) := lw_privs_1 ++ (lw_privs_2 ++ (lw_privs_3 ++ (lw_privs_4 ++ (lw_privs_5 ++ (lw_privs_6 ++ (lw_privs_7))))))
def lw_tbl : List Cond := k2_sels lw_privs ++ tables_1
theorem lw_privs_ok : ∀ q ∈ lw_privs, lw_okq q := by
  show ∀ q ∈ lw_privs_1 ++ (lw_privs_2 ++ (lw_privs_3 ++ (lw_privs_4 ++ (lw_privs_5 ++ (lw_privs_6 ++ (lw_privs_7)))))), lw_okq q
  exact List.forall_mem_append.mpr ⟨lw_r1, List.forall_mem_append.mpr ⟨lw_r2, List.forall_mem_append.mpr ⟨lw_r3, List.forall_mem_append.mpr ⟨lw_r4, List.forall_mem_append.mpr ⟨lw_r5, List.forall_mem_append.mpr ⟨lw_r6, lw_r7⟩⟩⟩⟩⟩⟩
def RX0 : String := "RoundTypes$Bounds"
def TX0 : u_T := fun k => match k with
  | 0 => ("RoundTypes$Bounds", "graph", "LRoundTypes$Graph;", true)
  | 1 => ("RoundTypes$Bounds", "keys", "[I", true)
  | 2 => ("RoundTypes$Bounds", "openNodes", "[I", true)
  | 3 => ("RoundTypes$Bounds", "nextLabels", "[I", true)
  | 4 => ("RoundTypes$Bounds", "open", "I", false)
  | _ => ("RoundTypes$Bounds", "first", "I", false)
def tyX0 : Nat → FieldType := fun k => match k with
  | 0 => .object "RoundTypes$Graph"
  | 1 => .array .int
  | 2 => .array .int
  | 3 => .array .int
  | 4 => .int
  | _ => .int
theorem nmX0 : ∀ a, a < 6 → ∀ b, b < 6 → a ≠ b → (TX0 a).2.1 ≠ (TX0 b).2.1 := by decide +kernel
theorem tyX0_ok : ∀ k, k < 6 → parseFieldDescriptor (TX0 k).2.2.1 = some (tyX0 k) := by decide +kernel
abbrev cX0_init : ByteArray := prog_2_method_1_code
def yX0_init : MethodName := ⟨RX0, "<init>", "(LRoundTypes$Graph;)V"⟩
abbrev cX0_join : ByteArray := prog_2_method_2_code
def yX0_join : MethodName := ⟨RX0, "join", "(III)I"⟩
abbrev cX0_keyOf : ByteArray := prog_2_method_3_code
def yX0_keyOf : MethodName := ⟨RX0, "keyOf", "(I)I"⟩
abbrev cX0_howOfPart : ByteArray := prog_2_method_4_code
def yX0_howOfPart : MethodName := ⟨RX0, "howOfPart", "(II)I"⟩
abbrev cX0_lonePart : ByteArray := prog_2_method_5_code
def yX0_lonePart : MethodName := ⟨RX0, "lonePart", "(III)I"⟩
abbrev cX0_joinTop : ByteArray := prog_2_method_6_code
def yX0_joinTop : MethodName := ⟨RX0, "joinTop", "(III)I"⟩
abbrev cX0_madeFor : ByteArray := prog_2_method_7_code
def yX0_madeFor : MethodName := ⟨RX0, "madeFor", "(I)I"⟩
abbrev cX0_makeFor : ByteArray := prog_2_method_8_code
def yX0_makeFor : MethodName := ⟨RX0, "makeFor", "(II)I"⟩
def RX1 : String := "RoundTypes$Cells"
def TX1 : u_T := fun k => match k with
  | 0 => ("RoundTypes$Cells", "bound", "[I", true)
  | 1 => ("RoundTypes$Cells", "outer", "[I", true)
  | _ => ("RoundTypes$Cells", "size", "I", false)
def tyX1 : Nat → FieldType := fun k => match k with
  | 0 => .array .int
  | 1 => .array .int
  | _ => .int
theorem nmX1 : ∀ a, a < 3 → ∀ b, b < 3 → a ≠ b → (TX1 a).2.1 ≠ (TX1 b).2.1 := by decide +kernel
theorem tyX1_ok : ∀ k, k < 3 → parseFieldDescriptor (TX1 k).2.2.1 = some (tyX1 k) := by decide +kernel
abbrev cX1_init : ByteArray := prog_3_method_1_code
def yX1_init : MethodName := ⟨RX1, "<init>", "()V"⟩
abbrev cX1_empty : ByteArray := prog_3_method_2_code
def yX1_empty : MethodName := ⟨RX1, "empty", "()V"⟩
abbrev cX1_add : ByteArray := prog_3_method_3_code
def yX1_add : MethodName := ⟨RX1, "add", "(II)I"⟩
abbrev cX1_valueAt : ByteArray := prog_3_method_4_code
def yX1_valueAt : MethodName := ⟨RX1, "valueAt", "(II)I"⟩
def RX2 : String := "RoundTypes$Checker"
def TX2 : u_T := fun k => match k with
  | 0 => ("RoundTypes$Checker", "graph", "LRoundTypes$Graph;", true)
  | 1 => ("RoundTypes$Checker", "order", "LRoundTypes$Order;", true)
  | 2 => ("RoundTypes$Checker", "bounds", "LRoundTypes$Bounds;", true)
  | 3 => ("RoundTypes$Checker", "program", "LRoundTypes$Program;", false)
  | 4 => ("RoundTypes$Checker", "types", "[I", true)
  | 5 => ("RoundTypes$Checker", "variables", "[I", true)
  | 6 => ("RoundTypes$Checker", "openTerms", "[I", true)
  | 7 => ("RoundTypes$Checker", "nextKids", "[I", true)
  | 8 => ("RoundTypes$Checker", "open", "I", false)
  | _ => ("RoundTypes$Checker", "misfitPlace", "I", false)
def tyX2 : Nat → FieldType := fun k => match k with
  | 0 => .object "RoundTypes$Graph"
  | 1 => .object "RoundTypes$Order"
  | 2 => .object "RoundTypes$Bounds"
  | 3 => .object "RoundTypes$Program"
  | 4 => .array .int
  | 5 => .array .int
  | 6 => .array .int
  | 7 => .array .int
  | 8 => .int
  | _ => .int
theorem nmX2 : ∀ a, a < 10 → ∀ b, b < 10 → a ≠ b → (TX2 a).2.1 ≠ (TX2 b).2.1 := by decide +kernel
theorem tyX2_ok : ∀ k, k < 10 → parseFieldDescriptor (TX2 k).2.2.1 = some (tyX2 k) := by decide +kernel
abbrev cX2_init : ByteArray := prog_4_method_1_code
def yX2_init : MethodName := ⟨RX2, "<init>", "(LRoundTypes$Graph;LRoundTypes$Order;LRoundTypes$Bounds;LRoundTypes$Program;)V"⟩
abbrev cX2_misfitPlace : ByteArray := prog_4_method_2_code
def yX2_misfitPlace : MethodName := ⟨RX2, "misfitPlace", "()I"⟩
abbrev cX2_check : ByteArray := prog_4_method_3_code
def yX2_check : MethodName := ⟨RX2, "check", "(LRoundTypes$Program;)I"⟩
abbrev cX2_setType : ByteArray := prog_4_method_4_code
def yX2_setType : MethodName := ⟨RX2, "setType", "(II)V"⟩
abbrev cX2_push : ByteArray := prog_4_method_5_code
def yX2_push : MethodName := ⟨RX2, "push", "(I)V"⟩
abbrev cX2_bindIn : ByteArray := prog_4_method_6_code
def yX2_bindIn : MethodName := ⟨RX2, "bindIn", "(III)I"⟩
abbrev cX2_typeOfCase : ByteArray := prog_4_method_7_code
def yX2_typeOfCase : MethodName := ⟨RX2, "typeOfCase", "(II)I"⟩
abbrev cX2_typeIn : ByteArray := prog_4_method_8_code
def yX2_typeIn : MethodName := ⟨RX2, "typeIn", "(II)I"⟩
abbrev cX2_joinBranches : ByteArray := prog_4_method_9_code
def yX2_joinBranches : MethodName := ⟨RX2, "joinBranches", "(II)I"⟩
abbrev cX2_typeOf : ByteArray := prog_4_method_10_code
def yX2_typeOf : MethodName := ⟨RX2, "typeOf", "(I)I"⟩
abbrev cX2_isOrNothing : ByteArray := prog_4_method_11_code
def yX2_isOrNothing : MethodName := ⟨RX2, "isOrNothing", "(II)Z"⟩
abbrev cX2_bothNumbers : ByteArray := prog_4_method_12_code
def yX2_bothNumbers : MethodName := ⟨RX2, "bothNumbers", "(I)Z"⟩
abbrev cX2_typeOfVariable : ByteArray := prog_4_method_13_code
def yX2_typeOfVariable : MethodName := ⟨RX2, "typeOfVariable", "(I)I"⟩
abbrev cX2_typeOfLambda : ByteArray := prog_4_method_14_code
def yX2_typeOfLambda : MethodName := ⟨RX2, "typeOfLambda", "(II)I"⟩
abbrev cX2_typeOfApply : ByteArray := prog_4_method_15_code
def yX2_typeOfApply : MethodName := ⟨RX2, "typeOfApply", "(II)I"⟩
abbrev cX2_typeOfGather : ByteArray := prog_4_method_16_code
def yX2_typeOfGather : MethodName := ⟨RX2, "typeOfGather", "(I)I"⟩
abbrev cX2_typeOfPick : ByteArray := prog_4_method_17_code
def yX2_typeOfPick : MethodName := ⟨RX2, "typeOfPick", "(II)I"⟩
abbrev cX2_typeOfTag : ByteArray := prog_4_method_18_code
def yX2_typeOfTag : MethodName := ⟨RX2, "typeOfTag", "(III)I"⟩
abbrev cX2_typeOfSort : ByteArray := prog_4_method_19_code
def yX2_typeOfSort : MethodName := ⟨RX2, "typeOfSort", "(I)I"⟩
abbrev cX2_typeOfItself : ByteArray := prog_4_method_20_code
def yX2_typeOfItself : MethodName := ⟨RX2, "typeOfItself", "(II)I"⟩
def RX3 : String := "RoundTypes$Graph"
def TX3 : u_T := fun k => match k with
  | 0 => ("RoundTypes$Graph", "kinds", "[I", true)
  | 1 => ("RoundTypes$Graph", "labels", "[I", true)
  | 2 => ("RoundTypes$Graph", "parts", "[I", true)
  | _ => ("RoundTypes$Graph", "size", "I", false)
def tyX3 : Nat → FieldType := fun k => match k with
  | 0 => .array .int
  | 1 => .array .int
  | 2 => .array .int
  | _ => .int
theorem nmX3 : ∀ a, a < 4 → ∀ b, b < 4 → a ≠ b → (TX3 a).2.1 ≠ (TX3 b).2.1 := by decide +kernel
theorem tyX3_ok : ∀ k, k < 4 → parseFieldDescriptor (TX3 k).2.2.1 = some (tyX3 k) := by decide +kernel
abbrev cX3_init : ByteArray := prog_5_method_1_code
def yX3_init : MethodName := ⟨RX3, "<init>", "()V"⟩
abbrev cX3_size : ByteArray := prog_5_method_2_code
def yX3_size : MethodName := ⟨RX3, "size", "()I"⟩
abbrev cX3_has : ByteArray := prog_5_method_3_code
def yX3_has : MethodName := ⟨RX3, "has", "(I)Z"⟩
abbrev cX3_kindOf : ByteArray := prog_5_method_4_code
def yX3_kindOf : MethodName := ⟨RX3, "kindOf", "(I)I"⟩
abbrev cX3_labelsOf : ByteArray := prog_5_method_5_code
def yX3_labelsOf : MethodName := ⟨RX3, "labelsOf", "(I)I"⟩
abbrev cX3_partOf : ByteArray := prog_5_method_6_code
def yX3_partOf : MethodName := ⟨RX3, "partOf", "(II)I"⟩
abbrev cX3_make : ByteArray := prog_5_method_7_code
def yX3_make : MethodName := ⟨RX3, "make", "(I)I"⟩
abbrev cX3_draft : ByteArray := prog_5_method_8_code
def yX3_draft : MethodName := ⟨RX3, "draft", "(I)I"⟩
abbrev cX3_setPart : ByteArray := prog_5_method_9_code
def yX3_setPart : MethodName := ⟨RX3, "setPart", "(III)V"⟩
abbrev cX3_cutTo : ByteArray := prog_5_method_10_code
def yX3_cutTo : MethodName := ⟨RX3, "cutTo", "(I)V"⟩
def RX4 : String := "RoundTypes$Machine"
def TX4 : u_T := fun k => match k with
  | 0 => ("RoundTypes$Machine", "values", "LRoundTypes$Values;", true)
  | 1 => ("RoundTypes$Machine", "cells", "LRoundTypes$Cells;", true)
  | 2 => ("RoundTypes$Machine", "program", "LRoundTypes$Program;", false)
  | 3 => ("RoundTypes$Machine", "openTerms", "[I", true)
  | 4 => ("RoundTypes$Machine", "openCells", "[I", true)
  | 5 => ("RoundTypes$Machine", "gotCounts", "[I", true)
  | 6 => ("RoundTypes$Machine", "gotten", "[I", true)
  | 7 => ("RoundTypes$Machine", "open", "I", false)
  | 8 => ("RoundTypes$Machine", "steps", "I", false)
  | 9 => ("RoundTypes$Machine", "due", "I", false)
  | 10 => ("RoundTypes$Machine", "dueCell", "I", false)
  | 11 => ("RoundTypes$Machine", "dueSelf", "I", false)
  | _ => ("RoundTypes$Machine", "got", "I", false)
def tyX4 : Nat → FieldType := fun k => match k with
  | 0 => .object "RoundTypes$Values"
  | 1 => .object "RoundTypes$Cells"
  | 2 => .object "RoundTypes$Program"
  | 3 => .array .int
  | 4 => .array .int
  | 5 => .array .int
  | 6 => .array .int
  | 7 => .int
  | 8 => .int
  | 9 => .int
  | 10 => .int
  | 11 => .int
  | _ => .int
theorem nmX4 : ∀ a, a < 13 → ∀ b, b < 13 → a ≠ b → (TX4 a).2.1 ≠ (TX4 b).2.1 := by decide +kernel
theorem tyX4_ok : ∀ k, k < 13 → parseFieldDescriptor (TX4 k).2.2.1 = some (tyX4 k) := by decide +kernel
abbrev cX4_init : ByteArray := prog_6_method_1_code
def yX4_init : MethodName := ⟨RX4, "<init>", "(LRoundTypes$Program;)V"⟩
abbrev cX4_values : ByteArray := prog_6_method_2_code
def yX4_values : MethodName := ⟨RX4, "values", "()LRoundTypes$Values;"⟩
abbrev cX4_steps : ByteArray := prog_6_method_3_code
def yX4_steps : MethodName := ⟨RX4, "steps", "()I"⟩
abbrev cX4_forget : ByteArray := prog_6_method_4_code
def yX4_forget : MethodName := ⟨RX4, "forget", "()V"⟩
abbrev cX4_perform : ByteArray := prog_6_method_5_code
def yX4_perform : MethodName := ⟨RX4, "perform", "(LRoundTypes$Program;I)I"⟩
abbrev cX4_want : ByteArray := prog_6_method_6_code
def yX4_want : MethodName := ⟨RX4, "want", "(II)V"⟩
abbrev cX4_give : ByteArray := prog_6_method_7_code
def yX4_give : MethodName := ⟨RX4, "give", "(I)V"⟩
abbrev cX4_begin : ByteArray := prog_6_method_8_code
def yX4_begin : MethodName := ⟨RX4, "begin", "(II)V"⟩
abbrev cX4_beginLambda : ByteArray := prog_6_method_9_code
def yX4_beginLambda : MethodName := ⟨RX4, "beginLambda", "(II)V"⟩
abbrev cX4_beginItself : ByteArray := prog_6_method_10_code
def yX4_beginItself : MethodName := ⟨RX4, "beginItself", "(II)V"⟩
abbrev cX4_beginOpen : ByteArray := prog_6_method_11_code
def yX4_beginOpen : MethodName := ⟨RX4, "beginOpen", "(II)V"⟩
abbrev cX4_push : ByteArray := prog_6_method_12_code
def yX4_push : MethodName := ⟨RX4, "push", "(II)V"⟩
abbrev cX4_resume : ByteArray := prog_6_method_13_code
def yX4_resume : MethodName := ⟨RX4, "resume", "()V"⟩
abbrev cX4_gottenBy : ByteArray := prog_6_method_14_code
def yX4_gottenBy : MethodName := ⟨RX4, "gottenBy", "(II)I"⟩
abbrev cX4_neededBy : ByteArray := prog_6_method_15_code
def yX4_neededBy : MethodName := ⟨RX4, "neededBy", "(I)I"⟩
abbrev cX4_finish : ByteArray := prog_6_method_16_code
def yX4_finish : MethodName := ⟨RX4, "finish", "(III)V"⟩
abbrev cX4_gather : ByteArray := prog_6_method_17_code
def yX4_gather : MethodName := ⟨RX4, "gather", "(II)I"⟩
abbrev cX4_tag : ByteArray := prog_6_method_18_code
def yX4_tag : MethodName := ⟨RX4, "tag", "(II)I"⟩
abbrev cX4_partOfChoice : ByteArray := prog_6_method_19_code
def yX4_partOfChoice : MethodName := ⟨RX4, "partOfChoice", "(I)I"⟩
abbrev cX4_caseFor : ByteArray := prog_6_method_20_code
def yX4_caseFor : MethodName := ⟨RX4, "caseFor", "(II)I"⟩
def RX5 : String := "RoundTypes$Order"
def TX5 : u_T := fun k => match k with
  | 0 => ("RoundTypes$Order", "graph", "LRoundTypes$Graph;", true)
  | 1 => ("RoundTypes$Order", "queue", "[J", true)
  | 2 => ("RoundTypes$Order", "seen", "[J", true)
  | _ => ("RoundTypes$Order", "size", "I", false)
def tyX5 : Nat → FieldType := fun k => match k with
  | 0 => .object "RoundTypes$Graph"
  | 1 => .array .long
  | 2 => .array .long
  | _ => .int
theorem nmX5 : ∀ a, a < 4 → ∀ b, b < 4 → a ≠ b → (TX5 a).2.1 ≠ (TX5 b).2.1 := by decide +kernel
theorem tyX5_ok : ∀ k, k < 4 → parseFieldDescriptor (TX5 k).2.2.1 = some (tyX5 k) := by decide +kernel
abbrev cX5_init : ByteArray := prog_7_method_1_code
def yX5_init : MethodName := ⟨RX5, "<init>", "(LRoundTypes$Graph;)V"⟩
abbrev cX5_distance : ByteArray := prog_7_method_2_code
def yX5_distance : MethodName := ⟨RX5, "distance", "(II)I"⟩
abbrev cX5_labelOnWay : ByteArray := prog_7_method_3_code
def yX5_labelOnWay : MethodName := ⟨RX5, "labelOnWay", "(III)I"⟩
abbrev cX5_stepsTo : ByteArray := prog_7_method_4_code
def yX5_stepsTo : MethodName := ⟨RX5, "stepsTo", "(I)I"⟩
abbrev cX5_cameFrom : ByteArray := prog_7_method_5_code
def yX5_cameFrom : MethodName := ⟨RX5, "cameFrom", "(I)I"⟩
abbrev cX5_search : ByteArray := prog_7_method_6_code
def yX5_search : MethodName := ⟨RX5, "search", "(II)I"⟩
abbrev cX5_forget : ByteArray := prog_7_method_7_code
def yX5_forget : MethodName := ⟨RX5, "forget", "()V"⟩
abbrev cX5_fitAtSight : ByteArray := prog_7_method_8_code
def yX5_fitAtSight : MethodName := ⟨RX5, "fitAtSight", "(II)Z"⟩
abbrev cX5_enterParts : ByteArray := prog_7_method_9_code
def yX5_enterParts : MethodName := ⟨RX5, "enterParts", "(III)V"⟩
abbrev cX5_enter : ByteArray := prog_7_method_10_code
def yX5_enter : MethodName := ⟨RX5, "enter", "(IIII)V"⟩
def RX6 : String := "RoundTypes$Program"
def TX6 : u_T := fun k => match k with
  | 0 => ("RoundTypes$Program", "words", "[I", true)
  | 1 => ("RoundTypes$Program", "kids", "[I", true)
  | 2 => ("RoundTypes$Program", "kidCounts", "[I", true)
  | 3 => ("RoundTypes$Program", "outer", "[I", true)
  | _ => ("RoundTypes$Program", "homes", "[I", true)
def tyX6 : Nat → FieldType := fun k => match k with
  | 0 => .array .int
  | 1 => .array .int
  | 2 => .array .int
  | 3 => .array .int
  | _ => .array .int
theorem nmX6 : ∀ a, a < 5 → ∀ b, b < 5 → a ≠ b → (TX6 a).2.1 ≠ (TX6 b).2.1 := by decide +kernel
theorem tyX6_ok : ∀ k, k < 5 → parseFieldDescriptor (TX6 k).2.2.1 = some (tyX6 k) := by decide +kernel
abbrev cX6_init : ByteArray := prog_8_method_1_code
def yX6_init : MethodName := ⟨RX6, "<init>", "()V"⟩
abbrev cX6_start : ByteArray := prog_8_method_2_code
def yX6_start : MethodName := ⟨RX6, "start", "(LRoundTypes$Text;)V"⟩
abbrev cX6_add : ByteArray := prog_8_method_3_code
def yX6_add : MethodName := ⟨RX6, "add", "(I)V"⟩
abbrev cX6_addKid : ByteArray := prog_8_method_4_code
def yX6_addKid : MethodName := ⟨RX6, "addKid", "(II)V"⟩
abbrev cX6_setOuter : ByteArray := prog_8_method_5_code
def yX6_setOuter : MethodName := ⟨RX6, "setOuter", "(II)V"⟩
abbrev cX6_setHome : ByteArray := prog_8_method_6_code
def yX6_setHome : MethodName := ⟨RX6, "setHome", "(II)V"⟩
abbrev cX6_word : ByteArray := prog_8_method_7_code
def yX6_word : MethodName := ⟨RX6, "word", "(I)I"⟩
abbrev cX6_kidCount : ByteArray := prog_8_method_8_code
def yX6_kidCount : MethodName := ⟨RX6, "kidCount", "(I)I"⟩
abbrev cX6_kid : ByteArray := prog_8_method_9_code
def yX6_kid : MethodName := ⟨RX6, "kid", "(II)I"⟩
abbrev cX6_kidInTurn : ByteArray := prog_8_method_10_code
def yX6_kidInTurn : MethodName := ⟨RX6, "kidInTurn", "(II)I"⟩
abbrev cX6_labelOf : ByteArray := prog_8_method_11_code
def yX6_labelOf : MethodName := ⟨RX6, "labelOf", "(I)I"⟩
abbrev cX6_outer : ByteArray := prog_8_method_12_code
def yX6_outer : MethodName := ⟨RX6, "outer", "(I)I"⟩
abbrev cX6_home : ByteArray := prog_8_method_13_code
def yX6_home : MethodName := ⟨RX6, "home", "(I)I"⟩
def RX7 : String := "RoundTypes$TermReader"
def TX7 : u_T := fun k => match k with
  | 0 => ("RoundTypes$TermReader", "text", "LRoundTypes$Text;", true)
  | 1 => ("RoundTypes$TermReader", "graph", "LRoundTypes$Graph;", true)
  | 2 => ("RoundTypes$TermReader", "program", "LRoundTypes$Program;", false)
  | 3 => ("RoundTypes$TermReader", "terms", "[I", true)
  | 4 => ("RoundTypes$TermReader", "lacking", "[I", true)
  | 5 => ("RoundTypes$TermReader", "labels", "[I", true)
  | 6 => ("RoundTypes$TermReader", "scopes", "[I", true)
  | _ => ("RoundTypes$TermReader", "open", "I", false)
def tyX7 : Nat → FieldType := fun k => match k with
  | 0 => .object "RoundTypes$Text"
  | 1 => .object "RoundTypes$Graph"
  | 2 => .object "RoundTypes$Program"
  | 3 => .array .int
  | 4 => .array .int
  | 5 => .array .int
  | 6 => .array .int
  | _ => .int
theorem nmX7 : ∀ a, a < 8 → ∀ b, b < 8 → a ≠ b → (TX7 a).2.1 ≠ (TX7 b).2.1 := by decide +kernel
theorem tyX7_ok : ∀ k, k < 8 → parseFieldDescriptor (TX7 k).2.2.1 = some (tyX7 k) := by decide +kernel
abbrev cX7_init : ByteArray := prog_9_method_1_code
def yX7_init : MethodName := ⟨RX7, "<init>", "(LRoundTypes$Text;LRoundTypes$Graph;LRoundTypes$Program;)V"⟩
abbrev cX7_read : ByteArray := prog_9_method_2_code
def yX7_read : MethodName := ⟨RX7, "read", "(LRoundTypes$Program;)Z"⟩
abbrev cX7_wordAround : ByteArray := prog_9_method_3_code
def yX7_wordAround : MethodName := ⟨RX7, "wordAround", "()I"⟩
abbrev cX7_isCase : ByteArray := prog_9_method_4_code
def yX7_isCase : MethodName := ⟨RX7, "isCase", "()Z"⟩
abbrev cX7_readLabel : ByteArray := prog_9_method_5_code
def yX7_readLabel : MethodName := ⟨RX7, "readLabel", "()Z"⟩
abbrev cX7_readTerm : ByteArray := prog_9_method_6_code
def yX7_readTerm : MethodName := ⟨RX7, "readTerm", "()Z"⟩
abbrev cX7_enter : ByteArray := prog_9_method_7_code
def yX7_enter : MethodName := ⟨RX7, "enter", "(I)I"⟩
abbrev cX7_readHead : ByteArray := prog_9_method_8_code
def yX7_readHead : MethodName := ⟨RX7, "readHead", "(III)I"⟩
abbrev cX7_readVariable : ByteArray := prog_9_method_9_code
def yX7_readVariable : MethodName := ⟨RX7, "readVariable", "(II)Z"⟩
abbrev cX7_readTag : ByteArray := prog_9_method_10_code
def yX7_readTag : MethodName := ⟨RX7, "readTag", "(I)Z"⟩
abbrev cX7_push : ByteArray := prog_9_method_11_code
def yX7_push : MethodName := ⟨RX7, "push", "(III)V"⟩
abbrev cX7_settle : ByteArray := prog_9_method_12_code
def yX7_settle : MethodName := ⟨RX7, "settle", "()V"⟩
def RX8 : String := "RoundTypes$Text"
def TX8 : u_T := fun k => match k with
  | 0 => ("RoundTypes$Text", "numbers", "[I", true)
  | 1 => ("RoundTypes$Text", "size", "I", false)
  | 2 => ("RoundTypes$Text", "at", "I", false)
  | 3 => ("RoundTypes$Text", "taken", "I", false)
  | 4 => ("RoundTypes$Text", "fault", "I", false)
  | _ => ("RoundTypes$Text", "faultPlace", "I", false)
def tyX8 : Nat → FieldType := fun k => match k with
  | 0 => .array .int
  | 1 => .int
  | 2 => .int
  | 3 => .int
  | 4 => .int
  | _ => .int
theorem nmX8 : ∀ a, a < 6 → ∀ b, b < 6 → a ≠ b → (TX8 a).2.1 ≠ (TX8 b).2.1 := by decide +kernel
theorem tyX8_ok : ∀ k, k < 6 → parseFieldDescriptor (TX8 k).2.2.1 = some (tyX8 k) := by decide +kernel
abbrev cX8_init : ByteArray := prog_10_method_1_code
def yX8_init : MethodName := ⟨RX8, "<init>", "()V"⟩
abbrev cX8_size : ByteArray := prog_10_method_2_code
def yX8_size : MethodName := ⟨RX8, "size", "()I"⟩
abbrev cX8_at : ByteArray := prog_10_method_3_code
def yX8_at : MethodName := ⟨RX8, "at", "()I"⟩
abbrev cX8_taken : ByteArray := prog_10_method_4_code
def yX8_taken : MethodName := ⟨RX8, "taken", "()I"⟩
abbrev cX8_fault : ByteArray := prog_10_method_5_code
def yX8_fault : MethodName := ⟨RX8, "fault", "()I"⟩
abbrev cX8_faultPlace : ByteArray := prog_10_method_6_code
def yX8_faultPlace : MethodName := ⟨RX8, "faultPlace", "()I"⟩
abbrev cX8_append : ByteArray := prog_10_method_7_code
def yX8_append : MethodName := ⟨RX8, "append", "(I)I"⟩
abbrev cX8_empty : ByteArray := prog_10_method_8_code
def yX8_empty : MethodName := ⟨RX8, "empty", "()V"⟩
abbrev cX8_rewind : ByteArray := prog_10_method_9_code
def yX8_rewind : MethodName := ⟨RX8, "rewind", "()V"⟩
abbrev cX8_fail : ByteArray := prog_10_method_10_code
def yX8_fail : MethodName := ⟨RX8, "fail", "(II)Z"⟩
abbrev cX8_take : ByteArray := prog_10_method_11_code
def yX8_take : MethodName := ⟨RX8, "take", "(II)Z"⟩
abbrev cX8_takeEnd : ByteArray := prog_10_method_12_code
def yX8_takeEnd : MethodName := ⟨RX8, "takeEnd", "()Z"⟩
abbrev cX8_copyTo : ByteArray := prog_10_method_13_code
def yX8_copyTo : MethodName := ⟨RX8, "copyTo", "([I)V"⟩
def RX9 : String := "RoundTypes$TypeReader"
def TX9 : u_T := fun k => match k with
  | 0 => ("RoundTypes$TypeReader", "text", "LRoundTypes$Text;", true)
  | 1 => ("RoundTypes$TypeReader", "graph", "LRoundTypes$Graph;", true)
  | 2 => ("RoundTypes$TypeReader", "nodes", "[I", true)
  | 3 => ("RoundTypes$TypeReader", "names", "[I", true)
  | 4 => ("RoundTypes$TypeReader", "lacking", "[I", true)
  | 5 => ("RoundTypes$TypeReader", "labels", "[I", true)
  | _ => ("RoundTypes$TypeReader", "open", "I", false)
def tyX9 : Nat → FieldType := fun k => match k with
  | 0 => .object "RoundTypes$Text"
  | 1 => .object "RoundTypes$Graph"
  | 2 => .array .int
  | 3 => .array .int
  | 4 => .array .int
  | 5 => .array .int
  | _ => .int
theorem nmX9 : ∀ a, a < 7 → ∀ b, b < 7 → a ≠ b → (TX9 a).2.1 ≠ (TX9 b).2.1 := by decide +kernel
theorem tyX9_ok : ∀ k, k < 7 → parseFieldDescriptor (TX9 k).2.2.1 = some (tyX9 k) := by decide +kernel
abbrev cX9_init : ByteArray := prog_11_method_1_code
def yX9_init : MethodName := ⟨RX9, "<init>", "(LRoundTypes$Text;LRoundTypes$Graph;)V"⟩
abbrev cX9_read : ByteArray := prog_11_method_2_code
def yX9_read : MethodName := ⟨RX9, "read", "()Z"⟩
abbrev cX9_readLabel : ByteArray := prog_11_method_3_code
def yX9_readLabel : MethodName := ⟨RX9, "readLabel", "()Z"⟩
abbrev cX9_readWord : ByteArray := prog_11_method_4_code
def yX9_readWord : MethodName := ⟨RX9, "readWord", "()Z"⟩
abbrev cX9_readBind : ByteArray := prog_11_method_5_code
def yX9_readBind : MethodName := ⟨RX9, "readBind", "()Z"⟩
abbrev cX9_readStand : ByteArray := prog_11_method_6_code
def yX9_readStand : MethodName := ⟨RX9, "readStand", "(I)Z"⟩
abbrev cX9_readNode : ByteArray := prog_11_method_7_code
def yX9_readNode : MethodName := ⟨RX9, "readNode", "(I)Z"⟩
abbrev cX9_push : ByteArray := prog_11_method_8_code
def yX9_push : MethodName := ⟨RX9, "push", "(III)V"⟩
abbrev cX9_settle : ByteArray := prog_11_method_9_code
def yX9_settle : MethodName := ⟨RX9, "settle", "(I)V"⟩
def RX10 : String := "RoundTypes$Values"
def TX10 : u_T := fun k => match k with
  | 0 => ("RoundTypes$Values", "kinds", "[I", true)
  | 1 => ("RoundTypes$Values", "numbers", "[I", true)
  | 2 => ("RoundTypes$Values", "parts", "[I", true)
  | 3 => ("RoundTypes$Values", "lambdas", "[I", true)
  | 4 => ("RoundTypes$Values", "cells", "[I", true)
  | _ => ("RoundTypes$Values", "size", "I", false)
def tyX10 : Nat → FieldType := fun k => match k with
  | 0 => .array .int
  | 1 => .array .int
  | 2 => .array .int
  | 3 => .array .int
  | 4 => .array .int
  | _ => .int
theorem nmX10 : ∀ a, a < 6 → ∀ b, b < 6 → a ≠ b → (TX10 a).2.1 ≠ (TX10 b).2.1 := by decide +kernel
theorem tyX10_ok : ∀ k, k < 6 → parseFieldDescriptor (TX10 k).2.2.1 = some (tyX10 k) := by decide +kernel
abbrev cX10_init : ByteArray := prog_12_method_1_code
def yX10_init : MethodName := ⟨RX10, "<init>", "()V"⟩
abbrev cX10_size : ByteArray := prog_12_method_2_code
def yX10_size : MethodName := ⟨RX10, "size", "()I"⟩
abbrev cX10_empty : ByteArray := prog_12_method_3_code
def yX10_empty : MethodName := ⟨RX10, "empty", "()V"⟩
abbrev cX10_has : ByteArray := prog_12_method_4_code
def yX10_has : MethodName := ⟨RX10, "has", "(I)Z"⟩
abbrev cX10_add : ByteArray := prog_12_method_5_code
def yX10_add : MethodName := ⟨RX10, "add", "(II)I"⟩
abbrev cX10_setPart : ByteArray := prog_12_method_6_code
def yX10_setPart : MethodName := ⟨RX10, "setPart", "(III)V"⟩
abbrev cX10_setFunction : ByteArray := prog_12_method_7_code
def yX10_setFunction : MethodName := ⟨RX10, "setFunction", "(III)V"⟩
abbrev cX10_kindOf : ByteArray := prog_12_method_8_code
def yX10_kindOf : MethodName := ⟨RX10, "kindOf", "(I)I"⟩
abbrev cX10_numberOf : ByteArray := prog_12_method_9_code
def yX10_numberOf : MethodName := ⟨RX10, "numberOf", "(I)I"⟩
abbrev cX10_lambdaOf : ByteArray := prog_12_method_10_code
def yX10_lambdaOf : MethodName := ⟨RX10, "lambdaOf", "(I)I"⟩
abbrev cX10_cellOf : ByteArray := prog_12_method_11_code
def yX10_cellOf : MethodName := ⟨RX10, "cellOf", "(I)I"⟩
abbrev cX10_partOf : ByteArray := prog_12_method_12_code
def yX10_partOf : MethodName := ⟨RX10, "partOf", "(II)I"⟩
def RX11 : String := "RoundTypes"
def TX11 : u_T := fun k => match k with
  | 0 => ("RoundTypes", "text", "LRoundTypes$Text;", true)
  | 1 => ("RoundTypes", "graph", "LRoundTypes$Graph;", true)
  | 2 => ("RoundTypes", "order", "LRoundTypes$Order;", true)
  | 3 => ("RoundTypes", "bounds", "LRoundTypes$Bounds;", true)
  | 4 => ("RoundTypes", "program", "LRoundTypes$Program;", false)
  | 5 => ("RoundTypes", "spare", "LRoundTypes$Program;", false)
  | 6 => ("RoundTypes", "typeReader", "LRoundTypes$TypeReader;", true)
  | 7 => ("RoundTypes", "termReader", "LRoundTypes$TermReader;", true)
  | 8 => ("RoundTypes", "checker", "LRoundTypes$Checker;", true)
  | 9 => ("RoundTypes", "machine", "LRoundTypes$Machine;", true)
  | 10 => ("RoundTypes", "hasTerm", "Z", false)
  | _ => ("RoundTypes", "faultPlace", "I", false)
def tyX11 : Nat → FieldType := fun k => match k with
  | 0 => .object "RoundTypes$Text"
  | 1 => .object "RoundTypes$Graph"
  | 2 => .object "RoundTypes$Order"
  | 3 => .object "RoundTypes$Bounds"
  | 4 => .object "RoundTypes$Program"
  | 5 => .object "RoundTypes$Program"
  | 6 => .object "RoundTypes$TypeReader"
  | 7 => .object "RoundTypes$TermReader"
  | 8 => .object "RoundTypes$Checker"
  | 9 => .object "RoundTypes$Machine"
  | 10 => .boolean
  | _ => .int
theorem nmX11 : ∀ a, a < 12 → ∀ b, b < 12 → a ≠ b → (TX11 a).2.1 ≠ (TX11 b).2.1 := by decide +kernel
theorem tyX11_ok : ∀ k, k < 12 → parseFieldDescriptor (TX11 k).2.2.1 = some (tyX11 k) := by decide +kernel
abbrev cX11_init : ByteArray := prog_1_method_1_code
def yX11_init : MethodName := ⟨RX11, "<init>", "()V"⟩
abbrev cX11_clear : ByteArray := prog_1_method_2_code
def yX11_clear : MethodName := ⟨RX11, "clear", "()I"⟩
abbrev cX11_feed : ByteArray := prog_1_method_3_code
def yX11_feed : MethodName := ⟨RX11, "feed", "(I)I"⟩
abbrev cX11_type : ByteArray := prog_1_method_4_code
def yX11_type : MethodName := ⟨RX11, "type", "()I"⟩
abbrev cX11_term : ByteArray := prog_1_method_5_code
def yX11_term : MethodName := ⟨RX11, "term", "()I"⟩
abbrev cX11_place : ByteArray := prog_1_method_6_code
def yX11_place : MethodName := ⟨RX11, "place", "()I"⟩
abbrev cX11_node : ByteArray := prog_1_method_7_code
def yX11_node : MethodName := ⟨RX11, "node", "(II)I"⟩
abbrev cX11_below : ByteArray := prog_1_method_8_code
def yX11_below : MethodName := ⟨RX11, "below", "(II)I"⟩
abbrev cX11_depth : ByteArray := prog_1_method_9_code
def yX11_depth : MethodName := ⟨RX11, "depth", "(II)I"⟩
abbrev cX11_way : ByteArray := prog_1_method_10_code
def yX11_way : MethodName := ⟨RX11, "way", "(III)I"⟩
abbrev cX11_unite : ByteArray := prog_1_method_11_code
def yX11_unite : MethodName := ⟨RX11, "unite", "(II)I"⟩
abbrev cX11_meet : ByteArray := prog_1_method_12_code
def yX11_meet : MethodName := ⟨RX11, "meet", "(II)I"⟩
abbrev cX11_run : ByteArray := prog_1_method_13_code
def yX11_run : MethodName := ⟨RX11, "run", "(I)I"⟩
abbrev cX11_value : ByteArray := prog_1_method_14_code
def yX11_value : MethodName := ⟨RX11, "value", "(II)I"⟩
abbrev cX11_count : ByteArray := prog_1_method_15_code
def yX11_count : MethodName := ⟨RX11, "count", "(I)I"⟩
def RX12 : String := "RoundTypesModel"
def TX12 : u_T := fun k => match k with
  | 0 => ("RoundTypesModel", "textSize", "I", false)
  | 1 => ("RoundTypesModel", "text", "[I", true)
  | 2 => ("RoundTypesModel", "place", "I", false)
  | 3 => ("RoundTypesModel", "nodes", "I", false)
  | 4 => ("RoundTypesModel", "kinds", "[I", true)
  | 5 => ("RoundTypesModel", "labels", "[I", true)
  | 6 => ("RoundTypesModel", "parts", "[I", true)
  | 7 => ("RoundTypesModel", "far", "[I", true)
  | 8 => ("RoundTypesModel", "queue", "[I", true)
  | 9 => ("RoundTypesModel", "firstBack", "[I", true)
  | 10 => ("RoundTypesModel", "nextBack", "[I", true)
  | 11 => ("RoundTypesModel", "backPair", "[I", true)
  | 12 => ("RoundTypesModel", "askHow", "[I", true)
  | 13 => ("RoundTypesModel", "askA", "[I", true)
  | 14 => ("RoundTypesModel", "askB", "[I", true)
  | 15 => ("RoundTypesModel", "askOf", "[I", true)
  | 16 => ("RoundTypesModel", "askPart", "[I", true)
  | 17 => ("RoundTypesModel", "asks", "I", false)
  | 18 => ("RoundTypesModel", "madeHow", "[I", true)
  | 19 => ("RoundTypesModel", "madeA", "[I", true)
  | 20 => ("RoundTypesModel", "madeB", "[I", true)
  | 21 => ("RoundTypesModel", "madeNode", "[I", true)
  | 22 => ("RoundTypesModel", "made", "I", false)
  | 23 => ("RoundTypesModel", "at", "I", false)
  | 24 => ("RoundTypesModel", "fault", "I", false)
  | 25 => ("RoundTypesModel", "frameNode", "[I", true)
  | 26 => ("RoundTypesModel", "frameName", "[I", true)
  | 27 => ("RoundTypesModel", "frameLeft", "[I", true)
  | 28 => ("RoundTypesModel", "frameLabel", "[I", true)
  | 29 => ("RoundTypesModel", "frames", "I", false)
  | 30 => ("RoundTypesModel", "hasTerm", "Z", false)
  | 31 => ("RoundTypesModel", "terms", "I", false)
  | 32 => ("RoundTypesModel", "word", "[I", true)
  | 33 => ("RoundTypesModel", "wordAt", "[I", true)
  | 34 => ("RoundTypesModel", "first", "[I", true)
  | 35 => ("RoundTypesModel", "second", "[I", true)
  | 36 => ("RoundTypesModel", "inside", "[I", true)
  | 37 => ("RoundTypesModel", "insideLabel", "[I", true)
  | 38 => ("RoundTypesModel", "insideMany", "[I", true)
  | 39 => ("RoundTypesModel", "doneTerms", "I", false)
  | 40 => ("RoundTypesModel", "doneWord", "[I", true)
  | 41 => ("RoundTypesModel", "doneFirst", "[I", true)
  | 42 => ("RoundTypesModel", "doneSecond", "[I", true)
  | 43 => ("RoundTypesModel", "doneInside", "[I", true)
  | 44 => ("RoundTypesModel", "doneLabel", "[I", true)
  | 45 => ("RoundTypesModel", "doneMany", "[I", true)
  | 46 => ("RoundTypesModel", "open", "[I", true)
  | 47 => ("RoundTypesModel", "openBound", "[I", true)
  | 48 => ("RoundTypesModel", "opens", "I", false)
  | 49 => ("RoundTypesModel", "left", "[I", true)
  | 50 => ("RoundTypesModel", "typing", "[I", true)
  | 51 => ("RoundTypesModel", "typingNext", "[I", true)
  | 52 => ("RoundTypesModel", "typingBound", "[I", true)
  | 53 => ("RoundTypesModel", "typings", "I", false)
  | 54 => ("RoundTypesModel", "typeOf", "[I", true)
  | 55 => ("RoundTypesModel", "boundType", "[I", true)
  | 56 => ("RoundTypesModel", "values", "I", false)
  | 57 => ("RoundTypesModel", "steps", "I", false)
  | 58 => ("RoundTypesModel", "valueKind", "[I", true)
  | 59 => ("RoundTypesModel", "valueTold", "[I", true)
  | 60 => ("RoundTypesModel", "valueParts", "[I", true)
  | 61 => ("RoundTypesModel", "valueTerm", "[I", true)
  | 62 => ("RoundTypesModel", "valueAround", "[I", true)
  | 63 => ("RoundTypesModel", "boundValue", "[I", true)
  | 64 => ("RoundTypesModel", "boundAround", "[I", true)
  | 65 => ("RoundTypesModel", "bounds", "I", false)
  | 66 => ("RoundTypesModel", "begun", "[I", true)
  | 67 => ("RoundTypesModel", "begunAround", "[I", true)
  | 68 => ("RoundTypesModel", "begunNext", "[I", true)
  | 69 => ("RoundTypesModel", "begunSlot", "[I", true)
  | 70 => ("RoundTypesModel", "got", "[I", true)
  | 71 => ("RoundTypesModel", "begunMany", "I", false)
  | 72 => ("RoundTypesModel", "stop", "I", false)
  | 73 => ("RoundTypesModel", "nextTerm", "I", false)
  | 74 => ("RoundTypesModel", "nextAround", "I", false)
  | _ => ("RoundTypesModel", "nextSlot", "I", false)
def tyX12 : Nat → FieldType := fun k => match k with
  | 0 => .int
  | 1 => .array .int
  | 2 => .int
  | 3 => .int
  | 4 => .array .int
  | 5 => .array .int
  | 6 => .array .int
  | 7 => .array .int
  | 8 => .array .int
  | 9 => .array .int
  | 10 => .array .int
  | 11 => .array .int
  | 12 => .array .int
  | 13 => .array .int
  | 14 => .array .int
  | 15 => .array .int
  | 16 => .array .int
  | 17 => .int
  | 18 => .array .int
  | 19 => .array .int
  | 20 => .array .int
  | 21 => .array .int
  | 22 => .int
  | 23 => .int
  | 24 => .int
  | 25 => .array .int
  | 26 => .array .int
  | 27 => .array .int
  | 28 => .array .int
  | 29 => .int
  | 30 => .boolean
  | 31 => .int
  | 32 => .array .int
  | 33 => .array .int
  | 34 => .array .int
  | 35 => .array .int
  | 36 => .array .int
  | 37 => .array .int
  | 38 => .array .int
  | 39 => .int
  | 40 => .array .int
  | 41 => .array .int
  | 42 => .array .int
  | 43 => .array .int
  | 44 => .array .int
  | 45 => .array .int
  | 46 => .array .int
  | 47 => .array .int
  | 48 => .int
  | 49 => .array .int
  | 50 => .array .int
  | 51 => .array .int
  | 52 => .array .int
  | 53 => .int
  | 54 => .array .int
  | 55 => .array .int
  | 56 => .int
  | 57 => .int
  | 58 => .array .int
  | 59 => .array .int
  | 60 => .array .int
  | 61 => .array .int
  | 62 => .array .int
  | 63 => .array .int
  | 64 => .array .int
  | 65 => .int
  | 66 => .array .int
  | 67 => .array .int
  | 68 => .array .int
  | 69 => .array .int
  | 70 => .array .int
  | 71 => .int
  | 72 => .int
  | 73 => .int
  | 74 => .int
  | _ => .int
theorem nmX12 : ∀ a, a < 76 → ∀ b, b < 76 → a ≠ b → (TX12 a).2.1 ≠ (TX12 b).2.1 := by decide +kernel
theorem tyX12_ok : ∀ k, k < 76 → parseFieldDescriptor (TX12 k).2.2.1 = some (tyX12 k) := by decide +kernel
abbrev cX12_init : ByteArray := prog_14_method_1_code
def yX12_init : MethodName := ⟨RX12, "<init>", "()V"⟩
abbrev cX12_in : ByteArray := prog_14_method_2_code
def yX12_in : MethodName := ⟨RX12, "in", "(III)Z"⟩
abbrev cX12_isNode : ByteArray := prog_14_method_3_code
def yX12_isNode : MethodName := ⟨RX12, "isNode", "(I)Z"⟩
abbrev cX12_clear : ByteArray := prog_14_method_4_code
def yX12_clear : MethodName := ⟨RX12, "clear", "()I"⟩
abbrev cX12_feed : ByteArray := prog_14_method_5_code
def yX12_feed : MethodName := ⟨RX12, "feed", "(I)I"⟩
abbrev cX12_newNode : ByteArray := prog_14_method_6_code
def yX12_newNode : MethodName := ⟨RX12, "newNode", "(II)I"⟩
abbrev cX12_part : ByteArray := prog_14_method_7_code
def yX12_part : MethodName := ⟨RX12, "part", "(II)I"⟩
abbrev cX12_fail : ByteArray := prog_14_method_8_code
def yX12_fail : MethodName := ⟨RX12, "fail", "(II)I"⟩
abbrev cX12_take : ByteArray := prog_14_method_9_code
def yX12_take : MethodName := ⟨RX12, "take", "(II)I"⟩
abbrev cX12_pushFrame : ByteArray := prog_14_method_10_code
def yX12_pushFrame : MethodName := ⟨RX12, "pushFrame", "(III)V"⟩
abbrev cX12_takeLabel : ByteArray := prog_14_method_11_code
def yX12_takeLabel : MethodName := ⟨RX12, "takeLabel", "()V"⟩
abbrev cX12_settle : ByteArray := prog_14_method_12_code
def yX12_settle : MethodName := ⟨RX12, "settle", "(I)I"⟩
abbrev cX12_resolve : ByteArray := prog_14_method_13_code
def yX12_resolve : MethodName := ⟨RX12, "resolve", "(I)V"⟩
abbrev cX12_readWord : ByteArray := prog_14_method_14_code
def yX12_readWord : MethodName := ⟨RX12, "readWord", "()I"⟩
abbrev cX12_readName : ByteArray := prog_14_method_15_code
def yX12_readName : MethodName := ⟨RX12, "readName", "(I)I"⟩
abbrev cX12_type : ByteArray := prog_14_method_16_code
def yX12_type : MethodName := ⟨RX12, "type", "()I"⟩
abbrev cX12_fits : ByteArray := prog_14_method_17_code
def yX12_fits : MethodName := ⟨RX12, "fits", "(II)Z"⟩
abbrev cX12_wanted : ByteArray := prog_14_method_18_code
def yX12_wanted : MethodName := ⟨RX12, "wanted", "(II)I"⟩
abbrev cX12_nextPair : ByteArray := prog_14_method_19_code
def yX12_nextPair : MethodName := ⟨RX12, "nextPair", "(III)I"⟩
abbrev cX12_measure : ByteArray := prog_14_method_20_code
def yX12_measure : MethodName := ⟨RX12, "measure", "()V"⟩
abbrev cX12_addBack : ByteArray := prog_14_method_21_code
def yX12_addBack : MethodName := ⟨RX12, "addBack", "(III)I"⟩
abbrev cX12_farOf : ByteArray := prog_14_method_22_code
def yX12_farOf : MethodName := ⟨RX12, "farOf", "(II)I"⟩
abbrev cX12_isBelow : ByteArray := prog_14_method_23_code
def yX12_isBelow : MethodName := ⟨RX12, "isBelow", "(II)Z"⟩
abbrev cX12_below : ByteArray := prog_14_method_24_code
def yX12_below : MethodName := ⟨RX12, "below", "(II)I"⟩
abbrev cX12_depth : ByteArray := prog_14_method_25_code
def yX12_depth : MethodName := ⟨RX12, "depth", "(II)I"⟩
abbrev cX12_way : ByteArray := prog_14_method_26_code
def yX12_way : MethodName := ⟨RX12, "way", "(III)I"⟩
abbrev cX12_ask : ByteArray := prog_14_method_27_code
def yX12_ask : MethodName := ⟨RX12, "ask", "(IIIII)V"⟩
abbrev cX12_simple : ByteArray := prog_14_method_28_code
def yX12_simple : MethodName := ⟨RX12, "simple", "(III)I"⟩
abbrev cX12_findMade : ByteArray := prog_14_method_29_code
def yX12_findMade : MethodName := ⟨RX12, "findMade", "(III)I"⟩
abbrev cX12_make : ByteArray := prog_14_method_30_code
def yX12_make : MethodName := ⟨RX12, "make", "(III)I"⟩
abbrev cX12_join : ByteArray := prog_14_method_31_code
def yX12_join : MethodName := ⟨RX12, "join", "(III)I"⟩
abbrev cX12_unite : ByteArray := prog_14_method_32_code
def yX12_unite : MethodName := ⟨RX12, "unite", "(II)I"⟩
abbrev cX12_meet : ByteArray := prog_14_method_33_code
def yX12_meet : MethodName := ⟨RX12, "meet", "(II)I"⟩
abbrev cX12_place : ByteArray := prog_14_method_34_code
def yX12_place : MethodName := ⟨RX12, "place", "()I"⟩
abbrev cX12_node : ByteArray := prog_14_method_35_code
def yX12_node : MethodName := ⟨RX12, "node", "(II)I"⟩
abbrev cX12_wants : ByteArray := prog_14_method_36_code
def yX12_wants : MethodName := ⟨RX12, "wants", "(I)I"⟩
abbrev cX12_takeNode : ByteArray := prog_14_method_37_code
def yX12_takeNode : MethodName := ⟨RX12, "takeNode", "()V"⟩
abbrev cX12_readTermWord : ByteArray := prog_14_method_38_code
def yX12_readTermWord : MethodName := ⟨RX12, "readTermWord", "(IZ)I"⟩
abbrev cX12_readChoice : ByteArray := prog_14_method_39_code
def yX12_readChoice : MethodName := ⟨RX12, "readChoice", "(I)V"⟩
abbrev cX12_isLabelled : ByteArray := prog_14_method_40_code
def yX12_isLabelled : MethodName := ⟨RX12, "isLabelled", "(I)Z"⟩
abbrev cX12_readTerms : ByteArray := prog_14_method_41_code
def yX12_readTerms : MethodName := ⟨RX12, "readTerms", "()V"⟩
abbrev cX12_takeTermLabel : ByteArray := prog_14_method_42_code
def yX12_takeTermLabel : MethodName := ⟨RX12, "takeTermLabel", "(I)V"⟩
abbrev cX12_insideAt : ByteArray := prog_14_method_43_code
def yX12_insideAt : MethodName := ⟨RX12, "insideAt", "(II)I"⟩
abbrev cX12_typeInside : ByteArray := prog_14_method_44_code
def yX12_typeInside : MethodName := ⟨RX12, "typeInside", "(II)I"⟩
abbrev cX12_more : ByteArray := prog_14_method_45_code
def yX12_more : MethodName := ⟨RX12, "more", "(I)I"⟩
abbrev cX12_typeTerms : ByteArray := prog_14_method_46_code
def yX12_typeTerms : MethodName := ⟨RX12, "typeTerms", "()V"⟩
abbrev cX12_beginTyping : ByteArray := prog_14_method_47_code
def yX12_beginTyping : MethodName := ⟨RX12, "beginTyping", "(II)V"⟩
abbrev cX12_bindFor : ByteArray := prog_14_method_48_code
def yX12_bindFor : MethodName := ⟨RX12, "bindFor", "(II)I"⟩
abbrev cX12_misfit : ByteArray := prog_14_method_49_code
def yX12_misfit : MethodName := ⟨RX12, "misfit", "(I)I"⟩
abbrev cX12_isKind : ByteArray := prog_14_method_50_code
def yX12_isKind : MethodName := ⟨RX12, "isKind", "(II)Z"⟩
abbrev cX12_typeDone : ByteArray := prog_14_method_51_code
def yX12_typeDone : MethodName := ⟨RX12, "typeDone", "(II)I"⟩
abbrev cX12_united : ByteArray := prog_14_method_52_code
def yX12_united : MethodName := ⟨RX12, "united", "(II)I"⟩
abbrev cX12_typeApplied : ByteArray := prog_14_method_53_code
def yX12_typeApplied : MethodName := ⟨RX12, "typeApplied", "(I)I"⟩
abbrev cX12_typeRecord : ByteArray := prog_14_method_54_code
def yX12_typeRecord : MethodName := ⟨RX12, "typeRecord", "(I)I"⟩
abbrev cX12_typeTaken : ByteArray := prog_14_method_55_code
def yX12_typeTaken : MethodName := ⟨RX12, "typeTaken", "(I)I"⟩
abbrev cX12_term : ByteArray := prog_14_method_56_code
def yX12_term : MethodName := ⟨RX12, "term", "()I"⟩
abbrev cX12_newValue : ByteArray := prog_14_method_57_code
def yX12_newValue : MethodName := ⟨RX12, "newValue", "(II)I"⟩
abbrev cX12_bind : ByteArray := prog_14_method_58_code
def yX12_bind : MethodName := ⟨RX12, "bind", "(II)I"⟩
abbrev cX12_begin : ByteArray := prog_14_method_59_code
def yX12_begin : MethodName := ⟨RX12, "begin", "(III)V"⟩
abbrev cX12_run : ByteArray := prog_14_method_60_code
def yX12_run : MethodName := ⟨RX12, "run", "(I)I"⟩
abbrev cX12_goOn : ByteArray := prog_14_method_61_code
def yX12_goOn : MethodName := ⟨RX12, "goOn", "()I"⟩
abbrev cX12_next : ByteArray := prog_14_method_62_code
def yX12_next : MethodName := ⟨RX12, "next", "(III)V"⟩
abbrev cX12_wantsMore : ByteArray := prog_14_method_63_code
def yX12_wantsMore : MethodName := ⟨RX12, "wantsMore", "(II)Z"⟩
abbrev cX12_finish : ByteArray := prog_14_method_64_code
def yX12_finish : MethodName := ⟨RX12, "finish", "(II)I"⟩
abbrev cX12_finishMore : ByteArray := prog_14_method_65_code
def yX12_finishMore : MethodName := ⟨RX12, "finishMore", "(IIII)I"⟩
abbrev cX12_value : ByteArray := prog_14_method_66_code
def yX12_value : MethodName := ⟨RX12, "value", "(II)I"⟩
abbrev cX12_count : ByteArray := prog_14_method_67_code
def yX12_count : MethodName := ⟨RX12, "count", "(I)I"⟩
def RL : String := "RoundTypesLaw"
abbrev cL_law : ByteArray := code
def yL_law : MethodName := ⟨RL, "law", "([I)Z"⟩
