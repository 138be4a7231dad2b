section
-- ===== PART A: goes FIRST, ahead of the names: the tables' words, and 'selects' of the private methods out of them =====
/-- a private method of a class that the tables say can be made, by its rows of tables_1 -/
def lw_okq (q : MethodName × Nat) : Prop := (q.1.cls ≠ "java/lang/invoke/MethodHandle" ∧ q.1.cls ≠ "java/lang/invoke/VarHandle") ∧ Cond.instantiable q.1.cls q.2 ∈ tables_1 ∧ Cond.privateMethod q.1 ∈ tables_1 ∧ Cond.instanceMethod q.1 ∈ tables_1
theorem lw_p0 : lw_okq (⟨"ZoneShares$LayerText", "wrongBreak", "(I)I"⟩, 7) := ⟨⟨by decide +kernel, by decide +kernel⟩, List.mem_of_getElem? (i := 152) (by decide +kernel), List.mem_of_getElem? (i := 395) (by decide +kernel), List.mem_of_getElem? (i := 396) (by decide +kernel)⟩
theorem lw_p1 : lw_okq (⟨"ZoneShares$LayerText", "wrongSign", "()I"⟩, 7) := ⟨⟨by decide +kernel, by decide +kernel⟩, List.mem_of_getElem? (i := 152) (by decide +kernel), List.mem_of_getElem? (i := 399) (by decide +kernel), List.mem_of_getElem? (i := 400) (by decide +kernel)⟩
theorem lw_p2 : lw_okq (⟨"ZoneShares$LayerText", "endRow", "()V"⟩, 7) := ⟨⟨by decide +kernel, by decide +kernel⟩, List.mem_of_getElem? (i := 152) (by decide +kernel), List.mem_of_getElem? (i := 403) (by decide +kernel), List.mem_of_getElem? (i := 404) (by decide +kernel)⟩
theorem lw_p3 : lw_okq (⟨"ZoneShares$LayerText", "put", "(I)V"⟩, 7) := ⟨⟨by decide +kernel, by decide +kernel⟩, List.mem_of_getElem? (i := 152) (by decide +kernel), List.mem_of_getElem? (i := 407) (by decide +kernel), List.mem_of_getElem? (i := 408) (by decide +kernel)⟩
theorem lw_p4 : lw_okq (⟨"ZoneShares", "startAct", "()V"⟩, 8) := ⟨⟨by decide +kernel, by decide +kernel⟩, List.mem_of_getElem? (i := 22) (by decide +kernel), List.mem_of_getElem? (i := 411) (by decide +kernel), List.mem_of_getElem? (i := 412) (by decide +kernel)⟩
theorem lw_p5 : lw_okq (⟨"ZoneShares", "forgetTables", "()V"⟩, 8) := ⟨⟨by decide +kernel, by decide +kernel⟩, List.mem_of_getElem? (i := 22) (by decide +kernel), List.mem_of_getElem? (i := 429) (by decide +kernel), List.mem_of_getElem? (i := 430) (by decide +kernel)⟩
theorem lw_p6 : lw_okq (⟨"ZoneShares$CountsText", "wrongPart", "(LZoneShares$Tape;)I"⟩, 3) := ⟨⟨by decide +kernel, by decide +kernel⟩, List.mem_of_getElem? (i := 183) (by decide +kernel), List.mem_of_getElem? (i := 453) (by decide +kernel), List.mem_of_getElem? (i := 454) (by decide +kernel)⟩
theorem lw_p7 : lw_okq (⟨"ZoneShares$CountsText", "number", "(LZoneShares$Tape;)I"⟩, 3) := ⟨⟨by decide +kernel, by decide +kernel⟩, List.mem_of_getElem? (i := 183) (by decide +kernel), List.mem_of_getElem? (i := 464) (by decide +kernel), List.mem_of_getElem? (i := 465) (by decide +kernel)⟩
theorem lw_p8 : lw_okq (⟨"ZoneShares", "fits", "(I)Z"⟩, 8) := ⟨⟨by decide +kernel, by decide +kernel⟩, List.mem_of_getElem? (i := 22) (by decide +kernel), List.mem_of_getElem? (i := 499) (by decide +kernel), List.mem_of_getElem? (i := 500) (by decide +kernel)⟩
theorem lw_p9 : lw_okq (⟨"ZoneShares$Fitter", "countCells", "(LZoneShares$State;I)V"⟩, 11) := ⟨⟨by decide +kernel, by decide +kernel⟩, List.mem_of_getElem? (i := 200) (by decide +kernel), List.mem_of_getElem? (i := 522) (by decide +kernel), List.mem_of_getElem? (i := 523) (by decide +kernel)⟩
theorem lw_p10 : lw_okq (⟨"ZoneShares$Fitter", "addWeight", "(II)V"⟩, 11) := ⟨⟨by decide +kernel, by decide +kernel⟩, List.mem_of_getElem? (i := 200) (by decide +kernel), List.mem_of_getElem? (i := 537) (by decide +kernel), List.mem_of_getElem? (i := 538) (by decide +kernel)⟩
theorem lw_p11 : lw_okq (⟨"ZoneShares$Fitter", "tryRow", "()V"⟩, 11) := ⟨⟨by decide +kernel, by decide +kernel⟩, List.mem_of_getElem? (i := 200) (by decide +kernel), List.mem_of_getElem? (i := 541) (by decide +kernel), List.mem_of_getElem? (i := 542) (by decide +kernel)⟩
theorem lw_p12 : lw_okq (⟨"ZoneShares$Fitter", "nextRow", "()V"⟩, 11) := ⟨⟨by decide +kernel, by decide +kernel⟩, List.mem_of_getElem? (i := 200) (by decide +kernel), List.mem_of_getElem? (i := 552) (by decide +kernel), List.mem_of_getElem? (i := 553) (by decide +kernel)⟩
theorem lw_p13 : lw_okq (⟨"ZoneShares$Group", "lacks", "(I)Z"⟩, 13) := ⟨⟨by decide +kernel, by decide +kernel⟩, List.mem_of_getElem? (i := 243) (by decide +kernel), List.mem_of_getElem? (i := 568) (by decide +kernel), List.mem_of_getElem? (i := 569) (by decide +kernel)⟩
theorem lw_p14 : lw_okq (⟨"ZoneShares$Group", "shareUnknown", "()V"⟩, 13) := ⟨⟨by decide +kernel, by decide +kernel⟩, List.mem_of_getElem? (i := 243) (by decide +kernel), List.mem_of_getElem? (i := 572) (by decide +kernel), List.mem_of_getElem? (i := 573) (by decide +kernel)⟩
theorem lw_p15 : lw_okq (⟨"ZoneShares$Table", "cutRow", "(II)V"⟩, 8) := ⟨⟨by decide +kernel, by decide +kernel⟩, List.mem_of_getElem? (i := 249) (by decide +kernel), List.mem_of_getElem? (i := 595) (by decide +kernel), List.mem_of_getElem? (i := 596) (by decide +kernel)⟩
def lw_privs_1 : List (MethodName × Nat) := [(⟨"ZoneShares$LayerText", "wrongBreak", "(I)I"⟩, 7), (⟨"ZoneShares$LayerText", "wrongSign", "()I"⟩, 7), (⟨"ZoneShares$LayerText", "endRow", "()V"⟩, 7), (⟨"ZoneShares$LayerText", "put", "(I)V"⟩, 7), (⟨"ZoneShares", "startAct", "()V"⟩, 8), (⟨"ZoneShares", "forgetTables", "()V"⟩, 8), (⟨"ZoneShares$CountsText", "wrongPart", "(LZoneShares$Tape;)I"⟩, 3), (⟨"ZoneShares$CountsText", "number", "(LZoneShares$Tape;)I"⟩, 3), (⟨"ZoneShares", "fits", "(I)Z"⟩, 8), (⟨"ZoneShares$Fitter", "countCells", "(LZoneShares$State;I)V"⟩, 11), (⟨"ZoneShares$Fitter", "addWeight", "(II)V"⟩, 11), (⟨"ZoneShares$Fitter", "tryRow", "()V"⟩, 11), (⟨"ZoneShares$Fitter", "nextRow", "()V"⟩, 11), (⟨"ZoneShares$Group", "lacks", "(I)Z"⟩, 13), (⟨"ZoneShares$Group", "shareUnknown", "()V"⟩, 13), (⟨"ZoneShares$Table", "cutRow", "(II)V"⟩, 8)]
theorem lw_r1 : ∀ q ∈ lw_privs_1, lw_okq q := List.forall_mem_cons.mpr ⟨lw_p0, List.forall_mem_cons.mpr ⟨lw_p1, List.forall_mem_cons.mpr ⟨lw_p2, List.forall_mem_cons.mpr ⟨lw_p3, List.forall_mem_cons.mpr ⟨lw_p4, List.forall_mem_cons.mpr ⟨lw_p5, List.forall_mem_cons.mpr ⟨lw_p6, List.forall_mem_cons.mpr ⟨lw_p7, List.forall_mem_cons.mpr ⟨lw_p8, List.forall_mem_cons.mpr ⟨lw_p9, List.forall_mem_cons.mpr ⟨lw_p10, List.forall_mem_cons.mpr ⟨lw_p11, List.forall_mem_cons.mpr ⟨lw_p12, List.forall_mem_cons.mpr ⟨lw_p13, List.forall_mem_cons.mpr ⟨lw_p14, List.forall_mem_cons.mpr ⟨lw_p15, fun _ h => absurd h List.not_mem_nil⟩⟩⟩⟩⟩⟩⟩⟩⟩⟩⟩⟩⟩⟩⟩⟩
theorem lw_p16 : lw_okq (⟨"ZoneShares$Table", "giveToGreatest", "(I)V"⟩, 8) := ⟨⟨by decide +kernel, by decide +kernel⟩, List.mem_of_getElem? (i := 249) (by decide +kernel), List.mem_of_getElem? (i := 607) (by decide +kernel), List.mem_of_getElem? (i := 608) (by decide +kernel)⟩
theorem lw_p17 : lw_okq (⟨"ZoneShares$Group", "fillMoves", "()V"⟩, 13) := ⟨⟨by decide +kernel, by decide +kernel⟩, List.mem_of_getElem? (i := 243) (by decide +kernel), List.mem_of_getElem? (i := 611) (by decide +kernel), List.mem_of_getElem? (i := 612) (by decide +kernel)⟩
theorem lw_p18 : lw_okq (⟨"ZoneShares$Rounder", "open", "(LZoneShares$Table;)V"⟩, 8) := ⟨⟨by decide +kernel, by decide +kernel⟩, List.mem_of_getElem? (i := 85) (by decide +kernel), List.mem_of_getElem? (i := 628) (by decide +kernel), List.mem_of_getElem? (i := 629) (by decide +kernel)⟩
theorem lw_p19 : lw_okq (⟨"ZoneShares$Rounder", "fillRow", "(II)V"⟩, 8) := ⟨⟨by decide +kernel, by decide +kernel⟩, List.mem_of_getElem? (i := 85) (by decide +kernel), List.mem_of_getElem? (i := 644) (by decide +kernel), List.mem_of_getElem? (i := 645) (by decide +kernel)⟩
theorem lw_p20 : lw_okq (⟨"ZoneShares$Rounder", "findWay", "(II)Z"⟩, 8) := ⟨⟨by decide +kernel, by decide +kernel⟩, List.mem_of_getElem? (i := 85) (by decide +kernel), List.mem_of_getElem? (i := 648) (by decide +kernel), List.mem_of_getElem? (i := 649) (by decide +kernel)⟩
theorem lw_p21 : lw_okq (⟨"ZoneShares$Rounder", "reach", "(II)V"⟩, 8) := ⟨⟨by decide +kernel, by decide +kernel⟩, List.mem_of_getElem? (i := 85) (by decide +kernel), List.mem_of_getElem? (i := 653) (by decide +kernel), List.mem_of_getElem? (i := 654) (by decide +kernel)⟩
theorem lw_p22 : lw_okq (⟨"ZoneShares$Rounder", "spreadRow", "(I)V"⟩, 8) := ⟨⟨by decide +kernel, by decide +kernel⟩, List.mem_of_getElem? (i := 85) (by decide +kernel), List.mem_of_getElem? (i := 657) (by decide +kernel), List.mem_of_getElem? (i := 658) (by decide +kernel)⟩
theorem lw_p23 : lw_okq (⟨"ZoneShares$Rounder", "spreadColumn", "(I)V"⟩, 8) := ⟨⟨by decide +kernel, by decide +kernel⟩, List.mem_of_getElem? (i := 85) (by decide +kernel), List.mem_of_getElem? (i := 661) (by decide +kernel), List.mem_of_getElem? (i := 662) (by decide +kernel)⟩
theorem lw_p24 : lw_okq (⟨"ZoneShares$Rounder", "spreadHub", "()V"⟩, 8) := ⟨⟨by decide +kernel, by decide +kernel⟩, List.mem_of_getElem? (i := 85) (by decide +kernel), List.mem_of_getElem? (i := 665) (by decide +kernel), List.mem_of_getElem? (i := 666) (by decide +kernel)⟩
theorem lw_p25 : lw_okq (⟨"ZoneShares$Rounder", "turnWay", "(II)V"⟩, 8) := ⟨⟨by decide +kernel, by decide +kernel⟩, List.mem_of_getElem? (i := 85) (by decide +kernel), List.mem_of_getElem? (i := 669) (by decide +kernel), List.mem_of_getElem? (i := 670) (by decide +kernel)⟩
theorem lw_p26 : lw_okq (⟨"ZoneShares$Rounder", "turnStep", "(II)V"⟩, 8) := ⟨⟨by decide +kernel, by decide +kernel⟩, List.mem_of_getElem? (i := 85) (by decide +kernel), List.mem_of_getElem? (i := 673) (by decide +kernel), List.mem_of_getElem? (i := 674) (by decide +kernel)⟩
theorem lw_p27 : lw_okq (⟨"ZoneShares$Rounder", "fillColumn", "(I)V"⟩, 8) := ⟨⟨by decide +kernel, by decide +kernel⟩, List.mem_of_getElem? (i := 85) (by decide +kernel), List.mem_of_getElem? (i := 677) (by decide +kernel), List.mem_of_getElem? (i := 678) (by decide +kernel)⟩
theorem lw_p28 : lw_okq (⟨"ZoneShares$Rounder", "fix", "(I)V"⟩, 8) := ⟨⟨by decide +kernel, by decide +kernel⟩, List.mem_of_getElem? (i := 85) (by decide +kernel), List.mem_of_getElem? (i := 681) (by decide +kernel), List.mem_of_getElem? (i := 682) (by decide +kernel)⟩
theorem lw_p29 : lw_okq (⟨"ZoneShares$Group", "fillBack", "()V"⟩, 13) := ⟨⟨by decide +kernel, by decide +kernel⟩, List.mem_of_getElem? (i := 243) (by decide +kernel), List.mem_of_getElem? (i := 685) (by decide +kernel), List.mem_of_getElem? (i := 686) (by decide +kernel)⟩
theorem lw_p30 : lw_okq (⟨"ZoneShares$Group", "fillCoarse", "()V"⟩, 13) := ⟨⟨by decide +kernel, by decide +kernel⟩, List.mem_of_getElem? (i := 243) (by decide +kernel), List.mem_of_getElem? (i := 693) (by decide +kernel), List.mem_of_getElem? (i := 694) (by decide +kernel)⟩
theorem lw_p31 : lw_okq (⟨"ZoneShares$Group", "fillWay", "()V"⟩, 13) := ⟨⟨by decide +kernel, by decide +kernel⟩, List.mem_of_getElem? (i := 243) (by decide +kernel), List.mem_of_getElem? (i := 697) (by decide +kernel), List.mem_of_getElem? (i := 698) (by decide +kernel)⟩
def lw_privs_2 : List (MethodName × Nat) := [(⟨"ZoneShares$Table", "giveToGreatest", "(I)V"⟩, 8), (⟨"ZoneShares$Group", "fillMoves", "()V"⟩, 13), (⟨"ZoneShares$Rounder", "open", "(LZoneShares$Table;)V"⟩, 8), (⟨"ZoneShares$Rounder", "fillRow", "(II)V"⟩, 8), (⟨"ZoneShares$Rounder", "findWay", "(II)Z"⟩, 8), (⟨"ZoneShares$Rounder", "reach", "(II)V"⟩, 8), (⟨"ZoneShares$Rounder", "spreadRow", "(I)V"⟩, 8), (⟨"ZoneShares$Rounder", "spreadColumn", "(I)V"⟩, 8), (⟨"ZoneShares$Rounder", "spreadHub", "()V"⟩, 8), (⟨"ZoneShares$Rounder", "turnWay", "(II)V"⟩, 8), (⟨"ZoneShares$Rounder", "turnStep", "(II)V"⟩, 8), (⟨"ZoneShares$Rounder", "fillColumn", "(I)V"⟩, 8), (⟨"ZoneShares$Rounder", "fix", "(I)V"⟩, 8), (⟨"ZoneShares$Group", "fillBack", "()V"⟩, 13), (⟨"ZoneShares$Group", "fillCoarse", "()V"⟩, 13), (⟨"ZoneShares$Group", "fillWay", "()V"⟩, 13)]
theorem lw_r2 : ∀ q ∈ lw_privs_2, lw_okq q := List.forall_mem_cons.mpr ⟨lw_p16, List.forall_mem_cons.mpr ⟨lw_p17, List.forall_mem_cons.mpr ⟨lw_p18, List.forall_mem_cons.mpr ⟨lw_p19, List.forall_mem_cons.mpr ⟨lw_p20, List.forall_mem_cons.mpr ⟨lw_p21, List.forall_mem_cons.mpr ⟨lw_p22, List.forall_mem_cons.mpr ⟨lw_p23, List.forall_mem_cons.mpr ⟨lw_p24, List.forall_mem_cons.mpr ⟨lw_p25, List.forall_mem_cons.mpr ⟨lw_p26, List.forall_mem_cons.mpr ⟨lw_p27, List.forall_mem_cons.mpr ⟨lw_p28, List.forall_mem_cons.mpr ⟨lw_p29, List.forall_mem_cons.mpr ⟨lw_p30, List.forall_mem_cons.mpr ⟨lw_p31, fun _ h => absurd h List.not_mem_nil⟩⟩⟩⟩⟩⟩⟩⟩⟩⟩⟩⟩⟩⟩⟩⟩
theorem lw_p32 : lw_okq (⟨"ZoneShares$Group", "sortCells", "()V"⟩, 13) := ⟨⟨by decide +kernel, by decide +kernel⟩, List.mem_of_getElem? (i := 243) (by decide +kernel), List.mem_of_getElem? (i := 701) (by decide +kernel), List.mem_of_getElem? (i := 702) (by decide +kernel)⟩
theorem lw_p33 : lw_okq (⟨"ZoneShares", "adoptCounts", "(I)I"⟩, 8) := ⟨⟨by decide +kernel, by decide +kernel⟩, List.mem_of_getElem? (i := 22) (by decide +kernel), List.mem_of_getElem? (i := 713) (by decide +kernel), List.mem_of_getElem? (i := 714) (by decide +kernel)⟩
theorem lw_p34 : lw_okq (⟨"ZoneShares", "countPieces", "()I"⟩, 8) := ⟨⟨by decide +kernel, by decide +kernel⟩, List.mem_of_getElem? (i := 22) (by decide +kernel), List.mem_of_getElem? (i := 739) (by decide +kernel), List.mem_of_getElem? (i := 740) (by decide +kernel)⟩
theorem lw_p35 : lw_okq (⟨"ZoneShares", "placeOfPiece", "(I)I"⟩, 8) := ⟨⟨by decide +kernel, by decide +kernel⟩, List.mem_of_getElem? (i := 22) (by decide +kernel), List.mem_of_getElem? (i := 744) (by decide +kernel), List.mem_of_getElem? (i := 745) (by decide +kernel)⟩
theorem lw_p36 : lw_okq (⟨"ZoneShares", "isTarget", "(II)Z"⟩, 8) := ⟨⟨by decide +kernel, by decide +kernel⟩, List.mem_of_getElem? (i := 22) (by decide +kernel), List.mem_of_getElem? (i := 757) (by decide +kernel), List.mem_of_getElem? (i := 758) (by decide +kernel)⟩
theorem lw_p37 : lw_okq (⟨"ZoneShares", "liesApart", "(II)Z"⟩, 8) := ⟨⟨by decide +kernel, by decide +kernel⟩, List.mem_of_getElem? (i := 22) (by decide +kernel), List.mem_of_getElem? (i := 852) (by decide +kernel), List.mem_of_getElem? (i := 853) (by decide +kernel)⟩
theorem lw_p38 : lw_okq (⟨"ZoneShares", "peopleInAll", "(Z)I"⟩, 8) := ⟨⟨by decide +kernel, by decide +kernel⟩, List.mem_of_getElem? (i := 22) (by decide +kernel), List.mem_of_getElem? (i := 875) (by decide +kernel), List.mem_of_getElem? (i := 876) (by decide +kernel)⟩
theorem lw_p39 : lw_okq (⟨"ZoneSharesModel", "puts", "(I)V"⟩, 47) := ⟨⟨by decide +kernel, by decide +kernel⟩, List.mem_of_getElem? (i := 887) (by decide +kernel), List.mem_of_getElem? (i := 1046) (by decide +kernel), List.mem_of_getElem? (i := 1047) (by decide +kernel)⟩
theorem lw_p40 : lw_okq (⟨"ZoneSharesModel", "isTold", "(I)Z"⟩, 47) := ⟨⟨by decide +kernel, by decide +kernel⟩, List.mem_of_getElem? (i := 887) (by decide +kernel), List.mem_of_getElem? (i := 1062) (by decide +kernel), List.mem_of_getElem? (i := 1063) (by decide +kernel)⟩
theorem lw_p41 : lw_okq (⟨"ZoneSharesModel", "readsLayer", "(I)V"⟩, 47) := ⟨⟨by decide +kernel, by decide +kernel⟩, List.mem_of_getElem? (i := 887) (by decide +kernel), List.mem_of_getElem? (i := 1066) (by decide +kernel), List.mem_of_getElem? (i := 1067) (by decide +kernel)⟩
theorem lw_p42 : lw_okq (⟨"ZoneSharesModel", "readsRow", "(II)V"⟩, 47) := ⟨⟨by decide +kernel, by decide +kernel⟩, List.mem_of_getElem? (i := 887) (by decide +kernel), List.mem_of_getElem? (i := 1070) (by decide +kernel), List.mem_of_getElem? (i := 1071) (by decide +kernel)⟩
theorem lw_p43 : lw_okq (⟨"ZoneSharesModel", "sign", "()I"⟩, 47) := ⟨⟨by decide +kernel, by decide +kernel⟩, List.mem_of_getElem? (i := 887) (by decide +kernel), List.mem_of_getElem? (i := 1074) (by decide +kernel), List.mem_of_getElem? (i := 1075) (by decide +kernel)⟩
theorem lw_p44 : lw_okq (⟨"ZoneSharesModel", "fails", "(II)V"⟩, 47) := ⟨⟨by decide +kernel, by decide +kernel⟩, List.mem_of_getElem? (i := 887) (by decide +kernel), List.mem_of_getElem? (i := 1085) (by decide +kernel), List.mem_of_getElem? (i := 1086) (by decide +kernel)⟩
theorem lw_p45 : lw_okq (⟨"ZoneSharesModel", "isRight", "()Z"⟩, 47) := ⟨⟨by decide +kernel, by decide +kernel⟩, List.mem_of_getElem? (i := 887) (by decide +kernel), List.mem_of_getElem? (i := 1089) (by decide +kernel), List.mem_of_getElem? (i := 1090) (by decide +kernel)⟩
theorem lw_p46 : lw_okq (⟨"ZoneSharesModel", "remembers", "()V"⟩, 47) := ⟨⟨by decide +kernel, by decide +kernel⟩, List.mem_of_getElem? (i := 887) (by decide +kernel), List.mem_of_getElem? (i := 1096) (by decide +kernel), List.mem_of_getElem? (i := 1097) (by decide +kernel)⟩
theorem lw_p47 : lw_okq (⟨"ZoneSharesModel", "readsCounts", "()V"⟩, 47) := ⟨⟨by decide +kernel, by decide +kernel⟩, List.mem_of_getElem? (i := 887) (by decide +kernel), List.mem_of_getElem? (i := 1107) (by decide +kernel), List.mem_of_getElem? (i := 1108) (by decide +kernel)⟩
def lw_privs_3 : List (MethodName × Nat) := [(⟨"ZoneShares$Group", "sortCells", "()V"⟩, 13), (⟨"ZoneShares", "adoptCounts", "(I)I"⟩, 8), (⟨"ZoneShares", "countPieces", "()I"⟩, 8), (⟨"ZoneShares", "placeOfPiece", "(I)I"⟩, 8), (⟨"ZoneShares", "isTarget", "(II)Z"⟩, 8), (⟨"ZoneShares", "liesApart", "(II)Z"⟩, 8), (⟨"ZoneShares", "peopleInAll", "(Z)I"⟩, 8), (⟨"ZoneSharesModel", "puts", "(I)V"⟩, 47), (⟨"ZoneSharesModel", "isTold", "(I)Z"⟩, 47), (⟨"ZoneSharesModel", "readsLayer", "(I)V"⟩, 47), (⟨"ZoneSharesModel", "readsRow", "(II)V"⟩, 47), (⟨"ZoneSharesModel", "sign", "()I"⟩, 47), (⟨"ZoneSharesModel", "fails", "(II)V"⟩, 47), (⟨"ZoneSharesModel", "isRight", "()Z"⟩, 47), (⟨"ZoneSharesModel", "remembers", "()V"⟩, 47), (⟨"ZoneSharesModel", "readsCounts", "()V"⟩, 47)]
theorem lw_r3 : ∀ q ∈ lw_privs_3, lw_okq q := List.forall_mem_cons.mpr ⟨lw_p32, List.forall_mem_cons.mpr ⟨lw_p33, List.forall_mem_cons.mpr ⟨lw_p34, List.forall_mem_cons.mpr ⟨lw_p35, List.forall_mem_cons.mpr ⟨lw_p36, List.forall_mem_cons.mpr ⟨lw_p37, List.forall_mem_cons.mpr ⟨lw_p38, List.forall_mem_cons.mpr ⟨lw_p39, List.forall_mem_cons.mpr ⟨lw_p40, List.forall_mem_cons.mpr ⟨lw_p41, List.forall_mem_cons.mpr ⟨lw_p42, List.forall_mem_cons.mpr ⟨lw_p43, List.forall_mem_cons.mpr ⟨lw_p44, List.forall_mem_cons.mpr ⟨lw_p45, List.forall_mem_cons.mpr ⟨lw_p46, List.forall_mem_cons.mpr ⟨lw_p47, fun _ h => absurd h List.not_mem_nil⟩⟩⟩⟩⟩⟩⟩⟩⟩⟩⟩⟩⟩⟩⟩⟩
theorem lw_p48 : lw_okq (⟨"ZoneSharesModel", "readsPart", "()V"⟩, 47) := ⟨⟨by decide +kernel, by decide +kernel⟩, List.mem_of_getElem? (i := 887) (by decide +kernel), List.mem_of_getElem? (i := 1111) (by decide +kernel), List.mem_of_getElem? (i := 1112) (by decide +kernel)⟩
theorem lw_p49 : lw_okq (⟨"ZoneSharesModel", "unknownOf", "(I)I"⟩, 47) := ⟨⟨by decide +kernel, by decide +kernel⟩, List.mem_of_getElem? (i := 887) (by decide +kernel), List.mem_of_getElem? (i := 1125) (by decide +kernel), List.mem_of_getElem? (i := 1126) (by decide +kernel)⟩
theorem lw_p50 : lw_okq (⟨"ZoneSharesModel", "countOf", "(II)I"⟩, 47) := ⟨⟨by decide +kernel, by decide +kernel⟩, List.mem_of_getElem? (i := 887) (by decide +kernel), List.mem_of_getElem? (i := 1129) (by decide +kernel), List.mem_of_getElem? (i := 1130) (by decide +kernel)⟩
theorem lw_p51 : lw_okq (⟨"ZoneSharesModel", "hasZone", "(II)Z"⟩, 47) := ⟨⟨by decide +kernel, by decide +kernel⟩, List.mem_of_getElem? (i := 887) (by decide +kernel), List.mem_of_getElem? (i := 1133) (by decide +kernel), List.mem_of_getElem? (i := 1134) (by decide +kernel)⟩
theorem lw_p52 : lw_okq (⟨"ZoneSharesModel", "cellMany", "()I"⟩, 47) := ⟨⟨by decide +kernel, by decide +kernel⟩, List.mem_of_getElem? (i := 887) (by decide +kernel), List.mem_of_getElem? (i := 1137) (by decide +kernel), List.mem_of_getElem? (i := 1138) (by decide +kernel)⟩
theorem lw_p53 : lw_okq (⟨"ZoneSharesModel", "codeAt", "(II)I"⟩, 47) := ⟨⟨by decide +kernel, by decide +kernel⟩, List.mem_of_getElem? (i := 887) (by decide +kernel), List.mem_of_getElem? (i := 1141) (by decide +kernel), List.mem_of_getElem? (i := 1142) (by decide +kernel)⟩
theorem lw_p54 : lw_okq (⟨"ZoneSharesModel", "asideOf", "(I)I"⟩, 47) := ⟨⟨by decide +kernel, by decide +kernel⟩, List.mem_of_getElem? (i := 887) (by decide +kernel), List.mem_of_getElem? (i := 1145) (by decide +kernel), List.mem_of_getElem? (i := 1146) (by decide +kernel)⟩
theorem lw_p55 : lw_okq (⟨"ZoneSharesModel", "isShared", "()Z"⟩, 47) := ⟨⟨by decide +kernel, by decide +kernel⟩, List.mem_of_getElem? (i := 887) (by decide +kernel), List.mem_of_getElem? (i := 1149) (by decide +kernel), List.mem_of_getElem? (i := 1150) (by decide +kernel)⟩
theorem lw_p56 : lw_okq (⟨"ZoneSharesModel", "codeMany", "(II)I"⟩, 47) := ⟨⟨by decide +kernel, by decide +kernel⟩, List.mem_of_getElem? (i := 887) (by decide +kernel), List.mem_of_getElem? (i := 1153) (by decide +kernel), List.mem_of_getElem? (i := 1154) (by decide +kernel)⟩
theorem lw_p57 : lw_okq (⟨"ZoneSharesModel", "allTold", "(I)I"⟩, 47) := ⟨⟨by decide +kernel, by decide +kernel⟩, List.mem_of_getElem? (i := 887) (by decide +kernel), List.mem_of_getElem? (i := 1157) (by decide +kernel), List.mem_of_getElem? (i := 1158) (by decide +kernel)⟩
theorem lw_p58 : lw_okq (⟨"ZoneSharesModel", "laysLiving", "(I)V"⟩, 47) := ⟨⟨by decide +kernel, by decide +kernel⟩, List.mem_of_getElem? (i := 887) (by decide +kernel), List.mem_of_getElem? (i := 1161) (by decide +kernel), List.mem_of_getElem? (i := 1162) (by decide +kernel)⟩
theorem lw_p59 : lw_okq (⟨"ZoneSharesModel", "begins", "(II)V"⟩, 47) := ⟨⟨by decide +kernel, by decide +kernel⟩, List.mem_of_getElem? (i := 887) (by decide +kernel), List.mem_of_getElem? (i := 1165) (by decide +kernel), List.mem_of_getElem? (i := 1166) (by decide +kernel)⟩
theorem lw_p60 : lw_okq (⟨"ZoneSharesModel", "wholeOf", "(I)I"⟩, 47) := ⟨⟨by decide +kernel, by decide +kernel⟩, List.mem_of_getElem? (i := 887) (by decide +kernel), List.mem_of_getElem? (i := 1169) (by decide +kernel), List.mem_of_getElem? (i := 1170) (by decide +kernel)⟩
theorem lw_p61 : lw_okq (⟨"ZoneSharesModel", "oldCells", "(I)I"⟩, 47) := ⟨⟨by decide +kernel, by decide +kernel⟩, List.mem_of_getElem? (i := 887) (by decide +kernel), List.mem_of_getElem? (i := 1176) (by decide +kernel), List.mem_of_getElem? (i := 1177) (by decide +kernel)⟩
theorem lw_p62 : lw_okq (⟨"ZoneSharesModel", "givesByRests", "(I)V"⟩, 47) := ⟨⟨by decide +kernel, by decide +kernel⟩, List.mem_of_getElem? (i := 887) (by decide +kernel), List.mem_of_getElem? (i := 1180) (by decide +kernel), List.mem_of_getElem? (i := 1181) (by decide +kernel)⟩
theorem lw_p63 : lw_okq (⟨"ZoneSharesModel", "cutsOff", "(I)J"⟩, 47) := ⟨⟨by decide +kernel, by decide +kernel⟩, List.mem_of_getElem? (i := 887) (by decide +kernel), List.mem_of_getElem? (i := 1184) (by decide +kernel), List.mem_of_getElem? (i := 1185) (by decide +kernel)⟩
def lw_privs_4 : List (MethodName × Nat) := [(⟨"ZoneSharesModel", "readsPart", "()V"⟩, 47), (⟨"ZoneSharesModel", "unknownOf", "(I)I"⟩, 47), (⟨"ZoneSharesModel", "countOf", "(II)I"⟩, 47), (⟨"ZoneSharesModel", "hasZone", "(II)Z"⟩, 47), (⟨"ZoneSharesModel", "cellMany", "()I"⟩, 47), (⟨"ZoneSharesModel", "codeAt", "(II)I"⟩, 47), (⟨"ZoneSharesModel", "asideOf", "(I)I"⟩, 47), (⟨"ZoneSharesModel", "isShared", "()Z"⟩, 47), (⟨"ZoneSharesModel", "codeMany", "(II)I"⟩, 47), (⟨"ZoneSharesModel", "allTold", "(I)I"⟩, 47), (⟨"ZoneSharesModel", "laysLiving", "(I)V"⟩, 47), (⟨"ZoneSharesModel", "begins", "(II)V"⟩, 47), (⟨"ZoneSharesModel", "wholeOf", "(I)I"⟩, 47), (⟨"ZoneSharesModel", "oldCells", "(I)I"⟩, 47), (⟨"ZoneSharesModel", "givesByRests", "(I)V"⟩, 47), (⟨"ZoneSharesModel", "cutsOff", "(I)J"⟩, 47)]
theorem lw_r4 : ∀ q ∈ lw_privs_4, lw_okq q := List.forall_mem_cons.mpr ⟨lw_p48, List.forall_mem_cons.mpr ⟨lw_p49, List.forall_mem_cons.mpr ⟨lw_p50, List.forall_mem_cons.mpr ⟨lw_p51, List.forall_mem_cons.mpr ⟨lw_p52, List.forall_mem_cons.mpr ⟨lw_p53, List.forall_mem_cons.mpr ⟨lw_p54, List.forall_mem_cons.mpr ⟨lw_p55, List.forall_mem_cons.mpr ⟨lw_p56, List.forall_mem_cons.mpr ⟨lw_p57, List.forall_mem_cons.mpr ⟨lw_p58, List.forall_mem_cons.mpr ⟨lw_p59, List.forall_mem_cons.mpr ⟨lw_p60, List.forall_mem_cons.mpr ⟨lw_p61, List.forall_mem_cons.mpr ⟨lw_p62, List.forall_mem_cons.mpr ⟨lw_p63, fun _ h => absurd h List.not_mem_nil⟩⟩⟩⟩⟩⟩⟩⟩⟩⟩⟩⟩⟩⟩⟩⟩
theorem lw_p64 : lw_okq (⟨"ZoneSharesModel", "isWhole", "()Z"⟩, 47) := ⟨⟨by decide +kernel, by decide +kernel⟩, List.mem_of_getElem? (i := 887) (by decide +kernel), List.mem_of_getElem? (i := 1192) (by decide +kernel), List.mem_of_getElem? (i := 1193) (by decide +kernel)⟩
theorem lw_p65 : lw_okq (⟨"ZoneSharesModel", "laysMoved", "(I)V"⟩, 47) := ⟨⟨by decide +kernel, by decide +kernel⟩, List.mem_of_getElem? (i := 887) (by decide +kernel), List.mem_of_getElem? (i := 1199) (by decide +kernel), List.mem_of_getElem? (i := 1200) (by decide +kernel)⟩
theorem lw_p66 : lw_okq (⟨"ZoneSharesModel", "byCells", "(II)Z"⟩, 47) := ⟨⟨by decide +kernel, by decide +kernel⟩, List.mem_of_getElem? (i := 887) (by decide +kernel), List.mem_of_getElem? (i := 1203) (by decide +kernel), List.mem_of_getElem? (i := 1204) (by decide +kernel)⟩
theorem lw_p67 : lw_okq (⟨"ZoneSharesModel", "sumOf", "(IIIZ)I"⟩, 47) := ⟨⟨by decide +kernel, by decide +kernel⟩, List.mem_of_getElem? (i := 887) (by decide +kernel), List.mem_of_getElem? (i := 1207) (by decide +kernel), List.mem_of_getElem? (i := 1208) (by decide +kernel)⟩
theorem lw_p68 : lw_okq (⟨"ZoneSharesModel", "weightAt", "(II)I"⟩, 47) := ⟨⟨by decide +kernel, by decide +kernel⟩, List.mem_of_getElem? (i := 887) (by decide +kernel), List.mem_of_getElem? (i := 1211) (by decide +kernel), List.mem_of_getElem? (i := 1212) (by decide +kernel)⟩
theorem lw_p69 : lw_okq (⟨"ZoneSharesModel", "fills", "()V"⟩, 47) := ⟨⟨by decide +kernel, by decide +kernel⟩, List.mem_of_getElem? (i := 887) (by decide +kernel), List.mem_of_getElem? (i := 1215) (by decide +kernel), List.mem_of_getElem? (i := 1216) (by decide +kernel)⟩
theorem lw_p70 : lw_okq (⟨"ZoneSharesModel", "balances", "()V"⟩, 47) := ⟨⟨by decide +kernel, by decide +kernel⟩, List.mem_of_getElem? (i := 887) (by decide +kernel), List.mem_of_getElem? (i := 1219) (by decide +kernel), List.mem_of_getElem? (i := 1220) (by decide +kernel)⟩
theorem lw_p71 : lw_okq (⟨"ZoneSharesModel", "laysColumn", "(I)V"⟩, 47) := ⟨⟨by decide +kernel, by decide +kernel⟩, List.mem_of_getElem? (i := 887) (by decide +kernel), List.mem_of_getElem? (i := 1223) (by decide +kernel), List.mem_of_getElem? (i := 1224) (by decide +kernel)⟩
theorem lw_p72 : lw_okq (⟨"ZoneSharesModel", "addsPart", "(JJ)V"⟩, 47) := ⟨⟨by decide +kernel, by decide +kernel⟩, List.mem_of_getElem? (i := 887) (by decide +kernel), List.mem_of_getElem? (i := 1227) (by decide +kernel), List.mem_of_getElem? (i := 1228) (by decide +kernel)⟩
theorem lw_p73 : lw_okq (⟨"ZoneSharesModel", "mayBe", "(II)Z"⟩, 47) := ⟨⟨by decide +kernel, by decide +kernel⟩, List.mem_of_getElem? (i := 887) (by decide +kernel), List.mem_of_getElem? (i := 1234) (by decide +kernel), List.mem_of_getElem? (i := 1235) (by decide +kernel)⟩
theorem lw_p74 : lw_okq (⟨"ZoneSharesModel", "canBe", "()Z"⟩, 47) := ⟨⟨by decide +kernel, by decide +kernel⟩, List.mem_of_getElem? (i := 887) (by decide +kernel), List.mem_of_getElem? (i := 1238) (by decide +kernel), List.mem_of_getElem? (i := 1239) (by decide +kernel)⟩
theorem lw_p75 : lw_okq (⟨"ZoneSharesModel", "fillsUp", "()V"⟩, 47) := ⟨⟨by decide +kernel, by decide +kernel⟩, List.mem_of_getElem? (i := 887) (by decide +kernel), List.mem_of_getElem? (i := 1242) (by decide +kernel), List.mem_of_getElem? (i := 1243) (by decide +kernel)⟩
theorem lw_p76 : lw_okq (⟨"ZoneSharesModel", "finds", "(I)Z"⟩, 47) := ⟨⟨by decide +kernel, by decide +kernel⟩, List.mem_of_getElem? (i := 887) (by decide +kernel), List.mem_of_getElem? (i := 1246) (by decide +kernel), List.mem_of_getElem? (i := 1247) (by decide +kernel)⟩
theorem lw_p77 : lw_okq (⟨"ZoneSharesModel", "makesPlace", "(I)Z"⟩, 47) := ⟨⟨by decide +kernel, by decide +kernel⟩, List.mem_of_getElem? (i := 887) (by decide +kernel), List.mem_of_getElem? (i := 1250) (by decide +kernel), List.mem_of_getElem? (i := 1251) (by decide +kernel)⟩
theorem lw_p78 : lw_okq (⟨"ZoneSharesModel", "tableSum", "()I"⟩, 47) := ⟨⟨by decide +kernel, by decide +kernel⟩, List.mem_of_getElem? (i := 887) (by decide +kernel), List.mem_of_getElem? (i := 1254) (by decide +kernel), List.mem_of_getElem? (i := 1255) (by decide +kernel)⟩
theorem lw_p79 : lw_okq (⟨"ZoneSharesModel", "rowSum", "(I)I"⟩, 47) := ⟨⟨by decide +kernel, by decide +kernel⟩, List.mem_of_getElem? (i := 887) (by decide +kernel), List.mem_of_getElem? (i := 1258) (by decide +kernel), List.mem_of_getElem? (i := 1259) (by decide +kernel)⟩
def lw_privs_5 : List (MethodName × Nat) := [(⟨"ZoneSharesModel", "isWhole", "()Z"⟩, 47), (⟨"ZoneSharesModel", "laysMoved", "(I)V"⟩, 47), (⟨"ZoneSharesModel", "byCells", "(II)Z"⟩, 47), (⟨"ZoneSharesModel", "sumOf", "(IIIZ)I"⟩, 47), (⟨"ZoneSharesModel", "weightAt", "(II)I"⟩, 47), (⟨"ZoneSharesModel", "fills", "()V"⟩, 47), (⟨"ZoneSharesModel", "balances", "()V"⟩, 47), (⟨"ZoneSharesModel", "laysColumn", "(I)V"⟩, 47), (⟨"ZoneSharesModel", "addsPart", "(JJ)V"⟩, 47), (⟨"ZoneSharesModel", "mayBe", "(II)Z"⟩, 47), (⟨"ZoneSharesModel", "canBe", "()Z"⟩, 47), (⟨"ZoneSharesModel", "fillsUp", "()V"⟩, 47), (⟨"ZoneSharesModel", "finds", "(I)Z"⟩, 47), (⟨"ZoneSharesModel", "makesPlace", "(I)Z"⟩, 47), (⟨"ZoneSharesModel", "tableSum", "()I"⟩, 47), (⟨"ZoneSharesModel", "rowSum", "(I)I"⟩, 47)]
theorem lw_r5 : ∀ q ∈ lw_privs_5, lw_okq q := List.forall_mem_cons.mpr ⟨lw_p64, List.forall_mem_cons.mpr ⟨lw_p65, List.forall_mem_cons.mpr ⟨lw_p66, List.forall_mem_cons.mpr ⟨lw_p67, List.forall_mem_cons.mpr ⟨lw_p68, List.forall_mem_cons.mpr ⟨lw_p69, List.forall_mem_cons.mpr ⟨lw_p70, List.forall_mem_cons.mpr ⟨lw_p71, List.forall_mem_cons.mpr ⟨lw_p72, List.forall_mem_cons.mpr ⟨lw_p73, List.forall_mem_cons.mpr ⟨lw_p74, List.forall_mem_cons.mpr ⟨lw_p75, List.forall_mem_cons.mpr ⟨lw_p76, List.forall_mem_cons.mpr ⟨lw_p77, List.forall_mem_cons.mpr ⟨lw_p78, List.forall_mem_cons.mpr ⟨lw_p79, fun _ h => absurd h List.not_mem_nil⟩⟩⟩⟩⟩⟩⟩⟩⟩⟩⟩⟩⟩⟩⟩⟩
theorem lw_p80 : lw_okq (⟨"ZoneSharesModel", "columnSum", "(I)I"⟩, 47) := ⟨⟨by decide +kernel, by decide +kernel⟩, List.mem_of_getElem? (i := 887) (by decide +kernel), List.mem_of_getElem? (i := 1262) (by decide +kernel), List.mem_of_getElem? (i := 1263) (by decide +kernel)⟩
theorem lw_p81 : lw_okq (⟨"ZoneSharesModel", "laysCoarse", "(I)V"⟩, 47) := ⟨⟨by decide +kernel, by decide +kernel⟩, List.mem_of_getElem? (i := 887) (by decide +kernel), List.mem_of_getElem? (i := 1271) (by decide +kernel), List.mem_of_getElem? (i := 1272) (by decide +kernel)⟩
theorem lw_p82 : lw_okq (⟨"ZoneSharesModel", "districtAt", "(I)I"⟩, 47) := ⟨⟨by decide +kernel, by decide +kernel⟩, List.mem_of_getElem? (i := 887) (by decide +kernel), List.mem_of_getElem? (i := 1275) (by decide +kernel), List.mem_of_getElem? (i := 1276) (by decide +kernel)⟩
theorem lw_p83 : lw_okq (⟨"ZoneSharesModel", "laysWay", "(IIZ)V"⟩, 47) := ⟨⟨by decide +kernel, by decide +kernel⟩, List.mem_of_getElem? (i := 887) (by decide +kernel), List.mem_of_getElem? (i := 1283) (by decide +kernel), List.mem_of_getElem? (i := 1284) (by decide +kernel)⟩
theorem lw_p84 : lw_okq (⟨"ZoneSharesModel", "laysReturned", "(I)V"⟩, 47) := ⟨⟨by decide +kernel, by decide +kernel⟩, List.mem_of_getElem? (i := 887) (by decide +kernel), List.mem_of_getElem? (i := 1291) (by decide +kernel), List.mem_of_getElem? (i := 1292) (by decide +kernel)⟩
theorem lw_p85 : lw_okq (⟨"ZoneSharesModel", "isCell", "(II)Z"⟩, 47) := ⟨⟨by decide +kernel, by decide +kernel⟩, List.mem_of_getElem? (i := 887) (by decide +kernel), List.mem_of_getElem? (i := 1315) (by decide +kernel), List.mem_of_getElem? (i := 1316) (by decide +kernel)⟩
theorem lw_p86 : lw_okq (⟨"ZoneSharesModel", "laysSurface", "(I)V"⟩, 47) := ⟨⟨by decide +kernel, by decide +kernel⟩, List.mem_of_getElem? (i := 887) (by decide +kernel), List.mem_of_getElem? (i := 1319) (by decide +kernel), List.mem_of_getElem? (i := 1320) (by decide +kernel)⟩
theorem lw_p87 : lw_okq (⟨"ZoneSharesModel", "isAhead", "(II)Z"⟩, 47) := ⟨⟨by decide +kernel, by decide +kernel⟩, List.mem_of_getElem? (i := 887) (by decide +kernel), List.mem_of_getElem? (i := 1327) (by decide +kernel), List.mem_of_getElem? (i := 1328) (by decide +kernel)⟩
theorem lw_p88 : lw_okq (⟨"ZoneSharesModel", "newCells", "(I)I"⟩, 47) := ⟨⟨by decide +kernel, by decide +kernel⟩, List.mem_of_getElem? (i := 887) (by decide +kernel), List.mem_of_getElem? (i := 1336) (by decide +kernel), List.mem_of_getElem? (i := 1337) (by decide +kernel)⟩
theorem lw_p89 : lw_okq (⟨"ZoneSharesModel", "laysCellsOf", "(I)V"⟩, 47) := ⟨⟨by decide +kernel, by decide +kernel⟩, List.mem_of_getElem? (i := 887) (by decide +kernel), List.mem_of_getElem? (i := 1398) (by decide +kernel), List.mem_of_getElem? (i := 1399) (by decide +kernel)⟩
theorem lw_p90 : lw_okq (⟨"ZoneSharesModel", "laysMisfit", "(I)Z"⟩, 47) := ⟨⟨by decide +kernel, by decide +kernel⟩, List.mem_of_getElem? (i := 887) (by decide +kernel), List.mem_of_getElem? (i := 1402) (by decide +kernel), List.mem_of_getElem? (i := 1403) (by decide +kernel)⟩
theorem lw_p91 : lw_okq (⟨"ZoneSharesModel", "weighs", "(I)I"⟩, 47) := ⟨⟨by decide +kernel, by decide +kernel⟩, List.mem_of_getElem? (i := 887) (by decide +kernel), List.mem_of_getElem? (i := 1406) (by decide +kernel), List.mem_of_getElem? (i := 1407) (by decide +kernel)⟩
theorem lw_p92 : lw_okq (⟨"ZoneSharesModel", "isOldCounted", "(I)Z"⟩, 47) := ⟨⟨by decide +kernel, by decide +kernel⟩, List.mem_of_getElem? (i := 887) (by decide +kernel), List.mem_of_getElem? (i := 1410) (by decide +kernel), List.mem_of_getElem? (i := 1411) (by decide +kernel)⟩
theorem lw_p93 : lw_okq (⟨"ZoneSharesModel", "fitsFrom", "(II)V"⟩, 47) := ⟨⟨by decide +kernel, by decide +kernel⟩, List.mem_of_getElem? (i := 887) (by decide +kernel), List.mem_of_getElem? (i := 1419) (by decide +kernel), List.mem_of_getElem? (i := 1420) (by decide +kernel)⟩
theorem lw_p94 : lw_okq (⟨"ZoneSharesModel", "landCells", "(I)I"⟩, 47) := ⟨⟨by decide +kernel, by decide +kernel⟩, List.mem_of_getElem? (i := 887) (by decide +kernel), List.mem_of_getElem? (i := 1423) (by decide +kernel), List.mem_of_getElem? (i := 1424) (by decide +kernel)⟩
theorem lw_p95 : lw_okq (⟨"ZoneSharesModel", "isWeight", "(III)Z"⟩, 47) := ⟨⟨by decide +kernel, by decide +kernel⟩, List.mem_of_getElem? (i := 887) (by decide +kernel), List.mem_of_getElem? (i := 1432) (by decide +kernel), List.mem_of_getElem? (i := 1433) (by decide +kernel)⟩
def lw_privs_6 : List (MethodName × Nat) := [(⟨"ZoneSharesModel", "columnSum", "(I)I"⟩, 47), (⟨"ZoneSharesModel", "laysCoarse", "(I)V"⟩, 47), (⟨"ZoneSharesModel", "districtAt", "(I)I"⟩, 47), (⟨"ZoneSharesModel", "laysWay", "(IIZ)V"⟩, 47), (⟨"ZoneSharesModel", "laysReturned", "(I)V"⟩, 47), (⟨"ZoneSharesModel", "isCell", "(II)Z"⟩, 47), (⟨"ZoneSharesModel", "laysSurface", "(I)V"⟩, 47), (⟨"ZoneSharesModel", "isAhead", "(II)Z"⟩, 47), (⟨"ZoneSharesModel", "newCells", "(I)I"⟩, 47), (⟨"ZoneSharesModel", "laysCellsOf", "(I)V"⟩, 47), (⟨"ZoneSharesModel", "laysMisfit", "(I)Z"⟩, 47), (⟨"ZoneSharesModel", "weighs", "(I)I"⟩, 47), (⟨"ZoneSharesModel", "isOldCounted", "(I)Z"⟩, 47), (⟨"ZoneSharesModel", "fitsFrom", "(II)V"⟩, 47), (⟨"ZoneSharesModel", "landCells", "(I)I"⟩, 47), (⟨"ZoneSharesModel", "isWeight", "(III)Z"⟩, 47)]
theorem lw_r6 : ∀ q ∈ lw_privs_6, lw_okq q := List.forall_mem_cons.mpr ⟨lw_p80, List.forall_mem_cons.mpr ⟨lw_p81, List.forall_mem_cons.mpr ⟨lw_p82, List.forall_mem_cons.mpr ⟨lw_p83, List.forall_mem_cons.mpr ⟨lw_p84, List.forall_mem_cons.mpr ⟨lw_p85, List.forall_mem_cons.mpr ⟨lw_p86, List.forall_mem_cons.mpr ⟨lw_p87, List.forall_mem_cons.mpr ⟨lw_p88, List.forall_mem_cons.mpr ⟨lw_p89, List.forall_mem_cons.mpr ⟨lw_p90, List.forall_mem_cons.mpr ⟨lw_p91, List.forall_mem_cons.mpr ⟨lw_p92, List.forall_mem_cons.mpr ⟨lw_p93, List.forall_mem_cons.mpr ⟨lw_p94, List.forall_mem_cons.mpr ⟨lw_p95, fun _ h => absurd h List.not_mem_nil⟩⟩⟩⟩⟩⟩⟩⟩⟩⟩⟩⟩⟩⟩⟩⟩
theorem lw_p96 : lw_okq (⟨"ZoneSharesModel", "pieceCells", "(III)I"⟩, 47) := ⟨⟨by decide +kernel, by decide +kernel⟩, List.mem_of_getElem? (i := 887) (by decide +kernel), List.mem_of_getElem? (i := 1457) (by decide +kernel), List.mem_of_getElem? (i := 1458) (by decide +kernel)⟩
theorem lw_p97 : lw_okq (⟨"ZoneSharesModel", "isApart", "(II)Z"⟩, 47) := ⟨⟨by decide +kernel, by decide +kernel⟩, List.mem_of_getElem? (i := 887) (by decide +kernel), List.mem_of_getElem? (i := 1465) (by decide +kernel), List.mem_of_getElem? (i := 1466) (by decide +kernel)⟩
theorem lw_p98 : lw_okq (⟨"ZoneSharesModel", "newSet", "(I)I"⟩, 47) := ⟨⟨by decide +kernel, by decide +kernel⟩, List.mem_of_getElem? (i := 887) (by decide +kernel), List.mem_of_getElem? (i := 1469) (by decide +kernel), List.mem_of_getElem? (i := 1470) (by decide +kernel)⟩
theorem lw_p99 : lw_okq (⟨"ZoneSharesModel", "movedAll", "()I"⟩, 47) := ⟨⟨by decide +kernel, by decide +kernel⟩, List.mem_of_getElem? (i := 887) (by decide +kernel), List.mem_of_getElem? (i := 1482) (by decide +kernel), List.mem_of_getElem? (i := 1483) (by decide +kernel)⟩
theorem lw_p100 : lw_okq (⟨"ZoneSharesModel", "asideAll", "()I"⟩, 47) := ⟨⟨by decide +kernel, by decide +kernel⟩, List.mem_of_getElem? (i := 887) (by decide +kernel), List.mem_of_getElem? (i := 1486) (by decide +kernel), List.mem_of_getElem? (i := 1487) (by decide +kernel)⟩
def lw_privs_7 : List (MethodName × Nat) := [(⟨"ZoneSharesModel", "pieceCells", "(III)I"⟩, 47), (⟨"ZoneSharesModel", "isApart", "(II)Z"⟩, 47), (⟨"ZoneSharesModel", "newSet", "(I)I"⟩, 47), (⟨"ZoneSharesModel", "movedAll", "()I"⟩, 47), (⟨"ZoneSharesModel", "asideAll", "()I"⟩, 47)]
theorem lw_r7 : ∀ q ∈ lw_privs_7, lw_okq q := List.forall_mem_cons.mpr ⟨lw_p96, List.forall_mem_cons.mpr ⟨lw_p97, List.forall_mem_cons.mpr ⟨lw_p98, List.forall_mem_cons.mpr ⟨lw_p99, List.forall_mem_cons.mpr ⟨lw_p100, fun _ h => absurd h List.not_mem_nil⟩⟩⟩⟩⟩
def lw_privs : List (MethodName × Nat) := lw_privs_1 ++ (lw_privs_2 ++ (lw_privs_3 ++ (lw_privs_4 ++ (lw_privs_5 ++ (lw_privs_6 ++ (lw_privs_7))))))
def lw_tbl : List Cond := k2_sels lw_privs ++ tables_1
theorem lw_privs_ok : ∀ q ∈ lw_privs, lw_okq q := by
  show ∀ q ∈ lw_privs_1 ++ (lw_privs_2 ++ (lw_privs_3 ++ (lw_privs_4 ++ (lw_privs_5 ++ (lw_privs_6 ++ (lw_privs_7)))))), lw_okq q
  exact List.forall_mem_append.mpr ⟨lw_r1, List.forall_mem_append.mpr ⟨lw_r2, List.forall_mem_append.mpr ⟨lw_r3, List.forall_mem_append.mpr ⟨lw_r4, List.forall_mem_append.mpr ⟨lw_r5, List.forall_mem_append.mpr ⟨lw_r6, lw_r7⟩⟩⟩⟩⟩⟩
/-- the streams that the claim lets the run draw from -/
abbrev lw_cs : List Choice := [Jvm.Choice.named "NaN.bits", Jvm.Choice.named "NaN.copy"]
theorem lw_bits : nanBits ∈ lw_cs := by first | decide | exact List.mem_cons_self | simp [lw_cs, nanBits]
-- ===== end of PART A; then your names; then what follows =====
end
section
/-- tables as binary trees over the bits of the key -/
def iv_Tr (α : Type) : Nat → Type
  | 0 => Option α
  | n + 1 => iv_Tr α n × iv_Tr α n
def iv_nd {α : Type} {n : Nat} (a b : iv_Tr α n) : iv_Tr α (n + 1) := (a, b)
def iv_em {α : Type} : (n : Nat) → iv_Tr α n
  | 0 => (none : Option α)
  | n + 1 => iv_nd (iv_em n) (iv_em n)
def iv_tl {α : Type} : (n : Nat) → iv_Tr α n → Nat → Option α
  | 0, t, _ => t
  | n + 1, t, k => bif Nat.ble (2 ^ n) k then iv_tl n (Prod.snd t) (k - 2 ^ n) else iv_tl n (Prod.fst t) k
/-! TABLES of this claim, printed by a program out of NAMES and the tables of the Statement: classes, fields, methods, code; and that they agree with the words -/
def iv_cn (k : Nat) : String := match k with
  | 0 => "ZoneShares$Bits"
  | 1 => "ZoneShares$CountsText"
  | 2 => "ZoneShares$Fitter"
  | 3 => "ZoneShares$Group"
  | 4 => "ZoneShares$History"
  | 5 => "ZoneShares$LayerText"
  | 6 => "ZoneShares$Rounder"
  | 7 => "ZoneShares$State"
  | 8 => "ZoneShares$Table"
  | 9 => "ZoneShares$Tape"
  | 10 => "ZoneShares"
  | 11 => "ZoneSharesModel"
  | 12 => "java/util/Arrays"
  | 13 => "java/lang/Math"
  | 14 => "java/lang/Integer"
  | 15 => "ZoneSharesLaw"
  | _ => ""
def iv_T0 : u_T := fun k => match k with
  | 0 => ("ZoneShares$CountsText", "people", "[I", true)
  | 1 => ("ZoneShares$CountsText", "toldSlots", "I", false)
  | _ => ("ZoneShares$CountsText", "place", "I", false)
def iv_T1 : u_T := fun k => match k with
  | 0 => ("ZoneShares$Fitter", "best", "[I", true)
  | 1 => ("ZoneShares$Fitter", "people", "J", false)
  | 2 => ("ZoneShares$Fitter", "zones", "I", false)
  | 3 => ("ZoneShares$Fitter", "counted", "[I", true)
  | 4 => ("ZoneShares$Fitter", "cells", "[I", true)
  | 5 => ("ZoneShares$Fitter", "landCells", "[I", true)
  | 6 => ("ZoneShares$Fitter", "row", "[I", true)
  | 7 => ("ZoneShares$Fitter", "weighed", "[I", true)
  | 8 => ("ZoneShares$Fitter", "weighedInAll", "J", false)
  | 9 => ("ZoneShares$Fitter", "bestMisfit", "J", false)
  | _ => ("ZoneShares$Fitter", "bestSum", "J", false)
def iv_T2 : u_T := fun k => match k with
  | 0 => ("ZoneShares$Group", "lives", "[I", true)
  | 1 => ("ZoneShares$Group", "order", "[I", true)
  | 2 => ("ZoneShares$Group", "moves", "LZoneShares$Table;", true)
  | 3 => ("ZoneShares$Group", "back", "LZoneShares$Table;", true)
  | 4 => ("ZoneShares$Group", "coarse", "LZoneShares$Table;", true)
  | 5 => ("ZoneShares$Group", "way", "LZoneShares$Table;", true)
  | 6 => ("ZoneShares$Group", "unknown", "I", false)
  | 7 => ("ZoneShares$Group", "aside", "I", false)
  | 8 => ("ZoneShares$Group", "done", "I", false)
  | 9 => ("ZoneShares$Group", "group", "I", true)
  | 10 => ("ZoneShares$Group", "map", "LZoneShares$State;", true)
  | 11 => ("ZoneShares$Group", "rounder", "LZoneShares$Rounder;", true)
  | _ => ("ZoneShares$Group", "sharing", "LZoneShares$Table;", true)
def iv_T3 : u_T := fun k => match k with
  | 0 => ("ZoneShares$History", "past", "[LZoneShares$State;", true)
  | 1 => ("ZoneShares$History", "next", "I", false)
  | _ => ("ZoneShares$History", "acts", "I", false)
def iv_T4 : u_T := fun k => match k with
  | 0 => ("ZoneShares$LayerText", "signs", "[I", true)
  | 1 => ("ZoneShares$LayerText", "rows", "I", false)
  | 2 => ("ZoneShares$LayerText", "columns", "I", false)
  | 3 => ("ZoneShares$LayerText", "filled", "I", false)
  | 4 => ("ZoneShares$LayerText", "mostRows", "I", false)
  | 5 => ("ZoneShares$LayerText", "widthKnown", "Z", false)
  | _ => ("ZoneShares$LayerText", "asLargeAsOld", "Z", false)
def iv_T5 : u_T := fun k => match k with
  | 0 => ("ZoneShares$Rounder", "free", "[I", true)
  | 1 => ("ZoneShares$Rounder", "more", "[I", true)
  | 2 => ("ZoneShares$Rounder", "least", "[I", true)
  | 3 => ("ZoneShares$Rounder", "most", "[I", true)
  | 4 => ("ZoneShares$Rounder", "come", "[I", true)
  | 5 => ("ZoneShares$Rounder", "from", "[I", true)
  | 6 => ("ZoneShares$Rounder", "queue", "[I", true)
  | _ => ("ZoneShares$Rounder", "queued", "I", false)
def iv_T6 : u_T := fun k => match k with
  | 0 => ("ZoneShares$State", "signs", "[I", true)
  | 1 => ("ZoneShares$State", "counted", "[I", true)
  | 2 => ("ZoneShares$State", "weights", "[I", true)
  | 3 => ("ZoneShares$State", "districts", "[I", true)
  | 4 => ("ZoneShares$State", "rows", "I", false)
  | 5 => ("ZoneShares$State", "columns", "I", false)
  | 6 => ("ZoneShares$State", "told", "I", false)
  | 7 => ("ZoneShares$State", "rounding", "I", false)
  | _ => ("ZoneShares$State", "sharing", "I", false)
def iv_T7 : u_T := fun k => match k with
  | 0 => ("ZoneShares$Table", "people", "[I", true)
  | 1 => ("ZoneShares$Table", "totals", "[I", true)
  | 2 => ("ZoneShares$Table", "plain", "[I", true)
  | 3 => ("ZoneShares$Table", "parts", "[I", true)
  | 4 => ("ZoneShares$Table", "cells", "[I", true)
  | 5 => ("ZoneShares$Table", "floors", "[I", true)
  | 6 => ("ZoneShares$Table", "rests", "[I", true)
  | _ => ("ZoneShares$Table", "given", "[I", true)
def iv_T8 : u_T := fun k => match k with
  | 0 => ("ZoneShares$Tape", "bytes", "[I", true)
  | _ => ("ZoneShares$Tape", "length", "I", false)
def iv_T9 : u_T := fun k => match k with
  | 0 => ("ZoneShares", "tape", "LZoneShares$Tape;", true)
  | 1 => ("ZoneShares", "now", "LZoneShares$State;", true)
  | 2 => ("ZoneShares", "history", "LZoneShares$History;", true)
  | 3 => ("ZoneShares", "layerText", "LZoneShares$LayerText;", true)
  | 4 => ("ZoneShares", "countsText", "LZoneShares$CountsText;", true)
  | 5 => ("ZoneShares", "fitter", "LZoneShares$Fitter;", true)
  | 6 => ("ZoneShares", "groups", "[LZoneShares$Group;", true)
  | _ => ("ZoneShares", "pieceCells", "[I", true)
def iv_T10 : u_T := fun k => match k with
  | 0 => ("ZoneSharesModel", "now", "[I", true)
  | 1 => ("ZoneSharesModel", "past", "[I", true)
  | 2 => ("ZoneSharesModel", "pastMany", "I", false)
  | 3 => ("ZoneSharesModel", "tape", "[B", true)
  | 4 => ("ZoneSharesModel", "taped", "I", false)
  | 5 => ("ZoneSharesModel", "p", "I", false)
  | 6 => ("ZoneSharesModel", "fault", "I", false)
  | 7 => ("ZoneSharesModel", "told", "[I", true)
  | 8 => ("ZoneSharesModel", "toldRows", "I", false)
  | 9 => ("ZoneSharesModel", "toldColumns", "I", false)
  | 10 => ("ZoneSharesModel", "heard", "[I", true)
  | 11 => ("ZoneSharesModel", "heardSet", "I", false)
  | 12 => ("ZoneSharesModel", "people", "[J", true)
  | 13 => ("ZoneSharesModel", "part", "[I", true)
  | 14 => ("ZoneSharesModel", "whole", "[I", true)
  | 15 => ("ZoneSharesModel", "table", "[J", true)
  | 16 => ("ZoneSharesModel", "rest", "[J", true)
  | 17 => ("ZoneSharesModel", "tableRows", "I", false)
  | 18 => ("ZoneSharesModel", "tableColumns", "I", false)
  | 19 => ("ZoneSharesModel", "left", "[J", true)
  | 20 => ("ZoneSharesModel", "least", "[J", true)
  | 21 => ("ZoneSharesModel", "most", "[J", true)
  | 22 => ("ZoneSharesModel", "limit", "[J", true)
  | 23 => ("ZoneSharesModel", "used", "[J", true)
  | 24 => ("ZoneSharesModel", "need", "[J", true)
  | 25 => ("ZoneSharesModel", "one", "[Z", true)
  | 26 => ("ZoneSharesModel", "isSet", "[Z", true)
  | 27 => ("ZoneSharesModel", "isOne", "[Z", true)
  | 28 => ("ZoneSharesModel", "seen", "[Z", true)
  | 29 => ("ZoneSharesModel", "sumUpper", "J", false)
  | 30 => ("ZoneSharesModel", "sumUnder", "J", false)
  | 31 => ("ZoneSharesModel", "living", "[I", true)
  | 32 => ("ZoneSharesModel", "coarsePart", "[I", true)
  | 33 => ("ZoneSharesModel", "coming", "[I", true)
  | 34 => ("ZoneSharesModel", "gone", "[I", true)
  | 35 => ("ZoneSharesModel", "falls", "[J", true)
  | 36 => ("ZoneSharesModel", "fallsBy", "[J", true)
  | 37 => ("ZoneSharesModel", "cellsOf", "[I", true)
  | 38 => ("ZoneSharesModel", "tried", "[I", true)
  | 39 => ("ZoneSharesModel", "best", "[I", true)
  | 40 => ("ZoneSharesModel", "misUpper", "J", false)
  | 41 => ("ZoneSharesModel", "misUnder", "J", false)
  | 42 => ("ZoneSharesModel", "counted", "I", false)
  | 43 => ("ZoneSharesModel", "hasBest", "Z", false)
  | 44 => ("ZoneSharesModel", "bestUpper", "J", false)
  | 45 => ("ZoneSharesModel", "bestUnder", "J", false)
  | _ => ("ZoneSharesModel", "adopted", "[I", true)
def iv_cl : List vw_C := [(iv_cn 1, iv_T0, 3), (iv_cn 2, iv_T1, 11), (iv_cn 3, iv_T2, 13), (iv_cn 4, iv_T3, 3), (iv_cn 5, iv_T4, 7), (iv_cn 6, iv_T5, 8), (iv_cn 7, iv_T6, 9), (iv_cn 8, iv_T7, 8), (iv_cn 9, iv_T8, 2), (iv_cn 10, iv_T9, 8), (iv_cn 11, iv_T10, 47)]
/-- a class's own file -/
def iv_ow (c : Nat) : Nat := match c with
  | 0 => 1
  | 1 => 2
  | 2 => 3
  | 3 => 4
  | 4 => 5
  | 5 => 6
  | 6 => 7
  | 7 => 8
  | 8 => 9
  | 9 => 10
  | 10 => 11
  | _ => 999
def iv_ftT : iv_Tr FieldType 10 := (iv_nd (iv_nd (iv_nd (iv_nd (iv_nd (iv_nd (iv_nd (iv_nd (iv_nd (iv_nd (some (.array .int)) (some (.int))) (iv_nd (some (.int)) (iv_em 0))) (iv_em 2)) (iv_em 3)) (iv_em 4)) (iv_em 5)) (iv_nd (iv_nd (iv_nd (iv_nd (iv_nd (iv_nd (some (.array .int)) (some (.long))) (iv_nd (some (.int)) (some (.array .int)))) (iv_nd (iv_nd (some (.array .int)) (some (.array .int))) (iv_nd (some (.array .int)) (some (.array .int))))) (iv_nd (iv_nd (iv_nd (some (.long)) (some (.long))) (iv_nd (some (.long)) (iv_em 0))) (iv_em 2))) (iv_em 4)) (iv_em 5))) (iv_nd (iv_nd (iv_nd (iv_nd (iv_nd (iv_nd (iv_nd (some (.array .int)) (some (.array .int))) (iv_nd (some (.object "ZoneShares$Table")) (some (.object "ZoneShares$Table")))) (iv_nd (iv_nd (some (.object "ZoneShares$Table")) (some (.object "ZoneShares$Table"))) (iv_nd (some (.int)) (some (.int))))) (iv_nd (iv_nd (iv_nd (some (.int)) (some (.int))) (iv_nd (some (.object "ZoneShares$State")) (some (.object "ZoneShares$Rounder")))) (iv_nd (iv_nd (some (.object "ZoneShares$Table")) (iv_em 0)) (iv_em 1)))) (iv_em 4)) (iv_em 5)) (iv_nd (iv_nd (iv_nd (iv_nd (iv_nd (iv_nd (some (.array (.object "ZoneShares$State"))) (some (.int))) (iv_nd (some (.int)) (iv_em 0))) (iv_em 2)) (iv_em 3)) (iv_em 4)) (iv_em 5)))) (iv_nd (iv_nd (iv_nd (iv_nd (iv_nd (iv_nd (iv_nd (iv_nd (some (.array .int)) (some (.int))) (iv_nd (some (.int)) (some (.int)))) (iv_nd (iv_nd (some (.int)) (some (.boolean))) (iv_nd (some (.boolean)) (iv_em 0)))) (iv_em 3)) (iv_em 4)) (iv_em 5)) (iv_nd (iv_nd (iv_nd (iv_nd (iv_nd (iv_nd (some (.array .int)) (some (.array .int))) (iv_nd (some (.array .int)) (some (.array .int)))) (iv_nd (iv_nd (some (.array .int)) (some (.array .int))) (iv_nd (some (.array .int)) (some (.int))))) (iv_em 3)) (iv_em 4)) (iv_em 5))) (iv_nd (iv_nd (iv_nd (iv_nd (iv_nd (iv_nd (iv_nd (some (.array .int)) (some (.array .int))) (iv_nd (some (.array .int)) (some (.array .int)))) (iv_nd (iv_nd (some (.int)) (some (.int))) (iv_nd (some (.int)) (some (.int))))) (iv_nd (iv_nd (iv_nd (some (.int)) (iv_em 0)) (iv_em 1)) (iv_em 2))) (iv_em 4)) (iv_em 5)) (iv_nd (iv_nd (iv_nd (iv_nd (iv_nd (iv_nd (some (.array .int)) (some (.array .int))) (iv_nd (some (.array .int)) (some (.array .int)))) (iv_nd (iv_nd (some (.array .int)) (some (.array .int))) (iv_nd (some (.array .int)) (some (.array .int))))) (iv_em 3)) (iv_em 4)) (iv_em 5))))) (iv_nd (iv_nd (iv_nd (iv_nd (iv_nd (iv_nd (iv_nd (iv_nd (iv_nd (some (.array .int)) (some (.int))) (iv_em 1)) (iv_em 2)) (iv_em 3)) (iv_em 4)) (iv_em 5)) (iv_nd (iv_nd (iv_nd (iv_nd (iv_nd (iv_nd (some (.object "ZoneShares$Tape")) (some (.object "ZoneShares$State"))) (iv_nd (some (.object "ZoneShares$History")) (some (.object "ZoneShares$LayerText")))) (iv_nd (iv_nd (some (.object "ZoneShares$CountsText")) (some (.object "ZoneShares$Fitter"))) (iv_nd (some (.array (.object "ZoneShares$Group"))) (some (.array .int))))) (iv_em 3)) (iv_em 4)) (iv_em 5))) (iv_nd (iv_nd (iv_nd (iv_nd (iv_nd (iv_nd (iv_nd (some (.array .int)) (some (.array .int))) (iv_nd (some (.int)) (some (.array .byte)))) (iv_nd (iv_nd (some (.int)) (some (.int))) (iv_nd (some (.int)) (some (.array .int))))) (iv_nd (iv_nd (iv_nd (some (.int)) (some (.int))) (iv_nd (some (.array .int)) (some (.int)))) (iv_nd (iv_nd (some (.array .long)) (some (.array .int))) (iv_nd (some (.array .int)) (some (.array .long)))))) (iv_nd (iv_nd (iv_nd (iv_nd (some (.array .long)) (some (.int))) (iv_nd (some (.int)) (some (.array .long)))) (iv_nd (iv_nd (some (.array .long)) (some (.array .long))) (iv_nd (some (.array .long)) (some (.array .long))))) (iv_nd (iv_nd (iv_nd (some (.array .long)) (some (.array .boolean))) (iv_nd (some (.array .boolean)) (some (.array .boolean)))) (iv_nd (iv_nd (some (.array .boolean)) (some (.long))) (iv_nd (some (.long)) (some (.array .int))))))) (iv_nd (iv_nd (iv_nd (iv_nd (iv_nd (some (.array .int)) (some (.array .int))) (iv_nd (some (.array .int)) (some (.array .long)))) (iv_nd (iv_nd (some (.array .long)) (some (.array .int))) (iv_nd (some (.array .int)) (some (.array .int))))) (iv_nd (iv_nd (iv_nd (some (.long)) (some (.long))) (iv_nd (some (.int)) (some (.boolean)))) (iv_nd (iv_nd (some (.long)) (some (.long))) (iv_nd (some (.array .int)) (iv_em 0))))) (iv_em 4))) (iv_em 6))) (iv_em 8)))
def iv_ft (c k : Nat) : FieldType := (iv_tl 10 iv_ftT (64 * c + k)).getD .int
def iv_fiT : iv_Tr Bool 10 := (iv_nd (iv_nd (iv_nd (iv_nd (iv_nd (iv_nd (iv_nd (iv_nd (iv_nd (iv_nd (some true) (some false)) (iv_nd (some false) (iv_em 0))) (iv_em 2)) (iv_em 3)) (iv_em 4)) (iv_em 5)) (iv_nd (iv_nd (iv_nd (iv_nd (iv_nd (iv_nd (some true) (some false)) (iv_nd (some false) (some true))) (iv_nd (iv_nd (some true) (some true)) (iv_nd (some true) (some true)))) (iv_nd (iv_nd (iv_nd (some false) (some false)) (iv_nd (some false) (iv_em 0))) (iv_em 2))) (iv_em 4)) (iv_em 5))) (iv_nd (iv_nd (iv_nd (iv_nd (iv_nd (iv_nd (iv_nd (some true) (some true)) (iv_nd (some true) (some true))) (iv_nd (iv_nd (some true) (some true)) (iv_nd (some false) (some false)))) (iv_nd (iv_nd (iv_nd (some false) (some true)) (iv_nd (some true) (some true))) (iv_nd (iv_nd (some true) (iv_em 0)) (iv_em 1)))) (iv_em 4)) (iv_em 5)) (iv_nd (iv_nd (iv_nd (iv_nd (iv_nd (iv_nd (some true) (some false)) (iv_nd (some false) (iv_em 0))) (iv_em 2)) (iv_em 3)) (iv_em 4)) (iv_em 5)))) (iv_nd (iv_nd (iv_nd (iv_nd (iv_nd (iv_nd (iv_nd (iv_nd (some true) (some false)) (iv_nd (some false) (some false))) (iv_nd (iv_nd (some false) (some false)) (iv_nd (some false) (iv_em 0)))) (iv_em 3)) (iv_em 4)) (iv_em 5)) (iv_nd (iv_nd (iv_nd (iv_nd (iv_nd (iv_nd (some true) (some true)) (iv_nd (some true) (some true))) (iv_nd (iv_nd (some true) (some true)) (iv_nd (some true) (some false)))) (iv_em 3)) (iv_em 4)) (iv_em 5))) (iv_nd (iv_nd (iv_nd (iv_nd (iv_nd (iv_nd (iv_nd (some true) (some true)) (iv_nd (some true) (some true))) (iv_nd (iv_nd (some false) (some false)) (iv_nd (some false) (some false)))) (iv_nd (iv_nd (iv_nd (some false) (iv_em 0)) (iv_em 1)) (iv_em 2))) (iv_em 4)) (iv_em 5)) (iv_nd (iv_nd (iv_nd (iv_nd (iv_nd (iv_nd (some true) (some true)) (iv_nd (some true) (some true))) (iv_nd (iv_nd (some true) (some true)) (iv_nd (some true) (some true)))) (iv_em 3)) (iv_em 4)) (iv_em 5))))) (iv_nd (iv_nd (iv_nd (iv_nd (iv_nd (iv_nd (iv_nd (iv_nd (iv_nd (some true) (some false)) (iv_em 1)) (iv_em 2)) (iv_em 3)) (iv_em 4)) (iv_em 5)) (iv_nd (iv_nd (iv_nd (iv_nd (iv_nd (iv_nd (some true) (some true)) (iv_nd (some true) (some true))) (iv_nd (iv_nd (some true) (some true)) (iv_nd (some true) (some true)))) (iv_em 3)) (iv_em 4)) (iv_em 5))) (iv_nd (iv_nd (iv_nd (iv_nd (iv_nd (iv_nd (iv_nd (some true) (some true)) (iv_nd (some false) (some true))) (iv_nd (iv_nd (some false) (some false)) (iv_nd (some false) (some true)))) (iv_nd (iv_nd (iv_nd (some false) (some false)) (iv_nd (some true) (some false))) (iv_nd (iv_nd (some true) (some true)) (iv_nd (some true) (some true))))) (iv_nd (iv_nd (iv_nd (iv_nd (some true) (some false)) (iv_nd (some false) (some true))) (iv_nd (iv_nd (some true) (some true)) (iv_nd (some true) (some true)))) (iv_nd (iv_nd (iv_nd (some true) (some true)) (iv_nd (some true) (some true))) (iv_nd (iv_nd (some true) (some false)) (iv_nd (some false) (some true)))))) (iv_nd (iv_nd (iv_nd (iv_nd (iv_nd (some true) (some true)) (iv_nd (some true) (some true))) (iv_nd (iv_nd (some true) (some true)) (iv_nd (some true) (some true)))) (iv_nd (iv_nd (iv_nd (some false) (some false)) (iv_nd (some false) (some false))) (iv_nd (iv_nd (some false) (some false)) (iv_nd (some true) (iv_em 0))))) (iv_em 4))) (iv_em 6))) (iv_em 8)))
def iv_fi (c k : Nat) : Bool := (iv_tl 10 iv_fiT (64 * c + k)).getD false
def iv_df (c : Nat) : List Value := match c with
  | 0 => [.null, .int 0, .int 0]
  | 1 => [.null, .long 0, .int 0, .null, .null, .null, .null, .null, .long 0, .long 0, .long 0]
  | 2 => [.null, .null, .null, .null, .null, .null, .int 0, .int 0, .int 0, .int 0, .null, .null, .null]
  | 3 => [.null, .int 0, .int 0]
  | 4 => [.null, .int 0, .int 0, .int 0, .int 0, .int 0, .int 0]
  | 5 => [.null, .null, .null, .null, .null, .null, .null, .int 0]
  | 6 => [.null, .null, .null, .null, .int 0, .int 0, .int 0, .int 0, .int 0]
  | 7 => [.null, .null, .null, .null, .null, .null, .null, .null]
  | 8 => [.null, .int 0]
  | 9 => [.null, .null, .null, .null, .null, .null, .null, .null]
  | 10 => [.null, .null, .int 0, .null, .int 0, .int 0, .int 0, .null, .int 0, .int 0, .null, .int 0, .null, .null, .null, .null, .null, .int 0, .int 0, .null, .null, .null, .null, .null, .null, .null, .null, .null, .null, .long 0, .long 0, .null, .null, .null, .null, .null, .null, .null, .null, .null, .long 0, .long 0, .int 0, .int 0, .long 0, .long 0, .null]
  | _ => []
def iv_ty : List FieldType := [.int, .long, .boolean, .byte, .object "ZoneShares$Group", .object "ZoneShares$State"]
def iv_ao : List String := ["ZoneShares$Group", "ZoneShares$State"]
def iv_Wd : List Cond := lw_tbl.filter goodWord
def iv_at (i : Nat) (w : Cond) : Bool := decide (lw_tbl[i]? = some w) && goodWord w
theorem iv_at_s {i : Nat} {w : Cond} (h : iv_at i w = true) : w ∈ iv_Wd := by
  simp only [iv_at, Bool.and_eq_true, decide_eq_true_eq] at h
  exact List.mem_filter.mpr ⟨List.mem_of_getElem? h.1, h.2⟩
def iv_mxT : iv_Tr (Nat) 8 := (iv_nd (iv_nd (iv_nd (iv_nd (iv_nd (iv_nd (iv_nd (iv_nd (some 2) (some 1)) (iv_nd (some 9) (some 1))) (iv_nd (iv_nd (some 6) (some 4)) (iv_nd (some 3) (some 1)))) (iv_nd (iv_nd (iv_nd (some 1) (some 1)) (iv_nd (some 4) (some 6))) (iv_nd (iv_nd (some 4) (some 4)) (iv_nd (some 4) (some 3))))) (iv_nd (iv_nd (iv_nd (iv_nd (some 3) (some 2)) (iv_nd (some 4) (some 2))) (iv_nd (iv_nd (some 1) (some 3)) (iv_nd (some 5) (some 4)))) (iv_nd (iv_nd (iv_nd (some 4) (some 6)) (iv_nd (some 4) (some 4))) (iv_nd (iv_nd (some 3) (some 8)) (iv_nd (some 2) (some 2)))))) (iv_nd (iv_nd (iv_nd (iv_nd (iv_nd (some 2) (some 1)) (iv_nd (some 8) (some 2))) (iv_nd (iv_nd (some 1) (some 2)) (iv_nd (some 1) (some 3)))) (iv_nd (iv_nd (iv_nd (some 1) (some 4)) (iv_nd (some 7) (some 4))) (iv_nd (iv_nd (some 3) (some 4)) (iv_nd (some 5) (some 3))))) (iv_nd (iv_nd (iv_nd (iv_nd (some 4) (some 4)) (iv_nd (some 2) (some 5))) (iv_nd (iv_nd (some 3) (some 1)) (iv_nd (some 2) (some 3)))) (iv_nd (iv_nd (iv_nd (some 2) (some 1)) (iv_nd (some 1) (some 3))) (iv_nd (iv_nd (some 3) (some 3)) (iv_nd (some 6) (some 5))))))) (iv_nd (iv_nd (iv_nd (iv_nd (iv_nd (iv_nd (some 4) (some 5)) (iv_nd (some 4) (some 1))) (iv_nd (iv_nd (some 1) (some 6)) (iv_nd (some 3) (some 6)))) (iv_nd (iv_nd (iv_nd (some 4) (some 2)) (iv_nd (some 4) (some 5))) (iv_nd (iv_nd (some 4) (some 4)) (iv_nd (some 6) (some 7))))) (iv_nd (iv_nd (iv_nd (iv_nd (some 3) (some 1)) (iv_nd (some 3) (some 2))) (iv_nd (iv_nd (some 4) (some 6)) (iv_nd (some 2) (some 3)))) (iv_nd (iv_nd (iv_nd (some 3) (some 9)) (iv_nd (some 4) (some 4))) (iv_nd (iv_nd (some 4) (some 3)) (iv_nd (some 1) (some 5)))))) (iv_nd (iv_nd (iv_nd (iv_nd (iv_nd (some 5) (some 4)) (iv_nd (some 8) (some 12))) (iv_nd (iv_nd (some 9) (some 7)) (iv_nd (some 5) (some 3)))) (iv_nd (iv_nd (iv_nd (some 3) (some 5)) (iv_nd (some 7) (some 6))) (iv_nd (iv_nd (some 8) (some 7)) (iv_nd (some 4) (some 2))))) (iv_nd (iv_nd (iv_nd (iv_nd (some 3) (some 2)) (iv_nd (some 1) (some 1))) (iv_nd (iv_nd (some 1) (some 1)) (iv_nd (some 3) (some 1)))) (iv_nd (iv_nd (iv_nd (some 2) (some 2)) (iv_nd (some 6) (some 6))) (iv_nd (iv_nd (some 4) (some 5)) (iv_nd (some 5) (some 7)))))))) (iv_nd (iv_nd (iv_nd (iv_nd (iv_nd (iv_nd (iv_nd (some 11) (some 2)) (iv_nd (some 6) (some 1))) (iv_nd (iv_nd (some 2) (some 2)) (iv_nd (some 6) (some 3)))) (iv_nd (iv_nd (iv_nd (some 2) (some 1)) (iv_nd (some 1) (some 3))) (iv_nd (iv_nd (some 2) (some 2)) (iv_nd (some 6) (some 4))))) (iv_nd (iv_nd (iv_nd (iv_nd (some 2) (some 3)) (iv_nd (some 5) (some 2))) (iv_nd (iv_nd (some 1) (some 4)) (iv_nd (some 1) (some 1)))) (iv_nd (iv_nd (iv_nd (some 3) (some 4)) (iv_nd (some 5) (some 3))) (iv_nd (iv_nd (some 3) (some 8)) (iv_nd (some 4) (some 4)))))) (iv_nd (iv_nd (iv_nd (iv_nd (iv_nd (some 2) (some 4)) (iv_nd (some 7) (some 6))) (iv_nd (iv_nd (some 10) (some 9)) (iv_nd (some 3) (some 3)))) (iv_nd (iv_nd (iv_nd (some 3) (some 3)) (iv_nd (some 4) (some 3))) (iv_nd (iv_nd (some 3) (some 2)) (iv_nd (some 4) (some 1))))) (iv_nd (iv_nd (iv_nd (iv_nd (some 2) (some 3)) (iv_nd (some 4) (some 3))) (iv_nd (iv_nd (some 3) (some 5)) (iv_nd (some 4) (some 4)))) (iv_nd (iv_nd (iv_nd (some 3) (some 4)) (iv_nd (some 2) (some 5))) (iv_nd (iv_nd (some 6) (some 4)) (iv_nd (some 5) (some 5))))))) (iv_nd (iv_nd (iv_nd (iv_nd (iv_nd (iv_nd (some 3) (some 4)) (iv_nd (some 7) (some 6))) (iv_nd (iv_nd (some 7) (some 5)) (iv_nd (some 3) (some 6)))) (iv_nd (iv_nd (iv_nd (some 7) (some 6)) (iv_nd (some 4) (some 6))) (iv_nd (iv_nd (some 8) (some 3)) (iv_nd (some 4) (some 4))))) (iv_nd (iv_nd (iv_nd (iv_nd (some 4) (some 5)) (iv_nd (some 3) (some 4))) (iv_nd (iv_nd (some 4) (some 5)) (iv_nd (some 6) (some 4)))) (iv_nd (iv_nd (iv_nd (some 4) (some 4)) (iv_nd (some 5) (some 6))) (iv_nd (iv_nd (some 8) (some 4)) (iv_nd (some 4) (some 4)))))) (iv_nd (iv_nd (iv_nd (iv_nd (iv_nd (some 3) (some 3)) (iv_nd (some 2) (some 3))) (iv_nd (iv_nd (some 2) (some 2)) (iv_nd (some 1) (some 1)))) (iv_nd (iv_nd (iv_nd (some 2) (some 2)) (iv_nd (some 4) (some 4))) (iv_em 2))) (iv_em 4)))))
def iv_mx (i : Nat) : Nat := bif Nat.ble 236 i then 0 else (iv_tl 8 iv_mxT i).getD 0
def iv_kfT : iv_Tr (Nat) 8 := (iv_nd (iv_nd (iv_nd (iv_nd (iv_nd (iv_nd (iv_nd (iv_nd (some 0) (some 0)) (iv_nd (some 0) (some 1))) (iv_nd (iv_nd (some 1) (some 1)) (iv_nd (some 1) (some 1)))) (iv_nd (iv_nd (iv_nd (some 1) (some 2)) (iv_nd (some 2) (some 2))) (iv_nd (iv_nd (some 2) (some 2)) (iv_nd (some 2) (some 2))))) (iv_nd (iv_nd (iv_nd (iv_nd (some 2) (some 2)) (iv_nd (some 3) (some 3))) (iv_nd (iv_nd (some 3) (some 3)) (iv_nd (some 3) (some 3)))) (iv_nd (iv_nd (iv_nd (some 3) (some 3)) (iv_nd (some 3) (some 3))) (iv_nd (iv_nd (some 3) (some 3)) (iv_nd (some 4) (some 4)))))) (iv_nd (iv_nd (iv_nd (iv_nd (iv_nd (some 4) (some 5)) (iv_nd (some 5) (some 5))) (iv_nd (iv_nd (some 5) (some 5)) (iv_nd (some 5) (some 5)))) (iv_nd (iv_nd (iv_nd (some 6) (some 6)) (iv_nd (some 6) (some 6))) (iv_nd (iv_nd (some 6) (some 6)) (iv_nd (some 6) (some 6))))) (iv_nd (iv_nd (iv_nd (iv_nd (some 6) (some 6)) (iv_nd (some 6) (some 6))) (iv_nd (iv_nd (some 6) (some 7)) (iv_nd (some 7) (some 7)))) (iv_nd (iv_nd (iv_nd (some 7) (some 7)) (iv_nd (some 7) (some 7))) (iv_nd (iv_nd (some 7) (some 7)) (iv_nd (some 7) (some 7))))))) (iv_nd (iv_nd (iv_nd (iv_nd (iv_nd (iv_nd (some 7) (some 7)) (iv_nd (some 7) (some 8))) (iv_nd (iv_nd (some 8) (some 8)) (iv_nd (some 8) (some 8)))) (iv_nd (iv_nd (iv_nd (some 8) (some 8)) (iv_nd (some 8) (some 8))) (iv_nd (iv_nd (some 8) (some 8)) (iv_nd (some 8) (some 8))))) (iv_nd (iv_nd (iv_nd (iv_nd (some 8) (some 9)) (iv_nd (some 9) (some 9))) (iv_nd (iv_nd (some 10) (some 10)) (iv_nd (some 10) (some 10)))) (iv_nd (iv_nd (iv_nd (some 10) (some 10)) (iv_nd (some 10) (some 10))) (iv_nd (iv_nd (some 10) (some 10)) (iv_nd (some 10) (some 10)))))) (iv_nd (iv_nd (iv_nd (iv_nd (iv_nd (some 10) (some 10)) (iv_nd (some 10) (some 10))) (iv_nd (iv_nd (some 10) (some 10)) (iv_nd (some 10) (some 10)))) (iv_nd (iv_nd (iv_nd (some 10) (some 10)) (iv_nd (some 10) (some 10))) (iv_nd (iv_nd (some 10) (some 10)) (iv_nd (some 10) (some 10))))) (iv_nd (iv_nd (iv_nd (iv_nd (some 10) (some 10)) (iv_nd (some 10) (some 10))) (iv_nd (iv_nd (some 10) (some 10)) (iv_nd (some 10) (some 10)))) (iv_nd (iv_nd (iv_nd (some 10) (some 10)) (iv_nd (some 10) (some 10))) (iv_nd (iv_nd (some 10) (some 10)) (iv_nd (some 10) (some 10)))))))) (iv_nd (iv_nd (iv_nd (iv_nd (iv_nd (iv_nd (iv_nd (some 10) (some 11)) (iv_nd (some 11) (some 11))) (iv_nd (iv_nd (some 11) (some 11)) (iv_nd (some 11) (some 11)))) (iv_nd (iv_nd (iv_nd (some 11) (some 11)) (iv_nd (some 11) (some 11))) (iv_nd (iv_nd (some 11) (some 11)) (iv_nd (some 11) (some 11))))) (iv_nd (iv_nd (iv_nd (iv_nd (some 11) (some 11)) (iv_nd (some 11) (some 11))) (iv_nd (iv_nd (some 11) (some 11)) (iv_nd (some 11) (some 11)))) (iv_nd (iv_nd (iv_nd (some 11) (some 11)) (iv_nd (some 11) (some 11))) (iv_nd (iv_nd (some 11) (some 11)) (iv_nd (some 11) (some 11)))))) (iv_nd (iv_nd (iv_nd (iv_nd (iv_nd (some 11) (some 11)) (iv_nd (some 11) (some 11))) (iv_nd (iv_nd (some 11) (some 11)) (iv_nd (some 11) (some 11)))) (iv_nd (iv_nd (iv_nd (some 11) (some 11)) (iv_nd (some 11) (some 11))) (iv_nd (iv_nd (some 11) (some 11)) (iv_nd (some 11) (some 11))))) (iv_nd (iv_nd (iv_nd (iv_nd (some 11) (some 11)) (iv_nd (some 11) (some 11))) (iv_nd (iv_nd (some 11) (some 11)) (iv_nd (some 11) (some 11)))) (iv_nd (iv_nd (iv_nd (some 11) (some 11)) (iv_nd (some 11) (some 11))) (iv_nd (iv_nd (some 11) (some 11)) (iv_nd (some 11) (some 11))))))) (iv_nd (iv_nd (iv_nd (iv_nd (iv_nd (iv_nd (some 11) (some 11)) (iv_nd (some 11) (some 11))) (iv_nd (iv_nd (some 11) (some 11)) (iv_nd (some 11) (some 11)))) (iv_nd (iv_nd (iv_nd (some 11) (some 11)) (iv_nd (some 11) (some 11))) (iv_nd (iv_nd (some 11) (some 11)) (iv_nd (some 11) (some 11))))) (iv_nd (iv_nd (iv_nd (iv_nd (some 11) (some 11)) (iv_nd (some 11) (some 11))) (iv_nd (iv_nd (some 11) (some 11)) (iv_nd (some 11) (some 11)))) (iv_nd (iv_nd (iv_nd (some 11) (some 11)) (iv_nd (some 11) (some 11))) (iv_nd (iv_nd (some 11) (some 11)) (iv_nd (some 11) (some 11)))))) (iv_nd (iv_nd (iv_nd (iv_nd (iv_nd (some 11) (some 11)) (iv_nd (some 11) (some 11))) (iv_nd (iv_nd (some 11) (some 14)) (iv_nd (some 14) (some 13)))) (iv_nd (iv_nd (iv_nd (some 13) (some 13)) (iv_nd (some 12) (some 15))) (iv_em 2))) (iv_em 4)))))
def iv_kf (i : Nat) : Nat := bif Nat.ble 236 i then 999 else (iv_tl 8 iv_kfT i).getD 999
def iv_naT : iv_Tr (Nat) 8 := (iv_nd (iv_nd (iv_nd (iv_nd (iv_nd (iv_nd (iv_nd (iv_nd (some 1) (some 1)) (iv_nd (some 3) (some 0))) (iv_nd (iv_nd (some 1) (some 1)) (iv_nd (some 1) (some 1)))) (iv_nd (iv_nd (iv_nd (some 1) (some 0)) (iv_nd (some 2) (some 2))) (iv_nd (iv_nd (some 2) (some 2)) (iv_nd (some 0) (some 0))))) (iv_nd (iv_nd (iv_nd (iv_nd (some 0) (some 0)) (iv_nd (some 3) (some 1))) (iv_nd (iv_nd (some 0) (some 1)) (iv_nd (some 0) (some 0)))) (iv_nd (iv_nd (iv_nd (some 0) (some 0)) (iv_nd (some 0) (some 1))) (iv_nd (iv_nd (some 1) (some 0)) (iv_nd (some 0) (some 1)))))) (iv_nd (iv_nd (iv_nd (iv_nd (iv_nd (some 1) (some 0)) (iv_nd (some 3) (some 2))) (iv_nd (iv_nd (some 0) (some 1)) (iv_nd (some 0) (some 1)))) (iv_nd (iv_nd (iv_nd (some 0) (some 2)) (iv_nd (some 1) (some 2))) (iv_nd (iv_nd (some 1) (some 1)) (iv_nd (some 2) (some 2))))) (iv_nd (iv_nd (iv_nd (iv_nd (some 1) (some 1)) (iv_nd (some 0) (some 2))) (iv_nd (iv_nd (some 2) (some 0)) (iv_nd (some 1) (some 2)))) (iv_nd (iv_nd (iv_nd (some 1) (some 0)) (iv_nd (some 0) (some 2))) (iv_nd (iv_nd (some 2) (some 2)) (iv_nd (some 2) (some 2))))))) (iv_nd (iv_nd (iv_nd (iv_nd (iv_nd (iv_nd (some 0) (some 1)) (iv_nd (some 1) (some 0))) (iv_nd (iv_nd (some 0) (some 4)) (iv_nd (some 0) (some 2)))) (iv_nd (iv_nd (iv_nd (some 2) (some 1)) (iv_nd (some 0) (some 1))) (iv_nd (iv_nd (some 1) (some 1)) (iv_nd (some 0) (some 2))))) (iv_nd (iv_nd (iv_nd (iv_nd (some 1) (some 0)) (iv_nd (some 1) (some 1))) (iv_nd (iv_nd (some 0) (some 5)) (iv_nd (some 1) (some 1)))) (iv_nd (iv_nd (iv_nd (some 1) (some 3)) (iv_nd (some 2) (some 2))) (iv_nd (iv_nd (some 1) (some 0)) (iv_nd (some 0) (some 3)))))) (iv_nd (iv_nd (iv_nd (iv_nd (iv_nd (some 2) (some 2)) (iv_nd (some 4) (some 3))) (iv_nd (iv_nd (some 3) (some 3)) (iv_nd (some 2) (some 2)))) (iv_nd (iv_nd (iv_nd (some 2) (some 1)) (iv_nd (some 4) (some 2))) (iv_nd (iv_nd (some 3) (some 1)) (iv_nd (some 1) (some 1))))) (iv_nd (iv_nd (iv_nd (iv_nd (some 2) (some 1)) (iv_nd (some 1) (some 1))) (iv_nd (iv_nd (some 1) (some 1)) (iv_nd (some 2) (some 0)))) (iv_nd (iv_nd (iv_nd (some 0) (some 1)) (iv_nd (some 1) (some 0))) (iv_nd (iv_nd (some 1) (some 2)) (iv_nd (some 1) (some 3)))))))) (iv_nd (iv_nd (iv_nd (iv_nd (iv_nd (iv_nd (iv_nd (some 2) (some 0)) (iv_nd (some 3) (some 1))) (iv_nd (iv_nd (some 0) (some 0)) (iv_nd (some 5) (some 1)))) (iv_nd (iv_nd (iv_nd (some 1) (some 0)) (iv_nd (some 0) (some 2))) (iv_nd (iv_nd (some 2) (some 2)) (iv_nd (some 2) (some 1))))) (iv_nd (iv_nd (iv_nd (iv_nd (some 1) (some 1)) (iv_nd (some 0) (some 0))) (iv_nd (iv_nd (some 1) (some 1)) (iv_nd (some 0) (some 0)))) (iv_nd (iv_nd (iv_nd (some 2) (some 2)) (iv_nd (some 2) (some 2))) (iv_nd (iv_nd (some 2) (some 4)) (iv_nd (some 1) (some 2)))))) (iv_nd (iv_nd (iv_nd (iv_nd (iv_nd (some 2) (some 1)) (iv_nd (some 1) (some 1))) (iv_nd (iv_nd (some 2) (some 2)) (iv_nd (some 1) (some 2)))) (iv_nd (iv_nd (iv_nd (some 1) (some 1)) (iv_nd (some 0) (some 0))) (iv_nd (iv_nd (some 0) (some 0)) (iv_nd (some 1) (some 0))))) (iv_nd (iv_nd (iv_nd (iv_nd (some 1) (some 1)) (iv_nd (some 1) (some 2))) (iv_nd (iv_nd (some 2) (some 1)) (iv_nd (some 1) (some 1)))) (iv_nd (iv_nd (iv_nd (some 0) (some 3)) (iv_nd (some 1) (some 1))) (iv_nd (iv_nd (some 3) (some 2)) (iv_nd (some 3) (some 1))))))) (iv_nd (iv_nd (iv_nd (iv_nd (iv_nd (iv_nd (some 2) (some 1)) (iv_nd (some 3) (some 4))) (iv_nd (iv_nd (some 3) (some 1)) (iv_nd (some 2) (some 4)))) (iv_nd (iv_nd (iv_nd (some 2) (some 2)) (iv_nd (some 1) (some 3))) (iv_nd (iv_nd (some 1) (some 1)) (iv_nd (some 1) (some 1))))) (iv_nd (iv_nd (iv_nd (iv_nd (some 1) (some 1)) (iv_nd (some 2) (some 2))) (iv_nd (iv_nd (some 1) (some 3)) (iv_nd (some 3) (some 2)))) (iv_nd (iv_nd (iv_nd (some 2) (some 0)) (iv_nd (some 3) (some 3))) (iv_nd (iv_nd (some 2) (some 1)) (iv_nd (some 2) (some 1)))))) (iv_nd (iv_nd (iv_nd (iv_nd (iv_nd (some 0) (some 0)) (iv_nd (some 1) (some 2))) (iv_nd (iv_nd (some 1) (some 1)) (iv_nd (some 1) (some 1)))) (iv_nd (iv_nd (iv_nd (some 2) (some 2)) (iv_nd (some 2) (some 1))) (iv_em 2))) (iv_em 4)))))
def iv_na (i : Nat) : Nat := bif Nat.ble 236 i then 0 else (iv_tl 8 iv_naT i).getD 0
def iv_rcT : iv_Tr (Option Nat) 8 := (iv_nd (iv_nd (iv_nd (iv_nd (iv_nd (iv_nd (iv_nd (iv_nd (some none) (some none)) (iv_nd (some none) (some (some 0)))) (iv_nd (iv_nd (some (some 0)) (some (some 0))) (iv_nd (some (some 0)) (some none)))) (iv_nd (iv_nd (iv_nd (some none) (some (some 1))) (iv_nd (some (some 1)) (some (some 1)))) (iv_nd (iv_nd (some (some 1)) (some (some 1))) (iv_nd (some (some 1)) (some (some 1)))))) (iv_nd (iv_nd (iv_nd (iv_nd (some (some 1)) (some (some 1))) (iv_nd (some (some 2)) (some (some 2)))) (iv_nd (iv_nd (some (some 2)) (some (some 2))) (iv_nd (some (some 2)) (some (some 2))))) (iv_nd (iv_nd (iv_nd (some (some 2)) (some (some 2))) (iv_nd (some (some 2)) (some (some 2)))) (iv_nd (iv_nd (some (some 2)) (some (some 2))) (iv_nd (some (some 3)) (some (some 3))))))) (iv_nd (iv_nd (iv_nd (iv_nd (iv_nd (some (some 3)) (some (some 4))) (iv_nd (some (some 4)) (some none))) (iv_nd (iv_nd (some (some 4)) (some (some 4))) (iv_nd (some (some 4)) (some (some 4))))) (iv_nd (iv_nd (iv_nd (some (some 5)) (some (some 5))) (iv_nd (some (some 5)) (some (some 5)))) (iv_nd (iv_nd (some (some 5)) (some (some 5))) (iv_nd (some (some 5)) (some (some 5)))))) (iv_nd (iv_nd (iv_nd (iv_nd (some (some 5)) (some (some 5))) (iv_nd (some (some 5)) (some (some 5)))) (iv_nd (iv_nd (some (some 5)) (some (some 6))) (iv_nd (some (some 6)) (some (some 6))))) (iv_nd (iv_nd (iv_nd (some (some 6)) (some (some 6))) (iv_nd (some (some 6)) (some (some 6)))) (iv_nd (iv_nd (some (some 6)) (some (some 6))) (iv_nd (some (some 6)) (some (some 6)))))))) (iv_nd (iv_nd (iv_nd (iv_nd (iv_nd (iv_nd (some (some 6)) (some (some 6))) (iv_nd (some (some 6)) (some (some 7)))) (iv_nd (iv_nd (some (some 7)) (some (some 7))) (iv_nd (some (some 7)) (some (some 7))))) (iv_nd (iv_nd (iv_nd (some none) (some (some 7))) (iv_nd (some (some 7)) (some (some 7)))) (iv_nd (iv_nd (some (some 7)) (some (some 7))) (iv_nd (some (some 7)) (some (some 7)))))) (iv_nd (iv_nd (iv_nd (iv_nd (some (some 7)) (some (some 8))) (iv_nd (some (some 8)) (some (some 8)))) (iv_nd (iv_nd (some (some 9)) (some (some 9))) (iv_nd (some (some 9)) (some (some 9))))) (iv_nd (iv_nd (iv_nd (some (some 9)) (some (some 9))) (iv_nd (some (some 9)) (some (some 9)))) (iv_nd (iv_nd (some (some 9)) (some (some 9))) (iv_nd (some (some 9)) (some (some 9))))))) (iv_nd (iv_nd (iv_nd (iv_nd (iv_nd (some (some 9)) (some (some 9))) (iv_nd (some (some 9)) (some (some 9)))) (iv_nd (iv_nd (some (some 9)) (some (some 9))) (iv_nd (some (some 9)) (some (some 9))))) (iv_nd (iv_nd (iv_nd (some (some 9)) (some (some 9))) (iv_nd (some (some 9)) (some (some 9)))) (iv_nd (iv_nd (some (some 9)) (some (some 9))) (iv_nd (some (some 9)) (some (some 9)))))) (iv_nd (iv_nd (iv_nd (iv_nd (some (some 9)) (some (some 9))) (iv_nd (some none) (some none))) (iv_nd (iv_nd (some none) (some none)) (iv_nd (some (some 9)) (some (some 9))))) (iv_nd (iv_nd (iv_nd (some (some 9)) (some (some 9))) (iv_nd (some (some 9)) (some (some 9)))) (iv_nd (iv_nd (some (some 9)) (some (some 9))) (iv_nd (some (some 9)) (some none)))))))) (iv_nd (iv_nd (iv_nd (iv_nd (iv_nd (iv_nd (iv_nd (some none) (some (some 10))) (iv_nd (some none) (some none))) (iv_nd (iv_nd (some (some 10)) (some (some 10))) (iv_nd (some (some 10)) (some (some 10))))) (iv_nd (iv_nd (iv_nd (some (some 10)) (some (some 10))) (iv_nd (some (some 10)) (some (some 10)))) (iv_nd (iv_nd (some none) (some none)) (iv_nd (some (some 10)) (some (some 10)))))) (iv_nd (iv_nd (iv_nd (iv_nd (some (some 10)) (some (some 10))) (iv_nd (some (some 10)) (some (some 10)))) (iv_nd (iv_nd (some none) (some (some 10))) (iv_nd (some (some 10)) (some (some 10))))) (iv_nd (iv_nd (iv_nd (some (some 10)) (some (some 10))) (iv_nd (some (some 10)) (some (some 10)))) (iv_nd (iv_nd (some (some 10)) (some (some 10))) (iv_nd (some (some 10)) (some (some 10))))))) (iv_nd (iv_nd (iv_nd (iv_nd (iv_nd (some none) (some (some 10))) (iv_nd (some (some 10)) (some (some 10)))) (iv_nd (iv_nd (some none) (some (some 10))) (iv_nd (some (some 10)) (some (some 10))))) (iv_nd (iv_nd (iv_nd (some (some 10)) (some (some 10))) (iv_nd (some (some 10)) (some (some 10)))) (iv_nd (iv_nd (some (some 10)) (some (some 10))) (iv_nd (some (some 10)) (some (some 10)))))) (iv_nd (iv_nd (iv_nd (iv_nd (some (some 10)) (some (some 10))) (iv_nd (some (some 10)) (some (some 10)))) (iv_nd (iv_nd (some (some 10)) (some (some 10))) (iv_nd (some (some 10)) (some (some 10))))) (iv_nd (iv_nd (iv_nd (some (some 10)) (some (some 10))) (iv_nd (some (some 10)) (some (some 10)))) (iv_nd (iv_nd (some (some 10)) (some (some 10))) (iv_nd (some (some 10)) (some (some 10)))))))) (iv_nd (iv_nd (iv_nd (iv_nd (iv_nd (iv_nd (some (some 10)) (some (some 10))) (iv_nd (some none) (some (some 10)))) (iv_nd (iv_nd (some (some 10)) (some (some 10))) (iv_nd (some (some 10)) (some (some 10))))) (iv_nd (iv_nd (iv_nd (some (some 10)) (some (some 10))) (iv_nd (some (some 10)) (some (some 10)))) (iv_nd (iv_nd (some (some 10)) (some (some 10))) (iv_nd (some (some 10)) (some (some 10)))))) (iv_nd (iv_nd (iv_nd (iv_nd (some (some 10)) (some (some 10))) (iv_nd (some (some 10)) (some (some 10)))) (iv_nd (iv_nd (some (some 10)) (some (some 10))) (iv_nd (some (some 10)) (some (some 10))))) (iv_nd (iv_nd (iv_nd (some (some 10)) (some (some 10))) (iv_nd (some (some 10)) (some (some 10)))) (iv_nd (iv_nd (some (some 10)) (some (some 10))) (iv_nd (some (some 10)) (some (some 10))))))) (iv_nd (iv_nd (iv_nd (iv_nd (iv_nd (some (some 10)) (some (some 10))) (iv_nd (some (some 10)) (some (some 10)))) (iv_nd (iv_nd (some (some 10)) (some none)) (iv_nd (some none) (some none)))) (iv_nd (iv_nd (iv_nd (some none) (some none)) (iv_nd (some none) (some none))) (iv_em 2))) (iv_em 4)))))
def iv_rc (i : Nat) : Option Nat := bif Nat.ble 236 i then none else (iv_tl 8 iv_rcT i).getD none
def iv_incT : iv_Tr (Bool) 8 := (iv_nd (iv_nd (iv_nd (iv_nd (iv_nd (iv_nd (iv_nd (iv_nd (some false) (some false)) (iv_nd (some false) (some true))) (iv_nd (iv_nd (some true) (some false)) (iv_nd (some false) (some false)))) (iv_nd (iv_nd (iv_nd (some false) (some true)) (iv_nd (some false) (some false))) (iv_nd (iv_nd (some false) (some false)) (iv_nd (some false) (some false))))) (iv_nd (iv_nd (iv_nd (iv_nd (some false) (some false)) (iv_nd (some true) (some false))) (iv_nd (iv_nd (some true) (some true)) (iv_nd (some true) (some false)))) (iv_nd (iv_nd (iv_nd (some false) (some false)) (iv_nd (some false) (some false))) (iv_nd (iv_nd (some false) (some false)) (iv_nd (some true) (some true)))))) (iv_nd (iv_nd (iv_nd (iv_nd (iv_nd (some false) (some true)) (iv_nd (some true) (some true))) (iv_nd (iv_nd (some false) (some true)) (iv_nd (some false) (some false)))) (iv_nd (iv_nd (iv_nd (some true) (some false)) (iv_nd (some false) (some false))) (iv_nd (iv_nd (some false) (some false)) (iv_nd (some false) (some false))))) (iv_nd (iv_nd (iv_nd (iv_nd (some false) (some false)) (iv_nd (some false) (some false))) (iv_nd (iv_nd (some false) (some true)) (iv_nd (some true) (some false)))) (iv_nd (iv_nd (iv_nd (some true) (some true)) (iv_nd (some true) (some true))) (iv_nd (iv_nd (some false) (some false)) (iv_nd (some true) (some true))))))) (iv_nd (iv_nd (iv_nd (iv_nd (iv_nd (iv_nd (some false) (some false)) (iv_nd (some true) (some true))) (iv_nd (iv_nd (some true) (some true)) (iv_nd (some true) (some true)))) (iv_nd (iv_nd (iv_nd (some true) (some true)) (iv_nd (some true) (some false))) (iv_nd (iv_nd (some false) (some false)) (iv_nd (some false) (some false))))) (iv_nd (iv_nd (iv_nd (iv_nd (some false) (some true)) (iv_nd (some true) (some true))) (iv_nd (iv_nd (some true) (some true)) (iv_nd (some true) (some true)))) (iv_nd (iv_nd (iv_nd (some true) (some true)) (iv_nd (some true) (some true))) (iv_nd (iv_nd (some true) (some true)) (iv_nd (some true) (some true)))))) (iv_nd (iv_nd (iv_nd (iv_nd (iv_nd (some true) (some true)) (iv_nd (some true) (some true))) (iv_nd (iv_nd (some true) (some true)) (iv_nd (some true) (some true)))) (iv_nd (iv_nd (iv_nd (some true) (some true)) (iv_nd (some true) (some true))) (iv_nd (iv_nd (some true) (some true)) (iv_nd (some true) (some true))))) (iv_nd (iv_nd (iv_nd (iv_nd (some true) (some true)) (iv_nd (some true) (some true))) (iv_nd (iv_nd (some true) (some true)) (iv_nd (some true) (some true)))) (iv_nd (iv_nd (iv_nd (some true) (some true)) (iv_nd (some false) (some false))) (iv_nd (iv_nd (some false) (some false)) (iv_nd (some true) (some false)))))))) (iv_nd (iv_nd (iv_nd (iv_nd (iv_nd (iv_nd (iv_nd (some false) (some true)) (iv_nd (some true) (some true))) (iv_nd (iv_nd (some true) (some true)) (iv_nd (some true) (some true)))) (iv_nd (iv_nd (iv_nd (some true) (some true)) (iv_nd (some true) (some true))) (iv_nd (iv_nd (some true) (some false)) (iv_nd (some true) (some true))))) (iv_nd (iv_nd (iv_nd (iv_nd (some true) (some true)) (iv_nd (some false) (some true))) (iv_nd (iv_nd (some true) (some true)) (iv_nd (some true) (some true)))) (iv_nd (iv_nd (iv_nd (some false) (some true)) (iv_nd (some true) (some true))) (iv_nd (iv_nd (some false) (some false)) (iv_nd (some false) (some true)))))) (iv_nd (iv_nd (iv_nd (iv_nd (iv_nd (some true) (some false)) (iv_nd (some false) (some false))) (iv_nd (iv_nd (some false) (some false)) (iv_nd (some false) (some false)))) (iv_nd (iv_nd (iv_nd (some false) (some false)) (iv_nd (some false) (some false))) (iv_nd (iv_nd (some false) (some false)) (iv_nd (some true) (some true))))) (iv_nd (iv_nd (iv_nd (iv_nd (some true) (some true)) (iv_nd (some true) (some true))) (iv_nd (iv_nd (some false) (some false)) (iv_nd (some false) (some false)))) (iv_nd (iv_nd (iv_nd (some false) (some true)) (iv_nd (some false) (some false))) (iv_nd (iv_nd (some true) (some true)) (iv_nd (some false) (some false))))))) (iv_nd (iv_nd (iv_nd (iv_nd (iv_nd (iv_nd (some true) (some true)) (iv_nd (some false) (some true))) (iv_nd (iv_nd (some true) (some false)) (iv_nd (some false) (some true)))) (iv_nd (iv_nd (iv_nd (some false) (some true)) (iv_nd (some false) (some true))) (iv_nd (iv_nd (some true) (some false)) (iv_nd (some false) (some false))))) (iv_nd (iv_nd (iv_nd (iv_nd (some false) (some false)) (iv_nd (some true) (some false))) (iv_nd (iv_nd (some true) (some true)) (iv_nd (some true) (some true)))) (iv_nd (iv_nd (iv_nd (some true) (some true)) (iv_nd (some true) (some false))) (iv_nd (iv_nd (some true) (some false)) (iv_nd (some false) (some true)))))) (iv_nd (iv_nd (iv_nd (iv_nd (iv_nd (some true) (some true)) (iv_nd (some true) (some true))) (iv_nd (iv_nd (some true) (some false)) (iv_nd (some false) (some false)))) (iv_nd (iv_nd (iv_nd (some false) (some false)) (iv_nd (some true) (some false))) (iv_em 2))) (iv_em 4)))))
def iv_inc (i : Nat) : Bool := bif Nat.ble 236 i then false else (iv_tl 8 iv_incT i).getD false
def iv_iniT : iv_Tr (Bool) 8 := (iv_nd (iv_nd (iv_nd (iv_nd (iv_nd (iv_nd (iv_nd (iv_nd (some false) (some false)) (iv_nd (some false) (some true))) (iv_nd (iv_nd (some false) (some false)) (iv_nd (some false) (some false)))) (iv_nd (iv_nd (iv_nd (some false) (some true)) (iv_nd (some false) (some false))) (iv_nd (iv_nd (some false) (some false)) (iv_nd (some false) (some false))))) (iv_nd (iv_nd (iv_nd (iv_nd (some false) (some false)) (iv_nd (some true) (some false))) (iv_nd (iv_nd (some false) (some false)) (iv_nd (some false) (some false)))) (iv_nd (iv_nd (iv_nd (some false) (some false)) (iv_nd (some false) (some false))) (iv_nd (iv_nd (some false) (some false)) (iv_nd (some true) (some false)))))) (iv_nd (iv_nd (iv_nd (iv_nd (iv_nd (some false) (some true)) (iv_nd (some false) (some false))) (iv_nd (iv_nd (some false) (some false)) (iv_nd (some false) (some false)))) (iv_nd (iv_nd (iv_nd (some true) (some false)) (iv_nd (some false) (some false))) (iv_nd (iv_nd (some false) (some false)) (iv_nd (some false) (some false))))) (iv_nd (iv_nd (iv_nd (iv_nd (some false) (some false)) (iv_nd (some false) (some false))) (iv_nd (iv_nd (some false) (some true)) (iv_nd (some false) (some false)))) (iv_nd (iv_nd (iv_nd (some false) (some false)) (iv_nd (some false) (some false))) (iv_nd (iv_nd (some false) (some false)) (iv_nd (some false) (some false))))))) (iv_nd (iv_nd (iv_nd (iv_nd (iv_nd (iv_nd (some false) (some false)) (iv_nd (some false) (some true))) (iv_nd (iv_nd (some false) (some false)) (iv_nd (some false) (some false)))) (iv_nd (iv_nd (iv_nd (some false) (some false)) (iv_nd (some false) (some false))) (iv_nd (iv_nd (some false) (some false)) (iv_nd (some false) (some false))))) (iv_nd (iv_nd (iv_nd (iv_nd (some false) (some true)) (iv_nd (some false) (some false))) (iv_nd (iv_nd (some true) (some false)) (iv_nd (some false) (some false)))) (iv_nd (iv_nd (iv_nd (some false) (some false)) (iv_nd (some false) (some false))) (iv_nd (iv_nd (some false) (some false)) (iv_nd (some false) (some false)))))) (iv_nd (iv_nd (iv_nd (iv_nd (iv_nd (some false) (some false)) (iv_nd (some false) (some false))) (iv_nd (iv_nd (some false) (some false)) (iv_nd (some false) (some false)))) (iv_nd (iv_nd (iv_nd (some false) (some false)) (iv_nd (some false) (some false))) (iv_nd (iv_nd (some false) (some false)) (iv_nd (some false) (some false))))) (iv_nd (iv_nd (iv_nd (iv_nd (some false) (some false)) (iv_nd (some false) (some false))) (iv_nd (iv_nd (some false) (some false)) (iv_nd (some false) (some false)))) (iv_nd (iv_nd (iv_nd (some false) (some false)) (iv_nd (some false) (some false))) (iv_nd (iv_nd (some false) (some false)) (iv_nd (some false) (some false)))))))) (iv_nd (iv_nd (iv_nd (iv_nd (iv_nd (iv_nd (iv_nd (some false) (some true)) (iv_nd (some false) (some false))) (iv_nd (iv_nd (some false) (some false)) (iv_nd (some false) (some false)))) (iv_nd (iv_nd (iv_nd (some false) (some false)) (iv_nd (some false) (some false))) (iv_nd (iv_nd (some false) (some false)) (iv_nd (some false) (some false))))) (iv_nd (iv_nd (iv_nd (iv_nd (some false) (some false)) (iv_nd (some false) (some false))) (iv_nd (iv_nd (some false) (some false)) (iv_nd (some false) (some false)))) (iv_nd (iv_nd (iv_nd (some false) (some false)) (iv_nd (some false) (some false))) (iv_nd (iv_nd (some false) (some false)) (iv_nd (some false) (some false)))))) (iv_nd (iv_nd (iv_nd (iv_nd (iv_nd (some false) (some false)) (iv_nd (some false) (some false))) (iv_nd (iv_nd (some false) (some false)) (iv_nd (some false) (some false)))) (iv_nd (iv_nd (iv_nd (some false) (some false)) (iv_nd (some false) (some false))) (iv_nd (iv_nd (some false) (some false)) (iv_nd (some false) (some false))))) (iv_nd (iv_nd (iv_nd (iv_nd (some false) (some false)) (iv_nd (some false) (some false))) (iv_nd (iv_nd (some false) (some false)) (iv_nd (some false) (some false)))) (iv_nd (iv_nd (iv_nd (some false) (some false)) (iv_nd (some false) (some false))) (iv_nd (iv_nd (some false) (some false)) (iv_nd (some false) (some false))))))) (iv_nd (iv_nd (iv_nd (iv_nd (iv_nd (iv_nd (some false) (some false)) (iv_nd (some false) (some false))) (iv_nd (iv_nd (some false) (some false)) (iv_nd (some false) (some false)))) (iv_nd (iv_nd (iv_nd (some false) (some false)) (iv_nd (some false) (some false))) (iv_nd (iv_nd (some false) (some false)) (iv_nd (some false) (some false))))) (iv_nd (iv_nd (iv_nd (iv_nd (some false) (some false)) (iv_nd (some false) (some false))) (iv_nd (iv_nd (some false) (some false)) (iv_nd (some false) (some false)))) (iv_nd (iv_nd (iv_nd (some false) (some false)) (iv_nd (some false) (some false))) (iv_nd (iv_nd (some false) (some false)) (iv_nd (some false) (some false)))))) (iv_nd (iv_nd (iv_nd (iv_nd (iv_nd (some false) (some false)) (iv_nd (some false) (some false))) (iv_nd (iv_nd (some false) (some false)) (iv_nd (some false) (some false)))) (iv_nd (iv_nd (iv_nd (some false) (some false)) (iv_nd (some false) (some false))) (iv_em 2))) (iv_em 4)))))
def iv_ini (i : Nat) : Bool := bif Nat.ble 236 i then false else (iv_tl 8 iv_iniT i).getD false
def iv_rtT : iv_Tr (Option FieldType) 8 := (iv_nd (iv_nd (iv_nd (iv_nd (iv_nd (iv_nd (iv_nd (iv_nd (some (some .long)) (some (some .long))) (iv_nd (some (some .long)) (some none))) (iv_nd (iv_nd (some (some .int)) (some (some .int))) (iv_nd (some (some .int)) (some (some .int))))) (iv_nd (iv_nd (iv_nd (some (some .boolean)) (some none)) (iv_nd (some none) (some none))) (iv_nd (iv_nd (some (some .long)) (some none)) (iv_nd (some (some .long)) (some none))))) (iv_nd (iv_nd (iv_nd (iv_nd (some none) (some none)) (iv_nd (some none) (some (some (.object "ZoneShares$Group"))))) (iv_nd (iv_nd (some none) (some (some .boolean))) (iv_nd (some none) (some none)))) (iv_nd (iv_nd (iv_nd (some none) (some none)) (iv_nd (some none) (some (some .int)))) (iv_nd (iv_nd (some (some .int)) (some none)) (iv_nd (some none) (some none)))))) (iv_nd (iv_nd (iv_nd (iv_nd (iv_nd (some none) (some none)) (iv_nd (some (some .int)) (some (some .int)))) (iv_nd (iv_nd (some (some .int)) (some (some .int))) (iv_nd (some none) (some none)))) (iv_nd (iv_nd (iv_nd (some none) (some none)) (iv_nd (some none) (some none))) (iv_nd (iv_nd (some none) (some none)) (iv_nd (some (some .boolean)) (some none))))) (iv_nd (iv_nd (iv_nd (iv_nd (some none) (some none)) (iv_nd (some none) (some none))) (iv_nd (iv_nd (some none) (some none)) (iv_nd (some none) (some none)))) (iv_nd (iv_nd (iv_nd (some (some .boolean)) (some (some .boolean))) (iv_nd (some (some .int)) (some (some .boolean)))) (iv_nd (iv_nd (some (some .int)) (some (some .int))) (iv_nd (some (some .int)) (some (some .int)))))))) (iv_nd (iv_nd (iv_nd (iv_nd (iv_nd (iv_nd (some (some .int)) (some (some .int))) (iv_nd (some (some .int)) (some none))) (iv_nd (iv_nd (some none) (some none)) (iv_nd (some none) (some none)))) (iv_nd (iv_nd (iv_nd (some (some .int)) (some (some .int))) (iv_nd (some none) (some none))) (iv_nd (iv_nd (some (some .int)) (some (some .int))) (iv_nd (some (some .long)) (some (some .long)))))) (iv_nd (iv_nd (iv_nd (iv_nd (some (some .long)) (some none)) (iv_nd (some none) (some (some .int)))) (iv_nd (iv_nd (some none) (some (some .int))) (iv_nd (some (some .int)) (some (some .int))))) (iv_nd (iv_nd (iv_nd (some (some .int)) (some (some .int))) (iv_nd (some (some .int)) (some (some .int)))) (iv_nd (iv_nd (some (some .int)) (some (some .int))) (iv_nd (some (some .int)) (some (some .int))))))) (iv_nd (iv_nd (iv_nd (iv_nd (iv_nd (some (some .int)) (some (some .int))) (iv_nd (some (some .int)) (some (some .int)))) (iv_nd (iv_nd (some (some .long)) (some (some .int))) (iv_nd (some (some .long)) (some (some .int))))) (iv_nd (iv_nd (iv_nd (some (some .int)) (some (some .int))) (iv_nd (some (some .long)) (some (some .int)))) (iv_nd (iv_nd (some (some .long)) (some (some .long))) (iv_nd (some (some .int)) (some (some .int)))))) (iv_nd (iv_nd (iv_nd (iv_nd (some (some .int)) (some (some .int))) (iv_nd (some (some .boolean)) (some (some .boolean)))) (iv_nd (iv_nd (some (some .boolean)) (some (some .boolean))) (iv_nd (some (some .boolean)) (some none)))) (iv_nd (iv_nd (iv_nd (some none) (some (some .boolean))) (iv_nd (some (some .int)) (some (some .int)))) (iv_nd (iv_nd (some (some .int)) (some (some .boolean))) (iv_nd (some (some .int)) (some (some .long))))))))) (iv_nd (iv_nd (iv_nd (iv_nd (iv_nd (iv_nd (iv_nd (some (some .long)) (some none)) (iv_nd (some (some .boolean)) (some (some .int)))) (iv_nd (iv_nd (some none) (some (some .int))) (iv_nd (some (some .int)) (some none)))) (iv_nd (iv_nd (iv_nd (some (some .int)) (some (some .int))) (iv_nd (some (some .boolean)) (some none))) (iv_nd (iv_nd (some (some .boolean)) (some (some .int))) (iv_nd (some none) (some none))))) (iv_nd (iv_nd (iv_nd (iv_nd (some (some .boolean)) (some (some .int))) (iv_nd (some none) (some none))) (iv_nd (iv_nd (some (some .boolean)) (some (some .int))) (iv_nd (some (some .boolean)) (some (some .int))))) (iv_nd (iv_nd (iv_nd (some (some .int)) (some (some .boolean))) (iv_nd (some (some .int)) (some (some .int)))) (iv_nd (iv_nd (some (some .int)) (some (some .int))) (iv_nd (some (some .int)) (some none)))))) (iv_nd (iv_nd (iv_nd (iv_nd (iv_nd (some (some .int)) (some (some .int))) (iv_nd (some (some .long)) (some none))) (iv_nd (iv_nd (some (some .long)) (some none)) (iv_nd (some none) (some (some .boolean))))) (iv_nd (iv_nd (iv_nd (some (some .boolean)) (some (some .boolean))) (iv_nd (some none) (some (some .boolean)))) (iv_nd (iv_nd (some none) (some none)) (iv_nd (some (some .int)) (some (some .boolean)))))) (iv_nd (iv_nd (iv_nd (iv_nd (some (some .int)) (some none)) (iv_nd (some (some .int)) (some (some .int)))) (iv_nd (iv_nd (some (some .boolean)) (some none)) (iv_nd (some (some .int)) (some (some .int))))) (iv_nd (iv_nd (iv_nd (some (some .int)) (some (some .int))) (iv_nd (some (some .int)) (some none))) (iv_nd (iv_nd (some (some .int)) (some (some .int))) (iv_nd (some none) (some none))))))) (iv_nd (iv_nd (iv_nd (iv_nd (iv_nd (iv_nd (some (some .int)) (some (some .int))) (iv_nd (some (some .long)) (some (some .int)))) (iv_nd (iv_nd (some (some .long)) (some none)) (iv_nd (some (some .boolean)) (some (some .long))))) (iv_nd (iv_nd (iv_nd (some (some .boolean)) (some (some .int))) (iv_nd (some (some .int)) (some (some .long)))) (iv_nd (iv_nd (some (some .long)) (some none)) (iv_nd (some (some .int)) (some (some .int)))))) (iv_nd (iv_nd (iv_nd (iv_nd (some (some .boolean)) (some (some .boolean))) (iv_nd (some (some .long)) (some none))) (iv_nd (iv_nd (some (some .int)) (some (some .boolean))) (iv_nd (some (some .int)) (some (some .int))))) (iv_nd (iv_nd (iv_nd (some (some .int)) (some (some .int))) (iv_nd (some (some .int)) (some (some .int)))) (iv_nd (iv_nd (some (some .int)) (some (some .int))) (iv_nd (some (some .boolean)) (some (some .int))))))) (iv_nd (iv_nd (iv_nd (iv_nd (iv_nd (some (some .int)) (some (some .int))) (iv_nd (some (some .int)) (some (some .int)))) (iv_nd (iv_nd (some (some .int)) (some (some .int))) (iv_nd (some (some .int)) (some (some .int))))) (iv_nd (iv_nd (iv_nd (some (some .int)) (some (some .int))) (iv_nd (some none) (some (some .boolean)))) (iv_em 2))) (iv_em 4)))))
def iv_rt (i : Nat) : Option FieldType := bif Nat.ble 236 i then none else (iv_tl 8 iv_rtT i).getD none
def iv_y0 : MethodName := ⟨"ZoneShares$Bits", "ofDouble", "(D)J"⟩
def iv_y1 : MethodName := ⟨"ZoneShares$Bits", "ofFloat", "(F)J"⟩
def iv_y2 : MethodName := ⟨"ZoneShares$Bits", "of", "(DII)J"⟩
def iv_y3 : MethodName := ⟨"ZoneShares$CountsText", "<init>", "()V"⟩
def iv_y4 : MethodName := ⟨"ZoneShares$CountsText", "read", "(LZoneShares$Tape;)I"⟩
def iv_y5 : MethodName := ⟨"ZoneShares$CountsText", "wrongPart", "(LZoneShares$Tape;)I"⟩
def iv_y6 : MethodName := ⟨"ZoneShares$CountsText", "number", "(LZoneShares$Tape;)I"⟩
def iv_y7 : MethodName := ⟨"ZoneShares$CountsText", "slotOf", "(I)I"⟩
def iv_y8 : MethodName := ⟨"ZoneShares$CountsText", "isDigit", "(I)Z"⟩
def iv_y9 : MethodName := ⟨"ZoneShares$Fitter", "<init>", "()V"⟩
def iv_y10 : MethodName := ⟨"ZoneShares$Fitter", "look", "(LZoneShares$State;I)V"⟩
def iv_y11 : MethodName := ⟨"ZoneShares$Fitter", "countCells", "(LZoneShares$State;I)V"⟩
def iv_y12 : MethodName := ⟨"ZoneShares$Fitter", "load", "([II)J"⟩
def iv_y13 : MethodName := ⟨"ZoneShares$Fitter", "addWeight", "(II)V"⟩
def iv_y14 : MethodName := ⟨"ZoneShares$Fitter", "missed", "()J"⟩
def iv_y15 : MethodName := ⟨"ZoneShares$Fitter", "findBest", "()V"⟩
def iv_y16 : MethodName := ⟨"ZoneShares$Fitter", "tryRow", "()V"⟩
def iv_y17 : MethodName := ⟨"ZoneShares$Fitter", "nextRow", "()V"⟩
def iv_y18 : MethodName := ⟨"ZoneShares$Group", "<init>", "(ILZoneShares$State;LZoneShares$Rounder;)V"⟩
def iv_y19 : MethodName := ⟨"ZoneShares$Group", "ready", "(I)LZoneShares$Group;"⟩
def iv_y20 : MethodName := ⟨"ZoneShares$Group", "makeLives", "()V"⟩
def iv_y21 : MethodName := ⟨"ZoneShares$Group", "lacks", "(I)Z"⟩
def iv_y22 : MethodName := ⟨"ZoneShares$Group", "shareUnknown", "()V"⟩
def iv_y23 : MethodName := ⟨"ZoneShares$Group", "fillMoves", "()V"⟩
def iv_y24 : MethodName := ⟨"ZoneShares$Group", "fillBack", "()V"⟩
def iv_y25 : MethodName := ⟨"ZoneShares$Group", "fillCoarse", "()V"⟩
def iv_y26 : MethodName := ⟨"ZoneShares$Group", "fillWay", "()V"⟩
def iv_y27 : MethodName := ⟨"ZoneShares$Group", "topOf", "(I)I"⟩
def iv_y28 : MethodName := ⟨"ZoneShares$Group", "underOf", "(I)I"⟩
def iv_y29 : MethodName := ⟨"ZoneShares$Group", "sortCells", "()V"⟩
def iv_y30 : MethodName := ⟨"ZoneShares$History", "<init>", "()V"⟩
def iv_y31 : MethodName := ⟨"ZoneShares$History", "keep", "(LZoneShares$State;)V"⟩
def iv_y32 : MethodName := ⟨"ZoneShares$History", "bringBack", "(LZoneShares$State;)V"⟩
def iv_y33 : MethodName := ⟨"ZoneShares$LayerText", "<init>", "()V"⟩
def iv_y34 : MethodName := ⟨"ZoneShares$LayerText", "read", "(LZoneShares$Tape;ILZoneShares$State;)I"⟩
def iv_y35 : MethodName := ⟨"ZoneShares$LayerText", "valueOf", "(II)I"⟩
def iv_y36 : MethodName := ⟨"ZoneShares$LayerText", "wrongSign", "()I"⟩
def iv_y37 : MethodName := ⟨"ZoneShares$LayerText", "wrongBreak", "(I)I"⟩
def iv_y38 : MethodName := ⟨"ZoneShares$LayerText", "endRow", "()V"⟩
def iv_y39 : MethodName := ⟨"ZoneShares$LayerText", "put", "(I)V"⟩
def iv_y40 : MethodName := ⟨"ZoneShares$Rounder", "<init>", "()V"⟩
def iv_y41 : MethodName := ⟨"ZoneShares$Rounder", "round", "(LZoneShares$Table;Z)V"⟩
def iv_y42 : MethodName := ⟨"ZoneShares$Rounder", "open", "(LZoneShares$Table;)V"⟩
def iv_y43 : MethodName := ⟨"ZoneShares$Rounder", "fillRow", "(II)V"⟩
def iv_y44 : MethodName := ⟨"ZoneShares$Rounder", "fillColumn", "(I)V"⟩
def iv_y45 : MethodName := ⟨"ZoneShares$Rounder", "fix", "(I)V"⟩
def iv_y46 : MethodName := ⟨"ZoneShares$Rounder", "findWay", "(II)Z"⟩
def iv_y47 : MethodName := ⟨"ZoneShares$Rounder", "reach", "(II)V"⟩
def iv_y48 : MethodName := ⟨"ZoneShares$Rounder", "spreadRow", "(I)V"⟩
def iv_y49 : MethodName := ⟨"ZoneShares$Rounder", "spreadColumn", "(I)V"⟩
def iv_y50 : MethodName := ⟨"ZoneShares$Rounder", "spreadHub", "()V"⟩
def iv_y51 : MethodName := ⟨"ZoneShares$Rounder", "turnWay", "(II)V"⟩
def iv_y52 : MethodName := ⟨"ZoneShares$Rounder", "turnStep", "(II)V"⟩
def iv_y53 : MethodName := ⟨"ZoneShares$State", "<init>", "()V"⟩
def iv_y54 : MethodName := ⟨"ZoneShares$State", "copy", "(LZoneShares$State;)V"⟩
def iv_y55 : MethodName := ⟨"ZoneShares$State", "putLayer", "(ILZoneShares$LayerText;)V"⟩
def iv_y56 : MethodName := ⟨"ZoneShares$State", "has", "(I)Z"⟩
def iv_y57 : MethodName := ⟨"ZoneShares$State", "whole", "()Z"⟩
def iv_y58 : MethodName := ⟨"ZoneShares$State", "cells", "()I"⟩
def iv_y59 : MethodName := ⟨"ZoneShares$State", "hasCell", "(II)Z"⟩
def iv_y60 : MethodName := ⟨"ZoneShares$State", "at", "(II)I"⟩
def iv_y61 : MethodName := ⟨"ZoneShares$State", "weightAt", "(II)I"⟩
def iv_y62 : MethodName := ⟨"ZoneShares$State", "cellsOf", "(II)I"⟩
def iv_y63 : MethodName := ⟨"ZoneShares$State", "kinds", "(II)I"⟩
def iv_y64 : MethodName := ⟨"ZoneShares$State", "unlikeCells", "()I"⟩
def iv_y65 : MethodName := ⟨"ZoneShares$State", "metBy", "(I)I"⟩
def iv_y66 : MethodName := ⟨"ZoneShares$State", "toldOf", "(I)I"⟩
def iv_y67 : MethodName := ⟨"ZoneShares$Table", "<init>", "()V"⟩
def iv_y68 : MethodName := ⟨"ZoneShares$Table", "clear", "()V"⟩
def iv_y69 : MethodName := ⟨"ZoneShares$Table", "add", "(IIII)V"⟩
def iv_y70 : MethodName := ⟨"ZoneShares$Table", "cut", "()V"⟩
def iv_y71 : MethodName := ⟨"ZoneShares$Table", "cutRow", "(II)V"⟩
def iv_y72 : MethodName := ⟨"ZoneShares$Table", "sum", "([II)I"⟩
def iv_y73 : MethodName := ⟨"ZoneShares$Table", "leftOver", "(I)I"⟩
def iv_y74 : MethodName := ⟨"ZoneShares$Table", "giveByRests", "()V"⟩
def iv_y75 : MethodName := ⟨"ZoneShares$Table", "giveToGreatest", "(I)V"⟩
def iv_y76 : MethodName := ⟨"ZoneShares$Table", "column", "(I)I"⟩
def iv_y77 : MethodName := ⟨"ZoneShares$Table", "floorsOf", "(I)I"⟩
def iv_y78 : MethodName := ⟨"ZoneShares$Table", "common", "()J"⟩
def iv_y79 : MethodName := ⟨"ZoneShares$Table", "restsOf", "(IJ)J"⟩
def iv_y80 : MethodName := ⟨"ZoneShares$Table", "offBy", "(I)J"⟩
def iv_y81 : MethodName := ⟨"ZoneShares$Tape", "<init>", "()V"⟩
def iv_y82 : MethodName := ⟨"ZoneShares$Tape", "put", "(I)V"⟩
def iv_y83 : MethodName := ⟨"ZoneShares$Tape", "at", "(I)I"⟩
def iv_y84 : MethodName := ⟨"ZoneShares", "<init>", "()V"⟩
def iv_y85 : MethodName := ⟨"ZoneShares", "feed", "(IIIII)I"⟩
def iv_y86 : MethodName := ⟨"ZoneShares", "end", "(I)I"⟩
def iv_y87 : MethodName := ⟨"ZoneShares", "layer", "(I)I"⟩
def iv_y88 : MethodName := ⟨"ZoneShares", "counts", "(I)I"⟩
def iv_y89 : MethodName := ⟨"ZoneShares", "weigh", "(III)I"⟩
def iv_y90 : MethodName := ⟨"ZoneShares", "settle", "(II)I"⟩
def iv_y91 : MethodName := ⟨"ZoneShares", "district", "(II)I"⟩
def iv_y92 : MethodName := ⟨"ZoneShares", "fit", "(I)I"⟩
def iv_y93 : MethodName := ⟨"ZoneShares", "adopt", "()I"⟩
def iv_y94 : MethodName := ⟨"ZoneShares", "undo", "()I"⟩
def iv_y95 : MethodName := ⟨"ZoneShares", "cell", "(III)I"⟩
def iv_y96 : MethodName := ⟨"ZoneShares", "piece", "(II)I"⟩
def iv_y97 : MethodName := ⟨"ZoneShares", "people", "(II)I"⟩
def iv_y98 : MethodName := ⟨"ZoneShares", "share", "(IIII)I"⟩
def iv_y99 : MethodName := ⟨"ZoneShares", "moved", "(III)I"⟩
def iv_y100 : MethodName := ⟨"ZoneShares", "exact", "(III)J"⟩
def iv_y101 : MethodName := ⟨"ZoneShares", "coarse", "(III)I"⟩
def iv_y102 : MethodName := ⟨"ZoneShares", "misfit", "(II)J"⟩
def iv_y103 : MethodName := ⟨"ZoneShares", "byWay", "(II)I"⟩
def iv_y104 : MethodName := ⟨"ZoneShares", "returned", "(II)I"⟩
def iv_y105 : MethodName := ⟨"ZoneShares", "astray", "(I)I"⟩
def iv_y106 : MethodName := ⟨"ZoneShares", "surface", "(IIII)J"⟩
def iv_y107 : MethodName := ⟨"ZoneShares", "densest", "(II)I"⟩
def iv_y108 : MethodName := ⟨"ZoneShares", "dense", "(III)J"⟩
def iv_y109 : MethodName := ⟨"ZoneShares", "off", "(I)J"⟩
def iv_y110 : MethodName := ⟨"ZoneShares", "apart", "(I)I"⟩
def iv_y111 : MethodName := ⟨"ZoneShares", "count", "(I)I"⟩
def iv_y112 : MethodName := ⟨"ZoneShares", "weight", "(II)I"⟩
def iv_y113 : MethodName := ⟨"ZoneShares", "districtOf", "(I)I"⟩
def iv_y114 : MethodName := ⟨"ZoneShares", "isGroup", "(I)Z"⟩
def iv_y115 : MethodName := ⟨"ZoneShares", "isZone", "(I)Z"⟩
def iv_y116 : MethodName := ⟨"ZoneShares", "isLand", "(I)Z"⟩
def iv_y117 : MethodName := ⟨"ZoneShares", "isDistrict", "(I)Z"⟩
def iv_y118 : MethodName := ⟨"ZoneShares", "isTarget", "(II)Z"⟩
def iv_y119 : MethodName := ⟨"ZoneShares", "startAct", "()V"⟩
def iv_y120 : MethodName := ⟨"ZoneShares", "forgetTables", "()V"⟩
def iv_y121 : MethodName := ⟨"ZoneShares", "fits", "(I)Z"⟩
def iv_y122 : MethodName := ⟨"ZoneShares", "adoptCounts", "(I)I"⟩
def iv_y123 : MethodName := ⟨"ZoneShares", "countPieces", "()I"⟩
def iv_y124 : MethodName := ⟨"ZoneShares", "placeOfPiece", "(I)I"⟩
def iv_y125 : MethodName := ⟨"ZoneShares", "liesApart", "(II)Z"⟩
def iv_y126 : MethodName := ⟨"ZoneShares", "peopleInAll", "(Z)I"⟩
def iv_y127 : MethodName := ⟨"ZoneShares", "lowest", "(JJI)J"⟩
def iv_y128 : MethodName := ⟨"ZoneShares", "gcd", "(JJ)J"⟩
def iv_y129 : MethodName := ⟨"ZoneSharesModel", "<init>", "()V"⟩
def iv_y130 : MethodName := ⟨"ZoneSharesModel", "in", "(JJJ)Z"⟩
def iv_y131 : MethodName := ⟨"ZoneSharesModel", "truth", "(Z)I"⟩
def iv_y132 : MethodName := ⟨"ZoneSharesModel", "remembers", "()V"⟩
def iv_y133 : MethodName := ⟨"ZoneSharesModel", "undo", "()I"⟩
def iv_y134 : MethodName := ⟨"ZoneSharesModel", "feed", "(IIIII)I"⟩
def iv_y135 : MethodName := ⟨"ZoneSharesModel", "puts", "(I)V"⟩
def iv_y136 : MethodName := ⟨"ZoneSharesModel", "end", "(I)I"⟩
def iv_y137 : MethodName := ⟨"ZoneSharesModel", "sign", "()I"⟩
def iv_y138 : MethodName := ⟨"ZoneSharesModel", "isRight", "()Z"⟩
def iv_y139 : MethodName := ⟨"ZoneSharesModel", "fails", "(II)V"⟩
def iv_y140 : MethodName := ⟨"ZoneSharesModel", "isSign", "(II)Z"⟩
def iv_y141 : MethodName := ⟨"ZoneSharesModel", "codeOf", "(II)I"⟩
def iv_y142 : MethodName := ⟨"ZoneSharesModel", "readsRow", "(II)V"⟩
def iv_y143 : MethodName := ⟨"ZoneSharesModel", "readsLayer", "(I)V"⟩
def iv_y144 : MethodName := ⟨"ZoneSharesModel", "isTold", "(I)Z"⟩
def iv_y145 : MethodName := ⟨"ZoneSharesModel", "layer", "(I)I"⟩
def iv_y146 : MethodName := ⟨"ZoneSharesModel", "readsPart", "()V"⟩
def iv_y147 : MethodName := ⟨"ZoneSharesModel", "readsCounts", "()V"⟩
def iv_y148 : MethodName := ⟨"ZoneSharesModel", "isGroup", "(I)Z"⟩
def iv_y149 : MethodName := ⟨"ZoneSharesModel", "counts", "(I)I"⟩
def iv_y150 : MethodName := ⟨"ZoneSharesModel", "isWhole", "()Z"⟩
def iv_y151 : MethodName := ⟨"ZoneSharesModel", "cellMany", "()I"⟩
def iv_y152 : MethodName := ⟨"ZoneSharesModel", "codeAt", "(II)I"⟩
def iv_y153 : MethodName := ⟨"ZoneSharesModel", "hasZone", "(II)Z"⟩
def iv_y154 : MethodName := ⟨"ZoneSharesModel", "codeMany", "(II)I"⟩
def iv_y155 : MethodName := ⟨"ZoneSharesModel", "countOf", "(II)I"⟩
def iv_y156 : MethodName := ⟨"ZoneSharesModel", "weightAt", "(II)I"⟩
def iv_y157 : MethodName := ⟨"ZoneSharesModel", "sumOf", "(IIIZ)I"⟩
def iv_y158 : MethodName := ⟨"ZoneSharesModel", "oldCells", "(I)I"⟩
def iv_y159 : MethodName := ⟨"ZoneSharesModel", "begins", "(II)V"⟩
def iv_y160 : MethodName := ⟨"ZoneSharesModel", "at", "(II)I"⟩
def iv_y161 : MethodName := ⟨"ZoneSharesModel", "wholeOf", "(I)I"⟩
def iv_y162 : MethodName := ⟨"ZoneSharesModel", "cutsOff", "(I)J"⟩
def iv_y163 : MethodName := ⟨"ZoneSharesModel", "givesByRests", "(I)V"⟩
def iv_y164 : MethodName := ⟨"ZoneSharesModel", "divisor", "(JJ)J"⟩
def iv_y165 : MethodName := ⟨"ZoneSharesModel", "addsPart", "(JJ)V"⟩
def iv_y166 : MethodName := ⟨"ZoneSharesModel", "laysColumn", "(I)V"⟩
def iv_y167 : MethodName := ⟨"ZoneSharesModel", "mayBe", "(II)Z"⟩
def iv_y168 : MethodName := ⟨"ZoneSharesModel", "finds", "(I)Z"⟩
def iv_y169 : MethodName := ⟨"ZoneSharesModel", "makesPlace", "(I)Z"⟩
def iv_y170 : MethodName := ⟨"ZoneSharesModel", "fillsUp", "()V"⟩
def iv_y171 : MethodName := ⟨"ZoneSharesModel", "canBe", "()Z"⟩
def iv_y172 : MethodName := ⟨"ZoneSharesModel", "balances", "()V"⟩
def iv_y173 : MethodName := ⟨"ZoneSharesModel", "fills", "()V"⟩
def iv_y174 : MethodName := ⟨"ZoneSharesModel", "unknownOf", "(I)I"⟩
def iv_y175 : MethodName := ⟨"ZoneSharesModel", "isShared", "()Z"⟩
def iv_y176 : MethodName := ⟨"ZoneSharesModel", "asideOf", "(I)I"⟩
def iv_y177 : MethodName := ⟨"ZoneSharesModel", "laysLiving", "(I)V"⟩
def iv_y178 : MethodName := ⟨"ZoneSharesModel", "allTold", "(I)I"⟩
def iv_y179 : MethodName := ⟨"ZoneSharesModel", "people", "(II)I"⟩
def iv_y180 : MethodName := ⟨"ZoneSharesModel", "byCells", "(II)Z"⟩
def iv_y181 : MethodName := ⟨"ZoneSharesModel", "laysMoved", "(I)V"⟩
def iv_y182 : MethodName := ⟨"ZoneSharesModel", "rowSum", "(I)I"⟩
def iv_y183 : MethodName := ⟨"ZoneSharesModel", "columnSum", "(I)I"⟩
def iv_y184 : MethodName := ⟨"ZoneSharesModel", "tableSum", "()I"⟩
def iv_y185 : MethodName := ⟨"ZoneSharesModel", "moved", "(III)I"⟩
def iv_y186 : MethodName := ⟨"ZoneSharesModel", "districtAt", "(I)I"⟩
def iv_y187 : MethodName := ⟨"ZoneSharesModel", "laysCoarse", "(I)V"⟩
def iv_y188 : MethodName := ⟨"ZoneSharesModel", "coarse", "(III)I"⟩
def iv_y189 : MethodName := ⟨"ZoneSharesModel", "byWay", "(II)I"⟩
def iv_y190 : MethodName := ⟨"ZoneSharesModel", "laysWay", "(IIZ)V"⟩
def iv_y191 : MethodName := ⟨"ZoneSharesModel", "laysReturned", "(I)V"⟩
def iv_y192 : MethodName := ⟨"ZoneSharesModel", "returned", "(II)I"⟩
def iv_y193 : MethodName := ⟨"ZoneSharesModel", "astray", "(I)I"⟩
def iv_y194 : MethodName := ⟨"ZoneSharesModel", "lowest", "(JJI)J"⟩
def iv_y195 : MethodName := ⟨"ZoneSharesModel", "share", "(IIII)I"⟩
def iv_y196 : MethodName := ⟨"ZoneSharesModel", "exact", "(III)J"⟩
def iv_y197 : MethodName := ⟨"ZoneSharesModel", "laysSurface", "(I)V"⟩
def iv_y198 : MethodName := ⟨"ZoneSharesModel", "isCell", "(II)Z"⟩
def iv_y199 : MethodName := ⟨"ZoneSharesModel", "surface", "(IIII)J"⟩
def iv_y200 : MethodName := ⟨"ZoneSharesModel", "isAhead", "(II)Z"⟩
def iv_y201 : MethodName := ⟨"ZoneSharesModel", "densest", "(II)I"⟩
def iv_y202 : MethodName := ⟨"ZoneSharesModel", "newCells", "(I)I"⟩
def iv_y203 : MethodName := ⟨"ZoneSharesModel", "dense", "(III)J"⟩
def iv_y204 : MethodName := ⟨"ZoneSharesModel", "off", "(I)J"⟩
def iv_y205 : MethodName := ⟨"ZoneSharesModel", "laysCellsOf", "(I)V"⟩
def iv_y206 : MethodName := ⟨"ZoneSharesModel", "weighs", "(I)I"⟩
def iv_y207 : MethodName := ⟨"ZoneSharesModel", "landCells", "(I)I"⟩
def iv_y208 : MethodName := ⟨"ZoneSharesModel", "isOldCounted", "(I)Z"⟩
def iv_y209 : MethodName := ⟨"ZoneSharesModel", "laysMisfit", "(I)Z"⟩
def iv_y210 : MethodName := ⟨"ZoneSharesModel", "misfit", "(II)J"⟩
def iv_y211 : MethodName := ⟨"ZoneSharesModel", "fitsFrom", "(II)V"⟩
def iv_y212 : MethodName := ⟨"ZoneSharesModel", "fit", "(I)I"⟩
def iv_y213 : MethodName := ⟨"ZoneSharesModel", "isWeight", "(III)Z"⟩
def iv_y214 : MethodName := ⟨"ZoneSharesModel", "weigh", "(III)I"⟩
def iv_y215 : MethodName := ⟨"ZoneSharesModel", "settle", "(II)I"⟩
def iv_y216 : MethodName := ⟨"ZoneSharesModel", "district", "(II)I"⟩
def iv_y217 : MethodName := ⟨"ZoneSharesModel", "adopt", "()I"⟩
def iv_y218 : MethodName := ⟨"ZoneSharesModel", "cell", "(III)I"⟩
def iv_y219 : MethodName := ⟨"ZoneSharesModel", "pieceCells", "(III)I"⟩
def iv_y220 : MethodName := ⟨"ZoneSharesModel", "piece", "(II)I"⟩
def iv_y221 : MethodName := ⟨"ZoneSharesModel", "newSet", "(I)I"⟩
def iv_y222 : MethodName := ⟨"ZoneSharesModel", "isApart", "(II)Z"⟩
def iv_y223 : MethodName := ⟨"ZoneSharesModel", "apart", "(I)I"⟩
def iv_y224 : MethodName := ⟨"ZoneSharesModel", "movedAll", "()I"⟩
def iv_y225 : MethodName := ⟨"ZoneSharesModel", "asideAll", "()I"⟩
def iv_y226 : MethodName := ⟨"ZoneSharesModel", "count", "(I)I"⟩
def iv_y227 : MethodName := ⟨"ZoneSharesModel", "weight", "(II)I"⟩
def iv_y228 : MethodName := ⟨"ZoneSharesModel", "districtOf", "(I)I"⟩
def iv_y229 : MethodName := ⟨"java/lang/Integer", "numberOfTrailingZeros", "(I)I"⟩
def iv_y230 : MethodName := ⟨"java/lang/Integer", "bitCount", "(I)I"⟩
def iv_y231 : MethodName := ⟨"java/lang/Math", "abs", "(I)I"⟩
def iv_y232 : MethodName := ⟨"java/lang/Math", "max", "(II)I"⟩
def iv_y233 : MethodName := ⟨"java/lang/Math", "min", "(II)I"⟩
def iv_y234 : MethodName := ⟨"java/util/Arrays", "fill", "([II)V"⟩
def iv_y235 : MethodName := ⟨"ZoneSharesLaw", "law", "([I)Z"⟩
def iv_yX : MethodName := ⟨"", "", ""⟩
def iv_yT : iv_Tr (MethodName) 8 := (iv_nd (iv_nd (iv_nd (iv_nd (iv_nd (iv_nd (iv_nd (iv_nd (some iv_y0) (some iv_y1)) (iv_nd (some iv_y2) (some iv_y3))) (iv_nd (iv_nd (some iv_y4) (some iv_y5)) (iv_nd (some iv_y6) (some iv_y7)))) (iv_nd (iv_nd (iv_nd (some iv_y8) (some iv_y9)) (iv_nd (some iv_y10) (some iv_y11))) (iv_nd (iv_nd (some iv_y12) (some iv_y13)) (iv_nd (some iv_y14) (some iv_y15))))) (iv_nd (iv_nd (iv_nd (iv_nd (some iv_y16) (some iv_y17)) (iv_nd (some iv_y18) (some iv_y19))) (iv_nd (iv_nd (some iv_y20) (some iv_y21)) (iv_nd (some iv_y22) (some iv_y23)))) (iv_nd (iv_nd (iv_nd (some iv_y24) (some iv_y25)) (iv_nd (some iv_y26) (some iv_y27))) (iv_nd (iv_nd (some iv_y28) (some iv_y29)) (iv_nd (some iv_y30) (some iv_y31)))))) (iv_nd (iv_nd (iv_nd (iv_nd (iv_nd (some iv_y32) (some iv_y33)) (iv_nd (some iv_y34) (some iv_y35))) (iv_nd (iv_nd (some iv_y36) (some iv_y37)) (iv_nd (some iv_y38) (some iv_y39)))) (iv_nd (iv_nd (iv_nd (some iv_y40) (some iv_y41)) (iv_nd (some iv_y42) (some iv_y43))) (iv_nd (iv_nd (some iv_y44) (some iv_y45)) (iv_nd (some iv_y46) (some iv_y47))))) (iv_nd (iv_nd (iv_nd (iv_nd (some iv_y48) (some iv_y49)) (iv_nd (some iv_y50) (some iv_y51))) (iv_nd (iv_nd (some iv_y52) (some iv_y53)) (iv_nd (some iv_y54) (some iv_y55)))) (iv_nd (iv_nd (iv_nd (some iv_y56) (some iv_y57)) (iv_nd (some iv_y58) (some iv_y59))) (iv_nd (iv_nd (some iv_y60) (some iv_y61)) (iv_nd (some iv_y62) (some iv_y63))))))) (iv_nd (iv_nd (iv_nd (iv_nd (iv_nd (iv_nd (some iv_y64) (some iv_y65)) (iv_nd (some iv_y66) (some iv_y67))) (iv_nd (iv_nd (some iv_y68) (some iv_y69)) (iv_nd (some iv_y70) (some iv_y71)))) (iv_nd (iv_nd (iv_nd (some iv_y72) (some iv_y73)) (iv_nd (some iv_y74) (some iv_y75))) (iv_nd (iv_nd (some iv_y76) (some iv_y77)) (iv_nd (some iv_y78) (some iv_y79))))) (iv_nd (iv_nd (iv_nd (iv_nd (some iv_y80) (some iv_y81)) (iv_nd (some iv_y82) (some iv_y83))) (iv_nd (iv_nd (some iv_y84) (some iv_y85)) (iv_nd (some iv_y86) (some iv_y87)))) (iv_nd (iv_nd (iv_nd (some iv_y88) (some iv_y89)) (iv_nd (some iv_y90) (some iv_y91))) (iv_nd (iv_nd (some iv_y92) (some iv_y93)) (iv_nd (some iv_y94) (some iv_y95)))))) (iv_nd (iv_nd (iv_nd (iv_nd (iv_nd (some iv_y96) (some iv_y97)) (iv_nd (some iv_y98) (some iv_y99))) (iv_nd (iv_nd (some iv_y100) (some iv_y101)) (iv_nd (some iv_y102) (some iv_y103)))) (iv_nd (iv_nd (iv_nd (some iv_y104) (some iv_y105)) (iv_nd (some iv_y106) (some iv_y107))) (iv_nd (iv_nd (some iv_y108) (some iv_y109)) (iv_nd (some iv_y110) (some iv_y111))))) (iv_nd (iv_nd (iv_nd (iv_nd (some iv_y112) (some iv_y113)) (iv_nd (some iv_y114) (some iv_y115))) (iv_nd (iv_nd (some iv_y116) (some iv_y117)) (iv_nd (some iv_y118) (some iv_y119)))) (iv_nd (iv_nd (iv_nd (some iv_y120) (some iv_y121)) (iv_nd (some iv_y122) (some iv_y123))) (iv_nd (iv_nd (some iv_y124) (some iv_y125)) (iv_nd (some iv_y126) (some iv_y127)))))))) (iv_nd (iv_nd (iv_nd (iv_nd (iv_nd (iv_nd (iv_nd (some iv_y128) (some iv_y129)) (iv_nd (some iv_y130) (some iv_y131))) (iv_nd (iv_nd (some iv_y132) (some iv_y133)) (iv_nd (some iv_y134) (some iv_y135)))) (iv_nd (iv_nd (iv_nd (some iv_y136) (some iv_y137)) (iv_nd (some iv_y138) (some iv_y139))) (iv_nd (iv_nd (some iv_y140) (some iv_y141)) (iv_nd (some iv_y142) (some iv_y143))))) (iv_nd (iv_nd (iv_nd (iv_nd (some iv_y144) (some iv_y145)) (iv_nd (some iv_y146) (some iv_y147))) (iv_nd (iv_nd (some iv_y148) (some iv_y149)) (iv_nd (some iv_y150) (some iv_y151)))) (iv_nd (iv_nd (iv_nd (some iv_y152) (some iv_y153)) (iv_nd (some iv_y154) (some iv_y155))) (iv_nd (iv_nd (some iv_y156) (some iv_y157)) (iv_nd (some iv_y158) (some iv_y159)))))) (iv_nd (iv_nd (iv_nd (iv_nd (iv_nd (some iv_y160) (some iv_y161)) (iv_nd (some iv_y162) (some iv_y163))) (iv_nd (iv_nd (some iv_y164) (some iv_y165)) (iv_nd (some iv_y166) (some iv_y167)))) (iv_nd (iv_nd (iv_nd (some iv_y168) (some iv_y169)) (iv_nd (some iv_y170) (some iv_y171))) (iv_nd (iv_nd (some iv_y172) (some iv_y173)) (iv_nd (some iv_y174) (some iv_y175))))) (iv_nd (iv_nd (iv_nd (iv_nd (some iv_y176) (some iv_y177)) (iv_nd (some iv_y178) (some iv_y179))) (iv_nd (iv_nd (some iv_y180) (some iv_y181)) (iv_nd (some iv_y182) (some iv_y183)))) (iv_nd (iv_nd (iv_nd (some iv_y184) (some iv_y185)) (iv_nd (some iv_y186) (some iv_y187))) (iv_nd (iv_nd (some iv_y188) (some iv_y189)) (iv_nd (some iv_y190) (some iv_y191))))))) (iv_nd (iv_nd (iv_nd (iv_nd (iv_nd (iv_nd (some iv_y192) (some iv_y193)) (iv_nd (some iv_y194) (some iv_y195))) (iv_nd (iv_nd (some iv_y196) (some iv_y197)) (iv_nd (some iv_y198) (some iv_y199)))) (iv_nd (iv_nd (iv_nd (some iv_y200) (some iv_y201)) (iv_nd (some iv_y202) (some iv_y203))) (iv_nd (iv_nd (some iv_y204) (some iv_y205)) (iv_nd (some iv_y206) (some iv_y207))))) (iv_nd (iv_nd (iv_nd (iv_nd (some iv_y208) (some iv_y209)) (iv_nd (some iv_y210) (some iv_y211))) (iv_nd (iv_nd (some iv_y212) (some iv_y213)) (iv_nd (some iv_y214) (some iv_y215)))) (iv_nd (iv_nd (iv_nd (some iv_y216) (some iv_y217)) (iv_nd (some iv_y218) (some iv_y219))) (iv_nd (iv_nd (some iv_y220) (some iv_y221)) (iv_nd (some iv_y222) (some iv_y223)))))) (iv_nd (iv_nd (iv_nd (iv_nd (iv_nd (some iv_y224) (some iv_y225)) (iv_nd (some iv_y226) (some iv_y227))) (iv_nd (iv_nd (some iv_y228) (some iv_y229)) (iv_nd (some iv_y230) (some iv_y231)))) (iv_nd (iv_nd (iv_nd (some iv_y232) (some iv_y233)) (iv_nd (some iv_y234) (some iv_y235))) (iv_em 2))) (iv_em 4)))))
def iv_y (i : Nat) : MethodName := bif Nat.ble 236 i then iv_yX else (iv_tl 8 iv_yT i).getD iv_yX
def iv_byT : iv_Tr (ByteArray) 8 := (iv_nd (iv_nd (iv_nd (iv_nd (iv_nd (iv_nd (iv_nd (iv_nd (some prog_2_method_2_code) (some prog_2_method_3_code)) (iv_nd (some prog_2_method_4_code) (some prog_3_method_1_code))) (iv_nd (iv_nd (some prog_3_method_2_code) (some prog_3_method_3_code)) (iv_nd (some prog_3_method_4_code) (some prog_3_method_5_code)))) (iv_nd (iv_nd (iv_nd (some prog_3_method_6_code) (some prog_4_method_1_code)) (iv_nd (some prog_4_method_2_code) (some prog_4_method_3_code))) (iv_nd (iv_nd (some prog_4_method_4_code) (some prog_4_method_5_code)) (iv_nd (some prog_4_method_6_code) (some prog_4_method_7_code))))) (iv_nd (iv_nd (iv_nd (iv_nd (some prog_4_method_8_code) (some prog_4_method_9_code)) (iv_nd (some prog_5_method_1_code) (some prog_5_method_2_code))) (iv_nd (iv_nd (some prog_5_method_3_code) (some prog_5_method_4_code)) (iv_nd (some prog_5_method_5_code) (some prog_5_method_6_code)))) (iv_nd (iv_nd (iv_nd (some prog_5_method_7_code) (some prog_5_method_8_code)) (iv_nd (some prog_5_method_9_code) (some prog_5_method_10_code))) (iv_nd (iv_nd (some prog_5_method_11_code) (some prog_5_method_12_code)) (iv_nd (some prog_6_method_1_code) (some prog_6_method_2_code)))))) (iv_nd (iv_nd (iv_nd (iv_nd (iv_nd (some prog_6_method_3_code) (some prog_7_method_1_code)) (iv_nd (some prog_7_method_2_code) (some prog_7_method_3_code))) (iv_nd (iv_nd (some prog_7_method_4_code) (some prog_7_method_5_code)) (iv_nd (some prog_7_method_6_code) (some prog_7_method_7_code)))) (iv_nd (iv_nd (iv_nd (some prog_8_method_1_code) (some prog_8_method_2_code)) (iv_nd (some prog_8_method_3_code) (some prog_8_method_4_code))) (iv_nd (iv_nd (some prog_8_method_5_code) (some prog_8_method_6_code)) (iv_nd (some prog_8_method_7_code) (some prog_8_method_8_code))))) (iv_nd (iv_nd (iv_nd (iv_nd (some prog_8_method_9_code) (some prog_8_method_10_code)) (iv_nd (some prog_8_method_11_code) (some prog_8_method_12_code))) (iv_nd (iv_nd (some prog_8_method_13_code) (some prog_9_method_1_code)) (iv_nd (some prog_9_method_2_code) (some prog_9_method_3_code)))) (iv_nd (iv_nd (iv_nd (some prog_9_method_4_code) (some prog_9_method_5_code)) (iv_nd (some prog_9_method_6_code) (some prog_9_method_7_code))) (iv_nd (iv_nd (some prog_9_method_8_code) (some prog_9_method_9_code)) (iv_nd (some prog_9_method_10_code) (some prog_9_method_11_code))))))) (iv_nd (iv_nd (iv_nd (iv_nd (iv_nd (iv_nd (some prog_9_method_12_code) (some prog_9_method_13_code)) (iv_nd (some prog_9_method_14_code) (some prog_10_method_1_code))) (iv_nd (iv_nd (some prog_10_method_2_code) (some prog_10_method_3_code)) (iv_nd (some prog_10_method_4_code) (some prog_10_method_5_code)))) (iv_nd (iv_nd (iv_nd (some prog_10_method_6_code) (some prog_10_method_7_code)) (iv_nd (some prog_10_method_8_code) (some prog_10_method_9_code))) (iv_nd (iv_nd (some prog_10_method_10_code) (some prog_10_method_11_code)) (iv_nd (some prog_10_method_12_code) (some prog_10_method_13_code))))) (iv_nd (iv_nd (iv_nd (iv_nd (some prog_10_method_14_code) (some prog_11_method_1_code)) (iv_nd (some prog_11_method_2_code) (some prog_11_method_3_code))) (iv_nd (iv_nd (some prog_1_method_1_code) (some prog_1_method_2_code)) (iv_nd (some prog_1_method_3_code) (some prog_1_method_4_code)))) (iv_nd (iv_nd (iv_nd (some prog_1_method_5_code) (some prog_1_method_6_code)) (iv_nd (some prog_1_method_7_code) (some prog_1_method_8_code))) (iv_nd (iv_nd (some prog_1_method_9_code) (some prog_1_method_10_code)) (iv_nd (some prog_1_method_11_code) (some prog_1_method_12_code)))))) (iv_nd (iv_nd (iv_nd (iv_nd (iv_nd (some prog_1_method_13_code) (some prog_1_method_14_code)) (iv_nd (some prog_1_method_15_code) (some prog_1_method_16_code))) (iv_nd (iv_nd (some prog_1_method_17_code) (some prog_1_method_18_code)) (iv_nd (some prog_1_method_19_code) (some prog_1_method_20_code)))) (iv_nd (iv_nd (iv_nd (some prog_1_method_21_code) (some prog_1_method_22_code)) (iv_nd (some prog_1_method_23_code) (some prog_1_method_24_code))) (iv_nd (iv_nd (some prog_1_method_25_code) (some prog_1_method_26_code)) (iv_nd (some prog_1_method_27_code) (some prog_1_method_28_code))))) (iv_nd (iv_nd (iv_nd (iv_nd (some prog_1_method_29_code) (some prog_1_method_30_code)) (iv_nd (some prog_1_method_31_code) (some prog_1_method_32_code))) (iv_nd (iv_nd (some prog_1_method_33_code) (some prog_1_method_34_code)) (iv_nd (some prog_1_method_35_code) (some prog_1_method_36_code)))) (iv_nd (iv_nd (iv_nd (some prog_1_method_37_code) (some prog_1_method_38_code)) (iv_nd (some prog_1_method_39_code) (some prog_1_method_40_code))) (iv_nd (iv_nd (some prog_1_method_41_code) (some prog_1_method_42_code)) (iv_nd (some prog_1_method_43_code) (some prog_1_method_44_code)))))))) (iv_nd (iv_nd (iv_nd (iv_nd (iv_nd (iv_nd (iv_nd (some prog_1_method_45_code) (some prog_13_method_1_code)) (iv_nd (some prog_13_method_2_code) (some prog_13_method_3_code))) (iv_nd (iv_nd (some prog_13_method_4_code) (some prog_13_method_5_code)) (iv_nd (some prog_13_method_6_code) (some prog_13_method_7_code)))) (iv_nd (iv_nd (iv_nd (some prog_13_method_8_code) (some prog_13_method_9_code)) (iv_nd (some prog_13_method_10_code) (some prog_13_method_11_code))) (iv_nd (iv_nd (some prog_13_method_12_code) (some prog_13_method_13_code)) (iv_nd (some prog_13_method_14_code) (some prog_13_method_15_code))))) (iv_nd (iv_nd (iv_nd (iv_nd (some prog_13_method_16_code) (some prog_13_method_17_code)) (iv_nd (some prog_13_method_18_code) (some prog_13_method_19_code))) (iv_nd (iv_nd (some prog_13_method_20_code) (some prog_13_method_21_code)) (iv_nd (some prog_13_method_22_code) (some prog_13_method_23_code)))) (iv_nd (iv_nd (iv_nd (some prog_13_method_24_code) (some prog_13_method_25_code)) (iv_nd (some prog_13_method_26_code) (some prog_13_method_27_code))) (iv_nd (iv_nd (some prog_13_method_28_code) (some prog_13_method_29_code)) (iv_nd (some prog_13_method_30_code) (some prog_13_method_31_code)))))) (iv_nd (iv_nd (iv_nd (iv_nd (iv_nd (some prog_13_method_32_code) (some prog_13_method_33_code)) (iv_nd (some prog_13_method_34_code) (some prog_13_method_35_code))) (iv_nd (iv_nd (some prog_13_method_36_code) (some prog_13_method_37_code)) (iv_nd (some prog_13_method_38_code) (some prog_13_method_39_code)))) (iv_nd (iv_nd (iv_nd (some prog_13_method_40_code) (some prog_13_method_41_code)) (iv_nd (some prog_13_method_42_code) (some prog_13_method_43_code))) (iv_nd (iv_nd (some prog_13_method_44_code) (some prog_13_method_45_code)) (iv_nd (some prog_13_method_46_code) (some prog_13_method_47_code))))) (iv_nd (iv_nd (iv_nd (iv_nd (some prog_13_method_48_code) (some prog_13_method_49_code)) (iv_nd (some prog_13_method_50_code) (some prog_13_method_51_code))) (iv_nd (iv_nd (some prog_13_method_52_code) (some prog_13_method_53_code)) (iv_nd (some prog_13_method_54_code) (some prog_13_method_55_code)))) (iv_nd (iv_nd (iv_nd (some prog_13_method_56_code) (some prog_13_method_57_code)) (iv_nd (some prog_13_method_58_code) (some prog_13_method_59_code))) (iv_nd (iv_nd (some prog_13_method_60_code) (some prog_13_method_61_code)) (iv_nd (some prog_13_method_62_code) (some prog_13_method_63_code))))))) (iv_nd (iv_nd (iv_nd (iv_nd (iv_nd (iv_nd (some prog_13_method_64_code) (some prog_13_method_65_code)) (iv_nd (some prog_13_method_66_code) (some prog_13_method_67_code))) (iv_nd (iv_nd (some prog_13_method_68_code) (some prog_13_method_69_code)) (iv_nd (some prog_13_method_70_code) (some prog_13_method_71_code)))) (iv_nd (iv_nd (iv_nd (some prog_13_method_72_code) (some prog_13_method_73_code)) (iv_nd (some prog_13_method_74_code) (some prog_13_method_75_code))) (iv_nd (iv_nd (some prog_13_method_76_code) (some prog_13_method_77_code)) (iv_nd (some prog_13_method_78_code) (some prog_13_method_79_code))))) (iv_nd (iv_nd (iv_nd (iv_nd (some prog_13_method_80_code) (some prog_13_method_81_code)) (iv_nd (some prog_13_method_82_code) (some prog_13_method_83_code))) (iv_nd (iv_nd (some prog_13_method_84_code) (some prog_13_method_85_code)) (iv_nd (some prog_13_method_86_code) (some prog_13_method_87_code)))) (iv_nd (iv_nd (iv_nd (some prog_13_method_88_code) (some prog_13_method_89_code)) (iv_nd (some prog_13_method_90_code) (some prog_13_method_91_code))) (iv_nd (iv_nd (some prog_13_method_92_code) (some prog_13_method_93_code)) (iv_nd (some prog_13_method_94_code) (some prog_13_method_95_code)))))) (iv_nd (iv_nd (iv_nd (iv_nd (iv_nd (some prog_13_method_96_code) (some prog_13_method_97_code)) (iv_nd (some prog_13_method_98_code) (some prog_13_method_99_code))) (iv_nd (iv_nd (some prog_13_method_100_code) (some prog_16_method_48_code)) (iv_nd (some prog_16_method_49_code) (some prog_17_method_59_code)))) (iv_nd (iv_nd (iv_nd (some prog_17_method_65_code) (some prog_17_method_69_code)) (iv_nd (some prog_21_method_103_code) (some code))) (iv_em 2))) (iv_em 4)))))
def iv_by (i : Nat) : ByteArray := bif Nat.ble 236 i then ⟨#[]⟩ else (iv_tl 8 iv_byT i).getD ⟨#[]⟩
set_option maxRecDepth 20000 in
def iv_code3 : iv_Tr Jvm.ClassFile.Instr 11 := (iv_nd (iv_nd (iv_nd (iv_nd (iv_nd (iv_nd (iv_nd (iv_nd (iv_nd (iv_nd (iv_nd (some (.aload_n 0)) (some (.invokespecial 3))) (iv_em 1)) (iv_nd (iv_nd (some (.aload_n 0)) (some (.bipush 9))) (iv_nd (iv_em 0) (some (.newarray .int))))) (iv_nd (iv_nd (iv_nd (iv_em 0) (some (.putfield 9))) (iv_em 1)) (iv_nd (iv_nd (some (.return_)) (iv_em 0)) (iv_em 1)))) (iv_em 4)) (iv_em 5)) (iv_em 6)) (iv_em 7)) (iv_em 8)) (iv_em 9)) (iv_em 10))
set_option maxRecDepth 20000 in
def iv_code4 : iv_Tr Jvm.ClassFile.Instr 11 := (iv_nd (iv_nd (iv_nd (iv_nd (iv_nd (iv_nd (iv_nd (iv_nd (iv_nd (iv_nd (iv_nd (some (.aload_n 0)) (some (.getfield 9))) (iv_em 1)) (iv_nd (iv_nd (some (.iconst 0)) (some (.invokestatic 15))) (iv_em 1))) (iv_nd (iv_nd (iv_nd (some (.aload_n 0)) (some (.iconst 0))) (iv_nd (some (.putfield 21)) (iv_em 0))) (iv_nd (iv_nd (iv_em 0) (some (.aload_n 0))) (iv_nd (some (.iconst 0)) (some (.putfield 25)))))) (iv_nd (iv_nd (iv_nd (iv_em 1) (iv_nd (some (.aload_n 1)) (some (.getfield 28)))) (iv_nd (iv_em 1) (iv_nd (some (.ifCond .le 7)) (iv_em 0)))) (iv_nd (iv_nd (iv_nd (iv_em 0) (some (.iconst 1))) (iv_nd (some (.goto 4)) (iv_em 0))) (iv_nd (iv_nd (iv_em 0) (some (.iconst 0))) (iv_nd (some (.istore_n 2)) (some (.iconst 0))))))) (iv_nd (iv_nd (iv_nd (iv_nd (iv_nd (some (.istore_n 3)) (some (.iload_n 3))) (iv_nd (some (.sipush 200)) (iv_em 0))) (iv_nd (iv_nd (iv_em 0) (some (.if_icmp .ge 92))) (iv_em 1))) (iv_nd (iv_nd (iv_nd (some (.iload_n 2)) (some (.ifCond .eq 88))) (iv_em 1)) (iv_nd (iv_nd (some (.aload_n 0)) (some (.aload_n 1))) (iv_nd (some (.invokevirtual 33)) (iv_em 0))))) (iv_nd (iv_nd (iv_nd (iv_nd (iv_em 0) (some (.istore 4))) (iv_nd (iv_em 0) (some (.iload 4)))) (iv_nd (iv_nd (iv_em 0) (some (.ifCond .eq 14))) (iv_em 1))) (iv_nd (iv_nd (iv_nd (some (.bipush 8)) (iv_em 0)) (iv_nd (some (.aload_n 0)) (some (.getfield 25)))) (iv_nd (iv_em 1) (iv_nd (some (.imul)) (some (.iload 4)))))))) (iv_nd (iv_nd (iv_nd (iv_nd (iv_nd (iv_nd (iv_em 0) (some (.iadd))) (iv_nd (some (.ireturn)) (some (.aload_n 1)))) (iv_nd (iv_nd (some (.aload_n 0)) (some (.getfield 25))) (iv_em 1))) (iv_nd (iv_nd (iv_nd (some (.invokevirtual 37)) (iv_em 0)) (iv_nd (iv_em 0) (some (.istore 5)))) (iv_nd (iv_nd (iv_em 0) (some (.iload 5))) (iv_nd (iv_em 0) (some (.bipush 44)))))) (iv_nd (iv_nd (iv_nd (iv_nd (iv_em 0) (some (.if_icmp .eq 19))) (iv_em 1)) (iv_nd (iv_nd (some (.iload 5)) (iv_em 0)) (iv_nd (some (.iconst (-1))) (some (.if_icmp .eq 13))))) (iv_nd (iv_nd (iv_em 1) (iv_nd (some (.bipush 8)) (iv_em 0))) (iv_nd (iv_nd (some (.aload_n 0)) (some (.getfield 25))) (iv_em 1))))) (iv_nd (iv_nd (iv_nd (iv_nd (iv_nd (some (.imul)) (some (.iconst 1))) (iv_nd (some (.iadd)) (some (.ireturn)))) (iv_nd (iv_nd (some (.iload 5)) (iv_em 0)) (iv_nd (some (.bipush 44)) (iv_em 0)))) (iv_nd (iv_nd (iv_nd (some (.if_icmp .ne 7)) (iv_em 0)) (iv_nd (iv_em 0) (some (.iconst 1)))) (iv_nd (iv_nd (some (.goto 4)) (iv_em 0)) (iv_nd (iv_em 0) (some (.iconst 0)))))) (iv_nd (iv_nd (iv_nd (iv_nd (some (.istore_n 2)) (some (.aload_n 0))) (iv_nd (some (.dup)) (some (.getfield 25)))) (iv_nd (iv_em 1) (iv_nd (some (.iconst 1)) (some (.iadd))))) (iv_nd (iv_nd (iv_nd (some (.putfield 25)) (iv_em 0)) (iv_nd (iv_em 0) (some (.iinc 3 1)))) (iv_nd (iv_em 1) (iv_nd (some (.goto (-93))) (iv_em 0)))))))) (iv_nd (iv_nd (iv_nd (iv_nd (iv_nd (iv_nd (iv_nd (iv_em 0) (some (.iconst (-1)))) (iv_nd (some (.ireturn)) (iv_em 0))) (iv_em 2)) (iv_em 3)) (iv_em 4)) (iv_em 5)) (iv_em 6))) (iv_em 8)) (iv_em 9)) (iv_em 10))
set_option maxRecDepth 20000 in
def iv_code9 : iv_Tr Jvm.ClassFile.Instr 11 := (iv_nd (iv_nd (iv_nd (iv_nd (iv_nd (iv_nd (iv_nd (iv_nd (iv_nd (iv_nd (iv_nd (some (.aload_n 0)) (some (.invokespecial 3))) (iv_em 1)) (iv_nd (iv_nd (some (.aload_n 0)) (some (.iconst 4))) (iv_nd (some (.newarray .int)) (iv_em 0)))) (iv_nd (iv_nd (iv_nd (some (.putfield 9)) (iv_em 0)) (iv_nd (iv_em 0) (some (.aload_n 0)))) (iv_nd (iv_nd (some (.bipush 8)) (iv_em 0)) (iv_nd (some (.newarray .int)) (iv_em 0))))) (iv_nd (iv_nd (iv_nd (iv_nd (some (.putfield 15)) (iv_em 0)) (iv_nd (iv_em 0) (some (.aload_n 0)))) (iv_nd (iv_nd (some (.bipush 32)) (iv_em 0)) (iv_nd (some (.newarray .int)) (iv_em 0)))) (iv_nd (iv_nd (iv_nd (some (.putfield 18)) (iv_em 0)) (iv_nd (iv_em 0) (some (.aload_n 0)))) (iv_nd (iv_nd (some (.iconst 4)) (some (.newarray .int))) (iv_nd (iv_em 0) (some (.putfield 21))))))) (iv_nd (iv_nd (iv_nd (iv_nd (iv_em 1) (iv_nd (some (.aload_n 0)) (some (.iconst 4)))) (iv_nd (iv_nd (some (.newarray .int)) (iv_em 0)) (iv_nd (some (.putfield 24)) (iv_em 0)))) (iv_nd (iv_nd (iv_nd (iv_em 0) (some (.aload_n 0))) (iv_nd (some (.bipush 8)) (iv_em 0))) (iv_nd (iv_nd (some (.newarray .int)) (iv_em 0)) (iv_nd (some (.putfield 27)) (iv_em 0))))) (iv_nd (iv_nd (iv_nd (iv_nd (iv_em 0) (some (.return_))) (iv_em 1)) (iv_em 2)) (iv_em 3)))) (iv_em 6)) (iv_em 7)) (iv_em 8)) (iv_em 9)) (iv_em 10))
set_option maxRecDepth 20000 in
def iv_code18 : iv_Tr Jvm.ClassFile.Instr 11 := (iv_nd (iv_nd (iv_nd (iv_nd (iv_nd (iv_nd (iv_nd (iv_nd (iv_nd (iv_nd (iv_nd (some (.aload_n 0)) (some (.invokespecial 3))) (iv_em 1)) (iv_nd (iv_nd (some (.aload_n 0)) (some (.bipush 8))) (iv_nd (iv_em 0) (some (.newarray .int))))) (iv_nd (iv_nd (iv_nd (iv_em 0) (some (.putfield 9))) (iv_em 1)) (iv_nd (iv_nd (some (.aload_n 0)) (some (.bipush 96))) (iv_nd (iv_em 0) (some (.newarray .int)))))) (iv_nd (iv_nd (iv_nd (iv_nd (iv_em 0) (some (.putfield 15))) (iv_em 1)) (iv_nd (iv_nd (some (.aload_n 0)) (some (.new 18))) (iv_em 1))) (iv_nd (iv_nd (iv_nd (some (.dup)) (some (.invokespecial 20))) (iv_em 1)) (iv_nd (iv_nd (some (.putfield 21)) (iv_em 0)) (iv_nd (iv_em 0) (some (.aload_n 0))))))) (iv_nd (iv_nd (iv_nd (iv_nd (iv_nd (some (.new 18)) (iv_em 0)) (iv_nd (iv_em 0) (some (.dup)))) (iv_nd (iv_nd (some (.invokespecial 20)) (iv_em 0)) (iv_nd (iv_em 0) (some (.putfield 25))))) (iv_nd (iv_nd (iv_em 1) (iv_nd (some (.aload_n 0)) (some (.new 18)))) (iv_nd (iv_em 1) (iv_nd (some (.dup)) (some (.invokespecial 20)))))) (iv_nd (iv_nd (iv_nd (iv_em 1) (iv_nd (some (.putfield 28)) (iv_em 0))) (iv_nd (iv_nd (iv_em 0) (some (.aload_n 0))) (iv_nd (some (.new 18)) (iv_em 0)))) (iv_nd (iv_nd (iv_nd (iv_em 0) (some (.dup))) (iv_nd (some (.invokespecial 20)) (iv_em 0))) (iv_nd (iv_nd (iv_em 0) (some (.putfield 31))) (iv_em 1)))))) (iv_nd (iv_nd (iv_nd (iv_nd (iv_nd (iv_nd (some (.aload_n 0)) (some (.new 18))) (iv_em 1)) (iv_nd (iv_nd (some (.dup)) (some (.invokespecial 20))) (iv_em 1))) (iv_nd (iv_nd (iv_nd (some (.putfield 34)) (iv_em 0)) (iv_nd (iv_em 0) (some (.aload_n 0)))) (iv_nd (iv_nd (some (.iload_n 1)) (some (.putfield 37))) (iv_em 1)))) (iv_nd (iv_nd (iv_nd (iv_nd (some (.aload_n 0)) (some (.aload_n 2))) (iv_nd (some (.putfield 41)) (iv_em 0))) (iv_nd (iv_nd (iv_em 0) (some (.aload_n 0))) (iv_nd (some (.aload_n 3)) (some (.putfield 45))))) (iv_nd (iv_nd (iv_em 1) (iv_nd (some (.return_)) (iv_em 0))) (iv_em 2)))) (iv_em 5))) (iv_em 7)) (iv_em 8)) (iv_em 9)) (iv_em 10))
set_option maxRecDepth 20000 in
def iv_code20 : iv_Tr Jvm.ClassFile.Instr 11 := (iv_nd (iv_nd (iv_nd (iv_nd (iv_nd (iv_nd (iv_nd (iv_nd (iv_nd (iv_nd (iv_nd (some (.aload_n 0)) (some (.iconst 1))) (iv_nd (some (.invokevirtual 52)) (iv_em 0))) (iv_nd (iv_nd (iv_em 0) (some (.ifCond .eq 7))) (iv_em 1))) (iv_nd (iv_nd (iv_nd (some (.aload_n 0)) (some (.invokevirtual 82))) (iv_em 1)) (iv_nd (iv_nd (some (.return_)) (iv_em 0)) (iv_em 1)))) (iv_em 4)) (iv_em 5)) (iv_em 6)) (iv_em 7)) (iv_em 8)) (iv_em 9)) (iv_em 10))
set_option maxRecDepth 20000 in
def iv_code21 : iv_Tr Jvm.ClassFile.Instr 11 := (iv_nd (iv_nd (iv_nd (iv_nd (iv_nd (iv_nd (iv_nd (iv_nd (iv_nd (iv_nd (iv_nd (some (.aload_n 0)) (some (.getfield 85))) (iv_em 1)) (iv_nd (iv_nd (some (.iload_n 1)) (some (.iand))) (iv_nd (some (.ifCond .eq 7)) (iv_em 0)))) (iv_nd (iv_nd (iv_nd (iv_em 0) (some (.iconst 1))) (iv_nd (some (.goto 4)) (iv_em 0))) (iv_nd (iv_nd (iv_em 0) (some (.iconst 0))) (iv_nd (some (.istore_n 2)) (some (.aload_n 0)))))) (iv_nd (iv_nd (iv_nd (iv_nd (some (.aload_n 0)) (some (.getfield 85))) (iv_em 1)) (iv_nd (iv_nd (some (.iload_n 1)) (some (.ior))) (iv_nd (some (.putfield 85)) (iv_em 0)))) (iv_nd (iv_nd (iv_nd (iv_em 0) (some (.iload_n 2))) (iv_nd (some (.ifCond .ne 7)) (iv_em 0))) (iv_nd (iv_nd (iv_em 0) (some (.iconst 1))) (iv_nd (some (.goto 4)) (iv_em 0)))))) (iv_nd (iv_nd (iv_nd (iv_nd (iv_nd (iv_em 0) (some (.iconst 0))) (iv_nd (some (.ireturn)) (iv_em 0))) (iv_em 2)) (iv_em 3)) (iv_em 4))) (iv_em 6)) (iv_em 7)) (iv_em 8)) (iv_em 9)) (iv_em 10))
set_option maxRecDepth 20000 in
def iv_code22 : iv_Tr Jvm.ClassFile.Instr 11 := (iv_nd (iv_nd (iv_nd (iv_nd (iv_nd (iv_nd (iv_nd (iv_nd (iv_nd (iv_nd (iv_nd (some (.aload_n 0)) (some (.getfield 34))) (iv_em 1)) (iv_nd (iv_nd (some (.invokevirtual 88)) (iv_em 0)) (iv_nd (iv_em 0) (some (.iconst 0))))) (iv_nd (iv_nd (iv_nd (some (.istore_n 1)) (some (.iconst 0))) (iv_nd (some (.istore_n 2)) (some (.iconst 0)))) (iv_nd (iv_nd (some (.istore_n 3)) (some (.iload_n 3))) (iv_nd (some (.bipush 8)) (iv_em 0))))) (iv_nd (iv_nd (iv_nd (iv_nd (some (.if_icmp .ge 83)) (iv_em 0)) (iv_nd (iv_em 0) (some (.aload_n 0)))) (iv_nd (iv_nd (some (.getfield 41)) (iv_em 0)) (iv_nd (iv_em 0) (some (.iconst 0))))) (iv_nd (iv_nd (iv_nd (some (.iload_n 3)) (some (.invokevirtual 91))) (iv_em 1)) (iv_nd (iv_nd (some (.istore 4)) (iv_em 0)) (iv_nd (some (.aload_n 0)) (some (.getfield 9))))))) (iv_nd (iv_nd (iv_nd (iv_nd (iv_em 1) (iv_nd (some (.iload_n 3)) (some (.iload 4)))) (iv_nd (iv_nd (iv_em 0) (some (.ifCond .le 23))) (iv_em 1))) (iv_nd (iv_nd (iv_nd (some (.aload_n 0)) (some (.getfield 41))) (iv_em 1)) (iv_nd (iv_nd (some (.getfield 95)) (iv_em 0)) (iv_nd (iv_em 0) (some (.aload_n 0)))))) (iv_nd (iv_nd (iv_nd (iv_nd (some (.getfield 37)) (iv_em 0)) (iv_nd (iv_em 0) (some (.bipush 9)))) (iv_nd (iv_nd (iv_em 0) (some (.imul))) (iv_nd (some (.iload_n 3)) (some (.iadd))))) (iv_nd (iv_nd (iv_nd (some (.iaload)) (some (.goto 4))) (iv_em 1)) (iv_nd (iv_nd (some (.iconst 0)) (some (.iastore))) (iv_nd (some (.aload_n 0)) (some (.getfield 34)))))))) (iv_nd (iv_nd (iv_nd (iv_nd (iv_nd (iv_em 1) (iv_nd (some (.iconst 0)) (some (.iload_n 3)))) (iv_nd (iv_nd (some (.aload_n 0)) (some (.getfield 9))) (iv_em 1))) (iv_nd (iv_nd (iv_nd (some (.iload_n 3)) (some (.iaload))) (iv_nd (some (.iload 4)) (iv_em 0))) (iv_nd (iv_nd (some (.invokevirtual 98)) (iv_em 0)) (iv_nd (iv_em 0) (some (.iload_n 1)))))) (iv_nd (iv_nd (iv_nd (iv_nd (some (.aload_n 0)) (some (.getfield 9))) (iv_em 1)) (iv_nd (iv_nd (some (.iload_n 3)) (some (.iaload))) (iv_nd (some (.iadd)) (some (.istore_n 1))))) (iv_nd (iv_nd (iv_nd (some (.iload_n 2)) (some (.iload 4))) (iv_nd (iv_em 0) (some (.iadd)))) (iv_nd (iv_nd (some (.istore_n 2)) (some (.iinc 3 1))) (iv_em 1))))) (iv_nd (iv_nd (iv_nd (iv_nd (iv_nd (some (.goto (-83))) (iv_em 0)) (iv_nd (iv_em 0) (some (.aload_n 0)))) (iv_nd (iv_nd (some (.aload_n 0)) (some (.getfield 41))) (iv_em 1))) (iv_nd (iv_nd (iv_nd (some (.aload_n 0)) (some (.getfield 37))) (iv_em 1)) (iv_nd (iv_nd (some (.invokevirtual 102)) (iv_em 0)) (iv_nd (iv_em 0) (some (.iload_n 1)))))) (iv_nd (iv_nd (iv_nd (iv_nd (some (.isub)) (some (.putfield 106))) (iv_em 1)) (iv_nd (iv_nd (some (.aload_n 0)) (some (.aload_n 0))) (iv_nd (some (.getfield 41)) (iv_em 0)))) (iv_nd (iv_nd (iv_nd (iv_em 0) (some (.getfield 109))) (iv_em 1)) (iv_nd (iv_nd (some (.ifCond .eq 7)) (iv_em 0)) (iv_nd (iv_em 0) (some (.iload_n 2))))))))) (iv_nd (iv_nd (iv_nd (iv_nd (iv_nd (iv_nd (iv_nd (some (.ifCond .ne 10)) (iv_em 0)) (iv_nd (iv_em 0) (some (.aload_n 0)))) (iv_nd (iv_nd (some (.getfield 106)) (iv_em 0)) (iv_nd (iv_em 0) (some (.goto 4))))) (iv_nd (iv_nd (iv_em 1) (iv_nd (some (.iconst 0)) (some (.putfield 111)))) (iv_nd (iv_em 1) (iv_nd (some (.aload_n 0)) (some (.getfield 34)))))) (iv_nd (iv_nd (iv_nd (iv_em 1) (iv_nd (some (.getfield 114)) (iv_em 0))) (iv_nd (iv_nd (iv_em 0) (some (.iconst 0))) (iv_nd (some (.aload_n 0)) (some (.getfield 106))))) (iv_nd (iv_nd (iv_em 1) (iv_nd (some (.aload_n 0)) (some (.getfield 111)))) (iv_nd (iv_em 1) (iv_nd (some (.isub)) (some (.iastore))))))) (iv_nd (iv_nd (iv_nd (iv_nd (iv_nd (some (.aload_n 0)) (some (.getfield 34))) (iv_em 1)) (iv_nd (iv_nd (some (.invokevirtual 117)) (iv_em 0)) (iv_nd (iv_em 0) (some (.aload_n 0))))) (iv_nd (iv_nd (iv_nd (some (.getfield 34)) (iv_em 0)) (iv_nd (iv_em 0) (some (.invokevirtual 120)))) (iv_nd (iv_em 1) (iv_nd (some (.iconst 0)) (some (.istore_n 3)))))) (iv_nd (iv_nd (iv_nd (iv_nd (some (.iload_n 3)) (some (.bipush 8))) (iv_nd (iv_em 0) (some (.if_icmp .ge 27)))) (iv_nd (iv_em 1) (iv_nd (some (.aload_n 0)) (some (.getfield 9))))) (iv_nd (iv_nd (iv_em 1) (iv_nd (some (.iload_n 3)) (some (.dup2)))) (iv_nd (iv_nd (some (.iaload)) (some (.aload_n 0))) (iv_nd (some (.getfield 34)) (iv_em 0))))))) (iv_nd (iv_nd (iv_nd (iv_nd (iv_nd (iv_nd (iv_em 0) (some (.getfield 123))) (iv_em 1)) (iv_nd (iv_nd (some (.iload_n 3)) (some (.iaload))) (iv_nd (some (.iadd)) (some (.iastore))))) (iv_nd (iv_nd (iv_nd (some (.iinc 3 1)) (iv_em 0)) (iv_nd (iv_em 0) (some (.goto (-27))))) (iv_nd (iv_em 1) (iv_nd (some (.return_)) (iv_em 0))))) (iv_em 4)) (iv_em 5)))) (iv_em 8)) (iv_em 9)) (iv_em 10))
set_option maxRecDepth 20000 in
def iv_code30 : iv_Tr Jvm.ClassFile.Instr 11 := (iv_nd (iv_nd (iv_nd (iv_nd (iv_nd (iv_nd (iv_nd (iv_nd (iv_nd (iv_nd (iv_nd (some (.aload_n 0)) (some (.invokespecial 3))) (iv_em 1)) (iv_nd (iv_nd (some (.aload_n 0)) (some (.bipush 8))) (iv_nd (iv_em 0) (some (.anewarray 9))))) (iv_nd (iv_nd (iv_em 1) (iv_nd (some (.putfield 11)) (iv_em 0))) (iv_nd (iv_nd (iv_em 0) (some (.iconst 0))) (iv_nd (some (.istore_n 1)) (some (.iload_n 1)))))) (iv_nd (iv_nd (iv_nd (iv_nd (some (.bipush 8)) (iv_em 0)) (iv_nd (some (.if_icmp .ge 22)) (iv_em 0))) (iv_nd (iv_nd (iv_em 0) (some (.aload_n 0))) (iv_nd (some (.getfield 11)) (iv_em 0)))) (iv_nd (iv_nd (iv_nd (iv_em 0) (some (.iload_n 1))) (iv_nd (some (.new 9)) (iv_em 0))) (iv_nd (iv_nd (iv_em 0) (some (.dup))) (iv_nd (some (.invokespecial 17)) (iv_em 0)))))) (iv_nd (iv_nd (iv_nd (iv_nd (iv_nd (iv_em 0) (some (.aastore))) (iv_nd (some (.iinc 1 1)) (iv_em 0))) (iv_nd (iv_nd (iv_em 0) (some (.goto (-22)))) (iv_em 1))) (iv_nd (iv_nd (iv_nd (some (.return_)) (iv_em 0)) (iv_em 1)) (iv_em 2))) (iv_em 4))) (iv_em 6)) (iv_em 7)) (iv_em 8)) (iv_em 9)) (iv_em 10))
set_option maxRecDepth 20000 in
def iv_code31 : iv_Tr Jvm.ClassFile.Instr 11 := (iv_nd (iv_nd (iv_nd (iv_nd (iv_nd (iv_nd (iv_nd (iv_nd (iv_nd (iv_nd (iv_nd (some (.aload_n 0)) (some (.getfield 11))) (iv_em 1)) (iv_nd (iv_nd (some (.aload_n 0)) (some (.getfield 18))) (iv_em 1))) (iv_nd (iv_nd (iv_nd (some (.aaload)) (some (.aload_n 1))) (iv_nd (some (.invokevirtual 22)) (iv_em 0))) (iv_nd (iv_nd (iv_em 0) (some (.aload_n 0))) (iv_nd (some (.aload_n 0)) (some (.getfield 18)))))) (iv_nd (iv_nd (iv_nd (iv_em 1) (iv_nd (some (.iconst 1)) (some (.iadd)))) (iv_nd (iv_nd (some (.bipush 8)) (iv_em 0)) (iv_nd (some (.irem)) (some (.putfield 18))))) (iv_nd (iv_nd (iv_em 1) (iv_nd (some (.aload_n 0)) (some (.bipush 8)))) (iv_nd (iv_nd (iv_em 0) (some (.aload_n 0))) (iv_nd (some (.getfield 26)) (iv_em 0)))))) (iv_nd (iv_nd (iv_nd (iv_nd (iv_nd (iv_em 0) (some (.iconst 1))) (iv_nd (some (.iadd)) (some (.invokestatic 29)))) (iv_nd (iv_em 1) (iv_nd (some (.putfield 26)) (iv_em 0)))) (iv_nd (iv_nd (iv_nd (iv_em 0) (some (.return_))) (iv_em 1)) (iv_em 2))) (iv_em 4))) (iv_em 6)) (iv_em 7)) (iv_em 8)) (iv_em 9)) (iv_em 10))
set_option maxRecDepth 20000 in
def iv_code33 : iv_Tr Jvm.ClassFile.Instr 11 := (iv_nd (iv_nd (iv_nd (iv_nd (iv_nd (iv_nd (iv_nd (iv_nd (iv_nd (iv_nd (iv_nd (some (.aload_n 0)) (some (.invokespecial 3))) (iv_em 1)) (iv_nd (iv_nd (some (.aload_n 0)) (some (.bipush 96))) (iv_nd (iv_em 0) (some (.newarray .int))))) (iv_nd (iv_nd (iv_nd (iv_em 0) (some (.putfield 9))) (iv_em 1)) (iv_nd (iv_nd (some (.return_)) (iv_em 0)) (iv_em 1)))) (iv_em 4)) (iv_em 5)) (iv_em 6)) (iv_em 7)) (iv_em 8)) (iv_em 9)) (iv_em 10))
set_option maxRecDepth 20000 in
def iv_code34 : iv_Tr Jvm.ClassFile.Instr 11 := (iv_nd (iv_nd (iv_nd (iv_nd (iv_nd (iv_nd (iv_nd (iv_nd (iv_nd (iv_nd (iv_nd (some (.aload_n 0)) (some (.iload_n 2))) (iv_nd (some (.ifCond .eq 7)) (iv_em 0))) (iv_nd (iv_nd (iv_em 0) (some (.iconst 1))) (iv_nd (some (.goto 4)) (iv_em 0)))) (iv_nd (iv_nd (iv_nd (iv_em 0) (some (.iconst 0))) (iv_nd (some (.putfield 15)) (iv_em 0))) (iv_nd (iv_nd (iv_em 0) (some (.aload_n 0))) (iv_nd (some (.aload_n 0)) (some (.getfield 15)))))) (iv_nd (iv_nd (iv_nd (iv_em 1) (iv_nd (some (.putfield 19)) (iv_em 0))) (iv_nd (iv_nd (iv_em 0) (some (.aload_n 0))) (iv_nd (some (.aload_n 0)) (some (.getfield 15))))) (iv_nd (iv_nd (iv_em 1) (iv_nd (some (.ifCond .eq 10)) (iv_em 0))) (iv_nd (iv_nd (iv_em 0) (some (.aload_n 3))) (iv_nd (some (.getfield 22)) (iv_em 0)))))) (iv_nd (iv_nd (iv_nd (iv_nd (iv_nd (iv_em 0) (some (.goto 5))) (iv_em 1)) (iv_nd (iv_nd (some (.bipush 12)) (iv_em 0)) (iv_nd (some (.putfield 28)) (iv_em 0)))) (iv_nd (iv_nd (iv_nd (iv_em 0) (some (.aload_n 0))) (iv_nd (some (.aload_n 0)) (some (.getfield 15)))) (iv_nd (iv_em 1) (iv_nd (some (.ifCond .eq 10)) (iv_em 0))))) (iv_nd (iv_nd (iv_nd (iv_nd (iv_em 0) (some (.aload_n 3))) (iv_nd (some (.getfield 29)) (iv_em 0))) (iv_nd (iv_nd (iv_em 0) (some (.goto 5))) (iv_em 1))) (iv_nd (iv_nd (iv_nd (some (.bipush 8)) (iv_em 0)) (iv_nd (some (.putfield 32)) (iv_em 0))) (iv_nd (iv_nd (iv_em 0) (some (.aload_n 0))) (iv_nd (some (.iconst 0)) (some (.putfield 35)))))))) (iv_nd (iv_nd (iv_nd (iv_nd (iv_nd (iv_em 1) (iv_nd (some (.aload_n 0)) (some (.iconst 0)))) (iv_nd (iv_nd (some (.putfield 36)) (iv_em 0)) (iv_nd (iv_em 0) (some (.iconst 0))))) (iv_nd (iv_nd (iv_nd (some (.istore 4)) (iv_em 0)) (iv_nd (some (.iload 4)) (iv_em 0))) (iv_nd (iv_nd (some (.aload_n 1)) (some (.getfield 39))) (iv_em 1)))) (iv_nd (iv_nd (iv_nd (iv_nd (some (.if_icmp .gt 79)) (iv_em 0)) (iv_nd (iv_em 0) (some (.aload_n 1)))) (iv_nd (iv_nd (some (.iload 4)) (iv_em 0)) (iv_nd (some (.invokevirtual 44)) (iv_em 0)))) (iv_nd (iv_nd (iv_nd (iv_em 0) (some (.istore 5))) (iv_nd (iv_em 0) (some (.iload 5)))) (iv_nd (iv_nd (iv_em 0) (some (.iload_n 2))) (iv_nd (some (.invokestatic 48)) (iv_em 0)))))) (iv_nd (iv_nd (iv_nd (iv_nd (iv_nd (iv_em 0) (some (.istore 6))) (iv_nd (iv_em 0) (some (.iload 6)))) (iv_nd (iv_nd (iv_em 0) (some (.iconst (-1)))) (iv_nd (some (.if_icmp .ne 12)) (iv_em 0)))) (iv_nd (iv_nd (iv_nd (iv_em 0) (some (.aload_n 0))) (iv_nd (some (.iload 5)) (iv_em 0))) (iv_nd (iv_nd (some (.invokevirtual 52)) (iv_em 0)) (iv_nd (iv_em 0) (some (.goto 7)))))) (iv_nd (iv_nd (iv_nd (iv_em 1) (iv_nd (some (.aload_n 0)) (some (.invokevirtual 55)))) (iv_nd (iv_em 1) (iv_nd (some (.istore 7)) (iv_em 0)))) (iv_nd (iv_nd (iv_nd (some (.iload 7)) (iv_em 0)) (iv_nd (some (.ifCond .eq 12)) (iv_em 0))) (iv_nd (iv_nd (iv_em 0) (some (.bipush 8))) (iv_nd (iv_em 0) (some (.iload 4))))))))) (iv_nd (iv_nd (iv_nd (iv_nd (iv_nd (iv_nd (iv_nd (iv_em 0) (some (.imul))) (iv_nd (some (.iload 7)) (iv_em 0))) (iv_nd (iv_nd (some (.iadd)) (some (.ireturn))) (iv_nd (some (.iload 6)) (iv_em 0)))) (iv_nd (iv_nd (iv_nd (some (.iconst (-1))) (some (.if_icmp .ne 10))) (iv_em 1)) (iv_nd (iv_nd (some (.aload_n 0)) (some (.invokevirtual 59))) (iv_em 1)))) (iv_nd (iv_nd (iv_nd (iv_nd (some (.goto 9)) (iv_em 0)) (iv_nd (iv_em 0) (some (.aload_n 0)))) (iv_nd (iv_nd (some (.iload 6)) (iv_em 0)) (iv_nd (some (.invokevirtual 62)) (iv_em 0)))) (iv_nd (iv_nd (iv_nd (iv_em 0) (some (.iinc 4 1))) (iv_em 1)) (iv_nd (iv_nd (some (.goto (-82))) (iv_em 0)) (iv_nd (iv_em 0) (some (.iconst (-1)))))))) (iv_nd (iv_nd (iv_nd (iv_nd (iv_nd (some (.ireturn)) (iv_em 0)) (iv_em 1)) (iv_em 2)) (iv_em 3)) (iv_em 4))) (iv_em 6))) (iv_em 8)) (iv_em 9)) (iv_em 10))
set_option maxRecDepth 20000 in
def iv_code35 : iv_Tr Jvm.ClassFile.Instr 11 := (iv_nd (iv_nd (iv_nd (iv_nd (iv_nd (iv_nd (iv_nd (iv_nd (iv_nd (iv_nd (iv_nd (some (.iload_n 1)) (some (.iconst 2))) (iv_nd (some (.if_icmp .ne 24)) (iv_em 0))) (iv_nd (iv_nd (iv_em 0) (some (.iload_n 0))) (iv_nd (some (.bipush 48)) (iv_em 0)))) (iv_nd (iv_nd (iv_nd (some (.if_icmp .lt 16)) (iv_em 0)) (iv_nd (iv_em 0) (some (.iload_n 0)))) (iv_nd (iv_nd (some (.bipush 51)) (iv_em 0)) (iv_nd (some (.if_icmp .gt 10)) (iv_em 0))))) (iv_nd (iv_nd (iv_nd (iv_nd (iv_em 0) (some (.iload_n 0))) (iv_nd (some (.bipush 48)) (iv_em 0))) (iv_nd (iv_nd (some (.isub)) (some (.goto 4))) (iv_em 1))) (iv_nd (iv_nd (iv_nd (some (.iconst (-1))) (some (.ireturn))) (iv_nd (some (.iload_n 0)) (some (.bipush 46)))) (iv_nd (iv_nd (iv_em 0) (some (.if_icmp .ne 6))) (iv_em 1))))) (iv_nd (iv_nd (iv_nd (iv_nd (iv_nd (some (.bipush 8)) (iv_em 0)) (iv_nd (some (.ireturn)) (some (.iload_n 0)))) (iv_nd (iv_nd (some (.bipush 97)) (iv_em 0)) (iv_nd (some (.if_icmp .lt 16)) (iv_em 0)))) (iv_nd (iv_nd (iv_nd (iv_em 0) (some (.iload_n 0))) (iv_nd (some (.bipush 104)) (iv_em 0))) (iv_nd (iv_nd (some (.if_icmp .gt 10)) (iv_em 0)) (iv_nd (iv_em 0) (some (.iload_n 0)))))) (iv_nd (iv_nd (iv_nd (iv_nd (some (.bipush 97)) (iv_em 0)) (iv_nd (some (.isub)) (some (.goto 4)))) (iv_nd (iv_em 1) (iv_nd (some (.iconst (-1))) (some (.ireturn))))) (iv_em 3)))) (iv_em 6)) (iv_em 7)) (iv_em 8)) (iv_em 9)) (iv_em 10))
set_option maxRecDepth 20000 in
def iv_code37 : iv_Tr Jvm.ClassFile.Instr 11 := (iv_nd (iv_nd (iv_nd (iv_nd (iv_nd (iv_nd (iv_nd (iv_nd (iv_nd (iv_nd (iv_nd (some (.aload_n 0)) (some (.getfield 36))) (iv_em 1)) (iv_nd (iv_nd (some (.ifCond .eq 14)) (iv_em 0)) (iv_nd (iv_em 0) (some (.iload_n 1))))) (iv_nd (iv_nd (iv_nd (some (.bipush 47)) (iv_em 0)) (iv_nd (some (.if_icmp .eq 10)) (iv_em 0))) (iv_nd (iv_nd (iv_em 0) (some (.iload_n 1))) (iv_nd (some (.iconst (-1))) (some (.if_icmp .eq 5)))))) (iv_nd (iv_nd (iv_nd (iv_em 1) (iv_nd (some (.iconst 1)) (some (.ireturn)))) (iv_nd (iv_nd (some (.aload_n 0)) (some (.getfield 19))) (iv_em 1))) (iv_nd (iv_nd (iv_nd (some (.ifCond .eq 16)) (iv_em 0)) (iv_nd (iv_em 0) (some (.aload_n 0)))) (iv_nd (iv_nd (some (.getfield 36)) (iv_em 0)) (iv_nd (iv_em 0) (some (.aload_n 0))))))) (iv_nd (iv_nd (iv_nd (iv_nd (iv_nd (some (.getfield 28)) (iv_em 0)) (iv_nd (iv_em 0) (some (.if_icmp .ge 5)))) (iv_nd (iv_em 1) (iv_nd (some (.iconst 2)) (some (.ireturn))))) (iv_nd (iv_nd (iv_nd (some (.iload_n 1)) (some (.bipush 47))) (iv_nd (iv_em 0) (some (.if_icmp .ne 22)))) (iv_nd (iv_em 1) (iv_nd (some (.aload_n 0)) (some (.getfield 35)))))) (iv_nd (iv_nd (iv_nd (iv_em 1) (iv_nd (some (.iconst 1)) (some (.iadd)))) (iv_nd (iv_nd (some (.aload_n 0)) (some (.getfield 32))) (iv_em 1))) (iv_nd (iv_nd (iv_nd (some (.if_icmp .lt 7)) (iv_em 0)) (iv_nd (iv_em 0) (some (.iconst 3)))) (iv_nd (iv_nd (some (.goto 4)) (iv_em 0)) (iv_nd (iv_em 0) (some (.iconst 0)))))))) (iv_nd (iv_nd (iv_nd (iv_nd (iv_nd (iv_nd (some (.ireturn)) (some (.aload_n 0))) (iv_nd (some (.getfield 15)) (iv_em 0))) (iv_nd (iv_nd (iv_em 0) (some (.ifCond .eq 20))) (iv_em 1))) (iv_nd (iv_nd (iv_nd (some (.aload_n 0)) (some (.getfield 35))) (iv_em 1)) (iv_nd (iv_nd (some (.iconst 1)) (some (.iadd))) (iv_nd (some (.aload_n 0)) (some (.getfield 32)))))) (iv_nd (iv_nd (iv_nd (iv_em 1) (iv_nd (some (.if_icmp .ge 7)) (iv_em 0))) (iv_nd (iv_nd (iv_em 0) (some (.iconst 4))) (iv_nd (some (.goto 4)) (iv_em 0)))) (iv_nd (iv_nd (iv_nd (iv_em 0) (some (.iconst 0))) (iv_nd (some (.ireturn)) (iv_em 0))) (iv_em 2)))) (iv_em 5))) (iv_em 7)) (iv_em 8)) (iv_em 9)) (iv_em 10))
set_option maxRecDepth 20000 in
def iv_code40 : iv_Tr Jvm.ClassFile.Instr 11 := (iv_nd (iv_nd (iv_nd (iv_nd (iv_nd (iv_nd (iv_nd (iv_nd (iv_nd (iv_nd (iv_nd (some (.aload_n 0)) (some (.invokespecial 5))) (iv_em 1)) (iv_nd (iv_nd (some (.aload_n 0)) (some (.bipush 72))) (iv_nd (iv_em 0) (some (.newarray .int))))) (iv_nd (iv_nd (iv_nd (iv_em 0) (some (.putfield 11))) (iv_em 1)) (iv_nd (iv_nd (some (.aload_n 0)) (some (.bipush 72))) (iv_nd (iv_em 0) (some (.newarray .int)))))) (iv_nd (iv_nd (iv_nd (iv_nd (iv_em 0) (some (.putfield 15))) (iv_em 1)) (iv_nd (iv_nd (some (.aload_n 0)) (some (.bipush 9))) (iv_nd (iv_em 0) (some (.newarray .int))))) (iv_nd (iv_nd (iv_nd (iv_em 0) (some (.putfield 18))) (iv_em 1)) (iv_nd (iv_nd (some (.aload_n 0)) (some (.bipush 9))) (iv_nd (iv_em 0) (some (.newarray .int))))))) (iv_nd (iv_nd (iv_nd (iv_nd (iv_nd (iv_em 0) (some (.putfield 21))) (iv_em 1)) (iv_nd (iv_nd (some (.aload_n 0)) (some (.bipush 9))) (iv_nd (iv_em 0) (some (.newarray .int))))) (iv_nd (iv_nd (iv_nd (iv_em 0) (some (.putfield 24))) (iv_em 1)) (iv_nd (iv_nd (some (.aload_n 0)) (some (.bipush 18))) (iv_nd (iv_em 0) (some (.newarray .int)))))) (iv_nd (iv_nd (iv_nd (iv_nd (iv_em 0) (some (.putfield 27))) (iv_em 1)) (iv_nd (iv_nd (some (.aload_n 0)) (some (.bipush 18))) (iv_nd (iv_em 0) (some (.newarray .int))))) (iv_nd (iv_nd (iv_nd (iv_em 0) (some (.putfield 30))) (iv_em 1)) (iv_nd (iv_nd (some (.return_)) (iv_em 0)) (iv_em 1)))))) (iv_em 6)) (iv_em 7)) (iv_em 8)) (iv_em 9)) (iv_em 10))
set_option maxRecDepth 20000 in
def iv_code53 : iv_Tr Jvm.ClassFile.Instr 11 := (iv_nd (iv_nd (iv_nd (iv_nd (iv_nd (iv_nd (iv_nd (iv_nd (iv_nd (iv_nd (iv_nd (some (.aload_n 0)) (some (.invokespecial 3))) (iv_em 1)) (iv_nd (iv_nd (some (.aload_n 0)) (some (.sipush 288))) (iv_em 1))) (iv_nd (iv_nd (iv_nd (some (.newarray .int)) (iv_em 0)) (iv_nd (some (.putfield 9)) (iv_em 0))) (iv_nd (iv_nd (iv_em 0) (some (.aload_n 0))) (iv_nd (some (.bipush 27)) (iv_em 0))))) (iv_nd (iv_nd (iv_nd (iv_nd (some (.newarray .int)) (iv_em 0)) (iv_nd (some (.putfield 15)) (iv_em 0))) (iv_nd (iv_nd (iv_em 0) (some (.aload_n 0))) (iv_nd (some (.bipush 12)) (iv_em 0)))) (iv_nd (iv_nd (iv_nd (some (.newarray .int)) (iv_em 0)) (iv_nd (some (.putfield 18)) (iv_em 0))) (iv_nd (iv_nd (iv_em 0) (some (.aload_n 0))) (iv_nd (some (.bipush 8)) (iv_em 0)))))) (iv_nd (iv_nd (iv_nd (iv_nd (iv_nd (some (.newarray .int)) (iv_em 0)) (iv_nd (some (.putfield 21)) (iv_em 0))) (iv_nd (iv_nd (iv_em 0) (some (.aload_n 0))) (iv_nd (some (.getfield 18)) (iv_em 0)))) (iv_nd (iv_nd (iv_nd (iv_em 0) (some (.iconst 1))) (iv_nd (some (.invokestatic 24)) (iv_em 0))) (iv_nd (iv_nd (iv_em 0) (some (.return_))) (iv_em 1)))) (iv_em 4))) (iv_em 6)) (iv_em 7)) (iv_em 8)) (iv_em 9)) (iv_em 10))
set_option maxRecDepth 20000 in
def iv_code54 : iv_Tr Jvm.ClassFile.Instr 11 := (iv_nd (iv_nd (iv_nd (iv_nd (iv_nd (iv_nd (iv_nd (iv_nd (iv_nd (iv_nd (iv_nd (some (.aload_n 1)) (some (.getfield 9))) (iv_em 1)) (iv_nd (iv_nd (some (.iconst 0)) (some (.aload_n 0))) (iv_nd (some (.getfield 9)) (iv_em 0)))) (iv_nd (iv_nd (iv_nd (iv_em 0) (some (.iconst 0))) (iv_nd (some (.sipush 288)) (iv_em 0))) (iv_nd (iv_nd (iv_em 0) (some (.invokestatic 30))) (iv_em 1)))) (iv_nd (iv_nd (iv_nd (iv_nd (some (.aload_n 1)) (some (.getfield 15))) (iv_em 1)) (iv_nd (iv_nd (some (.iconst 0)) (some (.aload_n 0))) (iv_nd (some (.getfield 15)) (iv_em 0)))) (iv_nd (iv_nd (iv_nd (iv_em 0) (some (.iconst 0))) (iv_nd (some (.bipush 27)) (iv_em 0))) (iv_nd (iv_nd (some (.invokestatic 30)) (iv_em 0)) (iv_nd (iv_em 0) (some (.aload_n 1))))))) (iv_nd (iv_nd (iv_nd (iv_nd (iv_nd (some (.getfield 18)) (iv_em 0)) (iv_nd (iv_em 0) (some (.iconst 0)))) (iv_nd (iv_nd (some (.aload_n 0)) (some (.getfield 18))) (iv_em 1))) (iv_nd (iv_nd (iv_nd (some (.iconst 0)) (some (.bipush 12))) (iv_nd (iv_em 0) (some (.invokestatic 30)))) (iv_nd (iv_em 1) (iv_nd (some (.aload_n 1)) (some (.getfield 21)))))) (iv_nd (iv_nd (iv_nd (iv_em 1) (iv_nd (some (.iconst 0)) (some (.aload_n 0)))) (iv_nd (iv_nd (some (.getfield 21)) (iv_em 0)) (iv_nd (iv_em 0) (some (.iconst 0))))) (iv_nd (iv_nd (iv_nd (some (.bipush 8)) (iv_em 0)) (iv_nd (some (.invokestatic 30)) (iv_em 0))) (iv_nd (iv_nd (iv_em 0) (some (.aload_n 0))) (iv_nd (some (.aload_n 1)) (some (.getfield 36)))))))) (iv_nd (iv_nd (iv_nd (iv_nd (iv_nd (iv_em 1) (iv_nd (some (.putfield 36)) (iv_em 0))) (iv_nd (iv_nd (iv_em 0) (some (.aload_n 0))) (iv_nd (some (.aload_n 1)) (some (.getfield 40))))) (iv_nd (iv_nd (iv_em 1) (iv_nd (some (.putfield 40)) (iv_em 0))) (iv_nd (iv_nd (iv_em 0) (some (.aload_n 0))) (iv_nd (some (.aload_n 1)) (some (.getfield 43)))))) (iv_nd (iv_nd (iv_nd (iv_em 1) (iv_nd (some (.putfield 43)) (iv_em 0))) (iv_nd (iv_nd (iv_em 0) (some (.aload_n 0))) (iv_nd (some (.aload_n 1)) (some (.getfield 46))))) (iv_nd (iv_nd (iv_em 1) (iv_nd (some (.putfield 46)) (iv_em 0))) (iv_nd (iv_nd (iv_em 0) (some (.aload_n 0))) (iv_nd (some (.aload_n 1)) (some (.getfield 49))))))) (iv_nd (iv_nd (iv_nd (iv_nd (iv_em 1) (iv_nd (some (.putfield 49)) (iv_em 0))) (iv_nd (iv_nd (iv_em 0) (some (.return_))) (iv_em 1))) (iv_em 3)) (iv_em 4)))) (iv_em 7)) (iv_em 8)) (iv_em 9)) (iv_em 10))
set_option maxRecDepth 20000 in
def iv_code56 : iv_Tr Jvm.ClassFile.Instr 11 := (iv_nd (iv_nd (iv_nd (iv_nd (iv_nd (iv_nd (iv_nd (iv_nd (iv_nd (iv_nd (iv_nd (some (.aload_n 0)) (some (.getfield 43))) (iv_em 1)) (iv_nd (iv_nd (some (.iload_n 1)) (some (.ishr))) (iv_nd (some (.iconst 1)) (some (.iand))))) (iv_nd (iv_nd (iv_nd (some (.iconst 1)) (some (.if_icmp .ne 7))) (iv_em 1)) (iv_nd (iv_nd (some (.iconst 1)) (some (.goto 4))) (iv_em 1)))) (iv_nd (iv_nd (iv_nd (iv_nd (some (.iconst 0)) (some (.ireturn))) (iv_em 1)) (iv_em 2)) (iv_em 3))) (iv_em 5)) (iv_em 6)) (iv_em 7)) (iv_em 8)) (iv_em 9)) (iv_em 10))
set_option maxRecDepth 20000 in
def iv_code57 : iv_Tr Jvm.ClassFile.Instr 11 := (iv_nd (iv_nd (iv_nd (iv_nd (iv_nd (iv_nd (iv_nd (iv_nd (iv_nd (iv_nd (iv_nd (some (.aload_n 0)) (some (.getfield 43))) (iv_em 1)) (iv_nd (iv_nd (some (.bipush 7)) (iv_em 0)) (iv_nd (some (.if_icmp .ne 7)) (iv_em 0)))) (iv_nd (iv_nd (iv_nd (iv_em 0) (some (.iconst 1))) (iv_nd (some (.goto 4)) (iv_em 0))) (iv_nd (iv_nd (iv_em 0) (some (.iconst 0))) (iv_nd (some (.ireturn)) (iv_em 0))))) (iv_em 4)) (iv_em 5)) (iv_em 6)) (iv_em 7)) (iv_em 8)) (iv_em 9)) (iv_em 10))
set_option maxRecDepth 20000 in
def iv_code58 : iv_Tr Jvm.ClassFile.Instr 11 := (iv_nd (iv_nd (iv_nd (iv_nd (iv_nd (iv_nd (iv_nd (iv_nd (iv_nd (iv_nd (iv_nd (some (.aload_n 0)) (some (.getfield 36))) (iv_em 1)) (iv_nd (iv_nd (some (.aload_n 0)) (some (.getfield 40))) (iv_em 1))) (iv_nd (iv_nd (iv_nd (some (.imul)) (some (.ireturn))) (iv_em 1)) (iv_em 2))) (iv_em 4)) (iv_em 5)) (iv_em 6)) (iv_em 7)) (iv_em 8)) (iv_em 9)) (iv_em 10))
set_option maxRecDepth 20000 in
def iv_code59 : iv_Tr Jvm.ClassFile.Instr 11 := (iv_nd (iv_nd (iv_nd (iv_nd (iv_nd (iv_nd (iv_nd (iv_nd (iv_nd (iv_nd (iv_nd (some (.iload_n 1)) (some (.ifCond .lt 27))) (iv_em 1)) (iv_nd (iv_nd (some (.iload_n 1)) (some (.aload_n 0))) (iv_nd (some (.getfield 36)) (iv_em 0)))) (iv_nd (iv_nd (iv_nd (iv_em 0) (some (.if_icmp .ge 19))) (iv_em 1)) (iv_nd (iv_nd (some (.iload_n 2)) (some (.ifCond .lt 15))) (iv_em 1)))) (iv_nd (iv_nd (iv_nd (iv_nd (some (.iload_n 2)) (some (.aload_n 0))) (iv_nd (some (.getfield 40)) (iv_em 0))) (iv_nd (iv_nd (iv_em 0) (some (.if_icmp .ge 7))) (iv_em 1))) (iv_nd (iv_nd (iv_nd (some (.iconst 1)) (some (.goto 4))) (iv_em 1)) (iv_nd (iv_nd (some (.iconst 0)) (some (.ireturn))) (iv_em 1))))) (iv_em 5)) (iv_em 6)) (iv_em 7)) (iv_em 8)) (iv_em 9)) (iv_em 10))
set_option maxRecDepth 20000 in
def iv_code62 : iv_Tr Jvm.ClassFile.Instr 11 := (iv_nd (iv_nd (iv_nd (iv_nd (iv_nd (iv_nd (iv_nd (iv_nd (iv_nd (iv_nd (iv_nd (some (.aload_n 0)) (some (.iload_n 1))) (iv_nd (some (.invokevirtual 61)) (iv_em 0))) (iv_nd (iv_nd (iv_em 0) (some (.ifCond .eq 10))) (iv_em 1))) (iv_nd (iv_nd (iv_nd (some (.aload_n 0)) (some (.invokevirtual 65))) (iv_em 1)) (iv_nd (iv_nd (some (.goto 4)) (iv_em 0)) (iv_nd (iv_em 0) (some (.iconst 0)))))) (iv_nd (iv_nd (iv_nd (iv_nd (some (.istore_n 3)) (some (.iconst 0))) (iv_nd (some (.istore 4)) (iv_em 0))) (iv_nd (iv_nd (some (.iconst 0)) (some (.istore 5))) (iv_nd (iv_em 0) (some (.iload 5))))) (iv_nd (iv_nd (iv_nd (iv_em 0) (some (.iload_n 3))) (iv_nd (some (.if_icmp .ge 23)) (iv_em 0))) (iv_nd (iv_nd (iv_em 0) (some (.aload_n 0))) (iv_nd (some (.iload_n 1)) (some (.iload 5))))))) (iv_nd (iv_nd (iv_nd (iv_nd (iv_nd (iv_em 0) (some (.invokevirtual 57))) (iv_em 1)) (iv_nd (iv_nd (some (.iload_n 2)) (some (.if_icmp .ne 6))) (iv_em 1))) (iv_nd (iv_nd (iv_nd (some (.iinc 4 1)) (iv_em 0)) (iv_nd (iv_em 0) (some (.iinc 5 1)))) (iv_nd (iv_em 1) (iv_nd (some (.goto (-23))) (iv_em 0))))) (iv_nd (iv_nd (iv_nd (iv_nd (iv_em 0) (some (.iload 4))) (iv_nd (iv_em 0) (some (.ireturn)))) (iv_em 2)) (iv_em 3)))) (iv_em 6)) (iv_em 7)) (iv_em 8)) (iv_em 9)) (iv_em 10))
set_option maxRecDepth 20000 in
def iv_code63 : iv_Tr Jvm.ClassFile.Instr 11 := (iv_nd (iv_nd (iv_nd (iv_nd (iv_nd (iv_nd (iv_nd (iv_nd (iv_nd (iv_nd (iv_nd (some (.iconst 0)) (some (.istore_n 3))) (iv_nd (some (.iconst 0)) (some (.istore 4)))) (iv_nd (iv_nd (iv_em 0) (some (.iload 4))) (iv_nd (iv_em 0) (some (.iload_n 2))))) (iv_nd (iv_nd (iv_nd (some (.if_icmp .ge 22)) (iv_em 0)) (iv_nd (iv_em 0) (some (.aload_n 0)))) (iv_nd (iv_nd (some (.iload_n 1)) (some (.iload 4))) (iv_nd (iv_em 0) (some (.invokevirtual 69)))))) (iv_nd (iv_nd (iv_nd (iv_em 1) (iv_nd (some (.ifCond .le 6)) (iv_em 0))) (iv_nd (iv_nd (iv_em 0) (some (.iinc 3 1))) (iv_em 1))) (iv_nd (iv_nd (iv_nd (some (.iinc 4 1)) (iv_em 0)) (iv_nd (iv_em 0) (some (.goto (-22))))) (iv_nd (iv_em 1) (iv_nd (some (.iload_n 3)) (some (.ireturn))))))) (iv_em 5)) (iv_em 6)) (iv_em 7)) (iv_em 8)) (iv_em 9)) (iv_em 10))
set_option maxRecDepth 20000 in
def iv_code66 : iv_Tr Jvm.ClassFile.Instr 11 := (iv_nd (iv_nd (iv_nd (iv_nd (iv_nd (iv_nd (iv_nd (iv_nd (iv_nd (iv_nd (iv_nd (some (.iconst 0)) (some (.istore_n 2))) (iv_nd (some (.iconst 0)) (some (.istore_n 3)))) (iv_nd (iv_nd (some (.iload_n 3)) (some (.bipush 9))) (iv_nd (iv_em 0) (some (.if_icmp .ge 23))))) (iv_nd (iv_nd (iv_em 1) (iv_nd (some (.iload_n 2)) (some (.aload_n 0)))) (iv_nd (iv_nd (some (.getfield 15)) (iv_em 0)) (iv_nd (iv_em 0) (some (.iload_n 1)))))) (iv_nd (iv_nd (iv_nd (iv_nd (some (.bipush 9)) (iv_em 0)) (iv_nd (some (.imul)) (some (.iload_n 3)))) (iv_nd (iv_nd (some (.iadd)) (some (.iaload))) (iv_nd (some (.iadd)) (some (.istore_n 2))))) (iv_nd (iv_nd (iv_nd (some (.iinc 3 1)) (iv_em 0)) (iv_nd (iv_em 0) (some (.goto (-23))))) (iv_nd (iv_em 1) (iv_nd (some (.iload_n 2)) (some (.ireturn))))))) (iv_em 5)) (iv_em 6)) (iv_em 7)) (iv_em 8)) (iv_em 9)) (iv_em 10))
set_option maxRecDepth 20000 in
def iv_code67 : iv_Tr Jvm.ClassFile.Instr 11 := (iv_nd (iv_nd (iv_nd (iv_nd (iv_nd (iv_nd (iv_nd (iv_nd (iv_nd (iv_nd (iv_nd (some (.aload_n 0)) (some (.invokespecial 3))) (iv_em 1)) (iv_nd (iv_nd (some (.aload_n 0)) (some (.bipush 8))) (iv_nd (iv_em 0) (some (.newarray .int))))) (iv_nd (iv_nd (iv_nd (iv_em 0) (some (.putfield 9))) (iv_em 1)) (iv_nd (iv_nd (some (.aload_n 0)) (some (.bipush 8))) (iv_nd (iv_em 0) (some (.newarray .int)))))) (iv_nd (iv_nd (iv_nd (iv_nd (iv_em 0) (some (.putfield 15))) (iv_em 1)) (iv_nd (iv_nd (some (.aload_n 0)) (some (.bipush 8))) (iv_nd (iv_em 0) (some (.newarray .int))))) (iv_nd (iv_nd (iv_nd (iv_em 0) (some (.putfield 18))) (iv_em 1)) (iv_nd (iv_nd (some (.aload_n 0)) (some (.bipush 72))) (iv_nd (iv_em 0) (some (.newarray .int))))))) (iv_nd (iv_nd (iv_nd (iv_nd (iv_nd (iv_em 0) (some (.putfield 21))) (iv_em 1)) (iv_nd (iv_nd (some (.aload_n 0)) (some (.bipush 72))) (iv_nd (iv_em 0) (some (.newarray .int))))) (iv_nd (iv_nd (iv_nd (iv_em 0) (some (.putfield 24))) (iv_em 1)) (iv_nd (iv_nd (some (.aload_n 0)) (some (.bipush 72))) (iv_nd (iv_em 0) (some (.newarray .int)))))) (iv_nd (iv_nd (iv_nd (iv_nd (iv_em 0) (some (.putfield 27))) (iv_em 1)) (iv_nd (iv_nd (some (.aload_n 0)) (some (.bipush 72))) (iv_nd (iv_em 0) (some (.newarray .int))))) (iv_nd (iv_nd (iv_nd (iv_em 0) (some (.putfield 30))) (iv_em 1)) (iv_nd (iv_nd (some (.aload_n 0)) (some (.bipush 72))) (iv_nd (iv_em 0) (some (.newarray .int)))))))) (iv_nd (iv_nd (iv_nd (iv_nd (iv_nd (iv_nd (iv_em 0) (some (.putfield 33))) (iv_em 1)) (iv_nd (iv_nd (some (.return_)) (iv_em 0)) (iv_em 1))) (iv_em 3)) (iv_em 4)) (iv_em 5))) (iv_em 7)) (iv_em 8)) (iv_em 9)) (iv_em 10))
set_option maxRecDepth 20000 in
def iv_code68 : iv_Tr Jvm.ClassFile.Instr 11 := (iv_nd (iv_nd (iv_nd (iv_nd (iv_nd (iv_nd (iv_nd (iv_nd (iv_nd (iv_nd (iv_nd (some (.aload_n 0)) (some (.getfield 9))) (iv_em 1)) (iv_nd (iv_nd (some (.iconst 0)) (some (.invokestatic 36))) (iv_em 1))) (iv_nd (iv_nd (iv_nd (some (.aload_n 0)) (some (.getfield 21))) (iv_em 1)) (iv_nd (iv_nd (some (.iconst 0)) (some (.invokestatic 36))) (iv_em 1)))) (iv_nd (iv_nd (iv_nd (iv_nd (some (.aload_n 0)) (some (.getfield 24))) (iv_em 1)) (iv_nd (iv_nd (some (.iconst 0)) (some (.invokestatic 36))) (iv_em 1))) (iv_nd (iv_nd (iv_nd (some (.return_)) (iv_em 0)) (iv_em 1)) (iv_em 2)))) (iv_em 5)) (iv_em 6)) (iv_em 7)) (iv_em 8)) (iv_em 9)) (iv_em 10))
set_option maxRecDepth 20000 in
def iv_code69 : iv_Tr Jvm.ClassFile.Instr 11 := (iv_nd (iv_nd (iv_nd (iv_nd (iv_nd (iv_nd (iv_nd (iv_nd (iv_nd (iv_nd (iv_nd (some (.iload_n 1)) (some (.bipush 9))) (iv_nd (iv_em 0) (some (.imul)))) (iv_nd (iv_nd (some (.iload_n 2)) (some (.iadd))) (iv_nd (some (.istore 5)) (iv_em 0)))) (iv_nd (iv_nd (iv_nd (some (.aload_n 0)) (some (.getfield 21))) (iv_em 1)) (iv_nd (iv_nd (some (.iload 5)) (iv_em 0)) (iv_nd (some (.dup2)) (some (.iaload)))))) (iv_nd (iv_nd (iv_nd (iv_nd (some (.iload_n 3)) (some (.iadd))) (iv_nd (some (.iastore)) (some (.aload_n 0)))) (iv_nd (iv_nd (some (.getfield 24)) (iv_em 0)) (iv_nd (iv_em 0) (some (.iload 5))))) (iv_nd (iv_nd (iv_nd (iv_em 0) (some (.dup2))) (iv_nd (some (.iaload)) (some (.iload 4)))) (iv_nd (iv_nd (iv_em 0) (some (.iadd))) (iv_nd (some (.iastore)) (some (.return_))))))) (iv_em 5)) (iv_em 6)) (iv_em 7)) (iv_em 8)) (iv_em 9)) (iv_em 10))
set_option maxRecDepth 20000 in
def iv_code70 : iv_Tr Jvm.ClassFile.Instr 11 := (iv_nd (iv_nd (iv_nd (iv_nd (iv_nd (iv_nd (iv_nd (iv_nd (iv_nd (iv_nd (iv_nd (some (.iconst 0)) (some (.istore_n 1))) (iv_nd (some (.iload_n 1)) (some (.bipush 8)))) (iv_nd (iv_nd (iv_em 0) (some (.if_icmp .ge 83))) (iv_em 1))) (iv_nd (iv_nd (iv_nd (some (.aload_n 0)) (some (.getfield 21))) (iv_em 1)) (iv_nd (iv_nd (some (.iload_n 1)) (some (.invokestatic 42))) (iv_em 1)))) (iv_nd (iv_nd (iv_nd (iv_nd (some (.istore_n 2)) (some (.aload_n 0))) (iv_nd (some (.getfield 18)) (iv_em 0))) (iv_nd (iv_nd (iv_em 0) (some (.iload_n 1))) (iv_nd (some (.iload_n 2)) (some (.ifCond .ne 7))))) (iv_nd (iv_nd (iv_em 1) (iv_nd (some (.iconst 1)) (some (.goto 4)))) (iv_nd (iv_em 1) (iv_nd (some (.iconst 0)) (some (.iastore))))))) (iv_nd (iv_nd (iv_nd (iv_nd (iv_nd (some (.iload_n 2)) (some (.ifCond .ne 24))) (iv_em 1)) (iv_nd (iv_nd (some (.aload_n 0)) (some (.getfield 24))) (iv_em 1))) (iv_nd (iv_nd (iv_nd (some (.iload_n 1)) (some (.bipush 9))) (iv_nd (iv_em 0) (some (.imul)))) (iv_nd (iv_nd (some (.aload_n 0)) (some (.getfield 21))) (iv_em 1)))) (iv_nd (iv_nd (iv_nd (iv_nd (some (.iload_n 1)) (some (.bipush 9))) (iv_nd (iv_em 0) (some (.imul)))) (iv_nd (iv_nd (some (.bipush 9)) (iv_em 0)) (iv_nd (some (.invokestatic 46)) (iv_em 0)))) (iv_nd (iv_nd (iv_nd (iv_em 0) (some (.aload_n 0))) (iv_nd (some (.getfield 15)) (iv_em 0))) (iv_nd (iv_nd (iv_em 0) (some (.iload_n 1))) (iv_nd (some (.aload_n 0)) (some (.getfield 21)))))))) (iv_nd (iv_nd (iv_nd (iv_nd (iv_nd (iv_em 1) (iv_nd (some (.iload_n 1)) (some (.invokestatic 42)))) (iv_nd (iv_em 1) (iv_nd (some (.iastore)) (some (.aload_n 0))))) (iv_nd (iv_nd (iv_nd (some (.iload_n 1)) (some (.aload_n 0))) (iv_nd (some (.getfield 15)) (iv_em 0))) (iv_nd (iv_nd (iv_em 0) (some (.iload_n 1))) (iv_nd (some (.iaload)) (some (.invokevirtual 52)))))) (iv_nd (iv_nd (iv_nd (iv_em 1) (iv_nd (some (.iinc 1 1)) (iv_em 0))) (iv_nd (iv_nd (iv_em 0) (some (.goto (-83)))) (iv_em 1))) (iv_nd (iv_nd (iv_nd (some (.return_)) (iv_em 0)) (iv_em 1)) (iv_em 2)))) (iv_em 5))) (iv_em 7)) (iv_em 8)) (iv_em 9)) (iv_em 10))
set_option maxRecDepth 20000 in
def iv_code71 : iv_Tr Jvm.ClassFile.Instr 11 := (iv_nd (iv_nd (iv_nd (iv_nd (iv_nd (iv_nd (iv_nd (iv_nd (iv_nd (iv_nd (iv_nd (some (.iload_n 1)) (some (.bipush 9))) (iv_nd (iv_em 0) (some (.imul)))) (iv_nd (iv_nd (some (.istore_n 3)) (some (.iload_n 3))) (iv_nd (some (.iload_n 1)) (some (.bipush 9))))) (iv_nd (iv_nd (iv_nd (iv_em 0) (some (.imul))) (iv_nd (some (.bipush 9)) (iv_em 0))) (iv_nd (iv_nd (some (.iadd)) (some (.if_icmp .ge 78))) (iv_em 1)))) (iv_nd (iv_nd (iv_nd (iv_nd (some (.aload_n 0)) (some (.getfield 9))) (iv_em 1)) (iv_nd (iv_nd (some (.iload_n 1)) (some (.iaload))) (iv_nd (some (.i2l)) (some (.aload_n 0))))) (iv_nd (iv_nd (iv_nd (some (.getfield 21)) (iv_em 0)) (iv_nd (iv_em 0) (some (.iload_n 3)))) (iv_nd (iv_nd (some (.iaload)) (some (.i2l))) (iv_nd (some (.lmul)) (some (.lstore 4))))))) (iv_nd (iv_nd (iv_nd (iv_nd (iv_nd (iv_em 0) (some (.aload_n 0))) (iv_nd (some (.getfield 27)) (iv_em 0))) (iv_nd (iv_nd (iv_em 0) (some (.iload_n 3))) (iv_nd (some (.iload_n 2)) (some (.ifCond .le 12))))) (iv_nd (iv_nd (iv_em 1) (iv_nd (some (.lload 4)) (iv_em 0))) (iv_nd (iv_nd (some (.iload_n 2)) (some (.i2l))) (iv_nd (some (.ldiv)) (some (.l2i)))))) (iv_nd (iv_nd (iv_nd (iv_nd (some (.goto 4)) (iv_em 0)) (iv_nd (iv_em 0) (some (.iconst 0)))) (iv_nd (iv_nd (some (.iastore)) (some (.aload_n 0))) (iv_nd (some (.getfield 30)) (iv_em 0)))) (iv_nd (iv_nd (iv_nd (iv_em 0) (some (.iload_n 3))) (iv_nd (some (.iload_n 2)) (some (.ifCond .le 12)))) (iv_nd (iv_em 1) (iv_nd (some (.lload 4)) (iv_em 0))))))) (iv_nd (iv_nd (iv_nd (iv_nd (iv_nd (iv_nd (some (.iload_n 2)) (some (.i2l))) (iv_nd (some (.lrem)) (some (.l2i)))) (iv_nd (iv_nd (some (.goto 4)) (iv_em 0)) (iv_nd (iv_em 0) (some (.iconst 0))))) (iv_nd (iv_nd (iv_nd (some (.iastore)) (some (.aload_n 0))) (iv_nd (some (.getfield 33)) (iv_em 0))) (iv_nd (iv_nd (iv_em 0) (some (.iload_n 3))) (iv_nd (some (.aload_n 0)) (some (.getfield 27)))))) (iv_nd (iv_nd (iv_nd (iv_em 1) (iv_nd (some (.iload_n 3)) (some (.iaload)))) (iv_nd (iv_nd (some (.iastore)) (some (.iinc 3 1))) (iv_em 1))) (iv_nd (iv_nd (iv_nd (some (.goto (-83))) (iv_em 0)) (iv_nd (iv_em 0) (some (.return_)))) (iv_em 2)))) (iv_em 5))) (iv_em 7)) (iv_em 8)) (iv_em 9)) (iv_em 10))
set_option maxRecDepth 20000 in
def iv_code72 : iv_Tr Jvm.ClassFile.Instr 11 := (iv_nd (iv_nd (iv_nd (iv_nd (iv_nd (iv_nd (iv_nd (iv_nd (iv_nd (iv_nd (iv_nd (some (.iconst 0)) (some (.istore_n 2))) (iv_nd (some (.iconst 0)) (some (.istore_n 3)))) (iv_nd (iv_nd (some (.iload_n 3)) (some (.bipush 9))) (iv_nd (iv_em 0) (some (.if_icmp .ge 20))))) (iv_nd (iv_nd (iv_em 1) (iv_nd (some (.iload_n 2)) (some (.aload_n 0)))) (iv_nd (iv_nd (some (.iload_n 1)) (some (.bipush 9))) (iv_nd (iv_em 0) (some (.imul)))))) (iv_nd (iv_nd (iv_nd (iv_nd (some (.iload_n 3)) (some (.iadd))) (iv_nd (some (.iaload)) (some (.iadd)))) (iv_nd (iv_nd (some (.istore_n 2)) (some (.iinc 3 1))) (iv_em 1))) (iv_nd (iv_nd (iv_nd (some (.goto (-20))) (iv_em 0)) (iv_nd (iv_em 0) (some (.iload_n 2)))) (iv_nd (iv_nd (some (.ireturn)) (iv_em 0)) (iv_em 1))))) (iv_em 5)) (iv_em 6)) (iv_em 7)) (iv_em 8)) (iv_em 9)) (iv_em 10))
set_option maxRecDepth 20000 in
def iv_code73 : iv_Tr Jvm.ClassFile.Instr 11 := (iv_nd (iv_nd (iv_nd (iv_nd (iv_nd (iv_nd (iv_nd (iv_nd (iv_nd (iv_nd (iv_nd (some (.aload_n 0)) (some (.getfield 15))) (iv_em 1)) (iv_nd (iv_nd (some (.iload_n 1)) (some (.iaload))) (iv_nd (some (.ifCond .le 21)) (iv_em 0)))) (iv_nd (iv_nd (iv_nd (iv_em 0) (some (.aload_n 0))) (iv_nd (some (.getfield 9)) (iv_em 0))) (iv_nd (iv_nd (iv_em 0) (some (.iload_n 1))) (iv_nd (some (.iaload)) (some (.aload_n 0)))))) (iv_nd (iv_nd (iv_nd (iv_nd (some (.getfield 27)) (iv_em 0)) (iv_nd (iv_em 0) (some (.iload_n 1)))) (iv_nd (iv_nd (some (.invokestatic 42)) (iv_em 0)) (iv_nd (iv_em 0) (some (.isub))))) (iv_nd (iv_nd (iv_nd (some (.goto 4)) (iv_em 0)) (iv_nd (iv_em 0) (some (.iconst 0)))) (iv_nd (iv_nd (some (.ireturn)) (iv_em 0)) (iv_em 1))))) (iv_em 5)) (iv_em 6)) (iv_em 7)) (iv_em 8)) (iv_em 9)) (iv_em 10))
set_option maxRecDepth 20000 in
def iv_code74 : iv_Tr Jvm.ClassFile.Instr 11 := (iv_nd (iv_nd (iv_nd (iv_nd (iv_nd (iv_nd (iv_nd (iv_nd (iv_nd (iv_nd (iv_nd (some (.iconst 0)) (some (.istore_n 1))) (iv_nd (some (.iload_n 1)) (some (.bipush 8)))) (iv_nd (iv_nd (iv_em 0) (some (.if_icmp .ge 39))) (iv_em 1))) (iv_nd (iv_nd (iv_nd (some (.aload_n 0)) (some (.iload_n 1))) (iv_nd (some (.invokevirtual 56)) (iv_em 0))) (iv_nd (iv_nd (iv_em 0) (some (.istore_n 2))) (iv_nd (some (.iconst 0)) (some (.istore_n 3)))))) (iv_nd (iv_nd (iv_nd (iv_nd (some (.iload_n 3)) (some (.bipush 9))) (iv_nd (iv_em 0) (some (.if_icmp .ge 19)))) (iv_nd (iv_em 1) (iv_nd (some (.iload_n 3)) (some (.iload_n 2))))) (iv_nd (iv_nd (iv_nd (some (.if_icmp .ge 14)) (iv_em 0)) (iv_nd (iv_em 0) (some (.aload_n 0)))) (iv_nd (iv_nd (some (.iload_n 1)) (some (.invokevirtual 60))) (iv_em 1))))) (iv_nd (iv_nd (iv_nd (iv_nd (iv_nd (some (.iinc 3 1)) (iv_em 0)) (iv_nd (iv_em 0) (some (.goto (-19))))) (iv_nd (iv_em 1) (iv_nd (some (.iinc 1 1)) (iv_em 0)))) (iv_nd (iv_nd (iv_nd (iv_em 0) (some (.goto (-39)))) (iv_em 1)) (iv_nd (iv_nd (some (.return_)) (iv_em 0)) (iv_em 1)))) (iv_em 4))) (iv_em 6)) (iv_em 7)) (iv_em 8)) (iv_em 9)) (iv_em 10))
set_option maxRecDepth 20000 in
def iv_code81 : iv_Tr Jvm.ClassFile.Instr 11 := (iv_nd (iv_nd (iv_nd (iv_nd (iv_nd (iv_nd (iv_nd (iv_nd (iv_nd (iv_nd (iv_nd (some (.aload_n 0)) (some (.invokespecial 3))) (iv_em 1)) (iv_nd (iv_nd (some (.aload_n 0)) (some (.sipush 200))) (iv_em 1))) (iv_nd (iv_nd (iv_nd (some (.newarray .int)) (iv_em 0)) (iv_nd (some (.putfield 9)) (iv_em 0))) (iv_nd (iv_nd (iv_em 0) (some (.return_))) (iv_em 1)))) (iv_em 4)) (iv_em 5)) (iv_em 6)) (iv_em 7)) (iv_em 8)) (iv_em 9)) (iv_em 10))
set_option maxRecDepth 20000 in
def iv_code82 : iv_Tr Jvm.ClassFile.Instr 11 := (iv_nd (iv_nd (iv_nd (iv_nd (iv_nd (iv_nd (iv_nd (iv_nd (iv_nd (iv_nd (iv_nd (some (.bipush 24)) (iv_em 0)) (iv_nd (some (.istore_n 2)) (some (.iload_n 2)))) (iv_nd (iv_nd (some (.ifCond .lt 45)) (iv_em 0)) (iv_nd (iv_em 0) (some (.aload_n 0))))) (iv_nd (iv_nd (iv_nd (some (.getfield 15)) (iv_em 0)) (iv_nd (iv_em 0) (some (.sipush 200)))) (iv_nd (iv_em 1) (iv_nd (some (.if_icmp .ge 35)) (iv_em 0))))) (iv_nd (iv_nd (iv_nd (iv_nd (iv_em 0) (some (.aload_n 0))) (iv_nd (some (.getfield 9)) (iv_em 0))) (iv_nd (iv_nd (iv_em 0) (some (.aload_n 0))) (iv_nd (some (.getfield 15)) (iv_em 0)))) (iv_nd (iv_nd (iv_nd (iv_em 0) (some (.iload_n 1))) (iv_nd (some (.iload_n 2)) (some (.iushr)))) (iv_nd (iv_nd (some (.sipush 255)) (iv_em 0)) (iv_nd (iv_em 0) (some (.iand))))))) (iv_nd (iv_nd (iv_nd (iv_nd (iv_nd (some (.iastore)) (some (.aload_n 0))) (iv_nd (some (.dup)) (some (.getfield 15)))) (iv_nd (iv_em 1) (iv_nd (some (.iconst 1)) (some (.iadd))))) (iv_nd (iv_nd (iv_nd (some (.putfield 15)) (iv_em 0)) (iv_nd (iv_em 0) (some (.iinc 2 (-8))))) (iv_nd (iv_em 1) (iv_nd (some (.goto (-43))) (iv_em 0))))) (iv_nd (iv_nd (iv_nd (iv_nd (iv_em 0) (some (.return_))) (iv_em 1)) (iv_em 2)) (iv_em 3)))) (iv_em 6)) (iv_em 7)) (iv_em 8)) (iv_em 9)) (iv_em 10))
set_option maxRecDepth 20000 in
def iv_code83 : iv_Tr Jvm.ClassFile.Instr 11 := (iv_nd (iv_nd (iv_nd (iv_nd (iv_nd (iv_nd (iv_nd (iv_nd (iv_nd (iv_nd (iv_nd (some (.iload_n 1)) (some (.ifCond .lt 20))) (iv_em 1)) (iv_nd (iv_nd (some (.iload_n 1)) (some (.aload_n 0))) (iv_nd (some (.getfield 15)) (iv_em 0)))) (iv_nd (iv_nd (iv_nd (iv_em 0) (some (.if_icmp .ge 12))) (iv_em 1)) (iv_nd (iv_nd (some (.aload_n 0)) (some (.getfield 9))) (iv_em 1)))) (iv_nd (iv_nd (iv_nd (iv_nd (some (.iload_n 1)) (some (.iaload))) (iv_nd (some (.goto 4)) (iv_em 0))) (iv_nd (iv_nd (iv_em 0) (some (.iconst (-1)))) (iv_nd (some (.ireturn)) (iv_em 0)))) (iv_em 3))) (iv_em 5)) (iv_em 6)) (iv_em 7)) (iv_em 8)) (iv_em 9)) (iv_em 10))
set_option maxRecDepth 20000 in
def iv_code84 : iv_Tr Jvm.ClassFile.Instr 11 := (iv_nd (iv_nd (iv_nd (iv_nd (iv_nd (iv_nd (iv_nd (iv_nd (iv_nd (iv_nd (iv_nd (some (.aload_n 0)) (some (.invokespecial 1))) (iv_em 1)) (iv_nd (iv_nd (some (.new 7)) (iv_em 0)) (iv_nd (iv_em 0) (some (.dup))))) (iv_nd (iv_nd (iv_nd (some (.invokespecial 9)) (iv_em 0)) (iv_nd (iv_em 0) (some (.astore_n 1)))) (iv_nd (iv_nd (some (.new 10)) (iv_em 0)) (iv_nd (iv_em 0) (some (.dup)))))) (iv_nd (iv_nd (iv_nd (iv_nd (some (.invokespecial 12)) (iv_em 0)) (iv_nd (iv_em 0) (some (.astore_n 2)))) (iv_nd (iv_nd (some (.aload_n 0)) (some (.aload_n 1))) (iv_nd (some (.putfield 13)) (iv_em 0)))) (iv_nd (iv_nd (iv_nd (iv_em 0) (some (.aload_n 0))) (iv_nd (some (.new 19)) (iv_em 0))) (iv_nd (iv_nd (iv_em 0) (some (.dup))) (iv_nd (some (.invokespecial 21)) (iv_em 0)))))) (iv_nd (iv_nd (iv_nd (iv_nd (iv_nd (iv_em 0) (some (.putfield 22))) (iv_em 1)) (iv_nd (iv_nd (some (.aload_n 0)) (some (.new 26))) (iv_em 1))) (iv_nd (iv_nd (iv_nd (some (.dup)) (some (.invokespecial 28))) (iv_em 1)) (iv_nd (iv_nd (some (.putfield 29)) (iv_em 0)) (iv_nd (iv_em 0) (some (.aload_n 0)))))) (iv_nd (iv_nd (iv_nd (iv_nd (some (.new 33)) (iv_em 0)) (iv_nd (iv_em 0) (some (.dup)))) (iv_nd (iv_nd (some (.invokespecial 35)) (iv_em 0)) (iv_nd (iv_em 0) (some (.putfield 36))))) (iv_nd (iv_nd (iv_em 1) (iv_nd (some (.aload_n 0)) (some (.new 40)))) (iv_nd (iv_em 1) (iv_nd (some (.dup)) (some (.invokespecial 42)))))))) (iv_nd (iv_nd (iv_nd (iv_nd (iv_nd (iv_em 1) (iv_nd (some (.putfield 43)) (iv_em 0))) (iv_nd (iv_nd (iv_em 0) (some (.aload_n 0))) (iv_nd (some (.new 47)) (iv_em 0)))) (iv_nd (iv_nd (iv_nd (iv_em 0) (some (.dup))) (iv_nd (some (.invokespecial 49)) (iv_em 0))) (iv_nd (iv_nd (iv_em 0) (some (.putfield 50))) (iv_em 1)))) (iv_nd (iv_nd (iv_nd (iv_nd (some (.aload_n 0)) (some (.sipush 288))) (iv_em 1)) (iv_nd (iv_nd (some (.newarray .int)) (iv_em 0)) (iv_nd (some (.putfield 54)) (iv_em 0)))) (iv_nd (iv_nd (iv_nd (iv_em 0) (some (.aload_n 0))) (iv_nd (some (.iconst 3)) (some (.anewarray 58)))) (iv_nd (iv_em 1) (iv_nd (some (.putfield 60)) (iv_em 0)))))) (iv_nd (iv_nd (iv_nd (iv_nd (iv_nd (iv_em 0) (some (.iconst 0))) (iv_nd (some (.istore_n 3)) (some (.iload_n 3)))) (iv_nd (iv_nd (some (.iconst 3)) (some (.if_icmp .ge 25))) (iv_em 1))) (iv_nd (iv_nd (iv_nd (some (.aload_n 0)) (some (.getfield 60))) (iv_em 1)) (iv_nd (iv_nd (some (.iload_n 3)) (some (.new 58))) (iv_em 1)))) (iv_nd (iv_nd (iv_nd (iv_nd (some (.dup)) (some (.iload_n 3))) (iv_nd (some (.aload_n 1)) (some (.aload_n 2)))) (iv_nd (iv_nd (some (.invokespecial 64)) (iv_em 0)) (iv_nd (iv_em 0) (some (.aastore))))) (iv_nd (iv_nd (iv_nd (some (.iinc 3 1)) (iv_em 0)) (iv_nd (iv_em 0) (some (.goto (-24))))) (iv_nd (iv_em 1) (iv_nd (some (.return_)) (iv_em 0)))))))) (iv_em 7)) (iv_em 8)) (iv_em 9)) (iv_em 10))
set_option maxRecDepth 20000 in
def iv_code85 : iv_Tr Jvm.ClassFile.Instr 11 := (iv_nd (iv_nd (iv_nd (iv_nd (iv_nd (iv_nd (iv_nd (iv_nd (iv_nd (iv_nd (iv_nd (some (.aload_n 0)) (some (.getfield 22))) (iv_em 1)) (iv_nd (iv_nd (some (.getfield 67)) (iv_em 0)) (iv_nd (iv_em 0) (some (.bipush 20))))) (iv_nd (iv_nd (iv_nd (iv_em 0) (some (.iadd))) (iv_nd (some (.sipush 200)) (iv_em 0))) (iv_nd (iv_nd (iv_em 0) (some (.if_icmp .le 5))) (iv_em 1)))) (iv_nd (iv_nd (iv_nd (iv_nd (some (.iconst (-1))) (some (.ireturn))) (iv_nd (some (.aload_n 0)) (some (.getfield 22)))) (iv_nd (iv_em 1) (iv_nd (some (.iload_n 1)) (some (.invokevirtual 71))))) (iv_nd (iv_nd (iv_em 1) (iv_nd (some (.aload_n 0)) (some (.getfield 22)))) (iv_nd (iv_em 1) (iv_nd (some (.iload_n 2)) (some (.invokevirtual 71))))))) (iv_nd (iv_nd (iv_nd (iv_nd (iv_em 1) (iv_nd (some (.aload_n 0)) (some (.getfield 22)))) (iv_nd (iv_em 1) (iv_nd (some (.iload_n 3)) (some (.invokevirtual 71))))) (iv_nd (iv_nd (iv_em 1) (iv_nd (some (.aload_n 0)) (some (.getfield 22)))) (iv_nd (iv_em 1) (iv_nd (some (.iload 4)) (iv_em 0))))) (iv_nd (iv_nd (iv_nd (iv_nd (some (.invokevirtual 71)) (iv_em 0)) (iv_nd (iv_em 0) (some (.aload_n 0)))) (iv_nd (iv_nd (some (.getfield 22)) (iv_em 0)) (iv_nd (iv_em 0) (some (.iload 5))))) (iv_nd (iv_nd (iv_nd (iv_em 0) (some (.invokevirtual 71))) (iv_em 1)) (iv_nd (iv_nd (some (.aload_n 0)) (some (.getfield 22))) (iv_em 1)))))) (iv_nd (iv_nd (iv_nd (iv_nd (iv_nd (iv_nd (some (.getfield 67)) (iv_em 0)) (iv_nd (iv_em 0) (some (.ireturn)))) (iv_em 2)) (iv_em 3)) (iv_em 4)) (iv_em 5))) (iv_em 7)) (iv_em 8)) (iv_em 9)) (iv_em 10))
set_option maxRecDepth 20000 in
def iv_code86 : iv_Tr Jvm.ClassFile.Instr 11 := (iv_nd (iv_nd (iv_nd (iv_nd (iv_nd (iv_nd (iv_nd (iv_nd (iv_nd (iv_nd (iv_nd (some (.iload_n 1)) (some (.ifCond .lt 14))) (iv_em 1)) (iv_nd (iv_nd (some (.iload_n 1)) (some (.aload_n 0))) (iv_nd (some (.getfield 22)) (iv_em 0)))) (iv_nd (iv_nd (iv_nd (iv_em 0) (some (.getfield 67))) (iv_em 1)) (iv_nd (iv_nd (some (.if_icmp .le 5)) (iv_em 0)) (iv_nd (iv_em 0) (some (.iconst (-1))))))) (iv_nd (iv_nd (iv_nd (iv_nd (some (.ireturn)) (some (.aload_n 0))) (iv_nd (some (.getfield 22)) (iv_em 0))) (iv_nd (iv_nd (iv_em 0) (some (.iload_n 1))) (iv_nd (some (.putfield 67)) (iv_em 0)))) (iv_nd (iv_nd (iv_nd (iv_em 0) (some (.iload_n 1))) (iv_nd (some (.ireturn)) (iv_em 0))) (iv_em 2)))) (iv_em 5)) (iv_em 6)) (iv_em 7)) (iv_em 8)) (iv_em 9)) (iv_em 10))
set_option maxRecDepth 20000 in
def iv_code87 : iv_Tr Jvm.ClassFile.Instr 11 := (iv_nd (iv_nd (iv_nd (iv_nd (iv_nd (iv_nd (iv_nd (iv_nd (iv_nd (iv_nd (iv_nd (some (.iload_n 1)) (some (.ifCond .lt 23))) (iv_em 1)) (iv_nd (iv_nd (some (.iload_n 1)) (some (.iconst 2))) (iv_nd (some (.if_icmp .gt 18)) (iv_em 0)))) (iv_nd (iv_nd (iv_nd (iv_em 0) (some (.iload_n 1))) (iv_nd (some (.ifCond .eq 16)) (iv_em 0))) (iv_nd (iv_nd (iv_em 0) (some (.aload_n 0))) (iv_nd (some (.getfield 13)) (iv_em 0))))) (iv_nd (iv_nd (iv_nd (iv_nd (iv_em 0) (some (.iconst 0))) (iv_nd (some (.invokevirtual 75)) (iv_em 0))) (iv_nd (iv_nd (iv_em 0) (some (.ifCond .ne 5))) (iv_em 1))) (iv_nd (iv_nd (iv_nd (some (.iconst (-1))) (some (.ireturn))) (iv_nd (some (.aload_n 0)) (some (.getfield 36)))) (iv_nd (iv_em 1) (iv_nd (some (.aload_n 0)) (some (.getfield 22))))))) (iv_nd (iv_nd (iv_nd (iv_nd (iv_em 1) (iv_nd (some (.iload_n 1)) (some (.aload_n 0)))) (iv_nd (iv_nd (some (.getfield 13)) (iv_em 0)) (iv_nd (iv_em 0) (some (.invokevirtual 79))))) (iv_nd (iv_nd (iv_em 1) (iv_nd (some (.istore_n 2)) (some (.aload_n 0)))) (iv_nd (iv_nd (some (.getfield 22)) (iv_em 0)) (iv_nd (iv_em 0) (some (.iconst 0)))))) (iv_nd (iv_nd (iv_nd (iv_nd (some (.putfield 67)) (iv_em 0)) (iv_nd (iv_em 0) (some (.iload_n 2)))) (iv_nd (iv_nd (some (.iconst (-1))) (some (.if_icmp .eq 8))) (iv_em 1))) (iv_nd (iv_nd (iv_nd (some (.bipush (-2))) (iv_em 0)) (iv_nd (some (.iload_n 2)) (some (.isub)))) (iv_nd (iv_nd (some (.ireturn)) (some (.aload_n 0))) (iv_nd (some (.invokevirtual 83)) (iv_em 0))))))) (iv_nd (iv_nd (iv_nd (iv_nd (iv_nd (iv_nd (iv_em 0) (some (.aload_n 0))) (iv_nd (some (.getfield 13)) (iv_em 0))) (iv_nd (iv_nd (iv_em 0) (some (.iload_n 1))) (iv_nd (some (.aload_n 0)) (some (.getfield 36))))) (iv_nd (iv_nd (iv_em 1) (iv_nd (some (.invokevirtual 86)) (iv_em 0))) (iv_nd (iv_nd (iv_em 0) (some (.aload_n 0))) (iv_nd (some (.getfield 13)) (iv_em 0))))) (iv_nd (iv_nd (iv_nd (iv_nd (iv_em 0) (some (.invokevirtual 90))) (iv_em 1)) (iv_nd (iv_nd (some (.ireturn)) (iv_em 0)) (iv_em 1))) (iv_em 3))) (iv_em 5))) (iv_em 7)) (iv_em 8)) (iv_em 9)) (iv_em 10))
set_option maxRecDepth 20000 in
def iv_code88 : iv_Tr Jvm.ClassFile.Instr 11 := (iv_nd (iv_nd (iv_nd (iv_nd (iv_nd (iv_nd (iv_nd (iv_nd (iv_nd (iv_nd (iv_nd (some (.iload_n 1)) (some (.invokestatic 94))) (iv_em 1)) (iv_nd (iv_nd (some (.ifCond .ne 5)) (iv_em 0)) (iv_nd (iv_em 0) (some (.iconst (-1)))))) (iv_nd (iv_nd (iv_nd (some (.ireturn)) (some (.aload_n 0))) (iv_nd (some (.getfield 43)) (iv_em 0))) (iv_nd (iv_nd (iv_em 0) (some (.aload_n 0))) (iv_nd (some (.getfield 22)) (iv_em 0))))) (iv_nd (iv_nd (iv_nd (iv_nd (iv_em 0) (some (.invokevirtual 97))) (iv_em 1)) (iv_nd (iv_nd (some (.istore_n 2)) (some (.aload_n 0))) (iv_nd (some (.getfield 22)) (iv_em 0)))) (iv_nd (iv_nd (iv_nd (iv_em 0) (some (.iconst 0))) (iv_nd (some (.putfield 67)) (iv_em 0))) (iv_nd (iv_nd (iv_em 0) (some (.iload_n 2))) (iv_nd (some (.iconst (-1))) (some (.if_icmp .eq 8))))))) (iv_nd (iv_nd (iv_nd (iv_nd (iv_em 1) (iv_nd (some (.bipush (-2))) (iv_em 0))) (iv_nd (iv_nd (some (.iload_n 2)) (some (.isub))) (iv_nd (some (.ireturn)) (some (.aload_n 0))))) (iv_nd (iv_nd (iv_nd (some (.invokevirtual 83)) (iv_em 0)) (iv_nd (iv_em 0) (some (.aload_n 0)))) (iv_nd (iv_nd (some (.getfield 43)) (iv_em 0)) (iv_nd (iv_em 0) (some (.getfield 100)))))) (iv_nd (iv_nd (iv_nd (iv_em 1) (iv_nd (some (.iconst 0)) (some (.aload_n 0)))) (iv_nd (iv_nd (some (.getfield 13)) (iv_em 0)) (iv_nd (iv_em 0) (some (.getfield 103))))) (iv_nd (iv_nd (iv_em 1) (iv_nd (some (.iload_n 1)) (some (.bipush 9)))) (iv_nd (iv_nd (iv_em 0) (some (.imul))) (iv_nd (some (.bipush 9)) (iv_em 0))))))) (iv_nd (iv_nd (iv_nd (iv_nd (iv_nd (iv_nd (some (.invokestatic 106)) (iv_em 0)) (iv_nd (iv_em 0) (some (.aload_n 0)))) (iv_nd (iv_nd (some (.getfield 13)) (iv_em 0)) (iv_nd (iv_em 0) (some (.iload_n 1))))) (iv_nd (iv_nd (iv_nd (some (.invokevirtual 112)) (iv_em 0)) (iv_nd (iv_em 0) (some (.ireturn)))) (iv_em 2))) (iv_em 4)) (iv_em 5))) (iv_em 7)) (iv_em 8)) (iv_em 9)) (iv_em 10))
set_option maxRecDepth 20000 in
def iv_code89 : iv_Tr Jvm.ClassFile.Instr 11 := (iv_nd (iv_nd (iv_nd (iv_nd (iv_nd (iv_nd (iv_nd (iv_nd (iv_nd (iv_nd (iv_nd (some (.iload_n 1)) (some (.iconst (-1)))) (iv_nd (some (.if_icmp .eq 10)) (iv_em 0))) (iv_nd (iv_nd (iv_em 0) (some (.iload_n 1))) (iv_nd (some (.invokestatic 94)) (iv_em 0)))) (iv_nd (iv_nd (iv_nd (iv_em 0) (some (.ifCond .eq 20))) (iv_em 1)) (iv_nd (iv_nd (some (.iload_n 2)) (some (.invokestatic 116))) (iv_em 1)))) (iv_nd (iv_nd (iv_nd (iv_nd (some (.ifCond .eq 13)) (iv_em 0)) (iv_nd (iv_em 0) (some (.iload_n 3)))) (iv_nd (iv_nd (some (.ifCond .lt 9)) (iv_em 0)) (iv_nd (iv_em 0) (some (.iload_n 3))))) (iv_nd (iv_nd (iv_nd (some (.bipush 9)) (iv_em 0)) (iv_nd (some (.if_icmp .le 5)) (iv_em 0))) (iv_nd (iv_nd (iv_em 0) (some (.iconst (-1)))) (iv_nd (some (.ireturn)) (some (.iload_n 1))))))) (iv_nd (iv_nd (iv_nd (iv_nd (iv_nd (some (.iconst (-1))) (some (.if_icmp .ne 7))) (iv_em 1)) (iv_nd (iv_nd (some (.iconst 0)) (some (.goto 4))) (iv_em 1))) (iv_nd (iv_nd (iv_nd (some (.iload_n 1)) (some (.istore 4))) (iv_nd (iv_em 0) (some (.iload_n 1)))) (iv_nd (iv_nd (some (.iconst (-1))) (some (.if_icmp .ne 7))) (iv_em 1)))) (iv_nd (iv_nd (iv_nd (iv_nd (some (.iconst 2)) (some (.goto 4))) (iv_em 1)) (iv_nd (iv_nd (some (.iload_n 1)) (some (.istore 5))) (iv_nd (iv_em 0) (some (.iconst 1))))) (iv_nd (iv_nd (iv_nd (some (.istore 6)) (iv_em 0)) (iv_nd (some (.iload 4)) (iv_em 0))) (iv_nd (iv_nd (some (.istore 7)) (iv_em 0)) (iv_nd (some (.iload 7)) (iv_em 0))))))) (iv_nd (iv_nd (iv_nd (iv_nd (iv_nd (iv_nd (some (.iload 5)) (iv_em 0)) (iv_nd (some (.if_icmp .gt 39)) (iv_em 0))) (iv_nd (iv_nd (iv_em 0) (some (.iload 6))) (iv_nd (iv_em 0) (some (.ifCond .eq 25))))) (iv_nd (iv_nd (iv_em 1) (iv_nd (some (.aload_n 0)) (some (.getfield 13)))) (iv_nd (iv_em 1) (iv_nd (some (.getfield 119)) (iv_em 0))))) (iv_nd (iv_nd (iv_nd (iv_nd (iv_em 0) (some (.iload 7))) (iv_nd (iv_em 0) (some (.iconst 4)))) (iv_nd (iv_nd (some (.imul)) (some (.iload_n 2))) (iv_nd (some (.iadd)) (some (.iaload))))) (iv_nd (iv_nd (iv_nd (some (.iload_n 3)) (some (.if_icmp .ne 7))) (iv_em 1)) (iv_nd (iv_nd (some (.iconst 1)) (some (.goto 4))) (iv_em 1))))) (iv_nd (iv_nd (iv_nd (iv_nd (iv_nd (some (.iconst 0)) (some (.istore 6))) (iv_nd (iv_em 0) (some (.iinc 7 1)))) (iv_nd (iv_em 1) (iv_nd (some (.goto (-40))) (iv_em 0)))) (iv_nd (iv_nd (iv_nd (iv_em 0) (some (.iload 6))) (iv_nd (iv_em 0) (some (.ifCond .eq 6)))) (iv_nd (iv_em 1) (iv_nd (some (.bipush (-2))) (iv_em 0))))) (iv_nd (iv_nd (iv_nd (iv_nd (some (.ireturn)) (some (.aload_n 0))) (iv_nd (some (.getfield 13)) (iv_em 0))) (iv_nd (iv_nd (iv_em 0) (some (.getfield 119))) (iv_em 1))) (iv_nd (iv_nd (iv_nd (some (.iload 4)) (iv_em 0)) (iv_nd (some (.iconst 4)) (some (.imul)))) (iv_nd (iv_nd (some (.iload_n 2)) (some (.iadd))) (iv_nd (some (.iaload)) (some (.istore 7))))))))) (iv_nd (iv_nd (iv_nd (iv_nd (iv_nd (iv_nd (iv_nd (iv_em 0) (some (.aload_n 0))) (iv_nd (some (.invokevirtual 83)) (iv_em 0))) (iv_nd (iv_nd (iv_em 0) (some (.iload 4))) (iv_nd (iv_em 0) (some (.istore 8))))) (iv_nd (iv_nd (iv_nd (iv_em 0) (some (.iload 8))) (iv_nd (iv_em 0) (some (.iload 5)))) (iv_nd (iv_nd (iv_em 0) (some (.if_icmp .gt 24))) (iv_em 1)))) (iv_nd (iv_nd (iv_nd (iv_nd (some (.aload_n 0)) (some (.getfield 13))) (iv_em 1)) (iv_nd (iv_nd (some (.getfield 119)) (iv_em 0)) (iv_nd (iv_em 0) (some (.iload 8))))) (iv_nd (iv_nd (iv_nd (iv_em 0) (some (.iconst 4))) (iv_nd (some (.imul)) (some (.iload_n 2)))) (iv_nd (iv_nd (some (.iadd)) (some (.iload_n 3))) (iv_nd (some (.iastore)) (some (.iinc 8 1))))))) (iv_nd (iv_nd (iv_nd (iv_nd (iv_em 1) (iv_nd (some (.goto (-25))) (iv_em 0))) (iv_nd (iv_nd (iv_em 0) (some (.iload 7))) (iv_nd (iv_em 0) (some (.ireturn))))) (iv_em 3)) (iv_em 4))) (iv_em 6))) (iv_em 8)) (iv_em 9)) (iv_em 10))
set_option maxRecDepth 20000 in
def iv_code90 : iv_Tr Jvm.ClassFile.Instr 11 := (iv_nd (iv_nd (iv_nd (iv_nd (iv_nd (iv_nd (iv_nd (iv_nd (iv_nd (iv_nd (iv_nd (some (.iload_n 1)) (some (.ifCond .lt 17))) (iv_em 1)) (iv_nd (iv_nd (some (.iload_n 1)) (some (.iconst 1))) (iv_nd (some (.if_icmp .gt 12)) (iv_em 0)))) (iv_nd (iv_nd (iv_nd (iv_em 0) (some (.iload_n 2))) (iv_nd (some (.ifCond .lt 8)) (iv_em 0))) (iv_nd (iv_nd (iv_em 0) (some (.iload_n 2))) (iv_nd (some (.iconst 1)) (some (.if_icmp .le 5)))))) (iv_nd (iv_nd (iv_nd (iv_em 1) (iv_nd (some (.iconst (-1))) (some (.ireturn)))) (iv_nd (iv_nd (some (.iload_n 1)) (some (.ifCond .ne 13))) (iv_em 1))) (iv_nd (iv_nd (iv_nd (some (.aload_n 0)) (some (.getfield 13))) (iv_em 1)) (iv_nd (iv_nd (some (.getfield 122)) (iv_em 0)) (iv_nd (iv_em 0) (some (.goto 10))))))) (iv_nd (iv_nd (iv_nd (iv_nd (iv_em 1) (iv_nd (some (.aload_n 0)) (some (.getfield 13)))) (iv_nd (iv_em 1) (iv_nd (some (.getfield 125)) (iv_em 0)))) (iv_nd (iv_nd (iv_nd (iv_em 0) (some (.istore_n 3))) (iv_nd (some (.iload_n 3)) (some (.iload_n 2)))) (iv_nd (iv_nd (some (.if_icmp .ne 6)) (iv_em 0)) (iv_nd (iv_em 0) (some (.bipush (-2))))))) (iv_nd (iv_nd (iv_nd (iv_nd (iv_em 0) (some (.ireturn))) (iv_nd (some (.aload_n 0)) (some (.invokevirtual 83)))) (iv_nd (iv_em 1) (iv_nd (some (.iload_n 1)) (some (.ifCond .ne 14))))) (iv_nd (iv_nd (iv_em 1) (iv_nd (some (.aload_n 0)) (some (.getfield 13)))) (iv_nd (iv_em 1) (iv_nd (some (.iload_n 2)) (some (.putfield 122)))))))) (iv_nd (iv_nd (iv_nd (iv_nd (iv_nd (iv_em 1) (iv_nd (some (.goto 11)) (iv_em 0))) (iv_nd (iv_nd (iv_em 0) (some (.aload_n 0))) (iv_nd (some (.getfield 13)) (iv_em 0)))) (iv_nd (iv_nd (iv_nd (iv_em 0) (some (.iload_n 2))) (iv_nd (some (.putfield 125)) (iv_em 0))) (iv_nd (iv_nd (iv_em 0) (some (.iload_n 3))) (iv_nd (some (.ireturn)) (iv_em 0))))) (iv_em 4)) (iv_em 5))) (iv_em 7)) (iv_em 8)) (iv_em 9)) (iv_em 10))
set_option maxRecDepth 20000 in
def iv_code91 : iv_Tr Jvm.ClassFile.Instr 11 := (iv_nd (iv_nd (iv_nd (iv_nd (iv_nd (iv_nd (iv_nd (iv_nd (iv_nd (iv_nd (iv_nd (some (.iload_n 1)) (some (.invokestatic 128))) (iv_em 1)) (iv_nd (iv_nd (some (.ifCond .eq 10)) (iv_em 0)) (iv_nd (iv_em 0) (some (.iload_n 2))))) (iv_nd (iv_nd (iv_nd (some (.invokestatic 131)) (iv_em 0)) (iv_nd (iv_em 0) (some (.ifCond .ne 5)))) (iv_nd (iv_em 1) (iv_nd (some (.iconst (-1))) (some (.ireturn)))))) (iv_nd (iv_nd (iv_nd (iv_nd (some (.aload_n 0)) (some (.getfield 13))) (iv_em 1)) (iv_nd (iv_nd (some (.getfield 134)) (iv_em 0)) (iv_nd (iv_em 0) (some (.iload_n 1))))) (iv_nd (iv_nd (iv_nd (some (.iaload)) (some (.istore_n 3))) (iv_nd (some (.iload_n 3)) (some (.iload_n 2)))) (iv_nd (iv_nd (some (.if_icmp .ne 6)) (iv_em 0)) (iv_nd (iv_em 0) (some (.bipush (-2)))))))) (iv_nd (iv_nd (iv_nd (iv_nd (iv_nd (iv_em 0) (some (.ireturn))) (iv_nd (some (.aload_n 0)) (some (.invokevirtual 83)))) (iv_nd (iv_em 1) (iv_nd (some (.aload_n 0)) (some (.getfield 13))))) (iv_nd (iv_nd (iv_em 1) (iv_nd (some (.getfield 134)) (iv_em 0))) (iv_nd (iv_nd (iv_em 0) (some (.iload_n 1))) (iv_nd (some (.iload_n 2)) (some (.iastore)))))) (iv_nd (iv_nd (iv_nd (iv_nd (some (.iload_n 3)) (some (.ireturn))) (iv_em 1)) (iv_em 2)) (iv_em 3)))) (iv_em 6)) (iv_em 7)) (iv_em 8)) (iv_em 9)) (iv_em 10))
set_option maxRecDepth 20000 in
def iv_code92 : iv_Tr Jvm.ClassFile.Instr 11 := (iv_nd (iv_nd (iv_nd (iv_nd (iv_nd (iv_nd (iv_nd (iv_nd (iv_nd (iv_nd (iv_nd (some (.aload_n 0)) (some (.iload_n 1))) (iv_nd (some (.invokevirtual 137)) (iv_em 0))) (iv_nd (iv_nd (iv_em 0) (some (.ifCond .ne 5))) (iv_em 1))) (iv_nd (iv_nd (iv_nd (some (.iconst (-1))) (some (.ireturn))) (iv_nd (some (.aload_n 0)) (some (.getfield 50)))) (iv_nd (iv_em 1) (iv_nd (some (.invokevirtual 140)) (iv_em 0))))) (iv_nd (iv_nd (iv_nd (iv_nd (iv_em 0) (some (.iconst 0))) (iv_nd (some (.istore_n 2)) (some (.iconst 0)))) (iv_nd (iv_nd (some (.istore_n 3)) (some (.iload_n 3))) (iv_nd (some (.iconst 4)) (some (.if_icmp .ge 37))))) (iv_nd (iv_nd (iv_em 1) (iv_nd (some (.aload_n 0)) (some (.getfield 50)))) (iv_nd (iv_em 1) (iv_nd (some (.getfield 143)) (iv_em 0)))))) (iv_nd (iv_nd (iv_nd (iv_nd (iv_nd (iv_em 0) (some (.iload_n 3))) (iv_nd (some (.iaload)) (some (.aload_n 0)))) (iv_nd (iv_nd (some (.getfield 13)) (iv_em 0)) (iv_nd (iv_em 0) (some (.getfield 119))))) (iv_nd (iv_nd (iv_em 1) (iv_nd (some (.iload_n 1)) (some (.iconst 4)))) (iv_nd (iv_nd (some (.imul)) (some (.iload_n 3))) (iv_nd (some (.iadd)) (some (.iaload)))))) (iv_nd (iv_nd (iv_nd (iv_nd (some (.if_icmp .eq 6)) (iv_em 0)) (iv_nd (iv_em 0) (some (.iinc 2 1)))) (iv_nd (iv_em 1) (iv_nd (some (.iinc 3 1)) (iv_em 0)))) (iv_nd (iv_nd (iv_nd (iv_em 0) (some (.goto (-36)))) (iv_em 1)) (iv_nd (iv_nd (some (.iload_n 2)) (some (.ifCond .ne 6))) (iv_em 1)))))) (iv_nd (iv_nd (iv_nd (iv_nd (iv_nd (iv_nd (some (.bipush (-2))) (iv_em 0)) (iv_nd (some (.ireturn)) (some (.aload_n 0)))) (iv_nd (iv_nd (some (.invokevirtual 83)) (iv_em 0)) (iv_nd (iv_em 0) (some (.aload_n 0))))) (iv_nd (iv_nd (iv_nd (some (.getfield 50)) (iv_em 0)) (iv_nd (iv_em 0) (some (.getfield 143)))) (iv_nd (iv_em 1) (iv_nd (some (.iconst 0)) (some (.aload_n 0)))))) (iv_nd (iv_nd (iv_nd (iv_nd (some (.getfield 13)) (iv_em 0)) (iv_nd (iv_em 0) (some (.getfield 119)))) (iv_nd (iv_em 1) (iv_nd (some (.iload_n 1)) (some (.iconst 4))))) (iv_nd (iv_nd (iv_nd (some (.imul)) (some (.iconst 4))) (iv_nd (some (.invokestatic 106)) (iv_em 0))) (iv_nd (iv_nd (iv_em 0) (some (.iload_n 2))) (iv_nd (some (.ireturn)) (iv_em 0)))))) (iv_em 5))) (iv_em 7)) (iv_em 8)) (iv_em 9)) (iv_em 10))
set_option maxRecDepth 20000 in
def iv_code93 : iv_Tr Jvm.ClassFile.Instr 11 := (iv_nd (iv_nd (iv_nd (iv_nd (iv_nd (iv_nd (iv_nd (iv_nd (iv_nd (iv_nd (iv_nd (some (.aload_n 0)) (some (.getfield 13))) (iv_em 1)) (iv_nd (iv_nd (some (.invokevirtual 146)) (iv_em 0)) (iv_nd (iv_em 0) (some (.ifCond .ne 5))))) (iv_nd (iv_nd (iv_em 1) (iv_nd (some (.iconst (-1))) (some (.ireturn)))) (iv_nd (iv_nd (some (.iconst 0)) (some (.istore_n 1))) (iv_nd (some (.iload_n 1)) (some (.iconst 3)))))) (iv_nd (iv_nd (iv_nd (iv_nd (some (.if_icmp .ge 20)) (iv_em 0)) (iv_nd (iv_em 0) (some (.aload_n 0)))) (iv_nd (iv_nd (some (.getfield 60)) (iv_em 0)) (iv_nd (iv_em 0) (some (.iload_n 1))))) (iv_nd (iv_nd (iv_nd (some (.aaload)) (some (.iconst 2))) (iv_nd (some (.invokevirtual 150)) (iv_em 0))) (iv_nd (iv_nd (iv_em 0) (some (.pop))) (iv_nd (some (.iinc 1 1)) (iv_em 0)))))) (iv_nd (iv_nd (iv_nd (iv_nd (iv_nd (iv_em 0) (some (.goto (-19)))) (iv_em 1)) (iv_nd (iv_nd (some (.aload_n 0)) (some (.invokevirtual 83))) (iv_em 1))) (iv_nd (iv_nd (iv_nd (some (.iconst 0)) (some (.istore_n 1))) (iv_nd (some (.iconst 0)) (some (.istore_n 2)))) (iv_nd (iv_nd (some (.iload_n 2)) (some (.iconst 3))) (iv_nd (some (.if_icmp .ge 17)) (iv_em 0))))) (iv_nd (iv_nd (iv_nd (iv_nd (iv_em 0) (some (.iload_n 1))) (iv_nd (some (.aload_n 0)) (some (.iload_n 2)))) (iv_nd (iv_nd (some (.invokevirtual 154)) (iv_em 0)) (iv_nd (iv_em 0) (some (.iadd))))) (iv_nd (iv_nd (iv_nd (some (.istore_n 1)) (some (.iinc 2 1))) (iv_em 1)) (iv_nd (iv_nd (some (.goto (-16))) (iv_em 0)) (iv_nd (iv_em 0) (some (.aload_n 0)))))))) (iv_nd (iv_nd (iv_nd (iv_nd (iv_nd (iv_nd (some (.getfield 13)) (iv_em 0)) (iv_nd (iv_em 0) (some (.getfield 157)))) (iv_nd (iv_em 1) (iv_nd (some (.bipush 96)) (iv_em 0)))) (iv_nd (iv_nd (iv_nd (some (.aload_n 0)) (some (.getfield 13))) (iv_em 1)) (iv_nd (iv_nd (some (.getfield 157)) (iv_em 0)) (iv_nd (iv_em 0) (some (.iconst 0)))))) (iv_nd (iv_nd (iv_nd (iv_nd (some (.bipush 96)) (iv_em 0)) (iv_nd (some (.invokestatic 106)) (iv_em 0))) (iv_nd (iv_nd (iv_em 0) (some (.iload_n 1))) (iv_nd (some (.ireturn)) (iv_em 0)))) (iv_em 3))) (iv_em 5))) (iv_em 7)) (iv_em 8)) (iv_em 9)) (iv_em 10))
set_option maxRecDepth 20000 in
def iv_code94 : iv_Tr Jvm.ClassFile.Instr 11 := (iv_nd (iv_nd (iv_nd (iv_nd (iv_nd (iv_nd (iv_nd (iv_nd (iv_nd (iv_nd (iv_nd (some (.aload_n 0)) (some (.getfield 29))) (iv_em 1)) (iv_nd (iv_nd (some (.getfield 160)) (iv_em 0)) (iv_nd (iv_em 0) (some (.ifCond .ne 5))))) (iv_nd (iv_nd (iv_em 1) (iv_nd (some (.iconst (-1))) (some (.ireturn)))) (iv_nd (iv_nd (some (.aload_n 0)) (some (.invokevirtual 163))) (iv_em 1)))) (iv_nd (iv_nd (iv_nd (iv_nd (some (.aload_n 0)) (some (.getfield 29))) (iv_em 1)) (iv_nd (iv_nd (some (.aload_n 0)) (some (.getfield 13))) (iv_em 1))) (iv_nd (iv_nd (iv_nd (some (.invokevirtual 166)) (iv_em 0)) (iv_nd (iv_em 0) (some (.aload_n 0)))) (iv_nd (iv_nd (some (.getfield 29)) (iv_em 0)) (iv_nd (iv_em 0) (some (.getfield 160))))))) (iv_nd (iv_nd (iv_nd (iv_nd (iv_em 1) (iv_nd (some (.ireturn)) (iv_em 0))) (iv_em 2)) (iv_em 3)) (iv_em 4))) (iv_em 6)) (iv_em 7)) (iv_em 8)) (iv_em 9)) (iv_em 10))
set_option maxRecDepth 20000 in
def iv_code95 : iv_Tr Jvm.ClassFile.Instr 11 := (iv_nd (iv_nd (iv_nd (iv_nd (iv_nd (iv_nd (iv_nd (iv_nd (iv_nd (iv_nd (iv_nd (some (.iload_n 1)) (some (.ifCond .lt 31))) (iv_em 1)) (iv_nd (iv_nd (some (.iload_n 1)) (some (.iconst 2))) (iv_nd (some (.if_icmp .gt 26)) (iv_em 0)))) (iv_nd (iv_nd (iv_nd (iv_em 0) (some (.aload_n 0))) (iv_nd (some (.getfield 13)) (iv_em 0))) (iv_nd (iv_nd (iv_em 0) (some (.iload_n 1))) (iv_nd (some (.invokevirtual 75)) (iv_em 0))))) (iv_nd (iv_nd (iv_nd (iv_nd (iv_em 0) (some (.ifCond .eq 15))) (iv_em 1)) (iv_nd (iv_nd (some (.aload_n 0)) (some (.getfield 13))) (iv_em 1))) (iv_nd (iv_nd (iv_nd (some (.iload_n 2)) (some (.iload_n 3))) (iv_nd (some (.invokevirtual 170)) (iv_em 0))) (iv_nd (iv_nd (iv_em 0) (some (.ifCond .ne 5))) (iv_em 1))))) (iv_nd (iv_nd (iv_nd (iv_nd (iv_nd (some (.iconst (-1))) (some (.ireturn))) (iv_nd (some (.aload_n 0)) (some (.getfield 13)))) (iv_nd (iv_em 1) (iv_nd (some (.iload_n 1)) (some (.iload_n 2))))) (iv_nd (iv_nd (iv_nd (some (.aload_n 0)) (some (.getfield 13))) (iv_em 1)) (iv_nd (iv_nd (some (.getfield 174)) (iv_em 0)) (iv_nd (iv_em 0) (some (.imul)))))) (iv_nd (iv_nd (iv_nd (iv_nd (some (.iload_n 3)) (some (.iadd))) (iv_nd (some (.invokevirtual 177)) (iv_em 0))) (iv_nd (iv_nd (iv_em 0) (some (.istore 4))) (iv_nd (iv_em 0) (some (.iload_n 1))))) (iv_nd (iv_nd (iv_nd (some (.iconst 2)) (some (.if_icmp .ne 9))) (iv_em 1)) (iv_nd (iv_nd (some (.bipush 48)) (iv_em 0)) (iv_nd (some (.iload 4)) (iv_em 0))))))) (iv_nd (iv_nd (iv_nd (iv_nd (iv_nd (iv_nd (some (.iadd)) (some (.ireturn))) (iv_nd (some (.iload 4)) (iv_em 0))) (iv_nd (iv_nd (some (.bipush 8)) (iv_em 0)) (iv_nd (some (.if_icmp .ne 8)) (iv_em 0)))) (iv_nd (iv_nd (iv_nd (iv_em 0) (some (.bipush 46))) (iv_nd (iv_em 0) (some (.goto 8)))) (iv_nd (iv_em 1) (iv_nd (some (.bipush 97)) (iv_em 0))))) (iv_nd (iv_nd (iv_nd (iv_nd (some (.iload 4)) (iv_em 0)) (iv_nd (some (.iadd)) (some (.ireturn)))) (iv_em 2)) (iv_em 3))) (iv_em 5))) (iv_em 7)) (iv_em 8)) (iv_em 9)) (iv_em 10))
set_option maxRecDepth 20000 in
def iv_code96 : iv_Tr Jvm.ClassFile.Instr 11 := (iv_nd (iv_nd (iv_nd (iv_nd (iv_nd (iv_nd (iv_nd (iv_nd (iv_nd (iv_nd (iv_nd (some (.aload_n 0)) (some (.getfield 13))) (iv_em 1)) (iv_nd (iv_nd (some (.invokevirtual 146)) (iv_em 0)) (iv_nd (iv_em 0) (some (.ifCond .eq 17))))) (iv_nd (iv_nd (iv_em 1) (iv_nd (some (.iload_n 1)) (some (.iconst (-1))))) (iv_nd (iv_nd (some (.if_icmp .lt 12)) (iv_em 0)) (iv_nd (iv_em 0) (some (.iload_n 2)))))) (iv_nd (iv_nd (iv_nd (iv_nd (some (.ifCond .lt 8)) (iv_em 0)) (iv_nd (iv_em 0) (some (.iload_n 2)))) (iv_nd (iv_nd (some (.iconst 3)) (some (.if_icmp .le 5))) (iv_em 1))) (iv_nd (iv_nd (iv_nd (some (.iconst (-1))) (some (.ireturn))) (iv_nd (some (.aload_n 0)) (some (.invokevirtual 181)))) (iv_nd (iv_em 1) (iv_nd (some (.istore_n 3)) (some (.iload_n 1))))))) (iv_nd (iv_nd (iv_nd (iv_nd (iv_nd (some (.iconst (-1))) (some (.if_icmp .ne 5))) (iv_em 1)) (iv_nd (iv_nd (some (.iload_n 3)) (some (.ireturn))) (iv_nd (some (.iload_n 1)) (some (.iload_n 3))))) (iv_nd (iv_nd (iv_nd (some (.if_icmp .lt 5)) (iv_em 0)) (iv_nd (iv_em 0) (some (.iconst (-1))))) (iv_nd (iv_nd (some (.ireturn)) (some (.aload_n 0))) (iv_nd (some (.iload_n 1)) (some (.invokevirtual 184)))))) (iv_nd (iv_nd (iv_nd (iv_em 1) (iv_nd (some (.istore 4)) (iv_em 0))) (iv_nd (iv_nd (some (.iload_n 2)) (some (.tableswitch 46 0 2 #[27, 33, 41]))) (iv_em 1))) (iv_em 3)))) (iv_nd (iv_nd (iv_em 4) (iv_nd (iv_nd (iv_nd (iv_nd (some (.iload 4)) (iv_em 0)) (iv_nd (some (.bipush 36)) (iv_em 0))) (iv_nd (iv_nd (some (.idiv)) (some (.ireturn))) (iv_nd (some (.iload 4)) (iv_em 0)))) (iv_nd (iv_nd (iv_nd (some (.iconst 4)) (some (.idiv))) (iv_nd (some (.bipush 9)) (iv_em 0))) (iv_nd (iv_nd (some (.irem)) (some (.ireturn))) (iv_nd (some (.iload 4)) (iv_em 0)))))) (iv_nd (iv_nd (iv_nd (iv_nd (iv_nd (some (.iconst 4)) (some (.irem))) (iv_nd (some (.ireturn)) (some (.aload_n 0)))) (iv_nd (iv_nd (some (.getfield 54)) (iv_em 0)) (iv_nd (iv_em 0) (some (.iload 4))))) (iv_nd (iv_nd (iv_nd (iv_em 0) (some (.iaload))) (iv_nd (some (.ireturn)) (iv_em 0))) (iv_em 2))) (iv_em 4)))) (iv_em 7)) (iv_em 8)) (iv_em 9)) (iv_em 10))
set_option maxRecDepth 20000 in
def iv_code97 : iv_Tr Jvm.ClassFile.Instr 11 := (iv_nd (iv_nd (iv_nd (iv_nd (iv_nd (iv_nd (iv_nd (iv_nd (iv_nd (iv_nd (iv_nd (some (.iload_n 1)) (some (.invokestatic 94))) (iv_em 1)) (iv_nd (iv_nd (some (.ifCond .eq 13)) (iv_em 0)) (iv_nd (iv_em 0) (some (.iload_n 2))))) (iv_nd (iv_nd (iv_nd (some (.ifCond .lt 9)) (iv_em 0)) (iv_nd (iv_em 0) (some (.iload_n 2)))) (iv_nd (iv_nd (some (.bipush 10)) (iv_em 0)) (iv_nd (some (.if_icmp .le 5)) (iv_em 0))))) (iv_nd (iv_nd (iv_nd (iv_nd (iv_em 0) (some (.iconst (-1)))) (iv_nd (some (.ireturn)) (some (.aload_n 0)))) (iv_nd (iv_nd (some (.getfield 60)) (iv_em 0)) (iv_nd (iv_em 0) (some (.iload_n 1))))) (iv_nd (iv_nd (iv_nd (some (.aaload)) (some (.astore_n 3))) (iv_nd (some (.aload_n 3)) (some (.invokevirtual 187)))) (iv_nd (iv_em 1) (iv_nd (some (.iload_n 2)) (some (.bipush 8))))))) (iv_nd (iv_nd (iv_nd (iv_nd (iv_nd (iv_em 0) (some (.if_icmp .ge 10))) (iv_em 1)) (iv_nd (iv_nd (some (.aload_n 3)) (some (.getfield 190))) (iv_em 1))) (iv_nd (iv_nd (iv_nd (some (.iload_n 2)) (some (.iaload))) (iv_nd (some (.ireturn)) (some (.iload_n 2)))) (iv_nd (iv_nd (some (.bipush 8)) (iv_em 0)) (iv_nd (some (.if_icmp .ne 8)) (iv_em 0))))) (iv_nd (iv_nd (iv_nd (iv_nd (iv_em 0) (some (.aload_n 3))) (iv_nd (some (.getfield 193)) (iv_em 0))) (iv_nd (iv_nd (iv_em 0) (some (.ireturn))) (iv_nd (some (.iload_n 2)) (some (.bipush 9))))) (iv_nd (iv_nd (iv_nd (iv_em 0) (some (.if_icmp .ne 10))) (iv_em 1)) (iv_nd (iv_nd (some (.aload_n 3)) (some (.getfield 196))) (iv_em 1)))))) (iv_nd (iv_nd (iv_nd (iv_nd (iv_nd (iv_nd (some (.goto 11)) (iv_em 0)) (iv_nd (iv_em 0) (some (.aload_n 0)))) (iv_nd (iv_nd (some (.getfield 13)) (iv_em 0)) (iv_nd (iv_em 0) (some (.iload_n 1))))) (iv_nd (iv_nd (iv_nd (some (.invokevirtual 112)) (iv_em 0)) (iv_nd (iv_em 0) (some (.ireturn)))) (iv_em 2))) (iv_em 4)) (iv_em 5))) (iv_em 7)) (iv_em 8)) (iv_em 9)) (iv_em 10))
set_option maxRecDepth 20000 in
def iv_code98 : iv_Tr Jvm.ClassFile.Instr 11 := (iv_nd (iv_nd (iv_nd (iv_nd (iv_nd (iv_nd (iv_nd (iv_nd (iv_nd (iv_nd (iv_nd (some (.aload_n 0)) (some (.iload_n 1))) (iv_nd (some (.iload_n 3)) (some (.invokevirtual 199)))) (iv_nd (iv_em 1) (iv_nd (some (.ifCond .eq 21)) (iv_em 0)))) (iv_nd (iv_nd (iv_nd (iv_em 0) (some (.iload_n 2))) (iv_nd (some (.invokestatic 128)) (iv_em 0))) (iv_nd (iv_nd (iv_em 0) (some (.ifCond .eq 14))) (iv_em 1)))) (iv_nd (iv_nd (iv_nd (iv_nd (some (.iload 4)) (iv_em 0)) (iv_nd (some (.ifCond .lt 9)) (iv_em 0))) (iv_nd (iv_nd (iv_em 0) (some (.iload 4))) (iv_nd (iv_em 0) (some (.iconst 1))))) (iv_nd (iv_nd (iv_nd (some (.if_icmp .le 5)) (iv_em 0)) (iv_nd (iv_em 0) (some (.iconst (-1))))) (iv_nd (iv_nd (some (.ireturn)) (some (.aload_n 0))) (iv_nd (some (.getfield 60)) (iv_em 0)))))) (iv_nd (iv_nd (iv_nd (iv_nd (iv_nd (iv_em 0) (some (.iload_n 1))) (iv_nd (some (.aaload)) (some (.astore 5)))) (iv_nd (iv_nd (iv_em 0) (some (.aload 5))) (iv_nd (iv_em 0) (some (.iconst 2))))) (iv_nd (iv_nd (iv_nd (some (.invokevirtual 150)) (iv_em 0)) (iv_nd (iv_em 0) (some (.pop)))) (iv_nd (iv_nd (some (.aload 5)) (iv_em 0)) (iv_nd (some (.getfield 202)) (iv_em 0))))) (iv_nd (iv_nd (iv_nd (iv_nd (iv_em 0) (some (.getfield 206))) (iv_em 1)) (iv_nd (iv_nd (some (.iload_n 2)) (some (.iaload))) (iv_nd (some (.istore 6)) (iv_em 0)))) (iv_nd (iv_nd (iv_nd (some (.iload 6)) (iv_em 0)) (iv_nd (some (.ifCond .ne 5)) (iv_em 0))) (iv_nd (iv_nd (iv_em 0) (some (.iconst (-1)))) (iv_nd (some (.ireturn)) (some (.aload 5)))))))) (iv_nd (iv_nd (iv_nd (iv_nd (iv_nd (iv_nd (iv_em 0) (some (.getfield 202))) (iv_em 1)) (iv_nd (iv_nd (some (.getfield 211)) (iv_em 0)) (iv_nd (iv_em 0) (some (.iload_n 2))))) (iv_nd (iv_nd (iv_nd (some (.bipush 9)) (iv_em 0)) (iv_nd (some (.imul)) (some (.iload_n 3)))) (iv_nd (iv_nd (some (.iadd)) (some (.iaload))) (iv_nd (some (.istore 7)) (iv_em 0))))) (iv_nd (iv_nd (iv_nd (iv_nd (some (.iload 7)) (iv_em 0)) (iv_nd (some (.i2l)) (some (.iload 6)))) (iv_nd (iv_nd (iv_em 0) (some (.i2l))) (iv_nd (some (.iload 4)) (iv_em 0)))) (iv_nd (iv_nd (iv_nd (some (.invokestatic 214)) (iv_em 0)) (iv_nd (iv_em 0) (some (.l2i)))) (iv_nd (iv_nd (some (.ireturn)) (iv_em 0)) (iv_em 1))))) (iv_em 5))) (iv_em 7)) (iv_em 8)) (iv_em 9)) (iv_em 10))
set_option maxRecDepth 20000 in
def iv_code99 : iv_Tr Jvm.ClassFile.Instr 11 := (iv_nd (iv_nd (iv_nd (iv_nd (iv_nd (iv_nd (iv_nd (iv_nd (iv_nd (iv_nd (iv_nd (some (.iload_n 1)) (some (.invokestatic 94))) (iv_em 1)) (iv_nd (iv_nd (some (.ifCond .eq 35)) (iv_em 0)) (iv_nd (iv_em 0) (some (.aload_n 0))))) (iv_nd (iv_nd (iv_nd (some (.getfield 13)) (iv_em 0)) (iv_nd (iv_em 0) (some (.invokevirtual 146)))) (iv_nd (iv_em 1) (iv_nd (some (.ifCond .eq 25)) (iv_em 0))))) (iv_nd (iv_nd (iv_nd (iv_nd (iv_em 0) (some (.iload_n 2))) (iv_nd (some (.iconst (-1))) (some (.if_icmp .lt 20)))) (iv_nd (iv_em 1) (iv_nd (some (.iload_n 2)) (some (.bipush 8))))) (iv_nd (iv_nd (iv_nd (iv_em 0) (some (.if_icmp .ge 14))) (iv_em 1)) (iv_nd (iv_nd (some (.iload_n 3)) (some (.iconst (-1)))) (iv_nd (some (.if_icmp .lt 9)) (iv_em 0)))))) (iv_nd (iv_nd (iv_nd (iv_nd (iv_nd (iv_em 0) (some (.iload_n 3))) (iv_nd (some (.bipush 8)) (iv_em 0))) (iv_nd (iv_nd (some (.if_icmp .le 5)) (iv_em 0)) (iv_nd (iv_em 0) (some (.iconst (-1)))))) (iv_nd (iv_nd (iv_nd (some (.ireturn)) (some (.aload_n 0))) (iv_nd (some (.getfield 60)) (iv_em 0))) (iv_nd (iv_nd (iv_em 0) (some (.iload_n 1))) (iv_nd (some (.aaload)) (some (.astore 4)))))) (iv_nd (iv_nd (iv_nd (iv_nd (iv_em 0) (some (.aload 4))) (iv_nd (iv_em 0) (some (.iconst 2)))) (iv_nd (iv_nd (some (.invokevirtual 150)) (iv_em 0)) (iv_nd (iv_em 0) (some (.pop))))) (iv_nd (iv_nd (iv_nd (some (.iload_n 2)) (some (.iconst (-1)))) (iv_nd (some (.if_icmp .ne 7)) (iv_em 0))) (iv_nd (iv_nd (iv_em 0) (some (.iconst 0))) (iv_nd (some (.goto 4)) (iv_em 0))))))) (iv_nd (iv_nd (iv_nd (iv_nd (iv_nd (iv_nd (iv_em 0) (some (.iload_n 2))) (iv_nd (some (.istore 5)) (iv_em 0))) (iv_nd (iv_nd (some (.iload_n 2)) (some (.iconst (-1)))) (iv_nd (some (.if_icmp .ne 8)) (iv_em 0)))) (iv_nd (iv_nd (iv_nd (iv_em 0) (some (.bipush 7))) (iv_nd (iv_em 0) (some (.goto 4)))) (iv_nd (iv_em 1) (iv_nd (some (.iload_n 2)) (some (.istore 6)))))) (iv_nd (iv_nd (iv_nd (iv_nd (iv_em 0) (some (.iload_n 3))) (iv_nd (some (.iconst (-1))) (some (.if_icmp .ne 7)))) (iv_nd (iv_em 1) (iv_nd (some (.iconst 0)) (some (.goto 4))))) (iv_nd (iv_nd (iv_em 1) (iv_nd (some (.iload_n 3)) (some (.istore 7)))) (iv_nd (iv_nd (iv_em 0) (some (.iload_n 3))) (iv_nd (some (.iconst (-1))) (some (.if_icmp .ne 8))))))) (iv_nd (iv_nd (iv_nd (iv_nd (iv_em 1) (iv_nd (some (.bipush 8)) (iv_em 0))) (iv_nd (iv_nd (some (.goto 4)) (iv_em 0)) (iv_nd (iv_em 0) (some (.iload_n 3))))) (iv_nd (iv_nd (iv_nd (some (.istore 8)) (iv_em 0)) (iv_nd (some (.iconst 0)) (some (.istore 9)))) (iv_nd (iv_nd (iv_em 0) (some (.iload 5))) (iv_nd (iv_em 0) (some (.istore 10)))))) (iv_nd (iv_nd (iv_nd (iv_nd (iv_em 0) (some (.iload 10))) (iv_nd (iv_em 0) (some (.iload 6)))) (iv_nd (iv_nd (iv_em 0) (some (.if_icmp .gt 48))) (iv_em 1))) (iv_nd (iv_nd (iv_nd (some (.iload 7)) (iv_em 0)) (iv_nd (some (.istore 11)) (iv_em 0))) (iv_nd (iv_nd (some (.iload 11)) (iv_em 0)) (iv_nd (some (.iload 8)) (iv_em 0)))))))) (iv_nd (iv_nd (iv_nd (iv_nd (iv_nd (iv_nd (iv_nd (some (.if_icmp .gt 31)) (iv_em 0)) (iv_nd (iv_em 0) (some (.iload 9)))) (iv_nd (iv_nd (iv_em 0) (some (.aload 4))) (iv_nd (iv_em 0) (some (.getfield 202))))) (iv_nd (iv_nd (iv_em 1) (iv_nd (some (.getfield 218)) (iv_em 0))) (iv_nd (iv_nd (iv_em 0) (some (.iload 10))) (iv_nd (iv_em 0) (some (.bipush 9)))))) (iv_nd (iv_nd (iv_nd (iv_nd (iv_em 0) (some (.imul))) (iv_nd (some (.iload 11)) (iv_em 0))) (iv_nd (iv_nd (some (.iadd)) (some (.iaload))) (iv_nd (some (.iadd)) (some (.istore 9))))) (iv_nd (iv_nd (iv_nd (iv_em 0) (some (.iinc 11 1))) (iv_em 1)) (iv_nd (iv_nd (some (.goto (-32))) (iv_em 0)) (iv_nd (iv_em 0) (some (.iinc 10 1))))))) (iv_nd (iv_nd (iv_nd (iv_nd (iv_em 1) (iv_nd (some (.goto (-49))) (iv_em 0))) (iv_nd (iv_nd (iv_em 0) (some (.iload 9))) (iv_nd (iv_em 0) (some (.ireturn))))) (iv_em 3)) (iv_em 4))) (iv_em 6))) (iv_em 8)) (iv_em 9)) (iv_em 10))
set_option maxRecDepth 20000 in
def iv_code100 : iv_Tr Jvm.ClassFile.Instr 11 := (iv_nd (iv_nd (iv_nd (iv_nd (iv_nd (iv_nd (iv_nd (iv_nd (iv_nd (iv_nd (iv_nd (some (.aload_n 0)) (some (.iload_n 1))) (iv_nd (some (.iload_n 2)) (some (.invokevirtual 199)))) (iv_nd (iv_em 1) (iv_nd (some (.ifCond .eq 12)) (iv_em 0)))) (iv_nd (iv_nd (iv_nd (iv_em 0) (some (.iload_n 3))) (iv_nd (some (.ifCond .lt 8)) (iv_em 0))) (iv_nd (iv_nd (iv_em 0) (some (.iload_n 3))) (iv_nd (some (.iconst 2)) (some (.if_icmp .le 7)))))) (iv_nd (iv_nd (iv_nd (iv_em 1) (iv_nd (some (.ldc2_w 221)) (iv_em 0))) (iv_nd (iv_nd (iv_em 0) (some (.lreturn))) (iv_nd (some (.aload_n 0)) (some (.getfield 60))))) (iv_nd (iv_nd (iv_em 1) (iv_nd (some (.iload_n 1)) (some (.aaload)))) (iv_nd (iv_nd (some (.iconst 2)) (some (.invokevirtual 150))) (iv_em 1))))) (iv_nd (iv_nd (iv_nd (iv_nd (iv_nd (some (.getfield 202)) (iv_em 0)) (iv_nd (iv_em 0) (some (.astore 4)))) (iv_nd (iv_nd (iv_em 0) (some (.aload 4))) (iv_nd (iv_em 0) (some (.invokevirtual 223))))) (iv_nd (iv_nd (iv_em 1) (iv_nd (some (.lstore 5)) (iv_em 0))) (iv_nd (iv_nd (some (.lload 5)) (iv_em 0)) (iv_nd (some (.lconst 0)) (some (.lcmp)))))) (iv_nd (iv_nd (iv_nd (iv_nd (some (.ifCond .gt 7)) (iv_em 0)) (iv_nd (iv_em 0) (some (.ldc2_w 221)))) (iv_nd (iv_em 1) (iv_nd (some (.lreturn)) (some (.aload 4))))) (iv_nd (iv_nd (iv_nd (iv_em 0) (some (.iload_n 2))) (iv_nd (some (.lload 5)) (iv_em 0))) (iv_nd (iv_nd (some (.invokevirtual 227)) (iv_em 0)) (iv_nd (iv_em 0) (some (.lstore 7)))))))) (iv_nd (iv_nd (iv_nd (iv_nd (iv_nd (iv_nd (iv_em 0) (some (.iload_n 3))) (iv_nd (some (.ifCond .ne 17)) (iv_em 0))) (iv_nd (iv_nd (iv_em 0) (some (.aload 4))) (iv_nd (iv_em 0) (some (.iload_n 2))))) (iv_nd (iv_nd (iv_nd (some (.invokevirtual 231)) (iv_em 0)) (iv_nd (iv_em 0) (some (.i2l)))) (iv_nd (iv_nd (some (.lload 7)) (iv_em 0)) (iv_nd (some (.lload 5)) (iv_em 0))))) (iv_nd (iv_nd (iv_nd (iv_nd (some (.ldiv)) (some (.ladd))) (iv_nd (some (.lreturn)) (some (.lload 7)))) (iv_nd (iv_nd (iv_em 0) (some (.lload 5))) (iv_nd (iv_em 0) (some (.lrem))))) (iv_nd (iv_nd (iv_nd (some (.lload 5)) (iv_em 0)) (iv_nd (some (.iload_n 3)) (some (.iconst 1)))) (iv_nd (iv_nd (some (.isub)) (some (.invokestatic 214))) (iv_em 1))))) (iv_nd (iv_nd (iv_nd (iv_nd (iv_nd (some (.lreturn)) (iv_em 0)) (iv_em 1)) (iv_em 2)) (iv_em 3)) (iv_em 4)))) (iv_em 7)) (iv_em 8)) (iv_em 9)) (iv_em 10))
set_option maxRecDepth 20000 in
def iv_code101 : iv_Tr Jvm.ClassFile.Instr 11 := (iv_nd (iv_nd (iv_nd (iv_nd (iv_nd (iv_nd (iv_nd (iv_nd (iv_nd (iv_nd (iv_nd (some (.iload_n 1)) (some (.invokestatic 94))) (iv_em 1)) (iv_nd (iv_nd (some (.ifCond .eq 29)) (iv_em 0)) (iv_nd (iv_em 0) (some (.aload_n 0))))) (iv_nd (iv_nd (iv_nd (some (.getfield 13)) (iv_em 0)) (iv_nd (iv_em 0) (some (.invokevirtual 146)))) (iv_nd (iv_em 1) (iv_nd (some (.ifCond .eq 19)) (iv_em 0))))) (iv_nd (iv_nd (iv_nd (iv_nd (iv_em 0) (some (.iload_n 2))) (iv_nd (some (.invokestatic 131)) (iv_em 0))) (iv_nd (iv_nd (iv_em 0) (some (.ifCond .eq 12))) (iv_em 1))) (iv_nd (iv_nd (iv_nd (some (.iload_n 3)) (some (.ifCond .lt 8))) (iv_em 1)) (iv_nd (iv_nd (some (.iload_n 3)) (some (.iconst 1))) (iv_nd (some (.if_icmp .le 5)) (iv_em 0)))))) (iv_nd (iv_nd (iv_nd (iv_nd (iv_nd (iv_em 0) (some (.iconst (-1)))) (iv_nd (some (.ireturn)) (some (.aload_n 0)))) (iv_nd (iv_nd (some (.getfield 60)) (iv_em 0)) (iv_nd (iv_em 0) (some (.iload_n 1))))) (iv_nd (iv_nd (iv_nd (some (.aaload)) (some (.astore 4))) (iv_nd (iv_em 0) (some (.iload_n 3)))) (iv_nd (iv_nd (some (.iconst 1)) (some (.if_icmp .ne 21))) (iv_em 1)))) (iv_nd (iv_nd (iv_nd (iv_nd (some (.aload 4)) (iv_em 0)) (iv_nd (some (.bipush 8)) (iv_em 0))) (iv_nd (iv_nd (some (.invokevirtual 150)) (iv_em 0)) (iv_nd (iv_em 0) (some (.pop))))) (iv_nd (iv_nd (iv_nd (some (.aload 4)) (iv_em 0)) (iv_nd (some (.getfield 234)) (iv_em 0))) (iv_nd (iv_nd (iv_em 0) (some (.iload_n 2))) (iv_nd (some (.invokevirtual 237)) (iv_em 0))))))) (iv_nd (iv_nd (iv_nd (iv_nd (iv_nd (iv_nd (iv_em 0) (some (.ireturn))) (iv_nd (some (.aload 4)) (iv_em 0))) (iv_nd (iv_nd (some (.iconst 2)) (some (.invokevirtual 150))) (iv_em 1))) (iv_nd (iv_nd (iv_nd (some (.pop)) (some (.iconst 0))) (iv_nd (some (.istore 5)) (iv_em 0))) (iv_nd (iv_nd (some (.iconst 0)) (some (.istore 6))) (iv_nd (iv_em 0) (some (.iload 6)))))) (iv_nd (iv_nd (iv_nd (iv_nd (iv_em 0) (some (.bipush 8))) (iv_nd (iv_em 0) (some (.if_icmp .ge 38)))) (iv_nd (iv_em 1) (iv_nd (some (.aload_n 0)) (some (.getfield 13))))) (iv_nd (iv_nd (iv_em 1) (iv_nd (some (.getfield 134)) (iv_em 0))) (iv_nd (iv_nd (iv_em 0) (some (.iload 6))) (iv_nd (iv_em 0) (some (.iaload))))))) (iv_nd (iv_nd (iv_nd (iv_nd (iv_nd (some (.iload_n 2)) (some (.if_icmp .ne 18))) (iv_em 1)) (iv_nd (iv_nd (some (.iload 5)) (iv_em 0)) (iv_nd (some (.aload 4)) (iv_em 0)))) (iv_nd (iv_nd (iv_nd (some (.getfield 202)) (iv_em 0)) (iv_nd (iv_em 0) (some (.iload 6)))) (iv_nd (iv_nd (iv_em 0) (some (.invokevirtual 237))) (iv_em 1)))) (iv_nd (iv_nd (iv_nd (iv_nd (some (.iadd)) (some (.istore 5))) (iv_nd (iv_em 0) (some (.iinc 6 1)))) (iv_nd (iv_em 1) (iv_nd (some (.goto (-39))) (iv_em 0)))) (iv_nd (iv_nd (iv_nd (iv_em 0) (some (.iload 5))) (iv_nd (iv_em 0) (some (.ireturn)))) (iv_em 2)))))) (iv_em 7)) (iv_em 8)) (iv_em 9)) (iv_em 10))
set_option maxRecDepth 20000 in
def iv_code102 : iv_Tr Jvm.ClassFile.Instr 11 := (iv_nd (iv_nd (iv_nd (iv_nd (iv_nd (iv_nd (iv_nd (iv_nd (iv_nd (iv_nd (iv_nd (some (.iload_n 2)) (some (.ifCond .lt 16))) (iv_em 1)) (iv_nd (iv_nd (some (.iload_n 2)) (some (.iconst 1))) (iv_nd (some (.if_icmp .gt 11)) (iv_em 0)))) (iv_nd (iv_nd (iv_nd (iv_em 0) (some (.aload_n 0))) (iv_nd (some (.iload_n 1)) (some (.invokevirtual 137)))) (iv_nd (iv_em 1) (iv_nd (some (.ifCond .ne 7)) (iv_em 0))))) (iv_nd (iv_nd (iv_nd (iv_nd (iv_em 0) (some (.ldc2_w 221))) (iv_em 1)) (iv_nd (iv_nd (some (.lreturn)) (some (.aload_n 0))) (iv_nd (some (.getfield 50)) (iv_em 0)))) (iv_nd (iv_nd (iv_nd (iv_em 0) (some (.aload_n 0))) (iv_nd (some (.getfield 13)) (iv_em 0))) (iv_nd (iv_nd (iv_em 0) (some (.getfield 119))) (iv_em 1))))) (iv_nd (iv_nd (iv_nd (iv_nd (iv_nd (some (.iload_n 1)) (some (.iconst 4))) (iv_nd (some (.imul)) (some (.invokevirtual 240)))) (iv_nd (iv_em 1) (iv_nd (some (.lstore_n 3)) (some (.lload_n 3))))) (iv_nd (iv_nd (iv_nd (some (.lconst 0)) (some (.lcmp))) (iv_nd (some (.ifCond .ne 7)) (iv_em 0))) (iv_nd (iv_nd (iv_em 0) (some (.ldc2_w 221))) (iv_em 1)))) (iv_nd (iv_nd (iv_nd (iv_nd (some (.lreturn)) (some (.aload_n 0))) (iv_nd (some (.getfield 50)) (iv_em 0))) (iv_nd (iv_nd (iv_em 0) (some (.invokevirtual 244))) (iv_em 1))) (iv_nd (iv_nd (iv_nd (some (.lload_n 3)) (some (.iload_n 2))) (iv_nd (some (.invokestatic 214)) (iv_em 0))) (iv_nd (iv_nd (iv_em 0) (some (.lreturn))) (iv_em 1)))))) (iv_em 6)) (iv_em 7)) (iv_em 8)) (iv_em 9)) (iv_em 10))
set_option maxRecDepth 20000 in
def iv_code103 : iv_Tr Jvm.ClassFile.Instr 11 := (iv_nd (iv_nd (iv_nd (iv_nd (iv_nd (iv_nd (iv_nd (iv_nd (iv_nd (iv_nd (iv_nd (some (.iload_n 1)) (some (.invokestatic 94))) (iv_em 1)) (iv_nd (iv_nd (some (.ifCond .eq 20)) (iv_em 0)) (iv_nd (iv_em 0) (some (.iload_n 2))))) (iv_nd (iv_nd (iv_nd (some (.invokestatic 128)) (iv_em 0)) (iv_nd (iv_em 0) (some (.ifCond .eq 13)))) (iv_nd (iv_em 1) (iv_nd (some (.aload_n 0)) (some (.getfield 13)))))) (iv_nd (iv_nd (iv_nd (iv_em 1) (iv_nd (some (.invokevirtual 146)) (iv_em 0))) (iv_nd (iv_nd (iv_em 0) (some (.ifCond .ne 5))) (iv_em 1))) (iv_nd (iv_nd (iv_nd (some (.iconst (-1))) (some (.ireturn))) (iv_nd (some (.aload_n 0)) (some (.getfield 60)))) (iv_nd (iv_em 1) (iv_nd (some (.iload_n 1)) (some (.aaload))))))) (iv_nd (iv_nd (iv_nd (iv_nd (iv_nd (some (.bipush 16)) (iv_em 0)) (iv_nd (some (.invokevirtual 150)) (iv_em 0))) (iv_nd (iv_nd (iv_em 0) (some (.getfield 247))) (iv_em 1))) (iv_nd (iv_nd (iv_nd (some (.iload_n 2)) (some (.invokevirtual 237))) (iv_em 1)) (iv_nd (iv_nd (some (.ireturn)) (iv_em 0)) (iv_em 1)))) (iv_em 4))) (iv_em 6)) (iv_em 7)) (iv_em 8)) (iv_em 9)) (iv_em 10))
set_option maxRecDepth 20000 in
def iv_code104 : iv_Tr Jvm.ClassFile.Instr 11 := (iv_nd (iv_nd (iv_nd (iv_nd (iv_nd (iv_nd (iv_nd (iv_nd (iv_nd (iv_nd (iv_nd (some (.aload_n 0)) (some (.iload_n 1))) (iv_nd (some (.iload_n 2)) (some (.invokevirtual 199)))) (iv_nd (iv_em 1) (iv_nd (some (.ifCond .ne 5)) (iv_em 0)))) (iv_nd (iv_nd (iv_nd (iv_em 0) (some (.iconst (-1)))) (iv_nd (some (.ireturn)) (some (.aload_n 0)))) (iv_nd (iv_nd (some (.getfield 60)) (iv_em 0)) (iv_nd (iv_em 0) (some (.iload_n 1)))))) (iv_nd (iv_nd (iv_nd (iv_nd (some (.aaload)) (some (.iconst 4))) (iv_nd (some (.invokevirtual 150)) (iv_em 0))) (iv_nd (iv_nd (iv_em 0) (some (.getfield 250))) (iv_em 1))) (iv_nd (iv_nd (iv_nd (some (.iload_n 2)) (some (.invokevirtual 237))) (iv_em 1)) (iv_nd (iv_nd (some (.ireturn)) (iv_em 0)) (iv_em 1))))) (iv_em 5)) (iv_em 6)) (iv_em 7)) (iv_em 8)) (iv_em 9)) (iv_em 10))
set_option maxRecDepth 20000 in
def iv_code105 : iv_Tr Jvm.ClassFile.Instr 11 := (iv_nd (iv_nd (iv_nd (iv_nd (iv_nd (iv_nd (iv_nd (iv_nd (iv_nd (iv_nd (iv_nd (some (.iload_n 1)) (some (.invokestatic 94))) (iv_em 1)) (iv_nd (iv_nd (some (.ifCond .eq 13)) (iv_em 0)) (iv_nd (iv_em 0) (some (.aload_n 0))))) (iv_nd (iv_nd (iv_nd (some (.getfield 13)) (iv_em 0)) (iv_nd (iv_em 0) (some (.invokevirtual 146)))) (iv_nd (iv_em 1) (iv_nd (some (.ifCond .ne 5)) (iv_em 0))))) (iv_nd (iv_nd (iv_nd (iv_nd (iv_em 0) (some (.iconst (-1)))) (iv_nd (some (.ireturn)) (some (.aload_n 0)))) (iv_nd (iv_nd (some (.getfield 60)) (iv_em 0)) (iv_nd (iv_em 0) (some (.iload_n 1))))) (iv_nd (iv_nd (iv_nd (some (.aaload)) (some (.astore_n 2))) (iv_nd (some (.aload_n 2)) (some (.iconst 4)))) (iv_nd (iv_nd (some (.invokevirtual 150)) (iv_em 0)) (iv_nd (iv_em 0) (some (.pop))))))) (iv_nd (iv_nd (iv_nd (iv_nd (iv_nd (some (.iconst 0)) (some (.istore_n 3))) (iv_nd (some (.iconst 0)) (some (.istore 4)))) (iv_nd (iv_nd (iv_em 0) (some (.iload 4))) (iv_nd (iv_em 0) (some (.bipush 8))))) (iv_nd (iv_nd (iv_nd (iv_em 0) (some (.if_icmp .ge 32))) (iv_em 1)) (iv_nd (iv_nd (some (.iload_n 3)) (some (.aload_n 2))) (iv_nd (some (.getfield 190)) (iv_em 0))))) (iv_nd (iv_nd (iv_nd (iv_nd (iv_em 0) (some (.iload 4))) (iv_nd (iv_em 0) (some (.iaload)))) (iv_nd (iv_nd (some (.aload_n 2)) (some (.getfield 250))) (iv_em 1))) (iv_nd (iv_nd (iv_nd (some (.iload 4)) (iv_em 0)) (iv_nd (some (.invokevirtual 237)) (iv_em 0))) (iv_nd (iv_nd (iv_em 0) (some (.isub))) (iv_nd (some (.invokestatic 253)) (iv_em 0))))))) (iv_nd (iv_nd (iv_nd (iv_nd (iv_nd (iv_nd (iv_em 0) (some (.iadd))) (iv_nd (some (.istore_n 3)) (some (.iinc 4 1)))) (iv_nd (iv_em 1) (iv_nd (some (.goto (-33))) (iv_em 0)))) (iv_nd (iv_nd (iv_nd (iv_em 0) (some (.iload_n 3))) (iv_nd (some (.ireturn)) (iv_em 0))) (iv_em 2))) (iv_em 4)) (iv_em 5))) (iv_em 7)) (iv_em 8)) (iv_em 9)) (iv_em 10))
set_option maxRecDepth 20000 in
def iv_code106 : iv_Tr Jvm.ClassFile.Instr 11 := (iv_nd (iv_nd (iv_nd (iv_nd (iv_nd (iv_nd (iv_nd (iv_nd (iv_nd (iv_nd (iv_nd (some (.iload_n 1)) (some (.invokestatic 94))) (iv_em 1)) (iv_nd (iv_nd (some (.ifCond .eq 36)) (iv_em 0)) (iv_nd (iv_em 0) (some (.aload_n 0))))) (iv_nd (iv_nd (iv_nd (some (.getfield 13)) (iv_em 0)) (iv_nd (iv_em 0) (some (.invokevirtual 146)))) (iv_nd (iv_em 1) (iv_nd (some (.ifCond .eq 26)) (iv_em 0))))) (iv_nd (iv_nd (iv_nd (iv_nd (iv_em 0) (some (.aload_n 0))) (iv_nd (some (.getfield 13)) (iv_em 0))) (iv_nd (iv_nd (iv_em 0) (some (.iload_n 2))) (iv_nd (some (.iload_n 3)) (some (.invokevirtual 170))))) (iv_nd (iv_nd (iv_em 1) (iv_nd (some (.ifCond .eq 14)) (iv_em 0))) (iv_nd (iv_nd (iv_em 0) (some (.iload 4))) (iv_nd (iv_em 0) (some (.ifCond .lt 9))))))) (iv_nd (iv_nd (iv_nd (iv_nd (iv_em 1) (iv_nd (some (.iload 4)) (iv_em 0))) (iv_nd (iv_nd (some (.iconst 1)) (some (.if_icmp .le 7))) (iv_em 1))) (iv_nd (iv_nd (iv_nd (some (.ldc2_w 221)) (iv_em 0)) (iv_nd (iv_em 0) (some (.lreturn)))) (iv_nd (iv_nd (some (.aload_n 0)) (some (.getfield 60))) (iv_em 1)))) (iv_nd (iv_nd (iv_nd (iv_nd (some (.iload_n 1)) (some (.aaload))) (iv_nd (some (.astore 5)) (iv_em 0))) (iv_nd (iv_nd (some (.aload 5)) (iv_em 0)) (iv_nd (some (.iconst 2)) (some (.invokevirtual 150))))) (iv_nd (iv_nd (iv_em 1) (iv_nd (some (.pop)) (some (.iload_n 2)))) (iv_nd (iv_nd (some (.aload_n 0)) (some (.getfield 13))) (iv_em 1)))))) (iv_nd (iv_nd (iv_nd (iv_nd (iv_nd (iv_nd (some (.getfield 174)) (iv_em 0)) (iv_nd (iv_em 0) (some (.imul)))) (iv_nd (iv_nd (some (.iload_n 3)) (some (.iadd))) (iv_nd (some (.istore 6)) (iv_em 0)))) (iv_nd (iv_nd (iv_nd (some (.aload 5)) (iv_em 0)) (iv_nd (some (.iload 6)) (iv_em 0))) (iv_nd (iv_nd (some (.invokevirtual 258)) (iv_em 0)) (iv_nd (iv_em 0) (some (.i2l)))))) (iv_nd (iv_nd (iv_nd (iv_nd (some (.aload 5)) (iv_em 0)) (iv_nd (some (.iload 6)) (iv_em 0))) (iv_nd (iv_nd (some (.invokevirtual 261)) (iv_em 0)) (iv_nd (iv_em 0) (some (.i2l))))) (iv_nd (iv_nd (iv_nd (some (.iload 4)) (iv_em 0)) (iv_nd (some (.invokestatic 214)) (iv_em 0))) (iv_nd (iv_nd (iv_em 0) (some (.lreturn))) (iv_em 1))))) (iv_em 5))) (iv_em 7)) (iv_em 8)) (iv_em 9)) (iv_em 10))
set_option maxRecDepth 20000 in
def iv_code107 : iv_Tr Jvm.ClassFile.Instr 11 := (iv_nd (iv_nd (iv_nd (iv_nd (iv_nd (iv_nd (iv_nd (iv_nd (iv_nd (iv_nd (iv_nd (some (.iload_n 1)) (some (.invokestatic 94))) (iv_em 1)) (iv_nd (iv_nd (some (.ifCond .eq 28)) (iv_em 0)) (iv_nd (iv_em 0) (some (.aload_n 0))))) (iv_nd (iv_nd (iv_nd (some (.getfield 13)) (iv_em 0)) (iv_nd (iv_em 0) (some (.invokevirtual 146)))) (iv_nd (iv_em 1) (iv_nd (some (.ifCond .eq 18)) (iv_em 0))))) (iv_nd (iv_nd (iv_nd (iv_nd (iv_em 0) (some (.iload_n 2))) (iv_nd (some (.ifCond .lt 14)) (iv_em 0))) (iv_nd (iv_nd (iv_em 0) (some (.iload_n 2))) (iv_nd (some (.aload_n 0)) (some (.getfield 13))))) (iv_nd (iv_nd (iv_em 1) (iv_nd (some (.invokevirtual 90)) (iv_em 0))) (iv_nd (iv_nd (iv_em 0) (some (.if_icmp .lt 5))) (iv_em 1))))) (iv_nd (iv_nd (iv_nd (iv_nd (iv_nd (some (.iconst (-1))) (some (.ireturn))) (iv_nd (some (.aload_n 0)) (some (.getfield 60)))) (iv_nd (iv_em 1) (iv_nd (some (.iload_n 1)) (some (.aaload))))) (iv_nd (iv_nd (iv_nd (some (.astore_n 3)) (some (.aload_n 3))) (iv_nd (some (.bipush 32)) (iv_em 0))) (iv_nd (iv_nd (some (.invokevirtual 150)) (iv_em 0)) (iv_nd (iv_em 0) (some (.pop)))))) (iv_nd (iv_nd (iv_nd (iv_nd (some (.aload_n 3)) (some (.getfield 264))) (iv_em 1)) (iv_nd (iv_nd (some (.iload_n 2)) (some (.iaload))) (iv_nd (some (.istore 4)) (iv_em 0)))) (iv_nd (iv_nd (iv_nd (some (.iconst 1)) (some (.aload_n 0))) (iv_nd (some (.getfield 13)) (iv_em 0))) (iv_nd (iv_nd (iv_em 0) (some (.getfield 174))) (iv_em 1)))))) (iv_nd (iv_nd (iv_nd (iv_nd (iv_nd (iv_nd (some (.invokestatic 267)) (iv_em 0)) (iv_nd (iv_em 0) (some (.istore 5)))) (iv_nd (iv_nd (iv_em 0) (some (.bipush 12))) (iv_nd (iv_em 0) (some (.iload 4))))) (iv_nd (iv_nd (iv_nd (iv_em 0) (some (.iload 5))) (iv_nd (iv_em 0) (some (.idiv)))) (iv_nd (iv_nd (some (.imul)) (some (.iload 4))) (iv_nd (iv_em 0) (some (.iload 5)))))) (iv_nd (iv_nd (iv_nd (iv_nd (iv_em 0) (some (.irem))) (iv_nd (some (.iadd)) (some (.ireturn)))) (iv_em 2)) (iv_em 3))) (iv_em 5))) (iv_em 7)) (iv_em 8)) (iv_em 9)) (iv_em 10))
set_option maxRecDepth 20000 in
def iv_code108 : iv_Tr Jvm.ClassFile.Instr 11 := (iv_nd (iv_nd (iv_nd (iv_nd (iv_nd (iv_nd (iv_nd (iv_nd (iv_nd (iv_nd (iv_nd (some (.iload_n 1)) (some (.invokestatic 94))) (iv_em 1)) (iv_nd (iv_nd (some (.ifCond .eq 29)) (iv_em 0)) (iv_nd (iv_em 0) (some (.iload_n 2))))) (iv_nd (iv_nd (iv_nd (some (.invokestatic 128)) (iv_em 0)) (iv_nd (iv_em 0) (some (.ifCond .eq 22)))) (iv_nd (iv_em 1) (iv_nd (some (.aload_n 0)) (some (.getfield 13)))))) (iv_nd (iv_nd (iv_nd (iv_em 1) (iv_nd (some (.invokevirtual 146)) (iv_em 0))) (iv_nd (iv_nd (iv_em 0) (some (.ifCond .eq 12))) (iv_em 1))) (iv_nd (iv_nd (iv_nd (some (.iload_n 3)) (some (.ifCond .lt 8))) (iv_em 1)) (iv_nd (iv_nd (some (.iload_n 3)) (some (.iconst 3))) (iv_nd (some (.if_icmp .le 7)) (iv_em 0)))))) (iv_nd (iv_nd (iv_nd (iv_nd (iv_nd (iv_em 0) (some (.ldc2_w 270))) (iv_em 1)) (iv_nd (iv_nd (some (.lreturn)) (some (.aload_n 0))) (iv_nd (some (.getfield 13)) (iv_em 0)))) (iv_nd (iv_nd (iv_nd (iv_em 0) (some (.iconst 1))) (iv_nd (some (.iload_n 2)) (some (.invokevirtual 272)))) (iv_nd (iv_em 1) (iv_nd (some (.istore 4)) (iv_em 0))))) (iv_nd (iv_nd (iv_nd (iv_nd (some (.iload 4)) (iv_em 0)) (iv_nd (some (.ifCond .ne 7)) (iv_em 0))) (iv_nd (iv_nd (iv_em 0) (some (.ldc2_w 270))) (iv_em 1))) (iv_nd (iv_nd (iv_nd (some (.lreturn)) (some (.aload_n 0))) (iv_nd (some (.getfield 60)) (iv_em 0))) (iv_nd (iv_nd (iv_em 0) (some (.iload_n 1))) (iv_nd (some (.aaload)) (some (.astore 5)))))))) (iv_nd (iv_nd (iv_nd (iv_nd (iv_nd (iv_nd (iv_em 0) (some (.aload 5))) (iv_nd (iv_em 0) (some (.iconst 2)))) (iv_nd (iv_nd (some (.invokevirtual 150)) (iv_em 0)) (iv_nd (iv_em 0) (some (.pop))))) (iv_nd (iv_nd (iv_nd (some (.aload 5)) (iv_em 0)) (iv_nd (some (.getfield 202)) (iv_em 0))) (iv_nd (iv_nd (iv_em 0) (some (.iload_n 2))) (iv_nd (some (.invokevirtual 237)) (iv_em 0))))) (iv_nd (iv_nd (iv_nd (iv_nd (iv_em 0) (some (.i2d))) (iv_nd (some (.iload 4)) (iv_em 0))) (iv_nd (iv_nd (some (.i2d)) (some (.ddiv))) (iv_nd (some (.dstore 6)) (iv_em 0)))) (iv_nd (iv_nd (iv_nd (some (.iload_n 3)) (some (.tableswitch 51 0 2 #[27, 33, 40]))) (iv_em 1)) (iv_em 2)))) (iv_nd (iv_em 4) (iv_nd (iv_nd (iv_em 2) (iv_nd (iv_nd (some (.dload 6)) (iv_em 0)) (iv_nd (some (.invokestatic 275)) (iv_em 0)))) (iv_nd (iv_nd (iv_nd (iv_em 0) (some (.lreturn))) (iv_nd (some (.dload 6)) (iv_em 0))) (iv_nd (iv_nd (some (.d2f)) (some (.invokestatic 281))) (iv_em 1))))))) (iv_nd (iv_nd (iv_nd (iv_nd (iv_nd (iv_nd (iv_nd (some (.lreturn)) (some (.dload 6))) (iv_nd (iv_em 0) (some (.dload 6)))) (iv_nd (iv_nd (iv_em 0) (some (.d2l))) (iv_nd (some (.l2d)) (some (.dsub))))) (iv_nd (iv_nd (iv_nd (some (.invokestatic 275)) (iv_em 0)) (iv_nd (iv_em 0) (some (.lreturn)))) (iv_nd (iv_nd (some (.dload 6)) (iv_em 0)) (iv_nd (some (.ldc2_w 285)) (iv_em 0))))) (iv_nd (iv_nd (iv_nd (iv_nd (iv_em 0) (some (.ddiv))) (iv_nd (some (.d2l)) (some (.lreturn)))) (iv_em 2)) (iv_em 3))) (iv_em 5)) (iv_em 6))) (iv_em 8)) (iv_em 9)) (iv_em 10))
set_option maxRecDepth 20000 in
def iv_code109 : iv_Tr Jvm.ClassFile.Instr 11 := (iv_nd (iv_nd (iv_nd (iv_nd (iv_nd (iv_nd (iv_nd (iv_nd (iv_nd (iv_nd (iv_nd (some (.iload_n 1)) (some (.invokestatic 94))) (iv_em 1)) (iv_nd (iv_nd (some (.ifCond .eq 13)) (iv_em 0)) (iv_nd (iv_em 0) (some (.aload_n 0))))) (iv_nd (iv_nd (iv_nd (some (.getfield 13)) (iv_em 0)) (iv_nd (iv_em 0) (some (.invokevirtual 146)))) (iv_nd (iv_em 1) (iv_nd (some (.ifCond .ne 7)) (iv_em 0))))) (iv_nd (iv_nd (iv_nd (iv_nd (iv_em 0) (some (.ldc2_w 270))) (iv_em 1)) (iv_nd (iv_nd (some (.lreturn)) (some (.aload_n 0))) (iv_nd (some (.getfield 60)) (iv_em 0)))) (iv_nd (iv_nd (iv_nd (iv_em 0) (some (.iload_n 1))) (iv_nd (some (.aaload)) (some (.astore_n 2)))) (iv_nd (iv_nd (some (.aload_n 2)) (some (.iconst 2))) (iv_nd (some (.invokevirtual 150)) (iv_em 0)))))) (iv_nd (iv_nd (iv_nd (iv_nd (iv_nd (iv_em 0) (some (.pop))) (iv_nd (some (.dconst 0)) (some (.dstore_n 3)))) (iv_nd (iv_nd (some (.iconst 0)) (some (.istore 5))) (iv_nd (iv_em 0) (some (.iload 5))))) (iv_nd (iv_nd (iv_nd (iv_em 0) (some (.bipush 72))) (iv_nd (iv_em 0) (some (.if_icmp .ge 46)))) (iv_nd (iv_em 1) (iv_nd (some (.aload_n 2)) (some (.getfield 202)))))) (iv_nd (iv_nd (iv_nd (iv_em 1) (iv_nd (some (.getfield 206)) (iv_em 0))) (iv_nd (iv_nd (iv_em 0) (some (.iload 5))) (iv_nd (iv_em 0) (some (.bipush 9))))) (iv_nd (iv_nd (iv_nd (iv_em 0) (some (.idiv))) (iv_nd (some (.iaload)) (some (.istore 6)))) (iv_nd (iv_nd (iv_em 0) (some (.iload 6))) (iv_nd (iv_em 0) (some (.ifCond .le 20)))))))) (iv_nd (iv_nd (iv_nd (iv_nd (iv_nd (iv_em 1) (iv_nd (some (.dload_n 3)) (some (.aload_n 2)))) (iv_nd (iv_nd (some (.getfield 202)) (iv_em 0)) (iv_nd (iv_em 0) (some (.iload 5))))) (iv_nd (iv_nd (iv_nd (iv_em 0) (some (.invokevirtual 287))) (iv_em 1)) (iv_nd (iv_nd (some (.l2d)) (some (.iload 6))) (iv_nd (iv_em 0) (some (.i2d)))))) (iv_nd (iv_nd (iv_nd (iv_nd (some (.ddiv)) (some (.dadd))) (iv_nd (some (.dstore_n 3)) (some (.iinc 5 1)))) (iv_nd (iv_em 1) (iv_nd (some (.goto (-47))) (iv_em 0)))) (iv_nd (iv_nd (iv_nd (iv_em 0) (some (.dload_n 3))) (iv_nd (some (.invokestatic 275)) (iv_em 0))) (iv_nd (iv_nd (iv_em 0) (some (.lreturn))) (iv_em 1))))) (iv_em 5))) (iv_em 7)) (iv_em 8)) (iv_em 9)) (iv_em 10))
set_option maxRecDepth 20000 in
def iv_code110 : iv_Tr Jvm.ClassFile.Instr 11 := (iv_nd (iv_nd (iv_nd (iv_nd (iv_nd (iv_nd (iv_nd (iv_nd (iv_nd (iv_nd (iv_nd (some (.iload_n 1)) (some (.ifCond .lt 30))) (iv_em 1)) (iv_nd (iv_nd (some (.iload_n 1)) (some (.iconst 3))) (iv_nd (some (.if_icmp .gt 25)) (iv_em 0)))) (iv_nd (iv_nd (iv_nd (iv_em 0) (some (.aload_n 0))) (iv_nd (some (.getfield 13)) (iv_em 0))) (iv_nd (iv_nd (iv_em 0) (some (.iconst 0))) (iv_nd (some (.invokevirtual 75)) (iv_em 0))))) (iv_nd (iv_nd (iv_nd (iv_nd (iv_em 0) (some (.ifCond .eq 14))) (iv_em 1)) (iv_nd (iv_nd (some (.aload_n 0)) (some (.getfield 13))) (iv_em 1))) (iv_nd (iv_nd (iv_nd (some (.iconst 1)) (some (.invokevirtual 75))) (iv_em 1)) (iv_nd (iv_nd (some (.ifCond .ne 5)) (iv_em 0)) (iv_nd (iv_em 0) (some (.iconst (-1)))))))) (iv_nd (iv_nd (iv_nd (iv_nd (iv_nd (some (.ireturn)) (some (.iload_n 1))) (iv_nd (some (.ifCond .ne 11)) (iv_em 0))) (iv_nd (iv_nd (iv_em 0) (some (.aload_n 0))) (iv_nd (some (.getfield 13)) (iv_em 0)))) (iv_nd (iv_nd (iv_nd (iv_em 0) (some (.invokevirtual 291))) (iv_em 1)) (iv_nd (iv_nd (some (.ireturn)) (some (.iconst 0))) (iv_nd (some (.istore_n 2)) (some (.iconst 0)))))) (iv_nd (iv_nd (iv_nd (iv_nd (some (.istore_n 3)) (some (.iload_n 3))) (iv_nd (some (.bipush 8)) (iv_em 0))) (iv_nd (iv_nd (some (.if_icmp .ge 21)) (iv_em 0)) (iv_nd (iv_em 0) (some (.aload_n 0))))) (iv_nd (iv_nd (iv_nd (some (.iload_n 3)) (some (.iload_n 1))) (iv_nd (some (.invokevirtual 294)) (iv_em 0))) (iv_nd (iv_nd (iv_em 0) (some (.ifCond .eq 6))) (iv_em 1)))))) (iv_nd (iv_nd (iv_nd (iv_nd (iv_nd (iv_nd (some (.iinc 2 1)) (iv_em 0)) (iv_nd (iv_em 0) (some (.iinc 3 1)))) (iv_nd (iv_em 1) (iv_nd (some (.goto (-21))) (iv_em 0)))) (iv_nd (iv_nd (iv_nd (iv_em 0) (some (.iload_n 2))) (iv_nd (some (.ireturn)) (iv_em 0))) (iv_em 2))) (iv_em 4)) (iv_em 5))) (iv_em 7)) (iv_em 8)) (iv_em 9)) (iv_em 10))
set_option maxRecDepth 20000 in
def iv_code111 : iv_Tr Jvm.ClassFile.Instr 11 := (iv_nd (iv_nd (iv_nd (iv_nd (iv_nd (iv_nd (iv_nd (iv_nd (iv_nd (iv_nd (iv_nd (some (.iload_n 1)) (some (.tableswitch 163 0 11 #[63, 71, 79, 90, 101, 111, 119, 127, 135, 143, 151, 157]))) (iv_em 1)) (iv_em 2)) (iv_em 3)) (iv_em 4)) (iv_em 5)) (iv_nd (iv_nd (iv_nd (iv_nd (iv_nd (iv_nd (some (.aload_n 0)) (some (.getfield 13))) (iv_em 1)) (iv_nd (iv_nd (some (.invokevirtual 90)) (iv_em 0)) (iv_nd (iv_em 0) (some (.ireturn))))) (iv_nd (iv_nd (iv_nd (some (.aload_n 0)) (some (.getfield 13))) (iv_em 1)) (iv_nd (iv_nd (some (.getfield 297)) (iv_em 0)) (iv_nd (iv_em 0) (some (.ireturn)))))) (iv_nd (iv_nd (iv_nd (iv_nd (some (.aload_n 0)) (some (.getfield 13))) (iv_em 1)) (iv_nd (iv_nd (some (.iconst 0)) (some (.bipush 8))) (iv_nd (iv_em 0) (some (.invokevirtual 300))))) (iv_nd (iv_nd (iv_em 1) (iv_nd (some (.ireturn)) (some (.aload_n 0)))) (iv_nd (iv_nd (some (.getfield 13)) (iv_em 0)) (iv_nd (iv_em 0) (some (.iconst 1))))))) (iv_nd (iv_nd (iv_nd (iv_nd (iv_nd (some (.bipush 8)) (iv_em 0)) (iv_nd (some (.invokevirtual 300)) (iv_em 0))) (iv_nd (iv_nd (iv_em 0) (some (.ireturn))) (iv_nd (some (.aload_n 0)) (some (.getfield 13))))) (iv_nd (iv_nd (iv_em 1) (iv_nd (some (.iconst 2)) (some (.iconst 4)))) (iv_nd (iv_nd (some (.invokevirtual 300)) (iv_em 0)) (iv_nd (iv_em 0) (some (.ireturn)))))) (iv_nd (iv_nd (iv_nd (iv_nd (some (.aload_n 0)) (some (.getfield 13))) (iv_em 1)) (iv_nd (iv_nd (some (.getfield 122)) (iv_em 0)) (iv_nd (iv_em 0) (some (.ireturn))))) (iv_nd (iv_nd (iv_nd (some (.aload_n 0)) (some (.getfield 13))) (iv_em 1)) (iv_nd (iv_nd (some (.getfield 125)) (iv_em 0)) (iv_nd (iv_em 0) (some (.ireturn))))))))) (iv_nd (iv_nd (iv_nd (iv_nd (iv_nd (iv_nd (iv_nd (some (.aload_n 0)) (some (.getfield 13))) (iv_em 1)) (iv_nd (iv_nd (some (.getfield 303)) (iv_em 0)) (iv_nd (iv_em 0) (some (.ireturn))))) (iv_nd (iv_nd (iv_nd (some (.aload_n 0)) (some (.getfield 29))) (iv_em 1)) (iv_nd (iv_nd (some (.getfield 160)) (iv_em 0)) (iv_nd (iv_em 0) (some (.ireturn)))))) (iv_nd (iv_nd (iv_nd (iv_nd (some (.aload_n 0)) (some (.getfield 22))) (iv_em 1)) (iv_nd (iv_nd (some (.getfield 67)) (iv_em 0)) (iv_nd (iv_em 0) (some (.ireturn))))) (iv_nd (iv_nd (iv_nd (some (.aload_n 0)) (some (.iconst 1))) (iv_nd (some (.invokevirtual 306)) (iv_em 0))) (iv_nd (iv_nd (iv_em 0) (some (.ireturn))) (iv_nd (some (.aload_n 0)) (some (.iconst 0))))))) (iv_nd (iv_nd (iv_nd (iv_nd (iv_nd (some (.invokevirtual 306)) (iv_em 0)) (iv_nd (iv_em 0) (some (.ireturn)))) (iv_nd (iv_nd (some (.iconst (-1))) (some (.ireturn))) (iv_em 1))) (iv_em 3)) (iv_em 4))) (iv_em 6))) (iv_em 8)) (iv_em 9)) (iv_em 10))
set_option maxRecDepth 20000 in
def iv_code112 : iv_Tr Jvm.ClassFile.Instr 11 := (iv_nd (iv_nd (iv_nd (iv_nd (iv_nd (iv_nd (iv_nd (iv_nd (iv_nd (iv_nd (iv_nd (some (.iload_n 1)) (some (.invokestatic 94))) (iv_em 1)) (iv_nd (iv_nd (some (.ifCond .eq 26)) (iv_em 0)) (iv_nd (iv_em 0) (some (.iload_n 2))))) (iv_nd (iv_nd (iv_nd (some (.invokestatic 116)) (iv_em 0)) (iv_nd (iv_em 0) (some (.ifCond .eq 19)))) (iv_nd (iv_em 1) (iv_nd (some (.aload_n 0)) (some (.getfield 13)))))) (iv_nd (iv_nd (iv_nd (iv_em 1) (iv_nd (some (.getfield 119)) (iv_em 0))) (iv_nd (iv_nd (iv_em 0) (some (.iload_n 1))) (iv_nd (some (.iconst 4)) (some (.imul))))) (iv_nd (iv_nd (iv_nd (some (.iload_n 2)) (some (.iadd))) (iv_nd (some (.iaload)) (some (.goto 4)))) (iv_nd (iv_em 1) (iv_nd (some (.iconst (-1))) (some (.ireturn))))))) (iv_em 5)) (iv_em 6)) (iv_em 7)) (iv_em 8)) (iv_em 9)) (iv_em 10))
set_option maxRecDepth 20000 in
def iv_code113 : iv_Tr Jvm.ClassFile.Instr 11 := (iv_nd (iv_nd (iv_nd (iv_nd (iv_nd (iv_nd (iv_nd (iv_nd (iv_nd (iv_nd (iv_nd (some (.iload_n 1)) (some (.invokestatic 128))) (iv_em 1)) (iv_nd (iv_nd (some (.ifCond .eq 15)) (iv_em 0)) (iv_nd (iv_em 0) (some (.aload_n 0))))) (iv_nd (iv_nd (iv_nd (some (.getfield 13)) (iv_em 0)) (iv_nd (iv_em 0) (some (.getfield 134)))) (iv_nd (iv_em 1) (iv_nd (some (.iload_n 1)) (some (.iaload)))))) (iv_nd (iv_nd (iv_nd (iv_nd (some (.goto 4)) (iv_em 0)) (iv_nd (iv_em 0) (some (.iconst (-1))))) (iv_nd (iv_nd (some (.ireturn)) (iv_em 0)) (iv_em 1))) (iv_em 3))) (iv_em 5)) (iv_em 6)) (iv_em 7)) (iv_em 8)) (iv_em 9)) (iv_em 10))
set_option maxRecDepth 20000 in
def iv_code114 : iv_Tr Jvm.ClassFile.Instr 11 := (iv_nd (iv_nd (iv_nd (iv_nd (iv_nd (iv_nd (iv_nd (iv_nd (iv_nd (iv_nd (iv_nd (some (.iload_n 0)) (some (.ifCond .lt 12))) (iv_em 1)) (iv_nd (iv_nd (some (.iload_n 0)) (some (.iconst 3))) (iv_nd (some (.if_icmp .ge 7)) (iv_em 0)))) (iv_nd (iv_nd (iv_nd (iv_em 0) (some (.iconst 1))) (iv_nd (some (.goto 4)) (iv_em 0))) (iv_nd (iv_nd (iv_em 0) (some (.iconst 0))) (iv_nd (some (.ireturn)) (iv_em 0))))) (iv_em 4)) (iv_em 5)) (iv_em 6)) (iv_em 7)) (iv_em 8)) (iv_em 9)) (iv_em 10))
set_option maxRecDepth 20000 in
def iv_code115 : iv_Tr Jvm.ClassFile.Instr 11 := (iv_nd (iv_nd (iv_nd (iv_nd (iv_nd (iv_nd (iv_nd (iv_nd (iv_nd (iv_nd (iv_nd (some (.iload_n 0)) (some (.ifCond .lt 13))) (iv_em 1)) (iv_nd (iv_nd (some (.iload_n 0)) (some (.bipush 8))) (iv_nd (iv_em 0) (some (.if_icmp .ge 7))))) (iv_nd (iv_nd (iv_em 1) (iv_nd (some (.iconst 1)) (some (.goto 4)))) (iv_nd (iv_em 1) (iv_nd (some (.iconst 0)) (some (.ireturn)))))) (iv_em 4)) (iv_em 5)) (iv_em 6)) (iv_em 7)) (iv_em 8)) (iv_em 9)) (iv_em 10))
set_option maxRecDepth 20000 in
def iv_code116 : iv_Tr Jvm.ClassFile.Instr 11 := (iv_nd (iv_nd (iv_nd (iv_nd (iv_nd (iv_nd (iv_nd (iv_nd (iv_nd (iv_nd (iv_nd (some (.iload_n 0)) (some (.ifCond .lt 12))) (iv_em 1)) (iv_nd (iv_nd (some (.iload_n 0)) (some (.iconst 4))) (iv_nd (some (.if_icmp .ge 7)) (iv_em 0)))) (iv_nd (iv_nd (iv_nd (iv_em 0) (some (.iconst 1))) (iv_nd (some (.goto 4)) (iv_em 0))) (iv_nd (iv_nd (iv_em 0) (some (.iconst 0))) (iv_nd (some (.ireturn)) (iv_em 0))))) (iv_em 4)) (iv_em 5)) (iv_em 6)) (iv_em 7)) (iv_em 8)) (iv_em 9)) (iv_em 10))
set_option maxRecDepth 20000 in
def iv_code117 : iv_Tr Jvm.ClassFile.Instr 11 := (iv_nd (iv_nd (iv_nd (iv_nd (iv_nd (iv_nd (iv_nd (iv_nd (iv_nd (iv_nd (iv_nd (some (.iload_n 0)) (some (.ifCond .lt 12))) (iv_em 1)) (iv_nd (iv_nd (some (.iload_n 0)) (some (.iconst 4))) (iv_nd (some (.if_icmp .ge 7)) (iv_em 0)))) (iv_nd (iv_nd (iv_nd (iv_em 0) (some (.iconst 1))) (iv_nd (some (.goto 4)) (iv_em 0))) (iv_nd (iv_nd (iv_em 0) (some (.iconst 0))) (iv_nd (some (.ireturn)) (iv_em 0))))) (iv_em 4)) (iv_em 5)) (iv_em 6)) (iv_em 7)) (iv_em 8)) (iv_em 9)) (iv_em 10))
set_option maxRecDepth 20000 in
def iv_code118 : iv_Tr Jvm.ClassFile.Instr 11 := (iv_nd (iv_nd (iv_nd (iv_nd (iv_nd (iv_nd (iv_nd (iv_nd (iv_nd (iv_nd (iv_nd (some (.iload_n 1)) (some (.invokestatic 94))) (iv_em 1)) (iv_nd (iv_nd (some (.ifCond .eq 27)) (iv_em 0)) (iv_nd (iv_em 0) (some (.iload_n 2))))) (iv_nd (iv_nd (iv_nd (some (.ifCond .lt 23)) (iv_em 0)) (iv_nd (iv_em 0) (some (.iload_n 2)))) (iv_nd (iv_nd (some (.bipush 8)) (iv_em 0)) (iv_nd (some (.if_icmp .gt 17)) (iv_em 0))))) (iv_nd (iv_nd (iv_nd (iv_nd (iv_em 0) (some (.aload_n 0))) (iv_nd (some (.getfield 13)) (iv_em 0))) (iv_nd (iv_nd (iv_em 0) (some (.invokevirtual 146))) (iv_em 1))) (iv_nd (iv_nd (iv_nd (some (.ifCond .eq 7)) (iv_em 0)) (iv_nd (iv_em 0) (some (.iconst 1)))) (iv_nd (iv_nd (some (.goto 4)) (iv_em 0)) (iv_nd (iv_em 0) (some (.iconst 0))))))) (iv_nd (iv_nd (iv_nd (iv_nd (iv_nd (some (.ireturn)) (iv_em 0)) (iv_em 1)) (iv_em 2)) (iv_em 3)) (iv_em 4))) (iv_em 6)) (iv_em 7)) (iv_em 8)) (iv_em 9)) (iv_em 10))
set_option maxRecDepth 20000 in
def iv_code119 : iv_Tr Jvm.ClassFile.Instr 11 := (iv_nd (iv_nd (iv_nd (iv_nd (iv_nd (iv_nd (iv_nd (iv_nd (iv_nd (iv_nd (iv_nd (some (.aload_n 0)) (some (.getfield 29))) (iv_em 1)) (iv_nd (iv_nd (some (.aload_n 0)) (some (.getfield 13))) (iv_em 1))) (iv_nd (iv_nd (iv_nd (some (.invokevirtual 310)) (iv_em 0)) (iv_nd (iv_em 0) (some (.aload_n 0)))) (iv_nd (iv_nd (some (.invokevirtual 163)) (iv_em 0)) (iv_nd (iv_em 0) (some (.return_)))))) (iv_em 4)) (iv_em 5)) (iv_em 6)) (iv_em 7)) (iv_em 8)) (iv_em 9)) (iv_em 10))
set_option maxRecDepth 20000 in
def iv_code120 : iv_Tr Jvm.ClassFile.Instr 11 := (iv_nd (iv_nd (iv_nd (iv_nd (iv_nd (iv_nd (iv_nd (iv_nd (iv_nd (iv_nd (iv_nd (some (.iconst 0)) (some (.istore_n 1))) (iv_nd (some (.iload_n 1)) (some (.iconst 3)))) (iv_nd (iv_nd (some (.if_icmp .ge 19)) (iv_em 0)) (iv_nd (iv_em 0) (some (.aload_n 0))))) (iv_nd (iv_nd (iv_nd (some (.getfield 60)) (iv_em 0)) (iv_nd (iv_em 0) (some (.iload_n 1)))) (iv_nd (iv_nd (some (.aaload)) (some (.iconst 0))) (iv_nd (some (.putfield 313)) (iv_em 0))))) (iv_nd (iv_nd (iv_nd (iv_nd (iv_em 0) (some (.iinc 1 1))) (iv_em 1)) (iv_nd (iv_nd (some (.goto (-18))) (iv_em 0)) (iv_nd (iv_em 0) (some (.return_))))) (iv_em 3))) (iv_em 5)) (iv_em 6)) (iv_em 7)) (iv_em 8)) (iv_em 9)) (iv_em 10))
set_option maxRecDepth 20000 in
def iv_code121 : iv_Tr Jvm.ClassFile.Instr 11 := (iv_nd (iv_nd (iv_nd (iv_nd (iv_nd (iv_nd (iv_nd (iv_nd (iv_nd (iv_nd (iv_nd (some (.iload_n 1)) (some (.invokestatic 94))) (iv_em 1)) (iv_nd (iv_nd (some (.ifCond .eq 13)) (iv_em 0)) (iv_nd (iv_em 0) (some (.aload_n 0))))) (iv_nd (iv_nd (iv_nd (some (.getfield 13)) (iv_em 0)) (iv_nd (iv_em 0) (some (.invokevirtual 146)))) (iv_nd (iv_em 1) (iv_nd (some (.ifCond .ne 5)) (iv_em 0))))) (iv_nd (iv_nd (iv_nd (iv_nd (iv_em 0) (some (.iconst 0))) (iv_nd (some (.ireturn)) (some (.aload_n 0)))) (iv_nd (iv_nd (some (.getfield 50)) (iv_em 0)) (iv_nd (iv_em 0) (some (.aload_n 0))))) (iv_nd (iv_nd (iv_nd (some (.getfield 13)) (iv_em 0)) (iv_nd (iv_em 0) (some (.iload_n 1)))) (iv_nd (iv_nd (some (.invokevirtual 316)) (iv_em 0)) (iv_nd (iv_em 0) (some (.aload_n 0))))))) (iv_nd (iv_nd (iv_nd (iv_nd (iv_nd (some (.getfield 50)) (iv_em 0)) (iv_nd (iv_em 0) (some (.getfield 320)))) (iv_nd (iv_em 1) (iv_nd (some (.lconst 0)) (some (.lcmp))))) (iv_nd (iv_nd (iv_nd (some (.ifCond .le 7)) (iv_em 0)) (iv_nd (iv_em 0) (some (.iconst 1)))) (iv_nd (iv_nd (some (.goto 4)) (iv_em 0)) (iv_nd (iv_em 0) (some (.iconst 0)))))) (iv_nd (iv_nd (iv_nd (iv_nd (some (.ireturn)) (iv_em 0)) (iv_em 1)) (iv_em 2)) (iv_em 3)))) (iv_em 6)) (iv_em 7)) (iv_em 8)) (iv_em 9)) (iv_em 10))
set_option maxRecDepth 20000 in
def iv_code126 : iv_Tr Jvm.ClassFile.Instr 11 := (iv_nd (iv_nd (iv_nd (iv_nd (iv_nd (iv_nd (iv_nd (iv_nd (iv_nd (iv_nd (iv_nd (some (.iconst 0)) (some (.istore_n 2))) (iv_nd (some (.iconst 0)) (some (.istore_n 3)))) (iv_nd (iv_nd (some (.iload_n 3)) (some (.iconst 3))) (iv_nd (some (.if_icmp .ge 61)) (iv_em 0)))) (iv_nd (iv_nd (iv_nd (iv_em 0) (some (.aload_n 0))) (iv_nd (some (.getfield 13)) (iv_em 0))) (iv_nd (iv_nd (iv_em 0) (some (.invokevirtual 146))) (iv_em 1)))) (iv_nd (iv_nd (iv_nd (iv_nd (some (.ifCond .eq 51)) (iv_em 0)) (iv_nd (iv_em 0) (some (.aload_n 0)))) (iv_nd (iv_nd (some (.getfield 60)) (iv_em 0)) (iv_nd (iv_em 0) (some (.iload_n 3))))) (iv_nd (iv_nd (iv_nd (some (.aaload)) (some (.astore 4))) (iv_nd (iv_em 0) (some (.aload 4)))) (iv_nd (iv_nd (iv_em 0) (some (.invokevirtual 187))) (iv_em 1))))) (iv_nd (iv_nd (iv_nd (iv_nd (iv_nd (some (.iload_n 2)) (some (.iload_n 1))) (iv_nd (some (.ifCond .eq 20)) (iv_em 0))) (iv_nd (iv_nd (iv_em 0) (some (.aload_n 0))) (iv_nd (some (.getfield 13)) (iv_em 0)))) (iv_nd (iv_nd (iv_nd (iv_em 0) (some (.iload_n 3))) (iv_nd (some (.invokevirtual 112)) (iv_em 0))) (iv_nd (iv_nd (iv_em 0) (some (.aload 4))) (iv_nd (iv_em 0) (some (.getfield 196)))))) (iv_nd (iv_nd (iv_nd (iv_em 1) (iv_nd (some (.isub)) (some (.goto 8)))) (iv_nd (iv_em 1) (iv_nd (some (.aload 4)) (iv_em 0)))) (iv_nd (iv_nd (iv_nd (some (.getfield 196)) (iv_em 0)) (iv_nd (iv_em 0) (some (.iadd)))) (iv_nd (iv_nd (some (.istore_n 2)) (some (.iinc 3 1))) (iv_em 1)))))) (iv_nd (iv_nd (iv_nd (iv_nd (iv_nd (iv_nd (some (.goto (-60))) (iv_em 0)) (iv_nd (iv_em 0) (some (.iload_n 2)))) (iv_nd (iv_nd (some (.ireturn)) (iv_em 0)) (iv_em 1))) (iv_em 3)) (iv_em 4)) (iv_em 5))) (iv_em 7)) (iv_em 8)) (iv_em 9)) (iv_em 10))
set_option maxRecDepth 20000 in
def iv_code129 : iv_Tr Jvm.ClassFile.Instr 11 := (iv_nd (iv_nd (iv_nd (iv_nd (iv_nd (iv_nd (iv_nd (iv_nd (iv_nd (iv_nd (iv_nd (some (.aload_n 0)) (some (.invokespecial 3))) (iv_em 1)) (iv_nd (iv_nd (some (.aload_n 0)) (some (.sipush 340))) (iv_em 1))) (iv_nd (iv_nd (iv_nd (some (.newarray .int)) (iv_em 0)) (iv_nd (some (.putfield 9)) (iv_em 0))) (iv_nd (iv_nd (iv_em 0) (some (.aload_n 0))) (iv_nd (some (.sipush 2720)) (iv_em 0))))) (iv_nd (iv_nd (iv_nd (iv_nd (iv_em 0) (some (.newarray .int))) (iv_nd (iv_em 0) (some (.putfield 13)))) (iv_nd (iv_em 1) (iv_nd (some (.aload_n 0)) (some (.sipush 200))))) (iv_nd (iv_nd (iv_em 1) (iv_nd (some (.newarray .byte)) (iv_em 0))) (iv_nd (iv_nd (some (.putfield 16)) (iv_em 0)) (iv_nd (iv_em 0) (some (.aload_n 0))))))) (iv_nd (iv_nd (iv_nd (iv_nd (iv_nd (some (.bipush 96)) (iv_em 0)) (iv_nd (some (.newarray .int)) (iv_em 0))) (iv_nd (iv_nd (some (.putfield 20)) (iv_em 0)) (iv_nd (iv_em 0) (some (.aload_n 0))))) (iv_nd (iv_nd (iv_nd (some (.bipush 9)) (iv_em 0)) (iv_nd (some (.newarray .int)) (iv_em 0))) (iv_nd (iv_nd (some (.putfield 23)) (iv_em 0)) (iv_nd (iv_em 0) (some (.aload_n 0)))))) (iv_nd (iv_nd (iv_nd (iv_nd (some (.bipush 8)) (iv_em 0)) (iv_nd (some (.newarray .long)) (iv_em 0))) (iv_nd (iv_nd (some (.putfield 26)) (iv_em 0)) (iv_nd (iv_em 0) (some (.aload_n 0))))) (iv_nd (iv_nd (iv_nd (some (.bipush 72)) (iv_em 0)) (iv_nd (some (.newarray .int)) (iv_em 0))) (iv_nd (iv_nd (some (.putfield 30)) (iv_em 0)) (iv_nd (iv_em 0) (some (.aload_n 0)))))))) (iv_nd (iv_nd (iv_nd (iv_nd (iv_nd (iv_nd (some (.bipush 8)) (iv_em 0)) (iv_nd (some (.newarray .int)) (iv_em 0))) (iv_nd (iv_nd (some (.putfield 33)) (iv_em 0)) (iv_nd (iv_em 0) (some (.aload_n 0))))) (iv_nd (iv_nd (iv_nd (some (.bipush 72)) (iv_em 0)) (iv_nd (some (.newarray .long)) (iv_em 0))) (iv_nd (iv_nd (some (.putfield 36)) (iv_em 0)) (iv_nd (iv_em 0) (some (.aload_n 0)))))) (iv_nd (iv_nd (iv_nd (iv_nd (some (.bipush 72)) (iv_em 0)) (iv_nd (some (.newarray .long)) (iv_em 0))) (iv_nd (iv_nd (some (.putfield 39)) (iv_em 0)) (iv_nd (iv_em 0) (some (.aload_n 0))))) (iv_nd (iv_nd (iv_nd (some (.bipush 8)) (iv_em 0)) (iv_nd (some (.newarray .long)) (iv_em 0))) (iv_nd (iv_nd (some (.putfield 42)) (iv_em 0)) (iv_nd (iv_em 0) (some (.aload_n 0))))))) (iv_nd (iv_nd (iv_nd (iv_nd (iv_nd (some (.bipush 9)) (iv_em 0)) (iv_nd (some (.newarray .long)) (iv_em 0))) (iv_nd (iv_nd (some (.putfield 45)) (iv_em 0)) (iv_nd (iv_em 0) (some (.aload_n 0))))) (iv_nd (iv_nd (iv_nd (some (.bipush 9)) (iv_em 0)) (iv_nd (some (.newarray .long)) (iv_em 0))) (iv_nd (iv_nd (some (.putfield 48)) (iv_em 0)) (iv_nd (iv_em 0) (some (.aload_n 0)))))) (iv_nd (iv_nd (iv_nd (iv_nd (some (.bipush 9)) (iv_em 0)) (iv_nd (some (.newarray .long)) (iv_em 0))) (iv_nd (iv_nd (some (.putfield 51)) (iv_em 0)) (iv_nd (iv_em 0) (some (.aload_n 0))))) (iv_nd (iv_nd (iv_nd (some (.bipush 9)) (iv_em 0)) (iv_nd (some (.newarray .long)) (iv_em 0))) (iv_nd (iv_nd (some (.putfield 54)) (iv_em 0)) (iv_nd (iv_em 0) (some (.aload_n 0))))))))) (iv_nd (iv_nd (iv_nd (iv_nd (iv_nd (iv_nd (iv_nd (some (.bipush 8)) (iv_em 0)) (iv_nd (some (.newarray .long)) (iv_em 0))) (iv_nd (iv_nd (some (.putfield 57)) (iv_em 0)) (iv_nd (iv_em 0) (some (.aload_n 0))))) (iv_nd (iv_nd (iv_nd (some (.bipush 72)) (iv_em 0)) (iv_nd (some (.newarray .boolean)) (iv_em 0))) (iv_nd (iv_nd (some (.putfield 60)) (iv_em 0)) (iv_nd (iv_em 0) (some (.aload_n 0)))))) (iv_nd (iv_nd (iv_nd (iv_nd (some (.bipush 72)) (iv_em 0)) (iv_nd (some (.newarray .boolean)) (iv_em 0))) (iv_nd (iv_nd (some (.putfield 64)) (iv_em 0)) (iv_nd (iv_em 0) (some (.aload_n 0))))) (iv_nd (iv_nd (iv_nd (some (.bipush 72)) (iv_em 0)) (iv_nd (some (.newarray .boolean)) (iv_em 0))) (iv_nd (iv_nd (some (.putfield 67)) (iv_em 0)) (iv_nd (iv_em 0) (some (.aload_n 0))))))) (iv_nd (iv_nd (iv_nd (iv_nd (iv_nd (some (.bipush 9)) (iv_em 0)) (iv_nd (some (.newarray .boolean)) (iv_em 0))) (iv_nd (iv_nd (some (.putfield 70)) (iv_em 0)) (iv_nd (iv_em 0) (some (.aload_n 0))))) (iv_nd (iv_nd (iv_nd (some (.bipush 8)) (iv_em 0)) (iv_nd (some (.newarray .int)) (iv_em 0))) (iv_nd (iv_nd (some (.putfield 73)) (iv_em 0)) (iv_nd (iv_em 0) (some (.aload_n 0)))))) (iv_nd (iv_nd (iv_nd (iv_nd (some (.iconst 5)) (some (.newarray .int))) (iv_nd (iv_em 0) (some (.putfield 76)))) (iv_nd (iv_em 1) (iv_nd (some (.aload_n 0)) (some (.iconst 4))))) (iv_nd (iv_nd (iv_nd (some (.newarray .int)) (iv_em 0)) (iv_nd (some (.putfield 79)) (iv_em 0))) (iv_nd (iv_nd (iv_em 0) (some (.aload_n 0))) (iv_nd (some (.bipush 9)) (iv_em 0))))))) (iv_nd (iv_nd (iv_nd (iv_nd (iv_nd (iv_nd (some (.newarray .int)) (iv_em 0)) (iv_nd (some (.putfield 82)) (iv_em 0))) (iv_nd (iv_nd (iv_em 0) (some (.aload_n 0))) (iv_nd (some (.bipush 96)) (iv_em 0)))) (iv_nd (iv_nd (iv_nd (some (.newarray .long)) (iv_em 0)) (iv_nd (some (.putfield 85)) (iv_em 0))) (iv_nd (iv_nd (iv_em 0) (some (.aload_n 0))) (iv_nd (some (.bipush 96)) (iv_em 0))))) (iv_nd (iv_nd (iv_nd (iv_nd (some (.newarray .long)) (iv_em 0)) (iv_nd (some (.putfield 88)) (iv_em 0))) (iv_nd (iv_nd (iv_em 0) (some (.aload_n 0))) (iv_nd (some (.bipush 32)) (iv_em 0)))) (iv_nd (iv_nd (iv_nd (some (.newarray .int)) (iv_em 0)) (iv_nd (some (.putfield 91)) (iv_em 0))) (iv_nd (iv_nd (iv_em 0) (some (.aload_n 0))) (iv_nd (some (.iconst 4)) (some (.newarray .int))))))) (iv_nd (iv_nd (iv_nd (iv_nd (iv_nd (iv_em 0) (some (.putfield 94))) (iv_em 1)) (iv_nd (iv_nd (some (.aload_n 0)) (some (.iconst 4))) (iv_nd (some (.newarray .int)) (iv_em 0)))) (iv_nd (iv_nd (iv_nd (some (.putfield 97)) (iv_em 0)) (iv_nd (iv_em 0) (some (.aload_n 0)))) (iv_nd (iv_nd (some (.bipush 27)) (iv_em 0)) (iv_nd (some (.newarray .int)) (iv_em 0))))) (iv_nd (iv_nd (iv_nd (iv_nd (some (.putfield 100)) (iv_em 0)) (iv_nd (iv_em 0) (some (.iconst 0)))) (iv_nd (iv_nd (some (.istore_n 1)) (some (.iload_n 1))) (iv_nd (some (.bipush 12)) (iv_em 0)))) (iv_nd (iv_nd (iv_nd (some (.if_icmp .ge 19)) (iv_em 0)) (iv_nd (iv_em 0) (some (.aload_n 0)))) (iv_nd (iv_nd (some (.getfield 9)) (iv_em 0)) (iv_nd (iv_em 0) (some (.bipush 32)))))))))) (iv_nd (iv_nd (iv_nd (iv_nd (iv_nd (iv_nd (iv_nd (iv_nd (iv_em 0) (some (.iload_n 1))) (iv_nd (some (.iadd)) (some (.iconst 1)))) (iv_nd (iv_nd (some (.iastore)) (some (.iinc 1 1))) (iv_em 1))) (iv_nd (iv_nd (iv_nd (some (.goto (-19))) (iv_em 0)) (iv_nd (iv_em 0) (some (.return_)))) (iv_em 2))) (iv_em 4)) (iv_em 5)) (iv_em 6)) (iv_em 7))) (iv_em 9)) (iv_em 10))
set_option maxRecDepth 20000 in
def iv_code130 : iv_Tr Jvm.ClassFile.Instr 11 := (iv_nd (iv_nd (iv_nd (iv_nd (iv_nd (iv_nd (iv_nd (iv_nd (iv_nd (iv_nd (iv_nd (some (.lload_n 0)) (some (.lload_n 2))) (iv_nd (some (.lcmp)) (some (.ifCond .lt 14)))) (iv_nd (iv_em 1) (iv_nd (some (.lload_n 0)) (some (.lload 4))))) (iv_nd (iv_nd (iv_nd (iv_em 0) (some (.lcmp))) (iv_nd (some (.ifCond .gt 7)) (iv_em 0))) (iv_nd (iv_nd (iv_em 0) (some (.iconst 1))) (iv_nd (some (.goto 4)) (iv_em 0))))) (iv_nd (iv_nd (iv_nd (iv_nd (iv_em 0) (some (.iconst 0))) (iv_nd (some (.ireturn)) (iv_em 0))) (iv_em 2)) (iv_em 3))) (iv_em 5)) (iv_em 6)) (iv_em 7)) (iv_em 8)) (iv_em 9)) (iv_em 10))
set_option maxRecDepth 20000 in
def iv_code131 : iv_Tr Jvm.ClassFile.Instr 11 := (iv_nd (iv_nd (iv_nd (iv_nd (iv_nd (iv_nd (iv_nd (iv_nd (iv_nd (iv_nd (iv_nd (some (.iload_n 0)) (some (.ifCond .eq 7))) (iv_em 1)) (iv_nd (iv_nd (some (.iconst 1)) (some (.goto 4))) (iv_em 1))) (iv_nd (iv_nd (iv_nd (some (.iconst 0)) (some (.ireturn))) (iv_em 1)) (iv_em 2))) (iv_em 4)) (iv_em 5)) (iv_em 6)) (iv_em 7)) (iv_em 8)) (iv_em 9)) (iv_em 10))
set_option maxRecDepth 20000 in
def iv_code132 : iv_Tr Jvm.ClassFile.Instr 11 := (iv_nd (iv_nd (iv_nd (iv_nd (iv_nd (iv_nd (iv_nd (iv_nd (iv_nd (iv_nd (iv_nd (some (.aload_n 0)) (some (.getfield 103))) (iv_em 1)) (iv_nd (iv_nd (some (.bipush 8)) (iv_em 0)) (iv_nd (some (.if_icmp .ne 46)) (iv_em 0)))) (iv_nd (iv_nd (iv_nd (iv_em 0) (some (.sipush 340))) (iv_em 1)) (iv_nd (iv_nd (some (.istore_n 1)) (some (.iload_n 1))) (iv_nd (some (.sipush 2720)) (iv_em 0))))) (iv_nd (iv_nd (iv_nd (iv_nd (iv_em 0) (some (.if_icmp .ge 25))) (iv_em 1)) (iv_nd (iv_nd (some (.aload_n 0)) (some (.getfield 13))) (iv_em 1))) (iv_nd (iv_nd (iv_nd (some (.iload_n 1)) (some (.sipush 340))) (iv_em 1)) (iv_nd (iv_nd (some (.isub)) (some (.aload_n 0))) (iv_nd (some (.getfield 13)) (iv_em 0)))))) (iv_nd (iv_nd (iv_nd (iv_nd (iv_nd (iv_em 0) (some (.iload_n 1))) (iv_nd (some (.iaload)) (some (.iastore)))) (iv_nd (iv_nd (some (.iinc 1 1)) (iv_em 0)) (iv_nd (iv_em 0) (some (.goto (-26)))))) (iv_nd (iv_nd (iv_em 1) (iv_nd (some (.aload_n 0)) (some (.dup)))) (iv_nd (iv_nd (some (.getfield 103)) (iv_em 0)) (iv_nd (iv_em 0) (some (.iconst 1)))))) (iv_nd (iv_nd (iv_nd (iv_nd (some (.isub)) (some (.putfield 103))) (iv_em 1)) (iv_nd (iv_nd (some (.iconst 0)) (some (.istore_n 1))) (iv_nd (some (.iload_n 1)) (some (.sipush 340))))) (iv_nd (iv_nd (iv_em 1) (iv_nd (some (.if_icmp .ge 30)) (iv_em 0))) (iv_nd (iv_nd (iv_em 0) (some (.aload_n 0))) (iv_nd (some (.getfield 13)) (iv_em 0))))))) (iv_nd (iv_nd (iv_nd (iv_nd (iv_nd (iv_nd (iv_em 0) (some (.sipush 340))) (iv_em 1)) (iv_nd (iv_nd (some (.aload_n 0)) (some (.getfield 103))) (iv_em 1))) (iv_nd (iv_nd (iv_nd (some (.imul)) (some (.iload_n 1))) (iv_nd (some (.iadd)) (some (.aload_n 0)))) (iv_nd (iv_nd (some (.getfield 9)) (iv_em 0)) (iv_nd (iv_em 0) (some (.iload_n 1)))))) (iv_nd (iv_nd (iv_nd (iv_nd (some (.iaload)) (some (.iastore))) (iv_nd (some (.iinc 1 1)) (iv_em 0))) (iv_nd (iv_nd (iv_em 0) (some (.goto (-31)))) (iv_em 1))) (iv_nd (iv_nd (iv_nd (some (.aload_n 0)) (some (.dup))) (iv_nd (some (.getfield 103)) (iv_em 0))) (iv_nd (iv_nd (iv_em 0) (some (.iconst 1))) (iv_nd (some (.iadd)) (some (.putfield 103))))))) (iv_nd (iv_nd (iv_nd (iv_nd (iv_em 1) (iv_nd (some (.return_)) (iv_em 0))) (iv_em 2)) (iv_em 3)) (iv_em 4)))) (iv_em 7)) (iv_em 8)) (iv_em 9)) (iv_em 10))
set_option maxRecDepth 20000 in
def iv_code133 : iv_Tr Jvm.ClassFile.Instr 11 := (iv_nd (iv_nd (iv_nd (iv_nd (iv_nd (iv_nd (iv_nd (iv_nd (iv_nd (iv_nd (iv_nd (some (.aload_n 0)) (some (.getfield 103))) (iv_em 1)) (iv_nd (iv_nd (some (.ifCond .ne 5)) (iv_em 0)) (iv_nd (iv_em 0) (some (.iconst (-1)))))) (iv_nd (iv_nd (iv_nd (some (.ireturn)) (some (.aload_n 0))) (iv_nd (some (.dup)) (some (.getfield 103)))) (iv_nd (iv_em 1) (iv_nd (some (.iconst 1)) (some (.isub)))))) (iv_nd (iv_nd (iv_nd (iv_nd (some (.putfield 103)) (iv_em 0)) (iv_nd (iv_em 0) (some (.iconst 0)))) (iv_nd (iv_nd (some (.istore_n 1)) (some (.iload_n 1))) (iv_nd (some (.sipush 340)) (iv_em 0)))) (iv_nd (iv_nd (iv_nd (iv_em 0) (some (.if_icmp .ge 30))) (iv_em 1)) (iv_nd (iv_nd (some (.aload_n 0)) (some (.getfield 9))) (iv_em 1))))) (iv_nd (iv_nd (iv_nd (iv_nd (iv_nd (some (.iload_n 1)) (some (.aload_n 0))) (iv_nd (some (.getfield 13)) (iv_em 0))) (iv_nd (iv_nd (iv_em 0) (some (.sipush 340))) (iv_em 1))) (iv_nd (iv_nd (iv_nd (some (.aload_n 0)) (some (.getfield 103))) (iv_em 1)) (iv_nd (iv_nd (some (.imul)) (some (.iload_n 1))) (iv_nd (some (.iadd)) (some (.iaload)))))) (iv_nd (iv_nd (iv_nd (iv_nd (some (.iastore)) (some (.iinc 1 1))) (iv_em 1)) (iv_nd (iv_nd (some (.goto (-31))) (iv_em 0)) (iv_nd (iv_em 0) (some (.aload_n 0))))) (iv_nd (iv_nd (iv_nd (some (.getfield 103)) (iv_em 0)) (iv_nd (iv_em 0) (some (.ireturn)))) (iv_em 2))))) (iv_em 6)) (iv_em 7)) (iv_em 8)) (iv_em 9)) (iv_em 10))
set_option maxRecDepth 20000 in
def iv_code134 : iv_Tr Jvm.ClassFile.Instr 11 := (iv_nd (iv_nd (iv_nd (iv_nd (iv_nd (iv_nd (iv_nd (iv_nd (iv_nd (iv_nd (iv_nd (some (.aload_n 0)) (some (.getfield 107))) (iv_em 1)) (iv_nd (iv_nd (some (.bipush 20)) (iv_em 0)) (iv_nd (some (.iadd)) (some (.sipush 200))))) (iv_nd (iv_nd (iv_em 1) (iv_nd (some (.if_icmp .le 5)) (iv_em 0))) (iv_nd (iv_nd (iv_em 0) (some (.iconst (-1)))) (iv_nd (some (.ireturn)) (some (.aload_n 0)))))) (iv_nd (iv_nd (iv_nd (iv_nd (some (.iload_n 1)) (some (.invokevirtual 110))) (iv_em 1)) (iv_nd (iv_nd (some (.aload_n 0)) (some (.iload_n 2))) (iv_nd (some (.invokevirtual 110)) (iv_em 0)))) (iv_nd (iv_nd (iv_nd (iv_em 0) (some (.aload_n 0))) (iv_nd (some (.iload_n 3)) (some (.invokevirtual 110)))) (iv_nd (iv_em 1) (iv_nd (some (.aload_n 0)) (some (.iload 4))))))) (iv_nd (iv_nd (iv_nd (iv_nd (iv_nd (iv_em 0) (some (.invokevirtual 110))) (iv_em 1)) (iv_nd (iv_nd (some (.aload_n 0)) (some (.iload 5))) (iv_nd (iv_em 0) (some (.invokevirtual 110))))) (iv_nd (iv_nd (iv_em 1) (iv_nd (some (.aload_n 0)) (some (.getfield 107)))) (iv_nd (iv_em 1) (iv_nd (some (.ireturn)) (iv_em 0))))) (iv_em 4))) (iv_em 6)) (iv_em 7)) (iv_em 8)) (iv_em 9)) (iv_em 10))
set_option maxRecDepth 20000 in
def iv_code135 : iv_Tr Jvm.ClassFile.Instr 11 := (iv_nd (iv_nd (iv_nd (iv_nd (iv_nd (iv_nd (iv_nd (iv_nd (iv_nd (iv_nd (iv_nd (some (.bipush 24)) (iv_em 0)) (iv_nd (some (.istore_n 2)) (some (.iload_n 2)))) (iv_nd (iv_nd (some (.ifCond .lt 32)) (iv_em 0)) (iv_nd (iv_em 0) (some (.aload_n 0))))) (iv_nd (iv_nd (iv_nd (some (.getfield 16)) (iv_em 0)) (iv_nd (iv_em 0) (some (.aload_n 0)))) (iv_nd (iv_nd (some (.getfield 107)) (iv_em 0)) (iv_nd (iv_em 0) (some (.iload_n 1)))))) (iv_nd (iv_nd (iv_nd (iv_nd (some (.iload_n 2)) (some (.ishr))) (iv_nd (some (.i2b)) (some (.bastore)))) (iv_nd (iv_nd (some (.aload_n 0)) (some (.dup))) (iv_nd (some (.getfield 107)) (iv_em 0)))) (iv_nd (iv_nd (iv_nd (iv_em 0) (some (.iconst 1))) (iv_nd (some (.iadd)) (some (.putfield 107)))) (iv_nd (iv_em 1) (iv_nd (some (.iinc 2 (-8))) (iv_em 0)))))) (iv_nd (iv_nd (iv_nd (iv_nd (iv_nd (iv_em 0) (some (.goto (-30)))) (iv_em 1)) (iv_nd (iv_nd (some (.return_)) (iv_em 0)) (iv_em 1))) (iv_em 3)) (iv_em 4))) (iv_em 6)) (iv_em 7)) (iv_em 8)) (iv_em 9)) (iv_em 10))
set_option maxRecDepth 20000 in
def iv_code136 : iv_Tr Jvm.ClassFile.Instr 11 := (iv_nd (iv_nd (iv_nd (iv_nd (iv_nd (iv_nd (iv_nd (iv_nd (iv_nd (iv_nd (iv_nd (some (.iload_n 1)) (some (.ifCond .lt 11))) (iv_em 1)) (iv_nd (iv_nd (some (.iload_n 1)) (some (.aload_n 0))) (iv_nd (some (.getfield 107)) (iv_em 0)))) (iv_nd (iv_nd (iv_nd (iv_em 0) (some (.if_icmp .le 5))) (iv_em 1)) (iv_nd (iv_nd (some (.iconst (-1))) (some (.ireturn))) (iv_nd (some (.aload_n 0)) (some (.iload_n 1)))))) (iv_nd (iv_nd (iv_nd (iv_nd (some (.putfield 107)) (iv_em 0)) (iv_nd (iv_em 0) (some (.iload_n 1)))) (iv_nd (iv_nd (some (.ireturn)) (iv_em 0)) (iv_em 1))) (iv_em 3))) (iv_em 5)) (iv_em 6)) (iv_em 7)) (iv_em 8)) (iv_em 9)) (iv_em 10))
set_option maxRecDepth 20000 in
def iv_code137 : iv_Tr Jvm.ClassFile.Instr 11 := (iv_nd (iv_nd (iv_nd (iv_nd (iv_nd (iv_nd (iv_nd (iv_nd (iv_nd (iv_nd (iv_nd (some (.aload_n 0)) (some (.getfield 114))) (iv_em 1)) (iv_nd (iv_nd (some (.aload_n 0)) (some (.getfield 107))) (iv_em 1))) (iv_nd (iv_nd (iv_nd (some (.if_icmp .ge 19)) (iv_em 0)) (iv_nd (iv_em 0) (some (.aload_n 0)))) (iv_nd (iv_nd (some (.getfield 16)) (iv_em 0)) (iv_nd (iv_em 0) (some (.aload_n 0)))))) (iv_nd (iv_nd (iv_nd (iv_nd (some (.getfield 114)) (iv_em 0)) (iv_nd (iv_em 0) (some (.baload)))) (iv_nd (iv_nd (some (.sipush 255)) (iv_em 0)) (iv_nd (iv_em 0) (some (.iand))))) (iv_nd (iv_nd (iv_nd (some (.goto 4)) (iv_em 0)) (iv_nd (iv_em 0) (some (.iconst (-1))))) (iv_nd (iv_nd (some (.ireturn)) (iv_em 0)) (iv_em 1))))) (iv_em 5)) (iv_em 6)) (iv_em 7)) (iv_em 8)) (iv_em 9)) (iv_em 10))
set_option maxRecDepth 20000 in
def iv_code138 : iv_Tr Jvm.ClassFile.Instr 11 := (iv_nd (iv_nd (iv_nd (iv_nd (iv_nd (iv_nd (iv_nd (iv_nd (iv_nd (iv_nd (iv_nd (some (.aload_n 0)) (some (.getfield 117))) (iv_em 1)) (iv_nd (iv_nd (some (.iconst (-1))) (some (.if_icmp .ne 7))) (iv_em 1))) (iv_nd (iv_nd (iv_nd (some (.iconst 1)) (some (.goto 4))) (iv_em 1)) (iv_nd (iv_nd (some (.iconst 0)) (some (.ireturn))) (iv_em 1)))) (iv_em 4)) (iv_em 5)) (iv_em 6)) (iv_em 7)) (iv_em 8)) (iv_em 9)) (iv_em 10))
set_option maxRecDepth 20000 in
def iv_code139 : iv_Tr Jvm.ClassFile.Instr 11 := (iv_nd (iv_nd (iv_nd (iv_nd (iv_nd (iv_nd (iv_nd (iv_nd (iv_nd (iv_nd (iv_nd (some (.aload_n 0)) (some (.invokevirtual 120))) (iv_em 1)) (iv_nd (iv_nd (some (.ifCond .eq 13)) (iv_em 0)) (iv_nd (iv_em 0) (some (.aload_n 0))))) (iv_nd (iv_nd (iv_nd (some (.bipush 8)) (iv_em 0)) (iv_nd (some (.iload_n 2)) (some (.imul)))) (iv_nd (iv_nd (some (.iload_n 1)) (some (.iadd))) (iv_nd (some (.putfield 117)) (iv_em 0))))) (iv_nd (iv_nd (iv_nd (iv_nd (iv_em 0) (some (.return_))) (iv_em 1)) (iv_em 2)) (iv_em 3))) (iv_em 5)) (iv_em 6)) (iv_em 7)) (iv_em 8)) (iv_em 9)) (iv_em 10))
set_option maxRecDepth 20000 in
def iv_code140 : iv_Tr Jvm.ClassFile.Instr 11 := (iv_nd (iv_nd (iv_nd (iv_nd (iv_nd (iv_nd (iv_nd (iv_nd (iv_nd (iv_nd (iv_nd (some (.iload_n 0)) (some (.iconst 2))) (iv_nd (some (.if_icmp .ne 17)) (iv_em 0))) (iv_nd (iv_nd (iv_em 0) (some (.iload_n 1))) (iv_nd (some (.i2l)) (some (.ldc2_w 124))))) (iv_nd (iv_nd (iv_em 1) (iv_nd (some (.ldc2_w 126)) (iv_em 0))) (iv_nd (iv_nd (iv_em 0) (some (.invokestatic 128))) (iv_em 1)))) (iv_nd (iv_nd (iv_nd (iv_nd (some (.goto 28)) (iv_em 0)) (iv_nd (iv_em 0) (some (.iload_n 1)))) (iv_nd (iv_nd (some (.i2l)) (some (.ldc2_w 132))) (iv_em 1))) (iv_nd (iv_nd (iv_nd (some (.ldc2_w 134)) (iv_em 0)) (iv_nd (iv_em 0) (some (.invokestatic 128)))) (iv_nd (iv_em 1) (iv_nd (some (.ifCond .ne 9)) (iv_em 0)))))) (iv_nd (iv_nd (iv_nd (iv_nd (iv_nd (iv_em 0) (some (.iload_n 1))) (iv_nd (some (.bipush 46)) (iv_em 0))) (iv_nd (iv_nd (some (.if_icmp .ne 7)) (iv_em 0)) (iv_nd (iv_em 0) (some (.iconst 1))))) (iv_nd (iv_nd (iv_nd (some (.goto 4)) (iv_em 0)) (iv_nd (iv_em 0) (some (.iconst 0)))) (iv_nd (iv_nd (some (.ireturn)) (iv_em 0)) (iv_em 1)))) (iv_em 4))) (iv_em 6)) (iv_em 7)) (iv_em 8)) (iv_em 9)) (iv_em 10))
set_option maxRecDepth 20000 in
def iv_code142 : iv_Tr Jvm.ClassFile.Instr 11 := (iv_nd (iv_nd (iv_nd (iv_nd (iv_nd (iv_nd (iv_nd (iv_nd (iv_nd (iv_nd (iv_nd (some (.iload_n 1)) (some (.aload_n 0))) (iv_nd (some (.invokevirtual 136)) (iv_em 0))) (iv_nd (iv_nd (iv_em 0) (some (.invokestatic 140))) (iv_em 1))) (iv_nd (iv_nd (iv_nd (some (.ifCond .ne 13)) (iv_em 0)) (iv_nd (iv_em 0) (some (.aload_n 0)))) (iv_nd (iv_nd (some (.iconst 1)) (some (.aload_n 0))) (iv_nd (some (.getfield 114)) (iv_em 0))))) (iv_nd (iv_nd (iv_nd (iv_nd (iv_em 0) (some (.invokevirtual 144))) (iv_em 1)) (iv_nd (iv_nd (some (.return_)) (some (.iload_n 2))) (iv_nd (some (.iconst (-1))) (some (.if_icmp .ne 8))))) (iv_nd (iv_nd (iv_em 1) (iv_nd (some (.bipush 12)) (iv_em 0))) (iv_nd (iv_nd (some (.goto 4)) (iv_em 0)) (iv_nd (iv_em 0) (some (.iload_n 2))))))) (iv_nd (iv_nd (iv_nd (iv_nd (iv_nd (some (.istore_n 3)) (some (.iconst 0))) (iv_nd (some (.istore 4)) (iv_em 0))) (iv_nd (iv_nd (some (.iload 4)) (iv_em 0)) (iv_nd (some (.iload_n 3)) (some (.if_icmp .ge 53))))) (iv_nd (iv_nd (iv_em 1) (iv_nd (some (.iload_n 1)) (some (.aload_n 0)))) (iv_nd (iv_nd (some (.invokevirtual 136)) (iv_em 0)) (iv_nd (iv_em 0) (some (.invokestatic 140)))))) (iv_nd (iv_nd (iv_nd (iv_em 1) (iv_nd (some (.ifCond .eq 42)) (iv_em 0))) (iv_nd (iv_nd (iv_em 0) (some (.aload_n 0))) (iv_nd (some (.getfield 20)) (iv_em 0)))) (iv_nd (iv_nd (iv_nd (iv_em 0) (some (.bipush 12))) (iv_nd (iv_em 0) (some (.aload_n 0)))) (iv_nd (iv_nd (some (.getfield 148)) (iv_em 0)) (iv_nd (iv_em 0) (some (.imul)))))))) (iv_nd (iv_nd (iv_nd (iv_nd (iv_nd (iv_nd (some (.iload 4)) (iv_em 0)) (iv_nd (some (.iadd)) (some (.iload_n 1)))) (iv_nd (iv_nd (some (.aload_n 0)) (some (.invokevirtual 136))) (iv_em 1))) (iv_nd (iv_nd (iv_nd (some (.invokestatic 151)) (iv_em 0)) (iv_nd (iv_em 0) (some (.iastore)))) (iv_nd (iv_nd (some (.iinc 4 1)) (iv_em 0)) (iv_nd (iv_em 0) (some (.aload_n 0)))))) (iv_nd (iv_nd (iv_nd (iv_nd (some (.dup)) (some (.getfield 114))) (iv_em 1)) (iv_nd (iv_nd (some (.iconst 1)) (some (.iadd))) (iv_nd (some (.putfield 114)) (iv_em 0)))) (iv_nd (iv_nd (iv_nd (iv_em 0) (some (.goto (-53)))) (iv_em 1)) (iv_nd (iv_nd (some (.aload_n 0)) (some (.invokevirtual 136))) (iv_em 1))))) (iv_nd (iv_nd (iv_nd (iv_nd (iv_nd (some (.bipush 47)) (iv_em 0)) (iv_nd (some (.if_icmp .eq 11)) (iv_em 0))) (iv_nd (iv_nd (iv_em 0) (some (.aload_n 0))) (iv_nd (some (.invokevirtual 136)) (iv_em 0)))) (iv_nd (iv_nd (iv_nd (iv_em 0) (some (.iconst (-1)))) (iv_nd (some (.if_icmp .ne 7)) (iv_em 0))) (iv_nd (iv_nd (iv_em 0) (some (.iconst 1))) (iv_nd (some (.goto 4)) (iv_em 0))))) (iv_nd (iv_nd (iv_nd (iv_nd (iv_em 0) (some (.iconst 0))) (iv_nd (some (.istore 5)) (iv_em 0))) (iv_nd (iv_nd (some (.iload 5)) (iv_em 0)) (iv_nd (some (.ifCond .ne 30)) (iv_em 0)))) (iv_nd (iv_nd (iv_nd (iv_em 0) (some (.aload_n 0))) (iv_nd (some (.iload_n 1)) (some (.aload_n 0)))) (iv_nd (iv_nd (some (.invokevirtual 136)) (iv_em 0)) (iv_nd (iv_em 0) (some (.invokestatic 140))))))))) (iv_nd (iv_nd (iv_nd (iv_nd (iv_nd (iv_nd (iv_em 1) (iv_nd (some (.ifCond .eq 7)) (iv_em 0))) (iv_nd (iv_nd (iv_em 0) (some (.iconst 3))) (iv_nd (some (.goto 4)) (iv_em 0)))) (iv_nd (iv_nd (iv_nd (iv_em 0) (some (.iconst 1))) (iv_nd (some (.aload_n 0)) (some (.getfield 114)))) (iv_nd (iv_em 1) (iv_nd (some (.invokevirtual 144)) (iv_em 0))))) (iv_nd (iv_nd (iv_nd (iv_nd (iv_em 0) (some (.goto 23))) (iv_em 1)) (iv_nd (iv_nd (some (.iload_n 2)) (some (.iconst (-1)))) (iv_nd (some (.if_icmp .eq 18)) (iv_em 0)))) (iv_nd (iv_nd (iv_nd (iv_em 0) (some (.iload 4))) (iv_nd (iv_em 0) (some (.iload_n 2)))) (iv_nd (iv_nd (some (.if_icmp .ge 12)) (iv_em 0)) (iv_nd (iv_em 0) (some (.aload_n 0))))))) (iv_nd (iv_nd (iv_nd (iv_nd (iv_nd (some (.iconst 2)) (some (.aload_n 0))) (iv_nd (some (.getfield 114)) (iv_em 0))) (iv_nd (iv_nd (iv_em 0) (some (.invokevirtual 144))) (iv_em 1))) (iv_nd (iv_nd (iv_nd (some (.aload_n 0)) (some (.iload 4))) (iv_nd (iv_em 0) (some (.putfield 155)))) (iv_nd (iv_em 1) (iv_nd (some (.aload_n 0)) (some (.dup)))))) (iv_nd (iv_nd (iv_nd (iv_nd (some (.getfield 148)) (iv_em 0)) (iv_nd (iv_em 0) (some (.iconst 1)))) (iv_nd (iv_nd (some (.iadd)) (some (.putfield 148))) (iv_em 1))) (iv_nd (iv_nd (iv_nd (some (.return_)) (iv_em 0)) (iv_em 1)) (iv_em 2))))) (iv_em 6))) (iv_em 8)) (iv_em 9)) (iv_em 10))
set_option maxRecDepth 20000 in
def iv_code143 : iv_Tr Jvm.ClassFile.Instr 11 := (iv_nd (iv_nd (iv_nd (iv_nd (iv_nd (iv_nd (iv_nd (iv_nd (iv_nd (iv_nd (iv_nd (some (.aload_n 0)) (some (.iconst 0))) (iv_nd (some (.putfield 114)) (iv_em 0))) (iv_nd (iv_nd (iv_em 0) (some (.aload_n 0))) (iv_nd (some (.iconst (-1))) (some (.putfield 117))))) (iv_nd (iv_nd (iv_em 1) (iv_nd (some (.aload_n 0)) (some (.iconst 0)))) (iv_nd (iv_nd (some (.putfield 148)) (iv_em 0)) (iv_nd (iv_em 0) (some (.iload_n 1)))))) (iv_nd (iv_nd (iv_nd (iv_nd (some (.ifCond .ne 8)) (iv_em 0)) (iv_nd (iv_em 0) (some (.bipush 8)))) (iv_nd (iv_nd (iv_em 0) (some (.goto 9))) (iv_em 1))) (iv_nd (iv_nd (iv_nd (some (.aload_n 0)) (some (.getfield 9))) (iv_em 1)) (iv_nd (iv_nd (some (.iconst 0)) (some (.iaload))) (iv_nd (some (.istore_n 2)) (some (.iload_n 1))))))) (iv_nd (iv_nd (iv_nd (iv_nd (iv_nd (some (.ifCond .ne 7)) (iv_em 0)) (iv_nd (iv_em 0) (some (.iconst (-1))))) (iv_nd (iv_nd (some (.goto 9)) (iv_em 0)) (iv_nd (iv_em 0) (some (.aload_n 0))))) (iv_nd (iv_nd (iv_nd (some (.getfield 9)) (iv_em 0)) (iv_nd (iv_em 0) (some (.iconst 1)))) (iv_nd (iv_nd (some (.iaload)) (some (.istore_n 3))) (iv_nd (some (.aload_n 0)) (some (.iload_n 1)))))) (iv_nd (iv_nd (iv_nd (iv_nd (some (.iload_n 3)) (some (.invokevirtual 158))) (iv_em 1)) (iv_nd (iv_nd (some (.aload_n 0)) (some (.getfield 155))) (iv_em 1))) (iv_nd (iv_nd (iv_nd (some (.istore_n 3)) (some (.aload_n 0))) (iv_nd (some (.invokevirtual 120)) (iv_em 0))) (iv_nd (iv_nd (iv_em 0) (some (.ifCond .eq 51))) (iv_em 1)))))) (iv_nd (iv_nd (iv_nd (iv_nd (iv_nd (iv_nd (some (.aload_n 0)) (some (.invokevirtual 136))) (iv_em 1)) (iv_nd (iv_nd (some (.bipush 47)) (iv_em 0)) (iv_nd (some (.if_icmp .ne 42)) (iv_em 0)))) (iv_nd (iv_nd (iv_nd (iv_em 0) (some (.aload_n 0))) (iv_nd (some (.getfield 148)) (iv_em 0))) (iv_nd (iv_nd (iv_em 0) (some (.iload_n 2))) (iv_nd (some (.if_icmp .ne 15)) (iv_em 0))))) (iv_nd (iv_nd (iv_nd (iv_nd (iv_em 0) (some (.aload_n 0))) (iv_nd (some (.iconst 3)) (some (.aload_n 0)))) (iv_nd (iv_nd (some (.getfield 114)) (iv_em 0)) (iv_nd (iv_em 0) (some (.invokevirtual 144))))) (iv_nd (iv_nd (iv_em 1) (iv_nd (some (.goto (-33))) (iv_em 0))) (iv_nd (iv_nd (iv_em 0) (some (.aload_n 0))) (iv_nd (some (.dup)) (some (.getfield 114))))))) (iv_nd (iv_nd (iv_nd (iv_nd (iv_em 1) (iv_nd (some (.iconst 1)) (some (.iadd)))) (iv_nd (iv_nd (some (.putfield 114)) (iv_em 0)) (iv_nd (iv_em 0) (some (.aload_n 0))))) (iv_nd (iv_nd (iv_nd (some (.iload_n 1)) (some (.iload_n 3))) (iv_nd (some (.invokevirtual 158)) (iv_em 0))) (iv_nd (iv_nd (iv_em 0) (some (.goto (-52)))) (iv_em 1)))) (iv_nd (iv_nd (iv_nd (iv_nd (some (.aload_n 0)) (some (.invokevirtual 120))) (iv_em 1)) (iv_nd (iv_nd (some (.ifCond .eq 24)) (iv_em 0)) (iv_nd (iv_em 0) (some (.iload_n 1))))) (iv_nd (iv_nd (iv_nd (some (.ifCond .eq 20)) (iv_em 0)) (iv_nd (iv_em 0) (some (.aload_n 0)))) (iv_nd (iv_nd (some (.getfield 148)) (iv_em 0)) (iv_nd (iv_em 0) (some (.iload_n 2))))))))) (iv_nd (iv_nd (iv_nd (iv_nd (iv_nd (iv_nd (iv_nd (some (.if_icmp .ge 12)) (iv_em 0)) (iv_nd (iv_em 0) (some (.aload_n 0)))) (iv_nd (iv_nd (some (.iconst 4)) (some (.aload_n 0))) (iv_nd (some (.getfield 114)) (iv_em 0)))) (iv_nd (iv_nd (iv_nd (iv_em 0) (some (.invokevirtual 144))) (iv_em 1)) (iv_nd (iv_nd (some (.return_)) (iv_em 0)) (iv_em 1)))) (iv_em 4)) (iv_em 5)) (iv_em 6))) (iv_em 8)) (iv_em 9)) (iv_em 10))
set_option maxRecDepth 20000 in
def iv_code144 : iv_Tr Jvm.ClassFile.Instr 11 := (iv_nd (iv_nd (iv_nd (iv_nd (iv_nd (iv_nd (iv_nd (iv_nd (iv_nd (iv_nd (iv_nd (some (.aload_n 0)) (some (.getfield 9))) (iv_em 1)) (iv_nd (iv_nd (some (.iconst 2)) (some (.iaload))) (iv_nd (some (.iload_n 1)) (some (.ishr))))) (iv_nd (iv_nd (iv_nd (some (.iconst 1)) (some (.iand))) (iv_nd (some (.iconst 1)) (some (.if_icmp .ne 7)))) (iv_nd (iv_em 1) (iv_nd (some (.iconst 1)) (some (.goto 4)))))) (iv_nd (iv_nd (iv_nd (iv_em 1) (iv_nd (some (.iconst 0)) (some (.ireturn)))) (iv_em 2)) (iv_em 3))) (iv_em 5)) (iv_em 6)) (iv_em 7)) (iv_em 8)) (iv_em 9)) (iv_em 10))
set_option maxRecDepth 20000 in
def iv_code145 : iv_Tr Jvm.ClassFile.Instr 11 := (iv_nd (iv_nd (iv_nd (iv_nd (iv_nd (iv_nd (iv_nd (iv_nd (iv_nd (iv_nd (iv_nd (some (.iload_n 1)) (some (.i2l))) (iv_nd (some (.lconst 0)) (some (.ldc2_w 161)))) (iv_nd (iv_em 1) (iv_nd (some (.invokestatic 128)) (iv_em 0)))) (iv_nd (iv_nd (iv_nd (iv_em 0) (some (.ifCond .eq 15))) (iv_em 1)) (iv_nd (iv_nd (some (.iload_n 1)) (some (.ifCond .eq 13))) (iv_em 1)))) (iv_nd (iv_nd (iv_nd (iv_nd (some (.aload_n 0)) (some (.iconst 0))) (iv_nd (some (.invokevirtual 163)) (iv_em 0))) (iv_nd (iv_nd (iv_em 0) (some (.ifCond .ne 5))) (iv_em 1))) (iv_nd (iv_nd (iv_nd (some (.iconst (-1))) (some (.ireturn))) (iv_nd (some (.aload_n 0)) (some (.iload_n 1)))) (iv_nd (iv_nd (some (.invokevirtual 167)) (iv_em 0)) (iv_nd (iv_em 0) (some (.aload_n 0))))))) (iv_nd (iv_nd (iv_nd (iv_nd (iv_nd (some (.iconst 0)) (some (.putfield 107))) (iv_em 1)) (iv_nd (iv_nd (some (.aload_n 0)) (some (.invokevirtual 120))) (iv_em 1))) (iv_nd (iv_nd (iv_nd (some (.ifCond .ne 11)) (iv_em 0)) (iv_nd (iv_em 0) (some (.bipush (-2))))) (iv_nd (iv_nd (iv_em 0) (some (.aload_n 0))) (iv_nd (some (.getfield 117)) (iv_em 0))))) (iv_nd (iv_nd (iv_nd (iv_nd (iv_em 0) (some (.isub))) (iv_nd (some (.ireturn)) (some (.aload_n 0)))) (iv_nd (iv_nd (some (.invokevirtual 170)) (iv_em 0)) (iv_nd (iv_em 0) (some (.iload_n 1))))) (iv_nd (iv_nd (iv_nd (some (.ifCond .ne 56)) (iv_em 0)) (iv_nd (iv_em 0) (some (.aload_n 0)))) (iv_nd (iv_nd (some (.getfield 148)) (iv_em 0)) (iv_nd (iv_em 0) (some (.aload_n 0)))))))) (iv_nd (iv_nd (iv_nd (iv_nd (iv_nd (iv_nd (some (.getfield 9)) (iv_em 0)) (iv_nd (iv_em 0) (some (.iconst 0)))) (iv_nd (iv_nd (some (.iaload)) (some (.if_icmp .ne 16))) (iv_em 1))) (iv_nd (iv_nd (iv_nd (some (.aload_n 0)) (some (.getfield 155))) (iv_em 1)) (iv_nd (iv_nd (some (.aload_n 0)) (some (.getfield 9))) (iv_em 1)))) (iv_nd (iv_nd (iv_nd (iv_nd (some (.iconst 1)) (some (.iaload))) (iv_nd (some (.if_icmp .eq 30)) (iv_em 0))) (iv_nd (iv_nd (iv_em 0) (some (.aload_n 0))) (iv_nd (some (.getfield 9)) (iv_em 0)))) (iv_nd (iv_nd (iv_nd (iv_em 0) (some (.iconst 2))) (iv_nd (some (.iconst 0)) (some (.iastore)))) (iv_nd (iv_nd (some (.aload_n 0)) (some (.getfield 9))) (iv_em 1))))) (iv_nd (iv_nd (iv_nd (iv_nd (iv_nd (some (.iconst 0)) (some (.aload_n 0))) (iv_nd (some (.getfield 148)) (iv_em 0))) (iv_nd (iv_nd (iv_em 0) (some (.iastore))) (iv_nd (some (.aload_n 0)) (some (.getfield 9))))) (iv_nd (iv_nd (iv_em 1) (iv_nd (some (.iconst 1)) (some (.aload_n 0)))) (iv_nd (iv_nd (some (.getfield 155)) (iv_em 0)) (iv_nd (iv_em 0) (some (.iastore)))))) (iv_nd (iv_nd (iv_nd (iv_nd (some (.aload_n 0)) (some (.getfield 9))) (iv_em 1)) (iv_nd (iv_nd (some (.iconst 2)) (some (.dup2))) (iv_nd (some (.iaload)) (some (.iconst 1))))) (iv_nd (iv_nd (iv_nd (some (.iload_n 1)) (some (.ishl))) (iv_nd (some (.ior)) (some (.iastore)))) (iv_nd (iv_nd (some (.iconst 0)) (some (.istore_n 2))) (iv_nd (some (.iload_n 2)) (some (.bipush 96))))))))) (iv_nd (iv_nd (iv_nd (iv_nd (iv_nd (iv_nd (iv_nd (iv_em 0) (some (.if_icmp .ge 29))) (iv_em 1)) (iv_nd (iv_nd (some (.aload_n 0)) (some (.getfield 9))) (iv_em 1))) (iv_nd (iv_nd (iv_nd (some (.bipush 52)) (iv_em 0)) (iv_nd (some (.bipush 96)) (iv_em 0))) (iv_nd (iv_nd (some (.iload_n 1)) (some (.imul))) (iv_nd (some (.iadd)) (some (.iload_n 2)))))) (iv_nd (iv_nd (iv_nd (iv_nd (some (.iadd)) (some (.aload_n 0))) (iv_nd (some (.getfield 20)) (iv_em 0))) (iv_nd (iv_nd (iv_em 0) (some (.iload_n 2))) (iv_nd (some (.iaload)) (some (.iastore))))) (iv_nd (iv_nd (iv_nd (some (.iinc 2 1)) (iv_em 0)) (iv_nd (iv_em 0) (some (.goto (-29))))) (iv_nd (iv_em 1) (iv_nd (some (.aload_n 0)) (some (.getfield 9))))))) (iv_nd (iv_nd (iv_nd (iv_nd (iv_em 1) (iv_nd (some (.iconst 0)) (some (.iaload)))) (iv_nd (iv_nd (some (.aload_n 0)) (some (.getfield 9))) (iv_em 1))) (iv_nd (iv_nd (iv_nd (some (.iconst 1)) (some (.iaload))) (iv_nd (some (.imul)) (some (.ireturn)))) (iv_em 2))) (iv_em 4))) (iv_em 6))) (iv_em 8)) (iv_em 9)) (iv_em 10))
set_option maxRecDepth 20000 in
def iv_code147 : iv_Tr Jvm.ClassFile.Instr 11 := (iv_nd (iv_nd (iv_nd (iv_nd (iv_nd (iv_nd (iv_nd (iv_nd (iv_nd (iv_nd (iv_nd (some (.aload_n 0)) (some (.iconst 0))) (iv_nd (some (.putfield 114)) (iv_em 0))) (iv_nd (iv_nd (iv_em 0) (some (.aload_n 0))) (iv_nd (some (.iconst (-1))) (some (.putfield 117))))) (iv_nd (iv_nd (iv_em 1) (iv_nd (some (.aload_n 0)) (some (.iconst 0)))) (iv_nd (iv_nd (some (.putfield 173)) (iv_em 0)) (iv_nd (iv_em 0) (some (.iconst 0)))))) (iv_nd (iv_nd (iv_nd (iv_nd (some (.istore_n 1)) (some (.iload_n 1))) (iv_nd (some (.bipush 9)) (iv_em 0))) (iv_nd (iv_nd (some (.if_icmp .ge 16)) (iv_em 0)) (iv_nd (iv_em 0) (some (.aload_n 0))))) (iv_nd (iv_nd (iv_nd (some (.getfield 23)) (iv_em 0)) (iv_nd (iv_em 0) (some (.iload_n 1)))) (iv_nd (iv_nd (some (.iconst 0)) (some (.iastore))) (iv_nd (some (.iinc 1 1)) (iv_em 0)))))) (iv_nd (iv_nd (iv_nd (iv_nd (iv_nd (iv_em 0) (some (.goto (-16)))) (iv_em 1)) (iv_nd (iv_nd (some (.aload_n 0)) (some (.getfield 107))) (iv_em 1))) (iv_nd (iv_nd (iv_nd (some (.ifCond .le 7)) (iv_em 0)) (iv_nd (iv_em 0) (some (.iconst 1)))) (iv_nd (iv_nd (some (.goto 4)) (iv_em 0)) (iv_nd (iv_em 0) (some (.iconst 0)))))) (iv_nd (iv_nd (iv_nd (iv_nd (some (.istore_n 1)) (some (.iload_n 1))) (iv_nd (some (.ifCond .eq 45)) (iv_em 0))) (iv_nd (iv_nd (iv_em 0) (some (.aload_n 0))) (iv_nd (some (.invokevirtual 183)) (iv_em 0)))) (iv_nd (iv_nd (iv_nd (iv_em 0) (some (.aload_n 0))) (iv_nd (some (.invokevirtual 120)) (iv_em 0))) (iv_nd (iv_nd (iv_em 0) (some (.ifCond .eq 16))) (iv_em 1)))))) (iv_nd (iv_nd (iv_nd (iv_nd (iv_nd (iv_nd (some (.aload_n 0)) (some (.invokevirtual 136))) (iv_em 1)) (iv_nd (iv_nd (some (.bipush 44)) (iv_em 0)) (iv_nd (some (.if_icmp .ne 7)) (iv_em 0)))) (iv_nd (iv_nd (iv_nd (iv_em 0) (some (.iconst 1))) (iv_nd (some (.goto 4)) (iv_em 0))) (iv_nd (iv_nd (iv_em 0) (some (.iconst 0))) (iv_nd (some (.istore_n 1)) (some (.aload_n 0)))))) (iv_nd (iv_nd (iv_nd (iv_nd (some (.dup)) (some (.getfield 114))) (iv_em 1)) (iv_nd (iv_nd (some (.iload_n 1)) (some (.invokestatic 186))) (iv_em 1))) (iv_nd (iv_nd (iv_nd (some (.iadd)) (some (.putfield 114))) (iv_em 1)) (iv_nd (iv_nd (some (.goto (-43))) (iv_em 0)) (iv_nd (iv_em 0) (some (.aload_n 0))))))) (iv_nd (iv_nd (iv_nd (iv_nd (iv_nd (some (.invokevirtual 120)) (iv_em 0)) (iv_nd (iv_em 0) (some (.ifCond .eq 20)))) (iv_nd (iv_em 1) (iv_nd (some (.aload_n 0)) (some (.invokevirtual 136))))) (iv_nd (iv_nd (iv_em 1) (iv_nd (some (.iconst (-1))) (some (.if_icmp .eq 12)))) (iv_nd (iv_em 1) (iv_nd (some (.aload_n 0)) (some (.iconst 1)))))) (iv_nd (iv_nd (iv_nd (iv_nd (some (.aload_n 0)) (some (.getfield 114))) (iv_em 1)) (iv_nd (iv_nd (some (.invokevirtual 144)) (iv_em 0)) (iv_nd (iv_em 0) (some (.return_))))) (iv_em 3))))) (iv_em 7)) (iv_em 8)) (iv_em 9)) (iv_em 10))
set_option maxRecDepth 20000 in
def iv_code148 : iv_Tr Jvm.ClassFile.Instr 11 := (iv_nd (iv_nd (iv_nd (iv_nd (iv_nd (iv_nd (iv_nd (iv_nd (iv_nd (iv_nd (iv_nd (some (.iload_n 0)) (some (.i2l))) (iv_nd (some (.lconst 0)) (some (.ldc2_w 161)))) (iv_nd (iv_em 1) (iv_nd (some (.invokestatic 128)) (iv_em 0)))) (iv_nd (iv_nd (iv_nd (iv_em 0) (some (.ireturn))) (iv_em 1)) (iv_em 2))) (iv_em 4)) (iv_em 5)) (iv_em 6)) (iv_em 7)) (iv_em 8)) (iv_em 9)) (iv_em 10))
set_option maxRecDepth 20000 in
def iv_code149 : iv_Tr Jvm.ClassFile.Instr 11 := (iv_nd (iv_nd (iv_nd (iv_nd (iv_nd (iv_nd (iv_nd (iv_nd (iv_nd (iv_nd (iv_nd (some (.iload_n 1)) (some (.invokestatic 190))) (iv_em 1)) (iv_nd (iv_nd (some (.ifCond .ne 5)) (iv_em 0)) (iv_nd (iv_em 0) (some (.iconst (-1)))))) (iv_nd (iv_nd (iv_nd (some (.ireturn)) (some (.aload_n 0))) (iv_nd (some (.invokevirtual 193)) (iv_em 0))) (iv_nd (iv_nd (iv_em 0) (some (.aload_n 0))) (iv_nd (some (.iconst 0)) (some (.putfield 107)))))) (iv_nd (iv_nd (iv_nd (iv_em 1) (iv_nd (some (.aload_n 0)) (some (.invokevirtual 120)))) (iv_nd (iv_em 1) (iv_nd (some (.ifCond .ne 11)) (iv_em 0)))) (iv_nd (iv_nd (iv_nd (iv_em 0) (some (.bipush (-2)))) (iv_nd (iv_em 0) (some (.aload_n 0)))) (iv_nd (iv_nd (some (.getfield 117)) (iv_em 0)) (iv_nd (iv_em 0) (some (.isub))))))) (iv_nd (iv_nd (iv_nd (iv_nd (iv_nd (some (.ireturn)) (some (.aload_n 0))) (iv_nd (some (.invokevirtual 170)) (iv_em 0))) (iv_nd (iv_nd (iv_em 0) (some (.iconst 0))) (iv_nd (some (.istore_n 2)) (some (.iconst 0))))) (iv_nd (iv_nd (iv_nd (some (.istore_n 3)) (some (.iload_n 3))) (iv_nd (some (.bipush 9)) (iv_em 0))) (iv_nd (iv_nd (some (.if_icmp .ge 37)) (iv_em 0)) (iv_nd (iv_em 0) (some (.aload_n 0)))))) (iv_nd (iv_nd (iv_nd (iv_nd (some (.getfield 9)) (iv_em 0)) (iv_nd (iv_em 0) (some (.iconst 5)))) (iv_nd (iv_nd (some (.bipush 9)) (iv_em 0)) (iv_nd (some (.iload_n 1)) (some (.imul))))) (iv_nd (iv_nd (iv_nd (some (.iadd)) (some (.iload_n 3))) (iv_nd (some (.iadd)) (some (.aload_n 0)))) (iv_nd (iv_nd (some (.getfield 23)) (iv_em 0)) (iv_nd (iv_em 0) (some (.iload_n 3)))))))) (iv_nd (iv_nd (iv_nd (iv_nd (iv_nd (iv_nd (some (.iaload)) (some (.iastore))) (iv_nd (some (.iload_n 2)) (some (.aload_n 0)))) (iv_nd (iv_nd (some (.getfield 23)) (iv_em 0)) (iv_nd (iv_em 0) (some (.iload_n 3))))) (iv_nd (iv_nd (iv_nd (some (.iaload)) (some (.iadd))) (iv_nd (some (.istore_n 2)) (some (.iinc 3 1)))) (iv_nd (iv_em 1) (iv_nd (some (.goto (-37))) (iv_em 0))))) (iv_nd (iv_nd (iv_nd (iv_nd (iv_em 0) (some (.iload_n 2))) (iv_nd (some (.ireturn)) (iv_em 0))) (iv_em 2)) (iv_em 3))) (iv_em 5))) (iv_em 7)) (iv_em 8)) (iv_em 9)) (iv_em 10))
set_option maxRecDepth 20000 in
def iv_code150 : iv_Tr Jvm.ClassFile.Instr 11 := (iv_nd (iv_nd (iv_nd (iv_nd (iv_nd (iv_nd (iv_nd (iv_nd (iv_nd (iv_nd (iv_nd (some (.aload_n 0)) (some (.getfield 9))) (iv_em 1)) (iv_nd (iv_nd (some (.iconst 2)) (some (.iaload))) (iv_nd (some (.bipush 7)) (iv_em 0)))) (iv_nd (iv_nd (iv_nd (some (.if_icmp .ne 7)) (iv_em 0)) (iv_nd (iv_em 0) (some (.iconst 1)))) (iv_nd (iv_nd (some (.goto 4)) (iv_em 0)) (iv_nd (iv_em 0) (some (.iconst 0)))))) (iv_nd (iv_nd (iv_nd (iv_nd (some (.ireturn)) (iv_em 0)) (iv_em 1)) (iv_em 2)) (iv_em 3))) (iv_em 5)) (iv_em 6)) (iv_em 7)) (iv_em 8)) (iv_em 9)) (iv_em 10))
set_option maxRecDepth 20000 in
def iv_code151 : iv_Tr Jvm.ClassFile.Instr 11 := (iv_nd (iv_nd (iv_nd (iv_nd (iv_nd (iv_nd (iv_nd (iv_nd (iv_nd (iv_nd (iv_nd (some (.aload_n 0)) (some (.getfield 9))) (iv_em 1)) (iv_nd (iv_nd (some (.iconst 0)) (some (.iaload))) (iv_nd (some (.aload_n 0)) (some (.getfield 9))))) (iv_nd (iv_nd (iv_em 1) (iv_nd (some (.iconst 1)) (some (.iaload)))) (iv_nd (iv_nd (some (.imul)) (some (.ireturn))) (iv_em 1)))) (iv_em 4)) (iv_em 5)) (iv_em 6)) (iv_em 7)) (iv_em 8)) (iv_em 9)) (iv_em 10))
set_option maxRecDepth 20000 in
def iv_code153 : iv_Tr Jvm.ClassFile.Instr 11 := (iv_nd (iv_nd (iv_nd (iv_nd (iv_nd (iv_nd (iv_nd (iv_nd (iv_nd (iv_nd (iv_nd (some (.iconst 0)) (some (.istore_n 3))) (iv_nd (some (.iload_n 3)) (some (.aload_n 0)))) (iv_nd (iv_nd (some (.invokevirtual 196)) (iv_em 0)) (iv_nd (iv_em 0) (some (.if_icmp .ge 29))))) (iv_nd (iv_nd (iv_em 1) (iv_nd (some (.aload_n 0)) (some (.iload_n 1)))) (iv_nd (iv_nd (some (.invokevirtual 163)) (iv_em 0)) (iv_nd (iv_em 0) (some (.ifCond .eq 21)))))) (iv_nd (iv_nd (iv_nd (iv_em 1) (iv_nd (some (.aload_n 0)) (some (.iload_n 1)))) (iv_nd (iv_nd (some (.iload_n 3)) (some (.invokevirtual 199))) (iv_em 1))) (iv_nd (iv_nd (iv_nd (some (.iload_n 2)) (some (.if_icmp .ne 5))) (iv_em 1)) (iv_nd (iv_nd (some (.iconst 1)) (some (.ireturn))) (iv_nd (some (.iinc 3 1)) (iv_em 0)))))) (iv_nd (iv_nd (iv_nd (iv_nd (iv_nd (iv_em 0) (some (.goto (-31)))) (iv_em 1)) (iv_nd (iv_nd (some (.iconst 0)) (some (.ireturn))) (iv_em 1))) (iv_em 3)) (iv_em 4))) (iv_em 6)) (iv_em 7)) (iv_em 8)) (iv_em 9)) (iv_em 10))
set_option maxRecDepth 20000 in
def iv_code154 : iv_Tr Jvm.ClassFile.Instr 11 := (iv_nd (iv_nd (iv_nd (iv_nd (iv_nd (iv_nd (iv_nd (iv_nd (iv_nd (iv_nd (iv_nd (some (.iconst 0)) (some (.istore_n 3))) (iv_nd (some (.iconst 0)) (some (.istore 4)))) (iv_nd (iv_nd (iv_em 0) (some (.iload 4))) (iv_nd (iv_em 0) (some (.iload_n 2))))) (iv_nd (iv_nd (iv_nd (some (.if_icmp .ge 22)) (iv_em 0)) (iv_nd (iv_em 0) (some (.iload_n 3)))) (iv_nd (iv_nd (some (.aload_n 0)) (some (.iload_n 1))) (iv_nd (some (.iload 4)) (iv_em 0))))) (iv_nd (iv_nd (iv_nd (iv_nd (some (.invokevirtual 202)) (iv_em 0)) (iv_nd (iv_em 0) (some (.invokestatic 186)))) (iv_nd (iv_em 1) (iv_nd (some (.iadd)) (some (.istore_n 3))))) (iv_nd (iv_nd (iv_nd (some (.iinc 4 1)) (iv_em 0)) (iv_nd (iv_em 0) (some (.goto (-22))))) (iv_nd (iv_em 1) (iv_nd (some (.iload_n 3)) (some (.ireturn))))))) (iv_em 5)) (iv_em 6)) (iv_em 7)) (iv_em 8)) (iv_em 9)) (iv_em 10))
set_option maxRecDepth 20000 in
def iv_code155 : iv_Tr Jvm.ClassFile.Instr 11 := (iv_nd (iv_nd (iv_nd (iv_nd (iv_nd (iv_nd (iv_nd (iv_nd (iv_nd (iv_nd (iv_nd (some (.aload_n 0)) (some (.getfield 9))) (iv_em 1)) (iv_nd (iv_nd (some (.iconst 5)) (some (.bipush 9))) (iv_nd (iv_em 0) (some (.iload_n 1))))) (iv_nd (iv_nd (iv_nd (some (.imul)) (some (.iadd))) (iv_nd (some (.iload_n 2)) (some (.iadd)))) (iv_nd (iv_nd (some (.iaload)) (some (.ireturn))) (iv_em 1)))) (iv_em 4)) (iv_em 5)) (iv_em 6)) (iv_em 7)) (iv_em 8)) (iv_em 9)) (iv_em 10))
set_option maxRecDepth 20000 in
def iv_code159 : iv_Tr Jvm.ClassFile.Instr 11 := (iv_nd (iv_nd (iv_nd (iv_nd (iv_nd (iv_nd (iv_nd (iv_nd (iv_nd (iv_nd (iv_nd (some (.aload_n 0)) (some (.iload_n 1))) (iv_nd (some (.putfield 208)) (iv_em 0))) (iv_nd (iv_nd (iv_em 0) (some (.aload_n 0))) (iv_nd (some (.iload_n 2)) (some (.putfield 211))))) (iv_nd (iv_nd (iv_em 1) (iv_nd (some (.iconst 0)) (some (.istore_n 3)))) (iv_nd (iv_nd (some (.iload_n 3)) (some (.bipush 72))) (iv_nd (iv_em 0) (some (.if_icmp .ge 30)))))) (iv_nd (iv_nd (iv_nd (iv_em 1) (iv_nd (some (.aload_n 0)) (some (.getfield 30)))) (iv_nd (iv_em 1) (iv_nd (some (.iload_n 3)) (some (.iconst 0))))) (iv_nd (iv_nd (iv_nd (some (.iastore)) (some (.aload_n 0))) (iv_nd (some (.getfield 36)) (iv_em 0))) (iv_nd (iv_nd (iv_em 0) (some (.iload_n 3))) (iv_nd (some (.lconst 0)) (some (.lastore))))))) (iv_nd (iv_nd (iv_nd (iv_nd (iv_nd (some (.aload_n 0)) (some (.getfield 39))) (iv_em 1)) (iv_nd (iv_nd (some (.iload_n 3)) (some (.lconst 0))) (iv_nd (some (.lastore)) (some (.iinc 3 1))))) (iv_nd (iv_nd (iv_em 1) (iv_nd (some (.goto (-30))) (iv_em 0))) (iv_nd (iv_nd (iv_em 0) (some (.return_))) (iv_em 1)))) (iv_em 4))) (iv_em 6)) (iv_em 7)) (iv_em 8)) (iv_em 9)) (iv_em 10))
set_option maxRecDepth 20000 in
def iv_code160 : iv_Tr Jvm.ClassFile.Instr 11 := (iv_nd (iv_nd (iv_nd (iv_nd (iv_nd (iv_nd (iv_nd (iv_nd (iv_nd (iv_nd (iv_nd (some (.bipush 9)) (iv_em 0)) (iv_nd (some (.iload_n 0)) (some (.imul)))) (iv_nd (iv_nd (some (.iload_n 1)) (some (.iadd))) (iv_nd (some (.ireturn)) (iv_em 0)))) (iv_em 3)) (iv_em 4)) (iv_em 5)) (iv_em 6)) (iv_em 7)) (iv_em 8)) (iv_em 9)) (iv_em 10))
set_option maxRecDepth 20000 in
def iv_code174 : iv_Tr Jvm.ClassFile.Instr 11 := (iv_nd (iv_nd (iv_nd (iv_nd (iv_nd (iv_nd (iv_nd (iv_nd (iv_nd (iv_nd (iv_nd (some (.aload_n 0)) (some (.iload_n 1))) (iv_nd (some (.bipush 8)) (iv_em 0))) (iv_nd (iv_nd (some (.invokevirtual 264)) (iv_em 0)) (iv_nd (iv_em 0) (some (.istore_n 2))))) (iv_nd (iv_nd (iv_nd (some (.iconst 0)) (some (.istore_n 3))) (iv_nd (some (.iload_n 3)) (some (.bipush 8)))) (iv_nd (iv_nd (iv_em 0) (some (.if_icmp .ge 31))) (iv_em 1)))) (iv_nd (iv_nd (iv_nd (iv_nd (some (.iload_n 2)) (some (.aload_n 0))) (iv_nd (some (.iconst 0)) (some (.iload_n 3)))) (iv_nd (iv_nd (some (.invokevirtual 202)) (iv_em 0)) (iv_nd (iv_em 0) (some (.ifCond .eq 7))))) (iv_nd (iv_nd (iv_em 1) (iv_nd (some (.iconst 0)) (some (.goto 9)))) (iv_nd (iv_em 1) (iv_nd (some (.aload_n 0)) (some (.iload_n 1))))))) (iv_nd (iv_nd (iv_nd (iv_nd (iv_nd (some (.iload_n 3)) (some (.invokevirtual 264))) (iv_em 1)) (iv_nd (iv_nd (some (.iadd)) (some (.istore_n 2))) (iv_nd (some (.iinc 3 1)) (iv_em 0)))) (iv_nd (iv_nd (iv_nd (iv_em 0) (some (.goto (-31)))) (iv_em 1)) (iv_nd (iv_nd (some (.iload_n 2)) (some (.ireturn))) (iv_em 1)))) (iv_em 4))) (iv_em 6)) (iv_em 7)) (iv_em 8)) (iv_em 9)) (iv_em 10))
set_option maxRecDepth 20000 in
def iv_code175 : iv_Tr Jvm.ClassFile.Instr 11 := (iv_nd (iv_nd (iv_nd (iv_nd (iv_nd (iv_nd (iv_nd (iv_nd (iv_nd (iv_nd (iv_nd (some (.aload_n 0)) (some (.getfield 9))) (iv_em 1)) (iv_nd (iv_nd (some (.iconst 4)) (some (.iaload))) (iv_nd (some (.iconst 1)) (some (.if_icmp .ne 17))))) (iv_nd (iv_nd (iv_em 1) (iv_nd (some (.aload_n 0)) (some (.iconst 0)))) (iv_nd (iv_nd (some (.bipush 8)) (iv_em 0)) (iv_nd (some (.invokevirtual 267)) (iv_em 0))))) (iv_nd (iv_nd (iv_nd (iv_nd (iv_em 0) (some (.ifCond .le 7))) (iv_em 1)) (iv_nd (iv_nd (some (.iconst 1)) (some (.goto 4))) (iv_em 1))) (iv_nd (iv_nd (iv_nd (some (.iconst 0)) (some (.ireturn))) (iv_em 1)) (iv_em 2)))) (iv_em 5)) (iv_em 6)) (iv_em 7)) (iv_em 8)) (iv_em 9)) (iv_em 10))
set_option maxRecDepth 20000 in
def iv_code176 : iv_Tr Jvm.ClassFile.Instr 11 := (iv_nd (iv_nd (iv_nd (iv_nd (iv_nd (iv_nd (iv_nd (iv_nd (iv_nd (iv_nd (iv_nd (some (.aload_n 0)) (some (.invokevirtual 270))) (iv_em 1)) (iv_nd (iv_nd (some (.ifCond .eq 7)) (iv_em 0)) (iv_nd (iv_em 0) (some (.iconst 0))))) (iv_nd (iv_nd (iv_nd (some (.goto 8)) (iv_em 0)) (iv_nd (iv_em 0) (some (.aload_n 0)))) (iv_nd (iv_nd (some (.iload_n 1)) (some (.invokevirtual 273))) (iv_em 1)))) (iv_nd (iv_nd (iv_nd (iv_nd (some (.ireturn)) (iv_em 0)) (iv_em 1)) (iv_em 2)) (iv_em 3))) (iv_em 5)) (iv_em 6)) (iv_em 7)) (iv_em 8)) (iv_em 9)) (iv_em 10))
set_option maxRecDepth 20000 in
def iv_code177 : iv_Tr Jvm.ClassFile.Instr 11 := (iv_nd (iv_nd (iv_nd (iv_nd (iv_nd (iv_nd (iv_nd (iv_nd (iv_nd (iv_nd (iv_nd (some (.aload_n 0)) (some (.iconst 1))) (iv_nd (some (.bipush 8)) (iv_em 0))) (iv_nd (iv_nd (some (.invokevirtual 276)) (iv_em 0)) (iv_nd (iv_em 0) (some (.aload_n 0))))) (iv_nd (iv_nd (iv_nd (some (.getfield 26)) (iv_em 0)) (iv_nd (iv_em 0) (some (.iconst 0)))) (iv_nd (iv_nd (some (.aload_n 0)) (some (.iload_n 1))) (iv_nd (some (.invokevirtual 273)) (iv_em 0))))) (iv_nd (iv_nd (iv_nd (iv_nd (iv_em 0) (some (.i2l))) (iv_nd (some (.lastore)) (some (.iconst 0)))) (iv_nd (iv_nd (some (.istore_n 2)) (some (.iload_n 2))) (iv_nd (some (.bipush 8)) (iv_em 0)))) (iv_nd (iv_nd (iv_nd (some (.if_icmp .ge 46)) (iv_em 0)) (iv_nd (iv_em 0) (some (.aload_n 0)))) (iv_nd (iv_nd (some (.getfield 73)) (iv_em 0)) (iv_nd (iv_em 0) (some (.iload_n 2))))))) (iv_nd (iv_nd (iv_nd (iv_nd (iv_nd (some (.aload_n 0)) (some (.iconst 0))) (iv_nd (some (.iload_n 2)) (some (.invokevirtual 202)))) (iv_nd (iv_em 1) (iv_nd (some (.ifCond .eq 12)) (iv_em 0)))) (iv_nd (iv_nd (iv_nd (iv_em 0) (some (.aload_n 0))) (iv_nd (some (.iload_n 1)) (some (.iload_n 2)))) (iv_nd (iv_nd (some (.invokevirtual 264)) (iv_em 0)) (iv_nd (iv_em 0) (some (.goto 4)))))) (iv_nd (iv_nd (iv_nd (iv_em 1) (iv_nd (some (.iconst 0)) (some (.iastore)))) (iv_nd (iv_nd (some (.aload_n 0)) (some (.getfield 30))) (iv_em 1))) (iv_nd (iv_nd (iv_nd (some (.iload_n 2)) (some (.aload_n 0))) (iv_nd (some (.getfield 73)) (iv_em 0))) (iv_nd (iv_nd (iv_em 0) (some (.iload_n 2))) (iv_nd (some (.iaload)) (some (.iastore)))))))) (iv_nd (iv_nd (iv_nd (iv_nd (iv_nd (iv_nd (some (.iinc 2 1)) (iv_em 0)) (iv_nd (iv_em 0) (some (.goto (-46))))) (iv_nd (iv_em 1) (iv_nd (some (.aload_n 0)) (some (.invokevirtual 270))))) (iv_nd (iv_nd (iv_em 1) (iv_nd (some (.ifCond .ne 4)) (iv_em 0))) (iv_nd (iv_nd (iv_em 0) (some (.return_))) (iv_nd (some (.aload_n 0)) (some (.iconst 0)))))) (iv_nd (iv_nd (iv_nd (iv_nd (some (.invokevirtual 254)) (iv_em 0)) (iv_nd (iv_em 0) (some (.ifCond .ne 34)))) (iv_nd (iv_em 1) (iv_nd (some (.iconst 0)) (some (.istore_n 2))))) (iv_nd (iv_nd (iv_nd (some (.iload_n 2)) (some (.bipush 8))) (iv_nd (iv_em 0) (some (.if_icmp .ge 20)))) (iv_nd (iv_em 1) (iv_nd (some (.aload_n 0)) (some (.getfield 30))))))) (iv_nd (iv_nd (iv_nd (iv_nd (iv_em 1) (iv_nd (some (.iload_n 2)) (some (.aload_n 0)))) (iv_nd (iv_nd (some (.iload_n 2)) (some (.invokevirtual 279))) (iv_em 1))) (iv_nd (iv_nd (iv_nd (some (.iastore)) (some (.iinc 2 1))) (iv_em 1)) (iv_nd (iv_nd (some (.goto (-20))) (iv_em 0)) (iv_nd (iv_em 0) (some (.aload_n 0)))))) (iv_nd (iv_nd (iv_nd (iv_nd (some (.iconst 0)) (some (.invokevirtual 254))) (iv_em 1)) (iv_nd (iv_nd (some (.pop)) (some (.aload_n 0))) (iv_nd (some (.iconst 0)) (some (.invokevirtual 261))))) (iv_nd (iv_nd (iv_em 1) (iv_nd (some (.iconst 0)) (some (.istore_n 2)))) (iv_nd (iv_nd (some (.iload_n 2)) (some (.bipush 8))) (iv_nd (iv_em 0) (some (.if_icmp .ge 25))))))))) (iv_nd (iv_nd (iv_nd (iv_nd (iv_nd (iv_nd (iv_em 1) (iv_nd (some (.aload_n 0)) (some (.getfield 73)))) (iv_nd (iv_em 1) (iv_nd (some (.iload_n 2)) (some (.dup2))))) (iv_nd (iv_nd (iv_nd (some (.iaload)) (some (.aload_n 0))) (iv_nd (some (.getfield 36)) (iv_em 0))) (iv_nd (iv_nd (iv_em 0) (some (.iload_n 2))) (iv_nd (some (.laload)) (some (.l2i)))))) (iv_nd (iv_nd (iv_nd (iv_nd (some (.iadd)) (some (.iastore))) (iv_nd (some (.iinc 2 1)) (iv_em 0))) (iv_nd (iv_nd (iv_em 0) (some (.goto (-25)))) (iv_em 1))) (iv_nd (iv_nd (iv_nd (some (.return_)) (iv_em 0)) (iv_em 1)) (iv_em 2)))) (iv_em 5)) (iv_em 6))) (iv_em 8)) (iv_em 9)) (iv_em 10))
set_option maxRecDepth 20000 in
def iv_code178 : iv_Tr Jvm.ClassFile.Instr 11 := (iv_nd (iv_nd (iv_nd (iv_nd (iv_nd (iv_nd (iv_nd (iv_nd (iv_nd (iv_nd (iv_nd (some (.iconst 0)) (some (.istore_n 2))) (iv_nd (some (.iconst 0)) (some (.istore_n 3)))) (iv_nd (iv_nd (some (.iload_n 3)) (some (.bipush 9))) (iv_nd (iv_em 0) (some (.if_icmp .ge 18))))) (iv_nd (iv_nd (iv_em 1) (iv_nd (some (.iload_n 2)) (some (.aload_n 0)))) (iv_nd (iv_nd (some (.iload_n 1)) (some (.iload_n 3))) (iv_nd (some (.invokevirtual 264)) (iv_em 0))))) (iv_nd (iv_nd (iv_nd (iv_nd (iv_em 0) (some (.iadd))) (iv_nd (some (.istore_n 2)) (some (.iinc 3 1)))) (iv_nd (iv_em 1) (iv_nd (some (.goto (-18))) (iv_em 0)))) (iv_nd (iv_nd (iv_nd (iv_em 0) (some (.iload_n 2))) (iv_nd (some (.ireturn)) (iv_em 0))) (iv_em 2)))) (iv_em 5)) (iv_em 6)) (iv_em 7)) (iv_em 8)) (iv_em 9)) (iv_em 10))
set_option maxRecDepth 20000 in
def iv_code179 : iv_Tr Jvm.ClassFile.Instr 11 := (iv_nd (iv_nd (iv_nd (iv_nd (iv_nd (iv_nd (iv_nd (iv_nd (iv_nd (iv_nd (iv_nd (some (.iload_n 1)) (some (.invokestatic 190))) (iv_em 1)) (iv_nd (iv_nd (some (.ifCond .eq 15)) (iv_em 0)) (iv_nd (iv_em 0) (some (.iload_n 2))))) (iv_nd (iv_nd (iv_nd (some (.i2l)) (some (.lconst 0))) (iv_nd (some (.ldc2_w 282)) (iv_em 0))) (iv_nd (iv_nd (iv_em 0) (some (.invokestatic 128))) (iv_em 1)))) (iv_nd (iv_nd (iv_nd (iv_nd (some (.ifCond .ne 5)) (iv_em 0)) (iv_nd (iv_em 0) (some (.iconst (-1))))) (iv_nd (iv_nd (some (.ireturn)) (some (.iload_n 2))) (iv_nd (some (.tableswitch 44 8 10 #[26, 32, 38])) (iv_em 0)))) (iv_em 3))) (iv_nd (iv_em 4) (iv_nd (iv_nd (iv_nd (iv_nd (some (.aload_n 0)) (some (.iload_n 1))) (iv_nd (some (.invokevirtual 273)) (iv_em 0))) (iv_nd (iv_nd (iv_em 0) (some (.ireturn))) (iv_nd (some (.aload_n 0)) (some (.iload_n 1))))) (iv_nd (iv_nd (iv_nd (some (.invokevirtual 284)) (iv_em 0)) (iv_nd (iv_em 0) (some (.ireturn)))) (iv_nd (iv_nd (some (.aload_n 0)) (some (.iload_n 1))) (iv_nd (some (.invokevirtual 287)) (iv_em 0))))))) (iv_nd (iv_nd (iv_nd (iv_nd (iv_nd (iv_nd (iv_em 0) (some (.ireturn))) (iv_nd (some (.aload_n 0)) (some (.iload_n 1)))) (iv_nd (iv_nd (some (.invokevirtual 290)) (iv_em 0)) (iv_nd (iv_em 0) (some (.aload_n 0))))) (iv_nd (iv_nd (iv_nd (some (.getfield 73)) (iv_em 0)) (iv_nd (iv_em 0) (some (.iload_n 2)))) (iv_nd (iv_nd (some (.iaload)) (some (.ireturn))) (iv_em 1)))) (iv_em 4)) (iv_em 5))) (iv_em 7)) (iv_em 8)) (iv_em 9)) (iv_em 10))
set_option maxRecDepth 20000 in
def iv_code185 : iv_Tr Jvm.ClassFile.Instr 11 := (iv_nd (iv_nd (iv_nd (iv_nd (iv_nd (iv_nd (iv_nd (iv_nd (iv_nd (iv_nd (iv_nd (some (.aload_n 0)) (some (.invokevirtual 303))) (iv_em 1)) (iv_nd (iv_nd (some (.ifCond .eq 38)) (iv_em 0)) (iv_nd (iv_em 0) (some (.iload_n 1))))) (iv_nd (iv_nd (iv_nd (some (.invokestatic 190)) (iv_em 0)) (iv_nd (iv_em 0) (some (.ifCond .eq 31)))) (iv_nd (iv_em 1) (iv_nd (some (.iload_n 2)) (some (.i2l)))))) (iv_nd (iv_nd (iv_nd (iv_nd (some (.ldc2_w 306)) (iv_em 0)) (iv_nd (iv_em 0) (some (.ldc2_w 308)))) (iv_nd (iv_em 1) (iv_nd (some (.invokestatic 128)) (iv_em 0)))) (iv_nd (iv_nd (iv_nd (iv_em 0) (some (.ifCond .eq 17))) (iv_em 1)) (iv_nd (iv_nd (some (.iload_n 3)) (some (.i2l))) (iv_nd (some (.ldc2_w 306)) (iv_em 0)))))) (iv_nd (iv_nd (iv_nd (iv_nd (iv_nd (iv_em 0) (some (.ldc2_w 310))) (iv_em 1)) (iv_nd (iv_nd (some (.invokestatic 128)) (iv_em 0)) (iv_nd (iv_em 0) (some (.ifCond .ne 5))))) (iv_nd (iv_nd (iv_em 1) (iv_nd (some (.iconst (-1))) (some (.ireturn)))) (iv_nd (iv_nd (some (.aload_n 0)) (some (.iload_n 1))) (iv_nd (some (.invokevirtual 312)) (iv_em 0))))) (iv_nd (iv_nd (iv_nd (iv_nd (iv_em 0) (some (.aload_n 0))) (iv_nd (some (.invokevirtual 315)) (iv_em 0))) (iv_nd (iv_nd (iv_em 0) (some (.iload_n 2))) (iv_nd (some (.iconst (-1))) (some (.if_icmp .ne 21))))) (iv_nd (iv_nd (iv_em 1) (iv_nd (some (.iload_n 3)) (some (.iconst (-1))))) (iv_nd (iv_nd (some (.if_icmp .ne 10)) (iv_em 0)) (iv_nd (iv_em 0) (some (.aload_n 0)))))))) (iv_nd (iv_nd (iv_nd (iv_nd (iv_nd (iv_nd (some (.invokevirtual 318)) (iv_em 0)) (iv_nd (iv_em 0) (some (.goto 8)))) (iv_nd (iv_em 1) (iv_nd (some (.aload_n 0)) (some (.iload_n 3))))) (iv_nd (iv_nd (iv_nd (some (.invokevirtual 321)) (iv_em 0)) (iv_nd (iv_em 0) (some (.ireturn)))) (iv_nd (iv_nd (some (.iload_n 3)) (some (.iconst (-1)))) (iv_nd (some (.if_icmp .ne 11)) (iv_em 0))))) (iv_nd (iv_nd (iv_nd (iv_nd (iv_em 0) (some (.aload_n 0))) (iv_nd (some (.iload_n 2)) (some (.invokevirtual 300)))) (iv_nd (iv_em 1) (iv_nd (some (.goto 14)) (iv_em 0)))) (iv_nd (iv_nd (iv_nd (iv_em 0) (some (.aload_n 0))) (iv_nd (some (.getfield 36)) (iv_em 0))) (iv_nd (iv_nd (iv_em 0) (some (.iload_n 2))) (iv_nd (some (.iload_n 3)) (some (.invokestatic 214))))))) (iv_nd (iv_nd (iv_nd (iv_nd (iv_em 1) (iv_nd (some (.laload)) (some (.l2i)))) (iv_nd (iv_nd (some (.ireturn)) (iv_em 0)) (iv_em 1))) (iv_em 3)) (iv_em 4)))) (iv_em 7)) (iv_em 8)) (iv_em 9)) (iv_em 10))
set_option maxRecDepth 20000 in
def iv_code188 : iv_Tr Jvm.ClassFile.Instr 11 := (iv_nd (iv_nd (iv_nd (iv_nd (iv_nd (iv_nd (iv_nd (iv_nd (iv_nd (iv_nd (iv_nd (some (.aload_n 0)) (some (.invokevirtual 303))) (iv_em 1)) (iv_nd (iv_nd (some (.ifCond .eq 32)) (iv_em 0)) (iv_nd (iv_em 0) (some (.iload_n 1))))) (iv_nd (iv_nd (iv_nd (some (.invokestatic 190)) (iv_em 0)) (iv_nd (iv_em 0) (some (.ifCond .eq 25)))) (iv_nd (iv_em 1) (iv_nd (some (.iload_n 2)) (some (.i2l)))))) (iv_nd (iv_nd (iv_nd (iv_nd (some (.lconst 0)) (some (.ldc2_w 327))) (iv_em 1)) (iv_nd (iv_nd (some (.invokestatic 128)) (iv_em 0)) (iv_nd (iv_em 0) (some (.ifCond .eq 13))))) (iv_nd (iv_nd (iv_em 1) (iv_nd (some (.iload_n 3)) (some (.i2l)))) (iv_nd (iv_nd (some (.lconst 0)) (some (.lconst 1))) (iv_nd (some (.invokestatic 128)) (iv_em 0)))))) (iv_nd (iv_nd (iv_nd (iv_nd (iv_nd (iv_em 0) (some (.ifCond .ne 5))) (iv_em 1)) (iv_nd (iv_nd (some (.iconst (-1))) (some (.ireturn))) (iv_nd (some (.iload_n 3)) (some (.iconst 1))))) (iv_nd (iv_nd (iv_nd (some (.if_icmp .ne 18)) (iv_em 0)) (iv_nd (iv_em 0) (some (.aload_n 0)))) (iv_nd (iv_nd (some (.iload_n 1)) (some (.invokevirtual 329))) (iv_em 1)))) (iv_nd (iv_nd (iv_nd (iv_nd (some (.aload_n 0)) (some (.invokevirtual 315))) (iv_em 1)) (iv_nd (iv_nd (some (.aload_n 0)) (some (.iload_n 2))) (iv_nd (some (.invokevirtual 321)) (iv_em 0)))) (iv_nd (iv_nd (iv_nd (iv_em 0) (some (.ireturn))) (iv_nd (some (.aload_n 0)) (some (.iload_n 1)))) (iv_nd (iv_nd (some (.invokevirtual 312)) (iv_em 0)) (iv_nd (iv_em 0) (some (.aload_n 0)))))))) (iv_nd (iv_nd (iv_nd (iv_nd (iv_nd (iv_nd (some (.invokevirtual 315)) (iv_em 0)) (iv_nd (iv_em 0) (some (.iconst 0)))) (iv_nd (iv_nd (some (.istore 4)) (iv_em 0)) (iv_nd (some (.iconst 0)) (some (.istore 5))))) (iv_nd (iv_nd (iv_nd (iv_em 0) (some (.iload 5))) (iv_nd (iv_em 0) (some (.bipush 8)))) (iv_nd (iv_nd (iv_em 0) (some (.if_icmp .ge 34))) (iv_em 1)))) (iv_nd (iv_nd (iv_nd (iv_nd (some (.iload 4)) (iv_em 0)) (iv_nd (some (.aload_n 0)) (some (.iload 5)))) (iv_nd (iv_nd (iv_em 0) (some (.invokevirtual 324))) (iv_em 1))) (iv_nd (iv_nd (iv_nd (some (.iload_n 2)) (some (.if_icmp .ne 12))) (iv_em 1)) (iv_nd (iv_nd (some (.aload_n 0)) (some (.iload 5))) (iv_nd (iv_em 0) (some (.invokevirtual 321))))))) (iv_nd (iv_nd (iv_nd (iv_nd (iv_em 1) (iv_nd (some (.goto 4)) (iv_em 0))) (iv_nd (iv_nd (iv_em 0) (some (.iconst 0))) (iv_nd (some (.iadd)) (some (.istore 4))))) (iv_nd (iv_nd (iv_nd (iv_em 0) (some (.iinc 5 1))) (iv_em 1)) (iv_nd (iv_nd (some (.goto (-35))) (iv_em 0)) (iv_nd (iv_em 0) (some (.iload 4)))))) (iv_nd (iv_nd (iv_nd (iv_nd (iv_em 0) (some (.ireturn))) (iv_em 1)) (iv_em 2)) (iv_em 3))))) (iv_em 7)) (iv_em 8)) (iv_em 9)) (iv_em 10))
set_option maxRecDepth 20000 in
def iv_code189 : iv_Tr Jvm.ClassFile.Instr 11 := (iv_nd (iv_nd (iv_nd (iv_nd (iv_nd (iv_nd (iv_nd (iv_nd (iv_nd (iv_nd (iv_nd (some (.aload_n 0)) (some (.invokevirtual 303))) (iv_em 1)) (iv_nd (iv_nd (some (.ifCond .eq 22)) (iv_em 0)) (iv_nd (iv_em 0) (some (.iload_n 1))))) (iv_nd (iv_nd (iv_nd (some (.invokestatic 190)) (iv_em 0)) (iv_nd (iv_em 0) (some (.ifCond .eq 15)))) (iv_nd (iv_em 1) (iv_nd (some (.iload_n 2)) (some (.i2l)))))) (iv_nd (iv_nd (iv_nd (iv_nd (some (.lconst 0)) (some (.ldc2_w 308))) (iv_em 1)) (iv_nd (iv_nd (some (.invokestatic 128)) (iv_em 0)) (iv_nd (iv_em 0) (some (.ifCond .ne 5))))) (iv_nd (iv_nd (iv_em 1) (iv_nd (some (.iconst (-1))) (some (.ireturn)))) (iv_nd (iv_nd (some (.aload_n 0)) (some (.iload_n 1))) (iv_nd (some (.invokevirtual 329)) (iv_em 0)))))) (iv_nd (iv_nd (iv_nd (iv_nd (iv_nd (iv_em 0) (some (.aload_n 0))) (iv_nd (some (.invokevirtual 315)) (iv_em 0))) (iv_nd (iv_nd (iv_em 0) (some (.iconst 0))) (iv_nd (some (.istore_n 3)) (some (.iload_n 3))))) (iv_nd (iv_nd (iv_nd (some (.iconst 4)) (some (.if_icmp .ge 20))) (iv_em 1)) (iv_nd (iv_nd (some (.aload_n 0)) (some (.getfield 79))) (iv_em 1)))) (iv_nd (iv_nd (iv_nd (iv_nd (some (.iload_n 3)) (some (.aload_n 0))) (iv_nd (some (.iload_n 3)) (some (.invokevirtual 321)))) (iv_nd (iv_em 1) (iv_nd (some (.iastore)) (some (.iinc 3 1))))) (iv_nd (iv_nd (iv_em 1) (iv_nd (some (.goto (-19))) (iv_em 0))) (iv_nd (iv_nd (iv_em 0) (some (.aload_n 0))) (iv_nd (some (.iconst 4)) (some (.bipush 8)))))))) (iv_nd (iv_nd (iv_nd (iv_nd (iv_nd (iv_nd (iv_em 0) (some (.invokevirtual 276))) (iv_em 1)) (iv_nd (iv_nd (some (.iconst 0)) (some (.istore_n 3))) (iv_nd (some (.iload_n 3)) (some (.iconst 4))))) (iv_nd (iv_nd (iv_nd (some (.if_icmp .ge 44)) (iv_em 0)) (iv_nd (iv_em 0) (some (.aload_n 0)))) (iv_nd (iv_nd (some (.getfield 26)) (iv_em 0)) (iv_nd (iv_em 0) (some (.iload_n 3)))))) (iv_nd (iv_nd (iv_nd (iv_nd (some (.aload_n 0)) (some (.getfield 79))) (iv_em 1)) (iv_nd (iv_nd (some (.iload_n 3)) (some (.iaload))) (iv_nd (some (.i2l)) (some (.lastore))))) (iv_nd (iv_nd (iv_nd (some (.aload_n 0)) (some (.iload_n 1))) (iv_nd (some (.iload_n 3)) (some (.iconst 0)))) (iv_nd (iv_nd (some (.invokevirtual 332)) (iv_em 0)) (iv_nd (iv_em 0) (some (.aload_n 0))))))) (iv_nd (iv_nd (iv_nd (iv_nd (iv_nd (some (.iload_n 3)) (some (.invokevirtual 254))) (iv_em 1)) (iv_nd (iv_nd (some (.ifCond .ne 10)) (iv_em 0)) (iv_nd (iv_em 0) (some (.aload_n 0))))) (iv_nd (iv_nd (iv_nd (some (.iload_n 1)) (some (.iload_n 3))) (iv_nd (some (.iconst 1)) (some (.invokevirtual 332)))) (iv_nd (iv_em 1) (iv_nd (some (.iinc 3 1)) (iv_em 0))))) (iv_nd (iv_nd (iv_nd (iv_nd (iv_em 0) (some (.goto (-43)))) (iv_em 1)) (iv_nd (iv_nd (some (.aload_n 0)) (some (.invokevirtual 315))) (iv_em 1))) (iv_nd (iv_nd (iv_nd (some (.aload_n 0)) (some (.iload_n 2))) (iv_nd (some (.invokevirtual 321)) (iv_em 0))) (iv_nd (iv_nd (iv_em 0) (some (.ireturn))) (iv_em 1))))))) (iv_em 7)) (iv_em 8)) (iv_em 9)) (iv_em 10))
set_option maxRecDepth 20000 in
def iv_code192 : iv_Tr Jvm.ClassFile.Instr 11 := (iv_nd (iv_nd (iv_nd (iv_nd (iv_nd (iv_nd (iv_nd (iv_nd (iv_nd (iv_nd (iv_nd (some (.aload_n 0)) (some (.invokevirtual 303))) (iv_em 1)) (iv_nd (iv_nd (some (.ifCond .eq 22)) (iv_em 0)) (iv_nd (iv_em 0) (some (.iload_n 1))))) (iv_nd (iv_nd (iv_nd (some (.invokestatic 190)) (iv_em 0)) (iv_nd (iv_em 0) (some (.ifCond .eq 15)))) (iv_nd (iv_em 1) (iv_nd (some (.iload_n 2)) (some (.i2l)))))) (iv_nd (iv_nd (iv_nd (iv_nd (some (.lconst 0)) (some (.ldc2_w 310))) (iv_em 1)) (iv_nd (iv_nd (some (.invokestatic 128)) (iv_em 0)) (iv_nd (iv_em 0) (some (.ifCond .ne 5))))) (iv_nd (iv_nd (iv_em 1) (iv_nd (some (.iconst (-1))) (some (.ireturn)))) (iv_nd (iv_nd (some (.aload_n 0)) (some (.iload_n 1))) (iv_nd (some (.invokevirtual 336)) (iv_em 0)))))) (iv_nd (iv_nd (iv_nd (iv_nd (iv_nd (iv_em 0) (some (.aload_n 0))) (iv_nd (some (.iload_n 2)) (some (.invokevirtual 321)))) (iv_nd (iv_em 1) (iv_nd (some (.ireturn)) (iv_em 0)))) (iv_em 3)) (iv_em 4))) (iv_em 6)) (iv_em 7)) (iv_em 8)) (iv_em 9)) (iv_em 10))
set_option maxRecDepth 20000 in
def iv_code193 : iv_Tr Jvm.ClassFile.Instr 11 := (iv_nd (iv_nd (iv_nd (iv_nd (iv_nd (iv_nd (iv_nd (iv_nd (iv_nd (iv_nd (iv_nd (some (.aload_n 0)) (some (.invokevirtual 303))) (iv_em 1)) (iv_nd (iv_nd (some (.ifCond .eq 10)) (iv_em 0)) (iv_nd (iv_em 0) (some (.iload_n 1))))) (iv_nd (iv_nd (iv_nd (some (.invokestatic 190)) (iv_em 0)) (iv_nd (iv_em 0) (some (.ifCond .ne 5)))) (iv_nd (iv_em 1) (iv_nd (some (.iconst (-1))) (some (.ireturn)))))) (iv_nd (iv_nd (iv_nd (iv_nd (some (.aload_n 0)) (some (.iload_n 1))) (iv_nd (some (.invokevirtual 336)) (iv_em 0))) (iv_nd (iv_nd (iv_em 0) (some (.iconst 0))) (iv_nd (some (.istore_n 2)) (some (.iload_n 2))))) (iv_nd (iv_nd (iv_nd (some (.bipush 8)) (iv_em 0)) (iv_nd (some (.if_icmp .ge 20)) (iv_em 0))) (iv_nd (iv_nd (iv_em 0) (some (.aload_n 0))) (iv_nd (some (.getfield 82)) (iv_em 0)))))) (iv_nd (iv_nd (iv_nd (iv_nd (iv_nd (iv_em 0) (some (.iload_n 2))) (iv_nd (some (.aload_n 0)) (some (.iload_n 2)))) (iv_nd (iv_nd (some (.invokevirtual 321)) (iv_em 0)) (iv_nd (iv_em 0) (some (.iastore))))) (iv_nd (iv_nd (iv_nd (some (.iinc 2 1)) (iv_em 0)) (iv_nd (iv_em 0) (some (.goto (-20))))) (iv_nd (iv_em 1) (iv_nd (some (.aload_n 0)) (some (.iload_n 1)))))) (iv_nd (iv_nd (iv_nd (iv_nd (some (.invokevirtual 290)) (iv_em 0)) (iv_nd (iv_em 0) (some (.iconst 0)))) (iv_nd (iv_nd (some (.istore_n 2)) (some (.iconst 0))) (iv_nd (some (.istore_n 3)) (some (.iload_n 3))))) (iv_nd (iv_nd (iv_nd (some (.bipush 8)) (iv_em 0)) (iv_nd (some (.if_icmp .ge 28)) (iv_em 0))) (iv_nd (iv_nd (iv_em 0) (some (.iload_n 2))) (iv_nd (some (.aload_n 0)) (some (.getfield 73)))))))) (iv_nd (iv_nd (iv_nd (iv_nd (iv_nd (iv_em 1) (iv_nd (some (.iload_n 3)) (some (.iaload)))) (iv_nd (iv_nd (some (.aload_n 0)) (some (.getfield 82))) (iv_em 1))) (iv_nd (iv_nd (iv_nd (some (.iload_n 3)) (some (.iaload))) (iv_nd (some (.isub)) (some (.invokestatic 339)))) (iv_nd (iv_em 1) (iv_nd (some (.iadd)) (some (.istore_n 2)))))) (iv_nd (iv_nd (iv_nd (iv_nd (some (.iinc 3 1)) (iv_em 0)) (iv_nd (iv_em 0) (some (.goto (-28))))) (iv_nd (iv_em 1) (iv_nd (some (.iload_n 2)) (some (.ireturn))))) (iv_em 3))) (iv_em 5))) (iv_em 7)) (iv_em 8)) (iv_em 9)) (iv_em 10))
set_option maxRecDepth 20000 in
def iv_code195 : iv_Tr Jvm.ClassFile.Instr 11 := (iv_nd (iv_nd (iv_nd (iv_nd (iv_nd (iv_nd (iv_nd (iv_nd (iv_nd (iv_nd (iv_nd (some (.aload_n 0)) (some (.invokevirtual 303))) (iv_em 1)) (iv_nd (iv_nd (some (.ifCond .eq 54)) (iv_em 0)) (iv_nd (iv_em 0) (some (.iload_n 1))))) (iv_nd (iv_nd (iv_nd (some (.invokestatic 190)) (iv_em 0)) (iv_nd (iv_em 0) (some (.ifCond .eq 47)))) (iv_nd (iv_em 1) (iv_nd (some (.iload_n 2)) (some (.i2l)))))) (iv_nd (iv_nd (iv_nd (iv_nd (some (.lconst 0)) (some (.ldc2_w 308))) (iv_em 1)) (iv_nd (iv_nd (some (.invokestatic 128)) (iv_em 0)) (iv_nd (iv_em 0) (some (.ifCond .eq 35))))) (iv_nd (iv_nd (iv_em 1) (iv_nd (some (.aload_n 0)) (some (.iconst 0)))) (iv_nd (iv_nd (some (.iload_n 2)) (some (.invokevirtual 202))) (iv_em 1))))) (iv_nd (iv_nd (iv_nd (iv_nd (iv_nd (some (.ifCond .eq 26)) (iv_em 0)) (iv_nd (iv_em 0) (some (.iload_n 3)))) (iv_nd (iv_nd (some (.i2l)) (some (.lconst 0))) (iv_nd (some (.ldc2_w 310)) (iv_em 0)))) (iv_nd (iv_nd (iv_nd (iv_em 0) (some (.invokestatic 128))) (iv_em 1)) (iv_nd (iv_nd (some (.ifCond .eq 14)) (iv_em 0)) (iv_nd (iv_em 0) (some (.iload 4)))))) (iv_nd (iv_nd (iv_nd (iv_nd (iv_em 0) (some (.i2l))) (iv_nd (some (.lconst 0)) (some (.lconst 1)))) (iv_nd (iv_nd (some (.invokestatic 128)) (iv_em 0)) (iv_nd (iv_em 0) (some (.ifCond .ne 5))))) (iv_nd (iv_nd (iv_em 1) (iv_nd (some (.iconst (-1))) (some (.ireturn)))) (iv_nd (iv_nd (some (.aload_n 0)) (some (.iload_n 1))) (iv_nd (some (.iload_n 2)) (some (.invokevirtual 297)))))))) (iv_nd (iv_nd (iv_nd (iv_nd (iv_nd (iv_em 1) (iv_nd (some (.istore 5)) (iv_em 0))) (iv_nd (iv_nd (some (.aload_n 0)) (some (.iload_n 1))) (iv_nd (some (.iload_n 2)) (some (.iload_n 3))))) (iv_nd (iv_nd (iv_nd (some (.iload 5)) (iv_em 0)) (iv_nd (some (.invokevirtual 293)) (iv_em 0))) (iv_nd (iv_nd (iv_em 0) (some (.i2l))) (iv_nd (some (.aload_n 0)) (some (.iload_n 1)))))) (iv_nd (iv_nd (iv_nd (iv_nd (some (.iload_n 2)) (some (.iconst (-1)))) (iv_nd (some (.iload 5)) (iv_em 0))) (iv_nd (iv_nd (some (.invokevirtual 293)) (iv_em 0)) (iv_nd (iv_em 0) (some (.i2l))))) (iv_nd (iv_nd (iv_nd (some (.iload 4)) (iv_em 0)) (iv_nd (some (.invokestatic 342)) (iv_em 0))) (iv_nd (iv_nd (iv_em 0) (some (.l2i))) (iv_nd (some (.ireturn)) (iv_em 0)))))) (iv_em 5))) (iv_em 7)) (iv_em 8)) (iv_em 9)) (iv_em 10))
set_option maxRecDepth 20000 in
def iv_code196 : iv_Tr Jvm.ClassFile.Instr 11 := (iv_nd (iv_nd (iv_nd (iv_nd (iv_nd (iv_nd (iv_nd (iv_nd (iv_nd (iv_nd (iv_nd (some (.aload_n 0)) (some (.invokevirtual 303))) (iv_em 1)) (iv_nd (iv_nd (some (.ifCond .eq 34)) (iv_em 0)) (iv_nd (iv_em 0) (some (.iload_n 1))))) (iv_nd (iv_nd (iv_nd (some (.invokestatic 190)) (iv_em 0)) (iv_nd (iv_em 0) (some (.ifCond .eq 27)))) (iv_nd (iv_em 1) (iv_nd (some (.iload_n 2)) (some (.i2l)))))) (iv_nd (iv_nd (iv_nd (iv_nd (some (.lconst 0)) (some (.ldc2_w 310))) (iv_em 1)) (iv_nd (iv_nd (some (.invokestatic 128)) (iv_em 0)) (iv_nd (iv_em 0) (some (.ifCond .eq 15))))) (iv_nd (iv_nd (iv_em 1) (iv_nd (some (.iload_n 3)) (some (.i2l)))) (iv_nd (iv_nd (some (.lconst 0)) (some (.ldc2_w 161))) (iv_em 1))))) (iv_nd (iv_nd (iv_nd (iv_nd (iv_nd (some (.invokestatic 128)) (iv_em 0)) (iv_nd (iv_em 0) (some (.ifCond .ne 7)))) (iv_nd (iv_em 1) (iv_nd (some (.ldc2_w 306)) (iv_em 0)))) (iv_nd (iv_nd (iv_nd (iv_em 0) (some (.lreturn))) (iv_nd (some (.aload_n 0)) (some (.iload_n 1)))) (iv_nd (iv_nd (some (.invokevirtual 312)) (iv_em 0)) (iv_nd (iv_em 0) (some (.lconst 0)))))) (iv_nd (iv_nd (iv_nd (iv_nd (some (.lstore 4)) (iv_em 0)) (iv_nd (some (.aload_n 0)) (some (.lconst 0)))) (iv_nd (iv_nd (some (.putfield 229)) (iv_em 0)) (iv_nd (iv_em 0) (some (.aload_n 0))))) (iv_nd (iv_nd (iv_nd (some (.lconst 1)) (some (.putfield 221))) (iv_em 1)) (iv_nd (iv_nd (some (.iconst 0)) (some (.istore 6))) (iv_nd (iv_em 0) (some (.iload 6)))))))) (iv_nd (iv_nd (iv_nd (iv_nd (iv_nd (iv_nd (iv_em 0) (some (.bipush 8))) (iv_nd (iv_em 0) (some (.if_icmp .ge 64)))) (iv_nd (iv_em 1) (iv_nd (some (.aload_n 0)) (some (.iload 6))))) (iv_nd (iv_nd (iv_nd (iv_em 0) (some (.invokevirtual 254))) (iv_em 1)) (iv_nd (iv_nd (some (.ifCond .le 49)) (iv_em 0)) (iv_nd (iv_em 0) (some (.aload_n 0)))))) (iv_nd (iv_nd (iv_nd (iv_nd (some (.iload 6)) (iv_em 0)) (iv_nd (some (.invokevirtual 217)) (iv_em 0))) (iv_nd (iv_nd (iv_em 0) (some (.pop2))) (iv_nd (some (.lload 4)) (iv_em 0)))) (iv_nd (iv_nd (iv_nd (some (.aload_n 0)) (some (.getfield 36))) (iv_em 1)) (iv_nd (iv_nd (some (.iload 6)) (iv_em 0)) (iv_nd (some (.iload_n 2)) (some (.invokestatic 214))))))) (iv_nd (iv_nd (iv_nd (iv_nd (iv_em 1) (iv_nd (some (.laload)) (some (.ladd)))) (iv_nd (iv_nd (some (.lstore 4)) (iv_em 0)) (iv_nd (some (.aload_n 0)) (some (.aload_n 0))))) (iv_nd (iv_nd (iv_nd (some (.getfield 39)) (iv_em 0)) (iv_nd (iv_em 0) (some (.iload 6)))) (iv_nd (iv_nd (iv_em 0) (some (.iload_n 2))) (iv_nd (some (.invokestatic 214)) (iv_em 0))))) (iv_nd (iv_nd (iv_nd (iv_nd (iv_em 0) (some (.laload))) (iv_nd (some (.aload_n 0)) (some (.getfield 33)))) (iv_nd (iv_em 1) (iv_nd (some (.iload 6)) (iv_em 0)))) (iv_nd (iv_nd (iv_nd (some (.iaload)) (some (.i2l))) (iv_nd (some (.invokevirtual 232)) (iv_em 0))) (iv_nd (iv_nd (iv_em 0) (some (.iinc 6 1))) (iv_em 1))))))) (iv_nd (iv_nd (iv_nd (iv_nd (iv_nd (iv_nd (iv_nd (some (.goto (-65))) (iv_em 0)) (iv_nd (iv_em 0) (some (.lload 4)))) (iv_nd (iv_nd (iv_em 0) (some (.aload_n 0))) (iv_nd (some (.getfield 229)) (iv_em 0)))) (iv_nd (iv_nd (iv_nd (iv_em 0) (some (.aload_n 0))) (iv_nd (some (.getfield 221)) (iv_em 0))) (iv_nd (iv_nd (iv_em 0) (some (.ldiv))) (iv_nd (some (.ladd)) (some (.lstore 4)))))) (iv_nd (iv_nd (iv_nd (iv_nd (iv_em 0) (some (.iload_n 3))) (iv_nd (some (.ifCond .ne 8)) (iv_em 0))) (iv_nd (iv_nd (iv_em 0) (some (.lload 4))) (iv_nd (iv_em 0) (some (.goto 22))))) (iv_nd (iv_nd (iv_em 1) (iv_nd (some (.aload_n 0)) (some (.getfield 229)))) (iv_nd (iv_em 1) (iv_nd (some (.aload_n 0)) (some (.getfield 221))))))) (iv_nd (iv_nd (iv_nd (iv_nd (iv_em 1) (iv_nd (some (.lrem)) (some (.aload_n 0)))) (iv_nd (iv_nd (some (.getfield 221)) (iv_em 0)) (iv_nd (iv_em 0) (some (.iload_n 3))))) (iv_nd (iv_nd (iv_nd (some (.iconst 1)) (some (.isub))) (iv_nd (some (.invokestatic 342)) (iv_em 0))) (iv_nd (iv_nd (iv_em 0) (some (.lreturn))) (iv_em 1)))) (iv_em 4))) (iv_em 6))) (iv_em 8)) (iv_em 9)) (iv_em 10))
set_option maxRecDepth 20000 in
def iv_code199 : iv_Tr Jvm.ClassFile.Instr 11 := (iv_nd (iv_nd (iv_nd (iv_nd (iv_nd (iv_nd (iv_nd (iv_nd (iv_nd (iv_nd (iv_nd (some (.aload_n 0)) (some (.invokevirtual 303))) (iv_em 1)) (iv_nd (iv_nd (some (.ifCond .eq 30)) (iv_em 0)) (iv_nd (iv_em 0) (some (.iload_n 1))))) (iv_nd (iv_nd (iv_nd (some (.invokestatic 190)) (iv_em 0)) (iv_nd (iv_em 0) (some (.ifCond .eq 23)))) (iv_nd (iv_em 1) (iv_nd (some (.aload_n 0)) (some (.iload_n 2)))))) (iv_nd (iv_nd (iv_nd (iv_nd (some (.iload_n 3)) (some (.invokevirtual 346))) (iv_em 1)) (iv_nd (iv_nd (some (.ifCond .eq 14)) (iv_em 0)) (iv_nd (iv_em 0) (some (.iload 4))))) (iv_nd (iv_nd (iv_nd (iv_em 0) (some (.i2l))) (iv_nd (some (.lconst 0)) (some (.lconst 1)))) (iv_nd (iv_nd (some (.invokestatic 128)) (iv_em 0)) (iv_nd (iv_em 0) (some (.ifCond .ne 7))))))) (iv_nd (iv_nd (iv_nd (iv_nd (iv_em 1) (iv_nd (some (.ldc2_w 306)) (iv_em 0))) (iv_nd (iv_nd (iv_em 0) (some (.lreturn))) (iv_nd (some (.aload_n 0)) (some (.iload_n 1))))) (iv_nd (iv_nd (iv_nd (some (.invokevirtual 349)) (iv_em 0)) (iv_nd (iv_em 0) (some (.aload_n 0)))) (iv_nd (iv_nd (some (.getfield 9)) (iv_em 0)) (iv_nd (iv_em 0) (some (.iconst 1)))))) (iv_nd (iv_nd (iv_nd (iv_nd (some (.iaload)) (some (.iload_n 2))) (iv_nd (some (.imul)) (some (.iload_n 3)))) (iv_nd (iv_nd (some (.iadd)) (some (.istore 5))) (iv_nd (iv_em 0) (some (.aload_n 0))))) (iv_nd (iv_nd (iv_nd (some (.getfield 85)) (iv_em 0)) (iv_nd (iv_em 0) (some (.iload 5)))) (iv_nd (iv_nd (iv_em 0) (some (.laload))) (iv_nd (some (.aload_n 0)) (some (.getfield 88)))))))) (iv_nd (iv_nd (iv_nd (iv_nd (iv_nd (iv_em 1) (iv_nd (some (.iload 5)) (iv_em 0))) (iv_nd (iv_nd (some (.laload)) (some (.iload 4))) (iv_nd (iv_em 0) (some (.invokestatic 342))))) (iv_nd (iv_nd (iv_em 1) (iv_nd (some (.lreturn)) (iv_em 0))) (iv_em 2))) (iv_em 4)) (iv_em 5))) (iv_em 7)) (iv_em 8)) (iv_em 9)) (iv_em 10))
set_option maxRecDepth 20000 in
def iv_code201 : iv_Tr Jvm.ClassFile.Instr 11 := (iv_nd (iv_nd (iv_nd (iv_nd (iv_nd (iv_nd (iv_nd (iv_nd (iv_nd (iv_nd (iv_nd (some (.aload_n 0)) (some (.invokevirtual 303))) (iv_em 1)) (iv_nd (iv_nd (some (.ifCond .eq 26)) (iv_em 0)) (iv_nd (iv_em 0) (some (.iload_n 1))))) (iv_nd (iv_nd (iv_nd (some (.invokestatic 190)) (iv_em 0)) (iv_nd (iv_em 0) (some (.ifCond .eq 19)))) (iv_nd (iv_em 1) (iv_nd (some (.iload_n 2)) (some (.i2l)))))) (iv_nd (iv_nd (iv_nd (iv_nd (some (.lconst 0)) (some (.aload_n 0))) (iv_nd (some (.invokevirtual 196)) (iv_em 0))) (iv_nd (iv_nd (iv_em 0) (some (.iconst 1))) (iv_nd (some (.isub)) (some (.i2l))))) (iv_nd (iv_nd (iv_nd (some (.invokestatic 128)) (iv_em 0)) (iv_nd (iv_em 0) (some (.ifCond .ne 5)))) (iv_nd (iv_em 1) (iv_nd (some (.iconst (-1))) (some (.ireturn))))))) (iv_nd (iv_nd (iv_nd (iv_nd (iv_nd (some (.aload_n 0)) (some (.iload_n 1))) (iv_nd (some (.invokevirtual 349)) (iv_em 0))) (iv_nd (iv_nd (iv_em 0) (some (.iconst 0))) (iv_nd (some (.istore_n 3)) (some (.iload_n 3))))) (iv_nd (iv_nd (iv_nd (some (.aload_n 0)) (some (.invokevirtual 196))) (iv_em 1)) (iv_nd (iv_nd (some (.if_icmp .ge 72)) (iv_em 0)) (iv_nd (iv_em 0) (some (.iconst 0)))))) (iv_nd (iv_nd (iv_nd (iv_nd (some (.istore 4)) (iv_em 0)) (iv_nd (some (.iconst 0)) (some (.istore 5)))) (iv_nd (iv_nd (iv_em 0) (some (.iload 5))) (iv_nd (iv_em 0) (some (.aload_n 0))))) (iv_nd (iv_nd (iv_nd (some (.invokevirtual 196)) (iv_em 0)) (iv_nd (iv_em 0) (some (.if_icmp .ge 24)))) (iv_nd (iv_em 1) (iv_nd (some (.iload 4)) (iv_em 0))))))) (iv_nd (iv_nd (iv_nd (iv_nd (iv_nd (iv_nd (some (.aload_n 0)) (some (.iload 5))) (iv_nd (iv_em 0) (some (.iload_n 3)))) (iv_nd (iv_nd (some (.invokevirtual 352)) (iv_em 0)) (iv_nd (iv_em 0) (some (.invokestatic 186))))) (iv_nd (iv_nd (iv_em 1) (iv_nd (some (.iadd)) (some (.istore 4)))) (iv_nd (iv_nd (iv_em 0) (some (.iinc 5 1))) (iv_em 1)))) (iv_nd (iv_nd (iv_nd (iv_nd (some (.goto (-27))) (iv_em 0)) (iv_nd (iv_em 0) (some (.iload 4)))) (iv_nd (iv_nd (iv_em 0) (some (.iload_n 2))) (iv_nd (some (.if_icmp .ne 24)) (iv_em 0)))) (iv_nd (iv_nd (iv_nd (iv_em 0) (some (.bipush 12))) (iv_nd (iv_em 0) (some (.iload_n 3)))) (iv_nd (iv_nd (some (.aload_n 0)) (some (.getfield 9))) (iv_em 1))))) (iv_nd (iv_nd (iv_nd (iv_nd (iv_nd (some (.iconst 1)) (some (.iaload))) (iv_nd (some (.idiv)) (some (.imul)))) (iv_nd (iv_nd (some (.iload_n 3)) (some (.aload_n 0))) (iv_nd (some (.getfield 9)) (iv_em 0)))) (iv_nd (iv_nd (iv_nd (iv_em 0) (some (.iconst 1))) (iv_nd (some (.iaload)) (some (.irem)))) (iv_nd (iv_nd (some (.iadd)) (some (.ireturn))) (iv_nd (some (.iinc 3 1)) (iv_em 0))))) (iv_nd (iv_nd (iv_nd (iv_nd (iv_em 0) (some (.goto (-74)))) (iv_em 1)) (iv_nd (iv_nd (some (.iconst (-1))) (some (.ireturn))) (iv_em 1))) (iv_em 3))))) (iv_em 7)) (iv_em 8)) (iv_em 9)) (iv_em 10))
set_option maxRecDepth 20000 in
def iv_code203 : iv_Tr Jvm.ClassFile.Instr 11 := (iv_nd (iv_nd (iv_nd (iv_nd (iv_nd (iv_nd (iv_nd (iv_nd (iv_nd (iv_nd (iv_nd (some (.aload_n 0)) (some (.invokevirtual 303))) (iv_em 1)) (iv_nd (iv_nd (some (.ifCond .eq 43)) (iv_em 0)) (iv_nd (iv_em 0) (some (.iload_n 1))))) (iv_nd (iv_nd (iv_nd (some (.invokestatic 190)) (iv_em 0)) (iv_nd (iv_em 0) (some (.ifCond .eq 36)))) (iv_nd (iv_em 1) (iv_nd (some (.iload_n 2)) (some (.i2l)))))) (iv_nd (iv_nd (iv_nd (iv_nd (some (.lconst 0)) (some (.ldc2_w 308))) (iv_em 1)) (iv_nd (iv_nd (some (.invokestatic 128)) (iv_em 0)) (iv_nd (iv_em 0) (some (.ifCond .eq 24))))) (iv_nd (iv_nd (iv_em 1) (iv_nd (some (.aload_n 0)) (some (.iconst 1)))) (iv_nd (iv_nd (some (.iload_n 2)) (some (.invokevirtual 202))) (iv_em 1))))) (iv_nd (iv_nd (iv_nd (iv_nd (iv_nd (some (.ifCond .eq 15)) (iv_em 0)) (iv_nd (iv_em 0) (some (.iload_n 3)))) (iv_nd (iv_nd (some (.i2l)) (some (.lconst 0))) (iv_nd (some (.ldc2_w 327)) (iv_em 0)))) (iv_nd (iv_nd (iv_nd (iv_em 0) (some (.invokestatic 128))) (iv_em 1)) (iv_nd (iv_nd (some (.ifCond .ne 7)) (iv_em 0)) (iv_nd (iv_em 0) (some (.ldc2_w 357)))))) (iv_nd (iv_nd (iv_nd (iv_em 1) (iv_nd (some (.lreturn)) (some (.aload_n 0)))) (iv_nd (iv_nd (some (.iload_n 1)) (some (.invokevirtual 312))) (iv_em 1))) (iv_nd (iv_nd (iv_nd (some (.aload_n 0)) (some (.invokevirtual 315))) (iv_em 1)) (iv_nd (iv_nd (some (.aload_n 0)) (some (.iload_n 2))) (iv_nd (some (.invokevirtual 321)) (iv_em 0))))))) (iv_nd (iv_nd (iv_nd (iv_nd (iv_nd (iv_nd (iv_em 0) (some (.i2d))) (iv_nd (some (.aload_n 0)) (some (.iload_n 2)))) (iv_nd (iv_nd (some (.invokevirtual 359)) (iv_em 0)) (iv_nd (iv_em 0) (some (.i2d))))) (iv_nd (iv_nd (iv_nd (some (.ddiv)) (some (.dstore 4))) (iv_nd (iv_em 0) (some (.iload_n 3)))) (iv_nd (iv_nd (some (.tableswitch 50 0 2 #[28, 34, 42])) (iv_em 0)) (iv_em 1)))) (iv_em 4)) (iv_nd (iv_nd (iv_em 3) (iv_nd (iv_nd (iv_nd (some (.dload 4)) (iv_em 0)) (iv_nd (some (.invokestatic 362)) (iv_em 0))) (iv_nd (iv_nd (iv_em 0) (some (.lreturn))) (iv_nd (some (.dload 4)) (iv_em 0))))) (iv_nd (iv_nd (iv_nd (iv_nd (some (.d2f)) (some (.invokestatic 368))) (iv_em 1)) (iv_nd (iv_nd (some (.i2l)) (some (.lreturn))) (iv_nd (some (.dload 4)) (iv_em 0)))) (iv_nd (iv_nd (iv_nd (some (.dconst 1)) (some (.drem))) (iv_nd (some (.invokestatic 362)) (iv_em 0))) (iv_nd (iv_nd (iv_em 0) (some (.lreturn))) (iv_nd (some (.dload 4)) (iv_em 0)))))))) (iv_nd (iv_nd (iv_nd (iv_nd (iv_nd (iv_nd (iv_nd (some (.ldc2_w 374)) (iv_em 0)) (iv_nd (iv_em 0) (some (.ddiv)))) (iv_nd (iv_nd (some (.invokestatic 376)) (iv_em 0)) (iv_nd (iv_em 0) (some (.d2l))))) (iv_nd (iv_nd (iv_nd (some (.lreturn)) (iv_em 0)) (iv_em 1)) (iv_em 2))) (iv_em 4)) (iv_em 5)) (iv_em 6))) (iv_em 8)) (iv_em 9)) (iv_em 10))
set_option maxRecDepth 20000 in
def iv_code204 : iv_Tr Jvm.ClassFile.Instr 11 := (iv_nd (iv_nd (iv_nd (iv_nd (iv_nd (iv_nd (iv_nd (iv_nd (iv_nd (iv_nd (iv_nd (some (.aload_n 0)) (some (.invokevirtual 303))) (iv_em 1)) (iv_nd (iv_nd (some (.ifCond .eq 10)) (iv_em 0)) (iv_nd (iv_em 0) (some (.iload_n 1))))) (iv_nd (iv_nd (iv_nd (some (.invokestatic 190)) (iv_em 0)) (iv_nd (iv_em 0) (some (.ifCond .ne 7)))) (iv_nd (iv_em 1) (iv_nd (some (.ldc2_w 357)) (iv_em 0))))) (iv_nd (iv_nd (iv_nd (iv_nd (iv_em 0) (some (.lreturn))) (iv_nd (some (.aload_n 0)) (some (.iload_n 1)))) (iv_nd (iv_nd (some (.invokevirtual 312)) (iv_em 0)) (iv_nd (iv_em 0) (some (.aload_n 0))))) (iv_nd (iv_nd (iv_nd (some (.invokevirtual 315)) (iv_em 0)) (iv_nd (iv_em 0) (some (.dconst 0)))) (iv_nd (iv_nd (some (.dstore_n 2)) (some (.iconst 0))) (iv_nd (some (.istore 4)) (iv_em 0)))))) (iv_nd (iv_nd (iv_nd (iv_nd (iv_nd (some (.iload 4)) (iv_em 0)) (iv_nd (some (.bipush 8)) (iv_em 0))) (iv_nd (iv_nd (some (.if_icmp .ge 90)) (iv_em 0)) (iv_nd (iv_em 0) (some (.iconst 0))))) (iv_nd (iv_nd (iv_nd (some (.istore 5)) (iv_em 0)) (iv_nd (some (.iload 5)) (iv_em 0))) (iv_nd (iv_nd (some (.bipush 9)) (iv_em 0)) (iv_nd (some (.if_icmp .ge 74)) (iv_em 0))))) (iv_nd (iv_nd (iv_nd (iv_nd (iv_em 0) (some (.aload_n 0))) (iv_nd (some (.getfield 33)) (iv_em 0))) (iv_nd (iv_nd (iv_em 0) (some (.iload 4))) (iv_nd (iv_em 0) (some (.iaload))))) (iv_nd (iv_nd (iv_nd (some (.ifCond .le 64)) (iv_em 0)) (iv_nd (iv_em 0) (some (.aload_n 0)))) (iv_nd (iv_nd (some (.getfield 26)) (iv_em 0)) (iv_nd (iv_em 0) (some (.iload 4)))))))) (iv_nd (iv_nd (iv_nd (iv_nd (iv_nd (iv_nd (iv_em 0) (some (.laload))) (iv_nd (some (.aload_n 0)) (some (.getfield 30)))) (iv_nd (iv_em 1) (iv_nd (some (.iload 4)) (iv_em 0)))) (iv_nd (iv_nd (iv_nd (some (.iload 5)) (iv_em 0)) (iv_nd (some (.invokestatic 214)) (iv_em 0))) (iv_nd (iv_nd (iv_em 0) (some (.iaload))) (iv_nd (some (.i2l)) (some (.lmul)))))) (iv_nd (iv_nd (iv_nd (iv_nd (some (.l2d)) (some (.aload_n 0))) (iv_nd (some (.getfield 33)) (iv_em 0))) (iv_nd (iv_nd (iv_em 0) (some (.iload 4))) (iv_nd (iv_em 0) (some (.iaload))))) (iv_nd (iv_nd (iv_nd (some (.i2d)) (some (.ddiv))) (iv_nd (some (.dstore 6)) (iv_em 0))) (iv_nd (iv_nd (some (.dload_n 2)) (some (.aload_n 0))) (iv_nd (some (.getfield 36)) (iv_em 0)))))) (iv_nd (iv_nd (iv_nd (iv_nd (iv_nd (iv_em 0) (some (.iload 4))) (iv_nd (iv_em 0) (some (.iload 5)))) (iv_nd (iv_nd (iv_em 0) (some (.invokestatic 214))) (iv_em 1))) (iv_nd (iv_nd (iv_nd (some (.laload)) (some (.l2d))) (iv_nd (some (.dload 6)) (iv_em 0))) (iv_nd (iv_nd (some (.dsub)) (some (.invokestatic 380))) (iv_em 1)))) (iv_nd (iv_nd (iv_nd (iv_nd (some (.dadd)) (some (.dstore_n 2))) (iv_nd (some (.iinc 5 1)) (iv_em 0))) (iv_nd (iv_nd (iv_em 0) (some (.goto (-75)))) (iv_em 1))) (iv_nd (iv_nd (iv_nd (some (.iinc 4 1)) (iv_em 0)) (iv_nd (iv_em 0) (some (.goto (-91))))) (iv_nd (iv_em 1) (iv_nd (some (.dload_n 2)) (some (.invokestatic 362))))))))) (iv_nd (iv_nd (iv_nd (iv_nd (iv_nd (iv_nd (iv_em 1) (iv_nd (some (.lreturn)) (iv_em 0))) (iv_em 2)) (iv_em 3)) (iv_em 4)) (iv_em 5)) (iv_em 6))) (iv_em 8)) (iv_em 9)) (iv_em 10))
set_option maxRecDepth 20000 in
def iv_code210 : iv_Tr Jvm.ClassFile.Instr 11 := (iv_nd (iv_nd (iv_nd (iv_nd (iv_nd (iv_nd (iv_nd (iv_nd (iv_nd (iv_nd (iv_nd (some (.aload_n 0)) (some (.invokevirtual 303))) (iv_em 1)) (iv_nd (iv_nd (some (.ifCond .eq 20)) (iv_em 0)) (iv_nd (iv_em 0) (some (.iload_n 1))))) (iv_nd (iv_nd (iv_nd (some (.invokestatic 190)) (iv_em 0)) (iv_nd (iv_em 0) (some (.ifCond .eq 13)))) (iv_nd (iv_em 1) (iv_nd (some (.iload_n 2)) (some (.i2l)))))) (iv_nd (iv_nd (iv_nd (iv_nd (some (.lconst 0)) (some (.lconst 1))) (iv_nd (some (.invokestatic 128)) (iv_em 0))) (iv_nd (iv_nd (iv_em 0) (some (.ifCond .ne 7))) (iv_em 1))) (iv_nd (iv_nd (iv_nd (some (.ldc2_w 306)) (iv_em 0)) (iv_nd (iv_em 0) (some (.lreturn)))) (iv_nd (iv_nd (some (.aload_n 0)) (some (.iload_n 1))) (iv_nd (some (.invokevirtual 400)) (iv_em 0)))))) (iv_nd (iv_nd (iv_nd (iv_nd (iv_nd (iv_em 0) (some (.aload_n 0))) (iv_nd (some (.getfield 382)) (iv_em 0))) (iv_nd (iv_nd (iv_em 0) (some (.ifCond .eq 11))) (iv_em 1))) (iv_nd (iv_nd (iv_nd (some (.aload_n 0)) (some (.iload_n 1))) (iv_nd (some (.invokevirtual 403)) (iv_em 0))) (iv_nd (iv_nd (iv_em 0) (some (.ifCond .ne 7))) (iv_em 1)))) (iv_nd (iv_nd (iv_nd (iv_nd (some (.ldc2_w 306)) (iv_em 0)) (iv_nd (iv_em 0) (some (.lreturn)))) (iv_nd (iv_nd (some (.aload_n 0)) (some (.getfield 388))) (iv_em 1))) (iv_nd (iv_nd (iv_nd (some (.aload_n 0)) (some (.getfield 391))) (iv_em 1)) (iv_nd (iv_nd (some (.iload_n 2)) (some (.invokestatic 342))) (iv_em 1)))))) (iv_nd (iv_nd (iv_nd (iv_nd (iv_nd (iv_nd (some (.lreturn)) (iv_em 0)) (iv_em 1)) (iv_em 2)) (iv_em 3)) (iv_em 4)) (iv_em 5))) (iv_em 7)) (iv_em 8)) (iv_em 9)) (iv_em 10))
set_option maxRecDepth 20000 in
def iv_code212 : iv_Tr Jvm.ClassFile.Instr 11 := (iv_nd (iv_nd (iv_nd (iv_nd (iv_nd (iv_nd (iv_nd (iv_nd (iv_nd (iv_nd (iv_nd (some (.aload_n 0)) (some (.invokevirtual 303))) (iv_em 1)) (iv_nd (iv_nd (some (.ifCond .eq 10)) (iv_em 0)) (iv_nd (iv_em 0) (some (.iload_n 1))))) (iv_nd (iv_nd (iv_nd (some (.invokestatic 190)) (iv_em 0)) (iv_nd (iv_em 0) (some (.ifCond .ne 5)))) (iv_nd (iv_em 1) (iv_nd (some (.iconst (-1))) (some (.ireturn)))))) (iv_nd (iv_nd (iv_nd (iv_nd (some (.aload_n 0)) (some (.iload_n 1))) (iv_nd (some (.invokevirtual 400)) (iv_em 0))) (iv_nd (iv_nd (iv_em 0) (some (.aload_n 0))) (iv_nd (some (.getfield 382)) (iv_em 0)))) (iv_nd (iv_nd (iv_nd (iv_em 0) (some (.ifCond .ne 5))) (iv_em 1)) (iv_nd (iv_nd (some (.iconst (-1))) (some (.ireturn))) (iv_nd (some (.aload_n 0)) (some (.iconst 0))))))) (iv_nd (iv_nd (iv_nd (iv_nd (iv_nd (some (.putfield 412)) (iv_em 0)) (iv_nd (iv_em 0) (some (.aload_n 0)))) (iv_nd (iv_nd (some (.iload_n 1)) (some (.iconst 0))) (iv_nd (some (.invokevirtual 409)) (iv_em 0)))) (iv_nd (iv_nd (iv_nd (iv_em 0) (some (.iconst 0))) (iv_nd (some (.istore_n 2)) (some (.iconst 0)))) (iv_nd (iv_nd (some (.istore_n 3)) (some (.iload_n 3))) (iv_nd (some (.iconst 4)) (some (.if_icmp .ge 42)))))) (iv_nd (iv_nd (iv_nd (iv_em 1) (iv_nd (some (.iload_n 2)) (some (.aload_n 0)))) (iv_nd (iv_nd (some (.getfield 97)) (iv_em 0)) (iv_nd (iv_em 0) (some (.iload_n 3))))) (iv_nd (iv_nd (iv_nd (some (.iaload)) (some (.aload_n 0))) (iv_nd (some (.getfield 9)) (iv_em 0))) (iv_nd (iv_nd (iv_em 0) (some (.bipush 32))) (iv_nd (iv_em 0) (some (.iconst 4)))))))) (iv_nd (iv_nd (iv_nd (iv_nd (iv_nd (iv_nd (some (.iload_n 1)) (some (.imul))) (iv_nd (some (.iadd)) (some (.iload_n 3)))) (iv_nd (iv_nd (some (.iadd)) (some (.iaload))) (iv_nd (some (.if_icmp .eq 7)) (iv_em 0)))) (iv_nd (iv_nd (iv_nd (iv_em 0) (some (.iconst 1))) (iv_nd (some (.goto 4)) (iv_em 0))) (iv_nd (iv_nd (iv_em 0) (some (.iconst 0))) (iv_nd (some (.invokestatic 186)) (iv_em 0))))) (iv_nd (iv_nd (iv_nd (iv_nd (iv_em 0) (some (.iadd))) (iv_nd (some (.istore_n 2)) (some (.iinc 3 1)))) (iv_nd (iv_em 1) (iv_nd (some (.goto (-41))) (iv_em 0)))) (iv_nd (iv_nd (iv_nd (iv_em 0) (some (.iload_n 2))) (iv_nd (some (.ifCond .ne 6)) (iv_em 0))) (iv_nd (iv_nd (iv_em 0) (some (.bipush (-2)))) (iv_nd (iv_em 0) (some (.ireturn))))))) (iv_nd (iv_nd (iv_nd (iv_nd (iv_nd (some (.aload_n 0)) (some (.invokevirtual 170))) (iv_em 1)) (iv_nd (iv_nd (some (.iconst 0)) (some (.istore_n 3))) (iv_nd (some (.iload_n 3)) (some (.iconst 4))))) (iv_nd (iv_nd (iv_nd (some (.if_icmp .ge 28)) (iv_em 0)) (iv_nd (iv_em 0) (some (.aload_n 0)))) (iv_nd (iv_nd (some (.getfield 9)) (iv_em 0)) (iv_nd (iv_em 0) (some (.bipush 32)))))) (iv_nd (iv_nd (iv_nd (iv_nd (iv_em 0) (some (.iconst 4))) (iv_nd (some (.iload_n 1)) (some (.imul)))) (iv_nd (iv_nd (some (.iadd)) (some (.iload_n 3))) (iv_nd (some (.iadd)) (some (.aload_n 0))))) (iv_nd (iv_nd (iv_nd (some (.getfield 97)) (iv_em 0)) (iv_nd (iv_em 0) (some (.iload_n 3)))) (iv_nd (iv_nd (some (.iaload)) (some (.iastore))) (iv_nd (some (.iinc 3 1)) (iv_em 0)))))))) (iv_nd (iv_nd (iv_nd (iv_nd (iv_nd (iv_nd (iv_nd (iv_em 0) (some (.goto (-27)))) (iv_em 1)) (iv_nd (iv_nd (some (.iload_n 2)) (some (.ireturn))) (iv_em 1))) (iv_em 3)) (iv_em 4)) (iv_em 5)) (iv_em 6))) (iv_em 8)) (iv_em 9)) (iv_em 10))
set_option maxRecDepth 20000 in
def iv_code213 : iv_Tr Jvm.ClassFile.Instr 11 := (iv_nd (iv_nd (iv_nd (iv_nd (iv_nd (iv_nd (iv_nd (iv_nd (iv_nd (iv_nd (iv_nd (some (.iconst 0)) (some (.istore 4))) (iv_nd (iv_em 0) (some (.iload 4)))) (iv_nd (iv_nd (iv_em 0) (some (.iconst 3))) (iv_nd (some (.if_icmp .ge 40)) (iv_em 0)))) (iv_nd (iv_nd (iv_nd (iv_em 0) (some (.iload_n 1))) (iv_nd (some (.iconst (-1))) (some (.if_icmp .eq 9)))) (iv_nd (iv_em 1) (iv_nd (some (.iload_n 1)) (some (.iload 4)))))) (iv_nd (iv_nd (iv_nd (iv_nd (iv_em 0) (some (.if_icmp .ne 23))) (iv_em 1)) (iv_nd (iv_nd (some (.aload_n 0)) (some (.getfield 9))) (iv_em 1))) (iv_nd (iv_nd (iv_nd (some (.bipush 32)) (iv_em 0)) (iv_nd (some (.iconst 4)) (some (.iload 4)))) (iv_nd (iv_nd (iv_em 0) (some (.imul))) (iv_nd (some (.iadd)) (some (.iload_n 2))))))) (iv_nd (iv_nd (iv_nd (iv_nd (iv_nd (some (.iadd)) (some (.iaload))) (iv_nd (some (.iload_n 3)) (some (.if_icmp .eq 5)))) (iv_nd (iv_em 1) (iv_nd (some (.iconst 0)) (some (.ireturn))))) (iv_nd (iv_nd (iv_nd (some (.iinc 4 1)) (iv_em 0)) (iv_nd (iv_em 0) (some (.goto (-40))))) (iv_nd (iv_em 1) (iv_nd (some (.iconst 1)) (some (.ireturn)))))) (iv_em 4))) (iv_em 6)) (iv_em 7)) (iv_em 8)) (iv_em 9)) (iv_em 10))
set_option maxRecDepth 20000 in
def iv_code214 : iv_Tr Jvm.ClassFile.Instr 11 := (iv_nd (iv_nd (iv_nd (iv_nd (iv_nd (iv_nd (iv_nd (iv_nd (iv_nd (iv_nd (iv_nd (some (.iload_n 1)) (some (.i2l))) (iv_nd (some (.ldc2_w 306)) (iv_em 0))) (iv_nd (iv_nd (iv_em 0) (some (.ldc2_w 161))) (iv_em 1))) (iv_nd (iv_nd (iv_nd (some (.invokestatic 128)) (iv_em 0)) (iv_nd (iv_em 0) (some (.ifCond .eq 27)))) (iv_nd (iv_em 1) (iv_nd (some (.iload_n 2)) (some (.i2l)))))) (iv_nd (iv_nd (iv_nd (iv_nd (some (.lconst 0)) (some (.ldc2_w 327))) (iv_em 1)) (iv_nd (iv_nd (some (.invokestatic 128)) (iv_em 0)) (iv_nd (iv_em 0) (some (.ifCond .eq 15))))) (iv_nd (iv_nd (iv_em 1) (iv_nd (some (.iload_n 3)) (some (.i2l)))) (iv_nd (iv_nd (some (.lconst 0)) (some (.ldc2_w 422))) (iv_em 1))))) (iv_nd (iv_nd (iv_nd (iv_nd (iv_nd (some (.invokestatic 128)) (iv_em 0)) (iv_nd (iv_em 0) (some (.ifCond .ne 5)))) (iv_nd (iv_em 1) (iv_nd (some (.iconst (-1))) (some (.ireturn))))) (iv_nd (iv_nd (iv_nd (some (.aload_n 0)) (some (.iload_n 1))) (iv_nd (some (.iload_n 2)) (some (.iload_n 3)))) (iv_nd (iv_nd (some (.invokevirtual 424)) (iv_em 0)) (iv_nd (iv_em 0) (some (.ifCond .eq 6)))))) (iv_nd (iv_nd (iv_nd (iv_em 1) (iv_nd (some (.bipush (-2))) (iv_em 0))) (iv_nd (iv_nd (some (.ireturn)) (some (.aload_n 0))) (iv_nd (some (.invokevirtual 170)) (iv_em 0)))) (iv_nd (iv_nd (iv_nd (iv_em 0) (some (.aload_n 0))) (iv_nd (some (.getfield 9)) (iv_em 0))) (iv_nd (iv_nd (iv_em 0) (some (.bipush 32))) (iv_nd (iv_em 0) (some (.iconst 4)))))))) (iv_nd (iv_nd (iv_nd (iv_nd (iv_nd (iv_nd (some (.iconst 0)) (some (.iload_n 1))) (iv_nd (some (.invokestatic 428)) (iv_em 0))) (iv_nd (iv_nd (iv_em 0) (some (.imul))) (iv_nd (some (.iadd)) (some (.iload_n 2))))) (iv_nd (iv_nd (iv_nd (some (.iadd)) (some (.iaload))) (iv_nd (some (.istore 4)) (iv_em 0))) (iv_nd (iv_nd (some (.iconst 0)) (some (.istore 5))) (iv_nd (iv_em 0) (some (.iload 5)))))) (iv_nd (iv_nd (iv_nd (iv_nd (iv_em 0) (some (.iconst 3))) (iv_nd (some (.if_icmp .ge 35)) (iv_em 0))) (iv_nd (iv_nd (iv_em 0) (some (.iload_n 1))) (iv_nd (some (.iconst (-1))) (some (.if_icmp .eq 9))))) (iv_nd (iv_nd (iv_em 1) (iv_nd (some (.iload_n 1)) (some (.iload 5)))) (iv_nd (iv_nd (iv_em 0) (some (.if_icmp .ne 18))) (iv_em 1))))) (iv_nd (iv_nd (iv_nd (iv_nd (iv_nd (some (.aload_n 0)) (some (.getfield 9))) (iv_em 1)) (iv_nd (iv_nd (some (.bipush 32)) (iv_em 0)) (iv_nd (some (.iconst 4)) (some (.iload 5))))) (iv_nd (iv_nd (iv_nd (iv_em 0) (some (.imul))) (iv_nd (some (.iadd)) (some (.iload_n 2)))) (iv_nd (iv_nd (some (.iadd)) (some (.iload_n 3))) (iv_nd (some (.iastore)) (some (.iinc 5 1)))))) (iv_nd (iv_nd (iv_nd (iv_em 1) (iv_nd (some (.goto (-35))) (iv_em 0))) (iv_nd (iv_nd (iv_em 0) (some (.iload 4))) (iv_nd (iv_em 0) (some (.ireturn))))) (iv_em 3))))) (iv_em 7)) (iv_em 8)) (iv_em 9)) (iv_em 10))
set_option maxRecDepth 20000 in
def iv_code215 : iv_Tr Jvm.ClassFile.Instr 11 := (iv_nd (iv_nd (iv_nd (iv_nd (iv_nd (iv_nd (iv_nd (iv_nd (iv_nd (iv_nd (iv_nd (some (.iload_n 1)) (some (.i2l))) (iv_nd (some (.lconst 0)) (some (.lconst 1)))) (iv_nd (iv_nd (some (.invokestatic 128)) (iv_em 0)) (iv_nd (iv_em 0) (some (.ifCond .eq 13))))) (iv_nd (iv_nd (iv_em 1) (iv_nd (some (.iload_n 2)) (some (.i2l)))) (iv_nd (iv_nd (some (.lconst 0)) (some (.lconst 1))) (iv_nd (some (.invokestatic 128)) (iv_em 0))))) (iv_nd (iv_nd (iv_nd (iv_nd (iv_em 0) (some (.ifCond .ne 5))) (iv_em 1)) (iv_nd (iv_nd (some (.iconst (-1))) (some (.ireturn))) (iv_nd (some (.aload_n 0)) (some (.getfield 9))))) (iv_nd (iv_nd (iv_em 1) (iv_nd (some (.iconst 3)) (some (.iload_n 1)))) (iv_nd (iv_nd (some (.iadd)) (some (.iaload))) (iv_nd (some (.istore_n 3)) (some (.iload_n 3))))))) (iv_nd (iv_nd (iv_nd (iv_nd (iv_nd (some (.iload_n 2)) (some (.if_icmp .ne 6))) (iv_em 1)) (iv_nd (iv_nd (some (.bipush (-2))) (iv_em 0)) (iv_nd (some (.ireturn)) (some (.aload_n 0))))) (iv_nd (iv_nd (iv_nd (some (.invokevirtual 170)) (iv_em 0)) (iv_nd (iv_em 0) (some (.aload_n 0)))) (iv_nd (iv_nd (some (.getfield 9)) (iv_em 0)) (iv_nd (iv_em 0) (some (.iconst 3)))))) (iv_nd (iv_nd (iv_nd (iv_nd (some (.iload_n 1)) (some (.iadd))) (iv_nd (some (.iload_n 2)) (some (.iastore)))) (iv_nd (iv_nd (some (.iload_n 3)) (some (.ireturn))) (iv_em 1))) (iv_em 3)))) (iv_em 6)) (iv_em 7)) (iv_em 8)) (iv_em 9)) (iv_em 10))
set_option maxRecDepth 20000 in
def iv_code216 : iv_Tr Jvm.ClassFile.Instr 11 := (iv_nd (iv_nd (iv_nd (iv_nd (iv_nd (iv_nd (iv_nd (iv_nd (iv_nd (iv_nd (iv_nd (some (.iload_n 1)) (some (.i2l))) (iv_nd (some (.lconst 0)) (some (.ldc2_w 308)))) (iv_nd (iv_em 1) (iv_nd (some (.invokestatic 128)) (iv_em 0)))) (iv_nd (iv_nd (iv_nd (iv_em 0) (some (.ifCond .eq 15))) (iv_em 1)) (iv_nd (iv_nd (some (.iload_n 2)) (some (.i2l))) (iv_nd (some (.lconst 0)) (some (.ldc2_w 327)))))) (iv_nd (iv_nd (iv_nd (iv_em 1) (iv_nd (some (.invokestatic 128)) (iv_em 0))) (iv_nd (iv_nd (iv_em 0) (some (.ifCond .ne 5))) (iv_em 1))) (iv_nd (iv_nd (iv_nd (some (.iconst (-1))) (some (.ireturn))) (iv_nd (some (.aload_n 0)) (some (.getfield 9)))) (iv_nd (iv_em 1) (iv_nd (some (.bipush 44)) (iv_em 0)))))) (iv_nd (iv_nd (iv_nd (iv_nd (iv_nd (some (.iload_n 1)) (some (.iadd))) (iv_nd (some (.iaload)) (some (.istore_n 3)))) (iv_nd (iv_nd (some (.iload_n 3)) (some (.iload_n 2))) (iv_nd (some (.if_icmp .ne 6)) (iv_em 0)))) (iv_nd (iv_nd (iv_nd (iv_em 0) (some (.bipush (-2)))) (iv_nd (iv_em 0) (some (.ireturn)))) (iv_nd (iv_nd (some (.aload_n 0)) (some (.invokevirtual 170))) (iv_em 1)))) (iv_nd (iv_nd (iv_nd (iv_nd (some (.aload_n 0)) (some (.getfield 9))) (iv_em 1)) (iv_nd (iv_nd (some (.bipush 44)) (iv_em 0)) (iv_nd (some (.iload_n 1)) (some (.iadd))))) (iv_nd (iv_nd (iv_nd (some (.iload_n 2)) (some (.iastore))) (iv_nd (some (.iload_n 3)) (some (.ireturn)))) (iv_em 2))))) (iv_em 6)) (iv_em 7)) (iv_em 8)) (iv_em 9)) (iv_em 10))
set_option maxRecDepth 20000 in
def iv_code217 : iv_Tr Jvm.ClassFile.Instr 11 := (iv_nd (iv_nd (iv_nd (iv_nd (iv_nd (iv_nd (iv_nd (iv_nd (iv_nd (iv_nd (iv_nd (some (.aload_n 0)) (some (.invokevirtual 303))) (iv_em 1)) (iv_nd (iv_nd (some (.ifCond .ne 5)) (iv_em 0)) (iv_nd (iv_em 0) (some (.iconst (-1)))))) (iv_nd (iv_nd (iv_nd (some (.ireturn)) (some (.iconst 0))) (iv_nd (some (.istore_n 1)) (some (.iconst 0)))) (iv_nd (iv_nd (some (.istore_n 2)) (some (.iload_n 2))) (iv_nd (some (.iconst 3)) (some (.if_icmp .ge 86)))))) (iv_nd (iv_nd (iv_nd (iv_em 1) (iv_nd (some (.aload_n 0)) (some (.iload_n 2)))) (iv_nd (iv_nd (some (.invokevirtual 312)) (iv_em 0)) (iv_nd (iv_em 0) (some (.aload_n 0))))) (iv_nd (iv_nd (iv_nd (some (.invokevirtual 315)) (iv_em 0)) (iv_nd (iv_em 0) (some (.iconst 0)))) (iv_nd (iv_nd (some (.istore_n 3)) (some (.iload_n 3))) (iv_nd (some (.bipush 9)) (iv_em 0)))))) (iv_nd (iv_nd (iv_nd (iv_nd (iv_nd (some (.if_icmp .ge 43)) (iv_em 0)) (iv_nd (iv_em 0) (some (.aload_n 0)))) (iv_nd (iv_nd (some (.getfield 100)) (iv_em 0)) (iv_nd (iv_em 0) (some (.bipush 9))))) (iv_nd (iv_nd (iv_nd (iv_em 0) (some (.iload_n 2))) (iv_nd (some (.imul)) (some (.iload_n 3)))) (iv_nd (iv_nd (some (.iadd)) (some (.aload_n 0))) (iv_nd (some (.iload_n 3)) (some (.invokevirtual 321)))))) (iv_nd (iv_nd (iv_nd (iv_em 1) (iv_nd (some (.iastore)) (some (.iload_n 1)))) (iv_nd (iv_nd (some (.iload_n 3)) (some (.bipush 8))) (iv_nd (iv_em 0) (some (.if_icmp .ge 11))))) (iv_nd (iv_nd (iv_em 1) (iv_nd (some (.aload_n 0)) (some (.iload_n 3)))) (iv_nd (iv_nd (some (.invokevirtual 321)) (iv_em 0)) (iv_nd (iv_em 0) (some (.goto 4)))))))) (iv_nd (iv_nd (iv_nd (iv_nd (iv_nd (iv_em 1) (iv_nd (some (.iconst 0)) (some (.iadd)))) (iv_nd (iv_nd (some (.istore_n 1)) (some (.iinc 3 1))) (iv_em 1))) (iv_nd (iv_nd (iv_nd (some (.goto (-43))) (iv_em 0)) (iv_nd (iv_em 0) (some (.aload_n 0)))) (iv_nd (iv_nd (some (.getfield 100)) (iv_em 0)) (iv_nd (iv_em 0) (some (.bipush 9)))))) (iv_nd (iv_nd (iv_nd (iv_nd (iv_em 0) (some (.iload_n 2))) (iv_nd (some (.imul)) (some (.bipush 8)))) (iv_nd (iv_nd (iv_em 0) (some (.iadd))) (iv_nd (some (.dup2)) (some (.iaload))))) (iv_nd (iv_nd (iv_nd (some (.aload_n 0)) (some (.iload_n 2))) (iv_nd (some (.invokevirtual 284)) (iv_em 0))) (iv_nd (iv_nd (iv_em 0) (some (.iadd))) (iv_nd (some (.iastore)) (some (.iinc 2 1))))))) (iv_nd (iv_nd (iv_nd (iv_nd (iv_em 1) (iv_nd (some (.goto (-85))) (iv_em 0))) (iv_nd (iv_nd (iv_em 0) (some (.aload_n 0))) (iv_nd (some (.invokevirtual 170)) (iv_em 0)))) (iv_nd (iv_nd (iv_nd (iv_em 0) (some (.iconst 0))) (iv_nd (some (.istore_n 2)) (some (.iload_n 2)))) (iv_nd (iv_nd (some (.bipush 27)) (iv_em 0)) (iv_nd (some (.if_icmp .ge 23)) (iv_em 0))))) (iv_nd (iv_nd (iv_nd (iv_nd (iv_em 0) (some (.aload_n 0))) (iv_nd (some (.getfield 9)) (iv_em 0))) (iv_nd (iv_nd (iv_em 0) (some (.iconst 5))) (iv_nd (some (.iload_n 2)) (some (.iadd))))) (iv_nd (iv_nd (iv_nd (some (.aload_n 0)) (some (.getfield 100))) (iv_em 1)) (iv_nd (iv_nd (some (.iload_n 2)) (some (.iaload))) (iv_nd (some (.iastore)) (some (.iinc 2 1))))))))) (iv_nd (iv_nd (iv_nd (iv_nd (iv_nd (iv_nd (iv_em 1) (iv_nd (some (.goto (-23))) (iv_em 0))) (iv_nd (iv_nd (iv_em 0) (some (.iconst 0))) (iv_nd (some (.istore_n 2)) (some (.iload_n 2))))) (iv_nd (iv_nd (iv_nd (some (.bipush 96)) (iv_em 0)) (iv_nd (some (.if_icmp .ge 28)) (iv_em 0))) (iv_nd (iv_nd (iv_em 0) (some (.aload_n 0))) (iv_nd (some (.getfield 9)) (iv_em 0))))) (iv_nd (iv_nd (iv_nd (iv_nd (iv_em 0) (some (.bipush 52))) (iv_nd (iv_em 0) (some (.iload_n 2)))) (iv_nd (iv_nd (some (.iadd)) (some (.aload_n 0))) (iv_nd (some (.getfield 9)) (iv_em 0)))) (iv_nd (iv_nd (iv_nd (iv_em 0) (some (.sipush 148))) (iv_em 1)) (iv_nd (iv_nd (some (.iload_n 2)) (some (.iadd))) (iv_nd (some (.iaload)) (some (.iastore))))))) (iv_nd (iv_nd (iv_nd (iv_nd (iv_nd (some (.iinc 2 1)) (iv_em 0)) (iv_nd (iv_em 0) (some (.goto (-28))))) (iv_nd (iv_em 1) (iv_nd (some (.iload_n 1)) (some (.ireturn))))) (iv_em 3)) (iv_em 4))) (iv_em 6))) (iv_em 8)) (iv_em 9)) (iv_em 10))
set_option maxRecDepth 20000 in
def iv_code218 : iv_Tr Jvm.ClassFile.Instr 11 := (iv_nd (iv_nd (iv_nd (iv_nd (iv_nd (iv_nd (iv_nd (iv_nd (iv_nd (iv_nd (iv_nd (some (.iload_n 1)) (some (.i2l))) (iv_nd (some (.lconst 0)) (some (.ldc2_w 161)))) (iv_nd (iv_em 1) (iv_nd (some (.invokestatic 128)) (iv_em 0)))) (iv_nd (iv_nd (iv_nd (iv_em 0) (some (.ifCond .eq 20))) (iv_em 1)) (iv_nd (iv_nd (some (.aload_n 0)) (some (.iload_n 1))) (iv_nd (some (.invokevirtual 163)) (iv_em 0))))) (iv_nd (iv_nd (iv_nd (iv_nd (iv_em 0) (some (.ifCond .eq 12))) (iv_em 1)) (iv_nd (iv_nd (some (.aload_n 0)) (some (.iload_n 2))) (iv_nd (some (.iload_n 3)) (some (.invokevirtual 346))))) (iv_nd (iv_nd (iv_em 1) (iv_nd (some (.ifCond .ne 5)) (iv_em 0))) (iv_nd (iv_nd (iv_em 0) (some (.iconst (-1)))) (iv_nd (some (.ireturn)) (some (.aload_n 0))))))) (iv_nd (iv_nd (iv_nd (iv_nd (iv_nd (some (.getfield 9)) (iv_em 0)) (iv_nd (iv_em 0) (some (.bipush 52)))) (iv_nd (iv_nd (iv_em 0) (some (.bipush 96))) (iv_nd (iv_em 0) (some (.iload_n 1))))) (iv_nd (iv_nd (iv_nd (some (.imul)) (some (.iadd))) (iv_nd (some (.bipush 12)) (iv_em 0))) (iv_nd (iv_nd (some (.iload_n 2)) (some (.imul))) (iv_nd (some (.iadd)) (some (.iload_n 3)))))) (iv_nd (iv_nd (iv_nd (iv_nd (some (.iadd)) (some (.iaload))) (iv_nd (some (.istore 4)) (iv_em 0))) (iv_nd (iv_nd (some (.iload_n 1)) (some (.iconst 2))) (iv_nd (some (.if_icmp .ne 11)) (iv_em 0)))) (iv_nd (iv_nd (iv_nd (iv_em 0) (some (.bipush 48))) (iv_nd (iv_em 0) (some (.iload 4)))) (iv_nd (iv_nd (iv_em 0) (some (.iadd))) (iv_nd (some (.goto 20)) (iv_em 0))))))) (iv_nd (iv_nd (iv_nd (iv_nd (iv_nd (iv_nd (iv_em 0) (some (.iload 4))) (iv_nd (iv_em 0) (some (.bipush 8)))) (iv_nd (iv_nd (iv_em 0) (some (.if_icmp .ne 8))) (iv_em 1))) (iv_nd (iv_nd (iv_nd (some (.bipush 46)) (iv_em 0)) (iv_nd (some (.goto 8)) (iv_em 0))) (iv_nd (iv_nd (iv_em 0) (some (.bipush 97))) (iv_nd (iv_em 0) (some (.iload 4)))))) (iv_nd (iv_nd (iv_nd (iv_nd (iv_em 0) (some (.iadd))) (iv_nd (some (.ireturn)) (iv_em 0))) (iv_em 2)) (iv_em 3))) (iv_em 5))) (iv_em 7)) (iv_em 8)) (iv_em 9)) (iv_em 10))
set_option maxRecDepth 20000 in
def iv_code220 : iv_Tr Jvm.ClassFile.Instr 11 := (iv_nd (iv_nd (iv_nd (iv_nd (iv_nd (iv_nd (iv_nd (iv_nd (iv_nd (iv_nd (iv_nd (some (.aload_n 0)) (some (.invokevirtual 303))) (iv_em 1)) (iv_nd (iv_nd (some (.ifCond .eq 20)) (iv_em 0)) (iv_nd (iv_em 0) (some (.iload_n 1))))) (iv_nd (iv_nd (iv_nd (some (.iconst (-1))) (some (.if_icmp .lt 15))) (iv_em 1)) (iv_nd (iv_nd (some (.iload_n 2)) (some (.i2l))) (iv_nd (some (.lconst 0)) (some (.ldc2_w 327)))))) (iv_nd (iv_nd (iv_nd (iv_em 1) (iv_nd (some (.invokestatic 128)) (iv_em 0))) (iv_nd (iv_nd (iv_em 0) (some (.ifCond .ne 5))) (iv_em 1))) (iv_nd (iv_nd (iv_nd (some (.iconst (-1))) (some (.ireturn))) (iv_nd (some (.iconst 0)) (some (.istore_n 3)))) (iv_nd (iv_nd (some (.iconst 0)) (some (.istore 4))) (iv_nd (iv_em 0) (some (.iload 4))))))) (iv_nd (iv_nd (iv_nd (iv_nd (iv_nd (iv_em 0) (some (.sipush 288))) (iv_em 1)) (iv_nd (iv_nd (some (.if_icmp .ge 99)) (iv_em 0)) (iv_nd (iv_em 0) (some (.iload 4))))) (iv_nd (iv_nd (iv_nd (iv_em 0) (some (.bipush 36))) (iv_nd (iv_em 0) (some (.idiv)))) (iv_nd (iv_nd (some (.istore 5)) (iv_em 0)) (iv_nd (some (.iload 4)) (iv_em 0))))) (iv_nd (iv_nd (iv_nd (iv_nd (some (.iconst 4)) (some (.idiv))) (iv_nd (some (.bipush 9)) (iv_em 0))) (iv_nd (iv_nd (some (.irem)) (some (.istore 6))) (iv_nd (iv_em 0) (some (.aload_n 0))))) (iv_nd (iv_nd (iv_nd (some (.iload 5)) (iv_em 0)) (iv_nd (some (.iload 6)) (iv_em 0))) (iv_nd (iv_nd (some (.iload 4)) (iv_em 0)) (iv_nd (some (.iconst 4)) (some (.irem)))))))) (iv_nd (iv_nd (iv_nd (iv_nd (iv_nd (iv_nd (some (.invokevirtual 431)) (iv_em 0)) (iv_nd (iv_em 0) (some (.istore 7)))) (iv_nd (iv_nd (iv_em 0) (some (.iload 7))) (iv_nd (iv_em 0) (some (.ifCond .le 42))))) (iv_nd (iv_nd (iv_em 1) (iv_nd (some (.iload_n 3)) (some (.iload_n 1)))) (iv_nd (iv_nd (some (.if_icmp .ne 37)) (iv_em 0)) (iv_nd (iv_em 0) (some (.iload_n 2)))))) (iv_nd (iv_nd (iv_nd (iv_nd (some (.ifCond .ne 8)) (iv_em 0)) (iv_nd (iv_em 0) (some (.iload 5)))) (iv_nd (iv_nd (iv_em 0) (some (.goto 27))) (iv_em 1))) (iv_nd (iv_nd (iv_nd (some (.iload_n 2)) (some (.iconst 1))) (iv_nd (some (.if_icmp .ne 8)) (iv_em 0))) (iv_nd (iv_nd (iv_em 0) (some (.iload 6))) (iv_nd (iv_em 0) (some (.goto 17))))))) (iv_nd (iv_nd (iv_nd (iv_nd (iv_em 1) (iv_nd (some (.iload_n 2)) (some (.iconst 2)))) (iv_nd (iv_nd (some (.if_icmp .ne 10)) (iv_em 0)) (iv_nd (iv_em 0) (some (.iload 4))))) (iv_nd (iv_nd (iv_nd (iv_em 0) (some (.iconst 4))) (iv_nd (some (.irem)) (some (.goto 5)))) (iv_nd (iv_em 1) (iv_nd (some (.iload 7)) (iv_em 0))))) (iv_nd (iv_nd (iv_nd (iv_nd (some (.ireturn)) (some (.iload_n 3))) (iv_nd (some (.iload 7)) (iv_em 0))) (iv_nd (iv_nd (some (.ifCond .le 7)) (iv_em 0)) (iv_nd (iv_em 0) (some (.iconst 1))))) (iv_nd (iv_nd (iv_nd (some (.goto 4)) (iv_em 0)) (iv_nd (iv_em 0) (some (.iconst 0)))) (iv_nd (iv_nd (some (.invokestatic 186)) (iv_em 0)) (iv_nd (iv_em 0) (some (.iadd))))))))) (iv_nd (iv_nd (iv_nd (iv_nd (iv_nd (iv_nd (iv_nd (some (.istore_n 3)) (some (.iinc 4 1))) (iv_em 1)) (iv_nd (iv_nd (some (.goto (-101))) (iv_em 0)) (iv_nd (iv_em 0) (some (.iload_n 1))))) (iv_nd (iv_nd (iv_nd (some (.iconst (-1))) (some (.if_icmp .ne 7))) (iv_em 1)) (iv_nd (iv_nd (some (.iload_n 3)) (some (.goto 4))) (iv_em 1)))) (iv_nd (iv_nd (iv_nd (iv_nd (some (.iconst (-1))) (some (.ireturn))) (iv_em 1)) (iv_em 2)) (iv_em 3))) (iv_em 5)) (iv_em 6))) (iv_em 8)) (iv_em 9)) (iv_em 10))
set_option maxRecDepth 20000 in
def iv_code223 : iv_Tr Jvm.ClassFile.Instr 11 := (iv_nd (iv_nd (iv_nd (iv_nd (iv_nd (iv_nd (iv_nd (iv_nd (iv_nd (iv_nd (iv_nd (some (.iload_n 1)) (some (.i2l))) (iv_nd (some (.lconst 0)) (some (.ldc2_w 327)))) (iv_nd (iv_em 1) (iv_nd (some (.invokestatic 128)) (iv_em 0)))) (iv_nd (iv_nd (iv_nd (iv_em 0) (some (.ifCond .eq 19))) (iv_em 1)) (iv_nd (iv_nd (some (.aload_n 0)) (some (.iconst 0))) (iv_nd (some (.invokevirtual 163)) (iv_em 0))))) (iv_nd (iv_nd (iv_nd (iv_nd (iv_em 0) (some (.ifCond .eq 11))) (iv_em 1)) (iv_nd (iv_nd (some (.aload_n 0)) (some (.iconst 1))) (iv_nd (some (.invokevirtual 163)) (iv_em 0)))) (iv_nd (iv_nd (iv_nd (iv_em 0) (some (.ifCond .ne 5))) (iv_em 1)) (iv_nd (iv_nd (some (.iconst (-1))) (some (.ireturn))) (iv_nd (some (.iconst 0)) (some (.istore_n 2))))))) (iv_nd (iv_nd (iv_nd (iv_nd (iv_nd (some (.iconst 0)) (some (.istore_n 3))) (iv_nd (some (.iload_n 3)) (some (.aload_n 0)))) (iv_nd (iv_nd (some (.invokevirtual 196)) (iv_em 0)) (iv_nd (iv_em 0) (some (.if_icmp .ge 39))))) (iv_nd (iv_nd (iv_em 1) (iv_nd (some (.iload_n 1)) (some (.ifCond .ne 35)))) (iv_nd (iv_em 1) (iv_nd (some (.iload_n 2)) (some (.aload_n 0)))))) (iv_nd (iv_nd (iv_nd (iv_nd (some (.iconst 0)) (some (.iload_n 3))) (iv_nd (some (.invokevirtual 199)) (iv_em 0))) (iv_nd (iv_nd (iv_em 0) (some (.aload_n 0))) (iv_nd (some (.iconst 1)) (some (.iload_n 3))))) (iv_nd (iv_nd (iv_nd (some (.invokevirtual 199)) (iv_em 0)) (iv_nd (iv_em 0) (some (.if_icmp .eq 7)))) (iv_nd (iv_em 1) (iv_nd (some (.iconst 1)) (some (.goto 4)))))))) (iv_nd (iv_nd (iv_nd (iv_nd (iv_nd (iv_em 1) (iv_nd (some (.iconst 0)) (some (.invokestatic 186)))) (iv_nd (iv_em 1) (iv_nd (some (.iadd)) (some (.istore_n 2))))) (iv_nd (iv_nd (iv_nd (some (.iinc 3 1)) (iv_em 0)) (iv_nd (iv_em 0) (some (.goto (-41))))) (iv_nd (iv_em 1) (iv_nd (some (.iconst 0)) (some (.istore_n 3)))))) (iv_nd (iv_nd (iv_nd (iv_nd (some (.iload_n 3)) (some (.bipush 8))) (iv_nd (iv_em 0) (some (.if_icmp .ge 25)))) (iv_nd (iv_em 1) (iv_nd (some (.iload_n 1)) (some (.ifCond .le 21))))) (iv_nd (iv_nd (iv_em 1) (iv_nd (some (.iload_n 2)) (some (.aload_n 0)))) (iv_nd (iv_nd (some (.iload_n 3)) (some (.iload_n 1))) (iv_nd (some (.invokevirtual 446)) (iv_em 0)))))) (iv_nd (iv_nd (iv_nd (iv_nd (iv_nd (iv_em 0) (some (.invokestatic 186))) (iv_em 1)) (iv_nd (iv_nd (some (.iadd)) (some (.istore_n 2))) (iv_nd (some (.iinc 3 1)) (iv_em 0)))) (iv_nd (iv_nd (iv_nd (iv_em 0) (some (.goto (-25)))) (iv_em 1)) (iv_nd (iv_nd (some (.iload_n 2)) (some (.ireturn))) (iv_em 1)))) (iv_em 4)))) (iv_em 7)) (iv_em 8)) (iv_em 9)) (iv_em 10))
set_option maxRecDepth 20000 in
def iv_code224 : iv_Tr Jvm.ClassFile.Instr 11 := (iv_nd (iv_nd (iv_nd (iv_nd (iv_nd (iv_nd (iv_nd (iv_nd (iv_nd (iv_nd (iv_nd (some (.iconst 0)) (some (.istore_n 1))) (iv_nd (some (.iconst 0)) (some (.istore_n 2)))) (iv_nd (iv_nd (some (.iload_n 2)) (some (.iconst 3))) (iv_nd (some (.if_icmp .ge 32)) (iv_em 0)))) (iv_nd (iv_nd (iv_nd (iv_em 0) (some (.aload_n 0))) (iv_nd (some (.invokevirtual 303)) (iv_em 0))) (iv_nd (iv_nd (iv_em 0) (some (.ifCond .eq 25))) (iv_em 1)))) (iv_nd (iv_nd (iv_nd (iv_nd (some (.aload_n 0)) (some (.iload_n 2))) (iv_nd (some (.invokevirtual 312)) (iv_em 0))) (iv_nd (iv_nd (iv_em 0) (some (.aload_n 0))) (iv_nd (some (.invokevirtual 315)) (iv_em 0)))) (iv_nd (iv_nd (iv_nd (iv_em 0) (some (.iload_n 1))) (iv_nd (some (.aload_n 0)) (some (.invokevirtual 318)))) (iv_nd (iv_em 1) (iv_nd (some (.iadd)) (some (.istore_n 1))))))) (iv_nd (iv_nd (iv_nd (iv_nd (iv_nd (some (.iinc 2 1)) (iv_em 0)) (iv_nd (iv_em 0) (some (.goto (-31))))) (iv_nd (iv_em 1) (iv_nd (some (.iload_n 1)) (some (.ireturn))))) (iv_em 3)) (iv_em 4))) (iv_em 6)) (iv_em 7)) (iv_em 8)) (iv_em 9)) (iv_em 10))
set_option maxRecDepth 20000 in
def iv_code225 : iv_Tr Jvm.ClassFile.Instr 11 := (iv_nd (iv_nd (iv_nd (iv_nd (iv_nd (iv_nd (iv_nd (iv_nd (iv_nd (iv_nd (iv_nd (some (.iconst 0)) (some (.istore_n 1))) (iv_nd (some (.iconst 0)) (some (.istore_n 2)))) (iv_nd (iv_nd (some (.iload_n 2)) (some (.iconst 3))) (iv_nd (some (.if_icmp .ge 24)) (iv_em 0)))) (iv_nd (iv_nd (iv_nd (iv_em 0) (some (.aload_n 0))) (iv_nd (some (.invokevirtual 303)) (iv_em 0))) (iv_nd (iv_nd (iv_em 0) (some (.ifCond .eq 17))) (iv_em 1)))) (iv_nd (iv_nd (iv_nd (iv_nd (some (.iload_n 1)) (some (.aload_n 0))) (iv_nd (some (.iload_n 2)) (some (.invokevirtual 284)))) (iv_nd (iv_em 1) (iv_nd (some (.iadd)) (some (.istore_n 1))))) (iv_nd (iv_nd (iv_nd (some (.iinc 2 1)) (iv_em 0)) (iv_nd (iv_em 0) (some (.goto (-23))))) (iv_nd (iv_em 1) (iv_nd (some (.iload_n 1)) (some (.ireturn))))))) (iv_em 5)) (iv_em 6)) (iv_em 7)) (iv_em 8)) (iv_em 9)) (iv_em 10))
set_option maxRecDepth 20000 in
def iv_code226 : iv_Tr Jvm.ClassFile.Instr 11 := (iv_nd (iv_nd (iv_nd (iv_nd (iv_nd (iv_nd (iv_nd (iv_nd (iv_nd (iv_nd (iv_nd (some (.iload_n 1)) (some (.tableswitch 139 0 11 #[63, 68, 75, 83, 91, 98, 105, 112, 119, 124, 129, 134]))) (iv_em 1)) (iv_em 2)) (iv_em 3)) (iv_em 4)) (iv_em 5)) (iv_nd (iv_nd (iv_nd (iv_nd (iv_nd (iv_nd (some (.aload_n 0)) (some (.invokevirtual 196))) (iv_em 1)) (iv_nd (iv_nd (some (.ireturn)) (some (.aload_n 0))) (iv_nd (some (.getfield 9)) (iv_em 0)))) (iv_nd (iv_nd (iv_nd (iv_em 0) (some (.iconst 0))) (iv_nd (some (.iaload)) (some (.ireturn)))) (iv_nd (iv_nd (some (.aload_n 0)) (some (.iconst 0))) (iv_nd (some (.bipush 8)) (iv_em 0))))) (iv_nd (iv_nd (iv_nd (iv_nd (some (.invokevirtual 267)) (iv_em 0)) (iv_nd (iv_em 0) (some (.ireturn)))) (iv_nd (iv_nd (some (.aload_n 0)) (some (.iconst 1))) (iv_nd (some (.bipush 8)) (iv_em 0)))) (iv_nd (iv_nd (iv_nd (some (.invokevirtual 267)) (iv_em 0)) (iv_nd (iv_em 0) (some (.ireturn)))) (iv_nd (iv_nd (some (.aload_n 0)) (some (.iconst 2))) (iv_nd (some (.iconst 4)) (some (.invokevirtual 267))))))) (iv_nd (iv_nd (iv_nd (iv_nd (iv_em 1) (iv_nd (some (.ireturn)) (some (.aload_n 0)))) (iv_nd (iv_nd (some (.getfield 9)) (iv_em 0)) (iv_nd (iv_em 0) (some (.iconst 3))))) (iv_nd (iv_nd (iv_nd (some (.iaload)) (some (.ireturn))) (iv_nd (some (.aload_n 0)) (some (.getfield 9)))) (iv_nd (iv_em 1) (iv_nd (some (.iconst 4)) (some (.iaload)))))) (iv_nd (iv_nd (iv_nd (iv_nd (some (.ireturn)) (some (.aload_n 0))) (iv_nd (some (.getfield 9)) (iv_em 0))) (iv_nd (iv_nd (iv_em 0) (some (.iconst 2))) (iv_nd (some (.iaload)) (some (.ireturn))))) (iv_nd (iv_nd (iv_nd (some (.aload_n 0)) (some (.getfield 103))) (iv_em 1)) (iv_nd (iv_nd (some (.ireturn)) (some (.aload_n 0))) (iv_nd (some (.getfield 107)) (iv_em 0)))))))) (iv_nd (iv_nd (iv_nd (iv_nd (iv_nd (iv_nd (iv_nd (iv_em 0) (some (.ireturn))) (iv_nd (some (.aload_n 0)) (some (.invokevirtual 449)))) (iv_nd (iv_em 1) (iv_nd (some (.ireturn)) (some (.aload_n 0))))) (iv_nd (iv_nd (iv_nd (some (.invokevirtual 452)) (iv_em 0)) (iv_nd (iv_em 0) (some (.ireturn)))) (iv_nd (iv_nd (some (.iconst (-1))) (some (.ireturn))) (iv_em 1)))) (iv_em 4)) (iv_em 5)) (iv_em 6))) (iv_em 8)) (iv_em 9)) (iv_em 10))
set_option maxRecDepth 20000 in
def iv_code227 : iv_Tr Jvm.ClassFile.Instr 11 := (iv_nd (iv_nd (iv_nd (iv_nd (iv_nd (iv_nd (iv_nd (iv_nd (iv_nd (iv_nd (iv_nd (some (.iload_n 1)) (some (.invokestatic 190))) (iv_em 1)) (iv_nd (iv_nd (some (.ifCond .eq 31)) (iv_em 0)) (iv_nd (iv_em 0) (some (.iload_n 2))))) (iv_nd (iv_nd (iv_nd (some (.i2l)) (some (.lconst 0))) (iv_nd (some (.ldc2_w 327)) (iv_em 0))) (iv_nd (iv_nd (iv_em 0) (some (.invokestatic 128))) (iv_em 1)))) (iv_nd (iv_nd (iv_nd (iv_nd (some (.ifCond .eq 19)) (iv_em 0)) (iv_nd (iv_em 0) (some (.aload_n 0)))) (iv_nd (iv_nd (some (.getfield 9)) (iv_em 0)) (iv_nd (iv_em 0) (some (.bipush 32))))) (iv_nd (iv_nd (iv_nd (iv_em 0) (some (.iconst 4))) (iv_nd (some (.iload_n 1)) (some (.imul)))) (iv_nd (iv_nd (some (.iadd)) (some (.iload_n 2))) (iv_nd (some (.iadd)) (some (.iaload))))))) (iv_nd (iv_nd (iv_nd (iv_nd (iv_nd (some (.goto 4)) (iv_em 0)) (iv_nd (iv_em 0) (some (.iconst (-1))))) (iv_nd (iv_nd (some (.ireturn)) (iv_em 0)) (iv_em 1))) (iv_em 3)) (iv_em 4))) (iv_em 6)) (iv_em 7)) (iv_em 8)) (iv_em 9)) (iv_em 10))
set_option maxRecDepth 20000 in
def iv_code228 : iv_Tr Jvm.ClassFile.Instr 11 := (iv_nd (iv_nd (iv_nd (iv_nd (iv_nd (iv_nd (iv_nd (iv_nd (iv_nd (iv_nd (iv_nd (some (.iload_n 1)) (some (.i2l))) (iv_nd (some (.lconst 0)) (some (.ldc2_w 308)))) (iv_nd (iv_em 1) (iv_nd (some (.invokestatic 128)) (iv_em 0)))) (iv_nd (iv_nd (iv_nd (iv_em 0) (some (.ifCond .eq 15))) (iv_em 1)) (iv_nd (iv_nd (some (.aload_n 0)) (some (.getfield 9))) (iv_em 1)))) (iv_nd (iv_nd (iv_nd (iv_nd (some (.bipush 44)) (iv_em 0)) (iv_nd (some (.iload_n 1)) (some (.iadd)))) (iv_nd (iv_nd (some (.iaload)) (some (.goto 4))) (iv_em 1))) (iv_nd (iv_nd (iv_nd (some (.iconst (-1))) (some (.ireturn))) (iv_em 1)) (iv_em 2)))) (iv_em 5)) (iv_em 6)) (iv_em 7)) (iv_em 8)) (iv_em 9)) (iv_em 10))
set_option maxRecDepth 20000 in
def iv_code234 : iv_Tr Jvm.ClassFile.Instr 11 := (iv_nd (iv_nd (iv_nd (iv_nd (iv_nd (iv_nd (iv_nd (iv_nd (iv_nd (iv_nd (iv_nd (some (.iconst 0)) (some (.istore_n 2))) (iv_nd (some (.aload_n 0)) (some (.arraylength)))) (iv_nd (iv_nd (some (.istore_n 3)) (some (.iload_n 2))) (iv_nd (some (.iload_n 3)) (some (.if_icmp .ge 13))))) (iv_nd (iv_nd (iv_em 1) (iv_nd (some (.aload_n 0)) (some (.iload_n 2)))) (iv_nd (iv_nd (some (.iload_n 1)) (some (.iastore))) (iv_nd (some (.iinc 2 1)) (iv_em 0))))) (iv_nd (iv_nd (iv_nd (iv_nd (iv_em 0) (some (.goto (-12)))) (iv_em 1)) (iv_nd (iv_nd (some (.return_)) (iv_em 0)) (iv_em 1))) (iv_em 3))) (iv_em 5)) (iv_em 6)) (iv_em 7)) (iv_em 8)) (iv_em 9)) (iv_em 10))
set_option maxRecDepth 20000 in
def iv_code235 : iv_Tr Jvm.ClassFile.Instr 11 := (iv_nd (iv_nd (iv_nd (iv_nd (iv_nd (iv_nd (iv_nd (iv_nd (iv_nd (iv_nd (iv_nd (some (.new 7)) (iv_em 0)) (iv_nd (iv_em 0) (some (.dup)))) (iv_nd (iv_nd (some (.invokespecial 9)) (iv_em 0)) (iv_nd (iv_em 0) (some (.astore_n 1))))) (iv_nd (iv_nd (iv_nd (some (.new 10)) (iv_em 0)) (iv_nd (iv_em 0) (some (.dup)))) (iv_nd (iv_nd (some (.invokespecial 12)) (iv_em 0)) (iv_nd (iv_em 0) (some (.astore_n 2)))))) (iv_nd (iv_nd (iv_nd (iv_nd (some (.iconst 0)) (some (.istore_n 3))) (iv_nd (some (.iload_n 3)) (some (.aload_n 0)))) (iv_nd (iv_nd (some (.arraylength)) (some (.bipush 6))) (iv_nd (iv_em 0) (some (.isub))))) (iv_nd (iv_nd (iv_nd (some (.if_icmp .gt 1108)) (iv_em 0)) (iv_nd (iv_em 0) (some (.aload_n 0)))) (iv_nd (iv_nd (some (.iload_n 3)) (some (.iaload))) (iv_nd (some (.bipush 31)) (iv_em 0)))))) (iv_nd (iv_nd (iv_nd (iv_nd (iv_nd (some (.iand)) (some (.tableswitch 1093 0 28 #[131, 194, 217, 240, 263, 306, 339, 372, 395, 408, 421, 464, 497, 530, 583, 626, 670, 713, 747, 780, 813, 836, 890, 923, 967, 991, 1014, 1037, 1070]))) (iv_em 1)) (iv_em 2)) (iv_em 3)) (iv_em 4))) (iv_em 6)) (iv_nd (iv_nd (iv_em 5) (iv_nd (iv_nd (iv_nd (iv_em 2) (iv_nd (iv_nd (some (.aload_n 1)) (some (.aload_n 0))) (iv_nd (some (.iload_n 3)) (some (.iconst 1))))) (iv_nd (iv_nd (iv_nd (some (.iadd)) (some (.iaload))) (iv_nd (some (.aload_n 0)) (some (.iload_n 3)))) (iv_nd (iv_nd (some (.iconst 2)) (some (.iadd))) (iv_nd (some (.iaload)) (some (.aload_n 0)))))) (iv_nd (iv_nd (iv_nd (iv_nd (some (.iload_n 3)) (some (.iconst 3))) (iv_nd (some (.iadd)) (some (.iaload)))) (iv_nd (iv_nd (some (.aload_n 0)) (some (.iload_n 3))) (iv_nd (some (.iconst 4)) (some (.iadd))))) (iv_nd (iv_nd (iv_nd (some (.iaload)) (some (.aload_n 0))) (iv_nd (some (.iload_n 3)) (some (.iconst 5)))) (iv_nd (iv_nd (some (.iadd)) (some (.iaload))) (iv_nd (some (.invokevirtual 13)) (iv_em 0))))))) (iv_nd (iv_nd (iv_nd (iv_nd (iv_nd (iv_nd (iv_em 0) (some (.aload_n 2))) (iv_nd (some (.aload_n 0)) (some (.iload_n 3)))) (iv_nd (iv_nd (some (.iconst 1)) (some (.iadd))) (iv_nd (some (.iaload)) (some (.aload_n 0))))) (iv_nd (iv_nd (iv_nd (some (.iload_n 3)) (some (.iconst 2))) (iv_nd (some (.iadd)) (some (.iaload)))) (iv_nd (iv_nd (some (.aload_n 0)) (some (.iload_n 3))) (iv_nd (some (.iconst 3)) (some (.iadd)))))) (iv_nd (iv_nd (iv_nd (iv_nd (some (.iaload)) (some (.aload_n 0))) (iv_nd (some (.iload_n 3)) (some (.iconst 4)))) (iv_nd (iv_nd (some (.iadd)) (some (.iaload))) (iv_nd (some (.aload_n 0)) (some (.iload_n 3))))) (iv_nd (iv_nd (iv_nd (some (.iconst 5)) (some (.iadd))) (iv_nd (some (.iaload)) (some (.invokevirtual 17)))) (iv_nd (iv_em 1) (iv_nd (some (.if_icmp .eq 904)) (iv_em 0)))))) (iv_nd (iv_nd (iv_nd (iv_nd (iv_nd (iv_em 0) (some (.iconst 0))) (iv_nd (some (.ireturn)) (some (.aload_n 1)))) (iv_nd (iv_nd (some (.aload_n 0)) (some (.iload_n 3))) (iv_nd (some (.iconst 1)) (some (.iadd))))) (iv_nd (iv_nd (iv_nd (some (.iaload)) (some (.invokevirtual 18))) (iv_em 1)) (iv_nd (iv_nd (some (.aload_n 2)) (some (.aload_n 0))) (iv_nd (some (.iload_n 3)) (some (.iconst 1)))))) (iv_nd (iv_nd (iv_nd (iv_nd (some (.iadd)) (some (.iaload))) (iv_nd (some (.invokevirtual 22)) (iv_em 0))) (iv_nd (iv_nd (iv_em 0) (some (.if_icmp .eq 881))) (iv_em 1))) (iv_nd (iv_nd (iv_nd (some (.iconst 0)) (some (.ireturn))) (iv_nd (some (.aload_n 1)) (some (.aload_n 0)))) (iv_nd (iv_nd (some (.iload_n 3)) (some (.iconst 1))) (iv_nd (some (.iadd)) (some (.iaload)))))))))) (iv_nd (iv_nd (iv_nd (iv_nd (iv_nd (iv_nd (iv_nd (iv_nd (some (.invokevirtual 23)) (iv_em 0)) (iv_nd (iv_em 0) (some (.aload_n 2)))) (iv_nd (iv_nd (some (.aload_n 0)) (some (.iload_n 3))) (iv_nd (some (.iconst 1)) (some (.iadd))))) (iv_nd (iv_nd (iv_nd (some (.iaload)) (some (.invokevirtual 26))) (iv_em 1)) (iv_nd (iv_nd (some (.if_icmp .eq 858)) (iv_em 0)) (iv_nd (iv_em 0) (some (.iconst 0)))))) (iv_nd (iv_nd (iv_nd (iv_nd (some (.ireturn)) (some (.aload_n 1))) (iv_nd (some (.aload_n 0)) (some (.iload_n 3)))) (iv_nd (iv_nd (some (.iconst 1)) (some (.iadd))) (iv_nd (some (.iaload)) (some (.invokevirtual 27))))) (iv_nd (iv_nd (iv_em 1) (iv_nd (some (.aload_n 2)) (some (.aload_n 0)))) (iv_nd (iv_nd (some (.iload_n 3)) (some (.iconst 1))) (iv_nd (some (.iadd)) (some (.iaload))))))) (iv_nd (iv_nd (iv_nd (iv_nd (iv_nd (some (.invokevirtual 30)) (iv_em 0)) (iv_nd (iv_em 0) (some (.if_icmp .eq 835)))) (iv_nd (iv_em 1) (iv_nd (some (.iconst 0)) (some (.ireturn))))) (iv_nd (iv_nd (iv_nd (some (.aload_n 1)) (some (.aload_n 0))) (iv_nd (some (.iload_n 3)) (some (.iconst 1)))) (iv_nd (iv_nd (some (.iadd)) (some (.iaload))) (iv_nd (some (.aload_n 0)) (some (.iload_n 3)))))) (iv_nd (iv_nd (iv_nd (iv_nd (some (.iconst 2)) (some (.iadd))) (iv_nd (some (.iaload)) (some (.aload_n 0)))) (iv_nd (iv_nd (some (.iload_n 3)) (some (.iconst 3))) (iv_nd (some (.iadd)) (some (.iaload))))) (iv_nd (iv_nd (iv_nd (some (.invokevirtual 31)) (iv_em 0)) (iv_nd (iv_em 0) (some (.aload_n 2)))) (iv_nd (iv_nd (some (.aload_n 0)) (some (.iload_n 3))) (iv_nd (some (.iconst 1)) (some (.iadd)))))))) (iv_nd (iv_nd (iv_nd (iv_nd (iv_nd (iv_nd (some (.iaload)) (some (.aload_n 0))) (iv_nd (some (.iload_n 3)) (some (.iconst 2)))) (iv_nd (iv_nd (some (.iadd)) (some (.iaload))) (iv_nd (some (.aload_n 0)) (some (.iload_n 3))))) (iv_nd (iv_nd (iv_nd (some (.iconst 3)) (some (.iadd))) (iv_nd (some (.iaload)) (some (.invokevirtual 35)))) (iv_nd (iv_em 1) (iv_nd (some (.if_icmp .eq 792)) (iv_em 0))))) (iv_nd (iv_nd (iv_nd (iv_nd (iv_em 0) (some (.iconst 0))) (iv_nd (some (.ireturn)) (some (.aload_n 1)))) (iv_nd (iv_nd (some (.aload_n 0)) (some (.iload_n 3))) (iv_nd (some (.iconst 1)) (some (.iadd))))) (iv_nd (iv_nd (iv_nd (some (.iaload)) (some (.aload_n 0))) (iv_nd (some (.iload_n 3)) (some (.iconst 2)))) (iv_nd (iv_nd (some (.iadd)) (some (.iaload))) (iv_nd (some (.invokevirtual 36)) (iv_em 0)))))) (iv_nd (iv_nd (iv_nd (iv_nd (iv_nd (iv_em 0) (some (.aload_n 2))) (iv_nd (some (.aload_n 0)) (some (.iload_n 3)))) (iv_nd (iv_nd (some (.iconst 1)) (some (.iadd))) (iv_nd (some (.iaload)) (some (.aload_n 0))))) (iv_nd (iv_nd (iv_nd (some (.iload_n 3)) (some (.iconst 2))) (iv_nd (some (.iadd)) (some (.iaload)))) (iv_nd (iv_nd (some (.invokevirtual 40)) (iv_em 0)) (iv_nd (iv_em 0) (some (.if_icmp .eq 759)))))) (iv_nd (iv_nd (iv_nd (iv_em 1) (iv_nd (some (.iconst 0)) (some (.ireturn)))) (iv_nd (iv_nd (some (.aload_n 1)) (some (.aload_n 0))) (iv_nd (some (.iload_n 3)) (some (.iconst 1))))) (iv_nd (iv_nd (iv_nd (some (.iadd)) (some (.iaload))) (iv_nd (some (.aload_n 0)) (some (.iload_n 3)))) (iv_nd (iv_nd (some (.iconst 2)) (some (.iadd))) (iv_nd (some (.iaload)) (some (.invokevirtual 41))))))))) (iv_nd (iv_nd (iv_nd (iv_nd (iv_nd (iv_nd (iv_em 1) (iv_nd (some (.aload_n 2)) (some (.aload_n 0)))) (iv_nd (iv_nd (some (.iload_n 3)) (some (.iconst 1))) (iv_nd (some (.iadd)) (some (.iaload))))) (iv_nd (iv_nd (iv_nd (some (.aload_n 0)) (some (.iload_n 3))) (iv_nd (some (.iconst 2)) (some (.iadd)))) (iv_nd (iv_nd (some (.iaload)) (some (.invokevirtual 44))) (iv_em 1)))) (iv_nd (iv_nd (iv_nd (iv_nd (some (.if_icmp .eq 726)) (iv_em 0)) (iv_nd (iv_em 0) (some (.iconst 0)))) (iv_nd (iv_nd (some (.ireturn)) (some (.aload_n 1))) (iv_nd (some (.aload_n 0)) (some (.iload_n 3))))) (iv_nd (iv_nd (iv_nd (some (.iconst 1)) (some (.iadd))) (iv_nd (some (.iaload)) (some (.invokevirtual 45)))) (iv_nd (iv_em 1) (iv_nd (some (.aload_n 2)) (some (.aload_n 0))))))) (iv_nd (iv_nd (iv_nd (iv_nd (iv_nd (some (.iload_n 3)) (some (.iconst 1))) (iv_nd (some (.iadd)) (some (.iaload)))) (iv_nd (iv_nd (some (.invokevirtual 48)) (iv_em 0)) (iv_nd (iv_em 0) (some (.if_icmp .eq 703))))) (iv_nd (iv_nd (iv_em 1) (iv_nd (some (.iconst 0)) (some (.ireturn)))) (iv_nd (iv_nd (some (.aload_n 1)) (some (.invokevirtual 49))) (iv_em 1)))) (iv_nd (iv_nd (iv_nd (iv_nd (some (.aload_n 2)) (some (.invokevirtual 53))) (iv_em 1)) (iv_nd (iv_nd (some (.if_icmp .eq 690)) (iv_em 0)) (iv_nd (iv_em 0) (some (.iconst 0))))) (iv_nd (iv_nd (iv_nd (some (.ireturn)) (some (.aload_n 1))) (iv_nd (some (.invokevirtual 54)) (iv_em 0))) (iv_nd (iv_nd (iv_em 0) (some (.aload_n 2))) (iv_nd (some (.invokevirtual 57)) (iv_em 0))))))) (iv_nd (iv_nd (iv_nd (iv_nd (iv_nd (iv_nd (iv_em 0) (some (.if_icmp .eq 677))) (iv_em 1)) (iv_nd (iv_nd (some (.iconst 0)) (some (.ireturn))) (iv_nd (some (.aload_n 1)) (some (.aload_n 0))))) (iv_nd (iv_nd (iv_nd (some (.iload_n 3)) (some (.iconst 1))) (iv_nd (some (.iadd)) (some (.iaload)))) (iv_nd (iv_nd (some (.aload_n 0)) (some (.iload_n 3))) (iv_nd (some (.iconst 2)) (some (.iadd)))))) (iv_nd (iv_nd (iv_nd (iv_nd (some (.iaload)) (some (.aload_n 0))) (iv_nd (some (.iload_n 3)) (some (.iconst 3)))) (iv_nd (iv_nd (some (.iadd)) (some (.iaload))) (iv_nd (some (.invokevirtual 58)) (iv_em 0)))) (iv_nd (iv_nd (iv_nd (iv_em 0) (some (.aload_n 2))) (iv_nd (some (.aload_n 0)) (some (.iload_n 3)))) (iv_nd (iv_nd (some (.iconst 1)) (some (.iadd))) (iv_nd (some (.iaload)) (some (.aload_n 0))))))) (iv_nd (iv_nd (iv_nd (iv_nd (iv_nd (some (.iload_n 3)) (some (.iconst 2))) (iv_nd (some (.iadd)) (some (.iaload)))) (iv_nd (iv_nd (some (.aload_n 0)) (some (.iload_n 3))) (iv_nd (some (.iconst 3)) (some (.iadd))))) (iv_nd (iv_nd (iv_nd (some (.iaload)) (some (.invokevirtual 61))) (iv_em 1)) (iv_nd (iv_nd (some (.if_icmp .eq 634)) (iv_em 0)) (iv_nd (iv_em 0) (some (.iconst 0)))))) (iv_nd (iv_nd (iv_nd (iv_nd (some (.ireturn)) (some (.aload_n 1))) (iv_nd (some (.aload_n 0)) (some (.iload_n 3)))) (iv_nd (iv_nd (some (.iconst 1)) (some (.iadd))) (iv_nd (some (.iaload)) (some (.aload_n 0))))) (iv_nd (iv_nd (iv_nd (some (.iload_n 3)) (some (.iconst 2))) (iv_nd (some (.iadd)) (some (.iaload)))) (iv_nd (iv_nd (some (.invokevirtual 62)) (iv_em 0)) (iv_nd (iv_em 0) (some (.aload_n 2))))))))))) (iv_nd (iv_nd (iv_nd (iv_nd (iv_nd (iv_nd (iv_nd (iv_nd (iv_nd (some (.aload_n 0)) (some (.iload_n 3))) (iv_nd (some (.iconst 1)) (some (.iadd)))) (iv_nd (iv_nd (some (.iaload)) (some (.aload_n 0))) (iv_nd (some (.iload_n 3)) (some (.iconst 2))))) (iv_nd (iv_nd (iv_nd (some (.iadd)) (some (.iaload))) (iv_nd (some (.invokevirtual 65)) (iv_em 0))) (iv_nd (iv_nd (iv_em 0) (some (.if_icmp .eq 601))) (iv_em 1)))) (iv_nd (iv_nd (iv_nd (iv_nd (some (.iconst 0)) (some (.ireturn))) (iv_nd (some (.aload_n 1)) (some (.aload_n 0)))) (iv_nd (iv_nd (some (.iload_n 3)) (some (.iconst 1))) (iv_nd (some (.iadd)) (some (.iaload))))) (iv_nd (iv_nd (iv_nd (some (.aload_n 0)) (some (.iload_n 3))) (iv_nd (some (.iconst 2)) (some (.iadd)))) (iv_nd (iv_nd (some (.iaload)) (some (.invokevirtual 66))) (iv_em 1))))) (iv_nd (iv_nd (iv_nd (iv_nd (iv_nd (some (.aload_n 2)) (some (.aload_n 0))) (iv_nd (some (.iload_n 3)) (some (.iconst 1)))) (iv_nd (iv_nd (some (.iadd)) (some (.iaload))) (iv_nd (some (.aload_n 0)) (some (.iload_n 3))))) (iv_nd (iv_nd (iv_nd (some (.iconst 2)) (some (.iadd))) (iv_nd (some (.iaload)) (some (.invokevirtual 69)))) (iv_nd (iv_em 1) (iv_nd (some (.if_icmp .eq 568)) (iv_em 0))))) (iv_nd (iv_nd (iv_nd (iv_nd (iv_em 0) (some (.iconst 0))) (iv_nd (some (.ireturn)) (some (.aload_n 1)))) (iv_nd (iv_nd (some (.aload_n 0)) (some (.iload_n 3))) (iv_nd (some (.iconst 1)) (some (.iadd))))) (iv_nd (iv_nd (iv_nd (some (.iaload)) (some (.aload_n 0))) (iv_nd (some (.iload_n 3)) (some (.iconst 2)))) (iv_nd (iv_nd (some (.iadd)) (some (.iaload))) (iv_nd (some (.aload_n 0)) (some (.iload_n 3)))))))) (iv_nd (iv_nd (iv_nd (iv_nd (iv_nd (iv_nd (some (.iconst 3)) (some (.iadd))) (iv_nd (some (.iaload)) (some (.aload_n 0)))) (iv_nd (iv_nd (some (.iload_n 3)) (some (.iconst 4))) (iv_nd (some (.iadd)) (some (.iaload))))) (iv_nd (iv_nd (iv_nd (some (.invokevirtual 70)) (iv_em 0)) (iv_nd (iv_em 0) (some (.aload_n 2)))) (iv_nd (iv_nd (some (.aload_n 0)) (some (.iload_n 3))) (iv_nd (some (.iconst 1)) (some (.iadd)))))) (iv_nd (iv_nd (iv_nd (iv_nd (some (.iaload)) (some (.aload_n 0))) (iv_nd (some (.iload_n 3)) (some (.iconst 2)))) (iv_nd (iv_nd (some (.iadd)) (some (.iaload))) (iv_nd (some (.aload_n 0)) (some (.iload_n 3))))) (iv_nd (iv_nd (iv_nd (some (.iconst 3)) (some (.iadd))) (iv_nd (some (.iaload)) (some (.aload_n 0)))) (iv_nd (iv_nd (some (.iload_n 3)) (some (.iconst 4))) (iv_nd (some (.iadd)) (some (.iaload))))))) (iv_nd (iv_nd (iv_nd (iv_nd (iv_nd (some (.invokevirtual 74)) (iv_em 0)) (iv_nd (iv_em 0) (some (.if_icmp .eq 515)))) (iv_nd (iv_em 1) (iv_nd (some (.iconst 0)) (some (.ireturn))))) (iv_nd (iv_nd (iv_nd (some (.aload_n 1)) (some (.aload_n 0))) (iv_nd (some (.iload_n 3)) (some (.iconst 1)))) (iv_nd (iv_nd (some (.iadd)) (some (.iaload))) (iv_nd (some (.aload_n 0)) (some (.iload_n 3)))))) (iv_nd (iv_nd (iv_nd (iv_nd (some (.iconst 2)) (some (.iadd))) (iv_nd (some (.iaload)) (some (.aload_n 0)))) (iv_nd (iv_nd (some (.iload_n 3)) (some (.iconst 3))) (iv_nd (some (.iadd)) (some (.iaload))))) (iv_nd (iv_nd (iv_nd (some (.invokevirtual 75)) (iv_em 0)) (iv_nd (iv_em 0) (some (.aload_n 2)))) (iv_nd (iv_nd (some (.aload_n 0)) (some (.iload_n 3))) (iv_nd (some (.iconst 1)) (some (.iadd))))))))) (iv_nd (iv_nd (iv_nd (iv_nd (iv_nd (iv_nd (iv_nd (some (.iaload)) (some (.aload_n 0))) (iv_nd (some (.iload_n 3)) (some (.iconst 2)))) (iv_nd (iv_nd (some (.iadd)) (some (.iaload))) (iv_nd (some (.aload_n 0)) (some (.iload_n 3))))) (iv_nd (iv_nd (iv_nd (some (.iconst 3)) (some (.iadd))) (iv_nd (some (.iaload)) (some (.invokevirtual 78)))) (iv_nd (iv_em 1) (iv_nd (some (.if_icmp .eq 472)) (iv_em 0))))) (iv_nd (iv_nd (iv_nd (iv_nd (iv_em 0) (some (.iconst 0))) (iv_nd (some (.ireturn)) (some (.aload_n 1)))) (iv_nd (iv_nd (some (.aload_n 0)) (some (.iload_n 3))) (iv_nd (some (.iconst 1)) (some (.iadd))))) (iv_nd (iv_nd (iv_nd (some (.iaload)) (some (.aload_n 0))) (iv_nd (some (.iload_n 3)) (some (.iconst 2)))) (iv_nd (iv_nd (some (.iadd)) (some (.iaload))) (iv_nd (some (.aload_n 0)) (some (.iload_n 3))))))) (iv_nd (iv_nd (iv_nd (iv_nd (iv_nd (some (.iconst 3)) (some (.iadd))) (iv_nd (some (.iaload)) (some (.invokevirtual 79)))) (iv_nd (iv_em 1) (iv_nd (some (.aload_n 2)) (some (.aload_n 0))))) (iv_nd (iv_nd (iv_nd (some (.iload_n 3)) (some (.iconst 1))) (iv_nd (some (.iadd)) (some (.iaload)))) (iv_nd (iv_nd (some (.aload_n 0)) (some (.iload_n 3))) (iv_nd (some (.iconst 2)) (some (.iadd)))))) (iv_nd (iv_nd (iv_nd (iv_nd (some (.iaload)) (some (.aload_n 0))) (iv_nd (some (.iload_n 3)) (some (.iconst 3)))) (iv_nd (iv_nd (some (.iadd)) (some (.iaload))) (iv_nd (some (.invokevirtual 83)) (iv_em 0)))) (iv_nd (iv_nd (iv_nd (iv_em 0) (some (.lcmp))) (iv_nd (some (.ifCond .eq 428)) (iv_em 0))) (iv_nd (iv_nd (iv_em 0) (some (.iconst 0))) (iv_nd (some (.ireturn)) (some (.aload_n 1)))))))) (iv_nd (iv_nd (iv_nd (iv_nd (iv_nd (iv_nd (some (.aload_n 0)) (some (.iload_n 3))) (iv_nd (some (.iconst 1)) (some (.iadd)))) (iv_nd (iv_nd (some (.iaload)) (some (.aload_n 0))) (iv_nd (some (.iload_n 3)) (some (.iconst 2))))) (iv_nd (iv_nd (iv_nd (some (.iadd)) (some (.iaload))) (iv_nd (some (.aload_n 0)) (some (.iload_n 3)))) (iv_nd (iv_nd (some (.iconst 3)) (some (.iadd))) (iv_nd (some (.iaload)) (some (.invokevirtual 84)))))) (iv_nd (iv_nd (iv_nd (iv_em 1) (iv_nd (some (.aload_n 2)) (some (.aload_n 0)))) (iv_nd (iv_nd (some (.iload_n 3)) (some (.iconst 1))) (iv_nd (some (.iadd)) (some (.iaload))))) (iv_nd (iv_nd (iv_nd (some (.aload_n 0)) (some (.iload_n 3))) (iv_nd (some (.iconst 2)) (some (.iadd)))) (iv_nd (iv_nd (some (.iaload)) (some (.aload_n 0))) (iv_nd (some (.iload_n 3)) (some (.iconst 3))))))) (iv_nd (iv_nd (iv_nd (iv_nd (iv_nd (some (.iadd)) (some (.iaload))) (iv_nd (some (.invokevirtual 87)) (iv_em 0))) (iv_nd (iv_nd (iv_em 0) (some (.if_icmp .eq 385))) (iv_em 1))) (iv_nd (iv_nd (iv_nd (some (.iconst 0)) (some (.ireturn))) (iv_nd (some (.aload_n 1)) (some (.aload_n 0)))) (iv_nd (iv_nd (some (.iload_n 3)) (some (.iconst 1))) (iv_nd (some (.iadd)) (some (.iaload)))))) (iv_nd (iv_nd (iv_nd (iv_nd (some (.aload_n 0)) (some (.iload_n 3))) (iv_nd (some (.iconst 2)) (some (.iadd)))) (iv_nd (iv_nd (some (.iaload)) (some (.invokevirtual 88))) (iv_em 1))) (iv_nd (iv_nd (iv_nd (some (.aload_n 2)) (some (.aload_n 0))) (iv_nd (some (.iload_n 3)) (some (.iconst 1)))) (iv_nd (iv_nd (some (.iadd)) (some (.iaload))) (iv_nd (some (.aload_n 0)) (some (.iload_n 3)))))))))) (iv_nd (iv_nd (iv_nd (iv_nd (iv_nd (iv_nd (iv_nd (iv_nd (some (.iconst 2)) (some (.iadd))) (iv_nd (some (.iaload)) (some (.invokevirtual 92)))) (iv_nd (iv_em 1) (iv_nd (some (.lcmp)) (some (.ifCond .eq 351))))) (iv_nd (iv_nd (iv_em 1) (iv_nd (some (.iconst 0)) (some (.ireturn)))) (iv_nd (iv_nd (some (.aload_n 1)) (some (.aload_n 0))) (iv_nd (some (.iload_n 3)) (some (.iconst 1)))))) (iv_nd (iv_nd (iv_nd (iv_nd (some (.iadd)) (some (.iaload))) (iv_nd (some (.aload_n 0)) (some (.iload_n 3)))) (iv_nd (iv_nd (some (.iconst 2)) (some (.iadd))) (iv_nd (some (.iaload)) (some (.invokevirtual 93))))) (iv_nd (iv_nd (iv_em 1) (iv_nd (some (.aload_n 2)) (some (.aload_n 0)))) (iv_nd (iv_nd (some (.iload_n 3)) (some (.iconst 1))) (iv_nd (some (.iadd)) (some (.iaload))))))) (iv_nd (iv_nd (iv_nd (iv_nd (iv_nd (some (.aload_n 0)) (some (.iload_n 3))) (iv_nd (some (.iconst 2)) (some (.iadd)))) (iv_nd (iv_nd (some (.iaload)) (some (.invokevirtual 96))) (iv_em 1))) (iv_nd (iv_nd (iv_nd (some (.if_icmp .eq 318)) (iv_em 0)) (iv_nd (iv_em 0) (some (.iconst 0)))) (iv_nd (iv_nd (some (.ireturn)) (some (.aload_n 1))) (iv_nd (some (.aload_n 0)) (some (.iload_n 3)))))) (iv_nd (iv_nd (iv_nd (iv_nd (some (.iconst 1)) (some (.iadd))) (iv_nd (some (.iaload)) (some (.aload_n 0)))) (iv_nd (iv_nd (some (.iload_n 3)) (some (.iconst 2))) (iv_nd (some (.iadd)) (some (.iaload))))) (iv_nd (iv_nd (iv_nd (some (.invokevirtual 97)) (iv_em 0)) (iv_nd (iv_em 0) (some (.aload_n 2)))) (iv_nd (iv_nd (some (.aload_n 0)) (some (.iload_n 3))) (iv_nd (some (.iconst 1)) (some (.iadd)))))))) (iv_nd (iv_nd (iv_nd (iv_nd (iv_nd (iv_nd (some (.iaload)) (some (.aload_n 0))) (iv_nd (some (.iload_n 3)) (some (.iconst 2)))) (iv_nd (iv_nd (some (.iadd)) (some (.iaload))) (iv_nd (some (.invokevirtual 100)) (iv_em 0)))) (iv_nd (iv_nd (iv_nd (iv_em 0) (some (.if_icmp .eq 285))) (iv_em 1)) (iv_nd (iv_nd (some (.iconst 0)) (some (.ireturn))) (iv_nd (some (.aload_n 1)) (some (.aload_n 0)))))) (iv_nd (iv_nd (iv_nd (iv_nd (some (.iload_n 3)) (some (.iconst 1))) (iv_nd (some (.iadd)) (some (.iaload)))) (iv_nd (iv_nd (some (.invokevirtual 101)) (iv_em 0)) (iv_nd (iv_em 0) (some (.aload_n 2))))) (iv_nd (iv_nd (iv_nd (some (.aload_n 0)) (some (.iload_n 3))) (iv_nd (some (.iconst 1)) (some (.iadd)))) (iv_nd (iv_nd (some (.iaload)) (some (.invokevirtual 104))) (iv_em 1))))) (iv_nd (iv_nd (iv_nd (iv_nd (iv_nd (some (.if_icmp .eq 262)) (iv_em 0)) (iv_nd (iv_em 0) (some (.iconst 0)))) (iv_nd (iv_nd (some (.ireturn)) (some (.aload_n 1))) (iv_nd (some (.aload_n 0)) (some (.iload_n 3))))) (iv_nd (iv_nd (iv_nd (some (.iconst 1)) (some (.iadd))) (iv_nd (some (.iaload)) (some (.aload_n 0)))) (iv_nd (iv_nd (some (.iload_n 3)) (some (.iconst 2))) (iv_nd (some (.iadd)) (some (.iaload)))))) (iv_nd (iv_nd (iv_nd (iv_nd (some (.aload_n 0)) (some (.iload_n 3))) (iv_nd (some (.iconst 3)) (some (.iadd)))) (iv_nd (iv_nd (some (.iaload)) (some (.aload_n 0))) (iv_nd (some (.iload_n 3)) (some (.iconst 4))))) (iv_nd (iv_nd (iv_nd (some (.iadd)) (some (.iaload))) (iv_nd (some (.invokevirtual 105)) (iv_em 0))) (iv_nd (iv_nd (iv_em 0) (some (.aload_n 2))) (iv_nd (some (.aload_n 0)) (some (.iload_n 3))))))))) (iv_nd (iv_nd (iv_nd (iv_nd (iv_nd (iv_nd (iv_nd (some (.iconst 1)) (some (.iadd))) (iv_nd (some (.iaload)) (some (.aload_n 0)))) (iv_nd (iv_nd (some (.iload_n 3)) (some (.iconst 2))) (iv_nd (some (.iadd)) (some (.iaload))))) (iv_nd (iv_nd (iv_nd (some (.aload_n 0)) (some (.iload_n 3))) (iv_nd (some (.iconst 3)) (some (.iadd)))) (iv_nd (iv_nd (some (.iaload)) (some (.aload_n 0))) (iv_nd (some (.iload_n 3)) (some (.iconst 4)))))) (iv_nd (iv_nd (iv_nd (iv_nd (some (.iadd)) (some (.iaload))) (iv_nd (some (.invokevirtual 109)) (iv_em 0))) (iv_nd (iv_nd (iv_em 0) (some (.lcmp))) (iv_nd (some (.ifCond .eq 208)) (iv_em 0)))) (iv_nd (iv_nd (iv_nd (iv_em 0) (some (.iconst 0))) (iv_nd (some (.ireturn)) (some (.aload_n 1)))) (iv_nd (iv_nd (some (.aload_n 0)) (some (.iload_n 3))) (iv_nd (some (.iconst 1)) (some (.iadd))))))) (iv_nd (iv_nd (iv_nd (iv_nd (iv_nd (some (.iaload)) (some (.aload_n 0))) (iv_nd (some (.iload_n 3)) (some (.iconst 2)))) (iv_nd (iv_nd (some (.iadd)) (some (.iaload))) (iv_nd (some (.invokevirtual 110)) (iv_em 0)))) (iv_nd (iv_nd (iv_nd (iv_em 0) (some (.aload_n 2))) (iv_nd (some (.aload_n 0)) (some (.iload_n 3)))) (iv_nd (iv_nd (some (.iconst 1)) (some (.iadd))) (iv_nd (some (.iaload)) (some (.aload_n 0)))))) (iv_nd (iv_nd (iv_nd (iv_nd (some (.iload_n 3)) (some (.iconst 2))) (iv_nd (some (.iadd)) (some (.iaload)))) (iv_nd (iv_nd (some (.invokevirtual 113)) (iv_em 0)) (iv_nd (iv_em 0) (some (.if_icmp .eq 175))))) (iv_nd (iv_nd (iv_em 1) (iv_nd (some (.iconst 0)) (some (.ireturn)))) (iv_nd (iv_nd (some (.aload_n 1)) (some (.aload_n 0))) (iv_nd (some (.iload_n 3)) (some (.iconst 1)))))))) (iv_nd (iv_nd (iv_nd (iv_nd (iv_nd (iv_nd (some (.iadd)) (some (.iaload))) (iv_nd (some (.aload_n 0)) (some (.iload_n 3)))) (iv_nd (iv_nd (some (.iconst 2)) (some (.iadd))) (iv_nd (some (.iaload)) (some (.aload_n 0))))) (iv_nd (iv_nd (iv_nd (some (.iload_n 3)) (some (.iconst 3))) (iv_nd (some (.iadd)) (some (.iaload)))) (iv_nd (iv_nd (some (.invokevirtual 114)) (iv_em 0)) (iv_nd (iv_em 0) (some (.aload_n 2)))))) (iv_nd (iv_nd (iv_nd (iv_nd (some (.aload_n 0)) (some (.iload_n 3))) (iv_nd (some (.iconst 1)) (some (.iadd)))) (iv_nd (iv_nd (some (.iaload)) (some (.aload_n 0))) (iv_nd (some (.iload_n 3)) (some (.iconst 2))))) (iv_nd (iv_nd (iv_nd (some (.iadd)) (some (.iaload))) (iv_nd (some (.aload_n 0)) (some (.iload_n 3)))) (iv_nd (iv_nd (some (.iconst 3)) (some (.iadd))) (iv_nd (some (.iaload)) (some (.invokevirtual 117))))))) (iv_nd (iv_nd (iv_nd (iv_nd (iv_em 1) (iv_nd (some (.lcmp)) (some (.ifCond .eq 131)))) (iv_nd (iv_em 1) (iv_nd (some (.iconst 0)) (some (.ireturn))))) (iv_nd (iv_nd (iv_nd (some (.aload_n 1)) (some (.aload_n 0))) (iv_nd (some (.iload_n 3)) (some (.iconst 1)))) (iv_nd (iv_nd (some (.iadd)) (some (.iaload))) (iv_nd (some (.invokevirtual 118)) (iv_em 0))))) (iv_nd (iv_nd (iv_nd (iv_nd (iv_em 0) (some (.aload_n 2))) (iv_nd (some (.aload_n 0)) (some (.iload_n 3)))) (iv_nd (iv_nd (some (.iconst 1)) (some (.iadd))) (iv_nd (some (.iaload)) (some (.invokevirtual 122))))) (iv_nd (iv_nd (iv_em 1) (iv_nd (some (.lcmp)) (some (.ifCond .eq 107)))) (iv_nd (iv_em 1) (iv_nd (some (.iconst 0)) (some (.ireturn)))))))))))) (iv_nd (iv_nd (iv_nd (iv_nd (iv_nd (iv_nd (iv_nd (iv_nd (iv_nd (iv_nd (some (.aload_n 1)) (some (.aload_n 0))) (iv_nd (some (.iload_n 3)) (some (.iconst 1)))) (iv_nd (iv_nd (some (.iadd)) (some (.iaload))) (iv_nd (some (.invokevirtual 123)) (iv_em 0)))) (iv_nd (iv_nd (iv_nd (iv_em 0) (some (.aload_n 2))) (iv_nd (some (.aload_n 0)) (some (.iload_n 3)))) (iv_nd (iv_nd (some (.iconst 1)) (some (.iadd))) (iv_nd (some (.iaload)) (some (.invokevirtual 126)))))) (iv_nd (iv_nd (iv_nd (iv_em 1) (iv_nd (some (.if_icmp .eq 84)) (iv_em 0))) (iv_nd (iv_nd (iv_em 0) (some (.iconst 0))) (iv_nd (some (.ireturn)) (some (.aload_n 1))))) (iv_nd (iv_nd (iv_nd (some (.aload_n 0)) (some (.iload_n 3))) (iv_nd (some (.iconst 1)) (some (.iadd)))) (iv_nd (iv_nd (some (.iaload)) (some (.invokevirtual 127))) (iv_em 1))))) (iv_nd (iv_nd (iv_nd (iv_nd (iv_nd (some (.aload_n 2)) (some (.aload_n 0))) (iv_nd (some (.iload_n 3)) (some (.iconst 1)))) (iv_nd (iv_nd (some (.iadd)) (some (.iaload))) (iv_nd (some (.invokevirtual 130)) (iv_em 0)))) (iv_nd (iv_nd (iv_nd (iv_em 0) (some (.if_icmp .eq 61))) (iv_em 1)) (iv_nd (iv_nd (some (.iconst 0)) (some (.ireturn))) (iv_nd (some (.aload_n 1)) (some (.aload_n 0)))))) (iv_nd (iv_nd (iv_nd (iv_nd (some (.iload_n 3)) (some (.iconst 1))) (iv_nd (some (.iadd)) (some (.iaload)))) (iv_nd (iv_nd (some (.aload_n 0)) (some (.iload_n 3))) (iv_nd (some (.iconst 2)) (some (.iadd))))) (iv_nd (iv_nd (iv_nd (some (.iaload)) (some (.invokevirtual 131))) (iv_em 1)) (iv_nd (iv_nd (some (.aload_n 2)) (some (.aload_n 0))) (iv_nd (some (.iload_n 3)) (some (.iconst 1)))))))) (iv_nd (iv_nd (iv_nd (iv_nd (iv_nd (iv_nd (some (.iadd)) (some (.iaload))) (iv_nd (some (.aload_n 0)) (some (.iload_n 3)))) (iv_nd (iv_nd (some (.iconst 2)) (some (.iadd))) (iv_nd (some (.iaload)) (some (.invokevirtual 134))))) (iv_nd (iv_nd (iv_em 1) (iv_nd (some (.if_icmp .eq 28)) (iv_em 0))) (iv_nd (iv_nd (iv_em 0) (some (.iconst 0))) (iv_nd (some (.ireturn)) (some (.aload_n 1)))))) (iv_nd (iv_nd (iv_nd (iv_nd (some (.aload_n 0)) (some (.iload_n 3))) (iv_nd (some (.iconst 1)) (some (.iadd)))) (iv_nd (iv_nd (some (.iaload)) (some (.invokevirtual 135))) (iv_em 1))) (iv_nd (iv_nd (iv_nd (some (.aload_n 2)) (some (.aload_n 0))) (iv_nd (some (.iload_n 3)) (some (.iconst 1)))) (iv_nd (iv_nd (some (.iadd)) (some (.iaload))) (iv_nd (some (.invokevirtual 138)) (iv_em 0)))))) (iv_nd (iv_nd (iv_nd (iv_nd (iv_nd (iv_em 0) (some (.if_icmp .eq 5))) (iv_em 1)) (iv_nd (iv_nd (some (.iconst 0)) (some (.ireturn))) (iv_nd (some (.iinc 3 6)) (iv_em 0)))) (iv_nd (iv_nd (iv_nd (iv_em 0) (some (.goto (-1111)))) (iv_em 1)) (iv_nd (iv_nd (some (.iconst 1)) (some (.ireturn))) (iv_em 1)))) (iv_em 4)))) (iv_em 7)) (iv_em 8)) (iv_em 9)))
def iv_lnT : iv_Tr (Nat) 8 := (iv_nd (iv_nd (iv_nd (iv_nd (iv_nd (iv_nd (iv_nd (iv_nd (some 0) (some 0)) (iv_nd (some 0) (some 13))) (iv_nd (iv_nd (some 131) (some 0)) (iv_nd (some 0) (some 0)))) (iv_nd (iv_nd (iv_nd (some 0) (some 50)) (iv_nd (some 0) (some 0))) (iv_nd (iv_nd (some 0) (some 0)) (iv_nd (some 0) (some 0))))) (iv_nd (iv_nd (iv_nd (iv_nd (some 0) (some 0)) (iv_nd (some 91) (some 0))) (iv_nd (iv_nd (some 13) (some 35)) (iv_nd (some 207) (some 0)))) (iv_nd (iv_nd (iv_nd (some 0) (some 0)) (iv_nd (some 0) (some 0))) (iv_nd (iv_nd (some 0) (some 0)) (iv_nd (some 41) (some 42)))))) (iv_nd (iv_nd (iv_nd (iv_nd (iv_nd (some 0) (some 13)) (iv_nd (some 161) (some 56))) (iv_nd (iv_nd (some 0) (some 91)) (iv_nd (some 0) (some 0)))) (iv_nd (iv_nd (iv_nd (some 61) (some 0)) (iv_nd (some 0) (some 0))) (iv_nd (iv_nd (some 0) (some 0)) (iv_nd (some 0) (some 0))))) (iv_nd (iv_nd (iv_nd (iv_nd (some 0) (some 0)) (iv_nd (some 0) (some 0))) (iv_nd (iv_nd (some 0) (some 46)) (iv_nd (some 102) (some 0)))) (iv_nd (iv_nd (iv_nd (some 18) (some 15)) (iv_nd (some 10) (some 30))) (iv_nd (iv_nd (some 0) (some 0)) (iv_nd (some 52) (some 32))))))) (iv_nd (iv_nd (iv_nd (iv_nd (iv_nd (iv_nd (some 0) (some 0)) (iv_nd (some 32) (some 69))) (iv_nd (iv_nd (some 25) (some 32)) (iv_nd (some 89) (some 92)))) (iv_nd (iv_nd (iv_nd (some 29) (some 29)) (iv_nd (some 45) (some 0))) (iv_nd (iv_nd (some 0) (some 0)) (iv_nd (some 0) (some 0))))) (iv_nd (iv_nd (iv_nd (iv_nd (some 0) (some 14)) (iv_nd (some 50) (some 23))) (iv_nd (iv_nd (some 127) (some 68)) (iv_nd (some 27) (some 85)))) (iv_nd (iv_nd (iv_nd (some 76) (some 168)) (iv_nd (some 79) (some 50))) (iv_nd (iv_nd (some 95) (some 87)) (iv_nd (some 35) (some 84)))))) (iv_nd (iv_nd (iv_nd (iv_nd (iv_nd (some 107) (some 76)) (iv_nd (some 93) (some 168))) (iv_nd (iv_nd (some 97) (some 124)) (iv_nd (some 62) (some 45)))) (iv_nd (iv_nd (iv_nd (some 29) (some 75)) (iv_nd (some 94) (some 84))) (iv_nd (iv_nd (some 148) (some 94)) (iv_nd (some 75) (some 166))))) (iv_nd (iv_nd (iv_nd (iv_nd (some 32) (some 21)) (iv_nd (some 15) (some 16))) (iv_nd (iv_nd (some 15) (some 15)) (iv_nd (some 33) (some 16)))) (iv_nd (iv_nd (iv_nd (some 24) (some 49)) (iv_nd (some 0) (some 0))) (iv_nd (iv_nd (some 0) (some 0)) (iv_nd (some 69) (some 0)))))))) (iv_nd (iv_nd (iv_nd (iv_nd (iv_nd (iv_nd (iv_nd (some 0) (some 268)) (iv_nd (some 19) (some 10))) (iv_nd (iv_nd (some 99) (some 60)) (iv_nd (some 47) (some 37)))) (iv_nd (iv_nd (iv_nd (some 21) (some 29)) (iv_nd (some 14) (some 18))) (iv_nd (iv_nd (some 45) (some 0)) (iv_nd (some 185) (some 141))))) (iv_nd (iv_nd (iv_nd (iv_nd (some 20) (some 172)) (iv_nd (some 0) (some 120))) (iv_nd (iv_nd (some 10) (some 83)) (iv_nd (some 17) (some 14)))) (iv_nd (iv_nd (iv_nd (some 0) (some 38)) (iv_nd (some 32) (some 14))) (iv_nd (iv_nd (some 0) (some 0)) (iv_nd (some 0) (some 46)))))) (iv_nd (iv_nd (iv_nd (iv_nd (iv_nd (some 7) (some 0)) (iv_nd (some 0) (some 0))) (iv_nd (iv_nd (some 0) (some 0)) (iv_nd (some 0) (some 0)))) (iv_nd (iv_nd (iv_nd (some 0) (some 0)) (iv_nd (some 0) (some 0))) (iv_nd (iv_nd (some 0) (some 0)) (iv_nd (some 46) (some 26))))) (iv_nd (iv_nd (iv_nd (iv_nd (some 17) (some 153)) (iv_nd (some 27) (some 78))) (iv_nd (iv_nd (some 0) (some 0)) (iv_nd (some 0) (some 0)))) (iv_nd (iv_nd (iv_nd (some 0) (some 101)) (iv_nd (some 0) (some 0))) (iv_nd (iv_nd (some 114) (some 126)) (iv_nd (some 0) (some 0))))))) (iv_nd (iv_nd (iv_nd (iv_nd (iv_nd (iv_nd (some 39) (some 88)) (iv_nd (some 0) (some 95))) (iv_nd (iv_nd (some 174) (some 0)) (iv_nd (some 0) (some 75)))) (iv_nd (iv_nd (iv_nd (some 0) (some 118)) (iv_nd (some 0) (some 137))) (iv_nd (iv_nd (some 131) (some 0)) (iv_nd (some 0) (some 0))))) (iv_nd (iv_nd (iv_nd (iv_nd (some 0) (some 0)) (iv_nd (some 65) (some 0))) (iv_nd (iv_nd (some 134) (some 48)) (iv_nd (some 120) (some 54)))) (iv_nd (iv_nd (iv_nd (some 60) (some 168)) (iv_nd (some 83) (some 0))) (iv_nd (iv_nd (some 146) (some 0)) (iv_nd (some 0) (some 110)))))) (iv_nd (iv_nd (iv_nd (iv_nd (iv_nd (some 40) (some 32)) (iv_nd (some 142) (some 37))) (iv_nd (iv_nd (some 26) (some 0)) (iv_nd (some 0) (some 0)))) (iv_nd (iv_nd (iv_nd (some 0) (some 0)) (iv_nd (some 21) (some 1134))) (iv_em 2))) (iv_em 4)))))
def iv_ln (i : Nat) : Nat := bif Nat.ble 236 i then 0 else (iv_tl 8 iv_lnT i).getD 0
def iv_cdT : iv_Tr Jvm.ClassFile.Instr 19 := (iv_nd (iv_nd (iv_nd (iv_nd (iv_nd (iv_nd (iv_nd (iv_em 12) (iv_nd (iv_em 11) iv_code3)) (iv_nd (iv_nd iv_code4 (iv_em 11)) (iv_em 12))) (iv_nd (iv_nd (iv_nd (iv_em 11) iv_code9) (iv_em 12)) (iv_em 13))) (iv_nd (iv_nd (iv_nd (iv_em 12) (iv_nd iv_code18 (iv_em 11))) (iv_nd (iv_nd iv_code20 iv_code21) (iv_nd iv_code22 (iv_em 11)))) (iv_nd (iv_em 13) (iv_nd (iv_em 12) (iv_nd iv_code30 iv_code31))))) (iv_nd (iv_nd (iv_nd (iv_nd (iv_nd (iv_em 11) iv_code33) (iv_nd iv_code34 iv_code35)) (iv_nd (iv_nd (iv_em 11) iv_code37) (iv_em 12))) (iv_nd (iv_nd (iv_nd iv_code40 (iv_em 11)) (iv_em 12)) (iv_em 13))) (iv_nd (iv_nd (iv_em 13) (iv_nd (iv_nd (iv_em 11) iv_code53) (iv_nd iv_code54 (iv_em 11)))) (iv_nd (iv_nd (iv_nd iv_code56 iv_code57) (iv_nd iv_code58 iv_code59)) (iv_nd (iv_em 12) (iv_nd iv_code62 iv_code63)))))) (iv_nd (iv_nd (iv_nd (iv_nd (iv_nd (iv_em 12) (iv_nd iv_code66 iv_code67)) (iv_nd (iv_nd iv_code68 iv_code69) (iv_nd iv_code70 iv_code71))) (iv_nd (iv_nd (iv_nd iv_code72 iv_code73) (iv_nd iv_code74 (iv_em 11))) (iv_em 13))) (iv_nd (iv_nd (iv_nd (iv_nd (iv_em 11) iv_code81) (iv_nd iv_code82 iv_code83)) (iv_nd (iv_nd iv_code84 iv_code85) (iv_nd iv_code86 iv_code87))) (iv_nd (iv_nd (iv_nd iv_code88 iv_code89) (iv_nd iv_code90 iv_code91)) (iv_nd (iv_nd iv_code92 iv_code93) (iv_nd iv_code94 iv_code95))))) (iv_nd (iv_nd (iv_nd (iv_nd (iv_nd iv_code96 iv_code97) (iv_nd iv_code98 iv_code99)) (iv_nd (iv_nd iv_code100 iv_code101) (iv_nd iv_code102 iv_code103))) (iv_nd (iv_nd (iv_nd iv_code104 iv_code105) (iv_nd iv_code106 iv_code107)) (iv_nd (iv_nd iv_code108 iv_code109) (iv_nd iv_code110 iv_code111)))) (iv_nd (iv_nd (iv_nd (iv_nd iv_code112 iv_code113) (iv_nd iv_code114 iv_code115)) (iv_nd (iv_nd iv_code116 iv_code117) (iv_nd iv_code118 iv_code119))) (iv_nd (iv_nd (iv_nd iv_code120 iv_code121) (iv_em 12)) (iv_nd (iv_em 12) (iv_nd iv_code126 (iv_em 11)))))))) (iv_nd (iv_nd (iv_nd (iv_nd (iv_nd (iv_nd (iv_nd (iv_em 11) iv_code129) (iv_nd iv_code130 iv_code131)) (iv_nd (iv_nd iv_code132 iv_code133) (iv_nd iv_code134 iv_code135))) (iv_nd (iv_nd (iv_nd iv_code136 iv_code137) (iv_nd iv_code138 iv_code139)) (iv_nd (iv_nd iv_code140 (iv_em 11)) (iv_nd iv_code142 iv_code143)))) (iv_nd (iv_nd (iv_nd (iv_nd iv_code144 iv_code145) (iv_nd (iv_em 11) iv_code147)) (iv_nd (iv_nd iv_code148 iv_code149) (iv_nd iv_code150 iv_code151))) (iv_nd (iv_nd (iv_nd (iv_em 11) iv_code153) (iv_nd iv_code154 iv_code155)) (iv_nd (iv_em 12) (iv_nd (iv_em 11) iv_code159))))) (iv_nd (iv_nd (iv_nd (iv_nd (iv_nd iv_code160 (iv_em 11)) (iv_em 12)) (iv_em 13)) (iv_nd (iv_em 13) (iv_nd (iv_em 12) (iv_nd iv_code174 iv_code175)))) (iv_nd (iv_nd (iv_nd (iv_nd iv_code176 iv_code177) (iv_nd iv_code178 iv_code179)) (iv_em 13)) (iv_nd (iv_nd (iv_nd (iv_em 11) iv_code185) (iv_em 12)) (iv_nd (iv_nd iv_code188 iv_code189) (iv_em 12)))))) (iv_nd (iv_nd (iv_nd (iv_nd (iv_nd (iv_nd iv_code192 iv_code193) (iv_nd (iv_em 11) iv_code195)) (iv_nd (iv_nd iv_code196 (iv_em 11)) (iv_nd (iv_em 11) iv_code199))) (iv_nd (iv_nd (iv_nd (iv_em 11) iv_code201) (iv_nd (iv_em 11) iv_code203)) (iv_nd (iv_nd iv_code204 (iv_em 11)) (iv_em 12)))) (iv_nd (iv_nd (iv_nd (iv_em 12) (iv_nd iv_code210 (iv_em 11))) (iv_nd (iv_nd iv_code212 iv_code213) (iv_nd iv_code214 iv_code215))) (iv_nd (iv_nd (iv_nd iv_code216 iv_code217) (iv_nd iv_code218 (iv_em 11))) (iv_nd (iv_nd iv_code220 (iv_em 11)) (iv_nd (iv_em 11) iv_code223))))) (iv_nd (iv_nd (iv_nd (iv_nd (iv_nd iv_code224 iv_code225) (iv_nd iv_code226 iv_code227)) (iv_nd (iv_nd iv_code228 (iv_em 11)) (iv_em 12))) (iv_nd (iv_nd (iv_em 12) (iv_nd iv_code234 iv_code235)) (iv_em 13))) (iv_em 15)))))
def iv_cd0 (i p : Nat) : Option Jvm.ClassFile.Instr := bif Nat.ble 236 i then none else bif Nat.ble 2048 p then none else iv_tl 19 iv_cdT (2048 * i + p)
def iv_cd (i p : Nat) : Option Jvm.ClassFile.Instr := bif Nat.ble (iv_ln i) p then none else iv_cd0 i p
def iv_fdT : iv_Tr ((Nat × Nat)) 14 := (iv_nd (iv_nd (iv_nd (iv_nd (iv_em 10) (iv_nd (iv_nd (iv_nd (iv_nd (iv_nd (iv_nd (iv_nd (iv_em 3) (iv_nd (iv_nd (iv_nd (iv_em 0) (some (0, 0))) (iv_em 1)) (iv_em 2))) (iv_nd (iv_nd (iv_em 2) (iv_nd (iv_nd (iv_em 0) (some (0, 1))) (iv_em 1))) (iv_nd (iv_nd (iv_nd (iv_em 0) (some (0, 2))) (iv_em 1)) (iv_nd (iv_nd (some (8, 1)) (iv_em 0)) (iv_em 1))))) (iv_em 5)) (iv_em 6)) (iv_em 7)) (iv_em 8)) (iv_em 9))) (iv_nd (iv_nd (iv_nd (iv_nd (iv_nd (iv_nd (iv_nd (iv_nd (iv_em 3) (iv_nd (iv_nd (iv_nd (iv_em 0) (some (1, 0))) (iv_em 1)) (iv_nd (iv_em 1) (iv_nd (iv_em 0) (some (1, 3)))))) (iv_nd (iv_nd (iv_nd (iv_em 1) (iv_nd (some (1, 4)) (iv_em 0))) (iv_nd (iv_nd (iv_em 0) (some (1, 5))) (iv_em 1))) (iv_nd (iv_nd (iv_nd (some (1, 6)) (iv_em 0)) (iv_nd (iv_em 0) (some (1, 7)))) (iv_em 2)))) (iv_nd (iv_nd (iv_nd (iv_em 2) (iv_nd (iv_nd (some (1, 2)) (iv_em 0)) (iv_em 1))) (iv_nd (iv_nd (iv_nd (some (1, 1)) (iv_em 0)) (iv_em 1)) (iv_em 2))) (iv_nd (iv_nd (iv_em 2) (iv_nd (iv_em 1) (iv_nd (some (6, 1)) (some (6, 2))))) (iv_em 3)))) (iv_nd (iv_nd (iv_nd (iv_nd (iv_em 2) (iv_nd (iv_em 1) (iv_nd (some (1, 8)) (iv_em 0)))) (iv_em 3)) (iv_nd (iv_nd (iv_em 2) (iv_nd (iv_em 1) (iv_nd (iv_em 0) (some (1, 10))))) (iv_nd (iv_nd (iv_em 1) (iv_nd (some (1, 9)) (iv_em 0))) (iv_em 2)))) (iv_em 5))) (iv_em 7)) (iv_em 8)) (iv_em 9)) (iv_nd (iv_nd (iv_nd (iv_nd (iv_nd (iv_nd (iv_nd (iv_em 3) (iv_nd (iv_nd (iv_nd (iv_em 0) (some (2, 0))) (iv_em 1)) (iv_nd (iv_em 1) (iv_nd (iv_em 0) (some (2, 1)))))) (iv_nd (iv_nd (iv_em 2) (iv_nd (iv_nd (iv_em 0) (some (2, 2))) (iv_em 1))) (iv_nd (iv_nd (iv_nd (iv_em 0) (some (2, 3))) (iv_em 1)) (iv_nd (iv_nd (some (2, 4)) (iv_em 0)) (iv_nd (iv_em 0) (some (2, 5))))))) (iv_nd (iv_nd (iv_nd (iv_nd (iv_em 1) (iv_nd (some (2, 12)) (iv_em 0))) (iv_nd (iv_nd (iv_em 0) (some (2, 9))) (iv_em 1))) (iv_nd (iv_nd (iv_nd (iv_em 0) (some (2, 10))) (iv_em 1)) (iv_nd (iv_nd (iv_em 0) (some (2, 11))) (iv_em 1)))) (iv_nd (iv_em 3) (iv_nd (iv_nd (iv_em 1) (iv_nd (iv_em 0) (some (6, 7)))) (iv_em 2))))) (iv_nd (iv_nd (iv_em 4) (iv_nd (iv_nd (iv_em 2) (iv_nd (iv_nd (iv_em 0) (some (2, 8))) (iv_em 1))) (iv_nd (iv_em 2) (iv_nd (iv_em 1) (iv_nd (iv_em 0) (some (6, 1))))))) (iv_nd (iv_nd (iv_em 3) (iv_nd (iv_nd (iv_em 1) (iv_nd (some (2, 6)) (iv_em 0))) (iv_nd (iv_nd (iv_em 0) (some (6, 8))) (iv_nd (iv_em 0) (some (2, 7)))))) (iv_nd (iv_nd (iv_nd (iv_em 1) (iv_nd (some (7, 0)) (iv_em 0))) (iv_em 2)) (iv_nd (iv_nd (iv_em 1) (iv_nd (iv_em 0) (some (7, 7)))) (iv_em 2)))))) (iv_nd (iv_nd (iv_nd (iv_em 4) (iv_nd (iv_nd (iv_nd (iv_nd (iv_em 0) (some (6, 3))) (iv_em 1)) (iv_nd (iv_nd (some (7, 2)) (iv_em 0)) (iv_nd (iv_em 0) (some (7, 1))))) (iv_em 3))) (iv_em 5)) (iv_em 6))) (iv_em 8)) (iv_em 9)))) (iv_nd (iv_nd (iv_nd (iv_nd (iv_nd (iv_nd (iv_nd (iv_nd (iv_nd (iv_em 3) (iv_nd (iv_nd (iv_em 1) (iv_nd (iv_em 0) (some (3, 0)))) (iv_em 2))) (iv_nd (iv_nd (iv_nd (iv_em 1) (iv_nd (some (3, 1)) (iv_em 0))) (iv_em 2)) (iv_nd (iv_nd (iv_em 1) (iv_nd (some (3, 2)) (iv_em 0))) (iv_em 2)))) (iv_em 5)) (iv_em 6)) (iv_em 7)) (iv_em 8)) (iv_em 9)) (iv_nd (iv_nd (iv_nd (iv_nd (iv_nd (iv_nd (iv_nd (iv_em 3) (iv_nd (iv_nd (iv_nd (iv_em 0) (some (4, 0))) (iv_em 1)) (iv_nd (iv_em 1) (iv_nd (iv_em 0) (some (4, 6)))))) (iv_nd (iv_nd (iv_nd (iv_em 1) (iv_nd (iv_em 0) (some (4, 5)))) (iv_nd (iv_em 1) (iv_nd (some (6, 5)) (iv_em 0)))) (iv_nd (iv_em 2) (iv_nd (iv_nd (some (4, 2)) (some (6, 4))) (iv_em 1))))) (iv_nd (iv_nd (iv_nd (iv_nd (iv_nd (some (4, 4)) (iv_em 0)) (iv_nd (iv_em 0) (some (4, 1)))) (iv_nd (iv_nd (some (4, 3)) (iv_em 0)) (iv_nd (iv_em 0) (some (8, 1))))) (iv_em 3)) (iv_em 4))) (iv_em 6)) (iv_em 7)) (iv_em 8)) (iv_em 9))) (iv_nd (iv_nd (iv_nd (iv_nd (iv_nd (iv_nd (iv_nd (iv_nd (iv_em 3) (iv_nd (iv_nd (iv_em 1) (iv_nd (iv_em 0) (some (5, 0)))) (iv_nd (iv_em 1) (iv_nd (iv_em 0) (some (5, 1)))))) (iv_nd (iv_nd (iv_nd (iv_em 1) (iv_nd (some (5, 2)) (iv_em 0))) (iv_nd (iv_nd (iv_em 0) (some (5, 3))) (iv_em 1))) (iv_nd (iv_nd (iv_nd (some (5, 4)) (iv_em 0)) (iv_nd (iv_em 0) (some (5, 5)))) (iv_nd (iv_em 1) (iv_nd (some (5, 6)) (iv_em 0)))))) (iv_nd (iv_em 4) (iv_nd (iv_em 3) (iv_nd (iv_em 2) (iv_nd (iv_nd (some (7, 7)) (iv_em 0)) (iv_nd (iv_em 0) (some (7, 5)))))))) (iv_nd (iv_nd (iv_nd (iv_nd (iv_em 2) (iv_nd (iv_em 1) (iv_nd (some (7, 6)) (iv_em 0)))) (iv_em 3)) (iv_nd (iv_em 3) (iv_nd (iv_nd (iv_em 1) (iv_nd (some (5, 7)) (iv_em 0))) (iv_em 2)))) (iv_em 5))) (iv_em 7)) (iv_em 8)) (iv_em 9)) (iv_nd (iv_nd (iv_nd (iv_nd (iv_nd (iv_nd (iv_nd (iv_em 3) (iv_nd (iv_nd (iv_nd (iv_em 0) (some (6, 0))) (iv_em 1)) (iv_nd (iv_em 1) (iv_nd (iv_em 0) (some (6, 1)))))) (iv_nd (iv_nd (iv_nd (iv_em 1) (iv_nd (some (6, 2)) (iv_em 0))) (iv_nd (iv_nd (iv_em 0) (some (6, 3))) (iv_em 1))) (iv_em 3))) (iv_nd (iv_nd (iv_nd (iv_em 2) (iv_nd (iv_nd (some (6, 4)) (iv_em 0)) (iv_em 1))) (iv_nd (iv_nd (iv_nd (some (6, 5)) (iv_em 0)) (iv_nd (iv_em 0) (some (6, 6)))) (iv_nd (iv_em 1) (iv_nd (some (6, 7)) (iv_em 0))))) (iv_nd (iv_nd (iv_nd (iv_nd (iv_em 0) (some (6, 8))) (iv_em 1)) (iv_nd (iv_nd (some (4, 1)) (iv_em 0)) (iv_nd (iv_em 0) (some (4, 2))))) (iv_nd (iv_nd (iv_nd (some (4, 0)) (iv_em 0)) (iv_em 1)) (iv_em 2))))) (iv_em 6)) (iv_em 7)) (iv_em 8)) (iv_em 9))))) (iv_nd (iv_nd (iv_nd (iv_nd (iv_nd (iv_nd (iv_nd (iv_nd (iv_nd (iv_nd (iv_em 3) (iv_nd (iv_nd (iv_nd (iv_em 0) (some (7, 0))) (iv_em 1)) (iv_nd (iv_em 1) (iv_nd (iv_em 0) (some (7, 1)))))) (iv_nd (iv_nd (iv_nd (iv_em 1) (iv_nd (some (7, 2)) (iv_em 0))) (iv_nd (iv_nd (iv_em 0) (some (7, 3))) (iv_em 1))) (iv_nd (iv_nd (iv_nd (some (7, 4)) (iv_em 0)) (iv_nd (iv_em 0) (some (7, 5)))) (iv_nd (iv_em 1) (iv_nd (some (7, 6)) (iv_em 0)))))) (iv_nd (iv_nd (iv_nd (iv_nd (iv_nd (iv_em 0) (some (7, 7))) (iv_em 1)) (iv_em 2)) (iv_em 3)) (iv_em 4))) (iv_em 6)) (iv_em 7)) (iv_em 8)) (iv_em 9)) (iv_nd (iv_nd (iv_nd (iv_nd (iv_nd (iv_nd (iv_nd (iv_em 3) (iv_nd (iv_nd (iv_nd (iv_em 0) (some (8, 0))) (iv_em 1)) (iv_nd (iv_em 1) (iv_nd (iv_em 0) (some (8, 1)))))) (iv_em 4)) (iv_em 5)) (iv_em 6)) (iv_em 7)) (iv_em 8)) (iv_em 9))) (iv_nd (iv_nd (iv_nd (iv_nd (iv_nd (iv_nd (iv_nd (iv_nd (iv_em 3) (iv_nd (iv_em 2) (iv_nd (iv_nd (iv_em 0) (some (9, 1))) (iv_em 1)))) (iv_nd (iv_nd (iv_em 2) (iv_nd (iv_em 1) (iv_nd (some (9, 0)) (iv_em 0)))) (iv_nd (iv_em 2) (iv_nd (iv_nd (iv_em 0) (some (9, 2))) (iv_em 1))))) (iv_nd (iv_nd (iv_nd (iv_em 2) (iv_nd (iv_nd (some (9, 3)) (iv_em 0)) (iv_em 1))) (iv_nd (iv_nd (iv_em 1) (iv_nd (iv_em 0) (some (9, 4)))) (iv_em 2))) (iv_nd (iv_nd (iv_nd (iv_em 1) (iv_nd (some (9, 5)) (iv_em 0))) (iv_nd (iv_em 1) (iv_nd (some (9, 7)) (iv_em 0)))) (iv_nd (iv_em 2) (iv_nd (iv_nd (some (9, 6)) (iv_em 0)) (iv_em 1)))))) (iv_nd (iv_nd (iv_nd (iv_nd (iv_nd (iv_em 1) (iv_nd (iv_em 0) (some (8, 1)))) (iv_em 2)) (iv_em 3)) (iv_em 4)) (iv_nd (iv_nd (iv_nd (iv_em 2) (iv_nd (iv_nd (some (0, 0)) (iv_em 0)) (iv_nd (iv_em 0) (some (6, 1))))) (iv_em 3)) (iv_nd (iv_nd (iv_em 2) (iv_nd (iv_em 1) (iv_nd (iv_em 0) (some (6, 2))))) (iv_nd (iv_nd (iv_em 1) (iv_nd (some (6, 7)) (iv_em 0))) (iv_nd (iv_nd (iv_em 0) (some (6, 8))) (iv_em 1))))))) (iv_nd (iv_nd (iv_nd (iv_nd (iv_nd (iv_em 2) (iv_nd (iv_em 1) (iv_nd (some (6, 3)) (iv_em 0)))) (iv_nd (iv_em 2) (iv_nd (iv_em 1) (iv_nd (iv_em 0) (some (1, 0)))))) (iv_nd (iv_em 3) (iv_nd (iv_em 2) (iv_nd (iv_nd (iv_em 0) (some (6, 0))) (iv_em 1))))) (iv_nd (iv_nd (iv_nd (iv_nd (iv_nd (some (3, 2)) (iv_em 0)) (iv_em 1)) (iv_em 2)) (iv_nd (iv_em 2) (iv_nd (iv_em 1) (iv_nd (some (6, 5)) (iv_em 0))))) (iv_nd (iv_em 3) (iv_nd (iv_em 2) (iv_nd (iv_em 1) (iv_nd (some (2, 0)) (iv_em 0))))))) (iv_nd (iv_nd (iv_nd (iv_nd (iv_nd (iv_nd (iv_em 0) (some (2, 6))) (iv_em 1)) (iv_nd (iv_nd (some (2, 7)) (iv_em 0)) (iv_em 1))) (iv_nd (iv_nd (iv_em 1) (iv_nd (some (2, 2)) (iv_em 0))) (iv_nd (iv_em 1) (iv_nd (some (7, 1)) (iv_em 0))))) (iv_nd (iv_nd (iv_nd (iv_em 1) (iv_nd (iv_em 0) (some (7, 3)))) (iv_em 2)) (iv_nd (iv_nd (iv_em 1) (iv_nd (some (7, 7)) (iv_em 0))) (iv_em 2)))) (iv_nd (iv_nd (iv_em 3) (iv_nd (iv_nd (iv_em 1) (iv_nd (some (2, 4)) (iv_em 0))) (iv_em 2))) (iv_nd (iv_nd (iv_em 2) (iv_nd (iv_em 1) (iv_nd (iv_em 0) (some (2, 5))))) (iv_nd (iv_nd (iv_em 1) (iv_nd (some (2, 3)) (iv_em 0))) (iv_em 2))))))) (iv_nd (iv_nd (iv_nd (iv_nd (iv_nd (iv_em 3) (iv_nd (iv_nd (iv_nd (some (2, 1)) (iv_em 0)) (iv_em 1)) (iv_em 2))) (iv_em 4)) (iv_nd (iv_nd (iv_em 3) (iv_nd (iv_nd (iv_nd (iv_em 0) (some (6, 4))) (iv_em 1)) (iv_nd (iv_em 1) (iv_nd (iv_em 0) (some (6, 6)))))) (iv_nd (iv_em 3) (iv_nd (iv_nd (iv_nd (iv_em 0) (some (2, 8))) (iv_em 1)) (iv_em 2))))) (iv_nd (iv_nd (iv_nd (iv_nd (iv_nd (iv_nd (some (1, 1)) (iv_em 0)) (iv_em 1)) (iv_em 2)) (iv_em 3)) (iv_em 4)) (iv_em 5))) (iv_em 7))) (iv_em 9)) (iv_nd (iv_nd (iv_nd (iv_nd (iv_nd (iv_nd (iv_nd (iv_em 3) (iv_nd (iv_nd (iv_nd (iv_em 0) (some (10, 0))) (iv_em 1)) (iv_nd (iv_nd (iv_em 0) (some (10, 1))) (iv_em 1)))) (iv_nd (iv_nd (iv_nd (iv_nd (some (10, 3)) (iv_em 0)) (iv_em 1)) (iv_nd (iv_nd (some (10, 7)) (iv_em 0)) (iv_nd (iv_em 0) (some (10, 10))))) (iv_nd (iv_nd (iv_em 1) (iv_nd (some (10, 12)) (iv_em 0))) (iv_nd (iv_em 1) (iv_nd (some (10, 13)) (iv_em 0)))))) (iv_nd (iv_nd (iv_nd (iv_nd (iv_nd (iv_em 0) (some (10, 14))) (iv_em 1)) (iv_nd (iv_nd (some (10, 15)) (iv_em 0)) (iv_nd (iv_em 0) (some (10, 16))))) (iv_nd (iv_nd (iv_em 1) (iv_nd (some (10, 19)) (iv_em 0))) (iv_nd (iv_nd (iv_em 0) (some (10, 20))) (iv_em 1)))) (iv_nd (iv_nd (iv_nd (iv_nd (some (10, 21)) (iv_em 0)) (iv_nd (iv_em 0) (some (10, 22)))) (iv_nd (iv_em 1) (iv_nd (some (10, 23)) (iv_em 0)))) (iv_nd (iv_nd (iv_nd (iv_em 0) (some (10, 24))) (iv_em 1)) (iv_nd (iv_nd (some (10, 25)) (iv_em 0)) (iv_em 1)))))) (iv_nd (iv_nd (iv_nd (iv_nd (iv_nd (iv_nd (some (10, 26)) (iv_em 0)) (iv_nd (iv_em 0) (some (10, 27)))) (iv_nd (iv_em 1) (iv_nd (some (10, 28)) (iv_em 0)))) (iv_nd (iv_nd (iv_nd (iv_em 0) (some (10, 31))) (iv_em 1)) (iv_nd (iv_nd (some (10, 32)) (iv_em 0)) (iv_nd (iv_em 0) (some (10, 33)))))) (iv_nd (iv_nd (iv_nd (iv_em 1) (iv_nd (some (10, 34)) (iv_em 0))) (iv_nd (iv_nd (iv_em 0) (some (10, 35))) (iv_em 1))) (iv_nd (iv_nd (iv_nd (some (10, 36)) (iv_em 0)) (iv_nd (iv_em 0) (some (10, 37)))) (iv_nd (iv_em 1) (iv_nd (some (10, 38)) (iv_em 0)))))) (iv_nd (iv_nd (iv_nd (iv_nd (iv_nd (iv_em 0) (some (10, 39))) (iv_em 1)) (iv_nd (iv_nd (some (10, 46)) (iv_em 0)) (iv_nd (iv_em 0) (some (10, 2))))) (iv_nd (iv_nd (iv_em 1) (iv_nd (iv_em 0) (some (10, 4)))) (iv_em 2))) (iv_nd (iv_nd (iv_nd (iv_em 1) (iv_nd (some (10, 5)) (iv_em 0))) (iv_nd (iv_nd (iv_em 0) (some (10, 6))) (iv_em 1))) (iv_em 3))))) (iv_nd (iv_nd (iv_nd (iv_em 4) (iv_nd (iv_nd (iv_em 2) (iv_nd (iv_nd (some (10, 8)) (iv_em 0)) (iv_em 1))) (iv_nd (iv_nd (iv_em 1) (iv_nd (iv_em 0) (some (10, 9)))) (iv_em 2)))) (iv_nd (iv_nd (iv_em 3) (iv_nd (iv_em 2) (iv_nd (iv_nd (iv_em 0) (some (10, 11))) (iv_em 1)))) (iv_em 4))) (iv_nd (iv_nd (iv_em 4) (iv_nd (iv_nd (iv_nd (iv_nd (some (10, 17)) (iv_em 0)) (iv_nd (iv_em 0) (some (10, 18)))) (iv_em 2)) (iv_nd (iv_em 2) (iv_nd (iv_nd (iv_em 0) (some (10, 30))) (iv_em 1))))) (iv_nd (iv_nd (iv_nd (iv_em 2) (iv_nd (iv_nd (iv_em 0) (some (10, 29))) (iv_em 1))) (iv_em 3)) (iv_em 4))))) (iv_nd (iv_nd (iv_em 6) (iv_nd (iv_em 5) (iv_nd (iv_em 4) (iv_nd (iv_em 3) (iv_nd (iv_em 2) (iv_nd (iv_em 1) (iv_nd (some (10, 42)) (iv_em 0)))))))) (iv_nd (iv_nd (iv_nd (iv_nd (iv_nd (iv_em 2) (iv_nd (iv_nd (some (10, 40)) (iv_em 0)) (iv_nd (iv_em 0) (some (10, 41))))) (iv_em 3)) (iv_nd (iv_em 3) (iv_nd (iv_em 2) (iv_nd (iv_nd (some (10, 43)) (iv_em 0)) (iv_em 1))))) (iv_nd (iv_nd (iv_nd (iv_nd (iv_nd (some (10, 45)) (iv_em 0)) (iv_nd (iv_em 0) (some (10, 44)))) (iv_em 2)) (iv_em 3)) (iv_em 4))) (iv_em 6)))) (iv_em 9)))) (iv_em 12)))
def iv_fd0 (k : Nat) : Option (Nat × Nat) := iv_tl 14 iv_fdT k
def iv_fd (f i : Nat) : Option (Nat × Nat) := bif Nat.ble 512 i then none else bif Nat.ble 16 f then none else iv_fd0 (1024 * f + i)
def iv_fpT : iv_Tr (Nat) 14 := (iv_nd (iv_nd (iv_nd (iv_nd (iv_em 10) (iv_nd (iv_nd (iv_nd (iv_nd (iv_nd (iv_nd (iv_nd (iv_em 3) (iv_nd (iv_nd (iv_nd (iv_em 0) (some 289)) (iv_em 1)) (iv_em 2))) (iv_nd (iv_nd (iv_em 2) (iv_nd (iv_nd (iv_em 0) (some 291)) (iv_em 1))) (iv_nd (iv_nd (iv_nd (iv_em 0) (some 292)) (iv_em 1)) (iv_nd (iv_nd (some 225) (iv_em 0)) (iv_em 1))))) (iv_em 5)) (iv_em 6)) (iv_em 7)) (iv_em 8)) (iv_em 9))) (iv_nd (iv_nd (iv_nd (iv_nd (iv_nd (iv_nd (iv_nd (iv_nd (iv_em 3) (iv_nd (iv_nd (iv_nd (iv_em 0) (some 306)) (iv_em 1)) (iv_nd (iv_em 1) (iv_nd (iv_em 0) (some 311))))) (iv_nd (iv_nd (iv_nd (iv_em 1) (iv_nd (some 312) (iv_em 0))) (iv_nd (iv_nd (iv_em 0) (some 313)) (iv_em 1))) (iv_nd (iv_nd (iv_nd (some 314) (iv_em 0)) (iv_nd (iv_em 0) (some 315))) (iv_em 2)))) (iv_nd (iv_nd (iv_nd (iv_em 2) (iv_nd (iv_nd (some 310) (iv_em 0)) (iv_em 1))) (iv_nd (iv_nd (iv_nd (some 308) (iv_em 0)) (iv_em 1)) (iv_em 2))) (iv_nd (iv_nd (iv_em 2) (iv_nd (iv_em 1) (iv_nd (some 142) (some 146)))) (iv_em 3)))) (iv_nd (iv_nd (iv_nd (iv_nd (iv_em 2) (iv_nd (iv_em 1) (iv_nd (some 316) (iv_em 0)))) (iv_em 3)) (iv_nd (iv_nd (iv_em 2) (iv_nd (iv_em 1) (iv_nd (iv_em 0) (some 318)))) (iv_nd (iv_nd (iv_em 1) (iv_nd (some 317) (iv_em 0))) (iv_em 2)))) (iv_em 5))) (iv_em 7)) (iv_em 8)) (iv_em 9)) (iv_nd (iv_nd (iv_nd (iv_nd (iv_nd (iv_nd (iv_nd (iv_em 3) (iv_nd (iv_nd (iv_nd (iv_em 0) (some 390)) (iv_em 1)) (iv_nd (iv_em 1) (iv_nd (iv_em 0) (some 392))))) (iv_nd (iv_nd (iv_em 2) (iv_nd (iv_nd (iv_em 0) (some 394)) (iv_em 1))) (iv_nd (iv_nd (iv_nd (iv_em 0) (some 396)) (iv_em 1)) (iv_nd (iv_nd (some 398) (iv_em 0)) (iv_nd (iv_em 0) (some 400)))))) (iv_nd (iv_nd (iv_nd (iv_nd (iv_em 1) (iv_nd (some 411) (iv_em 0))) (iv_nd (iv_nd (iv_em 0) (some 408)) (iv_em 1))) (iv_nd (iv_nd (iv_nd (iv_em 0) (some 409)) (iv_em 1)) (iv_nd (iv_nd (iv_em 0) (some 410)) (iv_em 1)))) (iv_nd (iv_em 3) (iv_nd (iv_nd (iv_em 1) (iv_nd (iv_em 0) (some 159))) (iv_em 2))))) (iv_nd (iv_nd (iv_em 4) (iv_nd (iv_nd (iv_em 2) (iv_nd (iv_nd (iv_em 0) (some 406)) (iv_em 1))) (iv_nd (iv_em 2) (iv_nd (iv_em 1) (iv_nd (iv_em 0) (some 143)))))) (iv_nd (iv_nd (iv_em 3) (iv_nd (iv_nd (iv_em 1) (iv_nd (some 402) (iv_em 0))) (iv_nd (iv_nd (iv_em 0) (some 163)) (iv_nd (iv_em 0) (some 404))))) (iv_nd (iv_nd (iv_nd (iv_em 1) (iv_nd (some 356) (iv_em 0))) (iv_em 2)) (iv_nd (iv_nd (iv_em 1) (iv_nd (iv_em 0) (some 371))) (iv_em 2)))))) (iv_nd (iv_nd (iv_nd (iv_em 4) (iv_nd (iv_nd (iv_nd (iv_nd (iv_em 0) (some 150)) (iv_em 1)) (iv_nd (iv_nd (some 361) (iv_em 0)) (iv_nd (iv_em 0) (some 358)))) (iv_em 3))) (iv_em 5)) (iv_em 6))) (iv_em 8)) (iv_em 9)))) (iv_nd (iv_nd (iv_nd (iv_nd (iv_nd (iv_nd (iv_nd (iv_nd (iv_nd (iv_em 3) (iv_nd (iv_nd (iv_em 1) (iv_nd (iv_em 0) (some 241))) (iv_em 2))) (iv_nd (iv_nd (iv_nd (iv_em 1) (iv_nd (some 242) (iv_em 0))) (iv_em 2)) (iv_nd (iv_nd (iv_em 1) (iv_nd (some 243) (iv_em 0))) (iv_em 2)))) (iv_em 5)) (iv_em 6)) (iv_em 7)) (iv_em 8)) (iv_em 9)) (iv_nd (iv_nd (iv_nd (iv_nd (iv_nd (iv_nd (iv_nd (iv_em 3) (iv_nd (iv_nd (iv_nd (iv_em 0) (some 258)) (iv_em 1)) (iv_nd (iv_em 1) (iv_nd (iv_em 0) (some 267))))) (iv_nd (iv_nd (iv_nd (iv_em 1) (iv_nd (iv_em 0) (some 266))) (iv_nd (iv_em 1) (iv_nd (some 154) (iv_em 0)))) (iv_nd (iv_em 2) (iv_nd (iv_nd (some 262) (some 151)) (iv_em 1))))) (iv_nd (iv_nd (iv_nd (iv_nd (iv_nd (some 265) (iv_em 0)) (iv_nd (iv_em 0) (some 260))) (iv_nd (iv_nd (some 264) (iv_em 0)) (iv_nd (iv_em 0) (some 226)))) (iv_em 3)) (iv_em 4))) (iv_em 6)) (iv_em 7)) (iv_em 8)) (iv_em 9))) (iv_nd (iv_nd (iv_nd (iv_nd (iv_nd (iv_nd (iv_nd (iv_nd (iv_em 3) (iv_nd (iv_nd (iv_em 1) (iv_nd (iv_em 0) (some 191))) (iv_nd (iv_em 1) (iv_nd (iv_em 0) (some 192))))) (iv_nd (iv_nd (iv_nd (iv_em 1) (iv_nd (some 193) (iv_em 0))) (iv_nd (iv_nd (iv_em 0) (some 194)) (iv_em 1))) (iv_nd (iv_nd (iv_nd (some 195) (iv_em 0)) (iv_nd (iv_em 0) (some 196))) (iv_nd (iv_em 1) (iv_nd (some 197) (iv_em 0)))))) (iv_nd (iv_em 4) (iv_nd (iv_em 3) (iv_nd (iv_em 2) (iv_nd (iv_nd (some 370) (iv_em 0)) (iv_nd (iv_em 0) (some 366))))))) (iv_nd (iv_nd (iv_nd (iv_nd (iv_em 2) (iv_nd (iv_em 1) (iv_nd (some 368) (iv_em 0)))) (iv_em 3)) (iv_nd (iv_em 3) (iv_nd (iv_nd (iv_em 1) (iv_nd (some 198) (iv_em 0))) (iv_em 2)))) (iv_em 5))) (iv_em 7)) (iv_em 8)) (iv_em 9)) (iv_nd (iv_nd (iv_nd (iv_nd (iv_nd (iv_nd (iv_nd (iv_em 3) (iv_nd (iv_nd (iv_nd (iv_em 0) (some 139)) (iv_em 1)) (iv_nd (iv_em 1) (iv_nd (iv_em 0) (some 141))))) (iv_nd (iv_nd (iv_nd (iv_em 1) (iv_nd (some 145) (iv_em 0))) (iv_nd (iv_nd (iv_em 0) (some 148)) (iv_em 1))) (iv_em 3))) (iv_nd (iv_nd (iv_nd (iv_em 2) (iv_nd (iv_nd (some 152) (iv_em 0)) (iv_em 1))) (iv_nd (iv_nd (iv_nd (some 155) (iv_em 0)) (iv_nd (iv_em 0) (some 157))) (iv_nd (iv_em 1) (iv_nd (some 160) (iv_em 0))))) (iv_nd (iv_nd (iv_nd (iv_nd (iv_em 0) (some 162)) (iv_em 1)) (iv_nd (iv_nd (some 261) (iv_em 0)) (iv_nd (iv_em 0) (some 263)))) (iv_nd (iv_nd (iv_nd (some 259) (iv_em 0)) (iv_em 1)) (iv_em 2))))) (iv_em 6)) (iv_em 7)) (iv_em 8)) (iv_em 9))))) (iv_nd (iv_nd (iv_nd (iv_nd (iv_nd (iv_nd (iv_nd (iv_nd (iv_nd (iv_nd (iv_em 3) (iv_nd (iv_nd (iv_nd (iv_em 0) (some 355)) (iv_em 1)) (iv_nd (iv_em 1) (iv_nd (iv_em 0) (some 357))))) (iv_nd (iv_nd (iv_nd (iv_em 1) (iv_nd (some 360) (iv_em 0))) (iv_nd (iv_nd (iv_em 0) (some 362)) (iv_em 1))) (iv_nd (iv_nd (iv_nd (some 364) (iv_em 0)) (iv_nd (iv_em 0) (some 365))) (iv_nd (iv_em 1) (iv_nd (some 367) (iv_em 0)))))) (iv_nd (iv_nd (iv_nd (iv_nd (iv_nd (iv_em 0) (some 369)) (iv_em 1)) (iv_em 2)) (iv_em 3)) (iv_em 4))) (iv_em 6)) (iv_em 7)) (iv_em 8)) (iv_em 9)) (iv_nd (iv_nd (iv_nd (iv_nd (iv_nd (iv_nd (iv_nd (iv_em 3) (iv_nd (iv_nd (iv_nd (iv_em 0) (some 222)) (iv_em 1)) (iv_nd (iv_em 1) (iv_nd (iv_em 0) (some 224))))) (iv_em 4)) (iv_em 5)) (iv_em 6)) (iv_em 7)) (iv_em 8)) (iv_em 9))) (iv_nd (iv_nd (iv_nd (iv_nd (iv_nd (iv_nd (iv_nd (iv_nd (iv_em 3) (iv_nd (iv_em 2) (iv_nd (iv_nd (iv_em 0) (some 440)) (iv_em 1)))) (iv_nd (iv_nd (iv_em 2) (iv_nd (iv_em 1) (iv_nd (some 439) (iv_em 0)))) (iv_nd (iv_em 2) (iv_nd (iv_nd (iv_em 0) (some 441)) (iv_em 1))))) (iv_nd (iv_nd (iv_nd (iv_em 2) (iv_nd (iv_nd (some 442) (iv_em 0)) (iv_em 1))) (iv_nd (iv_nd (iv_em 1) (iv_nd (iv_em 0) (some 443))) (iv_em 2))) (iv_nd (iv_nd (iv_nd (iv_em 1) (iv_nd (some 444) (iv_em 0))) (iv_nd (iv_em 1) (iv_nd (some 446) (iv_em 0)))) (iv_nd (iv_em 2) (iv_nd (iv_nd (some 445) (iv_em 0)) (iv_em 1)))))) (iv_nd (iv_nd (iv_nd (iv_nd (iv_nd (iv_em 1) (iv_nd (iv_em 0) (some 223))) (iv_em 2)) (iv_em 3)) (iv_em 4)) (iv_nd (iv_nd (iv_nd (iv_em 2) (iv_nd (iv_nd (some 290) (iv_em 0)) (iv_nd (iv_em 0) (some 144)))) (iv_em 3)) (iv_nd (iv_nd (iv_em 2) (iv_nd (iv_em 1) (iv_nd (iv_em 0) (some 147)))) (iv_nd (iv_nd (iv_em 1) (iv_nd (some 161) (iv_em 0))) (iv_nd (iv_nd (iv_em 0) (some 164)) (iv_em 1))))))) (iv_nd (iv_nd (iv_nd (iv_nd (iv_nd (iv_em 2) (iv_nd (iv_em 1) (iv_nd (some 149) (iv_em 0)))) (iv_nd (iv_em 2) (iv_nd (iv_em 1) (iv_nd (iv_em 0) (some 307))))) (iv_nd (iv_em 3) (iv_nd (iv_em 2) (iv_nd (iv_nd (iv_em 0) (some 140)) (iv_em 1))))) (iv_nd (iv_nd (iv_nd (iv_nd (iv_nd (some 244) (iv_em 0)) (iv_em 1)) (iv_em 2)) (iv_nd (iv_em 2) (iv_nd (iv_em 1) (iv_nd (some 156) (iv_em 0))))) (iv_nd (iv_em 3) (iv_nd (iv_em 2) (iv_nd (iv_em 1) (iv_nd (some 391) (iv_em 0))))))) (iv_nd (iv_nd (iv_nd (iv_nd (iv_nd (iv_nd (iv_em 0) (some 403)) (iv_em 1)) (iv_nd (iv_nd (some 405) (iv_em 0)) (iv_em 1))) (iv_nd (iv_nd (iv_em 1) (iv_nd (some 395) (iv_em 0))) (iv_nd (iv_em 1) (iv_nd (some 359) (iv_em 0))))) (iv_nd (iv_nd (iv_nd (iv_em 1) (iv_nd (iv_em 0) (some 363))) (iv_em 2)) (iv_nd (iv_nd (iv_em 1) (iv_nd (some 372) (iv_em 0))) (iv_em 2)))) (iv_nd (iv_nd (iv_em 3) (iv_nd (iv_nd (iv_em 1) (iv_nd (some 399) (iv_em 0))) (iv_em 2))) (iv_nd (iv_nd (iv_em 2) (iv_nd (iv_em 1) (iv_nd (iv_em 0) (some 401)))) (iv_nd (iv_nd (iv_em 1) (iv_nd (some 397) (iv_em 0))) (iv_em 2))))))) (iv_nd (iv_nd (iv_nd (iv_nd (iv_nd (iv_em 3) (iv_nd (iv_nd (iv_nd (some 393) (iv_em 0)) (iv_em 1)) (iv_em 2))) (iv_em 4)) (iv_nd (iv_nd (iv_em 3) (iv_nd (iv_nd (iv_nd (iv_em 0) (some 153)) (iv_em 1)) (iv_nd (iv_em 1) (iv_nd (iv_em 0) (some 158))))) (iv_nd (iv_em 3) (iv_nd (iv_nd (iv_nd (iv_em 0) (some 407)) (iv_em 1)) (iv_em 2))))) (iv_nd (iv_nd (iv_nd (iv_nd (iv_nd (iv_nd (some 309) (iv_em 0)) (iv_em 1)) (iv_em 2)) (iv_em 3)) (iv_em 4)) (iv_em 5))) (iv_em 7))) (iv_em 9)) (iv_nd (iv_nd (iv_nd (iv_nd (iv_nd (iv_nd (iv_nd (iv_em 3) (iv_nd (iv_nd (iv_nd (iv_em 0) (some 993)) (iv_em 1)) (iv_nd (iv_nd (iv_em 0) (some 994)) (iv_em 1)))) (iv_nd (iv_nd (iv_nd (iv_nd (some 996) (iv_em 0)) (iv_em 1)) (iv_nd (iv_nd (some 1000) (iv_em 0)) (iv_nd (iv_em 0) (some 1003)))) (iv_nd (iv_nd (iv_em 1) (iv_nd (some 1005) (iv_em 0))) (iv_nd (iv_em 1) (iv_nd (some 1006) (iv_em 0)))))) (iv_nd (iv_nd (iv_nd (iv_nd (iv_nd (iv_em 0) (some 1007)) (iv_em 1)) (iv_nd (iv_nd (some 1008) (iv_em 0)) (iv_nd (iv_em 0) (some 1009)))) (iv_nd (iv_nd (iv_em 1) (iv_nd (some 1012) (iv_em 0))) (iv_nd (iv_nd (iv_em 0) (some 1013)) (iv_em 1)))) (iv_nd (iv_nd (iv_nd (iv_nd (some 1014) (iv_em 0)) (iv_nd (iv_em 0) (some 1015))) (iv_nd (iv_em 1) (iv_nd (some 1016) (iv_em 0)))) (iv_nd (iv_nd (iv_nd (iv_em 0) (some 1017)) (iv_em 1)) (iv_nd (iv_nd (some 1018) (iv_em 0)) (iv_em 1)))))) (iv_nd (iv_nd (iv_nd (iv_nd (iv_nd (iv_nd (some 1019) (iv_em 0)) (iv_nd (iv_em 0) (some 1020))) (iv_nd (iv_em 1) (iv_nd (some 1021) (iv_em 0)))) (iv_nd (iv_nd (iv_nd (iv_em 0) (some 1024)) (iv_em 1)) (iv_nd (iv_nd (some 1025) (iv_em 0)) (iv_nd (iv_em 0) (some 1026))))) (iv_nd (iv_nd (iv_nd (iv_em 1) (iv_nd (some 1027) (iv_em 0))) (iv_nd (iv_nd (iv_em 0) (some 1028)) (iv_em 1))) (iv_nd (iv_nd (iv_nd (some 1029) (iv_em 0)) (iv_nd (iv_em 0) (some 1030))) (iv_nd (iv_em 1) (iv_nd (some 1031) (iv_em 0)))))) (iv_nd (iv_nd (iv_nd (iv_nd (iv_nd (iv_em 0) (some 1032)) (iv_em 1)) (iv_nd (iv_nd (some 1039) (iv_em 0)) (iv_nd (iv_em 0) (some 995)))) (iv_nd (iv_nd (iv_em 1) (iv_nd (iv_em 0) (some 997))) (iv_em 2))) (iv_nd (iv_nd (iv_nd (iv_em 1) (iv_nd (some 998) (iv_em 0))) (iv_nd (iv_nd (iv_em 0) (some 999)) (iv_em 1))) (iv_em 3))))) (iv_nd (iv_nd (iv_nd (iv_em 4) (iv_nd (iv_nd (iv_em 2) (iv_nd (iv_nd (some 1001) (iv_em 0)) (iv_em 1))) (iv_nd (iv_nd (iv_em 1) (iv_nd (iv_em 0) (some 1002))) (iv_em 2)))) (iv_nd (iv_nd (iv_em 3) (iv_nd (iv_em 2) (iv_nd (iv_nd (iv_em 0) (some 1004)) (iv_em 1)))) (iv_em 4))) (iv_nd (iv_nd (iv_em 4) (iv_nd (iv_nd (iv_nd (iv_nd (some 1010) (iv_em 0)) (iv_nd (iv_em 0) (some 1011))) (iv_em 2)) (iv_nd (iv_em 2) (iv_nd (iv_nd (iv_em 0) (some 1023)) (iv_em 1))))) (iv_nd (iv_nd (iv_nd (iv_em 2) (iv_nd (iv_nd (iv_em 0) (some 1022)) (iv_em 1))) (iv_em 3)) (iv_em 4))))) (iv_nd (iv_nd (iv_em 6) (iv_nd (iv_em 5) (iv_nd (iv_em 4) (iv_nd (iv_em 3) (iv_nd (iv_em 2) (iv_nd (iv_em 1) (iv_nd (some 1035) (iv_em 0)))))))) (iv_nd (iv_nd (iv_nd (iv_nd (iv_nd (iv_em 2) (iv_nd (iv_nd (some 1033) (iv_em 0)) (iv_nd (iv_em 0) (some 1034)))) (iv_em 3)) (iv_nd (iv_em 3) (iv_nd (iv_em 2) (iv_nd (iv_nd (some 1036) (iv_em 0)) (iv_em 1))))) (iv_nd (iv_nd (iv_nd (iv_nd (iv_nd (some 1038) (iv_em 0)) (iv_nd (iv_em 0) (some 1037))) (iv_em 2)) (iv_em 3)) (iv_em 4))) (iv_em 6)))) (iv_em 9)))) (iv_em 12)))
def iv_fp0 (k : Nat) : Option Nat := iv_tl 14 iv_fpT k
def iv_fp (f i : Nat) : Option Nat := bif Nat.ble 512 i then none else bif Nat.ble 16 f then none else iv_fp0 (1024 * f + i)
def iv_ncT : iv_Tr (Nat) 14 := (iv_nd (iv_nd (iv_nd (iv_em 11) (iv_nd (iv_em 10) (iv_nd (iv_nd (iv_nd (iv_nd (iv_nd (iv_nd (iv_em 4) (iv_nd (iv_nd (iv_nd (iv_em 1) (iv_nd (some 7) (iv_em 0))) (iv_em 2)) (iv_em 3))) (iv_em 5)) (iv_em 6)) (iv_em 7)) (iv_em 8)) (iv_em 9)))) (iv_nd (iv_nd (iv_nd (iv_nd (iv_nd (iv_nd (iv_nd (iv_nd (iv_nd (iv_em 3) (iv_nd (iv_nd (iv_nd (iv_em 0) (some 6)) (iv_em 1)) (iv_em 2))) (iv_em 4)) (iv_em 5)) (iv_em 6)) (iv_em 7)) (iv_em 8)) (iv_em 9)) (iv_em 10)) (iv_em 11))) (iv_nd (iv_nd (iv_em 11) (iv_nd (iv_nd (iv_nd (iv_nd (iv_nd (iv_nd (iv_nd (iv_nd (iv_nd (iv_em 2) (iv_nd (iv_em 1) (iv_nd (iv_em 0) (some 6)))) (iv_nd (iv_nd (iv_em 1) (iv_nd (some 5) (iv_em 0))) (iv_em 2))) (iv_nd (iv_nd (iv_nd (iv_em 1) (iv_nd (iv_em 0) (some 8))) (iv_em 2)) (iv_nd (iv_nd (iv_em 1) (iv_nd (some 3) (iv_em 0))) (iv_em 2)))) (iv_nd (iv_nd (iv_nd (iv_nd (iv_nd (iv_em 0) (some 4)) (iv_em 1)) (iv_em 2)) (iv_nd (iv_nd (iv_nd (some 0) (iv_em 0)) (iv_em 1)) (iv_nd (iv_em 1) (iv_nd (iv_em 0) (some 1))))) (iv_nd (iv_em 3) (iv_nd (iv_nd (iv_em 1) (iv_nd (some 2) (iv_em 0))) (iv_em 2))))) (iv_em 6)) (iv_em 7)) (iv_em 8)) (iv_em 9)) (iv_em 10))) (iv_nd (iv_em 11) (iv_nd (iv_em 10) (iv_nd (iv_nd (iv_nd (iv_nd (iv_nd (iv_nd (iv_nd (iv_nd (iv_em 2) (iv_nd (iv_em 1) (iv_nd (iv_em 0) (some 9)))) (iv_nd (iv_nd (iv_em 1) (iv_nd (some 10) (iv_em 0))) (iv_em 2))) (iv_em 4)) (iv_em 5)) (iv_em 6)) (iv_em 7)) (iv_em 8)) (iv_em 9))))))
def iv_nc0 (k : Nat) : Option Nat := iv_tl 14 iv_ncT k
def iv_nc (f i : Nat) : Option Nat := bif Nat.ble 512 i then none else bif Nat.ble 16 f then none else iv_nc0 (1024 * f + i)
def iv_npT : iv_Tr (Nat) 14 := (iv_nd (iv_nd (iv_nd (iv_em 11) (iv_nd (iv_em 10) (iv_nd (iv_nd (iv_nd (iv_nd (iv_nd (iv_nd (iv_em 4) (iv_nd (iv_nd (iv_nd (iv_em 1) (iv_nd (some 349) (iv_em 0))) (iv_em 2)) (iv_em 3))) (iv_em 5)) (iv_em 6)) (iv_em 7)) (iv_em 8)) (iv_em 9)))) (iv_nd (iv_nd (iv_nd (iv_nd (iv_nd (iv_nd (iv_nd (iv_nd (iv_nd (iv_em 3) (iv_nd (iv_nd (iv_nd (iv_em 0) (some 238)) (iv_em 1)) (iv_em 2))) (iv_em 4)) (iv_em 5)) (iv_em 6)) (iv_em 7)) (iv_em 8)) (iv_em 9)) (iv_em 10)) (iv_em 11))) (iv_nd (iv_nd (iv_em 11) (iv_nd (iv_nd (iv_nd (iv_nd (iv_nd (iv_nd (iv_nd (iv_nd (iv_nd (iv_em 2) (iv_nd (iv_em 1) (iv_nd (iv_em 0) (some 130)))) (iv_nd (iv_nd (iv_em 1) (iv_nd (some 185) (iv_em 0))) (iv_em 2))) (iv_nd (iv_nd (iv_nd (iv_em 1) (iv_nd (iv_em 0) (some 216))) (iv_em 2)) (iv_nd (iv_nd (iv_em 1) (iv_nd (some 232) (iv_em 0))) (iv_em 2)))) (iv_nd (iv_nd (iv_nd (iv_nd (iv_nd (iv_em 0) (some 252)) (iv_em 1)) (iv_em 2)) (iv_nd (iv_nd (iv_nd (some 283) (iv_em 0)) (iv_em 1)) (iv_nd (iv_em 1) (iv_nd (iv_em 0) (some 300))))) (iv_nd (iv_em 3) (iv_nd (iv_nd (iv_em 1) (iv_nd (some 342) (iv_em 0))) (iv_em 2))))) (iv_em 6)) (iv_em 7)) (iv_em 8)) (iv_em 9)) (iv_em 10))) (iv_nd (iv_em 11) (iv_nd (iv_em 10) (iv_nd (iv_nd (iv_nd (iv_nd (iv_nd (iv_nd (iv_nd (iv_nd (iv_em 2) (iv_nd (iv_em 1) (iv_nd (iv_em 0) (some 122)))) (iv_nd (iv_nd (iv_em 1) (iv_nd (some 987) (iv_em 0))) (iv_em 2))) (iv_em 4)) (iv_em 5)) (iv_em 6)) (iv_em 7)) (iv_em 8)) (iv_em 9))))))
def iv_np0 (k : Nat) : Option Nat := iv_tl 14 iv_npT k
def iv_np (f i : Nat) : Option Nat := bif Nat.ble 512 i then none else bif Nat.ble 16 f then none else iv_np0 (1024 * f + i)
def iv_acT : iv_Tr (Nat) 14 := (iv_nd (iv_nd (iv_em 12) (iv_nd (iv_nd (iv_nd (iv_nd (iv_nd (iv_nd (iv_nd (iv_nd (iv_nd (iv_em 3) (iv_nd (iv_nd (iv_nd (iv_em 0) (some 5)) (iv_em 1)) (iv_em 2))) (iv_em 4)) (iv_em 5)) (iv_em 6)) (iv_em 7)) (iv_em 8)) (iv_em 9)) (iv_em 10)) (iv_em 11))) (iv_nd (iv_nd (iv_em 11) (iv_nd (iv_nd (iv_nd (iv_nd (iv_nd (iv_nd (iv_nd (iv_nd (iv_nd (iv_em 2) (iv_nd (iv_em 1) (iv_nd (iv_em 0) (some 5)))) (iv_em 3)) (iv_em 4)) (iv_nd (iv_em 4) (iv_nd (iv_em 3) (iv_nd (iv_nd (iv_em 1) (iv_nd (some 4) (iv_em 0))) (iv_em 2))))) (iv_em 6)) (iv_em 7)) (iv_em 8)) (iv_em 9)) (iv_em 10))) (iv_em 12)))
def iv_ac0 (k : Nat) : Option Nat := iv_tl 14 iv_acT k
def iv_ac (f i : Nat) : Option Nat := bif Nat.ble 512 i then none else bif Nat.ble 16 f then none else iv_ac0 (1024 * f + i)
def iv_mtT : iv_Tr (Nat) 14 := (iv_nd (iv_nd (iv_nd (iv_nd (iv_em 10) (iv_nd (iv_nd (iv_nd (iv_nd (iv_nd (iv_nd (iv_nd (iv_em 3) (iv_nd (iv_em 2) (iv_nd (iv_em 1) (iv_nd (iv_em 0) (some 234))))) (iv_em 4)) (iv_nd (iv_nd (iv_nd (iv_em 2) (iv_nd (iv_nd (iv_em 0) (some 83)) (iv_em 1))) (iv_em 3)) (iv_em 4))) (iv_em 6)) (iv_em 7)) (iv_em 8)) (iv_em 9))) (iv_nd (iv_nd (iv_nd (iv_nd (iv_nd (iv_nd (iv_nd (iv_em 4) (iv_nd (iv_em 3) (iv_nd (iv_em 2) (iv_nd (iv_em 1) (iv_nd (some 234) (iv_em 0)))))) (iv_nd (iv_nd (iv_em 3) (iv_nd (iv_em 2) (iv_nd (iv_nd (some 62) (iv_em 0)) (iv_em 1)))) (iv_em 4))) (iv_nd (iv_nd (iv_nd (iv_nd (iv_nd (iv_nd (some 58) (iv_em 0)) (iv_em 1)) (iv_em 2)) (iv_em 3)) (iv_em 4)) (iv_em 5))) (iv_em 7)) (iv_em 8)) (iv_em 9)) (iv_nd (iv_nd (iv_nd (iv_nd (iv_nd (iv_nd (iv_em 4) (iv_nd (iv_nd (iv_em 2) (iv_nd (iv_nd (some 67) (iv_em 0)) (iv_em 1))) (iv_em 3))) (iv_nd (iv_em 4) (iv_nd (iv_nd (iv_nd (iv_nd (iv_em 0) (some 20)) (iv_em 1)) (iv_nd (iv_nd (some 21) (iv_em 0)) (iv_em 1))) (iv_em 3)))) (iv_nd (iv_nd (iv_em 4) (iv_nd (iv_nd (iv_nd (iv_em 1) (iv_nd (some 22) (iv_em 0))) (iv_em 2)) (iv_nd (iv_nd (iv_nd (some 68) (iv_em 0)) (iv_nd (iv_em 0) (some 62))) (iv_em 2)))) (iv_nd (iv_nd (iv_nd (iv_nd (iv_em 1) (iv_nd (some 69) (iv_em 0))) (iv_nd (iv_em 1) (iv_nd (some 66) (iv_em 0)))) (iv_em 3)) (iv_nd (iv_nd (iv_em 2) (iv_nd (iv_nd (iv_em 0) (some 70)) (iv_em 1))) (iv_nd (iv_nd (iv_nd (some 74) (iv_em 0)) (iv_em 1)) (iv_em 2)))))) (iv_nd (iv_nd (iv_nd (iv_nd (iv_nd (iv_em 2) (iv_nd (iv_nd (some 58) (iv_em 0)) (iv_em 1))) (iv_em 3)) (iv_em 4)) (iv_em 5)) (iv_em 6))) (iv_em 8)) (iv_em 9)))) (iv_nd (iv_nd (iv_nd (iv_nd (iv_nd (iv_nd (iv_nd (iv_nd (iv_em 4) (iv_nd (iv_nd (iv_nd (iv_nd (iv_em 0) (some 53)) (iv_em 1)) (iv_nd (iv_em 1) (iv_nd (some 54) (iv_em 0)))) (iv_em 3))) (iv_em 5)) (iv_em 6)) (iv_em 7)) (iv_em 8)) (iv_em 9)) (iv_nd (iv_nd (iv_nd (iv_nd (iv_nd (iv_em 5) (iv_nd (iv_nd (iv_em 3) (iv_nd (iv_em 2) (iv_nd (iv_nd (some 83) (iv_em 0)) (iv_em 1)))) (iv_nd (iv_nd (iv_nd (iv_nd (some 35) (iv_em 0)) (iv_em 1)) (iv_nd (iv_nd (some 37) (iv_em 0)) (iv_em 1))) (iv_em 3)))) (iv_em 6)) (iv_em 7)) (iv_em 8)) (iv_em 9))) (iv_nd (iv_nd (iv_nd (iv_nd (iv_nd (iv_nd (iv_em 5) (iv_nd (iv_nd (iv_nd (iv_nd (iv_nd (iv_em 0) (some 70)) (iv_em 1)) (iv_nd (iv_em 1) (iv_nd (some 74) (iv_em 0)))) (iv_nd (iv_em 2) (iv_nd (iv_nd (iv_em 0) (some 73)) (iv_em 1)))) (iv_em 4))) (iv_nd (iv_nd (iv_em 4) (iv_nd (iv_nd (iv_em 2) (iv_nd (iv_nd (some 234) (iv_em 0)) (iv_em 1))) (iv_em 3))) (iv_em 5))) (iv_em 7)) (iv_em 8)) (iv_em 9)) (iv_nd (iv_nd (iv_nd (iv_nd (iv_nd (iv_nd (iv_em 4) (iv_nd (iv_em 3) (iv_nd (iv_nd (iv_nd (some 234) (iv_em 0)) (iv_em 1)) (iv_em 2)))) (iv_nd (iv_em 4) (iv_nd (iv_em 3) (iv_nd (iv_em 2) (iv_nd (iv_nd (iv_em 0) (some 56)) (iv_em 1)))))) (iv_nd (iv_nd (iv_nd (iv_nd (iv_nd (iv_nd (iv_em 0) (some 58)) (iv_em 1)) (iv_nd (iv_nd (iv_em 0) (some 62)) (iv_em 1))) (iv_em 3)) (iv_em 4)) (iv_em 5))) (iv_em 7)) (iv_em 8)) (iv_em 9))))) (iv_nd (iv_nd (iv_nd (iv_nd (iv_nd (iv_nd (iv_nd (iv_nd (iv_em 5) (iv_nd (iv_nd (iv_nd (iv_em 2) (iv_nd (iv_nd (some 234) (iv_em 0)) (iv_em 1))) (iv_nd (iv_nd (iv_em 1) (iv_nd (some 72) (iv_em 0))) (iv_em 2))) (iv_nd (iv_nd (iv_em 2) (iv_nd (iv_nd (some 71) (iv_em 0)) (iv_em 1))) (iv_nd (iv_nd (iv_nd (some 73) (iv_em 0)) (iv_em 1)) (iv_em 2))))) (iv_em 6)) (iv_em 7)) (iv_em 8)) (iv_em 9)) (iv_em 10)) (iv_nd (iv_nd (iv_nd (iv_nd (iv_nd (iv_nd (iv_nd (iv_nd (iv_em 3) (iv_nd (iv_nd (iv_nd (iv_em 0) (some 53)) (iv_em 1)) (iv_nd (iv_nd (some 40) (iv_em 0)) (iv_em 1)))) (iv_nd (iv_nd (iv_em 2) (iv_nd (iv_nd (iv_em 0) (some 81)) (iv_em 1))) (iv_nd (iv_em 2) (iv_nd (iv_nd (some 30) (iv_em 0)) (iv_em 1))))) (iv_nd (iv_nd (iv_nd (iv_nd (iv_em 1) (iv_nd (iv_em 0) (some 33))) (iv_em 2)) (iv_nd (iv_nd (iv_em 1) (iv_nd (some 3) (iv_em 0))) (iv_em 2))) (iv_nd (iv_nd (iv_nd (iv_nd (iv_em 0) (some 9)) (iv_em 1)) (iv_em 2)) (iv_em 3)))) (iv_nd (iv_nd (iv_nd (iv_nd (iv_nd (iv_nd (some 18) (iv_em 0)) (iv_em 1)) (iv_nd (iv_em 1) (iv_nd (iv_em 0) (some 82)))) (iv_nd (iv_nd (iv_em 1) (iv_nd (iv_em 0) (some 56))) (iv_nd (iv_em 1) (iv_nd (iv_em 0) (some 34))))) (iv_nd (iv_nd (iv_nd (iv_em 1) (iv_nd (iv_em 0) (some 119))) (iv_em 2)) (iv_nd (iv_nd (iv_em 1) (iv_nd (some 58) (iv_em 0))) (iv_nd (iv_em 1) (iv_nd (some 114) (iv_em 0)))))) (iv_nd (iv_nd (iv_nd (iv_nd (iv_nd (iv_em 0) (some 4)) (iv_em 1)) (iv_em 2)) (iv_em 3)) (iv_nd (iv_nd (iv_nd (iv_nd (some 66) (iv_em 0)) (iv_em 1)) (iv_nd (iv_nd (some 116) (iv_em 0)) (iv_em 1))) (iv_em 3))))) (iv_nd (iv_nd (iv_nd (iv_nd (iv_nd (iv_nd (iv_nd (some 115) (iv_em 0)) (iv_nd (iv_em 0) (some 117))) (iv_em 2)) (iv_nd (iv_nd (iv_nd (iv_em 0) (some 121)) (iv_em 1)) (iv_em 2))) (iv_nd (iv_nd (iv_nd (iv_em 1) (iv_nd (some 57) (iv_em 0))) (iv_em 2)) (iv_em 3))) (iv_nd (iv_nd (iv_nd (iv_nd (iv_em 1) (iv_nd (iv_em 0) (some 120))) (iv_em 2)) (iv_nd (iv_nd (iv_em 1) (iv_nd (some 59) (iv_em 0))) (iv_em 2))) (iv_nd (iv_em 3) (iv_nd (iv_nd (iv_em 1) (iv_nd (iv_em 0) (some 20))) (iv_em 2))))) (iv_nd (iv_nd (iv_nd (iv_nd (iv_em 2) (iv_nd (iv_em 1) (iv_nd (iv_em 0) (some 118)))) (iv_em 3)) (iv_em 4)) (iv_em 5)))) (iv_nd (iv_nd (iv_nd (iv_nd (iv_em 4) (iv_nd (iv_nd (iv_nd (iv_nd (some 62) (iv_em 0)) (iv_em 1)) (iv_em 2)) (iv_em 3))) (iv_nd (iv_nd (iv_em 3) (iv_nd (iv_em 2) (iv_nd (iv_nd (some 63) (iv_em 0)) (iv_em 1)))) (iv_nd (iv_nd (iv_nd (iv_em 1) (iv_nd (some 126) (iv_em 0))) (iv_nd (iv_em 1) (iv_nd (some 31) (iv_em 0)))) (iv_em 3)))) (iv_nd (iv_nd (iv_nd (iv_nd (iv_nd (iv_em 1) (iv_nd (iv_em 0) (some 234))) (iv_em 2)) (iv_em 3)) (iv_em 4)) (iv_em 5))) (iv_em 7))) (iv_em 9)) (iv_nd (iv_nd (iv_nd (iv_nd (iv_em 6) (iv_nd (iv_em 5) (iv_nd (iv_nd (iv_em 3) (iv_nd (iv_em 2) (iv_nd (iv_em 1) (iv_nd (some 135) (iv_em 0))))) (iv_nd (iv_em 3) (iv_nd (iv_nd (iv_nd (some 138) (iv_em 0)) (iv_em 1)) (iv_em 2)))))) (iv_nd (iv_nd (iv_nd (iv_nd (iv_nd (iv_nd (iv_nd (some 130) (iv_em 0)) (iv_em 1)) (iv_em 2)) (iv_nd (iv_nd (iv_nd (some 137) (iv_em 0)) (iv_em 1)) (iv_nd (iv_nd (some 140) (iv_em 0)) (iv_em 1)))) (iv_nd (iv_nd (iv_nd (iv_nd (some 139) (iv_em 0)) (iv_em 1)) (iv_em 2)) (iv_nd (iv_em 2) (iv_nd (iv_em 1) (iv_nd (some 142) (iv_em 0)))))) (iv_nd (iv_nd (iv_nd (iv_nd (iv_em 1) (iv_nd (iv_em 0) (some 144))) (iv_nd (iv_em 1) (iv_nd (iv_em 0) (some 143)))) (iv_nd (iv_nd (iv_em 1) (iv_nd (some 132) (iv_em 0))) (iv_em 2))) (iv_nd (iv_em 3) (iv_nd (iv_nd (iv_em 1) (iv_nd (some 131) (iv_em 0))) (iv_nd (iv_em 1) (iv_nd (some 148) (iv_em 0))))))) (iv_nd (iv_nd (iv_nd (iv_nd (iv_nd (iv_nd (iv_em 0) (some 147)) (iv_em 1)) (iv_nd (iv_nd (some 151) (iv_em 0)) (iv_em 1))) (iv_nd (iv_nd (iv_em 1) (iv_nd (some 153) (iv_em 0))) (iv_em 2))) (iv_nd (iv_nd (iv_em 2) (iv_nd (iv_em 1) (iv_nd (some 160) (iv_em 0)))) (iv_em 3))) (iv_em 5)))) (iv_nd (iv_nd (iv_nd (iv_nd (iv_nd (iv_em 3) (iv_nd (iv_nd (iv_nd (some 155) (iv_em 0)) (iv_nd (iv_em 0) (some 154))) (iv_nd (iv_em 1) (iv_nd (some 175) (iv_em 0))))) (iv_nd (iv_nd (iv_nd (iv_nd (iv_em 0) (some 174)) (iv_em 1)) (iv_nd (iv_nd (some 159) (iv_em 0)) (iv_em 1))) (iv_nd (iv_em 2) (iv_nd (iv_nd (some 176) (iv_em 0)) (iv_nd (iv_em 0) (some 178)))))) (iv_nd (iv_nd (iv_nd (iv_nd (iv_em 1) (iv_nd (some 177) (iv_em 0))) (iv_em 2)) (iv_nd (iv_em 2) (iv_nd (iv_em 1) (iv_nd (iv_em 0) (some 150))))) (iv_em 4))) (iv_em 6)) (iv_nd (iv_nd (iv_em 5) (iv_nd (iv_nd (iv_em 3) (iv_nd (iv_nd (iv_nd (some 213) (iv_em 0)) (iv_em 1)) (iv_em 2))) (iv_em 4))) (iv_nd (iv_nd (iv_nd (iv_nd (iv_nd (iv_nd (iv_em 0) (some 224)) (iv_em 1)) (iv_nd (iv_nd (some 225) (iv_em 0)) (iv_em 1))) (iv_em 3)) (iv_em 4)) (iv_em 5))))) (iv_em 9)))) (iv_nd (iv_em 11) (iv_nd (iv_em 10) (iv_nd (iv_nd (iv_nd (iv_nd (iv_nd (iv_nd (iv_nd (iv_em 3) (iv_nd (iv_nd (iv_nd (iv_em 0) (some 84)) (iv_em 1)) (iv_nd (iv_nd (some 129) (some 85)) (iv_em 1)))) (iv_nd (iv_nd (iv_nd (iv_nd (iv_em 0) (some 134)) (iv_nd (some 86) (iv_em 0))) (iv_nd (iv_em 1) (iv_nd (some 136) (some 87)))) (iv_nd (iv_nd (iv_em 1) (iv_nd (some 145) (some 88))) (iv_nd (iv_em 1) (iv_nd (some 149) (some 89)))))) (iv_nd (iv_nd (iv_nd (iv_nd (iv_em 1) (iv_nd (iv_em 0) (some 214))) (iv_nd (iv_nd (some 90) (iv_em 0)) (iv_em 1))) (iv_nd (iv_nd (iv_nd (some 215) (some 91)) (iv_em 1)) (iv_nd (iv_nd (some 216) (some 92)) (iv_em 1)))) (iv_nd (iv_nd (iv_nd (iv_nd (some 212) (some 93)) (iv_em 1)) (iv_nd (iv_nd (iv_em 0) (some 217)) (iv_nd (some 94) (iv_em 0)))) (iv_nd (iv_nd (iv_nd (iv_em 0) (some 133)) (iv_nd (some 95) (iv_em 0))) (iv_nd (iv_nd (iv_em 0) (some 218)) (iv_nd (some 96) (iv_em 0))))))) (iv_nd (iv_nd (iv_nd (iv_nd (iv_nd (iv_nd (iv_em 0) (some 220)) (iv_nd (some 97) (iv_em 0))) (iv_nd (iv_nd (iv_em 0) (some 179)) (iv_nd (some 98) (iv_em 0)))) (iv_nd (iv_nd (iv_em 1) (iv_nd (some 195) (some 99))) (iv_nd (iv_em 1) (iv_nd (some 185) (some 100))))) (iv_nd (iv_nd (iv_nd (iv_em 1) (iv_nd (iv_em 0) (some 196))) (iv_nd (iv_nd (some 101) (iv_em 0)) (iv_nd (iv_em 0) (some 188)))) (iv_nd (iv_nd (iv_nd (some 102) (iv_em 0)) (iv_em 1)) (iv_nd (iv_nd (some 210) (some 103)) (iv_em 1))))) (iv_nd (iv_nd (iv_nd (iv_nd (iv_nd (some 189) (some 104)) (iv_em 1)) (iv_nd (iv_nd (some 192) (some 105)) (iv_em 1))) (iv_nd (iv_nd (iv_nd (some 193) (some 106)) (iv_em 1)) (iv_nd (iv_nd (iv_em 0) (some 199)) (iv_nd (some 107) (iv_em 0))))) (iv_nd (iv_nd (iv_nd (iv_nd (iv_em 0) (some 201)) (iv_nd (some 108) (iv_em 0))) (iv_nd (iv_nd (iv_em 0) (some 203)) (iv_nd (some 109) (iv_em 0)))) (iv_nd (iv_nd (iv_em 1) (iv_nd (some 204) (some 110))) (iv_nd (iv_em 1) (iv_nd (some 223) (some 111)))))))) (iv_nd (iv_nd (iv_nd (iv_nd (iv_nd (iv_nd (iv_em 1) (iv_nd (some 226) (some 112))) (iv_nd (iv_em 1) (iv_nd (some 227) (some 113)))) (iv_nd (iv_nd (iv_em 1) (iv_nd (some 228) (iv_em 0))) (iv_em 2))) (iv_em 4)) (iv_em 5)) (iv_em 6))) (iv_em 8)) (iv_em 9))))))
def iv_mt0 (k : Nat) : Option Nat := iv_tl 14 iv_mtT k
def iv_mt (f i : Nat) : Option Nat := bif Nat.ble 512 i then none else bif Nat.ble 16 f then none else iv_mt0 (1024 * f + i)
def iv_mpT : iv_Tr (Nat) 14 := (iv_nd (iv_nd (iv_nd (iv_nd (iv_em 10) (iv_nd (iv_nd (iv_nd (iv_nd (iv_nd (iv_nd (iv_nd (iv_em 3) (iv_nd (iv_em 2) (iv_nd (iv_em 1) (iv_nd (iv_em 0) (some 552))))) (iv_em 4)) (iv_nd (iv_nd (iv_nd (iv_em 2) (iv_nd (iv_nd (iv_em 0) (some 557)) (iv_em 1))) (iv_em 3)) (iv_em 4))) (iv_em 6)) (iv_em 7)) (iv_em 8)) (iv_em 9))) (iv_nd (iv_nd (iv_nd (iv_nd (iv_nd (iv_nd (iv_nd (iv_em 4) (iv_nd (iv_em 3) (iv_nd (iv_em 2) (iv_nd (iv_em 1) (iv_nd (some 611) (iv_em 0)))))) (iv_nd (iv_nd (iv_em 3) (iv_nd (iv_em 2) (iv_nd (iv_nd (some 612) (iv_em 0)) (iv_em 1)))) (iv_em 4))) (iv_nd (iv_nd (iv_nd (iv_nd (iv_nd (iv_nd (some 626) (iv_em 0)) (iv_em 1)) (iv_em 2)) (iv_em 3)) (iv_em 4)) (iv_em 5))) (iv_em 7)) (iv_em 8)) (iv_em 9)) (iv_nd (iv_nd (iv_nd (iv_nd (iv_nd (iv_nd (iv_em 4) (iv_nd (iv_nd (iv_em 2) (iv_nd (iv_nd (some 351) (iv_em 0)) (iv_em 1))) (iv_em 3))) (iv_nd (iv_em 4) (iv_nd (iv_nd (iv_nd (iv_nd (iv_em 0) (some 664)) (iv_em 1)) (iv_nd (iv_nd (some 668) (iv_em 0)) (iv_em 1))) (iv_em 3)))) (iv_nd (iv_nd (iv_em 4) (iv_nd (iv_nd (iv_nd (iv_em 1) (iv_nd (some 672) (iv_em 0))) (iv_em 2)) (iv_nd (iv_nd (iv_nd (some 676) (iv_em 0)) (iv_nd (iv_em 0) (some 681))) (iv_em 2)))) (iv_nd (iv_nd (iv_nd (iv_nd (iv_em 1) (iv_nd (some 682) (iv_em 0))) (iv_nd (iv_em 1) (iv_nd (some 686) (iv_em 0)))) (iv_em 3)) (iv_nd (iv_nd (iv_em 2) (iv_nd (iv_nd (iv_em 0) (some 687)) (iv_em 1))) (iv_nd (iv_nd (iv_nd (some 699) (iv_em 0)) (iv_em 1)) (iv_em 2)))))) (iv_nd (iv_nd (iv_nd (iv_nd (iv_nd (iv_em 2) (iv_nd (iv_nd (some 716) (iv_em 0)) (iv_em 1))) (iv_em 3)) (iv_em 4)) (iv_em 5)) (iv_em 6))) (iv_em 8)) (iv_em 9)))) (iv_nd (iv_nd (iv_nd (iv_nd (iv_nd (iv_nd (iv_nd (iv_nd (iv_em 4) (iv_nd (iv_nd (iv_nd (iv_nd (iv_em 0) (some 240)) (iv_em 1)) (iv_nd (iv_em 1) (iv_nd (some 519) (iv_em 0)))) (iv_em 3))) (iv_em 5)) (iv_em 6)) (iv_em 7)) (iv_em 8)) (iv_em 9)) (iv_nd (iv_nd (iv_nd (iv_nd (iv_nd (iv_em 5) (iv_nd (iv_nd (iv_em 3) (iv_nd (iv_em 2) (iv_nd (iv_nd (some 488) (iv_em 0)) (iv_em 1)))) (iv_nd (iv_nd (iv_nd (iv_nd (some 492) (iv_em 0)) (iv_em 1)) (iv_nd (iv_nd (some 495) (iv_em 0)) (iv_em 1))) (iv_em 3)))) (iv_em 6)) (iv_em 7)) (iv_em 8)) (iv_em 9))) (iv_nd (iv_nd (iv_nd (iv_nd (iv_nd (iv_nd (iv_em 5) (iv_nd (iv_nd (iv_nd (iv_nd (iv_nd (iv_em 0) (some 726)) (iv_em 1)) (iv_nd (iv_em 1) (iv_nd (some 727) (iv_em 0)))) (iv_nd (iv_em 2) (iv_nd (iv_nd (iv_em 0) (some 743)) (iv_em 1)))) (iv_em 4))) (iv_nd (iv_nd (iv_em 4) (iv_nd (iv_nd (iv_em 2) (iv_nd (iv_nd (some 752) (iv_em 0)) (iv_em 1))) (iv_em 3))) (iv_em 5))) (iv_em 7)) (iv_em 8)) (iv_em 9)) (iv_nd (iv_nd (iv_nd (iv_nd (iv_nd (iv_nd (iv_em 4) (iv_nd (iv_em 3) (iv_nd (iv_nd (iv_nd (some 136) (iv_em 0)) (iv_em 1)) (iv_em 2)))) (iv_nd (iv_em 4) (iv_nd (iv_em 3) (iv_nd (iv_em 2) (iv_nd (iv_nd (iv_em 0) (some 616)) (iv_em 1)))))) (iv_nd (iv_nd (iv_nd (iv_nd (iv_nd (iv_nd (iv_em 0) (some 617)) (iv_em 1)) (iv_nd (iv_nd (iv_em 0) (some 974)) (iv_em 1))) (iv_em 3)) (iv_em 4)) (iv_em 5))) (iv_em 7)) (iv_em 8)) (iv_em 9))))) (iv_nd (iv_nd (iv_nd (iv_nd (iv_nd (iv_nd (iv_nd (iv_nd (iv_em 5) (iv_nd (iv_nd (iv_nd (iv_em 2) (iv_nd (iv_nd (some 680) (iv_em 0)) (iv_em 1))) (iv_nd (iv_nd (iv_em 1) (iv_nd (some 691) (iv_em 0))) (iv_em 2))) (iv_nd (iv_nd (iv_em 2) (iv_nd (iv_nd (some 695) (iv_em 0)) (iv_em 1))) (iv_nd (iv_nd (iv_nd (some 703) (iv_em 0)) (iv_em 1)) (iv_em 2))))) (iv_em 6)) (iv_em 7)) (iv_em 8)) (iv_em 9)) (iv_em 10)) (iv_nd (iv_nd (iv_nd (iv_nd (iv_nd (iv_nd (iv_nd (iv_nd (iv_em 3) (iv_nd (iv_nd (iv_nd (iv_em 0) (some 132)) (iv_em 1)) (iv_nd (iv_nd (some 187) (iv_em 0)) (iv_em 1)))) (iv_nd (iv_nd (iv_em 2) (iv_nd (iv_nd (iv_em 0) (some 218)) (iv_em 1))) (iv_nd (iv_em 2) (iv_nd (iv_nd (some 234) (iv_em 0)) (iv_em 1))))) (iv_nd (iv_nd (iv_nd (iv_nd (iv_em 1) (iv_nd (iv_em 0) (some 254))) (iv_em 2)) (iv_nd (iv_nd (iv_em 1) (iv_nd (some 285) (iv_em 0))) (iv_em 2))) (iv_nd (iv_nd (iv_nd (iv_nd (iv_em 0) (some 302)) (iv_em 1)) (iv_em 2)) (iv_em 3)))) (iv_nd (iv_nd (iv_nd (iv_nd (iv_nd (iv_nd (some 345) (iv_em 0)) (iv_em 1)) (iv_nd (iv_em 1) (iv_nd (iv_em 0) (some 468)))) (iv_nd (iv_nd (iv_em 1) (iv_nd (iv_em 0) (some 480))) (iv_nd (iv_em 1) (iv_nd (iv_em 0) (some 484))))) (iv_nd (iv_nd (iv_nd (iv_em 1) (iv_nd (iv_em 0) (some 511))) (iv_em 2)) (iv_nd (iv_nd (iv_em 1) (iv_nd (some 537) (iv_em 0))) (iv_nd (iv_em 1) (iv_nd (some 545) (iv_em 0)))))) (iv_nd (iv_nd (iv_nd (iv_nd (iv_nd (iv_em 0) (some 548)) (iv_em 1)) (iv_em 2)) (iv_em 3)) (iv_nd (iv_nd (iv_nd (iv_nd (some 570) (iv_em 0)) (iv_em 1)) (iv_nd (iv_nd (some 578) (iv_em 0)) (iv_em 1))) (iv_em 3))))) (iv_nd (iv_nd (iv_nd (iv_nd (iv_nd (iv_nd (iv_nd (some 589) (iv_em 0)) (iv_nd (iv_em 0) (some 592))) (iv_em 2)) (iv_nd (iv_nd (iv_nd (iv_em 0) (some 599)) (iv_em 1)) (iv_em 2))) (iv_nd (iv_nd (iv_nd (iv_em 1) (iv_nd (some 603) (iv_em 0))) (iv_em 2)) (iv_em 3))) (iv_nd (iv_nd (iv_nd (iv_nd (iv_em 1) (iv_nd (iv_em 0) (some 529))) (iv_em 2)) (iv_nd (iv_nd (iv_em 1) (iv_nd (some 830) (iv_em 0))) (iv_em 2))) (iv_nd (iv_em 3) (iv_nd (iv_nd (iv_em 1) (iv_nd (iv_em 0) (some 852))) (iv_em 2))))) (iv_nd (iv_nd (iv_nd (iv_nd (iv_em 2) (iv_nd (iv_em 1) (iv_nd (iv_em 0) (some 857)))) (iv_em 3)) (iv_em 4)) (iv_em 5)))) (iv_nd (iv_nd (iv_nd (iv_nd (iv_em 4) (iv_nd (iv_nd (iv_nd (iv_nd (some 923) (iv_em 0)) (iv_em 1)) (iv_em 2)) (iv_em 3))) (iv_nd (iv_nd (iv_em 3) (iv_nd (iv_em 2) (iv_nd (iv_nd (some 970) (iv_em 0)) (iv_em 1)))) (iv_nd (iv_nd (iv_nd (iv_em 1) (iv_nd (some 975) (iv_em 0))) (iv_nd (iv_em 1) (iv_nd (some 515) (iv_em 0)))) (iv_em 3)))) (iv_nd (iv_nd (iv_nd (iv_nd (iv_nd (iv_em 1) (iv_nd (iv_em 0) (some 843))) (iv_em 2)) (iv_em 3)) (iv_em 4)) (iv_em 5))) (iv_em 7))) (iv_em 9)) (iv_nd (iv_nd (iv_nd (iv_nd (iv_em 6) (iv_nd (iv_em 5) (iv_nd (iv_nd (iv_em 3) (iv_nd (iv_em 2) (iv_nd (iv_em 1) (iv_nd (some 1146) (iv_em 0))))) (iv_nd (iv_em 3) (iv_nd (iv_nd (iv_nd (some 1189) (iv_em 0)) (iv_em 1)) (iv_em 2)))))) (iv_nd (iv_nd (iv_nd (iv_nd (iv_nd (iv_nd (iv_nd (some 1159) (iv_em 0)) (iv_em 1)) (iv_em 2)) (iv_nd (iv_nd (iv_nd (some 1174) (iv_em 0)) (iv_em 1)) (iv_nd (iv_nd (some 1178) (iv_em 0)) (iv_em 1)))) (iv_nd (iv_nd (iv_nd (iv_nd (some 1185) (iv_em 0)) (iv_em 1)) (iv_em 2)) (iv_nd (iv_em 2) (iv_nd (iv_em 1) (iv_nd (some 1170) (iv_em 0)))))) (iv_nd (iv_nd (iv_nd (iv_nd (iv_em 1) (iv_nd (iv_em 0) (some 1162))) (iv_nd (iv_em 1) (iv_nd (iv_em 0) (some 1166)))) (iv_nd (iv_nd (iv_em 1) (iv_nd (some 1196) (iv_em 0))) (iv_em 2))) (iv_nd (iv_em 3) (iv_nd (iv_nd (iv_em 1) (iv_nd (some 1217) (iv_em 0))) (iv_nd (iv_em 1) (iv_nd (some 1204) (iv_em 0))))))) (iv_nd (iv_nd (iv_nd (iv_nd (iv_nd (iv_nd (iv_em 0) (some 1207)) (iv_em 1)) (iv_nd (iv_nd (some 1237) (iv_em 0)) (iv_em 1))) (iv_nd (iv_nd (iv_em 1) (iv_nd (some 1233) (iv_em 0))) (iv_em 2))) (iv_nd (iv_nd (iv_em 2) (iv_nd (iv_em 1) (iv_nd (some 1273) (iv_em 0)))) (iv_em 3))) (iv_em 5)))) (iv_nd (iv_nd (iv_nd (iv_nd (iv_nd (iv_em 3) (iv_nd (iv_nd (iv_nd (some 1229) (iv_em 0)) (iv_nd (iv_em 0) (some 1253))) (iv_nd (iv_em 1) (iv_nd (some 1249) (iv_em 0))))) (iv_nd (iv_nd (iv_nd (iv_nd (iv_em 0) (some 1225)) (iv_em 1)) (iv_nd (iv_nd (some 1265) (iv_em 0)) (iv_em 1))) (iv_nd (iv_em 2) (iv_nd (iv_nd (some 1245) (iv_em 0)) (iv_nd (iv_em 0) (some 1257)))))) (iv_nd (iv_nd (iv_nd (iv_nd (iv_em 1) (iv_nd (some 1261) (iv_em 0))) (iv_em 2)) (iv_nd (iv_em 2) (iv_nd (iv_em 1) (iv_nd (iv_em 0) (some 1292))))) (iv_em 4))) (iv_em 6)) (iv_nd (iv_nd (iv_em 5) (iv_nd (iv_nd (iv_em 3) (iv_nd (iv_nd (iv_nd (some 1532) (iv_em 0)) (iv_em 1)) (iv_em 2))) (iv_em 4))) (iv_nd (iv_nd (iv_nd (iv_nd (iv_nd (iv_nd (iv_em 0) (some 1582)) (iv_em 1)) (iv_nd (iv_nd (some 1586) (iv_em 0)) (iv_em 1))) (iv_em 3)) (iv_em 4)) (iv_em 5))))) (iv_em 9)))) (iv_nd (iv_em 11) (iv_nd (iv_em 10) (iv_nd (iv_nd (iv_nd (iv_nd (iv_nd (iv_nd (iv_nd (iv_em 3) (iv_nd (iv_nd (iv_nd (iv_em 0) (some 124)) (iv_em 1)) (iv_nd (iv_nd (some 989) (some 464)) (iv_em 1)))) (iv_nd (iv_nd (iv_nd (iv_nd (iv_em 0) (some 1142)) (iv_nd (some 472) (iv_em 0))) (iv_nd (iv_em 1) (iv_nd (some 1150) (some 476)))) (iv_nd (iv_nd (iv_em 1) (iv_nd (some 1154) (some 541))) (iv_nd (iv_em 1) (iv_nd (some 1200) (some 574)))))) (iv_nd (iv_nd (iv_nd (iv_nd (iv_em 1) (iv_nd (iv_em 0) (some 1527))) (iv_nd (iv_nd (some 581) (iv_em 0)) (iv_em 1))) (iv_nd (iv_nd (iv_nd (some 1537) (some 585)) (iv_em 1)) (iv_nd (iv_nd (some 1541) (some 595)) (iv_em 1)))) (iv_nd (iv_nd (iv_nd (iv_nd (some 1515) (some 656)) (iv_em 1)) (iv_nd (iv_nd (iv_em 0) (some 1545)) (iv_nd (some 818) (iv_em 0)))) (iv_nd (iv_nd (iv_nd (iv_em 0) (some 1138)) (iv_nd (some 826) (iv_em 0))) (iv_nd (iv_nd (iv_em 0) (some 1549)) (iv_nd (some 835) (iv_em 0))))))) (iv_nd (iv_nd (iv_nd (iv_nd (iv_nd (iv_nd (iv_em 0) (some 1553)) (iv_nd (some 848) (iv_em 0))) (iv_nd (iv_nd (iv_em 0) (some 1220)) (iv_nd (some 853) (iv_em 0)))) (iv_nd (iv_nd (iv_em 1) (iv_nd (some 1400) (some 866))) (iv_nd (iv_em 1) (iv_nd (some 1288) (some 870))))) (iv_nd (iv_nd (iv_nd (iv_em 1) (iv_nd (iv_em 0) (some 1407))) (iv_nd (iv_nd (some 880) (iv_em 0)) (iv_nd (iv_em 0) (some 1366)))) (iv_nd (iv_nd (iv_nd (some 884) (iv_em 0)) (iv_em 1)) (iv_nd (iv_nd (some 1494) (some 890)) (iv_em 1))))) (iv_nd (iv_nd (iv_nd (iv_nd (iv_nd (some 1379) (some 894)) (iv_em 1)) (iv_nd (iv_nd (some 1387) (some 898)) (iv_em 1))) (iv_nd (iv_nd (iv_nd (some 1395) (some 905)) (iv_em 1)) (iv_nd (iv_nd (iv_em 0) (some 1411)) (iv_nd (some 911) (iv_em 0))))) (iv_nd (iv_nd (iv_nd (iv_nd (iv_em 0) (some 1423)) (iv_nd (some 918) (iv_em 0))) (iv_nd (iv_nd (iv_em 0) (some 1431)) (iv_nd (some 935) (iv_em 0)))) (iv_nd (iv_nd (iv_em 1) (iv_nd (some 1485) (some 944))) (iv_nd (iv_em 1) (iv_nd (some 1561) (some 966)))))))) (iv_nd (iv_nd (iv_nd (iv_nd (iv_nd (iv_nd (iv_em 1) (iv_nd (some 1578) (some 979))) (iv_nd (iv_em 1) (iv_nd (some 1590) (some 983)))) (iv_nd (iv_nd (iv_em 1) (iv_nd (some 1594) (iv_em 0))) (iv_em 2))) (iv_em 4)) (iv_em 5)) (iv_em 6))) (iv_em 8)) (iv_em 9))))))
def iv_mp0 (k : Nat) : Option Nat := iv_tl 14 iv_mpT k
def iv_mp (f i : Nat) : Option Nat := bif Nat.ble 512 i then none else bif Nat.ble 16 f then none else iv_mp0 (1024 * f + i)
def iv_nnT : iv_Tr (String) 14 := (iv_nd (iv_nd (iv_nd (iv_em 11) (iv_nd (iv_em 10) (iv_nd (iv_nd (iv_nd (iv_nd (iv_nd (iv_nd (iv_em 4) (iv_nd (iv_nd (iv_em 2) (iv_nd (iv_nd (some "ZoneShares") (iv_em 0)) (iv_em 1))) (iv_em 3))) (iv_em 5)) (iv_em 6)) (iv_em 7)) (iv_em 8)) (iv_em 9)))) (iv_em 12)) (iv_nd (iv_nd (iv_em 11) (iv_nd (iv_nd (iv_nd (iv_nd (iv_nd (iv_nd (iv_nd (iv_nd (iv_em 3) (iv_nd (iv_em 2) (iv_nd (iv_nd (some "ZoneShares") (iv_em 0)) (iv_em 1)))) (iv_nd (iv_nd (iv_em 2) (iv_nd (iv_nd (iv_em 0) (some "ZoneShares")) (iv_em 1))) (iv_em 3))) (iv_nd (iv_nd (iv_nd (iv_nd (iv_em 1) (iv_nd (iv_em 0) (some "ZoneShares"))) (iv_em 2)) (iv_nd (iv_nd (iv_em 1) (iv_nd (some "ZoneShares") (iv_em 0))) (iv_em 2))) (iv_nd (iv_nd (iv_nd (iv_nd (iv_em 0) (some "ZoneShares")) (iv_em 1)) (iv_em 2)) (iv_em 3)))) (iv_em 6)) (iv_em 7)) (iv_em 8)) (iv_em 9)) (iv_em 10))) (iv_em 12)))
def iv_nn0 (k : Nat) : Option String := iv_tl 14 iv_nnT k
def iv_nn (f i : Nat) : Option String := bif Nat.ble 512 i then none else bif Nat.ble 16 f then none else iv_nn0 (1024 * f + i)
def iv_lcT : iv_Tr (Int32) 14 := (iv_nd (iv_em 13) (iv_nd (iv_em 12) (iv_nd (iv_em 11) (iv_nd (iv_nd (iv_nd (iv_em 8) (iv_nd (iv_nd (iv_nd (iv_nd (iv_nd (iv_em 3) (iv_nd (iv_nd (iv_nd (some (65536 : Int32)) (some (1431655765 : Int32))) (iv_nd (some (858993459 : Int32)) (some (252645135 : Int32)))) (iv_em 2))) (iv_em 4)) (iv_em 5)) (iv_em 6)) (iv_em 7))) (iv_em 9)) (iv_em 10)))))
def iv_lc0 (k : Nat) : Option Int32 := iv_tl 14 iv_lcT k
def iv_lc (f i : Nat) : Option Int32 := bif Nat.ble 512 i then none else bif Nat.ble 16 f then none else iv_lc0 (1024 * f + i)
def iv_lpT : iv_Tr (Nat) 14 := (iv_nd (iv_em 13) (iv_nd (iv_em 12) (iv_nd (iv_em 11) (iv_nd (iv_nd (iv_nd (iv_em 8) (iv_nd (iv_nd (iv_nd (iv_nd (iv_nd (iv_em 3) (iv_nd (iv_nd (iv_nd (some 1577) (some 963)) (iv_nd (some 964) (some 965))) (iv_em 2))) (iv_em 4)) (iv_em 5)) (iv_em 6)) (iv_em 7))) (iv_em 9)) (iv_em 10)))))
def iv_lp0 (k : Nat) : Option Nat := iv_tl 14 iv_lpT k
def iv_lp (f i : Nat) : Option Nat := bif Nat.ble 512 i then none else bif Nat.ble 16 f then none else iv_lp0 (1024 * f + i)
def iv_l2T : iv_Tr (Int64) 14 := (iv_nd (iv_em 13) (iv_nd (iv_nd (iv_em 11) (iv_nd (iv_nd (iv_nd (iv_nd (iv_em 7) (iv_nd (iv_em 6) (iv_nd (iv_nd (iv_em 4) (iv_nd (iv_em 3) (iv_nd (iv_em 2) (iv_nd (iv_nd (iv_em 0) (some (-1 : Int64))) (iv_em 1))))) (iv_em 5)))) (iv_nd (iv_nd (iv_nd (iv_nd (iv_nd (iv_em 3) (iv_nd (iv_em 2) (iv_nd (iv_em 1) (iv_nd (some (-9223372036854775808 : Int64)) (iv_em 0))))) (iv_em 4)) (iv_em 5)) (iv_em 6)) (iv_em 7))) (iv_em 9)) (iv_nd (iv_nd (iv_nd (iv_nd (iv_em 6) (iv_nd (iv_em 5) (iv_nd (iv_em 4) (iv_nd (iv_em 3) (iv_nd (iv_em 2) (iv_nd (iv_nd (some (48 : Int64)) (iv_em 0)) (iv_nd (some (51 : Int64)) (iv_em 0)))))))) (iv_nd (iv_nd (iv_nd (iv_nd (iv_nd (iv_em 2) (iv_nd (iv_nd (some (97 : Int64)) (iv_em 0)) (iv_nd (some (104 : Int64)) (iv_em 0)))) (iv_em 3)) (iv_em 4)) (iv_nd (iv_nd (iv_nd (iv_nd (iv_nd (iv_em 0) (some (2 : Int64))) (iv_em 1)) (iv_em 2)) (iv_em 3)) (iv_nd (iv_nd (iv_nd (iv_nd (some (57 : Int64)) (iv_em 0)) (iv_em 1)) (iv_em 2)) (iv_em 3)))) (iv_em 6))) (iv_nd (iv_nd (iv_nd (iv_nd (iv_em 4) (iv_nd (iv_em 3) (iv_nd (iv_nd (iv_em 1) (iv_nd (some (10 : Int64)) (iv_em 0))) (iv_em 2)))) (iv_nd (iv_em 4) (iv_nd (iv_nd (iv_nd (iv_em 1) (iv_nd (some (-1 : Int64)) (iv_em 0))) (iv_nd (iv_nd (some (7 : Int64)) (iv_em 0)) (iv_nd (some (8 : Int64)) (iv_em 0)))) (iv_em 3)))) (iv_nd (iv_nd (iv_nd (iv_nd (iv_em 2) (iv_nd (iv_em 1) (iv_nd (iv_em 0) (some (3 : Int64))))) (iv_em 3)) (iv_em 4)) (iv_nd (iv_nd (iv_nd (iv_em 2) (iv_nd (iv_nd (iv_em 0) (some (-9223372036854775808 : Int64))) (iv_em 1))) (iv_em 3)) (iv_em 4)))) (iv_nd (iv_nd (iv_em 5) (iv_nd (iv_nd (iv_nd (iv_em 2) (iv_nd (iv_em 1) (iv_nd (some (9 : Int64)) (iv_em 0)))) (iv_em 3)) (iv_em 4))) (iv_em 6)))) (iv_em 9)))) (iv_nd (iv_nd (iv_em 10) (iv_nd (iv_nd (iv_nd (iv_nd (iv_em 6) (iv_nd (iv_nd (iv_em 4) (iv_nd (iv_nd (iv_em 2) (iv_nd (iv_em 1) (iv_nd (iv_em 0) (some (9218868437227405312 : Int64))))) (iv_em 3))) (iv_em 5))) (iv_nd (iv_nd (iv_nd (iv_nd (iv_nd (iv_em 2) (iv_nd (iv_em 1) (iv_nd (iv_em 0) (some (9223372036854775807 : Int64))))) (iv_em 3)) (iv_em 4)) (iv_em 5)) (iv_em 6))) (iv_nd (iv_nd (iv_em 6) (iv_nd (iv_nd (iv_nd (iv_nd (iv_nd (iv_em 1) (iv_nd (some (1023 : Int64)) (iv_em 0))) (iv_em 2)) (iv_em 3)) (iv_em 4)) (iv_em 5))) (iv_em 7))) (iv_em 9))) (iv_em 11))))
def iv_l20 (k : Nat) : Option Int64 := iv_tl 14 iv_l2T k
def iv_l2 (f i : Nat) : Option Int64 := bif Nat.ble 512 i then none else bif Nat.ble 16 f then none else iv_l20 (1024 * f + i)
def iv_l2pT : iv_Tr (Nat) 14 := (iv_nd (iv_em 13) (iv_nd (iv_nd (iv_em 11) (iv_nd (iv_nd (iv_nd (iv_nd (iv_em 7) (iv_nd (iv_em 6) (iv_nd (iv_nd (iv_em 4) (iv_nd (iv_em 3) (iv_nd (iv_em 2) (iv_nd (iv_nd (iv_em 0) (some 865)) (iv_em 1))))) (iv_em 5)))) (iv_nd (iv_nd (iv_nd (iv_nd (iv_nd (iv_em 3) (iv_nd (iv_em 2) (iv_nd (iv_em 1) (iv_nd (some 922) (iv_em 0))))) (iv_em 4)) (iv_em 5)) (iv_em 6)) (iv_em 7))) (iv_em 9)) (iv_nd (iv_nd (iv_nd (iv_nd (iv_em 6) (iv_nd (iv_em 5) (iv_nd (iv_em 4) (iv_nd (iv_em 3) (iv_nd (iv_em 2) (iv_nd (iv_nd (some 1181) (iv_em 0)) (iv_nd (some 1182) (iv_em 0)))))))) (iv_nd (iv_nd (iv_nd (iv_nd (iv_nd (iv_em 2) (iv_nd (iv_nd (some 1183) (iv_em 0)) (iv_nd (some 1184) (iv_em 0)))) (iv_em 3)) (iv_em 4)) (iv_nd (iv_nd (iv_nd (iv_nd (iv_nd (iv_em 0) (some 1158)) (iv_em 1)) (iv_em 2)) (iv_em 3)) (iv_nd (iv_nd (iv_nd (iv_nd (some 1215) (iv_em 0)) (iv_em 1)) (iv_em 2)) (iv_em 3)))) (iv_em 6))) (iv_nd (iv_nd (iv_nd (iv_nd (iv_em 4) (iv_nd (iv_em 3) (iv_nd (iv_nd (iv_em 1) (iv_nd (some 1224) (iv_em 0))) (iv_em 2)))) (iv_nd (iv_em 4) (iv_nd (iv_nd (iv_nd (iv_em 1) (iv_nd (some 1296) (iv_em 0))) (iv_nd (iv_nd (some 1297) (iv_em 0)) (iv_nd (some 1298) (iv_em 0)))) (iv_em 3)))) (iv_nd (iv_nd (iv_nd (iv_nd (iv_em 2) (iv_nd (iv_em 1) (iv_nd (iv_em 0) (some 1370)))) (iv_em 3)) (iv_em 4)) (iv_nd (iv_nd (iv_nd (iv_em 2) (iv_nd (iv_nd (iv_em 0) (some 1435)) (iv_em 1))) (iv_em 3)) (iv_em 4)))) (iv_nd (iv_nd (iv_em 5) (iv_nd (iv_nd (iv_nd (iv_em 2) (iv_nd (iv_em 1) (iv_nd (some 1531) (iv_em 0)))) (iv_em 3)) (iv_em 4))) (iv_em 6)))) (iv_em 9)))) (iv_nd (iv_nd (iv_em 10) (iv_nd (iv_nd (iv_nd (iv_nd (iv_em 6) (iv_nd (iv_nd (iv_em 4) (iv_nd (iv_nd (iv_em 2) (iv_nd (iv_em 1) (iv_nd (iv_em 0) (some 1475)))) (iv_em 3))) (iv_em 5))) (iv_nd (iv_nd (iv_nd (iv_nd (iv_nd (iv_em 2) (iv_nd (iv_em 1) (iv_nd (iv_em 0) (some 1492)))) (iv_em 3)) (iv_em 4)) (iv_em 5)) (iv_em 6))) (iv_nd (iv_nd (iv_em 6) (iv_nd (iv_nd (iv_nd (iv_nd (iv_nd (iv_em 1) (iv_nd (some 1476) (iv_em 0))) (iv_em 2)) (iv_em 3)) (iv_em 4)) (iv_em 5))) (iv_em 7))) (iv_em 9))) (iv_em 11))))
def iv_l2p0 (k : Nat) : Option Nat := iv_tl 14 iv_l2pT k
def iv_l2p (f i : Nat) : Option Nat := bif Nat.ble 512 i then none else bif Nat.ble 16 f then none else iv_l2p0 (1024 * f + i)
def iv_ojT : iv_Tr (Unit) 14 := (iv_nd (iv_nd (iv_nd (iv_nd (iv_em 10) (iv_nd (iv_nd (iv_nd (iv_nd (iv_nd (iv_nd (iv_nd (iv_nd (iv_nd (iv_em 1) (iv_nd (iv_em 0) (some ()))) (iv_em 2)) (iv_em 3)) (iv_em 4)) (iv_em 5)) (iv_em 6)) (iv_em 7)) (iv_em 8)) (iv_em 9))) (iv_nd (iv_nd (iv_nd (iv_nd (iv_nd (iv_nd (iv_nd (iv_nd (iv_nd (iv_nd (iv_em 1) (iv_nd (iv_em 0) (some ()))) (iv_em 2)) (iv_em 3)) (iv_em 4)) (iv_em 5)) (iv_em 6)) (iv_em 7)) (iv_em 8)) (iv_em 9)) (iv_nd (iv_nd (iv_nd (iv_nd (iv_nd (iv_nd (iv_nd (iv_nd (iv_nd (iv_em 1) (iv_nd (iv_em 0) (some ()))) (iv_em 2)) (iv_em 3)) (iv_em 4)) (iv_em 5)) (iv_em 6)) (iv_em 7)) (iv_em 8)) (iv_em 9)))) (iv_nd (iv_nd (iv_nd (iv_nd (iv_nd (iv_nd (iv_nd (iv_nd (iv_nd (iv_nd (iv_nd (iv_em 1) (iv_nd (iv_em 0) (some ()))) (iv_em 2)) (iv_em 3)) (iv_em 4)) (iv_em 5)) (iv_em 6)) (iv_em 7)) (iv_em 8)) (iv_em 9)) (iv_nd (iv_nd (iv_nd (iv_nd (iv_nd (iv_nd (iv_nd (iv_nd (iv_nd (iv_em 1) (iv_nd (iv_em 0) (some ()))) (iv_em 2)) (iv_em 3)) (iv_em 4)) (iv_em 5)) (iv_em 6)) (iv_em 7)) (iv_em 8)) (iv_em 9))) (iv_nd (iv_nd (iv_nd (iv_nd (iv_nd (iv_nd (iv_nd (iv_nd (iv_nd (iv_em 2) (iv_nd (iv_nd (iv_em 0) (some ())) (iv_em 1))) (iv_em 3)) (iv_em 4)) (iv_em 5)) (iv_em 6)) (iv_em 7)) (iv_em 8)) (iv_em 9)) (iv_nd (iv_nd (iv_nd (iv_nd (iv_nd (iv_nd (iv_nd (iv_nd (iv_nd (iv_em 1) (iv_nd (iv_em 0) (some ()))) (iv_em 2)) (iv_em 3)) (iv_em 4)) (iv_em 5)) (iv_em 6)) (iv_em 7)) (iv_em 8)) (iv_em 9))))) (iv_nd (iv_nd (iv_nd (iv_nd (iv_nd (iv_nd (iv_nd (iv_nd (iv_nd (iv_nd (iv_nd (iv_nd (iv_em 1) (iv_nd (iv_em 0) (some ()))) (iv_em 2)) (iv_em 3)) (iv_em 4)) (iv_em 5)) (iv_em 6)) (iv_em 7)) (iv_em 8)) (iv_em 9)) (iv_nd (iv_nd (iv_nd (iv_nd (iv_nd (iv_nd (iv_nd (iv_nd (iv_nd (iv_em 1) (iv_nd (iv_em 0) (some ()))) (iv_em 2)) (iv_em 3)) (iv_em 4)) (iv_em 5)) (iv_em 6)) (iv_em 7)) (iv_em 8)) (iv_em 9))) (iv_nd (iv_nd (iv_nd (iv_nd (iv_nd (iv_nd (iv_nd (iv_nd (iv_nd (iv_nd (iv_nd (iv_em 0) (some ())) (iv_em 1)) (iv_em 2)) (iv_em 3)) (iv_em 4)) (iv_em 5)) (iv_em 6)) (iv_em 7)) (iv_em 8)) (iv_em 9)) (iv_nd (iv_nd (iv_nd (iv_nd (iv_nd (iv_nd (iv_nd (iv_nd (iv_nd (iv_em 1) (iv_nd (iv_em 0) (some ()))) (iv_em 2)) (iv_em 3)) (iv_em 4)) (iv_em 5)) (iv_em 6)) (iv_em 7)) (iv_em 8)) (iv_em 9)))) (iv_em 12)))
def iv_oj0 (k : Nat) : Option Unit := iv_tl 14 iv_ojT k
def iv_oj (f i : Nat) : Option Unit := bif Nat.ble 512 i then none else bif Nat.ble 16 f then none else iv_oj0 (1024 * f + i)
def iv_op_T : iv_Tr (Nat) 14 := (iv_nd (iv_nd (iv_nd (iv_nd (iv_em 10) (iv_nd (iv_nd (iv_nd (iv_nd (iv_nd (iv_nd (iv_nd (iv_nd (iv_nd (iv_em 1) (iv_nd (iv_em 0) (some 288))) (iv_em 2)) (iv_em 3)) (iv_em 4)) (iv_em 5)) (iv_em 6)) (iv_em 7)) (iv_em 8)) (iv_em 9))) (iv_nd (iv_nd (iv_nd (iv_nd (iv_nd (iv_nd (iv_nd (iv_nd (iv_nd (iv_nd (iv_em 1) (iv_nd (iv_em 0) (some 305))) (iv_em 2)) (iv_em 3)) (iv_em 4)) (iv_em 5)) (iv_em 6)) (iv_em 7)) (iv_em 8)) (iv_em 9)) (iv_nd (iv_nd (iv_nd (iv_nd (iv_nd (iv_nd (iv_nd (iv_nd (iv_nd (iv_em 1) (iv_nd (iv_em 0) (some 348))) (iv_em 2)) (iv_em 3)) (iv_em 4)) (iv_em 5)) (iv_em 6)) (iv_em 7)) (iv_em 8)) (iv_em 9)))) (iv_nd (iv_nd (iv_nd (iv_nd (iv_nd (iv_nd (iv_nd (iv_nd (iv_nd (iv_nd (iv_nd (iv_em 1) (iv_nd (iv_em 0) (some 237))) (iv_em 2)) (iv_em 3)) (iv_em 4)) (iv_em 5)) (iv_em 6)) (iv_em 7)) (iv_em 8)) (iv_em 9)) (iv_nd (iv_nd (iv_nd (iv_nd (iv_nd (iv_nd (iv_nd (iv_nd (iv_nd (iv_em 1) (iv_nd (iv_em 0) (some 257))) (iv_em 2)) (iv_em 3)) (iv_em 4)) (iv_em 5)) (iv_em 6)) (iv_em 7)) (iv_em 8)) (iv_em 9))) (iv_nd (iv_nd (iv_nd (iv_nd (iv_nd (iv_nd (iv_nd (iv_nd (iv_nd (iv_em 2) (iv_nd (iv_nd (iv_em 0) (some 190)) (iv_em 1))) (iv_em 3)) (iv_em 4)) (iv_em 5)) (iv_em 6)) (iv_em 7)) (iv_em 8)) (iv_em 9)) (iv_nd (iv_nd (iv_nd (iv_nd (iv_nd (iv_nd (iv_nd (iv_nd (iv_nd (iv_em 1) (iv_nd (iv_em 0) (some 135))) (iv_em 2)) (iv_em 3)) (iv_em 4)) (iv_em 5)) (iv_em 6)) (iv_em 7)) (iv_em 8)) (iv_em 9))))) (iv_nd (iv_nd (iv_nd (iv_nd (iv_nd (iv_nd (iv_nd (iv_nd (iv_nd (iv_nd (iv_nd (iv_nd (iv_em 1) (iv_nd (iv_em 0) (some 354))) (iv_em 2)) (iv_em 3)) (iv_em 4)) (iv_em 5)) (iv_em 6)) (iv_em 7)) (iv_em 8)) (iv_em 9)) (iv_nd (iv_nd (iv_nd (iv_nd (iv_nd (iv_nd (iv_nd (iv_nd (iv_nd (iv_em 1) (iv_nd (iv_em 0) (some 221))) (iv_em 2)) (iv_em 3)) (iv_em 4)) (iv_em 5)) (iv_em 6)) (iv_em 7)) (iv_em 8)) (iv_em 9))) (iv_nd (iv_nd (iv_nd (iv_nd (iv_nd (iv_nd (iv_nd (iv_nd (iv_nd (iv_nd (iv_nd (iv_em 0) (some 127)) (iv_em 1)) (iv_em 2)) (iv_em 3)) (iv_em 4)) (iv_em 5)) (iv_em 6)) (iv_em 7)) (iv_em 8)) (iv_em 9)) (iv_nd (iv_nd (iv_nd (iv_nd (iv_nd (iv_nd (iv_nd (iv_nd (iv_nd (iv_em 1) (iv_nd (iv_em 0) (some 992))) (iv_em 2)) (iv_em 3)) (iv_em 4)) (iv_em 5)) (iv_em 6)) (iv_em 7)) (iv_em 8)) (iv_em 9)))) (iv_em 12)))
def iv_op_0 (k : Nat) : Option Nat := iv_tl 14 iv_op_T k
def iv_op_ (f i : Nat) : Option Nat := bif Nat.ble 512 i then none else bif Nat.ble 16 f then none else iv_op_0 (1024 * f + i)
def iv_cjT : iv_Tr (Unit) 14 := (iv_nd (iv_nd (iv_nd (iv_em 11) (iv_nd (iv_nd (iv_nd (iv_nd (iv_nd (iv_nd (iv_em 5) (iv_nd (iv_em 4) (iv_nd (iv_em 3) (iv_nd (iv_nd (iv_em 1) (iv_nd (some ()) (iv_em 0))) (iv_em 2))))) (iv_em 6)) (iv_em 7)) (iv_em 8)) (iv_em 9)) (iv_nd (iv_nd (iv_nd (iv_nd (iv_em 6) (iv_nd (iv_em 5) (iv_nd (iv_em 4) (iv_nd (iv_em 3) (iv_nd (iv_em 2) (iv_nd (iv_em 1) (iv_nd (some ()) (iv_em 0)))))))) (iv_em 7)) (iv_em 8)) (iv_em 9)))) (iv_nd (iv_em 11) (iv_nd (iv_em 10) (iv_nd (iv_nd (iv_nd (iv_nd (iv_nd (iv_nd (iv_em 4) (iv_nd (iv_em 3) (iv_nd (iv_em 2) (iv_nd (iv_em 1) (iv_nd (some ()) (iv_em 0)))))) (iv_em 5)) (iv_em 6)) (iv_em 7)) (iv_em 8)) (iv_em 9))))) (iv_nd (iv_nd (iv_nd (iv_nd (iv_nd (iv_nd (iv_nd (iv_nd (iv_em 5) (iv_nd (iv_nd (iv_em 3) (iv_nd (iv_em 2) (iv_nd (iv_em 1) (iv_nd (some ()) (iv_em 0))))) (iv_em 4))) (iv_em 6)) (iv_em 7)) (iv_em 8)) (iv_em 9)) (iv_em 10)) (iv_nd (iv_nd (iv_nd (iv_nd (iv_nd (iv_em 6) (iv_nd (iv_em 5) (iv_nd (iv_nd (iv_em 3) (iv_nd (iv_nd (iv_em 1) (iv_nd (some ()) (iv_em 0))) (iv_em 2))) (iv_em 4)))) (iv_em 7)) (iv_em 8)) (iv_em 9)) (iv_em 10))) (iv_em 12)))
def iv_cj0 (k : Nat) : Option Unit := iv_tl 14 iv_cjT k
def iv_cj (f i : Nat) : Option Unit := bif Nat.ble 512 i then none else bif Nat.ble 16 f then none else iv_cj0 (1024 * f + i)
def iv_cppT : iv_Tr (Nat) 14 := (iv_nd (iv_nd (iv_nd (iv_em 11) (iv_nd (iv_nd (iv_nd (iv_nd (iv_nd (iv_nd (iv_em 5) (iv_nd (iv_em 4) (iv_nd (iv_em 3) (iv_nd (iv_nd (iv_em 1) (iv_nd (some 628) (iv_em 0))) (iv_em 2))))) (iv_em 6)) (iv_em 7)) (iv_em 8)) (iv_em 9)) (iv_nd (iv_nd (iv_nd (iv_nd (iv_em 6) (iv_nd (iv_em 5) (iv_nd (iv_em 4) (iv_nd (iv_em 3) (iv_nd (iv_em 2) (iv_nd (iv_em 1) (iv_nd (some 715) (iv_em 0)))))))) (iv_em 7)) (iv_em 8)) (iv_em 9)))) (iv_nd (iv_em 11) (iv_nd (iv_em 10) (iv_nd (iv_nd (iv_nd (iv_nd (iv_nd (iv_nd (iv_em 4) (iv_nd (iv_em 3) (iv_nd (iv_em 2) (iv_nd (iv_em 1) (iv_nd (some 523) (iv_em 0)))))) (iv_em 5)) (iv_em 6)) (iv_em 7)) (iv_em 8)) (iv_em 9))))) (iv_nd (iv_nd (iv_nd (iv_nd (iv_nd (iv_nd (iv_nd (iv_nd (iv_em 5) (iv_nd (iv_nd (iv_em 3) (iv_nd (iv_em 2) (iv_nd (iv_em 1) (iv_nd (some 694) (iv_em 0))))) (iv_em 4))) (iv_em 6)) (iv_em 7)) (iv_em 8)) (iv_em 9)) (iv_em 10)) (iv_nd (iv_nd (iv_nd (iv_nd (iv_nd (iv_em 6) (iv_nd (iv_em 5) (iv_nd (iv_nd (iv_em 3) (iv_nd (iv_nd (iv_em 1) (iv_nd (some 569) (iv_em 0))) (iv_em 2))) (iv_em 4)))) (iv_em 7)) (iv_em 8)) (iv_em 9)) (iv_em 10))) (iv_em 12)))
def iv_cpp0 (k : Nat) : Option Nat := iv_tl 14 iv_cppT k
def iv_cpp (f i : Nat) : Option Nat := bif Nat.ble 512 i then none else bif Nat.ble 16 f then none else iv_cpp0 (1024 * f + i)
def iv_mjT : iv_Tr (Unit) 14 := (iv_nd (iv_nd (iv_nd (iv_nd (iv_em 10) (iv_nd (iv_nd (iv_nd (iv_nd (iv_nd (iv_em 5) (iv_nd (iv_em 4) (iv_nd (iv_nd (iv_nd (iv_em 1) (iv_nd (iv_em 0) (some ()))) (iv_em 2)) (iv_em 3)))) (iv_em 6)) (iv_em 7)) (iv_em 8)) (iv_em 9))) (iv_em 11)) (iv_nd (iv_nd (iv_nd (iv_nd (iv_nd (iv_nd (iv_nd (iv_nd (iv_em 4) (iv_nd (iv_em 3) (iv_nd (iv_em 2) (iv_nd (iv_nd (iv_em 0) (some ())) (iv_em 1))))) (iv_em 5)) (iv_em 6)) (iv_em 7)) (iv_em 8)) (iv_em 9)) (iv_em 10)) (iv_em 11))) (iv_nd (iv_nd (iv_em 11) (iv_nd (iv_em 10) (iv_nd (iv_nd (iv_nd (iv_em 7) (iv_nd (iv_nd (iv_em 5) (iv_nd (iv_em 4) (iv_nd (iv_nd (iv_nd (iv_em 1) (iv_nd (some ()) (iv_em 0))) (iv_em 2)) (iv_em 3)))) (iv_em 6))) (iv_em 8)) (iv_em 9)))) (iv_em 12)))
def iv_mj0 (k : Nat) : Option Unit := iv_tl 14 iv_mjT k
def iv_mj (f i : Nat) : Option Unit := bif Nat.ble 512 i then none else bif Nat.ble 16 f then none else iv_mj0 (1024 * f + i)
def iv_mmpT : iv_Tr (Nat) 14 := (iv_nd (iv_nd (iv_nd (iv_nd (iv_em 10) (iv_nd (iv_nd (iv_nd (iv_nd (iv_nd (iv_em 5) (iv_nd (iv_em 4) (iv_nd (iv_nd (iv_nd (iv_em 1) (iv_nd (iv_em 0) (some 568))) (iv_em 2)) (iv_em 3)))) (iv_em 6)) (iv_em 7)) (iv_em 8)) (iv_em 9))) (iv_em 11)) (iv_nd (iv_nd (iv_nd (iv_nd (iv_nd (iv_nd (iv_nd (iv_nd (iv_em 4) (iv_nd (iv_em 3) (iv_nd (iv_em 2) (iv_nd (iv_nd (iv_em 0) (some 526)) (iv_em 1))))) (iv_em 5)) (iv_em 6)) (iv_em 7)) (iv_em 8)) (iv_em 9)) (iv_em 10)) (iv_em 11))) (iv_nd (iv_nd (iv_em 11) (iv_nd (iv_em 10) (iv_nd (iv_nd (iv_nd (iv_em 7) (iv_nd (iv_nd (iv_em 5) (iv_nd (iv_em 4) (iv_nd (iv_nd (iv_nd (iv_em 1) (iv_nd (some 1216) (iv_em 0))) (iv_em 2)) (iv_em 3)))) (iv_em 6))) (iv_em 8)) (iv_em 9)))) (iv_em 12)))
def iv_mmp0 (k : Nat) : Option Nat := iv_tl 14 iv_mmpT k
def iv_mmp (f i : Nat) : Option Nat := bif Nat.ble 512 i then none else bif Nat.ble 16 f then none else iv_mmp0 (1024 * f + i)
def iv_mkT : iv_Tr (Unit) 14 := (iv_nd (iv_em 13) (iv_nd (iv_nd (iv_em 11) (iv_nd (iv_nd (iv_nd (iv_em 8) (iv_nd (iv_nd (iv_nd (iv_nd (iv_nd (iv_em 3) (iv_nd (iv_nd (iv_em 1) (iv_nd (iv_em 0) (some ()))) (iv_em 2))) (iv_em 4)) (iv_em 5)) (iv_em 6)) (iv_em 7))) (iv_em 9)) (iv_nd (iv_nd (iv_em 8) (iv_nd (iv_em 7) (iv_nd (iv_nd (iv_em 5) (iv_nd (iv_nd (iv_em 3) (iv_nd (iv_em 2) (iv_nd (iv_nd (some ()) (iv_em 0)) (iv_em 1)))) (iv_em 4))) (iv_em 6)))) (iv_em 9)))) (iv_em 12)))
def iv_mk0 (k : Nat) : Option Unit := iv_tl 14 iv_mkT k
def iv_mk (f i : Nat) : Option Unit := bif Nat.ble 512 i then none else bif Nat.ble 16 f then none else iv_mk0 (1024 * f + i)
def iv_mapT : iv_Tr (Nat) 14 := (iv_nd (iv_em 13) (iv_nd (iv_nd (iv_em 11) (iv_nd (iv_nd (iv_nd (iv_em 8) (iv_nd (iv_nd (iv_nd (iv_nd (iv_nd (iv_em 3) (iv_nd (iv_nd (iv_em 1) (iv_nd (iv_em 0) (some 915))) (iv_em 2))) (iv_em 4)) (iv_em 5)) (iv_em 6)) (iv_em 7))) (iv_em 9)) (iv_nd (iv_nd (iv_em 8) (iv_nd (iv_em 7) (iv_nd (iv_nd (iv_em 5) (iv_nd (iv_nd (iv_em 3) (iv_nd (iv_em 2) (iv_nd (iv_nd (some 1536) (iv_em 0)) (iv_em 1)))) (iv_em 4))) (iv_em 6)))) (iv_em 9)))) (iv_em 12)))
def iv_map0 (k : Nat) : Option Nat := iv_tl 14 iv_mapT k
def iv_map (f i : Nat) : Option Nat := bif Nat.ble 512 i then none else bif Nat.ble 16 f then none else iv_map0 (1024 * f + i)
def iv_oi (f i : Nat) : Bool := (iv_oj f i).isSome
def iv_cp (f i : Nat) : Bool := (iv_cj f i).isSome
/-- calls of Math.min of two ints -/
def iv_mm (f i : Nat) : Bool := (iv_mj f i).isSome
def iv_ma (f i : Nat) : Bool := (iv_mk f i).isSome
/-- calls of private members of nest mates -/
def iv_nw : List (String × Nat × MethodName × String) := [("ZoneShares", 12, iv_y40, "ZoneShares"), ("ZoneShares", 21, iv_y81, "ZoneShares"), ("ZoneShares", 35, iv_y33, "ZoneShares"), ("ZoneShares", 42, iv_y3, "ZoneShares"), ("ZoneShares", 49, iv_y9, "ZoneShares"), ("ZoneShares$Group", 20, iv_y67, "ZoneShares")]
def iv_pcT : iv_Tr (Nat) 8 := (iv_nd (iv_nd (iv_nd (iv_nd (iv_nd (iv_nd (iv_nd (iv_nd (some 926) (some 933)) (iv_nd (some 929) (some 287))) (iv_nd (iv_nd (some 551) (some 556)) (iv_nd (some 567) (some 560)))) (iv_nd (iv_nd (iv_nd (some 563) (some 304)) (iv_nd (some 610) (some 625))) (iv_nd (iv_nd (some 636) (some 640)) (iv_nd (some 648) (some 632))))) (iv_nd (iv_nd (iv_nd (iv_nd (some 644) (some 655)) (iv_nd (some 347) (some 663))) (iv_nd (iv_nd (some 667) (some 671)) (iv_nd (some 675) (some 714)))) (iv_nd (iv_nd (iv_nd (some 788) (some 796)) (iv_nd (some 800) (some 808))) (iv_nd (iv_nd (some 812) (some 804)) (iv_nd (some 236) (some 518)))))) (iv_nd (iv_nd (iv_nd (iv_nd (iv_nd (some 825) (some 256)) (iv_nd (some 487) (some 494))) (iv_nd (iv_nd (some 502) (some 498)) (iv_nd (some 506) (some 510)))) (iv_nd (iv_nd (iv_nd (some 189) (some 725)) (iv_nd (some 731) (some 747))) (iv_nd (iv_nd (some 780) (some 784)) (iv_nd (some 751) (some 756))))) (iv_nd (iv_nd (iv_nd (iv_nd (some 760) (some 764)) (iv_nd (some 768) (some 772))) (iv_nd (iv_nd (some 776) (some 134)) (iv_nd (some 522) (some 536)))) (iv_nd (iv_nd (iv_nd (some 483) (some 606)) (iv_nd (some 540) (some 833))) (iv_nd (iv_nd (some 621) (some 721)) (iv_nd (some 615) (some 973))))))) (iv_nd (iv_nd (iv_nd (iv_nd (iv_nd (iv_nd (some 951) (some 959)) (iv_nd (some 573) (some 353))) (iv_nd (iv_nd (some 679) (some 685)) (iv_nd (some 690) (some 698)))) (iv_nd (iv_nd (iv_nd (some 693) (some 706)) (iv_nd (some 702) (some 710))) (iv_nd (iv_nd (some 792) (some 879)) (iv_nd (some 735) (some 742))))) (iv_nd (iv_nd (iv_nd (iv_nd (some 942) (some 220)) (iv_nd (some 471) (some 491))) (iv_nd (iv_nd (some 126) (some 467)) (iv_nd (some 475) (some 479)))) (iv_nd (iv_nd (iv_nd (some 544) (some 577)) (iv_nd (some 584) (some 588))) (iv_nd (iv_nd (some 598) (some 659)) (iv_nd (some 821) (some 829)))))) (iv_nd (iv_nd (iv_nd (iv_nd (iv_nd (some 838) (some 851)) (iv_nd (some 856) (some 869))) (iv_nd (iv_nd (some 873) (some 883)) (iv_nd (some 887) (some 893)))) (iv_nd (iv_nd (iv_nd (some 897) (some 901)) (iv_nd (some 908) (some 914))) (iv_nd (iv_nd (some 921) (some 938)) (iv_nd (some 947) (some 969))))) (iv_nd (iv_nd (iv_nd (iv_nd (some 982) (some 986)) (iv_nd (some 547) (some 591))) (iv_nd (iv_nd (some 580) (some 594)) (iv_nd (some 860) (some 514)))) (iv_nd (iv_nd (iv_nd (some 532) (some 602)) (iv_nd (some 816) (some 842))) (iv_nd (iv_nd (some 847) (some 955)) (iv_nd (some 978) (some 863)))))))) (iv_nd (iv_nd (iv_nd (iv_nd (iv_nd (iv_nd (iv_nd (some 738) (some 991)) (iv_nd (some 1161) (some 1219))) (iv_nd (iv_nd (some 1199) (some 1141)) (iv_nd (some 1145) (some 1149)))) (iv_nd (iv_nd (iv_nd (some 1153) (some 1177)) (iv_nd (some 1192) (some 1188))) (iv_nd (iv_nd (some 1180) (some 1195)) (iv_nd (some 1173) (some 1169))))) (iv_nd (iv_nd (iv_nd (iv_nd (some 1165) (some 1157)) (iv_nd (some 1214) (some 1210))) (iv_nd (iv_nd (some 1206) (some 1203)) (iv_nd (some 1295) (some 1240)))) (iv_nd (iv_nd (iv_nd (some 1244) (some 1236)) (iv_nd (some 1256) (some 1232))) (iv_nd (iv_nd (some 1314) (some 1310)) (iv_nd (some 1279) (some 1268)))))) (iv_nd (iv_nd (iv_nd (iv_nd (iv_nd (some 1275) (some 1272)) (iv_nd (some 1287) (some 1283))) (iv_nd (iv_nd (some 1333) (some 1330)) (iv_nd (some 1326) (some 1337)))) (iv_nd (iv_nd (iv_nd (some 1349) (some 1353)) (iv_nd (some 1345) (some 1341))) (iv_nd (iv_nd (some 1322) (some 1318)) (iv_nd (some 1228) (some 1252))))) (iv_nd (iv_nd (iv_nd (iv_nd (some 1248) (some 1264)) (iv_nd (some 1260) (some 1223))) (iv_nd (iv_nd (some 1306) (some 1302)) (iv_nd (some 1361) (some 1365)))) (iv_nd (iv_nd (iv_nd (some 1357) (some 1291)) (iv_nd (some 1378) (some 1374))) (iv_nd (iv_nd (some 1369) (some 1382)) (iv_nd (some 1386) (some 1394))))))) (iv_nd (iv_nd (iv_nd (iv_nd (iv_nd (iv_nd (some 1390) (some 1398)) (iv_nd (some 1406) (some 1403))) (iv_nd (iv_nd (some 1410) (some 1422)) (iv_nd (some 1418) (some 1414)))) (iv_nd (iv_nd (iv_nd (some 1430) (some 1426)) (iv_nd (some 1439) (some 1434))) (iv_nd (iv_nd (some 1488) (some 1501)) (iv_nd (some 1509) (some 1526))))) (iv_nd (iv_nd (iv_nd (iv_nd (some 1513) (some 1505)) (iv_nd (some 1497) (some 1522))) (iv_nd (iv_nd (some 1518) (some 1535)) (iv_nd (some 1530) (some 1540)))) (iv_nd (iv_nd (iv_nd (some 1544) (some 1548)) (iv_nd (some 1552) (some 1560))) (iv_nd (iv_nd (some 1556) (some 1572)) (iv_nd (some 1568) (some 1564)))))) (iv_nd (iv_nd (iv_nd (iv_nd (iv_nd (some 1585) (some 1589)) (iv_nd (some 1581) (some 1593))) (iv_nd (iv_nd (some 1597) (some 1576)) (iv_nd (some 962) (some 904)))) (iv_nd (iv_nd (iv_nd (some 917) (some 528)) (iv_nd (some 138) (some 0))) (iv_em 2))) (iv_em 4)))))
def iv_pc (i : Nat) : Nat := bif Nat.ble 236 i then 0 else (iv_tl 8 iv_pcT i).getD 0
def iv_pi_T : iv_Tr (Nat) 8 := (iv_nd (iv_nd (iv_nd (iv_nd (iv_nd (iv_nd (iv_nd (iv_nd (some 116) (some 116)) (iv_nd (some 116) (some 109))) (iv_nd (iv_nd (some 109) (some 109)) (iv_nd (some 109) (some 109)))) (iv_nd (iv_nd (iv_nd (some 109) (some 110)) (iv_nd (some 110) (some 110))) (iv_nd (iv_nd (some 110) (some 110)) (iv_nd (some 110) (some 110))))) (iv_nd (iv_nd (iv_nd (iv_nd (some 110) (some 110)) (iv_nd (some 111) (some 111))) (iv_nd (iv_nd (some 111) (some 111)) (iv_nd (some 111) (some 111)))) (iv_nd (iv_nd (iv_nd (some 111) (some 111)) (iv_nd (some 111) (some 111))) (iv_nd (iv_nd (some 111) (some 111)) (iv_nd (some 107) (some 107)))))) (iv_nd (iv_nd (iv_nd (iv_nd (iv_nd (some 107) (some 108)) (iv_nd (some 108) (some 108))) (iv_nd (iv_nd (some 108) (some 108)) (iv_nd (some 108) (some 108)))) (iv_nd (iv_nd (iv_nd (some 105) (some 105)) (iv_nd (some 105) (some 105))) (iv_nd (iv_nd (some 105) (some 105)) (iv_nd (some 105) (some 105))))) (iv_nd (iv_nd (iv_nd (iv_nd (some 105) (some 105)) (iv_nd (some 105) (some 105))) (iv_nd (iv_nd (some 105) (some 103)) (iv_nd (some 103) (some 103)))) (iv_nd (iv_nd (iv_nd (some 103) (some 103)) (iv_nd (some 103) (some 103))) (iv_nd (iv_nd (some 103) (some 103)) (iv_nd (some 103) (some 103))))))) (iv_nd (iv_nd (iv_nd (iv_nd (iv_nd (iv_nd (some 103) (some 103)) (iv_nd (some 103) (some 112))) (iv_nd (iv_nd (some 112) (some 112)) (iv_nd (some 112) (some 112)))) (iv_nd (iv_nd (iv_nd (some 112) (some 112)) (iv_nd (some 112) (some 112))) (iv_nd (iv_nd (some 112) (some 112)) (iv_nd (some 112) (some 112))))) (iv_nd (iv_nd (iv_nd (iv_nd (some 112) (some 106)) (iv_nd (some 106) (some 106))) (iv_nd (iv_nd (some 102) (some 102)) (iv_nd (some 102) (some 102)))) (iv_nd (iv_nd (iv_nd (some 102) (some 102)) (iv_nd (some 102) (some 102))) (iv_nd (iv_nd (some 102) (some 102)) (iv_nd (some 102) (some 102)))))) (iv_nd (iv_nd (iv_nd (iv_nd (iv_nd (some 102) (some 102)) (iv_nd (some 102) (some 102))) (iv_nd (iv_nd (some 102) (some 102)) (iv_nd (some 102) (some 102)))) (iv_nd (iv_nd (iv_nd (some 102) (some 102)) (iv_nd (some 102) (some 102))) (iv_nd (iv_nd (some 102) (some 102)) (iv_nd (some 102) (some 102))))) (iv_nd (iv_nd (iv_nd (iv_nd (some 102) (some 102)) (iv_nd (some 102) (some 102))) (iv_nd (iv_nd (some 102) (some 102)) (iv_nd (some 102) (some 102)))) (iv_nd (iv_nd (iv_nd (some 102) (some 102)) (iv_nd (some 102) (some 102))) (iv_nd (iv_nd (some 102) (some 102)) (iv_nd (some 102) (some 102)))))))) (iv_nd (iv_nd (iv_nd (iv_nd (iv_nd (iv_nd (iv_nd (some 102) (some 113)) (iv_nd (some 113) (some 113))) (iv_nd (iv_nd (some 113) (some 113)) (iv_nd (some 113) (some 113)))) (iv_nd (iv_nd (iv_nd (some 113) (some 113)) (iv_nd (some 113) (some 113))) (iv_nd (iv_nd (some 113) (some 113)) (iv_nd (some 113) (some 113))))) (iv_nd (iv_nd (iv_nd (iv_nd (some 113) (some 113)) (iv_nd (some 113) (some 113))) (iv_nd (iv_nd (some 113) (some 113)) (iv_nd (some 113) (some 113)))) (iv_nd (iv_nd (iv_nd (some 113) (some 113)) (iv_nd (some 113) (some 113))) (iv_nd (iv_nd (some 113) (some 113)) (iv_nd (some 113) (some 113)))))) (iv_nd (iv_nd (iv_nd (iv_nd (iv_nd (some 113) (some 113)) (iv_nd (some 113) (some 113))) (iv_nd (iv_nd (some 113) (some 113)) (iv_nd (some 113) (some 113)))) (iv_nd (iv_nd (iv_nd (some 113) (some 113)) (iv_nd (some 113) (some 113))) (iv_nd (iv_nd (some 113) (some 113)) (iv_nd (some 113) (some 113))))) (iv_nd (iv_nd (iv_nd (iv_nd (some 113) (some 113)) (iv_nd (some 113) (some 113))) (iv_nd (iv_nd (some 113) (some 113)) (iv_nd (some 113) (some 113)))) (iv_nd (iv_nd (iv_nd (some 113) (some 113)) (iv_nd (some 113) (some 113))) (iv_nd (iv_nd (some 113) (some 113)) (iv_nd (some 113) (some 113))))))) (iv_nd (iv_nd (iv_nd (iv_nd (iv_nd (iv_nd (some 113) (some 113)) (iv_nd (some 113) (some 113))) (iv_nd (iv_nd (some 113) (some 113)) (iv_nd (some 113) (some 113)))) (iv_nd (iv_nd (iv_nd (some 113) (some 113)) (iv_nd (some 113) (some 113))) (iv_nd (iv_nd (some 113) (some 113)) (iv_nd (some 113) (some 113))))) (iv_nd (iv_nd (iv_nd (iv_nd (some 113) (some 113)) (iv_nd (some 113) (some 113))) (iv_nd (iv_nd (some 113) (some 113)) (iv_nd (some 113) (some 113)))) (iv_nd (iv_nd (iv_nd (some 113) (some 113)) (iv_nd (some 113) (some 113))) (iv_nd (iv_nd (some 113) (some 113)) (iv_nd (some 113) (some 113)))))) (iv_nd (iv_nd (iv_nd (iv_nd (iv_nd (some 113) (some 113)) (iv_nd (some 113) (some 113))) (iv_nd (iv_nd (some 113) (some 121)) (iv_nd (some 121) (some 115)))) (iv_nd (iv_nd (iv_nd (some 115) (some 115)) (iv_nd (some 104) (some 101))) (iv_em 2))) (iv_em 4)))))
def iv_pi_ (i : Nat) : Nat := bif Nat.ble 236 i then 0 else (iv_tl 8 iv_pi_T i).getD 0
def iv_psT : iv_Tr (Nat) 8 := (iv_nd (iv_nd (iv_nd (iv_nd (iv_nd (iv_nd (iv_nd (iv_nd (some 925) (some 932)) (iv_nd (some 928) (some 286))) (iv_nd (iv_nd (some 549) (some 555)) (iv_nd (some 566) (some 559)))) (iv_nd (iv_nd (iv_nd (some 562) (some 303)) (iv_nd (some 608) (some 624))) (iv_nd (iv_nd (some 634) (some 639)) (iv_nd (some 646) (some 630))))) (iv_nd (iv_nd (iv_nd (iv_nd (some 643) (some 654)) (iv_nd (some 346) (some 661))) (iv_nd (iv_nd (some 665) (some 670)) (iv_nd (some 674) (some 713)))) (iv_nd (iv_nd (iv_nd (some 787) (some 795)) (iv_nd (some 799) (some 806))) (iv_nd (iv_nd (some 810) (some 803)) (iv_nd (some 235) (some 516)))))) (iv_nd (iv_nd (iv_nd (iv_nd (iv_nd (some 823) (some 255)) (iv_nd (some 485) (some 493))) (iv_nd (iv_nd (some 501) (some 497)) (iv_nd (some 505) (some 509)))) (iv_nd (iv_nd (iv_nd (some 188) (some 723)) (iv_nd (some 730) (some 746))) (iv_nd (iv_nd (some 779) (some 783)) (iv_nd (some 750) (some 755))))) (iv_nd (iv_nd (iv_nd (iv_nd (some 759) (some 763)) (iv_nd (some 767) (some 771))) (iv_nd (iv_nd (some 775) (some 133)) (iv_nd (some 520) (some 534)))) (iv_nd (iv_nd (iv_nd (some 481) (some 604)) (iv_nd (some 538) (some 831))) (iv_nd (iv_nd (some 619) (some 719)) (iv_nd (some 613) (some 971))))))) (iv_nd (iv_nd (iv_nd (iv_nd (iv_nd (iv_nd (some 949) (some 957)) (iv_nd (some 571) (some 352))) (iv_nd (iv_nd (some 677) (some 683)) (iv_nd (some 688) (some 697)))) (iv_nd (iv_nd (iv_nd (some 692) (some 704)) (iv_nd (some 700) (some 709))) (iv_nd (iv_nd (some 790) (some 877)) (iv_nd (some 733) (some 740))))) (iv_nd (iv_nd (iv_nd (iv_nd (some 940) (some 219)) (iv_nd (some 469) (some 489))) (iv_nd (iv_nd (some 125) (some 465)) (iv_nd (some 473) (some 477)))) (iv_nd (iv_nd (iv_nd (some 542) (some 575)) (iv_nd (some 582) (some 586))) (iv_nd (iv_nd (some 596) (some 657)) (iv_nd (some 819) (some 827)))))) (iv_nd (iv_nd (iv_nd (iv_nd (iv_nd (some 836) (some 849)) (iv_nd (some 854) (some 867))) (iv_nd (iv_nd (some 871) (some 881)) (iv_nd (some 885) (some 891)))) (iv_nd (iv_nd (iv_nd (some 895) (some 899)) (iv_nd (some 906) (some 912))) (iv_nd (iv_nd (some 919) (some 936)) (iv_nd (some 945) (some 967))))) (iv_nd (iv_nd (iv_nd (iv_nd (some 980) (some 984)) (iv_nd (some 546) (some 590))) (iv_nd (iv_nd (some 579) (some 593)) (iv_nd (some 859) (some 513)))) (iv_nd (iv_nd (iv_nd (some 531) (some 601)) (iv_nd (some 815) (some 841))) (iv_nd (iv_nd (some 846) (some 954)) (iv_nd (some 977) (some 862)))))))) (iv_nd (iv_nd (iv_nd (iv_nd (iv_nd (iv_nd (iv_nd (some 737) (some 990)) (iv_nd (some 1160) (some 1218))) (iv_nd (iv_nd (some 1198) (some 1139)) (iv_nd (some 1143) (some 1148)))) (iv_nd (iv_nd (iv_nd (some 1151) (some 1176)) (iv_nd (some 1191) (some 1187))) (iv_nd (iv_nd (some 1179) (some 1194)) (iv_nd (some 1172) (some 1168))))) (iv_nd (iv_nd (iv_nd (iv_nd (some 1164) (some 1155)) (iv_nd (some 1213) (some 1209))) (iv_nd (iv_nd (some 1205) (some 1201)) (iv_nd (some 1294) (some 1239)))) (iv_nd (iv_nd (iv_nd (some 1243) (some 1235)) (iv_nd (some 1255) (some 1231))) (iv_nd (iv_nd (some 1313) (some 1309)) (iv_nd (some 1278) (some 1267)))))) (iv_nd (iv_nd (iv_nd (iv_nd (iv_nd (some 1274) (some 1271)) (iv_nd (some 1286) (some 1282))) (iv_nd (iv_nd (some 1332) (some 1329)) (iv_nd (some 1325) (some 1336)))) (iv_nd (iv_nd (iv_nd (some 1348) (some 1352)) (iv_nd (some 1344) (some 1340))) (iv_nd (iv_nd (some 1321) (some 1317)) (iv_nd (some 1227) (some 1251))))) (iv_nd (iv_nd (iv_nd (iv_nd (some 1247) (some 1263)) (iv_nd (some 1259) (some 1221))) (iv_nd (iv_nd (some 1305) (some 1301)) (iv_nd (some 1360) (some 1364)))) (iv_nd (iv_nd (iv_nd (some 1356) (some 1289)) (iv_nd (some 1377) (some 1373))) (iv_nd (iv_nd (some 1367) (some 1380)) (iv_nd (some 1385) (some 1393))))))) (iv_nd (iv_nd (iv_nd (iv_nd (iv_nd (iv_nd (some 1388) (some 1396)) (iv_nd (some 1405) (some 1401))) (iv_nd (iv_nd (some 1408) (some 1421)) (iv_nd (some 1417) (some 1412)))) (iv_nd (iv_nd (iv_nd (some 1429) (some 1424)) (iv_nd (some 1438) (some 1432))) (iv_nd (iv_nd (some 1486) (some 1500)) (iv_nd (some 1508) (some 1525))))) (iv_nd (iv_nd (iv_nd (iv_nd (some 1512) (some 1504)) (iv_nd (some 1495) (some 1521))) (iv_nd (iv_nd (some 1516) (some 1534)) (iv_nd (some 1528) (some 1538)))) (iv_nd (iv_nd (iv_nd (some 1542) (some 1546)) (iv_nd (some 1550) (some 1559))) (iv_nd (iv_nd (some 1554) (some 1571)) (iv_nd (some 1567) (some 1562)))))) (iv_nd (iv_nd (iv_nd (iv_nd (iv_nd (some 1584) (some 1588)) (iv_nd (some 1579) (some 1591))) (iv_nd (iv_nd (some 1595) (some 1575)) (iv_nd (some 961) (some 903)))) (iv_nd (iv_nd (iv_nd (some 916) (some 527)) (iv_nd (some 137) (some 0))) (iv_em 2))) (iv_em 4)))))
def iv_ps (i : Nat) : Nat := bif Nat.ble 236 i then 0 else (iv_tl 8 iv_psT i).getD 0
def iv_plT : iv_Tr (Nat) 8 := (iv_nd (iv_nd (iv_nd (iv_nd (iv_nd (iv_nd (iv_nd (iv_nd (some 0) (some 0)) (iv_nd (some 0) (some 0))) (iv_nd (iv_nd (some 550) (some 6)) (iv_nd (some 7) (some 0)))) (iv_nd (iv_nd (iv_nd (some 0) (some 0)) (iv_nd (some 609) (some 9))) (iv_nd (iv_nd (some 635) (some 10)) (iv_nd (some 647) (some 631))))) (iv_nd (iv_nd (iv_nd (iv_nd (some 11) (some 12)) (iv_nd (some 0) (some 662))) (iv_nd (iv_nd (some 666) (some 13)) (iv_nd (some 14) (some 17)))) (iv_nd (iv_nd (iv_nd (some 29) (some 30)) (iv_nd (some 31) (some 807))) (iv_nd (iv_nd (some 811) (some 32)) (iv_nd (some 0) (some 517)))))) (iv_nd (iv_nd (iv_nd (iv_nd (iv_nd (some 824) (some 0)) (iv_nd (some 486) (some 0))) (iv_nd (iv_nd (some 1) (some 0)) (iv_nd (some 2) (some 3)))) (iv_nd (iv_nd (iv_nd (some 0) (some 724)) (iv_nd (some 18) (some 19))) (iv_nd (iv_nd (some 27) (some 28)) (iv_nd (some 20) (some 21))))) (iv_nd (iv_nd (iv_nd (iv_nd (some 22) (some 23)) (iv_nd (some 24) (some 25))) (iv_nd (iv_nd (some 26) (some 0)) (iv_nd (some 521) (some 535)))) (iv_nd (iv_nd (iv_nd (some 482) (some 605)) (iv_nd (some 539) (some 832))) (iv_nd (iv_nd (some 620) (some 720)) (iv_nd (some 614) (some 972))))))) (iv_nd (iv_nd (iv_nd (iv_nd (iv_nd (iv_nd (some 950) (some 958)) (iv_nd (some 572) (some 0))) (iv_nd (iv_nd (some 678) (some 684)) (iv_nd (some 689) (some 15)))) (iv_nd (iv_nd (iv_nd (some 0) (some 705)) (iv_nd (some 701) (some 16))) (iv_nd (iv_nd (some 791) (some 878)) (iv_nd (some 734) (some 741))))) (iv_nd (iv_nd (iv_nd (iv_nd (some 941) (some 0)) (iv_nd (some 470) (some 490))) (iv_nd (iv_nd (some 0) (some 466)) (iv_nd (some 474) (some 478)))) (iv_nd (iv_nd (iv_nd (some 543) (some 576)) (iv_nd (some 583) (some 587))) (iv_nd (iv_nd (some 597) (some 658)) (iv_nd (some 820) (some 828)))))) (iv_nd (iv_nd (iv_nd (iv_nd (iv_nd (some 837) (some 850)) (iv_nd (some 855) (some 868))) (iv_nd (iv_nd (some 872) (some 882)) (iv_nd (some 886) (some 892)))) (iv_nd (iv_nd (iv_nd (some 896) (some 900)) (iv_nd (some 907) (some 913))) (iv_nd (iv_nd (some 920) (some 937)) (iv_nd (some 946) (some 968))))) (iv_nd (iv_nd (iv_nd (iv_nd (some 981) (some 985)) (iv_nd (some 0) (some 0))) (iv_nd (iv_nd (some 0) (some 0)) (iv_nd (some 36) (some 4)))) (iv_nd (iv_nd (iv_nd (some 5) (some 8)) (iv_nd (some 33) (some 34))) (iv_nd (iv_nd (some 35) (some 37)) (iv_nd (some 38) (some 0)))))))) (iv_nd (iv_nd (iv_nd (iv_nd (iv_nd (iv_nd (iv_nd (some 0) (some 0)) (iv_nd (some 0) (some 0))) (iv_nd (iv_nd (some 46) (some 1140)) (iv_nd (some 1144) (some 39)))) (iv_nd (iv_nd (iv_nd (some 1152) (some 43)) (iv_nd (some 45) (some 44))) (iv_nd (iv_nd (some 0) (some 0)) (iv_nd (some 42) (some 41))))) (iv_nd (iv_nd (iv_nd (iv_nd (some 40) (some 1156)) (iv_nd (some 48) (some 47))) (iv_nd (iv_nd (some 0) (some 1202)) (iv_nd (some 64) (some 52)))) (iv_nd (iv_nd (iv_nd (some 53) (some 51)) (iv_nd (some 56) (some 50))) (iv_nd (iv_nd (some 68) (some 67)) (iv_nd (some 61) (some 59)))))) (iv_nd (iv_nd (iv_nd (iv_nd (iv_nd (some 0) (some 60)) (iv_nd (some 63) (some 62))) (iv_nd (iv_nd (some 0) (some 72)) (iv_nd (some 71) (some 73)))) (iv_nd (iv_nd (iv_nd (some 76) (some 77)) (iv_nd (some 75) (some 74))) (iv_nd (iv_nd (some 70) (some 69)) (iv_nd (some 49) (some 55))))) (iv_nd (iv_nd (iv_nd (iv_nd (some 54) (some 58)) (iv_nd (some 57) (some 1222))) (iv_nd (iv_nd (some 66) (some 65)) (iv_nd (some 79) (some 80)))) (iv_nd (iv_nd (iv_nd (some 78) (some 1290)) (iv_nd (some 82) (some 81))) (iv_nd (iv_nd (some 1368) (some 1381)) (iv_nd (some 83) (some 84))))))) (iv_nd (iv_nd (iv_nd (iv_nd (iv_nd (iv_nd (some 1389) (some 1397)) (iv_nd (some 0) (some 1402))) (iv_nd (iv_nd (some 1409) (some 86)) (iv_nd (some 85) (some 1413)))) (iv_nd (iv_nd (iv_nd (some 87) (some 1425)) (iv_nd (some 88) (some 1433))) (iv_nd (iv_nd (some 1487) (some 89)) (iv_nd (some 91) (some 94))))) (iv_nd (iv_nd (iv_nd (iv_nd (some 92) (some 90)) (iv_nd (some 1496) (some 93))) (iv_nd (iv_nd (some 1517) (some 95)) (iv_nd (some 1529) (some 1539)))) (iv_nd (iv_nd (iv_nd (some 1543) (some 1547)) (iv_nd (some 1551) (some 96))) (iv_nd (iv_nd (some 1555) (some 98)) (iv_nd (some 97) (some 1563)))))) (iv_nd (iv_nd (iv_nd (iv_nd (iv_nd (some 99) (some 100)) (iv_nd (some 1580) (some 1592))) (iv_nd (iv_nd (some 1596) (some 0)) (iv_nd (some 0) (some 0)))) (iv_nd (iv_nd (iv_nd (some 0) (some 0)) (iv_nd (some 0) (some 0))) (iv_em 2))) (iv_em 4)))))
def iv_pl (i : Nat) : Nat := bif Nat.ble 236 i then 0 else (iv_tl 8 iv_plT i).getD 0
def iv_cpos (c : Nat) : List Nat := match c with
  | 0 => [284, 109, 293, 295, 297]
  | 1 => [301, 110, 319, 321, 323, 325, 327, 329, 331, 333, 335, 337, 339]
  | 2 => [344, 111, 412, 414, 416, 418, 420, 422, 424, 426, 428, 430, 432, 434, 436]
  | 3 => [233, 107, 245, 247, 249]
  | 4 => [253, 108, 268, 270, 272, 274, 276, 278, 280]
  | 5 => [186, 105, 199, 201, 203, 205, 207, 209, 211, 213]
  | 6 => [131, 103, 165, 167, 169, 171, 173, 175, 177, 179, 181]
  | 7 => [350, 112, 373, 375, 377, 379, 381, 383, 385, 387]
  | 8 => [217, 106, 227, 229]
  | 9 => [123, 102, 447, 449, 451, 453, 455, 457, 459, 461]
  | 10 => [988, 113, 1040, 1042, 1044, 1046, 1048, 1050, 1052, 1054, 1056, 1058, 1060, 1062, 1064, 1066, 1068, 1070, 1072, 1074, 1076, 1078, 1080, 1082, 1084, 1086, 1088, 1090, 1092, 1094, 1096, 1098, 1100, 1102, 1104, 1106, 1108, 1110, 1112, 1114, 1116, 1118, 1120, 1122, 1124, 1126, 1128, 1130, 1132]
  | _ => []
def iv_apos : List Nat := [184, 1136, 1137, 1135]
def iv_xpos : List Nat := [128, 129, 525, 524, 114, 527, 115, 528, 916, 917]
def iv_npos : List Nat := [187, 218, 254, 285, 302, 351]
def iv_opos : List Nat := [343, 239]
end
section
/-! THE TABLES AGREE WITH THE WORDS AND THE BYTES: each by one run of a check in the kernel -/
def iv_n (op : Jvm.ClassFile.Instr) : Nat := match op with
  | .aload _ => 2
  | .anewarray _ => 3
  | .astore _ => 2
  | .bipush _ => 2
  | .getfield _ => 3
  | .getstatic _ => 3
  | .goto _ => 3
  | .if_icmp _ _ => 3
  | .ifCond _ _ => 3
  | .iinc _ _ => 3
  | .iload _ => 2
  | .invokespecial _ => 3
  | .invokestatic _ => 3
  | .invokevirtual _ => 3
  | .istore _ => 2
  | .ldc _ => 2
  | .ldc2_w _ => 3
  | .lload _ => 2
  | .lstore _ => 2
  | .dload _ => 2
  | .dstore _ => 2
  | .new _ => 3
  | .newarray _ => 2
  | .putfield _ => 3
  | .sipush _ => 3
  | .lookupswitch _ _ => 0
  | .tableswitch _ _ _ _ => 0
  | _ => 1

theorem iv_bif {α : Type} {b : Bool} {x : Option α} {y : α} (h : (bif b then none else x) = some y) : b = false ∧ x = some y := by
  cases b with
  | true => cases h
  | false => exact ⟨rfl, h⟩
theorem iv_blt {a b : Nat} (h : Nat.ble a b = false) : b < a := Nat.lt_of_not_le fun q => by
  rw [Nat.ble_eq_true_of_le q] at h
  cases h
def iv_ckp (i p : Nat) : Bool := match iv_cd i p with
  | none => true
  | some op => match decode (iv_by i) p with
    | .ok q => decide (q.1 = op) && (Nat.beq (iv_n op) 0 || Nat.beq q.2 (iv_n op))
    | _ => false
def iv_ck1 (i : Nat) : Bool := (List.range (iv_ln i)).all (iv_ckp i)
set_option maxRecDepth 1000000 in
theorem iv_ckA_0 : (List.range 235).all (fun i => !(Nat.beq (i / 10) 0) || iv_ck1 i) = true := by decide +kernel
set_option maxRecDepth 1000000 in
theorem iv_ckA_1 : (List.range 235).all (fun i => !(Nat.beq (i / 10) 1) || iv_ck1 i) = true := by decide +kernel
set_option maxRecDepth 1000000 in
theorem iv_ckA_2 : (List.range 235).all (fun i => !(Nat.beq (i / 10) 2) || iv_ck1 i) = true := by decide +kernel
set_option maxRecDepth 1000000 in
theorem iv_ckA_3 : (List.range 235).all (fun i => !(Nat.beq (i / 10) 3) || iv_ck1 i) = true := by decide +kernel
set_option maxRecDepth 1000000 in
theorem iv_ckA_4 : (List.range 235).all (fun i => !(Nat.beq (i / 10) 4) || iv_ck1 i) = true := by decide +kernel
set_option maxRecDepth 1000000 in
theorem iv_ckA_5 : (List.range 235).all (fun i => !(Nat.beq (i / 10) 5) || iv_ck1 i) = true := by decide +kernel
set_option maxRecDepth 1000000 in
theorem iv_ckA_6 : (List.range 235).all (fun i => !(Nat.beq (i / 10) 6) || iv_ck1 i) = true := by decide +kernel
set_option maxRecDepth 1000000 in
theorem iv_ckA_7 : (List.range 235).all (fun i => !(Nat.beq (i / 10) 7) || iv_ck1 i) = true := by decide +kernel
set_option maxRecDepth 1000000 in
theorem iv_ckA_8 : (List.range 235).all (fun i => !(Nat.beq (i / 10) 8) || iv_ck1 i) = true := by decide +kernel
set_option maxRecDepth 1000000 in
theorem iv_ckA_9 : (List.range 235).all (fun i => !(Nat.beq (i / 10) 9) || iv_ck1 i) = true := by decide +kernel
set_option maxRecDepth 1000000 in
theorem iv_ckA_10 : (List.range 235).all (fun i => !(Nat.beq (i / 10) 10) || iv_ck1 i) = true := by decide +kernel
set_option maxRecDepth 1000000 in
theorem iv_ckA_11 : (List.range 235).all (fun i => !(Nat.beq (i / 10) 11) || iv_ck1 i) = true := by decide +kernel
set_option maxRecDepth 1000000 in
theorem iv_ckA_12 : (List.range 235).all (fun i => !(Nat.beq (i / 10) 12) || iv_ck1 i) = true := by decide +kernel
set_option maxRecDepth 1000000 in
theorem iv_ckA_13 : (List.range 235).all (fun i => !(Nat.beq (i / 10) 13) || iv_ck1 i) = true := by decide +kernel
set_option maxRecDepth 1000000 in
theorem iv_ckA_14 : (List.range 235).all (fun i => !(Nat.beq (i / 10) 14) || iv_ck1 i) = true := by decide +kernel
set_option maxRecDepth 1000000 in
theorem iv_ckA_15 : (List.range 235).all (fun i => !(Nat.beq (i / 10) 15) || iv_ck1 i) = true := by decide +kernel
set_option maxRecDepth 1000000 in
theorem iv_ckA_16 : (List.range 235).all (fun i => !(Nat.beq (i / 10) 16) || iv_ck1 i) = true := by decide +kernel
set_option maxRecDepth 1000000 in
theorem iv_ckA_17 : (List.range 235).all (fun i => !(Nat.beq (i / 10) 17) || iv_ck1 i) = true := by decide +kernel
set_option maxRecDepth 1000000 in
theorem iv_ckA_18 : (List.range 235).all (fun i => !(Nat.beq (i / 10) 18) || iv_ck1 i) = true := by decide +kernel
set_option maxRecDepth 1000000 in
theorem iv_ckA_19 : (List.range 235).all (fun i => !(Nat.beq (i / 10) 19) || iv_ck1 i) = true := by decide +kernel
set_option maxRecDepth 1000000 in
theorem iv_ckA_20 : (List.range 235).all (fun i => !(Nat.beq (i / 10) 20) || iv_ck1 i) = true := by decide +kernel
set_option maxRecDepth 1000000 in
theorem iv_ckA_21 : (List.range 235).all (fun i => !(Nat.beq (i / 10) 21) || iv_ck1 i) = true := by decide +kernel
set_option maxRecDepth 1000000 in
theorem iv_ckA_22 : (List.range 235).all (fun i => !(Nat.beq (i / 10) 22) || iv_ck1 i) = true := by decide +kernel
set_option maxRecDepth 1000000 in
theorem iv_ckA_23 : (List.range 235).all (fun i => !(Nat.beq (i / 10) 23) || iv_ck1 i) = true := by decide +kernel
end
section
/-! THE LAW'S OWN BYTES -/
set_option maxRecDepth 1000000 in
theorem iv_ckB_0 : (List.range 1134).all (fun p => !(Nat.beq (p / 100) 0) || iv_ckp 235 p) = true := by decide +kernel
set_option maxRecDepth 1000000 in
theorem iv_ckB_1 : (List.range 1134).all (fun p => !(Nat.beq (p / 100) 1) || iv_ckp 235 p) = true := by decide +kernel
set_option maxRecDepth 1000000 in
theorem iv_ckB_2 : (List.range 1134).all (fun p => !(Nat.beq (p / 100) 2) || iv_ckp 235 p) = true := by decide +kernel
set_option maxRecDepth 1000000 in
theorem iv_ckB_3 : (List.range 1134).all (fun p => !(Nat.beq (p / 100) 3) || iv_ckp 235 p) = true := by decide +kernel
set_option maxRecDepth 1000000 in
theorem iv_ckB_4 : (List.range 1134).all (fun p => !(Nat.beq (p / 100) 4) || iv_ckp 235 p) = true := by decide +kernel
set_option maxRecDepth 1000000 in
theorem iv_ckB_5 : (List.range 1134).all (fun p => !(Nat.beq (p / 100) 5) || iv_ckp 235 p) = true := by decide +kernel
set_option maxRecDepth 1000000 in
theorem iv_ckB_6 : (List.range 1134).all (fun p => !(Nat.beq (p / 100) 6) || iv_ckp 235 p) = true := by decide +kernel
set_option maxRecDepth 1000000 in
theorem iv_ckB_7 : (List.range 1134).all (fun p => !(Nat.beq (p / 100) 7) || iv_ckp 235 p) = true := by decide +kernel
set_option maxRecDepth 1000000 in
theorem iv_ckB_8 : (List.range 1134).all (fun p => !(Nat.beq (p / 100) 8) || iv_ckp 235 p) = true := by decide +kernel
set_option maxRecDepth 1000000 in
theorem iv_ckB_9 : (List.range 1134).all (fun p => !(Nat.beq (p / 100) 9) || iv_ckp 235 p) = true := by decide +kernel
set_option maxRecDepth 1000000 in
theorem iv_ckB_10 : (List.range 1134).all (fun p => !(Nat.beq (p / 100) 10) || iv_ckp 235 p) = true := by decide +kernel
set_option maxRecDepth 1000000 in
theorem iv_ckB_11 : (List.range 1134).all (fun p => !(Nat.beq (p / 100) 11) || iv_ckp 235 p) = true := by decide +kernel
theorem iv_ln235 : iv_ln 235 = 1134 := by decide +kernel
theorem iv_ckB_all (p : Nat) (h : p < 1134) : iv_ckp 235 p = true := by
  have hk : p / 100 = 0 ∨ p / 100 = 1 ∨ p / 100 = 2 ∨ p / 100 = 3 ∨ p / 100 = 4 ∨ p / 100 = 5 ∨ p / 100 = 6 ∨ p / 100 = 7 ∨ p / 100 = 8 ∨ p / 100 = 9 ∨ p / 100 = 10 ∨ p / 100 = 11 := by omega
  rcases hk with e | e | e | e | e | e | e | e | e | e | e | e
  · have a := List.all_eq_true.mp iv_ckB_0 p (List.mem_range.mpr h)
    rw [e] at a
    exact a
  · have a := List.all_eq_true.mp iv_ckB_1 p (List.mem_range.mpr h)
    rw [e] at a
    exact a
  · have a := List.all_eq_true.mp iv_ckB_2 p (List.mem_range.mpr h)
    rw [e] at a
    exact a
  · have a := List.all_eq_true.mp iv_ckB_3 p (List.mem_range.mpr h)
    rw [e] at a
    exact a
  · have a := List.all_eq_true.mp iv_ckB_4 p (List.mem_range.mpr h)
    rw [e] at a
    exact a
  · have a := List.all_eq_true.mp iv_ckB_5 p (List.mem_range.mpr h)
    rw [e] at a
    exact a
  · have a := List.all_eq_true.mp iv_ckB_6 p (List.mem_range.mpr h)
    rw [e] at a
    exact a
  · have a := List.all_eq_true.mp iv_ckB_7 p (List.mem_range.mpr h)
    rw [e] at a
    exact a
  · have a := List.all_eq_true.mp iv_ckB_8 p (List.mem_range.mpr h)
    rw [e] at a
    exact a
  · have a := List.all_eq_true.mp iv_ckB_9 p (List.mem_range.mpr h)
    rw [e] at a
    exact a
  · have a := List.all_eq_true.mp iv_ckB_10 p (List.mem_range.mpr h)
    rw [e] at a
    exact a
  · have a := List.all_eq_true.mp iv_ckB_11 p (List.mem_range.mpr h)
    rw [e] at a
    exact a
theorem iv_ck1_all (i : Nat) (h : i < 236) : iv_ck1 i = true := by
  by_cases hl : i = 235
  · subst hl
    unfold iv_ck1
    rw [iv_ln235]
    exact List.all_eq_true.mpr fun p hp => iv_ckB_all p (List.mem_range.mp hp)
  have h2 : i < 235 := by omega
  have hk : i / 10 = 0 ∨ i / 10 = 1 ∨ i / 10 = 2 ∨ i / 10 = 3 ∨ i / 10 = 4 ∨ i / 10 = 5 ∨ i / 10 = 6 ∨ i / 10 = 7 ∨ i / 10 = 8 ∨ i / 10 = 9 ∨ i / 10 = 10 ∨ i / 10 = 11 ∨ i / 10 = 12 ∨ i / 10 = 13 ∨ i / 10 = 14 ∨ i / 10 = 15 ∨ i / 10 = 16 ∨ i / 10 = 17 ∨ i / 10 = 18 ∨ i / 10 = 19 ∨ i / 10 = 20 ∨ i / 10 = 21 ∨ i / 10 = 22 ∨ i / 10 = 23 := by omega
  rcases hk with e | e | e | e | e | e | e | e | e | e | e | e | e | e | e | e | e | e | e | e | e | e | e | e
  · have a := List.all_eq_true.mp iv_ckA_0 i (List.mem_range.mpr h2)
    rw [e] at a
    exact a
  · have a := List.all_eq_true.mp iv_ckA_1 i (List.mem_range.mpr h2)
    rw [e] at a
    exact a
  · have a := List.all_eq_true.mp iv_ckA_2 i (List.mem_range.mpr h2)
    rw [e] at a
    exact a
  · have a := List.all_eq_true.mp iv_ckA_3 i (List.mem_range.mpr h2)
    rw [e] at a
    exact a
  · have a := List.all_eq_true.mp iv_ckA_4 i (List.mem_range.mpr h2)
    rw [e] at a
    exact a
  · have a := List.all_eq_true.mp iv_ckA_5 i (List.mem_range.mpr h2)
    rw [e] at a
    exact a
  · have a := List.all_eq_true.mp iv_ckA_6 i (List.mem_range.mpr h2)
    rw [e] at a
    exact a
  · have a := List.all_eq_true.mp iv_ckA_7 i (List.mem_range.mpr h2)
    rw [e] at a
    exact a
  · have a := List.all_eq_true.mp iv_ckA_8 i (List.mem_range.mpr h2)
    rw [e] at a
    exact a
  · have a := List.all_eq_true.mp iv_ckA_9 i (List.mem_range.mpr h2)
    rw [e] at a
    exact a
  · have a := List.all_eq_true.mp iv_ckA_10 i (List.mem_range.mpr h2)
    rw [e] at a
    exact a
  · have a := List.all_eq_true.mp iv_ckA_11 i (List.mem_range.mpr h2)
    rw [e] at a
    exact a
  · have a := List.all_eq_true.mp iv_ckA_12 i (List.mem_range.mpr h2)
    rw [e] at a
    exact a
  · have a := List.all_eq_true.mp iv_ckA_13 i (List.mem_range.mpr h2)
    rw [e] at a
    exact a
  · have a := List.all_eq_true.mp iv_ckA_14 i (List.mem_range.mpr h2)
    rw [e] at a
    exact a
  · have a := List.all_eq_true.mp iv_ckA_15 i (List.mem_range.mpr h2)
    rw [e] at a
    exact a
  · have a := List.all_eq_true.mp iv_ckA_16 i (List.mem_range.mpr h2)
    rw [e] at a
    exact a
  · have a := List.all_eq_true.mp iv_ckA_17 i (List.mem_range.mpr h2)
    rw [e] at a
    exact a
  · have a := List.all_eq_true.mp iv_ckA_18 i (List.mem_range.mpr h2)
    rw [e] at a
    exact a
  · have a := List.all_eq_true.mp iv_ckA_19 i (List.mem_range.mpr h2)
    rw [e] at a
    exact a
  · have a := List.all_eq_true.mp iv_ckA_20 i (List.mem_range.mpr h2)
    rw [e] at a
    exact a
  · have a := List.all_eq_true.mp iv_ckA_21 i (List.mem_range.mpr h2)
    rw [e] at a
    exact a
  · have a := List.all_eq_true.mp iv_ckA_22 i (List.mem_range.mpr h2)
    rw [e] at a
    exact a
  · have a := List.all_eq_true.mp iv_ckA_23 i (List.mem_range.mpr h2)
    rw [e] at a
    exact a
end
section
theorem iv_ln_0 {i p : Nat} (h : p < iv_ln i) : i < 236 := by
  apply Classical.byContradiction
  intro q
  have e : Nat.ble 236 i = true := Nat.ble_eq_true_of_le (Nat.le_of_not_lt q)
  unfold iv_ln at h
  rw [e] at h
  exact absurd h (Nat.not_lt_zero _)
theorem iv_cd_in {i p : Nat} {op : Jvm.ClassFile.Instr} (h : iv_cd i p = some op) : i < 236 ∧ p < iv_ln i := by
  unfold iv_cd at h
  have hp := iv_blt (iv_bif h).1
  exact ⟨iv_ln_0 hp, hp⟩
theorem iv_dd {i p : Nat} {op : Jvm.ClassFile.Instr} (h : iv_cd i p = some op) : ∃ len, decode (iv_by i) p = .ok (op, len) ∧ (iv_n op = 0 ∨ len = iv_n op) := by
  obtain ⟨h1, h2⟩ := iv_cd_in h
  have a := List.all_eq_true.mp (iv_ck1_all i h1) p (List.mem_range.mpr h2)
  unfold iv_ckp at a
  rw [h] at a
  dsimp only at a
  split at a
  · rename_i q hq
    simp only [Bool.and_eq_true, Bool.or_eq_true, decide_eq_true_eq] at a
    obtain ⟨a1, a2⟩ := a
    refine ⟨q.2, by rw [hq, ← a1], ?_⟩
    rcases a2 with a2 | a2
    · exact Or.inl (Nat.eq_of_beq_eq_true a2)
    · exact Or.inr (Nat.eq_of_beq_eq_true a2)
  · cases a
theorem iv_dq {i p : Nat} {op : Jvm.ClassFile.Instr} (h : iv_cd i p = some op) (hn : iv_n op ≠ 0) : decode (iv_by i) p = .ok (op, iv_n op) := by
  obtain ⟨len, h1, h2⟩ := iv_dd h
  rw [h1, h2.resolve_left hn]
theorem iv_dw {i p : Nat} {op : Jvm.ClassFile.Instr} (h : iv_cd i p = some op) : ∃ len, decode (iv_by i) p = .ok (op, len) := by
  obtain ⟨len, h1, -⟩ := iv_dd h
  exact ⟨len, h1⟩
def iv_all (f : Nat → Nat → Bool) : Bool := (List.range 16).all fun a => (List.range 512).all fun b => f a b
theorem iv_all_s {f : Nat → Nat → Bool} (h : iv_all f = true) {a b : Nat} (ha : a < 16) (hb : b < 512) : f a b = true := List.all_eq_true.mp (List.all_eq_true.mp h a (List.mem_range.mpr ha)) b (List.mem_range.mpr hb)
def iv_wo (p : Option Nat) (w : Cond) : Bool := match p with
  | some i => iv_at i w
  | none => false
theorem iv_wo_s {p : Option Nat} {w : Cond} (h : iv_wo p w = true) : w ∈ iv_Wd := by
  unfold iv_wo at h
  split at h
  · exact iv_at_s h
  · cases h
theorem iv_fd_in {f i : Nat} {q : _} (h : iv_fd f i = some q) : f < 16 ∧ i < 512 := by
  unfold iv_fd at h
  have h1 := iv_bif h
  exact ⟨iv_blt (iv_bif h1.2).1, iv_blt h1.1⟩
theorem iv_nc_in {f i : Nat} {q : _} (h : iv_nc f i = some q) : f < 16 ∧ i < 512 := by
  unfold iv_nc at h
  have h1 := iv_bif h
  exact ⟨iv_blt (iv_bif h1.2).1, iv_blt h1.1⟩
theorem iv_ac_in {f i : Nat} {q : _} (h : iv_ac f i = some q) : f < 16 ∧ i < 512 := by
  unfold iv_ac at h
  have h1 := iv_bif h
  exact ⟨iv_blt (iv_bif h1.2).1, iv_blt h1.1⟩
theorem iv_mt_in {f i : Nat} {q : _} (h : iv_mt f i = some q) : f < 16 ∧ i < 512 := by
  unfold iv_mt at h
  have h1 := iv_bif h
  exact ⟨iv_blt (iv_bif h1.2).1, iv_blt h1.1⟩
theorem iv_lc_in {f i : Nat} {q : _} (h : iv_lc f i = some q) : f < 16 ∧ i < 512 := by
  unfold iv_lc at h
  have h1 := iv_bif h
  exact ⟨iv_blt (iv_bif h1.2).1, iv_blt h1.1⟩
theorem iv_l2_in {f i : Nat} {q : _} (h : iv_l2 f i = some q) : f < 16 ∧ i < 512 := by
  unfold iv_l2 at h
  have h1 := iv_bif h
  exact ⟨iv_blt (iv_bif h1.2).1, iv_blt h1.1⟩
theorem iv_oj_in {f i : Nat} {q : _} (h : iv_oj f i = some q) : f < 16 ∧ i < 512 := by
  unfold iv_oj at h
  have h1 := iv_bif h
  exact ⟨iv_blt (iv_bif h1.2).1, iv_blt h1.1⟩
theorem iv_mj_in {f i : Nat} {q : _} (h : iv_mj f i = some q) : f < 16 ∧ i < 512 := by
  unfold iv_mj at h
  have h1 := iv_bif h
  exact ⟨iv_blt (iv_bif h1.2).1, iv_blt h1.1⟩
theorem iv_mk_in {f i : Nat} {q : _} (h : iv_mk f i = some q) : f < 16 ∧ i < 512 := by
  unfold iv_mk at h
  have h1 := iv_bif h
  exact ⟨iv_blt (iv_bif h1.2).1, iv_blt h1.1⟩
theorem iv_cj_in {f i : Nat} {q : _} (h : iv_cj f i = some q) : f < 16 ∧ i < 512 := by
  unfold iv_cj at h
  have h1 := iv_bif h
  exact ⟨iv_blt (iv_bif h1.2).1, iv_blt h1.1⟩
def iv_ckF (f i : Nat) : Bool := match iv_fd f i with
  | none => true
  | some q => match iv_cl[q.1]? with
    | none => false
    | some c => decide (q.2 < c.2.2) && iv_wo (iv_fp f i) (.fieldLink (iv_cn f) i (c.2.1 q.2).1 (c.2.1 q.2).2.1 (c.2.1 q.2).2.2.1)
set_option maxRecDepth 1000000 in
theorem iv_ckF_all : iv_all iv_ckF = true := by decide +kernel
theorem iv_fF {f i : Nat} {q : Nat × Nat} (h : iv_fd f i = some q) : ∃ (C : String) (T : u_T) (N : Nat), iv_cl[q.1]? = some (C, T, N) ∧ q.2 < N ∧ Cond.fieldLink (iv_cn f) i (T q.2).1 (T q.2).2.1 (T q.2).2.2.1 ∈ iv_Wd := by
  obtain ⟨a1, a2⟩ := iv_fd_in h
  have a := iv_all_s iv_ckF_all a1 a2
  unfold iv_ckF at a
  rw [h] at a
  dsimp only at a
  split at a
  · cases a
  · rename_i c hc
    simp only [Bool.and_eq_true, decide_eq_true_eq] at a
    exact ⟨c.1, c.2.1, c.2.2, hc, a.1, iv_wo_s a.2⟩
def iv_ckN (f i : Nat) : Bool := match iv_nc f i with
  | none => true
  | some q => match iv_cl[q]? with
    | none => false
    | some c => iv_wo (iv_np f i) (.classLink (iv_cn f) i c.1)
set_option maxRecDepth 1000000 in
theorem iv_ckN_all : iv_all iv_ckN = true := by decide +kernel
theorem iv_fN {f i q : Nat} (h : iv_nc f i = some q) : ∃ (C : String) (T : u_T) (N : Nat), iv_cl[q]? = some (C, T, N) ∧ Cond.classLink (iv_cn f) i C ∈ iv_Wd := by
  obtain ⟨a1, a2⟩ := iv_nc_in h
  have a := iv_all_s iv_ckN_all a1 a2
  unfold iv_ckN at a
  rw [h] at a
  dsimp only at a
  split at a
  · cases a
  · rename_i c hc
    exact ⟨c.1, c.2.1, c.2.2, hc, iv_wo_s a⟩
def iv_ckQ (f i : Nat) : Bool := match iv_ac f i with
  | none => true
  | some q => match iv_ty[q]? with
    | some (.object C) => decide (C ∈ iv_ao) && iv_wo (iv_np f i) (.classLink (iv_cn f) i C)
    | _ => false
set_option maxRecDepth 1000000 in
theorem iv_ckQ_all : iv_all iv_ckQ = true := by decide +kernel
theorem iv_fQ {f i t : Nat} (h : iv_ac f i = some t) : ∃ C : String, iv_ty[t]? = some (.object C) ∧ Cond.classLink (iv_cn f) i C ∈ iv_Wd ∧ C ∈ iv_ao := by
  obtain ⟨a1, a2⟩ := iv_ac_in h
  have a := iv_all_s iv_ckQ_all a1 a2
  unfold iv_ckQ at a
  rw [h] at a
  dsimp only at a
  split at a
  · rename_i C hc
    simp only [Bool.and_eq_true, decide_eq_true_eq] at a
    exact ⟨C, hc, iv_wo_s a.2, a.1⟩
  · cases a
def iv_ckL (f i : Nat) : Bool := (match iv_lc f i with
  | none => true
  | some v => iv_wo (iv_lp f i) (.constant (iv_cn f) i v)) && (match iv_l2 f i with
  | none => true
  | some v => iv_wo (iv_l2p f i) (.constantLong (iv_cn f) i v))
set_option maxRecDepth 1000000 in
theorem iv_ckL_all : iv_all iv_ckL = true := by decide +kernel
theorem iv_fL {f i : Nat} {v : Int32} (h : iv_lc f i = some v) : Cond.constant (iv_cn f) i v ∈ iv_Wd := by
  obtain ⟨a1, a2⟩ := iv_lc_in h
  have a := iv_all_s iv_ckL_all a1 a2
  unfold iv_ckL at a
  rw [h] at a
  exact iv_wo_s (Bool.and_eq_true_iff.mp a).1
theorem iv_fL2 {f i : Nat} {v : Int64} (h : iv_l2 f i = some v) : Cond.constantLong (iv_cn f) i v ∈ iv_Wd := by
  obtain ⟨a1, a2⟩ := iv_l2_in h
  have a := iv_all_s iv_ckL_all a1 a2
  unfold iv_ckL at a
  rw [h] at a
  exact iv_wo_s (Bool.and_eq_true_iff.mp a).2
def iv_ckO (f i : Nat) : Bool := (match iv_oj f i with
  | none => true
  | some _ => iv_wo (iv_op_ f i) (.methodLink (iv_cn f) i Lib.objectInit) && iv_wo (iv_xpos[0]?) (.instanceMethod Lib.objectInit) && iv_wo (iv_xpos[1]?) (.code Lib.objectInit ⟨#[0xb1]⟩ 1 none)) && (match iv_cj f i with
  | none => true
  | some _ => iv_wo (iv_cpp f i) (.methodLink (iv_cn f) i arraycopyName) && iv_wo (iv_xpos[2]?) (.native arraycopyName) && iv_wo (iv_xpos[3]?) (.static arraycopyName) && iv_wo (iv_xpos[4]?) (.initialized "java/lang/System"))
set_option maxRecDepth 1000000 in
theorem iv_ckO_all : iv_all iv_ckO = true := by decide +kernel
theorem iv_fO {f i : Nat} (h : iv_oi f i = true) : Cond.methodLink (iv_cn f) i Lib.objectInit ∈ iv_Wd ∧ Cond.instanceMethod Lib.objectInit ∈ iv_Wd ∧ Cond.code Lib.objectInit ⟨#[0xb1]⟩ 1 none ∈ iv_Wd := by
  obtain ⟨v, hv⟩ := Option.isSome_iff_exists.mp h
  obtain ⟨a1, a2⟩ := iv_oj_in hv
  have a := iv_all_s iv_ckO_all a1 a2
  unfold iv_ckO at a
  rw [hv] at a
  have b := (Bool.and_eq_true_iff.mp a).1
  simp only [Bool.and_eq_true] at b
  exact ⟨iv_wo_s b.1.1, iv_wo_s b.1.2, iv_wo_s b.2⟩
theorem iv_fY {f i : Nat} (h : iv_cp f i = true) : Cond.methodLink (iv_cn f) i arraycopyName ∈ iv_Wd ∧ Cond.native arraycopyName ∈ iv_Wd ∧ Cond.static arraycopyName ∈ iv_Wd ∧ Cond.initialized "java/lang/System" ∈ iv_Wd := by
  obtain ⟨v, hv⟩ := Option.isSome_iff_exists.mp h
  obtain ⟨a1, a2⟩ := iv_cj_in hv
  have a := iv_all_s iv_ckO_all a1 a2
  unfold iv_ckO at a
  rw [hv] at a
  have b := (Bool.and_eq_true_iff.mp a).2
  simp only [Bool.and_eq_true] at b
  exact ⟨iv_wo_s b.1.1.1, iv_wo_s b.1.1.2, iv_wo_s b.1.2, iv_wo_s b.2⟩
def iv_ckY (f i : Nat) : Bool := match iv_mj f i with
  | none => true
  | some _ => iv_wo (iv_mmp f i) (.methodLink (iv_cn f) i Lib.Math.min.name) && iv_wo (iv_xpos[5]?) (.static Lib.Math.min.name) && iv_wo (iv_xpos[6]?) (.initialized "java/lang/Math") && iv_wo (iv_xpos[7]?) (.code Lib.Math.min.name Lib.Math.min.code 2 (some .int))
set_option maxRecDepth 1000000 in
theorem iv_ckY_all : iv_all iv_ckY = true := by decide +kernel
theorem iv_fMm {f i : Nat} (h : iv_mm f i = true) : Cond.methodLink (iv_cn f) i Lib.Math.min.name ∈ iv_Wd ∧ Cond.static Lib.Math.min.name ∈ iv_Wd ∧ Cond.initialized "java/lang/Math" ∈ iv_Wd ∧ Cond.code Lib.Math.min.name Lib.Math.min.code 2 (some .int) ∈ iv_Wd := by
  obtain ⟨v, hv⟩ := Option.isSome_iff_exists.mp h
  obtain ⟨a1, a2⟩ := iv_mj_in hv
  have a := iv_all_s iv_ckY_all a1 a2
  unfold iv_ckY at a
  rw [hv] at a
  simp only [Bool.and_eq_true] at a
  exact ⟨iv_wo_s a.1.1.1, iv_wo_s a.1.1.2, iv_wo_s a.1.2, iv_wo_s a.2⟩
def iv_ckX2 (f i : Nat) : Bool := match iv_mk f i with
  | none => true
  | some _ => iv_wo (iv_map f i) (.methodLink (iv_cn f) i Lib.Math.max.name) && iv_wo (iv_xpos[8]?) (.static Lib.Math.max.name) && iv_wo (iv_xpos[6]?) (.initialized "java/lang/Math") && iv_wo (iv_xpos[9]?) (.code Lib.Math.max.name Lib.Math.max.code 2 (some .int))
set_option maxRecDepth 1000000 in
theorem iv_ckX2_all : iv_all iv_ckX2 = true := by decide +kernel
theorem iv_fMx {f i : Nat} (h : iv_ma f i = true) : Cond.methodLink (iv_cn f) i Lib.Math.max.name ∈ iv_Wd ∧ Cond.static Lib.Math.max.name ∈ iv_Wd ∧ Cond.initialized "java/lang/Math" ∈ iv_Wd ∧ Cond.code Lib.Math.max.name Lib.Math.max.code 2 (some .int) ∈ iv_Wd := by
  obtain ⟨v, hv⟩ := Option.isSome_iff_exists.mp h
  obtain ⟨a1, a2⟩ := iv_mk_in hv
  have a := iv_all_s iv_ckX2_all a1 a2
  unfold iv_ckX2 at a
  rw [hv] at a
  simp only [Bool.and_eq_true] at a
  exact ⟨iv_wo_s a.1.1.1, iv_wo_s a.1.1.2, iv_wo_s a.1.2, iv_wo_s a.2⟩
def iv_nrv (v : Value) : Bool := match v with
  | .ref _ => false
  | .retAddr _ => false
  | _ => true
def iv_ckC (c : Nat) : Bool := match iv_cl[c]? with
  | none => false
  | some r => Nat.beq (iv_df c).length r.2.2 && decide (r.1 = iv_cn (iv_ow c)) && iv_wo ((iv_cpos c)[0]?) (.instantiable r.1 r.2.2) && iv_wo ((iv_cpos c)[1]?) (.initialized r.1) && (iv_df c).all iv_nrv &&
    (List.range r.2.2).all (fun k => iv_wo ((iv_cpos c)[k + 2]?) (u_lay r.1 r.2.1 k) && decide (parseFieldDescriptor (r.2.1 k).2.2.1 = some (iv_ft c k)) && decide ((r.2.1 k).1 = r.1) && decide ((r.2.1 k).2.2.2 = iv_fi c k) && decide (defaultValue (iv_ft c k) = vp_V (iv_df c) k)) &&
    (List.range r.2.2).all (fun a => (List.range r.2.2).all (fun b => Nat.beq a b || decide ((r.2.1 a).2.1 ≠ (r.2.1 b).2.1)))
set_option maxRecDepth 1000000 in
theorem iv_ckC_all : (List.range iv_cl.length).all iv_ckC = true := by decide +kernel
theorem iv_fC {c : Nat} {C : String} {T : u_T} {N : Nat} (h : iv_cl[c]? = some (C, T, N)) : (∀ w ∈ u_ws C T N, w ∈ iv_Wd) ∧ (∀ k, k < N → parseFieldDescriptor (T k).2.2.1 = some (iv_ft c k)) ∧ (∀ a, a < N → ∀ b, b < N → a ≠ b → (T a).2.1 ≠ (T b).2.1) ∧ Cond.instantiable C N ∈ iv_Wd ∧ Cond.initialized C ∈ iv_Wd ∧ (iv_df c).length = N ∧ (∀ j, j < N → defaultValue (iv_ft c j) = vp_V (iv_df c) j) ∧ (∀ k, k < N → (T k).1 = C ∧ (T k).2.2.2 = iv_fi c k) ∧ C = iv_cn (iv_ow c) ∧ (∀ v ∈ iv_df c, iv_nrv v = true) := by
  have hl : c < iv_cl.length := (List.getElem?_eq_some_iff.mp h).1
  have a := List.all_eq_true.mp iv_ckC_all c (List.mem_range.mpr hl)
  unfold iv_ckC at a
  rw [h] at a
  dsimp only at a
  simp only [Bool.and_eq_true, decide_eq_true_eq] at a
  obtain ⟨⟨⟨⟨⟨⟨a1, a2⟩, a3⟩, a4⟩, a5⟩, a6⟩, a7⟩ := a
  have b := fun (k : Nat) (hk : k < N) => List.all_eq_true.mp a6 k (List.mem_range.mpr hk)
  simp only [Bool.and_eq_true, decide_eq_true_eq] at b
  refine ⟨fun w hw => ?_, fun k hk => (b k hk).1.1.1.2, fun x hx y hy hne => ?_, iv_wo_s a3, iv_wo_s a4, Nat.eq_of_beq_eq_true a1, fun j hj => (b j hj).2, fun k hk => ⟨(b k hk).1.1.2, (b k hk).1.2⟩, a2, fun v hv => List.all_eq_true.mp a5 v hv⟩
  · obtain ⟨k, hk, rfl⟩ := List.mem_map.mp hw
    exact iv_wo_s (b k (List.mem_range.mp hk)).1.1.1.1
  · have q := List.all_eq_true.mp (List.all_eq_true.mp a7 x (List.mem_range.mpr hx)) y (List.mem_range.mpr hy)
    simp only [Bool.or_eq_true, decide_eq_true_eq] at q
    rcases q with q | q
    · exact absurd (Nat.eq_of_beq_eq_true q) hne
    · exact q
def iv_ckM (i : Nat) : Bool := !iv_inc i || (iv_at (iv_pc i) (.code (iv_y i) (iv_by i) (iv_mx i) (iv_rt i)) && iv_at (iv_pi_ i) (.initialized (iv_y i).cls) && plainName (iv_y i).cls && decide ((iv_y i).cls ≠ "java/lang/invoke/MethodHandle" ∧ (iv_y i).cls ≠ "java/lang/invoke/VarHandle") && decide ((parseMethodDescriptor (iv_y i).desc).map (fun d => d.parameters.length) = some (iv_na i)) && Nat.ble (iv_mx i) 21 && decide ((iv_y i).cls = iv_cn (iv_kf i)) && (match iv_rc i with
  | none => iv_at (iv_ps i) (.static (iv_y i)) && !(iv_ini i)
  | some c => iv_at (iv_ps i) (.instanceMethod (iv_y i)) && (match iv_cl[c]? with
    | some r => decide (r.1 = (iv_y i).cls)
    | none => false) && (bif iv_ini i then decide ((iv_y i).name = "<init>") && decide (iv_rt i = none) else iv_at (iv_pl i) (.selects (iv_y i).cls (iv_y i) (iv_y i)))))
set_option maxRecDepth 1000000 in
theorem iv_ckMA_0 : (List.range 235).all (fun i => !(Nat.beq (i / 40) 0) || iv_ckM i) = true := by decide +kernel
set_option maxRecDepth 1000000 in
theorem iv_ckMA_1 : (List.range 235).all (fun i => !(Nat.beq (i / 40) 1) || iv_ckM i) = true := by decide +kernel
set_option maxRecDepth 1000000 in
theorem iv_ckMA_2 : (List.range 235).all (fun i => !(Nat.beq (i / 40) 2) || iv_ckM i) = true := by decide +kernel
set_option maxRecDepth 1000000 in
theorem iv_ckMA_3 : (List.range 235).all (fun i => !(Nat.beq (i / 40) 3) || iv_ckM i) = true := by decide +kernel
set_option maxRecDepth 1000000 in
theorem iv_ckMA_4 : (List.range 235).all (fun i => !(Nat.beq (i / 40) 4) || iv_ckM i) = true := by decide +kernel
set_option maxRecDepth 1000000 in
theorem iv_ckMA_5 : (List.range 235).all (fun i => !(Nat.beq (i / 40) 5) || iv_ckM i) = true := by decide +kernel
theorem iv_ckM_all (i : Nat) (h : i < 235) : iv_ckM i = true := by
  have hk : i / 40 = 0 ∨ i / 40 = 1 ∨ i / 40 = 2 ∨ i / 40 = 3 ∨ i / 40 = 4 ∨ i / 40 = 5 := by omega
  rcases hk with e | e | e | e | e | e
  · have a := List.all_eq_true.mp iv_ckMA_0 i (List.mem_range.mpr h)
    rw [e] at a
    exact a
  · have a := List.all_eq_true.mp iv_ckMA_1 i (List.mem_range.mpr h)
    rw [e] at a
    exact a
  · have a := List.all_eq_true.mp iv_ckMA_2 i (List.mem_range.mpr h)
    rw [e] at a
    exact a
  · have a := List.all_eq_true.mp iv_ckMA_3 i (List.mem_range.mpr h)
    rw [e] at a
    exact a
  · have a := List.all_eq_true.mp iv_ckMA_4 i (List.mem_range.mpr h)
    rw [e] at a
    exact a
  · have a := List.all_eq_true.mp iv_ckMA_5 i (List.mem_range.mpr h)
    rw [e] at a
    exact a
theorem iv_fM {i : Nat} (h : i < 235) (hi : iv_inc i = true) : Cond.code (iv_y i) (iv_by i) (iv_mx i) (iv_rt i) ∈ iv_Wd ∧ Cond.initialized (iv_y i).cls ∈ iv_Wd ∧ plainName (iv_y i).cls = true ∧ ((iv_y i).cls ≠ "java/lang/invoke/MethodHandle" ∧ (iv_y i).cls ≠ "java/lang/invoke/VarHandle" ∧ (parseMethodDescriptor (iv_y i).desc).map (fun d => d.parameters.length) = some (iv_na i)) ∧ iv_mx i ≤ 21 ∧ (iv_y i).cls = iv_cn (iv_kf i) ∧ (iv_rc i = none → Cond.static (iv_y i) ∈ iv_Wd ∧ iv_ini i = false) ∧ (∀ c, iv_rc i = some c → Cond.instanceMethod (iv_y i) ∈ iv_Wd ∧ (∃ (T : u_T) (N : Nat), iv_cl[c]? = some ((iv_y i).cls, T, N)) ∧ (iv_ini i = true → (iv_y i).name = "<init>" ∧ iv_rt i = none) ∧ (iv_ini i = false → Cond.selects (iv_y i).cls (iv_y i) (iv_y i) ∈ iv_Wd)) := by
  have a := iv_ckM_all i h
  unfold iv_ckM at a
  rw [hi] at a
  simp only [Bool.not_true, Bool.false_or, Bool.and_eq_true, decide_eq_true_eq] at a
  obtain ⟨⟨⟨⟨⟨⟨⟨a1, a2⟩, a3⟩, a4⟩, a5⟩, a6⟩, a7⟩, a8⟩ := a
  refine ⟨iv_at_s a1, iv_at_s a2, a3, ⟨a4.1, a4.2, a5⟩, Nat.le_of_ble_eq_true a6, a7, fun hc => ?_, fun c hc => ?_⟩
  · rw [hc] at a8
    simp only [Bool.and_eq_true, Bool.not_eq_true'] at a8
    exact ⟨iv_at_s a8.1, a8.2⟩
  · rw [hc] at a8
    simp only [Bool.and_eq_true] at a8
    obtain ⟨⟨b1, b2⟩, b3⟩ := a8
    refine ⟨iv_at_s b1, ?_, fun hi => ?_, fun hi => ?_⟩
    · split at b2
      · rename_i r hr
        have e := of_decide_eq_true b2
        exact ⟨r.2.1, r.2.2, by rw [hr, ← e]⟩
      · cases b2
    · rw [hi] at b3
      have b3 := Bool.and_eq_true_iff.mp (show (_ && _) = true from b3)
      exact ⟨of_decide_eq_true b3.1, of_decide_eq_true b3.2⟩
    · rw [hi] at b3
      exact iv_at_s b3
def iv_ckT (f i : Nat) : Bool := match iv_mt f i with
  | none => true
  | some j => (Nat.ble (j + 1) 235 && iv_inc j) && (match iv_nn f i with
    | none => iv_wo (iv_mp f i) (.methodLink (iv_cn f) i (iv_y j))
    | some h => decide ((iv_cn f, i, iv_y j, h) ∈ iv_nw))
set_option maxRecDepth 1000000 in
theorem iv_ckT_all : iv_all iv_ckT = true := by decide +kernel
theorem iv_fT {f i j : Nat} (h : iv_mt f i = some j) : (j < 235 ∧ iv_inc j = true) ∧ (iv_nn f i = none → Cond.methodLink (iv_cn f) i (iv_y j) ∈ iv_Wd) ∧ (∀ x, iv_nn f i = some x → (iv_cn f, i, iv_y j, x) ∈ iv_nw) := by
  obtain ⟨a1, a2⟩ := iv_mt_in h
  have a := iv_all_s iv_ckT_all a1 a2
  unfold iv_ckT at a
  rw [h] at a
  dsimp only at a
  simp only [Bool.and_eq_true] at a
  refine ⟨⟨Nat.le_of_ble_eq_true a.1.1, a.1.2⟩, fun hn => ?_, fun x hx => ?_⟩
  · have b := a.2
    rw [hn] at b
    exact iv_wo_s b
  · have b := a.2
    rw [hx] at b
    exact of_decide_eq_true b
set_option maxRecDepth 1000000 in
theorem iv_ckA_all : iv_wo (iv_apos[0]?) (.arrayClass .int) = true ∧ iv_wo (iv_apos[1]?) (.arrayClass .long) = true ∧ iv_wo (iv_apos[2]?) (.arrayClass .boolean) = true ∧ iv_wo (iv_apos[3]?) (.arrayClass .byte) = true := by decide +kernel
theorem iv_nfw : nativeFrameWords "java/lang/System" "arraycopy" 5 + 11 + 8 ≤ 100 := by decide +kernel
set_option maxRecDepth 1000000 in
theorem iv_ckX : (iv_nw.all fun q => decide (Cond.methodLinkNest q.1 q.2.1 q.2.2.1 q.2.2.2 ∈ lw_tbl)) = true ∧ (iv_ao.all fun C => decide (Cond.arrayOver (.object C) ∈ lw_tbl)) = true := by decide +kernel
end
section
/-! AN INTERPRETER over numbered cells: a reference is the number of a cell (its place in a list); the script is .retAddr 0. What it computes, the machine does (the soundness part). -/
abbrev iv_C : Type := (Nat × List Value) ⊕ (Nat × vp_A)
abbrev iv_H : Type := List iv_C
abbrev iv_L : Type := List (Option Value)
abbrev iv_S : Type := Nat × iv_L × List Value × iv_H
/-- the script: its length and numbers; none: no script in sight -/
abbrev iv_Z : Type := Option (Nat × (Nat → Int32))
section
variable {α : Type}
def iv_i (st : List Value) (f : Int32 → List Value → Option α) : Option α := match st with
  | .int x :: r => f x r
  | _ => none
def iv_j (st : List Value) (f : Int64 → List Value → Option α) : Option α := match st with
  | .long x :: r => f x r
  | _ => none
def iv_r (st : List Value) (f : Nat → List Value → Option α) : Option α := match st with
  | .ref x :: r => f x r
  | _ => none
def iv_1 (st : List Value) (f : Value → List Value → Option α) : Option α := match st with
  | x :: r => if x.category = 1 then f x r else none
  | _ => none
def iv_2 (st : List Value) (f : Value → List Value → Option α) : Option α := match st with
  | x :: r => if x.category = 2 then f x r else none
  | _ => none
theorem iv_i_s {st : List Value} {f : Int32 → List Value → Option α} {a : α} (h : iv_i st f = some a) : ∃ x r, st = .int x :: r ∧ f x r = some a := by
  unfold iv_i at h
  split at h
  · exact ⟨_, _, rfl, h⟩
  · cases h
theorem iv_j_s {st : List Value} {f : Int64 → List Value → Option α} {a : α} (h : iv_j st f = some a) : ∃ x r, st = .long x :: r ∧ f x r = some a := by
  unfold iv_j at h
  split at h
  · exact ⟨_, _, rfl, h⟩
  · cases h
theorem iv_r_s {st : List Value} {f : Nat → List Value → Option α} {a : α} (h : iv_r st f = some a) : ∃ x r, st = .ref x :: r ∧ f x r = some a := by
  unfold iv_r at h
  split at h
  · exact ⟨_, _, rfl, h⟩
  · cases h
theorem iv_1_s {st : List Value} {f : Value → List Value → Option α} {a : α} (h : iv_1 st f = some a) : ∃ x r, st = x :: r ∧ x.category = 1 ∧ f x r = some a := by
  unfold iv_1 at h
  split at h
  · split at h
    · exact ⟨_, _, rfl, by assumption, h⟩
    · cases h
  · cases h
theorem iv_2_s {st : List Value} {f : Value → List Value → Option α} {a : α} (h : iv_2 st f = some a) : ∃ x r, st = x :: r ∧ x.category = 2 ∧ f x r = some a := by
  unfold iv_2 at h
  split at h
  · split at h
    · exact ⟨_, _, rfl, by assumption, h⟩
    · cases h
  · cases h
/-- locals -/
def iv_li (al : iv_L) (i : Nat) (f : Int32 → Option α) : Option α := match al[i]? with
  | some (some (.int x)) => f x
  | _ => none
def iv_lj (al : iv_L) (i : Nat) (f : Int64 → Option α) : Option α := match al[i]? with
  | some (some (.long x)) => f x
  | _ => none
def iv_la (al : iv_L) (i : Nat) (f : Value → Option α) : Option α := match al[i]? with
  | some (some (.ref x)) => f (.ref x)
  | some (some (.retAddr x)) => f (.retAddr x)
  | _ => none
theorem iv_li_s {al : iv_L} {i : Nat} {f : Int32 → Option α} {a : α} (h : iv_li al i f = some a) : ∃ x, al[i]? = some (some (.int x)) ∧ f x = some a := by
  unfold iv_li at h
  split at h
  · exact ⟨_, by assumption, h⟩
  · cases h
theorem iv_lj_s {al : iv_L} {i : Nat} {f : Int64 → Option α} {a : α} (h : iv_lj al i f = some a) : ∃ x, al[i]? = some (some (.long x)) ∧ f x = some a := by
  unfold iv_lj at h
  split at h
  · exact ⟨_, by assumption, h⟩
  · cases h
theorem iv_la_s {al : iv_L} {i : Nat} {f : Value → Option α} {a : α} (h : iv_la al i f = some a) : ∃ v, al[i]? = some (some v) ∧ ((∃ k, v = .ref k) ∨ ∃ k, v = .retAddr k) ∧ f v = some a := by
  unfold iv_la at h
  split at h
  · exact ⟨_, by assumption, Or.inl ⟨_, rfl⟩, h⟩
  · exact ⟨_, by assumption, Or.inr ⟨_, rfl⟩, h⟩
  · cases h
end
def iv_k (al : iv_L) (i : Nat) : iv_L := match i with
  | 0 => al
  | j + 1 => match al[j]? with
    | some (some w) => if w.category = 2 then al.set j none else al
    | _ => al
def iv_s1 (al : iv_L) (i : Nat) (v : Value) : iv_L := (iv_k al i).set i (some v)
def iv_s2 (al : iv_L) (i : Nat) (v : Value) : iv_L := ((iv_k al i).set (i + 1) none).set i (some v)
def iv_tg (pc : Nat) (off : Int) : Option Nat := if 0 ≤ (pc : Int) + off then some ((pc : Int) + off).toNat else none
theorem iv_tg_s {pc : Nat} {off : Int} {t : Nat} (h : iv_tg pc off = some t) : (pc : Int) + off = (t : Int) := by
  unfold iv_tg at h
  split at h
  · cases h; omega
  · cases h
/-- slots of a cell, of a heap -/
def iv_cz (c : iv_C) : Nat := match c with
  | .inl o => o.2.length
  | .inr a => a.2.1
def iv_sz : iv_H → Nat
  | [] => 0
  | c :: h => iv_cz c + iv_sz h
/-- what a field of that type takes as it is -/
def iv_ok (ty : FieldType) (v : Value) : Bool := match ty, v with
  | .int, .int _ => true
  | .long, .long _ => true
  | .boolean, .int x => decide (x = 0) || decide (x = 1)
  | .object _, .ref _ => true
  | .array _, .ref _ => true
  | _, _ => false
/-- heap accesses -/
def iv_gf (mi idx : Nat) (h : iv_H) (k : Nat) : Option Value := match iv_fd (iv_kf mi) idx with
  | some q => match h[k]? with
    | some (.inl o) => if o.1 = q.1 then o.2[q.2]? else none
    | _ => none
  | none => none
def iv_pf (mi idx : Nat) (h : iv_H) (k : Nat) (v : Value) : Option (Option Nat × iv_C) := match iv_fd (iv_kf mi) idx with
  | some q => match h[k]? with
    | some (.inl o) => if o.1 = q.1 ∧ q.2 < o.2.length ∧ iv_ok (iv_ft q.1 q.2) v = true ∧ (iv_fi q.1 q.2 = false ∨ (iv_ini mi = true ∧ iv_ow q.1 = iv_kf mi)) then some (some k, .inl (o.1, o.2.set q.2 v)) else none
    | _ => none
  | none => none
/-- an array of ints (or small types) at k: type, length, contents -/
def iv_ai (h : iv_H) (k : Nat) : Option (Nat × Nat × (Nat → Int32)) := match h[k]? with
  | some (.inr (t, n, .inl f)) => some (t, n, f)
  | _ => none
def iv_aj (h : iv_H) (k : Nat) : Option (Nat × Nat × (Nat → Int64)) := match h[k]? with
  | some (.inr (t, n, .inr (.inl f))) => some (t, n, f)
  | _ => none
def iv_aq (h : iv_H) (k : Nat) : Option (Nat × Nat × (Nat → Option Nat)) := match h[k]? with
  | some (.inr (t, n, .inr (.inr (.inr (.inr f))))) => some (t, n, f)
  | _ => none
def iv_in (i : Int32) (n : Nat) : Bool := decide (0 ≤ i) && decide (i.toNatClampNeg < n)
/-- types of arrays: iv_ty -/
def iv_is (t : Nat) (ty : FieldType) : Bool := decide (iv_ty[t]? = some ty)
def iv_tn (at_ : Jvm.ClassFile.ArrayType) : Nat := match at_ with
  | .int => 0
  | .long => 1
  | .boolean => 2
  | .byte => 3
  | _ => 99
def iv_a0 (t n : Nat) : vp_A := if t = 1 then (n, .inr (.inl (fun _ => 0))) else (n, .inl (fun _ => 0))
end
section
/-- what an instruction does to the heap: nothing, one cell set, one cell more -/
abbrev iv_F : Type := Option (Option Nat × iv_C)
abbrev iv_O : Type := Nat × iv_L × List Value × iv_F
def iv_ef (h : iv_H) (f : iv_F) : Option iv_H := match f with
  | none => some h
  | some (none, c) => some (h ++ [c])
  | some (some k, c) => if (h[k]?).map iv_cz = some (iv_cz c) then some (h.set k c) else none
def iv_jp (pc : Nat) (off : Int) (al : iv_L) (st : List Value) : Option iv_O := (iv_tg pc off).bind fun t => some (t, al, st, none)
def iv_br (b : Bool) (pc : Nat) (off : Int) (al : iv_L) (st : List Value) : Option iv_O := (iv_tg pc off).bind fun t => if b = true then some (t, al, st, none) else some (pc + 3, al, st, none)
def iv_pi (pc : Nat) (al : iv_L) (x : Int32) (r : List Value) : Option iv_O := some (pc, al, .int x :: r, none)
def iv_pj (pc : Nat) (al : iv_L) (x : Int64) (r : List Value) : Option iv_O := some (pc, al, .long x :: r, none)
def iv_ii (pc : Nat) (al : iv_L) (st : List Value) (f : Int32 → Int32 → Int32) : Option iv_O := iv_i st fun y r1 => iv_i r1 fun x r => iv_pi (pc + 1) al (f x y) r
def iv_jj (pc : Nat) (al : iv_L) (st : List Value) (f : Int64 → Int64 → Int64) : Option iv_O := iv_j st fun y r1 => iv_j r1 fun x r => iv_pj (pc + 1) al (f x y) r
def iv_c2 (pc : Nat) (off : Int) (al : iv_L) (st : List Value) (f : Int32 → Int32 → Bool) : Option iv_O := iv_i st fun y r1 => iv_i r1 fun x r => iv_br (f x y) pc off al r
def iv_c1 (pc : Nat) (off : Int) (al : iv_L) (st : List Value) (f : Int32 → Bool) : Option iv_O := iv_i st fun x r => iv_br (f x) pc off al r
theorem iv_ii_s {pc : Nat} {al : iv_L} {st : List Value} {f : Int32 → Int32 → Int32} {S : iv_O} (e : iv_ii pc al st f = some S) : ∃ x y r, st = .int y :: .int x :: r ∧ S = (pc + 1, al, .int (f x y) :: r, none) := by
  obtain ⟨y, r1, rfl, e_1⟩ := iv_i_s e
  obtain ⟨x, r, rfl, e_2⟩ := iv_i_s e_1
  cases e_2
  exact ⟨x, y, r, rfl, rfl⟩
theorem iv_jj_s {pc : Nat} {al : iv_L} {st : List Value} {f : Int64 → Int64 → Int64} {S : iv_O} (e : iv_jj pc al st f = some S) : ∃ x y r, st = .long y :: .long x :: r ∧ S = (pc + 1, al, .long (f x y) :: r, none) := by
  obtain ⟨y, r1, rfl, e_1⟩ := iv_j_s e
  obtain ⟨x, r, rfl, e_2⟩ := iv_j_s e_1
  cases e_2
  exact ⟨x, y, r, rfl, rfl⟩
theorem iv_br_s {b : Bool} {pc : Nat} {off : Int} {al : iv_L} {r : List Value} {S : iv_O} (e : iv_br b pc off al r = some S) : ∃ t : Nat, (pc : Int) + off = (t : Int) ∧ ((b = true ∧ S = (t, al, r, none)) ∨ (b = false ∧ S = (pc + 3, al, r, none))) := by
  obtain ⟨t, h1, e_1⟩ := Option.bind_eq_some_iff.mp e
  refine ⟨t, iv_tg_s h1, ?_⟩
  split at e_1
  · cases e_1
    exact Or.inl ⟨by assumption, rfl⟩
  · cases e_1
    exact Or.inr ⟨by simp_all, rfl⟩
theorem iv_c2_s {pc : Nat} {off : Int} {al : iv_L} {st : List Value} {f : Int32 → Int32 → Bool} {S : iv_O} (e : iv_c2 pc off al st f = some S) : ∃ x y r, st = .int y :: .int x :: r ∧ ∃ t : Nat, (pc : Int) + off = (t : Int) ∧ ((f x y = true ∧ S = (t, al, r, none)) ∨ (f x y = false ∧ S = (pc + 3, al, r, none))) := by
  obtain ⟨y, r1, rfl, e_1⟩ := iv_i_s e
  obtain ⟨x, r, rfl, e_2⟩ := iv_i_s e_1
  exact ⟨x, y, r, rfl, iv_br_s e_2⟩
theorem iv_c1_s {pc : Nat} {off : Int} {al : iv_L} {st : List Value} {f : Int32 → Bool} {S : iv_O} (e : iv_c1 pc off al st f = some S) : ∃ x r, st = .int x :: r ∧ ∃ t : Nat, (pc : Int) + off = (t : Int) ∧ ((f x = true ∧ S = (t, al, r, none)) ∨ (f x = false ∧ S = (pc + 3, al, r, none))) := by
  obtain ⟨x, r, rfl, e_1⟩ := iv_i_s e
  exact ⟨x, r, rfl, iv_br_s e_1⟩
theorem iv_pi_s {pc : Nat} {al : iv_L} {x : Int32} {r : List Value} {S : iv_O} (e : iv_pi pc al x r = some S) : S = (pc, al, .int x :: r, none) := (Option.some.inj e).symm
theorem iv_pj_s {pc : Nat} {al : iv_L} {x : Int64} {r : List Value} {S : iv_O} (e : iv_pj pc al x r = some S) : S = (pc, al, .long x :: r, none) := (Option.some.inj e).symm
theorem iv_jp_s {pc : Nat} {off : Int} {al : iv_L} {r : List Value} {S : iv_O} (e : iv_jp pc off al r = some S) : ∃ t : Nat, (pc : Int) + off = (t : Int) ∧ S = (t, al, r, none) := by
  obtain ⟨t, h1, e_1⟩ := Option.bind_eq_some_iff.mp e
  cases e_1
  exact ⟨t, iv_tg_s h1, rfl⟩
/-- local numbers that are stored are within the method's -/
def iv_sl (mi : Nat) (i w : Nat) (S : iv_O) : Option iv_O := if i + w < iv_mx mi then some S else none
theorem iv_sl_s {mi i w : Nat} {S S' : iv_O} (e : iv_sl mi i w S = some S') : i + w < iv_mx mi ∧ S' = S := by
  unfold iv_sl at e
  split at e
  · exact ⟨by assumption, (Option.some.inj e).symm⟩
  · cases e
def iv_sti (mi pc i : Nat) (al : iv_L) (st : List Value) : Option iv_O := iv_i st fun x r => iv_sl mi i 0 (pc, iv_s1 al i (.int x), r, none)
def iv_stj (mi pc i : Nat) (al : iv_L) (st : List Value) : Option iv_O := iv_j st fun x r => iv_sl mi i 1 (pc, iv_s2 al i (.long x), r, none)
def iv_sta (mi pc i : Nat) (al : iv_L) (st : List Value) : Option iv_O := iv_r st fun x r => iv_sl mi i 0 (pc, iv_s1 al i (.ref x), r, none)
/-- loads and stores of arrays -/
def iv_ald (ty : FieldType) (pc : Nat) (al : iv_L) (st : List Value) (h : iv_H) : Option iv_O := iv_i st fun i r1 => iv_r r1 fun k r => (iv_ai h k).bind fun q => if iv_in i q.2.1 = true ∧ iv_is q.1 ty = true then iv_pi (pc + 1) al (q.2.2 i.toNatClampNeg) r else none
def iv_ast (ty : FieldType) (pc : Nat) (al : iv_L) (st : List Value) (h : iv_H) : Option iv_O := iv_i st fun x r2 => iv_i r2 fun i r1 => iv_r r1 fun k r => (iv_ai h k).bind fun q => if iv_in i q.2.1 = true ∧ iv_is q.1 ty = true then some (pc + 1, al, r, some (some k, .inr (q.1, q.2.1, .inl (upd q.2.2 i.toNatClampNeg (vp_nar ty x))))) else none
theorem iv_in_s {i : Int32} {n : Nat} (h : iv_in i n = true) : vp_in i n := by
  unfold iv_in at h
  simp only [Bool.and_eq_true, decide_eq_true_eq] at h
  intro q
  rcases q with q | q
  · exact absurd h.1 (Int32.not_le.mpr q)
  · omega
theorem iv_is_s {t : Nat} {ty : FieldType} (h : iv_is t ty = true) : iv_ty[t]? = some ty := of_decide_eq_true h
theorem iv_ai_s {h : iv_H} {k : Nat} {q : Nat × Nat × (Nat → Int32)} (e : iv_ai h k = some q) : h[k]? = some (.inr (q.1, q.2.1, .inl q.2.2)) := by
  unfold iv_ai at e
  split at e
  · cases e; assumption
  · cases e
theorem iv_aj_s {h : iv_H} {k : Nat} {q : Nat × Nat × (Nat → Int64)} (e : iv_aj h k = some q) : h[k]? = some (.inr (q.1, q.2.1, .inr (.inl q.2.2))) := by
  unfold iv_aj at e
  split at e
  · cases e; assumption
  · cases e
theorem iv_aq_s {h : iv_H} {k : Nat} {q : Nat × Nat × (Nat → Option Nat)} (e : iv_aq h k = some q) : h[k]? = some (.inr (q.1, q.2.1, .inr (.inr (.inr (.inr q.2.2))))) := by
  unfold iv_aq at e
  split at e
  · cases e; assumption
  · cases e
theorem iv_ald_s {ty : FieldType} {pc : Nat} {al : iv_L} {st : List Value} {h : iv_H} {S : iv_O} (e : iv_ald ty pc al st h = some S) : ∃ i k r t n f, st = .int i :: .ref k :: r ∧ h[k]? = some (.inr (t, n, .inl f)) ∧ vp_in i n ∧ iv_ty[t]? = some ty ∧ S = (pc + 1, al, .int (f i.toNatClampNeg) :: r, none) := by
  obtain ⟨i, r1, rfl, e_1⟩ := iv_i_s e
  obtain ⟨k, r, rfl, e_2⟩ := iv_r_s e_1
  obtain ⟨q, e1, e_3⟩ := Option.bind_eq_some_iff.mp e_2
  split at e_3
  · rename_i hc
    exact ⟨i, k, r, q.1, q.2.1, q.2.2, rfl, iv_ai_s e1, iv_in_s hc.1, iv_is_s hc.2, iv_pi_s e_3⟩
  · cases e_3
theorem iv_ast_s {ty : FieldType} {pc : Nat} {al : iv_L} {st : List Value} {h : iv_H} {S : iv_O} (e : iv_ast ty pc al st h = some S) : ∃ x i k r t n f, st = .int x :: .int i :: .ref k :: r ∧ h[k]? = some (.inr (t, n, .inl f)) ∧ vp_in i n ∧ iv_ty[t]? = some ty ∧ S = (pc + 1, al, r, some (some k, .inr (t, n, .inl (upd f i.toNatClampNeg (vp_nar ty x))))) := by
  obtain ⟨x, r2, rfl, e_1⟩ := iv_i_s e
  obtain ⟨i, r1, rfl, e_2⟩ := iv_i_s e_1
  obtain ⟨k, r, rfl, e_3⟩ := iv_r_s e_2
  obtain ⟨q, e1, e_4⟩ := Option.bind_eq_some_iff.mp e_3
  split at e_4
  · rename_i hc
    exact ⟨x, i, k, r, q.1, q.2.1, q.2.2, rfl, iv_ai_s e1, iv_in_s hc.1, iv_is_s hc.2, (Option.some.inj e_4).symm⟩
  · cases e_4
theorem iv_gf_s {mi idx k : Nat} {h : iv_H} {v : Value} (e : iv_gf mi idx h k = some v) : ∃ ci j fs, iv_fd (iv_kf mi) idx = some (ci, j) ∧ h[k]? = some (.inl (ci, fs)) ∧ fs[j]? = some v := by
  unfold iv_gf at e
  split at e
  · rename_i q hq
    split at e
    · rename_i o ho
      split at e
      · rename_i hc
        obtain ⟨ci, j⟩ := q
        obtain ⟨c1, fs⟩ := o
        dsimp only at hc e
        subst hc
        exact ⟨c1, j, fs, hq, ho, e⟩
      · cases e
    · cases e
  · cases e
theorem iv_pf_s {mi idx k : Nat} {h : iv_H} {v : Value} {f : Option Nat × iv_C} (e : iv_pf mi idx h k v = some f) : ∃ ci j fs, iv_fd (iv_kf mi) idx = some (ci, j) ∧ h[k]? = some (.inl (ci, fs)) ∧ j < fs.length ∧ iv_ok (iv_ft ci j) v = true ∧ (iv_fi ci j = false ∨ (iv_ini mi = true ∧ iv_ow ci = iv_kf mi)) ∧ f = (some k, .inl (ci, fs.set j v)) := by
  unfold iv_pf at e
  split at e
  · rename_i q hq
    split at e
    · rename_i o ho
      split at e
      · rename_i hc
        obtain ⟨ci, j⟩ := q
        obtain ⟨c1, fs⟩ := o
        dsimp only at hc e
        obtain ⟨h1, h2, h3, h4⟩ := hc
        subst h1
        exact ⟨c1, j, fs, hq, ho, h2, h3, h4, (Option.some.inj e).symm⟩
      · cases e
    · cases e
  · cases e
def iv_1or2 {α : Type} (st : List Value) (f : Value → List Value → Option α) : Option α := match st with
  | x :: r => f x r
  | _ => none
theorem iv_1or2_s {α : Type} {st : List Value} {f : Value → List Value → Option α} {a : α} (h : iv_1or2 st f = some a) : ∃ x r, st = x :: r ∧ f x r = some a := by
  unfold iv_1or2 at h
  split at h
  · exact ⟨_, _, rfl, h⟩
  · cases h
/-- an array of objects; its objects' class -/
def iv_iq (t : Nat) : Bool := match iv_ty[t]? with
  | some (.object _) => true
  | _ => false
def iv_qc (h : iv_H) (t b : Nat) : Bool := match h[b]? with
  | some (.inl o) => match iv_cl[o.1]? with
    | some r => iv_is t (.object r.1)
    | none => false
  | _ => false
/-- Math.min of two ints -/
def iv_min (pc : Nat) (al : iv_L) (st : List Value) : Option iv_O := iv_i st fun y r1 => iv_i r1 fun x r => if (r.map fun v => v.category).sum ≤ 8 then iv_pi (pc + 3) al (if y < x then y else x) r else none
/-- Math.max of two ints -/
def iv_max (pc : Nat) (al : iv_L) (st : List Value) : Option iv_O := iv_i st fun y r1 => iv_i r1 fun x r => if (r.map fun v => v.category).sum ≤ 8 then iv_pi (pc + 3) al (if x < y then y else x) r else none
/-- System.arraycopy of ints -/
def iv_cpy (pc : Nat) (al : iv_L) (st : List Value) (h : iv_H) : Option iv_O := iv_i st fun n r4 => iv_i r4 fun dp r3 => iv_r r3 fun b r2 => iv_i r2 fun sp r1 => iv_r r1 fun a r => (iv_ai h a).bind fun q => (iv_ai h b).bind fun u =>
  if 0 ≤ sp ∧ 0 ≤ dp ∧ 0 ≤ n ∧ sp.toNatClampNeg + n.toNatClampNeg ≤ q.2.1 ∧ dp.toNatClampNeg + n.toNatClampNeg ≤ u.2.1 ∧ iv_is q.1 .int = true ∧ iv_is u.1 .int = true ∧ (r.map fun v => v.category).sum ≤ 8 then
    some (pc + 3, al, r, some (some b, .inr (u.1, u.2.1, .inl (va_cpy q.2.2 u.2.2 sp.toNatClampNeg dp.toNatClampNeg n.toNatClampNeg)))) else none
def iv_sem (op : Jvm.ClassFile.Instr) : Option (iv_Z → Nat → Nat → iv_L → List Value → iv_H → Option iv_O) := match op with
  | .iconst n => some fun z mi pc al st h => iv_pi (pc + 1) al (Int32.ofInt n) st
  | .bipush n => some fun z mi pc al st h => iv_pi (pc + 2) al (Int8.ofInt n).toInt32 st
  | .sipush n => some fun z mi pc al st h => iv_pi (pc + 3) al (Int16.ofInt n).toInt32 st
  | .lconst n => some fun z mi pc al st h => iv_pj (pc + 1) al (Int64.ofNat (n : Nat)) st
  | .ldc idx => some fun z mi pc al st h => (iv_lc (iv_kf mi) idx).bind fun x => iv_pi (pc + 2) al x st
  | .ldc2_w idx => some fun z mi pc al st h => (iv_l2 (iv_kf mi) idx).bind fun x => iv_pj (pc + 3) al x st
  | .iload_n k => some fun z mi pc al st h => iv_li al (k : Nat) fun x => iv_pi (pc + 1) al x st
  | .iload i => some fun z mi pc al st h => iv_li al i fun x => iv_pi (pc + 2) al x st
  | .lload_n k => some fun z mi pc al st h => iv_lj al (k : Nat) fun x => iv_pj (pc + 1) al x st
  | .lload i => some fun z mi pc al st h => iv_lj al i fun x => iv_pj (pc + 2) al x st
  | .aload_n k => some fun z mi pc al st h => iv_la al (k : Nat) fun x => some (pc + 1, al, x :: st, none)
  | .aload i => some fun z mi pc al st h => iv_la al i fun x => some (pc + 2, al, x :: st, none)
  | .istore_n k => some fun z mi pc al st h => iv_sti mi (pc + 1) (k : Nat) al st
  | .istore i => some fun z mi pc al st h => iv_sti mi (pc + 2) i al st
  | .lstore_n k => some fun z mi pc al st h => iv_stj mi (pc + 1) (k : Nat) al st
  | .lstore i => some fun z mi pc al st h => iv_stj mi (pc + 2) i al st
  | .astore_n k => some fun z mi pc al st h => iv_sta mi (pc + 1) (k : Nat) al st
  | .astore i => some fun z mi pc al st h => iv_sta mi (pc + 2) i al st
  | .iinc i n => some fun z mi pc al st h => iv_li al i fun x => iv_sl mi i 0 (pc + 3, iv_s1 al i (.int (x + Int32.ofInt n)), st, none)
  | .iadd => some fun z mi pc al st h => iv_ii pc al st (fun x y => x + y)
  | .isub => some fun z mi pc al st h => iv_ii pc al st (fun x y => x - y)
  | .imul => some fun z mi pc al st h => iv_ii pc al st (fun x y => x * y)
  | .iand => some fun z mi pc al st h => iv_ii pc al st (fun x y => x &&& y)
  | .ior => some fun z mi pc al st h => iv_ii pc al st (fun x y => x ||| y)
  | .ixor => some fun z mi pc al st h => iv_ii pc al st (fun x y => x ^^^ y)
  | .ishl => some fun z mi pc al st h => iv_ii pc al st (fun x y => x <<< (y &&& 31))
  | .ishr => some fun z mi pc al st h => iv_ii pc al st (fun x y => x >>> (y &&& 31))
  | .iushr => some fun z mi pc al st h => iv_ii pc al st (fun x y => (x.toUInt32 >>> (y.toUInt32 &&& Int32.toUInt32 31)).toInt32)
  | .idiv => some fun z mi pc al st h => iv_i st fun y r1 => iv_i r1 fun x r => if y = 0 then none else iv_pi (pc + 1) al (x / y) r
  | .irem => some fun z mi pc al st h => iv_i st fun y r1 => iv_i r1 fun x r => if y = 0 then none else iv_pi (pc + 1) al (x - x / y * y) r
  | .ineg => some fun z mi pc al st h => iv_i st fun x r => iv_pi (pc + 1) al (-x) r
  | .ladd => some fun z mi pc al st h => iv_jj pc al st (fun x y => x + y)
  | .lsub => some fun z mi pc al st h => iv_jj pc al st (fun x y => x - y)
  | .lmul => some fun z mi pc al st h => iv_jj pc al st (fun x y => x * y)
  | .ldiv => some fun z mi pc al st h => iv_j st fun y r1 => iv_j r1 fun x r => if y = 0 then none else iv_pj (pc + 1) al (x / y) r
  | .lrem => some fun z mi pc al st h => iv_j st fun y r1 => iv_j r1 fun x r => if y = 0 then none else iv_pj (pc + 1) al (x - x / y * y) r
  | .lneg => some fun z mi pc al st h => iv_j st fun x r => iv_pj (pc + 1) al (-x) r
  | .lcmp => some fun z mi pc al st h => iv_j st fun y r1 => iv_j r1 fun x r => iv_pi (pc + 1) al (lg_cmp x y) r
  | .i2l => some fun z mi pc al st h => iv_i st fun x r => iv_pj (pc + 1) al x.toInt64 r
  | .l2i => some fun z mi pc al st h => iv_j st fun x r => iv_pi (pc + 1) al x.toInt32 r
  | .i2b => some fun z mi pc al st h => iv_i st fun x r => iv_pi (pc + 1) al x.toInt8.toInt32 r
  | .dup => some fun z mi pc al st h => iv_1 st fun v r => some (pc + 1, al, v :: v :: r, none)
  | .pop => some fun z mi pc al st h => iv_1 st fun _ r => some (pc + 1, al, r, none)
  | .dup_x1 => some fun z mi pc al st h => iv_1 st fun v r1 => iv_1 r1 fun w r => some (pc + 1, al, v :: w :: v :: r, none)
  | .dup_x2 => some fun z mi pc al st h => iv_1 st fun v r1 => iv_1 r1 fun w r2 => iv_1 r2 fun x r => some (pc + 1, al, v :: w :: x :: v :: r, none)
  | .dup2 => some fun z mi pc al st h => iv_1 st fun v r1 => iv_1 r1 fun w r => some (pc + 1, al, v :: w :: v :: w :: r, none)
  | .goto off => some fun z mi pc al st h => iv_jp pc off al st
  | .ifCond .eq off => some fun z mi pc al st h => iv_c1 pc off al st (fun x => decide (x = 0))
  | .ifCond .ne off => some fun z mi pc al st h => iv_c1 pc off al st (fun x => decide (¬ x = 0))
  | .ifCond .lt off => some fun z mi pc al st h => iv_c1 pc off al st (fun x => decide (x < 0))
  | .ifCond .ge off => some fun z mi pc al st h => iv_c1 pc off al st (fun x => decide (0 ≤ x))
  | .ifCond .gt off => some fun z mi pc al st h => iv_c1 pc off al st (fun x => decide (0 < x))
  | .ifCond .le off => some fun z mi pc al st h => iv_c1 pc off al st (fun x => decide (x ≤ 0))
  | .if_icmp .eq off => some fun z mi pc al st h => iv_c2 pc off al st (fun x y => decide (x = y))
  | .if_icmp .ne off => some fun z mi pc al st h => iv_c2 pc off al st (fun x y => decide (¬ x = y))
  | .if_icmp .lt off => some fun z mi pc al st h => iv_c2 pc off al st (fun x y => decide (x < y))
  | .if_icmp .ge off => some fun z mi pc al st h => iv_c2 pc off al st (fun x y => decide (y ≤ x))
  | .if_icmp .gt off => some fun z mi pc al st h => iv_c2 pc off al st (fun x y => decide (y < x))
  | .if_icmp .le off => some fun z mi pc al st h => iv_c2 pc off al st (fun x y => decide (x ≤ y))
  | .tableswitch dflt lo hi offs => some fun z mi pc al st h => iv_i st fun x r => if x.toInt < lo ∨ hi < x.toInt then iv_jp pc dflt al r else (offs[(x.toInt - lo).toNat]?).bind fun off => iv_jp pc off al r
  | .lookupswitch dflt ps => some fun z mi pc al st h => iv_i st fun x r => if (ps.toList.zip (ps.toList.drop 1)).all (fun (a, next) => a.1 < next.1) = true then iv_jp pc (Op.lookupswitch.offset ps.toList dflt x.toInt) al r else none
  | .getfield idx => some fun z mi pc al st h => iv_r st fun k r => (iv_gf mi idx h k).bind fun v => some (pc + 3, al, v :: r, none)
  | .putfield idx => some fun z mi pc al st h => iv_1or2 st fun v r1 => iv_r r1 fun k r => (iv_pf mi idx h k v).bind fun q => some (pc + 3, al, r, some q)
  | .new idx => some fun z mi pc al st h => (iv_nc (iv_kf mi) idx).bind fun ci => some (pc + 3, al, .ref h.length :: st, some (none, .inl (ci, iv_df ci)))
  | .newarray a => some fun z mi pc al st h => iv_i st fun n r => if 0 ≤ n ∧ n.toNatClampNeg ≤ 60000000 ∧ iv_tn a < 4 then some (pc + 2, al, .ref h.length :: r, some (none, .inr (iv_tn a, iv_a0 (iv_tn a) n.toNatClampNeg))) else none
  | .anewarray idx => some fun z mi pc al st h => iv_i st fun n r => (iv_ac (iv_kf mi) idx).bind fun t => if 0 ≤ n ∧ n.toNatClampNeg ≤ 60000000 then some (pc + 3, al, .ref h.length :: r, some (none, .inr (t, n.toNatClampNeg, .inr (.inr (.inr (.inr (fun _ => none))))))) else none
  | .arraylength => some fun z mi pc al st h => match st with
    | .ref k :: r => match h[k]? with
      | some (.inr a) => if (iv_ty[a.1]?).isSome = true then iv_pi (pc + 1) al (Int32.ofNat a.2.1) r else none
      | _ => none
    | .retAddr _ :: r => match z with
      | some q => iv_pi (pc + 1) al (Int32.ofNat q.1) r
      | none => none
    | _ => none
  | .iaload => some fun z mi pc al st h => match st with
    | .int i :: .retAddr _ :: r => match z with
      | some q => if iv_in i q.1 = true then iv_pi (pc + 1) al (q.2 i.toNatClampNeg) r else none
      | none => none
    | st => iv_ald .int pc al st h
  | .baload => some fun z mi pc al st h => match iv_ald .byte pc al st h with
    | some S => some S
    | none => iv_ald .boolean pc al st h
  | .iastore => some fun z mi pc al st h => iv_ast .int pc al st h
  | .bastore => some fun z mi pc al st h => match iv_ast .byte pc al st h with
    | some S => some S
    | none => iv_ast .boolean pc al st h
  | .laload => some fun z mi pc al st h => iv_i st fun i r1 => iv_r r1 fun k r => (iv_aj h k).bind fun q => if iv_in i q.2.1 = true ∧ iv_is q.1 .long = true then iv_pj (pc + 1) al (q.2.2 i.toNatClampNeg) r else none
  | .lastore => some fun z mi pc al st h => iv_j st fun x r2 => iv_i r2 fun i r1 => iv_r r1 fun k r => (iv_aj h k).bind fun q => if iv_in i q.2.1 = true ∧ iv_is q.1 .long = true then some (pc + 1, al, r, some (some k, .inr (q.1, q.2.1, .inr (.inl (vp_updL q.2.2 i.toNatClampNeg x))))) else none
  | .aaload => some fun z mi pc al st h => iv_i st fun i r1 => iv_r r1 fun k r => (iv_aq h k).bind fun q => if iv_in i q.2.1 = true ∧ iv_iq q.1 = true then match q.2.2 i.toNatClampNeg with
      | some b => some (pc + 1, al, .ref b :: r, none)
      | none => none
    else none
  | .aastore => some fun z mi pc al st h => iv_r st fun b r2 => iv_i r2 fun i r1 => iv_r r1 fun k r => (iv_aq h k).bind fun q => if iv_in i q.2.1 = true ∧ iv_qc h q.1 b = true then some (pc + 1, al, r, some (some k, .inr (q.1, q.2.1, .inr (.inr (.inr (.inr (va_up q.2.2 i.toNatClampNeg (some b)))))))) else none
  | .invokespecial idx => some fun z mi pc al st h => if iv_oi (iv_kf mi) idx = true then iv_r st fun _ r => if (r.map fun v => v.category).sum ≤ 8 then some (pc + 3, al, r, none) else none else none
  | .invokestatic idx => some fun z mi pc al st h => if iv_cp (iv_kf mi) idx = true then iv_cpy pc al st h else if iv_mm (iv_kf mi) idx = true then iv_min pc al st else if iv_ma (iv_kf mi) idx = true then iv_max pc al st else none
  | _ => none
def iv_op (z : iv_Z) (mi pc : Nat) (op : Jvm.ClassFile.Instr) (al : iv_L) (st : List Value) (h : iv_H) : Option iv_O := match iv_sem op with
  | some f => f z mi pc al st h
  | none => none
theorem iv_alen_s {z : iv_Z} {mi pc : Nat} {al : iv_L} {st : List Value} {h : iv_H} {o : iv_O} (e : iv_op z mi pc .arraylength al st h = some o) : (∃ k r a, st = .ref k :: r ∧ h[k]? = some (.inr a) ∧ (∃ ty, iv_ty[a.1]? = some ty) ∧ o = (pc + 1, al, .int (Int32.ofNat a.2.1) :: r, none)) ∨ (∃ k r q, st = .retAddr k :: r ∧ z = some q ∧ o = (pc + 1, al, .int (Int32.ofNat q.1) :: r, none)) := by
  simp only [iv_op, iv_sem] at e
  split at e
  · split at e
    · rename_i a ha
      split at e
      · rename_i hs
        exact Or.inl ⟨_, _, a, rfl, ha, Option.isSome_iff_exists.mp hs, iv_pi_s e⟩
      · cases e
    · cases e
  · split at e
    · exact Or.inr ⟨_, _, _, rfl, rfl, iv_pi_s e⟩
    · cases e
  · cases e
theorem iv_iald_s {z : iv_Z} {mi pc : Nat} {al : iv_L} {st : List Value} {h : iv_H} {o : iv_O} (e : iv_op z mi pc .iaload al st h = some o) : (∃ i k r q, st = .int i :: .retAddr k :: r ∧ z = some q ∧ iv_in i q.1 = true ∧ o = (pc + 1, al, .int (q.2 i.toNatClampNeg) :: r, none)) ∨ iv_ald .int pc al st h = some o := by
  simp only [iv_op, iv_sem] at e
  split at e
  · split at e
    · split at e
      · exact Or.inl ⟨_, _, _, _, rfl, rfl, by assumption, iv_pi_s e⟩
      · cases e
    · cases e
  · exact Or.inr e
theorem iv_bald_s {z : iv_Z} {mi pc : Nat} {al : iv_L} {st : List Value} {h : iv_H} {o : iv_O} (e : iv_op z mi pc .baload al st h = some o) : iv_ald .byte pc al st h = some o ∨ iv_ald .boolean pc al st h = some o := by
  simp only [iv_op, iv_sem] at e
  split at e
  · rename_i hS
    exact Or.inl (hS.trans e)
  · exact Or.inr e
theorem iv_bast_s {z : iv_Z} {mi pc : Nat} {al : iv_L} {st : List Value} {h : iv_H} {o : iv_O} (e : iv_op z mi pc .bastore al st h = some o) : iv_ast .byte pc al st h = some o ∨ iv_ast .boolean pc al st h = some o := by
  simp only [iv_op, iv_sem] at e
  split at e
  · rename_i hS
    exact Or.inl (hS.trans e)
  · exact Or.inr e
theorem iv_iq_s {t : Nat} (h : iv_iq t = true) : ∃ C : String, iv_ty[t]? = some (.object C) := by
  unfold iv_iq at h
  split at h
  · exact ⟨_, by assumption⟩
  · cases h
theorem iv_qc_s {h : iv_H} {t b : Nat} (e : iv_qc h t b = true) : ∃ ci fs r, h[b]? = some (.inl (ci, fs)) ∧ iv_cl[ci]? = some r ∧ iv_ty[t]? = some (.object r.1) := by
  unfold iv_qc at e
  split at e
  · rename_i o ho
    split at e
    · rename_i r hr
      exact ⟨o.1, o.2, r, ho, hr, iv_is_s e⟩
    · cases e
  · cases e
theorem iv_oi_s {z : iv_Z} {mi pc idx : Nat} {al : iv_L} {st : List Value} {h : iv_H} {o : iv_O} (e : iv_op z mi pc (.invokespecial idx) al st h = some o) : iv_oi (iv_kf mi) idx = true ∧ ∃ k r, st = .ref k :: r ∧ (r.map fun v => v.category).sum ≤ 8 ∧ o = (pc + 3, al, r, none) := by
  simp only [iv_op, iv_sem] at e
  split at e
  · rename_i h1
    obtain ⟨k, r, rfl, e_1⟩ := iv_r_s e
    split at e_1
    · rename_i h2
      exact ⟨h1, k, r, rfl, h2, (Option.some.inj e_1).symm⟩
    · cases e_1
  · cases e
theorem iv_cpy_s {z : iv_Z} {mi pc idx : Nat} {al : iv_L} {st : List Value} {h : iv_H} {o : iv_O} (e : iv_op z mi pc (.invokestatic idx) al st h = some o) : (iv_cp (iv_kf mi) idx = true ∧ ∃ (n dp : Int32) (b : Nat) (sp : Int32) (a : Nat) (r : List Value) (q u : Nat × Nat × (Nat → Int32)), st = .int n :: .int dp :: .ref b :: .int sp :: .ref a :: r ∧ h[a]? = some (.inr (q.1, q.2.1, .inl q.2.2)) ∧ h[b]? = some (.inr (u.1, u.2.1, .inl u.2.2)) ∧ ¬ sp < 0 ∧ ¬ dp < 0 ∧ ¬ n < 0 ∧ sp.toNatClampNeg + n.toNatClampNeg ≤ q.2.1 ∧ dp.toNatClampNeg + n.toNatClampNeg ≤ u.2.1 ∧ iv_ty[q.1]? = some .int ∧ iv_ty[u.1]? = some .int ∧ (r.map fun v => v.category).sum ≤ 8 ∧
    o = (pc + 3, al, r, some (some b, .inr (u.1, u.2.1, .inl (va_cpy q.2.2 u.2.2 sp.toNatClampNeg dp.toNatClampNeg n.toNatClampNeg))))) ∨
    (¬ iv_cp (iv_kf mi) idx = true ∧ iv_mm (iv_kf mi) idx = true ∧ ∃ (y x : Int32) (r : List Value), st = .int y :: .int x :: r ∧ (r.map fun v => v.category).sum ≤ 8 ∧ o = (pc + 3, al, .int (if y < x then y else x) :: r, none)) ∨
    (¬ iv_cp (iv_kf mi) idx = true ∧ ¬ iv_mm (iv_kf mi) idx = true ∧ iv_ma (iv_kf mi) idx = true ∧ ∃ (y x : Int32) (r : List Value), st = .int y :: .int x :: r ∧ (r.map fun v => v.category).sum ≤ 8 ∧ o = (pc + 3, al, .int (if x < y then y else x) :: r, none)) := by
  simp only [iv_op, iv_sem] at e
  split at e
  · rename_i h1
    refine Or.inl ⟨h1, ?_⟩
    unfold iv_cpy at e
    obtain ⟨n, r4, rfl, e_1⟩ := iv_i_s e
    obtain ⟨dp, r3, rfl, e_2⟩ := iv_i_s e_1
    obtain ⟨b, r2, rfl, e_3⟩ := iv_r_s e_2
    obtain ⟨sp, r1, rfl, e_4⟩ := iv_i_s e_3
    obtain ⟨a, r, rfl, e_5⟩ := iv_r_s e_4
    obtain ⟨q, e1, e_6⟩ := Option.bind_eq_some_iff.mp e_5
    obtain ⟨u, e2, e_7⟩ := Option.bind_eq_some_iff.mp e_6
    split at e_7
    · rename_i hc
      obtain ⟨c1, c2, c3, c4, c5, c6, c7, c8⟩ := hc
      exact ⟨n, dp, b, sp, a, r, q, u, rfl, iv_ai_s e1, iv_ai_s e2, Int32.not_lt.mpr c1, Int32.not_lt.mpr c2, Int32.not_lt.mpr c3, c4, c5, iv_is_s c6, iv_is_s c7, c8, (Option.some.inj e_7).symm⟩
    · cases e_7
  · rename_i h0
    split at e
    · rename_i h1
      unfold iv_min at e
      obtain ⟨y, r1, rfl, e_1⟩ := iv_i_s e
      obtain ⟨x, r, rfl, e_2⟩ := iv_i_s e_1
      split at e_2
      · rename_i h8
        exact Or.inr (Or.inl ⟨h0, h1, y, x, r, rfl, h8, iv_pi_s e_2⟩)
      · cases e_2
    · rename_i h1
      split at e
      · rename_i h2
        unfold iv_max at e
        obtain ⟨y, r1, rfl, e_1⟩ := iv_i_s e
        obtain ⟨x, r, rfl, e_2⟩ := iv_i_s e_1
        split at e_2
        · rename_i h8
          exact Or.inr (Or.inr ⟨h0, h1, h2, y, x, r, rfl, h8, iv_pi_s e_2⟩)
        · cases e_2
      · cases e
end
section
/-! RUNS: calls and returns -/
def iv_cc (op : Jvm.ClassFile.Instr) : Option (Nat × Nat) := match op with
  | .invokevirtual idx => some (0, idx)
  | .invokespecial idx => some (1, idx)
  | .invokestatic idx => some (2, idx)
  | _ => none
def iv_isr (op : Jvm.ClassFile.Instr) : Bool := match op with
  | .return_ => true
  | .ireturn => true
  | .lreturn => true
  | .areturn => true
  | _ => false
def iv_rq (ty : Option FieldType) : Bool := match ty with
  | some (.object _) => true
  | some (.array _) => true
  | _ => false
def iv_ro (ty : Option FieldType) (v : Value) : Bool := match ty with
  | some t => iv_ok t v
  | none => false
def iv_re (mi : Nat) (op : Jvm.ClassFile.Instr) (st : List Value) : Option (Option Value) := match op with
  | .return_ => match st with
    | [] => if iv_rt mi = none then some none else none
    | _ => none
  | .ireturn => match st with
    | [.int x] => if iv_ro (iv_rt mi) (.int x) = true then some (some (.int x)) else none
    | _ => none
  | .lreturn => match st with
    | [.long x] => if iv_ro (iv_rt mi) (.long x) = true then some (some (.long x)) else none
    | _ => none
  | .areturn => match st with
    | [.ref x] => if iv_rq (iv_rt mi) = true then some (some (.ref x)) else none
    | _ => none
  | _ => none
def iv_ex : List Value → iv_L
  | [] => []
  | v :: r => if v.category = 2 then some v :: none :: iv_ex r else some v :: iv_ex r
def iv_en (mj : Nat) (vs : List Value) : iv_L := iv_ex vs ++ List.replicate (iv_mx mj - (iv_ex vs).length) none
def iv_nr (vs : List Value) : Bool := vs.all fun v => match v with
  | .retAddr _ => false
  | _ => true
def iv_oc (h : iv_H) (b ci : Nat) : Bool := match h[b]? with
  | some (.inl o) => decide (o.1 = ci)
  | _ => false
def iv_rx (mj : Nat) : Nat := match iv_rc mj with
  | none => 1
  | some _ => 0
theorem iv_rx_n {mj : Nat} (h : iv_rc mj = none) : iv_rx mj = 1 := by unfold iv_rx; rw [h]
theorem iv_rx_s {mj ci : Nat} (h : iv_rc mj = some ci) : iv_rx mj = 0 := by unfold iv_rx; rw [h]
/-- a call: the callee, its arguments, the stack below -/
def iv_ca (mi : Nat) (op : Jvm.ClassFile.Instr) (st : List Value) (h : iv_H) : Option (Nat × List Value × List Value) := match iv_cc op with
  | none => none
  | some q => match iv_mt (iv_kf mi) q.2 with
    | none => none
    | some mj => if ((st.take (iv_na mj)).length = iv_na mj ∧ iv_nr (st.take (iv_na mj)) = true ∧ (iv_ex (st.take (iv_na mj)).reverse).length + 1 ≤ iv_mx mj + iv_rx mj) then
        (if q.1 = 2 then (if iv_rc mj = none ∧ iv_ini mj = false ∧ ((st.drop (iv_na mj)).map fun v => v.category).sum ≤ 8 then some (mj, (st.take (iv_na mj)).reverse, st.drop (iv_na mj)) else none)
        else iv_r (st.drop (iv_na mj)) fun b rest => match iv_rc mj with
          | none => none
          | some ci => if iv_oc h b ci = true ∧ (rest.map fun v => v.category).sum ≤ 8 ∧ iv_ini mj = decide (q.1 = 1) ∧ (q.1 = 1 ∨ iv_nn (iv_kf mi) q.2 = none) then some (mj, .ref b :: (st.take (iv_na mj)).reverse, rest) else none)
      else none
/-- n: fuel; d: depth of calls -/
def iv_run (z : iv_Z) : Nat → Nat → Nat → iv_S → Option (Option Value × iv_H)
  | 0, _, _, _ => none
  | n + 1, d, mi, S => match iv_cd mi S.1 with
    | none => none
    | some op => if iv_isr op = true then (iv_re mi op S.2.2.1).map fun v => (v, S.2.2.2)
      else match iv_ca mi op S.2.2.1 S.2.2.2 with
        | some c => match d with
          | 0 => none
          | d' + 1 => match iv_run none n d' c.1 (0, iv_en c.1 c.2.1, [], S.2.2.2) with
            | none => none
            | some q => iv_run z n (d' + 1) mi (S.1 + 3, S.2.1, q.1.toList ++ c.2.2, q.2)
        | none => match iv_op z mi S.1 op S.2.1 S.2.2.1 S.2.2.2 with
          | none => none
          | some o => match iv_ef S.2.2.2 o.2.2.2 with
            | none => none
            | some h' => iv_run z n d mi (o.1, o.2.1, o.2.2.1, h')
end
section
/-! WHAT A NUMBERED HEAP IS IN THE MACHINE: ad (some k) the address of cell k, ad none the script's -/
abbrev iv_A : Type := Option Nat → Nat
def iv_v (ad : iv_A) (v : Value) : Value := match v with
  | .ref k => .ref (ad (some k))
  | .retAddr _ => .ref (ad none)
  | w => w
def iv_a (ad : iv_A) (a : vp_A) : vp_A := match a with
  | (n, .inr (.inr (.inr (.inr f)))) => (n, .inr (.inr (.inr (.inr (fun j => (f j).map (fun k => ad (some k)))))))
  | (n, .inl f) => (n, .inl f)
  | (n, .inr (.inl f)) => (n, .inr (.inl f))
  | (n, .inr (.inr (.inl f))) => (n, .inr (.inr (.inl f)))
  | (n, .inr (.inr (.inr (.inl f)))) => (n, .inr (.inr (.inr (.inl f))))
def iv_e (ad : iv_A) (cO : Nat → ClassId) (c : iv_C) : va_E := match c with
  | .inl o => .inr (o.1, o.2.map (iv_v ad))
  | .inr a => .inl (cO a.1, iv_a ad a.2)
def iv_w (ad : iv_A) (cO : Nat → ClassId) (h : iv_H) : va_W := h.mapIdx (fun i c => (ad (some i), iv_e ad cO c))
def iv_ll (ad : iv_A) (al : iv_L) : List (Nat × Value) := al.zipIdx.filterMap fun q => q.1.map fun v => (q.2, iv_v ad v)
theorem iv_v_cat (ad : iv_A) (v : Value) : (iv_v ad v).category = v.category := by cases v <;> rfl
theorem iv_cats (ad : iv_A) (r : List Value) : ((r.map (iv_v ad)).map fun v => v.category) = r.map fun v => v.category := by
  rw [List.map_map]
  exact List.map_congr_left fun v _ => iv_v_cat ad v
theorem iv_w_get {ad : iv_A} {cO : Nat → ClassId} {h : iv_H} {k : Nat} {c : iv_C} (hk : h[k]? = some c) : (iv_w ad cO h)[k]? = some (ad (some k), iv_e ad cO c) := by
  unfold iv_w
  rw [List.getElem?_mapIdx, hk]
  rfl
theorem iv_w_len (ad : iv_A) (cO : Nat → ClassId) (h : iv_H) : (iv_w ad cO h).length = h.length := by simp [iv_w]
theorem iv_w_set (ad : iv_A) (cO : Nat → ClassId) (h : iv_H) (k : Nat) (c : iv_C) : (iv_w ad cO h).set k (ad (some k), iv_e ad cO c) = iv_w ad cO (h.set k c) := by
  apply List.ext_getElem?
  intro j
  unfold iv_w
  rw [List.getElem?_mapIdx, List.getElem?_set, List.getElem?_set, List.getElem?_mapIdx, List.length_mapIdx]
  by_cases hj : k = j
  · subst hj
    by_cases hl : k < h.length <;> simp [hl]
  · simp [hj]
theorem iv_ll_mem {ad : iv_A} {al : iv_L} {q : Nat × Value} : q ∈ iv_ll ad al ↔ ∃ v, al[q.1]? = some (some v) ∧ q.2 = iv_v ad v := by
  unfold iv_ll
  rw [List.mem_filterMap]
  constructor
  · rintro ⟨⟨o, i⟩, h1, h2⟩
    rw [List.mem_zipIdx_iff_getElem?] at h1
    cases o with
    | none => cases h2
    | some v =>
      cases h2
      exact ⟨v, h1, rfl⟩
  · rintro ⟨v, h1, h2⟩
    refine ⟨(some v, q.1), List.mem_zipIdx_iff_getElem?.mpr h1, ?_⟩
    show some (q.1, iv_v ad v) = some q
    rw [← h2]
theorem iv_lv {ad : iv_A} {al : iv_L} {ls : Array Slot} {nL i : Nat} {v : Value} (h : lv_has ls nL (iv_ll ad al)) (hi : al[i]? = some (some v)) : ls[i]? = some (.val (iv_v ad v)) := h.2.2 (i, iv_v ad v) (iv_ll_mem.mpr ⟨v, hi, rfl⟩)
theorem iv_lv_sub {ls : Array Slot} {nL : Nat} {l l' : List (Nat × Value)} (h : lv_has ls nL l) (hs : ∀ q, q ∈ l' → q ∈ l) : lv_has ls nL l' := ⟨h.1, h.2.1, fun q hq => h.2.2 q (hs q hq)⟩
theorem iv_k_get {al : iv_L} {i j : Nat} {w : Value} (h : (iv_k al i)[j]? = some (some w)) : al[j]? = some (some w) ∧ ¬ (j + 1 = i ∧ w.category = 2) := by
  cases i with
  | zero => exact ⟨h, fun q => by omega⟩
  | succ a =>
    unfold iv_k at h
    dsimp only at h
    split at h
    · rename_i w0 h0
      split at h
      · rename_i hc
        rw [List.getElem?_set] at h
        split at h
        · split at h
          · cases h
          · cases h
        · exact ⟨h, fun q => by omega⟩
      · rename_i hc
        refine ⟨h, fun q => ?_⟩
        obtain ⟨q1, q2⟩ := q
        have : j = a := by omega
        subst this
        rw [h0] at h
        cases h
        exact hc q2
    · rename_i hn
      refine ⟨h, fun q => ?_⟩
      obtain ⟨q1, q2⟩ := q
      have : j = a := by omega
      subst this
      exact hn w h
theorem iv_s1_lv {ad : iv_A} {al : iv_L} {ls : Array Slot} {nL i : Nat} {v : Value} (h : lv_has ls nL ((i, iv_v ad v) :: (iv_ll ad al).filter (fun q => !(q.1 == i) && !(q.1 + 1 == i && q.2.category == 2)))) : lv_has ls nL (iv_ll ad (iv_s1 al i v)) := by
  refine iv_lv_sub h fun q hq => ?_
  obtain ⟨w, h1, h2⟩ := iv_ll_mem.mp hq
  unfold iv_s1 at h1
  rw [List.getElem?_set] at h1
  obtain ⟨a, b⟩ := q
  dsimp only at h1 h2
  subst h2
  split at h1
  · rename_i e
    subst e
    split at h1
    · cases h1
      exact List.mem_cons_self
    · cases h1
  · rename_i e
    obtain ⟨g1, g2⟩ := iv_k_get h1
    refine List.mem_cons_of_mem _ (List.mem_filter.mpr ⟨iv_ll_mem.mpr ⟨w, g1, rfl⟩, ?_⟩)
    have e' : ¬ a = i := fun z => e z.symm
    simp only [iv_v_cat]
    by_cases hx : a + 1 = i
    · have : ¬ w.category = 2 := fun z => g2 ⟨hx, z⟩
      simp [e', this]
    · simp [e', hx]
theorem iv_s2_lv {ad : iv_A} {al : iv_L} {ls : Array Slot} {nL i : Nat} {v : Value} (h : lv_has ls nL ((i, iv_v ad v) :: (iv_ll ad al).filter (fun q => !(q.1 == i) && (!(q.1 == i + 1) && !(q.1 + 1 == i && q.2.category == 2))))) : lv_has ls nL (iv_ll ad (iv_s2 al i v)) := by
  refine iv_lv_sub h fun q hq => ?_
  obtain ⟨w, h1, h2⟩ := iv_ll_mem.mp hq
  unfold iv_s2 at h1
  rw [List.getElem?_set] at h1
  obtain ⟨a, b⟩ := q
  dsimp only at h1 h2
  subst h2
  split at h1
  · rename_i e
    subst e
    split at h1
    · cases h1
      exact List.mem_cons_self
    · cases h1
  · rename_i e
    rw [List.getElem?_set] at h1
    split at h1
    · split at h1 <;> cases h1
    · rename_i e2
      obtain ⟨g1, g2⟩ := iv_k_get h1
      refine List.mem_cons_of_mem _ (List.mem_filter.mpr ⟨iv_ll_mem.mpr ⟨w, g1, rfl⟩, ?_⟩)
      have e' : ¬ a = i := fun z => e z.symm
      have e3 : ¬ a = i + 1 := fun z => e2 z.symm
      simp only [iv_v_cat]
      by_cases hx : a + 1 = i
      · have : ¬ w.category = 2 := fun z => g2 ⟨hx, z⟩
        simp [e', e3, this]
      · simp [e', e3, hx]
/-- references are numbers of cells -/
def iv_g (n : Nat) (v : Value) : Prop := ∀ k, v = .ref k → k < n
def iv_gl (n : Nat) (st : List Value) : Prop := ∀ v ∈ st, iv_g n v
def iv_ga (n : Nat) (al : iv_L) : Prop := ∀ (i : Nat) (v : Value), al[i]? = some (some v) → iv_g n v
def iv_gc (n : Nat) (c : iv_C) : Prop := match c with
  | .inl o => iv_gl n o.2
  | .inr (_, _, .inr (.inr (.inr (.inr f)))) => ∀ j k, f j = some k → k < n
  | _ => True
def iv_gh (n : Nat) (h : iv_H) : Prop := ∀ (k : Nat) (c : iv_C), h[k]? = some c → iv_gc n c
theorem iv_g_i (n : Nat) (x : Int32) : iv_g n (.int x) := fun k h => by cases h
theorem iv_g_j (n : Nat) (x : Int64) : iv_g n (.long x) := fun k h => by cases h
theorem iv_g_a (n : Nat) (x : Nat) : iv_g n (.retAddr x) := fun k h => by cases h
theorem iv_g_r {n k : Nat} (h : k < n) : iv_g n (.ref k) := fun q e => by cases e; exact h
theorem iv_g_n (n : Nat) : iv_g n .null := fun k h => by cases h
theorem iv_g.mono {n m : Nat} {v : Value} (h : iv_g n v) (hm : n ≤ m) : iv_g m v := fun k e => Nat.lt_of_lt_of_le (h k e) hm
theorem iv_gl_nil (n : Nat) : iv_gl n [] := fun v h => by cases h
theorem iv_gl.cons {n : Nat} {v : Value} {r : List Value} (h1 : iv_g n v) (h2 : iv_gl n r) : iv_gl n (v :: r) := fun w hw => by
  rcases List.mem_cons.mp hw with rfl | h
  · exact h1
  · exact h2 w h
theorem iv_gl.hd {n : Nat} {v : Value} {r : List Value} (h : iv_gl n (v :: r)) : iv_g n v := h v List.mem_cons_self
theorem iv_gl.tl {n : Nat} {v : Value} {r : List Value} (h : iv_gl n (v :: r)) : iv_gl n r := fun w hw => h w (List.mem_cons_of_mem _ hw)
theorem iv_gl.mono {n m : Nat} {st : List Value} (h : iv_gl n st) (hm : n ≤ m) : iv_gl m st := fun v hv => (h v hv).mono hm
theorem iv_ga.mono {n m : Nat} {al : iv_L} (h : iv_ga n al) (hm : n ≤ m) : iv_ga m al := fun i v hv => (h i v hv).mono hm
theorem iv_gc.mono {n m : Nat} {c : iv_C} (h : iv_gc n c) (hm : n ≤ m) : iv_gc m c := by
  unfold iv_gc at h ⊢
  split
  · exact iv_gl.mono h hm
  · exact fun j k e => Nat.lt_of_lt_of_le (h j k e) hm
  · trivial
theorem iv_gh.mono {n m : Nat} {h : iv_H} (g : iv_gh n h) (hm : n ≤ m) : iv_gh m h := fun k c e => (g k c e).mono hm
theorem iv_ga_s1 {n i : Nat} {al : iv_L} {v : Value} (h : iv_ga n al) (hv : iv_g n v) : iv_ga n (iv_s1 al i v) := fun j w hw => by
  unfold iv_s1 at hw
  rw [List.getElem?_set] at hw
  split at hw
  · split at hw
    · cases hw; exact hv
    · cases hw
  · exact h j w (iv_k_get hw).1
theorem iv_ga_s2 {n i : Nat} {al : iv_L} {v : Value} (h : iv_ga n al) (hv : iv_g n v) : iv_ga n (iv_s2 al i v) := fun j w hw => by
  unfold iv_s2 at hw
  rw [List.getElem?_set] at hw
  split at hw
  · split at hw
    · cases hw; exact hv
    · cases hw
  · rw [List.getElem?_set] at hw
    split at hw
    · split at hw <;> cases hw
    · exact h j w (iv_k_get hw).1
/-- addresses that agree on the first n cells -/
def iv_ag (n : Nat) (ad ad' : iv_A) : Prop := ad' none = ad none ∧ ∀ k, k < n → ad' (some k) = ad (some k)
theorem iv_ag.rf {n : Nat} {ad : iv_A} : iv_ag n ad ad := ⟨rfl, fun _ _ => rfl⟩
theorem iv_ag.tr {n m : Nat} {a b c : iv_A} (h1 : iv_ag n a b) (h2 : iv_ag m b c) (hm : n ≤ m) : iv_ag n a c := ⟨h2.1.trans h1.1, fun k hk => (h2.2 k (by omega)).trans (h1.2 k hk)⟩
theorem iv_v_ag {n : Nat} {ad ad' : iv_A} (h : iv_ag n ad ad') {v : Value} (g : iv_g n v) : iv_v ad' v = iv_v ad v := by
  cases v with
  | ref k => show Value.ref _ = Value.ref _; rw [h.2 k (g k rfl)]
  | retAddr k => show Value.ref _ = Value.ref _; rw [h.1]
  | _ => rfl
theorem iv_st_ag {n : Nat} {ad ad' : iv_A} (h : iv_ag n ad ad') {st : List Value} (g : iv_gl n st) : st.map (iv_v ad') = st.map (iv_v ad) := List.map_congr_left fun v hv => iv_v_ag h (g v hv)
theorem iv_ll_ag {n : Nat} {ad ad' : iv_A} (h : iv_ag n ad ad') {al : iv_L} (g : iv_ga n al) {ls : Array Slot} {nL : Nat} (hl : lv_has ls nL (iv_ll ad al)) : lv_has ls nL (iv_ll ad' al) := iv_lv_sub hl fun q hq => by
  obtain ⟨v, h1, h2⟩ := iv_ll_mem.mp hq
  exact iv_ll_mem.mpr ⟨v, h1, by rw [h2, iv_v_ag h (g _ v h1)]⟩
theorem iv_e_ag {n : Nat} {ad ad' : iv_A} (h : iv_ag n ad ad') {cO : Nat → ClassId} {c : iv_C} (g : iv_gc n c) : iv_e ad' cO c = iv_e ad cO c := by
  obtain o | ⟨t, m, f | f | f | f | f⟩ := c
  · show Sum.inr (o.1, o.2.map (iv_v ad')) = Sum.inr (o.1, o.2.map (iv_v ad))
    rw [iv_st_ag h g]
  · rfl
  · rfl
  · rfl
  · rfl
  · have e : (fun j => (f j).map (fun k => ad' (some k))) = (fun j => (f j).map (fun k => ad (some k))) := by
      funext j
      cases hj : f j with
      | none => rfl
      | some k => show some (ad' (some k)) = some (ad (some k)); rw [h.2 k (g j k hj)]
    show Sum.inl (cO t, (m, Sum.inr (Sum.inr (Sum.inr (Sum.inr (fun j => (f j).map (fun k => ad' (some k)))))))) = Sum.inl (cO t, (m, Sum.inr (Sum.inr (Sum.inr (Sum.inr (fun j => (f j).map (fun k => ad (some k))))))))
    rw [e]
theorem iv_w_ag {ad ad' : iv_A} {h : iv_H} (ha : iv_ag h.length ad ad') {cO : Nat → ClassId} (g : iv_gh h.length h) : iv_w ad' cO h = iv_w ad cO h := by
  apply List.ext_getElem?
  intro j
  unfold iv_w
  rw [List.getElem?_mapIdx, List.getElem?_mapIdx]
  cases hj : h[j]? with
  | none => rfl
  | some c =>
    show some (ad' (some j), iv_e ad' cO c) = some (ad (some j), iv_e ad cO c)
    rw [ha.2 j (List.getElem?_eq_some_iff.mp hj).1, iv_e_ag ha (g j c hj)]
/-- one cell more, at the address q -/
def iv_up (ad : iv_A) (n q : Nat) : iv_A := fun o => if o = some n then q else ad o
theorem iv_up_ag (ad : iv_A) (n q : Nat) : iv_ag n ad (iv_up ad n q) := ⟨by simp [iv_up], fun k hk => by
  have : ¬ k = n := by omega
  simp [iv_up, this]⟩
theorem iv_w_push {ad : iv_A} {cO : Nat → ClassId} {h : iv_H} (g : iv_gh h.length h) {c : iv_C} (gc : iv_gc h.length c) (q : Nat) : iv_w ad cO h ++ [(q, iv_e ad cO c)] = iv_w (iv_up ad h.length q) cO (h ++ [c]) := by
  have ha := iv_up_ag ad h.length q
  have e1 : iv_w (iv_up ad h.length q) cO (h ++ [c]) = iv_w (iv_up ad h.length q) cO h ++ [(iv_up ad h.length q (some h.length), iv_e (iv_up ad h.length q) cO c)] := by
    unfold iv_w
    rw [List.mapIdx_append]
    simp
  rw [e1, iv_w_ag ha g, iv_e_ag ha gc]
  simp [iv_up]
theorem iv_sz_set {h : iv_H} {k : Nat} {c : iv_C} (e : (h[k]?).map iv_cz = some (iv_cz c)) : iv_sz (h.set k c) = iv_sz h := by
  induction h generalizing k with
  | nil => rfl
  | cons a h ih =>
    cases k with
    | zero =>
      have e' : iv_cz a = iv_cz c := by simpa using e
      show iv_cz c + iv_sz h = iv_cz a + iv_sz h
      rw [e']
    | succ k =>
      show iv_cz a + iv_sz (h.set k c) = iv_cz a + iv_sz h
      rw [ih (by simpa using e)]
theorem iv_sz_app (h : iv_H) (c : iv_C) : iv_sz (h ++ [c]) = iv_sz h + iv_cz c := by
  induction h with
  | nil => show iv_cz c + 0 = 0 + iv_cz c; omega
  | cons a h ih =>
    show iv_cz a + iv_sz (h ++ [c]) = iv_cz a + iv_sz h + iv_cz c
    rw [ih]; omega
theorem iv_ef_le {h h' : iv_H} {f : iv_F} (e : iv_ef h f = some h') : h.length ≤ h'.length ∧ iv_sz h ≤ iv_sz h' := by
  unfold iv_ef at e
  split at e
  · cases e; exact ⟨Nat.le_refl _, Nat.le_refl _⟩
  · cases e
    rw [iv_sz_app, List.length_append]
    exact ⟨by omega, by omega⟩
  · split at e
    · cases e
      rw [iv_sz_set (by assumption), List.length_set]
      exact ⟨Nat.le_refl _, Nat.le_refl _⟩
    · cases e
theorem iv_run_le : ∀ (n : Nat) (z : iv_Z) (d mi : Nat) (S : iv_S) (r : Option Value × iv_H), iv_run z n d mi S = some r → S.2.2.2.length ≤ r.2.length ∧ iv_sz S.2.2.2 ≤ iv_sz r.2 := by
  intro n
  induction n with
  | zero => intro z d mi S r h; cases h
  | succ n ih =>
    intro z d mi S r h
    unfold iv_run at h
    split at h
    · cases h
    · split at h
      · obtain ⟨v, h1, h2⟩ := Option.map_eq_some_iff.mp h
        subst h2
        exact ⟨Nat.le_refl _, Nat.le_refl _⟩
      · split at h
        · split at h
          · cases h
          · split at h
            · cases h
            · rename_i q hq
              have a := ih _ _ _ _ _ hq
              have b := ih _ _ _ _ _ h
              exact ⟨Nat.le_trans a.1 b.1, Nat.le_trans a.2 b.2⟩
        · split at h
          · cases h
          · split at h
            · cases h
            · rename_i h' he
              have a := iv_ef_le he
              have b := ih _ _ _ _ _ h
              exact ⟨Nat.le_trans a.1 b.1, Nat.le_trans a.2 b.2⟩
end
section
/-! ONE INSTRUCTION: what the interpreter does, the machine does -/
theorem iv_fA {a : Jvm.ClassFile.ArrayType} (h : iv_tn a < 4) : Cond.arrayClass (newarray.typeOf a) ∈ iv_Wd ∧ iv_ty[iv_tn a]? = some (newarray.typeOf a) ∧ (∀ (n : Nat) (cA : ClassId), vp_cell cA (iv_a0 (iv_tn a) n) = arrV cA n (fun _ => defaultValue (newarray.typeOf a))) ∧ (∀ n : Nat, n ≤ 60000000 → n * componentBytes (newarray.typeOf a) ≤ 536870912) := by
  obtain ⟨w1, w2, w3, w4⟩ := iv_ckA_all
  cases a with
  | int => exact ⟨iv_wo_s w1, rfl, fun n cA => rfl, fun n hn => by show n * 4 ≤ _; omega⟩
  | long => exact ⟨iv_wo_s w2, rfl, fun n cA => rfl, fun n hn => by show n * 8 ≤ _; omega⟩
  | boolean => exact ⟨iv_wo_s w3, rfl, fun n cA => rfl, fun n hn => by show n * 1 ≤ _; omega⟩
  | byte => exact ⟨iv_wo_s w4, rfl, fun n cA => rfl, fun n hn => by show n * 1 ≤ _; omega⟩
  | _ => exact absurd h (by decide)
theorem iv_df_v {v : Value} (h : iv_nrv v = true) (ad : iv_A) : iv_v ad v = v := by cases v <;> first | rfl | cases h
theorem iv_df_r {v : Value} (h : iv_nrv v = true) (k : Nat) : v ≠ .ref k := by rintro rfl; cases h
def iv_tys (cO : Nat → ClassId) : List (ClassId × FieldType) := iv_ty.mapIdx (fun i ty => (cO i, ty))
theorem iv_tys_get {cO : Nat → ClassId} {t : Nat} {ty : FieldType} (h : iv_ty[t]? = some ty) : (iv_tys cO)[t]? = some (cO t, ty) := by
  unfold iv_tys
  rw [List.getElem?_mapIdx, h]
  rfl
def iv_K (D : va_G) (cO : Nat → ClassId) (U : State) : Prop := va_K D iv_cl (iv_tys cO) U ∧ (∀ C ∈ iv_ao, va_AO C U) ∧ ∀ q ∈ iv_nw, va_Nw (.methodLinkNest q.1 q.2.1 q.2.2.1 q.2.2.2) U
theorem iv_K.warm {D : va_G} {cO : Nat → ClassId} {s U : State} (hW : s.WarmedH U.vm) (h : iv_K D cO s) : iv_K D cO U := ⟨va_K.moved hW.alike h.1, fun C hC => (h.2.1 C hC).moved hW.alike, fun q hq => va_Nw.warmM hW (h.2.2 q hq)⟩
theorem iv_K.blind {D : va_G} {cO : Nat → ClassId} {a : Array Value} {U : State} {g : JFrame} {mk : MethodId} (h : iv_K D cO U) : iv_K D cO (U.calling g mk a) := ⟨va_K.moved (u := U) (U := U.calling g mk a) (Vm.Alike.refl U.vm) h.1, fun C hC => va_AO.moved (u := U) (U := U.calling g mk a) (Vm.Alike.refl U.vm) (h.2.1 C hC), fun q hq => va_Nw.same (U := U.calling g mk a) rfl rfl (h.2.2 q hq)⟩
theorem iv_RA_one {U : State} {c1 c2 : ClassId} {ty : FieldType} (h1 : va_RA U c1 ty) (h2 : va_RA U c2 ty) : c1 = c2 := by
  cases ty with
  | object C =>
    obtain ⟨_, _, _, _, _, a⟩ := h1
    obtain ⟨_, _, _, _, _, b⟩ := h2
    exact Option.some.inj (a.symm.trans b)
  | _ => exact Option.some.inj ((show U.vm.findClass _ = some c1 from h1).symm.trans h2)
theorem iv_K_new {D : va_G} {cO : Nat → ClassId} {U : State} {cA : ClassId} {t : Nat} {ty : FieldType} (h : iv_K D cO U) (ht : iv_ty[t]? = some ty) (h2 : va_K D iv_cl (iv_tys cO ++ [(cA, ty)]) U) : cA = cO t := by
  have a := (h.1.2 t _ (iv_tys_get ht)).2
  have b := (h2.2 (iv_tys cO).length (cA, ty) (by simp)).2
  exact (iv_RA_one a b).symm
theorem iv_ok_nf {ty : FieldType} {v : Value} (h : iv_ok ty v = true) (ad : iv_A) : narrow ty (iv_v ad v) = iv_v ad v ∧ fits ty (iv_v ad v) = true := by
  unfold iv_ok at h
  split at h
  · exact ⟨rfl, rfl⟩
  · exact ⟨rfl, rfl⟩
  · simp only [Bool.or_eq_true, decide_eq_true_eq] at h
    rcases h with rfl | rfl <;> exact ⟨rfl, rfl⟩
  · exact ⟨rfl, rfl⟩
  · exact ⟨rfl, rfl⟩
  · cases h
/-- the method's own facts -/
def iv_X (D : va_G) (cO : Nat → ClassId) (p : Program) (s : State) (m : MethodId) (args : Array Value) (meth : Method) (c : Code) (mi : Nat) : Prop :=
  p.tables.exec = Jvm.exec ∧ c.code = iv_by mi ∧ c.maxLocals = iv_mx mi ∧ s.vm.findClass (iv_cn (iv_kf mi)) = some m.cls ∧ (∀ w ∈ iv_Wd, w.before args s = true) ∧ (iv_ini mi = true → meth.name = "<init>") ∧ iv_K D cO s
/-- the heap and the locals are as the interpreter has them -/
def iv_I (D : va_G) (cO : Nat → ClassId) (A : Nat → Prop) (H0 : Heap) (mi : Nat) (ad : iv_A) (al : iv_L) (st : List Value) (h : iv_H) (H : Heap) (locs : List Loc) (ls : Array Slot) : Prop :=
  va_P D iv_cl (iv_w ad cO h) H ∧ va_D A (iv_w ad cO h) ∧ va_S A H0 H locs ∧ lv_has ls (iv_mx mi) (iv_ll ad al) ∧ iv_ga h.length al ∧ iv_gl h.length st ∧ iv_gh h.length h
theorem iv_d1 {mi pc : Nat} {op : Jvm.ClassFile.Instr} (h : iv_cd mi pc = some op) (e : iv_n op = 1) : decode (iv_by mi) pc = .ok (op, 1) := by
  rw [← e]; exact iv_dq h (by rw [e]; decide)
theorem iv_d2 {mi pc : Nat} {op : Jvm.ClassFile.Instr} (h : iv_cd mi pc = some op) (e : iv_n op = 2) : decode (iv_by mi) pc = .ok (op, 2) := by
  rw [← e]; exact iv_dq h (by rw [e]; decide)
theorem iv_d3 {mi pc : Nat} {op : Jvm.ClassFile.Instr} (h : iv_cd mi pc = some op) (e : iv_n op = 3) : decode (iv_by mi) pc = .ok (op, 3) := by
  rw [← e]; exact iv_dq h (by rw [e]; decide)
section IVS
variable {p : Program} {l : Launch} {e : Env} {R : Room} {s : State} {m : MethodId} {args : Array Value} {below : List Frame} {meth : Method} {c : Code} {H : Heap} {locs : List Loc} {cells slots : Nat} {Q : State → Prop}
variable {D : va_G} {cO : Nat → ClassId} {A : Nat → Prop} {H0 : Heap} {mi pc : Nat} {ad : iv_A} {al al' : iv_L} {st st' r : List Value} {h h' : iv_H} {ls ls' : Array Slot}
theorem iv_kk0 {pc' : Nat} (I : iv_I D cO A H0 mi ad al st h H locs ls) (hl : lv_has ls' (iv_mx mi) (iv_ll ad al')) (ga : iv_ga h.length al') (gs : iv_gl h.length st')
    (kk : ∀ (ad' : iv_A) (H' : Heap) (locs' : List Loc) (ls' : Array Slot), iv_ag h.length ad ad' → iv_I D cO A H0 mi ad' al' st' h H' locs' ls' → W p l e R s m args below meth c H' locs' (cells + (h.length - h.length)) (slots + (iv_sz h - iv_sz h)) Q (F0 m pc' ls' (st'.map (iv_v ad')))) :
    W p l e R s m args below meth c H locs cells slots Q (F0 m pc' ls' (st'.map (iv_v ad))) := by
  have k := kk ad H locs ls' iv_ag.rf ⟨I.1, I.2.1, I.2.2.1, hl, ga, gs, I.2.2.2.2.2.2⟩
  rw [Nat.sub_self, Nat.sub_self] at k
  exact k
theorem iv_kkS {pc' k : Nat} {cl : iv_C} {H1 : Heap} {locs1 : List Loc} (hef : iv_ef h (some (some k, cl)) = some h') (I : iv_I D cO A H0 mi ad al st h H locs ls) (hP1 : va_P D iv_cl (iv_w ad cO (h.set k cl)) H1) (hD1 : va_D A (iv_w ad cO (h.set k cl))) (hS1 : va_S A H0 H1 locs1) (gs : iv_gl h.length st') (gc : iv_gc h.length cl)
    (kk : ∀ (ad' : iv_A) (H' : Heap) (locs' : List Loc) (ls' : Array Slot), iv_ag h.length ad ad' → iv_I D cO A H0 mi ad' al st' h' H' locs' ls' → W p l e R s m args below meth c H' locs' (cells + (h'.length - h.length)) (slots + (iv_sz h' - iv_sz h)) Q (F0 m pc' ls' (st'.map (iv_v ad')))) :
    W p l e R s m args below meth c H1 locs1 cells slots Q (F0 m pc' ls (st'.map (iv_v ad))) := by
  unfold iv_ef at hef
  dsimp only at hef
  split at hef
  · rename_i hz
    cases hef
    have hlen : (h.set k cl).length = h.length := List.length_set
    have k2 := kk ad H1 locs1 ls iv_ag.rf ⟨hP1, hD1, hS1, I.2.2.2.1, by rw [hlen]; exact I.2.2.2.2.1, by rw [hlen]; exact gs, by
      rw [hlen]
      intro j d hj
      rw [List.getElem?_set] at hj
      split at hj
      · split at hj
        · cases hj; exact gc
        · cases hj
      · exact I.2.2.2.2.2.2 j d hj⟩
    rw [hlen, iv_sz_set hz, Nat.sub_self, Nat.sub_self] at k2
    exact k2
  · cases hef
theorem iv_kkN {pc' q : Nat} {cl : iv_C} {H1 : Heap} {locs1 : List Loc} (hef : iv_ef h (some (none, cl)) = some h') (I : iv_I D cO A H0 mi ad al st h H locs ls) (hP1 : va_P D iv_cl (iv_w ad cO h ++ [(q, iv_e ad cO cl)]) H1) (hD1 : va_D A (iv_w ad cO h ++ [(q, iv_e ad cO cl)])) (hS1 : va_S A H0 H1 locs1) (gr : iv_gl h.length r) (gc : iv_gc h.length cl)
    (kk : ∀ (ad' : iv_A) (H' : Heap) (locs' : List Loc) (ls' : Array Slot), iv_ag h.length ad ad' → iv_I D cO A H0 mi ad' al (.ref h.length :: r) h' H' locs' ls' → W p l e R s m args below meth c H' locs' (cells + (h'.length - h.length)) (slots + (iv_sz h' - iv_sz h)) Q (F0 m pc' ls' ((Value.ref h.length :: r).map (iv_v ad')))) :
    W p l e R s m args below meth c H1 locs1 (cells + 1) (slots + iv_cz cl) Q (F0 m pc' ls (.ref q :: r.map (iv_v ad))) := by
  have hh : h' = h ++ [cl] := (Option.some.inj hef).symm
  subst hh
  have hlen : (h ++ [cl]).length = h.length + 1 := by simp
  have ag := iv_up_ag ad h.length q
  rw [iv_w_push I.2.2.2.2.2.2 gc q] at hP1 hD1
  have k2 := kk (iv_up ad h.length q) H1 locs1 ls ag ⟨hP1, hD1, hS1, iv_ll_ag ag I.2.2.2.2.1 I.2.2.2.1, I.2.2.2.2.1.mono (by omega), .cons (iv_g_r (by omega)) (gr.mono (by omega)), by
    rw [hlen]
    intro j d hj
    by_cases hjl : j < h.length
    · rw [List.getElem?_append_left hjl] at hj
      exact (I.2.2.2.2.2.2 j d hj).mono (by omega)
    · rw [List.getElem?_append_right (by omega)] at hj
      have hz : j - h.length < 1 := (List.getElem?_eq_some_iff.mp hj).1
      rw [show j - h.length = 0 by omega] at hj
      cases hj
      exact gc.mono (by omega)⟩
  rw [hlen, iv_sz_app, show h.length + 1 - h.length = 1 by omega, show iv_sz h + iv_cz cl - iv_sz h = iv_cz cl by omega] at k2
  have e1 : (Value.ref h.length :: r).map (iv_v (iv_up ad h.length q)) = Value.ref q :: r.map (iv_v ad) := by
    rw [List.map_cons, iv_st_ag ag gr]
    show Value.ref _ :: _ = _
    simp [iv_up]
  rw [e1] at k2
  exact k2
set_option maxHeartbeats 4000000 in
set_option maxRecDepth 20000 in
theorem iv_step {z : iv_Z} {op : Jvm.ClassFile.Instr} {o : iv_O} (hop : iv_op z mi pc op al st h = some o) (hef : iv_ef h o.2.2.2 = some h') (hcd : iv_cd mi pc = some op) (X : iv_X D cO p s m args meth c mi) (I : iv_I D cO A s.heap mi ad al st h H locs ls) (hA : ∀ q, s.heap.size ≤ q → A q)
    (hZ : ∀ q, z = some q → va_X (ad none) q.1 q.2 s s.heap ∧ ad none < s.heap.size ∧ ¬ A (ad none)) (hrc : cells + (h'.length - h.length) ≤ R.cells) (hrs : slots + (iv_sz h' - iv_sz h) ≤ R.slots) (hR : 1 ≤ R.frames ∧ 100 ≤ R.locals)
    (kk : ∀ (ad' : iv_A) (H' : Heap) (locs' : List Loc) (ls' : Array Slot), iv_ag h.length ad ad' → iv_I D cO A s.heap mi ad' o.2.1 o.2.2.1 h' H' locs' ls' → W p l e R s m args below meth c H' locs' (cells + (h'.length - h.length)) (slots + (iv_sz h' - iv_sz h)) Q (F0 m o.1 ls' (o.2.2.1.map (iv_v ad')))) :
    W p l e R s m args below meth c H locs cells slots Q (F0 m pc ls (st.map (iv_v ad))) := by
  obtain ⟨hx, hb, hml, hown, hts, hini, hK⟩ := id X
  obtain ⟨hP, hD, hS, hl, ga, gs, gh⟩ := id I
  cases op with
  | iconst n =>
    obtain rfl := iv_pi_s hop
    cases hef
    exact lv_iconst hx hb (iv_d1 hcd rfl) rfl (iv_kk0 I hl ga (.cons (iv_g_i _ _) gs) kk)
  | bipush n =>
    obtain rfl := iv_pi_s hop
    cases hef
    exact lv_bipush hx hb (iv_d2 hcd rfl) rfl (iv_kk0 I hl ga (.cons (iv_g_i _ _) gs) kk)
  | sipush n =>
    obtain rfl := iv_pi_s hop
    cases hef
    exact lv_sipush hx hb (iv_d3 hcd rfl) rfl (iv_kk0 I hl ga (.cons (iv_g_i _ _) gs) kk)
  | lconst n =>
    obtain rfl := iv_pj_s hop
    cases hef
    exact lv_lconst hx hb (iv_d1 hcd rfl) rfl (iv_kk0 I hl ga (.cons (iv_g_j _ _) gs) kk)
  | ldc idx =>
    obtain ⟨x, e1, e_1⟩ := Option.bind_eq_some_iff.mp hop
    obtain rfl := iv_pi_s e_1
    cases hef
    exact lv_ldc hx hb hown (hts _ (iv_fL e1)) (iv_d2 hcd rfl) (iv_kk0 I hl ga (.cons (iv_g_i _ _) gs) kk)
  | ldc2_w idx =>
    obtain ⟨x, e1, e_1⟩ := Option.bind_eq_some_iff.mp hop
    obtain rfl := iv_pj_s e_1
    cases hef
    exact lv_ldc2 hx hb hown (hts _ (iv_fL2 e1)) (iv_d3 hcd rfl) (iv_kk0 I hl ga (.cons (iv_g_j _ _) gs) kk)
  | iload_n k =>
    obtain ⟨x, e1, e_1⟩ := iv_li_s hop
    obtain rfl := iv_pi_s e_1
    cases hef
    exact lv_iload_n hx hb (iv_d1 hcd rfl) rfl (iv_lv hl e1) (iv_kk0 I hl ga (.cons (iv_g_i _ _) gs) kk)
  | iload k =>
    obtain ⟨x, e1, e_1⟩ := iv_li_s hop
    obtain rfl := iv_pi_s e_1
    cases hef
    exact lv_iload hx hb (iv_d2 hcd rfl) (iv_lv hl e1) (iv_kk0 I hl ga (.cons (iv_g_i _ _) gs) kk)
  | lload_n k =>
    obtain ⟨x, e1, e_1⟩ := iv_lj_s hop
    obtain rfl := iv_pj_s e_1
    cases hef
    exact lv_lload_n hx hb (iv_d1 hcd rfl) rfl (iv_lv hl e1) (iv_kk0 I hl ga (.cons (iv_g_j _ _) gs) kk)
  | lload k =>
    obtain ⟨x, e1, e_1⟩ := iv_lj_s hop
    obtain rfl := iv_pj_s e_1
    cases hef
    exact lv_lload hx hb (iv_d2 hcd rfl) (iv_lv hl e1) (iv_kk0 I hl ga (.cons (iv_g_j _ _) gs) kk)
  | aload_n k =>
    have hop : iv_la al (k : Nat) (fun x => some (pc + 1, al, x :: st, none)) = some o := hop
    obtain ⟨v, e1, hv, e_1⟩ := iv_la_s hop
    cases e_1
    cases hef
    rcases hv with ⟨k2, rfl⟩ | ⟨k2, rfl⟩
    · exact lv_aload_n hx hb (iv_d1 hcd rfl) rfl (iv_lv hl e1) (iv_kk0 I hl ga (.cons (ga _ _ e1) gs) kk)
    · exact lv_aload_n hx hb (iv_d1 hcd rfl) rfl (iv_lv hl e1) (iv_kk0 I hl ga (.cons (ga _ _ e1) gs) kk)
  | aload k =>
    have hop : iv_la al k (fun x => some (pc + 2, al, x :: st, none)) = some o := hop
    obtain ⟨v, e1, hv, e_1⟩ := iv_la_s hop
    cases e_1
    cases hef
    rcases hv with ⟨k2, rfl⟩ | ⟨k2, rfl⟩
    · exact lv_aload hx hb (iv_d2 hcd rfl) (iv_lv hl e1) (iv_kk0 I hl ga (.cons (ga _ _ e1) gs) kk)
    · exact lv_aload hx hb (iv_d2 hcd rfl) (iv_lv hl e1) (iv_kk0 I hl ga (.cons (ga _ _ e1) gs) kk)
  | istore_n k =>
    obtain ⟨x, r, rfl, e_1⟩ := iv_i_s hop
    obtain ⟨hn, rfl⟩ := iv_sl_s e_1
    cases hef
    exact lv_istore_n hx hb (iv_d1 hcd rfl) rfl hl hn rfl (fun ls hl2 => iv_kk0 I (iv_s1_lv (v := .int x) hl2) (iv_ga_s1 ga (iv_g_i _ _)) gs.tl kk)
  | istore k =>
    obtain ⟨x, r, rfl, e_1⟩ := iv_i_s hop
    obtain ⟨hn, rfl⟩ := iv_sl_s e_1
    cases hef
    exact lv_istore hx hb (iv_d2 hcd rfl) hl hn rfl (fun ls hl2 => iv_kk0 I (iv_s1_lv (v := .int x) hl2) (iv_ga_s1 ga (iv_g_i _ _)) gs.tl kk)
  | lstore_n k =>
    obtain ⟨x, r, rfl, e_1⟩ := iv_j_s hop
    obtain ⟨hn, rfl⟩ := iv_sl_s e_1
    cases hef
    exact lv_lstore_n hx hb (iv_d1 hcd rfl) rfl hl hn rfl (fun ls hl2 => iv_kk0 I (iv_s2_lv (v := .long x) hl2) (iv_ga_s2 ga (iv_g_j _ _)) gs.tl kk)
  | lstore k =>
    obtain ⟨x, r, rfl, e_1⟩ := iv_j_s hop
    obtain ⟨hn, rfl⟩ := iv_sl_s e_1
    cases hef
    exact lv_lstore hx hb (iv_d2 hcd rfl) hl hn rfl (fun ls hl2 => iv_kk0 I (iv_s2_lv (v := .long x) hl2) (iv_ga_s2 ga (iv_g_j _ _)) gs.tl kk)
  | astore_n k =>
    obtain ⟨x, r, rfl, e_1⟩ := iv_r_s hop
    obtain ⟨hn, rfl⟩ := iv_sl_s e_1
    cases hef
    exact lv_astore_n hx hb (iv_d1 hcd rfl) rfl hl hn rfl (fun ls hl2 => iv_kk0 I (iv_s1_lv (v := .ref x) hl2) (iv_ga_s1 ga (gs.hd)) gs.tl kk)
  | astore k =>
    obtain ⟨x, r, rfl, e_1⟩ := iv_r_s hop
    obtain ⟨hn, rfl⟩ := iv_sl_s e_1
    cases hef
    exact lv_astore hx hb (iv_d2 hcd rfl) hl hn rfl (fun ls hl2 => iv_kk0 I (iv_s1_lv (v := .ref x) hl2) (iv_ga_s1 ga (gs.hd)) gs.tl kk)
  | iinc i n =>
    obtain ⟨x, e1, e_1⟩ := iv_li_s hop
    obtain ⟨hn, rfl⟩ := iv_sl_s e_1
    cases hef
    obtain ⟨k2, hk2⟩ := List.getElem?_of_mem (iv_ll_mem.mpr ⟨_, e1, rfl⟩ : (i, iv_v ad (.int x)) ∈ iv_ll ad al)
    exact lv_iinc hx hb (iv_d3 hcd rfl) hl hk2 rfl hn rfl (fun ls hl2 => iv_kk0 I (iv_s1_lv (v := .int (x + Int32.ofInt n)) hl2) (iv_ga_s1 ga (iv_g_i _ _)) gs kk)
  | iadd =>
    obtain ⟨x, y, r, rfl, rfl⟩ := iv_ii_s hop
    cases hef
    exact lv_iadd hx hb (iv_d1 hcd rfl) (iv_kk0 I hl ga (.cons (iv_g_i _ _) gs.tl.tl) kk)
  | isub =>
    obtain ⟨x, y, r, rfl, rfl⟩ := iv_ii_s hop
    cases hef
    exact lv_isub hx hb (iv_d1 hcd rfl) (iv_kk0 I hl ga (.cons (iv_g_i _ _) gs.tl.tl) kk)
  | imul =>
    obtain ⟨x, y, r, rfl, rfl⟩ := iv_ii_s hop
    cases hef
    exact lv_imul hx hb (iv_d1 hcd rfl) (iv_kk0 I hl ga (.cons (iv_g_i _ _) gs.tl.tl) kk)
  | iand =>
    obtain ⟨x, y, r, rfl, rfl⟩ := iv_ii_s hop
    cases hef
    exact lv_iand hx hb (iv_d1 hcd rfl) (iv_kk0 I hl ga (.cons (iv_g_i _ _) gs.tl.tl) kk)
  | ior =>
    obtain ⟨x, y, r, rfl, rfl⟩ := iv_ii_s hop
    cases hef
    exact lv_ior hx hb (iv_d1 hcd rfl) (iv_kk0 I hl ga (.cons (iv_g_i _ _) gs.tl.tl) kk)
  | ixor =>
    obtain ⟨x, y, r, rfl, rfl⟩ := iv_ii_s hop
    cases hef
    exact lv_ixor hx hb (iv_d1 hcd rfl) (iv_kk0 I hl ga (.cons (iv_g_i _ _) gs.tl.tl) kk)
  | ishl =>
    obtain ⟨x, y, r, rfl, rfl⟩ := iv_ii_s hop
    cases hef
    exact lv_ishl hx hb (iv_d1 hcd rfl) (iv_kk0 I hl ga (.cons (iv_g_i _ _) gs.tl.tl) kk)
  | ishr =>
    obtain ⟨x, y, r, rfl, rfl⟩ := iv_ii_s hop
    cases hef
    exact lv_ishr hx hb (iv_d1 hcd rfl) (iv_kk0 I hl ga (.cons (iv_g_i _ _) gs.tl.tl) kk)
  | iushr =>
    obtain ⟨x, y, r, rfl, rfl⟩ := iv_ii_s hop
    cases hef
    exact lv_iushr hx hb (iv_d1 hcd rfl) rfl (iv_kk0 I hl ga (.cons (iv_g_i _ _) gs.tl.tl) kk)
  | ladd =>
    obtain ⟨x, y, r, rfl, rfl⟩ := iv_jj_s hop
    cases hef
    exact lv_ladd hx hb (iv_d1 hcd rfl) (iv_kk0 I hl ga (.cons (iv_g_j _ _) gs.tl.tl) kk)
  | lsub =>
    obtain ⟨x, y, r, rfl, rfl⟩ := iv_jj_s hop
    cases hef
    exact lv_lsub hx hb (iv_d1 hcd rfl) (iv_kk0 I hl ga (.cons (iv_g_j _ _) gs.tl.tl) kk)
  | lmul =>
    obtain ⟨x, y, r, rfl, rfl⟩ := iv_jj_s hop
    cases hef
    exact lv_lmul hx hb (iv_d1 hcd rfl) (iv_kk0 I hl ga (.cons (iv_g_j _ _) gs.tl.tl) kk)
  | idiv =>
    obtain ⟨y, r1, rfl, e_1⟩ := iv_i_s hop
    obtain ⟨x, r, rfl, e_2⟩ := iv_i_s e_1
    split at e_2
    · cases e_2
    · rename_i hne
      obtain rfl := iv_pi_s e_2
      cases hef
      exact lv_idiv hx hb (iv_d1 hcd rfl) hne (iv_kk0 I hl ga (.cons (iv_g_i _ _) gs.tl.tl) kk)
  | irem =>
    obtain ⟨y, r1, rfl, e_1⟩ := iv_i_s hop
    obtain ⟨x, r, rfl, e_2⟩ := iv_i_s e_1
    split at e_2
    · cases e_2
    · rename_i hne
      obtain rfl := iv_pi_s e_2
      cases hef
      exact lv_irem hx hb (iv_d1 hcd rfl) hne (iv_kk0 I hl ga (.cons (iv_g_i _ _) gs.tl.tl) kk)
  | ldiv =>
    obtain ⟨y, r1, rfl, e_1⟩ := iv_j_s hop
    obtain ⟨x, r, rfl, e_2⟩ := iv_j_s e_1
    split at e_2
    · cases e_2
    · rename_i hne
      obtain rfl := iv_pj_s e_2
      cases hef
      exact lv_ldiv hx hb (iv_d1 hcd rfl) hne (iv_kk0 I hl ga (.cons (iv_g_j _ _) gs.tl.tl) kk)
  | lrem =>
    obtain ⟨y, r1, rfl, e_1⟩ := iv_j_s hop
    obtain ⟨x, r, rfl, e_2⟩ := iv_j_s e_1
    split at e_2
    · cases e_2
    · rename_i hne
      obtain rfl := iv_pj_s e_2
      cases hef
      exact lv_lrem hx hb (iv_d1 hcd rfl) hne (iv_kk0 I hl ga (.cons (iv_g_j _ _) gs.tl.tl) kk)
  | ineg =>
    obtain ⟨x, r, rfl, e_1⟩ := iv_i_s hop
    obtain rfl := iv_pi_s e_1
    cases hef
    exact lv_ineg hx hb (iv_d1 hcd rfl) (iv_kk0 I hl ga (.cons (iv_g_i _ _) gs.tl) kk)
  | lneg =>
    obtain ⟨x, r, rfl, e_1⟩ := iv_j_s hop
    obtain rfl := iv_pj_s e_1
    cases hef
    exact lv_lneg hx hb (iv_d1 hcd rfl) (iv_kk0 I hl ga (.cons (iv_g_j _ _) gs.tl) kk)
  | lcmp =>
    obtain ⟨y, r1, rfl, e_1⟩ := iv_j_s hop
    obtain ⟨x, r, rfl, e_2⟩ := iv_j_s e_1
    obtain rfl := iv_pi_s e_2
    cases hef
    exact W.lcmp hx hb (iv_d1 hcd rfl) (iv_kk0 I hl ga (.cons (iv_g_i _ _) gs.tl.tl) kk)
  | i2l =>
    obtain ⟨x, r, rfl, e_1⟩ := iv_i_s hop
    obtain rfl := iv_pj_s e_1
    cases hef
    exact lv_i2l hx hb (iv_d1 hcd rfl) rfl (iv_kk0 I hl ga (.cons (iv_g_j _ _) gs.tl) kk)
  | l2i =>
    obtain ⟨x, r, rfl, e_1⟩ := iv_j_s hop
    obtain rfl := iv_pi_s e_1
    cases hef
    exact lv_l2i hx hb (iv_d1 hcd rfl) rfl (iv_kk0 I hl ga (.cons (iv_g_i _ _) gs.tl) kk)
  | i2b =>
    obtain ⟨x, r, rfl, e_1⟩ := iv_i_s hop
    obtain rfl := iv_pi_s e_1
    cases hef
    exact lv_i2b hx hb (iv_d1 hcd rfl) rfl (iv_kk0 I hl ga (.cons (iv_g_i _ _) gs.tl) kk)
  | dup =>
    obtain ⟨v, r, rfl, hv, e_1⟩ := iv_1_s hop
    cases e_1
    cases hef
    exact lv_dup hx hb (iv_d1 hcd rfl) ((iv_v_cat ad v).trans hv) (iv_kk0 I hl ga (.cons gs.hd gs) kk)
  | pop =>
    obtain ⟨v, r, rfl, hv, e_1⟩ := iv_1_s hop
    cases e_1
    cases hef
    exact lv_pop hx hb (iv_d1 hcd rfl) ((iv_v_cat ad v).trans hv) (iv_kk0 I hl ga gs.tl kk)
  | dup_x1 =>
    obtain ⟨v, r1, rfl, hv, e_1⟩ := iv_1_s hop
    obtain ⟨u, r, rfl, hu, e_2⟩ := iv_1_s e_1
    cases e_2
    cases hef
    exact lv_dup_x1 hx hb (iv_d1 hcd rfl) ((iv_v_cat ad v).trans hv) ((iv_v_cat ad u).trans hu) (iv_kk0 I hl ga (.cons gs.hd (.cons gs.tl.hd (.cons gs.hd gs.tl.tl))) kk)
  | dup_x2 =>
    obtain ⟨v, r1, rfl, hv, e_1⟩ := iv_1_s hop
    obtain ⟨u, r2, rfl, hu, e_2⟩ := iv_1_s e_1
    obtain ⟨y, r, rfl, hy, e_3⟩ := iv_1_s e_2
    cases e_3
    cases hef
    exact lv_dup_x2 hx hb (iv_d1 hcd rfl) ((iv_v_cat ad v).trans hv) ((iv_v_cat ad u).trans hu) ((iv_v_cat ad y).trans hy) (iv_kk0 I hl ga (.cons gs.hd (.cons gs.tl.hd (.cons gs.tl.tl.hd (.cons gs.hd gs.tl.tl.tl)))) kk)
  | dup2 =>
    obtain ⟨v, r1, rfl, hv, e_1⟩ := iv_1_s hop
    obtain ⟨u, r, rfl, hu, e_2⟩ := iv_1_s e_1
    cases e_2
    cases hef
    exact lv_dup2_11 hx hb (iv_d1 hcd rfl) ((iv_v_cat ad v).trans hv) ((iv_v_cat ad u).trans hu) (iv_kk0 I hl ga (.cons gs.hd (.cons gs.tl.hd gs)) kk)
  | goto off =>
    obtain ⟨t, ht, rfl⟩ := iv_jp_s hop
    cases hef
    exact lv_goto hx hb (iv_d3 hcd rfl) ht (iv_kk0 I hl ga gs kk)
  | ifCond cc off =>
    cases cc with
    | eq =>
      obtain ⟨x, r, rfl, t, ht, q⟩ := iv_c1_s hop
      rcases q with ⟨hc, rfl⟩ | ⟨hc, rfl⟩ <;> cases hef
      · exact lv_if_eq hx hb (iv_d3 hcd rfl) ht (fun _ => iv_kk0 I hl ga gs.tl kk) (fun q => absurd (of_decide_eq_true hc) q)
      · exact lv_if_eq hx hb (iv_d3 hcd rfl) ht (fun q => absurd q (of_decide_eq_false hc)) (fun _ => iv_kk0 I hl ga gs.tl kk)
    | ne =>
      obtain ⟨x, r, rfl, t, ht, q⟩ := iv_c1_s hop
      rcases q with ⟨hc, rfl⟩ | ⟨hc, rfl⟩ <;> cases hef
      · exact lv_if_ne hx hb (iv_d3 hcd rfl) ht (fun _ => iv_kk0 I hl ga gs.tl kk) (fun q => absurd (of_decide_eq_true hc) (fun z => z q))
      · exact lv_if_ne hx hb (iv_d3 hcd rfl) ht (fun q => absurd q (of_decide_eq_false hc)) (fun _ => iv_kk0 I hl ga gs.tl kk)
    | lt =>
      obtain ⟨x, r, rfl, t, ht, q⟩ := iv_c1_s hop
      rcases q with ⟨hc, rfl⟩ | ⟨hc, rfl⟩ <;> cases hef
      · exact lv_if_lt hx hb (iv_d3 hcd rfl) ht (fun _ => iv_kk0 I hl ga gs.tl kk) (fun q => absurd (of_decide_eq_true hc) q)
      · exact lv_if_lt hx hb (iv_d3 hcd rfl) ht (fun q => absurd q (of_decide_eq_false hc)) (fun _ => iv_kk0 I hl ga gs.tl kk)
    | ge =>
      obtain ⟨x, r, rfl, t, ht, q⟩ := iv_c1_s hop
      rcases q with ⟨hc, rfl⟩ | ⟨hc, rfl⟩ <;> cases hef
      · exact lv_if_ge hx hb (iv_d3 hcd rfl) ht (fun _ => iv_kk0 I hl ga gs.tl kk) (fun q => absurd (of_decide_eq_true hc) q)
      · exact lv_if_ge hx hb (iv_d3 hcd rfl) ht (fun q => absurd q (of_decide_eq_false hc)) (fun _ => iv_kk0 I hl ga gs.tl kk)
    | gt =>
      obtain ⟨x, r, rfl, t, ht, q⟩ := iv_c1_s hop
      rcases q with ⟨hc, rfl⟩ | ⟨hc, rfl⟩ <;> cases hef
      · exact lv_if_gt hx hb (iv_d3 hcd rfl) ht (fun _ => iv_kk0 I hl ga gs.tl kk) (fun q => absurd (of_decide_eq_true hc) q)
      · exact lv_if_gt hx hb (iv_d3 hcd rfl) ht (fun q => absurd q (of_decide_eq_false hc)) (fun _ => iv_kk0 I hl ga gs.tl kk)
    | le =>
      obtain ⟨x, r, rfl, t, ht, q⟩ := iv_c1_s hop
      rcases q with ⟨hc, rfl⟩ | ⟨hc, rfl⟩ <;> cases hef
      · exact lv_if_le hx hb (iv_d3 hcd rfl) ht (fun _ => iv_kk0 I hl ga gs.tl kk) (fun q => absurd (of_decide_eq_true hc) q)
      · exact lv_if_le hx hb (iv_d3 hcd rfl) ht (fun q => absurd q (of_decide_eq_false hc)) (fun _ => iv_kk0 I hl ga gs.tl kk)
  | if_icmp cc off =>
    cases cc with
    | eq =>
      obtain ⟨x, y, r, rfl, t, ht, q⟩ := iv_c2_s hop
      rcases q with ⟨hc, rfl⟩ | ⟨hc, rfl⟩ <;> cases hef
      · exact lv_icmp_eq hx hb (iv_d3 hcd rfl) ht (fun _ => iv_kk0 I hl ga gs.tl.tl kk) (fun q => absurd (of_decide_eq_true hc) q)
      · exact lv_icmp_eq hx hb (iv_d3 hcd rfl) ht (fun q => absurd q (of_decide_eq_false hc)) (fun _ => iv_kk0 I hl ga gs.tl.tl kk)
    | ne =>
      obtain ⟨x, y, r, rfl, t, ht, q⟩ := iv_c2_s hop
      rcases q with ⟨hc, rfl⟩ | ⟨hc, rfl⟩ <;> cases hef
      · exact lv_icmp_ne hx hb (iv_d3 hcd rfl) ht (fun _ => iv_kk0 I hl ga gs.tl.tl kk) (fun q => absurd (of_decide_eq_true hc) (fun z => z q))
      · exact lv_icmp_ne hx hb (iv_d3 hcd rfl) ht (fun q => absurd q (of_decide_eq_false hc)) (fun _ => iv_kk0 I hl ga gs.tl.tl kk)
    | lt =>
      obtain ⟨x, y, r, rfl, t, ht, q⟩ := iv_c2_s hop
      rcases q with ⟨hc, rfl⟩ | ⟨hc, rfl⟩ <;> cases hef
      · exact lv_icmp_lt hx hb (iv_d3 hcd rfl) ht (fun _ => iv_kk0 I hl ga gs.tl.tl kk) (fun q => absurd (of_decide_eq_true hc) q)
      · exact lv_icmp_lt hx hb (iv_d3 hcd rfl) ht (fun q => absurd q (of_decide_eq_false hc)) (fun _ => iv_kk0 I hl ga gs.tl.tl kk)
    | ge =>
      obtain ⟨x, y, r, rfl, t, ht, q⟩ := iv_c2_s hop
      rcases q with ⟨hc, rfl⟩ | ⟨hc, rfl⟩ <;> cases hef
      · exact lv_icmp_ge hx hb (iv_d3 hcd rfl) ht (fun _ => iv_kk0 I hl ga gs.tl.tl kk) (fun q => absurd (of_decide_eq_true hc) q)
      · exact lv_icmp_ge hx hb (iv_d3 hcd rfl) ht (fun q => absurd q (of_decide_eq_false hc)) (fun _ => iv_kk0 I hl ga gs.tl.tl kk)
    | gt =>
      obtain ⟨x, y, r, rfl, t, ht, q⟩ := iv_c2_s hop
      rcases q with ⟨hc, rfl⟩ | ⟨hc, rfl⟩ <;> cases hef
      · exact lv_icmp_gt hx hb (iv_d3 hcd rfl) ht (fun _ => iv_kk0 I hl ga gs.tl.tl kk) (fun q => absurd (of_decide_eq_true hc) q)
      · exact lv_icmp_gt hx hb (iv_d3 hcd rfl) ht (fun q => absurd q (of_decide_eq_false hc)) (fun _ => iv_kk0 I hl ga gs.tl.tl kk)
    | le =>
      obtain ⟨x, y, r, rfl, t, ht, q⟩ := iv_c2_s hop
      rcases q with ⟨hc, rfl⟩ | ⟨hc, rfl⟩ <;> cases hef
      · exact lv_icmp_le hx hb (iv_d3 hcd rfl) ht (fun _ => iv_kk0 I hl ga gs.tl.tl kk) (fun q => absurd (of_decide_eq_true hc) q)
      · exact lv_icmp_le hx hb (iv_d3 hcd rfl) ht (fun q => absurd q (of_decide_eq_false hc)) (fun _ => iv_kk0 I hl ga gs.tl.tl kk)
  | tableswitch dflt lo hi offs =>
    obtain ⟨x, r, rfl, e_1⟩ := iv_i_s hop
    obtain ⟨len, hd⟩ := iv_dw hcd
    split at e_1
    · rename_i hc
      obtain ⟨t, ht, rfl⟩ := iv_jp_s e_1
      cases hef
      exact lv_tableOut hx hb hd hc ht (iv_kk0 I hl ga gs.tl kk)
    · rename_i hc
      obtain ⟨off, ho, e_2⟩ := Option.bind_eq_some_iff.mp e_1
      obtain ⟨t, ht, rfl⟩ := iv_jp_s e_2
      cases hef
      exact lv_tableIn hx hb hd (fun q => hc (Or.inl q)) (fun q => hc (Or.inr q)) ho ht (iv_kk0 I hl ga gs.tl kk)
  | lookupswitch dflt ps =>
    obtain ⟨x, r, rfl, e_1⟩ := iv_i_s hop
    obtain ⟨len, hd⟩ := iv_dw hcd
    split at e_1
    · rename_i hc
      obtain ⟨t, ht, rfl⟩ := iv_jp_s e_1
      cases hef
      exact lv_lookup hx hb hd hc rfl ht (iv_kk0 I hl ga gs.tl kk)
    · cases e_1
  | getfield idx =>
    obtain ⟨k, r, rfl, e_1⟩ := iv_r_s hop
    obtain ⟨v, e1, e_2⟩ := Option.bind_eq_some_iff.mp e_1
    cases e_2
    cases hef
    obtain ⟨ci, j, fs, f1, f2, f3⟩ := iv_gf_s e1
    obtain ⟨C, T, N, g1, g2, g3⟩ := iv_fF f1
    obtain ⟨c1, -⟩ := iv_fC g1
    exact va_get (D := D) (ci := ci) (fs := fs.map (iv_v ad)) (v := iv_v ad v) hx hb hts c1 hown hK.1 hP k (iv_w_get f2) g1 j g2 (hts _ g3) (fun x h9 => h9) (by rw [List.getElem?_map, f3]; rfl) (iv_d3 hcd rfl) (iv_kk0 I hl ga (.cons ((gh k _ f2) v (List.mem_of_getElem? f3)) gs.tl) kk)
  | putfield idx =>
    obtain ⟨v, r1, rfl, e_1⟩ := iv_1or2_s hop
    obtain ⟨k, r, rfl, e_2⟩ := iv_r_s e_1
    obtain ⟨q, e1, e_3⟩ := Option.bind_eq_some_iff.mp e_2
    cases e_3
    obtain ⟨ci, j, fs, f1, f2, f3, f4, f5, rfl⟩ := iv_pf_s e1
    obtain ⟨C, T, N, g1, g2, g3⟩ := iv_fF f1
    obtain ⟨c1, c2, c3, -, -, -, -, c8, c9, -⟩ := iv_fC g1
    have e9 : (iv_w ad cO h).set k (ad (some k), .inr (ci, (fs.map (iv_v ad)).set j (iv_v ad v))) = iv_w ad cO (h.set k (.inl (ci, fs.set j v))) := by
      rw [← iv_w_set]
      show _ = (iv_w ad cO h).set k (ad (some k), .inr (ci, (fs.set j v).map (iv_v ad)))
      rw [List.map_set]
    have gc : iv_gc h.length (.inl (ci, fs.set j v)) := fun u hu => by
      rcases List.mem_or_eq_of_mem_set hu with hu | rfl
      · exact gh k _ f2 u hu
      · exact gs.hd
    obtain ⟨n1, n2⟩ := iv_ok_nf f4 ad
    cases hfin : iv_fi ci j with
    | false =>
      refine va_put (D := D) (ci := ci) (fs := fs.map (iv_v ad)) (v := iv_v ad v) (ty := iv_ft ci j) hx hb hts c1 (iv_ft ci) c2 c3 hown hK.1 hP hD hS k (iv_w_get f2) g1 j g2 (hts _ g3) (fun x h9 => h9) ((c8 j g2).2.trans hfin) (c2 j g2) n1 n2 (by rw [List.length_map]; exact f3) (iv_d3 hcd rfl) (fun H1 locs1 p1 d1 s1 => ?_)
      rw [e9] at p1 d1
      exact iv_kkS hef I p1 d1 s1 gs.tl.tl gc kk
    | true =>
      have hf : iv_ini mi = true ∧ iv_ow ci = iv_kf mi := f5.resolve_left (by rw [hfin]; decide)
      refine va_putF (D := D) (ci := ci) (fs := fs.map (iv_v ad)) (v := iv_v ad v) (ty := iv_ft ci j) hx hb hts c1 (iv_ft ci) c2 c3 hown hK.1 hP hD hS k (iv_w_get f2) g1 j g2 (hts _ g3) (fun x h9 => h9) ((c8 j g2).2.trans hfin) (hini hf.1) ((c8 j g2).1.trans (c9.trans (by rw [hf.2]))) (c2 j g2) n1 n2 (by rw [List.length_map]; exact f3) (iv_d3 hcd rfl) (fun H1 locs1 p1 d1 s1 => ?_)
      rw [e9] at p1 d1
      exact iv_kkS hef I p1 d1 s1 gs.tl.tl gc kk
  | new idx =>
    obtain ⟨ci, e1, e_1⟩ := Option.bind_eq_some_iff.mp hop
    cases e_1
    obtain ⟨C, T, N, g1, g2⟩ := iv_fN e1
    obtain ⟨c1, c2, -, c4, c5, c6, c7, -, -, c10⟩ := iv_fC g1
    have hh : h' = h ++ [.inl (ci, iv_df ci)] := (Option.some.inj hef).symm
    have hc1 : cells + 1 ≤ R.cells := by rw [hh] at hrc; simpa using hrc
    have hs1 : slots + N ≤ R.slots := by rw [hh, iv_sz_app] at hrs; have : iv_cz (.inl (ci, iv_df ci)) = N := c6; omega
    have ed : (iv_df ci).map (iv_v ad) = iv_df ci := (List.map_congr_left fun v hv => iv_df_v (c10 v hv) ad).trans (List.map_id _)
    have k2 := fun (q : Nat) (H1 : Heap) (p1 : va_P D iv_cl (iv_w ad cO h ++ [(q, iv_e ad cO (.inl (ci, iv_df ci)))]) H1) (d1 : va_D A (iv_w ad cO h ++ [(q, iv_e ad cO (.inl (ci, iv_df ci)))])) (s1 : va_S A s.heap H1 locs) => iv_kkN (q := q) hef I p1 d1 s1 gs (fun v hv k hk => absurd hk (iv_df_r (c10 v hv) k)) kk
    have ee : iv_e ad cO (.inl (ci, iv_df ci)) = .inr (ci, iv_df ci) := by show Sum.inr (ci, (iv_df ci).map (iv_v ad)) = _; rw [ed]
    rw [ee, show iv_cz (.inl (ci, iv_df ci)) = N from c6] at k2
    exact va_new (ci := ci) (fs := iv_df ci) (D := D) hx hb hts c1 (iv_ft ci) c2 hown (hts _ g2) (hts _ c4) (hts _ c5) hK.1 hP hD hS hA g1 c7 hc1 hs1 (iv_d3 hcd rfl) k2
  | newarray a =>
    obtain ⟨n, r, rfl, e_1⟩ := iv_i_s hop
    split at e_1
    · rename_i hc
      obtain ⟨hc1, hc2, hc3⟩ := hc
      cases e_1
      obtain ⟨w1, w2, w3, w4⟩ := iv_fA hc3
      have hh : h' = h ++ [.inr (iv_tn a, iv_a0 (iv_tn a) n.toNatClampNeg)] := (Option.some.inj hef).symm
      have hz : iv_cz (.inr (iv_tn a, iv_a0 (iv_tn a) n.toNatClampNeg)) = n.toNatClampNeg := by show (iv_a0 _ _).1 = _; unfold iv_a0; split <;> rfl
      have hc1' : cells + 1 ≤ R.cells := by rw [hh] at hrc; simpa using hrc
      have hs1 : slots + n.toNatClampNeg ≤ R.slots := by rw [hh, iv_sz_app] at hrs; omega
      have ee : ∀ cA : ClassId, cA = cO (iv_tn a) → iv_e ad cO (.inr (iv_tn a, iv_a0 (iv_tn a) n.toNatClampNeg)) = .inl (cA, iv_a0 (iv_tn a) n.toNatClampNeg) := by
        intro cA hcA
        subst hcA
        unfold iv_a0
        split <;> rfl
      have gc : iv_gc h.length (.inr (iv_tn a, iv_a0 (iv_tn a) n.toNatClampNeg)) := by unfold iv_a0; split <;> trivial
      refine va_newa (D := D) (a0 := iv_a0 (iv_tn a) n.toNatClampNeg) (N' := n.toNatClampNeg) hx hb (hts _ w1) rfl hK.1 hP hD hS hA (w3 n.toNatClampNeg) (Int32.not_lt.mpr hc1) rfl (w4 _ hc2) hc1' hs1 (iv_d2 hcd rfl) (fun q cA H1 k1 p1 d1 s1 => ?_)
      have hcA := iv_K_new hK w2 k1
      rw [← ee cA hcA] at p1 d1
      have k2 := iv_kkN (q := q) hef I p1 d1 s1 gs.tl gc kk
      rw [hz] at k2
      exact k2
    · cases e_1
  | anewarray idx =>
    obtain ⟨n, r, rfl, e_1⟩ := iv_i_s hop
    obtain ⟨t, e1, e_2⟩ := Option.bind_eq_some_iff.mp e_1
    split at e_2
    · rename_i hc
      obtain ⟨hc1, hc2⟩ := hc
      cases e_2
      obtain ⟨C, w1, w2, w3⟩ := iv_fQ e1
      have hh : h' = h ++ [.inr (t, n.toNatClampNeg, .inr (.inr (.inr (.inr (fun _ => none)))))] := (Option.some.inj hef).symm
      have hc1' : cells + 1 ≤ R.cells := by rw [hh] at hrc; simpa using hrc
      have hs1 : slots + n.toNatClampNeg ≤ R.slots := by rw [hh, iv_sz_app] at hrs; have : iv_cz (.inr (t, n.toNatClampNeg, .inr (.inr (.inr (.inr (fun _ => none)))))) = n.toNatClampNeg := rfl; omega
      refine va_newq (D := D) (C := C) (N' := n.toNatClampNeg) hx hb hown (hts _ w2) (hK.2.1 C w3) hK.1 hP hD hS hA (Int32.not_lt.mpr hc1) rfl (by omega) hc1' hs1 (iv_d3 hcd rfl) (fun q cA H1 k1 p1 d1 s1 => ?_)
      have hcA := iv_K_new hK w1 k1
      subst hcA
      exact iv_kkN (q := q) (cl := .inr (t, n.toNatClampNeg, .inr (.inr (.inr (.inr (fun _ => none)))))) hef I p1 d1 s1 gs.tl (fun j k hk => by cases hk) kk
    · cases e_2
  | arraylength =>
    rcases iv_alen_s hop with ⟨k, r, a, rfl, f1, ⟨ty, f2⟩, rfl⟩ | ⟨k, r, q, rfl, hz, rfl⟩
    · cases hef
      exact va_alen (D := D) (x := iv_a ad a.2) hx hb hK.1 hP k a.1 (iv_w_get f1) (iv_tys_get f2) (by obtain ⟨t, n, f | f | f | f | f⟩ := a <;> rfl) (iv_d1 hcd rfl) (iv_kk0 I hl ga (.cons (iv_g_i _ _) gs.tl) kk)
    · cases hef
      obtain ⟨x1, x2, x3⟩ := hZ q hz
      exact va_slen hx hb x1 x2 x3 hS (iv_d1 hcd rfl) (iv_kk0 I hl ga (.cons (iv_g_i _ _) gs.tl) kk)
  | iaload =>
    rcases iv_iald_s hop with ⟨i, k, r, q, rfl, hz, hin, rfl⟩ | hop
    · cases hef
      obtain ⟨x1, x2, x3⟩ := hZ q hz
      exact va_sld hx hb x1 x2 x3 hS (iv_in_s hin) (iv_d1 hcd rfl) (iv_kk0 I hl ga (.cons (iv_g_i _ _) gs.tl.tl) kk)
    · obtain ⟨i, k, r, t, n, f, rfl, f1, f2, f3, rfl⟩ := iv_ald_s hop
      cases hef
      exact va_iald (D := D) hx hb hK.1 hP k t (iv_w_get f1) (iv_tys_get f3) f2 (iv_d1 hcd rfl) (iv_kk0 I hl ga (.cons (iv_g_i _ _) gs.tl.tl) kk)
  | baload =>
    rcases iv_bald_s hop with hop | hop
    · obtain ⟨i, k, r, t, n, f, rfl, f1, f2, f3, rfl⟩ := iv_ald_s hop
      cases hef
      exact va_bald (D := D) hx hb hK.1 hP k t (iv_w_get f1) (iv_tys_get f3) f2 (iv_d1 hcd rfl) (iv_kk0 I hl ga (.cons (iv_g_i _ _) gs.tl.tl) kk)
    · obtain ⟨i, k, r, t, n, f, rfl, f1, f2, f3, rfl⟩ := iv_ald_s hop
      cases hef
      exact va_zald (D := D) hx hb hK.1 hP k t (iv_w_get f1) (iv_tys_get f3) f2 (iv_d1 hcd rfl) (iv_kk0 I hl ga (.cons (iv_g_i _ _) gs.tl.tl) kk)
  | iastore =>
    obtain ⟨x, i, k, r, t, n, f, rfl, f1, f2, f3, rfl⟩ := iv_ast_s hop
    refine va_iast (D := D) hx hb hK.1 hP hD hS k t (iv_w_get f1) (iv_tys_get f3) f2 (iv_d1 hcd rfl) (fun H1 locs1 p1 d1 s1 => ?_)
    have e9 : (iv_w ad cO h).set k (ad (some k), .inl (cO t, n, .inl (upd f i.toNatClampNeg (vp_nar .int x)))) = iv_w ad cO (h.set k (.inr (t, n, .inl (upd f i.toNatClampNeg (vp_nar .int x))))) := iv_w_set ad cO h k (.inr (t, n, .inl (upd f i.toNatClampNeg (vp_nar .int x))))
    exact iv_kkS hef I (e9 ▸ p1) (e9 ▸ d1) s1 gs.tl.tl.tl trivial kk
  | bastore =>
    rcases iv_bast_s hop with hop | hop
    · obtain ⟨x, i, k, r, t, n, f, rfl, f1, f2, f3, rfl⟩ := iv_ast_s hop
      refine va_bast (D := D) hx hb hK.1 hP hD hS k t (iv_w_get f1) (iv_tys_get f3) f2 (iv_d1 hcd rfl) (fun H1 locs1 p1 d1 s1 => ?_)
      have e9 : (iv_w ad cO h).set k (ad (some k), .inl (cO t, n, .inl (upd f i.toNatClampNeg (vp_nar .byte x)))) = iv_w ad cO (h.set k (.inr (t, n, .inl (upd f i.toNatClampNeg (vp_nar .byte x))))) := iv_w_set ad cO h k (.inr (t, n, .inl (upd f i.toNatClampNeg (vp_nar .byte x))))
      exact iv_kkS hef I (e9 ▸ p1) (e9 ▸ d1) s1 gs.tl.tl.tl trivial kk
    · obtain ⟨x, i, k, r, t, n, f, rfl, f1, f2, f3, rfl⟩ := iv_ast_s hop
      refine va_zast (D := D) hx hb hK.1 hP hD hS k t (iv_w_get f1) (iv_tys_get f3) f2 (iv_d1 hcd rfl) (fun H1 locs1 p1 d1 s1 => ?_)
      have e9 : (iv_w ad cO h).set k (ad (some k), .inl (cO t, n, .inl (upd f i.toNatClampNeg (vp_nar .boolean x)))) = iv_w ad cO (h.set k (.inr (t, n, .inl (upd f i.toNatClampNeg (vp_nar .boolean x))))) := iv_w_set ad cO h k (.inr (t, n, .inl (upd f i.toNatClampNeg (vp_nar .boolean x))))
      exact iv_kkS hef I (e9 ▸ p1) (e9 ▸ d1) s1 gs.tl.tl.tl trivial kk
  | laload =>
    obtain ⟨i, r1, rfl, e_1⟩ := iv_i_s hop
    obtain ⟨k, r, rfl, e_2⟩ := iv_r_s e_1
    obtain ⟨q, e1, e_3⟩ := Option.bind_eq_some_iff.mp e_2
    split at e_3
    · rename_i hc
      obtain rfl := iv_pj_s e_3
      cases hef
      exact va_lald (D := D) hx hb hK.1 hP k q.1 (iv_w_get (iv_aj_s e1)) (iv_tys_get (iv_is_s hc.2)) (iv_in_s hc.1) (iv_d1 hcd rfl) (iv_kk0 I hl ga (.cons (iv_g_j _ _) gs.tl.tl) kk)
    · cases e_3
  | lastore =>
    obtain ⟨x, r2, rfl, e_1⟩ := iv_j_s hop
    obtain ⟨i, r1, rfl, e_2⟩ := iv_i_s e_1
    obtain ⟨k, r, rfl, e_3⟩ := iv_r_s e_2
    obtain ⟨q, e1, e_4⟩ := Option.bind_eq_some_iff.mp e_3
    split at e_4
    · rename_i hc
      cases e_4
      refine va_last (D := D) hx hb hK.1 hP hD hS k q.1 (iv_w_get (iv_aj_s e1)) (iv_tys_get (iv_is_s hc.2)) (iv_in_s hc.1) (iv_d1 hcd rfl) (fun H1 locs1 p1 d1 s1 => ?_)
      have e9 : (iv_w ad cO h).set k (ad (some k), .inl (cO q.1, q.2.1, .inr (.inl (vp_updL q.2.2 i.toNatClampNeg x)))) = iv_w ad cO (h.set k (.inr (q.1, q.2.1, .inr (.inl (vp_updL q.2.2 i.toNatClampNeg x))))) := iv_w_set ad cO h k (.inr (q.1, q.2.1, .inr (.inl (vp_updL q.2.2 i.toNatClampNeg x))))
      exact iv_kkS hef I (e9 ▸ p1) (e9 ▸ d1) s1 gs.tl.tl.tl trivial kk
    · cases e_4
  | aaload =>
    obtain ⟨i, r1, rfl, e_1⟩ := iv_i_s hop
    obtain ⟨k, r, rfl, e_2⟩ := iv_r_s e_1
    obtain ⟨q, e1, e_3⟩ := Option.bind_eq_some_iff.mp e_2
    split at e_3
    · rename_i hc
      obtain ⟨C, hC⟩ := iv_iq_s hc.2
      split at e_3
      · rename_i b hb2
        cases e_3
        cases hef
        refine va_aldq (D := D) hx hb hK.1 hP k q.1 (iv_w_get (iv_aq_s e1)) (iv_tys_get hC) (iv_in_s hc.1) (iv_d1 hcd rfl) ?_
        have e9 : va_rf ((q.2.2 i.toNatClampNeg).map (fun k => ad (some k))) = iv_v ad (.ref b) := by rw [hb2]; rfl
        show W p l e R s m args below meth c H locs cells slots Q (F0 m (pc + 1) ls (va_rf ((q.2.2 i.toNatClampNeg).map (fun k => ad (some k))) :: r.map (iv_v ad)))
        rw [e9]
        exact iv_kk0 I hl ga (.cons (iv_g_r (gh k _ (iv_aq_s e1) _ _ hb2)) gs.tl.tl) kk
      · cases e_3
    · cases e_3
  | aastore =>
    obtain ⟨b, r2, rfl, e_1⟩ := iv_r_s hop
    obtain ⟨i, r1, rfl, e_2⟩ := iv_i_s e_1
    obtain ⟨k, r, rfl, e_3⟩ := iv_r_s e_2
    obtain ⟨q, e1, e_4⟩ := Option.bind_eq_some_iff.mp e_3
    split at e_4
    · rename_i hc
      cases e_4
      obtain ⟨ci, fs, rr, g1, g2, g3⟩ := iv_qc_s hc.2
      refine va_astq (D := D) hx hb hK.1 hP hD hS k q.1 b ci (iv_w_get (iv_aq_s e1)) (iv_tys_get g3) (iv_w_get g1) g2 (iv_in_s hc.1) (iv_d1 hcd rfl) (fun H1 locs1 p1 d1 s1 => ?_)
      have e8 : va_up (fun j => (q.2.2 j).map (fun k => ad (some k))) i.toNatClampNeg (some (ad (some b))) = fun j => ((va_up q.2.2 i.toNatClampNeg (some b)) j).map (fun k => ad (some k)) := by
        funext j
        unfold va_up
        split <;> rfl
      have e9 : (iv_w ad cO h).set k (ad (some k), .inl (cO q.1, q.2.1, .inr (.inr (.inr (.inr (va_up (fun j => (q.2.2 j).map (fun k => ad (some k))) i.toNatClampNeg (some (ad (some b))))))))) = iv_w ad cO (h.set k (.inr (q.1, q.2.1, .inr (.inr (.inr (.inr (va_up q.2.2 i.toNatClampNeg (some b)))))))) := by
        rw [e8]
        exact iv_w_set ad cO h k (.inr (q.1, q.2.1, .inr (.inr (.inr (.inr (va_up q.2.2 i.toNatClampNeg (some b)))))))
      refine iv_kkS hef I (e9 ▸ p1) (e9 ▸ d1) s1 gs.tl.tl.tl (fun j x hj => ?_) kk
      unfold va_up at hj
      split at hj
      · cases hj; exact gs.hd _ rfl
      · exact gh k _ (iv_aq_s e1) j x hj
    · cases e_4
  | invokespecial idx =>
    obtain ⟨h1, k, r, rfl, hr8, e_1⟩ := iv_oi_s hop
    cases e_1
    cases hef
    obtain ⟨w1, w2, w3⟩ := iv_fO h1
    obtain ⟨r1, r2⟩ := hR
    refine W.objInit hx hb hown (hts _ w1) (hts _ w2) (hts _ w3) rfl (by rw [hml]; exact hl.1) rfl (iv_d3 hcd rfl) r1 ?_ (iv_kk0 I hl ga gs.tl kk)
    show 2 * 0 + _ + 12 ≤ _
    rw [iv_cats]
    omega
  | invokestatic idx =>
    rcases iv_cpy_s hop with ⟨h1, n, dp, b, sp, a, r, q, u, rfl, f1, f2, z1, z2, z3, z4, z5, z6, z7, z8, e_1⟩ | ⟨h0, h1, y, x, r, rfl, h8, e_1⟩ | ⟨h0, h2, h1, y, x, r, rfl, h8, e_1⟩
    · cases e_1
      obtain ⟨w1, w2, w3, w4⟩ := iv_fY h1
      obtain ⟨r1, r2⟩ := hR
      refine va_copyi (D := D) (ty := .int) hx hb (by rw [hml]; exact hl.1.symm) hown (hts _ w1) (hts _ w2) (hts _ w3) (hts _ w4) hK.1 hP hD hS a b q.1 u.1 (iv_w_get f1) (iv_w_get f2) (iv_tys_get z6) (iv_tys_get z7) rfl z1 z2 z3 z4 z5 (fun _ _ => rfl) r1 (by rw [iv_cats]; have := iv_nfw; omega) (iv_d3 hcd rfl) (fun H1 locs1 p1 d1 s1 => ?_)
      have e9 : (iv_w ad cO h).set b (ad (some b), .inl (cO u.1, u.2.1, .inl (va_cpy q.2.2 u.2.2 sp.toNatClampNeg dp.toNatClampNeg n.toNatClampNeg))) = iv_w ad cO (h.set b (.inr (u.1, u.2.1, .inl (va_cpy q.2.2 u.2.2 sp.toNatClampNeg dp.toNatClampNeg n.toNatClampNeg)))) := iv_w_set ad cO h b (.inr (u.1, u.2.1, .inl (va_cpy q.2.2 u.2.2 sp.toNatClampNeg dp.toNatClampNeg n.toNatClampNeg)))
      exact iv_kkS hef I (e9 ▸ p1) (e9 ▸ d1) s1 gs.tl.tl.tl.tl.tl trivial kk
    · cases e_1
      cases hef
      obtain ⟨w1, w2, w3, w4⟩ := iv_fMm h1
      obtain ⟨r1, r2⟩ := hR
      exact va_mmin hx hb (by rw [hml]; exact hl.1.symm) hown (hts _ w1) (hts _ w2) (hts _ w3) (hts _ w4) r1 (by rw [iv_cats]; omega) (by omega) (by omega) (iv_d3 hcd rfl) (iv_kk0 I hl ga (.cons (iv_g_i _ _) gs.tl.tl) kk)
    · cases e_1
      cases hef
      obtain ⟨w1, w2, w3, w4⟩ := iv_fMx h1
      obtain ⟨r1, r2⟩ := hR
      exact va_mmax hx hb (by rw [hml]; exact hl.1.symm) hown (hts _ w1) (hts _ w2) (hts _ w3) (hts _ w4) r1 (by rw [iv_cats]; omega) (by omega) (by omega) (iv_d3 hcd rfl) (iv_kk0 I hl ga (.cons (iv_g_i _ _) gs.tl.tl) kk)
  | _ =>
    have hop : (none : Option iv_O) = some o := hop
    cases hop
end IVS
end
section
/-! A RUN OF THE INTERPRETER IS A RUN OF THE MACHINE -/
theorem iv_GI {ws : List Cond} (h : ∀ w ∈ ws, w ∈ iv_Wd) : GoodIn iv_Wd ws := fun w hw => ⟨h w hw, good_of_word (List.mem_filter.mp (h w hw)).2⟩
def iv_rm (d mc ms : Nat) : Room := { frames := d + 1, cells := mc, slots := ms, locals := 40 * d + 100 }
def iv_ws (mi : Nat) : List Cond := Cond.code (iv_y mi) (iv_by mi) (iv_mx mi) (iv_rt mi) :: iv_Wd
/-- at a run's end: references are numbers of cells -/
def iv_gr (r : Option Value × iv_H) : Prop := iv_gl r.2.length r.1.toList ∧ iv_gh r.2.length r.2
theorem iv_gl_app {n : Nat} {a b : List Value} (h1 : iv_gl n a) (h2 : iv_gl n b) : iv_gl n (a ++ b) := fun v hv => by
  rcases List.mem_append.mp hv with h | h
  · exact h1 v h
  · exact h2 v h
def iv_Qc (D : va_G) (cO : Nat → ClassId) (A : Nat → Prop) (ad : iv_A) (n : Nat) (r : Option Value × iv_H) : Array Value → State → Outcome → State → Prop := fun _ st oc t =>
  (∃ ad' : iv_A, oc = .returned (r.1.map (iv_v ad')) ∧ iv_ag n ad ad' ∧ iv_gr r ∧ va_P D iv_cl (iv_w ad' cO r.2) t.heap ∧ va_D A (iv_w ad' cO r.2)) ∧ va_F A st t
def iv_Pc (D : va_G) (cO : Nat → ClassId) (ad : iv_A) (vs : List Value) (h : iv_H) (sz : Nat) : Array Value → State → Prop :=
  va_Pc (vs.map (iv_v ad)) (fun U => U.heap.size = sz ∧ va_P D iv_cl (iv_w ad cO h) U.heap ∧ iv_K D cO U ∧ va_D (fun _ => True) (iv_w ad cO h))
theorem iv_Pc_blind {D : va_G} {cO : Nat → ClassId} {ad : iv_A} {vs : List Value} {h : iv_H} {sz : Nat} : FrameBlind (iv_Pc D cO ad vs h sz) := fun _ _ _ _ q => ⟨q.1, q.2.1, q.2.2.1, q.2.2.2.1.blind, q.2.2.2.2⟩
theorem iv_cat_v (v : Value) : v.category = 1 ∨ v.category = 2 := lv_cat v
theorem iv_ex_sub (ad : iv_A) : ∀ (vs : List Value) (k i : Nat) (v : Value), (iv_ex vs)[i]? = some (some v) → (k + i, iv_v ad v) ∈ lv_args k (vs.map (iv_v ad)) := by
  intro vs
  induction vs with
  | nil => intro k i v h; simp [iv_ex] at h
  | cons a r ih =>
    intro k i v h
    rw [List.map_cons]
    unfold lv_args
    rw [iv_v_cat]
    unfold iv_ex at h
    by_cases hc : a.category = 2
    · rw [if_pos hc] at h ⊢
      match i, h with
      | 0, h => cases h; exact List.mem_cons_self
      | 1, h => cases h
      | i + 2, h =>
        have q := ih (k + 2) i v (by simpa using h)
        rw [show k + (i + 2) = k + 2 + i by omega]
        exact List.mem_cons_of_mem _ q
    · rw [if_neg hc] at h ⊢
      match i, h with
      | 0, h => cases h; exact List.mem_cons_self
      | i + 1, h =>
        have q := ih (k + 1) i v (by simpa using h)
        rw [show k + (i + 1) = k + 1 + i by omega]
        exact List.mem_cons_of_mem _ q
theorem iv_ex_mem {vs : List Value} {i : Nat} {v : Value} (h : (iv_ex vs)[i]? = some (some v)) : v ∈ vs := by
  induction vs generalizing i with
  | nil => simp [iv_ex] at h
  | cons a r ih =>
    unfold iv_ex at h
    split at h
    · match i, h with
      | 0, h => cases h; exact List.mem_cons_self
      | 1, h => cases h
      | i + 2, h => exact List.mem_cons_of_mem _ (ih (i := i) (by simpa using h))
    · match i, h with
      | 0, h => cases h; exact List.mem_cons_self
      | i + 1, h => exact List.mem_cons_of_mem _ (ih (i := i) (by simpa using h))
theorem iv_en_get {mj i : Nat} {vs : List Value} {v : Value} (h : (iv_en mj vs)[i]? = some (some v)) : (iv_ex vs)[i]? = some (some v) := by
  unfold iv_en at h
  by_cases hi : i < (iv_ex vs).length
  · rw [List.getElem?_append_left hi] at h
    exact h
  · rw [List.getElem?_append_right (by omega), List.getElem?_replicate] at h
    split at h <;> cases h
theorem iv_ex_cons (a : Value) (r : List Value) : iv_ex (a :: r) = if a.category = 2 then some a :: none :: iv_ex r else some a :: iv_ex r := rfl
theorem iv_sl_len (ad : iv_A) : ∀ vs : List Value, (lg_sl (vs.map (iv_v ad))).length = (iv_ex vs).length := by
  intro vs
  induction vs with
  | nil => rfl
  | cons a r ih =>
    have e : lg_sl ((a :: r).map (iv_v ad)) = (if (iv_v ad a).category = 2 then [Slot.val (iv_v ad a), .second] else [.val (iv_v ad a)]) ++ lg_sl (r.map (iv_v ad)) := by
      simp [lg_sl]
    rw [e, iv_v_cat, List.length_append, ih, iv_ex_cons]
    split
    · simp only [List.length_cons, List.length_nil]; omega
    · simp only [List.length_cons, List.length_nil]; omega
/-- what a run says of the machine -/
def iv_SD (z : iv_Z) (d mi : Nat) (S : iv_S) (r : Option Value × iv_H) : Prop :=
  Unit → ∀ {p : Program} {l : Launch} {e : Env} {R : Room} {s : State} {m : MethodId} {args : Array Value} {below : List Frame} {meth : Method} {c : Code} {H : Heap} {locs : List Loc} {cells slots mc ms : Nat} {Q : State → Prop} {D : va_G} {cO : Nat → ClassId} {A : Nat → Prop} {ad : iv_A} {ls : Array Slot},
  iv_X D cO p s m args meth c mi → iv_I D cO A s.heap mi ad S.2.1 S.2.2.1 S.2.2.2 H locs ls → (∀ q, s.heap.size ≤ q → A q) →
  (∀ q, z = some q → va_X (ad none) q.1 q.2 s s.heap ∧ ad none < s.heap.size ∧ ¬ A (ad none)) →
  cells + (r.2.length - S.2.2.2.length) ≤ mc → slots + (iv_sz r.2 - iv_sz S.2.2.2) ≤ ms → mc ≤ R.cells → ms ≤ R.slots → d + 1 ≤ R.frames → 40 * d + 100 ≤ R.locals →
  (∀ (ad' : iv_A) (H' : Heap) (locs' : List Loc) (ls' : Array Slot) (pc' : Nat) (op : Jvm.ClassFile.Instr) (st' : List Value), iv_cd mi pc' = some op → iv_re mi op st' = some r.1 → iv_ag S.2.2.2.length ad ad' → iv_gr r → va_P D iv_cl (iv_w ad' cO r.2) H' → va_D A (iv_w ad' cO r.2) → va_S A s.heap H' locs' → W p l e R s m args below meth c H' locs' mc ms Q (F0 m pc' ls' (st'.map (iv_v ad')))) →
  W p l e R s m args below meth c H locs cells slots Q (F0 m S.1 ls (S.2.2.1.map (iv_v ad)))
theorem iv_re_v {mi : Nat} {op : Jvm.ClassFile.Instr} {st : List Value} {v : Option Value} (h : iv_re mi op st = some v) : (op = .return_ ∧ st = [] ∧ v = none ∧ iv_rt mi = none) ∨ (∃ x ty, op = .ireturn ∧ st = [.int x] ∧ v = some (.int x) ∧ iv_rt mi = some ty ∧ iv_ok ty (.int x) = true) ∨ (∃ x, op = .lreturn ∧ st = [.long x] ∧ v = some (.long x) ∧ iv_rt mi = some .long) ∨ (∃ x ty, op = .areturn ∧ st = [.ref x] ∧ v = some (.ref x) ∧ iv_rt mi = some ty ∧ ((∃ n, ty = .object n) ∨ ∃ t, ty = .array t)) := by
  unfold iv_re at h
  split at h
  · split at h
    · split at h
      · cases h; exact Or.inl ⟨rfl, rfl, rfl, by assumption⟩
      · cases h
    · cases h
  · split at h
    · split at h
      · rename_i x hr
        cases h
        unfold iv_ro at hr
        split at hr
        · rename_i ty hty
          exact Or.inr (Or.inl ⟨x, ty, rfl, rfl, rfl, hty, hr⟩)
        · cases hr
      · cases h
    · cases h
  · split at h
    · split at h
      · rename_i x hr
        cases h
        unfold iv_ro at hr
        split at hr
        · rename_i ty hty
          cases ty with
          | long => exact Or.inr (Or.inr (Or.inl ⟨x, rfl, rfl, rfl, hty⟩))
          | _ => cases hr
        · cases hr
      · cases h
    · cases h
  · split at h
    · split at h
      · rename_i x hr
        cases h
        unfold iv_rq at hr
        split at hr
        · rename_i n hty
          exact Or.inr (Or.inr (Or.inr ⟨x, _, rfl, rfl, rfl, hty, Or.inl ⟨n, rfl⟩⟩))
        · rename_i n hty
          exact Or.inr (Or.inr (Or.inr ⟨x, _, rfl, rfl, rfl, hty, Or.inr ⟨n, rfl⟩⟩))
        · cases hr
      · cases h
    · cases h
  · cases h
theorem iv_d1' {mi pc : Nat} {op : Jvm.ClassFile.Instr} (h : iv_cd mi pc = some op) (e : iv_n op = 1) : decode (iv_by mi) pc = .ok (op, 1) := iv_d1 h e
set_option maxHeartbeats 2000000 in
theorem iv_met {l : Launch} {D : va_G} {cO : Nat → ClassId} {ad : iv_A} {d mj sz : Nat} {vs : List Value} {h : iv_H} {q : Option Value × iv_H} (hSD : iv_SD none d mj (0, iv_en mj vs, [], h) q) (hj : Cond.code (iv_y mj) (iv_by mj) (iv_mx mj) (iv_rt mj) ∈ iv_Wd) (hpl : plainName (iv_y mj).cls = true) (hcn : (iv_y mj).cls = iv_cn (iv_kf mj)) (hin : iv_ini mj = true → (iv_y mj).name = "<init>") (hlen : (iv_ex vs).length ≤ iv_mx mj) (hg : iv_gl h.length vs) (hgh : iv_gh h.length h) :
    Met l (iv_y mj) (iv_ws mj) (iv_rm d (q.2.length - h.length) (iv_sz q.2 - iv_sz h)) (iv_Pc D cO ad vs h sz) (iv_Qc D cO (va_A (iv_w ad cO h) sz) ad h.length q) (q.2.length - h.length) (iv_sz q.2 - iv_sz h) (va_A (iv_w ad cO h) sz) := by
  refine Met.ofW (cc := iv_by mj) (maxL := iv_mx mj) (ret := iv_rt mj) hpl rfl ?_
  intro p e s m args below meth c s₁ B hml hv
  obtain ⟨rfl, hsz, hP, hK, hD0⟩ := hv
  subst hsz
  have hts := atoms_spec (ws := iv_ws mj) B.pre
  have hown : s.vm.findClass (iv_y mj).cls = some m.cls := findClass_of_methodNamed B.named
  have hlocks := B.notSynchronized
  have hnm : meth.name = (iv_y mj).name := (name_of_methodNamed B.named B.method).1
  rw [lg_entry_eq]
  have hl0 := lv_entry (vs.map (iv_v ad)) (n := iv_mx mj) (by rw [iv_sl_len]; exact hlen)
  have hl := iv_lv_sub (l' := iv_ll ad (iv_en mj vs)) hl0 (fun x hx => by
    obtain ⟨v, h1, h2⟩ := iv_ll_mem.mp hx
    have h3 := iv_ex_sub ad vs 0 x.1 v (iv_en_get h1)
    rw [Nat.zero_add, ← h2] at h3
    exact h3)
  have hD := hD0.self (sz := s.heap.size)
  have X : iv_X D cO p s m (vs.map (iv_v ad)).toArray meth c mj := ⟨B.exec, B.bytes, hml, by rw [← hcn]; exact hown, fun w hw => hts w (List.mem_cons_of_mem _ hw), fun hi => hnm.trans (hin hi), hK⟩
  refine hSD () X ⟨hP, hD, va_S.rf, hl, fun i v hv => hg v (iv_ex_mem (iv_en_get hv)), iv_gl_nil _, hgh⟩ (fun q h => Or.inr h) (fun q hq => by cases hq) (mc := q.2.length - h.length) (ms := iv_sz q.2 - iv_sz h) (by show 0 + (q.2.length - h.length) ≤ _; omega) (by show 0 + (iv_sz q.2 - iv_sz h) ≤ _; omega) (Nat.le_refl _) (Nat.le_refl _) (Nat.le_refl _) (Nat.le_refl _) ?_
  intro ad' H' locs' ls' pc' op st' hcd hre hag hgr p1 d1 s1
  have hr := B.returns
  have hx := B.exec
  have hb : c.code = iv_by mj := B.bytes
  have fin : ∀ (v : Option Value), v = q.1.map (iv_v ad') → ∀ t : State, t.heap = H' → s.WarmedH t.vm → iv_Qc D cO (va_A (iv_w ad cO h) s.heap.size) ad h.length q (vs.map (iv_v ad)).toArray s (.returned v) t := fun v hv t ht hW => ⟨⟨ad', by rw [hv], hag, hgr, by rw [ht]; exact p1, d1⟩, s1.F ht⟩
  rcases iv_re_v hre with ⟨rfl, rfl, hv, hrt⟩ | ⟨x, ty, rfl, rfl, hv, hrt, hok⟩ | ⟨x, rfl, rfl, hv, hrt⟩ | ⟨x, ty, rfl, rfl, hv, hrt, hk⟩
  · exact W.vret hx hb (hr.trans hrt) (fin none (by rw [hv]; rfl)) s1.2.2 (iv_d1 hcd rfl) hlocks
  · exact W.zret hx hb (hr.trans hrt) (iv_ok_nf hok ad').1 (fin (some (.int x)) (by rw [hv]; rfl)) s1.2.2 (iv_d1 hcd rfl) hlocks
  · exact W.lret hx hb (hr.trans hrt) (fin (some (.long x)) (by rw [hv]; rfl)) s1.2.2 (iv_d1 hcd rfl) hlocks
  · exact W.aret hx hb (hr.trans hrt) hk (Or.inr ⟨ad' (some x), rfl⟩) (fin (some (.ref (ad' (some x)))) (by rw [hv]; rfl)) s1.2.2 (iv_d1 hcd rfl) hlocks
theorem iv_ca_s {mi : Nat} {op : Jvm.ClassFile.Instr} {st : List Value} {h : iv_H} {c : Nat × List Value × List Value} (e : iv_ca mi op st h = some c) : ∃ (idx mj : Nat) (as rest : List Value), iv_mt (iv_kf mi) idx = some mj ∧ as.length = iv_na mj ∧ iv_nr as = true ∧ (rest.map fun v => v.category).sum ≤ 8 ∧
    ((op = .invokestatic idx ∧ iv_rc mj = none ∧ iv_ini mj = false ∧ st = as.reverse ++ rest ∧ c = (mj, as, rest) ∧ (iv_ex as).length ≤ iv_mx mj) ∨
     (∃ b ci, iv_rc mj = some ci ∧ iv_oc h b ci = true ∧ st = as.reverse ++ .ref b :: rest ∧ c = (mj, .ref b :: as, rest) ∧ (iv_ex as).length + 1 ≤ iv_mx mj ∧ ((op = .invokevirtual idx ∧ iv_ini mj = false ∧ iv_nn (iv_kf mi) idx = none) ∨ (op = .invokespecial idx ∧ iv_ini mj = true)))) := by
  unfold iv_ca at e
  split at e
  · cases e
  · rename_i q hq
    split at e
    · cases e
    · rename_i mj hmj
      split at e
      · rename_i hc
        obtain ⟨c1, c2, c3⟩ := hc
        have hst : st = (st.take (iv_na mj)).reverse.reverse ++ st.drop (iv_na mj) := by rw [List.reverse_reverse, List.take_append_drop]
        have hnr : iv_nr (st.take (iv_na mj)).reverse = true := by
          unfold iv_nr at c2 ⊢
          rw [List.all_reverse]; exact c2
        have hln : (st.take (iv_na mj)).reverse.length = iv_na mj := by rw [List.length_reverse]; exact c1
        split at e
        · rename_i h2
          split at e
          · rename_i h3
            cases e
            refine ⟨q.2, mj, (st.take (iv_na mj)).reverse, st.drop (iv_na mj), hmj, hln, hnr, h3.2.2, Or.inl ⟨?_, h3.1, h3.2.1, hst, rfl, ?_⟩⟩
            · unfold iv_cc at hq
              split at hq <;> cases hq
              · cases h2
              · cases h2
              · rfl
            · rw [iv_rx_n h3.1] at c3; omega
          · cases e
        · rename_i h2
          obtain ⟨b, rest, hb, e⟩ := iv_r_s e
          split at e
          · cases e
          · rename_i ci hci
            split at e
            · rename_i h3
              cases e
              obtain ⟨g1, g2, g3, g4⟩ := h3
              refine ⟨q.2, mj, (st.take (iv_na mj)).reverse, rest, hmj, hln, hnr, g2, Or.inr ⟨b, ci, hci, g1, by rw [← hb]; exact hst, rfl, ?_, ?_⟩⟩
              · rw [iv_rx_s hci] at c3; omega
              · unfold iv_cc at hq
                split at hq
                · cases hq
                  exact Or.inl ⟨rfl, by rw [g3]; rfl, g4.resolve_left (by show ¬ (0 : Nat) = 1; decide)⟩
                · cases hq
                  exact Or.inr ⟨rfl, by rw [g3]; rfl⟩
                · cases hq
                  exact absurd rfl h2
                · cases hq
            · cases e
      · cases e
section IVC
variable {p : Program} {l : Launch} {e : Env} {R : Room} {s : State} {m : MethodId} {args : Array Value} {below : List Frame} {meth : Method} {c : Code} {H : Heap} {locs : List Loc} {cells slots : Nat} {Q : State → Prop}
theorem iv_callg {D : va_G} {cO : Nat → ClassId} {ad : iv_A} {n : Nat} {r : Option Value × iv_H} {a : Array Value} {A0 A1 : Nat → Prop} {H0 : Heap} {mc ms pc : Nat} {ls : Array Slot} {st0 rest : List Value} (hr : va_Run p l e R s m args below meth c H locs cells slots mc ms (F0 m pc ls st0) rest (iv_Qc D cO A1 ad n r a) A1) (hS : va_S A0 H0 H locs) (hf : ∀ q, A1 q → A0 q)
    (kk : ∀ (ad' : iv_A) (H1 : Heap) (locs1 : List Loc), iv_ag n ad ad' → iv_gr r → va_P D iv_cl (iv_w ad' cO r.2) H1 → va_D A0 (iv_w ad' cO r.2) → va_S A0 H0 H1 locs1 → W p l e R s m args below meth c H1 locs1 (cells + mc) (slots + ms) Q (F0 m (pc + 3) ls ((r.1.map (iv_v ad')).toList ++ rest))) : W p l e R s m args below meth c H locs cells slots Q (F0 m pc ls st0) := by
  intro T hT X
  obtain ⟨v, st₀, t, T', L, h0, X', hL, e1, e2, ⟨⟨ad', hv, b1, b2, b3, b4⟩, hz, hk⟩, st⟩ := hr T hT X
  cases hv
  rw [h0] at hz hk
  obtain ⟨t2, a1, b1⟩ := kk ad' T'.heap (locs ++ L) b1 b2 (by rw [e1]; exact b3) (b4.weaken (fun _ q _ h => hf q.1 h))
    ⟨Nat.le_trans hS.1 (by rw [e1]; exact hz), fun q h1 h2 => by rw [e1, hk q (Nat.lt_of_lt_of_le h1 hS.1) (fun z => h2 (hf q z))]; exact hS.2.1 q h1 h2, fun q hq => by
      rcases List.mem_append.mp hq with h | h
      · exact hS.2.2 q h
      · exact hf _ (hL q h)⟩ T' rfl X'
  exact ⟨t2, st t2 a1, b1⟩
end IVC
theorem iv_oc_s {h : iv_H} {b ci : Nat} (e : iv_oc h b ci = true) : ∃ fs, h[b]? = some (.inl (ci, fs)) := by
  unfold iv_oc at e
  split at e
  · rename_i o ho
    have := of_decide_eq_true e
    subst this
    exact ⟨o.2, ho⟩
  · cases e
set_option maxHeartbeats 4000000 in
theorem iv_sound : ∀ (n : Nat) (z : iv_Z) (d mi : Nat) (S : iv_S) (r : Option Value × iv_H), iv_run z n d mi S = some r → iv_SD z d mi S r := by
  intro n
  induction n with
  | zero => intro z d mi S r h; cases h
  | succ n ih =>
    intro z d mi S r h
    unfold iv_run at h
    split at h
    · cases h
    · rename_i op hcd
      split at h
      · rename_i hret
        obtain ⟨v, hv, rfl⟩ := Option.map_eq_some_iff.mp h
        intro _ p l e R s m args below meth c H locs cells slots mc ms Q D cO A ad ls X I hA hZ h1 h2 h3 h4 h5 h6 hEnd
        obtain ⟨hP, hD, hS, hl, ga, gs, gh⟩ := id I
        have hg : iv_gr (v, S.2.2.2) := by
          refine ⟨?_, gh⟩
          rcases iv_re_v hv with ⟨_, _, rfl, _⟩ | ⟨x, ty, _, e1, rfl, _⟩ | ⟨x, _, e1, rfl, _⟩ | ⟨x, ty, _, e1, rfl, _⟩
          · exact iv_gl_nil _
          · rw [e1] at gs; exact gs
          · rw [e1] at gs; exact gs
          · rw [e1] at gs; exact gs
        refine W.widen (k := mc) (n := ms) (by omega) (by omega) ?_
        exact hEnd ad H locs ls S.1 op S.2.2.1 hcd hv iv_ag.rf hg hP hD hS
      · split at h
        · rename_i c0 hca
          split at h
          · cases h
          · rename_i d'
            split at h
            · cases h
            · rename_i q hq
              intro _ p l e R s m args below meth c H locs cells slots mc ms Q D cO A ad ls X I hA hZ h1 h2 h3 h4 h5 h6 hEnd
              obtain ⟨hP, hD, hS, hl, ga, gs, gh⟩ := id I
              obtain ⟨hx, hb, hml, hown, hts, hini, hK⟩ := id X
              have la := iv_run_le _ _ _ _ _ _ hq
              have lb : q.2.length ≤ r.2.length ∧ iv_sz q.2 ≤ iv_sz r.2 := iv_run_le _ _ _ _ _ _ h
              dsimp only at la
              have hSD : iv_SD none d' c0.1 (0, iv_en c0.1 c0.2.1, [], S.2.2.2) q := ih none d' c0.1 _ q hq
              obtain ⟨idx, mj, as, rest, t1, t2, t3, t4, t5⟩ := iv_ca_s hca
              obtain ⟨u1, u2, u3⟩ := iv_fT t1
              obtain ⟨f1, f2, f3, f4, f5, f6, f7, f8⟩ := iv_fM u1.1 u1.2
              have hF : ∀ x, va_A (iv_w ad cO S.2.2.2) H.size x → A x := by
                intro x hx1
                rcases hx1 with ⟨k, e1, hk⟩ | hx1
                · exact hD.2 k (x, e1) hk
                · exact hA x (Nat.le_trans hS.1 hx1)
              have hrest : ∀ {as' : List Value}, S.2.2.1 = as'.reverse ++ rest → iv_gl S.2.2.2.length rest := fun hst v hv => gs v (by rw [hst]; exact List.mem_append_right _ hv)
              have hroom : (iv_rm d' (q.2.length - S.2.2.2.length) (iv_sz q.2 - iv_sz S.2.2.2)).frames + 1 ≤ R.frames ∧ 8 + (iv_mx mj + 11) + (iv_rm d' (q.2.length - S.2.2.2.length) (iv_sz q.2 - iv_sz S.2.2.2)).locals ≤ R.locals := by
                refine ⟨h5, ?_⟩
                show 8 + (iv_mx mj + 11) + (40 * d' + 100) ≤ R.locals
                omega
              have hcs : cells + (q.2.length - S.2.2.2.length) ≤ R.cells ∧ slots + (iv_sz q.2 - iv_sz S.2.2.2) ≤ R.slots := by omega
              have K : iv_gl S.2.2.2.length rest → ∀ (ad' : iv_A) (H1 : Heap) (locs1 : List Loc), iv_ag S.2.2.2.length ad ad' → iv_gr q → va_P D iv_cl (iv_w ad' cO q.2) H1 → va_D A (iv_w ad' cO q.2) → va_S A s.heap H1 locs1 → W p l e R s m args below meth c H1 locs1 (cells + (q.2.length - S.2.2.2.length)) (slots + (iv_sz q.2 - iv_sz S.2.2.2)) Q (F0 m (S.1 + 3) ls ((q.1.map (iv_v ad')).toList ++ rest.map (iv_v ad))) := by
                intro grest ad' H1 locs1 ag hgr p1 d1 s1
                have e1 : (q.1.toList ++ rest).map (iv_v ad') = (q.1.map (iv_v ad')).toList ++ rest.map (iv_v ad) := by
                  rw [List.map_append, iv_st_ag ag grest]
                  cases q.1 <;> rfl
                rw [← e1]
                have hc2 : c0.2.2 = rest := by rcases t5 with ⟨_, _, _, _, rfl, _⟩ | ⟨_, _, _, _, _, rfl, _⟩ <;> rfl
                rw [hc2] at h
                exact ih z (d' + 1) mi (S.1 + 3, S.2.1, q.1.toList ++ rest, q.2) r h () X ⟨p1, d1, s1, iv_ll_ag ag ga hl, ga.mono la.1, iv_gl_app hgr.1 (grest.mono la.1), hgr.2⟩ hA (fun y hy => by obtain ⟨x1, x2, x3⟩ := hZ y hy; rw [ag.1]; exact ⟨x1, x2, x3⟩) (by show _ + _ + (r.2.length - q.2.length) ≤ mc; omega) (by show _ + _ + (iv_sz r.2 - iv_sz q.2) ≤ ms; omega) h3 h4 h5 h6
                  (fun ad2 H2 locs2 ls2 pc2 op2 st2 g1 g2 g3 g4 g5 g6 g7 => hEnd ad2 H2 locs2 ls2 pc2 op2 st2 g1 g2 (ag.tr g3 la.1) g4 g5 g6 g7)
              have hPc : ∀ (vs : List Value) (U : State), U.heap = H → s.WarmedH U.vm → iv_Pc D cO ad vs S.2.2.2 H.size ((vs.map (iv_v ad)).toArray) U := fun vs U hU hW => ⟨rfl, by rw [hU], by rw [hU]; exact hP, hK.warm hW, hD.weaken (fun _ _ _ _ => trivial)⟩
              rcases t5 with ⟨rfl, rc, ri, hst, rfl, hmx⟩ | ⟨b, ci, rc, hoc, hst, rfl, hmx, hkind⟩
              · have gas : iv_gl S.2.2.2.length as := fun v hv => gs v (by rw [hst]; exact List.mem_append_left _ (List.mem_reverse.mpr hv))
                have hM := iv_met (l := l) (D := D) (cO := cO) (ad := ad) (sz := H.size) hSD f1 f3 f6 (fun z => by rw [ri] at z; cases z) hmx gas gh
                have hstack : (F0 m S.1 ls (S.2.2.1.map (iv_v ad))).stack = (as.map (iv_v ad)).reverse ++ rest.map (iv_v ad) := by
                  show S.2.2.1.map (iv_v ad) = _
                  rw [hst, List.map_append, List.map_reverse]
                cases hnn : iv_nn (iv_kf mi) idx with
                | none => exact iv_callg (va_runS (As := as.map (iv_v ad)) (rest := rest.map (iv_v ad)) ⟨hx, hb, hml, hown, hts⟩ hM ⟨callB_of (iv_na mj) hts (iv_GI (fun w hw => by rcases List.mem_cons.mp hw with rfl | hw; exact f1; exact hw)) rfl rfl rfl (hts _ f2) (hts _ (u2 hnn)) f4 hroom, hts _ (f7 rc).1⟩ ⟨iv_Pc_blind, hPc as⟩ rfl (by rw [List.length_map]; exact t2) hl.1 hstack (lv_room (by rw [iv_cats]; exact t4)) (iv_d3 hcd rfl) hcs) hS hF (K (hrest hst))
                | some host => exact iv_callg (va_runSN (As := as.map (iv_v ad)) (rest := rest.map (iv_v ad)) ⟨hx, hb, hml, hown, hts⟩ hM ⟨va_cnB (iv_na mj) hts (iv_GI (fun w hw => by rcases List.mem_cons.mp hw with rfl | hw; exact f1; exact hw)) rfl rfl rfl (hK.2.2 _ (u3 host hnn)) (hts _ f2) f4 hroom, hts _ (f7 rc).1, trivial⟩ ⟨iv_Pc_blind, hPc as⟩ rfl (by rw [List.length_map]; exact t2) hl.1 hstack (lv_room (by rw [iv_cats]; exact t4)) (iv_d3 hcd rfl) hcs) hS hF (K (hrest hst))
              · obtain ⟨fs, hfs⟩ := iv_oc_s hoc
                obtain ⟨k1, ⟨T, N, k2⟩, k3, k4⟩ := f8 ci rc
                have gas : iv_gl S.2.2.2.length (.ref b :: as) := by
                  intro v hv
                  rcases List.mem_cons.mp hv with rfl | hv
                  · exact gs _ (by rw [hst]; exact List.mem_append_right _ List.mem_cons_self)
                  · exact gs v (by rw [hst]; exact List.mem_append_left _ (List.mem_reverse.mpr hv))
                have hlen : (iv_ex (.ref b :: as)).length ≤ iv_mx mj := by
                  show (some (Value.ref b) :: iv_ex as).length ≤ _
                  rw [List.length_cons]; exact hmx
                have grest : iv_gl S.2.2.2.length rest := fun v hv => gs v (by rw [hst]; exact List.mem_append_right _ (List.mem_cons_of_mem _ hv))
                have hM := iv_met (l := l) (D := D) (cO := cO) (ad := ad) (sz := H.size) hSD f1 f3 f6 (fun z => (k3 z).1) hlen gas gh
                have hstack : (F0 m S.1 ls (S.2.2.1.map (iv_v ad))).stack = (as.map (iv_v ad)).reverse ++ .ref (ad (some b)) :: rest.map (iv_v ad) := by
                  show S.2.2.1.map (iv_v ad) = _
                  rw [hst, List.map_append, List.map_reverse]
                  rfl
                rcases hkind with ⟨rfl, ri, hnn⟩ | ⟨rfl, ri⟩
                · refine iv_callg (va_runV (C := (iv_y mj).cls) (As := as.map (iv_v ad)) (rest := rest.map (iv_v ad)) ⟨hx, hb, hml, hown, hts⟩ hM (cwV (iv_na mj) hts (iv_GI (fun w hw => ?_)) rfl rfl rfl ⟨rfl, f4⟩ hroom) ⟨iv_Pc_blind, va_recv hK.1 hP k2 (iv_w_get hfs), hPc (.ref b :: as)⟩ rfl (by rw [List.length_map]; exact t2) hl.1 hstack (lv_room (by rw [iv_cats]; exact t4)) (iv_d3 hcd rfl) hcs) hS hF (K grest)
                  simp only [wsV, List.mem_append, List.mem_cons, List.not_mem_nil, or_false] at hw
                  rcases hw with (rfl | rfl | rfl | rfl) | hw
                  · exact u2 hnn
                  · exact k1
                  · exact k4 ri
                  · exact f2
                  · rcases List.mem_cons.mp hw with rfl | hw
                    · exact f1
                    · exact hw
                · obtain ⟨nm, rt⟩ := k3 ri
                  have hws : iv_ws mj = Cond.code (iv_y mj) (iv_by mj) (iv_mx mj) none :: iv_Wd := by unfold iv_ws; rw [rt]
                  cases hnn : iv_nn (iv_kf mi) idx with
                  | none => exact iv_callg (va_runI (As := as.map (iv_v ad)) (rest := rest.map (iv_v ad)) ⟨hx, hb, hml, hown, hts⟩ hM ⟨callB_of (iv_na mj) hts (iv_GI (fun w hw => by rcases List.mem_cons.mp hw with rfl | hw; exact f1; exact hw)) hws rfl rfl (hts _ f2) (hts _ (u2 hnn)) f4 hroom, nm, hts _ k1⟩ ⟨iv_Pc_blind, hPc (.ref b :: as)⟩ rfl (by rw [List.length_map]; exact t2) hl.1 hstack (lv_room (by rw [iv_cats]; exact t4)) (iv_d3 hcd rfl) hcs) hS hF (K grest)
                  | some host => exact iv_callg (va_runIN (As := as.map (iv_v ad)) (rest := rest.map (iv_v ad)) ⟨hx, hb, hml, hown, hts⟩ hM ⟨va_cnB (iv_na mj) hts (iv_GI (fun w hw => by rcases List.mem_cons.mp hw with rfl | hw; exact f1; exact hw)) hws rfl rfl (hK.2.2 _ (u3 host hnn)) (hts _ f2) f4 hroom, nm, hts _ k1⟩ ⟨iv_Pc_blind, hPc (.ref b :: as)⟩ rfl (by rw [List.length_map]; exact t2) hl.1 hstack (lv_room (by rw [iv_cats]; exact t4)) (iv_d3 hcd rfl) hcs) hS hF (K grest)
        · split at h
          · cases h
          · rename_i o hop
            split at h
            · cases h
            · rename_i h' hef
              intro _ p l e R s m args below meth c H locs cells slots mc ms Q D cO A ad ls X I hA hZ h1 h2 h3 h4 h5 h6 hEnd
              have la := iv_ef_le hef
              have lb : h'.length ≤ r.2.length ∧ iv_sz h' ≤ iv_sz r.2 := iv_run_le _ _ _ _ _ _ h
              refine iv_step hop hef hcd X I hA hZ (by omega) (by omega) ⟨by omega, by omega⟩ (fun ad' H' locs' ls' ag I' => ?_)
              exact ih z d mi (o.1, o.2.1, o.2.2.1, h') r h () X I' hA (fun y hy => by obtain ⟨x1, x2, x3⟩ := hZ y hy; rw [ag.1]; exact ⟨x1, x2, x3⟩) (by show _ + _ + (r.2.length - h'.length) ≤ mc; omega) (by show _ + _ + (iv_sz r.2 - iv_sz h') ≤ ms; omega) h3 h4 h5 h6
                (fun ad2 H2 locs2 ls2 pc2 op2 st2 g1 g2 g3 g4 g5 g6 g7 => hEnd ad2 H2 locs2 ls2 pc2 op2 st2 g1 g2 (ag.tr g3 la.1) g4 g5 g6 g7)
end
section
/-! STEPS OF A RUN BY HAND; a loop that is told once: remembers() of the reference -/
theorem iv_run_mono : ∀ (n : Nat) (z : iv_Z) (d mi : Nat) (S : iv_S) (r : Option Value × iv_H), iv_run z n d mi S = some r → iv_run z (n + 1) d mi S = some r := by
  intro n
  induction n with
  | zero => intro z d mi S r h; cases h
  | succ n ih =>
    intro z d mi S r h
    unfold iv_run at h ⊢
    cases hcd : iv_cd mi S.1 with
    | none => rw [hcd] at h; cases h
    | some op =>
      rw [hcd] at h
      dsimp only at h ⊢
      by_cases hr : iv_isr op = true
      · rw [if_pos hr] at h ⊢
        exact h
      · rw [if_neg hr] at h ⊢
        cases hca : iv_ca mi op S.2.2.1 S.2.2.2 with
        | some c =>
          rw [hca] at h
          dsimp only at h ⊢
          cases d with
          | zero => cases h
          | succ d' =>
            dsimp only at h ⊢
            cases hq : iv_run none n d' c.1 (0, iv_en c.1 c.2.1, [], S.2.2.2) with
            | none => rw [hq] at h; cases h
            | some q =>
              rw [hq] at h
              rw [ih _ _ _ _ _ hq]
              exact ih _ _ _ _ _ h
        | none =>
          rw [hca] at h
          dsimp only at h ⊢
          cases ho : iv_op z mi S.1 op S.2.1 S.2.2.1 S.2.2.2 with
          | none => rw [ho] at h; cases h
          | some o =>
            rw [ho] at h
            dsimp only at h ⊢
            cases he : iv_ef S.2.2.2 o.2.2.2 with
            | none => rw [he] at h; cases h
            | some h' =>
              rw [he] at h
              exact ih _ _ _ _ _ h
theorem iv_run_up {n m : Nat} {z : iv_Z} {d mi : Nat} {S : iv_S} {r : Option Value × iv_H} (h : iv_run z n d mi S = some r) (hm : n ≤ m) : iv_run z m d mi S = some r := by
  obtain ⟨k, rfl⟩ : ∃ k, m = n + k := ⟨m - n, by omega⟩
  clear hm
  induction k with
  | zero => exact h
  | succ k ih => exact iv_run_mono _ _ _ _ _ _ ih
theorem iv_rs {z : iv_Z} {n d mi pc : Nat} {al : iv_L} {st : List Value} {h h' : iv_H} {op : Jvm.ClassFile.Instr} {o : iv_O} {r : Option Value × iv_H} (hcd : iv_cd mi pc = some op) (hr : iv_isr op = false) (hca : iv_ca mi op st h = none) (hop : iv_op z mi pc op al st h = some o) (hef : iv_ef h o.2.2.2 = some h') (k : iv_run z n d mi (o.1, o.2.1, o.2.2.1, h') = some r) : iv_run z (n + 1) d mi (pc, al, st, h) = some r := by
  unfold iv_run
  dsimp only
  rw [hcd]
  dsimp only
  rw [if_neg (by rw [hr]; decide), hca]
  dsimp only
  rw [hop]
  dsimp only
  rw [hef]
  exact k
theorem iv_gf_o {z : iv_Z} {mi pc idx k : Nat} {al : iv_L} {st : List Value} {h : iv_H} {v : Value} (e : iv_gf mi idx h k = some v) : iv_op z mi pc (.getfield idx) al (.ref k :: st) h = some (pc + 3, al, v :: st, none) := by
  show (iv_gf mi idx h k).bind _ = _
  rw [e]
  rfl
theorem iv_gf_at {mi idx k ci j : Nat} {h : iv_H} {fs : List Value} (h1 : iv_fd (iv_kf mi) idx = some (ci, j)) (h2 : h[k]? = some (.inl (ci, fs))) : iv_gf mi idx h k = fs[j]? := by
  unfold iv_gf
  rw [h1, h2]
  dsimp only
  rw [if_pos rfl]
theorem iv_set_self {α : Type} {l : List α} {i : Nat} {a : α} (h : l[i]? = some a) : l.set i a = l := by
  apply List.ext_getElem?
  intro j
  rw [List.getElem?_set]
  split
  · rename_i e
    subst e
    rw [if_pos (List.getElem?_eq_some_iff.mp h).1, h]
  · rfl
theorem iv_rem_f0 : iv_fd (iv_kf 132) 13 = some (10, 1) ∧ iv_fd (iv_kf 132) 103 = some (10, 2) ∧ iv_fd (iv_kf 132) 9 = some (10, 0) ∧ iv_ft 10 2 = .int ∧ iv_fi 10 2 = false ∧ iv_mx 132 = 2 ∧ iv_ty[0]? = some .int := by decide +kernel
set_option maxRecDepth 100000 in
theorem iv_rem_cd : iv_cd 132 0 = some (.aload_n 0) ∧ iv_cd 132 1 = some (.getfield 103) ∧ iv_cd 132 4 = some (.bipush 8) ∧ iv_cd 132 6 = some (.if_icmp .ne 46) ∧ iv_cd 132 52 = some (.iconst 0) ∧ iv_cd 132 53 = some (.istore_n 1) ∧ iv_cd 132 54 = some (.iload_n 1) ∧ iv_cd 132 55 = some (.sipush 340) ∧ iv_cd 132 58 = some (.if_icmp .ge 30) ∧ iv_cd 132 61 = some (.aload_n 0) ∧ iv_cd 132 62 = some (.getfield 13) ∧ iv_cd 132 65 = some (.sipush 340) ∧ iv_cd 132 68 = some (.aload_n 0) ∧ iv_cd 132 69 = some (.getfield 103) ∧ iv_cd 132 72 = some .imul ∧ iv_cd 132 73 = some (.iload_n 1) ∧ iv_cd 132 74 = some .iadd ∧ iv_cd 132 75 = some (.aload_n 0) ∧ iv_cd 132 76 = some (.getfield 9) ∧ iv_cd 132 79 = some (.iload_n 1) ∧ iv_cd 132 80 = some .iaload ∧ iv_cd 132 81 = some .iastore ∧ iv_cd 132 82 = some (.iinc 1 1) ∧ iv_cd 132 85 = some (.goto (-31)) ∧ iv_cd 132 88 = some (.aload_n 0) ∧ iv_cd 132 89 = some .dup ∧ iv_cd 132 90 = some (.getfield 103) ∧ iv_cd 132 93 = some (.iconst 1) ∧ iv_cd 132 94 = some .iadd ∧ iv_cd 132 95 = some (.putfield 103) ∧ iv_cd 132 98 = some .return_ := by decide +kernel
theorem iv_icg (mi pc t : Nat) (z : iv_Z) (off : Int) (al : iv_L) (st : List Value) (h : iv_H) (x y : Int32) (ht : iv_tg pc off = some t) : iv_op z mi pc (.if_icmp .ge off) al (.int y :: .int x :: st) h = some (if y ≤ x then (t, al, st, none) else (pc + 3, al, st, none)) := by
  show iv_br (decide (y ≤ x)) pc off al st = _
  unfold iv_br
  rw [ht]
  by_cases q : y ≤ x
  · rw [if_pos q, decide_eq_true q]; rfl
  · rw [if_neg q, decide_eq_false q]; rfl
theorem iv_rem_end {z : iv_Z} {d k : Nat} {x : Int32} {h : iv_H} {fs : List Value} (hk : h[k]? = some (.inl (10, fs))) (h2 : fs[2]? = some (.int 0)) : iv_run z 8 d 132 (88, [some (.ref k), some (.int x)], [], h) = some (none, h.set k (.inl (10, fs.set 2 (.int 1)))) := by
  obtain ⟨f1, f2, f3, f4, f5, f6, -⟩ := iv_rem_f0
  obtain ⟨-, -, -, -, -, -, -, -, -, -, -, -, -, -, -, -, -, -, -, -, -, -, -, -, c88, c89, c90, c93, c94, c95, c98⟩ := iv_rem_cd
  have hl : 2 < fs.length := (List.getElem?_eq_some_iff.mp h2).1
  have g1 : iv_gf 132 103 h k = some (.int 0) := (iv_gf_at f2 hk).trans h2
  have p1 : iv_pf 132 103 h k (.int 1) = some (some k, .inl (10, fs.set 2 (.int 1))) := by
    unfold iv_pf
    rw [f2, hk]
    dsimp only
    rw [if_pos ⟨rfl, hl, by rw [f4]; rfl, Or.inl f5⟩]
  have e1 : iv_ef h (some (some k, .inl (10, fs.set 2 (.int 1)))) = some (h.set k (.inl (10, fs.set 2 (.int 1)))) := by
    unfold iv_ef
    dsimp only
    rw [hk]
    rw [if_pos (by show some fs.length = some (fs.set 2 (.int 1)).length; rw [List.length_set])]
  refine iv_rs c88 rfl rfl rfl rfl ?_
  refine iv_rs c89 rfl rfl rfl rfl ?_
  refine iv_rs c90 rfl rfl (iv_gf_o g1) rfl ?_
  refine iv_rs c93 rfl rfl rfl rfl ?_
  refine iv_rs c94 rfl rfl rfl rfl ?_
  refine iv_rs (o := (98, [some (.ref k), some (.int x)], [], some (some k, .inl (10, fs.set 2 (.int 1))))) c95 rfl rfl (by
    show (iv_pf 132 103 h k (.int 1)).bind _ = _
    rw [p1]
    rfl) e1 ?_
  unfold iv_run
  dsimp only
  rw [c98]
  dsimp only
  rw [if_pos (show iv_isr .return_ = true from rfl)]
  rfl
set_option maxHeartbeats 1000000 in
theorem iv_rem_loop {z : iv_Z} {d k a b ta tb : Nat} {fs : List Value} {f : Nat → Int32} (h0 : fs[0]? = some (.ref a)) (h1 : fs[1]? = some (.ref b)) (h2 : fs[2]? = some (.int 0)) (ha0 : iv_ty[ta]? = some .int) (hb0 : iv_ty[tb]? = some .int) : ∀ (m j : Nat) (g : Nat → Int32) (h : iv_H), j + m = 340 → h[k]? = some (.inl (10, fs)) → h[a]? = some (.inr (ta, 340, .inl f)) → h[b]? = some (.inr (tb, 2720, .inl g)) →
    ∃ g', iv_run z (18 * m + 11) d 132 (54, [some (.ref k), some (.int (nI j))], [], h) = some (none, (h.set b (.inr (tb, 2720, .inl g'))).set k (.inl (10, fs.set 2 (.int 1)))) := by
  obtain ⟨f1, f2, f3, f4, f5, f6, -⟩ := iv_rem_f0
  obtain ⟨-, -, -, -, -, -, c54, c55, c58, c61, c62, c65, c68, c69, c72, c73, c74, c75, c76, c79, c80, c81, c82, c85, -⟩ := iv_rem_cd
  intro m
  induction m with
  | zero =>
    intro j g h hj hk ha hb
    refine ⟨g, ?_⟩
    rw [iv_set_self hb]
    have hj' : j = 340 := by omega
    subst hj'
    refine iv_rs c54 rfl rfl rfl rfl ?_
    refine iv_rs c55 rfl rfl rfl rfl ?_
    refine iv_rs (o := (88, [some (.ref k), some (.int (nI 340))], [], none)) c58 rfl rfl (by rfl) rfl ?_
    exact iv_rem_end hk h2
  | succ m ih =>
    intro j g h hj hk ha hb
    have hjl : j < 340 := by omega
    have nj : (nI j).toNatClampNeg = j := nI_clamp (by omega)
    have ge1 : ¬ (340 : Int32) ≤ nI j := by
      have q := nI_ge (a := j) (b := 340) hjl (by omega)
      exact q
    have ij : iv_in (nI j) 340 = true := by
      unfold iv_in
      rw [nj, decide_eq_true (nI_pos' (n := j) (by omega)), decide_eq_true hjl]
      rfl
    have ix : (340 : Int32) * 0 + nI j = nI j := by
      show (0 : Int32) + nI j = nI j
      rw [Int32.zero_add]
    have ij2 : iv_in (nI j) 2720 = true := by
      unfold iv_in
      rw [nj, decide_eq_true (nI_pos' (n := j) (by omega)), decide_eq_true (show j < 2720 by omega)]
      rfl
    have g1 : iv_gf 132 103 h k = some (.int 0) := (iv_gf_at f2 hk).trans h2
    have g2 : iv_gf 132 13 h k = some (.ref b) := (iv_gf_at f1 hk).trans h1
    have g3 : iv_gf 132 9 h k = some (.ref a) := (iv_gf_at f3 hk).trans h0
    have hkb : ¬ b = k := fun q => by rw [q, hk] at hb; cases hb
    have hab : ¬ b = a := fun q => by rw [q, ha] at hb; cases hb
    obtain ⟨g', hg⟩ := ih (j + 1) (upd g j (f j)) (h.set b (.inr (tb, 2720, .inl (upd g j (f j))))) (by omega) (by rw [List.getElem?_set_ne hkb]; exact hk) (by rw [List.getElem?_set_ne hab]; exact ha) (by rw [List.getElem?_set_self (List.getElem?_eq_some_iff.mp hb).1])
    rw [List.set_set] at hg
    refine ⟨g', ?_⟩
    rw [show 18 * (m + 1) + 11 = 18 * m + 11 + 18 by omega]
    refine iv_rs c54 rfl rfl rfl rfl ?_
    refine iv_rs c55 rfl rfl rfl rfl ?_
    refine iv_rs (o := (61, [some (.ref k), some (.int (nI j))], [], none)) c58 rfl rfl (by
      rw [iv_icg 132 58 88 z 30 _ _ _ _ _ rfl]
      rw [if_neg (show ¬ (Int16.ofInt 340).toInt32 ≤ nI j from ge1)]) rfl ?_
    refine iv_rs c61 rfl rfl rfl rfl ?_
    refine iv_rs c62 rfl rfl (iv_gf_o g2) rfl ?_
    refine iv_rs c65 rfl rfl rfl rfl ?_
    refine iv_rs c68 rfl rfl rfl rfl ?_
    refine iv_rs c69 rfl rfl (iv_gf_o g1) rfl ?_
    refine iv_rs c72 rfl rfl rfl rfl ?_
    refine iv_rs c73 rfl rfl rfl rfl ?_
    refine iv_rs (o := (75, [some (.ref k), some (.int (nI j))], [.int (nI j), .ref b], none)) c74 rfl rfl (by
      show some (75, _, [Value.int ((340 : Int32) * 0 + nI j), .ref b], none) = _
      rw [ix]) rfl ?_
    refine iv_rs c75 rfl rfl rfl rfl ?_
    refine iv_rs c76 rfl rfl (iv_gf_o g3) rfl ?_
    refine iv_rs c79 rfl rfl rfl rfl ?_
    refine iv_rs (o := (81, [some (.ref k), some (.int (nI j))], [.int (f j), .int (nI j), .ref b], none)) c80 rfl rfl (by
      show iv_ald .int 80 _ (.int (nI j) :: .ref a :: _) h = _
      show (iv_ai h a).bind _ = _
      have q1 : iv_ai h a = some (ta, 340, f) := by unfold iv_ai; rw [ha]
      rw [q1]
      show (if _ then _ else _) = _
      rw [if_pos ⟨ij, decide_eq_true ha0⟩]
      show some (81, _, Value.int (f (nI j).toNatClampNeg) :: _, none) = _
      rw [nj]) rfl ?_
    refine iv_rs (o := (82, [some (.ref k), some (.int (nI j))], [], some (some b, .inr (tb, 2720, .inl (upd g j (f j)))))) c81 rfl rfl (by
      show (iv_ai h b).bind _ = _
      have q1 : iv_ai h b = some (tb, 2720, g) := by unfold iv_ai; rw [hb]
      rw [q1]
      show (if _ then _ else _) = _
      rw [if_pos ⟨ij2, decide_eq_true hb0⟩]
      show some (82, _, _, some (some b, Sum.inr (tb, 2720, Sum.inl (upd g (nI j).toNatClampNeg (f j))))) = _
      rw [nj]) (by
      unfold iv_ef
      dsimp only
      rw [hb]
      exact if_pos rfl) ?_
    refine iv_rs (o := (85, [some (.ref k), some (.int (nI (j + 1)))], [], none)) c82 rfl rfl (by
      show iv_sl 132 1 0 (85, [some (.ref k), some (.int (nI j + 1))], [], none) = _
      unfold iv_sl
      rw [f6, if_pos (by omega), nI_1]) rfl ?_
    refine iv_rs c85 rfl rfl rfl rfl ?_
    exact hg
theorem iv_rem {z : iv_Z} {d k a b ta tb : Nat} {h : iv_H} {fs : List Value} {f g : Nat → Int32} (hk : h[k]? = some (.inl (10, fs))) (h0 : fs[0]? = some (.ref a)) (h1 : fs[1]? = some (.ref b)) (h2 : fs[2]? = some (.int 0)) (ha : h[a]? = some (.inr (ta, 340, .inl f))) (hb : h[b]? = some (.inr (tb, 2720, .inl g))) (ha0 : iv_ty[ta]? = some .int) (hb0 : iv_ty[tb]? = some .int) :
    ∃ g', iv_run z 6137 d 132 (0, iv_en 132 [.ref k], [], h) = some (none, (h.set b (.inr (tb, 2720, .inl g'))).set k (.inl (10, fs.set 2 (.int 1)))) := by
  obtain ⟨f1, f2, f3, f4, f5, f6, -⟩ := iv_rem_f0
  obtain ⟨c0, c1, c4, c6, c52, c53, -⟩ := iv_rem_cd
  obtain ⟨g', hg⟩ := iv_rem_loop (z := z) (d := d) h0 h1 h2 ha0 hb0 340 0 g h rfl hk ha hb
  refine ⟨g', ?_⟩
  have en : iv_en 132 [.ref k] = [some (.ref k), none] := by
    unfold iv_en
    rw [f6]
    rfl
  rw [en]
  have g1 : iv_gf 132 103 h k = some (.int 0) := (iv_gf_at f2 hk).trans h2
  rw [show 6137 = 18 * 340 + 11 + 6 by rfl]
  refine iv_rs c0 rfl rfl rfl rfl ?_
  refine iv_rs c1 rfl rfl (iv_gf_o g1) rfl ?_
  refine iv_rs c4 rfl rfl rfl rfl ?_
  refine iv_rs c6 rfl rfl (o := (52, [some (.ref k), none], [], none)) (by rfl) rfl ?_
  refine iv_rs c52 rfl rfl rfl rfl ?_
  refine iv_rs (o := (54, [some (.ref k), some (.int 0)], [], none)) c53 rfl rfl (by
    show iv_sl 132 1 0 (54, [some (.ref k), some (.int 0)], [], none) = _
    unfold iv_sl
    rw [f6, if_pos (by omega)]) rfl ?_
  exact hg
end
section
/-! RUNS OVER UNKNOWN INTS: .float b is the script's int of number b (b < 6), or any int; .double b the script's int as a long; an array of floats is an array of ints of unknown contents. V: between what the script's ints lie. -/
abbrev iv_V : Type := List (Int × Int)
def iv_γ (ρ : Nat → Int32) (a c : Value) : Prop := match a with
  | .float b => ∃ x : Int32, c = .int x ∧ (b.toNat < 6 → x = ρ b.toNat)
  | .double b => c = .long (ρ b.toNat).toInt64
  | v => c = v
def iv_γs (ρ : Nat → Int32) : List Value → List Value → Prop
  | [], [] => True
  | a :: as, c :: cs => iv_γ ρ a c ∧ iv_γs ρ as cs
  | _, _ => False
def iv_γo (ρ : Nat → Int32) (a b : Option Value) : Prop := match a, b with
  | none, none => True
  | some v, some c => iv_γ ρ v c
  | _, _ => False
def iv_γl (ρ : Nat → Int32) (al bl : iv_L) : Prop := al.length = bl.length ∧ ∀ (i : Nat) (a b : Option Value), al[i]? = some a → bl[i]? = some b → iv_γo ρ a b
/-- an array of unknown contents -/
def iv_ua (a : iv_C) : Bool := match a with
  | .inr (_, _, .inr (.inr (.inl _))) => true
  | _ => false
def iv_γc (a c : iv_C) : Prop := (iv_ua a = false ∧ a = c) ∨ ∃ (t n : Nat) (f : Nat → UInt32) (g : Nat → Int32), a = .inr (t, n, .inr (.inr (.inl f))) ∧ c = .inr (t, n, .inl g)
def iv_γh (h k : iv_H) : Prop := h.length = k.length ∧ ∀ (i : Nat) (a : iv_C), h[i]? = some a → ∃ c, k[i]? = some c ∧ iv_γc a c
def iv_sat (ρ : Nat → Int32) (V : iv_V) : Prop := ∀ (k : Nat) (q : Int × Int), V[k]? = some q → q.1 ≤ (ρ k).toInt ∧ (ρ k).toInt ≤ q.2
def iv_iv (V : iv_V) (k : Nat) : Int × Int := match V[k]? with
  | some q => q
  | none => (-2147483648, 2147483647)
def iv_tr (c : Jvm.ClassFile.Cond) (a b : Int) : Bool := match c with
  | .eq => decide (a = b)
  | .ne => decide (¬ a = b)
  | .lt => decide (a < b)
  | .ge => decide (b ≤ a)
  | .gt => decide (b < a)
  | .le => decide (a ≤ b)
section
variable {α : Type}
/-- regions of a number against c, and where the condition leads from there -/
def iv_rg (cc : Jvm.ClassFile.Cond) (c : Int) (a b : α) : List (Int × Int × α) := match cc with
  | .eq => [(c, c, a), (-9999999999, c - 1, b), (c + 1, 9999999999, b)]
  | .ne => [(c, c, b), (-9999999999, c - 1, a), (c + 1, 9999999999, a)]
  | .lt => [(-9999999999, c - 1, a), (c, 9999999999, b)]
  | .ge => [(-9999999999, c - 1, b), (c, 9999999999, a)]
  | .gt => [(-9999999999, c, b), (c + 1, 9999999999, a)]
  | .le => [(-9999999999, c, a), (c + 1, 9999999999, b)]
def iv_swc (cc : Jvm.ClassFile.Cond) : Jvm.ClassFile.Cond := match cc with
  | .lt => .gt
  | .ge => .le
  | .gt => .lt
  | .le => .ge
  | .eq => .eq
  | .ne => .ne
/-- the regions that are left to the script's int k -/
def iv_wy (V : iv_V) (k : Nat) : List (Int × Int × α) → List (iv_V × α)
  | [] => []
  | q :: l => if max (iv_iv V k).1 q.1 ≤ min (iv_iv V k).2 q.2.1 then (V.set k (max (iv_iv V k).1 q.1, min (iv_iv V k).2 q.2.1), q.2.2) :: iv_wy V k l else iv_wy V k l
/-- any of them -/
def iv_an (V : iv_V) : List (Int × Int × α) → List (iv_V × α)
  | [] => []
  | q :: l => (V, q.2.2) :: iv_an V l
theorem iv_an_s {V : iv_V} {l : List (Int × Int × α)} {q : Int × Int × α} (h : q ∈ l) : (V, q.2.2) ∈ iv_an V l := by
  induction l with
  | nil => cases h
  | cons a l ih =>
    rcases List.mem_cons.mp h with rfl | h
    · exact List.mem_cons_self
    · exact List.mem_cons_of_mem _ (ih h)
theorem iv_iv_s {ρ : Nat → Int32} {V : iv_V} (h : iv_sat ρ V) (k : Nat) : (iv_iv V k).1 ≤ (ρ k).toInt ∧ (ρ k).toInt ≤ (iv_iv V k).2 := by
  unfold iv_iv
  split
  · exact h k _ (by assumption)
  · have a := Int32.le_toInt (ρ k)
    have b := Int32.toInt_lt (ρ k)
    exact ⟨by simpa using a, by show (ρ k).toInt ≤ 2147483647; omega⟩
theorem iv_wy_s {ρ : Nat → Int32} {V : iv_V} {k : Nat} {l : List (Int × Int × α)} {q : Int × Int × α} (hV : iv_sat ρ V) (h : q ∈ l) (h1 : q.1 ≤ (ρ k).toInt) (h2 : (ρ k).toInt ≤ q.2.1) : ∃ V', (V', q.2.2) ∈ iv_wy V k l ∧ iv_sat ρ V' := by
  obtain ⟨b1, b2⟩ := iv_iv_s hV k
  induction l with
  | nil => cases h
  | cons a l ih =>
    unfold iv_wy
    rcases List.mem_cons.mp h with rfl | h
    · have g1 : max (iv_iv V k).1 q.1 ≤ (ρ k).toInt := Int.max_le.mpr ⟨b1, h1⟩
      have g2 : (ρ k).toInt ≤ min (iv_iv V k).2 q.2.1 := Int.le_min.mpr ⟨b2, h2⟩
      rw [if_pos (Int.le_trans g1 g2)]
      refine ⟨_, List.mem_cons_self, fun j x hj => ?_⟩
      rw [List.getElem?_set] at hj
      split at hj
      · rename_i e
        subst e
        split at hj
        · cases hj; exact ⟨g1, g2⟩
        · cases hj
      · exact hV j x hj
    · obtain ⟨V', m1, m2⟩ := ih h
      split
      · exact ⟨V', List.mem_cons_of_mem _ m1, m2⟩
      · exact ⟨V', m1, m2⟩
theorem iv_rg_s (cc : Jvm.ClassFile.Cond) (c : Int) (a b : α) {v : Int} (h1 : -9999999999 ≤ v) (h2 : v ≤ 9999999999) : ∃ q ∈ iv_rg cc c a b, q.1 ≤ v ∧ v ≤ q.2.1 ∧ q.2.2 = if iv_tr cc v c = true then a else b := by
  cases cc <;> simp only [iv_rg, iv_tr, List.mem_cons, List.not_mem_nil, or_false, exists_eq_or_imp, exists_eq_left, decide_eq_true_eq]
  · rcases Int.lt_trichotomy v c with h | h | h
    · exact Or.inr (Or.inl ⟨h1, by omega, by rw [if_neg (by omega)]⟩)
    · exact Or.inl ⟨by omega, by omega, by rw [if_pos h]⟩
    · exact Or.inr (Or.inr ⟨by omega, h2, by rw [if_neg (by omega)]⟩)
  · rcases Int.lt_trichotomy v c with h | h | h
    · exact Or.inr (Or.inl ⟨h1, by omega, by rw [if_pos (by omega)]⟩)
    · exact Or.inl ⟨by omega, by omega, by rw [if_neg (by omega)]⟩
    · exact Or.inr (Or.inr ⟨by omega, h2, by rw [if_pos (by omega)]⟩)
  · rcases (show v < c ∨ c ≤ v by omega) with h | h
    · exact Or.inl ⟨h1, by omega, by rw [if_pos h]⟩
    · exact Or.inr ⟨h, h2, by rw [if_neg (by omega)]⟩
  · rcases (show v < c ∨ c ≤ v by omega) with h | h
    · exact Or.inl ⟨h1, by omega, by rw [if_neg (by omega)]⟩
    · exact Or.inr ⟨h, h2, by rw [if_pos h]⟩
  · rcases (show c < v ∨ v ≤ c by omega) with h | h
    · exact Or.inr ⟨by omega, h2, by rw [if_pos h]⟩
    · exact Or.inl ⟨h1, h, by rw [if_neg (by omega)]⟩
  · rcases (show c < v ∨ v ≤ c by omega) with h | h
    · exact Or.inr ⟨by omega, h2, by rw [if_neg (by omega)]⟩
    · exact Or.inl ⟨h1, h, by rw [if_pos h]⟩
end
theorem iv_rng (x : Int32) : -9999999999 ≤ x.toInt ∧ x.toInt ≤ 9999999999 := by
  have a := Int32.le_toInt x
  have b := Int32.toInt_lt x
  omega
theorem iv_tr_swc (cc : Jvm.ClassFile.Cond) (a b : Int) : iv_tr (iv_swc cc) a b = iv_tr cc b a := by
  cases cc <;> simp only [iv_swc, iv_tr] <;> congr 1 <;> simp [eq_comm]
def iv_U : Value := .float 999
def iv_vals (lo : Int) : Nat → List (Int × Int × Int)
  | 0 => []
  | n + 1 => (lo, lo, lo) :: iv_vals (lo + 1) n
theorem iv_vals_s : ∀ (n : Nat) (lo v : Int), lo ≤ v → v < lo + n → (v, v, v) ∈ iv_vals lo n := by
  intro n
  induction n with
  | zero => intro lo v h1 h2; omega
  | succ n ih =>
    intro lo v h1 h2
    unfold iv_vals
    by_cases h : v = lo
    · rw [h]; exact List.mem_cons_self
    · exact List.mem_cons_of_mem _ (ih (lo + 1) v (by omega) (by omega))
def iv_xl (V : iv_V) (al : iv_L) (i pc : Nat) (st : List Value) : Option (List (iv_V × iv_O)) := match al[i]? with
  | some (some (.float b)) => if b.toNat < 6 ∧ (iv_iv V b.toNat).2 ≤ (iv_iv V b.toNat).1 then some [(V, (pc, al, .int (Int32.ofInt (iv_iv V b.toNat).1) :: st, none))]
    else some [(V, (pc, al, .float b :: st, none))]
  | _ => none
def iv_xll (V : iv_V) (al : iv_L) (i pc : Nat) (st : List Value) : Option (List (iv_V × iv_O)) := match al[i]? with
  | some (some (.double b)) => some [(V, (pc, al, .double b :: st, none))]
  | _ => none
def iv_xst (V : iv_V) (mi : Nat) (al : iv_L) (i pc : Nat) (st : List Value) : Option (List (iv_V × iv_O)) := match st with
  | .float b :: r => (iv_sl mi i 0 (pc, iv_s1 al i (.float b), r, none)).map fun o => [(V, o)]
  | _ => none
/-- arithmetic that nobody asks the value of -/
def iv_u2 (V : iv_V) (pc : Nat) (al : iv_L) (st : List Value) : Option (List (iv_V × iv_O)) := match st with
  | .float _ :: .int _ :: r => some [(V, (pc + 1, al, iv_U :: r, none))]
  | .int _ :: .float _ :: r => some [(V, (pc + 1, al, iv_U :: r, none))]
  | .float _ :: .float _ :: r => some [(V, (pc + 1, al, iv_U :: r, none))]
  | _ => none
/-- .. or of few values -/
def iv_a2 (V : iv_V) (pc : Nat) (al : iv_L) (st : List Value) (f : Int32 → Int32 → Int32) : Option (List (iv_V × iv_O)) := match st with
  | .float b :: .int x :: r => if b.toNat < 6 ∧ (iv_iv V b.toNat).2 - (iv_iv V b.toNat).1 ≤ 15 then some ((iv_wy V b.toNat (iv_vals (iv_iv V b.toNat).1 16)).map fun q => (q.1, (pc + 1, al, .int (f x (Int32.ofInt q.2)) :: r, none)))
    else some [(V, (pc + 1, al, iv_U :: r, none))]
  | .int y :: .float b :: r => if b.toNat < 6 ∧ (iv_iv V b.toNat).2 - (iv_iv V b.toNat).1 ≤ 15 then some ((iv_wy V b.toNat (iv_vals (iv_iv V b.toNat).1 16)).map fun q => (q.1, (pc + 1, al, .int (f (Int32.ofInt q.2) y) :: r, none)))
    else some [(V, (pc + 1, al, iv_U :: r, none))]
  | st => iv_u2 V pc al st
def iv_bo (V : iv_V) (t pc : Nat) (al : iv_L) (r : List Value) : Option (List (iv_V × iv_O)) := some [(V, (t, al, r, none)), (V, (pc + 3, al, r, none))]
def iv_xc2 (V : iv_V) (cc : Jvm.ClassFile.Cond) (pc : Nat) (off : Int) (al : iv_L) (st : List Value) : Option (List (iv_V × iv_O)) := match iv_tg pc off with
  | none => none
  | some t => match st with
    | .float a :: .float b :: r => if a = b ∧ a.toNat < 6 then some [(V, ((if iv_tr cc 0 0 = true then t else pc + 3), al, r, none))] else iv_bo V t pc al r
    | .int y :: .float b :: r => if b.toNat < 6 then some (iv_wy V b.toNat (iv_rg cc y.toInt (t, al, r, none) (pc + 3, al, r, none))) else iv_bo V t pc al r
    | .float b :: .int x :: r => if b.toNat < 6 then some (iv_wy V b.toNat (iv_rg (iv_swc cc) x.toInt (t, al, r, none) (pc + 3, al, r, none))) else iv_bo V t pc al r
    | _ => none
def iv_xc1 (V : iv_V) (cc : Jvm.ClassFile.Cond) (pc : Nat) (off : Int) (al : iv_L) (st : List Value) : Option (List (iv_V × iv_O)) := match iv_tg pc off with
  | none => none
  | some t => match st with
    | .float b :: r => if b.toNat < 6 then some (iv_wy V b.toNat (iv_rg cc 0 (t, al, r, none) (pc + 3, al, r, none))) else iv_bo V t pc al r
    | _ => none
def iv_swr (pc : Nat) (al : iv_L) (r : List Value) : Int → List Int → Option (List (Int × Int × iv_O))
  | _, [] => some []
  | v, off :: l => match iv_tg pc off with
    | none => none
    | some t => match iv_swr pc al r (v + 1) l with
      | none => none
      | some q => some ((v, v, (t, al, r, none)) :: q)
theorem iv_swr_s {pc : Nat} {al : iv_L} {r : List Value} : ∀ (l : List Int) (v : Int) (q : List (Int × Int × iv_O)), iv_swr pc al r v l = some q → ∀ (j : Nat) (off : Int), l[j]? = some off → ∃ t : Nat, iv_tg pc off = some t ∧ (v + j, v + j, (t, al, r, none)) ∈ q := by
  intro l
  induction l with
  | nil => intro v q h j off hj; simp at hj
  | cons a l ih =>
    intro v q h j off hj
    unfold iv_swr at h
    split at h
    · cases h
    · rename_i t ht
      split at h
      · cases h
      · rename_i q2 hq2
        cases h
        cases j with
        | zero =>
          rw [List.getElem?_cons_zero] at hj
          cases hj
          refine ⟨t, ht, ?_⟩
          simp
        | succ j =>
          rw [List.getElem?_cons_succ] at hj
          obtain ⟨t2, a1, a2⟩ := ih (v + 1) q2 hq2 j off hj
          refine ⟨t2, a1, List.mem_cons_of_mem _ ?_⟩
          rw [show v + ((j + 1 : Nat) : Int) = v + 1 + (j : Int) by omega]
          exact a2
def iv_xsw (V : iv_V) (pc : Nat) (d lo hi : Int) (offs : List Int) (al : iv_L) (st : List Value) : Option (List (iv_V × iv_O)) := match st with
  | .float b :: r => if hi < lo + offs.length then match iv_tg pc d with
    | none => none
    | some t => match iv_swr pc al r lo offs with
      | none => none
      | some q => if b.toNat < 6 then some (iv_wy V b.toNat ((-9999999999, lo - 1, (t, al, r, none)) :: (hi + 1, 9999999999, (t, al, r, none)) :: q)) else some (iv_an V ((-9999999999, lo - 1, (t, al, r, none)) :: (hi + 1, 9999999999, (t, al, r, none)) :: q))
    else none
  | _ => none
/-- an array of ints, known or not: type and length -/
def iv_ak (h : iv_H) (k : Nat) : Option (Nat × Nat) := match h[k]? with
  | some (.inr (t, n, .inl _)) => some (t, n)
  | some (.inr (t, n, .inr (.inr (.inl _)))) => some (t, n)
  | _ => none
def iv_xin (V : iv_V) (mi : Nat) (al : iv_L) (i : Nat) (n : Int) (pc : Nat) (st : List Value) : Option (List (iv_V × iv_O)) := match al[i]? with
  | some (some (.float b)) => if b.toNat < 6 ∧ (iv_iv V b.toNat).2 - (iv_iv V b.toNat).1 ≤ 15 ∧ i + 0 < iv_mx mi then some ((iv_wy V b.toNat (iv_vals (iv_iv V b.toNat).1 16)).map fun q => (q.1, (pc + 3, iv_s1 al i (.int (Int32.ofInt q.2 + Int32.ofInt n)), st, none))) else none
  | _ => none
def iv_isn (v : Value) : Bool := match v with
  | .int _ => true
  | .float _ => true
  | _ => false
def iv_sy (v : Value) : Bool := match v with
  | .float _ => true
  | _ => false
def iv_ix (V : iv_V) (i : Value) (n : Nat) : Bool := match i with
  | .int j => iv_in j n
  | .float b => decide (b.toNat < 6 ∧ 0 ≤ (iv_iv V b.toNat).1 ∧ (iv_iv V b.toNat).2 < (n : Int))
  | _ => false
def iv_xas (V : iv_V) (ty : FieldType) (pc : Nat) (al : iv_L) (st : List Value) (h : iv_H) : Option (List (iv_V × iv_O)) := match st with
  | v :: i :: .ref k :: r => if iv_isn v = true ∧ (iv_sy v || (iv_sy i || (iv_ai h k).isNone)) = true then match iv_ak h k with
    | some q => if iv_ix V i q.2 = true ∧ iv_is q.1 ty = true then some [(V, (pc + 1, al, r, some (some k, .inr (q.1, q.2, .inr (.inr (.inl (fun _ => 0)))))))] else none
    | none => none
    else none
  | _ => none
/-- an int out of a row of equal ones -/
def iv_xal (V : iv_V) (pc : Nat) (al : iv_L) (st : List Value) (h : iv_H) : Option (List (iv_V × iv_O)) := match st with
  | .float b :: .ref k :: r => match iv_ai h k with
    | some q => if b.toNat < 6 ∧ 0 ≤ (iv_iv V b.toNat).1 ∧ (iv_iv V b.toNat).2 < (q.2.1 : Int) ∧ iv_is q.1 .int = true ∧ ((List.range ((iv_iv V b.toNat).2 - (iv_iv V b.toNat).1 + 1).toNat).all fun j => decide (q.2.2 ((iv_iv V b.toNat).1.toNat + j) = q.2.2 (iv_iv V b.toNat).1.toNat)) = true then some [(V, (pc + 1, al, .int (q.2.2 (iv_iv V b.toNat).1.toNat) :: r, none))] else none
    | none => none
  | _ => none
/-- an object out of a row -/
def iv_xaq (V : iv_V) (pc : Nat) (al : iv_L) (st : List Value) (h : iv_H) : Option (List (iv_V × iv_O)) := match st with
  | .float b :: .ref k :: r => match iv_aq h k with
    | some q => if b.toNat < 6 ∧ 0 ≤ (iv_iv V b.toNat).1 ∧ (iv_iv V b.toNat).2 < (q.2.1 : Int) ∧ (iv_iv V b.toNat).2 - (iv_iv V b.toNat).1 ≤ 15 ∧ iv_iq q.1 = true ∧ ((iv_wy V b.toNat (iv_vals (iv_iv V b.toNat).1 16)).all fun w => (q.2.2 w.2.toNat).isSome) = true then
        some ((iv_wy V b.toNat (iv_vals (iv_iv V b.toNat).1 16)).map fun w => (w.1, (pc + 1, al, (va_rf (q.2.2 w.2.toNat)) :: r, none))) else none
    | none => none
  | _ => none
def iv_xsem (op : Jvm.ClassFile.Instr) : Option (Option (Nat × Int32) → iv_V → Nat → Nat → iv_L → List Value → iv_H → Option (List (iv_V × iv_O))) := match op with
  | .iload_n k => some fun scr V mi pc al st h => iv_xl V al (k : Nat) (pc + 1) st
  | .iload k => some fun scr V mi pc al st h => iv_xl V al k (pc + 2) st
  | .lload_n k => some fun scr V mi pc al st h => iv_xll V al (k : Nat) (pc + 1) st
  | .lload k => some fun scr V mi pc al st h => iv_xll V al k (pc + 2) st
  | .istore_n k => some fun scr V mi pc al st h => iv_xst V mi al (k : Nat) (pc + 1) st
  | .istore k => some fun scr V mi pc al st h => iv_xst V mi al k (pc + 2) st
  | .iinc i n => some fun scr V mi pc al st h => iv_xin V mi al i n pc st
  | .i2l => some fun scr V mi pc al st h => match st with
    | .float b :: r => if b.toNat < 6 then some [(V, (pc + 1, al, .double (UInt64.ofNat b.toNat) :: r, none))] else none
    | _ => none
  | .lcmp => some fun scr V mi pc al st h => match st with
    | .long c :: .double b :: r => some (iv_wy V b.toNat [(-9999999999, c.toInt - 1, (pc + 1, al, .int (-1) :: r, none)), (c.toInt, c.toInt, (pc + 1, al, .int 0 :: r, none)), (c.toInt + 1, 9999999999, (pc + 1, al, .int 1 :: r, none))])
    | _ => none
  | .if_icmp cc off => some fun scr V mi pc al st h => iv_xc2 V cc pc off al st
  | .ifCond cc off => some fun scr V mi pc al st h => iv_xc1 V cc pc off al st
  | .iadd => some fun scr V mi pc al st h => iv_a2 V pc al st (fun x y => x + y)
  | .isub => some fun scr V mi pc al st h => iv_a2 V pc al st (fun x y => x - y)
  | .imul => some fun scr V mi pc al st h => iv_a2 V pc al st (fun x y => x * y)
  | .iand => some fun scr V mi pc al st h => match scr with
    | none => iv_u2 V pc al st
    | some c => match st with
      | .int m :: .float b :: r => if m = 31 ∧ b.toNat = 0 ∧ c.1 = 6 then some [(V, (pc + 1, al, .int c.2 :: r, none))] else iv_u2 V pc al st
      | st => iv_u2 V pc al st
  | .ior => some fun scr V mi pc al st h => iv_u2 V pc al st
  | .ishl => some fun scr V mi pc al st h => iv_u2 V pc al st
  | .ishr => some fun scr V mi pc al st h => iv_u2 V pc al st
  | .iushr => some fun scr V mi pc al st h => iv_u2 V pc al st
  | .i2b => some fun scr V mi pc al st h => match st with
    | .float _ :: r => some [(V, (pc + 1, al, iv_U :: r, none))]
    | _ => none
  | .tableswitch d lo hi offs => some fun scr V mi pc al st h => iv_xsw V pc d lo hi offs.toList al st
  | .iaload => some fun scr V mi pc al st h => match st with
    | .int i :: .retAddr _ :: r => match scr with
      | some c => if iv_in i c.1 = true ∧ i.toNatClampNeg < 6 then some [(V, (pc + 1, al, .float (UInt32.ofNat i.toNatClampNeg) :: r, none))] else none
      | none => none
    | st => iv_xal V pc al st h
  | .aaload => some fun scr V mi pc al st h => iv_xaq V pc al st h
  | .arraylength => some fun scr V mi pc al st h => match st with
    | .retAddr _ :: r => match scr with
      | some c => some [(V, (pc + 1, al, .int (Int32.ofNat c.1) :: r, none))]
      | none => none
    | _ => none
  | .iastore => some fun scr V mi pc al st h => iv_xas V .int pc al st h
  | .bastore => some fun scr V mi pc al st h => iv_xas V .byte pc al st h
  | _ => none
def iv_xs (scr : Option (Nat × Int32)) (V : iv_V) (mi pc : Nat) (op : Jvm.ClassFile.Instr) (al : iv_L) (st : List Value) (h : iv_H) : Option (List (iv_V × iv_O)) := match iv_xsem op with
  | some f => f scr V mi pc al st h
  | none => none
/-- a value that is known -/
def iv_fv (v : Value) : Bool := match v with
  | .float _ => false
  | .double _ => false
  | _ => true
def iv_feb (f : iv_F) : Bool := match f with
  | some (_, .inl o) => o.2.all iv_fv
  | some (_, .inr a) => !iv_ua (.inr a)
  | none => true
def iv_cm0 (mi : Nat) (op : Jvm.ClassFile.Instr) : Bool := match iv_cc op with
  | none => true
  | some q => (iv_mt (iv_kf mi) q.2).isNone
def iv_x (scr : Option (Nat × Int32)) (V : iv_V) (mi pc : Nat) (op : Jvm.ClassFile.Instr) (al : iv_L) (st : List Value) (h : iv_H) : Option (List (iv_V × iv_O)) := match iv_xs scr V mi pc op al st h with
  | some l => some l
  | none => (iv_op none mi pc op al st h).bind fun o => if iv_feb o.2.2.2 = true then some [(V, o)] else none
def iv_bd {α β : Type} (f : α → Option (List β)) : List α → Option (List β)
  | [] => some []
  | a :: l => match f a with
    | none => none
    | some x => match iv_bd f l with
      | none => none
      | some y => some (x ++ y)
theorem iv_bd_s {α β : Type} {f : α → Option (List β)} : ∀ (l : List α) (r : List β), iv_bd f l = some r → ∀ a ∈ l, ∃ x, f a = some x ∧ ∀ b ∈ x, b ∈ r := by
  intro l
  induction l with
  | nil => intro r h a ha; cases ha
  | cons a l ih =>
    intro r h b hb
    unfold iv_bd at h
    split at h
    · cases h
    · rename_i x hx
      split at h
      · cases h
      · rename_i y hy
        cases h
        rcases List.mem_cons.mp hb with rfl | hb
        · exact ⟨x, hx, fun c hc => List.mem_append_left _ hc⟩
        · obtain ⟨x2, h1, h2⟩ := ih y hy b hb
          exact ⟨x2, h1, fun c hc => List.mem_append_right _ (h2 c hc)⟩
/-- what remembers() of the reference does, the first time -/
def iv_sum2 (h : iv_H) (k : Nat) (fs : List Value) (a b : Nat) : Option iv_H := match iv_ak h a with
  | none => none
  | some q => match iv_ak h b with
    | none => none
    | some u => if q.2 = 340 ∧ u.2 = 2720 ∧ iv_is q.1 .int = true ∧ iv_is u.1 .int = true then some ((h.set b (.inr (u.1, 2720, .inr (.inr (.inl (fun _ => 0)))))).set k (.inl (10, fs.set 2 (.int 1)))) else none
def iv_sum1 (h : iv_H) (k : Nat) (fs : List Value) : Option iv_H := match fs[0]? with
  | some (Value.ref a) => match fs[1]? with
    | some (Value.ref b) => match fs[2]? with
      | some (Value.int x) => if x = 0 then iv_sum2 h k fs a b else none
      | _ => none
    | _ => none
  | _ => none
def iv_sum (mj : Nat) (vs : List Value) (h : iv_H) : Option iv_H := if mj = 132 then match vs with
  | [Value.ref k] => match h[k]? with
    | some (.inl o) => if o.1 = 10 then iv_sum1 h k o.2 else none
    | _ => none
  | _ => none
  else none
theorem iv_sum_s {mj : Nat} {vs : List Value} {h h1 : iv_H} (e : iv_sum mj vs h = some h1) : mj = 132 ∧ ∃ (k a b : Nat) (fs : List Value) (q u : Nat × Nat), vs = [.ref k] ∧ h[k]? = some (.inl (10, fs)) ∧ fs[0]? = some (.ref a) ∧ fs[1]? = some (.ref b) ∧ fs[2]? = some (.int 0) ∧ iv_ak h a = some q ∧ iv_ak h b = some u ∧ q.2 = 340 ∧ u.2 = 2720 ∧ iv_ty[q.1]? = some .int ∧ iv_ty[u.1]? = some .int ∧ h1 = (h.set b (.inr (u.1, 2720, .inr (.inr (.inl (fun _ => 0)))))).set k (.inl (10, fs.set 2 (.int 1))) := by
  unfold iv_sum at e
  split at e
  · rename_i hm
    split at e
    · rename_i k
      split at e
      · rename_i o ho
        split at e
        · rename_i h10
          obtain ⟨c, fs⟩ := o
          dsimp only at h10 e
          subst h10
          unfold iv_sum1 at e
          split at e
          · rename_i a ha
            split at e
            · rename_i b hb
              split at e
              · rename_i x hx
                split at e
                · rename_i hx0
                  subst hx0
                  unfold iv_sum2 at e
                  split at e
                  · cases e
                  · rename_i q hq
                    split at e
                    · cases e
                    · rename_i u hu
                      split at e
                      · rename_i hc
                        exact ⟨hm, k, a, b, fs, q, u, rfl, ho, ha, hb, hx, hq, hu, hc.1, hc.2.1, of_decide_eq_true hc.2.2.1, of_decide_eq_true hc.2.2.2, (Option.some.inj e).symm⟩
                      · cases e
                · cases e
              · cases e
            · cases e
          · cases e
        · cases e
      · cases e
    · cases e
  · cases e
def iv_xr : Nat → Option (Nat × Int32) → Nat → Nat → iv_V → iv_S → Option (List (iv_V × Option Value × iv_H))
  | 0, _, _, _, _, _ => none
  | n + 1, scr, d, mi, V, S => match iv_cd mi S.1 with
    | none => none
    | some op => if iv_isr op = true then (iv_re mi op S.2.2.1).map fun v => [(V, v, S.2.2.2)]
      else match iv_ca mi op S.2.2.1 S.2.2.2 with
        | some c => match d with
          | 0 => none
          | d' + 1 => match iv_sum c.1 c.2.1 S.2.2.2 with
            | some h1 => iv_xr n scr (d' + 1) mi V (S.1 + 3, S.2.1, c.2.2, h1)
            | none => match iv_xr n none d' c.1 V (0, iv_en c.1 c.2.1, [], S.2.2.2) with
              | none => none
              | some l => iv_bd (fun q => iv_xr n scr (d' + 1) mi q.1 (S.1 + 3, S.2.1, q.2.1.toList ++ c.2.2, q.2.2)) l
        | none => if iv_cm0 mi op = false then none else match iv_x scr V mi S.1 op S.2.1 S.2.2.1 S.2.2.2 with
          | none => none
          | some l => iv_bd (fun o => match iv_ef S.2.2.2 o.2.2.2.2 with
            | none => none
            | some h' => iv_xr n scr d mi o.1 (o.2.1, o.2.2.1, o.2.2.2.1, h')) l
end
section
/-! WHERE NO UNKNOWN IS ASKED, THE TWO RUNS GO ALIKE -/
theorem iv_γ_cat {ρ : Nat → Int32} {a c : Value} (h : iv_γ ρ a c) : c.category = a.category := by
  cases a with
  | float b => obtain ⟨x, rfl, -⟩ := h; rfl
  | double b => have h : c = _ := h; subst h; rfl
  | _ => have h : c = _ := h; subst h; rfl
theorem iv_γs_c {ρ : Nat → Int32} {a : Value} {r st : List Value} (h : iv_γs ρ (a :: r) st) : ∃ c r', st = c :: r' ∧ iv_γ ρ a c ∧ iv_γs ρ r r' := by
  cases st with
  | nil => exact absurd h (fun q => q)
  | cons c r' => exact ⟨c, r', rfl, h.1, h.2⟩
theorem iv_γs_n {ρ : Nat → Int32} {st : List Value} (h : iv_γs ρ [] st) : st = [] := by
  cases st with
  | nil => rfl
  | cons c r' => exact absurd h (fun q => q)
theorem iv_γs_i {ρ : Nat → Int32} {x : Int32} {r st : List Value} (h : iv_γs ρ (.int x :: r) st) : ∃ r', st = .int x :: r' ∧ iv_γs ρ r r' := by
  obtain ⟨c, r', rfl, h1, h2⟩ := iv_γs_c h
  have h1 : c = _ := h1
  subst h1
  exact ⟨r', rfl, h2⟩
theorem iv_γs_j {ρ : Nat → Int32} {x : Int64} {r st : List Value} (h : iv_γs ρ (.long x :: r) st) : ∃ r', st = .long x :: r' ∧ iv_γs ρ r r' := by
  obtain ⟨c, r', rfl, h1, h2⟩ := iv_γs_c h
  have h1 : c = _ := h1
  subst h1
  exact ⟨r', rfl, h2⟩
theorem iv_γs_r {ρ : Nat → Int32} {x : Nat} {r st : List Value} (h : iv_γs ρ (.ref x :: r) st) : ∃ r', st = .ref x :: r' ∧ iv_γs ρ r r' := by
  obtain ⟨c, r', rfl, h1, h2⟩ := iv_γs_c h
  have h1 : c = _ := h1
  subst h1
  exact ⟨r', rfl, h2⟩
theorem iv_γs_q {ρ : Nat → Int32} {x : Nat} {r st : List Value} (h : iv_γs ρ (.retAddr x :: r) st) : ∃ r', st = .retAddr x :: r' ∧ iv_γs ρ r r' := by
  obtain ⟨c, r', rfl, h1, h2⟩ := iv_γs_c h
  have h1 : c = _ := h1
  subst h1
  exact ⟨r', rfl, h2⟩
theorem iv_γl_get {ρ : Nat → Int32} {al bl : iv_L} (h : iv_γl ρ al bl) {i : Nat} {v : Value} (hi : al[i]? = some (some v)) : ∃ c, bl[i]? = some (some c) ∧ iv_γ ρ v c := by
  have hl : i < bl.length := by rw [← h.1]; exact (List.getElem?_eq_some_iff.mp hi).1
  obtain ⟨b, hb⟩ : ∃ b, bl[i]? = some b := ⟨bl[i], List.getElem?_eq_getElem hl⟩
  have g := h.2 i _ b hi hb
  cases b with
  | none => exact absurd g (fun q => q)
  | some c => exact ⟨c, hb, g⟩
theorem iv_γl_set {ρ : Nat → Int32} {al bl : iv_L} (h : iv_γl ρ al bl) (i : Nat) {a b : Option Value} (g : iv_γo ρ a b) : iv_γl ρ (al.set i a) (bl.set i b) := by
  refine ⟨by rw [List.length_set, List.length_set]; exact h.1, fun j x y hx hy => ?_⟩
  rw [List.getElem?_set] at hx hy
  by_cases e : i = j
  · rw [if_pos e] at hx hy
    subst e
    split at hx
    · split at hy
      · cases hx; cases hy; exact g
      · cases hy
    · cases hx
  · rw [if_neg e] at hx hy
    exact h.2 j x y hx hy
theorem iv_γl_k {ρ : Nat → Int32} {al bl : iv_L} (h : iv_γl ρ al bl) (i : Nat) : iv_γl ρ (iv_k al i) (iv_k bl i) := by
  cases i with
  | zero => exact h
  | succ j =>
    show iv_γl ρ (match al[j]? with
      | some (some w) => if w.category = 2 then al.set j none else al
      | _ => al) (match bl[j]? with
      | some (some w) => if w.category = 2 then bl.set j none else bl
      | _ => bl)
    cases ha : al[j]? with
    | none =>
      have hb : bl[j]? = none := by
        rw [List.getElem?_eq_none_iff] at ha ⊢
        rw [← h.1]; exact ha
      rw [hb]
      exact h
    | some a =>
      have hl : j < bl.length := by rw [← h.1]; exact (List.getElem?_eq_some_iff.mp ha).1
      have hb : bl[j]? = some bl[j] := List.getElem?_eq_getElem hl
      have g := h.2 j a _ ha hb
      rw [hb]
      generalize bl[j] = b at g
      cases a with
      | none =>
        cases b with
        | none => exact h
        | some c => exact absurd g (fun q => q)
      | some v =>
        cases b with
        | none => exact absurd g (fun q => q)
        | some c =>
          dsimp only
          rw [iv_γ_cat g]
          split
          · exact iv_γl_set h j (show iv_γo ρ none none from trivial)
          · exact h
theorem iv_γl_s1 {ρ : Nat → Int32} {al bl : iv_L} (h : iv_γl ρ al bl) (i : Nat) {v c : Value} (g : iv_γ ρ v c) : iv_γl ρ (iv_s1 al i v) (iv_s1 bl i c) := iv_γl_set (iv_γl_k h i) i (show iv_γo ρ (some v) (some c) from g)
theorem iv_γl_s2 {ρ : Nat → Int32} {al bl : iv_L} (h : iv_γl ρ al bl) (i : Nat) {v c : Value} (g : iv_γ ρ v c) : iv_γl ρ (iv_s2 al i v) (iv_s2 bl i c) := iv_γl_set (iv_γl_set (iv_γl_k h i) (i + 1) (show iv_γo ρ none none from trivial)) i (show iv_γo ρ (some v) (some c) from g)
theorem iv_γh_o {h k : iv_H} (g : iv_γh h k) {i : Nat} {o : Nat × List Value} (e : h[i]? = some (.inl o)) : k[i]? = some (.inl o) := by
  obtain ⟨c, h1, h2⟩ := g.2 i _ e
  rcases h2 with ⟨-, rfl⟩ | ⟨t, n, f, q, h2, -⟩
  · exact h1
  · cases h2
theorem iv_γh_i {h k : iv_H} (g : iv_γh h k) {i t n : Nat} {f : Nat → Int32} (e : h[i]? = some (.inr (t, n, .inl f))) : k[i]? = some (.inr (t, n, .inl f)) := by
  obtain ⟨c, h1, h2⟩ := g.2 i _ e
  rcases h2 with ⟨-, rfl⟩ | ⟨t, n, f, q, h2, -⟩
  · exact h1
  · cases h2
theorem iv_γh_j {h k : iv_H} (g : iv_γh h k) {i t n : Nat} {f : Nat → Int64} (e : h[i]? = some (.inr (t, n, .inr (.inl f)))) : k[i]? = some (.inr (t, n, .inr (.inl f))) := by
  obtain ⟨c, h1, h2⟩ := g.2 i _ e
  rcases h2 with ⟨-, rfl⟩ | ⟨t, n, f, q, h2, -⟩
  · exact h1
  · cases h2
theorem iv_γh_q {h k : iv_H} (g : iv_γh h k) {i t n : Nat} {f : Nat → Option Nat} (e : h[i]? = some (.inr (t, n, .inr (.inr (.inr (.inr f)))))) : k[i]? = some (.inr (t, n, .inr (.inr (.inr (.inr f))))) := by
  obtain ⟨c, h1, h2⟩ := g.2 i _ e
  rcases h2 with ⟨-, rfl⟩ | ⟨t, n, f, q, h2, -⟩
  · exact h1
  · cases h2
theorem iv_γs_cats {ρ : Nat → Int32} : ∀ {a b : List Value}, iv_γs ρ a b → (b.map fun v => v.category) = a.map fun v => v.category
  | [], [], _ => rfl
  | a :: as, c :: cs, h => by rw [List.map_cons, List.map_cons, iv_γ_cat h.1, iv_γs_cats h.2]
  | [], _ :: _, h => absurd h (fun q => q)
  | _ :: _, [], h => absurd h (fun q => q)
theorem iv_br_m {b : Bool} {pc : Nat} {off : Int} {al al' : iv_L} {r r' : List Value} {o : iv_O} (e : iv_br b pc off al r = some o) : ∃ p, o = (p, al, r, none) ∧ iv_br b pc off al' r' = some (p, al', r', none) := by
  obtain ⟨t, h1, e1⟩ := Option.bind_eq_some_iff.mp e
  unfold iv_br
  rw [h1]
  cases b with
  | true => cases e1; exact ⟨t, rfl, rfl⟩
  | false => cases e1; exact ⟨pc + 3, rfl, rfl⟩
theorem iv_jp_m {pc : Nat} {off : Int} {al al' : iv_L} {r r' : List Value} {o : iv_O} (e : iv_jp pc off al r = some o) : ∃ p, o = (p, al, r, none) ∧ iv_jp pc off al' r' = some (p, al', r', none) := by
  obtain ⟨t, h1, e1⟩ := Option.bind_eq_some_iff.mp e
  unfold iv_jp
  rw [h1]
  cases e1
  exact ⟨t, rfl, rfl⟩
theorem iv_c1_m {ρ : Nat → Int32} {pc : Nat} {off : Int} {al al' : iv_L} {st st' : List Value} {f : Int32 → Bool} {o : iv_O} (e : iv_c1 pc off al st f = some o) (gl : iv_γl ρ al al') (gs : iv_γs ρ st st') : ∃ o', iv_c1 pc off al' st' f = some o' ∧ o'.1 = o.1 ∧ iv_γl ρ o.2.1 o'.2.1 ∧ iv_γs ρ o.2.2.1 o'.2.2.1 ∧ o'.2.2.2 = o.2.2.2 := by
  obtain ⟨x, r, rfl, e1⟩ := iv_i_s e
  obtain ⟨r', rfl, gs1⟩ := iv_γs_i gs
  obtain ⟨p, rfl, e2⟩ := iv_br_m (al' := al') (r' := r') e1
  exact ⟨_, e2, rfl, gl, gs1, rfl⟩
theorem iv_c2_m {ρ : Nat → Int32} {pc : Nat} {off : Int} {al al' : iv_L} {st st' : List Value} {f : Int32 → Int32 → Bool} {o : iv_O} (e : iv_c2 pc off al st f = some o) (gl : iv_γl ρ al al') (gs : iv_γs ρ st st') : ∃ o', iv_c2 pc off al' st' f = some o' ∧ o'.1 = o.1 ∧ iv_γl ρ o.2.1 o'.2.1 ∧ iv_γs ρ o.2.2.1 o'.2.2.1 ∧ o'.2.2.2 = o.2.2.2 := by
  obtain ⟨y, r1, rfl, e1⟩ := iv_i_s e
  obtain ⟨x, r, rfl, e2⟩ := iv_i_s e1
  obtain ⟨r1', rfl, gs1⟩ := iv_γs_i gs
  obtain ⟨r', rfl, gs2⟩ := iv_γs_i gs1
  obtain ⟨p, rfl, e3⟩ := iv_br_m (al' := al') (r' := r') e2
  exact ⟨_, e3, rfl, gl, gs2, rfl⟩
theorem iv_sl_m {mi i w : Nat} {S S' T : iv_O} (e : iv_sl mi i w S = some S') : iv_sl mi i w T = some T := by
  obtain ⟨h, -⟩ := iv_sl_s e
  unfold iv_sl
  rw [if_pos h]
theorem iv_ald_m {ρ : Nat → Int32} {ty : FieldType} {pc : Nat} {al al' : iv_L} {st st' : List Value} {h h' : iv_H} {o : iv_O} (e : iv_ald ty pc al st h = some o) (gl : iv_γl ρ al al') (gs : iv_γs ρ st st') (gh : iv_γh h h') : ∃ o', iv_ald ty pc al' st' h' = some o' ∧ o'.1 = o.1 ∧ iv_γl ρ o.2.1 o'.2.1 ∧ iv_γs ρ o.2.2.1 o'.2.2.1 ∧ o'.2.2.2 = o.2.2.2 := by
  obtain ⟨i, r1, rfl, e1⟩ := iv_i_s e
  obtain ⟨k, r, rfl, e2⟩ := iv_r_s e1
  obtain ⟨q, e3, e4⟩ := Option.bind_eq_some_iff.mp e2
  obtain ⟨r1', rfl, gs1⟩ := iv_γs_i gs
  obtain ⟨r', rfl, gs2⟩ := iv_γs_r gs1
  split at e4
  · rename_i hc
    obtain rfl := iv_pi_s e4
    have f1 : iv_ai h' k = some q := by unfold iv_ai; rw [iv_γh_i gh (iv_ai_s e3)]
    refine ⟨(pc + 1, al', .int (q.2.2 i.toNatClampNeg) :: r', none), ?_, rfl, gl, ⟨rfl, gs2⟩, rfl⟩
    show (iv_ai h' k).bind _ = _
    rw [f1]
    show (if _ then _ else _) = _
    rw [if_pos hc]
    rfl
  · cases e4
theorem iv_ast_m {ρ : Nat → Int32} {ty : FieldType} {pc : Nat} {al al' : iv_L} {st st' : List Value} {h h' : iv_H} {o : iv_O} (e : iv_ast ty pc al st h = some o) (gl : iv_γl ρ al al') (gs : iv_γs ρ st st') (gh : iv_γh h h') : ∃ o', iv_ast ty pc al' st' h' = some o' ∧ o'.1 = o.1 ∧ iv_γl ρ o.2.1 o'.2.1 ∧ iv_γs ρ o.2.2.1 o'.2.2.1 ∧ o'.2.2.2 = o.2.2.2 := by
  obtain ⟨x, r2, rfl, e0⟩ := iv_i_s e
  obtain ⟨i, r1, rfl, e1⟩ := iv_i_s e0
  obtain ⟨k, r, rfl, e2⟩ := iv_r_s e1
  obtain ⟨q, e3, e4⟩ := Option.bind_eq_some_iff.mp e2
  obtain ⟨r2', rfl, gs0⟩ := iv_γs_i gs
  obtain ⟨r1', rfl, gs1⟩ := iv_γs_i gs0
  obtain ⟨r', rfl, gs2⟩ := iv_γs_r gs1
  split at e4
  · rename_i hc
    cases e4
    have f1 : iv_ai h' k = some q := by unfold iv_ai; rw [iv_γh_i gh (iv_ai_s e3)]
    refine ⟨(pc + 1, al', r', some (some k, .inr (q.1, q.2.1, .inl (upd q.2.2 i.toNatClampNeg (vp_nar ty x))))), ?_, rfl, gl, gs2, rfl⟩
    show (iv_ai h' k).bind _ = _
    rw [f1]
    show (if _ then _ else _) = _
    rw [if_pos hc]
  · cases e4
/-- a byte or a boolean array, not both: the first that fits -/
theorem iv_ald_bz {pc : Nat} {al : iv_L} {st : List Value} {h : iv_H} {o : iv_O} (e : iv_ald .boolean pc al st h = some o) : iv_ald .byte pc al st h = none := by
  obtain ⟨i, k, r, t, n, f, rfl, f1, f2, f3, rfl⟩ := iv_ald_s e
  cases q : iv_ald .byte pc al (.int i :: .ref k :: r) h with
  | none => rfl
  | some o2 =>
    obtain ⟨i2, k2, r2, t2, n2, f2', e1, g1, g2, g3, -⟩ := iv_ald_s q
    cases e1
    rw [f1] at g1
    cases g1
    rw [f3] at g3
    cases g3
theorem iv_ast_bz {pc : Nat} {al : iv_L} {st : List Value} {h : iv_H} {o : iv_O} (e : iv_ast .boolean pc al st h = some o) : iv_ast .byte pc al st h = none := by
  obtain ⟨x, i, k, r, t, n, f, rfl, f1, f2, f3, rfl⟩ := iv_ast_s e
  cases q : iv_ast .byte pc al (.int x :: .int i :: .ref k :: r) h with
  | none => rfl
  | some o2 =>
    obtain ⟨x2, i2, k2, r2, t2, n2, f2', e1, g1, g2, g3, -⟩ := iv_ast_s q
    cases e1
    rw [f1] at g1
    cases g1
    rw [f3] at g3
    cases g3
theorem iv_γ_fv {ρ : Nat → Int32} {v : Value} (h : iv_fv v = true) : iv_γ ρ v v := by cases v <;> first | rfl | cases h
theorem iv_γ_ok {ρ : Nat → Int32} {ty : FieldType} {v c : Value} (h : iv_ok ty v = true) (g : iv_γ ρ v c) : c = v := by
  cases v with
  | float b => cases ty <;> cases h
  | double b => cases ty <;> cases h
  | _ => exact g
theorem iv_ok_fv {ty : FieldType} {v : Value} (h : iv_ok ty v = true) : iv_fv v = true := by
  cases v with
  | float b => cases ty <;> cases h
  | double b => cases ty <;> cases h
  | _ => rfl
def iv_hf (h : iv_H) : Prop := ∀ (k : Nat) (o : Nat × List Value), h[k]? = some (.inl o) → ∀ v ∈ o.2, iv_fv v = true
set_option maxHeartbeats 4000000 in
set_option maxRecDepth 20000 in
theorem iv_cm {ρ : Nat → Int32} {z : iv_Z} {mi pc : Nat} {op : Jvm.ClassFile.Instr} {al al' : iv_L} {st st' : List Value} {h h' : iv_H} {o : iv_O} (hop : iv_op none mi pc op al st h = some o) (gl : iv_γl ρ al al') (gs : iv_γs ρ st st') (gh : iv_γh h h') (hf : iv_hf h) :
    ∃ o', iv_op z mi pc op al' st' h' = some o' ∧ o'.1 = o.1 ∧ iv_γl ρ o.2.1 o'.2.1 ∧ iv_γs ρ o.2.2.1 o'.2.2.1 ∧ o'.2.2.2 = o.2.2.2 := by
  cases op with
  | iconst n =>
    obtain rfl := iv_pi_s hop
    exact ⟨_, rfl, rfl, gl, ⟨rfl, gs⟩, rfl⟩
  | bipush n =>
    obtain rfl := iv_pi_s hop
    exact ⟨_, rfl, rfl, gl, ⟨rfl, gs⟩, rfl⟩
  | sipush n =>
    obtain rfl := iv_pi_s hop
    exact ⟨_, rfl, rfl, gl, ⟨rfl, gs⟩, rfl⟩
  | lconst n =>
    obtain rfl := iv_pj_s hop
    exact ⟨_, rfl, rfl, gl, ⟨rfl, gs⟩, rfl⟩
  | ldc idx =>
    obtain ⟨x, e1, e2⟩ := Option.bind_eq_some_iff.mp hop
    obtain rfl := iv_pi_s e2
    refine ⟨(pc + 2, al', .int x :: st', none), ?_, rfl, gl, ⟨rfl, gs⟩, rfl⟩
    show (iv_lc (iv_kf mi) idx).bind _ = _
    rw [e1]
    rfl
  | ldc2_w idx =>
    obtain ⟨x, e1, e2⟩ := Option.bind_eq_some_iff.mp hop
    obtain rfl := iv_pj_s e2
    refine ⟨(pc + 3, al', .long x :: st', none), ?_, rfl, gl, ⟨rfl, gs⟩, rfl⟩
    show (iv_l2 (iv_kf mi) idx).bind _ = _
    rw [e1]
    rfl
  | iload_n k =>
    obtain ⟨x, e1, e2⟩ := iv_li_s hop
    obtain rfl := iv_pi_s e2
    obtain ⟨c, b1, b2⟩ := iv_γl_get gl e1
    have b2 : c = _ := b2
    subst b2
    refine ⟨(pc + 1, al', .int x :: st', none), ?_, rfl, gl, ⟨rfl, gs⟩, rfl⟩
    show iv_li al' (k : Nat) _ = _
    unfold iv_li
    rw [b1]
    rfl
  | iload k =>
    obtain ⟨x, e1, e2⟩ := iv_li_s hop
    obtain rfl := iv_pi_s e2
    obtain ⟨c, b1, b2⟩ := iv_γl_get gl e1
    have b2 : c = _ := b2
    subst b2
    refine ⟨(pc + 2, al', .int x :: st', none), ?_, rfl, gl, ⟨rfl, gs⟩, rfl⟩
    show iv_li al' k _ = _
    unfold iv_li
    rw [b1]
    rfl
  | lload_n k =>
    obtain ⟨x, e1, e2⟩ := iv_lj_s hop
    obtain rfl := iv_pj_s e2
    obtain ⟨c, b1, b2⟩ := iv_γl_get gl e1
    have b2 : c = _ := b2
    subst b2
    refine ⟨(pc + 1, al', .long x :: st', none), ?_, rfl, gl, ⟨rfl, gs⟩, rfl⟩
    show iv_lj al' (k : Nat) _ = _
    unfold iv_lj
    rw [b1]
    rfl
  | lload k =>
    obtain ⟨x, e1, e2⟩ := iv_lj_s hop
    obtain rfl := iv_pj_s e2
    obtain ⟨c, b1, b2⟩ := iv_γl_get gl e1
    have b2 : c = _ := b2
    subst b2
    refine ⟨(pc + 2, al', .long x :: st', none), ?_, rfl, gl, ⟨rfl, gs⟩, rfl⟩
    show iv_lj al' k _ = _
    unfold iv_lj
    rw [b1]
    rfl
  | aload_n k =>
    have hop : iv_la al (k : Nat) (fun x => some (pc + 1, al, x :: st, none)) = some o := hop
    obtain ⟨v, e1, hv, e2⟩ := iv_la_s hop
    cases e2
    obtain ⟨c, b1, b2⟩ := iv_γl_get gl e1
    have b2 : c = v := by rcases hv with ⟨k2, rfl⟩ | ⟨k2, rfl⟩ <;> exact b2
    subst b2
    refine ⟨(pc + 1, al', c :: st', none), ?_, rfl, gl, ⟨by rcases hv with ⟨k2, rfl⟩ | ⟨k2, rfl⟩ <;> rfl, gs⟩, rfl⟩
    show iv_la al' (k : Nat) (fun x => some (pc + 1, al', x :: st', none)) = _
    unfold iv_la
    rw [b1]
    rcases hv with ⟨k2, rfl⟩ | ⟨k2, rfl⟩ <;> rfl
  | aload k =>
    have hop : iv_la al k (fun x => some (pc + 2, al, x :: st, none)) = some o := hop
    obtain ⟨v, e1, hv, e2⟩ := iv_la_s hop
    cases e2
    obtain ⟨c, b1, b2⟩ := iv_γl_get gl e1
    have b2 : c = v := by rcases hv with ⟨k2, rfl⟩ | ⟨k2, rfl⟩ <;> exact b2
    subst b2
    refine ⟨(pc + 2, al', c :: st', none), ?_, rfl, gl, ⟨by rcases hv with ⟨k2, rfl⟩ | ⟨k2, rfl⟩ <;> rfl, gs⟩, rfl⟩
    show iv_la al' k (fun x => some (pc + 2, al', x :: st', none)) = _
    unfold iv_la
    rw [b1]
    rcases hv with ⟨k2, rfl⟩ | ⟨k2, rfl⟩ <;> rfl
  | istore_n k =>
    obtain ⟨x, r, rfl, e1⟩ := iv_i_s hop
    obtain ⟨r', rfl, gs1⟩ := iv_γs_i gs
    obtain ⟨hn, rfl⟩ := iv_sl_s e1
    exact ⟨_, iv_sl_m e1, rfl, iv_γl_s1 gl _ (show iv_γ ρ (.int x) (.int x) from rfl), gs1, rfl⟩
  | istore k =>
    obtain ⟨x, r, rfl, e1⟩ := iv_i_s hop
    obtain ⟨r', rfl, gs1⟩ := iv_γs_i gs
    obtain ⟨hn, rfl⟩ := iv_sl_s e1
    exact ⟨_, iv_sl_m e1, rfl, iv_γl_s1 gl _ (show iv_γ ρ (.int x) (.int x) from rfl), gs1, rfl⟩
  | lstore_n k =>
    obtain ⟨x, r, rfl, e1⟩ := iv_j_s hop
    obtain ⟨r', rfl, gs1⟩ := iv_γs_j gs
    obtain ⟨hn, rfl⟩ := iv_sl_s e1
    exact ⟨_, iv_sl_m e1, rfl, iv_γl_s2 gl _ (show iv_γ ρ (.long x) (.long x) from rfl), gs1, rfl⟩
  | lstore k =>
    obtain ⟨x, r, rfl, e1⟩ := iv_j_s hop
    obtain ⟨r', rfl, gs1⟩ := iv_γs_j gs
    obtain ⟨hn, rfl⟩ := iv_sl_s e1
    exact ⟨_, iv_sl_m e1, rfl, iv_γl_s2 gl _ (show iv_γ ρ (.long x) (.long x) from rfl), gs1, rfl⟩
  | astore_n k =>
    obtain ⟨x, r, rfl, e1⟩ := iv_r_s hop
    obtain ⟨r', rfl, gs1⟩ := iv_γs_r gs
    obtain ⟨hn, rfl⟩ := iv_sl_s e1
    exact ⟨_, iv_sl_m e1, rfl, iv_γl_s1 gl _ (show iv_γ ρ (.ref x) (.ref x) from rfl), gs1, rfl⟩
  | astore k =>
    obtain ⟨x, r, rfl, e1⟩ := iv_r_s hop
    obtain ⟨r', rfl, gs1⟩ := iv_γs_r gs
    obtain ⟨hn, rfl⟩ := iv_sl_s e1
    exact ⟨_, iv_sl_m e1, rfl, iv_γl_s1 gl _ (show iv_γ ρ (.ref x) (.ref x) from rfl), gs1, rfl⟩
  | iinc i n =>
    obtain ⟨x, e1, e2⟩ := iv_li_s hop
    obtain ⟨hn, rfl⟩ := iv_sl_s e2
    obtain ⟨c, b1, b2⟩ := iv_γl_get gl e1
    have b2 : c = _ := b2
    subst b2
    refine ⟨(pc + 3, iv_s1 al' i (.int (x + Int32.ofInt n)), st', none), ?_, rfl, iv_γl_s1 gl i (show iv_γ ρ (.int _) (.int _) from rfl), gs, rfl⟩
    show iv_li al' i _ = _
    unfold iv_li
    rw [b1]
    exact iv_sl_m e2
  | iadd =>
    obtain ⟨x, y, r, rfl, rfl⟩ := iv_ii_s hop
    obtain ⟨r1, rfl, gs1⟩ := iv_γs_i gs
    obtain ⟨r2, rfl, gs2⟩ := iv_γs_i gs1
    exact ⟨_, rfl, rfl, gl, ⟨rfl, gs2⟩, rfl⟩
  | isub =>
    obtain ⟨x, y, r, rfl, rfl⟩ := iv_ii_s hop
    obtain ⟨r1, rfl, gs1⟩ := iv_γs_i gs
    obtain ⟨r2, rfl, gs2⟩ := iv_γs_i gs1
    exact ⟨_, rfl, rfl, gl, ⟨rfl, gs2⟩, rfl⟩
  | imul =>
    obtain ⟨x, y, r, rfl, rfl⟩ := iv_ii_s hop
    obtain ⟨r1, rfl, gs1⟩ := iv_γs_i gs
    obtain ⟨r2, rfl, gs2⟩ := iv_γs_i gs1
    exact ⟨_, rfl, rfl, gl, ⟨rfl, gs2⟩, rfl⟩
  | iand =>
    obtain ⟨x, y, r, rfl, rfl⟩ := iv_ii_s hop
    obtain ⟨r1, rfl, gs1⟩ := iv_γs_i gs
    obtain ⟨r2, rfl, gs2⟩ := iv_γs_i gs1
    exact ⟨_, rfl, rfl, gl, ⟨rfl, gs2⟩, rfl⟩
  | ior =>
    obtain ⟨x, y, r, rfl, rfl⟩ := iv_ii_s hop
    obtain ⟨r1, rfl, gs1⟩ := iv_γs_i gs
    obtain ⟨r2, rfl, gs2⟩ := iv_γs_i gs1
    exact ⟨_, rfl, rfl, gl, ⟨rfl, gs2⟩, rfl⟩
  | ixor =>
    obtain ⟨x, y, r, rfl, rfl⟩ := iv_ii_s hop
    obtain ⟨r1, rfl, gs1⟩ := iv_γs_i gs
    obtain ⟨r2, rfl, gs2⟩ := iv_γs_i gs1
    exact ⟨_, rfl, rfl, gl, ⟨rfl, gs2⟩, rfl⟩
  | ishl =>
    obtain ⟨x, y, r, rfl, rfl⟩ := iv_ii_s hop
    obtain ⟨r1, rfl, gs1⟩ := iv_γs_i gs
    obtain ⟨r2, rfl, gs2⟩ := iv_γs_i gs1
    exact ⟨_, rfl, rfl, gl, ⟨rfl, gs2⟩, rfl⟩
  | ishr =>
    obtain ⟨x, y, r, rfl, rfl⟩ := iv_ii_s hop
    obtain ⟨r1, rfl, gs1⟩ := iv_γs_i gs
    obtain ⟨r2, rfl, gs2⟩ := iv_γs_i gs1
    exact ⟨_, rfl, rfl, gl, ⟨rfl, gs2⟩, rfl⟩
  | iushr =>
    obtain ⟨x, y, r, rfl, rfl⟩ := iv_ii_s hop
    obtain ⟨r1, rfl, gs1⟩ := iv_γs_i gs
    obtain ⟨r2, rfl, gs2⟩ := iv_γs_i gs1
    exact ⟨_, rfl, rfl, gl, ⟨rfl, gs2⟩, rfl⟩
  | ladd =>
    obtain ⟨x, y, r, rfl, rfl⟩ := iv_jj_s hop
    obtain ⟨r1, rfl, gs1⟩ := iv_γs_j gs
    obtain ⟨r2, rfl, gs2⟩ := iv_γs_j gs1
    exact ⟨_, rfl, rfl, gl, ⟨rfl, gs2⟩, rfl⟩
  | lsub =>
    obtain ⟨x, y, r, rfl, rfl⟩ := iv_jj_s hop
    obtain ⟨r1, rfl, gs1⟩ := iv_γs_j gs
    obtain ⟨r2, rfl, gs2⟩ := iv_γs_j gs1
    exact ⟨_, rfl, rfl, gl, ⟨rfl, gs2⟩, rfl⟩
  | lmul =>
    obtain ⟨x, y, r, rfl, rfl⟩ := iv_jj_s hop
    obtain ⟨r1, rfl, gs1⟩ := iv_γs_j gs
    obtain ⟨r2, rfl, gs2⟩ := iv_γs_j gs1
    exact ⟨_, rfl, rfl, gl, ⟨rfl, gs2⟩, rfl⟩
  | idiv =>
    obtain ⟨y, r1, rfl, e1⟩ := iv_i_s hop
    obtain ⟨x, r, rfl, e2⟩ := iv_i_s e1
    obtain ⟨r1', rfl, gs1⟩ := iv_γs_i gs
    obtain ⟨r2, rfl, gs2⟩ := iv_γs_i gs1
    split at e2
    · cases e2
    · rename_i hne
      obtain rfl := iv_pi_s e2
      refine ⟨(pc + 1, al', .int (x / y) :: r2, none), ?_, rfl, gl, ⟨rfl, gs2⟩, rfl⟩
      show (if y = 0 then none else _) = _
      rw [if_neg hne]
      rfl
  | irem =>
    obtain ⟨y, r1, rfl, e1⟩ := iv_i_s hop
    obtain ⟨x, r, rfl, e2⟩ := iv_i_s e1
    obtain ⟨r1', rfl, gs1⟩ := iv_γs_i gs
    obtain ⟨r2, rfl, gs2⟩ := iv_γs_i gs1
    split at e2
    · cases e2
    · rename_i hne
      obtain rfl := iv_pi_s e2
      refine ⟨(pc + 1, al', .int (x - x / y * y) :: r2, none), ?_, rfl, gl, ⟨rfl, gs2⟩, rfl⟩
      show (if y = 0 then none else _) = _
      rw [if_neg hne]
      rfl
  | ldiv =>
    obtain ⟨y, r1, rfl, e1⟩ := iv_j_s hop
    obtain ⟨x, r, rfl, e2⟩ := iv_j_s e1
    obtain ⟨r1', rfl, gs1⟩ := iv_γs_j gs
    obtain ⟨r2, rfl, gs2⟩ := iv_γs_j gs1
    split at e2
    · cases e2
    · rename_i hne
      obtain rfl := iv_pj_s e2
      refine ⟨(pc + 1, al', .long (x / y) :: r2, none), ?_, rfl, gl, ⟨rfl, gs2⟩, rfl⟩
      show (if y = 0 then none else _) = _
      rw [if_neg hne]
      rfl
  | lrem =>
    obtain ⟨y, r1, rfl, e1⟩ := iv_j_s hop
    obtain ⟨x, r, rfl, e2⟩ := iv_j_s e1
    obtain ⟨r1', rfl, gs1⟩ := iv_γs_j gs
    obtain ⟨r2, rfl, gs2⟩ := iv_γs_j gs1
    split at e2
    · cases e2
    · rename_i hne
      obtain rfl := iv_pj_s e2
      refine ⟨(pc + 1, al', .long (x - x / y * y) :: r2, none), ?_, rfl, gl, ⟨rfl, gs2⟩, rfl⟩
      show (if y = 0 then none else _) = _
      rw [if_neg hne]
      rfl
  | ineg =>
    obtain ⟨x, r, rfl, e1⟩ := iv_i_s hop
    obtain rfl := iv_pi_s e1
    obtain ⟨r1, rfl, gs1⟩ := iv_γs_i gs
    exact ⟨_, rfl, rfl, gl, ⟨rfl, gs1⟩, rfl⟩
  | lneg =>
    obtain ⟨x, r, rfl, e1⟩ := iv_j_s hop
    obtain rfl := iv_pj_s e1
    obtain ⟨r1, rfl, gs1⟩ := iv_γs_j gs
    exact ⟨_, rfl, rfl, gl, ⟨rfl, gs1⟩, rfl⟩
  | lcmp =>
    obtain ⟨y, r1, rfl, e1⟩ := iv_j_s hop
    obtain ⟨x, r, rfl, e2⟩ := iv_j_s e1
    obtain rfl := iv_pi_s e2
    obtain ⟨r1', rfl, gs1⟩ := iv_γs_j gs
    obtain ⟨r2, rfl, gs2⟩ := iv_γs_j gs1
    exact ⟨_, rfl, rfl, gl, ⟨rfl, gs2⟩, rfl⟩
  | i2l =>
    obtain ⟨x, r, rfl, e1⟩ := iv_i_s hop
    obtain rfl := iv_pj_s e1
    obtain ⟨r1, rfl, gs1⟩ := iv_γs_i gs
    exact ⟨_, rfl, rfl, gl, ⟨rfl, gs1⟩, rfl⟩
  | l2i =>
    obtain ⟨x, r, rfl, e1⟩ := iv_j_s hop
    obtain rfl := iv_pi_s e1
    obtain ⟨r1, rfl, gs1⟩ := iv_γs_j gs
    exact ⟨_, rfl, rfl, gl, ⟨rfl, gs1⟩, rfl⟩
  | i2b =>
    obtain ⟨x, r, rfl, e1⟩ := iv_i_s hop
    obtain rfl := iv_pi_s e1
    obtain ⟨r1, rfl, gs1⟩ := iv_γs_i gs
    exact ⟨_, rfl, rfl, gl, ⟨rfl, gs1⟩, rfl⟩
  | dup =>
    obtain ⟨v, r, rfl, hv, e1⟩ := iv_1_s hop
    cases e1
    obtain ⟨cv, q1, rfl, gv, gs1⟩ := iv_γs_c gs
    refine ⟨(pc + 1, al', cv :: cv :: q1, none), ?_, rfl, gl, ⟨gv, gv, gs1⟩, rfl⟩
    simp only [iv_op, iv_sem, iv_1, iv_γ_cat gv, hv, if_true]
  | pop =>
    obtain ⟨v, r, rfl, hv, e1⟩ := iv_1_s hop
    cases e1
    obtain ⟨cv, q1, rfl, gv, gs1⟩ := iv_γs_c gs
    refine ⟨(pc + 1, al', q1, none), ?_, rfl, gl, gs1, rfl⟩
    simp only [iv_op, iv_sem, iv_1, iv_γ_cat gv, hv, if_true]
  | dup_x1 =>
    obtain ⟨v, r1, rfl, hv, e1⟩ := iv_1_s hop
    obtain ⟨u, r, rfl, hu, e2⟩ := iv_1_s e1
    cases e2
    obtain ⟨cv, q1, rfl, gv, gs1⟩ := iv_γs_c gs
    obtain ⟨cu, q2, rfl, gu, gs2⟩ := iv_γs_c gs1
    refine ⟨(pc + 1, al', cv :: cu :: cv :: q2, none), ?_, rfl, gl, ⟨gv, gu, gv, gs2⟩, rfl⟩
    simp only [iv_op, iv_sem, iv_1, iv_γ_cat gv, hv, iv_γ_cat gu, hu, if_true]
  | dup_x2 =>
    obtain ⟨v, r1, rfl, hv, e1⟩ := iv_1_s hop
    obtain ⟨u, r2, rfl, hu, e2⟩ := iv_1_s e1
    obtain ⟨x, r, rfl, hx, e3⟩ := iv_1_s e2
    cases e3
    obtain ⟨cv, q1, rfl, gv, gs1⟩ := iv_γs_c gs
    obtain ⟨cu, q2, rfl, gu, gs2⟩ := iv_γs_c gs1
    obtain ⟨cx, q3, rfl, gx, gs3⟩ := iv_γs_c gs2
    refine ⟨(pc + 1, al', cv :: cu :: cx :: cv :: q3, none), ?_, rfl, gl, ⟨gv, gu, gx, gv, gs3⟩, rfl⟩
    simp only [iv_op, iv_sem, iv_1, iv_γ_cat gv, hv, iv_γ_cat gu, hu, iv_γ_cat gx, hx, if_true]
  | dup2 =>
    obtain ⟨v, r1, rfl, hv, e1⟩ := iv_1_s hop
    obtain ⟨u, r, rfl, hu, e2⟩ := iv_1_s e1
    cases e2
    obtain ⟨cv, q1, rfl, gv, gs1⟩ := iv_γs_c gs
    obtain ⟨cu, q2, rfl, gu, gs2⟩ := iv_γs_c gs1
    refine ⟨(pc + 1, al', cv :: cu :: cv :: cu :: q2, none), ?_, rfl, gl, ⟨gv, gu, gv, gu, gs2⟩, rfl⟩
    simp only [iv_op, iv_sem, iv_1, iv_γ_cat gv, hv, iv_γ_cat gu, hu, if_true]
  | goto off =>
    obtain ⟨p, rfl, e2⟩ := iv_jp_m (al' := al') (r' := st') hop
    exact ⟨_, e2, rfl, gl, gs, rfl⟩
  | ifCond cc off =>
    cases cc <;> exact iv_c1_m hop gl gs
  | if_icmp cc off =>
    cases cc <;> exact iv_c2_m hop gl gs
  | tableswitch dflt lo hi offs =>
    obtain ⟨x, r, rfl, e1⟩ := iv_i_s hop
    obtain ⟨r1, rfl, gs1⟩ := iv_γs_i gs
    split at e1
    · rename_i hc
      obtain ⟨p, rfl, e2⟩ := iv_jp_m (al' := al') (r' := r1) e1
      refine ⟨(p, al', r1, none), ?_, rfl, gl, gs1, rfl⟩
      show (if _ then _ else _) = _
      rw [if_pos hc]
      exact e2
    · rename_i hc
      obtain ⟨off, h1, e2⟩ := Option.bind_eq_some_iff.mp e1
      obtain ⟨p, rfl, e3⟩ := iv_jp_m (al' := al') (r' := r1) e2
      refine ⟨(p, al', r1, none), ?_, rfl, gl, gs1, rfl⟩
      show (if _ then _ else _) = _
      rw [if_neg hc, h1]
      exact e3
  | getfield idx =>
    obtain ⟨k, r, rfl, e1⟩ := iv_r_s hop
    obtain ⟨v, e2, e3⟩ := Option.bind_eq_some_iff.mp e1
    cases e3
    obtain ⟨r1, rfl, gs1⟩ := iv_γs_r gs
    obtain ⟨ci, j, fs, f1, f2, f3⟩ := iv_gf_s e2
    have f4 : iv_gf mi idx h' k = some v := by unfold iv_gf; rw [f1, iv_γh_o gh f2]; dsimp only; rw [if_pos rfl]; exact f3
    refine ⟨(pc + 3, al', v :: r1, none), ?_, rfl, gl, ⟨iv_γ_fv (hf k _ f2 v (List.mem_of_getElem? f3)), gs1⟩, rfl⟩
    show (iv_gf mi idx h' k).bind _ = _
    rw [f4]
    rfl
  | putfield idx =>
    obtain ⟨v, r1, rfl, e1⟩ := iv_1or2_s hop
    obtain ⟨k, r, rfl, e2⟩ := iv_r_s e1
    obtain ⟨q, e3, e4⟩ := Option.bind_eq_some_iff.mp e2
    cases e4
    obtain ⟨ci, j, fs, f1, f2, f3, f4, f5, rfl⟩ := iv_pf_s e3
    obtain ⟨c, r2, rfl, g1, gs1⟩ := iv_γs_c gs
    have g1 := iv_γ_ok f4 g1
    subst g1
    obtain ⟨r3, rfl, gs2⟩ := iv_γs_r gs1
    have f6 : iv_pf mi idx h' k c = some (some k, .inl (ci, fs.set j c)) := by unfold iv_pf; rw [f1, iv_γh_o gh f2]; dsimp only; rw [if_pos ⟨rfl, f3, f4, f5⟩]
    refine ⟨(pc + 3, al', r3, some (some k, .inl (ci, fs.set j c))), ?_, rfl, gl, gs2, rfl⟩
    show (iv_pf mi idx h' k c).bind _ = _
    rw [f6]
    rfl
  | new idx =>
    obtain ⟨ci, e1, e2⟩ := Option.bind_eq_some_iff.mp hop
    cases e2
    refine ⟨(pc + 3, al', .ref h.length :: st', some (none, .inl (ci, iv_df ci))), ?_, rfl, gl, ⟨rfl, gs⟩, rfl⟩
    show (iv_nc (iv_kf mi) idx).bind _ = _
    rw [e1, gh.1]
    rfl
  | newarray a =>
    obtain ⟨n, r, rfl, e1⟩ := iv_i_s hop
    obtain ⟨r1, rfl, gs1⟩ := iv_γs_i gs
    split at e1
    · rename_i hc
      cases e1
      refine ⟨(pc + 2, al', .ref h.length :: r1, some (none, .inr (iv_tn a, iv_a0 (iv_tn a) n.toNatClampNeg))), ?_, rfl, gl, ⟨rfl, gs1⟩, rfl⟩
      show (if _ then _ else _) = _
      rw [if_pos hc, gh.1]
    · cases e1
  | anewarray idx =>
    obtain ⟨n, r, rfl, e1⟩ := iv_i_s hop
    obtain ⟨r1, rfl, gs1⟩ := iv_γs_i gs
    obtain ⟨t, e2, e3⟩ := Option.bind_eq_some_iff.mp e1
    split at e3
    · rename_i hc
      cases e3
      refine ⟨(pc + 3, al', .ref h.length :: r1, some (none, .inr (t, n.toNatClampNeg, .inr (.inr (.inr (.inr (fun _ => none))))))), ?_, rfl, gl, ⟨rfl, gs1⟩, rfl⟩
      show (iv_ac (iv_kf mi) idx).bind _ = _
      rw [e2]
      show (if _ then _ else _) = _
      rw [if_pos hc, gh.1]
    · cases e3
  | arraylength =>
    rcases iv_alen_s hop with ⟨k, r, a, rfl, f1, ⟨ty, f2⟩, rfl⟩ | ⟨k, r, q, rfl, hz, rfl⟩
    · obtain ⟨r1, rfl, gs1⟩ := iv_γs_r gs
      obtain ⟨c, h1, h2⟩ := gh.2 k _ f1
      refine ⟨(pc + 1, al', .int (Int32.ofNat a.2.1) :: r1, none), ?_, rfl, gl, ⟨rfl, gs1⟩, rfl⟩
      rcases h2 with ⟨-, rfl⟩ | ⟨t, n, f, g, h2, rfl⟩
      · simp only [iv_op, iv_sem, h1, f2, Option.isSome_some, if_true]
        rfl
      · cases h2
        simp only [iv_op, iv_sem, h1, f2, Option.isSome_some, if_true]
        rfl
    · cases hz
  | iaload =>
    rcases iv_iald_s hop with ⟨i, k, r, q, rfl, hz, hin, rfl⟩ | hop2
    · cases hz
    · obtain ⟨o1, a1, a2⟩ := iv_ald_m hop2 gl gs gh
      obtain ⟨i, r1, rfl, e1⟩ := iv_i_s hop2
      obtain ⟨k, r, rfl, e2⟩ := iv_r_s e1
      obtain ⟨r1', rfl, gs1⟩ := iv_γs_i gs
      obtain ⟨r', rfl, gs2⟩ := iv_γs_r gs1
      exact ⟨o1, a1, a2⟩
  | baload =>
    rcases iv_bald_s hop with hop2 | hop2
    · obtain ⟨o1, a1, a2⟩ := iv_ald_m hop2 gl gs gh
      refine ⟨o1, ?_, a2⟩
      show (match iv_ald .byte pc al' st' h' with
        | some S => some S
        | none => iv_ald .boolean pc al' st' h') = _
      rw [a1]
    · obtain ⟨o1, a1, a2⟩ := iv_ald_m hop2 gl gs gh
      refine ⟨o1, ?_, a2⟩
      show (match iv_ald .byte pc al' st' h' with
        | some S => some S
        | none => iv_ald .boolean pc al' st' h') = _
      rw [iv_ald_bz a1]
      exact a1
  | bastore =>
    rcases iv_bast_s hop with hop2 | hop2
    · obtain ⟨o1, a1, a2⟩ := iv_ast_m hop2 gl gs gh
      refine ⟨o1, ?_, a2⟩
      show (match iv_ast .byte pc al' st' h' with
        | some S => some S
        | none => iv_ast .boolean pc al' st' h') = _
      rw [a1]
    · obtain ⟨o1, a1, a2⟩ := iv_ast_m hop2 gl gs gh
      refine ⟨o1, ?_, a2⟩
      show (match iv_ast .byte pc al' st' h' with
        | some S => some S
        | none => iv_ast .boolean pc al' st' h') = _
      rw [iv_ast_bz a1]
      exact a1
  | iastore =>
    exact iv_ast_m hop gl gs gh
  | laload =>
    obtain ⟨i, r1, rfl, e1⟩ := iv_i_s hop
    obtain ⟨k, r, rfl, e2⟩ := iv_r_s e1
    obtain ⟨q, e3, e4⟩ := Option.bind_eq_some_iff.mp e2
    obtain ⟨r1', rfl, gs1⟩ := iv_γs_i gs
    obtain ⟨r', rfl, gs2⟩ := iv_γs_r gs1
    split at e4
    · rename_i hc
      obtain rfl := iv_pj_s e4
      have f1 : iv_aj h' k = some q := by unfold iv_aj; rw [iv_γh_j gh (iv_aj_s e3)]
      refine ⟨(pc + 1, al', .long (q.2.2 i.toNatClampNeg) :: r', none), ?_, rfl, gl, ⟨rfl, gs2⟩, rfl⟩
      show (iv_aj h' k).bind _ = _
      rw [f1]
      show (if _ then _ else _) = _
      rw [if_pos hc]
      rfl
    · cases e4
  | lastore =>
    obtain ⟨x, r2, rfl, e0⟩ := iv_j_s hop
    obtain ⟨i, r1, rfl, e1⟩ := iv_i_s e0
    obtain ⟨k, r, rfl, e2⟩ := iv_r_s e1
    obtain ⟨q, e3, e4⟩ := Option.bind_eq_some_iff.mp e2
    obtain ⟨r2', rfl, gs0⟩ := iv_γs_j gs
    obtain ⟨r1', rfl, gs1⟩ := iv_γs_i gs0
    obtain ⟨r', rfl, gs2⟩ := iv_γs_r gs1
    split at e4
    · rename_i hc
      cases e4
      have f1 : iv_aj h' k = some q := by unfold iv_aj; rw [iv_γh_j gh (iv_aj_s e3)]
      refine ⟨(pc + 1, al', r', some (some k, .inr (q.1, q.2.1, .inr (.inl (vp_updL q.2.2 i.toNatClampNeg x))))), ?_, rfl, gl, gs2, rfl⟩
      show (iv_aj h' k).bind _ = _
      rw [f1]
      show (if _ then _ else _) = _
      rw [if_pos hc]
    · cases e4
  | aaload =>
    obtain ⟨i, r1, rfl, e1⟩ := iv_i_s hop
    obtain ⟨k, r, rfl, e2⟩ := iv_r_s e1
    obtain ⟨q, e3, e4⟩ := Option.bind_eq_some_iff.mp e2
    obtain ⟨r1', rfl, gs1⟩ := iv_γs_i gs
    obtain ⟨r', rfl, gs2⟩ := iv_γs_r gs1
    split at e4
    · rename_i hc
      split at e4
      · rename_i b hb
        cases e4
        have f1 : iv_aq h' k = some q := by unfold iv_aq; rw [iv_γh_q gh (iv_aq_s e3)]
        refine ⟨(pc + 1, al', .ref b :: r', none), ?_, rfl, gl, ⟨rfl, gs2⟩, rfl⟩
        show (iv_aq h' k).bind _ = _
        rw [f1]
        show (if _ then _ else _) = _
        rw [if_pos hc, hb]
      · cases e4
    · cases e4
  | aastore =>
    obtain ⟨b, r2, rfl, e0⟩ := iv_r_s hop
    obtain ⟨i, r1, rfl, e1⟩ := iv_i_s e0
    obtain ⟨k, r, rfl, e2⟩ := iv_r_s e1
    obtain ⟨q, e3, e4⟩ := Option.bind_eq_some_iff.mp e2
    obtain ⟨r2', rfl, gs0⟩ := iv_γs_r gs
    obtain ⟨r1', rfl, gs1⟩ := iv_γs_i gs0
    obtain ⟨r', rfl, gs2⟩ := iv_γs_r gs1
    split at e4
    · rename_i hc
      cases e4
      have f1 : iv_aq h' k = some q := by unfold iv_aq; rw [iv_γh_q gh (iv_aq_s e3)]
      obtain ⟨ci, fs, rr, g1, g2, g3⟩ := iv_qc_s hc.2
      have f2 : iv_qc h' q.1 b = true := by unfold iv_qc; rw [iv_γh_o gh g1]; dsimp only; rw [g2]; exact decide_eq_true g3
      refine ⟨(pc + 1, al', r', some (some k, .inr (q.1, q.2.1, .inr (.inr (.inr (.inr (va_up q.2.2 i.toNatClampNeg (some b)))))))), ?_, rfl, gl, gs2, rfl⟩
      show (iv_aq h' k).bind _ = _
      rw [f1]
      show (if _ then _ else _) = _
      rw [if_pos ⟨hc.1, f2⟩]
    · cases e4
  | invokespecial idx =>
    obtain ⟨h1, k, r, rfl, h8, rfl⟩ := iv_oi_s hop
    obtain ⟨r1, rfl, gs1⟩ := iv_γs_r gs
    refine ⟨(pc + 3, al', r1, none), ?_, rfl, gl, gs1, rfl⟩
    show (if _ then _ else _) = _
    rw [if_pos h1]
    show (if _ then _ else _) = _
    rw [if_pos (by rw [iv_γs_cats gs1]; exact h8)]
  | invokestatic idx =>
    have hop0 := hop
    rcases iv_cpy_s hop with ⟨h1, n, dp, b, sp, a, r, q, u, rfl, f1, f2, z1, z2, z3, z4, z5, z6, z7, z8, rfl⟩ | ⟨h0, h1, y, x, r, rfl, h8, rfl⟩ | ⟨h0, h2, h1, y, x, r, rfl, h8, rfl⟩
    · obtain ⟨r1, rfl, gs1⟩ := iv_γs_i gs
      obtain ⟨r2, rfl, gs2⟩ := iv_γs_i gs1
      obtain ⟨r3, rfl, gs3⟩ := iv_γs_r gs2
      obtain ⟨r4, rfl, gs4⟩ := iv_γs_i gs3
      obtain ⟨r5, rfl, gs5⟩ := iv_γs_r gs4
      have k1 : iv_ai h' a = some q := by unfold iv_ai; rw [iv_γh_i gh f1]
      have k2 : iv_ai h' b = some u := by unfold iv_ai; rw [iv_γh_i gh f2]
      refine ⟨(pc + 3, al', r5, some (some b, .inr (u.1, u.2.1, .inl (va_cpy q.2.2 u.2.2 sp.toNatClampNeg dp.toNatClampNeg n.toNatClampNeg)))), ?_, rfl, gl, gs5, rfl⟩
      show (if _ then _ else _) = _
      rw [if_pos h1]
      show (iv_ai h' a).bind _ = _
      rw [k1]
      show (iv_ai h' b).bind _ = _
      rw [k2]
      show (if _ then _ else _) = _
      rw [if_pos ⟨Int32.not_lt.mp z1, Int32.not_lt.mp z2, Int32.not_lt.mp z3, z4, z5, decide_eq_true z6, decide_eq_true z7, by rw [iv_γs_cats gs5]; exact z8⟩]
    · obtain ⟨r1, rfl, gs1⟩ := iv_γs_i gs
      obtain ⟨r2, rfl, gs2⟩ := iv_γs_i gs1
      refine ⟨(pc + 3, al', .int (if y < x then y else x) :: r2, none), ?_, rfl, gl, ⟨rfl, gs2⟩, rfl⟩
      show (if _ then _ else _) = _
      rw [if_neg h0]
      show (if _ then _ else _) = _
      rw [if_pos h1]
      show (if _ then _ else _) = _
      exact (if_pos (by rw [iv_γs_cats gs2]; exact h8)).trans rfl
    · obtain ⟨r1, rfl, gs1⟩ := iv_γs_i gs
      obtain ⟨r2, rfl, gs2⟩ := iv_γs_i gs1
      refine ⟨(pc + 3, al', .int (if x < y then y else x) :: r2, none), ?_, rfl, gl, ⟨rfl, gs2⟩, rfl⟩
      show (if _ then _ else _) = _
      rw [if_neg h0]
      show (if _ then _ else _) = _
      rw [if_neg h2]
      show (if _ then _ else _) = _
      rw [if_pos h1]
      show (if _ then _ else _) = _
      exact (if_pos (by rw [iv_γs_cats gs2]; exact h8)).trans rfl
  | lookupswitch dflt ps =>
    obtain ⟨x, r, rfl, e1⟩ := iv_i_s hop
    obtain ⟨r1, rfl, gs1⟩ := iv_γs_i gs
    split at e1
    · rename_i hc
      obtain ⟨p, rfl, e2⟩ := iv_jp_m (al' := al') (r' := r1) e1
      refine ⟨(p, al', r1, none), ?_, rfl, gl, gs1, rfl⟩
      show (if _ then _ else _) = _
      rw [if_pos hc]
      exact e2
    · cases e1
  | _ =>
    have hop : (none : Option iv_O) = some o := hop
    cases hop
end
section
/-! THE RUNS OVER UNKNOWN INTS TELL THE RUNS -/
def iv_γf (a c : iv_F) : Prop := (iv_feb a = true ∧ a = c) ∨ ∃ (k t n : Nat) (f : Nat → UInt32) (g : Nat → Int32), a = some (some k, .inr (t, n, .inr (.inr (.inl f)))) ∧ c = some (some k, .inr (t, n, .inl g))
def iv_R (ρ : Nat → Int32) (o o' : iv_O) : Prop := o'.1 = o.1 ∧ iv_γl ρ o.2.1 o'.2.1 ∧ iv_γs ρ o.2.2.1 o'.2.2.1 ∧ iv_γf o.2.2.2 o'.2.2.2
theorem iv_γ_u (ρ : Nat → Int32) (x : Int32) : iv_γ ρ iv_U (.int x) := ⟨x, rfl, fun h => absurd h (by decide)⟩
theorem iv_γs_f {ρ : Nat → Int32} {b : UInt32} {r st : List Value} (h : iv_γs ρ (.float b :: r) st) : ∃ x r', st = .int x :: r' ∧ (b.toNat < 6 → x = ρ b.toNat) ∧ iv_γs ρ r r' := by
  obtain ⟨c, r', rfl, h1, h2⟩ := iv_γs_c h
  obtain ⟨x, rfl, h3⟩ := h1
  exact ⟨x, r', rfl, h3, h2⟩
theorem iv_γs_d {ρ : Nat → Int32} {b : UInt64} {r st : List Value} (h : iv_γs ρ (.double b :: r) st) : ∃ r', st = .long (ρ b.toNat).toInt64 :: r' ∧ iv_γs ρ r r' := by
  obtain ⟨c, r', rfl, h1, h2⟩ := iv_γs_c h
  have h1 : c = _ := h1
  subst h1
  exact ⟨r', rfl, h2⟩
theorem iv_xl_s {ρ : Nat → Int32} {V : iv_V} {al al' : iv_L} {i p : Nat} {st st' : List Value} {l : List (iv_V × iv_O)} (e : iv_xl V al i p st = some l) (hV : iv_sat ρ V) (gl : iv_γl ρ al al') (gs : iv_γs ρ st st') : ∃ x, al'[i]? = some (some (.int x)) ∧ ∃ q ∈ l, iv_sat ρ q.1 ∧ iv_R ρ q.2 (p, al', .int x :: st', none) := by
  unfold iv_xl at e
  split at e
  · rename_i b hb
    obtain ⟨c, b1, b2⟩ := iv_γl_get gl hb
    obtain ⟨x, rfl, b3⟩ := b2
    refine ⟨x, b1, ?_⟩
    split at e
    · rename_i hc
      cases e
      obtain ⟨g1, g2⟩ := iv_iv_s hV b.toNat
      refine ⟨_, List.mem_singleton.mpr rfl, hV, rfl, gl, ⟨?_, gs⟩, Or.inl ⟨rfl, rfl⟩⟩
      show Value.int x = Value.int (Int32.ofInt (iv_iv V b.toNat).1)
      rw [b3 hc.1, show (iv_iv V b.toNat).1 = (ρ b.toNat).toInt by omega, Int32.ofInt_toInt]
    · cases e
      exact ⟨_, List.mem_singleton.mpr rfl, hV, rfl, gl, ⟨⟨x, rfl, b3⟩, gs⟩, Or.inl ⟨rfl, rfl⟩⟩
  · cases e
theorem iv_xll_s {ρ : Nat → Int32} {V : iv_V} {al al' : iv_L} {i p : Nat} {st st' : List Value} {l : List (iv_V × iv_O)} (e : iv_xll V al i p st = some l) (hV : iv_sat ρ V) (gl : iv_γl ρ al al') (gs : iv_γs ρ st st') : ∃ x, al'[i]? = some (some (.long x)) ∧ ∃ q ∈ l, iv_sat ρ q.1 ∧ iv_R ρ q.2 (p, al', .long x :: st', none) := by
  unfold iv_xll at e
  split at e
  · rename_i b hb
    cases e
    obtain ⟨c, b1, b2⟩ := iv_γl_get gl hb
    have b2 : c = _ := b2
    subst b2
    exact ⟨_, b1, _, List.mem_singleton.mpr rfl, hV, rfl, gl, ⟨rfl, gs⟩, Or.inl ⟨rfl, rfl⟩⟩
  · cases e
theorem iv_xst_s {ρ : Nat → Int32} {V : iv_V} {mi : Nat} {al al' : iv_L} {i p : Nat} {st st' : List Value} {l : List (iv_V × iv_O)} (e : iv_xst V mi al i p st = some l) (hV : iv_sat ρ V) (gl : iv_γl ρ al al') (gs : iv_γs ρ st st') : ∃ o', iv_sti mi p i al' st' = some o' ∧ ∃ q ∈ l, iv_sat ρ q.1 ∧ iv_R ρ q.2 o' := by
  unfold iv_xst at e
  split at e
  · rename_i b r
    obtain ⟨o, h1, h2⟩ := Option.map_eq_some_iff.mp e
    obtain ⟨hn, rfl⟩ := iv_sl_s h1
    cases h2
    obtain ⟨x, r', rfl, b3, gs1⟩ := iv_γs_f gs
    exact ⟨_, iv_sl_m h1, _, List.mem_singleton.mpr rfl, hV, rfl, iv_γl_s1 gl i (show iv_γ ρ (.float b) (.int x) from ⟨x, rfl, b3⟩), gs1, Or.inl ⟨rfl, rfl⟩⟩
  · cases e
theorem iv_icmp_o {z : iv_Z} {mi pc t : Nat} {cc : Jvm.ClassFile.Cond} {off : Int} {al : iv_L} {x y : Int32} {r : List Value} {h : iv_H} (ht : iv_tg pc off = some t) : iv_op z mi pc (.if_icmp cc off) al (.int y :: .int x :: r) h = some ((if iv_tr cc x.toInt y.toInt = true then t else pc + 3), al, r, none) := by
  have k : ∀ b : Bool, iv_br b pc off al r = some ((if b = true then t else pc + 3), al, r, none) := by
    intro b
    unfold iv_br
    rw [ht]
    cases b <;> rfl
  cases cc
  · show iv_br (decide (x = y)) pc off al r = _
    rw [k, show iv_tr .eq x.toInt y.toInt = decide (x = y) from by unfold iv_tr; simp only [Int32.toInt_inj]]
  · show iv_br (decide (¬ x = y)) pc off al r = _
    rw [k, show iv_tr .ne x.toInt y.toInt = decide (¬ x = y) from by unfold iv_tr; simp only [Int32.toInt_inj]]
  · show iv_br (decide (x < y)) pc off al r = _
    rw [k, show iv_tr .lt x.toInt y.toInt = decide (x < y) from by unfold iv_tr; simp only [Int32.lt_iff_toInt_lt]]
  · show iv_br (decide (y ≤ x)) pc off al r = _
    rw [k, show iv_tr .ge x.toInt y.toInt = decide (y ≤ x) from by unfold iv_tr; simp only [Int32.le_iff_toInt_le]]
  · show iv_br (decide (y < x)) pc off al r = _
    rw [k, show iv_tr .gt x.toInt y.toInt = decide (y < x) from by unfold iv_tr; simp only [Int32.lt_iff_toInt_lt]]
  · show iv_br (decide (x ≤ y)) pc off al r = _
    rw [k, show iv_tr .le x.toInt y.toInt = decide (x ≤ y) from by unfold iv_tr; simp only [Int32.le_iff_toInt_le]]
theorem iv_if_o {z : iv_Z} {mi pc t : Nat} {cc : Jvm.ClassFile.Cond} {off : Int} {al : iv_L} {x : Int32} {r : List Value} {h : iv_H} (ht : iv_tg pc off = some t) : iv_op z mi pc (.ifCond cc off) al (.int x :: r) h = some ((if iv_tr cc x.toInt 0 = true then t else pc + 3), al, r, none) := by
  have e := iv_icmp_o (z := z) (mi := mi) (cc := cc) (al := al) (x := x) (y := 0) (r := r) (h := h) ht
  rw [Int32.toInt_zero] at e
  rw [← e]
  cases cc <;> rfl
/-- both ways -/
theorem iv_bo_s {ρ : Nat → Int32} {V : iv_V} {t pc : Nat} {al al' : iv_L} {r r' : List Value} {l : List (iv_V × iv_O)} (e : iv_bo V t pc al r = some l) (hV : iv_sat ρ V) (gl : iv_γl ρ al al') (gs : iv_γs ρ r r') (b : Bool) : ∃ q ∈ l, iv_sat ρ q.1 ∧ iv_R ρ q.2 ((if b = true then t else pc + 3), al', r', none) := by
  cases e
  cases b
  · exact ⟨_, List.mem_cons_of_mem _ List.mem_cons_self, hV, rfl, gl, gs, Or.inl ⟨rfl, rfl⟩⟩
  · exact ⟨_, List.mem_cons_self, hV, rfl, gl, gs, Or.inl ⟨rfl, rfl⟩⟩
theorem iv_ways_s {ρ : Nat → Int32} {V : iv_V} {cc : Jvm.ClassFile.Cond} {c : Int} {k t pc : Nat} {al al' : iv_L} {r r' : List Value} (hV : iv_sat ρ V) (gl : iv_γl ρ al al') (gs : iv_γs ρ r r') : ∃ q ∈ iv_wy V k (iv_rg cc c ((t, al, r, none) : iv_O) (pc + 3, al, r, none)), iv_sat ρ q.1 ∧ iv_R ρ q.2 ((if iv_tr cc (ρ k).toInt c = true then t else pc + 3), al', r', none) := by
  obtain ⟨g1, g2⟩ := iv_rng (ρ k)
  obtain ⟨q, m1, m2, m3, m4⟩ := iv_rg_s cc c ((t, al, r, none) : iv_O) (pc + 3, al, r, none) g1 g2
  obtain ⟨V', n1, n2⟩ := iv_wy_s hV m1 m2 m3
  refine ⟨_, n1, n2, ?_⟩
  rw [m4]
  split
  · exact ⟨rfl, gl, gs, Or.inl ⟨rfl, rfl⟩⟩
  · exact ⟨rfl, gl, gs, Or.inl ⟨rfl, rfl⟩⟩
theorem iv_xc2_s {ρ : Nat → Int32} {z : iv_Z} {V : iv_V} {cc : Jvm.ClassFile.Cond} {mi pc : Nat} {off : Int} {al al' : iv_L} {st st' : List Value} {h' : iv_H} {l : List (iv_V × iv_O)} (e : iv_xc2 V cc pc off al st = some l) (hV : iv_sat ρ V) (gl : iv_γl ρ al al') (gs : iv_γs ρ st st') : ∃ o', iv_op z mi pc (.if_icmp cc off) al' st' h' = some o' ∧ ∃ q ∈ l, iv_sat ρ q.1 ∧ iv_R ρ q.2 o' := by
  unfold iv_xc2 at e
  split at e
  · cases e
  · rename_i t ht
    split at e
    · rename_i a b r
      obtain ⟨y, r1, rfl, ha, gs1⟩ := iv_γs_f gs
      obtain ⟨x, r2, rfl, hb, gs2⟩ := iv_γs_f gs1
      refine ⟨_, iv_icmp_o ht, ?_⟩
      split at e
      · rename_i hc
        cases e
        refine ⟨_, List.mem_singleton.mpr rfl, hV, ?_, gl, gs2, Or.inl ⟨rfl, rfl⟩⟩
        have e1 : x = y := by rw [ha hc.2, hb (by rw [← hc.1]; exact hc.2), hc.1]
        rw [e1]
        show (if iv_tr cc y.toInt y.toInt = true then t else pc + 3) = (if iv_tr cc 0 0 = true then t else pc + 3)
        have e2 : iv_tr cc y.toInt y.toInt = iv_tr cc 0 0 := by cases cc <;> simp [iv_tr]
        rw [e2]
      · exact iv_bo_s e hV gl gs2 _
    · rename_i y b r
      obtain ⟨r1, rfl, gs1⟩ := iv_γs_i gs
      obtain ⟨x, r2, rfl, hb, gs2⟩ := iv_γs_f gs1
      refine ⟨_, iv_icmp_o ht, ?_⟩
      split at e
      · rename_i hc
        cases e
        rw [hb hc]
        exact iv_ways_s hV gl gs2
      · exact iv_bo_s e hV gl gs2 _
    · rename_i b x r
      obtain ⟨y, r1, rfl, hb, gs1⟩ := iv_γs_f gs
      obtain ⟨r2, rfl, gs2⟩ := iv_γs_i gs1
      refine ⟨_, iv_icmp_o ht, ?_⟩
      split at e
      · rename_i hc
        cases e
        rw [hb hc, ← iv_tr_swc]
        exact iv_ways_s hV gl gs2
      · exact iv_bo_s e hV gl gs2 _
    · cases e
theorem iv_xc1_s {ρ : Nat → Int32} {z : iv_Z} {V : iv_V} {cc : Jvm.ClassFile.Cond} {mi pc : Nat} {off : Int} {al al' : iv_L} {st st' : List Value} {h' : iv_H} {l : List (iv_V × iv_O)} (e : iv_xc1 V cc pc off al st = some l) (hV : iv_sat ρ V) (gl : iv_γl ρ al al') (gs : iv_γs ρ st st') : ∃ o', iv_op z mi pc (.ifCond cc off) al' st' h' = some o' ∧ ∃ q ∈ l, iv_sat ρ q.1 ∧ iv_R ρ q.2 o' := by
  unfold iv_xc1 at e
  split at e
  · cases e
  · rename_i t ht
    split at e
    · rename_i b r
      obtain ⟨x, r1, rfl, hb, gs1⟩ := iv_γs_f gs
      refine ⟨_, iv_if_o ht, ?_⟩
      split at e
      · rename_i hc
        cases e
        rw [hb hc]
        exact iv_ways_s hV gl gs1
      · exact iv_bo_s e hV gl gs1 _
    · cases e
theorem iv_u2_s {ρ : Nat → Int32} {V : iv_V} {pc : Nat} {al al' : iv_L} {st st' : List Value} {l : List (iv_V × iv_O)} (f : Int32 → Int32 → Int32) (e : iv_u2 V pc al st = some l) (hV : iv_sat ρ V) (gl : iv_γl ρ al al') (gs : iv_γs ρ st st') : ∃ o', iv_ii pc al' st' f = some o' ∧ ∃ q ∈ l, iv_sat ρ q.1 ∧ iv_R ρ q.2 o' := by
  have fin : ∀ (x y : Int32) (r r' : List Value), iv_γs ρ r r' → l = [(V, (pc + 1, al, iv_U :: r, none))] → ∃ o', iv_ii pc al' (.int y :: .int x :: r') f = some o' ∧ ∃ q ∈ l, iv_sat ρ q.1 ∧ iv_R ρ q.2 o' := by
    intro x y r r' g hl
    subst hl
    exact ⟨_, rfl, _, List.mem_singleton.mpr rfl, hV, rfl, gl, ⟨iv_γ_u ρ _, g⟩, Or.inl ⟨rfl, rfl⟩⟩
  unfold iv_u2 at e
  split at e
  · obtain ⟨y, r1, rfl, hb, gs1⟩ := iv_γs_f gs
    obtain ⟨r2, rfl, gs2⟩ := iv_γs_i gs1
    exact fin _ _ _ _ gs2 (Option.some.inj e).symm
  · obtain ⟨r1, rfl, gs1⟩ := iv_γs_i gs
    obtain ⟨y, r2, rfl, hb, gs2⟩ := iv_γs_f gs1
    exact fin _ _ _ _ gs2 (Option.some.inj e).symm
  · obtain ⟨y, r1, rfl, hb, gs1⟩ := iv_γs_f gs
    obtain ⟨x, r2, rfl, hb2, gs2⟩ := iv_γs_f gs1
    exact fin _ _ _ _ gs2 (Option.some.inj e).symm
  · cases e
theorem iv_fk_s {α : Type} {ρ : Nat → Int32} {V : iv_V} {b : Nat} {l : List (iv_V × α)} {g : Int → α} (hV : iv_sat ρ V) (hw : (iv_iv V b).2 - (iv_iv V b).1 ≤ 15) (hl : l = (iv_wy V b (iv_vals (iv_iv V b).1 16)).map fun q => (q.1, g q.2)) : ∃ q ∈ l, iv_sat ρ q.1 ∧ q.2 = g (ρ b).toInt := by
  obtain ⟨g1, g2⟩ := iv_iv_s hV b
  have m := iv_vals_s 16 (iv_iv V b).1 (ρ b).toInt g1 (by omega)
  obtain ⟨V', m1, m2⟩ := iv_wy_s hV m (Int.le_refl _) (Int.le_refl _)
  subst hl
  exact ⟨_, List.mem_map.mpr ⟨_, m1, rfl⟩, m2, rfl⟩
theorem iv_a2_s {ρ : Nat → Int32} {V : iv_V} {pc : Nat} {al al' : iv_L} {st st' : List Value} {l : List (iv_V × iv_O)} (f : Int32 → Int32 → Int32) (e : iv_a2 V pc al st f = some l) (hV : iv_sat ρ V) (gl : iv_γl ρ al al') (gs : iv_γs ρ st st') : ∃ o', iv_ii pc al' st' f = some o' ∧ ∃ q ∈ l, iv_sat ρ q.1 ∧ iv_R ρ q.2 o' := by
  unfold iv_a2 at e
  split at e
  · rename_i b x r
    obtain ⟨y, r1, rfl, hb, gs1⟩ := iv_γs_f gs
    obtain ⟨r2, rfl, gs2⟩ := iv_γs_i gs1
    refine ⟨_, rfl, ?_⟩
    split at e
    · rename_i hc
      obtain ⟨q, m1, m2, m3⟩ := iv_fk_s (g := fun v => ((pc + 1, al, .int (f x (Int32.ofInt v)) :: r, none) : iv_O)) hV hc.2 (Option.some.inj e).symm
      refine ⟨q, m1, m2, ?_⟩
      rw [m3]
      refine ⟨rfl, gl, ⟨?_, gs2⟩, Or.inl ⟨rfl, rfl⟩⟩
      show Value.int (f x y) = Value.int (f x (Int32.ofInt (ρ b.toNat).toInt))
      rw [hb hc.1, Int32.ofInt_toInt]
    · cases e
      exact ⟨_, List.mem_singleton.mpr rfl, hV, rfl, gl, ⟨iv_γ_u ρ _, gs2⟩, Or.inl ⟨rfl, rfl⟩⟩
  · rename_i y b r
    obtain ⟨r1, rfl, gs1⟩ := iv_γs_i gs
    obtain ⟨x, r2, rfl, hb, gs2⟩ := iv_γs_f gs1
    refine ⟨_, rfl, ?_⟩
    split at e
    · rename_i hc
      obtain ⟨q, m1, m2, m3⟩ := iv_fk_s (g := fun v => ((pc + 1, al, .int (f (Int32.ofInt v) y) :: r, none) : iv_O)) hV hc.2 (Option.some.inj e).symm
      refine ⟨q, m1, m2, ?_⟩
      rw [m3]
      refine ⟨rfl, gl, ⟨?_, gs2⟩, Or.inl ⟨rfl, rfl⟩⟩
      show Value.int (f x y) = Value.int (f (Int32.ofInt (ρ b.toNat).toInt) y)
      rw [hb hc.1, Int32.ofInt_toInt]
    · cases e
      exact ⟨_, List.mem_singleton.mpr rfl, hV, rfl, gl, ⟨iv_γ_u ρ _, gs2⟩, Or.inl ⟨rfl, rfl⟩⟩
  · exact iv_u2_s f e hV gl gs
theorem iv_xin_s {ρ : Nat → Int32} {z : iv_Z} {V : iv_V} {mi pc i : Nat} {n : Int} {al al' : iv_L} {st st' : List Value} {h' : iv_H} {l : List (iv_V × iv_O)} (e : iv_xin V mi al i n pc st = some l) (hV : iv_sat ρ V) (gl : iv_γl ρ al al') (gs : iv_γs ρ st st') : ∃ o', iv_op z mi pc (.iinc i n) al' st' h' = some o' ∧ ∃ q ∈ l, iv_sat ρ q.1 ∧ iv_R ρ q.2 o' := by
  unfold iv_xin at e
  split at e
  · rename_i b hb
    split at e
    · rename_i hc
      obtain ⟨c, b1, b2⟩ := iv_γl_get gl hb
      obtain ⟨x, rfl, b3⟩ := b2
      obtain ⟨q, m1, m2, m3⟩ := iv_fk_s (g := fun v => ((pc + 3, iv_s1 al i (.int (Int32.ofInt v + Int32.ofInt n)), st, none) : iv_O)) hV hc.2.1 (Option.some.inj e).symm
      refine ⟨(pc + 3, iv_s1 al' i (.int (x + Int32.ofInt n)), st', none), ?_, q, m1, m2, ?_⟩
      · show iv_li al' i _ = _
        unfold iv_li
        rw [b1]
        show iv_sl mi i 0 _ = _
        unfold iv_sl
        rw [if_pos hc.2.2]
      · rw [m3]
        refine ⟨rfl, iv_γl_s1 gl i ?_, gs, Or.inl ⟨rfl, rfl⟩⟩
        show Value.int (x + Int32.ofInt n) = Value.int (Int32.ofInt (ρ b.toNat).toInt + Int32.ofInt n)
        rw [b3 hc.1, Int32.ofInt_toInt]
    · cases e
  · cases e
theorem iv_in_of {x : Int32} {n : Nat} (h1 : 0 ≤ x.toInt) (h2 : x.toInt < n) : iv_in x n = true := by
  unfold iv_in
  rw [Bool.and_eq_true]
  refine ⟨decide_eq_true (Int32.le_iff_toInt_le.mpr (by rw [Int32.toInt_zero]; exact h1)), decide_eq_true ?_⟩
  show x.toInt.toNat < n
  omega
theorem iv_ak_s {h h' : iv_H} {k : Nat} {q : Nat × Nat} (e : iv_ak h k = some q) (gh : iv_γh h h') : ∃ f, h'[k]? = some (.inr (q.1, q.2, .inl f)) := by
  unfold iv_ak at e
  split at e
  · rename_i t n f hk
    cases e
    exact ⟨f, iv_γh_i gh hk⟩
  · rename_i t n f hk
    cases e
    obtain ⟨c, h1, h2⟩ := gh.2 k _ hk
    rcases h2 with ⟨h2, -⟩ | ⟨t2, n2, f2, g2, h2, rfl⟩
    · cases h2
    · cases h2
      exact ⟨g2, h1⟩
  · cases e
theorem iv_isn_s {ρ : Nat → Int32} {v c : Value} (h : iv_isn v = true) (g : iv_γ ρ v c) : ∃ x : Int32, c = .int x := by
  cases v with
  | int x => exact ⟨x, g⟩
  | float b => obtain ⟨x, e, -⟩ := g; exact ⟨x, e⟩
  | _ => cases h
theorem iv_ix_s {ρ : Nat → Int32} {V : iv_V} {v : Value} {x : Int32} {n : Nat} (hV : iv_sat ρ V) (h : iv_ix V v n = true) (g : iv_γ ρ v (.int x)) : iv_in x n = true := by
  cases v with
  | int y => cases g; exact h
  | float b =>
    obtain ⟨y, e, hb⟩ := g
    cases e
    have h := of_decide_eq_true h
    obtain ⟨g1, g2⟩ := iv_iv_s hV b.toNat
    rw [hb h.1]
    exact iv_in_of (by omega) (by omega)
  | _ => cases h
theorem iv_xas_s {ρ : Nat → Int32} {V : iv_V} {ty : FieldType} {pc : Nat} {al al' : iv_L} {st st' : List Value} {h h' : iv_H} {l : List (iv_V × iv_O)} (e : iv_xas V ty pc al st h = some l) (hV : iv_sat ρ V) (gl : iv_γl ρ al al') (gs : iv_γs ρ st st') (gh : iv_γh h h') : ∃ o', iv_ast ty pc al' st' h' = some o' ∧ ∃ q ∈ l, iv_sat ρ q.1 ∧ iv_R ρ q.2 o' := by
  unfold iv_xas at e
  split at e
  · rename_i v i k r
    split at e
    · rename_i hv
      split at e
      · rename_i q hq
        split at e
        · rename_i hc
          cases e
          obtain ⟨c1, r1, rfl, k1, gs1⟩ := iv_γs_c gs
          obtain ⟨x, rfl⟩ := iv_isn_s hv.1 k1
          obtain ⟨c2, r2, rfl, k2, gs2⟩ := iv_γs_c gs1
          have hi : ∃ j : Int32, c2 = .int j := by
            cases i with
            | int j => exact ⟨j, k2⟩
            | float b => obtain ⟨j, e, -⟩ := k2; exact ⟨j, e⟩
            | _ => cases hc.1
          obtain ⟨j, rfl⟩ := hi
          obtain ⟨r3, rfl, gs3⟩ := iv_γs_r gs2
          obtain ⟨f, hf⟩ := iv_ak_s hq gh
          have f1 : iv_ai h' k = some (q.1, q.2, f) := by unfold iv_ai; rw [hf]
          refine ⟨(pc + 1, al', r3, some (some k, .inr (q.1, q.2, .inl (upd f j.toNatClampNeg (vp_nar ty x))))), ?_, _, List.mem_singleton.mpr rfl, hV, rfl, gl, gs3, Or.inr ⟨k, q.1, q.2, _, _, rfl, rfl⟩⟩
          show (iv_ai h' k).bind _ = _
          rw [f1]
          show (if _ then _ else _) = _
          rw [if_pos ⟨iv_ix_s hV hc.1 k2, hc.2⟩]
        · cases e
      · cases e
    · cases e
  · cases e
theorem iv_xal_s {ρ : Nat → Int32} {V : iv_V} {pc : Nat} {al al' : iv_L} {st st' : List Value} {h h' : iv_H} {l : List (iv_V × iv_O)} (e : iv_xal V pc al st h = some l) (hV : iv_sat ρ V) (gl : iv_γl ρ al al') (gs : iv_γs ρ st st') (gh : iv_γh h h') : ∃ (j : Int32) (k : Nat) (r : List Value) (o' : iv_O), st' = .int j :: .ref k :: r ∧ iv_ald .int pc al' st' h' = some o' ∧ ∃ q ∈ l, iv_sat ρ q.1 ∧ iv_R ρ q.2 o' := by
  unfold iv_xal at e
  split at e
  · rename_i b k r
    split at e
    · rename_i q hq
      split at e
      · rename_i hc
        obtain ⟨c1, c2, c3, c4, c5⟩ := hc
        cases e
        obtain ⟨j, r1, rfl, hb, gs1⟩ := iv_γs_f gs
        obtain ⟨r2, rfl, gs2⟩ := iv_γs_r gs1
        obtain ⟨g1, g2⟩ := iv_iv_s hV b.toNat
        have hj := hb c1
        rw [← hj] at g1 g2
        have f1 : iv_ai h' k = some q := by unfold iv_ai; rw [iv_γh_i gh (iv_ai_s hq)]
        have eq1 : q.2.2 j.toNatClampNeg = q.2.2 (iv_iv V b.toNat).1.toNat := by
          have m := of_decide_eq_true (List.all_eq_true.mp c5 (j.toInt - (iv_iv V b.toNat).1).toNat (List.mem_range.mpr (by omega)))
          rw [show (iv_iv V b.toNat).1.toNat + (j.toInt - (iv_iv V b.toNat).1).toNat = j.toInt.toNat by omega] at m
          exact m
        refine ⟨j, k, r2, (pc + 1, al', .int (q.2.2 j.toNatClampNeg) :: r2, none), rfl, ?_, _, List.mem_singleton.mpr rfl, hV, rfl, gl, ⟨?_, gs2⟩, Or.inl ⟨rfl, rfl⟩⟩
        · show (iv_ai h' k).bind _ = _
          rw [f1]
          show (if _ then _ else _) = _
          rw [if_pos ⟨iv_in_of (by omega) (by omega), c4⟩]
          rfl
        · show Value.int _ = Value.int _
          rw [eq1]
      · cases e
    · cases e
  · cases e
theorem iv_xaq_s {ρ : Nat → Int32} {z : iv_Z} {V : iv_V} {mi pc : Nat} {al al' : iv_L} {st st' : List Value} {h h' : iv_H} {l : List (iv_V × iv_O)} (e : iv_xaq V pc al st h = some l) (hV : iv_sat ρ V) (gl : iv_γl ρ al al') (gs : iv_γs ρ st st') (gh : iv_γh h h') : ∃ o', iv_op z mi pc .aaload al' st' h' = some o' ∧ ∃ q ∈ l, iv_sat ρ q.1 ∧ iv_R ρ q.2 o' := by
  unfold iv_xaq at e
  split at e
  · rename_i b k r
    split at e
    · rename_i q hq
      split at e
      · rename_i hc
        obtain ⟨c1, c2, c3, c4, c5, c6⟩ := hc
        obtain ⟨j, r1, rfl, hb, gs1⟩ := iv_γs_f gs
        obtain ⟨r2, rfl, gs2⟩ := iv_γs_r gs1
        obtain ⟨g1, g2⟩ := iv_iv_s hV b.toNat
        have f1 : iv_aq h' k = some q := by unfold iv_aq; rw [iv_γh_q gh (iv_aq_s hq)]
        have m := iv_vals_s 16 (iv_iv V b.toNat).1 (ρ b.toNat).toInt g1 (by omega)
        obtain ⟨V', m1, m2⟩ := iv_wy_s hV m (Int.le_refl _) (Int.le_refl _)
        have hs := List.all_eq_true.mp c6 _ m1
        obtain ⟨b', hb'⟩ := Option.isSome_iff_exists.mp hs
        dsimp only at hb'
        rw [← hb c1] at hb' m1 g1 g2
        cases e
        refine ⟨(pc + 1, al', .ref b' :: r2, none), ?_, _, List.mem_map.mpr ⟨_, m1, rfl⟩, m2, rfl, gl, ⟨?_, gs2⟩, Or.inl ⟨rfl, rfl⟩⟩
        · show (iv_aq h' k).bind _ = _
          rw [f1]
          show (if _ then _ else _) = _
          rw [if_pos ⟨iv_in_of (by omega) (by omega), c5⟩]
          show (match q.2.2 j.toInt.toNat with
            | some b => some (pc + 1, al', Value.ref b :: r2, none)
            | none => none) = _
          rw [hb']
        · dsimp only
          rw [hb']
          rfl
      · cases e
    · cases e
  · cases e
theorem iv_xsw_s {ρ : Nat → Int32} {z : iv_Z} {V : iv_V} {mi pc : Nat} {d lo hi : Int} {offs : Array Int} {al al' : iv_L} {st st' : List Value} {h' : iv_H} {l : List (iv_V × iv_O)} (e : iv_xsw V pc d lo hi offs.toList al st = some l) (hV : iv_sat ρ V) (gl : iv_γl ρ al al') (gs : iv_γs ρ st st') : ∃ o', iv_op z mi pc (.tableswitch d lo hi offs) al' st' h' = some o' ∧ ∃ q ∈ l, iv_sat ρ q.1 ∧ iv_R ρ q.2 o' := by
  unfold iv_xsw at e
  split at e
  · rename_i b r
    split at e
    · rename_i hsz
      split at e
      · cases e
      · rename_i t ht
        split at e
        · cases e
        · rename_i q hq
          obtain ⟨x, r1, rfl, hb, gs1⟩ := iv_γs_f gs
          obtain ⟨g1, g2⟩ := iv_rng x
          have key : ∃ (p : Nat) (w : Int × Int × iv_O), iv_op z mi pc (.tableswitch d lo hi offs) al' (.int x :: r1) h' = some (p, al', r1, none) ∧ w ∈ (-9999999999, lo - 1, ((t, al, r, none) : iv_O)) :: (hi + 1, 9999999999, (t, al, r, none)) :: q ∧ w.1 ≤ x.toInt ∧ x.toInt ≤ w.2.1 ∧ w.2.2 = (p, al, r, none) := by
            by_cases h1 : x.toInt < lo ∨ hi < x.toInt
            · refine ⟨t, ?_⟩
              have e1 : iv_op z mi pc (.tableswitch d lo hi offs) al' (.int x :: r1) h' = some (t, al', r1, none) := by
                show (if _ then _ else _) = _
                rw [if_pos h1]
                unfold iv_jp
                rw [ht]
                rfl
              rcases h1 with h1 | h1
              · exact ⟨_, e1, List.mem_cons_self, g1, by show x.toInt ≤ lo - 1; omega, rfl⟩
              · exact ⟨_, e1, List.mem_cons_of_mem _ List.mem_cons_self, by show hi + 1 ≤ x.toInt; omega, g2, rfl⟩
            · have h2 : lo ≤ x.toInt ∧ x.toInt ≤ hi := by omega
              have h3 : (x.toInt - lo).toNat < offs.toList.length := by omega
              obtain ⟨off, ho⟩ : ∃ off, offs.toList[(x.toInt - lo).toNat]? = some off := ⟨_, List.getElem?_eq_getElem h3⟩
              obtain ⟨t2, a1, a2⟩ := iv_swr_s _ _ _ hq _ _ ho
              have e9 : lo + (((x.toInt - lo).toNat : Nat) : Int) = x.toInt := by omega
              rw [e9] at a2
              refine ⟨t2, _, ?_, List.mem_cons_of_mem _ (List.mem_cons_of_mem _ a2), Int.le_refl _, Int.le_refl _, rfl⟩
              show (if _ then _ else _) = _
              rw [if_neg h1]
              rw [Array.getElem?_toList] at ho
              rw [ho]
              show iv_jp pc off al' r1 = _
              unfold iv_jp
              rw [a1]
              rfl
          obtain ⟨p, w, k1, k2, k3, k4, k5⟩ := key
          refine ⟨_, k1, ?_⟩
          split at e
          · rename_i hc
            cases e
            rw [hb hc] at k3 k4
            obtain ⟨V', n1, n2⟩ := iv_wy_s hV k2 k3 k4
            refine ⟨_, n1, n2, ?_⟩
            rw [k5]
            exact ⟨rfl, gl, gs1, Or.inl ⟨rfl, rfl⟩⟩
          · cases e
            refine ⟨_, iv_an_s k2, hV, ?_⟩
            show iv_R ρ w.2.2 _
            rw [k5]
            exact ⟨rfl, gl, gs1, Or.inl ⟨rfl, rfl⟩⟩
    · cases e
  · cases e
theorem iv_lcmp_o (x c : Int64) : lg_cmp x c = if x.toInt < c.toInt then -1 else if x.toInt = c.toInt then 0 else 1 := by
  unfold lg_cmp
  by_cases h1 : c < x
  · have h1' := Int64.lt_iff_toInt_lt.mp h1
    rw [if_pos h1, if_neg (by omega), if_neg (by omega)]
  · have h1' : ¬ c.toInt < x.toInt := fun q => h1 (Int64.lt_iff_toInt_lt.mpr q)
    rw [if_neg h1]
    by_cases h2 : x = c
    · subst h2
      rw [if_pos rfl, if_neg (by omega), if_pos rfl]
    · have h2' : ¬ x.toInt = c.toInt := fun q => h2 (Int64.toInt_inj.mp q)
      rw [if_neg h2, if_pos (by omega)]
set_option maxHeartbeats 2000000 in
theorem iv_xs_s {ρ : Nat → Int32} {z : iv_Z} {scr : Option (Nat × Int32)} {V : iv_V} {mi pc : Nat} {op : Jvm.ClassFile.Instr} {al al' : iv_L} {st st' : List Value} {h h' : iv_H} {l : List (iv_V × iv_O)} (e : iv_xs scr V mi pc op al st h = some l) (hz : ∀ c, scr = some c → z = some (c.1, ρ) ∧ (c.1 = 6 → ρ 0 &&& 31 = c.2)) (hV : iv_sat ρ V) (gl : iv_γl ρ al al') (gs : iv_γs ρ st st') (gh : iv_γh h h') : ∃ o', iv_op z mi pc op al' st' h' = some o' ∧ ∃ q ∈ l, iv_sat ρ q.1 ∧ iv_R ρ q.2 o' := by
  cases op with
  | iload_n k =>
    obtain ⟨x, a1, a2⟩ := iv_xl_s e hV gl gs
    refine ⟨_, ?_, a2⟩
    show iv_li al' (k : Nat) _ = _
    unfold iv_li
    rw [a1]
    rfl
  | iload k =>
    obtain ⟨x, a1, a2⟩ := iv_xl_s e hV gl gs
    refine ⟨_, ?_, a2⟩
    show iv_li al' k _ = _
    unfold iv_li
    rw [a1]
    rfl
  | lload_n k =>
    obtain ⟨x, a1, a2⟩ := iv_xll_s e hV gl gs
    refine ⟨_, ?_, a2⟩
    show iv_lj al' (k : Nat) _ = _
    unfold iv_lj
    rw [a1]
    rfl
  | lload k =>
    obtain ⟨x, a1, a2⟩ := iv_xll_s e hV gl gs
    refine ⟨_, ?_, a2⟩
    show iv_lj al' k _ = _
    unfold iv_lj
    rw [a1]
    rfl
  | iinc i n => exact iv_xin_s e hV gl gs
  | istore_n k => exact iv_xst_s e hV gl gs
  | istore k => exact iv_xst_s e hV gl gs
  | i2l =>
    simp only [iv_xs, iv_xsem] at e
    split at e
    · rename_i b r
      split at e
      · rename_i hc
        cases e
        obtain ⟨x, r1, rfl, hb, gs1⟩ := iv_γs_f gs
        refine ⟨_, rfl, _, List.mem_singleton.mpr rfl, hV, rfl, gl, ⟨?_, gs1⟩, Or.inl ⟨rfl, rfl⟩⟩
        show Value.long x.toInt64 = Value.long (ρ (UInt64.ofNat b.toNat).toNat).toInt64
        have e1 : (UInt64.ofNat b.toNat).toNat = b.toNat := by
          rw [UInt64.toNat_ofNat']
          exact Nat.mod_eq_of_lt (by omega)
        rw [e1, hb hc]
      · cases e
    · cases e
  | lcmp =>
    simp only [iv_xs, iv_xsem] at e
    split at e
    · rename_i c b r
      cases e
      obtain ⟨r1, rfl, gs1⟩ := iv_γs_j gs
      obtain ⟨r2, rfl, gs2⟩ := iv_γs_d gs1
      refine ⟨_, rfl, ?_⟩
      have g0 := iv_rng (ρ b.toNat)
      have e1 : (ρ b.toNat).toInt64.toInt = (ρ b.toNat).toInt := Int32.toInt_toInt64 _
      rw [iv_lcmp_o, e1]
      by_cases h1 : (ρ b.toNat).toInt < c.toInt
      · obtain ⟨V', n1, n2⟩ := iv_wy_s (k := b.toNat) (q := (-9999999999, c.toInt - 1, ((pc + 1, al, .int (-1) :: r, none) : iv_O))) hV List.mem_cons_self g0.1 (by show _ ≤ c.toInt - 1; omega)
        refine ⟨_, n1, n2, rfl, gl, ⟨?_, gs2⟩, Or.inl ⟨rfl, rfl⟩⟩
        rw [if_pos h1]
        rfl
      · by_cases h2 : (ρ b.toNat).toInt = c.toInt
        · obtain ⟨V', n1, n2⟩ := iv_wy_s (k := b.toNat) (q := (c.toInt, c.toInt, ((pc + 1, al, .int 0 :: r, none) : iv_O))) hV (List.mem_cons_of_mem _ List.mem_cons_self) (by show c.toInt ≤ _; omega) (by show _ ≤ c.toInt; omega)
          refine ⟨_, n1, n2, rfl, gl, ⟨?_, gs2⟩, Or.inl ⟨rfl, rfl⟩⟩
          rw [if_neg h1, if_pos h2]
          rfl
        · obtain ⟨V', n1, n2⟩ := iv_wy_s (k := b.toNat) (q := (c.toInt + 1, 9999999999, ((pc + 1, al, .int 1 :: r, none) : iv_O))) hV (List.mem_cons_of_mem _ (List.mem_cons_of_mem _ List.mem_cons_self)) (by show c.toInt + 1 ≤ _; omega) g0.2
          refine ⟨_, n1, n2, rfl, gl, ⟨?_, gs2⟩, Or.inl ⟨rfl, rfl⟩⟩
          rw [if_neg h1, if_neg h2]
          rfl
    · cases e
  | if_icmp cc off => exact iv_xc2_s e hV gl gs
  | ifCond cc off => exact iv_xc1_s e hV gl gs
  | iadd => exact iv_a2_s _ e hV gl gs
  | isub => exact iv_a2_s _ e hV gl gs
  | imul => exact iv_a2_s _ e hV gl gs
  | ior => exact iv_u2_s _ e hV gl gs
  | ishl => exact iv_u2_s _ e hV gl gs
  | ishr => exact iv_u2_s _ e hV gl gs
  | iushr => exact iv_u2_s _ e hV gl gs
  | iand =>
    simp only [iv_xs, iv_xsem] at e
    split at e
    · exact iv_u2_s (fun x y => x &&& y) e hV gl gs
    · rename_i c
      split at e
      · rename_i m b r
        split at e
        · rename_i hc
          cases e
          obtain ⟨r1, rfl, gs1⟩ := iv_γs_i gs
          obtain ⟨x, r2, rfl, hb, gs2⟩ := iv_γs_f gs1
          refine ⟨_, rfl, _, List.mem_singleton.mpr rfl, hV, rfl, gl, ⟨?_, gs2⟩, Or.inl ⟨rfl, rfl⟩⟩
          show Value.int (x &&& m) = Value.int c.2
          rw [hb (by rw [hc.2.1]; decide), hc.1, hc.2.1, (hz c rfl).2 hc.2.2]
        · exact iv_u2_s (fun x y => x &&& y) e hV gl gs
      · exact iv_u2_s (fun x y => x &&& y) e hV gl gs
  | i2b =>
    simp only [iv_xs, iv_xsem] at e
    split at e
    · cases e
      obtain ⟨x, r1, rfl, hb, gs1⟩ := iv_γs_f gs
      exact ⟨_, rfl, _, List.mem_singleton.mpr rfl, hV, rfl, gl, ⟨iv_γ_u ρ _, gs1⟩, Or.inl ⟨rfl, rfl⟩⟩
    · cases e
  | tableswitch d lo hi offs => exact iv_xsw_s e hV gl gs
  | iaload =>
    simp only [iv_xs, iv_xsem] at e
    split at e
    · rename_i i k r
      split at e
      · rename_i c
        split at e
        · rename_i hc
          cases e
          obtain ⟨rfl, hz2⟩ := hz c rfl
          obtain ⟨r1, rfl, gs1⟩ := iv_γs_i gs
          obtain ⟨r2, rfl, gs2⟩ := iv_γs_q gs1
          refine ⟨(pc + 1, al', .int (ρ i.toNatClampNeg) :: r2, none), ?_, _, List.mem_singleton.mpr rfl, hV, rfl, gl, ⟨⟨_, rfl, fun hb => ?_⟩, gs2⟩, Or.inl ⟨rfl, rfl⟩⟩
          · show (if iv_in i c.1 = true then _ else _) = _
            rw [if_pos hc.1]
            rfl
          · have hlt := hc.2
            have e1 : (UInt32.ofNat i.toNatClampNeg).toNat = i.toNatClampNeg := by
              rw [UInt32.toNat_ofNat']
              exact Nat.mod_eq_of_lt (by omega)
            rw [e1]
        · cases e
      · cases e
    · obtain ⟨j, k, r, o', rfl, a1, a2⟩ := iv_xal_s e hV gl gs gh
      exact ⟨o', a1, a2⟩
  | aaload => exact iv_xaq_s e hV gl gs gh
  | arraylength =>
    simp only [iv_xs, iv_xsem] at e
    split at e
    · rename_i k r
      split at e
      · rename_i c
        cases e
        obtain ⟨rfl, hz2⟩ := hz c rfl
        obtain ⟨r2, rfl, gs2⟩ := iv_γs_q gs
        exact ⟨(pc + 1, al', .int (Int32.ofNat c.1) :: r2, none), rfl, _, List.mem_singleton.mpr rfl, hV, rfl, gl, ⟨rfl, gs2⟩, Or.inl ⟨rfl, rfl⟩⟩
      · cases e
    · cases e
  | iastore => exact iv_xas_s e hV gl gs gh
  | bastore =>
    obtain ⟨o', a1, a2⟩ := iv_xas_s e hV gl gs gh
    refine ⟨o', ?_, a2⟩
    show (match iv_ast .byte pc al' st' h' with
      | some S => some S
      | none => iv_ast .boolean pc al' st' h') = _
    rw [a1]
  | _ =>
    have e : (none : Option (List (iv_V × iv_O))) = some l := e
    cases e
end
section
theorem iv_γs_len {ρ : Nat → Int32} : ∀ {a b : List Value}, iv_γs ρ a b → b.length = a.length
  | [], [], _ => rfl
  | _ :: _, _ :: _, h => by rw [List.length_cons, List.length_cons, iv_γs_len h.2]
  | [], _ :: _, h => absurd h (fun q => q)
  | _ :: _, [], h => absurd h (fun q => q)
theorem iv_γs_take {ρ : Nat → Int32} : ∀ (n : Nat) {a b : List Value}, iv_γs ρ a b → iv_γs ρ (a.take n) (b.take n)
  | 0, _, _, _ => trivial
  | _ + 1, [], [], _ => trivial
  | n + 1, _ :: _, _ :: _, h => ⟨h.1, iv_γs_take n h.2⟩
  | _ + 1, [], _ :: _, h => absurd h (fun q => q)
  | _ + 1, _ :: _, [], h => absurd h (fun q => q)
theorem iv_γs_drop {ρ : Nat → Int32} : ∀ (n : Nat) {a b : List Value}, iv_γs ρ a b → iv_γs ρ (a.drop n) (b.drop n)
  | 0, _, _, h => h
  | _ + 1, [], [], _ => trivial
  | n + 1, _ :: _, _ :: _, h => iv_γs_drop n h.2
  | _ + 1, [], _ :: _, h => absurd h (fun q => q)
  | _ + 1, _ :: _, [], h => absurd h (fun q => q)
theorem iv_γs_app {ρ : Nat → Int32} : ∀ {a b c d : List Value}, iv_γs ρ a b → iv_γs ρ c d → iv_γs ρ (a ++ c) (b ++ d)
  | [], [], _, _, _, h => h
  | _ :: _, _ :: _, _, _, h, g => ⟨h.1, iv_γs_app h.2 g⟩
  | [], _ :: _, _, _, h, _ => absurd h (fun q => q)
  | _ :: _, [], _, _, h, _ => absurd h (fun q => q)
theorem iv_γs_rev {ρ : Nat → Int32} : ∀ {a b : List Value}, iv_γs ρ a b → iv_γs ρ a.reverse b.reverse
  | [], [], _ => trivial
  | _ :: _, _ :: _, h => by
    rw [List.reverse_cons, List.reverse_cons]
    exact iv_γs_app (iv_γs_rev h.2) ⟨h.1, trivial⟩
  | [], _ :: _, h => absurd h (fun q => q)
  | _ :: _, [], h => absurd h (fun q => q)
theorem iv_γs_nr {ρ : Nat → Int32} : ∀ {a b : List Value}, iv_γs ρ a b → iv_nr a = true → iv_nr b = true
  | [], [], _, _ => rfl
  | a :: as, c :: cs, h, g => by
    unfold iv_nr at g ⊢
    rw [List.all_cons, Bool.and_eq_true] at g ⊢
    refine ⟨?_, iv_γs_nr h.2 g.2⟩
    have g1 := g.1
    have h1 := h.1
    cases a with
    | float b => obtain ⟨x, rfl, -⟩ := h1; rfl
    | double b => have h1 : c = _ := h1; subst h1; rfl
    | retAddr k => cases g1
    | _ => have h1 : c = _ := h1; subst h1; rfl
  | [], _ :: _, h, _ => absurd h (fun q => q)
  | _ :: _, [], h, _ => absurd h (fun q => q)
theorem iv_γs_exl {ρ : Nat → Int32} : ∀ {a b : List Value}, iv_γs ρ a b → (iv_ex b).length = (iv_ex a).length
  | [], [], _ => rfl
  | _ :: _, _ :: _, h => by
    rw [iv_ex_cons, iv_ex_cons, iv_γ_cat h.1]
    split
    · rw [List.length_cons, List.length_cons, List.length_cons, List.length_cons, iv_γs_exl h.2]
    · rw [List.length_cons, List.length_cons, iv_γs_exl h.2]
  | [], _ :: _, h => absurd h (fun q => q)
  | _ :: _, [], h => absurd h (fun q => q)
/-- .. pointwise, as locals -/
def iv_γp (ρ : Nat → Int32) : iv_L → iv_L → Prop
  | [], [] => True
  | a :: as, c :: cs => iv_γo ρ a c ∧ iv_γp ρ as cs
  | _, _ => False
theorem iv_γp_l {ρ : Nat → Int32} : ∀ {a b : iv_L}, iv_γp ρ a b → iv_γl ρ a b
  | [], [], _ => ⟨rfl, fun i x y hx => by simp at hx⟩
  | a :: as, c :: cs, h => by
    have g := iv_γp_l h.2
    refine ⟨by rw [List.length_cons, List.length_cons, g.1], fun i x y hx hy => ?_⟩
    cases i with
    | zero => cases hx; cases hy; exact h.1
    | succ i => exact g.2 i x y (by simpa using hx) (by simpa using hy)
  | [], _ :: _, h => absurd h (fun q => q)
  | _ :: _, [], h => absurd h (fun q => q)
theorem iv_γp_app {ρ : Nat → Int32} : ∀ {a b c d : iv_L}, iv_γp ρ a b → iv_γp ρ c d → iv_γp ρ (a ++ c) (b ++ d)
  | [], [], _, _, _, h => h
  | _ :: _, _ :: _, _, _, h, g => ⟨h.1, iv_γp_app h.2 g⟩
  | [], _ :: _, _, _, h, _ => absurd h (fun q => q)
  | _ :: _, [], _, _, h, _ => absurd h (fun q => q)
theorem iv_γp_rep (ρ : Nat → Int32) : ∀ n : Nat, iv_γp ρ (List.replicate n none) (List.replicate n none)
  | 0 => trivial
  | n + 1 => ⟨trivial, iv_γp_rep ρ n⟩
theorem iv_γp_ex {ρ : Nat → Int32} : ∀ {a b : List Value}, iv_γs ρ a b → iv_γp ρ (iv_ex a) (iv_ex b)
  | [], [], _ => trivial
  | _ :: _, _ :: _, h => by
    rw [iv_ex_cons, iv_ex_cons, iv_γ_cat h.1]
    split
    · exact ⟨h.1, trivial, iv_γp_ex h.2⟩
    · exact ⟨h.1, iv_γp_ex h.2⟩
  | [], _ :: _, h => absurd h (fun q => q)
  | _ :: _, [], h => absurd h (fun q => q)
theorem iv_γl_en {ρ : Nat → Int32} {a b : List Value} (mj : Nat) (h : iv_γs ρ a b) : iv_γl ρ (iv_en mj a) (iv_en mj b) := by
  unfold iv_en
  rw [iv_γs_exl h]
  exact iv_γp_l (iv_γp_app (iv_γp_ex h) (iv_γp_rep ρ _))
theorem iv_ca_m {ρ : Nat → Int32} {mi : Nat} {op : Jvm.ClassFile.Instr} {st st' : List Value} {h h' : iv_H} {c : Nat × List Value × List Value} (e : iv_ca mi op st h = some c) (gs : iv_γs ρ st st') (gh : iv_γh h h') : ∃ c', iv_ca mi op st' h' = some c' ∧ c'.1 = c.1 ∧ iv_γs ρ c.2.1 c'.2.1 ∧ iv_γs ρ c.2.2 c'.2.2 := by
  unfold iv_ca at e
  split at e
  · cases e
  · rename_i q hq
    split at e
    · cases e
    · rename_i mj hmj
      split at e
      · rename_i hc
        have gt := iv_γs_take (iv_na mj) gs
        have gd := iv_γs_drop (iv_na mj) gs
        have gr := iv_γs_rev gt
        have hc' : (st'.take (iv_na mj)).length = iv_na mj ∧ iv_nr (st'.take (iv_na mj)) = true ∧ (iv_ex (st'.take (iv_na mj)).reverse).length + 1 ≤ iv_mx mj + iv_rx mj := ⟨(iv_γs_len gt).trans hc.1, iv_γs_nr gt hc.2.1, by rw [iv_γs_exl gr]; exact hc.2.2⟩
        have red : iv_ca mi op st' h' = (if q.1 = 2 then (if iv_rc mj = none ∧ iv_ini mj = false ∧ ((st'.drop (iv_na mj)).map fun v => v.category).sum ≤ 8 then some (mj, (st'.take (iv_na mj)).reverse, st'.drop (iv_na mj)) else none)
          else iv_r (st'.drop (iv_na mj)) fun b rest => match iv_rc mj with
            | none => none
            | some ci => if iv_oc h' b ci = true ∧ (rest.map fun v => v.category).sum ≤ 8 ∧ iv_ini mj = decide (q.1 = 1) ∧ (q.1 = 1 ∨ iv_nn (iv_kf mi) q.2 = none) then some (mj, .ref b :: (st'.take (iv_na mj)).reverse, rest) else none) := by
          unfold iv_ca
          rw [hq]
          dsimp only
          rw [hmj]
          dsimp only
          rw [if_pos hc']
          rfl
        rw [red]
        split at e
        · rename_i h2
          rw [if_pos h2]
          split at e
          · rename_i h3
            cases e
            rw [if_pos ⟨h3.1, h3.2.1, by rw [iv_γs_cats gd]; exact h3.2.2⟩]
            exact ⟨_, rfl, rfl, gr, gd⟩
          · cases e
        · rename_i h2
          rw [if_neg h2]
          obtain ⟨b, rest, hb, e1⟩ := iv_r_s e
          rw [hb] at gd
          obtain ⟨r1, hr1, gd1⟩ := iv_γs_r gd
          rw [hr1]
          show ∃ c', (match iv_rc mj with
            | none => none
            | some ci => if iv_oc h' b ci = true ∧ (r1.map fun v => v.category).sum ≤ 8 ∧ iv_ini mj = decide (q.1 = 1) ∧ (q.1 = 1 ∨ iv_nn (iv_kf mi) q.2 = none) then some (mj, .ref b :: (st'.take (iv_na mj)).reverse, r1) else none) = some c' ∧ _
          split at e1
          · cases e1
          · rename_i ci hci
            split at e1
            · rename_i h3
              cases e1
              obtain ⟨fs, hfs⟩ := iv_oc_s h3.1
              have h4 : iv_oc h' b ci = true := by unfold iv_oc; rw [iv_γh_o gh hfs]; exact decide_eq_true rfl
              rw [hci]
              dsimp only
              rw [if_pos ⟨h4, by rw [iv_γs_cats gd1]; exact h3.2.1, h3.2.2⟩]
              exact ⟨_, rfl, rfl, ⟨rfl, gr⟩, gd1⟩
            · cases e1
      · cases e
theorem iv_ca_0 {mi : Nat} {op : Jvm.ClassFile.Instr} (e : iv_cm0 mi op = true) (st : List Value) (h : iv_H) : iv_ca mi op st h = none := by
  unfold iv_cm0 at e
  unfold iv_ca
  split at e
  · rename_i hq
    rw [hq]
  · rename_i q hq
    rw [hq]
    dsimp only
    rw [Option.isNone_iff_eq_none.mp e]
theorem iv_re_m {ρ : Nat → Int32} {mi : Nat} {op : Jvm.ClassFile.Instr} {st st' : List Value} {v : Option Value} (e : iv_re mi op st = some v) (gs : iv_γs ρ st st') : iv_re mi op st' = some v ∧ iv_γs ρ v.toList v.toList := by
  rcases iv_re_v e with ⟨rfl, rfl, rfl, hrt⟩ | ⟨x, ty, rfl, rfl, rfl, hrt, hok⟩ | ⟨x, rfl, rfl, rfl, hrt⟩ | ⟨x, ty, rfl, rfl, rfl, hrt, hk⟩
  · rw [iv_γs_n gs]; exact ⟨e, trivial⟩
  · obtain ⟨r1, rfl, g1⟩ := iv_γs_i gs
    rw [iv_γs_n g1]; exact ⟨e, rfl, trivial⟩
  · obtain ⟨r1, rfl, g1⟩ := iv_γs_j gs
    rw [iv_γs_n g1]; exact ⟨e, rfl, trivial⟩
  · obtain ⟨r1, rfl, g1⟩ := iv_γs_r gs
    rw [iv_γs_n g1]; exact ⟨e, rfl, trivial⟩
theorem iv_γc_z {a c : iv_C} (h : iv_γc a c) : iv_cz c = iv_cz a := by
  rcases h with ⟨-, rfl⟩ | ⟨t, n, f, g, rfl, rfl⟩
  · rfl
  · rfl
theorem iv_γh_set {h h' : iv_H} (gh : iv_γh h h') (k : Nat) {a c : iv_C} (g : iv_γc a c) : iv_γh (h.set k a) (h'.set k c) := by
  refine ⟨by rw [List.length_set, List.length_set]; exact gh.1, fun i x hx => ?_⟩
  rw [List.getElem?_set] at hx ⊢
  by_cases e : k = i
  · rw [if_pos e] at hx ⊢
    subst e
    split at hx
    · rename_i hl
      cases hx
      exact ⟨c, by rw [if_pos (by rw [← gh.1]; exact hl)], g⟩
    · cases hx
  · rw [if_neg e] at hx ⊢
    exact gh.2 i x hx
theorem iv_γh_push {h h' : iv_H} (gh : iv_γh h h') {a c : iv_C} (g : iv_γc a c) : iv_γh (h ++ [a]) (h' ++ [c]) := by
  refine ⟨by simp [gh.1], fun i x hx => ?_⟩
  by_cases hl : i < h.length
  · rw [List.getElem?_append_left hl] at hx
    rw [List.getElem?_append_left (by rw [← gh.1]; exact hl)]
    exact gh.2 i x hx
  · rw [List.getElem?_append_right (by omega)] at hx
    rw [List.getElem?_append_right (by rw [← gh.1]; omega), ← gh.1]
    have hz : i - h.length < 1 := (List.getElem?_eq_some_iff.mp hx).1
    rw [show i - h.length = 0 by omega] at hx ⊢
    cases hx
    exact ⟨c, rfl, g⟩
def iv_fok (f : iv_F) : Prop := ∀ (o : Option Nat) (c : iv_C), f = some (o, c) → iv_ua c = false
theorem iv_ef_m {h h' h1 : iv_H} {f f' : iv_F} (e : iv_ef h f = some h1) (gf : iv_γf f f') (gh : iv_γh h h') (hf : iv_hf h) : ∃ h2, iv_ef h' f' = some h2 ∧ iv_γh h1 h2 ∧ iv_hf h1 := by
  have hset : ∀ (k : Nat) (c c' : iv_C), iv_γc c c' → (∀ o, c = .inl o → ∀ v ∈ o.2, iv_fv v = true) → iv_ef h (some (some k, c)) = some h1 → ∃ h2, iv_ef h' (some (some k, c')) = some h2 ∧ iv_γh h1 h2 ∧ iv_hf h1 := by
    intro k c c' g gv e
    unfold iv_ef at e
    dsimp only at e
    split at e
    · rename_i hz
      cases e
      refine ⟨h'.set k c', ?_, iv_γh_set gh k g, fun i o ho v hv => ?_⟩
      · unfold iv_ef
        dsimp only
        rw [if_pos]
        cases ha : h[k]? with
        | none => rw [ha] at hz; cases hz
        | some a =>
          obtain ⟨d, hd, gd⟩ := gh.2 k a ha
          rw [ha] at hz
          rw [hd]
          show some (iv_cz d) = some (iv_cz c')
          rw [iv_γc_z gd, iv_γc_z g]
          exact hz
      · rw [List.getElem?_set] at ho
        split at ho
        · split at ho
          · exact gv o (Option.some.inj ho) v hv
          · cases ho
        · exact hf i o ho v hv
    · cases e
  rcases gf with ⟨hb, rfl⟩ | ⟨k, t, n, q, g, rfl, rfl⟩
  · match f, e, hb with
      | none, e, _ =>
        cases e
        exact ⟨h', rfl, gh, hf⟩
      | some (some k, .inl o), e, hb => exact hset k _ _ (Or.inl ⟨rfl, rfl⟩) (fun o' ho v hv => by cases ho; exact List.all_eq_true.mp hb v hv) e
      | some (some k, .inr a), e, hb => exact hset k _ _ (Or.inl ⟨by simpa [iv_feb] using hb, rfl⟩) (fun o' ho => by cases ho) e
      | some (none, .inl o), e, hb =>
        cases e
        refine ⟨_, rfl, iv_γh_push gh (Or.inl ⟨rfl, rfl⟩), fun i o' ho v hv => ?_⟩
        by_cases hl : i < h.length
        · rw [List.getElem?_append_left hl] at ho
          exact hf i o' ho v hv
        · rw [List.getElem?_append_right (by omega)] at ho
          have hz : i - h.length < 1 := (List.getElem?_eq_some_iff.mp ho).1
          rw [show i - h.length = 0 by omega] at ho
          cases ho
          exact List.all_eq_true.mp hb v hv
      | some (none, .inr a), e, hb =>
        cases e
        refine ⟨_, rfl, iv_γh_push gh (Or.inl ⟨by simpa [iv_feb] using hb, rfl⟩), fun i o' ho v hv => ?_⟩
        by_cases hl : i < h.length
        · rw [List.getElem?_append_left hl] at ho
          exact hf i o' ho v hv
        · rw [List.getElem?_append_right (by omega)] at ho
          have hz : i - h.length < 1 := (List.getElem?_eq_some_iff.mp ho).1
          rw [show i - h.length = 0 by omega] at ho
          cases ho
  · exact hset k _ _ (Or.inr ⟨t, n, q, g, rfl, rfl⟩) (fun o' ho => by cases ho) e
theorem iv_x_s {ρ : Nat → Int32} {z : iv_Z} {scr : Option (Nat × Int32)} {V : iv_V} {mi pc : Nat} {op : Jvm.ClassFile.Instr} {al al' : iv_L} {st st' : List Value} {h h' : iv_H} {l : List (iv_V × iv_O)} (e : iv_x scr V mi pc op al st h = some l) (hz : ∀ c, scr = some c → z = some (c.1, ρ) ∧ (c.1 = 6 → ρ 0 &&& 31 = c.2)) (hV : iv_sat ρ V) (gl : iv_γl ρ al al') (gs : iv_γs ρ st st') (gh : iv_γh h h') (hf : iv_hf h) : ∃ o', iv_op z mi pc op al' st' h' = some o' ∧ ∃ q ∈ l, iv_sat ρ q.1 ∧ iv_R ρ q.2 o' := by
  unfold iv_x at e
  split at e
  · rename_i l2 hl2
    cases e
    exact iv_xs_s hl2 hz hV gl gs gh
  · obtain ⟨o, h1, h2⟩ := Option.bind_eq_some_iff.mp e
    split at h2
    · rename_i hb
      cases h2
      obtain ⟨o', a1, a2, a3, a4, a5⟩ := iv_cm (z := z) h1 gl gs gh hf
      exact ⟨o', a1, _, List.mem_singleton.mpr rfl, hV, a2, a3, a4, Or.inl ⟨hb, a5.symm⟩⟩
    · cases h2
theorem iv_xr_s : ∀ (n : Nat) (scr : Option (Nat × Int32)) (d mi : Nat) (V : iv_V) (S : iv_S) (l : List (iv_V × Option Value × iv_H)), iv_xr n scr d mi V S = some l → ∀ (ρ : Nat → Int32) (z : iv_Z) (S' : iv_S), (∀ c, scr = some c → z = some (c.1, ρ) ∧ (c.1 = 6 → ρ 0 &&& 31 = c.2)) → iv_sat ρ V → S'.1 = S.1 → iv_γl ρ S.2.1 S'.2.1 → iv_γs ρ S.2.2.1 S'.2.2.1 → iv_γh S.2.2.2 S'.2.2.2 → iv_hf S.2.2.2 →
    ∃ q ∈ l, iv_sat ρ q.1 ∧ ∃ (r : Option Value × iv_H) (n' : Nat), iv_run z n' d mi S' = some r ∧ r.1 = q.2.1 ∧ iv_γs ρ q.2.1.toList q.2.1.toList ∧ iv_γh q.2.2 r.2 ∧ iv_hf q.2.2 := by
  intro n
  induction n with
  | zero => intro scr d mi V S l h; cases h
  | succ n ih =>
    intro scr d mi V S l h ρ z S' hz hV h1 gl gs gh hf
    unfold iv_xr at h
    split at h
    · cases h
    · rename_i op hcd
      split at h
      · rename_i hret
        obtain ⟨v, hv, hl⟩ := Option.map_eq_some_iff.mp h
        cases hl
        obtain ⟨a1, a2⟩ := iv_re_m hv gs
        refine ⟨_, List.mem_singleton.mpr rfl, hV, (v, S'.2.2.2), 1, ?_, rfl, a2, gh, hf⟩
        unfold iv_run
        rw [h1, hcd]
        dsimp only
        rw [if_pos hret, a1]
        rfl
      · rename_i hret
        split at h
        · rename_i c hca
          obtain ⟨c', b1, b2, b3, b4⟩ := iv_ca_m hca gs gh
          split at h
          · cases h
          · rename_i d'
            split at h
            · rename_i h1s hsum
              obtain ⟨hm, k, a, b, fs, q, u, hvs, hk, f0, f1, f2, ha, hb, qa, ub, ta, tb, rfl⟩ := iv_sum_s hsum
              obtain ⟨fa, ha'⟩ := iv_ak_s ha gh
              obtain ⟨fb, hb'⟩ := iv_ak_s hb gh
              rw [qa] at ha'
              rw [ub] at hb'
              have hvs' : c'.2.1 = [.ref k] := by
                rw [hvs] at b3
                obtain ⟨r1, hr1, g1⟩ := iv_γs_r b3
                rw [hr1, iv_γs_n g1]
              obtain ⟨g', hg'⟩ := iv_rem (z := none) (d := d') (iv_γh_o gh hk) f0 f1 f2 ha' hb' ta tb
              have gh2 : iv_γh ((S.2.2.2.set b (.inr (u.1, 2720, .inr (.inr (.inl (fun _ => 0)))))).set k (.inl (10, fs.set 2 (.int 1)))) ((S'.2.2.2.set b (.inr (u.1, 2720, .inl g'))).set k (.inl (10, fs.set 2 (.int 1)))) := iv_γh_set (iv_γh_set gh b (Or.inr ⟨u.1, 2720, _, g', rfl, rfl⟩)) k (Or.inl ⟨rfl, rfl⟩)
              have hf2 : iv_hf ((S.2.2.2.set b (.inr (u.1, 2720, .inr (.inr (.inl (fun _ => 0)))))).set k (.inl (10, fs.set 2 (.int 1)))) := by
                intro i o ho v hv
                rw [List.getElem?_set] at ho
                split at ho
                · split at ho
                  · have ho := Option.some.inj ho
                    cases ho
                    rcases List.mem_or_eq_of_mem_set hv with hv | rfl
                    · exact hf k _ hk v hv
                    · rfl
                  · cases ho
                · rw [List.getElem?_set] at ho
                  split at ho
                  · split at ho <;> cases ho
                  · exact hf i o ho v hv
              obtain ⟨q2, n1, n2, r2, nn, j1, j2, j3, j4, j5⟩ := ih scr (d' + 1) mi V _ l h ρ z (S'.1 + 3, S'.2.1, c'.2.2, (S'.2.2.2.set b (.inr (u.1, 2720, .inl g'))).set k (.inl (10, fs.set 2 (.int 1)))) hz hV (by show S'.1 + 3 = S.1 + 3; rw [h1]) gl b4 gh2 hf2
              refine ⟨q2, n1, n2, r2, max 6137 nn + 1, ?_, j2, j3, j4, j5⟩
              have k1 := iv_run_up hg' (Nat.le_max_left 6137 nn)
              have k2 := iv_run_up j1 (Nat.le_max_right 6137 nn)
              unfold iv_run
              rw [h1, hcd]
              dsimp only
              rw [if_neg hret, b1]
              dsimp only
              rw [b2, hvs', hm, k1]
              dsimp only
              rw [h1] at k2
              exact k2
            · split at h
              · cases h
              · rename_i l1 hl1
                obtain ⟨q, m1, m2, r1, nn1, k1, k2, k3, k4, k5⟩ := ih none d' c.1 V _ l1 hl1 ρ none (0, iv_en c.1 c'.2.1, [], S'.2.2.2) (fun c hc => by cases hc) hV rfl (iv_γl_en c.1 b3) trivial gh hf
                obtain ⟨x, x1, x2⟩ := iv_bd_s _ _ h q m1
                obtain ⟨q2, n1, n2, r2, nn2, j1, j2, j3, j4, j5⟩ := ih scr (d' + 1) mi q.1 _ x x1 ρ z (S'.1 + 3, S'.2.1, r1.1.toList ++ c'.2.2, r1.2) hz m2 (by show S'.1 + 3 = S.1 + 3; rw [h1]) gl (by rw [k2]; exact iv_γs_app k3 b4) k4 k5
                refine ⟨q2, x2 q2 n1, n2, r2, max nn1 nn2 + 1, ?_, j2, j3, j4, j5⟩
                have k1 := iv_run_up k1 (Nat.le_max_left nn1 nn2)
                have j1 := iv_run_up j1 (Nat.le_max_right nn1 nn2)
                unfold iv_run
                rw [h1, hcd]
                dsimp only
                rw [if_neg hret, b1]
                dsimp only
                rw [b2, k1]
                dsimp only
                rw [h1] at j1
                exact j1
        · rename_i hca
          split at h
          · cases h
          · rename_i hc0
            have hc0 : iv_cm0 mi op = true := by simpa using hc0
            split at h
            · cases h
            · rename_i l1 hl1
              obtain ⟨o', a1, q, m1, m2, a2, a3, a4, a5⟩ := iv_x_s (z := z) hl1 hz hV gl gs gh hf
              obtain ⟨x, x1, x2⟩ := iv_bd_s _ _ h q m1
              split at x1
              · cases x1
              · rename_i h2 hef
                obtain ⟨h3, e1, e2, e3⟩ := iv_ef_m hef a5 gh hf
                obtain ⟨q2, n1, n2, r2, nn, j1, j2, j3, j4, j5⟩ := ih scr d mi q.1 _ x x1 ρ z (o'.1, o'.2.1, o'.2.2.1, h3) hz m2 a2 a3 a4 e2 e3
                refine ⟨q2, x2 q2 n1, n2, r2, nn + 1, ?_, j2, j3, j4, j5⟩
                unfold iv_run
                rw [h1, hcd]
                dsimp only
                rw [if_neg hret, iv_ca_0 hc0]
                dsimp only
                rw [a1]
                dsimp only
                rw [e1]
                exact j1
end
section
/-! THE SAME RUNS, FASTER: the heap as a binary tree over the bits of a cell's number; what the instructions ask of the heap is a function of a number -/
def iv_gfG (mi idx : Nat) (g : Nat → Option iv_C) (k : Nat) : Option Value := match iv_fd (iv_kf mi) idx with
  | some q => match g k with
    | some (.inl o) => if o.1 = q.1 then o.2[q.2]? else none
    | _ => none
  | none => none
def iv_pfG (mi idx : Nat) (g : Nat → Option iv_C) (k : Nat) (v : Value) : Option (Option Nat × iv_C) := match iv_fd (iv_kf mi) idx with
  | some q => match g k with
    | some (.inl o) => if o.1 = q.1 ∧ q.2 < o.2.length ∧ iv_ok (iv_ft q.1 q.2) v = true ∧ (iv_fi q.1 q.2 = false ∨ (iv_ini mi = true ∧ iv_ow q.1 = iv_kf mi)) then some (some k, .inl (o.1, o.2.set q.2 v)) else none
    | _ => none
  | none => none
/-- an array of ints (or small types) at k: type, length, contents -/
def iv_aiG (g : Nat → Option iv_C) (k : Nat) : Option (Nat × Nat × (Nat → Int32)) := match g k with
  | some (.inr (t, n, .inl f)) => some (t, n, f)
  | _ => none
def iv_ajG (g : Nat → Option iv_C) (k : Nat) : Option (Nat × Nat × (Nat → Int64)) := match g k with
  | some (.inr (t, n, .inr (.inl f))) => some (t, n, f)
  | _ => none
def iv_aqG (g : Nat → Option iv_C) (k : Nat) : Option (Nat × Nat × (Nat → Option Nat)) := match g k with
  | some (.inr (t, n, .inr (.inr (.inr (.inr f))))) => some (t, n, f)
  | _ => none
def iv_aldG (ty : FieldType) (pc : Nat) (al : iv_L) (st : List Value) (g : Nat → Option iv_C) : Option iv_O := iv_i st fun i r1 => iv_r r1 fun k r => (iv_aiG g k).bind fun q => if iv_in i q.2.1 = true ∧ iv_is q.1 ty = true then iv_pi (pc + 1) al (q.2.2 i.toNatClampNeg) r else none
def iv_astG (ty : FieldType) (pc : Nat) (al : iv_L) (st : List Value) (g : Nat → Option iv_C) : Option iv_O := iv_i st fun x r2 => iv_i r2 fun i r1 => iv_r r1 fun k r => (iv_aiG g k).bind fun q => if iv_in i q.2.1 = true ∧ iv_is q.1 ty = true then some (pc + 1, al, r, some (some k, .inr (q.1, q.2.1, .inl (upd q.2.2 i.toNatClampNeg (vp_nar ty x))))) else none
def iv_qcG (g : Nat → Option iv_C) (t b : Nat) : Bool := match g b with
  | some (.inl o) => match iv_cl[o.1]? with
    | some r => iv_is t (.object r.1)
    | none => false
  | _ => false
/-- Math.min of two ints -/
def iv_cpyG (pc : Nat) (al : iv_L) (st : List Value) (g : Nat → Option iv_C) : Option iv_O := iv_i st fun n r4 => iv_i r4 fun dp r3 => iv_r r3 fun b r2 => iv_i r2 fun sp r1 => iv_r r1 fun a r => (iv_aiG g a).bind fun q => (iv_aiG g b).bind fun u =>
  if 0 ≤ sp ∧ 0 ≤ dp ∧ 0 ≤ n ∧ sp.toNatClampNeg + n.toNatClampNeg ≤ q.2.1 ∧ dp.toNatClampNeg + n.toNatClampNeg ≤ u.2.1 ∧ iv_is q.1 .int = true ∧ iv_is u.1 .int = true ∧ (r.map fun v => v.category).sum ≤ 8 then
    some (pc + 3, al, r, some (some b, .inr (u.1, u.2.1, .inl (va_cpy q.2.2 u.2.2 sp.toNatClampNeg dp.toNatClampNeg n.toNatClampNeg)))) else none
def iv_ocG (g : Nat → Option iv_C) (b ci : Nat) : Bool := match g b with
  | some (.inl o) => decide (o.1 = ci)
  | _ => false
def iv_akG (g : Nat → Option iv_C) (k : Nat) : Option (Nat × Nat) := match g k with
  | some (.inr (t, n, .inl _)) => some (t, n)
  | some (.inr (t, n, .inr (.inr (.inl _)))) => some (t, n)
  | _ => none
def iv_xasG (V : iv_V) (ty : FieldType) (pc : Nat) (al : iv_L) (st : List Value) (g : Nat → Option iv_C) : Option (List (iv_V × iv_O)) := match st with
  | v :: i :: .ref k :: r => if iv_isn v = true ∧ (iv_sy v || (iv_sy i || (iv_aiG g k).isNone)) = true then match iv_akG g k with
    | some q => if iv_ix V i q.2 = true ∧ iv_is q.1 ty = true then some [(V, (pc + 1, al, r, some (some k, .inr (q.1, q.2, .inr (.inr (.inl (fun _ => 0)))))))] else none
    | none => none
    else none
  | _ => none
/-- an int out of a row of equal ones -/
def iv_xalG (V : iv_V) (pc : Nat) (al : iv_L) (st : List Value) (g : Nat → Option iv_C) : Option (List (iv_V × iv_O)) := match st with
  | .float b :: .ref k :: r => match iv_aiG g k with
    | some q => if b.toNat < 6 ∧ 0 ≤ (iv_iv V b.toNat).1 ∧ (iv_iv V b.toNat).2 < (q.2.1 : Int) ∧ iv_is q.1 .int = true ∧ ((List.range ((iv_iv V b.toNat).2 - (iv_iv V b.toNat).1 + 1).toNat).all fun j => decide (q.2.2 ((iv_iv V b.toNat).1.toNat + j) = q.2.2 (iv_iv V b.toNat).1.toNat)) = true then some [(V, (pc + 1, al, .int (q.2.2 (iv_iv V b.toNat).1.toNat) :: r, none))] else none
    | none => none
  | _ => none
/-- an object out of a row -/
def iv_xaqG (V : iv_V) (pc : Nat) (al : iv_L) (st : List Value) (g : Nat → Option iv_C) : Option (List (iv_V × iv_O)) := match st with
  | .float b :: .ref k :: r => match iv_aqG g k with
    | some q => if b.toNat < 6 ∧ 0 ≤ (iv_iv V b.toNat).1 ∧ (iv_iv V b.toNat).2 < (q.2.1 : Int) ∧ (iv_iv V b.toNat).2 - (iv_iv V b.toNat).1 ≤ 15 ∧ iv_iq q.1 = true ∧ ((iv_wy V b.toNat (iv_vals (iv_iv V b.toNat).1 16)).all fun w => (q.2.2 w.2.toNat).isSome) = true then
        some ((iv_wy V b.toNat (iv_vals (iv_iv V b.toNat).1 16)).map fun w => (w.1, (pc + 1, al, (va_rf (q.2.2 w.2.toNat)) :: r, none))) else none
    | none => none
  | _ => none
def iv_semG (op : Jvm.ClassFile.Instr) : Option (iv_Z → Nat → Nat → iv_L → List Value → (Nat → Option iv_C) → Nat → Option iv_O) := match op with
  | .iconst n => some fun z mi pc al st g len => iv_pi (pc + 1) al (Int32.ofInt n) st
  | .bipush n => some fun z mi pc al st g len => iv_pi (pc + 2) al (Int8.ofInt n).toInt32 st
  | .sipush n => some fun z mi pc al st g len => iv_pi (pc + 3) al (Int16.ofInt n).toInt32 st
  | .lconst n => some fun z mi pc al st g len => iv_pj (pc + 1) al (Int64.ofNat (n : Nat)) st
  | .ldc idx => some fun z mi pc al st g len => (iv_lc (iv_kf mi) idx).bind fun x => iv_pi (pc + 2) al x st
  | .ldc2_w idx => some fun z mi pc al st g len => (iv_l2 (iv_kf mi) idx).bind fun x => iv_pj (pc + 3) al x st
  | .iload_n k => some fun z mi pc al st g len => iv_li al (k : Nat) fun x => iv_pi (pc + 1) al x st
  | .iload i => some fun z mi pc al st g len => iv_li al i fun x => iv_pi (pc + 2) al x st
  | .lload_n k => some fun z mi pc al st g len => iv_lj al (k : Nat) fun x => iv_pj (pc + 1) al x st
  | .lload i => some fun z mi pc al st g len => iv_lj al i fun x => iv_pj (pc + 2) al x st
  | .aload_n k => some fun z mi pc al st g len => iv_la al (k : Nat) fun x => some (pc + 1, al, x :: st, none)
  | .aload i => some fun z mi pc al st g len => iv_la al i fun x => some (pc + 2, al, x :: st, none)
  | .istore_n k => some fun z mi pc al st g len => iv_sti mi (pc + 1) (k : Nat) al st
  | .istore i => some fun z mi pc al st g len => iv_sti mi (pc + 2) i al st
  | .lstore_n k => some fun z mi pc al st g len => iv_stj mi (pc + 1) (k : Nat) al st
  | .lstore i => some fun z mi pc al st g len => iv_stj mi (pc + 2) i al st
  | .astore_n k => some fun z mi pc al st g len => iv_sta mi (pc + 1) (k : Nat) al st
  | .astore i => some fun z mi pc al st g len => iv_sta mi (pc + 2) i al st
  | .iinc i n => some fun z mi pc al st g len => iv_li al i fun x => iv_sl mi i 0 (pc + 3, iv_s1 al i (.int (x + Int32.ofInt n)), st, none)
  | .iadd => some fun z mi pc al st g len => iv_ii pc al st (fun x y => x + y)
  | .isub => some fun z mi pc al st g len => iv_ii pc al st (fun x y => x - y)
  | .imul => some fun z mi pc al st g len => iv_ii pc al st (fun x y => x * y)
  | .iand => some fun z mi pc al st g len => iv_ii pc al st (fun x y => x &&& y)
  | .ior => some fun z mi pc al st g len => iv_ii pc al st (fun x y => x ||| y)
  | .ixor => some fun z mi pc al st g len => iv_ii pc al st (fun x y => x ^^^ y)
  | .ishl => some fun z mi pc al st g len => iv_ii pc al st (fun x y => x <<< (y &&& 31))
  | .ishr => some fun z mi pc al st g len => iv_ii pc al st (fun x y => x >>> (y &&& 31))
  | .iushr => some fun z mi pc al st g len => iv_ii pc al st (fun x y => (x.toUInt32 >>> (y.toUInt32 &&& Int32.toUInt32 31)).toInt32)
  | .idiv => some fun z mi pc al st g len => iv_i st fun y r1 => iv_i r1 fun x r => if y = 0 then none else iv_pi (pc + 1) al (x / y) r
  | .irem => some fun z mi pc al st g len => iv_i st fun y r1 => iv_i r1 fun x r => if y = 0 then none else iv_pi (pc + 1) al (x - x / y * y) r
  | .ineg => some fun z mi pc al st g len => iv_i st fun x r => iv_pi (pc + 1) al (-x) r
  | .ladd => some fun z mi pc al st g len => iv_jj pc al st (fun x y => x + y)
  | .lsub => some fun z mi pc al st g len => iv_jj pc al st (fun x y => x - y)
  | .lmul => some fun z mi pc al st g len => iv_jj pc al st (fun x y => x * y)
  | .ldiv => some fun z mi pc al st g len => iv_j st fun y r1 => iv_j r1 fun x r => if y = 0 then none else iv_pj (pc + 1) al (x / y) r
  | .lrem => some fun z mi pc al st g len => iv_j st fun y r1 => iv_j r1 fun x r => if y = 0 then none else iv_pj (pc + 1) al (x - x / y * y) r
  | .lneg => some fun z mi pc al st g len => iv_j st fun x r => iv_pj (pc + 1) al (-x) r
  | .lcmp => some fun z mi pc al st g len => iv_j st fun y r1 => iv_j r1 fun x r => iv_pi (pc + 1) al (lg_cmp x y) r
  | .i2l => some fun z mi pc al st g len => iv_i st fun x r => iv_pj (pc + 1) al x.toInt64 r
  | .l2i => some fun z mi pc al st g len => iv_j st fun x r => iv_pi (pc + 1) al x.toInt32 r
  | .i2b => some fun z mi pc al st g len => iv_i st fun x r => iv_pi (pc + 1) al x.toInt8.toInt32 r
  | .dup => some fun z mi pc al st g len => iv_1 st fun v r => some (pc + 1, al, v :: v :: r, none)
  | .pop => some fun z mi pc al st g len => iv_1 st fun _ r => some (pc + 1, al, r, none)
  | .dup_x1 => some fun z mi pc al st g len => iv_1 st fun v r1 => iv_1 r1 fun w r => some (pc + 1, al, v :: w :: v :: r, none)
  | .dup_x2 => some fun z mi pc al st g len => iv_1 st fun v r1 => iv_1 r1 fun w r2 => iv_1 r2 fun x r => some (pc + 1, al, v :: w :: x :: v :: r, none)
  | .dup2 => some fun z mi pc al st g len => iv_1 st fun v r1 => iv_1 r1 fun w r => some (pc + 1, al, v :: w :: v :: w :: r, none)
  | .goto off => some fun z mi pc al st g len => iv_jp pc off al st
  | .ifCond .eq off => some fun z mi pc al st g len => iv_c1 pc off al st (fun x => decide (x = 0))
  | .ifCond .ne off => some fun z mi pc al st g len => iv_c1 pc off al st (fun x => decide (¬ x = 0))
  | .ifCond .lt off => some fun z mi pc al st g len => iv_c1 pc off al st (fun x => decide (x < 0))
  | .ifCond .ge off => some fun z mi pc al st g len => iv_c1 pc off al st (fun x => decide (0 ≤ x))
  | .ifCond .gt off => some fun z mi pc al st g len => iv_c1 pc off al st (fun x => decide (0 < x))
  | .ifCond .le off => some fun z mi pc al st g len => iv_c1 pc off al st (fun x => decide (x ≤ 0))
  | .if_icmp .eq off => some fun z mi pc al st g len => iv_c2 pc off al st (fun x y => decide (x = y))
  | .if_icmp .ne off => some fun z mi pc al st g len => iv_c2 pc off al st (fun x y => decide (¬ x = y))
  | .if_icmp .lt off => some fun z mi pc al st g len => iv_c2 pc off al st (fun x y => decide (x < y))
  | .if_icmp .ge off => some fun z mi pc al st g len => iv_c2 pc off al st (fun x y => decide (y ≤ x))
  | .if_icmp .gt off => some fun z mi pc al st g len => iv_c2 pc off al st (fun x y => decide (y < x))
  | .if_icmp .le off => some fun z mi pc al st g len => iv_c2 pc off al st (fun x y => decide (x ≤ y))
  | .tableswitch dflt lo hi offs => some fun z mi pc al st g len => iv_i st fun x r => if x.toInt < lo ∨ hi < x.toInt then iv_jp pc dflt al r else (offs[(x.toInt - lo).toNat]?).bind fun off => iv_jp pc off al r
  | .lookupswitch dflt ps => some fun z mi pc al st g len => iv_i st fun x r => if (ps.toList.zip (ps.toList.drop 1)).all (fun (a, next) => a.1 < next.1) = true then iv_jp pc (Op.lookupswitch.offset ps.toList dflt x.toInt) al r else none
  | .getfield idx => some fun z mi pc al st g len => iv_r st fun k r => (iv_gfG mi idx g k).bind fun v => some (pc + 3, al, v :: r, none)
  | .putfield idx => some fun z mi pc al st g len => iv_1or2 st fun v r1 => iv_r r1 fun k r => (iv_pfG mi idx g k v).bind fun q => some (pc + 3, al, r, some q)
  | .new idx => some fun z mi pc al st g len => (iv_nc (iv_kf mi) idx).bind fun ci => some (pc + 3, al, .ref len :: st, some (none, .inl (ci, iv_df ci)))
  | .newarray a => some fun z mi pc al st g len => iv_i st fun n r => if 0 ≤ n ∧ n.toNatClampNeg ≤ 60000000 ∧ iv_tn a < 4 then some (pc + 2, al, .ref len :: r, some (none, .inr (iv_tn a, iv_a0 (iv_tn a) n.toNatClampNeg))) else none
  | .anewarray idx => some fun z mi pc al st g len => iv_i st fun n r => (iv_ac (iv_kf mi) idx).bind fun t => if 0 ≤ n ∧ n.toNatClampNeg ≤ 60000000 then some (pc + 3, al, .ref len :: r, some (none, .inr (t, n.toNatClampNeg, .inr (.inr (.inr (.inr (fun _ => none))))))) else none
  | .arraylength => some fun z mi pc al st g len => match st with
    | .ref k :: r => match g k with
      | some (.inr a) => if (iv_ty[a.1]?).isSome = true then iv_pi (pc + 1) al (Int32.ofNat a.2.1) r else none
      | _ => none
    | .retAddr _ :: r => match z with
      | some q => iv_pi (pc + 1) al (Int32.ofNat q.1) r
      | none => none
    | _ => none
  | .iaload => some fun z mi pc al st g len => match st with
    | .int i :: .retAddr _ :: r => match z with
      | some q => if iv_in i q.1 = true then iv_pi (pc + 1) al (q.2 i.toNatClampNeg) r else none
      | none => none
    | st => iv_aldG .int pc al st g
  | .baload => some fun z mi pc al st g len => match iv_aldG .byte pc al st g with
    | some S => some S
    | none => iv_aldG .boolean pc al st g
  | .iastore => some fun z mi pc al st g len => iv_astG .int pc al st g
  | .bastore => some fun z mi pc al st g len => match iv_astG .byte pc al st g with
    | some S => some S
    | none => iv_astG .boolean pc al st g
  | .laload => some fun z mi pc al st g len => iv_i st fun i r1 => iv_r r1 fun k r => (iv_ajG g k).bind fun q => if iv_in i q.2.1 = true ∧ iv_is q.1 .long = true then iv_pj (pc + 1) al (q.2.2 i.toNatClampNeg) r else none
  | .lastore => some fun z mi pc al st g len => iv_j st fun x r2 => iv_i r2 fun i r1 => iv_r r1 fun k r => (iv_ajG g k).bind fun q => if iv_in i q.2.1 = true ∧ iv_is q.1 .long = true then some (pc + 1, al, r, some (some k, .inr (q.1, q.2.1, .inr (.inl (vp_updL q.2.2 i.toNatClampNeg x))))) else none
  | .aaload => some fun z mi pc al st g len => iv_i st fun i r1 => iv_r r1 fun k r => (iv_aqG g k).bind fun q => if iv_in i q.2.1 = true ∧ iv_iq q.1 = true then match q.2.2 i.toNatClampNeg with
      | some b => some (pc + 1, al, .ref b :: r, none)
      | none => none
    else none
  | .aastore => some fun z mi pc al st g len => iv_r st fun b r2 => iv_i r2 fun i r1 => iv_r r1 fun k r => (iv_aqG g k).bind fun q => if iv_in i q.2.1 = true ∧ iv_qcG g q.1 b = true then some (pc + 1, al, r, some (some k, .inr (q.1, q.2.1, .inr (.inr (.inr (.inr (va_up q.2.2 i.toNatClampNeg (some b)))))))) else none
  | .invokespecial idx => some fun z mi pc al st g len => if iv_oi (iv_kf mi) idx = true then iv_r st fun _ r => if (r.map fun v => v.category).sum ≤ 8 then some (pc + 3, al, r, none) else none else none
  | .invokestatic idx => some fun z mi pc al st g len => if iv_cp (iv_kf mi) idx = true then iv_cpyG pc al st g else if iv_mm (iv_kf mi) idx = true then iv_min pc al st else if iv_ma (iv_kf mi) idx = true then iv_max pc al st else none
  | _ => none
def iv_opG (z : iv_Z) (mi pc : Nat) (op : Jvm.ClassFile.Instr) (al : iv_L) (st : List Value) (g : Nat → Option iv_C) (len : Nat) : Option iv_O := match iv_semG op with
  | some f => f z mi pc al st g len
  | none => none
theorem iv_opG_eq (z : iv_Z) (mi pc : Nat) (op : Jvm.ClassFile.Instr) (al : iv_L) (st : List Value) (h : iv_H) : iv_opG z mi pc op al st (fun k => h[k]?) h.length = iv_op z mi pc op al st h := by
  cases op with
  | ifCond cc off => cases cc <;> rfl
  | if_icmp cc off => cases cc <;> rfl
  | _ => rfl
def iv_xsemG (op : Jvm.ClassFile.Instr) : Option (Option (Nat × Int32) → iv_V → Nat → Nat → iv_L → List Value → (Nat → Option iv_C) → Option (List (iv_V × iv_O))) := match op with
  | .iload_n k => some fun scr V mi pc al st g => iv_xl V al (k : Nat) (pc + 1) st
  | .iload k => some fun scr V mi pc al st g => iv_xl V al k (pc + 2) st
  | .lload_n k => some fun scr V mi pc al st g => iv_xll V al (k : Nat) (pc + 1) st
  | .lload k => some fun scr V mi pc al st g => iv_xll V al k (pc + 2) st
  | .istore_n k => some fun scr V mi pc al st g => iv_xst V mi al (k : Nat) (pc + 1) st
  | .istore k => some fun scr V mi pc al st g => iv_xst V mi al k (pc + 2) st
  | .iinc i n => some fun scr V mi pc al st g => iv_xin V mi al i n pc st
  | .i2l => some fun scr V mi pc al st g => match st with
    | .float b :: r => if b.toNat < 6 then some [(V, (pc + 1, al, .double (UInt64.ofNat b.toNat) :: r, none))] else none
    | _ => none
  | .lcmp => some fun scr V mi pc al st g => match st with
    | .long c :: .double b :: r => some (iv_wy V b.toNat [(-9999999999, c.toInt - 1, (pc + 1, al, .int (-1) :: r, none)), (c.toInt, c.toInt, (pc + 1, al, .int 0 :: r, none)), (c.toInt + 1, 9999999999, (pc + 1, al, .int 1 :: r, none))])
    | _ => none
  | .if_icmp cc off => some fun scr V mi pc al st g => iv_xc2 V cc pc off al st
  | .ifCond cc off => some fun scr V mi pc al st g => iv_xc1 V cc pc off al st
  | .iadd => some fun scr V mi pc al st g => iv_a2 V pc al st (fun x y => x + y)
  | .isub => some fun scr V mi pc al st g => iv_a2 V pc al st (fun x y => x - y)
  | .imul => some fun scr V mi pc al st g => iv_a2 V pc al st (fun x y => x * y)
  | .iand => some fun scr V mi pc al st g => match scr with
    | none => iv_u2 V pc al st
    | some c => match st with
      | .int m :: .float b :: r => if m = 31 ∧ b.toNat = 0 ∧ c.1 = 6 then some [(V, (pc + 1, al, .int c.2 :: r, none))] else iv_u2 V pc al st
      | st => iv_u2 V pc al st
  | .ior => some fun scr V mi pc al st g => iv_u2 V pc al st
  | .ishl => some fun scr V mi pc al st g => iv_u2 V pc al st
  | .ishr => some fun scr V mi pc al st g => iv_u2 V pc al st
  | .iushr => some fun scr V mi pc al st g => iv_u2 V pc al st
  | .i2b => some fun scr V mi pc al st g => match st with
    | .float _ :: r => some [(V, (pc + 1, al, iv_U :: r, none))]
    | _ => none
  | .tableswitch d lo hi offs => some fun scr V mi pc al st g => iv_xsw V pc d lo hi offs.toList al st
  | .iaload => some fun scr V mi pc al st g => match st with
    | .int i :: .retAddr _ :: r => match scr with
      | some c => if iv_in i c.1 = true ∧ i.toNatClampNeg < 6 then some [(V, (pc + 1, al, .float (UInt32.ofNat i.toNatClampNeg) :: r, none))] else none
      | none => none
    | st => iv_xalG V pc al st g
  | .aaload => some fun scr V mi pc al st g => iv_xaqG V pc al st g
  | .arraylength => some fun scr V mi pc al st g => match st with
    | .retAddr _ :: r => match scr with
      | some c => some [(V, (pc + 1, al, .int (Int32.ofNat c.1) :: r, none))]
      | none => none
    | _ => none
  | .iastore => some fun scr V mi pc al st g => iv_xasG V .int pc al st g
  | .bastore => some fun scr V mi pc al st g => iv_xasG V .byte pc al st g
  | _ => none
def iv_xsG (scr : Option (Nat × Int32)) (V : iv_V) (mi pc : Nat) (op : Jvm.ClassFile.Instr) (al : iv_L) (st : List Value) (g : Nat → Option iv_C) : Option (List (iv_V × iv_O)) := match iv_xsemG op with
  | some f => f scr V mi pc al st g
  | none => none
theorem iv_xsG_eq (scr : Option (Nat × Int32)) (V : iv_V) (mi pc : Nat) (op : Jvm.ClassFile.Instr) (al : iv_L) (st : List Value) (h : iv_H) : iv_xsG scr V mi pc op al st (fun k => h[k]?) = iv_xs scr V mi pc op al st h := by
  cases op <;> rfl
def iv_xG (scr : Option (Nat × Int32)) (V : iv_V) (mi pc : Nat) (op : Jvm.ClassFile.Instr) (al : iv_L) (st : List Value) (g : Nat → Option iv_C) (len : Nat) : Option (List (iv_V × iv_O)) := match iv_xsG scr V mi pc op al st g with
  | some l => some l
  | none => (iv_opG none mi pc op al st g len).bind fun o => if iv_feb o.2.2.2 = true then some [(V, o)] else none
theorem iv_xG_eq (scr : Option (Nat × Int32)) (V : iv_V) (mi pc : Nat) (op : Jvm.ClassFile.Instr) (al : iv_L) (st : List Value) (h : iv_H) : iv_xG scr V mi pc op al st (fun k => h[k]?) h.length = iv_x scr V mi pc op al st h := by
  unfold iv_xG iv_x
  rw [iv_xsG_eq, iv_opG_eq]
  cases iv_xs scr V mi pc op al st h <;> rfl
def iv_caG (mi : Nat) (op : Jvm.ClassFile.Instr) (st : List Value) (g : Nat → Option iv_C) : Option (Nat × List Value × List Value) := match iv_cc op with
  | none => none
  | some q => match iv_mt (iv_kf mi) q.2 with
    | none => none
    | some mj => if ((st.take (iv_na mj)).length = iv_na mj ∧ iv_nr (st.take (iv_na mj)) = true ∧ (iv_ex (st.take (iv_na mj)).reverse).length + 1 ≤ iv_mx mj + iv_rx mj) then
        (if q.1 = 2 then (if iv_rc mj = none ∧ iv_ini mj = false ∧ ((st.drop (iv_na mj)).map fun v => v.category).sum ≤ 8 then some (mj, (st.take (iv_na mj)).reverse, st.drop (iv_na mj)) else none)
        else iv_r (st.drop (iv_na mj)) fun b rest => match iv_rc mj with
          | none => none
          | some ci => if iv_ocG g b ci = true ∧ (rest.map fun v => v.category).sum ≤ 8 ∧ iv_ini mj = decide (q.1 = 1) ∧ (q.1 = 1 ∨ iv_nn (iv_kf mi) q.2 = none) then some (mj, .ref b :: (st.take (iv_na mj)).reverse, rest) else none)
      else none
/-- n: fuel; d: depth of calls -/
theorem iv_caG_eq (mi : Nat) (op : Jvm.ClassFile.Instr) (st : List Value) (h : iv_H) : iv_caG mi op st (fun k => h[k]?) = iv_ca mi op st h := rfl
/-- the heap as a tree, and how many cells it has -/
abbrev iv_T : Type := Nat × iv_Tr iv_C 9
def iv_tq (t : iv_T) (k : Nat) : Option iv_C := bif Nat.ble 512 k then none else iv_tl 9 t.2 k
def iv_ts {α : Type} : (n : Nat) → iv_Tr α n → Nat → α → iv_Tr α n
  | 0, _, _, c => some c
  | n + 1, t, k, c => bif Nat.ble (2 ^ n) k then iv_nd (Prod.fst t) (iv_ts n (Prod.snd t) (k - 2 ^ n) c) else iv_nd (iv_ts n (Prod.fst t) k c) (Prod.snd t)
theorem iv_ts_get {α : Type} : ∀ (n : Nat) (t : iv_Tr α n) (k j : Nat) (c : α), k < 2 ^ n → j < 2 ^ n → iv_tl n (iv_ts n t k c) j = if j = k then some c else iv_tl n t j
  | 0, t, k, j, c, hk, hj => by
    have e : j = k := by omega
    rw [if_pos e]
    rfl
  | n + 1, t, k, j, c, hk, hj => by
    rw [Nat.pow_succ] at hk hj
    by_cases a : 2 ^ n ≤ k
    · have a' : Nat.ble (2 ^ n) k = true := Nat.ble_eq_true_of_le a
      have e1 : iv_ts (n + 1) t k c = iv_nd (Prod.fst t) (iv_ts n (Prod.snd t) (k - 2 ^ n) c) := by
        show (bif Nat.ble (2 ^ n) k then _ else _) = _
        rw [a']; rfl
      rw [e1]
      show (bif Nat.ble (2 ^ n) j then iv_tl n (iv_ts n (Prod.snd t) (k - 2 ^ n) c) (j - 2 ^ n) else iv_tl n (Prod.fst t) j) = if j = k then some c else (bif Nat.ble (2 ^ n) j then iv_tl n (Prod.snd t) (j - 2 ^ n) else iv_tl n (Prod.fst t) j)
      by_cases b : 2 ^ n ≤ j
      · rw [Nat.ble_eq_true_of_le b]
        show iv_tl n _ _ = if j = k then some c else iv_tl n _ _
        rw [iv_ts_get n (Prod.snd t) (k - 2 ^ n) (j - 2 ^ n) c (by omega) (by omega)]
        by_cases e : j = k
        · rw [if_pos e, if_pos (by omega)]
        · rw [if_neg e, if_neg (by omega)]
      · have b' : Nat.ble (2 ^ n) j = false := by
          cases q : Nat.ble (2 ^ n) j with
          | false => rfl
          | true => exact absurd (Nat.le_of_ble_eq_true q) b
        rw [b', if_neg (by omega)]
        rfl
    · have a' : Nat.ble (2 ^ n) k = false := by
        cases q : Nat.ble (2 ^ n) k with
        | false => rfl
        | true => exact absurd (Nat.le_of_ble_eq_true q) a
      have e1 : iv_ts (n + 1) t k c = iv_nd (iv_ts n (Prod.fst t) k c) (Prod.snd t) := by
        show (bif Nat.ble (2 ^ n) k then _ else _) = _
        rw [a']; rfl
      rw [e1]
      show (bif Nat.ble (2 ^ n) j then iv_tl n (Prod.snd t) (j - 2 ^ n) else iv_tl n (iv_ts n (Prod.fst t) k c) j) = if j = k then some c else (bif Nat.ble (2 ^ n) j then iv_tl n (Prod.snd t) (j - 2 ^ n) else iv_tl n (Prod.fst t) j)
      by_cases b : 2 ^ n ≤ j
      · rw [Nat.ble_eq_true_of_le b, if_neg (by omega)]
        rfl
      · have b' : Nat.ble (2 ^ n) j = false := by
          cases q : Nat.ble (2 ^ n) j with
          | false => rfl
          | true => exact absurd (Nat.le_of_ble_eq_true q) b
        rw [b']
        show iv_tl n _ _ = if j = k then some c else iv_tl n _ _
        exact iv_ts_get n (Prod.fst t) k j c (by omega) (by omega)
theorem iv_em_get {α : Type} : ∀ (n j : Nat), iv_tl n (iv_em n : iv_Tr α n) j = none
  | 0, _ => rfl
  | n + 1, j => by
    show (bif Nat.ble (2 ^ n) j then iv_tl n (iv_em n : iv_Tr α n) (j - 2 ^ n) else iv_tl n (iv_em n : iv_Tr α n) j) = none
    rw [iv_em_get n, iv_em_get n]
    cases Nat.ble (2 ^ n) j <;> rfl
/-- the tree holds the list -/
def iv_τ (t : iv_T) (h : iv_H) : Prop := t.1 = h.length ∧ iv_tq t = fun k => h[k]?
def iv_tset (t : iv_T) (k : Nat) (c : iv_C) : Option iv_T := bif Nat.ble t.1 k then none else bif Nat.ble 512 k then none else some (t.1, iv_ts 9 t.2 k c)
def iv_tpush (t : iv_T) (c : iv_C) : Option iv_T := bif Nat.ble 512 t.1 then none else some (t.1 + 1, iv_ts 9 t.2 t.1 c)
theorem iv_bif' {α : Type} {b : Bool} {x : Option α} {y : α} (h : (bif b then none else x) = some y) : b = false ∧ x = some y := iv_bif h
theorem iv_tq_lt {t : iv_T} {k : Nat} (hk : k < 512) : iv_tq t k = iv_tl 9 t.2 k := by
  unfold iv_tq
  cases q : Nat.ble 512 k with
  | false => rfl
  | true => exact absurd (Nat.le_of_ble_eq_true q) (by omega)
theorem iv_tq_ge {t : iv_T} {k : Nat} (hk : 512 ≤ k) : iv_tq t k = none := by
  unfold iv_tq
  rw [Nat.ble_eq_true_of_le hk]
  rfl
theorem iv_tset_s {t t' : iv_T} {h : iv_H} {k : Nat} {c : iv_C} (e : iv_tset t k c = some t') (r : iv_τ t h) : iv_τ t' (h.set k c) := by
  obtain ⟨a1, e1⟩ := iv_bif' e
  obtain ⟨a2, e2⟩ := iv_bif' e1
  have b1 := iv_blt a1
  have b2 := iv_blt a2
  cases e2
  refine ⟨by rw [List.length_set]; exact r.1, funext fun j => ?_⟩
  rw [List.getElem?_set]
  by_cases hj : j < 512
  · rw [iv_tq_lt hj, iv_ts_get 9 t.2 k j c b2 hj]
    by_cases e : j = k
    · rw [if_pos e, if_pos e.symm, if_pos (by rw [← r.1]; exact b1)]
    · rw [if_neg e, if_neg (fun z => e z.symm), ← iv_tq_lt hj, r.2]
  · rw [iv_tq_ge (by omega), if_neg (by omega)]
    have q := congrFun r.2 j
    rw [iv_tq_ge (by omega)] at q
    exact q
theorem iv_tpush_s {t t' : iv_T} {h : iv_H} {c : iv_C} (e : iv_tpush t c = some t') (r : iv_τ t h) : iv_τ t' (h ++ [c]) := by
  obtain ⟨a1, e1⟩ := iv_bif' e
  have b1 := iv_blt a1
  cases e1
  refine ⟨by rw [List.length_append, ← r.1]; rfl, funext fun j => ?_⟩
  have q := congrFun r.2 j
  by_cases hj : j < 512
  · rw [iv_tq_lt hj, iv_ts_get 9 t.2 t.1 j c b1 hj, ← iv_tq_lt hj, q]
    by_cases e : j = t.1
    · rw [if_pos e, e, r.1, List.getElem?_append_right (Nat.le_refl _), Nat.sub_self]
      rfl
    · rw [if_neg e]
      by_cases hl : j < h.length
      · rw [List.getElem?_append_left hl]
      · have g1 : h[j]? = none := List.getElem?_eq_none_iff.mpr (by omega)
        have g2 : (h ++ [c])[j]? = none := List.getElem?_eq_none_iff.mpr (by rw [List.length_append]; show h.length + 1 ≤ j; have := r.1; omega)
        rw [g1, g2]
  · rw [iv_tq_ge (by omega)]
    have g2 : (h ++ [c])[j]? = none := List.getElem?_eq_none_iff.mpr (by rw [List.length_append]; show h.length + 1 ≤ j; have := r.1; omega)
    rw [g2]
def iv_tef (t : iv_T) (f : iv_F) : Option iv_T := match f with
  | none => some t
  | some (none, c) => iv_tpush t c
  | some (some k, c) => if (iv_tq t k).map iv_cz = some (iv_cz c) then iv_tset t k c else none
theorem iv_tef_s {t t' : iv_T} {h : iv_H} {f : iv_F} (e : iv_tef t f = some t') (r : iv_τ t h) : ∃ h', iv_ef h f = some h' ∧ iv_τ t' h' := by
  unfold iv_tef at e
  split at e
  · cases e; exact ⟨h, rfl, r⟩
  · exact ⟨_, rfl, iv_tpush_s e r⟩
  · rename_i k c
    split at e
    · rename_i hz
      refine ⟨_, ?_, iv_tset_s e r⟩
      rw [congrFun r.2 k] at hz
      show (if _ then _ else _) = _
      rw [if_pos hz]
    · cases e
def iv_tsum2 (t : iv_T) (k : Nat) (fs : List Value) (a b : Nat) : Option iv_T := match iv_akG (iv_tq t) a with
  | none => none
  | some q => match iv_akG (iv_tq t) b with
    | none => none
    | some u => if q.2 = 340 ∧ u.2 = 2720 ∧ iv_is q.1 .int = true ∧ iv_is u.1 .int = true then (iv_tset t b (.inr (u.1, 2720, .inr (.inr (.inl (fun _ => 0)))))).bind fun t1 => iv_tset t1 k (.inl (10, fs.set 2 (.int 1))) else none
def iv_tsum1 (t : iv_T) (k : Nat) (fs : List Value) : Option iv_T := match fs[0]? with
  | some (Value.ref a) => match fs[1]? with
    | some (Value.ref b) => match fs[2]? with
      | some (Value.int x) => if x = 0 then iv_tsum2 t k fs a b else none
      | _ => none
    | _ => none
  | _ => none
/-- a call that is told: whether it is one, and what it leaves -/
def iv_tsum (vs : List Value) (t : iv_T) : Option iv_T := match vs with
  | [Value.ref k] => match iv_tq t k with
    | some (.inl o) => if o.1 = 10 then iv_tsum1 t k o.2 else none
    | _ => none
  | _ => none
theorem iv_tsum_s {vs : List Value} {t t' : iv_T} {h : iv_H} (e : iv_tsum vs t = some t') (r : iv_τ t h) : ∃ h', iv_sum 132 vs h = some h' ∧ iv_τ t' h' := by
  unfold iv_tsum at e
  split at e
  · rename_i k
    split at e
    · rename_i o ho
      split at e
      · rename_i h10
        rw [congrFun r.2 k] at ho
        unfold iv_tsum1 at e
        split at e
        · rename_i a ha
          split at e
          · rename_i b hb
            split at e
            · rename_i x hx
              split at e
              · rename_i hx0
                unfold iv_tsum2 at e
                rw [r.2] at e
                split at e
                · cases e
                · rename_i q hq
                  split at e
                  · cases e
                  · rename_i u hu
                    split at e
                    · rename_i hc
                      obtain ⟨t1, e1, e2⟩ := Option.bind_eq_some_iff.mp e
                      refine ⟨_, ?_, iv_tset_s e2 (iv_tset_s e1 r)⟩
                      have hq' : iv_ak h a = some q := hq
                      have hu' : iv_ak h b = some u := hu
                      unfold iv_sum
                      rw [if_pos rfl]
                      dsimp only
                      rw [ho]
                      dsimp only
                      rw [if_pos h10]
                      unfold iv_sum1
                      rw [ha]
                      dsimp only
                      rw [hb]
                      dsimp only
                      rw [hx]
                      dsimp only
                      rw [if_pos hx0]
                      unfold iv_sum2
                      rw [hq']
                      dsimp only
                      rw [hu']
                      dsimp only
                      rw [if_pos hc]
                    · cases e
              · cases e
            · cases e
          · cases e
        · cases e
      · cases e
    · cases e
  · cases e
abbrev iv_ST : Type := Nat × iv_L × List Value × iv_T
def iv_yr : Nat → Option (Nat × Int32) → Nat → Nat → iv_V → iv_ST → Option (List (iv_V × Option Value × iv_T))
  | 0, _, _, _, _, _ => none
  | n + 1, scr, d, mi, V, S => match iv_cd mi S.1 with
    | none => none
    | some op => if iv_isr op = true then (iv_re mi op S.2.2.1).map fun v => [(V, v, S.2.2.2)]
      else match iv_caG mi op S.2.2.1 (iv_tq S.2.2.2) with
        | some c => match d with
          | 0 => none
          | d' + 1 => if c.1 = 132 then match iv_tsum c.2.1 S.2.2.2 with
            | some t1 => iv_yr n scr (d' + 1) mi V (S.1 + 3, S.2.1, c.2.2, t1)
            | none => none
            else match iv_yr n none d' c.1 V (0, iv_en c.1 c.2.1, [], S.2.2.2) with
              | none => none
              | some l => iv_bd (fun q => iv_yr n scr (d' + 1) mi q.1 (S.1 + 3, S.2.1, q.2.1.toList ++ c.2.2, q.2.2)) l
        | none => if iv_cm0 mi op = false then none else match iv_xG scr V mi S.1 op S.2.1 S.2.2.1 (iv_tq S.2.2.2) S.2.2.2.1 with
          | none => none
          | some l => iv_bd (fun o => match iv_tef S.2.2.2 o.2.2.2.2 with
            | none => none
            | some t' => iv_yr n scr d mi o.1 (o.2.1, o.2.2.1, o.2.2.2.1, t')) l
/-- the same outcomes, heap for heap -/
def iv_τl : List (iv_V × Option Value × iv_T) → List (iv_V × Option Value × iv_H) → Prop
  | [], [] => True
  | a :: as, b :: bs => (a.1 = b.1 ∧ a.2.1 = b.2.1 ∧ iv_τ a.2.2 b.2.2) ∧ iv_τl as bs
  | _, _ => False
theorem iv_τl_app : ∀ {a c : List (iv_V × Option Value × iv_T)} {b d : List (iv_V × Option Value × iv_H)}, iv_τl a b → iv_τl c d → iv_τl (a ++ c) (b ++ d)
  | [], _, [], _, _, h => h
  | _ :: _, _, _ :: _, _, h, g => ⟨h.1, iv_τl_app h.2 g⟩
  | [], _, _ :: _, _, h, _ => absurd h (fun q => q)
  | _ :: _, _, [], _, h, _ => absurd h (fun q => q)
theorem iv_sum_ne {mj : Nat} {vs : List Value} {h : iv_H} (e : ¬ mj = 132) : iv_sum mj vs h = none := by
  unfold iv_sum
  rw [if_neg e]
theorem iv_bd_τ {α β : Type} (R : α → β → Prop) (f : α → Option (List (iv_V × Option Value × iv_T))) (g : β → Option (List (iv_V × Option Value × iv_H))) (hfg : ∀ a b x, R a b → f a = some x → ∃ y, g b = some y ∧ iv_τl x y) : ∀ (l : List α) (m : List β) (x : List (iv_V × Option Value × iv_T)), l.length = m.length → (∀ (i : Nat) (a : α) (b : β), l[i]? = some a → m[i]? = some b → R a b) → iv_bd f l = some x → ∃ y, iv_bd g m = some y ∧ iv_τl x y := by
  intro l
  induction l with
  | nil =>
    intro m x hl hR e
    cases m with
    | nil => cases e; exact ⟨[], rfl, trivial⟩
    | cons b m => cases hl
  | cons a l ih =>
    intro m x hl hR e
    cases m with
    | nil => cases hl
    | cons b m =>
      unfold iv_bd at e
      split at e
      · cases e
      · rename_i x1 h1
        split at e
        · cases e
        · rename_i x2 h2
          cases e
          obtain ⟨y1, g1, t1⟩ := hfg a b x1 (hR 0 a b rfl rfl) h1
          obtain ⟨y2, g2, t2⟩ := ih m x2 (by simpa using hl) (fun i a b ha hb => hR (i + 1) a b (by simpa using ha) (by simpa using hb)) h2
          refine ⟨y1 ++ y2, ?_, iv_τl_app t1 t2⟩
          unfold iv_bd
          rw [g1]
          dsimp only
          rw [g2]
theorem iv_τl_ix : ∀ {a : List (iv_V × Option Value × iv_T)} {b : List (iv_V × Option Value × iv_H)}, iv_τl a b → a.length = b.length ∧ ∀ (i : Nat) (x : iv_V × Option Value × iv_T) (y : iv_V × Option Value × iv_H), a[i]? = some x → b[i]? = some y → x.1 = y.1 ∧ x.2.1 = y.2.1 ∧ iv_τ x.2.2 y.2.2
  | [], [], _ => ⟨rfl, fun i x y hx => by simp at hx⟩
  | a :: as, b :: bs, h => by
    have g := iv_τl_ix h.2
    refine ⟨by rw [List.length_cons, List.length_cons, g.1], fun i x y hx hy => ?_⟩
    cases i with
    | zero => cases hx; cases hy; exact h.1
    | succ i => exact g.2 i x y (by simpa using hx) (by simpa using hy)
  | [], _ :: _, h => absurd h (fun q => q)
  | _ :: _, [], h => absurd h (fun q => q)
theorem iv_yr_s : ∀ (n : Nat) (scr : Option (Nat × Int32)) (d mi : Nat) (V : iv_V) (pc : Nat) (al : iv_L) (st : List Value) (t : iv_T) (h : iv_H) (l : List (iv_V × Option Value × iv_T)), iv_yr n scr d mi V (pc, al, st, t) = some l → iv_τ t h → ∃ l', iv_xr n scr d mi V (pc, al, st, h) = some l' ∧ iv_τl l l' := by
  intro n
  induction n with
  | zero => intro scr d mi V pc al st t h l e; cases e
  | succ n ih =>
    intro scr d mi V pc al st t h l e r
    unfold iv_yr at e
    unfold iv_xr
    dsimp only at e ⊢
    cases hcd : iv_cd mi pc with
    | none => rw [hcd] at e; cases e
    | some op =>
      rw [hcd] at e
      dsimp only at e ⊢
      by_cases hr : iv_isr op = true
      · rw [if_pos hr] at e ⊢
        obtain ⟨v, h1, h2⟩ := Option.map_eq_some_iff.mp e
        cases h2
        rw [h1]
        exact ⟨_, rfl, ⟨rfl, rfl, r⟩, trivial⟩
      · rw [if_neg hr] at e ⊢
        rw [r.2, iv_caG_eq] at e
        cases hca : iv_ca mi op st h with
        | some c =>
          rw [hca] at e
          dsimp only at e ⊢
          cases d with
          | zero => cases e
          | succ d' =>
            dsimp only at e ⊢
            by_cases h132 : c.1 = 132
            · rw [if_pos h132] at e
              cases hs : iv_tsum c.2.1 t with
              | none => rw [hs] at e; cases e
              | some t1 =>
                rw [hs] at e
                dsimp only at e
                obtain ⟨h', k1, k2⟩ := iv_tsum_s hs r
                rw [h132, k1]
                exact ih scr (d' + 1) mi V (pc + 3) al c.2.2 t1 h' l e k2
            · rw [if_neg h132] at e
              rw [iv_sum_ne h132]
              dsimp only
              cases hq : iv_yr n none d' c.1 V (0, iv_en c.1 c.2.1, [], t) with
              | none => rw [hq] at e; cases e
              | some l1 =>
                rw [hq] at e
                dsimp only at e
                obtain ⟨l2, k1, k2⟩ := ih none d' c.1 V 0 (iv_en c.1 c.2.1) [] t h l1 hq r
                rw [k1]
                dsimp only
                obtain ⟨g1, g2⟩ := iv_τl_ix k2
                refine iv_bd_τ (fun a b => a.1 = b.1 ∧ a.2.1 = b.2.1 ∧ iv_τ a.2.2 b.2.2) _ _ (fun a b x hab hx => ?_) l1 l2 l g1 g2 e
                obtain ⟨q1, q2, q3⟩ := hab
                rw [← q1, ← q2]
                exact ih scr (d' + 1) mi a.1 (pc + 3) al (a.2.1.toList ++ c.2.2) a.2.2 b.2.2 x hx q3
        | none =>
          rw [hca] at e
          dsimp only at e ⊢
          by_cases hc0 : iv_cm0 mi op = false
          · rw [if_pos hc0] at e; cases e
          · rw [if_neg hc0] at e ⊢
            rw [r.1, iv_xG_eq] at e
            cases hx : iv_x scr V mi pc op al st h with
            | none => rw [hx] at e; cases e
            | some l1 =>
              rw [hx] at e
              dsimp only at e ⊢
              refine iv_bd_τ (fun a b => a = b) _ _ (fun a b x hab hx2 => ?_) l1 l1 l rfl (fun i a b ha hb => by rw [ha] at hb; exact Option.some.inj hb) e
              subst hab
              split at hx2
              · cases hx2
              · rename_i t' ht'
                obtain ⟨h', k1, k2⟩ := iv_tef_s ht' r
                rw [k1]
                exact ih scr d mi a.1 a.2.1 a.2.2.1 a.2.2.2.1 t' h' x hx2 k2
end
section
/-! THE LAW OVER UNKNOWN SCRIPTS, by evaluation in the kernel -/
def iv_V0 : iv_V := [(-2147483648, 2147483647), (-2147483648, 2147483647), (-2147483648, 2147483647), (-2147483648, 2147483647), (-2147483648, 2147483647), (-2147483648, 2147483647)]
def iv_tz (t : iv_T) : Nat → Nat
  | 0 => 0
  | n + 1 => iv_tz t n + (match iv_tq t n with
    | some c => iv_cz c
    | none => 0)
theorem iv_tz_s {t : iv_T} {h : iv_H} (r : iv_τ t h) : ∀ n : Nat, n ≤ h.length → iv_sz (h.take n) = iv_tz t n
  | 0, _ => rfl
  | n + 1, hn => by
    have ih := iv_tz_s r n (by omega)
    have e := congrFun r.2 n
    have hlt : n < h.length := by omega
    rw [List.getElem?_eq_getElem hlt] at e
    rw [List.take_succ, List.getElem?_eq_getElem hlt]
    show iv_sz (h.take n ++ [h[n]]) = iv_tz t n + (match iv_tq t n with
      | some c => iv_cz c
      | none => 0)
    rw [iv_sz_app, ih, e]
def iv_leaf (q : iv_V × Option Value × iv_T) : Bool := (match q.2.1 with
  | some (.int x) => decide (x = 1)
  | _ => false) && Nat.ble q.2.2.1 600000 && Nat.ble (iv_tz q.2.2 q.2.2.1) 7302250
def iv_chkV (len : Nat) (c : Int32) (V : iv_V) : Bool := match iv_yr 60000 (some (len, c)) 12 235 V (0, iv_en 235 [.retAddr 0], [], (0, iv_em 9)) with
  | some l => l.all iv_leaf
  | none => false
def iv_chk (len : Nat) (c : Int32) : Bool := iv_chkV len c iv_V0
/-- the second and third number of the script within bounds -/
def iv_V2 (a b c d : Int) : iv_V := [(-2147483648, 2147483647), (a, b), (c, d), (-2147483648, 2147483647), (-2147483648, 2147483647), (-2147483648, 2147483647)]
end
section
set_option maxRecDepth 1000000 in
theorem iv_eA : (iv_chk 6 0 && iv_chk 6 1 && iv_chk 6 2 && iv_chk 6 3) = true := by decide +kernel
end
section
set_option maxRecDepth 1000000 in
theorem iv_eB : (iv_chk 6 5 && iv_chk 6 6 && iv_chk 6 7 && iv_chk 6 8 && iv_chk 6 9 && iv_chk 6 10) = true := by decide +kernel
end
section
set_option maxRecDepth 1000000 in
theorem iv_eC : (iv_chk 6 11 && iv_chk 6 13 && iv_chk 6 14 && iv_chk 6 15 && iv_chk 6 16 && iv_chk 6 17) = true := by decide +kernel
end
section
set_option maxRecDepth 1000000 in
theorem iv_eD : (iv_chk 6 18 && iv_chk 6 19 && iv_chk 6 20 && iv_chk 6 21 && iv_chk 6 22 && iv_chk 6 23 && iv_chk 6 24 && iv_chk 6 25) = true := by decide +kernel
end
section
set_option maxRecDepth 1000000 in
theorem iv_eE : (iv_chk 0 0 && iv_chk 1 0 && iv_chk 2 0 && iv_chk 3 0 && iv_chk 4 0 && iv_chk 5 0 && iv_chk 6 27 && iv_chk 6 28 && iv_chk 6 29 && iv_chk 6 30 && iv_chk 6 31) = true := by decide +kernel
end
section
set_option maxRecDepth 1000000 in
theorem iv_eF : (iv_chk 6 26) = true := by decide +kernel
end
section
set_option maxRecDepth 1000000 in
theorem iv_eG0 : iv_chkV 6 4 (iv_V2 (-2147483648) (-1) (-2147483648) 2147483647) = true := by decide +kernel
set_option maxRecDepth 1000000 in
theorem iv_eG1 : iv_chkV 6 4 (iv_V2 0 1 (-2147483648) 1) = true := by decide +kernel
set_option maxRecDepth 1000000 in
theorem iv_eG2 : iv_chkV 6 4 (iv_V2 0 1 2 2147483647) = true := by decide +kernel
set_option maxRecDepth 1000000 in
theorem iv_eG3 : iv_chkV 6 4 (iv_V2 2 2147483647 (-2147483648) 2147483647) = true := by decide +kernel
end
section
set_option maxRecDepth 1000000 in
theorem iv_eH0 : iv_chkV 6 12 (iv_V2 (-2147483648) 0 (-2147483648) 0) = true := by decide +kernel
set_option maxRecDepth 1000000 in
theorem iv_eH1 : iv_chkV 6 12 (iv_V2 (-2147483648) 0 1 7) = true := by decide +kernel
set_option maxRecDepth 1000000 in
theorem iv_eH2 : iv_chkV 6 12 (iv_V2 (-2147483648) 0 8 2147483647) = true := by decide +kernel
end
section
set_option maxRecDepth 1000000 in
theorem iv_eH3 : iv_chkV 6 12 (iv_V2 1 1 (-2147483648) 0) = true := by decide +kernel
set_option maxRecDepth 1000000 in
theorem iv_eH4 : iv_chkV 6 12 (iv_V2 1 1 1 7) = true := by decide +kernel
set_option maxRecDepth 1000000 in
theorem iv_eH5 : iv_chkV 6 12 (iv_V2 1 1 8 2147483647) = true := by decide +kernel
end
section
set_option maxRecDepth 1000000 in
theorem iv_eH6 : iv_chkV 6 12 (iv_V2 2 2147483647 (-2147483648) 0) = true := by decide +kernel
set_option maxRecDepth 1000000 in
theorem iv_eH7 : iv_chkV 6 12 (iv_V2 2 2147483647 1 7) = true := by decide +kernel
set_option maxRecDepth 1000000 in
theorem iv_eH8 : iv_chkV 6 12 (iv_V2 2 2147483647 8 2147483647) = true := by decide +kernel
end
section
/-! THE CLAIM OUT OF ONE WALK OF THE LAW'S BODY. Your part is whole_start (and what it stands on); all else here is the same for every law, but numbers. -/
def R_law : String := "ZoneSharesLaw"
def lw_P (b : Addr) (xs : List Int32) (args : Array Value) (s : State) : Prop := args = #[.ref b] ∧ s.IntsAt b xs ∧ xs.length ≤ 6 ∧ (Jvm.Cond.and given_1 narrow_1).before args s = true
/-- what a walk over the start with the record d0 says of its end, said of the start itself -/
theorem lw_closed {s t : State} {o : Outcome} {d0 : Drawn} {L : List Loc} {k n : Nat} (hd0 : s.drawn.sameBut d0 lw_cs) (hv : ∃ v, o = .returned v) (hW : (s.setDrawn d0).WarmedH t.vm) (hs : (s.setDrawn d0).sameButNew ({ t with vm := s.vm } : State) L k n) : State.butDraws s t lw_cs (fun t1 => Framed s o t1 L k n) := by
  have h2 : t.drawn = d0 := congrArg State.drawn hs.1
  refine ⟨⟨hv, hW, State.sameButNew.setDrawn hs s.drawn⟩, ?_, by decide⟩
  rw [h2]
  exact hd0
def lw_Q (_ : Array Value) (s : State) (o : Outcome) (t : State) : Prop := o = .returned (some (.int 1)) ∧ State.butDraws s t lw_cs (fun t1 => Framed s o t1 [] 600000 7302250)
def lw_Z (below : List Frame) (a : Array Value) (s : State) : State → Prop := fun t => ∃ o, t.status = .running ∧ Ended t below o ∧ lw_Q a s o t
/-- the law's own end, with 1 on the stack, nothing written that was there before, its room as the claim has it; d0: the record of draws at this point (at the entry s.drawn: begin with 'refine W.base ?_' and 'have hd0 := Drawn.sameBut.refl s.drawn lw_cs') -/
theorem lw_ret {p : Program} {l : Launch} {e : Env} {s : State} {m : MethodId} {below : List Frame} {meth : Method} {c : Code} {b : Nat} {d0 : Drawn} (hd0 : s.drawn.sameBut d0 lw_cs) (hx : p.tables.exec = Jvm.exec) (hb : c.code = code) (hr : meth.sig.returnType = ret) (hlocks : meth.locks = false) {pc : Nat} {H : Heap} {ls : Array Slot} (hdg : decode code pc = .ok (.ireturn, 1)) : W p l e room_1 (s.setDrawn d0) m #[Value.ref b] below meth c H [] 600000 7302250 (lw_Z below #[Value.ref b] s) (F0 m pc ls [.int 1]) := by
  intro T hT X
  obtain ⟨fs, hret, hrun, hended, hW, hframe⟩ := X.leave (v := some (.int 1)) (hlocks := hlocks) (fun h => by rw [hr] at h; cases h)
  have hmeth' : T.vm.method? m = some meth := X.method'
  refine ⟨T.setFrames fs, ?_, .returned (some (.int 1)), hrun, hended, rfl, lw_closed hd0 ⟨_, rfl⟩ hW hframe⟩
  jvm_step X.here [X.here.top, hx, hb, hdg, hmeth', hr, ret, narrow_b1]
  (try refine ⟨rfl, ?_⟩); (try refine ⟨rfl, ?_⟩)
  first | (intro acts; rw [hret _ acts rfl rfl rfl]) | rw [hret _ _ rfl rfl rfl]
  exact Steps.refl _
/-- what holds at the law's entry: the machine, the code, the tables' words (any of lw_tbl by 'hts w (by decide +kernel)'), the script of L ints xs at the cell b, what the Statement gives of the start (any of its parts by flat_of_before) -/
def lw_At (p : Program) (s : State) (m : MethodId) (meth : Method) (c : Code) (b L : Nat) (xs : Nat → Int32) : Prop :=
  p.tables.exec = Jvm.exec ∧ c.code = code ∧ meth.sig.returnType = ret ∧ c.maxLocals = 4 ∧ s.vm.findClass R_law = some m.cls ∧ (∀ w ∈ lw_tbl, w.before #[Value.ref b] s = true) ∧ va_X b L xs s s.heap ∧ b < s.heap.size ∧ meth.locks = false ∧ (Jvm.Cond.and given_1 narrow_1).before #[Value.ref b] s = true
/-! THE LAW FROM ITS ENTRY, by a run of the interpreter -/
theorem iv_Wd_sub {w : Cond} (h : w ∈ iv_Wd) : w ∈ lw_tbl := (List.mem_filter.mp h).1
theorem iv_K0 {s : State} {b : Addr} (hts : ∀ w ∈ lw_tbl, w.before #[Value.ref b] s = true) : ∃ (D : va_G) (cO : Nat → ClassId), iv_K D cO s := by
  have hts' : ∀ w ∈ iv_Wd, w.before #[Value.ref b] s = true := fun w hw => hts w (iv_Wd_sub hw)
  have h1 : ∀ k : Nat, ∃ ci : ClassId × (Nat → Nat), ∀ q : vw_C, iv_cl[k]? = some q → u_Kn s q.1 q.2.1 q.2.2 ci.1 ci.2 := by
    intro k
    cases hk : iv_cl[k]? with
    | none => exact ⟨(0, fun _ => 0), fun q hq => by cases hq⟩
    | some q =>
      obtain ⟨C, T, N⟩ := q
      obtain ⟨c1, -, -, c4, -⟩ := iv_fC hk
      obtain ⟨c, iS, h⟩ := u_known (C := C) (T := T) (N := N) (n := N) hts' c1 (hts' _ c4)
      exact ⟨(c, iS), fun q hq => by cases hq; exact h⟩
  have h2 : ∀ t : Nat, ∃ cA : ClassId, ∀ ty : FieldType, iv_ty[t]? = some ty → ArrOfT s cA ty ∧ va_RA s cA ty := by
    obtain ⟨w1, w2, w3, w4⟩ := iv_ckA_all
    have prim : ∀ ty : FieldType, Cond.arrayClass ty ∈ iv_Wd → (∀ c : ClassId, s.vm.findClass ("[" ++ ty.toString) = some c → va_RA s c ty) → ∃ cA : ClassId, ArrOfT s cA ty ∧ va_RA s cA ty := by
      intro ty hw hr
      obtain ⟨c, k, comp, a1, a2, a3⟩ := Cond.arrayClass_spec (hts' _ hw)
      exact ⟨c, fun n z => ⟨fun k h => (by cases h), k, a2, comp, a3⟩, hr c a1⟩
    have obj : ∀ C : String, C ∈ iv_ao → ∃ cA : ClassId, ArrOfT s cA (.object C) ∧ va_RA s cA (.object C) := by
      intro C hC
      have hw := of_decide_eq_true (List.all_eq_true.mp iv_ckX.2 C hC)
      obtain ⟨comp, c, k, a1, a2, a3, a4, a5⟩ := Cond.arrayOver_spec (hts _ hw)
      exact ⟨c, fun n z => ⟨(fun k h => by cases h), k, a3, comp, a4⟩, k, comp, a3, a4, a1, a5⟩
    intro t
    match t with
    | 0 =>
      obtain ⟨cA, h⟩ := prim .int (iv_wo_s w1) (fun c h => h)
      exact ⟨cA, fun ty hty => by cases hty; exact h⟩
    | 1 =>
      obtain ⟨cA, h⟩ := prim .long (iv_wo_s w2) (fun c h => h)
      exact ⟨cA, fun ty hty => by cases hty; exact h⟩
    | 2 =>
      obtain ⟨cA, h⟩ := prim .boolean (iv_wo_s w3) (fun c h => h)
      exact ⟨cA, fun ty hty => by cases hty; exact h⟩
    | 3 =>
      obtain ⟨cA, h⟩ := prim .byte (iv_wo_s w4) (fun c h => h)
      exact ⟨cA, fun ty hty => by cases hty; exact h⟩
    | 4 =>
      obtain ⟨cA, h⟩ := obj "ZoneShares$Group" (by decide +kernel)
      exact ⟨cA, fun ty hty => by cases hty; exact h⟩
    | 5 =>
      obtain ⟨cA, h⟩ := obj "ZoneShares$State" (by decide +kernel)
      exact ⟨cA, fun ty hty => by cases hty; exact h⟩
    | t + 6 => exact ⟨0, fun ty hty => by simp [iv_ty] at hty⟩
  refine ⟨(fun k => (Classical.choose (h1 k)).1, fun k => (Classical.choose (h1 k)).2), fun t => Classical.choose (h2 t), ⟨fun c q hq => Classical.choose_spec (h1 c) q hq, fun k q hq => ?_⟩, fun C hC => ?_, fun q hq => ?_⟩
  · unfold iv_tys at hq
    rw [List.getElem?_mapIdx] at hq
    cases hk : iv_ty[k]? with
    | none => rw [hk] at hq; cases hq
    | some ty =>
      rw [hk] at hq
      cases hq
      exact Classical.choose_spec (h2 k) ty hk
  · exact va_AO.of (hts _ (of_decide_eq_true (List.all_eq_true.mp iv_ckX.2 C hC)))
  · exact va_Nw.of rfl (hts _ (of_decide_eq_true (List.all_eq_true.mp iv_ckX.1 q hq)))
theorem iv_by_law : iv_by 235 = code := rfl
theorem iv_mx_law : iv_mx 235 = 4 := by decide +kernel
theorem iv_cn_law : iv_cn (iv_kf 235) = R_law := by decide +kernel
theorem iv_ini_law : iv_ini 235 = false := by decide +kernel
set_option maxHeartbeats 2000000 in
theorem iv_start {p : Program} {e : Env} {s : State} {m : MethodId} {below : List Frame} {meth : Method} {c : Code} (l : Launch) {b L : Nat} {xs : Nat → Int32} (C0 : lw_At p s m meth c b L xs) {n d : Nat} {h' : iv_H} (hd : d ≤ 2000) (hrun : iv_run (some (L, xs)) n d 235 (0, iv_en 235 [.retAddr 0], [], []) = some (some (.int 1), h')) (hc : h'.length ≤ 600000) (hs : iv_sz h' ≤ 7302250) : W p l e room_1 s m #[Value.ref b] below meth c s.heap [] 0 0 (lw_Z below #[Value.ref b] s) (entryFrame m ([Value.ref b] : List Value).toArray 4) := by
  obtain ⟨hx, hb, hr, hml, hown, hts, hX, hbl, hlocks, hgv⟩ := id C0
  obtain ⟨D, cO, hK⟩ := iv_K0 hts
  have ad : iv_A := fun _ => b
  obtain ⟨ad, had⟩ : ∃ ad : iv_A, ad = fun _ => b := ⟨_, rfl⟩
  have hbA : ¬ (fun q : Nat => s.heap.size ≤ q) b := Nat.not_le.mpr hbl
  have hSD := iv_sound n (some (L, xs)) d 235 _ _ hrun
  rw [lg_entry_eq]
  have hl0 := lv_entry ([.ref b]) (n := 4) (Nat.le_of_ble_eq_true rfl)
  have hl := iv_lv_sub (l' := iv_ll ad (iv_en 235 [.retAddr 0])) hl0 (fun x hx => by
    obtain ⟨v, h1, h2⟩ := iv_ll_mem.mp hx
    have h3 := iv_ex_sub ad [.retAddr 0] 0 x.1 v (iv_en_get h1)
    rw [Nat.zero_add, ← h2] at h3
    have e1 : ([Value.retAddr 0] : List Value).map (iv_v ad) = [.ref b] := by rw [had]; rfl
    rw [e1] at h3
    exact h3)
  have X : iv_X D cO p s m #[Value.ref b] meth c 235 := ⟨hx, hb.trans iv_by_law.symm, hml.trans iv_mx_law.symm, by rw [iv_cn_law]; exact hown, fun w hw => hts w (iv_Wd_sub hw), fun hi => (by rw [iv_ini_law] at hi; cases hi), hK⟩
  have hP : va_P D iv_cl (iv_w ad cO []) s.heap := fun k q h => by simp [iv_w] at h
  have hD : va_D (fun q : Nat => s.heap.size ≤ q) (iv_w ad cO []) := ⟨fun i j p q h => by simp [iv_w] at h, fun k q h => by simp [iv_w] at h⟩
  refine hSD () (l := l) (e := e) (R := room_1) (below := below) (cells := 0) (slots := 0) (mc := 600000) (ms := 7302250) (A := fun q : Nat => s.heap.size ≤ q) (ad := ad) X ⟨hP, hD, va_S.rf, by rw [iv_mx_law]; exact hl, fun i v hv k hk => ?_, iv_gl_nil _, fun k c h => by simp at h⟩ (fun q h => h) (fun q hq => by cases hq; rw [had]; exact ⟨hX, hbl, hbA⟩) (by show 0 + (h'.length - 0) ≤ 600000; omega) (by show 0 + (iv_sz h' - 0) ≤ 7302250; omega) (Nat.le_refl _) (Nat.le_refl _) (by show d + 1 ≤ 2048; omega) (by show 40 * d + 100 ≤ 84000; omega) ?_
  · have := iv_ex_mem (iv_en_get hv)
    rw [List.mem_singleton] at this
    rw [this] at hk
    cases hk
  · intro ad' H' locs' ls' pc' op st' hcd hre hag hgr p1 d1 s1
    rcases iv_re_v hre with ⟨_, _, hv, _⟩ | ⟨x, ty, rfl, rfl, hv, _⟩ | ⟨x, _, _, hv, _⟩ | ⟨x, ty, _, _, hv, _⟩
    · cases hv
    · cases hv
      refine va_forget (fun q hq => s1.2.2 q hq) ?_
      have hdec := iv_d1 hcd rfl
      rw [iv_by_law] at hdec
      refine W.base ?_
      exact lw_ret (Drawn.sameBut.refl s.drawn lw_cs) hx hb hr hlocks hdec
    · cases hv
    · cases hv
theorem iv_γh_sz : ∀ {h k : iv_H}, iv_γh h k → iv_sz k = iv_sz h
  | [], [], _ => rfl
  | [], _ :: _, g => absurd g.1 (by simp)
  | _ :: _, [], g => absurd g.1 (by simp)
  | a :: h, c :: k, g => by
    have g0 : iv_γc a c := by
      obtain ⟨c', h1, h2⟩ := g.2 0 a rfl
      cases h1
      exact h2
    have gt : iv_γh h k := ⟨by have := g.1; simpa using this, fun i x hx => by
      obtain ⟨c', h1, h2⟩ := g.2 (i + 1) x (by simpa using hx)
      exact ⟨c', by simpa using h1, h2⟩⟩
    show iv_cz c + iv_sz k = iv_cz a + iv_sz h
    rw [iv_γc_z g0, iv_γh_sz gt]
theorem iv_V0_s (ρ : Nat → Int32) : iv_sat ρ iv_V0 := by
  intro k q hq
  have a := Int32.le_toInt (ρ k)
  have b := Int32.toInt_lt (ρ k)
  have hq2 : q = (-2147483648, 2147483647) := by
    match k, hq with
    | 0, hq => cases hq; rfl
    | 1, hq => cases hq; rfl
    | 2, hq => cases hq; rfl
    | 3, hq => cases hq; rfl
    | 4, hq => cases hq; rfl
    | 5, hq => cases hq; rfl
    | k + 6, hq => simp [iv_V0] at hq
  subst hq2
  exact ⟨by simpa using a, by show (ρ k).toInt ≤ 2147483647; omega⟩
theorem iv_τ0 : iv_τ (0, iv_em 9) [] := ⟨rfl, funext fun k => by
  unfold iv_tq
  cases Nat.ble 512 k with
  | true => simp
  | false => show iv_tl 9 (iv_em 9 : iv_Tr iv_C 9) k = _; rw [iv_em_get]; simp⟩
def iv_ends (len : Nat) (xs : Nat → Int32) : Prop := ∃ (n : Nat) (h' : iv_H), iv_run (some (len, xs)) n 12 235 (0, iv_en 235 [.retAddr 0], [], []) = some (some (.int 1), h') ∧ h'.length ≤ 600000 ∧ iv_sz h' ≤ 7302250
theorem iv_chkV_s {len : Nat} {c : Int32} {V : iv_V} (h : iv_chkV len c V = true) (xs : Nat → Int32) (hV : iv_sat xs V) (hc : len = 6 → xs 0 &&& 31 = c) : iv_ends len xs := by
  unfold iv_chkV at h
  split at h
  · rename_i l0 hl0
    obtain ⟨l, hl, hll⟩ := iv_yr_s _ _ _ _ _ _ _ _ _ _ _ hl0 iv_τ0
    obtain ⟨q, m1, -, r, n, k1, k2, -, k4, -⟩ := iv_xr_s _ _ _ _ _ _ _ hl xs (some (len, xs)) (0, iv_en 235 [.retAddr 0], [], []) (fun c' hc' => by cases hc'; exact ⟨rfl, hc⟩) hV rfl (iv_γl_en 235 ⟨rfl, trivial⟩) trivial ⟨rfl, fun i a h => by simp at h⟩ (fun i o h => by simp at h)
    obtain ⟨i, m2⟩ := List.mem_iff_getElem?.mp m1
    obtain ⟨g1, g2⟩ := iv_τl_ix hll
    have hi : i < l.length := (List.getElem?_eq_some_iff.mp m2).1
    have m3 := List.getElem?_eq_getElem (l := l0) (i := i) (by omega)
    obtain ⟨-, v1, v2⟩ := g2 i _ _ m3 m2
    have hq := List.all_eq_true.mp h (l0[i]'(by omega)) (List.getElem_mem _)
    unfold iv_leaf at hq
    simp only [Bool.and_eq_true] at hq
    rw [v1, v2.1] at hq
    obtain ⟨⟨q1, q2⟩, q3⟩ := hq
    have hz := iv_tz_s v2 _ (Nat.le_refl _)
    rw [List.take_length] at hz
    rw [← hz] at q3
    refine ⟨n, r.2, ?_, ?_, ?_⟩
    · rw [k1]
      have e1 : r.1 = some (.int 1) := by
        rw [k2]
        split at q1
        · rename_i x hx
          rw [hx, of_decide_eq_true q1]
        · cases q1
      rw [← e1]
    · rw [← k4.1]; exact Nat.le_of_ble_eq_true q2
    · rw [iv_γh_sz k4]; exact Nat.le_of_ble_eq_true q3
  · cases h
theorem iv_chk_s {len : Nat} {c : Int32} (h : iv_chk len c = true) (xs : Nat → Int32) (hc : len = 6 → xs 0 &&& 31 = c) : iv_ends len xs := iv_chkV_s h xs (iv_V0_s xs) hc
theorem iv_V2_s {ρ : Nat → Int32} {a b c d : Int} (h1 : a ≤ (ρ 1).toInt) (h2 : (ρ 1).toInt ≤ b) (h3 : c ≤ (ρ 2).toInt) (h4 : (ρ 2).toInt ≤ d) : iv_sat ρ (iv_V2 a b c d) := by
  intro k q hq
  match k, hq with
  | 0, hq => exact iv_V0_s ρ 0 q hq
  | 1, hq => cases hq; exact ⟨h1, h2⟩
  | 2, hq => cases hq; exact ⟨h3, h4⟩
  | 3, hq => exact iv_V0_s ρ 3 q hq
  | 4, hq => exact iv_V0_s ρ 4 q hq
  | 5, hq => exact iv_V0_s ρ 5 q hq
  | k + 6, hq => simp [iv_V2] at hq
theorem iv_rg2 (x : Int32) : -2147483648 ≤ x.toInt ∧ x.toInt ≤ 2147483647 := by
  have a := Int32.le_toInt x
  have b := Int32.toInt_lt x
  exact ⟨by simpa using a, by omega⟩
theorem iv_c4 (xs : Nat → Int32) (hc : xs 0 &&& 31 = 4) : iv_ends 6 xs := by
  obtain ⟨a1, a2⟩ := iv_rg2 (xs 1)
  obtain ⟨b1, b2⟩ := iv_rg2 (xs 2)
  by_cases h1 : (xs 1).toInt ≤ -1
  · exact iv_chkV_s iv_eG0 xs (iv_V2_s a1 h1 b1 b2) (fun _ => hc)
  · by_cases h2 : (xs 1).toInt ≤ 1
    · by_cases h3 : (xs 2).toInt ≤ 1
      · exact iv_chkV_s iv_eG1 xs (iv_V2_s (by omega) h2 b1 h3) (fun _ => hc)
      · exact iv_chkV_s iv_eG2 xs (iv_V2_s (by omega) h2 (by omega) b2) (fun _ => hc)
    · exact iv_chkV_s iv_eG3 xs (iv_V2_s (by omega) a2 b1 b2) (fun _ => hc)
theorem iv_c12 (xs : Nat → Int32) (hc : xs 0 &&& 31 = 12) : iv_ends 6 xs := by
  obtain ⟨a1, a2⟩ := iv_rg2 (xs 1)
  obtain ⟨b1, b2⟩ := iv_rg2 (xs 2)
  by_cases g0 : (xs 2).toInt ≤ 0
  · by_cases h1 : (xs 1).toInt ≤ 0
    · exact iv_chkV_s iv_eH0 xs (iv_V2_s a1 h1 b1 g0) (fun _ => hc)
    · by_cases h2 : (xs 1).toInt ≤ 1
      · exact iv_chkV_s iv_eH3 xs (iv_V2_s (by omega) h2 b1 g0) (fun _ => hc)
      · exact iv_chkV_s iv_eH6 xs (iv_V2_s (by omega) a2 b1 g0) (fun _ => hc)
  · by_cases g1 : (xs 2).toInt ≤ 7
    · by_cases h1 : (xs 1).toInt ≤ 0
      · exact iv_chkV_s iv_eH1 xs (iv_V2_s a1 h1 (by omega) g1) (fun _ => hc)
      · by_cases h2 : (xs 1).toInt ≤ 1
        · exact iv_chkV_s iv_eH4 xs (iv_V2_s (by omega) h2 (by omega) g1) (fun _ => hc)
        · exact iv_chkV_s iv_eH7 xs (iv_V2_s (by omega) a2 (by omega) g1) (fun _ => hc)
    · by_cases h1 : (xs 1).toInt ≤ 0
      · exact iv_chkV_s iv_eH2 xs (iv_V2_s a1 h1 (by omega) b2) (fun _ => hc)
      · by_cases h2 : (xs 1).toInt ≤ 1
        · exact iv_chkV_s iv_eH5 xs (iv_V2_s (by omega) h2 (by omega) b2) (fun _ => hc)
        · exact iv_chkV_s iv_eH8 xs (iv_V2_s (by omega) a2 (by omega) b2) (fun _ => hc)
theorem iv_chk6 (xs : Nat → Int32) : ∀ j : Nat, j < 32 → xs 0 &&& 31 = nI j → iv_ends 6 xs := by
  have a := iv_eA
  have b := iv_eB
  have c := iv_eC
  have d := iv_eD
  have e := iv_eE
  have f := iv_eF
  simp only [Bool.and_eq_true] at a b c d e
  obtain ⟨⟨⟨a0, a1⟩, a2⟩, a3⟩ := a
  obtain ⟨⟨⟨⟨⟨b5, b6⟩, b7⟩, b8⟩, b9⟩, b10⟩ := b
  obtain ⟨⟨⟨⟨⟨c11, c13⟩, c14⟩, c15⟩, c16⟩, c17⟩ := c
  obtain ⟨⟨⟨⟨⟨⟨⟨d18, d19⟩, d20⟩, d21⟩, d22⟩, d23⟩, d24⟩, d25⟩ := d
  obtain ⟨⟨⟨⟨⟨-, e27⟩, e28⟩, e29⟩, e30⟩, e31⟩ := e
  intro j hj hx
  by_cases h4 : j = 4
  · subst h4
    exact iv_c4 xs hx
  by_cases h12 : j = 12
  · subst h12
    exact iv_c12 xs hx
  refine iv_chk_s (c := nI j) ?_ xs (fun _ => hx)
  have hk : j = 0 ∨ j = 1 ∨ j = 2 ∨ j = 3 ∨ j = 5 ∨ j = 6 ∨ j = 7 ∨ j = 8 ∨ j = 9 ∨ j = 10 ∨ j = 11 ∨ j = 13 ∨ j = 14 ∨ j = 15 ∨ j = 16 ∨ j = 17 ∨ j = 18 ∨ j = 19 ∨ j = 20 ∨ j = 21 ∨ j = 22 ∨ j = 23 ∨ j = 24 ∨ j = 25 ∨ j = 26 ∨ j = 27 ∨ j = 28 ∨ j = 29 ∨ j = 30 ∨ j = 31 := by omega
  clear hx hj h4 h12
  rcases hk with rfl | rfl | rfl | rfl | rfl | rfl | rfl | rfl | rfl | rfl | rfl | rfl | rfl | rfl | rfl | rfl | rfl | rfl | rfl | rfl | rfl | rfl | rfl | rfl | rfl | rfl | rfl | rfl | rfl | rfl
  · exact a0
  · exact a1
  · exact a2
  · exact a3
  · exact b5
  · exact b6
  · exact b7
  · exact b8
  · exact b9
  · exact b10
  · exact c11
  · exact c13
  · exact c14
  · exact c15
  · exact c16
  · exact c17
  · exact d18
  · exact d19
  · exact d20
  · exact d21
  · exact d22
  · exact d23
  · exact d24
  · exact d25
  · exact f
  · exact e27
  · exact e28
  · exact e29
  · exact e30
  · exact e31
theorem iv_chk5 : ∀ j : Nat, j < 6 → iv_chk j 0 = true := by
  have e := iv_eE
  simp only [Bool.and_eq_true] at e
  obtain ⟨⟨⟨⟨⟨⟨⟨⟨⟨⟨e0, e1⟩, e2⟩, e3⟩, e4⟩, e5⟩, -⟩, -⟩, -⟩, -⟩, -⟩ := e
  intro j hj
  have hk : j = 0 ∨ j = 1 ∨ j = 2 ∨ j = 3 ∨ j = 4 ∨ j = 5 := by omega
  rcases hk with rfl | rfl | rfl | rfl | rfl | rfl
  · exact e0
  · exact e1
  · exact e2
  · exact e3
  · exact e4
  · exact e5
/-- THE LAW, from its entry -/
theorem whole_start {p : Program} {e : Env} {s : State} {m : MethodId} {below : List Frame} {meth : Method} {c : Code} (l : Launch) (hflags : l.flags = flags0) {b L : Nat} {xs : Nat → Int32} (hL : L ≤ 6) (C0 : lw_At p s m meth c b L xs) : W p l e room_1 s m #[Value.ref b] below meth c s.heap [] 0 0 (lw_Z below #[Value.ref b] s) (entryFrame m ([Value.ref b] : List Value).toArray 4) := by
  by_cases h6 : L = 6
  · subst h6
    obtain ⟨j, hj, hx⟩ := pk_andE (xs 0) (m := 31) 5 (by decide)
    obtain ⟨n, h', k1, k2, k3⟩ := iv_chk6 xs j hj hx
    exact iv_start l C0 (by omega) k1 k2 k3
  · obtain ⟨n, h', k1, k2, k3⟩ := iv_chk_s (iv_chk5 L (by omega)) xs (fun h => absurd h h6)
    exact iv_start l C0 (by omega) k1 k2 k3
-- ===== YOUR PART ENDS =====
set_option maxHeartbeats 4000000 in
theorem lw_walk (l : Launch) (hflags : l.flags = flags0) (b : Addr) (xs : List Int32) : MetFree l x (headSpec (Jvm.Cond.code x code maxLocals ret :: tables_1) room_1) (lw_P b xs) (fun _ _ _ _ _ => True) lw_Q := by
  refine MetFree.of_bodyS (code := code) (maxLocals := maxLocals) (ret := ret) (by decide) ?_ ?_
  · intro args s m h hn
    obtain ⟨meth, c, h1, h2, h3, h4, h5, h6, -, -⟩ := Cond.code_spec hn (atoms_spec (ws := Jvm.Cond.code x code maxLocals ret :: tables_1) h _ List.mem_cons_self)
    exact ⟨meth, c, h1, h2, h3, h4, h5, h6⟩
  · intro p e s m args below meth c s₁ B hml0 hP _
    obtain ⟨rfl, hx, hbd, hgv⟩ := hP
    obtain ⟨scr, harrAt, hlist, hof, hsmall⟩ := hx
    obtain ⟨hcb, hkn, -, -⟩ := State.arrayAt?_spec harrAt
    have hown : s.vm.findClass R_law = some m.cls := findClass_of_methodNamed B.named
    have hts0 : ∀ c ∈ (Jvm.Cond.code x code maxLocals ret :: tables_1), c.before #[Value.ref b] s = true := atoms_spec (ws := Jvm.Cond.code x code maxLocals ret :: tables_1) B.pre
    have hts : ∀ w ∈ lw_tbl, w.before #[Value.ref b] s = true := k2_hts_sels lw_privs (fun w hw => hts0 w (List.mem_cons_of_mem _ hw)) lw_privs_ok
    have hml : c.maxLocals = 4 := B.maxLocals_eq (hts0 _ List.mem_cons_self)
    have X₀ : Stand p l e room_1 s m #[Value.ref b] below meth c s₁ [] 0 0 := Stand.of_body B
    have hh0 : s₁.heap = s.heap := by rw [B.state]; rfl
    have hsz : scr.slots.size = xs.length := by rw [← Array.length_toList, hlist, List.length_map]
    have hval : ∀ j : Nat, j < xs.length → scr.slots[j]? = some (.int (xs.getD j 0)) := fun j hj => by
      rw [← Array.getElem?_toList, hlist]
      simp [hj]
    have hbl : b < s.heap.size := (Array.getElem?_eq_some_iff.mp hcb).1
    have hX : va_X b xs.length (fun j => xs.getD j 0) s s.heap := ⟨scr, hcb, hof, hkn, hsz, hval⟩
    have K : W p l e room_1 s m #[Value.ref b] below meth c s₁.heap [] 0 0 (lw_Z below #[Value.ref b] s) (entryFrame m ([Value.ref b] : List Value).toArray 4) := by
      rw [hh0]
      exact whole_start l hflags hbd ⟨B.exec, B.bytes, B.returns, hml, hown, hts, hX, hbl, B.notSynchronized, hgv⟩
    obtain ⟨t, a1, o, b1, b2, b3⟩ := K s₁ rfl X₀
    exact ⟨t, o, a1, b1, b2, b3⟩
theorem lw_pre_spec {args : Array Value} {s : State} (h : (Jvm.Cond.and given_1 narrow_1).before args s = true) (hr : rest_1_c.before args s = true) : ∃ (b : Addr) (xs : List Int32), lw_P b xs args s := by
  have hs := flat_of_before _ h
  have hq := flat_of_before _ hr
  have hc : (Cond.count 1).before args s = true := hs _ (by decide +kernel)
  have harr : (Cond.arrayOf (.arg 0) .int).before args s = true := hs _ (by decide +kernel)
  have hle : (Cond.le (.length (.arg 0)) (.int 6)).before args s = true := hs _ (by decide +kernel)
  have hlen : (Cond.isInt (.length (.arg 0))).before args s = true := hq _ (by decide +kernel)
  have hall : (Cond.all (.arg 0) (.isInt (.elem (.arg 0) (.index 0)))).before args s = true := hq _ (by decide +kernel)
  obtain ⟨b, xs, hb, hx⟩ := State.ints_of_pre rfl harr hlen hall
  have hsm : xs.length < 2 ^ 31 := hx.choose_spec.2.2.2
  have hev : (Term.length (.arg 0)).eval args s none [] s = some (.int xs.length.toInt32) := hx.length_eval hb
  have hv := Cond.le_ints hev (show (Term.int 6).eval args s none [] s = some (.int 6) from rfl)
  have hd : xs.length.toInt32 ≤ 6 := by
    simpa [Cond.before, Cond.holds, hv] using hle
  have hN : xs.length ≤ 6 := (Int32.ofNat_le_ofNat hsm (by decide)).mp (show Int32.ofNat xs.length ≤ Int32.ofNat 6 from hd)
  exact ⟨b, xs, Cond.one_arg hc (show args[0]? = some (.ref b) from hb), hx, hN, h⟩
theorem lw_comes (l : Launch) (hflags : l.flags = flags0) : Comes l x (Jvm.Cond.code x code maxLocals ret :: tables_1) room_1 (fun tb e args s => Calls_1 tb e args s ∧ rest_1 tb e args s ∧ Pre_1 tb e args s)
    (fun _ _ args s o t => lw_Q args s o t) := by
  intro p e ha hc hk s m args below hf hfit hheap happ hpre
  obtain ⟨b, xs, hP⟩ := lw_pre_spec hpre.2.2 hpre.2.1
  obtain ⟨k, o, h1, h2, h3, hQ⟩ := lw_walk l hflags b xs p e ha hc hk s m args below hf ((Spec.applies_iff_loose hf).mp happ).1 hP trivial
  exact ⟨k, o, h1, h2, h3, hQ⟩
theorem lw_frame {s t : State} {o : Outcome} {args : Array Value} (h : State.butDraws s t lw_cs (fun t1 => Framed s o t1 [] 600000 7302250)) :
    State.butDraws s t [Jvm.Choice.named "NaN.bits", Jvm.Choice.named "NaN.copy"] (fun t1 => Framed s o t1 (fieldLocs frame_1_writes args s ++ arrayLocs frame_1_arrays args s ++ staticLocs frame_1_statics s) 600000 7302250) := h
theorem lw_limb (L : Cond) (hL : ∀ (args : Array Value) (s t : State), L.after args s (.returned (some (.int 1))) t = true) :
    ArmFor flags0 classFile x code maxLocals ret World_1 tables_1 room_1 Calls_1 rest_1 Pre_1
      (fun tb e a s o t => postC L tb e a s o t ∧ State.butDraws s t [Jvm.Choice.named "NaN.bits", Jvm.Choice.named "NaN.copy"] (fun t1 => Framed s o t1 (fieldLocs frame_1_writes a s ++ arrayLocs frame_1_arrays a s ++ staticLocs frame_1_statics s) 600000 7302250)) := by
  intro l hflags _ _ p e ha hc hk s m args below hf hfit hheap happ hpre
  obtain ⟨k, o, h1, h2, h3, rfl, hF⟩ := lw_comes l hflags p e ha hc hk s m args below hf hfit hheap happ hpre
  exact ⟨k, _, h1, h2, h3, hL args s _, lw_frame hF⟩
theorem i_vc : Claimed_1_1 ∧ Claimed_1_2 := ⟨lw_limb limb_1_1 (fun args s t => by simp [limb_1_1, Cond.after, Cond.holds, Cond.value]), lw_limb limb_1_2 (fun args s t => Cond.after_iff.mpr (by
  first | (rw [show limb_1_2 = Cond.eq .result (.int 1) from rfl, Cond.eq_ints (x := 1) (y := 1) rfl rfl]; simp; done) | (simp [limb_1_2, Cond.value, Term.eval]; done)))⟩
end
