section
-- ===== PART A: goes FIRST, ahead of the names: the tables' words, and 'selects' of the private methods out of them =====
/-- a private method of a class that the tables say can be made, by its rows of tables_1 -/
def lw_okq (q : MethodName × Nat) : Prop := (q.1.cls ≠ "java/lang/invoke/MethodHandle" ∧ q.1.cls ≠ "java/lang/invoke/VarHandle") ∧ Cond.instantiable q.1.cls q.2 ∈ tables_1 ∧ Cond.privateMethod q.1 ∈ tables_1 ∧ Cond.instanceMethod q.1 ∈ tables_1
theorem lw_p0 : lw_okq (⟨"BallotPapers$History", "stateAt", "(I)LBallotPapers$Poll;"⟩, 3) := ⟨⟨by decide +kernel, by decide +kernel⟩, List.mem_of_getElem? (i := 73) (by decide +kernel), List.mem_of_getElem? (i := 220) (by decide +kernel), List.mem_of_getElem? (i := 221) (by decide +kernel)⟩
theorem lw_p1 : lw_okq (⟨"BallotPapers", "settingOfCount", "(I)I"⟩, 6) := ⟨⟨by decide +kernel, by decide +kernel⟩, List.mem_of_getElem? (i := 13) (by decide +kernel), List.mem_of_getElem? (i := 415) (by decide +kernel), List.mem_of_getElem? (i := 416) (by decide +kernel)⟩
theorem lw_p2 : lw_okq (⟨"BallotPapers$Sheet", "measure", "(LBallotPapers$Poll;II)V"⟩, 12) := ⟨⟨by decide +kernel, by decide +kernel⟩, List.mem_of_getElem? (i := 92) (by decide +kernel), List.mem_of_getElem? (i := 442) (by decide +kernel), List.mem_of_getElem? (i := 443) (by decide +kernel)⟩
theorem lw_p3 : lw_okq (⟨"BallotPapers$Sheet", "layTitle", "(II)V"⟩, 12) := ⟨⟨by decide +kernel, by decide +kernel⟩, List.mem_of_getElem? (i := 92) (by decide +kernel), List.mem_of_getElem? (i := 458) (by decide +kernel), List.mem_of_getElem? (i := 459) (by decide +kernel)⟩
theorem lw_p4 : lw_okq (⟨"BallotPapers$Sheet", "behindFold", "(I)I"⟩, 12) := ⟨⟨by decide +kernel, by decide +kernel⟩, List.mem_of_getElem? (i := 92) (by decide +kernel), List.mem_of_getElem? (i := 462) (by decide +kernel), List.mem_of_getElem? (i := 463) (by decide +kernel)⟩
theorem lw_p5 : lw_okq (⟨"BallotPapers$Sheet", "fits", "(II)Z"⟩, 12) := ⟨⟨by decide +kernel, by decide +kernel⟩, List.mem_of_getElem? (i := 92) (by decide +kernel), List.mem_of_getElem? (i := 466) (by decide +kernel), List.mem_of_getElem? (i := 467) (by decide +kernel)⟩
theorem lw_p6 : lw_okq (⟨"BallotPapers$Sheet", "layNames", "(LBallotPapers$Poll;II)V"⟩, 12) := ⟨⟨by decide +kernel, by decide +kernel⟩, List.mem_of_getElem? (i := 92) (by decide +kernel), List.mem_of_getElem? (i := 470) (by decide +kernel), List.mem_of_getElem? (i := 471) (by decide +kernel)⟩
theorem lw_p7 : lw_okq (⟨"BallotPapers$Sheet", "layName", "(I)V"⟩, 12) := ⟨⟨by decide +kernel, by decide +kernel⟩, List.mem_of_getElem? (i := 92) (by decide +kernel), List.mem_of_getElem? (i := 474) (by decide +kernel), List.mem_of_getElem? (i := 475) (by decide +kernel)⟩
theorem lw_p8 : lw_okq (⟨"BallotPapers", "areEven", "(I)Z"⟩, 6) := ⟨⟨by decide +kernel, by decide +kernel⟩, List.mem_of_getElem? (i := 13) (by decide +kernel), List.mem_of_getElem? (i := 550) (by decide +kernel), List.mem_of_getElem? (i := 551) (by decide +kernel)⟩
theorem lw_p9 : lw_okq (⟨"BallotPapers", "pagesByWidth", "(I)I"⟩, 6) := ⟨⟨by decide +kernel, by decide +kernel⟩, List.mem_of_getElem? (i := 13) (by decide +kernel), List.mem_of_getElem? (i := 562) (by decide +kernel), List.mem_of_getElem? (i := 563) (by decide +kernel)⟩
theorem lw_p10 : lw_okq (⟨"BallotPapers$Ballot", "readVersion", "(LBallotPapers$Text;)I"⟩, 7) := ⟨⟨by decide +kernel, by decide +kernel⟩, List.mem_of_getElem? (i := 158) (by decide +kernel), List.mem_of_getElem? (i := 599) (by decide +kernel), List.mem_of_getElem? (i := 600) (by decide +kernel)⟩
theorem lw_p11 : lw_okq (⟨"BallotPapers$Ballot", "blame", "(II)V"⟩, 7) := ⟨⟨by decide +kernel, by decide +kernel⟩, List.mem_of_getElem? (i := 158) (by decide +kernel), List.mem_of_getElem? (i := 613) (by decide +kernel), List.mem_of_getElem? (i := 614) (by decide +kernel)⟩
theorem lw_p12 : lw_okq (⟨"BallotPapers$Ballot", "readMarks", "(LBallotPapers$Text;I)V"⟩, 7) := ⟨⟨by decide +kernel, by decide +kernel⟩, List.mem_of_getElem? (i := 158) (by decide +kernel), List.mem_of_getElem? (i := 622) (by decide +kernel), List.mem_of_getElem? (i := 623) (by decide +kernel)⟩
theorem lw_p13 : lw_okq (⟨"BallotPapers$Ballot", "noteMark", "(III)V"⟩, 7) := ⟨⟨by decide +kernel, by decide +kernel⟩, List.mem_of_getElem? (i := 158) (by decide +kernel), List.mem_of_getElem? (i := 628) (by decide +kernel), List.mem_of_getElem? (i := 629) (by decide +kernel)⟩
theorem lw_p14 : lw_okq (⟨"BallotPapers$Ballot", "judge", "(LBallotPapers$Poll;)V"⟩, 7) := ⟨⟨by decide +kernel, by decide +kernel⟩, List.mem_of_getElem? (i := 158) (by decide +kernel), List.mem_of_getElem? (i := 633) (by decide +kernel), List.mem_of_getElem? (i := 634) (by decide +kernel)⟩
theorem lw_p15 : lw_okq (⟨"BallotPapers$Ballot", "nameOfMark", "(LBallotPapers$Poll;I)I"⟩, 7) := ⟨⟨by decide +kernel, by decide +kernel⟩, List.mem_of_getElem? (i := 158) (by decide +kernel), List.mem_of_getElem? (i := 638) (by decide +kernel), List.mem_of_getElem? (i := 639) (by decide +kernel)⟩
def lw_privs_1 : List (MethodName × Nat) := [(⟨"BallotPapers$History", "stateAt", "(I)LBallotPapers$Poll;"⟩, 3), (⟨"BallotPapers", "settingOfCount", "(I)I"⟩, 6), (⟨"BallotPapers$Sheet", "measure", "(LBallotPapers$Poll;II)V"⟩, 12), (⟨"BallotPapers$Sheet", "layTitle", "(II)V"⟩, 12), (⟨"BallotPapers$Sheet", "behindFold", "(I)I"⟩, 12), (⟨"BallotPapers$Sheet", "fits", "(II)Z"⟩, 12), (⟨"BallotPapers$Sheet", "layNames", "(LBallotPapers$Poll;II)V"⟩, 12), (⟨"BallotPapers$Sheet", "layName", "(I)V"⟩, 12), (⟨"BallotPapers", "areEven", "(I)Z"⟩, 6), (⟨"BallotPapers", "pagesByWidth", "(I)I"⟩, 6), (⟨"BallotPapers$Ballot", "readVersion", "(LBallotPapers$Text;)I"⟩, 7), (⟨"BallotPapers$Ballot", "blame", "(II)V"⟩, 7), (⟨"BallotPapers$Ballot", "readMarks", "(LBallotPapers$Text;I)V"⟩, 7), (⟨"BallotPapers$Ballot", "noteMark", "(III)V"⟩, 7), (⟨"BallotPapers$Ballot", "judge", "(LBallotPapers$Poll;)V"⟩, 7), (⟨"BallotPapers$Ballot", "nameOfMark", "(LBallotPapers$Poll;I)I"⟩, 7)]
theorem lw_r1 : ∀ q ∈ lw_privs_1, lw_okq q := List.forall_mem_cons.mpr ⟨lw_p0, List.forall_mem_cons.mpr ⟨lw_p1, List.forall_mem_cons.mpr ⟨lw_p2, List.forall_mem_cons.mpr ⟨lw_p3, List.forall_mem_cons.mpr ⟨lw_p4, List.forall_mem_cons.mpr ⟨lw_p5, List.forall_mem_cons.mpr ⟨lw_p6, List.forall_mem_cons.mpr ⟨lw_p7, List.forall_mem_cons.mpr ⟨lw_p8, List.forall_mem_cons.mpr ⟨lw_p9, List.forall_mem_cons.mpr ⟨lw_p10, List.forall_mem_cons.mpr ⟨lw_p11, List.forall_mem_cons.mpr ⟨lw_p12, List.forall_mem_cons.mpr ⟨lw_p13, List.forall_mem_cons.mpr ⟨lw_p14, List.forall_mem_cons.mpr ⟨lw_p15, fun _ h => absurd h List.not_mem_nil⟩⟩⟩⟩⟩⟩⟩⟩⟩⟩⟩⟩⟩⟩⟩⟩
theorem lw_p16 : lw_okq (⟨"BallotPapers$Ballot", "standsAhead", "(I)Z"⟩, 7) := ⟨⟨by decide +kernel, by decide +kernel⟩, List.mem_of_getElem? (i := 158) (by decide +kernel), List.mem_of_getElem? (i := 644) (by decide +kernel), List.mem_of_getElem? (i := 645) (by decide +kernel)⟩
theorem lw_p17 : lw_okq (⟨"BallotPapers$Ballot", "marksIn", "(I)I"⟩, 7) := ⟨⟨by decide +kernel, by decide +kernel⟩, List.mem_of_getElem? (i := 158) (by decide +kernel), List.mem_of_getElem? (i := 669) (by decide +kernel), List.mem_of_getElem? (i := 670) (by decide +kernel)⟩
theorem lw_p18 : lw_okq (⟨"BallotPapers$Ballot", "addVotes", "(LBallotPapers$Poll;I)V"⟩, 7) := ⟨⟨by decide +kernel, by decide +kernel⟩, List.mem_of_getElem? (i := 158) (by decide +kernel), List.mem_of_getElem? (i := 678) (by decide +kernel), List.mem_of_getElem? (i := 679) (by decide +kernel)⟩
theorem lw_p19 : lw_okq (⟨"BallotPapersModel", "changes", "()V"⟩, 19) := ⟨⟨by decide +kernel, by decide +kernel⟩, List.mem_of_getElem? (i := 692) (by decide +kernel), List.mem_of_getElem? (i := 763) (by decide +kernel), List.mem_of_getElem? (i := 764) (by decide +kernel)⟩
theorem lw_p20 : lw_okq (⟨"BallotPapersModel", "isContest", "(I)Z"⟩, 19) := ⟨⟨by decide +kernel, by decide +kernel⟩, List.mem_of_getElem? (i := 692) (by decide +kernel), List.mem_of_getElem? (i := 771) (by decide +kernel), List.mem_of_getElem? (i := 772) (by decide +kernel)⟩
theorem lw_p21 : lw_okq (⟨"BallotPapersModel", "of", "(II)I"⟩, 19) := ⟨⟨by decide +kernel, by decide +kernel⟩, List.mem_of_getElem? (i := 692) (by decide +kernel), List.mem_of_getElem? (i := 775) (by decide +kernel), List.mem_of_getElem? (i := 776) (by decide +kernel)⟩
theorem lw_p22 : lw_okq (⟨"BallotPapersModel", "isVersion", "(I)Z"⟩, 19) := ⟨⟨by decide +kernel, by decide +kernel⟩, List.mem_of_getElem? (i := 692) (by decide +kernel), List.mem_of_getElem? (i := 787) (by decide +kernel), List.mem_of_getElem? (i := 788) (by decide +kernel)⟩
theorem lw_p23 : lw_okq (⟨"BallotPapersModel", "votesIn", "(I)I"⟩, 19) := ⟨⟨by decide +kernel, by decide +kernel⟩, List.mem_of_getElem? (i := 692) (by decide +kernel), List.mem_of_getElem? (i := 806) (by decide +kernel), List.mem_of_getElem? (i := 807) (by decide +kernel)⟩
theorem lw_p24 : lw_okq (⟨"BallotPapersModel", "votesOf", "(II)I"⟩, 19) := ⟨⟨by decide +kernel, by decide +kernel⟩, List.mem_of_getElem? (i := 692) (by decide +kernel), List.mem_of_getElem? (i := 810) (by decide +kernel), List.mem_of_getElem? (i := 811) (by decide +kernel)⟩
theorem lw_p25 : lw_okq (⟨"BallotPapersModel", "isName", "(II)Z"⟩, 19) := ⟨⟨by decide +kernel, by decide +kernel⟩, List.mem_of_getElem? (i := 692) (by decide +kernel), List.mem_of_getElem? (i := 818) (by decide +kernel), List.mem_of_getElem? (i := 819) (by decide +kernel)⟩
theorem lw_p26 : lw_okq (⟨"BallotPapersModel", "lengthOf", "(II)I"⟩, 19) := ⟨⟨by decide +kernel, by decide +kernel⟩, List.mem_of_getElem? (i := 692) (by decide +kernel), List.mem_of_getElem? (i := 822) (by decide +kernel), List.mem_of_getElem? (i := 823) (by decide +kernel)⟩
theorem lw_p27 : lw_okq (⟨"BallotPapersModel", "firstOn", "(II)I"⟩, 19) := ⟨⟨by decide +kernel, by decide +kernel⟩, List.mem_of_getElem? (i := 692) (by decide +kernel), List.mem_of_getElem? (i := 826) (by decide +kernel), List.mem_of_getElem? (i := 827) (by decide +kernel)⟩
theorem lw_p28 : lw_okq (⟨"BallotPapersModel", "standing", "(III)I"⟩, 19) := ⟨⟨by decide +kernel, by decide +kernel⟩, List.mem_of_getElem? (i := 692) (by decide +kernel), List.mem_of_getElem? (i := 830) (by decide +kernel), List.mem_of_getElem? (i := 831) (by decide +kernel)⟩
theorem lw_p29 : lw_okq (⟨"BallotPapersModel", "seated", "(II)I"⟩, 19) := ⟨⟨by decide +kernel, by decide +kernel⟩, List.mem_of_getElem? (i := 692) (by decide +kernel), List.mem_of_getElem? (i := 834) (by decide +kernel), List.mem_of_getElem? (i := 835) (by decide +kernel)⟩
theorem lw_p30 : lw_okq (⟨"BallotPapersModel", "names", "()I"⟩, 19) := ⟨⟨by decide +kernel, by decide +kernel⟩, List.mem_of_getElem? (i := 692) (by decide +kernel), List.mem_of_getElem? (i := 842) (by decide +kernel), List.mem_of_getElem? (i := 843) (by decide +kernel)⟩
theorem lw_p31 : lw_okq (⟨"BallotPapersModel", "allPapers", "()I"⟩, 19) := ⟨⟨by decide +kernel, by decide +kernel⟩, List.mem_of_getElem? (i := 692) (by decide +kernel), List.mem_of_getElem? (i := 846) (by decide +kernel), List.mem_of_getElem? (i := 847) (by decide +kernel)⟩
def lw_privs_2 : List (MethodName × Nat) := [(⟨"BallotPapers$Ballot", "standsAhead", "(I)Z"⟩, 7), (⟨"BallotPapers$Ballot", "marksIn", "(I)I"⟩, 7), (⟨"BallotPapers$Ballot", "addVotes", "(LBallotPapers$Poll;I)V"⟩, 7), (⟨"BallotPapersModel", "changes", "()V"⟩, 19), (⟨"BallotPapersModel", "isContest", "(I)Z"⟩, 19), (⟨"BallotPapersModel", "of", "(II)I"⟩, 19), (⟨"BallotPapersModel", "isVersion", "(I)Z"⟩, 19), (⟨"BallotPapersModel", "votesIn", "(I)I"⟩, 19), (⟨"BallotPapersModel", "votesOf", "(II)I"⟩, 19), (⟨"BallotPapersModel", "isName", "(II)Z"⟩, 19), (⟨"BallotPapersModel", "lengthOf", "(II)I"⟩, 19), (⟨"BallotPapersModel", "firstOn", "(II)I"⟩, 19), (⟨"BallotPapersModel", "standing", "(III)I"⟩, 19), (⟨"BallotPapersModel", "seated", "(II)I"⟩, 19), (⟨"BallotPapersModel", "names", "()I"⟩, 19), (⟨"BallotPapersModel", "allPapers", "()I"⟩, 19)]
theorem lw_r2 : ∀ q ∈ lw_privs_2, lw_okq q := List.forall_mem_cons.mpr ⟨lw_p16, List.forall_mem_cons.mpr ⟨lw_p17, List.forall_mem_cons.mpr ⟨lw_p18, List.forall_mem_cons.mpr ⟨lw_p19, List.forall_mem_cons.mpr ⟨lw_p20, List.forall_mem_cons.mpr ⟨lw_p21, List.forall_mem_cons.mpr ⟨lw_p22, List.forall_mem_cons.mpr ⟨lw_p23, List.forall_mem_cons.mpr ⟨lw_p24, List.forall_mem_cons.mpr ⟨lw_p25, List.forall_mem_cons.mpr ⟨lw_p26, List.forall_mem_cons.mpr ⟨lw_p27, List.forall_mem_cons.mpr ⟨lw_p28, List.forall_mem_cons.mpr ⟨lw_p29, List.forall_mem_cons.mpr ⟨lw_p30, List.forall_mem_cons.mpr ⟨lw_p31, fun _ h => absurd h List.not_mem_nil⟩⟩⟩⟩⟩⟩⟩⟩⟩⟩⟩⟩⟩⟩⟩⟩
theorem lw_p32 : lw_okq (⟨"BallotPapersModel", "lays", "(I)I"⟩, 19) := ⟨⟨by decide +kernel, by decide +kernel⟩, List.mem_of_getElem? (i := 692) (by decide +kernel), List.mem_of_getElem? (i := 862) (by decide +kernel), List.mem_of_getElem? (i := 863) (by decide +kernel)⟩
theorem lw_p33 : lw_okq (⟨"BallotPapersModel", "laysContest", "(IIZ)V"⟩, 19) := ⟨⟨by decide +kernel, by decide +kernel⟩, List.mem_of_getElem? (i := 692) (by decide +kernel), List.mem_of_getElem? (i := 866) (by decide +kernel), List.mem_of_getElem? (i := 867) (by decide +kernel)⟩
theorem lw_p34 : lw_okq (⟨"BallotPapersModel", "titleLines", "(I)I"⟩, 19) := ⟨⟨by decide +kernel, by decide +kernel⟩, List.mem_of_getElem? (i := 692) (by decide +kernel), List.mem_of_getElem? (i := 870) (by decide +kernel), List.mem_of_getElem? (i := 871) (by decide +kernel)⟩
theorem lw_p35 : lw_okq (⟨"BallotPapersModel", "pushed", "(I)I"⟩, 19) := ⟨⟨by decide +kernel, by decide +kernel⟩, List.mem_of_getElem? (i := 692) (by decide +kernel), List.mem_of_getElem? (i := 877) (by decide +kernel), List.mem_of_getElem? (i := 878) (by decide +kernel)⟩
theorem lw_p36 : lw_okq (⟨"BallotPapersModel", "isFold", "(I)Z"⟩, 19) := ⟨⟨by decide +kernel, by decide +kernel⟩, List.mem_of_getElem? (i := 692) (by decide +kernel), List.mem_of_getElem? (i := 881) (by decide +kernel), List.mem_of_getElem? (i := 882) (by decide +kernel)⟩
theorem lw_p37 : lw_okq (⟨"BallotPapersModel", "nameLines", "(II)I"⟩, 19) := ⟨⟨by decide +kernel, by decide +kernel⟩, List.mem_of_getElem? (i := 692) (by decide +kernel), List.mem_of_getElem? (i := 885) (by decide +kernel), List.mem_of_getElem? (i := 886) (by decide +kernel)⟩
theorem lw_p38 : lw_okq (⟨"BallotPapersModel", "laysName", "(II)V"⟩, 19) := ⟨⟨by decide +kernel, by decide +kernel⟩, List.mem_of_getElem? (i := 692) (by decide +kernel), List.mem_of_getElem? (i := 889) (by decide +kernel), List.mem_of_getElem? (i := 890) (by decide +kernel)⟩
theorem lw_p39 : lw_okq (⟨"BallotPapersModel", "placeOf", "(III)I"⟩, 19) := ⟨⟨by decide +kernel, by decide +kernel⟩, List.mem_of_getElem? (i := 692) (by decide +kernel), List.mem_of_getElem? (i := 893) (by decide +kernel), List.mem_of_getElem? (i := 894) (by decide +kernel)⟩
theorem lw_p40 : lw_okq (⟨"BallotPapersModel", "isEven", "(II)Z"⟩, 19) := ⟨⟨by decide +kernel, by decide +kernel⟩, List.mem_of_getElem? (i := 692) (by decide +kernel), List.mem_of_getElem? (i := 913) (by decide +kernel), List.mem_of_getElem? (i := 914) (by decide +kernel)⟩
theorem lw_p41 : lw_okq (⟨"BallotPapersModel", "pages", "(I)I"⟩, 19) := ⟨⟨by decide +kernel, by decide +kernel⟩, List.mem_of_getElem? (i := 692) (by decide +kernel), List.mem_of_getElem? (i := 921) (by decide +kernel), List.mem_of_getElem? (i := 922) (by decide +kernel)⟩
theorem lw_p42 : lw_okq (⟨"BallotPapersModel", "isRight", "()Z"⟩, 19) := ⟨⟨by decide +kernel, by decide +kernel⟩, List.mem_of_getElem? (i := 692) (by decide +kernel), List.mem_of_getElem? (i := 941) (by decide +kernel), List.mem_of_getElem? (i := 942) (by decide +kernel)⟩
theorem lw_p43 : lw_okq (⟨"BallotPapersModel", "isFormed", "()Z"⟩, 19) := ⟨⟨by decide +kernel, by decide +kernel⟩, List.mem_of_getElem? (i := 692) (by decide +kernel), List.mem_of_getElem? (i := 945) (by decide +kernel), List.mem_of_getElem? (i := 946) (by decide +kernel)⟩
theorem lw_p44 : lw_okq (⟨"BallotPapersModel", "readsVersion", "()Z"⟩, 19) := ⟨⟨by decide +kernel, by decide +kernel⟩, List.mem_of_getElem? (i := 692) (by decide +kernel), List.mem_of_getElem? (i := 949) (by decide +kernel), List.mem_of_getElem? (i := 950) (by decide +kernel)⟩
theorem lw_p45 : lw_okq (⟨"BallotPapersModel", "isAt", "(II)Z"⟩, 19) := ⟨⟨by decide +kernel, by decide +kernel⟩, List.mem_of_getElem? (i := 692) (by decide +kernel), List.mem_of_getElem? (i := 953) (by decide +kernel), List.mem_of_getElem? (i := 954) (by decide +kernel)⟩
theorem lw_p46 : lw_okq (⟨"BallotPapersModel", "readsMark", "()Z"⟩, 19) := ⟨⟨by decide +kernel, by decide +kernel⟩, List.mem_of_getElem? (i := 692) (by decide +kernel), List.mem_of_getElem? (i := 957) (by decide +kernel), List.mem_of_getElem? (i := 958) (by decide +kernel)⟩
theorem lw_p47 : lw_okq (⟨"BallotPapersModel", "isTwice", "(I)Z"⟩, 19) := ⟨⟨by decide +kernel, by decide +kernel⟩, List.mem_of_getElem? (i := 692) (by decide +kernel), List.mem_of_getElem? (i := 961) (by decide +kernel), List.mem_of_getElem? (i := 962) (by decide +kernel)⟩
def lw_privs_3 : List (MethodName × Nat) := [(⟨"BallotPapersModel", "lays", "(I)I"⟩, 19), (⟨"BallotPapersModel", "laysContest", "(IIZ)V"⟩, 19), (⟨"BallotPapersModel", "titleLines", "(I)I"⟩, 19), (⟨"BallotPapersModel", "pushed", "(I)I"⟩, 19), (⟨"BallotPapersModel", "isFold", "(I)Z"⟩, 19), (⟨"BallotPapersModel", "nameLines", "(II)I"⟩, 19), (⟨"BallotPapersModel", "laysName", "(II)V"⟩, 19), (⟨"BallotPapersModel", "placeOf", "(III)I"⟩, 19), (⟨"BallotPapersModel", "isEven", "(II)Z"⟩, 19), (⟨"BallotPapersModel", "pages", "(I)I"⟩, 19), (⟨"BallotPapersModel", "isRight", "()Z"⟩, 19), (⟨"BallotPapersModel", "isFormed", "()Z"⟩, 19), (⟨"BallotPapersModel", "readsVersion", "()Z"⟩, 19), (⟨"BallotPapersModel", "isAt", "(II)Z"⟩, 19), (⟨"BallotPapersModel", "readsMark", "()Z"⟩, 19), (⟨"BallotPapersModel", "isTwice", "(I)Z"⟩, 19)]
theorem lw_r3 : ∀ q ∈ lw_privs_3, lw_okq q := List.forall_mem_cons.mpr ⟨lw_p32, List.forall_mem_cons.mpr ⟨lw_p33, List.forall_mem_cons.mpr ⟨lw_p34, List.forall_mem_cons.mpr ⟨lw_p35, List.forall_mem_cons.mpr ⟨lw_p36, List.forall_mem_cons.mpr ⟨lw_p37, List.forall_mem_cons.mpr ⟨lw_p38, List.forall_mem_cons.mpr ⟨lw_p39, List.forall_mem_cons.mpr ⟨lw_p40, List.forall_mem_cons.mpr ⟨lw_p41, List.forall_mem_cons.mpr ⟨lw_p42, List.forall_mem_cons.mpr ⟨lw_p43, List.forall_mem_cons.mpr ⟨lw_p44, List.forall_mem_cons.mpr ⟨lw_p45, List.forall_mem_cons.mpr ⟨lw_p46, List.forall_mem_cons.mpr ⟨lw_p47, fun _ h => absurd h List.not_mem_nil⟩⟩⟩⟩⟩⟩⟩⟩⟩⟩⟩⟩⟩⟩⟩⟩
theorem lw_p48 : lw_okq (⟨"BallotPapersModel", "marksIn", "(I)I"⟩, 19) := ⟨⟨by decide +kernel, by decide +kernel⟩, List.mem_of_getElem? (i := 692) (by decide +kernel), List.mem_of_getElem? (i := 969) (by decide +kernel), List.mem_of_getElem? (i := 970) (by decide +kernel)⟩
def lw_privs_4 : List (MethodName × Nat) := [(⟨"BallotPapersModel", "marksIn", "(I)I"⟩, 19)]
theorem lw_r4 : ∀ q ∈ lw_privs_4, lw_okq q := List.forall_mem_cons.mpr ⟨lw_p48, fun _ h => absurd h List.not_mem_nil⟩
def lw_privs : List (MethodName × Nat) := lw_privs_1 ++ (lw_privs_2 ++ (lw_privs_3 ++ (lw_privs_4)))
def lw_tbl : List Cond := k2_sels lw_privs ++ tables_1
theorem lw_privs_ok : ∀ q ∈ lw_privs, lw_okq q := by
  show ∀ q ∈ lw_privs_1 ++ (lw_privs_2 ++ (lw_privs_3 ++ (lw_privs_4))), lw_okq q
  exact List.forall_mem_append.mpr ⟨lw_r1, List.forall_mem_append.mpr ⟨lw_r2, List.forall_mem_append.mpr ⟨lw_r3, lw_r4⟩⟩⟩
end
section
def RX0 : String := "BallotPapers$Ballot"
def TX0 : u_T := fun k => match k with
  | 0 => ("BallotPapers$Ballot", "contestOfMark", "[I", true)
  | 1 => ("BallotPapers$Ballot", "placeOfMark", "[I", true)
  | 2 => ("BallotPapers$Ballot", "signOfMark", "[I", true)
  | 3 => ("BallotPapers$Ballot", "version", "I", false)
  | 4 => ("BallotPapers$Ballot", "marks", "I", false)
  | 5 => ("BallotPapers$Ballot", "faultAt", "I", false)
  | _ => ("BallotPapers$Ballot", "reason", "I", false)
def tyX0 : Nat → FieldType := fun k => match k with
  | 0 => .array .int
  | 1 => .array .int
  | 2 => .array .int
  | 3 => .int
  | 4 => .int
  | 5 => .int
  | _ => .int
abbrev wsX00 : List Cond := u_ws RX0 TX0 7
theorem nmX0 : ∀ a, a < 7 → ∀ b, b < 7 → a ≠ b → (TX0 a).2.1 ≠ (TX0 b).2.1 := by decide +kernel
theorem tyX0_ok : ∀ k, k < 7 → parseFieldDescriptor (TX0 k).2.2.1 = some (tyX0 k) := by decide +kernel
abbrev cX0_init : ByteArray := prog_2_method_1_code
def yX0_init : MethodName := ⟨RX0, "<init>", "()V"⟩
abbrev cX0_reason : ByteArray := prog_2_method_2_code
def yX0_reason : MethodName := ⟨RX0, "reason", "()I"⟩
abbrev cX0_faultAt : ByteArray := prog_2_method_3_code
def yX0_faultAt : MethodName := ⟨RX0, "faultAt", "()I"⟩
abbrev cX0_read : ByteArray := prog_2_method_4_code
def yX0_read : MethodName := ⟨RX0, "read", "(LBallotPapers$Text;LBallotPapers$Poll;)V"⟩
abbrev cX0_blame : ByteArray := prog_2_method_5_code
def yX0_blame : MethodName := ⟨RX0, "blame", "(II)V"⟩
abbrev cX0_readVersion : ByteArray := prog_2_method_6_code
def yX0_readVersion : MethodName := ⟨RX0, "readVersion", "(LBallotPapers$Text;)I"⟩
abbrev cX0_readMarks : ByteArray := prog_2_method_7_code
def yX0_readMarks : MethodName := ⟨RX0, "readMarks", "(LBallotPapers$Text;I)V"⟩
abbrev cX0_noteMark : ByteArray := prog_2_method_8_code
def yX0_noteMark : MethodName := ⟨RX0, "noteMark", "(III)V"⟩
abbrev cX0_judge : ByteArray := prog_2_method_9_code
def yX0_judge : MethodName := ⟨RX0, "judge", "(LBallotPapers$Poll;)V"⟩
abbrev cX0_nameOfMark : ByteArray := prog_2_method_10_code
def yX0_nameOfMark : MethodName := ⟨RX0, "nameOfMark", "(LBallotPapers$Poll;I)I"⟩
abbrev cX0_standsAhead : ByteArray := prog_2_method_11_code
def yX0_standsAhead : MethodName := ⟨RX0, "standsAhead", "(I)Z"⟩
abbrev cX0_countIn : ByteArray := prog_2_method_12_code
def yX0_countIn : MethodName := ⟨RX0, "countIn", "(LBallotPapers$Poll;)I"⟩
abbrev cX0_marksIn : ByteArray := prog_2_method_13_code
def yX0_marksIn : MethodName := ⟨RX0, "marksIn", "(I)I"⟩
abbrev cX0_addVotes : ByteArray := prog_2_method_14_code
def yX0_addVotes : MethodName := ⟨RX0, "addVotes", "(LBallotPapers$Poll;I)V"⟩
def RX1 : String := "BallotPapers$Firsts"
def TX1 : u_T := fun k => match k with
  | _ => ("BallotPapers$Firsts", "times", "[I", true)
def tyX1 : Nat → FieldType := fun k => match k with
  | _ => .array .int
abbrev wsX10 : List Cond := u_ws RX1 TX1 1
theorem nmX1 : ∀ a, a < 1 → ∀ b, b < 1 → a ≠ b → (TX1 a).2.1 ≠ (TX1 b).2.1 := by decide +kernel
theorem tyX1_ok : ∀ k, k < 1 → parseFieldDescriptor (TX1 k).2.2.1 = some (tyX1 k) := by decide +kernel
abbrev cX1_init : ByteArray := prog_3_method_1_code
def yX1_init : MethodName := ⟨RX1, "<init>", "()V"⟩
abbrev cX1_onPapers : ByteArray := prog_3_method_2_code
def yX1_onPapers : MethodName := ⟨RX1, "onPapers", "(LBallotPapers$Poll;I)V"⟩
abbrev cX1_inVersions : ByteArray := prog_3_method_3_code
def yX1_inVersions : MethodName := ⟨RX1, "inVersions", "(LBallotPapers$Poll;II)V"⟩
abbrev cX1_timesOf : ByteArray := prog_3_method_4_code
def yX1_timesOf : MethodName := ⟨RX1, "timesOf", "(I)I"⟩
abbrev cX1_difference : ByteArray := prog_3_method_5_code
def yX1_difference : MethodName := ⟨RX1, "difference", "(I)I"⟩
def RX2 : String := "BallotPapers$History"
def TX2 : u_T := fun k => match k with
  | 0 => ("BallotPapers$History", "states", "[LBallotPapers$Poll;", true)
  | 1 => ("BallotPapers$History", "oldest", "I", false)
  | _ => ("BallotPapers$History", "kept", "I", false)
def tyX2 : Nat → FieldType := fun k => match k with
  | 0 => .array (.object "BallotPapers$Poll")
  | 1 => .int
  | _ => .int
abbrev wsX20 : List Cond := u_ws RX2 TX2 3
theorem nmX2 : ∀ a, a < 3 → ∀ b, b < 3 → a ≠ b → (TX2 a).2.1 ≠ (TX2 b).2.1 := by decide +kernel
theorem tyX2_ok : ∀ k, k < 3 → parseFieldDescriptor (TX2 k).2.2.1 = some (tyX2 k) := by decide +kernel
abbrev cX2_init : ByteArray := prog_4_method_1_code
def yX2_init : MethodName := ⟨RX2, "<init>", "()V"⟩
abbrev cX2_kept : ByteArray := prog_4_method_2_code
def yX2_kept : MethodName := ⟨RX2, "kept", "()I"⟩
abbrev cX2_keep : ByteArray := prog_4_method_3_code
def yX2_keep : MethodName := ⟨RX2, "keep", "(LBallotPapers$Poll;)V"⟩
abbrev cX2_restore : ByteArray := prog_4_method_4_code
def yX2_restore : MethodName := ⟨RX2, "restore", "(LBallotPapers$Poll;)V"⟩
abbrev cX2_stateAt : ByteArray := prog_4_method_5_code
def yX2_stateAt : MethodName := ⟨RX2, "stateAt", "(I)LBallotPapers$Poll;"⟩
def RX3 : String := "BallotPapers$Poll"
def TX3 : u_T := fun k => match k with
  | 0 => ("BallotPapers$Poll", "contests", "I", false)
  | 1 => ("BallotPapers$Poll", "ballots", "I", false)
  | 2 => ("BallotPapers$Poll", "titles", "[I", true)
  | 3 => ("BallotPapers$Poll", "seats", "[I", true)
  | 4 => ("BallotPapers$Poll", "ways", "[I", true)
  | 5 => ("BallotPapers$Poll", "names", "[I", true)
  | 6 => ("BallotPapers$Poll", "spoilt", "[I", true)
  | 7 => ("BallotPapers$Poll", "blank", "[I", true)
  | 8 => ("BallotPapers$Poll", "lengths", "[I", true)
  | 9 => ("BallotPapers$Poll", "votes", "[I", true)
  | 10 => ("BallotPapers$Poll", "papers", "[I", true)
  | _ => ("BallotPapers$Poll", "settings", "[I", true)
def tyX3 : Nat → FieldType := fun k => match k with
  | 0 => .int
  | 1 => .int
  | 2 => .array .int
  | 3 => .array .int
  | 4 => .array .int
  | 5 => .array .int
  | 6 => .array .int
  | 7 => .array .int
  | 8 => .array .int
  | 9 => .array .int
  | 10 => .array .int
  | _ => .array .int
abbrev wsX30 : List Cond := u_ws RX3 TX3 12
theorem nmX3 : ∀ a, a < 12 → ∀ b, b < 12 → a ≠ b → (TX3 a).2.1 ≠ (TX3 b).2.1 := by decide +kernel
theorem tyX3_ok : ∀ k, k < 12 → parseFieldDescriptor (TX3 k).2.2.1 = some (tyX3 k) := by decide +kernel
abbrev cX3_init : ByteArray := prog_5_method_1_code
def yX3_init : MethodName := ⟨RX3, "<init>", "()V"⟩
abbrev cX3_become : ByteArray := prog_5_method_2_code
def yX3_become : MethodName := ⟨RX3, "become", "(LBallotPapers$Poll;)V"⟩
abbrev cX3_slot : ByteArray := prog_5_method_3_code
def yX3_slot : MethodName := ⟨RX3, "slot", "(II)I"⟩
abbrev cX3_addContest : ByteArray := prog_5_method_4_code
def yX3_addContest : MethodName := ⟨RX3, "addContest", "(II)I"⟩
abbrev cX3_addName : ByteArray := prog_5_method_5_code
def yX3_addName : MethodName := ⟨RX3, "addName", "(II)I"⟩
abbrev cX3_turnBy : ByteArray := prog_5_method_6_code
def yX3_turnBy : MethodName := ⟨RX3, "turnBy", "(II)I"⟩
abbrev cX3_printPapers : ByteArray := prog_5_method_7_code
def yX3_printPapers : MethodName := ⟨RX3, "printPapers", "(II)I"⟩
abbrev cX3_change : ByteArray := prog_5_method_8_code
def yX3_change : MethodName := ⟨RX3, "change", "(II)I"⟩
abbrev cX3_forgetVotes : ByteArray := prog_5_method_9_code
def yX3_forgetVotes : MethodName := ⟨RX3, "forgetVotes", "()I"⟩
abbrev cX3_addBallot : ByteArray := prog_5_method_10_code
def yX3_addBallot : MethodName := ⟨RX3, "addBallot", "()V"⟩
abbrev cX3_addVote : ByteArray := prog_5_method_11_code
def yX3_addVote : MethodName := ⟨RX3, "addVote", "(II)V"⟩
abbrev cX3_addSpoilt : ByteArray := prog_5_method_12_code
def yX3_addSpoilt : MethodName := ⟨RX3, "addSpoilt", "(I)V"⟩
abbrev cX3_addBlank : ByteArray := prog_5_method_13_code
def yX3_addBlank : MethodName := ⟨RX3, "addBlank", "(I)V"⟩
abbrev cX3_hasContest : ByteArray := prog_5_method_14_code
def yX3_hasContest : MethodName := ⟨RX3, "hasContest", "(I)Z"⟩
abbrev cX3_hasName : ByteArray := prog_5_method_15_code
def yX3_hasName : MethodName := ⟨RX3, "hasName", "(II)Z"⟩
abbrev cX3_hasVersion : ByteArray := prog_5_method_16_code
def yX3_hasVersion : MethodName := ⟨RX3, "hasVersion", "(I)Z"⟩
abbrev cX3_hasSeat : ByteArray := prog_5_method_17_code
def yX3_hasSeat : MethodName := ⟨RX3, "hasSeat", "(II)Z"⟩
abbrev cX3_nameAt : ByteArray := prog_5_method_18_code
def yX3_nameAt : MethodName := ⟨RX3, "nameAt", "(III)I"⟩
abbrev cX3_placeOf : ByteArray := prog_5_method_19_code
def yX3_placeOf : MethodName := ⟨RX3, "placeOf", "(III)I"⟩
abbrev cX3_contests : ByteArray := prog_5_method_20_code
def yX3_contests : MethodName := ⟨RX3, "contests", "()I"⟩
abbrev cX3_ballots : ByteArray := prog_5_method_21_code
def yX3_ballots : MethodName := ⟨RX3, "ballots", "()I"⟩
abbrev cX3_setting : ByteArray := prog_5_method_22_code
def yX3_setting : MethodName := ⟨RX3, "setting", "(I)I"⟩
abbrev cX3_titleOf : ByteArray := prog_5_method_23_code
def yX3_titleOf : MethodName := ⟨RX3, "titleOf", "(I)I"⟩
abbrev cX3_seatsOf : ByteArray := prog_5_method_24_code
def yX3_seatsOf : MethodName := ⟨RX3, "seatsOf", "(I)I"⟩
abbrev cX3_wayOf : ByteArray := prog_5_method_25_code
def yX3_wayOf : MethodName := ⟨RX3, "wayOf", "(I)I"⟩
abbrev cX3_namesIn : ByteArray := prog_5_method_26_code
def yX3_namesIn : MethodName := ⟨RX3, "namesIn", "(I)I"⟩
abbrev cX3_votesIn : ByteArray := prog_5_method_27_code
def yX3_votesIn : MethodName := ⟨RX3, "votesIn", "(I)I"⟩
abbrev cX3_spoiltIn : ByteArray := prog_5_method_28_code
def yX3_spoiltIn : MethodName := ⟨RX3, "spoiltIn", "(I)I"⟩
abbrev cX3_blankIn : ByteArray := prog_5_method_29_code
def yX3_blankIn : MethodName := ⟨RX3, "blankIn", "(I)I"⟩
abbrev cX3_lengthOf : ByteArray := prog_5_method_30_code
def yX3_lengthOf : MethodName := ⟨RX3, "lengthOf", "(II)I"⟩
abbrev cX3_votesOf : ByteArray := prog_5_method_31_code
def yX3_votesOf : MethodName := ⟨RX3, "votesOf", "(II)I"⟩
abbrev cX3_papersIn : ByteArray := prog_5_method_32_code
def yX3_papersIn : MethodName := ⟨RX3, "papersIn", "(I)I"⟩
abbrev cX3_allNames : ByteArray := prog_5_method_33_code
def yX3_allNames : MethodName := ⟨RX3, "allNames", "()I"⟩
abbrev cX3_allPapers : ByteArray := prog_5_method_34_code
def yX3_allPapers : MethodName := ⟨RX3, "allPapers", "()I"⟩
def RX4 : String := "BallotPapers$Row"
def TX4 : u_T := fun k => match k with
  | _ => ("", "", "", false)
def tyX4 : Nat → FieldType := fun k => match k with
  | _ => .int
abbrev wsX40 : List Cond := u_ws RX4 TX4 0
theorem nmX4 : ∀ a, a < 0 → ∀ b, b < 0 → a ≠ b → (TX4 a).2.1 ≠ (TX4 b).2.1 := by decide +kernel
theorem tyX4_ok : ∀ k, k < 0 → parseFieldDescriptor (TX4 k).2.2.1 = some (tyX4 k) := by decide +kernel
abbrev cX4_get : ByteArray := prog_6_method_2_code
def yX4_get : MethodName := ⟨RX4, "get", "([II)I"⟩
abbrev cX4_put : ByteArray := prog_6_method_3_code
def yX4_put : MethodName := ⟨RX4, "put", "([III)V"⟩
abbrev cX4_add : ByteArray := prog_6_method_4_code
def yX4_add : MethodName := ⟨RX4, "add", "([III)V"⟩
abbrev cX4_sum : ByteArray := prog_6_method_5_code
def yX4_sum : MethodName := ⟨RX4, "sum", "([III)I"⟩
abbrev cX4_wipe : ByteArray := prog_6_method_6_code
def yX4_wipe : MethodName := ⟨RX4, "wipe", "([II)V"⟩
abbrev cX4_copy : ByteArray := prog_6_method_7_code
def yX4_copy : MethodName := ⟨RX4, "copy", "([I[I)V"⟩
def RX5 : String := "BallotPapers$Sheet"
def TX5 : u_T := fun k => match k with
  | 0 => ("BallotPapers$Sheet", "columnOf", "[I", true)
  | 1 => ("BallotPapers$Sheet", "lineOf", "[I", true)
  | 2 => ("BallotPapers$Sheet", "linesOf", "[I", true)
  | 3 => ("BallotPapers$Sheet", "names", "[I", true)
  | 4 => ("BallotPapers$Sheet", "columnsOnPage", "I", false)
  | 5 => ("BallotPapers$Sheet", "linesInColumn", "I", false)
  | 6 => ("BallotPapers$Sheet", "fold", "I", false)
  | 7 => ("BallotPapers$Sheet", "columns", "I", false)
  | 8 => ("BallotPapers$Sheet", "next", "I", false)
  | 9 => ("BallotPapers$Sheet", "taken", "I", false)
  | 10 => ("BallotPapers$Sheet", "later", "I", false)
  | _ => ("BallotPapers$Sheet", "begunByNames", "I", false)
def tyX5 : Nat → FieldType := fun k => match k with
  | 0 => .array .int
  | 1 => .array .int
  | 2 => .array .int
  | 3 => .array .int
  | 4 => .int
  | 5 => .int
  | 6 => .int
  | 7 => .int
  | 8 => .int
  | 9 => .int
  | 10 => .int
  | _ => .int
abbrev wsX50 : List Cond := u_ws RX5 TX5 12
theorem nmX5 : ∀ a, a < 12 → ∀ b, b < 12 → a ≠ b → (TX5 a).2.1 ≠ (TX5 b).2.1 := by decide +kernel
theorem tyX5_ok : ∀ k, k < 12 → parseFieldDescriptor (TX5 k).2.2.1 = some (tyX5 k) := by decide +kernel
abbrev cX5_init : ByteArray := prog_7_method_1_code
def yX5_init : MethodName := ⟨RX5, "<init>", "()V"⟩
abbrev cX5_lay : ByteArray := prog_7_method_2_code
def yX5_lay : MethodName := ⟨RX5, "lay", "(LBallotPapers$Poll;II)V"⟩
abbrev cX5_measure : ByteArray := prog_7_method_3_code
def yX5_measure : MethodName := ⟨RX5, "measure", "(LBallotPapers$Poll;II)V"⟩
abbrev cX5_layTitle : ByteArray := prog_7_method_4_code
def yX5_layTitle : MethodName := ⟨RX5, "layTitle", "(II)V"⟩
abbrev cX5_layNames : ByteArray := prog_7_method_5_code
def yX5_layNames : MethodName := ⟨RX5, "layNames", "(LBallotPapers$Poll;II)V"⟩
abbrev cX5_layName : ByteArray := prog_7_method_6_code
def yX5_layName : MethodName := ⟨RX5, "layName", "(I)V"⟩
abbrev cX5_fits : ByteArray := prog_7_method_7_code
def yX5_fits : MethodName := ⟨RX5, "fits", "(II)Z"⟩
abbrev cX5_behindFold : ByteArray := prog_7_method_8_code
def yX5_behindFold : MethodName := ⟨RX5, "behindFold", "(I)I"⟩
abbrev cX5_nameWithMarkAt : ByteArray := prog_7_method_9_code
def yX5_nameWithMarkAt : MethodName := ⟨RX5, "nameWithMarkAt", "(IIII)I"⟩
abbrev cX5_pageOf : ByteArray := prog_7_method_10_code
def yX5_pageOf : MethodName := ⟨RX5, "pageOf", "(II)I"⟩
abbrev cX5_columnOnPage : ByteArray := prog_7_method_11_code
def yX5_columnOnPage : MethodName := ⟨RX5, "columnOnPage", "(II)I"⟩
abbrev cX5_lineOf : ByteArray := prog_7_method_12_code
def yX5_lineOf : MethodName := ⟨RX5, "lineOf", "(II)I"⟩
abbrev cX5_linesOf : ByteArray := prog_7_method_13_code
def yX5_linesOf : MethodName := ⟨RX5, "linesOf", "(II)I"⟩
abbrev cX5_pages : ByteArray := prog_7_method_14_code
def yX5_pages : MethodName := ⟨RX5, "pages", "()I"⟩
abbrev cX5_columns : ByteArray := prog_7_method_15_code
def yX5_columns : MethodName := ⟨RX5, "columns", "()I"⟩
abbrev cX5_taken : ByteArray := prog_7_method_16_code
def yX5_taken : MethodName := ⟨RX5, "taken", "()I"⟩
abbrev cX5_later : ByteArray := prog_7_method_17_code
def yX5_later : MethodName := ⟨RX5, "later", "()I"⟩
abbrev cX5_begunByNames : ByteArray := prog_7_method_18_code
def yX5_begunByNames : MethodName := ⟨RX5, "begunByNames", "()I"⟩
def RX6 : String := "BallotPapers$Text"
def TX6 : u_T := fun k => match k with
  | 0 => ("BallotPapers$Text", "signs", "[I", true)
  | _ => ("BallotPapers$Text", "length", "I", false)
def tyX6 : Nat → FieldType := fun k => match k with
  | 0 => .array .int
  | _ => .int
abbrev wsX60 : List Cond := u_ws RX6 TX6 2
theorem nmX6 : ∀ a, a < 2 → ∀ b, b < 2 → a ≠ b → (TX6 a).2.1 ≠ (TX6 b).2.1 := by decide +kernel
theorem tyX6_ok : ∀ k, k < 2 → parseFieldDescriptor (TX6 k).2.2.1 = some (tyX6 k) := by decide +kernel
abbrev cX6_init : ByteArray := prog_8_method_1_code
def yX6_init : MethodName := ⟨RX6, "<init>", "()V"⟩
abbrev cX6_length : ByteArray := prog_8_method_2_code
def yX6_length : MethodName := ⟨RX6, "length", "()I"⟩
abbrev cX6_append : ByteArray := prog_8_method_3_code
def yX6_append : MethodName := ⟨RX6, "append", "(I)I"⟩
abbrev cX6_empty : ByteArray := prog_8_method_4_code
def yX6_empty : MethodName := ⟨RX6, "empty", "()I"⟩
abbrev cX6_signAt : ByteArray := prog_8_method_5_code
def yX6_signAt : MethodName := ⟨RX6, "signAt", "(I)I"⟩
abbrev cX6_hasDigitAt : ByteArray := prog_8_method_6_code
def yX6_hasDigitAt : MethodName := ⟨RX6, "hasDigitAt", "(I)Z"⟩
abbrev cX6_digitAt : ByteArray := prog_8_method_7_code
def yX6_digitAt : MethodName := ⟨RX6, "digitAt", "(I)I"⟩
def RX7 : String := "BallotPapers"
def TX7 : u_T := fun k => match k with
  | 0 => ("BallotPapers", "poll", "LBallotPapers$Poll;", true)
  | 1 => ("BallotPapers", "history", "LBallotPapers$History;", true)
  | 2 => ("BallotPapers", "sheet", "LBallotPapers$Sheet;", true)
  | 3 => ("BallotPapers", "firsts", "LBallotPapers$Firsts;", true)
  | 4 => ("BallotPapers", "text", "LBallotPapers$Text;", true)
  | _ => ("BallotPapers", "ballot", "LBallotPapers$Ballot;", true)
def tyX7 : Nat → FieldType := fun k => match k with
  | 0 => .object "BallotPapers$Poll"
  | 1 => .object "BallotPapers$History"
  | 2 => .object "BallotPapers$Sheet"
  | 3 => .object "BallotPapers$Firsts"
  | 4 => .object "BallotPapers$Text"
  | _ => .object "BallotPapers$Ballot"
abbrev wsX70 : List Cond := u_ws RX7 TX7 6
theorem nmX7 : ∀ a, a < 6 → ∀ b, b < 6 → a ≠ b → (TX7 a).2.1 ≠ (TX7 b).2.1 := by decide +kernel
theorem tyX7_ok : ∀ k, k < 6 → parseFieldDescriptor (TX7 k).2.2.1 = some (tyX7 k) := by decide +kernel
abbrev cX7_init : ByteArray := prog_1_method_1_code
def yX7_init : MethodName := ⟨RX7, "<init>", "()V"⟩
abbrev cX7_contest : ByteArray := prog_1_method_2_code
def yX7_contest : MethodName := ⟨RX7, "contest", "(II)I"⟩
abbrev cX7_name : ByteArray := prog_1_method_3_code
def yX7_name : MethodName := ⟨RX7, "name", "(II)I"⟩
abbrev cX7_way : ByteArray := prog_1_method_4_code
def yX7_way : MethodName := ⟨RX7, "way", "(II)I"⟩
abbrev cX7_papers : ByteArray := prog_1_method_5_code
def yX7_papers : MethodName := ⟨RX7, "papers", "(II)I"⟩
abbrev cX7_set : ByteArray := prog_1_method_6_code
def yX7_set : MethodName := ⟨RX7, "set", "(II)I"⟩
abbrev cX7_clear : ByteArray := prog_1_method_7_code
def yX7_clear : MethodName := ⟨RX7, "clear", "()I"⟩
abbrev cX7_contestOf : ByteArray := prog_1_method_8_code
def yX7_contestOf : MethodName := ⟨RX7, "contestOf", "(II)I"⟩
abbrev cX7_nameOf : ByteArray := prog_1_method_9_code
def yX7_nameOf : MethodName := ⟨RX7, "nameOf", "(III)I"⟩
abbrev cX7_count : ByteArray := prog_1_method_10_code
def yX7_count : MethodName := ⟨RX7, "count", "(I)I"⟩
abbrev cX7_papersOf : ByteArray := prog_1_method_11_code
def yX7_papersOf : MethodName := ⟨RX7, "papersOf", "(I)I"⟩
abbrev cX7_stands : ByteArray := prog_1_method_12_code
def yX7_stands : MethodName := ⟨RX7, "stands", "(III)I"⟩
abbrev cX7_lies : ByteArray := prog_1_method_13_code
def yX7_lies : MethodName := ⟨RX7, "lies", "(IIII)I"⟩
abbrev cX7_markAt : ByteArray := prog_1_method_14_code
def yX7_markAt : MethodName := ⟨RX7, "markAt", "(IIIII)I"⟩
abbrev cX7_paper : ByteArray := prog_1_method_15_code
def yX7_paper : MethodName := ⟨RX7, "paper", "(II)I"⟩
abbrev cX7_spread : ByteArray := prog_1_method_16_code
def yX7_spread : MethodName := ⟨RX7, "spread", "(I)I"⟩
abbrev cX7_evenVersions : ByteArray := prog_1_method_17_code
def yX7_evenVersions : MethodName := ⟨RX7, "evenVersions", "()I"⟩
abbrev cX7_bestWidth : ByteArray := prog_1_method_18_code
def yX7_bestWidth : MethodName := ⟨RX7, "bestWidth", "(I)I"⟩
abbrev cX7_undo : ByteArray := prog_1_method_19_code
def yX7_undo : MethodName := ⟨RX7, "undo", "()I"⟩
abbrev cX7_type : ByteArray := prog_1_method_20_code
def yX7_type : MethodName := ⟨RX7, "type", "(I)I"⟩
abbrev cX7_clearText : ByteArray := prog_1_method_21_code
def yX7_clearText : MethodName := ⟨RX7, "clearText", "()I"⟩
abbrev cX7_fault : ByteArray := prog_1_method_22_code
def yX7_fault : MethodName := ⟨RX7, "fault", "(I)I"⟩
abbrev cX7_cast : ByteArray := prog_1_method_23_code
def yX7_cast : MethodName := ⟨RX7, "cast", "()I"⟩
abbrev cX7_settingOfCount : ByteArray := prog_1_method_24_code
def yX7_settingOfCount : MethodName := ⟨RX7, "settingOfCount", "(I)I"⟩
abbrev cX7_areEven : ByteArray := prog_1_method_25_code
def yX7_areEven : MethodName := ⟨RX7, "areEven", "(I)Z"⟩
abbrev cX7_pagesByWidth : ByteArray := prog_1_method_26_code
def yX7_pagesByWidth : MethodName := ⟨RX7, "pagesByWidth", "(I)I"⟩
abbrev cX7_within : ByteArray := prog_1_method_27_code
def yX7_within : MethodName := ⟨RX7, "within", "(III)Z"⟩
abbrev cX7_allowed : ByteArray := prog_1_method_28_code
def yX7_allowed : MethodName := ⟨RX7, "allowed", "(II)Z"⟩
abbrev cX7_roundedUp : ByteArray := prog_1_method_29_code
def yX7_roundedUp : MethodName := ⟨RX7, "roundedUp", "(II)I"⟩
def RX8 : String := "BallotPapersModel"
def TX8 : u_T := fun k => match k with
  | 0 => ("BallotPapersModel", "s", "[I", true)
  | 1 => ("BallotPapersModel", "past", "[I", true)
  | 2 => ("BallotPapersModel", "pasts", "I", false)
  | 3 => ("BallotPapersModel", "text", "[I", true)
  | 4 => ("BallotPapersModel", "typed", "I", false)
  | 5 => ("BallotPapersModel", "columnOf", "[I", true)
  | 6 => ("BallotPapersModel", "lineOf", "[I", true)
  | 7 => ("BallotPapersModel", "column", "I", false)
  | 8 => ("BallotPapersModel", "line", "I", false)
  | 9 => ("BallotPapersModel", "taken", "I", false)
  | 10 => ("BallotPapersModel", "later", "I", false)
  | 11 => ("BallotPapersModel", "begins", "I", false)
  | 12 => ("BallotPapersModel", "spot", "I", false)
  | 13 => ("BallotPapersModel", "reason", "I", false)
  | 14 => ("BallotPapersModel", "version", "I", false)
  | 15 => ("BallotPapersModel", "marks", "I", false)
  | 16 => ("BallotPapersModel", "spots", "[I", true)
  | 17 => ("BallotPapersModel", "markContest", "[I", true)
  | _ => ("BallotPapersModel", "markPlace", "[I", true)
def tyX8 : Nat → FieldType := fun k => match k with
  | 0 => .array .int
  | 1 => .array .int
  | 2 => .int
  | 3 => .array .int
  | 4 => .int
  | 5 => .array .int
  | 6 => .array .int
  | 7 => .int
  | 8 => .int
  | 9 => .int
  | 10 => .int
  | 11 => .int
  | 12 => .int
  | 13 => .int
  | 14 => .int
  | 15 => .int
  | 16 => .array .int
  | 17 => .array .int
  | _ => .array .int
abbrev wsX80 : List Cond := u_ws RX8 TX8 19
theorem nmX8 : ∀ a, a < 19 → ∀ b, b < 19 → a ≠ b → (TX8 a).2.1 ≠ (TX8 b).2.1 := by decide +kernel
theorem tyX8_ok : ∀ k, k < 19 → parseFieldDescriptor (TX8 k).2.2.1 = some (tyX8 k) := by decide +kernel
abbrev cX8_init : ByteArray := prog_10_method_1_code
def yX8_init : MethodName := ⟨RX8, "<init>", "()V"⟩
abbrev cX8_in : ByteArray := prog_10_method_3_code
def yX8_in : MethodName := ⟨RX8, "in", "(III)Z"⟩
abbrev cX8_changes : ByteArray := prog_10_method_4_code
def yX8_changes : MethodName := ⟨RX8, "changes", "()V"⟩
abbrev cX8_isContest : ByteArray := prog_10_method_5_code
def yX8_isContest : MethodName := ⟨RX8, "isContest", "(I)Z"⟩
abbrev cX8_of : ByteArray := prog_10_method_6_code
def yX8_of : MethodName := ⟨RX8, "of", "(II)I"⟩
abbrev cX8_isName : ByteArray := prog_10_method_7_code
def yX8_isName : MethodName := ⟨RX8, "isName", "(II)Z"⟩
abbrev cX8_isVersion : ByteArray := prog_10_method_8_code
def yX8_isVersion : MethodName := ⟨RX8, "isVersion", "(I)Z"⟩
abbrev cX8_lengthOf : ByteArray := prog_10_method_9_code
def yX8_lengthOf : MethodName := ⟨RX8, "lengthOf", "(II)I"⟩
abbrev cX8_votesOf : ByteArray := prog_10_method_10_code
def yX8_votesOf : MethodName := ⟨RX8, "votesOf", "(II)I"⟩
abbrev cX8_contest : ByteArray := prog_10_method_11_code
def yX8_contest : MethodName := ⟨RX8, "contest", "(II)I"⟩
abbrev cX8_name : ByteArray := prog_10_method_12_code
def yX8_name : MethodName := ⟨RX8, "name", "(II)I"⟩
abbrev cX8_way : ByteArray := prog_10_method_13_code
def yX8_way : MethodName := ⟨RX8, "way", "(II)I"⟩
abbrev cX8_papers : ByteArray := prog_10_method_14_code
def yX8_papers : MethodName := ⟨RX8, "papers", "(II)I"⟩
abbrev cX8_isSetting : ByteArray := prog_10_method_15_code
def yX8_isSetting : MethodName := ⟨RX8, "isSetting", "(II)Z"⟩
abbrev cX8_set : ByteArray := prog_10_method_16_code
def yX8_set : MethodName := ⟨RX8, "set", "(II)I"⟩
abbrev cX8_clear : ByteArray := prog_10_method_17_code
def yX8_clear : MethodName := ⟨RX8, "clear", "()I"⟩
abbrev cX8_standing : ByteArray := prog_10_method_18_code
def yX8_standing : MethodName := ⟨RX8, "standing", "(III)I"⟩
abbrev cX8_placeOf : ByteArray := prog_10_method_19_code
def yX8_placeOf : MethodName := ⟨RX8, "placeOf", "(III)I"⟩
abbrev cX8_firstOn : ByteArray := prog_10_method_20_code
def yX8_firstOn : MethodName := ⟨RX8, "firstOn", "(II)I"⟩
abbrev cX8_parts : ByteArray := prog_10_method_21_code
def yX8_parts : MethodName := ⟨RX8, "parts", "(II)I"⟩
abbrev cX8_titleLines : ByteArray := prog_10_method_22_code
def yX8_titleLines : MethodName := ⟨RX8, "titleLines", "(I)I"⟩
abbrev cX8_nameLines : ByteArray := prog_10_method_23_code
def yX8_nameLines : MethodName := ⟨RX8, "nameLines", "(II)I"⟩
abbrev cX8_isFold : ByteArray := prog_10_method_24_code
def yX8_isFold : MethodName := ⟨RX8, "isFold", "(I)Z"⟩
abbrev cX8_pushed : ByteArray := prog_10_method_25_code
def yX8_pushed : MethodName := ⟨RX8, "pushed", "(I)I"⟩
abbrev cX8_laysName : ByteArray := prog_10_method_26_code
def yX8_laysName : MethodName := ⟨RX8, "laysName", "(II)V"⟩
abbrev cX8_laysContest : ByteArray := prog_10_method_27_code
def yX8_laysContest : MethodName := ⟨RX8, "laysContest", "(IIZ)V"⟩
abbrev cX8_lays : ByteArray := prog_10_method_28_code
def yX8_lays : MethodName := ⟨RX8, "lays", "(I)I"⟩
abbrev cX8_votesIn : ByteArray := prog_10_method_29_code
def yX8_votesIn : MethodName := ⟨RX8, "votesIn", "(I)I"⟩
abbrev cX8_contestOf : ByteArray := prog_10_method_30_code
def yX8_contestOf : MethodName := ⟨RX8, "contestOf", "(II)I"⟩
abbrev cX8_seated : ByteArray := prog_10_method_31_code
def yX8_seated : MethodName := ⟨RX8, "seated", "(II)I"⟩
abbrev cX8_nameOf : ByteArray := prog_10_method_32_code
def yX8_nameOf : MethodName := ⟨RX8, "nameOf", "(III)I"⟩
abbrev cX8_names : ByteArray := prog_10_method_33_code
def yX8_names : MethodName := ⟨RX8, "names", "()I"⟩
abbrev cX8_allPapers : ByteArray := prog_10_method_34_code
def yX8_allPapers : MethodName := ⟨RX8, "allPapers", "()I"⟩
abbrev cX8_count : ByteArray := prog_10_method_35_code
def yX8_count : MethodName := ⟨RX8, "count", "(I)I"⟩
abbrev cX8_papersOf : ByteArray := prog_10_method_36_code
def yX8_papersOf : MethodName := ⟨RX8, "papersOf", "(I)I"⟩
abbrev cX8_stands : ByteArray := prog_10_method_37_code
def yX8_stands : MethodName := ⟨RX8, "stands", "(III)I"⟩
abbrev cX8_lies : ByteArray := prog_10_method_38_code
def yX8_lies : MethodName := ⟨RX8, "lies", "(IIII)I"⟩
abbrev cX8_markAt : ByteArray := prog_10_method_39_code
def yX8_markAt : MethodName := ⟨RX8, "markAt", "(IIIII)I"⟩
abbrev cX8_pages : ByteArray := prog_10_method_40_code
def yX8_pages : MethodName := ⟨RX8, "pages", "(I)I"⟩
abbrev cX8_paper : ByteArray := prog_10_method_41_code
def yX8_paper : MethodName := ⟨RX8, "paper", "(II)I"⟩
abbrev cX8_spread : ByteArray := prog_10_method_42_code
def yX8_spread : MethodName := ⟨RX8, "spread", "(I)I"⟩
abbrev cX8_isEven : ByteArray := prog_10_method_43_code
def yX8_isEven : MethodName := ⟨RX8, "isEven", "(II)Z"⟩
abbrev cX8_evenVersions : ByteArray := prog_10_method_44_code
def yX8_evenVersions : MethodName := ⟨RX8, "evenVersions", "()I"⟩
abbrev cX8_bestWidth : ByteArray := prog_10_method_45_code
def yX8_bestWidth : MethodName := ⟨RX8, "bestWidth", "(I)I"⟩
abbrev cX8_undo : ByteArray := prog_10_method_46_code
def yX8_undo : MethodName := ⟨RX8, "undo", "()I"⟩
abbrev cX8_type : ByteArray := prog_10_method_47_code
def yX8_type : MethodName := ⟨RX8, "type", "(I)I"⟩
abbrev cX8_clearText : ByteArray := prog_10_method_48_code
def yX8_clearText : MethodName := ⟨RX8, "clearText", "()I"⟩
abbrev cX8_isAt : ByteArray := prog_10_method_49_code
def yX8_isAt : MethodName := ⟨RX8, "isAt", "(II)Z"⟩
abbrev cX8_readsVersion : ByteArray := prog_10_method_50_code
def yX8_readsVersion : MethodName := ⟨RX8, "readsVersion", "()Z"⟩
abbrev cX8_readsMark : ByteArray := prog_10_method_51_code
def yX8_readsMark : MethodName := ⟨RX8, "readsMark", "()Z"⟩
abbrev cX8_isFormed : ByteArray := prog_10_method_52_code
def yX8_isFormed : MethodName := ⟨RX8, "isFormed", "()Z"⟩
abbrev cX8_isTwice : ByteArray := prog_10_method_53_code
def yX8_isTwice : MethodName := ⟨RX8, "isTwice", "(I)Z"⟩
abbrev cX8_isRight : ByteArray := prog_10_method_54_code
def yX8_isRight : MethodName := ⟨RX8, "isRight", "()Z"⟩
abbrev cX8_fault : ByteArray := prog_10_method_55_code
def yX8_fault : MethodName := ⟨RX8, "fault", "(I)I"⟩
abbrev cX8_marksIn : ByteArray := prog_10_method_56_code
def yX8_marksIn : MethodName := ⟨RX8, "marksIn", "(I)I"⟩
abbrev cX8_cast : ByteArray := prog_10_method_57_code
def yX8_cast : MethodName := ⟨RX8, "cast", "()I"⟩
def RJ9 : String := "java/lang/Math"
def TJ9 : u_T := fun k => match k with
  | _ => ("", "", "", false)
def tyJ9 : Nat → FieldType := fun k => match k with
  | _ => .int
theorem tyJ9_ok : ∀ k, k < 0 → parseFieldDescriptor (TJ9 k).2.2.1 = some (tyJ9 k) := by decide +kernel
abbrev cJ9_max_7cf53 : ByteArray := prog_11_method_65_code
def yJ9_max_7cf53 : MethodName := ⟨RJ9, "max", "(II)I"⟩
abbrev cJ9_min_7cf53 : ByteArray := prog_11_method_69_code
def yJ9_min_7cf53 : MethodName := ⟨RJ9, "min", "(II)I"⟩
def RJ10 : String := "java/lang/System"
def TJ10 : u_T := fun k => match k with
  | _ => ("", "", "", false)
def tyJ10 : Nat → FieldType := fun k => match k with
  | _ => .int
theorem tyJ10_ok : ∀ k, k < 0 → parseFieldDescriptor (TJ10 k).2.2.1 = some (tyJ10 k) := by decide +kernel
def RL : String := "BallotPapersLaw"
abbrev cL_law : ByteArray := code
def yL_law : MethodName := ⟨RL, "law", "([I)Z"⟩
theorem dX0_init_0 : decode cX0_init 0 = .ok (.aload_n 0, 1) := by decide +kernel
theorem dX0_init_1 : decode cX0_init 1 = .ok (.invokespecial 3, 3) := by decide +kernel
theorem dX0_init_4 : decode cX0_init 4 = .ok (.aload_n 0, 1) := by decide +kernel
theorem dX0_init_5 : decode cX0_init 5 = .ok (.bipush 13, 2) := by decide +kernel
theorem dX0_init_7 : decode cX0_init 7 = .ok (.newarray .int, 2) := by decide +kernel
theorem dX0_init_9 : decode cX0_init 9 = .ok (.putfield 9, 3) := by decide +kernel
theorem dX0_init_12 : decode cX0_init 12 = .ok (.aload_n 0, 1) := by decide +kernel
theorem dX0_init_13 : decode cX0_init 13 = .ok (.bipush 13, 2) := by decide +kernel
theorem dX0_init_15 : decode cX0_init 15 = .ok (.newarray .int, 2) := by decide +kernel
theorem dX0_init_17 : decode cX0_init 17 = .ok (.putfield 15, 3) := by decide +kernel
theorem dX0_init_20 : decode cX0_init 20 = .ok (.aload_n 0, 1) := by decide +kernel
theorem dX0_init_21 : decode cX0_init 21 = .ok (.bipush 13, 2) := by decide +kernel
theorem dX0_init_23 : decode cX0_init 23 = .ok (.newarray .int, 2) := by decide +kernel
theorem dX0_init_25 : decode cX0_init 25 = .ok (.putfield 18, 3) := by decide +kernel
theorem dX0_init_28 : decode cX0_init 28 = .ok (.return_, 1) := by decide +kernel
theorem dX0_reason_0 : decode cX0_reason 0 = .ok (.aload_n 0, 1) := by decide +kernel
theorem dX0_reason_1 : decode cX0_reason 1 = .ok (.getfield 21, 3) := by decide +kernel
theorem dX0_reason_4 : decode cX0_reason 4 = .ok (.ireturn, 1) := by decide +kernel
theorem dX0_faultAt_0 : decode cX0_faultAt 0 = .ok (.aload_n 0, 1) := by decide +kernel
theorem dX0_faultAt_1 : decode cX0_faultAt 1 = .ok (.getfield 25, 3) := by decide +kernel
theorem dX0_faultAt_4 : decode cX0_faultAt 4 = .ok (.ireturn, 1) := by decide +kernel
theorem dX0_read_0 : decode cX0_read 0 = .ok (.aload_n 0, 1) := by decide +kernel
theorem dX0_read_1 : decode cX0_read 1 = .ok (.iconst (-1), 1) := by decide +kernel
theorem dX0_read_2 : decode cX0_read 2 = .ok (.putfield 25, 3) := by decide +kernel
theorem dX0_read_5 : decode cX0_read 5 = .ok (.aload_n 0, 1) := by decide +kernel
theorem dX0_read_6 : decode cX0_read 6 = .ok (.iconst 0, 1) := by decide +kernel
theorem dX0_read_7 : decode cX0_read 7 = .ok (.putfield 21, 3) := by decide +kernel
theorem dX0_read_10 : decode cX0_read 10 = .ok (.aload_n 0, 1) := by decide +kernel
theorem dX0_read_11 : decode cX0_read 11 = .ok (.iconst 0, 1) := by decide +kernel
theorem dX0_read_12 : decode cX0_read 12 = .ok (.putfield 28, 3) := by decide +kernel
theorem dX0_read_15 : decode cX0_read 15 = .ok (.aload_n 0, 1) := by decide +kernel
theorem dX0_read_16 : decode cX0_read 16 = .ok (.aload_n 1, 1) := by decide +kernel
theorem dX0_read_17 : decode cX0_read 17 = .ok (.invokevirtual 31, 3) := by decide +kernel
theorem dX0_read_20 : decode cX0_read 20 = .ok (.istore_n 3, 1) := by decide +kernel
theorem dX0_read_21 : decode cX0_read 21 = .ok (.aload_n 0, 1) := by decide +kernel
theorem dX0_read_22 : decode cX0_read 22 = .ok (.getfield 21, 3) := by decide +kernel
theorem dX0_read_25 : decode cX0_read 25 = .ok (.ifCond .ne 9, 3) := by decide +kernel
theorem dX0_read_28 : decode cX0_read 28 = .ok (.aload_n 0, 1) := by decide +kernel
theorem dX0_read_29 : decode cX0_read 29 = .ok (.aload_n 1, 1) := by decide +kernel
theorem dX0_read_30 : decode cX0_read 30 = .ok (.iload_n 3, 1) := by decide +kernel
theorem dX0_read_31 : decode cX0_read 31 = .ok (.invokevirtual 35, 3) := by decide +kernel
theorem dX0_read_34 : decode cX0_read 34 = .ok (.aload_n 0, 1) := by decide +kernel
theorem dX0_read_35 : decode cX0_read 35 = .ok (.getfield 21, 3) := by decide +kernel
theorem dX0_read_38 : decode cX0_read 38 = .ok (.ifCond .ne 8, 3) := by decide +kernel
theorem dX0_read_41 : decode cX0_read 41 = .ok (.aload_n 0, 1) := by decide +kernel
theorem dX0_read_42 : decode cX0_read 42 = .ok (.aload_n 2, 1) := by decide +kernel
theorem dX0_read_43 : decode cX0_read 43 = .ok (.invokevirtual 39, 3) := by decide +kernel
theorem dX0_read_46 : decode cX0_read 46 = .ok (.return_, 1) := by decide +kernel
theorem dX0_blame_0 : decode cX0_blame 0 = .ok (.aload_n 0, 1) := by decide +kernel
theorem dX0_blame_1 : decode cX0_blame 1 = .ok (.iload_n 1, 1) := by decide +kernel
theorem dX0_blame_2 : decode cX0_blame 2 = .ok (.putfield 25, 3) := by decide +kernel
theorem dX0_blame_5 : decode cX0_blame 5 = .ok (.aload_n 0, 1) := by decide +kernel
theorem dX0_blame_6 : decode cX0_blame 6 = .ok (.iload_n 2, 1) := by decide +kernel
theorem dX0_blame_7 : decode cX0_blame 7 = .ok (.putfield 21, 3) := by decide +kernel
theorem dX0_blame_10 : decode cX0_blame 10 = .ok (.return_, 1) := by decide +kernel
theorem dX0_readVersion_0 : decode cX0_readVersion 0 = .ok (.aload_n 0, 1) := by decide +kernel
theorem dX0_readVersion_1 : decode cX0_readVersion 1 = .ok (.iconst 0, 1) := by decide +kernel
theorem dX0_readVersion_2 : decode cX0_readVersion 2 = .ok (.putfield 43, 3) := by decide +kernel
theorem dX0_readVersion_5 : decode cX0_readVersion 5 = .ok (.aload_n 1, 1) := by decide +kernel
theorem dX0_readVersion_6 : decode cX0_readVersion 6 = .ok (.iconst 0, 1) := by decide +kernel
theorem dX0_readVersion_7 : decode cX0_readVersion 7 = .ok (.invokevirtual 46, 3) := by decide +kernel
theorem dX0_readVersion_10 : decode cX0_readVersion 10 = .ok (.ifCond .ne 11, 3) := by decide +kernel
theorem dX0_readVersion_13 : decode cX0_readVersion 13 = .ok (.aload_n 0, 1) := by decide +kernel
theorem dX0_readVersion_14 : decode cX0_readVersion 14 = .ok (.iconst 0, 1) := by decide +kernel
theorem dX0_readVersion_15 : decode cX0_readVersion 15 = .ok (.iconst 1, 1) := by decide +kernel
theorem dX0_readVersion_16 : decode cX0_readVersion 16 = .ok (.invokevirtual 52, 3) := by decide +kernel
theorem dX0_readVersion_19 : decode cX0_readVersion 19 = .ok (.iconst 0, 1) := by decide +kernel
theorem dX0_readVersion_20 : decode cX0_readVersion 20 = .ok (.ireturn, 1) := by decide +kernel
theorem dX0_readVersion_21 : decode cX0_readVersion 21 = .ok (.aload_n 0, 1) := by decide +kernel
theorem dX0_readVersion_22 : decode cX0_readVersion 22 = .ok (.aload_n 1, 1) := by decide +kernel
theorem dX0_readVersion_23 : decode cX0_readVersion 23 = .ok (.iconst 0, 1) := by decide +kernel
theorem dX0_readVersion_24 : decode cX0_readVersion 24 = .ok (.invokevirtual 56, 3) := by decide +kernel
theorem dX0_readVersion_27 : decode cX0_readVersion 27 = .ok (.putfield 43, 3) := by decide +kernel
theorem dX0_readVersion_30 : decode cX0_readVersion 30 = .ok (.iconst 1, 1) := by decide +kernel
theorem dX0_readVersion_31 : decode cX0_readVersion 31 = .ok (.istore_n 2, 1) := by decide +kernel
theorem dX0_readVersion_32 : decode cX0_readVersion 32 = .ok (.aload_n 0, 1) := by decide +kernel
theorem dX0_readVersion_33 : decode cX0_readVersion 33 = .ok (.getfield 43, 3) := by decide +kernel
theorem dX0_readVersion_36 : decode cX0_readVersion 36 = .ok (.ifCond .eq 31, 3) := by decide +kernel
theorem dX0_readVersion_39 : decode cX0_readVersion 39 = .ok (.aload_n 1, 1) := by decide +kernel
theorem dX0_readVersion_40 : decode cX0_readVersion 40 = .ok (.iload_n 2, 1) := by decide +kernel
theorem dX0_readVersion_41 : decode cX0_readVersion 41 = .ok (.invokevirtual 46, 3) := by decide +kernel
theorem dX0_readVersion_44 : decode cX0_readVersion 44 = .ok (.ifCond .eq 23, 3) := by decide +kernel
theorem dX0_readVersion_47 : decode cX0_readVersion 47 = .ok (.aload_n 0, 1) := by decide +kernel
theorem dX0_readVersion_48 : decode cX0_readVersion 48 = .ok (.aload_n 0, 1) := by decide +kernel
theorem dX0_readVersion_49 : decode cX0_readVersion 49 = .ok (.getfield 43, 3) := by decide +kernel
theorem dX0_readVersion_52 : decode cX0_readVersion 52 = .ok (.bipush 10, 2) := by decide +kernel
theorem dX0_readVersion_54 : decode cX0_readVersion 54 = .ok (.imul, 1) := by decide +kernel
theorem dX0_readVersion_55 : decode cX0_readVersion 55 = .ok (.aload_n 1, 1) := by decide +kernel
theorem dX0_readVersion_56 : decode cX0_readVersion 56 = .ok (.iload_n 2, 1) := by decide +kernel
theorem dX0_readVersion_57 : decode cX0_readVersion 57 = .ok (.invokevirtual 56, 3) := by decide +kernel
theorem dX0_readVersion_60 : decode cX0_readVersion 60 = .ok (.iadd, 1) := by decide +kernel
theorem dX0_readVersion_61 : decode cX0_readVersion 61 = .ok (.putfield 43, 3) := by decide +kernel
theorem dX0_readVersion_64 : decode cX0_readVersion 64 = .ok (.iinc 2 1, 3) := by decide +kernel
theorem dX0_readVersion_67 : decode cX0_readVersion 67 = .ok (.aload_n 1, 1) := by decide +kernel
theorem dX0_readVersion_68 : decode cX0_readVersion 68 = .ok (.iload_n 2, 1) := by decide +kernel
theorem dX0_readVersion_69 : decode cX0_readVersion 69 = .ok (.invokevirtual 60, 3) := by decide +kernel
theorem dX0_readVersion_72 : decode cX0_readVersion 72 = .ok (.bipush 58, 2) := by decide +kernel
theorem dX0_readVersion_74 : decode cX0_readVersion 74 = .ok (.if_icmp .eq 9, 3) := by decide +kernel
theorem dX0_readVersion_77 : decode cX0_readVersion 77 = .ok (.aload_n 0, 1) := by decide +kernel
theorem dX0_readVersion_78 : decode cX0_readVersion 78 = .ok (.iload_n 2, 1) := by decide +kernel
theorem dX0_readVersion_79 : decode cX0_readVersion 79 = .ok (.iconst 1, 1) := by decide +kernel
theorem dX0_readVersion_80 : decode cX0_readVersion 80 = .ok (.invokevirtual 52, 3) := by decide +kernel
theorem dX0_readVersion_83 : decode cX0_readVersion 83 = .ok (.iload_n 2, 1) := by decide +kernel
theorem dX0_readVersion_84 : decode cX0_readVersion 84 = .ok (.iconst 1, 1) := by decide +kernel
theorem dX0_readVersion_85 : decode cX0_readVersion 85 = .ok (.iadd, 1) := by decide +kernel
theorem dX0_readVersion_86 : decode cX0_readVersion 86 = .ok (.ireturn, 1) := by decide +kernel
theorem dX0_readMarks_0 : decode cX0_readMarks 0 = .ok (.iload_n 2, 1) := by decide +kernel
theorem dX0_readMarks_1 : decode cX0_readMarks 1 = .ok (.aload_n 1, 1) := by decide +kernel
theorem dX0_readMarks_2 : decode cX0_readMarks 2 = .ok (.invokevirtual 63, 3) := by decide +kernel
theorem dX0_readMarks_5 : decode cX0_readMarks 5 = .ok (.if_icmp .ne 4, 3) := by decide +kernel
theorem dX0_readMarks_8 : decode cX0_readMarks 8 = .ok (.return_, 1) := by decide +kernel
theorem dX0_readMarks_9 : decode cX0_readMarks 9 = .ok (.iload_n 2, 1) := by decide +kernel
theorem dX0_readMarks_10 : decode cX0_readMarks 10 = .ok (.istore_n 3, 1) := by decide +kernel
theorem dX0_readMarks_11 : decode cX0_readMarks 11 = .ok (.iload_n 3, 1) := by decide +kernel
theorem dX0_readMarks_12 : decode cX0_readMarks 12 = .ok (.aload_n 1, 1) := by decide +kernel
theorem dX0_readMarks_13 : decode cX0_readMarks 13 = .ok (.invokevirtual 63, 3) := by decide +kernel
theorem dX0_readMarks_16 : decode cX0_readMarks 16 = .ok (.if_icmp .ge 102, 3) := by decide +kernel
theorem dX0_readMarks_19 : decode cX0_readMarks 19 = .ok (.aload_n 1, 1) := by decide +kernel
theorem dX0_readMarks_20 : decode cX0_readMarks 20 = .ok (.iload_n 3, 1) := by decide +kernel
theorem dX0_readMarks_21 : decode cX0_readMarks 21 = .ok (.invokevirtual 60, 3) := by decide +kernel
theorem dX0_readMarks_24 : decode cX0_readMarks 24 = .ok (.bipush 97, 2) := by decide +kernel
theorem dX0_readMarks_26 : decode cX0_readMarks 26 = .ok (.bipush 102, 2) := by decide +kernel
theorem dX0_readMarks_28 : decode cX0_readMarks 28 = .ok (.invokestatic 67, 3) := by decide +kernel
theorem dX0_readMarks_31 : decode cX0_readMarks 31 = .ok (.ifCond .ne 10, 3) := by decide +kernel
theorem dX0_readMarks_34 : decode cX0_readMarks 34 = .ok (.aload_n 0, 1) := by decide +kernel
theorem dX0_readMarks_35 : decode cX0_readMarks 35 = .ok (.iload_n 3, 1) := by decide +kernel
theorem dX0_readMarks_36 : decode cX0_readMarks 36 = .ok (.iconst 1, 1) := by decide +kernel
theorem dX0_readMarks_37 : decode cX0_readMarks 37 = .ok (.invokevirtual 52, 3) := by decide +kernel
theorem dX0_readMarks_40 : decode cX0_readMarks 40 = .ok (.return_, 1) := by decide +kernel
theorem dX0_readMarks_41 : decode cX0_readMarks 41 = .ok (.aload_n 1, 1) := by decide +kernel
theorem dX0_readMarks_42 : decode cX0_readMarks 42 = .ok (.iload_n 3, 1) := by decide +kernel
theorem dX0_readMarks_43 : decode cX0_readMarks 43 = .ok (.iconst 1, 1) := by decide +kernel
theorem dX0_readMarks_44 : decode cX0_readMarks 44 = .ok (.iadd, 1) := by decide +kernel
theorem dX0_readMarks_45 : decode cX0_readMarks 45 = .ok (.invokevirtual 46, 3) := by decide +kernel
theorem dX0_readMarks_48 : decode cX0_readMarks 48 = .ok (.ifCond .ne 12, 3) := by decide +kernel
theorem dX0_readMarks_51 : decode cX0_readMarks 51 = .ok (.aload_n 0, 1) := by decide +kernel
theorem dX0_readMarks_52 : decode cX0_readMarks 52 = .ok (.iload_n 3, 1) := by decide +kernel
theorem dX0_readMarks_53 : decode cX0_readMarks 53 = .ok (.iconst 1, 1) := by decide +kernel
theorem dX0_readMarks_54 : decode cX0_readMarks 54 = .ok (.iadd, 1) := by decide +kernel
theorem dX0_readMarks_55 : decode cX0_readMarks 55 = .ok (.iconst 1, 1) := by decide +kernel
theorem dX0_readMarks_56 : decode cX0_readMarks 56 = .ok (.invokevirtual 52, 3) := by decide +kernel
theorem dX0_readMarks_59 : decode cX0_readMarks 59 = .ok (.return_, 1) := by decide +kernel
theorem dX0_readMarks_60 : decode cX0_readMarks 60 = .ok (.aload_n 0, 1) := by decide +kernel
theorem dX0_readMarks_61 : decode cX0_readMarks 61 = .ok (.iload_n 3, 1) := by decide +kernel
theorem dX0_readMarks_62 : decode cX0_readMarks 62 = .ok (.aload_n 1, 1) := by decide +kernel
theorem dX0_readMarks_63 : decode cX0_readMarks 63 = .ok (.iload_n 3, 1) := by decide +kernel
theorem dX0_readMarks_64 : decode cX0_readMarks 64 = .ok (.invokevirtual 60, 3) := by decide +kernel
theorem dX0_readMarks_67 : decode cX0_readMarks 67 = .ok (.bipush 97, 2) := by decide +kernel
theorem dX0_readMarks_69 : decode cX0_readMarks 69 = .ok (.isub, 1) := by decide +kernel
theorem dX0_readMarks_70 : decode cX0_readMarks 70 = .ok (.aload_n 1, 1) := by decide +kernel
theorem dX0_readMarks_71 : decode cX0_readMarks 71 = .ok (.iload_n 3, 1) := by decide +kernel
theorem dX0_readMarks_72 : decode cX0_readMarks 72 = .ok (.iconst 1, 1) := by decide +kernel
theorem dX0_readMarks_73 : decode cX0_readMarks 73 = .ok (.iadd, 1) := by decide +kernel
theorem dX0_readMarks_74 : decode cX0_readMarks 74 = .ok (.invokevirtual 56, 3) := by decide +kernel
theorem dX0_readMarks_77 : decode cX0_readMarks 77 = .ok (.invokevirtual 71, 3) := by decide +kernel
theorem dX0_readMarks_80 : decode cX0_readMarks 80 = .ok (.iload_n 3, 1) := by decide +kernel
theorem dX0_readMarks_81 : decode cX0_readMarks 81 = .ok (.iconst 2, 1) := by decide +kernel
theorem dX0_readMarks_82 : decode cX0_readMarks 82 = .ok (.iadd, 1) := by decide +kernel
theorem dX0_readMarks_83 : decode cX0_readMarks 83 = .ok (.aload_n 1, 1) := by decide +kernel
theorem dX0_readMarks_84 : decode cX0_readMarks 84 = .ok (.invokevirtual 63, 3) := by decide +kernel
theorem dX0_readMarks_87 : decode cX0_readMarks 87 = .ok (.if_icmp .ne 4, 3) := by decide +kernel
theorem dX0_readMarks_90 : decode cX0_readMarks 90 = .ok (.return_, 1) := by decide +kernel
theorem dX0_readMarks_91 : decode cX0_readMarks 91 = .ok (.aload_n 1, 1) := by decide +kernel
theorem dX0_readMarks_92 : decode cX0_readMarks 92 = .ok (.iload_n 3, 1) := by decide +kernel
theorem dX0_readMarks_93 : decode cX0_readMarks 93 = .ok (.iconst 2, 1) := by decide +kernel
theorem dX0_readMarks_94 : decode cX0_readMarks 94 = .ok (.iadd, 1) := by decide +kernel
theorem dX0_readMarks_95 : decode cX0_readMarks 95 = .ok (.invokevirtual 60, 3) := by decide +kernel
theorem dX0_readMarks_98 : decode cX0_readMarks 98 = .ok (.bipush 44, 2) := by decide +kernel
theorem dX0_readMarks_100 : decode cX0_readMarks 100 = .ok (.if_icmp .eq 12, 3) := by decide +kernel
theorem dX0_readMarks_103 : decode cX0_readMarks 103 = .ok (.aload_n 0, 1) := by decide +kernel
theorem dX0_readMarks_104 : decode cX0_readMarks 104 = .ok (.iload_n 3, 1) := by decide +kernel
theorem dX0_readMarks_105 : decode cX0_readMarks 105 = .ok (.iconst 2, 1) := by decide +kernel
theorem dX0_readMarks_106 : decode cX0_readMarks 106 = .ok (.iadd, 1) := by decide +kernel
theorem dX0_readMarks_107 : decode cX0_readMarks 107 = .ok (.iconst 1, 1) := by decide +kernel
theorem dX0_readMarks_108 : decode cX0_readMarks 108 = .ok (.invokevirtual 52, 3) := by decide +kernel
theorem dX0_readMarks_111 : decode cX0_readMarks 111 = .ok (.return_, 1) := by decide +kernel
theorem dX0_readMarks_112 : decode cX0_readMarks 112 = .ok (.iinc 3 3, 3) := by decide +kernel
theorem dX0_readMarks_115 : decode cX0_readMarks 115 = .ok (.goto (-104), 3) := by decide +kernel
theorem dX0_readMarks_118 : decode cX0_readMarks 118 = .ok (.aload_n 0, 1) := by decide +kernel
theorem dX0_readMarks_119 : decode cX0_readMarks 119 = .ok (.aload_n 1, 1) := by decide +kernel
theorem dX0_readMarks_120 : decode cX0_readMarks 120 = .ok (.invokevirtual 63, 3) := by decide +kernel
theorem dX0_readMarks_123 : decode cX0_readMarks 123 = .ok (.iconst 1, 1) := by decide +kernel
theorem dX0_readMarks_124 : decode cX0_readMarks 124 = .ok (.invokevirtual 52, 3) := by decide +kernel
theorem dX0_readMarks_127 : decode cX0_readMarks 127 = .ok (.return_, 1) := by decide +kernel
theorem dX0_noteMark_0 : decode cX0_noteMark 0 = .ok (.aload_n 0, 1) := by decide +kernel
theorem dX0_noteMark_1 : decode cX0_noteMark 1 = .ok (.getfield 18, 3) := by decide +kernel
theorem dX0_noteMark_4 : decode cX0_noteMark 4 = .ok (.aload_n 0, 1) := by decide +kernel
theorem dX0_noteMark_5 : decode cX0_noteMark 5 = .ok (.getfield 28, 3) := by decide +kernel
theorem dX0_noteMark_8 : decode cX0_noteMark 8 = .ok (.iload_n 1, 1) := by decide +kernel
theorem dX0_noteMark_9 : decode cX0_noteMark 9 = .ok (.invokestatic 75, 3) := by decide +kernel
theorem dX0_noteMark_12 : decode cX0_noteMark 12 = .ok (.aload_n 0, 1) := by decide +kernel
theorem dX0_noteMark_13 : decode cX0_noteMark 13 = .ok (.getfield 9, 3) := by decide +kernel
theorem dX0_noteMark_16 : decode cX0_noteMark 16 = .ok (.aload_n 0, 1) := by decide +kernel
theorem dX0_noteMark_17 : decode cX0_noteMark 17 = .ok (.getfield 28, 3) := by decide +kernel
theorem dX0_noteMark_20 : decode cX0_noteMark 20 = .ok (.iload_n 2, 1) := by decide +kernel
theorem dX0_noteMark_21 : decode cX0_noteMark 21 = .ok (.invokestatic 75, 3) := by decide +kernel
theorem dX0_noteMark_24 : decode cX0_noteMark 24 = .ok (.aload_n 0, 1) := by decide +kernel
theorem dX0_noteMark_25 : decode cX0_noteMark 25 = .ok (.getfield 15, 3) := by decide +kernel
theorem dX0_noteMark_28 : decode cX0_noteMark 28 = .ok (.aload_n 0, 1) := by decide +kernel
theorem dX0_noteMark_29 : decode cX0_noteMark 29 = .ok (.getfield 28, 3) := by decide +kernel
theorem dX0_noteMark_32 : decode cX0_noteMark 32 = .ok (.iload_n 3, 1) := by decide +kernel
theorem dX0_noteMark_33 : decode cX0_noteMark 33 = .ok (.invokestatic 75, 3) := by decide +kernel
theorem dX0_noteMark_36 : decode cX0_noteMark 36 = .ok (.aload_n 0, 1) := by decide +kernel
theorem dX0_noteMark_37 : decode cX0_noteMark 37 = .ok (.dup, 1) := by decide +kernel
theorem dX0_noteMark_38 : decode cX0_noteMark 38 = .ok (.getfield 28, 3) := by decide +kernel
theorem dX0_noteMark_41 : decode cX0_noteMark 41 = .ok (.iconst 1, 1) := by decide +kernel
theorem dX0_noteMark_42 : decode cX0_noteMark 42 = .ok (.iadd, 1) := by decide +kernel
theorem dX0_noteMark_43 : decode cX0_noteMark 43 = .ok (.putfield 28, 3) := by decide +kernel
theorem dX0_noteMark_46 : decode cX0_noteMark 46 = .ok (.return_, 1) := by decide +kernel
theorem dX0_judge_0 : decode cX0_judge 0 = .ok (.aload_n 1, 1) := by decide +kernel
theorem dX0_judge_1 : decode cX0_judge 1 = .ok (.aload_n 0, 1) := by decide +kernel
theorem dX0_judge_2 : decode cX0_judge 2 = .ok (.getfield 43, 3) := by decide +kernel
theorem dX0_judge_5 : decode cX0_judge 5 = .ok (.invokevirtual 81, 3) := by decide +kernel
theorem dX0_judge_8 : decode cX0_judge 8 = .ok (.ifCond .ne 10, 3) := by decide +kernel
theorem dX0_judge_11 : decode cX0_judge 11 = .ok (.aload_n 0, 1) := by decide +kernel
theorem dX0_judge_12 : decode cX0_judge 12 = .ok (.iconst 0, 1) := by decide +kernel
theorem dX0_judge_13 : decode cX0_judge 13 = .ok (.iconst 2, 1) := by decide +kernel
theorem dX0_judge_14 : decode cX0_judge 14 = .ok (.invokevirtual 52, 3) := by decide +kernel
theorem dX0_judge_17 : decode cX0_judge 17 = .ok (.return_, 1) := by decide +kernel
theorem dX0_judge_18 : decode cX0_judge 18 = .ok (.iconst 0, 1) := by decide +kernel
theorem dX0_judge_19 : decode cX0_judge 19 = .ok (.istore_n 2, 1) := by decide +kernel
theorem dX0_judge_20 : decode cX0_judge 20 = .ok (.iload_n 2, 1) := by decide +kernel
theorem dX0_judge_21 : decode cX0_judge 21 = .ok (.aload_n 0, 1) := by decide +kernel
theorem dX0_judge_22 : decode cX0_judge 22 = .ok (.getfield 28, 3) := by decide +kernel
theorem dX0_judge_25 : decode cX0_judge 25 = .ok (.if_icmp .ge 55, 3) := by decide +kernel
theorem dX0_judge_28 : decode cX0_judge 28 = .ok (.aload_n 0, 1) := by decide +kernel
theorem dX0_judge_29 : decode cX0_judge 29 = .ok (.aload_n 1, 1) := by decide +kernel
theorem dX0_judge_30 : decode cX0_judge 30 = .ok (.iload_n 2, 1) := by decide +kernel
theorem dX0_judge_31 : decode cX0_judge 31 = .ok (.invokevirtual 86, 3) := by decide +kernel
theorem dX0_judge_34 : decode cX0_judge 34 = .ok (.iconst (-1), 1) := by decide +kernel
theorem dX0_judge_35 : decode cX0_judge 35 = .ok (.if_icmp .ne 17, 3) := by decide +kernel
theorem dX0_judge_38 : decode cX0_judge 38 = .ok (.aload_n 0, 1) := by decide +kernel
theorem dX0_judge_39 : decode cX0_judge 39 = .ok (.aload_n 0, 1) := by decide +kernel
theorem dX0_judge_40 : decode cX0_judge 40 = .ok (.getfield 18, 3) := by decide +kernel
theorem dX0_judge_43 : decode cX0_judge 43 = .ok (.iload_n 2, 1) := by decide +kernel
theorem dX0_judge_44 : decode cX0_judge 44 = .ok (.invokestatic 90, 3) := by decide +kernel
theorem dX0_judge_47 : decode cX0_judge 47 = .ok (.iconst 3, 1) := by decide +kernel
theorem dX0_judge_48 : decode cX0_judge 48 = .ok (.invokevirtual 52, 3) := by decide +kernel
theorem dX0_judge_51 : decode cX0_judge 51 = .ok (.return_, 1) := by decide +kernel
theorem dX0_judge_52 : decode cX0_judge 52 = .ok (.aload_n 0, 1) := by decide +kernel
theorem dX0_judge_53 : decode cX0_judge 53 = .ok (.iload_n 2, 1) := by decide +kernel
theorem dX0_judge_54 : decode cX0_judge 54 = .ok (.invokevirtual 94, 3) := by decide +kernel
theorem dX0_judge_57 : decode cX0_judge 57 = .ok (.ifCond .eq 17, 3) := by decide +kernel
theorem dX0_judge_60 : decode cX0_judge 60 = .ok (.aload_n 0, 1) := by decide +kernel
theorem dX0_judge_61 : decode cX0_judge 61 = .ok (.aload_n 0, 1) := by decide +kernel
theorem dX0_judge_62 : decode cX0_judge 62 = .ok (.getfield 18, 3) := by decide +kernel
theorem dX0_judge_65 : decode cX0_judge 65 = .ok (.iload_n 2, 1) := by decide +kernel
theorem dX0_judge_66 : decode cX0_judge 66 = .ok (.invokestatic 90, 3) := by decide +kernel
theorem dX0_judge_69 : decode cX0_judge 69 = .ok (.iconst 4, 1) := by decide +kernel
theorem dX0_judge_70 : decode cX0_judge 70 = .ok (.invokevirtual 52, 3) := by decide +kernel
theorem dX0_judge_73 : decode cX0_judge 73 = .ok (.return_, 1) := by decide +kernel
theorem dX0_judge_74 : decode cX0_judge 74 = .ok (.iinc 2 1, 3) := by decide +kernel
theorem dX0_judge_77 : decode cX0_judge 77 = .ok (.goto (-57), 3) := by decide +kernel
theorem dX0_judge_80 : decode cX0_judge 80 = .ok (.return_, 1) := by decide +kernel
theorem dX0_nameOfMark_0 : decode cX0_nameOfMark 0 = .ok (.aload_n 0, 1) := by decide +kernel
theorem dX0_nameOfMark_1 : decode cX0_nameOfMark 1 = .ok (.getfield 9, 3) := by decide +kernel
theorem dX0_nameOfMark_4 : decode cX0_nameOfMark 4 = .ok (.iload_n 2, 1) := by decide +kernel
theorem dX0_nameOfMark_5 : decode cX0_nameOfMark 5 = .ok (.invokestatic 90, 3) := by decide +kernel
theorem dX0_nameOfMark_8 : decode cX0_nameOfMark 8 = .ok (.istore_n 3, 1) := by decide +kernel
theorem dX0_nameOfMark_9 : decode cX0_nameOfMark 9 = .ok (.aload_n 1, 1) := by decide +kernel
theorem dX0_nameOfMark_10 : decode cX0_nameOfMark 10 = .ok (.aload_n 0, 1) := by decide +kernel
theorem dX0_nameOfMark_11 : decode cX0_nameOfMark 11 = .ok (.getfield 43, 3) := by decide +kernel
theorem dX0_nameOfMark_14 : decode cX0_nameOfMark 14 = .ok (.iload_n 3, 1) := by decide +kernel
theorem dX0_nameOfMark_15 : decode cX0_nameOfMark 15 = .ok (.aload_n 0, 1) := by decide +kernel
theorem dX0_nameOfMark_16 : decode cX0_nameOfMark 16 = .ok (.getfield 15, 3) := by decide +kernel
theorem dX0_nameOfMark_19 : decode cX0_nameOfMark 19 = .ok (.iload_n 2, 1) := by decide +kernel
theorem dX0_nameOfMark_20 : decode cX0_nameOfMark 20 = .ok (.invokestatic 90, 3) := by decide +kernel
theorem dX0_nameOfMark_23 : decode cX0_nameOfMark 23 = .ok (.invokevirtual 97, 3) := by decide +kernel
theorem dX0_nameOfMark_26 : decode cX0_nameOfMark 26 = .ok (.ireturn, 1) := by decide +kernel
theorem dX0_standsAhead_0 : decode cX0_standsAhead 0 = .ok (.iconst 0, 1) := by decide +kernel
theorem dX0_standsAhead_1 : decode cX0_standsAhead 1 = .ok (.istore_n 2, 1) := by decide +kernel
theorem dX0_standsAhead_2 : decode cX0_standsAhead 2 = .ok (.iload_n 2, 1) := by decide +kernel
theorem dX0_standsAhead_3 : decode cX0_standsAhead 3 = .ok (.iload_n 1, 1) := by decide +kernel
theorem dX0_standsAhead_4 : decode cX0_standsAhead 4 = .ok (.if_icmp .ge 49, 3) := by decide +kernel
theorem dX0_standsAhead_7 : decode cX0_standsAhead 7 = .ok (.aload_n 0, 1) := by decide +kernel
theorem dX0_standsAhead_8 : decode cX0_standsAhead 8 = .ok (.getfield 9, 3) := by decide +kernel
theorem dX0_standsAhead_11 : decode cX0_standsAhead 11 = .ok (.iload_n 2, 1) := by decide +kernel
theorem dX0_standsAhead_12 : decode cX0_standsAhead 12 = .ok (.invokestatic 90, 3) := by decide +kernel
theorem dX0_standsAhead_15 : decode cX0_standsAhead 15 = .ok (.aload_n 0, 1) := by decide +kernel
theorem dX0_standsAhead_16 : decode cX0_standsAhead 16 = .ok (.getfield 9, 3) := by decide +kernel
theorem dX0_standsAhead_19 : decode cX0_standsAhead 19 = .ok (.iload_n 1, 1) := by decide +kernel
theorem dX0_standsAhead_20 : decode cX0_standsAhead 20 = .ok (.invokestatic 90, 3) := by decide +kernel
theorem dX0_standsAhead_23 : decode cX0_standsAhead 23 = .ok (.if_icmp .ne 24, 3) := by decide +kernel
theorem dX0_standsAhead_26 : decode cX0_standsAhead 26 = .ok (.aload_n 0, 1) := by decide +kernel
theorem dX0_standsAhead_27 : decode cX0_standsAhead 27 = .ok (.getfield 15, 3) := by decide +kernel
theorem dX0_standsAhead_30 : decode cX0_standsAhead 30 = .ok (.iload_n 2, 1) := by decide +kernel
theorem dX0_standsAhead_31 : decode cX0_standsAhead 31 = .ok (.invokestatic 90, 3) := by decide +kernel
theorem dX0_standsAhead_34 : decode cX0_standsAhead 34 = .ok (.aload_n 0, 1) := by decide +kernel
theorem dX0_standsAhead_35 : decode cX0_standsAhead 35 = .ok (.getfield 15, 3) := by decide +kernel
theorem dX0_standsAhead_38 : decode cX0_standsAhead 38 = .ok (.iload_n 1, 1) := by decide +kernel
theorem dX0_standsAhead_39 : decode cX0_standsAhead 39 = .ok (.invokestatic 90, 3) := by decide +kernel
theorem dX0_standsAhead_42 : decode cX0_standsAhead 42 = .ok (.if_icmp .ne 5, 3) := by decide +kernel
theorem dX0_standsAhead_45 : decode cX0_standsAhead 45 = .ok (.iconst 1, 1) := by decide +kernel
theorem dX0_standsAhead_46 : decode cX0_standsAhead 46 = .ok (.ireturn, 1) := by decide +kernel
theorem dX0_standsAhead_47 : decode cX0_standsAhead 47 = .ok (.iinc 2 1, 3) := by decide +kernel
theorem dX0_standsAhead_50 : decode cX0_standsAhead 50 = .ok (.goto (-48), 3) := by decide +kernel
theorem dX0_standsAhead_53 : decode cX0_standsAhead 53 = .ok (.iconst 0, 1) := by decide +kernel
theorem dX0_standsAhead_54 : decode cX0_standsAhead 54 = .ok (.ireturn, 1) := by decide +kernel
theorem dX0_countIn_0 : decode cX0_countIn 0 = .ok (.aload_n 1, 1) := by decide +kernel
theorem dX0_countIn_1 : decode cX0_countIn 1 = .ok (.invokevirtual 101, 3) := by decide +kernel
theorem dX0_countIn_4 : decode cX0_countIn 4 = .ok (.iconst 0, 1) := by decide +kernel
theorem dX0_countIn_5 : decode cX0_countIn 5 = .ok (.istore_n 2, 1) := by decide +kernel
theorem dX0_countIn_6 : decode cX0_countIn 6 = .ok (.iconst 0, 1) := by decide +kernel
theorem dX0_countIn_7 : decode cX0_countIn 7 = .ok (.istore_n 3, 1) := by decide +kernel
theorem dX0_countIn_8 : decode cX0_countIn 8 = .ok (.iload_n 3, 1) := by decide +kernel
theorem dX0_countIn_9 : decode cX0_countIn 9 = .ok (.aload_n 1, 1) := by decide +kernel
theorem dX0_countIn_10 : decode cX0_countIn 10 = .ok (.invokevirtual 104, 3) := by decide +kernel
theorem dX0_countIn_13 : decode cX0_countIn 13 = .ok (.if_icmp .ge 66, 3) := by decide +kernel
theorem dX0_countIn_16 : decode cX0_countIn 16 = .ok (.aload_n 0, 1) := by decide +kernel
theorem dX0_countIn_17 : decode cX0_countIn 17 = .ok (.iload_n 3, 1) := by decide +kernel
theorem dX0_countIn_18 : decode cX0_countIn 18 = .ok (.invokevirtual 107, 3) := by decide +kernel
theorem dX0_countIn_21 : decode cX0_countIn 21 = .ok (.istore 4, 2) := by decide +kernel
theorem dX0_countIn_23 : decode cX0_countIn 23 = .ok (.iload 4, 2) := by decide +kernel
theorem dX0_countIn_25 : decode cX0_countIn 25 = .ok (.aload_n 1, 1) := by decide +kernel
theorem dX0_countIn_26 : decode cX0_countIn 26 = .ok (.iload_n 3, 1) := by decide +kernel
theorem dX0_countIn_27 : decode cX0_countIn 27 = .ok (.invokevirtual 110, 3) := by decide +kernel
theorem dX0_countIn_30 : decode cX0_countIn 30 = .ok (.if_icmp .le 11, 3) := by decide +kernel
theorem dX0_countIn_33 : decode cX0_countIn 33 = .ok (.aload_n 1, 1) := by decide +kernel
theorem dX0_countIn_34 : decode cX0_countIn 34 = .ok (.iload_n 3, 1) := by decide +kernel
theorem dX0_countIn_35 : decode cX0_countIn 35 = .ok (.invokevirtual 113, 3) := by decide +kernel
theorem dX0_countIn_38 : decode cX0_countIn 38 = .ok (.goto 35, 3) := by decide +kernel
theorem dX0_countIn_41 : decode cX0_countIn 41 = .ok (.iload 4, 2) := by decide +kernel
theorem dX0_countIn_43 : decode cX0_countIn 43 = .ok (.ifCond .le 17, 3) := by decide +kernel
theorem dX0_countIn_46 : decode cX0_countIn 46 = .ok (.aload_n 0, 1) := by decide +kernel
theorem dX0_countIn_47 : decode cX0_countIn 47 = .ok (.aload_n 1, 1) := by decide +kernel
theorem dX0_countIn_48 : decode cX0_countIn 48 = .ok (.iload_n 3, 1) := by decide +kernel
theorem dX0_countIn_49 : decode cX0_countIn 49 = .ok (.invokevirtual 117, 3) := by decide +kernel
theorem dX0_countIn_52 : decode cX0_countIn 52 = .ok (.iload_n 2, 1) := by decide +kernel
theorem dX0_countIn_53 : decode cX0_countIn 53 = .ok (.iload 4, 2) := by decide +kernel
theorem dX0_countIn_55 : decode cX0_countIn 55 = .ok (.iadd, 1) := by decide +kernel
theorem dX0_countIn_56 : decode cX0_countIn 56 = .ok (.istore_n 2, 1) := by decide +kernel
theorem dX0_countIn_57 : decode cX0_countIn 57 = .ok (.goto 16, 3) := by decide +kernel
theorem dX0_countIn_60 : decode cX0_countIn 60 = .ok (.aload_n 1, 1) := by decide +kernel
theorem dX0_countIn_61 : decode cX0_countIn 61 = .ok (.iload_n 3, 1) := by decide +kernel
theorem dX0_countIn_62 : decode cX0_countIn 62 = .ok (.invokevirtual 121, 3) := by decide +kernel
theorem dX0_countIn_65 : decode cX0_countIn 65 = .ok (.ifCond .le 8, 3) := by decide +kernel
theorem dX0_countIn_68 : decode cX0_countIn 68 = .ok (.aload_n 1, 1) := by decide +kernel
theorem dX0_countIn_69 : decode cX0_countIn 69 = .ok (.iload_n 3, 1) := by decide +kernel
theorem dX0_countIn_70 : decode cX0_countIn 70 = .ok (.invokevirtual 124, 3) := by decide +kernel
theorem dX0_countIn_73 : decode cX0_countIn 73 = .ok (.iinc 3 1, 3) := by decide +kernel
theorem dX0_countIn_76 : decode cX0_countIn 76 = .ok (.goto (-68), 3) := by decide +kernel
theorem dX0_countIn_79 : decode cX0_countIn 79 = .ok (.iload_n 2, 1) := by decide +kernel
theorem dX0_countIn_80 : decode cX0_countIn 80 = .ok (.ireturn, 1) := by decide +kernel
theorem dX0_marksIn_0 : decode cX0_marksIn 0 = .ok (.iconst 0, 1) := by decide +kernel
theorem dX0_marksIn_1 : decode cX0_marksIn 1 = .ok (.istore_n 2, 1) := by decide +kernel
theorem dX0_marksIn_2 : decode cX0_marksIn 2 = .ok (.iconst 0, 1) := by decide +kernel
theorem dX0_marksIn_3 : decode cX0_marksIn 3 = .ok (.istore_n 3, 1) := by decide +kernel
theorem dX0_marksIn_4 : decode cX0_marksIn 4 = .ok (.iload_n 3, 1) := by decide +kernel
theorem dX0_marksIn_5 : decode cX0_marksIn 5 = .ok (.aload_n 0, 1) := by decide +kernel
theorem dX0_marksIn_6 : decode cX0_marksIn 6 = .ok (.getfield 28, 3) := by decide +kernel
theorem dX0_marksIn_9 : decode cX0_marksIn 9 = .ok (.if_icmp .ge 24, 3) := by decide +kernel
theorem dX0_marksIn_12 : decode cX0_marksIn 12 = .ok (.aload_n 0, 1) := by decide +kernel
theorem dX0_marksIn_13 : decode cX0_marksIn 13 = .ok (.getfield 9, 3) := by decide +kernel
theorem dX0_marksIn_16 : decode cX0_marksIn 16 = .ok (.iload_n 3, 1) := by decide +kernel
theorem dX0_marksIn_17 : decode cX0_marksIn 17 = .ok (.invokestatic 90, 3) := by decide +kernel
theorem dX0_marksIn_20 : decode cX0_marksIn 20 = .ok (.iload_n 1, 1) := by decide +kernel
theorem dX0_marksIn_21 : decode cX0_marksIn 21 = .ok (.if_icmp .ne 6, 3) := by decide +kernel
theorem dX0_marksIn_24 : decode cX0_marksIn 24 = .ok (.iinc 2 1, 3) := by decide +kernel
theorem dX0_marksIn_27 : decode cX0_marksIn 27 = .ok (.iinc 3 1, 3) := by decide +kernel
theorem dX0_marksIn_30 : decode cX0_marksIn 30 = .ok (.goto (-26), 3) := by decide +kernel
theorem dX0_marksIn_33 : decode cX0_marksIn 33 = .ok (.iload_n 2, 1) := by decide +kernel
theorem dX0_marksIn_34 : decode cX0_marksIn 34 = .ok (.ireturn, 1) := by decide +kernel
theorem dX0_addVotes_0 : decode cX0_addVotes 0 = .ok (.iconst 0, 1) := by decide +kernel
theorem dX0_addVotes_1 : decode cX0_addVotes 1 = .ok (.istore_n 3, 1) := by decide +kernel
theorem dX0_addVotes_2 : decode cX0_addVotes 2 = .ok (.iload_n 3, 1) := by decide +kernel
theorem dX0_addVotes_3 : decode cX0_addVotes 3 = .ok (.aload_n 0, 1) := by decide +kernel
theorem dX0_addVotes_4 : decode cX0_addVotes 4 = .ok (.getfield 28, 3) := by decide +kernel
theorem dX0_addVotes_7 : decode cX0_addVotes 7 = .ok (.if_icmp .ge 32, 3) := by decide +kernel
theorem dX0_addVotes_10 : decode cX0_addVotes 10 = .ok (.aload_n 0, 1) := by decide +kernel
theorem dX0_addVotes_11 : decode cX0_addVotes 11 = .ok (.getfield 9, 3) := by decide +kernel
theorem dX0_addVotes_14 : decode cX0_addVotes 14 = .ok (.iload_n 3, 1) := by decide +kernel
theorem dX0_addVotes_15 : decode cX0_addVotes 15 = .ok (.invokestatic 90, 3) := by decide +kernel
theorem dX0_addVotes_18 : decode cX0_addVotes 18 = .ok (.iload_n 2, 1) := by decide +kernel
theorem dX0_addVotes_19 : decode cX0_addVotes 19 = .ok (.if_icmp .ne 14, 3) := by decide +kernel
theorem dX0_addVotes_22 : decode cX0_addVotes 22 = .ok (.aload_n 1, 1) := by decide +kernel
theorem dX0_addVotes_23 : decode cX0_addVotes 23 = .ok (.iload_n 2, 1) := by decide +kernel
theorem dX0_addVotes_24 : decode cX0_addVotes 24 = .ok (.aload_n 0, 1) := by decide +kernel
theorem dX0_addVotes_25 : decode cX0_addVotes 25 = .ok (.aload_n 1, 1) := by decide +kernel
theorem dX0_addVotes_26 : decode cX0_addVotes 26 = .ok (.iload_n 3, 1) := by decide +kernel
theorem dX0_addVotes_27 : decode cX0_addVotes 27 = .ok (.invokevirtual 86, 3) := by decide +kernel
theorem dX0_addVotes_30 : decode cX0_addVotes 30 = .ok (.invokevirtual 127, 3) := by decide +kernel
theorem dX0_addVotes_33 : decode cX0_addVotes 33 = .ok (.iinc 3 1, 3) := by decide +kernel
theorem dX0_addVotes_36 : decode cX0_addVotes 36 = .ok (.goto (-34), 3) := by decide +kernel
theorem dX0_addVotes_39 : decode cX0_addVotes 39 = .ok (.return_, 1) := by decide +kernel
theorem dX1_init_0 : decode cX1_init 0 = .ok (.aload_n 0, 1) := by decide +kernel
theorem dX1_init_1 : decode cX1_init 1 = .ok (.invokespecial 3, 3) := by decide +kernel
theorem dX1_init_4 : decode cX1_init 4 = .ok (.aload_n 0, 1) := by decide +kernel
theorem dX1_init_5 : decode cX1_init 5 = .ok (.bipush 8, 2) := by decide +kernel
theorem dX1_init_7 : decode cX1_init 7 = .ok (.newarray .int, 2) := by decide +kernel
theorem dX1_init_9 : decode cX1_init 9 = .ok (.putfield 9, 3) := by decide +kernel
theorem dX1_init_12 : decode cX1_init 12 = .ok (.return_, 1) := by decide +kernel
theorem dX1_onPapers_0 : decode cX1_onPapers 0 = .ok (.aload_n 0, 1) := by decide +kernel
theorem dX1_onPapers_1 : decode cX1_onPapers 1 = .ok (.getfield 9, 3) := by decide +kernel
theorem dX1_onPapers_4 : decode cX1_onPapers 4 = .ok (.iconst 0, 1) := by decide +kernel
theorem dX1_onPapers_5 : decode cX1_onPapers 5 = .ok (.invokestatic 15, 3) := by decide +kernel
theorem dX1_onPapers_8 : decode cX1_onPapers 8 = .ok (.iconst 0, 1) := by decide +kernel
theorem dX1_onPapers_9 : decode cX1_onPapers 9 = .ok (.istore_n 3, 1) := by decide +kernel
theorem dX1_onPapers_10 : decode cX1_onPapers 10 = .ok (.iload_n 3, 1) := by decide +kernel
theorem dX1_onPapers_11 : decode cX1_onPapers 11 = .ok (.aload_n 1, 1) := by decide +kernel
theorem dX1_onPapers_12 : decode cX1_onPapers 12 = .ok (.iconst 5, 1) := by decide +kernel
theorem dX1_onPapers_13 : decode cX1_onPapers 13 = .ok (.invokevirtual 21, 3) := by decide +kernel
theorem dX1_onPapers_16 : decode cX1_onPapers 16 = .ok (.if_icmp .ge 28, 3) := by decide +kernel
theorem dX1_onPapers_19 : decode cX1_onPapers 19 = .ok (.aload_n 0, 1) := by decide +kernel
theorem dX1_onPapers_20 : decode cX1_onPapers 20 = .ok (.getfield 9, 3) := by decide +kernel
theorem dX1_onPapers_23 : decode cX1_onPapers 23 = .ok (.aload_n 1, 1) := by decide +kernel
theorem dX1_onPapers_24 : decode cX1_onPapers 24 = .ok (.iload_n 3, 1) := by decide +kernel
theorem dX1_onPapers_25 : decode cX1_onPapers 25 = .ok (.iload_n 2, 1) := by decide +kernel
theorem dX1_onPapers_26 : decode cX1_onPapers 26 = .ok (.iconst 0, 1) := by decide +kernel
theorem dX1_onPapers_27 : decode cX1_onPapers 27 = .ok (.invokevirtual 27, 3) := by decide +kernel
theorem dX1_onPapers_30 : decode cX1_onPapers 30 = .ok (.aload_n 1, 1) := by decide +kernel
theorem dX1_onPapers_31 : decode cX1_onPapers 31 = .ok (.iload_n 3, 1) := by decide +kernel
theorem dX1_onPapers_32 : decode cX1_onPapers 32 = .ok (.invokevirtual 31, 3) := by decide +kernel
theorem dX1_onPapers_35 : decode cX1_onPapers 35 = .ok (.invokestatic 34, 3) := by decide +kernel
theorem dX1_onPapers_38 : decode cX1_onPapers 38 = .ok (.iinc 3 1, 3) := by decide +kernel
theorem dX1_onPapers_41 : decode cX1_onPapers 41 = .ok (.goto (-31), 3) := by decide +kernel
theorem dX1_onPapers_44 : decode cX1_onPapers 44 = .ok (.return_, 1) := by decide +kernel
theorem dX1_inVersions_0 : decode cX1_inVersions 0 = .ok (.aload_n 0, 1) := by decide +kernel
theorem dX1_inVersions_1 : decode cX1_inVersions 1 = .ok (.getfield 9, 3) := by decide +kernel
theorem dX1_inVersions_4 : decode cX1_inVersions 4 = .ok (.iconst 0, 1) := by decide +kernel
theorem dX1_inVersions_5 : decode cX1_inVersions 5 = .ok (.invokestatic 15, 3) := by decide +kernel
theorem dX1_inVersions_8 : decode cX1_inVersions 8 = .ok (.iconst 0, 1) := by decide +kernel
theorem dX1_inVersions_9 : decode cX1_inVersions 9 = .ok (.istore 4, 2) := by decide +kernel
theorem dX1_inVersions_11 : decode cX1_inVersions 11 = .ok (.iload 4, 2) := by decide +kernel
theorem dX1_inVersions_13 : decode cX1_inVersions 13 = .ok (.iload_n 3, 1) := by decide +kernel
theorem dX1_inVersions_14 : decode cX1_inVersions 14 = .ok (.if_icmp .ge 25, 3) := by decide +kernel
theorem dX1_inVersions_17 : decode cX1_inVersions 17 = .ok (.aload_n 0, 1) := by decide +kernel
theorem dX1_inVersions_18 : decode cX1_inVersions 18 = .ok (.getfield 9, 3) := by decide +kernel
theorem dX1_inVersions_21 : decode cX1_inVersions 21 = .ok (.aload_n 1, 1) := by decide +kernel
theorem dX1_inVersions_22 : decode cX1_inVersions 22 = .ok (.iload 4, 2) := by decide +kernel
theorem dX1_inVersions_24 : decode cX1_inVersions 24 = .ok (.iload_n 2, 1) := by decide +kernel
theorem dX1_inVersions_25 : decode cX1_inVersions 25 = .ok (.iconst 0, 1) := by decide +kernel
theorem dX1_inVersions_26 : decode cX1_inVersions 26 = .ok (.invokevirtual 27, 3) := by decide +kernel
theorem dX1_inVersions_29 : decode cX1_inVersions 29 = .ok (.iconst 1, 1) := by decide +kernel
theorem dX1_inVersions_30 : decode cX1_inVersions 30 = .ok (.invokestatic 34, 3) := by decide +kernel
theorem dX1_inVersions_33 : decode cX1_inVersions 33 = .ok (.iinc 4 1, 3) := by decide +kernel
theorem dX1_inVersions_36 : decode cX1_inVersions 36 = .ok (.goto (-25), 3) := by decide +kernel
theorem dX1_inVersions_39 : decode cX1_inVersions 39 = .ok (.return_, 1) := by decide +kernel
theorem dX1_timesOf_0 : decode cX1_timesOf 0 = .ok (.aload_n 0, 1) := by decide +kernel
theorem dX1_timesOf_1 : decode cX1_timesOf 1 = .ok (.getfield 9, 3) := by decide +kernel
theorem dX1_timesOf_4 : decode cX1_timesOf 4 = .ok (.iload_n 1, 1) := by decide +kernel
theorem dX1_timesOf_5 : decode cX1_timesOf 5 = .ok (.invokestatic 38, 3) := by decide +kernel
theorem dX1_timesOf_8 : decode cX1_timesOf 8 = .ok (.ireturn, 1) := by decide +kernel
theorem dX1_difference_0 : decode cX1_difference 0 = .ok (.aload_n 0, 1) := by decide +kernel
theorem dX1_difference_1 : decode cX1_difference 1 = .ok (.iconst 0, 1) := by decide +kernel
theorem dX1_difference_2 : decode cX1_difference 2 = .ok (.invokevirtual 42, 3) := by decide +kernel
theorem dX1_difference_5 : decode cX1_difference 5 = .ok (.istore_n 2, 1) := by decide +kernel
theorem dX1_difference_6 : decode cX1_difference 6 = .ok (.iload_n 2, 1) := by decide +kernel
theorem dX1_difference_7 : decode cX1_difference 7 = .ok (.istore_n 3, 1) := by decide +kernel
theorem dX1_difference_8 : decode cX1_difference 8 = .ok (.iconst 1, 1) := by decide +kernel
theorem dX1_difference_9 : decode cX1_difference 9 = .ok (.istore 4, 2) := by decide +kernel
theorem dX1_difference_11 : decode cX1_difference 11 = .ok (.iload 4, 2) := by decide +kernel
theorem dX1_difference_13 : decode cX1_difference 13 = .ok (.iload_n 1, 1) := by decide +kernel
theorem dX1_difference_14 : decode cX1_difference 14 = .ok (.if_icmp .ge 31, 3) := by decide +kernel
theorem dX1_difference_17 : decode cX1_difference 17 = .ok (.iload_n 2, 1) := by decide +kernel
theorem dX1_difference_18 : decode cX1_difference 18 = .ok (.aload_n 0, 1) := by decide +kernel
theorem dX1_difference_19 : decode cX1_difference 19 = .ok (.iload 4, 2) := by decide +kernel
theorem dX1_difference_21 : decode cX1_difference 21 = .ok (.invokevirtual 42, 3) := by decide +kernel
theorem dX1_difference_24 : decode cX1_difference 24 = .ok (.invokestatic 45, 3) := by decide +kernel
theorem dX1_difference_27 : decode cX1_difference 27 = .ok (.istore_n 2, 1) := by decide +kernel
theorem dX1_difference_28 : decode cX1_difference 28 = .ok (.iload_n 3, 1) := by decide +kernel
theorem dX1_difference_29 : decode cX1_difference 29 = .ok (.aload_n 0, 1) := by decide +kernel
theorem dX1_difference_30 : decode cX1_difference 30 = .ok (.iload 4, 2) := by decide +kernel
theorem dX1_difference_32 : decode cX1_difference 32 = .ok (.invokevirtual 42, 3) := by decide +kernel
theorem dX1_difference_35 : decode cX1_difference 35 = .ok (.invokestatic 51, 3) := by decide +kernel
theorem dX1_difference_38 : decode cX1_difference 38 = .ok (.istore_n 3, 1) := by decide +kernel
theorem dX1_difference_39 : decode cX1_difference 39 = .ok (.iinc 4 1, 3) := by decide +kernel
theorem dX1_difference_42 : decode cX1_difference 42 = .ok (.goto (-31), 3) := by decide +kernel
theorem dX1_difference_45 : decode cX1_difference 45 = .ok (.iload_n 2, 1) := by decide +kernel
theorem dX1_difference_46 : decode cX1_difference 46 = .ok (.iload_n 3, 1) := by decide +kernel
theorem dX1_difference_47 : decode cX1_difference 47 = .ok (.isub, 1) := by decide +kernel
theorem dX1_difference_48 : decode cX1_difference 48 = .ok (.ireturn, 1) := by decide +kernel
theorem dX2_init_0 : decode cX2_init 0 = .ok (.aload_n 0, 1) := by decide +kernel
theorem dX2_init_1 : decode cX2_init 1 = .ok (.invokespecial 3, 3) := by decide +kernel
theorem dX2_init_4 : decode cX2_init 4 = .ok (.aload_n 0, 1) := by decide +kernel
theorem dX2_init_5 : decode cX2_init 5 = .ok (.iconst 4, 1) := by decide +kernel
theorem dX2_init_6 : decode cX2_init 6 = .ok (.anewarray 9, 3) := by decide +kernel
theorem dX2_init_9 : decode cX2_init 9 = .ok (.putfield 11, 3) := by decide +kernel
theorem dX2_init_12 : decode cX2_init 12 = .ok (.iconst 0, 1) := by decide +kernel
theorem dX2_init_13 : decode cX2_init 13 = .ok (.istore_n 1, 1) := by decide +kernel
theorem dX2_init_14 : decode cX2_init 14 = .ok (.iload_n 1, 1) := by decide +kernel
theorem dX2_init_15 : decode cX2_init 15 = .ok (.aload_n 0, 1) := by decide +kernel
theorem dX2_init_16 : decode cX2_init 16 = .ok (.getfield 11, 3) := by decide +kernel
theorem dX2_init_19 : decode cX2_init 19 = .ok (.arraylength, 1) := by decide +kernel
theorem dX2_init_20 : decode cX2_init 20 = .ok (.if_icmp .ge 22, 3) := by decide +kernel
theorem dX2_init_23 : decode cX2_init 23 = .ok (.aload_n 0, 1) := by decide +kernel
theorem dX2_init_24 : decode cX2_init 24 = .ok (.getfield 11, 3) := by decide +kernel
theorem dX2_init_27 : decode cX2_init 27 = .ok (.iload_n 1, 1) := by decide +kernel
theorem dX2_init_28 : decode cX2_init 28 = .ok (.new 9, 3) := by decide +kernel
theorem dX2_init_31 : decode cX2_init 31 = .ok (.dup, 1) := by decide +kernel
theorem dX2_init_32 : decode cX2_init 32 = .ok (.invokespecial 17, 3) := by decide +kernel
theorem dX2_init_35 : decode cX2_init 35 = .ok (.aastore, 1) := by decide +kernel
theorem dX2_init_36 : decode cX2_init 36 = .ok (.iinc 1 1, 3) := by decide +kernel
theorem dX2_init_39 : decode cX2_init 39 = .ok (.goto (-25), 3) := by decide +kernel
theorem dX2_init_42 : decode cX2_init 42 = .ok (.return_, 1) := by decide +kernel
theorem dX2_kept_0 : decode cX2_kept 0 = .ok (.aload_n 0, 1) := by decide +kernel
theorem dX2_kept_1 : decode cX2_kept 1 = .ok (.getfield 18, 3) := by decide +kernel
theorem dX2_kept_4 : decode cX2_kept 4 = .ok (.ireturn, 1) := by decide +kernel
theorem dX2_keep_0 : decode cX2_keep 0 = .ok (.aload_n 0, 1) := by decide +kernel
theorem dX2_keep_1 : decode cX2_keep 1 = .ok (.getfield 18, 3) := by decide +kernel
theorem dX2_keep_4 : decode cX2_keep 4 = .ok (.iconst 4, 1) := by decide +kernel
theorem dX2_keep_5 : decode cX2_keep 5 = .ok (.if_icmp .ne 25, 3) := by decide +kernel
theorem dX2_keep_8 : decode cX2_keep 8 = .ok (.aload_n 0, 1) := by decide +kernel
theorem dX2_keep_9 : decode cX2_keep 9 = .ok (.aload_n 0, 1) := by decide +kernel
theorem dX2_keep_10 : decode cX2_keep 10 = .ok (.getfield 22, 3) := by decide +kernel
theorem dX2_keep_13 : decode cX2_keep 13 = .ok (.iconst 1, 1) := by decide +kernel
theorem dX2_keep_14 : decode cX2_keep 14 = .ok (.iadd, 1) := by decide +kernel
theorem dX2_keep_15 : decode cX2_keep 15 = .ok (.iconst 4, 1) := by decide +kernel
theorem dX2_keep_16 : decode cX2_keep 16 = .ok (.irem, 1) := by decide +kernel
theorem dX2_keep_17 : decode cX2_keep 17 = .ok (.putfield 22, 3) := by decide +kernel
theorem dX2_keep_20 : decode cX2_keep 20 = .ok (.aload_n 0, 1) := by decide +kernel
theorem dX2_keep_21 : decode cX2_keep 21 = .ok (.dup, 1) := by decide +kernel
theorem dX2_keep_22 : decode cX2_keep 22 = .ok (.getfield 18, 3) := by decide +kernel
theorem dX2_keep_25 : decode cX2_keep 25 = .ok (.iconst 1, 1) := by decide +kernel
theorem dX2_keep_26 : decode cX2_keep 26 = .ok (.isub, 1) := by decide +kernel
theorem dX2_keep_27 : decode cX2_keep 27 = .ok (.putfield 18, 3) := by decide +kernel
theorem dX2_keep_30 : decode cX2_keep 30 = .ok (.aload_n 0, 1) := by decide +kernel
theorem dX2_keep_31 : decode cX2_keep 31 = .ok (.aload_n 0, 1) := by decide +kernel
theorem dX2_keep_32 : decode cX2_keep 32 = .ok (.getfield 22, 3) := by decide +kernel
theorem dX2_keep_35 : decode cX2_keep 35 = .ok (.aload_n 0, 1) := by decide +kernel
theorem dX2_keep_36 : decode cX2_keep 36 = .ok (.getfield 18, 3) := by decide +kernel
theorem dX2_keep_39 : decode cX2_keep 39 = .ok (.iadd, 1) := by decide +kernel
theorem dX2_keep_40 : decode cX2_keep 40 = .ok (.iconst 4, 1) := by decide +kernel
theorem dX2_keep_41 : decode cX2_keep 41 = .ok (.irem, 1) := by decide +kernel
theorem dX2_keep_42 : decode cX2_keep 42 = .ok (.invokevirtual 25, 3) := by decide +kernel
theorem dX2_keep_45 : decode cX2_keep 45 = .ok (.astore_n 2, 1) := by decide +kernel
theorem dX2_keep_46 : decode cX2_keep 46 = .ok (.aload_n 2, 1) := by decide +kernel
theorem dX2_keep_47 : decode cX2_keep 47 = .ok (.ifnull 18, 3) := by decide +kernel
theorem dX2_keep_50 : decode cX2_keep 50 = .ok (.aload_n 2, 1) := by decide +kernel
theorem dX2_keep_51 : decode cX2_keep 51 = .ok (.aload_n 1, 1) := by decide +kernel
theorem dX2_keep_52 : decode cX2_keep 52 = .ok (.invokevirtual 29, 3) := by decide +kernel
theorem dX2_keep_55 : decode cX2_keep 55 = .ok (.aload_n 0, 1) := by decide +kernel
theorem dX2_keep_56 : decode cX2_keep 56 = .ok (.dup, 1) := by decide +kernel
theorem dX2_keep_57 : decode cX2_keep 57 = .ok (.getfield 18, 3) := by decide +kernel
theorem dX2_keep_60 : decode cX2_keep 60 = .ok (.iconst 1, 1) := by decide +kernel
theorem dX2_keep_61 : decode cX2_keep 61 = .ok (.iadd, 1) := by decide +kernel
theorem dX2_keep_62 : decode cX2_keep 62 = .ok (.putfield 18, 3) := by decide +kernel
theorem dX2_keep_65 : decode cX2_keep 65 = .ok (.return_, 1) := by decide +kernel
theorem dX2_restore_0 : decode cX2_restore 0 = .ok (.aload_n 0, 1) := by decide +kernel
theorem dX2_restore_1 : decode cX2_restore 1 = .ok (.getfield 18, 3) := by decide +kernel
theorem dX2_restore_4 : decode cX2_restore 4 = .ok (.ifCond .le 38, 3) := by decide +kernel
theorem dX2_restore_7 : decode cX2_restore 7 = .ok (.aload_n 0, 1) := by decide +kernel
theorem dX2_restore_8 : decode cX2_restore 8 = .ok (.dup, 1) := by decide +kernel
theorem dX2_restore_9 : decode cX2_restore 9 = .ok (.getfield 18, 3) := by decide +kernel
theorem dX2_restore_12 : decode cX2_restore 12 = .ok (.iconst 1, 1) := by decide +kernel
theorem dX2_restore_13 : decode cX2_restore 13 = .ok (.isub, 1) := by decide +kernel
theorem dX2_restore_14 : decode cX2_restore 14 = .ok (.putfield 18, 3) := by decide +kernel
theorem dX2_restore_17 : decode cX2_restore 17 = .ok (.aload_n 0, 1) := by decide +kernel
theorem dX2_restore_18 : decode cX2_restore 18 = .ok (.aload_n 0, 1) := by decide +kernel
theorem dX2_restore_19 : decode cX2_restore 19 = .ok (.getfield 22, 3) := by decide +kernel
theorem dX2_restore_22 : decode cX2_restore 22 = .ok (.aload_n 0, 1) := by decide +kernel
theorem dX2_restore_23 : decode cX2_restore 23 = .ok (.getfield 18, 3) := by decide +kernel
theorem dX2_restore_26 : decode cX2_restore 26 = .ok (.iadd, 1) := by decide +kernel
theorem dX2_restore_27 : decode cX2_restore 27 = .ok (.iconst 4, 1) := by decide +kernel
theorem dX2_restore_28 : decode cX2_restore 28 = .ok (.irem, 1) := by decide +kernel
theorem dX2_restore_29 : decode cX2_restore 29 = .ok (.invokevirtual 25, 3) := by decide +kernel
theorem dX2_restore_32 : decode cX2_restore 32 = .ok (.astore_n 2, 1) := by decide +kernel
theorem dX2_restore_33 : decode cX2_restore 33 = .ok (.aload_n 2, 1) := by decide +kernel
theorem dX2_restore_34 : decode cX2_restore 34 = .ok (.ifnull 8, 3) := by decide +kernel
theorem dX2_restore_37 : decode cX2_restore 37 = .ok (.aload_n 1, 1) := by decide +kernel
theorem dX2_restore_38 : decode cX2_restore 38 = .ok (.aload_n 2, 1) := by decide +kernel
theorem dX2_restore_39 : decode cX2_restore 39 = .ok (.invokevirtual 29, 3) := by decide +kernel
theorem dX2_restore_42 : decode cX2_restore 42 = .ok (.return_, 1) := by decide +kernel
theorem dX2_stateAt_0 : decode cX2_stateAt 0 = .ok (.iload_n 1, 1) := by decide +kernel
theorem dX2_stateAt_1 : decode cX2_stateAt 1 = .ok (.ifCond .lt 21, 3) := by decide +kernel
theorem dX2_stateAt_4 : decode cX2_stateAt 4 = .ok (.iload_n 1, 1) := by decide +kernel
theorem dX2_stateAt_5 : decode cX2_stateAt 5 = .ok (.aload_n 0, 1) := by decide +kernel
theorem dX2_stateAt_6 : decode cX2_stateAt 6 = .ok (.getfield 11, 3) := by decide +kernel
theorem dX2_stateAt_9 : decode cX2_stateAt 9 = .ok (.arraylength, 1) := by decide +kernel
theorem dX2_stateAt_10 : decode cX2_stateAt 10 = .ok (.if_icmp .ge 12, 3) := by decide +kernel
theorem dX2_stateAt_13 : decode cX2_stateAt 13 = .ok (.aload_n 0, 1) := by decide +kernel
theorem dX2_stateAt_14 : decode cX2_stateAt 14 = .ok (.getfield 11, 3) := by decide +kernel
theorem dX2_stateAt_17 : decode cX2_stateAt 17 = .ok (.iload_n 1, 1) := by decide +kernel
theorem dX2_stateAt_18 : decode cX2_stateAt 18 = .ok (.aaload, 1) := by decide +kernel
theorem dX2_stateAt_19 : decode cX2_stateAt 19 = .ok (.goto 4, 3) := by decide +kernel
theorem dX2_stateAt_22 : decode cX2_stateAt 22 = .ok (.aconst_null, 1) := by decide +kernel
theorem dX2_stateAt_23 : decode cX2_stateAt 23 = .ok (.areturn, 1) := by decide +kernel
theorem dX3_init_0 : decode cX3_init 0 = .ok (.aload_n 0, 1) := by decide +kernel
theorem dX3_init_1 : decode cX3_init 1 = .ok (.invokespecial 3, 3) := by decide +kernel
theorem dX3_init_4 : decode cX3_init 4 = .ok (.aload_n 0, 1) := by decide +kernel
theorem dX3_init_5 : decode cX3_init 5 = .ok (.bipush 6, 2) := by decide +kernel
theorem dX3_init_7 : decode cX3_init 7 = .ok (.newarray .int, 2) := by decide +kernel
theorem dX3_init_9 : decode cX3_init 9 = .ok (.putfield 9, 3) := by decide +kernel
theorem dX3_init_12 : decode cX3_init 12 = .ok (.aload_n 0, 1) := by decide +kernel
theorem dX3_init_13 : decode cX3_init 13 = .ok (.bipush 6, 2) := by decide +kernel
theorem dX3_init_15 : decode cX3_init 15 = .ok (.newarray .int, 2) := by decide +kernel
theorem dX3_init_17 : decode cX3_init 17 = .ok (.putfield 15, 3) := by decide +kernel
theorem dX3_init_20 : decode cX3_init 20 = .ok (.aload_n 0, 1) := by decide +kernel
theorem dX3_init_21 : decode cX3_init 21 = .ok (.bipush 6, 2) := by decide +kernel
theorem dX3_init_23 : decode cX3_init 23 = .ok (.newarray .int, 2) := by decide +kernel
theorem dX3_init_25 : decode cX3_init 25 = .ok (.putfield 18, 3) := by decide +kernel
theorem dX3_init_28 : decode cX3_init 28 = .ok (.aload_n 0, 1) := by decide +kernel
theorem dX3_init_29 : decode cX3_init 29 = .ok (.bipush 6, 2) := by decide +kernel
theorem dX3_init_31 : decode cX3_init 31 = .ok (.newarray .int, 2) := by decide +kernel
theorem dX3_init_33 : decode cX3_init 33 = .ok (.putfield 21, 3) := by decide +kernel
theorem dX3_init_36 : decode cX3_init 36 = .ok (.aload_n 0, 1) := by decide +kernel
theorem dX3_init_37 : decode cX3_init 37 = .ok (.bipush 6, 2) := by decide +kernel
theorem dX3_init_39 : decode cX3_init 39 = .ok (.newarray .int, 2) := by decide +kernel
theorem dX3_init_41 : decode cX3_init 41 = .ok (.putfield 24, 3) := by decide +kernel
theorem dX3_init_44 : decode cX3_init 44 = .ok (.aload_n 0, 1) := by decide +kernel
theorem dX3_init_45 : decode cX3_init 45 = .ok (.bipush 6, 2) := by decide +kernel
theorem dX3_init_47 : decode cX3_init 47 = .ok (.newarray .int, 2) := by decide +kernel
theorem dX3_init_49 : decode cX3_init 49 = .ok (.putfield 27, 3) := by decide +kernel
theorem dX3_init_52 : decode cX3_init 52 = .ok (.aload_n 0, 1) := by decide +kernel
theorem dX3_init_53 : decode cX3_init 53 = .ok (.bipush 48, 2) := by decide +kernel
theorem dX3_init_55 : decode cX3_init 55 = .ok (.newarray .int, 2) := by decide +kernel
theorem dX3_init_57 : decode cX3_init 57 = .ok (.putfield 30, 3) := by decide +kernel
theorem dX3_init_60 : decode cX3_init 60 = .ok (.aload_n 0, 1) := by decide +kernel
theorem dX3_init_61 : decode cX3_init 61 = .ok (.bipush 48, 2) := by decide +kernel
theorem dX3_init_63 : decode cX3_init 63 = .ok (.newarray .int, 2) := by decide +kernel
theorem dX3_init_65 : decode cX3_init 65 = .ok (.putfield 33, 3) := by decide +kernel
theorem dX3_init_68 : decode cX3_init 68 = .ok (.aload_n 0, 1) := by decide +kernel
theorem dX3_init_69 : decode cX3_init 69 = .ok (.bipush 24, 2) := by decide +kernel
theorem dX3_init_71 : decode cX3_init 71 = .ok (.newarray .int, 2) := by decide +kernel
theorem dX3_init_73 : decode cX3_init 73 = .ok (.putfield 36, 3) := by decide +kernel
theorem dX3_init_76 : decode cX3_init 76 = .ok (.aload_n 0, 1) := by decide +kernel
theorem dX3_init_77 : decode cX3_init 77 = .ok (.bipush 6, 2) := by decide +kernel
theorem dX3_init_79 : decode cX3_init 79 = .ok (.newarray .int, 2) := by decide +kernel
theorem dX3_init_81 : decode cX3_init 81 = .ok (.putfield 39, 3) := by decide +kernel
theorem dX3_init_84 : decode cX3_init 84 = .ok (.getstatic 42, 3) := by decide +kernel
theorem dX3_init_87 : decode cX3_init 87 = .ok (.aload_n 0, 1) := by decide +kernel
theorem dX3_init_88 : decode cX3_init 88 = .ok (.getfield 39, 3) := by decide +kernel
theorem dX3_init_91 : decode cX3_init 91 = .ok (.invokestatic 45, 3) := by decide +kernel
theorem dX3_init_94 : decode cX3_init 94 = .ok (.return_, 1) := by decide +kernel
theorem dX3_become_0 : decode cX3_become 0 = .ok (.aload_n 0, 1) := by decide +kernel
theorem dX3_become_1 : decode cX3_become 1 = .ok (.aload_n 1, 1) := by decide +kernel
theorem dX3_become_2 : decode cX3_become 2 = .ok (.getfield 51, 3) := by decide +kernel
theorem dX3_become_5 : decode cX3_become 5 = .ok (.putfield 51, 3) := by decide +kernel
theorem dX3_become_8 : decode cX3_become 8 = .ok (.aload_n 0, 1) := by decide +kernel
theorem dX3_become_9 : decode cX3_become 9 = .ok (.aload_n 1, 1) := by decide +kernel
theorem dX3_become_10 : decode cX3_become 10 = .ok (.getfield 55, 3) := by decide +kernel
theorem dX3_become_13 : decode cX3_become 13 = .ok (.putfield 55, 3) := by decide +kernel
theorem dX3_become_16 : decode cX3_become 16 = .ok (.aload_n 1, 1) := by decide +kernel
theorem dX3_become_17 : decode cX3_become 17 = .ok (.getfield 9, 3) := by decide +kernel
theorem dX3_become_20 : decode cX3_become 20 = .ok (.aload_n 0, 1) := by decide +kernel
theorem dX3_become_21 : decode cX3_become 21 = .ok (.getfield 9, 3) := by decide +kernel
theorem dX3_become_24 : decode cX3_become 24 = .ok (.invokestatic 45, 3) := by decide +kernel
theorem dX3_become_27 : decode cX3_become 27 = .ok (.aload_n 1, 1) := by decide +kernel
theorem dX3_become_28 : decode cX3_become 28 = .ok (.getfield 15, 3) := by decide +kernel
theorem dX3_become_31 : decode cX3_become 31 = .ok (.aload_n 0, 1) := by decide +kernel
theorem dX3_become_32 : decode cX3_become 32 = .ok (.getfield 15, 3) := by decide +kernel
theorem dX3_become_35 : decode cX3_become 35 = .ok (.invokestatic 45, 3) := by decide +kernel
theorem dX3_become_38 : decode cX3_become 38 = .ok (.aload_n 1, 1) := by decide +kernel
theorem dX3_become_39 : decode cX3_become 39 = .ok (.getfield 18, 3) := by decide +kernel
theorem dX3_become_42 : decode cX3_become 42 = .ok (.aload_n 0, 1) := by decide +kernel
theorem dX3_become_43 : decode cX3_become 43 = .ok (.getfield 18, 3) := by decide +kernel
theorem dX3_become_46 : decode cX3_become 46 = .ok (.invokestatic 45, 3) := by decide +kernel
theorem dX3_become_49 : decode cX3_become 49 = .ok (.aload_n 1, 1) := by decide +kernel
theorem dX3_become_50 : decode cX3_become 50 = .ok (.getfield 21, 3) := by decide +kernel
theorem dX3_become_53 : decode cX3_become 53 = .ok (.aload_n 0, 1) := by decide +kernel
theorem dX3_become_54 : decode cX3_become 54 = .ok (.getfield 21, 3) := by decide +kernel
theorem dX3_become_57 : decode cX3_become 57 = .ok (.invokestatic 45, 3) := by decide +kernel
theorem dX3_become_60 : decode cX3_become 60 = .ok (.aload_n 1, 1) := by decide +kernel
theorem dX3_become_61 : decode cX3_become 61 = .ok (.getfield 24, 3) := by decide +kernel
theorem dX3_become_64 : decode cX3_become 64 = .ok (.aload_n 0, 1) := by decide +kernel
theorem dX3_become_65 : decode cX3_become 65 = .ok (.getfield 24, 3) := by decide +kernel
theorem dX3_become_68 : decode cX3_become 68 = .ok (.invokestatic 45, 3) := by decide +kernel
theorem dX3_become_71 : decode cX3_become 71 = .ok (.aload_n 1, 1) := by decide +kernel
theorem dX3_become_72 : decode cX3_become 72 = .ok (.getfield 27, 3) := by decide +kernel
theorem dX3_become_75 : decode cX3_become 75 = .ok (.aload_n 0, 1) := by decide +kernel
theorem dX3_become_76 : decode cX3_become 76 = .ok (.getfield 27, 3) := by decide +kernel
theorem dX3_become_79 : decode cX3_become 79 = .ok (.invokestatic 45, 3) := by decide +kernel
theorem dX3_become_82 : decode cX3_become 82 = .ok (.aload_n 1, 1) := by decide +kernel
theorem dX3_become_83 : decode cX3_become 83 = .ok (.getfield 30, 3) := by decide +kernel
theorem dX3_become_86 : decode cX3_become 86 = .ok (.aload_n 0, 1) := by decide +kernel
theorem dX3_become_87 : decode cX3_become 87 = .ok (.getfield 30, 3) := by decide +kernel
theorem dX3_become_90 : decode cX3_become 90 = .ok (.invokestatic 45, 3) := by decide +kernel
theorem dX3_become_93 : decode cX3_become 93 = .ok (.aload_n 1, 1) := by decide +kernel
theorem dX3_become_94 : decode cX3_become 94 = .ok (.getfield 33, 3) := by decide +kernel
theorem dX3_become_97 : decode cX3_become 97 = .ok (.aload_n 0, 1) := by decide +kernel
theorem dX3_become_98 : decode cX3_become 98 = .ok (.getfield 33, 3) := by decide +kernel
theorem dX3_become_101 : decode cX3_become 101 = .ok (.invokestatic 45, 3) := by decide +kernel
theorem dX3_become_104 : decode cX3_become 104 = .ok (.aload_n 1, 1) := by decide +kernel
theorem dX3_become_105 : decode cX3_become 105 = .ok (.getfield 36, 3) := by decide +kernel
theorem dX3_become_108 : decode cX3_become 108 = .ok (.aload_n 0, 1) := by decide +kernel
theorem dX3_become_109 : decode cX3_become 109 = .ok (.getfield 36, 3) := by decide +kernel
theorem dX3_become_112 : decode cX3_become 112 = .ok (.invokestatic 45, 3) := by decide +kernel
theorem dX3_become_115 : decode cX3_become 115 = .ok (.aload_n 1, 1) := by decide +kernel
theorem dX3_become_116 : decode cX3_become 116 = .ok (.getfield 39, 3) := by decide +kernel
theorem dX3_become_119 : decode cX3_become 119 = .ok (.aload_n 0, 1) := by decide +kernel
theorem dX3_become_120 : decode cX3_become 120 = .ok (.getfield 39, 3) := by decide +kernel
theorem dX3_become_123 : decode cX3_become 123 = .ok (.invokestatic 45, 3) := by decide +kernel
theorem dX3_become_126 : decode cX3_become 126 = .ok (.return_, 1) := by decide +kernel
theorem dX3_slot_0 : decode cX3_slot 0 = .ok (.iload_n 0, 1) := by decide +kernel
theorem dX3_slot_1 : decode cX3_slot 1 = .ok (.bipush 8, 2) := by decide +kernel
theorem dX3_slot_3 : decode cX3_slot 3 = .ok (.imul, 1) := by decide +kernel
theorem dX3_slot_4 : decode cX3_slot 4 = .ok (.iload_n 1, 1) := by decide +kernel
theorem dX3_slot_5 : decode cX3_slot 5 = .ok (.iadd, 1) := by decide +kernel
theorem dX3_slot_6 : decode cX3_slot 6 = .ok (.ireturn, 1) := by decide +kernel
theorem dX3_addContest_0 : decode cX3_addContest 0 = .ok (.aload_n 0, 1) := by decide +kernel
theorem dX3_addContest_1 : decode cX3_addContest 1 = .ok (.getfield 51, 3) := by decide +kernel
theorem dX3_addContest_4 : decode cX3_addContest 4 = .ok (.istore_n 3, 1) := by decide +kernel
theorem dX3_addContest_5 : decode cX3_addContest 5 = .ok (.aload_n 0, 1) := by decide +kernel
theorem dX3_addContest_6 : decode cX3_addContest 6 = .ok (.getfield 9, 3) := by decide +kernel
theorem dX3_addContest_9 : decode cX3_addContest 9 = .ok (.iload_n 3, 1) := by decide +kernel
theorem dX3_addContest_10 : decode cX3_addContest 10 = .ok (.iload_n 1, 1) := by decide +kernel
theorem dX3_addContest_11 : decode cX3_addContest 11 = .ok (.invokestatic 58, 3) := by decide +kernel
theorem dX3_addContest_14 : decode cX3_addContest 14 = .ok (.aload_n 0, 1) := by decide +kernel
theorem dX3_addContest_15 : decode cX3_addContest 15 = .ok (.getfield 15, 3) := by decide +kernel
theorem dX3_addContest_18 : decode cX3_addContest 18 = .ok (.iload_n 3, 1) := by decide +kernel
theorem dX3_addContest_19 : decode cX3_addContest 19 = .ok (.iload_n 2, 1) := by decide +kernel
theorem dX3_addContest_20 : decode cX3_addContest 20 = .ok (.invokestatic 58, 3) := by decide +kernel
theorem dX3_addContest_23 : decode cX3_addContest 23 = .ok (.aload_n 0, 1) := by decide +kernel
theorem dX3_addContest_24 : decode cX3_addContest 24 = .ok (.dup, 1) := by decide +kernel
theorem dX3_addContest_25 : decode cX3_addContest 25 = .ok (.getfield 51, 3) := by decide +kernel
theorem dX3_addContest_28 : decode cX3_addContest 28 = .ok (.iconst 1, 1) := by decide +kernel
theorem dX3_addContest_29 : decode cX3_addContest 29 = .ok (.iadd, 1) := by decide +kernel
theorem dX3_addContest_30 : decode cX3_addContest 30 = .ok (.putfield 51, 3) := by decide +kernel
theorem dX3_addContest_33 : decode cX3_addContest 33 = .ok (.iload_n 3, 1) := by decide +kernel
theorem dX3_addContest_34 : decode cX3_addContest 34 = .ok (.ireturn, 1) := by decide +kernel
theorem dX3_addName_0 : decode cX3_addName 0 = .ok (.aload_n 0, 1) := by decide +kernel
theorem dX3_addName_1 : decode cX3_addName 1 = .ok (.iload_n 1, 1) := by decide +kernel
theorem dX3_addName_2 : decode cX3_addName 2 = .ok (.invokevirtual 62, 3) := by decide +kernel
theorem dX3_addName_5 : decode cX3_addName 5 = .ok (.istore_n 3, 1) := by decide +kernel
theorem dX3_addName_6 : decode cX3_addName 6 = .ok (.aload_n 0, 1) := by decide +kernel
theorem dX3_addName_7 : decode cX3_addName 7 = .ok (.getfield 30, 3) := by decide +kernel
theorem dX3_addName_10 : decode cX3_addName 10 = .ok (.iload_n 1, 1) := by decide +kernel
theorem dX3_addName_11 : decode cX3_addName 11 = .ok (.iload_n 3, 1) := by decide +kernel
theorem dX3_addName_12 : decode cX3_addName 12 = .ok (.invokestatic 66, 3) := by decide +kernel
theorem dX3_addName_15 : decode cX3_addName 15 = .ok (.iload_n 2, 1) := by decide +kernel
theorem dX3_addName_16 : decode cX3_addName 16 = .ok (.invokestatic 58, 3) := by decide +kernel
theorem dX3_addName_19 : decode cX3_addName 19 = .ok (.aload_n 0, 1) := by decide +kernel
theorem dX3_addName_20 : decode cX3_addName 20 = .ok (.getfield 21, 3) := by decide +kernel
theorem dX3_addName_23 : decode cX3_addName 23 = .ok (.iload_n 1, 1) := by decide +kernel
theorem dX3_addName_24 : decode cX3_addName 24 = .ok (.iconst 1, 1) := by decide +kernel
theorem dX3_addName_25 : decode cX3_addName 25 = .ok (.invokestatic 70, 3) := by decide +kernel
theorem dX3_addName_28 : decode cX3_addName 28 = .ok (.iload_n 3, 1) := by decide +kernel
theorem dX3_addName_29 : decode cX3_addName 29 = .ok (.ireturn, 1) := by decide +kernel
theorem dX3_turnBy_0 : decode cX3_turnBy 0 = .ok (.aload_n 0, 1) := by decide +kernel
theorem dX3_turnBy_1 : decode cX3_turnBy 1 = .ok (.iload_n 1, 1) := by decide +kernel
theorem dX3_turnBy_2 : decode cX3_turnBy 2 = .ok (.invokevirtual 73, 3) := by decide +kernel
theorem dX3_turnBy_5 : decode cX3_turnBy 5 = .ok (.istore_n 3, 1) := by decide +kernel
theorem dX3_turnBy_6 : decode cX3_turnBy 6 = .ok (.aload_n 0, 1) := by decide +kernel
theorem dX3_turnBy_7 : decode cX3_turnBy 7 = .ok (.getfield 18, 3) := by decide +kernel
theorem dX3_turnBy_10 : decode cX3_turnBy 10 = .ok (.iload_n 1, 1) := by decide +kernel
theorem dX3_turnBy_11 : decode cX3_turnBy 11 = .ok (.iload_n 2, 1) := by decide +kernel
theorem dX3_turnBy_12 : decode cX3_turnBy 12 = .ok (.invokestatic 58, 3) := by decide +kernel
theorem dX3_turnBy_15 : decode cX3_turnBy 15 = .ok (.iload_n 3, 1) := by decide +kernel
theorem dX3_turnBy_16 : decode cX3_turnBy 16 = .ok (.ireturn, 1) := by decide +kernel
theorem dX3_printPapers_0 : decode cX3_printPapers 0 = .ok (.aload_n 0, 1) := by decide +kernel
theorem dX3_printPapers_1 : decode cX3_printPapers 1 = .ok (.iload_n 1, 1) := by decide +kernel
theorem dX3_printPapers_2 : decode cX3_printPapers 2 = .ok (.invokevirtual 76, 3) := by decide +kernel
theorem dX3_printPapers_5 : decode cX3_printPapers 5 = .ok (.istore_n 3, 1) := by decide +kernel
theorem dX3_printPapers_6 : decode cX3_printPapers 6 = .ok (.aload_n 0, 1) := by decide +kernel
theorem dX3_printPapers_7 : decode cX3_printPapers 7 = .ok (.getfield 36, 3) := by decide +kernel
theorem dX3_printPapers_10 : decode cX3_printPapers 10 = .ok (.iload_n 1, 1) := by decide +kernel
theorem dX3_printPapers_11 : decode cX3_printPapers 11 = .ok (.iload_n 2, 1) := by decide +kernel
theorem dX3_printPapers_12 : decode cX3_printPapers 12 = .ok (.invokestatic 58, 3) := by decide +kernel
theorem dX3_printPapers_15 : decode cX3_printPapers 15 = .ok (.iload_n 3, 1) := by decide +kernel
theorem dX3_printPapers_16 : decode cX3_printPapers 16 = .ok (.ireturn, 1) := by decide +kernel
theorem dX3_change_0 : decode cX3_change 0 = .ok (.aload_n 0, 1) := by decide +kernel
theorem dX3_change_1 : decode cX3_change 1 = .ok (.iload_n 1, 1) := by decide +kernel
theorem dX3_change_2 : decode cX3_change 2 = .ok (.invokevirtual 79, 3) := by decide +kernel
theorem dX3_change_5 : decode cX3_change 5 = .ok (.istore_n 3, 1) := by decide +kernel
theorem dX3_change_6 : decode cX3_change 6 = .ok (.aload_n 0, 1) := by decide +kernel
theorem dX3_change_7 : decode cX3_change 7 = .ok (.getfield 39, 3) := by decide +kernel
theorem dX3_change_10 : decode cX3_change 10 = .ok (.iload_n 1, 1) := by decide +kernel
theorem dX3_change_11 : decode cX3_change 11 = .ok (.iload_n 2, 1) := by decide +kernel
theorem dX3_change_12 : decode cX3_change 12 = .ok (.invokestatic 58, 3) := by decide +kernel
theorem dX3_change_15 : decode cX3_change 15 = .ok (.iload_n 1, 1) := by decide +kernel
theorem dX3_change_16 : decode cX3_change 16 = .ok (.iconst 5, 1) := by decide +kernel
theorem dX3_change_17 : decode cX3_change 17 = .ok (.if_icmp .ne 11, 3) := by decide +kernel
theorem dX3_change_20 : decode cX3_change 20 = .ok (.aload_n 0, 1) := by decide +kernel
theorem dX3_change_21 : decode cX3_change 21 = .ok (.getfield 36, 3) := by decide +kernel
theorem dX3_change_24 : decode cX3_change 24 = .ok (.iload_n 2, 1) := by decide +kernel
theorem dX3_change_25 : decode cX3_change 25 = .ok (.invokestatic 82, 3) := by decide +kernel
theorem dX3_change_28 : decode cX3_change 28 = .ok (.iload_n 3, 1) := by decide +kernel
theorem dX3_change_29 : decode cX3_change 29 = .ok (.ireturn, 1) := by decide +kernel
theorem dX3_forgetVotes_0 : decode cX3_forgetVotes 0 = .ok (.aload_n 0, 1) := by decide +kernel
theorem dX3_forgetVotes_1 : decode cX3_forgetVotes 1 = .ok (.getfield 55, 3) := by decide +kernel
theorem dX3_forgetVotes_4 : decode cX3_forgetVotes 4 = .ok (.istore_n 1, 1) := by decide +kernel
theorem dX3_forgetVotes_5 : decode cX3_forgetVotes 5 = .ok (.aload_n 0, 1) := by decide +kernel
theorem dX3_forgetVotes_6 : decode cX3_forgetVotes 6 = .ok (.iconst 0, 1) := by decide +kernel
theorem dX3_forgetVotes_7 : decode cX3_forgetVotes 7 = .ok (.putfield 55, 3) := by decide +kernel
theorem dX3_forgetVotes_10 : decode cX3_forgetVotes 10 = .ok (.aload_n 0, 1) := by decide +kernel
theorem dX3_forgetVotes_11 : decode cX3_forgetVotes 11 = .ok (.getfield 33, 3) := by decide +kernel
theorem dX3_forgetVotes_14 : decode cX3_forgetVotes 14 = .ok (.iconst 0, 1) := by decide +kernel
theorem dX3_forgetVotes_15 : decode cX3_forgetVotes 15 = .ok (.invokestatic 82, 3) := by decide +kernel
theorem dX3_forgetVotes_18 : decode cX3_forgetVotes 18 = .ok (.aload_n 0, 1) := by decide +kernel
theorem dX3_forgetVotes_19 : decode cX3_forgetVotes 19 = .ok (.getfield 24, 3) := by decide +kernel
theorem dX3_forgetVotes_22 : decode cX3_forgetVotes 22 = .ok (.iconst 0, 1) := by decide +kernel
theorem dX3_forgetVotes_23 : decode cX3_forgetVotes 23 = .ok (.invokestatic 82, 3) := by decide +kernel
theorem dX3_forgetVotes_26 : decode cX3_forgetVotes 26 = .ok (.aload_n 0, 1) := by decide +kernel
theorem dX3_forgetVotes_27 : decode cX3_forgetVotes 27 = .ok (.getfield 27, 3) := by decide +kernel
theorem dX3_forgetVotes_30 : decode cX3_forgetVotes 30 = .ok (.iconst 0, 1) := by decide +kernel
theorem dX3_forgetVotes_31 : decode cX3_forgetVotes 31 = .ok (.invokestatic 82, 3) := by decide +kernel
theorem dX3_forgetVotes_34 : decode cX3_forgetVotes 34 = .ok (.iload_n 1, 1) := by decide +kernel
theorem dX3_forgetVotes_35 : decode cX3_forgetVotes 35 = .ok (.ireturn, 1) := by decide +kernel
theorem dX3_addBallot_0 : decode cX3_addBallot 0 = .ok (.aload_n 0, 1) := by decide +kernel
theorem dX3_addBallot_1 : decode cX3_addBallot 1 = .ok (.dup, 1) := by decide +kernel
theorem dX3_addBallot_2 : decode cX3_addBallot 2 = .ok (.getfield 55, 3) := by decide +kernel
theorem dX3_addBallot_5 : decode cX3_addBallot 5 = .ok (.iconst 1, 1) := by decide +kernel
theorem dX3_addBallot_6 : decode cX3_addBallot 6 = .ok (.iadd, 1) := by decide +kernel
theorem dX3_addBallot_7 : decode cX3_addBallot 7 = .ok (.putfield 55, 3) := by decide +kernel
theorem dX3_addBallot_10 : decode cX3_addBallot 10 = .ok (.return_, 1) := by decide +kernel
theorem dX3_addVote_0 : decode cX3_addVote 0 = .ok (.aload_n 0, 1) := by decide +kernel
theorem dX3_addVote_1 : decode cX3_addVote 1 = .ok (.iload_n 1, 1) := by decide +kernel
theorem dX3_addVote_2 : decode cX3_addVote 2 = .ok (.iload_n 2, 1) := by decide +kernel
theorem dX3_addVote_3 : decode cX3_addVote 3 = .ok (.invokevirtual 86, 3) := by decide +kernel
theorem dX3_addVote_6 : decode cX3_addVote 6 = .ok (.ifCond .eq 16, 3) := by decide +kernel
theorem dX3_addVote_9 : decode cX3_addVote 9 = .ok (.aload_n 0, 1) := by decide +kernel
theorem dX3_addVote_10 : decode cX3_addVote 10 = .ok (.getfield 33, 3) := by decide +kernel
theorem dX3_addVote_13 : decode cX3_addVote 13 = .ok (.iload_n 1, 1) := by decide +kernel
theorem dX3_addVote_14 : decode cX3_addVote 14 = .ok (.iload_n 2, 1) := by decide +kernel
theorem dX3_addVote_15 : decode cX3_addVote 15 = .ok (.invokestatic 66, 3) := by decide +kernel
theorem dX3_addVote_18 : decode cX3_addVote 18 = .ok (.iconst 1, 1) := by decide +kernel
theorem dX3_addVote_19 : decode cX3_addVote 19 = .ok (.invokestatic 70, 3) := by decide +kernel
theorem dX3_addVote_22 : decode cX3_addVote 22 = .ok (.return_, 1) := by decide +kernel
theorem dX3_addSpoilt_0 : decode cX3_addSpoilt 0 = .ok (.aload_n 0, 1) := by decide +kernel
theorem dX3_addSpoilt_1 : decode cX3_addSpoilt 1 = .ok (.getfield 24, 3) := by decide +kernel
theorem dX3_addSpoilt_4 : decode cX3_addSpoilt 4 = .ok (.iload_n 1, 1) := by decide +kernel
theorem dX3_addSpoilt_5 : decode cX3_addSpoilt 5 = .ok (.iconst 1, 1) := by decide +kernel
theorem dX3_addSpoilt_6 : decode cX3_addSpoilt 6 = .ok (.invokestatic 70, 3) := by decide +kernel
theorem dX3_addSpoilt_9 : decode cX3_addSpoilt 9 = .ok (.return_, 1) := by decide +kernel
theorem dX3_addBlank_0 : decode cX3_addBlank 0 = .ok (.aload_n 0, 1) := by decide +kernel
theorem dX3_addBlank_1 : decode cX3_addBlank 1 = .ok (.getfield 27, 3) := by decide +kernel
theorem dX3_addBlank_4 : decode cX3_addBlank 4 = .ok (.iload_n 1, 1) := by decide +kernel
theorem dX3_addBlank_5 : decode cX3_addBlank 5 = .ok (.iconst 1, 1) := by decide +kernel
theorem dX3_addBlank_6 : decode cX3_addBlank 6 = .ok (.invokestatic 70, 3) := by decide +kernel
theorem dX3_addBlank_9 : decode cX3_addBlank 9 = .ok (.return_, 1) := by decide +kernel
theorem dX3_hasContest_0 : decode cX3_hasContest 0 = .ok (.iload_n 1, 1) := by decide +kernel
theorem dX3_hasContest_1 : decode cX3_hasContest 1 = .ok (.iconst 0, 1) := by decide +kernel
theorem dX3_hasContest_2 : decode cX3_hasContest 2 = .ok (.aload_n 0, 1) := by decide +kernel
theorem dX3_hasContest_3 : decode cX3_hasContest 3 = .ok (.getfield 51, 3) := by decide +kernel
theorem dX3_hasContest_6 : decode cX3_hasContest 6 = .ok (.iconst 1, 1) := by decide +kernel
theorem dX3_hasContest_7 : decode cX3_hasContest 7 = .ok (.isub, 1) := by decide +kernel
theorem dX3_hasContest_8 : decode cX3_hasContest 8 = .ok (.invokestatic 90, 3) := by decide +kernel
theorem dX3_hasContest_11 : decode cX3_hasContest 11 = .ok (.ireturn, 1) := by decide +kernel
theorem dX3_hasName_0 : decode cX3_hasName 0 = .ok (.aload_n 0, 1) := by decide +kernel
theorem dX3_hasName_1 : decode cX3_hasName 1 = .ok (.iload_n 1, 1) := by decide +kernel
theorem dX3_hasName_2 : decode cX3_hasName 2 = .ok (.invokevirtual 94, 3) := by decide +kernel
theorem dX3_hasName_5 : decode cX3_hasName 5 = .ok (.ifCond .eq 22, 3) := by decide +kernel
theorem dX3_hasName_8 : decode cX3_hasName 8 = .ok (.iload_n 2, 1) := by decide +kernel
theorem dX3_hasName_9 : decode cX3_hasName 9 = .ok (.iconst 0, 1) := by decide +kernel
theorem dX3_hasName_10 : decode cX3_hasName 10 = .ok (.aload_n 0, 1) := by decide +kernel
theorem dX3_hasName_11 : decode cX3_hasName 11 = .ok (.iload_n 1, 1) := by decide +kernel
theorem dX3_hasName_12 : decode cX3_hasName 12 = .ok (.invokevirtual 62, 3) := by decide +kernel
theorem dX3_hasName_15 : decode cX3_hasName 15 = .ok (.iconst 1, 1) := by decide +kernel
theorem dX3_hasName_16 : decode cX3_hasName 16 = .ok (.isub, 1) := by decide +kernel
theorem dX3_hasName_17 : decode cX3_hasName 17 = .ok (.invokestatic 90, 3) := by decide +kernel
theorem dX3_hasName_20 : decode cX3_hasName 20 = .ok (.ifCond .eq 7, 3) := by decide +kernel
theorem dX3_hasName_23 : decode cX3_hasName 23 = .ok (.iconst 1, 1) := by decide +kernel
theorem dX3_hasName_24 : decode cX3_hasName 24 = .ok (.goto 4, 3) := by decide +kernel
theorem dX3_hasName_27 : decode cX3_hasName 27 = .ok (.iconst 0, 1) := by decide +kernel
theorem dX3_hasName_28 : decode cX3_hasName 28 = .ok (.ireturn, 1) := by decide +kernel
theorem dX3_hasVersion_0 : decode cX3_hasVersion 0 = .ok (.iload_n 1, 1) := by decide +kernel
theorem dX3_hasVersion_1 : decode cX3_hasVersion 1 = .ok (.iconst 0, 1) := by decide +kernel
theorem dX3_hasVersion_2 : decode cX3_hasVersion 2 = .ok (.aload_n 0, 1) := by decide +kernel
theorem dX3_hasVersion_3 : decode cX3_hasVersion 3 = .ok (.iconst 5, 1) := by decide +kernel
theorem dX3_hasVersion_4 : decode cX3_hasVersion 4 = .ok (.invokevirtual 79, 3) := by decide +kernel
theorem dX3_hasVersion_7 : decode cX3_hasVersion 7 = .ok (.iconst 1, 1) := by decide +kernel
theorem dX3_hasVersion_8 : decode cX3_hasVersion 8 = .ok (.isub, 1) := by decide +kernel
theorem dX3_hasVersion_9 : decode cX3_hasVersion 9 = .ok (.invokestatic 90, 3) := by decide +kernel
theorem dX3_hasVersion_12 : decode cX3_hasVersion 12 = .ok (.ireturn, 1) := by decide +kernel
theorem dX3_hasSeat_0 : decode cX3_hasSeat 0 = .ok (.aload_n 0, 1) := by decide +kernel
theorem dX3_hasSeat_1 : decode cX3_hasSeat 1 = .ok (.iload_n 1, 1) := by decide +kernel
theorem dX3_hasSeat_2 : decode cX3_hasSeat 2 = .ok (.iload_n 2, 1) := by decide +kernel
theorem dX3_hasSeat_3 : decode cX3_hasSeat 3 = .ok (.invokevirtual 98, 3) := by decide +kernel
theorem dX3_hasSeat_6 : decode cX3_hasSeat 6 = .ok (.istore_n 3, 1) := by decide +kernel
theorem dX3_hasSeat_7 : decode cX3_hasSeat 7 = .ok (.iconst 0, 1) := by decide +kernel
theorem dX3_hasSeat_8 : decode cX3_hasSeat 8 = .ok (.istore 4, 2) := by decide +kernel
theorem dX3_hasSeat_10 : decode cX3_hasSeat 10 = .ok (.iconst 0, 1) := by decide +kernel
theorem dX3_hasSeat_11 : decode cX3_hasSeat 11 = .ok (.istore 5, 2) := by decide +kernel
theorem dX3_hasSeat_13 : decode cX3_hasSeat 13 = .ok (.iload 5, 2) := by decide +kernel
theorem dX3_hasSeat_15 : decode cX3_hasSeat 15 = .ok (.aload_n 0, 1) := by decide +kernel
theorem dX3_hasSeat_16 : decode cX3_hasSeat 16 = .ok (.iload_n 1, 1) := by decide +kernel
theorem dX3_hasSeat_17 : decode cX3_hasSeat 17 = .ok (.invokevirtual 62, 3) := by decide +kernel
theorem dX3_hasSeat_20 : decode cX3_hasSeat 20 = .ok (.if_icmp .ge 39, 3) := by decide +kernel
theorem dX3_hasSeat_23 : decode cX3_hasSeat 23 = .ok (.aload_n 0, 1) := by decide +kernel
theorem dX3_hasSeat_24 : decode cX3_hasSeat 24 = .ok (.iload_n 1, 1) := by decide +kernel
theorem dX3_hasSeat_25 : decode cX3_hasSeat 25 = .ok (.iload 5, 2) := by decide +kernel
theorem dX3_hasSeat_27 : decode cX3_hasSeat 27 = .ok (.invokevirtual 98, 3) := by decide +kernel
theorem dX3_hasSeat_30 : decode cX3_hasSeat 30 = .ok (.istore 6, 2) := by decide +kernel
theorem dX3_hasSeat_32 : decode cX3_hasSeat 32 = .ok (.iload 6, 2) := by decide +kernel
theorem dX3_hasSeat_34 : decode cX3_hasSeat 34 = .ok (.iload_n 3, 1) := by decide +kernel
theorem dX3_hasSeat_35 : decode cX3_hasSeat 35 = .ok (.if_icmp .gt 15, 3) := by decide +kernel
theorem dX3_hasSeat_38 : decode cX3_hasSeat 38 = .ok (.iload 6, 2) := by decide +kernel
theorem dX3_hasSeat_40 : decode cX3_hasSeat 40 = .ok (.iload_n 3, 1) := by decide +kernel
theorem dX3_hasSeat_41 : decode cX3_hasSeat 41 = .ok (.if_icmp .ne 12, 3) := by decide +kernel
theorem dX3_hasSeat_44 : decode cX3_hasSeat 44 = .ok (.iload 5, 2) := by decide +kernel
theorem dX3_hasSeat_46 : decode cX3_hasSeat 46 = .ok (.iload_n 2, 1) := by decide +kernel
theorem dX3_hasSeat_47 : decode cX3_hasSeat 47 = .ok (.if_icmp .ge 6, 3) := by decide +kernel
theorem dX3_hasSeat_50 : decode cX3_hasSeat 50 = .ok (.iinc 4 1, 3) := by decide +kernel
theorem dX3_hasSeat_53 : decode cX3_hasSeat 53 = .ok (.iinc 5 1, 3) := by decide +kernel
theorem dX3_hasSeat_56 : decode cX3_hasSeat 56 = .ok (.goto (-43), 3) := by decide +kernel
theorem dX3_hasSeat_59 : decode cX3_hasSeat 59 = .ok (.iload 4, 2) := by decide +kernel
theorem dX3_hasSeat_61 : decode cX3_hasSeat 61 = .ok (.aload_n 0, 1) := by decide +kernel
theorem dX3_hasSeat_62 : decode cX3_hasSeat 62 = .ok (.iload_n 1, 1) := by decide +kernel
theorem dX3_hasSeat_63 : decode cX3_hasSeat 63 = .ok (.invokevirtual 101, 3) := by decide +kernel
theorem dX3_hasSeat_66 : decode cX3_hasSeat 66 = .ok (.if_icmp .ge 7, 3) := by decide +kernel
theorem dX3_hasSeat_69 : decode cX3_hasSeat 69 = .ok (.iconst 1, 1) := by decide +kernel
theorem dX3_hasSeat_70 : decode cX3_hasSeat 70 = .ok (.goto 4, 3) := by decide +kernel
theorem dX3_hasSeat_73 : decode cX3_hasSeat 73 = .ok (.iconst 0, 1) := by decide +kernel
theorem dX3_hasSeat_74 : decode cX3_hasSeat 74 = .ok (.ireturn, 1) := by decide +kernel
theorem dX3_nameAt_0 : decode cX3_nameAt 0 = .ok (.aload_n 0, 1) := by decide +kernel
theorem dX3_nameAt_1 : decode cX3_nameAt 1 = .ok (.iload_n 2, 1) := by decide +kernel
theorem dX3_nameAt_2 : decode cX3_nameAt 2 = .ok (.invokevirtual 94, 3) := by decide +kernel
theorem dX3_nameAt_5 : decode cX3_nameAt 5 = .ok (.ifCond .eq 11, 3) := by decide +kernel
theorem dX3_nameAt_8 : decode cX3_nameAt 8 = .ok (.aload_n 0, 1) := by decide +kernel
theorem dX3_nameAt_9 : decode cX3_nameAt 9 = .ok (.iload_n 2, 1) := by decide +kernel
theorem dX3_nameAt_10 : decode cX3_nameAt 10 = .ok (.invokevirtual 62, 3) := by decide +kernel
theorem dX3_nameAt_13 : decode cX3_nameAt 13 = .ok (.goto 4, 3) := by decide +kernel
theorem dX3_nameAt_16 : decode cX3_nameAt 16 = .ok (.iconst 0, 1) := by decide +kernel
theorem dX3_nameAt_17 : decode cX3_nameAt 17 = .ok (.istore 4, 2) := by decide +kernel
theorem dX3_nameAt_19 : decode cX3_nameAt 19 = .ok (.iload_n 1, 1) := by decide +kernel
theorem dX3_nameAt_20 : decode cX3_nameAt 20 = .ok (.ifCond .lt 20, 3) := by decide +kernel
theorem dX3_nameAt_23 : decode cX3_nameAt 23 = .ok (.iload 4, 2) := by decide +kernel
theorem dX3_nameAt_25 : decode cX3_nameAt 25 = .ok (.ifCond .le 15, 3) := by decide +kernel
theorem dX3_nameAt_28 : decode cX3_nameAt 28 = .ok (.iload_n 3, 1) := by decide +kernel
theorem dX3_nameAt_29 : decode cX3_nameAt 29 = .ok (.iconst 0, 1) := by decide +kernel
theorem dX3_nameAt_30 : decode cX3_nameAt 30 = .ok (.iload 4, 2) := by decide +kernel
theorem dX3_nameAt_32 : decode cX3_nameAt 32 = .ok (.iconst 1, 1) := by decide +kernel
theorem dX3_nameAt_33 : decode cX3_nameAt 33 = .ok (.isub, 1) := by decide +kernel
theorem dX3_nameAt_34 : decode cX3_nameAt 34 = .ok (.invokestatic 90, 3) := by decide +kernel
theorem dX3_nameAt_37 : decode cX3_nameAt 37 = .ok (.ifCond .ne 5, 3) := by decide +kernel
theorem dX3_nameAt_40 : decode cX3_nameAt 40 = .ok (.iconst (-1), 1) := by decide +kernel
theorem dX3_nameAt_41 : decode cX3_nameAt 41 = .ok (.ireturn, 1) := by decide +kernel
theorem dX3_nameAt_42 : decode cX3_nameAt 42 = .ok (.aload_n 0, 1) := by decide +kernel
theorem dX3_nameAt_43 : decode cX3_nameAt 43 = .ok (.iload_n 2, 1) := by decide +kernel
theorem dX3_nameAt_44 : decode cX3_nameAt 44 = .ok (.invokevirtual 73, 3) := by decide +kernel
theorem dX3_nameAt_47 : decode cX3_nameAt 47 = .ok (.istore 5, 2) := by decide +kernel
theorem dX3_nameAt_49 : decode cX3_nameAt 49 = .ok (.iload 5, 2) := by decide +kernel
theorem dX3_nameAt_51 : decode cX3_nameAt 51 = .ok (.iconst 1, 1) := by decide +kernel
theorem dX3_nameAt_52 : decode cX3_nameAt 52 = .ok (.if_icmp .ne 13, 3) := by decide +kernel
theorem dX3_nameAt_55 : decode cX3_nameAt 55 = .ok (.iload_n 1, 1) := by decide +kernel
theorem dX3_nameAt_56 : decode cX3_nameAt 56 = .ok (.iload 4, 2) := by decide +kernel
theorem dX3_nameAt_58 : decode cX3_nameAt 58 = .ok (.irem, 1) := by decide +kernel
theorem dX3_nameAt_59 : decode cX3_nameAt 59 = .ok (.iload_n 3, 1) := by decide +kernel
theorem dX3_nameAt_60 : decode cX3_nameAt 60 = .ok (.iadd, 1) := by decide +kernel
theorem dX3_nameAt_61 : decode cX3_nameAt 61 = .ok (.iload 4, 2) := by decide +kernel
theorem dX3_nameAt_63 : decode cX3_nameAt 63 = .ok (.irem, 1) := by decide +kernel
theorem dX3_nameAt_64 : decode cX3_nameAt 64 = .ok (.ireturn, 1) := by decide +kernel
theorem dX3_nameAt_65 : decode cX3_nameAt 65 = .ok (.iload 5, 2) := by decide +kernel
theorem dX3_nameAt_67 : decode cX3_nameAt 67 = .ok (.iconst 2, 1) := by decide +kernel
theorem dX3_nameAt_68 : decode cX3_nameAt 68 = .ok (.if_icmp .ne 18, 3) := by decide +kernel
theorem dX3_nameAt_71 : decode cX3_nameAt 71 = .ok (.iload_n 1, 1) := by decide +kernel
theorem dX3_nameAt_72 : decode cX3_nameAt 72 = .ok (.iconst 2, 1) := by decide +kernel
theorem dX3_nameAt_73 : decode cX3_nameAt 73 = .ok (.irem, 1) := by decide +kernel
theorem dX3_nameAt_74 : decode cX3_nameAt 74 = .ok (.ifCond .eq 12, 3) := by decide +kernel
theorem dX3_nameAt_77 : decode cX3_nameAt 77 = .ok (.iload 4, 2) := by decide +kernel
theorem dX3_nameAt_79 : decode cX3_nameAt 79 = .ok (.iconst 1, 1) := by decide +kernel
theorem dX3_nameAt_80 : decode cX3_nameAt 80 = .ok (.isub, 1) := by decide +kernel
theorem dX3_nameAt_81 : decode cX3_nameAt 81 = .ok (.iload_n 3, 1) := by decide +kernel
theorem dX3_nameAt_82 : decode cX3_nameAt 82 = .ok (.isub, 1) := by decide +kernel
theorem dX3_nameAt_83 : decode cX3_nameAt 83 = .ok (.goto 4, 3) := by decide +kernel
theorem dX3_nameAt_86 : decode cX3_nameAt 86 = .ok (.iload_n 3, 1) := by decide +kernel
theorem dX3_nameAt_87 : decode cX3_nameAt 87 = .ok (.ireturn, 1) := by decide +kernel
theorem dX3_placeOf_0 : decode cX3_placeOf 0 = .ok (.iconst 0, 1) := by decide +kernel
theorem dX3_placeOf_1 : decode cX3_placeOf 1 = .ok (.istore 4, 2) := by decide +kernel
theorem dX3_placeOf_3 : decode cX3_placeOf 3 = .ok (.iload 4, 2) := by decide +kernel
theorem dX3_placeOf_5 : decode cX3_placeOf 5 = .ok (.aload_n 0, 1) := by decide +kernel
theorem dX3_placeOf_6 : decode cX3_placeOf 6 = .ok (.iload_n 2, 1) := by decide +kernel
theorem dX3_placeOf_7 : decode cX3_placeOf 7 = .ok (.invokevirtual 62, 3) := by decide +kernel
theorem dX3_placeOf_10 : decode cX3_placeOf 10 = .ok (.if_icmp .ge 24, 3) := by decide +kernel
theorem dX3_placeOf_13 : decode cX3_placeOf 13 = .ok (.aload_n 0, 1) := by decide +kernel
theorem dX3_placeOf_14 : decode cX3_placeOf 14 = .ok (.iload_n 1, 1) := by decide +kernel
theorem dX3_placeOf_15 : decode cX3_placeOf 15 = .ok (.iload_n 2, 1) := by decide +kernel
theorem dX3_placeOf_16 : decode cX3_placeOf 16 = .ok (.iload 4, 2) := by decide +kernel
theorem dX3_placeOf_18 : decode cX3_placeOf 18 = .ok (.invokevirtual 104, 3) := by decide +kernel
theorem dX3_placeOf_21 : decode cX3_placeOf 21 = .ok (.iload_n 3, 1) := by decide +kernel
theorem dX3_placeOf_22 : decode cX3_placeOf 22 = .ok (.if_icmp .ne 6, 3) := by decide +kernel
theorem dX3_placeOf_25 : decode cX3_placeOf 25 = .ok (.iload 4, 2) := by decide +kernel
theorem dX3_placeOf_27 : decode cX3_placeOf 27 = .ok (.ireturn, 1) := by decide +kernel
theorem dX3_placeOf_28 : decode cX3_placeOf 28 = .ok (.iinc 4 1, 3) := by decide +kernel
theorem dX3_placeOf_31 : decode cX3_placeOf 31 = .ok (.goto (-28), 3) := by decide +kernel
theorem dX3_placeOf_34 : decode cX3_placeOf 34 = .ok (.iconst (-1), 1) := by decide +kernel
theorem dX3_placeOf_35 : decode cX3_placeOf 35 = .ok (.ireturn, 1) := by decide +kernel
theorem dX3_contests_0 : decode cX3_contests 0 = .ok (.aload_n 0, 1) := by decide +kernel
theorem dX3_contests_1 : decode cX3_contests 1 = .ok (.getfield 51, 3) := by decide +kernel
theorem dX3_contests_4 : decode cX3_contests 4 = .ok (.ireturn, 1) := by decide +kernel
theorem dX3_ballots_0 : decode cX3_ballots 0 = .ok (.aload_n 0, 1) := by decide +kernel
theorem dX3_ballots_1 : decode cX3_ballots 1 = .ok (.getfield 55, 3) := by decide +kernel
theorem dX3_ballots_4 : decode cX3_ballots 4 = .ok (.ireturn, 1) := by decide +kernel
theorem dX3_setting_0 : decode cX3_setting 0 = .ok (.aload_n 0, 1) := by decide +kernel
theorem dX3_setting_1 : decode cX3_setting 1 = .ok (.getfield 39, 3) := by decide +kernel
theorem dX3_setting_4 : decode cX3_setting 4 = .ok (.iload_n 1, 1) := by decide +kernel
theorem dX3_setting_5 : decode cX3_setting 5 = .ok (.invokestatic 108, 3) := by decide +kernel
theorem dX3_setting_8 : decode cX3_setting 8 = .ok (.ireturn, 1) := by decide +kernel
theorem dX3_titleOf_0 : decode cX3_titleOf 0 = .ok (.aload_n 0, 1) := by decide +kernel
theorem dX3_titleOf_1 : decode cX3_titleOf 1 = .ok (.getfield 9, 3) := by decide +kernel
theorem dX3_titleOf_4 : decode cX3_titleOf 4 = .ok (.iload_n 1, 1) := by decide +kernel
theorem dX3_titleOf_5 : decode cX3_titleOf 5 = .ok (.invokestatic 108, 3) := by decide +kernel
theorem dX3_titleOf_8 : decode cX3_titleOf 8 = .ok (.ireturn, 1) := by decide +kernel
theorem dX3_seatsOf_0 : decode cX3_seatsOf 0 = .ok (.aload_n 0, 1) := by decide +kernel
theorem dX3_seatsOf_1 : decode cX3_seatsOf 1 = .ok (.getfield 15, 3) := by decide +kernel
theorem dX3_seatsOf_4 : decode cX3_seatsOf 4 = .ok (.iload_n 1, 1) := by decide +kernel
theorem dX3_seatsOf_5 : decode cX3_seatsOf 5 = .ok (.invokestatic 108, 3) := by decide +kernel
theorem dX3_seatsOf_8 : decode cX3_seatsOf 8 = .ok (.ireturn, 1) := by decide +kernel
theorem dX3_wayOf_0 : decode cX3_wayOf 0 = .ok (.aload_n 0, 1) := by decide +kernel
theorem dX3_wayOf_1 : decode cX3_wayOf 1 = .ok (.getfield 18, 3) := by decide +kernel
theorem dX3_wayOf_4 : decode cX3_wayOf 4 = .ok (.iload_n 1, 1) := by decide +kernel
theorem dX3_wayOf_5 : decode cX3_wayOf 5 = .ok (.invokestatic 108, 3) := by decide +kernel
theorem dX3_wayOf_8 : decode cX3_wayOf 8 = .ok (.ireturn, 1) := by decide +kernel
theorem dX3_namesIn_0 : decode cX3_namesIn 0 = .ok (.aload_n 0, 1) := by decide +kernel
theorem dX3_namesIn_1 : decode cX3_namesIn 1 = .ok (.getfield 21, 3) := by decide +kernel
theorem dX3_namesIn_4 : decode cX3_namesIn 4 = .ok (.iload_n 1, 1) := by decide +kernel
theorem dX3_namesIn_5 : decode cX3_namesIn 5 = .ok (.invokestatic 108, 3) := by decide +kernel
theorem dX3_namesIn_8 : decode cX3_namesIn 8 = .ok (.ireturn, 1) := by decide +kernel
theorem dX3_votesIn_0 : decode cX3_votesIn 0 = .ok (.aload_n 0, 1) := by decide +kernel
theorem dX3_votesIn_1 : decode cX3_votesIn 1 = .ok (.getfield 33, 3) := by decide +kernel
theorem dX3_votesIn_4 : decode cX3_votesIn 4 = .ok (.iload_n 1, 1) := by decide +kernel
theorem dX3_votesIn_5 : decode cX3_votesIn 5 = .ok (.iconst 0, 1) := by decide +kernel
theorem dX3_votesIn_6 : decode cX3_votesIn 6 = .ok (.invokestatic 66, 3) := by decide +kernel
theorem dX3_votesIn_9 : decode cX3_votesIn 9 = .ok (.aload_n 0, 1) := by decide +kernel
theorem dX3_votesIn_10 : decode cX3_votesIn 10 = .ok (.iload_n 1, 1) := by decide +kernel
theorem dX3_votesIn_11 : decode cX3_votesIn 11 = .ok (.invokevirtual 62, 3) := by decide +kernel
theorem dX3_votesIn_14 : decode cX3_votesIn 14 = .ok (.invokestatic 112, 3) := by decide +kernel
theorem dX3_votesIn_17 : decode cX3_votesIn 17 = .ok (.ireturn, 1) := by decide +kernel
theorem dX3_spoiltIn_0 : decode cX3_spoiltIn 0 = .ok (.aload_n 0, 1) := by decide +kernel
theorem dX3_spoiltIn_1 : decode cX3_spoiltIn 1 = .ok (.getfield 24, 3) := by decide +kernel
theorem dX3_spoiltIn_4 : decode cX3_spoiltIn 4 = .ok (.iload_n 1, 1) := by decide +kernel
theorem dX3_spoiltIn_5 : decode cX3_spoiltIn 5 = .ok (.invokestatic 108, 3) := by decide +kernel
theorem dX3_spoiltIn_8 : decode cX3_spoiltIn 8 = .ok (.ireturn, 1) := by decide +kernel
theorem dX3_blankIn_0 : decode cX3_blankIn 0 = .ok (.aload_n 0, 1) := by decide +kernel
theorem dX3_blankIn_1 : decode cX3_blankIn 1 = .ok (.getfield 27, 3) := by decide +kernel
theorem dX3_blankIn_4 : decode cX3_blankIn 4 = .ok (.iload_n 1, 1) := by decide +kernel
theorem dX3_blankIn_5 : decode cX3_blankIn 5 = .ok (.invokestatic 108, 3) := by decide +kernel
theorem dX3_blankIn_8 : decode cX3_blankIn 8 = .ok (.ireturn, 1) := by decide +kernel
theorem dX3_lengthOf_0 : decode cX3_lengthOf 0 = .ok (.aload_n 0, 1) := by decide +kernel
theorem dX3_lengthOf_1 : decode cX3_lengthOf 1 = .ok (.getfield 30, 3) := by decide +kernel
theorem dX3_lengthOf_4 : decode cX3_lengthOf 4 = .ok (.iload_n 1, 1) := by decide +kernel
theorem dX3_lengthOf_5 : decode cX3_lengthOf 5 = .ok (.iload_n 2, 1) := by decide +kernel
theorem dX3_lengthOf_6 : decode cX3_lengthOf 6 = .ok (.invokestatic 66, 3) := by decide +kernel
theorem dX3_lengthOf_9 : decode cX3_lengthOf 9 = .ok (.invokestatic 108, 3) := by decide +kernel
theorem dX3_lengthOf_12 : decode cX3_lengthOf 12 = .ok (.ireturn, 1) := by decide +kernel
theorem dX3_votesOf_0 : decode cX3_votesOf 0 = .ok (.aload_n 0, 1) := by decide +kernel
theorem dX3_votesOf_1 : decode cX3_votesOf 1 = .ok (.getfield 33, 3) := by decide +kernel
theorem dX3_votesOf_4 : decode cX3_votesOf 4 = .ok (.iload_n 1, 1) := by decide +kernel
theorem dX3_votesOf_5 : decode cX3_votesOf 5 = .ok (.iload_n 2, 1) := by decide +kernel
theorem dX3_votesOf_6 : decode cX3_votesOf 6 = .ok (.invokestatic 66, 3) := by decide +kernel
theorem dX3_votesOf_9 : decode cX3_votesOf 9 = .ok (.invokestatic 108, 3) := by decide +kernel
theorem dX3_votesOf_12 : decode cX3_votesOf 12 = .ok (.ireturn, 1) := by decide +kernel
theorem dX3_papersIn_0 : decode cX3_papersIn 0 = .ok (.aload_n 0, 1) := by decide +kernel
theorem dX3_papersIn_1 : decode cX3_papersIn 1 = .ok (.getfield 36, 3) := by decide +kernel
theorem dX3_papersIn_4 : decode cX3_papersIn 4 = .ok (.iload_n 1, 1) := by decide +kernel
theorem dX3_papersIn_5 : decode cX3_papersIn 5 = .ok (.invokestatic 108, 3) := by decide +kernel
theorem dX3_papersIn_8 : decode cX3_papersIn 8 = .ok (.ireturn, 1) := by decide +kernel
theorem dX3_allNames_0 : decode cX3_allNames 0 = .ok (.aload_n 0, 1) := by decide +kernel
theorem dX3_allNames_1 : decode cX3_allNames 1 = .ok (.getfield 21, 3) := by decide +kernel
theorem dX3_allNames_4 : decode cX3_allNames 4 = .ok (.iconst 0, 1) := by decide +kernel
theorem dX3_allNames_5 : decode cX3_allNames 5 = .ok (.aload_n 0, 1) := by decide +kernel
theorem dX3_allNames_6 : decode cX3_allNames 6 = .ok (.getfield 51, 3) := by decide +kernel
theorem dX3_allNames_9 : decode cX3_allNames 9 = .ok (.invokestatic 112, 3) := by decide +kernel
theorem dX3_allNames_12 : decode cX3_allNames 12 = .ok (.ireturn, 1) := by decide +kernel
theorem dX3_allPapers_0 : decode cX3_allPapers 0 = .ok (.aload_n 0, 1) := by decide +kernel
theorem dX3_allPapers_1 : decode cX3_allPapers 1 = .ok (.getfield 36, 3) := by decide +kernel
theorem dX3_allPapers_4 : decode cX3_allPapers 4 = .ok (.iconst 0, 1) := by decide +kernel
theorem dX3_allPapers_5 : decode cX3_allPapers 5 = .ok (.aload_n 0, 1) := by decide +kernel
theorem dX3_allPapers_6 : decode cX3_allPapers 6 = .ok (.iconst 5, 1) := by decide +kernel
theorem dX3_allPapers_7 : decode cX3_allPapers 7 = .ok (.invokevirtual 79, 3) := by decide +kernel
theorem dX3_allPapers_10 : decode cX3_allPapers 10 = .ok (.invokestatic 112, 3) := by decide +kernel
theorem dX3_allPapers_13 : decode cX3_allPapers 13 = .ok (.ireturn, 1) := by decide +kernel
theorem dX4_get_0 : decode cX4_get 0 = .ok (.aload_n 0, 1) := by decide +kernel
theorem dX4_get_1 : decode cX4_get 1 = .ok (.ifnull 19, 3) := by decide +kernel
theorem dX4_get_4 : decode cX4_get 4 = .ok (.iload_n 1, 1) := by decide +kernel
theorem dX4_get_5 : decode cX4_get 5 = .ok (.ifCond .lt 15, 3) := by decide +kernel
theorem dX4_get_8 : decode cX4_get 8 = .ok (.iload_n 1, 1) := by decide +kernel
theorem dX4_get_9 : decode cX4_get 9 = .ok (.aload_n 0, 1) := by decide +kernel
theorem dX4_get_10 : decode cX4_get 10 = .ok (.arraylength, 1) := by decide +kernel
theorem dX4_get_11 : decode cX4_get 11 = .ok (.if_icmp .ge 9, 3) := by decide +kernel
theorem dX4_get_14 : decode cX4_get 14 = .ok (.aload_n 0, 1) := by decide +kernel
theorem dX4_get_15 : decode cX4_get 15 = .ok (.iload_n 1, 1) := by decide +kernel
theorem dX4_get_16 : decode cX4_get 16 = .ok (.iaload, 1) := by decide +kernel
theorem dX4_get_17 : decode cX4_get 17 = .ok (.goto 4, 3) := by decide +kernel
theorem dX4_get_20 : decode cX4_get 20 = .ok (.iconst 0, 1) := by decide +kernel
theorem dX4_get_21 : decode cX4_get 21 = .ok (.ireturn, 1) := by decide +kernel
theorem dX4_put_0 : decode cX4_put 0 = .ok (.aload_n 0, 1) := by decide +kernel
theorem dX4_put_1 : decode cX4_put 1 = .ok (.ifnull 17, 3) := by decide +kernel
theorem dX4_put_4 : decode cX4_put 4 = .ok (.iload_n 1, 1) := by decide +kernel
theorem dX4_put_5 : decode cX4_put 5 = .ok (.ifCond .lt 13, 3) := by decide +kernel
theorem dX4_put_8 : decode cX4_put 8 = .ok (.iload_n 1, 1) := by decide +kernel
theorem dX4_put_9 : decode cX4_put 9 = .ok (.aload_n 0, 1) := by decide +kernel
theorem dX4_put_10 : decode cX4_put 10 = .ok (.arraylength, 1) := by decide +kernel
theorem dX4_put_11 : decode cX4_put 11 = .ok (.if_icmp .ge 7, 3) := by decide +kernel
theorem dX4_put_14 : decode cX4_put 14 = .ok (.aload_n 0, 1) := by decide +kernel
theorem dX4_put_15 : decode cX4_put 15 = .ok (.iload_n 1, 1) := by decide +kernel
theorem dX4_put_16 : decode cX4_put 16 = .ok (.iload_n 2, 1) := by decide +kernel
theorem dX4_put_17 : decode cX4_put 17 = .ok (.iastore, 1) := by decide +kernel
theorem dX4_put_18 : decode cX4_put 18 = .ok (.return_, 1) := by decide +kernel
theorem dX4_add_0 : decode cX4_add 0 = .ok (.aload_n 0, 1) := by decide +kernel
theorem dX4_add_1 : decode cX4_add 1 = .ok (.iload_n 1, 1) := by decide +kernel
theorem dX4_add_2 : decode cX4_add 2 = .ok (.aload_n 0, 1) := by decide +kernel
theorem dX4_add_3 : decode cX4_add 3 = .ok (.iload_n 1, 1) := by decide +kernel
theorem dX4_add_4 : decode cX4_add 4 = .ok (.invokestatic 7, 3) := by decide +kernel
theorem dX4_add_7 : decode cX4_add 7 = .ok (.iload_n 2, 1) := by decide +kernel
theorem dX4_add_8 : decode cX4_add 8 = .ok (.iadd, 1) := by decide +kernel
theorem dX4_add_9 : decode cX4_add 9 = .ok (.invokestatic 13, 3) := by decide +kernel
theorem dX4_add_12 : decode cX4_add 12 = .ok (.return_, 1) := by decide +kernel
theorem dX4_sum_0 : decode cX4_sum 0 = .ok (.iconst 0, 1) := by decide +kernel
theorem dX4_sum_1 : decode cX4_sum 1 = .ok (.istore_n 3, 1) := by decide +kernel
theorem dX4_sum_2 : decode cX4_sum 2 = .ok (.iconst 0, 1) := by decide +kernel
theorem dX4_sum_3 : decode cX4_sum 3 = .ok (.istore 4, 2) := by decide +kernel
theorem dX4_sum_5 : decode cX4_sum 5 = .ok (.iload 4, 2) := by decide +kernel
theorem dX4_sum_7 : decode cX4_sum 7 = .ok (.iload_n 2, 1) := by decide +kernel
theorem dX4_sum_8 : decode cX4_sum 8 = .ok (.if_icmp .ge 20, 3) := by decide +kernel
theorem dX4_sum_11 : decode cX4_sum 11 = .ok (.iload_n 3, 1) := by decide +kernel
theorem dX4_sum_12 : decode cX4_sum 12 = .ok (.aload_n 0, 1) := by decide +kernel
theorem dX4_sum_13 : decode cX4_sum 13 = .ok (.iload_n 1, 1) := by decide +kernel
theorem dX4_sum_14 : decode cX4_sum 14 = .ok (.iload 4, 2) := by decide +kernel
theorem dX4_sum_16 : decode cX4_sum 16 = .ok (.iadd, 1) := by decide +kernel
theorem dX4_sum_17 : decode cX4_sum 17 = .ok (.invokestatic 7, 3) := by decide +kernel
theorem dX4_sum_20 : decode cX4_sum 20 = .ok (.iadd, 1) := by decide +kernel
theorem dX4_sum_21 : decode cX4_sum 21 = .ok (.istore_n 3, 1) := by decide +kernel
theorem dX4_sum_22 : decode cX4_sum 22 = .ok (.iinc 4 1, 3) := by decide +kernel
theorem dX4_sum_25 : decode cX4_sum 25 = .ok (.goto (-20), 3) := by decide +kernel
theorem dX4_sum_28 : decode cX4_sum 28 = .ok (.iload_n 3, 1) := by decide +kernel
theorem dX4_sum_29 : decode cX4_sum 29 = .ok (.ireturn, 1) := by decide +kernel
theorem dX4_wipe_0 : decode cX4_wipe 0 = .ok (.aload_n 0, 1) := by decide +kernel
theorem dX4_wipe_1 : decode cX4_wipe 1 = .ok (.ifnull 23, 3) := by decide +kernel
theorem dX4_wipe_4 : decode cX4_wipe 4 = .ok (.iload_n 1, 1) := by decide +kernel
theorem dX4_wipe_5 : decode cX4_wipe 5 = .ok (.istore_n 2, 1) := by decide +kernel
theorem dX4_wipe_6 : decode cX4_wipe 6 = .ok (.iload_n 2, 1) := by decide +kernel
theorem dX4_wipe_7 : decode cX4_wipe 7 = .ok (.aload_n 0, 1) := by decide +kernel
theorem dX4_wipe_8 : decode cX4_wipe 8 = .ok (.arraylength, 1) := by decide +kernel
theorem dX4_wipe_9 : decode cX4_wipe 9 = .ok (.if_icmp .ge 15, 3) := by decide +kernel
theorem dX4_wipe_12 : decode cX4_wipe 12 = .ok (.aload_n 0, 1) := by decide +kernel
theorem dX4_wipe_13 : decode cX4_wipe 13 = .ok (.iload_n 2, 1) := by decide +kernel
theorem dX4_wipe_14 : decode cX4_wipe 14 = .ok (.iconst 0, 1) := by decide +kernel
theorem dX4_wipe_15 : decode cX4_wipe 15 = .ok (.invokestatic 13, 3) := by decide +kernel
theorem dX4_wipe_18 : decode cX4_wipe 18 = .ok (.iinc 2 1, 3) := by decide +kernel
theorem dX4_wipe_21 : decode cX4_wipe 21 = .ok (.goto (-15), 3) := by decide +kernel
theorem dX4_wipe_24 : decode cX4_wipe 24 = .ok (.return_, 1) := by decide +kernel
theorem dX4_copy_0 : decode cX4_copy 0 = .ok (.aload_n 0, 1) := by decide +kernel
theorem dX4_copy_1 : decode cX4_copy 1 = .ok (.ifnull 23, 3) := by decide +kernel
theorem dX4_copy_4 : decode cX4_copy 4 = .ok (.aload_n 1, 1) := by decide +kernel
theorem dX4_copy_5 : decode cX4_copy 5 = .ok (.ifnull 19, 3) := by decide +kernel
theorem dX4_copy_8 : decode cX4_copy 8 = .ok (.aload_n 0, 1) := by decide +kernel
theorem dX4_copy_9 : decode cX4_copy 9 = .ok (.arraylength, 1) := by decide +kernel
theorem dX4_copy_10 : decode cX4_copy 10 = .ok (.aload_n 1, 1) := by decide +kernel
theorem dX4_copy_11 : decode cX4_copy 11 = .ok (.arraylength, 1) := by decide +kernel
theorem dX4_copy_12 : decode cX4_copy 12 = .ok (.if_icmp .ne 12, 3) := by decide +kernel
theorem dX4_copy_15 : decode cX4_copy 15 = .ok (.aload_n 0, 1) := by decide +kernel
theorem dX4_copy_16 : decode cX4_copy 16 = .ok (.iconst 0, 1) := by decide +kernel
theorem dX4_copy_17 : decode cX4_copy 17 = .ok (.aload_n 1, 1) := by decide +kernel
theorem dX4_copy_18 : decode cX4_copy 18 = .ok (.iconst 0, 1) := by decide +kernel
theorem dX4_copy_19 : decode cX4_copy 19 = .ok (.aload_n 0, 1) := by decide +kernel
theorem dX4_copy_20 : decode cX4_copy 20 = .ok (.arraylength, 1) := by decide +kernel
theorem dX4_copy_21 : decode cX4_copy 21 = .ok (.invokestatic 17, 3) := by decide +kernel
theorem dX4_copy_24 : decode cX4_copy 24 = .ok (.return_, 1) := by decide +kernel
theorem dX5_init_0 : decode cX5_init 0 = .ok (.aload_n 0, 1) := by decide +kernel
theorem dX5_init_1 : decode cX5_init 1 = .ok (.invokespecial 3, 3) := by decide +kernel
theorem dX5_init_4 : decode cX5_init 4 = .ok (.aload_n 0, 1) := by decide +kernel
theorem dX5_init_5 : decode cX5_init 5 = .ok (.bipush 48, 2) := by decide +kernel
theorem dX5_init_7 : decode cX5_init 7 = .ok (.newarray .int, 2) := by decide +kernel
theorem dX5_init_9 : decode cX5_init 9 = .ok (.putfield 9, 3) := by decide +kernel
theorem dX5_init_12 : decode cX5_init 12 = .ok (.aload_n 0, 1) := by decide +kernel
theorem dX5_init_13 : decode cX5_init 13 = .ok (.bipush 48, 2) := by decide +kernel
theorem dX5_init_15 : decode cX5_init 15 = .ok (.newarray .int, 2) := by decide +kernel
theorem dX5_init_17 : decode cX5_init 17 = .ok (.putfield 15, 3) := by decide +kernel
theorem dX5_init_20 : decode cX5_init 20 = .ok (.aload_n 0, 1) := by decide +kernel
theorem dX5_init_21 : decode cX5_init 21 = .ok (.bipush 48, 2) := by decide +kernel
theorem dX5_init_23 : decode cX5_init 23 = .ok (.newarray .int, 2) := by decide +kernel
theorem dX5_init_25 : decode cX5_init 25 = .ok (.putfield 18, 3) := by decide +kernel
theorem dX5_init_28 : decode cX5_init 28 = .ok (.aload_n 0, 1) := by decide +kernel
theorem dX5_init_29 : decode cX5_init 29 = .ok (.bipush 6, 2) := by decide +kernel
theorem dX5_init_31 : decode cX5_init 31 = .ok (.newarray .int, 2) := by decide +kernel
theorem dX5_init_33 : decode cX5_init 33 = .ok (.putfield 21, 3) := by decide +kernel
theorem dX5_init_36 : decode cX5_init 36 = .ok (.return_, 1) := by decide +kernel
theorem dX5_lay_0 : decode cX5_lay 0 = .ok (.aload_n 0, 1) := by decide +kernel
theorem dX5_lay_1 : decode cX5_lay 1 = .ok (.aload_n 1, 1) := by decide +kernel
theorem dX5_lay_2 : decode cX5_lay 2 = .ok (.iconst 0, 1) := by decide +kernel
theorem dX5_lay_3 : decode cX5_lay 3 = .ok (.invokevirtual 24, 3) := by decide +kernel
theorem dX5_lay_6 : decode cX5_lay 6 = .ok (.putfield 30, 3) := by decide +kernel
theorem dX5_lay_9 : decode cX5_lay 9 = .ok (.aload_n 0, 1) := by decide +kernel
theorem dX5_lay_10 : decode cX5_lay 10 = .ok (.aload_n 1, 1) := by decide +kernel
theorem dX5_lay_11 : decode cX5_lay 11 = .ok (.iconst 1, 1) := by decide +kernel
theorem dX5_lay_12 : decode cX5_lay 12 = .ok (.invokevirtual 24, 3) := by decide +kernel
theorem dX5_lay_15 : decode cX5_lay 15 = .ok (.putfield 34, 3) := by decide +kernel
theorem dX5_lay_18 : decode cX5_lay 18 = .ok (.aload_n 0, 1) := by decide +kernel
theorem dX5_lay_19 : decode cX5_lay 19 = .ok (.aload_n 1, 1) := by decide +kernel
theorem dX5_lay_20 : decode cX5_lay 20 = .ok (.iconst 4, 1) := by decide +kernel
theorem dX5_lay_21 : decode cX5_lay 21 = .ok (.invokevirtual 24, 3) := by decide +kernel
theorem dX5_lay_24 : decode cX5_lay 24 = .ok (.putfield 37, 3) := by decide +kernel
theorem dX5_lay_27 : decode cX5_lay 27 = .ok (.aload_n 0, 1) := by decide +kernel
theorem dX5_lay_28 : decode cX5_lay 28 = .ok (.iconst 0, 1) := by decide +kernel
theorem dX5_lay_29 : decode cX5_lay 29 = .ok (.putfield 40, 3) := by decide +kernel
theorem dX5_lay_32 : decode cX5_lay 32 = .ok (.aload_n 0, 1) := by decide +kernel
theorem dX5_lay_33 : decode cX5_lay 33 = .ok (.iconst 0, 1) := by decide +kernel
theorem dX5_lay_34 : decode cX5_lay 34 = .ok (.putfield 43, 3) := by decide +kernel
theorem dX5_lay_37 : decode cX5_lay 37 = .ok (.aload_n 0, 1) := by decide +kernel
theorem dX5_lay_38 : decode cX5_lay 38 = .ok (.iconst 0, 1) := by decide +kernel
theorem dX5_lay_39 : decode cX5_lay 39 = .ok (.putfield 46, 3) := by decide +kernel
theorem dX5_lay_42 : decode cX5_lay 42 = .ok (.aload_n 0, 1) := by decide +kernel
theorem dX5_lay_43 : decode cX5_lay 43 = .ok (.iconst 0, 1) := by decide +kernel
theorem dX5_lay_44 : decode cX5_lay 44 = .ok (.putfield 49, 3) := by decide +kernel
theorem dX5_lay_47 : decode cX5_lay 47 = .ok (.aload_n 0, 1) := by decide +kernel
theorem dX5_lay_48 : decode cX5_lay 48 = .ok (.iconst 0, 1) := by decide +kernel
theorem dX5_lay_49 : decode cX5_lay 49 = .ok (.putfield 52, 3) := by decide +kernel
theorem dX5_lay_52 : decode cX5_lay 52 = .ok (.iconst 0, 1) := by decide +kernel
theorem dX5_lay_53 : decode cX5_lay 53 = .ok (.istore 4, 2) := by decide +kernel
theorem dX5_lay_55 : decode cX5_lay 55 = .ok (.iload 4, 2) := by decide +kernel
theorem dX5_lay_57 : decode cX5_lay 57 = .ok (.aload_n 1, 1) := by decide +kernel
theorem dX5_lay_58 : decode cX5_lay 58 = .ok (.invokevirtual 55, 3) := by decide +kernel
theorem dX5_lay_61 : decode cX5_lay 61 = .ok (.if_icmp .ge 91, 3) := by decide +kernel
theorem dX5_lay_64 : decode cX5_lay 64 = .ok (.aload_n 1, 1) := by decide +kernel
theorem dX5_lay_65 : decode cX5_lay 65 = .ok (.iload 4, 2) := by decide +kernel
theorem dX5_lay_67 : decode cX5_lay 67 = .ok (.invokevirtual 59, 3) := by decide +kernel
theorem dX5_lay_70 : decode cX5_lay 70 = .ok (.istore 5, 2) := by decide +kernel
theorem dX5_lay_72 : decode cX5_lay 72 = .ok (.aload_n 0, 1) := by decide +kernel
theorem dX5_lay_73 : decode cX5_lay 73 = .ok (.getfield 21, 3) := by decide +kernel
theorem dX5_lay_76 : decode cX5_lay 76 = .ok (.iload 4, 2) := by decide +kernel
theorem dX5_lay_78 : decode cX5_lay 78 = .ok (.iload 5, 2) := by decide +kernel
theorem dX5_lay_80 : decode cX5_lay 80 = .ok (.invokestatic 62, 3) := by decide +kernel
theorem dX5_lay_83 : decode cX5_lay 83 = .ok (.aload_n 0, 1) := by decide +kernel
theorem dX5_lay_84 : decode cX5_lay 84 = .ok (.aload_n 1, 1) := by decide +kernel
theorem dX5_lay_85 : decode cX5_lay 85 = .ok (.iload 4, 2) := by decide +kernel
theorem dX5_lay_87 : decode cX5_lay 87 = .ok (.iload_n 3, 1) := by decide +kernel
theorem dX5_lay_88 : decode cX5_lay 88 = .ok (.invokevirtual 68, 3) := by decide +kernel
theorem dX5_lay_91 : decode cX5_lay 91 = .ok (.iload 5, 2) := by decide +kernel
theorem dX5_lay_93 : decode cX5_lay 93 = .ok (.ifCond .le 53, 3) := by decide +kernel
theorem dX5_lay_96 : decode cX5_lay 96 = .ok (.aload_n 1, 1) := by decide +kernel
theorem dX5_lay_97 : decode cX5_lay 97 = .ok (.iload 4, 2) := by decide +kernel
theorem dX5_lay_99 : decode cX5_lay 99 = .ok (.invokevirtual 72, 3) := by decide +kernel
theorem dX5_lay_102 : decode cX5_lay 102 = .ok (.iload_n 3, 1) := by decide +kernel
theorem dX5_lay_103 : decode cX5_lay 103 = .ok (.invokestatic 75, 3) := by decide +kernel
theorem dX5_lay_106 : decode cX5_lay 106 = .ok (.istore 6, 2) := by decide +kernel
theorem dX5_lay_108 : decode cX5_lay 108 = .ok (.aload_n 1, 1) := by decide +kernel
theorem dX5_lay_109 : decode cX5_lay 109 = .ok (.iload_n 2, 1) := by decide +kernel
theorem dX5_lay_110 : decode cX5_lay 110 = .ok (.iload 4, 2) := by decide +kernel
theorem dX5_lay_112 : decode cX5_lay 112 = .ok (.iconst 0, 1) := by decide +kernel
theorem dX5_lay_113 : decode cX5_lay 113 = .ok (.invokevirtual 79, 3) := by decide +kernel
theorem dX5_lay_116 : decode cX5_lay 116 = .ok (.istore 7, 2) := by decide +kernel
theorem dX5_lay_118 : decode cX5_lay 118 = .ok (.aload_n 0, 1) := by decide +kernel
theorem dX5_lay_119 : decode cX5_lay 119 = .ok (.iload 6, 2) := by decide +kernel
theorem dX5_lay_121 : decode cX5_lay 121 = .ok (.aload_n 1, 1) := by decide +kernel
theorem dX5_lay_122 : decode cX5_lay 122 = .ok (.iconst 3, 1) := by decide +kernel
theorem dX5_lay_123 : decode cX5_lay 123 = .ok (.invokevirtual 24, 3) := by decide +kernel
theorem dX5_lay_126 : decode cX5_lay 126 = .ok (.imul, 1) := by decide +kernel
theorem dX5_lay_127 : decode cX5_lay 127 = .ok (.aload_n 0, 1) := by decide +kernel
theorem dX5_lay_128 : decode cX5_lay 128 = .ok (.iload 4, 2) := by decide +kernel
theorem dX5_lay_130 : decode cX5_lay 130 = .ok (.iload 7, 2) := by decide +kernel
theorem dX5_lay_132 : decode cX5_lay 132 = .ok (.invokevirtual 83, 3) := by decide +kernel
theorem dX5_lay_135 : decode cX5_lay 135 = .ok (.invokevirtual 85, 3) := by decide +kernel
theorem dX5_lay_138 : decode cX5_lay 138 = .ok (.aload_n 0, 1) := by decide +kernel
theorem dX5_lay_139 : decode cX5_lay 139 = .ok (.aload_n 1, 1) := by decide +kernel
theorem dX5_lay_140 : decode cX5_lay 140 = .ok (.iload_n 2, 1) := by decide +kernel
theorem dX5_lay_141 : decode cX5_lay 141 = .ok (.iload 4, 2) := by decide +kernel
theorem dX5_lay_143 : decode cX5_lay 143 = .ok (.invokevirtual 89, 3) := by decide +kernel
theorem dX5_lay_146 : decode cX5_lay 146 = .ok (.iinc 4 1, 3) := by decide +kernel
theorem dX5_lay_149 : decode cX5_lay 149 = .ok (.goto (-94), 3) := by decide +kernel
theorem dX5_lay_152 : decode cX5_lay 152 = .ok (.return_, 1) := by decide +kernel
theorem dX5_measure_0 : decode cX5_measure 0 = .ok (.iconst 0, 1) := by decide +kernel
theorem dX5_measure_1 : decode cX5_measure 1 = .ok (.istore 4, 2) := by decide +kernel
theorem dX5_measure_3 : decode cX5_measure 3 = .ok (.iload 4, 2) := by decide +kernel
theorem dX5_measure_5 : decode cX5_measure 5 = .ok (.aload_n 1, 1) := by decide +kernel
theorem dX5_measure_6 : decode cX5_measure 6 = .ok (.iload_n 2, 1) := by decide +kernel
theorem dX5_measure_7 : decode cX5_measure 7 = .ok (.invokevirtual 59, 3) := by decide +kernel
theorem dX5_measure_10 : decode cX5_measure 10 = .ok (.if_icmp .ge 39, 3) := by decide +kernel
theorem dX5_measure_13 : decode cX5_measure 13 = .ok (.aload_n 1, 1) := by decide +kernel
theorem dX5_measure_14 : decode cX5_measure 14 = .ok (.iload_n 2, 1) := by decide +kernel
theorem dX5_measure_15 : decode cX5_measure 15 = .ok (.iload 4, 2) := by decide +kernel
theorem dX5_measure_17 : decode cX5_measure 17 = .ok (.invokevirtual 92, 3) := by decide +kernel
theorem dX5_measure_20 : decode cX5_measure 20 = .ok (.iload_n 3, 1) := by decide +kernel
theorem dX5_measure_21 : decode cX5_measure 21 = .ok (.iconst 3, 1) := by decide +kernel
theorem dX5_measure_22 : decode cX5_measure 22 = .ok (.isub, 1) := by decide +kernel
theorem dX5_measure_23 : decode cX5_measure 23 = .ok (.invokestatic 75, 3) := by decide +kernel
theorem dX5_measure_26 : decode cX5_measure 26 = .ok (.istore 5, 2) := by decide +kernel
theorem dX5_measure_28 : decode cX5_measure 28 = .ok (.aload_n 0, 1) := by decide +kernel
theorem dX5_measure_29 : decode cX5_measure 29 = .ok (.getfield 18, 3) := by decide +kernel
theorem dX5_measure_32 : decode cX5_measure 32 = .ok (.iload_n 2, 1) := by decide +kernel
theorem dX5_measure_33 : decode cX5_measure 33 = .ok (.iload 4, 2) := by decide +kernel
theorem dX5_measure_35 : decode cX5_measure 35 = .ok (.invokestatic 95, 3) := by decide +kernel
theorem dX5_measure_38 : decode cX5_measure 38 = .ok (.iload 5, 2) := by decide +kernel
theorem dX5_measure_40 : decode cX5_measure 40 = .ok (.invokestatic 62, 3) := by decide +kernel
theorem dX5_measure_43 : decode cX5_measure 43 = .ok (.iinc 4 1, 3) := by decide +kernel
theorem dX5_measure_46 : decode cX5_measure 46 = .ok (.goto (-43), 3) := by decide +kernel
theorem dX5_measure_49 : decode cX5_measure 49 = .ok (.return_, 1) := by decide +kernel
theorem dX5_layTitle_0 : decode cX5_layTitle 0 = .ok (.aload_n 0, 1) := by decide +kernel
theorem dX5_layTitle_1 : decode cX5_layTitle 1 = .ok (.getfield 43, 3) := by decide +kernel
theorem dX5_layTitle_4 : decode cX5_layTitle 4 = .ok (.iconst 1, 1) := by decide +kernel
theorem dX5_layTitle_5 : decode cX5_layTitle 5 = .ok (.iadd, 1) := by decide +kernel
theorem dX5_layTitle_6 : decode cX5_layTitle 6 = .ok (.istore_n 3, 1) := by decide +kernel
theorem dX5_layTitle_7 : decode cX5_layTitle 7 = .ok (.aload_n 0, 1) := by decide +kernel
theorem dX5_layTitle_8 : decode cX5_layTitle 8 = .ok (.getfield 40, 3) := by decide +kernel
theorem dX5_layTitle_11 : decode cX5_layTitle 11 = .ok (.ifCond .eq 18, 3) := by decide +kernel
theorem dX5_layTitle_14 : decode cX5_layTitle 14 = .ok (.aload_n 0, 1) := by decide +kernel
theorem dX5_layTitle_15 : decode cX5_layTitle 15 = .ok (.aload_n 0, 1) := by decide +kernel
theorem dX5_layTitle_16 : decode cX5_layTitle 16 = .ok (.iload_n 3, 1) := by decide +kernel
theorem dX5_layTitle_17 : decode cX5_layTitle 17 = .ok (.iload_n 1, 1) := by decide +kernel
theorem dX5_layTitle_18 : decode cX5_layTitle 18 = .ok (.iadd, 1) := by decide +kernel
theorem dX5_layTitle_19 : decode cX5_layTitle 19 = .ok (.invokevirtual 98, 3) := by decide +kernel
theorem dX5_layTitle_22 : decode cX5_layTitle 22 = .ok (.iload_n 2, 1) := by decide +kernel
theorem dX5_layTitle_23 : decode cX5_layTitle 23 = .ok (.invokevirtual 101, 3) := by decide +kernel
theorem dX5_layTitle_26 : decode cX5_layTitle 26 = .ok (.ifCond .ne 15, 3) := by decide +kernel
theorem dX5_layTitle_29 : decode cX5_layTitle 29 = .ok (.aload_n 0, 1) := by decide +kernel
theorem dX5_layTitle_30 : decode cX5_layTitle 30 = .ok (.dup, 1) := by decide +kernel
theorem dX5_layTitle_31 : decode cX5_layTitle 31 = .ok (.getfield 40, 3) := by decide +kernel
theorem dX5_layTitle_34 : decode cX5_layTitle 34 = .ok (.iconst 1, 1) := by decide +kernel
theorem dX5_layTitle_35 : decode cX5_layTitle 35 = .ok (.iadd, 1) := by decide +kernel
theorem dX5_layTitle_36 : decode cX5_layTitle 36 = .ok (.putfield 40, 3) := by decide +kernel
theorem dX5_layTitle_39 : decode cX5_layTitle 39 = .ok (.iconst 0, 1) := by decide +kernel
theorem dX5_layTitle_40 : decode cX5_layTitle 40 = .ok (.istore_n 3, 1) := by decide +kernel
theorem dX5_layTitle_41 : decode cX5_layTitle 41 = .ok (.aload_n 0, 1) := by decide +kernel
theorem dX5_layTitle_42 : decode cX5_layTitle 42 = .ok (.iload_n 3, 1) := by decide +kernel
theorem dX5_layTitle_43 : decode cX5_layTitle 43 = .ok (.iload_n 1, 1) := by decide +kernel
theorem dX5_layTitle_44 : decode cX5_layTitle 44 = .ok (.iadd, 1) := by decide +kernel
theorem dX5_layTitle_45 : decode cX5_layTitle 45 = .ok (.putfield 43, 3) := by decide +kernel
theorem dX5_layTitle_48 : decode cX5_layTitle 48 = .ok (.aload_n 0, 1) := by decide +kernel
theorem dX5_layTitle_49 : decode cX5_layTitle 49 = .ok (.dup, 1) := by decide +kernel
theorem dX5_layTitle_50 : decode cX5_layTitle 50 = .ok (.getfield 46, 3) := by decide +kernel
theorem dX5_layTitle_53 : decode cX5_layTitle 53 = .ok (.iload_n 1, 1) := by decide +kernel
theorem dX5_layTitle_54 : decode cX5_layTitle 54 = .ok (.iadd, 1) := by decide +kernel
theorem dX5_layTitle_55 : decode cX5_layTitle 55 = .ok (.putfield 46, 3) := by decide +kernel
theorem dX5_layTitle_58 : decode cX5_layTitle 58 = .ok (.return_, 1) := by decide +kernel
theorem dX5_layNames_0 : decode cX5_layNames 0 = .ok (.iconst 0, 1) := by decide +kernel
theorem dX5_layNames_1 : decode cX5_layNames 1 = .ok (.istore 4, 2) := by decide +kernel
theorem dX5_layNames_3 : decode cX5_layNames 3 = .ok (.iload 4, 2) := by decide +kernel
theorem dX5_layNames_5 : decode cX5_layNames 5 = .ok (.aload_n 1, 1) := by decide +kernel
theorem dX5_layNames_6 : decode cX5_layNames 6 = .ok (.iload_n 3, 1) := by decide +kernel
theorem dX5_layNames_7 : decode cX5_layNames 7 = .ok (.invokevirtual 59, 3) := by decide +kernel
theorem dX5_layNames_10 : decode cX5_layNames 10 = .ok (.if_icmp .ge 25, 3) := by decide +kernel
theorem dX5_layNames_13 : decode cX5_layNames 13 = .ok (.aload_n 0, 1) := by decide +kernel
theorem dX5_layNames_14 : decode cX5_layNames 14 = .ok (.iload_n 3, 1) := by decide +kernel
theorem dX5_layNames_15 : decode cX5_layNames 15 = .ok (.aload_n 1, 1) := by decide +kernel
theorem dX5_layNames_16 : decode cX5_layNames 16 = .ok (.iload_n 2, 1) := by decide +kernel
theorem dX5_layNames_17 : decode cX5_layNames 17 = .ok (.iload_n 3, 1) := by decide +kernel
theorem dX5_layNames_18 : decode cX5_layNames 18 = .ok (.iload 4, 2) := by decide +kernel
theorem dX5_layNames_20 : decode cX5_layNames 20 = .ok (.invokevirtual 79, 3) := by decide +kernel
theorem dX5_layNames_23 : decode cX5_layNames 23 = .ok (.invokestatic 95, 3) := by decide +kernel
theorem dX5_layNames_26 : decode cX5_layNames 26 = .ok (.invokevirtual 105, 3) := by decide +kernel
theorem dX5_layNames_29 : decode cX5_layNames 29 = .ok (.iinc 4 1, 3) := by decide +kernel
theorem dX5_layNames_32 : decode cX5_layNames 32 = .ok (.goto (-29), 3) := by decide +kernel
theorem dX5_layNames_35 : decode cX5_layNames 35 = .ok (.return_, 1) := by decide +kernel
theorem dX5_layName_0 : decode cX5_layName 0 = .ok (.aload_n 0, 1) := by decide +kernel
theorem dX5_layName_1 : decode cX5_layName 1 = .ok (.getfield 18, 3) := by decide +kernel
theorem dX5_layName_4 : decode cX5_layName 4 = .ok (.iload_n 1, 1) := by decide +kernel
theorem dX5_layName_5 : decode cX5_layName 5 = .ok (.invokestatic 109, 3) := by decide +kernel
theorem dX5_layName_8 : decode cX5_layName 8 = .ok (.istore_n 2, 1) := by decide +kernel
theorem dX5_layName_9 : decode cX5_layName 9 = .ok (.aload_n 0, 1) := by decide +kernel
theorem dX5_layName_10 : decode cX5_layName 10 = .ok (.aload_n 0, 1) := by decide +kernel
theorem dX5_layName_11 : decode cX5_layName 11 = .ok (.getfield 43, 3) := by decide +kernel
theorem dX5_layName_14 : decode cX5_layName 14 = .ok (.invokevirtual 98, 3) := by decide +kernel
theorem dX5_layName_17 : decode cX5_layName 17 = .ok (.istore_n 3, 1) := by decide +kernel
theorem dX5_layName_18 : decode cX5_layName 18 = .ok (.aload_n 0, 1) := by decide +kernel
theorem dX5_layName_19 : decode cX5_layName 19 = .ok (.iload_n 3, 1) := by decide +kernel
theorem dX5_layName_20 : decode cX5_layName 20 = .ok (.iload_n 2, 1) := by decide +kernel
theorem dX5_layName_21 : decode cX5_layName 21 = .ok (.invokevirtual 101, 3) := by decide +kernel
theorem dX5_layName_24 : decode cX5_layName 24 = .ok (.ifCond .ne 28, 3) := by decide +kernel
theorem dX5_layName_27 : decode cX5_layName 27 = .ok (.aload_n 0, 1) := by decide +kernel
theorem dX5_layName_28 : decode cX5_layName 28 = .ok (.dup, 1) := by decide +kernel
theorem dX5_layName_29 : decode cX5_layName 29 = .ok (.getfield 40, 3) := by decide +kernel
theorem dX5_layName_32 : decode cX5_layName 32 = .ok (.iconst 1, 1) := by decide +kernel
theorem dX5_layName_33 : decode cX5_layName 33 = .ok (.iadd, 1) := by decide +kernel
theorem dX5_layName_34 : decode cX5_layName 34 = .ok (.putfield 40, 3) := by decide +kernel
theorem dX5_layName_37 : decode cX5_layName 37 = .ok (.iconst 0, 1) := by decide +kernel
theorem dX5_layName_38 : decode cX5_layName 38 = .ok (.istore_n 3, 1) := by decide +kernel
theorem dX5_layName_39 : decode cX5_layName 39 = .ok (.aload_n 0, 1) := by decide +kernel
theorem dX5_layName_40 : decode cX5_layName 40 = .ok (.dup, 1) := by decide +kernel
theorem dX5_layName_41 : decode cX5_layName 41 = .ok (.getfield 52, 3) := by decide +kernel
theorem dX5_layName_44 : decode cX5_layName 44 = .ok (.iconst 1, 1) := by decide +kernel
theorem dX5_layName_45 : decode cX5_layName 45 = .ok (.iadd, 1) := by decide +kernel
theorem dX5_layName_46 : decode cX5_layName 46 = .ok (.putfield 52, 3) := by decide +kernel
theorem dX5_layName_49 : decode cX5_layName 49 = .ok (.goto 21, 3) := by decide +kernel
theorem dX5_layName_52 : decode cX5_layName 52 = .ok (.iload_n 3, 1) := by decide +kernel
theorem dX5_layName_53 : decode cX5_layName 53 = .ok (.aload_n 0, 1) := by decide +kernel
theorem dX5_layName_54 : decode cX5_layName 54 = .ok (.getfield 43, 3) := by decide +kernel
theorem dX5_layName_57 : decode cX5_layName 57 = .ok (.if_icmp .le 13, 3) := by decide +kernel
theorem dX5_layName_60 : decode cX5_layName 60 = .ok (.aload_n 0, 1) := by decide +kernel
theorem dX5_layName_61 : decode cX5_layName 61 = .ok (.dup, 1) := by decide +kernel
theorem dX5_layName_62 : decode cX5_layName 62 = .ok (.getfield 49, 3) := by decide +kernel
theorem dX5_layName_65 : decode cX5_layName 65 = .ok (.iconst 1, 1) := by decide +kernel
theorem dX5_layName_66 : decode cX5_layName 66 = .ok (.iadd, 1) := by decide +kernel
theorem dX5_layName_67 : decode cX5_layName 67 = .ok (.putfield 49, 3) := by decide +kernel
theorem dX5_layName_70 : decode cX5_layName 70 = .ok (.aload_n 0, 1) := by decide +kernel
theorem dX5_layName_71 : decode cX5_layName 71 = .ok (.getfield 9, 3) := by decide +kernel
theorem dX5_layName_74 : decode cX5_layName 74 = .ok (.iload_n 1, 1) := by decide +kernel
theorem dX5_layName_75 : decode cX5_layName 75 = .ok (.aload_n 0, 1) := by decide +kernel
theorem dX5_layName_76 : decode cX5_layName 76 = .ok (.getfield 40, 3) := by decide +kernel
theorem dX5_layName_79 : decode cX5_layName 79 = .ok (.iconst 1, 1) := by decide +kernel
theorem dX5_layName_80 : decode cX5_layName 80 = .ok (.isub, 1) := by decide +kernel
theorem dX5_layName_81 : decode cX5_layName 81 = .ok (.invokestatic 62, 3) := by decide +kernel
theorem dX5_layName_84 : decode cX5_layName 84 = .ok (.aload_n 0, 1) := by decide +kernel
theorem dX5_layName_85 : decode cX5_layName 85 = .ok (.getfield 15, 3) := by decide +kernel
theorem dX5_layName_88 : decode cX5_layName 88 = .ok (.iload_n 1, 1) := by decide +kernel
theorem dX5_layName_89 : decode cX5_layName 89 = .ok (.iload_n 3, 1) := by decide +kernel
theorem dX5_layName_90 : decode cX5_layName 90 = .ok (.invokestatic 62, 3) := by decide +kernel
theorem dX5_layName_93 : decode cX5_layName 93 = .ok (.aload_n 0, 1) := by decide +kernel
theorem dX5_layName_94 : decode cX5_layName 94 = .ok (.iload_n 3, 1) := by decide +kernel
theorem dX5_layName_95 : decode cX5_layName 95 = .ok (.iload_n 2, 1) := by decide +kernel
theorem dX5_layName_96 : decode cX5_layName 96 = .ok (.iadd, 1) := by decide +kernel
theorem dX5_layName_97 : decode cX5_layName 97 = .ok (.putfield 43, 3) := by decide +kernel
theorem dX5_layName_100 : decode cX5_layName 100 = .ok (.aload_n 0, 1) := by decide +kernel
theorem dX5_layName_101 : decode cX5_layName 101 = .ok (.dup, 1) := by decide +kernel
theorem dX5_layName_102 : decode cX5_layName 102 = .ok (.getfield 46, 3) := by decide +kernel
theorem dX5_layName_105 : decode cX5_layName 105 = .ok (.iload_n 2, 1) := by decide +kernel
theorem dX5_layName_106 : decode cX5_layName 106 = .ok (.iadd, 1) := by decide +kernel
theorem dX5_layName_107 : decode cX5_layName 107 = .ok (.putfield 46, 3) := by decide +kernel
theorem dX5_layName_110 : decode cX5_layName 110 = .ok (.return_, 1) := by decide +kernel
theorem dX5_fits_0 : decode cX5_fits 0 = .ok (.iload_n 1, 1) := by decide +kernel
theorem dX5_fits_1 : decode cX5_fits 1 = .ok (.iload_n 2, 1) := by decide +kernel
theorem dX5_fits_2 : decode cX5_fits 2 = .ok (.iadd, 1) := by decide +kernel
theorem dX5_fits_3 : decode cX5_fits 3 = .ok (.aload_n 0, 1) := by decide +kernel
theorem dX5_fits_4 : decode cX5_fits 4 = .ok (.getfield 34, 3) := by decide +kernel
theorem dX5_fits_7 : decode cX5_fits 7 = .ok (.if_icmp .gt 7, 3) := by decide +kernel
theorem dX5_fits_10 : decode cX5_fits 10 = .ok (.iconst 1, 1) := by decide +kernel
theorem dX5_fits_11 : decode cX5_fits 11 = .ok (.goto 4, 3) := by decide +kernel
theorem dX5_fits_14 : decode cX5_fits 14 = .ok (.iconst 0, 1) := by decide +kernel
theorem dX5_fits_15 : decode cX5_fits 15 = .ok (.ireturn, 1) := by decide +kernel
theorem dX5_behindFold_0 : decode cX5_behindFold 0 = .ok (.aload_n 0, 1) := by decide +kernel
theorem dX5_behindFold_1 : decode cX5_behindFold 1 = .ok (.getfield 37, 3) := by decide +kernel
theorem dX5_behindFold_4 : decode cX5_behindFold 4 = .ok (.ifCond .le 20, 3) := by decide +kernel
theorem dX5_behindFold_7 : decode cX5_behindFold 7 = .ok (.iload_n 1, 1) := by decide +kernel
theorem dX5_behindFold_8 : decode cX5_behindFold 8 = .ok (.iconst 1, 1) := by decide +kernel
theorem dX5_behindFold_9 : decode cX5_behindFold 9 = .ok (.iadd, 1) := by decide +kernel
theorem dX5_behindFold_10 : decode cX5_behindFold 10 = .ok (.aload_n 0, 1) := by decide +kernel
theorem dX5_behindFold_11 : decode cX5_behindFold 11 = .ok (.getfield 37, 3) := by decide +kernel
theorem dX5_behindFold_14 : decode cX5_behindFold 14 = .ok (.irem, 1) := by decide +kernel
theorem dX5_behindFold_15 : decode cX5_behindFold 15 = .ok (.ifCond .ne 9, 3) := by decide +kernel
theorem dX5_behindFold_18 : decode cX5_behindFold 18 = .ok (.iload_n 1, 1) := by decide +kernel
theorem dX5_behindFold_19 : decode cX5_behindFold 19 = .ok (.iconst 1, 1) := by decide +kernel
theorem dX5_behindFold_20 : decode cX5_behindFold 20 = .ok (.iadd, 1) := by decide +kernel
theorem dX5_behindFold_21 : decode cX5_behindFold 21 = .ok (.goto 4, 3) := by decide +kernel
theorem dX5_behindFold_24 : decode cX5_behindFold 24 = .ok (.iload_n 1, 1) := by decide +kernel
theorem dX5_behindFold_25 : decode cX5_behindFold 25 = .ok (.ireturn, 1) := by decide +kernel
theorem dX5_nameWithMarkAt_0 : decode cX5_nameWithMarkAt 0 = .ok (.iconst 0, 1) := by decide +kernel
theorem dX5_nameWithMarkAt_1 : decode cX5_nameWithMarkAt 1 = .ok (.istore 5, 2) := by decide +kernel
theorem dX5_nameWithMarkAt_3 : decode cX5_nameWithMarkAt 3 = .ok (.iload 5, 2) := by decide +kernel
theorem dX5_nameWithMarkAt_5 : decode cX5_nameWithMarkAt 5 = .ok (.aload_n 0, 1) := by decide +kernel
theorem dX5_nameWithMarkAt_6 : decode cX5_nameWithMarkAt 6 = .ok (.getfield 21, 3) := by decide +kernel
theorem dX5_nameWithMarkAt_9 : decode cX5_nameWithMarkAt 9 = .ok (.iload_n 1, 1) := by decide +kernel
theorem dX5_nameWithMarkAt_10 : decode cX5_nameWithMarkAt 10 = .ok (.invokestatic 109, 3) := by decide +kernel
theorem dX5_nameWithMarkAt_13 : decode cX5_nameWithMarkAt 13 = .ok (.if_icmp .ge 46, 3) := by decide +kernel
theorem dX5_nameWithMarkAt_16 : decode cX5_nameWithMarkAt 16 = .ok (.aload_n 0, 1) := by decide +kernel
theorem dX5_nameWithMarkAt_17 : decode cX5_nameWithMarkAt 17 = .ok (.iload_n 1, 1) := by decide +kernel
theorem dX5_nameWithMarkAt_18 : decode cX5_nameWithMarkAt 18 = .ok (.iload 5, 2) := by decide +kernel
theorem dX5_nameWithMarkAt_20 : decode cX5_nameWithMarkAt 20 = .ok (.invokevirtual 113, 3) := by decide +kernel
theorem dX5_nameWithMarkAt_23 : decode cX5_nameWithMarkAt 23 = .ok (.iload_n 2, 1) := by decide +kernel
theorem dX5_nameWithMarkAt_24 : decode cX5_nameWithMarkAt 24 = .ok (.if_icmp .ne 29, 3) := by decide +kernel
theorem dX5_nameWithMarkAt_27 : decode cX5_nameWithMarkAt 27 = .ok (.aload_n 0, 1) := by decide +kernel
theorem dX5_nameWithMarkAt_28 : decode cX5_nameWithMarkAt 28 = .ok (.iload_n 1, 1) := by decide +kernel
theorem dX5_nameWithMarkAt_29 : decode cX5_nameWithMarkAt 29 = .ok (.iload 5, 2) := by decide +kernel
theorem dX5_nameWithMarkAt_31 : decode cX5_nameWithMarkAt 31 = .ok (.invokevirtual 116, 3) := by decide +kernel
theorem dX5_nameWithMarkAt_34 : decode cX5_nameWithMarkAt 34 = .ok (.iload_n 3, 1) := by decide +kernel
theorem dX5_nameWithMarkAt_35 : decode cX5_nameWithMarkAt 35 = .ok (.if_icmp .ne 18, 3) := by decide +kernel
theorem dX5_nameWithMarkAt_38 : decode cX5_nameWithMarkAt 38 = .ok (.aload_n 0, 1) := by decide +kernel
theorem dX5_nameWithMarkAt_39 : decode cX5_nameWithMarkAt 39 = .ok (.iload_n 1, 1) := by decide +kernel
theorem dX5_nameWithMarkAt_40 : decode cX5_nameWithMarkAt 40 = .ok (.iload 5, 2) := by decide +kernel
theorem dX5_nameWithMarkAt_42 : decode cX5_nameWithMarkAt 42 = .ok (.invokevirtual 119, 3) := by decide +kernel
theorem dX5_nameWithMarkAt_45 : decode cX5_nameWithMarkAt 45 = .ok (.iload 4, 2) := by decide +kernel
theorem dX5_nameWithMarkAt_47 : decode cX5_nameWithMarkAt 47 = .ok (.if_icmp .ne 6, 3) := by decide +kernel
theorem dX5_nameWithMarkAt_50 : decode cX5_nameWithMarkAt 50 = .ok (.iload 5, 2) := by decide +kernel
theorem dX5_nameWithMarkAt_52 : decode cX5_nameWithMarkAt 52 = .ok (.ireturn, 1) := by decide +kernel
theorem dX5_nameWithMarkAt_53 : decode cX5_nameWithMarkAt 53 = .ok (.iinc 5 1, 3) := by decide +kernel
theorem dX5_nameWithMarkAt_56 : decode cX5_nameWithMarkAt 56 = .ok (.goto (-53), 3) := by decide +kernel
theorem dX5_nameWithMarkAt_59 : decode cX5_nameWithMarkAt 59 = .ok (.iconst (-1), 1) := by decide +kernel
theorem dX5_nameWithMarkAt_60 : decode cX5_nameWithMarkAt 60 = .ok (.ireturn, 1) := by decide +kernel
theorem dX5_pageOf_0 : decode cX5_pageOf 0 = .ok (.aload_n 0, 1) := by decide +kernel
theorem dX5_pageOf_1 : decode cX5_pageOf 1 = .ok (.getfield 9, 3) := by decide +kernel
theorem dX5_pageOf_4 : decode cX5_pageOf 4 = .ok (.iload_n 1, 1) := by decide +kernel
theorem dX5_pageOf_5 : decode cX5_pageOf 5 = .ok (.iload_n 2, 1) := by decide +kernel
theorem dX5_pageOf_6 : decode cX5_pageOf 6 = .ok (.invokestatic 95, 3) := by decide +kernel
theorem dX5_pageOf_9 : decode cX5_pageOf 9 = .ok (.invokestatic 109, 3) := by decide +kernel
theorem dX5_pageOf_12 : decode cX5_pageOf 12 = .ok (.istore_n 3, 1) := by decide +kernel
theorem dX5_pageOf_13 : decode cX5_pageOf 13 = .ok (.aload_n 0, 1) := by decide +kernel
theorem dX5_pageOf_14 : decode cX5_pageOf 14 = .ok (.getfield 30, 3) := by decide +kernel
theorem dX5_pageOf_17 : decode cX5_pageOf 17 = .ok (.ifCond .le 12, 3) := by decide +kernel
theorem dX5_pageOf_20 : decode cX5_pageOf 20 = .ok (.iload_n 3, 1) := by decide +kernel
theorem dX5_pageOf_21 : decode cX5_pageOf 21 = .ok (.aload_n 0, 1) := by decide +kernel
theorem dX5_pageOf_22 : decode cX5_pageOf 22 = .ok (.getfield 30, 3) := by decide +kernel
theorem dX5_pageOf_25 : decode cX5_pageOf 25 = .ok (.idiv, 1) := by decide +kernel
theorem dX5_pageOf_26 : decode cX5_pageOf 26 = .ok (.goto 4, 3) := by decide +kernel
theorem dX5_pageOf_29 : decode cX5_pageOf 29 = .ok (.iconst 0, 1) := by decide +kernel
theorem dX5_pageOf_30 : decode cX5_pageOf 30 = .ok (.ireturn, 1) := by decide +kernel
theorem dX5_columnOnPage_0 : decode cX5_columnOnPage 0 = .ok (.aload_n 0, 1) := by decide +kernel
theorem dX5_columnOnPage_1 : decode cX5_columnOnPage 1 = .ok (.getfield 9, 3) := by decide +kernel
theorem dX5_columnOnPage_4 : decode cX5_columnOnPage 4 = .ok (.iload_n 1, 1) := by decide +kernel
theorem dX5_columnOnPage_5 : decode cX5_columnOnPage 5 = .ok (.iload_n 2, 1) := by decide +kernel
theorem dX5_columnOnPage_6 : decode cX5_columnOnPage 6 = .ok (.invokestatic 95, 3) := by decide +kernel
theorem dX5_columnOnPage_9 : decode cX5_columnOnPage 9 = .ok (.invokestatic 109, 3) := by decide +kernel
theorem dX5_columnOnPage_12 : decode cX5_columnOnPage 12 = .ok (.istore_n 3, 1) := by decide +kernel
theorem dX5_columnOnPage_13 : decode cX5_columnOnPage 13 = .ok (.aload_n 0, 1) := by decide +kernel
theorem dX5_columnOnPage_14 : decode cX5_columnOnPage 14 = .ok (.getfield 30, 3) := by decide +kernel
theorem dX5_columnOnPage_17 : decode cX5_columnOnPage 17 = .ok (.ifCond .le 12, 3) := by decide +kernel
theorem dX5_columnOnPage_20 : decode cX5_columnOnPage 20 = .ok (.iload_n 3, 1) := by decide +kernel
theorem dX5_columnOnPage_21 : decode cX5_columnOnPage 21 = .ok (.aload_n 0, 1) := by decide +kernel
theorem dX5_columnOnPage_22 : decode cX5_columnOnPage 22 = .ok (.getfield 30, 3) := by decide +kernel
theorem dX5_columnOnPage_25 : decode cX5_columnOnPage 25 = .ok (.irem, 1) := by decide +kernel
theorem dX5_columnOnPage_26 : decode cX5_columnOnPage 26 = .ok (.goto 4, 3) := by decide +kernel
theorem dX5_columnOnPage_29 : decode cX5_columnOnPage 29 = .ok (.iconst 0, 1) := by decide +kernel
theorem dX5_columnOnPage_30 : decode cX5_columnOnPage 30 = .ok (.ireturn, 1) := by decide +kernel
theorem dX5_lineOf_0 : decode cX5_lineOf 0 = .ok (.aload_n 0, 1) := by decide +kernel
theorem dX5_lineOf_1 : decode cX5_lineOf 1 = .ok (.getfield 15, 3) := by decide +kernel
theorem dX5_lineOf_4 : decode cX5_lineOf 4 = .ok (.iload_n 1, 1) := by decide +kernel
theorem dX5_lineOf_5 : decode cX5_lineOf 5 = .ok (.iload_n 2, 1) := by decide +kernel
theorem dX5_lineOf_6 : decode cX5_lineOf 6 = .ok (.invokestatic 95, 3) := by decide +kernel
theorem dX5_lineOf_9 : decode cX5_lineOf 9 = .ok (.invokestatic 109, 3) := by decide +kernel
theorem dX5_lineOf_12 : decode cX5_lineOf 12 = .ok (.ireturn, 1) := by decide +kernel
theorem dX5_linesOf_0 : decode cX5_linesOf 0 = .ok (.aload_n 0, 1) := by decide +kernel
theorem dX5_linesOf_1 : decode cX5_linesOf 1 = .ok (.getfield 18, 3) := by decide +kernel
theorem dX5_linesOf_4 : decode cX5_linesOf 4 = .ok (.iload_n 1, 1) := by decide +kernel
theorem dX5_linesOf_5 : decode cX5_linesOf 5 = .ok (.iload_n 2, 1) := by decide +kernel
theorem dX5_linesOf_6 : decode cX5_linesOf 6 = .ok (.invokestatic 95, 3) := by decide +kernel
theorem dX5_linesOf_9 : decode cX5_linesOf 9 = .ok (.invokestatic 109, 3) := by decide +kernel
theorem dX5_linesOf_12 : decode cX5_linesOf 12 = .ok (.ireturn, 1) := by decide +kernel
theorem dX5_pages_0 : decode cX5_pages 0 = .ok (.aload_n 0, 1) := by decide +kernel
theorem dX5_pages_1 : decode cX5_pages 1 = .ok (.getfield 40, 3) := by decide +kernel
theorem dX5_pages_4 : decode cX5_pages 4 = .ok (.aload_n 0, 1) := by decide +kernel
theorem dX5_pages_5 : decode cX5_pages 5 = .ok (.getfield 30, 3) := by decide +kernel
theorem dX5_pages_8 : decode cX5_pages 8 = .ok (.invokestatic 75, 3) := by decide +kernel
theorem dX5_pages_11 : decode cX5_pages 11 = .ok (.ireturn, 1) := by decide +kernel
theorem dX5_columns_0 : decode cX5_columns 0 = .ok (.aload_n 0, 1) := by decide +kernel
theorem dX5_columns_1 : decode cX5_columns 1 = .ok (.getfield 40, 3) := by decide +kernel
theorem dX5_columns_4 : decode cX5_columns 4 = .ok (.ireturn, 1) := by decide +kernel
theorem dX5_taken_0 : decode cX5_taken 0 = .ok (.aload_n 0, 1) := by decide +kernel
theorem dX5_taken_1 : decode cX5_taken 1 = .ok (.getfield 46, 3) := by decide +kernel
theorem dX5_taken_4 : decode cX5_taken 4 = .ok (.ireturn, 1) := by decide +kernel
theorem dX5_later_0 : decode cX5_later 0 = .ok (.aload_n 0, 1) := by decide +kernel
theorem dX5_later_1 : decode cX5_later 1 = .ok (.getfield 49, 3) := by decide +kernel
theorem dX5_later_4 : decode cX5_later 4 = .ok (.ireturn, 1) := by decide +kernel
theorem dX5_begunByNames_0 : decode cX5_begunByNames 0 = .ok (.aload_n 0, 1) := by decide +kernel
theorem dX5_begunByNames_1 : decode cX5_begunByNames 1 = .ok (.getfield 52, 3) := by decide +kernel
theorem dX5_begunByNames_4 : decode cX5_begunByNames 4 = .ok (.ireturn, 1) := by decide +kernel
theorem dX6_init_0 : decode cX6_init 0 = .ok (.aload_n 0, 1) := by decide +kernel
theorem dX6_init_1 : decode cX6_init 1 = .ok (.invokespecial 3, 3) := by decide +kernel
theorem dX6_init_4 : decode cX6_init 4 = .ok (.aload_n 0, 1) := by decide +kernel
theorem dX6_init_5 : decode cX6_init 5 = .ok (.bipush 40, 2) := by decide +kernel
theorem dX6_init_7 : decode cX6_init 7 = .ok (.newarray .int, 2) := by decide +kernel
theorem dX6_init_9 : decode cX6_init 9 = .ok (.putfield 9, 3) := by decide +kernel
theorem dX6_init_12 : decode cX6_init 12 = .ok (.return_, 1) := by decide +kernel
theorem dX6_length_0 : decode cX6_length 0 = .ok (.aload_n 0, 1) := by decide +kernel
theorem dX6_length_1 : decode cX6_length 1 = .ok (.getfield 15, 3) := by decide +kernel
theorem dX6_length_4 : decode cX6_length 4 = .ok (.ireturn, 1) := by decide +kernel
theorem dX6_append_0 : decode cX6_append 0 = .ok (.aload_n 0, 1) := by decide +kernel
theorem dX6_append_1 : decode cX6_append 1 = .ok (.getfield 15, 3) := by decide +kernel
theorem dX6_append_4 : decode cX6_append 4 = .ok (.bipush 40, 2) := by decide +kernel
theorem dX6_append_6 : decode cX6_append 6 = .ok (.if_icmp .ge 25, 3) := by decide +kernel
theorem dX6_append_9 : decode cX6_append 9 = .ok (.aload_n 0, 1) := by decide +kernel
theorem dX6_append_10 : decode cX6_append 10 = .ok (.getfield 9, 3) := by decide +kernel
theorem dX6_append_13 : decode cX6_append 13 = .ok (.aload_n 0, 1) := by decide +kernel
theorem dX6_append_14 : decode cX6_append 14 = .ok (.getfield 15, 3) := by decide +kernel
theorem dX6_append_17 : decode cX6_append 17 = .ok (.iload_n 1, 1) := by decide +kernel
theorem dX6_append_18 : decode cX6_append 18 = .ok (.invokestatic 19, 3) := by decide +kernel
theorem dX6_append_21 : decode cX6_append 21 = .ok (.aload_n 0, 1) := by decide +kernel
theorem dX6_append_22 : decode cX6_append 22 = .ok (.dup, 1) := by decide +kernel
theorem dX6_append_23 : decode cX6_append 23 = .ok (.getfield 15, 3) := by decide +kernel
theorem dX6_append_26 : decode cX6_append 26 = .ok (.iconst 1, 1) := by decide +kernel
theorem dX6_append_27 : decode cX6_append 27 = .ok (.iadd, 1) := by decide +kernel
theorem dX6_append_28 : decode cX6_append 28 = .ok (.putfield 15, 3) := by decide +kernel
theorem dX6_append_31 : decode cX6_append 31 = .ok (.aload_n 0, 1) := by decide +kernel
theorem dX6_append_32 : decode cX6_append 32 = .ok (.getfield 15, 3) := by decide +kernel
theorem dX6_append_35 : decode cX6_append 35 = .ok (.ireturn, 1) := by decide +kernel
theorem dX6_empty_0 : decode cX6_empty 0 = .ok (.aload_n 0, 1) := by decide +kernel
theorem dX6_empty_1 : decode cX6_empty 1 = .ok (.getfield 15, 3) := by decide +kernel
theorem dX6_empty_4 : decode cX6_empty 4 = .ok (.istore_n 1, 1) := by decide +kernel
theorem dX6_empty_5 : decode cX6_empty 5 = .ok (.aload_n 0, 1) := by decide +kernel
theorem dX6_empty_6 : decode cX6_empty 6 = .ok (.iconst 0, 1) := by decide +kernel
theorem dX6_empty_7 : decode cX6_empty 7 = .ok (.putfield 15, 3) := by decide +kernel
theorem dX6_empty_10 : decode cX6_empty 10 = .ok (.iload_n 1, 1) := by decide +kernel
theorem dX6_empty_11 : decode cX6_empty 11 = .ok (.ireturn, 1) := by decide +kernel
theorem dX6_signAt_0 : decode cX6_signAt 0 = .ok (.iload_n 1, 1) := by decide +kernel
theorem dX6_signAt_1 : decode cX6_signAt 1 = .ok (.iconst 0, 1) := by decide +kernel
theorem dX6_signAt_2 : decode cX6_signAt 2 = .ok (.aload_n 0, 1) := by decide +kernel
theorem dX6_signAt_3 : decode cX6_signAt 3 = .ok (.getfield 15, 3) := by decide +kernel
theorem dX6_signAt_6 : decode cX6_signAt 6 = .ok (.iconst 1, 1) := by decide +kernel
theorem dX6_signAt_7 : decode cX6_signAt 7 = .ok (.isub, 1) := by decide +kernel
theorem dX6_signAt_8 : decode cX6_signAt 8 = .ok (.invokestatic 25, 3) := by decide +kernel
theorem dX6_signAt_11 : decode cX6_signAt 11 = .ok (.ifCond .eq 14, 3) := by decide +kernel
theorem dX6_signAt_14 : decode cX6_signAt 14 = .ok (.aload_n 0, 1) := by decide +kernel
theorem dX6_signAt_15 : decode cX6_signAt 15 = .ok (.getfield 9, 3) := by decide +kernel
theorem dX6_signAt_18 : decode cX6_signAt 18 = .ok (.iload_n 1, 1) := by decide +kernel
theorem dX6_signAt_19 : decode cX6_signAt 19 = .ok (.invokestatic 29, 3) := by decide +kernel
theorem dX6_signAt_22 : decode cX6_signAt 22 = .ok (.goto 4, 3) := by decide +kernel
theorem dX6_signAt_25 : decode cX6_signAt 25 = .ok (.iconst (-1), 1) := by decide +kernel
theorem dX6_signAt_26 : decode cX6_signAt 26 = .ok (.ireturn, 1) := by decide +kernel
theorem dX6_hasDigitAt_0 : decode cX6_hasDigitAt 0 = .ok (.aload_n 0, 1) := by decide +kernel
theorem dX6_hasDigitAt_1 : decode cX6_hasDigitAt 1 = .ok (.iload_n 1, 1) := by decide +kernel
theorem dX6_hasDigitAt_2 : decode cX6_hasDigitAt 2 = .ok (.invokevirtual 33, 3) := by decide +kernel
theorem dX6_hasDigitAt_5 : decode cX6_hasDigitAt 5 = .ok (.bipush 48, 2) := by decide +kernel
theorem dX6_hasDigitAt_7 : decode cX6_hasDigitAt 7 = .ok (.bipush 57, 2) := by decide +kernel
theorem dX6_hasDigitAt_9 : decode cX6_hasDigitAt 9 = .ok (.invokestatic 25, 3) := by decide +kernel
theorem dX6_hasDigitAt_12 : decode cX6_hasDigitAt 12 = .ok (.ireturn, 1) := by decide +kernel
theorem dX6_digitAt_0 : decode cX6_digitAt 0 = .ok (.aload_n 0, 1) := by decide +kernel
theorem dX6_digitAt_1 : decode cX6_digitAt 1 = .ok (.iload_n 1, 1) := by decide +kernel
theorem dX6_digitAt_2 : decode cX6_digitAt 2 = .ok (.invokevirtual 33, 3) := by decide +kernel
theorem dX6_digitAt_5 : decode cX6_digitAt 5 = .ok (.bipush 48, 2) := by decide +kernel
theorem dX6_digitAt_7 : decode cX6_digitAt 7 = .ok (.isub, 1) := by decide +kernel
theorem dX6_digitAt_8 : decode cX6_digitAt 8 = .ok (.ireturn, 1) := by decide +kernel
theorem dX7_init_0 : decode cX7_init 0 = .ok (.aload_n 0, 1) := by decide +kernel
theorem dX7_init_1 : decode cX7_init 1 = .ok (.invokespecial 1, 3) := by decide +kernel
theorem dX7_init_4 : decode cX7_init 4 = .ok (.aload_n 0, 1) := by decide +kernel
theorem dX7_init_5 : decode cX7_init 5 = .ok (.new 7, 3) := by decide +kernel
theorem dX7_init_8 : decode cX7_init 8 = .ok (.dup, 1) := by decide +kernel
theorem dX7_init_9 : decode cX7_init 9 = .ok (.invokespecial 9, 3) := by decide +kernel
theorem dX7_init_12 : decode cX7_init 12 = .ok (.putfield 10, 3) := by decide +kernel
theorem dX7_init_15 : decode cX7_init 15 = .ok (.aload_n 0, 1) := by decide +kernel
theorem dX7_init_16 : decode cX7_init 16 = .ok (.new 16, 3) := by decide +kernel
theorem dX7_init_19 : decode cX7_init 19 = .ok (.dup, 1) := by decide +kernel
theorem dX7_init_20 : decode cX7_init 20 = .ok (.invokespecial 18, 3) := by decide +kernel
theorem dX7_init_23 : decode cX7_init 23 = .ok (.putfield 19, 3) := by decide +kernel
theorem dX7_init_26 : decode cX7_init 26 = .ok (.aload_n 0, 1) := by decide +kernel
theorem dX7_init_27 : decode cX7_init 27 = .ok (.new 23, 3) := by decide +kernel
theorem dX7_init_30 : decode cX7_init 30 = .ok (.dup, 1) := by decide +kernel
theorem dX7_init_31 : decode cX7_init 31 = .ok (.invokespecial 25, 3) := by decide +kernel
theorem dX7_init_34 : decode cX7_init 34 = .ok (.putfield 26, 3) := by decide +kernel
theorem dX7_init_37 : decode cX7_init 37 = .ok (.aload_n 0, 1) := by decide +kernel
theorem dX7_init_38 : decode cX7_init 38 = .ok (.new 30, 3) := by decide +kernel
theorem dX7_init_41 : decode cX7_init 41 = .ok (.dup, 1) := by decide +kernel
theorem dX7_init_42 : decode cX7_init 42 = .ok (.invokespecial 32, 3) := by decide +kernel
theorem dX7_init_45 : decode cX7_init 45 = .ok (.putfield 33, 3) := by decide +kernel
theorem dX7_init_48 : decode cX7_init 48 = .ok (.aload_n 0, 1) := by decide +kernel
theorem dX7_init_49 : decode cX7_init 49 = .ok (.new 37, 3) := by decide +kernel
theorem dX7_init_52 : decode cX7_init 52 = .ok (.dup, 1) := by decide +kernel
theorem dX7_init_53 : decode cX7_init 53 = .ok (.invokespecial 39, 3) := by decide +kernel
theorem dX7_init_56 : decode cX7_init 56 = .ok (.putfield 40, 3) := by decide +kernel
theorem dX7_init_59 : decode cX7_init 59 = .ok (.aload_n 0, 1) := by decide +kernel
theorem dX7_init_60 : decode cX7_init 60 = .ok (.new 44, 3) := by decide +kernel
theorem dX7_init_63 : decode cX7_init 63 = .ok (.dup, 1) := by decide +kernel
theorem dX7_init_64 : decode cX7_init 64 = .ok (.invokespecial 46, 3) := by decide +kernel
theorem dX7_init_67 : decode cX7_init 67 = .ok (.putfield 47, 3) := by decide +kernel
theorem dX7_init_70 : decode cX7_init 70 = .ok (.return_, 1) := by decide +kernel
theorem dX7_contest_0 : decode cX7_contest 0 = .ok (.iload_n 1, 1) := by decide +kernel
theorem dX7_contest_1 : decode cX7_contest 1 = .ok (.iconst 1, 1) := by decide +kernel
theorem dX7_contest_2 : decode cX7_contest 2 = .ok (.bipush 20, 2) := by decide +kernel
theorem dX7_contest_4 : decode cX7_contest 4 = .ok (.invokestatic 51, 3) := by decide +kernel
theorem dX7_contest_7 : decode cX7_contest 7 = .ok (.ifCond .eq 12, 3) := by decide +kernel
theorem dX7_contest_10 : decode cX7_contest 10 = .ok (.iload_n 2, 1) := by decide +kernel
theorem dX7_contest_11 : decode cX7_contest 11 = .ok (.iconst 1, 1) := by decide +kernel
theorem dX7_contest_12 : decode cX7_contest 12 = .ok (.iconst 3, 1) := by decide +kernel
theorem dX7_contest_13 : decode cX7_contest 13 = .ok (.invokestatic 51, 3) := by decide +kernel
theorem dX7_contest_16 : decode cX7_contest 16 = .ok (.ifCond .ne 5, 3) := by decide +kernel
theorem dX7_contest_19 : decode cX7_contest 19 = .ok (.iconst (-1), 1) := by decide +kernel
theorem dX7_contest_20 : decode cX7_contest 20 = .ok (.ireturn, 1) := by decide +kernel
theorem dX7_contest_21 : decode cX7_contest 21 = .ok (.aload_n 0, 1) := by decide +kernel
theorem dX7_contest_22 : decode cX7_contest 22 = .ok (.getfield 10, 3) := by decide +kernel
theorem dX7_contest_25 : decode cX7_contest 25 = .ok (.invokevirtual 55, 3) := by decide +kernel
theorem dX7_contest_28 : decode cX7_contest 28 = .ok (.bipush 6, 2) := by decide +kernel
theorem dX7_contest_30 : decode cX7_contest 30 = .ok (.if_icmp .lt 6, 3) := by decide +kernel
theorem dX7_contest_33 : decode cX7_contest 33 = .ok (.bipush (-3), 2) := by decide +kernel
theorem dX7_contest_35 : decode cX7_contest 35 = .ok (.ireturn, 1) := by decide +kernel
theorem dX7_contest_36 : decode cX7_contest 36 = .ok (.aload_n 0, 1) := by decide +kernel
theorem dX7_contest_37 : decode cX7_contest 37 = .ok (.getfield 19, 3) := by decide +kernel
theorem dX7_contest_40 : decode cX7_contest 40 = .ok (.aload_n 0, 1) := by decide +kernel
theorem dX7_contest_41 : decode cX7_contest 41 = .ok (.getfield 10, 3) := by decide +kernel
theorem dX7_contest_44 : decode cX7_contest 44 = .ok (.invokevirtual 59, 3) := by decide +kernel
theorem dX7_contest_47 : decode cX7_contest 47 = .ok (.aload_n 0, 1) := by decide +kernel
theorem dX7_contest_48 : decode cX7_contest 48 = .ok (.getfield 10, 3) := by decide +kernel
theorem dX7_contest_51 : decode cX7_contest 51 = .ok (.iload_n 1, 1) := by decide +kernel
theorem dX7_contest_52 : decode cX7_contest 52 = .ok (.iload_n 2, 1) := by decide +kernel
theorem dX7_contest_53 : decode cX7_contest 53 = .ok (.invokevirtual 63, 3) := by decide +kernel
theorem dX7_contest_56 : decode cX7_contest 56 = .ok (.ireturn, 1) := by decide +kernel
theorem dX7_name_0 : decode cX7_name 0 = .ok (.aload_n 0, 1) := by decide +kernel
theorem dX7_name_1 : decode cX7_name 1 = .ok (.getfield 10, 3) := by decide +kernel
theorem dX7_name_4 : decode cX7_name 4 = .ok (.iload_n 1, 1) := by decide +kernel
theorem dX7_name_5 : decode cX7_name 5 = .ok (.invokevirtual 67, 3) := by decide +kernel
theorem dX7_name_8 : decode cX7_name 8 = .ok (.ifCond .eq 13, 3) := by decide +kernel
theorem dX7_name_11 : decode cX7_name 11 = .ok (.iload_n 2, 1) := by decide +kernel
theorem dX7_name_12 : decode cX7_name 12 = .ok (.iconst 1, 1) := by decide +kernel
theorem dX7_name_13 : decode cX7_name 13 = .ok (.bipush 20, 2) := by decide +kernel
theorem dX7_name_15 : decode cX7_name 15 = .ok (.invokestatic 51, 3) := by decide +kernel
theorem dX7_name_18 : decode cX7_name 18 = .ok (.ifCond .ne 5, 3) := by decide +kernel
theorem dX7_name_21 : decode cX7_name 21 = .ok (.iconst (-1), 1) := by decide +kernel
theorem dX7_name_22 : decode cX7_name 22 = .ok (.ireturn, 1) := by decide +kernel
theorem dX7_name_23 : decode cX7_name 23 = .ok (.aload_n 0, 1) := by decide +kernel
theorem dX7_name_24 : decode cX7_name 24 = .ok (.getfield 10, 3) := by decide +kernel
theorem dX7_name_27 : decode cX7_name 27 = .ok (.invokevirtual 71, 3) := by decide +kernel
theorem dX7_name_30 : decode cX7_name 30 = .ok (.ifCond .le 6, 3) := by decide +kernel
theorem dX7_name_33 : decode cX7_name 33 = .ok (.bipush (-2), 2) := by decide +kernel
theorem dX7_name_35 : decode cX7_name 35 = .ok (.ireturn, 1) := by decide +kernel
theorem dX7_name_36 : decode cX7_name 36 = .ok (.aload_n 0, 1) := by decide +kernel
theorem dX7_name_37 : decode cX7_name 37 = .ok (.getfield 10, 3) := by decide +kernel
theorem dX7_name_40 : decode cX7_name 40 = .ok (.iload_n 1, 1) := by decide +kernel
theorem dX7_name_41 : decode cX7_name 41 = .ok (.invokevirtual 74, 3) := by decide +kernel
theorem dX7_name_44 : decode cX7_name 44 = .ok (.bipush 8, 2) := by decide +kernel
theorem dX7_name_46 : decode cX7_name 46 = .ok (.if_icmp .lt 6, 3) := by decide +kernel
theorem dX7_name_49 : decode cX7_name 49 = .ok (.bipush (-3), 2) := by decide +kernel
theorem dX7_name_51 : decode cX7_name 51 = .ok (.ireturn, 1) := by decide +kernel
theorem dX7_name_52 : decode cX7_name 52 = .ok (.aload_n 0, 1) := by decide +kernel
theorem dX7_name_53 : decode cX7_name 53 = .ok (.getfield 19, 3) := by decide +kernel
theorem dX7_name_56 : decode cX7_name 56 = .ok (.aload_n 0, 1) := by decide +kernel
theorem dX7_name_57 : decode cX7_name 57 = .ok (.getfield 10, 3) := by decide +kernel
theorem dX7_name_60 : decode cX7_name 60 = .ok (.invokevirtual 59, 3) := by decide +kernel
theorem dX7_name_63 : decode cX7_name 63 = .ok (.aload_n 0, 1) := by decide +kernel
theorem dX7_name_64 : decode cX7_name 64 = .ok (.getfield 10, 3) := by decide +kernel
theorem dX7_name_67 : decode cX7_name 67 = .ok (.iload_n 1, 1) := by decide +kernel
theorem dX7_name_68 : decode cX7_name 68 = .ok (.iload_n 2, 1) := by decide +kernel
theorem dX7_name_69 : decode cX7_name 69 = .ok (.invokevirtual 78, 3) := by decide +kernel
theorem dX7_name_72 : decode cX7_name 72 = .ok (.ireturn, 1) := by decide +kernel
theorem dX7_way_0 : decode cX7_way 0 = .ok (.aload_n 0, 1) := by decide +kernel
theorem dX7_way_1 : decode cX7_way 1 = .ok (.getfield 10, 3) := by decide +kernel
theorem dX7_way_4 : decode cX7_way 4 = .ok (.iload_n 1, 1) := by decide +kernel
theorem dX7_way_5 : decode cX7_way 5 = .ok (.invokevirtual 67, 3) := by decide +kernel
theorem dX7_way_8 : decode cX7_way 8 = .ok (.ifCond .eq 12, 3) := by decide +kernel
theorem dX7_way_11 : decode cX7_way 11 = .ok (.iload_n 2, 1) := by decide +kernel
theorem dX7_way_12 : decode cX7_way 12 = .ok (.iconst 0, 1) := by decide +kernel
theorem dX7_way_13 : decode cX7_way 13 = .ok (.iconst 2, 1) := by decide +kernel
theorem dX7_way_14 : decode cX7_way 14 = .ok (.invokestatic 51, 3) := by decide +kernel
theorem dX7_way_17 : decode cX7_way 17 = .ok (.ifCond .ne 5, 3) := by decide +kernel
theorem dX7_way_20 : decode cX7_way 20 = .ok (.iconst (-1), 1) := by decide +kernel
theorem dX7_way_21 : decode cX7_way 21 = .ok (.ireturn, 1) := by decide +kernel
theorem dX7_way_22 : decode cX7_way 22 = .ok (.aload_n 0, 1) := by decide +kernel
theorem dX7_way_23 : decode cX7_way 23 = .ok (.getfield 10, 3) := by decide +kernel
theorem dX7_way_26 : decode cX7_way 26 = .ok (.invokevirtual 71, 3) := by decide +kernel
theorem dX7_way_29 : decode cX7_way 29 = .ok (.ifCond .le 6, 3) := by decide +kernel
theorem dX7_way_32 : decode cX7_way 32 = .ok (.bipush (-2), 2) := by decide +kernel
theorem dX7_way_34 : decode cX7_way 34 = .ok (.ireturn, 1) := by decide +kernel
theorem dX7_way_35 : decode cX7_way 35 = .ok (.aload_n 0, 1) := by decide +kernel
theorem dX7_way_36 : decode cX7_way 36 = .ok (.getfield 19, 3) := by decide +kernel
theorem dX7_way_39 : decode cX7_way 39 = .ok (.aload_n 0, 1) := by decide +kernel
theorem dX7_way_40 : decode cX7_way 40 = .ok (.getfield 10, 3) := by decide +kernel
theorem dX7_way_43 : decode cX7_way 43 = .ok (.invokevirtual 59, 3) := by decide +kernel
theorem dX7_way_46 : decode cX7_way 46 = .ok (.aload_n 0, 1) := by decide +kernel
theorem dX7_way_47 : decode cX7_way 47 = .ok (.getfield 10, 3) := by decide +kernel
theorem dX7_way_50 : decode cX7_way 50 = .ok (.iload_n 1, 1) := by decide +kernel
theorem dX7_way_51 : decode cX7_way 51 = .ok (.iload_n 2, 1) := by decide +kernel
theorem dX7_way_52 : decode cX7_way 52 = .ok (.invokevirtual 81, 3) := by decide +kernel
theorem dX7_way_55 : decode cX7_way 55 = .ok (.ireturn, 1) := by decide +kernel
theorem dX7_papers_0 : decode cX7_papers 0 = .ok (.aload_n 0, 1) := by decide +kernel
theorem dX7_papers_1 : decode cX7_papers 1 = .ok (.getfield 10, 3) := by decide +kernel
theorem dX7_papers_4 : decode cX7_papers 4 = .ok (.iload_n 1, 1) := by decide +kernel
theorem dX7_papers_5 : decode cX7_papers 5 = .ok (.invokevirtual 84, 3) := by decide +kernel
theorem dX7_papers_8 : decode cX7_papers 8 = .ok (.ifCond .eq 14, 3) := by decide +kernel
theorem dX7_papers_11 : decode cX7_papers 11 = .ok (.iload_n 2, 1) := by decide +kernel
theorem dX7_papers_12 : decode cX7_papers 12 = .ok (.iconst 0, 1) := by decide +kernel
theorem dX7_papers_13 : decode cX7_papers 13 = .ok (.sipush 9999, 3) := by decide +kernel
theorem dX7_papers_16 : decode cX7_papers 16 = .ok (.invokestatic 51, 3) := by decide +kernel
theorem dX7_papers_19 : decode cX7_papers 19 = .ok (.ifCond .ne 5, 3) := by decide +kernel
theorem dX7_papers_22 : decode cX7_papers 22 = .ok (.iconst (-1), 1) := by decide +kernel
theorem dX7_papers_23 : decode cX7_papers 23 = .ok (.ireturn, 1) := by decide +kernel
theorem dX7_papers_24 : decode cX7_papers 24 = .ok (.aload_n 0, 1) := by decide +kernel
theorem dX7_papers_25 : decode cX7_papers 25 = .ok (.getfield 19, 3) := by decide +kernel
theorem dX7_papers_28 : decode cX7_papers 28 = .ok (.aload_n 0, 1) := by decide +kernel
theorem dX7_papers_29 : decode cX7_papers 29 = .ok (.getfield 10, 3) := by decide +kernel
theorem dX7_papers_32 : decode cX7_papers 32 = .ok (.invokevirtual 59, 3) := by decide +kernel
theorem dX7_papers_35 : decode cX7_papers 35 = .ok (.aload_n 0, 1) := by decide +kernel
theorem dX7_papers_36 : decode cX7_papers 36 = .ok (.getfield 10, 3) := by decide +kernel
theorem dX7_papers_39 : decode cX7_papers 39 = .ok (.iload_n 1, 1) := by decide +kernel
theorem dX7_papers_40 : decode cX7_papers 40 = .ok (.iload_n 2, 1) := by decide +kernel
theorem dX7_papers_41 : decode cX7_papers 41 = .ok (.invokevirtual 87, 3) := by decide +kernel
theorem dX7_papers_44 : decode cX7_papers 44 = .ok (.ireturn, 1) := by decide +kernel
theorem dX7_set_0 : decode cX7_set 0 = .ok (.iload_n 1, 1) := by decide +kernel
theorem dX7_set_1 : decode cX7_set 1 = .ok (.iload_n 2, 1) := by decide +kernel
theorem dX7_set_2 : decode cX7_set 2 = .ok (.invokestatic 90, 3) := by decide +kernel
theorem dX7_set_5 : decode cX7_set 5 = .ok (.ifCond .ne 5, 3) := by decide +kernel
theorem dX7_set_8 : decode cX7_set 8 = .ok (.iconst (-1), 1) := by decide +kernel
theorem dX7_set_9 : decode cX7_set 9 = .ok (.ireturn, 1) := by decide +kernel
theorem dX7_set_10 : decode cX7_set 10 = .ok (.aload_n 0, 1) := by decide +kernel
theorem dX7_set_11 : decode cX7_set 11 = .ok (.getfield 19, 3) := by decide +kernel
theorem dX7_set_14 : decode cX7_set 14 = .ok (.aload_n 0, 1) := by decide +kernel
theorem dX7_set_15 : decode cX7_set 15 = .ok (.getfield 10, 3) := by decide +kernel
theorem dX7_set_18 : decode cX7_set 18 = .ok (.invokevirtual 59, 3) := by decide +kernel
theorem dX7_set_21 : decode cX7_set 21 = .ok (.aload_n 0, 1) := by decide +kernel
theorem dX7_set_22 : decode cX7_set 22 = .ok (.getfield 10, 3) := by decide +kernel
theorem dX7_set_25 : decode cX7_set 25 = .ok (.iload_n 1, 1) := by decide +kernel
theorem dX7_set_26 : decode cX7_set 26 = .ok (.iload_n 2, 1) := by decide +kernel
theorem dX7_set_27 : decode cX7_set 27 = .ok (.invokevirtual 94, 3) := by decide +kernel
theorem dX7_set_30 : decode cX7_set 30 = .ok (.ireturn, 1) := by decide +kernel
theorem dX7_clear_0 : decode cX7_clear 0 = .ok (.aload_n 0, 1) := by decide +kernel
theorem dX7_clear_1 : decode cX7_clear 1 = .ok (.getfield 19, 3) := by decide +kernel
theorem dX7_clear_4 : decode cX7_clear 4 = .ok (.aload_n 0, 1) := by decide +kernel
theorem dX7_clear_5 : decode cX7_clear 5 = .ok (.getfield 10, 3) := by decide +kernel
theorem dX7_clear_8 : decode cX7_clear 8 = .ok (.invokevirtual 59, 3) := by decide +kernel
theorem dX7_clear_11 : decode cX7_clear 11 = .ok (.aload_n 0, 1) := by decide +kernel
theorem dX7_clear_12 : decode cX7_clear 12 = .ok (.getfield 10, 3) := by decide +kernel
theorem dX7_clear_15 : decode cX7_clear 15 = .ok (.invokevirtual 97, 3) := by decide +kernel
theorem dX7_clear_18 : decode cX7_clear 18 = .ok (.ireturn, 1) := by decide +kernel
theorem dX7_contestOf_0 : decode cX7_contestOf 0 = .ok (.aload_n 0, 1) := by decide +kernel
theorem dX7_contestOf_1 : decode cX7_contestOf 1 = .ok (.getfield 10, 3) := by decide +kernel
theorem dX7_contestOf_4 : decode cX7_contestOf 4 = .ok (.iload_n 1, 1) := by decide +kernel
theorem dX7_contestOf_5 : decode cX7_contestOf 5 = .ok (.invokevirtual 67, 3) := by decide +kernel
theorem dX7_contestOf_8 : decode cX7_contestOf 8 = .ok (.ifCond .ne 5, 3) := by decide +kernel
theorem dX7_contestOf_11 : decode cX7_contestOf 11 = .ok (.iconst (-1), 1) := by decide +kernel
theorem dX7_contestOf_12 : decode cX7_contestOf 12 = .ok (.ireturn, 1) := by decide +kernel
theorem dX7_contestOf_13 : decode cX7_contestOf 13 = .ok (.iload_n 2, 1) := by decide +kernel
theorem dX7_contestOf_14 : decode cX7_contestOf 14 = .ok (.tableswitch 105 0 6 #[42, 51, 60, 69, 78, 87, 96], 42) := by decide +kernel
theorem dX7_contestOf_56 : decode cX7_contestOf 56 = .ok (.aload_n 0, 1) := by decide +kernel
theorem dX7_contestOf_57 : decode cX7_contestOf 57 = .ok (.getfield 10, 3) := by decide +kernel
theorem dX7_contestOf_60 : decode cX7_contestOf 60 = .ok (.iload_n 1, 1) := by decide +kernel
theorem dX7_contestOf_61 : decode cX7_contestOf 61 = .ok (.invokevirtual 100, 3) := by decide +kernel
theorem dX7_contestOf_64 : decode cX7_contestOf 64 = .ok (.ireturn, 1) := by decide +kernel
theorem dX7_contestOf_65 : decode cX7_contestOf 65 = .ok (.aload_n 0, 1) := by decide +kernel
theorem dX7_contestOf_66 : decode cX7_contestOf 66 = .ok (.getfield 10, 3) := by decide +kernel
theorem dX7_contestOf_69 : decode cX7_contestOf 69 = .ok (.iload_n 1, 1) := by decide +kernel
theorem dX7_contestOf_70 : decode cX7_contestOf 70 = .ok (.invokevirtual 103, 3) := by decide +kernel
theorem dX7_contestOf_73 : decode cX7_contestOf 73 = .ok (.ireturn, 1) := by decide +kernel
theorem dX7_contestOf_74 : decode cX7_contestOf 74 = .ok (.aload_n 0, 1) := by decide +kernel
theorem dX7_contestOf_75 : decode cX7_contestOf 75 = .ok (.getfield 10, 3) := by decide +kernel
theorem dX7_contestOf_78 : decode cX7_contestOf 78 = .ok (.iload_n 1, 1) := by decide +kernel
theorem dX7_contestOf_79 : decode cX7_contestOf 79 = .ok (.invokevirtual 106, 3) := by decide +kernel
theorem dX7_contestOf_82 : decode cX7_contestOf 82 = .ok (.ireturn, 1) := by decide +kernel
theorem dX7_contestOf_83 : decode cX7_contestOf 83 = .ok (.aload_n 0, 1) := by decide +kernel
theorem dX7_contestOf_84 : decode cX7_contestOf 84 = .ok (.getfield 10, 3) := by decide +kernel
theorem dX7_contestOf_87 : decode cX7_contestOf 87 = .ok (.iload_n 1, 1) := by decide +kernel
theorem dX7_contestOf_88 : decode cX7_contestOf 88 = .ok (.invokevirtual 74, 3) := by decide +kernel
theorem dX7_contestOf_91 : decode cX7_contestOf 91 = .ok (.ireturn, 1) := by decide +kernel
theorem dX7_contestOf_92 : decode cX7_contestOf 92 = .ok (.aload_n 0, 1) := by decide +kernel
theorem dX7_contestOf_93 : decode cX7_contestOf 93 = .ok (.getfield 10, 3) := by decide +kernel
theorem dX7_contestOf_96 : decode cX7_contestOf 96 = .ok (.iload_n 1, 1) := by decide +kernel
theorem dX7_contestOf_97 : decode cX7_contestOf 97 = .ok (.invokevirtual 109, 3) := by decide +kernel
theorem dX7_contestOf_100 : decode cX7_contestOf 100 = .ok (.ireturn, 1) := by decide +kernel
theorem dX7_contestOf_101 : decode cX7_contestOf 101 = .ok (.aload_n 0, 1) := by decide +kernel
theorem dX7_contestOf_102 : decode cX7_contestOf 102 = .ok (.getfield 10, 3) := by decide +kernel
theorem dX7_contestOf_105 : decode cX7_contestOf 105 = .ok (.iload_n 1, 1) := by decide +kernel
theorem dX7_contestOf_106 : decode cX7_contestOf 106 = .ok (.invokevirtual 112, 3) := by decide +kernel
theorem dX7_contestOf_109 : decode cX7_contestOf 109 = .ok (.ireturn, 1) := by decide +kernel
theorem dX7_contestOf_110 : decode cX7_contestOf 110 = .ok (.aload_n 0, 1) := by decide +kernel
theorem dX7_contestOf_111 : decode cX7_contestOf 111 = .ok (.getfield 10, 3) := by decide +kernel
theorem dX7_contestOf_114 : decode cX7_contestOf 114 = .ok (.iload_n 1, 1) := by decide +kernel
theorem dX7_contestOf_115 : decode cX7_contestOf 115 = .ok (.invokevirtual 115, 3) := by decide +kernel
theorem dX7_contestOf_118 : decode cX7_contestOf 118 = .ok (.ireturn, 1) := by decide +kernel
theorem dX7_contestOf_119 : decode cX7_contestOf 119 = .ok (.iconst (-1), 1) := by decide +kernel
theorem dX7_contestOf_120 : decode cX7_contestOf 120 = .ok (.ireturn, 1) := by decide +kernel
theorem dX7_nameOf_0 : decode cX7_nameOf 0 = .ok (.aload_n 0, 1) := by decide +kernel
theorem dX7_nameOf_1 : decode cX7_nameOf 1 = .ok (.getfield 10, 3) := by decide +kernel
theorem dX7_nameOf_4 : decode cX7_nameOf 4 = .ok (.iload_n 1, 1) := by decide +kernel
theorem dX7_nameOf_5 : decode cX7_nameOf 5 = .ok (.iload_n 2, 1) := by decide +kernel
theorem dX7_nameOf_6 : decode cX7_nameOf 6 = .ok (.invokevirtual 118, 3) := by decide +kernel
theorem dX7_nameOf_9 : decode cX7_nameOf 9 = .ok (.ifCond .ne 5, 3) := by decide +kernel
theorem dX7_nameOf_12 : decode cX7_nameOf 12 = .ok (.iconst (-1), 1) := by decide +kernel
theorem dX7_nameOf_13 : decode cX7_nameOf 13 = .ok (.ireturn, 1) := by decide +kernel
theorem dX7_nameOf_14 : decode cX7_nameOf 14 = .ok (.iload_n 3, 1) := by decide +kernel
theorem dX7_nameOf_15 : decode cX7_nameOf 15 = .ok (.tableswitch 88 0 3 #[29, 39, 49, 70], 29) := by decide +kernel
theorem dX7_nameOf_44 : decode cX7_nameOf 44 = .ok (.aload_n 0, 1) := by decide +kernel
theorem dX7_nameOf_45 : decode cX7_nameOf 45 = .ok (.getfield 10, 3) := by decide +kernel
theorem dX7_nameOf_48 : decode cX7_nameOf 48 = .ok (.iload_n 1, 1) := by decide +kernel
theorem dX7_nameOf_49 : decode cX7_nameOf 49 = .ok (.iload_n 2, 1) := by decide +kernel
theorem dX7_nameOf_50 : decode cX7_nameOf 50 = .ok (.invokevirtual 121, 3) := by decide +kernel
theorem dX7_nameOf_53 : decode cX7_nameOf 53 = .ok (.ireturn, 1) := by decide +kernel
theorem dX7_nameOf_54 : decode cX7_nameOf 54 = .ok (.aload_n 0, 1) := by decide +kernel
theorem dX7_nameOf_55 : decode cX7_nameOf 55 = .ok (.getfield 10, 3) := by decide +kernel
theorem dX7_nameOf_58 : decode cX7_nameOf 58 = .ok (.iload_n 1, 1) := by decide +kernel
theorem dX7_nameOf_59 : decode cX7_nameOf 59 = .ok (.iload_n 2, 1) := by decide +kernel
theorem dX7_nameOf_60 : decode cX7_nameOf 60 = .ok (.invokevirtual 124, 3) := by decide +kernel
theorem dX7_nameOf_63 : decode cX7_nameOf 63 = .ok (.ireturn, 1) := by decide +kernel
theorem dX7_nameOf_64 : decode cX7_nameOf 64 = .ok (.aload_n 0, 1) := by decide +kernel
theorem dX7_nameOf_65 : decode cX7_nameOf 65 = .ok (.getfield 33, 3) := by decide +kernel
theorem dX7_nameOf_68 : decode cX7_nameOf 68 = .ok (.aload_n 0, 1) := by decide +kernel
theorem dX7_nameOf_69 : decode cX7_nameOf 69 = .ok (.getfield 10, 3) := by decide +kernel
theorem dX7_nameOf_72 : decode cX7_nameOf 72 = .ok (.iload_n 1, 1) := by decide +kernel
theorem dX7_nameOf_73 : decode cX7_nameOf 73 = .ok (.invokevirtual 127, 3) := by decide +kernel
theorem dX7_nameOf_76 : decode cX7_nameOf 76 = .ok (.aload_n 0, 1) := by decide +kernel
theorem dX7_nameOf_77 : decode cX7_nameOf 77 = .ok (.getfield 33, 3) := by decide +kernel
theorem dX7_nameOf_80 : decode cX7_nameOf 80 = .ok (.iload_n 2, 1) := by decide +kernel
theorem dX7_nameOf_81 : decode cX7_nameOf 81 = .ok (.invokevirtual 131, 3) := by decide +kernel
theorem dX7_nameOf_84 : decode cX7_nameOf 84 = .ok (.ireturn, 1) := by decide +kernel
theorem dX7_nameOf_85 : decode cX7_nameOf 85 = .ok (.aload_n 0, 1) := by decide +kernel
theorem dX7_nameOf_86 : decode cX7_nameOf 86 = .ok (.getfield 10, 3) := by decide +kernel
theorem dX7_nameOf_89 : decode cX7_nameOf 89 = .ok (.iload_n 1, 1) := by decide +kernel
theorem dX7_nameOf_90 : decode cX7_nameOf 90 = .ok (.iload_n 2, 1) := by decide +kernel
theorem dX7_nameOf_91 : decode cX7_nameOf 91 = .ok (.invokevirtual 134, 3) := by decide +kernel
theorem dX7_nameOf_94 : decode cX7_nameOf 94 = .ok (.ifCond .eq 7, 3) := by decide +kernel
theorem dX7_nameOf_97 : decode cX7_nameOf 97 = .ok (.iconst 1, 1) := by decide +kernel
theorem dX7_nameOf_98 : decode cX7_nameOf 98 = .ok (.goto 4, 3) := by decide +kernel
theorem dX7_nameOf_101 : decode cX7_nameOf 101 = .ok (.iconst 0, 1) := by decide +kernel
theorem dX7_nameOf_102 : decode cX7_nameOf 102 = .ok (.ireturn, 1) := by decide +kernel
theorem dX7_nameOf_103 : decode cX7_nameOf 103 = .ok (.iconst (-1), 1) := by decide +kernel
theorem dX7_nameOf_104 : decode cX7_nameOf 104 = .ok (.ireturn, 1) := by decide +kernel
theorem dX7_count_0 : decode cX7_count 0 = .ok (.iload_n 1, 1) := by decide +kernel
theorem dX7_count_1 : decode cX7_count 1 = .ok (.tableswitch 87 0 5 #[39, 47, 55, 63, 71, 79], 39) := by decide +kernel
theorem dX7_count_40 : decode cX7_count 40 = .ok (.aload_n 0, 1) := by decide +kernel
theorem dX7_count_41 : decode cX7_count 41 = .ok (.getfield 10, 3) := by decide +kernel
theorem dX7_count_44 : decode cX7_count 44 = .ok (.invokevirtual 55, 3) := by decide +kernel
theorem dX7_count_47 : decode cX7_count 47 = .ok (.ireturn, 1) := by decide +kernel
theorem dX7_count_48 : decode cX7_count 48 = .ok (.aload_n 0, 1) := by decide +kernel
theorem dX7_count_49 : decode cX7_count 49 = .ok (.getfield 10, 3) := by decide +kernel
theorem dX7_count_52 : decode cX7_count 52 = .ok (.invokevirtual 137, 3) := by decide +kernel
theorem dX7_count_55 : decode cX7_count 55 = .ok (.ireturn, 1) := by decide +kernel
theorem dX7_count_56 : decode cX7_count 56 = .ok (.aload_n 0, 1) := by decide +kernel
theorem dX7_count_57 : decode cX7_count 57 = .ok (.getfield 10, 3) := by decide +kernel
theorem dX7_count_60 : decode cX7_count 60 = .ok (.invokevirtual 140, 3) := by decide +kernel
theorem dX7_count_63 : decode cX7_count 63 = .ok (.ireturn, 1) := by decide +kernel
theorem dX7_count_64 : decode cX7_count 64 = .ok (.aload_n 0, 1) := by decide +kernel
theorem dX7_count_65 : decode cX7_count 65 = .ok (.getfield 10, 3) := by decide +kernel
theorem dX7_count_68 : decode cX7_count 68 = .ok (.invokevirtual 71, 3) := by decide +kernel
theorem dX7_count_71 : decode cX7_count 71 = .ok (.ireturn, 1) := by decide +kernel
theorem dX7_count_72 : decode cX7_count 72 = .ok (.aload_n 0, 1) := by decide +kernel
theorem dX7_count_73 : decode cX7_count 73 = .ok (.getfield 19, 3) := by decide +kernel
theorem dX7_count_76 : decode cX7_count 76 = .ok (.invokevirtual 143, 3) := by decide +kernel
theorem dX7_count_79 : decode cX7_count 79 = .ok (.ireturn, 1) := by decide +kernel
theorem dX7_count_80 : decode cX7_count 80 = .ok (.aload_n 0, 1) := by decide +kernel
theorem dX7_count_81 : decode cX7_count 81 = .ok (.getfield 40, 3) := by decide +kernel
theorem dX7_count_84 : decode cX7_count 84 = .ok (.invokevirtual 146, 3) := by decide +kernel
theorem dX7_count_87 : decode cX7_count 87 = .ok (.ireturn, 1) := by decide +kernel
theorem dX7_count_88 : decode cX7_count 88 = .ok (.aload_n 0, 1) := by decide +kernel
theorem dX7_count_89 : decode cX7_count 89 = .ok (.iload_n 1, 1) := by decide +kernel
theorem dX7_count_90 : decode cX7_count 90 = .ok (.invokevirtual 149, 3) := by decide +kernel
theorem dX7_count_93 : decode cX7_count 93 = .ok (.ireturn, 1) := by decide +kernel
theorem dX7_papersOf_0 : decode cX7_papersOf 0 = .ok (.aload_n 0, 1) := by decide +kernel
theorem dX7_papersOf_1 : decode cX7_papersOf 1 = .ok (.getfield 10, 3) := by decide +kernel
theorem dX7_papersOf_4 : decode cX7_papersOf 4 = .ok (.iload_n 1, 1) := by decide +kernel
theorem dX7_papersOf_5 : decode cX7_papersOf 5 = .ok (.invokevirtual 84, 3) := by decide +kernel
theorem dX7_papersOf_8 : decode cX7_papersOf 8 = .ok (.ifCond .eq 14, 3) := by decide +kernel
theorem dX7_papersOf_11 : decode cX7_papersOf 11 = .ok (.aload_n 0, 1) := by decide +kernel
theorem dX7_papersOf_12 : decode cX7_papersOf 12 = .ok (.getfield 10, 3) := by decide +kernel
theorem dX7_papersOf_15 : decode cX7_papersOf 15 = .ok (.iload_n 1, 1) := by decide +kernel
theorem dX7_papersOf_16 : decode cX7_papersOf 16 = .ok (.invokevirtual 152, 3) := by decide +kernel
theorem dX7_papersOf_19 : decode cX7_papersOf 19 = .ok (.goto 4, 3) := by decide +kernel
theorem dX7_papersOf_22 : decode cX7_papersOf 22 = .ok (.iconst (-1), 1) := by decide +kernel
theorem dX7_papersOf_23 : decode cX7_papersOf 23 = .ok (.ireturn, 1) := by decide +kernel
theorem dX7_stands_0 : decode cX7_stands 0 = .ok (.aload_n 0, 1) := by decide +kernel
theorem dX7_stands_1 : decode cX7_stands 1 = .ok (.getfield 10, 3) := by decide +kernel
theorem dX7_stands_4 : decode cX7_stands 4 = .ok (.iload_n 1, 1) := by decide +kernel
theorem dX7_stands_5 : decode cX7_stands 5 = .ok (.invokevirtual 84, 3) := by decide +kernel
theorem dX7_stands_8 : decode cX7_stands 8 = .ok (.ifCond .eq 18, 3) := by decide +kernel
theorem dX7_stands_11 : decode cX7_stands 11 = .ok (.aload_n 0, 1) := by decide +kernel
theorem dX7_stands_12 : decode cX7_stands 12 = .ok (.getfield 10, 3) := by decide +kernel
theorem dX7_stands_15 : decode cX7_stands 15 = .ok (.iload_n 2, 1) := by decide +kernel
theorem dX7_stands_16 : decode cX7_stands 16 = .ok (.invokevirtual 67, 3) := by decide +kernel
theorem dX7_stands_19 : decode cX7_stands 19 = .ok (.ifCond .eq 7, 3) := by decide +kernel
theorem dX7_stands_22 : decode cX7_stands 22 = .ok (.iload_n 3, 1) := by decide +kernel
theorem dX7_stands_23 : decode cX7_stands 23 = .ok (.ifCond .ge 5, 3) := by decide +kernel
theorem dX7_stands_26 : decode cX7_stands 26 = .ok (.iconst (-1), 1) := by decide +kernel
theorem dX7_stands_27 : decode cX7_stands 27 = .ok (.ireturn, 1) := by decide +kernel
theorem dX7_stands_28 : decode cX7_stands 28 = .ok (.aload_n 0, 1) := by decide +kernel
theorem dX7_stands_29 : decode cX7_stands 29 = .ok (.getfield 10, 3) := by decide +kernel
theorem dX7_stands_32 : decode cX7_stands 32 = .ok (.iload_n 1, 1) := by decide +kernel
theorem dX7_stands_33 : decode cX7_stands 33 = .ok (.iload_n 2, 1) := by decide +kernel
theorem dX7_stands_34 : decode cX7_stands 34 = .ok (.iload_n 3, 1) := by decide +kernel
theorem dX7_stands_35 : decode cX7_stands 35 = .ok (.invokevirtual 155, 3) := by decide +kernel
theorem dX7_stands_38 : decode cX7_stands 38 = .ok (.istore 4, 2) := by decide +kernel
theorem dX7_stands_40 : decode cX7_stands 40 = .ok (.iload 4, 2) := by decide +kernel
theorem dX7_stands_42 : decode cX7_stands 42 = .ok (.iconst (-1), 1) := by decide +kernel
theorem dX7_stands_43 : decode cX7_stands 43 = .ok (.if_icmp .ne 8, 3) := by decide +kernel
theorem dX7_stands_46 : decode cX7_stands 46 = .ok (.bipush (-4), 2) := by decide +kernel
theorem dX7_stands_48 : decode cX7_stands 48 = .ok (.goto 5, 3) := by decide +kernel
theorem dX7_stands_51 : decode cX7_stands 51 = .ok (.iload 4, 2) := by decide +kernel
theorem dX7_stands_53 : decode cX7_stands 53 = .ok (.ireturn, 1) := by decide +kernel
theorem dX7_lies_0 : decode cX7_lies 0 = .ok (.aload_n 0, 1) := by decide +kernel
theorem dX7_lies_1 : decode cX7_lies 1 = .ok (.getfield 10, 3) := by decide +kernel
theorem dX7_lies_4 : decode cX7_lies 4 = .ok (.iload_n 1, 1) := by decide +kernel
theorem dX7_lies_5 : decode cX7_lies 5 = .ok (.invokevirtual 84, 3) := by decide +kernel
theorem dX7_lies_8 : decode cX7_lies 8 = .ok (.ifCond .eq 15, 3) := by decide +kernel
theorem dX7_lies_11 : decode cX7_lies 11 = .ok (.aload_n 0, 1) := by decide +kernel
theorem dX7_lies_12 : decode cX7_lies 12 = .ok (.getfield 10, 3) := by decide +kernel
theorem dX7_lies_15 : decode cX7_lies 15 = .ok (.iload_n 2, 1) := by decide +kernel
theorem dX7_lies_16 : decode cX7_lies 16 = .ok (.iload_n 3, 1) := by decide +kernel
theorem dX7_lies_17 : decode cX7_lies 17 = .ok (.invokevirtual 118, 3) := by decide +kernel
theorem dX7_lies_20 : decode cX7_lies 20 = .ok (.ifCond .ne 5, 3) := by decide +kernel
theorem dX7_lies_23 : decode cX7_lies 23 = .ok (.iconst (-1), 1) := by decide +kernel
theorem dX7_lies_24 : decode cX7_lies 24 = .ok (.ireturn, 1) := by decide +kernel
theorem dX7_lies_25 : decode cX7_lies 25 = .ok (.aload_n 0, 1) := by decide +kernel
theorem dX7_lies_26 : decode cX7_lies 26 = .ok (.getfield 26, 3) := by decide +kernel
theorem dX7_lies_29 : decode cX7_lies 29 = .ok (.aload_n 0, 1) := by decide +kernel
theorem dX7_lies_30 : decode cX7_lies 30 = .ok (.getfield 10, 3) := by decide +kernel
theorem dX7_lies_33 : decode cX7_lies 33 = .ok (.iload_n 1, 1) := by decide +kernel
theorem dX7_lies_34 : decode cX7_lies 34 = .ok (.aload_n 0, 1) := by decide +kernel
theorem dX7_lies_35 : decode cX7_lies 35 = .ok (.getfield 10, 3) := by decide +kernel
theorem dX7_lies_38 : decode cX7_lies 38 = .ok (.iconst 2, 1) := by decide +kernel
theorem dX7_lies_39 : decode cX7_lies 39 = .ok (.invokevirtual 159, 3) := by decide +kernel
theorem dX7_lies_42 : decode cX7_lies 42 = .ok (.invokevirtual 162, 3) := by decide +kernel
theorem dX7_lies_45 : decode cX7_lies 45 = .ok (.iload 4, 2) := by decide +kernel
theorem dX7_lies_47 : decode cX7_lies 47 = .ok (.tableswitch 84 0 4 #[33, 43, 53, 63, 74], 33) := by decide +kernel
theorem dX7_lies_80 : decode cX7_lies 80 = .ok (.aload_n 0, 1) := by decide +kernel
theorem dX7_lies_81 : decode cX7_lies 81 = .ok (.getfield 26, 3) := by decide +kernel
theorem dX7_lies_84 : decode cX7_lies 84 = .ok (.iload_n 2, 1) := by decide +kernel
theorem dX7_lies_85 : decode cX7_lies 85 = .ok (.iload_n 3, 1) := by decide +kernel
theorem dX7_lies_86 : decode cX7_lies 86 = .ok (.invokevirtual 166, 3) := by decide +kernel
theorem dX7_lies_89 : decode cX7_lies 89 = .ok (.ireturn, 1) := by decide +kernel
theorem dX7_lies_90 : decode cX7_lies 90 = .ok (.aload_n 0, 1) := by decide +kernel
theorem dX7_lies_91 : decode cX7_lies 91 = .ok (.getfield 26, 3) := by decide +kernel
theorem dX7_lies_94 : decode cX7_lies 94 = .ok (.iload_n 2, 1) := by decide +kernel
theorem dX7_lies_95 : decode cX7_lies 95 = .ok (.iload_n 3, 1) := by decide +kernel
theorem dX7_lies_96 : decode cX7_lies 96 = .ok (.invokevirtual 169, 3) := by decide +kernel
theorem dX7_lies_99 : decode cX7_lies 99 = .ok (.ireturn, 1) := by decide +kernel
theorem dX7_lies_100 : decode cX7_lies 100 = .ok (.aload_n 0, 1) := by decide +kernel
theorem dX7_lies_101 : decode cX7_lies 101 = .ok (.getfield 26, 3) := by decide +kernel
theorem dX7_lies_104 : decode cX7_lies 104 = .ok (.iload_n 2, 1) := by decide +kernel
theorem dX7_lies_105 : decode cX7_lies 105 = .ok (.iload_n 3, 1) := by decide +kernel
theorem dX7_lies_106 : decode cX7_lies 106 = .ok (.invokevirtual 172, 3) := by decide +kernel
theorem dX7_lies_109 : decode cX7_lies 109 = .ok (.ireturn, 1) := by decide +kernel
theorem dX7_lies_110 : decode cX7_lies 110 = .ok (.aload_n 0, 1) := by decide +kernel
theorem dX7_lies_111 : decode cX7_lies 111 = .ok (.getfield 10, 3) := by decide +kernel
theorem dX7_lies_114 : decode cX7_lies 114 = .ok (.iload_n 1, 1) := by decide +kernel
theorem dX7_lies_115 : decode cX7_lies 115 = .ok (.iload_n 2, 1) := by decide +kernel
theorem dX7_lies_116 : decode cX7_lies 116 = .ok (.iload_n 3, 1) := by decide +kernel
theorem dX7_lies_117 : decode cX7_lies 117 = .ok (.invokevirtual 175, 3) := by decide +kernel
theorem dX7_lies_120 : decode cX7_lies 120 = .ok (.ireturn, 1) := by decide +kernel
theorem dX7_lies_121 : decode cX7_lies 121 = .ok (.aload_n 0, 1) := by decide +kernel
theorem dX7_lies_122 : decode cX7_lies 122 = .ok (.getfield 26, 3) := by decide +kernel
theorem dX7_lies_125 : decode cX7_lies 125 = .ok (.iload_n 2, 1) := by decide +kernel
theorem dX7_lies_126 : decode cX7_lies 126 = .ok (.iload_n 3, 1) := by decide +kernel
theorem dX7_lies_127 : decode cX7_lies 127 = .ok (.invokevirtual 178, 3) := by decide +kernel
theorem dX7_lies_130 : decode cX7_lies 130 = .ok (.ireturn, 1) := by decide +kernel
theorem dX7_lies_131 : decode cX7_lies 131 = .ok (.iconst (-1), 1) := by decide +kernel
theorem dX7_lies_132 : decode cX7_lies 132 = .ok (.ireturn, 1) := by decide +kernel
theorem dX7_markAt_0 : decode cX7_markAt 0 = .ok (.aload_n 0, 1) := by decide +kernel
theorem dX7_markAt_1 : decode cX7_markAt 1 = .ok (.getfield 10, 3) := by decide +kernel
theorem dX7_markAt_4 : decode cX7_markAt 4 = .ok (.iload_n 1, 1) := by decide +kernel
theorem dX7_markAt_5 : decode cX7_markAt 5 = .ok (.invokevirtual 84, 3) := by decide +kernel
theorem dX7_markAt_8 : decode cX7_markAt 8 = .ok (.ifCond .eq 17, 3) := by decide +kernel
theorem dX7_markAt_11 : decode cX7_markAt 11 = .ok (.iload_n 2, 1) := by decide +kernel
theorem dX7_markAt_12 : decode cX7_markAt 12 = .ok (.ifCond .lt 13, 3) := by decide +kernel
theorem dX7_markAt_15 : decode cX7_markAt 15 = .ok (.iload 5, 2) := by decide +kernel
theorem dX7_markAt_17 : decode cX7_markAt 17 = .ok (.iconst 0, 1) := by decide +kernel
theorem dX7_markAt_18 : decode cX7_markAt 18 = .ok (.iconst 1, 1) := by decide +kernel
theorem dX7_markAt_19 : decode cX7_markAt 19 = .ok (.invokestatic 51, 3) := by decide +kernel
theorem dX7_markAt_22 : decode cX7_markAt 22 = .ok (.ifCond .ne 5, 3) := by decide +kernel
theorem dX7_markAt_25 : decode cX7_markAt 25 = .ok (.iconst (-1), 1) := by decide +kernel
theorem dX7_markAt_26 : decode cX7_markAt 26 = .ok (.ireturn, 1) := by decide +kernel
theorem dX7_markAt_27 : decode cX7_markAt 27 = .ok (.iload_n 3, 1) := by decide +kernel
theorem dX7_markAt_28 : decode cX7_markAt 28 = .ok (.iconst 0, 1) := by decide +kernel
theorem dX7_markAt_29 : decode cX7_markAt 29 = .ok (.aload_n 0, 1) := by decide +kernel
theorem dX7_markAt_30 : decode cX7_markAt 30 = .ok (.getfield 10, 3) := by decide +kernel
theorem dX7_markAt_33 : decode cX7_markAt 33 = .ok (.iconst 0, 1) := by decide +kernel
theorem dX7_markAt_34 : decode cX7_markAt 34 = .ok (.invokevirtual 159, 3) := by decide +kernel
theorem dX7_markAt_37 : decode cX7_markAt 37 = .ok (.iconst 1, 1) := by decide +kernel
theorem dX7_markAt_38 : decode cX7_markAt 38 = .ok (.isub, 1) := by decide +kernel
theorem dX7_markAt_39 : decode cX7_markAt 39 = .ok (.invokestatic 51, 3) := by decide +kernel
theorem dX7_markAt_42 : decode cX7_markAt 42 = .ok (.ifCond .eq 22, 3) := by decide +kernel
theorem dX7_markAt_45 : decode cX7_markAt 45 = .ok (.iload 4, 2) := by decide +kernel
theorem dX7_markAt_47 : decode cX7_markAt 47 = .ok (.iconst 0, 1) := by decide +kernel
theorem dX7_markAt_48 : decode cX7_markAt 48 = .ok (.aload_n 0, 1) := by decide +kernel
theorem dX7_markAt_49 : decode cX7_markAt 49 = .ok (.getfield 10, 3) := by decide +kernel
theorem dX7_markAt_52 : decode cX7_markAt 52 = .ok (.iconst 1, 1) := by decide +kernel
theorem dX7_markAt_53 : decode cX7_markAt 53 = .ok (.invokevirtual 159, 3) := by decide +kernel
theorem dX7_markAt_56 : decode cX7_markAt 56 = .ok (.iconst 1, 1) := by decide +kernel
theorem dX7_markAt_57 : decode cX7_markAt 57 = .ok (.isub, 1) := by decide +kernel
theorem dX7_markAt_58 : decode cX7_markAt 58 = .ok (.invokestatic 51, 3) := by decide +kernel
theorem dX7_markAt_61 : decode cX7_markAt 61 = .ok (.ifCond .ne 5, 3) := by decide +kernel
theorem dX7_markAt_64 : decode cX7_markAt 64 = .ok (.iconst (-1), 1) := by decide +kernel
theorem dX7_markAt_65 : decode cX7_markAt 65 = .ok (.ireturn, 1) := by decide +kernel
theorem dX7_markAt_66 : decode cX7_markAt 66 = .ok (.aload_n 0, 1) := by decide +kernel
theorem dX7_markAt_67 : decode cX7_markAt 67 = .ok (.getfield 26, 3) := by decide +kernel
theorem dX7_markAt_70 : decode cX7_markAt 70 = .ok (.aload_n 0, 1) := by decide +kernel
theorem dX7_markAt_71 : decode cX7_markAt 71 = .ok (.getfield 10, 3) := by decide +kernel
theorem dX7_markAt_74 : decode cX7_markAt 74 = .ok (.iload_n 1, 1) := by decide +kernel
theorem dX7_markAt_75 : decode cX7_markAt 75 = .ok (.aload_n 0, 1) := by decide +kernel
theorem dX7_markAt_76 : decode cX7_markAt 76 = .ok (.getfield 10, 3) := by decide +kernel
theorem dX7_markAt_79 : decode cX7_markAt 79 = .ok (.iconst 2, 1) := by decide +kernel
theorem dX7_markAt_80 : decode cX7_markAt 80 = .ok (.invokevirtual 159, 3) := by decide +kernel
theorem dX7_markAt_83 : decode cX7_markAt 83 = .ok (.invokevirtual 162, 3) := by decide +kernel
theorem dX7_markAt_86 : decode cX7_markAt 86 = .ok (.iconst 0, 1) := by decide +kernel
theorem dX7_markAt_87 : decode cX7_markAt 87 = .ok (.istore 6, 2) := by decide +kernel
theorem dX7_markAt_89 : decode cX7_markAt 89 = .ok (.iload 6, 2) := by decide +kernel
theorem dX7_markAt_91 : decode cX7_markAt 91 = .ok (.aload_n 0, 1) := by decide +kernel
theorem dX7_markAt_92 : decode cX7_markAt 92 = .ok (.getfield 10, 3) := by decide +kernel
theorem dX7_markAt_95 : decode cX7_markAt 95 = .ok (.invokevirtual 55, 3) := by decide +kernel
theorem dX7_markAt_98 : decode cX7_markAt 98 = .ok (.if_icmp .ge 43, 3) := by decide +kernel
theorem dX7_markAt_101 : decode cX7_markAt 101 = .ok (.aload_n 0, 1) := by decide +kernel
theorem dX7_markAt_102 : decode cX7_markAt 102 = .ok (.getfield 26, 3) := by decide +kernel
theorem dX7_markAt_105 : decode cX7_markAt 105 = .ok (.iload 6, 2) := by decide +kernel
theorem dX7_markAt_107 : decode cX7_markAt 107 = .ok (.iload_n 2, 1) := by decide +kernel
theorem dX7_markAt_108 : decode cX7_markAt 108 = .ok (.iload_n 3, 1) := by decide +kernel
theorem dX7_markAt_109 : decode cX7_markAt 109 = .ok (.iload 4, 2) := by decide +kernel
theorem dX7_markAt_111 : decode cX7_markAt 111 = .ok (.invokevirtual 181, 3) := by decide +kernel
theorem dX7_markAt_114 : decode cX7_markAt 114 = .ok (.istore 7, 2) := by decide +kernel
theorem dX7_markAt_116 : decode cX7_markAt 116 = .ok (.iload 7, 2) := by decide +kernel
theorem dX7_markAt_118 : decode cX7_markAt 118 = .ok (.iconst (-1), 1) := by decide +kernel
theorem dX7_markAt_119 : decode cX7_markAt 119 = .ok (.if_icmp .eq 16, 3) := by decide +kernel
theorem dX7_markAt_122 : decode cX7_markAt 122 = .ok (.iload 5, 2) := by decide +kernel
theorem dX7_markAt_124 : decode cX7_markAt 124 = .ok (.ifCond .ne 8, 3) := by decide +kernel
theorem dX7_markAt_127 : decode cX7_markAt 127 = .ok (.iload 6, 2) := by decide +kernel
theorem dX7_markAt_129 : decode cX7_markAt 129 = .ok (.goto 5, 3) := by decide +kernel
theorem dX7_markAt_132 : decode cX7_markAt 132 = .ok (.iload 7, 2) := by decide +kernel
theorem dX7_markAt_134 : decode cX7_markAt 134 = .ok (.ireturn, 1) := by decide +kernel
theorem dX7_markAt_135 : decode cX7_markAt 135 = .ok (.iinc 6 1, 3) := by decide +kernel
theorem dX7_markAt_138 : decode cX7_markAt 138 = .ok (.goto (-49), 3) := by decide +kernel
theorem dX7_markAt_141 : decode cX7_markAt 141 = .ok (.bipush (-4), 2) := by decide +kernel
theorem dX7_markAt_143 : decode cX7_markAt 143 = .ok (.ireturn, 1) := by decide +kernel
theorem dX7_paper_0 : decode cX7_paper 0 = .ok (.aload_n 0, 1) := by decide +kernel
theorem dX7_paper_1 : decode cX7_paper 1 = .ok (.getfield 10, 3) := by decide +kernel
theorem dX7_paper_4 : decode cX7_paper 4 = .ok (.iload_n 1, 1) := by decide +kernel
theorem dX7_paper_5 : decode cX7_paper 5 = .ok (.invokevirtual 84, 3) := by decide +kernel
theorem dX7_paper_8 : decode cX7_paper 8 = .ok (.ifCond .ne 5, 3) := by decide +kernel
theorem dX7_paper_11 : decode cX7_paper 11 = .ok (.iconst (-1), 1) := by decide +kernel
theorem dX7_paper_12 : decode cX7_paper 12 = .ok (.ireturn, 1) := by decide +kernel
theorem dX7_paper_13 : decode cX7_paper 13 = .ok (.aload_n 0, 1) := by decide +kernel
theorem dX7_paper_14 : decode cX7_paper 14 = .ok (.getfield 26, 3) := by decide +kernel
theorem dX7_paper_17 : decode cX7_paper 17 = .ok (.aload_n 0, 1) := by decide +kernel
theorem dX7_paper_18 : decode cX7_paper 18 = .ok (.getfield 10, 3) := by decide +kernel
theorem dX7_paper_21 : decode cX7_paper 21 = .ok (.iload_n 1, 1) := by decide +kernel
theorem dX7_paper_22 : decode cX7_paper 22 = .ok (.aload_n 0, 1) := by decide +kernel
theorem dX7_paper_23 : decode cX7_paper 23 = .ok (.getfield 10, 3) := by decide +kernel
theorem dX7_paper_26 : decode cX7_paper 26 = .ok (.iconst 2, 1) := by decide +kernel
theorem dX7_paper_27 : decode cX7_paper 27 = .ok (.invokevirtual 159, 3) := by decide +kernel
theorem dX7_paper_30 : decode cX7_paper 30 = .ok (.invokevirtual 162, 3) := by decide +kernel
theorem dX7_paper_33 : decode cX7_paper 33 = .ok (.iload_n 2, 1) := by decide +kernel
theorem dX7_paper_34 : decode cX7_paper 34 = .ok (.tableswitch 74 0 4 #[34, 42, 50, 58, 66], 34) := by decide +kernel
theorem dX7_paper_68 : decode cX7_paper 68 = .ok (.aload_n 0, 1) := by decide +kernel
theorem dX7_paper_69 : decode cX7_paper 69 = .ok (.getfield 26, 3) := by decide +kernel
theorem dX7_paper_72 : decode cX7_paper 72 = .ok (.invokevirtual 185, 3) := by decide +kernel
theorem dX7_paper_75 : decode cX7_paper 75 = .ok (.ireturn, 1) := by decide +kernel
theorem dX7_paper_76 : decode cX7_paper 76 = .ok (.aload_n 0, 1) := by decide +kernel
theorem dX7_paper_77 : decode cX7_paper 77 = .ok (.getfield 26, 3) := by decide +kernel
theorem dX7_paper_80 : decode cX7_paper 80 = .ok (.invokevirtual 188, 3) := by decide +kernel
theorem dX7_paper_83 : decode cX7_paper 83 = .ok (.ireturn, 1) := by decide +kernel
theorem dX7_paper_84 : decode cX7_paper 84 = .ok (.aload_n 0, 1) := by decide +kernel
theorem dX7_paper_85 : decode cX7_paper 85 = .ok (.getfield 26, 3) := by decide +kernel
theorem dX7_paper_88 : decode cX7_paper 88 = .ok (.invokevirtual 191, 3) := by decide +kernel
theorem dX7_paper_91 : decode cX7_paper 91 = .ok (.ireturn, 1) := by decide +kernel
theorem dX7_paper_92 : decode cX7_paper 92 = .ok (.aload_n 0, 1) := by decide +kernel
theorem dX7_paper_93 : decode cX7_paper 93 = .ok (.getfield 26, 3) := by decide +kernel
theorem dX7_paper_96 : decode cX7_paper 96 = .ok (.invokevirtual 194, 3) := by decide +kernel
theorem dX7_paper_99 : decode cX7_paper 99 = .ok (.ireturn, 1) := by decide +kernel
theorem dX7_paper_100 : decode cX7_paper 100 = .ok (.aload_n 0, 1) := by decide +kernel
theorem dX7_paper_101 : decode cX7_paper 101 = .ok (.getfield 26, 3) := by decide +kernel
theorem dX7_paper_104 : decode cX7_paper 104 = .ok (.invokevirtual 197, 3) := by decide +kernel
theorem dX7_paper_107 : decode cX7_paper 107 = .ok (.ireturn, 1) := by decide +kernel
theorem dX7_paper_108 : decode cX7_paper 108 = .ok (.iconst (-1), 1) := by decide +kernel
theorem dX7_paper_109 : decode cX7_paper 109 = .ok (.ireturn, 1) := by decide +kernel
theorem dX7_spread_0 : decode cX7_spread 0 = .ok (.aload_n 0, 1) := by decide +kernel
theorem dX7_spread_1 : decode cX7_spread 1 = .ok (.getfield 10, 3) := by decide +kernel
theorem dX7_spread_4 : decode cX7_spread 4 = .ok (.iload_n 1, 1) := by decide +kernel
theorem dX7_spread_5 : decode cX7_spread 5 = .ok (.invokevirtual 67, 3) := by decide +kernel
theorem dX7_spread_8 : decode cX7_spread 8 = .ok (.ifCond .ne 5, 3) := by decide +kernel
theorem dX7_spread_11 : decode cX7_spread 11 = .ok (.iconst (-1), 1) := by decide +kernel
theorem dX7_spread_12 : decode cX7_spread 12 = .ok (.ireturn, 1) := by decide +kernel
theorem dX7_spread_13 : decode cX7_spread 13 = .ok (.aload_n 0, 1) := by decide +kernel
theorem dX7_spread_14 : decode cX7_spread 14 = .ok (.getfield 10, 3) := by decide +kernel
theorem dX7_spread_17 : decode cX7_spread 17 = .ok (.iload_n 1, 1) := by decide +kernel
theorem dX7_spread_18 : decode cX7_spread 18 = .ok (.invokevirtual 74, 3) := by decide +kernel
theorem dX7_spread_21 : decode cX7_spread 21 = .ok (.ifCond .ne 6, 3) := by decide +kernel
theorem dX7_spread_24 : decode cX7_spread 24 = .ok (.bipush (-4), 2) := by decide +kernel
theorem dX7_spread_26 : decode cX7_spread 26 = .ok (.ireturn, 1) := by decide +kernel
theorem dX7_spread_27 : decode cX7_spread 27 = .ok (.aload_n 0, 1) := by decide +kernel
theorem dX7_spread_28 : decode cX7_spread 28 = .ok (.getfield 33, 3) := by decide +kernel
theorem dX7_spread_31 : decode cX7_spread 31 = .ok (.aload_n 0, 1) := by decide +kernel
theorem dX7_spread_32 : decode cX7_spread 32 = .ok (.getfield 10, 3) := by decide +kernel
theorem dX7_spread_35 : decode cX7_spread 35 = .ok (.iload_n 1, 1) := by decide +kernel
theorem dX7_spread_36 : decode cX7_spread 36 = .ok (.invokevirtual 127, 3) := by decide +kernel
theorem dX7_spread_39 : decode cX7_spread 39 = .ok (.aload_n 0, 1) := by decide +kernel
theorem dX7_spread_40 : decode cX7_spread 40 = .ok (.getfield 33, 3) := by decide +kernel
theorem dX7_spread_43 : decode cX7_spread 43 = .ok (.aload_n 0, 1) := by decide +kernel
theorem dX7_spread_44 : decode cX7_spread 44 = .ok (.getfield 10, 3) := by decide +kernel
theorem dX7_spread_47 : decode cX7_spread 47 = .ok (.iload_n 1, 1) := by decide +kernel
theorem dX7_spread_48 : decode cX7_spread 48 = .ok (.invokevirtual 74, 3) := by decide +kernel
theorem dX7_spread_51 : decode cX7_spread 51 = .ok (.invokevirtual 200, 3) := by decide +kernel
theorem dX7_spread_54 : decode cX7_spread 54 = .ok (.ireturn, 1) := by decide +kernel
theorem dX7_evenVersions_0 : decode cX7_evenVersions 0 = .ok (.iconst 1, 1) := by decide +kernel
theorem dX7_evenVersions_1 : decode cX7_evenVersions 1 = .ok (.istore_n 1, 1) := by decide +kernel
theorem dX7_evenVersions_2 : decode cX7_evenVersions 2 = .ok (.iload_n 1, 1) := by decide +kernel
theorem dX7_evenVersions_3 : decode cX7_evenVersions 3 = .ok (.bipush 24, 2) := by decide +kernel
theorem dX7_evenVersions_5 : decode cX7_evenVersions 5 = .ok (.if_icmp .gt 19, 3) := by decide +kernel
theorem dX7_evenVersions_8 : decode cX7_evenVersions 8 = .ok (.aload_n 0, 1) := by decide +kernel
theorem dX7_evenVersions_9 : decode cX7_evenVersions 9 = .ok (.iload_n 1, 1) := by decide +kernel
theorem dX7_evenVersions_10 : decode cX7_evenVersions 10 = .ok (.invokevirtual 203, 3) := by decide +kernel
theorem dX7_evenVersions_13 : decode cX7_evenVersions 13 = .ok (.ifCond .eq 5, 3) := by decide +kernel
theorem dX7_evenVersions_16 : decode cX7_evenVersions 16 = .ok (.iload_n 1, 1) := by decide +kernel
theorem dX7_evenVersions_17 : decode cX7_evenVersions 17 = .ok (.ireturn, 1) := by decide +kernel
theorem dX7_evenVersions_18 : decode cX7_evenVersions 18 = .ok (.iinc 1 1, 3) := by decide +kernel
theorem dX7_evenVersions_21 : decode cX7_evenVersions 21 = .ok (.goto (-19), 3) := by decide +kernel
theorem dX7_evenVersions_24 : decode cX7_evenVersions 24 = .ok (.bipush (-4), 2) := by decide +kernel
theorem dX7_evenVersions_26 : decode cX7_evenVersions 26 = .ok (.ireturn, 1) := by decide +kernel
theorem dX7_bestWidth_0 : decode cX7_bestWidth 0 = .ok (.iload_n 1, 1) := by decide +kernel
theorem dX7_bestWidth_1 : decode cX7_bestWidth 1 = .ok (.iconst 0, 1) := by decide +kernel
theorem dX7_bestWidth_2 : decode cX7_bestWidth 2 = .ok (.iconst 1, 1) := by decide +kernel
theorem dX7_bestWidth_3 : decode cX7_bestWidth 3 = .ok (.invokestatic 51, 3) := by decide +kernel
theorem dX7_bestWidth_6 : decode cX7_bestWidth 6 = .ok (.ifCond .ne 5, 3) := by decide +kernel
theorem dX7_bestWidth_9 : decode cX7_bestWidth 9 = .ok (.iconst (-1), 1) := by decide +kernel
theorem dX7_bestWidth_10 : decode cX7_bestWidth 10 = .ok (.ireturn, 1) := by decide +kernel
theorem dX7_bestWidth_11 : decode cX7_bestWidth 11 = .ok (.bipush 8, 2) := by decide +kernel
theorem dX7_bestWidth_13 : decode cX7_bestWidth 13 = .ok (.istore_n 2, 1) := by decide +kernel
theorem dX7_bestWidth_14 : decode cX7_bestWidth 14 = .ok (.aload_n 0, 1) := by decide +kernel
theorem dX7_bestWidth_15 : decode cX7_bestWidth 15 = .ok (.bipush 8, 2) := by decide +kernel
theorem dX7_bestWidth_17 : decode cX7_bestWidth 17 = .ok (.invokevirtual 206, 3) := by decide +kernel
theorem dX7_bestWidth_20 : decode cX7_bestWidth 20 = .ok (.istore_n 3, 1) := by decide +kernel
theorem dX7_bestWidth_21 : decode cX7_bestWidth 21 = .ok (.bipush 9, 2) := by decide +kernel
theorem dX7_bestWidth_23 : decode cX7_bestWidth 23 = .ok (.istore 4, 2) := by decide +kernel
theorem dX7_bestWidth_25 : decode cX7_bestWidth 25 = .ok (.iload 4, 2) := by decide +kernel
theorem dX7_bestWidth_27 : decode cX7_bestWidth 27 = .ok (.bipush 40, 2) := by decide +kernel
theorem dX7_bestWidth_29 : decode cX7_bestWidth 29 = .ok (.if_icmp .gt 29, 3) := by decide +kernel
theorem dX7_bestWidth_32 : decode cX7_bestWidth 32 = .ok (.aload_n 0, 1) := by decide +kernel
theorem dX7_bestWidth_33 : decode cX7_bestWidth 33 = .ok (.iload 4, 2) := by decide +kernel
theorem dX7_bestWidth_35 : decode cX7_bestWidth 35 = .ok (.invokevirtual 206, 3) := by decide +kernel
theorem dX7_bestWidth_38 : decode cX7_bestWidth 38 = .ok (.istore 5, 2) := by decide +kernel
theorem dX7_bestWidth_40 : decode cX7_bestWidth 40 = .ok (.iload 5, 2) := by decide +kernel
theorem dX7_bestWidth_42 : decode cX7_bestWidth 42 = .ok (.iload_n 3, 1) := by decide +kernel
theorem dX7_bestWidth_43 : decode cX7_bestWidth 43 = .ok (.if_icmp .ge 9, 3) := by decide +kernel
theorem dX7_bestWidth_46 : decode cX7_bestWidth 46 = .ok (.iload 4, 2) := by decide +kernel
theorem dX7_bestWidth_48 : decode cX7_bestWidth 48 = .ok (.istore_n 2, 1) := by decide +kernel
theorem dX7_bestWidth_49 : decode cX7_bestWidth 49 = .ok (.iload 5, 2) := by decide +kernel
theorem dX7_bestWidth_51 : decode cX7_bestWidth 51 = .ok (.istore_n 3, 1) := by decide +kernel
theorem dX7_bestWidth_52 : decode cX7_bestWidth 52 = .ok (.iinc 4 1, 3) := by decide +kernel
theorem dX7_bestWidth_55 : decode cX7_bestWidth 55 = .ok (.goto (-30), 3) := by decide +kernel
theorem dX7_bestWidth_58 : decode cX7_bestWidth 58 = .ok (.iload_n 1, 1) := by decide +kernel
theorem dX7_bestWidth_59 : decode cX7_bestWidth 59 = .ok (.ifCond .ne 7, 3) := by decide +kernel
theorem dX7_bestWidth_62 : decode cX7_bestWidth 62 = .ok (.iload_n 2, 1) := by decide +kernel
theorem dX7_bestWidth_63 : decode cX7_bestWidth 63 = .ok (.goto 4, 3) := by decide +kernel
theorem dX7_bestWidth_66 : decode cX7_bestWidth 66 = .ok (.iload_n 3, 1) := by decide +kernel
theorem dX7_bestWidth_67 : decode cX7_bestWidth 67 = .ok (.ireturn, 1) := by decide +kernel
theorem dX7_undo_0 : decode cX7_undo 0 = .ok (.aload_n 0, 1) := by decide +kernel
theorem dX7_undo_1 : decode cX7_undo 1 = .ok (.getfield 19, 3) := by decide +kernel
theorem dX7_undo_4 : decode cX7_undo 4 = .ok (.invokevirtual 143, 3) := by decide +kernel
theorem dX7_undo_7 : decode cX7_undo 7 = .ok (.ifCond .ne 6, 3) := by decide +kernel
theorem dX7_undo_10 : decode cX7_undo 10 = .ok (.bipush (-2), 2) := by decide +kernel
theorem dX7_undo_12 : decode cX7_undo 12 = .ok (.ireturn, 1) := by decide +kernel
theorem dX7_undo_13 : decode cX7_undo 13 = .ok (.aload_n 0, 1) := by decide +kernel
theorem dX7_undo_14 : decode cX7_undo 14 = .ok (.getfield 19, 3) := by decide +kernel
theorem dX7_undo_17 : decode cX7_undo 17 = .ok (.aload_n 0, 1) := by decide +kernel
theorem dX7_undo_18 : decode cX7_undo 18 = .ok (.getfield 10, 3) := by decide +kernel
theorem dX7_undo_21 : decode cX7_undo 21 = .ok (.invokevirtual 209, 3) := by decide +kernel
theorem dX7_undo_24 : decode cX7_undo 24 = .ok (.aload_n 0, 1) := by decide +kernel
theorem dX7_undo_25 : decode cX7_undo 25 = .ok (.getfield 19, 3) := by decide +kernel
theorem dX7_undo_28 : decode cX7_undo 28 = .ok (.invokevirtual 143, 3) := by decide +kernel
theorem dX7_undo_31 : decode cX7_undo 31 = .ok (.ireturn, 1) := by decide +kernel
theorem dX7_type_0 : decode cX7_type 0 = .ok (.iload_n 1, 1) := by decide +kernel
theorem dX7_type_1 : decode cX7_type 1 = .ok (.bipush 32, 2) := by decide +kernel
theorem dX7_type_3 : decode cX7_type 3 = .ok (.bipush 126, 2) := by decide +kernel
theorem dX7_type_5 : decode cX7_type 5 = .ok (.invokestatic 51, 3) := by decide +kernel
theorem dX7_type_8 : decode cX7_type 8 = .ok (.ifCond .ne 5, 3) := by decide +kernel
theorem dX7_type_11 : decode cX7_type 11 = .ok (.iconst (-1), 1) := by decide +kernel
theorem dX7_type_12 : decode cX7_type 12 = .ok (.ireturn, 1) := by decide +kernel
theorem dX7_type_13 : decode cX7_type 13 = .ok (.aload_n 0, 1) := by decide +kernel
theorem dX7_type_14 : decode cX7_type 14 = .ok (.getfield 40, 3) := by decide +kernel
theorem dX7_type_17 : decode cX7_type 17 = .ok (.invokevirtual 146, 3) := by decide +kernel
theorem dX7_type_20 : decode cX7_type 20 = .ok (.bipush 40, 2) := by decide +kernel
theorem dX7_type_22 : decode cX7_type 22 = .ok (.if_icmp .lt 6, 3) := by decide +kernel
theorem dX7_type_25 : decode cX7_type 25 = .ok (.bipush (-3), 2) := by decide +kernel
theorem dX7_type_27 : decode cX7_type 27 = .ok (.ireturn, 1) := by decide +kernel
theorem dX7_type_28 : decode cX7_type 28 = .ok (.aload_n 0, 1) := by decide +kernel
theorem dX7_type_29 : decode cX7_type 29 = .ok (.getfield 40, 3) := by decide +kernel
theorem dX7_type_32 : decode cX7_type 32 = .ok (.iload_n 1, 1) := by decide +kernel
theorem dX7_type_33 : decode cX7_type 33 = .ok (.invokevirtual 212, 3) := by decide +kernel
theorem dX7_type_36 : decode cX7_type 36 = .ok (.ireturn, 1) := by decide +kernel
theorem dX7_clearText_0 : decode cX7_clearText 0 = .ok (.aload_n 0, 1) := by decide +kernel
theorem dX7_clearText_1 : decode cX7_clearText 1 = .ok (.getfield 40, 3) := by decide +kernel
theorem dX7_clearText_4 : decode cX7_clearText 4 = .ok (.invokevirtual 215, 3) := by decide +kernel
theorem dX7_clearText_7 : decode cX7_clearText 7 = .ok (.ireturn, 1) := by decide +kernel
theorem dX7_fault_0 : decode cX7_fault 0 = .ok (.iload_n 1, 1) := by decide +kernel
theorem dX7_fault_1 : decode cX7_fault 1 = .ok (.iconst 0, 1) := by decide +kernel
theorem dX7_fault_2 : decode cX7_fault 2 = .ok (.iconst 1, 1) := by decide +kernel
theorem dX7_fault_3 : decode cX7_fault 3 = .ok (.invokestatic 51, 3) := by decide +kernel
theorem dX7_fault_6 : decode cX7_fault 6 = .ok (.ifCond .ne 5, 3) := by decide +kernel
theorem dX7_fault_9 : decode cX7_fault 9 = .ok (.iconst (-1), 1) := by decide +kernel
theorem dX7_fault_10 : decode cX7_fault 10 = .ok (.ireturn, 1) := by decide +kernel
theorem dX7_fault_11 : decode cX7_fault 11 = .ok (.aload_n 0, 1) := by decide +kernel
theorem dX7_fault_12 : decode cX7_fault 12 = .ok (.getfield 47, 3) := by decide +kernel
theorem dX7_fault_15 : decode cX7_fault 15 = .ok (.aload_n 0, 1) := by decide +kernel
theorem dX7_fault_16 : decode cX7_fault 16 = .ok (.getfield 40, 3) := by decide +kernel
theorem dX7_fault_19 : decode cX7_fault 19 = .ok (.aload_n 0, 1) := by decide +kernel
theorem dX7_fault_20 : decode cX7_fault 20 = .ok (.getfield 10, 3) := by decide +kernel
theorem dX7_fault_23 : decode cX7_fault 23 = .ok (.invokevirtual 218, 3) := by decide +kernel
theorem dX7_fault_26 : decode cX7_fault 26 = .ok (.aload_n 0, 1) := by decide +kernel
theorem dX7_fault_27 : decode cX7_fault 27 = .ok (.getfield 47, 3) := by decide +kernel
theorem dX7_fault_30 : decode cX7_fault 30 = .ok (.invokevirtual 222, 3) := by decide +kernel
theorem dX7_fault_33 : decode cX7_fault 33 = .ok (.ifCond .ne 6, 3) := by decide +kernel
theorem dX7_fault_36 : decode cX7_fault 36 = .ok (.bipush (-4), 2) := by decide +kernel
theorem dX7_fault_38 : decode cX7_fault 38 = .ok (.ireturn, 1) := by decide +kernel
theorem dX7_fault_39 : decode cX7_fault 39 = .ok (.iload_n 1, 1) := by decide +kernel
theorem dX7_fault_40 : decode cX7_fault 40 = .ok (.ifCond .ne 13, 3) := by decide +kernel
theorem dX7_fault_43 : decode cX7_fault 43 = .ok (.aload_n 0, 1) := by decide +kernel
theorem dX7_fault_44 : decode cX7_fault 44 = .ok (.getfield 47, 3) := by decide +kernel
theorem dX7_fault_47 : decode cX7_fault 47 = .ok (.invokevirtual 225, 3) := by decide +kernel
theorem dX7_fault_50 : decode cX7_fault 50 = .ok (.goto 10, 3) := by decide +kernel
theorem dX7_fault_53 : decode cX7_fault 53 = .ok (.aload_n 0, 1) := by decide +kernel
theorem dX7_fault_54 : decode cX7_fault 54 = .ok (.getfield 47, 3) := by decide +kernel
theorem dX7_fault_57 : decode cX7_fault 57 = .ok (.invokevirtual 222, 3) := by decide +kernel
theorem dX7_fault_60 : decode cX7_fault 60 = .ok (.ireturn, 1) := by decide +kernel
theorem dX7_cast_0 : decode cX7_cast 0 = .ok (.aload_n 0, 1) := by decide +kernel
theorem dX7_cast_1 : decode cX7_cast 1 = .ok (.getfield 47, 3) := by decide +kernel
theorem dX7_cast_4 : decode cX7_cast 4 = .ok (.aload_n 0, 1) := by decide +kernel
theorem dX7_cast_5 : decode cX7_cast 5 = .ok (.getfield 40, 3) := by decide +kernel
theorem dX7_cast_8 : decode cX7_cast 8 = .ok (.aload_n 0, 1) := by decide +kernel
theorem dX7_cast_9 : decode cX7_cast 9 = .ok (.getfield 10, 3) := by decide +kernel
theorem dX7_cast_12 : decode cX7_cast 12 = .ok (.invokevirtual 218, 3) := by decide +kernel
theorem dX7_cast_15 : decode cX7_cast 15 = .ok (.aload_n 0, 1) := by decide +kernel
theorem dX7_cast_16 : decode cX7_cast 16 = .ok (.getfield 47, 3) := by decide +kernel
theorem dX7_cast_19 : decode cX7_cast 19 = .ok (.invokevirtual 222, 3) := by decide +kernel
theorem dX7_cast_22 : decode cX7_cast 22 = .ok (.ifCond .eq 6, 3) := by decide +kernel
theorem dX7_cast_25 : decode cX7_cast 25 = .ok (.bipush (-2), 2) := by decide +kernel
theorem dX7_cast_27 : decode cX7_cast 27 = .ok (.ireturn, 1) := by decide +kernel
theorem dX7_cast_28 : decode cX7_cast 28 = .ok (.aload_n 0, 1) := by decide +kernel
theorem dX7_cast_29 : decode cX7_cast 29 = .ok (.getfield 10, 3) := by decide +kernel
theorem dX7_cast_32 : decode cX7_cast 32 = .ok (.invokevirtual 71, 3) := by decide +kernel
theorem dX7_cast_35 : decode cX7_cast 35 = .ok (.sipush 9999, 3) := by decide +kernel
theorem dX7_cast_38 : decode cX7_cast 38 = .ok (.if_icmp .lt 6, 3) := by decide +kernel
theorem dX7_cast_41 : decode cX7_cast 41 = .ok (.bipush (-3), 2) := by decide +kernel
theorem dX7_cast_43 : decode cX7_cast 43 = .ok (.ireturn, 1) := by decide +kernel
theorem dX7_cast_44 : decode cX7_cast 44 = .ok (.aload_n 0, 1) := by decide +kernel
theorem dX7_cast_45 : decode cX7_cast 45 = .ok (.getfield 19, 3) := by decide +kernel
theorem dX7_cast_48 : decode cX7_cast 48 = .ok (.aload_n 0, 1) := by decide +kernel
theorem dX7_cast_49 : decode cX7_cast 49 = .ok (.getfield 10, 3) := by decide +kernel
theorem dX7_cast_52 : decode cX7_cast 52 = .ok (.invokevirtual 59, 3) := by decide +kernel
theorem dX7_cast_55 : decode cX7_cast 55 = .ok (.aload_n 0, 1) := by decide +kernel
theorem dX7_cast_56 : decode cX7_cast 56 = .ok (.getfield 47, 3) := by decide +kernel
theorem dX7_cast_59 : decode cX7_cast 59 = .ok (.aload_n 0, 1) := by decide +kernel
theorem dX7_cast_60 : decode cX7_cast 60 = .ok (.getfield 10, 3) := by decide +kernel
theorem dX7_cast_63 : decode cX7_cast 63 = .ok (.invokevirtual 228, 3) := by decide +kernel
theorem dX7_cast_66 : decode cX7_cast 66 = .ok (.ireturn, 1) := by decide +kernel
theorem dX7_settingOfCount_0 : decode cX7_settingOfCount 0 = .ok (.iload_n 1, 1) := by decide +kernel
theorem dX7_settingOfCount_1 : decode cX7_settingOfCount 1 = .ok (.bipush 10, 2) := by decide +kernel
theorem dX7_settingOfCount_3 : decode cX7_settingOfCount 3 = .ok (.bipush 15, 2) := by decide +kernel
theorem dX7_settingOfCount_5 : decode cX7_settingOfCount 5 = .ok (.invokestatic 51, 3) := by decide +kernel
theorem dX7_settingOfCount_8 : decode cX7_settingOfCount 8 = .ok (.ifCond .ne 5, 3) := by decide +kernel
theorem dX7_settingOfCount_11 : decode cX7_settingOfCount 11 = .ok (.iconst (-1), 1) := by decide +kernel
theorem dX7_settingOfCount_12 : decode cX7_settingOfCount 12 = .ok (.ireturn, 1) := by decide +kernel
theorem dX7_settingOfCount_13 : decode cX7_settingOfCount 13 = .ok (.aload_n 0, 1) := by decide +kernel
theorem dX7_settingOfCount_14 : decode cX7_settingOfCount 14 = .ok (.getfield 10, 3) := by decide +kernel
theorem dX7_settingOfCount_17 : decode cX7_settingOfCount 17 = .ok (.iload_n 1, 1) := by decide +kernel
theorem dX7_settingOfCount_18 : decode cX7_settingOfCount 18 = .ok (.bipush 10, 2) := by decide +kernel
theorem dX7_settingOfCount_20 : decode cX7_settingOfCount 20 = .ok (.isub, 1) := by decide +kernel
theorem dX7_settingOfCount_21 : decode cX7_settingOfCount 21 = .ok (.invokevirtual 159, 3) := by decide +kernel
theorem dX7_settingOfCount_24 : decode cX7_settingOfCount 24 = .ok (.ireturn, 1) := by decide +kernel
theorem dX7_areEven_0 : decode cX7_areEven 0 = .ok (.iconst 0, 1) := by decide +kernel
theorem dX7_areEven_1 : decode cX7_areEven 1 = .ok (.istore_n 2, 1) := by decide +kernel
theorem dX7_areEven_2 : decode cX7_areEven 2 = .ok (.iload_n 2, 1) := by decide +kernel
theorem dX7_areEven_3 : decode cX7_areEven 3 = .ok (.aload_n 0, 1) := by decide +kernel
theorem dX7_areEven_4 : decode cX7_areEven 4 = .ok (.getfield 10, 3) := by decide +kernel
theorem dX7_areEven_7 : decode cX7_areEven 7 = .ok (.invokevirtual 55, 3) := by decide +kernel
theorem dX7_areEven_10 : decode cX7_areEven 10 = .ok (.if_icmp .ge 42, 3) := by decide +kernel
theorem dX7_areEven_13 : decode cX7_areEven 13 = .ok (.aload_n 0, 1) := by decide +kernel
theorem dX7_areEven_14 : decode cX7_areEven 14 = .ok (.getfield 33, 3) := by decide +kernel
theorem dX7_areEven_17 : decode cX7_areEven 17 = .ok (.aload_n 0, 1) := by decide +kernel
theorem dX7_areEven_18 : decode cX7_areEven 18 = .ok (.getfield 10, 3) := by decide +kernel
theorem dX7_areEven_21 : decode cX7_areEven 21 = .ok (.iload_n 2, 1) := by decide +kernel
theorem dX7_areEven_22 : decode cX7_areEven 22 = .ok (.iload_n 1, 1) := by decide +kernel
theorem dX7_areEven_23 : decode cX7_areEven 23 = .ok (.invokevirtual 232, 3) := by decide +kernel
theorem dX7_areEven_26 : decode cX7_areEven 26 = .ok (.aload_n 0, 1) := by decide +kernel
theorem dX7_areEven_27 : decode cX7_areEven 27 = .ok (.getfield 33, 3) := by decide +kernel
theorem dX7_areEven_30 : decode cX7_areEven 30 = .ok (.aload_n 0, 1) := by decide +kernel
theorem dX7_areEven_31 : decode cX7_areEven 31 = .ok (.getfield 10, 3) := by decide +kernel
theorem dX7_areEven_34 : decode cX7_areEven 34 = .ok (.iload_n 2, 1) := by decide +kernel
theorem dX7_areEven_35 : decode cX7_areEven 35 = .ok (.invokevirtual 74, 3) := by decide +kernel
theorem dX7_areEven_38 : decode cX7_areEven 38 = .ok (.invokevirtual 200, 3) := by decide +kernel
theorem dX7_areEven_41 : decode cX7_areEven 41 = .ok (.ifCond .eq 5, 3) := by decide +kernel
theorem dX7_areEven_44 : decode cX7_areEven 44 = .ok (.iconst 0, 1) := by decide +kernel
theorem dX7_areEven_45 : decode cX7_areEven 45 = .ok (.ireturn, 1) := by decide +kernel
theorem dX7_areEven_46 : decode cX7_areEven 46 = .ok (.iinc 2 1, 3) := by decide +kernel
theorem dX7_areEven_49 : decode cX7_areEven 49 = .ok (.goto (-47), 3) := by decide +kernel
theorem dX7_areEven_52 : decode cX7_areEven 52 = .ok (.iconst 1, 1) := by decide +kernel
theorem dX7_areEven_53 : decode cX7_areEven 53 = .ok (.ireturn, 1) := by decide +kernel
theorem dX7_pagesByWidth_0 : decode cX7_pagesByWidth 0 = .ok (.aload_n 0, 1) := by decide +kernel
theorem dX7_pagesByWidth_1 : decode cX7_pagesByWidth 1 = .ok (.getfield 26, 3) := by decide +kernel
theorem dX7_pagesByWidth_4 : decode cX7_pagesByWidth 4 = .ok (.aload_n 0, 1) := by decide +kernel
theorem dX7_pagesByWidth_5 : decode cX7_pagesByWidth 5 = .ok (.getfield 10, 3) := by decide +kernel
theorem dX7_pagesByWidth_8 : decode cX7_pagesByWidth 8 = .ok (.iconst 0, 1) := by decide +kernel
theorem dX7_pagesByWidth_9 : decode cX7_pagesByWidth 9 = .ok (.iload_n 1, 1) := by decide +kernel
theorem dX7_pagesByWidth_10 : decode cX7_pagesByWidth 10 = .ok (.invokevirtual 162, 3) := by decide +kernel
theorem dX7_pagesByWidth_13 : decode cX7_pagesByWidth 13 = .ok (.aload_n 0, 1) := by decide +kernel
theorem dX7_pagesByWidth_14 : decode cX7_pagesByWidth 14 = .ok (.getfield 26, 3) := by decide +kernel
theorem dX7_pagesByWidth_17 : decode cX7_pagesByWidth 17 = .ok (.invokevirtual 185, 3) := by decide +kernel
theorem dX7_pagesByWidth_20 : decode cX7_pagesByWidth 20 = .ok (.ireturn, 1) := by decide +kernel
theorem dX7_within_0 : decode cX7_within 0 = .ok (.iload_n 0, 1) := by decide +kernel
theorem dX7_within_1 : decode cX7_within 1 = .ok (.iload_n 1, 1) := by decide +kernel
theorem dX7_within_2 : decode cX7_within 2 = .ok (.if_icmp .lt 12, 3) := by decide +kernel
theorem dX7_within_5 : decode cX7_within 5 = .ok (.iload_n 0, 1) := by decide +kernel
theorem dX7_within_6 : decode cX7_within 6 = .ok (.iload_n 2, 1) := by decide +kernel
theorem dX7_within_7 : decode cX7_within 7 = .ok (.if_icmp .gt 7, 3) := by decide +kernel
theorem dX7_within_10 : decode cX7_within 10 = .ok (.iconst 1, 1) := by decide +kernel
theorem dX7_within_11 : decode cX7_within 11 = .ok (.goto 4, 3) := by decide +kernel
theorem dX7_within_14 : decode cX7_within 14 = .ok (.iconst 0, 1) := by decide +kernel
theorem dX7_within_15 : decode cX7_within 15 = .ok (.ireturn, 1) := by decide +kernel
theorem dX7_allowed_0 : decode cX7_allowed 0 = .ok (.iload_n 0, 1) := by decide +kernel
theorem dX7_allowed_1 : decode cX7_allowed 1 = .ok (.iconst 0, 1) := by decide +kernel
theorem dX7_allowed_2 : decode cX7_allowed 2 = .ok (.iconst 5, 1) := by decide +kernel
theorem dX7_allowed_3 : decode cX7_allowed 3 = .ok (.invokestatic 51, 3) := by decide +kernel
theorem dX7_allowed_6 : decode cX7_allowed 6 = .ok (.ifCond .ne 5, 3) := by decide +kernel
theorem dX7_allowed_9 : decode cX7_allowed 9 = .ok (.iconst 0, 1) := by decide +kernel
theorem dX7_allowed_10 : decode cX7_allowed 10 = .ok (.ireturn, 1) := by decide +kernel
theorem dX7_allowed_11 : decode cX7_allowed 11 = .ok (.iload_n 0, 1) := by decide +kernel
theorem dX7_allowed_12 : decode cX7_allowed 12 = .ok (.iconst 4, 1) := by decide +kernel
theorem dX7_allowed_13 : decode cX7_allowed 13 = .ok (.if_icmp .ne 9, 3) := by decide +kernel
theorem dX7_allowed_16 : decode cX7_allowed 16 = .ok (.iload_n 1, 1) := by decide +kernel
theorem dX7_allowed_17 : decode cX7_allowed 17 = .ok (.ifCond .ne 5, 3) := by decide +kernel
theorem dX7_allowed_20 : decode cX7_allowed 20 = .ok (.iconst 1, 1) := by decide +kernel
theorem dX7_allowed_21 : decode cX7_allowed 21 = .ok (.ireturn, 1) := by decide +kernel
theorem dX7_allowed_22 : decode cX7_allowed 22 = .ok (.iload_n 1, 1) := by decide +kernel
theorem dX7_allowed_23 : decode cX7_allowed 23 = .ok (.getstatic 235, 3) := by decide +kernel
theorem dX7_allowed_26 : decode cX7_allowed 26 = .ok (.iload_n 0, 1) := by decide +kernel
theorem dX7_allowed_27 : decode cX7_allowed 27 = .ok (.invokestatic 239, 3) := by decide +kernel
theorem dX7_allowed_30 : decode cX7_allowed 30 = .ok (.getstatic 245, 3) := by decide +kernel
theorem dX7_allowed_33 : decode cX7_allowed 33 = .ok (.iload_n 0, 1) := by decide +kernel
theorem dX7_allowed_34 : decode cX7_allowed 34 = .ok (.invokestatic 239, 3) := by decide +kernel
theorem dX7_allowed_37 : decode cX7_allowed 37 = .ok (.invokestatic 51, 3) := by decide +kernel
theorem dX7_allowed_40 : decode cX7_allowed 40 = .ok (.ireturn, 1) := by decide +kernel
theorem dX7_roundedUp_0 : decode cX7_roundedUp 0 = .ok (.iload_n 1, 1) := by decide +kernel
theorem dX7_roundedUp_1 : decode cX7_roundedUp 1 = .ok (.ifCond .le 13, 3) := by decide +kernel
theorem dX7_roundedUp_4 : decode cX7_roundedUp 4 = .ok (.iload_n 0, 1) := by decide +kernel
theorem dX7_roundedUp_5 : decode cX7_roundedUp 5 = .ok (.iload_n 1, 1) := by decide +kernel
theorem dX7_roundedUp_6 : decode cX7_roundedUp 6 = .ok (.iadd, 1) := by decide +kernel
theorem dX7_roundedUp_7 : decode cX7_roundedUp 7 = .ok (.iconst 1, 1) := by decide +kernel
theorem dX7_roundedUp_8 : decode cX7_roundedUp 8 = .ok (.isub, 1) := by decide +kernel
theorem dX7_roundedUp_9 : decode cX7_roundedUp 9 = .ok (.iload_n 1, 1) := by decide +kernel
theorem dX7_roundedUp_10 : decode cX7_roundedUp 10 = .ok (.idiv, 1) := by decide +kernel
theorem dX7_roundedUp_11 : decode cX7_roundedUp 11 = .ok (.goto 4, 3) := by decide +kernel
theorem dX7_roundedUp_14 : decode cX7_roundedUp 14 = .ok (.iconst 0, 1) := by decide +kernel
theorem dX7_roundedUp_15 : decode cX7_roundedUp 15 = .ok (.ireturn, 1) := by decide +kernel
theorem dX8_init_0 : decode cX8_init 0 = .ok (.aload_n 0, 1) := by decide +kernel
theorem dX8_init_1 : decode cX8_init 1 = .ok (.invokespecial 1, 3) := by decide +kernel
theorem dX8_init_4 : decode cX8_init 4 = .ok (.aload_n 0, 1) := by decide +kernel
theorem dX8_init_5 : decode cX8_init 5 = .ok (.sipush 164, 3) := by decide +kernel
theorem dX8_init_8 : decode cX8_init 8 = .ok (.newarray .int, 2) := by decide +kernel
theorem dX8_init_10 : decode cX8_init 10 = .ok (.putfield 7, 3) := by decide +kernel
theorem dX8_init_13 : decode cX8_init 13 = .ok (.aload_n 0, 1) := by decide +kernel
theorem dX8_init_14 : decode cX8_init 14 = .ok (.sipush 656, 3) := by decide +kernel
theorem dX8_init_17 : decode cX8_init 17 = .ok (.newarray .int, 2) := by decide +kernel
theorem dX8_init_19 : decode cX8_init 19 = .ok (.putfield 13, 3) := by decide +kernel
theorem dX8_init_22 : decode cX8_init 22 = .ok (.aload_n 0, 1) := by decide +kernel
theorem dX8_init_23 : decode cX8_init 23 = .ok (.bipush 40, 2) := by decide +kernel
theorem dX8_init_25 : decode cX8_init 25 = .ok (.newarray .int, 2) := by decide +kernel
theorem dX8_init_27 : decode cX8_init 27 = .ok (.putfield 16, 3) := by decide +kernel
theorem dX8_init_30 : decode cX8_init 30 = .ok (.aload_n 0, 1) := by decide +kernel
theorem dX8_init_31 : decode cX8_init 31 = .ok (.bipush 48, 2) := by decide +kernel
theorem dX8_init_33 : decode cX8_init 33 = .ok (.newarray .int, 2) := by decide +kernel
theorem dX8_init_35 : decode cX8_init 35 = .ok (.putfield 19, 3) := by decide +kernel
theorem dX8_init_38 : decode cX8_init 38 = .ok (.aload_n 0, 1) := by decide +kernel
theorem dX8_init_39 : decode cX8_init 39 = .ok (.bipush 48, 2) := by decide +kernel
theorem dX8_init_41 : decode cX8_init 41 = .ok (.newarray .int, 2) := by decide +kernel
theorem dX8_init_43 : decode cX8_init 43 = .ok (.putfield 22, 3) := by decide +kernel
theorem dX8_init_46 : decode cX8_init 46 = .ok (.aload_n 0, 1) := by decide +kernel
theorem dX8_init_47 : decode cX8_init 47 = .ok (.bipush 20, 2) := by decide +kernel
theorem dX8_init_49 : decode cX8_init 49 = .ok (.newarray .int, 2) := by decide +kernel
theorem dX8_init_51 : decode cX8_init 51 = .ok (.putfield 25, 3) := by decide +kernel
theorem dX8_init_54 : decode cX8_init 54 = .ok (.aload_n 0, 1) := by decide +kernel
theorem dX8_init_55 : decode cX8_init 55 = .ok (.bipush 20, 2) := by decide +kernel
theorem dX8_init_57 : decode cX8_init 57 = .ok (.newarray .int, 2) := by decide +kernel
theorem dX8_init_59 : decode cX8_init 59 = .ok (.putfield 28, 3) := by decide +kernel
theorem dX8_init_62 : decode cX8_init 62 = .ok (.aload_n 0, 1) := by decide +kernel
theorem dX8_init_63 : decode cX8_init 63 = .ok (.bipush 20, 2) := by decide +kernel
theorem dX8_init_65 : decode cX8_init 65 = .ok (.newarray .int, 2) := by decide +kernel
theorem dX8_init_67 : decode cX8_init 67 = .ok (.putfield 31, 3) := by decide +kernel
theorem dX8_init_70 : decode cX8_init 70 = .ok (.aload_n 0, 1) := by decide +kernel
theorem dX8_init_71 : decode cX8_init 71 = .ok (.getfield 7, 3) := by decide +kernel
theorem dX8_init_74 : decode cX8_init 74 = .ok (.iconst 2, 1) := by decide +kernel
theorem dX8_init_75 : decode cX8_init 75 = .ok (.iconst 2, 1) := by decide +kernel
theorem dX8_init_76 : decode cX8_init 76 = .ok (.iastore, 1) := by decide +kernel
theorem dX8_init_77 : decode cX8_init 77 = .ok (.aload_n 0, 1) := by decide +kernel
theorem dX8_init_78 : decode cX8_init 78 = .ok (.getfield 7, 3) := by decide +kernel
theorem dX8_init_81 : decode cX8_init 81 = .ok (.iconst 3, 1) := by decide +kernel
theorem dX8_init_82 : decode cX8_init 82 = .ok (.bipush 24, 2) := by decide +kernel
theorem dX8_init_84 : decode cX8_init 84 = .ok (.iastore, 1) := by decide +kernel
theorem dX8_init_85 : decode cX8_init 85 = .ok (.aload_n 0, 1) := by decide +kernel
theorem dX8_init_86 : decode cX8_init 86 = .ok (.getfield 7, 3) := by decide +kernel
theorem dX8_init_89 : decode cX8_init 89 = .ok (.iconst 4, 1) := by decide +kernel
theorem dX8_init_90 : decode cX8_init 90 = .ok (.bipush 20, 2) := by decide +kernel
theorem dX8_init_92 : decode cX8_init 92 = .ok (.iastore, 1) := by decide +kernel
theorem dX8_init_93 : decode cX8_init 93 = .ok (.aload_n 0, 1) := by decide +kernel
theorem dX8_init_94 : decode cX8_init 94 = .ok (.getfield 7, 3) := by decide +kernel
theorem dX8_init_97 : decode cX8_init 97 = .ok (.iconst 5, 1) := by decide +kernel
theorem dX8_init_98 : decode cX8_init 98 = .ok (.iconst 1, 1) := by decide +kernel
theorem dX8_init_99 : decode cX8_init 99 = .ok (.iastore, 1) := by decide +kernel
theorem dX8_init_100 : decode cX8_init 100 = .ok (.aload_n 0, 1) := by decide +kernel
theorem dX8_init_101 : decode cX8_init 101 = .ok (.getfield 7, 3) := by decide +kernel
theorem dX8_init_104 : decode cX8_init 104 = .ok (.bipush 7, 2) := by decide +kernel
theorem dX8_init_106 : decode cX8_init 106 = .ok (.iconst 1, 1) := by decide +kernel
theorem dX8_init_107 : decode cX8_init 107 = .ok (.iastore, 1) := by decide +kernel
theorem dX8_init_108 : decode cX8_init 108 = .ok (.return_, 1) := by decide +kernel
theorem dX8_in_0 : decode cX8_in 0 = .ok (.iload_n 0, 1) := by decide +kernel
theorem dX8_in_1 : decode cX8_in 1 = .ok (.iload_n 1, 1) := by decide +kernel
theorem dX8_in_2 : decode cX8_in 2 = .ok (.if_icmp .lt 12, 3) := by decide +kernel
theorem dX8_in_5 : decode cX8_in 5 = .ok (.iload_n 0, 1) := by decide +kernel
theorem dX8_in_6 : decode cX8_in 6 = .ok (.iload_n 2, 1) := by decide +kernel
theorem dX8_in_7 : decode cX8_in 7 = .ok (.if_icmp .gt 7, 3) := by decide +kernel
theorem dX8_in_10 : decode cX8_in 10 = .ok (.iconst 1, 1) := by decide +kernel
theorem dX8_in_11 : decode cX8_in 11 = .ok (.goto 4, 3) := by decide +kernel
theorem dX8_in_14 : decode cX8_in 14 = .ok (.iconst 0, 1) := by decide +kernel
theorem dX8_in_15 : decode cX8_in 15 = .ok (.ireturn, 1) := by decide +kernel
theorem dX8_changes_0 : decode cX8_changes 0 = .ok (.aload_n 0, 1) := by decide +kernel
theorem dX8_changes_1 : decode cX8_changes 1 = .ok (.getfield 34, 3) := by decide +kernel
theorem dX8_changes_4 : decode cX8_changes 4 = .ok (.iconst 4, 1) := by decide +kernel
theorem dX8_changes_5 : decode cX8_changes 5 = .ok (.if_icmp .ne 44, 3) := by decide +kernel
theorem dX8_changes_8 : decode cX8_changes 8 = .ok (.iconst 0, 1) := by decide +kernel
theorem dX8_changes_9 : decode cX8_changes 9 = .ok (.istore_n 1, 1) := by decide +kernel
theorem dX8_changes_10 : decode cX8_changes 10 = .ok (.iload_n 1, 1) := by decide +kernel
theorem dX8_changes_11 : decode cX8_changes 11 = .ok (.sipush 492, 3) := by decide +kernel
theorem dX8_changes_14 : decode cX8_changes 14 = .ok (.if_icmp .ge 25, 3) := by decide +kernel
theorem dX8_changes_17 : decode cX8_changes 17 = .ok (.aload_n 0, 1) := by decide +kernel
theorem dX8_changes_18 : decode cX8_changes 18 = .ok (.getfield 13, 3) := by decide +kernel
theorem dX8_changes_21 : decode cX8_changes 21 = .ok (.iload_n 1, 1) := by decide +kernel
theorem dX8_changes_22 : decode cX8_changes 22 = .ok (.aload_n 0, 1) := by decide +kernel
theorem dX8_changes_23 : decode cX8_changes 23 = .ok (.getfield 13, 3) := by decide +kernel
theorem dX8_changes_26 : decode cX8_changes 26 = .ok (.iload_n 1, 1) := by decide +kernel
theorem dX8_changes_27 : decode cX8_changes 27 = .ok (.sipush 164, 3) := by decide +kernel
theorem dX8_changes_30 : decode cX8_changes 30 = .ok (.iadd, 1) := by decide +kernel
theorem dX8_changes_31 : decode cX8_changes 31 = .ok (.iaload, 1) := by decide +kernel
theorem dX8_changes_32 : decode cX8_changes 32 = .ok (.iastore, 1) := by decide +kernel
theorem dX8_changes_33 : decode cX8_changes 33 = .ok (.iinc 1 1, 3) := by decide +kernel
theorem dX8_changes_36 : decode cX8_changes 36 = .ok (.goto (-26), 3) := by decide +kernel
theorem dX8_changes_39 : decode cX8_changes 39 = .ok (.aload_n 0, 1) := by decide +kernel
theorem dX8_changes_40 : decode cX8_changes 40 = .ok (.dup, 1) := by decide +kernel
theorem dX8_changes_41 : decode cX8_changes 41 = .ok (.getfield 34, 3) := by decide +kernel
theorem dX8_changes_44 : decode cX8_changes 44 = .ok (.iconst 1, 1) := by decide +kernel
theorem dX8_changes_45 : decode cX8_changes 45 = .ok (.isub, 1) := by decide +kernel
theorem dX8_changes_46 : decode cX8_changes 46 = .ok (.putfield 34, 3) := by decide +kernel
theorem dX8_changes_49 : decode cX8_changes 49 = .ok (.iconst 0, 1) := by decide +kernel
theorem dX8_changes_50 : decode cX8_changes 50 = .ok (.istore_n 1, 1) := by decide +kernel
theorem dX8_changes_51 : decode cX8_changes 51 = .ok (.iload_n 1, 1) := by decide +kernel
theorem dX8_changes_52 : decode cX8_changes 52 = .ok (.sipush 164, 3) := by decide +kernel
theorem dX8_changes_55 : decode cX8_changes 55 = .ok (.if_icmp .ge 30, 3) := by decide +kernel
theorem dX8_changes_58 : decode cX8_changes 58 = .ok (.aload_n 0, 1) := by decide +kernel
theorem dX8_changes_59 : decode cX8_changes 59 = .ok (.getfield 13, 3) := by decide +kernel
theorem dX8_changes_62 : decode cX8_changes 62 = .ok (.sipush 164, 3) := by decide +kernel
theorem dX8_changes_65 : decode cX8_changes 65 = .ok (.aload_n 0, 1) := by decide +kernel
theorem dX8_changes_66 : decode cX8_changes 66 = .ok (.getfield 34, 3) := by decide +kernel
theorem dX8_changes_69 : decode cX8_changes 69 = .ok (.imul, 1) := by decide +kernel
theorem dX8_changes_70 : decode cX8_changes 70 = .ok (.iload_n 1, 1) := by decide +kernel
theorem dX8_changes_71 : decode cX8_changes 71 = .ok (.iadd, 1) := by decide +kernel
theorem dX8_changes_72 : decode cX8_changes 72 = .ok (.aload_n 0, 1) := by decide +kernel
theorem dX8_changes_73 : decode cX8_changes 73 = .ok (.getfield 7, 3) := by decide +kernel
theorem dX8_changes_76 : decode cX8_changes 76 = .ok (.iload_n 1, 1) := by decide +kernel
theorem dX8_changes_77 : decode cX8_changes 77 = .ok (.iaload, 1) := by decide +kernel
theorem dX8_changes_78 : decode cX8_changes 78 = .ok (.iastore, 1) := by decide +kernel
theorem dX8_changes_79 : decode cX8_changes 79 = .ok (.iinc 1 1, 3) := by decide +kernel
theorem dX8_changes_82 : decode cX8_changes 82 = .ok (.goto (-31), 3) := by decide +kernel
theorem dX8_changes_85 : decode cX8_changes 85 = .ok (.aload_n 0, 1) := by decide +kernel
theorem dX8_changes_86 : decode cX8_changes 86 = .ok (.dup, 1) := by decide +kernel
theorem dX8_changes_87 : decode cX8_changes 87 = .ok (.getfield 34, 3) := by decide +kernel
theorem dX8_changes_90 : decode cX8_changes 90 = .ok (.iconst 1, 1) := by decide +kernel
theorem dX8_changes_91 : decode cX8_changes 91 = .ok (.iadd, 1) := by decide +kernel
theorem dX8_changes_92 : decode cX8_changes 92 = .ok (.putfield 34, 3) := by decide +kernel
theorem dX8_changes_95 : decode cX8_changes 95 = .ok (.return_, 1) := by decide +kernel
theorem dX8_isContest_0 : decode cX8_isContest 0 = .ok (.iload_n 1, 1) := by decide +kernel
theorem dX8_isContest_1 : decode cX8_isContest 1 = .ok (.ifCond .lt 17, 3) := by decide +kernel
theorem dX8_isContest_4 : decode cX8_isContest 4 = .ok (.iload_n 1, 1) := by decide +kernel
theorem dX8_isContest_5 : decode cX8_isContest 5 = .ok (.aload_n 0, 1) := by decide +kernel
theorem dX8_isContest_6 : decode cX8_isContest 6 = .ok (.getfield 7, 3) := by decide +kernel
theorem dX8_isContest_9 : decode cX8_isContest 9 = .ok (.iconst 0, 1) := by decide +kernel
theorem dX8_isContest_10 : decode cX8_isContest 10 = .ok (.iaload, 1) := by decide +kernel
theorem dX8_isContest_11 : decode cX8_isContest 11 = .ok (.if_icmp .ge 7, 3) := by decide +kernel
theorem dX8_isContest_14 : decode cX8_isContest 14 = .ok (.iconst 1, 1) := by decide +kernel
theorem dX8_isContest_15 : decode cX8_isContest 15 = .ok (.goto 4, 3) := by decide +kernel
theorem dX8_isContest_18 : decode cX8_isContest 18 = .ok (.iconst 0, 1) := by decide +kernel
theorem dX8_isContest_19 : decode cX8_isContest 19 = .ok (.ireturn, 1) := by decide +kernel
theorem dX8_of_0 : decode cX8_of 0 = .ok (.aload_n 0, 1) := by decide +kernel
theorem dX8_of_1 : decode cX8_of 1 = .ok (.getfield 7, 3) := by decide +kernel
theorem dX8_of_4 : decode cX8_of 4 = .ok (.bipush 32, 2) := by decide +kernel
theorem dX8_of_6 : decode cX8_of 6 = .ok (.bipush 6, 2) := by decide +kernel
theorem dX8_of_8 : decode cX8_of 8 = .ok (.iload_n 1, 1) := by decide +kernel
theorem dX8_of_9 : decode cX8_of 9 = .ok (.imul, 1) := by decide +kernel
theorem dX8_of_10 : decode cX8_of 10 = .ok (.iadd, 1) := by decide +kernel
theorem dX8_of_11 : decode cX8_of 11 = .ok (.iload_n 2, 1) := by decide +kernel
theorem dX8_of_12 : decode cX8_of 12 = .ok (.iadd, 1) := by decide +kernel
theorem dX8_of_13 : decode cX8_of 13 = .ok (.iaload, 1) := by decide +kernel
theorem dX8_of_14 : decode cX8_of 14 = .ok (.ireturn, 1) := by decide +kernel
theorem dX8_isName_0 : decode cX8_isName 0 = .ok (.aload_n 0, 1) := by decide +kernel
theorem dX8_isName_1 : decode cX8_isName 1 = .ok (.iload_n 1, 1) := by decide +kernel
theorem dX8_isName_2 : decode cX8_isName 2 = .ok (.invokevirtual 38, 3) := by decide +kernel
theorem dX8_isName_5 : decode cX8_isName 5 = .ok (.ifCond .eq 21, 3) := by decide +kernel
theorem dX8_isName_8 : decode cX8_isName 8 = .ok (.iload_n 2, 1) := by decide +kernel
theorem dX8_isName_9 : decode cX8_isName 9 = .ok (.ifCond .lt 17, 3) := by decide +kernel
theorem dX8_isName_12 : decode cX8_isName 12 = .ok (.iload_n 2, 1) := by decide +kernel
theorem dX8_isName_13 : decode cX8_isName 13 = .ok (.aload_n 0, 1) := by decide +kernel
theorem dX8_isName_14 : decode cX8_isName 14 = .ok (.iload_n 1, 1) := by decide +kernel
theorem dX8_isName_15 : decode cX8_isName 15 = .ok (.iconst 3, 1) := by decide +kernel
theorem dX8_isName_16 : decode cX8_isName 16 = .ok (.invokevirtual 42, 3) := by decide +kernel
theorem dX8_isName_19 : decode cX8_isName 19 = .ok (.if_icmp .ge 7, 3) := by decide +kernel
theorem dX8_isName_22 : decode cX8_isName 22 = .ok (.iconst 1, 1) := by decide +kernel
theorem dX8_isName_23 : decode cX8_isName 23 = .ok (.goto 4, 3) := by decide +kernel
theorem dX8_isName_26 : decode cX8_isName 26 = .ok (.iconst 0, 1) := by decide +kernel
theorem dX8_isName_27 : decode cX8_isName 27 = .ok (.ireturn, 1) := by decide +kernel
theorem dX8_isVersion_0 : decode cX8_isVersion 0 = .ok (.iload_n 1, 1) := by decide +kernel
theorem dX8_isVersion_1 : decode cX8_isVersion 1 = .ok (.ifCond .lt 18, 3) := by decide +kernel
theorem dX8_isVersion_4 : decode cX8_isVersion 4 = .ok (.iload_n 1, 1) := by decide +kernel
theorem dX8_isVersion_5 : decode cX8_isVersion 5 = .ok (.aload_n 0, 1) := by decide +kernel
theorem dX8_isVersion_6 : decode cX8_isVersion 6 = .ok (.getfield 7, 3) := by decide +kernel
theorem dX8_isVersion_9 : decode cX8_isVersion 9 = .ok (.bipush 7, 2) := by decide +kernel
theorem dX8_isVersion_11 : decode cX8_isVersion 11 = .ok (.iaload, 1) := by decide +kernel
theorem dX8_isVersion_12 : decode cX8_isVersion 12 = .ok (.if_icmp .ge 7, 3) := by decide +kernel
theorem dX8_isVersion_15 : decode cX8_isVersion 15 = .ok (.iconst 1, 1) := by decide +kernel
theorem dX8_isVersion_16 : decode cX8_isVersion 16 = .ok (.goto 4, 3) := by decide +kernel
theorem dX8_isVersion_19 : decode cX8_isVersion 19 = .ok (.iconst 0, 1) := by decide +kernel
theorem dX8_isVersion_20 : decode cX8_isVersion 20 = .ok (.ireturn, 1) := by decide +kernel
theorem dX8_lengthOf_0 : decode cX8_lengthOf 0 = .ok (.aload_n 0, 1) := by decide +kernel
theorem dX8_lengthOf_1 : decode cX8_lengthOf 1 = .ok (.getfield 7, 3) := by decide +kernel
theorem dX8_lengthOf_4 : decode cX8_lengthOf 4 = .ok (.bipush 68, 2) := by decide +kernel
theorem dX8_lengthOf_6 : decode cX8_lengthOf 6 = .ok (.bipush 16, 2) := by decide +kernel
theorem dX8_lengthOf_8 : decode cX8_lengthOf 8 = .ok (.iload_n 1, 1) := by decide +kernel
theorem dX8_lengthOf_9 : decode cX8_lengthOf 9 = .ok (.imul, 1) := by decide +kernel
theorem dX8_lengthOf_10 : decode cX8_lengthOf 10 = .ok (.iadd, 1) := by decide +kernel
theorem dX8_lengthOf_11 : decode cX8_lengthOf 11 = .ok (.iconst 2, 1) := by decide +kernel
theorem dX8_lengthOf_12 : decode cX8_lengthOf 12 = .ok (.iload_n 2, 1) := by decide +kernel
theorem dX8_lengthOf_13 : decode cX8_lengthOf 13 = .ok (.imul, 1) := by decide +kernel
theorem dX8_lengthOf_14 : decode cX8_lengthOf 14 = .ok (.iadd, 1) := by decide +kernel
theorem dX8_lengthOf_15 : decode cX8_lengthOf 15 = .ok (.iaload, 1) := by decide +kernel
theorem dX8_lengthOf_16 : decode cX8_lengthOf 16 = .ok (.ireturn, 1) := by decide +kernel
theorem dX8_votesOf_0 : decode cX8_votesOf 0 = .ok (.aload_n 0, 1) := by decide +kernel
theorem dX8_votesOf_1 : decode cX8_votesOf 1 = .ok (.getfield 7, 3) := by decide +kernel
theorem dX8_votesOf_4 : decode cX8_votesOf 4 = .ok (.bipush 68, 2) := by decide +kernel
theorem dX8_votesOf_6 : decode cX8_votesOf 6 = .ok (.bipush 16, 2) := by decide +kernel
theorem dX8_votesOf_8 : decode cX8_votesOf 8 = .ok (.iload_n 1, 1) := by decide +kernel
theorem dX8_votesOf_9 : decode cX8_votesOf 9 = .ok (.imul, 1) := by decide +kernel
theorem dX8_votesOf_10 : decode cX8_votesOf 10 = .ok (.iadd, 1) := by decide +kernel
theorem dX8_votesOf_11 : decode cX8_votesOf 11 = .ok (.iconst 2, 1) := by decide +kernel
theorem dX8_votesOf_12 : decode cX8_votesOf 12 = .ok (.iload_n 2, 1) := by decide +kernel
theorem dX8_votesOf_13 : decode cX8_votesOf 13 = .ok (.imul, 1) := by decide +kernel
theorem dX8_votesOf_14 : decode cX8_votesOf 14 = .ok (.iadd, 1) := by decide +kernel
theorem dX8_votesOf_15 : decode cX8_votesOf 15 = .ok (.iconst 1, 1) := by decide +kernel
theorem dX8_votesOf_16 : decode cX8_votesOf 16 = .ok (.iadd, 1) := by decide +kernel
theorem dX8_votesOf_17 : decode cX8_votesOf 17 = .ok (.iaload, 1) := by decide +kernel
theorem dX8_votesOf_18 : decode cX8_votesOf 18 = .ok (.ireturn, 1) := by decide +kernel
theorem dX8_contest_0 : decode cX8_contest 0 = .ok (.iload_n 1, 1) := by decide +kernel
theorem dX8_contest_1 : decode cX8_contest 1 = .ok (.iconst 1, 1) := by decide +kernel
theorem dX8_contest_2 : decode cX8_contest 2 = .ok (.bipush 20, 2) := by decide +kernel
theorem dX8_contest_4 : decode cX8_contest 4 = .ok (.invokestatic 46, 3) := by decide +kernel
theorem dX8_contest_7 : decode cX8_contest 7 = .ok (.ifCond .eq 12, 3) := by decide +kernel
theorem dX8_contest_10 : decode cX8_contest 10 = .ok (.iload_n 2, 1) := by decide +kernel
theorem dX8_contest_11 : decode cX8_contest 11 = .ok (.iconst 1, 1) := by decide +kernel
theorem dX8_contest_12 : decode cX8_contest 12 = .ok (.iconst 3, 1) := by decide +kernel
theorem dX8_contest_13 : decode cX8_contest 13 = .ok (.invokestatic 46, 3) := by decide +kernel
theorem dX8_contest_16 : decode cX8_contest 16 = .ok (.ifCond .ne 5, 3) := by decide +kernel
theorem dX8_contest_19 : decode cX8_contest 19 = .ok (.iconst (-1), 1) := by decide +kernel
theorem dX8_contest_20 : decode cX8_contest 20 = .ok (.ireturn, 1) := by decide +kernel
theorem dX8_contest_21 : decode cX8_contest 21 = .ok (.aload_n 0, 1) := by decide +kernel
theorem dX8_contest_22 : decode cX8_contest 22 = .ok (.getfield 7, 3) := by decide +kernel
theorem dX8_contest_25 : decode cX8_contest 25 = .ok (.iconst 0, 1) := by decide +kernel
theorem dX8_contest_26 : decode cX8_contest 26 = .ok (.iaload, 1) := by decide +kernel
theorem dX8_contest_27 : decode cX8_contest 27 = .ok (.istore_n 3, 1) := by decide +kernel
theorem dX8_contest_28 : decode cX8_contest 28 = .ok (.iload_n 3, 1) := by decide +kernel
theorem dX8_contest_29 : decode cX8_contest 29 = .ok (.bipush 6, 2) := by decide +kernel
theorem dX8_contest_31 : decode cX8_contest 31 = .ok (.if_icmp .ne 6, 3) := by decide +kernel
theorem dX8_contest_34 : decode cX8_contest 34 = .ok (.bipush (-3), 2) := by decide +kernel
theorem dX8_contest_36 : decode cX8_contest 36 = .ok (.ireturn, 1) := by decide +kernel
theorem dX8_contest_37 : decode cX8_contest 37 = .ok (.aload_n 0, 1) := by decide +kernel
theorem dX8_contest_38 : decode cX8_contest 38 = .ok (.invokevirtual 50, 3) := by decide +kernel
theorem dX8_contest_41 : decode cX8_contest 41 = .ok (.aload_n 0, 1) := by decide +kernel
theorem dX8_contest_42 : decode cX8_contest 42 = .ok (.getfield 7, 3) := by decide +kernel
theorem dX8_contest_45 : decode cX8_contest 45 = .ok (.bipush 32, 2) := by decide +kernel
theorem dX8_contest_47 : decode cX8_contest 47 = .ok (.bipush 6, 2) := by decide +kernel
theorem dX8_contest_49 : decode cX8_contest 49 = .ok (.iload_n 3, 1) := by decide +kernel
theorem dX8_contest_50 : decode cX8_contest 50 = .ok (.imul, 1) := by decide +kernel
theorem dX8_contest_51 : decode cX8_contest 51 = .ok (.iadd, 1) := by decide +kernel
theorem dX8_contest_52 : decode cX8_contest 52 = .ok (.iconst 0, 1) := by decide +kernel
theorem dX8_contest_53 : decode cX8_contest 53 = .ok (.iadd, 1) := by decide +kernel
theorem dX8_contest_54 : decode cX8_contest 54 = .ok (.iload_n 1, 1) := by decide +kernel
theorem dX8_contest_55 : decode cX8_contest 55 = .ok (.iastore, 1) := by decide +kernel
theorem dX8_contest_56 : decode cX8_contest 56 = .ok (.aload_n 0, 1) := by decide +kernel
theorem dX8_contest_57 : decode cX8_contest 57 = .ok (.getfield 7, 3) := by decide +kernel
theorem dX8_contest_60 : decode cX8_contest 60 = .ok (.bipush 32, 2) := by decide +kernel
theorem dX8_contest_62 : decode cX8_contest 62 = .ok (.bipush 6, 2) := by decide +kernel
theorem dX8_contest_64 : decode cX8_contest 64 = .ok (.iload_n 3, 1) := by decide +kernel
theorem dX8_contest_65 : decode cX8_contest 65 = .ok (.imul, 1) := by decide +kernel
theorem dX8_contest_66 : decode cX8_contest 66 = .ok (.iadd, 1) := by decide +kernel
theorem dX8_contest_67 : decode cX8_contest 67 = .ok (.iconst 1, 1) := by decide +kernel
theorem dX8_contest_68 : decode cX8_contest 68 = .ok (.iadd, 1) := by decide +kernel
theorem dX8_contest_69 : decode cX8_contest 69 = .ok (.iload_n 2, 1) := by decide +kernel
theorem dX8_contest_70 : decode cX8_contest 70 = .ok (.iastore, 1) := by decide +kernel
theorem dX8_contest_71 : decode cX8_contest 71 = .ok (.aload_n 0, 1) := by decide +kernel
theorem dX8_contest_72 : decode cX8_contest 72 = .ok (.getfield 7, 3) := by decide +kernel
theorem dX8_contest_75 : decode cX8_contest 75 = .ok (.iconst 0, 1) := by decide +kernel
theorem dX8_contest_76 : decode cX8_contest 76 = .ok (.dup2, 1) := by decide +kernel
theorem dX8_contest_77 : decode cX8_contest 77 = .ok (.iaload, 1) := by decide +kernel
theorem dX8_contest_78 : decode cX8_contest 78 = .ok (.iconst 1, 1) := by decide +kernel
theorem dX8_contest_79 : decode cX8_contest 79 = .ok (.iadd, 1) := by decide +kernel
theorem dX8_contest_80 : decode cX8_contest 80 = .ok (.iastore, 1) := by decide +kernel
theorem dX8_contest_81 : decode cX8_contest 81 = .ok (.iload_n 3, 1) := by decide +kernel
theorem dX8_contest_82 : decode cX8_contest 82 = .ok (.ireturn, 1) := by decide +kernel
theorem dX8_name_0 : decode cX8_name 0 = .ok (.aload_n 0, 1) := by decide +kernel
theorem dX8_name_1 : decode cX8_name 1 = .ok (.iload_n 1, 1) := by decide +kernel
theorem dX8_name_2 : decode cX8_name 2 = .ok (.invokevirtual 38, 3) := by decide +kernel
theorem dX8_name_5 : decode cX8_name 5 = .ok (.ifCond .eq 13, 3) := by decide +kernel
theorem dX8_name_8 : decode cX8_name 8 = .ok (.iload_n 2, 1) := by decide +kernel
theorem dX8_name_9 : decode cX8_name 9 = .ok (.iconst 1, 1) := by decide +kernel
theorem dX8_name_10 : decode cX8_name 10 = .ok (.bipush 20, 2) := by decide +kernel
theorem dX8_name_12 : decode cX8_name 12 = .ok (.invokestatic 46, 3) := by decide +kernel
theorem dX8_name_15 : decode cX8_name 15 = .ok (.ifCond .ne 5, 3) := by decide +kernel
theorem dX8_name_18 : decode cX8_name 18 = .ok (.iconst (-1), 1) := by decide +kernel
theorem dX8_name_19 : decode cX8_name 19 = .ok (.ireturn, 1) := by decide +kernel
theorem dX8_name_20 : decode cX8_name 20 = .ok (.aload_n 0, 1) := by decide +kernel
theorem dX8_name_21 : decode cX8_name 21 = .ok (.getfield 7, 3) := by decide +kernel
theorem dX8_name_24 : decode cX8_name 24 = .ok (.iconst 1, 1) := by decide +kernel
theorem dX8_name_25 : decode cX8_name 25 = .ok (.iaload, 1) := by decide +kernel
theorem dX8_name_26 : decode cX8_name 26 = .ok (.ifCond .le 6, 3) := by decide +kernel
theorem dX8_name_29 : decode cX8_name 29 = .ok (.bipush (-2), 2) := by decide +kernel
theorem dX8_name_31 : decode cX8_name 31 = .ok (.ireturn, 1) := by decide +kernel
theorem dX8_name_32 : decode cX8_name 32 = .ok (.aload_n 0, 1) := by decide +kernel
theorem dX8_name_33 : decode cX8_name 33 = .ok (.iload_n 1, 1) := by decide +kernel
theorem dX8_name_34 : decode cX8_name 34 = .ok (.iconst 3, 1) := by decide +kernel
theorem dX8_name_35 : decode cX8_name 35 = .ok (.invokevirtual 42, 3) := by decide +kernel
theorem dX8_name_38 : decode cX8_name 38 = .ok (.istore_n 3, 1) := by decide +kernel
theorem dX8_name_39 : decode cX8_name 39 = .ok (.iload_n 3, 1) := by decide +kernel
theorem dX8_name_40 : decode cX8_name 40 = .ok (.bipush 8, 2) := by decide +kernel
theorem dX8_name_42 : decode cX8_name 42 = .ok (.if_icmp .ne 6, 3) := by decide +kernel
theorem dX8_name_45 : decode cX8_name 45 = .ok (.bipush (-3), 2) := by decide +kernel
theorem dX8_name_47 : decode cX8_name 47 = .ok (.ireturn, 1) := by decide +kernel
theorem dX8_name_48 : decode cX8_name 48 = .ok (.aload_n 0, 1) := by decide +kernel
theorem dX8_name_49 : decode cX8_name 49 = .ok (.invokevirtual 50, 3) := by decide +kernel
theorem dX8_name_52 : decode cX8_name 52 = .ok (.aload_n 0, 1) := by decide +kernel
theorem dX8_name_53 : decode cX8_name 53 = .ok (.getfield 7, 3) := by decide +kernel
theorem dX8_name_56 : decode cX8_name 56 = .ok (.bipush 68, 2) := by decide +kernel
theorem dX8_name_58 : decode cX8_name 58 = .ok (.bipush 16, 2) := by decide +kernel
theorem dX8_name_60 : decode cX8_name 60 = .ok (.iload_n 1, 1) := by decide +kernel
theorem dX8_name_61 : decode cX8_name 61 = .ok (.imul, 1) := by decide +kernel
theorem dX8_name_62 : decode cX8_name 62 = .ok (.iadd, 1) := by decide +kernel
theorem dX8_name_63 : decode cX8_name 63 = .ok (.iconst 2, 1) := by decide +kernel
theorem dX8_name_64 : decode cX8_name 64 = .ok (.iload_n 3, 1) := by decide +kernel
theorem dX8_name_65 : decode cX8_name 65 = .ok (.imul, 1) := by decide +kernel
theorem dX8_name_66 : decode cX8_name 66 = .ok (.iadd, 1) := by decide +kernel
theorem dX8_name_67 : decode cX8_name 67 = .ok (.iload_n 2, 1) := by decide +kernel
theorem dX8_name_68 : decode cX8_name 68 = .ok (.iastore, 1) := by decide +kernel
theorem dX8_name_69 : decode cX8_name 69 = .ok (.aload_n 0, 1) := by decide +kernel
theorem dX8_name_70 : decode cX8_name 70 = .ok (.getfield 7, 3) := by decide +kernel
theorem dX8_name_73 : decode cX8_name 73 = .ok (.bipush 32, 2) := by decide +kernel
theorem dX8_name_75 : decode cX8_name 75 = .ok (.bipush 6, 2) := by decide +kernel
theorem dX8_name_77 : decode cX8_name 77 = .ok (.iload_n 1, 1) := by decide +kernel
theorem dX8_name_78 : decode cX8_name 78 = .ok (.imul, 1) := by decide +kernel
theorem dX8_name_79 : decode cX8_name 79 = .ok (.iadd, 1) := by decide +kernel
theorem dX8_name_80 : decode cX8_name 80 = .ok (.iconst 3, 1) := by decide +kernel
theorem dX8_name_81 : decode cX8_name 81 = .ok (.iadd, 1) := by decide +kernel
theorem dX8_name_82 : decode cX8_name 82 = .ok (.dup2, 1) := by decide +kernel
theorem dX8_name_83 : decode cX8_name 83 = .ok (.iaload, 1) := by decide +kernel
theorem dX8_name_84 : decode cX8_name 84 = .ok (.iconst 1, 1) := by decide +kernel
theorem dX8_name_85 : decode cX8_name 85 = .ok (.iadd, 1) := by decide +kernel
theorem dX8_name_86 : decode cX8_name 86 = .ok (.iastore, 1) := by decide +kernel
theorem dX8_name_87 : decode cX8_name 87 = .ok (.iload_n 3, 1) := by decide +kernel
theorem dX8_name_88 : decode cX8_name 88 = .ok (.ireturn, 1) := by decide +kernel
theorem dX8_way_0 : decode cX8_way 0 = .ok (.aload_n 0, 1) := by decide +kernel
theorem dX8_way_1 : decode cX8_way 1 = .ok (.iload_n 1, 1) := by decide +kernel
theorem dX8_way_2 : decode cX8_way 2 = .ok (.invokevirtual 38, 3) := by decide +kernel
theorem dX8_way_5 : decode cX8_way 5 = .ok (.ifCond .eq 12, 3) := by decide +kernel
theorem dX8_way_8 : decode cX8_way 8 = .ok (.iload_n 2, 1) := by decide +kernel
theorem dX8_way_9 : decode cX8_way 9 = .ok (.iconst 0, 1) := by decide +kernel
theorem dX8_way_10 : decode cX8_way 10 = .ok (.iconst 2, 1) := by decide +kernel
theorem dX8_way_11 : decode cX8_way 11 = .ok (.invokestatic 46, 3) := by decide +kernel
theorem dX8_way_14 : decode cX8_way 14 = .ok (.ifCond .ne 5, 3) := by decide +kernel
theorem dX8_way_17 : decode cX8_way 17 = .ok (.iconst (-1), 1) := by decide +kernel
theorem dX8_way_18 : decode cX8_way 18 = .ok (.ireturn, 1) := by decide +kernel
theorem dX8_way_19 : decode cX8_way 19 = .ok (.aload_n 0, 1) := by decide +kernel
theorem dX8_way_20 : decode cX8_way 20 = .ok (.getfield 7, 3) := by decide +kernel
theorem dX8_way_23 : decode cX8_way 23 = .ok (.iconst 1, 1) := by decide +kernel
theorem dX8_way_24 : decode cX8_way 24 = .ok (.iaload, 1) := by decide +kernel
theorem dX8_way_25 : decode cX8_way 25 = .ok (.ifCond .le 6, 3) := by decide +kernel
theorem dX8_way_28 : decode cX8_way 28 = .ok (.bipush (-2), 2) := by decide +kernel
theorem dX8_way_30 : decode cX8_way 30 = .ok (.ireturn, 1) := by decide +kernel
theorem dX8_way_31 : decode cX8_way 31 = .ok (.aload_n 0, 1) := by decide +kernel
theorem dX8_way_32 : decode cX8_way 32 = .ok (.invokevirtual 50, 3) := by decide +kernel
theorem dX8_way_35 : decode cX8_way 35 = .ok (.aload_n 0, 1) := by decide +kernel
theorem dX8_way_36 : decode cX8_way 36 = .ok (.iload_n 1, 1) := by decide +kernel
theorem dX8_way_37 : decode cX8_way 37 = .ok (.iconst 2, 1) := by decide +kernel
theorem dX8_way_38 : decode cX8_way 38 = .ok (.invokevirtual 42, 3) := by decide +kernel
theorem dX8_way_41 : decode cX8_way 41 = .ok (.istore_n 3, 1) := by decide +kernel
theorem dX8_way_42 : decode cX8_way 42 = .ok (.aload_n 0, 1) := by decide +kernel
theorem dX8_way_43 : decode cX8_way 43 = .ok (.getfield 7, 3) := by decide +kernel
theorem dX8_way_46 : decode cX8_way 46 = .ok (.bipush 32, 2) := by decide +kernel
theorem dX8_way_48 : decode cX8_way 48 = .ok (.bipush 6, 2) := by decide +kernel
theorem dX8_way_50 : decode cX8_way 50 = .ok (.iload_n 1, 1) := by decide +kernel
theorem dX8_way_51 : decode cX8_way 51 = .ok (.imul, 1) := by decide +kernel
theorem dX8_way_52 : decode cX8_way 52 = .ok (.iadd, 1) := by decide +kernel
theorem dX8_way_53 : decode cX8_way 53 = .ok (.iconst 2, 1) := by decide +kernel
theorem dX8_way_54 : decode cX8_way 54 = .ok (.iadd, 1) := by decide +kernel
theorem dX8_way_55 : decode cX8_way 55 = .ok (.iload_n 2, 1) := by decide +kernel
theorem dX8_way_56 : decode cX8_way 56 = .ok (.iastore, 1) := by decide +kernel
theorem dX8_way_57 : decode cX8_way 57 = .ok (.iload_n 3, 1) := by decide +kernel
theorem dX8_way_58 : decode cX8_way 58 = .ok (.ireturn, 1) := by decide +kernel
theorem dX8_papers_0 : decode cX8_papers 0 = .ok (.aload_n 0, 1) := by decide +kernel
theorem dX8_papers_1 : decode cX8_papers 1 = .ok (.iload_n 1, 1) := by decide +kernel
theorem dX8_papers_2 : decode cX8_papers 2 = .ok (.invokevirtual 53, 3) := by decide +kernel
theorem dX8_papers_5 : decode cX8_papers 5 = .ok (.ifCond .eq 14, 3) := by decide +kernel
theorem dX8_papers_8 : decode cX8_papers 8 = .ok (.iload_n 2, 1) := by decide +kernel
theorem dX8_papers_9 : decode cX8_papers 9 = .ok (.iconst 0, 1) := by decide +kernel
theorem dX8_papers_10 : decode cX8_papers 10 = .ok (.sipush 9999, 3) := by decide +kernel
theorem dX8_papers_13 : decode cX8_papers 13 = .ok (.invokestatic 46, 3) := by decide +kernel
theorem dX8_papers_16 : decode cX8_papers 16 = .ok (.ifCond .ne 5, 3) := by decide +kernel
theorem dX8_papers_19 : decode cX8_papers 19 = .ok (.iconst (-1), 1) := by decide +kernel
theorem dX8_papers_20 : decode cX8_papers 20 = .ok (.ireturn, 1) := by decide +kernel
theorem dX8_papers_21 : decode cX8_papers 21 = .ok (.aload_n 0, 1) := by decide +kernel
theorem dX8_papers_22 : decode cX8_papers 22 = .ok (.invokevirtual 50, 3) := by decide +kernel
theorem dX8_papers_25 : decode cX8_papers 25 = .ok (.aload_n 0, 1) := by decide +kernel
theorem dX8_papers_26 : decode cX8_papers 26 = .ok (.getfield 7, 3) := by decide +kernel
theorem dX8_papers_29 : decode cX8_papers 29 = .ok (.bipush 8, 2) := by decide +kernel
theorem dX8_papers_31 : decode cX8_papers 31 = .ok (.iload_n 1, 1) := by decide +kernel
theorem dX8_papers_32 : decode cX8_papers 32 = .ok (.iadd, 1) := by decide +kernel
theorem dX8_papers_33 : decode cX8_papers 33 = .ok (.iaload, 1) := by decide +kernel
theorem dX8_papers_34 : decode cX8_papers 34 = .ok (.istore_n 3, 1) := by decide +kernel
theorem dX8_papers_35 : decode cX8_papers 35 = .ok (.aload_n 0, 1) := by decide +kernel
theorem dX8_papers_36 : decode cX8_papers 36 = .ok (.getfield 7, 3) := by decide +kernel
theorem dX8_papers_39 : decode cX8_papers 39 = .ok (.bipush 8, 2) := by decide +kernel
theorem dX8_papers_41 : decode cX8_papers 41 = .ok (.iload_n 1, 1) := by decide +kernel
theorem dX8_papers_42 : decode cX8_papers 42 = .ok (.iadd, 1) := by decide +kernel
theorem dX8_papers_43 : decode cX8_papers 43 = .ok (.iload_n 2, 1) := by decide +kernel
theorem dX8_papers_44 : decode cX8_papers 44 = .ok (.iastore, 1) := by decide +kernel
theorem dX8_papers_45 : decode cX8_papers 45 = .ok (.iload_n 3, 1) := by decide +kernel
theorem dX8_papers_46 : decode cX8_papers 46 = .ok (.ireturn, 1) := by decide +kernel
theorem dX8_isSetting_0 : decode cX8_isSetting 0 = .ok (.iload_n 0, 1) := by decide +kernel
theorem dX8_isSetting_1 : decode cX8_isSetting 1 = .ok (.tableswitch 99 0 5 #[39, 46, 55, 64, 71, 91], 39) := by decide +kernel
theorem dX8_isSetting_40 : decode cX8_isSetting 40 = .ok (.iload_n 1, 1) := by decide +kernel
theorem dX8_isSetting_41 : decode cX8_isSetting 41 = .ok (.iconst 1, 1) := by decide +kernel
theorem dX8_isSetting_42 : decode cX8_isSetting 42 = .ok (.iconst 4, 1) := by decide +kernel
theorem dX8_isSetting_43 : decode cX8_isSetting 43 = .ok (.invokestatic 46, 3) := by decide +kernel
theorem dX8_isSetting_46 : decode cX8_isSetting 46 = .ok (.ireturn, 1) := by decide +kernel
theorem dX8_isSetting_47 : decode cX8_isSetting 47 = .ok (.iload_n 1, 1) := by decide +kernel
theorem dX8_isSetting_48 : decode cX8_isSetting 48 = .ok (.bipush 16, 2) := by decide +kernel
theorem dX8_isSetting_50 : decode cX8_isSetting 50 = .ok (.bipush 60, 2) := by decide +kernel
theorem dX8_isSetting_52 : decode cX8_isSetting 52 = .ok (.invokestatic 46, 3) := by decide +kernel
theorem dX8_isSetting_55 : decode cX8_isSetting 55 = .ok (.ireturn, 1) := by decide +kernel
theorem dX8_isSetting_56 : decode cX8_isSetting 56 = .ok (.iload_n 1, 1) := by decide +kernel
theorem dX8_isSetting_57 : decode cX8_isSetting 57 = .ok (.bipush 8, 2) := by decide +kernel
theorem dX8_isSetting_59 : decode cX8_isSetting 59 = .ok (.bipush 40, 2) := by decide +kernel
theorem dX8_isSetting_61 : decode cX8_isSetting 61 = .ok (.invokestatic 46, 3) := by decide +kernel
theorem dX8_isSetting_64 : decode cX8_isSetting 64 = .ok (.ireturn, 1) := by decide +kernel
theorem dX8_isSetting_65 : decode cX8_isSetting 65 = .ok (.iload_n 1, 1) := by decide +kernel
theorem dX8_isSetting_66 : decode cX8_isSetting 66 = .ok (.iconst 1, 1) := by decide +kernel
theorem dX8_isSetting_67 : decode cX8_isSetting 67 = .ok (.iconst 3, 1) := by decide +kernel
theorem dX8_isSetting_68 : decode cX8_isSetting 68 = .ok (.invokestatic 46, 3) := by decide +kernel
theorem dX8_isSetting_71 : decode cX8_isSetting 71 = .ok (.ireturn, 1) := by decide +kernel
theorem dX8_isSetting_72 : decode cX8_isSetting 72 = .ok (.iload_n 1, 1) := by decide +kernel
theorem dX8_isSetting_73 : decode cX8_isSetting 73 = .ok (.ifCond .eq 13, 3) := by decide +kernel
theorem dX8_isSetting_76 : decode cX8_isSetting 76 = .ok (.iload_n 1, 1) := by decide +kernel
theorem dX8_isSetting_77 : decode cX8_isSetting 77 = .ok (.iconst 4, 1) := by decide +kernel
theorem dX8_isSetting_78 : decode cX8_isSetting 78 = .ok (.bipush 30, 2) := by decide +kernel
theorem dX8_isSetting_80 : decode cX8_isSetting 80 = .ok (.invokestatic 46, 3) := by decide +kernel
theorem dX8_isSetting_83 : decode cX8_isSetting 83 = .ok (.ifCond .eq 7, 3) := by decide +kernel
theorem dX8_isSetting_86 : decode cX8_isSetting 86 = .ok (.iconst 1, 1) := by decide +kernel
theorem dX8_isSetting_87 : decode cX8_isSetting 87 = .ok (.goto 4, 3) := by decide +kernel
theorem dX8_isSetting_90 : decode cX8_isSetting 90 = .ok (.iconst 0, 1) := by decide +kernel
theorem dX8_isSetting_91 : decode cX8_isSetting 91 = .ok (.ireturn, 1) := by decide +kernel
theorem dX8_isSetting_92 : decode cX8_isSetting 92 = .ok (.iload_n 1, 1) := by decide +kernel
theorem dX8_isSetting_93 : decode cX8_isSetting 93 = .ok (.iconst 1, 1) := by decide +kernel
theorem dX8_isSetting_94 : decode cX8_isSetting 94 = .ok (.bipush 24, 2) := by decide +kernel
theorem dX8_isSetting_96 : decode cX8_isSetting 96 = .ok (.invokestatic 46, 3) := by decide +kernel
theorem dX8_isSetting_99 : decode cX8_isSetting 99 = .ok (.ireturn, 1) := by decide +kernel
theorem dX8_isSetting_100 : decode cX8_isSetting 100 = .ok (.iconst 0, 1) := by decide +kernel
theorem dX8_isSetting_101 : decode cX8_isSetting 101 = .ok (.ireturn, 1) := by decide +kernel
theorem dX8_set_0 : decode cX8_set 0 = .ok (.iload_n 1, 1) := by decide +kernel
theorem dX8_set_1 : decode cX8_set 1 = .ok (.iload_n 2, 1) := by decide +kernel
theorem dX8_set_2 : decode cX8_set 2 = .ok (.invokestatic 56, 3) := by decide +kernel
theorem dX8_set_5 : decode cX8_set 5 = .ok (.ifCond .ne 5, 3) := by decide +kernel
theorem dX8_set_8 : decode cX8_set 8 = .ok (.iconst (-1), 1) := by decide +kernel
theorem dX8_set_9 : decode cX8_set 9 = .ok (.ireturn, 1) := by decide +kernel
theorem dX8_set_10 : decode cX8_set 10 = .ok (.aload_n 0, 1) := by decide +kernel
theorem dX8_set_11 : decode cX8_set 11 = .ok (.invokevirtual 50, 3) := by decide +kernel
theorem dX8_set_14 : decode cX8_set 14 = .ok (.aload_n 0, 1) := by decide +kernel
theorem dX8_set_15 : decode cX8_set 15 = .ok (.getfield 7, 3) := by decide +kernel
theorem dX8_set_18 : decode cX8_set 18 = .ok (.iconst 2, 1) := by decide +kernel
theorem dX8_set_19 : decode cX8_set 19 = .ok (.iload_n 1, 1) := by decide +kernel
theorem dX8_set_20 : decode cX8_set 20 = .ok (.iadd, 1) := by decide +kernel
theorem dX8_set_21 : decode cX8_set 21 = .ok (.iaload, 1) := by decide +kernel
theorem dX8_set_22 : decode cX8_set 22 = .ok (.istore_n 3, 1) := by decide +kernel
theorem dX8_set_23 : decode cX8_set 23 = .ok (.aload_n 0, 1) := by decide +kernel
theorem dX8_set_24 : decode cX8_set 24 = .ok (.getfield 7, 3) := by decide +kernel
theorem dX8_set_27 : decode cX8_set 27 = .ok (.iconst 2, 1) := by decide +kernel
theorem dX8_set_28 : decode cX8_set 28 = .ok (.iload_n 1, 1) := by decide +kernel
theorem dX8_set_29 : decode cX8_set 29 = .ok (.iadd, 1) := by decide +kernel
theorem dX8_set_30 : decode cX8_set 30 = .ok (.iload_n 2, 1) := by decide +kernel
theorem dX8_set_31 : decode cX8_set 31 = .ok (.iastore, 1) := by decide +kernel
theorem dX8_set_32 : decode cX8_set 32 = .ok (.aload_n 0, 1) := by decide +kernel
theorem dX8_set_33 : decode cX8_set 33 = .ok (.getfield 7, 3) := by decide +kernel
theorem dX8_set_36 : decode cX8_set 36 = .ok (.bipush 7, 2) := by decide +kernel
theorem dX8_set_38 : decode cX8_set 38 = .ok (.iaload, 1) := by decide +kernel
theorem dX8_set_39 : decode cX8_set 39 = .ok (.istore 4, 2) := by decide +kernel
theorem dX8_set_41 : decode cX8_set 41 = .ok (.iload 4, 2) := by decide +kernel
theorem dX8_set_43 : decode cX8_set 43 = .ok (.bipush 24, 2) := by decide +kernel
theorem dX8_set_45 : decode cX8_set 45 = .ok (.if_icmp .ge 20, 3) := by decide +kernel
theorem dX8_set_48 : decode cX8_set 48 = .ok (.aload_n 0, 1) := by decide +kernel
theorem dX8_set_49 : decode cX8_set 49 = .ok (.getfield 7, 3) := by decide +kernel
theorem dX8_set_52 : decode cX8_set 52 = .ok (.bipush 8, 2) := by decide +kernel
theorem dX8_set_54 : decode cX8_set 54 = .ok (.iload 4, 2) := by decide +kernel
theorem dX8_set_56 : decode cX8_set 56 = .ok (.iadd, 1) := by decide +kernel
theorem dX8_set_57 : decode cX8_set 57 = .ok (.iconst 0, 1) := by decide +kernel
theorem dX8_set_58 : decode cX8_set 58 = .ok (.iastore, 1) := by decide +kernel
theorem dX8_set_59 : decode cX8_set 59 = .ok (.iinc 4 1, 3) := by decide +kernel
theorem dX8_set_62 : decode cX8_set 62 = .ok (.goto (-21), 3) := by decide +kernel
theorem dX8_set_65 : decode cX8_set 65 = .ok (.iload_n 3, 1) := by decide +kernel
theorem dX8_set_66 : decode cX8_set 66 = .ok (.ireturn, 1) := by decide +kernel
theorem dX8_clear_0 : decode cX8_clear 0 = .ok (.aload_n 0, 1) := by decide +kernel
theorem dX8_clear_1 : decode cX8_clear 1 = .ok (.invokevirtual 50, 3) := by decide +kernel
theorem dX8_clear_4 : decode cX8_clear 4 = .ok (.aload_n 0, 1) := by decide +kernel
theorem dX8_clear_5 : decode cX8_clear 5 = .ok (.getfield 7, 3) := by decide +kernel
theorem dX8_clear_8 : decode cX8_clear 8 = .ok (.iconst 1, 1) := by decide +kernel
theorem dX8_clear_9 : decode cX8_clear 9 = .ok (.iaload, 1) := by decide +kernel
theorem dX8_clear_10 : decode cX8_clear 10 = .ok (.istore_n 1, 1) := by decide +kernel
theorem dX8_clear_11 : decode cX8_clear 11 = .ok (.aload_n 0, 1) := by decide +kernel
theorem dX8_clear_12 : decode cX8_clear 12 = .ok (.getfield 7, 3) := by decide +kernel
theorem dX8_clear_15 : decode cX8_clear 15 = .ok (.iconst 1, 1) := by decide +kernel
theorem dX8_clear_16 : decode cX8_clear 16 = .ok (.iconst 0, 1) := by decide +kernel
theorem dX8_clear_17 : decode cX8_clear 17 = .ok (.iastore, 1) := by decide +kernel
theorem dX8_clear_18 : decode cX8_clear 18 = .ok (.iconst 0, 1) := by decide +kernel
theorem dX8_clear_19 : decode cX8_clear 19 = .ok (.istore_n 2, 1) := by decide +kernel
theorem dX8_clear_20 : decode cX8_clear 20 = .ok (.iload_n 2, 1) := by decide +kernel
theorem dX8_clear_21 : decode cX8_clear 21 = .ok (.bipush 6, 2) := by decide +kernel
theorem dX8_clear_23 : decode cX8_clear 23 = .ok (.if_icmp .ge 72, 3) := by decide +kernel
theorem dX8_clear_26 : decode cX8_clear 26 = .ok (.aload_n 0, 1) := by decide +kernel
theorem dX8_clear_27 : decode cX8_clear 27 = .ok (.getfield 7, 3) := by decide +kernel
theorem dX8_clear_30 : decode cX8_clear 30 = .ok (.bipush 32, 2) := by decide +kernel
theorem dX8_clear_32 : decode cX8_clear 32 = .ok (.bipush 6, 2) := by decide +kernel
theorem dX8_clear_34 : decode cX8_clear 34 = .ok (.iload_n 2, 1) := by decide +kernel
theorem dX8_clear_35 : decode cX8_clear 35 = .ok (.imul, 1) := by decide +kernel
theorem dX8_clear_36 : decode cX8_clear 36 = .ok (.iadd, 1) := by decide +kernel
theorem dX8_clear_37 : decode cX8_clear 37 = .ok (.iconst 4, 1) := by decide +kernel
theorem dX8_clear_38 : decode cX8_clear 38 = .ok (.iadd, 1) := by decide +kernel
theorem dX8_clear_39 : decode cX8_clear 39 = .ok (.iconst 0, 1) := by decide +kernel
theorem dX8_clear_40 : decode cX8_clear 40 = .ok (.iastore, 1) := by decide +kernel
theorem dX8_clear_41 : decode cX8_clear 41 = .ok (.aload_n 0, 1) := by decide +kernel
theorem dX8_clear_42 : decode cX8_clear 42 = .ok (.getfield 7, 3) := by decide +kernel
theorem dX8_clear_45 : decode cX8_clear 45 = .ok (.bipush 32, 2) := by decide +kernel
theorem dX8_clear_47 : decode cX8_clear 47 = .ok (.bipush 6, 2) := by decide +kernel
theorem dX8_clear_49 : decode cX8_clear 49 = .ok (.iload_n 2, 1) := by decide +kernel
theorem dX8_clear_50 : decode cX8_clear 50 = .ok (.imul, 1) := by decide +kernel
theorem dX8_clear_51 : decode cX8_clear 51 = .ok (.iadd, 1) := by decide +kernel
theorem dX8_clear_52 : decode cX8_clear 52 = .ok (.iconst 5, 1) := by decide +kernel
theorem dX8_clear_53 : decode cX8_clear 53 = .ok (.iadd, 1) := by decide +kernel
theorem dX8_clear_54 : decode cX8_clear 54 = .ok (.iconst 0, 1) := by decide +kernel
theorem dX8_clear_55 : decode cX8_clear 55 = .ok (.iastore, 1) := by decide +kernel
theorem dX8_clear_56 : decode cX8_clear 56 = .ok (.iconst 0, 1) := by decide +kernel
theorem dX8_clear_57 : decode cX8_clear 57 = .ok (.istore_n 3, 1) := by decide +kernel
theorem dX8_clear_58 : decode cX8_clear 58 = .ok (.iload_n 3, 1) := by decide +kernel
theorem dX8_clear_59 : decode cX8_clear 59 = .ok (.bipush 8, 2) := by decide +kernel
theorem dX8_clear_61 : decode cX8_clear 61 = .ok (.if_icmp .ge 28, 3) := by decide +kernel
theorem dX8_clear_64 : decode cX8_clear 64 = .ok (.aload_n 0, 1) := by decide +kernel
theorem dX8_clear_65 : decode cX8_clear 65 = .ok (.getfield 7, 3) := by decide +kernel
theorem dX8_clear_68 : decode cX8_clear 68 = .ok (.bipush 68, 2) := by decide +kernel
theorem dX8_clear_70 : decode cX8_clear 70 = .ok (.bipush 16, 2) := by decide +kernel
theorem dX8_clear_72 : decode cX8_clear 72 = .ok (.iload_n 2, 1) := by decide +kernel
theorem dX8_clear_73 : decode cX8_clear 73 = .ok (.imul, 1) := by decide +kernel
theorem dX8_clear_74 : decode cX8_clear 74 = .ok (.iadd, 1) := by decide +kernel
theorem dX8_clear_75 : decode cX8_clear 75 = .ok (.iconst 2, 1) := by decide +kernel
theorem dX8_clear_76 : decode cX8_clear 76 = .ok (.iload_n 3, 1) := by decide +kernel
theorem dX8_clear_77 : decode cX8_clear 77 = .ok (.imul, 1) := by decide +kernel
theorem dX8_clear_78 : decode cX8_clear 78 = .ok (.iadd, 1) := by decide +kernel
theorem dX8_clear_79 : decode cX8_clear 79 = .ok (.iconst 1, 1) := by decide +kernel
theorem dX8_clear_80 : decode cX8_clear 80 = .ok (.iadd, 1) := by decide +kernel
theorem dX8_clear_81 : decode cX8_clear 81 = .ok (.iconst 0, 1) := by decide +kernel
theorem dX8_clear_82 : decode cX8_clear 82 = .ok (.iastore, 1) := by decide +kernel
theorem dX8_clear_83 : decode cX8_clear 83 = .ok (.iinc 3 1, 3) := by decide +kernel
theorem dX8_clear_86 : decode cX8_clear 86 = .ok (.goto (-28), 3) := by decide +kernel
theorem dX8_clear_89 : decode cX8_clear 89 = .ok (.iinc 2 1, 3) := by decide +kernel
theorem dX8_clear_92 : decode cX8_clear 92 = .ok (.goto (-72), 3) := by decide +kernel
theorem dX8_clear_95 : decode cX8_clear 95 = .ok (.iload_n 1, 1) := by decide +kernel
theorem dX8_clear_96 : decode cX8_clear 96 = .ok (.ireturn, 1) := by decide +kernel
theorem dX8_standing_0 : decode cX8_standing 0 = .ok (.aload_n 0, 1) := by decide +kernel
theorem dX8_standing_1 : decode cX8_standing 1 = .ok (.iload_n 2, 1) := by decide +kernel
theorem dX8_standing_2 : decode cX8_standing 2 = .ok (.iconst 3, 1) := by decide +kernel
theorem dX8_standing_3 : decode cX8_standing 3 = .ok (.invokevirtual 42, 3) := by decide +kernel
theorem dX8_standing_6 : decode cX8_standing 6 = .ok (.istore 4, 2) := by decide +kernel
theorem dX8_standing_8 : decode cX8_standing 8 = .ok (.aload_n 0, 1) := by decide +kernel
theorem dX8_standing_9 : decode cX8_standing 9 = .ok (.iload_n 2, 1) := by decide +kernel
theorem dX8_standing_10 : decode cX8_standing 10 = .ok (.iconst 2, 1) := by decide +kernel
theorem dX8_standing_11 : decode cX8_standing 11 = .ok (.invokevirtual 42, 3) := by decide +kernel
theorem dX8_standing_14 : decode cX8_standing 14 = .ok (.lookupswitch 38 #[(0, 26), (1, 28)], 26) := by decide +kernel
theorem dX8_standing_40 : decode cX8_standing 40 = .ok (.iload_n 3, 1) := by decide +kernel
theorem dX8_standing_41 : decode cX8_standing 41 = .ok (.ireturn, 1) := by decide +kernel
theorem dX8_standing_42 : decode cX8_standing 42 = .ok (.iload_n 1, 1) := by decide +kernel
theorem dX8_standing_43 : decode cX8_standing 43 = .ok (.iload 4, 2) := by decide +kernel
theorem dX8_standing_45 : decode cX8_standing 45 = .ok (.irem, 1) := by decide +kernel
theorem dX8_standing_46 : decode cX8_standing 46 = .ok (.iload_n 3, 1) := by decide +kernel
theorem dX8_standing_47 : decode cX8_standing 47 = .ok (.iadd, 1) := by decide +kernel
theorem dX8_standing_48 : decode cX8_standing 48 = .ok (.iload 4, 2) := by decide +kernel
theorem dX8_standing_50 : decode cX8_standing 50 = .ok (.irem, 1) := by decide +kernel
theorem dX8_standing_51 : decode cX8_standing 51 = .ok (.ireturn, 1) := by decide +kernel
theorem dX8_standing_52 : decode cX8_standing 52 = .ok (.iload_n 1, 1) := by decide +kernel
theorem dX8_standing_53 : decode cX8_standing 53 = .ok (.iconst 2, 1) := by decide +kernel
theorem dX8_standing_54 : decode cX8_standing 54 = .ok (.irem, 1) := by decide +kernel
theorem dX8_standing_55 : decode cX8_standing 55 = .ok (.ifCond .ne 7, 3) := by decide +kernel
theorem dX8_standing_58 : decode cX8_standing 58 = .ok (.iload_n 3, 1) := by decide +kernel
theorem dX8_standing_59 : decode cX8_standing 59 = .ok (.goto 9, 3) := by decide +kernel
theorem dX8_standing_62 : decode cX8_standing 62 = .ok (.iload 4, 2) := by decide +kernel
theorem dX8_standing_64 : decode cX8_standing 64 = .ok (.iconst 1, 1) := by decide +kernel
theorem dX8_standing_65 : decode cX8_standing 65 = .ok (.isub, 1) := by decide +kernel
theorem dX8_standing_66 : decode cX8_standing 66 = .ok (.iload_n 3, 1) := by decide +kernel
theorem dX8_standing_67 : decode cX8_standing 67 = .ok (.isub, 1) := by decide +kernel
theorem dX8_standing_68 : decode cX8_standing 68 = .ok (.ireturn, 1) := by decide +kernel
theorem dX8_placeOf_0 : decode cX8_placeOf 0 = .ok (.iconst 0, 1) := by decide +kernel
theorem dX8_placeOf_1 : decode cX8_placeOf 1 = .ok (.istore 4, 2) := by decide +kernel
theorem dX8_placeOf_3 : decode cX8_placeOf 3 = .ok (.aload_n 0, 1) := by decide +kernel
theorem dX8_placeOf_4 : decode cX8_placeOf 4 = .ok (.iload_n 1, 1) := by decide +kernel
theorem dX8_placeOf_5 : decode cX8_placeOf 5 = .ok (.iload_n 2, 1) := by decide +kernel
theorem dX8_placeOf_6 : decode cX8_placeOf 6 = .ok (.iload 4, 2) := by decide +kernel
theorem dX8_placeOf_8 : decode cX8_placeOf 8 = .ok (.invokevirtual 60, 3) := by decide +kernel
theorem dX8_placeOf_11 : decode cX8_placeOf 11 = .ok (.iload_n 3, 1) := by decide +kernel
theorem dX8_placeOf_12 : decode cX8_placeOf 12 = .ok (.if_icmp .eq 9, 3) := by decide +kernel
theorem dX8_placeOf_15 : decode cX8_placeOf 15 = .ok (.iinc 4 1, 3) := by decide +kernel
theorem dX8_placeOf_18 : decode cX8_placeOf 18 = .ok (.goto (-15), 3) := by decide +kernel
theorem dX8_placeOf_21 : decode cX8_placeOf 21 = .ok (.iload 4, 2) := by decide +kernel
theorem dX8_placeOf_23 : decode cX8_placeOf 23 = .ok (.ireturn, 1) := by decide +kernel
theorem dX8_firstOn_0 : decode cX8_firstOn 0 = .ok (.iconst 0, 1) := by decide +kernel
theorem dX8_firstOn_1 : decode cX8_firstOn 1 = .ok (.istore_n 3, 1) := by decide +kernel
theorem dX8_firstOn_2 : decode cX8_firstOn 2 = .ok (.iconst 0, 1) := by decide +kernel
theorem dX8_firstOn_3 : decode cX8_firstOn 3 = .ok (.istore 4, 2) := by decide +kernel
theorem dX8_firstOn_5 : decode cX8_firstOn 5 = .ok (.iload 4, 2) := by decide +kernel
theorem dX8_firstOn_7 : decode cX8_firstOn 7 = .ok (.aload_n 0, 1) := by decide +kernel
theorem dX8_firstOn_8 : decode cX8_firstOn 8 = .ok (.getfield 7, 3) := by decide +kernel
theorem dX8_firstOn_11 : decode cX8_firstOn 11 = .ok (.bipush 7, 2) := by decide +kernel
theorem dX8_firstOn_13 : decode cX8_firstOn 13 = .ok (.iaload, 1) := by decide +kernel
theorem dX8_firstOn_14 : decode cX8_firstOn 14 = .ok (.if_icmp .ge 38, 3) := by decide +kernel
theorem dX8_firstOn_17 : decode cX8_firstOn 17 = .ok (.iload_n 3, 1) := by decide +kernel
theorem dX8_firstOn_18 : decode cX8_firstOn 18 = .ok (.aload_n 0, 1) := by decide +kernel
theorem dX8_firstOn_19 : decode cX8_firstOn 19 = .ok (.iload 4, 2) := by decide +kernel
theorem dX8_firstOn_21 : decode cX8_firstOn 21 = .ok (.iload_n 1, 1) := by decide +kernel
theorem dX8_firstOn_22 : decode cX8_firstOn 22 = .ok (.iconst 0, 1) := by decide +kernel
theorem dX8_firstOn_23 : decode cX8_firstOn 23 = .ok (.invokevirtual 60, 3) := by decide +kernel
theorem dX8_firstOn_26 : decode cX8_firstOn 26 = .ok (.iload_n 2, 1) := by decide +kernel
theorem dX8_firstOn_27 : decode cX8_firstOn 27 = .ok (.if_icmp .ne 16, 3) := by decide +kernel
theorem dX8_firstOn_30 : decode cX8_firstOn 30 = .ok (.aload_n 0, 1) := by decide +kernel
theorem dX8_firstOn_31 : decode cX8_firstOn 31 = .ok (.getfield 7, 3) := by decide +kernel
theorem dX8_firstOn_34 : decode cX8_firstOn 34 = .ok (.bipush 8, 2) := by decide +kernel
theorem dX8_firstOn_36 : decode cX8_firstOn 36 = .ok (.iload 4, 2) := by decide +kernel
theorem dX8_firstOn_38 : decode cX8_firstOn 38 = .ok (.iadd, 1) := by decide +kernel
theorem dX8_firstOn_39 : decode cX8_firstOn 39 = .ok (.iaload, 1) := by decide +kernel
theorem dX8_firstOn_40 : decode cX8_firstOn 40 = .ok (.goto 4, 3) := by decide +kernel
theorem dX8_firstOn_43 : decode cX8_firstOn 43 = .ok (.iconst 0, 1) := by decide +kernel
theorem dX8_firstOn_44 : decode cX8_firstOn 44 = .ok (.iadd, 1) := by decide +kernel
theorem dX8_firstOn_45 : decode cX8_firstOn 45 = .ok (.istore_n 3, 1) := by decide +kernel
theorem dX8_firstOn_46 : decode cX8_firstOn 46 = .ok (.iinc 4 1, 3) := by decide +kernel
theorem dX8_firstOn_49 : decode cX8_firstOn 49 = .ok (.goto (-44), 3) := by decide +kernel
theorem dX8_firstOn_52 : decode cX8_firstOn 52 = .ok (.iload_n 3, 1) := by decide +kernel
theorem dX8_firstOn_53 : decode cX8_firstOn 53 = .ok (.ireturn, 1) := by decide +kernel
theorem dX8_parts_0 : decode cX8_parts 0 = .ok (.iload_n 0, 1) := by decide +kernel
theorem dX8_parts_1 : decode cX8_parts 1 = .ok (.iload_n 1, 1) := by decide +kernel
theorem dX8_parts_2 : decode cX8_parts 2 = .ok (.iadd, 1) := by decide +kernel
theorem dX8_parts_3 : decode cX8_parts 3 = .ok (.iconst 1, 1) := by decide +kernel
theorem dX8_parts_4 : decode cX8_parts 4 = .ok (.isub, 1) := by decide +kernel
theorem dX8_parts_5 : decode cX8_parts 5 = .ok (.iload_n 1, 1) := by decide +kernel
theorem dX8_parts_6 : decode cX8_parts 6 = .ok (.idiv, 1) := by decide +kernel
theorem dX8_parts_7 : decode cX8_parts 7 = .ok (.ireturn, 1) := by decide +kernel
theorem dX8_titleLines_0 : decode cX8_titleLines 0 = .ok (.aload_n 0, 1) := by decide +kernel
theorem dX8_titleLines_1 : decode cX8_titleLines 1 = .ok (.iload_n 1, 1) := by decide +kernel
theorem dX8_titleLines_2 : decode cX8_titleLines 2 = .ok (.iconst 0, 1) := by decide +kernel
theorem dX8_titleLines_3 : decode cX8_titleLines 3 = .ok (.invokevirtual 42, 3) := by decide +kernel
theorem dX8_titleLines_6 : decode cX8_titleLines 6 = .ok (.aload_n 0, 1) := by decide +kernel
theorem dX8_titleLines_7 : decode cX8_titleLines 7 = .ok (.getfield 7, 3) := by decide +kernel
theorem dX8_titleLines_10 : decode cX8_titleLines 10 = .ok (.iconst 4, 1) := by decide +kernel
theorem dX8_titleLines_11 : decode cX8_titleLines 11 = .ok (.iaload, 1) := by decide +kernel
theorem dX8_titleLines_12 : decode cX8_titleLines 12 = .ok (.invokestatic 64, 3) := by decide +kernel
theorem dX8_titleLines_15 : decode cX8_titleLines 15 = .ok (.aload_n 0, 1) := by decide +kernel
theorem dX8_titleLines_16 : decode cX8_titleLines 16 = .ok (.getfield 7, 3) := by decide +kernel
theorem dX8_titleLines_19 : decode cX8_titleLines 19 = .ok (.iconst 5, 1) := by decide +kernel
theorem dX8_titleLines_20 : decode cX8_titleLines 20 = .ok (.iaload, 1) := by decide +kernel
theorem dX8_titleLines_21 : decode cX8_titleLines 21 = .ok (.imul, 1) := by decide +kernel
theorem dX8_titleLines_22 : decode cX8_titleLines 22 = .ok (.ireturn, 1) := by decide +kernel
theorem dX8_nameLines_0 : decode cX8_nameLines 0 = .ok (.aload_n 0, 1) := by decide +kernel
theorem dX8_nameLines_1 : decode cX8_nameLines 1 = .ok (.iload_n 1, 1) := by decide +kernel
theorem dX8_nameLines_2 : decode cX8_nameLines 2 = .ok (.iload_n 2, 1) := by decide +kernel
theorem dX8_nameLines_3 : decode cX8_nameLines 3 = .ok (.invokevirtual 67, 3) := by decide +kernel
theorem dX8_nameLines_6 : decode cX8_nameLines 6 = .ok (.aload_n 0, 1) := by decide +kernel
theorem dX8_nameLines_7 : decode cX8_nameLines 7 = .ok (.getfield 7, 3) := by decide +kernel
theorem dX8_nameLines_10 : decode cX8_nameLines 10 = .ok (.iconst 4, 1) := by decide +kernel
theorem dX8_nameLines_11 : decode cX8_nameLines 11 = .ok (.iaload, 1) := by decide +kernel
theorem dX8_nameLines_12 : decode cX8_nameLines 12 = .ok (.iconst 3, 1) := by decide +kernel
theorem dX8_nameLines_13 : decode cX8_nameLines 13 = .ok (.isub, 1) := by decide +kernel
theorem dX8_nameLines_14 : decode cX8_nameLines 14 = .ok (.invokestatic 64, 3) := by decide +kernel
theorem dX8_nameLines_17 : decode cX8_nameLines 17 = .ok (.ireturn, 1) := by decide +kernel
theorem dX8_isFold_0 : decode cX8_isFold 0 = .ok (.aload_n 0, 1) := by decide +kernel
theorem dX8_isFold_1 : decode cX8_isFold 1 = .ok (.getfield 7, 3) := by decide +kernel
theorem dX8_isFold_4 : decode cX8_isFold 4 = .ok (.bipush 6, 2) := by decide +kernel
theorem dX8_isFold_6 : decode cX8_isFold 6 = .ok (.iaload, 1) := by decide +kernel
theorem dX8_isFold_7 : decode cX8_isFold 7 = .ok (.ifCond .le 21, 3) := by decide +kernel
theorem dX8_isFold_10 : decode cX8_isFold 10 = .ok (.iload_n 1, 1) := by decide +kernel
theorem dX8_isFold_11 : decode cX8_isFold 11 = .ok (.iconst 1, 1) := by decide +kernel
theorem dX8_isFold_12 : decode cX8_isFold 12 = .ok (.iadd, 1) := by decide +kernel
theorem dX8_isFold_13 : decode cX8_isFold 13 = .ok (.aload_n 0, 1) := by decide +kernel
theorem dX8_isFold_14 : decode cX8_isFold 14 = .ok (.getfield 7, 3) := by decide +kernel
theorem dX8_isFold_17 : decode cX8_isFold 17 = .ok (.bipush 6, 2) := by decide +kernel
theorem dX8_isFold_19 : decode cX8_isFold 19 = .ok (.iaload, 1) := by decide +kernel
theorem dX8_isFold_20 : decode cX8_isFold 20 = .ok (.irem, 1) := by decide +kernel
theorem dX8_isFold_21 : decode cX8_isFold 21 = .ok (.ifCond .ne 7, 3) := by decide +kernel
theorem dX8_isFold_24 : decode cX8_isFold 24 = .ok (.iconst 1, 1) := by decide +kernel
theorem dX8_isFold_25 : decode cX8_isFold 25 = .ok (.goto 4, 3) := by decide +kernel
theorem dX8_isFold_28 : decode cX8_isFold 28 = .ok (.iconst 0, 1) := by decide +kernel
theorem dX8_isFold_29 : decode cX8_isFold 29 = .ok (.ireturn, 1) := by decide +kernel
theorem dX8_pushed_0 : decode cX8_pushed 0 = .ok (.aload_n 0, 1) := by decide +kernel
theorem dX8_pushed_1 : decode cX8_pushed 1 = .ok (.iload_n 1, 1) := by decide +kernel
theorem dX8_pushed_2 : decode cX8_pushed 2 = .ok (.invokevirtual 70, 3) := by decide +kernel
theorem dX8_pushed_5 : decode cX8_pushed 5 = .ok (.ifCond .eq 9, 3) := by decide +kernel
theorem dX8_pushed_8 : decode cX8_pushed 8 = .ok (.iload_n 1, 1) := by decide +kernel
theorem dX8_pushed_9 : decode cX8_pushed 9 = .ok (.iconst 1, 1) := by decide +kernel
theorem dX8_pushed_10 : decode cX8_pushed 10 = .ok (.iadd, 1) := by decide +kernel
theorem dX8_pushed_11 : decode cX8_pushed 11 = .ok (.goto 4, 3) := by decide +kernel
theorem dX8_pushed_14 : decode cX8_pushed 14 = .ok (.iload_n 1, 1) := by decide +kernel
theorem dX8_pushed_15 : decode cX8_pushed 15 = .ok (.ireturn, 1) := by decide +kernel
theorem dX8_laysName_0 : decode cX8_laysName 0 = .ok (.aload_n 0, 1) := by decide +kernel
theorem dX8_laysName_1 : decode cX8_laysName 1 = .ok (.iload_n 1, 1) := by decide +kernel
theorem dX8_laysName_2 : decode cX8_laysName 2 = .ok (.iload_n 2, 1) := by decide +kernel
theorem dX8_laysName_3 : decode cX8_laysName 3 = .ok (.invokevirtual 73, 3) := by decide +kernel
theorem dX8_laysName_6 : decode cX8_laysName 6 = .ok (.istore_n 3, 1) := by decide +kernel
theorem dX8_laysName_7 : decode cX8_laysName 7 = .ok (.aload_n 0, 1) := by decide +kernel
theorem dX8_laysName_8 : decode cX8_laysName 8 = .ok (.aload_n 0, 1) := by decide +kernel
theorem dX8_laysName_9 : decode cX8_laysName 9 = .ok (.getfield 76, 3) := by decide +kernel
theorem dX8_laysName_12 : decode cX8_laysName 12 = .ok (.invokevirtual 79, 3) := by decide +kernel
theorem dX8_laysName_15 : decode cX8_laysName 15 = .ok (.istore 4, 2) := by decide +kernel
theorem dX8_laysName_17 : decode cX8_laysName 17 = .ok (.iload 4, 2) := by decide +kernel
theorem dX8_laysName_19 : decode cX8_laysName 19 = .ok (.iload_n 3, 1) := by decide +kernel
theorem dX8_laysName_20 : decode cX8_laysName 20 = .ok (.iadd, 1) := by decide +kernel
theorem dX8_laysName_21 : decode cX8_laysName 21 = .ok (.aload_n 0, 1) := by decide +kernel
theorem dX8_laysName_22 : decode cX8_laysName 22 = .ok (.getfield 7, 3) := by decide +kernel
theorem dX8_laysName_25 : decode cX8_laysName 25 = .ok (.iconst 3, 1) := by decide +kernel
theorem dX8_laysName_26 : decode cX8_laysName 26 = .ok (.iaload, 1) := by decide +kernel
theorem dX8_laysName_27 : decode cX8_laysName 27 = .ok (.if_icmp .le 29, 3) := by decide +kernel
theorem dX8_laysName_30 : decode cX8_laysName 30 = .ok (.aload_n 0, 1) := by decide +kernel
theorem dX8_laysName_31 : decode cX8_laysName 31 = .ok (.dup, 1) := by decide +kernel
theorem dX8_laysName_32 : decode cX8_laysName 32 = .ok (.getfield 83, 3) := by decide +kernel
theorem dX8_laysName_35 : decode cX8_laysName 35 = .ok (.iconst 1, 1) := by decide +kernel
theorem dX8_laysName_36 : decode cX8_laysName 36 = .ok (.iadd, 1) := by decide +kernel
theorem dX8_laysName_37 : decode cX8_laysName 37 = .ok (.putfield 83, 3) := by decide +kernel
theorem dX8_laysName_40 : decode cX8_laysName 40 = .ok (.iconst 0, 1) := by decide +kernel
theorem dX8_laysName_41 : decode cX8_laysName 41 = .ok (.istore 4, 2) := by decide +kernel
theorem dX8_laysName_43 : decode cX8_laysName 43 = .ok (.aload_n 0, 1) := by decide +kernel
theorem dX8_laysName_44 : decode cX8_laysName 44 = .ok (.dup, 1) := by decide +kernel
theorem dX8_laysName_45 : decode cX8_laysName 45 = .ok (.getfield 86, 3) := by decide +kernel
theorem dX8_laysName_48 : decode cX8_laysName 48 = .ok (.iconst 1, 1) := by decide +kernel
theorem dX8_laysName_49 : decode cX8_laysName 49 = .ok (.iadd, 1) := by decide +kernel
theorem dX8_laysName_50 : decode cX8_laysName 50 = .ok (.putfield 86, 3) := by decide +kernel
theorem dX8_laysName_53 : decode cX8_laysName 53 = .ok (.goto 26, 3) := by decide +kernel
theorem dX8_laysName_56 : decode cX8_laysName 56 = .ok (.aload_n 0, 1) := by decide +kernel
theorem dX8_laysName_57 : decode cX8_laysName 57 = .ok (.dup, 1) := by decide +kernel
theorem dX8_laysName_58 : decode cX8_laysName 58 = .ok (.getfield 89, 3) := by decide +kernel
theorem dX8_laysName_61 : decode cX8_laysName 61 = .ok (.iload 4, 2) := by decide +kernel
theorem dX8_laysName_63 : decode cX8_laysName 63 = .ok (.aload_n 0, 1) := by decide +kernel
theorem dX8_laysName_64 : decode cX8_laysName 64 = .ok (.getfield 76, 3) := by decide +kernel
theorem dX8_laysName_67 : decode cX8_laysName 67 = .ok (.if_icmp .le 7, 3) := by decide +kernel
theorem dX8_laysName_70 : decode cX8_laysName 70 = .ok (.iconst 1, 1) := by decide +kernel
theorem dX8_laysName_71 : decode cX8_laysName 71 = .ok (.goto 4, 3) := by decide +kernel
theorem dX8_laysName_74 : decode cX8_laysName 74 = .ok (.iconst 0, 1) := by decide +kernel
theorem dX8_laysName_75 : decode cX8_laysName 75 = .ok (.iadd, 1) := by decide +kernel
theorem dX8_laysName_76 : decode cX8_laysName 76 = .ok (.putfield 89, 3) := by decide +kernel
theorem dX8_laysName_79 : decode cX8_laysName 79 = .ok (.aload_n 0, 1) := by decide +kernel
theorem dX8_laysName_80 : decode cX8_laysName 80 = .ok (.getfield 19, 3) := by decide +kernel
theorem dX8_laysName_83 : decode cX8_laysName 83 = .ok (.bipush 8, 2) := by decide +kernel
theorem dX8_laysName_85 : decode cX8_laysName 85 = .ok (.iload_n 1, 1) := by decide +kernel
theorem dX8_laysName_86 : decode cX8_laysName 86 = .ok (.imul, 1) := by decide +kernel
theorem dX8_laysName_87 : decode cX8_laysName 87 = .ok (.iload_n 2, 1) := by decide +kernel
theorem dX8_laysName_88 : decode cX8_laysName 88 = .ok (.iadd, 1) := by decide +kernel
theorem dX8_laysName_89 : decode cX8_laysName 89 = .ok (.aload_n 0, 1) := by decide +kernel
theorem dX8_laysName_90 : decode cX8_laysName 90 = .ok (.getfield 83, 3) := by decide +kernel
theorem dX8_laysName_93 : decode cX8_laysName 93 = .ok (.iastore, 1) := by decide +kernel
theorem dX8_laysName_94 : decode cX8_laysName 94 = .ok (.aload_n 0, 1) := by decide +kernel
theorem dX8_laysName_95 : decode cX8_laysName 95 = .ok (.getfield 22, 3) := by decide +kernel
theorem dX8_laysName_98 : decode cX8_laysName 98 = .ok (.bipush 8, 2) := by decide +kernel
theorem dX8_laysName_100 : decode cX8_laysName 100 = .ok (.iload_n 1, 1) := by decide +kernel
theorem dX8_laysName_101 : decode cX8_laysName 101 = .ok (.imul, 1) := by decide +kernel
theorem dX8_laysName_102 : decode cX8_laysName 102 = .ok (.iload_n 2, 1) := by decide +kernel
theorem dX8_laysName_103 : decode cX8_laysName 103 = .ok (.iadd, 1) := by decide +kernel
theorem dX8_laysName_104 : decode cX8_laysName 104 = .ok (.iload 4, 2) := by decide +kernel
theorem dX8_laysName_106 : decode cX8_laysName 106 = .ok (.iastore, 1) := by decide +kernel
theorem dX8_laysName_107 : decode cX8_laysName 107 = .ok (.aload_n 0, 1) := by decide +kernel
theorem dX8_laysName_108 : decode cX8_laysName 108 = .ok (.iload 4, 2) := by decide +kernel
theorem dX8_laysName_110 : decode cX8_laysName 110 = .ok (.iload_n 3, 1) := by decide +kernel
theorem dX8_laysName_111 : decode cX8_laysName 111 = .ok (.iadd, 1) := by decide +kernel
theorem dX8_laysName_112 : decode cX8_laysName 112 = .ok (.putfield 76, 3) := by decide +kernel
theorem dX8_laysName_115 : decode cX8_laysName 115 = .ok (.aload_n 0, 1) := by decide +kernel
theorem dX8_laysName_116 : decode cX8_laysName 116 = .ok (.dup, 1) := by decide +kernel
theorem dX8_laysName_117 : decode cX8_laysName 117 = .ok (.getfield 92, 3) := by decide +kernel
theorem dX8_laysName_120 : decode cX8_laysName 120 = .ok (.iload_n 3, 1) := by decide +kernel
theorem dX8_laysName_121 : decode cX8_laysName 121 = .ok (.iadd, 1) := by decide +kernel
theorem dX8_laysName_122 : decode cX8_laysName 122 = .ok (.putfield 92, 3) := by decide +kernel
theorem dX8_laysName_125 : decode cX8_laysName 125 = .ok (.return_, 1) := by decide +kernel
theorem dX8_laysContest_0 : decode cX8_laysContest 0 = .ok (.aload_n 0, 1) := by decide +kernel
theorem dX8_laysContest_1 : decode cX8_laysContest 1 = .ok (.iload_n 2, 1) := by decide +kernel
theorem dX8_laysContest_2 : decode cX8_laysContest 2 = .ok (.invokevirtual 95, 3) := by decide +kernel
theorem dX8_laysContest_5 : decode cX8_laysContest 5 = .ok (.istore 4, 2) := by decide +kernel
theorem dX8_laysContest_7 : decode cX8_laysContest 7 = .ok (.iload_n 3, 1) := by decide +kernel
theorem dX8_laysContest_8 : decode cX8_laysContest 8 = .ok (.ifCond .eq 7, 3) := by decide +kernel
theorem dX8_laysContest_11 : decode cX8_laysContest 11 = .ok (.iconst 0, 1) := by decide +kernel
theorem dX8_laysContest_12 : decode cX8_laysContest 12 = .ok (.goto 9, 3) := by decide +kernel
theorem dX8_laysContest_15 : decode cX8_laysContest 15 = .ok (.aload_n 0, 1) := by decide +kernel
theorem dX8_laysContest_16 : decode cX8_laysContest 16 = .ok (.getfield 76, 3) := by decide +kernel
theorem dX8_laysContest_19 : decode cX8_laysContest 19 = .ok (.iconst 1, 1) := by decide +kernel
theorem dX8_laysContest_20 : decode cX8_laysContest 20 = .ok (.iadd, 1) := by decide +kernel
theorem dX8_laysContest_21 : decode cX8_laysContest 21 = .ok (.istore 5, 2) := by decide +kernel
theorem dX8_laysContest_23 : decode cX8_laysContest 23 = .ok (.aload_n 0, 1) := by decide +kernel
theorem dX8_laysContest_24 : decode cX8_laysContest 24 = .ok (.iload 5, 2) := by decide +kernel
theorem dX8_laysContest_26 : decode cX8_laysContest 26 = .ok (.iload 4, 2) := by decide +kernel
theorem dX8_laysContest_28 : decode cX8_laysContest 28 = .ok (.iadd, 1) := by decide +kernel
theorem dX8_laysContest_29 : decode cX8_laysContest 29 = .ok (.invokevirtual 79, 3) := by decide +kernel
theorem dX8_laysContest_32 : decode cX8_laysContest 32 = .ok (.aload_n 0, 1) := by decide +kernel
theorem dX8_laysContest_33 : decode cX8_laysContest 33 = .ok (.iload_n 2, 1) := by decide +kernel
theorem dX8_laysContest_34 : decode cX8_laysContest 34 = .ok (.aload_n 0, 1) := by decide +kernel
theorem dX8_laysContest_35 : decode cX8_laysContest 35 = .ok (.iload_n 1, 1) := by decide +kernel
theorem dX8_laysContest_36 : decode cX8_laysContest 36 = .ok (.iload_n 2, 1) := by decide +kernel
theorem dX8_laysContest_37 : decode cX8_laysContest 37 = .ok (.iconst 0, 1) := by decide +kernel
theorem dX8_laysContest_38 : decode cX8_laysContest 38 = .ok (.invokevirtual 60, 3) := by decide +kernel
theorem dX8_laysContest_41 : decode cX8_laysContest 41 = .ok (.invokevirtual 73, 3) := by decide +kernel
theorem dX8_laysContest_44 : decode cX8_laysContest 44 = .ok (.iadd, 1) := by decide +kernel
theorem dX8_laysContest_45 : decode cX8_laysContest 45 = .ok (.aload_n 0, 1) := by decide +kernel
theorem dX8_laysContest_46 : decode cX8_laysContest 46 = .ok (.getfield 7, 3) := by decide +kernel
theorem dX8_laysContest_49 : decode cX8_laysContest 49 = .ok (.iconst 3, 1) := by decide +kernel
theorem dX8_laysContest_50 : decode cX8_laysContest 50 = .ok (.iaload, 1) := by decide +kernel
theorem dX8_laysContest_51 : decode cX8_laysContest 51 = .ok (.if_icmp .le 16, 3) := by decide +kernel
theorem dX8_laysContest_54 : decode cX8_laysContest 54 = .ok (.aload_n 0, 1) := by decide +kernel
theorem dX8_laysContest_55 : decode cX8_laysContest 55 = .ok (.dup, 1) := by decide +kernel
theorem dX8_laysContest_56 : decode cX8_laysContest 56 = .ok (.getfield 83, 3) := by decide +kernel
theorem dX8_laysContest_59 : decode cX8_laysContest 59 = .ok (.iconst 1, 1) := by decide +kernel
theorem dX8_laysContest_60 : decode cX8_laysContest 60 = .ok (.iadd, 1) := by decide +kernel
theorem dX8_laysContest_61 : decode cX8_laysContest 61 = .ok (.putfield 83, 3) := by decide +kernel
theorem dX8_laysContest_64 : decode cX8_laysContest 64 = .ok (.iconst 0, 1) := by decide +kernel
theorem dX8_laysContest_65 : decode cX8_laysContest 65 = .ok (.istore 5, 2) := by decide +kernel
theorem dX8_laysContest_67 : decode cX8_laysContest 67 = .ok (.aload_n 0, 1) := by decide +kernel
theorem dX8_laysContest_68 : decode cX8_laysContest 68 = .ok (.iload 5, 2) := by decide +kernel
theorem dX8_laysContest_70 : decode cX8_laysContest 70 = .ok (.iload 4, 2) := by decide +kernel
theorem dX8_laysContest_72 : decode cX8_laysContest 72 = .ok (.iadd, 1) := by decide +kernel
theorem dX8_laysContest_73 : decode cX8_laysContest 73 = .ok (.putfield 76, 3) := by decide +kernel
theorem dX8_laysContest_76 : decode cX8_laysContest 76 = .ok (.aload_n 0, 1) := by decide +kernel
theorem dX8_laysContest_77 : decode cX8_laysContest 77 = .ok (.dup, 1) := by decide +kernel
theorem dX8_laysContest_78 : decode cX8_laysContest 78 = .ok (.getfield 92, 3) := by decide +kernel
theorem dX8_laysContest_81 : decode cX8_laysContest 81 = .ok (.iload 4, 2) := by decide +kernel
theorem dX8_laysContest_83 : decode cX8_laysContest 83 = .ok (.iadd, 1) := by decide +kernel
theorem dX8_laysContest_84 : decode cX8_laysContest 84 = .ok (.putfield 92, 3) := by decide +kernel
theorem dX8_laysContest_87 : decode cX8_laysContest 87 = .ok (.iconst 0, 1) := by decide +kernel
theorem dX8_laysContest_88 : decode cX8_laysContest 88 = .ok (.istore 6, 2) := by decide +kernel
theorem dX8_laysContest_90 : decode cX8_laysContest 90 = .ok (.iload 6, 2) := by decide +kernel
theorem dX8_laysContest_92 : decode cX8_laysContest 92 = .ok (.aload_n 0, 1) := by decide +kernel
theorem dX8_laysContest_93 : decode cX8_laysContest 93 = .ok (.iload_n 2, 1) := by decide +kernel
theorem dX8_laysContest_94 : decode cX8_laysContest 94 = .ok (.iconst 3, 1) := by decide +kernel
theorem dX8_laysContest_95 : decode cX8_laysContest 95 = .ok (.invokevirtual 42, 3) := by decide +kernel
theorem dX8_laysContest_98 : decode cX8_laysContest 98 = .ok (.if_icmp .ge 22, 3) := by decide +kernel
theorem dX8_laysContest_101 : decode cX8_laysContest 101 = .ok (.aload_n 0, 1) := by decide +kernel
theorem dX8_laysContest_102 : decode cX8_laysContest 102 = .ok (.iload_n 2, 1) := by decide +kernel
theorem dX8_laysContest_103 : decode cX8_laysContest 103 = .ok (.aload_n 0, 1) := by decide +kernel
theorem dX8_laysContest_104 : decode cX8_laysContest 104 = .ok (.iload_n 1, 1) := by decide +kernel
theorem dX8_laysContest_105 : decode cX8_laysContest 105 = .ok (.iload_n 2, 1) := by decide +kernel
theorem dX8_laysContest_106 : decode cX8_laysContest 106 = .ok (.iload 6, 2) := by decide +kernel
theorem dX8_laysContest_108 : decode cX8_laysContest 108 = .ok (.invokevirtual 60, 3) := by decide +kernel
theorem dX8_laysContest_111 : decode cX8_laysContest 111 = .ok (.invokevirtual 98, 3) := by decide +kernel
theorem dX8_laysContest_114 : decode cX8_laysContest 114 = .ok (.iinc 6 1, 3) := by decide +kernel
theorem dX8_laysContest_117 : decode cX8_laysContest 117 = .ok (.goto (-27), 3) := by decide +kernel
theorem dX8_laysContest_120 : decode cX8_laysContest 120 = .ok (.return_, 1) := by decide +kernel
theorem dX8_lays_0 : decode cX8_lays 0 = .ok (.aload_n 0, 1) := by decide +kernel
theorem dX8_lays_1 : decode cX8_lays 1 = .ok (.iconst 0, 1) := by decide +kernel
theorem dX8_lays_2 : decode cX8_lays 2 = .ok (.putfield 83, 3) := by decide +kernel
theorem dX8_lays_5 : decode cX8_lays 5 = .ok (.aload_n 0, 1) := by decide +kernel
theorem dX8_lays_6 : decode cX8_lays 6 = .ok (.iconst 0, 1) := by decide +kernel
theorem dX8_lays_7 : decode cX8_lays 7 = .ok (.putfield 76, 3) := by decide +kernel
theorem dX8_lays_10 : decode cX8_lays 10 = .ok (.aload_n 0, 1) := by decide +kernel
theorem dX8_lays_11 : decode cX8_lays 11 = .ok (.iconst 0, 1) := by decide +kernel
theorem dX8_lays_12 : decode cX8_lays 12 = .ok (.putfield 92, 3) := by decide +kernel
theorem dX8_lays_15 : decode cX8_lays 15 = .ok (.aload_n 0, 1) := by decide +kernel
theorem dX8_lays_16 : decode cX8_lays 16 = .ok (.iconst 0, 1) := by decide +kernel
theorem dX8_lays_17 : decode cX8_lays 17 = .ok (.putfield 89, 3) := by decide +kernel
theorem dX8_lays_20 : decode cX8_lays 20 = .ok (.aload_n 0, 1) := by decide +kernel
theorem dX8_lays_21 : decode cX8_lays 21 = .ok (.iconst 0, 1) := by decide +kernel
theorem dX8_lays_22 : decode cX8_lays 22 = .ok (.putfield 86, 3) := by decide +kernel
theorem dX8_lays_25 : decode cX8_lays 25 = .ok (.iconst 1, 1) := by decide +kernel
theorem dX8_lays_26 : decode cX8_lays 26 = .ok (.istore_n 2, 1) := by decide +kernel
theorem dX8_lays_27 : decode cX8_lays 27 = .ok (.iconst 0, 1) := by decide +kernel
theorem dX8_lays_28 : decode cX8_lays 28 = .ok (.istore_n 3, 1) := by decide +kernel
theorem dX8_lays_29 : decode cX8_lays 29 = .ok (.iload_n 3, 1) := by decide +kernel
theorem dX8_lays_30 : decode cX8_lays 30 = .ok (.aload_n 0, 1) := by decide +kernel
theorem dX8_lays_31 : decode cX8_lays 31 = .ok (.getfield 7, 3) := by decide +kernel
theorem dX8_lays_34 : decode cX8_lays 34 = .ok (.iconst 0, 1) := by decide +kernel
theorem dX8_lays_35 : decode cX8_lays 35 = .ok (.iaload, 1) := by decide +kernel
theorem dX8_lays_36 : decode cX8_lays 36 = .ok (.if_icmp .ge 27, 3) := by decide +kernel
theorem dX8_lays_39 : decode cX8_lays 39 = .ok (.aload_n 0, 1) := by decide +kernel
theorem dX8_lays_40 : decode cX8_lays 40 = .ok (.iload_n 3, 1) := by decide +kernel
theorem dX8_lays_41 : decode cX8_lays 41 = .ok (.iconst 3, 1) := by decide +kernel
theorem dX8_lays_42 : decode cX8_lays 42 = .ok (.invokevirtual 42, 3) := by decide +kernel
theorem dX8_lays_45 : decode cX8_lays 45 = .ok (.ifCond .le 12, 3) := by decide +kernel
theorem dX8_lays_48 : decode cX8_lays 48 = .ok (.aload_n 0, 1) := by decide +kernel
theorem dX8_lays_49 : decode cX8_lays 49 = .ok (.iload_n 1, 1) := by decide +kernel
theorem dX8_lays_50 : decode cX8_lays 50 = .ok (.iload_n 3, 1) := by decide +kernel
theorem dX8_lays_51 : decode cX8_lays 51 = .ok (.iload_n 2, 1) := by decide +kernel
theorem dX8_lays_52 : decode cX8_lays 52 = .ok (.invokevirtual 102, 3) := by decide +kernel
theorem dX8_lays_55 : decode cX8_lays 55 = .ok (.iconst 0, 1) := by decide +kernel
theorem dX8_lays_56 : decode cX8_lays 56 = .ok (.istore_n 2, 1) := by decide +kernel
theorem dX8_lays_57 : decode cX8_lays 57 = .ok (.iinc 3 1, 3) := by decide +kernel
theorem dX8_lays_60 : decode cX8_lays 60 = .ok (.goto (-31), 3) := by decide +kernel
theorem dX8_lays_63 : decode cX8_lays 63 = .ok (.iload_n 2, 1) := by decide +kernel
theorem dX8_lays_64 : decode cX8_lays 64 = .ok (.ifCond .eq 7, 3) := by decide +kernel
theorem dX8_lays_67 : decode cX8_lays 67 = .ok (.iconst 0, 1) := by decide +kernel
theorem dX8_lays_68 : decode cX8_lays 68 = .ok (.goto 9, 3) := by decide +kernel
theorem dX8_lays_71 : decode cX8_lays 71 = .ok (.aload_n 0, 1) := by decide +kernel
theorem dX8_lays_72 : decode cX8_lays 72 = .ok (.getfield 83, 3) := by decide +kernel
theorem dX8_lays_75 : decode cX8_lays 75 = .ok (.iconst 1, 1) := by decide +kernel
theorem dX8_lays_76 : decode cX8_lays 76 = .ok (.iadd, 1) := by decide +kernel
theorem dX8_lays_77 : decode cX8_lays 77 = .ok (.ireturn, 1) := by decide +kernel
theorem dX8_votesIn_0 : decode cX8_votesIn 0 = .ok (.iconst 0, 1) := by decide +kernel
theorem dX8_votesIn_1 : decode cX8_votesIn 1 = .ok (.istore_n 2, 1) := by decide +kernel
theorem dX8_votesIn_2 : decode cX8_votesIn 2 = .ok (.iconst 0, 1) := by decide +kernel
theorem dX8_votesIn_3 : decode cX8_votesIn 3 = .ok (.istore_n 3, 1) := by decide +kernel
theorem dX8_votesIn_4 : decode cX8_votesIn 4 = .ok (.iload_n 3, 1) := by decide +kernel
theorem dX8_votesIn_5 : decode cX8_votesIn 5 = .ok (.aload_n 0, 1) := by decide +kernel
theorem dX8_votesIn_6 : decode cX8_votesIn 6 = .ok (.iload_n 1, 1) := by decide +kernel
theorem dX8_votesIn_7 : decode cX8_votesIn 7 = .ok (.iconst 3, 1) := by decide +kernel
theorem dX8_votesIn_8 : decode cX8_votesIn 8 = .ok (.invokevirtual 42, 3) := by decide +kernel
theorem dX8_votesIn_11 : decode cX8_votesIn 11 = .ok (.if_icmp .ge 18, 3) := by decide +kernel
theorem dX8_votesIn_14 : decode cX8_votesIn 14 = .ok (.iload_n 2, 1) := by decide +kernel
theorem dX8_votesIn_15 : decode cX8_votesIn 15 = .ok (.aload_n 0, 1) := by decide +kernel
theorem dX8_votesIn_16 : decode cX8_votesIn 16 = .ok (.iload_n 1, 1) := by decide +kernel
theorem dX8_votesIn_17 : decode cX8_votesIn 17 = .ok (.iload_n 3, 1) := by decide +kernel
theorem dX8_votesIn_18 : decode cX8_votesIn 18 = .ok (.invokevirtual 106, 3) := by decide +kernel
theorem dX8_votesIn_21 : decode cX8_votesIn 21 = .ok (.iadd, 1) := by decide +kernel
theorem dX8_votesIn_22 : decode cX8_votesIn 22 = .ok (.istore_n 2, 1) := by decide +kernel
theorem dX8_votesIn_23 : decode cX8_votesIn 23 = .ok (.iinc 3 1, 3) := by decide +kernel
theorem dX8_votesIn_26 : decode cX8_votesIn 26 = .ok (.goto (-22), 3) := by decide +kernel
theorem dX8_votesIn_29 : decode cX8_votesIn 29 = .ok (.iload_n 2, 1) := by decide +kernel
theorem dX8_votesIn_30 : decode cX8_votesIn 30 = .ok (.ireturn, 1) := by decide +kernel
theorem dX8_contestOf_0 : decode cX8_contestOf 0 = .ok (.aload_n 0, 1) := by decide +kernel
theorem dX8_contestOf_1 : decode cX8_contestOf 1 = .ok (.iload_n 1, 1) := by decide +kernel
theorem dX8_contestOf_2 : decode cX8_contestOf 2 = .ok (.invokevirtual 38, 3) := by decide +kernel
theorem dX8_contestOf_5 : decode cX8_contestOf 5 = .ok (.ifCond .eq 13, 3) := by decide +kernel
theorem dX8_contestOf_8 : decode cX8_contestOf 8 = .ok (.iload_n 2, 1) := by decide +kernel
theorem dX8_contestOf_9 : decode cX8_contestOf 9 = .ok (.iconst 0, 1) := by decide +kernel
theorem dX8_contestOf_10 : decode cX8_contestOf 10 = .ok (.bipush 6, 2) := by decide +kernel
theorem dX8_contestOf_12 : decode cX8_contestOf 12 = .ok (.invokestatic 46, 3) := by decide +kernel
theorem dX8_contestOf_15 : decode cX8_contestOf 15 = .ok (.ifCond .ne 5, 3) := by decide +kernel
theorem dX8_contestOf_18 : decode cX8_contestOf 18 = .ok (.iconst (-1), 1) := by decide +kernel
theorem dX8_contestOf_19 : decode cX8_contestOf 19 = .ok (.ireturn, 1) := by decide +kernel
theorem dX8_contestOf_20 : decode cX8_contestOf 20 = .ok (.iload_n 2, 1) := by decide +kernel
theorem dX8_contestOf_21 : decode cX8_contestOf 21 = .ok (.iconst 4, 1) := by decide +kernel
theorem dX8_contestOf_22 : decode cX8_contestOf 22 = .ok (.if_icmp .ge 12, 3) := by decide +kernel
theorem dX8_contestOf_25 : decode cX8_contestOf 25 = .ok (.aload_n 0, 1) := by decide +kernel
theorem dX8_contestOf_26 : decode cX8_contestOf 26 = .ok (.iload_n 1, 1) := by decide +kernel
theorem dX8_contestOf_27 : decode cX8_contestOf 27 = .ok (.iload_n 2, 1) := by decide +kernel
theorem dX8_contestOf_28 : decode cX8_contestOf 28 = .ok (.invokevirtual 42, 3) := by decide +kernel
theorem dX8_contestOf_31 : decode cX8_contestOf 31 = .ok (.goto 24, 3) := by decide +kernel
theorem dX8_contestOf_34 : decode cX8_contestOf 34 = .ok (.iload_n 2, 1) := by decide +kernel
theorem dX8_contestOf_35 : decode cX8_contestOf 35 = .ok (.iconst 4, 1) := by decide +kernel
theorem dX8_contestOf_36 : decode cX8_contestOf 36 = .ok (.if_icmp .ne 11, 3) := by decide +kernel
theorem dX8_contestOf_39 : decode cX8_contestOf 39 = .ok (.aload_n 0, 1) := by decide +kernel
theorem dX8_contestOf_40 : decode cX8_contestOf 40 = .ok (.iload_n 1, 1) := by decide +kernel
theorem dX8_contestOf_41 : decode cX8_contestOf 41 = .ok (.invokevirtual 109, 3) := by decide +kernel
theorem dX8_contestOf_44 : decode cX8_contestOf 44 = .ok (.goto 11, 3) := by decide +kernel
theorem dX8_contestOf_47 : decode cX8_contestOf 47 = .ok (.aload_n 0, 1) := by decide +kernel
theorem dX8_contestOf_48 : decode cX8_contestOf 48 = .ok (.iload_n 1, 1) := by decide +kernel
theorem dX8_contestOf_49 : decode cX8_contestOf 49 = .ok (.iload_n 2, 1) := by decide +kernel
theorem dX8_contestOf_50 : decode cX8_contestOf 50 = .ok (.iconst 1, 1) := by decide +kernel
theorem dX8_contestOf_51 : decode cX8_contestOf 51 = .ok (.isub, 1) := by decide +kernel
theorem dX8_contestOf_52 : decode cX8_contestOf 52 = .ok (.invokevirtual 42, 3) := by decide +kernel
theorem dX8_contestOf_55 : decode cX8_contestOf 55 = .ok (.ireturn, 1) := by decide +kernel
theorem dX8_seated_0 : decode cX8_seated 0 = .ok (.iconst 0, 1) := by decide +kernel
theorem dX8_seated_1 : decode cX8_seated 1 = .ok (.istore_n 3, 1) := by decide +kernel
theorem dX8_seated_2 : decode cX8_seated 2 = .ok (.iconst 0, 1) := by decide +kernel
theorem dX8_seated_3 : decode cX8_seated 3 = .ok (.istore 4, 2) := by decide +kernel
theorem dX8_seated_5 : decode cX8_seated 5 = .ok (.iload 4, 2) := by decide +kernel
theorem dX8_seated_7 : decode cX8_seated 7 = .ok (.aload_n 0, 1) := by decide +kernel
theorem dX8_seated_8 : decode cX8_seated 8 = .ok (.iload_n 1, 1) := by decide +kernel
theorem dX8_seated_9 : decode cX8_seated 9 = .ok (.iconst 3, 1) := by decide +kernel
theorem dX8_seated_10 : decode cX8_seated 10 = .ok (.invokevirtual 42, 3) := by decide +kernel
theorem dX8_seated_13 : decode cX8_seated 13 = .ok (.if_icmp .ge 67, 3) := by decide +kernel
theorem dX8_seated_16 : decode cX8_seated 16 = .ok (.aload_n 0, 1) := by decide +kernel
theorem dX8_seated_17 : decode cX8_seated 17 = .ok (.iload_n 1, 1) := by decide +kernel
theorem dX8_seated_18 : decode cX8_seated 18 = .ok (.iload 4, 2) := by decide +kernel
theorem dX8_seated_20 : decode cX8_seated 20 = .ok (.invokevirtual 106, 3) := by decide +kernel
theorem dX8_seated_23 : decode cX8_seated 23 = .ok (.aload_n 0, 1) := by decide +kernel
theorem dX8_seated_24 : decode cX8_seated 24 = .ok (.iload_n 1, 1) := by decide +kernel
theorem dX8_seated_25 : decode cX8_seated 25 = .ok (.iload_n 2, 1) := by decide +kernel
theorem dX8_seated_26 : decode cX8_seated 26 = .ok (.invokevirtual 106, 3) := by decide +kernel
theorem dX8_seated_29 : decode cX8_seated 29 = .ok (.if_icmp .gt 25, 3) := by decide +kernel
theorem dX8_seated_32 : decode cX8_seated 32 = .ok (.aload_n 0, 1) := by decide +kernel
theorem dX8_seated_33 : decode cX8_seated 33 = .ok (.iload_n 1, 1) := by decide +kernel
theorem dX8_seated_34 : decode cX8_seated 34 = .ok (.iload 4, 2) := by decide +kernel
theorem dX8_seated_36 : decode cX8_seated 36 = .ok (.invokevirtual 106, 3) := by decide +kernel
theorem dX8_seated_39 : decode cX8_seated 39 = .ok (.aload_n 0, 1) := by decide +kernel
theorem dX8_seated_40 : decode cX8_seated 40 = .ok (.iload_n 1, 1) := by decide +kernel
theorem dX8_seated_41 : decode cX8_seated 41 = .ok (.iload_n 2, 1) := by decide +kernel
theorem dX8_seated_42 : decode cX8_seated 42 = .ok (.invokevirtual 106, 3) := by decide +kernel
theorem dX8_seated_45 : decode cX8_seated 45 = .ok (.if_icmp .ne 13, 3) := by decide +kernel
theorem dX8_seated_48 : decode cX8_seated 48 = .ok (.iload 4, 2) := by decide +kernel
theorem dX8_seated_50 : decode cX8_seated 50 = .ok (.iload_n 2, 1) := by decide +kernel
theorem dX8_seated_51 : decode cX8_seated 51 = .ok (.if_icmp .ge 7, 3) := by decide +kernel
theorem dX8_seated_54 : decode cX8_seated 54 = .ok (.iconst 1, 1) := by decide +kernel
theorem dX8_seated_55 : decode cX8_seated 55 = .ok (.goto 4, 3) := by decide +kernel
theorem dX8_seated_58 : decode cX8_seated 58 = .ok (.iconst 0, 1) := by decide +kernel
theorem dX8_seated_59 : decode cX8_seated 59 = .ok (.istore 5, 2) := by decide +kernel
theorem dX8_seated_61 : decode cX8_seated 61 = .ok (.iload_n 3, 1) := by decide +kernel
theorem dX8_seated_62 : decode cX8_seated 62 = .ok (.iload 5, 2) := by decide +kernel
theorem dX8_seated_64 : decode cX8_seated 64 = .ok (.ifCond .eq 7, 3) := by decide +kernel
theorem dX8_seated_67 : decode cX8_seated 67 = .ok (.iconst 1, 1) := by decide +kernel
theorem dX8_seated_68 : decode cX8_seated 68 = .ok (.goto 4, 3) := by decide +kernel
theorem dX8_seated_71 : decode cX8_seated 71 = .ok (.iconst 0, 1) := by decide +kernel
theorem dX8_seated_72 : decode cX8_seated 72 = .ok (.iadd, 1) := by decide +kernel
theorem dX8_seated_73 : decode cX8_seated 73 = .ok (.istore_n 3, 1) := by decide +kernel
theorem dX8_seated_74 : decode cX8_seated 74 = .ok (.iinc 4 1, 3) := by decide +kernel
theorem dX8_seated_77 : decode cX8_seated 77 = .ok (.goto (-72), 3) := by decide +kernel
theorem dX8_seated_80 : decode cX8_seated 80 = .ok (.iload_n 3, 1) := by decide +kernel
theorem dX8_seated_81 : decode cX8_seated 81 = .ok (.aload_n 0, 1) := by decide +kernel
theorem dX8_seated_82 : decode cX8_seated 82 = .ok (.iload_n 1, 1) := by decide +kernel
theorem dX8_seated_83 : decode cX8_seated 83 = .ok (.iconst 1, 1) := by decide +kernel
theorem dX8_seated_84 : decode cX8_seated 84 = .ok (.invokevirtual 42, 3) := by decide +kernel
theorem dX8_seated_87 : decode cX8_seated 87 = .ok (.if_icmp .ge 7, 3) := by decide +kernel
theorem dX8_seated_90 : decode cX8_seated 90 = .ok (.iconst 1, 1) := by decide +kernel
theorem dX8_seated_91 : decode cX8_seated 91 = .ok (.goto 4, 3) := by decide +kernel
theorem dX8_seated_94 : decode cX8_seated 94 = .ok (.iconst 0, 1) := by decide +kernel
theorem dX8_seated_95 : decode cX8_seated 95 = .ok (.ireturn, 1) := by decide +kernel
theorem dX8_nameOf_0 : decode cX8_nameOf 0 = .ok (.aload_n 0, 1) := by decide +kernel
theorem dX8_nameOf_1 : decode cX8_nameOf 1 = .ok (.iload_n 1, 1) := by decide +kernel
theorem dX8_nameOf_2 : decode cX8_nameOf 2 = .ok (.iload_n 2, 1) := by decide +kernel
theorem dX8_nameOf_3 : decode cX8_nameOf 3 = .ok (.invokevirtual 112, 3) := by decide +kernel
theorem dX8_nameOf_6 : decode cX8_nameOf 6 = .ok (.ifCond .eq 12, 3) := by decide +kernel
theorem dX8_nameOf_9 : decode cX8_nameOf 9 = .ok (.iload_n 3, 1) := by decide +kernel
theorem dX8_nameOf_10 : decode cX8_nameOf 10 = .ok (.iconst 0, 1) := by decide +kernel
theorem dX8_nameOf_11 : decode cX8_nameOf 11 = .ok (.iconst 3, 1) := by decide +kernel
theorem dX8_nameOf_12 : decode cX8_nameOf 12 = .ok (.invokestatic 46, 3) := by decide +kernel
theorem dX8_nameOf_15 : decode cX8_nameOf 15 = .ok (.ifCond .ne 5, 3) := by decide +kernel
theorem dX8_nameOf_18 : decode cX8_nameOf 18 = .ok (.iconst (-1), 1) := by decide +kernel
theorem dX8_nameOf_19 : decode cX8_nameOf 19 = .ok (.ireturn, 1) := by decide +kernel
theorem dX8_nameOf_20 : decode cX8_nameOf 20 = .ok (.iload_n 3, 1) := by decide +kernel
theorem dX8_nameOf_21 : decode cX8_nameOf 21 = .ok (.ifCond .ne 12, 3) := by decide +kernel
theorem dX8_nameOf_24 : decode cX8_nameOf 24 = .ok (.aload_n 0, 1) := by decide +kernel
theorem dX8_nameOf_25 : decode cX8_nameOf 25 = .ok (.iload_n 1, 1) := by decide +kernel
theorem dX8_nameOf_26 : decode cX8_nameOf 26 = .ok (.iload_n 2, 1) := by decide +kernel
theorem dX8_nameOf_27 : decode cX8_nameOf 27 = .ok (.invokevirtual 67, 3) := by decide +kernel
theorem dX8_nameOf_30 : decode cX8_nameOf 30 = .ok (.goto 37, 3) := by decide +kernel
theorem dX8_nameOf_33 : decode cX8_nameOf 33 = .ok (.iload_n 3, 1) := by decide +kernel
theorem dX8_nameOf_34 : decode cX8_nameOf 34 = .ok (.iconst 1, 1) := by decide +kernel
theorem dX8_nameOf_35 : decode cX8_nameOf 35 = .ok (.if_icmp .ne 12, 3) := by decide +kernel
theorem dX8_nameOf_38 : decode cX8_nameOf 38 = .ok (.aload_n 0, 1) := by decide +kernel
theorem dX8_nameOf_39 : decode cX8_nameOf 39 = .ok (.iload_n 1, 1) := by decide +kernel
theorem dX8_nameOf_40 : decode cX8_nameOf 40 = .ok (.iload_n 2, 1) := by decide +kernel
theorem dX8_nameOf_41 : decode cX8_nameOf 41 = .ok (.invokevirtual 106, 3) := by decide +kernel
theorem dX8_nameOf_44 : decode cX8_nameOf 44 = .ok (.goto 23, 3) := by decide +kernel
theorem dX8_nameOf_47 : decode cX8_nameOf 47 = .ok (.iload_n 3, 1) := by decide +kernel
theorem dX8_nameOf_48 : decode cX8_nameOf 48 = .ok (.iconst 2, 1) := by decide +kernel
theorem dX8_nameOf_49 : decode cX8_nameOf 49 = .ok (.if_icmp .ne 12, 3) := by decide +kernel
theorem dX8_nameOf_52 : decode cX8_nameOf 52 = .ok (.aload_n 0, 1) := by decide +kernel
theorem dX8_nameOf_53 : decode cX8_nameOf 53 = .ok (.iload_n 1, 1) := by decide +kernel
theorem dX8_nameOf_54 : decode cX8_nameOf 54 = .ok (.iload_n 2, 1) := by decide +kernel
theorem dX8_nameOf_55 : decode cX8_nameOf 55 = .ok (.invokevirtual 115, 3) := by decide +kernel
theorem dX8_nameOf_58 : decode cX8_nameOf 58 = .ok (.goto 9, 3) := by decide +kernel
theorem dX8_nameOf_61 : decode cX8_nameOf 61 = .ok (.aload_n 0, 1) := by decide +kernel
theorem dX8_nameOf_62 : decode cX8_nameOf 62 = .ok (.iload_n 1, 1) := by decide +kernel
theorem dX8_nameOf_63 : decode cX8_nameOf 63 = .ok (.iload_n 2, 1) := by decide +kernel
theorem dX8_nameOf_64 : decode cX8_nameOf 64 = .ok (.invokevirtual 118, 3) := by decide +kernel
theorem dX8_nameOf_67 : decode cX8_nameOf 67 = .ok (.ireturn, 1) := by decide +kernel
theorem dX8_names_0 : decode cX8_names 0 = .ok (.iconst 0, 1) := by decide +kernel
theorem dX8_names_1 : decode cX8_names 1 = .ok (.istore_n 1, 1) := by decide +kernel
theorem dX8_names_2 : decode cX8_names 2 = .ok (.iconst 0, 1) := by decide +kernel
theorem dX8_names_3 : decode cX8_names 3 = .ok (.istore_n 2, 1) := by decide +kernel
theorem dX8_names_4 : decode cX8_names 4 = .ok (.iload_n 2, 1) := by decide +kernel
theorem dX8_names_5 : decode cX8_names 5 = .ok (.aload_n 0, 1) := by decide +kernel
theorem dX8_names_6 : decode cX8_names 6 = .ok (.getfield 7, 3) := by decide +kernel
theorem dX8_names_9 : decode cX8_names 9 = .ok (.iconst 0, 1) := by decide +kernel
theorem dX8_names_10 : decode cX8_names 10 = .ok (.iaload, 1) := by decide +kernel
theorem dX8_names_11 : decode cX8_names 11 = .ok (.if_icmp .ge 18, 3) := by decide +kernel
theorem dX8_names_14 : decode cX8_names 14 = .ok (.iload_n 1, 1) := by decide +kernel
theorem dX8_names_15 : decode cX8_names 15 = .ok (.aload_n 0, 1) := by decide +kernel
theorem dX8_names_16 : decode cX8_names 16 = .ok (.iload_n 2, 1) := by decide +kernel
theorem dX8_names_17 : decode cX8_names 17 = .ok (.iconst 3, 1) := by decide +kernel
theorem dX8_names_18 : decode cX8_names 18 = .ok (.invokevirtual 42, 3) := by decide +kernel
theorem dX8_names_21 : decode cX8_names 21 = .ok (.iadd, 1) := by decide +kernel
theorem dX8_names_22 : decode cX8_names 22 = .ok (.istore_n 1, 1) := by decide +kernel
theorem dX8_names_23 : decode cX8_names 23 = .ok (.iinc 2 1, 3) := by decide +kernel
theorem dX8_names_26 : decode cX8_names 26 = .ok (.goto (-22), 3) := by decide +kernel
theorem dX8_names_29 : decode cX8_names 29 = .ok (.iload_n 1, 1) := by decide +kernel
theorem dX8_names_30 : decode cX8_names 30 = .ok (.ireturn, 1) := by decide +kernel
theorem dX8_allPapers_0 : decode cX8_allPapers 0 = .ok (.iconst 0, 1) := by decide +kernel
theorem dX8_allPapers_1 : decode cX8_allPapers 1 = .ok (.istore_n 1, 1) := by decide +kernel
theorem dX8_allPapers_2 : decode cX8_allPapers 2 = .ok (.iconst 0, 1) := by decide +kernel
theorem dX8_allPapers_3 : decode cX8_allPapers 3 = .ok (.istore_n 2, 1) := by decide +kernel
theorem dX8_allPapers_4 : decode cX8_allPapers 4 = .ok (.iload_n 2, 1) := by decide +kernel
theorem dX8_allPapers_5 : decode cX8_allPapers 5 = .ok (.aload_n 0, 1) := by decide +kernel
theorem dX8_allPapers_6 : decode cX8_allPapers 6 = .ok (.getfield 7, 3) := by decide +kernel
theorem dX8_allPapers_9 : decode cX8_allPapers 9 = .ok (.bipush 7, 2) := by decide +kernel
theorem dX8_allPapers_11 : decode cX8_allPapers 11 = .ok (.iaload, 1) := by decide +kernel
theorem dX8_allPapers_12 : decode cX8_allPapers 12 = .ok (.if_icmp .ge 21, 3) := by decide +kernel
theorem dX8_allPapers_15 : decode cX8_allPapers 15 = .ok (.iload_n 1, 1) := by decide +kernel
theorem dX8_allPapers_16 : decode cX8_allPapers 16 = .ok (.aload_n 0, 1) := by decide +kernel
theorem dX8_allPapers_17 : decode cX8_allPapers 17 = .ok (.getfield 7, 3) := by decide +kernel
theorem dX8_allPapers_20 : decode cX8_allPapers 20 = .ok (.bipush 8, 2) := by decide +kernel
theorem dX8_allPapers_22 : decode cX8_allPapers 22 = .ok (.iload_n 2, 1) := by decide +kernel
theorem dX8_allPapers_23 : decode cX8_allPapers 23 = .ok (.iadd, 1) := by decide +kernel
theorem dX8_allPapers_24 : decode cX8_allPapers 24 = .ok (.iaload, 1) := by decide +kernel
theorem dX8_allPapers_25 : decode cX8_allPapers 25 = .ok (.iadd, 1) := by decide +kernel
theorem dX8_allPapers_26 : decode cX8_allPapers 26 = .ok (.istore_n 1, 1) := by decide +kernel
theorem dX8_allPapers_27 : decode cX8_allPapers 27 = .ok (.iinc 2 1, 3) := by decide +kernel
theorem dX8_allPapers_30 : decode cX8_allPapers 30 = .ok (.goto (-26), 3) := by decide +kernel
theorem dX8_allPapers_33 : decode cX8_allPapers 33 = .ok (.iload_n 1, 1) := by decide +kernel
theorem dX8_allPapers_34 : decode cX8_allPapers 34 = .ok (.ireturn, 1) := by decide +kernel
theorem dX8_count_0 : decode cX8_count 0 = .ok (.iload_n 1, 1) := by decide +kernel
theorem dX8_count_1 : decode cX8_count 1 = .ok (.tableswitch 73 0 5 #[39, 46, 51, 56, 63, 68], 39) := by decide +kernel
theorem dX8_count_40 : decode cX8_count 40 = .ok (.aload_n 0, 1) := by decide +kernel
theorem dX8_count_41 : decode cX8_count 41 = .ok (.getfield 7, 3) := by decide +kernel
theorem dX8_count_44 : decode cX8_count 44 = .ok (.iconst 0, 1) := by decide +kernel
theorem dX8_count_45 : decode cX8_count 45 = .ok (.iaload, 1) := by decide +kernel
theorem dX8_count_46 : decode cX8_count 46 = .ok (.ireturn, 1) := by decide +kernel
theorem dX8_count_47 : decode cX8_count 47 = .ok (.aload_n 0, 1) := by decide +kernel
theorem dX8_count_48 : decode cX8_count 48 = .ok (.invokevirtual 121, 3) := by decide +kernel
theorem dX8_count_51 : decode cX8_count 51 = .ok (.ireturn, 1) := by decide +kernel
theorem dX8_count_52 : decode cX8_count 52 = .ok (.aload_n 0, 1) := by decide +kernel
theorem dX8_count_53 : decode cX8_count 53 = .ok (.invokevirtual 125, 3) := by decide +kernel
theorem dX8_count_56 : decode cX8_count 56 = .ok (.ireturn, 1) := by decide +kernel
theorem dX8_count_57 : decode cX8_count 57 = .ok (.aload_n 0, 1) := by decide +kernel
theorem dX8_count_58 : decode cX8_count 58 = .ok (.getfield 7, 3) := by decide +kernel
theorem dX8_count_61 : decode cX8_count 61 = .ok (.iconst 1, 1) := by decide +kernel
theorem dX8_count_62 : decode cX8_count 62 = .ok (.iaload, 1) := by decide +kernel
theorem dX8_count_63 : decode cX8_count 63 = .ok (.ireturn, 1) := by decide +kernel
theorem dX8_count_64 : decode cX8_count 64 = .ok (.aload_n 0, 1) := by decide +kernel
theorem dX8_count_65 : decode cX8_count 65 = .ok (.getfield 34, 3) := by decide +kernel
theorem dX8_count_68 : decode cX8_count 68 = .ok (.ireturn, 1) := by decide +kernel
theorem dX8_count_69 : decode cX8_count 69 = .ok (.aload_n 0, 1) := by decide +kernel
theorem dX8_count_70 : decode cX8_count 70 = .ok (.getfield 128, 3) := by decide +kernel
theorem dX8_count_73 : decode cX8_count 73 = .ok (.ireturn, 1) := by decide +kernel
theorem dX8_count_74 : decode cX8_count 74 = .ok (.iload_n 1, 1) := by decide +kernel
theorem dX8_count_75 : decode cX8_count 75 = .ok (.bipush 10, 2) := by decide +kernel
theorem dX8_count_77 : decode cX8_count 77 = .ok (.bipush 15, 2) := by decide +kernel
theorem dX8_count_79 : decode cX8_count 79 = .ok (.invokestatic 46, 3) := by decide +kernel
theorem dX8_count_82 : decode cX8_count 82 = .ok (.ifCond .eq 17, 3) := by decide +kernel
theorem dX8_count_85 : decode cX8_count 85 = .ok (.aload_n 0, 1) := by decide +kernel
theorem dX8_count_86 : decode cX8_count 86 = .ok (.getfield 7, 3) := by decide +kernel
theorem dX8_count_89 : decode cX8_count 89 = .ok (.iconst 2, 1) := by decide +kernel
theorem dX8_count_90 : decode cX8_count 90 = .ok (.iload_n 1, 1) := by decide +kernel
theorem dX8_count_91 : decode cX8_count 91 = .ok (.iadd, 1) := by decide +kernel
theorem dX8_count_92 : decode cX8_count 92 = .ok (.bipush 10, 2) := by decide +kernel
theorem dX8_count_94 : decode cX8_count 94 = .ok (.isub, 1) := by decide +kernel
theorem dX8_count_95 : decode cX8_count 95 = .ok (.iaload, 1) := by decide +kernel
theorem dX8_count_96 : decode cX8_count 96 = .ok (.goto 4, 3) := by decide +kernel
theorem dX8_count_99 : decode cX8_count 99 = .ok (.iconst (-1), 1) := by decide +kernel
theorem dX8_count_100 : decode cX8_count 100 = .ok (.ireturn, 1) := by decide +kernel
theorem dX8_papersOf_0 : decode cX8_papersOf 0 = .ok (.aload_n 0, 1) := by decide +kernel
theorem dX8_papersOf_1 : decode cX8_papersOf 1 = .ok (.iload_n 1, 1) := by decide +kernel
theorem dX8_papersOf_2 : decode cX8_papersOf 2 = .ok (.invokevirtual 53, 3) := by decide +kernel
theorem dX8_papersOf_5 : decode cX8_papersOf 5 = .ok (.ifCond .eq 15, 3) := by decide +kernel
theorem dX8_papersOf_8 : decode cX8_papersOf 8 = .ok (.aload_n 0, 1) := by decide +kernel
theorem dX8_papersOf_9 : decode cX8_papersOf 9 = .ok (.getfield 7, 3) := by decide +kernel
theorem dX8_papersOf_12 : decode cX8_papersOf 12 = .ok (.bipush 8, 2) := by decide +kernel
theorem dX8_papersOf_14 : decode cX8_papersOf 14 = .ok (.iload_n 1, 1) := by decide +kernel
theorem dX8_papersOf_15 : decode cX8_papersOf 15 = .ok (.iadd, 1) := by decide +kernel
theorem dX8_papersOf_16 : decode cX8_papersOf 16 = .ok (.iaload, 1) := by decide +kernel
theorem dX8_papersOf_17 : decode cX8_papersOf 17 = .ok (.goto 4, 3) := by decide +kernel
theorem dX8_papersOf_20 : decode cX8_papersOf 20 = .ok (.iconst (-1), 1) := by decide +kernel
theorem dX8_papersOf_21 : decode cX8_papersOf 21 = .ok (.ireturn, 1) := by decide +kernel
theorem dX8_stands_0 : decode cX8_stands 0 = .ok (.aload_n 0, 1) := by decide +kernel
theorem dX8_stands_1 : decode cX8_stands 1 = .ok (.iload_n 1, 1) := by decide +kernel
theorem dX8_stands_2 : decode cX8_stands 2 = .ok (.invokevirtual 53, 3) := by decide +kernel
theorem dX8_stands_5 : decode cX8_stands 5 = .ok (.ifCond .eq 15, 3) := by decide +kernel
theorem dX8_stands_8 : decode cX8_stands 8 = .ok (.aload_n 0, 1) := by decide +kernel
theorem dX8_stands_9 : decode cX8_stands 9 = .ok (.iload_n 2, 1) := by decide +kernel
theorem dX8_stands_10 : decode cX8_stands 10 = .ok (.invokevirtual 38, 3) := by decide +kernel
theorem dX8_stands_13 : decode cX8_stands 13 = .ok (.ifCond .eq 7, 3) := by decide +kernel
theorem dX8_stands_16 : decode cX8_stands 16 = .ok (.iload_n 3, 1) := by decide +kernel
theorem dX8_stands_17 : decode cX8_stands 17 = .ok (.ifCond .ge 5, 3) := by decide +kernel
theorem dX8_stands_20 : decode cX8_stands 20 = .ok (.iconst (-1), 1) := by decide +kernel
theorem dX8_stands_21 : decode cX8_stands 21 = .ok (.ireturn, 1) := by decide +kernel
theorem dX8_stands_22 : decode cX8_stands 22 = .ok (.iload_n 3, 1) := by decide +kernel
theorem dX8_stands_23 : decode cX8_stands 23 = .ok (.aload_n 0, 1) := by decide +kernel
theorem dX8_stands_24 : decode cX8_stands 24 = .ok (.iload_n 2, 1) := by decide +kernel
theorem dX8_stands_25 : decode cX8_stands 25 = .ok (.iconst 3, 1) := by decide +kernel
theorem dX8_stands_26 : decode cX8_stands 26 = .ok (.invokevirtual 42, 3) := by decide +kernel
theorem dX8_stands_29 : decode cX8_stands 29 = .ok (.if_icmp .ge 13, 3) := by decide +kernel
theorem dX8_stands_32 : decode cX8_stands 32 = .ok (.aload_n 0, 1) := by decide +kernel
theorem dX8_stands_33 : decode cX8_stands 33 = .ok (.iload_n 1, 1) := by decide +kernel
theorem dX8_stands_34 : decode cX8_stands 34 = .ok (.iload_n 2, 1) := by decide +kernel
theorem dX8_stands_35 : decode cX8_stands 35 = .ok (.iload_n 3, 1) := by decide +kernel
theorem dX8_stands_36 : decode cX8_stands 36 = .ok (.invokevirtual 60, 3) := by decide +kernel
theorem dX8_stands_39 : decode cX8_stands 39 = .ok (.goto 5, 3) := by decide +kernel
theorem dX8_stands_42 : decode cX8_stands 42 = .ok (.bipush (-4), 2) := by decide +kernel
theorem dX8_stands_44 : decode cX8_stands 44 = .ok (.ireturn, 1) := by decide +kernel
theorem dX8_lies_0 : decode cX8_lies 0 = .ok (.aload_n 0, 1) := by decide +kernel
theorem dX8_lies_1 : decode cX8_lies 1 = .ok (.iload_n 1, 1) := by decide +kernel
theorem dX8_lies_2 : decode cX8_lies 2 = .ok (.invokevirtual 53, 3) := by decide +kernel
theorem dX8_lies_5 : decode cX8_lies 5 = .ok (.ifCond .eq 22, 3) := by decide +kernel
theorem dX8_lies_8 : decode cX8_lies 8 = .ok (.aload_n 0, 1) := by decide +kernel
theorem dX8_lies_9 : decode cX8_lies 9 = .ok (.iload_n 2, 1) := by decide +kernel
theorem dX8_lies_10 : decode cX8_lies 10 = .ok (.iload_n 3, 1) := by decide +kernel
theorem dX8_lies_11 : decode cX8_lies 11 = .ok (.invokevirtual 112, 3) := by decide +kernel
theorem dX8_lies_14 : decode cX8_lies 14 = .ok (.ifCond .eq 13, 3) := by decide +kernel
theorem dX8_lies_17 : decode cX8_lies 17 = .ok (.iload 4, 2) := by decide +kernel
theorem dX8_lies_19 : decode cX8_lies 19 = .ok (.iconst 0, 1) := by decide +kernel
theorem dX8_lies_20 : decode cX8_lies 20 = .ok (.iconst 4, 1) := by decide +kernel
theorem dX8_lies_21 : decode cX8_lies 21 = .ok (.invokestatic 46, 3) := by decide +kernel
theorem dX8_lies_24 : decode cX8_lies 24 = .ok (.ifCond .ne 5, 3) := by decide +kernel
theorem dX8_lies_27 : decode cX8_lies 27 = .ok (.iconst (-1), 1) := by decide +kernel
theorem dX8_lies_28 : decode cX8_lies 28 = .ok (.ireturn, 1) := by decide +kernel
theorem dX8_lies_29 : decode cX8_lies 29 = .ok (.aload_n 0, 1) := by decide +kernel
theorem dX8_lies_30 : decode cX8_lies 30 = .ok (.iload_n 1, 1) := by decide +kernel
theorem dX8_lies_31 : decode cX8_lies 31 = .ok (.invokevirtual 131, 3) := by decide +kernel
theorem dX8_lies_34 : decode cX8_lies 34 = .ok (.istore 5, 2) := by decide +kernel
theorem dX8_lies_36 : decode cX8_lies 36 = .ok (.bipush 8, 2) := by decide +kernel
theorem dX8_lies_38 : decode cX8_lies 38 = .ok (.iload_n 2, 1) := by decide +kernel
theorem dX8_lies_39 : decode cX8_lies 39 = .ok (.imul, 1) := by decide +kernel
theorem dX8_lies_40 : decode cX8_lies 40 = .ok (.iload_n 3, 1) := by decide +kernel
theorem dX8_lies_41 : decode cX8_lies 41 = .ok (.iadd, 1) := by decide +kernel
theorem dX8_lies_42 : decode cX8_lies 42 = .ok (.istore 6, 2) := by decide +kernel
theorem dX8_lies_44 : decode cX8_lies 44 = .ok (.iload 4, 2) := by decide +kernel
theorem dX8_lies_46 : decode cX8_lies 46 = .ok (.tableswitch 76 0 3 #[30, 45, 60, 68], 30) := by decide +kernel
theorem dX8_lies_76 : decode cX8_lies 76 = .ok (.aload_n 0, 1) := by decide +kernel
theorem dX8_lies_77 : decode cX8_lies 77 = .ok (.getfield 19, 3) := by decide +kernel
theorem dX8_lies_80 : decode cX8_lies 80 = .ok (.iload 6, 2) := by decide +kernel
theorem dX8_lies_82 : decode cX8_lies 82 = .ok (.iaload, 1) := by decide +kernel
theorem dX8_lies_83 : decode cX8_lies 83 = .ok (.aload_n 0, 1) := by decide +kernel
theorem dX8_lies_84 : decode cX8_lies 84 = .ok (.getfield 7, 3) := by decide +kernel
theorem dX8_lies_87 : decode cX8_lies 87 = .ok (.iconst 2, 1) := by decide +kernel
theorem dX8_lies_88 : decode cX8_lies 88 = .ok (.iaload, 1) := by decide +kernel
theorem dX8_lies_89 : decode cX8_lies 89 = .ok (.idiv, 1) := by decide +kernel
theorem dX8_lies_90 : decode cX8_lies 90 = .ok (.ireturn, 1) := by decide +kernel
theorem dX8_lies_91 : decode cX8_lies 91 = .ok (.aload_n 0, 1) := by decide +kernel
theorem dX8_lies_92 : decode cX8_lies 92 = .ok (.getfield 19, 3) := by decide +kernel
theorem dX8_lies_95 : decode cX8_lies 95 = .ok (.iload 6, 2) := by decide +kernel
theorem dX8_lies_97 : decode cX8_lies 97 = .ok (.iaload, 1) := by decide +kernel
theorem dX8_lies_98 : decode cX8_lies 98 = .ok (.aload_n 0, 1) := by decide +kernel
theorem dX8_lies_99 : decode cX8_lies 99 = .ok (.getfield 7, 3) := by decide +kernel
theorem dX8_lies_102 : decode cX8_lies 102 = .ok (.iconst 2, 1) := by decide +kernel
theorem dX8_lies_103 : decode cX8_lies 103 = .ok (.iaload, 1) := by decide +kernel
theorem dX8_lies_104 : decode cX8_lies 104 = .ok (.irem, 1) := by decide +kernel
theorem dX8_lies_105 : decode cX8_lies 105 = .ok (.ireturn, 1) := by decide +kernel
theorem dX8_lies_106 : decode cX8_lies 106 = .ok (.aload_n 0, 1) := by decide +kernel
theorem dX8_lies_107 : decode cX8_lies 107 = .ok (.getfield 22, 3) := by decide +kernel
theorem dX8_lies_110 : decode cX8_lies 110 = .ok (.iload 6, 2) := by decide +kernel
theorem dX8_lies_112 : decode cX8_lies 112 = .ok (.iaload, 1) := by decide +kernel
theorem dX8_lies_113 : decode cX8_lies 113 = .ok (.ireturn, 1) := by decide +kernel
theorem dX8_lies_114 : decode cX8_lies 114 = .ok (.aload_n 0, 1) := by decide +kernel
theorem dX8_lies_115 : decode cX8_lies 115 = .ok (.iload_n 1, 1) := by decide +kernel
theorem dX8_lies_116 : decode cX8_lies 116 = .ok (.iload_n 2, 1) := by decide +kernel
theorem dX8_lies_117 : decode cX8_lies 117 = .ok (.iload_n 3, 1) := by decide +kernel
theorem dX8_lies_118 : decode cX8_lies 118 = .ok (.invokevirtual 134, 3) := by decide +kernel
theorem dX8_lies_121 : decode cX8_lies 121 = .ok (.ireturn, 1) := by decide +kernel
theorem dX8_lies_122 : decode cX8_lies 122 = .ok (.iload 5, 2) := by decide +kernel
theorem dX8_lies_124 : decode cX8_lies 124 = .ok (.ifCond .ge 8, 3) := by decide +kernel
theorem dX8_lies_127 : decode cX8_lies 127 = .ok (.bipush (-4), 2) := by decide +kernel
theorem dX8_lies_129 : decode cX8_lies 129 = .ok (.goto 9, 3) := by decide +kernel
theorem dX8_lies_132 : decode cX8_lies 132 = .ok (.aload_n 0, 1) := by decide +kernel
theorem dX8_lies_133 : decode cX8_lies 133 = .ok (.iload_n 2, 1) := by decide +kernel
theorem dX8_lies_134 : decode cX8_lies 134 = .ok (.iload_n 3, 1) := by decide +kernel
theorem dX8_lies_135 : decode cX8_lies 135 = .ok (.invokevirtual 73, 3) := by decide +kernel
theorem dX8_lies_138 : decode cX8_lies 138 = .ok (.ireturn, 1) := by decide +kernel
theorem dX8_markAt_0 : decode cX8_markAt 0 = .ok (.aload_n 0, 1) := by decide +kernel
theorem dX8_markAt_1 : decode cX8_markAt 1 = .ok (.iload_n 1, 1) := by decide +kernel
theorem dX8_markAt_2 : decode cX8_markAt 2 = .ok (.invokevirtual 53, 3) := by decide +kernel
theorem dX8_markAt_5 : decode cX8_markAt 5 = .ok (.ifCond .eq 50, 3) := by decide +kernel
theorem dX8_markAt_8 : decode cX8_markAt 8 = .ok (.iload_n 2, 1) := by decide +kernel
theorem dX8_markAt_9 : decode cX8_markAt 9 = .ok (.ifCond .lt 46, 3) := by decide +kernel
theorem dX8_markAt_12 : decode cX8_markAt 12 = .ok (.iload_n 3, 1) := by decide +kernel
theorem dX8_markAt_13 : decode cX8_markAt 13 = .ok (.iconst 0, 1) := by decide +kernel
theorem dX8_markAt_14 : decode cX8_markAt 14 = .ok (.aload_n 0, 1) := by decide +kernel
theorem dX8_markAt_15 : decode cX8_markAt 15 = .ok (.getfield 7, 3) := by decide +kernel
theorem dX8_markAt_18 : decode cX8_markAt 18 = .ok (.iconst 2, 1) := by decide +kernel
theorem dX8_markAt_19 : decode cX8_markAt 19 = .ok (.iaload, 1) := by decide +kernel
theorem dX8_markAt_20 : decode cX8_markAt 20 = .ok (.iconst 1, 1) := by decide +kernel
theorem dX8_markAt_21 : decode cX8_markAt 21 = .ok (.isub, 1) := by decide +kernel
theorem dX8_markAt_22 : decode cX8_markAt 22 = .ok (.invokestatic 46, 3) := by decide +kernel
theorem dX8_markAt_25 : decode cX8_markAt 25 = .ok (.ifCond .eq 30, 3) := by decide +kernel
theorem dX8_markAt_28 : decode cX8_markAt 28 = .ok (.iload 4, 2) := by decide +kernel
theorem dX8_markAt_30 : decode cX8_markAt 30 = .ok (.iconst 0, 1) := by decide +kernel
theorem dX8_markAt_31 : decode cX8_markAt 31 = .ok (.aload_n 0, 1) := by decide +kernel
theorem dX8_markAt_32 : decode cX8_markAt 32 = .ok (.getfield 7, 3) := by decide +kernel
theorem dX8_markAt_35 : decode cX8_markAt 35 = .ok (.iconst 3, 1) := by decide +kernel
theorem dX8_markAt_36 : decode cX8_markAt 36 = .ok (.iaload, 1) := by decide +kernel
theorem dX8_markAt_37 : decode cX8_markAt 37 = .ok (.iconst 1, 1) := by decide +kernel
theorem dX8_markAt_38 : decode cX8_markAt 38 = .ok (.isub, 1) := by decide +kernel
theorem dX8_markAt_39 : decode cX8_markAt 39 = .ok (.invokestatic 46, 3) := by decide +kernel
theorem dX8_markAt_42 : decode cX8_markAt 42 = .ok (.ifCond .eq 13, 3) := by decide +kernel
theorem dX8_markAt_45 : decode cX8_markAt 45 = .ok (.iload 5, 2) := by decide +kernel
theorem dX8_markAt_47 : decode cX8_markAt 47 = .ok (.iconst 0, 1) := by decide +kernel
theorem dX8_markAt_48 : decode cX8_markAt 48 = .ok (.iconst 1, 1) := by decide +kernel
theorem dX8_markAt_49 : decode cX8_markAt 49 = .ok (.invokestatic 46, 3) := by decide +kernel
theorem dX8_markAt_52 : decode cX8_markAt 52 = .ok (.ifCond .ne 5, 3) := by decide +kernel
theorem dX8_markAt_55 : decode cX8_markAt 55 = .ok (.iconst (-1), 1) := by decide +kernel
theorem dX8_markAt_56 : decode cX8_markAt 56 = .ok (.ireturn, 1) := by decide +kernel
theorem dX8_markAt_57 : decode cX8_markAt 57 = .ok (.aload_n 0, 1) := by decide +kernel
theorem dX8_markAt_58 : decode cX8_markAt 58 = .ok (.iload_n 1, 1) := by decide +kernel
theorem dX8_markAt_59 : decode cX8_markAt 59 = .ok (.invokevirtual 131, 3) := by decide +kernel
theorem dX8_markAt_62 : decode cX8_markAt 62 = .ok (.istore 6, 2) := by decide +kernel
theorem dX8_markAt_64 : decode cX8_markAt 64 = .ok (.iconst 0, 1) := by decide +kernel
theorem dX8_markAt_65 : decode cX8_markAt 65 = .ok (.istore 7, 2) := by decide +kernel
theorem dX8_markAt_67 : decode cX8_markAt 67 = .ok (.iload 7, 2) := by decide +kernel
theorem dX8_markAt_69 : decode cX8_markAt 69 = .ok (.aload_n 0, 1) := by decide +kernel
theorem dX8_markAt_70 : decode cX8_markAt 70 = .ok (.getfield 7, 3) := by decide +kernel
theorem dX8_markAt_73 : decode cX8_markAt 73 = .ok (.iconst 0, 1) := by decide +kernel
theorem dX8_markAt_74 : decode cX8_markAt 74 = .ok (.iaload, 1) := by decide +kernel
theorem dX8_markAt_75 : decode cX8_markAt 75 = .ok (.if_icmp .ge 91, 3) := by decide +kernel
theorem dX8_markAt_78 : decode cX8_markAt 78 = .ok (.iload_n 2, 1) := by decide +kernel
theorem dX8_markAt_79 : decode cX8_markAt 79 = .ok (.iload 6, 2) := by decide +kernel
theorem dX8_markAt_81 : decode cX8_markAt 81 = .ok (.if_icmp .ge 85, 3) := by decide +kernel
theorem dX8_markAt_84 : decode cX8_markAt 84 = .ok (.iconst 0, 1) := by decide +kernel
theorem dX8_markAt_85 : decode cX8_markAt 85 = .ok (.istore 8, 2) := by decide +kernel
theorem dX8_markAt_87 : decode cX8_markAt 87 = .ok (.iload 8, 2) := by decide +kernel
theorem dX8_markAt_89 : decode cX8_markAt 89 = .ok (.aload_n 0, 1) := by decide +kernel
theorem dX8_markAt_90 : decode cX8_markAt 90 = .ok (.iload 7, 2) := by decide +kernel
theorem dX8_markAt_92 : decode cX8_markAt 92 = .ok (.iconst 3, 1) := by decide +kernel
theorem dX8_markAt_93 : decode cX8_markAt 93 = .ok (.invokevirtual 42, 3) := by decide +kernel
theorem dX8_markAt_96 : decode cX8_markAt 96 = .ok (.if_icmp .ge 64, 3) := by decide +kernel
theorem dX8_markAt_99 : decode cX8_markAt 99 = .ok (.bipush 8, 2) := by decide +kernel
theorem dX8_markAt_101 : decode cX8_markAt 101 = .ok (.iload 7, 2) := by decide +kernel
theorem dX8_markAt_103 : decode cX8_markAt 103 = .ok (.imul, 1) := by decide +kernel
theorem dX8_markAt_104 : decode cX8_markAt 104 = .ok (.iload 8, 2) := by decide +kernel
theorem dX8_markAt_106 : decode cX8_markAt 106 = .ok (.iadd, 1) := by decide +kernel
theorem dX8_markAt_107 : decode cX8_markAt 107 = .ok (.istore 9, 2) := by decide +kernel
theorem dX8_markAt_109 : decode cX8_markAt 109 = .ok (.aload_n 0, 1) := by decide +kernel
theorem dX8_markAt_110 : decode cX8_markAt 110 = .ok (.getfield 19, 3) := by decide +kernel
theorem dX8_markAt_113 : decode cX8_markAt 113 = .ok (.iload 9, 2) := by decide +kernel
theorem dX8_markAt_115 : decode cX8_markAt 115 = .ok (.iaload, 1) := by decide +kernel
theorem dX8_markAt_116 : decode cX8_markAt 116 = .ok (.iload_n 2, 1) := by decide +kernel
theorem dX8_markAt_117 : decode cX8_markAt 117 = .ok (.aload_n 0, 1) := by decide +kernel
theorem dX8_markAt_118 : decode cX8_markAt 118 = .ok (.getfield 7, 3) := by decide +kernel
theorem dX8_markAt_121 : decode cX8_markAt 121 = .ok (.iconst 2, 1) := by decide +kernel
theorem dX8_markAt_122 : decode cX8_markAt 122 = .ok (.iaload, 1) := by decide +kernel
theorem dX8_markAt_123 : decode cX8_markAt 123 = .ok (.imul, 1) := by decide +kernel
theorem dX8_markAt_124 : decode cX8_markAt 124 = .ok (.iload_n 3, 1) := by decide +kernel
theorem dX8_markAt_125 : decode cX8_markAt 125 = .ok (.iadd, 1) := by decide +kernel
theorem dX8_markAt_126 : decode cX8_markAt 126 = .ok (.if_icmp .ne 28, 3) := by decide +kernel
theorem dX8_markAt_129 : decode cX8_markAt 129 = .ok (.aload_n 0, 1) := by decide +kernel
theorem dX8_markAt_130 : decode cX8_markAt 130 = .ok (.getfield 22, 3) := by decide +kernel
theorem dX8_markAt_133 : decode cX8_markAt 133 = .ok (.iload 9, 2) := by decide +kernel
theorem dX8_markAt_135 : decode cX8_markAt 135 = .ok (.iaload, 1) := by decide +kernel
theorem dX8_markAt_136 : decode cX8_markAt 136 = .ok (.iload 4, 2) := by decide +kernel
theorem dX8_markAt_138 : decode cX8_markAt 138 = .ok (.if_icmp .ne 16, 3) := by decide +kernel
theorem dX8_markAt_141 : decode cX8_markAt 141 = .ok (.iload 5, 2) := by decide +kernel
theorem dX8_markAt_143 : decode cX8_markAt 143 = .ok (.ifCond .ne 8, 3) := by decide +kernel
theorem dX8_markAt_146 : decode cX8_markAt 146 = .ok (.iload 7, 2) := by decide +kernel
theorem dX8_markAt_148 : decode cX8_markAt 148 = .ok (.goto 5, 3) := by decide +kernel
theorem dX8_markAt_151 : decode cX8_markAt 151 = .ok (.iload 8, 2) := by decide +kernel
theorem dX8_markAt_153 : decode cX8_markAt 153 = .ok (.ireturn, 1) := by decide +kernel
theorem dX8_markAt_154 : decode cX8_markAt 154 = .ok (.iinc 8 1, 3) := by decide +kernel
theorem dX8_markAt_157 : decode cX8_markAt 157 = .ok (.goto (-70), 3) := by decide +kernel
theorem dX8_markAt_160 : decode cX8_markAt 160 = .ok (.iinc 7 1, 3) := by decide +kernel
theorem dX8_markAt_163 : decode cX8_markAt 163 = .ok (.goto (-96), 3) := by decide +kernel
theorem dX8_markAt_166 : decode cX8_markAt 166 = .ok (.bipush (-4), 2) := by decide +kernel
theorem dX8_markAt_168 : decode cX8_markAt 168 = .ok (.ireturn, 1) := by decide +kernel
theorem dX8_pages_0 : decode cX8_pages 0 = .ok (.aload_n 0, 1) := by decide +kernel
theorem dX8_pages_1 : decode cX8_pages 1 = .ok (.iload_n 1, 1) := by decide +kernel
theorem dX8_pages_2 : decode cX8_pages 2 = .ok (.invokevirtual 131, 3) := by decide +kernel
theorem dX8_pages_5 : decode cX8_pages 5 = .ok (.aload_n 0, 1) := by decide +kernel
theorem dX8_pages_6 : decode cX8_pages 6 = .ok (.getfield 7, 3) := by decide +kernel
theorem dX8_pages_9 : decode cX8_pages 9 = .ok (.iconst 2, 1) := by decide +kernel
theorem dX8_pages_10 : decode cX8_pages 10 = .ok (.iaload, 1) := by decide +kernel
theorem dX8_pages_11 : decode cX8_pages 11 = .ok (.invokestatic 64, 3) := by decide +kernel
theorem dX8_pages_14 : decode cX8_pages 14 = .ok (.ireturn, 1) := by decide +kernel
theorem dX8_paper_0 : decode cX8_paper 0 = .ok (.aload_n 0, 1) := by decide +kernel
theorem dX8_paper_1 : decode cX8_paper 1 = .ok (.iload_n 1, 1) := by decide +kernel
theorem dX8_paper_2 : decode cX8_paper 2 = .ok (.invokevirtual 53, 3) := by decide +kernel
theorem dX8_paper_5 : decode cX8_paper 5 = .ok (.ifCond .eq 12, 3) := by decide +kernel
theorem dX8_paper_8 : decode cX8_paper 8 = .ok (.iload_n 2, 1) := by decide +kernel
theorem dX8_paper_9 : decode cX8_paper 9 = .ok (.iconst 0, 1) := by decide +kernel
theorem dX8_paper_10 : decode cX8_paper 10 = .ok (.iconst 4, 1) := by decide +kernel
theorem dX8_paper_11 : decode cX8_paper 11 = .ok (.invokestatic 46, 3) := by decide +kernel
theorem dX8_paper_14 : decode cX8_paper 14 = .ok (.ifCond .ne 5, 3) := by decide +kernel
theorem dX8_paper_17 : decode cX8_paper 17 = .ok (.iconst (-1), 1) := by decide +kernel
theorem dX8_paper_18 : decode cX8_paper 18 = .ok (.ireturn, 1) := by decide +kernel
theorem dX8_paper_19 : decode cX8_paper 19 = .ok (.aload_n 0, 1) := by decide +kernel
theorem dX8_paper_20 : decode cX8_paper 20 = .ok (.iload_n 1, 1) := by decide +kernel
theorem dX8_paper_21 : decode cX8_paper 21 = .ok (.invokevirtual 131, 3) := by decide +kernel
theorem dX8_paper_24 : decode cX8_paper 24 = .ok (.istore_n 3, 1) := by decide +kernel
theorem dX8_paper_25 : decode cX8_paper 25 = .ok (.iload_n 2, 1) := by decide +kernel
theorem dX8_paper_26 : decode cX8_paper 26 = .ok (.ifCond .ne 16, 3) := by decide +kernel
theorem dX8_paper_29 : decode cX8_paper 29 = .ok (.iload_n 3, 1) := by decide +kernel
theorem dX8_paper_30 : decode cX8_paper 30 = .ok (.aload_n 0, 1) := by decide +kernel
theorem dX8_paper_31 : decode cX8_paper 31 = .ok (.getfield 7, 3) := by decide +kernel
theorem dX8_paper_34 : decode cX8_paper 34 = .ok (.iconst 2, 1) := by decide +kernel
theorem dX8_paper_35 : decode cX8_paper 35 = .ok (.iaload, 1) := by decide +kernel
theorem dX8_paper_36 : decode cX8_paper 36 = .ok (.invokestatic 64, 3) := by decide +kernel
theorem dX8_paper_39 : decode cX8_paper 39 = .ok (.goto 40, 3) := by decide +kernel
theorem dX8_paper_42 : decode cX8_paper 42 = .ok (.iload_n 2, 1) := by decide +kernel
theorem dX8_paper_43 : decode cX8_paper 43 = .ok (.iconst 1, 1) := by decide +kernel
theorem dX8_paper_44 : decode cX8_paper 44 = .ok (.if_icmp .ne 7, 3) := by decide +kernel
theorem dX8_paper_47 : decode cX8_paper 47 = .ok (.iload_n 3, 1) := by decide +kernel
theorem dX8_paper_48 : decode cX8_paper 48 = .ok (.goto 31, 3) := by decide +kernel
theorem dX8_paper_51 : decode cX8_paper 51 = .ok (.iload_n 2, 1) := by decide +kernel
theorem dX8_paper_52 : decode cX8_paper 52 = .ok (.iconst 2, 1) := by decide +kernel
theorem dX8_paper_53 : decode cX8_paper 53 = .ok (.if_icmp .ne 10, 3) := by decide +kernel
theorem dX8_paper_56 : decode cX8_paper 56 = .ok (.aload_n 0, 1) := by decide +kernel
theorem dX8_paper_57 : decode cX8_paper 57 = .ok (.getfield 92, 3) := by decide +kernel
theorem dX8_paper_60 : decode cX8_paper 60 = .ok (.goto 19, 3) := by decide +kernel
theorem dX8_paper_63 : decode cX8_paper 63 = .ok (.iload_n 2, 1) := by decide +kernel
theorem dX8_paper_64 : decode cX8_paper 64 = .ok (.iconst 3, 1) := by decide +kernel
theorem dX8_paper_65 : decode cX8_paper 65 = .ok (.if_icmp .ne 10, 3) := by decide +kernel
theorem dX8_paper_68 : decode cX8_paper 68 = .ok (.aload_n 0, 1) := by decide +kernel
theorem dX8_paper_69 : decode cX8_paper 69 = .ok (.getfield 89, 3) := by decide +kernel
theorem dX8_paper_72 : decode cX8_paper 72 = .ok (.goto 7, 3) := by decide +kernel
theorem dX8_paper_75 : decode cX8_paper 75 = .ok (.aload_n 0, 1) := by decide +kernel
theorem dX8_paper_76 : decode cX8_paper 76 = .ok (.getfield 86, 3) := by decide +kernel
theorem dX8_paper_79 : decode cX8_paper 79 = .ok (.ireturn, 1) := by decide +kernel
theorem dX8_spread_0 : decode cX8_spread 0 = .ok (.aload_n 0, 1) := by decide +kernel
theorem dX8_spread_1 : decode cX8_spread 1 = .ok (.iload_n 1, 1) := by decide +kernel
theorem dX8_spread_2 : decode cX8_spread 2 = .ok (.invokevirtual 38, 3) := by decide +kernel
theorem dX8_spread_5 : decode cX8_spread 5 = .ok (.ifCond .ne 5, 3) := by decide +kernel
theorem dX8_spread_8 : decode cX8_spread 8 = .ok (.iconst (-1), 1) := by decide +kernel
theorem dX8_spread_9 : decode cX8_spread 9 = .ok (.ireturn, 1) := by decide +kernel
theorem dX8_spread_10 : decode cX8_spread 10 = .ok (.bipush (-4), 2) := by decide +kernel
theorem dX8_spread_12 : decode cX8_spread 12 = .ok (.istore_n 2, 1) := by decide +kernel
theorem dX8_spread_13 : decode cX8_spread 13 = .ok (.bipush (-4), 2) := by decide +kernel
theorem dX8_spread_15 : decode cX8_spread 15 = .ok (.istore_n 3, 1) := by decide +kernel
theorem dX8_spread_16 : decode cX8_spread 16 = .ok (.iconst 0, 1) := by decide +kernel
theorem dX8_spread_17 : decode cX8_spread 17 = .ok (.istore 4, 2) := by decide +kernel
theorem dX8_spread_19 : decode cX8_spread 19 = .ok (.iload 4, 2) := by decide +kernel
theorem dX8_spread_21 : decode cX8_spread 21 = .ok (.aload_n 0, 1) := by decide +kernel
theorem dX8_spread_22 : decode cX8_spread 22 = .ok (.iload_n 1, 1) := by decide +kernel
theorem dX8_spread_23 : decode cX8_spread 23 = .ok (.iconst 3, 1) := by decide +kernel
theorem dX8_spread_24 : decode cX8_spread 24 = .ok (.invokevirtual 42, 3) := by decide +kernel
theorem dX8_spread_27 : decode cX8_spread 27 = .ok (.if_icmp .ge 48, 3) := by decide +kernel
theorem dX8_spread_30 : decode cX8_spread 30 = .ok (.aload_n 0, 1) := by decide +kernel
theorem dX8_spread_31 : decode cX8_spread 31 = .ok (.iload_n 1, 1) := by decide +kernel
theorem dX8_spread_32 : decode cX8_spread 32 = .ok (.iload 4, 2) := by decide +kernel
theorem dX8_spread_34 : decode cX8_spread 34 = .ok (.invokevirtual 115, 3) := by decide +kernel
theorem dX8_spread_37 : decode cX8_spread 37 = .ok (.istore 5, 2) := by decide +kernel
theorem dX8_spread_39 : decode cX8_spread 39 = .ok (.iload 5, 2) := by decide +kernel
theorem dX8_spread_41 : decode cX8_spread 41 = .ok (.iload_n 2, 1) := by decide +kernel
theorem dX8_spread_42 : decode cX8_spread 42 = .ok (.if_icmp .le 8, 3) := by decide +kernel
theorem dX8_spread_45 : decode cX8_spread 45 = .ok (.iload 5, 2) := by decide +kernel
theorem dX8_spread_47 : decode cX8_spread 47 = .ok (.goto 4, 3) := by decide +kernel
theorem dX8_spread_50 : decode cX8_spread 50 = .ok (.iload_n 2, 1) := by decide +kernel
theorem dX8_spread_51 : decode cX8_spread 51 = .ok (.istore_n 2, 1) := by decide +kernel
theorem dX8_spread_52 : decode cX8_spread 52 = .ok (.iload_n 3, 1) := by decide +kernel
theorem dX8_spread_53 : decode cX8_spread 53 = .ok (.ifCond .lt 9, 3) := by decide +kernel
theorem dX8_spread_56 : decode cX8_spread 56 = .ok (.iload 5, 2) := by decide +kernel
theorem dX8_spread_58 : decode cX8_spread 58 = .ok (.iload_n 3, 1) := by decide +kernel
theorem dX8_spread_59 : decode cX8_spread 59 = .ok (.if_icmp .ge 8, 3) := by decide +kernel
theorem dX8_spread_62 : decode cX8_spread 62 = .ok (.iload 5, 2) := by decide +kernel
theorem dX8_spread_64 : decode cX8_spread 64 = .ok (.goto 4, 3) := by decide +kernel
theorem dX8_spread_67 : decode cX8_spread 67 = .ok (.iload_n 3, 1) := by decide +kernel
theorem dX8_spread_68 : decode cX8_spread 68 = .ok (.istore_n 3, 1) := by decide +kernel
theorem dX8_spread_69 : decode cX8_spread 69 = .ok (.iinc 4 1, 3) := by decide +kernel
theorem dX8_spread_72 : decode cX8_spread 72 = .ok (.goto (-53), 3) := by decide +kernel
theorem dX8_spread_75 : decode cX8_spread 75 = .ok (.iload_n 2, 1) := by decide +kernel
theorem dX8_spread_76 : decode cX8_spread 76 = .ok (.ifCond .ge 8, 3) := by decide +kernel
theorem dX8_spread_79 : decode cX8_spread 79 = .ok (.bipush (-4), 2) := by decide +kernel
theorem dX8_spread_81 : decode cX8_spread 81 = .ok (.goto 6, 3) := by decide +kernel
theorem dX8_spread_84 : decode cX8_spread 84 = .ok (.iload_n 2, 1) := by decide +kernel
theorem dX8_spread_85 : decode cX8_spread 85 = .ok (.iload_n 3, 1) := by decide +kernel
theorem dX8_spread_86 : decode cX8_spread 86 = .ok (.isub, 1) := by decide +kernel
theorem dX8_spread_87 : decode cX8_spread 87 = .ok (.ireturn, 1) := by decide +kernel
theorem dX8_isEven_0 : decode cX8_isEven 0 = .ok (.iconst 1, 1) := by decide +kernel
theorem dX8_isEven_1 : decode cX8_isEven 1 = .ok (.istore_n 3, 1) := by decide +kernel
theorem dX8_isEven_2 : decode cX8_isEven 2 = .ok (.iconst 0, 1) := by decide +kernel
theorem dX8_isEven_3 : decode cX8_isEven 3 = .ok (.istore 4, 2) := by decide +kernel
theorem dX8_isEven_5 : decode cX8_isEven 5 = .ok (.iload 4, 2) := by decide +kernel
theorem dX8_isEven_7 : decode cX8_isEven 7 = .ok (.aload_n 0, 1) := by decide +kernel
theorem dX8_isEven_8 : decode cX8_isEven 8 = .ok (.iload_n 1, 1) := by decide +kernel
theorem dX8_isEven_9 : decode cX8_isEven 9 = .ok (.iconst 3, 1) := by decide +kernel
theorem dX8_isEven_10 : decode cX8_isEven 10 = .ok (.invokevirtual 42, 3) := by decide +kernel
theorem dX8_isEven_13 : decode cX8_isEven 13 = .ok (.if_icmp .ge 73, 3) := by decide +kernel
theorem dX8_isEven_16 : decode cX8_isEven 16 = .ok (.iconst 0, 1) := by decide +kernel
theorem dX8_isEven_17 : decode cX8_isEven 17 = .ok (.istore 5, 2) := by decide +kernel
theorem dX8_isEven_19 : decode cX8_isEven 19 = .ok (.iconst 0, 1) := by decide +kernel
theorem dX8_isEven_20 : decode cX8_isEven 20 = .ok (.istore 6, 2) := by decide +kernel
theorem dX8_isEven_22 : decode cX8_isEven 22 = .ok (.iload 6, 2) := by decide +kernel
theorem dX8_isEven_24 : decode cX8_isEven 24 = .ok (.iload_n 2, 1) := by decide +kernel
theorem dX8_isEven_25 : decode cX8_isEven 25 = .ok (.if_icmp .ge 32, 3) := by decide +kernel
theorem dX8_isEven_28 : decode cX8_isEven 28 = .ok (.iload 5, 2) := by decide +kernel
theorem dX8_isEven_30 : decode cX8_isEven 30 = .ok (.aload_n 0, 1) := by decide +kernel
theorem dX8_isEven_31 : decode cX8_isEven 31 = .ok (.iload 6, 2) := by decide +kernel
theorem dX8_isEven_33 : decode cX8_isEven 33 = .ok (.iload_n 1, 1) := by decide +kernel
theorem dX8_isEven_34 : decode cX8_isEven 34 = .ok (.iconst 0, 1) := by decide +kernel
theorem dX8_isEven_35 : decode cX8_isEven 35 = .ok (.invokevirtual 60, 3) := by decide +kernel
theorem dX8_isEven_38 : decode cX8_isEven 38 = .ok (.iload 4, 2) := by decide +kernel
theorem dX8_isEven_40 : decode cX8_isEven 40 = .ok (.if_icmp .ne 7, 3) := by decide +kernel
theorem dX8_isEven_43 : decode cX8_isEven 43 = .ok (.iconst 1, 1) := by decide +kernel
theorem dX8_isEven_44 : decode cX8_isEven 44 = .ok (.goto 4, 3) := by decide +kernel
theorem dX8_isEven_47 : decode cX8_isEven 47 = .ok (.iconst 0, 1) := by decide +kernel
theorem dX8_isEven_48 : decode cX8_isEven 48 = .ok (.iadd, 1) := by decide +kernel
theorem dX8_isEven_49 : decode cX8_isEven 49 = .ok (.istore 5, 2) := by decide +kernel
theorem dX8_isEven_51 : decode cX8_isEven 51 = .ok (.iinc 6 1, 3) := by decide +kernel
theorem dX8_isEven_54 : decode cX8_isEven 54 = .ok (.goto (-32), 3) := by decide +kernel
theorem dX8_isEven_57 : decode cX8_isEven 57 = .ok (.iload_n 3, 1) := by decide +kernel
theorem dX8_isEven_58 : decode cX8_isEven 58 = .ok (.ifCond .eq 20, 3) := by decide +kernel
theorem dX8_isEven_61 : decode cX8_isEven 61 = .ok (.iload 5, 2) := by decide +kernel
theorem dX8_isEven_63 : decode cX8_isEven 63 = .ok (.aload_n 0, 1) := by decide +kernel
theorem dX8_isEven_64 : decode cX8_isEven 64 = .ok (.iload_n 1, 1) := by decide +kernel
theorem dX8_isEven_65 : decode cX8_isEven 65 = .ok (.iconst 3, 1) := by decide +kernel
theorem dX8_isEven_66 : decode cX8_isEven 66 = .ok (.invokevirtual 42, 3) := by decide +kernel
theorem dX8_isEven_69 : decode cX8_isEven 69 = .ok (.imul, 1) := by decide +kernel
theorem dX8_isEven_70 : decode cX8_isEven 70 = .ok (.iload_n 2, 1) := by decide +kernel
theorem dX8_isEven_71 : decode cX8_isEven 71 = .ok (.if_icmp .ne 7, 3) := by decide +kernel
theorem dX8_isEven_74 : decode cX8_isEven 74 = .ok (.iconst 1, 1) := by decide +kernel
theorem dX8_isEven_75 : decode cX8_isEven 75 = .ok (.goto 4, 3) := by decide +kernel
theorem dX8_isEven_78 : decode cX8_isEven 78 = .ok (.iconst 0, 1) := by decide +kernel
theorem dX8_isEven_79 : decode cX8_isEven 79 = .ok (.istore_n 3, 1) := by decide +kernel
theorem dX8_isEven_80 : decode cX8_isEven 80 = .ok (.iinc 4 1, 3) := by decide +kernel
theorem dX8_isEven_83 : decode cX8_isEven 83 = .ok (.goto (-78), 3) := by decide +kernel
theorem dX8_isEven_86 : decode cX8_isEven 86 = .ok (.iload_n 3, 1) := by decide +kernel
theorem dX8_isEven_87 : decode cX8_isEven 87 = .ok (.ireturn, 1) := by decide +kernel
theorem dX8_evenVersions_0 : decode cX8_evenVersions 0 = .ok (.iconst 1, 1) := by decide +kernel
theorem dX8_evenVersions_1 : decode cX8_evenVersions 1 = .ok (.istore_n 1, 1) := by decide +kernel
theorem dX8_evenVersions_2 : decode cX8_evenVersions 2 = .ok (.iload_n 1, 1) := by decide +kernel
theorem dX8_evenVersions_3 : decode cX8_evenVersions 3 = .ok (.bipush 24, 2) := by decide +kernel
theorem dX8_evenVersions_5 : decode cX8_evenVersions 5 = .ok (.if_icmp .gt 54, 3) := by decide +kernel
theorem dX8_evenVersions_8 : decode cX8_evenVersions 8 = .ok (.iconst 1, 1) := by decide +kernel
theorem dX8_evenVersions_9 : decode cX8_evenVersions 9 = .ok (.istore_n 2, 1) := by decide +kernel
theorem dX8_evenVersions_10 : decode cX8_evenVersions 10 = .ok (.iconst 0, 1) := by decide +kernel
theorem dX8_evenVersions_11 : decode cX8_evenVersions 11 = .ok (.istore_n 3, 1) := by decide +kernel
theorem dX8_evenVersions_12 : decode cX8_evenVersions 12 = .ok (.iload_n 3, 1) := by decide +kernel
theorem dX8_evenVersions_13 : decode cX8_evenVersions 13 = .ok (.aload_n 0, 1) := by decide +kernel
theorem dX8_evenVersions_14 : decode cX8_evenVersions 14 = .ok (.getfield 7, 3) := by decide +kernel
theorem dX8_evenVersions_17 : decode cX8_evenVersions 17 = .ok (.iconst 0, 1) := by decide +kernel
theorem dX8_evenVersions_18 : decode cX8_evenVersions 18 = .ok (.iaload, 1) := by decide +kernel
theorem dX8_evenVersions_19 : decode cX8_evenVersions 19 = .ok (.if_icmp .ge 28, 3) := by decide +kernel
theorem dX8_evenVersions_22 : decode cX8_evenVersions 22 = .ok (.iload_n 2, 1) := by decide +kernel
theorem dX8_evenVersions_23 : decode cX8_evenVersions 23 = .ok (.ifCond .eq 16, 3) := by decide +kernel
theorem dX8_evenVersions_26 : decode cX8_evenVersions 26 = .ok (.aload_n 0, 1) := by decide +kernel
theorem dX8_evenVersions_27 : decode cX8_evenVersions 27 = .ok (.iload_n 3, 1) := by decide +kernel
theorem dX8_evenVersions_28 : decode cX8_evenVersions 28 = .ok (.iload_n 1, 1) := by decide +kernel
theorem dX8_evenVersions_29 : decode cX8_evenVersions 29 = .ok (.invokevirtual 137, 3) := by decide +kernel
theorem dX8_evenVersions_32 : decode cX8_evenVersions 32 = .ok (.ifCond .eq 7, 3) := by decide +kernel
theorem dX8_evenVersions_35 : decode cX8_evenVersions 35 = .ok (.iconst 1, 1) := by decide +kernel
theorem dX8_evenVersions_36 : decode cX8_evenVersions 36 = .ok (.goto 4, 3) := by decide +kernel
theorem dX8_evenVersions_39 : decode cX8_evenVersions 39 = .ok (.iconst 0, 1) := by decide +kernel
theorem dX8_evenVersions_40 : decode cX8_evenVersions 40 = .ok (.istore_n 2, 1) := by decide +kernel
theorem dX8_evenVersions_41 : decode cX8_evenVersions 41 = .ok (.iinc 3 1, 3) := by decide +kernel
theorem dX8_evenVersions_44 : decode cX8_evenVersions 44 = .ok (.goto (-32), 3) := by decide +kernel
theorem dX8_evenVersions_47 : decode cX8_evenVersions 47 = .ok (.iload_n 2, 1) := by decide +kernel
theorem dX8_evenVersions_48 : decode cX8_evenVersions 48 = .ok (.ifCond .eq 5, 3) := by decide +kernel
theorem dX8_evenVersions_51 : decode cX8_evenVersions 51 = .ok (.iload_n 1, 1) := by decide +kernel
theorem dX8_evenVersions_52 : decode cX8_evenVersions 52 = .ok (.ireturn, 1) := by decide +kernel
theorem dX8_evenVersions_53 : decode cX8_evenVersions 53 = .ok (.iinc 1 1, 3) := by decide +kernel
theorem dX8_evenVersions_56 : decode cX8_evenVersions 56 = .ok (.goto (-54), 3) := by decide +kernel
theorem dX8_evenVersions_59 : decode cX8_evenVersions 59 = .ok (.bipush (-4), 2) := by decide +kernel
theorem dX8_evenVersions_61 : decode cX8_evenVersions 61 = .ok (.ireturn, 1) := by decide +kernel
theorem dX8_bestWidth_0 : decode cX8_bestWidth 0 = .ok (.iload_n 1, 1) := by decide +kernel
theorem dX8_bestWidth_1 : decode cX8_bestWidth 1 = .ok (.iconst 0, 1) := by decide +kernel
theorem dX8_bestWidth_2 : decode cX8_bestWidth 2 = .ok (.iconst 1, 1) := by decide +kernel
theorem dX8_bestWidth_3 : decode cX8_bestWidth 3 = .ok (.invokestatic 46, 3) := by decide +kernel
theorem dX8_bestWidth_6 : decode cX8_bestWidth 6 = .ok (.ifCond .ne 5, 3) := by decide +kernel
theorem dX8_bestWidth_9 : decode cX8_bestWidth 9 = .ok (.iconst (-1), 1) := by decide +kernel
theorem dX8_bestWidth_10 : decode cX8_bestWidth 10 = .ok (.ireturn, 1) := by decide +kernel
theorem dX8_bestWidth_11 : decode cX8_bestWidth 11 = .ok (.aload_n 0, 1) := by decide +kernel
theorem dX8_bestWidth_12 : decode cX8_bestWidth 12 = .ok (.getfield 7, 3) := by decide +kernel
theorem dX8_bestWidth_15 : decode cX8_bestWidth 15 = .ok (.iconst 4, 1) := by decide +kernel
theorem dX8_bestWidth_16 : decode cX8_bestWidth 16 = .ok (.iaload, 1) := by decide +kernel
theorem dX8_bestWidth_17 : decode cX8_bestWidth 17 = .ok (.istore_n 2, 1) := by decide +kernel
theorem dX8_bestWidth_18 : decode cX8_bestWidth 18 = .ok (.bipush (-4), 2) := by decide +kernel
theorem dX8_bestWidth_20 : decode cX8_bestWidth 20 = .ok (.istore_n 3, 1) := by decide +kernel
theorem dX8_bestWidth_21 : decode cX8_bestWidth 21 = .ok (.iconst 0, 1) := by decide +kernel
theorem dX8_bestWidth_22 : decode cX8_bestWidth 22 = .ok (.istore 4, 2) := by decide +kernel
theorem dX8_bestWidth_24 : decode cX8_bestWidth 24 = .ok (.bipush 8, 2) := by decide +kernel
theorem dX8_bestWidth_26 : decode cX8_bestWidth 26 = .ok (.istore 5, 2) := by decide +kernel
theorem dX8_bestWidth_28 : decode cX8_bestWidth 28 = .ok (.iload 5, 2) := by decide +kernel
theorem dX8_bestWidth_30 : decode cX8_bestWidth 30 = .ok (.bipush 40, 2) := by decide +kernel
theorem dX8_bestWidth_32 : decode cX8_bestWidth 32 = .ok (.if_icmp .gt 42, 3) := by decide +kernel
theorem dX8_bestWidth_35 : decode cX8_bestWidth 35 = .ok (.aload_n 0, 1) := by decide +kernel
theorem dX8_bestWidth_36 : decode cX8_bestWidth 36 = .ok (.getfield 7, 3) := by decide +kernel
theorem dX8_bestWidth_39 : decode cX8_bestWidth 39 = .ok (.iconst 4, 1) := by decide +kernel
theorem dX8_bestWidth_40 : decode cX8_bestWidth 40 = .ok (.iload 5, 2) := by decide +kernel
theorem dX8_bestWidth_42 : decode cX8_bestWidth 42 = .ok (.iastore, 1) := by decide +kernel
theorem dX8_bestWidth_43 : decode cX8_bestWidth 43 = .ok (.aload_n 0, 1) := by decide +kernel
theorem dX8_bestWidth_44 : decode cX8_bestWidth 44 = .ok (.iconst 0, 1) := by decide +kernel
theorem dX8_bestWidth_45 : decode cX8_bestWidth 45 = .ok (.invokevirtual 140, 3) := by decide +kernel
theorem dX8_bestWidth_48 : decode cX8_bestWidth 48 = .ok (.istore 6, 2) := by decide +kernel
theorem dX8_bestWidth_50 : decode cX8_bestWidth 50 = .ok (.iload_n 3, 1) := by decide +kernel
theorem dX8_bestWidth_51 : decode cX8_bestWidth 51 = .ok (.ifCond .lt 10, 3) := by decide +kernel
theorem dX8_bestWidth_54 : decode cX8_bestWidth 54 = .ok (.iload 6, 2) := by decide +kernel
theorem dX8_bestWidth_56 : decode cX8_bestWidth 56 = .ok (.iload 4, 2) := by decide +kernel
theorem dX8_bestWidth_58 : decode cX8_bestWidth 58 = .ok (.if_icmp .ge 10, 3) := by decide +kernel
theorem dX8_bestWidth_61 : decode cX8_bestWidth 61 = .ok (.iload 5, 2) := by decide +kernel
theorem dX8_bestWidth_63 : decode cX8_bestWidth 63 = .ok (.istore_n 3, 1) := by decide +kernel
theorem dX8_bestWidth_64 : decode cX8_bestWidth 64 = .ok (.iload 6, 2) := by decide +kernel
theorem dX8_bestWidth_66 : decode cX8_bestWidth 66 = .ok (.istore 4, 2) := by decide +kernel
theorem dX8_bestWidth_68 : decode cX8_bestWidth 68 = .ok (.iinc 5 1, 3) := by decide +kernel
theorem dX8_bestWidth_71 : decode cX8_bestWidth 71 = .ok (.goto (-43), 3) := by decide +kernel
theorem dX8_bestWidth_74 : decode cX8_bestWidth 74 = .ok (.aload_n 0, 1) := by decide +kernel
theorem dX8_bestWidth_75 : decode cX8_bestWidth 75 = .ok (.getfield 7, 3) := by decide +kernel
theorem dX8_bestWidth_78 : decode cX8_bestWidth 78 = .ok (.iconst 4, 1) := by decide +kernel
theorem dX8_bestWidth_79 : decode cX8_bestWidth 79 = .ok (.iload_n 2, 1) := by decide +kernel
theorem dX8_bestWidth_80 : decode cX8_bestWidth 80 = .ok (.iastore, 1) := by decide +kernel
theorem dX8_bestWidth_81 : decode cX8_bestWidth 81 = .ok (.iload_n 1, 1) := by decide +kernel
theorem dX8_bestWidth_82 : decode cX8_bestWidth 82 = .ok (.ifCond .ne 7, 3) := by decide +kernel
theorem dX8_bestWidth_85 : decode cX8_bestWidth 85 = .ok (.iload_n 3, 1) := by decide +kernel
theorem dX8_bestWidth_86 : decode cX8_bestWidth 86 = .ok (.goto 5, 3) := by decide +kernel
theorem dX8_bestWidth_89 : decode cX8_bestWidth 89 = .ok (.iload 4, 2) := by decide +kernel
theorem dX8_bestWidth_91 : decode cX8_bestWidth 91 = .ok (.ireturn, 1) := by decide +kernel
theorem dX8_undo_0 : decode cX8_undo 0 = .ok (.aload_n 0, 1) := by decide +kernel
theorem dX8_undo_1 : decode cX8_undo 1 = .ok (.getfield 34, 3) := by decide +kernel
theorem dX8_undo_4 : decode cX8_undo 4 = .ok (.ifCond .ne 6, 3) := by decide +kernel
theorem dX8_undo_7 : decode cX8_undo 7 = .ok (.bipush (-2), 2) := by decide +kernel
theorem dX8_undo_9 : decode cX8_undo 9 = .ok (.ireturn, 1) := by decide +kernel
theorem dX8_undo_10 : decode cX8_undo 10 = .ok (.aload_n 0, 1) := by decide +kernel
theorem dX8_undo_11 : decode cX8_undo 11 = .ok (.dup, 1) := by decide +kernel
theorem dX8_undo_12 : decode cX8_undo 12 = .ok (.getfield 34, 3) := by decide +kernel
theorem dX8_undo_15 : decode cX8_undo 15 = .ok (.iconst 1, 1) := by decide +kernel
theorem dX8_undo_16 : decode cX8_undo 16 = .ok (.isub, 1) := by decide +kernel
theorem dX8_undo_17 : decode cX8_undo 17 = .ok (.putfield 34, 3) := by decide +kernel
theorem dX8_undo_20 : decode cX8_undo 20 = .ok (.iconst 0, 1) := by decide +kernel
theorem dX8_undo_21 : decode cX8_undo 21 = .ok (.istore_n 1, 1) := by decide +kernel
theorem dX8_undo_22 : decode cX8_undo 22 = .ok (.iload_n 1, 1) := by decide +kernel
theorem dX8_undo_23 : decode cX8_undo 23 = .ok (.sipush 164, 3) := by decide +kernel
theorem dX8_undo_26 : decode cX8_undo 26 = .ok (.if_icmp .ge 30, 3) := by decide +kernel
theorem dX8_undo_29 : decode cX8_undo 29 = .ok (.aload_n 0, 1) := by decide +kernel
theorem dX8_undo_30 : decode cX8_undo 30 = .ok (.getfield 7, 3) := by decide +kernel
theorem dX8_undo_33 : decode cX8_undo 33 = .ok (.iload_n 1, 1) := by decide +kernel
theorem dX8_undo_34 : decode cX8_undo 34 = .ok (.aload_n 0, 1) := by decide +kernel
theorem dX8_undo_35 : decode cX8_undo 35 = .ok (.getfield 13, 3) := by decide +kernel
theorem dX8_undo_38 : decode cX8_undo 38 = .ok (.sipush 164, 3) := by decide +kernel
theorem dX8_undo_41 : decode cX8_undo 41 = .ok (.aload_n 0, 1) := by decide +kernel
theorem dX8_undo_42 : decode cX8_undo 42 = .ok (.getfield 34, 3) := by decide +kernel
theorem dX8_undo_45 : decode cX8_undo 45 = .ok (.imul, 1) := by decide +kernel
theorem dX8_undo_46 : decode cX8_undo 46 = .ok (.iload_n 1, 1) := by decide +kernel
theorem dX8_undo_47 : decode cX8_undo 47 = .ok (.iadd, 1) := by decide +kernel
theorem dX8_undo_48 : decode cX8_undo 48 = .ok (.iaload, 1) := by decide +kernel
theorem dX8_undo_49 : decode cX8_undo 49 = .ok (.iastore, 1) := by decide +kernel
theorem dX8_undo_50 : decode cX8_undo 50 = .ok (.iinc 1 1, 3) := by decide +kernel
theorem dX8_undo_53 : decode cX8_undo 53 = .ok (.goto (-31), 3) := by decide +kernel
theorem dX8_undo_56 : decode cX8_undo 56 = .ok (.aload_n 0, 1) := by decide +kernel
theorem dX8_undo_57 : decode cX8_undo 57 = .ok (.getfield 34, 3) := by decide +kernel
theorem dX8_undo_60 : decode cX8_undo 60 = .ok (.ireturn, 1) := by decide +kernel
theorem dX8_type_0 : decode cX8_type 0 = .ok (.iload_n 1, 1) := by decide +kernel
theorem dX8_type_1 : decode cX8_type 1 = .ok (.bipush 32, 2) := by decide +kernel
theorem dX8_type_3 : decode cX8_type 3 = .ok (.bipush 126, 2) := by decide +kernel
theorem dX8_type_5 : decode cX8_type 5 = .ok (.invokestatic 46, 3) := by decide +kernel
theorem dX8_type_8 : decode cX8_type 8 = .ok (.ifCond .ne 5, 3) := by decide +kernel
theorem dX8_type_11 : decode cX8_type 11 = .ok (.iconst (-1), 1) := by decide +kernel
theorem dX8_type_12 : decode cX8_type 12 = .ok (.ireturn, 1) := by decide +kernel
theorem dX8_type_13 : decode cX8_type 13 = .ok (.aload_n 0, 1) := by decide +kernel
theorem dX8_type_14 : decode cX8_type 14 = .ok (.getfield 128, 3) := by decide +kernel
theorem dX8_type_17 : decode cX8_type 17 = .ok (.bipush 40, 2) := by decide +kernel
theorem dX8_type_19 : decode cX8_type 19 = .ok (.if_icmp .ne 6, 3) := by decide +kernel
theorem dX8_type_22 : decode cX8_type 22 = .ok (.bipush (-3), 2) := by decide +kernel
theorem dX8_type_24 : decode cX8_type 24 = .ok (.ireturn, 1) := by decide +kernel
theorem dX8_type_25 : decode cX8_type 25 = .ok (.aload_n 0, 1) := by decide +kernel
theorem dX8_type_26 : decode cX8_type 26 = .ok (.getfield 16, 3) := by decide +kernel
theorem dX8_type_29 : decode cX8_type 29 = .ok (.aload_n 0, 1) := by decide +kernel
theorem dX8_type_30 : decode cX8_type 30 = .ok (.getfield 128, 3) := by decide +kernel
theorem dX8_type_33 : decode cX8_type 33 = .ok (.iload_n 1, 1) := by decide +kernel
theorem dX8_type_34 : decode cX8_type 34 = .ok (.iastore, 1) := by decide +kernel
theorem dX8_type_35 : decode cX8_type 35 = .ok (.aload_n 0, 1) := by decide +kernel
theorem dX8_type_36 : decode cX8_type 36 = .ok (.dup, 1) := by decide +kernel
theorem dX8_type_37 : decode cX8_type 37 = .ok (.getfield 128, 3) := by decide +kernel
theorem dX8_type_40 : decode cX8_type 40 = .ok (.iconst 1, 1) := by decide +kernel
theorem dX8_type_41 : decode cX8_type 41 = .ok (.iadd, 1) := by decide +kernel
theorem dX8_type_42 : decode cX8_type 42 = .ok (.putfield 128, 3) := by decide +kernel
theorem dX8_type_45 : decode cX8_type 45 = .ok (.aload_n 0, 1) := by decide +kernel
theorem dX8_type_46 : decode cX8_type 46 = .ok (.getfield 128, 3) := by decide +kernel
theorem dX8_type_49 : decode cX8_type 49 = .ok (.ireturn, 1) := by decide +kernel
theorem dX8_clearText_0 : decode cX8_clearText 0 = .ok (.aload_n 0, 1) := by decide +kernel
theorem dX8_clearText_1 : decode cX8_clearText 1 = .ok (.getfield 128, 3) := by decide +kernel
theorem dX8_clearText_4 : decode cX8_clearText 4 = .ok (.istore_n 1, 1) := by decide +kernel
theorem dX8_clearText_5 : decode cX8_clearText 5 = .ok (.aload_n 0, 1) := by decide +kernel
theorem dX8_clearText_6 : decode cX8_clearText 6 = .ok (.iconst 0, 1) := by decide +kernel
theorem dX8_clearText_7 : decode cX8_clearText 7 = .ok (.putfield 128, 3) := by decide +kernel
theorem dX8_clearText_10 : decode cX8_clearText 10 = .ok (.iload_n 1, 1) := by decide +kernel
theorem dX8_clearText_11 : decode cX8_clearText 11 = .ok (.ireturn, 1) := by decide +kernel
theorem dX8_isAt_0 : decode cX8_isAt 0 = .ok (.aload_n 0, 1) := by decide +kernel
theorem dX8_isAt_1 : decode cX8_isAt 1 = .ok (.getfield 143, 3) := by decide +kernel
theorem dX8_isAt_4 : decode cX8_isAt 4 = .ok (.aload_n 0, 1) := by decide +kernel
theorem dX8_isAt_5 : decode cX8_isAt 5 = .ok (.getfield 128, 3) := by decide +kernel
theorem dX8_isAt_8 : decode cX8_isAt 8 = .ok (.if_icmp .ge 24, 3) := by decide +kernel
theorem dX8_isAt_11 : decode cX8_isAt 11 = .ok (.aload_n 0, 1) := by decide +kernel
theorem dX8_isAt_12 : decode cX8_isAt 12 = .ok (.getfield 16, 3) := by decide +kernel
theorem dX8_isAt_15 : decode cX8_isAt 15 = .ok (.aload_n 0, 1) := by decide +kernel
theorem dX8_isAt_16 : decode cX8_isAt 16 = .ok (.getfield 143, 3) := by decide +kernel
theorem dX8_isAt_19 : decode cX8_isAt 19 = .ok (.iaload, 1) := by decide +kernel
theorem dX8_isAt_20 : decode cX8_isAt 20 = .ok (.iload_n 1, 1) := by decide +kernel
theorem dX8_isAt_21 : decode cX8_isAt 21 = .ok (.iload_n 2, 1) := by decide +kernel
theorem dX8_isAt_22 : decode cX8_isAt 22 = .ok (.invokestatic 46, 3) := by decide +kernel
theorem dX8_isAt_25 : decode cX8_isAt 25 = .ok (.ifCond .eq 7, 3) := by decide +kernel
theorem dX8_isAt_28 : decode cX8_isAt 28 = .ok (.iconst 1, 1) := by decide +kernel
theorem dX8_isAt_29 : decode cX8_isAt 29 = .ok (.goto 4, 3) := by decide +kernel
theorem dX8_isAt_32 : decode cX8_isAt 32 = .ok (.iconst 0, 1) := by decide +kernel
theorem dX8_isAt_33 : decode cX8_isAt 33 = .ok (.ireturn, 1) := by decide +kernel
theorem dX8_readsVersion_0 : decode cX8_readsVersion 0 = .ok (.aload_n 0, 1) := by decide +kernel
theorem dX8_readsVersion_1 : decode cX8_readsVersion 1 = .ok (.bipush 48, 2) := by decide +kernel
theorem dX8_readsVersion_3 : decode cX8_readsVersion 3 = .ok (.bipush 57, 2) := by decide +kernel
theorem dX8_readsVersion_5 : decode cX8_readsVersion 5 = .ok (.invokevirtual 146, 3) := by decide +kernel
theorem dX8_readsVersion_8 : decode cX8_readsVersion 8 = .ok (.ifCond .ne 5, 3) := by decide +kernel
theorem dX8_readsVersion_11 : decode cX8_readsVersion 11 = .ok (.iconst 0, 1) := by decide +kernel
theorem dX8_readsVersion_12 : decode cX8_readsVersion 12 = .ok (.ireturn, 1) := by decide +kernel
theorem dX8_readsVersion_13 : decode cX8_readsVersion 13 = .ok (.aload_n 0, 1) := by decide +kernel
theorem dX8_readsVersion_14 : decode cX8_readsVersion 14 = .ok (.aload_n 0, 1) := by decide +kernel
theorem dX8_readsVersion_15 : decode cX8_readsVersion 15 = .ok (.getfield 16, 3) := by decide +kernel
theorem dX8_readsVersion_18 : decode cX8_readsVersion 18 = .ok (.aload_n 0, 1) := by decide +kernel
theorem dX8_readsVersion_19 : decode cX8_readsVersion 19 = .ok (.getfield 143, 3) := by decide +kernel
theorem dX8_readsVersion_22 : decode cX8_readsVersion 22 = .ok (.iaload, 1) := by decide +kernel
theorem dX8_readsVersion_23 : decode cX8_readsVersion 23 = .ok (.bipush 48, 2) := by decide +kernel
theorem dX8_readsVersion_25 : decode cX8_readsVersion 25 = .ok (.isub, 1) := by decide +kernel
theorem dX8_readsVersion_26 : decode cX8_readsVersion 26 = .ok (.putfield 149, 3) := by decide +kernel
theorem dX8_readsVersion_29 : decode cX8_readsVersion 29 = .ok (.aload_n 0, 1) := by decide +kernel
theorem dX8_readsVersion_30 : decode cX8_readsVersion 30 = .ok (.dup, 1) := by decide +kernel
theorem dX8_readsVersion_31 : decode cX8_readsVersion 31 = .ok (.getfield 143, 3) := by decide +kernel
theorem dX8_readsVersion_34 : decode cX8_readsVersion 34 = .ok (.iconst 1, 1) := by decide +kernel
theorem dX8_readsVersion_35 : decode cX8_readsVersion 35 = .ok (.iadd, 1) := by decide +kernel
theorem dX8_readsVersion_36 : decode cX8_readsVersion 36 = .ok (.putfield 143, 3) := by decide +kernel
theorem dX8_readsVersion_39 : decode cX8_readsVersion 39 = .ok (.aload_n 0, 1) := by decide +kernel
theorem dX8_readsVersion_40 : decode cX8_readsVersion 40 = .ok (.getfield 149, 3) := by decide +kernel
theorem dX8_readsVersion_43 : decode cX8_readsVersion 43 = .ok (.ifCond .le 48, 3) := by decide +kernel
theorem dX8_readsVersion_46 : decode cX8_readsVersion 46 = .ok (.aload_n 0, 1) := by decide +kernel
theorem dX8_readsVersion_47 : decode cX8_readsVersion 47 = .ok (.bipush 48, 2) := by decide +kernel
theorem dX8_readsVersion_49 : decode cX8_readsVersion 49 = .ok (.bipush 57, 2) := by decide +kernel
theorem dX8_readsVersion_51 : decode cX8_readsVersion 51 = .ok (.invokevirtual 146, 3) := by decide +kernel
theorem dX8_readsVersion_54 : decode cX8_readsVersion 54 = .ok (.ifCond .eq 37, 3) := by decide +kernel
theorem dX8_readsVersion_57 : decode cX8_readsVersion 57 = .ok (.aload_n 0, 1) := by decide +kernel
theorem dX8_readsVersion_58 : decode cX8_readsVersion 58 = .ok (.bipush 10, 2) := by decide +kernel
theorem dX8_readsVersion_60 : decode cX8_readsVersion 60 = .ok (.aload_n 0, 1) := by decide +kernel
theorem dX8_readsVersion_61 : decode cX8_readsVersion 61 = .ok (.getfield 149, 3) := by decide +kernel
theorem dX8_readsVersion_64 : decode cX8_readsVersion 64 = .ok (.imul, 1) := by decide +kernel
theorem dX8_readsVersion_65 : decode cX8_readsVersion 65 = .ok (.aload_n 0, 1) := by decide +kernel
theorem dX8_readsVersion_66 : decode cX8_readsVersion 66 = .ok (.getfield 16, 3) := by decide +kernel
theorem dX8_readsVersion_69 : decode cX8_readsVersion 69 = .ok (.aload_n 0, 1) := by decide +kernel
theorem dX8_readsVersion_70 : decode cX8_readsVersion 70 = .ok (.getfield 143, 3) := by decide +kernel
theorem dX8_readsVersion_73 : decode cX8_readsVersion 73 = .ok (.iaload, 1) := by decide +kernel
theorem dX8_readsVersion_74 : decode cX8_readsVersion 74 = .ok (.iadd, 1) := by decide +kernel
theorem dX8_readsVersion_75 : decode cX8_readsVersion 75 = .ok (.bipush 48, 2) := by decide +kernel
theorem dX8_readsVersion_77 : decode cX8_readsVersion 77 = .ok (.isub, 1) := by decide +kernel
theorem dX8_readsVersion_78 : decode cX8_readsVersion 78 = .ok (.putfield 149, 3) := by decide +kernel
theorem dX8_readsVersion_81 : decode cX8_readsVersion 81 = .ok (.aload_n 0, 1) := by decide +kernel
theorem dX8_readsVersion_82 : decode cX8_readsVersion 82 = .ok (.dup, 1) := by decide +kernel
theorem dX8_readsVersion_83 : decode cX8_readsVersion 83 = .ok (.getfield 143, 3) := by decide +kernel
theorem dX8_readsVersion_86 : decode cX8_readsVersion 86 = .ok (.iconst 1, 1) := by decide +kernel
theorem dX8_readsVersion_87 : decode cX8_readsVersion 87 = .ok (.iadd, 1) := by decide +kernel
theorem dX8_readsVersion_88 : decode cX8_readsVersion 88 = .ok (.putfield 143, 3) := by decide +kernel
theorem dX8_readsVersion_91 : decode cX8_readsVersion 91 = .ok (.aload_n 0, 1) := by decide +kernel
theorem dX8_readsVersion_92 : decode cX8_readsVersion 92 = .ok (.bipush 58, 2) := by decide +kernel
theorem dX8_readsVersion_94 : decode cX8_readsVersion 94 = .ok (.bipush 58, 2) := by decide +kernel
theorem dX8_readsVersion_96 : decode cX8_readsVersion 96 = .ok (.invokevirtual 146, 3) := by decide +kernel
theorem dX8_readsVersion_99 : decode cX8_readsVersion 99 = .ok (.istore_n 1, 1) := by decide +kernel
theorem dX8_readsVersion_100 : decode cX8_readsVersion 100 = .ok (.aload_n 0, 1) := by decide +kernel
theorem dX8_readsVersion_101 : decode cX8_readsVersion 101 = .ok (.dup, 1) := by decide +kernel
theorem dX8_readsVersion_102 : decode cX8_readsVersion 102 = .ok (.getfield 143, 3) := by decide +kernel
theorem dX8_readsVersion_105 : decode cX8_readsVersion 105 = .ok (.iload_n 1, 1) := by decide +kernel
theorem dX8_readsVersion_106 : decode cX8_readsVersion 106 = .ok (.ifCond .eq 7, 3) := by decide +kernel
theorem dX8_readsVersion_109 : decode cX8_readsVersion 109 = .ok (.iconst 1, 1) := by decide +kernel
theorem dX8_readsVersion_110 : decode cX8_readsVersion 110 = .ok (.goto 4, 3) := by decide +kernel
theorem dX8_readsVersion_113 : decode cX8_readsVersion 113 = .ok (.iconst 0, 1) := by decide +kernel
theorem dX8_readsVersion_114 : decode cX8_readsVersion 114 = .ok (.iadd, 1) := by decide +kernel
theorem dX8_readsVersion_115 : decode cX8_readsVersion 115 = .ok (.putfield 143, 3) := by decide +kernel
theorem dX8_readsVersion_118 : decode cX8_readsVersion 118 = .ok (.iload_n 1, 1) := by decide +kernel
theorem dX8_readsVersion_119 : decode cX8_readsVersion 119 = .ok (.ireturn, 1) := by decide +kernel
theorem dX8_readsMark_0 : decode cX8_readsMark 0 = .ok (.aload_n 0, 1) := by decide +kernel
theorem dX8_readsMark_1 : decode cX8_readsMark 1 = .ok (.getfield 143, 3) := by decide +kernel
theorem dX8_readsMark_4 : decode cX8_readsMark 4 = .ok (.istore_n 1, 1) := by decide +kernel
theorem dX8_readsMark_5 : decode cX8_readsMark 5 = .ok (.aload_n 0, 1) := by decide +kernel
theorem dX8_readsMark_6 : decode cX8_readsMark 6 = .ok (.bipush 97, 2) := by decide +kernel
theorem dX8_readsMark_8 : decode cX8_readsMark 8 = .ok (.bipush 102, 2) := by decide +kernel
theorem dX8_readsMark_10 : decode cX8_readsMark 10 = .ok (.invokevirtual 146, 3) := by decide +kernel
theorem dX8_readsMark_13 : decode cX8_readsMark 13 = .ok (.ifCond .ne 5, 3) := by decide +kernel
theorem dX8_readsMark_16 : decode cX8_readsMark 16 = .ok (.iconst 0, 1) := by decide +kernel
theorem dX8_readsMark_17 : decode cX8_readsMark 17 = .ok (.ireturn, 1) := by decide +kernel
theorem dX8_readsMark_18 : decode cX8_readsMark 18 = .ok (.aload_n 0, 1) := by decide +kernel
theorem dX8_readsMark_19 : decode cX8_readsMark 19 = .ok (.dup, 1) := by decide +kernel
theorem dX8_readsMark_20 : decode cX8_readsMark 20 = .ok (.getfield 143, 3) := by decide +kernel
theorem dX8_readsMark_23 : decode cX8_readsMark 23 = .ok (.iconst 1, 1) := by decide +kernel
theorem dX8_readsMark_24 : decode cX8_readsMark 24 = .ok (.iadd, 1) := by decide +kernel
theorem dX8_readsMark_25 : decode cX8_readsMark 25 = .ok (.putfield 143, 3) := by decide +kernel
theorem dX8_readsMark_28 : decode cX8_readsMark 28 = .ok (.aload_n 0, 1) := by decide +kernel
theorem dX8_readsMark_29 : decode cX8_readsMark 29 = .ok (.bipush 48, 2) := by decide +kernel
theorem dX8_readsMark_31 : decode cX8_readsMark 31 = .ok (.bipush 57, 2) := by decide +kernel
theorem dX8_readsMark_33 : decode cX8_readsMark 33 = .ok (.invokevirtual 146, 3) := by decide +kernel
theorem dX8_readsMark_36 : decode cX8_readsMark 36 = .ok (.ifCond .ne 5, 3) := by decide +kernel
theorem dX8_readsMark_39 : decode cX8_readsMark 39 = .ok (.iconst 0, 1) := by decide +kernel
theorem dX8_readsMark_40 : decode cX8_readsMark 40 = .ok (.ireturn, 1) := by decide +kernel
theorem dX8_readsMark_41 : decode cX8_readsMark 41 = .ok (.aload_n 0, 1) := by decide +kernel
theorem dX8_readsMark_42 : decode cX8_readsMark 42 = .ok (.getfield 25, 3) := by decide +kernel
theorem dX8_readsMark_45 : decode cX8_readsMark 45 = .ok (.aload_n 0, 1) := by decide +kernel
theorem dX8_readsMark_46 : decode cX8_readsMark 46 = .ok (.getfield 152, 3) := by decide +kernel
theorem dX8_readsMark_49 : decode cX8_readsMark 49 = .ok (.iload_n 1, 1) := by decide +kernel
theorem dX8_readsMark_50 : decode cX8_readsMark 50 = .ok (.iastore, 1) := by decide +kernel
theorem dX8_readsMark_51 : decode cX8_readsMark 51 = .ok (.aload_n 0, 1) := by decide +kernel
theorem dX8_readsMark_52 : decode cX8_readsMark 52 = .ok (.getfield 28, 3) := by decide +kernel
theorem dX8_readsMark_55 : decode cX8_readsMark 55 = .ok (.aload_n 0, 1) := by decide +kernel
theorem dX8_readsMark_56 : decode cX8_readsMark 56 = .ok (.getfield 152, 3) := by decide +kernel
theorem dX8_readsMark_59 : decode cX8_readsMark 59 = .ok (.aload_n 0, 1) := by decide +kernel
theorem dX8_readsMark_60 : decode cX8_readsMark 60 = .ok (.getfield 16, 3) := by decide +kernel
theorem dX8_readsMark_63 : decode cX8_readsMark 63 = .ok (.iload_n 1, 1) := by decide +kernel
theorem dX8_readsMark_64 : decode cX8_readsMark 64 = .ok (.iaload, 1) := by decide +kernel
theorem dX8_readsMark_65 : decode cX8_readsMark 65 = .ok (.bipush 97, 2) := by decide +kernel
theorem dX8_readsMark_67 : decode cX8_readsMark 67 = .ok (.isub, 1) := by decide +kernel
theorem dX8_readsMark_68 : decode cX8_readsMark 68 = .ok (.iastore, 1) := by decide +kernel
theorem dX8_readsMark_69 : decode cX8_readsMark 69 = .ok (.aload_n 0, 1) := by decide +kernel
theorem dX8_readsMark_70 : decode cX8_readsMark 70 = .ok (.getfield 31, 3) := by decide +kernel
theorem dX8_readsMark_73 : decode cX8_readsMark 73 = .ok (.aload_n 0, 1) := by decide +kernel
theorem dX8_readsMark_74 : decode cX8_readsMark 74 = .ok (.getfield 152, 3) := by decide +kernel
theorem dX8_readsMark_77 : decode cX8_readsMark 77 = .ok (.aload_n 0, 1) := by decide +kernel
theorem dX8_readsMark_78 : decode cX8_readsMark 78 = .ok (.getfield 16, 3) := by decide +kernel
theorem dX8_readsMark_81 : decode cX8_readsMark 81 = .ok (.aload_n 0, 1) := by decide +kernel
theorem dX8_readsMark_82 : decode cX8_readsMark 82 = .ok (.getfield 143, 3) := by decide +kernel
theorem dX8_readsMark_85 : decode cX8_readsMark 85 = .ok (.iaload, 1) := by decide +kernel
theorem dX8_readsMark_86 : decode cX8_readsMark 86 = .ok (.bipush 48, 2) := by decide +kernel
theorem dX8_readsMark_88 : decode cX8_readsMark 88 = .ok (.isub, 1) := by decide +kernel
theorem dX8_readsMark_89 : decode cX8_readsMark 89 = .ok (.iastore, 1) := by decide +kernel
theorem dX8_readsMark_90 : decode cX8_readsMark 90 = .ok (.aload_n 0, 1) := by decide +kernel
theorem dX8_readsMark_91 : decode cX8_readsMark 91 = .ok (.dup, 1) := by decide +kernel
theorem dX8_readsMark_92 : decode cX8_readsMark 92 = .ok (.getfield 152, 3) := by decide +kernel
theorem dX8_readsMark_95 : decode cX8_readsMark 95 = .ok (.iconst 1, 1) := by decide +kernel
theorem dX8_readsMark_96 : decode cX8_readsMark 96 = .ok (.iadd, 1) := by decide +kernel
theorem dX8_readsMark_97 : decode cX8_readsMark 97 = .ok (.putfield 152, 3) := by decide +kernel
theorem dX8_readsMark_100 : decode cX8_readsMark 100 = .ok (.aload_n 0, 1) := by decide +kernel
theorem dX8_readsMark_101 : decode cX8_readsMark 101 = .ok (.dup, 1) := by decide +kernel
theorem dX8_readsMark_102 : decode cX8_readsMark 102 = .ok (.getfield 143, 3) := by decide +kernel
theorem dX8_readsMark_105 : decode cX8_readsMark 105 = .ok (.iconst 1, 1) := by decide +kernel
theorem dX8_readsMark_106 : decode cX8_readsMark 106 = .ok (.iadd, 1) := by decide +kernel
theorem dX8_readsMark_107 : decode cX8_readsMark 107 = .ok (.putfield 143, 3) := by decide +kernel
theorem dX8_readsMark_110 : decode cX8_readsMark 110 = .ok (.iconst 1, 1) := by decide +kernel
theorem dX8_readsMark_111 : decode cX8_readsMark 111 = .ok (.ireturn, 1) := by decide +kernel
theorem dX8_isFormed_0 : decode cX8_isFormed 0 = .ok (.aload_n 0, 1) := by decide +kernel
theorem dX8_isFormed_1 : decode cX8_isFormed 1 = .ok (.iconst 0, 1) := by decide +kernel
theorem dX8_isFormed_2 : decode cX8_isFormed 2 = .ok (.putfield 143, 3) := by decide +kernel
theorem dX8_isFormed_5 : decode cX8_isFormed 5 = .ok (.aload_n 0, 1) := by decide +kernel
theorem dX8_isFormed_6 : decode cX8_isFormed 6 = .ok (.iconst 0, 1) := by decide +kernel
theorem dX8_isFormed_7 : decode cX8_isFormed 7 = .ok (.putfield 152, 3) := by decide +kernel
theorem dX8_isFormed_10 : decode cX8_isFormed 10 = .ok (.aload_n 0, 1) := by decide +kernel
theorem dX8_isFormed_11 : decode cX8_isFormed 11 = .ok (.invokevirtual 155, 3) := by decide +kernel
theorem dX8_isFormed_14 : decode cX8_isFormed 14 = .ok (.istore_n 1, 1) := by decide +kernel
theorem dX8_isFormed_15 : decode cX8_isFormed 15 = .ok (.iload_n 1, 1) := by decide +kernel
theorem dX8_isFormed_16 : decode cX8_isFormed 16 = .ok (.ifCond .eq 52, 3) := by decide +kernel
theorem dX8_isFormed_19 : decode cX8_isFormed 19 = .ok (.aload_n 0, 1) := by decide +kernel
theorem dX8_isFormed_20 : decode cX8_isFormed 20 = .ok (.getfield 143, 3) := by decide +kernel
theorem dX8_isFormed_23 : decode cX8_isFormed 23 = .ok (.aload_n 0, 1) := by decide +kernel
theorem dX8_isFormed_24 : decode cX8_isFormed 24 = .ok (.getfield 128, 3) := by decide +kernel
theorem dX8_isFormed_27 : decode cX8_isFormed 27 = .ok (.if_icmp .ge 41, 3) := by decide +kernel
theorem dX8_isFormed_30 : decode cX8_isFormed 30 = .ok (.aload_n 0, 1) := by decide +kernel
theorem dX8_isFormed_31 : decode cX8_isFormed 31 = .ok (.invokevirtual 159, 3) := by decide +kernel
theorem dX8_isFormed_34 : decode cX8_isFormed 34 = .ok (.istore_n 1, 1) := by decide +kernel
theorem dX8_isFormed_35 : decode cX8_isFormed 35 = .ok (.iload_n 1, 1) := by decide +kernel
theorem dX8_isFormed_36 : decode cX8_isFormed 36 = .ok (.ifCond .eq 32, 3) := by decide +kernel
theorem dX8_isFormed_39 : decode cX8_isFormed 39 = .ok (.aload_n 0, 1) := by decide +kernel
theorem dX8_isFormed_40 : decode cX8_isFormed 40 = .ok (.bipush 44, 2) := by decide +kernel
theorem dX8_isFormed_42 : decode cX8_isFormed 42 = .ok (.bipush 44, 2) := by decide +kernel
theorem dX8_isFormed_44 : decode cX8_isFormed 44 = .ok (.invokevirtual 146, 3) := by decide +kernel
theorem dX8_isFormed_47 : decode cX8_isFormed 47 = .ok (.ifCond .eq 21, 3) := by decide +kernel
theorem dX8_isFormed_50 : decode cX8_isFormed 50 = .ok (.aload_n 0, 1) := by decide +kernel
theorem dX8_isFormed_51 : decode cX8_isFormed 51 = .ok (.dup, 1) := by decide +kernel
theorem dX8_isFormed_52 : decode cX8_isFormed 52 = .ok (.getfield 143, 3) := by decide +kernel
theorem dX8_isFormed_55 : decode cX8_isFormed 55 = .ok (.iconst 1, 1) := by decide +kernel
theorem dX8_isFormed_56 : decode cX8_isFormed 56 = .ok (.iadd, 1) := by decide +kernel
theorem dX8_isFormed_57 : decode cX8_isFormed 57 = .ok (.putfield 143, 3) := by decide +kernel
theorem dX8_isFormed_60 : decode cX8_isFormed 60 = .ok (.aload_n 0, 1) := by decide +kernel
theorem dX8_isFormed_61 : decode cX8_isFormed 61 = .ok (.invokevirtual 159, 3) := by decide +kernel
theorem dX8_isFormed_64 : decode cX8_isFormed 64 = .ok (.istore_n 1, 1) := by decide +kernel
theorem dX8_isFormed_65 : decode cX8_isFormed 65 = .ok (.goto (-30), 3) := by decide +kernel
theorem dX8_isFormed_68 : decode cX8_isFormed 68 = .ok (.iload_n 1, 1) := by decide +kernel
theorem dX8_isFormed_69 : decode cX8_isFormed 69 = .ok (.ifCond .eq 18, 3) := by decide +kernel
theorem dX8_isFormed_72 : decode cX8_isFormed 72 = .ok (.aload_n 0, 1) := by decide +kernel
theorem dX8_isFormed_73 : decode cX8_isFormed 73 = .ok (.getfield 143, 3) := by decide +kernel
theorem dX8_isFormed_76 : decode cX8_isFormed 76 = .ok (.aload_n 0, 1) := by decide +kernel
theorem dX8_isFormed_77 : decode cX8_isFormed 77 = .ok (.getfield 128, 3) := by decide +kernel
theorem dX8_isFormed_80 : decode cX8_isFormed 80 = .ok (.if_icmp .ne 7, 3) := by decide +kernel
theorem dX8_isFormed_83 : decode cX8_isFormed 83 = .ok (.iconst 1, 1) := by decide +kernel
theorem dX8_isFormed_84 : decode cX8_isFormed 84 = .ok (.goto 4, 3) := by decide +kernel
theorem dX8_isFormed_87 : decode cX8_isFormed 87 = .ok (.iconst 0, 1) := by decide +kernel
theorem dX8_isFormed_88 : decode cX8_isFormed 88 = .ok (.ireturn, 1) := by decide +kernel
theorem dX8_isTwice_0 : decode cX8_isTwice 0 = .ok (.iconst 0, 1) := by decide +kernel
theorem dX8_isTwice_1 : decode cX8_isTwice 1 = .ok (.istore_n 2, 1) := by decide +kernel
theorem dX8_isTwice_2 : decode cX8_isTwice 2 = .ok (.iconst 0, 1) := by decide +kernel
theorem dX8_isTwice_3 : decode cX8_isTwice 3 = .ok (.istore_n 3, 1) := by decide +kernel
theorem dX8_isTwice_4 : decode cX8_isTwice 4 = .ok (.iload_n 3, 1) := by decide +kernel
theorem dX8_isTwice_5 : decode cX8_isTwice 5 = .ok (.iload_n 1, 1) := by decide +kernel
theorem dX8_isTwice_6 : decode cX8_isTwice 6 = .ok (.if_icmp .ge 49, 3) := by decide +kernel
theorem dX8_isTwice_9 : decode cX8_isTwice 9 = .ok (.iload_n 2, 1) := by decide +kernel
theorem dX8_isTwice_10 : decode cX8_isTwice 10 = .ok (.ifCond .ne 33, 3) := by decide +kernel
theorem dX8_isTwice_13 : decode cX8_isTwice 13 = .ok (.aload_n 0, 1) := by decide +kernel
theorem dX8_isTwice_14 : decode cX8_isTwice 14 = .ok (.getfield 28, 3) := by decide +kernel
theorem dX8_isTwice_17 : decode cX8_isTwice 17 = .ok (.iload_n 3, 1) := by decide +kernel
theorem dX8_isTwice_18 : decode cX8_isTwice 18 = .ok (.iaload, 1) := by decide +kernel
theorem dX8_isTwice_19 : decode cX8_isTwice 19 = .ok (.aload_n 0, 1) := by decide +kernel
theorem dX8_isTwice_20 : decode cX8_isTwice 20 = .ok (.getfield 28, 3) := by decide +kernel
theorem dX8_isTwice_23 : decode cX8_isTwice 23 = .ok (.iload_n 1, 1) := by decide +kernel
theorem dX8_isTwice_24 : decode cX8_isTwice 24 = .ok (.iaload, 1) := by decide +kernel
theorem dX8_isTwice_25 : decode cX8_isTwice 25 = .ok (.if_icmp .ne 22, 3) := by decide +kernel
theorem dX8_isTwice_28 : decode cX8_isTwice 28 = .ok (.aload_n 0, 1) := by decide +kernel
theorem dX8_isTwice_29 : decode cX8_isTwice 29 = .ok (.getfield 31, 3) := by decide +kernel
theorem dX8_isTwice_32 : decode cX8_isTwice 32 = .ok (.iload_n 3, 1) := by decide +kernel
theorem dX8_isTwice_33 : decode cX8_isTwice 33 = .ok (.iaload, 1) := by decide +kernel
theorem dX8_isTwice_34 : decode cX8_isTwice 34 = .ok (.aload_n 0, 1) := by decide +kernel
theorem dX8_isTwice_35 : decode cX8_isTwice 35 = .ok (.getfield 31, 3) := by decide +kernel
theorem dX8_isTwice_38 : decode cX8_isTwice 38 = .ok (.iload_n 1, 1) := by decide +kernel
theorem dX8_isTwice_39 : decode cX8_isTwice 39 = .ok (.iaload, 1) := by decide +kernel
theorem dX8_isTwice_40 : decode cX8_isTwice 40 = .ok (.if_icmp .ne 7, 3) := by decide +kernel
theorem dX8_isTwice_43 : decode cX8_isTwice 43 = .ok (.iconst 1, 1) := by decide +kernel
theorem dX8_isTwice_44 : decode cX8_isTwice 44 = .ok (.goto 4, 3) := by decide +kernel
theorem dX8_isTwice_47 : decode cX8_isTwice 47 = .ok (.iconst 0, 1) := by decide +kernel
theorem dX8_isTwice_48 : decode cX8_isTwice 48 = .ok (.istore_n 2, 1) := by decide +kernel
theorem dX8_isTwice_49 : decode cX8_isTwice 49 = .ok (.iinc 3 1, 3) := by decide +kernel
theorem dX8_isTwice_52 : decode cX8_isTwice 52 = .ok (.goto (-48), 3) := by decide +kernel
theorem dX8_isTwice_55 : decode cX8_isTwice 55 = .ok (.iload_n 2, 1) := by decide +kernel
theorem dX8_isTwice_56 : decode cX8_isTwice 56 = .ok (.ireturn, 1) := by decide +kernel
theorem dX8_isRight_0 : decode cX8_isRight 0 = .ok (.aload_n 0, 1) := by decide +kernel
theorem dX8_isRight_1 : decode cX8_isRight 1 = .ok (.iconst 1, 1) := by decide +kernel
theorem dX8_isRight_2 : decode cX8_isRight 2 = .ok (.putfield 162, 3) := by decide +kernel
theorem dX8_isRight_5 : decode cX8_isRight 5 = .ok (.aload_n 0, 1) := by decide +kernel
theorem dX8_isRight_6 : decode cX8_isRight 6 = .ok (.invokevirtual 165, 3) := by decide +kernel
theorem dX8_isRight_9 : decode cX8_isRight 9 = .ok (.ifCond .ne 5, 3) := by decide +kernel
theorem dX8_isRight_12 : decode cX8_isRight 12 = .ok (.iconst 0, 1) := by decide +kernel
theorem dX8_isRight_13 : decode cX8_isRight 13 = .ok (.ireturn, 1) := by decide +kernel
theorem dX8_isRight_14 : decode cX8_isRight 14 = .ok (.aload_n 0, 1) := by decide +kernel
theorem dX8_isRight_15 : decode cX8_isRight 15 = .ok (.iconst 0, 1) := by decide +kernel
theorem dX8_isRight_16 : decode cX8_isRight 16 = .ok (.putfield 162, 3) := by decide +kernel
theorem dX8_isRight_19 : decode cX8_isRight 19 = .ok (.aload_n 0, 1) := by decide +kernel
theorem dX8_isRight_20 : decode cX8_isRight 20 = .ok (.aload_n 0, 1) := by decide +kernel
theorem dX8_isRight_21 : decode cX8_isRight 21 = .ok (.getfield 149, 3) := by decide +kernel
theorem dX8_isRight_24 : decode cX8_isRight 24 = .ok (.invokevirtual 53, 3) := by decide +kernel
theorem dX8_isRight_27 : decode cX8_isRight 27 = .ok (.ifCond .ne 13, 3) := by decide +kernel
theorem dX8_isRight_30 : decode cX8_isRight 30 = .ok (.aload_n 0, 1) := by decide +kernel
theorem dX8_isRight_31 : decode cX8_isRight 31 = .ok (.iconst 0, 1) := by decide +kernel
theorem dX8_isRight_32 : decode cX8_isRight 32 = .ok (.putfield 143, 3) := by decide +kernel
theorem dX8_isRight_35 : decode cX8_isRight 35 = .ok (.aload_n 0, 1) := by decide +kernel
theorem dX8_isRight_36 : decode cX8_isRight 36 = .ok (.iconst 2, 1) := by decide +kernel
theorem dX8_isRight_37 : decode cX8_isRight 37 = .ok (.putfield 162, 3) := by decide +kernel
theorem dX8_isRight_40 : decode cX8_isRight 40 = .ok (.iconst 0, 1) := by decide +kernel
theorem dX8_isRight_41 : decode cX8_isRight 41 = .ok (.istore_n 1, 1) := by decide +kernel
theorem dX8_isRight_42 : decode cX8_isRight 42 = .ok (.iload_n 1, 1) := by decide +kernel
theorem dX8_isRight_43 : decode cX8_isRight 43 = .ok (.aload_n 0, 1) := by decide +kernel
theorem dX8_isRight_44 : decode cX8_isRight 44 = .ok (.getfield 152, 3) := by decide +kernel
theorem dX8_isRight_47 : decode cX8_isRight 47 = .ok (.if_icmp .ge 66, 3) := by decide +kernel
theorem dX8_isRight_50 : decode cX8_isRight 50 = .ok (.aload_n 0, 1) := by decide +kernel
theorem dX8_isRight_51 : decode cX8_isRight 51 = .ok (.getfield 162, 3) := by decide +kernel
theorem dX8_isRight_54 : decode cX8_isRight 54 = .ok (.ifCond .ne 59, 3) := by decide +kernel
theorem dX8_isRight_57 : decode cX8_isRight 57 = .ok (.aload_n 0, 1) := by decide +kernel
theorem dX8_isRight_58 : decode cX8_isRight 58 = .ok (.aload_n 0, 1) := by decide +kernel
theorem dX8_isRight_59 : decode cX8_isRight 59 = .ok (.getfield 25, 3) := by decide +kernel
theorem dX8_isRight_62 : decode cX8_isRight 62 = .ok (.iload_n 1, 1) := by decide +kernel
theorem dX8_isRight_63 : decode cX8_isRight 63 = .ok (.iaload, 1) := by decide +kernel
theorem dX8_isRight_64 : decode cX8_isRight 64 = .ok (.putfield 143, 3) := by decide +kernel
theorem dX8_isRight_67 : decode cX8_isRight 67 = .ok (.aload_n 0, 1) := by decide +kernel
theorem dX8_isRight_68 : decode cX8_isRight 68 = .ok (.aload_n 0, 1) := by decide +kernel
theorem dX8_isRight_69 : decode cX8_isRight 69 = .ok (.aload_n 0, 1) := by decide +kernel
theorem dX8_isRight_70 : decode cX8_isRight 70 = .ok (.getfield 28, 3) := by decide +kernel
theorem dX8_isRight_73 : decode cX8_isRight 73 = .ok (.iload_n 1, 1) := by decide +kernel
theorem dX8_isRight_74 : decode cX8_isRight 74 = .ok (.iaload, 1) := by decide +kernel
theorem dX8_isRight_75 : decode cX8_isRight 75 = .ok (.aload_n 0, 1) := by decide +kernel
theorem dX8_isRight_76 : decode cX8_isRight 76 = .ok (.getfield 31, 3) := by decide +kernel
theorem dX8_isRight_79 : decode cX8_isRight 79 = .ok (.iload_n 1, 1) := by decide +kernel
theorem dX8_isRight_80 : decode cX8_isRight 80 = .ok (.iaload, 1) := by decide +kernel
theorem dX8_isRight_81 : decode cX8_isRight 81 = .ok (.invokevirtual 112, 3) := by decide +kernel
theorem dX8_isRight_84 : decode cX8_isRight 84 = .ok (.ifCond .ne 7, 3) := by decide +kernel
theorem dX8_isRight_87 : decode cX8_isRight 87 = .ok (.iconst 3, 1) := by decide +kernel
theorem dX8_isRight_88 : decode cX8_isRight 88 = .ok (.goto 16, 3) := by decide +kernel
theorem dX8_isRight_91 : decode cX8_isRight 91 = .ok (.aload_n 0, 1) := by decide +kernel
theorem dX8_isRight_92 : decode cX8_isRight 92 = .ok (.iload_n 1, 1) := by decide +kernel
theorem dX8_isRight_93 : decode cX8_isRight 93 = .ok (.invokevirtual 168, 3) := by decide +kernel
theorem dX8_isRight_96 : decode cX8_isRight 96 = .ok (.ifCond .eq 7, 3) := by decide +kernel
theorem dX8_isRight_99 : decode cX8_isRight 99 = .ok (.iconst 4, 1) := by decide +kernel
theorem dX8_isRight_100 : decode cX8_isRight 100 = .ok (.goto 4, 3) := by decide +kernel
theorem dX8_isRight_103 : decode cX8_isRight 103 = .ok (.iconst 0, 1) := by decide +kernel
theorem dX8_isRight_104 : decode cX8_isRight 104 = .ok (.putfield 162, 3) := by decide +kernel
theorem dX8_isRight_107 : decode cX8_isRight 107 = .ok (.iinc 1 1, 3) := by decide +kernel
theorem dX8_isRight_110 : decode cX8_isRight 110 = .ok (.goto (-68), 3) := by decide +kernel
theorem dX8_isRight_113 : decode cX8_isRight 113 = .ok (.aload_n 0, 1) := by decide +kernel
theorem dX8_isRight_114 : decode cX8_isRight 114 = .ok (.getfield 162, 3) := by decide +kernel
theorem dX8_isRight_117 : decode cX8_isRight 117 = .ok (.ifCond .ne 7, 3) := by decide +kernel
theorem dX8_isRight_120 : decode cX8_isRight 120 = .ok (.iconst 1, 1) := by decide +kernel
theorem dX8_isRight_121 : decode cX8_isRight 121 = .ok (.goto 4, 3) := by decide +kernel
theorem dX8_isRight_124 : decode cX8_isRight 124 = .ok (.iconst 0, 1) := by decide +kernel
theorem dX8_isRight_125 : decode cX8_isRight 125 = .ok (.ireturn, 1) := by decide +kernel
theorem dX8_fault_0 : decode cX8_fault 0 = .ok (.iload_n 1, 1) := by decide +kernel
theorem dX8_fault_1 : decode cX8_fault 1 = .ok (.iconst 0, 1) := by decide +kernel
theorem dX8_fault_2 : decode cX8_fault 2 = .ok (.iconst 1, 1) := by decide +kernel
theorem dX8_fault_3 : decode cX8_fault 3 = .ok (.invokestatic 46, 3) := by decide +kernel
theorem dX8_fault_6 : decode cX8_fault 6 = .ok (.ifCond .ne 5, 3) := by decide +kernel
theorem dX8_fault_9 : decode cX8_fault 9 = .ok (.iconst (-1), 1) := by decide +kernel
theorem dX8_fault_10 : decode cX8_fault 10 = .ok (.ireturn, 1) := by decide +kernel
theorem dX8_fault_11 : decode cX8_fault 11 = .ok (.aload_n 0, 1) := by decide +kernel
theorem dX8_fault_12 : decode cX8_fault 12 = .ok (.invokevirtual 171, 3) := by decide +kernel
theorem dX8_fault_15 : decode cX8_fault 15 = .ok (.ifCond .eq 8, 3) := by decide +kernel
theorem dX8_fault_18 : decode cX8_fault 18 = .ok (.bipush (-4), 2) := by decide +kernel
theorem dX8_fault_20 : decode cX8_fault 20 = .ok (.goto 18, 3) := by decide +kernel
theorem dX8_fault_23 : decode cX8_fault 23 = .ok (.iload_n 1, 1) := by decide +kernel
theorem dX8_fault_24 : decode cX8_fault 24 = .ok (.ifCond .ne 10, 3) := by decide +kernel
theorem dX8_fault_27 : decode cX8_fault 27 = .ok (.aload_n 0, 1) := by decide +kernel
theorem dX8_fault_28 : decode cX8_fault 28 = .ok (.getfield 143, 3) := by decide +kernel
theorem dX8_fault_31 : decode cX8_fault 31 = .ok (.goto 7, 3) := by decide +kernel
theorem dX8_fault_34 : decode cX8_fault 34 = .ok (.aload_n 0, 1) := by decide +kernel
theorem dX8_fault_35 : decode cX8_fault 35 = .ok (.getfield 162, 3) := by decide +kernel
theorem dX8_fault_38 : decode cX8_fault 38 = .ok (.ireturn, 1) := by decide +kernel
theorem dX8_marksIn_0 : decode cX8_marksIn 0 = .ok (.iconst 0, 1) := by decide +kernel
theorem dX8_marksIn_1 : decode cX8_marksIn 1 = .ok (.istore_n 2, 1) := by decide +kernel
theorem dX8_marksIn_2 : decode cX8_marksIn 2 = .ok (.iconst 0, 1) := by decide +kernel
theorem dX8_marksIn_3 : decode cX8_marksIn 3 = .ok (.istore_n 3, 1) := by decide +kernel
theorem dX8_marksIn_4 : decode cX8_marksIn 4 = .ok (.iload_n 3, 1) := by decide +kernel
theorem dX8_marksIn_5 : decode cX8_marksIn 5 = .ok (.aload_n 0, 1) := by decide +kernel
theorem dX8_marksIn_6 : decode cX8_marksIn 6 = .ok (.getfield 152, 3) := by decide +kernel
theorem dX8_marksIn_9 : decode cX8_marksIn 9 = .ok (.if_icmp .ge 27, 3) := by decide +kernel
theorem dX8_marksIn_12 : decode cX8_marksIn 12 = .ok (.iload_n 2, 1) := by decide +kernel
theorem dX8_marksIn_13 : decode cX8_marksIn 13 = .ok (.aload_n 0, 1) := by decide +kernel
theorem dX8_marksIn_14 : decode cX8_marksIn 14 = .ok (.getfield 28, 3) := by decide +kernel
theorem dX8_marksIn_17 : decode cX8_marksIn 17 = .ok (.iload_n 3, 1) := by decide +kernel
theorem dX8_marksIn_18 : decode cX8_marksIn 18 = .ok (.iaload, 1) := by decide +kernel
theorem dX8_marksIn_19 : decode cX8_marksIn 19 = .ok (.iload_n 1, 1) := by decide +kernel
theorem dX8_marksIn_20 : decode cX8_marksIn 20 = .ok (.if_icmp .ne 7, 3) := by decide +kernel
theorem dX8_marksIn_23 : decode cX8_marksIn 23 = .ok (.iconst 1, 1) := by decide +kernel
theorem dX8_marksIn_24 : decode cX8_marksIn 24 = .ok (.goto 4, 3) := by decide +kernel
theorem dX8_marksIn_27 : decode cX8_marksIn 27 = .ok (.iconst 0, 1) := by decide +kernel
theorem dX8_marksIn_28 : decode cX8_marksIn 28 = .ok (.iadd, 1) := by decide +kernel
theorem dX8_marksIn_29 : decode cX8_marksIn 29 = .ok (.istore_n 2, 1) := by decide +kernel
theorem dX8_marksIn_30 : decode cX8_marksIn 30 = .ok (.iinc 3 1, 3) := by decide +kernel
theorem dX8_marksIn_33 : decode cX8_marksIn 33 = .ok (.goto (-29), 3) := by decide +kernel
theorem dX8_marksIn_36 : decode cX8_marksIn 36 = .ok (.iload_n 2, 1) := by decide +kernel
theorem dX8_marksIn_37 : decode cX8_marksIn 37 = .ok (.ireturn, 1) := by decide +kernel
theorem dX8_cast_0 : decode cX8_cast 0 = .ok (.aload_n 0, 1) := by decide +kernel
theorem dX8_cast_1 : decode cX8_cast 1 = .ok (.invokevirtual 171, 3) := by decide +kernel
theorem dX8_cast_4 : decode cX8_cast 4 = .ok (.ifCond .ne 6, 3) := by decide +kernel
theorem dX8_cast_7 : decode cX8_cast 7 = .ok (.bipush (-2), 2) := by decide +kernel
theorem dX8_cast_9 : decode cX8_cast 9 = .ok (.ireturn, 1) := by decide +kernel
theorem dX8_cast_10 : decode cX8_cast 10 = .ok (.aload_n 0, 1) := by decide +kernel
theorem dX8_cast_11 : decode cX8_cast 11 = .ok (.getfield 7, 3) := by decide +kernel
theorem dX8_cast_14 : decode cX8_cast 14 = .ok (.iconst 1, 1) := by decide +kernel
theorem dX8_cast_15 : decode cX8_cast 15 = .ok (.iaload, 1) := by decide +kernel
theorem dX8_cast_16 : decode cX8_cast 16 = .ok (.sipush 9999, 3) := by decide +kernel
theorem dX8_cast_19 : decode cX8_cast 19 = .ok (.if_icmp .ne 6, 3) := by decide +kernel
theorem dX8_cast_22 : decode cX8_cast 22 = .ok (.bipush (-3), 2) := by decide +kernel
theorem dX8_cast_24 : decode cX8_cast 24 = .ok (.ireturn, 1) := by decide +kernel
theorem dX8_cast_25 : decode cX8_cast 25 = .ok (.aload_n 0, 1) := by decide +kernel
theorem dX8_cast_26 : decode cX8_cast 26 = .ok (.invokevirtual 50, 3) := by decide +kernel
theorem dX8_cast_29 : decode cX8_cast 29 = .ok (.aload_n 0, 1) := by decide +kernel
theorem dX8_cast_30 : decode cX8_cast 30 = .ok (.getfield 7, 3) := by decide +kernel
theorem dX8_cast_33 : decode cX8_cast 33 = .ok (.iconst 1, 1) := by decide +kernel
theorem dX8_cast_34 : decode cX8_cast 34 = .ok (.dup2, 1) := by decide +kernel
theorem dX8_cast_35 : decode cX8_cast 35 = .ok (.iaload, 1) := by decide +kernel
theorem dX8_cast_36 : decode cX8_cast 36 = .ok (.iconst 1, 1) := by decide +kernel
theorem dX8_cast_37 : decode cX8_cast 37 = .ok (.iadd, 1) := by decide +kernel
theorem dX8_cast_38 : decode cX8_cast 38 = .ok (.iastore, 1) := by decide +kernel
theorem dX8_cast_39 : decode cX8_cast 39 = .ok (.iconst 0, 1) := by decide +kernel
theorem dX8_cast_40 : decode cX8_cast 40 = .ok (.istore_n 1, 1) := by decide +kernel
theorem dX8_cast_41 : decode cX8_cast 41 = .ok (.iload_n 1, 1) := by decide +kernel
theorem dX8_cast_42 : decode cX8_cast 42 = .ok (.aload_n 0, 1) := by decide +kernel
theorem dX8_cast_43 : decode cX8_cast 43 = .ok (.getfield 7, 3) := by decide +kernel
theorem dX8_cast_46 : decode cX8_cast 46 = .ok (.iconst 0, 1) := by decide +kernel
theorem dX8_cast_47 : decode cX8_cast 47 = .ok (.iaload, 1) := by decide +kernel
theorem dX8_cast_48 : decode cX8_cast 48 = .ok (.if_icmp .ge 82, 3) := by decide +kernel
theorem dX8_cast_51 : decode cX8_cast 51 = .ok (.aload_n 0, 1) := by decide +kernel
theorem dX8_cast_52 : decode cX8_cast 52 = .ok (.iload_n 1, 1) := by decide +kernel
theorem dX8_cast_53 : decode cX8_cast 53 = .ok (.invokevirtual 174, 3) := by decide +kernel
theorem dX8_cast_56 : decode cX8_cast 56 = .ok (.istore_n 2, 1) := by decide +kernel
theorem dX8_cast_57 : decode cX8_cast 57 = .ok (.aload_n 0, 1) := by decide +kernel
theorem dX8_cast_58 : decode cX8_cast 58 = .ok (.getfield 7, 3) := by decide +kernel
theorem dX8_cast_61 : decode cX8_cast 61 = .ok (.bipush 32, 2) := by decide +kernel
theorem dX8_cast_63 : decode cX8_cast 63 = .ok (.bipush 6, 2) := by decide +kernel
theorem dX8_cast_65 : decode cX8_cast 65 = .ok (.iload_n 1, 1) := by decide +kernel
theorem dX8_cast_66 : decode cX8_cast 66 = .ok (.imul, 1) := by decide +kernel
theorem dX8_cast_67 : decode cX8_cast 67 = .ok (.iadd, 1) := by decide +kernel
theorem dX8_cast_68 : decode cX8_cast 68 = .ok (.iconst 5, 1) := by decide +kernel
theorem dX8_cast_69 : decode cX8_cast 69 = .ok (.iadd, 1) := by decide +kernel
theorem dX8_cast_70 : decode cX8_cast 70 = .ok (.dup2, 1) := by decide +kernel
theorem dX8_cast_71 : decode cX8_cast 71 = .ok (.iaload, 1) := by decide +kernel
theorem dX8_cast_72 : decode cX8_cast 72 = .ok (.iload_n 2, 1) := by decide +kernel
theorem dX8_cast_73 : decode cX8_cast 73 = .ok (.ifCond .ne 16, 3) := by decide +kernel
theorem dX8_cast_76 : decode cX8_cast 76 = .ok (.aload_n 0, 1) := by decide +kernel
theorem dX8_cast_77 : decode cX8_cast 77 = .ok (.iload_n 1, 1) := by decide +kernel
theorem dX8_cast_78 : decode cX8_cast 78 = .ok (.iconst 3, 1) := by decide +kernel
theorem dX8_cast_79 : decode cX8_cast 79 = .ok (.invokevirtual 42, 3) := by decide +kernel
theorem dX8_cast_82 : decode cX8_cast 82 = .ok (.ifCond .le 7, 3) := by decide +kernel
theorem dX8_cast_85 : decode cX8_cast 85 = .ok (.iconst 1, 1) := by decide +kernel
theorem dX8_cast_86 : decode cX8_cast 86 = .ok (.goto 4, 3) := by decide +kernel
theorem dX8_cast_89 : decode cX8_cast 89 = .ok (.iconst 0, 1) := by decide +kernel
theorem dX8_cast_90 : decode cX8_cast 90 = .ok (.iadd, 1) := by decide +kernel
theorem dX8_cast_91 : decode cX8_cast 91 = .ok (.iastore, 1) := by decide +kernel
theorem dX8_cast_92 : decode cX8_cast 92 = .ok (.aload_n 0, 1) := by decide +kernel
theorem dX8_cast_93 : decode cX8_cast 93 = .ok (.getfield 7, 3) := by decide +kernel
theorem dX8_cast_96 : decode cX8_cast 96 = .ok (.bipush 32, 2) := by decide +kernel
theorem dX8_cast_98 : decode cX8_cast 98 = .ok (.bipush 6, 2) := by decide +kernel
theorem dX8_cast_100 : decode cX8_cast 100 = .ok (.iload_n 1, 1) := by decide +kernel
theorem dX8_cast_101 : decode cX8_cast 101 = .ok (.imul, 1) := by decide +kernel
theorem dX8_cast_102 : decode cX8_cast 102 = .ok (.iadd, 1) := by decide +kernel
theorem dX8_cast_103 : decode cX8_cast 103 = .ok (.iconst 4, 1) := by decide +kernel
theorem dX8_cast_104 : decode cX8_cast 104 = .ok (.iadd, 1) := by decide +kernel
theorem dX8_cast_105 : decode cX8_cast 105 = .ok (.dup2, 1) := by decide +kernel
theorem dX8_cast_106 : decode cX8_cast 106 = .ok (.iaload, 1) := by decide +kernel
theorem dX8_cast_107 : decode cX8_cast 107 = .ok (.iload_n 2, 1) := by decide +kernel
theorem dX8_cast_108 : decode cX8_cast 108 = .ok (.aload_n 0, 1) := by decide +kernel
theorem dX8_cast_109 : decode cX8_cast 109 = .ok (.iload_n 1, 1) := by decide +kernel
theorem dX8_cast_110 : decode cX8_cast 110 = .ok (.iconst 1, 1) := by decide +kernel
theorem dX8_cast_111 : decode cX8_cast 111 = .ok (.invokevirtual 42, 3) := by decide +kernel
theorem dX8_cast_114 : decode cX8_cast 114 = .ok (.if_icmp .le 7, 3) := by decide +kernel
theorem dX8_cast_117 : decode cX8_cast 117 = .ok (.iconst 1, 1) := by decide +kernel
theorem dX8_cast_118 : decode cX8_cast 118 = .ok (.goto 4, 3) := by decide +kernel
theorem dX8_cast_121 : decode cX8_cast 121 = .ok (.iconst 0, 1) := by decide +kernel
theorem dX8_cast_122 : decode cX8_cast 122 = .ok (.iadd, 1) := by decide +kernel
theorem dX8_cast_123 : decode cX8_cast 123 = .ok (.iastore, 1) := by decide +kernel
theorem dX8_cast_124 : decode cX8_cast 124 = .ok (.iinc 1 1, 3) := by decide +kernel
theorem dX8_cast_127 : decode cX8_cast 127 = .ok (.goto (-86), 3) := by decide +kernel
theorem dX8_cast_130 : decode cX8_cast 130 = .ok (.iconst 0, 1) := by decide +kernel
theorem dX8_cast_131 : decode cX8_cast 131 = .ok (.istore_n 1, 1) := by decide +kernel
theorem dX8_cast_132 : decode cX8_cast 132 = .ok (.iconst 0, 1) := by decide +kernel
theorem dX8_cast_133 : decode cX8_cast 133 = .ok (.istore_n 2, 1) := by decide +kernel
theorem dX8_cast_134 : decode cX8_cast 134 = .ok (.iload_n 2, 1) := by decide +kernel
theorem dX8_cast_135 : decode cX8_cast 135 = .ok (.aload_n 0, 1) := by decide +kernel
theorem dX8_cast_136 : decode cX8_cast 136 = .ok (.getfield 152, 3) := by decide +kernel
theorem dX8_cast_139 : decode cX8_cast 139 = .ok (.if_icmp .ge 69, 3) := by decide +kernel
theorem dX8_cast_142 : decode cX8_cast 142 = .ok (.aload_n 0, 1) := by decide +kernel
theorem dX8_cast_143 : decode cX8_cast 143 = .ok (.getfield 28, 3) := by decide +kernel
theorem dX8_cast_146 : decode cX8_cast 146 = .ok (.iload_n 2, 1) := by decide +kernel
theorem dX8_cast_147 : decode cX8_cast 147 = .ok (.iaload, 1) := by decide +kernel
theorem dX8_cast_148 : decode cX8_cast 148 = .ok (.istore_n 3, 1) := by decide +kernel
theorem dX8_cast_149 : decode cX8_cast 149 = .ok (.aload_n 0, 1) := by decide +kernel
theorem dX8_cast_150 : decode cX8_cast 150 = .ok (.iload_n 3, 1) := by decide +kernel
theorem dX8_cast_151 : decode cX8_cast 151 = .ok (.invokevirtual 174, 3) := by decide +kernel
theorem dX8_cast_154 : decode cX8_cast 154 = .ok (.aload_n 0, 1) := by decide +kernel
theorem dX8_cast_155 : decode cX8_cast 155 = .ok (.iload_n 3, 1) := by decide +kernel
theorem dX8_cast_156 : decode cX8_cast 156 = .ok (.iconst 1, 1) := by decide +kernel
theorem dX8_cast_157 : decode cX8_cast 157 = .ok (.invokevirtual 42, 3) := by decide +kernel
theorem dX8_cast_160 : decode cX8_cast 160 = .ok (.if_icmp .gt 42, 3) := by decide +kernel
theorem dX8_cast_163 : decode cX8_cast 163 = .ok (.aload_n 0, 1) := by decide +kernel
theorem dX8_cast_164 : decode cX8_cast 164 = .ok (.getfield 7, 3) := by decide +kernel
theorem dX8_cast_167 : decode cX8_cast 167 = .ok (.bipush 68, 2) := by decide +kernel
theorem dX8_cast_169 : decode cX8_cast 169 = .ok (.bipush 16, 2) := by decide +kernel
theorem dX8_cast_171 : decode cX8_cast 171 = .ok (.iload_n 3, 1) := by decide +kernel
theorem dX8_cast_172 : decode cX8_cast 172 = .ok (.imul, 1) := by decide +kernel
theorem dX8_cast_173 : decode cX8_cast 173 = .ok (.iadd, 1) := by decide +kernel
theorem dX8_cast_174 : decode cX8_cast 174 = .ok (.iconst 2, 1) := by decide +kernel
theorem dX8_cast_175 : decode cX8_cast 175 = .ok (.aload_n 0, 1) := by decide +kernel
theorem dX8_cast_176 : decode cX8_cast 176 = .ok (.aload_n 0, 1) := by decide +kernel
theorem dX8_cast_177 : decode cX8_cast 177 = .ok (.getfield 149, 3) := by decide +kernel
theorem dX8_cast_180 : decode cX8_cast 180 = .ok (.iload_n 3, 1) := by decide +kernel
theorem dX8_cast_181 : decode cX8_cast 181 = .ok (.aload_n 0, 1) := by decide +kernel
theorem dX8_cast_182 : decode cX8_cast 182 = .ok (.getfield 31, 3) := by decide +kernel
theorem dX8_cast_185 : decode cX8_cast 185 = .ok (.iload_n 2, 1) := by decide +kernel
theorem dX8_cast_186 : decode cX8_cast 186 = .ok (.iaload, 1) := by decide +kernel
theorem dX8_cast_187 : decode cX8_cast 187 = .ok (.invokevirtual 60, 3) := by decide +kernel
theorem dX8_cast_190 : decode cX8_cast 190 = .ok (.imul, 1) := by decide +kernel
theorem dX8_cast_191 : decode cX8_cast 191 = .ok (.iadd, 1) := by decide +kernel
theorem dX8_cast_192 : decode cX8_cast 192 = .ok (.iconst 1, 1) := by decide +kernel
theorem dX8_cast_193 : decode cX8_cast 193 = .ok (.iadd, 1) := by decide +kernel
theorem dX8_cast_194 : decode cX8_cast 194 = .ok (.dup2, 1) := by decide +kernel
theorem dX8_cast_195 : decode cX8_cast 195 = .ok (.iaload, 1) := by decide +kernel
theorem dX8_cast_196 : decode cX8_cast 196 = .ok (.iconst 1, 1) := by decide +kernel
theorem dX8_cast_197 : decode cX8_cast 197 = .ok (.iadd, 1) := by decide +kernel
theorem dX8_cast_198 : decode cX8_cast 198 = .ok (.iastore, 1) := by decide +kernel
theorem dX8_cast_199 : decode cX8_cast 199 = .ok (.iinc 1 1, 3) := by decide +kernel
theorem dX8_cast_202 : decode cX8_cast 202 = .ok (.iinc 2 1, 3) := by decide +kernel
theorem dX8_cast_205 : decode cX8_cast 205 = .ok (.goto (-71), 3) := by decide +kernel
theorem dX8_cast_208 : decode cX8_cast 208 = .ok (.iload_n 1, 1) := by decide +kernel
theorem dX8_cast_209 : decode cX8_cast 209 = .ok (.ireturn, 1) := by decide +kernel
theorem dL_law_0 : decode cL_law 0 = .ok (.new 7, 3) := by decide +kernel
theorem dL_law_3 : decode cL_law 3 = .ok (.dup, 1) := by decide +kernel
theorem dL_law_4 : decode cL_law 4 = .ok (.invokespecial 9, 3) := by decide +kernel
theorem dL_law_7 : decode cL_law 7 = .ok (.astore_n 1, 1) := by decide +kernel
theorem dL_law_8 : decode cL_law 8 = .ok (.new 10, 3) := by decide +kernel
theorem dL_law_11 : decode cL_law 11 = .ok (.dup, 1) := by decide +kernel
theorem dL_law_12 : decode cL_law 12 = .ok (.invokespecial 12, 3) := by decide +kernel
theorem dL_law_15 : decode cL_law 15 = .ok (.astore_n 2, 1) := by decide +kernel
theorem dL_law_16 : decode cL_law 16 = .ok (.iconst 0, 1) := by decide +kernel
theorem dL_law_17 : decode cL_law 17 = .ok (.istore_n 3, 1) := by decide +kernel
theorem dL_law_18 : decode cL_law 18 = .ok (.iload_n 3, 1) := by decide +kernel
theorem dL_law_19 : decode cL_law 19 = .ok (.aload_n 0, 1) := by decide +kernel
theorem dL_law_20 : decode cL_law 20 = .ok (.arraylength, 1) := by decide +kernel
theorem dL_law_21 : decode cL_law 21 = .ok (.bipush 6, 2) := by decide +kernel
theorem dL_law_23 : decode cL_law 23 = .ok (.isub, 1) := by decide +kernel
theorem dL_law_24 : decode cL_law 24 = .ok (.if_icmp .gt 754, 3) := by decide +kernel
theorem dL_law_27 : decode cL_law 27 = .ok (.aload_n 0, 1) := by decide +kernel
theorem dL_law_28 : decode cL_law 28 = .ok (.iload_n 3, 1) := by decide +kernel
theorem dL_law_29 : decode cL_law 29 = .ok (.iaload, 1) := by decide +kernel
theorem dL_law_30 : decode cL_law 30 = .ok (.bipush 31, 2) := by decide +kernel
theorem dL_law_32 : decode cL_law 32 = .ok (.iand, 1) := by decide +kernel
theorem dL_law_33 : decode cL_law 33 = .ok (.tableswitch 739 0 21 #[103, 136, 169, 202, 235, 268, 281, 314, 357, 380, 403, 446, 499, 562, 595, 618, 631, 654, 667, 690, 703, 726], 103) := by decide +kernel
theorem dL_law_136 : decode cL_law 136 = .ok (.aload_n 1, 1) := by decide +kernel
theorem dL_law_137 : decode cL_law 137 = .ok (.aload_n 0, 1) := by decide +kernel
theorem dL_law_138 : decode cL_law 138 = .ok (.iload_n 3, 1) := by decide +kernel
theorem dL_law_139 : decode cL_law 139 = .ok (.iconst 1, 1) := by decide +kernel
theorem dL_law_140 : decode cL_law 140 = .ok (.iadd, 1) := by decide +kernel
theorem dL_law_141 : decode cL_law 141 = .ok (.iaload, 1) := by decide +kernel
theorem dL_law_142 : decode cL_law 142 = .ok (.aload_n 0, 1) := by decide +kernel
theorem dL_law_143 : decode cL_law 143 = .ok (.iload_n 3, 1) := by decide +kernel
theorem dL_law_144 : decode cL_law 144 = .ok (.iconst 2, 1) := by decide +kernel
theorem dL_law_145 : decode cL_law 145 = .ok (.iadd, 1) := by decide +kernel
theorem dL_law_146 : decode cL_law 146 = .ok (.iaload, 1) := by decide +kernel
theorem dL_law_147 : decode cL_law 147 = .ok (.invokevirtual 13, 3) := by decide +kernel
theorem dL_law_150 : decode cL_law 150 = .ok (.aload_n 2, 1) := by decide +kernel
theorem dL_law_151 : decode cL_law 151 = .ok (.aload_n 0, 1) := by decide +kernel
theorem dL_law_152 : decode cL_law 152 = .ok (.iload_n 3, 1) := by decide +kernel
theorem dL_law_153 : decode cL_law 153 = .ok (.iconst 1, 1) := by decide +kernel
theorem dL_law_154 : decode cL_law 154 = .ok (.iadd, 1) := by decide +kernel
theorem dL_law_155 : decode cL_law 155 = .ok (.iaload, 1) := by decide +kernel
theorem dL_law_156 : decode cL_law 156 = .ok (.aload_n 0, 1) := by decide +kernel
theorem dL_law_157 : decode cL_law 157 = .ok (.iload_n 3, 1) := by decide +kernel
theorem dL_law_158 : decode cL_law 158 = .ok (.iconst 2, 1) := by decide +kernel
theorem dL_law_159 : decode cL_law 159 = .ok (.iadd, 1) := by decide +kernel
theorem dL_law_160 : decode cL_law 160 = .ok (.iaload, 1) := by decide +kernel
theorem dL_law_161 : decode cL_law 161 = .ok (.invokevirtual 17, 3) := by decide +kernel
theorem dL_law_164 : decode cL_law 164 = .ok (.if_icmp .eq 608, 3) := by decide +kernel
theorem dL_law_167 : decode cL_law 167 = .ok (.iconst 0, 1) := by decide +kernel
theorem dL_law_168 : decode cL_law 168 = .ok (.ireturn, 1) := by decide +kernel
theorem dL_law_169 : decode cL_law 169 = .ok (.aload_n 1, 1) := by decide +kernel
theorem dL_law_170 : decode cL_law 170 = .ok (.aload_n 0, 1) := by decide +kernel
theorem dL_law_171 : decode cL_law 171 = .ok (.iload_n 3, 1) := by decide +kernel
theorem dL_law_172 : decode cL_law 172 = .ok (.iconst 1, 1) := by decide +kernel
theorem dL_law_173 : decode cL_law 173 = .ok (.iadd, 1) := by decide +kernel
theorem dL_law_174 : decode cL_law 174 = .ok (.iaload, 1) := by decide +kernel
theorem dL_law_175 : decode cL_law 175 = .ok (.aload_n 0, 1) := by decide +kernel
theorem dL_law_176 : decode cL_law 176 = .ok (.iload_n 3, 1) := by decide +kernel
theorem dL_law_177 : decode cL_law 177 = .ok (.iconst 2, 1) := by decide +kernel
theorem dL_law_178 : decode cL_law 178 = .ok (.iadd, 1) := by decide +kernel
theorem dL_law_179 : decode cL_law 179 = .ok (.iaload, 1) := by decide +kernel
theorem dL_law_180 : decode cL_law 180 = .ok (.invokevirtual 18, 3) := by decide +kernel
theorem dL_law_183 : decode cL_law 183 = .ok (.aload_n 2, 1) := by decide +kernel
theorem dL_law_184 : decode cL_law 184 = .ok (.aload_n 0, 1) := by decide +kernel
theorem dL_law_185 : decode cL_law 185 = .ok (.iload_n 3, 1) := by decide +kernel
theorem dL_law_186 : decode cL_law 186 = .ok (.iconst 1, 1) := by decide +kernel
theorem dL_law_187 : decode cL_law 187 = .ok (.iadd, 1) := by decide +kernel
theorem dL_law_188 : decode cL_law 188 = .ok (.iaload, 1) := by decide +kernel
theorem dL_law_189 : decode cL_law 189 = .ok (.aload_n 0, 1) := by decide +kernel
theorem dL_law_190 : decode cL_law 190 = .ok (.iload_n 3, 1) := by decide +kernel
theorem dL_law_191 : decode cL_law 191 = .ok (.iconst 2, 1) := by decide +kernel
theorem dL_law_192 : decode cL_law 192 = .ok (.iadd, 1) := by decide +kernel
theorem dL_law_193 : decode cL_law 193 = .ok (.iaload, 1) := by decide +kernel
theorem dL_law_194 : decode cL_law 194 = .ok (.invokevirtual 21, 3) := by decide +kernel
theorem dL_law_197 : decode cL_law 197 = .ok (.if_icmp .eq 575, 3) := by decide +kernel
theorem dL_law_200 : decode cL_law 200 = .ok (.iconst 0, 1) := by decide +kernel
theorem dL_law_201 : decode cL_law 201 = .ok (.ireturn, 1) := by decide +kernel
theorem dL_law_202 : decode cL_law 202 = .ok (.aload_n 1, 1) := by decide +kernel
theorem dL_law_203 : decode cL_law 203 = .ok (.aload_n 0, 1) := by decide +kernel
theorem dL_law_204 : decode cL_law 204 = .ok (.iload_n 3, 1) := by decide +kernel
theorem dL_law_205 : decode cL_law 205 = .ok (.iconst 1, 1) := by decide +kernel
theorem dL_law_206 : decode cL_law 206 = .ok (.iadd, 1) := by decide +kernel
theorem dL_law_207 : decode cL_law 207 = .ok (.iaload, 1) := by decide +kernel
theorem dL_law_208 : decode cL_law 208 = .ok (.aload_n 0, 1) := by decide +kernel
theorem dL_law_209 : decode cL_law 209 = .ok (.iload_n 3, 1) := by decide +kernel
theorem dL_law_210 : decode cL_law 210 = .ok (.iconst 2, 1) := by decide +kernel
theorem dL_law_211 : decode cL_law 211 = .ok (.iadd, 1) := by decide +kernel
theorem dL_law_212 : decode cL_law 212 = .ok (.iaload, 1) := by decide +kernel
theorem dL_law_213 : decode cL_law 213 = .ok (.invokevirtual 22, 3) := by decide +kernel
theorem dL_law_216 : decode cL_law 216 = .ok (.aload_n 2, 1) := by decide +kernel
theorem dL_law_217 : decode cL_law 217 = .ok (.aload_n 0, 1) := by decide +kernel
theorem dL_law_218 : decode cL_law 218 = .ok (.iload_n 3, 1) := by decide +kernel
theorem dL_law_219 : decode cL_law 219 = .ok (.iconst 1, 1) := by decide +kernel
theorem dL_law_220 : decode cL_law 220 = .ok (.iadd, 1) := by decide +kernel
theorem dL_law_221 : decode cL_law 221 = .ok (.iaload, 1) := by decide +kernel
theorem dL_law_222 : decode cL_law 222 = .ok (.aload_n 0, 1) := by decide +kernel
theorem dL_law_223 : decode cL_law 223 = .ok (.iload_n 3, 1) := by decide +kernel
theorem dL_law_224 : decode cL_law 224 = .ok (.iconst 2, 1) := by decide +kernel
theorem dL_law_225 : decode cL_law 225 = .ok (.iadd, 1) := by decide +kernel
theorem dL_law_226 : decode cL_law 226 = .ok (.iaload, 1) := by decide +kernel
theorem dL_law_227 : decode cL_law 227 = .ok (.invokevirtual 25, 3) := by decide +kernel
theorem dL_law_230 : decode cL_law 230 = .ok (.if_icmp .eq 542, 3) := by decide +kernel
theorem dL_law_233 : decode cL_law 233 = .ok (.iconst 0, 1) := by decide +kernel
theorem dL_law_234 : decode cL_law 234 = .ok (.ireturn, 1) := by decide +kernel
theorem dL_law_235 : decode cL_law 235 = .ok (.aload_n 1, 1) := by decide +kernel
theorem dL_law_236 : decode cL_law 236 = .ok (.aload_n 0, 1) := by decide +kernel
theorem dL_law_237 : decode cL_law 237 = .ok (.iload_n 3, 1) := by decide +kernel
theorem dL_law_238 : decode cL_law 238 = .ok (.iconst 1, 1) := by decide +kernel
theorem dL_law_239 : decode cL_law 239 = .ok (.iadd, 1) := by decide +kernel
theorem dL_law_240 : decode cL_law 240 = .ok (.iaload, 1) := by decide +kernel
theorem dL_law_241 : decode cL_law 241 = .ok (.aload_n 0, 1) := by decide +kernel
theorem dL_law_242 : decode cL_law 242 = .ok (.iload_n 3, 1) := by decide +kernel
theorem dL_law_243 : decode cL_law 243 = .ok (.iconst 2, 1) := by decide +kernel
theorem dL_law_244 : decode cL_law 244 = .ok (.iadd, 1) := by decide +kernel
theorem dL_law_245 : decode cL_law 245 = .ok (.iaload, 1) := by decide +kernel
theorem dL_law_246 : decode cL_law 246 = .ok (.invokevirtual 26, 3) := by decide +kernel
theorem dL_law_249 : decode cL_law 249 = .ok (.aload_n 2, 1) := by decide +kernel
theorem dL_law_250 : decode cL_law 250 = .ok (.aload_n 0, 1) := by decide +kernel
theorem dL_law_251 : decode cL_law 251 = .ok (.iload_n 3, 1) := by decide +kernel
theorem dL_law_252 : decode cL_law 252 = .ok (.iconst 1, 1) := by decide +kernel
theorem dL_law_253 : decode cL_law 253 = .ok (.iadd, 1) := by decide +kernel
theorem dL_law_254 : decode cL_law 254 = .ok (.iaload, 1) := by decide +kernel
theorem dL_law_255 : decode cL_law 255 = .ok (.aload_n 0, 1) := by decide +kernel
theorem dL_law_256 : decode cL_law 256 = .ok (.iload_n 3, 1) := by decide +kernel
theorem dL_law_257 : decode cL_law 257 = .ok (.iconst 2, 1) := by decide +kernel
theorem dL_law_258 : decode cL_law 258 = .ok (.iadd, 1) := by decide +kernel
theorem dL_law_259 : decode cL_law 259 = .ok (.iaload, 1) := by decide +kernel
theorem dL_law_260 : decode cL_law 260 = .ok (.invokevirtual 29, 3) := by decide +kernel
theorem dL_law_263 : decode cL_law 263 = .ok (.if_icmp .eq 509, 3) := by decide +kernel
theorem dL_law_266 : decode cL_law 266 = .ok (.iconst 0, 1) := by decide +kernel
theorem dL_law_267 : decode cL_law 267 = .ok (.ireturn, 1) := by decide +kernel
theorem dL_law_268 : decode cL_law 268 = .ok (.aload_n 1, 1) := by decide +kernel
theorem dL_law_269 : decode cL_law 269 = .ok (.aload_n 0, 1) := by decide +kernel
theorem dL_law_270 : decode cL_law 270 = .ok (.iload_n 3, 1) := by decide +kernel
theorem dL_law_271 : decode cL_law 271 = .ok (.iconst 1, 1) := by decide +kernel
theorem dL_law_272 : decode cL_law 272 = .ok (.iadd, 1) := by decide +kernel
theorem dL_law_273 : decode cL_law 273 = .ok (.iaload, 1) := by decide +kernel
theorem dL_law_274 : decode cL_law 274 = .ok (.aload_n 0, 1) := by decide +kernel
theorem dL_law_275 : decode cL_law 275 = .ok (.iload_n 3, 1) := by decide +kernel
theorem dL_law_276 : decode cL_law 276 = .ok (.iconst 2, 1) := by decide +kernel
theorem dL_law_277 : decode cL_law 277 = .ok (.iadd, 1) := by decide +kernel
theorem dL_law_278 : decode cL_law 278 = .ok (.iaload, 1) := by decide +kernel
theorem dL_law_279 : decode cL_law 279 = .ok (.invokevirtual 30, 3) := by decide +kernel
theorem dL_law_282 : decode cL_law 282 = .ok (.aload_n 2, 1) := by decide +kernel
theorem dL_law_283 : decode cL_law 283 = .ok (.aload_n 0, 1) := by decide +kernel
theorem dL_law_284 : decode cL_law 284 = .ok (.iload_n 3, 1) := by decide +kernel
theorem dL_law_285 : decode cL_law 285 = .ok (.iconst 1, 1) := by decide +kernel
theorem dL_law_286 : decode cL_law 286 = .ok (.iadd, 1) := by decide +kernel
theorem dL_law_287 : decode cL_law 287 = .ok (.iaload, 1) := by decide +kernel
theorem dL_law_288 : decode cL_law 288 = .ok (.aload_n 0, 1) := by decide +kernel
theorem dL_law_289 : decode cL_law 289 = .ok (.iload_n 3, 1) := by decide +kernel
theorem dL_law_290 : decode cL_law 290 = .ok (.iconst 2, 1) := by decide +kernel
theorem dL_law_291 : decode cL_law 291 = .ok (.iadd, 1) := by decide +kernel
theorem dL_law_292 : decode cL_law 292 = .ok (.iaload, 1) := by decide +kernel
theorem dL_law_293 : decode cL_law 293 = .ok (.invokevirtual 33, 3) := by decide +kernel
theorem dL_law_296 : decode cL_law 296 = .ok (.if_icmp .eq 476, 3) := by decide +kernel
theorem dL_law_299 : decode cL_law 299 = .ok (.iconst 0, 1) := by decide +kernel
theorem dL_law_300 : decode cL_law 300 = .ok (.ireturn, 1) := by decide +kernel
theorem dL_law_301 : decode cL_law 301 = .ok (.aload_n 1, 1) := by decide +kernel
theorem dL_law_302 : decode cL_law 302 = .ok (.invokevirtual 34, 3) := by decide +kernel
theorem dL_law_305 : decode cL_law 305 = .ok (.aload_n 2, 1) := by decide +kernel
theorem dL_law_306 : decode cL_law 306 = .ok (.invokevirtual 38, 3) := by decide +kernel
theorem dL_law_309 : decode cL_law 309 = .ok (.if_icmp .eq 463, 3) := by decide +kernel
theorem dL_law_312 : decode cL_law 312 = .ok (.iconst 0, 1) := by decide +kernel
theorem dL_law_313 : decode cL_law 313 = .ok (.ireturn, 1) := by decide +kernel
theorem dL_law_314 : decode cL_law 314 = .ok (.aload_n 1, 1) := by decide +kernel
theorem dL_law_315 : decode cL_law 315 = .ok (.aload_n 0, 1) := by decide +kernel
theorem dL_law_316 : decode cL_law 316 = .ok (.iload_n 3, 1) := by decide +kernel
theorem dL_law_317 : decode cL_law 317 = .ok (.iconst 1, 1) := by decide +kernel
theorem dL_law_318 : decode cL_law 318 = .ok (.iadd, 1) := by decide +kernel
theorem dL_law_319 : decode cL_law 319 = .ok (.iaload, 1) := by decide +kernel
theorem dL_law_320 : decode cL_law 320 = .ok (.aload_n 0, 1) := by decide +kernel
theorem dL_law_321 : decode cL_law 321 = .ok (.iload_n 3, 1) := by decide +kernel
theorem dL_law_322 : decode cL_law 322 = .ok (.iconst 2, 1) := by decide +kernel
theorem dL_law_323 : decode cL_law 323 = .ok (.iadd, 1) := by decide +kernel
theorem dL_law_324 : decode cL_law 324 = .ok (.iaload, 1) := by decide +kernel
theorem dL_law_325 : decode cL_law 325 = .ok (.invokevirtual 39, 3) := by decide +kernel
theorem dL_law_328 : decode cL_law 328 = .ok (.aload_n 2, 1) := by decide +kernel
theorem dL_law_329 : decode cL_law 329 = .ok (.aload_n 0, 1) := by decide +kernel
theorem dL_law_330 : decode cL_law 330 = .ok (.iload_n 3, 1) := by decide +kernel
theorem dL_law_331 : decode cL_law 331 = .ok (.iconst 1, 1) := by decide +kernel
theorem dL_law_332 : decode cL_law 332 = .ok (.iadd, 1) := by decide +kernel
theorem dL_law_333 : decode cL_law 333 = .ok (.iaload, 1) := by decide +kernel
theorem dL_law_334 : decode cL_law 334 = .ok (.aload_n 0, 1) := by decide +kernel
theorem dL_law_335 : decode cL_law 335 = .ok (.iload_n 3, 1) := by decide +kernel
theorem dL_law_336 : decode cL_law 336 = .ok (.iconst 2, 1) := by decide +kernel
theorem dL_law_337 : decode cL_law 337 = .ok (.iadd, 1) := by decide +kernel
theorem dL_law_338 : decode cL_law 338 = .ok (.iaload, 1) := by decide +kernel
theorem dL_law_339 : decode cL_law 339 = .ok (.invokevirtual 42, 3) := by decide +kernel
theorem dL_law_342 : decode cL_law 342 = .ok (.if_icmp .eq 430, 3) := by decide +kernel
theorem dL_law_345 : decode cL_law 345 = .ok (.iconst 0, 1) := by decide +kernel
theorem dL_law_346 : decode cL_law 346 = .ok (.ireturn, 1) := by decide +kernel
theorem dL_law_347 : decode cL_law 347 = .ok (.aload_n 1, 1) := by decide +kernel
theorem dL_law_348 : decode cL_law 348 = .ok (.aload_n 0, 1) := by decide +kernel
theorem dL_law_349 : decode cL_law 349 = .ok (.iload_n 3, 1) := by decide +kernel
theorem dL_law_350 : decode cL_law 350 = .ok (.iconst 1, 1) := by decide +kernel
theorem dL_law_351 : decode cL_law 351 = .ok (.iadd, 1) := by decide +kernel
theorem dL_law_352 : decode cL_law 352 = .ok (.iaload, 1) := by decide +kernel
theorem dL_law_353 : decode cL_law 353 = .ok (.aload_n 0, 1) := by decide +kernel
theorem dL_law_354 : decode cL_law 354 = .ok (.iload_n 3, 1) := by decide +kernel
theorem dL_law_355 : decode cL_law 355 = .ok (.iconst 2, 1) := by decide +kernel
theorem dL_law_356 : decode cL_law 356 = .ok (.iadd, 1) := by decide +kernel
theorem dL_law_357 : decode cL_law 357 = .ok (.iaload, 1) := by decide +kernel
theorem dL_law_358 : decode cL_law 358 = .ok (.aload_n 0, 1) := by decide +kernel
theorem dL_law_359 : decode cL_law 359 = .ok (.iload_n 3, 1) := by decide +kernel
theorem dL_law_360 : decode cL_law 360 = .ok (.iconst 3, 1) := by decide +kernel
theorem dL_law_361 : decode cL_law 361 = .ok (.iadd, 1) := by decide +kernel
theorem dL_law_362 : decode cL_law 362 = .ok (.iaload, 1) := by decide +kernel
theorem dL_law_363 : decode cL_law 363 = .ok (.invokevirtual 43, 3) := by decide +kernel
theorem dL_law_366 : decode cL_law 366 = .ok (.aload_n 2, 1) := by decide +kernel
theorem dL_law_367 : decode cL_law 367 = .ok (.aload_n 0, 1) := by decide +kernel
theorem dL_law_368 : decode cL_law 368 = .ok (.iload_n 3, 1) := by decide +kernel
theorem dL_law_369 : decode cL_law 369 = .ok (.iconst 1, 1) := by decide +kernel
theorem dL_law_370 : decode cL_law 370 = .ok (.iadd, 1) := by decide +kernel
theorem dL_law_371 : decode cL_law 371 = .ok (.iaload, 1) := by decide +kernel
theorem dL_law_372 : decode cL_law 372 = .ok (.aload_n 0, 1) := by decide +kernel
theorem dL_law_373 : decode cL_law 373 = .ok (.iload_n 3, 1) := by decide +kernel
theorem dL_law_374 : decode cL_law 374 = .ok (.iconst 2, 1) := by decide +kernel
theorem dL_law_375 : decode cL_law 375 = .ok (.iadd, 1) := by decide +kernel
theorem dL_law_376 : decode cL_law 376 = .ok (.iaload, 1) := by decide +kernel
theorem dL_law_377 : decode cL_law 377 = .ok (.aload_n 0, 1) := by decide +kernel
theorem dL_law_378 : decode cL_law 378 = .ok (.iload_n 3, 1) := by decide +kernel
theorem dL_law_379 : decode cL_law 379 = .ok (.iconst 3, 1) := by decide +kernel
theorem dL_law_380 : decode cL_law 380 = .ok (.iadd, 1) := by decide +kernel
theorem dL_law_381 : decode cL_law 381 = .ok (.iaload, 1) := by decide +kernel
theorem dL_law_382 : decode cL_law 382 = .ok (.invokevirtual 47, 3) := by decide +kernel
theorem dL_law_385 : decode cL_law 385 = .ok (.if_icmp .eq 387, 3) := by decide +kernel
theorem dL_law_388 : decode cL_law 388 = .ok (.iconst 0, 1) := by decide +kernel
theorem dL_law_389 : decode cL_law 389 = .ok (.ireturn, 1) := by decide +kernel
theorem dL_law_390 : decode cL_law 390 = .ok (.aload_n 1, 1) := by decide +kernel
theorem dL_law_391 : decode cL_law 391 = .ok (.aload_n 0, 1) := by decide +kernel
theorem dL_law_392 : decode cL_law 392 = .ok (.iload_n 3, 1) := by decide +kernel
theorem dL_law_393 : decode cL_law 393 = .ok (.iconst 1, 1) := by decide +kernel
theorem dL_law_394 : decode cL_law 394 = .ok (.iadd, 1) := by decide +kernel
theorem dL_law_395 : decode cL_law 395 = .ok (.iaload, 1) := by decide +kernel
theorem dL_law_396 : decode cL_law 396 = .ok (.invokevirtual 48, 3) := by decide +kernel
theorem dL_law_399 : decode cL_law 399 = .ok (.aload_n 2, 1) := by decide +kernel
theorem dL_law_400 : decode cL_law 400 = .ok (.aload_n 0, 1) := by decide +kernel
theorem dL_law_401 : decode cL_law 401 = .ok (.iload_n 3, 1) := by decide +kernel
theorem dL_law_402 : decode cL_law 402 = .ok (.iconst 1, 1) := by decide +kernel
theorem dL_law_403 : decode cL_law 403 = .ok (.iadd, 1) := by decide +kernel
theorem dL_law_404 : decode cL_law 404 = .ok (.iaload, 1) := by decide +kernel
theorem dL_law_405 : decode cL_law 405 = .ok (.invokevirtual 52, 3) := by decide +kernel
theorem dL_law_408 : decode cL_law 408 = .ok (.if_icmp .eq 364, 3) := by decide +kernel
theorem dL_law_411 : decode cL_law 411 = .ok (.iconst 0, 1) := by decide +kernel
theorem dL_law_412 : decode cL_law 412 = .ok (.ireturn, 1) := by decide +kernel
theorem dL_law_413 : decode cL_law 413 = .ok (.aload_n 1, 1) := by decide +kernel
theorem dL_law_414 : decode cL_law 414 = .ok (.aload_n 0, 1) := by decide +kernel
theorem dL_law_415 : decode cL_law 415 = .ok (.iload_n 3, 1) := by decide +kernel
theorem dL_law_416 : decode cL_law 416 = .ok (.iconst 1, 1) := by decide +kernel
theorem dL_law_417 : decode cL_law 417 = .ok (.iadd, 1) := by decide +kernel
theorem dL_law_418 : decode cL_law 418 = .ok (.iaload, 1) := by decide +kernel
theorem dL_law_419 : decode cL_law 419 = .ok (.invokevirtual 53, 3) := by decide +kernel
theorem dL_law_422 : decode cL_law 422 = .ok (.aload_n 2, 1) := by decide +kernel
theorem dL_law_423 : decode cL_law 423 = .ok (.aload_n 0, 1) := by decide +kernel
theorem dL_law_424 : decode cL_law 424 = .ok (.iload_n 3, 1) := by decide +kernel
theorem dL_law_425 : decode cL_law 425 = .ok (.iconst 1, 1) := by decide +kernel
theorem dL_law_426 : decode cL_law 426 = .ok (.iadd, 1) := by decide +kernel
theorem dL_law_427 : decode cL_law 427 = .ok (.iaload, 1) := by decide +kernel
theorem dL_law_428 : decode cL_law 428 = .ok (.invokevirtual 56, 3) := by decide +kernel
theorem dL_law_431 : decode cL_law 431 = .ok (.if_icmp .eq 341, 3) := by decide +kernel
theorem dL_law_434 : decode cL_law 434 = .ok (.iconst 0, 1) := by decide +kernel
theorem dL_law_435 : decode cL_law 435 = .ok (.ireturn, 1) := by decide +kernel
theorem dL_law_436 : decode cL_law 436 = .ok (.aload_n 1, 1) := by decide +kernel
theorem dL_law_437 : decode cL_law 437 = .ok (.aload_n 0, 1) := by decide +kernel
theorem dL_law_438 : decode cL_law 438 = .ok (.iload_n 3, 1) := by decide +kernel
theorem dL_law_439 : decode cL_law 439 = .ok (.iconst 1, 1) := by decide +kernel
theorem dL_law_440 : decode cL_law 440 = .ok (.iadd, 1) := by decide +kernel
theorem dL_law_441 : decode cL_law 441 = .ok (.iaload, 1) := by decide +kernel
theorem dL_law_442 : decode cL_law 442 = .ok (.aload_n 0, 1) := by decide +kernel
theorem dL_law_443 : decode cL_law 443 = .ok (.iload_n 3, 1) := by decide +kernel
theorem dL_law_444 : decode cL_law 444 = .ok (.iconst 2, 1) := by decide +kernel
theorem dL_law_445 : decode cL_law 445 = .ok (.iadd, 1) := by decide +kernel
theorem dL_law_446 : decode cL_law 446 = .ok (.iaload, 1) := by decide +kernel
theorem dL_law_447 : decode cL_law 447 = .ok (.aload_n 0, 1) := by decide +kernel
theorem dL_law_448 : decode cL_law 448 = .ok (.iload_n 3, 1) := by decide +kernel
theorem dL_law_449 : decode cL_law 449 = .ok (.iconst 3, 1) := by decide +kernel
theorem dL_law_450 : decode cL_law 450 = .ok (.iadd, 1) := by decide +kernel
theorem dL_law_451 : decode cL_law 451 = .ok (.iaload, 1) := by decide +kernel
theorem dL_law_452 : decode cL_law 452 = .ok (.invokevirtual 57, 3) := by decide +kernel
theorem dL_law_455 : decode cL_law 455 = .ok (.aload_n 2, 1) := by decide +kernel
theorem dL_law_456 : decode cL_law 456 = .ok (.aload_n 0, 1) := by decide +kernel
theorem dL_law_457 : decode cL_law 457 = .ok (.iload_n 3, 1) := by decide +kernel
theorem dL_law_458 : decode cL_law 458 = .ok (.iconst 1, 1) := by decide +kernel
theorem dL_law_459 : decode cL_law 459 = .ok (.iadd, 1) := by decide +kernel
theorem dL_law_460 : decode cL_law 460 = .ok (.iaload, 1) := by decide +kernel
theorem dL_law_461 : decode cL_law 461 = .ok (.aload_n 0, 1) := by decide +kernel
theorem dL_law_462 : decode cL_law 462 = .ok (.iload_n 3, 1) := by decide +kernel
theorem dL_law_463 : decode cL_law 463 = .ok (.iconst 2, 1) := by decide +kernel
theorem dL_law_464 : decode cL_law 464 = .ok (.iadd, 1) := by decide +kernel
theorem dL_law_465 : decode cL_law 465 = .ok (.iaload, 1) := by decide +kernel
theorem dL_law_466 : decode cL_law 466 = .ok (.aload_n 0, 1) := by decide +kernel
theorem dL_law_467 : decode cL_law 467 = .ok (.iload_n 3, 1) := by decide +kernel
theorem dL_law_468 : decode cL_law 468 = .ok (.iconst 3, 1) := by decide +kernel
theorem dL_law_469 : decode cL_law 469 = .ok (.iadd, 1) := by decide +kernel
theorem dL_law_470 : decode cL_law 470 = .ok (.iaload, 1) := by decide +kernel
theorem dL_law_471 : decode cL_law 471 = .ok (.invokevirtual 60, 3) := by decide +kernel
theorem dL_law_474 : decode cL_law 474 = .ok (.if_icmp .eq 298, 3) := by decide +kernel
theorem dL_law_477 : decode cL_law 477 = .ok (.iconst 0, 1) := by decide +kernel
theorem dL_law_478 : decode cL_law 478 = .ok (.ireturn, 1) := by decide +kernel
theorem dL_law_479 : decode cL_law 479 = .ok (.aload_n 1, 1) := by decide +kernel
theorem dL_law_480 : decode cL_law 480 = .ok (.aload_n 0, 1) := by decide +kernel
theorem dL_law_481 : decode cL_law 481 = .ok (.iload_n 3, 1) := by decide +kernel
theorem dL_law_482 : decode cL_law 482 = .ok (.iconst 1, 1) := by decide +kernel
theorem dL_law_483 : decode cL_law 483 = .ok (.iadd, 1) := by decide +kernel
theorem dL_law_484 : decode cL_law 484 = .ok (.iaload, 1) := by decide +kernel
theorem dL_law_485 : decode cL_law 485 = .ok (.aload_n 0, 1) := by decide +kernel
theorem dL_law_486 : decode cL_law 486 = .ok (.iload_n 3, 1) := by decide +kernel
theorem dL_law_487 : decode cL_law 487 = .ok (.iconst 2, 1) := by decide +kernel
theorem dL_law_488 : decode cL_law 488 = .ok (.iadd, 1) := by decide +kernel
theorem dL_law_489 : decode cL_law 489 = .ok (.iaload, 1) := by decide +kernel
theorem dL_law_490 : decode cL_law 490 = .ok (.aload_n 0, 1) := by decide +kernel
theorem dL_law_491 : decode cL_law 491 = .ok (.iload_n 3, 1) := by decide +kernel
theorem dL_law_492 : decode cL_law 492 = .ok (.iconst 3, 1) := by decide +kernel
theorem dL_law_493 : decode cL_law 493 = .ok (.iadd, 1) := by decide +kernel
theorem dL_law_494 : decode cL_law 494 = .ok (.iaload, 1) := by decide +kernel
theorem dL_law_495 : decode cL_law 495 = .ok (.aload_n 0, 1) := by decide +kernel
theorem dL_law_496 : decode cL_law 496 = .ok (.iload_n 3, 1) := by decide +kernel
theorem dL_law_497 : decode cL_law 497 = .ok (.iconst 4, 1) := by decide +kernel
theorem dL_law_498 : decode cL_law 498 = .ok (.iadd, 1) := by decide +kernel
theorem dL_law_499 : decode cL_law 499 = .ok (.iaload, 1) := by decide +kernel
theorem dL_law_500 : decode cL_law 500 = .ok (.invokevirtual 61, 3) := by decide +kernel
theorem dL_law_503 : decode cL_law 503 = .ok (.aload_n 2, 1) := by decide +kernel
theorem dL_law_504 : decode cL_law 504 = .ok (.aload_n 0, 1) := by decide +kernel
theorem dL_law_505 : decode cL_law 505 = .ok (.iload_n 3, 1) := by decide +kernel
theorem dL_law_506 : decode cL_law 506 = .ok (.iconst 1, 1) := by decide +kernel
theorem dL_law_507 : decode cL_law 507 = .ok (.iadd, 1) := by decide +kernel
theorem dL_law_508 : decode cL_law 508 = .ok (.iaload, 1) := by decide +kernel
theorem dL_law_509 : decode cL_law 509 = .ok (.aload_n 0, 1) := by decide +kernel
theorem dL_law_510 : decode cL_law 510 = .ok (.iload_n 3, 1) := by decide +kernel
theorem dL_law_511 : decode cL_law 511 = .ok (.iconst 2, 1) := by decide +kernel
theorem dL_law_512 : decode cL_law 512 = .ok (.iadd, 1) := by decide +kernel
theorem dL_law_513 : decode cL_law 513 = .ok (.iaload, 1) := by decide +kernel
theorem dL_law_514 : decode cL_law 514 = .ok (.aload_n 0, 1) := by decide +kernel
theorem dL_law_515 : decode cL_law 515 = .ok (.iload_n 3, 1) := by decide +kernel
theorem dL_law_516 : decode cL_law 516 = .ok (.iconst 3, 1) := by decide +kernel
theorem dL_law_517 : decode cL_law 517 = .ok (.iadd, 1) := by decide +kernel
theorem dL_law_518 : decode cL_law 518 = .ok (.iaload, 1) := by decide +kernel
theorem dL_law_519 : decode cL_law 519 = .ok (.aload_n 0, 1) := by decide +kernel
theorem dL_law_520 : decode cL_law 520 = .ok (.iload_n 3, 1) := by decide +kernel
theorem dL_law_521 : decode cL_law 521 = .ok (.iconst 4, 1) := by decide +kernel
theorem dL_law_522 : decode cL_law 522 = .ok (.iadd, 1) := by decide +kernel
theorem dL_law_523 : decode cL_law 523 = .ok (.iaload, 1) := by decide +kernel
theorem dL_law_524 : decode cL_law 524 = .ok (.invokevirtual 65, 3) := by decide +kernel
theorem dL_law_527 : decode cL_law 527 = .ok (.if_icmp .eq 245, 3) := by decide +kernel
theorem dL_law_530 : decode cL_law 530 = .ok (.iconst 0, 1) := by decide +kernel
theorem dL_law_531 : decode cL_law 531 = .ok (.ireturn, 1) := by decide +kernel
theorem dL_law_532 : decode cL_law 532 = .ok (.aload_n 1, 1) := by decide +kernel
theorem dL_law_533 : decode cL_law 533 = .ok (.aload_n 0, 1) := by decide +kernel
theorem dL_law_534 : decode cL_law 534 = .ok (.iload_n 3, 1) := by decide +kernel
theorem dL_law_535 : decode cL_law 535 = .ok (.iconst 1, 1) := by decide +kernel
theorem dL_law_536 : decode cL_law 536 = .ok (.iadd, 1) := by decide +kernel
theorem dL_law_537 : decode cL_law 537 = .ok (.iaload, 1) := by decide +kernel
theorem dL_law_538 : decode cL_law 538 = .ok (.aload_n 0, 1) := by decide +kernel
theorem dL_law_539 : decode cL_law 539 = .ok (.iload_n 3, 1) := by decide +kernel
theorem dL_law_540 : decode cL_law 540 = .ok (.iconst 2, 1) := by decide +kernel
theorem dL_law_541 : decode cL_law 541 = .ok (.iadd, 1) := by decide +kernel
theorem dL_law_542 : decode cL_law 542 = .ok (.iaload, 1) := by decide +kernel
theorem dL_law_543 : decode cL_law 543 = .ok (.aload_n 0, 1) := by decide +kernel
theorem dL_law_544 : decode cL_law 544 = .ok (.iload_n 3, 1) := by decide +kernel
theorem dL_law_545 : decode cL_law 545 = .ok (.iconst 3, 1) := by decide +kernel
theorem dL_law_546 : decode cL_law 546 = .ok (.iadd, 1) := by decide +kernel
theorem dL_law_547 : decode cL_law 547 = .ok (.iaload, 1) := by decide +kernel
theorem dL_law_548 : decode cL_law 548 = .ok (.aload_n 0, 1) := by decide +kernel
theorem dL_law_549 : decode cL_law 549 = .ok (.iload_n 3, 1) := by decide +kernel
theorem dL_law_550 : decode cL_law 550 = .ok (.iconst 4, 1) := by decide +kernel
theorem dL_law_551 : decode cL_law 551 = .ok (.iadd, 1) := by decide +kernel
theorem dL_law_552 : decode cL_law 552 = .ok (.iaload, 1) := by decide +kernel
theorem dL_law_553 : decode cL_law 553 = .ok (.aload_n 0, 1) := by decide +kernel
theorem dL_law_554 : decode cL_law 554 = .ok (.iload_n 3, 1) := by decide +kernel
theorem dL_law_555 : decode cL_law 555 = .ok (.iconst 5, 1) := by decide +kernel
theorem dL_law_556 : decode cL_law 556 = .ok (.iadd, 1) := by decide +kernel
theorem dL_law_557 : decode cL_law 557 = .ok (.iaload, 1) := by decide +kernel
theorem dL_law_558 : decode cL_law 558 = .ok (.invokevirtual 66, 3) := by decide +kernel
theorem dL_law_561 : decode cL_law 561 = .ok (.aload_n 2, 1) := by decide +kernel
theorem dL_law_562 : decode cL_law 562 = .ok (.aload_n 0, 1) := by decide +kernel
theorem dL_law_563 : decode cL_law 563 = .ok (.iload_n 3, 1) := by decide +kernel
theorem dL_law_564 : decode cL_law 564 = .ok (.iconst 1, 1) := by decide +kernel
theorem dL_law_565 : decode cL_law 565 = .ok (.iadd, 1) := by decide +kernel
theorem dL_law_566 : decode cL_law 566 = .ok (.iaload, 1) := by decide +kernel
theorem dL_law_567 : decode cL_law 567 = .ok (.aload_n 0, 1) := by decide +kernel
theorem dL_law_568 : decode cL_law 568 = .ok (.iload_n 3, 1) := by decide +kernel
theorem dL_law_569 : decode cL_law 569 = .ok (.iconst 2, 1) := by decide +kernel
theorem dL_law_570 : decode cL_law 570 = .ok (.iadd, 1) := by decide +kernel
theorem dL_law_571 : decode cL_law 571 = .ok (.iaload, 1) := by decide +kernel
theorem dL_law_572 : decode cL_law 572 = .ok (.aload_n 0, 1) := by decide +kernel
theorem dL_law_573 : decode cL_law 573 = .ok (.iload_n 3, 1) := by decide +kernel
theorem dL_law_574 : decode cL_law 574 = .ok (.iconst 3, 1) := by decide +kernel
theorem dL_law_575 : decode cL_law 575 = .ok (.iadd, 1) := by decide +kernel
theorem dL_law_576 : decode cL_law 576 = .ok (.iaload, 1) := by decide +kernel
theorem dL_law_577 : decode cL_law 577 = .ok (.aload_n 0, 1) := by decide +kernel
theorem dL_law_578 : decode cL_law 578 = .ok (.iload_n 3, 1) := by decide +kernel
theorem dL_law_579 : decode cL_law 579 = .ok (.iconst 4, 1) := by decide +kernel
theorem dL_law_580 : decode cL_law 580 = .ok (.iadd, 1) := by decide +kernel
theorem dL_law_581 : decode cL_law 581 = .ok (.iaload, 1) := by decide +kernel
theorem dL_law_582 : decode cL_law 582 = .ok (.aload_n 0, 1) := by decide +kernel
theorem dL_law_583 : decode cL_law 583 = .ok (.iload_n 3, 1) := by decide +kernel
theorem dL_law_584 : decode cL_law 584 = .ok (.iconst 5, 1) := by decide +kernel
theorem dL_law_585 : decode cL_law 585 = .ok (.iadd, 1) := by decide +kernel
theorem dL_law_586 : decode cL_law 586 = .ok (.iaload, 1) := by decide +kernel
theorem dL_law_587 : decode cL_law 587 = .ok (.invokevirtual 70, 3) := by decide +kernel
theorem dL_law_590 : decode cL_law 590 = .ok (.if_icmp .eq 182, 3) := by decide +kernel
theorem dL_law_593 : decode cL_law 593 = .ok (.iconst 0, 1) := by decide +kernel
theorem dL_law_594 : decode cL_law 594 = .ok (.ireturn, 1) := by decide +kernel
theorem dL_law_595 : decode cL_law 595 = .ok (.aload_n 1, 1) := by decide +kernel
theorem dL_law_596 : decode cL_law 596 = .ok (.aload_n 0, 1) := by decide +kernel
theorem dL_law_597 : decode cL_law 597 = .ok (.iload_n 3, 1) := by decide +kernel
theorem dL_law_598 : decode cL_law 598 = .ok (.iconst 1, 1) := by decide +kernel
theorem dL_law_599 : decode cL_law 599 = .ok (.iadd, 1) := by decide +kernel
theorem dL_law_600 : decode cL_law 600 = .ok (.iaload, 1) := by decide +kernel
theorem dL_law_601 : decode cL_law 601 = .ok (.aload_n 0, 1) := by decide +kernel
theorem dL_law_602 : decode cL_law 602 = .ok (.iload_n 3, 1) := by decide +kernel
theorem dL_law_603 : decode cL_law 603 = .ok (.iconst 2, 1) := by decide +kernel
theorem dL_law_604 : decode cL_law 604 = .ok (.iadd, 1) := by decide +kernel
theorem dL_law_605 : decode cL_law 605 = .ok (.iaload, 1) := by decide +kernel
theorem dL_law_606 : decode cL_law 606 = .ok (.invokevirtual 71, 3) := by decide +kernel
theorem dL_law_609 : decode cL_law 609 = .ok (.aload_n 2, 1) := by decide +kernel
theorem dL_law_610 : decode cL_law 610 = .ok (.aload_n 0, 1) := by decide +kernel
theorem dL_law_611 : decode cL_law 611 = .ok (.iload_n 3, 1) := by decide +kernel
theorem dL_law_612 : decode cL_law 612 = .ok (.iconst 1, 1) := by decide +kernel
theorem dL_law_613 : decode cL_law 613 = .ok (.iadd, 1) := by decide +kernel
theorem dL_law_614 : decode cL_law 614 = .ok (.iaload, 1) := by decide +kernel
theorem dL_law_615 : decode cL_law 615 = .ok (.aload_n 0, 1) := by decide +kernel
theorem dL_law_616 : decode cL_law 616 = .ok (.iload_n 3, 1) := by decide +kernel
theorem dL_law_617 : decode cL_law 617 = .ok (.iconst 2, 1) := by decide +kernel
theorem dL_law_618 : decode cL_law 618 = .ok (.iadd, 1) := by decide +kernel
theorem dL_law_619 : decode cL_law 619 = .ok (.iaload, 1) := by decide +kernel
theorem dL_law_620 : decode cL_law 620 = .ok (.invokevirtual 74, 3) := by decide +kernel
theorem dL_law_623 : decode cL_law 623 = .ok (.if_icmp .eq 149, 3) := by decide +kernel
theorem dL_law_626 : decode cL_law 626 = .ok (.iconst 0, 1) := by decide +kernel
theorem dL_law_627 : decode cL_law 627 = .ok (.ireturn, 1) := by decide +kernel
theorem dL_law_628 : decode cL_law 628 = .ok (.aload_n 1, 1) := by decide +kernel
theorem dL_law_629 : decode cL_law 629 = .ok (.aload_n 0, 1) := by decide +kernel
theorem dL_law_630 : decode cL_law 630 = .ok (.iload_n 3, 1) := by decide +kernel
theorem dL_law_631 : decode cL_law 631 = .ok (.iconst 1, 1) := by decide +kernel
theorem dL_law_632 : decode cL_law 632 = .ok (.iadd, 1) := by decide +kernel
theorem dL_law_633 : decode cL_law 633 = .ok (.iaload, 1) := by decide +kernel
theorem dL_law_634 : decode cL_law 634 = .ok (.invokevirtual 75, 3) := by decide +kernel
theorem dL_law_637 : decode cL_law 637 = .ok (.aload_n 2, 1) := by decide +kernel
theorem dL_law_638 : decode cL_law 638 = .ok (.aload_n 0, 1) := by decide +kernel
theorem dL_law_639 : decode cL_law 639 = .ok (.iload_n 3, 1) := by decide +kernel
theorem dL_law_640 : decode cL_law 640 = .ok (.iconst 1, 1) := by decide +kernel
theorem dL_law_641 : decode cL_law 641 = .ok (.iadd, 1) := by decide +kernel
theorem dL_law_642 : decode cL_law 642 = .ok (.iaload, 1) := by decide +kernel
theorem dL_law_643 : decode cL_law 643 = .ok (.invokevirtual 78, 3) := by decide +kernel
theorem dL_law_646 : decode cL_law 646 = .ok (.if_icmp .eq 126, 3) := by decide +kernel
theorem dL_law_649 : decode cL_law 649 = .ok (.iconst 0, 1) := by decide +kernel
theorem dL_law_650 : decode cL_law 650 = .ok (.ireturn, 1) := by decide +kernel
theorem dL_law_651 : decode cL_law 651 = .ok (.aload_n 1, 1) := by decide +kernel
theorem dL_law_652 : decode cL_law 652 = .ok (.invokevirtual 79, 3) := by decide +kernel
theorem dL_law_655 : decode cL_law 655 = .ok (.aload_n 2, 1) := by decide +kernel
theorem dL_law_656 : decode cL_law 656 = .ok (.invokevirtual 82, 3) := by decide +kernel
theorem dL_law_659 : decode cL_law 659 = .ok (.if_icmp .eq 113, 3) := by decide +kernel
theorem dL_law_662 : decode cL_law 662 = .ok (.iconst 0, 1) := by decide +kernel
theorem dL_law_663 : decode cL_law 663 = .ok (.ireturn, 1) := by decide +kernel
theorem dL_law_664 : decode cL_law 664 = .ok (.aload_n 1, 1) := by decide +kernel
theorem dL_law_665 : decode cL_law 665 = .ok (.aload_n 0, 1) := by decide +kernel
theorem dL_law_666 : decode cL_law 666 = .ok (.iload_n 3, 1) := by decide +kernel
theorem dL_law_667 : decode cL_law 667 = .ok (.iconst 1, 1) := by decide +kernel
theorem dL_law_668 : decode cL_law 668 = .ok (.iadd, 1) := by decide +kernel
theorem dL_law_669 : decode cL_law 669 = .ok (.iaload, 1) := by decide +kernel
theorem dL_law_670 : decode cL_law 670 = .ok (.invokevirtual 83, 3) := by decide +kernel
theorem dL_law_673 : decode cL_law 673 = .ok (.aload_n 2, 1) := by decide +kernel
theorem dL_law_674 : decode cL_law 674 = .ok (.aload_n 0, 1) := by decide +kernel
theorem dL_law_675 : decode cL_law 675 = .ok (.iload_n 3, 1) := by decide +kernel
theorem dL_law_676 : decode cL_law 676 = .ok (.iconst 1, 1) := by decide +kernel
theorem dL_law_677 : decode cL_law 677 = .ok (.iadd, 1) := by decide +kernel
theorem dL_law_678 : decode cL_law 678 = .ok (.iaload, 1) := by decide +kernel
theorem dL_law_679 : decode cL_law 679 = .ok (.invokevirtual 86, 3) := by decide +kernel
theorem dL_law_682 : decode cL_law 682 = .ok (.if_icmp .eq 90, 3) := by decide +kernel
theorem dL_law_685 : decode cL_law 685 = .ok (.iconst 0, 1) := by decide +kernel
theorem dL_law_686 : decode cL_law 686 = .ok (.ireturn, 1) := by decide +kernel
theorem dL_law_687 : decode cL_law 687 = .ok (.aload_n 1, 1) := by decide +kernel
theorem dL_law_688 : decode cL_law 688 = .ok (.invokevirtual 87, 3) := by decide +kernel
theorem dL_law_691 : decode cL_law 691 = .ok (.aload_n 2, 1) := by decide +kernel
theorem dL_law_692 : decode cL_law 692 = .ok (.invokevirtual 90, 3) := by decide +kernel
theorem dL_law_695 : decode cL_law 695 = .ok (.if_icmp .eq 77, 3) := by decide +kernel
theorem dL_law_698 : decode cL_law 698 = .ok (.iconst 0, 1) := by decide +kernel
theorem dL_law_699 : decode cL_law 699 = .ok (.ireturn, 1) := by decide +kernel
theorem dL_law_700 : decode cL_law 700 = .ok (.aload_n 1, 1) := by decide +kernel
theorem dL_law_701 : decode cL_law 701 = .ok (.aload_n 0, 1) := by decide +kernel
theorem dL_law_702 : decode cL_law 702 = .ok (.iload_n 3, 1) := by decide +kernel
theorem dL_law_703 : decode cL_law 703 = .ok (.iconst 1, 1) := by decide +kernel
theorem dL_law_704 : decode cL_law 704 = .ok (.iadd, 1) := by decide +kernel
theorem dL_law_705 : decode cL_law 705 = .ok (.iaload, 1) := by decide +kernel
theorem dL_law_706 : decode cL_law 706 = .ok (.invokevirtual 91, 3) := by decide +kernel
theorem dL_law_709 : decode cL_law 709 = .ok (.aload_n 2, 1) := by decide +kernel
theorem dL_law_710 : decode cL_law 710 = .ok (.aload_n 0, 1) := by decide +kernel
theorem dL_law_711 : decode cL_law 711 = .ok (.iload_n 3, 1) := by decide +kernel
theorem dL_law_712 : decode cL_law 712 = .ok (.iconst 1, 1) := by decide +kernel
theorem dL_law_713 : decode cL_law 713 = .ok (.iadd, 1) := by decide +kernel
theorem dL_law_714 : decode cL_law 714 = .ok (.iaload, 1) := by decide +kernel
theorem dL_law_715 : decode cL_law 715 = .ok (.invokevirtual 94, 3) := by decide +kernel
theorem dL_law_718 : decode cL_law 718 = .ok (.if_icmp .eq 54, 3) := by decide +kernel
theorem dL_law_721 : decode cL_law 721 = .ok (.iconst 0, 1) := by decide +kernel
theorem dL_law_722 : decode cL_law 722 = .ok (.ireturn, 1) := by decide +kernel
theorem dL_law_723 : decode cL_law 723 = .ok (.aload_n 1, 1) := by decide +kernel
theorem dL_law_724 : decode cL_law 724 = .ok (.invokevirtual 95, 3) := by decide +kernel
theorem dL_law_727 : decode cL_law 727 = .ok (.aload_n 2, 1) := by decide +kernel
theorem dL_law_728 : decode cL_law 728 = .ok (.invokevirtual 98, 3) := by decide +kernel
theorem dL_law_731 : decode cL_law 731 = .ok (.if_icmp .eq 41, 3) := by decide +kernel
theorem dL_law_734 : decode cL_law 734 = .ok (.iconst 0, 1) := by decide +kernel
theorem dL_law_735 : decode cL_law 735 = .ok (.ireturn, 1) := by decide +kernel
theorem dL_law_736 : decode cL_law 736 = .ok (.aload_n 1, 1) := by decide +kernel
theorem dL_law_737 : decode cL_law 737 = .ok (.aload_n 0, 1) := by decide +kernel
theorem dL_law_738 : decode cL_law 738 = .ok (.iload_n 3, 1) := by decide +kernel
theorem dL_law_739 : decode cL_law 739 = .ok (.iconst 1, 1) := by decide +kernel
theorem dL_law_740 : decode cL_law 740 = .ok (.iadd, 1) := by decide +kernel
theorem dL_law_741 : decode cL_law 741 = .ok (.iaload, 1) := by decide +kernel
theorem dL_law_742 : decode cL_law 742 = .ok (.invokevirtual 99, 3) := by decide +kernel
theorem dL_law_745 : decode cL_law 745 = .ok (.aload_n 2, 1) := by decide +kernel
theorem dL_law_746 : decode cL_law 746 = .ok (.aload_n 0, 1) := by decide +kernel
theorem dL_law_747 : decode cL_law 747 = .ok (.iload_n 3, 1) := by decide +kernel
theorem dL_law_748 : decode cL_law 748 = .ok (.iconst 1, 1) := by decide +kernel
theorem dL_law_749 : decode cL_law 749 = .ok (.iadd, 1) := by decide +kernel
theorem dL_law_750 : decode cL_law 750 = .ok (.iaload, 1) := by decide +kernel
theorem dL_law_751 : decode cL_law 751 = .ok (.invokevirtual 102, 3) := by decide +kernel
theorem dL_law_754 : decode cL_law 754 = .ok (.if_icmp .eq 18, 3) := by decide +kernel
theorem dL_law_757 : decode cL_law 757 = .ok (.iconst 0, 1) := by decide +kernel
theorem dL_law_758 : decode cL_law 758 = .ok (.ireturn, 1) := by decide +kernel
theorem dL_law_759 : decode cL_law 759 = .ok (.aload_n 1, 1) := by decide +kernel
theorem dL_law_760 : decode cL_law 760 = .ok (.invokevirtual 103, 3) := by decide +kernel
theorem dL_law_763 : decode cL_law 763 = .ok (.aload_n 2, 1) := by decide +kernel
theorem dL_law_764 : decode cL_law 764 = .ok (.invokevirtual 106, 3) := by decide +kernel
theorem dL_law_767 : decode cL_law 767 = .ok (.if_icmp .eq 5, 3) := by decide +kernel
theorem dL_law_770 : decode cL_law 770 = .ok (.iconst 0, 1) := by decide +kernel
theorem dL_law_771 : decode cL_law 771 = .ok (.ireturn, 1) := by decide +kernel
theorem dL_law_772 : decode cL_law 772 = .ok (.iinc 3 6, 3) := by decide +kernel
theorem dL_law_775 : decode cL_law 775 = .ok (.goto (-757), 3) := by decide +kernel
theorem dL_law_778 : decode cL_law 778 = .ok (.iconst 1, 1) := by decide +kernel
theorem dL_law_779 : decode cL_law 779 = .ok (.ireturn, 1) := by decide +kernel
abbrev vwCl : List vw_C := [(RX0, TX0, 7), (RX1, TX1, 1), (RX2, TX2, 3), (RX3, TX3, 12), (RX5, TX5, 12), (RX6, TX6, 2), (RX7, TX7, 6), (RX8, TX8, 19)]
end
section
/-! words of the tables, by their places -/
def bm_T : List Cond := lw_tbl.filter goodWord
theorem bm_TT {w : Cond} (h : w ∈ lw_tbl) (h2 : goodWord w = true) : w ∈ bm_T := List.mem_filter.mpr ⟨h, h2⟩
theorem inT0 : ∀ w ∈ wsX00, w ∈ bm_T := by decide +kernel
theorem inT1 : ∀ w ∈ wsX10, w ∈ bm_T := by decide +kernel
theorem inT2 : ∀ w ∈ wsX20, w ∈ bm_T := by decide +kernel
theorem inT3 : ∀ w ∈ wsX30, w ∈ bm_T := by decide +kernel
theorem inT5 : ∀ w ∈ wsX50, w ∈ bm_T := by decide +kernel
theorem inT6 : ∀ w ∈ wsX60, w ∈ bm_T := by decide +kernel
theorem inT7 : ∀ w ∈ wsX70, w ∈ bm_T := by decide +kernel
theorem inT8 : ∀ w ∈ wsX80, w ∈ bm_T := by decide +kernel
theorem tw_0 : (.methodLink RX4 17 arraycopyName : Cond) ∈ bm_T := bm_TT (List.mem_of_getElem? (i := 80) (by decide +kernel)) (by decide +kernel)
theorem tw_1 : (.native arraycopyName : Cond) ∈ bm_T := bm_TT (List.mem_of_getElem? (i := 82) (by decide +kernel)) (by decide +kernel)
theorem tw_2 : (.static arraycopyName : Cond) ∈ bm_T := bm_TT (List.mem_of_getElem? (i := 81) (by decide +kernel)) (by decide +kernel)
theorem tw_3 : (.initialized RJ10 : Cond) ∈ bm_T := bm_TT (List.mem_of_getElem? (i := 53) (by decide +kernel)) (by decide +kernel)
theorem tw_4 : (.methodLink RX3 3 objectInit : Cond) ∈ bm_T := bm_TT (List.mem_of_getElem? (i := 74) (by decide +kernel)) (by decide +kernel)
theorem tw_5 : (.instanceMethod objectInit : Cond) ∈ bm_T := bm_TT (List.mem_of_getElem? (i := 67) (by decide +kernel)) (by decide +kernel)
theorem tw_6 : (.code objectInit ⟨#[0xb1]⟩ 1 none : Cond) ∈ bm_T := bm_TT (List.mem_of_getElem? (i := 68) (by decide +kernel)) (by decide +kernel)
theorem tw_7 : (.arrayClass .int : Cond) ∈ bm_T := bm_TT (List.mem_of_getElem? (i := 120) (by decide +kernel)) (by decide +kernel)
theorem tw_8 : (.fieldLink RX3 9 "BallotPapers$Poll" "titles" "[I" : Cond) ∈ bm_T := bm_TT (List.mem_of_getElem? (i := 85) (by decide +kernel)) (by decide +kernel)
theorem tw_9 : (.fieldLink RX3 15 "BallotPapers$Poll" "seats" "[I" : Cond) ∈ bm_T := bm_TT (List.mem_of_getElem? (i := 86) (by decide +kernel)) (by decide +kernel)
theorem tw_10 : (.fieldLink RX3 18 "BallotPapers$Poll" "ways" "[I" : Cond) ∈ bm_T := bm_TT (List.mem_of_getElem? (i := 87) (by decide +kernel)) (by decide +kernel)
theorem tw_11 : (.fieldLink RX3 21 "BallotPapers$Poll" "names" "[I" : Cond) ∈ bm_T := bm_TT (List.mem_of_getElem? (i := 88) (by decide +kernel)) (by decide +kernel)
theorem tw_12 : (.fieldLink RX3 24 "BallotPapers$Poll" "spoilt" "[I" : Cond) ∈ bm_T := bm_TT (List.mem_of_getElem? (i := 89) (by decide +kernel)) (by decide +kernel)
theorem tw_13 : (.fieldLink RX3 27 "BallotPapers$Poll" "blank" "[I" : Cond) ∈ bm_T := bm_TT (List.mem_of_getElem? (i := 90) (by decide +kernel)) (by decide +kernel)
theorem tw_14 : (.fieldLink RX3 30 "BallotPapers$Poll" "lengths" "[I" : Cond) ∈ bm_T := bm_TT (List.mem_of_getElem? (i := 91) (by decide +kernel)) (by decide +kernel)
theorem tw_15 : (.fieldLink RX3 33 "BallotPapers$Poll" "votes" "[I" : Cond) ∈ bm_T := bm_TT (List.mem_of_getElem? (i := 92) (by decide +kernel)) (by decide +kernel)
theorem tw_16 : (.fieldLink RX3 36 "BallotPapers$Poll" "papers" "[I" : Cond) ∈ bm_T := bm_TT (List.mem_of_getElem? (i := 93) (by decide +kernel)) (by decide +kernel)
theorem tw_17 : (.fieldLink RX3 39 "BallotPapers$Poll" "settings" "[I" : Cond) ∈ bm_T := bm_TT (List.mem_of_getElem? (i := 94) (by decide +kernel)) (by decide +kernel)
theorem tw_18 : (.initialized RX4 : Cond) ∈ bm_T := bm_TT (List.mem_of_getElem? (i := 52) (by decide +kernel)) (by decide +kernel)
theorem tw_19 : (.code yX4_copy cX4_copy 2 none : Cond) ∈ bm_T := bm_TT (List.mem_of_getElem? (i := 79) (by decide +kernel)) (by decide +kernel)
theorem tw_20 : (.methodLink RX3 45 yX4_copy : Cond) ∈ bm_T := bm_TT (List.mem_of_getElem? (i := 77) (by decide +kernel)) (by decide +kernel)
theorem tw_21 : (.static yX4_copy : Cond) ∈ bm_T := bm_TT (List.mem_of_getElem? (i := 78) (by decide +kernel)) (by decide +kernel)
theorem tw_22 : (.methodLink RX2 3 objectInit : Cond) ∈ bm_T := bm_TT (List.mem_of_getElem? (i := 126) (by decide +kernel)) (by decide +kernel)
theorem tw_23 : (.classLink RX2 9 RX3 : Cond) ∈ bm_T := bm_TT (List.mem_of_getElem? (i := 127) (by decide +kernel)) (by decide +kernel)
theorem tw_24 : (.fieldLink RX2 11 "BallotPapers$History" "states" "[LBallotPapers$Poll;" : Cond) ∈ bm_T := bm_TT (List.mem_of_getElem? (i := 130) (by decide +kernel)) (by decide +kernel)
theorem tw_25 : (.instantiable RX3 12 : Cond) ∈ bm_T := bm_TT (List.mem_of_getElem? (i := 70) (by decide +kernel)) (by decide +kernel)
theorem tw_26 : (.initialized RX3 : Cond) ∈ bm_T := bm_TT (List.mem_of_getElem? (i := 51) (by decide +kernel)) (by decide +kernel)
theorem tw_27 : (.code yX3_init cX3_init 1 none : Cond) ∈ bm_T := bm_TT (List.mem_of_getElem? (i := 73) (by decide +kernel)) (by decide +kernel)
theorem tw_28 : (.methodLink RX2 17 yX3_init : Cond) ∈ bm_T := bm_TT (List.mem_of_getElem? (i := 129) (by decide +kernel)) (by decide +kernel)
theorem tw_29 : (.instanceMethod yX3_init : Cond) ∈ bm_T := bm_TT (List.mem_of_getElem? (i := 72) (by decide +kernel)) (by decide +kernel)
theorem tw_30 : (.methodLink RX5 3 objectInit : Cond) ∈ bm_T := bm_TT (List.mem_of_getElem? (i := 145) (by decide +kernel)) (by decide +kernel)
theorem tw_31 : (.fieldLink RX5 9 "BallotPapers$Sheet" "columnOf" "[I" : Cond) ∈ bm_T := bm_TT (List.mem_of_getElem? (i := 146) (by decide +kernel)) (by decide +kernel)
theorem tw_32 : (.fieldLink RX5 15 "BallotPapers$Sheet" "lineOf" "[I" : Cond) ∈ bm_T := bm_TT (List.mem_of_getElem? (i := 147) (by decide +kernel)) (by decide +kernel)
theorem tw_33 : (.fieldLink RX5 18 "BallotPapers$Sheet" "linesOf" "[I" : Cond) ∈ bm_T := bm_TT (List.mem_of_getElem? (i := 148) (by decide +kernel)) (by decide +kernel)
theorem tw_34 : (.fieldLink RX5 21 "BallotPapers$Sheet" "names" "[I" : Cond) ∈ bm_T := bm_TT (List.mem_of_getElem? (i := 149) (by decide +kernel)) (by decide +kernel)
theorem tw_35 : (.methodLink RX1 3 objectInit : Cond) ∈ bm_T := bm_TT (List.mem_of_getElem? (i := 188) (by decide +kernel)) (by decide +kernel)
theorem tw_36 : (.fieldLink RX1 9 "BallotPapers$Firsts" "times" "[I" : Cond) ∈ bm_T := bm_TT (List.mem_of_getElem? (i := 189) (by decide +kernel)) (by decide +kernel)
theorem tw_37 : (.methodLink RX6 3 objectInit : Cond) ∈ bm_T := bm_TT (List.mem_of_getElem? (i := 198) (by decide +kernel)) (by decide +kernel)
theorem tw_38 : (.fieldLink RX6 9 "BallotPapers$Text" "signs" "[I" : Cond) ∈ bm_T := bm_TT (List.mem_of_getElem? (i := 199) (by decide +kernel)) (by decide +kernel)
theorem tw_39 : (.methodLink RX0 3 objectInit : Cond) ∈ bm_T := bm_TT (List.mem_of_getElem? (i := 211) (by decide +kernel)) (by decide +kernel)
theorem tw_40 : (.fieldLink RX0 9 "BallotPapers$Ballot" "contestOfMark" "[I" : Cond) ∈ bm_T := bm_TT (List.mem_of_getElem? (i := 212) (by decide +kernel)) (by decide +kernel)
theorem tw_41 : (.fieldLink RX0 15 "BallotPapers$Ballot" "placeOfMark" "[I" : Cond) ∈ bm_T := bm_TT (List.mem_of_getElem? (i := 213) (by decide +kernel)) (by decide +kernel)
theorem tw_42 : (.fieldLink RX0 18 "BallotPapers$Ballot" "signOfMark" "[I" : Cond) ∈ bm_T := bm_TT (List.mem_of_getElem? (i := 214) (by decide +kernel)) (by decide +kernel)
theorem tw_43 : (.methodLink RX7 1 objectInit : Cond) ∈ bm_T := bm_TT (List.mem_of_getElem? (i := 66) (by decide +kernel)) (by decide +kernel)
theorem tw_44 : (.classLink RX7 7 RX3 : Cond) ∈ bm_T := bm_TT (List.mem_of_getElem? (i := 69) (by decide +kernel)) (by decide +kernel)
theorem tw_45 : (.methodLink RX7 9 yX3_init : Cond) ∈ bm_T := bm_TT (List.mem_of_getElem? (i := 71) (by decide +kernel)) (by decide +kernel)
theorem tw_46 : (.fieldLink RX7 10 "BallotPapers" "poll" "LBallotPapers$Poll;" : Cond) ∈ bm_T := bm_TT (List.mem_of_getElem? (i := 234) (by decide +kernel)) (by decide +kernel)
theorem tw_47 : (.classLink RX7 16 RX2 : Cond) ∈ bm_T := bm_TT (List.mem_of_getElem? (i := 121) (by decide +kernel)) (by decide +kernel)
theorem tw_48 : (.instantiable RX2 3 : Cond) ∈ bm_T := bm_TT (List.mem_of_getElem? (i := 122) (by decide +kernel)) (by decide +kernel)
theorem tw_49 : (.initialized RX2 : Cond) ∈ bm_T := bm_TT (List.mem_of_getElem? (i := 54) (by decide +kernel)) (by decide +kernel)
theorem tw_50 : (.code yX2_init cX2_init 2 none : Cond) ∈ bm_T := bm_TT (List.mem_of_getElem? (i := 125) (by decide +kernel)) (by decide +kernel)
theorem tw_51 : (.methodLink RX7 18 yX2_init : Cond) ∈ bm_T := bm_TT (List.mem_of_getElem? (i := 123) (by decide +kernel)) (by decide +kernel)
theorem tw_52 : (.instanceMethod yX2_init : Cond) ∈ bm_T := bm_TT (List.mem_of_getElem? (i := 124) (by decide +kernel)) (by decide +kernel)
theorem tw_53 : (.fieldLink RX7 19 "BallotPapers" "history" "LBallotPapers$History;" : Cond) ∈ bm_T := bm_TT (List.mem_of_getElem? (i := 235) (by decide +kernel)) (by decide +kernel)
theorem tw_54 : (.classLink RX7 23 RX5 : Cond) ∈ bm_T := bm_TT (List.mem_of_getElem? (i := 140) (by decide +kernel)) (by decide +kernel)
theorem tw_55 : (.instantiable RX5 12 : Cond) ∈ bm_T := bm_TT (List.mem_of_getElem? (i := 141) (by decide +kernel)) (by decide +kernel)
theorem tw_56 : (.initialized RX5 : Cond) ∈ bm_T := bm_TT (List.mem_of_getElem? (i := 55) (by decide +kernel)) (by decide +kernel)
theorem tw_57 : (.code yX5_init cX5_init 1 none : Cond) ∈ bm_T := bm_TT (List.mem_of_getElem? (i := 144) (by decide +kernel)) (by decide +kernel)
theorem tw_58 : (.methodLink RX7 25 yX5_init : Cond) ∈ bm_T := bm_TT (List.mem_of_getElem? (i := 142) (by decide +kernel)) (by decide +kernel)
theorem tw_59 : (.instanceMethod yX5_init : Cond) ∈ bm_T := bm_TT (List.mem_of_getElem? (i := 143) (by decide +kernel)) (by decide +kernel)
theorem tw_60 : (.fieldLink RX7 26 "BallotPapers" "sheet" "LBallotPapers$Sheet;" : Cond) ∈ bm_T := bm_TT (List.mem_of_getElem? (i := 236) (by decide +kernel)) (by decide +kernel)
theorem tw_61 : (.classLink RX7 30 RX1 : Cond) ∈ bm_T := bm_TT (List.mem_of_getElem? (i := 183) (by decide +kernel)) (by decide +kernel)
theorem tw_62 : (.instantiable RX1 1 : Cond) ∈ bm_T := bm_TT (List.mem_of_getElem? (i := 184) (by decide +kernel)) (by decide +kernel)
theorem tw_63 : (.initialized RX1 : Cond) ∈ bm_T := bm_TT (List.mem_of_getElem? (i := 56) (by decide +kernel)) (by decide +kernel)
theorem tw_64 : (.code yX1_init cX1_init 1 none : Cond) ∈ bm_T := bm_TT (List.mem_of_getElem? (i := 187) (by decide +kernel)) (by decide +kernel)
theorem tw_65 : (.methodLink RX7 32 yX1_init : Cond) ∈ bm_T := bm_TT (List.mem_of_getElem? (i := 185) (by decide +kernel)) (by decide +kernel)
theorem tw_66 : (.instanceMethod yX1_init : Cond) ∈ bm_T := bm_TT (List.mem_of_getElem? (i := 186) (by decide +kernel)) (by decide +kernel)
theorem tw_67 : (.fieldLink RX7 33 "BallotPapers" "firsts" "LBallotPapers$Firsts;" : Cond) ∈ bm_T := bm_TT (List.mem_of_getElem? (i := 237) (by decide +kernel)) (by decide +kernel)
theorem tw_68 : (.classLink RX7 37 RX6 : Cond) ∈ bm_T := bm_TT (List.mem_of_getElem? (i := 193) (by decide +kernel)) (by decide +kernel)
theorem tw_69 : (.instantiable RX6 2 : Cond) ∈ bm_T := bm_TT (List.mem_of_getElem? (i := 194) (by decide +kernel)) (by decide +kernel)
theorem tw_70 : (.initialized RX6 : Cond) ∈ bm_T := bm_TT (List.mem_of_getElem? (i := 57) (by decide +kernel)) (by decide +kernel)
theorem tw_71 : (.code yX6_init cX6_init 1 none : Cond) ∈ bm_T := bm_TT (List.mem_of_getElem? (i := 197) (by decide +kernel)) (by decide +kernel)
theorem tw_72 : (.methodLink RX7 39 yX6_init : Cond) ∈ bm_T := bm_TT (List.mem_of_getElem? (i := 195) (by decide +kernel)) (by decide +kernel)
theorem tw_73 : (.instanceMethod yX6_init : Cond) ∈ bm_T := bm_TT (List.mem_of_getElem? (i := 196) (by decide +kernel)) (by decide +kernel)
theorem tw_74 : (.fieldLink RX7 40 "BallotPapers" "text" "LBallotPapers$Text;" : Cond) ∈ bm_T := bm_TT (List.mem_of_getElem? (i := 238) (by decide +kernel)) (by decide +kernel)
theorem tw_75 : (.classLink RX7 44 RX0 : Cond) ∈ bm_T := bm_TT (List.mem_of_getElem? (i := 206) (by decide +kernel)) (by decide +kernel)
theorem tw_76 : (.instantiable RX0 7 : Cond) ∈ bm_T := bm_TT (List.mem_of_getElem? (i := 207) (by decide +kernel)) (by decide +kernel)
theorem tw_77 : (.initialized RX0 : Cond) ∈ bm_T := bm_TT (List.mem_of_getElem? (i := 58) (by decide +kernel)) (by decide +kernel)
theorem tw_78 : (.code yX0_init cX0_init 1 none : Cond) ∈ bm_T := bm_TT (List.mem_of_getElem? (i := 210) (by decide +kernel)) (by decide +kernel)
theorem tw_79 : (.methodLink RX7 46 yX0_init : Cond) ∈ bm_T := bm_TT (List.mem_of_getElem? (i := 208) (by decide +kernel)) (by decide +kernel)
theorem tw_80 : (.instanceMethod yX0_init : Cond) ∈ bm_T := bm_TT (List.mem_of_getElem? (i := 209) (by decide +kernel)) (by decide +kernel)
theorem tw_81 : (.fieldLink RX7 47 "BallotPapers" "ballot" "LBallotPapers$Ballot;" : Cond) ∈ bm_T := bm_TT (List.mem_of_getElem? (i := 239) (by decide +kernel)) (by decide +kernel)
theorem tw_82 : (.methodLink RX8 1 objectInit : Cond) ∈ bm_T := bm_TT (List.mem_of_getElem? (i := 745) (by decide +kernel)) (by decide +kernel)
theorem tw_83 : (.fieldLink RX8 7 "BallotPapersModel" "s" "[I" : Cond) ∈ bm_T := bm_TT (List.mem_of_getElem? (i := 746) (by decide +kernel)) (by decide +kernel)
theorem tw_84 : (.fieldLink RX8 13 "BallotPapersModel" "past" "[I" : Cond) ∈ bm_T := bm_TT (List.mem_of_getElem? (i := 747) (by decide +kernel)) (by decide +kernel)
theorem tw_85 : (.fieldLink RX8 16 "BallotPapersModel" "text" "[I" : Cond) ∈ bm_T := bm_TT (List.mem_of_getElem? (i := 749) (by decide +kernel)) (by decide +kernel)
theorem tw_86 : (.fieldLink RX8 19 "BallotPapersModel" "columnOf" "[I" : Cond) ∈ bm_T := bm_TT (List.mem_of_getElem? (i := 751) (by decide +kernel)) (by decide +kernel)
theorem tw_87 : (.fieldLink RX8 22 "BallotPapersModel" "lineOf" "[I" : Cond) ∈ bm_T := bm_TT (List.mem_of_getElem? (i := 752) (by decide +kernel)) (by decide +kernel)
theorem tw_88 : (.fieldLink RX8 25 "BallotPapersModel" "spots" "[I" : Cond) ∈ bm_T := bm_TT (List.mem_of_getElem? (i := 762) (by decide +kernel)) (by decide +kernel)
theorem tw_89 : (.fieldLink RX8 28 "BallotPapersModel" "markContest" "[I" : Cond) ∈ bm_T := bm_TT (List.mem_of_getElem? (i := 763) (by decide +kernel)) (by decide +kernel)
theorem tw_90 : (.fieldLink RX8 31 "BallotPapersModel" "markPlace" "[I" : Cond) ∈ bm_T := bm_TT (List.mem_of_getElem? (i := 764) (by decide +kernel)) (by decide +kernel)
theorem tw_91 : (.fieldLink RX3 51 "BallotPapers$Poll" "contests" "I" : Cond) ∈ bm_T := bm_TT (List.mem_of_getElem? (i := 83) (by decide +kernel)) (by decide +kernel)
theorem tw_92 : (.fieldLink RX3 55 "BallotPapers$Poll" "ballots" "I" : Cond) ∈ bm_T := bm_TT (List.mem_of_getElem? (i := 84) (by decide +kernel)) (by decide +kernel)
theorem tw_93 : (.fieldLink RX2 18 "BallotPapers$History" "kept" "I" : Cond) ∈ bm_T := bm_TT (List.mem_of_getElem? (i := 132) (by decide +kernel)) (by decide +kernel)
theorem tw_94 : (.fieldLink RX2 22 "BallotPapers$History" "oldest" "I" : Cond) ∈ bm_T := bm_TT (List.mem_of_getElem? (i := 131) (by decide +kernel)) (by decide +kernel)
theorem tw_95 : (.code yX2_stateAt cX2_stateAt 2 (some (.object "BallotPapers$Poll")) : Cond) ∈ bm_T := bm_TT (List.mem_of_getElem? (i := 271) (by decide +kernel)) (by decide +kernel)
theorem tw_96 : (.methodLink RX2 25 yX2_stateAt : Cond) ∈ bm_T := bm_TT (List.mem_of_getElem? (i := 268) (by decide +kernel)) (by decide +kernel)
theorem tw_97 : (.instanceMethod yX2_stateAt : Cond) ∈ bm_T := bm_TT (List.mem_of_getElem? (i := 270) (by decide +kernel)) (by decide +kernel)
theorem tw_98 : (.selects RX2 yX2_stateAt yX2_stateAt : Cond) ∈ bm_T := bm_TT (List.mem_of_getElem? (i := 0) (by decide +kernel)) (by decide +kernel)
theorem tw_99 : (.code yX3_become cX3_become 2 none : Cond) ∈ bm_T := bm_TT (List.mem_of_getElem? (i := 275) (by decide +kernel)) (by decide +kernel)
theorem tw_100 : (.methodLink RX2 29 yX3_become : Cond) ∈ bm_T := bm_TT (List.mem_of_getElem? (i := 272) (by decide +kernel)) (by decide +kernel)
theorem tw_101 : (.instanceMethod yX3_become : Cond) ∈ bm_T := bm_TT (List.mem_of_getElem? (i := 273) (by decide +kernel)) (by decide +kernel)
theorem tw_102 : (.selects RX3 yX3_become yX3_become : Cond) ∈ bm_T := bm_TT (List.mem_of_getElem? (i := 274) (by decide +kernel)) (by decide +kernel)
theorem tw_103 : (.code yX4_put cX4_put 3 none : Cond) ∈ bm_T := bm_TT (List.mem_of_getElem? (i := 282) (by decide +kernel)) (by decide +kernel)
theorem tw_104 : (.methodLink RX3 58 yX4_put : Cond) ∈ bm_T := bm_TT (List.mem_of_getElem? (i := 280) (by decide +kernel)) (by decide +kernel)
theorem tw_105 : (.static yX4_put : Cond) ∈ bm_T := bm_TT (List.mem_of_getElem? (i := 281) (by decide +kernel)) (by decide +kernel)
theorem tw_106 : (.initialized RX7 : Cond) ∈ bm_T := bm_TT (List.mem_of_getElem? (i := 50) (by decide +kernel)) (by decide +kernel)
theorem tw_107 : (.code yX7_within cX7_within 3 (some .boolean) : Cond) ∈ bm_T := bm_TT (List.mem_of_getElem? (i := 259) (by decide +kernel)) (by decide +kernel)
theorem tw_108 : (.methodLink RX7 51 yX7_within : Cond) ∈ bm_T := bm_TT (List.mem_of_getElem? (i := 257) (by decide +kernel)) (by decide +kernel)
theorem tw_109 : (.static yX7_within : Cond) ∈ bm_T := bm_TT (List.mem_of_getElem? (i := 258) (by decide +kernel)) (by decide +kernel)
theorem tw_110 : (.code yX3_contests cX3_contests 1 (some .int) : Cond) ∈ bm_T := bm_TT (List.mem_of_getElem? (i := 263) (by decide +kernel)) (by decide +kernel)
theorem tw_111 : (.methodLink RX7 55 yX3_contests : Cond) ∈ bm_T := bm_TT (List.mem_of_getElem? (i := 260) (by decide +kernel)) (by decide +kernel)
theorem tw_112 : (.instanceMethod yX3_contests : Cond) ∈ bm_T := bm_TT (List.mem_of_getElem? (i := 261) (by decide +kernel)) (by decide +kernel)
theorem tw_113 : (.selects RX3 yX3_contests yX3_contests : Cond) ∈ bm_T := bm_TT (List.mem_of_getElem? (i := 262) (by decide +kernel)) (by decide +kernel)
theorem tw_114 : (.code yX2_keep cX2_keep 3 none : Cond) ∈ bm_T := bm_TT (List.mem_of_getElem? (i := 267) (by decide +kernel)) (by decide +kernel)
theorem tw_115 : (.methodLink RX7 59 yX2_keep : Cond) ∈ bm_T := bm_TT (List.mem_of_getElem? (i := 264) (by decide +kernel)) (by decide +kernel)
theorem tw_116 : (.instanceMethod yX2_keep : Cond) ∈ bm_T := bm_TT (List.mem_of_getElem? (i := 265) (by decide +kernel)) (by decide +kernel)
theorem tw_117 : (.selects RX2 yX2_keep yX2_keep : Cond) ∈ bm_T := bm_TT (List.mem_of_getElem? (i := 266) (by decide +kernel)) (by decide +kernel)
theorem tw_118 : (.code yX3_addContest cX3_addContest 4 (some .int) : Cond) ∈ bm_T := bm_TT (List.mem_of_getElem? (i := 279) (by decide +kernel)) (by decide +kernel)
theorem tw_119 : (.methodLink RX7 63 yX3_addContest : Cond) ∈ bm_T := bm_TT (List.mem_of_getElem? (i := 276) (by decide +kernel)) (by decide +kernel)
theorem tw_120 : (.instanceMethod yX3_addContest : Cond) ∈ bm_T := bm_TT (List.mem_of_getElem? (i := 277) (by decide +kernel)) (by decide +kernel)
theorem tw_121 : (.selects RX3 yX3_addContest yX3_addContest : Cond) ∈ bm_T := bm_TT (List.mem_of_getElem? (i := 278) (by decide +kernel)) (by decide +kernel)
theorem tw_122 : (.fieldLink RX8 34 "BallotPapersModel" "pasts" "I" : Cond) ∈ bm_T := bm_TT (List.mem_of_getElem? (i := 748) (by decide +kernel)) (by decide +kernel)
theorem tw_123 : (.initialized RX8 : Cond) ∈ bm_T := bm_TT (List.mem_of_getElem? (i := 59) (by decide +kernel)) (by decide +kernel)
theorem tw_124 : (.code yX8_in cX8_in 3 (some .boolean) : Cond) ∈ bm_T := bm_TT (List.mem_of_getElem? (i := 810) (by decide +kernel)) (by decide +kernel)
theorem tw_125 : (.methodLink RX8 46 yX8_in : Cond) ∈ bm_T := bm_TT (List.mem_of_getElem? (i := 808) (by decide +kernel)) (by decide +kernel)
theorem tw_126 : (.static yX8_in : Cond) ∈ bm_T := bm_TT (List.mem_of_getElem? (i := 809) (by decide +kernel)) (by decide +kernel)
theorem tw_127 : (.code yX8_changes cX8_changes 2 none : Cond) ∈ bm_T := bm_TT (List.mem_of_getElem? (i := 814) (by decide +kernel)) (by decide +kernel)
theorem tw_128 : (.methodLink RX8 50 yX8_changes : Cond) ∈ bm_T := bm_TT (List.mem_of_getElem? (i := 811) (by decide +kernel)) (by decide +kernel)
theorem tw_129 : (.instanceMethod yX8_changes : Cond) ∈ bm_T := bm_TT (List.mem_of_getElem? (i := 813) (by decide +kernel)) (by decide +kernel)
theorem tw_130 : (.selects RX8 yX8_changes yX8_changes : Cond) ∈ bm_T := bm_TT (List.mem_of_getElem? (i := 19) (by decide +kernel)) (by decide +kernel)
theorem tw_131 : (.code yX4_get cX4_get 2 (some .int) : Cond) ∈ bm_T := bm_TT (List.mem_of_getElem? (i := 302) (by decide +kernel)) (by decide +kernel)
theorem tw_132 : (.methodLink RX3 108 yX4_get : Cond) ∈ bm_T := bm_TT (List.mem_of_getElem? (i := 300) (by decide +kernel)) (by decide +kernel)
theorem tw_133 : (.static yX4_get : Cond) ∈ bm_T := bm_TT (List.mem_of_getElem? (i := 301) (by decide +kernel)) (by decide +kernel)
theorem tw_134 : (.methodLink RX4 7 yX4_get : Cond) ∈ bm_T := bm_TT (List.mem_of_getElem? (i := 314) (by decide +kernel)) (by decide +kernel)
theorem tw_135 : (.methodLink RX4 13 yX4_put : Cond) ∈ bm_T := bm_TT (List.mem_of_getElem? (i := 315) (by decide +kernel)) (by decide +kernel)
theorem tw_136 : (.code yX3_namesIn cX3_namesIn 2 (some .int) : Cond) ∈ bm_T := bm_TT (List.mem_of_getElem? (i := 299) (by decide +kernel)) (by decide +kernel)
theorem tw_137 : (.methodLink RX3 62 yX3_namesIn : Cond) ∈ bm_T := bm_TT (List.mem_of_getElem? (i := 307) (by decide +kernel)) (by decide +kernel)
theorem tw_138 : (.instanceMethod yX3_namesIn : Cond) ∈ bm_T := bm_TT (List.mem_of_getElem? (i := 297) (by decide +kernel)) (by decide +kernel)
theorem tw_139 : (.selects RX3 yX3_namesIn yX3_namesIn : Cond) ∈ bm_T := bm_TT (List.mem_of_getElem? (i := 298) (by decide +kernel)) (by decide +kernel)
theorem tw_140 : (.code yX3_slot cX3_slot 2 (some .int) : Cond) ∈ bm_T := bm_TT (List.mem_of_getElem? (i := 310) (by decide +kernel)) (by decide +kernel)
theorem tw_141 : (.methodLink RX3 66 yX3_slot : Cond) ∈ bm_T := bm_TT (List.mem_of_getElem? (i := 308) (by decide +kernel)) (by decide +kernel)
theorem tw_142 : (.static yX3_slot : Cond) ∈ bm_T := bm_TT (List.mem_of_getElem? (i := 309) (by decide +kernel)) (by decide +kernel)
theorem tw_143 : (.code yX4_add cX4_add 3 none : Cond) ∈ bm_T := bm_TT (List.mem_of_getElem? (i := 313) (by decide +kernel)) (by decide +kernel)
theorem tw_144 : (.methodLink RX3 70 yX4_add : Cond) ∈ bm_T := bm_TT (List.mem_of_getElem? (i := 311) (by decide +kernel)) (by decide +kernel)
theorem tw_145 : (.static yX4_add : Cond) ∈ bm_T := bm_TT (List.mem_of_getElem? (i := 312) (by decide +kernel)) (by decide +kernel)
theorem tw_146 : (.code yX3_hasContest cX3_hasContest 2 (some .boolean) : Cond) ∈ bm_T := bm_TT (List.mem_of_getElem? (i := 290) (by decide +kernel)) (by decide +kernel)
theorem tw_147 : (.methodLink RX7 67 yX3_hasContest : Cond) ∈ bm_T := bm_TT (List.mem_of_getElem? (i := 287) (by decide +kernel)) (by decide +kernel)
theorem tw_148 : (.instanceMethod yX3_hasContest : Cond) ∈ bm_T := bm_TT (List.mem_of_getElem? (i := 288) (by decide +kernel)) (by decide +kernel)
theorem tw_149 : (.selects RX3 yX3_hasContest yX3_hasContest : Cond) ∈ bm_T := bm_TT (List.mem_of_getElem? (i := 289) (by decide +kernel)) (by decide +kernel)
theorem tw_150 : (.code yX3_ballots cX3_ballots 1 (some .int) : Cond) ∈ bm_T := bm_TT (List.mem_of_getElem? (i := 295) (by decide +kernel)) (by decide +kernel)
theorem tw_151 : (.methodLink RX7 71 yX3_ballots : Cond) ∈ bm_T := bm_TT (List.mem_of_getElem? (i := 292) (by decide +kernel)) (by decide +kernel)
theorem tw_152 : (.instanceMethod yX3_ballots : Cond) ∈ bm_T := bm_TT (List.mem_of_getElem? (i := 293) (by decide +kernel)) (by decide +kernel)
theorem tw_153 : (.selects RX3 yX3_ballots yX3_ballots : Cond) ∈ bm_T := bm_TT (List.mem_of_getElem? (i := 294) (by decide +kernel)) (by decide +kernel)
theorem tw_154 : (.methodLink RX7 74 yX3_namesIn : Cond) ∈ bm_T := bm_TT (List.mem_of_getElem? (i := 296) (by decide +kernel)) (by decide +kernel)
theorem tw_155 : (.code yX3_addName cX3_addName 4 (some .int) : Cond) ∈ bm_T := bm_TT (List.mem_of_getElem? (i := 306) (by decide +kernel)) (by decide +kernel)
theorem tw_156 : (.methodLink RX7 78 yX3_addName : Cond) ∈ bm_T := bm_TT (List.mem_of_getElem? (i := 303) (by decide +kernel)) (by decide +kernel)
theorem tw_157 : (.instanceMethod yX3_addName : Cond) ∈ bm_T := bm_TT (List.mem_of_getElem? (i := 304) (by decide +kernel)) (by decide +kernel)
theorem tw_158 : (.selects RX3 yX3_addName yX3_addName : Cond) ∈ bm_T := bm_TT (List.mem_of_getElem? (i := 305) (by decide +kernel)) (by decide +kernel)
theorem tw_159 : (.code yX8_isContest cX8_isContest 2 (some .boolean) : Cond) ∈ bm_T := bm_TT (List.mem_of_getElem? (i := 822) (by decide +kernel)) (by decide +kernel)
theorem tw_160 : (.methodLink RX8 38 yX8_isContest : Cond) ∈ bm_T := bm_TT (List.mem_of_getElem? (i := 819) (by decide +kernel)) (by decide +kernel)
theorem tw_161 : (.instanceMethod yX8_isContest : Cond) ∈ bm_T := bm_TT (List.mem_of_getElem? (i := 821) (by decide +kernel)) (by decide +kernel)
theorem tw_162 : (.selects RX8 yX8_isContest yX8_isContest : Cond) ∈ bm_T := bm_TT (List.mem_of_getElem? (i := 20) (by decide +kernel)) (by decide +kernel)
theorem tw_163 : (.code yX8_of cX8_of 3 (some .int) : Cond) ∈ bm_T := bm_TT (List.mem_of_getElem? (i := 826) (by decide +kernel)) (by decide +kernel)
theorem tw_164 : (.methodLink RX8 42 yX8_of : Cond) ∈ bm_T := bm_TT (List.mem_of_getElem? (i := 823) (by decide +kernel)) (by decide +kernel)
theorem tw_165 : (.instanceMethod yX8_of : Cond) ∈ bm_T := bm_TT (List.mem_of_getElem? (i := 825) (by decide +kernel)) (by decide +kernel)
theorem tw_166 : (.selects RX8 yX8_of yX8_of : Cond) ∈ bm_T := bm_TT (List.mem_of_getElem? (i := 21) (by decide +kernel)) (by decide +kernel)
theorem tw_167 : (.code yX3_wayOf cX3_wayOf 2 (some .int) : Cond) ∈ bm_T := bm_TT (List.mem_of_getElem? (i := 327) (by decide +kernel)) (by decide +kernel)
theorem tw_168 : (.methodLink RX3 73 yX3_wayOf : Cond) ∈ bm_T := bm_TT (List.mem_of_getElem? (i := 324) (by decide +kernel)) (by decide +kernel)
theorem tw_169 : (.instanceMethod yX3_wayOf : Cond) ∈ bm_T := bm_TT (List.mem_of_getElem? (i := 325) (by decide +kernel)) (by decide +kernel)
theorem tw_170 : (.selects RX3 yX3_wayOf yX3_wayOf : Cond) ∈ bm_T := bm_TT (List.mem_of_getElem? (i := 326) (by decide +kernel)) (by decide +kernel)
theorem tw_171 : (.code yX3_turnBy cX3_turnBy 4 (some .int) : Cond) ∈ bm_T := bm_TT (List.mem_of_getElem? (i := 323) (by decide +kernel)) (by decide +kernel)
theorem tw_172 : (.methodLink RX7 81 yX3_turnBy : Cond) ∈ bm_T := bm_TT (List.mem_of_getElem? (i := 320) (by decide +kernel)) (by decide +kernel)
theorem tw_173 : (.instanceMethod yX3_turnBy : Cond) ∈ bm_T := bm_TT (List.mem_of_getElem? (i := 321) (by decide +kernel)) (by decide +kernel)
theorem tw_174 : (.selects RX3 yX3_turnBy yX3_turnBy : Cond) ∈ bm_T := bm_TT (List.mem_of_getElem? (i := 322) (by decide +kernel)) (by decide +kernel)
theorem tw_175 : (.code yX3_setting cX3_setting 2 (some .int) : Cond) ∈ bm_T := bm_TT (List.mem_of_getElem? (i := 339) (by decide +kernel)) (by decide +kernel)
theorem tw_176 : (.methodLink RX3 79 yX3_setting : Cond) ∈ bm_T := bm_TT (List.mem_of_getElem? (i := 336) (by decide +kernel)) (by decide +kernel)
theorem tw_177 : (.instanceMethod yX3_setting : Cond) ∈ bm_T := bm_TT (List.mem_of_getElem? (i := 337) (by decide +kernel)) (by decide +kernel)
theorem tw_178 : (.selects RX3 yX3_setting yX3_setting : Cond) ∈ bm_T := bm_TT (List.mem_of_getElem? (i := 338) (by decide +kernel)) (by decide +kernel)
theorem tw_179 : (.code yX3_papersIn cX3_papersIn 2 (some .int) : Cond) ∈ bm_T := bm_TT (List.mem_of_getElem? (i := 347) (by decide +kernel)) (by decide +kernel)
theorem tw_180 : (.methodLink RX3 76 yX3_papersIn : Cond) ∈ bm_T := bm_TT (List.mem_of_getElem? (i := 344) (by decide +kernel)) (by decide +kernel)
theorem tw_181 : (.instanceMethod yX3_papersIn : Cond) ∈ bm_T := bm_TT (List.mem_of_getElem? (i := 345) (by decide +kernel)) (by decide +kernel)
theorem tw_182 : (.selects RX3 yX3_papersIn yX3_papersIn : Cond) ∈ bm_T := bm_TT (List.mem_of_getElem? (i := 346) (by decide +kernel)) (by decide +kernel)
theorem tw_183 : (.code yX3_hasVersion cX3_hasVersion 2 (some .boolean) : Cond) ∈ bm_T := bm_TT (List.mem_of_getElem? (i := 335) (by decide +kernel)) (by decide +kernel)
theorem tw_184 : (.methodLink RX7 84 yX3_hasVersion : Cond) ∈ bm_T := bm_TT (List.mem_of_getElem? (i := 332) (by decide +kernel)) (by decide +kernel)
theorem tw_185 : (.instanceMethod yX3_hasVersion : Cond) ∈ bm_T := bm_TT (List.mem_of_getElem? (i := 333) (by decide +kernel)) (by decide +kernel)
theorem tw_186 : (.selects RX3 yX3_hasVersion yX3_hasVersion : Cond) ∈ bm_T := bm_TT (List.mem_of_getElem? (i := 334) (by decide +kernel)) (by decide +kernel)
theorem tw_187 : (.code yX3_printPapers cX3_printPapers 4 (some .int) : Cond) ∈ bm_T := bm_TT (List.mem_of_getElem? (i := 343) (by decide +kernel)) (by decide +kernel)
theorem tw_188 : (.methodLink RX7 87 yX3_printPapers : Cond) ∈ bm_T := bm_TT (List.mem_of_getElem? (i := 340) (by decide +kernel)) (by decide +kernel)
theorem tw_189 : (.instanceMethod yX3_printPapers : Cond) ∈ bm_T := bm_TT (List.mem_of_getElem? (i := 341) (by decide +kernel)) (by decide +kernel)
theorem tw_190 : (.selects RX3 yX3_printPapers yX3_printPapers : Cond) ∈ bm_T := bm_TT (List.mem_of_getElem? (i := 342) (by decide +kernel)) (by decide +kernel)
theorem tw_191 : (.code yX8_isVersion cX8_isVersion 2 (some .boolean) : Cond) ∈ bm_T := bm_TT (List.mem_of_getElem? (i := 838) (by decide +kernel)) (by decide +kernel)
theorem tw_192 : (.methodLink RX8 53 yX8_isVersion : Cond) ∈ bm_T := bm_TT (List.mem_of_getElem? (i := 835) (by decide +kernel)) (by decide +kernel)
theorem tw_193 : (.instanceMethod yX8_isVersion : Cond) ∈ bm_T := bm_TT (List.mem_of_getElem? (i := 837) (by decide +kernel)) (by decide +kernel)
theorem tw_194 : (.selects RX8 yX8_isVersion yX8_isVersion : Cond) ∈ bm_T := bm_TT (List.mem_of_getElem? (i := 22) (by decide +kernel)) (by decide +kernel)
theorem tw_195 : (.fieldLink RX7 235 "BallotPapers" "LEAST" "[I" : Cond) ∈ bm_T := bm_TT (List.mem_of_getElem? (i := 355) (by decide +kernel)) (by decide +kernel)
theorem tw_196 : (.methodLink RX7 239 yX4_get : Cond) ∈ bm_T := bm_TT (List.mem_of_getElem? (i := 357) (by decide +kernel)) (by decide +kernel)
theorem tw_197 : (.fieldLink RX7 245 "BallotPapers" "MOST" "[I" : Cond) ∈ bm_T := bm_TT (List.mem_of_getElem? (i := 358) (by decide +kernel)) (by decide +kernel)
theorem tw_198 : (.code yX4_wipe cX4_wipe 3 none : Cond) ∈ bm_T := bm_TT (List.mem_of_getElem? (i := 366) (by decide +kernel)) (by decide +kernel)
theorem tw_199 : (.methodLink RX3 82 yX4_wipe : Cond) ∈ bm_T := bm_TT (List.mem_of_getElem? (i := 364) (by decide +kernel)) (by decide +kernel)
theorem tw_200 : (.static yX4_wipe : Cond) ∈ bm_T := bm_TT (List.mem_of_getElem? (i := 365) (by decide +kernel)) (by decide +kernel)
theorem tw_201 : (.code yX7_allowed cX7_allowed 2 (some .boolean) : Cond) ∈ bm_T := bm_TT (List.mem_of_getElem? (i := 354) (by decide +kernel)) (by decide +kernel)
theorem tw_202 : (.methodLink RX7 90 yX7_allowed : Cond) ∈ bm_T := bm_TT (List.mem_of_getElem? (i := 352) (by decide +kernel)) (by decide +kernel)
theorem tw_203 : (.static yX7_allowed : Cond) ∈ bm_T := bm_TT (List.mem_of_getElem? (i := 353) (by decide +kernel)) (by decide +kernel)
theorem tw_204 : (.code yX3_change cX3_change 4 (some .int) : Cond) ∈ bm_T := bm_TT (List.mem_of_getElem? (i := 363) (by decide +kernel)) (by decide +kernel)
theorem tw_205 : (.methodLink RX7 94 yX3_change : Cond) ∈ bm_T := bm_TT (List.mem_of_getElem? (i := 360) (by decide +kernel)) (by decide +kernel)
theorem tw_206 : (.instanceMethod yX3_change : Cond) ∈ bm_T := bm_TT (List.mem_of_getElem? (i := 361) (by decide +kernel)) (by decide +kernel)
theorem tw_207 : (.selects RX3 yX3_change yX3_change : Cond) ∈ bm_T := bm_TT (List.mem_of_getElem? (i := 362) (by decide +kernel)) (by decide +kernel)
theorem tw_208 : (.code yX8_isSetting cX8_isSetting 2 (some .boolean) : Cond) ∈ bm_T := bm_TT (List.mem_of_getElem? (i := 845) (by decide +kernel)) (by decide +kernel)
theorem tw_209 : (.methodLink RX8 56 yX8_isSetting : Cond) ∈ bm_T := bm_TT (List.mem_of_getElem? (i := 843) (by decide +kernel)) (by decide +kernel)
theorem tw_210 : (.static yX8_isSetting : Cond) ∈ bm_T := bm_TT (List.mem_of_getElem? (i := 844) (by decide +kernel)) (by decide +kernel)
theorem tw_211 : (.code yX3_forgetVotes cX3_forgetVotes 2 (some .int) : Cond) ∈ bm_T := bm_TT (List.mem_of_getElem? (i := 374) (by decide +kernel)) (by decide +kernel)
theorem tw_212 : (.methodLink RX7 97 yX3_forgetVotes : Cond) ∈ bm_T := bm_TT (List.mem_of_getElem? (i := 371) (by decide +kernel)) (by decide +kernel)
theorem tw_213 : (.instanceMethod yX3_forgetVotes : Cond) ∈ bm_T := bm_TT (List.mem_of_getElem? (i := 372) (by decide +kernel)) (by decide +kernel)
theorem tw_214 : (.selects RX3 yX3_forgetVotes yX3_forgetVotes : Cond) ∈ bm_T := bm_TT (List.mem_of_getElem? (i := 373) (by decide +kernel)) (by decide +kernel)
theorem tw_215 : (.code yX4_sum cX4_sum 5 (some .int) : Cond) ∈ bm_T := bm_TT (List.mem_of_getElem? (i := 394) (by decide +kernel)) (by decide +kernel)
theorem tw_216 : (.methodLink RX3 112 yX4_sum : Cond) ∈ bm_T := bm_TT (List.mem_of_getElem? (i := 392) (by decide +kernel)) (by decide +kernel)
theorem tw_217 : (.static yX4_sum : Cond) ∈ bm_T := bm_TT (List.mem_of_getElem? (i := 393) (by decide +kernel)) (by decide +kernel)
theorem tw_218 : (.code yX3_titleOf cX3_titleOf 2 (some .int) : Cond) ∈ bm_T := bm_TT (List.mem_of_getElem? (i := 382) (by decide +kernel)) (by decide +kernel)
theorem tw_219 : (.methodLink RX7 100 yX3_titleOf : Cond) ∈ bm_T := bm_TT (List.mem_of_getElem? (i := 379) (by decide +kernel)) (by decide +kernel)
theorem tw_220 : (.instanceMethod yX3_titleOf : Cond) ∈ bm_T := bm_TT (List.mem_of_getElem? (i := 380) (by decide +kernel)) (by decide +kernel)
theorem tw_221 : (.selects RX3 yX3_titleOf yX3_titleOf : Cond) ∈ bm_T := bm_TT (List.mem_of_getElem? (i := 381) (by decide +kernel)) (by decide +kernel)
theorem tw_222 : (.code yX3_seatsOf cX3_seatsOf 2 (some .int) : Cond) ∈ bm_T := bm_TT (List.mem_of_getElem? (i := 386) (by decide +kernel)) (by decide +kernel)
theorem tw_223 : (.methodLink RX7 103 yX3_seatsOf : Cond) ∈ bm_T := bm_TT (List.mem_of_getElem? (i := 383) (by decide +kernel)) (by decide +kernel)
theorem tw_224 : (.instanceMethod yX3_seatsOf : Cond) ∈ bm_T := bm_TT (List.mem_of_getElem? (i := 384) (by decide +kernel)) (by decide +kernel)
theorem tw_225 : (.selects RX3 yX3_seatsOf yX3_seatsOf : Cond) ∈ bm_T := bm_TT (List.mem_of_getElem? (i := 385) (by decide +kernel)) (by decide +kernel)
theorem tw_226 : (.methodLink RX7 106 yX3_wayOf : Cond) ∈ bm_T := bm_TT (List.mem_of_getElem? (i := 387) (by decide +kernel)) (by decide +kernel)
theorem tw_227 : (.code yX3_votesIn cX3_votesIn 2 (some .int) : Cond) ∈ bm_T := bm_TT (List.mem_of_getElem? (i := 391) (by decide +kernel)) (by decide +kernel)
theorem tw_228 : (.methodLink RX7 109 yX3_votesIn : Cond) ∈ bm_T := bm_TT (List.mem_of_getElem? (i := 388) (by decide +kernel)) (by decide +kernel)
theorem tw_229 : (.instanceMethod yX3_votesIn : Cond) ∈ bm_T := bm_TT (List.mem_of_getElem? (i := 389) (by decide +kernel)) (by decide +kernel)
theorem tw_230 : (.selects RX3 yX3_votesIn yX3_votesIn : Cond) ∈ bm_T := bm_TT (List.mem_of_getElem? (i := 390) (by decide +kernel)) (by decide +kernel)
theorem tw_231 : (.code yX3_spoiltIn cX3_spoiltIn 2 (some .int) : Cond) ∈ bm_T := bm_TT (List.mem_of_getElem? (i := 398) (by decide +kernel)) (by decide +kernel)
theorem tw_232 : (.methodLink RX7 112 yX3_spoiltIn : Cond) ∈ bm_T := bm_TT (List.mem_of_getElem? (i := 395) (by decide +kernel)) (by decide +kernel)
theorem tw_233 : (.instanceMethod yX3_spoiltIn : Cond) ∈ bm_T := bm_TT (List.mem_of_getElem? (i := 396) (by decide +kernel)) (by decide +kernel)
theorem tw_234 : (.selects RX3 yX3_spoiltIn yX3_spoiltIn : Cond) ∈ bm_T := bm_TT (List.mem_of_getElem? (i := 397) (by decide +kernel)) (by decide +kernel)
theorem tw_235 : (.code yX3_blankIn cX3_blankIn 2 (some .int) : Cond) ∈ bm_T := bm_TT (List.mem_of_getElem? (i := 402) (by decide +kernel)) (by decide +kernel)
theorem tw_236 : (.methodLink RX7 115 yX3_blankIn : Cond) ∈ bm_T := bm_TT (List.mem_of_getElem? (i := 399) (by decide +kernel)) (by decide +kernel)
theorem tw_237 : (.instanceMethod yX3_blankIn : Cond) ∈ bm_T := bm_TT (List.mem_of_getElem? (i := 400) (by decide +kernel)) (by decide +kernel)
theorem tw_238 : (.selects RX3 yX3_blankIn yX3_blankIn : Cond) ∈ bm_T := bm_TT (List.mem_of_getElem? (i := 401) (by decide +kernel)) (by decide +kernel)
theorem tw_239 : (.code yX8_votesOf cX8_votesOf 3 (some .int) : Cond) ∈ bm_T := bm_TT (List.mem_of_getElem? (i := 861) (by decide +kernel)) (by decide +kernel)
theorem tw_240 : (.methodLink RX8 106 yX8_votesOf : Cond) ∈ bm_T := bm_TT (List.mem_of_getElem? (i := 858) (by decide +kernel)) (by decide +kernel)
theorem tw_241 : (.instanceMethod yX8_votesOf : Cond) ∈ bm_T := bm_TT (List.mem_of_getElem? (i := 860) (by decide +kernel)) (by decide +kernel)
theorem tw_242 : (.selects RX8 yX8_votesOf yX8_votesOf : Cond) ∈ bm_T := bm_TT (List.mem_of_getElem? (i := 24) (by decide +kernel)) (by decide +kernel)
theorem tw_243 : (.code yX8_votesIn cX8_votesIn 4 (some .int) : Cond) ∈ bm_T := bm_TT (List.mem_of_getElem? (i := 857) (by decide +kernel)) (by decide +kernel)
theorem tw_244 : (.methodLink RX8 109 yX8_votesIn : Cond) ∈ bm_T := bm_TT (List.mem_of_getElem? (i := 854) (by decide +kernel)) (by decide +kernel)
theorem tw_245 : (.instanceMethod yX8_votesIn : Cond) ∈ bm_T := bm_TT (List.mem_of_getElem? (i := 856) (by decide +kernel)) (by decide +kernel)
theorem tw_246 : (.selects RX8 yX8_votesIn yX8_votesIn : Cond) ∈ bm_T := bm_TT (List.mem_of_getElem? (i := 23) (by decide +kernel)) (by decide +kernel)
theorem tw_247 : (.methodLink RX3 94 yX3_hasContest : Cond) ∈ bm_T := bm_TT (List.mem_of_getElem? (i := 411) (by decide +kernel)) (by decide +kernel)
theorem tw_248 : (.methodLink RX1 15 yX4_wipe : Cond) ∈ bm_T := bm_TT (List.mem_of_getElem? (i := 424) (by decide +kernel)) (by decide +kernel)
theorem tw_249 : (.methodLink RX1 21 yX3_setting : Cond) ∈ bm_T := bm_TT (List.mem_of_getElem? (i := 425) (by decide +kernel)) (by decide +kernel)
theorem tw_250 : (.code yX3_nameAt cX3_nameAt 6 (some .int) : Cond) ∈ bm_T := bm_TT (List.mem_of_getElem? (i := 429) (by decide +kernel)) (by decide +kernel)
theorem tw_251 : (.methodLink RX1 27 yX3_nameAt : Cond) ∈ bm_T := bm_TT (List.mem_of_getElem? (i := 426) (by decide +kernel)) (by decide +kernel)
theorem tw_252 : (.instanceMethod yX3_nameAt : Cond) ∈ bm_T := bm_TT (List.mem_of_getElem? (i := 427) (by decide +kernel)) (by decide +kernel)
theorem tw_253 : (.selects RX3 yX3_nameAt yX3_nameAt : Cond) ∈ bm_T := bm_TT (List.mem_of_getElem? (i := 428) (by decide +kernel)) (by decide +kernel)
theorem tw_254 : (.methodLink RX1 31 yX3_papersIn : Cond) ∈ bm_T := bm_TT (List.mem_of_getElem? (i := 430) (by decide +kernel)) (by decide +kernel)
theorem tw_255 : (.methodLink RX1 34 yX4_add : Cond) ∈ bm_T := bm_TT (List.mem_of_getElem? (i := 431) (by decide +kernel)) (by decide +kernel)
theorem tw_256 : (.methodLink RX1 38 yX4_get : Cond) ∈ bm_T := bm_TT (List.mem_of_getElem? (i := 436) (by decide +kernel)) (by decide +kernel)
theorem tw_257 : (.code yX3_votesOf cX3_votesOf 3 (some .int) : Cond) ∈ bm_T := bm_TT (List.mem_of_getElem? (i := 419) (by decide +kernel)) (by decide +kernel)
theorem tw_258 : (.methodLink RX3 98 yX3_votesOf : Cond) ∈ bm_T := bm_TT (List.mem_of_getElem? (i := 441) (by decide +kernel)) (by decide +kernel)
theorem tw_259 : (.instanceMethod yX3_votesOf : Cond) ∈ bm_T := bm_TT (List.mem_of_getElem? (i := 417) (by decide +kernel)) (by decide +kernel)
theorem tw_260 : (.selects RX3 yX3_votesOf yX3_votesOf : Cond) ∈ bm_T := bm_TT (List.mem_of_getElem? (i := 418) (by decide +kernel)) (by decide +kernel)
theorem tw_261 : (.methodLink RX3 101 yX3_seatsOf : Cond) ∈ bm_T := bm_TT (List.mem_of_getElem? (i := 442) (by decide +kernel)) (by decide +kernel)
theorem tw_262 : (.code yX3_hasName cX3_hasName 3 (some .boolean) : Cond) ∈ bm_T := bm_TT (List.mem_of_getElem? (i := 410) (by decide +kernel)) (by decide +kernel)
theorem tw_263 : (.methodLink RX7 118 yX3_hasName : Cond) ∈ bm_T := bm_TT (List.mem_of_getElem? (i := 407) (by decide +kernel)) (by decide +kernel)
theorem tw_264 : (.instanceMethod yX3_hasName : Cond) ∈ bm_T := bm_TT (List.mem_of_getElem? (i := 408) (by decide +kernel)) (by decide +kernel)
theorem tw_265 : (.selects RX3 yX3_hasName yX3_hasName : Cond) ∈ bm_T := bm_TT (List.mem_of_getElem? (i := 409) (by decide +kernel)) (by decide +kernel)
theorem tw_266 : (.code yX3_lengthOf cX3_lengthOf 3 (some .int) : Cond) ∈ bm_T := bm_TT (List.mem_of_getElem? (i := 415) (by decide +kernel)) (by decide +kernel)
theorem tw_267 : (.methodLink RX7 121 yX3_lengthOf : Cond) ∈ bm_T := bm_TT (List.mem_of_getElem? (i := 412) (by decide +kernel)) (by decide +kernel)
theorem tw_268 : (.instanceMethod yX3_lengthOf : Cond) ∈ bm_T := bm_TT (List.mem_of_getElem? (i := 413) (by decide +kernel)) (by decide +kernel)
theorem tw_269 : (.selects RX3 yX3_lengthOf yX3_lengthOf : Cond) ∈ bm_T := bm_TT (List.mem_of_getElem? (i := 414) (by decide +kernel)) (by decide +kernel)
theorem tw_270 : (.methodLink RX7 124 yX3_votesOf : Cond) ∈ bm_T := bm_TT (List.mem_of_getElem? (i := 416) (by decide +kernel)) (by decide +kernel)
theorem tw_271 : (.code yX1_onPapers cX1_onPapers 4 none : Cond) ∈ bm_T := bm_TT (List.mem_of_getElem? (i := 423) (by decide +kernel)) (by decide +kernel)
theorem tw_272 : (.methodLink RX7 127 yX1_onPapers : Cond) ∈ bm_T := bm_TT (List.mem_of_getElem? (i := 420) (by decide +kernel)) (by decide +kernel)
theorem tw_273 : (.instanceMethod yX1_onPapers : Cond) ∈ bm_T := bm_TT (List.mem_of_getElem? (i := 421) (by decide +kernel)) (by decide +kernel)
theorem tw_274 : (.selects RX1 yX1_onPapers yX1_onPapers : Cond) ∈ bm_T := bm_TT (List.mem_of_getElem? (i := 422) (by decide +kernel)) (by decide +kernel)
theorem tw_275 : (.code yX1_timesOf cX1_timesOf 2 (some .int) : Cond) ∈ bm_T := bm_TT (List.mem_of_getElem? (i := 435) (by decide +kernel)) (by decide +kernel)
theorem tw_276 : (.methodLink RX7 131 yX1_timesOf : Cond) ∈ bm_T := bm_TT (List.mem_of_getElem? (i := 432) (by decide +kernel)) (by decide +kernel)
theorem tw_277 : (.instanceMethod yX1_timesOf : Cond) ∈ bm_T := bm_TT (List.mem_of_getElem? (i := 433) (by decide +kernel)) (by decide +kernel)
theorem tw_278 : (.selects RX1 yX1_timesOf yX1_timesOf : Cond) ∈ bm_T := bm_TT (List.mem_of_getElem? (i := 434) (by decide +kernel)) (by decide +kernel)
theorem tw_279 : (.code yX3_hasSeat cX3_hasSeat 7 (some .boolean) : Cond) ∈ bm_T := bm_TT (List.mem_of_getElem? (i := 440) (by decide +kernel)) (by decide +kernel)
theorem tw_280 : (.methodLink RX7 134 yX3_hasSeat : Cond) ∈ bm_T := bm_TT (List.mem_of_getElem? (i := 437) (by decide +kernel)) (by decide +kernel)
theorem tw_281 : (.instanceMethod yX3_hasSeat : Cond) ∈ bm_T := bm_TT (List.mem_of_getElem? (i := 438) (by decide +kernel)) (by decide +kernel)
theorem tw_282 : (.selects RX3 yX3_hasSeat yX3_hasSeat : Cond) ∈ bm_T := bm_TT (List.mem_of_getElem? (i := 439) (by decide +kernel)) (by decide +kernel)
theorem tw_283 : (.code yX8_standing cX8_standing 5 (some .int) : Cond) ∈ bm_T := bm_TT (List.mem_of_getElem? (i := 881) (by decide +kernel)) (by decide +kernel)
theorem tw_284 : (.methodLink RX8 60 yX8_standing : Cond) ∈ bm_T := bm_TT (List.mem_of_getElem? (i := 878) (by decide +kernel)) (by decide +kernel)
theorem tw_285 : (.instanceMethod yX8_standing : Cond) ∈ bm_T := bm_TT (List.mem_of_getElem? (i := 880) (by decide +kernel)) (by decide +kernel)
theorem tw_286 : (.selects RX8 yX8_standing yX8_standing : Cond) ∈ bm_T := bm_TT (List.mem_of_getElem? (i := 28) (by decide +kernel)) (by decide +kernel)
theorem tw_287 : (.code yX8_isName cX8_isName 3 (some .boolean) : Cond) ∈ bm_T := bm_TT (List.mem_of_getElem? (i := 869) (by decide +kernel)) (by decide +kernel)
theorem tw_288 : (.methodLink RX8 112 yX8_isName : Cond) ∈ bm_T := bm_TT (List.mem_of_getElem? (i := 866) (by decide +kernel)) (by decide +kernel)
theorem tw_289 : (.instanceMethod yX8_isName : Cond) ∈ bm_T := bm_TT (List.mem_of_getElem? (i := 868) (by decide +kernel)) (by decide +kernel)
theorem tw_290 : (.selects RX8 yX8_isName yX8_isName : Cond) ∈ bm_T := bm_TT (List.mem_of_getElem? (i := 25) (by decide +kernel)) (by decide +kernel)
theorem tw_291 : (.code yX8_lengthOf cX8_lengthOf 3 (some .int) : Cond) ∈ bm_T := bm_TT (List.mem_of_getElem? (i := 873) (by decide +kernel)) (by decide +kernel)
theorem tw_292 : (.methodLink RX8 67 yX8_lengthOf : Cond) ∈ bm_T := bm_TT (List.mem_of_getElem? (i := 870) (by decide +kernel)) (by decide +kernel)
theorem tw_293 : (.instanceMethod yX8_lengthOf : Cond) ∈ bm_T := bm_TT (List.mem_of_getElem? (i := 872) (by decide +kernel)) (by decide +kernel)
theorem tw_294 : (.selects RX8 yX8_lengthOf yX8_lengthOf : Cond) ∈ bm_T := bm_TT (List.mem_of_getElem? (i := 26) (by decide +kernel)) (by decide +kernel)
theorem tw_295 : (.code yX8_firstOn cX8_firstOn 5 (some .int) : Cond) ∈ bm_T := bm_TT (List.mem_of_getElem? (i := 877) (by decide +kernel)) (by decide +kernel)
theorem tw_296 : (.methodLink RX8 115 yX8_firstOn : Cond) ∈ bm_T := bm_TT (List.mem_of_getElem? (i := 874) (by decide +kernel)) (by decide +kernel)
theorem tw_297 : (.instanceMethod yX8_firstOn : Cond) ∈ bm_T := bm_TT (List.mem_of_getElem? (i := 876) (by decide +kernel)) (by decide +kernel)
theorem tw_298 : (.selects RX8 yX8_firstOn yX8_firstOn : Cond) ∈ bm_T := bm_TT (List.mem_of_getElem? (i := 27) (by decide +kernel)) (by decide +kernel)
theorem tw_299 : (.code yX8_seated cX8_seated 6 (some .int) : Cond) ∈ bm_T := bm_TT (List.mem_of_getElem? (i := 885) (by decide +kernel)) (by decide +kernel)
theorem tw_300 : (.methodLink RX8 118 yX8_seated : Cond) ∈ bm_T := bm_TT (List.mem_of_getElem? (i := 882) (by decide +kernel)) (by decide +kernel)
theorem tw_301 : (.instanceMethod yX8_seated : Cond) ∈ bm_T := bm_TT (List.mem_of_getElem? (i := 884) (by decide +kernel)) (by decide +kernel)
theorem tw_302 : (.selects RX8 yX8_seated yX8_seated : Cond) ∈ bm_T := bm_TT (List.mem_of_getElem? (i := 29) (by decide +kernel)) (by decide +kernel)
theorem tw_303 : (.fieldLink RX6 15 "BallotPapers$Text" "length" "I" : Cond) ∈ bm_T := bm_TT (List.mem_of_getElem? (i := 200) (by decide +kernel)) (by decide +kernel)
theorem tw_304 : (.methodLink RX7 159 yX3_setting : Cond) ∈ bm_T := bm_TT (List.mem_of_getElem? (i := 467) (by decide +kernel)) (by decide +kernel)
theorem tw_305 : (.code yX3_allNames cX3_allNames 1 (some .int) : Cond) ∈ bm_T := bm_TT (List.mem_of_getElem? (i := 450) (by decide +kernel)) (by decide +kernel)
theorem tw_306 : (.methodLink RX7 137 yX3_allNames : Cond) ∈ bm_T := bm_TT (List.mem_of_getElem? (i := 447) (by decide +kernel)) (by decide +kernel)
theorem tw_307 : (.instanceMethod yX3_allNames : Cond) ∈ bm_T := bm_TT (List.mem_of_getElem? (i := 448) (by decide +kernel)) (by decide +kernel)
theorem tw_308 : (.selects RX3 yX3_allNames yX3_allNames : Cond) ∈ bm_T := bm_TT (List.mem_of_getElem? (i := 449) (by decide +kernel)) (by decide +kernel)
theorem tw_309 : (.code yX3_allPapers cX3_allPapers 1 (some .int) : Cond) ∈ bm_T := bm_TT (List.mem_of_getElem? (i := 454) (by decide +kernel)) (by decide +kernel)
theorem tw_310 : (.methodLink RX7 140 yX3_allPapers : Cond) ∈ bm_T := bm_TT (List.mem_of_getElem? (i := 451) (by decide +kernel)) (by decide +kernel)
theorem tw_311 : (.instanceMethod yX3_allPapers : Cond) ∈ bm_T := bm_TT (List.mem_of_getElem? (i := 452) (by decide +kernel)) (by decide +kernel)
theorem tw_312 : (.selects RX3 yX3_allPapers yX3_allPapers : Cond) ∈ bm_T := bm_TT (List.mem_of_getElem? (i := 453) (by decide +kernel)) (by decide +kernel)
theorem tw_313 : (.code yX2_kept cX2_kept 1 (some .int) : Cond) ∈ bm_T := bm_TT (List.mem_of_getElem? (i := 458) (by decide +kernel)) (by decide +kernel)
theorem tw_314 : (.methodLink RX7 143 yX2_kept : Cond) ∈ bm_T := bm_TT (List.mem_of_getElem? (i := 455) (by decide +kernel)) (by decide +kernel)
theorem tw_315 : (.instanceMethod yX2_kept : Cond) ∈ bm_T := bm_TT (List.mem_of_getElem? (i := 456) (by decide +kernel)) (by decide +kernel)
theorem tw_316 : (.selects RX2 yX2_kept yX2_kept : Cond) ∈ bm_T := bm_TT (List.mem_of_getElem? (i := 457) (by decide +kernel)) (by decide +kernel)
theorem tw_317 : (.code yX6_length cX6_length 1 (some .int) : Cond) ∈ bm_T := bm_TT (List.mem_of_getElem? (i := 462) (by decide +kernel)) (by decide +kernel)
theorem tw_318 : (.methodLink RX7 146 yX6_length : Cond) ∈ bm_T := bm_TT (List.mem_of_getElem? (i := 459) (by decide +kernel)) (by decide +kernel)
theorem tw_319 : (.instanceMethod yX6_length : Cond) ∈ bm_T := bm_TT (List.mem_of_getElem? (i := 460) (by decide +kernel)) (by decide +kernel)
theorem tw_320 : (.selects RX6 yX6_length yX6_length : Cond) ∈ bm_T := bm_TT (List.mem_of_getElem? (i := 461) (by decide +kernel)) (by decide +kernel)
theorem tw_321 : (.code yX7_settingOfCount cX7_settingOfCount 2 (some .int) : Cond) ∈ bm_T := bm_TT (List.mem_of_getElem? (i := 466) (by decide +kernel)) (by decide +kernel)
theorem tw_322 : (.methodLink RX7 149 yX7_settingOfCount : Cond) ∈ bm_T := bm_TT (List.mem_of_getElem? (i := 463) (by decide +kernel)) (by decide +kernel)
theorem tw_323 : (.instanceMethod yX7_settingOfCount : Cond) ∈ bm_T := bm_TT (List.mem_of_getElem? (i := 465) (by decide +kernel)) (by decide +kernel)
theorem tw_324 : (.selects RX7 yX7_settingOfCount yX7_settingOfCount : Cond) ∈ bm_T := bm_TT (List.mem_of_getElem? (i := 1) (by decide +kernel)) (by decide +kernel)
theorem tw_325 : (.code yX8_names cX8_names 3 (some .int) : Cond) ∈ bm_T := bm_TT (List.mem_of_getElem? (i := 893) (by decide +kernel)) (by decide +kernel)
theorem tw_326 : (.methodLink RX8 121 yX8_names : Cond) ∈ bm_T := bm_TT (List.mem_of_getElem? (i := 890) (by decide +kernel)) (by decide +kernel)
theorem tw_327 : (.instanceMethod yX8_names : Cond) ∈ bm_T := bm_TT (List.mem_of_getElem? (i := 892) (by decide +kernel)) (by decide +kernel)
theorem tw_328 : (.selects RX8 yX8_names yX8_names : Cond) ∈ bm_T := bm_TT (List.mem_of_getElem? (i := 30) (by decide +kernel)) (by decide +kernel)
theorem tw_329 : (.code yX8_allPapers cX8_allPapers 3 (some .int) : Cond) ∈ bm_T := bm_TT (List.mem_of_getElem? (i := 897) (by decide +kernel)) (by decide +kernel)
theorem tw_330 : (.methodLink RX8 125 yX8_allPapers : Cond) ∈ bm_T := bm_TT (List.mem_of_getElem? (i := 894) (by decide +kernel)) (by decide +kernel)
theorem tw_331 : (.instanceMethod yX8_allPapers : Cond) ∈ bm_T := bm_TT (List.mem_of_getElem? (i := 896) (by decide +kernel)) (by decide +kernel)
theorem tw_332 : (.selects RX8 yX8_allPapers yX8_allPapers : Cond) ∈ bm_T := bm_TT (List.mem_of_getElem? (i := 31) (by decide +kernel)) (by decide +kernel)
theorem tw_333 : (.fieldLink RX8 128 "BallotPapersModel" "typed" "I" : Cond) ∈ bm_T := bm_TT (List.mem_of_getElem? (i := 750) (by decide +kernel)) (by decide +kernel)
theorem tw_334 : (.methodLink RX7 152 yX3_papersIn : Cond) ∈ bm_T := bm_TT (List.mem_of_getElem? (i := 472) (by decide +kernel)) (by decide +kernel)
theorem tw_335 : (.methodLink RX7 155 yX3_nameAt : Cond) ∈ bm_T := bm_TT (List.mem_of_getElem? (i := 477) (by decide +kernel)) (by decide +kernel)
theorem tw_336 : (.methodLink RX5 59 yX3_namesIn : Cond) ∈ bm_T := bm_TT (List.mem_of_getElem? (i := 488) (by decide +kernel)) (by decide +kernel)
theorem tw_337 : (.methodLink RX5 92 yX3_lengthOf : Cond) ∈ bm_T := bm_TT (List.mem_of_getElem? (i := 494) (by decide +kernel)) (by decide +kernel)
theorem tw_338 : (.code yX7_roundedUp cX7_roundedUp 2 (some .int) : Cond) ∈ bm_T := bm_TT (List.mem_of_getElem? (i := 497) (by decide +kernel)) (by decide +kernel)
theorem tw_339 : (.static yX7_roundedUp : Cond) ∈ bm_T := bm_TT (List.mem_of_getElem? (i := 496) (by decide +kernel)) (by decide +kernel)
theorem tw_340 : (.methodLink RX5 95 yX3_slot : Cond) ∈ bm_T := bm_TT (List.mem_of_getElem? (i := 498) (by decide +kernel)) (by decide +kernel)
theorem tw_341 : (.methodLink RX5 62 yX4_put : Cond) ∈ bm_T := bm_TT (List.mem_of_getElem? (i := 489) (by decide +kernel)) (by decide +kernel)
theorem tw_342 : (.methodLink RX5 109 yX4_get : Cond) ∈ bm_T := bm_TT (List.mem_of_getElem? (i := 505) (by decide +kernel)) (by decide +kernel)
theorem tw_343 : (.fieldLink RX5 37 "BallotPapers$Sheet" "fold" "I" : Cond) ∈ bm_T := bm_TT (List.mem_of_getElem? (i := 152) (by decide +kernel)) (by decide +kernel)
theorem tw_344 : (.fieldLink RX5 34 "BallotPapers$Sheet" "linesInColumn" "I" : Cond) ∈ bm_T := bm_TT (List.mem_of_getElem? (i := 151) (by decide +kernel)) (by decide +kernel)
theorem tw_345 : (.fieldLink RX5 43 "BallotPapers$Sheet" "next" "I" : Cond) ∈ bm_T := bm_TT (List.mem_of_getElem? (i := 154) (by decide +kernel)) (by decide +kernel)
theorem tw_346 : (.fieldLink RX5 40 "BallotPapers$Sheet" "columns" "I" : Cond) ∈ bm_T := bm_TT (List.mem_of_getElem? (i := 153) (by decide +kernel)) (by decide +kernel)
theorem tw_347 : (.code yX5_behindFold cX5_behindFold 2 (some .int) : Cond) ∈ bm_T := bm_TT (List.mem_of_getElem? (i := 513) (by decide +kernel)) (by decide +kernel)
theorem tw_348 : (.methodLink RX5 98 yX5_behindFold : Cond) ∈ bm_T := bm_TT (List.mem_of_getElem? (i := 510) (by decide +kernel)) (by decide +kernel)
theorem tw_349 : (.instanceMethod yX5_behindFold : Cond) ∈ bm_T := bm_TT (List.mem_of_getElem? (i := 512) (by decide +kernel)) (by decide +kernel)
theorem tw_350 : (.selects RX5 yX5_behindFold yX5_behindFold : Cond) ∈ bm_T := bm_TT (List.mem_of_getElem? (i := 4) (by decide +kernel)) (by decide +kernel)
theorem tw_351 : (.code yX5_fits cX5_fits 3 (some .boolean) : Cond) ∈ bm_T := bm_TT (List.mem_of_getElem? (i := 517) (by decide +kernel)) (by decide +kernel)
theorem tw_352 : (.methodLink RX5 101 yX5_fits : Cond) ∈ bm_T := bm_TT (List.mem_of_getElem? (i := 514) (by decide +kernel)) (by decide +kernel)
theorem tw_353 : (.instanceMethod yX5_fits : Cond) ∈ bm_T := bm_TT (List.mem_of_getElem? (i := 516) (by decide +kernel)) (by decide +kernel)
theorem tw_354 : (.selects RX5 yX5_fits yX5_fits : Cond) ∈ bm_T := bm_TT (List.mem_of_getElem? (i := 5) (by decide +kernel)) (by decide +kernel)
theorem tw_355 : (.fieldLink RX5 46 "BallotPapers$Sheet" "taken" "I" : Cond) ∈ bm_T := bm_TT (List.mem_of_getElem? (i := 155) (by decide +kernel)) (by decide +kernel)
theorem tw_356 : (.fieldLink RX5 52 "BallotPapers$Sheet" "begunByNames" "I" : Cond) ∈ bm_T := bm_TT (List.mem_of_getElem? (i := 157) (by decide +kernel)) (by decide +kernel)
theorem tw_357 : (.fieldLink RX5 49 "BallotPapers$Sheet" "later" "I" : Cond) ∈ bm_T := bm_TT (List.mem_of_getElem? (i := 156) (by decide +kernel)) (by decide +kernel)
theorem tw_358 : (.methodLink RX5 79 yX3_nameAt : Cond) ∈ bm_T := bm_TT (List.mem_of_getElem? (i := 500) (by decide +kernel)) (by decide +kernel)
theorem tw_359 : (.code yX5_layName cX5_layName 4 none : Cond) ∈ bm_T := bm_TT (List.mem_of_getElem? (i := 525) (by decide +kernel)) (by decide +kernel)
theorem tw_360 : (.methodLink RX5 105 yX5_layName : Cond) ∈ bm_T := bm_TT (List.mem_of_getElem? (i := 522) (by decide +kernel)) (by decide +kernel)
theorem tw_361 : (.instanceMethod yX5_layName : Cond) ∈ bm_T := bm_TT (List.mem_of_getElem? (i := 524) (by decide +kernel)) (by decide +kernel)
theorem tw_362 : (.selects RX5 yX5_layName yX5_layName : Cond) ∈ bm_T := bm_TT (List.mem_of_getElem? (i := 7) (by decide +kernel)) (by decide +kernel)
theorem tw_363 : (.methodLink RX5 24 yX3_setting : Cond) ∈ bm_T := bm_TT (List.mem_of_getElem? (i := 486) (by decide +kernel)) (by decide +kernel)
theorem tw_364 : (.fieldLink RX5 30 "BallotPapers$Sheet" "columnsOnPage" "I" : Cond) ∈ bm_T := bm_TT (List.mem_of_getElem? (i := 150) (by decide +kernel)) (by decide +kernel)
theorem tw_365 : (.methodLink RX5 55 yX3_contests : Cond) ∈ bm_T := bm_TT (List.mem_of_getElem? (i := 487) (by decide +kernel)) (by decide +kernel)
theorem tw_366 : (.code yX5_measure cX5_measure 6 none : Cond) ∈ bm_T := bm_TT (List.mem_of_getElem? (i := 493) (by decide +kernel)) (by decide +kernel)
theorem tw_367 : (.methodLink RX5 68 yX5_measure : Cond) ∈ bm_T := bm_TT (List.mem_of_getElem? (i := 490) (by decide +kernel)) (by decide +kernel)
theorem tw_368 : (.instanceMethod yX5_measure : Cond) ∈ bm_T := bm_TT (List.mem_of_getElem? (i := 492) (by decide +kernel)) (by decide +kernel)
theorem tw_369 : (.selects RX5 yX5_measure yX5_measure : Cond) ∈ bm_T := bm_TT (List.mem_of_getElem? (i := 2) (by decide +kernel)) (by decide +kernel)
theorem tw_370 : (.methodLink RX5 72 yX3_titleOf : Cond) ∈ bm_T := bm_TT (List.mem_of_getElem? (i := 499) (by decide +kernel)) (by decide +kernel)
theorem tw_371 : (.code yX5_linesOf cX5_linesOf 3 (some .int) : Cond) ∈ bm_T := bm_TT (List.mem_of_getElem? (i := 504) (by decide +kernel)) (by decide +kernel)
theorem tw_372 : (.methodLink RX5 83 yX5_linesOf : Cond) ∈ bm_T := bm_TT (List.mem_of_getElem? (i := 501) (by decide +kernel)) (by decide +kernel)
theorem tw_373 : (.instanceMethod yX5_linesOf : Cond) ∈ bm_T := bm_TT (List.mem_of_getElem? (i := 502) (by decide +kernel)) (by decide +kernel)
theorem tw_374 : (.selects RX5 yX5_linesOf yX5_linesOf : Cond) ∈ bm_T := bm_TT (List.mem_of_getElem? (i := 503) (by decide +kernel)) (by decide +kernel)
theorem tw_375 : (.code yX5_layTitle cX5_layTitle 4 none : Cond) ∈ bm_T := bm_TT (List.mem_of_getElem? (i := 509) (by decide +kernel)) (by decide +kernel)
theorem tw_376 : (.methodLink RX5 85 yX5_layTitle : Cond) ∈ bm_T := bm_TT (List.mem_of_getElem? (i := 506) (by decide +kernel)) (by decide +kernel)
theorem tw_377 : (.instanceMethod yX5_layTitle : Cond) ∈ bm_T := bm_TT (List.mem_of_getElem? (i := 508) (by decide +kernel)) (by decide +kernel)
theorem tw_378 : (.selects RX5 yX5_layTitle yX5_layTitle : Cond) ∈ bm_T := bm_TT (List.mem_of_getElem? (i := 3) (by decide +kernel)) (by decide +kernel)
theorem tw_379 : (.code yX5_layNames cX5_layNames 5 none : Cond) ∈ bm_T := bm_TT (List.mem_of_getElem? (i := 521) (by decide +kernel)) (by decide +kernel)
theorem tw_380 : (.methodLink RX5 89 yX5_layNames : Cond) ∈ bm_T := bm_TT (List.mem_of_getElem? (i := 518) (by decide +kernel)) (by decide +kernel)
theorem tw_381 : (.instanceMethod yX5_layNames : Cond) ∈ bm_T := bm_TT (List.mem_of_getElem? (i := 520) (by decide +kernel)) (by decide +kernel)
theorem tw_382 : (.selects RX5 yX5_layNames yX5_layNames : Cond) ∈ bm_T := bm_TT (List.mem_of_getElem? (i := 6) (by decide +kernel)) (by decide +kernel)
theorem tw_383 : (.methodLink RX3 104 yX3_nameAt : Cond) ∈ bm_T := bm_TT (List.mem_of_getElem? (i := 542) (by decide +kernel)) (by decide +kernel)
theorem tw_384 : (.code yX5_lay cX5_lay 8 none : Cond) ∈ bm_T := bm_TT (List.mem_of_getElem? (i := 485) (by decide +kernel)) (by decide +kernel)
theorem tw_385 : (.methodLink RX7 162 yX5_lay : Cond) ∈ bm_T := bm_TT (List.mem_of_getElem? (i := 482) (by decide +kernel)) (by decide +kernel)
theorem tw_386 : (.instanceMethod yX5_lay : Cond) ∈ bm_T := bm_TT (List.mem_of_getElem? (i := 483) (by decide +kernel)) (by decide +kernel)
theorem tw_387 : (.selects RX5 yX5_lay yX5_lay : Cond) ∈ bm_T := bm_TT (List.mem_of_getElem? (i := 484) (by decide +kernel)) (by decide +kernel)
theorem tw_388 : (.code yX5_pageOf cX5_pageOf 4 (some .int) : Cond) ∈ bm_T := bm_TT (List.mem_of_getElem? (i := 529) (by decide +kernel)) (by decide +kernel)
theorem tw_389 : (.methodLink RX7 166 yX5_pageOf : Cond) ∈ bm_T := bm_TT (List.mem_of_getElem? (i := 526) (by decide +kernel)) (by decide +kernel)
theorem tw_390 : (.instanceMethod yX5_pageOf : Cond) ∈ bm_T := bm_TT (List.mem_of_getElem? (i := 527) (by decide +kernel)) (by decide +kernel)
theorem tw_391 : (.selects RX5 yX5_pageOf yX5_pageOf : Cond) ∈ bm_T := bm_TT (List.mem_of_getElem? (i := 528) (by decide +kernel)) (by decide +kernel)
theorem tw_392 : (.code yX5_columnOnPage cX5_columnOnPage 4 (some .int) : Cond) ∈ bm_T := bm_TT (List.mem_of_getElem? (i := 533) (by decide +kernel)) (by decide +kernel)
theorem tw_393 : (.methodLink RX7 169 yX5_columnOnPage : Cond) ∈ bm_T := bm_TT (List.mem_of_getElem? (i := 530) (by decide +kernel)) (by decide +kernel)
theorem tw_394 : (.instanceMethod yX5_columnOnPage : Cond) ∈ bm_T := bm_TT (List.mem_of_getElem? (i := 531) (by decide +kernel)) (by decide +kernel)
theorem tw_395 : (.selects RX5 yX5_columnOnPage yX5_columnOnPage : Cond) ∈ bm_T := bm_TT (List.mem_of_getElem? (i := 532) (by decide +kernel)) (by decide +kernel)
theorem tw_396 : (.code yX5_lineOf cX5_lineOf 3 (some .int) : Cond) ∈ bm_T := bm_TT (List.mem_of_getElem? (i := 537) (by decide +kernel)) (by decide +kernel)
theorem tw_397 : (.methodLink RX7 172 yX5_lineOf : Cond) ∈ bm_T := bm_TT (List.mem_of_getElem? (i := 534) (by decide +kernel)) (by decide +kernel)
theorem tw_398 : (.instanceMethod yX5_lineOf : Cond) ∈ bm_T := bm_TT (List.mem_of_getElem? (i := 535) (by decide +kernel)) (by decide +kernel)
theorem tw_399 : (.selects RX5 yX5_lineOf yX5_lineOf : Cond) ∈ bm_T := bm_TT (List.mem_of_getElem? (i := 536) (by decide +kernel)) (by decide +kernel)
theorem tw_400 : (.code yX3_placeOf cX3_placeOf 5 (some .int) : Cond) ∈ bm_T := bm_TT (List.mem_of_getElem? (i := 541) (by decide +kernel)) (by decide +kernel)
theorem tw_401 : (.methodLink RX7 175 yX3_placeOf : Cond) ∈ bm_T := bm_TT (List.mem_of_getElem? (i := 538) (by decide +kernel)) (by decide +kernel)
theorem tw_402 : (.instanceMethod yX3_placeOf : Cond) ∈ bm_T := bm_TT (List.mem_of_getElem? (i := 539) (by decide +kernel)) (by decide +kernel)
theorem tw_403 : (.selects RX3 yX3_placeOf yX3_placeOf : Cond) ∈ bm_T := bm_TT (List.mem_of_getElem? (i := 540) (by decide +kernel)) (by decide +kernel)
theorem tw_404 : (.methodLink RX7 178 yX5_linesOf : Cond) ∈ bm_T := bm_TT (List.mem_of_getElem? (i := 543) (by decide +kernel)) (by decide +kernel)
theorem tw_405 : (.code yX8_parts cX8_parts 2 (some .int) : Cond) ∈ bm_T := bm_TT (List.mem_of_getElem? (i := 924) (by decide +kernel)) (by decide +kernel)
theorem tw_406 : (.methodLink RX8 64 yX8_parts : Cond) ∈ bm_T := bm_TT (List.mem_of_getElem? (i := 922) (by decide +kernel)) (by decide +kernel)
theorem tw_407 : (.static yX8_parts : Cond) ∈ bm_T := bm_TT (List.mem_of_getElem? (i := 923) (by decide +kernel)) (by decide +kernel)
theorem tw_408 : (.code yX8_isFold cX8_isFold 2 (some .boolean) : Cond) ∈ bm_T := bm_TT (List.mem_of_getElem? (i := 932) (by decide +kernel)) (by decide +kernel)
theorem tw_409 : (.methodLink RX8 70 yX8_isFold : Cond) ∈ bm_T := bm_TT (List.mem_of_getElem? (i := 929) (by decide +kernel)) (by decide +kernel)
theorem tw_410 : (.instanceMethod yX8_isFold : Cond) ∈ bm_T := bm_TT (List.mem_of_getElem? (i := 931) (by decide +kernel)) (by decide +kernel)
theorem tw_411 : (.selects RX8 yX8_isFold yX8_isFold : Cond) ∈ bm_T := bm_TT (List.mem_of_getElem? (i := 36) (by decide +kernel)) (by decide +kernel)
theorem tw_412 : (.code yX8_nameLines cX8_nameLines 3 (some .int) : Cond) ∈ bm_T := bm_TT (List.mem_of_getElem? (i := 936) (by decide +kernel)) (by decide +kernel)
theorem tw_413 : (.methodLink RX8 73 yX8_nameLines : Cond) ∈ bm_T := bm_TT (List.mem_of_getElem? (i := 933) (by decide +kernel)) (by decide +kernel)
theorem tw_414 : (.instanceMethod yX8_nameLines : Cond) ∈ bm_T := bm_TT (List.mem_of_getElem? (i := 935) (by decide +kernel)) (by decide +kernel)
theorem tw_415 : (.selects RX8 yX8_nameLines yX8_nameLines : Cond) ∈ bm_T := bm_TT (List.mem_of_getElem? (i := 37) (by decide +kernel)) (by decide +kernel)
theorem tw_416 : (.fieldLink RX8 76 "BallotPapersModel" "line" "I" : Cond) ∈ bm_T := bm_TT (List.mem_of_getElem? (i := 754) (by decide +kernel)) (by decide +kernel)
theorem tw_417 : (.code yX8_pushed cX8_pushed 2 (some .int) : Cond) ∈ bm_T := bm_TT (List.mem_of_getElem? (i := 928) (by decide +kernel)) (by decide +kernel)
theorem tw_418 : (.methodLink RX8 79 yX8_pushed : Cond) ∈ bm_T := bm_TT (List.mem_of_getElem? (i := 925) (by decide +kernel)) (by decide +kernel)
theorem tw_419 : (.instanceMethod yX8_pushed : Cond) ∈ bm_T := bm_TT (List.mem_of_getElem? (i := 927) (by decide +kernel)) (by decide +kernel)
theorem tw_420 : (.selects RX8 yX8_pushed yX8_pushed : Cond) ∈ bm_T := bm_TT (List.mem_of_getElem? (i := 35) (by decide +kernel)) (by decide +kernel)
theorem tw_421 : (.fieldLink RX8 83 "BallotPapersModel" "column" "I" : Cond) ∈ bm_T := bm_TT (List.mem_of_getElem? (i := 753) (by decide +kernel)) (by decide +kernel)
theorem tw_422 : (.fieldLink RX8 86 "BallotPapersModel" "begins" "I" : Cond) ∈ bm_T := bm_TT (List.mem_of_getElem? (i := 757) (by decide +kernel)) (by decide +kernel)
theorem tw_423 : (.fieldLink RX8 89 "BallotPapersModel" "later" "I" : Cond) ∈ bm_T := bm_TT (List.mem_of_getElem? (i := 756) (by decide +kernel)) (by decide +kernel)
theorem tw_424 : (.fieldLink RX8 92 "BallotPapersModel" "taken" "I" : Cond) ∈ bm_T := bm_TT (List.mem_of_getElem? (i := 755) (by decide +kernel)) (by decide +kernel)
theorem tw_425 : (.code yX8_titleLines cX8_titleLines 2 (some .int) : Cond) ∈ bm_T := bm_TT (List.mem_of_getElem? (i := 921) (by decide +kernel)) (by decide +kernel)
theorem tw_426 : (.methodLink RX8 95 yX8_titleLines : Cond) ∈ bm_T := bm_TT (List.mem_of_getElem? (i := 918) (by decide +kernel)) (by decide +kernel)
theorem tw_427 : (.instanceMethod yX8_titleLines : Cond) ∈ bm_T := bm_TT (List.mem_of_getElem? (i := 920) (by decide +kernel)) (by decide +kernel)
theorem tw_428 : (.selects RX8 yX8_titleLines yX8_titleLines : Cond) ∈ bm_T := bm_TT (List.mem_of_getElem? (i := 34) (by decide +kernel)) (by decide +kernel)
theorem tw_429 : (.code yX8_laysName cX8_laysName 5 none : Cond) ∈ bm_T := bm_TT (List.mem_of_getElem? (i := 940) (by decide +kernel)) (by decide +kernel)
theorem tw_430 : (.methodLink RX8 98 yX8_laysName : Cond) ∈ bm_T := bm_TT (List.mem_of_getElem? (i := 937) (by decide +kernel)) (by decide +kernel)
theorem tw_431 : (.instanceMethod yX8_laysName : Cond) ∈ bm_T := bm_TT (List.mem_of_getElem? (i := 939) (by decide +kernel)) (by decide +kernel)
theorem tw_432 : (.selects RX8 yX8_laysName yX8_laysName : Cond) ∈ bm_T := bm_TT (List.mem_of_getElem? (i := 38) (by decide +kernel)) (by decide +kernel)
theorem tw_433 : (.code yX8_laysContest cX8_laysContest 7 none : Cond) ∈ bm_T := bm_TT (List.mem_of_getElem? (i := 917) (by decide +kernel)) (by decide +kernel)
theorem tw_434 : (.methodLink RX8 102 yX8_laysContest : Cond) ∈ bm_T := bm_TT (List.mem_of_getElem? (i := 914) (by decide +kernel)) (by decide +kernel)
theorem tw_435 : (.instanceMethod yX8_laysContest : Cond) ∈ bm_T := bm_TT (List.mem_of_getElem? (i := 916) (by decide +kernel)) (by decide +kernel)
theorem tw_436 : (.selects RX8 yX8_laysContest yX8_laysContest : Cond) ∈ bm_T := bm_TT (List.mem_of_getElem? (i := 33) (by decide +kernel)) (by decide +kernel)
theorem tw_437 : (.code yX8_lays cX8_lays 4 (some .int) : Cond) ∈ bm_T := bm_TT (List.mem_of_getElem? (i := 913) (by decide +kernel)) (by decide +kernel)
theorem tw_438 : (.methodLink RX8 131 yX8_lays : Cond) ∈ bm_T := bm_TT (List.mem_of_getElem? (i := 910) (by decide +kernel)) (by decide +kernel)
theorem tw_439 : (.instanceMethod yX8_lays : Cond) ∈ bm_T := bm_TT (List.mem_of_getElem? (i := 912) (by decide +kernel)) (by decide +kernel)
theorem tw_440 : (.selects RX8 yX8_lays yX8_lays : Cond) ∈ bm_T := bm_TT (List.mem_of_getElem? (i := 32) (by decide +kernel)) (by decide +kernel)
theorem tw_441 : (.code yX8_placeOf cX8_placeOf 5 (some .int) : Cond) ∈ bm_T := bm_TT (List.mem_of_getElem? (i := 944) (by decide +kernel)) (by decide +kernel)
theorem tw_442 : (.methodLink RX8 134 yX8_placeOf : Cond) ∈ bm_T := bm_TT (List.mem_of_getElem? (i := 941) (by decide +kernel)) (by decide +kernel)
theorem tw_443 : (.instanceMethod yX8_placeOf : Cond) ∈ bm_T := bm_TT (List.mem_of_getElem? (i := 943) (by decide +kernel)) (by decide +kernel)
theorem tw_444 : (.selects RX8 yX8_placeOf yX8_placeOf : Cond) ∈ bm_T := bm_TT (List.mem_of_getElem? (i := 39) (by decide +kernel)) (by decide +kernel)
theorem tw_445 : (.methodLink RX5 113 yX5_pageOf : Cond) ∈ bm_T := bm_TT (List.mem_of_getElem? (i := 552) (by decide +kernel)) (by decide +kernel)
theorem tw_446 : (.methodLink RX5 116 yX5_columnOnPage : Cond) ∈ bm_T := bm_TT (List.mem_of_getElem? (i := 553) (by decide +kernel)) (by decide +kernel)
theorem tw_447 : (.methodLink RX5 119 yX5_lineOf : Cond) ∈ bm_T := bm_TT (List.mem_of_getElem? (i := 554) (by decide +kernel)) (by decide +kernel)
theorem tw_448 : (.code yX5_nameWithMarkAt cX5_nameWithMarkAt 6 (some .int) : Cond) ∈ bm_T := bm_TT (List.mem_of_getElem? (i := 551) (by decide +kernel)) (by decide +kernel)
theorem tw_449 : (.methodLink RX7 181 yX5_nameWithMarkAt : Cond) ∈ bm_T := bm_TT (List.mem_of_getElem? (i := 548) (by decide +kernel)) (by decide +kernel)
theorem tw_450 : (.instanceMethod yX5_nameWithMarkAt : Cond) ∈ bm_T := bm_TT (List.mem_of_getElem? (i := 549) (by decide +kernel)) (by decide +kernel)
theorem tw_451 : (.selects RX5 yX5_nameWithMarkAt yX5_nameWithMarkAt : Cond) ∈ bm_T := bm_TT (List.mem_of_getElem? (i := 550) (by decide +kernel)) (by decide +kernel)
theorem tw_452 : (.code yX5_pages cX5_pages 1 (some .int) : Cond) ∈ bm_T := bm_TT (List.mem_of_getElem? (i := 562) (by decide +kernel)) (by decide +kernel)
theorem tw_453 : (.methodLink RX7 185 yX5_pages : Cond) ∈ bm_T := bm_TT (List.mem_of_getElem? (i := 559) (by decide +kernel)) (by decide +kernel)
theorem tw_454 : (.instanceMethod yX5_pages : Cond) ∈ bm_T := bm_TT (List.mem_of_getElem? (i := 560) (by decide +kernel)) (by decide +kernel)
theorem tw_455 : (.selects RX5 yX5_pages yX5_pages : Cond) ∈ bm_T := bm_TT (List.mem_of_getElem? (i := 561) (by decide +kernel)) (by decide +kernel)
theorem tw_456 : (.code yX5_columns cX5_columns 1 (some .int) : Cond) ∈ bm_T := bm_TT (List.mem_of_getElem? (i := 566) (by decide +kernel)) (by decide +kernel)
theorem tw_457 : (.methodLink RX7 188 yX5_columns : Cond) ∈ bm_T := bm_TT (List.mem_of_getElem? (i := 563) (by decide +kernel)) (by decide +kernel)
theorem tw_458 : (.instanceMethod yX5_columns : Cond) ∈ bm_T := bm_TT (List.mem_of_getElem? (i := 564) (by decide +kernel)) (by decide +kernel)
theorem tw_459 : (.selects RX5 yX5_columns yX5_columns : Cond) ∈ bm_T := bm_TT (List.mem_of_getElem? (i := 565) (by decide +kernel)) (by decide +kernel)
theorem tw_460 : (.code yX5_taken cX5_taken 1 (some .int) : Cond) ∈ bm_T := bm_TT (List.mem_of_getElem? (i := 570) (by decide +kernel)) (by decide +kernel)
theorem tw_461 : (.methodLink RX7 191 yX5_taken : Cond) ∈ bm_T := bm_TT (List.mem_of_getElem? (i := 567) (by decide +kernel)) (by decide +kernel)
theorem tw_462 : (.instanceMethod yX5_taken : Cond) ∈ bm_T := bm_TT (List.mem_of_getElem? (i := 568) (by decide +kernel)) (by decide +kernel)
theorem tw_463 : (.selects RX5 yX5_taken yX5_taken : Cond) ∈ bm_T := bm_TT (List.mem_of_getElem? (i := 569) (by decide +kernel)) (by decide +kernel)
theorem tw_464 : (.code yX5_later cX5_later 1 (some .int) : Cond) ∈ bm_T := bm_TT (List.mem_of_getElem? (i := 574) (by decide +kernel)) (by decide +kernel)
theorem tw_465 : (.methodLink RX7 194 yX5_later : Cond) ∈ bm_T := bm_TT (List.mem_of_getElem? (i := 571) (by decide +kernel)) (by decide +kernel)
theorem tw_466 : (.instanceMethod yX5_later : Cond) ∈ bm_T := bm_TT (List.mem_of_getElem? (i := 572) (by decide +kernel)) (by decide +kernel)
theorem tw_467 : (.selects RX5 yX5_later yX5_later : Cond) ∈ bm_T := bm_TT (List.mem_of_getElem? (i := 573) (by decide +kernel)) (by decide +kernel)
theorem tw_468 : (.code yX5_begunByNames cX5_begunByNames 1 (some .int) : Cond) ∈ bm_T := bm_TT (List.mem_of_getElem? (i := 578) (by decide +kernel)) (by decide +kernel)
theorem tw_469 : (.methodLink RX7 197 yX5_begunByNames : Cond) ∈ bm_T := bm_TT (List.mem_of_getElem? (i := 575) (by decide +kernel)) (by decide +kernel)
theorem tw_470 : (.instanceMethod yX5_begunByNames : Cond) ∈ bm_T := bm_TT (List.mem_of_getElem? (i := 576) (by decide +kernel)) (by decide +kernel)
theorem tw_471 : (.selects RX5 yX5_begunByNames yX5_begunByNames : Cond) ∈ bm_T := bm_TT (List.mem_of_getElem? (i := 577) (by decide +kernel)) (by decide +kernel)
theorem tw_472 : (.methodLink RX1 42 yX1_timesOf : Cond) ∈ bm_T := bm_TT (List.mem_of_getElem? (i := 587) (by decide +kernel)) (by decide +kernel)
theorem tw_473 : (.methodLink RX1 45 Lib.Math.max.name : Cond) ∈ bm_T := bm_TT (List.mem_of_getElem? (i := 588) (by decide +kernel)) (by decide +kernel)
theorem tw_474 : (.static Lib.Math.max.name : Cond) ∈ bm_T := bm_TT (List.mem_of_getElem? (i := 589) (by decide +kernel)) (by decide +kernel)
theorem tw_475 : (.initialized RJ9 : Cond) ∈ bm_T := bm_TT (List.mem_of_getElem? (i := 60) (by decide +kernel)) (by decide +kernel)
theorem tw_476 : (.code Lib.Math.max.name Lib.Math.max.code 2 (some .int) : Cond) ∈ bm_T := bm_TT (List.mem_of_getElem? (i := 590) (by decide +kernel)) (by decide +kernel)
theorem tw_477 : (.methodLink RX1 51 Lib.Math.min.name : Cond) ∈ bm_T := bm_TT (List.mem_of_getElem? (i := 591) (by decide +kernel)) (by decide +kernel)
theorem tw_478 : (.static Lib.Math.min.name : Cond) ∈ bm_T := bm_TT (List.mem_of_getElem? (i := 592) (by decide +kernel)) (by decide +kernel)
theorem tw_479 : (.code Lib.Math.min.name Lib.Math.min.code 2 (some .int) : Cond) ∈ bm_T := bm_TT (List.mem_of_getElem? (i := 593) (by decide +kernel)) (by decide +kernel)
theorem tw_480 : (.code yX1_difference cX1_difference 5 (some .int) : Cond) ∈ bm_T := bm_TT (List.mem_of_getElem? (i := 586) (by decide +kernel)) (by decide +kernel)
theorem tw_481 : (.methodLink RX7 200 yX1_difference : Cond) ∈ bm_T := bm_TT (List.mem_of_getElem? (i := 583) (by decide +kernel)) (by decide +kernel)
theorem tw_482 : (.instanceMethod yX1_difference : Cond) ∈ bm_T := bm_TT (List.mem_of_getElem? (i := 584) (by decide +kernel)) (by decide +kernel)
theorem tw_483 : (.selects RX1 yX1_difference yX1_difference : Cond) ∈ bm_T := bm_TT (List.mem_of_getElem? (i := 585) (by decide +kernel)) (by decide +kernel)
theorem tw_484 : (.code yX1_inVersions cX1_inVersions 5 none : Cond) ∈ bm_T := bm_TT (List.mem_of_getElem? (i := 605) (by decide +kernel)) (by decide +kernel)
theorem tw_485 : (.methodLink RX7 232 yX1_inVersions : Cond) ∈ bm_T := bm_TT (List.mem_of_getElem? (i := 602) (by decide +kernel)) (by decide +kernel)
theorem tw_486 : (.instanceMethod yX1_inVersions : Cond) ∈ bm_T := bm_TT (List.mem_of_getElem? (i := 603) (by decide +kernel)) (by decide +kernel)
theorem tw_487 : (.selects RX1 yX1_inVersions yX1_inVersions : Cond) ∈ bm_T := bm_TT (List.mem_of_getElem? (i := 604) (by decide +kernel)) (by decide +kernel)
theorem tw_488 : (.code yX7_areEven cX7_areEven 3 (some .boolean) : Cond) ∈ bm_T := bm_TT (List.mem_of_getElem? (i := 601) (by decide +kernel)) (by decide +kernel)
theorem tw_489 : (.methodLink RX7 203 yX7_areEven : Cond) ∈ bm_T := bm_TT (List.mem_of_getElem? (i := 598) (by decide +kernel)) (by decide +kernel)
theorem tw_490 : (.instanceMethod yX7_areEven : Cond) ∈ bm_T := bm_TT (List.mem_of_getElem? (i := 600) (by decide +kernel)) (by decide +kernel)
theorem tw_491 : (.selects RX7 yX7_areEven yX7_areEven : Cond) ∈ bm_T := bm_TT (List.mem_of_getElem? (i := 8) (by decide +kernel)) (by decide +kernel)
theorem tw_492 : (.code yX8_isEven cX8_isEven 7 (some .boolean) : Cond) ∈ bm_T := bm_TT (List.mem_of_getElem? (i := 964) (by decide +kernel)) (by decide +kernel)
theorem tw_493 : (.methodLink RX8 137 yX8_isEven : Cond) ∈ bm_T := bm_TT (List.mem_of_getElem? (i := 961) (by decide +kernel)) (by decide +kernel)
theorem tw_494 : (.instanceMethod yX8_isEven : Cond) ∈ bm_T := bm_TT (List.mem_of_getElem? (i := 963) (by decide +kernel)) (by decide +kernel)
theorem tw_495 : (.selects RX8 yX8_isEven yX8_isEven : Cond) ∈ bm_T := bm_TT (List.mem_of_getElem? (i := 40) (by decide +kernel)) (by decide +kernel)
theorem tw_496 : (.code yX7_pagesByWidth cX7_pagesByWidth 2 (some .int) : Cond) ∈ bm_T := bm_TT (List.mem_of_getElem? (i := 613) (by decide +kernel)) (by decide +kernel)
theorem tw_497 : (.methodLink RX7 206 yX7_pagesByWidth : Cond) ∈ bm_T := bm_TT (List.mem_of_getElem? (i := 610) (by decide +kernel)) (by decide +kernel)
theorem tw_498 : (.instanceMethod yX7_pagesByWidth : Cond) ∈ bm_T := bm_TT (List.mem_of_getElem? (i := 612) (by decide +kernel)) (by decide +kernel)
theorem tw_499 : (.selects RX7 yX7_pagesByWidth yX7_pagesByWidth : Cond) ∈ bm_T := bm_TT (List.mem_of_getElem? (i := 9) (by decide +kernel)) (by decide +kernel)
theorem tw_500 : (.code yX8_pages cX8_pages 2 (some .int) : Cond) ∈ bm_T := bm_TT (List.mem_of_getElem? (i := 972) (by decide +kernel)) (by decide +kernel)
theorem tw_501 : (.methodLink RX8 140 yX8_pages : Cond) ∈ bm_T := bm_TT (List.mem_of_getElem? (i := 969) (by decide +kernel)) (by decide +kernel)
theorem tw_502 : (.instanceMethod yX8_pages : Cond) ∈ bm_T := bm_TT (List.mem_of_getElem? (i := 971) (by decide +kernel)) (by decide +kernel)
theorem tw_503 : (.selects RX8 yX8_pages yX8_pages : Cond) ∈ bm_T := bm_TT (List.mem_of_getElem? (i := 41) (by decide +kernel)) (by decide +kernel)
theorem tw_504 : (.code yX2_restore cX2_restore 3 none : Cond) ∈ bm_T := bm_TT (List.mem_of_getElem? (i := 621) (by decide +kernel)) (by decide +kernel)
theorem tw_505 : (.methodLink RX7 209 yX2_restore : Cond) ∈ bm_T := bm_TT (List.mem_of_getElem? (i := 618) (by decide +kernel)) (by decide +kernel)
theorem tw_506 : (.instanceMethod yX2_restore : Cond) ∈ bm_T := bm_TT (List.mem_of_getElem? (i := 619) (by decide +kernel)) (by decide +kernel)
theorem tw_507 : (.selects RX2 yX2_restore yX2_restore : Cond) ∈ bm_T := bm_TT (List.mem_of_getElem? (i := 620) (by decide +kernel)) (by decide +kernel)
theorem tw_508 : (.methodLink RX6 19 yX4_put : Cond) ∈ bm_T := bm_TT (List.mem_of_getElem? (i := 630) (by decide +kernel)) (by decide +kernel)
theorem tw_509 : (.code yX6_append cX6_append 2 (some .int) : Cond) ∈ bm_T := bm_TT (List.mem_of_getElem? (i := 629) (by decide +kernel)) (by decide +kernel)
theorem tw_510 : (.methodLink RX7 212 yX6_append : Cond) ∈ bm_T := bm_TT (List.mem_of_getElem? (i := 626) (by decide +kernel)) (by decide +kernel)
theorem tw_511 : (.instanceMethod yX6_append : Cond) ∈ bm_T := bm_TT (List.mem_of_getElem? (i := 627) (by decide +kernel)) (by decide +kernel)
theorem tw_512 : (.selects RX6 yX6_append yX6_append : Cond) ∈ bm_T := bm_TT (List.mem_of_getElem? (i := 628) (by decide +kernel)) (by decide +kernel)
theorem tw_513 : (.code yX6_empty cX6_empty 2 (some .int) : Cond) ∈ bm_T := bm_TT (List.mem_of_getElem? (i := 638) (by decide +kernel)) (by decide +kernel)
theorem tw_514 : (.methodLink RX7 215 yX6_empty : Cond) ∈ bm_T := bm_TT (List.mem_of_getElem? (i := 635) (by decide +kernel)) (by decide +kernel)
theorem tw_515 : (.instanceMethod yX6_empty : Cond) ∈ bm_T := bm_TT (List.mem_of_getElem? (i := 636) (by decide +kernel)) (by decide +kernel)
theorem tw_516 : (.selects RX6 yX6_empty yX6_empty : Cond) ∈ bm_T := bm_TT (List.mem_of_getElem? (i := 637) (by decide +kernel)) (by decide +kernel)
theorem tw_517 : (.methodLink RX6 29 yX4_get : Cond) ∈ bm_T := bm_TT (List.mem_of_getElem? (i := 660) (by decide +kernel)) (by decide +kernel)
theorem tw_518 : (.code yX6_signAt cX6_signAt 2 (some .int) : Cond) ∈ bm_T := bm_TT (List.mem_of_getElem? (i := 658) (by decide +kernel)) (by decide +kernel)
theorem tw_519 : (.methodLink RX6 33 yX6_signAt : Cond) ∈ bm_T := bm_TT (List.mem_of_getElem? (i := 655) (by decide +kernel)) (by decide +kernel)
theorem tw_520 : (.instanceMethod yX6_signAt : Cond) ∈ bm_T := bm_TT (List.mem_of_getElem? (i := 656) (by decide +kernel)) (by decide +kernel)
theorem tw_521 : (.selects RX6 yX6_signAt yX6_signAt : Cond) ∈ bm_T := bm_TT (List.mem_of_getElem? (i := 657) (by decide +kernel)) (by decide +kernel)
theorem tw_522 : (.fieldLink RX0 25 "BallotPapers$Ballot" "faultAt" "I" : Cond) ∈ bm_T := bm_TT (List.mem_of_getElem? (i := 217) (by decide +kernel)) (by decide +kernel)
theorem tw_523 : (.fieldLink RX0 21 "BallotPapers$Ballot" "reason" "I" : Cond) ∈ bm_T := bm_TT (List.mem_of_getElem? (i := 218) (by decide +kernel)) (by decide +kernel)
theorem tw_524 : (.fieldLink RX0 43 "BallotPapers$Ballot" "version" "I" : Cond) ∈ bm_T := bm_TT (List.mem_of_getElem? (i := 215) (by decide +kernel)) (by decide +kernel)
theorem tw_525 : (.code yX6_hasDigitAt cX6_hasDigitAt 2 (some .boolean) : Cond) ∈ bm_T := bm_TT (List.mem_of_getElem? (i := 654) (by decide +kernel)) (by decide +kernel)
theorem tw_526 : (.methodLink RX0 46 yX6_hasDigitAt : Cond) ∈ bm_T := bm_TT (List.mem_of_getElem? (i := 651) (by decide +kernel)) (by decide +kernel)
theorem tw_527 : (.instanceMethod yX6_hasDigitAt : Cond) ∈ bm_T := bm_TT (List.mem_of_getElem? (i := 652) (by decide +kernel)) (by decide +kernel)
theorem tw_528 : (.selects RX6 yX6_hasDigitAt yX6_hasDigitAt : Cond) ∈ bm_T := bm_TT (List.mem_of_getElem? (i := 653) (by decide +kernel)) (by decide +kernel)
theorem tw_529 : (.code yX0_blame cX0_blame 3 none : Cond) ∈ bm_T := bm_TT (List.mem_of_getElem? (i := 664) (by decide +kernel)) (by decide +kernel)
theorem tw_530 : (.methodLink RX0 52 yX0_blame : Cond) ∈ bm_T := bm_TT (List.mem_of_getElem? (i := 661) (by decide +kernel)) (by decide +kernel)
theorem tw_531 : (.instanceMethod yX0_blame : Cond) ∈ bm_T := bm_TT (List.mem_of_getElem? (i := 663) (by decide +kernel)) (by decide +kernel)
theorem tw_532 : (.selects RX0 yX0_blame yX0_blame : Cond) ∈ bm_T := bm_TT (List.mem_of_getElem? (i := 11) (by decide +kernel)) (by decide +kernel)
theorem tw_533 : (.code yX6_digitAt cX6_digitAt 2 (some .int) : Cond) ∈ bm_T := bm_TT (List.mem_of_getElem? (i := 668) (by decide +kernel)) (by decide +kernel)
theorem tw_534 : (.methodLink RX0 56 yX6_digitAt : Cond) ∈ bm_T := bm_TT (List.mem_of_getElem? (i := 665) (by decide +kernel)) (by decide +kernel)
theorem tw_535 : (.instanceMethod yX6_digitAt : Cond) ∈ bm_T := bm_TT (List.mem_of_getElem? (i := 666) (by decide +kernel)) (by decide +kernel)
theorem tw_536 : (.selects RX6 yX6_digitAt yX6_digitAt : Cond) ∈ bm_T := bm_TT (List.mem_of_getElem? (i := 667) (by decide +kernel)) (by decide +kernel)
theorem tw_537 : (.methodLink RX0 60 yX6_signAt : Cond) ∈ bm_T := bm_TT (List.mem_of_getElem? (i := 669) (by decide +kernel)) (by decide +kernel)
theorem tw_538 : (.fieldLink RX0 28 "BallotPapers$Ballot" "marks" "I" : Cond) ∈ bm_T := bm_TT (List.mem_of_getElem? (i := 216) (by decide +kernel)) (by decide +kernel)
theorem tw_539 : (.methodLink RX0 75 yX4_put : Cond) ∈ bm_T := bm_TT (List.mem_of_getElem? (i := 680) (by decide +kernel)) (by decide +kernel)
theorem tw_540 : (.methodLink RX0 63 yX6_length : Cond) ∈ bm_T := bm_TT (List.mem_of_getElem? (i := 674) (by decide +kernel)) (by decide +kernel)
theorem tw_541 : (.code yX0_noteMark cX0_noteMark 4 none : Cond) ∈ bm_T := bm_TT (List.mem_of_getElem? (i := 679) (by decide +kernel)) (by decide +kernel)
theorem tw_542 : (.methodLink RX0 71 yX0_noteMark : Cond) ∈ bm_T := bm_TT (List.mem_of_getElem? (i := 676) (by decide +kernel)) (by decide +kernel)
theorem tw_543 : (.instanceMethod yX0_noteMark : Cond) ∈ bm_T := bm_TT (List.mem_of_getElem? (i := 678) (by decide +kernel)) (by decide +kernel)
theorem tw_544 : (.selects RX0 yX0_noteMark yX0_noteMark : Cond) ∈ bm_T := bm_TT (List.mem_of_getElem? (i := 13) (by decide +kernel)) (by decide +kernel)
theorem tw_545 : (.methodLink RX0 90 yX4_get : Cond) ∈ bm_T := bm_TT (List.mem_of_getElem? (i := 690) (by decide +kernel)) (by decide +kernel)
theorem tw_546 : (.methodLink RX0 97 yX3_nameAt : Cond) ∈ bm_T := bm_TT (List.mem_of_getElem? (i := 691) (by decide +kernel)) (by decide +kernel)
theorem tw_547 : (.methodLink RX0 81 yX3_hasVersion : Cond) ∈ bm_T := bm_TT (List.mem_of_getElem? (i := 685) (by decide +kernel)) (by decide +kernel)
theorem tw_548 : (.code yX0_nameOfMark cX0_nameOfMark 4 (some .int) : Cond) ∈ bm_T := bm_TT (List.mem_of_getElem? (i := 689) (by decide +kernel)) (by decide +kernel)
theorem tw_549 : (.methodLink RX0 86 yX0_nameOfMark : Cond) ∈ bm_T := bm_TT (List.mem_of_getElem? (i := 686) (by decide +kernel)) (by decide +kernel)
theorem tw_550 : (.instanceMethod yX0_nameOfMark : Cond) ∈ bm_T := bm_TT (List.mem_of_getElem? (i := 688) (by decide +kernel)) (by decide +kernel)
theorem tw_551 : (.selects RX0 yX0_nameOfMark yX0_nameOfMark : Cond) ∈ bm_T := bm_TT (List.mem_of_getElem? (i := 15) (by decide +kernel)) (by decide +kernel)
theorem tw_552 : (.code yX0_standsAhead cX0_standsAhead 3 (some .boolean) : Cond) ∈ bm_T := bm_TT (List.mem_of_getElem? (i := 695) (by decide +kernel)) (by decide +kernel)
theorem tw_553 : (.methodLink RX0 94 yX0_standsAhead : Cond) ∈ bm_T := bm_TT (List.mem_of_getElem? (i := 692) (by decide +kernel)) (by decide +kernel)
theorem tw_554 : (.instanceMethod yX0_standsAhead : Cond) ∈ bm_T := bm_TT (List.mem_of_getElem? (i := 694) (by decide +kernel)) (by decide +kernel)
theorem tw_555 : (.selects RX0 yX0_standsAhead yX0_standsAhead : Cond) ∈ bm_T := bm_TT (List.mem_of_getElem? (i := 16) (by decide +kernel)) (by decide +kernel)
theorem tw_556 : (.code yX0_readVersion cX0_readVersion 3 (some .int) : Cond) ∈ bm_T := bm_TT (List.mem_of_getElem? (i := 650) (by decide +kernel)) (by decide +kernel)
theorem tw_557 : (.methodLink RX0 31 yX0_readVersion : Cond) ∈ bm_T := bm_TT (List.mem_of_getElem? (i := 647) (by decide +kernel)) (by decide +kernel)
theorem tw_558 : (.instanceMethod yX0_readVersion : Cond) ∈ bm_T := bm_TT (List.mem_of_getElem? (i := 649) (by decide +kernel)) (by decide +kernel)
theorem tw_559 : (.selects RX0 yX0_readVersion yX0_readVersion : Cond) ∈ bm_T := bm_TT (List.mem_of_getElem? (i := 10) (by decide +kernel)) (by decide +kernel)
theorem tw_560 : (.code yX0_readMarks cX0_readMarks 4 none : Cond) ∈ bm_T := bm_TT (List.mem_of_getElem? (i := 673) (by decide +kernel)) (by decide +kernel)
theorem tw_561 : (.methodLink RX0 35 yX0_readMarks : Cond) ∈ bm_T := bm_TT (List.mem_of_getElem? (i := 670) (by decide +kernel)) (by decide +kernel)
theorem tw_562 : (.instanceMethod yX0_readMarks : Cond) ∈ bm_T := bm_TT (List.mem_of_getElem? (i := 672) (by decide +kernel)) (by decide +kernel)
theorem tw_563 : (.selects RX0 yX0_readMarks yX0_readMarks : Cond) ∈ bm_T := bm_TT (List.mem_of_getElem? (i := 12) (by decide +kernel)) (by decide +kernel)
theorem tw_564 : (.code yX0_judge cX0_judge 3 none : Cond) ∈ bm_T := bm_TT (List.mem_of_getElem? (i := 684) (by decide +kernel)) (by decide +kernel)
theorem tw_565 : (.methodLink RX0 39 yX0_judge : Cond) ∈ bm_T := bm_TT (List.mem_of_getElem? (i := 681) (by decide +kernel)) (by decide +kernel)
theorem tw_566 : (.instanceMethod yX0_judge : Cond) ∈ bm_T := bm_TT (List.mem_of_getElem? (i := 683) (by decide +kernel)) (by decide +kernel)
theorem tw_567 : (.selects RX0 yX0_judge yX0_judge : Cond) ∈ bm_T := bm_TT (List.mem_of_getElem? (i := 14) (by decide +kernel)) (by decide +kernel)
theorem tw_568 : (.code yX0_read cX0_read 4 none : Cond) ∈ bm_T := bm_TT (List.mem_of_getElem? (i := 646) (by decide +kernel)) (by decide +kernel)
theorem tw_569 : (.methodLink RX7 218 yX0_read : Cond) ∈ bm_T := bm_TT (List.mem_of_getElem? (i := 643) (by decide +kernel)) (by decide +kernel)
theorem tw_570 : (.instanceMethod yX0_read : Cond) ∈ bm_T := bm_TT (List.mem_of_getElem? (i := 644) (by decide +kernel)) (by decide +kernel)
theorem tw_571 : (.selects RX0 yX0_read yX0_read : Cond) ∈ bm_T := bm_TT (List.mem_of_getElem? (i := 645) (by decide +kernel)) (by decide +kernel)
theorem tw_572 : (.code yX0_reason cX0_reason 1 (some .int) : Cond) ∈ bm_T := bm_TT (List.mem_of_getElem? (i := 699) (by decide +kernel)) (by decide +kernel)
theorem tw_573 : (.methodLink RX7 222 yX0_reason : Cond) ∈ bm_T := bm_TT (List.mem_of_getElem? (i := 696) (by decide +kernel)) (by decide +kernel)
theorem tw_574 : (.instanceMethod yX0_reason : Cond) ∈ bm_T := bm_TT (List.mem_of_getElem? (i := 697) (by decide +kernel)) (by decide +kernel)
theorem tw_575 : (.selects RX0 yX0_reason yX0_reason : Cond) ∈ bm_T := bm_TT (List.mem_of_getElem? (i := 698) (by decide +kernel)) (by decide +kernel)
theorem tw_576 : (.code yX0_faultAt cX0_faultAt 1 (some .int) : Cond) ∈ bm_T := bm_TT (List.mem_of_getElem? (i := 703) (by decide +kernel)) (by decide +kernel)
theorem tw_577 : (.methodLink RX7 225 yX0_faultAt : Cond) ∈ bm_T := bm_TT (List.mem_of_getElem? (i := 700) (by decide +kernel)) (by decide +kernel)
theorem tw_578 : (.instanceMethod yX0_faultAt : Cond) ∈ bm_T := bm_TT (List.mem_of_getElem? (i := 701) (by decide +kernel)) (by decide +kernel)
theorem tw_579 : (.selects RX0 yX0_faultAt yX0_faultAt : Cond) ∈ bm_T := bm_TT (List.mem_of_getElem? (i := 702) (by decide +kernel)) (by decide +kernel)
theorem tw_580 : (.fieldLink RX8 143 "BallotPapersModel" "spot" "I" : Cond) ∈ bm_T := bm_TT (List.mem_of_getElem? (i := 758) (by decide +kernel)) (by decide +kernel)
theorem tw_581 : (.code yX8_isAt cX8_isAt 3 (some .boolean) : Cond) ∈ bm_T := bm_TT (List.mem_of_getElem? (i := 1004) (by decide +kernel)) (by decide +kernel)
theorem tw_582 : (.methodLink RX8 146 yX8_isAt : Cond) ∈ bm_T := bm_TT (List.mem_of_getElem? (i := 1001) (by decide +kernel)) (by decide +kernel)
theorem tw_583 : (.instanceMethod yX8_isAt : Cond) ∈ bm_T := bm_TT (List.mem_of_getElem? (i := 1003) (by decide +kernel)) (by decide +kernel)
theorem tw_584 : (.selects RX8 yX8_isAt yX8_isAt : Cond) ∈ bm_T := bm_TT (List.mem_of_getElem? (i := 45) (by decide +kernel)) (by decide +kernel)
theorem tw_585 : (.fieldLink RX8 149 "BallotPapersModel" "version" "I" : Cond) ∈ bm_T := bm_TT (List.mem_of_getElem? (i := 760) (by decide +kernel)) (by decide +kernel)
theorem tw_586 : (.fieldLink RX8 152 "BallotPapersModel" "marks" "I" : Cond) ∈ bm_T := bm_TT (List.mem_of_getElem? (i := 761) (by decide +kernel)) (by decide +kernel)
theorem tw_587 : (.code yX8_readsVersion cX8_readsVersion 2 (some .boolean) : Cond) ∈ bm_T := bm_TT (List.mem_of_getElem? (i := 1000) (by decide +kernel)) (by decide +kernel)
theorem tw_588 : (.methodLink RX8 155 yX8_readsVersion : Cond) ∈ bm_T := bm_TT (List.mem_of_getElem? (i := 997) (by decide +kernel)) (by decide +kernel)
theorem tw_589 : (.instanceMethod yX8_readsVersion : Cond) ∈ bm_T := bm_TT (List.mem_of_getElem? (i := 999) (by decide +kernel)) (by decide +kernel)
theorem tw_590 : (.selects RX8 yX8_readsVersion yX8_readsVersion : Cond) ∈ bm_T := bm_TT (List.mem_of_getElem? (i := 44) (by decide +kernel)) (by decide +kernel)
theorem tw_591 : (.code yX8_readsMark cX8_readsMark 2 (some .boolean) : Cond) ∈ bm_T := bm_TT (List.mem_of_getElem? (i := 1008) (by decide +kernel)) (by decide +kernel)
theorem tw_592 : (.methodLink RX8 159 yX8_readsMark : Cond) ∈ bm_T := bm_TT (List.mem_of_getElem? (i := 1005) (by decide +kernel)) (by decide +kernel)
theorem tw_593 : (.instanceMethod yX8_readsMark : Cond) ∈ bm_T := bm_TT (List.mem_of_getElem? (i := 1007) (by decide +kernel)) (by decide +kernel)
theorem tw_594 : (.selects RX8 yX8_readsMark yX8_readsMark : Cond) ∈ bm_T := bm_TT (List.mem_of_getElem? (i := 46) (by decide +kernel)) (by decide +kernel)
theorem tw_595 : (.fieldLink RX8 162 "BallotPapersModel" "reason" "I" : Cond) ∈ bm_T := bm_TT (List.mem_of_getElem? (i := 759) (by decide +kernel)) (by decide +kernel)
theorem tw_596 : (.code yX8_isFormed cX8_isFormed 2 (some .boolean) : Cond) ∈ bm_T := bm_TT (List.mem_of_getElem? (i := 996) (by decide +kernel)) (by decide +kernel)
theorem tw_597 : (.methodLink RX8 165 yX8_isFormed : Cond) ∈ bm_T := bm_TT (List.mem_of_getElem? (i := 993) (by decide +kernel)) (by decide +kernel)
theorem tw_598 : (.instanceMethod yX8_isFormed : Cond) ∈ bm_T := bm_TT (List.mem_of_getElem? (i := 995) (by decide +kernel)) (by decide +kernel)
theorem tw_599 : (.selects RX8 yX8_isFormed yX8_isFormed : Cond) ∈ bm_T := bm_TT (List.mem_of_getElem? (i := 43) (by decide +kernel)) (by decide +kernel)
theorem tw_600 : (.code yX8_isTwice cX8_isTwice 4 (some .boolean) : Cond) ∈ bm_T := bm_TT (List.mem_of_getElem? (i := 1012) (by decide +kernel)) (by decide +kernel)
theorem tw_601 : (.methodLink RX8 168 yX8_isTwice : Cond) ∈ bm_T := bm_TT (List.mem_of_getElem? (i := 1009) (by decide +kernel)) (by decide +kernel)
theorem tw_602 : (.instanceMethod yX8_isTwice : Cond) ∈ bm_T := bm_TT (List.mem_of_getElem? (i := 1011) (by decide +kernel)) (by decide +kernel)
theorem tw_603 : (.selects RX8 yX8_isTwice yX8_isTwice : Cond) ∈ bm_T := bm_TT (List.mem_of_getElem? (i := 47) (by decide +kernel)) (by decide +kernel)
theorem tw_604 : (.code yX8_isRight cX8_isRight 2 (some .boolean) : Cond) ∈ bm_T := bm_TT (List.mem_of_getElem? (i := 992) (by decide +kernel)) (by decide +kernel)
theorem tw_605 : (.methodLink RX8 171 yX8_isRight : Cond) ∈ bm_T := bm_TT (List.mem_of_getElem? (i := 989) (by decide +kernel)) (by decide +kernel)
theorem tw_606 : (.instanceMethod yX8_isRight : Cond) ∈ bm_T := bm_TT (List.mem_of_getElem? (i := 991) (by decide +kernel)) (by decide +kernel)
theorem tw_607 : (.selects RX8 yX8_isRight yX8_isRight : Cond) ∈ bm_T := bm_TT (List.mem_of_getElem? (i := 42) (by decide +kernel)) (by decide +kernel)
theorem tw_608 : (.methodLink RX3 86 yX3_hasName : Cond) ∈ bm_T := bm_TT (List.mem_of_getElem? (i := 734) (by decide +kernel)) (by decide +kernel)
theorem tw_609 : (.code yX3_addVote cX3_addVote 3 none : Cond) ∈ bm_T := bm_TT (List.mem_of_getElem? (i := 733) (by decide +kernel)) (by decide +kernel)
theorem tw_610 : (.methodLink RX0 127 yX3_addVote : Cond) ∈ bm_T := bm_TT (List.mem_of_getElem? (i := 730) (by decide +kernel)) (by decide +kernel)
theorem tw_611 : (.instanceMethod yX3_addVote : Cond) ∈ bm_T := bm_TT (List.mem_of_getElem? (i := 731) (by decide +kernel)) (by decide +kernel)
theorem tw_612 : (.selects RX3 yX3_addVote yX3_addVote : Cond) ∈ bm_T := bm_TT (List.mem_of_getElem? (i := 732) (by decide +kernel)) (by decide +kernel)
theorem tw_613 : (.code yX3_addBallot cX3_addBallot 1 none : Cond) ∈ bm_T := bm_TT (List.mem_of_getElem? (i := 715) (by decide +kernel)) (by decide +kernel)
theorem tw_614 : (.methodLink RX0 101 yX3_addBallot : Cond) ∈ bm_T := bm_TT (List.mem_of_getElem? (i := 712) (by decide +kernel)) (by decide +kernel)
theorem tw_615 : (.instanceMethod yX3_addBallot : Cond) ∈ bm_T := bm_TT (List.mem_of_getElem? (i := 713) (by decide +kernel)) (by decide +kernel)
theorem tw_616 : (.selects RX3 yX3_addBallot yX3_addBallot : Cond) ∈ bm_T := bm_TT (List.mem_of_getElem? (i := 714) (by decide +kernel)) (by decide +kernel)
theorem tw_617 : (.methodLink RX0 104 yX3_contests : Cond) ∈ bm_T := bm_TT (List.mem_of_getElem? (i := 716) (by decide +kernel)) (by decide +kernel)
theorem tw_618 : (.code yX0_marksIn cX0_marksIn 4 (some .int) : Cond) ∈ bm_T := bm_TT (List.mem_of_getElem? (i := 720) (by decide +kernel)) (by decide +kernel)
theorem tw_619 : (.methodLink RX0 107 yX0_marksIn : Cond) ∈ bm_T := bm_TT (List.mem_of_getElem? (i := 717) (by decide +kernel)) (by decide +kernel)
theorem tw_620 : (.instanceMethod yX0_marksIn : Cond) ∈ bm_T := bm_TT (List.mem_of_getElem? (i := 719) (by decide +kernel)) (by decide +kernel)
theorem tw_621 : (.selects RX0 yX0_marksIn yX0_marksIn : Cond) ∈ bm_T := bm_TT (List.mem_of_getElem? (i := 17) (by decide +kernel)) (by decide +kernel)
theorem tw_622 : (.methodLink RX0 110 yX3_seatsOf : Cond) ∈ bm_T := bm_TT (List.mem_of_getElem? (i := 721) (by decide +kernel)) (by decide +kernel)
theorem tw_623 : (.code yX3_addSpoilt cX3_addSpoilt 2 none : Cond) ∈ bm_T := bm_TT (List.mem_of_getElem? (i := 725) (by decide +kernel)) (by decide +kernel)
theorem tw_624 : (.methodLink RX0 113 yX3_addSpoilt : Cond) ∈ bm_T := bm_TT (List.mem_of_getElem? (i := 722) (by decide +kernel)) (by decide +kernel)
theorem tw_625 : (.instanceMethod yX3_addSpoilt : Cond) ∈ bm_T := bm_TT (List.mem_of_getElem? (i := 723) (by decide +kernel)) (by decide +kernel)
theorem tw_626 : (.selects RX3 yX3_addSpoilt yX3_addSpoilt : Cond) ∈ bm_T := bm_TT (List.mem_of_getElem? (i := 724) (by decide +kernel)) (by decide +kernel)
theorem tw_627 : (.code yX0_addVotes cX0_addVotes 4 none : Cond) ∈ bm_T := bm_TT (List.mem_of_getElem? (i := 729) (by decide +kernel)) (by decide +kernel)
theorem tw_628 : (.methodLink RX0 117 yX0_addVotes : Cond) ∈ bm_T := bm_TT (List.mem_of_getElem? (i := 726) (by decide +kernel)) (by decide +kernel)
theorem tw_629 : (.instanceMethod yX0_addVotes : Cond) ∈ bm_T := bm_TT (List.mem_of_getElem? (i := 728) (by decide +kernel)) (by decide +kernel)
theorem tw_630 : (.selects RX0 yX0_addVotes yX0_addVotes : Cond) ∈ bm_T := bm_TT (List.mem_of_getElem? (i := 18) (by decide +kernel)) (by decide +kernel)
theorem tw_631 : (.methodLink RX0 121 yX3_namesIn : Cond) ∈ bm_T := bm_TT (List.mem_of_getElem? (i := 735) (by decide +kernel)) (by decide +kernel)
theorem tw_632 : (.code yX3_addBlank cX3_addBlank 2 none : Cond) ∈ bm_T := bm_TT (List.mem_of_getElem? (i := 739) (by decide +kernel)) (by decide +kernel)
theorem tw_633 : (.methodLink RX0 124 yX3_addBlank : Cond) ∈ bm_T := bm_TT (List.mem_of_getElem? (i := 736) (by decide +kernel)) (by decide +kernel)
theorem tw_634 : (.instanceMethod yX3_addBlank : Cond) ∈ bm_T := bm_TT (List.mem_of_getElem? (i := 737) (by decide +kernel)) (by decide +kernel)
theorem tw_635 : (.selects RX3 yX3_addBlank yX3_addBlank : Cond) ∈ bm_T := bm_TT (List.mem_of_getElem? (i := 738) (by decide +kernel)) (by decide +kernel)
theorem tw_636 : (.code yX0_countIn cX0_countIn 5 (some .int) : Cond) ∈ bm_T := bm_TT (List.mem_of_getElem? (i := 711) (by decide +kernel)) (by decide +kernel)
theorem tw_637 : (.methodLink RX7 228 yX0_countIn : Cond) ∈ bm_T := bm_TT (List.mem_of_getElem? (i := 708) (by decide +kernel)) (by decide +kernel)
theorem tw_638 : (.instanceMethod yX0_countIn : Cond) ∈ bm_T := bm_TT (List.mem_of_getElem? (i := 709) (by decide +kernel)) (by decide +kernel)
theorem tw_639 : (.selects RX0 yX0_countIn yX0_countIn : Cond) ∈ bm_T := bm_TT (List.mem_of_getElem? (i := 710) (by decide +kernel)) (by decide +kernel)
theorem tw_640 : (.code yX8_marksIn cX8_marksIn 4 (some .int) : Cond) ∈ bm_T := bm_TT (List.mem_of_getElem? (i := 1020) (by decide +kernel)) (by decide +kernel)
theorem tw_641 : (.methodLink RX8 174 yX8_marksIn : Cond) ∈ bm_T := bm_TT (List.mem_of_getElem? (i := 1017) (by decide +kernel)) (by decide +kernel)
theorem tw_642 : (.instanceMethod yX8_marksIn : Cond) ∈ bm_T := bm_TT (List.mem_of_getElem? (i := 1019) (by decide +kernel)) (by decide +kernel)
theorem tw_643 : (.selects RX8 yX8_marksIn yX8_marksIn : Cond) ∈ bm_T := bm_TT (List.mem_of_getElem? (i := 48) (by decide +kernel)) (by decide +kernel)
end
section
/-! A SMALL MACHINE OVER A SMALL MEMORY, AND THAT THE MODEL'S MACHINE FOLLOWS IT.
Cells are numbered from 0: 0, 1, 2 the class's static arrays, 3 the script, from 4 on what the run makes, in its order.
A memory: kinds (a class's place in vwCl; 8 int array; 9 array of Poll), lengths, references, numbers, slots made. -/
abbrev bm_V : Type := Int32 ⊕ Option Nat
abbrev bm_M : Type := List Nat × List Nat × List (List (Option Nat)) × (Nat → Nat → Int32) × Nat
abbrev bm_R : Type := Option bm_V × bm_M
abbrev bm_C : Type := List (Option bm_V) × List bm_V × bm_M
abbrev bm_J : Type := Nat → bm_C → Option bm_R
abbrev bm_N : Type := bm_C → Option bm_R
abbrev bm_O : Type := bm_J → bm_N → bm_C → Option bm_R
abbrev bm_F : Type := List bm_V → bm_M → Option bm_R
def bm_n (M : bm_M) : Nat := M.1.length
def bm_kd (M : bm_M) (k : Nat) : Nat := M.1.getD k 99
def bm_ln (M : bm_M) (k : Nat) : Nat := M.2.1.getD k 0
def bm_rs (M : bm_M) (k : Nat) : List (Option Nat) := M.2.2.1.getD k []
def bm_rf (M : bm_M) (k j : Nat) : Option Nat := (bm_rs M k).getD j none
def bm_in (M : bm_M) : Nat → Nat → Int32 := M.2.2.2.1
def bm_sl (M : bm_M) : Nat := M.2.2.2.2
def bm_pI (M : bm_M) (k j : Nat) (v : Int32) : bm_M := (M.1, M.2.1, M.2.2.1, va_up M.2.2.2.1 k (upd (M.2.2.2.1 k) j v), M.2.2.2.2)
def bm_pA (M : bm_M) (k : Nat) (f : Nat → Int32) : bm_M := (M.1, M.2.1, M.2.2.1, va_up M.2.2.2.1 k f, M.2.2.2.2)
def bm_pR (M : bm_M) (k j : Nat) (r : Option Nat) : bm_M := (M.1, M.2.1, M.2.2.1.set k ((bm_rs M k).set j r), M.2.2.2.1, M.2.2.2.2)
def bm_nw (M : bm_M) (kd ln : Nat) (rs : List (Option Nat)) : bm_M := (M.1 ++ [kd], M.2.1 ++ [ln], M.2.2.1 ++ [rs], va_up M.2.2.2.1 M.1.length (fun _ => 0), M.2.2.2.2 + ln)
def bm_nf (ci : Nat) : Nat := [7, 1, 3, 12, 12, 2, 6, 19].getD ci 0
def bm_isr (ci j : Nat) : Bool := ([[0, 1, 2], [0], [0], [2, 3, 4, 5, 6, 7, 8, 9, 10, 11], [0, 1, 2, 3], [0], [0, 1, 2, 3, 4, 5], [0, 1, 3, 5, 6, 16, 17, 18]].getD ci []).any (fun x => Nat.beq x j)
-- what a memory's cell is on the machine
def bm_fv (ad : Nat → Nat) (M : bm_M) (k j : Nat) : Value := if bm_isr (bm_kd M k) j = true then va_rf ((bm_rf M k j).map ad) else .int (bm_in M k j)
def bm_fs (ad : Nat → Nat) (M : bm_M) (k : Nat) : List Value := (List.range (bm_nf (bm_kd M k))).map (bm_fv ad M k)
def bm_ct (ad : Nat → Nat) (cI cP : ClassId) (M : bm_M) (k : Nat) : va_E :=
  if bm_kd M k = 8 then .inl (cI, bm_ln M k, .inl (bm_in M k))
  else if bm_kd M k = 9 then .inl (cP, bm_ln M k, .inr (.inr (.inr (.inr (fun j => (bm_rf M k j).map ad)))))
  else .inr (bm_kd M k, bm_fs ad M k)
/-- what a run is given: the first new address, the addresses of cells 0 to 3, the heap then, the classes, the two array classes, lengths and contents of cells 0 to 3 -/
abbrev bm_G : Type := Nat × (Nat → Nat) × Heap × va_G × ClassId × ClassId × (Nat → Nat) × (Nat → Nat → Int32)
def bm_ad (g : bm_G) (k : Nat) : Nat := if k < 4 then g.2.1 k else g.1 + (k - 4)
def bm_tr (g : bm_G) : bm_V → Value
  | .inl x => .int x
  | .inr r => va_rf (r.map (bm_ad g))
def bm_W (g : bm_G) (M : bm_M) (H : Heap) : Prop :=
  (4 ≤ bm_n M ∧ H.size = g.1 + (bm_n M - 4) ∧ M.2.1.length = bm_n M ∧ M.2.2.1.length = bm_n M) ∧ (∀ q : Nat, q < g.1 → H[q]? = g.2.2.1[q]?) ∧
  (∀ k, 4 ≤ k → k < bm_n M → va_at g.2.2.2.1 vwCl (bm_ad g k, bm_ct (bm_ad g) g.2.2.2.2.1 g.2.2.2.2.2.1 M k) H) ∧
  (∀ k, k < 4 → bm_kd M k = 8 ∧ bm_ln M k = g.2.2.2.2.2.2.1 k ∧ ∀ j, bm_in M k j = g.2.2.2.2.2.2.2 k j)
def bm_ro (g : bm_G) (k : Nat) (U : State) : Prop :=
  g.2.1 k < g.1 ∧ ∃ cell : Cell, g.2.2.1[g.2.1 k]? = some cell ∧ U.isArrayOf cell .int ∧ cell.vm ≠ .unknown ∧ g.2.2.2.2.2.2.1 k ≤ cell.slots.size ∧ cell.slots.size.toInt32 = Int32.ofNat (g.2.2.2.2.2.2.1 k) ∧
    ∀ j : Nat, j < g.2.2.2.2.2.2.1 k → cell.slots[j]? = some (.int (g.2.2.2.2.2.2.2 k j))
abbrev bm_fr (g : bm_G) : Nat → Prop := fun q => g.1 ≤ q
def bm_nest : List Cond := [.methodLinkNest "BallotPapers$Poll" 90 yX7_within "BallotPapers", .methodLinkNest "BallotPapers$Sheet" 75 yX7_roundedUp "BallotPapers", .methodLinkNest "BallotPapers$Text" 25 yX7_within "BallotPapers", .methodLinkNest "BallotPapers$Ballot" 67 yX7_within "BallotPapers"]
def bm_K (g : bm_G) (U : State) : Prop :=
  g.1 = g.2.2.1.size ∧ va_K g.2.2.2.1 vwCl [(g.2.2.2.2.1, .int), (g.2.2.2.2.2.1, .object "BallotPapers$Poll")] U ∧ (∀ k, k < 4 → bm_ro g k U) ∧
  (va_Z "BallotPapers" "AT_FIRST" "[I" (.ref (g.2.1 0)) (bm_fr g) U g.2.2.1 ∧ va_Z "BallotPapers" "LEAST" "[I" (.ref (g.2.1 1)) (bm_fr g) U g.2.2.1 ∧ va_Z "BallotPapers" "MOST" "[I" (.ref (g.2.1 2)) (bm_fr g) U g.2.2.1) ∧
  (∀ w ∈ bm_nest, va_Nw w U) ∧ va_Nw (.fieldLinkNest "BallotPapers$Poll" 42 "BallotPapers" "AT_FIRST" "[I" "BallotPapers") U ∧ va_AO "BallotPapers$Poll" U
theorem bm_K.warm {g : bm_G} {s U : State} (hW : s.WarmedH U.vm) (h : bm_K g s) : bm_K g U := by
  obtain ⟨h0, h1, h2, ⟨h3, h4, h5⟩, h6, h7, h8⟩ := h
  refine ⟨h0, va_K.moved hW.alike h1, fun k hk => ?_, ⟨va_Z.moved hW.alike h3, va_Z.moved hW.alike h4, va_Z.moved hW.alike h5⟩, fun w hw => ?_, va_Nw.warmF hW h7, va_AO.moved hW.alike h8⟩
  · obtain ⟨a, cell, b1, b2, b3⟩ := h2 k hk
    exact ⟨a, cell, b1, State.isArrayOf_alike hW.alike b2, b3⟩
  · have h9 := h6 w hw
    simp only [bm_nest, List.mem_cons, List.not_mem_nil, or_false] at hw
    rcases hw with rfl | rfl | rfl | rfl <;> exact va_Nw.warmM hW h9
theorem bm_K.calling {g : bm_G} {U : State} {f : JFrame} {mk : MethodId} {a : Array Value} (h : bm_K g U) : bm_K g (U.calling f mk a) := by
  obtain ⟨h0, h1, h2, ⟨h3, h4, h5⟩, h6, h7, h8⟩ := h
  have hv : U.vm.Alike (U.calling f mk a).vm := Vm.Alike.refl U.vm
  refine ⟨h0, va_K.moved hv h1, fun k hk => ?_, ⟨va_Z.moved hv h3, va_Z.moved hv h4, va_Z.moved hv h5⟩, fun w hw => ?_, va_Nw.same (by rfl) rfl h7, va_AO.moved hv h8⟩
  · obtain ⟨a, cell, b1, b2, b3⟩ := h2 k hk
    exact ⟨a, cell, b1, State.isArrayOf_alike hv b2, b3⟩
  · have h9 := h6 w hw
    simp only [bm_nest, List.mem_cons, List.not_mem_nil, or_false] at hw
    rcases hw with rfl | rfl | rfl | rfl <;> exact va_Nw.same (by rfl) rfl h9
-- the memory's world moves
theorem bm_ad_ge {g : bm_G} {k : Nat} (h : 4 ≤ k) : bm_ad g k = g.1 + (k - 4) := by unfold bm_ad; rw [if_neg (by omega)]
theorem bm_W.put {g : bm_G} {M M' : bm_M} {H H' : Heap} {k : Nat} (h : bm_W g M H) (h4 : 4 ≤ k) (hk : k < bm_n M) (hl : bm_n M' = bm_n M ∧ M'.2.1.length = M.2.1.length ∧ M'.2.2.1.length = M.2.2.1.length)
    (hat : va_at g.2.2.2.1 vwCl (bm_ad g k, bm_ct (bm_ad g) g.2.2.2.2.1 g.2.2.2.2.2.1 M' k) H') (hz : H'.size = H.size) (ho : ∀ q, q ≠ bm_ad g k → H'[q]? = H[q]?)
    (hs : ∀ i, i ≠ k → bm_ct (bm_ad g) g.2.2.2.2.1 g.2.2.2.2.2.1 M' i = bm_ct (bm_ad g) g.2.2.2.2.1 g.2.2.2.2.2.1 M i ∧ bm_kd M' i = bm_kd M i ∧ bm_ln M' i = bm_ln M i ∧ ∀ j, bm_in M' i j = bm_in M i j) : bm_W g M' H' := by
  obtain ⟨⟨a1, a2, a3, a4⟩, b, c1, d⟩ := h
  have e := bm_ad_ge (g := g) h4
  refine ⟨⟨by omega, by rw [hz, a2, hl.1], by omega, by omega⟩, fun q hq => ?_, fun i i4 hi => ?_, fun i hi => ?_⟩
  · rw [ho q (by omega)]; exact b q hq
  · by_cases hik : i = k
    · subst hik; exact hat
    · rw [(hs i hik).1]
      refine (c1 i i4 (by omega)).kept (ho _ ?_)
      show bm_ad g i ≠ bm_ad g k
      rw [bm_ad_ge i4, e]; omega
  · obtain ⟨s1, s2, s3, s4⟩ := hs i (by omega)
    obtain ⟨d1, d2, d3⟩ := d i hi
    exact ⟨s2.trans d1, s3.trans d2, fun j => (s4 j).trans (d3 j)⟩
theorem bm_W.lt {g : bm_G} {M : bm_M} {H : Heap} (h : bm_W g M H) {k : Nat} (hk : bm_kd M k ≠ 99) : k < bm_n M := by
  refine Nat.lt_of_not_le fun q => hk ?_
  unfold bm_kd
  rw [List.getD_eq_getElem?_getD, List.getElem?_eq_none_iff.mpr q]; rfl
theorem bm_vf {ad : Nat → Nat} {M : bm_M} {k j : Nat} (h : j < bm_nf (bm_kd M k)) : vp_V (bm_fs ad M k) j = bm_fv ad M k j := by
  unfold vp_V bm_fs
  rw [List.getD_eq_getElem?_getD, List.getElem?_map, List.getElem?_range h]; rfl
theorem bm_fs_get {ad : Nat → Nat} {M : bm_M} {k j : Nat} (h : j < bm_nf (bm_kd M k)) : (bm_fs ad M k)[j]? = some (bm_fv ad M k j) := by
  unfold bm_fs
  rw [List.getElem?_map, List.getElem?_range h]; rfl
theorem bm_ct_ob {ad : Nat → Nat} {cI cP : ClassId} {M : bm_M} {k : Nat} (h : bm_kd M k < 8) : bm_ct ad cI cP M k = .inr (bm_kd M k, bm_fs ad M k) := by
  unfold bm_ct
  rw [if_neg (by omega), if_neg (by omega)]
theorem bm_one {D : va_G} {H : Heap} {q : Nat × va_E} (h : va_at D vwCl q H) : va_P D vwCl [q] H := by
  intro k x hk
  match k, hk with
  | 0, hk => cases hk; exact h
  | k + 1, hk => simp at hk
-- locals
def bm_lr (g : bm_G) (nL : Nat) (ls : Array Slot) (lo : List (Option bm_V)) : Prop := ls.size = nL ∧ lo.length = nL ∧ lv_wf ls ∧ ∀ (i : Nat) (v : bm_V), lo.getD i none = some v → ls[i]? = some (.val (bm_tr g v))
theorem bm_cat (g : bm_G) (v : bm_V) : (bm_tr g v).category = 1 := by
  rcases v with x | _ | x <;> rfl
def bm_lv (g : bm_G) (lo : List (Option bm_V)) : List (Nat × Value) := (List.range lo.length).filterMap (fun i => (lo.getD i none).map (fun v => (i, bm_tr g v)))
theorem bm_lv_has {g : bm_G} {nL : Nat} {ls : Array Slot} {lo : List (Option bm_V)} (h : bm_lr g nL ls lo) : lv_has ls nL (bm_lv g lo) := by
  refine ⟨h.1, h.2.2.1, fun q hq => ?_⟩
  obtain ⟨i, -, hi⟩ := List.mem_filterMap.mp hq
  cases hv : lo.getD i none with
  | none => rw [hv] at hi; cases hi
  | some v => rw [hv] at hi; cases hi; exact h.2.2.2 i v hv
theorem bm_lv_set {g : bm_G} {nL i : Nat} {ls ls' : Array Slot} {lo : List (Option bm_V)} {v : bm_V} (h : bm_lr g nL ls lo) (hi : i < nL)
    (h' : lv_has ls' nL ((i, bm_tr g v) :: (bm_lv g lo).filter (fun q => !(q.1 == i) && !(q.1 + 1 == i && q.2.category == 2)))) : bm_lr g nL ls' (lo.set i (some v)) := by
  refine ⟨h'.1, by rw [List.length_set]; exact h.2.1, h'.2.1, fun k w hk => ?_⟩
  by_cases e : k = i
  · subst e
    rw [List.getD_eq_getElem?_getD, List.getElem?_set_self (by rw [h.2.1]; exact hi)] at hk
    cases hk
    exact h'.2.2 (k, bm_tr g v) List.mem_cons_self
  · rw [List.getD_eq_getElem?_getD, List.getElem?_set_ne (Ne.symm e), ← List.getD_eq_getElem?_getD] at hk
    refine h'.2.2 (k, bm_tr g w) (List.mem_cons_of_mem _ (List.mem_filter.mpr ⟨List.mem_filterMap.mpr ⟨k, List.mem_range.mpr ?_, by rw [hk]; rfl⟩, ?_⟩))
    · refine Nat.lt_of_not_le fun q => ?_
      rw [List.getD_eq_getElem?_getD, List.getElem?_eq_none_iff.mpr q] at hk
      cases hk
    · simp [e, bm_cat]
theorem bm_no {P : Prop} {r : bm_R} (h : (none : Option bm_R) = some r) : P := by cases h
end
section
/-! THE SMALL MACHINE'S STEPS, and that each is followed -/
section BMD
variable (p : Program) (l : Launch) (e : Env) (R : Room) (s : State) (m : MethodId) (args : Array Value) (below : List Frame) (meth : Method) (c : Code) (nL : Nat) (g : bm_G) (n0 s0 : Nat) (Qf : bm_R → State → Prop)
/-- from this place, locals, stack and memory the machine comes to what the small machine answers -/
def bm_Wc (t : Nat) (x : bm_C) (r : bm_R) : Prop :=
  (bm_n x.2.2 ≤ bm_n r.2 ∧ bm_sl x.2.2 ≤ bm_sl r.2) ∧
  (n0 ≤ bm_n x.2.2 → s0 ≤ bm_sl x.2.2 → bm_n r.2 - n0 ≤ R.cells → bm_sl r.2 - s0 ≤ R.slots → ∀ (H : Heap) (locs : List Loc) (ls : Array Slot), bm_W g x.2.2 H → (∀ q ∈ locs, g.1 ≤ q.base) → bm_lr g nL ls x.1 →
    W p l e R s m args below meth c H locs (bm_n x.2.2 - n0) (bm_sl x.2.2 - s0) (Qf r) (F0 m t ls (x.2.1.map (bm_tr g))))
def bm_Sim (pc np : Nat) (op : bm_O) : Prop := ∀ (jm : bm_J) (nx : bm_N), (∀ t x r, jm t x = some r → bm_Wc p l e R s m args below meth c nL g n0 s0 Qf t x r) → (∀ x r, nx x = some r → bm_Wc p l e R s m args below meth c nL g n0 s0 Qf np x r) → ∀ x r, op jm nx x = some r → bm_Wc p l e R s m args below meth c nL g n0 s0 Qf pc x r
def bm_hd : List (Nat × bm_O) → Nat
  | [] => 0
  | q :: _ => q.1
def bm_CS (S : Nat → Nat → bm_O → Prop) : List (Nat × bm_O) → Prop
  | [] => True
  | (pc, op) :: rest => S pc (bm_hd rest) op ∧ bm_CS S rest
end BMD
def bm_ra (k : bm_J) : List (Nat × bm_O) → Nat → bm_C → Option bm_R
  | [], _, _ => none
  | (pc, op) :: rest, t, x => match Nat.beq pc t with
    | true => op (fun t' x' => match Nat.blt pc t' with
      | true => bm_ra k rest t' x'
      | false => k t' x') (fun x' => bm_ra k rest (bm_hd rest) x') x
    | false => bm_ra k rest t x
def bm_rn (code : List (Nat × bm_O)) : Nat → Nat → bm_C → Option bm_R
  | 0, _, _ => none
  | o + 1, t, x => bm_ra (bm_rn code o) code t x
/-- a method: its locals at the entry, its code, its back jumps bounded -/
def bm_me (nL : Nat) (code : List (Nat × bm_O)) : bm_F := fun al M => bm_rn code 1000 0 (al.map some ++ List.replicate (nL - al.length) none, [], M)
section BMS
variable {p : Program} {l : Launch} {e : Env} {R : Room} {s : State} {m : MethodId} {args : Array Value} {below : List Frame} {meth : Method} {c : Code} {nL : Nat} {g : bm_G} {n0 s0 : Nat} {Qf : bm_R → State → Prop}
theorem bm_ra_sim {k : bm_J} (hk : ∀ t x r, k t x = some r → bm_Wc p l e R s m args below meth c nL g n0 s0 Qf t x r) : ∀ (code : List (Nat × bm_O)), bm_CS (bm_Sim p l e R s m args below meth c nL g n0 s0 Qf) code → ∀ t x r, bm_ra k code t x = some r → bm_Wc p l e R s m args below meth c nL g n0 s0 Qf t x r
  | [], _, t, x, r, h => bm_no h
  | (pc, op) :: rest, hc, t, x, r, h => by
    have ih := bm_ra_sim hk rest hc.2
    unfold bm_ra at h
    cases hb : Nat.beq pc t with
    | false => rw [hb] at h; exact ih t x r h
    | true =>
      rw [hb] at h
      have e := Nat.eq_of_beq_eq_true hb
      subst e
      refine hc.1 _ _ (fun t' x' r' h' => ?_) (fun x' r' h' => ih _ x' r' h') x r h
      cases hl : Nat.blt pc t' with
      | true => rw [hl] at h'; exact ih t' x' r' h'
      | false => rw [hl] at h'; exact hk t' x' r' h'
theorem bm_rn_sim {code : List (Nat × bm_O)} (hc : bm_CS (bm_Sim p l e R s m args below meth c nL g n0 s0 Qf) code) : ∀ o t x r, bm_rn code o t x = some r → bm_Wc p l e R s m args below meth c nL g n0 s0 Qf t x r
  | 0, t, x, r, h => bm_no h
  | o + 1, t, x, r, h => bm_ra_sim (bm_rn_sim hc o) code hc t x r h

variable {cc : ByteArray} {pc np : Nat}
def op_const (v : Int32) : bm_O := fun _ nx x => match x with | (lo, st, M) => nx (lo, .inl v :: st, M)
theorem s_iconst (hx : p.tables.exec = Jvm.exec) (hb : c.code = cc) {n : Int} {v : Int32} (hd : decode cc pc = .ok (.iconst n, 1)) (hv : Int32.ofInt n = v) : bm_Sim p l e R s m args below meth c nL g n0 s0 Qf pc (pc + 1) (op_const v) := by
  intro jm nx hj hn x r h
  obtain ⟨lo, st, M⟩ := x
  obtain ⟨hm, hw⟩ := hn _ _ h
  exact ⟨hm, fun a1 a2 a3 a4 H locs ls b1 b2 b3 => lv_iconst hx hb hd hv (hw a1 a2 a3 a4 H locs ls b1 b2 b3)⟩
theorem s_bipush (hx : p.tables.exec = Jvm.exec) (hb : c.code = cc) {n : Int} {v : Int32} (hd : decode cc pc = .ok (.bipush n, 2)) (hv : (Int8.ofInt n).toInt32 = v) : bm_Sim p l e R s m args below meth c nL g n0 s0 Qf pc (pc + 2) (op_const v) := by
  intro jm nx hj hn x r h
  obtain ⟨lo, st, M⟩ := x
  obtain ⟨hm, hw⟩ := hn _ _ h
  exact ⟨hm, fun a1 a2 a3 a4 H locs ls b1 b2 b3 => lv_bipush hx hb hd hv (hw a1 a2 a3 a4 H locs ls b1 b2 b3)⟩
theorem s_sipush (hx : p.tables.exec = Jvm.exec) (hb : c.code = cc) {n : Int} {v : Int32} (hd : decode cc pc = .ok (.sipush n, 3)) (hv : (Int16.ofInt n).toInt32 = v) : bm_Sim p l e R s m args below meth c nL g n0 s0 Qf pc (pc + 3) (op_const v) := by
  intro jm nx hj hn x r h
  obtain ⟨lo, st, M⟩ := x
  obtain ⟨hm, hw⟩ := hn _ _ h
  exact ⟨hm, fun a1 a2 a3 a4 H locs ls b1 b2 b3 => lv_sipush hx hb hd hv (hw a1 a2 a3 a4 H locs ls b1 b2 b3)⟩
def op_iload (i : Nat) : bm_O := fun _ nx x => match x with | (lo, st, M) => match lo.getD i none with
  | some (.inl v) => nx (lo, .inl v :: st, M)
  | _ => none
def op_aload (i : Nat) : bm_O := fun _ nx x => match x with | (lo, st, M) => match lo.getD i none with
  | some (.inr (some a)) => nx (lo, .inr (some a) :: st, M)
  | _ => none
theorem s_iload_n (hx : p.tables.exec = Jvm.exec) (hb : c.code = cc) {k : Fin 4} (hd : decode cc pc = .ok (.iload_n k, 1)) : bm_Sim p l e R s m args below meth c nL g n0 s0 Qf pc (pc + 1) (op_iload k) := by
  intro jm nx hj hn x r h
  obtain ⟨lo, st, M⟩ := x
  have h0 : (match lo.getD k none with | some (.inl v) => nx (lo, (.inl v) :: st, M) | _ => none) = some r := h
  cases hv : lo.getD k none with
  | none => rw [hv] at h0; exact bm_no h0
  | some w =>
    rw [hv] at h0
    rcases w with v | w
    · obtain ⟨hm, hw⟩ := hn _ _ h0
      exact ⟨hm, fun a1 a2 a3 a4 H locs ls b1 b2 b3 => lv_iload_n hx hb hd rfl (b3.2.2.2 k _ hv) (hw a1 a2 a3 a4 H locs ls b1 b2 b3)⟩
    · exact bm_no h0
theorem s_iload (hx : p.tables.exec = Jvm.exec) (hb : c.code = cc) {i : Nat} (hd : decode cc pc = .ok (.iload i, 2)) : bm_Sim p l e R s m args below meth c nL g n0 s0 Qf pc (pc + 2) (op_iload i) := by
  intro jm nx hj hn x r h
  obtain ⟨lo, st, M⟩ := x
  have h0 : (match lo.getD i none with | some (.inl v) => nx (lo, (.inl v) :: st, M) | _ => none) = some r := h
  cases hv : lo.getD i none with
  | none => rw [hv] at h0; exact bm_no h0
  | some w =>
    rw [hv] at h0
    rcases w with v | w
    · obtain ⟨hm, hw⟩ := hn _ _ h0
      exact ⟨hm, fun a1 a2 a3 a4 H locs ls b1 b2 b3 => lv_iload hx hb hd (b3.2.2.2 i _ hv) (hw a1 a2 a3 a4 H locs ls b1 b2 b3)⟩
    · exact bm_no h0
theorem s_aload_n (hx : p.tables.exec = Jvm.exec) (hb : c.code = cc) {k : Fin 4} (hd : decode cc pc = .ok (.aload_n k, 1)) : bm_Sim p l e R s m args below meth c nL g n0 s0 Qf pc (pc + 1) (op_aload k) := by
  intro jm nx hj hn x r h
  obtain ⟨lo, st, M⟩ := x
  have h0 : (match lo.getD k none with | some (.inr (some a)) => nx (lo, (.inr (some a)) :: st, M) | _ => none) = some r := h
  cases hv : lo.getD k none with
  | none => rw [hv] at h0; exact bm_no h0
  | some w =>
    rw [hv] at h0
    rcases w with w | _ | a
    · exact bm_no h0
    · exact bm_no h0
    · obtain ⟨hm, hw⟩ := hn _ _ h0
      exact ⟨hm, fun a1 a2 a3 a4 H locs ls b1 b2 b3 => lv_aload_n hx hb hd rfl (b3.2.2.2 k _ hv) (hw a1 a2 a3 a4 H locs ls b1 b2 b3)⟩
theorem s_aload (hx : p.tables.exec = Jvm.exec) (hb : c.code = cc) {i : Nat} (hd : decode cc pc = .ok (.aload i, 2)) : bm_Sim p l e R s m args below meth c nL g n0 s0 Qf pc (pc + 2) (op_aload i) := by
  intro jm nx hj hn x r h
  obtain ⟨lo, st, M⟩ := x
  have h0 : (match lo.getD i none with | some (.inr (some a)) => nx (lo, (.inr (some a)) :: st, M) | _ => none) = some r := h
  cases hv : lo.getD i none with
  | none => rw [hv] at h0; exact bm_no h0
  | some w =>
    rw [hv] at h0
    rcases w with w | _ | a
    · exact bm_no h0
    · exact bm_no h0
    · obtain ⟨hm, hw⟩ := hn _ _ h0
      exact ⟨hm, fun a1 a2 a3 a4 H locs ls b1 b2 b3 => lv_aload hx hb hd (b3.2.2.2 i _ hv) (hw a1 a2 a3 a4 H locs ls b1 b2 b3)⟩
def op_istore (i : Nat) : bm_O := fun _ nx x => match x with | (lo, st, M) => match st with
  | .inl v :: st => bif Nat.blt i lo.length then nx (lo.set i (some (.inl v)), st, M) else none
  | _ => none
def op_astore (i : Nat) : bm_O := fun _ nx x => match x with | (lo, st, M) => match st with
  | .inr (some a) :: st => bif Nat.blt i lo.length then nx (lo.set i (some (.inr (some a))), st, M) else none
  | _ => none
theorem bm_blt {i n : Nat} {a b : Option bm_R} {r : bm_R} (h : (bif Nat.blt i n then a else none) = some r) : i < n ∧ a = some r := by
  cases hb : Nat.blt i n with
  | false => rw [hb] at h; exact bm_no h
  | true => rw [hb] at h; exact ⟨Nat.le_of_ble_eq_true hb, h⟩
theorem s_istore_n (hx : p.tables.exec = Jvm.exec) (hb : c.code = cc) {k : Fin 4} (hd : decode cc pc = .ok (.istore_n k, 1)) : bm_Sim p l e R s m args below meth c nL g n0 s0 Qf pc (pc + 1) (op_istore k) := by
  intro jm nx hj hn x r h
  obtain ⟨lo, st, M⟩ := x
  rcases st with _ | ⟨v | _ | v, st⟩
  · exact bm_no h
  · obtain ⟨hi, h⟩ := bm_blt (b := none) h
    obtain ⟨hm, hw⟩ := hn _ _ h
    refine ⟨hm, fun a1 a2 a3 a4 H locs ls b1 b2 b3 => ?_⟩
    have hi' : (k : Nat) < nL := Nat.lt_of_lt_of_eq hi b3.2.1
    exact lv_istore_n hx hb hd rfl (bm_lv_has b3) hi' rfl (fun ls' h' => hw a1 a2 a3 a4 H locs ls' b1 b2 (bm_lv_set b3 hi' h'))
  · exact bm_no h
  · exact bm_no h
theorem s_istore (hx : p.tables.exec = Jvm.exec) (hb : c.code = cc) {i : Nat} (hd : decode cc pc = .ok (.istore i, 2)) : bm_Sim p l e R s m args below meth c nL g n0 s0 Qf pc (pc + 2) (op_istore i) := by
  intro jm nx hj hn x r h
  obtain ⟨lo, st, M⟩ := x
  rcases st with _ | ⟨v | _ | v, st⟩
  · exact bm_no h
  · obtain ⟨hi, h⟩ := bm_blt (b := none) h
    obtain ⟨hm, hw⟩ := hn _ _ h
    refine ⟨hm, fun a1 a2 a3 a4 H locs ls b1 b2 b3 => ?_⟩
    have hi' : i < nL := Nat.lt_of_lt_of_eq hi b3.2.1
    exact lv_istore hx hb hd (bm_lv_has b3) hi' rfl (fun ls' h' => hw a1 a2 a3 a4 H locs ls' b1 b2 (bm_lv_set b3 hi' h'))
  · exact bm_no h
  · exact bm_no h
theorem s_astore_n (hx : p.tables.exec = Jvm.exec) (hb : c.code = cc) {k : Fin 4} (hd : decode cc pc = .ok (.astore_n k, 1)) : bm_Sim p l e R s m args below meth c nL g n0 s0 Qf pc (pc + 1) (op_astore k) := by
  intro jm nx hj hn x r h
  obtain ⟨lo, st, M⟩ := x
  rcases st with _ | ⟨v | _ | v, st⟩
  · exact bm_no h
  · exact bm_no h
  · exact bm_no h
  · obtain ⟨hi, h⟩ := bm_blt (b := none) h
    obtain ⟨hm, hw⟩ := hn _ _ h
    refine ⟨hm, fun a1 a2 a3 a4 H locs ls b1 b2 b3 => ?_⟩
    have hi' : (k : Nat) < nL := Nat.lt_of_lt_of_eq hi b3.2.1
    exact lv_astore_n hx hb hd rfl (bm_lv_has b3) hi' rfl (fun ls' h' => hw a1 a2 a3 a4 H locs ls' b1 b2 (bm_lv_set b3 hi' h'))
theorem s_astore (hx : p.tables.exec = Jvm.exec) (hb : c.code = cc) {i : Nat} (hd : decode cc pc = .ok (.astore i, 2)) : bm_Sim p l e R s m args below meth c nL g n0 s0 Qf pc (pc + 2) (op_astore i) := by
  intro jm nx hj hn x r h
  obtain ⟨lo, st, M⟩ := x
  rcases st with _ | ⟨v | _ | v, st⟩
  · exact bm_no h
  · exact bm_no h
  · exact bm_no h
  · obtain ⟨hi, h⟩ := bm_blt (b := none) h
    obtain ⟨hm, hw⟩ := hn _ _ h
    refine ⟨hm, fun a1 a2 a3 a4 H locs ls b1 b2 b3 => ?_⟩
    have hi' : i < nL := Nat.lt_of_lt_of_eq hi b3.2.1
    exact lv_astore hx hb hd (bm_lv_has b3) hi' rfl (fun ls' h' => hw a1 a2 a3 a4 H locs ls' b1 b2 (bm_lv_set b3 hi' h'))
def op_iinc (i : Nat) (n : Int32) : bm_O := fun _ nx x => match x with | (lo, st, M) => match lo.getD i none with
  | some (.inl v) => bif Nat.blt i lo.length then nx (lo.set i (some (.inl (v + n))), st, M) else none
  | _ => none
theorem s_iinc (hx : p.tables.exec = Jvm.exec) (hb : c.code = cc) {i : Nat} {n : Int} {z : Int32} (hd : decode cc pc = .ok (.iinc i n, 3)) (hz : Int32.ofInt n = z) : bm_Sim p l e R s m args below meth c nL g n0 s0 Qf pc (pc + 3) (op_iinc i z) := by
  subst hz
  intro jm nx hj hn x r h
  obtain ⟨lo, st, M⟩ := x
  have h0 : (match lo.getD i none with | some (.inl v) => (bif Nat.blt i lo.length then nx (lo.set i (some (.inl (v + Int32.ofInt n))), st, M) else none) | _ => none) = some r := h
  cases hv : lo.getD i none with
  | none => rw [hv] at h0; exact bm_no h0
  | some w =>
    rw [hv] at h0
    rcases w with v | w
    · obtain ⟨hi, h1⟩ := bm_blt (b := none) h0
      obtain ⟨hm, hw⟩ := hn _ _ h1
      refine ⟨hm, fun a1 a2 a3 a4 H locs ls b1 b2 b3 => ?_⟩
      have hi' : i < nL := Nat.lt_of_lt_of_eq hi b3.2.1
      have hmem : (i, Value.int v) ∈ bm_lv g lo := List.mem_filterMap.mpr ⟨i, List.mem_range.mpr hi, by rw [hv]; rfl⟩
      obtain ⟨k, hk⟩ := List.getElem?_of_mem hmem
      exact lv_iinc hx hb hd (bm_lv_has b3) hk rfl hi' rfl (fun ls' h' => hw a1 a2 a3 a4 H locs ls' b1 b2 (bm_lv_set (v := .inl (v + Int32.ofInt n)) b3 hi' h'))
    · exact bm_no h0
def op_bin (f : Int32 → Int32 → Int32) : bm_O := fun _ nx x => match x with | (lo, st, M) => match st with
  | .inl b :: .inl a :: st => nx (lo, .inl (f a b) :: st, M)
  | _ => none
def op_binz (f : Int32 → Int32 → Int32) : bm_O := fun _ nx x => match x with | (lo, st, M) => match st with
  | .inl b :: .inl a :: st => if b = 0 then none else nx (lo, .inl (f a b) :: st, M)
  | _ => none
theorem s_iadd (hx : p.tables.exec = Jvm.exec) (hb : c.code = cc) (hd : decode cc pc = .ok (.iadd, 1)) : bm_Sim p l e R s m args below meth c nL g n0 s0 Qf pc (pc + 1) (op_bin (fun a b => a + b)) := by
  intro jm nx hj hn x r h
  obtain ⟨lo, st, M⟩ := x
  rcases st with _ | ⟨b | b, st⟩
  · exact bm_no h
  · rcases st with _ | ⟨a | a, st⟩
    · exact bm_no h
    · obtain ⟨hm, hw⟩ := hn _ _ h
      exact ⟨hm, fun a1 a2 a3 a4 H locs ls b1 b2 b3 => lv_iadd hx hb hd (hw a1 a2 a3 a4 H locs ls b1 b2 b3)⟩
    · exact bm_no h
  · exact bm_no h
theorem s_isub (hx : p.tables.exec = Jvm.exec) (hb : c.code = cc) (hd : decode cc pc = .ok (.isub, 1)) : bm_Sim p l e R s m args below meth c nL g n0 s0 Qf pc (pc + 1) (op_bin (fun a b => a - b)) := by
  intro jm nx hj hn x r h
  obtain ⟨lo, st, M⟩ := x
  rcases st with _ | ⟨b | b, st⟩
  · exact bm_no h
  · rcases st with _ | ⟨a | a, st⟩
    · exact bm_no h
    · obtain ⟨hm, hw⟩ := hn _ _ h
      exact ⟨hm, fun a1 a2 a3 a4 H locs ls b1 b2 b3 => lv_isub hx hb hd (hw a1 a2 a3 a4 H locs ls b1 b2 b3)⟩
    · exact bm_no h
  · exact bm_no h
theorem s_imul (hx : p.tables.exec = Jvm.exec) (hb : c.code = cc) (hd : decode cc pc = .ok (.imul, 1)) : bm_Sim p l e R s m args below meth c nL g n0 s0 Qf pc (pc + 1) (op_bin (fun a b => a * b)) := by
  intro jm nx hj hn x r h
  obtain ⟨lo, st, M⟩ := x
  rcases st with _ | ⟨b | b, st⟩
  · exact bm_no h
  · rcases st with _ | ⟨a | a, st⟩
    · exact bm_no h
    · obtain ⟨hm, hw⟩ := hn _ _ h
      exact ⟨hm, fun a1 a2 a3 a4 H locs ls b1 b2 b3 => lv_imul hx hb hd (hw a1 a2 a3 a4 H locs ls b1 b2 b3)⟩
    · exact bm_no h
  · exact bm_no h
theorem s_iand (hx : p.tables.exec = Jvm.exec) (hb : c.code = cc) (hd : decode cc pc = .ok (.iand, 1)) : bm_Sim p l e R s m args below meth c nL g n0 s0 Qf pc (pc + 1) (op_bin (fun a b => a &&& b)) := by
  intro jm nx hj hn x r h
  obtain ⟨lo, st, M⟩ := x
  rcases st with _ | ⟨b | b, st⟩
  · exact bm_no h
  · rcases st with _ | ⟨a | a, st⟩
    · exact bm_no h
    · obtain ⟨hm, hw⟩ := hn _ _ h
      exact ⟨hm, fun a1 a2 a3 a4 H locs ls b1 b2 b3 => lv_iand hx hb hd (hw a1 a2 a3 a4 H locs ls b1 b2 b3)⟩
    · exact bm_no h
  · exact bm_no h
theorem s_idiv (hx : p.tables.exec = Jvm.exec) (hb : c.code = cc) (hd : decode cc pc = .ok (.idiv, 1)) : bm_Sim p l e R s m args below meth c nL g n0 s0 Qf pc (pc + 1) (op_binz (fun a b => a / b)) := by
  intro jm nx hj hn x r h
  obtain ⟨lo, st, M⟩ := x
  rcases st with _ | ⟨b | b, st⟩
  · exact bm_no h
  · rcases st with _ | ⟨a | a, st⟩
    · exact bm_no h
    · have h0 : (if b = 0 then none else nx (lo, .inl ((fun a b => a / b) a b) :: st, M)) = some r := h
      by_cases hz : b = 0
      · rw [if_pos hz] at h0; exact bm_no h0
      · rw [if_neg hz] at h0
        obtain ⟨hm, hw⟩ := hn _ _ h0
        exact ⟨hm, fun a1 a2 a3 a4 H locs ls b1 b2 b3 => lv_idiv hx hb hd hz (hw a1 a2 a3 a4 H locs ls b1 b2 b3)⟩
    · exact bm_no h
  · exact bm_no h
theorem s_irem (hx : p.tables.exec = Jvm.exec) (hb : c.code = cc) (hd : decode cc pc = .ok (.irem, 1)) : bm_Sim p l e R s m args below meth c nL g n0 s0 Qf pc (pc + 1) (op_binz (fun a b => a - a / b * b)) := by
  intro jm nx hj hn x r h
  obtain ⟨lo, st, M⟩ := x
  rcases st with _ | ⟨b | b, st⟩
  · exact bm_no h
  · rcases st with _ | ⟨a | a, st⟩
    · exact bm_no h
    · have h0 : (if b = 0 then none else nx (lo, .inl ((fun a b => a - a / b * b) a b) :: st, M)) = some r := h
      by_cases hz : b = 0
      · rw [if_pos hz] at h0; exact bm_no h0
      · rw [if_neg hz] at h0
        obtain ⟨hm, hw⟩ := hn _ _ h0
        exact ⟨hm, fun a1 a2 a3 a4 H locs ls b1 b2 b3 => lv_irem hx hb hd hz (hw a1 a2 a3 a4 H locs ls b1 b2 b3)⟩
    · exact bm_no h
  · exact bm_no h
def op_dup : bm_O := fun _ nx x => match x with | (lo, st, M) => match st with
  | v :: st => nx (lo, v :: v :: st, M)
  | _ => none
theorem s_dup (hx : p.tables.exec = Jvm.exec) (hb : c.code = cc) (hd : decode cc pc = .ok (.dup, 1)) : bm_Sim p l e R s m args below meth c nL g n0 s0 Qf pc (pc + 1) op_dup := by
  intro jm nx hj hn x r h
  obtain ⟨lo, st, M⟩ := x
  rcases st with _ | ⟨v, st⟩
  · exact bm_no h
  · obtain ⟨hm, hw⟩ := hn _ _ h
    exact ⟨hm, fun a1 a2 a3 a4 H locs ls b1 b2 b3 => lv_dup hx hb hd (bm_cat g v) (hw a1 a2 a3 a4 H locs ls b1 b2 b3)⟩
def op_dup2 : bm_O := fun _ nx x => match x with | (lo, st, M) => match st with
  | v :: w :: st => nx (lo, v :: w :: v :: w :: st, M)
  | _ => none
theorem s_dup2 (hx : p.tables.exec = Jvm.exec) (hb : c.code = cc) (hd : decode cc pc = .ok (.dup2, 1)) : bm_Sim p l e R s m args below meth c nL g n0 s0 Qf pc (pc + 1) op_dup2 := by
  intro jm nx hj hn x r h
  obtain ⟨lo, st, M⟩ := x
  rcases st with _ | ⟨v, _ | ⟨w, st⟩⟩
  · exact bm_no h
  · exact bm_no h
  · obtain ⟨hm, hw⟩ := hn _ _ h
    exact ⟨hm, fun a1 a2 a3 a4 H locs ls b1 b2 b3 => lv_dup2_11 hx hb hd (bm_cat g v) (bm_cat g w) (hw a1 a2 a3 a4 H locs ls b1 b2 b3)⟩
def op_ifeq (t : Nat) : bm_O := fun jm nx x => match x with | (lo, st, M) => match st with
  | .inl a :: st => if a = 0 then jm t (lo, st, M) else nx (lo, st, M)
  | _ => none
theorem s_ifeq (hx : p.tables.exec = Jvm.exec) (hb : c.code = cc) {off : Int} {t : Nat} (hd : decode cc pc = .ok (.ifCond .eq off, 3)) (ht : (pc : Int) + off = (t : Int)) : bm_Sim p l e R s m args below meth c nL g n0 s0 Qf pc (pc + 3) (op_ifeq t) := by
  intro jm nx hj hn x r h
  obtain ⟨lo, st, M⟩ := x
  rcases st with _ | ⟨a | a, st⟩
  · exact bm_no h
  · have h0 : (if a = 0 then jm t (lo, st, M) else nx (lo, st, M)) = some r := h
    by_cases hc : a = 0
    · rw [if_pos hc] at h0
      obtain ⟨hm, hw⟩ := hj _ _ _ h0
      exact ⟨hm, fun a1 a2 a3 a4 H locs ls b1 b2 b3 => lv_if_eq hx hb hd ht (fun _ => hw a1 a2 a3 a4 H locs ls b1 b2 b3) (fun z => absurd hc z)⟩
    · rw [if_neg hc] at h0
      obtain ⟨hm, hw⟩ := hn _ _ h0
      exact ⟨hm, fun a1 a2 a3 a4 H locs ls b1 b2 b3 => lv_if_eq hx hb hd ht (fun z => absurd z hc) (fun _ => hw a1 a2 a3 a4 H locs ls b1 b2 b3)⟩
  · exact bm_no h
def op_ifne (t : Nat) : bm_O := fun jm nx x => match x with | (lo, st, M) => match st with
  | .inl a :: st => if a = 0 then nx (lo, st, M) else jm t (lo, st, M)
  | _ => none
theorem s_ifne (hx : p.tables.exec = Jvm.exec) (hb : c.code = cc) {off : Int} {t : Nat} (hd : decode cc pc = .ok (.ifCond .ne off, 3)) (ht : (pc : Int) + off = (t : Int)) : bm_Sim p l e R s m args below meth c nL g n0 s0 Qf pc (pc + 3) (op_ifne t) := by
  intro jm nx hj hn x r h
  obtain ⟨lo, st, M⟩ := x
  rcases st with _ | ⟨a | a, st⟩
  · exact bm_no h
  · have h0 : (if a = 0 then nx (lo, st, M) else jm t (lo, st, M)) = some r := h
    by_cases hc : a = 0
    · rw [if_pos hc] at h0
      obtain ⟨hm, hw⟩ := hn _ _ h0
      exact ⟨hm, fun a1 a2 a3 a4 H locs ls b1 b2 b3 => lv_if_ne hx hb hd ht (fun z => absurd hc z) (fun _ => hw a1 a2 a3 a4 H locs ls b1 b2 b3)⟩
    · rw [if_neg hc] at h0
      obtain ⟨hm, hw⟩ := hj _ _ _ h0
      exact ⟨hm, fun a1 a2 a3 a4 H locs ls b1 b2 b3 => lv_if_ne hx hb hd ht (fun _ => hw a1 a2 a3 a4 H locs ls b1 b2 b3) (fun z => absurd z hc)⟩
  · exact bm_no h
def op_iflt (t : Nat) : bm_O := fun jm nx x => match x with | (lo, st, M) => match st with
  | .inl a :: st => if a < 0 then jm t (lo, st, M) else nx (lo, st, M)
  | _ => none
theorem s_iflt (hx : p.tables.exec = Jvm.exec) (hb : c.code = cc) {off : Int} {t : Nat} (hd : decode cc pc = .ok (.ifCond .lt off, 3)) (ht : (pc : Int) + off = (t : Int)) : bm_Sim p l e R s m args below meth c nL g n0 s0 Qf pc (pc + 3) (op_iflt t) := by
  intro jm nx hj hn x r h
  obtain ⟨lo, st, M⟩ := x
  rcases st with _ | ⟨a | a, st⟩
  · exact bm_no h
  · have h0 : (if a < 0 then jm t (lo, st, M) else nx (lo, st, M)) = some r := h
    by_cases hc : a < 0
    · rw [if_pos hc] at h0
      obtain ⟨hm, hw⟩ := hj _ _ _ h0
      exact ⟨hm, fun a1 a2 a3 a4 H locs ls b1 b2 b3 => lv_if_lt hx hb hd ht (fun _ => hw a1 a2 a3 a4 H locs ls b1 b2 b3) (fun z => absurd hc z)⟩
    · rw [if_neg hc] at h0
      obtain ⟨hm, hw⟩ := hn _ _ h0
      exact ⟨hm, fun a1 a2 a3 a4 H locs ls b1 b2 b3 => lv_if_lt hx hb hd ht (fun z => absurd z hc) (fun _ => hw a1 a2 a3 a4 H locs ls b1 b2 b3)⟩
  · exact bm_no h
def op_ifge (t : Nat) : bm_O := fun jm nx x => match x with | (lo, st, M) => match st with
  | .inl a :: st => if 0 ≤ a then jm t (lo, st, M) else nx (lo, st, M)
  | _ => none
theorem s_ifge (hx : p.tables.exec = Jvm.exec) (hb : c.code = cc) {off : Int} {t : Nat} (hd : decode cc pc = .ok (.ifCond .ge off, 3)) (ht : (pc : Int) + off = (t : Int)) : bm_Sim p l e R s m args below meth c nL g n0 s0 Qf pc (pc + 3) (op_ifge t) := by
  intro jm nx hj hn x r h
  obtain ⟨lo, st, M⟩ := x
  rcases st with _ | ⟨a | a, st⟩
  · exact bm_no h
  · have h0 : (if 0 ≤ a then jm t (lo, st, M) else nx (lo, st, M)) = some r := h
    by_cases hc : 0 ≤ a
    · rw [if_pos hc] at h0
      obtain ⟨hm, hw⟩ := hj _ _ _ h0
      exact ⟨hm, fun a1 a2 a3 a4 H locs ls b1 b2 b3 => lv_if_ge hx hb hd ht (fun _ => hw a1 a2 a3 a4 H locs ls b1 b2 b3) (fun z => absurd hc z)⟩
    · rw [if_neg hc] at h0
      obtain ⟨hm, hw⟩ := hn _ _ h0
      exact ⟨hm, fun a1 a2 a3 a4 H locs ls b1 b2 b3 => lv_if_ge hx hb hd ht (fun z => absurd z hc) (fun _ => hw a1 a2 a3 a4 H locs ls b1 b2 b3)⟩
  · exact bm_no h
def op_ifgt (t : Nat) : bm_O := fun jm nx x => match x with | (lo, st, M) => match st with
  | .inl a :: st => if 0 < a then jm t (lo, st, M) else nx (lo, st, M)
  | _ => none
theorem s_ifgt (hx : p.tables.exec = Jvm.exec) (hb : c.code = cc) {off : Int} {t : Nat} (hd : decode cc pc = .ok (.ifCond .gt off, 3)) (ht : (pc : Int) + off = (t : Int)) : bm_Sim p l e R s m args below meth c nL g n0 s0 Qf pc (pc + 3) (op_ifgt t) := by
  intro jm nx hj hn x r h
  obtain ⟨lo, st, M⟩ := x
  rcases st with _ | ⟨a | a, st⟩
  · exact bm_no h
  · have h0 : (if 0 < a then jm t (lo, st, M) else nx (lo, st, M)) = some r := h
    by_cases hc : 0 < a
    · rw [if_pos hc] at h0
      obtain ⟨hm, hw⟩ := hj _ _ _ h0
      exact ⟨hm, fun a1 a2 a3 a4 H locs ls b1 b2 b3 => lv_if_gt hx hb hd ht (fun _ => hw a1 a2 a3 a4 H locs ls b1 b2 b3) (fun z => absurd hc z)⟩
    · rw [if_neg hc] at h0
      obtain ⟨hm, hw⟩ := hn _ _ h0
      exact ⟨hm, fun a1 a2 a3 a4 H locs ls b1 b2 b3 => lv_if_gt hx hb hd ht (fun z => absurd z hc) (fun _ => hw a1 a2 a3 a4 H locs ls b1 b2 b3)⟩
  · exact bm_no h
def op_ifle (t : Nat) : bm_O := fun jm nx x => match x with | (lo, st, M) => match st with
  | .inl a :: st => if a ≤ 0 then jm t (lo, st, M) else nx (lo, st, M)
  | _ => none
theorem s_ifle (hx : p.tables.exec = Jvm.exec) (hb : c.code = cc) {off : Int} {t : Nat} (hd : decode cc pc = .ok (.ifCond .le off, 3)) (ht : (pc : Int) + off = (t : Int)) : bm_Sim p l e R s m args below meth c nL g n0 s0 Qf pc (pc + 3) (op_ifle t) := by
  intro jm nx hj hn x r h
  obtain ⟨lo, st, M⟩ := x
  rcases st with _ | ⟨a | a, st⟩
  · exact bm_no h
  · have h0 : (if a ≤ 0 then jm t (lo, st, M) else nx (lo, st, M)) = some r := h
    by_cases hc : a ≤ 0
    · rw [if_pos hc] at h0
      obtain ⟨hm, hw⟩ := hj _ _ _ h0
      exact ⟨hm, fun a1 a2 a3 a4 H locs ls b1 b2 b3 => lv_if_le hx hb hd ht (fun _ => hw a1 a2 a3 a4 H locs ls b1 b2 b3) (fun z => absurd hc z)⟩
    · rw [if_neg hc] at h0
      obtain ⟨hm, hw⟩ := hn _ _ h0
      exact ⟨hm, fun a1 a2 a3 a4 H locs ls b1 b2 b3 => lv_if_le hx hb hd ht (fun z => absurd z hc) (fun _ => hw a1 a2 a3 a4 H locs ls b1 b2 b3)⟩
  · exact bm_no h
def op_iceq (t : Nat) : bm_O := fun jm nx x => match x with | (lo, st, M) => match st with
  | .inl b :: .inl a :: st => if a = b then jm t (lo, st, M) else nx (lo, st, M)
  | _ => none
theorem s_iceq (hx : p.tables.exec = Jvm.exec) (hb : c.code = cc) {off : Int} {t : Nat} (hd : decode cc pc = .ok (.if_icmp .eq off, 3)) (ht : (pc : Int) + off = (t : Int)) : bm_Sim p l e R s m args below meth c nL g n0 s0 Qf pc (pc + 3) (op_iceq t) := by
  intro jm nx hj hn x r h
  obtain ⟨lo, st, M⟩ := x
  rcases st with _ | ⟨b | b, st⟩
  · exact bm_no h
  · rcases st with _ | ⟨a | a, st⟩
    · exact bm_no h
    · have h0 : (if a = b then jm t (lo, st, M) else nx (lo, st, M)) = some r := h
      by_cases hc : a = b
      · rw [if_pos hc] at h0
        obtain ⟨hm, hw⟩ := hj _ _ _ h0
        exact ⟨hm, fun a1 a2 a3 a4 H locs ls b1 b2 b3 => lv_icmp_eq hx hb hd ht (fun _ => hw a1 a2 a3 a4 H locs ls b1 b2 b3) (fun z => absurd hc z)⟩
      · rw [if_neg hc] at h0
        obtain ⟨hm, hw⟩ := hn _ _ h0
        exact ⟨hm, fun a1 a2 a3 a4 H locs ls b1 b2 b3 => lv_icmp_eq hx hb hd ht (fun z => absurd z hc) (fun _ => hw a1 a2 a3 a4 H locs ls b1 b2 b3)⟩
    · exact bm_no h
  · exact bm_no h
def op_icne (t : Nat) : bm_O := fun jm nx x => match x with | (lo, st, M) => match st with
  | .inl b :: .inl a :: st => if a = b then nx (lo, st, M) else jm t (lo, st, M)
  | _ => none
theorem s_icne (hx : p.tables.exec = Jvm.exec) (hb : c.code = cc) {off : Int} {t : Nat} (hd : decode cc pc = .ok (.if_icmp .ne off, 3)) (ht : (pc : Int) + off = (t : Int)) : bm_Sim p l e R s m args below meth c nL g n0 s0 Qf pc (pc + 3) (op_icne t) := by
  intro jm nx hj hn x r h
  obtain ⟨lo, st, M⟩ := x
  rcases st with _ | ⟨b | b, st⟩
  · exact bm_no h
  · rcases st with _ | ⟨a | a, st⟩
    · exact bm_no h
    · have h0 : (if a = b then nx (lo, st, M) else jm t (lo, st, M)) = some r := h
      by_cases hc : a = b
      · rw [if_pos hc] at h0
        obtain ⟨hm, hw⟩ := hn _ _ h0
        exact ⟨hm, fun a1 a2 a3 a4 H locs ls b1 b2 b3 => lv_icmp_ne hx hb hd ht (fun z => absurd hc z) (fun _ => hw a1 a2 a3 a4 H locs ls b1 b2 b3)⟩
      · rw [if_neg hc] at h0
        obtain ⟨hm, hw⟩ := hj _ _ _ h0
        exact ⟨hm, fun a1 a2 a3 a4 H locs ls b1 b2 b3 => lv_icmp_ne hx hb hd ht (fun _ => hw a1 a2 a3 a4 H locs ls b1 b2 b3) (fun z => absurd z hc)⟩
    · exact bm_no h
  · exact bm_no h
def op_iclt (t : Nat) : bm_O := fun jm nx x => match x with | (lo, st, M) => match st with
  | .inl b :: .inl a :: st => if a < b then jm t (lo, st, M) else nx (lo, st, M)
  | _ => none
theorem s_iclt (hx : p.tables.exec = Jvm.exec) (hb : c.code = cc) {off : Int} {t : Nat} (hd : decode cc pc = .ok (.if_icmp .lt off, 3)) (ht : (pc : Int) + off = (t : Int)) : bm_Sim p l e R s m args below meth c nL g n0 s0 Qf pc (pc + 3) (op_iclt t) := by
  intro jm nx hj hn x r h
  obtain ⟨lo, st, M⟩ := x
  rcases st with _ | ⟨b | b, st⟩
  · exact bm_no h
  · rcases st with _ | ⟨a | a, st⟩
    · exact bm_no h
    · have h0 : (if a < b then jm t (lo, st, M) else nx (lo, st, M)) = some r := h
      by_cases hc : a < b
      · rw [if_pos hc] at h0
        obtain ⟨hm, hw⟩ := hj _ _ _ h0
        exact ⟨hm, fun a1 a2 a3 a4 H locs ls b1 b2 b3 => lv_icmp_lt hx hb hd ht (fun _ => hw a1 a2 a3 a4 H locs ls b1 b2 b3) (fun z => absurd hc z)⟩
      · rw [if_neg hc] at h0
        obtain ⟨hm, hw⟩ := hn _ _ h0
        exact ⟨hm, fun a1 a2 a3 a4 H locs ls b1 b2 b3 => lv_icmp_lt hx hb hd ht (fun z => absurd z hc) (fun _ => hw a1 a2 a3 a4 H locs ls b1 b2 b3)⟩
    · exact bm_no h
  · exact bm_no h
def op_icge (t : Nat) : bm_O := fun jm nx x => match x with | (lo, st, M) => match st with
  | .inl b :: .inl a :: st => if b ≤ a then jm t (lo, st, M) else nx (lo, st, M)
  | _ => none
theorem s_icge (hx : p.tables.exec = Jvm.exec) (hb : c.code = cc) {off : Int} {t : Nat} (hd : decode cc pc = .ok (.if_icmp .ge off, 3)) (ht : (pc : Int) + off = (t : Int)) : bm_Sim p l e R s m args below meth c nL g n0 s0 Qf pc (pc + 3) (op_icge t) := by
  intro jm nx hj hn x r h
  obtain ⟨lo, st, M⟩ := x
  rcases st with _ | ⟨b | b, st⟩
  · exact bm_no h
  · rcases st with _ | ⟨a | a, st⟩
    · exact bm_no h
    · have h0 : (if b ≤ a then jm t (lo, st, M) else nx (lo, st, M)) = some r := h
      by_cases hc : b ≤ a
      · rw [if_pos hc] at h0
        obtain ⟨hm, hw⟩ := hj _ _ _ h0
        exact ⟨hm, fun a1 a2 a3 a4 H locs ls b1 b2 b3 => lv_icmp_ge hx hb hd ht (fun _ => hw a1 a2 a3 a4 H locs ls b1 b2 b3) (fun z => absurd hc z)⟩
      · rw [if_neg hc] at h0
        obtain ⟨hm, hw⟩ := hn _ _ h0
        exact ⟨hm, fun a1 a2 a3 a4 H locs ls b1 b2 b3 => lv_icmp_ge hx hb hd ht (fun z => absurd z hc) (fun _ => hw a1 a2 a3 a4 H locs ls b1 b2 b3)⟩
    · exact bm_no h
  · exact bm_no h
def op_icgt (t : Nat) : bm_O := fun jm nx x => match x with | (lo, st, M) => match st with
  | .inl b :: .inl a :: st => if b < a then jm t (lo, st, M) else nx (lo, st, M)
  | _ => none
theorem s_icgt (hx : p.tables.exec = Jvm.exec) (hb : c.code = cc) {off : Int} {t : Nat} (hd : decode cc pc = .ok (.if_icmp .gt off, 3)) (ht : (pc : Int) + off = (t : Int)) : bm_Sim p l e R s m args below meth c nL g n0 s0 Qf pc (pc + 3) (op_icgt t) := by
  intro jm nx hj hn x r h
  obtain ⟨lo, st, M⟩ := x
  rcases st with _ | ⟨b | b, st⟩
  · exact bm_no h
  · rcases st with _ | ⟨a | a, st⟩
    · exact bm_no h
    · have h0 : (if b < a then jm t (lo, st, M) else nx (lo, st, M)) = some r := h
      by_cases hc : b < a
      · rw [if_pos hc] at h0
        obtain ⟨hm, hw⟩ := hj _ _ _ h0
        exact ⟨hm, fun a1 a2 a3 a4 H locs ls b1 b2 b3 => lv_icmp_gt hx hb hd ht (fun _ => hw a1 a2 a3 a4 H locs ls b1 b2 b3) (fun z => absurd hc z)⟩
      · rw [if_neg hc] at h0
        obtain ⟨hm, hw⟩ := hn _ _ h0
        exact ⟨hm, fun a1 a2 a3 a4 H locs ls b1 b2 b3 => lv_icmp_gt hx hb hd ht (fun z => absurd z hc) (fun _ => hw a1 a2 a3 a4 H locs ls b1 b2 b3)⟩
    · exact bm_no h
  · exact bm_no h
def op_icle (t : Nat) : bm_O := fun jm nx x => match x with | (lo, st, M) => match st with
  | .inl b :: .inl a :: st => if a ≤ b then jm t (lo, st, M) else nx (lo, st, M)
  | _ => none
theorem s_icle (hx : p.tables.exec = Jvm.exec) (hb : c.code = cc) {off : Int} {t : Nat} (hd : decode cc pc = .ok (.if_icmp .le off, 3)) (ht : (pc : Int) + off = (t : Int)) : bm_Sim p l e R s m args below meth c nL g n0 s0 Qf pc (pc + 3) (op_icle t) := by
  intro jm nx hj hn x r h
  obtain ⟨lo, st, M⟩ := x
  rcases st with _ | ⟨b | b, st⟩
  · exact bm_no h
  · rcases st with _ | ⟨a | a, st⟩
    · exact bm_no h
    · have h0 : (if a ≤ b then jm t (lo, st, M) else nx (lo, st, M)) = some r := h
      by_cases hc : a ≤ b
      · rw [if_pos hc] at h0
        obtain ⟨hm, hw⟩ := hj _ _ _ h0
        exact ⟨hm, fun a1 a2 a3 a4 H locs ls b1 b2 b3 => lv_icmp_le hx hb hd ht (fun _ => hw a1 a2 a3 a4 H locs ls b1 b2 b3) (fun z => absurd hc z)⟩
      · rw [if_neg hc] at h0
        obtain ⟨hm, hw⟩ := hn _ _ h0
        exact ⟨hm, fun a1 a2 a3 a4 H locs ls b1 b2 b3 => lv_icmp_le hx hb hd ht (fun z => absurd z hc) (fun _ => hw a1 a2 a3 a4 H locs ls b1 b2 b3)⟩
    · exact bm_no h
  · exact bm_no h
def op_goto (t : Nat) : bm_O := fun jm _ x => match x with | (lo, st, M) => jm t (lo, st, M)
theorem s_goto (hx : p.tables.exec = Jvm.exec) (hb : c.code = cc) {off : Int} {t : Nat} (hd : decode cc pc = .ok (.goto off, 3)) (ht : (pc : Int) + off = (t : Int)) : bm_Sim p l e R s m args below meth c nL g n0 s0 Qf pc (pc + 3) (op_goto t) := by
  intro jm nx hj hn x r h
  obtain ⟨lo, st, M⟩ := x
  obtain ⟨hm, hw⟩ := hj _ _ _ h
  exact ⟨hm, fun a1 a2 a3 a4 H locs ls b1 b2 b3 => lv_goto hx hb hd ht (hw a1 a2 a3 a4 H locs ls b1 b2 b3)⟩
def op_ifnull (t : Nat) : bm_O := fun jm nx x => match x with | (lo, st, M) => match st with
  | .inr none :: st => jm t (lo, st, M)
  | .inr (some _) :: st => nx (lo, st, M)
  | _ => none
theorem s_ifnull (hx : p.tables.exec = Jvm.exec) (hb : c.code = cc) {off : Int} {t : Nat} (hd : decode cc pc = .ok (.ifnull off, 3)) (ht : (pc : Int) + off = (t : Int)) : bm_Sim p l e R s m args below meth c nL g n0 s0 Qf pc (pc + 3) (op_ifnull t) := by
  intro jm nx hj hn x r h
  obtain ⟨lo, st, M⟩ := x
  rcases st with _ | ⟨v | _ | v, st⟩
  · exact bm_no h
  · exact bm_no h
  · obtain ⟨hm, hw⟩ := hj _ _ _ h
    exact ⟨hm, fun a1 a2 a3 a4 H locs ls b1 b2 b3 => lv_ifnullN hx hb hd ht (hw a1 a2 a3 a4 H locs ls b1 b2 b3)⟩
  · obtain ⟨hm, hw⟩ := hn _ _ h
    exact ⟨hm, fun a1 a2 a3 a4 H locs ls b1 b2 b3 => lv_ifnull hx hb hd (hw a1 a2 a3 a4 H locs ls b1 b2 b3)⟩
def op_fail : bm_O := fun _ _ _ => none
theorem s_fail : bm_Sim p l e R s m args below meth c nL g n0 s0 Qf pc np op_fail := fun _ _ _ _ _ _ h => bm_no h
end BMS
end
section
/-! THE SMALL MACHINE'S STEPS ON CELLS, and that each is followed -/
theorem bm_beq {a b : Nat} {x : Option bm_R} {r : bm_R} (h : (bif Nat.beq a b then x else none) = some r) : a = b ∧ x = some r := by
  cases hb : Nat.beq a b with
  | false => rw [hb] at h; exact bm_no h
  | true => rw [hb] at h; exact ⟨Nat.eq_of_beq_eq_true hb, h⟩
theorem bm_ct_congr {ad : Nat → Nat} {cI cP : ClassId} {M M' : bm_M} {i : Nat} (h1 : bm_kd M' i = bm_kd M i) (h2 : bm_ln M' i = bm_ln M i) (h3 : bm_rs M' i = bm_rs M i) (h4 : bm_in M' i = bm_in M i) : bm_ct ad cI cP M' i = bm_ct ad cI cP M i := by
  have hf : bm_rf M' i = bm_rf M i := by funext j; unfold bm_rf; rw [h3]
  have hv : bm_fv ad M' i = bm_fv ad M i := by funext j; unfold bm_fv; rw [h1, hf, h4]
  unfold bm_ct bm_fs
  rw [h1, h2, h4, hf, hv]
theorem bm_in_pI {M : bm_M} {k i : Nat} {f : Nat → Int32} (h : i ≠ k) : bm_in (bm_pA M k f) i = bm_in M i := va_up_ne _ _ h
theorem bm_in_pS {M : bm_M} {k : Nat} {f : Nat → Int32} : bm_in (bm_pA M k f) k = f := if_pos rfl
theorem bm_W.old {g : bm_G} {M : bm_M} {H : Heap} (h : bm_W g M H) {k : Nat} (hk : bm_kd M k < 8 ∨ bm_kd M k = 9) : 4 ≤ k ∧ k < bm_n M := by
  refine ⟨Nat.le_of_not_lt fun q => ?_, h.lt (by omega)⟩
  have := (h.2.2.2 k q).1
  omega
/-- an int array of the memory, on the machine -/
theorem bm_W.arr {g : bm_G} {M : bm_M} {H : Heap} {s : State} (h : bm_W g M H) (hK : bm_K g s) {k : Nat} (hk : bm_kd M k = 8) : ∃ cell : Cell, H[bm_ad g k]? = some cell ∧ s.isArrayOf cell .int ∧ cell.vm ≠ .unknown ∧ bm_ln M k ≤ cell.slots.size ∧ cell.slots.size.toInt32 = Int32.ofNat (bm_ln M k) ∧ ∀ j : Nat, j < bm_ln M k → cell.slots[j]? = some (.int (bm_in M k j)) := by
  by_cases h4 : k < 4
  · obtain ⟨d1, d2, d3⟩ := h.2.2.2 k h4
    obtain ⟨e1, cell, e2, e3, e4, e5, e6, e7⟩ := hK.2.2.1 k h4
    have ha : bm_ad g k = g.2.1 k := if_pos h4
    refine ⟨cell, by rw [ha, h.2.1 _ e1]; exact e2, e3, e4, by rw [d2]; exact e5, by rw [d2]; exact e6, fun j hj => ?_⟩
    rw [d3 j]; exact e7 j (by rw [← d2]; exact hj)
  · have hc := h.2.2.1 k (by omega) (h.lt (by omega))
    have hA : H[bm_ad g k]? = some (arrV g.2.2.2.2.1 (bm_ln M k) (fun j => .int (bm_in M k j))) := by
      unfold bm_ct at hc
      rw [if_pos hk] at hc
      exact hc
    exact ⟨_, hA, (hK.2.1.2 0 _ rfl).1 _ _, (fun q => by cases q), by rw [arrV_size]; exact Nat.le_refl _, by rw [arrV_size] <;> rfl, fun j hj => arrV_read _ _ hj⟩
section BMH
variable {p : Program} {l : Launch} {e : Env} {R : Room} {s : State} {m : MethodId} {args : Array Value} {below : List Frame} {meth : Method} {c : Code} {nL : Nat} {g : bm_G} {n0 s0 : Nat} {Qf : bm_R → State → Prop} {cc : ByteArray} {pc np : Nat} {own : String}
def op_getI (ci j : Nat) : bm_O := fun _ nx x => match x with | (lo, st, M) => match st with
  | .inr (some a) :: st => bif Nat.beq (bm_kd M a) ci then nx (lo, .inl (bm_in M a j) :: st, M) else none
  | _ => none
theorem s_getI (hx : p.tables.exec = Jvm.exec) (hb : c.code = cc) (hown : s.vm.findClass own = some m.cls) (hts : ∀ w ∈ bm_T, w.before args s = true) (hK : bm_K g s) {ref C : String} {TT : u_T} {N ci j index : Nat} (hin : ∀ w ∈ u_ws C TT N, w ∈ bm_T) (hc : vwCl[ci]? = some (C, TT, N)) (hj0 : j < N) (hN : bm_nf ci = N) (h8 : ci < 8) (hr : bm_isr ci j = false) (hlink : Cond.fieldLink own index ref (TT j).2.1 (TT j).2.2.1 ∈ bm_T) (hsame : (TT j).1 = ref) (hd : decode cc pc = .ok (.getfield index, 3)) : bm_Sim p l e R s m args below meth c nL g n0 s0 Qf pc (pc + 3) (op_getI ci j) := by
  intro jm nx hj hn x r h
  obtain ⟨lo, st, M⟩ := x
  rcases st with _ | ⟨v | _ | a, st⟩
  · exact bm_no h
  · exact bm_no h
  · exact bm_no h
  · obtain ⟨hk, h0⟩ := bm_beq h
    change bm_kd M a = ci at hk
    obtain ⟨hm, hw⟩ := hn _ _ h0
    refine ⟨hm, fun a1 a2 a3 a4 H locs ls b1 b2 b3 => ?_⟩
    subst hk
    have h49 := b1.old (Or.inl h8)
    have hat := b1.2.2.1 a h49.1 h49.2
    change va_at _ _ (_, bm_ct _ _ _ M a) H at hat
    rw [bm_ct_ob h8] at hat
    have hv : (bm_fs (bm_ad g) M a)[j]? = some (.int (bm_in M a j)) := by
      rw [bm_fs_get (by rw [hN]; exact hj0)]
      unfold bm_fv
      rw [if_neg (by rw [hr]; decide)]
    exact va_get hx hb hts hin hown hK.2.1 (bm_one hat) 0 rfl hc j hj0 (hts _ hlink) (fun x h9 => by rw [← hsame]; exact h9) hv hd (hw a1 a2 a3 a4 H locs ls b1 b2 b3)
def op_getR (ci j : Nat) : bm_O := fun _ nx x => match x with | (lo, st, M) => match st with
  | .inr (some a) :: st => bif Nat.beq (bm_kd M a) ci then nx (lo, .inr (bm_rf M a j) :: st, M) else none
  | _ => none
theorem s_getR (hx : p.tables.exec = Jvm.exec) (hb : c.code = cc) (hown : s.vm.findClass own = some m.cls) (hts : ∀ w ∈ bm_T, w.before args s = true) (hK : bm_K g s) {ref C : String} {TT : u_T} {N ci j index : Nat} (hin : ∀ w ∈ u_ws C TT N, w ∈ bm_T) (hc : vwCl[ci]? = some (C, TT, N)) (hj0 : j < N) (hN : bm_nf ci = N) (h8 : ci < 8) (hr : bm_isr ci j = true) (hlink : Cond.fieldLink own index ref (TT j).2.1 (TT j).2.2.1 ∈ bm_T) (hsame : (TT j).1 = ref) (hd : decode cc pc = .ok (.getfield index, 3)) : bm_Sim p l e R s m args below meth c nL g n0 s0 Qf pc (pc + 3) (op_getR ci j) := by
  intro jm nx hj hn x r h
  obtain ⟨lo, st, M⟩ := x
  rcases st with _ | ⟨v | _ | a, st⟩
  · exact bm_no h
  · exact bm_no h
  · exact bm_no h
  · obtain ⟨hk, h0⟩ := bm_beq h
    change bm_kd M a = ci at hk
    obtain ⟨hm, hw⟩ := hn _ _ h0
    refine ⟨hm, fun a1 a2 a3 a4 H locs ls b1 b2 b3 => ?_⟩
    subst hk
    have h49 := b1.old (Or.inl h8)
    have hat := b1.2.2.1 a h49.1 h49.2
    change va_at _ _ (_, bm_ct _ _ _ M a) H at hat
    rw [bm_ct_ob h8] at hat
    have hv : (bm_fs (bm_ad g) M a)[j]? = some (va_rf ((bm_rf M a j).map (bm_ad g))) := by
      rw [bm_fs_get (by rw [hN]; exact hj0)]
      unfold bm_fv
      rw [if_pos hr]
    exact va_get hx hb hts hin hown hK.2.1 (bm_one hat) 0 rfl hc j hj0 (hts _ hlink) (fun x h9 => by rw [← hsame]; exact h9) hv hd (hw a1 a2 a3 a4 H locs ls b1 b2 b3)
theorem bm_fs_len {ad : Nat → Nat} {M : bm_M} {k : Nat} : (bm_fs ad M k).length = bm_nf (bm_kd M k) := by unfold bm_fs; simp
theorem bm_fs_set {ad : Nat → Nat} {M M' : bm_M} {k j : Nat} {v : Value} (h1 : bm_kd M' k = bm_kd M k) (hj : j < bm_nf (bm_kd M k)) (hv : bm_fv ad M' k j = v) (ho : ∀ i, i ≠ j → bm_fv ad M' k i = bm_fv ad M k i) : bm_fs ad M' k = (bm_fs ad M k).set j v := by
  apply List.ext_getElem?
  intro i
  by_cases hi : i < bm_nf (bm_kd M k)
  · rw [bm_fs_get (by rw [h1]; exact hi)]
    by_cases e : i = j
    · subst e
      rw [List.getElem?_set_self (by rw [bm_fs_len]; exact hi), hv]
    · rw [List.getElem?_set_ne (Ne.symm e), bm_fs_get hi, ho i e]
  · rw [List.getElem?_eq_none_iff.mpr (by rw [bm_fs_len, h1]; omega), List.getElem?_eq_none_iff.mpr (by rw [List.length_set, bm_fs_len]; omega)]
/-- a field written: the object's cell, all else as it was -/
theorem bm_wput (hx : p.tables.exec = Jvm.exec) (hb : c.code = cc) (hown : s.vm.findClass own = some m.cls) (hts : ∀ w ∈ bm_T, w.before args s = true) (hK : bm_K g s) {ref C : String} {TT : u_T} {N ci j index : Nat} (hin : ∀ w ∈ u_ws C TT N, w ∈ bm_T) (hc : vwCl[ci]? = some (C, TT, N)) (hj0 : j < N) (hN : bm_nf ci = N) (h8 : ci < 8) (ty0 : Nat → FieldType) (hty : ∀ k, k < N → parseFieldDescriptor (TT k).2.2.1 = some (ty0 k)) (hnm : ∀ a, a < N → ∀ b, b < N → a ≠ b → (TT a).2.1 ≠ (TT b).2.1) (hlink : Cond.fieldLink own index ref (TT j).2.1 (TT j).2.2.1 ∈ bm_T) (hsame : (TT j).1 = ref) {H : Heap} {locs : List Loc} {cells slots : Nat} {Q : State → Prop} {ls : Array Slot} {rest : List Value} {a : Nat} {fs : List Value} {v : Value} {ty : FieldType}
    (hat : va_at g.2.2.2.1 vwCl (a, .inr (ci, fs)) H) (hfin : (TT j).2.2.2 = false ∨ ((TT j).2.2.2 = true ∧ meth.name = "<init>" ∧ (TT j).1 = own)) (hdt : parseFieldDescriptor (TT j).2.2.1 = some ty) (hn : narrow ty v = v) (hfit : fits ty v = true) (hl : j < fs.length) (hd : decode cc pc = .ok (.putfield index, 3))
    (kk : ∀ (H1 : Heap) (i : Nat), va_at g.2.2.2.1 vwCl (a, .inr (ci, fs.set j v)) H1 → H1.size = H.size → (∀ q, q ≠ a → H1[q]? = H[q]?) → W p l e R s m args below meth c H1 (locs ++ [⟨a, i⟩]) cells slots Q (F0 m (pc + 3) ls rest)) : W p l e R s m args below meth c H locs cells slots Q (F0 m pc ls (v :: .ref a :: rest)) := by
  have hap := va_apart (own := own) hts hin ty0 hty hnm hK.2.1 hc
  obtain ⟨r, h1, cell, q1, q2, q3, q4⟩ := hat
  have hr : r = (C, TT, N) := Option.some.inj (h1.symm.trans hc)
  subst hr
  obtain ⟨hS, hfc, kC, hkC, hkind⟩ := hK.2.1.1 ci _ hc
  obtain ⟨cf, kf, fi, f, hi, hsl⟩ := hS j hj0
  have hlay := hts _ (hin _ (u_in_lay hj0))
  unfold u_lay at hlay
  have hst := (u_facts hfc hkC (u_lays hts hin hj0) hi).1
  have hsame' : s.fieldFound? ref (TT j).2.1 (TT j).2.2.1 = some (cf, kf, fi, f) := by rw [← hsame]; exact hi
  have fin : ∀ (H' : Heap), H'[a]? = some (cell.setSlot f.slot v) → H'.size = H.size → (∀ q, q ≠ a → H'[q]? = H[q]?) → W p l e R s m args below meth c H' (locs ++ [⟨a, f.slot⟩]) cells slots Q (F0 m (pc + 3) ls rest) := by
    intro H' e1 e2 e3
    rw [hsl] at e1
    exact kk H' _ ⟨_, hc, t_OB.to (V := updV (vp_V fs) j v) ⟨_, e1, q2, q3, t_set q4 hap hj0 v⟩ (fun i _ => vp_updV_set hl v i)⟩ e2 e3
  rcases hfin with hfin | ⟨hfin, hin2, hdecl⟩
  · rw [if_neg (by rw [hfin]; decide)] at hlay
    have h6 := u_store hfc hkC hkind hlay hi hdt hn hfit
    exact W.putK hx hb (f := f) ⟨hown, hts _ hlink, ⟨_, _, _, hsame'⟩, hst⟩ (by rw [q2]; exact h6) q1 q3 (by rw [hsl]; exact k2_hasslot (q4 j hj0)) rfl rfl hd fin
  · rw [if_pos hfin] at hlay
    have hcf : m.cls = cf := by
      obtain ⟨_, _, c', _, _, _, -, -, hf', -, -, -, hown2, -⟩ := Cond.laysFinal_spec hlay
      have e1 : c' = cf := by have := hi.symm.trans hf'; simp at this; exact this.1.symm
      rw [hdecl] at hown2
      rw [← e1]; exact Option.some.inj (hown.symm.trans hown2)
    have h6 := u_fits hfc hkC hkind (Or.inr hlay) hi hdt hn hfit
    exact W.putFinK hx hb hown (hts _ hlink) hsame' hst hcf hin2 (by rw [q2]; exact h6) q1 q3 (by rw [hsl]; exact k2_hasslot (q4 j hj0)) rfl rfl hd fin
theorem bm_locs {locs : List Loc} {a i : Nat} (h : ∀ q ∈ locs, g.1 ≤ q.base) (ha : g.1 ≤ a) : ∀ q ∈ locs ++ [(⟨a, i⟩ : Loc)], g.1 ≤ q.base := by
  intro q hq
  rcases List.mem_append.mp hq with h1 | h1
  · exact h q h1
  · rw [List.mem_singleton.mp h1]; exact ha
def op_putI (ci j : Nat) : bm_O := fun _ nx x => match x with | (lo, st, M) => match st with
  | .inl v :: .inr (some a) :: st => bif Nat.beq (bm_kd M a) ci then nx (lo, st, bm_pI M a j v) else none
  | _ => none
theorem bm_in_pI2 {M : bm_M} {k j : Nat} {v : Int32} : bm_in (bm_pI M k j v) k = upd (bm_in M k) j v := if_pos rfl
theorem s_putI (hx : p.tables.exec = Jvm.exec) (hb : c.code = cc) (hown : s.vm.findClass own = some m.cls) (hts : ∀ w ∈ bm_T, w.before args s = true) (hK : bm_K g s) {ref C : String} {TT : u_T} {N ci j index : Nat} (hin : ∀ w ∈ u_ws C TT N, w ∈ bm_T) (hc : vwCl[ci]? = some (C, TT, N)) (hj0 : j < N) (hN : bm_nf ci = N) (h8 : ci < 8) (ty0 : Nat → FieldType) (hty : ∀ k, k < N → parseFieldDescriptor (TT k).2.2.1 = some (ty0 k)) (hnm : ∀ a, a < N → ∀ b, b < N → a ≠ b → (TT a).2.1 ≠ (TT b).2.1) (hr : bm_isr ci j = false) (hlink : Cond.fieldLink own index ref (TT j).2.1 (TT j).2.2.1 ∈ bm_T) (hsame : (TT j).1 = ref) (hfin : (TT j).2.2.2 = false) (hdt : parseFieldDescriptor (TT j).2.2.1 = some .int) (hd : decode cc pc = .ok (.putfield index, 3)) : bm_Sim p l e R s m args below meth c nL g n0 s0 Qf pc (pc + 3) (op_putI ci j) := by
  intro jm nx hj hn x r h
  obtain ⟨lo, st, M⟩ := x
  rcases st with _ | ⟨v | v, st⟩
  · exact bm_no h
  · rcases st with _ | ⟨w | _ | a, st⟩
    · exact bm_no h
    · exact bm_no h
    · exact bm_no h
    · obtain ⟨hk, h0⟩ := bm_beq h
      change bm_kd M a = ci at hk
      obtain ⟨hm, hw⟩ := hn _ _ h0
      refine ⟨hm, fun a1 a2 a3 a4 H locs ls b1 b2 b3 => ?_⟩
      subst hk
      have h49 := b1.old (Or.inl h8)
      have hat := b1.2.2.1 a h49.1 h49.2
      change va_at _ _ (_, bm_ct _ _ _ M a) H at hat
      rw [bm_ct_ob h8] at hat
      have hjf : j < bm_nf (bm_kd M a) := by rw [hN]; exact hj0
      refine bm_wput hx hb hown hts hK hin hc hj0 hN h8 ty0 hty hnm hlink hsame hat (Or.inl hfin) hdt rfl rfl (by rw [bm_fs_len]; exact hjf) hd (fun H1 i e1 e2 e3 => ?_)
      refine hw a1 a2 a3 a4 H1 _ ls (b1.put (M' := bm_pI M a j v) h49.1 h49.2 ⟨rfl, rfl, rfl⟩ ?_ e2 e3 (fun i hi => ?_)) (bm_locs b2 (by rw [bm_ad_ge h49.1]; omega)) b3
      · rw [bm_ct_ob (M := bm_pI M a j v) h8, bm_fs_set (M := M) (M' := bm_pI M a j v) rfl hjf (v := .int v) ?_ ?_]
        · exact e1
        · unfold bm_fv; rw [if_neg (by show ¬ bm_isr (bm_kd M a) j = true; rw [hr]; decide), bm_in_pI2]; simp [upd]
        · intro i hi; unfold bm_fv; rw [bm_in_pI2]; simp only [upd, if_neg hi]; rfl
      · have hI : bm_in (bm_pI M a j v) i = bm_in M i := va_up_ne _ _ hi
        exact ⟨bm_ct_congr rfl rfl rfl hI, rfl, rfl, fun _ => by rw [hI]⟩
  · exact bm_no h
def op_putR (ci j : Nat) : bm_O := fun _ nx x => match x with | (lo, st, M) => match st with
  | .inr (some v) :: .inr (some a) :: st => bif Nat.beq (bm_kd M a) ci then (bif Nat.blt j (bm_rs M a).length then nx (lo, st, bm_pR M a j (some v)) else none) else none
  | _ => none
theorem bm_rs_pR {M : bm_M} {k j i : Nat} {r : Option Nat} (h : i ≠ k) : bm_rs (bm_pR M k j r) i = bm_rs M i := by
  unfold bm_rs bm_pR
  simp only [List.getD_eq_getElem?_getD]
  rw [List.getElem?_set_ne (Ne.symm h)]
theorem bm_rs_pS {M : bm_M} {k j : Nat} {r : Option Nat} (h : k < M.2.2.1.length) : bm_rs (bm_pR M k j r) k = (bm_rs M k).set j r := by
  unfold bm_pR
  show (M.2.2.1.set k _).getD k [] = _
  rw [List.getD_eq_getElem?_getD, List.getElem?_set_self h]; rfl
theorem bm_rf_pS {M : bm_M} {k j i : Nat} {r : Option Nat} (h : k < M.2.2.1.length) (hj : j < (bm_rs M k).length) : bm_rf (bm_pR M k j r) k i = if i = j then r else bm_rf M k i := by
  unfold bm_rf
  rw [bm_rs_pS h, List.getD_eq_getElem?_getD]
  by_cases e : i = j
  · subst e; rw [List.getElem?_set_self hj, if_pos rfl]; rfl
  · rw [List.getElem?_set_ne (Ne.symm e), if_neg e, ← List.getD_eq_getElem?_getD]
theorem s_putR (hx : p.tables.exec = Jvm.exec) (hb : c.code = cc) (hown : s.vm.findClass own = some m.cls) (hts : ∀ w ∈ bm_T, w.before args s = true) (hK : bm_K g s) {ref C : String} {TT : u_T} {N ci j index : Nat} (hin : ∀ w ∈ u_ws C TT N, w ∈ bm_T) (hc : vwCl[ci]? = some (C, TT, N)) (hj0 : j < N) (hN : bm_nf ci = N) (h8 : ci < 8) (ty0 : Nat → FieldType) (hty : ∀ k, k < N → parseFieldDescriptor (TT k).2.2.1 = some (ty0 k)) (hnm : ∀ a, a < N → ∀ b, b < N → a ≠ b → (TT a).2.1 ≠ (TT b).2.1) (hr : bm_isr ci j = true) (hlink : Cond.fieldLink own index ref (TT j).2.1 (TT j).2.2.1 ∈ bm_T) (hsame : (TT j).1 = ref) (hfin : (TT j).2.2.2 = true ∧ meth.name = "<init>" ∧ (TT j).1 = own) {ty : FieldType} (hdt : parseFieldDescriptor (TT j).2.2.1 = some ty) (hnr : ∀ q, narrow ty (.ref q) = .ref q ∧ fits ty (.ref q) = true) (hd : decode cc pc = .ok (.putfield index, 3)) : bm_Sim p l e R s m args below meth c nL g n0 s0 Qf pc (pc + 3) (op_putR ci j) := by
  intro jm nx hj hn x r h
  obtain ⟨lo, st, M⟩ := x
  rcases st with _ | ⟨v | _ | v, st⟩
  · exact bm_no h
  · exact bm_no h
  · exact bm_no h
  · rcases st with _ | ⟨w | _ | a, st⟩
    · exact bm_no h
    · exact bm_no h
    · exact bm_no h
    · obtain ⟨hk, h1⟩ := bm_beq h
      change bm_kd M a = ci at hk
      obtain ⟨hjl, h0⟩ := bm_blt (b := none) h1
      change j < (bm_rs M a).length at hjl
      obtain ⟨hm, hw⟩ := hn _ _ h0
      refine ⟨hm, fun a1 a2 a3 a4 H locs ls b1 b2 b3 => ?_⟩
      subst hk
      have h49 := b1.old (Or.inl h8)
      have hat := b1.2.2.1 a h49.1 h49.2
      change va_at _ _ (_, bm_ct _ _ _ M a) H at hat
      rw [bm_ct_ob h8] at hat
      have hjf : j < bm_nf (bm_kd M a) := by rw [hN]; exact hj0
      have hrl : a < M.2.2.1.length := Nat.lt_of_lt_of_eq h49.2 b1.1.2.2.2.symm
      refine bm_wput hx hb hown hts hK hin hc hj0 hN h8 ty0 hty hnm hlink hsame hat (Or.inr hfin) hdt (hnr _).1 (hnr _).2 (by rw [bm_fs_len]; exact hjf) hd (fun H1 i e1 e2 e3 => ?_)
      refine hw a1 a2 a3 a4 H1 _ ls (b1.put (M' := bm_pR M a j (some v)) h49.1 h49.2 ⟨rfl, rfl, by show (M.2.2.1.set _ _).length = _; rw [List.length_set]⟩ ?_ e2 e3 (fun i hi => ?_)) (bm_locs b2 (by rw [bm_ad_ge h49.1]; omega)) b3
      · rw [bm_ct_ob (M := bm_pR M a j (some v)) h8, bm_fs_set (M := M) (M' := bm_pR M a j (some v)) rfl hjf (v := .ref (bm_ad g v)) ?_ ?_]
        · exact e1
        · unfold bm_fv; rw [if_pos (show bm_isr (bm_kd (bm_pR M a j (some v)) a) j = true from hr), bm_rf_pS hrl hjl, if_pos rfl]; rfl
        · intro i hi; unfold bm_fv; rw [bm_rf_pS hrl hjl, if_neg hi]; rfl
      · exact ⟨bm_ct_congr rfl rfl (bm_rs_pR hi) rfl, rfl, rfl, fun _ => rfl⟩
end BMH
end
section
/-! ARRAYS, NEW CELLS, STATICS, SWITCHES, THE LIBRARY'S OWN METHODS, RETURNS, CALLS -/
section BMI
variable {p : Program} {l : Launch} {e : Env} {R : Room} {s : State} {m : MethodId} {args : Array Value} {below : List Frame} {meth : Method} {c : Code} {nL : Nat} {g : bm_G} {n0 s0 : Nat} {Qf : bm_R → State → Prop} {cc : ByteArray} {pc np : Nat} {own : String}
def op_iaload : bm_O := fun _ nx x => match x with | (lo, st, M) => match st with
  | .inl i :: .inr (some a) :: st => bif Nat.beq (bm_kd M a) 8 then (if i < 0 ∨ bm_ln M a ≤ i.toNatClampNeg then none else nx (lo, .inl (bm_in M a i.toNatClampNeg) :: st, M)) else none
  | _ => none
theorem s_iaload (hx : p.tables.exec = Jvm.exec) (hb : c.code = cc) (hK : bm_K g s) (hd : decode cc pc = .ok (.iaload, 1)) : bm_Sim p l e R s m args below meth c nL g n0 s0 Qf pc (pc + 1) op_iaload := by
  intro jm nx hj hn x r h
  obtain ⟨lo, st, M⟩ := x
  rcases st with _ | ⟨i | i, st⟩
  · exact bm_no h
  · rcases st with _ | ⟨w | _ | a, st⟩
    · exact bm_no h
    · exact bm_no h
    · exact bm_no h
    · obtain ⟨hk, h1⟩ := bm_beq h
      change bm_kd M a = 8 at hk
      change (if i < 0 ∨ bm_ln M a ≤ i.toNatClampNeg then none else nx (lo, .inl (bm_in M a i.toNatClampNeg) :: st, M)) = some r at h1
      by_cases hi : i < 0 ∨ bm_ln M a ≤ i.toNatClampNeg
      · rw [if_pos hi] at h1; exact bm_no h1
      · rw [if_neg hi] at h1
        obtain ⟨hm, hw⟩ := hn _ _ h1
        refine ⟨hm, fun a1 a2 a3 a4 H locs ls b1 b2 b3 => ?_⟩
        obtain ⟨cell, e1, e2, e3, e4, e5, e6⟩ := b1.arr hK hk
        exact W.iald hx hb e1 e2 e3 (fun q => hi (q.imp_right (fun z => Nat.le_trans e4 z))) (e6 _ (Nat.lt_of_not_le fun z => hi (Or.inr z))) rfl rfl hd (hw a1 a2 a3 a4 H locs ls b1 b2 b3)
  · exact bm_no h
def op_alen : bm_O := fun _ nx x => match x with | (lo, st, M) => match st with
  | .inr (some a) :: st => bif (Nat.beq (bm_kd M a) 8 || Nat.beq (bm_kd M a) 9) then nx (lo, .inl (Int32.ofNat (bm_ln M a)) :: st, M) else none
  | _ => none
theorem bm_bif {b : Bool} {x : Option bm_R} {r : bm_R} (h : (bif b then x else none) = some r) : b = true ∧ x = some r := by
  cases b with
  | false => exact bm_no h
  | true => exact ⟨rfl, h⟩
theorem s_alen (hx : p.tables.exec = Jvm.exec) (hb : c.code = cc) (hK : bm_K g s) (hd : decode cc pc = .ok (.arraylength, 1)) : bm_Sim p l e R s m args below meth c nL g n0 s0 Qf pc (pc + 1) op_alen := by
  intro jm nx hj hn x r h
  obtain ⟨lo, st, M⟩ := x
  rcases st with _ | ⟨v | _ | a, st⟩
  · exact bm_no h
  · exact bm_no h
  · exact bm_no h
  · obtain ⟨hk, h1⟩ := bm_bif h
    change (Nat.beq (bm_kd M a) 8 || Nat.beq (bm_kd M a) 9) = true at hk
    obtain ⟨hm, hw⟩ := hn _ _ h1
    refine ⟨hm, fun a1 a2 a3 a4 H locs ls b1 b2 b3 => ?_⟩
    rcases (Bool.or_eq_true _ _).mp hk with hk | hk
    · obtain ⟨cell, e1, e2, e3, e4, e5, e6⟩ := b1.arr hK (Nat.eq_of_beq_eq_true hk)
      exact W.alen hx hb e1 e2 e5 rfl rfl hd (hw a1 a2 a3 a4 H locs ls b1 b2 b3)
    · have hk9 := Nat.eq_of_beq_eq_true hk
      have h49 := b1.old (Or.inr hk9)
      have hc := b1.2.2.1 a h49.1 h49.2
      change va_at _ _ (_, bm_ct _ _ _ M a) H at hc
      unfold bm_ct at hc
      rw [if_neg (by rw [hk9]; decide), if_pos hk9] at hc
      exact va_alen hx hb hK.2.1 (bm_one hc) 0 1 rfl rfl rfl hd (hw a1 a2 a3 a4 H locs ls b1 b2 b3)
def op_aaload : bm_O := fun _ nx x => match x with | (lo, st, M) => match st with
  | .inl i :: .inr (some a) :: st => bif Nat.beq (bm_kd M a) 9 then (if i < 0 ∨ bm_ln M a ≤ i.toNatClampNeg then none else nx (lo, .inr (bm_rf M a i.toNatClampNeg) :: st, M)) else none
  | _ => none
theorem s_aaload (hx : p.tables.exec = Jvm.exec) (hb : c.code = cc) (hK : bm_K g s) (hd : decode cc pc = .ok (.aaload, 1)) : bm_Sim p l e R s m args below meth c nL g n0 s0 Qf pc (pc + 1) op_aaload := by
  intro jm nx hj hn x r h
  obtain ⟨lo, st, M⟩ := x
  rcases st with _ | ⟨i | i, st⟩
  · exact bm_no h
  · rcases st with _ | ⟨w | _ | a, st⟩
    · exact bm_no h
    · exact bm_no h
    · exact bm_no h
    · obtain ⟨hk, h1⟩ := bm_beq h
      change bm_kd M a = 9 at hk
      change (if i < 0 ∨ bm_ln M a ≤ i.toNatClampNeg then none else nx (lo, .inr (bm_rf M a i.toNatClampNeg) :: st, M)) = some r at h1
      by_cases hi : i < 0 ∨ bm_ln M a ≤ i.toNatClampNeg
      · rw [if_pos hi] at h1; exact bm_no h1
      · rw [if_neg hi] at h1
        obtain ⟨hm, hw⟩ := hn _ _ h1
        refine ⟨hm, fun a1 a2 a3 a4 H locs ls b1 b2 b3 => ?_⟩
        have h49 := b1.old (Or.inr hk)
        have hc := b1.2.2.1 a h49.1 h49.2
        change va_at _ _ (_, bm_ct _ _ _ M a) H at hc
        unfold bm_ct at hc
        rw [if_neg (by rw [hk]; decide), if_pos hk] at hc
        exact va_aldq hx hb hK.2.1 (bm_one hc) 0 1 rfl rfl hi hd (hw a1 a2 a3 a4 H locs ls b1 b2 b3)
  · exact bm_no h
def op_iastore : bm_O := fun _ nx x => match x with | (lo, st, M) => match st with
  | .inl v :: .inl i :: .inr (some a) :: st => bif (Nat.beq (bm_kd M a) 8 && Nat.ble 4 a) then (if i < 0 ∨ bm_ln M a ≤ i.toNatClampNeg then none else nx (lo, st, bm_pI M a i.toNatClampNeg v)) else none
  | _ => none
theorem s_iastore (hx : p.tables.exec = Jvm.exec) (hb : c.code = cc) (hK : bm_K g s) (hd : decode cc pc = .ok (.iastore, 1)) : bm_Sim p l e R s m args below meth c nL g n0 s0 Qf pc (pc + 1) op_iastore := by
  intro jm nx hj hn x r h
  obtain ⟨lo, st, M⟩ := x
  rcases st with _ | ⟨v | v, st⟩
  · exact bm_no h
  · rcases st with _ | ⟨i | i, st⟩
    · exact bm_no h
    · rcases st with _ | ⟨w | _ | a, st⟩
      · exact bm_no h
      · exact bm_no h
      · exact bm_no h
      · obtain ⟨hk, h1⟩ := bm_bif h
        change (Nat.beq (bm_kd M a) 8 && Nat.ble 4 a) = true at hk
        obtain ⟨hk8, hk4⟩ := Bool.and_eq_true_iff.mp hk
        have hk8 := Nat.eq_of_beq_eq_true hk8
        have hk4 := Nat.le_of_ble_eq_true hk4
        change (if i < 0 ∨ bm_ln M a ≤ i.toNatClampNeg then none else nx (lo, st, bm_pI M a i.toNatClampNeg v)) = some r at h1
        by_cases hi : i < 0 ∨ bm_ln M a ≤ i.toNatClampNeg
        · rw [if_pos hi] at h1; exact bm_no h1
        · rw [if_neg hi] at h1
          obtain ⟨hm, hw⟩ := hn _ _ h1
          refine ⟨hm, fun a1 a2 a3 a4 H locs ls b1 b2 b3 => ?_⟩
          have han : a < bm_n M := b1.lt (by rw [hk8]; decide)
          have hc := b1.2.2.1 a hk4 han
          change va_at _ _ (_, bm_ct _ _ _ M a) H at hc
          unfold bm_ct at hc
          rw [if_pos hk8] at hc
          refine W.iast hx hb hc ((hK.2.1.2 0 _ rfl).1 _ (fun j => .int (bm_in M a j))) (fun q => by cases q) (by show ¬ (i < 0 ∨ (arrV _ _ _).slots.size ≤ _); rw [arrV_size]; exact hi) rfl rfl hd fun H1 e1 e2 e3 => ?_
          refine hw a1 a2 a3 a4 H1 _ ls (b1.put (M' := bm_pI M a i.toNatClampNeg v) hk4 han ⟨rfl, rfl, rfl⟩ ?_ e2 e3 (fun q hq => ?_)) (bm_locs b2 (by rw [bm_ad_ge hk4]; omega)) b3
          · unfold bm_ct
            rw [if_pos (show bm_kd (bm_pI M a i.toNatClampNeg v) a = 8 from hk8), bm_in_pI2]
            show H1[bm_ad g a]? = some (vp_cell _ _)
            rw [e1]
            show some ((arrV _ _ _).setSlot _ _) = _
            rw [arrV_store]
            show some (arrV g.2.2.2.2.1 (bm_ln M a) (updV (fun j => .int (bm_in M a j)) i.toNatClampNeg (.int v))) = some (arrV g.2.2.2.2.1 (bm_ln M a) (fun j => .int (upd (bm_in M a) i.toNatClampNeg v j)))
            congr 2
            funext q
            by_cases hq : q = i.toNatClampNeg
            · subst hq; simp [updV, upd]
            · simp [updV, upd, hq]
          · have hI : bm_in (bm_pI M a i.toNatClampNeg v) q = bm_in M q := va_up_ne _ _ hq
            exact ⟨bm_ct_congr rfl rfl rfl hI, rfl, rfl, fun _ => by rw [hI]⟩
    · exact bm_no h
  · exact bm_no h
/-- a new cell -/
theorem bm_W.new {M : bm_M} {H H1 : Heap} {kd ln : Nat} {rs : List (Option Nat)} (h : bm_W g M H) (hz : H1.size = H.size + 1) (ho : ∀ q : Nat, q < H.size → H1[q]? = H[q]?)
    (hat : va_at g.2.2.2.1 vwCl (bm_ad g (bm_n M), bm_ct (bm_ad g) g.2.2.2.2.1 g.2.2.2.2.2.1 (bm_nw M kd ln rs) (bm_n M)) H1) : bm_W g (bm_nw M kd ln rs) H1 := by
  obtain ⟨⟨a1, a2, a3, a4⟩, b, c1, d⟩ := h
  have hn : bm_n (bm_nw M kd ln rs) = bm_n M + 1 := by show (M.1 ++ [kd]).length = M.1.length + 1; simp
  have key : ∀ k, k < bm_n M → bm_kd (bm_nw M kd ln rs) k = bm_kd M k ∧ bm_ln (bm_nw M kd ln rs) k = bm_ln M k ∧ bm_rs (bm_nw M kd ln rs) k = bm_rs M k ∧ bm_in (bm_nw M kd ln rs) k = bm_in M k := by
    intro k hk
    refine ⟨?_, ?_, ?_, va_up_ne _ _ (Nat.ne_of_lt hk)⟩
    · show (M.1 ++ [kd]).getD k 99 = M.1.getD k 99
      rw [List.getD_eq_getElem?_getD, List.getD_eq_getElem?_getD, List.getElem?_append_left hk]
    · show (M.2.1 ++ [ln]).getD k 0 = M.2.1.getD k 0
      rw [List.getD_eq_getElem?_getD, List.getD_eq_getElem?_getD, List.getElem?_append_left (by omega)]
    · show (M.2.2.1 ++ [rs]).getD k [] = M.2.2.1.getD k []
      rw [List.getD_eq_getElem?_getD, List.getD_eq_getElem?_getD, List.getElem?_append_left (by omega)]
  refine ⟨⟨by omega, by rw [hz, a2, hn]; omega, ?_, ?_⟩, fun q hq => ?_, fun k k4 hk => ?_, fun k hk => ?_⟩
  · show (M.2.1 ++ [ln]).length = _; rw [List.length_append, hn, a3]; rfl
  · show (M.2.2.1 ++ [rs]).length = _; rw [List.length_append, hn, a4]; rfl
  · rw [ho q (by omega)]; exact b q hq
  · by_cases e : k = bm_n M
    · subst e; exact hat
    · have hk' : k < bm_n M := by omega
      obtain ⟨k1, k2, k3, k4'⟩ := key k hk'
      rw [bm_ct_congr k1 k2 k3 k4']
      refine (c1 k k4 hk').kept (ho _ ?_)
      show bm_ad g k < H.size
      rw [bm_ad_ge k4, a2]; omega
  · obtain ⟨k1, k2, k3, k4'⟩ := key k (by omega)
    obtain ⟨d1, d2, d3⟩ := d k hk
    exact ⟨k1.trans d1, k2.trans d2, fun j => by rw [k4']; exact d3 j⟩
theorem bm_nw_n {M : bm_M} {kd ln : Nat} {rs : List (Option Nat)} : bm_n (bm_nw M kd ln rs) = bm_n M + 1 := by show (M.1 ++ [kd]).length = M.1.length + 1; simp
theorem bm_nw_kd {M : bm_M} {kd ln : Nat} {rs : List (Option Nat)} : bm_kd (bm_nw M kd ln rs) (bm_n M) = kd := by
  show (M.1 ++ [kd]).getD M.1.length 99 = kd
  rw [List.getD_eq_getElem?_getD, List.getElem?_concat_length]; rfl
theorem bm_nw_ln {M : bm_M} {kd ln : Nat} {rs : List (Option Nat)} (h : M.2.1.length = bm_n M) : bm_ln (bm_nw M kd ln rs) (bm_n M) = ln := by
  show (M.2.1 ++ [ln]).getD _ 0 = ln
  rw [← h, List.getD_eq_getElem?_getD, List.getElem?_concat_length]; rfl
theorem bm_nw_rs {M : bm_M} {kd ln : Nat} {rs : List (Option Nat)} (h : M.2.2.1.length = bm_n M) : bm_rs (bm_nw M kd ln rs) (bm_n M) = rs := by
  show (M.2.2.1 ++ [rs]).getD _ [] = rs
  rw [← h, List.getD_eq_getElem?_getD, List.getElem?_concat_length]; rfl
theorem bm_nw_in {M : bm_M} {kd ln : Nat} {rs : List (Option Nat)} : bm_in (bm_nw M kd ln rs) (bm_n M) = fun _ => 0 := if_pos rfl
theorem bm_W.top {M : bm_M} {H : Heap} (h : bm_W g M H) : bm_ad g (bm_n M) = H.size := by rw [bm_ad_ge h.1.1, h.1.2.1]
def op_newa : bm_O := fun _ nx x => match x with | (lo, st, M) => match st with
  | .inl n :: st => if n < 0 ∨ 1000 < n.toNatClampNeg then none else nx (lo, .inr (some (bm_n M)) :: st, bm_nw M 8 n.toNatClampNeg [])
  | _ => none
theorem s_newa (hx : p.tables.exec = Jvm.exec) (hb : c.code = cc) (hts : ∀ w ∈ bm_T, w.before args s = true) (hK : bm_K g s) (hw9 : Cond.arrayClass .int ∈ bm_T) (hd : decode cc pc = .ok (.newarray .int, 2)) : bm_Sim p l e R s m args below meth c nL g n0 s0 Qf pc (pc + 2) op_newa := by
  intro jm nx hj hn x r h
  obtain ⟨lo, st, M⟩ := x
  rcases st with _ | ⟨v | v, st⟩
  · exact bm_no h
  · change (if v < 0 ∨ 1000 < v.toNatClampNeg then none else nx (lo, .inr (some (bm_n M)) :: st, bm_nw M 8 v.toNatClampNeg [])) = some r at h
    by_cases hi : v < 0 ∨ 1000 < v.toNatClampNeg
    · rw [if_pos hi] at h; exact bm_no h
    · rw [if_neg hi] at h
      obtain ⟨hm, hw⟩ := hn _ _ h
      dsimp only at hm hw
      have hn1 : bm_n (bm_nw M 8 v.toNatClampNeg []) = bm_n M + 1 := bm_nw_n
      have hs1 : bm_sl (bm_nw M 8 v.toNatClampNeg []) = bm_sl M + v.toNatClampNeg := rfl
      refine ⟨⟨by have := hm.1; show bm_n M ≤ _; omega, by have := hm.2; show bm_sl M ≤ _; omega⟩, fun a1 a2 a3 a4 H locs ls b1 b2 b3 => ?_⟩
      dsimp only at a1 a2 b1 b3
      refine va_newaK (atype := .int) hx hb (hts _ hw9) rfl hd rfl (fun q => hi (Or.inl q)) rfl (by show v.toNatClampNeg * 4 ≤ _; omega) (by show bm_n M - n0 + 1 ≤ _; omega) (by show bm_sl M - s0 + _ ≤ _; omega) rfl fun H1 cA e1 e2 e3 e4 e5 => ?_
      have hcA : cA = g.2.2.2.2.1 := Option.some.inj (e5.symm.trans (hK.2.1.2 0 _ rfl).2)
      refine W.cs (show _ = bm_n (bm_nw M 8 v.toNatClampNeg []) - n0 by show bm_n M - n0 + 1 = _; omega) (show _ = bm_sl (bm_nw M 8 v.toNatClampNeg []) - s0 by show bm_sl M - s0 + _ = _; omega) ?_
      have ht := b1.top
      have key := hw (by omega) (by omega) a3 a4 H1 locs ls (b1.new e2 (fun q hq => e3 q hq) ?_) b2 b3
      · have : (List.map (bm_tr g) (Sum.inr (some (bm_n M)) :: st)) = Value.ref H.size :: List.map (bm_tr g) st := by
          rw [← ht]; rfl
        rw [this] at key
        exact key
      · unfold bm_ct
        rw [if_pos bm_nw_kd, bm_nw_ln b1.1.2.2.1, bm_nw_in, ht]
        show H1[H.size]? = some (vp_cell _ _)
        rw [e1, hcA]; rfl
  · exact bm_no h
def op_new (ci : Nat) : bm_O := fun _ nx x => match x with | (lo, st, M) => nx (lo, .inr (some (bm_n M)) :: st, bm_nw M ci (bm_nf ci) (List.replicate (bm_nf ci) none))
theorem s_new (hx : p.tables.exec = Jvm.exec) (hb : c.code = cc) (hown : s.vm.findClass own = some m.cls) (hts : ∀ w ∈ bm_T, w.before args s = true) (hK : bm_K g s) {C : String} {TT : u_T} {N ci index : Nat} (hin : ∀ w ∈ u_ws C TT N, w ∈ bm_T) (hc : vwCl[ci]? = some (C, TT, N)) (hN : bm_nf ci = N) (h8 : ci < 8) (ty0 : Nat → FieldType) (hty : ∀ k, k < N → parseFieldDescriptor (TT k).2.2.1 = some (ty0 k))
    (hdf : ∀ k, k < N → defaultValue (ty0 k) = if bm_isr ci k = true then .null else .int 0) (hcl : Cond.classLink own index C ∈ bm_T) (hinst : Cond.instantiable C N ∈ bm_T) (hini : Cond.initialized C ∈ bm_T) (hd : decode cc pc = .ok (.new index, 3)) : bm_Sim p l e R s m args below meth c nL g n0 s0 Qf pc (pc + 3) (op_new ci) := by
  intro jm nx hj hn x r h
  obtain ⟨lo, st, M⟩ := x
  obtain ⟨hm, hw⟩ := hn _ _ h
  dsimp only at hm hw
  subst hN
  have hn1 : bm_n (bm_nw M ci (bm_nf ci) (List.replicate (bm_nf ci) none)) = bm_n M + 1 := bm_nw_n
  have hs1 : bm_sl (bm_nw M ci (bm_nf ci) (List.replicate (bm_nf ci) none)) = bm_sl M + bm_nf ci := rfl
  refine ⟨⟨by have := hm.1; show bm_n M ≤ _; omega, by have := hm.2; show bm_sl M ≤ _; omega⟩, fun a1 a2 a3 a4 H locs ls b1 b2 b3 => ?_⟩
  dsimp only at a1 a2 b1 b3
  have hKn := hK.2.1.1 ci _ hc
  refine W.newcK hx hb hown (hts _ hcl) (hts _ hinst) (hts _ hini) rfl hd (by show bm_n M - n0 + 1 ≤ _; omega) (by show bm_sl M - s0 + _ ≤ _; omega) hKn.2.1 rfl fun H1 kC hkC e1 e2 e3 => ?_
  refine W.cs (show _ = bm_n (bm_nw M ci (bm_nf ci) (List.replicate (bm_nf ci) none)) - n0 by show bm_n M - n0 + 1 = _; omega) (show _ = bm_sl (bm_nw M ci (bm_nf ci) (List.replicate (bm_nf ci) none)) - s0 by show bm_sl M - s0 + _ = _; omega) ?_
  have ht := b1.top
  have key := hw (by omega) (by omega) a3 a4 H1 locs ls (b1.new e2 (fun q hq => e3 q hq) ?_) b2 b3
  · have : (List.map (bm_tr g) (Sum.inr (some (bm_n M)) :: st)) = Value.ref H.size :: List.map (bm_tr g) st := by
      rw [← ht]; rfl
    rw [this] at key
    exact key
  · have hkd : bm_kd (bm_nw M ci (bm_nf ci) (List.replicate (bm_nf ci) none)) (bm_n M) = ci := bm_nw_kd
    rw [bm_ct_ob (by rw [hkd]; exact h8), ht]
    rw [hkd]
    refine ⟨_, hc, (u_born ty0 hts hin hKn hkC e1 hty).to (fun j hj => ?_)⟩
    rw [bm_vf (by rw [hkd]; exact hj), hdf j hj]
    unfold bm_fv
    rw [hkd, bm_nw_in]
    by_cases hr : bm_isr ci j = true
    · rw [if_pos hr, if_pos hr]
      unfold bm_rf
      rw [bm_nw_rs b1.1.2.2.2, List.getD_eq_getElem?_getD, List.getElem?_replicate]
      rw [if_pos hj]; rfl
    · rw [if_neg hr, if_neg hr]
def op_anew : bm_O := fun _ nx x => match x with | (lo, st, M) => match st with
  | .inl n :: st => if n < 0 ∨ 1000 < n.toNatClampNeg then none else nx (lo, .inr (some (bm_n M)) :: st, bm_nw M 9 n.toNatClampNeg (List.replicate n.toNatClampNeg none))
  | _ => none
theorem s_anew (hx : p.tables.exec = Jvm.exec) (hb : c.code = cc) (hown : s.vm.findClass own = some m.cls) (hts : ∀ w ∈ bm_T, w.before args s = true) (hK : bm_K g s) {index : Nat} (hcl : Cond.classLink own index "BallotPapers$Poll" ∈ bm_T) (hd : decode cc pc = .ok (.anewarray index, 3)) : bm_Sim p l e R s m args below meth c nL g n0 s0 Qf pc (pc + 3) op_anew := by
  intro jm nx hj hn x r h
  obtain ⟨lo, st, M⟩ := x
  rcases st with _ | ⟨v | v, st⟩
  · exact bm_no h
  · change (if v < 0 ∨ 1000 < v.toNatClampNeg then none else nx (lo, .inr (some (bm_n M)) :: st, bm_nw M 9 v.toNatClampNeg (List.replicate v.toNatClampNeg none))) = some r at h
    by_cases hi : v < 0 ∨ 1000 < v.toNatClampNeg
    · rw [if_pos hi] at h; exact bm_no h
    · rw [if_neg hi] at h
      obtain ⟨hm, hw⟩ := hn _ _ h
      dsimp only at hm hw
      have hn1 : bm_n (bm_nw M 9 v.toNatClampNeg (List.replicate v.toNatClampNeg none)) = bm_n M + 1 := bm_nw_n
      have hs1 : bm_sl (bm_nw M 9 v.toNatClampNeg (List.replicate v.toNatClampNeg none)) = bm_sl M + v.toNatClampNeg := rfl
      refine ⟨⟨by have := hm.1; show bm_n M ≤ _; omega, by have := hm.2; show bm_sl M ≤ _; omega⟩, fun a1 a2 a3 a4 H locs ls b1 b2 b3 => ?_⟩
      dsimp only at a1 a2 b1 b3
      refine W.anew hx hb hown (hts _ hcl) (va_AO.use hK.2.2.2.2.2.2) rfl hd rfl (fun q => hi (Or.inl q)) (by omega) (by show bm_n M - n0 + 1 ≤ _; omega) (by show bm_sl M - s0 + _ ≤ _; omega) fun cA kA comp f1 f2 f3 f4 => ?_
      obtain ⟨kA', comp', y1, y2, y3, y4⟩ := (hK.2.1.2 1 _ rfl).2
      have hcA : cA = g.2.2.2.2.2.1 := Option.some.inj (f1.symm.trans y4)
      refine W.cs (show _ = bm_n (bm_nw M 9 v.toNatClampNeg (List.replicate v.toNatClampNeg none)) - n0 by show bm_n M - n0 + 1 = _; omega) (show _ = bm_sl (bm_nw M 9 v.toNatClampNeg (List.replicate v.toNatClampNeg none)) - s0 by show bm_sl M - s0 + _ = _; omega) ?_
      have ht := b1.top
      have key := hw (by omega) (by omega) a3 a4 (H.push { cls := cA, slots := Array.replicate v.toNatClampNeg .null, vm := .none }) locs ls (b1.new (by rw [Array.size_push]) (fun q hq => by rw [Array.getElem?_push, if_neg (Nat.ne_of_lt hq)]) ?_) b2 b3
      · have : (List.map (bm_tr g) (Sum.inr (some (bm_n M)) :: st)) = Value.ref H.size :: List.map (bm_tr g) st := by
          rw [← ht]; rfl
        rw [this] at key
        exact key
      · unfold bm_ct
        rw [if_neg (by rw [bm_nw_kd]; decide), if_pos bm_nw_kd, bm_nw_ln b1.1.2.2.1, ht]
        show (H.push _)[H.size]? = some (vp_cell _ _)
        rw [Array.getElem?_push_size, hcA, arrV_new, vp_cell_q]
        congr 2
        funext j
        unfold bm_rf
        rw [bm_nw_rs b1.1.2.2.2, List.getD_eq_getElem?_getD, List.getElem?_replicate]
        by_cases hj : j < v.toNatClampNeg
        · rw [if_pos hj]; rfl
        · rw [if_neg hj]; rfl
  · exact bm_no h
end BMI
end
section
/-! THE REST OF THE STEPS: an array of references written, statics, switches, the library's methods, returns, calls; a method by its code -/
section BMJ
variable {p : Program} {l : Launch} {e : Env} {R : Room} {s : State} {m : MethodId} {args : Array Value} {below : List Frame} {meth : Method} {c : Code} {nL : Nat} {g : bm_G} {n0 s0 : Nat} {Qf : bm_R → State → Prop} {cc : ByteArray} {pc np : Nat} {own : String}
def op_aastore : bm_O := fun _ nx x => match x with | (lo, st, M) => match st with
  | .inr (some v) :: .inl i :: .inr (some a) :: st => bif (Nat.beq (bm_kd M a) 9 && Nat.beq (bm_kd M v) 3) then (bif Nat.blt i.toNatClampNeg (bm_rs M a).length then (if i < 0 ∨ bm_ln M a ≤ i.toNatClampNeg then none else nx (lo, st, bm_pR M a i.toNatClampNeg (some v))) else none) else none
  | _ => none
theorem s_aastore (hx : p.tables.exec = Jvm.exec) (hb : c.code = cc) (hK : bm_K g s) (hd : decode cc pc = .ok (.aastore, 1)) : bm_Sim p l e R s m args below meth c nL g n0 s0 Qf pc (pc + 1) op_aastore := by
  intro jm nx hj hn x r h
  obtain ⟨lo, st, M⟩ := x
  rcases st with _ | ⟨v | _ | v, st⟩
  · exact bm_no h
  · exact bm_no h
  · exact bm_no h
  · rcases st with _ | ⟨i | i, st⟩
    · exact bm_no h
    · rcases st with _ | ⟨w | _ | a, st⟩
      · exact bm_no h
      · exact bm_no h
      · exact bm_no h
      · obtain ⟨hk, h2⟩ := bm_bif h
        change (Nat.beq (bm_kd M a) 9 && Nat.beq (bm_kd M v) 3) = true at hk
        obtain ⟨hk9, hk3⟩ := Bool.and_eq_true_iff.mp hk
        have hk9 := Nat.eq_of_beq_eq_true hk9
        have hk3 := Nat.eq_of_beq_eq_true hk3
        obtain ⟨hjl, h1⟩ := bm_blt (b := none) h2
        change i.toNatClampNeg < (bm_rs M a).length at hjl
        change (if i < 0 ∨ bm_ln M a ≤ i.toNatClampNeg then none else nx (lo, st, bm_pR M a i.toNatClampNeg (some v))) = some r at h1
        by_cases hi : i < 0 ∨ bm_ln M a ≤ i.toNatClampNeg
        · rw [if_pos hi] at h1; exact bm_no h1
        · rw [if_neg hi] at h1
          obtain ⟨hm, hw⟩ := hn _ _ h1
          refine ⟨hm, fun a1 a2 a3 a4 H locs ls b1 b2 b3 => ?_⟩
          have h49 := b1.old (Or.inr hk9)
          have hv49 := b1.old (k := v) (Or.inl (by show bm_kd M v < 8; omega))
          have hrl : a < M.2.2.1.length := Nat.lt_of_lt_of_eq h49.2 b1.1.2.2.2.symm
          have hc := b1.2.2.1 a h49.1 h49.2
          change va_at _ _ (_, bm_ct _ _ _ M a) H at hc
          unfold bm_ct at hc
          rw [if_neg (by rw [hk9]; decide), if_pos hk9] at hc
          have hv := b1.2.2.1 v hv49.1 hv49.2
          change va_at _ _ (_, bm_ct _ _ _ M v) H at hv
          rw [bm_ct_ob (by rw [hk3]; decide), hk3] at hv
          obtain ⟨r', hr', cellV, g1, g2, g3, -⟩ := hv
          have hcls := (hK.2.1.1 3 _ rfl).2
          obtain ⟨kA, comp, k1, k2, k3, -⟩ := (hK.2.1.2 1 _ rfl).2
          have hcomp : comp = g.2.2.2.1.1 3 := Option.some.inj (k3.symm.trans hcls.1)
          subst hcomp
          obtain ⟨kC, hkC, -⟩ := hcls.2
          refine W.aast hx hb hc (fun q h => by cases h) (fun h => by cases h) k1 k2 rfl hkC ⟨fun q => hi (Or.inl q), by show _ < (arrV _ _ _).slots.size; rw [arrV_size]; exact Nat.lt_of_not_le fun z => hi (Or.inr z)⟩ g1 (fun q h => by rw [g3] at h; cases h) (by rw [g2]; exact hkC) (by rw [g2]; exact va_assign hcls) rfl rfl hd fun H1 e1 e2 e3 => ?_
          refine hw a1 a2 a3 a4 H1 _ ls (b1.put (M' := bm_pR M a i.toNatClampNeg (some v)) h49.1 h49.2 ⟨rfl, rfl, by show (M.2.2.1.set _ _).length = _; rw [List.length_set]⟩ ?_ e2 e3 (fun q hq => ?_)) (bm_locs b2 (by rw [bm_ad_ge h49.1]; omega)) b3
          · unfold bm_ct
            rw [if_neg (by show ¬ bm_kd M a = 8; rw [hk9]; decide), if_pos (show bm_kd (bm_pR M a i.toNatClampNeg (some v)) a = 9 from hk9)]
            show H1[bm_ad g a]? = some (vp_cell _ _)
            rw [e1]
            show some ((arrV _ _ _).setSlot _ _) = _
            rw [arrV_store]
            show some (arrV g.2.2.2.2.2.1 (bm_ln M a) (updV (fun j => va_rf ((bm_rf M a j).map (bm_ad g))) i.toNatClampNeg (.ref (bm_ad g v)))) = some (arrV g.2.2.2.2.2.1 (bm_ln M a) (fun j => va_rf ((bm_rf (bm_pR M a i.toNatClampNeg (some v)) a j).map (bm_ad g))))
            congr 2
            funext q
            rw [bm_rf_pS hrl hjl]
            by_cases hq : q = i.toNatClampNeg
            · subst hq; simp [updV, va_rf]
            · simp [updV, hq]
          · exact ⟨bm_ct_congr rfl rfl (bm_rs_pR hq) rfl, rfl, rfl, fun _ => rfl⟩
    · exact bm_no h
def op_objinit : bm_O := fun _ nx x => match x with | (lo, st, M) => match st with
  | .inr (some _) :: st => bif Nat.ble st.length 4 then nx (lo, st, M) else none
  | _ => none
theorem bm_sum (g : bm_G) (st : List bm_V) : ((st.map (bm_tr g)).map fun v => v.category).sum = st.length := by
  induction st with
  | nil => rfl
  | cons v st ih => simp only [List.map_cons, List.sum_cons, List.length_cons, bm_cat, ih]; omega
theorem s_objinit (hx : p.tables.exec = Jvm.exec) (hb : c.code = cc) (hml : c.maxLocals = nL) (hown : s.vm.findClass own = some m.cls) (hts : ∀ w ∈ bm_T, w.before args s = true) {index : Nat} (hl : Cond.methodLink own index objectInit ∈ bm_T) (hi : Cond.instanceMethod objectInit ∈ bm_T) (hco : Cond.code objectInit ⟨#[0xb1]⟩ 1 none ∈ bm_T) (hF : 1 ≤ R.frames) (hL : 16 ≤ R.locals) (hd : decode cc pc = .ok (.invokespecial index, 3)) : bm_Sim p l e R s m args below meth c nL g n0 s0 Qf pc (pc + 3) op_objinit := by
  intro jm nx hj hn x r h
  obtain ⟨lo, st, M⟩ := x
  rcases st with _ | ⟨v | _ | v, st⟩
  · exact bm_no h
  · exact bm_no h
  · exact bm_no h
  · obtain ⟨hk, h1⟩ := bm_bif h
    have hk := Nat.le_of_ble_eq_true hk
    obtain ⟨hm, hw⟩ := hn _ _ h1
    exact ⟨hm, fun a1 a2 a3 a4 H locs ls b1 b2 b3 => W.objInit hx hb hown (hts _ hl) (hts _ hi) (hts _ hco) rfl (by rw [hml]; exact b3.1) rfl hd hF (by show 2 * 0 + ((st.map (bm_tr g)).map fun v => v.category).sum + 12 ≤ _; rw [bm_sum]; omega) (hw a1 a2 a3 a4 H locs ls b1 b2 b3)⟩
def op_gets (k : Nat) : bm_O := fun _ nx x => match x with | (lo, st, M) => nx (lo, .inr (some k) :: st, M)
theorem s_gets (hx : p.tables.exec = Jvm.exec) (hb : c.code = cc) (hown : s.vm.findClass own = some m.cls) (hts : ∀ w ∈ bm_T, w.before args s = true) {C n d : String} {index k : Nat} (hZ : va_Z C n d (.ref (g.2.1 k)) (bm_fr g) s g.2.2.1) (hk : k < 4) (hlink : Cond.fieldLink own index C n d ∈ bm_T) (hd : decode cc pc = .ok (.getstatic index, 3)) : bm_Sim p l e R s m args below meth c nL g n0 s0 Qf pc (pc + 3) (op_gets k) := by
  intro jm nx hj hn x r h
  obtain ⟨lo, st, M⟩ := x
  obtain ⟨hm, hw⟩ := hn _ _ h
  refine ⟨hm, fun a1 a2 a3 a4 H locs ls b1 b2 b3 => ?_⟩
  obtain ⟨cf, kf, fi, f, a, cell, h1, h2, h3, h4, h5, h6, h7, h8⟩ := hZ
  have key := hw a1 a2 a3 a4 H locs ls b1 b2 b3
  have e : (List.map (bm_tr g) (Sum.inr (some k) :: st)) = Value.ref (g.2.1 k) :: List.map (bm_tr g) st := by
    show Value.ref (bm_ad g k) :: _ = _
    rw [show bm_ad g k = g.2.1 k from if_pos hk]
  dsimp only at key
  rw [e] at key
  exact W.gets hx hb hown (hts _ hlink) h1 h2 h3 h4 (by rw [b1.2.1 a (Nat.lt_of_not_le h8)]; exact h5) (fun e => by rw [e] at h6; cases h6) h7 rfl hd key
theorem s_getsN (hx : p.tables.exec = Jvm.exec) (hb : c.code = cc) (hown : s.vm.findClass own = some m.cls) (hts : ∀ w ∈ bm_T, w.before args s = true) {C n d host : String} {index k : Nat} (hZ : va_Z C n d (.ref (g.2.1 k)) (bm_fr g) s g.2.2.1) (hk : k < 4) (hlink : va_Nw (.fieldLinkNest own index C n d host) s) (hd : decode cc pc = .ok (.getstatic index, 3)) : bm_Sim p l e R s m args below meth c nL g n0 s0 Qf pc (pc + 3) (op_gets k) := by
  intro jm nx hj hn x r h
  obtain ⟨lo, st, M⟩ := x
  obtain ⟨hm, hw⟩ := hn _ _ h
  refine ⟨hm, fun a1 a2 a3 a4 H locs ls b1 b2 b3 => ?_⟩
  obtain ⟨cf, kf, fi, f, a, cell, h1, h2, h3, h4, h5, h6, h7, h8⟩ := hZ
  have key := hw a1 a2 a3 a4 H locs ls b1 b2 b3
  have e : (List.map (bm_tr g) (Sum.inr (some k) :: st)) = Value.ref (g.2.1 k) :: List.map (bm_tr g) st := by
    show Value.ref (bm_ad g k) :: _ = _
    rw [show bm_ad g k = g.2.1 k from if_pos hk]
  dsimp only at key
  rw [e] at key
  exact va_WgetsN hx hb hown (va_Nw.use rfl hlink) h1 h2 h3 h4 (by rw [b1.2.1 a (Nat.lt_of_not_le h8)]; exact h5) (fun e => by rw [e] at h6; cases h6) h7 rfl hd key
def op_mm (f : Int32 → Int32 → Int32) : bm_O := fun _ nx x => match x with | (lo, st, M) => match st with
  | .inl b :: .inl a :: st => bif Nat.ble st.length 4 then nx (lo, .inl (f a b) :: st, M) else none
  | _ => none
theorem s_mmax (hx : p.tables.exec = Jvm.exec) (hb : c.code = cc) (hml : c.maxLocals = nL) (hown : s.vm.findClass own = some m.cls) (hts : ∀ w ∈ bm_T, w.before args s = true) {index : Nat} (hl : Cond.methodLink own index Lib.Math.max.name ∈ bm_T) (hs9 : Cond.static Lib.Math.max.name ∈ bm_T) (hi : Cond.initialized "java/lang/Math" ∈ bm_T) (hco : Cond.code Lib.Math.max.name Lib.Math.max.code 2 (some .int) ∈ bm_T) (hF : 1 ≤ R.frames) (hL : 17 ≤ R.locals) (hd : decode cc pc = .ok (.invokestatic index, 3)) : bm_Sim p l e R s m args below meth c nL g n0 s0 Qf pc (pc + 3) (op_mm (fun a b => if a < b then b else a)) := by
  intro jm nx hj hn x r h
  obtain ⟨lo, st, M⟩ := x
  rcases st with _ | ⟨b | b, st⟩
  · exact bm_no h
  · rcases st with _ | ⟨a | a, st⟩
    · exact bm_no h
    · obtain ⟨hk, h1⟩ := bm_bif h
      have hk := Nat.le_of_ble_eq_true hk
      obtain ⟨hm, hw⟩ := hn _ _ h1
      exact ⟨hm, fun a1 a2 a3 a4 H locs ls b1 b2 b3 => va_mmax hx hb (by rw [hml]; exact b3.1.symm) hown (hts _ hl) (hts _ hs9) (hts _ hi) (hts _ hco) hF (by rw [bm_sum]; omega) (by have := hm.1; dsimp only at this a3 a1 ⊢; omega) (by have := hm.2; dsimp only at this a4 a2 ⊢; omega) hd (hw a1 a2 a3 a4 H locs ls b1 b2 b3)⟩
    · exact bm_no h
  · exact bm_no h
theorem s_mmin (hx : p.tables.exec = Jvm.exec) (hb : c.code = cc) (hml : c.maxLocals = nL) (hown : s.vm.findClass own = some m.cls) (hts : ∀ w ∈ bm_T, w.before args s = true) {index : Nat} (hl : Cond.methodLink own index Lib.Math.min.name ∈ bm_T) (hs9 : Cond.static Lib.Math.min.name ∈ bm_T) (hi : Cond.initialized "java/lang/Math" ∈ bm_T) (hco : Cond.code Lib.Math.min.name Lib.Math.min.code 2 (some .int) ∈ bm_T) (hF : 1 ≤ R.frames) (hL : 17 ≤ R.locals) (hd : decode cc pc = .ok (.invokestatic index, 3)) : bm_Sim p l e R s m args below meth c nL g n0 s0 Qf pc (pc + 3) (op_mm (fun a b => if b < a then b else a)) := by
  intro jm nx hj hn x r h
  obtain ⟨lo, st, M⟩ := x
  rcases st with _ | ⟨b | b, st⟩
  · exact bm_no h
  · rcases st with _ | ⟨a | a, st⟩
    · exact bm_no h
    · obtain ⟨hk, h1⟩ := bm_bif h
      have hk := Nat.le_of_ble_eq_true hk
      obtain ⟨hm, hw⟩ := hn _ _ h1
      exact ⟨hm, fun a1 a2 a3 a4 H locs ls b1 b2 b3 => va_mmin hx hb (by rw [hml]; exact b3.1.symm) hown (hts _ hl) (hts _ hs9) (hts _ hi) (hts _ hco) hF (by rw [bm_sum]; omega) (by have := hm.1; dsimp only at this a3 a1 ⊢; omega) (by have := hm.2; dsimp only at this a4 a2 ⊢; omega) hd (hw a1 a2 a3 a4 H locs ls b1 b2 b3)⟩
    · exact bm_no h
  · exact bm_no h
def bm_tsw (jm : bm_J) (d : Nat) (y : bm_C) (v : Int32) : Nat → List Nat → Option bm_R
  | _, [] => jm d y
  | i, t :: ts => if v = Int32.ofNat i then jm t y else bm_tsw jm d y v (i + 1) ts
theorem bm_tsw_cases {jm : bm_J} {d : Nat} {y : bm_C} {v : Int32} {r : bm_R} : ∀ (ts : List Nat) (i : Nat), bm_tsw jm d y v i ts = some r → (∃ j t, ts[j]? = some t ∧ v = Int32.ofNat (i + j) ∧ jm t y = some r) ∨ ((∀ j, j < ts.length → v ≠ Int32.ofNat (i + j)) ∧ jm d y = some r)
  | [], i, h => Or.inr ⟨fun j hj => absurd hj (Nat.not_lt_zero j), h⟩
  | t :: ts, i, h => by
    unfold bm_tsw at h
    by_cases hv : v = Int32.ofNat i
    · rw [if_pos hv] at h
      exact Or.inl ⟨0, t, rfl, hv, h⟩
    · rw [if_neg hv] at h
      rcases bm_tsw_cases ts (i + 1) h with ⟨j, t', h1, h2, h3⟩ | ⟨h1, h2⟩
      · exact Or.inl ⟨j + 1, t', h1, by rw [h2]; congr 1; omega, h3⟩
      · refine Or.inr ⟨fun j hj => ?_, h2⟩
        cases j with
        | zero => exact hv
        | succ j => have := h1 j (by simpa using hj); rw [show i + (j + 1) = i + 1 + j by omega]; exact this
def op_tsw (ts : List Nat) (d : Nat) : bm_O := fun jm _ x => match x with | (lo, st, M) => match st with
  | .inl v :: st => bm_tsw jm d (lo, st, M) v 0 ts
  | _ => none
theorem s_tsw (hx : p.tables.exec = Jvm.exec) (hb : c.code = cc) {dflt hi : Int} {offs : Array Int} {len d : Nat} {ts : List Nat} (hd : decode cc pc = .ok (.tableswitch dflt 0 hi offs, len)) (hdt : (pc : Int) + dflt = (d : Int)) (hhi : hi + 1 = (ts.length : Int)) (hlen : ts.length < 100) (hoffs : offs.toList.map (fun o => (pc : Int) + o) = ts.map (fun t => ((t : Nat) : Int))) : bm_Sim p l e R s m args below meth c nL g n0 s0 Qf pc np (op_tsw ts d) := by
  intro jm nx hj hn x r h
  obtain ⟨lo, st, M⟩ := x
  rcases st with _ | ⟨v | v, st⟩
  · exact bm_no h
  · rcases bm_tsw_cases ts 0 h with ⟨j, t, h1, h2, h3⟩ | ⟨h1, h3⟩
    · obtain ⟨hm, hw⟩ := hj _ _ _ h3
      refine ⟨hm, fun a1 a2 a3 a4 H locs ls b1 b2 b3 => ?_⟩
      have hjl : j < ts.length := (List.getElem?_eq_some_iff.mp h1).1
      rw [Nat.zero_add] at h2
      have hvI : v.toInt = (j : Int) := by rw [h2]; exact nI_toInt (by omega)
      have ho := congrArg (fun z => z[j]?) hoffs
      simp only [List.getElem?_map, h1, Option.map_some] at ho
      cases ho2 : offs.toList[j]? with
      | none => rw [ho2] at ho; simp at ho
      | some off =>
        rw [ho2] at ho
        simp only [Option.map_some, Option.some.injEq] at ho
        exact lv_tableIn hx hb hd (by omega) (by omega) (by rw [hvI]; show offs[((j : Int) - 0).toNat]? = some off; rw [show ((j : Int) - 0).toNat = j by omega, ← Array.getElem?_toList]; exact ho2) ho (hw a1 a2 a3 a4 H locs ls b1 b2 b3)
    · obtain ⟨hm, hw⟩ := hj _ _ _ h3
      refine ⟨hm, fun a1 a2 a3 a4 H locs ls b1 b2 b3 => ?_⟩
      refine lv_tableOut hx hb hd ?_ hdt (hw a1 a2 a3 a4 H locs ls b1 b2 b3)
      refine Classical.byContradiction fun q => ?_
      have q1 : 0 ≤ v.toInt := by omega
      have q2 : v.toInt.toNat < ts.length := by omega
      refine h1 _ q2 ?_
      rw [Nat.zero_add]
      exact Int32.toInt_inj.mp (by rw [show (Int32.ofNat v.toInt.toNat).toInt = _ from nI_toInt (by omega)]; omega)
  · exact bm_no h
theorem s_lsw2 (hx : p.tables.exec = Jvm.exec) (hb : c.code = cc) {o0 o1 dflt : Int} {len d t0 t1 : Nat} (hd : decode cc pc = .ok (.lookupswitch dflt #[(0, o0), (1, o1)], len)) (hdt : (pc : Int) + dflt = (d : Int)) (h0 : (pc : Int) + o0 = (t0 : Int)) (h1 : (pc : Int) + o1 = (t1 : Int)) : bm_Sim p l e R s m args below meth c nL g n0 s0 Qf pc np (op_tsw [t0, t1] d) := by
  intro jm nx hj hn x r h
  obtain ⟨lo, st, M⟩ := x
  rcases st with _ | ⟨v | v, st⟩
  · exact bm_no h
  · change (if v = Int32.ofNat 0 then jm t0 (lo, st, M) else if v = Int32.ofNat (0 + 1) then jm t1 (lo, st, M) else jm d (lo, st, M)) = some r at h
    by_cases e0 : v = Int32.ofNat 0
    · rw [if_pos e0] at h
      obtain ⟨hm, hw⟩ := hj _ _ _ h
      exact ⟨hm, fun a1 a2 a3 a4 H locs ls b1 b2 b3 => lv_lookup hx hb hd rfl (off := o0) (by subst e0; rfl) h0 (hw a1 a2 a3 a4 H locs ls b1 b2 b3)⟩
    · rw [if_neg e0] at h
      by_cases e1 : v = Int32.ofNat (0 + 1)
      · rw [if_pos e1] at h
        obtain ⟨hm, hw⟩ := hj _ _ _ h
        exact ⟨hm, fun a1 a2 a3 a4 H locs ls b1 b2 b3 => lv_lookup hx hb hd rfl (off := o1) (by subst e1; rfl) h1 (hw a1 a2 a3 a4 H locs ls b1 b2 b3)⟩
      · rw [if_neg e1] at h
        obtain ⟨hm, hw⟩ := hj _ _ _ h
        exact ⟨hm, fun a1 a2 a3 a4 H locs ls b1 b2 b3 => lv_lookup hx hb hd rfl (off := dflt) (by
          show Op.lookupswitch.offset [((0 : Int), o0), ((1 : Int), o1)] dflt v.toInt = dflt
          rw [lv_osw (k := Int32.ofNat 0) (a := 0) e0 (by decide), lv_osw (k := Int32.ofNat (0 + 1)) (a := 1) e1 (by decide)]; rfl) hdt (hw a1 a2 a3 a4 H locs ls b1 b2 b3)⟩
  · exact bm_no h
def op_copy : bm_O := fun _ nx x => match x with | (lo, st, M) => match st with
  | [.inl n, .inl dp, .inr (some d), .inl sp, .inr (some a)] => bif (Nat.beq (bm_kd M a) 8 && (Nat.beq (bm_kd M d) 8 && Nat.ble 4 d)) then (if (sp < 0 ∨ dp < 0 ∨ n < 0) ∨ (bm_ln M a < sp.toNatClampNeg + n.toNatClampNeg ∨ bm_ln M d < dp.toNatClampNeg + n.toNatClampNeg) then none else nx (lo, [], bm_pA M d (va_cpy (bm_in M a) (bm_in M d) sp.toNatClampNeg dp.toNatClampNeg n.toNatClampNeg))) else none
  | _ => none
theorem bm_nn (z : Int32) (hz : ¬ z < 0) : z.toInt = (z.toNatClampNeg : Int) := by
  have hz0 : (0 : Int) ≤ z.toInt := by
    have := Int32.not_lt.mp hz
    simpa using Int32.le_iff_toInt_le.mp this
  show z.toInt = ((z.toInt.toNat : Nat) : Int)
  omega
theorem s_copy (hx : p.tables.exec = Jvm.exec) (hb : c.code = cc) (hml : c.maxLocals = nL) (hown : s.vm.findClass own = some m.cls) (hts : ∀ w ∈ bm_T, w.before args s = true) (hK : bm_K g s) {index : Nat} (hl : Cond.methodLink own index arraycopyName ∈ bm_T) (hna : Cond.native arraycopyName ∈ bm_T) (hst : Cond.static arraycopyName ∈ bm_T) (hi : Cond.initialized "java/lang/System" ∈ bm_T) (hF : 1 ≤ R.frames) (hL : nativeFrameWords "java/lang/System" "arraycopy" 5 + 11 ≤ R.locals) (hd : decode cc pc = .ok (.invokestatic index, 3)) : bm_Sim p l e R s m args below meth c nL g n0 s0 Qf pc (pc + 3) op_copy := by
  intro jm nx hj hn x r h
  obtain ⟨lo, st, M⟩ := x
  match st, h with
  | [.inl n, .inl dp, .inr (some d), .inl sp, .inr (some a)], h =>
    obtain ⟨hk, h1⟩ := bm_bif (b := (Nat.beq (bm_kd M a) 8 && (Nat.beq (bm_kd M d) 8 && Nat.ble 4 d))) (x := (if (sp < 0 ∨ dp < 0 ∨ n < 0) ∨ (bm_ln M a < sp.toNatClampNeg + n.toNatClampNeg ∨ bm_ln M d < dp.toNatClampNeg + n.toNatClampNeg) then none else nx (lo, [], bm_pA M d (va_cpy (bm_in M a) (bm_in M d) sp.toNatClampNeg dp.toNatClampNeg n.toNatClampNeg)))) h
    obtain ⟨hk1, hk2⟩ := Bool.and_eq_true_iff.mp hk
    obtain ⟨hk3, hk4⟩ := Bool.and_eq_true_iff.mp hk2
    have ka := Nat.eq_of_beq_eq_true hk1
    have kd := Nat.eq_of_beq_eq_true hk3
    have d4 := Nat.le_of_ble_eq_true hk4
    by_cases hq : (sp < 0 ∨ dp < 0 ∨ n < 0) ∨ (bm_ln M a < sp.toNatClampNeg + n.toNatClampNeg ∨ bm_ln M d < dp.toNatClampNeg + n.toNatClampNeg)
    · rw [if_pos hq] at h1; exact bm_no h1
    · rw [if_neg hq] at h1
      have q1 : ¬ sp < 0 := fun z => hq (Or.inl (Or.inl z))
      have q2 : ¬ dp < 0 := fun z => hq (Or.inl (Or.inr (Or.inl z)))
      have q3 : ¬ n < 0 := fun z => hq (Or.inl (Or.inr (Or.inr z)))
      have q4 : sp.toNatClampNeg + n.toNatClampNeg ≤ bm_ln M a := Nat.le_of_not_lt fun z => hq (Or.inr (Or.inl z))
      have q5 : dp.toNatClampNeg + n.toNatClampNeg ≤ bm_ln M d := Nat.le_of_not_lt fun z => hq (Or.inr (Or.inr z))
      obtain ⟨hm, hw⟩ := hn _ _ h1
      refine ⟨hm, fun a1 a2 a3 a4 H locs ls b1 b2 b3 => ?_⟩
      have hdn : d < bm_n M := b1.lt (by rw [kd]; decide)
      obtain ⟨cs, e1, e2, e3, e4, e5, e6⟩ := b1.arr hK ka
      have hc := b1.2.2.1 d d4 hdn
      change va_at _ _ (_, bm_ct _ _ _ M d) H at hc
      unfold bm_ct at hc
      rw [if_pos kd] at hc
      have hc1 : H[bm_ad g d]? = some (vp_cell g.2.2.2.2.1 (bm_ln M d, .inl (bm_in M d))) := hc
      dsimp only at e1 e4 e6
      intro T hT X
      obtain ⟨e7, k0, hk0, cm0, hkk0⟩ := e2
      obtain ⟨-, k1, hk1, cm1, hkk1⟩ := (hK.2.1.2 0 _ rfl).1 (bm_ln M d) (fun j => .int (bm_in M d j))
      obtain ⟨vm', X', step⟩ := X.arraycopy hx hown (hts _ hl) (hts _ hna) (hts _ hst) (hts _ hi) (src := bm_ad g a) (dst := bm_ad g d) (cs := cs) (cd := vp_cell g.2.2.2.2.1 (bm_ln M d, .inl (bm_in M d))) (srcPos := sp) (destPos := dp) (n := n) (by rw [hT]; exact e1) (by rw [hT]; exact hc1)
        e7 (fun _ h => by cases h) e3 (fun h => by cases h) hk0 hk1 hkk0 hkk1 (by simp [refKind]) q1 q2 q3
        (by rw [bm_nn sp q1, bm_nn n q3]; omega)
        (by rw [bm_nn dp q2, bm_nn n q3]; show ¬ _ > ((arrV g.2.2.2.2.1 (bm_ln M d) (fun j => .int (bm_in M d j))).slots.size : Int); rw [arrV_size]; omega)
        (fun vm₁ _ i hi => by
          have e : cs.slots.getD (sp.toNatClampNeg + i) .null = .int (bm_in M a (sp.toNatClampNeg + i)) := by
            rw [Array.getD_eq_getD_getElem?, e6 _ (by omega)]; rfl
          refine ⟨?_, ?_⟩
          · rw [e]; rfl
          · rw [e]; exact trivial)
        (g := F0 m pc ls [.int n, .int dp, .ref (bm_ad g d), .int sp, .ref (bm_ad g a)]) rfl (by rw [hml]; exact b3.1) (rest := []) rfl (by rw [hb]; exact hd) hF (by show 2 * 0 + 0 + _ ≤ _; omega)
      have e8 : copied cs (vp_cell g.2.2.2.2.1 (bm_ln M d, .inl (bm_in M d))) sp dp n = vp_cell g.2.2.2.2.1 (bm_ln M d, .inl (va_cpy (bm_in M a) (bm_in M d) sp.toNatClampNeg dp.toNatClampNeg n.toNatClampNeg)) := va_copiedX (fun z => .int z) cs g.2.2.2.2.1 (bm_in M a) (bm_in M d) e6 q4
      rw [e8] at X' step
      have hlt : bm_ad g d < H.size := (Array.getElem?_eq_some_iff.mp hc1).1
      have oq : ∀ q : Nat, q ≠ bm_ad g d → (H.setIfInBounds (bm_ad g d) (vp_cell g.2.2.2.2.1 (bm_ln M d, .inl (va_cpy (bm_in M a) (bm_in M d) sp.toNatClampNeg dp.toNatClampNeg n.toNatClampNeg))))[q]? = H[q]? := fun q hq => by simp [Array.getElem?_setIfInBounds, Ne.symm hq]
      obtain ⟨t, z1, z2⟩ := hw a1 a2 a3 a4 (H.setIfInBounds (bm_ad g d) (vp_cell g.2.2.2.2.1 (bm_ln M d, .inl (va_cpy (bm_in M a) (bm_in M d) sp.toNatClampNeg dp.toNatClampNeg n.toNatClampNeg)))) (locs ++ (cs.stretch sp.toNatClampNeg n.toNatClampNeg).zipIdx.map fun q => ⟨bm_ad g d, dp.toNatClampNeg + q.2⟩) ls
        (b1.put (M' := bm_pA M d (va_cpy (bm_in M a) (bm_in M d) sp.toNatClampNeg dp.toNatClampNeg n.toNatClampNeg)) d4 hdn ⟨rfl, rfl, rfl⟩ (by
          unfold bm_ct
          rw [if_pos (show bm_kd (bm_pA M d _) d = 8 from kd), bm_in_pS]
          show (H.setIfInBounds (bm_ad g d) _)[bm_ad g d]? = some _
          simp [Array.getElem?_setIfInBounds, hlt]; rfl) (by simp) oq (fun i hi => by
            have hI : bm_in (bm_pA M d (va_cpy (bm_in M a) (bm_in M d) sp.toNatClampNeg dp.toNatClampNeg n.toNatClampNeg)) i = bm_in M i := va_up_ne _ _ hi
            exact ⟨bm_ct_congr rfl rfl rfl hI, rfl, rfl, fun _ => by rw [hI]⟩))
        (fun q hq => by
          rcases List.mem_append.mp hq with h | h
          · exact b2 q h
          · obtain ⟨z, -, hz⟩ := List.mem_map.mp h
            rw [← hz]
            show g.1 ≤ bm_ad g d
            rw [bm_ad_ge d4]; omega) b3 _ (by rw [← hT]; rfl) X'
      exact ⟨t, step t z1, z2⟩
end BMJ
end
section
/-! RETURNS AND CALLS; A METHOD BY ITS CODE -/
def bm_Qc (g : bm_G) (r : bm_R) : Array Value → State → Outcome → State → Prop := fun _ _ oc t => oc = .returned (r.1.map (bm_tr g)) ∧ bm_W g r.2 t.heap
def bm_Qm (g : bm_G) (below : List Frame) (args : Array Value) (s : State) (n0 s0 : Nat) (r : bm_R) : State → Prop := MQ below (bm_Qc g r) args s (bm_n r.2 - n0) (bm_sl r.2 - s0) (bm_fr g)
def bm_Pm (g : bm_G) (al : List bm_V) (M : bm_M) : Array Value → State → Prop := fun v U => v = (al.map (bm_tr g)).toArray ∧ bm_W g M U.heap ∧ bm_K g U
abbrev bm_Ws (y : MethodName) (cc : ByteArray) (maxL : Nat) (ret : Option FieldType) : List Cond := .code y cc maxL ret :: bm_T
/-- what is proved of a method: where the small machine's method answers, the machine's does, and alike -/
def bm_MetF (l : Launch) (g : bm_G) (y : MethodName) (cc : ByteArray) (maxL : Nat) (ret : Option FieldType) (fr lo : Nat) (f : bm_F) : Prop := ∀ (al : List bm_V) (M : bm_M) (r : bm_R), f al M = some r →
  (bm_n M ≤ bm_n r.2 ∧ bm_sl M ≤ bm_sl r.2) ∧ Met l y (bm_Ws y cc maxL ret) ({ frames := fr, cells := bm_n r.2 - bm_n M, slots := bm_sl r.2 - bm_sl M, locals := lo }) (bm_Pm g al M) (bm_Qc g r) (bm_n r.2 - bm_n M) (bm_sl r.2 - bm_sl M) (bm_fr g)
theorem bm_blind (g : bm_G) (al : List bm_V) (M : bm_M) : FrameBlind (bm_Pm g al M) := fun _ _ _ _ h => ⟨h.1, h.2.1, h.2.2.calling⟩
theorem bm_good {y : MethodName} {cc : ByteArray} {maxL : Nat} {ret : Option FieldType} (h : Cond.code y cc maxL ret ∈ bm_T) : GoodIn bm_T (bm_Ws y cc maxL ret) := by
  intro w hw
  have hm : w ∈ bm_T := (List.mem_cons.mp hw).elim (fun e => e ▸ h) id
  exact ⟨hm, good_of_word (List.mem_filter.mp hm).2⟩
/-- a method: its locals at the entry, its code, its back jumps bounded; it never gives cells back -/
def bm_mt (nL : Nat) (code : List (Nat × bm_O)) : bm_F := fun al M => bif Nat.ble al.length nL then Option.bind (bm_rn code 1000 0 (al.map some ++ List.replicate (nL - al.length) none, [], M)) (fun r => bif (Nat.ble (bm_n M) (bm_n r.2) && Nat.ble (bm_sl M) (bm_sl r.2)) then some r else none) else none
theorem bm_mt_spec {nL : Nat} {code : List (Nat × bm_O)} {al : List bm_V} {M : bm_M} {r : bm_R} (h : bm_mt nL code al M = some r) : al.length ≤ nL ∧ bm_rn code 1000 0 (al.map some ++ List.replicate (nL - al.length) none, [], M) = some r ∧ bm_n M ≤ bm_n r.2 ∧ bm_sl M ≤ bm_sl r.2 := by
  obtain ⟨h1, h2⟩ := bm_bif h
  cases hr : bm_rn code 1000 0 (al.map some ++ List.replicate (nL - al.length) none, [], M) with
  | none => rw [hr] at h2; exact bm_no h2
  | some r1 =>
    rw [hr] at h2
    obtain ⟨h3, h4⟩ := bm_bif (b := (Nat.ble (bm_n M) (bm_n r1.2) && Nat.ble (bm_sl M) (bm_sl r1.2))) (x := some r1) h2
    cases h4
    obtain ⟨h5, h6⟩ := Bool.and_eq_true_iff.mp h3
    exact ⟨Nat.le_of_ble_eq_true h1, rfl, Nat.le_of_ble_eq_true h5, Nat.le_of_ble_eq_true h6⟩
theorem bm_mt_run {nL : Nat} {code : List (Nat × bm_O)} {al : List bm_V} {M : bm_M} {r : bm_R} (h : bm_rn code 1000 0 (al.map some ++ List.replicate (nL - al.length) none, [], M) = some r) (h1 : Nat.ble al.length nL = true) (h2 : bm_n M ≤ bm_n r.2) (h3 : bm_sl M ≤ bm_sl r.2) : bm_mt nL code al M = some r := by
  unfold bm_mt
  rw [h1, h]
  show (bif (Nat.ble (bm_n M) (bm_n r.2) && Nat.ble (bm_sl M) (bm_sl r.2)) then some r else none) = some r
  rw [Nat.ble_eq_true_of_le h2, Nat.ble_eq_true_of_le h3]; rfl
section BMK
variable {p : Program} {l : Launch} {e : Env} {R : Room} {s : State} {m : MethodId} {args : Array Value} {below : List Frame} {meth : Method} {c : Code} {nL : Nat} {g : bm_G} {n0 s0 : Nat} {Qf : bm_R → State → Prop} {cc : ByteArray} {pc np : Nat} {own : String}
def op_iret : bm_O := fun _ _ x => match x with | (lo, st, M) => match st with
  | [.inl v] => some (some (.inl v), M)
  | _ => none
def op_zret : bm_O := fun _ _ x => match x with | (lo, st, M) => match st with
  | [.inl v] => if v = 0 ∨ v = 1 then some (some (.inl v), M) else none
  | _ => none
def op_ret : bm_O := fun _ _ x => match x with | (lo, st, M) => match st with
  | [] => some (none, M)
  | _ => none
def op_aret : bm_O := fun _ _ x => match x with | (lo, st, M) => match st with
  | [.inr (some a)] => some (some (.inr (some a)), M)
  | _ => none
theorem s_iret (hx : p.tables.exec = Jvm.exec) (hb : c.code = cc) (hr : meth.sig.returnType = some .int) (hlk : meth.locks = false) (hd : decode cc pc = .ok (.ireturn, 1)) : bm_Sim p l e R s m args below meth c nL g n0 s0 (bm_Qm g below args s n0 s0) pc np op_iret := by
  intro jm nx hj hn x r h
  obtain ⟨lo, st, M⟩ := x
  match st, h with
  | [.inl v], h =>
    cases h
    exact ⟨⟨Nat.le_refl _, Nat.le_refl _⟩, fun a1 a2 a3 a4 H locs ls b1 b2 b3 => W.iret hx hb hr (fun t ht hW => ⟨rfl, by rw [ht]; exact b1⟩) b2 hd hlk⟩
theorem s_zret (hx : p.tables.exec = Jvm.exec) (hb : c.code = cc) (hr : meth.sig.returnType = some .boolean) (hlk : meth.locks = false) (hd : decode cc pc = .ok (.ireturn, 1)) : bm_Sim p l e R s m args below meth c nL g n0 s0 (bm_Qm g below args s n0 s0) pc np op_zret := by
  intro jm nx hj hn x r h
  obtain ⟨lo, st, M⟩ := x
  match st, h with
  | [.inl v], h =>
    change (if v = 0 ∨ v = 1 then some (some (.inl v), M) else none) = some r at h
    by_cases hv : v = 0 ∨ v = 1
    · rw [if_pos hv] at h
      cases h
      exact ⟨⟨Nat.le_refl _, Nat.le_refl _⟩, fun a1 a2 a3 a4 H locs ls b1 b2 b3 => W.zret hx hb hr (by rcases hv with rfl | rfl <;> rfl) (fun t ht hW => ⟨rfl, by rw [ht]; exact b1⟩) b2 hd hlk⟩
    · rw [if_neg hv] at h; exact bm_no h
theorem s_ret (hx : p.tables.exec = Jvm.exec) (hb : c.code = cc) (hr : meth.sig.returnType = none) (hlk : meth.locks = false) (hd : decode cc pc = .ok (.return_, 1)) : bm_Sim p l e R s m args below meth c nL g n0 s0 (bm_Qm g below args s n0 s0) pc np op_ret := by
  intro jm nx hj hn x r h
  obtain ⟨lo, st, M⟩ := x
  match st, h with
  | [], h =>
    cases h
    exact ⟨⟨Nat.le_refl _, Nat.le_refl _⟩, fun a1 a2 a3 a4 H locs ls b1 b2 b3 => W.vret hx hb hr (fun t ht hW => ⟨rfl, by rw [ht]; exact b1⟩) b2 hd hlk⟩
theorem s_aret (hx : p.tables.exec = Jvm.exec) (hb : c.code = cc) {rt : FieldType} (hr : meth.sig.returnType = some rt) (hrt : (∃ n, rt = .object n) ∨ ∃ t, rt = .array t) (hlk : meth.locks = false) (hd : decode cc pc = .ok (.areturn, 1)) : bm_Sim p l e R s m args below meth c nL g n0 s0 (bm_Qm g below args s n0 s0) pc np op_aret := by
  intro jm nx hj hn x r h
  obtain ⟨lo, st, M⟩ := x
  match st, h with
  | [.inr (some a)], h =>
    cases h
    exact ⟨⟨Nat.le_refl _, Nat.le_refl _⟩, fun a1 a2 a3 a4 H locs ls b1 b2 b3 => W.aret hx hb hr hrt (Or.inr ⟨_, rfl⟩) (fun t ht hW => ⟨rfl, by rw [ht]; exact b1⟩) b2 hd hlk⟩
def bm_rk (k : List bm_V → Option bm_R) : Nat → Option bm_V → Option bm_R
  | 0, none => k []
  | 1, some (.inl v) => k [.inl v]
  | 2, some (.inr (some a)) => k [.inr (some a)]
  | _, _ => none
theorem bm_rk_spec (g : bm_G) {k : List bm_V → Option bm_R} {i : Nat} {v : Option bm_V} {r : bm_R} (h : bm_rk k i v = some r) : ∃ vs, k vs = some r ∧ vs.map (bm_tr g) = (v.map (bm_tr g)).toList := by
  unfold bm_rk at h
  split at h
  · exact ⟨_, h, rfl⟩
  · exact ⟨_, h, rfl⟩
  · exact ⟨_, h, rfl⟩
  · exact bm_no h
def op_call (rk na : Nat) (ck : List bm_V → bm_M → Bool) (f : bm_F) : bm_O := fun _ nx x => match x with | (lo, st, M) => bif ((Nat.ble na st.length && Nat.ble st.length (na + 8)) && ck (st.take na).reverse M) then Option.bind (f (st.take na).reverse M) (fun r => bm_rk (fun vs => nx (lo, vs ++ st.drop na, r.2)) rk r.1) else none
def bm_rc (ci : Nat) : List bm_V → bm_M → Bool := fun al M => match al with
  | .inr (some a) :: _ => Nat.beq (bm_kd M a) ci
  | _ => false
def bm_c0 : List bm_V → bm_M → Bool := fun _ _ => true
theorem bm_after {H : Heap} {locs : List Loc} {cells slots mc ms : Nat} {Q : State → Prop} {ls : Array Slot} {rest st0 : List Value} {r : bm_R} {a : Array Value} (hr : va_Run p l e R s m args below meth c H locs cells slots mc ms (F0 m pc ls st0) rest (bm_Qc g r a) (bm_fr g)) (b2 : ∀ q ∈ locs, g.1 ≤ q.base)
    (kk : ∀ (H1 : Heap) (locs1 : List Loc), bm_W g r.2 H1 → (∀ q ∈ locs1, g.1 ≤ q.base) → W p l e R s m args below meth c H1 locs1 (cells + mc) (slots + ms) Q (F0 m (pc + 3) ls ((r.1.map (bm_tr g)).toList ++ rest))) : W p l e R s m args below meth c H locs cells slots Q (F0 m pc ls st0) := by
  intro T hT X
  obtain ⟨v, st₀, t, T', L, h0, X', hL, e1, e2, ⟨hv, hw⟩, st⟩ := hr T hT X
  cases hv
  obtain ⟨t2, a1, b1⟩ := kk T'.heap (locs ++ L) (by rw [e1]; exact hw) (fun q hq => by
    rcases List.mem_append.mp hq with h | h
    · exact b2 q h
    · exact hL q h) T' rfl X'
  exact ⟨t2, st t2 a1, b1⟩
/-- the frame of a call: what is common to its kinds -/
theorem bm_callW {rk na : Nat} {ck : List bm_V → bm_M → Bool} {f : bm_F} (hf : ∀ al M r, f al M = some r → bm_n M ≤ bm_n r.2 ∧ bm_sl M ≤ bm_sl r.2)
    (hrun : ∀ (al rst : List bm_V) (M : bm_M) (r1 : bm_R) (H : Heap) (locs : List Loc) (ls : Array Slot) (cells slots : Nat), f al M = some r1 → ck al M = true → al.length = na → rst.length ≤ 8 → bm_W g M H → ls.size = nL → cells + (bm_n r1.2 - bm_n M) ≤ R.cells → slots + (bm_sl r1.2 - bm_sl M) ≤ R.slots →
      ∃ a, va_Run p l e R s m args below meth c H locs cells slots (bm_n r1.2 - bm_n M) (bm_sl r1.2 - bm_sl M) (F0 m pc ls ((al.reverse ++ rst).map (bm_tr g))) (rst.map (bm_tr g)) (bm_Qc g r1 a) (bm_fr g)) : bm_Sim p l e R s m args below meth c nL g n0 s0 Qf pc (pc + 3) (op_call rk na ck f) := by
  intro jm nx hj hn x r h
  obtain ⟨lo, st, M⟩ := x
  obtain ⟨hk, h1⟩ := bm_bif h
  obtain ⟨hk1, hck⟩ := Bool.and_eq_true_iff.mp hk
  obtain ⟨hk2, hk3⟩ := Bool.and_eq_true_iff.mp hk1
  have hk2 := Nat.le_of_ble_eq_true hk2
  have hk3 := Nat.le_of_ble_eq_true hk3
  cases hfr : f (st.take na).reverse M with
  | none => rw [hfr] at h1; exact bm_no h1
  | some r1 =>
    rw [hfr] at h1
    obtain ⟨vs, h2, h3⟩ := bm_rk_spec g (k := fun vs => nx (lo, vs ++ st.drop na, r1.2)) (i := rk) (v := r1.1) (r := r) h1
    obtain ⟨hm, hw⟩ := hn _ _ h2
    have hmo := hf _ _ _ hfr
    dsimp only at hm hw
    refine ⟨⟨Nat.le_trans hmo.1 hm.1, Nat.le_trans hmo.2 hm.2⟩, fun a1 a2 a3 a4 H locs ls b1 b2 b3 => ?_⟩
    dsimp only at a1 a2 b1 b3 ⊢
    obtain ⟨hm1, hm2⟩ := hm
    obtain ⟨ho1, ho2⟩ := hmo
    obtain ⟨a, run⟩ := hrun (st.take na).reverse (st.drop na) M r1 H locs ls (bm_n M - n0) (bm_sl M - s0) hfr hck (by rw [List.length_reverse, List.length_take]; omega) (by rw [List.length_drop]; omega) b1 b3.1 (by omega) (by omega)
    rw [List.reverse_reverse, List.take_append_drop] at run
    refine bm_after run b2 (fun H1 locs1 e1 e2 => ?_)
    refine W.cs (show _ = bm_n r1.2 - n0 by omega) (show _ = bm_sl r1.2 - s0 by omega) ?_
    have key := hw (by omega) (by omega) a3 a4 H1 locs1 ls e1 e2 b3
    rw [List.map_append, h3] at key
    exact key
variable {index maxL fr lo rk na : Nat} {y : MethodName} {bytes : ByteArray} {ret : Option FieldType} {f : bm_F}
theorem s_callS (hx : p.tables.exec = Jvm.exec) (hb : c.code = cc) (hml : c.maxLocals = nL) (hown : s.vm.findClass own = some m.cls) (hts : ∀ w ∈ bm_T, w.before args s = true) (hK : bm_K g s) (hM : bm_MetF l g y bytes maxL ret fr lo f) (hl : Cond.methodLink own index y ∈ bm_T) (hst : Cond.static y ∈ bm_T) (hini : Cond.initialized y.cls ∈ bm_T) (hcd : Cond.code y bytes maxL ret ∈ bm_T)
    (hdd : y.cls ≠ "java/lang/invoke/MethodHandle" ∧ y.cls ≠ "java/lang/invoke/VarHandle" ∧ (parseMethodDescriptor y.desc).map (fun d => d.parameters.length) = some na) (hR : fr + 1 ≤ R.frames ∧ 8 + (maxL + 11) + lo ≤ R.locals) (hd : decode cc pc = .ok (.invokestatic index, 3)) : bm_Sim p l e R s m args below meth c nL g n0 s0 Qf pc (pc + 3) (op_call rk na bm_c0 f) := by
  refine bm_callW (fun al M r h => (hM al M r h).1) (fun al rst M r1 H locs ls cells slots h1 h2 h3 h4 h5 h6 h7 h8 => ?_)
  exact ⟨_, va_runS (As := al.map (bm_tr g)) (rest := rst.map (bm_tr g)) (g := F0 m pc ls ((al.reverse ++ rst).map (bm_tr g))) ⟨hx, hb, hml, hown, hts⟩ (hM al M r1 h1).2 ⟨callB_of na hts (bm_good hcd) rfl rfl rfl (hts _ hini) (hts _ hl) hdd hR, hts _ hst⟩ ⟨bm_blind g al M, fun U hU hW => ⟨rfl, by rw [hU]; exact h5, bm_K.warm hW hK⟩⟩ rfl (by rw [List.length_map]; exact h3) h6 (by show (al.reverse ++ rst).map _ = _; rw [List.map_append, List.map_reverse]) (by show 2 * 0 + ((rst.map (bm_tr g)).map fun v => v.category).sum ≤ 8; rw [bm_sum]; omega) hd ⟨h7, h8⟩⟩
theorem s_callSN (hx : p.tables.exec = Jvm.exec) (hb : c.code = cc) (hml : c.maxLocals = nL) (hown : s.vm.findClass own = some m.cls) (hts : ∀ w ∈ bm_T, w.before args s = true) (hK : bm_K g s) {host : String} (hM : bm_MetF l g y bytes maxL ret fr lo f) (hl : va_Nw (.methodLinkNest own index y host) s) (hst : Cond.static y ∈ bm_T) (hini : Cond.initialized y.cls ∈ bm_T) (hcd : Cond.code y bytes maxL ret ∈ bm_T)
    (hdd : y.cls ≠ "java/lang/invoke/MethodHandle" ∧ y.cls ≠ "java/lang/invoke/VarHandle" ∧ (parseMethodDescriptor y.desc).map (fun d => d.parameters.length) = some na) (hR : fr + 1 ≤ R.frames ∧ 8 + (maxL + 11) + lo ≤ R.locals) (hd : decode cc pc = .ok (.invokestatic index, 3)) : bm_Sim p l e R s m args below meth c nL g n0 s0 Qf pc (pc + 3) (op_call rk na bm_c0 f) := by
  refine bm_callW (fun al M r h => (hM al M r h).1) (fun al rst M r1 H locs ls cells slots h1 h2 h3 h4 h5 h6 h7 h8 => ?_)
  exact ⟨_, va_runSN (As := al.map (bm_tr g)) (rest := rst.map (bm_tr g)) (g := F0 m pc ls ((al.reverse ++ rst).map (bm_tr g))) ⟨hx, hb, hml, hown, hts⟩ (hM al M r1 h1).2 ⟨va_cnB na hts (bm_good hcd) rfl rfl rfl hl (hts _ hini) hdd hR, hts _ hst, trivial⟩ ⟨bm_blind g al M, fun U hU hW => ⟨rfl, by rw [hU]; exact h5, bm_K.warm hW hK⟩⟩ rfl (by rw [List.length_map]; exact h3) h6 (by show (al.reverse ++ rst).map _ = _; rw [List.map_append, List.map_reverse]) (by show 2 * 0 + ((rst.map (bm_tr g)).map fun v => v.category).sum ≤ 8; rw [bm_sum]; omega) hd ⟨h7, h8⟩⟩
theorem bm_rc_spec {ci : Nat} {al : List bm_V} {M : bm_M} (h : bm_rc ci al M = true) : ∃ a as, al = .inr (some a) :: as ∧ bm_kd M a = ci := by
  match al, h with
  | .inr (some a) :: as, h => exact ⟨a, as, rfl, Nat.eq_of_beq_eq_true h⟩
theorem s_callV (hx : p.tables.exec = Jvm.exec) (hb : c.code = cc) (hml : c.maxLocals = nL) (hown : s.vm.findClass own = some m.cls) (hts : ∀ w ∈ bm_T, w.before args s = true) (hK : bm_K g s) {C : String} {TT : u_T} {N ci : Nat} (hc : vwCl[ci]? = some (C, TT, N)) (h8 : ci < 8) (hM : bm_MetF l g y bytes maxL ret fr lo f) (hl : Cond.methodLink own index y ∈ bm_T) (hin9 : Cond.instanceMethod y ∈ bm_T) (hse : Cond.selects C y y ∈ bm_T) (hini : Cond.initialized y.cls ∈ bm_T) (hcd : Cond.code y bytes maxL ret ∈ bm_T)
    (hdd : y.cls ≠ "java/lang/invoke/MethodHandle" ∧ y.cls ≠ "java/lang/invoke/VarHandle" ∧ (parseMethodDescriptor y.desc).map (fun d => d.parameters.length) = some na) (hR : fr + 1 ≤ R.frames ∧ 8 + (maxL + 11) + lo ≤ R.locals) (hd : decode cc pc = .ok (.invokevirtual index, 3)) : bm_Sim p l e R s m args below meth c nL g n0 s0 Qf pc (pc + 3) (op_call rk (na + 1) (bm_rc ci) f) := by
  refine bm_callW (fun al M r h => (hM al M r h).1) (fun al rst M r1 H locs ls cells slots h1 h2 h3 h4 h5 h6 h7 h9 => ?_)
  obtain ⟨a, as, rfl, hkd⟩ := bm_rc_spec h2
  subst hkd
  have h49 := h5.old (Or.inl h8)
  have hat := h5.2.2.1 a h49.1 h49.2
  rw [bm_ct_ob h8] at hat
  obtain ⟨r', hr', cellB, g1, g2, g3, -⟩ := hat
  have hcls := (hK.2.1.1 _ _ hc).2
  exact ⟨_, va_runV (C := C) (b := bm_ad g a) (As := as.map (bm_tr g)) (rest := rst.map (bm_tr g)) (g := F0 m pc ls ((((.inr (some a) :: as : List bm_V)).reverse ++ rst).map (bm_tr g))) ⟨hx, hb, hml, hown, hts⟩ (hM _ M r1 h1).2 ⟨callB_of na hts (bm_good hcd) rfl rfl rfl (hts _ hini) (hts _ hl) hdd hR, hts _ hin9, hts _ hse⟩ ⟨bm_blind g _ M, ⟨cellB, g1, by rw [g3]; rfl, by rw [g2]; exact hcls.1⟩, fun U hU hW => ⟨rfl, by rw [hU]; exact h5, bm_K.warm hW hK⟩⟩ rfl (by rw [List.length_map]; simpa using h3) h6 (by show (((.inr (some a) :: as : List bm_V)).reverse ++ rst).map _ = _; rw [List.reverse_cons, List.map_append, List.map_append, List.map_reverse, List.append_assoc]; rfl) (by show 2 * 0 + ((rst.map (bm_tr g)).map fun v => v.category).sum ≤ 8; rw [bm_sum]; omega) hd ⟨h7, h9⟩⟩
theorem s_callI (hx : p.tables.exec = Jvm.exec) (hb : c.code = cc) (hml : c.maxLocals = nL) (hown : s.vm.findClass own = some m.cls) (hts : ∀ w ∈ bm_T, w.before args s = true) (hK : bm_K g s) {ci : Nat} (hM : bm_MetF l g y bytes maxL none fr lo f) (hl : Cond.methodLink own index y ∈ bm_T) (hin9 : Cond.instanceMethod y ∈ bm_T) (hy1 : y.name = "<init>") (hini : Cond.initialized y.cls ∈ bm_T) (hcd : Cond.code y bytes maxL none ∈ bm_T)
    (hdd : y.cls ≠ "java/lang/invoke/MethodHandle" ∧ y.cls ≠ "java/lang/invoke/VarHandle" ∧ (parseMethodDescriptor y.desc).map (fun d => d.parameters.length) = some na) (hR : fr + 1 ≤ R.frames ∧ 8 + (maxL + 11) + lo ≤ R.locals) (hd : decode cc pc = .ok (.invokespecial index, 3)) : bm_Sim p l e R s m args below meth c nL g n0 s0 Qf pc (pc + 3) (op_call rk (na + 1) (bm_rc ci) f) := by
  refine bm_callW (fun al M r h => (hM al M r h).1) (fun al rst M r1 H locs ls cells slots h1 h2 h3 h4 h5 h6 h7 h9 => ?_)
  obtain ⟨a, as, rfl, hkd⟩ := bm_rc_spec h2
  exact ⟨_, va_runI (b := bm_ad g a) (As := as.map (bm_tr g)) (rest := rst.map (bm_tr g)) (g := F0 m pc ls ((((.inr (some a) :: as : List bm_V)).reverse ++ rst).map (bm_tr g))) ⟨hx, hb, hml, hown, hts⟩ (hM _ M r1 h1).2 ⟨callB_of na hts (bm_good hcd) rfl rfl rfl (hts _ hini) (hts _ hl) hdd hR, hy1, hts _ hin9⟩ ⟨bm_blind g _ M, fun U hU hW => ⟨rfl, by rw [hU]; exact h5, bm_K.warm hW hK⟩⟩ rfl (by rw [List.length_map]; simpa using h3) h6 (by show (((.inr (some a) :: as : List bm_V)).reverse ++ rst).map _ = _; rw [List.reverse_cons, List.map_append, List.map_append, List.map_reverse, List.append_assoc]; rfl) (by show 2 * 0 + ((rst.map (bm_tr g)).map fun v => v.category).sum ≤ 8; rw [bm_sum]; omega) hd ⟨h7, h9⟩⟩
end BMK
theorem bm_args (g : bm_G) : ∀ (al : List bm_V) (k i : Nat) (v : bm_V), al[i]? = some v → (k + i, bm_tr g v) ∈ lv_args k (al.map (bm_tr g))
  | [], k, i, v, h => by simp at h
  | a :: al, k, i, v, h => by
    rw [List.map_cons]
    unfold lv_args
    rw [if_neg (by rw [bm_cat]; decide)]
    cases i with
    | zero => rw [List.getElem?_cons_zero] at h; cases h; exact List.mem_cons_self
    | succ i =>
      rw [List.getElem?_cons_succ] at h
      rw [show k + (i + 1) = (k + 1) + i by omega]
      exact List.mem_cons_of_mem _ (bm_args g al (k + 1) i v h)
theorem bm_sl_len (g : bm_G) (al : List bm_V) : (lg_sl (al.map (bm_tr g))).length = al.length := by
  induction al with
  | nil => rfl
  | cons a al ih =>
    show (List.flatMap _ _).length = _
    rw [List.map_cons, List.flatMap_cons, List.length_append, if_neg (by rw [bm_cat]; decide)]
    have : (List.flatMap (fun v => if Value.category v = 2 then [Slot.val v, Slot.second] else [Slot.val v]) (List.map (bm_tr g) al)).length = al.length := ih
    rw [this]; simp only [List.length_cons, List.length_nil]; omega
/-- the locals at a method's entry -/
theorem bm_entry (g : bm_G) {al : List bm_V} {nL : Nat} (h : al.length ≤ nL) : bm_lr g nL ((lg_sl (al.map (bm_tr g)) ++ List.replicate (nL - (lg_sl (al.map (bm_tr g))).length) Slot.unset).toArray) (al.map some ++ List.replicate (nL - al.length) none) := by
  have hl := lv_entry (al.map (bm_tr g)) (n := nL) (by rw [bm_sl_len]; exact h)
  refine ⟨hl.1, by simp; omega, hl.2.1, fun i v hv => ?_⟩
  have hi : al[i]? = some v := by
    rw [List.getD_eq_getElem?_getD] at hv
    by_cases hlt : i < al.length
    · rw [List.getElem?_append_left (by simpa using hlt), List.getElem?_map] at hv
      cases ha : al[i]? with
      | none => rw [ha] at hv; cases hv
      | some w => rw [ha] at hv; cases hv; rfl
    · rw [List.getElem?_append_right (by simp; omega), List.getElem?_replicate] at hv
      split at hv <;> cases hv
  have := hl.2.2 _ (bm_args g al 0 i v hi)
  rw [Nat.zero_add] at this
  exact this
/-- a method by its code: each step followed, so the method -/
theorem bm_met {l : Launch} {g : bm_G} {y : MethodName} {cc : ByteArray} {maxL : Nat} {ret : Option FieldType} {fr lo : Nat} {code : List (Nat × bm_O)} (hy : plainName y.cls = true)
    (hCS : ∀ (p : Program) (e : Env) (R : Room) (s : State) (m : MethodId) (args : Array Value) (below : List Frame) (meth : Method) (c : Code) (n0 s0 : Nat), p.tables.exec = Jvm.exec → c.code = cc → c.maxLocals = maxL → s.vm.findClass y.cls = some m.cls → (∀ w ∈ bm_T, w.before args s = true) → bm_K g s → meth.sig.returnType = ret → meth.locks = false → meth.name = y.name → R.frames = fr → R.locals = lo →
      bm_CS (bm_Sim p l e R s m args below meth c maxL g n0 s0 (bm_Qm g below args s n0 s0)) code) : bm_MetF l g y cc maxL ret fr lo (bm_mt maxL code) := by
  intro al M r hf
  obtain ⟨h1, h2, h3, h4⟩ := bm_mt_spec hf
  refine ⟨⟨h3, h4⟩, Met.ofW (cc := cc) (maxL := maxL) (ret := ret) hy rfl ?_⟩
  intro p e s m args below meth c s₁ B hml hP
  obtain ⟨rfl, hW, hK⟩ := hP
  have hts := atoms_spec (ws := bm_Ws y cc maxL ret) B.pre
  have hown : s.vm.findClass y.cls = some m.cls := findClass_of_methodNamed B.named
  have hnm : meth.name = y.name := (name_of_methodNamed B.named B.method).1
  have key := (bm_rn_sim (hCS p e ({ frames := fr, cells := bm_n r.2 - bm_n M, slots := bm_sl r.2 - bm_sl M, locals := lo } : Room) s m _ below meth c (bm_n M) (bm_sl M) B.exec B.bytes hml hown (fun w hw => hts w (List.mem_cons_of_mem _ hw)) hK B.returns B.notSynchronized hnm rfl rfl) 1000 0 _ r h2).2 (Nat.le_refl _) (Nat.le_refl _) (Nat.le_refl _) (Nat.le_refl _) s.heap [] _ hW (fun _ h => by cases h) (bm_entry g h1)
  dsimp only at key
  rw [Nat.sub_self, Nat.sub_self] at key
  rw [lg_entry_eq]
  exact key
end
