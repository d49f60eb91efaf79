section
-- ===== PART A: goes FIRST, ahead of the names: the tables' words, and 'selects' of the private methods out of them =====
/-- a private method of a class that the tables say can be made, by its rows of tables_1 -/
def lw_okq (q : MethodName × Nat) : Prop := (q.1.cls ≠ "java/lang/invoke/MethodHandle" ∧ q.1.cls ≠ "java/lang/invoke/VarHandle") ∧ Cond.instantiable q.1.cls q.2 ∈ tables_1 ∧ Cond.privateMethod q.1 ∈ tables_1 ∧ Cond.instanceMethod q.1 ∈ tables_1
theorem lw_p0 : lw_okq (⟨"StrikeBallots", "sheetAt", "(I)LStrikeBallots$Sheet;"⟩, 15) := ⟨⟨by decide +kernel, by decide +kernel⟩, List.mem_of_getElem? (i := 25) (by decide +kernel), List.mem_of_getElem? (i := 445) (by decide +kernel), List.mem_of_getElem? (i := 446) (by decide +kernel)⟩
theorem lw_p1 : lw_okq (⟨"StrikeBallots$Roll", "joinThoseWith", "(I)V"⟩, 7) := ⟨⟨by decide +kernel, by decide +kernel⟩, List.mem_of_getElem? (i := 65) (by decide +kernel), List.mem_of_getElem? (i := 476) (by decide +kernel), List.mem_of_getElem? (i := 477) (by decide +kernel)⟩
theorem lw_p2 : lw_okq (⟨"StrikeBallots$Roll", "partnerFor", "(II)I"⟩, 7) := ⟨⟨by decide +kernel, by decide +kernel⟩, List.mem_of_getElem? (i := 65) (by decide +kernel), List.mem_of_getElem? (i := 480) (by decide +kernel), List.mem_of_getElem? (i := 481) (by decide +kernel)⟩
theorem lw_p3 : lw_okq (⟨"StrikeBallots", "ballotAt", "(I)LStrikeBallots$Ballot;"⟩, 15) := ⟨⟨by decide +kernel, by decide +kernel⟩, List.mem_of_getElem? (i := 25) (by decide +kernel), List.mem_of_getElem? (i := 566) (by decide +kernel), List.mem_of_getElem? (i := 567) (by decide +kernel)⟩
theorem lw_p4 : lw_okq (⟨"StrikeBallots", "isKnownDay", "(LStrikeBallots$Ballot;I)Z"⟩, 15) := ⟨⟨by decide +kernel, by decide +kernel⟩, List.mem_of_getElem? (i := 25) (by decide +kernel), List.mem_of_getElem? (i := 710) (by decide +kernel), List.mem_of_getElem? (i := 711) (by decide +kernel)⟩
theorem lw_p5 : lw_okq (⟨"StrikeBallots$Ballot", "tellEntitled", "(LStrikeBallots$Names;II)V"⟩, 8) := ⟨⟨by decide +kernel, by decide +kernel⟩, List.mem_of_getElem? (i := 526) (by decide +kernel), List.mem_of_getElem? (i := 723) (by decide +kernel), List.mem_of_getElem? (i := 724) (by decide +kernel)⟩
theorem lw_p6 : lw_okq (⟨"StrikeBallots$Parcels", "begin", "()V"⟩, 5) := ⟨⟨by decide +kernel, by decide +kernel⟩, List.mem_of_getElem? (i := 97) (by decide +kernel), List.mem_of_getElem? (i := 768) (by decide +kernel), List.mem_of_getElem? (i := 769) (by decide +kernel)⟩
theorem lw_p7 : lw_okq (⟨"StrikeBallots$Parcels", "addBranch", "(LStrikeBallots$Ballot;I)V"⟩, 5) := ⟨⟨by decide +kernel, by decide +kernel⟩, List.mem_of_getElem? (i := 97) (by decide +kernel), List.mem_of_getElem? (i := 772) (by decide +kernel), List.mem_of_getElem? (i := 773) (by decide +kernel)⟩
theorem lw_p8 : lw_okq (⟨"StrikeBallots$Parcels", "joinLastTwo", "()V"⟩, 5) := ⟨⟨by decide +kernel, by decide +kernel⟩, List.mem_of_getElem? (i := 97) (by decide +kernel), List.mem_of_getElem? (i := 781) (by decide +kernel), List.mem_of_getElem? (i := 782) (by decide +kernel)⟩
theorem lw_p9 : lw_okq (⟨"StrikeBallots$Tape", "byteAt", "(I)I"⟩, 5) := ⟨⟨by decide +kernel, by decide +kernel⟩, List.mem_of_getElem? (i := 124) (by decide +kernel), List.mem_of_getElem? (i := 817) (by decide +kernel), List.mem_of_getElem? (i := 818) (by decide +kernel)⟩
theorem lw_p10 : lw_okq (⟨"StrikeBallots$Tape", "sortAt", "(I)I"⟩, 5) := ⟨⟨by decide +kernel, by decide +kernel⟩, List.mem_of_getElem? (i := 124) (by decide +kernel), List.mem_of_getElem? (i := 821) (by decide +kernel), List.mem_of_getElem? (i := 822) (by decide +kernel)⟩
theorem lw_p11 : lw_okq (⟨"StrikeBallots$Law", "readSection", "(Ljava/lang/String;I)Z"⟩, 8) := ⟨⟨by decide +kernel, by decide +kernel⟩, List.mem_of_getElem? (i := 148) (by decide +kernel), List.mem_of_getElem? (i := 832) (by decide +kernel), List.mem_of_getElem? (i := 833) (by decide +kernel)⟩
theorem lw_p12 : lw_okq (⟨"StrikeBallots$Law", "readLevel", "(III)Z"⟩, 8) := ⟨⟨by decide +kernel, by decide +kernel⟩, List.mem_of_getElem? (i := 148) (by decide +kernel), List.mem_of_getElem? (i := 862) (by decide +kernel), List.mem_of_getElem? (i := 863) (by decide +kernel)⟩
theorem lw_p13 : lw_okq (⟨"StrikeBallots$Law", "readPart", "(II)Z"⟩, 8) := ⟨⟨by decide +kernel, by decide +kernel⟩, List.mem_of_getElem? (i := 148) (by decide +kernel), List.mem_of_getElem? (i := 866) (by decide +kernel), List.mem_of_getElem? (i := 867) (by decide +kernel)⟩
theorem lw_p14 : lw_okq (⟨"StrikeBallots$Law", "takeOperand", "(I)Z"⟩, 8) := ⟨⟨by decide +kernel, by decide +kernel⟩, List.mem_of_getElem? (i := 148) (by decide +kernel), List.mem_of_getElem? (i := 874) (by decide +kernel), List.mem_of_getElem? (i := 875) (by decide +kernel)⟩
theorem lw_p15 : lw_okq (⟨"StrikeBallots$Law", "write", "(I)V"⟩, 8) := ⟨⟨by decide +kernel, by decide +kernel⟩, List.mem_of_getElem? (i := 148) (by decide +kernel), List.mem_of_getElem? (i := 878) (by decide +kernel), List.mem_of_getElem? (i := 879) (by decide +kernel)⟩
def lw_privs_1 : List (MethodName × Nat) := [(⟨"StrikeBallots", "sheetAt", "(I)LStrikeBallots$Sheet;"⟩, 15), (⟨"StrikeBallots$Roll", "joinThoseWith", "(I)V"⟩, 7), (⟨"StrikeBallots$Roll", "partnerFor", "(II)I"⟩, 7), (⟨"StrikeBallots", "ballotAt", "(I)LStrikeBallots$Ballot;"⟩, 15), (⟨"StrikeBallots", "isKnownDay", "(LStrikeBallots$Ballot;I)Z"⟩, 15), (⟨"StrikeBallots$Ballot", "tellEntitled", "(LStrikeBallots$Names;II)V"⟩, 8), (⟨"StrikeBallots$Parcels", "begin", "()V"⟩, 5), (⟨"StrikeBallots$Parcels", "addBranch", "(LStrikeBallots$Ballot;I)V"⟩, 5), (⟨"StrikeBallots$Parcels", "joinLastTwo", "()V"⟩, 5), (⟨"StrikeBallots$Tape", "byteAt", "(I)I"⟩, 5), (⟨"StrikeBallots$Tape", "sortAt", "(I)I"⟩, 5), (⟨"StrikeBallots$Law", "readSection", "(Ljava/lang/String;I)Z"⟩, 8), (⟨"StrikeBallots$Law", "readLevel", "(III)Z"⟩, 8), (⟨"StrikeBallots$Law", "readPart", "(II)Z"⟩, 8), (⟨"StrikeBallots$Law", "takeOperand", "(I)Z"⟩, 8), (⟨"StrikeBallots$Law", "write", "(I)V"⟩, 8)]
theorem lw_r1 : ∀ q ∈ lw_privs_1, lw_okq q := List.forall_mem_cons.mpr ⟨lw_p0, List.forall_mem_cons.mpr ⟨lw_p1, List.forall_mem_cons.mpr ⟨lw_p2, List.forall_mem_cons.mpr ⟨lw_p3, List.forall_mem_cons.mpr ⟨lw_p4, List.forall_mem_cons.mpr ⟨lw_p5, List.forall_mem_cons.mpr ⟨lw_p6, List.forall_mem_cons.mpr ⟨lw_p7, List.forall_mem_cons.mpr ⟨lw_p8, List.forall_mem_cons.mpr ⟨lw_p9, List.forall_mem_cons.mpr ⟨lw_p10, List.forall_mem_cons.mpr ⟨lw_p11, List.forall_mem_cons.mpr ⟨lw_p12, List.forall_mem_cons.mpr ⟨lw_p13, List.forall_mem_cons.mpr ⟨lw_p14, List.forall_mem_cons.mpr ⟨lw_p15, fun _ h => absurd h List.not_mem_nil⟩⟩⟩⟩⟩⟩⟩⟩⟩⟩⟩⟩⟩⟩⟩⟩
theorem lw_p16 : lw_okq (⟨"StrikeBallots$Law", "isNameHere", "(C)Z"⟩, 8) := ⟨⟨by decide +kernel, by decide +kernel⟩, List.mem_of_getElem? (i := 148) (by decide +kernel), List.mem_of_getElem? (i := 886) (by decide +kernel), List.mem_of_getElem? (i := 887) (by decide +kernel)⟩
theorem lw_p17 : lw_okq (⟨"StrikeBallots$Law", "takeClosing", "()Z"⟩, 8) := ⟨⟨by decide +kernel, by decide +kernel⟩, List.mem_of_getElem? (i := 148) (by decide +kernel), List.mem_of_getElem? (i := 896) (by decide +kernel), List.mem_of_getElem? (i := 897) (by decide +kernel)⟩
theorem lw_p18 : lw_okq (⟨"StrikeBallots", "lawFor", "(LStrikeBallots$Ballot;II)I"⟩, 15) := ⟨⟨by decide +kernel, by decide +kernel⟩, List.mem_of_getElem? (i := 25) (by decide +kernel), List.mem_of_getElem? (i := 913) (by decide +kernel), List.mem_of_getElem? (i := 914) (by decide +kernel)⟩
theorem lw_p19 : lw_okq (⟨"StrikeBallots$Law", "work", "(ILStrikeBallots$Names;)V"⟩, 8) := ⟨⟨by decide +kernel, by decide +kernel⟩, List.mem_of_getElem? (i := 148) (by decide +kernel), List.mem_of_getElem? (i := 922) (by decide +kernel), List.mem_of_getElem? (i := 923) (by decide +kernel)⟩
theorem lw_p20 : lw_okq (⟨"StrikeBallots$Law", "push", "(I)V"⟩, 8) := ⟨⟨by decide +kernel, by decide +kernel⟩, List.mem_of_getElem? (i := 148) (by decide +kernel), List.mem_of_getElem? (i := 927) (by decide +kernel), List.mem_of_getElem? (i := 928) (by decide +kernel)⟩
theorem lw_p21 : lw_okq (⟨"StrikeBallots$Law", "pop", "()I"⟩, 8) := ⟨⟨by decide +kernel, by decide +kernel⟩, List.mem_of_getElem? (i := 148) (by decide +kernel), List.mem_of_getElem? (i := 931) (by decide +kernel), List.mem_of_getElem? (i := 932) (by decide +kernel)⟩
theorem lw_p22 : lw_okq (⟨"StrikeBallots", "isStanding", "(LStrikeBallots$Ballot;I)Z"⟩, 15) := ⟨⟨by decide +kernel, by decide +kernel⟩, List.mem_of_getElem? (i := 25) (by decide +kernel), List.mem_of_getElem? (i := 943) (by decide +kernel), List.mem_of_getElem? (i := 944) (by decide +kernel)⟩
theorem lw_p23 : lw_okq (⟨"StrikeBallots", "isLiving", "(LStrikeBallots$Ballot;I)Z"⟩, 15) := ⟨⟨by decide +kernel, by decide +kernel⟩, List.mem_of_getElem? (i := 25) (by decide +kernel), List.mem_of_getElem? (i := 951) (by decide +kernel), List.mem_of_getElem? (i := 952) (by decide +kernel)⟩
theorem lw_p24 : lw_okq (⟨"StrikeBallots", "noticeAt", "(I)LStrikeBallots$Notice;"⟩, 15) := ⟨⟨by decide +kernel, by decide +kernel⟩, List.mem_of_getElem? (i := 25) (by decide +kernel), List.mem_of_getElem? (i := 1006) (by decide +kernel), List.mem_of_getElem? (i := 1007) (by decide +kernel)⟩
theorem lw_p25 : lw_okq (⟨"StrikeBallots", "makePlan", "(II)Z"⟩, 15) := ⟨⟨by decide +kernel, by decide +kernel⟩, List.mem_of_getElem? (i := 25) (by decide +kernel), List.mem_of_getElem? (i := 1040) (by decide +kernel), List.mem_of_getElem? (i := 1041) (by decide +kernel)⟩
theorem lw_p26 : lw_okq (⟨"StrikeBallots$Plan", "choose", "(IIIII)V"⟩, 10) := ⟨⟨by decide +kernel, by decide +kernel⟩, List.mem_of_getElem? (i := 192) (by decide +kernel), List.mem_of_getElem? (i := 1060) (by decide +kernel), List.mem_of_getElem? (i := 1061) (by decide +kernel)⟩
theorem lw_p27 : lw_okq (⟨"StrikeBallots$Plan", "keepBetter", "(II)V"⟩, 10) := ⟨⟨by decide +kernel, by decide +kernel⟩, List.mem_of_getElem? (i := 192) (by decide +kernel), List.mem_of_getElem? (i := 1064) (by decide +kernel), List.mem_of_getElem? (i := 1065) (by decide +kernel)⟩
theorem lw_p28 : lw_okq (⟨"StrikeBallots$Plan", "isTold", "(III)Z"⟩, 10) := ⟨⟨by decide +kernel, by decide +kernel⟩, List.mem_of_getElem? (i := 192) (by decide +kernel), List.mem_of_getElem? (i := 1094) (by decide +kernel), List.mem_of_getElem? (i := 1095) (by decide +kernel)⟩
theorem lw_p29 : lw_okq (⟨"StrikeBallotsModel", "isBranch", "(I)Z"⟩, 63) := ⟨⟨by decide +kernel, by decide +kernel⟩, List.mem_of_getElem? (i := 1141) (by decide +kernel), List.mem_of_getElem? (i := 1351) (by decide +kernel), List.mem_of_getElem? (i := 1352) (by decide +kernel)⟩
theorem lw_p30 : lw_okq (⟨"StrikeBallotsModel", "isOfKind", "(II)Z"⟩, 63) := ⟨⟨by decide +kernel, by decide +kernel⟩, List.mem_of_getElem? (i := 1141) (by decide +kernel), List.mem_of_getElem? (i := 1355) (by decide +kernel), List.mem_of_getElem? (i := 1356) (by decide +kernel)⟩
theorem lw_p31 : lw_okq (⟨"StrikeBallotsModel", "isMember", "(I)Z"⟩, 63) := ⟨⟨by decide +kernel, by decide +kernel⟩, List.mem_of_getElem? (i := 1141) (by decide +kernel), List.mem_of_getElem? (i := 1367) (by decide +kernel), List.mem_of_getElem? (i := 1368) (by decide +kernel)⟩
def lw_privs_2 : List (MethodName × Nat) := [(⟨"StrikeBallots$Law", "isNameHere", "(C)Z"⟩, 8), (⟨"StrikeBallots$Law", "takeClosing", "()Z"⟩, 8), (⟨"StrikeBallots", "lawFor", "(LStrikeBallots$Ballot;II)I"⟩, 15), (⟨"StrikeBallots$Law", "work", "(ILStrikeBallots$Names;)V"⟩, 8), (⟨"StrikeBallots$Law", "push", "(I)V"⟩, 8), (⟨"StrikeBallots$Law", "pop", "()I"⟩, 8), (⟨"StrikeBallots", "isStanding", "(LStrikeBallots$Ballot;I)Z"⟩, 15), (⟨"StrikeBallots", "isLiving", "(LStrikeBallots$Ballot;I)Z"⟩, 15), (⟨"StrikeBallots", "noticeAt", "(I)LStrikeBallots$Notice;"⟩, 15), (⟨"StrikeBallots", "makePlan", "(II)Z"⟩, 15), (⟨"StrikeBallots$Plan", "choose", "(IIIII)V"⟩, 10), (⟨"StrikeBallots$Plan", "keepBetter", "(II)V"⟩, 10), (⟨"StrikeBallots$Plan", "isTold", "(III)Z"⟩, 10), (⟨"StrikeBallotsModel", "isBranch", "(I)Z"⟩, 63), (⟨"StrikeBallotsModel", "isOfKind", "(II)Z"⟩, 63), (⟨"StrikeBallotsModel", "isMember", "(I)Z"⟩, 63)]
theorem lw_r2 : ∀ q ∈ lw_privs_2, lw_okq q := List.forall_mem_cons.mpr ⟨lw_p16, List.forall_mem_cons.mpr ⟨lw_p17, List.forall_mem_cons.mpr ⟨lw_p18, List.forall_mem_cons.mpr ⟨lw_p19, List.forall_mem_cons.mpr ⟨lw_p20, List.forall_mem_cons.mpr ⟨lw_p21, List.forall_mem_cons.mpr ⟨lw_p22, List.forall_mem_cons.mpr ⟨lw_p23, List.forall_mem_cons.mpr ⟨lw_p24, List.forall_mem_cons.mpr ⟨lw_p25, List.forall_mem_cons.mpr ⟨lw_p26, List.forall_mem_cons.mpr ⟨lw_p27, List.forall_mem_cons.mpr ⟨lw_p28, List.forall_mem_cons.mpr ⟨lw_p29, List.forall_mem_cons.mpr ⟨lw_p30, List.forall_mem_cons.mpr ⟨lw_p31, fun _ h => absurd h List.not_mem_nil⟩⟩⟩⟩⟩⟩⟩⟩⟩⟩⟩⟩⟩⟩⟩⟩
theorem lw_p32 : lw_okq (⟨"StrikeBallotsModel", "branchOf", "(I)I"⟩, 63) := ⟨⟨by decide +kernel, by decide +kernel⟩, List.mem_of_getElem? (i := 1141) (by decide +kernel), List.mem_of_getElem? (i := 1371) (by decide +kernel), List.mem_of_getElem? (i := 1372) (by decide +kernel)⟩
theorem lw_p33 : lw_okq (⟨"StrikeBallotsModel", "ofOn", "(II)I"⟩, 63) := ⟨⟨by decide +kernel, by decide +kernel⟩, List.mem_of_getElem? (i := 1141) (by decide +kernel), List.mem_of_getElem? (i := 1384) (by decide +kernel), List.mem_of_getElem? (i := 1385) (by decide +kernel)⟩
theorem lw_p34 : lw_okq (⟨"StrikeBallotsModel", "joinsAll", "()V"⟩, 63) := ⟨⟨by decide +kernel, by decide +kernel⟩, List.mem_of_getElem? (i := 1141) (by decide +kernel), List.mem_of_getElem? (i := 1414) (by decide +kernel), List.mem_of_getElem? (i := 1415) (by decide +kernel)⟩
theorem lw_p35 : lw_okq (⟨"StrikeBallotsModel", "joins", "(I)V"⟩, 63) := ⟨⟨by decide +kernel, by decide +kernel⟩, List.mem_of_getElem? (i := 1141) (by decide +kernel), List.mem_of_getElem? (i := 1418) (by decide +kernel), List.mem_of_getElem? (i := 1419) (by decide +kernel)⟩
theorem lw_p36 : lw_okq (⟨"StrikeBallotsModel", "isBallot", "(I)Z"⟩, 63) := ⟨⟨by decide +kernel, by decide +kernel⟩, List.mem_of_getElem? (i := 1141) (by decide +kernel), List.mem_of_getElem? (i := 1441) (by decide +kernel), List.mem_of_getElem? (i := 1442) (by decide +kernel)⟩
theorem lw_p37 : lw_okq (⟨"StrikeBallotsModel", "papers", "(I)I"⟩, 63) := ⟨⟨by decide +kernel, by decide +kernel⟩, List.mem_of_getElem? (i := 1141) (by decide +kernel), List.mem_of_getElem? (i := 1445) (by decide +kernel), List.mem_of_getElem? (i := 1446) (by decide +kernel)⟩
theorem lw_p38 : lw_okq (⟨"StrikeBallotsModel", "isEntitled", "(II)Z"⟩, 63) := ⟨⟨by decide +kernel, by decide +kernel⟩, List.mem_of_getElem? (i := 1141) (by decide +kernel), List.mem_of_getElem? (i := 1453) (by decide +kernel), List.mem_of_getElem? (i := 1454) (by decide +kernel)⟩
theorem lw_p39 : lw_okq (⟨"StrikeBallotsModel", "isIn", "(III)Z"⟩, 63) := ⟨⟨by decide +kernel, by decide +kernel⟩, List.mem_of_getElem? (i := 1141) (by decide +kernel), List.mem_of_getElem? (i := 1457) (by decide +kernel), List.mem_of_getElem? (i := 1458) (by decide +kernel)⟩
theorem lw_p40 : lw_okq (⟨"StrikeBallotsModel", "isTime", "(II)Z"⟩, 63) := ⟨⟨by decide +kernel, by decide +kernel⟩, List.mem_of_getElem? (i := 1141) (by decide +kernel), List.mem_of_getElem? (i := 1476) (by decide +kernel), List.mem_of_getElem? (i := 1477) (by decide +kernel)⟩
theorem lw_p41 : lw_okq (⟨"StrikeBallotsModel", "knows", "(II)V"⟩, 63) := ⟨⟨by decide +kernel, by decide +kernel⟩, List.mem_of_getElem? (i := 1141) (by decide +kernel), List.mem_of_getElem? (i := 1480) (by decide +kernel), List.mem_of_getElem? (i := 1481) (by decide +kernel)⟩
theorem lw_p42 : lw_okq (⟨"StrikeBallotsModel", "parts", "(I)V"⟩, 63) := ⟨⟨by decide +kernel, by decide +kernel⟩, List.mem_of_getElem? (i := 1141) (by decide +kernel), List.mem_of_getElem? (i := 1492) (by decide +kernel), List.mem_of_getElem? (i := 1493) (by decide +kernel)⟩
theorem lw_p43 : lw_okq (⟨"StrikeBallotsModel", "hasEntitled", "(II)Z"⟩, 63) := ⟨⟨by decide +kernel, by decide +kernel⟩, List.mem_of_getElem? (i := 1141) (by decide +kernel), List.mem_of_getElem? (i := 1496) (by decide +kernel), List.mem_of_getElem? (i := 1497) (by decide +kernel)⟩
theorem lw_p44 : lw_okq (⟨"StrikeBallotsModel", "adds", "(III)V"⟩, 63) := ⟨⟨by decide +kernel, by decide +kernel⟩, List.mem_of_getElem? (i := 1141) (by decide +kernel), List.mem_of_getElem? (i := 1500) (by decide +kernel), List.mem_of_getElem? (i := 1501) (by decide +kernel)⟩
theorem lw_p45 : lw_okq (⟨"StrikeBallotsModel", "next", "()V"⟩, 63) := ⟨⟨by decide +kernel, by decide +kernel⟩, List.mem_of_getElem? (i := 1141) (by decide +kernel), List.mem_of_getElem? (i := 1523) (by decide +kernel), List.mem_of_getElem? (i := 1524) (by decide +kernel)⟩
theorem lw_p46 : lw_okq (⟨"StrikeBallotsModel", "at", "(I)I"⟩, 63) := ⟨⟨by decide +kernel, by decide +kernel⟩, List.mem_of_getElem? (i := 1141) (by decide +kernel), List.mem_of_getElem? (i := 1527) (by decide +kernel), List.mem_of_getElem? (i := 1528) (by decide +kernel)⟩
theorem lw_p47 : lw_okq (⟨"StrikeBallotsModel", "reads", "(Ljava/lang/String;I)V"⟩, 63) := ⟨⟨by decide +kernel, by decide +kernel⟩, List.mem_of_getElem? (i := 1141) (by decide +kernel), List.mem_of_getElem? (i := 1538) (by decide +kernel), List.mem_of_getElem? (i := 1539) (by decide +kernel)⟩
def lw_privs_3 : List (MethodName × Nat) := [(⟨"StrikeBallotsModel", "branchOf", "(I)I"⟩, 63), (⟨"StrikeBallotsModel", "ofOn", "(II)I"⟩, 63), (⟨"StrikeBallotsModel", "joinsAll", "()V"⟩, 63), (⟨"StrikeBallotsModel", "joins", "(I)V"⟩, 63), (⟨"StrikeBallotsModel", "isBallot", "(I)Z"⟩, 63), (⟨"StrikeBallotsModel", "papers", "(I)I"⟩, 63), (⟨"StrikeBallotsModel", "isEntitled", "(II)Z"⟩, 63), (⟨"StrikeBallotsModel", "isIn", "(III)Z"⟩, 63), (⟨"StrikeBallotsModel", "isTime", "(II)Z"⟩, 63), (⟨"StrikeBallotsModel", "knows", "(II)V"⟩, 63), (⟨"StrikeBallotsModel", "parts", "(I)V"⟩, 63), (⟨"StrikeBallotsModel", "hasEntitled", "(II)Z"⟩, 63), (⟨"StrikeBallotsModel", "adds", "(III)V"⟩, 63), (⟨"StrikeBallotsModel", "next", "()V"⟩, 63), (⟨"StrikeBallotsModel", "at", "(I)I"⟩, 63), (⟨"StrikeBallotsModel", "reads", "(Ljava/lang/String;I)V"⟩, 63)]
theorem lw_r3 : ∀ q ∈ lw_privs_3, lw_okq q := List.forall_mem_cons.mpr ⟨lw_p32, List.forall_mem_cons.mpr ⟨lw_p33, List.forall_mem_cons.mpr ⟨lw_p34, List.forall_mem_cons.mpr ⟨lw_p35, List.forall_mem_cons.mpr ⟨lw_p36, List.forall_mem_cons.mpr ⟨lw_p37, List.forall_mem_cons.mpr ⟨lw_p38, List.forall_mem_cons.mpr ⟨lw_p39, List.forall_mem_cons.mpr ⟨lw_p40, List.forall_mem_cons.mpr ⟨lw_p41, List.forall_mem_cons.mpr ⟨lw_p42, List.forall_mem_cons.mpr ⟨lw_p43, List.forall_mem_cons.mpr ⟨lw_p44, List.forall_mem_cons.mpr ⟨lw_p45, List.forall_mem_cons.mpr ⟨lw_p46, List.forall_mem_cons.mpr ⟨lw_p47, fun _ h => absurd h List.not_mem_nil⟩⟩⟩⟩⟩⟩⟩⟩⟩⟩⟩⟩⟩⟩⟩⟩
theorem lw_p48 : lw_okq (⟨"StrikeBallotsModel", "isWord", "(Ljava/lang/String;)Z"⟩, 63) := ⟨⟨by decide +kernel, by decide +kernel⟩, List.mem_of_getElem? (i := 1141) (by decide +kernel), List.mem_of_getElem? (i := 1542) (by decide +kernel), List.mem_of_getElem? (i := 1543) (by decide +kernel)⟩
theorem lw_p49 : lw_okq (⟨"StrikeBallotsModel", "takes", "(Z)V"⟩, 63) := ⟨⟨by decide +kernel, by decide +kernel⟩, List.mem_of_getElem? (i := 1141) (by decide +kernel), List.mem_of_getElem? (i := 1548) (by decide +kernel), List.mem_of_getElem? (i := 1549) (by decide +kernel)⟩
theorem lw_p50 : lw_okq (⟨"StrikeBallotsModel", "or", "()I"⟩, 63) := ⟨⟨by decide +kernel, by decide +kernel⟩, List.mem_of_getElem? (i := 1141) (by decide +kernel), List.mem_of_getElem? (i := 1552) (by decide +kernel), List.mem_of_getElem? (i := 1553) (by decide +kernel)⟩
theorem lw_p51 : lw_okq (⟨"StrikeBallotsModel", "and", "()I"⟩, 63) := ⟨⟨by decide +kernel, by decide +kernel⟩, List.mem_of_getElem? (i := 1141) (by decide +kernel), List.mem_of_getElem? (i := 1556) (by decide +kernel), List.mem_of_getElem? (i := 1557) (by decide +kernel)⟩
theorem lw_p52 : lw_okq (⟨"StrikeBallotsModel", "test", "()I"⟩, 63) := ⟨⟨by decide +kernel, by decide +kernel⟩, List.mem_of_getElem? (i := 1141) (by decide +kernel), List.mem_of_getElem? (i := 1560) (by decide +kernel), List.mem_of_getElem? (i := 1561) (by decide +kernel)⟩
theorem lw_p53 : lw_okq (⟨"StrikeBallotsModel", "sum", "()I"⟩, 63) := ⟨⟨by decide +kernel, by decide +kernel⟩, List.mem_of_getElem? (i := 1141) (by decide +kernel), List.mem_of_getElem? (i := 1564) (by decide +kernel), List.mem_of_getElem? (i := 1565) (by decide +kernel)⟩
theorem lw_p54 : lw_okq (⟨"StrikeBallotsModel", "term", "()I"⟩, 63) := ⟨⟨by decide +kernel, by decide +kernel⟩, List.mem_of_getElem? (i := 1141) (by decide +kernel), List.mem_of_getElem? (i := 1568) (by decide +kernel), List.mem_of_getElem? (i := 1569) (by decide +kernel)⟩
theorem lw_p55 : lw_okq (⟨"StrikeBallotsModel", "one", "()I"⟩, 63) := ⟨⟨by decide +kernel, by decide +kernel⟩, List.mem_of_getElem? (i := 1141) (by decide +kernel), List.mem_of_getElem? (i := 1572) (by decide +kernel), List.mem_of_getElem? (i := 1573) (by decide +kernel)⟩
theorem lw_p56 : lw_okq (⟨"StrikeBallotsModel", "isSign", "(I)Z"⟩, 63) := ⟨⟨by decide +kernel, by decide +kernel⟩, List.mem_of_getElem? (i := 1141) (by decide +kernel), List.mem_of_getElem? (i := 1576) (by decide +kernel), List.mem_of_getElem? (i := 1577) (by decide +kernel)⟩
theorem lw_p57 : lw_okq (⟨"StrikeBallotsModel", "number", "()I"⟩, 63) := ⟨⟨by decide +kernel, by decide +kernel⟩, List.mem_of_getElem? (i := 1141) (by decide +kernel), List.mem_of_getElem? (i := 1580) (by decide +kernel), List.mem_of_getElem? (i := 1581) (by decide +kernel)⟩
theorem lw_p58 : lw_okq (⟨"StrikeBallotsModel", "saysOn", "(III)I"⟩, 63) := ⟨⟨by decide +kernel, by decide +kernel⟩, List.mem_of_getElem? (i := 1141) (by decide +kernel), List.mem_of_getElem? (i := 1590) (by decide +kernel), List.mem_of_getElem? (i := 1591) (by decide +kernel)⟩
theorem lw_p59 : lw_okq (⟨"StrikeBallotsModel", "gives", "(I)I"⟩, 63) := ⟨⟨by decide +kernel, by decide +kernel⟩, List.mem_of_getElem? (i := 1141) (by decide +kernel), List.mem_of_getElem? (i := 1594) (by decide +kernel), List.mem_of_getElem? (i := 1595) (by decide +kernel)⟩
theorem lw_p60 : lw_okq (⟨"StrikeBallotsModel", "standsOn", "(II)Z"⟩, 63) := ⟨⟨by decide +kernel, by decide +kernel⟩, List.mem_of_getElem? (i := 1141) (by decide +kernel), List.mem_of_getElem? (i := 1602) (by decide +kernel), List.mem_of_getElem? (i := 1603) (by decide +kernel)⟩
theorem lw_p61 : lw_okq (⟨"StrikeBallotsModel", "livesOn", "(II)Z"⟩, 63) := ⟨⟨by decide +kernel, by decide +kernel⟩, List.mem_of_getElem? (i := 1141) (by decide +kernel), List.mem_of_getElem? (i := 1610) (by decide +kernel), List.mem_of_getElem? (i := 1611) (by decide +kernel)⟩
theorem lw_p62 : lw_okq (⟨"StrikeBallotsModel", "isList", "(II)Z"⟩, 63) := ⟨⟨by decide +kernel, by decide +kernel⟩, List.mem_of_getElem? (i := 1141) (by decide +kernel), List.mem_of_getElem? (i := 1622) (by decide +kernel), List.mem_of_getElem? (i := 1623) (by decide +kernel)⟩
theorem lw_p63 : lw_okq (⟨"StrikeBallotsModel", "costOf", "(I)I"⟩, 63) := ⟨⟨by decide +kernel, by decide +kernel⟩, List.mem_of_getElem? (i := 1141) (by decide +kernel), List.mem_of_getElem? (i := 1653) (by decide +kernel), List.mem_of_getElem? (i := 1654) (by decide +kernel)⟩
def lw_privs_4 : List (MethodName × Nat) := [(⟨"StrikeBallotsModel", "isWord", "(Ljava/lang/String;)Z"⟩, 63), (⟨"StrikeBallotsModel", "takes", "(Z)V"⟩, 63), (⟨"StrikeBallotsModel", "or", "()I"⟩, 63), (⟨"StrikeBallotsModel", "and", "()I"⟩, 63), (⟨"StrikeBallotsModel", "test", "()I"⟩, 63), (⟨"StrikeBallotsModel", "sum", "()I"⟩, 63), (⟨"StrikeBallotsModel", "term", "()I"⟩, 63), (⟨"StrikeBallotsModel", "one", "()I"⟩, 63), (⟨"StrikeBallotsModel", "isSign", "(I)Z"⟩, 63), (⟨"StrikeBallotsModel", "number", "()I"⟩, 63), (⟨"StrikeBallotsModel", "saysOn", "(III)I"⟩, 63), (⟨"StrikeBallotsModel", "gives", "(I)I"⟩, 63), (⟨"StrikeBallotsModel", "standsOn", "(II)Z"⟩, 63), (⟨"StrikeBallotsModel", "livesOn", "(II)Z"⟩, 63), (⟨"StrikeBallotsModel", "isList", "(II)Z"⟩, 63), (⟨"StrikeBallotsModel", "costOf", "(I)I"⟩, 63)]
theorem lw_r4 : ∀ q ∈ lw_privs_4, lw_okq q := List.forall_mem_cons.mpr ⟨lw_p48, List.forall_mem_cons.mpr ⟨lw_p49, List.forall_mem_cons.mpr ⟨lw_p50, List.forall_mem_cons.mpr ⟨lw_p51, List.forall_mem_cons.mpr ⟨lw_p52, List.forall_mem_cons.mpr ⟨lw_p53, List.forall_mem_cons.mpr ⟨lw_p54, List.forall_mem_cons.mpr ⟨lw_p55, List.forall_mem_cons.mpr ⟨lw_p56, List.forall_mem_cons.mpr ⟨lw_p57, List.forall_mem_cons.mpr ⟨lw_p58, List.forall_mem_cons.mpr ⟨lw_p59, List.forall_mem_cons.mpr ⟨lw_p60, List.forall_mem_cons.mpr ⟨lw_p61, List.forall_mem_cons.mpr ⟨lw_p62, List.forall_mem_cons.mpr ⟨lw_p63, fun _ h => absurd h List.not_mem_nil⟩⟩⟩⟩⟩⟩⟩⟩⟩⟩⟩⟩⟩⟩⟩⟩
theorem lw_p64 : lw_okq (⟨"StrikeBallotsModel", "dayWage", "(I)I"⟩, 63) := ⟨⟨by decide +kernel, by decide +kernel⟩, List.mem_of_getElem? (i := 1141) (by decide +kernel), List.mem_of_getElem? (i := 1657) (by decide +kernel), List.mem_of_getElem? (i := 1658) (by decide +kernel)⟩
theorem lw_p65 : lw_okq (⟨"StrikeBallotsModel", "isPlan", "(II)Z"⟩, 63) := ⟨⟨by decide +kernel, by decide +kernel⟩, List.mem_of_getElem? (i := 1141) (by decide +kernel), List.mem_of_getElem? (i := 1665) (by decide +kernel), List.mem_of_getElem? (i := 1666) (by decide +kernel)⟩
theorem lw_p66 : lw_okq (⟨"StrikeBallotsModel", "bestDays", "(II)I"⟩, 63) := ⟨⟨by decide +kernel, by decide +kernel⟩, List.mem_of_getElem? (i := 1141) (by decide +kernel), List.mem_of_getElem? (i := 1669) (by decide +kernel), List.mem_of_getElem? (i := 1670) (by decide +kernel)⟩
theorem lw_p67 : lw_okq (⟨"StrikeBallotsModel", "isVital", "(I)Z"⟩, 63) := ⟨⟨by decide +kernel, by decide +kernel⟩, List.mem_of_getElem? (i := 1141) (by decide +kernel), List.mem_of_getElem? (i := 1673) (by decide +kernel), List.mem_of_getElem? (i := 1674) (by decide +kernel)⟩
theorem lw_p68 : lw_okq (⟨"StrikeBallotsModel", "harmOf", "(I)I"⟩, 63) := ⟨⟨by decide +kernel, by decide +kernel⟩, List.mem_of_getElem? (i := 1141) (by decide +kernel), List.mem_of_getElem? (i := 1677) (by decide +kernel), List.mem_of_getElem? (i := 1678) (by decide +kernel)⟩
theorem lw_p69 : lw_okq (⟨"StrikeBallotsModel", "canBe", "(III)Z"⟩, 63) := ⟨⟨by decide +kernel, by decide +kernel⟩, List.mem_of_getElem? (i := 1141) (by decide +kernel), List.mem_of_getElem? (i := 1684) (by decide +kernel), List.mem_of_getElem? (i := 1685) (by decide +kernel)⟩
theorem lw_p70 : lw_okq (⟨"StrikeBallotsModel", "fundBehind", "(III)I"⟩, 63) := ⟨⟨by decide +kernel, by decide +kernel⟩, List.mem_of_getElem? (i := 1141) (by decide +kernel), List.mem_of_getElem? (i := 1688) (by decide +kernel), List.mem_of_getElem? (i := 1689) (by decide +kernel)⟩
def lw_privs_5 : List (MethodName × Nat) := [(⟨"StrikeBallotsModel", "dayWage", "(I)I"⟩, 63), (⟨"StrikeBallotsModel", "isPlan", "(II)Z"⟩, 63), (⟨"StrikeBallotsModel", "bestDays", "(II)I"⟩, 63), (⟨"StrikeBallotsModel", "isVital", "(I)Z"⟩, 63), (⟨"StrikeBallotsModel", "harmOf", "(I)I"⟩, 63), (⟨"StrikeBallotsModel", "canBe", "(III)Z"⟩, 63), (⟨"StrikeBallotsModel", "fundBehind", "(III)I"⟩, 63)]
theorem lw_r5 : ∀ q ∈ lw_privs_5, lw_okq q := List.forall_mem_cons.mpr ⟨lw_p64, List.forall_mem_cons.mpr ⟨lw_p65, List.forall_mem_cons.mpr ⟨lw_p66, List.forall_mem_cons.mpr ⟨lw_p67, List.forall_mem_cons.mpr ⟨lw_p68, List.forall_mem_cons.mpr ⟨lw_p69, List.forall_mem_cons.mpr ⟨lw_p70, fun _ h => absurd h List.not_mem_nil⟩⟩⟩⟩⟩⟩⟩
def lw_privs : List (MethodName × Nat) := lw_privs_1 ++ (lw_privs_2 ++ (lw_privs_3 ++ (lw_privs_4 ++ (lw_privs_5))))
def lw_tbl : List Cond := k2_sels lw_privs ++ tables_1
theorem lw_privs_ok : ∀ q ∈ lw_privs, lw_okq q := by
  show ∀ q ∈ lw_privs_1 ++ (lw_privs_2 ++ (lw_privs_3 ++ (lw_privs_4 ++ (lw_privs_5)))), lw_okq q
  exact List.forall_mem_append.mpr ⟨lw_r1, List.forall_mem_append.mpr ⟨lw_r2, List.forall_mem_append.mpr ⟨lw_r3, List.forall_mem_append.mpr ⟨lw_r4, lw_r5⟩⟩⟩⟩
-- ===== end of PART A; then your names; then what follows =====
end
section
def RX0 : String := "StrikeBallots$Ballot"
def TX0 : u_T := fun k => match k with
  | 0 => ("StrikeBallots$Ballot", "union", "LStrikeBallots$Union;", true)
  | 1 => ("StrikeBallots$Ballot", "branches", "I", true)
  | 2 => ("StrikeBallots$Ballot", "day", "I", true)
  | 3 => ("StrikeBallots$Ballot", "closing", "I", false)
  | 4 => ("StrikeBallots$Ballot", "papers", "I", false)
  | 5 => ("StrikeBallots$Ballot", "sentOn", "[I", true)
  | 6 => ("StrikeBallots$Ballot", "heardOn", "[I", true)
  | _ => ("StrikeBallots$Ballot", "hows", "[I", true)
def tyX0 : Nat → FieldType := fun k => match k with
  | 0 => .object "StrikeBallots$Union"
  | 1 => .int
  | 2 => .int
  | 3 => .int
  | 4 => .int
  | 5 => .array .int
  | 6 => .array .int
  | _ => .array .int
abbrev wsX00 : List Cond := u_ws RX0 TX0 8
theorem nmX0 : ∀ a, a < 8 → ∀ b, b < 8 → a ≠ b → (TX0 a).2.1 ≠ (TX0 b).2.1 := by decide +kernel
theorem tyX0_ok : ∀ k, k < 8 → parseFieldDescriptor (TX0 k).2.2.1 = some (tyX0 k) := by decide +kernel
abbrev cX0_init : ByteArray := prog_2_method_1_code
def yX0_init : MethodName := ⟨RX0, "<init>", "(LStrikeBallots$Union;I)V"⟩
abbrev cX0_hasClosed : ByteArray := prog_2_method_2_code
def yX0_hasClosed : MethodName := ⟨RX0, "hasClosed", "()Z"⟩
abbrev cX0_hasSent : ByteArray := prog_2_method_3_code
def yX0_hasSent : MethodName := ⟨RX0, "hasSent", "(I)Z"⟩
abbrev cX0_hasHeard : ByteArray := prog_2_method_4_code
def yX0_hasHeard : MethodName := ⟨RX0, "hasHeard", "(I)Z"⟩
abbrev cX0_post : ByteArray := prog_2_method_5_code
def yX0_post : MethodName := ⟨RX0, "post", "(I)V"⟩
abbrev cX0_postToMissed : ByteArray := prog_2_method_6_code
def yX0_postToMissed : MethodName := ⟨RX0, "postToMissed", "()I"⟩
abbrev cX0_hear : ByteArray := prog_2_method_7_code
def yX0_hear : MethodName := ⟨RX0, "hear", "(II)V"⟩
abbrev cX0_tellNames : ByteArray := prog_2_method_8_code
def yX0_tellNames : MethodName := ⟨RX0, "tellNames", "(LStrikeBallots$Names;I)V"⟩
abbrev cX0_tellEntitled : ByteArray := prog_2_method_9_code
def yX0_tellEntitled : MethodName := ⟨RX0, "tellEntitled", "(LStrikeBallots$Names;II)V"⟩
abbrev cX0_hasBranch : ByteArray := prog_2_method_10_code
def yX0_hasBranch : MethodName := ⟨RX0, "hasBranch", "(I)Z"⟩
abbrev cX0_entitledOf : ByteArray := prog_2_method_11_code
def yX0_entitledOf : MethodName := ⟨RX0, "entitledOf", "(I)I"⟩
abbrev cX0_heardOf : ByteArray := prog_2_method_12_code
def yX0_heardOf : MethodName := ⟨RX0, "heardOf", "(II)I"⟩
def RX1 : String := "StrikeBallots$Law"
def TX1 : u_T := fun k => match k with
  | 0 => ("StrikeBallots$Law", "steps", "[I", true)
  | 1 => ("StrikeBallots$Law", "stepCount", "I", false)
  | 2 => ("StrikeBallots$Law", "ends", "[I", true)
  | 3 => ("StrikeBallots$Law", "operands", "I", false)
  | 4 => ("StrikeBallots$Law", "tape", "LStrikeBallots$Tape;", false)
  | 5 => ("StrikeBallots$Law", "reading", "I", false)
  | 6 => ("StrikeBallots$Law", "stack", "[I", true)
  | _ => ("StrikeBallots$Law", "height", "I", false)
def tyX1 : Nat → FieldType := fun k => match k with
  | 0 => .array .int
  | 1 => .int
  | 2 => .array .int
  | 3 => .int
  | 4 => .object "StrikeBallots$Tape"
  | 5 => .int
  | 6 => .array .int
  | _ => .int
abbrev wsX10 : List Cond := u_ws RX1 TX1 8
theorem nmX1 : ∀ a, a < 8 → ∀ b, b < 8 → a ≠ b → (TX1 a).2.1 ≠ (TX1 b).2.1 := by decide +kernel
theorem tyX1_ok : ∀ k, k < 8 → parseFieldDescriptor (TX1 k).2.2.1 = some (tyX1 k) := by decide +kernel
abbrev cX1_init : ByteArray := prog_3_method_1_code
def yX1_init : MethodName := ⟨RX1, "<init>", "()V"⟩
abbrev cX1_isBallotName : ByteArray := prog_3_method_2_code
def yX1_isBallotName : MethodName := ⟨RX1, "isBallotName", "(C)Z"⟩
abbrev cX1_readFrom : ByteArray := prog_3_method_3_code
def yX1_readFrom : MethodName := ⟨RX1, "readFrom", "(LStrikeBallots$Tape;)Z"⟩
abbrev cX1_readSection : ByteArray := prog_3_method_4_code
def yX1_readSection : MethodName := ⟨RX1, "readSection", "(Ljava/lang/String;I)Z"⟩
abbrev cX1_readLevel : ByteArray := prog_3_method_5_code
def yX1_readLevel : MethodName := ⟨RX1, "readLevel", "(III)Z"⟩
abbrev cX1_readPart : ByteArray := prog_3_method_6_code
def yX1_readPart : MethodName := ⟨RX1, "readPart", "(II)Z"⟩
abbrev cX1_isNameHere : ByteArray := prog_3_method_7_code
def yX1_isNameHere : MethodName := ⟨RX1, "isNameHere", "(C)Z"⟩
abbrev cX1_takeOperand : ByteArray := prog_3_method_8_code
def yX1_takeOperand : MethodName := ⟨RX1, "takeOperand", "(I)Z"⟩
abbrev cX1_takeClosing : ByteArray := prog_3_method_9_code
def yX1_takeClosing : MethodName := ⟨RX1, "takeClosing", "()Z"⟩
abbrev cX1_levelOf : ByteArray := prog_3_method_10_code
def yX1_levelOf : MethodName := ⟨RX1, "levelOf", "(C)I"⟩
abbrev cX1_write : ByteArray := prog_3_method_11_code
def yX1_write : MethodName := ⟨RX1, "write", "(I)V"⟩
abbrev cX1_valueOf : ByteArray := prog_3_method_12_code
def yX1_valueOf : MethodName := ⟨RX1, "valueOf", "(ILStrikeBallots$Names;)I"⟩
abbrev cX1_work : ByteArray := prog_3_method_13_code
def yX1_work : MethodName := ⟨RX1, "work", "(ILStrikeBallots$Names;)V"⟩
abbrev cX1_apply : ByteArray := prog_3_method_14_code
def yX1_apply : MethodName := ⟨RX1, "apply", "(CII)I"⟩
abbrev cX1_push : ByteArray := prog_3_method_15_code
def yX1_push : MethodName := ⟨RX1, "push", "(I)V"⟩
abbrev cX1_pop : ByteArray := prog_3_method_16_code
def yX1_pop : MethodName := ⟨RX1, "pop", "()I"⟩
def RX2 : String := "StrikeBallots$Member"
def TX2 : u_T := fun k => match k with
  | 0 => ("StrikeBallots$Member", "ownMark", "I", true)
  | 1 => ("StrikeBallots$Member", "hours", "I", true)
  | 2 => ("StrikeBallots$Member", "wage", "I", true)
  | 3 => ("StrikeBallots$Member", "came", "I", true)
  | 4 => ("StrikeBallots$Member", "left", "I", false)
  | 5 => ("StrikeBallots$Member", "firstBranch", "I", true)
  | 6 => ("StrikeBallots$Member", "moveDays", "[I", true)
  | 7 => ("StrikeBallots$Member", "moveBranches", "[I", true)
  | _ => ("StrikeBallots$Member", "moves", "I", false)
def tyX2 : Nat → FieldType := fun k => match k with
  | 0 => .int
  | 1 => .int
  | 2 => .int
  | 3 => .int
  | 4 => .int
  | 5 => .int
  | 6 => .array .int
  | 7 => .array .int
  | _ => .int
abbrev wsX20 : List Cond := u_ws RX2 TX2 9
theorem nmX2 : ∀ a, a < 9 → ∀ b, b < 9 → a ≠ b → (TX2 a).2.1 ≠ (TX2 b).2.1 := by decide +kernel
theorem tyX2_ok : ∀ k, k < 9 → parseFieldDescriptor (TX2 k).2.2.1 = some (tyX2 k) := by decide +kernel
abbrev cX2_init : ByteArray := prog_4_method_1_code
def yX2_init : MethodName := ⟨RX2, "<init>", "(IIIII)V"⟩
abbrev cX2_hasLeft : ByteArray := prog_4_method_2_code
def yX2_hasLeft : MethodName := ⟨RX2, "hasLeft", "()Z"⟩
abbrev cX2_lastBranch : ByteArray := prog_4_method_3_code
def yX2_lastBranch : MethodName := ⟨RX2, "lastBranch", "()I"⟩
abbrev cX2_branchOn : ByteArray := prog_4_method_4_code
def yX2_branchOn : MethodName := ⟨RX2, "branchOn", "(I)I"⟩
abbrev cX2_goTo : ByteArray := prog_4_method_5_code
def yX2_goTo : MethodName := ⟨RX2, "goTo", "(II)Z"⟩
abbrev cX2_dayWage : ByteArray := prog_4_method_6_code
def yX2_dayWage : MethodName := ⟨RX2, "dayWage", "()I"⟩
def RX3 : String := "StrikeBallots$Names"
def TX3 : u_T := fun k => match k with
  | _ => ("StrikeBallots$Names", "values", "[I", true)
def tyX3 : Nat → FieldType := fun k => match k with
  | _ => .array .int
abbrev wsX30 : List Cond := u_ws RX3 TX3 1
theorem nmX3 : ∀ a, a < 1 → ∀ b, b < 1 → a ≠ b → (TX3 a).2.1 ≠ (TX3 b).2.1 := by decide +kernel
theorem tyX3_ok : ∀ k, k < 1 → parseFieldDescriptor (TX3 k).2.2.1 = some (tyX3 k) := by decide +kernel
abbrev cX3_init : ByteArray := prog_5_method_1_code
def yX3_init : MethodName := ⟨RX3, "<init>", "()V"⟩
abbrev cX3_clear : ByteArray := prog_5_method_2_code
def yX3_clear : MethodName := ⟨RX3, "clear", "()V"⟩
abbrev cX3_put : ByteArray := prog_5_method_3_code
def yX3_put : MethodName := ⟨RX3, "put", "(CI)V"⟩
abbrev cX3_addOne : ByteArray := prog_5_method_4_code
def yX3_addOne : MethodName := ⟨RX3, "addOne", "(C)V"⟩
abbrev cX3_valueOf : ByteArray := prog_5_method_5_code
def yX3_valueOf : MethodName := ⟨RX3, "valueOf", "(C)I"⟩
def RX4 : String := "StrikeBallots$Notice"
def TX4 : u_T := fun k => match k with
  | 0 => ("StrikeBallots$Notice", "ballot", "I", true)
  | 1 => ("StrikeBallots$Notice", "given", "I", true)
  | 2 => ("StrikeBallots$Notice", "first", "I", true)
  | 3 => ("StrikeBallots$Notice", "wrong", "I", false)
  | _ => ("StrikeBallots$Notice", "listed", "I", false)
def tyX4 : Nat → FieldType := fun k => match k with
  | 0 => .int
  | 1 => .int
  | 2 => .int
  | 3 => .int
  | _ => .int
abbrev wsX40 : List Cond := u_ws RX4 TX4 5
theorem nmX4 : ∀ a, a < 5 → ∀ b, b < 5 → a ≠ b → (TX4 a).2.1 ≠ (TX4 b).2.1 := by decide +kernel
theorem tyX4_ok : ∀ k, k < 5 → parseFieldDescriptor (TX4 k).2.2.1 = some (tyX4 k) := by decide +kernel
abbrev cX4_init : ByteArray := prog_6_method_1_code
def yX4_init : MethodName := ⟨RX4, "<init>", "(III)V"⟩
def RX5 : String := "StrikeBallots$Parcels"
def TX5 : u_T := fun k => match k with
  | 0 => ("StrikeBallots$Parcels", "bits", "[I", true)
  | 1 => ("StrikeBallots$Parcels", "returned", "[I", true)
  | 2 => ("StrikeBallots$Parcels", "yes", "[I", true)
  | 3 => ("StrikeBallots$Parcels", "no", "[I", true)
  | _ => ("StrikeBallots$Parcels", "size", "I", false)
def tyX5 : Nat → FieldType := fun k => match k with
  | 0 => .array .int
  | 1 => .array .int
  | 2 => .array .int
  | 3 => .array .int
  | _ => .int
abbrev wsX50 : List Cond := u_ws RX5 TX5 5
theorem nmX5 : ∀ a, a < 5 → ∀ b, b < 5 → a ≠ b → (TX5 a).2.1 ≠ (TX5 b).2.1 := by decide +kernel
theorem tyX5_ok : ∀ k, k < 5 → parseFieldDescriptor (TX5 k).2.2.1 = some (tyX5 k) := by decide +kernel
abbrev cX5_init : ByteArray := prog_7_method_1_code
def yX5_init : MethodName := ⟨RX5, "<init>", "()V"⟩
abbrev cX5_gather : ByteArray := prog_7_method_2_code
def yX5_gather : MethodName := ⟨RX5, "gather", "(LStrikeBallots$Ballot;I)V"⟩
abbrev cX5_begin : ByteArray := prog_7_method_3_code
def yX5_begin : MethodName := ⟨RX5, "begin", "()V"⟩
abbrev cX5_addBranch : ByteArray := prog_7_method_4_code
def yX5_addBranch : MethodName := ⟨RX5, "addBranch", "(LStrikeBallots$Ballot;I)V"⟩
abbrev cX5_joinLastTwo : ByteArray := prog_7_method_5_code
def yX5_joinLastTwo : MethodName := ⟨RX5, "joinLastTwo", "()V"⟩
def RX6 : String := "StrikeBallots$Plan"
def TX6 : u_T := fun k => match k with
  | 0 => ("StrikeBallots$Plan", "harms", "[I", true)
  | 1 => ("StrikeBallots$Plan", "rules", "[I", true)
  | 2 => ("StrikeBallots$Plan", "waiting", "[I", true)
  | 3 => ("StrikeBallots$Plan", "waitingCount", "I", false)
  | 4 => ("StrikeBallots$Plan", "harmFrom", "[I", true)
  | 5 => ("StrikeBallots$Plan", "length", "I", false)
  | 6 => ("StrikeBallots$Plan", "pay", "I", false)
  | 7 => ("StrikeBallots$Plan", "longest", "I", false)
  | 8 => ("StrikeBallots$Plan", "best", "I", false)
  | _ => ("StrikeBallots$Plan", "bestHarm", "I", false)
def tyX6 : Nat → FieldType := fun k => match k with
  | 0 => .array .int
  | 1 => .array .int
  | 2 => .array .int
  | 3 => .int
  | 4 => .array .int
  | 5 => .int
  | 6 => .int
  | 7 => .int
  | 8 => .int
  | _ => .int
abbrev wsX60 : List Cond := u_ws RX6 TX6 10
theorem nmX6 : ∀ a, a < 10 → ∀ b, b < 10 → a ≠ b → (TX6 a).2.1 ≠ (TX6 b).2.1 := by decide +kernel
theorem tyX6_ok : ∀ k, k < 10 → parseFieldDescriptor (TX6 k).2.2.1 = some (tyX6 k) := by decide +kernel
abbrev cX6_init : ByteArray := prog_8_method_1_code
def yX6_init : MethodName := ⟨RX6, "<init>", "()V"⟩
abbrev cX6_takeHarms : ByteArray := prog_8_method_2_code
def yX6_takeHarms : MethodName := ⟨RX6, "takeHarms", "(LStrikeBallots$Sheet;)I"⟩
abbrev cX6_make : ByteArray := prog_8_method_3_code
def yX6_make : MethodName := ⟨RX6, "make", "(III)V"⟩
abbrev cX6_choose : ByteArray := prog_8_method_4_code
def yX6_choose : MethodName := ⟨RX6, "choose", "(IIIII)V"⟩
abbrev cX6_keepBetter : ByteArray := prog_8_method_5_code
def yX6_keepBetter : MethodName := ⟨RX6, "keepBetter", "(II)V"⟩
abbrev cX6_compareRows : ByteArray := prog_8_method_6_code
def yX6_compareRows : MethodName := ⟨RX6, "compareRows", "(I)I"⟩
abbrev cX6_isTold : ByteArray := prog_8_method_7_code
def yX6_isTold : MethodName := ⟨RX6, "isTold", "(III)Z"⟩
def RX7 : String := "StrikeBallots$Roll"
def TX7 : u_T := fun k => match k with
  | 0 => ("StrikeBallots$Roll", "union", "LStrikeBallots$Union;", true)
  | 1 => ("StrikeBallots$Roll", "marks", "[I", true)
  | 2 => ("StrikeBallots$Roll", "branches", "[I", true)
  | 3 => ("StrikeBallots$Roll", "lineCount", "I", false)
  | 4 => ("StrikeBallots$Roll", "partners", "[I", true)
  | 5 => ("StrikeBallots$Roll", "differences", "[I", true)
  | _ => ("StrikeBallots$Roll", "taken", "J", false)
def tyX7 : Nat → FieldType := fun k => match k with
  | 0 => .object "StrikeBallots$Union"
  | 1 => .array .int
  | 2 => .array .int
  | 3 => .int
  | 4 => .array .int
  | 5 => .array .int
  | _ => .long
abbrev wsX70 : List Cond := u_ws RX7 TX7 7
theorem nmX7 : ∀ a, a < 7 → ∀ b, b < 7 → a ≠ b → (TX7 a).2.1 ≠ (TX7 b).2.1 := by decide +kernel
theorem tyX7_ok : ∀ k, k < 7 → parseFieldDescriptor (TX7 k).2.2.1 = some (tyX7 k) := by decide +kernel
abbrev cX7_init : ByteArray := prog_9_method_1_code
def yX7_init : MethodName := ⟨RX7, "<init>", "(LStrikeBallots$Union;)V"⟩
abbrev cX7_isFull : ByteArray := prog_9_method_2_code
def yX7_isFull : MethodName := ⟨RX7, "isFull", "()Z"⟩
abbrev cX7_addLine : ByteArray := prog_9_method_3_code
def yX7_addLine : MethodName := ⟨RX7, "addLine", "(II)I"⟩
abbrev cX7_addLines : ByteArray := prog_9_method_4_code
def yX7_addLines : MethodName := ⟨RX7, "addLines", "(LStrikeBallots$Sheet;I)I"⟩
abbrev cX7_join : ByteArray := prog_9_method_5_code
def yX7_join : MethodName := ⟨RX7, "join", "()V"⟩
abbrev cX7_joinThoseWith : ByteArray := prog_9_method_6_code
def yX7_joinThoseWith : MethodName := ⟨RX7, "joinThoseWith", "(I)V"⟩
abbrev cX7_partnerFor : ByteArray := prog_9_method_7_code
def yX7_partnerFor : MethodName := ⟨RX7, "partnerFor", "(II)I"⟩
abbrev cX7_differingFigures : ByteArray := prog_9_method_8_code
def yX7_differingFigures : MethodName := ⟨RX7, "differingFigures", "(II)I"⟩
abbrev cX7_linesOf : ByteArray := prog_9_method_9_code
def yX7_linesOf : MethodName := ⟨RX7, "linesOf", "(I)I"⟩
abbrev cX7_joinedLinesOf : ByteArray := prog_9_method_10_code
def yX7_joinedLinesOf : MethodName := ⟨RX7, "joinedLinesOf", "(II)I"⟩
abbrev cX7_membersWithout : ByteArray := prog_9_method_11_code
def yX7_membersWithout : MethodName := ⟨RX7, "membersWithout", "(I)I"⟩
def RX8 : String := "StrikeBallots$Sheet"
def TX8 : u_T := fun k => match k with
  | 0 => ("StrikeBallots$Sheet", "places", "[S", true)
  | _ => ("StrikeBallots$Sheet", "size", "I", false)
def tyX8 : Nat → FieldType := fun k => match k with
  | 0 => .array .short
  | _ => .int
abbrev wsX80 : List Cond := u_ws RX8 TX8 2
theorem nmX8 : ∀ a, a < 2 → ∀ b, b < 2 → a ≠ b → (TX8 a).2.1 ≠ (TX8 b).2.1 := by decide +kernel
theorem tyX8_ok : ∀ k, k < 2 → parseFieldDescriptor (TX8 k).2.2.1 = some (tyX8 k) := by decide +kernel
abbrev cX8_init : ByteArray := prog_10_method_1_code
def yX8_init : MethodName := ⟨RX8, "<init>", "()V"⟩
abbrev cX8_isMissing : ByteArray := prog_10_method_2_code
def yX8_isMissing : MethodName := ⟨RX8, "isMissing", "()Z"⟩
abbrev cX8_clearTo : ByteArray := prog_10_method_3_code
def yX8_clearTo : MethodName := ⟨RX8, "clearTo", "(I)V"⟩
abbrev cX8_hasPlaces : ByteArray := prog_10_method_4_code
def yX8_hasPlaces : MethodName := ⟨RX8, "hasPlaces", "(II)Z"⟩
def RX9 : String := "StrikeBallots$Tape"
def TX9 : u_T := fun k => match k with
  | 0 => ("StrikeBallots$Tape", "bytes", "[I", true)
  | 1 => ("StrikeBallots$Tape", "length", "I", false)
  | 2 => ("StrikeBallots$Tape", "start", "I", false)
  | 3 => ("StrikeBallots$Tape", "end", "I", false)
  | _ => ("StrikeBallots$Tape", "sort", "I", false)
def tyX9 : Nat → FieldType := fun k => match k with
  | 0 => .array .int
  | 1 => .int
  | 2 => .int
  | 3 => .int
  | _ => .int
abbrev wsX90 : List Cond := u_ws RX9 TX9 5
theorem nmX9 : ∀ a, a < 5 → ∀ b, b < 5 → a ≠ b → (TX9 a).2.1 ≠ (TX9 b).2.1 := by decide +kernel
theorem tyX9_ok : ∀ k, k < 5 → parseFieldDescriptor (TX9 k).2.2.1 = some (tyX9 k) := by decide +kernel
abbrev cX9_init : ByteArray := prog_11_method_1_code
def yX9_init : MethodName := ⟨RX9, "<init>", "()V"⟩
abbrev cX9_addFour : ByteArray := prog_11_method_2_code
def yX9_addFour : MethodName := ⟨RX9, "addFour", "(I)V"⟩
abbrev cX9_rewind : ByteArray := prog_11_method_3_code
def yX9_rewind : MethodName := ⟨RX9, "rewind", "()V"⟩
abbrev cX9_goOn : ByteArray := prog_11_method_4_code
def yX9_goOn : MethodName := ⟨RX9, "goOn", "()V"⟩
abbrev cX9_byteAt : ByteArray := prog_11_method_5_code
def yX9_byteAt : MethodName := ⟨RX9, "byteAt", "(I)I"⟩
abbrev cX9_sortAt : ByteArray := prog_11_method_6_code
def yX9_sortAt : MethodName := ⟨RX9, "sortAt", "(I)I"⟩
abbrev cX9_isRow : ByteArray := prog_11_method_7_code
def yX9_isRow : MethodName := ⟨RX9, "isRow", "(I)Z"⟩
abbrev cX9_isAtEnd : ByteArray := prog_11_method_8_code
def yX9_isAtEnd : MethodName := ⟨RX9, "isAtEnd", "()Z"⟩
abbrev cX9_isAtWord : ByteArray := prog_11_method_9_code
def yX9_isAtWord : MethodName := ⟨RX9, "isAtWord", "(Ljava/lang/String;)Z"⟩
abbrev cX9_signAtHand : ByteArray := prog_11_method_10_code
def yX9_signAtHand : MethodName := ⟨RX9, "signAtHand", "()C"⟩
abbrev cX9_letterAtHand : ByteArray := prog_11_method_11_code
def yX9_letterAtHand : MethodName := ⟨RX9, "letterAtHand", "()C"⟩
abbrev cX9_numberAtHand : ByteArray := prog_11_method_12_code
def yX9_numberAtHand : MethodName := ⟨RX9, "numberAtHand", "()I"⟩
def RX10 : String := "StrikeBallots$Union"
def TX10 : u_T := fun k => match k with
  | 0 => ("StrikeBallots$Union", "kinds", "[I", true)
  | 1 => ("StrikeBallots$Union", "branchCount", "I", false)
  | 2 => ("StrikeBallots$Union", "members", "[LStrikeBallots$Member;", true)
  | 3 => ("StrikeBallots$Union", "memberCount", "I", false)
  | _ => ("StrikeBallots$Union", "today", "I", false)
def tyX10 : Nat → FieldType := fun k => match k with
  | 0 => .array .int
  | 1 => .int
  | 2 => .array (.object "StrikeBallots$Member")
  | 3 => .int
  | _ => .int
abbrev wsX100 : List Cond := u_ws RX10 TX10 5
theorem nmX10 : ∀ a, a < 5 → ∀ b, b < 5 → a ≠ b → (TX10 a).2.1 ≠ (TX10 b).2.1 := by decide +kernel
theorem tyX10_ok : ∀ k, k < 5 → parseFieldDescriptor (TX10 k).2.2.1 = some (tyX10 k) := by decide +kernel
abbrev cX10_init : ByteArray := prog_12_method_1_code
def yX10_init : MethodName := ⟨RX10, "<init>", "()V"⟩
abbrev cX10_isKind : ByteArray := prog_12_method_2_code
def yX10_isKind : MethodName := ⟨RX10, "isKind", "(I)Z"⟩
abbrev cX10_addBranch : ByteArray := prog_12_method_3_code
def yX10_addBranch : MethodName := ⟨RX10, "addBranch", "(I)I"⟩
abbrev cX10_hasBranch : ByteArray := prog_12_method_4_code
def yX10_hasBranch : MethodName := ⟨RX10, "hasBranch", "(I)Z"⟩
abbrev cX10_isBranchOf : ByteArray := prog_12_method_5_code
def yX10_isBranchOf : MethodName := ⟨RX10, "isBranchOf", "(II)Z"⟩
abbrev cX10_hasVital : ByteArray := prog_12_method_6_code
def yX10_hasVital : MethodName := ⟨RX10, "hasVital", "(I)Z"⟩
abbrev cX10_addMember : ByteArray := prog_12_method_7_code
def yX10_addMember : MethodName := ⟨RX10, "addMember", "(LStrikeBallots$Member;)I"⟩
abbrev cX10_memberAt : ByteArray := prog_12_method_8_code
def yX10_memberAt : MethodName := ⟨RX10, "memberAt", "(I)LStrikeBallots$Member;"⟩
abbrev cX10_branchOn : ByteArray := prog_12_method_9_code
def yX10_branchOn : MethodName := ⟨RX10, "branchOn", "(II)I"⟩
abbrev cX10_isAmong : ByteArray := prog_12_method_10_code
def yX10_isAmong : MethodName := ⟨RX10, "isAmong", "(III)Z"⟩
abbrev cX10_sizeOf : ByteArray := prog_12_method_11_code
def yX10_sizeOf : MethodName := ⟨RX10, "sizeOf", "(I)I"⟩
abbrev cX10_stayers : ByteArray := prog_12_method_12_code
def yX10_stayers : MethodName := ⟨RX10, "stayers", "()I"⟩
abbrev cX10_wrongIn : ByteArray := prog_12_method_13_code
def yX10_wrongIn : MethodName := ⟨RX10, "wrongIn", "(JI)I"⟩
abbrev cX10_strikePay : ByteArray := prog_12_method_14_code
def yX10_strikePay : MethodName := ⟨RX10, "strikePay", "(II)I"⟩
abbrev cX10_strikesVital : ByteArray := prog_12_method_15_code
def yX10_strikesVital : MethodName := ⟨RX10, "strikesVital", "(I)Z"⟩
def RX11 : String := "StrikeBallots"
def TX11 : u_T := fun k => match k with
  | 0 => ("StrikeBallots", "union", "LStrikeBallots$Union;", true)
  | 1 => ("StrikeBallots", "roll", "LStrikeBallots$Roll;", true)
  | 2 => ("StrikeBallots", "ballots", "[LStrikeBallots$Ballot;", true)
  | 3 => ("StrikeBallots", "ballotCount", "I", false)
  | 4 => ("StrikeBallots", "parcels", "LStrikeBallots$Parcels;", true)
  | 5 => ("StrikeBallots", "tape", "LStrikeBallots$Tape;", true)
  | 6 => ("StrikeBallots", "law", "LStrikeBallots$Law;", false)
  | 7 => ("StrikeBallots", "draft", "LStrikeBallots$Law;", false)
  | 8 => ("StrikeBallots", "hasLaw", "Z", false)
  | 9 => ("StrikeBallots", "names", "LStrikeBallots$Names;", true)
  | 10 => ("StrikeBallots", "notices", "[LStrikeBallots$Notice;", true)
  | 11 => ("StrikeBallots", "noticeCount", "I", false)
  | 12 => ("StrikeBallots", "plan", "LStrikeBallots$Plan;", true)
  | 13 => ("StrikeBallots", "firstSheet", "LStrikeBallots$Sheet;", true)
  | _ => ("StrikeBallots", "secondSheet", "LStrikeBallots$Sheet;", true)
def tyX11 : Nat → FieldType := fun k => match k with
  | 0 => .object "StrikeBallots$Union"
  | 1 => .object "StrikeBallots$Roll"
  | 2 => .array (.object "StrikeBallots$Ballot")
  | 3 => .int
  | 4 => .object "StrikeBallots$Parcels"
  | 5 => .object "StrikeBallots$Tape"
  | 6 => .object "StrikeBallots$Law"
  | 7 => .object "StrikeBallots$Law"
  | 8 => .boolean
  | 9 => .object "StrikeBallots$Names"
  | 10 => .array (.object "StrikeBallots$Notice")
  | 11 => .int
  | 12 => .object "StrikeBallots$Plan"
  | 13 => .object "StrikeBallots$Sheet"
  | _ => .object "StrikeBallots$Sheet"
abbrev wsX110 : List Cond := u_ws RX11 TX11 15
theorem nmX11 : ∀ a, a < 15 → ∀ b, b < 15 → a ≠ b → (TX11 a).2.1 ≠ (TX11 b).2.1 := by decide +kernel
theorem tyX11_ok : ∀ k, k < 15 → parseFieldDescriptor (TX11 k).2.2.1 = some (tyX11 k) := by decide +kernel
abbrev cX11_init : ByteArray := prog_1_method_1_code
def yX11_init : MethodName := ⟨RX11, "<init>", "()V"⟩
abbrev cX11_branch : ByteArray := prog_1_method_2_code
def yX11_branch : MethodName := ⟨RX11, "branch", "(I)I"⟩
abbrev cX11_isOf : ByteArray := prog_1_method_3_code
def yX11_isOf : MethodName := ⟨RX11, "isOf", "(II)I"⟩
abbrev cX11_member : ByteArray := prog_1_method_4_code
def yX11_member : MethodName := ⟨RX11, "member", "(IIII)I"⟩
abbrev cX11_move : ByteArray := prog_1_method_5_code
def yX11_move : MethodName := ⟨RX11, "move", "(II)I"⟩
abbrev cX11_leave : ByteArray := prog_1_method_6_code
def yX11_leave : MethodName := ⟨RX11, "leave", "(I)I"⟩
abbrev cX11_of : ByteArray := prog_1_method_7_code
def yX11_of : MethodName := ⟨RX11, "of", "(II)I"⟩
abbrev cX11_told : ByteArray := prog_1_method_8_code
def yX11_told : MethodName := ⟨RX11, "told", "(II)I"⟩
abbrev cX11_line : ByteArray := prog_1_method_9_code
def yX11_line : MethodName := ⟨RX11, "line", "(II)I"⟩
abbrev cX11_roll : ByteArray := prog_1_method_10_code
def yX11_roll : MethodName := ⟨RX11, "roll", "(II)I"⟩
abbrev cX11_wipe : ByteArray := prog_1_method_11_code
def yX11_wipe : MethodName := ⟨RX11, "wipe", "()I"⟩
abbrev cX11_joined : ByteArray := prog_1_method_12_code
def yX11_joined : MethodName := ⟨RX11, "joined", "(I)I"⟩
abbrev cX11_rolls : ByteArray := prog_1_method_13_code
def yX11_rolls : MethodName := ⟨RX11, "rolls", "(II)I"⟩
abbrev cX11_days : ByteArray := prog_1_method_14_code
def yX11_days : MethodName := ⟨RX11, "days", "(I)I"⟩
abbrev cX11_open : ByteArray := prog_1_method_15_code
def yX11_open : MethodName := ⟨RX11, "open", "(I)I"⟩
abbrev cX11_send : ByteArray := prog_1_method_16_code
def yX11_send : MethodName := ⟨RX11, "send", "(II)I"⟩
abbrev cX11_sendAll : ByteArray := prog_1_method_17_code
def yX11_sendAll : MethodName := ⟨RX11, "sendAll", "(I)I"⟩
abbrev cX11_back : ByteArray := prog_1_method_18_code
def yX11_back : MethodName := ⟨RX11, "back", "(III)I"⟩
abbrev cX11_close : ByteArray := prog_1_method_19_code
def yX11_close : MethodName := ⟨RX11, "close", "(I)I"⟩
abbrev cX11_name : ByteArray := prog_1_method_20_code
def yX11_name : MethodName := ⟨RX11, "name", "(III)I"⟩
abbrev cX11_about : ByteArray := prog_1_method_21_code
def yX11_about : MethodName := ⟨RX11, "about", "(II)I"⟩
abbrev cX11_parcels : ByteArray := prog_1_method_22_code
def yX11_parcels : MethodName := ⟨RX11, "parcels", "(I)I"⟩
abbrev cX11_parcel : ByteArray := prog_1_method_23_code
def yX11_parcel : MethodName := ⟨RX11, "parcel", "(III)I"⟩
abbrev cX11_feed : ByteArray := prog_1_method_24_code
def yX11_feed : MethodName := ⟨RX11, "feed", "(III)I"⟩
abbrev cX11_trim : ByteArray := prog_1_method_25_code
def yX11_trim : MethodName := ⟨RX11, "trim", "(I)I"⟩
abbrev cX11_law : ByteArray := prog_1_method_26_code
def yX11_law : MethodName := ⟨RX11, "law", "()I"⟩
abbrev cX11_says : ByteArray := prog_1_method_27_code
def yX11_says : MethodName := ⟨RX11, "says", "(III)I"⟩
abbrev cX11_stands : ByteArray := prog_1_method_28_code
def yX11_stands : MethodName := ⟨RX11, "stands", "(II)I"⟩
abbrev cX11_lives : ByteArray := prog_1_method_29_code
def yX11_lives : MethodName := ⟨RX11, "lives", "(II)I"⟩
abbrev cX11_cure : ByteArray := prog_1_method_30_code
def yX11_cure : MethodName := ⟨RX11, "cure", "(I)I"⟩
abbrev cX11_notice : ByteArray := prog_1_method_31_code
def yX11_notice : MethodName := ⟨RX11, "notice", "(IIII)I"⟩
abbrev cX11_noticed : ByteArray := prog_1_method_32_code
def yX11_noticed : MethodName := ⟨RX11, "noticed", "(II)I"⟩
abbrev cX11_holds : ByteArray := prog_1_method_33_code
def yX11_holds : MethodName := ⟨RX11, "holds", "(I)I"⟩
abbrev cX11_harm : ByteArray := prog_1_method_34_code
def yX11_harm : MethodName := ⟨RX11, "harm", "(II)I"⟩
abbrev cX11_lay : ByteArray := prog_1_method_35_code
def yX11_lay : MethodName := ⟨RX11, "lay", "(I)I"⟩
abbrev cX11_rule : ByteArray := prog_1_method_36_code
def yX11_rule : MethodName := ⟨RX11, "rule", "(II)I"⟩
abbrev cX11_plan : ByteArray := prog_1_method_37_code
def yX11_plan : MethodName := ⟨RX11, "plan", "(II)I"⟩
abbrev cX11_planned : ByteArray := prog_1_method_38_code
def yX11_planned : MethodName := ⟨RX11, "planned", "(II)I"⟩
abbrev cX11_cost : ByteArray := prog_1_method_39_code
def yX11_cost : MethodName := ⟨RX11, "cost", "(I)I"⟩
abbrev cX11_tell : ByteArray := prog_1_method_40_code
def yX11_tell : MethodName := ⟨RX11, "tell", "(I)I"⟩
abbrev cX11_check : ByteArray := prog_1_method_41_code
def yX11_check : MethodName := ⟨RX11, "check", "(II)I"⟩
abbrev cX11_docked : ByteArray := prog_1_method_42_code
def yX11_docked : MethodName := ⟨RX11, "docked", "(II)I"⟩
abbrev cX11_sheet : ByteArray := prog_1_method_43_code
def yX11_sheet : MethodName := ⟨RX11, "sheet", "(II)I"⟩
abbrev cX11_mark : ByteArray := prog_1_method_44_code
def yX11_mark : MethodName := ⟨RX11, "mark", "(III)I"⟩
abbrev cX11_copy : ByteArray := prog_1_method_45_code
def yX11_copy : MethodName := ⟨RX11, "copy", "(IIIII)I"⟩
abbrev cX11_count : ByteArray := prog_1_method_46_code
def yX11_count : MethodName := ⟨RX11, "count", "(I)I"⟩
abbrev cX11_isWithin : ByteArray := prog_1_method_47_code
def yX11_isWithin : MethodName := ⟨RX11, "isWithin", "(III)Z"⟩
abbrev cX11_oneIf : ByteArray := prog_1_method_48_code
def yX11_oneIf : MethodName := ⟨RX11, "oneIf", "(Z)I"⟩
abbrev cX11_dayOrNone : ByteArray := prog_1_method_49_code
def yX11_dayOrNone : MethodName := ⟨RX11, "dayOrNone", "(I)I"⟩
abbrev cX11_isMark : ByteArray := prog_1_method_50_code
def yX11_isMark : MethodName := ⟨RX11, "isMark", "(I)Z"⟩
abbrev cX11_isLetter : ByteArray := prog_1_method_51_code
def yX11_isLetter : MethodName := ⟨RX11, "isLetter", "(I)Z"⟩
abbrev cX11_isHalfList : ByteArray := prog_1_method_52_code
def yX11_isHalfList : MethodName := ⟨RX11, "isHalfList", "(I)Z"⟩
abbrev cX11_isKnownDay : ByteArray := prog_1_method_53_code
def yX11_isKnownDay : MethodName := ⟨RX11, "isKnownDay", "(LStrikeBallots$Ballot;I)Z"⟩
abbrev cX11_ballotAt : ByteArray := prog_1_method_54_code
def yX11_ballotAt : MethodName := ⟨RX11, "ballotAt", "(I)LStrikeBallots$Ballot;"⟩
abbrev cX11_noticeAt : ByteArray := prog_1_method_55_code
def yX11_noticeAt : MethodName := ⟨RX11, "noticeAt", "(I)LStrikeBallots$Notice;"⟩
abbrev cX11_sheetAt : ByteArray := prog_1_method_56_code
def yX11_sheetAt : MethodName := ⟨RX11, "sheetAt", "(I)LStrikeBallots$Sheet;"⟩
abbrev cX11_lawFor : ByteArray := prog_1_method_57_code
def yX11_lawFor : MethodName := ⟨RX11, "lawFor", "(LStrikeBallots$Ballot;II)I"⟩
abbrev cX11_isStanding : ByteArray := prog_1_method_58_code
def yX11_isStanding : MethodName := ⟨RX11, "isStanding", "(LStrikeBallots$Ballot;I)Z"⟩
abbrev cX11_isLiving : ByteArray := prog_1_method_59_code
def yX11_isLiving : MethodName := ⟨RX11, "isLiving", "(LStrikeBallots$Ballot;I)Z"⟩
abbrev cX11_makePlan : ByteArray := prog_1_method_60_code
def yX11_makePlan : MethodName := ⟨RX11, "makePlan", "(II)Z"⟩
def RX12 : String := "StrikeBallotsModel"
def TX12 : u_T := fun k => match k with
  | 0 => ("StrikeBallotsModel", "thrown", "I", false)
  | 1 => ("StrikeBallotsModel", "today", "I", false)
  | 2 => ("StrikeBallotsModel", "branches", "I", false)
  | 3 => ("StrikeBallotsModel", "kind", "[I", true)
  | 4 => ("StrikeBallotsModel", "members", "I", false)
  | 5 => ("StrikeBallotsModel", "markOf", "[I", true)
  | 6 => ("StrikeBallotsModel", "hours", "[I", true)
  | 7 => ("StrikeBallotsModel", "wage", "[I", true)
  | 8 => ("StrikeBallotsModel", "came", "[I", true)
  | 9 => ("StrikeBallotsModel", "left", "[I", true)
  | 10 => ("StrikeBallotsModel", "moved", "[I", true)
  | 11 => ("StrikeBallotsModel", "moveTo", "[I", true)
  | 12 => ("StrikeBallotsModel", "moveDay", "[I", true)
  | 13 => ("StrikeBallotsModel", "lines", "I", false)
  | 14 => ("StrikeBallotsModel", "lineMark", "[I", true)
  | 15 => ("StrikeBallotsModel", "lineBranch", "[I", true)
  | 16 => ("StrikeBallotsModel", "ballots", "I", false)
  | 17 => ("StrikeBallotsModel", "bits", "[I", true)
  | 18 => ("StrikeBallotsModel", "opened", "[I", true)
  | 19 => ("StrikeBallotsModel", "closed", "[I", true)
  | 20 => ("StrikeBallotsModel", "sent", "[I", true)
  | 21 => ("StrikeBallotsModel", "how", "[I", true)
  | 22 => ("StrikeBallotsModel", "toldDay", "[I", true)
  | 23 => ("StrikeBallotsModel", "tape", "[I", true)
  | 24 => ("StrikeBallotsModel", "lawText", "[I", true)
  | 25 => ("StrikeBallotsModel", "taped", "I", false)
  | 26 => ("StrikeBallotsModel", "lawLong", "I", false)
  | 27 => ("StrikeBallotsModel", "hasLaw", "Z", false)
  | 28 => ("StrikeBallotsModel", "begins", "[I", true)
  | 29 => ("StrikeBallotsModel", "notices", "I", false)
  | 30 => ("StrikeBallotsModel", "noticeBallot", "[I", true)
  | 31 => ("StrikeBallotsModel", "given", "[I", true)
  | 32 => ("StrikeBallotsModel", "firstDay", "[I", true)
  | 33 => ("StrikeBallotsModel", "wrong", "[I", true)
  | 34 => ("StrikeBallotsModel", "counted", "[I", true)
  | 35 => ("StrikeBallotsModel", "harm", "[I", true)
  | 36 => ("StrikeBallotsModel", "rule", "[I", true)
  | 37 => ("StrikeBallotsModel", "low", "[I", true)
  | 38 => ("StrikeBallotsModel", "high", "[I", true)
  | 39 => ("StrikeBallotsModel", "waiting", "I", false)
  | 40 => ("StrikeBallotsModel", "told", "[I", true)
  | 41 => ("StrikeBallotsModel", "size", "[I", true)
  | 42 => ("StrikeBallotsModel", "places", "[S", true)
  | 43 => ("StrikeBallotsModel", "joinedTo", "[I", true)
  | 44 => ("StrikeBallotsModel", "isSame", "[Z", true)
  | 45 => ("StrikeBallotsModel", "isJoined", "[Z", true)
  | 46 => ("StrikeBallotsModel", "known", "[I", true)
  | 47 => ("StrikeBallotsModel", "parcels", "I", false)
  | 48 => ("StrikeBallotsModel", "parcelBits", "[I", true)
  | 49 => ("StrikeBallotsModel", "parcelSum", "[I", true)
  | 50 => ("StrikeBallotsModel", "parcelYes", "[I", true)
  | 51 => ("StrikeBallotsModel", "parcelNo", "[I", true)
  | 52 => ("StrikeBallotsModel", "isLaw", "Z", false)
  | 53 => ("StrikeBallotsModel", "sort", "I", false)
  | 54 => ("StrikeBallotsModel", "from", "I", false)
  | 55 => ("StrikeBallotsModel", "to", "I", false)
  | 56 => ("StrikeBallotsModel", "isWrong", "Z", false)
  | 57 => ("StrikeBallotsModel", "part", "I", false)
  | 58 => ("StrikeBallotsModel", "brackets", "I", false)
  | 59 => ("StrikeBallotsModel", "nots", "I", false)
  | 60 => ("StrikeBallotsModel", "counts", "I", false)
  | 61 => ("StrikeBallotsModel", "wasBegun", "[I", true)
  | _ => ("StrikeBallotsModel", "moving", "[S", true)
def tyX12 : Nat → FieldType := fun k => match k with
  | 0 => .int
  | 1 => .int
  | 2 => .int
  | 3 => .array .int
  | 4 => .int
  | 5 => .array .int
  | 6 => .array .int
  | 7 => .array .int
  | 8 => .array .int
  | 9 => .array .int
  | 10 => .array .int
  | 11 => .array .int
  | 12 => .array .int
  | 13 => .int
  | 14 => .array .int
  | 15 => .array .int
  | 16 => .int
  | 17 => .array .int
  | 18 => .array .int
  | 19 => .array .int
  | 20 => .array .int
  | 21 => .array .int
  | 22 => .array .int
  | 23 => .array .int
  | 24 => .array .int
  | 25 => .int
  | 26 => .int
  | 27 => .boolean
  | 28 => .array .int
  | 29 => .int
  | 30 => .array .int
  | 31 => .array .int
  | 32 => .array .int
  | 33 => .array .int
  | 34 => .array .int
  | 35 => .array .int
  | 36 => .array .int
  | 37 => .array .int
  | 38 => .array .int
  | 39 => .int
  | 40 => .array .int
  | 41 => .array .int
  | 42 => .array .short
  | 43 => .array .int
  | 44 => .array .boolean
  | 45 => .array .boolean
  | 46 => .array .int
  | 47 => .int
  | 48 => .array .int
  | 49 => .array .int
  | 50 => .array .int
  | 51 => .array .int
  | 52 => .boolean
  | 53 => .int
  | 54 => .int
  | 55 => .int
  | 56 => .boolean
  | 57 => .int
  | 58 => .int
  | 59 => .int
  | 60 => .int
  | 61 => .array .int
  | _ => .array .short
abbrev wsX120 : List Cond := u_ws RX12 TX12 63
theorem nmX12 : ∀ a, a < 63 → ∀ b, b < 63 → a ≠ b → (TX12 a).2.1 ≠ (TX12 b).2.1 := by decide +kernel
theorem tyX12_ok : ∀ k, k < 63 → parseFieldDescriptor (TX12 k).2.2.1 = some (tyX12 k) := by decide +kernel
abbrev cX12_init : ByteArray := prog_14_method_1_code
def yX12_init : MethodName := ⟨RX12, "<init>", "()V"⟩
abbrev cX12_in : ByteArray := prog_14_method_3_code
def yX12_in : MethodName := ⟨RX12, "in", "(III)Z"⟩
abbrev cX12_isBranch : ByteArray := prog_14_method_4_code
def yX12_isBranch : MethodName := ⟨RX12, "isBranch", "(I)Z"⟩
abbrev cX12_isMember : ByteArray := prog_14_method_5_code
def yX12_isMember : MethodName := ⟨RX12, "isMember", "(I)Z"⟩
abbrev cX12_isBallot : ByteArray := prog_14_method_6_code
def yX12_isBallot : MethodName := ⟨RX12, "isBallot", "(I)Z"⟩
abbrev cX12_branch : ByteArray := prog_14_method_7_code
def yX12_branch : MethodName := ⟨RX12, "branch", "(I)I"⟩
abbrev cX12_isOfKind : ByteArray := prog_14_method_8_code
def yX12_isOfKind : MethodName := ⟨RX12, "isOfKind", "(II)Z"⟩
abbrev cX12_isOf : ByteArray := prog_14_method_9_code
def yX12_isOf : MethodName := ⟨RX12, "isOf", "(II)I"⟩
abbrev cX12_member : ByteArray := prog_14_method_10_code
def yX12_member : MethodName := ⟨RX12, "member", "(IIII)I"⟩
abbrev cX12_branchOf : ByteArray := prog_14_method_11_code
def yX12_branchOf : MethodName := ⟨RX12, "branchOf", "(I)I"⟩
abbrev cX12_move : ByteArray := prog_14_method_12_code
def yX12_move : MethodName := ⟨RX12, "move", "(II)I"⟩
abbrev cX12_leave : ByteArray := prog_14_method_13_code
def yX12_leave : MethodName := ⟨RX12, "leave", "(I)I"⟩
abbrev cX12_ofOn : ByteArray := prog_14_method_14_code
def yX12_ofOn : MethodName := ⟨RX12, "ofOn", "(II)I"⟩
abbrev cX12_of : ByteArray := prog_14_method_15_code
def yX12_of : MethodName := ⟨RX12, "of", "(II)I"⟩
abbrev cX12_told : ByteArray := prog_14_method_16_code
def yX12_told : MethodName := ⟨RX12, "told", "(II)I"⟩
abbrev cX12_line : ByteArray := prog_14_method_17_code
def yX12_line : MethodName := ⟨RX12, "line", "(II)I"⟩
abbrev cX12_roll : ByteArray := prog_14_method_18_code
def yX12_roll : MethodName := ⟨RX12, "roll", "(II)I"⟩
abbrev cX12_wipe : ByteArray := prog_14_method_19_code
def yX12_wipe : MethodName := ⟨RX12, "wipe", "()I"⟩
abbrev cX12_figuresApart : ByteArray := prog_14_method_20_code
def yX12_figuresApart : MethodName := ⟨RX12, "figuresApart", "(II)I"⟩
abbrev cX12_joins : ByteArray := prog_14_method_21_code
def yX12_joins : MethodName := ⟨RX12, "joins", "(I)V"⟩
abbrev cX12_joinsAll : ByteArray := prog_14_method_22_code
def yX12_joinsAll : MethodName := ⟨RX12, "joinsAll", "()V"⟩
abbrev cX12_joined : ByteArray := prog_14_method_23_code
def yX12_joined : MethodName := ⟨RX12, "joined", "(I)I"⟩
abbrev cX12_rolls : ByteArray := prog_14_method_24_code
def yX12_rolls : MethodName := ⟨RX12, "rolls", "(II)I"⟩
abbrev cX12_days : ByteArray := prog_14_method_25_code
def yX12_days : MethodName := ⟨RX12, "days", "(I)I"⟩
abbrev cX12_open : ByteArray := prog_14_method_26_code
def yX12_open : MethodName := ⟨RX12, "open", "(I)I"⟩
abbrev cX12_isIn : ByteArray := prog_14_method_27_code
def yX12_isIn : MethodName := ⟨RX12, "isIn", "(III)Z"⟩
abbrev cX12_isEntitled : ByteArray := prog_14_method_28_code
def yX12_isEntitled : MethodName := ⟨RX12, "isEntitled", "(II)Z"⟩
abbrev cX12_papers : ByteArray := prog_14_method_29_code
def yX12_papers : MethodName := ⟨RX12, "papers", "(I)I"⟩
abbrev cX12_send : ByteArray := prog_14_method_30_code
def yX12_send : MethodName := ⟨RX12, "send", "(II)I"⟩
abbrev cX12_sendAll : ByteArray := prog_14_method_31_code
def yX12_sendAll : MethodName := ⟨RX12, "sendAll", "(I)I"⟩
abbrev cX12_back : ByteArray := prog_14_method_32_code
def yX12_back : MethodName := ⟨RX12, "back", "(III)I"⟩
abbrev cX12_close : ByteArray := prog_14_method_33_code
def yX12_close : MethodName := ⟨RX12, "close", "(I)I"⟩
abbrev cX12_knows : ByteArray := prog_14_method_34_code
def yX12_knows : MethodName := ⟨RX12, "knows", "(II)V"⟩
abbrev cX12_nameOf : ByteArray := prog_14_method_35_code
def yX12_nameOf : MethodName := ⟨RX12, "nameOf", "(I)I"⟩
abbrev cX12_isTime : ByteArray := prog_14_method_36_code
def yX12_isTime : MethodName := ⟨RX12, "isTime", "(II)Z"⟩
abbrev cX12_name : ByteArray := prog_14_method_37_code
def yX12_name : MethodName := ⟨RX12, "name", "(III)I"⟩
abbrev cX12_about : ByteArray := prog_14_method_38_code
def yX12_about : MethodName := ⟨RX12, "about", "(II)I"⟩
abbrev cX12_hasEntitled : ByteArray := prog_14_method_39_code
def yX12_hasEntitled : MethodName := ⟨RX12, "hasEntitled", "(II)Z"⟩
abbrev cX12_adds : ByteArray := prog_14_method_40_code
def yX12_adds : MethodName := ⟨RX12, "adds", "(III)V"⟩
abbrev cX12_parts : ByteArray := prog_14_method_41_code
def yX12_parts : MethodName := ⟨RX12, "parts", "(I)V"⟩
abbrev cX12_parcels : ByteArray := prog_14_method_42_code
def yX12_parcels : MethodName := ⟨RX12, "parcels", "(I)I"⟩
abbrev cX12_parcel : ByteArray := prog_14_method_43_code
def yX12_parcel : MethodName := ⟨RX12, "parcel", "(III)I"⟩
abbrev cX12_byteOf : ByteArray := prog_14_method_44_code
def yX12_byteOf : MethodName := ⟨RX12, "byteOf", "(II)I"⟩
abbrev cX12_feed : ByteArray := prog_14_method_45_code
def yX12_feed : MethodName := ⟨RX12, "feed", "(III)I"⟩
abbrev cX12_trim : ByteArray := prog_14_method_46_code
def yX12_trim : MethodName := ⟨RX12, "trim", "(I)I"⟩
abbrev cX12_at : ByteArray := prog_14_method_47_code
def yX12_at : MethodName := ⟨RX12, "at", "(I)I"⟩
abbrev cX12_isLetter : ByteArray := prog_14_method_48_code
def yX12_isLetter : MethodName := ⟨RX12, "isLetter", "(I)Z"⟩
abbrev cX12_isDigit : ByteArray := prog_14_method_49_code
def yX12_isDigit : MethodName := ⟨RX12, "isDigit", "(I)Z"⟩
abbrev cX12_next : ByteArray := prog_14_method_50_code
def yX12_next : MethodName := ⟨RX12, "next", "()V"⟩
abbrev cX12_isSign : ByteArray := prog_14_method_51_code
def yX12_isSign : MethodName := ⟨RX12, "isSign", "(I)Z"⟩
abbrev cX12_isWord : ByteArray := prog_14_method_52_code
def yX12_isWord : MethodName := ⟨RX12, "isWord", "(Ljava/lang/String;)Z"⟩
abbrev cX12_takes : ByteArray := prog_14_method_53_code
def yX12_takes : MethodName := ⟨RX12, "takes", "(Z)V"⟩
abbrev cX12_number : ByteArray := prog_14_method_54_code
def yX12_number : MethodName := ⟨RX12, "number", "()I"⟩
abbrev cX12_one : ByteArray := prog_14_method_55_code
def yX12_one : MethodName := ⟨RX12, "one", "()I"⟩
abbrev cX12_term : ByteArray := prog_14_method_56_code
def yX12_term : MethodName := ⟨RX12, "term", "()I"⟩
abbrev cX12_sum : ByteArray := prog_14_method_57_code
def yX12_sum : MethodName := ⟨RX12, "sum", "()I"⟩
abbrev cX12_test : ByteArray := prog_14_method_58_code
def yX12_test : MethodName := ⟨RX12, "test", "()I"⟩
abbrev cX12_and : ByteArray := prog_14_method_59_code
def yX12_and : MethodName := ⟨RX12, "and", "()I"⟩
abbrev cX12_or : ByteArray := prog_14_method_60_code
def yX12_or : MethodName := ⟨RX12, "or", "()I"⟩
abbrev cX12_reads : ByteArray := prog_14_method_61_code
def yX12_reads : MethodName := ⟨RX12, "reads", "(Ljava/lang/String;I)V"⟩
abbrev cX12_law : ByteArray := prog_14_method_62_code
def yX12_law : MethodName := ⟨RX12, "law", "()I"⟩
abbrev cX12_gives : ByteArray := prog_14_method_63_code
def yX12_gives : MethodName := ⟨RX12, "gives", "(I)I"⟩
abbrev cX12_saysOn : ByteArray := prog_14_method_64_code
def yX12_saysOn : MethodName := ⟨RX12, "saysOn", "(III)I"⟩
abbrev cX12_says : ByteArray := prog_14_method_65_code
def yX12_says : MethodName := ⟨RX12, "says", "(III)I"⟩
abbrev cX12_standsOn : ByteArray := prog_14_method_66_code
def yX12_standsOn : MethodName := ⟨RX12, "standsOn", "(II)Z"⟩
abbrev cX12_stands : ByteArray := prog_14_method_67_code
def yX12_stands : MethodName := ⟨RX12, "stands", "(II)I"⟩
abbrev cX12_livesOn : ByteArray := prog_14_method_68_code
def yX12_livesOn : MethodName := ⟨RX12, "livesOn", "(II)Z"⟩
abbrev cX12_lives : ByteArray := prog_14_method_69_code
def yX12_lives : MethodName := ⟨RX12, "lives", "(II)I"⟩
abbrev cX12_cure : ByteArray := prog_14_method_70_code
def yX12_cure : MethodName := ⟨RX12, "cure", "(I)I"⟩
abbrev cX12_isListed : ByteArray := prog_14_method_71_code
def yX12_isListed : MethodName := ⟨RX12, "isListed", "(III)Z"⟩
abbrev cX12_isList : ByteArray := prog_14_method_72_code
def yX12_isList : MethodName := ⟨RX12, "isList", "(II)Z"⟩
abbrev cX12_notice : ByteArray := prog_14_method_73_code
def yX12_notice : MethodName := ⟨RX12, "notice", "(IIII)I"⟩
abbrev cX12_noticed : ByteArray := prog_14_method_74_code
def yX12_noticed : MethodName := ⟨RX12, "noticed", "(II)I"⟩
abbrev cX12_holds : ByteArray := prog_14_method_75_code
def yX12_holds : MethodName := ⟨RX12, "holds", "(I)I"⟩
abbrev cX12_harm : ByteArray := prog_14_method_76_code
def yX12_harm : MethodName := ⟨RX12, "harm", "(II)I"⟩
abbrev cX12_lay : ByteArray := prog_14_method_77_code
def yX12_lay : MethodName := ⟨RX12, "lay", "(I)I"⟩
abbrev cX12_rule : ByteArray := prog_14_method_78_code
def yX12_rule : MethodName := ⟨RX12, "rule", "(II)I"⟩
abbrev cX12_dayWage : ByteArray := prog_14_method_79_code
def yX12_dayWage : MethodName := ⟨RX12, "dayWage", "(I)I"⟩
abbrev cX12_costOf : ByteArray := prog_14_method_80_code
def yX12_costOf : MethodName := ⟨RX12, "costOf", "(I)I"⟩
abbrev cX12_isVital : ByteArray := prog_14_method_81_code
def yX12_isVital : MethodName := ⟨RX12, "isVital", "(I)Z"⟩
abbrev cX12_cost : ByteArray := prog_14_method_82_code
def yX12_cost : MethodName := ⟨RX12, "cost", "(I)I"⟩
abbrev cX12_fundBehind : ByteArray := prog_14_method_83_code
def yX12_fundBehind : MethodName := ⟨RX12, "fundBehind", "(III)I"⟩
abbrev cX12_canBe : ByteArray := prog_14_method_84_code
def yX12_canBe : MethodName := ⟨RX12, "canBe", "(III)Z"⟩
abbrev cX12_harmOf : ByteArray := prog_14_method_85_code
def yX12_harmOf : MethodName := ⟨RX12, "harmOf", "(I)I"⟩
abbrev cX12_many : ByteArray := prog_14_method_86_code
def yX12_many : MethodName := ⟨RX12, "many", "(I)I"⟩
abbrev cX12_bestDays : ByteArray := prog_14_method_87_code
def yX12_bestDays : MethodName := ⟨RX12, "bestDays", "(II)I"⟩
abbrev cX12_isPlan : ByteArray := prog_14_method_88_code
def yX12_isPlan : MethodName := ⟨RX12, "isPlan", "(II)Z"⟩
abbrev cX12_plan : ByteArray := prog_14_method_89_code
def yX12_plan : MethodName := ⟨RX12, "plan", "(II)I"⟩
abbrev cX12_planned : ByteArray := prog_14_method_90_code
def yX12_planned : MethodName := ⟨RX12, "planned", "(II)I"⟩
abbrev cX12_tell : ByteArray := prog_14_method_91_code
def yX12_tell : MethodName := ⟨RX12, "tell", "(I)I"⟩
abbrev cX12_check : ByteArray := prog_14_method_92_code
def yX12_check : MethodName := ⟨RX12, "check", "(II)I"⟩
abbrev cX12_docked : ByteArray := prog_14_method_93_code
def yX12_docked : MethodName := ⟨RX12, "docked", "(II)I"⟩
abbrev cX12_isSheet : ByteArray := prog_14_method_94_code
def yX12_isSheet : MethodName := ⟨RX12, "isSheet", "(I)Z"⟩
abbrev cX12_sheet : ByteArray := prog_14_method_95_code
def yX12_sheet : MethodName := ⟨RX12, "sheet", "(II)I"⟩
abbrev cX12_mark : ByteArray := prog_14_method_96_code
def yX12_mark : MethodName := ⟨RX12, "mark", "(III)I"⟩
abbrev cX12_copy : ByteArray := prog_14_method_97_code
def yX12_copy : MethodName := ⟨RX12, "copy", "(IIIII)I"⟩
abbrev cX12_count : ByteArray := prog_14_method_98_code
def yX12_count : MethodName := ⟨RX12, "count", "(I)I"⟩
def RJx145de : String := "java/io/Serializable"
def RJx9f9b0 : String := "java/lang/CharSequence"
def RJ11 : String := "java/lang/Character"
abbrev cJ11_isValidCodePoint_9a6ad : ByteArray := prog_15_method_11_code
def yJ11_isValidCodePoint_9a6ad : MethodName := ⟨RJ11, "isValidCodePoint", "(I)Z"⟩
abbrev cJ11_highSurrogate_5068e : ByteArray := prog_15_method_28_code
def yJ11_highSurrogate_5068e : MethodName := ⟨RJ11, "highSurrogate", "(I)C"⟩
abbrev cJ11_lowSurrogate_5068e : ByteArray := prog_15_method_29_code
def yJ11_lowSurrogate_5068e : MethodName := ⟨RJ11, "lowSurrogate", "(I)C"⟩
def RJxb160c : String := "java/lang/Comparable"
def RJ6 : String := "java/lang/Integer"
abbrev cJ6_bitCount_0f7a4 : ByteArray := prog_16_method_49_code
def yJ6_bitCount_0f7a4 : MethodName := ⟨RJ6, "bitCount", "(I)I"⟩
def RJ13 : String := "java/lang/Long"
abbrev cJ13_bitCount_95d88 : ByteArray := prog_17_method_50_code
def yJ13_bitCount_95d88 : MethodName := ⟨RJ13, "bitCount", "(J)I"⟩
def RJ9 : String := "java/lang/Math"
abbrev cJ9_max_7cf53 : ByteArray := prog_18_method_65_code
def yJ9_max_7cf53 : MethodName := ⟨RJ9, "max", "(II)I"⟩
abbrev cJ9_min_7cf53 : ByteArray := prog_18_method_69_code
def yJ9_min_7cf53 : MethodName := ⟨RJ9, "min", "(II)I"⟩
def RJ0 : String := "java/lang/String"
abbrev cJ0_length_8abf5 : ByteArray := prog_19_method_54_code
def yJ0_length_8abf5 : MethodName := ⟨RJ0, "length", "()I"⟩
abbrev cJ0_charAt_5068e : ByteArray := prog_19_method_56_code
def yJ0_charAt_5068e : MethodName := ⟨RJ0, "charAt", "(I)C"⟩
abbrev cJ0_indexOf_0f7a4 : ByteArray := prog_19_method_79_code
def yJ0_indexOf_0f7a4 : MethodName := ⟨RJ0, "indexOf", "(I)I"⟩
abbrev cJ0_indexOf_7cf53 : ByteArray := prog_19_method_80_code
def yJ0_indexOf_7cf53 : MethodName := ⟨RJ0, "indexOf", "(II)I"⟩
abbrev cJ0_coder_7d493 : ByteArray := prog_19_method_152_code
def yJ0_coder_7d493 : MethodName := ⟨RJ0, "coder", "()B"⟩
abbrev cJ0_isLatin1_aae02 : ByteArray := prog_19_method_154_code
def yJ0_isLatin1_aae02 : MethodName := ⟨RJ0, "isLatin1", "()Z"⟩
abbrev cJ0_checkIndex_df160 : ByteArray := prog_19_method_155_code
def yJ0_checkIndex_df160 : MethodName := ⟨RJ0, "checkIndex", "(II)V"⟩
abbrev cJ0_checkBoundsBeginEnd_23922 : ByteArray := prog_19_method_158_code
def yJ0_checkBoundsBeginEnd_23922 : MethodName := ⟨RJ0, "checkBoundsBeginEnd", "(III)V"⟩
def RJ1 : String := "java/lang/StringLatin1"
abbrev cJ1_charAt_3b067 : ByteArray := prog_20_method_2_code
def yJ1_charAt_3b067 : MethodName := ⟨RJ1, "charAt", "([BI)C"⟩
abbrev cJ1_canEncode_9a6ad : ByteArray := prog_20_method_4_code
def yJ1_canEncode_9a6ad : MethodName := ⟨RJ1, "canEncode", "(I)Z"⟩
abbrev cJ1_indexOf_4cfef : ByteArray := prog_20_method_22_code
def yJ1_indexOf_4cfef : MethodName := ⟨RJ1, "indexOf", "([BIII)I"⟩
abbrev cJ1_indexOfChar_4cfef : ByteArray := prog_20_method_23_code
def yJ1_indexOfChar_4cfef : MethodName := ⟨RJ1, "indexOfChar", "([BIII)I"⟩
def RJ2 : String := "java/lang/StringUTF16"
abbrev cJ2_getChar_3b067 : ByteArray := prog_21_method_5_code
def yJ2_getChar_3b067 : MethodName := ⟨RJ2, "getChar", "([BI)C"⟩
abbrev cJ2_length_9d52b : ByteArray := prog_21_method_6_code
def yJ2_length_9d52b : MethodName := ⟨RJ2, "length", "([B)I"⟩
abbrev cJ2_indexOf_4cfef : ByteArray := prog_21_method_40_code
def yJ2_indexOf_4cfef : MethodName := ⟨RJ2, "indexOf", "([BIII)I"⟩
abbrev cJ2_indexOfChar_4cfef : ByteArray := prog_21_method_47_code
def yJ2_indexOfChar_4cfef : MethodName := ⟨RJ2, "indexOfChar", "([BIII)I"⟩
abbrev cJ2_indexOfCharUnsafe_4cfef : ByteArray := prog_21_method_48_code
def yJ2_indexOfCharUnsafe_4cfef : MethodName := ⟨RJ2, "indexOfCharUnsafe", "([BIII)I"⟩
abbrev cJ2_indexOfSupplementary_4cfef : ByteArray := prog_21_method_49_code
def yJ2_indexOfSupplementary_4cfef : MethodName := ⟨RJ2, "indexOfSupplementary", "([BIII)I"⟩
abbrev cJ2_charAt_3b067 : ByteArray := prog_21_method_83_code
def yJ2_charAt_3b067 : MethodName := ⟨RJ2, "charAt", "([BI)C"⟩
abbrev cJ2_checkIndex_2214a : ByteArray := prog_21_method_91_code
def yJ2_checkIndex_2214a : MethodName := ⟨RJ2, "checkIndex", "(I[B)V"⟩
abbrev cJ2_checkBoundsBeginEnd_d044e : ByteArray := prog_21_method_93_code
def yJ2_checkBoundsBeginEnd_d044e : MethodName := ⟨RJ2, "checkBoundsBeginEnd", "(II[B)V"⟩
def RJ10 : String := "java/lang/System"
def RJxfd54e : String := "java/lang/constant/Constable"
def RJx3cf43 : String := "java/lang/constant/ConstantDesc"
def RJ7 : String := "java/util/Arrays"
abbrev cJ7_fill_53178 : ByteArray := prog_23_method_103_code
def yJ7_fill_53178 : MethodName := ⟨RJ7, "fill", "([II)V"⟩
abbrev cJ7_fill_fb410 : ByteArray := prog_23_method_105_code
def yJ7_fill_fb410 : MethodName := ⟨RJ7, "fill", "([SS)V"⟩
def RJ3 : String := "jdk/internal/util/Preconditions"
abbrev cJ3_checkIndex_8e157 : ByteArray := prog_24_method_11_code
def yJ3_checkIndex_8e157 : MethodName := ⟨RJ3, "checkIndex", "(IILjava/util/function/BiFunction;)I"⟩
abbrev cJ3_checkFromToIndex_8c36e : ByteArray := prog_24_method_12_code
def yJ3_checkFromToIndex_8c36e : MethodName := ⟨RJ3, "checkFromToIndex", "(IIILjava/util/function/BiFunction;)I"⟩
def RL : String := "StrikeBallotsLaw"
abbrev cL_law : ByteArray := code
def yL_law : MethodName := ⟨RL, "law", "([I)Z"⟩
abbrev vwCl : List vw_C := [(RX0, TX0, 8), (RX1, TX1, 8), (RX2, TX2, 9), (RX3, TX3, 1), (RX4, TX4, 5), (RX5, TX5, 5), (RX6, TX6, 10), (RX7, TX7, 7), (RX8, TX8, 2), (RX9, TX9, 5), (RX10, TX10, 5), (RX11, TX11, 15), (RX12, TX12, 63)]
end
section
/-! The pure machine: values, layouts, stores, one step in continuation form -/
abbrev AV : Type := Int32 ⊕ (Int64 ⊕ ((Nat × Option Nat) ⊕ Nat))
abbrev vI (x : Int32) : AV := .inl x
abbrev vJ (x : Int64) : AV := .inr (.inl x)
abbrev vR (t : Nat) (o : Option Nat) : AV := .inr (.inr (.inl (t, o)))
abbrev vC (w : Nat) : AV := .inr (.inr (.inr w))
/-- kind and length of each address, the next address, the slots used -/
abbrev Lay : Type := (Nat → Nat) × (Nat → Nat) × Nat × Nat
/-- ints, references, longs by address and place -/
abbrev Sto : Type := (Nat → Nat → Int32) × (Nat → Nat → Option Nat) × (Nat → Nat → Int64)
abbrev TI : Type := Instr × Nat × (Nat × Nat × Nat) × Int32 × Int64 × List (Int32 × Nat)
abbrev CLT (O : Type) : Type := Nat → Lay → Sto → List AV → (Option AV → Lay → Sto → Option O) → Option O
abbrev GOT (O : Type) : Type := Nat → List (Option AV) → List AV → Lay → Sto → Option O
abbrev RKT (O : Type) : Type := Option AV → Lay → Sto → Option O
def pL (L : Lay) (k n w : Nat) : Lay := (fun a => if a = L.2.2.1 then k else L.1 a, fun a => if a = L.2.2.1 then n else L.2.1 a, L.2.2.1 + 1, L.2.2.2 + w)
def sI (σ : Sto) (a k : Nat) (v : Int32) : Sto := (fun a' k' => if a' = a ∧ k' = k then v else σ.1 a' k', σ.2)
def sR (σ : Sto) (a k : Nat) (v : Option Nat) : Sto := (σ.1, fun a' k' => if a' = a ∧ k' = k then v else σ.2.1 a' k', σ.2.2)
def sJ (σ : Sto) (a k : Nat) (v : Int64) : Sto := (σ.1, σ.2.1, fun a' k' => if a' = a ∧ k' = k then v else σ.2.2 a' k')
def zS (σ : Sto) (a : Nat) : Sto := (fun a' k' => if a' = a then 0 else σ.1 a' k', fun a' k' => if a' = a then none else σ.2.1 a' k', fun a' k' => if a' = a then 0 else σ.2.2 a' k')
def inb (i : Int32) (n : Nat) : Bool := decide (¬ (i < 0 ∨ n ≤ i.toNatClampNeg))
def rI (L : Lay) (σ : Sto) (a : Nat) (i : Int32) : Option Int32 := if inb i (L.2.1 a) = true then some (σ.1 a i.toNatClampNeg) else none
def rR (L : Lay) (σ : Sto) (a : Nat) (i : Int32) : Option (Option Nat) := if inb i (L.2.1 a) = true then some (σ.2.1 a i.toNatClampNeg) else none
def wI (L : Lay) (σ : Sto) (a : Nat) (i v : Int32) : Option Sto := if inb i (L.2.1 a) = true then some (sI σ a i.toNatClampNeg v) else none
def wR (L : Lay) (σ : Sto) (a : Nat) (i : Int32) (v : Option Nat) : Option Sto := if inb i (L.2.1 a) = true then some (sR σ a i.toNatClampNeg v) else none
def nSh (x : Int32) : Int32 := vp_nar .short x
def nBo (x : Int32) : Int32 := vp_nar .boolean x
def dv (x y : Int32) : Option Int32 := if y = 0 then none else some (x / y)
def rm (x y : Int32) : Option Int32 := if y = 0 then none else some (x - x / y * y)
/-- what a small type keeps: 1 boolean, 2 char, 3 byte, 4 short -/
def nty (t : Nat) : FieldType := match t with
  | 1 => .boolean
  | 2 => .char
  | 3 => .byte
  | 4 => .short
  | _ => .int
def ckN (t : Nat) (x : Int32) : Option Unit := if narrow (nty t) (.int x) = .int x then some () else none
def lget : List (Option AV) → Nat → Option AV
  | [], _ => none
  | x :: _, 0 => x
  | _ :: r, k + 1 => lget r k
def lput : List (Option AV) → Nat → AV → List (Option AV)
  | [], _, _ => []
  | _ :: r, 0, v => some v :: r
  | x :: r, k + 1, v => x :: lput r k v
def lclr : List (Option AV) → Nat → List (Option AV)
  | [], _ => []
  | _ :: r, 0 => none :: r
  | x :: r, k + 1 => x :: lclr r k
/-- is the place ahead of it a long's? -/
def lwid (lc : List (Option AV)) (a : Nat) : Bool := match a with
  | 0 => false
  | k + 1 => match lget lc k with
    | some (.inr (.inl _)) => true
    | _ => false
def spl : Nat → List AV → List AV → Option (List AV × List AV)
  | 0, acc, r => some (acc, r)
  | k + 1, acc, x :: r => spl k (x :: acc) r
  | _ + 1, _, [] => none
def psh : Option AV → List AV → List AV
  | none, r => r
  | some x, r => x :: r
def swc {O : Type} (x : Int32) (d : Nat) (go : Nat → Option O) : List (Int32 × Nat) → Option O
  | [] => go d
  | q :: r => if x = q.1 then go q.2 else swc x d go r
/-- the classes' fields: 0 an int, 1 a long, t + 2 a reference to the kind t -/
def ftab : List (List Nat) := [[12, 0, 0, 0, 0, 22, 22, 22], [22, 0, 22, 0, 11, 0, 22, 0], [0, 0, 0, 0, 0, 0, 22, 22, 0], [22], [0, 0, 0, 0, 0], [22, 22, 22, 22, 0], [22, 22, 22, 0, 22, 0, 0, 0, 0, 0], [12, 22, 22, 0, 22, 22, 1], [23, 0], [22, 0, 0, 0, 0], [22, 0, 25, 0, 0], [12, 9, 26, 0, 7, 11, 3, 3, 0, 5, 27, 0, 8, 10, 10], [0, 0, 0, 22, 0, 22, 22, 22, 22, 22, 22, 22, 22, 0, 22, 22, 0, 22, 22, 22, 22, 22, 22, 22, 22, 0, 0, 0, 22, 0, 22, 22, 22, 22, 22, 22, 22, 22, 22, 0, 22, 22, 23, 22, 24, 24, 22, 0, 22, 22, 22, 22, 0, 0, 0, 0, 0, 0, 0, 0, 0, 22, 23]]
def ntab : List (List Nat) := [[0, 0, 0, 0, 0, 0, 0, 0], [0, 0, 0, 0, 0, 0, 0, 0], [0, 0, 0, 0, 0, 0, 0, 0, 0], [0], [0, 0, 0, 0, 0], [0, 0, 0, 0, 0], [0, 0, 0, 0, 0, 0, 0, 0, 0, 0], [0, 0, 0, 0, 0, 0, 0], [0, 0], [0, 0, 0, 0, 0], [0, 0, 0, 0, 0], [0, 0, 0, 0, 0, 0, 0, 0, 1, 0, 0, 0, 0, 0, 0], [0, 0, 0, 0, 0, 0, 0, 0, 0, 0, 0, 0, 0, 0, 0, 0, 0, 0, 0, 0, 0, 0, 0, 0, 0, 0, 0, 1, 0, 0, 0, 0, 0, 0, 0, 0, 0, 0, 0, 0, 0, 0, 0, 0, 0, 0, 0, 0, 0, 0, 0, 0, 1, 0, 0, 0, 1, 0, 0, 0, 0, 0, 0]]
def nth (l : List Nat) (k : Nat) : Nat := match l, k with
  | [], _ => 0
  | x :: _, 0 => x
  | _ :: r, k + 1 => nth r k
def nthl (l : List (List Nat)) (k : Nat) : List Nat := match l, k with
  | [], _ => []
  | x :: _, 0 => x
  | _ :: r, k + 1 => nthl r k
def ftc (k j : Nat) : Nat := nth (nthl ftab k) j
def fnc (k j : Nat) : Nat := nth (nthl ntab k) j
def nf (k : Nat) : Nat := (nthl ftab k).length
/-- the kind that an array's places refer to -/
def etg (k : Nat) : Nat := match k with
  | 23 => 2
  | 24 => 0
  | _ => 4
/-- constants: texts 0 .., their bytes 10 .., static rows 20, 21 -/
def ctab : List (List Int32) := [[], [], [], [], [], [], [], [], [], [], [101, 112, 109, 120, 98, 114, 121, 110, 118, 100], [97, 108, 99], [115, 116, 97, 110, 100, 115], [110, 111, 116, 105, 99, 101], [108, 105, 102, 101], [115, 116, 97, 110, 100, 115], [110, 111, 116, 105, 99, 101], [108, 105, 102, 101], [], [], [0, 0, 0, 1, 1], [1000000, 100, 9999, 12, 20]]
def cnth (l : List Int32) (k : Nat) : Int32 := match l, k with
  | [], _ => 0
  | x :: _, 0 => x
  | _ :: r, k + 1 => cnth r k
def cnthl (l : List (List Int32)) (k : Nat) : List Int32 := match l, k with
  | [], _ => []
  | x :: _, 0 => x
  | _ :: r, k + 1 => cnthl r k
def cal (w : Nat) : List Int32 := cnthl ctab w
def rC (w : Nat) (i : Int32) : Option Int32 := if inb i (cal w).length = true then some (cnth (cal w) i.toNatClampNeg) else none
def fval (k j : Nat) (σ : Sto) (x : Nat) : AV := match ftc k j with
  | 0 => vI (σ.1 x j)
  | 1 => vJ (σ.2.2 x j)
  | t + 2 => vR t (σ.2.1 x j)
/-- what putfield writes -/
def fput (k j : Nat) (σ : Sto) (x : Nat) (v : AV) : Option Sto := match ftc k j, v with
  | 0, .inl y => bif Nat.beq (fnc k j) 0 then some (sI σ x j y) else (ckN (fnc k j) y).bind fun _ => some (sI σ x j y)
  | 1, .inr (.inl y) => some (sJ σ x j y)
  | t + 2, .inr (.inr (.inl q)) => bif Nat.beq q.1 t then some (sR σ x j q.2) else none
  | _, _ => none
def cpS (σ : Sto) (x : Nat) (i : Int32) (y : Nat) (j n : Int32) : Sto := (fun a k => if a = y then va_cpy (σ.1 x) (σ.1 y) i.toNatClampNeg j.toNatClampNeg n.toNatClampNeg k else σ.1 a k, σ.2)
def okC (L : Lay) (x : Nat) (i : Int32) (y : Nat) (j n : Int32) : Bool := decide (¬ i < 0) && decide (¬ j < 0) && decide (¬ n < 0) && decide (i.toNatClampNeg + n.toNatClampNeg ≤ L.2.1 x) && decide (j.toNatClampNeg + n.toNatClampNeg ≤ L.2.1 y)
def cmpc {O : Type} (c : ClassFile.Cond) (x y : Int32) (t f : Option O) : Option O := match c with
  | .eq => if x = y then t else f
  | .ne => if x = y then f else t
  | .lt => if x < y then t else f
  | .ge => if y ≤ x then t else f
  | .gt => if y < x then t else f
  | .le => if x ≤ y then t else f
def stp {O : Type} (tb : Nat → TI) (rt : Nat × Nat) (fl : Bool × Bool) (cl : CLT O) (Rk : RKT O) (go : GOT O) (pc : Nat) (lc : List (Option AV)) (st : List AV) (L : Lay) (σ : Sto) : Option O :=
  match tb pc with
  | (ins, nx, (a, b, c), v, w, sw) =>
  match ins with
  | .iconst _ | .bipush _ | .sipush _ => go nx lc (vI v :: st) L σ
  | .ldc _ | .ldc_w _ => bif Nat.beq a 0 then go nx lc (vI v :: st) L σ else go nx lc (vC b :: st) L σ
  | .lconst _ | .ldc2_w _ => go nx lc (vJ w :: st) L σ
  | .aconst_null => go nx lc (vR 99 none :: st) L σ
  | .iload _ | .iload_n _ => match lget lc a with
    | some (.inl x) => go nx lc (vI x :: st) L σ
    | _ => none
  | .lload _ | .lload_n _ => match lget lc a with
    | some (.inr (.inl x)) => go nx lc (vJ x :: st) L σ
    | _ => none
  | .aload _ | .aload_n _ => match lget lc a with
    | some (.inr (.inr x)) => go nx lc (.inr (.inr x) :: st) L σ
    | _ => none
  | .istore _ | .istore_n _ => match st with
    | .inl x :: r => bif lwid lc a then none else go nx (lput lc a (vI x)) r L σ
    | _ => none
  | .lstore _ | .lstore_n _ => match st with
    | .inr (.inl x) :: r => bif lwid lc a then none else go nx (lclr (lput lc a (vJ x)) (a + 1)) r L σ
    | _ => none
  | .astore _ | .astore_n _ => match st with
    | .inr (.inr x) :: r => bif lwid lc a then none else go nx (lput lc a (.inr (.inr x))) r L σ
    | _ => none
  | .iinc _ _ => match lget lc a with
    | some (.inl x) => bif lwid lc a then none else go nx (lput lc a (vI (x + v))) st L σ
    | _ => none
  | .iadd => match st with
    | .inl y :: .inl x :: r => go nx lc (vI (x + y) :: r) L σ
    | _ => none
  | .isub => match st with
    | .inl y :: .inl x :: r => go nx lc (vI (x - y) :: r) L σ
    | _ => none
  | .imul => match st with
    | .inl y :: .inl x :: r => go nx lc (vI (x * y) :: r) L σ
    | _ => none
  | .idiv => match st with
    | .inl y :: .inl x :: r => (dv x y).bind fun z => go nx lc (vI z :: r) L σ
    | _ => none
  | .irem => match st with
    | .inl y :: .inl x :: r => (rm x y).bind fun z => go nx lc (vI z :: r) L σ
    | _ => none
  | .ineg => match st with
    | .inl x :: r => go nx lc (vI (-x) :: r) L σ
    | _ => none
  | .iand => match st with
    | .inl y :: .inl x :: r => go nx lc (vI (x &&& y) :: r) L σ
    | _ => none
  | .ior => match st with
    | .inl y :: .inl x :: r => go nx lc (vI (x ||| y) :: r) L σ
    | _ => none
  | .ishl => match st with
    | .inl y :: .inl x :: r => go nx lc (vI (x <<< (y &&& 31)) :: r) L σ
    | _ => none
  | .ishr => match st with
    | .inl y :: .inl x :: r => go nx lc (vI (x >>> (y &&& 31)) :: r) L σ
    | _ => none
  | .iushr => match st with
    | .inl y :: .inl x :: r => go nx lc (vI (x.toUInt32 >>> (y.toUInt32 &&& Int32.toUInt32 31)).toInt32 :: r) L σ
    | _ => none
  | .i2l => match st with
    | .inl x :: r => go nx lc (vJ x.toInt64 :: r) L σ
    | _ => none
  | .i2s => match st with
    | .inl x :: r => go nx lc (vI x.toInt16.toInt32 :: r) L σ
    | _ => none
  | .i2c => match st with
    | .inl x :: r => go nx lc (vI (x.toUInt32 % 65536).toInt32 :: r) L σ
    | _ => none
  | .l2i => match st with
    | .inr (.inl x) :: r => go nx lc (vI x.toInt32 :: r) L σ
    | _ => none
  | .ladd => match st with
    | .inr (.inl y) :: .inr (.inl x) :: r => go nx lc (vJ (x + y) :: r) L σ
    | _ => none
  | .lsub => match st with
    | .inr (.inl y) :: .inr (.inl x) :: r => go nx lc (vJ (x - y) :: r) L σ
    | _ => none
  | .land => match st with
    | .inr (.inl y) :: .inr (.inl x) :: r => go nx lc (vJ (x &&& y) :: r) L σ
    | _ => none
  | .lor => match st with
    | .inr (.inl y) :: .inr (.inl x) :: r => go nx lc (vJ (x ||| y) :: r) L σ
    | _ => none
  | .lshl => match st with
    | .inl y :: .inr (.inl x) :: r => go nx lc (vJ (x <<< (y.toInt64 &&& 63)) :: r) L σ
    | _ => none
  | .lshr => match st with
    | .inl y :: .inr (.inl x) :: r => go nx lc (vJ (x >>> (y.toInt64 &&& 63)) :: r) L σ
    | _ => none
  | .lushr => match st with
    | .inl y :: .inr (.inl x) :: r => go nx lc (vJ (x.toUInt64 >>> (y.toInt64.toUInt64 &&& Int64.toUInt64 63)).toInt64 :: r) L σ
    | _ => none
  | .lcmp => match st with
    | .inr (.inl y) :: .inr (.inl x) :: r => go nx lc (vI (lg_cmp x y) :: r) L σ
    | _ => none
  | .dup => match st with
    | .inl x :: r => go nx lc (vI x :: vI x :: r) L σ
    | .inr (.inr x) :: r => go nx lc (.inr (.inr x) :: .inr (.inr x) :: r) L σ
    | _ => none
  | .dup2 => match st with
    | .inl y :: .inr (.inr x) :: r => go nx lc (vI y :: .inr (.inr x) :: vI y :: .inr (.inr x) :: r) L σ
    | _ => none
  | .pop => match st with
    | .inl _ :: r => go nx lc r L σ
    | .inr (.inr _) :: r => go nx lc r L σ
    | _ => none
  | .goto _ => go a lc st L σ
  | .ifCond k _ => match st with
    | .inl x :: r => cmpc k x 0 (go a lc r L σ) (go nx lc r L σ)
    | _ => none
  | .if_icmp k _ => match st with
    | .inl y :: .inl x :: r => cmpc k x y (go a lc r L σ) (go nx lc r L σ)
    | _ => none
  | .ifnull _ => match st with
    | .inr (.inr (.inl q)) :: r => q.2.elim (go a lc r L σ) (fun _ => go nx lc r L σ)
    | _ => none
  | .ifnonnull _ => match st with
    | .inr (.inr (.inl q)) :: r => q.2.elim (go nx lc r L σ) (fun _ => go a lc r L σ)
    | _ => none
  | .tableswitch _ _ _ _ | .lookupswitch _ _ => match st with
    | .inl x :: r => swc x a (fun t => go t lc r L σ) sw
    | _ => none
  | .getfield _ => match st with
    | .inr (.inr (.inl q)) :: r => bif Nat.beq q.1 a then q.2.bind fun x => go nx lc (fval a b σ x :: r) L σ else none
    | .inr (.inr (.inr q)) :: r => bif Nat.beq a 50 then (bif Nat.beq b 0 then go nx lc (vC (q + 10) :: r) L σ else go nx lc (vI 0 :: r) L σ) else none
    | _ => none
  | .getstatic _ => bif Nat.beq a 0 then go nx lc (vI v :: st) L σ else go nx lc (vC b :: st) L σ
  | .putfield _ => match st with
    | y :: .inr (.inr (.inl q)) :: r => bif fl.2 then none else bif Nat.beq q.1 a then q.2.bind fun x => (fput a b σ x y).bind fun σ' => go nx lc r L σ' else none
    | _ => none
  | .iaload => match st with
    | .inl i :: .inr (.inr (.inl q)) :: r => bif Nat.beq q.1 20 then q.2.bind fun x => (rI L σ x i).bind fun y => go nx lc (vI y :: r) L σ else none
    | .inl i :: .inr (.inr (.inr q)) :: r => bif Nat.ble 20 q then (rC q i).bind fun y => go nx lc (vI y :: r) L σ else none
    | _ => none
  | .saload => match st with
    | .inl i :: .inr (.inr (.inl q)) :: r => bif Nat.beq q.1 21 then q.2.bind fun x => (rI L σ x i).bind fun y => go nx lc (vI y :: r) L σ else none
    | _ => none
  | .baload => match st with
    | .inl i :: .inr (.inr (.inl q)) :: r => bif Nat.beq q.1 22 then q.2.bind fun x => (rI L σ x i).bind fun y => go nx lc (vI y :: r) L σ else none
    | .inl i :: .inr (.inr (.inr q)) :: r => bif Nat.ble 10 q && Nat.ble q 17 then (rC q i).bind fun y => go nx lc (vI y :: r) L σ else none
    | _ => none
  | .aaload => match st with
    | .inl i :: .inr (.inr (.inl q)) :: r => bif Nat.ble 23 q.1 && Nat.ble q.1 25 then q.2.bind fun x => (rR L σ x i).bind fun y => go nx lc (vR (etg q.1) y :: r) L σ else none
    | _ => none
  | .iastore => match st with
    | .inl y :: .inl i :: .inr (.inr (.inl q)) :: r => bif fl.2 then none else bif Nat.beq q.1 20 then q.2.bind fun x => (wI L σ x i y).bind fun σ' => go nx lc r L σ' else none
    | _ => none
  | .sastore => match st with
    | .inl y :: .inl i :: .inr (.inr (.inl q)) :: r => bif fl.2 then none else bif Nat.beq q.1 21 then q.2.bind fun x => (wI L σ x i (nSh y)).bind fun σ' => go nx lc r L σ' else none
    | _ => none
  | .bastore => match st with
    | .inl y :: .inl i :: .inr (.inr (.inl q)) :: r => bif fl.2 then none else bif Nat.beq q.1 22 then q.2.bind fun x => (wI L σ x i (nBo y)).bind fun σ' => go nx lc r L σ' else none
    | _ => none
  | .aastore => match st with
    | .inr (.inr (.inl z)) :: .inl i :: .inr (.inr (.inl q)) :: r => bif fl.2 then none else bif Nat.ble 23 q.1 && Nat.ble q.1 25 && Nat.beq z.1 (etg q.1) then q.2.bind fun x => z.2.bind fun y => (wR L σ x i (some y)).bind fun σ' => go nx lc r L σ' else none
    | _ => none
  | .arraylength => match st with
    | .inr (.inr (.inl q)) :: r => bif Nat.ble 20 q.1 && Nat.ble q.1 25 then q.2.bind fun x => go nx lc (vI (nI (L.2.1 x)) :: r) L σ else none
    | .inr (.inr (.inr q)) :: r => bif Nat.ble 10 q then go nx lc (vI (nI (cal q).length) :: r) L σ else none
    | _ => none
  | .new _ => bif fl.1 then none else bif fl.2 then none else go nx lc (vR a (some L.2.2.1) :: st) (pL L a 0 (nf a)) (zS σ L.2.2.1)
  | .newarray _ | .anewarray _ => match st with
    | .inl n :: r => bif fl.1 then none else bif fl.2 then none else if n = nI b then go nx lc (vR a (some L.2.2.1) :: r) (pL L a b b) (zS σ L.2.2.1) else none
    | _ => none
  | .invokestatic _ => bif Nat.beq a 1 then (match st with
      | .inl n :: .inl j :: .inr (.inr (.inl q')) :: .inl i :: .inr (.inr (.inl q)) :: r => bif fl.2 then none else bif Nat.beq q.1 21 && Nat.beq q'.1 21 then q.2.bind fun x => q'.2.bind fun y => if okC L x i y j n = true then go nx lc r L (cpS σ x i y j n) else none else none
      | _ => none) else match spl b [] st with
    | some (as, r) => cl a L σ as (fun q L' σ' => go nx lc (psh q r) L' σ')
    | none => none
  | .invokevirtual _ => match spl b [] st with
    | some (as, .inr (.inr (.inl q)) :: r) => bif Nat.beq q.1 c then q.2.bind fun x => cl a L σ (vR q.1 (some x) :: as) (fun q L' σ' => go nx lc (psh q r) L' σ') else none
    | some (as, .inr (.inr (.inr q)) :: r) => bif Nat.beq c 50 then cl a L σ (vC q :: as) (fun q L' σ' => go nx lc (psh q r) L' σ') else none
    | _ => none
  | .invokespecial _ => bif Nat.beq a 0 then (match st with
      | .inr (.inr (.inl q)) :: r => q.2.bind fun _ => go nx lc r L σ
      | _ => none) else match spl b [] st with
    | some (as, .inr (.inr (.inl q)) :: r) => bif Nat.beq q.1 c then q.2.bind fun x => cl a L σ (vR q.1 (some x) :: as) (fun q L' σ' => go nx lc (psh q r) L' σ') else none
    | _ => none
  | .ireturn => match st with
    | [.inl x] => bif Nat.beq rt.1 0 then Rk (some (vI x)) L σ else (ckN rt.1 x).bind fun _ => Rk (some (vI x)) L σ
    | _ => none
  | .areturn => match st with
    | [.inr (.inr (.inl q))] => bif Nat.beq q.1 rt.2 then Rk (some (vR rt.2 q.2)) L σ else q.2.elim (Rk (some (vR rt.2 none)) L σ) (fun _ => none)
    | _ => none
  | .return_ => match st with
    | [] => Rk none L σ
    | _ => none
  | _ => none
def ex {O : Type} (tb : Nat → TI) (sp : Nat → Bool) (rt : Nat × Nat) (fl : Bool × Bool) (cl : CLT O) (K : GOT O) (Rk : RKT O) : Nat → GOT O
  | 0 => fun _ _ _ _ _ => none
  | n + 1 => stp tb rt fl cl Rk (fun pc lc st L σ => bif sp pc then K pc lc st L σ else ex tb sp rt fl cl K Rk n pc lc st L σ)
end
