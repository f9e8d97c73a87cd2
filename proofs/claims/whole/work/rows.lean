section
-- ===== PART A: goes FIRST, ahead of the names: the tables' words, and 'selects' of the private methods out of them =====
/-- a private method of a class that the tables say can be made, by its rows of tables_1 -/
def lw_okq (q : MethodName × Nat) : Prop := (q.1.cls ≠ "java/lang/invoke/MethodHandle" ∧ q.1.cls ≠ "java/lang/invoke/VarHandle") ∧ Cond.instantiable q.1.cls q.2 ∈ tables_1 ∧ Cond.privateMethod q.1 ∈ tables_1 ∧ Cond.instanceMethod q.1 ∈ tables_1
theorem lw_p0 : lw_okq (⟨"EndgameTable", "append", "(I)V"⟩, 9) := ⟨⟨by decide +kernel, by decide +kernel⟩, List.mem_of_getElem? (i := 20) (by decide +kernel), List.mem_of_getElem? (i := 77) (by decide +kernel), List.mem_of_getElem? (i := 78) (by decide +kernel)⟩
theorem lw_p1 : lw_okq (⟨"EndgameTable$Reader", "readSize", "()Z"⟩, 11) := ⟨⟨by decide +kernel, by decide +kernel⟩, List.mem_of_getElem? (i := 85) (by decide +kernel), List.mem_of_getElem? (i := 141) (by decide +kernel), List.mem_of_getElem? (i := 142) (by decide +kernel)⟩
theorem lw_p2 : lw_okq (⟨"EndgameTable$Reader", "digitAhead", "()I"⟩, 11) := ⟨⟨by decide +kernel, by decide +kernel⟩, List.mem_of_getElem? (i := 85) (by decide +kernel), List.mem_of_getElem? (i := 145) (by decide +kernel), List.mem_of_getElem? (i := 146) (by decide +kernel)⟩
theorem lw_p3 : lw_okq (⟨"EndgameTable$Reader", "ahead", "()I"⟩, 11) := ⟨⟨by decide +kernel, by decide +kernel⟩, List.mem_of_getElem? (i := 85) (by decide +kernel), List.mem_of_getElem? (i := 149) (by decide +kernel), List.mem_of_getElem? (i := 150) (by decide +kernel)⟩
theorem lw_p4 : lw_okq (⟨"EndgameTable$Reader", "take", "(C)Z"⟩, 11) := ⟨⟨by decide +kernel, by decide +kernel⟩, List.mem_of_getElem? (i := 85) (by decide +kernel), List.mem_of_getElem? (i := 153) (by decide +kernel), List.mem_of_getElem? (i := 154) (by decide +kernel)⟩
theorem lw_p5 : lw_okq (⟨"EndgameTable$Reader", "readMen", "()Z"⟩, 11) := ⟨⟨by decide +kernel, by decide +kernel⟩, List.mem_of_getElem? (i := 85) (by decide +kernel), List.mem_of_getElem? (i := 157) (by decide +kernel), List.mem_of_getElem? (i := 158) (by decide +kernel)⟩
theorem lw_p6 : lw_okq (⟨"EndgameTable$Reader", "readMan", "()Z"⟩, 11) := ⟨⟨by decide +kernel, by decide +kernel⟩, List.mem_of_getElem? (i := 85) (by decide +kernel), List.mem_of_getElem? (i := 161) (by decide +kernel), List.mem_of_getElem? (i := 162) (by decide +kernel)⟩
theorem lw_p7 : lw_okq (⟨"EndgameTable$Reader", "kindAhead", "()I"⟩, 11) := ⟨⟨by decide +kernel, by decide +kernel⟩, List.mem_of_getElem? (i := 85) (by decide +kernel), List.mem_of_getElem? (i := 165) (by decide +kernel), List.mem_of_getElem? (i := 166) (by decide +kernel)⟩
theorem lw_p8 : lw_okq (⟨"EndgameTable$Reader", "readClause", "()Z"⟩, 11) := ⟨⟨by decide +kernel, by decide +kernel⟩, List.mem_of_getElem? (i := 85) (by decide +kernel), List.mem_of_getElem? (i := 254) (by decide +kernel), List.mem_of_getElem? (i := 255) (by decide +kernel)⟩
theorem lw_p9 : lw_okq (⟨"EndgameTable$Reader", "readHoles", "()Z"⟩, 11) := ⟨⟨by decide +kernel, by decide +kernel⟩, List.mem_of_getElem? (i := 85) (by decide +kernel), List.mem_of_getElem? (i := 258) (by decide +kernel), List.mem_of_getElem? (i := 259) (by decide +kernel)⟩
theorem lw_p10 : lw_okq (⟨"EndgameTable$Reader", "readNumber", "()I"⟩, 11) := ⟨⟨by decide +kernel, by decide +kernel⟩, List.mem_of_getElem? (i := 85) (by decide +kernel), List.mem_of_getElem? (i := 262) (by decide +kernel), List.mem_of_getElem? (i := 263) (by decide +kernel)⟩
theorem lw_p11 : lw_okq (⟨"EndgameTable$Reader", "readLimit", "()Z"⟩, 11) := ⟨⟨by decide +kernel, by decide +kernel⟩, List.mem_of_getElem? (i := 85) (by decide +kernel), List.mem_of_getElem? (i := 266) (by decide +kernel), List.mem_of_getElem? (i := 267) (by decide +kernel)⟩
theorem lw_p12 : lw_okq (⟨"EndgameTable", "freeTable", "()LEndgameTable$Table;"⟩, 9) := ⟨⟨by decide +kernel, by decide +kernel⟩, List.mem_of_getElem? (i := 20) (by decide +kernel), List.mem_of_getElem? (i := 270) (by decide +kernel), List.mem_of_getElem? (i := 271) (by decide +kernel)⟩
theorem lw_p13 : lw_okq (⟨"EndgameTable$Table", "findPositions", "()V"⟩, 14) := ⟨⟨by decide +kernel, by decide +kernel⟩, List.mem_of_getElem? (i := 274) (by decide +kernel), List.mem_of_getElem? (i := 498) (by decide +kernel), List.mem_of_getElem? (i := 499) (by decide +kernel)⟩
theorem lw_p14 : lw_okq (⟨"EndgameTable$Table", "findSteps", "()V"⟩, 14) := ⟨⟨by decide +kernel, by decide +kernel⟩, List.mem_of_getElem? (i := 274) (by decide +kernel), List.mem_of_getElem? (i := 563) (by decide +kernel), List.mem_of_getElem? (i := 564) (by decide +kernel)⟩
theorem lw_p15 : lw_okq (⟨"EndgameTable$Table", "writeSteps", "(I)V"⟩, 14) := ⟨⟨by decide +kernel, by decide +kernel⟩, List.mem_of_getElem? (i := 274) (by decide +kernel), List.mem_of_getElem? (i := 567) (by decide +kernel), List.mem_of_getElem? (i := 568) (by decide +kernel)⟩
def lw_privs_1 : List (MethodName × Nat) := [(⟨"EndgameTable", "append", "(I)V"⟩, 9), (⟨"EndgameTable$Reader", "readSize", "()Z"⟩, 11), (⟨"EndgameTable$Reader", "digitAhead", "()I"⟩, 11), (⟨"EndgameTable$Reader", "ahead", "()I"⟩, 11), (⟨"EndgameTable$Reader", "take", "(C)Z"⟩, 11), (⟨"EndgameTable$Reader", "readMen", "()Z"⟩, 11), (⟨"EndgameTable$Reader", "readMan", "()Z"⟩, 11), (⟨"EndgameTable$Reader", "kindAhead", "()I"⟩, 11), (⟨"EndgameTable$Reader", "readClause", "()Z"⟩, 11), (⟨"EndgameTable$Reader", "readHoles", "()Z"⟩, 11), (⟨"EndgameTable$Reader", "readNumber", "()I"⟩, 11), (⟨"EndgameTable$Reader", "readLimit", "()Z"⟩, 11), (⟨"EndgameTable", "freeTable", "()LEndgameTable$Table;"⟩, 9), (⟨"EndgameTable$Table", "findPositions", "()V"⟩, 14), (⟨"EndgameTable$Table", "findSteps", "()V"⟩, 14), (⟨"EndgameTable$Table", "writeSteps", "(I)V"⟩, 14)]
theorem lw_r1 : ∀ q ∈ lw_privs_1, lw_okq q := List.forall_mem_cons.mpr ⟨lw_p0, List.forall_mem_cons.mpr ⟨lw_p1, List.forall_mem_cons.mpr ⟨lw_p2, List.forall_mem_cons.mpr ⟨lw_p3, List.forall_mem_cons.mpr ⟨lw_p4, List.forall_mem_cons.mpr ⟨lw_p5, List.forall_mem_cons.mpr ⟨lw_p6, List.forall_mem_cons.mpr ⟨lw_p7, List.forall_mem_cons.mpr ⟨lw_p8, List.forall_mem_cons.mpr ⟨lw_p9, List.forall_mem_cons.mpr ⟨lw_p10, List.forall_mem_cons.mpr ⟨lw_p11, List.forall_mem_cons.mpr ⟨lw_p12, List.forall_mem_cons.mpr ⟨lw_p13, List.forall_mem_cons.mpr ⟨lw_p14, List.forall_mem_cons.mpr ⟨lw_p15, fun _ h => absurd h List.not_mem_nil⟩⟩⟩⟩⟩⟩⟩⟩⟩⟩⟩⟩⟩⟩⟩⟩
theorem lw_p16 : lw_okq (⟨"EndgameTable$Position", "manOn", "(I)I"⟩, 5) := ⟨⟨by decide +kernel, by decide +kernel⟩, List.mem_of_getElem? (i := 436) (by decide +kernel), List.mem_of_getElem? (i := 578) (by decide +kernel), List.mem_of_getElem? (i := 579) (by decide +kernel)⟩
theorem lw_p17 : lw_okq (⟨"EndgameTable$Position", "put", "(II)V"⟩, 5) := ⟨⟨by decide +kernel, by decide +kernel⟩, List.mem_of_getElem? (i := 436) (by decide +kernel), List.mem_of_getElem? (i := 583) (by decide +kernel), List.mem_of_getElem? (i := 584) (by decide +kernel)⟩
theorem lw_p18 : lw_okq (⟨"EndgameTable$Table", "findEnds", "()V"⟩, 14) := ⟨⟨by decide +kernel, by decide +kernel⟩, List.mem_of_getElem? (i := 274) (by decide +kernel), List.mem_of_getElem? (i := 592) (by decide +kernel), List.mem_of_getElem? (i := 593) (by decide +kernel)⟩
theorem lw_p19 : lw_okq (⟨"EndgameTable$Table", "isEnd", "(I)Z"⟩, 14) := ⟨⟨by decide +kernel, by decide +kernel⟩, List.mem_of_getElem? (i := 274) (by decide +kernel), List.mem_of_getElem? (i := 596) (by decide +kernel), List.mem_of_getElem? (i := 597) (by decide +kernel)⟩
theorem lw_p20 : lw_okq (⟨"EndgameTable$Table", "isIndex", "(I)Z"⟩, 14) := ⟨⟨by decide +kernel, by decide +kernel⟩, List.mem_of_getElem? (i := 274) (by decide +kernel), List.mem_of_getElem? (i := 604) (by decide +kernel), List.mem_of_getElem? (i := 605) (by decide +kernel)⟩
theorem lw_p21 : lw_okq (⟨"EndgameTable$Table", "endValue", "(I)I"⟩, 14) := ⟨⟨by decide +kernel, by decide +kernel⟩, List.mem_of_getElem? (i := 274) (by decide +kernel), List.mem_of_getElem? (i := 608) (by decide +kernel), List.mem_of_getElem? (i := 609) (by decide +kernel)⟩
theorem lw_p22 : lw_okq (⟨"EndgameTable$Table", "findValues", "(I)Z"⟩, 14) := ⟨⟨by decide +kernel, by decide +kernel⟩, List.mem_of_getElem? (i := 274) (by decide +kernel), List.mem_of_getElem? (i := 617) (by decide +kernel), List.mem_of_getElem? (i := 618) (by decide +kernel)⟩
theorem lw_p23 : lw_okq (⟨"EndgameTable$Table", "valueFromSteps", "(II)I"⟩, 14) := ⟨⟨by decide +kernel, by decide +kernel⟩, List.mem_of_getElem? (i := 274) (by decide +kernel), List.mem_of_getElem? (i := 621) (by decide +kernel), List.mem_of_getElem? (i := 622) (by decide +kernel)⟩
theorem lw_p24 : lw_okq (⟨"EndgameTable$Table", "findConversions", "(I)Z"⟩, 14) := ⟨⟨by decide +kernel, by decide +kernel⟩, List.mem_of_getElem? (i := 274) (by decide +kernel), List.mem_of_getElem? (i := 637) (by decide +kernel), List.mem_of_getElem? (i := 638) (by decide +kernel)⟩
theorem lw_p25 : lw_okq (⟨"EndgameTable$Table", "isConverted", "(II)Z"⟩, 14) := ⟨⟨by decide +kernel, by decide +kernel⟩, List.mem_of_getElem? (i := 274) (by decide +kernel), List.mem_of_getElem? (i := 641) (by decide +kernel), List.mem_of_getElem? (i := 642) (by decide +kernel)⟩
theorem lw_p26 : lw_okq (⟨"EndgameTable$Table", "shareWithImages", "()V"⟩, 14) := ⟨⟨by decide +kernel, by decide +kernel⟩, List.mem_of_getElem? (i := 274) (by decide +kernel), List.mem_of_getElem? (i := 653) (by decide +kernel), List.mem_of_getElem? (i := 654) (by decide +kernel)⟩
theorem lw_p27 : lw_okq (⟨"EndgameTable", "isPlaying", "()Z"⟩, 9) := ⟨⟨by decide +kernel, by decide +kernel⟩, List.mem_of_getElem? (i := 20) (by decide +kernel), List.mem_of_getElem? (i := 696) (by decide +kernel), List.mem_of_getElem? (i := 697) (by decide +kernel)⟩
theorem lw_p28 : lw_okq (⟨"EndgameTable", "manOnBoard", "(II)I"⟩, 9) := ⟨⟨by decide +kernel, by decide +kernel⟩, List.mem_of_getElem? (i := 20) (by decide +kernel), List.mem_of_getElem? (i := 730) (by decide +kernel), List.mem_of_getElem? (i := 731) (by decide +kernel)⟩
theorem lw_p29 : lw_okq (⟨"EndgameTable", "capturedMan", "(II)I"⟩, 9) := ⟨⟨by decide +kernel, by decide +kernel⟩, List.mem_of_getElem? (i := 20) (by decide +kernel), List.mem_of_getElem? (i := 751) (by decide +kernel), List.mem_of_getElem? (i := 752) (by decide +kernel)⟩
theorem lw_p30 : lw_okq (⟨"EndgameTable$Play", "occurrencesUpTo", "(I)I"⟩, 2) := ⟨⟨by decide +kernel, by decide +kernel⟩, List.mem_of_getElem? (i := 28) (by decide +kernel), List.mem_of_getElem? (i := 769) (by decide +kernel), List.mem_of_getElem? (i := 770) (by decide +kernel)⟩
theorem lw_p31 : lw_okq (⟨"EndgameTable$Table", "isFollowed", "(II)Z"⟩, 14) := ⟨⟨by decide +kernel, by decide +kernel⟩, List.mem_of_getElem? (i := 274) (by decide +kernel), List.mem_of_getElem? (i := 799) (by decide +kernel), List.mem_of_getElem? (i := 800) (by decide +kernel)⟩
def lw_privs_2 : List (MethodName × Nat) := [(⟨"EndgameTable$Position", "manOn", "(I)I"⟩, 5), (⟨"EndgameTable$Position", "put", "(II)V"⟩, 5), (⟨"EndgameTable$Table", "findEnds", "()V"⟩, 14), (⟨"EndgameTable$Table", "isEnd", "(I)Z"⟩, 14), (⟨"EndgameTable$Table", "isIndex", "(I)Z"⟩, 14), (⟨"EndgameTable$Table", "endValue", "(I)I"⟩, 14), (⟨"EndgameTable$Table", "findValues", "(I)Z"⟩, 14), (⟨"EndgameTable$Table", "valueFromSteps", "(II)I"⟩, 14), (⟨"EndgameTable$Table", "findConversions", "(I)Z"⟩, 14), (⟨"EndgameTable$Table", "isConverted", "(II)Z"⟩, 14), (⟨"EndgameTable$Table", "shareWithImages", "()V"⟩, 14), (⟨"EndgameTable", "isPlaying", "()Z"⟩, 9), (⟨"EndgameTable", "manOnBoard", "(II)I"⟩, 9), (⟨"EndgameTable", "capturedMan", "(II)I"⟩, 9), (⟨"EndgameTable$Play", "occurrencesUpTo", "(I)I"⟩, 2), (⟨"EndgameTable$Table", "isFollowed", "(II)Z"⟩, 14)]
theorem lw_r2 : ∀ q ∈ lw_privs_2, lw_okq q := List.forall_mem_cons.mpr ⟨lw_p16, List.forall_mem_cons.mpr ⟨lw_p17, List.forall_mem_cons.mpr ⟨lw_p18, List.forall_mem_cons.mpr ⟨lw_p19, List.forall_mem_cons.mpr ⟨lw_p20, List.forall_mem_cons.mpr ⟨lw_p21, List.forall_mem_cons.mpr ⟨lw_p22, List.forall_mem_cons.mpr ⟨lw_p23, List.forall_mem_cons.mpr ⟨lw_p24, List.forall_mem_cons.mpr ⟨lw_p25, List.forall_mem_cons.mpr ⟨lw_p26, List.forall_mem_cons.mpr ⟨lw_p27, List.forall_mem_cons.mpr ⟨lw_p28, List.forall_mem_cons.mpr ⟨lw_p29, List.forall_mem_cons.mpr ⟨lw_p30, List.forall_mem_cons.mpr ⟨lw_p31, fun _ h => absurd h List.not_mem_nil⟩⟩⟩⟩⟩⟩⟩⟩⟩⟩⟩⟩⟩⟩⟩⟩
theorem lw_p32 : lw_okq (⟨"EndgameTable$Table", "isMutualZugzwang", "(I)Z"⟩, 14) := ⟨⟨by decide +kernel, by decide +kernel⟩, List.mem_of_getElem? (i := 274) (by decide +kernel), List.mem_of_getElem? (i := 854) (by decide +kernel), List.mem_of_getElem? (i := 855) (by decide +kernel)⟩
theorem lw_p33 : lw_okq (⟨"EndgameTable", "movesSinceCapture", "()I"⟩, 9) := ⟨⟨by decide +kernel, by decide +kernel⟩, List.mem_of_getElem? (i := 20) (by decide +kernel), List.mem_of_getElem? (i := 895) (by decide +kernel), List.mem_of_getElem? (i := 896) (by decide +kernel)⟩
theorem lw_p34 : lw_okq (⟨"EndgameTableModel", "passGame", "()V"⟩, 32) := ⟨⟨by decide +kernel, by decide +kernel⟩, List.mem_of_getElem? (i := 901) (by decide +kernel), List.mem_of_getElem? (i := 1021) (by decide +kernel), List.mem_of_getElem? (i := 1022) (by decide +kernel)⟩
theorem lw_p35 : lw_okq (⟨"EndgameTableModel", "passDigit", "(II)I"⟩, 32) := ⟨⟨by decide +kernel, by decide +kernel⟩, List.mem_of_getElem? (i := 901) (by decide +kernel), List.mem_of_getElem? (i := 1025) (by decide +kernel), List.mem_of_getElem? (i := 1026) (by decide +kernel)⟩
theorem lw_p36 : lw_okq (⟨"EndgameTableModel", "sees", "(II)Z"⟩, 32) := ⟨⟨by decide +kernel, by decide +kernel⟩, List.mem_of_getElem? (i := 901) (by decide +kernel), List.mem_of_getElem? (i := 1029) (by decide +kernel), List.mem_of_getElem? (i := 1030) (by decide +kernel)⟩
theorem lw_p37 : lw_okq (⟨"EndgameTableModel", "passes", "(I)Z"⟩, 32) := ⟨⟨by decide +kernel, by decide +kernel⟩, List.mem_of_getElem? (i := 901) (by decide +kernel), List.mem_of_getElem? (i := 1033) (by decide +kernel), List.mem_of_getElem? (i := 1034) (by decide +kernel)⟩
theorem lw_p38 : lw_okq (⟨"EndgameTableModel", "passMen", "()V"⟩, 32) := ⟨⟨by decide +kernel, by decide +kernel⟩, List.mem_of_getElem? (i := 901) (by decide +kernel), List.mem_of_getElem? (i := 1037) (by decide +kernel), List.mem_of_getElem? (i := 1038) (by decide +kernel)⟩
theorem lw_p39 : lw_okq (⟨"EndgameTableModel", "letterHere", "()I"⟩, 32) := ⟨⟨by decide +kernel, by decide +kernel⟩, List.mem_of_getElem? (i := 901) (by decide +kernel), List.mem_of_getElem? (i := 1041) (by decide +kernel), List.mem_of_getElem? (i := 1042) (by decide +kernel)⟩
theorem lw_p40 : lw_okq (⟨"EndgameTableModel", "passClause", "()V"⟩, 32) := ⟨⟨by decide +kernel, by decide +kernel⟩, List.mem_of_getElem? (i := 901) (by decide +kernel), List.mem_of_getElem? (i := 1047) (by decide +kernel), List.mem_of_getElem? (i := 1048) (by decide +kernel)⟩
theorem lw_p41 : lw_okq (⟨"EndgameTableModel", "passSquare", "()V"⟩, 32) := ⟨⟨by decide +kernel, by decide +kernel⟩, List.mem_of_getElem? (i := 901) (by decide +kernel), List.mem_of_getElem? (i := 1051) (by decide +kernel), List.mem_of_getElem? (i := 1052) (by decide +kernel)⟩
theorem lw_p42 : lw_okq (⟨"EndgameTableModel", "passNumber", "()I"⟩, 32) := ⟨⟨by decide +kernel, by decide +kernel⟩, List.mem_of_getElem? (i := 901) (by decide +kernel), List.mem_of_getElem? (i := 1055) (by decide +kernel), List.mem_of_getElem? (i := 1056) (by decide +kernel)⟩
theorem lw_p43 : lw_okq (⟨"EndgameTableModel", "build", "()V"⟩, 32) := ⟨⟨by decide +kernel, by decide +kernel⟩, List.mem_of_getElem? (i := 901) (by decide +kernel), List.mem_of_getElem? (i := 1062) (by decide +kernel), List.mem_of_getElem? (i := 1063) (by decide +kernel)⟩
theorem lw_p44 : lw_okq (⟨"EndgameTableModel", "squares", "()I"⟩, 32) := ⟨⟨by decide +kernel, by decide +kernel⟩, List.mem_of_getElem? (i := 901) (by decide +kernel), List.mem_of_getElem? (i := 1066) (by decide +kernel), List.mem_of_getElem? (i := 1067) (by decide +kernel)⟩
theorem lw_p45 : lw_okq (⟨"EndgameTableModel", "decode", "(I[I)V"⟩, 32) := ⟨⟨by decide +kernel, by decide +kernel⟩, List.mem_of_getElem? (i := 901) (by decide +kernel), List.mem_of_getElem? (i := 1070) (by decide +kernel), List.mem_of_getElem? (i := 1071) (by decide +kernel)⟩
theorem lw_p46 : lw_okq (⟨"EndgameTableModel", "isPossible", "([II)Z"⟩, 32) := ⟨⟨by decide +kernel, by decide +kernel⟩, List.mem_of_getElem? (i := 901) (by decide +kernel), List.mem_of_getElem? (i := 1074) (by decide +kernel), List.mem_of_getElem? (i := 1075) (by decide +kernel)⟩
theorem lw_p47 : lw_okq (⟨"EndgameTableModel", "isInCheck", "([II)Z"⟩, 32) := ⟨⟨by decide +kernel, by decide +kernel⟩, List.mem_of_getElem? (i := 901) (by decide +kernel), List.mem_of_getElem? (i := 1081) (by decide +kernel), List.mem_of_getElem? (i := 1082) (by decide +kernel)⟩
def lw_privs_3 : List (MethodName × Nat) := [(⟨"EndgameTable$Table", "isMutualZugzwang", "(I)Z"⟩, 14), (⟨"EndgameTable", "movesSinceCapture", "()I"⟩, 9), (⟨"EndgameTableModel", "passGame", "()V"⟩, 32), (⟨"EndgameTableModel", "passDigit", "(II)I"⟩, 32), (⟨"EndgameTableModel", "sees", "(II)Z"⟩, 32), (⟨"EndgameTableModel", "passes", "(I)Z"⟩, 32), (⟨"EndgameTableModel", "passMen", "()V"⟩, 32), (⟨"EndgameTableModel", "letterHere", "()I"⟩, 32), (⟨"EndgameTableModel", "passClause", "()V"⟩, 32), (⟨"EndgameTableModel", "passSquare", "()V"⟩, 32), (⟨"EndgameTableModel", "passNumber", "()I"⟩, 32), (⟨"EndgameTableModel", "build", "()V"⟩, 32), (⟨"EndgameTableModel", "squares", "()I"⟩, 32), (⟨"EndgameTableModel", "decode", "(I[I)V"⟩, 32), (⟨"EndgameTableModel", "isPossible", "([II)Z"⟩, 32), (⟨"EndgameTableModel", "isInCheck", "([II)Z"⟩, 32)]
theorem lw_r3 : ∀ q ∈ lw_privs_3, lw_okq q := List.forall_mem_cons.mpr ⟨lw_p32, List.forall_mem_cons.mpr ⟨lw_p33, List.forall_mem_cons.mpr ⟨lw_p34, List.forall_mem_cons.mpr ⟨lw_p35, List.forall_mem_cons.mpr ⟨lw_p36, List.forall_mem_cons.mpr ⟨lw_p37, List.forall_mem_cons.mpr ⟨lw_p38, List.forall_mem_cons.mpr ⟨lw_p39, List.forall_mem_cons.mpr ⟨lw_p40, List.forall_mem_cons.mpr ⟨lw_p41, List.forall_mem_cons.mpr ⟨lw_p42, List.forall_mem_cons.mpr ⟨lw_p43, List.forall_mem_cons.mpr ⟨lw_p44, List.forall_mem_cons.mpr ⟨lw_p45, List.forall_mem_cons.mpr ⟨lw_p46, List.forall_mem_cons.mpr ⟨lw_p47, fun _ h => absurd h List.not_mem_nil⟩⟩⟩⟩⟩⟩⟩⟩⟩⟩⟩⟩⟩⟩⟩⟩
theorem lw_p48 : lw_okq (⟨"EndgameTableModel", "royal", "(I)I"⟩, 32) := ⟨⟨by decide +kernel, by decide +kernel⟩, List.mem_of_getElem? (i := 901) (by decide +kernel), List.mem_of_getElem? (i := 1085) (by decide +kernel), List.mem_of_getElem? (i := 1086) (by decide +kernel)⟩
theorem lw_p49 : lw_okq (⟨"EndgameTableModel", "isAttacked", "([III)Z"⟩, 32) := ⟨⟨by decide +kernel, by decide +kernel⟩, List.mem_of_getElem? (i := 901) (by decide +kernel), List.mem_of_getElem? (i := 1089) (by decide +kernel), List.mem_of_getElem? (i := 1090) (by decide +kernel)⟩
theorem lw_p50 : lw_okq (⟨"EndgameTableModel", "occupied", "([I)I"⟩, 32) := ⟨⟨by decide +kernel, by decide +kernel⟩, List.mem_of_getElem? (i := 901) (by decide +kernel), List.mem_of_getElem? (i := 1093) (by decide +kernel), List.mem_of_getElem? (i := 1094) (by decide +kernel)⟩
theorem lw_p51 : lw_okq (⟨"EndgameTableModel", "isOf", "(II)Z"⟩, 32) := ⟨⟨by decide +kernel, by decide +kernel⟩, List.mem_of_getElem? (i := 901) (by decide +kernel), List.mem_of_getElem? (i := 1097) (by decide +kernel), List.mem_of_getElem? (i := 1098) (by decide +kernel)⟩
theorem lw_p52 : lw_okq (⟨"EndgameTableModel", "isWhite", "(I)Z"⟩, 32) := ⟨⟨by decide +kernel, by decide +kernel⟩, List.mem_of_getElem? (i := 901) (by decide +kernel), List.mem_of_getElem? (i := 1101) (by decide +kernel), List.mem_of_getElem? (i := 1102) (by decide +kernel)⟩
theorem lw_p53 : lw_okq (⟨"EndgameTableModel", "reaches", "(IIIIZ)Z"⟩, 32) := ⟨⟨by decide +kernel, by decide +kernel⟩, List.mem_of_getElem? (i := 901) (by decide +kernel), List.mem_of_getElem? (i := 1105) (by decide +kernel), List.mem_of_getElem? (i := 1106) (by decide +kernel)⟩
theorem lw_p54 : lw_okq (⟨"EndgameTableModel", "isClear", "(III)Z"⟩, 32) := ⟨⟨by decide +kernel, by decide +kernel⟩, List.mem_of_getElem? (i := 901) (by decide +kernel), List.mem_of_getElem? (i := 1112) (by decide +kernel), List.mem_of_getElem? (i := 1113) (by decide +kernel)⟩
theorem lw_p55 : lw_okq (⟨"EndgameTableModel", "isEnd", "(I)Z"⟩, 32) := ⟨⟨by decide +kernel, by decide +kernel⟩, List.mem_of_getElem? (i := 901) (by decide +kernel), List.mem_of_getElem? (i := 1119) (by decide +kernel), List.mem_of_getElem? (i := 1120) (by decide +kernel)⟩
theorem lw_p56 : lw_okq (⟨"EndgameTableModel", "findMoves", "(II)V"⟩, 32) := ⟨⟨by decide +kernel, by decide +kernel⟩, List.mem_of_getElem? (i := 901) (by decide +kernel), List.mem_of_getElem? (i := 1123) (by decide +kernel), List.mem_of_getElem? (i := 1124) (by decide +kernel)⟩
theorem lw_p57 : lw_okq (⟨"EndgameTableModel", "tryMove", "(IIII)V"⟩, 32) := ⟨⟨by decide +kernel, by decide +kernel⟩, List.mem_of_getElem? (i := 901) (by decide +kernel), List.mem_of_getElem? (i := 1127) (by decide +kernel), List.mem_of_getElem? (i := 1128) (by decide +kernel)⟩
theorem lw_p58 : lw_okq (⟨"EndgameTableModel", "manAt", "([II)I"⟩, 32) := ⟨⟨by decide +kernel, by decide +kernel⟩, List.mem_of_getElem? (i := 901) (by decide +kernel), List.mem_of_getElem? (i := 1131) (by decide +kernel), List.mem_of_getElem? (i := 1132) (by decide +kernel)⟩
theorem lw_p59 : lw_okq (⟨"EndgameTableModel", "indexOf", "([II)I"⟩, 32) := ⟨⟨by decide +kernel, by decide +kernel⟩, List.mem_of_getElem? (i := 901) (by decide +kernel), List.mem_of_getElem? (i := 1135) (by decide +kernel), List.mem_of_getElem? (i := 1136) (by decide +kernel)⟩
theorem lw_p60 : lw_okq (⟨"EndgameTableModel", "endValue", "(II)I"⟩, 32) := ⟨⟨by decide +kernel, by decide +kernel⟩, List.mem_of_getElem? (i := 901) (by decide +kernel), List.mem_of_getElem? (i := 1139) (by decide +kernel), List.mem_of_getElem? (i := 1140) (by decide +kernel)⟩
theorem lw_p61 : lw_okq (⟨"EndgameTableModel", "decide", "(I)Z"⟩, 32) := ⟨⟨by decide +kernel, by decide +kernel⟩, List.mem_of_getElem? (i := 901) (by decide +kernel), List.mem_of_getElem? (i := 1143) (by decide +kernel), List.mem_of_getElem? (i := 1144) (by decide +kernel)⟩
theorem lw_p62 : lw_okq (⟨"EndgameTableModel", "convert", "(I)Z"⟩, 32) := ⟨⟨by decide +kernel, by decide +kernel⟩, List.mem_of_getElem? (i := 901) (by decide +kernel), List.mem_of_getElem? (i := 1147) (by decide +kernel), List.mem_of_getElem? (i := 1148) (by decide +kernel)⟩
theorem lw_p63 : lw_okq (⟨"EndgameTableModel", "countSymmetries", "()I"⟩, 32) := ⟨⟨by decide +kernel, by decide +kernel⟩, List.mem_of_getElem? (i := 901) (by decide +kernel), List.mem_of_getElem? (i := 1158) (by decide +kernel), List.mem_of_getElem? (i := 1159) (by decide +kernel)⟩
def lw_privs_4 : List (MethodName × Nat) := [(⟨"EndgameTableModel", "royal", "(I)I"⟩, 32), (⟨"EndgameTableModel", "isAttacked", "([III)Z"⟩, 32), (⟨"EndgameTableModel", "occupied", "([I)I"⟩, 32), (⟨"EndgameTableModel", "isOf", "(II)Z"⟩, 32), (⟨"EndgameTableModel", "isWhite", "(I)Z"⟩, 32), (⟨"EndgameTableModel", "reaches", "(IIIIZ)Z"⟩, 32), (⟨"EndgameTableModel", "isClear", "(III)Z"⟩, 32), (⟨"EndgameTableModel", "isEnd", "(I)Z"⟩, 32), (⟨"EndgameTableModel", "findMoves", "(II)V"⟩, 32), (⟨"EndgameTableModel", "tryMove", "(IIII)V"⟩, 32), (⟨"EndgameTableModel", "manAt", "([II)I"⟩, 32), (⟨"EndgameTableModel", "indexOf", "([II)I"⟩, 32), (⟨"EndgameTableModel", "endValue", "(II)I"⟩, 32), (⟨"EndgameTableModel", "decide", "(I)Z"⟩, 32), (⟨"EndgameTableModel", "convert", "(I)Z"⟩, 32), (⟨"EndgameTableModel", "countSymmetries", "()I"⟩, 32)]
theorem lw_r4 : ∀ q ∈ lw_privs_4, lw_okq q := List.forall_mem_cons.mpr ⟨lw_p48, List.forall_mem_cons.mpr ⟨lw_p49, List.forall_mem_cons.mpr ⟨lw_p50, List.forall_mem_cons.mpr ⟨lw_p51, List.forall_mem_cons.mpr ⟨lw_p52, List.forall_mem_cons.mpr ⟨lw_p53, List.forall_mem_cons.mpr ⟨lw_p54, List.forall_mem_cons.mpr ⟨lw_p55, List.forall_mem_cons.mpr ⟨lw_p56, List.forall_mem_cons.mpr ⟨lw_p57, List.forall_mem_cons.mpr ⟨lw_p58, List.forall_mem_cons.mpr ⟨lw_p59, List.forall_mem_cons.mpr ⟨lw_p60, List.forall_mem_cons.mpr ⟨lw_p61, List.forall_mem_cons.mpr ⟨lw_p62, List.forall_mem_cons.mpr ⟨lw_p63, fun _ h => absurd h List.not_mem_nil⟩⟩⟩⟩⟩⟩⟩⟩⟩⟩⟩⟩⟩⟩⟩⟩
theorem lw_p64 : lw_okq (⟨"EndgameTableModel", "isSymmetry", "(I)Z"⟩, 32) := ⟨⟨by decide +kernel, by decide +kernel⟩, List.mem_of_getElem? (i := 901) (by decide +kernel), List.mem_of_getElem? (i := 1162) (by decide +kernel), List.mem_of_getElem? (i := 1163) (by decide +kernel)⟩
theorem lw_p65 : lw_okq (⟨"EndgameTableModel", "hasPawns", "()Z"⟩, 32) := ⟨⟨by decide +kernel, by decide +kernel⟩, List.mem_of_getElem? (i := 901) (by decide +kernel), List.mem_of_getElem? (i := 1166) (by decide +kernel), List.mem_of_getElem? (i := 1167) (by decide +kernel)⟩
theorem lw_p66 : lw_okq (⟨"EndgameTableModel", "turned", "(II)I"⟩, 32) := ⟨⟨by decide +kernel, by decide +kernel⟩, List.mem_of_getElem? (i := 901) (by decide +kernel), List.mem_of_getElem? (i := 1170) (by decide +kernel), List.mem_of_getElem? (i := 1171) (by decide +kernel)⟩
theorem lw_p67 : lw_okq (⟨"EndgameTableModel", "countPossible", "()I"⟩, 32) := ⟨⟨by decide +kernel, by decide +kernel⟩, List.mem_of_getElem? (i := 901) (by decide +kernel), List.mem_of_getElem? (i := 1174) (by decide +kernel), List.mem_of_getElem? (i := 1175) (by decide +kernel)⟩
theorem lw_p68 : lw_okq (⟨"EndgameTableModel", "isPlace", "(II)Z"⟩, 32) := ⟨⟨by decide +kernel, by decide +kernel⟩, List.mem_of_getElem? (i := 901) (by decide +kernel), List.mem_of_getElem? (i := 1182) (by decide +kernel), List.mem_of_getElem? (i := 1183) (by decide +kernel)⟩
theorem lw_p69 : lw_okq (⟨"EndgameTableModel", "begin", "(I)V"⟩, 32) := ⟨⟨by decide +kernel, by decide +kernel⟩, List.mem_of_getElem? (i := 901) (by decide +kernel), List.mem_of_getElem? (i := 1186) (by decide +kernel), List.mem_of_getElem? (i := 1187) (by decide +kernel)⟩
theorem lw_p70 : lw_okq (⟨"EndgameTableModel", "isPlaying", "()Z"⟩, 32) := ⟨⟨by decide +kernel, by decide +kernel⟩, List.mem_of_getElem? (i := 901) (by decide +kernel), List.mem_of_getElem? (i := 1198) (by decide +kernel), List.mem_of_getElem? (i := 1199) (by decide +kernel)⟩
theorem lw_p71 : lw_okq (⟨"EndgameTableModel", "here", "()I"⟩, 32) := ⟨⟨by decide +kernel, by decide +kernel⟩, List.mem_of_getElem? (i := 901) (by decide +kernel), List.mem_of_getElem? (i := 1202) (by decide +kernel), List.mem_of_getElem? (i := 1203) (by decide +kernel)⟩
theorem lw_p72 : lw_okq (⟨"EndgameTableModel", "verdict", "(I)I"⟩, 32) := ⟨⟨by decide +kernel, by decide +kernel⟩, List.mem_of_getElem? (i := 901) (by decide +kernel), List.mem_of_getElem? (i := 1206) (by decide +kernel), List.mem_of_getElem? (i := 1207) (by decide +kernel)⟩
theorem lw_p73 : lw_okq (⟨"EndgameTableModel", "canonical", "(I)I"⟩, 32) := ⟨⟨by decide +kernel, by decide +kernel⟩, List.mem_of_getElem? (i := 901) (by decide +kernel), List.mem_of_getElem? (i := 1210) (by decide +kernel), List.mem_of_getElem? (i := 1211) (by decide +kernel)⟩
theorem lw_p74 : lw_okq (⟨"EndgameTableModel", "imageOf", "(II)I"⟩, 32) := ⟨⟨by decide +kernel, by decide +kernel⟩, List.mem_of_getElem? (i := 901) (by decide +kernel), List.mem_of_getElem? (i := 1214) (by decide +kernel), List.mem_of_getElem? (i := 1215) (by decide +kernel)⟩
theorem lw_p75 : lw_okq (⟨"EndgameTableModel", "countImages", "(I)I"⟩, 32) := ⟨⟨by decide +kernel, by decide +kernel⟩, List.mem_of_getElem? (i := 901) (by decide +kernel), List.mem_of_getElem? (i := 1218) (by decide +kernel), List.mem_of_getElem? (i := 1219) (by decide +kernel)⟩
theorem lw_p76 : lw_okq (⟨"EndgameTableModel", "occurrences", "()I"⟩, 32) := ⟨⟨by decide +kernel, by decide +kernel⟩, List.mem_of_getElem? (i := 901) (by decide +kernel), List.mem_of_getElem? (i := 1230) (by decide +kernel), List.mem_of_getElem? (i := 1231) (by decide +kernel)⟩
theorem lw_p77 : lw_okq (⟨"EndgameTableModel", "bestOf", "(I)I"⟩, 32) := ⟨⟨by decide +kernel, by decide +kernel⟩, List.mem_of_getElem? (i := 901) (by decide +kernel), List.mem_of_getElem? (i := 1242) (by decide +kernel), List.mem_of_getElem? (i := 1243) (by decide +kernel)⟩
theorem lw_p78 : lw_okq (⟨"EndgameTableModel", "findLine", "()I"⟩, 32) := ⟨⟨by decide +kernel, by decide +kernel⟩, List.mem_of_getElem? (i := 901) (by decide +kernel), List.mem_of_getElem? (i := 1250) (by decide +kernel), List.mem_of_getElem? (i := 1251) (by decide +kernel)⟩
theorem lw_p79 : lw_okq (⟨"EndgameTableModel", "searchFrom", "(II)I"⟩, 32) := ⟨⟨by decide +kernel, by decide +kernel⟩, List.mem_of_getElem? (i := 901) (by decide +kernel), List.mem_of_getElem? (i := 1258) (by decide +kernel), List.mem_of_getElem? (i := 1259) (by decide +kernel)⟩
def lw_privs_5 : List (MethodName × Nat) := [(⟨"EndgameTableModel", "isSymmetry", "(I)Z"⟩, 32), (⟨"EndgameTableModel", "hasPawns", "()Z"⟩, 32), (⟨"EndgameTableModel", "turned", "(II)I"⟩, 32), (⟨"EndgameTableModel", "countPossible", "()I"⟩, 32), (⟨"EndgameTableModel", "isPlace", "(II)Z"⟩, 32), (⟨"EndgameTableModel", "begin", "(I)V"⟩, 32), (⟨"EndgameTableModel", "isPlaying", "()Z"⟩, 32), (⟨"EndgameTableModel", "here", "()I"⟩, 32), (⟨"EndgameTableModel", "verdict", "(I)I"⟩, 32), (⟨"EndgameTableModel", "canonical", "(I)I"⟩, 32), (⟨"EndgameTableModel", "imageOf", "(II)I"⟩, 32), (⟨"EndgameTableModel", "countImages", "(I)I"⟩, 32), (⟨"EndgameTableModel", "occurrences", "()I"⟩, 32), (⟨"EndgameTableModel", "bestOf", "(I)I"⟩, 32), (⟨"EndgameTableModel", "findLine", "()I"⟩, 32), (⟨"EndgameTableModel", "searchFrom", "(II)I"⟩, 32)]
theorem lw_r5 : ∀ q ∈ lw_privs_5, lw_okq q := List.forall_mem_cons.mpr ⟨lw_p64, List.forall_mem_cons.mpr ⟨lw_p65, List.forall_mem_cons.mpr ⟨lw_p66, List.forall_mem_cons.mpr ⟨lw_p67, List.forall_mem_cons.mpr ⟨lw_p68, List.forall_mem_cons.mpr ⟨lw_p69, List.forall_mem_cons.mpr ⟨lw_p70, List.forall_mem_cons.mpr ⟨lw_p71, List.forall_mem_cons.mpr ⟨lw_p72, List.forall_mem_cons.mpr ⟨lw_p73, List.forall_mem_cons.mpr ⟨lw_p74, List.forall_mem_cons.mpr ⟨lw_p75, List.forall_mem_cons.mpr ⟨lw_p76, List.forall_mem_cons.mpr ⟨lw_p77, List.forall_mem_cons.mpr ⟨lw_p78, List.forall_mem_cons.mpr ⟨lw_p79, fun _ h => absurd h List.not_mem_nil⟩⟩⟩⟩⟩⟩⟩⟩⟩⟩⟩⟩⟩⟩⟩⟩
theorem lw_p80 : lw_okq (⟨"EndgameTableModel", "hasCaptured", "(I)Z"⟩, 32) := ⟨⟨by decide +kernel, by decide +kernel⟩, List.mem_of_getElem? (i := 901) (by decide +kernel), List.mem_of_getElem? (i := 1266) (by decide +kernel), List.mem_of_getElem? (i := 1267) (by decide +kernel)⟩
theorem lw_p81 : lw_okq (⟨"EndgameTableModel", "distanceOf", "(II)I"⟩, 32) := ⟨⟨by decide +kernel, by decide +kernel⟩, List.mem_of_getElem? (i := 901) (by decide +kernel), List.mem_of_getElem? (i := 1274) (by decide +kernel), List.mem_of_getElem? (i := 1275) (by decide +kernel)⟩
theorem lw_p82 : lw_okq (⟨"EndgameTableModel", "countDifferent", "()I"⟩, 32) := ⟨⟨by decide +kernel, by decide +kernel⟩, List.mem_of_getElem? (i := 901) (by decide +kernel), List.mem_of_getElem? (i := 1302) (by decide +kernel), List.mem_of_getElem? (i := 1303) (by decide +kernel)⟩
theorem lw_p83 : lw_okq (⟨"EndgameTableModel", "countSinceCapture", "()I"⟩, 32) := ⟨⟨by decide +kernel, by decide +kernel⟩, List.mem_of_getElem? (i := 901) (by decide +kernel), List.mem_of_getElem? (i := 1306) (by decide +kernel), List.mem_of_getElem? (i := 1307) (by decide +kernel)⟩
def lw_privs_6 : List (MethodName × Nat) := [(⟨"EndgameTableModel", "hasCaptured", "(I)Z"⟩, 32), (⟨"EndgameTableModel", "distanceOf", "(II)I"⟩, 32), (⟨"EndgameTableModel", "countDifferent", "()I"⟩, 32), (⟨"EndgameTableModel", "countSinceCapture", "()I"⟩, 32)]
theorem lw_r6 : ∀ q ∈ lw_privs_6, lw_okq q := List.forall_mem_cons.mpr ⟨lw_p80, List.forall_mem_cons.mpr ⟨lw_p81, List.forall_mem_cons.mpr ⟨lw_p82, List.forall_mem_cons.mpr ⟨lw_p83, fun _ h => absurd h List.not_mem_nil⟩⟩⟩⟩
def lw_privs : List (MethodName × Nat) := lw_privs_1 ++ (lw_privs_2 ++ (lw_privs_3 ++ (lw_privs_4 ++ (lw_privs_5 ++ (lw_privs_6)))))
def lw_tbl : List Cond := k2_sels lw_privs ++ tables_1
theorem lw_privs_ok : ∀ q ∈ lw_privs, lw_okq q := by
  show ∀ q ∈ lw_privs_1 ++ (lw_privs_2 ++ (lw_privs_3 ++ (lw_privs_4 ++ (lw_privs_5 ++ (lw_privs_6))))), lw_okq q
  exact List.forall_mem_append.mpr ⟨lw_r1, List.forall_mem_append.mpr ⟨lw_r2, List.forall_mem_append.mpr ⟨lw_r3, List.forall_mem_append.mpr ⟨lw_r4, List.forall_mem_append.mpr ⟨lw_r5, lw_r6⟩⟩⟩⟩⟩
-- ===== end of PART A; then your names; then what follows =====
end
section
def RX0 : String := "EndgameTable$Play"
def TX0 : u_T := fun k => match k with
  | 0 => ("EndgameTable$Play", "row", "[I", true)
  | _ => ("EndgameTable$Play", "length", "I", false)
def tyX0 : Nat → FieldType := fun k => match k with
  | 0 => .array .int
  | _ => .int
theorem nmX0 : ∀ a, a < 2 → ∀ b, b < 2 → a ≠ b → (TX0 a).2.1 ≠ (TX0 b).2.1 := by decide +kernel
theorem tyX0_ok : ∀ k, k < 2 → parseFieldDescriptor (TX0 k).2.2.1 = some (tyX0 k) := by decide +kernel
abbrev cX0_init : ByteArray := prog_2_method_1_code
def yX0_init : MethodName := ⟨RX0, "<init>", "()V"⟩
abbrev cX0_clear : ByteArray := prog_2_method_2_code
def yX0_clear : MethodName := ⟨RX0, "clear", "()V"⟩
abbrev cX0_begin : ByteArray := prog_2_method_3_code
def yX0_begin : MethodName := ⟨RX0, "begin", "(I)V"⟩
abbrev cX0_add : ByteArray := prog_2_method_4_code
def yX0_add : MethodName := ⟨RX0, "add", "(I)V"⟩
abbrev cX0_removeLast : ByteArray := prog_2_method_5_code
def yX0_removeLast : MethodName := ⟨RX0, "removeLast", "()V"⟩
abbrev cX0_copy : ByteArray := prog_2_method_6_code
def yX0_copy : MethodName := ⟨RX0, "copy", "(LEndgameTable$Play;)V"⟩
abbrev cX0_hasPosition : ByteArray := prog_2_method_7_code
def yX0_hasPosition : MethodName := ⟨RX0, "hasPosition", "()Z"⟩
abbrev cX0_made : ByteArray := prog_2_method_8_code
def yX0_made : MethodName := ⟨RX0, "made", "()I"⟩
abbrev cX0_at : ByteArray := prog_2_method_9_code
def yX0_at : MethodName := ⟨RX0, "at", "(I)I"⟩
abbrev cX0_present : ByteArray := prog_2_method_10_code
def yX0_present : MethodName := ⟨RX0, "present", "()I"⟩
abbrev cX0_occurrences : ByteArray := prog_2_method_11_code
def yX0_occurrences : MethodName := ⟨RX0, "occurrences", "()I"⟩
abbrev cX0_occurrencesUpTo : ByteArray := prog_2_method_12_code
def yX0_occurrencesUpTo : MethodName := ⟨RX0, "occurrencesUpTo", "(I)I"⟩
abbrev cX0_different : ByteArray := prog_2_method_13_code
def yX0_different : MethodName := ⟨RX0, "different", "()I"⟩
def RX1 : String := "EndgameTable$Position"
def TX1 : u_T := fun k => match k with
  | 0 => ("EndgameTable$Position", "rules", "LEndgameTable$Rules;", true)
  | 1 => ("EndgameTable$Position", "reach", "LEndgameTable$Reach;", true)
  | 2 => ("EndgameTable$Position", "places", "[I", true)
  | 3 => ("EndgameTable$Position", "side", "I", false)
  | _ => ("EndgameTable$Position", "occupied", "I", false)
def tyX1 : Nat → FieldType := fun k => match k with
  | 0 => .object "EndgameTable$Rules"
  | 1 => .object "EndgameTable$Reach"
  | 2 => .array .int
  | 3 => .int
  | _ => .int
theorem nmX1 : ∀ a, a < 5 → ∀ b, b < 5 → a ≠ b → (TX1 a).2.1 ≠ (TX1 b).2.1 := by decide +kernel
theorem tyX1_ok : ∀ k, k < 5 → parseFieldDescriptor (TX1 k).2.2.1 = some (tyX1 k) := by decide +kernel
abbrev cX1_init : ByteArray := prog_3_method_1_code
def yX1_init : MethodName := ⟨RX1, "<init>", "(LEndgameTable$Rules;)V"⟩
abbrev cX1_read : ByteArray := prog_3_method_2_code
def yX1_read : MethodName := ⟨RX1, "read", "(I)V"⟩
abbrev cX1_placeOf : ByteArray := prog_3_method_3_code
def yX1_placeOf : MethodName := ⟨RX1, "placeOf", "(I)I"⟩
abbrev cX1_isOnBoard : ByteArray := prog_3_method_4_code
def yX1_isOnBoard : MethodName := ⟨RX1, "isOnBoard", "(I)Z"⟩
abbrev cX1_missing : ByteArray := prog_3_method_5_code
def yX1_missing : MethodName := ⟨RX1, "missing", "()I"⟩
abbrev cX1_isPossible : ByteArray := prog_3_method_6_code
def yX1_isPossible : MethodName := ⟨RX1, "isPossible", "()Z"⟩
abbrev cX1_isAttacked : ByteArray := prog_3_method_7_code
def yX1_isAttacked : MethodName := ⟨RX1, "isAttacked", "(I)Z"⟩
abbrev cX1_manOn : ByteArray := prog_3_method_8_code
def yX1_manOn : MethodName := ⟨RX1, "manOn", "(I)I"⟩
abbrev cX1_after : ByteArray := prog_3_method_9_code
def yX1_after : MethodName := ⟨RX1, "after", "(II)I"⟩
abbrev cX1_put : ByteArray := prog_3_method_10_code
def yX1_put : MethodName := ⟨RX1, "put", "(II)V"⟩
def RX2 : String := "EndgameTable$Reach"
def TX2 : u_T := fun k => match k with
  | 0 => ("EndgameTable$Reach", "quiet", "[I", true)
  | _ => ("EndgameTable$Reach", "strike", "[I", true)
def tyX2 : Nat → FieldType := fun k => match k with
  | 0 => .array .int
  | _ => .array .int
theorem nmX2 : ∀ a, a < 2 → ∀ b, b < 2 → a ≠ b → (TX2 a).2.1 ≠ (TX2 b).2.1 := by decide +kernel
theorem tyX2_ok : ∀ k, k < 2 → parseFieldDescriptor (TX2 k).2.2.1 = some (tyX2 k) := by decide +kernel
abbrev cX2_init : ByteArray := prog_4_method_1_code
def yX2_init : MethodName := ⟨RX2, "<init>", "(LEndgameTable$Rules;)V"⟩
abbrev cX2_wayOf : ByteArray := prog_4_method_2_code
def yX2_wayOf : MethodName := ⟨RX2, "wayOf", "(IIIZ)I"⟩
abbrev cX2_way : ByteArray := prog_4_method_3_code
def yX2_way : MethodName := ⟨RX2, "way", "(LEndgameTable$Rules;IIIZ)I"⟩
abbrev cX2_isStep : ByteArray := prog_4_method_4_code
def yX2_isStep : MethodName := ⟨RX2, "isStep", "(III)Z"⟩
abbrev cX2_isRide : ByteArray := prog_4_method_5_code
def yX2_isRide : MethodName := ⟨RX2, "isRide", "(III)Z"⟩
abbrev cX2_between : ByteArray := prog_4_method_6_code
def yX2_between : MethodName := ⟨RX2, "between", "(LEndgameTable$Rules;III)I"⟩
abbrev cX2_direction : ByteArray := prog_4_method_7_code
def yX2_direction : MethodName := ⟨RX2, "direction", "(I)I"⟩
def RX3 : String := "EndgameTable$Reader"
def TX3 : u_T := fun k => match k with
  | 0 => ("EndgameTable$Reader", "tape", "[I", true)
  | 1 => ("EndgameTable$Reader", "length", "I", true)
  | 2 => ("EndgameTable$Reader", "at", "I", false)
  | 3 => ("EndgameTable$Reader", "width", "I", false)
  | 4 => ("EndgameTable$Reader", "height", "I", false)
  | 5 => ("EndgameTable$Reader", "men", "I", false)
  | 6 => ("EndgameTable$Reader", "whites", "I", false)
  | 7 => ("EndgameTable$Reader", "holes", "I", false)
  | 8 => ("EndgameTable$Reader", "stalemate", "I", false)
  | 9 => ("EndgameTable$Reader", "limit", "I", false)
  | _ => ("EndgameTable$Reader", "kinds", "[I", true)
def tyX3 : Nat → FieldType := fun k => match k with
  | 0 => .array .int
  | 1 => .int
  | 2 => .int
  | 3 => .int
  | 4 => .int
  | 5 => .int
  | 6 => .int
  | 7 => .int
  | 8 => .int
  | 9 => .int
  | _ => .array .int
theorem nmX3 : ∀ a, a < 11 → ∀ b, b < 11 → a ≠ b → (TX3 a).2.1 ≠ (TX3 b).2.1 := by decide +kernel
theorem tyX3_ok : ∀ k, k < 11 → parseFieldDescriptor (TX3 k).2.2.1 = some (tyX3 k) := by decide +kernel
abbrev cX3_init : ByteArray := prog_5_method_1_code
def yX3_init : MethodName := ⟨RX3, "<init>", "([II)V"⟩
abbrev cX3_isGame : ByteArray := prog_5_method_2_code
def yX3_isGame : MethodName := ⟨RX3, "isGame", "()Z"⟩
abbrev cX3_ahead : ByteArray := prog_5_method_3_code
def yX3_ahead : MethodName := ⟨RX3, "ahead", "()I"⟩
abbrev cX3_take : ByteArray := prog_5_method_4_code
def yX3_take : MethodName := ⟨RX3, "take", "(C)Z"⟩
abbrev cX3_digitAhead : ByteArray := prog_5_method_5_code
def yX3_digitAhead : MethodName := ⟨RX3, "digitAhead", "()I"⟩
abbrev cX3_readSize : ByteArray := prog_5_method_6_code
def yX3_readSize : MethodName := ⟨RX3, "readSize", "()Z"⟩
abbrev cX3_readMen : ByteArray := prog_5_method_7_code
def yX3_readMen : MethodName := ⟨RX3, "readMen", "()Z"⟩
abbrev cX3_kindAhead : ByteArray := prog_5_method_8_code
def yX3_kindAhead : MethodName := ⟨RX3, "kindAhead", "()I"⟩
abbrev cX3_readMan : ByteArray := prog_5_method_9_code
def yX3_readMan : MethodName := ⟨RX3, "readMan", "()Z"⟩
abbrev cX3_readClause : ByteArray := prog_5_method_10_code
def yX3_readClause : MethodName := ⟨RX3, "readClause", "()Z"⟩
abbrev cX3_readLimit : ByteArray := prog_5_method_11_code
def yX3_readLimit : MethodName := ⟨RX3, "readLimit", "()Z"⟩
abbrev cX3_readHoles : ByteArray := prog_5_method_12_code
def yX3_readHoles : MethodName := ⟨RX3, "readHoles", "()Z"⟩
abbrev cX3_readNumber : ByteArray := prog_5_method_13_code
def yX3_readNumber : MethodName := ⟨RX3, "readNumber", "()I"⟩
def RX4 : String := "EndgameTable$Rules"
def TX4 : u_T := fun k => match k with
  | 0 => ("EndgameTable$Rules", "width", "I", true)
  | 1 => ("EndgameTable$Rules", "height", "I", true)
  | 2 => ("EndgameTable$Rules", "squares", "I", true)
  | 3 => ("EndgameTable$Rules", "holes", "I", true)
  | 4 => ("EndgameTable$Rules", "ground", "I", true)
  | 5 => ("EndgameTable$Rules", "men", "I", true)
  | 6 => ("EndgameTable$Rules", "whites", "I", true)
  | 7 => ("EndgameTable$Rules", "stalemate", "I", true)
  | 8 => ("EndgameTable$Rules", "limit", "I", true)
  | 9 => ("EndgameTable$Rules", "base", "I", true)
  | 10 => ("EndgameTable$Rules", "indices", "I", true)
  | 11 => ("EndgameTable$Rules", "kinds", "[I", true)
  | _ => ("EndgameTable$Rules", "weights", "[I", true)
def tyX4 : Nat → FieldType := fun k => match k with
  | 0 => .int
  | 1 => .int
  | 2 => .int
  | 3 => .int
  | 4 => .int
  | 5 => .int
  | 6 => .int
  | 7 => .int
  | 8 => .int
  | 9 => .int
  | 10 => .int
  | 11 => .array .int
  | _ => .array .int
theorem nmX4 : ∀ a, a < 13 → ∀ b, b < 13 → a ≠ b → (TX4 a).2.1 ≠ (TX4 b).2.1 := by decide +kernel
theorem tyX4_ok : ∀ k, k < 13 → parseFieldDescriptor (TX4 k).2.2.1 = some (tyX4 k) := by decide +kernel
abbrev cX4_init : ByteArray := prog_6_method_1_code
def yX4_init : MethodName := ⟨RX4, "<init>", "(LEndgameTable$Reader;)V"⟩
abbrev cX4_isMan : ByteArray := prog_6_method_2_code
def yX4_isMan : MethodName := ⟨RX4, "isMan", "(I)Z"⟩
abbrev cX4_kindOf : ByteArray := prog_6_method_3_code
def yX4_kindOf : MethodName := ⟨RX4, "kindOf", "(I)I"⟩
abbrev cX4_sideOf : ByteArray := prog_6_method_4_code
def yX4_sideOf : MethodName := ⟨RX4, "sideOf", "(I)I"⟩
abbrev cX4_firstMan : ByteArray := prog_6_method_5_code
def yX4_firstMan : MethodName := ⟨RX4, "firstMan", "(I)I"⟩
abbrev cX4_endOfMen : ByteArray := prog_6_method_6_code
def yX4_endOfMen : MethodName := ⟨RX4, "endOfMen", "(I)I"⟩
abbrev cX4_canTell : ByteArray := prog_6_method_7_code
def yX4_canTell : MethodName := ⟨RX4, "canTell", "(II)Z"⟩
abbrev cX4_indexOf : ByteArray := prog_6_method_8_code
def yX4_indexOf : MethodName := ⟨RX4, "indexOf", "(IIII)I"⟩
abbrev cX4_weighed : ByteArray := prog_6_method_9_code
def yX4_weighed : MethodName := ⟨RX4, "weighed", "(II)I"⟩
abbrev cX4_squareOf : ByteArray := prog_6_method_10_code
def yX4_squareOf : MethodName := ⟨RX4, "squareOf", "(II)I"⟩
abbrev cX4_changedMan : ByteArray := prog_6_method_11_code
def yX4_changedMan : MethodName := ⟨RX4, "changedMan", "(III)I"⟩
abbrev cX4_hasPawns : ByteArray := prog_6_method_12_code
def yX4_hasPawns : MethodName := ⟨RX4, "hasPawns", "()Z"⟩
def RX5 : String := "EndgameTable$Symmetry"
def TX5 : u_T := fun k => match k with
  | 0 => ("EndgameTable$Symmetry", "rules", "LEndgameTable$Rules;", true)
  | 1 => ("EndgameTable$Symmetry", "mapped", "[I", true)
  | _ => ("EndgameTable$Symmetry", "maps", "I", false)
def tyX5 : Nat → FieldType := fun k => match k with
  | 0 => .object "EndgameTable$Rules"
  | 1 => .array .int
  | _ => .int
theorem nmX5 : ∀ a, a < 3 → ∀ b, b < 3 → a ≠ b → (TX5 a).2.1 ≠ (TX5 b).2.1 := by decide +kernel
theorem tyX5_ok : ∀ k, k < 3 → parseFieldDescriptor (TX5 k).2.2.1 = some (tyX5 k) := by decide +kernel
abbrev cX5_init : ByteArray := prog_7_method_1_code
def yX5_init : MethodName := ⟨RX5, "<init>", "(LEndgameTable$Rules;)V"⟩
abbrev cX5_writeMap : ByteArray := prog_7_method_2_code
def yX5_writeMap : MethodName := ⟨RX5, "writeMap", "(LEndgameTable$Rules;I[II)Z"⟩
abbrev cX5_imageOf : ByteArray := prog_7_method_3_code
def yX5_imageOf : MethodName := ⟨RX5, "imageOf", "(II)I"⟩
abbrev cX5_leastImage : ByteArray := prog_7_method_4_code
def yX5_leastImage : MethodName := ⟨RX5, "leastImage", "(I)I"⟩
abbrev cX5_isRepeated : ByteArray := prog_7_method_5_code
def yX5_isRepeated : MethodName := ⟨RX5, "isRepeated", "(II)Z"⟩
abbrev cX5_differentImages : ByteArray := prog_7_method_6_code
def yX5_differentImages : MethodName := ⟨RX5, "differentImages", "(I)I"⟩
def RX6 : String := "EndgameTable$Table"
def TX6 : u_T := fun k => match k with
  | 0 => ("EndgameTable$Table", "canonical", "[I", true)
  | 1 => ("EndgameTable$Table", "taken", "[I", true)
  | 2 => ("EndgameTable$Table", "values", "[I", true)
  | 3 => ("EndgameTable$Table", "toEnd", "[I", true)
  | 4 => ("EndgameTable$Table", "toConversion", "[I", true)
  | 5 => ("EndgameTable$Table", "stepsFrom", "[I", true)
  | 6 => ("EndgameTable$Table", "steps", "[I", true)
  | 7 => ("EndgameTable$Table", "followed", "[I", true)
  | 8 => ("EndgameTable$Table", "rules", "LEndgameTable$Rules;", false)
  | 9 => ("EndgameTable$Table", "symmetry", "LEndgameTable$Symmetry;", false)
  | 10 => ("EndgameTable$Table", "spot", "LEndgameTable$Position;", false)
  | 11 => ("EndgameTable$Table", "possible", "I", false)
  | 12 => ("EndgameTable$Table", "indices", "I", false)
  | _ => ("EndgameTable$Table", "written", "I", false)
def tyX6 : Nat → FieldType := fun k => match k with
  | 0 => .array .int
  | 1 => .array .int
  | 2 => .array .int
  | 3 => .array .int
  | 4 => .array .int
  | 5 => .array .int
  | 6 => .array .int
  | 7 => .array .int
  | 8 => .object "EndgameTable$Rules"
  | 9 => .object "EndgameTable$Symmetry"
  | 10 => .object "EndgameTable$Position"
  | 11 => .int
  | 12 => .int
  | _ => .int
theorem nmX6 : ∀ a, a < 14 → ∀ b, b < 14 → a ≠ b → (TX6 a).2.1 ≠ (TX6 b).2.1 := by decide +kernel
theorem tyX6_ok : ∀ k, k < 14 → parseFieldDescriptor (TX6 k).2.2.1 = some (tyX6 k) := by decide +kernel
abbrev cX6_init : ByteArray := prog_8_method_1_code
def yX6_init : MethodName := ⟨RX6, "<init>", "()V"⟩
abbrev cX6_build : ByteArray := prog_8_method_2_code
def yX6_build : MethodName := ⟨RX6, "build", "(LEndgameTable$Rules;)V"⟩
abbrev cX6_findPositions : ByteArray := prog_8_method_3_code
def yX6_findPositions : MethodName := ⟨RX6, "findPositions", "()V"⟩
abbrev cX6_findSteps : ByteArray := prog_8_method_4_code
def yX6_findSteps : MethodName := ⟨RX6, "findSteps", "()V"⟩
abbrev cX6_writeSteps : ByteArray := prog_8_method_5_code
def yX6_writeSteps : MethodName := ⟨RX6, "writeSteps", "(I)V"⟩
abbrev cX6_findEnds : ByteArray := prog_8_method_6_code
def yX6_findEnds : MethodName := ⟨RX6, "findEnds", "()V"⟩
abbrev cX6_endValue : ByteArray := prog_8_method_7_code
def yX6_endValue : MethodName := ⟨RX6, "endValue", "(I)I"⟩
abbrev cX6_findValues : ByteArray := prog_8_method_8_code
def yX6_findValues : MethodName := ⟨RX6, "findValues", "(I)Z"⟩
abbrev cX6_valueFromSteps : ByteArray := prog_8_method_9_code
def yX6_valueFromSteps : MethodName := ⟨RX6, "valueFromSteps", "(II)I"⟩
abbrev cX6_findConversions : ByteArray := prog_8_method_10_code
def yX6_findConversions : MethodName := ⟨RX6, "findConversions", "(I)Z"⟩
abbrev cX6_isConverted : ByteArray := prog_8_method_11_code
def yX6_isConverted : MethodName := ⟨RX6, "isConverted", "(II)Z"⟩
abbrev cX6_shareWithImages : ByteArray := prog_8_method_12_code
def yX6_shareWithImages : MethodName := ⟨RX6, "shareWithImages", "()V"⟩
abbrev cX6_isIndex : ByteArray := prog_8_method_13_code
def yX6_isIndex : MethodName := ⟨RX6, "isIndex", "(I)Z"⟩
abbrev cX6_isPossible : ByteArray := prog_8_method_14_code
def yX6_isPossible : MethodName := ⟨RX6, "isPossible", "(I)Z"⟩
abbrev cX6_canonicalOf : ByteArray := prog_8_method_15_code
def yX6_canonicalOf : MethodName := ⟨RX6, "canonicalOf", "(I)I"⟩
abbrev cX6_valueOf : ByteArray := prog_8_method_16_code
def yX6_valueOf : MethodName := ⟨RX6, "valueOf", "(I)I"⟩
abbrev cX6_toEndOf : ByteArray := prog_8_method_17_code
def yX6_toEndOf : MethodName := ⟨RX6, "toEndOf", "(I)I"⟩
abbrev cX6_toConversionOf : ByteArray := prog_8_method_18_code
def yX6_toConversionOf : MethodName := ⟨RX6, "toConversionOf", "(I)I"⟩
abbrev cX6_distanceOf : ByteArray := prog_8_method_19_code
def yX6_distanceOf : MethodName := ⟨RX6, "distanceOf", "(II)I"⟩
abbrev cX6_verdictOf : ByteArray := prog_8_method_20_code
def yX6_verdictOf : MethodName := ⟨RX6, "verdictOf", "(I)I"⟩
abbrev cX6_isRoyalAttacked : ByteArray := prog_8_method_21_code
def yX6_isRoyalAttacked : MethodName := ⟨RX6, "isRoyalAttacked", "(I)Z"⟩
abbrev cX6_stepsOf : ByteArray := prog_8_method_22_code
def yX6_stepsOf : MethodName := ⟨RX6, "stepsOf", "(I)I"⟩
abbrev cX6_isEnd : ByteArray := prog_8_method_23_code
def yX6_isEnd : MethodName := ⟨RX6, "isEnd", "(I)Z"⟩
abbrev cX6_stepOf : ByteArray := prog_8_method_24_code
def yX6_stepOf : MethodName := ⟨RX6, "stepOf", "(II)I"⟩
abbrev cX6_captures : ByteArray := prog_8_method_25_code
def yX6_captures : MethodName := ⟨RX6, "captures", "(II)Z"⟩
abbrev cX6_bestStep : ByteArray := prog_8_method_26_code
def yX6_bestStep : MethodName := ⟨RX6, "bestStep", "(I)I"⟩
abbrev cX6_followBest : ByteArray := prog_8_method_27_code
def yX6_followBest : MethodName := ⟨RX6, "followBest", "(I)I"⟩
abbrev cX6_isFollowed : ByteArray := prog_8_method_28_code
def yX6_isFollowed : MethodName := ⟨RX6, "isFollowed", "(II)Z"⟩
abbrev cX6_followed : ByteArray := prog_8_method_29_code
def yX6_followed : MethodName := ⟨RX6, "followed", "(I)I"⟩
abbrev cX6_searched : ByteArray := prog_8_method_30_code
def yX6_searched : MethodName := ⟨RX6, "searched", "(LEndgameTable$Table;II)I"⟩
abbrev cX6_numberWithValue : ByteArray := prog_8_method_31_code
def yX6_numberWithValue : MethodName := ⟨RX6, "numberWithValue", "(III)I"⟩
abbrev cX6_numberWithDistance : ByteArray := prog_8_method_32_code
def yX6_numberWithDistance : MethodName := ⟨RX6, "numberWithDistance", "(III)I"⟩
abbrev cX6_mostDistant : ByteArray := prog_8_method_33_code
def yX6_mostDistant : MethodName := ⟨RX6, "mostDistant", "(I)I"⟩
abbrev cX6_isMutualZugzwang : ByteArray := prog_8_method_34_code
def yX6_isMutualZugzwang : MethodName := ⟨RX6, "isMutualZugzwang", "(I)Z"⟩
abbrev cX6_mutualZugzwangs : ByteArray := prog_8_method_35_code
def yX6_mutualZugzwangs : MethodName := ⟨RX6, "mutualZugzwangs", "()I"⟩
abbrev cX6_mutualZugzwang : ByteArray := prog_8_method_36_code
def yX6_mutualZugzwang : MethodName := ⟨RX6, "mutualZugzwang", "(I)I"⟩
abbrev cX6_unlikeImages : ByteArray := prog_8_method_37_code
def yX6_unlikeImages : MethodName := ⟨RX6, "unlikeImages", "(I)I"⟩
def RX7 : String := "EndgameTable"
def TX7 : u_T := fun k => match k with
  | 0 => ("EndgameTable", "tape", "[I", true)
  | 1 => ("EndgameTable", "fed", "I", false)
  | 2 => ("EndgameTable", "first", "LEndgameTable$Table;", false)
  | 3 => ("EndgameTable", "second", "LEndgameTable$Table;", false)
  | 4 => ("EndgameTable", "table", "LEndgameTable$Table;", false)
  | 5 => ("EndgameTable", "keptTable", "LEndgameTable$Table;", false)
  | 6 => ("EndgameTable", "play", "LEndgameTable$Play;", true)
  | 7 => ("EndgameTable", "keptPlay", "LEndgameTable$Play;", true)
  | _ => ("EndgameTable", "kept", "Z", false)
def tyX7 : Nat → FieldType := fun k => match k with
  | 0 => .array .int
  | 1 => .int
  | 2 => .object "EndgameTable$Table"
  | 3 => .object "EndgameTable$Table"
  | 4 => .object "EndgameTable$Table"
  | 5 => .object "EndgameTable$Table"
  | 6 => .object "EndgameTable$Play"
  | 7 => .object "EndgameTable$Play"
  | _ => .boolean
theorem nmX7 : ∀ a, a < 9 → ∀ b, b < 9 → a ≠ b → (TX7 a).2.1 ≠ (TX7 b).2.1 := by decide +kernel
theorem tyX7_ok : ∀ k, k < 9 → parseFieldDescriptor (TX7 k).2.2.1 = some (tyX7 k) := by decide +kernel
abbrev cX7_init : ByteArray := prog_1_method_1_code
def yX7_init : MethodName := ⟨RX7, "<init>", "()V"⟩
abbrev cX7_feed : ByteArray := prog_1_method_2_code
def yX7_feed : MethodName := ⟨RX7, "feed", "(IIIIII)I"⟩
abbrev cX7_define : ByteArray := prog_1_method_3_code
def yX7_define : MethodName := ⟨RX7, "define", "()I"⟩
abbrev cX7_game : ByteArray := prog_1_method_4_code
def yX7_game : MethodName := ⟨RX7, "game", "(I)I"⟩
abbrev cX7_setup : ByteArray := prog_1_method_5_code
def yX7_setup : MethodName := ⟨RX7, "setup", "(IIII)I"⟩
abbrev cX7_load : ByteArray := prog_1_method_6_code
def yX7_load : MethodName := ⟨RX7, "load", "(I)I"⟩
abbrev cX7_board : ByteArray := prog_1_method_7_code
def yX7_board : MethodName := ⟨RX7, "board", "(I)I"⟩
abbrev cX7_move : ByteArray := prog_1_method_8_code
def yX7_move : MethodName := ⟨RX7, "move", "(II)I"⟩
abbrev cX7_make : ByteArray := prog_1_method_9_code
def yX7_make : MethodName := ⟨RX7, "make", "(I)I"⟩
abbrev cX7_back : ByteArray := prog_1_method_10_code
def yX7_back : MethodName := ⟨RX7, "back", "()I"⟩
abbrev cX7_best : ByteArray := prog_1_method_11_code
def yX7_best : MethodName := ⟨RX7, "best", "()I"⟩
abbrev cX7_line : ByteArray := prog_1_method_12_code
def yX7_line : MethodName := ⟨RX7, "line", "(I)I"⟩
abbrev cX7_search : ByteArray := prog_1_method_13_code
def yX7_search : MethodName := ⟨RX7, "search", "(I)I"⟩
abbrev cX7_positions : ByteArray := prog_1_method_14_code
def yX7_positions : MethodName := ⟨RX7, "positions", "(III)I"⟩
abbrev cX7_spread : ByteArray := prog_1_method_15_code
def yX7_spread : MethodName := ⟨RX7, "spread", "(III)I"⟩
abbrev cX7_longest : ByteArray := prog_1_method_16_code
def yX7_longest : MethodName := ⟨RX7, "longest", "(II)I"⟩
abbrev cX7_zugzwang : ByteArray := prog_1_method_17_code
def yX7_zugzwang : MethodName := ⟨RX7, "zugzwang", "(I)I"⟩
abbrev cX7_unlike : ByteArray := prog_1_method_18_code
def yX7_unlike : MethodName := ⟨RX7, "unlike", "()I"⟩
abbrev cX7_image : ByteArray := prog_1_method_19_code
def yX7_image : MethodName := ⟨RX7, "image", "()I"⟩
abbrev cX7_undo : ByteArray := prog_1_method_20_code
def yX7_undo : MethodName := ⟨RX7, "undo", "()I"⟩
abbrev cX7_count : ByteArray := prog_1_method_21_code
def yX7_count : MethodName := ⟨RX7, "count", "(I)I"⟩
abbrev cX7_isByte : ByteArray := prog_1_method_22_code
def yX7_isByte : MethodName := ⟨RX7, "isByte", "(I)Z"⟩
abbrev cX7_append : ByteArray := prog_1_method_23_code
def yX7_append : MethodName := ⟨RX7, "append", "(I)V"⟩
abbrev cX7_freeTable : ByteArray := prog_1_method_24_code
def yX7_freeTable : MethodName := ⟨RX7, "freeTable", "()LEndgameTable$Table;"⟩
abbrev cX7_isPlaying : ByteArray := prog_1_method_25_code
def yX7_isPlaying : MethodName := ⟨RX7, "isPlaying", "()Z"⟩
abbrev cX7_manOnBoard : ByteArray := prog_1_method_26_code
def yX7_manOnBoard : MethodName := ⟨RX7, "manOnBoard", "(II)I"⟩
abbrev cX7_capturedMan : ByteArray := prog_1_method_27_code
def yX7_capturedMan : MethodName := ⟨RX7, "capturedMan", "(II)I"⟩
abbrev cX7_movesSinceCapture : ByteArray := prog_1_method_28_code
def yX7_movesSinceCapture : MethodName := ⟨RX7, "movesSinceCapture", "()I"⟩
def RX8 : String := "EndgameTableModel"
def TX8 : u_T := fun k => match k with
  | 0 => ("EndgameTableModel", "tape", "[I", true)
  | 1 => ("EndgameTableModel", "length", "I", false)
  | 2 => ("EndgameTableModel", "at", "I", false)
  | 3 => ("EndgameTableModel", "isWrong", "Z", false)
  | 4 => ("EndgameTableModel", "game", "[I", true)
  | 5 => ("EndgameTableModel", "read", "[I", true)
  | 6 => ("EndgameTableModel", "keptGame", "[I", true)
  | 7 => ("EndgameTableModel", "hasGame", "Z", false)
  | 8 => ("EndgameTableModel", "on", "[[I", true)
  | 9 => ("EndgameTableModel", "moveCount", "[I", true)
  | 10 => ("EndgameTableModel", "moveMan", "[[I", true)
  | 11 => ("EndgameTableModel", "moveTo", "[[I", true)
  | 12 => ("EndgameTableModel", "moveTaken", "[[I", true)
  | 13 => ("EndgameTableModel", "moveIndex", "[[I", true)
  | 14 => ("EndgameTableModel", "isThere", "[Z", true)
  | 15 => ("EndgameTableModel", "isDecided", "[Z", true)
  | 16 => ("EndgameTableModel", "isConverted", "[Z", true)
  | 17 => ("EndgameTableModel", "value", "[I", true)
  | 18 => ("EndgameTableModel", "toEnd", "[I", true)
  | 19 => ("EndgameTableModel", "toConversion", "[I", true)
  | 20 => ("EndgameTableModel", "indices", "I", false)
  | 21 => ("EndgameTableModel", "plain", "[I", true)
  | 22 => ("EndgameTableModel", "image", "[I", true)
  | 23 => ("EndgameTableModel", "played", "I", false)
  | 24 => ("EndgameTableModel", "keptPlayed", "I", false)
  | 25 => ("EndgameTableModel", "positions", "[I", true)
  | 26 => ("EndgameTableModel", "keptPositions", "[I", true)
  | 27 => ("EndgameTableModel", "captured", "[Z", true)
  | 28 => ("EndgameTableModel", "keptCaptured", "[Z", true)
  | 29 => ("EndgameTableModel", "best", "[I", true)
  | 30 => ("EndgameTableModel", "isKept", "Z", false)
  | _ => ("EndgameTableModel", "keptHas", "Z", false)
def tyX8 : Nat → FieldType := fun k => match k with
  | 0 => .array .int
  | 1 => .int
  | 2 => .int
  | 3 => .boolean
  | 4 => .array .int
  | 5 => .array .int
  | 6 => .array .int
  | 7 => .boolean
  | 8 => .array (.array .int)
  | 9 => .array .int
  | 10 => .array (.array .int)
  | 11 => .array (.array .int)
  | 12 => .array (.array .int)
  | 13 => .array (.array .int)
  | 14 => .array .boolean
  | 15 => .array .boolean
  | 16 => .array .boolean
  | 17 => .array .int
  | 18 => .array .int
  | 19 => .array .int
  | 20 => .int
  | 21 => .array .int
  | 22 => .array .int
  | 23 => .int
  | 24 => .int
  | 25 => .array .int
  | 26 => .array .int
  | 27 => .array .boolean
  | 28 => .array .boolean
  | 29 => .array .int
  | 30 => .boolean
  | _ => .boolean
theorem nmX8 : ∀ a, a < 32 → ∀ b, b < 32 → a ≠ b → (TX8 a).2.1 ≠ (TX8 b).2.1 := by decide +kernel
theorem tyX8_ok : ∀ k, k < 32 → parseFieldDescriptor (TX8 k).2.2.1 = some (tyX8 k) := by decide +kernel
abbrev cX8_init : ByteArray := prog_10_method_1_code
def yX8_init : MethodName := ⟨RX8, "<init>", "()V"⟩
abbrev cX8_isBetween : ByteArray := prog_10_method_2_code
def yX8_isBetween : MethodName := ⟨RX8, "isBetween", "(III)Z"⟩
abbrev cX8_has : ByteArray := prog_10_method_3_code
def yX8_has : MethodName := ⟨RX8, "has", "(II)Z"⟩
abbrev cX8_isByte : ByteArray := prog_10_method_4_code
def yX8_isByte : MethodName := ⟨RX8, "isByte", "(I)Z"⟩
abbrev cX8_feed : ByteArray := prog_10_method_5_code
def yX8_feed : MethodName := ⟨RX8, "feed", "(IIIIII)I"⟩
abbrev cX8_squares : ByteArray := prog_10_method_6_code
def yX8_squares : MethodName := ⟨RX8, "squares", "()I"⟩
abbrev cX8_sees : ByteArray := prog_10_method_7_code
def yX8_sees : MethodName := ⟨RX8, "sees", "(II)Z"⟩
abbrev cX8_passes : ByteArray := prog_10_method_8_code
def yX8_passes : MethodName := ⟨RX8, "passes", "(I)Z"⟩
abbrev cX8_passDigit : ByteArray := prog_10_method_9_code
def yX8_passDigit : MethodName := ⟨RX8, "passDigit", "(II)I"⟩
abbrev cX8_letterHere : ByteArray := prog_10_method_10_code
def yX8_letterHere : MethodName := ⟨RX8, "letterHere", "()I"⟩
abbrev cX8_passMen : ByteArray := prog_10_method_11_code
def yX8_passMen : MethodName := ⟨RX8, "passMen", "()V"⟩
abbrev cX8_passNumber : ByteArray := prog_10_method_12_code
def yX8_passNumber : MethodName := ⟨RX8, "passNumber", "()I"⟩
abbrev cX8_passSquare : ByteArray := prog_10_method_13_code
def yX8_passSquare : MethodName := ⟨RX8, "passSquare", "()V"⟩
abbrev cX8_passClause : ByteArray := prog_10_method_14_code
def yX8_passClause : MethodName := ⟨RX8, "passClause", "()V"⟩
abbrev cX8_passGame : ByteArray := prog_10_method_15_code
def yX8_passGame : MethodName := ⟨RX8, "passGame", "()V"⟩
abbrev cX8_countBits : ByteArray := prog_10_method_16_code
def yX8_countBits : MethodName := ⟨RX8, "countBits", "(I)I"⟩
abbrev cX8_copy : ByteArray := prog_10_method_17_code
def yX8_copy : MethodName := ⟨RX8, "copy", "([I[I)V"⟩
abbrev cX8_define : ByteArray := prog_10_method_18_code
def yX8_define : MethodName := ⟨RX8, "define", "()I"⟩
abbrev cX8_isWhite : ByteArray := prog_10_method_19_code
def yX8_isWhite : MethodName := ⟨RX8, "isWhite", "(I)Z"⟩
abbrev cX8_isOf : ByteArray := prog_10_method_20_code
def yX8_isOf : MethodName := ⟨RX8, "isOf", "(II)Z"⟩
abbrev cX8_royal : ByteArray := prog_10_method_21_code
def yX8_royal : MethodName := ⟨RX8, "royal", "(I)I"⟩
abbrev cX8_indexOf : ByteArray := prog_10_method_22_code
def yX8_indexOf : MethodName := ⟨RX8, "indexOf", "([II)I"⟩
abbrev cX8_decode : ByteArray := prog_10_method_23_code
def yX8_decode : MethodName := ⟨RX8, "decode", "(I[I)V"⟩
abbrev cX8_occupied : ByteArray := prog_10_method_24_code
def yX8_occupied : MethodName := ⟨RX8, "occupied", "([I)I"⟩
abbrev cX8_size : ByteArray := prog_10_method_25_code
def yX8_size : MethodName := ⟨RX8, "size", "(I)I"⟩
abbrev cX8_sign : ByteArray := prog_10_method_26_code
def yX8_sign : MethodName := ⟨RX8, "sign", "(I)I"⟩
abbrev cX8_isClear : ByteArray := prog_10_method_27_code
def yX8_isClear : MethodName := ⟨RX8, "isClear", "(III)Z"⟩
abbrev cX8_reaches : ByteArray := prog_10_method_28_code
def yX8_reaches : MethodName := ⟨RX8, "reaches", "(IIIIZ)Z"⟩
abbrev cX8_isAttacked : ByteArray := prog_10_method_29_code
def yX8_isAttacked : MethodName := ⟨RX8, "isAttacked", "([III)Z"⟩
abbrev cX8_isInCheck : ByteArray := prog_10_method_30_code
def yX8_isInCheck : MethodName := ⟨RX8, "isInCheck", "([II)Z"⟩
abbrev cX8_isPossible : ByteArray := prog_10_method_31_code
def yX8_isPossible : MethodName := ⟨RX8, "isPossible", "([II)Z"⟩
abbrev cX8_manAt : ByteArray := prog_10_method_32_code
def yX8_manAt : MethodName := ⟨RX8, "manAt", "([II)I"⟩
abbrev cX8_tryMove : ByteArray := prog_10_method_33_code
def yX8_tryMove : MethodName := ⟨RX8, "tryMove", "(IIII)V"⟩
abbrev cX8_findMoves : ByteArray := prog_10_method_34_code
def yX8_findMoves : MethodName := ⟨RX8, "findMoves", "(II)V"⟩
abbrev cX8_isEnd : ByteArray := prog_10_method_35_code
def yX8_isEnd : MethodName := ⟨RX8, "isEnd", "(I)Z"⟩
abbrev cX8_endValue : ByteArray := prog_10_method_36_code
def yX8_endValue : MethodName := ⟨RX8, "endValue", "(II)I"⟩
abbrev cX8_build : ByteArray := prog_10_method_37_code
def yX8_build : MethodName := ⟨RX8, "build", "()V"⟩
abbrev cX8_decide : ByteArray := prog_10_method_38_code
def yX8_decide : MethodName := ⟨RX8, "decide", "(I)Z"⟩
abbrev cX8_convert : ByteArray := prog_10_method_39_code
def yX8_convert : MethodName := ⟨RX8, "convert", "(I)Z"⟩
abbrev cX8_verdict : ByteArray := prog_10_method_40_code
def yX8_verdict : MethodName := ⟨RX8, "verdict", "(I)I"⟩
abbrev cX8_hasPawns : ByteArray := prog_10_method_41_code
def yX8_hasPawns : MethodName := ⟨RX8, "hasPawns", "()Z"⟩
abbrev cX8_turned : ByteArray := prog_10_method_42_code
def yX8_turned : MethodName := ⟨RX8, "turned", "(II)I"⟩
abbrev cX8_isSymmetry : ByteArray := prog_10_method_43_code
def yX8_isSymmetry : MethodName := ⟨RX8, "isSymmetry", "(I)Z"⟩
abbrev cX8_countSymmetries : ByteArray := prog_10_method_44_code
def yX8_countSymmetries : MethodName := ⟨RX8, "countSymmetries", "()I"⟩
abbrev cX8_imageOf : ByteArray := prog_10_method_45_code
def yX8_imageOf : MethodName := ⟨RX8, "imageOf", "(II)I"⟩
abbrev cX8_canonical : ByteArray := prog_10_method_46_code
def yX8_canonical : MethodName := ⟨RX8, "canonical", "(I)I"⟩
abbrev cX8_countImages : ByteArray := prog_10_method_47_code
def yX8_countImages : MethodName := ⟨RX8, "countImages", "(I)I"⟩
abbrev cX8_countPossible : ByteArray := prog_10_method_48_code
def yX8_countPossible : MethodName := ⟨RX8, "countPossible", "()I"⟩
abbrev cX8_game : ByteArray := prog_10_method_49_code
def yX8_game : MethodName := ⟨RX8, "game", "(I)I"⟩
abbrev cX8_isPlaying : ByteArray := prog_10_method_50_code
def yX8_isPlaying : MethodName := ⟨RX8, "isPlaying", "()Z"⟩
abbrev cX8_here : ByteArray := prog_10_method_51_code
def yX8_here : MethodName := ⟨RX8, "here", "()I"⟩
abbrev cX8_begin : ByteArray := prog_10_method_52_code
def yX8_begin : MethodName := ⟨RX8, "begin", "(I)V"⟩
abbrev cX8_isPlace : ByteArray := prog_10_method_53_code
def yX8_isPlace : MethodName := ⟨RX8, "isPlace", "(II)Z"⟩
abbrev cX8_setup : ByteArray := prog_10_method_54_code
def yX8_setup : MethodName := ⟨RX8, "setup", "(IIII)I"⟩
abbrev cX8_load : ByteArray := prog_10_method_55_code
def yX8_load : MethodName := ⟨RX8, "load", "(I)I"⟩
abbrev cX8_board : ByteArray := prog_10_method_56_code
def yX8_board : MethodName := ⟨RX8, "board", "(I)I"⟩
abbrev cX8_move : ByteArray := prog_10_method_57_code
def yX8_move : MethodName := ⟨RX8, "move", "(II)I"⟩
abbrev cX8_occurrences : ByteArray := prog_10_method_58_code
def yX8_occurrences : MethodName := ⟨RX8, "occurrences", "()I"⟩
abbrev cX8_make : ByteArray := prog_10_method_59_code
def yX8_make : MethodName := ⟨RX8, "make", "(I)I"⟩
abbrev cX8_back : ByteArray := prog_10_method_60_code
def yX8_back : MethodName := ⟨RX8, "back", "()I"⟩
abbrev cX8_bestOf : ByteArray := prog_10_method_61_code
def yX8_bestOf : MethodName := ⟨RX8, "bestOf", "(I)I"⟩
abbrev cX8_best : ByteArray := prog_10_method_62_code
def yX8_best : MethodName := ⟨RX8, "best", "()I"⟩
abbrev cX8_findLine : ByteArray := prog_10_method_63_code
def yX8_findLine : MethodName := ⟨RX8, "findLine", "()I"⟩
abbrev cX8_line : ByteArray := prog_10_method_64_code
def yX8_line : MethodName := ⟨RX8, "line", "(I)I"⟩
abbrev cX8_searchFrom : ByteArray := prog_10_method_65_code
def yX8_searchFrom : MethodName := ⟨RX8, "searchFrom", "(II)I"⟩
abbrev cX8_search : ByteArray := prog_10_method_66_code
def yX8_search : MethodName := ⟨RX8, "search", "(I)I"⟩
abbrev cX8_hasCaptured : ByteArray := prog_10_method_67_code
def yX8_hasCaptured : MethodName := ⟨RX8, "hasCaptured", "(I)Z"⟩
abbrev cX8_positions : ByteArray := prog_10_method_68_code
def yX8_positions : MethodName := ⟨RX8, "positions", "(III)I"⟩
abbrev cX8_distanceOf : ByteArray := prog_10_method_69_code
def yX8_distanceOf : MethodName := ⟨RX8, "distanceOf", "(II)I"⟩
abbrev cX8_spread : ByteArray := prog_10_method_70_code
def yX8_spread : MethodName := ⟨RX8, "spread", "(III)I"⟩
abbrev cX8_longest : ByteArray := prog_10_method_71_code
def yX8_longest : MethodName := ⟨RX8, "longest", "(II)I"⟩
abbrev cX8_zugzwang : ByteArray := prog_10_method_72_code
def yX8_zugzwang : MethodName := ⟨RX8, "zugzwang", "(I)I"⟩
abbrev cX8_unlike : ByteArray := prog_10_method_73_code
def yX8_unlike : MethodName := ⟨RX8, "unlike", "()I"⟩
abbrev cX8_image : ByteArray := prog_10_method_74_code
def yX8_image : MethodName := ⟨RX8, "image", "()I"⟩
abbrev cX8_undo : ByteArray := prog_10_method_75_code
def yX8_undo : MethodName := ⟨RX8, "undo", "()I"⟩
abbrev cX8_countDifferent : ByteArray := prog_10_method_76_code
def yX8_countDifferent : MethodName := ⟨RX8, "countDifferent", "()I"⟩
abbrev cX8_countSinceCapture : ByteArray := prog_10_method_77_code
def yX8_countSinceCapture : MethodName := ⟨RX8, "countSinceCapture", "()I"⟩
abbrev cX8_count : ByteArray := prog_10_method_78_code
def yX8_count : MethodName := ⟨RX8, "count", "(I)I"⟩
def RJ11 : String := "java/lang/Character"
def TJ11 : u_T := fun k => match k with
  | _ => ("", "", "", false)
def tyJ11 : Nat → FieldType := fun k => match k with
  | _ => .int
theorem nmJ11 : ∀ a, a < 0 → ∀ b, b < 0 → a ≠ b → (TJ11 a).2.1 ≠ (TJ11 b).2.1 := by decide +kernel
theorem tyJ11_ok : ∀ k, k < 0 → parseFieldDescriptor (TJ11 k).2.2.1 = some (tyJ11 k) := by decide +kernel
abbrev cJ11_isValidCodePoint_9a6ad : ByteArray := prog_11_method_11_code
def yJ11_isValidCodePoint_9a6ad : MethodName := ⟨RJ11, "isValidCodePoint", "(I)Z"⟩
abbrev cJ11_highSurrogate_5068e : ByteArray := prog_11_method_28_code
def yJ11_highSurrogate_5068e : MethodName := ⟨RJ11, "highSurrogate", "(I)C"⟩
abbrev cJ11_lowSurrogate_5068e : ByteArray := prog_11_method_29_code
def yJ11_lowSurrogate_5068e : MethodName := ⟨RJ11, "lowSurrogate", "(I)C"⟩
def RJ6 : String := "java/lang/Integer"
def TJ6 : u_T := fun k => match k with
  | _ => ("", "", "", false)
def tyJ6 : Nat → FieldType := fun k => match k with
  | _ => .int
theorem nmJ6 : ∀ a, a < 0 → ∀ b, b < 0 → a ≠ b → (TJ6 a).2.1 ≠ (TJ6 b).2.1 := by decide +kernel
theorem tyJ6_ok : ∀ k, k < 0 → parseFieldDescriptor (TJ6 k).2.2.1 = some (tyJ6 k) := by decide +kernel
abbrev cJ6_bitCount_0f7a4 : ByteArray := prog_12_method_49_code
def yJ6_bitCount_0f7a4 : MethodName := ⟨RJ6, "bitCount", "(I)I"⟩
def RJ9 : String := "java/lang/Math"
def TJ9 : u_T := fun k => match k with
  | _ => ("", "", "", false)
def tyJ9 : Nat → FieldType := fun k => match k with
  | _ => .int
theorem nmJ9 : ∀ a, a < 0 → ∀ b, b < 0 → a ≠ b → (TJ9 a).2.1 ≠ (TJ9 b).2.1 := by decide +kernel
theorem tyJ9_ok : ∀ k, k < 0 → parseFieldDescriptor (TJ9 k).2.2.1 = some (tyJ9 k) := by decide +kernel
abbrev cJ9_abs_0f7a4 : ByteArray := prog_13_method_59_code
def yJ9_abs_0f7a4 : MethodName := ⟨RJ9, "abs", "(I)I"⟩
abbrev cJ9_max_7cf53 : ByteArray := prog_13_method_65_code
def yJ9_max_7cf53 : MethodName := ⟨RJ9, "max", "(II)I"⟩
abbrev cJ9_min_7cf53 : ByteArray := prog_13_method_69_code
def yJ9_min_7cf53 : MethodName := ⟨RJ9, "min", "(II)I"⟩
def RJ0 : String := "java/lang/String"
def TJ0 : u_T := fun k => match k with
  | _ => ("", "", "", false)
def tyJ0 : Nat → FieldType := fun k => match k with
  | _ => .int
theorem nmJ0 : ∀ a, a < 0 → ∀ b, b < 0 → a ≠ b → (TJ0 a).2.1 ≠ (TJ0 b).2.1 := by decide +kernel
theorem tyJ0_ok : ∀ k, k < 0 → parseFieldDescriptor (TJ0 k).2.2.1 = some (tyJ0 k) := by decide +kernel
abbrev cJ0_length_8abf5 : ByteArray := prog_14_method_54_code
def yJ0_length_8abf5 : MethodName := ⟨RJ0, "length", "()I"⟩
abbrev cJ0_indexOf_0f7a4 : ByteArray := prog_14_method_79_code
def yJ0_indexOf_0f7a4 : MethodName := ⟨RJ0, "indexOf", "(I)I"⟩
abbrev cJ0_indexOf_7cf53 : ByteArray := prog_14_method_80_code
def yJ0_indexOf_7cf53 : MethodName := ⟨RJ0, "indexOf", "(II)I"⟩
abbrev cJ0_coder_7d493 : ByteArray := prog_14_method_152_code
def yJ0_coder_7d493 : MethodName := ⟨RJ0, "coder", "()B"⟩
abbrev cJ0_isLatin1_aae02 : ByteArray := prog_14_method_154_code
def yJ0_isLatin1_aae02 : MethodName := ⟨RJ0, "isLatin1", "()Z"⟩
abbrev cJ0_checkBoundsBeginEnd_23922 : ByteArray := prog_14_method_158_code
def yJ0_checkBoundsBeginEnd_23922 : MethodName := ⟨RJ0, "checkBoundsBeginEnd", "(III)V"⟩
def RJ1 : String := "java/lang/StringLatin1"
def TJ1 : u_T := fun k => match k with
  | _ => ("", "", "", false)
def tyJ1 : Nat → FieldType := fun k => match k with
  | _ => .int
theorem nmJ1 : ∀ a, a < 0 → ∀ b, b < 0 → a ≠ b → (TJ1 a).2.1 ≠ (TJ1 b).2.1 := by decide +kernel
theorem tyJ1_ok : ∀ k, k < 0 → parseFieldDescriptor (TJ1 k).2.2.1 = some (tyJ1 k) := by decide +kernel
abbrev cJ1_canEncode_9a6ad : ByteArray := prog_15_method_4_code
def yJ1_canEncode_9a6ad : MethodName := ⟨RJ1, "canEncode", "(I)Z"⟩
abbrev cJ1_indexOf_4cfef : ByteArray := prog_15_method_22_code
def yJ1_indexOf_4cfef : MethodName := ⟨RJ1, "indexOf", "([BIII)I"⟩
abbrev cJ1_indexOfChar_4cfef : ByteArray := prog_15_method_23_code
def yJ1_indexOfChar_4cfef : MethodName := ⟨RJ1, "indexOfChar", "([BIII)I"⟩
def RJ2 : String := "java/lang/StringUTF16"
def TJ2 : u_T := fun k => match k with
  | _ => ("", "", "", false)
def tyJ2 : Nat → FieldType := fun k => match k with
  | _ => .int
theorem nmJ2 : ∀ a, a < 0 → ∀ b, b < 0 → a ≠ b → (TJ2 a).2.1 ≠ (TJ2 b).2.1 := by decide +kernel
theorem tyJ2_ok : ∀ k, k < 0 → parseFieldDescriptor (TJ2 k).2.2.1 = some (tyJ2 k) := by decide +kernel
abbrev cJ2_getChar_3b067 : ByteArray := prog_16_method_5_code
def yJ2_getChar_3b067 : MethodName := ⟨RJ2, "getChar", "([BI)C"⟩
abbrev cJ2_length_9d52b : ByteArray := prog_16_method_6_code
def yJ2_length_9d52b : MethodName := ⟨RJ2, "length", "([B)I"⟩
abbrev cJ2_indexOf_4cfef : ByteArray := prog_16_method_40_code
def yJ2_indexOf_4cfef : MethodName := ⟨RJ2, "indexOf", "([BIII)I"⟩
abbrev cJ2_indexOfChar_4cfef : ByteArray := prog_16_method_47_code
def yJ2_indexOfChar_4cfef : MethodName := ⟨RJ2, "indexOfChar", "([BIII)I"⟩
abbrev cJ2_indexOfCharUnsafe_4cfef : ByteArray := prog_16_method_48_code
def yJ2_indexOfCharUnsafe_4cfef : MethodName := ⟨RJ2, "indexOfCharUnsafe", "([BIII)I"⟩
abbrev cJ2_indexOfSupplementary_4cfef : ByteArray := prog_16_method_49_code
def yJ2_indexOfSupplementary_4cfef : MethodName := ⟨RJ2, "indexOfSupplementary", "([BIII)I"⟩
abbrev cJ2_checkBoundsBeginEnd_d044e : ByteArray := prog_16_method_93_code
def yJ2_checkBoundsBeginEnd_d044e : MethodName := ⟨RJ2, "checkBoundsBeginEnd", "(II[B)V"⟩
def RJ10 : String := "java/lang/System"
def TJ10 : u_T := fun k => match k with
  | _ => ("", "", "", false)
def tyJ10 : Nat → FieldType := fun k => match k with
  | _ => .int
theorem nmJ10 : ∀ a, a < 0 → ∀ b, b < 0 → a ≠ b → (TJ10 a).2.1 ≠ (TJ10 b).2.1 := by decide +kernel
theorem tyJ10_ok : ∀ k, k < 0 → parseFieldDescriptor (TJ10 k).2.2.1 = some (tyJ10 k) := by decide +kernel
def RJ7 : String := "java/util/Arrays"
def TJ7 : u_T := fun k => match k with
  | _ => ("", "", "", false)
def tyJ7 : Nat → FieldType := fun k => match k with
  | _ => .int
theorem nmJ7 : ∀ a, a < 0 → ∀ b, b < 0 → a ≠ b → (TJ7 a).2.1 ≠ (TJ7 b).2.1 := by decide +kernel
theorem tyJ7_ok : ∀ k, k < 0 → parseFieldDescriptor (TJ7 k).2.2.1 = some (tyJ7 k) := by decide +kernel
abbrev cJ7_fill_53178 : ByteArray := prog_18_method_103_code
def yJ7_fill_53178 : MethodName := ⟨RJ7, "fill", "([II)V"⟩
def RJ3 : String := "jdk/internal/util/Preconditions"
def TJ3 : u_T := fun k => match k with
  | _ => ("", "", "", false)
def tyJ3 : Nat → FieldType := fun k => match k with
  | _ => .int
theorem nmJ3 : ∀ a, a < 0 → ∀ b, b < 0 → a ≠ b → (TJ3 a).2.1 ≠ (TJ3 b).2.1 := by decide +kernel
theorem tyJ3_ok : ∀ k, k < 0 → parseFieldDescriptor (TJ3 k).2.2.1 = some (tyJ3 k) := by decide +kernel
abbrev cJ3_checkFromToIndex_8c36e : ByteArray := prog_19_method_12_code
def yJ3_checkFromToIndex_8c36e : MethodName := ⟨RJ3, "checkFromToIndex", "(IIILjava/util/function/BiFunction;)I"⟩
def RL : String := "EndgameTableLaw"
def yL_law : MethodName := ⟨RL, "law", "([I)Z"⟩
abbrev vwCl : List vw_C := [(RX0, TX0, 2), (RX1, TX1, 5), (RX2, TX2, 2), (RX3, TX3, 11), (RX4, TX4, 13), (RX5, TX5, 3), (RX6, TX6, 14), (RX7, TX7, 9), (RX8, TX8, 32)]
end
section
def zz_W : List Cond := lw_tbl.filter (fun w => goodWord w)
theorem zz_mem {w : Cond} {i : Nat} (h : lw_tbl[i]? = some w) (g : goodWord w = true) : w ∈ zz_W := List.mem_filter.mpr ⟨List.mem_of_getElem? h, g⟩
theorem zz_goodIn {w : Cond} (h : w ∈ zz_W) : GoodIn zz_W (w :: zz_W) := by
  have g : ∀ v ∈ zz_W, v ∈ zz_W ∧ ((v.onTables && v.keeps) = true ∨ ∃ ty, v = .arrayClass ty) := fun v hv => ⟨hv, good_of_word (List.mem_filter.mp hv).2⟩
  intro v hv
  rcases List.mem_cons.mp hv with e | hv
  · rw [e]; exact g w h
  · exact g v hv
abbrev Hp : Type := Nat × (Nat → Option va_E)
abbrev Wd : Type := Launch × va_G × (Nat → ClassId) × Nat × Heap × Nat × Nat
abbrev eL (E : Wd) : Launch := E.1
abbrev eD (E : Wd) : va_G := E.2.1
abbrev eA (E : Wd) : Nat → ClassId := E.2.2.1
abbrev eZ (E : Wd) : Nat := E.2.2.2.1
abbrev eH (E : Wd) : Heap := E.2.2.2.2.1
abbrev eS (E : Wd) : Nat := E.2.2.2.2.2.1
abbrev eV (E : Wd) : Nat := E.2.2.2.2.2.2
def zz_tys (E : Wd) : List (ClassId × FieldType) := [(eA E 0, .int), (eA E 1, .boolean), (eA E 2, .array .int)]
def zz_txt : List Int32 := [119, 102, 107, 110, 97, 114, 98, 113, 100, 112]
def zz_T (E : Wd) (U : State) : Prop :=
  vk_R "EndgameTable$Reader" 73 "wfknarbqdp" (eS E) U ∧ vk_R "EndgameTableModel" 108 "wfknarbqdp" (eS E) U ∧
  vk_S 1 [10] [zz_txt] (fun _ => eS E) (fun _ => eV E) (fun q => eZ E ≤ q) U (eH E) ∧
  va_Z "java/lang/String" "COMPACT_STRINGS" "Z" (.int 1) (fun q => eZ E ≤ q) U (eH E)
def zz_K (E : Wd) (U : State) : Prop := va_K (eD E) vwCl (zz_tys E) U ∧ zz_T E U
def zz_R (E : Wd) (h : Hp) (H : Heap) : Prop :=
  H.size = h.1 ∧ eZ E ≤ h.1 ∧ eZ E ≤ (eH E).size ∧ (∀ a o, h.2 a = some o → eZ E ≤ a ∧ va_at (eD E) vwCl (a, o) H) ∧ ∀ q, q < eZ E → H[q]? = (eH E)[q]?
def zz_L (ls : Array Slot) (nL : Nat) (L : List (Option Value)) : Prop :=
  ls.size = nL ∧ lv_wf ls ∧ ∀ (i : Nat) (v : Value), L[i]? = some (some v) → v.category = 1 ∧ ls[i]? = some (.val v)
abbrev Mx : Type := Program × Env × Room × State × MethodId × Array Value × List Frame × Method × Code × (State → Prop)
abbrev xP (X : Mx) : Program := X.1
abbrev xE (X : Mx) : Env := X.2.1
abbrev xR (X : Mx) : Room := X.2.2.1
abbrev xS (X : Mx) : State := X.2.2.2.1
abbrev xM (X : Mx) : MethodId := X.2.2.2.2.1
abbrev xA (X : Mx) : Array Value := X.2.2.2.2.2.1
abbrev xB (X : Mx) : List Frame := X.2.2.2.2.2.2.1
abbrev xT (X : Mx) : Method := X.2.2.2.2.2.2.2.1
abbrev xC (X : Mx) : Code := X.2.2.2.2.2.2.2.2.1
abbrev xQ (X : Mx) : State → Prop := X.2.2.2.2.2.2.2.2.2
abbrev xW (E : Wd) (X : Mx) (H : Heap) (locs : List Loc) (k n pc : Nat) (ls : Array Slot) (st : List Value) : Prop :=
  W (xP X) (eL E) (xE X) (xR X) (xS X) (xM X) (xA X) (xB X) (xT X) (xC X) H locs k n (xQ X) (F0 (xM X) pc ls st)
def GG (E : Wd) (X : Mx) (nL k n pc : Nat) (L : List (Option Value)) (st : List Value) (h : Hp) : Prop :=
  ∀ (H : Heap) (locs : List Loc) (ls : Array Slot), zz_R E h H → (∀ q ∈ locs, eZ E ≤ q.base) → zz_L ls nL L → xW E X H locs k n pc ls st
abbrev My : Type := MethodName × ByteArray × Nat × Option FieldType
def zz_P (E : Wd) (av : List Value) (h : Hp) : Array Value → State → Prop := fun a U => a = av.toArray ∧ zz_K E U ∧ zz_R E h U.heap
def zz_Q (E : Wd) (Q : Option Value → Hp → Prop) : Array Value → State → Outcome → State → Prop := fun _ _ o t => ∃ r h', o = .returned r ∧ zz_R E h' t.heap ∧ Q r h'
abbrev zz_rm (d mc ms : Nat) : Room := { frames := d, cells := mc, slots := ms, locals := 40 * d }
def Ok (E : Wd) (Y : My) (d mc ms : Nat) (av : List Value) (h : Hp) (Q : Option Value → Hp → Prop) : Prop :=
  Met (eL E) Y.1 (.code Y.1 Y.2.1 Y.2.2.1 Y.2.2.2 :: zz_W) (zz_rm d mc ms) (zz_P E av h) (zz_Q E Q) mc ms (fun q => eZ E ≤ q)
def OkI (E : Wd) (Y : My) (d : Nat) (av : List Value) (h : Hp) (Q : Int32 → Hp → Prop) : Prop := Ok E Y d 0 0 av h (fun r h' => ∃ x : Int32, r = some (.int x) ∧ Q x h')
def OkV (E : Wd) (Y : My) (d : Nat) (av : List Value) (h : Hp) (Q : Hp → Prop) : Prop := Ok E Y d 0 0 av h (fun r h' => r = none ∧ Q h')
def OkN (E : Wd) (Y : My) (d mc ms : Nat) (av : List Value) (h : Hp) (Q : Option Nat → Hp → Prop) : Prop := Ok E Y d mc ms av h (fun r h' => ∃ x : Option Nat, r = some (va_rf x) ∧ Q x h')
def OkJ (E : Wd) (Y : My) (d mc ms : Nat) (av : List Value) (h : Hp) (Q : Int32 → Hp → Prop) : Prop := Ok E Y d mc ms av h (fun r h' => ∃ x : Int32, r = some (.int x) ∧ Q x h')
def OkW (E : Wd) (Y : My) (d mc ms : Nat) (av : List Value) (h : Hp) (Q : Hp → Prop) : Prop := Ok E Y d mc ms av h (fun r h' => r = none ∧ Q h')
def zz_M (Y : My) (np : Nat) : Prop := plainName Y.1.cls = true ∧ Cond.code Y.1 Y.2.1 Y.2.2.1 Y.2.2.2 ∈ zz_W ∧ Cond.initialized Y.1.cls ∈ zz_W ∧ (Y.1.cls ≠ "java/lang/invoke/MethodHandle" ∧ Y.1.cls ≠ "java/lang/invoke/VarHandle" ∧ (parseMethodDescriptor Y.1.desc).map (fun d => d.parameters.length) = some np) ∧ Y.2.2.1 ≤ 21
def zz_V (Y : My) : Prop := Cond.instanceMethod Y.1 ∈ zz_W ∧ Cond.selects Y.1.cls Y.1 Y.1 ∈ zz_W
def zz_I (Y : My) : Prop := Y.1.name = "<init>" ∧ Cond.instanceMethod Y.1 ∈ zz_W
def zz_C (E : Wd) (X : Mx) (Y : My) (d mc ms : Nat) (Q : Option Value → Hp → Prop) : Prop :=
  (xP X).tables.exec = Jvm.exec ∧ (xC X).code = Y.2.1 ∧ (xC X).maxLocals = Y.2.2.1 ∧ (xS X).vm.findClass Y.1.cls = some (xM X).cls ∧ (∀ w ∈ zz_W, w.before (xA X) (xS X) = true) ∧ zz_K E (xS X) ∧
  xR X = zz_rm d mc ms ∧ (xT X).sig.returnType = Y.2.2.2 ∧ (xT X).locks = false ∧ (xT X).name = Y.1.name ∧ xQ X = MQ (xB X) (zz_Q E Q) (xA X) (xS X) mc ms (fun q => eZ E ≤ q)
theorem zz_K.moved {E : Wd} {u U : State} (hW : u.WarmedH U.vm) (h : zz_K E u) : zz_K E U :=
  ⟨va_K.moved hW.alike h.1, vk_R.warm hW h.2.1, vk_R.warm hW h.2.2.1, vk_S.moved hW.alike h.2.2.2.1, va_Z.moved hW.alike h.2.2.2.2⟩
theorem zz_K.same {E : Wd} {u U : State} (hv : U.vm = u.vm) (h : zz_K E u) : zz_K E U :=
  ⟨va_K.moved (by rw [hv]; exact Vm.Alike.refl _) h.1, vk_R.same hv h.2.1, vk_R.same hv h.2.2.1, vk_S.moved (by rw [hv]; exact Vm.Alike.refl _) h.2.2.2.1, va_Z.moved (by rw [hv]; exact Vm.Alike.refl _) h.2.2.2.2⟩
theorem zz_args : ∀ (vs : List Value) (i : Nat), (∀ v ∈ vs, v.category = 1) → lv_args i vs = (vs.zipIdx i).map (fun q => (q.2, q.1))
  | [], _, _ => rfl
  | v :: vs, i, h => by
    have h1 : v.category = 1 := h v List.mem_cons_self
    show (i, v) :: lv_args (if v.category = 2 then i + 2 else i + 1) vs = _
    rw [if_neg (by omega), zz_args vs (i + 1) (fun w hw => h w (List.mem_cons_of_mem _ hw))]
    rfl
theorem zz_slots (vs : List Value) (h : ∀ v ∈ vs, v.category = 1) : (lg_sl vs).length = vs.length := by
  induction vs with
  | nil => rfl
  | cons v vs ih =>
    have h1 : v.category = 1 := h v List.mem_cons_self
    have h2 : ¬ v.category = 2 := by omega
    have h3 := ih (fun w hw => h w (List.mem_cons_of_mem _ hw))
    simp only [lg_sl, List.flatMap_cons, if_neg h2] at h3 ⊢
    simp [h3]
theorem zz_entry {vs : List Value} {nL : Nat} (h : ∀ v ∈ vs, v.category = 1) (hl : vs.length ≤ nL) : zz_L ((lg_sl vs ++ List.replicate (nL - (lg_sl vs).length) Slot.unset).toArray) nL (vs.map some) := by
  obtain ⟨h1, h2, h3⟩ := lv_entry vs (n := nL) (by rw [zz_slots vs h]; exact hl)
  refine ⟨h1, h2, fun i v hi => ?_⟩
  rw [List.getElem?_map] at hi
  cases hv : vs[i]? with
  | none => rw [hv] at hi; cases hi
  | some w =>
    rw [hv] at hi
    have hw : w = v := by simpa using hi
    subst hw
    refine ⟨h w (List.mem_of_getElem? hv), h3 (i, w) ?_⟩
    rw [zz_args vs 0 h]
    refine List.mem_map.mpr ⟨(w, i), ?_, rfl⟩
    exact List.mem_of_getElem? (i := i) (by rw [List.getElem?_zipIdx, hv]; simp)
theorem zz_body {E : Wd} {Y : My} {np d mc ms : Nat} {av : List Value} {h : Hp} {Q : Option Value → Hp → Prop} (hm : zz_M Y np) (hav : ∀ v ∈ av, v.category = 1) (hlen : av.length ≤ Y.2.2.1) {L : List (Option Value)} (hL : ∀ (i : Nat) (v : Value), L[i]? = some (some v) → (av.map some)[i]? = some (some v))
    (body : ∀ X : Mx, zz_C E X Y d mc ms Q → GG E X Y.2.2.1 0 0 0 L [] h) : Ok E Y d mc ms av h Q := by
  refine Met.ofW (cc := Y.2.1) (maxL := Y.2.2.1) (ret := Y.2.2.2) hm.1 rfl ?_
  intro p e s m args below meth c s₁ B hml hv
  obtain ⟨rfl, hK, hR⟩ := hv
  have hts := atoms_spec (ws := .code Y.1 Y.2.1 Y.2.2.1 Y.2.2.2 :: zz_W) B.pre
  have hC : zz_C E (p, e, zz_rm d mc ms, s, m, av.toArray, below, meth, c, MQ below (zz_Q E Q) av.toArray s mc ms (fun q => eZ E ≤ q)) Y d mc ms Q :=
    ⟨B.exec, B.bytes, hml, findClass_of_methodNamed B.named, fun w hw => hts w (List.mem_cons_of_mem _ hw), hK, rfl, B.returns, B.notSynchronized, (name_of_methodNamed B.named B.method).1, rfl⟩
  obtain ⟨e1, e2, e3⟩ := zz_entry (nL := Y.2.2.1) hav hlen
  rw [lg_entry_eq]
  exact body _ hC s.heap [] _ hR (fun _ q => by cases q) ⟨e1, e2, fun i v hi => e3 i v (hL i v hi)⟩
theorem zz_at {ls : Array Slot} {nL : Nat} {L : List (Option Value)} (h : zz_L ls nL L) {i : Nat} {v : Value} (hi : L[i]? = some (some v)) : ls[i]? = some (.val v) := (h.2.2 i v hi).2
theorem zz_set {ls ls' : Array Slot} {nL : Nat} {L : List (Option Value)} {i : Nat} {v : Value} (h : zz_L ls nL L) (hc : v.category = 1)
    (hs : ∀ (l : List (Nat × Value)), lv_has ls nL l → lv_has ls' nL ((i, v) :: l.filter (fun q => !(q.1 == i) && !(q.1 + 1 == i && q.2.category == 2)))) : zz_L ls' nL (L.set i (some v)) := by
  have h0 := hs [] ⟨h.1, h.2.1, fun q hq => by cases hq⟩
  refine ⟨h0.1, h0.2.1, fun j w hj => ?_⟩
  rw [List.getElem?_set] at hj
  by_cases hij : i = j
  · subst hij
    rw [if_pos rfl] at hj
    by_cases hl : i < L.length
    · rw [if_pos hl] at hj
      have hw : v = w := by simpa using hj
      subst hw
      exact ⟨hc, h0.2.2 (i, v) List.mem_cons_self⟩
    · rw [if_neg hl] at hj; cases hj
  · rw [if_neg hij] at hj
    obtain ⟨g1, g2⟩ := h.2.2 j w hj
    have h1 := hs [(j, w)] ⟨h.1, h.2.1, fun q hq => by rw [List.mem_singleton] at hq; rw [hq]; exact g2⟩
    refine ⟨g1, h1.2.2 (j, w) (List.mem_cons_of_mem _ (List.mem_filter.mpr ⟨List.mem_singleton.mpr rfl, ?_⟩))⟩
    have e1 : (j == i) = false := by simpa using fun q : j = i => hij q.symm
    simp [e1, g1]
theorem zg_iconst {E : Wd} {X : Mx} {Y : My} {d mc ms nL k n pc q : Nat} {Q : Option Value → Hp → Prop} {L : List (Option Value)} {st : List Value} {h : Hp} {c : Int} {v : Int32} (C : zz_C E X Y d mc ms Q) (hd : decode Y.2.1 pc = .ok (.iconst c, 1)) (hv : Int32.ofInt c = v) (hq : pc + 1 = q) (g : GG E X nL k n q L (.int v :: st) h) : GG E X nL k n pc L (st) h := by
  subst hq
  intro H locs ls hR hl hL
  exact lv_iconst C.1 C.2.1 hd hv (g H locs ls hR hl hL)
theorem zg_bipush {E : Wd} {X : Mx} {Y : My} {d mc ms nL k n pc q : Nat} {Q : Option Value → Hp → Prop} {L : List (Option Value)} {st : List Value} {h : Hp} {c : Int} {v : Int32} (C : zz_C E X Y d mc ms Q) (hd : decode Y.2.1 pc = .ok (.bipush c, 2)) (hv : (Int8.ofInt c).toInt32 = v) (hq : pc + 2 = q) (g : GG E X nL k n q L (.int v :: st) h) : GG E X nL k n pc L (st) h := by
  subst hq
  intro H locs ls hR hl hL
  exact lv_bipush C.1 C.2.1 hd hv (g H locs ls hR hl hL)
theorem zg_sipush {E : Wd} {X : Mx} {Y : My} {d mc ms nL k n pc q : Nat} {Q : Option Value → Hp → Prop} {L : List (Option Value)} {st : List Value} {h : Hp} {c : Int} {v : Int32} (C : zz_C E X Y d mc ms Q) (hd : decode Y.2.1 pc = .ok (.sipush c, 3)) (hv : (Int16.ofInt c).toInt32 = v) (hq : pc + 3 = q) (g : GG E X nL k n q L (.int v :: st) h) : GG E X nL k n pc L (st) h := by
  subst hq
  intro H locs ls hR hl hL
  exact lv_sipush C.1 C.2.1 hd hv (g H locs ls hR hl hL)
theorem zg_iload_n {E : Wd} {X : Mx} {Y : My} {d mc ms nL k n pc q : Nat} {Q : Option Value → Hp → Prop} {L : List (Option Value)} {st : List Value} {h : Hp} {i : Fin 4} {x : Int32} (C : zz_C E X Y d mc ms Q) (hd : decode Y.2.1 pc = .ok (.iload_n i, 1)) (hi : L[(i : Nat)]? = some (some (.int x))) (hq : pc + 1 = q) (g : GG E X nL k n q L (.int x :: st) h) : GG E X nL k n pc L (st) h := by
  subst hq
  intro H locs ls hR hl hL
  exact lv_iload_n C.1 C.2.1 hd rfl (zz_at hL hi) (g H locs ls hR hl hL)
theorem zg_iload {E : Wd} {X : Mx} {Y : My} {d mc ms nL k n pc q : Nat} {Q : Option Value → Hp → Prop} {L : List (Option Value)} {st : List Value} {h : Hp} {i : Nat} {x : Int32} (C : zz_C E X Y d mc ms Q) (hd : decode Y.2.1 pc = .ok (.iload i, 2)) (hi : L[i]? = some (some (.int x))) (hq : pc + 2 = q) (g : GG E X nL k n q L (.int x :: st) h) : GG E X nL k n pc L (st) h := by
  subst hq
  intro H locs ls hR hl hL
  exact lv_iload C.1 C.2.1 hd (zz_at hL hi) (g H locs ls hR hl hL)
theorem zg_aload_n {E : Wd} {X : Mx} {Y : My} {d mc ms nL k n pc q : Nat} {Q : Option Value → Hp → Prop} {L : List (Option Value)} {st : List Value} {h : Hp} {i : Fin 4} {x : Nat} (C : zz_C E X Y d mc ms Q) (hd : decode Y.2.1 pc = .ok (.aload_n i, 1)) (hi : L[(i : Nat)]? = some (some (.ref x))) (hq : pc + 1 = q) (g : GG E X nL k n q L (.ref x :: st) h) : GG E X nL k n pc L (st) h := by
  subst hq
  intro H locs ls hR hl hL
  exact lv_aload_n C.1 C.2.1 hd rfl (zz_at hL hi) (g H locs ls hR hl hL)
theorem zg_aload {E : Wd} {X : Mx} {Y : My} {d mc ms nL k n pc q : Nat} {Q : Option Value → Hp → Prop} {L : List (Option Value)} {st : List Value} {h : Hp} {i : Nat} {x : Nat} (C : zz_C E X Y d mc ms Q) (hd : decode Y.2.1 pc = .ok (.aload i, 2)) (hi : L[i]? = some (some (.ref x))) (hq : pc + 2 = q) (g : GG E X nL k n q L (.ref x :: st) h) : GG E X nL k n pc L (st) h := by
  subst hq
  intro H locs ls hR hl hL
  exact lv_aload C.1 C.2.1 hd (zz_at hL hi) (g H locs ls hR hl hL)
theorem zz_store {ls : Array Slot} {nL : Nat} {L : List (Option Value)} {i : Nat} {v : Value} (h : zz_L ls nL L) (hn : i < nL) (hc : v.category = 1) : ∃ ls', storeLocals ls i v = some ls' ∧ zz_L ls' nL (L.set i (some v)) := by
  obtain ⟨ls', e, -⟩ := lv_store1 (l := []) (i := i) (v := v) ⟨h.1, h.2.1, fun q hq => by cases hq⟩ hn hc
  refine ⟨ls', e, zz_set h hc (fun l hl => ?_)⟩
  obtain ⟨ls2, e2, h2⟩ := lv_store1 hl hn hc
  rw [e] at e2
  cases e2
  exact h2
theorem zg_istore_n {E : Wd} {X : Mx} {Y : My} {d mc ms nL k n pc q : Nat} {Q : Option Value → Hp → Prop} {L : List (Option Value)} {st : List Value} {h : Hp} {i : Fin 4} {x : Int32} (C : zz_C E X Y d mc ms Q) (hd : decode Y.2.1 pc = .ok (.istore_n i, 1)) (hn : (i : Nat) < nL) (hq : pc + 1 = q) (g : GG E X nL k n q (L.set (i : Nat) (some (.int x))) st h) : GG E X nL k n pc L (.int x :: st) h := by
  subst hq
  intro H locs ls hR hl hL T hT S
  obtain ⟨ls', e', hL'⟩ := zz_store (v := .int x) hL hn rfl
  obtain ⟨t, a, b⟩ := g H locs ls' hR hl hL' T hT S
  refine ⟨t, ?_, b⟩
  jvm_step S.here [S.here.top, ↓top_set S.here.top, C.1, C.2.1, hd, e']
  exact a
theorem zg_istore {E : Wd} {X : Mx} {Y : My} {d mc ms nL k n pc q : Nat} {Q : Option Value → Hp → Prop} {L : List (Option Value)} {st : List Value} {h : Hp} {i : Nat} {x : Int32} (C : zz_C E X Y d mc ms Q) (hd : decode Y.2.1 pc = .ok (.istore i, 2)) (hn : i < nL) (hq : pc + 2 = q) (g : GG E X nL k n q (L.set i (some (.int x))) st h) : GG E X nL k n pc L (.int x :: st) h := by
  subst hq
  intro H locs ls hR hl hL T hT S
  obtain ⟨ls', e', hL'⟩ := zz_store (v := .int x) hL hn rfl
  obtain ⟨t, a, b⟩ := g H locs ls' hR hl hL' T hT S
  refine ⟨t, ?_, b⟩
  jvm_step S.here [S.here.top, ↓top_set S.here.top, C.1, C.2.1, hd, e']
  exact a
theorem zg_astore_n {E : Wd} {X : Mx} {Y : My} {d mc ms nL k n pc q : Nat} {Q : Option Value → Hp → Prop} {L : List (Option Value)} {st : List Value} {h : Hp} {i : Fin 4} {x : Nat} (C : zz_C E X Y d mc ms Q) (hd : decode Y.2.1 pc = .ok (.astore_n i, 1)) (hn : (i : Nat) < nL) (hq : pc + 1 = q) (g : GG E X nL k n q (L.set (i : Nat) (some (.ref x))) st h) : GG E X nL k n pc L (.ref x :: st) h := by
  subst hq
  intro H locs ls hR hl hL T hT S
  obtain ⟨ls', e', hL'⟩ := zz_store (v := .ref x) hL hn rfl
  obtain ⟨t, a, b⟩ := g H locs ls' hR hl hL' T hT S
  refine ⟨t, ?_, b⟩
  jvm_step S.here [S.here.top, ↓top_set S.here.top, C.1, C.2.1, hd, e']
  exact ⟨rfl, a⟩
theorem zg_astore {E : Wd} {X : Mx} {Y : My} {d mc ms nL k n pc q : Nat} {Q : Option Value → Hp → Prop} {L : List (Option Value)} {st : List Value} {h : Hp} {i : Nat} {x : Nat} (C : zz_C E X Y d mc ms Q) (hd : decode Y.2.1 pc = .ok (.astore i, 2)) (hn : i < nL) (hq : pc + 2 = q) (g : GG E X nL k n q (L.set i (some (.ref x))) st h) : GG E X nL k n pc L (.ref x :: st) h := by
  subst hq
  intro H locs ls hR hl hL T hT S
  obtain ⟨ls', e', hL'⟩ := zz_store (v := .ref x) hL hn rfl
  obtain ⟨t, a, b⟩ := g H locs ls' hR hl hL' T hT S
  refine ⟨t, ?_, b⟩
  jvm_step S.here [S.here.top, ↓top_set S.here.top, C.1, C.2.1, hd, e']
  exact ⟨rfl, a⟩
theorem zg_iinc {E : Wd} {X : Mx} {Y : My} {d mc ms nL k n pc q : Nat} {Q : Option Value → Hp → Prop} {L : List (Option Value)} {st : List Value} {h : Hp} {i : Nat} {c : Int} {x v : Int32} (C : zz_C E X Y d mc ms Q) (hd : decode Y.2.1 pc = .ok (.iinc i c, 3)) (hi : L[i]? = some (some (.int x))) (hc : Int32.ofInt c = v) (hn : i < nL) (hq : pc + 3 = q) (g : GG E X nL k n q (L.set i (some (.int (x + v)))) st h) : GG E X nL k n pc L st h := by
  subst hq
  subst hc
  intro H locs ls hR hl hL T hT S
  have hg := zz_at hL hi
  obtain ⟨ls', e', hL'⟩ := zz_store (v := .int (x + Int32.ofInt c)) hL hn rfl
  obtain ⟨t, a, b⟩ := g H locs ls' hR hl hL' T hT S
  refine ⟨t, ?_, b⟩
  jvm_step S.here [S.here.top, ↓top_set S.here.top, C.1, C.2.1, hd, hg, e']
  exact a
theorem zg_iadd {E : Wd} {X : Mx} {Y : My} {d mc ms nL k n pc q : Nat} {Q : Option Value → Hp → Prop} {L : List (Option Value)} {st : List Value} {h : Hp} {x y : Int32} (C : zz_C E X Y d mc ms Q) (hd : decode Y.2.1 pc = .ok (.iadd, 1))  (hq : pc + 1 = q) (g : GG E X nL k n q L (.int (x + y) :: st) h) : GG E X nL k n pc L (.int y :: .int x :: st) h := by
  subst hq
  intro H locs ls hR hl hL
  exact lv_iadd C.1 C.2.1 hd (g H locs ls hR hl hL)
theorem zg_isub {E : Wd} {X : Mx} {Y : My} {d mc ms nL k n pc q : Nat} {Q : Option Value → Hp → Prop} {L : List (Option Value)} {st : List Value} {h : Hp} {x y : Int32} (C : zz_C E X Y d mc ms Q) (hd : decode Y.2.1 pc = .ok (.isub, 1))  (hq : pc + 1 = q) (g : GG E X nL k n q L (.int (x - y) :: st) h) : GG E X nL k n pc L (.int y :: .int x :: st) h := by
  subst hq
  intro H locs ls hR hl hL
  exact lv_isub C.1 C.2.1 hd (g H locs ls hR hl hL)
theorem zg_imul {E : Wd} {X : Mx} {Y : My} {d mc ms nL k n pc q : Nat} {Q : Option Value → Hp → Prop} {L : List (Option Value)} {st : List Value} {h : Hp} {x y : Int32} (C : zz_C E X Y d mc ms Q) (hd : decode Y.2.1 pc = .ok (.imul, 1))  (hq : pc + 1 = q) (g : GG E X nL k n q L (.int (x * y) :: st) h) : GG E X nL k n pc L (.int y :: .int x :: st) h := by
  subst hq
  intro H locs ls hR hl hL
  exact lv_imul C.1 C.2.1 hd (g H locs ls hR hl hL)
theorem zg_iand {E : Wd} {X : Mx} {Y : My} {d mc ms nL k n pc q : Nat} {Q : Option Value → Hp → Prop} {L : List (Option Value)} {st : List Value} {h : Hp} {x y : Int32} (C : zz_C E X Y d mc ms Q) (hd : decode Y.2.1 pc = .ok (.iand, 1))  (hq : pc + 1 = q) (g : GG E X nL k n q L (.int (x &&& y) :: st) h) : GG E X nL k n pc L (.int y :: .int x :: st) h := by
  subst hq
  intro H locs ls hR hl hL
  exact lv_iand C.1 C.2.1 hd (g H locs ls hR hl hL)
theorem zg_ior {E : Wd} {X : Mx} {Y : My} {d mc ms nL k n pc q : Nat} {Q : Option Value → Hp → Prop} {L : List (Option Value)} {st : List Value} {h : Hp} {x y : Int32} (C : zz_C E X Y d mc ms Q) (hd : decode Y.2.1 pc = .ok (.ior, 1))  (hq : pc + 1 = q) (g : GG E X nL k n q L (.int (x ||| y) :: st) h) : GG E X nL k n pc L (.int y :: .int x :: st) h := by
  subst hq
  intro H locs ls hR hl hL
  exact lv_ior C.1 C.2.1 hd (g H locs ls hR hl hL)
theorem zg_ixor {E : Wd} {X : Mx} {Y : My} {d mc ms nL k n pc q : Nat} {Q : Option Value → Hp → Prop} {L : List (Option Value)} {st : List Value} {h : Hp} {x y : Int32} (C : zz_C E X Y d mc ms Q) (hd : decode Y.2.1 pc = .ok (.ixor, 1))  (hq : pc + 1 = q) (g : GG E X nL k n q L (.int (x ^^^ y) :: st) h) : GG E X nL k n pc L (.int y :: .int x :: st) h := by
  subst hq
  intro H locs ls hR hl hL
  exact lv_ixor C.1 C.2.1 hd (g H locs ls hR hl hL)
theorem zg_ishl {E : Wd} {X : Mx} {Y : My} {d mc ms nL k n pc q : Nat} {Q : Option Value → Hp → Prop} {L : List (Option Value)} {st : List Value} {h : Hp} {x y : Int32} (C : zz_C E X Y d mc ms Q) (hd : decode Y.2.1 pc = .ok (.ishl, 1))  (hq : pc + 1 = q) (g : GG E X nL k n q L (.int (x <<< (y &&& 31)) :: st) h) : GG E X nL k n pc L (.int y :: .int x :: st) h := by
  subst hq
  intro H locs ls hR hl hL
  exact lv_ishl C.1 C.2.1 hd (g H locs ls hR hl hL)
theorem zg_ishr {E : Wd} {X : Mx} {Y : My} {d mc ms nL k n pc q : Nat} {Q : Option Value → Hp → Prop} {L : List (Option Value)} {st : List Value} {h : Hp} {x y : Int32} (C : zz_C E X Y d mc ms Q) (hd : decode Y.2.1 pc = .ok (.ishr, 1))  (hq : pc + 1 = q) (g : GG E X nL k n q L (.int (x >>> (y &&& 31)) :: st) h) : GG E X nL k n pc L (.int y :: .int x :: st) h := by
  subst hq
  intro H locs ls hR hl hL
  exact lv_ishr C.1 C.2.1 hd (g H locs ls hR hl hL)
theorem zg_iushr {E : Wd} {X : Mx} {Y : My} {d mc ms nL k n pc q : Nat} {Q : Option Value → Hp → Prop} {L : List (Option Value)} {st : List Value} {h : Hp} {x y : Int32} (C : zz_C E X Y d mc ms Q) (hd : decode Y.2.1 pc = .ok (.iushr, 1))  (hq : pc + 1 = q) (g : GG E X nL k n q L (.int ((x.toUInt32 >>> (y.toUInt32 &&& Int32.toUInt32 31)).toInt32) :: st) h) : GG E X nL k n pc L (.int y :: .int x :: st) h := by
  subst hq
  intro H locs ls hR hl hL
  exact lv_iushr C.1 C.2.1 hd rfl (g H locs ls hR hl hL)
theorem zg_ineg {E : Wd} {X : Mx} {Y : My} {d mc ms nL k n pc q : Nat} {Q : Option Value → Hp → Prop} {L : List (Option Value)} {st : List Value} {h : Hp} {x : Int32} (C : zz_C E X Y d mc ms Q) (hd : decode Y.2.1 pc = .ok (.ineg, 1))  (hq : pc + 1 = q) (g : GG E X nL k n q L (.int (-x) :: st) h) : GG E X nL k n pc L (.int x :: st) h := by
  subst hq
  intro H locs ls hR hl hL
  exact lv_ineg C.1 C.2.1 hd (g H locs ls hR hl hL)
theorem zg_idiv {E : Wd} {X : Mx} {Y : My} {d mc ms nL k n pc q : Nat} {Q : Option Value → Hp → Prop} {L : List (Option Value)} {st : List Value} {h : Hp} {x y : Int32} (C : zz_C E X Y d mc ms Q) (hd : decode Y.2.1 pc = .ok (.idiv, 1)) (hne : ¬ y = 0) (hq : pc + 1 = q) (g : GG E X nL k n q L (.int (x / y) :: st) h) : GG E X nL k n pc L (.int y :: .int x :: st) h := by
  subst hq
  intro H locs ls hR hl hL
  exact lv_idiv C.1 C.2.1 hd hne (g H locs ls hR hl hL)
theorem zg_irem {E : Wd} {X : Mx} {Y : My} {d mc ms nL k n pc q : Nat} {Q : Option Value → Hp → Prop} {L : List (Option Value)} {st : List Value} {h : Hp} {x y : Int32} (C : zz_C E X Y d mc ms Q) (hd : decode Y.2.1 pc = .ok (.irem, 1)) (hne : ¬ y = 0) (hq : pc + 1 = q) (g : GG E X nL k n q L (.int (x - x / y * y) :: st) h) : GG E X nL k n pc L (.int y :: .int x :: st) h := by
  subst hq
  intro H locs ls hR hl hL
  exact lv_irem C.1 C.2.1 hd hne (g H locs ls hR hl hL)
theorem zg_i2c {E : Wd} {X : Mx} {Y : My} {d mc ms nL k n pc q : Nat} {Q : Option Value → Hp → Prop} {L : List (Option Value)} {st : List Value} {h : Hp} {x : Int32} (C : zz_C E X Y d mc ms Q) (hd : decode Y.2.1 pc = .ok (.i2c, 1))  (hq : pc + 1 = q) (g : GG E X nL k n q L (.int ((x.toUInt32 % 65536).toInt32) :: st) h) : GG E X nL k n pc L (.int x :: st) h := by
  subst hq
  intro H locs ls hR hl hL
  exact lv_i2c C.1 C.2.1 hd rfl (g H locs ls hR hl hL)
theorem zg_dup {E : Wd} {X : Mx} {Y : My} {d mc ms nL k n pc q : Nat} {Q : Option Value → Hp → Prop} {L : List (Option Value)} {st : List Value} {h : Hp} {v : Value} (C : zz_C E X Y d mc ms Q) (hd : decode Y.2.1 pc = .ok (.dup, 1)) (hv : v.category = 1) (hq : pc + 1 = q) (g : GG E X nL k n q L (v :: v :: st) h) : GG E X nL k n pc L (v :: st) h := by
  subst hq
  intro H locs ls hR hl hL
  exact lv_dup C.1 C.2.1 hd hv (g H locs ls hR hl hL)
theorem zg_pop {E : Wd} {X : Mx} {Y : My} {d mc ms nL k n pc q : Nat} {Q : Option Value → Hp → Prop} {L : List (Option Value)} {st : List Value} {h : Hp} {v : Value} (C : zz_C E X Y d mc ms Q) (hd : decode Y.2.1 pc = .ok (.pop, 1)) (hv : v.category = 1) (hq : pc + 1 = q) (g : GG E X nL k n q L (st) h) : GG E X nL k n pc L (v :: st) h := by
  subst hq
  intro H locs ls hR hl hL
  exact lv_pop C.1 C.2.1 hd hv (g H locs ls hR hl hL)
theorem zg_dup2 {E : Wd} {X : Mx} {Y : My} {d mc ms nL k n pc q : Nat} {Q : Option Value → Hp → Prop} {L : List (Option Value)} {st : List Value} {h : Hp} {v w : Value} (C : zz_C E X Y d mc ms Q) (hd : decode Y.2.1 pc = .ok (.dup2, 1)) (hv : v.category = 1) (hw : w.category = 1) (hq : pc + 1 = q) (g : GG E X nL k n q L (v :: w :: v :: w :: st) h) : GG E X nL k n pc L (v :: w :: st) h := by
  subst hq
  intro H locs ls hR hl hL
  exact lv_dup2_11 C.1 C.2.1 hd hv hw (g H locs ls hR hl hL)
theorem zg_icmp_eq {E : Wd} {X : Mx} {Y : My} {d mc ms nL k n pc q t : Nat} {Q : Option Value → Hp → Prop} {L : List (Option Value)} {st : List Value} {h : Hp} {x y : Int32} {off : Int} (C : zz_C E X Y d mc ms Q) (hd : decode Y.2.1 pc = .ok (.if_icmp .eq off, 3)) (ht : (pc : Int) + off = (t : Int)) (hq : pc + 3 = q) (gt : x = y → GG E X nL k n t L st h) (gf : ¬ x = y → GG E X nL k n q L st h) : GG E X nL k n pc L (.int y :: .int x :: st) h := by
  subst hq
  intro H locs ls hR hl hL
  exact lv_icmp_eq C.1 C.2.1 hd ht (fun c => gt c H locs ls hR hl hL) (fun c => gf c H locs ls hR hl hL)
theorem zg_if_eq {E : Wd} {X : Mx} {Y : My} {d mc ms nL k n pc q t : Nat} {Q : Option Value → Hp → Prop} {L : List (Option Value)} {st : List Value} {h : Hp} {x : Int32} {off : Int} (C : zz_C E X Y d mc ms Q) (hd : decode Y.2.1 pc = .ok (.ifCond .eq off, 3)) (ht : (pc : Int) + off = (t : Int)) (hq : pc + 3 = q) (gt : x = 0 → GG E X nL k n t L st h) (gf : ¬ x = 0 → GG E X nL k n q L st h) : GG E X nL k n pc L (.int x :: st) h := by
  subst hq
  intro H locs ls hR hl hL
  exact lv_if_eq C.1 C.2.1 hd ht (fun c => gt c H locs ls hR hl hL) (fun c => gf c H locs ls hR hl hL)
theorem zg_icmp_ne {E : Wd} {X : Mx} {Y : My} {d mc ms nL k n pc q t : Nat} {Q : Option Value → Hp → Prop} {L : List (Option Value)} {st : List Value} {h : Hp} {x y : Int32} {off : Int} (C : zz_C E X Y d mc ms Q) (hd : decode Y.2.1 pc = .ok (.if_icmp .ne off, 3)) (ht : (pc : Int) + off = (t : Int)) (hq : pc + 3 = q) (gt : ¬ x = y → GG E X nL k n t L st h) (gf : x = y → GG E X nL k n q L st h) : GG E X nL k n pc L (.int y :: .int x :: st) h := by
  subst hq
  intro H locs ls hR hl hL
  exact lv_icmp_ne C.1 C.2.1 hd ht (fun c => gt c H locs ls hR hl hL) (fun c => gf c H locs ls hR hl hL)
theorem zg_if_ne {E : Wd} {X : Mx} {Y : My} {d mc ms nL k n pc q t : Nat} {Q : Option Value → Hp → Prop} {L : List (Option Value)} {st : List Value} {h : Hp} {x : Int32} {off : Int} (C : zz_C E X Y d mc ms Q) (hd : decode Y.2.1 pc = .ok (.ifCond .ne off, 3)) (ht : (pc : Int) + off = (t : Int)) (hq : pc + 3 = q) (gt : ¬ x = 0 → GG E X nL k n t L st h) (gf : x = 0 → GG E X nL k n q L st h) : GG E X nL k n pc L (.int x :: st) h := by
  subst hq
  intro H locs ls hR hl hL
  exact lv_if_ne C.1 C.2.1 hd ht (fun c => gt c H locs ls hR hl hL) (fun c => gf c H locs ls hR hl hL)
theorem zg_icmp_lt {E : Wd} {X : Mx} {Y : My} {d mc ms nL k n pc q t : Nat} {Q : Option Value → Hp → Prop} {L : List (Option Value)} {st : List Value} {h : Hp} {x y : Int32} {off : Int} (C : zz_C E X Y d mc ms Q) (hd : decode Y.2.1 pc = .ok (.if_icmp .lt off, 3)) (ht : (pc : Int) + off = (t : Int)) (hq : pc + 3 = q) (gt : x < y → GG E X nL k n t L st h) (gf : ¬ x < y → GG E X nL k n q L st h) : GG E X nL k n pc L (.int y :: .int x :: st) h := by
  subst hq
  intro H locs ls hR hl hL
  exact lv_icmp_lt C.1 C.2.1 hd ht (fun c => gt c H locs ls hR hl hL) (fun c => gf c H locs ls hR hl hL)
theorem zg_if_lt {E : Wd} {X : Mx} {Y : My} {d mc ms nL k n pc q t : Nat} {Q : Option Value → Hp → Prop} {L : List (Option Value)} {st : List Value} {h : Hp} {x : Int32} {off : Int} (C : zz_C E X Y d mc ms Q) (hd : decode Y.2.1 pc = .ok (.ifCond .lt off, 3)) (ht : (pc : Int) + off = (t : Int)) (hq : pc + 3 = q) (gt : x < 0 → GG E X nL k n t L st h) (gf : ¬ x < 0 → GG E X nL k n q L st h) : GG E X nL k n pc L (.int x :: st) h := by
  subst hq
  intro H locs ls hR hl hL
  exact lv_if_lt C.1 C.2.1 hd ht (fun c => gt c H locs ls hR hl hL) (fun c => gf c H locs ls hR hl hL)
theorem zg_icmp_ge {E : Wd} {X : Mx} {Y : My} {d mc ms nL k n pc q t : Nat} {Q : Option Value → Hp → Prop} {L : List (Option Value)} {st : List Value} {h : Hp} {x y : Int32} {off : Int} (C : zz_C E X Y d mc ms Q) (hd : decode Y.2.1 pc = .ok (.if_icmp .ge off, 3)) (ht : (pc : Int) + off = (t : Int)) (hq : pc + 3 = q) (gt : y ≤ x → GG E X nL k n t L st h) (gf : ¬ y ≤ x → GG E X nL k n q L st h) : GG E X nL k n pc L (.int y :: .int x :: st) h := by
  subst hq
  intro H locs ls hR hl hL
  exact lv_icmp_ge C.1 C.2.1 hd ht (fun c => gt c H locs ls hR hl hL) (fun c => gf c H locs ls hR hl hL)
theorem zg_if_ge {E : Wd} {X : Mx} {Y : My} {d mc ms nL k n pc q t : Nat} {Q : Option Value → Hp → Prop} {L : List (Option Value)} {st : List Value} {h : Hp} {x : Int32} {off : Int} (C : zz_C E X Y d mc ms Q) (hd : decode Y.2.1 pc = .ok (.ifCond .ge off, 3)) (ht : (pc : Int) + off = (t : Int)) (hq : pc + 3 = q) (gt : 0 ≤ x → GG E X nL k n t L st h) (gf : ¬ 0 ≤ x → GG E X nL k n q L st h) : GG E X nL k n pc L (.int x :: st) h := by
  subst hq
  intro H locs ls hR hl hL
  exact lv_if_ge C.1 C.2.1 hd ht (fun c => gt c H locs ls hR hl hL) (fun c => gf c H locs ls hR hl hL)
theorem zg_icmp_gt {E : Wd} {X : Mx} {Y : My} {d mc ms nL k n pc q t : Nat} {Q : Option Value → Hp → Prop} {L : List (Option Value)} {st : List Value} {h : Hp} {x y : Int32} {off : Int} (C : zz_C E X Y d mc ms Q) (hd : decode Y.2.1 pc = .ok (.if_icmp .gt off, 3)) (ht : (pc : Int) + off = (t : Int)) (hq : pc + 3 = q) (gt : y < x → GG E X nL k n t L st h) (gf : ¬ y < x → GG E X nL k n q L st h) : GG E X nL k n pc L (.int y :: .int x :: st) h := by
  subst hq
  intro H locs ls hR hl hL
  exact lv_icmp_gt C.1 C.2.1 hd ht (fun c => gt c H locs ls hR hl hL) (fun c => gf c H locs ls hR hl hL)
theorem zg_if_gt {E : Wd} {X : Mx} {Y : My} {d mc ms nL k n pc q t : Nat} {Q : Option Value → Hp → Prop} {L : List (Option Value)} {st : List Value} {h : Hp} {x : Int32} {off : Int} (C : zz_C E X Y d mc ms Q) (hd : decode Y.2.1 pc = .ok (.ifCond .gt off, 3)) (ht : (pc : Int) + off = (t : Int)) (hq : pc + 3 = q) (gt : 0 < x → GG E X nL k n t L st h) (gf : ¬ 0 < x → GG E X nL k n q L st h) : GG E X nL k n pc L (.int x :: st) h := by
  subst hq
  intro H locs ls hR hl hL
  exact lv_if_gt C.1 C.2.1 hd ht (fun c => gt c H locs ls hR hl hL) (fun c => gf c H locs ls hR hl hL)
theorem zg_icmp_le {E : Wd} {X : Mx} {Y : My} {d mc ms nL k n pc q t : Nat} {Q : Option Value → Hp → Prop} {L : List (Option Value)} {st : List Value} {h : Hp} {x y : Int32} {off : Int} (C : zz_C E X Y d mc ms Q) (hd : decode Y.2.1 pc = .ok (.if_icmp .le off, 3)) (ht : (pc : Int) + off = (t : Int)) (hq : pc + 3 = q) (gt : x ≤ y → GG E X nL k n t L st h) (gf : ¬ x ≤ y → GG E X nL k n q L st h) : GG E X nL k n pc L (.int y :: .int x :: st) h := by
  subst hq
  intro H locs ls hR hl hL
  exact lv_icmp_le C.1 C.2.1 hd ht (fun c => gt c H locs ls hR hl hL) (fun c => gf c H locs ls hR hl hL)
theorem zg_if_le {E : Wd} {X : Mx} {Y : My} {d mc ms nL k n pc q t : Nat} {Q : Option Value → Hp → Prop} {L : List (Option Value)} {st : List Value} {h : Hp} {x : Int32} {off : Int} (C : zz_C E X Y d mc ms Q) (hd : decode Y.2.1 pc = .ok (.ifCond .le off, 3)) (ht : (pc : Int) + off = (t : Int)) (hq : pc + 3 = q) (gt : x ≤ 0 → GG E X nL k n t L st h) (gf : ¬ x ≤ 0 → GG E X nL k n q L st h) : GG E X nL k n pc L (.int x :: st) h := by
  subst hq
  intro H locs ls hR hl hL
  exact lv_if_le C.1 C.2.1 hd ht (fun c => gt c H locs ls hR hl hL) (fun c => gf c H locs ls hR hl hL)
theorem zg_goto {E : Wd} {X : Mx} {Y : My} {d mc ms nL k n pc q t : Nat} {Q : Option Value → Hp → Prop} {L : List (Option Value)} {st : List Value} {h : Hp} {off : Int} (C : zz_C E X Y d mc ms Q) (hd : decode Y.2.1 pc = .ok (.goto off, 3)) (ht : (pc : Int) + off = (t : Int)) (g : GG E X nL k n t L st h) : GG E X nL k n pc L st h := by
  intro H locs ls hR hl hL
  exact lv_goto C.1 C.2.1 hd ht (g H locs ls hR hl hL)
theorem zg_nonnull {E : Wd} {X : Mx} {Y : My} {d mc ms nL k n pc q t : Nat} {Q : Option Value → Hp → Prop} {L : List (Option Value)} {st : List Value} {h : Hp} {r : Option Nat} {off : Int} (C : zz_C E X Y d mc ms Q) (hd : decode Y.2.1 pc = .ok (.ifnonnull off, 3)) (ht : (pc : Int) + off = (t : Int)) (hq : pc + 3 = q) (gt : ∀ a, r = some a → GG E X nL k n t L st h) (gf : r = none → GG E X nL k n q L st h) : GG E X nL k n pc L (va_rf r :: st) h := by
  subst hq
  intro H locs ls hR hl hL
  cases r with
  | none => exact lv_ifnonnullN C.1 C.2.1 hd (gf rfl H locs ls hR hl hL)
  | some a => exact lv_ifnonnull C.1 C.2.1 hd ht (gt a rfl H locs ls hR hl hL)
theorem zg_null {E : Wd} {X : Mx} {Y : My} {d mc ms nL k n pc q t : Nat} {Q : Option Value → Hp → Prop} {L : List (Option Value)} {st : List Value} {h : Hp} {r : Option Nat} {off : Int} (C : zz_C E X Y d mc ms Q) (hd : decode Y.2.1 pc = .ok (.ifnull off, 3)) (ht : (pc : Int) + off = (t : Int)) (hq : pc + 3 = q) (gt : r = none → GG E X nL k n t L st h) (gf : ∀ a, r = some a → GG E X nL k n q L st h) : GG E X nL k n pc L (va_rf r :: st) h := by
  subst hq
  intro H locs ls hR hl hL
  cases r with
  | none => exact lv_ifnullN C.1 C.2.1 hd ht (gt rfl H locs ls hR hl hL)
  | some a => exact lv_ifnull C.1 C.2.1 hd (gf a rfl H locs ls hR hl hL)
theorem zg_acmp_eq {E : Wd} {X : Mx} {Y : My} {d mc ms nL k n pc q t : Nat} {Q : Option Value → Hp → Prop} {L : List (Option Value)} {st : List Value} {h : Hp} {r w : Option Nat} {off : Int} (C : zz_C E X Y d mc ms Q) (hd : decode Y.2.1 pc = .ok (.if_acmp .eq off, 3)) (ht : (pc : Int) + off = (t : Int)) (hq : pc + 3 = q) (gt : r = w → GG E X nL k n t L st h) (gf : ¬ r = w → GG E X nL k n q L st h) : GG E X nL k n pc L (va_rf w :: va_rf r :: st) h := by
  subst hq
  intro H locs ls hR hl hL
  exact lv_acmp_eq C.1 C.2.1 hd ht (fun c => gt c H locs ls hR hl hL) (fun c => gf c H locs ls hR hl hL)
theorem zg_acmp_ne {E : Wd} {X : Mx} {Y : My} {d mc ms nL k n pc q t : Nat} {Q : Option Value → Hp → Prop} {L : List (Option Value)} {st : List Value} {h : Hp} {r w : Option Nat} {off : Int} (C : zz_C E X Y d mc ms Q) (hd : decode Y.2.1 pc = .ok (.if_acmp .ne off, 3)) (ht : (pc : Int) + off = (t : Int)) (hq : pc + 3 = q) (gt : ¬ r = w → GG E X nL k n t L st h) (gf : r = w → GG E X nL k n q L st h) : GG E X nL k n pc L (va_rf w :: va_rf r :: st) h := by
  subst hq
  intro H locs ls hR hl hL
  exact lv_acmp_ne C.1 C.2.1 hd ht (fun c => gt c H locs ls hR hl hL) (fun c => gf c H locs ls hR hl hL)
theorem zg_tabOut {E : Wd} {X : Mx} {Y : My} {d mc ms nL k n pc q t : Nat} {Q : Option Value → Hp → Prop} {L : List (Option Value)} {st : List Value} {h : Hp} {x : Int32} {df lo hi : Int} {offs : Array Int} {len : Nat} (C : zz_C E X Y d mc ms Q) (hd : decode Y.2.1 pc = .ok (.tableswitch df lo hi offs, len)) (hx : x.toInt < lo ∨ hi < x.toInt) (ht : (pc : Int) + df = (t : Int)) (g : GG E X nL k n t L st h) : GG E X nL k n pc L (.int x :: st) h := by
  intro H locs ls hR hl hL
  exact lv_tableOut C.1 C.2.1 hd hx ht (g H locs ls hR hl hL)
theorem zg_tabIn {E : Wd} {X : Mx} {Y : My} {d mc ms nL k n pc q t : Nat} {Q : Option Value → Hp → Prop} {L : List (Option Value)} {st : List Value} {h : Hp} {x : Int32} {df lo hi off : Int} {offs : Array Int} {len : Nat} (C : zz_C E X Y d mc ms Q) (hd : decode Y.2.1 pc = .ok (.tableswitch df lo hi offs, len)) (h1 : ¬ x.toInt < lo) (h2 : ¬ hi < x.toInt) (ho : offs[(x.toInt - lo).toNat]? = some off) (ht : (pc : Int) + off = (t : Int)) (g : GG E X nL k n t L st h) : GG E X nL k n pc L (.int x :: st) h := by
  intro H locs ls hR hl hL
  exact lv_tableIn C.1 C.2.1 hd h1 h2 ho ht (g H locs ls hR hl hL)
def vI : Value → Int32
  | .int x => x
  | _ => 0
def vA : Value → Nat
  | .ref a => a
  | _ => 0
def vN : Value → Option Nat
  | .ref a => some a
  | _ => none
def hF (h : Hp) (a j : Nat) : Value := match h.2 a with
  | some (.inr o) => o.2.getD j .null
  | _ => .null
abbrev fI (h : Hp) (a j : Nat) : Int32 := vI (hF h a j)
abbrev fA (h : Hp) (a j : Nat) : Nat := vA (hF h a j)
abbrev fN (h : Hp) (a j : Nat) : Option Nat := vN (hF h a j)
def isO (h : Hp) (a ci : Nat) : Prop := ∃ fs, h.2 a = some (.inr (ci, fs))
def okI (h : Hp) (a ci j : Nat) : Prop := ∃ fs x, h.2 a = some (.inr (ci, fs)) ∧ fs[j]? = some (.int x)
def okA (h : Hp) (a ci j : Nat) : Prop := ∃ fs b, h.2 a = some (.inr (ci, fs)) ∧ fs[j]? = some (.ref b)
def okN (h : Hp) (a ci j : Nat) : Prop := ∃ (fs : List Value) (r : Option Nat), h.2 a = some (.inr (ci, fs)) ∧ fs[j]? = some (va_rf r)
def okP (h : Hp) (a ci j : Nat) : Prop := ∃ fs : List Value, h.2 a = some (.inr (ci, fs)) ∧ j < fs.length
def pF (h : Hp) (a j : Nat) (v : Value) : Hp := (h.1, fun b => if b = a then (match h.2 a with
  | some (.inr o) => some (.inr (o.1, o.2.set j v))
  | z => z) else h.2 b)
def okR (E : Wd) (h : Hp) (a t : Nat) (i : Int32) : Prop := ∃ m f, h.2 a = some (.inl (eA E t, m, .inl f)) ∧ vp_in i m
def okL (E : Wd) (h : Hp) (a t : Nat) : Prop := ∃ m, h.2 a = some (.inl (eA E t, m))
def gA (h : Hp) (a : Nat) (i : Int32) : Int32 := match h.2 a with
  | some (.inl (_, _, .inl f)) => f i.toNatClampNeg
  | _ => 0
def lA (h : Hp) (a : Nat) : Int32 := match h.2 a with
  | some (.inl c) => Int32.ofNat c.2.1
  | _ => 0
def sA (h : Hp) (a : Nat) (i x : Int32) : Hp := (h.1, fun b => if b = a then (match h.2 a with
  | some (.inl (c, m, .inl f)) => some (.inl (c, m, .inl (upd f i.toNatClampNeg x)))
  | z => z) else h.2 b)
def okW (E : Wd) (h : Hp) (a : Nat) (i : Int32) : Prop := ∃ m g b, h.2 a = some (.inl (eA E 2, m, .inr (.inr (.inr (.inr g))))) ∧ vp_in i m ∧ g i.toNatClampNeg = some b
def gW (h : Hp) (a : Nat) (i : Int32) : Nat := match h.2 a with
  | some (.inl (_, _, .inr (.inr (.inr (.inr g))))) => (g i.toNatClampNeg).getD 0
  | _ => 0
def nO (h : Hp) (ci : Nat) (fs : List Value) : Hp := (h.1 + 1, fun b => if b = h.1 then some (.inr (ci, fs)) else h.2 b)
def nA (E : Wd) (h : Hp) (t m : Nat) : Hp := (h.1 + 1, fun b => if b = h.1 then some (.inl (eA E t, m, .inl (fun _ => 0))) else h.2 b)
abbrev nB (x : Int32) : Int32 := vp_nar .boolean x
def mB (x : Int32) : Prop := vp_nar .boolean x = x
def zz_B (ci : Nat) (Cn : String) (T : u_T) (N : Nat) (ty : Nat → FieldType) : Prop := vwCl[ci]? = some (Cn, T, N) ∧ (∀ w ∈ u_ws Cn T N, w ∈ zz_W) ∧ (∀ j, j < N → parseFieldDescriptor (T j).2.2.1 = some (ty j)) ∧ ∀ a, a < N → ∀ b, b < N → a ≠ b → (T a).2.1 ≠ (T b).2.1
theorem zz_Rset {E : Wd} {h h' : Hp} {H H' : Heap} {a : Nat} (hR : zz_R E h H) (h1 : h'.1 = h.1) (h2 : ∀ b, b ≠ a → h'.2 b = h.2 b) (h0 : eZ E ≤ a) (h3 : ∀ o, h'.2 a = some o → va_at (eD E) vwCl (a, o) H') (e2 : H'.size = H.size) (e3 : ∀ q, q ≠ a → H'[q]? = H[q]?) : zz_R E h' H' := by
  obtain ⟨r1, r2, r3, r4, r5⟩ := hR
  refine ⟨by rw [e2, h1]; exact r1, by rw [h1]; exact r2, r3, fun b o hb => ?_, fun q hq => ?_⟩
  · by_cases e : b = a
    · subst e
      exact ⟨h0, h3 o hb⟩
    · rw [h2 b e] at hb
      obtain ⟨g1, g2⟩ := r4 b o hb
      exact ⟨g1, g2.kept (e3 b e)⟩
  · rw [e3 q (by omega)]
    exact r5 q hq
theorem zz_Rnew {E : Wd} {h h' : Hp} {H H' : Heap} (hR : zz_R E h H) (h1 : h'.1 = h.1 + 1) (h2 : ∀ b, b ≠ h.1 → h'.2 b = h.2 b) (h3 : ∀ o, h'.2 h.1 = some o → va_at (eD E) vwCl (h.1, o) H') (e2 : H'.size = h.1 + 1) (e3 : ∀ q, q < h.1 → H'[q]? = H[q]?) : zz_R E h' H' := by
  obtain ⟨r1, r2, r3, r4, r5⟩ := hR
  refine ⟨by rw [e2, h1], by rw [h1]; omega, r3, fun b o hb => ?_, fun q hq => ?_⟩
  · by_cases e : b = h.1
    · subst e
      exact ⟨r2, h3 o hb⟩
    · rw [h2 b e] at hb
      obtain ⟨g1, g2⟩ := r4 b o hb
      have g3 := g2.lt
      rw [r1] at g3
      exact ⟨g1, g2.kept (e3 b g3)⟩
  · rw [e3 q (by omega)]
    exact r5 q hq
section
variable {E : Wd} {X : Mx} {Y : My} {d mc ms nL k n pc q : Nat} {Q : Option Value → Hp → Prop} {L : List (Option Value)} {st : List Value} {h : Hp}
theorem zg_get {ci j a idx N : Nat} {Cn : String} {T : u_T} {ty : Nat → FieldType} {v : Value} (C : zz_C E X Y d mc ms Q) (B : zz_B ci Cn T N ty) (hj : j < N) (hk : Cond.fieldLink Y.1.cls idx (T j).1 (T j).2.1 (T j).2.2.1 ∈ zz_W) (hd : decode Y.2.1 pc = .ok (.getfield idx, 3)) (hq : pc + 3 = q)
    (ho : ∃ fs : List Value, h.2 a = some (.inr (ci, fs)) ∧ fs[j]? = some v) (g : GG E X nL k n q L (v :: st) h) : GG E X nL k n pc L (.ref a :: st) h := by
  subst hq
  obtain ⟨fs, h1, h2⟩ := ho
  intro H locs ls hR hl hL
  have hP : va_P (eD E) vwCl [(a, .inr (ci, fs))] H := fun i x hx => by
    have hz : i < 1 := (List.getElem?_eq_some_iff.mp hx).1
    rw [show i = 0 by omega] at hx
    cases hx
    exact (hR.2.2.2.1 a _ h1).2
  exact va_get (D := eD E) (tys := zz_tys E) (ws := [(a, .inr (ci, fs))]) C.1 C.2.1 C.2.2.2.2.1 B.2.1 C.2.2.2.1 C.2.2.2.2.2.1.1 hP 0 rfl B.1 j hj (C.2.2.2.2.1 _ hk) (fun _ e => e) h2 hd (g H locs ls hR hl hL)
theorem zg_getN {ci j a idx N : Nat} {Cn host : String} {T : u_T} {ty : Nat → FieldType} {v : Value} (C : zz_C E X Y d mc ms Q) (B : zz_B ci Cn T N ty) (hj : j < N) (hk : Cond.fieldLinkNest Y.1.cls idx (T j).1 (T j).2.1 (T j).2.2.1 host ∈ zz_W) (hd : decode Y.2.1 pc = .ok (.getfield idx, 3)) (hq : pc + 3 = q)
    (ho : ∃ fs : List Value, h.2 a = some (.inr (ci, fs)) ∧ fs[j]? = some v) (g : GG E X nL k n q L (v :: st) h) : GG E X nL k n pc L (.ref a :: st) h := by
  subst hq
  obtain ⟨fs, h1, h2⟩ := ho
  intro H locs ls hR hl hL
  have hP : va_P (eD E) vwCl [(a, .inr (ci, fs))] H := fun i x hx => by
    have hz : i < 1 := (List.getElem?_eq_some_iff.mp hx).1
    rw [show i = 0 by omega] at hx
    cases hx
    exact (hR.2.2.2.1 a _ h1).2
  exact va_getN (D := eD E) (tys := zz_tys E) (ws := [(a, .inr (ci, fs))]) C.1 C.2.1 C.2.2.2.2.1 B.2.1 C.2.2.2.1 C.2.2.2.2.2.1.1 hP 0 rfl B.1 j hj (C.2.2.2.2.1 _ hk) (fun _ e => e) h2 hd (g H locs ls hR hl hL)
theorem hF_of {h : Hp} {a ci j : Nat} {fs : List Value} {v : Value} (h1 : h.2 a = some (.inr (ci, fs))) (h2 : fs[j]? = some v) : hF h a j = v := by
  simp [hF, h1, List.getD_eq_getElem?_getD, h2]
theorem okI.get {ci j a : Nat} (ho : okI h a ci j) : ∃ fs : List Value, h.2 a = some (.inr (ci, fs)) ∧ fs[j]? = some (.int (fI h a j)) := by
  obtain ⟨fs, x, h1, h2⟩ := ho
  exact ⟨fs, h1, by rw [fI, hF_of h1 h2]; exact h2⟩
theorem okA.get {ci j a : Nat} (ho : okA h a ci j) : ∃ fs : List Value, h.2 a = some (.inr (ci, fs)) ∧ fs[j]? = some (.ref (fA h a j)) := by
  obtain ⟨fs, x, h1, h2⟩ := ho
  exact ⟨fs, h1, by rw [fA, hF_of h1 h2]; exact h2⟩
theorem okN.get {ci j a : Nat} (ho : okN h a ci j) : ∃ fs : List Value, h.2 a = some (.inr (ci, fs)) ∧ fs[j]? = some (va_rf (fN h a j)) := by
  obtain ⟨fs, x, h1, h2⟩ := ho
  refine ⟨fs, h1, ?_⟩
  rw [fN, hF_of h1 h2, h2]
  cases x <;> rfl
theorem zz_apart {ci N : Nat} {Cn : String} {T : u_T} {ty : Nat → FieldType} (C : zz_C E X Y d mc ms Q) (B : zz_B ci Cn T N ty) : ∀ x y, x < N → y < N → x ≠ y → ((eD E).2 ci) x ≠ ((eD E).2 ci) y :=
  va_apart (own := Cn) C.2.2.2.2.1 B.2.1 ty B.2.2.1 B.2.2.2 C.2.2.2.2.2.1.1 B.1
theorem zz_putR {ci j a N : Nat} {Cn : String} {T : u_T} {ty : Nat → FieldType} {v : Value} {H H' : Heap} {cell : Cell} {fs : List Value} (C : zz_C E X Y d mc ms Q) (B : zz_B ci Cn T N ty) (hj : j < N) (hR : zz_R E h H) (h1 : h.2 a = some (.inr (ci, fs))) (hl : j < fs.length)
    (q1 : H[a]? = some cell) (q2 : cell.cls = (eD E).1 ci) (q3 : cell.vm = .none) (q4 : ∀ i, i < N → cell.slots[(eD E).2 ci i]? = some (vp_V fs i)) (e1 : H'[a]? = some (cell.setSlot ((eD E).2 ci j) v)) (e2 : H'.size = H.size) (e3 : ∀ q, q ≠ a → H'[q]? = H[q]?) : zz_R E (pF h a j v) H' := by
  refine zz_Rset hR rfl (fun b hb => by simp [pF, hb]) (hR.2.2.2.1 a _ h1).1 (fun o ho => ?_) e2 e3
  have ho2 : (pF h a j v).2 a = some (.inr (ci, fs.set j v)) := by simp [pF, h1]
  rw [ho2] at ho
  cases ho
  exact ⟨_, B.1, t_OB.to (V := updV (vp_V fs) j v) ⟨_, e1, q2, q3, t_set q4 (zz_apart C B) hj v⟩ (fun i _ => vp_updV_set hl v i)⟩
theorem zg_put {ci j a idx N : Nat} {Cn : String} {T : u_T} {ty : Nat → FieldType} {v : Value} (C : zz_C E X Y d mc ms Q) (B : zz_B ci Cn T N ty) (hj : j < N) (hk : Cond.fieldLink Y.1.cls idx (T j).1 (T j).2.1 (T j).2.2.1 ∈ zz_W) (hd : decode Y.2.1 pc = .ok (.putfield idx, 3)) (hq : pc + 3 = q)
    (hfin : (T j).2.2.2 = false) (ho : okP h a ci j) (hn : narrow (ty j) v = v) (hfit : fits (ty j) v = true) (g : GG E X nL k n q L st (pF h a j v)) : GG E X nL k n pc L (v :: .ref a :: st) h := by
  subst hq
  obtain ⟨fs, h1, h2⟩ := ho
  intro H locs ls hR hl hL
  obtain ⟨r, h3, cell, q1, q2, q3, q4⟩ := (hR.2.2.2.1 a _ h1).2
  have hr : r = (Cn, T, N) := Option.some.inj (h3.symm.trans B.1)
  subst hr
  obtain ⟨hS, hfc, kC, hkC, hkind⟩ := C.2.2.2.2.2.1.1.1 ci _ B.1
  obtain ⟨cf, kf, fi, f, hi, hsl⟩ := hS j hj
  have hlay := C.2.2.2.2.1 _ (B.2.1 _ (u_in_lay hj))
  unfold u_lay at hlay
  rw [if_neg (by rw [hfin]; decide)] at hlay
  have hst := (u_facts hfc hkC (u_lays C.2.2.2.2.1 B.2.1 hj) hi).1
  have h6 := u_store hfc hkC hkind hlay hi (B.2.2.1 j hj) hn hfit
  refine W.putK C.1 C.2.1 (f := f) ⟨C.2.2.2.1, C.2.2.2.2.1 _ hk, ⟨_, _, _, hi⟩, hst⟩ (by rw [q2]; exact h6) q1 q3 (by rw [hsl]; exact k2_hasslot (q4 j hj)) rfl rfl hd fun H' e1 e2 e3 => ?_
  rw [hsl] at e1 ⊢
  refine g H' _ ls (zz_putR C B hj hR h1 h2 q1 q2 q3 q4 e1 e2 e3) (fun z hz => ?_) hL
  rcases List.mem_append.mp hz with hz | hz
  · exact hl z hz
  · rw [List.mem_singleton] at hz
    rw [hz]
    exact (hR.2.2.2.1 a _ h1).1
theorem zg_putN {ci j a idx N : Nat} {Cn host : String} {T : u_T} {ty : Nat → FieldType} {v : Value} (C : zz_C E X Y d mc ms Q) (B : zz_B ci Cn T N ty) (hj : j < N) (hk : Cond.fieldLinkNest Y.1.cls idx (T j).1 (T j).2.1 (T j).2.2.1 host ∈ zz_W) (hd : decode Y.2.1 pc = .ok (.putfield idx, 3)) (hq : pc + 3 = q)
    (hfin : (T j).2.2.2 = false) (ho : okP h a ci j) (hn : narrow (ty j) v = v) (hfit : fits (ty j) v = true) (g : GG E X nL k n q L st (pF h a j v)) : GG E X nL k n pc L (v :: .ref a :: st) h := by
  subst hq
  obtain ⟨fs, h1, h2⟩ := ho
  intro H locs ls hR hl hL
  obtain ⟨r, h3, cell, q1, q2, q3, q4⟩ := (hR.2.2.2.1 a _ h1).2
  have hr : r = (Cn, T, N) := Option.some.inj (h3.symm.trans B.1)
  subst hr
  obtain ⟨hS, hfc, kC, hkC, hkind⟩ := C.2.2.2.2.2.1.1.1 ci _ B.1
  obtain ⟨cf, kf, fi, f, hi, hsl⟩ := hS j hj
  have hlay := C.2.2.2.2.1 _ (B.2.1 _ (u_in_lay hj))
  unfold u_lay at hlay
  rw [if_neg (by rw [hfin]; decide)] at hlay
  have hst := (u_facts hfc hkC (u_lays C.2.2.2.2.1 B.2.1 hj) hi).1
  have h6 := u_store hfc hkC hkind hlay hi (B.2.2.1 j hj) hn hfit
  refine va_WputK C.1 C.2.1 (f := f) C.2.2.2.1 (C.2.2.2.2.1 _ hk) hi hst (by rw [q2]; exact h6) q1 q3 (by rw [hsl]; exact k2_hasslot (q4 j hj)) rfl rfl hd fun H' e1 e2 e3 => ?_
  rw [hsl] at e1 ⊢
  refine g H' _ ls (zz_putR C B hj hR h1 h2 q1 q2 q3 q4 e1 e2 e3) (fun z hz => ?_) hL
  rcases List.mem_append.mp hz with hz | hz
  · exact hl z hz
  · rw [List.mem_singleton] at hz
    rw [hz]
    exact (hR.2.2.2.1 a _ h1).1
theorem zg_putF {ci j a idx N : Nat} {Cn : String} {T : u_T} {ty : Nat → FieldType} {v : Value} (C : zz_C E X Y d mc ms Q) (B : zz_B ci Cn T N ty) (hj : j < N) (hk : Cond.fieldLink Y.1.cls idx (T j).1 (T j).2.1 (T j).2.2.1 ∈ zz_W) (hd : decode Y.2.1 pc = .ok (.putfield idx, 3)) (hq : pc + 3 = q)
    (hfin : (T j).2.2.2 = true) (hin : Y.1.name = "<init>") (hdecl : (T j).1 = Y.1.cls) (ho : okP h a ci j) (hn : narrow (ty j) v = v) (hfit : fits (ty j) v = true) (g : GG E X nL k n q L st (pF h a j v)) : GG E X nL k n pc L (v :: .ref a :: st) h := by
  subst hq
  obtain ⟨fs, h1, h2⟩ := ho
  intro H locs ls hR hl hL
  obtain ⟨r, h3, cell, q1, q2, q3, q4⟩ := (hR.2.2.2.1 a _ h1).2
  have hr : r = (Cn, T, N) := Option.some.inj (h3.symm.trans B.1)
  subst hr
  obtain ⟨hS, hfc, kC, hkC, hkind⟩ := C.2.2.2.2.2.1.1.1 ci _ B.1
  obtain ⟨cf, kf, fi, f, hi, hsl⟩ := hS j hj
  have hlay := C.2.2.2.2.1 _ (B.2.1 _ (u_in_lay hj))
  unfold u_lay at hlay
  rw [if_pos hfin] at hlay
  have hst := (u_facts hfc hkC (u_lays C.2.2.2.2.1 B.2.1 hj) hi).1
  have hcf : (xM X).cls = cf := by
    obtain ⟨_, _, c', _, _, _, -, -, hf', -, -, -, hown2, -⟩ := Cond.laysFinal_spec hlay
    have e1 : c' = cf := by have := hi.symm.trans hf'; simp at this; exact this.1.symm
    rw [hdecl] at hown2
    rw [← e1]; exact Option.some.inj (C.2.2.2.1.symm.trans hown2)
  have h6 := u_fits hfc hkC hkind (Or.inr hlay) hi (B.2.2.1 j hj) hn hfit
  refine W.putFinK C.1 C.2.1 C.2.2.2.1 (C.2.2.2.2.1 _ hk) hi hst hcf (C.2.2.2.2.2.2.2.2.2.1.trans hin) (by rw [q2]; exact h6) q1 q3 (by rw [hsl]; exact k2_hasslot (q4 j hj)) rfl rfl hd fun H' e1 e2 e3 => ?_
  rw [hsl] at e1 ⊢
  refine g H' _ ls (zz_putR C B hj hR h1 h2 q1 q2 q3 q4 e1 e2 e3) (fun z hz => ?_) hL
  rcases List.mem_append.mp hz with hz | hz
  · exact hl z hz
  · rw [List.mem_singleton] at hz
    rw [hz]
    exact (hR.2.2.2.1 a _ h1).1
end
section
variable {E : Wd} {X : Mx} {Y : My} {d mc ms nL k n pc q : Nat} {Q : Option Value → Hp → Prop} {L : List (Option Value)} {st : List Value} {h : Hp}
theorem zz_hP {a : Nat} {o : va_E} {H : Heap} (hR : zz_R E h H) (h1 : h.2 a = some o) : va_P (eD E) vwCl [(a, o)] H := fun i x hx => by
  have hz : i < 1 := (List.getElem?_eq_some_iff.mp hx).1
  rw [show i = 0 by omega] at hx
  cases hx
  exact (hR.2.2.2.1 a _ h1).2
theorem gA_of {a m : Nat} {c : ClassId} {f : Nat → Int32} {i : Int32} (h1 : h.2 a = some (.inl (c, m, .inl f))) : gA h a i = f i.toNatClampNeg := by simp [gA, h1]
theorem sA_of {a m : Nat} {c : ClassId} {f : Nat → Int32} {i x : Int32} (h1 : h.2 a = some (.inl (c, m, .inl f))) : (sA h a i x).2 a = some (.inl (c, m, .inl (upd f i.toNatClampNeg x))) := by simp [sA, h1]
theorem zg_iald {a : Nat} {i : Int32} (C : zz_C E X Y d mc ms Q) (hd : decode Y.2.1 pc = .ok (.iaload, 1)) (hq : pc + 1 = q) (ho : okR E h a 0 i) (g : GG E X nL k n q L (.int (gA h a i) :: st) h) : GG E X nL k n pc L (.int i :: .ref a :: st) h := by
  subst hq
  obtain ⟨m, f, h1, h2⟩ := ho
  intro H locs ls hR hl hL
  rw [gA_of h1] at g
  exact va_iald C.1 C.2.1 C.2.2.2.2.2.1.1 (zz_hP hR h1) 0 0 rfl rfl h2 hd (g H locs ls hR hl hL)
theorem zg_zald {a : Nat} {i : Int32} (C : zz_C E X Y d mc ms Q) (hd : decode Y.2.1 pc = .ok (.baload, 1)) (hq : pc + 1 = q) (ho : okR E h a 1 i) (g : GG E X nL k n q L (.int (gA h a i) :: st) h) : GG E X nL k n pc L (.int i :: .ref a :: st) h := by
  subst hq
  obtain ⟨m, f, h1, h2⟩ := ho
  intro H locs ls hR hl hL
  rw [gA_of h1] at g
  exact va_zald C.1 C.2.1 C.2.2.2.2.2.1.1 (zz_hP hR h1) 0 1 rfl rfl h2 hd (g H locs ls hR hl hL)
theorem zz_stR {a m : Nat} {c : ClassId} {f : Nat → Int32} {i x : Int32} {H H' : Heap} (hR : zz_R E h H) (h1 : h.2 a = some (.inl (c, m, .inl f))) (e1 : H'[a]? = some (vp_cell c (m, .inl (upd f i.toNatClampNeg x)))) (e2 : H'.size = H.size) (e3 : ∀ q, q ≠ a → H'[q]? = H[q]?) : zz_R E (sA h a i x) H' := by
  refine zz_Rset hR rfl (fun b hb => by simp [sA, hb]) (hR.2.2.2.1 a _ h1).1 (fun o ho => ?_) e2 e3
  rw [sA_of h1] at ho
  cases ho
  exact e1
theorem zg_iast {a : Nat} {i x : Int32} (C : zz_C E X Y d mc ms Q) (hd : decode Y.2.1 pc = .ok (.iastore, 1)) (hq : pc + 1 = q) (ho : okR E h a 0 i) (g : GG E X nL k n q L st (sA h a i x)) : GG E X nL k n pc L (.int x :: .int i :: .ref a :: st) h := by
  subst hq
  obtain ⟨m, f, h1, h2⟩ := ho
  intro H locs ls hR hl hL
  refine W.iast C.1 C.2.1 (zz_hP hR h1 0 _ rfl) ((C.2.2.2.2.2.1.1.2 0 _ rfl).1 m (fun j => .int (f j))) (fun q => by cases q) (by show ¬ (i < 0 ∨ (arrV _ _ _).slots.size ≤ _); rw [arrV_size]; exact h2) rfl rfl hd fun H1 e z oq => ?_
  refine g H1 _ ls (zz_stR hR h1 ?_ z oq) (fun z hz => ?_) hL
  · rw [e, vp_cell_i, vp_cell_i, arrV_store]
    congr 2
    funext q
    by_cases hq : q = i.toNatClampNeg
    · subst hq
      simp [updV, upd]
    · simp [updV, upd, hq]
  · rcases List.mem_append.mp hz with hz | hz
    · exact hl z hz
    · rw [List.mem_singleton] at hz
      rw [hz]
      exact (hR.2.2.2.1 a _ h1).1
theorem zg_zast {a : Nat} {i x : Int32} (C : zz_C E X Y d mc ms Q) (hd : decode Y.2.1 pc = .ok (.bastore, 1)) (hq : pc + 1 = q) (ho : okR E h a 1 i) (g : GG E X nL k n q L st (sA h a i (nB x))) : GG E X nL k n pc L (.int x :: .int i :: .ref a :: st) h := by
  subst hq
  obtain ⟨m, f, h1, h2⟩ := ho
  intro H locs ls hR hl hL
  refine W.zast C.1 C.2.1 (zz_hP hR h1 0 _ rfl) ((C.2.2.2.2.2.1.1.2 1 _ rfl).1 m (fun j => .int (f j))) (fun q => by cases q) (by show ¬ (i < 0 ∨ (arrV _ _ _).slots.size ≤ _); rw [arrV_size]; exact h2) rfl rfl hd fun H1 e z oq => ?_
  refine g H1 _ ls (zz_stR hR h1 ?_ z oq) (fun z hz => ?_) hL
  · rw [e, vp_cell_i, vp_cell_i, arrV_store]
    congr 2
    funext q
    by_cases hq : q = i.toNatClampNeg
    · subst hq
      simp [updV, upd, nB, vp_nar]
      try rfl
    · simp [updV, upd, hq]
  · rcases List.mem_append.mp hz with hz | hz
    · exact hl z hz
    · rw [List.mem_singleton] at hz
      rw [hz]
      exact (hR.2.2.2.1 a _ h1).1
theorem zg_alen {a t : Nat} (C : zz_C E X Y d mc ms Q) (ht : t < 3) (hd : decode Y.2.1 pc = .ok (.arraylength, 1)) (hq : pc + 1 = q) (ho : okL E h a t) (g : GG E X nL k n q L (.int (lA h a) :: st) h) : GG E X nL k n pc L (.ref a :: st) h := by
  subst hq
  obtain ⟨m, h1⟩ := ho
  intro H locs ls hR hl hL
  have e : lA h a = Int32.ofNat m.1 := by simp [lA, h1]
  rw [e] at g
  obtain ⟨ty, hty⟩ : ∃ ty, (zz_tys E)[t]? = some (eA E t, ty) := by
    match t, ht with
    | 0, _ => exact ⟨_, rfl⟩
    | 1, _ => exact ⟨_, rfl⟩
    | 2, _ => exact ⟨_, rfl⟩
  exact va_alen C.1 C.2.1 C.2.2.2.2.2.1.1 (zz_hP hR h1) 0 t rfl hty rfl hd (g H locs ls hR hl hL)
theorem gW_of {a m b : Nat} {c : ClassId} {f : Nat → Option Nat} {i : Int32} (h1 : h.2 a = some (.inl (c, m, .inr (.inr (.inr (.inr f)))))) (h2 : f i.toNatClampNeg = some b) : gW h a i = b := by simp [gW, h1, h2]
theorem zg_aald {a : Nat} {i : Int32} (C : zz_C E X Y d mc ms Q) (hd : decode Y.2.1 pc = .ok (.aaload, 1)) (hq : pc + 1 = q) (ho : okW E h a i) (g : GG E X nL k n q L (.ref (gW h a i) :: st) h) : GG E X nL k n pc L (.int i :: .ref a :: st) h := by
  subst hq
  obtain ⟨m, f, b, h1, h2, h3⟩ := ho
  intro H locs ls hR hl hL
  rw [gW_of h1 h3] at g
  have hlt : i.toNatClampNeg < m := Nat.not_le.mp fun q => h2 (Or.inr q)
  exact W.aald (v := .ref b) C.1 C.2.1 (zz_hP hR h1 0 _ rfl) ((C.2.2.2.2.2.1.1.2 2 _ rfl).1 m (fun j => va_rf (f j))) rfl (fun q => by cases q) (by show ¬ (i < 0 ∨ (arrV _ _ _).slots.size ≤ _); rw [arrV_size]; exact h2) (by show (arrV _ _ _).slots[_]? = _; rw [arrV_read _ _ hlt, h3]; rfl) rfl rfl hd (g H locs ls hR hl hL)
theorem zg_new {ci idx N : Nat} {Cn : String} {T : u_T} {ty : Nat → FieldType} {fs : List Value} (C : zz_C E X Y d mc ms Q) (B : zz_B ci Cn T N ty) (hk : Cond.classLink Y.1.cls idx Cn ∈ zz_W ∧ Cond.instantiable Cn N ∈ zz_W ∧ Cond.initialized Cn ∈ zz_W) (hfs : ∀ j, j < N → defaultValue (ty j) = vp_V fs j) (hd : decode Y.2.1 pc = .ok (.new idx, 3)) (hq : pc + 3 = q)
    (hc : k + 1 ≤ mc ∧ n + N ≤ ms) (g : GG E X nL (k + 1) (n + N) q L (.ref h.1 :: st) (nO h ci fs)) : GG E X nL k n pc L st h := by
  subst hq
  intro H locs ls hR hl hL
  have hKn := C.2.2.2.2.2.1.1.1 ci _ B.1
  have hr := C.2.2.2.2.2.2.1
  refine W.newcK C.1 C.2.1 C.2.2.2.1 (C.2.2.2.2.1 _ hk.1) (C.2.2.2.2.1 _ hk.2.1) (C.2.2.2.2.1 _ hk.2.2) rfl hd (by rw [hr]; exact hc.1) (by rw [hr]; exact hc.2) hKn.2.1 hR.1 fun H1 kC hkC e1 z1 o1 => ?_
  refine g H1 locs ls (zz_Rnew hR rfl (fun b hb => by simp [nO, hb]) (fun o ho => ?_) z1 o1) hl hL
  have ho2 : (nO h ci fs).2 h.1 = some (.inr (ci, fs)) := by simp [nO]
  rw [ho2] at ho
  cases ho
  exact ⟨_, B.1, (u_born ty C.2.2.2.2.1 B.2.1 hKn hkC e1 B.2.2.1).to hfs⟩
theorem zz_nar {t : Nat} {at' : ArrayType} {ty : FieldType} {m : Nat} {c : Int32} (C : zz_C E X Y d mc ms Q) (hty : newarray.typeOf at' = ty) (hk : Cond.arrayClass ty ∈ zz_W) (htys : (zz_tys E)[t]? = some (eA E t, ty)) (hdef : defaultValue ty = .int 0) (hnm : ∀ (U : State) (cA : ClassId), va_RA U cA ty → U.vm.findClass ("[" ++ ty.toString) = some cA) (hd : decode Y.2.1 pc = .ok (.newarray at', 2)) (hq : pc + 2 = q)
    (hn : ¬ c < 0) (hm : c.toNatClampNeg = m) (hby : m * componentBytes ty ≤ 536870912) (hc : k + 1 ≤ mc ∧ n + m ≤ ms) (g : GG E X nL (k + 1) (n + m) q L (.ref h.1 :: st) (nA E h t m)) : GG E X nL k n pc L (.int c :: st) h := by
  subst hq
  subst hty
  intro H locs ls hR hl hL
  have hr := C.2.2.2.2.2.2.1
  refine va_newaK C.1 C.2.1 (C.2.2.2.2.1 _ hk) rfl hd rfl hn hm hby (by rw [hr]; exact hc.1) (by rw [hr]; exact hc.2) hR.1 fun H1 cA e1 z1 o1 hAr hNm => ?_
  have hA := hnm _ _ (C.2.2.2.2.2.1.1.2 t _ htys).2
  have hcA : cA = eA E t := Option.some.inj (hNm.symm.trans hA)
  subst hcA
  refine g H1 locs ls (zz_Rnew hR rfl (fun b hb => by simp [nA, hb]) (fun o ho => ?_) z1 o1) hl hL
  have ho2 : (nA E h t m).2 h.1 = some (.inl (eA E t, m, .inl (fun _ => 0))) := by simp [nA]
  rw [ho2] at ho
  cases ho
  show H1[h.1]? = some (vp_cell _ _)
  rw [e1, vp_cell_i, hdef]
theorem zg_newI {m : Nat} {c : Int32} (C : zz_C E X Y d mc ms Q) (hk : Cond.arrayClass .int ∈ zz_W) (hd : decode Y.2.1 pc = .ok (.newarray .int, 2)) (hq : pc + 2 = q)
    (hn : ¬ c < 0) (hm : c.toNatClampNeg = m) (hby : m * 4 ≤ 536870912) (hc : k + 1 ≤ mc ∧ n + m ≤ ms) (g : GG E X nL (k + 1) (n + m) q L (.ref h.1 :: st) (nA E h 0 m)) : GG E X nL k n pc L (.int c :: st) h :=
  zz_nar (t := 0) (at' := .int) C rfl hk rfl rfl (fun _ _ e => e) hd hq hn hm hby hc g
theorem zg_newZ {m : Nat} {c : Int32} (C : zz_C E X Y d mc ms Q) (hk : Cond.arrayClass .boolean ∈ zz_W) (hd : decode Y.2.1 pc = .ok (.newarray .boolean, 2)) (hq : pc + 2 = q)
    (hn : ¬ c < 0) (hm : c.toNatClampNeg = m) (hby : m * 1 ≤ 536870912) (hc : k + 1 ≤ mc ∧ n + m ≤ ms) (g : GG E X nL (k + 1) (n + m) q L (.ref h.1 :: st) (nA E h 1 m)) : GG E X nL k n pc L (.int c :: st) h :=
  zz_nar (t := 1) (at' := .boolean) C rfl hk rfl rfl (fun _ _ e => e) hd hq hn hm hby hc g
theorem zg_objInit {a idx : Nat} (C : zz_C E X Y d mc ms Q) (hk : Cond.methodLink Y.1.cls idx Lib.objectInit ∈ zz_W ∧ Cond.instanceMethod Lib.objectInit ∈ zz_W ∧ Cond.code Lib.objectInit ⟨#[0xb1]⟩ 1 none ∈ zz_W) (hnL : Y.2.2.1 = nL) (hd1 : 1 ≤ d) (hst : st.length ≤ 4) (hd : decode Y.2.1 pc = .ok (.invokespecial idx, 3)) (hq : pc + 3 = q)
    (g : GG E X nL k n q L st h) : GG E X nL k n pc L (.ref a :: st) h := by
  subst hq
  intro H locs ls hR hl hL
  have hr := C.2.2.2.2.2.2.1
  have hcat : (st.map fun v => v.category).sum ≤ 2 * st.length := by
    clear hst g
    induction st with
    | nil => simp
    | cons v st ih =>
      have := lv_cat v
      simp only [List.map_cons, List.sum_cons, List.length_cons]
      omega
  refine W.objInit C.1 C.2.1 C.2.2.2.1 (C.2.2.2.2.1 _ hk.1) (C.2.2.2.2.1 _ hk.2.1) (C.2.2.2.2.1 _ hk.2.2) rfl (by show ls.size = _; rw [hL.1, C.2.2.1, hnL]) rfl hd (by rw [hr]; exact hd1) (by rw [hr]; show 2 * (F0 _ _ _ _).monitorRoom + _ + 12 ≤ 40 * d; have e0 : (F0 (xM X) pc ls (.ref a :: st)).monitorRoom = 0 := rfl; rw [e0]; omega) ?_
  exact W.eq rfl (g H locs ls hR hl hL)
theorem zg_iret {x : Int32} (C : zz_C E X Y d mc ms Q) (hret : Y.2.2.2 = some .int) (hd : decode Y.2.1 pc = .ok (.ireturn, 1)) (hc : k ≤ mc ∧ n ≤ ms) (hQ : Q (some (.int x)) h) : GG E X nL k n pc L [.int x] h := by
  intro H locs ls hR hl hL
  obtain ⟨c1, c2, c3, c4, c5, c6, c7, c8, c9, c10, c11⟩ := C
  show W _ _ _ _ _ _ _ _ _ _ _ _ _ _ (xQ X) _
  rw [c11]
  exact W.widen hc.1 hc.2 (W.iret c1 c2 (c8.trans hret) (fun t ht hW => ⟨_, h, rfl, by rw [ht]; exact hR, hQ⟩) hl hd c9)
theorem zg_zret {x : Int32} (C : zz_C E X Y d mc ms Q) (hret : Y.2.2.2 = some .boolean) (hd : decode Y.2.1 pc = .ok (.ireturn, 1)) (hc : k ≤ mc ∧ n ≤ ms) (hx : mB x) (hQ : Q (some (.int x)) h) : GG E X nL k n pc L [.int x] h := by
  intro H locs ls hR hl hL
  obtain ⟨c1, c2, c3, c4, c5, c6, c7, c8, c9, c10, c11⟩ := C
  show W _ _ _ _ _ _ _ _ _ _ _ _ _ _ (xQ X) _
  rw [c11]
  refine W.widen hc.1 hc.2 (W.zret c1 c2 (c8.trans hret) ?_ (fun t ht hW => ⟨_, h, rfl, by rw [ht]; exact hR, hQ⟩) hl hd c9)
  have e : narrow .boolean (.int x) = .int (vp_nar .boolean x) := rfl
  rw [e, hx]
theorem zg_vret (C : zz_C E X Y d mc ms Q) (hret : Y.2.2.2 = none) (hd : decode Y.2.1 pc = .ok (.return_, 1)) (hc : k ≤ mc ∧ n ≤ ms) (hQ : Q none h) : GG E X nL k n pc L [] h := by
  intro H locs ls hR hl hL
  obtain ⟨c1, c2, c3, c4, c5, c6, c7, c8, c9, c10, c11⟩ := C
  show W _ _ _ _ _ _ _ _ _ _ _ _ _ _ (xQ X) _
  rw [c11]
  exact W.widen hc.1 hc.2 (W.vret c1 c2 (c8.trans hret) (fun t ht hW => ⟨_, h, rfl, by rw [ht]; exact hR, hQ⟩) hl hd c9)
theorem zg_aret {r : Option Nat} {nm : String} (C : zz_C E X Y d mc ms Q) (hret : Y.2.2.2 = some (.object nm)) (hd : decode Y.2.1 pc = .ok (.areturn, 1)) (hc : k ≤ mc ∧ n ≤ ms) (hQ : Q (some (va_rf r)) h) : GG E X nL k n pc L [va_rf r] h := by
  intro H locs ls hR hl hL
  obtain ⟨c1, c2, c3, c4, c5, c6, c7, c8, c9, c10, c11⟩ := C
  show W _ _ _ _ _ _ _ _ _ _ _ _ _ _ (xQ X) _
  rw [c11]
  exact W.widen hc.1 hc.2 (W.aret c1 c2 (c8.trans hret) (Or.inl ⟨_, rfl⟩) (by cases r; exact Or.inl rfl; exact Or.inr ⟨_, rfl⟩) (fun t ht hW => ⟨_, h, rfl, by rw [ht]; exact hR, hQ⟩) hl hd c9)
theorem zz_sum : ∀ (st : List Value), st.length ≤ 4 → (st.map fun v => v.category).sum ≤ 8 := by
  have h : ∀ st : List Value, (st.map fun v => v.category).sum ≤ 2 * st.length := by
    intro st
    induction st with
    | nil => simp
    | cons v st ih =>
      have := lv_cat v
      simp only [List.map_cons, List.sum_cons, List.length_cons]
      omega
  intro st hs
  have := h st
  omega
theorem zz_cont {H : Heap} {locs : List Loc} {ls : Array Slot} {mc' ms' : Nat} {st0 rest : List Value} {a : Array Value} {Q' : Option Value → Hp → Prop} (hq : pc + 3 = q)
    (hr : va_Run (xP X) (eL E) (xE X) (xR X) (xS X) (xM X) (xA X) (xB X) (xT X) (xC X) H locs k n mc' ms' (F0 (xM X) pc ls st0) rest (zz_Q E Q' a) (fun q => eZ E ≤ q)) (hl : ∀ q ∈ locs, eZ E ≤ q.base) (hL : zz_L ls nL L)
    (kk : ∀ r h', Q' r h' → GG E X nL (k + mc') (n + ms') q L (r.toList ++ rest) h') : xW E X H locs k n pc ls st0 := by
  subst hq
  intro T hT S
  obtain ⟨v, st₀, t, T', L', h0, S', hL', e1, e2, ⟨r, h', hv, hR', hq⟩, go⟩ := hr T hT S
  cases hv
  obtain ⟨t2, a1, b1⟩ := kk v h' hq T'.heap (locs ++ L') ls (by rw [e1]; exact hR') (fun z hz => by
    rcases List.mem_append.mp hz with hz | hz
    · exact hl z hz
    · exact hL' z hz) hL T' rfl S'
  exact ⟨t2, go t2 a1, b1⟩
theorem zz_blind {av : List Value} : FrameBlind (zz_P E av h) := fun a U g mk q => ⟨q.1, zz_K.same rfl q.2.1, q.2.2⟩
theorem zz_callB {Yc : My} {np idx d' mc' ms' : Nat} (C : zz_C E X Y d mc ms Q) (M : zz_M Yc np) (hk : Cond.methodLink Y.1.cls idx Yc.1 ∈ zz_W) (hd1 : d' + 1 ≤ d) : CallB (xR X) (xS X) (xA X) Y.1.cls idx Yc.1 Yc.2.1 Yc.2.2.1 Yc.2.2.2 (.code Yc.1 Yc.2.1 Yc.2.2.1 Yc.2.2.2 :: zz_W) (zz_rm d' mc' ms') mc' ms' np := by
  refine callB_of np C.2.2.2.2.1 (zz_goodIn M.2.1) rfl rfl rfl (C.2.2.2.2.1 _ M.2.2.1) (C.2.2.2.2.1 _ hk) M.2.2.2.1 ?_
  have hm := M.2.2.2.2
  rw [C.2.2.2.2.2.2.1]
  exact ⟨hd1, by show 8 + (_ + 11) + 40 * d' ≤ 40 * d; omega⟩
theorem zz_callN {Yc : My} {np idx d' mc' ms' : Nat} {host : String} (C : zz_C E X Y d mc ms Q) (M : zz_M Yc np) (hk : Cond.methodLinkNest Y.1.cls idx Yc.1 host ∈ zz_W) (hd1 : d' + 1 ≤ d) : va_CN (xR X) (xS X) (xA X) Y.1.cls idx Yc.1 host Yc.2.1 Yc.2.2.1 Yc.2.2.2 (.code Yc.1 Yc.2.1 Yc.2.2.1 Yc.2.2.2 :: zz_W) (zz_rm d' mc' ms') mc' ms' np := by
  refine va_cnB np C.2.2.2.2.1 (zz_goodIn M.2.1) rfl rfl rfl (va_Nw.of rfl (C.2.2.2.2.1 _ hk)) (C.2.2.2.2.1 _ M.2.2.1) M.2.2.2.1 ?_
  have hm := M.2.2.2.2
  rw [C.2.2.2.2.2.2.1]
  exact ⟨hd1, by show 8 + (_ + 11) + 40 * d' ≤ 40 * d; omega⟩
theorem zz_callV {Yc : My} {np idx d' mc' ms' b ci N : Nat} {T : u_T} {av st0 rest : List Value} {Q' : Option Value → Hp → Prop} (C : zz_C E X Y d mc ms Q) (M : zz_M Yc np) (V : zz_V Yc) (hk : Cond.methodLink Y.1.cls idx Yc.1 ∈ zz_W) (hnL : Y.2.2.1 = nL) (hci : vwCl[ci]? = some (Yc.1.cls, T, N)) (ho : isO h b ci) (hn : av.length = np) (hst : st0 = av.reverse ++ .ref b :: rest) (hrest : rest.length ≤ 4) (hd1 : d' + 1 ≤ d)
    (hd : decode Y.2.1 pc = .ok (.invokevirtual idx, 3)) (hq : pc + 3 = q) (hc : k + mc' ≤ mc ∧ n + ms' ≤ ms) (ok : Ok E Yc d' mc' ms' (.ref b :: av) h Q') (kk : ∀ r h', Q' r h' → GG E X nL (k + mc') (n + ms') q L (r.toList ++ rest) h') : GG E X nL k n pc L st0 h := by
  obtain ⟨fs, h1⟩ := ho
  intro H locs ls hR hl hL
  have hr := C.2.2.2.2.2.2.1
  refine zz_cont hq (va_runV (As := av) (rest := rest) (C := Yc.1.cls) ⟨C.1, C.2.1, C.2.2.1, C.2.2.2.1, C.2.2.2.2.1⟩ ok ⟨zz_callB C M hk hd1, C.2.2.2.2.1 _ V.1, C.2.2.2.2.1 _ V.2⟩ ⟨zz_blind, va_recv C.2.2.2.2.2.1.1 (zz_hP hR h1) (ci := ci) (q0 := 0) hci rfl, fun U hU hW => ⟨rfl, zz_K.moved hW C.2.2.2.2.2.1, by rw [hU]; exact hR⟩⟩ rfl hn (by show ls.size = _; rw [hL.1, hnL]) hst (lv_room (zz_sum rest hrest)) hd (by rw [hr]; exact hc)) hl hL kk
theorem zz_callS {Yc : My} {np idx d' mc' ms' : Nat} {av st0 rest : List Value} {Q' : Option Value → Hp → Prop} (C : zz_C E X Y d mc ms Q) (M : zz_M Yc np) (V : Cond.static Yc.1 ∈ zz_W) (hk : Cond.methodLink Y.1.cls idx Yc.1 ∈ zz_W) (hnL : Y.2.2.1 = nL) (hn : av.length = np) (hst : st0 = av.reverse ++ rest) (hrest : rest.length ≤ 4) (hd1 : d' + 1 ≤ d)
    (hd : decode Y.2.1 pc = .ok (.invokestatic idx, 3)) (hq : pc + 3 = q) (hc : k + mc' ≤ mc ∧ n + ms' ≤ ms) (ok : Ok E Yc d' mc' ms' av h Q') (kk : ∀ r h', Q' r h' → GG E X nL (k + mc') (n + ms') q L (r.toList ++ rest) h') : GG E X nL k n pc L st0 h := by
  intro H locs ls hR hl hL
  have hr := C.2.2.2.2.2.2.1
  refine zz_cont hq (va_runS (As := av) (rest := rest) ⟨C.1, C.2.1, C.2.2.1, C.2.2.2.1, C.2.2.2.2.1⟩ ok ⟨zz_callB C M hk hd1, C.2.2.2.2.1 _ V⟩ ⟨zz_blind, fun U hU hW => ⟨rfl, zz_K.moved hW C.2.2.2.2.2.1, by rw [hU]; exact hR⟩⟩ rfl hn (by show ls.size = _; rw [hL.1, hnL]) hst (lv_room (zz_sum rest hrest)) hd (by rw [hr]; exact hc)) hl hL kk
theorem zz_callSN {Yc : My} {np idx d' mc' ms' : Nat} {host : String} {av st0 rest : List Value} {Q' : Option Value → Hp → Prop} (C : zz_C E X Y d mc ms Q) (M : zz_M Yc np) (V : Cond.static Yc.1 ∈ zz_W) (hk : Cond.methodLinkNest Y.1.cls idx Yc.1 host ∈ zz_W) (hnL : Y.2.2.1 = nL) (hn : av.length = np) (hst : st0 = av.reverse ++ rest) (hrest : rest.length ≤ 4) (hd1 : d' + 1 ≤ d)
    (hd : decode Y.2.1 pc = .ok (.invokestatic idx, 3)) (hq : pc + 3 = q) (hc : k + mc' ≤ mc ∧ n + ms' ≤ ms) (ok : Ok E Yc d' mc' ms' av h Q') (kk : ∀ r h', Q' r h' → GG E X nL (k + mc') (n + ms') q L (r.toList ++ rest) h') : GG E X nL k n pc L st0 h := by
  intro H locs ls hR hl hL
  have hr := C.2.2.2.2.2.2.1
  refine zz_cont hq (va_runSN (As := av) (rest := rest) ⟨C.1, C.2.1, C.2.2.1, C.2.2.2.1, C.2.2.2.2.1⟩ ok ⟨zz_callN C M hk hd1, C.2.2.2.2.1 _ V, trivial⟩ ⟨zz_blind, fun U hU hW => ⟨rfl, zz_K.moved hW C.2.2.2.2.2.1, by rw [hU]; exact hR⟩⟩ rfl hn (by show ls.size = _; rw [hL.1, hnL]) hst (lv_room (zz_sum rest hrest)) hd (by rw [hr]; exact hc)) hl hL kk
theorem zz_callI {Yc : My} {np idx d' mc' ms' b : Nat} {av st0 rest : List Value} {Q' : Option Value → Hp → Prop} (C : zz_C E X Y d mc ms Q) (M : zz_M Yc np) (V : zz_I Yc) (hv : Yc.2.2.2 = none) (hk : Cond.methodLink Y.1.cls idx Yc.1 ∈ zz_W) (hnL : Y.2.2.1 = nL) (hn : av.length = np) (hst : st0 = av.reverse ++ .ref b :: rest) (hrest : rest.length ≤ 4) (hd1 : d' + 1 ≤ d)
    (hd : decode Y.2.1 pc = .ok (.invokespecial idx, 3)) (hq : pc + 3 = q) (hc : k + mc' ≤ mc ∧ n + ms' ≤ ms) (ok : Ok E Yc d' mc' ms' (.ref b :: av) h Q') (kk : ∀ r h', Q' r h' → GG E X nL (k + mc') (n + ms') q L (r.toList ++ rest) h') : GG E X nL k n pc L st0 h := by
  intro H locs ls hR hl hL
  have hr := C.2.2.2.2.2.2.1
  have hB := zz_callB (mc' := mc') (ms' := ms') C M hk hd1
  rw [hv] at hB
  unfold Ok at ok
  rw [hv] at ok
  refine zz_cont hq (va_runI (As := av) (rest := rest) ⟨C.1, C.2.1, C.2.2.1, C.2.2.2.1, C.2.2.2.2.1⟩ ok ⟨hB, V.1, C.2.2.2.2.1 _ V.2⟩ ⟨zz_blind, fun U hU hW => ⟨rfl, zz_K.moved hW C.2.2.2.2.2.1, by rw [hU]; exact hR⟩⟩ rfl hn (by show ls.size = _; rw [hL.1, hnL]) hst (lv_room (zz_sum rest hrest)) hd (by rw [hr]; exact hc)) hl hL kk
theorem zz_callIN {Yc : My} {np idx d' mc' ms' b : Nat} {host : String} {av st0 rest : List Value} {Q' : Option Value → Hp → Prop} (C : zz_C E X Y d mc ms Q) (M : zz_M Yc np) (V : zz_I Yc) (hv : Yc.2.2.2 = none) (hk : Cond.methodLinkNest Y.1.cls idx Yc.1 host ∈ zz_W) (hnL : Y.2.2.1 = nL) (hn : av.length = np) (hst : st0 = av.reverse ++ .ref b :: rest) (hrest : rest.length ≤ 4) (hd1 : d' + 1 ≤ d)
    (hd : decode Y.2.1 pc = .ok (.invokespecial idx, 3)) (hq : pc + 3 = q) (hc : k + mc' ≤ mc ∧ n + ms' ≤ ms) (ok : Ok E Yc d' mc' ms' (.ref b :: av) h Q') (kk : ∀ r h', Q' r h' → GG E X nL (k + mc') (n + ms') q L (r.toList ++ rest) h') : GG E X nL k n pc L st0 h := by
  intro H locs ls hR hl hL
  have hr := C.2.2.2.2.2.2.1
  have hB := zz_callN (mc' := mc') (ms' := ms') C M hk hd1
  rw [hv] at hB
  unfold Ok at ok
  rw [hv] at ok
  refine zz_cont hq (va_runIN (As := av) (rest := rest) ⟨C.1, C.2.1, C.2.2.1, C.2.2.2.1, C.2.2.2.2.1⟩ ok ⟨hB, V.1, C.2.2.2.2.1 _ V.2⟩ ⟨zz_blind, fun U hU hW => ⟨rfl, zz_K.moved hW C.2.2.2.2.2.1, by rw [hU]; exact hR⟩⟩ rfl hn (by show ls.size = _; rw [hL.1, hnL]) hst (lv_room (zz_sum rest hrest)) hd (by rw [hr]; exact hc)) hl hL kk
theorem zg_max {idx : Nat} {x y : Int32} (C : zz_C E X Y d mc ms Q) (hk : Cond.methodLink Y.1.cls idx Lib.Math.max.name ∈ zz_W ∧ Cond.static Lib.Math.max.name ∈ zz_W ∧ Cond.initialized "java/lang/Math" ∈ zz_W ∧ Cond.code Lib.Math.max.name Lib.Math.max.code 2 (some .int) ∈ zz_W) (hnL : Y.2.2.1 = nL) (hd1 : 1 ≤ d) (hst : st.length ≤ 4) (hcm : k ≤ mc ∧ n ≤ ms) (hd : decode Y.2.1 pc = .ok (.invokestatic idx, 3)) (hq : pc + 3 = q)
    (g : GG E X nL k n q L (.int (if x < y then y else x) :: st) h) : GG E X nL k n pc L (.int y :: .int x :: st) h := by
  subst hq
  intro H locs ls hR hl hL
  have hr := C.2.2.2.2.2.2.1
  have hs := zz_sum st hst
  exact va_mmax C.1 C.2.1 (by rw [hL.1, C.2.2.1, hnL]) C.2.2.2.1 (C.2.2.2.2.1 _ hk.1) (C.2.2.2.2.1 _ hk.2.1) (C.2.2.2.2.1 _ hk.2.2.1) (C.2.2.2.2.1 _ hk.2.2.2) (by rw [hr]; exact hd1) (by rw [hr]; show _ ≤ 40 * d; omega) (by rw [hr]; exact hcm.1) (by rw [hr]; exact hcm.2) hd (g H locs ls hR hl hL)
theorem zg_min {idx : Nat} {x y : Int32} (C : zz_C E X Y d mc ms Q) (hk : Cond.methodLink Y.1.cls idx Lib.Math.min.name ∈ zz_W ∧ Cond.static Lib.Math.min.name ∈ zz_W ∧ Cond.initialized "java/lang/Math" ∈ zz_W ∧ Cond.code Lib.Math.min.name Lib.Math.min.code 2 (some .int) ∈ zz_W) (hnL : Y.2.2.1 = nL) (hd1 : 1 ≤ d) (hst : st.length ≤ 4) (hcm : k ≤ mc ∧ n ≤ ms) (hd : decode Y.2.1 pc = .ok (.invokestatic idx, 3)) (hq : pc + 3 = q)
    (g : GG E X nL k n q L (.int (if y < x then y else x) :: st) h) : GG E X nL k n pc L (.int y :: .int x :: st) h := by
  subst hq
  intro H locs ls hR hl hL
  have hr := C.2.2.2.2.2.2.1
  have hs := zz_sum st hst
  exact va_mmin C.1 C.2.1 (by rw [hL.1, C.2.2.1, hnL]) C.2.2.2.1 (C.2.2.2.2.1 _ hk.1) (C.2.2.2.2.1 _ hk.2.1) (C.2.2.2.2.1 _ hk.2.2.1) (C.2.2.2.2.1 _ hk.2.2.2) (by rw [hr]; exact hd1) (by rw [hr]; show _ ≤ 40 * d; omega) (by rw [hr]; exact hcm.1) (by rw [hr]; exact hcm.2) hd (g H locs ls hR hl hL)
theorem zg_abs {idx : Nat} {x : Int32} (C : zz_C E X Y d mc ms Q) (hk : Cond.methodLink Y.1.cls idx Lib.Math.abs.name ∈ zz_W ∧ Cond.static Lib.Math.abs.name ∈ zz_W ∧ Cond.initialized "java/lang/Math" ∈ zz_W ∧ Cond.code Lib.Math.abs.name Lib.Math.abs.code 1 (some .int) ∈ zz_W) (hnL : Y.2.2.1 = nL) (hd1 : 1 ≤ d) (hst : st.length ≤ 4) (hcm : k ≤ mc ∧ n ≤ ms) (hd : decode Y.2.1 pc = .ok (.invokestatic idx, 3)) (hq : pc + 3 = q)
    (g : GG E X nL k n q L (.int (if 0 ≤ x then x else 0 - x) :: st) h) : GG E X nL k n pc L (.int x :: st) h := by
  subst hq
  intro H locs ls hR hl hL
  have hr := C.2.2.2.2.2.2.1
  have hs := zz_sum st hst
  exact va_mabs C.1 C.2.1 (by rw [hL.1, C.2.2.1, hnL]) C.2.2.2.1 (C.2.2.2.2.1 _ hk.1) (C.2.2.2.2.1 _ hk.2.1) (C.2.2.2.2.1 _ hk.2.2.1) (C.2.2.2.2.1 _ hk.2.2.2) (by rw [hr]; exact hd1) (by rw [hr]; show _ ≤ 40 * d; omega) (by rw [hr]; exact hcm.1) (by rw [hr]; exact hcm.2) hd (g H locs ls hR hl hL)
end
end
