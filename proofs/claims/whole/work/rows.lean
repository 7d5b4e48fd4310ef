section
-- ===== PART A: goes FIRST, ahead of the names: the tables' words, and 'selects' of the private methods out of them =====
/-- a private method of a class that the tables say can be made, by its rows of tables_1 -/
def lw_okq (q : MethodName × Nat) : Prop := (q.1.cls ≠ "java/lang/invoke/MethodHandle" ∧ q.1.cls ≠ "java/lang/invoke/VarHandle") ∧ Cond.instantiable q.1.cls q.2 ∈ tables_1 ∧ Cond.privateMethod q.1 ∈ tables_1 ∧ Cond.instanceMethod q.1 ∈ tables_1
theorem lw_p0 : lw_okq (⟨"TwoCamps$Law", "run", "([IIII)I"⟩, 8) := ⟨⟨by decide +kernel, by decide +kernel⟩, List.mem_of_getElem? (i := 124) (by decide +kernel), List.mem_of_getElem? (i := 476) (by decide +kernel), List.mem_of_getElem? (i := 477) (by decide +kernel)⟩
theorem lw_p1 : lw_okq (⟨"TwoCamps$Law", "runOne", "(II)V"⟩, 8) := ⟨⟨by decide +kernel, by decide +kernel⟩, List.mem_of_getElem? (i := 124) (by decide +kernel), List.mem_of_getElem? (i := 480) (by decide +kernel), List.mem_of_getElem? (i := 481) (by decide +kernel)⟩
theorem lw_p2 : lw_okq (⟨"TwoCamps$Law", "push", "(I)V"⟩, 8) := ⟨⟨by decide +kernel, by decide +kernel⟩, List.mem_of_getElem? (i := 124) (by decide +kernel), List.mem_of_getElem? (i := 484) (by decide +kernel), List.mem_of_getElem? (i := 485) (by decide +kernel)⟩
theorem lw_p3 : lw_okq (⟨"TwoCamps$Law", "named", "(II)I"⟩, 8) := ⟨⟨by decide +kernel, by decide +kernel⟩, List.mem_of_getElem? (i := 124) (by decide +kernel), List.mem_of_getElem? (i := 491) (by decide +kernel), List.mem_of_getElem? (i := 492) (by decide +kernel)⟩
theorem lw_p4 : lw_okq (⟨"TwoCamps$Law", "pop", "()I"⟩, 8) := ⟨⟨by decide +kernel, by decide +kernel⟩, List.mem_of_getElem? (i := 124) (by decide +kernel), List.mem_of_getElem? (i := 495) (by decide +kernel), List.mem_of_getElem? (i := 496) (by decide +kernel)⟩
theorem lw_p5 : lw_okq (⟨"TwoCamps$StreetReader", "readLine", "()Z"⟩, 9) := ⟨⟨by decide +kernel, by decide +kernel⟩, List.mem_of_getElem? (i := 218) (by decide +kernel), List.mem_of_getElem? (i := 533) (by decide +kernel), List.mem_of_getElem? (i := 534) (by decide +kernel)⟩
theorem lw_p6 : lw_okq (⟨"TwoCamps$StreetReader", "readPerson", "(I)I"⟩, 9) := ⟨⟨by decide +kernel, by decide +kernel⟩, List.mem_of_getElem? (i := 218) (by decide +kernel), List.mem_of_getElem? (i := 537) (by decide +kernel), List.mem_of_getElem? (i := 538) (by decide +kernel)⟩
theorem lw_p7 : lw_okq (⟨"TwoCamps$StreetReader", "readSign", "()Z"⟩, 9) := ⟨⟨by decide +kernel, by decide +kernel⟩, List.mem_of_getElem? (i := 218) (by decide +kernel), List.mem_of_getElem? (i := 546) (by decide +kernel), List.mem_of_getElem? (i := 547) (by decide +kernel)⟩
theorem lw_p8 : lw_okq (⟨"TwoCamps$StreetReader", "skip", "(I)Z"⟩, 9) := ⟨⟨by decide +kernel, by decide +kernel⟩, List.mem_of_getElem? (i := 218) (by decide +kernel), List.mem_of_getElem? (i := 550) (by decide +kernel), List.mem_of_getElem? (i := 551) (by decide +kernel)⟩
theorem lw_p9 : lw_okq (⟨"TwoCamps$StreetReader", "readStrength", "()Z"⟩, 9) := ⟨⟨by decide +kernel, by decide +kernel⟩, List.mem_of_getElem? (i := 218) (by decide +kernel), List.mem_of_getElem? (i := 554) (by decide +kernel), List.mem_of_getElem? (i := 555) (by decide +kernel)⟩
theorem lw_p10 : lw_okq (⟨"TwoCamps$StreetReader", "readKind", "()Z"⟩, 9) := ⟨⟨by decide +kernel, by decide +kernel⟩, List.mem_of_getElem? (i := 218) (by decide +kernel), List.mem_of_getElem? (i := 563) (by decide +kernel), List.mem_of_getElem? (i := 564) (by decide +kernel)⟩
theorem lw_p11 : lw_okq (⟨"TwoCamps$TextReader", "layTokens", "()V"⟩, 6) := ⟨⟨by decide +kernel, by decide +kernel⟩, List.mem_of_getElem? (i := 190) (by decide +kernel), List.mem_of_getElem? (i := 584) (by decide +kernel), List.mem_of_getElem? (i := 585) (by decide +kernel)⟩
theorem lw_p12 : lw_okq (⟨"TwoCamps$TextReader", "skipBlanks", "(I)I"⟩, 6) := ⟨⟨by decide +kernel, by decide +kernel⟩, List.mem_of_getElem? (i := 190) (by decide +kernel), List.mem_of_getElem? (i := 588) (by decide +kernel), List.mem_of_getElem? (i := 589) (by decide +kernel)⟩
theorem lw_p13 : lw_okq (⟨"TwoCamps$TextReader", "endOfToken", "(I)I"⟩, 6) := ⟨⟨by decide +kernel, by decide +kernel⟩, List.mem_of_getElem? (i := 190) (by decide +kernel), List.mem_of_getElem? (i := 593) (by decide +kernel), List.mem_of_getElem? (i := 594) (by decide +kernel)⟩
theorem lw_p14 : lw_okq (⟨"TwoCamps$TextReader", "tokenOf", "(II)I"⟩, 6) := ⟨⟨by decide +kernel, by decide +kernel⟩, List.mem_of_getElem? (i := 190) (by decide +kernel), List.mem_of_getElem? (i := 606) (by decide +kernel), List.mem_of_getElem? (i := 607) (by decide +kernel)⟩
theorem lw_p15 : lw_okq (⟨"TwoCamps$TextReader", "wordOf", "(II)I"⟩, 6) := ⟨⟨by decide +kernel, by decide +kernel⟩, List.mem_of_getElem? (i := 190) (by decide +kernel), List.mem_of_getElem? (i := 610) (by decide +kernel), List.mem_of_getElem? (i := 611) (by decide +kernel)⟩
def lw_privs_1 : List (MethodName × Nat) := [(⟨"TwoCamps$Law", "run", "([IIII)I"⟩, 8), (⟨"TwoCamps$Law", "runOne", "(II)V"⟩, 8), (⟨"TwoCamps$Law", "push", "(I)V"⟩, 8), (⟨"TwoCamps$Law", "named", "(II)I"⟩, 8), (⟨"TwoCamps$Law", "pop", "()I"⟩, 8), (⟨"TwoCamps$StreetReader", "readLine", "()Z"⟩, 9), (⟨"TwoCamps$StreetReader", "readPerson", "(I)I"⟩, 9), (⟨"TwoCamps$StreetReader", "readSign", "()Z"⟩, 9), (⟨"TwoCamps$StreetReader", "skip", "(I)Z"⟩, 9), (⟨"TwoCamps$StreetReader", "readStrength", "()Z"⟩, 9), (⟨"TwoCamps$StreetReader", "readKind", "()Z"⟩, 9), (⟨"TwoCamps$TextReader", "layTokens", "()V"⟩, 6), (⟨"TwoCamps$TextReader", "skipBlanks", "(I)I"⟩, 6), (⟨"TwoCamps$TextReader", "endOfToken", "(I)I"⟩, 6), (⟨"TwoCamps$TextReader", "tokenOf", "(II)I"⟩, 6), (⟨"TwoCamps$TextReader", "wordOf", "(II)I"⟩, 6)]
theorem lw_r1 : ∀ q ∈ lw_privs_1, lw_okq q := List.forall_mem_cons.mpr ⟨lw_p0, List.forall_mem_cons.mpr ⟨lw_p1, List.forall_mem_cons.mpr ⟨lw_p2, List.forall_mem_cons.mpr ⟨lw_p3, List.forall_mem_cons.mpr ⟨lw_p4, List.forall_mem_cons.mpr ⟨lw_p5, List.forall_mem_cons.mpr ⟨lw_p6, List.forall_mem_cons.mpr ⟨lw_p7, List.forall_mem_cons.mpr ⟨lw_p8, List.forall_mem_cons.mpr ⟨lw_p9, List.forall_mem_cons.mpr ⟨lw_p10, List.forall_mem_cons.mpr ⟨lw_p11, List.forall_mem_cons.mpr ⟨lw_p12, List.forall_mem_cons.mpr ⟨lw_p13, List.forall_mem_cons.mpr ⟨lw_p14, List.forall_mem_cons.mpr ⟨lw_p15, fun _ h => absurd h List.not_mem_nil⟩⟩⟩⟩⟩⟩⟩⟩⟩⟩⟩⟩⟩⟩⟩⟩
theorem lw_p16 : lw_okq (⟨"TwoCamps$TextReader", "spells", "(IILjava/lang/String;)Z"⟩, 6) := ⟨⟨by decide +kernel, by decide +kernel⟩, List.mem_of_getElem? (i := 190) (by decide +kernel), List.mem_of_getElem? (i := 615) (by decide +kernel), List.mem_of_getElem? (i := 616) (by decide +kernel)⟩
theorem lw_p17 : lw_okq (⟨"TwoCamps$TextReader", "numberOf", "(II)I"⟩, 6) := ⟨⟨by decide +kernel, by decide +kernel⟩, List.mem_of_getElem? (i := 190) (by decide +kernel), List.mem_of_getElem? (i := 677) (by decide +kernel), List.mem_of_getElem? (i := 678) (by decide +kernel)⟩
theorem lw_p18 : lw_okq (⟨"TwoCamps$TextReader", "skip", "(I)Z"⟩, 6) := ⟨⟨by decide +kernel, by decide +kernel⟩, List.mem_of_getElem? (i := 190) (by decide +kernel), List.mem_of_getElem? (i := 681) (by decide +kernel), List.mem_of_getElem? (i := 682) (by decide +kernel)⟩
theorem lw_p19 : lw_okq (⟨"TwoCamps$TextReader", "readOr", "(I)Z"⟩, 6) := ⟨⟨by decide +kernel, by decide +kernel⟩, List.mem_of_getElem? (i := 190) (by decide +kernel), List.mem_of_getElem? (i := 685) (by decide +kernel), List.mem_of_getElem? (i := 686) (by decide +kernel)⟩
theorem lw_p20 : lw_okq (⟨"TwoCamps$TextReader", "readAnd", "(I)Z"⟩, 6) := ⟨⟨by decide +kernel, by decide +kernel⟩, List.mem_of_getElem? (i := 190) (by decide +kernel), List.mem_of_getElem? (i := 689) (by decide +kernel), List.mem_of_getElem? (i := 690) (by decide +kernel)⟩
theorem lw_p21 : lw_okq (⟨"TwoCamps$TextReader", "readNot", "(I)Z"⟩, 6) := ⟨⟨by decide +kernel, by decide +kernel⟩, List.mem_of_getElem? (i := 190) (by decide +kernel), List.mem_of_getElem? (i := 693) (by decide +kernel), List.mem_of_getElem? (i := 694) (by decide +kernel)⟩
theorem lw_p22 : lw_okq (⟨"TwoCamps$TextReader", "readComparison", "(I)Z"⟩, 6) := ⟨⟨by decide +kernel, by decide +kernel⟩, List.mem_of_getElem? (i := 190) (by decide +kernel), List.mem_of_getElem? (i := 697) (by decide +kernel), List.mem_of_getElem? (i := 698) (by decide +kernel)⟩
theorem lw_p23 : lw_okq (⟨"TwoCamps$TextReader", "readSum", "(I)Z"⟩, 6) := ⟨⟨by decide +kernel, by decide +kernel⟩, List.mem_of_getElem? (i := 190) (by decide +kernel), List.mem_of_getElem? (i := 701) (by decide +kernel), List.mem_of_getElem? (i := 702) (by decide +kernel)⟩
theorem lw_p24 : lw_okq (⟨"TwoCamps$TextReader", "readTerm", "(I)Z"⟩, 6) := ⟨⟨by decide +kernel, by decide +kernel⟩, List.mem_of_getElem? (i := 190) (by decide +kernel), List.mem_of_getElem? (i := 705) (by decide +kernel), List.mem_of_getElem? (i := 706) (by decide +kernel)⟩
theorem lw_p25 : lw_okq (⟨"TwoCamps$TextReader", "readOne", "(I)Z"⟩, 6) := ⟨⟨by decide +kernel, by decide +kernel⟩, List.mem_of_getElem? (i := 190) (by decide +kernel), List.mem_of_getElem? (i := 709) (by decide +kernel), List.mem_of_getElem? (i := 710) (by decide +kernel)⟩
theorem lw_p26 : lw_okq (⟨"TwoCamps", "isCamping", "(I)Z"⟩, 16) := ⟨⟨by decide +kernel, by decide +kernel⟩, List.mem_of_getElem? (i := 23) (by decide +kernel), List.mem_of_getElem? (i := 765) (by decide +kernel), List.mem_of_getElem? (i := 766) (by decide +kernel)⟩
theorem lw_p27 : lw_okq (⟨"TwoCamps$Camping", "isWrong", "(I)Z"⟩, 6) := ⟨⟨by decide +kernel, by decide +kernel⟩, List.mem_of_getElem? (i := 254) (by decide +kernel), List.mem_of_getElem? (i := 787) (by decide +kernel), List.mem_of_getElem? (i := 788) (by decide +kernel)⟩
theorem lw_p28 : lw_okq (⟨"TwoCamps$Camping", "costOfWrong", "(I)J"⟩, 6) := ⟨⟨by decide +kernel, by decide +kernel⟩, List.mem_of_getElem? (i := 254) (by decide +kernel), List.mem_of_getElem? (i := 817) (by decide +kernel), List.mem_of_getElem? (i := 818) (by decide +kernel)⟩
theorem lw_p29 : lw_okq (⟨"TwoCamps$Camping", "costOfPerson", "(I)J"⟩, 6) := ⟨⟨by decide +kernel, by decide +kernel⟩, List.mem_of_getElem? (i := 254) (by decide +kernel), List.mem_of_getElem? (i := 822) (by decide +kernel), List.mem_of_getElem? (i := 823) (by decide +kernel)⟩
theorem lw_p30 : lw_okq (⟨"TwoCamps", "isAlikeFor", "(ILTwoCamps$Camping;LTwoCamps$Camping;)Z"⟩, 16) := ⟨⟨by decide +kernel, by decide +kernel⟩, List.mem_of_getElem? (i := 23) (by decide +kernel), List.mem_of_getElem? (i := 839) (by decide +kernel), List.mem_of_getElem? (i := 840) (by decide +kernel)⟩
theorem lw_p31 : lw_okq (⟨"TwoCamps$Net", "forcedBy", "(II)I"⟩, 8) := ⟨⟨by decide +kernel, by decide +kernel⟩, List.mem_of_getElem? (i := 281) (by decide +kernel), List.mem_of_getElem? (i := 852) (by decide +kernel), List.mem_of_getElem? (i := 853) (by decide +kernel)⟩
def lw_privs_2 : List (MethodName × Nat) := [(⟨"TwoCamps$TextReader", "spells", "(IILjava/lang/String;)Z"⟩, 6), (⟨"TwoCamps$TextReader", "numberOf", "(II)I"⟩, 6), (⟨"TwoCamps$TextReader", "skip", "(I)Z"⟩, 6), (⟨"TwoCamps$TextReader", "readOr", "(I)Z"⟩, 6), (⟨"TwoCamps$TextReader", "readAnd", "(I)Z"⟩, 6), (⟨"TwoCamps$TextReader", "readNot", "(I)Z"⟩, 6), (⟨"TwoCamps$TextReader", "readComparison", "(I)Z"⟩, 6), (⟨"TwoCamps$TextReader", "readSum", "(I)Z"⟩, 6), (⟨"TwoCamps$TextReader", "readTerm", "(I)Z"⟩, 6), (⟨"TwoCamps$TextReader", "readOne", "(I)Z"⟩, 6), (⟨"TwoCamps", "isCamping", "(I)Z"⟩, 16), (⟨"TwoCamps$Camping", "isWrong", "(I)Z"⟩, 6), (⟨"TwoCamps$Camping", "costOfWrong", "(I)J"⟩, 6), (⟨"TwoCamps$Camping", "costOfPerson", "(I)J"⟩, 6), (⟨"TwoCamps", "isAlikeFor", "(ILTwoCamps$Camping;LTwoCamps$Camping;)Z"⟩, 16), (⟨"TwoCamps$Net", "forcedBy", "(II)I"⟩, 8)]
theorem lw_r2 : ∀ q ∈ lw_privs_2, lw_okq q := List.forall_mem_cons.mpr ⟨lw_p16, List.forall_mem_cons.mpr ⟨lw_p17, List.forall_mem_cons.mpr ⟨lw_p18, List.forall_mem_cons.mpr ⟨lw_p19, List.forall_mem_cons.mpr ⟨lw_p20, List.forall_mem_cons.mpr ⟨lw_p21, List.forall_mem_cons.mpr ⟨lw_p22, List.forall_mem_cons.mpr ⟨lw_p23, List.forall_mem_cons.mpr ⟨lw_p24, List.forall_mem_cons.mpr ⟨lw_p25, List.forall_mem_cons.mpr ⟨lw_p26, List.forall_mem_cons.mpr ⟨lw_p27, List.forall_mem_cons.mpr ⟨lw_p28, List.forall_mem_cons.mpr ⟨lw_p29, List.forall_mem_cons.mpr ⟨lw_p30, List.forall_mem_cons.mpr ⟨lw_p31, fun _ h => absurd h List.not_mem_nil⟩⟩⟩⟩⟩⟩⟩⟩⟩⟩⟩⟩⟩⟩⟩⟩
theorem lw_p32 : lw_okq (⟨"TwoCamps$Net", "reach", "(II)I"⟩, 8) := ⟨⟨by decide +kernel, by decide +kernel⟩, List.mem_of_getElem? (i := 281) (by decide +kernel), List.mem_of_getElem? (i := 874) (by decide +kernel), List.mem_of_getElem? (i := 875) (by decide +kernel)⟩
theorem lw_p33 : lw_okq (⟨"TwoCamps$Net", "walk", "(I)V"⟩, 8) := ⟨⟨by decide +kernel, by decide +kernel⟩, List.mem_of_getElem? (i := 281) (by decide +kernel), List.mem_of_getElem? (i := 886) (by decide +kernel), List.mem_of_getElem? (i := 887) (by decide +kernel)⟩
theorem lw_p34 : lw_okq (⟨"TwoCamps$Net", "arrive", "(III)V"⟩, 8) := ⟨⟨by decide +kernel, by decide +kernel⟩, List.mem_of_getElem? (i := 281) (by decide +kernel), List.mem_of_getElem? (i := 891) (by decide +kernel), List.mem_of_getElem? (i := 892) (by decide +kernel)⟩
theorem lw_p35 : lw_okq (⟨"TwoCamps$Net", "leave", "(I)V"⟩, 8) := ⟨⟨by decide +kernel, by decide +kernel⟩, List.mem_of_getElem? (i := 281) (by decide +kernel), List.mem_of_getElem? (i := 895) (by decide +kernel), List.mem_of_getElem? (i := 896) (by decide +kernel)⟩
theorem lw_p36 : lw_okq (⟨"TwoCamps$Net", "keepIfShorter", "(I)V"⟩, 8) := ⟨⟨by decide +kernel, by decide +kernel⟩, List.mem_of_getElem? (i := 281) (by decide +kernel), List.mem_of_getElem? (i := 900) (by decide +kernel), List.mem_of_getElem? (i := 901) (by decide +kernel)⟩
theorem lw_p37 : lw_okq (⟨"TwoCamps$Best", "pastCampings", "()I"⟩, 9) := ⟨⟨by decide +kernel, by decide +kernel⟩, List.mem_of_getElem? (i := 314) (by decide +kernel), List.mem_of_getElem? (i := 913) (by decide +kernel), List.mem_of_getElem? (i := 914) (by decide +kernel)⟩
theorem lw_p38 : lw_okq (⟨"TwoCamps$Best", "sumOf", "(I)I"⟩, 9) := ⟨⟨by decide +kernel, by decide +kernel⟩, List.mem_of_getElem? (i := 314) (by decide +kernel), List.mem_of_getElem? (i := 917) (by decide +kernel), List.mem_of_getElem? (i := 918) (by decide +kernel)⟩
theorem lw_p39 : lw_okq (⟨"TwoCamps$People", "priceOf", "(I)I"⟩, 3) := ⟨⟨by decide +kernel, by decide +kernel⟩, List.mem_of_getElem? (i := 31) (by decide +kernel), List.mem_of_getElem? (i := 944) (by decide +kernel), List.mem_of_getElem? (i := 945) (by decide +kernel)⟩
theorem lw_p40 : lw_okq (⟨"TwoCamps$Best", "spread", "(III)V"⟩, 9) := ⟨⟨by decide +kernel, by decide +kernel⟩, List.mem_of_getElem? (i := 314) (by decide +kernel), List.mem_of_getElem? (i := 956) (by decide +kernel), List.mem_of_getElem? (i := 957) (by decide +kernel)⟩
theorem lw_p41 : lw_okq (⟨"TwoCamps$Best", "costOfLast", "(I)I"⟩, 9) := ⟨⟨by decide +kernel, by decide +kernel⟩, List.mem_of_getElem? (i := 314) (by decide +kernel), List.mem_of_getElem? (i := 960) (by decide +kernel), List.mem_of_getElem? (i := 961) (by decide +kernel)⟩
theorem lw_p42 : lw_okq (⟨"TwoCamps", "turnWorst", "(I)I"⟩, 16) := ⟨⟨by decide +kernel, by decide +kernel⟩, List.mem_of_getElem? (i := 23) (by decide +kernel), List.mem_of_getElem? (i := 991) (by decide +kernel), List.mem_of_getElem? (i := 992) (by decide +kernel)⟩
theorem lw_p43 : lw_okq (⟨"TwoCamps", "turnAll", "()Z"⟩, 16) := ⟨⟨by decide +kernel, by decide +kernel⟩, List.mem_of_getElem? (i := 23) (by decide +kernel), List.mem_of_getElem? (i := 1008) (by decide +kernel), List.mem_of_getElem? (i := 1009) (by decide +kernel)⟩
theorem lw_p44 : lw_okq (⟨"TwoCamps$Best", "leastSumWith", "(IZ)I"⟩, 9) := ⟨⟨by decide +kernel, by decide +kernel⟩, List.mem_of_getElem? (i := 314) (by decide +kernel), List.mem_of_getElem? (i := 1031) (by decide +kernel), List.mem_of_getElem? (i := 1032) (by decide +kernel)⟩
theorem lw_p45 : lw_okq (⟨"TwoCamps$Best", "isEnough", "(III)Z"⟩, 9) := ⟨⟨by decide +kernel, by decide +kernel⟩, List.mem_of_getElem? (i := 314) (by decide +kernel), List.mem_of_getElem? (i := 1046) (by decide +kernel), List.mem_of_getElem? (i := 1047) (by decide +kernel)⟩
theorem lw_p46 : lw_okq (⟨"TwoCampsModel", "spell", "(IJ)V"⟩, 53) := ⟨⟨by decide +kernel, by decide +kernel⟩, List.mem_of_getElem? (i := 1116) (by decide +kernel), List.mem_of_getElem? (i := 1123) (by decide +kernel), List.mem_of_getElem? (i := 1124) (by decide +kernel)⟩
theorem lw_p47 : lw_okq (⟨"TwoCampsModel", "isPerson", "(I)Z"⟩, 53) := ⟨⟨by decide +kernel, by decide +kernel⟩, List.mem_of_getElem? (i := 1116) (by decide +kernel), List.mem_of_getElem? (i := 1302) (by decide +kernel), List.mem_of_getElem? (i := 1303) (by decide +kernel)⟩
def lw_privs_3 : List (MethodName × Nat) := [(⟨"TwoCamps$Net", "reach", "(II)I"⟩, 8), (⟨"TwoCamps$Net", "walk", "(I)V"⟩, 8), (⟨"TwoCamps$Net", "arrive", "(III)V"⟩, 8), (⟨"TwoCamps$Net", "leave", "(I)V"⟩, 8), (⟨"TwoCamps$Net", "keepIfShorter", "(I)V"⟩, 8), (⟨"TwoCamps$Best", "pastCampings", "()I"⟩, 9), (⟨"TwoCamps$Best", "sumOf", "(I)I"⟩, 9), (⟨"TwoCamps$People", "priceOf", "(I)I"⟩, 3), (⟨"TwoCamps$Best", "spread", "(III)V"⟩, 9), (⟨"TwoCamps$Best", "costOfLast", "(I)I"⟩, 9), (⟨"TwoCamps", "turnWorst", "(I)I"⟩, 16), (⟨"TwoCamps", "turnAll", "()Z"⟩, 16), (⟨"TwoCamps$Best", "leastSumWith", "(IZ)I"⟩, 9), (⟨"TwoCamps$Best", "isEnough", "(III)Z"⟩, 9), (⟨"TwoCampsModel", "spell", "(IJ)V"⟩, 53), (⟨"TwoCampsModel", "isPerson", "(I)Z"⟩, 53)]
theorem lw_r3 : ∀ q ∈ lw_privs_3, lw_okq q := List.forall_mem_cons.mpr ⟨lw_p32, List.forall_mem_cons.mpr ⟨lw_p33, List.forall_mem_cons.mpr ⟨lw_p34, List.forall_mem_cons.mpr ⟨lw_p35, List.forall_mem_cons.mpr ⟨lw_p36, List.forall_mem_cons.mpr ⟨lw_p37, List.forall_mem_cons.mpr ⟨lw_p38, List.forall_mem_cons.mpr ⟨lw_p39, List.forall_mem_cons.mpr ⟨lw_p40, List.forall_mem_cons.mpr ⟨lw_p41, List.forall_mem_cons.mpr ⟨lw_p42, List.forall_mem_cons.mpr ⟨lw_p43, List.forall_mem_cons.mpr ⟨lw_p44, List.forall_mem_cons.mpr ⟨lw_p45, List.forall_mem_cons.mpr ⟨lw_p46, List.forall_mem_cons.mpr ⟨lw_p47, fun _ h => absurd h List.not_mem_nil⟩⟩⟩⟩⟩⟩⟩⟩⟩⟩⟩⟩⟩⟩⟩⟩
theorem lw_p48 : lw_okq (⟨"TwoCampsModel", "tells", "(IIIIII)I"⟩, 53) := ⟨⟨by decide +kernel, by decide +kernel⟩, List.mem_of_getElem? (i := 1116) (by decide +kernel), List.mem_of_getElem? (i := 1312) (by decide +kernel), List.mem_of_getElem? (i := 1313) (by decide +kernel)⟩
theorem lw_p49 : lw_okq (⟨"TwoCampsModel", "of", "(II)I"⟩, 53) := ⟨⟨by decide +kernel, by decide +kernel⟩, List.mem_of_getElem? (i := 1116) (by decide +kernel), List.mem_of_getElem? (i := 1316) (by decide +kernel), List.mem_of_getElem? (i := 1317) (by decide +kernel)⟩
theorem lw_p50 : lw_okq (⟨"TwoCampsModel", "isFeeling", "(I)Z"⟩, 53) := ⟨⟨by decide +kernel, by decide +kernel⟩, List.mem_of_getElem? (i := 1116) (by decide +kernel), List.mem_of_getElem? (i := 1324) (by decide +kernel), List.mem_of_getElem? (i := 1325) (by decide +kernel)⟩
theorem lw_p51 : lw_okq (⟨"TwoCampsModel", "costOf", "(I)I"⟩, 53) := ⟨⟨by decide +kernel, by decide +kernel⟩, List.mem_of_getElem? (i := 1116) (by decide +kernel), List.mem_of_getElem? (i := 1328) (by decide +kernel), List.mem_of_getElem? (i := 1329) (by decide +kernel)⟩
theorem lw_p52 : lw_okq (⟨"TwoCampsModel", "read", "(III)I"⟩, 53) := ⟨⟨by decide +kernel, by decide +kernel⟩, List.mem_of_getElem? (i := 1116) (by decide +kernel), List.mem_of_getElem? (i := 1332) (by decide +kernel), List.mem_of_getElem? (i := 1333) (by decide +kernel)⟩
theorem lw_p53 : lw_okq (⟨"TwoCampsModel", "next", "()V"⟩, 53) := ⟨⟨by decide +kernel, by decide +kernel⟩, List.mem_of_getElem? (i := 1116) (by decide +kernel), List.mem_of_getElem? (i := 1336) (by decide +kernel), List.mem_of_getElem? (i := 1337) (by decide +kernel)⟩
theorem lw_p54 : lw_okq (⟨"TwoCampsModel", "byteAt", "(I)I"⟩, 53) := ⟨⟨by decide +kernel, by decide +kernel⟩, List.mem_of_getElem? (i := 1116) (by decide +kernel), List.mem_of_getElem? (i := 1340) (by decide +kernel), List.mem_of_getElem? (i := 1341) (by decide +kernel)⟩
theorem lw_p55 : lw_okq (⟨"TwoCampsModel", "part", "(J)I"⟩, 53) := ⟨⟨by decide +kernel, by decide +kernel⟩, List.mem_of_getElem? (i := 1116) (by decide +kernel), List.mem_of_getElem? (i := 1352) (by decide +kernel), List.mem_of_getElem? (i := 1353) (by decide +kernel)⟩
theorem lw_p56 : lw_okq (⟨"TwoCampsModel", "isWord", "(J)Z"⟩, 53) := ⟨⟨by decide +kernel, by decide +kernel⟩, List.mem_of_getElem? (i := 1116) (by decide +kernel), List.mem_of_getElem? (i := 1356) (by decide +kernel), List.mem_of_getElem? (i := 1357) (by decide +kernel)⟩
theorem lw_p57 : lw_okq (⟨"TwoCampsModel", "fail", "()V"⟩, 53) := ⟨⟨by decide +kernel, by decide +kernel⟩, List.mem_of_getElem? (i := 1116) (by decide +kernel), List.mem_of_getElem? (i := 1360) (by decide +kernel), List.mem_of_getElem? (i := 1361) (by decide +kernel)⟩
theorem lw_p58 : lw_okq (⟨"TwoCampsModel", "either", "()I"⟩, 53) := ⟨⟨by decide +kernel, by decide +kernel⟩, List.mem_of_getElem? (i := 1116) (by decide +kernel), List.mem_of_getElem? (i := 1364) (by decide +kernel), List.mem_of_getElem? (i := 1365) (by decide +kernel)⟩
theorem lw_p59 : lw_okq (⟨"TwoCampsModel", "both", "()I"⟩, 53) := ⟨⟨by decide +kernel, by decide +kernel⟩, List.mem_of_getElem? (i := 1116) (by decide +kernel), List.mem_of_getElem? (i := 1368) (by decide +kernel), List.mem_of_getElem? (i := 1369) (by decide +kernel)⟩
theorem lw_p60 : lw_okq (⟨"TwoCampsModel", "not", "()I"⟩, 53) := ⟨⟨by decide +kernel, by decide +kernel⟩, List.mem_of_getElem? (i := 1116) (by decide +kernel), List.mem_of_getElem? (i := 1372) (by decide +kernel), List.mem_of_getElem? (i := 1373) (by decide +kernel)⟩
theorem lw_p61 : lw_okq (⟨"TwoCampsModel", "opens", "()Z"⟩, 53) := ⟨⟨by decide +kernel, by decide +kernel⟩, List.mem_of_getElem? (i := 1116) (by decide +kernel), List.mem_of_getElem? (i := 1377) (by decide +kernel), List.mem_of_getElem? (i := 1378) (by decide +kernel)⟩
theorem lw_p62 : lw_okq (⟨"TwoCampsModel", "added", "()I"⟩, 53) := ⟨⟨by decide +kernel, by decide +kernel⟩, List.mem_of_getElem? (i := 1116) (by decide +kernel), List.mem_of_getElem? (i := 1381) (by decide +kernel), List.mem_of_getElem? (i := 1382) (by decide +kernel)⟩
theorem lw_p63 : lw_okq (⟨"TwoCampsModel", "term", "()I"⟩, 53) := ⟨⟨by decide +kernel, by decide +kernel⟩, List.mem_of_getElem? (i := 1116) (by decide +kernel), List.mem_of_getElem? (i := 1385) (by decide +kernel), List.mem_of_getElem? (i := 1386) (by decide +kernel)⟩
def lw_privs_4 : List (MethodName × Nat) := [(⟨"TwoCampsModel", "tells", "(IIIIII)I"⟩, 53), (⟨"TwoCampsModel", "of", "(II)I"⟩, 53), (⟨"TwoCampsModel", "isFeeling", "(I)Z"⟩, 53), (⟨"TwoCampsModel", "costOf", "(I)I"⟩, 53), (⟨"TwoCampsModel", "read", "(III)I"⟩, 53), (⟨"TwoCampsModel", "next", "()V"⟩, 53), (⟨"TwoCampsModel", "byteAt", "(I)I"⟩, 53), (⟨"TwoCampsModel", "part", "(J)I"⟩, 53), (⟨"TwoCampsModel", "isWord", "(J)Z"⟩, 53), (⟨"TwoCampsModel", "fail", "()V"⟩, 53), (⟨"TwoCampsModel", "either", "()I"⟩, 53), (⟨"TwoCampsModel", "both", "()I"⟩, 53), (⟨"TwoCampsModel", "not", "()I"⟩, 53), (⟨"TwoCampsModel", "opens", "()Z"⟩, 53), (⟨"TwoCampsModel", "added", "()I"⟩, 53), (⟨"TwoCampsModel", "term", "()I"⟩, 53)]
theorem lw_r4 : ∀ q ∈ lw_privs_4, lw_okq q := List.forall_mem_cons.mpr ⟨lw_p48, List.forall_mem_cons.mpr ⟨lw_p49, List.forall_mem_cons.mpr ⟨lw_p50, List.forall_mem_cons.mpr ⟨lw_p51, List.forall_mem_cons.mpr ⟨lw_p52, List.forall_mem_cons.mpr ⟨lw_p53, List.forall_mem_cons.mpr ⟨lw_p54, List.forall_mem_cons.mpr ⟨lw_p55, List.forall_mem_cons.mpr ⟨lw_p56, List.forall_mem_cons.mpr ⟨lw_p57, List.forall_mem_cons.mpr ⟨lw_p58, List.forall_mem_cons.mpr ⟨lw_p59, List.forall_mem_cons.mpr ⟨lw_p60, List.forall_mem_cons.mpr ⟨lw_p61, List.forall_mem_cons.mpr ⟨lw_p62, List.forall_mem_cons.mpr ⟨lw_p63, fun _ h => absurd h List.not_mem_nil⟩⟩⟩⟩⟩⟩⟩⟩⟩⟩⟩⟩⟩⟩⟩⟩
theorem lw_p64 : lw_okq (⟨"TwoCampsModel", "one", "()I"⟩, 53) := ⟨⟨by decide +kernel, by decide +kernel⟩, List.mem_of_getElem? (i := 1116) (by decide +kernel), List.mem_of_getElem? (i := 1389) (by decide +kernel), List.mem_of_getElem? (i := 1390) (by decide +kernel)⟩
theorem lw_p65 : lw_okq (⟨"TwoCampsModel", "isSign", "(I)Z"⟩, 53) := ⟨⟨by decide +kernel, by decide +kernel⟩, List.mem_of_getElem? (i := 1116) (by decide +kernel), List.mem_of_getElem? (i := 1393) (by decide +kernel), List.mem_of_getElem? (i := 1394) (by decide +kernel)⟩
theorem lw_p66 : lw_okq (⟨"TwoCampsModel", "name", "()I"⟩, 53) := ⟨⟨by decide +kernel, by decide +kernel⟩, List.mem_of_getElem? (i := 1116) (by decide +kernel), List.mem_of_getElem? (i := 1397) (by decide +kernel), List.mem_of_getElem? (i := 1398) (by decide +kernel)⟩
theorem lw_p67 : lw_okq (⟨"TwoCampsModel", "badThrees", "(I)I"⟩, 53) := ⟨⟨by decide +kernel, by decide +kernel⟩, List.mem_of_getElem? (i := 1116) (by decide +kernel), List.mem_of_getElem? (i := 1412) (by decide +kernel), List.mem_of_getElem? (i := 1413) (by decide +kernel)⟩
theorem lw_p68 : lw_okq (⟨"TwoCampsModel", "isBadThree", "(III)Z"⟩, 53) := ⟨⟨by decide +kernel, by decide +kernel⟩, List.mem_of_getElem? (i := 1116) (by decide +kernel), List.mem_of_getElem? (i := 1416) (by decide +kernel), List.mem_of_getElem? (i := 1417) (by decide +kernel)⟩
theorem lw_p69 : lw_okq (⟨"TwoCampsModel", "goesThrough", "(Z)I"⟩, 53) := ⟨⟨by decide +kernel, by decide +kernel⟩, List.mem_of_getElem? (i := 1116) (by decide +kernel), List.mem_of_getElem? (i := 1441) (by decide +kernel), List.mem_of_getElem? (i := 1442) (by decide +kernel)⟩
theorem lw_p70 : lw_okq (⟨"TwoCampsModel", "personHere", "(I)I"⟩, 53) := ⟨⟨by decide +kernel, by decide +kernel⟩, List.mem_of_getElem? (i := 1116) (by decide +kernel), List.mem_of_getElem? (i := 1445) (by decide +kernel), List.mem_of_getElem? (i := 1446) (by decide +kernel)⟩
theorem lw_p71 : lw_okq (⟨"TwoCampsModel", "byteHere", "()I"⟩, 53) := ⟨⟨by decide +kernel, by decide +kernel⟩, List.mem_of_getElem? (i := 1116) (by decide +kernel), List.mem_of_getElem? (i := 1449) (by decide +kernel), List.mem_of_getElem? (i := 1450) (by decide +kernel)⟩
theorem lw_p72 : lw_okq (⟨"TwoCampsModel", "may", "(I)Z"⟩, 53) := ⟨⟨by decide +kernel, by decide +kernel⟩, List.mem_of_getElem? (i := 1116) (by decide +kernel), List.mem_of_getElem? (i := 1453) (by decide +kernel), List.mem_of_getElem? (i := 1454) (by decide +kernel)⟩
theorem lw_p73 : lw_okq (⟨"TwoCampsModel", "strengthHere", "()I"⟩, 53) := ⟨⟨by decide +kernel, by decide +kernel⟩, List.mem_of_getElem? (i := 1116) (by decide +kernel), List.mem_of_getElem? (i := 1457) (by decide +kernel), List.mem_of_getElem? (i := 1458) (by decide +kernel)⟩
theorem lw_p74 : lw_okq (⟨"TwoCampsModel", "isCamping", "(I)Z"⟩, 53) := ⟨⟨by decide +kernel, by decide +kernel⟩, List.mem_of_getElem? (i := 1116) (by decide +kernel), List.mem_of_getElem? (i := 1473) (by decide +kernel), List.mem_of_getElem? (i := 1474) (by decide +kernel)⟩
theorem lw_p75 : lw_okq (⟨"TwoCampsModel", "looksAt", "(I)V"⟩, 53) := ⟨⟨by decide +kernel, by decide +kernel⟩, List.mem_of_getElem? (i := 1116) (by decide +kernel), List.mem_of_getElem? (i := 1477) (by decide +kernel), List.mem_of_getElem? (i := 1478) (by decide +kernel)⟩
theorem lw_p76 : lw_okq (⟨"TwoCampsModel", "in9", "(II)I"⟩, 53) := ⟨⟨by decide +kernel, by decide +kernel⟩, List.mem_of_getElem? (i := 1116) (by decide +kernel), List.mem_of_getElem? (i := 1481) (by decide +kernel), List.mem_of_getElem? (i := 1482) (by decide +kernel)⟩
theorem lw_p77 : lw_okq (⟨"TwoCampsModel", "lived", "()I"⟩, 53) := ⟨⟨by decide +kernel, by decide +kernel⟩, List.mem_of_getElem? (i := 1116) (by decide +kernel), List.mem_of_getElem? (i := 1488) (by decide +kernel), List.mem_of_getElem? (i := 1489) (by decide +kernel)⟩
theorem lw_p78 : lw_okq (⟨"TwoCampsModel", "wrongs", "()I"⟩, 53) := ⟨⟨by decide +kernel, by decide +kernel⟩, List.mem_of_getElem? (i := 1116) (by decide +kernel), List.mem_of_getElem? (i := 1495) (by decide +kernel), List.mem_of_getElem? (i := 1496) (by decide +kernel)⟩
theorem lw_p79 : lw_okq (⟨"TwoCampsModel", "isWrong", "(I)Z"⟩, 53) := ⟨⟨by decide +kernel, by decide +kernel⟩, List.mem_of_getElem? (i := 1116) (by decide +kernel), List.mem_of_getElem? (i := 1499) (by decide +kernel), List.mem_of_getElem? (i := 1500) (by decide +kernel)⟩
def lw_privs_5 : List (MethodName × Nat) := [(⟨"TwoCampsModel", "one", "()I"⟩, 53), (⟨"TwoCampsModel", "isSign", "(I)Z"⟩, 53), (⟨"TwoCampsModel", "name", "()I"⟩, 53), (⟨"TwoCampsModel", "badThrees", "(I)I"⟩, 53), (⟨"TwoCampsModel", "isBadThree", "(III)Z"⟩, 53), (⟨"TwoCampsModel", "goesThrough", "(Z)I"⟩, 53), (⟨"TwoCampsModel", "personHere", "(I)I"⟩, 53), (⟨"TwoCampsModel", "byteHere", "()I"⟩, 53), (⟨"TwoCampsModel", "may", "(I)Z"⟩, 53), (⟨"TwoCampsModel", "strengthHere", "()I"⟩, 53), (⟨"TwoCampsModel", "isCamping", "(I)Z"⟩, 53), (⟨"TwoCampsModel", "looksAt", "(I)V"⟩, 53), (⟨"TwoCampsModel", "in9", "(II)I"⟩, 53), (⟨"TwoCampsModel", "lived", "()I"⟩, 53), (⟨"TwoCampsModel", "wrongs", "()I"⟩, 53), (⟨"TwoCampsModel", "isWrong", "(I)Z"⟩, 53)]
theorem lw_r5 : ∀ q ∈ lw_privs_5, lw_okq q := List.forall_mem_cons.mpr ⟨lw_p64, List.forall_mem_cons.mpr ⟨lw_p65, List.forall_mem_cons.mpr ⟨lw_p66, List.forall_mem_cons.mpr ⟨lw_p67, List.forall_mem_cons.mpr ⟨lw_p68, List.forall_mem_cons.mpr ⟨lw_p69, List.forall_mem_cons.mpr ⟨lw_p70, List.forall_mem_cons.mpr ⟨lw_p71, List.forall_mem_cons.mpr ⟨lw_p72, List.forall_mem_cons.mpr ⟨lw_p73, List.forall_mem_cons.mpr ⟨lw_p74, List.forall_mem_cons.mpr ⟨lw_p75, List.forall_mem_cons.mpr ⟨lw_p76, List.forall_mem_cons.mpr ⟨lw_p77, List.forall_mem_cons.mpr ⟨lw_p78, List.forall_mem_cons.mpr ⟨lw_p79, fun _ h => absurd h List.not_mem_nil⟩⟩⟩⟩⟩⟩⟩⟩⟩⟩⟩⟩⟩⟩⟩⟩
theorem lw_p80 : lw_okq (⟨"TwoCampsModel", "outside", "()I"⟩, 53) := ⟨⟨by decide +kernel, by decide +kernel⟩, List.mem_of_getElem? (i := 1116) (by decide +kernel), List.mem_of_getElem? (i := 1503) (by decide +kernel), List.mem_of_getElem? (i := 1504) (by decide +kernel)⟩
theorem lw_p81 : lw_okq (⟨"TwoCampsModel", "costBy", "(I)J"⟩, 53) := ⟨⟨by decide +kernel, by decide +kernel⟩, List.mem_of_getElem? (i := 1116) (by decide +kernel), List.mem_of_getElem? (i := 1512) (by decide +kernel), List.mem_of_getElem? (i := 1513) (by decide +kernel)⟩
theorem lw_p82 : lw_okq (⟨"TwoCampsModel", "isPeace", "(I)Z"⟩, 53) := ⟨⟨by decide +kernel, by decide +kernel⟩, List.mem_of_getElem? (i := 1116) (by decide +kernel), List.mem_of_getElem? (i := 1532) (by decide +kernel), List.mem_of_getElem? (i := 1533) (by decide +kernel)⟩
theorem lw_p83 : lw_okq (⟨"TwoCampsModel", "walk", "(I)I"⟩, 53) := ⟨⟨by decide +kernel, by decide +kernel⟩, List.mem_of_getElem? (i := 1116) (by decide +kernel), List.mem_of_getElem? (i := 1540) (by decide +kernel), List.mem_of_getElem? (i := 1541) (by decide +kernel)⟩
theorem lw_p84 : lw_okq (⟨"TwoCampsModel", "goesAll", "()I"⟩, 53) := ⟨⟨by decide +kernel, by decide +kernel⟩, List.mem_of_getElem? (i := 1116) (by decide +kernel), List.mem_of_getElem? (i := 1548) (by decide +kernel), List.mem_of_getElem? (i := 1549) (by decide +kernel)⟩
theorem lw_p85 : lw_okq (⟨"TwoCampsModel", "weighs", "()V"⟩, 53) := ⟨⟨by decide +kernel, by decide +kernel⟩, List.mem_of_getElem? (i := 1116) (by decide +kernel), List.mem_of_getElem? (i := 1552) (by decide +kernel), List.mem_of_getElem? (i := 1553) (by decide +kernel)⟩
theorem lw_p86 : lw_okq (⟨"TwoCampsModel", "sumOf", "(I)I"⟩, 53) := ⟨⟨by decide +kernel, by decide +kernel⟩, List.mem_of_getElem? (i := 1116) (by decide +kernel), List.mem_of_getElem? (i := 1556) (by decide +kernel), List.mem_of_getElem? (i := 1557) (by decide +kernel)⟩
theorem lw_p87 : lw_okq (⟨"TwoCampsModel", "isWrongIn", "(II)Z"⟩, 53) := ⟨⟨by decide +kernel, by decide +kernel⟩, List.mem_of_getElem? (i := 1116) (by decide +kernel), List.mem_of_getElem? (i := 1560) (by decide +kernel), List.mem_of_getElem? (i := 1561) (by decide +kernel)⟩
theorem lw_p88 : lw_okq (⟨"TwoCampsModel", "togethers", "(III)I"⟩, 53) := ⟨⟨by decide +kernel, by decide +kernel⟩, List.mem_of_getElem? (i := 1116) (by decide +kernel), List.mem_of_getElem? (i := 1572) (by decide +kernel), List.mem_of_getElem? (i := 1573) (by decide +kernel)⟩
theorem lw_p89 : lw_okq (⟨"TwoCampsModel", "alls", "(I)I"⟩, 53) := ⟨⟨by decide +kernel, by decide +kernel⟩, List.mem_of_getElem? (i := 1116) (by decide +kernel), List.mem_of_getElem? (i := 1576) (by decide +kernel), List.mem_of_getElem? (i := 1577) (by decide +kernel)⟩
theorem lw_p90 : lw_okq (⟨"TwoCampsModel", "puts", "(IIII)V"⟩, 53) := ⟨⟨by decide +kernel, by decide +kernel⟩, List.mem_of_getElem? (i := 1116) (by decide +kernel), List.mem_of_getElem? (i := 1589) (by decide +kernel), List.mem_of_getElem? (i := 1590) (by decide +kernel)⟩
theorem lw_p91 : lw_okq (⟨"TwoCampsModel", "hangs", "(II)I"⟩, 53) := ⟨⟨by decide +kernel, by decide +kernel⟩, List.mem_of_getElem? (i := 1116) (by decide +kernel), List.mem_of_getElem? (i := 1597) (by decide +kernel), List.mem_of_getElem? (i := 1598) (by decide +kernel)⟩
theorem lw_p92 : lw_okq (⟨"TwoCampsModel", "leastOf", "(I)I"⟩, 53) := ⟨⟨by decide +kernel, by decide +kernel⟩, List.mem_of_getElem? (i := 1116) (by decide +kernel), List.mem_of_getElem? (i := 1601) (by decide +kernel), List.mem_of_getElem? (i := 1602) (by decide +kernel)⟩
theorem lw_p93 : lw_okq (⟨"TwoCampsModel", "steps", "(I)I"⟩, 53) := ⟨⟨by decide +kernel, by decide +kernel⟩, List.mem_of_getElem? (i := 1116) (by decide +kernel), List.mem_of_getElem? (i := 1617) (by decide +kernel), List.mem_of_getElem? (i := 1618) (by decide +kernel)⟩
def lw_privs_6 : List (MethodName × Nat) := [(⟨"TwoCampsModel", "outside", "()I"⟩, 53), (⟨"TwoCampsModel", "costBy", "(I)J"⟩, 53), (⟨"TwoCampsModel", "isPeace", "(I)Z"⟩, 53), (⟨"TwoCampsModel", "walk", "(I)I"⟩, 53), (⟨"TwoCampsModel", "goesAll", "()I"⟩, 53), (⟨"TwoCampsModel", "weighs", "()V"⟩, 53), (⟨"TwoCampsModel", "sumOf", "(I)I"⟩, 53), (⟨"TwoCampsModel", "isWrongIn", "(II)Z"⟩, 53), (⟨"TwoCampsModel", "togethers", "(III)I"⟩, 53), (⟨"TwoCampsModel", "alls", "(I)I"⟩, 53), (⟨"TwoCampsModel", "puts", "(IIII)V"⟩, 53), (⟨"TwoCampsModel", "hangs", "(II)I"⟩, 53), (⟨"TwoCampsModel", "leastOf", "(I)I"⟩, 53), (⟨"TwoCampsModel", "steps", "(I)I"⟩, 53)]
theorem lw_r6 : ∀ q ∈ lw_privs_6, lw_okq q := List.forall_mem_cons.mpr ⟨lw_p80, List.forall_mem_cons.mpr ⟨lw_p81, List.forall_mem_cons.mpr ⟨lw_p82, List.forall_mem_cons.mpr ⟨lw_p83, List.forall_mem_cons.mpr ⟨lw_p84, List.forall_mem_cons.mpr ⟨lw_p85, List.forall_mem_cons.mpr ⟨lw_p86, List.forall_mem_cons.mpr ⟨lw_p87, List.forall_mem_cons.mpr ⟨lw_p88, List.forall_mem_cons.mpr ⟨lw_p89, List.forall_mem_cons.mpr ⟨lw_p90, List.forall_mem_cons.mpr ⟨lw_p91, List.forall_mem_cons.mpr ⟨lw_p92, List.forall_mem_cons.mpr ⟨lw_p93, fun _ h => absurd h List.not_mem_nil⟩⟩⟩⟩⟩⟩⟩⟩⟩⟩⟩⟩⟩⟩
def lw_privs : List (MethodName × Nat) := lw_privs_1 ++ (lw_privs_2 ++ (lw_privs_3 ++ (lw_privs_4 ++ (lw_privs_5 ++ (lw_privs_6)))))
def lw_tbl : List Cond := k2_sels lw_privs ++ tables_1
theorem lw_privs_ok : ∀ q ∈ lw_privs, lw_okq q := by
  show ∀ q ∈ lw_privs_1 ++ (lw_privs_2 ++ (lw_privs_3 ++ (lw_privs_4 ++ (lw_privs_5 ++ (lw_privs_6))))), lw_okq q
  exact List.forall_mem_append.mpr ⟨lw_r1, List.forall_mem_append.mpr ⟨lw_r2, List.forall_mem_append.mpr ⟨lw_r3, List.forall_mem_append.mpr ⟨lw_r4, List.forall_mem_append.mpr ⟨lw_r5, lw_r6⟩⟩⟩⟩⟩
/-- a word of the tables by its place -/
theorem tb_in {w : Cond} (i : Nat) (h : tables_1[i]? = some w) : w ∈ lw_tbl := List.mem_append_right _ (List.mem_of_getElem? h)
theorem tb_pr {y : MethodName} {n : Nat} (i : Nat) (h : lw_privs[i]? = some (y, n)) : Cond.selects y.cls y y ∈ lw_tbl := List.mem_append_left _ (List.mem_map.mpr ⟨(y, n), List.mem_of_getElem? h, rfl⟩)
/-- the words that hold in every state of the run -/
def am_T : List Cond := lw_tbl.filter goodWord
theorem am_T_in {w : Cond} (h : w ∈ am_T) : w ∈ lw_tbl := (List.mem_filter.mp h).1
theorem tb {w : Cond} (i : Nat) (h : tables_1[i]? = some w) (hg : goodWord w = true) : w ∈ am_T := List.mem_filter.mpr ⟨tb_in i h, hg⟩
theorem tb_sel {y : MethodName} {n : Nat} (i : Nat) (h : lw_privs[i]? = some (y, n)) : Cond.selects y.cls y y ∈ am_T := List.mem_filter.mpr ⟨tb_pr i h, rfl⟩
theorem tb_goodIn {ws : List Cond} (h : ∀ w ∈ ws, w ∈ am_T) : GoodIn am_T ws := fun w hw => ⟨h w hw, good_of_word (List.mem_filter.mp (h w hw)).2⟩
theorem tb_lays {C : String} {T : u_T} {N : Nat} (ix : List Nat) (h : (List.range N).all (fun k => decide (tables_1[ix.getD k 0]? = some (u_lay C T k)) && goodWord (u_lay C T k)) = true) : ∀ w ∈ u_ws C T N, w ∈ am_T := by
  intro w hw
  obtain ⟨k, hk, rfl⟩ := List.mem_map.mp hw
  have h1 := List.all_eq_true.mp h k hk
  rw [Bool.and_eq_true, decide_eq_true_eq] at h1
  exact tb _ h1.1 h1.2
theorem tb1 {w : Cond} (i : Nat) (h : tables_1_1[i]? = some w) (hg : goodWord w = true) : w ∈ am_T := List.mem_filter.mpr ⟨List.mem_append_right _ (show w ∈ tables_1 from (List.mem_append_left _ (List.mem_of_getElem? h))), hg⟩
theorem tb2 {w : Cond} (i : Nat) (h : tables_1_2[i]? = some w) (hg : goodWord w = true) : w ∈ am_T := List.mem_filter.mpr ⟨List.mem_append_right _ (show w ∈ tables_1 from (List.mem_append_right _ (List.mem_append_left _ (List.mem_of_getElem? h)))), hg⟩
theorem tb3 {w : Cond} (i : Nat) (h : tables_1_3[i]? = some w) (hg : goodWord w = true) : w ∈ am_T := List.mem_filter.mpr ⟨List.mem_append_right _ (show w ∈ tables_1 from (List.mem_append_right _ (List.mem_append_right _ (List.mem_append_left _ (List.mem_of_getElem? h))))), hg⟩
theorem tb4 {w : Cond} (i : Nat) (h : tables_1_4[i]? = some w) (hg : goodWord w = true) : w ∈ am_T := List.mem_filter.mpr ⟨List.mem_append_right _ (show w ∈ tables_1 from (List.mem_append_right _ (List.mem_append_right _ (List.mem_append_right _ (List.mem_append_left _ (List.mem_of_getElem? h)))))), hg⟩
theorem tb5 {w : Cond} (i : Nat) (h : tables_1_5[i]? = some w) (hg : goodWord w = true) : w ∈ am_T := List.mem_filter.mpr ⟨List.mem_append_right _ (show w ∈ tables_1 from (List.mem_append_right _ (List.mem_append_right _ (List.mem_append_right _ (List.mem_append_right _ (List.mem_append_left _ (List.mem_of_getElem? h))))))), hg⟩
theorem tb6 {w : Cond} (i : Nat) (h : tables_1_6[i]? = some w) (hg : goodWord w = true) : w ∈ am_T := List.mem_filter.mpr ⟨List.mem_append_right _ (show w ∈ tables_1 from (List.mem_append_right _ (List.mem_append_right _ (List.mem_append_right _ (List.mem_append_right _ (List.mem_append_right _ (List.mem_append_left _ (List.mem_of_getElem? h)))))))), hg⟩
theorem tb7 {w : Cond} (i : Nat) (h : tables_1_7[i]? = some w) (hg : goodWord w = true) : w ∈ am_T := List.mem_filter.mpr ⟨List.mem_append_right _ (show w ∈ tables_1 from (List.mem_append_right _ (List.mem_append_right _ (List.mem_append_right _ (List.mem_append_right _ (List.mem_append_right _ (List.mem_append_right _ (List.mem_append_left _ (List.mem_of_getElem? h))))))))), hg⟩
theorem tb8 {w : Cond} (i : Nat) (h : tables_1_8[i]? = some w) (hg : goodWord w = true) : w ∈ am_T := List.mem_filter.mpr ⟨List.mem_append_right _ (show w ∈ tables_1 from (List.mem_append_right _ (List.mem_append_right _ (List.mem_append_right _ (List.mem_append_right _ (List.mem_append_right _ (List.mem_append_right _ (List.mem_append_right _ (List.mem_of_getElem? h))))))))), hg⟩
end
section
def kF0 : u_T := fun k => match k with
  | 0 => ("TwoCamps", "people", "LTwoCamps$People;", true)
  | 1 => ("TwoCamps", "keptPeople", "LTwoCamps$People;", true)
  | 2 => ("TwoCamps", "feelings", "LTwoCamps$Feelings;", true)
  | 3 => ("TwoCamps", "keptFeelings", "LTwoCamps$Feelings;", true)
  | 4 => ("TwoCamps", "kept", "Z", false)
  | 5 => ("TwoCamps", "keptRule", "I", false)
  | 6 => ("TwoCamps", "tape", "LTwoCamps$Tape;", true)
  | 7 => ("TwoCamps", "law", "LTwoCamps$Law;", true)
  | 8 => ("TwoCamps", "textReader", "LTwoCamps$TextReader;", true)
  | 9 => ("TwoCamps", "streetReader", "LTwoCamps$StreetReader;", true)
  | 10 => ("TwoCamps", "campings", "[LTwoCamps$Camping;", true)
  | 11 => ("TwoCamps", "campingCount", "I", false)
  | 12 => ("TwoCamps", "moved", "LTwoCamps$Camping;", true)
  | 13 => ("TwoCamps", "net", "LTwoCamps$Net;", true)
  | 14 => ("TwoCamps", "best", "LTwoCamps$Best;", true)
  | _ => ("TwoCamps", "sheets", "[LTwoCamps$Sheet;", true)
def kT0 : Nat → FieldType := fun k => match k with
  | 0 => .object "TwoCamps$People"
  | 1 => .object "TwoCamps$People"
  | 2 => .object "TwoCamps$Feelings"
  | 3 => .object "TwoCamps$Feelings"
  | 4 => .boolean
  | 5 => .int
  | 6 => .object "TwoCamps$Tape"
  | 7 => .object "TwoCamps$Law"
  | 8 => .object "TwoCamps$TextReader"
  | 9 => .object "TwoCamps$StreetReader"
  | 10 => .array (.object "TwoCamps$Camping")
  | 11 => .int
  | 12 => .object "TwoCamps$Camping"
  | 13 => .object "TwoCamps$Net"
  | 14 => .object "TwoCamps$Best"
  | _ => .array (.object "TwoCamps$Sheet")
set_option maxRecDepth 20000 in
theorem kI0 : ∀ w ∈ u_ws "TwoCamps" kF0 16, w ∈ am_T := tb_lays [388, 390, 392, 394, 396, 398, 400, 402, 404, 406, 408, 410, 412, 414, 416, 418] (by decide +kernel)
theorem kN0 : ∀ a, a < 16 → ∀ b, b < 16 → a ≠ b → (kF0 a).2.1 ≠ (kF0 b).2.1 := by decide +kernel
theorem kO0 : ∀ k, k < 16 → parseFieldDescriptor (kF0 k).2.2.1 = some (kT0 k) := by decide +kernel
def kF1 : u_T := fun k => match k with
  | 0 => ("TwoCamps$People", "size", "I", false)
  | 1 => ("TwoCamps$People", "prices", "[I", true)
  | _ => ("TwoCamps$People", "leads", "[I", true)
def kT1 : Nat → FieldType := fun k => match k with
  | 0 => .int
  | 1 => .array .int
  | _ => .array .int
set_option maxRecDepth 20000 in
theorem kI1 : ∀ w ∈ u_ws "TwoCamps$People" kF1 3, w ∈ am_T := tb_lays [47, 49, 51] (by decide +kernel)
theorem kN1 : ∀ a, a < 3 → ∀ b, b < 3 → a ≠ b → (kF1 a).2.1 ≠ (kF1 b).2.1 := by decide +kernel
theorem kO1 : ∀ k, k < 3 → parseFieldDescriptor (kF1 k).2.2.1 = some (kT1 k) := by decide +kernel
def kF2 : u_T := fun k => match k with
  | 0 => ("TwoCamps$Feelings", "size", "I", false)
  | 1 => ("TwoCamps$Feelings", "lesser", "[I", true)
  | 2 => ("TwoCamps$Feelings", "greater", "[I", true)
  | 3 => ("TwoCamps$Feelings", "signs", "[I", true)
  | 4 => ("TwoCamps$Feelings", "strengths", "[I", true)
  | 5 => ("TwoCamps$Feelings", "kinds", "[I", true)
  | 6 => ("TwoCamps$Feelings", "numbers", "[I", true)
  | _ => ("TwoCamps$Feelings", "keptSigns", "[I", true)
def kT2 : Nat → FieldType := fun k => match k with
  | 0 => .int
  | 1 => .array .int
  | 2 => .array .int
  | 3 => .array .int
  | 4 => .array .int
  | 5 => .array .int
  | 6 => .array .int
  | _ => .array .int
set_option maxRecDepth 20000 in
theorem kI2 : ∀ w ∈ u_ws "TwoCamps$Feelings" kF2 8, w ∈ am_T := tb_lays [91, 93, 95, 97, 99, 101, 103, 105] (by decide +kernel)
theorem kN2 : ∀ a, a < 8 → ∀ b, b < 8 → a ≠ b → (kF2 a).2.1 ≠ (kF2 b).2.1 := by decide +kernel
theorem kO2 : ∀ k, k < 8 → parseFieldDescriptor (kF2 k).2.2.1 = some (kT2 k) := by decide +kernel
def kF3 : u_T := fun k => match k with
  | 0 => ("TwoCamps$Tape", "size", "I", false)
  | _ => ("TwoCamps$Tape", "bytes", "[I", true)
def kT3 : Nat → FieldType := fun k => match k with
  | 0 => .int
  | _ => .array .int
set_option maxRecDepth 20000 in
theorem kI3 : ∀ w ∈ u_ws "TwoCamps$Tape" kF3 2, w ∈ am_T := tb_lays [118, 120] (by decide +kernel)
theorem kN3 : ∀ a, a < 2 → ∀ b, b < 2 → a ≠ b → (kF3 a).2.1 ≠ (kF3 b).2.1 := by decide +kernel
theorem kO3 : ∀ k, k < 2 → parseFieldDescriptor (kF3 k).2.2.1 = some (kT3 k) := by decide +kernel
def kF4 : u_T := fun k => match k with
  | 0 => ("TwoCamps$Law", "feelings", "LTwoCamps$Feelings;", true)
  | 1 => ("TwoCamps$Law", "texts", "[LTwoCamps$Text;", true)
  | 2 => ("TwoCamps$Law", "textCount", "I", false)
  | 3 => ("TwoCamps$Law", "rule", "I", false)
  | 4 => ("TwoCamps$Law", "costs", "[I", true)
  | 5 => ("TwoCamps$Law", "lets", "[Z", true)
  | 6 => ("TwoCamps$Law", "stack", "[I", true)
  | _ => ("TwoCamps$Law", "top", "I", false)
def kT4 : Nat → FieldType := fun k => match k with
  | 0 => .object "TwoCamps$Feelings"
  | 1 => .array (.object "TwoCamps$Text")
  | 2 => .int
  | 3 => .int
  | 4 => .array .int
  | 5 => .array .boolean
  | 6 => .array .int
  | _ => .int
set_option maxRecDepth 20000 in
theorem kI4 : ∀ w ∈ u_ws "TwoCamps$Law" kF4 8, w ∈ am_T := tb_lays [172, 174, 176, 178, 180, 182, 184, 186] (by decide +kernel)
theorem kN4 : ∀ a, a < 8 → ∀ b, b < 8 → a ≠ b → (kF4 a).2.1 ≠ (kF4 b).2.1 := by decide +kernel
theorem kO4 : ∀ k, k < 8 → parseFieldDescriptor (kF4 k).2.2.1 = some (kT4 k) := by decide +kernel
def kF5 : u_T := fun k => match k with
  | 0 => ("TwoCamps$Text", "tokens", "[I", true)
  | 1 => ("TwoCamps$Text", "size", "I", false)
  | _ => ("TwoCamps$Text", "half", "I", false)
def kT5 : Nat → FieldType := fun k => match k with
  | 0 => .array .int
  | 1 => .int
  | _ => .int
set_option maxRecDepth 20000 in
theorem kI5 : ∀ w ∈ u_ws "TwoCamps$Text" kF5 3, w ∈ am_T := tb_lays [142, 144, 146] (by decide +kernel)
theorem kN5 : ∀ a, a < 3 → ∀ b, b < 3 → a ≠ b → (kF5 a).2.1 ≠ (kF5 b).2.1 := by decide +kernel
theorem kO5 : ∀ k, k < 3 → parseFieldDescriptor (kF5 k).2.2.1 = some (kT5 k) := by decide +kernel
def kF6 : u_T := fun k => match k with
  | 0 => ("TwoCamps$TextReader", "tape", "LTwoCamps$Tape;", true)
  | 1 => ("TwoCamps$TextReader", "tokens", "[I", true)
  | 2 => ("TwoCamps$TextReader", "places", "[I", true)
  | 3 => ("TwoCamps$TextReader", "at", "I", false)
  | 4 => ("TwoCamps$TextReader", "token", "I", false)
  | _ => ("TwoCamps$TextReader", "read", "LTwoCamps$Text;", true)
def kT6 : Nat → FieldType := fun k => match k with
  | 0 => .object "TwoCamps$Tape"
  | 1 => .array .int
  | 2 => .array .int
  | 3 => .int
  | 4 => .int
  | _ => .object "TwoCamps$Text"
set_option maxRecDepth 20000 in
theorem kI6 : ∀ w ∈ u_ws "TwoCamps$TextReader" kF6 6, w ∈ am_T := tb_lays [204, 206, 208, 210, 212, 214] (by decide +kernel)
theorem kN6 : ∀ a, a < 6 → ∀ b, b < 6 → a ≠ b → (kF6 a).2.1 ≠ (kF6 b).2.1 := by decide +kernel
theorem kO6 : ∀ k, k < 6 → parseFieldDescriptor (kF6 k).2.2.1 = some (kT6 k) := by decide +kernel
def kF7 : u_T := fun k => match k with
  | 0 => ("TwoCamps$StreetReader", "tape", "LTwoCamps$Tape;", true)
  | 1 => ("TwoCamps$StreetReader", "people", "LTwoCamps$People;", true)
  | 2 => ("TwoCamps$StreetReader", "feelings", "LTwoCamps$Feelings;", true)
  | 3 => ("TwoCamps$StreetReader", "place", "I", false)
  | 4 => ("TwoCamps$StreetReader", "first", "I", false)
  | 5 => ("TwoCamps$StreetReader", "second", "I", false)
  | 6 => ("TwoCamps$StreetReader", "sign", "I", false)
  | 7 => ("TwoCamps$StreetReader", "strength", "I", false)
  | _ => ("TwoCamps$StreetReader", "kind", "I", false)
def kT7 : Nat → FieldType := fun k => match k with
  | 0 => .object "TwoCamps$Tape"
  | 1 => .object "TwoCamps$People"
  | 2 => .object "TwoCamps$Feelings"
  | 3 => .int
  | 4 => .int
  | 5 => .int
  | 6 => .int
  | 7 => .int
  | _ => .int
set_option maxRecDepth 20000 in
theorem kI7 : ∀ w ∈ u_ws "TwoCamps$StreetReader" kF7 9, w ∈ am_T := tb_lays [233, 235, 237, 239, 241, 243, 245, 247, 249] (by decide +kernel)
theorem kN7 : ∀ a, a < 9 → ∀ b, b < 9 → a ≠ b → (kF7 a).2.1 ≠ (kF7 b).2.1 := by decide +kernel
theorem kO7 : ∀ k, k < 9 → parseFieldDescriptor (kF7 k).2.2.1 = some (kT7 k) := by decide +kernel
def kF8 : u_T := fun k => match k with
  | 0 => ("TwoCamps$Camping", "people", "LTwoCamps$People;", true)
  | 1 => ("TwoCamps$Camping", "feelings", "LTwoCamps$Feelings;", true)
  | 2 => ("TwoCamps$Camping", "law", "LTwoCamps$Law;", true)
  | 3 => ("TwoCamps$Camping", "kind", "I", false)
  | 4 => ("TwoCamps$Camping", "size", "I", false)
  | _ => ("TwoCamps$Camping", "camps", "[I", true)
def kT8 : Nat → FieldType := fun k => match k with
  | 0 => .object "TwoCamps$People"
  | 1 => .object "TwoCamps$Feelings"
  | 2 => .object "TwoCamps$Law"
  | 3 => .int
  | 4 => .int
  | _ => .array .int
set_option maxRecDepth 20000 in
theorem kI8 : ∀ w ∈ u_ws "TwoCamps$Camping" kF8 6, w ∈ am_T := tb_lays [267, 269, 271, 273, 275, 277] (by decide +kernel)
theorem kN8 : ∀ a, a < 6 → ∀ b, b < 6 → a ≠ b → (kF8 a).2.1 ≠ (kF8 b).2.1 := by decide +kernel
theorem kO8 : ∀ k, k < 6 → parseFieldDescriptor (kF8 k).2.2.1 = some (kT8 k) := by decide +kernel
def kF9 : u_T := fun k => match k with
  | 0 => ("TwoCamps$Net", "people", "LTwoCamps$People;", true)
  | 1 => ("TwoCamps$Net", "feelings", "LTwoCamps$Feelings;", true)
  | 2 => ("TwoCamps$Net", "ringLength", "I", false)
  | 3 => ("TwoCamps$Net", "ringRow", "[I", true)
  | 4 => ("TwoCamps$Net", "queue", "[I", true)
  | 5 => ("TwoCamps$Net", "queued", "I", false)
  | 6 => ("TwoCamps$Net", "before", "[I", true)
  | _ => ("TwoCamps$Net", "steps", "[I", true)
def kT9 : Nat → FieldType := fun k => match k with
  | 0 => .object "TwoCamps$People"
  | 1 => .object "TwoCamps$Feelings"
  | 2 => .int
  | 3 => .array .int
  | 4 => .array .int
  | 5 => .int
  | 6 => .array .int
  | _ => .array .int
set_option maxRecDepth 20000 in
theorem kI9 : ∀ w ∈ u_ws "TwoCamps$Net" kF9 8, w ∈ am_T := tb_lays [296, 298, 300, 302, 304, 306, 308, 310] (by decide +kernel)
theorem kN9 : ∀ a, a < 8 → ∀ b, b < 8 → a ≠ b → (kF9 a).2.1 ≠ (kF9 b).2.1 := by decide +kernel
theorem kO9 : ∀ k, k < 8 → parseFieldDescriptor (kF9 k).2.2.1 = some (kT9 k) := by decide +kernel
def kF10 : u_T := fun k => match k with
  | 0 => ("TwoCamps$Best", "people", "LTwoCamps$People;", true)
  | 1 => ("TwoCamps$Best", "feelings", "LTwoCamps$Feelings;", true)
  | 2 => ("TwoCamps$Best", "law", "LTwoCamps$Law;", true)
  | 3 => ("TwoCamps$Best", "sum", "I", false)
  | 4 => ("TwoCamps$Best", "size", "I", false)
  | 5 => ("TwoCamps$Best", "row", "[I", true)
  | 6 => ("TwoCamps$Best", "camps", "[I", true)
  | 7 => ("TwoCamps$Best", "mostCamps", "I", false)
  | _ => ("TwoCamps$Best", "leastSpread", "I", false)
def kT10 : Nat → FieldType := fun k => match k with
  | 0 => .object "TwoCamps$People"
  | 1 => .object "TwoCamps$Feelings"
  | 2 => .object "TwoCamps$Law"
  | 3 => .int
  | 4 => .int
  | 5 => .array .int
  | 6 => .array .int
  | 7 => .int
  | _ => .int
set_option maxRecDepth 20000 in
theorem kI10 : ∀ w ∈ u_ws "TwoCamps$Best" kF10 9, w ∈ am_T := tb_lays [331, 333, 335, 337, 339, 341, 343, 345, 347] (by decide +kernel)
theorem kN10 : ∀ a, a < 9 → ∀ b, b < 9 → a ≠ b → (kF10 a).2.1 ≠ (kF10 b).2.1 := by decide +kernel
theorem kO10 : ∀ k, k < 9 → parseFieldDescriptor (kF10 k).2.2.1 = some (kT10 k) := by decide +kernel
def kF11 : u_T := fun k => match k with
  | 0 => ("TwoCamps$Sheet", "sort", "I", false)
  | 1 => ("TwoCamps$Sheet", "size", "I", false)
  | _ => ("TwoCamps$Sheet", "cells", "[I", true)
def kT11 : Nat → FieldType := fun k => match k with
  | 0 => .int
  | 1 => .int
  | _ => .array .int
set_option maxRecDepth 20000 in
theorem kI11 : ∀ w ∈ u_ws "TwoCamps$Sheet" kF11 3, w ∈ am_T := tb_lays [365, 367, 369] (by decide +kernel)
theorem kN11 : ∀ a, a < 3 → ∀ b, b < 3 → a ≠ b → (kF11 a).2.1 ≠ (kF11 b).2.1 := by decide +kernel
theorem kO11 : ∀ k, k < 3 → parseFieldDescriptor (kF11 k).2.2.1 = some (kT11 k) := by decide +kernel
def kF12 : u_T := fun k => match k with
  | 0 => ("TwoCampsModel", "thrown", "I", false)
  | 1 => ("TwoCampsModel", "texts", "[I", true)
  | 2 => ("TwoCampsModel", "textSize", "[I", true)
  | 3 => ("TwoCampsModel", "textCount", "I", false)
  | 4 => ("TwoCampsModel", "rule", "I", false)
  | 5 => ("TwoCampsModel", "tape", "[I", true)
  | 6 => ("TwoCampsModel", "taped", "I", false)
  | 7 => ("TwoCampsModel", "price", "[I", true)
  | 8 => ("TwoCampsModel", "led", "[I", true)
  | 9 => ("TwoCampsModel", "people", "I", false)
  | 10 => ("TwoCampsModel", "first", "[I", true)
  | 11 => ("TwoCampsModel", "second", "[I", true)
  | 12 => ("TwoCampsModel", "sign", "[I", true)
  | 13 => ("TwoCampsModel", "strength", "[I", true)
  | 14 => ("TwoCampsModel", "kin", "[I", true)
  | 15 => ("TwoCampsModel", "fixed", "[I", true)
  | 16 => ("TwoCampsModel", "feelings", "I", false)
  | 17 => ("TwoCampsModel", "from", "I", false)
  | 18 => ("TwoCampsModel", "size", "I", false)
  | 19 => ("TwoCampsModel", "token", "I", false)
  | 20 => ("TwoCampsModel", "tokenAt", "I", false)
  | 21 => ("TwoCampsModel", "tokenWorth", "J", false)
  | 22 => ("TwoCampsModel", "here", "I", false)
  | 23 => ("TwoCampsModel", "open", "I", false)
  | 24 => ("TwoCampsModel", "bad", "Z", false)
  | 25 => ("TwoCampsModel", "fault", "I", false)
  | 26 => ("TwoCampsModel", "about", "I", false)
  | 27 => ("TwoCampsModel", "place", "I", false)
  | 28 => ("TwoCampsModel", "wrong", "Z", false)
  | 29 => ("TwoCampsModel", "campKind", "[I", true)
  | 30 => ("TwoCampsModel", "campMany", "[I", true)
  | 31 => ("TwoCampsModel", "campOf", "[I", true)
  | 32 => ("TwoCampsModel", "campings", "I", false)
  | 33 => ("TwoCampsModel", "camp", "[I", true)
  | 34 => ("TwoCampsModel", "peaceful", "I", false)
  | 35 => ("TwoCampsModel", "line", "[I", true)
  | 36 => ("TwoCampsModel", "foundBy", "[I", true)
  | 37 => ("TwoCampsModel", "far", "[I", true)
  | 38 => ("TwoCampsModel", "ringRow", "[I", true)
  | 39 => ("TwoCampsModel", "costs", "[I", true)
  | 40 => ("TwoCampsModel", "mays", "[Z", true)
  | 41 => ("TwoCampsModel", "sums", "[I", true)
  | 42 => ("TwoCampsModel", "leastMany", "I", false)
  | 43 => ("TwoCampsModel", "keptSign", "[I", true)
  | 44 => ("TwoCampsModel", "image", "[I", true)
  | 45 => ("TwoCampsModel", "hasImage", "Z", false)
  | 46 => ("TwoCampsModel", "imagePeople", "I", false)
  | 47 => ("TwoCampsModel", "imageFeelings", "I", false)
  | 48 => ("TwoCampsModel", "imageRule", "I", false)
  | 49 => ("TwoCampsModel", "isThere", "[Z", true)
  | 50 => ("TwoCampsModel", "sorts", "[I", true)
  | 51 => ("TwoCampsModel", "sheetSize", "[I", true)
  | _ => ("TwoCampsModel", "items", "[I", true)
def kT12 : Nat → FieldType := fun k => match k with
  | 0 => .int
  | 1 => .array .int
  | 2 => .array .int
  | 3 => .int
  | 4 => .int
  | 5 => .array .int
  | 6 => .int
  | 7 => .array .int
  | 8 => .array .int
  | 9 => .int
  | 10 => .array .int
  | 11 => .array .int
  | 12 => .array .int
  | 13 => .array .int
  | 14 => .array .int
  | 15 => .array .int
  | 16 => .int
  | 17 => .int
  | 18 => .int
  | 19 => .int
  | 20 => .int
  | 21 => .long
  | 22 => .int
  | 23 => .int
  | 24 => .boolean
  | 25 => .int
  | 26 => .int
  | 27 => .int
  | 28 => .boolean
  | 29 => .array .int
  | 30 => .array .int
  | 31 => .array .int
  | 32 => .int
  | 33 => .array .int
  | 34 => .int
  | 35 => .array .int
  | 36 => .array .int
  | 37 => .array .int
  | 38 => .array .int
  | 39 => .array .int
  | 40 => .array .boolean
  | 41 => .array .int
  | 42 => .int
  | 43 => .array .int
  | 44 => .array .int
  | 45 => .boolean
  | 46 => .int
  | 47 => .int
  | 48 => .int
  | 49 => .array .boolean
  | 50 => .array .int
  | 51 => .array .int
  | _ => .array .int
set_option maxRecDepth 20000 in
theorem kI12 : ∀ w ∈ u_ws "TwoCampsModel" kF12 53, w ∈ am_T := tb_lays [1182, 1184, 1186, 1188, 1190, 1192, 1194, 1196, 1198, 1200, 1202, 1204, 1206, 1208, 1210, 1212, 1214, 1216, 1218, 1220, 1222, 1224, 1226, 1228, 1230, 1232, 1234, 1236, 1238, 1240, 1242, 1244, 1246, 1248, 1250, 1252, 1254, 1256, 1258, 1260, 1262, 1264, 1266, 1268, 1270, 1272, 1274, 1276, 1278, 1280, 1282, 1284, 1286] (by decide +kernel)
theorem kN12 : ∀ a, a < 53 → ∀ b, b < 53 → a ≠ b → (kF12 a).2.1 ≠ (kF12 b).2.1 := by decide +kernel
theorem kO12 : ∀ k, k < 53 → parseFieldDescriptor (kF12 k).2.2.1 = some (kT12 k) := by decide +kernel
abbrev classes : List vw_C := [("TwoCamps", kF0, 16), ("TwoCamps$People", kF1, 3), ("TwoCamps$Feelings", kF2, 8), ("TwoCamps$Tape", kF3, 2), ("TwoCamps$Law", kF4, 8), ("TwoCamps$Text", kF5, 3), ("TwoCamps$TextReader", kF6, 6), ("TwoCamps$StreetReader", kF7, 9), ("TwoCamps$Camping", kF8, 6), ("TwoCamps$Net", kF9, 8), ("TwoCamps$Best", kF10, 9), ("TwoCamps$Sheet", kF11, 3), ("TwoCampsModel", kF12, 53)]
def kT : Nat → Nat → FieldType := fun ci => match ci with
  | 0 => kT0
  | 1 => kT1
  | 2 => kT2
  | 3 => kT3
  | 4 => kT4
  | 5 => kT5
  | 6 => kT6
  | 7 => kT7
  | 8 => kT8
  | 9 => kT9
  | 10 => kT10
  | 11 => kT11
  | _ => kT12
theorem k_all {ci : Nat} {q : vw_C} (h : classes[ci]? = some q) : (∀ w ∈ u_ws q.1 q.2.1 q.2.2, w ∈ am_T) ∧ (∀ a, a < q.2.2 → ∀ b, b < q.2.2 → a ≠ b → (q.2.1 a).2.1 ≠ (q.2.1 b).2.1) ∧ (∀ k, k < q.2.2 → parseFieldDescriptor (q.2.1 k).2.2.1 = some (kT ci k)) := by
  match ci, h with
  | 0, h => cases h; exact ⟨kI0, kN0, kO0⟩
  | 1, h => cases h; exact ⟨kI1, kN1, kO1⟩
  | 2, h => cases h; exact ⟨kI2, kN2, kO2⟩
  | 3, h => cases h; exact ⟨kI3, kN3, kO3⟩
  | 4, h => cases h; exact ⟨kI4, kN4, kO4⟩
  | 5, h => cases h; exact ⟨kI5, kN5, kO5⟩
  | 6, h => cases h; exact ⟨kI6, kN6, kO6⟩
  | 7, h => cases h; exact ⟨kI7, kN7, kO7⟩
  | 8, h => cases h; exact ⟨kI8, kN8, kO8⟩
  | 9, h => cases h; exact ⟨kI9, kN9, kO9⟩
  | 10, h => cases h; exact ⟨kI10, kN10, kO10⟩
  | 11, h => cases h; exact ⟨kI11, kN11, kO11⟩
  | 12, h => cases h; exact ⟨kI12, kN12, kO12⟩
  | n + 13, h => simp [classes] at h
/-- the cells by their names: kind (0 ints, 1 booleans, 2 3 4 rows of Campings, Texts, Sheets, 5 + class), length, codes (0 an int, 1 the long, n + 2 the cell n) -/
def am_sh : List (Nat × Nat × List Nat) := [(5, 0, [3, 6, 9, 17, 0, 0, 25, 27, 44, 49, 50, 0, 71, 73, 78, 81]), (6, 0, [0, 4, 5]), (0, 9, []), (0, 9, []), (6, 0, [0, 7, 8]), (0, 9, []), (0, 9, []), (7, 0, [0, 10, 11, 12, 13, 14, 15, 16]), (0, 36, []), (0, 36, []), (0, 36, []), (0, 36, []), (0, 36, []), (0, 81, []), (0, 36, []), (7, 0, [0, 18, 19, 20, 21, 22, 23, 24]), (0, 36, []), (0, 36, []), (0, 36, []), (0, 36, []), (0, 36, []), (0, 81, []), (0, 36, []), (8, 0, [0, 26]), (0, 160, []), (9, 0, [9, 28, 0, 0, 29, 30, 31, 0]), (3, 6, [30, 32, 34, 36, 38, 40]), (0, 36, []), (1, 36, []), (0, 160, []), (10, 0, [33, 0, 0]), (0, 160, []), (10, 0, [35, 0, 0]), (0, 160, []), (10, 0, [37, 0, 0]), (0, 160, []), (10, 0, [39, 0, 0]), (0, 160, []), (10, 0, [41, 0, 0]), (0, 160, []), (10, 0, [43, 0, 0]), (0, 160, []), (11, 0, [25, 45, 46, 0, 0, 47]), (0, 161, []), (0, 161, []), (10, 0, [48, 0, 0]), (0, 160, []), (12, 0, [25, 3, 9, 0, 0, 0, 0, 0, 0]), (2, 10, [49, 51, 53, 55, 57, 59, 61, 63, 65, 67]), (13, 0, [3, 9, 27, 0, 0, 52]), (0, 9, []), (13, 0, [3, 9, 27, 0, 0, 54]), (0, 9, []), (13, 0, [3, 9, 27, 0, 0, 56]), (0, 9, []), (13, 0, [3, 9, 27, 0, 0, 58]), (0, 9, []), (13, 0, [3, 9, 27, 0, 0, 60]), (0, 9, []), (13, 0, [3, 9, 27, 0, 0, 62]), (0, 9, []), (13, 0, [3, 9, 27, 0, 0, 64]), (0, 9, []), (13, 0, [3, 9, 27, 0, 0, 66]), (0, 9, []), (13, 0, [3, 9, 27, 0, 0, 68]), (0, 9, []), (13, 0, [3, 9, 27, 0, 0, 70]), (0, 9, []), (13, 0, [3, 9, 27, 0, 0, 72]), (0, 9, []), (14, 0, [3, 9, 0, 74, 75, 0, 76, 77]), (0, 18, []), (0, 18, []), (0, 18, []), (0, 18, []), (15, 0, [3, 9, 27, 0, 0, 79, 80, 0, 0]), (0, 256, []), (0, 9, []), (4, 4, [80, 82, 84, 86]), (16, 0, [0, 0, 83]), (0, 40, []), (16, 0, [0, 0, 85]), (0, 40, []), (16, 0, [0, 0, 87]), (0, 40, []), (16, 0, [0, 0, 89]), (0, 40, []), (17, 0, [0, 91, 92, 0, 0, 93, 0, 94, 95, 0, 96, 97, 98, 99, 100, 101, 0, 0, 0, 0, 0, 1, 0, 0, 0, 0, 0, 0, 0, 102, 103, 104, 0, 105, 0, 106, 107, 108, 109, 110, 111, 112, 0, 113, 114, 0, 0, 0, 0, 115, 116, 117, 118]), (0, 960, []), (0, 6, []), (0, 160, []), (0, 9, []), (0, 9, []), (0, 36, []), (0, 36, []), (0, 36, []), (0, 36, []), (0, 36, []), (0, 36, []), (0, 10, []), (0, 10, []), (0, 90, []), (0, 9, []), (0, 18, []), (0, 18, []), (0, 18, []), (0, 18, []), (0, 36, []), (1, 36, []), (0, 512, []), (0, 36, []), (0, 234, []), (1, 4, []), (0, 4, []), (0, 4, []), (0, 160, [])]
def am_N : Nat := 117
theorem am_shN : am_sh.length = am_N := by decide +kernel
end
section
/-! THE ABSTRACT MACHINE: cells by names, ints by (name, slot), the one long; instructions as acts -/
abbrev am_I : Type := Nat → Nat → Int32
abbrev am_L : Type := List (Option Value)
abbrev am_K : Type := am_L → List Value → am_I → Int64 → Prop
/-- next, jump, return -/
abbrev am_A : Type := am_K → (Nat → am_K) → am_K → am_K
/-- the launch, the addresses of names, the classes' numbers and slots, the array classes -/
abbrev am_E : Type := Launch × (Nat → Nat) × va_G × (Nat → ClassId)
abbrev am_Y : Type := MethodName × ByteArray × Nat × Option FieldType
abbrev am_sT : Type := Nat × Nat × List Nat
def am_nt {α : Type} : List α → Nat → Option α
  | [], _ => none
  | a :: _, 0 => some a
  | _ :: l, n + 1 => am_nt l n
theorem am_nt_eq {α : Type} : ∀ (l : List α) (n : Nat), am_nt l n = l[n]?
  | [], n => by simp [am_nt]
  | a :: l, 0 => by simp [am_nt]
  | a :: l, n + 1 => by simp [am_nt, am_nt_eq l n]
def am_sl : am_L → Nat → Option Value → am_L
  | [], _, _ => []
  | _ :: l, 0, v => v :: l
  | a :: l, n + 1, v => a :: am_sl l n v
theorem am_sl_len : ∀ (l : am_L) (i : Nat) (v : Option Value), (am_sl l i v).length = l.length
  | [], _, _ => rfl
  | _ :: l, 0, _ => rfl
  | _ :: l, n + 1, v => by simp [am_sl, am_sl_len l n v]
theorem am_sl_nt : ∀ (l : am_L) (i : Nat) (v : Option Value) (j : Nat), am_nt (am_sl l i v) j = if j = i ∧ i < l.length then some v else am_nt l j
  | [], i, v, j => by simp [am_sl, am_nt]
  | a :: l, 0, v, 0 => by simp [am_sl, am_nt]
  | a :: l, 0, v, j + 1 => by simp [am_sl, am_nt]
  | a :: l, n + 1, v, 0 => by simp [am_sl, am_nt]
  | a :: l, n + 1, v, j + 1 => by
    simp only [am_sl, am_nt, am_sl_nt l n v j, List.length_cons]
    by_cases h : j = n ∧ n < l.length
    · rw [if_pos h, if_pos ⟨by omega, by omega⟩]
    · rw [if_neg h, if_neg (fun q => h ⟨by omega, by omega⟩)]
/-- a long that lies just ahead of a slot that is written is gone -/
def am_kl (f : am_L) : Nat → am_L
  | 0 => f
  | j + 1 => match am_nt f j with
    | some (some u) => (match Nat.beq u.category 2 with
      | true => am_sl f j none
      | false => f)
    | _ => f
def am_st1 (f : am_L) (i : Nat) (v : Value) : am_L := am_sl (am_kl f i) i (some v)
def am_st2 (f : am_L) (i : Nat) (v : Value) : am_L := am_sl (am_sl (am_kl f i) i (some v)) (i + 1) none
theorem am_kl_len (f : am_L) (i : Nat) : (am_kl f i).length = f.length := by
  cases i with
  | zero => rfl
  | succ j =>
    simp only [am_kl]
    split
    · split
      · exact am_sl_len _ _ _
      · rfl
    · rfl
theorem am_kl_nt {f : am_L} {i j : Nat} {u : Value} (h : am_nt (am_kl f i) j = some (some u)) : am_nt f j = some (some u) ∧ ¬ (j + 1 = i ∧ u.category = 2) := by
  cases i with
  | zero => exact ⟨h, fun q => by omega⟩
  | succ k =>
    simp only [am_kl] at h
    split at h
    · next v hv =>
      split at h
      · next hc =>
        rw [am_sl_nt] at h
        by_cases hj : j = k ∧ k < f.length
        · rw [if_pos hj] at h; cases h
        · rw [if_neg hj] at h
          refine ⟨h, fun q => ?_⟩
          have e : j = k := by omega
          subst e
          rw [am_nt_eq] at h
          exact hj ⟨rfl, (List.getElem?_eq_some_iff.mp h).1⟩
      · next hc =>
        refine ⟨h, fun q => ?_⟩
        have e : j = k := by omega
        subst e
        rw [hv] at h
        cases h
        rw [q.2] at hc
        exact absurd hc (by decide)
    · next hn =>
      refine ⟨h, fun q => ?_⟩
      have e : j = k := by omega
      subst e
      exact hn u h
theorem am_st1_nt {f : am_L} {i j : Nat} {u v : Value} (h : am_nt (am_st1 f i v) j = some (some u)) : (j = i ∧ u = v) ∨ (j ≠ i ∧ am_nt f j = some (some u) ∧ ¬ (j + 1 = i ∧ u.category = 2)) := by
  unfold am_st1 at h
  rw [am_sl_nt] at h
  by_cases hj : j = i ∧ i < (am_kl f i).length
  · rw [if_pos hj] at h; cases h; exact Or.inl ⟨hj.1, rfl⟩
  · rw [if_neg hj] at h
    obtain ⟨h1, h2⟩ := am_kl_nt h
    refine Or.inr ⟨fun e => hj ⟨e, ?_⟩, h1, h2⟩
    subst e
    rw [am_nt_eq] at h
    exact (List.getElem?_eq_some_iff.mp h).1
theorem am_st2_nt {f : am_L} {i j : Nat} {u v : Value} (h : am_nt (am_st2 f i v) j = some (some u)) : (j = i ∧ u = v) ∨ (j ≠ i ∧ j ≠ i + 1 ∧ am_nt f j = some (some u) ∧ ¬ (j + 1 = i ∧ u.category = 2)) := by
  unfold am_st2 at h
  rw [am_sl_nt] at h
  by_cases hj : j = i + 1 ∧ i + 1 < (am_sl (am_kl f i) i (some v)).length
  · rw [if_pos hj] at h; cases h
  · rw [if_neg hj] at h
    have hne : j ≠ i + 1 := by
      intro e
      subst e
      rw [am_nt_eq] at h
      exact hj ⟨rfl, (List.getElem?_eq_some_iff.mp h).1⟩
    rcases am_st1_nt (f := f) (i := i) (v := v) h with h1 | ⟨h1, h2, h3⟩
    · exact Or.inl h1
    · exact Or.inr ⟨h1, hne, h2, h3⟩
def am_rz (ad : Nat → Nat) : Value → Value
  | .ref k => .ref (ad k)
  | v => v
theorem am_rz_cat (ad : Nat → Nat) (v : Value) : (am_rz ad v).category = v.category := by cases v <;> rfl
/-- the known locals as the kit lists them -/
def am_lv (ad : Nat → Nat) : Nat → am_L → List (Nat × Value)
  | _, [] => []
  | b, none :: r => am_lv ad (b + 1) r
  | b, some v :: r => (b, am_rz ad v) :: am_lv ad (b + 1) r
theorem am_lv_mem (ad : Nat → Nat) : ∀ (f : am_L) (b : Nat) (q : Nat × Value), q ∈ am_lv ad b f ↔ ∃ (i : Nat) (v : Value), am_nt f i = some (some v) ∧ q = (b + i, am_rz ad v)
  | [], b, q => by simp [am_lv, am_nt]
  | none :: r, b, q => by
    rw [am_lv, am_lv_mem ad r (b + 1) q]
    constructor
    · rintro ⟨i, v, h, e⟩
      exact ⟨i + 1, v, h, by rw [e]; congr 1; omega⟩
    · rintro ⟨i, v, h, e⟩
      cases i with
      | zero => simp [am_nt] at h
      | succ i => exact ⟨i, v, h, by rw [e]; congr 1; omega⟩
  | some u :: r, b, q => by
    rw [am_lv, List.mem_cons, am_lv_mem ad r (b + 1) q]
    constructor
    · rintro (e | ⟨i, v, h, e⟩)
      · exact ⟨0, u, rfl, by rw [e]; rfl⟩
      · exact ⟨i + 1, v, h, by rw [e]; congr 1; omega⟩
    · rintro ⟨i, v, h, e⟩
      cases i with
      | zero =>
        simp [am_nt] at h
        subst h
        exact Or.inl (by rw [e]; rfl)
      | succ i => exact Or.inr ⟨i, v, h, by rw [e]; congr 1; omega⟩
def am_ls (ad : Nat → Nat) (nL : Nat) (ls : Array Slot) (f : am_L) : Prop := f.length = nL ∧ lv_has ls nL (am_lv ad 0 f)
theorem am_ls.at {ad : Nat → Nat} {nL : Nat} {ls : Array Slot} {f : am_L} (h : am_ls ad nL ls f) {i : Nat} {v : Value} (hi : am_nt f i = some (some v)) : ls[i]? = some (.val (am_rz ad v)) :=
  h.2.2.2 (i, am_rz ad v) ((am_lv_mem ad f 0 _).mpr ⟨i, v, hi, by rw [Nat.zero_add]⟩)
theorem am_ls.lt {ad : Nat → Nat} {nL : Nat} {ls : Array Slot} {f : am_L} (h : am_ls ad nL ls f) {i : Nat} {z : Option Value} (hi : am_nt f i = some z) : i < nL := by
  rw [am_nt_eq] at hi
  have := (List.getElem?_eq_some_iff.mp hi).1
  have := h.1
  omega
theorem am_ls.st1 {ad : Nat → Nat} {nL : Nat} {ls ls' : Array Slot} {f : am_L} (h : am_ls ad nL ls f) {i : Nat} {v : Value}
    (h' : lv_has ls' nL ((i, am_rz ad v) :: (am_lv ad 0 f).filter (fun q => !(q.1 == i) && !(q.1 + 1 == i && q.2.category == 2)))) : am_ls ad nL ls' (am_st1 f i v) := by
  refine ⟨by unfold am_st1; rw [am_sl_len, am_kl_len]; exact h.1, h'.1, h'.2.1, fun q hq => h'.2.2 q ?_⟩
  obtain ⟨j, u, hj, e⟩ := (am_lv_mem ad _ 0 q).mp hq
  rw [Nat.zero_add] at e
  rw [e]
  rcases am_st1_nt hj with ⟨h1, h2⟩ | ⟨h1, h2, h3⟩
  · rw [h1, h2]; exact List.mem_cons_self
  · refine List.mem_cons_of_mem _ (List.mem_filter.mpr ⟨(am_lv_mem ad f 0 _).mpr ⟨j, u, h2, by rw [Nat.zero_add]⟩, ?_⟩)
    simp only [am_rz_cat]
    simp only [Bool.and_eq_true, Bool.not_eq_true', beq_eq_false_iff_ne, ne_eq, Bool.and_eq_false_iff]
    refine ⟨h1, ?_⟩
    by_cases hh : j + 1 = i
    · exact Or.inr (fun q => h3 ⟨hh, q⟩)
    · exact Or.inl hh
theorem am_ls.st2 {ad : Nat → Nat} {nL : Nat} {ls ls' : Array Slot} {f : am_L} (h : am_ls ad nL ls f) {i : Nat} {v : Value}
    (h' : lv_has ls' nL ((i, am_rz ad v) :: (am_lv ad 0 f).filter (fun q => !(q.1 == i) && (!(q.1 == i + 1) && !(q.1 + 1 == i && q.2.category == 2))))) : am_ls ad nL ls' (am_st2 f i v) := by
  refine ⟨by unfold am_st2; rw [am_sl_len, am_sl_len, am_kl_len]; exact h.1, h'.1, h'.2.1, fun q hq => h'.2.2 q ?_⟩
  obtain ⟨j, u, hj, e⟩ := (am_lv_mem ad _ 0 q).mp hq
  rw [Nat.zero_add] at e
  rw [e]
  rcases am_st2_nt hj with ⟨h1, h2⟩ | ⟨h1, h1b, h2, h3⟩
  · rw [h1, h2]; exact List.mem_cons_self
  · refine List.mem_cons_of_mem _ (List.mem_filter.mpr ⟨(am_lv_mem ad f 0 _).mpr ⟨j, u, h2, by rw [Nat.zero_add]⟩, ?_⟩)
    simp only [am_rz_cat]
    simp only [Bool.and_eq_true, Bool.not_eq_true', beq_eq_false_iff_ne, ne_eq, Bool.and_eq_false_iff]
    refine ⟨h1, h1b, ?_⟩
    by_cases hh : j + 1 = i
    · exact Or.inr (fun q => h3 ⟨hh, q⟩)
    · exact Or.inl hh
/-! the world of a state of ints -/
def am_cv (ad : Nat → Nat) (x : Int32) (w : Int64) : Nat → Value
  | 0 => .int x
  | 1 => .long w
  | q + 2 => .ref (ad q)
def am_fv (ad : Nat → Nat) (f : Nat → Int32) (w : Int64) : Nat → List Nat → List Value
  | _, [] => []
  | j, c :: r => am_cv ad (f j) w c :: am_fv ad f w (j + 1) r
theorem am_fv_get (ad : Nat → Nat) (f : Nat → Int32) (w : Int64) : ∀ (r : List Nat) (b j : Nat), (am_fv ad f w b r)[j]? = (r[j]?).map (am_cv ad (f (b + j)) w)
  | [], b, j => by simp [am_fv]
  | c :: r, b, 0 => by simp [am_fv]
  | c :: r, b, j + 1 => by
    rw [am_fv, List.getElem?_cons_succ, List.getElem?_cons_succ, am_fv_get ad f w r (b + 1) j]
    rw [show b + 1 + j = b + (j + 1) by omega]
theorem am_fv_len (ad : Nat → Nat) (f : Nat → Int32) (w : Int64) : ∀ (r : List Nat) (b : Nat), (am_fv ad f w b r).length = r.length
  | [], b => rfl
  | c :: r, b => by simp [am_fv, am_fv_len ad f w r (b + 1)]
def am_ce (E : am_E) (f : Nat → Int32) (w : Int64) : am_sT → va_E
  | (0, n, _) => .inl (E.2.2.2 0, n, .inl f)
  | (1, n, _) => .inl (E.2.2.2 1, n, .inl f)
  | (2, n, r) => .inl (E.2.2.2 2, n, .inr (.inr (.inr (.inr (fun i => some (E.2.1 (r.getD i 0)))))))
  | (3, n, r) => .inl (E.2.2.2 3, n, .inr (.inr (.inr (.inr (fun i => some (E.2.1 (r.getD i 0)))))))
  | (4, n, r) => .inl (E.2.2.2 4, n, .inr (.inr (.inr (.inr (fun i => some (E.2.1 (r.getD i 0)))))))
  | (q + 5, _, r) => .inr (q, am_fv E.2.1 f w 0 r)
def am_wdl (E : am_E) (I : am_I) (w : Int64) : Nat → List am_sT → va_W
  | _, [] => []
  | b, s :: r => (E.2.1 b, am_ce E (I b) w s) :: am_wdl E I w (b + 1) r
def am_wd (E : am_E) (I : am_I) (w : Int64) : va_W := am_wdl E I w 0 am_sh
theorem am_wdl_get (E : am_E) (I : am_I) (w : Int64) : ∀ (l : List am_sT) (b k : Nat), (am_wdl E I w b l)[k]? = (l[k]?).map (fun s => (E.2.1 (b + k), am_ce E (I (b + k)) w s))
  | [], b, k => by simp [am_wdl]
  | s :: r, b, 0 => by simp [am_wdl]
  | s :: r, b, k + 1 => by
    rw [am_wdl, List.getElem?_cons_succ, List.getElem?_cons_succ, am_wdl_get E I w r (b + 1) k]
    rw [show b + 1 + k = b + (k + 1) by omega]
theorem am_wd_get (E : am_E) (I : am_I) (w : Int64) {k : Nat} {s : am_sT} (h : am_sh[k]? = some s) : (am_wd E I w)[k]? = some (E.2.1 k, am_ce E (I k) w s) := by
  unfold am_wd
  rw [am_wdl_get, h, Nat.zero_add]
  rfl
theorem am_wd_set {E : am_E} {I I' : am_I} {w w' : Int64} {k : Nat} {s : am_sT} (h : am_sh[k]? = some s) (hI : ∀ (j : Nat) (s' : am_sT), j ≠ k → am_sh[j]? = some s' → am_ce E (I j) w s' = am_ce E (I' j) w' s') :
    (am_wd E I w).set k (E.2.1 k, am_ce E (I' k) w' s) = am_wd E I' w' := by
  apply List.ext_getElem?
  intro j
  by_cases hj : j = k
  · subst hj
    rw [am_wd_get E I' w' h, List.getElem?_set_self]
    have := am_wd_get E I w h
    exact (List.getElem?_eq_some_iff.mp this).1
  · rw [List.getElem?_set_ne (Ne.symm hj)]
    unfold am_wd
    rw [am_wdl_get, am_wdl_get]
    cases hs : am_sh[j]? with
    | none => rfl
    | some s' =>
      simp only [Option.map_some, Nat.zero_add]
      rw [hI j s' hj hs]
/-- the cells of the world -/
def am_Ad (E : am_E) : Nat → Prop := fun q => ∃ k, k < am_N ∧ q = E.2.1 k
def am_inj (E : am_E) : Prop := ∀ i j, i < am_N → j < am_N → E.2.1 i = E.2.1 j → i = j
theorem am_wd_at {E : am_E} {I : am_I} {w : Int64} {k : Nat} {p : Nat × va_E} (h : (am_wd E I w)[k]? = some p) : k < am_N ∧ p.1 = E.2.1 k := by
  unfold am_wd at h
  rw [am_wdl_get] at h
  cases hs : am_sh[k]? with
  | none => rw [hs] at h; cases h
  | some s =>
    rw [hs] at h
    simp only [Option.map_some, Nat.zero_add, Option.some.injEq] at h
    refine ⟨?_, by rw [← h]⟩
    rw [← am_shN]
    exact (List.getElem?_eq_some_iff.mp hs).1
theorem am_wd_D {E : am_E} (hi : am_inj E) (I : am_I) (w : Int64) : va_D (am_Ad E) (am_wd E I w) := by
  refine ⟨fun i j p q h1 h2 e => ?_, fun k q h => ?_⟩
  · obtain ⟨a1, a2⟩ := am_wd_at h1
    obtain ⟨b1, b2⟩ := am_wd_at h2
    exact hi i j a1 b1 (by rw [← a2, ← b2]; exact e)
  · obtain ⟨a1, a2⟩ := am_wd_at h
    exact ⟨k, a1, a2⟩
def am_up (I : am_I) (k j : Nat) (v : Int32) : am_I := fun a i => if a = k then (if i = j then v else I a i) else I a i
theorem am_up_ne {I : am_I} {k j : Nat} {v : Int32} {a : Nat} (h : a ≠ k) : am_up I k j v a = I a := by
  funext i
  simp [am_up, h]
theorem am_up_self {I : am_I} {k j : Nat} {v : Int32} : am_up I k j v k = upd (I k) j v := by
  funext i
  simp [am_up, upd]
/-! what the statement's own tables give, in every state of the run -/
def am_tys (E : am_E) : List (ClassId × FieldType) := [(E.2.2.2 0, .int), (E.2.2.2 1, .boolean), (E.2.2.2 2, .object "TwoCamps$Camping"), (E.2.2.2 3, .object "TwoCamps$Text"), (E.2.2.2 4, .object "TwoCamps$Sheet")]
def am_under (j : Nat) : Int32 := ([-1, 0, 0, 2, 1, 1] : List Int32).getD j 0
def am_room (j : Nat) : Int32 := ([4, 2, 4, 3, 2, 2] : List Int32).getD j 0
/-- the String constants: their entries in TextReader, texts, lengths and bytes -/
def am_tx : List (Nat × String) := [(79, "cost"), (85, "let"), (87, "or"), (89, "and"), (91, "not"), (93, "strength"), (95, "hate"), (97, "kin"), (99, "fixed"), (101, "least"), (103, "most")]
def am_tl : List Nat := [4, 3, 2, 3, 3, 8, 4, 3, 5, 5, 4]
def am_tb : List (List Int32) := [[99, 111, 115, 116], [108, 101, 116], [111, 114], [97, 110, 100], [110, 111, 116], [115, 116, 114, 101, 110, 103, 116, 104], [104, 97, 116, 101], [107, 105, 110], [102, 105, 120, 101, 100], [108, 101, 97, 115, 116], [109, 111, 115, 116]]
/-- links to private members of a nest mate -/
def am_nest : List (String × Nat × MethodName × String) := [("TwoCamps", 9, ⟨"TwoCamps$People", "<init>", "()V"⟩, "TwoCamps"), ("TwoCamps", 31, ⟨"TwoCamps$Tape", "<init>", "()V"⟩, "TwoCamps"), ("TwoCamps$Law", 36, ⟨"TwoCamps$Text", "<init>", "()V"⟩, "TwoCamps"), ("TwoCamps$TextReader", 20, ⟨"TwoCamps$Text", "<init>", "()V"⟩, "TwoCamps"), ("TwoCamps", 98, ⟨"TwoCamps$Sheet", "<init>", "()V"⟩, "TwoCamps"), ("TwoCamps$Camping", 77, ⟨"TwoCamps", "isUnder", "(II)Z"⟩, "TwoCamps"), ("TwoCamps$Feelings", 55, ⟨"TwoCamps", "isTogether", "(III)Z"⟩, "TwoCamps"), ("TwoCamps$Best", 67, ⟨"TwoCamps", "isTogether", "(III)Z"⟩, "TwoCamps")]
/-- static things, unchanged -/
def am_Fx (E : am_E) (U : State) (H : Heap) : Prop :=
  (va_Z "TwoCamps" "UNDER" "[I" (.ref (E.2.1 120)) (am_Ad E) U H ∧ va_T .int (E.2.1 120) 6 (fun j => .int (am_under j)) (am_Ad E) U H) ∧
  (va_Z "TwoCamps" "ROOM" "[I" (.ref (E.2.1 121)) (am_Ad E) U H ∧ va_T .int (E.2.1 121) 6 (fun j => .int (am_room j)) (am_Ad E) U H) ∧
  (va_Z "java/lang/String" "COMPACT_STRINGS" "Z" (.int 1) (am_Ad E) U H ∧ (va_Z "jdk/internal/util/Preconditions" "SIOOBE_FORMATTER" "Ljava/util/function/BiFunction;" .null (am_Ad E) U H ∨ va_Z "jdk/internal/util/Preconditions" "SIOOBE_FORMATTER" "Ljava/util/function/BiFunction;" (.ref (E.2.1 171)) (am_Ad E) U H)) ∧
  (vk_S 11 am_tl am_tb (fun i => E.2.1 (130 + i)) (fun i => E.2.1 (150 + i)) (am_Ad E) U H) ∧
  (∀ i : Nat, i < 11 → vk_R "TwoCamps$TextReader" (am_tx.getD i (0, "")).1 (am_tx.getD i (0, "")).2 (E.2.1 (130 + i)) U) ∧
  ∀ q ∈ am_nest, va_Nw (.methodLinkNest q.1 q.2.1 q.2.2.1 q.2.2.2) U
theorem am_Fx.warm {E : am_E} {u U : State} {H : Heap} (hW : u.WarmedH U.vm) (h : am_Fx E u H) : am_Fx E U H := by
  obtain ⟨⟨a1, a2⟩, ⟨b1, b2⟩, ⟨c1, c2⟩, d, f, g⟩ := h
  have hv := hW.alike
  exact ⟨⟨a1.moved hv, a2.moved hv⟩, ⟨b1.moved hv, b2.moved hv⟩, ⟨c1.moved hv, c2.imp (va_Z.moved hv) (va_Z.moved hv)⟩, d.moved hv, fun i hi => (f i hi).warm hW, fun q hq => va_Nw.warmM hW (g q hq)⟩
theorem am_Fx.same {E : am_E} {u U : State} {H : Heap} (hv : U.vm = u.vm) (h : am_Fx E u H) : am_Fx E U H := by
  obtain ⟨⟨a1, a2⟩, ⟨b1, b2⟩, ⟨c1, c2⟩, d, f, g⟩ := h
  have hv' : u.vm.Alike U.vm := by rw [hv]; exact Vm.Alike.refl _
  exact ⟨⟨a1.moved hv', a2.moved hv'⟩, ⟨b1.moved hv', b2.moved hv'⟩, ⟨c1.moved hv', c2.imp (va_Z.moved hv') (va_Z.moved hv')⟩, d.moved hv', fun i hi => (f i hi).same hv, fun q hq => va_Nw.same rfl hv.symm (g q hq)⟩
theorem am_Fx.kept {E : am_E} {U : State} {H H1 : Heap} (h : am_Fx E U H) (hq : ∀ a : Nat, a < H.size → ¬ am_Ad E a → H1[a]? = H[a]?) : am_Fx E U H1 := by
  obtain ⟨⟨a1, a2⟩, ⟨b1, b2⟩, ⟨c1, c2⟩, d, f, g⟩ := h
  exact ⟨⟨a1.kept hq, a2.kept hq⟩, ⟨b1.kept hq, b2.kept hq⟩, ⟨c1.kept hq, c2.imp (fun h => va_Z.kept h hq) (fun h => va_Z.kept h hq)⟩, d.kept hq, f, g⟩
/-! contracts -/
/-- the room of a call of level k -/
def am_rm (k : Nat) : Room := { frames := k, cells := 0, slots := 0, locals := 100 * k + 100 }
def am_Pc (E : am_E) (av : List Value) (I : am_I) (w : Int64) : Array Value → State → Prop := fun v U =>
  v = (av.map (am_rz E.2.1)).toArray ∧ va_K E.2.2.1 classes (am_tys E) U ∧ va_P E.2.2.1 classes (am_wd E I w) U.heap ∧ am_Fx E U U.heap
def am_Qc (E : am_E) (r : Option Value) (I : am_I) (w : Int64) : Array Value → State → Outcome → State → Prop := fun _ st o t =>
  o = .returned (r.map (am_rz E.2.1)) ∧ va_P E.2.2.1 classes (am_wd E I w) t.heap ∧ va_F (am_Ad E) st t
/-- the call of Y with the arguments av in the state (I, w) comes back with r in the state (I', w') -/
def am_Ret (E : am_E) (k : Nat) (Y : am_Y) (av : List Value) (I : am_I) (w : Int64) (r : Option Value) (I' : am_I) (w' : Int64) : Prop :=
  Met E.1 Y.1 (Cond.code Y.1 Y.2.1 Y.2.2.1 Y.2.2.2 :: am_T) (am_rm k) (am_Pc E av I w) (am_Qc E r I' w') 0 0 (am_Ad E)
theorem am_Pc_blind (E : am_E) (av : List Value) (I : am_I) (w : Int64) : FrameBlind (am_Pc E av I w) := by
  intro a U g mk h
  obtain ⟨h1, h2, h3, h4⟩ := h
  exact ⟨h1, va_K.moved (u := U) (U := U.calling g mk a) (Vm.Alike.refl U.vm) h2, h3, am_Fx.same (u := U) (U := U.calling g mk a) rfl h4⟩
/-! a method's activation -/
section AM
variable {E : am_E} {p : Program} {l : Launch} {e : Env} {R : Room} {s : State} {m : MethodId} {args : Array Value} {below : List Frame} {meth : Method} {c : Code} {Q : State → Prop} {nc ns : Nat} {cc : ByteArray} {nL : Nat} {own : String} {post : am_K} {k : Nat}
def am_Sem (E : am_E) (p : Program) (l : Launch) (e : Env) (R : Room) (s : State) (m : MethodId) (args : Array Value) (below : List Frame) (meth : Method) (c : Code) (nL : Nat) (Q : State → Prop) (nc ns : Nat) (pc : Nat) : am_K := fun f st I w =>
  ∀ (H : Heap) (locs : List Loc) (ls : Array Slot), va_P E.2.2.1 classes (am_wd E I w) H → va_S (am_Ad E) s.heap H locs → am_ls E.2.1 nL ls f → W p l e R s m args below meth c H locs nc ns Q (F0 m pc ls (st.map (am_rz E.2.1)))
/-- an instruction that ends the method, with what is on the stack -/
def am_isr (i : Instr) (st : List Value) : Prop := (i = .ireturn ∧ ∃ v, st = [.int v]) ∨ (i = .lreturn ∧ ∃ v, st = [.long v]) ∨ (i = .return_ ∧ st = [])
def am_Ctx (E : am_E) (k : Nat) (p : Program) (l : Launch) (e : Env) (R : Room) (s : State) (m : MethodId) (args : Array Value) (below : List Frame) (meth : Method) (c : Code) (Q : State → Prop) (nc ns : Nat) (cc : ByteArray) (nL : Nat) (own : String) (post : am_K) : Prop :=
  (p.tables.exec = Jvm.exec ∧ c.code = cc ∧ c.maxLocals = nL ∧ s.vm.findClass own = some m.cls ∧ (∀ w ∈ am_T, w.before args s = true)) ∧
  (va_K E.2.2.1 classes (am_tys E) s ∧ am_Fx E s s.heap ∧ am_inj E ∧ E.1 = l) ∧
  (k ≤ R.frames ∧ 100 * k + 100 ≤ R.locals ∧ nc ≤ R.cells ∧ ns ≤ R.slots) ∧
  ∀ (i : Instr) (f : am_L) (st : List Value) (I : am_I) (w : Int64) (pc : Nat) (H : Heap) (locs : List Loc) (ls : Array Slot), post f st I w → am_isr i st → decode cc pc = .ok (i, 1) → va_P E.2.2.1 classes (am_wd E I w) H → va_S (am_Ad E) s.heap H locs →
    W p l e R s m args below meth c H locs nc ns Q (F0 m pc ls (st.map (am_rz E.2.1)))
end AM
/-- one act is right -/
def am_G (S : Nat → am_K) (post : am_K) (pc len : Nat) (a : am_A) : Prop := ∀ (K : am_K) (J : Nat → am_K) (f : am_L) (st : List Value) (I : am_I) (w : Int64), a K J post f st I w →
  (∀ f st I w, K f st I w → S (pc + len) f st I w) → (∀ t f st I w, J t f st I w → S t f st I w) → S pc f st I w
/-- .. in every activation of the method -/
def am_V (E : am_E) (k : Nat) (cc : ByteArray) (nL : Nat) (own : String) (pc len : Nat) (a : am_A) : Prop :=
  ∀ (p : Program) (l : Launch) (e : Env) (R : Room) (s : State) (m : MethodId) (args : Array Value) (below : List Frame) (meth : Method) (c : Code) (Q : State → Prop) (nc ns : Nat) (post : am_K), am_Ctx E k p l e R s m args below meth c Q nc ns cc nL own post →
    am_G (am_Sem E p l e R s m args below meth c nL Q nc ns) post pc len a
abbrev am_P : Type := List (Nat × am_A)
def am_hd (q : Nat) : am_P → Prop
  | [] => True
  | (pc, _) :: _ => q = pc
def am_ok (S : Nat → am_K) (post : am_K) : am_P → Prop
  | [] => True
  | (pc, a) :: r => (∃ len, am_G S post pc len a ∧ am_hd (pc + len) r) ∧ am_ok S post r
def am_pv (E : am_E) (k : Nat) (cc : ByteArray) (nL : Nat) (own : String) : am_P → Prop
  | [] => True
  | (pc, a) :: r => (∃ len, am_V E k cc nL own pc len a ∧ am_hd (pc + len) r) ∧ am_pv E k cc nL own r
theorem am_pv_ok {E : am_E} {k : Nat} {cc : ByteArray} {nL : Nat} {own : String} {p : Program} {l : Launch} {e : Env} {R : Room} {s : State} {m : MethodId} {args : Array Value} {below : List Frame} {meth : Method} {c : Code} {Q : State → Prop} {nc ns : Nat} {post : am_K}
    (C : am_Ctx E k p l e R s m args below meth c Q nc ns cc nL own post) : ∀ (P : am_P), am_pv E k cc nL own P → am_ok (am_Sem E p l e R s m args below meth c nL Q nc ns) post P
  | [], _ => trivial
  | (pc, a) :: r, h => by
    obtain ⟨⟨len, h1, h2⟩, h3⟩ := h
    exact ⟨⟨len, h1 p l e R s m args below meth c Q nc ns post C, h2⟩, am_pv_ok C r h3⟩
def am_seek (t : Nat) : am_P → am_P
  | [] => []
  | (pc, a) :: r => match Nat.beq t pc with
    | true => (pc, a) :: r
    | false => am_seek t r
def am_nx (stop : Nat → Bool) (S : Nat → am_K) (g : am_K) : am_P → am_K
  | [], _, _, _, _ => False
  | (pc, _) :: _, f, st, I, w => match stop pc with
    | true => S pc f st I w
    | false => g f st I w
def am_go (P : am_P) (stop : Nat → Bool) (S : Nat → am_K) (post : am_K) : Nat → am_P → am_K
  | 0, _, _, _, _, _ => False
  | _ + 1, [], _, _, _, _ => False
  | n + 1, (_, a) :: r, f, st, I, w => a (fun f st I w => am_nx stop S (am_go P stop S post n r) r f st I w)
      (fun t f st I w => match stop t with
        | true => S t f st I w
        | false => am_go P stop S post n (am_seek t P) f st I w) post f st I w
theorem am_seek_ok {S : Nat → am_K} {post : am_K} (t : Nat) : ∀ (P : am_P), am_ok S post P → am_seek t P = [] ∨ ∃ a r, am_seek t P = (t, a) :: r ∧ am_ok S post ((t, a) :: r)
  | [], _ => Or.inl rfl
  | (pc, a) :: r, h => by
    unfold am_seek
    cases hb : Nat.beq t pc with
    | true =>
      have e : t = pc := Nat.eq_of_beq_eq_true hb
      subst e
      exact Or.inr ⟨a, r, rfl, h⟩
    | false => exact am_seek_ok t r h.2
theorem am_run {P : am_P} {stop : Nat → Bool} {S : Nat → am_K} {post : am_K} (hP : am_ok S post P) : ∀ (n : Nat) (r : am_P) (pc : Nat) (a : am_A) (f : am_L) (st : List Value) (I : am_I) (w : Int64), am_ok S post ((pc, a) :: r) → am_go P stop S post n ((pc, a) :: r) f st I w → S pc f st I w := by
  intro n
  induction n with
  | zero => intro r pc a f st I w _ h; exact h.elim
  | succ n ih =>
    intro r pc a f st I w hr h
    obtain ⟨⟨len, hG, hh⟩, hr2⟩ := hr
    refine hG _ _ f st I w h (fun f st I w hk => ?_) (fun t f st I w hj => ?_)
    · cases r with
      | nil => exact hk.elim
      | cons q r =>
        obtain ⟨pc', a'⟩ := q
        have e : pc + len = pc' := hh
        rw [e]
        dsimp only [am_nx] at hk
        cases hs : stop pc' with
        | true => rw [hs] at hk; exact hk
        | false => rw [hs] at hk; exact ih r pc' a' f st I w hr2 hk
    · cases hs : stop t with
      | true => rw [hs] at hj; exact hj
      | false =>
        rw [hs] at hj
        rcases am_seek_ok t P hP with h0 | ⟨a', r', h0, h1⟩
        · rw [h0] at hj
          cases n <;> exact hj.elim
        · rw [h0] at hj
          exact ih r' t a' f st I w h1 hj
/-- a stretch of a method's walk, from pc to the next stops -/
theorem am_at {P : am_P} {S : Nat → am_K} {post : am_K} (hP : am_ok S post P) (stop : Nat → Bool) (n pc : Nat) {f : am_L} {st : List Value} {I : am_I} {w : Int64} (h : am_go P stop S post n (am_seek pc P) f st I w) : S pc f st I w := by
  rcases am_seek_ok pc P hP with h0 | ⟨a, r, h0, h1⟩
  · rw [h0] at h
    cases n <;> exact h.elim
  · rw [h0] at h
    exact am_run hP n r pc a f st I w h1 h
def am_mem (t : Nat) : List Nat → Bool
  | [] => false
  | a :: l => match Nat.beq t a with
    | true => true
    | false => am_mem t l
/-- the locals with which a method begins -/
def am_f0 : List Value → am_L
  | [] => []
  | .long v :: r => some (.long v) :: none :: am_f0 r
  | v :: r => some v :: am_f0 r
def am_pad (n : Nat) (f : am_L) : am_L := f ++ List.replicate (n - f.length) none
def am_po (r : Option Value) (I' : am_I) (w' : Int64) : am_K := fun _ st I w => st = r.toList ∧ I = I' ∧ w = w'
/-- what a method of a type may answer -/
def am_nr : Option FieldType → Option Value → Prop
  | none, none => True
  | some .long, some (.long _) => True
  | some ty, some (.int v) => narrow ty (.int v) = .int v
  | _, _ => False
theorem am_f0_lv (ad : Nat → Nat) : ∀ (av : List Value) (b : Nat), (∀ v ∈ av, ∀ x, v ≠ .double x) → am_lv ad b (am_f0 av) = lv_args b (av.map (am_rz ad))
  | [], b, _ => rfl
  | v :: r, b, h => by
    have ih := fun b => am_f0_lv ad r b (fun u hu => h u (List.mem_cons_of_mem _ hu))
    cases v with
    | double x => exact absurd rfl (h _ List.mem_cons_self x)
    | _ => simp [am_f0, am_lv, lv_args, am_rz, Value.category, ih]
theorem am_lv_pad (ad : Nat → Nat) : ∀ (f : am_L) (b n : Nat), am_lv ad b (f ++ List.replicate n none) = am_lv ad b f
  | [], b, n => by
    induction n generalizing b with
    | zero => rfl
    | succ n ih =>
      rw [List.nil_append] at ih ⊢
      rw [List.replicate_succ, am_lv]
      exact ih (b + 1)
  | none :: r, b, n => by rw [List.cons_append, am_lv, am_lv, am_lv_pad ad r (b + 1) n]
  | some v :: r, b, n => by rw [List.cons_append, am_lv, am_lv, am_lv_pad ad r (b + 1) n]
theorem am_f0_len (ad : Nat → Nat) : ∀ (av : List Value), (∀ v ∈ av, ∀ x, v ≠ .double x) → (am_f0 av).length = (lg_sl (av.map (am_rz ad))).length
  | [], _ => rfl
  | v :: r, h => by
    have ih := am_f0_len ad r (fun u hu => h u (List.mem_cons_of_mem _ hu))
    have e : lg_sl ((v :: r).map (am_rz ad)) = (if (am_rz ad v).category = 2 then [Slot.val (am_rz ad v), .second] else [.val (am_rz ad v)]) ++ lg_sl (r.map (am_rz ad)) := by
      simp [lg_sl]
    rw [e, List.length_append, ← ih]
    cases v with
    | double x => exact absurd rfl (h _ List.mem_cons_self x)
    | _ => simp [am_f0, am_rz, Value.category] <;> omega
def am_nod : List Value → Bool
  | [] => true
  | .double _ :: _ => false
  | _ :: r => am_nod r
theorem am_nod_of : ∀ (av : List Value), am_nod av = true → ∀ v ∈ av, ∀ x, v ≠ .double x
  | [], _, v, hv, _ => by cases hv
  | u :: r, h, v, hv, x => by
    rcases List.mem_cons.mp hv with e | e
    · subst e
      intro q
      subst q
      simp [am_nod] at h
    · refine am_nod_of r ?_ v e x
      cases u <;> simp_all [am_nod]
theorem am_tl1 {r : Option Value} {x : Value} (h : [x] = r.toList) : r = some x := by
  cases r with
  | none => cases h
  | some u => simp at h; rw [h]
theorem am_tl0 {r : Option Value} (h : [] = r.toList) : r = none := by
  cases r with
  | none => rfl
  | some u => cases h
/-- A CONTRACT FROM A WALK -/
theorem am_intro {E : am_E} {k : Nat} {Y : am_Y} {av : List Value} {I I' : am_I} {w w' : Int64} {r : Option Value} {P : am_P} (hv : am_pv E k Y.2.1 Y.2.2.1 Y.1.cls P) (hy : plainName Y.1.cls = true) (hi : am_inj E) (hnr : am_nr Y.2.2.2 r) (hav : am_nod av = true) (hn : (am_f0 av).length ≤ Y.2.2.1)
    (h : ∀ (S : Nat → am_K), am_ok S (am_po r I' w') P → S 0 (am_pad Y.2.2.1 (am_f0 av)) [] I w) : am_Ret E k Y av I w r I' w' := by
  refine Met.ofW (cc := Y.2.1) (maxL := Y.2.2.1) (ret := Y.2.2.2) hy rfl ?_
  intro p e s m args below meth c s₁ B hml hP
  obtain ⟨rfl, hK, hW, hF⟩ := hP
  have hts := atoms_spec (ws := Cond.code Y.1 Y.2.1 Y.2.2.1 Y.2.2.2 :: am_T) B.pre
  have C : am_Ctx E k p E.1 e (am_rm k) s m (av.map (am_rz E.2.1)).toArray below meth c (MQ below (am_Qc E r I' w') (av.map (am_rz E.2.1)).toArray s 0 0 (am_Ad E)) 0 0 Y.2.1 Y.2.2.1 Y.1.cls (am_po r I' w') := by
    refine ⟨⟨B.exec, B.bytes, hml, findClass_of_methodNamed B.named, fun w hw => hts w (List.mem_cons_of_mem _ hw)⟩, ⟨hK, hF, hi, rfl⟩, ⟨Nat.le_refl _, Nat.le_refl _, Nat.le_refl _, Nat.le_refl _⟩, ?_⟩
    intro i f st J v pc H locs ls hpost hisr hd hP hS
    obtain ⟨h1, rfl, rfl⟩ := hpost
    have hq : ∀ (z : Option Value) (t : State), t.heap = H → z = r.map (am_rz E.2.1) → am_Qc E r J v (av.map (am_rz E.2.1)).toArray s (.returned z) t := fun z t ht hz => ⟨by rw [hz], by rw [ht]; exact hP, hS.F ht⟩
    rcases hisr with ⟨rfl, x, rfl⟩ | ⟨rfl, x, rfl⟩ | ⟨rfl, rfl⟩
    · have hr : r = some (.int x) := am_tl1 h1
      subst hr
      cases hret : Y.2.2.2 with
      | none => rw [hret] at hnr; exact hnr.elim
      | some ty =>
        rw [hret] at hnr
        have hn' : narrow ty (.int x) = .int x := by cases ty <;> first | exact hnr | exact hnr.elim
        exact W.zret B.exec B.bytes (ty := ty) (by rw [B.returns, hret]) hn' (fun t ht _ => hq _ t ht rfl) hS.2.2 hd B.notSynchronized
    · have hr : r = some (.long x) := am_tl1 h1
      subst hr
      have hret : Y.2.2.2 = some .long := by
        revert hnr
        cases Y.2.2.2 with
        | none => exact fun h => h.elim
        | some ty => cases ty <;> first | exact fun _ => rfl | exact fun h => h.elim
      exact W.lret B.exec B.bytes (by rw [B.returns, hret]) (fun t ht _ => hq _ t ht rfl) hS.2.2 hd B.notSynchronized
    · have hr : r = none := am_tl0 h1
      subst hr
      have hret : Y.2.2.2 = none := by
        revert hnr
        cases Y.2.2.2 with
        | none => exact fun _ => rfl
        | some ty => cases ty <;> exact fun h => h.elim
      exact W.vret B.exec B.bytes (by rw [B.returns, hret]) (fun t ht _ => hq _ t ht rfl) hS.2.2 hd B.notSynchronized
  have h0 := h _ (am_pv_ok C P hv)
  have hd := am_nod_of av hav
  have hlen := am_f0_len E.2.1 av hd
  have hl := lv_entry (av.map (am_rz E.2.1)) (n := Y.2.2.1) (by rw [← hlen]; exact hn)
  rw [lg_entry_eq]
  refine h0 s.heap [] _ hW va_S.rf ⟨?_, ?_⟩
  · unfold am_pad
    rw [List.length_append, List.length_replicate]
    omega
  · unfold am_pad
    rw [am_lv_pad, am_f0_lv E.2.1 av 0 hd]
    exact hl
end
section
/-! THE ACTS, and that they are right -/
section ACTS
variable {E : am_E} {k : Nat} {cc : ByteArray} {nL : Nat} {own : String} {pc : Nat}
def aI (v : Int32) : am_A := fun K _ _ f st I w => K f (.int v :: st) I w
def aJ (v : Int64) : am_A := fun K _ _ f st I w => K f (.long v :: st) I w
theorem v_iconst {n : Int} {v : Int32} (hd : decode cc pc = .ok (.iconst n, 1)) (hv : Int32.ofInt n = v) : am_V E k cc nL own pc 1 (aI v) := by
  intro p l e R s m args below meth c Q nc ns post C K J f st I w ha hK hJ
  obtain ⟨⟨hx, hb, hml, hown, hts⟩, ⟨hKn, hFx, hinj, hl⟩, ⟨hR1, hR2, hR3, hR4⟩, hpost⟩ := C
  exact fun H locs ls hP hS hls => lv_iconst hx hb hd hv (hK _ _ _ _ ha H locs ls hP hS hls)
theorem v_bipush {n : Int} {v : Int32} (hd : decode cc pc = .ok (.bipush n, 2)) (hv : (Int8.ofInt n).toInt32 = v) : am_V E k cc nL own pc 2 (aI v) := by
  intro p l e R s m args below meth c Q nc ns post C K J f st I w ha hK hJ
  obtain ⟨⟨hx, hb, hml, hown, hts⟩, ⟨hKn, hFx, hinj, hl⟩, ⟨hR1, hR2, hR3, hR4⟩, hpost⟩ := C
  exact fun H locs ls hP hS hls => lv_bipush hx hb hd hv (hK _ _ _ _ ha H locs ls hP hS hls)
theorem v_sipush {n : Int} {v : Int32} (hd : decode cc pc = .ok (.sipush n, 3)) (hv : (Int16.ofInt n).toInt32 = v) : am_V E k cc nL own pc 3 (aI v) := by
  intro p l e R s m args below meth c Q nc ns post C K J f st I w ha hK hJ
  obtain ⟨⟨hx, hb, hml, hown, hts⟩, ⟨hKn, hFx, hinj, hl⟩, ⟨hR1, hR2, hR3, hR4⟩, hpost⟩ := C
  exact fun H locs ls hP hS hls => lv_sipush hx hb hd hv (hK _ _ _ _ ha H locs ls hP hS hls)
theorem v_lconst {n : Fin 2} {v : Int64} (hd : decode cc pc = .ok (.lconst n, 1)) (hv : Int64.ofNat (n : Nat) = v) : am_V E k cc nL own pc 1 (aJ v) := by
  intro p l e R s m args below meth c Q nc ns post C K J f st I w ha hK hJ
  obtain ⟨⟨hx, hb, hml, hown, hts⟩, ⟨hKn, hFx, hinj, hl⟩, ⟨hR1, hR2, hR3, hR4⟩, hpost⟩ := C
  exact fun H locs ls hP hS hls => lv_lconst hx hb hd hv (hK _ _ _ _ ha H locs ls hP hS hls)
theorem v_ldc {i : Nat} {v : Int32} (hw : Cond.constant own i v ∈ am_T) (hd : decode cc pc = .ok (.ldc i, 2)) : am_V E k cc nL own pc 2 (aI v) := by
  intro p l e R s m args below meth c Q nc ns post C K J f st I w ha hK hJ
  obtain ⟨⟨hx, hb, hml, hown, hts⟩, ⟨hKn, hFx, hinj, hl⟩, ⟨hR1, hR2, hR3, hR4⟩, hpost⟩ := C
  exact fun H locs ls hP hS hls => lv_ldc hx hb hown (hts _ hw) hd (hK _ _ _ _ ha H locs ls hP hS hls)
theorem v_ldcw {i : Nat} {v : Int32} (hw : Cond.constant own i v ∈ am_T) (hd : decode cc pc = .ok (.ldc_w i, 3)) : am_V E k cc nL own pc 3 (aI v) := by
  intro p l e R s m args below meth c Q nc ns post C K J f st I w ha hK hJ
  obtain ⟨⟨hx, hb, hml, hown, hts⟩, ⟨hKn, hFx, hinj, hl⟩, ⟨hR1, hR2, hR3, hR4⟩, hpost⟩ := C
  exact fun H locs ls hP hS hls => lv_ldcw hx hb hown (hts _ hw) hd (hK _ _ _ _ ha H locs ls hP hS hls)
theorem v_ldc2 {i : Nat} {v : Int64} (hw : Cond.constantLong own i v ∈ am_T) (hd : decode cc pc = .ok (.ldc2_w i, 3)) : am_V E k cc nL own pc 3 (aJ v) := by
  intro p l e R s m args below meth c Q nc ns post C K J f st I w ha hK hJ
  obtain ⟨⟨hx, hb, hml, hown, hts⟩, ⟨hKn, hFx, hinj, hl⟩, ⟨hR1, hR2, hR3, hR4⟩, hpost⟩ := C
  exact fun H locs ls hP hS hls => lv_ldc2 hx hb hown (hts _ hw) hd (hK _ _ _ _ ha H locs ls hP hS hls)
def aLi (i : Nat) : am_A := fun K _ _ f st I w => match am_nt f i with
  | some (some (.int x)) => K f (.int x :: st) I w
  | _ => False
theorem v_iload {i : Nat} (hd : decode cc pc = .ok (.iload i, 2)) : am_V E k cc nL own pc 2 (aLi i) := by
  intro p l e R s m args below meth c Q nc ns post C K J f st I w ha hK hJ
  obtain ⟨⟨hx, hb, hml, hown, hts⟩, ⟨hKn, hFx, hinj, hl⟩, ⟨hR1, hR2, hR3, hR4⟩, hpost⟩ := C
  simp only [aLi] at ha
  split at ha
  · rename_i x hv
    exact fun H locs ls hP hS hls => lv_iload hx hb hd (hls.at hv) (hK _ _ _ _ ha H locs ls hP hS hls)
  · exact ha.elim
theorem v_iload_n {i : Nat} {q : Fin 4} (hd : decode cc pc = .ok (.iload_n q, 1)) (hi : (q : Nat) = i) : am_V E k cc nL own pc 1 (aLi i) := by
  intro p l e R s m args below meth c Q nc ns post C K J f st I w ha hK hJ
  obtain ⟨⟨hx, hb, hml, hown, hts⟩, ⟨hKn, hFx, hinj, hl⟩, ⟨hR1, hR2, hR3, hR4⟩, hpost⟩ := C
  simp only [aLi] at ha
  split at ha
  · rename_i x hv
    exact fun H locs ls hP hS hls => lv_iload_n hx hb hd hi (hls.at hv) (hK _ _ _ _ ha H locs ls hP hS hls)
  · exact ha.elim
def aLj (i : Nat) : am_A := fun K _ _ f st I w => match am_nt f i with
  | some (some (.long x)) => K f (.long x :: st) I w
  | _ => False
theorem v_lload {i : Nat} (hd : decode cc pc = .ok (.lload i, 2)) : am_V E k cc nL own pc 2 (aLj i) := by
  intro p l e R s m args below meth c Q nc ns post C K J f st I w ha hK hJ
  obtain ⟨⟨hx, hb, hml, hown, hts⟩, ⟨hKn, hFx, hinj, hl⟩, ⟨hR1, hR2, hR3, hR4⟩, hpost⟩ := C
  simp only [aLj] at ha
  split at ha
  · rename_i x hv
    exact fun H locs ls hP hS hls => lv_lload hx hb hd (hls.at hv) (hK _ _ _ _ ha H locs ls hP hS hls)
  · exact ha.elim
theorem v_lload_n {i : Nat} {q : Fin 4} (hd : decode cc pc = .ok (.lload_n q, 1)) (hi : (q : Nat) = i) : am_V E k cc nL own pc 1 (aLj i) := by
  intro p l e R s m args below meth c Q nc ns post C K J f st I w ha hK hJ
  obtain ⟨⟨hx, hb, hml, hown, hts⟩, ⟨hKn, hFx, hinj, hl⟩, ⟨hR1, hR2, hR3, hR4⟩, hpost⟩ := C
  simp only [aLj] at ha
  split at ha
  · rename_i x hv
    exact fun H locs ls hP hS hls => lv_lload_n hx hb hd hi (hls.at hv) (hK _ _ _ _ ha H locs ls hP hS hls)
  · exact ha.elim
def aLa (i : Nat) : am_A := fun K _ _ f st I w => match am_nt f i with
  | some (some (.ref x)) => K f (.ref x :: st) I w
  | _ => False
theorem v_aload {i : Nat} (hd : decode cc pc = .ok (.aload i, 2)) : am_V E k cc nL own pc 2 (aLa i) := by
  intro p l e R s m args below meth c Q nc ns post C K J f st I w ha hK hJ
  obtain ⟨⟨hx, hb, hml, hown, hts⟩, ⟨hKn, hFx, hinj, hl⟩, ⟨hR1, hR2, hR3, hR4⟩, hpost⟩ := C
  simp only [aLa] at ha
  split at ha
  · rename_i x hv
    exact fun H locs ls hP hS hls => lv_aload hx hb hd (hls.at hv) (hK _ _ _ _ ha H locs ls hP hS hls)
  · exact ha.elim
theorem v_aload_n {i : Nat} {q : Fin 4} (hd : decode cc pc = .ok (.aload_n q, 1)) (hi : (q : Nat) = i) : am_V E k cc nL own pc 1 (aLa i) := by
  intro p l e R s m args below meth c Q nc ns post C K J f st I w ha hK hJ
  obtain ⟨⟨hx, hb, hml, hown, hts⟩, ⟨hKn, hFx, hinj, hl⟩, ⟨hR1, hR2, hR3, hR4⟩, hpost⟩ := C
  simp only [aLa] at ha
  split at ha
  · rename_i x hv
    exact fun H locs ls hP hS hls => lv_aload_n hx hb hd hi (hls.at hv) (hK _ _ _ _ ha H locs ls hP hS hls)
  · exact ha.elim
def aSi (i : Nat) : am_A := fun K _ _ f st I w => match st with
  | .int x :: r => (match am_nt f i with
    | some _ => K (am_st1 f i (.int x)) r I w
    | none => False)
  | _ => False
theorem v_istore {i : Nat} (hd : decode cc pc = .ok (.istore i, 2)) : am_V E k cc nL own pc 2 (aSi i) := by
  intro p l e R s m args below meth c Q nc ns post C K J f st I w ha hK hJ
  obtain ⟨⟨hx, hb, hml, hown, hts⟩, ⟨hKn, hFx, hinj, hl⟩, ⟨hR1, hR2, hR3, hR4⟩, hpost⟩ := C
  simp only [aSi] at ha
  split at ha
  · rename_i x r
    split at ha
    · rename_i z hz
      exact fun H locs ls hP hS hls => lv_istore hx hb hd hls.2 (hls.lt hz) rfl (fun ls' h' => hK _ _ _ _ ha H locs ls' hP hS (hls.st1 (v := .int x) h'))
    · exact ha.elim
  · exact ha.elim
theorem v_istore_n {i : Nat} {q : Fin 4} (hd : decode cc pc = .ok (.istore_n q, 1)) (hi : (q : Nat) = i) : am_V E k cc nL own pc 1 (aSi i) := by
  intro p l e R s m args below meth c Q nc ns post C K J f st I w ha hK hJ
  obtain ⟨⟨hx, hb, hml, hown, hts⟩, ⟨hKn, hFx, hinj, hl⟩, ⟨hR1, hR2, hR3, hR4⟩, hpost⟩ := C
  simp only [aSi] at ha
  split at ha
  · rename_i x r
    split at ha
    · rename_i z hz
      exact fun H locs ls hP hS hls => lv_istore_n hx hb hd hi hls.2 (hls.lt hz) rfl (fun ls' h' => hK _ _ _ _ ha H locs ls' hP hS (hls.st1 (v := .int x) h'))
    · exact ha.elim
  · exact ha.elim
def aSj (i : Nat) : am_A := fun K _ _ f st I w => match st with
  | .long x :: r => (match am_nt f (i + 1) with
    | some _ => K (am_st2 f i (.long x)) r I w
    | none => False)
  | _ => False
theorem v_lstore {i : Nat} (hd : decode cc pc = .ok (.lstore i, 2)) : am_V E k cc nL own pc 2 (aSj i) := by
  intro p l e R s m args below meth c Q nc ns post C K J f st I w ha hK hJ
  obtain ⟨⟨hx, hb, hml, hown, hts⟩, ⟨hKn, hFx, hinj, hl⟩, ⟨hR1, hR2, hR3, hR4⟩, hpost⟩ := C
  simp only [aSj] at ha
  split at ha
  · rename_i x r
    split at ha
    · rename_i z hz
      exact fun H locs ls hP hS hls => lv_lstore hx hb hd hls.2 (hls.lt hz) rfl (fun ls' h' => hK _ _ _ _ ha H locs ls' hP hS (hls.st2 (v := .long x) h'))
    · exact ha.elim
  · exact ha.elim
theorem v_lstore_n {i : Nat} {q : Fin 4} (hd : decode cc pc = .ok (.lstore_n q, 1)) (hi : (q : Nat) = i) : am_V E k cc nL own pc 1 (aSj i) := by
  intro p l e R s m args below meth c Q nc ns post C K J f st I w ha hK hJ
  obtain ⟨⟨hx, hb, hml, hown, hts⟩, ⟨hKn, hFx, hinj, hl⟩, ⟨hR1, hR2, hR3, hR4⟩, hpost⟩ := C
  simp only [aSj] at ha
  split at ha
  · rename_i x r
    split at ha
    · rename_i z hz
      exact fun H locs ls hP hS hls => lv_lstore_n hx hb hd hi hls.2 (hls.lt hz) rfl (fun ls' h' => hK _ _ _ _ ha H locs ls' hP hS (hls.st2 (v := .long x) h'))
    · exact ha.elim
  · exact ha.elim
def aSa (i : Nat) : am_A := fun K _ _ f st I w => match st with
  | .ref x :: r => (match am_nt f i with
    | some _ => K (am_st1 f i (.ref x)) r I w
    | none => False)
  | _ => False
theorem v_astore {i : Nat} (hd : decode cc pc = .ok (.astore i, 2)) : am_V E k cc nL own pc 2 (aSa i) := by
  intro p l e R s m args below meth c Q nc ns post C K J f st I w ha hK hJ
  obtain ⟨⟨hx, hb, hml, hown, hts⟩, ⟨hKn, hFx, hinj, hl⟩, ⟨hR1, hR2, hR3, hR4⟩, hpost⟩ := C
  simp only [aSa] at ha
  split at ha
  · rename_i x r
    split at ha
    · rename_i z hz
      exact fun H locs ls hP hS hls => lv_astore hx hb hd hls.2 (hls.lt hz) rfl (fun ls' h' => hK _ _ _ _ ha H locs ls' hP hS (hls.st1 (v := .ref x) h'))
    · exact ha.elim
  · exact ha.elim
theorem v_astore_n {i : Nat} {q : Fin 4} (hd : decode cc pc = .ok (.astore_n q, 1)) (hi : (q : Nat) = i) : am_V E k cc nL own pc 1 (aSa i) := by
  intro p l e R s m args below meth c Q nc ns post C K J f st I w ha hK hJ
  obtain ⟨⟨hx, hb, hml, hown, hts⟩, ⟨hKn, hFx, hinj, hl⟩, ⟨hR1, hR2, hR3, hR4⟩, hpost⟩ := C
  simp only [aSa] at ha
  split at ha
  · rename_i x r
    split at ha
    · rename_i z hz
      exact fun H locs ls hP hS hls => lv_astore_n hx hb hd hi hls.2 (hls.lt hz) rfl (fun ls' h' => hK _ _ _ _ ha H locs ls' hP hS (hls.st1 (v := .ref x) h'))
    · exact ha.elim
  · exact ha.elim
def aInc (i : Nat) (d : Int32) : am_A := fun K _ _ f st I w => match am_nt f i with
  | some (some (.int x)) => K (am_st1 f i (.int (x + d))) st I w
  | _ => False
theorem v_iinc {i : Nat} {n : Int} {d : Int32} (hd : decode cc pc = .ok (.iinc i n, 3)) (hn : Int32.ofInt n = d) : am_V E k cc nL own pc 3 (aInc i d) := by
  intro p l e R s m args below meth c Q nc ns post C K J f st I w ha hK hJ
  obtain ⟨⟨hx, hb, hml, hown, hts⟩, ⟨hKn, hFx, hinj, hl⟩, ⟨hR1, hR2, hR3, hR4⟩, hpost⟩ := C
  simp only [aInc] at ha
  split at ha
  · rename_i x hv
    subst hn
    intro H locs ls hP hS hls
    have hm := (am_lv_mem E.2.1 f 0 (i, am_rz E.2.1 (.int x))).mpr ⟨i, .int x, hv, by rw [Nat.zero_add]⟩
    obtain ⟨q, hq⟩ := List.getElem?_of_mem hm
    exact lv_iinc hx hb (k := q) (x := x) hd hls.2 hq rfl (hls.lt hv) rfl (fun ls' h' => hK _ _ _ _ ha H locs ls' hP hS (hls.st1 (v := .int (x + Int32.ofInt n)) h'))
  · exact ha.elim
theorem v_iincW {i : Nat} {n : Int} {d : Int32} (hd : decode cc pc = .ok (.iinc i n, 6)) (hn : Int32.ofInt n = d) : am_V E k cc nL own pc 6 (aInc i d) := by
  intro p l e R s m args below meth c Q nc ns post C K J f st I w ha hK hJ
  obtain ⟨⟨hx, hb, hml, hown, hts⟩, ⟨hKn, hFx, hinj, hl⟩, ⟨hR1, hR2, hR3, hR4⟩, hpost⟩ := C
  simp only [aInc] at ha
  split at ha
  · rename_i x hv
    subst hn
    intro H locs ls hP hS hls
    have hm := (am_lv_mem E.2.1 f 0 (i, am_rz E.2.1 (.int x))).mpr ⟨i, .int x, hv, by rw [Nat.zero_add]⟩
    obtain ⟨q, hq⟩ := List.getElem?_of_mem hm
    exact lv_iincW hx hb (k := q) (x := x) hd hls.2 hq rfl (hls.lt hv) rfl (fun ls' h' => hK _ _ _ _ ha H locs ls' hP hS (hls.st1 (v := .int (x + Int32.ofInt n)) h'))
  · exact ha.elim
def aB (op : Int32 → Int32 → Int32) : am_A := fun K _ _ f st I w => match st with
  | .int y :: .int x :: r => K f (.int (op x y) :: r) I w
  | _ => False
theorem v_iadd (hd : decode cc pc = .ok (.iadd, 1)) : am_V E k cc nL own pc 1 (aB (fun x y => x + y)) := by
  intro p l e R s m args below meth c Q nc ns post C K J f st I w ha hK hJ
  obtain ⟨⟨hx, hb, hml, hown, hts⟩, ⟨hKn, hFx, hinj, hl⟩, ⟨hR1, hR2, hR3, hR4⟩, hpost⟩ := C
  simp only [aB] at ha
  split at ha
  · rename_i y x r
    exact fun H locs ls hP hS hls => lv_iadd hx hb hd (hK _ _ _ _ ha H locs ls hP hS hls)
  · exact ha.elim
theorem v_isub (hd : decode cc pc = .ok (.isub, 1)) : am_V E k cc nL own pc 1 (aB (fun x y => x - y)) := by
  intro p l e R s m args below meth c Q nc ns post C K J f st I w ha hK hJ
  obtain ⟨⟨hx, hb, hml, hown, hts⟩, ⟨hKn, hFx, hinj, hl⟩, ⟨hR1, hR2, hR3, hR4⟩, hpost⟩ := C
  simp only [aB] at ha
  split at ha
  · rename_i y x r
    exact fun H locs ls hP hS hls => lv_isub hx hb hd (hK _ _ _ _ ha H locs ls hP hS hls)
  · exact ha.elim
theorem v_imul (hd : decode cc pc = .ok (.imul, 1)) : am_V E k cc nL own pc 1 (aB (fun x y => x * y)) := by
  intro p l e R s m args below meth c Q nc ns post C K J f st I w ha hK hJ
  obtain ⟨⟨hx, hb, hml, hown, hts⟩, ⟨hKn, hFx, hinj, hl⟩, ⟨hR1, hR2, hR3, hR4⟩, hpost⟩ := C
  simp only [aB] at ha
  split at ha
  · rename_i y x r
    exact fun H locs ls hP hS hls => lv_imul hx hb hd (hK _ _ _ _ ha H locs ls hP hS hls)
  · exact ha.elim
theorem v_iand (hd : decode cc pc = .ok (.iand, 1)) : am_V E k cc nL own pc 1 (aB (fun x y => x &&& y)) := by
  intro p l e R s m args below meth c Q nc ns post C K J f st I w ha hK hJ
  obtain ⟨⟨hx, hb, hml, hown, hts⟩, ⟨hKn, hFx, hinj, hl⟩, ⟨hR1, hR2, hR3, hR4⟩, hpost⟩ := C
  simp only [aB] at ha
  split at ha
  · rename_i y x r
    exact fun H locs ls hP hS hls => lv_iand hx hb hd (hK _ _ _ _ ha H locs ls hP hS hls)
  · exact ha.elim
theorem v_ior (hd : decode cc pc = .ok (.ior, 1)) : am_V E k cc nL own pc 1 (aB (fun x y => x ||| y)) := by
  intro p l e R s m args below meth c Q nc ns post C K J f st I w ha hK hJ
  obtain ⟨⟨hx, hb, hml, hown, hts⟩, ⟨hKn, hFx, hinj, hl⟩, ⟨hR1, hR2, hR3, hR4⟩, hpost⟩ := C
  simp only [aB] at ha
  split at ha
  · rename_i y x r
    exact fun H locs ls hP hS hls => lv_ior hx hb hd (hK _ _ _ _ ha H locs ls hP hS hls)
  · exact ha.elim
theorem v_ixor (hd : decode cc pc = .ok (.ixor, 1)) : am_V E k cc nL own pc 1 (aB (fun x y => x ^^^ y)) := by
  intro p l e R s m args below meth c Q nc ns post C K J f st I w ha hK hJ
  obtain ⟨⟨hx, hb, hml, hown, hts⟩, ⟨hKn, hFx, hinj, hl⟩, ⟨hR1, hR2, hR3, hR4⟩, hpost⟩ := C
  simp only [aB] at ha
  split at ha
  · rename_i y x r
    exact fun H locs ls hP hS hls => lv_ixor hx hb hd (hK _ _ _ _ ha H locs ls hP hS hls)
  · exact ha.elim
theorem v_ishl (hd : decode cc pc = .ok (.ishl, 1)) : am_V E k cc nL own pc 1 (aB (fun x y => x <<< (y &&& 31))) := by
  intro p l e R s m args below meth c Q nc ns post C K J f st I w ha hK hJ
  obtain ⟨⟨hx, hb, hml, hown, hts⟩, ⟨hKn, hFx, hinj, hl⟩, ⟨hR1, hR2, hR3, hR4⟩, hpost⟩ := C
  simp only [aB] at ha
  split at ha
  · rename_i y x r
    exact fun H locs ls hP hS hls => lv_ishl hx hb hd (hK _ _ _ _ ha H locs ls hP hS hls)
  · exact ha.elim
theorem v_ishr (hd : decode cc pc = .ok (.ishr, 1)) : am_V E k cc nL own pc 1 (aB (fun x y => x >>> (y &&& 31))) := by
  intro p l e R s m args below meth c Q nc ns post C K J f st I w ha hK hJ
  obtain ⟨⟨hx, hb, hml, hown, hts⟩, ⟨hKn, hFx, hinj, hl⟩, ⟨hR1, hR2, hR3, hR4⟩, hpost⟩ := C
  simp only [aB] at ha
  split at ha
  · rename_i y x r
    exact fun H locs ls hP hS hls => lv_ishr hx hb hd (hK _ _ _ _ ha H locs ls hP hS hls)
  · exact ha.elim
theorem v_iushr (hd : decode cc pc = .ok (.iushr, 1)) : am_V E k cc nL own pc 1 (aB (fun x y => (x.toUInt32 >>> (y.toUInt32 &&& Int32.toUInt32 31)).toInt32)) := by
  intro p l e R s m args below meth c Q nc ns post C K J f st I w ha hK hJ
  obtain ⟨⟨hx, hb, hml, hown, hts⟩, ⟨hKn, hFx, hinj, hl⟩, ⟨hR1, hR2, hR3, hR4⟩, hpost⟩ := C
  simp only [aB] at ha
  split at ha
  · rename_i y x r
    exact fun H locs ls hP hS hls => lv_iushr hx hb hd rfl (hK _ _ _ _ ha H locs ls hP hS hls)
  · exact ha.elim
def aDv (op : Int32 → Int32 → Int32) : am_A := fun K _ _ f st I w => match st with
  | .int y :: .int x :: r => ¬ y = 0 ∧ K f (.int (op x y) :: r) I w
  | _ => False
theorem v_idiv (hd : decode cc pc = .ok (.idiv, 1)) : am_V E k cc nL own pc 1 (aDv (fun x y => x / y)) := by
  intro p l e R s m args below meth c Q nc ns post C K J f st I w ha hK hJ
  obtain ⟨⟨hx, hb, hml, hown, hts⟩, ⟨hKn, hFx, hinj, hl⟩, ⟨hR1, hR2, hR3, hR4⟩, hpost⟩ := C
  simp only [aDv] at ha
  split at ha
  · rename_i y x r
    exact fun H locs ls hP hS hls => lv_idiv hx hb hd ha.1 (hK _ _ _ _ ha.2 H locs ls hP hS hls)
  · exact ha.elim
theorem v_irem (hd : decode cc pc = .ok (.irem, 1)) : am_V E k cc nL own pc 1 (aDv (fun x y => x - x / y * y)) := by
  intro p l e R s m args below meth c Q nc ns post C K J f st I w ha hK hJ
  obtain ⟨⟨hx, hb, hml, hown, hts⟩, ⟨hKn, hFx, hinj, hl⟩, ⟨hR1, hR2, hR3, hR4⟩, hpost⟩ := C
  simp only [aDv] at ha
  split at ha
  · rename_i y x r
    exact fun H locs ls hP hS hls => lv_irem hx hb hd ha.1 (hK _ _ _ _ ha.2 H locs ls hP hS hls)
  · exact ha.elim
def aU (op : Int32 → Int32) : am_A := fun K _ _ f st I w => match st with
  | .int x :: r => K f (.int (op x) :: r) I w
  | _ => False
theorem v_ineg (hd : decode cc pc = .ok (.ineg, 1)) : am_V E k cc nL own pc 1 (aU (fun x => -x)) := by
  intro p l e R s m args below meth c Q nc ns post C K J f st I w ha hK hJ
  obtain ⟨⟨hx, hb, hml, hown, hts⟩, ⟨hKn, hFx, hinj, hl⟩, ⟨hR1, hR2, hR3, hR4⟩, hpost⟩ := C
  simp only [aU] at ha
  split at ha
  · rename_i x r
    exact fun H locs ls hP hS hls => lv_ineg hx hb hd (hK _ _ _ _ ha H locs ls hP hS hls)
  · exact ha.elim
theorem v_i2b (hd : decode cc pc = .ok (.i2b, 1)) : am_V E k cc nL own pc 1 (aU (fun x => x.toInt8.toInt32)) := by
  intro p l e R s m args below meth c Q nc ns post C K J f st I w ha hK hJ
  obtain ⟨⟨hx, hb, hml, hown, hts⟩, ⟨hKn, hFx, hinj, hl⟩, ⟨hR1, hR2, hR3, hR4⟩, hpost⟩ := C
  simp only [aU] at ha
  split at ha
  · rename_i x r
    exact fun H locs ls hP hS hls => lv_i2b hx hb hd rfl (hK _ _ _ _ ha H locs ls hP hS hls)
  · exact ha.elim
theorem v_i2s (hd : decode cc pc = .ok (.i2s, 1)) : am_V E k cc nL own pc 1 (aU (fun x => x.toInt16.toInt32)) := by
  intro p l e R s m args below meth c Q nc ns post C K J f st I w ha hK hJ
  obtain ⟨⟨hx, hb, hml, hown, hts⟩, ⟨hKn, hFx, hinj, hl⟩, ⟨hR1, hR2, hR3, hR4⟩, hpost⟩ := C
  simp only [aU] at ha
  split at ha
  · rename_i x r
    exact fun H locs ls hP hS hls => lv_i2s hx hb hd rfl (hK _ _ _ _ ha H locs ls hP hS hls)
  · exact ha.elim
theorem v_i2c (hd : decode cc pc = .ok (.i2c, 1)) : am_V E k cc nL own pc 1 (aU (fun x => (x.toUInt32 % 65536).toInt32)) := by
  intro p l e R s m args below meth c Q nc ns post C K J f st I w ha hK hJ
  obtain ⟨⟨hx, hb, hml, hown, hts⟩, ⟨hKn, hFx, hinj, hl⟩, ⟨hR1, hR2, hR3, hR4⟩, hpost⟩ := C
  simp only [aU] at ha
  split at ha
  · rename_i x r
    exact fun H locs ls hP hS hls => lv_i2c hx hb hd rfl (hK _ _ _ _ ha H locs ls hP hS hls)
  · exact ha.elim
def aBJ (op : Int64 → Int64 → Int64) : am_A := fun K _ _ f st I w => match st with
  | .long y :: .long x :: r => K f (.long (op x y) :: r) I w
  | _ => False
theorem v_ladd (hd : decode cc pc = .ok (.ladd, 1)) : am_V E k cc nL own pc 1 (aBJ (fun x y => x + y)) := by
  intro p l e R s m args below meth c Q nc ns post C K J f st I w ha hK hJ
  obtain ⟨⟨hx, hb, hml, hown, hts⟩, ⟨hKn, hFx, hinj, hl⟩, ⟨hR1, hR2, hR3, hR4⟩, hpost⟩ := C
  simp only [aBJ] at ha
  split at ha
  · rename_i y x r
    exact fun H locs ls hP hS hls => lv_ladd hx hb hd (hK _ _ _ _ ha H locs ls hP hS hls)
  · exact ha.elim
theorem v_lsub (hd : decode cc pc = .ok (.lsub, 1)) : am_V E k cc nL own pc 1 (aBJ (fun x y => x - y)) := by
  intro p l e R s m args below meth c Q nc ns post C K J f st I w ha hK hJ
  obtain ⟨⟨hx, hb, hml, hown, hts⟩, ⟨hKn, hFx, hinj, hl⟩, ⟨hR1, hR2, hR3, hR4⟩, hpost⟩ := C
  simp only [aBJ] at ha
  split at ha
  · rename_i y x r
    exact fun H locs ls hP hS hls => lv_lsub hx hb hd (hK _ _ _ _ ha H locs ls hP hS hls)
  · exact ha.elim
theorem v_lmul (hd : decode cc pc = .ok (.lmul, 1)) : am_V E k cc nL own pc 1 (aBJ (fun x y => x * y)) := by
  intro p l e R s m args below meth c Q nc ns post C K J f st I w ha hK hJ
  obtain ⟨⟨hx, hb, hml, hown, hts⟩, ⟨hKn, hFx, hinj, hl⟩, ⟨hR1, hR2, hR3, hR4⟩, hpost⟩ := C
  simp only [aBJ] at ha
  split at ha
  · rename_i y x r
    exact fun H locs ls hP hS hls => lv_lmul hx hb hd (hK _ _ _ _ ha H locs ls hP hS hls)
  · exact ha.elim
theorem v_land (hd : decode cc pc = .ok (.land, 1)) : am_V E k cc nL own pc 1 (aBJ (fun x y => x &&& y)) := by
  intro p l e R s m args below meth c Q nc ns post C K J f st I w ha hK hJ
  obtain ⟨⟨hx, hb, hml, hown, hts⟩, ⟨hKn, hFx, hinj, hl⟩, ⟨hR1, hR2, hR3, hR4⟩, hpost⟩ := C
  simp only [aBJ] at ha
  split at ha
  · rename_i y x r
    exact fun H locs ls hP hS hls => lv_land hx hb hd (hK _ _ _ _ ha H locs ls hP hS hls)
  · exact ha.elim
theorem v_lor (hd : decode cc pc = .ok (.lor, 1)) : am_V E k cc nL own pc 1 (aBJ (fun x y => x ||| y)) := by
  intro p l e R s m args below meth c Q nc ns post C K J f st I w ha hK hJ
  obtain ⟨⟨hx, hb, hml, hown, hts⟩, ⟨hKn, hFx, hinj, hl⟩, ⟨hR1, hR2, hR3, hR4⟩, hpost⟩ := C
  simp only [aBJ] at ha
  split at ha
  · rename_i y x r
    exact fun H locs ls hP hS hls => lv_lor hx hb hd (hK _ _ _ _ ha H locs ls hP hS hls)
  · exact ha.elim
def aSh (op : Int64 → Int32 → Int64) : am_A := fun K _ _ f st I w => match st with
  | .int y :: .long x :: r => K f (.long (op x y) :: r) I w
  | _ => False
theorem v_lshl (hd : decode cc pc = .ok (.lshl, 1)) : am_V E k cc nL own pc 1 (aSh (fun x y => x <<< (y.toInt64 &&& 63))) := by
  intro p l e R s m args below meth c Q nc ns post C K J f st I w ha hK hJ
  obtain ⟨⟨hx, hb, hml, hown, hts⟩, ⟨hKn, hFx, hinj, hl⟩, ⟨hR1, hR2, hR3, hR4⟩, hpost⟩ := C
  simp only [aSh] at ha
  split at ha
  · rename_i y x r
    exact fun H locs ls hP hS hls => lv_lshl hx hb hd rfl (hK _ _ _ _ ha H locs ls hP hS hls)
  · exact ha.elim
theorem v_lshr (hd : decode cc pc = .ok (.lshr, 1)) : am_V E k cc nL own pc 1 (aSh (fun x y => x >>> (y.toInt64 &&& 63))) := by
  intro p l e R s m args below meth c Q nc ns post C K J f st I w ha hK hJ
  obtain ⟨⟨hx, hb, hml, hown, hts⟩, ⟨hKn, hFx, hinj, hl⟩, ⟨hR1, hR2, hR3, hR4⟩, hpost⟩ := C
  simp only [aSh] at ha
  split at ha
  · rename_i y x r
    exact fun H locs ls hP hS hls => lv_lshr hx hb hd rfl (hK _ _ _ _ ha H locs ls hP hS hls)
  · exact ha.elim
def aCmp : am_A := fun K _ _ f st I w => match st with
  | .long y :: .long x :: r => K f (.int (lg_cmp x y) :: r) I w
  | _ => False
theorem v_lcmp (hd : decode cc pc = .ok (.lcmp, 1)) : am_V E k cc nL own pc 1 (aCmp) := by
  intro p l e R s m args below meth c Q nc ns post C K J f st I w ha hK hJ
  obtain ⟨⟨hx, hb, hml, hown, hts⟩, ⟨hKn, hFx, hinj, hl⟩, ⟨hR1, hR2, hR3, hR4⟩, hpost⟩ := C
  simp only [aCmp] at ha
  split at ha
  · rename_i y x r
    exact fun H locs ls hP hS hls => W.lcmp hx hb hd (hK _ _ _ _ ha H locs ls hP hS hls)
  · exact ha.elim
def aI2L : am_A := fun K _ _ f st I w => match st with
  | .int x :: r => K f (.long x.toInt64 :: r) I w
  | _ => False
def aL2I : am_A := fun K _ _ f st I w => match st with
  | .long x :: r => K f (.int x.toInt32 :: r) I w
  | _ => False
theorem v_i2l (hd : decode cc pc = .ok (.i2l, 1)) : am_V E k cc nL own pc 1 (aI2L) := by
  intro p l e R s m args below meth c Q nc ns post C K J f st I w ha hK hJ
  obtain ⟨⟨hx, hb, hml, hown, hts⟩, ⟨hKn, hFx, hinj, hl⟩, ⟨hR1, hR2, hR3, hR4⟩, hpost⟩ := C
  simp only [aI2L] at ha
  split at ha
  · rename_i x r
    exact fun H locs ls hP hS hls => lv_i2l hx hb hd rfl (hK _ _ _ _ ha H locs ls hP hS hls)
  · exact ha.elim
theorem v_l2i (hd : decode cc pc = .ok (.l2i, 1)) : am_V E k cc nL own pc 1 (aL2I) := by
  intro p l e R s m args below meth c Q nc ns post C K J f st I w ha hK hJ
  obtain ⟨⟨hx, hb, hml, hown, hts⟩, ⟨hKn, hFx, hinj, hl⟩, ⟨hR1, hR2, hR3, hR4⟩, hpost⟩ := C
  simp only [aL2I] at ha
  split at ha
  · rename_i x r
    exact fun H locs ls hP hS hls => lv_l2i hx hb hd rfl (hK _ _ _ _ ha H locs ls hP hS hls)
  · exact ha.elim
def aDup : am_A := fun K _ _ f st I w => match st with
  | .int x :: r => K f (.int x :: .int x :: r) I w
  | .ref x :: r => K f (.ref x :: .ref x :: r) I w
  | _ => False
theorem v_dup (hd : decode cc pc = .ok (.dup, 1)) : am_V E k cc nL own pc 1 (aDup) := by
  intro p l e R s m args below meth c Q nc ns post C K J f st I w ha hK hJ
  obtain ⟨⟨hx, hb, hml, hown, hts⟩, ⟨hKn, hFx, hinj, hl⟩, ⟨hR1, hR2, hR3, hR4⟩, hpost⟩ := C
  simp only [aDup] at ha
  split at ha
  · exact fun H locs ls hP hS hls => lv_dup hx hb hd rfl (hK _ _ _ _ ha H locs ls hP hS hls)
  · exact fun H locs ls hP hS hls => lv_dup hx hb hd rfl (hK _ _ _ _ ha H locs ls hP hS hls)
  · exact ha.elim
def aPop : am_A := fun K _ _ f st I w => match st with
  | .int _ :: r => K f r I w
  | _ => False
theorem v_pop (hd : decode cc pc = .ok (.pop, 1)) : am_V E k cc nL own pc 1 (aPop) := by
  intro p l e R s m args below meth c Q nc ns post C K J f st I w ha hK hJ
  obtain ⟨⟨hx, hb, hml, hown, hts⟩, ⟨hKn, hFx, hinj, hl⟩, ⟨hR1, hR2, hR3, hR4⟩, hpost⟩ := C
  simp only [aPop] at ha
  split at ha
  · exact fun H locs ls hP hS hls => lv_pop hx hb hd rfl (hK _ _ _ _ ha H locs ls hP hS hls)
  · exact ha.elim
def aIf (c : Int32 → Prop) (t : Nat) : am_A := fun K J _ f st I w => match st with
  | .int x :: r => (c x → J t f r I w) ∧ (¬ c x → K f r I w)
  | _ => False
def aIn (c : Int32 → Prop) (t : Nat) : am_A := fun K J _ f st I w => match st with
  | .int x :: r => (c x → K f r I w) ∧ (¬ c x → J t f r I w)
  | _ => False
def aCf (c : Int32 → Int32 → Prop) (t : Nat) : am_A := fun K J _ f st I w => match st with
  | .int y :: .int x :: r => (c x y → J t f r I w) ∧ (¬ c x y → K f r I w)
  | _ => False
def aCn (c : Int32 → Int32 → Prop) (t : Nat) : am_A := fun K J _ f st I w => match st with
  | .int y :: .int x :: r => (c x y → K f r I w) ∧ (¬ c x y → J t f r I w)
  | _ => False
theorem v_if_eq {off : Int} {t : Nat} (hd : decode cc pc = .ok (.ifCond .eq off, 3)) (ht : (pc : Int) + off = (t : Int)) : am_V E k cc nL own pc 3 (aIf (fun x => x = 0) t) := by
  intro p l e R s m args below meth c Q nc ns post C K J f st I w ha hK hJ
  obtain ⟨⟨hx, hb, hml, hown, hts⟩, ⟨hKn, hFx, hinj, hl⟩, ⟨hR1, hR2, hR3, hR4⟩, hpost⟩ := C
  simp only [aIf] at ha
  split at ha
  · rename_i x r
    exact fun H locs ls hP hS hls => lv_if_eq hx hb hd ht (fun h => hJ _ _ _ _ _ (ha.1 h) H locs ls hP hS hls) (fun h => hK _ _ _ _ (ha.2 h) H locs ls hP hS hls)
  · exact ha.elim
theorem v_ic_eq {off : Int} {t : Nat} (hd : decode cc pc = .ok (.if_icmp .eq off, 3)) (ht : (pc : Int) + off = (t : Int)) : am_V E k cc nL own pc 3 (aCf (fun x y => x = y) t) := by
  intro p l e R s m args below meth c Q nc ns post C K J f st I w ha hK hJ
  obtain ⟨⟨hx, hb, hml, hown, hts⟩, ⟨hKn, hFx, hinj, hl⟩, ⟨hR1, hR2, hR3, hR4⟩, hpost⟩ := C
  simp only [aCf] at ha
  split at ha
  · rename_i y x r
    exact fun H locs ls hP hS hls => lv_icmp_eq hx hb hd ht (fun h => hJ _ _ _ _ _ (ha.1 h) H locs ls hP hS hls) (fun h => hK _ _ _ _ (ha.2 h) H locs ls hP hS hls)
  · exact ha.elim
theorem v_if_ne {off : Int} {t : Nat} (hd : decode cc pc = .ok (.ifCond .ne off, 3)) (ht : (pc : Int) + off = (t : Int)) : am_V E k cc nL own pc 3 (aIn (fun x => x = 0) t) := by
  intro p l e R s m args below meth c Q nc ns post C K J f st I w ha hK hJ
  obtain ⟨⟨hx, hb, hml, hown, hts⟩, ⟨hKn, hFx, hinj, hl⟩, ⟨hR1, hR2, hR3, hR4⟩, hpost⟩ := C
  simp only [aIn] at ha
  split at ha
  · rename_i x r
    exact fun H locs ls hP hS hls => lv_if_ne hx hb hd ht (fun h => hJ _ _ _ _ _ (ha.2 h) H locs ls hP hS hls) (fun h => hK _ _ _ _ (ha.1 h) H locs ls hP hS hls)
  · exact ha.elim
theorem v_ic_ne {off : Int} {t : Nat} (hd : decode cc pc = .ok (.if_icmp .ne off, 3)) (ht : (pc : Int) + off = (t : Int)) : am_V E k cc nL own pc 3 (aCn (fun x y => x = y) t) := by
  intro p l e R s m args below meth c Q nc ns post C K J f st I w ha hK hJ
  obtain ⟨⟨hx, hb, hml, hown, hts⟩, ⟨hKn, hFx, hinj, hl⟩, ⟨hR1, hR2, hR3, hR4⟩, hpost⟩ := C
  simp only [aCn] at ha
  split at ha
  · rename_i y x r
    exact fun H locs ls hP hS hls => lv_icmp_ne hx hb hd ht (fun h => hJ _ _ _ _ _ (ha.2 h) H locs ls hP hS hls) (fun h => hK _ _ _ _ (ha.1 h) H locs ls hP hS hls)
  · exact ha.elim
theorem v_if_lt {off : Int} {t : Nat} (hd : decode cc pc = .ok (.ifCond .lt off, 3)) (ht : (pc : Int) + off = (t : Int)) : am_V E k cc nL own pc 3 (aIf (fun x => x < 0) t) := by
  intro p l e R s m args below meth c Q nc ns post C K J f st I w ha hK hJ
  obtain ⟨⟨hx, hb, hml, hown, hts⟩, ⟨hKn, hFx, hinj, hl⟩, ⟨hR1, hR2, hR3, hR4⟩, hpost⟩ := C
  simp only [aIf] at ha
  split at ha
  · rename_i x r
    exact fun H locs ls hP hS hls => lv_if_lt hx hb hd ht (fun h => hJ _ _ _ _ _ (ha.1 h) H locs ls hP hS hls) (fun h => hK _ _ _ _ (ha.2 h) H locs ls hP hS hls)
  · exact ha.elim
theorem v_ic_lt {off : Int} {t : Nat} (hd : decode cc pc = .ok (.if_icmp .lt off, 3)) (ht : (pc : Int) + off = (t : Int)) : am_V E k cc nL own pc 3 (aCf (fun x y => x < y) t) := by
  intro p l e R s m args below meth c Q nc ns post C K J f st I w ha hK hJ
  obtain ⟨⟨hx, hb, hml, hown, hts⟩, ⟨hKn, hFx, hinj, hl⟩, ⟨hR1, hR2, hR3, hR4⟩, hpost⟩ := C
  simp only [aCf] at ha
  split at ha
  · rename_i y x r
    exact fun H locs ls hP hS hls => lv_icmp_lt hx hb hd ht (fun h => hJ _ _ _ _ _ (ha.1 h) H locs ls hP hS hls) (fun h => hK _ _ _ _ (ha.2 h) H locs ls hP hS hls)
  · exact ha.elim
theorem v_if_ge {off : Int} {t : Nat} (hd : decode cc pc = .ok (.ifCond .ge off, 3)) (ht : (pc : Int) + off = (t : Int)) : am_V E k cc nL own pc 3 (aIn (fun x => x < 0) t) := by
  intro p l e R s m args below meth c Q nc ns post C K J f st I w ha hK hJ
  obtain ⟨⟨hx, hb, hml, hown, hts⟩, ⟨hKn, hFx, hinj, hl⟩, ⟨hR1, hR2, hR3, hR4⟩, hpost⟩ := C
  simp only [aIn] at ha
  split at ha
  · rename_i x r
    exact fun H locs ls hP hS hls => lv_if_ge hx hb hd ht (fun h => hJ _ _ _ _ _ (ha.2 (Int32.not_lt.mpr h)) H locs ls hP hS hls) (fun h => hK _ _ _ _ (ha.1 (Int32.not_le.mp h)) H locs ls hP hS hls)
  · exact ha.elim
theorem v_ic_ge {off : Int} {t : Nat} (hd : decode cc pc = .ok (.if_icmp .ge off, 3)) (ht : (pc : Int) + off = (t : Int)) : am_V E k cc nL own pc 3 (aCn (fun x y => x < y) t) := by
  intro p l e R s m args below meth c Q nc ns post C K J f st I w ha hK hJ
  obtain ⟨⟨hx, hb, hml, hown, hts⟩, ⟨hKn, hFx, hinj, hl⟩, ⟨hR1, hR2, hR3, hR4⟩, hpost⟩ := C
  simp only [aCn] at ha
  split at ha
  · rename_i y x r
    exact fun H locs ls hP hS hls => lv_icmp_ge hx hb hd ht (fun h => hJ _ _ _ _ _ (ha.2 (Int32.not_lt.mpr h)) H locs ls hP hS hls) (fun h => hK _ _ _ _ (ha.1 (Int32.not_le.mp h)) H locs ls hP hS hls)
  · exact ha.elim
theorem v_if_gt {off : Int} {t : Nat} (hd : decode cc pc = .ok (.ifCond .gt off, 3)) (ht : (pc : Int) + off = (t : Int)) : am_V E k cc nL own pc 3 (aIf (fun x => 0 < x) t) := by
  intro p l e R s m args below meth c Q nc ns post C K J f st I w ha hK hJ
  obtain ⟨⟨hx, hb, hml, hown, hts⟩, ⟨hKn, hFx, hinj, hl⟩, ⟨hR1, hR2, hR3, hR4⟩, hpost⟩ := C
  simp only [aIf] at ha
  split at ha
  · rename_i x r
    exact fun H locs ls hP hS hls => lv_if_gt hx hb hd ht (fun h => hJ _ _ _ _ _ (ha.1 h) H locs ls hP hS hls) (fun h => hK _ _ _ _ (ha.2 h) H locs ls hP hS hls)
  · exact ha.elim
theorem v_ic_gt {off : Int} {t : Nat} (hd : decode cc pc = .ok (.if_icmp .gt off, 3)) (ht : (pc : Int) + off = (t : Int)) : am_V E k cc nL own pc 3 (aCf (fun x y => y < x) t) := by
  intro p l e R s m args below meth c Q nc ns post C K J f st I w ha hK hJ
  obtain ⟨⟨hx, hb, hml, hown, hts⟩, ⟨hKn, hFx, hinj, hl⟩, ⟨hR1, hR2, hR3, hR4⟩, hpost⟩ := C
  simp only [aCf] at ha
  split at ha
  · rename_i y x r
    exact fun H locs ls hP hS hls => lv_icmp_gt hx hb hd ht (fun h => hJ _ _ _ _ _ (ha.1 h) H locs ls hP hS hls) (fun h => hK _ _ _ _ (ha.2 h) H locs ls hP hS hls)
  · exact ha.elim
theorem v_if_le {off : Int} {t : Nat} (hd : decode cc pc = .ok (.ifCond .le off, 3)) (ht : (pc : Int) + off = (t : Int)) : am_V E k cc nL own pc 3 (aIn (fun x => 0 < x) t) := by
  intro p l e R s m args below meth c Q nc ns post C K J f st I w ha hK hJ
  obtain ⟨⟨hx, hb, hml, hown, hts⟩, ⟨hKn, hFx, hinj, hl⟩, ⟨hR1, hR2, hR3, hR4⟩, hpost⟩ := C
  simp only [aIn] at ha
  split at ha
  · rename_i x r
    exact fun H locs ls hP hS hls => lv_if_le hx hb hd ht (fun h => hJ _ _ _ _ _ (ha.2 (Int32.not_lt.mpr h)) H locs ls hP hS hls) (fun h => hK _ _ _ _ (ha.1 (Int32.not_le.mp h)) H locs ls hP hS hls)
  · exact ha.elim
theorem v_ic_le {off : Int} {t : Nat} (hd : decode cc pc = .ok (.if_icmp .le off, 3)) (ht : (pc : Int) + off = (t : Int)) : am_V E k cc nL own pc 3 (aCn (fun x y => y < x) t) := by
  intro p l e R s m args below meth c Q nc ns post C K J f st I w ha hK hJ
  obtain ⟨⟨hx, hb, hml, hown, hts⟩, ⟨hKn, hFx, hinj, hl⟩, ⟨hR1, hR2, hR3, hR4⟩, hpost⟩ := C
  simp only [aCn] at ha
  split at ha
  · rename_i y x r
    exact fun H locs ls hP hS hls => lv_icmp_le hx hb hd ht (fun h => hJ _ _ _ _ _ (ha.2 (Int32.not_lt.mpr h)) H locs ls hP hS hls) (fun h => hK _ _ _ _ (ha.1 (Int32.not_le.mp h)) H locs ls hP hS hls)
  · exact ha.elim
def aGo (t : Nat) : am_A := fun _ J _ f st I w => J t f st I w
theorem v_goto {off : Int} {t : Nat} (hd : decode cc pc = .ok (.goto off, 3)) (ht : (pc : Int) + off = (t : Int)) : am_V E k cc nL own pc 3 (aGo t) := by
  intro p l e R s m args below meth c Q nc ns post C K J f st I w ha hK hJ
  obtain ⟨⟨hx, hb, hml, hown, hts⟩, ⟨hKn, hFx, hinj, hl⟩, ⟨hR1, hR2, hR3, hR4⟩, hpost⟩ := C
  exact fun H locs ls hP hS hls => lv_goto hx hb hd ht (hJ _ _ _ _ _ ha H locs ls hP hS hls)
def am_sw (J : Nat → Prop) (x : Int32) (d : Nat) : List (Int32 × Nat) → Prop
  | [] => J d
  | (v, t) :: r => (x = v → J t) ∧ (¬ x = v → am_sw J x d r)
theorem am_sw_of {J : Nat → Prop} {x : Int32} {d : Nat} : ∀ (ks : List (Int32 × Nat)), am_sw J x d ks → (∃ (i t : Nat), ks[i]? = some (x, t) ∧ J t) ∨ ((∀ (i : Nat) (q : Int32 × Nat), ks[i]? = some q → x ≠ q.1) ∧ J d)
  | [], h => Or.inr ⟨fun i q hq => by simp at hq, h⟩
  | (v, t) :: r, h => by
    by_cases e : x = v
    · exact Or.inl ⟨0, t, by rw [e]; rfl, h.1 e⟩
    · rcases am_sw_of r (h.2 e) with ⟨i, t', h1, h2⟩ | ⟨h1, h2⟩
      · exact Or.inl ⟨i + 1, t', h1, h2⟩
      · refine Or.inr ⟨fun i q hq => ?_, h2⟩
        cases i with
        | zero => simp at hq; rw [← hq]; exact e
        | succ i => exact h1 i q hq
def aSw (ks : List (Int32 × Nat)) (d : Nat) : am_A := fun _ J _ f st I w => match st with
  | .int x :: r => am_sw (fun t => J t f r I w) x d ks
  | _ => False
theorem v_tsw {dflt lo hi : Int} {offs : Array Int} {len : Nat} {ks : List (Int32 × Nat)} {d : Nat} (hd : decode cc pc = .ok (.tableswitch dflt lo hi offs, len)) (ht : (pc : Int) + dflt = (d : Int)) (hk : lo + (ks.length : Int) = hi + 1) (hks : (List.range ks.length).all (fun i => decide ((ks.getD i (0, 0)).1.toInt = lo + (i : Int)) && decide (offs[i]? = some (((ks.getD i (0, 0)).2 : Int) - (pc : Int)))) = true) : am_V E k cc nL own pc len (aSw ks d) := by
  intro p l e R s m args below meth c Q nc ns post C K J f st I w ha hK hJ
  obtain ⟨⟨hx, hb, hml, hown, hts⟩, ⟨hKn, hFx, hinj, hl⟩, ⟨hR1, hR2, hR3, hR4⟩, hpost⟩ := C
  simp only [aSw] at ha
  split at ha
  · rename_i x r
    have hi' : ∀ (i : Nat) (q : Int32 × Nat), ks[i]? = some q → q.1.toInt = lo + (i : Int) ∧ offs[i]? = some ((q.2 : Int) - (pc : Int)) := by
      intro i q hq
      have hlt := (List.getElem?_eq_some_iff.mp hq).1
      have h1 := List.all_eq_true.mp hks i (List.mem_range.mpr hlt)
      rw [Bool.and_eq_true, decide_eq_true_eq, decide_eq_true_eq] at h1
      have e : ks.getD i (0, 0) = q := by rw [List.getD_eq_getElem?_getD, hq]; rfl
      rw [e] at h1
      exact h1
    intro H locs ls hP hS hls
    rcases am_sw_of ks ha with ⟨i, t, h1, h2⟩ | ⟨h1, h2⟩
    · obtain ⟨a1, a2⟩ := hi' i _ h1
      have hlt := (List.getElem?_eq_some_iff.mp h1).1
      have e : (x.toInt - lo).toNat = i := by rw [a1]; omega
      exact lv_tableIn hx hb hd (off := (t : Int) - pc) (tgt := t) (by rw [a1]; omega) (by rw [a1]; omega) (by rw [e]; exact a2) (by omega) (hJ _ _ _ _ _ h2 H locs ls hP hS hls)
    · refine lv_tableOut hx hb hd ?_ ht (hJ _ _ _ _ _ h2 H locs ls hP hS hls)
      by_cases q1 : x.toInt < lo
      · exact Or.inl q1
      · by_cases q2 : hi < x.toInt
        · exact Or.inr q2
        · exfalso
          have hlt : (x.toInt - lo).toNat < ks.length := by omega
          have hq := List.getElem?_eq_getElem hlt
          obtain ⟨a1, -⟩ := hi' _ _ hq
          exact h1 _ _ hq (Int32.toInt_inj.mp (by rw [a1]; omega))
  · exact ha.elim
theorem am_lsw {J : Nat → Prop} {x : Int32} {d pc : Nat} {dflt : Int} (hd : (pc : Int) + dflt = (d : Int)) : ∀ (ks : List (Int32 × Nat)) (ps : List (Int × Int)), am_sw J x d ks → ps = ks.map (fun q => (q.1.toInt, (q.2 : Int) - (pc : Int))) → ∃ t : Nat, J t ∧ (pc : Int) + Op.lookupswitch.offset ps dflt x.toInt = (t : Int)
  | [], _, h, rfl => ⟨d, h, by simpa [Op.lookupswitch.offset] using hd⟩
  | (v, t) :: r, _, h, rfl => by
    rw [List.map_cons, Op.lookupswitch.offset_cons]
    by_cases e : x = v
    · subst e
      exact ⟨t, h.1 rfl, by simp; omega⟩
    · obtain ⟨t', h1, h2⟩ := am_lsw hd r _ (h.2 e) rfl
      refine ⟨t', h1, ?_⟩
      rw [if_neg]
      · exact h2
      · intro q
        exact e (Int32.toInt_inj.mp q.symm)
theorem v_lsw {dflt : Int} {ps : Array (Int × Int)} {len : Nat} {ks : List (Int32 × Nat)} {d : Nat} (hd : decode cc pc = .ok (.lookupswitch dflt ps, len)) (hp : (ps.toList.zip (ps.toList.drop 1)).all (fun (a, next) => a.1 < next.1) = true) (ht : (pc : Int) + dflt = (d : Int)) (hks : ps.toList = ks.map (fun q => (q.1.toInt, (q.2 : Int) - (pc : Int)))) : am_V E k cc nL own pc len (aSw ks d) := by
  intro p l e R s m args below meth c Q nc ns post C K J f st I w ha hK hJ
  obtain ⟨⟨hx, hb, hml, hown, hts⟩, ⟨hKn, hFx, hinj, hl⟩, ⟨hR1, hR2, hR3, hR4⟩, hpost⟩ := C
  simp only [aSw] at ha
  split at ha
  · rename_i x r
    intro H locs ls hP hS hls
    obtain ⟨t, h1, h2⟩ := am_lsw ht ks ps.toList ha hks
    exact lv_lookup hx hb hd hp rfl h2 (hJ _ _ _ _ _ h1 H locs ls hP hS hls)
  · exact ha.elim
def aRi : am_A := fun _ _ Rt f st I w => match st with
  | [.int v] => Rt f [.int v] I w
  | _ => False
def aRl : am_A := fun _ _ Rt f st I w => match st with
  | [.long v] => Rt f [.long v] I w
  | _ => False
def aRv : am_A := fun _ _ Rt f st I w => match st with
  | [] => Rt f [] I w
  | _ => False
theorem v_ireturn (hd : decode cc pc = .ok (.ireturn, 1)) : am_V E k cc nL own pc 1 (aRi) := by
  intro p l e R s m args below meth c Q nc ns post C K J f st I w ha hK hJ
  obtain ⟨⟨hx, hb, hml, hown, hts⟩, ⟨hKn, hFx, hinj, hl⟩, ⟨hR1, hR2, hR3, hR4⟩, hpost⟩ := C
  simp only [aRi] at ha
  split at ha
  · exact fun H locs ls hP hS hls => hpost .ireturn _ _ _ _ pc H locs ls ha (Or.inl ⟨rfl, _, rfl⟩) hd hP hS
  · exact ha.elim
theorem v_lreturn (hd : decode cc pc = .ok (.lreturn, 1)) : am_V E k cc nL own pc 1 (aRl) := by
  intro p l e R s m args below meth c Q nc ns post C K J f st I w ha hK hJ
  obtain ⟨⟨hx, hb, hml, hown, hts⟩, ⟨hKn, hFx, hinj, hl⟩, ⟨hR1, hR2, hR3, hR4⟩, hpost⟩ := C
  simp only [aRl] at ha
  split at ha
  · exact fun H locs ls hP hS hls => hpost .lreturn _ _ _ _ pc H locs ls ha (Or.inr (Or.inl ⟨rfl, _, rfl⟩)) hd hP hS
  · exact ha.elim
theorem v_return_ (hd : decode cc pc = .ok (.return_, 1)) : am_V E k cc nL own pc 1 (aRv) := by
  intro p l e R s m args below meth c Q nc ns post C K J f st I w ha hK hJ
  obtain ⟨⟨hx, hb, hml, hown, hts⟩, ⟨hKn, hFx, hinj, hl⟩, ⟨hR1, hR2, hR3, hR4⟩, hpost⟩ := C
  simp only [aRv] at ha
  split at ha
  · exact fun H locs ls hP hS hls => hpost .return_ _ _ _ _ pc H locs ls ha (Or.inr (Or.inr ⟨rfl, rfl⟩)) hd hP hS
  · exact ha.elim
end ACTS
end
section
/-! acts on the cells -/
def am_code (ci o j : Nat) : Option Nat := match am_nt am_sh o with
  | some (kd, _, r) => (match Nat.beq kd (ci + 5) with
    | true => am_nt r j
    | false => none)
  | none => none
theorem am_code_spec {ci o j x : Nat} (h : am_code ci o j = some x) : ∃ (n : Nat) (r : List Nat), am_sh[o]? = some (ci + 5, n, r) ∧ r[j]? = some x := by
  unfold am_code at h
  split at h
  · rename_i kd n r hs
    split at h
    · rename_i hb
      have e : kd = ci + 5 := Nat.eq_of_beq_eq_true hb
      subst e
      exact ⟨n, r, by rw [← am_nt_eq]; exact hs, by rw [← am_nt_eq]; exact h⟩
    · cases h
  · cases h
def am_arr (kd o : Nat) : Option Nat := match am_nt am_sh o with
  | some (kd', n, _) => (match Nat.beq kd kd' with
    | true => some n
    | false => none)
  | none => none
theorem am_arr_spec {kd o n : Nat} (h : am_arr kd o = some n) : ∃ (r : List Nat), am_sh[o]? = some (kd, n, r) := by
  unfold am_arr at h
  split at h
  · rename_i kd' n' r hs
    split at h
    · rename_i hb
      have e : kd = kd' := Nat.eq_of_beq_eq_true hb
      subst e
      cases h
      exact ⟨r, by rw [← am_nt_eq]; exact hs⟩
    · cases h
  · cases h
/-- the elements of the rows of objects -/
def am_el (kd i : Nat) : Nat := match kd with
  | 2 => 49 + 2 * i
  | 3 => 30 + 2 * i
  | _ => 80 + 2 * i
theorem am_el_ok : am_sh.all (fun s => !(Nat.ble 2 s.1 && Nat.ble s.1 4) || (List.range s.2.1).all (fun i => decide (s.2.2.getD i 0 = am_el s.1 i))) = true := by decide +kernel
theorem am_el_of {o kd n i : Nat} {r : List Nat} (h : am_sh[o]? = some (kd, n, r)) (h2 : 2 ≤ kd) (h4 : kd ≤ 4) (hi : i < n) : r.getD i 0 = am_el kd i := by
  have h1 := List.all_eq_true.mp am_el_ok _ (List.mem_of_getElem? h)
  rw [show Nat.ble 2 kd = true from Nat.ble_eq.mpr h2, show Nat.ble kd 4 = true from Nat.ble_eq.mpr h4] at h1
  simp only [Bool.and_self, Bool.not_true, Bool.false_or] at h1
  exact of_decide_eq_true (List.all_eq_true.mp h1 i (List.mem_range.mpr hi))
/-- the one long lies in the reference -/
theorem am_one : (List.range am_N).all (fun k => k == 88 || !((am_sh.getD k (0, 0, [])).2.2.contains 1)) = true ∧ (List.range 60).all (fun j => j == 21 || !decide (((am_sh.getD 88 (0, 0, [])).2.2)[j]? = some 1)) = true ∧ ((am_sh.getD 88 (0, 0, [])).2.2).length ≤ 60 := by decide +kernel
theorem am_fv_w {ad : Nat → Nat} {f : Nat → Int32} {w w' : Int64} : ∀ (r : List Nat) (b : Nat), ¬ 1 ∈ r → am_fv ad f w b r = am_fv ad f w' b r
  | [], b, _ => rfl
  | c :: r, b, h => by
    rw [am_fv, am_fv, am_fv_w r (b + 1) (fun q => h (List.mem_cons_of_mem _ q))]
    have e : am_cv ad (f b) w c = am_cv ad (f b) w' c := by
      match c, h with
      | 0, _ => rfl
      | 1, h => exact absurd List.mem_cons_self h
      | q + 2, _ => rfl
    rw [e]
theorem am_ce_w {E : am_E} {f : Nat → Int32} {w w' : Int64} {j : Nat} {s : am_sT} (hj : j ≠ 88) (hs : am_sh[j]? = some s) : am_ce E f w s = am_ce E f w' s := by
  have hlt : j < am_N := by rw [← am_shN]; exact (List.getElem?_eq_some_iff.mp hs).1
  have h1 := List.all_eq_true.mp am_one.1 j (List.mem_range.mpr hlt)
  have e : am_sh.getD j (0, 0, []) = s := by rw [List.getD_eq_getElem?_getD, hs]; rfl
  rw [e] at h1
  have h2 : ¬ 1 ∈ s.2.2 := by
    intro q
    rw [List.contains_iff_mem.mpr q] at h1
    simp at h1
    exact hj h1
  obtain ⟨kd, n, r⟩ := s
  match kd, h2 with
  | 0, _ => rfl
  | 1, _ => rfl
  | 2, _ => rfl
  | 3, _ => rfl
  | 4, _ => rfl
  | q + 5, h2 => exact congrArg (fun z => (Sum.inr (q, z) : va_E)) (am_fv_w r 0 h2)
theorem am_fv_set {ad : Nat → Nat} {f f' : Nat → Int32} {w : Int64} {r : List Nat} {j : Nat} {v : Int32} (hj : r[j]? = some 0) (h1 : f' j = v) (h2 : ∀ i, i ≠ j → f' i = f i) : (am_fv ad f w 0 r).set j (.int v) = am_fv ad f' w 0 r := by
  have hlt := (List.getElem?_eq_some_iff.mp hj).1
  apply List.ext_getElem?
  intro i
  by_cases hi : i = j
  · subst hi
    rw [List.getElem?_set_self (by rw [am_fv_len]; exact hlt), am_fv_get, hj, Nat.zero_add]
    simp [am_cv, h1]
  · rw [List.getElem?_set_ne (Ne.symm hi), am_fv_get, am_fv_get, Nat.zero_add, h2 i hi]
theorem am_fv_setl {ad : Nat → Nat} {f : Nat → Int32} {w w' : Int64} {r : List Nat} {j : Nat} (hj : r[j]? = some 1) (h1 : ∀ i, i ≠ j → r[i]? ≠ some 1) : (am_fv ad f w 0 r).set j (.long w') = am_fv ad f w' 0 r := by
  have hlt := (List.getElem?_eq_some_iff.mp hj).1
  apply List.ext_getElem?
  intro i
  by_cases hi : i = j
  · subst hi
    rw [List.getElem?_set_self (by rw [am_fv_len]; exact hlt), am_fv_get, hj]
    simp [am_cv]
  · rw [List.getElem?_set_ne (Ne.symm hi), am_fv_get, am_fv_get]
    cases hr : r[i]? with
    | none => rfl
    | some c =>
      match c, hr with
      | 0, _ => rfl
      | 1, hr => exact absurd hr (h1 i hi)
      | q + 2, _ => rfl
/-- a field's link: read; written -/
def am_fl (own : String) (idx ci j : Nat) : Prop := ∃ q, classes[ci]? = some q ∧ j < q.2.2 ∧ (q.2.1 j).1 = q.1 ∧ Cond.fieldLink own idx q.1 (q.2.1 j).2.1 (q.2.1 j).2.2.1 ∈ am_T
def am_fw (own : String) (idx ci j : Nat) (ty : FieldType) : Prop := ∃ q, classes[ci]? = some q ∧ j < q.2.2 ∧ (q.2.1 j).1 = q.1 ∧ Cond.fieldLink own idx q.1 (q.2.1 j).2.1 (q.2.1 j).2.2.1 ∈ am_T ∧ (q.2.1 j).2.2.2 = false ∧ parseFieldDescriptor (q.2.1 j).2.2.1 = some ty
section ACTS2
variable {E : am_E} {k : Nat} {cc : ByteArray} {nL : Nat} {own : String} {pc : Nat}
def aGet (ci j : Nat) : am_A := fun K _ _ f st I w => match st with
  | .ref o :: r => (match am_code ci o j with
    | some 0 => K f (.int (I o j) :: r) I w
    | some 1 => K f (.long w :: r) I w
    | some (q + 2) => K f (.ref q :: r) I w
    | none => False)
  | _ => False
theorem v_get {idx ci j : Nat} (hf : am_fl own idx ci j) (hd : decode cc pc = .ok (.getfield idx, 3)) : am_V E k cc nL own pc 3 (aGet ci j) := by
  intro p l e R s m args below meth c Q nc ns post C K J f st I w ha hK hJ
  obtain ⟨⟨hx, hb, hml, hown, hts⟩, ⟨hKn, hFx, hinj, hl⟩, ⟨hR1, hR2, hR3, hR4⟩, hpost⟩ := C
  obtain ⟨⟨C0, T0, N0⟩, h1, h2, h3, h4⟩ := hf
  simp only [aGet] at ha
  split at ha
  · rename_i o r
    have key : ∀ (x : Nat) (v : Value), am_code ci o j = some x → am_rz E.2.1 v = am_cv E.2.1 (I o j) w x → K f (v :: r) I w → am_Sem E p l e R s m args below meth c nL Q nc ns pc f (.ref o :: r) I w := by
      intro x v hx' hv hk H locs ls hP hS hls
      obtain ⟨n, rr, hs, hj⟩ := am_code_spec hx'
      have he := am_wd_get E I w hs
      refine va_get (fs := am_fv E.2.1 (I o) w 0 rr) hx hb hts (k_all h1).1 hown hKn hP o he h1 j h2 (hts _ h4) (fun _ h => by rw [h3] at h; exact h) (v := am_rz E.2.1 v) ?_ hd (hK _ _ _ _ hk H locs ls hP hS hls)
      rw [am_fv_get, hj, Nat.zero_add, hv]
      rfl
    split at ha
    · rename_i hc; exact key 0 _ hc rfl ha
    · rename_i hc; exact key 1 _ hc rfl ha
    · rename_i q hc; exact key (q + 2) _ hc rfl ha
    · exact ha.elim
  · exact ha.elim
def aPut (ci j : Nat) : am_A := fun K _ _ f st I w => match st with
  | .int v :: .ref o :: r => (match am_code ci o j with
    | some 0 => K f r (am_up I o j v) w
    | _ => False)
  | _ => False
def aPutz (ci j : Nat) : am_A := fun K _ _ f st I w => match st with
  | .int v :: .ref o :: r => (match am_code ci o j with
    | some 0 => (v = 0 ∨ v = 1) ∧ K f r (am_up I o j v) w
    | _ => False)
  | _ => False
def aPutj : am_A := fun K _ _ f st I _ => match st with
  | .long v :: .ref o :: r => (match Nat.beq o 88 with
    | true => K f r I v
    | false => False)
  | _ => False
theorem v_put0 {idx ci j : Nat} {ty : FieldType} (hf : am_fw own idx ci j ty) (hd : decode cc pc = .ok (.putfield idx, 3)) {p : Program} {l : Launch} {e : Env} {R : Room} {s : State} {m : MethodId} {args : Array Value} {below : List Frame} {meth : Method} {c : Code} {Q : State → Prop} {nc ns : Nat} {post : am_K}
    (C : am_Ctx E k p l e R s m args below meth c Q nc ns cc nL own post) {f : am_L} {v : Int32} {o : Nat} {r : List Value} {I : am_I} {w : Int64} (hn : narrow ty (.int v) = .int v) (hfit : fits ty (.int v) = true) (hc : am_code ci o j = some 0)
    (hK : am_Sem E p l e R s m args below meth c nL Q nc ns (pc + 3) f r (am_up I o j v) w) : am_Sem E p l e R s m args below meth c nL Q nc ns pc f (.int v :: .ref o :: r) I w := by
  obtain ⟨⟨hx, hb, hml, hown, hts⟩, ⟨hKn, hFx, hinj, hl⟩, ⟨hR1, hR2, hR3, hR4⟩, hpost⟩ := C
  obtain ⟨⟨C0, T0, N0⟩, h1, h2, h3, h4, h5, h6⟩ := hf
  intro H locs ls hP hS hls
  obtain ⟨n, rr, hs, hj⟩ := am_code_spec hc
  have he := am_wd_get E I w hs
  have hl0 : j < (am_fv E.2.1 (I o) w 0 rr).length := by rw [am_fv_len]; exact (List.getElem?_eq_some_iff.mp hj).1
  refine va_put (fs := am_fv E.2.1 (I o) w 0 rr) (v := .int v) hx hb hts (k_all h1).1 (kT ci) (k_all h1).2.2 (k_all h1).2.1 hown hKn hP (am_wd_D hinj I w) hS o he h1 j h2 (hts _ h4) (fun _ h => by rw [h3] at h; exact h) h5 h6 hn hfit hl0 hd (fun H1 locs1 hP1 _ hS1 => ?_)
  have e1 : (Sum.inr (ci, (am_fv E.2.1 (I o) w 0 rr).set j (.int v)) : va_E) = am_ce E (am_up I o j v o) w (ci + 5, n, rr) :=
    congrArg (fun z => (Sum.inr (ci, z) : va_E)) (am_fv_set hj (by simp [am_up]) (fun i hi => by simp [am_up, hi]))
  have e2 := am_wd_set (E := E) (I := I) (I' := am_up I o j v) (w := w) (w' := w) hs (fun i s' hi _ => by rw [am_up_ne hi])
  rw [e1, e2] at hP1
  exact hK H1 locs1 ls hP1 hS1 hls
theorem v_put {idx ci j : Nat} (hf : am_fw own idx ci j .int) (hd : decode cc pc = .ok (.putfield idx, 3)) : am_V E k cc nL own pc 3 (aPut ci j) := by
  intro p l e R s m args below meth c Q nc ns post C K J f st I w ha hK hJ
  simp only [aPut] at ha
  split at ha
  · rename_i v o r
    split at ha
    · rename_i hc
      exact v_put0 hf hd C rfl rfl hc (hK _ _ _ _ ha)
    · exact ha.elim
  · exact ha.elim
theorem v_putz {idx ci j : Nat} (hf : am_fw own idx ci j .boolean) (hd : decode cc pc = .ok (.putfield idx, 3)) : am_V E k cc nL own pc 3 (aPutz ci j) := by
  intro p l e R s m args below meth c Q nc ns post C K J f st I w ha hK hJ
  simp only [aPutz] at ha
  split at ha
  · rename_i v o r
    split at ha
    · rename_i hc
      have hz : narrow .boolean (.int v) = .int v ∧ fits .boolean (.int v) = true := by
        rcases ha.1 with e | e <;> subst e <;> exact ⟨by decide, by decide⟩
      exact v_put0 hf hd C hz.1 hz.2 hc (hK _ _ _ _ ha.2)
    · exact ha.elim
  · exact ha.elim
theorem v_putj {idx : Nat} (hf : am_fw own idx 12 21 .long) (hd : decode cc pc = .ok (.putfield idx, 3)) : am_V E k cc nL own pc 3 aPutj := by
  intro p l e R s m args below meth c Q nc ns post C K J f st I w ha hK hJ
  simp only [aPutj] at ha
  split at ha
  · rename_i v o r
    split at ha
    · rename_i hb88
      have e88 : o = 88 := Nat.eq_of_beq_eq_true hb88
      subst e88
      obtain ⟨⟨hx, hb, hml, hown, hts⟩, ⟨hKn, hFx, hinj, hl⟩, ⟨hR1, hR2, hR3, hR4⟩, hpost⟩ := C
      obtain ⟨⟨C0, T0, N0⟩, h1, h2, h3, h4, h5, h6⟩ := hf
      intro H locs ls hP hS hls
      have hc : am_code 12 88 21 = some 1 := by decide +kernel
      obtain ⟨n, rr, hs, hj⟩ := am_code_spec hc
      have he := am_wd_get E I w hs
      have hl0 : 21 < (am_fv E.2.1 (I 88) w 0 rr).length := by rw [am_fv_len]; exact (List.getElem?_eq_some_iff.mp hj).1
      have hu : ∀ i, i ≠ 21 → rr[i]? ≠ some 1 := by
        intro i hi q
        have er : (am_sh.getD 88 (0, 0, [])).2.2 = rr := by rw [List.getD_eq_getElem?_getD, hs]; rfl
        obtain ⟨-, u1, u2⟩ := am_one
        rw [er] at u1 u2
        have hlt : i < 60 := Nat.lt_of_lt_of_le (List.getElem?_eq_some_iff.mp q).1 u2
        have := List.all_eq_true.mp u1 i (List.mem_range.mpr hlt)
        rw [q] at this
        simp at this
        exact hi this
      refine va_put (fs := am_fv E.2.1 (I 88) w 0 rr) (v := .long v) hx hb hts (k_all h1).1 (kT 12) (k_all h1).2.2 (k_all h1).2.1 hown hKn hP (am_wd_D hinj I w) hS 88 he h1 21 h2 (hts _ h4) (fun _ h => by rw [h3] at h; exact h) h5 h6 rfl rfl hl0 hd (fun H1 locs1 hP1 _ hS1 => ?_)
      have e1 : (Sum.inr (12, (am_fv E.2.1 (I 88) w 0 rr).set 21 (.long v)) : va_E) = am_ce E (I 88) v (12 + 5, n, rr) :=
        congrArg (fun z => (Sum.inr (12, z) : va_E)) (am_fv_setl hj hu)
      have e2 := am_wd_set (E := E) (I := I) (I' := I) (w := w) (w' := v) hs (fun i s' hi hs' => am_ce_w hi hs')
      rw [e1, e2] at hP1
      exact hK _ _ _ _ ha H1 locs1 ls hP1 hS1 hls
    · exact ha.elim
  · exact ha.elim
/-! arrays -/
def aAld (kd : Nat) : am_A := fun K _ _ f st I w => match st with
  | .int i :: .ref o :: r => (match am_arr kd o with
    | some n => vp_in i n ∧ K f (.int (I o i.toNatClampNeg) :: r) I w
    | none => False)
  | _ => False
theorem v_iald (hd : decode cc pc = .ok (.iaload, 1)) : am_V E k cc nL own pc 1 (aAld 0) := by
  intro p l e R s m args below meth c Q nc ns post C K J f st I w ha hK hJ
  obtain ⟨⟨hx, hb, hml, hown, hts⟩, ⟨hKn, hFx, hinj, hl⟩, ⟨hR1, hR2, hR3, hR4⟩, hpost⟩ := C
  simp only [aAld] at ha
  split at ha
  · rename_i i o r
    split at ha
    · rename_i n hc
      obtain ⟨rr, hs⟩ := am_arr_spec hc
      intro H locs ls hP hS hls
      exact va_iald hx hb hKn hP o 0 (am_wd_get E I w hs) rfl ha.1 hd (hK _ _ _ _ ha.2 H locs ls hP hS hls)
    · exact ha.elim
  · exact ha.elim
theorem v_zald (hd : decode cc pc = .ok (.baload, 1)) : am_V E k cc nL own pc 1 (aAld 1) := by
  intro p l e R s m args below meth c Q nc ns post C K J f st I w ha hK hJ
  obtain ⟨⟨hx, hb, hml, hown, hts⟩, ⟨hKn, hFx, hinj, hl⟩, ⟨hR1, hR2, hR3, hR4⟩, hpost⟩ := C
  simp only [aAld] at ha
  split at ha
  · rename_i i o r
    split at ha
    · rename_i n hc
      obtain ⟨rr, hs⟩ := am_arr_spec hc
      intro H locs ls hP hS hls
      exact va_zald hx hb hKn hP o 1 (am_wd_get E I w hs) rfl ha.1 hd (hK _ _ _ _ ha.2 H locs ls hP hS hls)
    · exact ha.elim
  · exact ha.elim
def aAst : am_A := fun K _ _ f st I w => match st with
  | .int v :: .int i :: .ref o :: r => (match am_arr 0 o with
    | some n => vp_in i n ∧ K f r (am_up I o i.toNatClampNeg v) w
    | none => False)
  | _ => False
theorem v_iast (hd : decode cc pc = .ok (.iastore, 1)) : am_V E k cc nL own pc 1 aAst := by
  intro p l e R s m args below meth c Q nc ns post C K J f st I w ha hK hJ
  obtain ⟨⟨hx, hb, hml, hown, hts⟩, ⟨hKn, hFx, hinj, hl⟩, ⟨hR1, hR2, hR3, hR4⟩, hpost⟩ := C
  simp only [aAst] at ha
  split at ha
  · rename_i v i o r
    split at ha
    · rename_i n hc
      obtain ⟨rr, hs⟩ := am_arr_spec hc
      intro H locs ls hP hS hls
      refine va_iast hx hb hKn hP (am_wd_D hinj I w) hS o 0 (am_wd_get E I w hs) rfl ha.1 hd (fun H1 locs1 hP1 _ hS1 => ?_)
      have e1 : (Sum.inl (E.2.2.2 0, n, .inl (upd (I o) i.toNatClampNeg v)) : va_E) = am_ce E (am_up I o i.toNatClampNeg v o) w (0, n, rr) := by rw [am_up_self]; rfl
      have e2 := am_wd_set (E := E) (I := I) (I' := am_up I o i.toNatClampNeg v) (w := w) (w' := w) hs (fun i s' hi _ => by rw [am_up_ne hi])
      rw [e1, e2] at hP1
      exact hK _ _ _ _ ha.2 H1 locs1 ls hP1 hS1 hls
    · exact ha.elim
  · exact ha.elim
def aAstz : am_A := fun K _ _ f st I w => match st with
  | .int v :: .int i :: .ref o :: r => (match am_arr 1 o with
    | some n => vp_in i n ∧ (v = 0 ∨ v = 1) ∧ K f r (am_up I o i.toNatClampNeg v) w
    | none => False)
  | _ => False
theorem v_zast (hd : decode cc pc = .ok (.bastore, 1)) : am_V E k cc nL own pc 1 aAstz := by
  intro p l e R s m args below meth c Q nc ns post C K J f st I w ha hK hJ
  obtain ⟨⟨hx, hb, hml, hown, hts⟩, ⟨hKn, hFx, hinj, hl⟩, ⟨hR1, hR2, hR3, hR4⟩, hpost⟩ := C
  simp only [aAstz] at ha
  split at ha
  · rename_i v i o r
    split at ha
    · rename_i n hc
      obtain ⟨rr, hs⟩ := am_arr_spec hc
      obtain ⟨ha1, hz, ha2⟩ := ha
      have hz' : vp_nar .boolean v = v := by rcases hz with e | e <;> subst e <;> decide
      intro H locs ls hP hS hls
      refine va_zast hx hb hKn hP (am_wd_D hinj I w) hS o 1 (am_wd_get E I w hs) rfl ha1 hd (fun H1 locs1 hP1 _ hS1 => ?_)
      rw [hz'] at hP1
      have e1 : (Sum.inl (E.2.2.2 1, n, .inl (upd (I o) i.toNatClampNeg v)) : va_E) = am_ce E (am_up I o i.toNatClampNeg v o) w (1, n, rr) := by rw [am_up_self]; rfl
      have e2 := am_wd_set (E := E) (I := I) (I' := am_up I o i.toNatClampNeg v) (w := w) (w' := w) hs (fun i s' hi _ => by rw [am_up_ne hi])
      rw [e1, e2] at hP1
      exact hK _ _ _ _ ha2 H1 locs1 ls hP1 hS1 hls
    · exact ha.elim
  · exact ha.elim
def aAa (kd : Nat) : am_A := fun K _ _ f st I w => match st with
  | .int i :: .ref o :: r => (match am_arr kd o with
    | some n => vp_in i n ∧ K f (.ref (am_el kd i.toNatClampNeg) :: r) I w
    | none => False)
  | _ => False
theorem v_aa {kd : Nat} (h2 : 2 ≤ kd) (h4 : kd ≤ 4) (hd : decode cc pc = .ok (.aaload, 1)) : am_V E k cc nL own pc 1 (aAa kd) := by
  intro p l e R s m args below meth c Q nc ns post C K J f st I w ha hK hJ
  obtain ⟨⟨hx, hb, hml, hown, hts⟩, ⟨hKn, hFx, hinj, hl⟩, ⟨hR1, hR2, hR3, hR4⟩, hpost⟩ := C
  simp only [aAa] at ha
  split at ha
  · rename_i i o r
    split at ha
    · rename_i n hc
      obtain ⟨rr, hs⟩ := am_arr_spec hc
      have hlt : i.toNatClampNeg < n := Nat.not_le.mp fun q => ha.1 (Or.inr q)
      have hel := am_el_of hs h2 h4 hlt
      intro H locs ls hP hS hls
      have hk := hK _ _ _ _ ha.2 H locs ls hP hS hls
      have he := am_wd_get E I w hs
      have hv : am_rz E.2.1 (.ref (am_el kd i.toNatClampNeg)) = va_rf (some (E.2.1 (rr.getD i.toNatClampNeg 0))) := by rw [hel]; rfl
      rcases (show kd = 2 ∨ kd = 3 ∨ kd = 4 by omega) with e | e | e <;> subst e
      · exact va_aldq hx hb hKn hP o 2 (f := fun i => some (E.2.1 (rr.getD i 0))) he rfl ha.1 hd (by rw [← hv]; exact hk)
      · exact va_aldq hx hb hKn hP o 3 (f := fun i => some (E.2.1 (rr.getD i 0))) he rfl ha.1 hd (by rw [← hv]; exact hk)
      · exact va_aldq hx hb hKn hP o 4 (f := fun i => some (E.2.1 (rr.getD i 0))) he rfl ha.1 hd (by rw [← hv]; exact hk)
    · exact ha.elim
  · exact ha.elim
def aLen : am_A := fun K _ _ f st I w => match st with
  | .ref o :: r => (match am_arr 0 o with
    | some n => K f (.int (nI n) :: r) I w
    | none => False)
  | _ => False
theorem v_alen (hd : decode cc pc = .ok (.arraylength, 1)) : am_V E k cc nL own pc 1 aLen := by
  intro p l e R s m args below meth c Q nc ns post C K J f st I w ha hK hJ
  obtain ⟨⟨hx, hb, hml, hown, hts⟩, ⟨hKn, hFx, hinj, hl⟩, ⟨hR1, hR2, hR3, hR4⟩, hpost⟩ := C
  simp only [aLen] at ha
  split at ha
  · rename_i o r
    split at ha
    · rename_i n hc
      obtain ⟨rr, hs⟩ := am_arr_spec hc
      intro H locs ls hP hS hls
      exact va_alen hx hb hKn hP o 0 (am_wd_get E I w hs) (ty := .int) rfl (v := nI n) rfl hd (hK _ _ _ _ ha H locs ls hP hS hls)
    · exact ha.elim
  · exact ha.elim
/-! the static rows -/
def aGs (q : Nat) : am_A := fun K _ _ f st I w => K f (.ref q :: st) I w
theorem v_under {idx : Nat} (hw : Cond.fieldLink own idx "TwoCamps" "UNDER" "[I" ∈ am_T) (hd : decode cc pc = .ok (.getstatic idx, 3)) : am_V E k cc nL own pc 3 (aGs 120) := by
  intro p l e R s m args below meth c Q nc ns post C K J f st I w ha hK hJ
  obtain ⟨⟨hx, hb, hml, hown, hts⟩, ⟨hKn, hFx, hinj, hl⟩, ⟨hR1, hR2, hR3, hR4⟩, hpost⟩ := C
  exact fun H locs ls hP hS hls => va_gets hx hb hFx.1.1 hS hown (hts _ hw) (fun _ h => h) hd (hK _ _ _ _ ha H locs ls hP hS hls)
theorem v_room {idx : Nat} (hw : Cond.fieldLink own idx "TwoCamps" "ROOM" "[I" ∈ am_T) (hd : decode cc pc = .ok (.getstatic idx, 3)) : am_V E k cc nL own pc 3 (aGs 121) := by
  intro p l e R s m args below meth c Q nc ns post C K J f st I w ha hK hJ
  obtain ⟨⟨hx, hb, hml, hown, hts⟩, ⟨hKn, hFx, hinj, hl⟩, ⟨hR1, hR2, hR3, hR4⟩, hpost⟩ := C
  exact fun H locs ls hP hS hls => va_gets hx hb hFx.2.1.1 hS hown (hts _ hw) (fun _ h => h) hd (hK _ _ _ _ ha H locs ls hP hS hls)
def aTld (q : Nat) (t : Nat → Int32) : am_A := fun K _ _ f st I w => match st with
  | .int i :: .ref o :: r => (match Nat.beq o q with
    | true => vp_in i 6 ∧ K f (.int (t i.toNatClampNeg) :: r) I w
    | false => False)
  | _ => False
theorem v_tund (hd : decode cc pc = .ok (.iaload, 1)) : am_V E k cc nL own pc 1 (aTld 120 am_under) := by
  intro p l e R s m args below meth c Q nc ns post C K J f st I w ha hK hJ
  obtain ⟨⟨hx, hb, hml, hown, hts⟩, ⟨hKn, hFx, hinj, hl⟩, ⟨hR1, hR2, hR3, hR4⟩, hpost⟩ := C
  simp only [aTld] at ha
  split at ha
  · rename_i i o r
    split at ha
    · rename_i hbq
      have e120 : o = 120 := Nat.eq_of_beq_eq_true hbq
      subst e120
      exact fun H locs ls hP hS hls => va_ti hx hb hFx.1.2 hS ha.1 rfl hd (hK _ _ _ _ ha.2 H locs ls hP hS hls)
    · exact ha.elim
  · exact ha.elim
theorem v_troom (hd : decode cc pc = .ok (.iaload, 1)) : am_V E k cc nL own pc 1 (aTld 121 am_room) := by
  intro p l e R s m args below meth c Q nc ns post C K J f st I w ha hK hJ
  obtain ⟨⟨hx, hb, hml, hown, hts⟩, ⟨hKn, hFx, hinj, hl⟩, ⟨hR1, hR2, hR3, hR4⟩, hpost⟩ := C
  simp only [aTld] at ha
  split at ha
  · rename_i i o r
    split at ha
    · rename_i hbq
      have e120 : o = 121 := Nat.eq_of_beq_eq_true hbq
      subst e120
      exact fun H locs ls hP hS hls => va_ti hx hb hFx.2.1.2 hS ha.1 rfl hd (hK _ _ _ _ ha.2 H locs ls hP hS hls)
    · exact ha.elim
  · exact ha.elim
end ACTS2
end
section
/-! calls -/
def am_pop : Nat → List Value → List Value → Option (List Value × List Value)
  | 0, av, st => some (av, st)
  | n + 1, av, v :: st => am_pop n (v :: av) st
  | _ + 1, _, [] => none
theorem am_pop_spec : ∀ (n : Nat) (acc st : List Value) (q : List Value × List Value), am_pop n acc st = some q → ∃ xs, xs.length = n ∧ q.1 = xs ++ acc ∧ st = xs.reverse ++ q.2
  | 0, acc, st, q, h => by cases h; exact ⟨[], rfl, rfl, rfl⟩
  | n + 1, acc, v :: st, q, h => by
    obtain ⟨xs, h1, h2, h3⟩ := am_pop_spec n (v :: acc) st q h
    exact ⟨xs ++ [v], by simp [h1], by rw [h2]; simp, by rw [h3]; simp⟩
  | n + 1, acc, [], q, h => by cases h
def am_wt : List Value → Nat
  | [] => 0
  | .long _ :: r => am_wt r + 2
  | .double _ :: r => am_wt r + 2
  | _ :: r => am_wt r + 1
theorem am_wt_eq (ad : Nat → Nat) : ∀ (st : List Value), (((st.map (am_rz ad))).map fun v => v.category).sum = am_wt st
  | [] => rfl
  | v :: r => by
    have ih := am_wt_eq ad r
    cases v <;> simp [am_wt, am_rz, Value.category] at ih ⊢ <;> omega
def am_ps : Option Value → List Value → List Value
  | none, st => st
  | some v, st => v :: st
theorem am_ps_map (ad : Nat → Nat) (r : Option Value) (st : List Value) : (am_ps r st).map (am_rz ad) = (r.map (am_rz ad)).toList ++ st.map (am_rz ad) := by
  cases r <;> rfl
/-- what the tables say of a method: an instance's; a static one -/
def am_yB (Y : am_Y) (n : Nat) : Prop := Cond.initialized Y.1.cls ∈ am_T ∧ Cond.code Y.1 Y.2.1 Y.2.2.1 Y.2.2.2 ∈ am_T ∧ (Y.1.cls ≠ "java/lang/invoke/MethodHandle" ∧ Y.1.cls ≠ "java/lang/invoke/VarHandle" ∧ (parseMethodDescriptor Y.1.desc).map (fun d => d.parameters.length) = some n) ∧ Y.2.2.1 ≤ 81
def am_yV (Y : am_Y) (n : Nat) : Prop := am_yB Y n ∧ Cond.instanceMethod Y.1 ∈ am_T ∧ Cond.selects Y.1.cls Y.1 Y.1 ∈ am_T
def am_yS (Y : am_Y) (n : Nat) : Prop := am_yB Y n ∧ Cond.static Y.1 ∈ am_T
theorem am_yB.ws {Y : am_Y} {n : Nat} (h : am_yB Y n) : ∀ w ∈ Cond.code Y.1 Y.2.1 Y.2.2.1 Y.2.2.2 :: am_T, w ∈ am_T := by
  intro w hw
  rcases List.mem_cons.mp hw with e | e
  · rw [e]; exact h.2.1
  · exact e
section CALLS
variable {E : am_E} {k : Nat} {cc : ByteArray} {nL : Nat} {own : String} {pc : Nat}
section CALL0
variable {p : Program} {l : Launch} {e : Env} {R : Room} {s : State} {m : MethodId} {args : Array Value} {below : List Frame} {meth : Method} {c : Code} {Q : State → Prop} {nc ns : Nat} {post : am_K}
theorem am_back {H : Heap} {locs : List Loc} {ls : Array Slot} {rest st0 : List Value} {r : Option Value} {I' : am_I} {w' : Int64} {a : Array Value}
    (hr : va_Run p l e R s m args below meth c H locs nc ns 0 0 (F0 m pc ls st0) rest (am_Qc E r I' w' a) (am_Ad E)) (hS : va_S (am_Ad E) s.heap H locs)
    (kk : ∀ (H1 : Heap) (locs1 : List Loc), va_P E.2.2.1 classes (am_wd E I' w') H1 → va_S (am_Ad E) s.heap H1 locs1 → W p l e R s m args below meth c H1 locs1 nc ns Q (F0 m (pc + 3) ls ((r.map (am_rz E.2.1)).toList ++ rest))) : W p l e R s m args below meth c H locs nc ns Q (F0 m pc ls st0) := by
  intro T hT X
  obtain ⟨v, st₀, t, T', L, h0, X', hL, e1, e2, ⟨hv, hP1, hz, hk⟩, st⟩ := hr T hT X
  cases hv
  rw [h0] at hz hk
  obtain ⟨t2, a1, b1⟩ := kk T'.heap (locs ++ L) (by rw [e1]; exact hP1)
    ⟨Nat.le_trans hS.1 (by rw [e1]; exact hz), fun q h1 h2 => by rw [e1, hk q (Nat.lt_of_lt_of_le h1 hS.1) h2]; exact hS.2.1 q h1 h2, fun q hq => by
      rcases List.mem_append.mp hq with h | h
      · exact hS.2.2 q h
      · exact hL q h⟩ T' rfl X'
  exact ⟨t2, st t2 a1, b1⟩
theorem am_pre {H : Heap} {locs : List Loc} {I : am_I} {w : Int64} (C : am_Ctx E k p l e R s m args below meth c Q nc ns cc nL own post) (hP : va_P E.2.2.1 classes (am_wd E I w) H) (hS : va_S (am_Ad E) s.heap H locs) (av : List Value) :
    ∀ U : State, U.heap = H → s.WarmedH U.vm → am_Pc E av I w (av.map (am_rz E.2.1)).toArray U := by
  obtain ⟨-, ⟨hKn, hFx, -⟩, -⟩ := C
  intro U hU hW
  exact ⟨rfl, va_K.moved hW.alike hKn, by rw [hU]; exact hP, by rw [hU]; exact (hFx.kept hS.2.1).warm hW⟩
end CALL0
def am_isc (ci o : Nat) : Bool := match am_nt am_sh o with
  | some (kd, _) => Nat.beq kd (ci + 5)
  | none => false
theorem am_isc_spec {ci o : Nat} (h : am_isc ci o = true) : ∃ (n : Nat) (r : List Nat), am_sh[o]? = some (ci + 5, n, r) := by
  unfold am_isc at h
  split at h
  · rename_i kd z hs
    have e : kd = ci + 5 := Nat.eq_of_beq_eq_true h
    subst e
    exact ⟨z.1, z.2, by rw [← am_nt_eq]; exact hs⟩
  · cases h
/-- a call of an instance's method: the receiver of class ci, n arguments beside it -/
def aIv (E : am_E) (k ci n : Nat) (Y : am_Y) : am_A := fun K _ _ f st I w => match am_pop (n + 1) [] st with
  | some (.ref o :: av, st') => (match am_isc ci o, Nat.ble (am_wt st') 8 with
    | true, true => ∃ (k' : Nat) (r : Option Value) (I' : am_I) (w' : Int64), k' < k ∧ am_Ret E k' Y (.ref o :: av) I w r I' w' ∧ K f (am_ps r st') I' w'
    | _, _ => False)
  | _ => False
theorem v_virt {ci n idx : Nat} {Y : am_Y} {q : vw_C} (hY : am_yV Y n) (hq : classes[ci]? = some q) (hcl : q.1 = Y.1.cls) (hl : Cond.methodLink own idx Y.1 ∈ am_T) (hd : decode cc pc = .ok (.invokevirtual idx, 3)) : am_V E k cc nL own pc 3 (aIv E k ci n Y) := by
  intro p l e R s m args below meth c Q nc ns post C K J f st I w ha hK hJ
  have C0 := C
  obtain ⟨⟨hx, hb, hml, hown, hts⟩, ⟨hKn, hFx, hinj, hle⟩, ⟨hR1, hR2, hR3, hR4⟩, hpost⟩ := C
  subst hle
  simp only [aIv] at ha
  split at ha
  · rename_i o av st' hp
    split at ha
    · rename_i hi hw
      obtain ⟨k', r, I', w', hk', hM, hk⟩ := ha
      obtain ⟨xs, g1, g2, g3⟩ := am_pop_spec _ _ _ _ hp
      simp only [List.append_nil] at g2 g3
      subst g2
      obtain ⟨nn, rr, hs⟩ := am_isc_spec hi
      intro H locs ls hP hS hls
      have hst : st.map (am_rz E.2.1) = (av.map (am_rz E.2.1)).reverse ++ .ref (E.2.1 o) :: st'.map (am_rz E.2.1) := by
        rw [g3]
        simp [am_rz]
      have hlen : (av.map (am_rz E.2.1)).length = n := by
        rw [List.length_map]
        simp at g1
        exact g1
      have he := am_wd_get E I w hs
      have hrecv := va_recv hKn hP hq (fs := am_fv E.2.1 (I o) w 0 rr) he
      rw [hcl] at hrecv
      obtain ⟨hB, hins, hsel⟩ := hY
      have hwt := Nat.ble_eq.mp hw
      refine am_back (va_runV (Ts := am_T) (own := own) (C := Y.1.cls) (b := E.2.1 o) (As := av.map (am_rz E.2.1)) (rest := st'.map (am_rz E.2.1)) ⟨hx, hb, hml, hown, hts⟩ hM
        (cwV n hts (tb_goodIn (fun w hw => ?_)) rfl rfl rfl ⟨rfl, hB.2.2.1⟩ ⟨?_, ?_⟩) ⟨am_Pc_blind _ _ _ _, hrecv, am_pre C0 hP hS (.ref o :: av)⟩ rfl hlen hls.2.1 hst (lv_room ?_) hd ⟨hR3, hR4⟩) hS
        (fun H1 locs1 hP1 hS1 => ?_)
      · unfold wsV at hw
        rcases List.mem_append.mp hw with h | h
        · simp only [List.mem_cons, List.not_mem_nil, or_false] at h
          rcases h with e | e | e | e
          · rw [e]; exact hl
          · rw [e]; exact hins
          · rw [e]; exact hsel
          · rw [e]; exact hB.1
        · exact hB.ws w h
      · show k' + 1 ≤ R.frames
        omega
      · have := hB.2.2.2
        show 8 + (Y.2.2.1 + 11) + (100 * k' + 100) ≤ R.locals
        omega
      · rw [am_wt_eq]; exact hwt
      · have := hK _ _ _ _ hk H1 locs1 ls hP1 hS1 hls
        rw [am_ps_map] at this
        exact this
    · exact ha.elim
  · exact ha.elim
/-- a call of a static method -/
def aIs (E : am_E) (k n : Nat) (Y : am_Y) : am_A := fun K _ _ f st I w => match am_pop n [] st with
  | some (av, st') => (match Nat.ble (am_wt st') 8 with
    | true => ∃ (k' : Nat) (r : Option Value) (I' : am_I) (w' : Int64), k' < k ∧ am_Ret E k' Y av I w r I' w' ∧ K f (am_ps r st') I' w'
    | _ => False)
  | _ => False
theorem v_stat {n idx : Nat} {Y : am_Y} (hY : am_yS Y n) (hl : Cond.methodLink own idx Y.1 ∈ am_T) (hd : decode cc pc = .ok (.invokestatic idx, 3)) : am_V E k cc nL own pc 3 (aIs E k n Y) := by
  intro p l e R s m args below meth c Q nc ns post C K J f st I w ha hK hJ
  have C0 := C
  obtain ⟨⟨hx, hb, hml, hown, hts⟩, ⟨hKn, hFx, hinj, hle⟩, ⟨hR1, hR2, hR3, hR4⟩, hpost⟩ := C
  subst hle
  simp only [aIs] at ha
  split at ha
  · rename_i av st' hp
    split at ha
    · rename_i hw
      obtain ⟨k', r, I', w', hk', hM, hk⟩ := ha
      obtain ⟨xs, g1, g2, g3⟩ := am_pop_spec _ _ _ _ hp
      simp only [List.append_nil] at g2 g3
      subst g2
      intro H locs ls hP hS hls
      have hst : st.map (am_rz E.2.1) = (av.map (am_rz E.2.1)).reverse ++ st'.map (am_rz E.2.1) := by
        rw [g3]
        simp
      have hlen : (av.map (am_rz E.2.1)).length = n := by rw [List.length_map]; exact g1
      obtain ⟨hB, hsta⟩ := hY
      have hwt := Nat.ble_eq.mp hw
      refine am_back (va_runS (Ts := am_T) (own := own) (As := av.map (am_rz E.2.1)) (rest := st'.map (am_rz E.2.1)) ⟨hx, hb, hml, hown, hts⟩ hM
        (va_cwS n hts (tb_goodIn (fun w hw => ?_)) rfl rfl rfl hB.2.2.1 ⟨?_, ?_⟩) ⟨am_Pc_blind _ _ _ _, am_pre C0 hP hS av⟩ rfl hlen hls.2.1 hst (lv_room ?_) hd ⟨hR3, hR4⟩) hS
        (fun H1 locs1 hP1 hS1 => ?_)
      · unfold va_wsS at hw
        rcases List.mem_append.mp hw with h | h
        · simp only [List.mem_cons, List.not_mem_nil, or_false] at h
          rcases h with e | e | e
          · rw [e]; exact hl
          · rw [e]; exact hsta
          · rw [e]; exact hB.1
        · exact hB.ws w h
      · show k' + 1 ≤ R.frames
        omega
      · have := hB.2.2.2
        show 8 + (Y.2.2.1 + 11) + (100 * k' + 100) ≤ R.locals
        omega
      · rw [am_wt_eq]; exact hwt
      · have := hK _ _ _ _ hk H1 locs1 ls hP1 hS1 hls
        rw [am_ps_map] at this
        exact this
    · exact ha.elim
  · exact ha.elim
/-- .. of a nest mate, private -/
theorem v_statN {n idx : Nat} {host : String} {Y : am_Y} (hY : am_yS Y n) (hl : (own, idx, Y.1, host) ∈ am_nest) (hd : decode cc pc = .ok (.invokestatic idx, 3)) : am_V E k cc nL own pc 3 (aIs E k n Y) := by
  intro p l e R s m args below meth c Q nc ns post C K J f st I w ha hK hJ
  have C0 := C
  obtain ⟨⟨hx, hb, hml, hown, hts⟩, ⟨hKn, hFx, hinj, hle⟩, ⟨hR1, hR2, hR3, hR4⟩, hpost⟩ := C
  subst hle
  simp only [aIs] at ha
  split at ha
  · rename_i av st' hp
    split at ha
    · rename_i hw
      obtain ⟨k', r, I', w', hk', hM, hk⟩ := ha
      obtain ⟨xs, g1, g2, g3⟩ := am_pop_spec _ _ _ _ hp
      simp only [List.append_nil] at g2 g3
      subst g2
      intro H locs ls hP hS hls
      have hst : st.map (am_rz E.2.1) = (av.map (am_rz E.2.1)).reverse ++ st'.map (am_rz E.2.1) := by
        rw [g3]
        simp
      have hlen : (av.map (am_rz E.2.1)).length = n := by rw [List.length_map]; exact g1
      obtain ⟨hB, hsta⟩ := hY
      have hwt := Nat.ble_eq.mp hw
      have hnest := hFx.2.2.2.2.2 _ hl
      refine am_back (va_runSN (Ts := am_T) (own := own) (host := host) (As := av.map (am_rz E.2.1)) (rest := st'.map (am_rz E.2.1)) ⟨hx, hb, hml, hown, hts⟩ hM
        ⟨va_cnB n hts (tb_goodIn hB.ws) rfl rfl rfl hnest (hts _ hB.1) hB.2.2.1 ⟨?_, ?_⟩, hts _ hsta, trivial⟩ ⟨am_Pc_blind _ _ _ _, am_pre C0 hP hS av⟩ rfl hlen hls.2.1 hst (lv_room ?_) hd ⟨hR3, hR4⟩) hS
        (fun H1 locs1 hP1 hS1 => ?_)
      · show k' + 1 ≤ R.frames
        omega
      · have := hB.2.2.2
        show 8 + (Y.2.2.1 + 11) + (100 * k' + 100) ≤ R.locals
        omega
      · rw [am_wt_eq]; exact hwt
      · have := hK _ _ _ _ hk H1 locs1 ls hP1 hS1 hls
        rw [am_ps_map] at this
        exact this
    · exact ha.elim
  · exact ha.elim
/-! natives and Math -/
def am_cpI (I : am_I) (a b sp dp n : Nat) : am_I := fun q j => if q = b then va_cpy (I a) (I b) sp dp n j else I q j
theorem am_cpI_ne {I : am_I} {a b sp dp n q : Nat} (h : q ≠ b) : am_cpI I a b sp dp n q = I q := by
  funext j
  simp [am_cpI, h]
theorem am_cpI_self {I : am_I} {a b sp dp n : Nat} : am_cpI I a b sp dp n b = va_cpy (I a) (I b) sp dp n := by
  funext j
  simp [am_cpI]
def aCpy (k : Nat) : am_A := fun K _ _ f st I w => match st with
  | .int n :: .int dp :: .ref b :: .int sp :: .ref a :: r => (match am_arr 0 a, am_arr 0 b, Nat.ble (am_wt r) 8 with
    | some na, some nb, true => 0 < k ∧ ¬ sp < 0 ∧ ¬ dp < 0 ∧ ¬ n < 0 ∧ sp.toNatClampNeg + n.toNatClampNeg ≤ na ∧ dp.toNatClampNeg + n.toNatClampNeg ≤ nb ∧ K f r (am_cpI I a b sp.toNatClampNeg dp.toNatClampNeg n.toNatClampNeg) w
    | _, _, _ => False)
  | _ => False
theorem v_cpy {idx : Nat} (hl : Cond.methodLink own idx arraycopyName ∈ am_T) (hn : Cond.native arraycopyName ∈ am_T) (hst : Cond.static arraycopyName ∈ am_T) (hi : Cond.initialized "java/lang/System" ∈ am_T) (hd : decode cc pc = .ok (.invokestatic idx, 3)) : am_V E k cc nL own pc 3 (aCpy k) := by
  intro p l e R s m args below meth c Q nc ns post C K J f st I w ha hK hJ
  obtain ⟨⟨hx, hb, hml, hown, hts⟩, ⟨hKn, hFx, hinj, hle⟩, ⟨hR1, hR2, hR3, hR4⟩, hpost⟩ := C
  simp only [aCpy] at ha
  split at ha
  · rename_i n dp b sp a r
    split at ha
    · rename_i na nb hca hcb hw
      obtain ⟨h0, h1, h2, h3, h4, h5, h6⟩ := ha
      obtain ⟨ra, hsa⟩ := am_arr_spec hca
      obtain ⟨rb, hsb⟩ := am_arr_spec hcb
      have hwt := Nat.ble_eq.mp hw
      intro H locs ls hP hS hls
      have hnat : nativeFrameWords "java/lang/System" "arraycopy" 5 = 7 := by decide
      refine va_copyi hx hb (by rw [hml]; exact hls.2.1.symm) hown (hts _ hl) (hts _ hn) (hts _ hst) (hts _ hi) hKn hP (am_wd_D hinj I w) hS a b 0 0 (am_wd_get E I w hsa) (am_wd_get E I w hsb) rfl rfl rfl h1 h2 h3 h4 h5 (fun i _ => rfl) (by omega) (by rw [hnat, am_wt_eq]; omega) hd (fun H1 locs1 hP1 _ hS1 => ?_)
      have e1 : (Sum.inl (E.2.2.2 0, nb, .inl (va_cpy (I a) (I b) sp.toNatClampNeg dp.toNatClampNeg n.toNatClampNeg)) : va_E) = am_ce E (am_cpI I a b sp.toNatClampNeg dp.toNatClampNeg n.toNatClampNeg b) w (0, nb, rb) := by rw [am_cpI_self]; rfl
      have e2 := am_wd_set (E := E) (I := I) (I' := am_cpI I a b sp.toNatClampNeg dp.toNatClampNeg n.toNatClampNeg) (w := w) (w' := w) hsb (fun i s' hi _ => by rw [am_cpI_ne hi])
      rw [e1, e2] at hP1
      exact hK _ _ _ _ h6 H1 locs1 ls hP1 hS1 hls
    · exact ha.elim
  · exact ha.elim
def aMx (k : Nat) : am_A := fun K _ _ f st I w => match st with
  | .int y :: .int x :: r => (match Nat.ble (am_wt r) 8 with
    | true => 0 < k ∧ K f (.int (if x < y then y else x) :: r) I w
    | _ => False)
  | _ => False
theorem v_max {idx : Nat} (hl : Cond.methodLink own idx Lib.Math.max.name ∈ am_T) (hst : Cond.static Lib.Math.max.name ∈ am_T) (hi : Cond.initialized "java/lang/Math" ∈ am_T) (hc : Cond.code Lib.Math.max.name Lib.Math.max.code 2 (some .int) ∈ am_T) (hd : decode cc pc = .ok (.invokestatic idx, 3)) : am_V E k cc nL own pc 3 (aMx k) := by
  intro p l e R s m args below meth c Q nc ns post C K J f st I w ha hK hJ
  obtain ⟨⟨hx, hb, hml, hown, hts⟩, ⟨hKn, hFx, hinj, hle⟩, ⟨hR1, hR2, hR3, hR4⟩, hpost⟩ := C
  simp only [aMx] at ha
  split at ha
  · rename_i y x r
    split at ha
    · rename_i hw
      have hwt := Nat.ble_eq.mp hw
      intro H locs ls hP hS hls
      exact va_mmax hx hb (by rw [hml]; exact hls.2.1.symm) hown (hts _ hl) (hts _ hst) (hts _ hi) (hts _ hc) (by omega) (by rw [am_wt_eq]; omega) hR3 hR4 hd (hK _ _ _ _ ha.2 H locs ls hP hS hls)
    · exact ha.elim
  · exact ha.elim
def aMn (k : Nat) : am_A := fun K _ _ f st I w => match st with
  | .int y :: .int x :: r => (match Nat.ble (am_wt r) 8 with
    | true => 0 < k ∧ K f (.int (if y < x then y else x) :: r) I w
    | _ => False)
  | _ => False
theorem v_min {idx : Nat} (hl : Cond.methodLink own idx Lib.Math.min.name ∈ am_T) (hst : Cond.static Lib.Math.min.name ∈ am_T) (hi : Cond.initialized "java/lang/Math" ∈ am_T) (hc : Cond.code Lib.Math.min.name Lib.Math.min.code 2 (some .int) ∈ am_T) (hd : decode cc pc = .ok (.invokestatic idx, 3)) : am_V E k cc nL own pc 3 (aMn k) := by
  intro p l e R s m args below meth c Q nc ns post C K J f st I w ha hK hJ
  obtain ⟨⟨hx, hb, hml, hown, hts⟩, ⟨hKn, hFx, hinj, hle⟩, ⟨hR1, hR2, hR3, hR4⟩, hpost⟩ := C
  simp only [aMn] at ha
  split at ha
  · rename_i y x r
    split at ha
    · rename_i hw
      have hwt := Nat.ble_eq.mp hw
      intro H locs ls hP hS hls
      exact va_mmin hx hb (by rw [hml]; exact hls.2.1.symm) hown (hts _ hl) (hts _ hst) (hts _ hi) (hts _ hc) (by omega) (by rw [am_wt_eq]; omega) hR3 hR4 hd (hK _ _ _ _ ha.2 H locs ls hP hS hls)
    · exact ha.elim
  · exact ha.elim
theorem am_Ret.mono {E : am_E} {k k' : Nat} {Y : am_Y} {av : List Value} {I I' : am_I} {w w' : Int64} {r : Option Value} (h : am_Ret E k Y av I w r I' w') : am_Ret E k Y av I w r I' w' := h
end CALLS
end
section
/-! String constants: names 130 .. 140, their bytes 150 .. 160 -/
section STRINGS
variable {E : am_E} {k : Nat} {cc : ByteArray} {nL : Nat} {own : String} {pc : Nat}
theorem v_ldcS {i : Nat} (hi : i < 11) (hd : decode cc pc = .ok (.ldc (am_tx.getD i (0, "")).1, 2)) : am_V E k cc nL "TwoCamps$TextReader" pc 2 (aGs (130 + i)) := by
  intro p l e R s m args below meth c Q nc ns post C K J f st I w ha hK hJ
  obtain ⟨⟨hx, hb, hml, hown, hts⟩, ⟨hKn, hFx, hinj, hl⟩, ⟨hR1, hR2, hR3, hR4⟩, hpost⟩ := C
  exact fun H locs ls hP hS hls => va_ldcS hx hb hown (hFx.2.2.2.2.1 i hi) hd (hK _ _ _ _ ha H locs ls hP hS hls)
/-- an act that never comes -/
def aNo : am_A := fun _ _ _ _ _ _ _ => False
theorem v_no {len : Nat} : am_V E k cc nL own pc len aNo := by
  intro p l e R s m args below meth c Q nc ns post C K J f st I w ha hK hJ
  exact ha.elim
def aSval : am_A := fun K _ _ f st I w => match st with
  | .ref o :: r => ∃ i, i < 11 ∧ o = 130 + i ∧ K f (.ref (150 + i) :: r) I w
  | _ => False
theorem v_sval {idx : Nat} (hw : Cond.fieldLink own idx "java/lang/String" "value" "[B" ∈ am_T) (hd : decode cc pc = .ok (.getfield idx, 3)) : am_V E k cc nL own pc 3 aSval := by
  intro p l e R s m args below meth c Q nc ns post C K J f st I w ha hK hJ
  obtain ⟨⟨hx, hb, hml, hown, hts⟩, ⟨hKn, hFx, hinj, hl⟩, ⟨hR1, hR2, hR3, hR4⟩, hpost⟩ := C
  simp only [aSval] at ha
  split at ha
  · rename_i o r
    obtain ⟨i, hi, rfl, hk⟩ := ha
    exact fun H locs ls hP hS hls => vk_getf hx hb (hFx.2.2.2.1.1 i hi).2.2.1 hS hown (hts _ hw) (fun _ h => h) hd (hK _ _ _ _ hk H locs ls hP hS hls)
  · exact ha.elim
def aScod : am_A := fun K _ _ f st I w => match st with
  | .ref o :: r => ∃ i, i < 11 ∧ o = 130 + i ∧ K f (.int 0 :: r) I w
  | _ => False
theorem v_scod {idx : Nat} (hw : Cond.fieldLink own idx "java/lang/String" "coder" "B" ∈ am_T) (hd : decode cc pc = .ok (.getfield idx, 3)) : am_V E k cc nL own pc 3 aScod := by
  intro p l e R s m args below meth c Q nc ns post C K J f st I w ha hK hJ
  obtain ⟨⟨hx, hb, hml, hown, hts⟩, ⟨hKn, hFx, hinj, hl⟩, ⟨hR1, hR2, hR3, hR4⟩, hpost⟩ := C
  simp only [aScod] at ha
  split at ha
  · rename_i o r
    obtain ⟨i, hi, rfl, hk⟩ := ha
    exact fun H locs ls hP hS hls => vk_getf hx hb (hFx.2.2.2.1.1 i hi).2.1 hS hown (hts _ hw) (fun _ h => h) hd (hK _ _ _ _ hk H locs ls hP hS hls)
  · exact ha.elim
def aSlen : am_A := fun K _ _ f st I w => match st with
  | .ref o :: r => ∃ i, i < 11 ∧ o = 150 + i ∧ K f (.int (nI (am_tl.getD i 0)) :: r) I w
  | _ => False
theorem v_slen (hd : decode cc pc = .ok (.arraylength, 1)) : am_V E k cc nL own pc 1 aSlen := by
  intro p l e R s m args below meth c Q nc ns post C K J f st I w ha hK hJ
  obtain ⟨⟨hx, hb, hml, hown, hts⟩, ⟨hKn, hFx, hinj, hl⟩, ⟨hR1, hR2, hR3, hR4⟩, hpost⟩ := C
  simp only [aSlen] at ha
  split at ha
  · rename_i o r
    obtain ⟨i, hi, rfl, hk⟩ := ha
    exact fun H locs ls hP hS hls => va_tlen hx hb (hFx.2.2.2.1.1 i hi).2.2.2 hS (v := nI (am_tl.getD i 0)) rfl hd (hK _ _ _ _ hk H locs ls hP hS hls)
  · exact ha.elim
def aSbald : am_A := fun K _ _ f st I w => match st with
  | .int j :: .ref o :: r => ∃ i, i < 11 ∧ o = 150 + i ∧ vp_in j (am_tl.getD i 0) ∧ K f (.int ((am_tb.getD i []).getD j.toNatClampNeg 0) :: r) I w
  | _ => False
theorem v_sbald (hd : decode cc pc = .ok (.baload, 1)) : am_V E k cc nL own pc 1 aSbald := by
  intro p l e R s m args below meth c Q nc ns post C K J f st I w ha hK hJ
  obtain ⟨⟨hx, hb, hml, hown, hts⟩, ⟨hKn, hFx, hinj, hl⟩, ⟨hR1, hR2, hR3, hR4⟩, hpost⟩ := C
  simp only [aSbald] at ha
  split at ha
  · rename_i j o r
    obtain ⟨i, hi, rfl, hj, hk⟩ := ha
    exact fun H locs ls hP hS hls => va_tb hx hb (hFx.2.2.2.1.1 i hi).2.2.2 hS hj rfl hd (hK _ _ _ _ hk H locs ls hP hS hls)
  · exact ha.elim
theorem v_scs {idx : Nat} (hw : Cond.fieldLink own idx "java/lang/String" "COMPACT_STRINGS" "Z" ∈ am_T) (hd : decode cc pc = .ok (.getstatic idx, 3)) : am_V E k cc nL own pc 3 (aI 1) := by
  intro p l e R s m args below meth c Q nc ns post C K J f st I w ha hK hJ
  obtain ⟨⟨hx, hb, hml, hown, hts⟩, ⟨hKn, hFx, hinj, hl⟩, ⟨hR1, hR2, hR3, hR4⟩, hpost⟩ := C
  exact fun H locs ls hP hS hls => va_gets hx hb hFx.2.2.1.1 hS hown (hts _ hw) (fun _ h => h) hd (hK _ _ _ _ ha H locs ls hP hS hls)
def aFmt : am_A := fun K _ _ f st I w => K f (.null :: st) I w ∧ K f (.ref 171 :: st) I w
theorem v_fmt {idx : Nat} (hw : Cond.fieldLink own idx "jdk/internal/util/Preconditions" "SIOOBE_FORMATTER" "Ljava/util/function/BiFunction;" ∈ am_T) (hd : decode cc pc = .ok (.getstatic idx, 3)) : am_V E k cc nL own pc 3 aFmt := by
  intro p l e R s m args below meth c Q nc ns post C K J f st I w ha hK hJ
  obtain ⟨⟨hx, hb, hml, hown, hts⟩, ⟨hKn, hFx, hinj, hl⟩, ⟨hR1, hR2, hR3, hR4⟩, hpost⟩ := C
  intro H locs ls hP hS hls
  rcases hFx.2.2.1.2 with h | h
  · exact va_gets hx hb h hS hown (hts _ hw) (fun _ h => h) hd (hK _ _ _ _ ha.1 H locs ls hP hS hls)
  · exact va_gets hx hb h hS hown (hts _ hw) (fun _ h => h) hd (hK _ _ _ _ ha.2 H locs ls hP hS hls)
/-- a call of a String's method -/
def aIvs (E : am_E) (k n : Nat) (Y : am_Y) : am_A := fun K _ _ f st I w => match am_pop (n + 1) [] st with
  | some (.ref o :: av, st') => (match Nat.ble (am_wt st') 8 with
    | true => ∃ i, i < 11 ∧ o = 130 + i ∧ ∃ (k' : Nat) (r : Option Value) (I' : am_I) (w' : Int64), k' < k ∧ am_Ret E k' Y (.ref o :: av) I w r I' w' ∧ K f (am_ps r st') I' w'
    | _ => False)
  | _ => False
theorem v_virtS {n idx : Nat} {Y : am_Y} (hY : am_yV Y n) (hcl : Y.1.cls = "java/lang/String") (hl : Cond.methodLink own idx Y.1 ∈ am_T) (hd : decode cc pc = .ok (.invokevirtual idx, 3)) : am_V E k cc nL own pc 3 (aIvs E k n Y) := by
  intro p l e R s m args below meth c Q nc ns post C K J f st I w ha hK hJ
  have C0 := C
  obtain ⟨⟨hx, hb, hml, hown, hts⟩, ⟨hKn, hFx, hinj, hle⟩, ⟨hR1, hR2, hR3, hR4⟩, hpost⟩ := C
  subst hle
  simp only [aIvs] at ha
  split at ha
  · rename_i o av st' hp
    split at ha
    · rename_i hw
      obtain ⟨i, hi, rfl, k', r, I', w', hk', hM, hk⟩ := ha
      obtain ⟨xs, g1, g2, g3⟩ := am_pop_spec _ _ _ _ hp
      simp only [List.append_nil] at g2 g3
      subst g2
      intro H locs ls hP hS hls
      have hst : st.map (am_rz E.2.1) = (av.map (am_rz E.2.1)).reverse ++ .ref (E.2.1 (130 + i)) :: st'.map (am_rz E.2.1) := by
        rw [g3]
        simp [am_rz]
      have hlen : (av.map (am_rz E.2.1)).length = n := by
        rw [List.length_map]
        simp at g1
        exact g1
      have hrecv := vk_recv hFx.2.2.2.1 hi hS
      rw [← hcl] at hrecv
      obtain ⟨hB, hins, hsel⟩ := hY
      have hwt := Nat.ble_eq.mp hw
      refine am_back (va_runV (Ts := am_T) (own := own) (C := Y.1.cls) (b := E.2.1 (130 + i)) (As := av.map (am_rz E.2.1)) (rest := st'.map (am_rz E.2.1)) ⟨hx, hb, hml, hown, hts⟩ hM
        (cwV n hts (tb_goodIn (fun w hw => ?_)) rfl rfl rfl ⟨rfl, hB.2.2.1⟩ ⟨?_, ?_⟩) ⟨am_Pc_blind _ _ _ _, hrecv, am_pre C0 hP hS (.ref (130 + i) :: av)⟩ rfl hlen hls.2.1 hst (lv_room ?_) hd ⟨hR3, hR4⟩) hS
        (fun H1 locs1 hP1 hS1 => ?_)
      · unfold wsV at hw
        rcases List.mem_append.mp hw with h | h
        · simp only [List.mem_cons, List.not_mem_nil, or_false] at h
          rcases h with e | e | e | e
          · rw [e]; exact hl
          · rw [e]; exact hins
          · rw [e]; exact hsel
          · rw [e]; exact hB.1
        · exact hB.ws w h
      · show k' + 1 ≤ R.frames
        omega
      · have := hB.2.2.2
        show 8 + (Y.2.2.1 + 11) + (100 * k' + 100) ≤ R.locals
        omega
      · rw [am_wt_eq]; exact hwt
      · have := hK _ _ _ _ hk H1 locs1 ls hP1 hS1 hls
        rw [am_ps_map] at this
        exact this
    · exact ha.elim
  · exact ha.elim
end STRINGS
end
section
def Y_TC_init : am_Y := (⟨"TwoCamps", "<init>", "()V"⟩, prog_1_method_1_code, 2, none)
def Y_People_init : am_Y := (⟨"TwoCamps$People", "<init>", "()V"⟩, prog_7_method_1_code, 1, none)
def Y_Feelings_init : am_Y := (⟨"TwoCamps$Feelings", "<init>", "()V"⟩, prog_4_method_1_code, 1, none)
def Y_Arr_fill : am_Y := (⟨"java/util/Arrays", "fill", "([II)V"⟩, prog_21_method_103_code, 4, none)
theorem ys_Arr_fill : am_yS Y_Arr_fill 2 := ⟨⟨(tb1 4 (by decide +kernel) rfl), (tb1 63 (by decide +kernel) rfl), ⟨by decide +kernel, by decide +kernel, by decide +kernel⟩, by decide +kernel⟩, (tb1 62 (by decide +kernel) rfl)⟩
def Y_Tape_init : am_Y := (⟨"TwoCamps$Tape", "<init>", "()V"⟩, prog_10_method_1_code, 1, none)
def Y_Law_init : am_Y := (⟨"TwoCamps$Law", "<init>", "(LTwoCamps$Feelings;)V"⟩, prog_5_method_1_code, 3, none)
def Y_Text_init : am_Y := (⟨"TwoCamps$Text", "<init>", "()V"⟩, prog_11_method_1_code, 1, none)
def Y_Text_add : am_Y := (⟨"TwoCamps$Text", "add", "(I)V"⟩, prog_11_method_4_code, 2, none)
theorem yv_Text_add : am_yV Y_Text_add 1 := ⟨⟨(tb1 7 (by decide +kernel) rfl), (tb1 153 (by decide +kernel) rfl), ⟨by decide +kernel, by decide +kernel, by decide +kernel⟩, by decide +kernel⟩, (tb1 151 (by decide +kernel) rfl), (tb1 152 (by decide +kernel) rfl)⟩
def Y_Text_endCost : am_Y := (⟨"TwoCamps$Text", "endCost", "()V"⟩, prog_11_method_5_code, 1, none)
theorem yv_Text_endCost : am_yV Y_Text_endCost 0 := ⟨⟨(tb1 7 (by decide +kernel) rfl), (tb1 157 (by decide +kernel) rfl), ⟨by decide +kernel, by decide +kernel, by decide +kernel⟩, by decide +kernel⟩, (tb1 155 (by decide +kernel) rfl), (tb1 156 (by decide +kernel) rfl)⟩
def Y_TextReader_init : am_Y := (⟨"TwoCamps$TextReader", "<init>", "(LTwoCamps$Tape;)V"⟩, prog_12_method_1_code, 2, none)
def Y_StreetReader_init : am_Y := (⟨"TwoCamps$StreetReader", "<init>", "(LTwoCamps$Tape;LTwoCamps$People;LTwoCamps$Feelings;)V"⟩, prog_9_method_1_code, 4, none)
def Y_Camping_init : am_Y := (⟨"TwoCamps$Camping", "<init>", "(LTwoCamps$People;LTwoCamps$Feelings;LTwoCamps$Law;)V"⟩, prog_3_method_1_code, 4, none)
def Y_Net_init : am_Y := (⟨"TwoCamps$Net", "<init>", "(LTwoCamps$People;LTwoCamps$Feelings;)V"⟩, prog_6_method_1_code, 3, none)
def Y_Best_init : am_Y := (⟨"TwoCamps$Best", "<init>", "(LTwoCamps$People;LTwoCamps$Feelings;LTwoCamps$Law;)V"⟩, prog_2_method_1_code, 4, none)
def Y_Sheet_init : am_Y := (⟨"TwoCamps$Sheet", "<init>", "()V"⟩, prog_8_method_1_code, 1, none)
def Y_TC_person : am_Y := (⟨"TwoCamps", "person", "(I)I"⟩, prog_1_method_2_code, 2, some .int)
theorem yv_TC_person : am_yV Y_TC_person 1 := ⟨⟨(tb1 1 (by decide +kernel) rfl), (tb2 184 (by decide +kernel) rfl), ⟨by decide +kernel, by decide +kernel, by decide +kernel⟩, by decide +kernel⟩, (tb2 182 (by decide +kernel) rfl), (tb2 183 (by decide +kernel) rfl)⟩
def Y_TC_isPrice : am_Y := (⟨"TwoCamps", "isPrice", "(I)Z"⟩, prog_1_method_7_code, 1, some .boolean)
theorem ys_TC_isPrice : am_yS Y_TC_isPrice 1 := ⟨⟨(tb1 1 (by decide +kernel) rfl), (tb2 187 (by decide +kernel) rfl), ⟨by decide +kernel, by decide +kernel, by decide +kernel⟩, by decide +kernel⟩, (tb2 186 (by decide +kernel) rfl)⟩
def Y_People_add : am_Y := (⟨"TwoCamps$People", "add", "(I)I"⟩, prog_7_method_4_code, 2, some .int)
theorem yv_People_add : am_yV Y_People_add 1 := ⟨⟨(tb1 2 (by decide +kernel) rfl), (tb2 191 (by decide +kernel) rfl), ⟨by decide +kernel, by decide +kernel, by decide +kernel⟩, by decide +kernel⟩, (tb2 189 (by decide +kernel) rfl), (tb2 190 (by decide +kernel) rfl)⟩
def Y_TC_set : am_Y := (⟨"TwoCamps", "set", "(III)I"⟩, prog_1_method_3_code, 5, some .int)
theorem yv_TC_set : am_yV Y_TC_set 3 := ⟨⟨(tb1 1 (by decide +kernel) rfl), (tb2 195 (by decide +kernel) rfl), ⟨by decide +kernel, by decide +kernel, by decide +kernel⟩, by decide +kernel⟩, (tb2 193 (by decide +kernel) rfl), (tb2 194 (by decide +kernel) rfl)⟩
def Y_People_has : am_Y := (⟨"TwoCamps$People", "has", "(I)Z"⟩, prog_7_method_2_code, 2, some .boolean)
theorem yv_People_has : am_yV Y_People_has 1 := ⟨⟨(tb1 2 (by decide +kernel) rfl), (tb2 199 (by decide +kernel) rfl), ⟨by decide +kernel, by decide +kernel, by decide +kernel⟩, by decide +kernel⟩, (tb2 197 (by decide +kernel) rfl), (tb2 198 (by decide +kernel) rfl)⟩
def Y_TC_feel : am_Y := (⟨"TwoCamps", "feel", "(IIIII)I"⟩, prog_1_method_4_code, 6, some .int)
theorem yv_TC_feel : am_yV Y_TC_feel 5 := ⟨⟨(tb1 1 (by decide +kernel) rfl), (tb2 203 (by decide +kernel) rfl), ⟨by decide +kernel, by decide +kernel, by decide +kernel⟩, by decide +kernel⟩, (tb2 201 (by decide +kernel) rfl), (tb2 202 (by decide +kernel) rfl)⟩
def Y_People_hasTwo : am_Y := (⟨"TwoCamps$People", "hasTwo", "(II)Z"⟩, prog_7_method_3_code, 3, some .boolean)
theorem yv_People_hasTwo : am_yV Y_People_hasTwo 2 := ⟨⟨(tb1 2 (by decide +kernel) rfl), (tb2 207 (by decide +kernel) rfl), ⟨by decide +kernel, by decide +kernel, by decide +kernel⟩, by decide +kernel⟩, (tb2 205 (by decide +kernel) rfl), (tb2 206 (by decide +kernel) rfl)⟩
def Y_Feelings_tell : am_Y := (⟨"TwoCamps$Feelings", "tell", "(IIIII)I"⟩, prog_4_method_4_code, 7, some .int)
theorem yv_Feelings_tell : am_yV Y_Feelings_tell 5 := ⟨⟨(tb1 3 (by decide +kernel) rfl), (tb2 212 (by decide +kernel) rfl), ⟨by decide +kernel, by decide +kernel, by decide +kernel⟩, by decide +kernel⟩, (tb2 210 (by decide +kernel) rfl), (tb2 211 (by decide +kernel) rfl)⟩
def Y_Feelings_find : am_Y := (⟨"TwoCamps$Feelings", "find", "(II)I"⟩, prog_4_method_3_code, 3, some .int)
theorem yv_Feelings_find : am_yV Y_Feelings_find 2 := ⟨⟨(tb1 3 (by decide +kernel) rfl), (tb2 216 (by decide +kernel) rfl), ⟨by decide +kernel, by decide +kernel, by decide +kernel⟩, by decide +kernel⟩, (tb2 214 (by decide +kernel) rfl), (tb2 215 (by decide +kernel) rfl)⟩
def Y_TC_felt : am_Y := (⟨"TwoCamps", "felt", "(II)I"⟩, prog_1_method_5_code, 3, some .int)
theorem yv_TC_felt : am_yV Y_TC_felt 2 := ⟨⟨(tb1 1 (by decide +kernel) rfl), (tb2 226 (by decide +kernel) rfl), ⟨by decide +kernel, by decide +kernel, by decide +kernel⟩, by decide +kernel⟩, (tb2 224 (by decide +kernel) rfl), (tb2 225 (by decide +kernel) rfl)⟩
def Y_Feelings_has : am_Y := (⟨"TwoCamps$Feelings", "has", "(I)Z"⟩, prog_4_method_2_code, 2, some .boolean)
theorem yv_Feelings_has : am_yV Y_Feelings_has 1 := ⟨⟨(tb1 3 (by decide +kernel) rfl), (tb2 230 (by decide +kernel) rfl), ⟨by decide +kernel, by decide +kernel, by decide +kernel⟩, by decide +kernel⟩, (tb2 228 (by decide +kernel) rfl), (tb2 229 (by decide +kernel) rfl)⟩
def Y_Law_costOf : am_Y := (⟨"TwoCamps$Law", "costOf", "(I)I"⟩, prog_5_method_4_code, 4, some .int)
theorem yv_Law_costOf : am_yV Y_Law_costOf 1 := ⟨⟨(tb1 6 (by decide +kernel) rfl), (tb2 234 (by decide +kernel) rfl), ⟨by decide +kernel, by decide +kernel, by decide +kernel⟩, by decide +kernel⟩, (tb2 232 (by decide +kernel) rfl), (tb2 233 (by decide +kernel) rfl)⟩
def Y_Law_run : am_Y := (⟨"TwoCamps$Law", "run", "([IIII)I"⟩, prog_5_method_6_code, 6, some .int)
theorem yv_Law_run : am_yV Y_Law_run 4 := ⟨⟨(tb1 6 (by decide +kernel) rfl), (tb2 238 (by decide +kernel) rfl), ⟨by decide +kernel, by decide +kernel, by decide +kernel⟩, by decide +kernel⟩, (tb2 237 (by decide +kernel) rfl), (tb_sel (y := ⟨"TwoCamps$Law", "run", "([IIII)I"⟩) (n := 8) 0 (by decide +kernel))⟩
def Y_Law_runOne : am_Y := (⟨"TwoCamps$Law", "runOne", "(II)V"⟩, prog_5_method_7_code, 4, none)
theorem yv_Law_runOne : am_yV Y_Law_runOne 2 := ⟨⟨(tb1 6 (by decide +kernel) rfl), (tb3 2 (by decide +kernel) rfl), ⟨by decide +kernel, by decide +kernel, by decide +kernel⟩, by decide +kernel⟩, (tb3 1 (by decide +kernel) rfl), (tb_sel (y := ⟨"TwoCamps$Law", "runOne", "(II)V"⟩) (n := 8) 1 (by decide +kernel))⟩
def Y_Law_push : am_Y := (⟨"TwoCamps$Law", "push", "(I)V"⟩, prog_5_method_10_code, 2, none)
theorem yv_Law_push : am_yV Y_Law_push 1 := ⟨⟨(tb1 6 (by decide +kernel) rfl), (tb3 6 (by decide +kernel) rfl), ⟨by decide +kernel, by decide +kernel, by decide +kernel⟩, by decide +kernel⟩, (tb3 5 (by decide +kernel) rfl), (tb_sel (y := ⟨"TwoCamps$Law", "push", "(I)V"⟩) (n := 8) 2 (by decide +kernel))⟩
def Y_Text_isName : am_Y := (⟨"TwoCamps$Text", "isName", "(I)Z"⟩, prog_11_method_6_code, 1, some .boolean)
theorem ys_Text_isName : am_yS Y_Text_isName 1 := ⟨⟨(tb1 7 (by decide +kernel) rfl), (tb3 9 (by decide +kernel) rfl), ⟨by decide +kernel, by decide +kernel, by decide +kernel⟩, by decide +kernel⟩, (tb3 8 (by decide +kernel) rfl)⟩
def Y_Law_named : am_Y := (⟨"TwoCamps$Law", "named", "(II)I"⟩, prog_5_method_8_code, 3, some .int)
theorem yv_Law_named : am_yV Y_Law_named 2 := ⟨⟨(tb1 6 (by decide +kernel) rfl), (tb3 13 (by decide +kernel) rfl), ⟨by decide +kernel, by decide +kernel, by decide +kernel⟩, by decide +kernel⟩, (tb3 12 (by decide +kernel) rfl), (tb_sel (y := ⟨"TwoCamps$Law", "named", "(II)I"⟩) (n := 8) 3 (by decide +kernel))⟩
def Y_Law_pop : am_Y := (⟨"TwoCamps$Law", "pop", "()I"⟩, prog_5_method_11_code, 1, some .int)
theorem yv_Law_pop : am_yV Y_Law_pop 0 := ⟨⟨(tb1 6 (by decide +kernel) rfl), (tb3 17 (by decide +kernel) rfl), ⟨by decide +kernel, by decide +kernel, by decide +kernel⟩, by decide +kernel⟩, (tb3 16 (by decide +kernel) rfl), (tb_sel (y := ⟨"TwoCamps$Law", "pop", "()I"⟩) (n := 8) 4 (by decide +kernel))⟩
def Y_Law_joined : am_Y := (⟨"TwoCamps$Law", "joined", "(III)I"⟩, prog_5_method_9_code, 3, some .int)
theorem ys_Law_joined : am_yS Y_Law_joined 3 := ⟨⟨(tb1 6 (by decide +kernel) rfl), (tb3 20 (by decide +kernel) rfl), ⟨by decide +kernel, by decide +kernel, by decide +kernel⟩, by decide +kernel⟩, (tb3 19 (by decide +kernel) rfl)⟩
def Y_Law_canBeWrong : am_Y := (⟨"TwoCamps$Law", "canBeWrong", "(I)Z"⟩, prog_5_method_5_code, 3, some .boolean)
theorem yv_Law_canBeWrong : am_yV Y_Law_canBeWrong 1 := ⟨⟨(tb1 6 (by decide +kernel) rfl), (tb3 26 (by decide +kernel) rfl), ⟨by decide +kernel, by decide +kernel, by decide +kernel⟩, by decide +kernel⟩, (tb3 24 (by decide +kernel) rfl), (tb3 25 (by decide +kernel) rfl)⟩
def Y_Feelings_badThreesWith : am_Y := (⟨"TwoCamps$Feelings", "badThreesWith", "(I)I"⟩, prog_4_method_9_code, 6, some .int)
theorem yv_Feelings_badThreesWith : am_yV Y_Feelings_badThreesWith 1 := ⟨⟨(tb1 3 (by decide +kernel) rfl), (tb3 30 (by decide +kernel) rfl), ⟨by decide +kernel, by decide +kernel, by decide +kernel⟩, by decide +kernel⟩, (tb3 28 (by decide +kernel) rfl), (tb3 29 (by decide +kernel) rfl)⟩
def Y_TC_between : am_Y := (⟨"TwoCamps", "between", "(II)I"⟩, prog_1_method_6_code, 3, some .int)
theorem yv_TC_between : am_yV Y_TC_between 2 := ⟨⟨(tb1 1 (by decide +kernel) rfl), (tb3 34 (by decide +kernel) rfl), ⟨by decide +kernel, by decide +kernel, by decide +kernel⟩, by decide +kernel⟩, (tb3 32 (by decide +kernel) rfl), (tb3 33 (by decide +kernel) rfl)⟩
def Y_TC_feed : am_Y := (⟨"TwoCamps", "feed", "(IJ)I"⟩, prog_1_method_8_code, 5, some .int)
theorem yv_TC_feed : am_yV Y_TC_feed 2 := ⟨⟨(tb1 1 (by decide +kernel) rfl), (tb3 39 (by decide +kernel) rfl), ⟨by decide +kernel, by decide +kernel, by decide +kernel⟩, by decide +kernel⟩, (tb3 37 (by decide +kernel) rfl), (tb3 38 (by decide +kernel) rfl)⟩
def Y_Tape_add : am_Y := (⟨"TwoCamps$Tape", "add", "(I)V"⟩, prog_10_method_2_code, 2, none)
theorem yv_Tape_add : am_yV Y_Tape_add 1 := ⟨⟨(tb1 5 (by decide +kernel) rfl), (tb3 43 (by decide +kernel) rfl), ⟨by decide +kernel, by decide +kernel, by decide +kernel⟩, by decide +kernel⟩, (tb3 41 (by decide +kernel) rfl), (tb3 42 (by decide +kernel) rfl)⟩
def Y_TC_street : am_Y := (⟨"TwoCamps", "street", "()I"⟩, prog_1_method_9_code, 2, some .int)
theorem yv_TC_street : am_yV Y_TC_street 0 := ⟨⟨(tb1 1 (by decide +kernel) rfl), (tb3 47 (by decide +kernel) rfl), ⟨by decide +kernel, by decide +kernel, by decide +kernel⟩, by decide +kernel⟩, (tb3 45 (by decide +kernel) rfl), (tb3 46 (by decide +kernel) rfl)⟩
def Y_StreetReader_isStreet : am_Y := (⟨"TwoCamps$StreetReader", "isStreet", "()Z"⟩, prog_9_method_2_code, 2, some .boolean)
theorem yv_StreetReader_isStreet : am_yV Y_StreetReader_isStreet 0 := ⟨⟨(tb1 9 (by decide +kernel) rfl), (tb3 51 (by decide +kernel) rfl), ⟨by decide +kernel, by decide +kernel, by decide +kernel⟩, by decide +kernel⟩, (tb3 49 (by decide +kernel) rfl), (tb3 50 (by decide +kernel) rfl)⟩
def Y_StreetReader_readLine : am_Y := (⟨"TwoCamps$StreetReader", "readLine", "()Z"⟩, prog_9_method_4_code, 1, some .boolean)
theorem yv_StreetReader_readLine : am_yV Y_StreetReader_readLine 0 := ⟨⟨(tb1 9 (by decide +kernel) rfl), (tb3 55 (by decide +kernel) rfl), ⟨by decide +kernel, by decide +kernel, by decide +kernel⟩, by decide +kernel⟩, (tb3 54 (by decide +kernel) rfl), (tb_sel (y := ⟨"TwoCamps$StreetReader", "readLine", "()Z"⟩) (n := 9) 5 (by decide +kernel))⟩
def Y_StreetReader_readPerson : am_Y := (⟨"TwoCamps$StreetReader", "readPerson", "(I)I"⟩, prog_9_method_5_code, 3, some .int)
theorem yv_StreetReader_readPerson : am_yV Y_StreetReader_readPerson 1 := ⟨⟨(tb1 9 (by decide +kernel) rfl), (tb3 59 (by decide +kernel) rfl), ⟨by decide +kernel, by decide +kernel, by decide +kernel⟩, by decide +kernel⟩, (tb3 58 (by decide +kernel) rfl), (tb_sel (y := ⟨"TwoCamps$StreetReader", "readPerson", "(I)I"⟩) (n := 9) 6 (by decide +kernel))⟩
def Y_Tape_at : am_Y := (⟨"TwoCamps$Tape", "at", "(I)I"⟩, prog_10_method_3_code, 2, some .int)
theorem yv_Tape_at : am_yV Y_Tape_at 1 := ⟨⟨(tb1 5 (by decide +kernel) rfl), (tb3 63 (by decide +kernel) rfl), ⟨by decide +kernel, by decide +kernel, by decide +kernel⟩, by decide +kernel⟩, (tb3 61 (by decide +kernel) rfl), (tb3 62 (by decide +kernel) rfl)⟩
def Y_StreetReader_readSign : am_Y := (⟨"TwoCamps$StreetReader", "readSign", "()Z"⟩, prog_9_method_6_code, 1, some .boolean)
theorem yv_StreetReader_readSign : am_yV Y_StreetReader_readSign 0 := ⟨⟨(tb1 9 (by decide +kernel) rfl), (tb3 68 (by decide +kernel) rfl), ⟨by decide +kernel, by decide +kernel, by decide +kernel⟩, by decide +kernel⟩, (tb3 67 (by decide +kernel) rfl), (tb_sel (y := ⟨"TwoCamps$StreetReader", "readSign", "()Z"⟩) (n := 9) 7 (by decide +kernel))⟩
def Y_StreetReader_skip : am_Y := (⟨"TwoCamps$StreetReader", "skip", "(I)Z"⟩, prog_9_method_9_code, 2, some .boolean)
theorem yv_StreetReader_skip : am_yV Y_StreetReader_skip 1 := ⟨⟨(tb1 9 (by decide +kernel) rfl), (tb3 72 (by decide +kernel) rfl), ⟨by decide +kernel, by decide +kernel, by decide +kernel⟩, by decide +kernel⟩, (tb3 71 (by decide +kernel) rfl), (tb_sel (y := ⟨"TwoCamps$StreetReader", "skip", "(I)Z"⟩) (n := 9) 8 (by decide +kernel))⟩
def Y_StreetReader_readStrength : am_Y := (⟨"TwoCamps$StreetReader", "readStrength", "()Z"⟩, prog_9_method_7_code, 2, some .boolean)
theorem yv_StreetReader_readStrength : am_yV Y_StreetReader_readStrength 0 := ⟨⟨(tb1 9 (by decide +kernel) rfl), (tb3 76 (by decide +kernel) rfl), ⟨by decide +kernel, by decide +kernel, by decide +kernel⟩, by decide +kernel⟩, (tb3 75 (by decide +kernel) rfl), (tb_sel (y := ⟨"TwoCamps$StreetReader", "readStrength", "()Z"⟩) (n := 9) 9 (by decide +kernel))⟩
def Y_Tape_digitAt : am_Y := (⟨"TwoCamps$Tape", "digitAt", "(I)I"⟩, prog_10_method_4_code, 3, some .int)
theorem yv_Tape_digitAt : am_yV Y_Tape_digitAt 1 := ⟨⟨(tb1 5 (by decide +kernel) rfl), (tb3 80 (by decide +kernel) rfl), ⟨by decide +kernel, by decide +kernel, by decide +kernel⟩, by decide +kernel⟩, (tb3 78 (by decide +kernel) rfl), (tb3 79 (by decide +kernel) rfl)⟩
def Y_StreetReader_readKind : am_Y := (⟨"TwoCamps$StreetReader", "readKind", "()Z"⟩, prog_9_method_8_code, 1, some .boolean)
theorem yv_StreetReader_readKind : am_yV Y_StreetReader_readKind 0 := ⟨⟨(tb1 9 (by decide +kernel) rfl), (tb3 85 (by decide +kernel) rfl), ⟨by decide +kernel, by decide +kernel, by decide +kernel⟩, by decide +kernel⟩, (tb3 84 (by decide +kernel) rfl), (tb_sel (y := ⟨"TwoCamps$StreetReader", "readKind", "()Z"⟩) (n := 9) 10 (by decide +kernel))⟩
def Y_StreetReader_tellAll : am_Y := (⟨"TwoCamps$StreetReader", "tellAll", "()I"⟩, prog_9_method_3_code, 2, some .int)
theorem yv_StreetReader_tellAll : am_yV Y_StreetReader_tellAll 0 := ⟨⟨(tb1 9 (by decide +kernel) rfl), (tb3 89 (by decide +kernel) rfl), ⟨by decide +kernel, by decide +kernel, by decide +kernel⟩, by decide +kernel⟩, (tb3 87 (by decide +kernel) rfl), (tb3 88 (by decide +kernel) rfl)⟩
def Y_TC_text : am_Y := (⟨"TwoCamps", "text", "()I"⟩, prog_1_method_10_code, 2, some .int)
theorem yv_TC_text : am_yV Y_TC_text 0 := ⟨⟨(tb1 1 (by decide +kernel) rfl), (tb3 94 (by decide +kernel) rfl), ⟨by decide +kernel, by decide +kernel, by decide +kernel⟩, by decide +kernel⟩, (tb3 92 (by decide +kernel) rfl), (tb3 93 (by decide +kernel) rfl)⟩
def Y_TextReader_isText : am_Y := (⟨"TwoCamps$TextReader", "isText", "()Z"⟩, prog_12_method_2_code, 1, some .boolean)
theorem yv_TextReader_isText : am_yV Y_TextReader_isText 0 := ⟨⟨(tb1 8 (by decide +kernel) rfl), (tb3 98 (by decide +kernel) rfl), ⟨by decide +kernel, by decide +kernel, by decide +kernel⟩, by decide +kernel⟩, (tb3 96 (by decide +kernel) rfl), (tb3 97 (by decide +kernel) rfl)⟩
def Y_Text_clear : am_Y := (⟨"TwoCamps$Text", "clear", "()V"⟩, prog_11_method_2_code, 1, none)
theorem yv_Text_clear : am_yV Y_Text_clear 0 := ⟨⟨(tb1 7 (by decide +kernel) rfl), (tb3 102 (by decide +kernel) rfl), ⟨by decide +kernel, by decide +kernel, by decide +kernel⟩, by decide +kernel⟩, (tb3 100 (by decide +kernel) rfl), (tb3 101 (by decide +kernel) rfl)⟩
def Y_TextReader_layTokens : am_Y := (⟨"TwoCamps$TextReader", "layTokens", "()V"⟩, prog_12_method_4_code, 5, none)
theorem yv_TextReader_layTokens : am_yV Y_TextReader_layTokens 0 := ⟨⟨(tb1 8 (by decide +kernel) rfl), (tb3 106 (by decide +kernel) rfl), ⟨by decide +kernel, by decide +kernel, by decide +kernel⟩, by decide +kernel⟩, (tb3 105 (by decide +kernel) rfl), (tb_sel (y := ⟨"TwoCamps$TextReader", "layTokens", "()V"⟩) (n := 6) 11 (by decide +kernel))⟩
def Y_TextReader_skipBlanks : am_Y := (⟨"TwoCamps$TextReader", "skipBlanks", "(I)I"⟩, prog_12_method_5_code, 4, some .int)
theorem yv_TextReader_skipBlanks : am_yV Y_TextReader_skipBlanks 1 := ⟨⟨(tb1 8 (by decide +kernel) rfl), (tb3 110 (by decide +kernel) rfl), ⟨by decide +kernel, by decide +kernel, by decide +kernel⟩, by decide +kernel⟩, (tb3 109 (by decide +kernel) rfl), (tb_sel (y := ⟨"TwoCamps$TextReader", "skipBlanks", "(I)I"⟩) (n := 6) 12 (by decide +kernel))⟩
def Y_TextReader_endOfToken : am_Y := (⟨"TwoCamps$TextReader", "endOfToken", "(I)I"⟩, prog_12_method_6_code, 6, some .int)
theorem yv_TextReader_endOfToken : am_yV Y_TextReader_endOfToken 1 := ⟨⟨(tb1 8 (by decide +kernel) rfl), (tb3 115 (by decide +kernel) rfl), ⟨by decide +kernel, by decide +kernel, by decide +kernel⟩, by decide +kernel⟩, (tb3 114 (by decide +kernel) rfl), (tb_sel (y := ⟨"TwoCamps$TextReader", "endOfToken", "(I)I"⟩) (n := 6) 13 (by decide +kernel))⟩
def Y_Tape_isLetter : am_Y := (⟨"TwoCamps$Tape", "isLetter", "(I)Z"⟩, prog_10_method_6_code, 3, some .boolean)
theorem yv_Tape_isLetter : am_yV Y_Tape_isLetter 1 := ⟨⟨(tb1 5 (by decide +kernel) rfl), (tb3 119 (by decide +kernel) rfl), ⟨by decide +kernel, by decide +kernel, by decide +kernel⟩, by decide +kernel⟩, (tb3 117 (by decide +kernel) rfl), (tb3 118 (by decide +kernel) rfl)⟩
def Y_Tape_isDigit : am_Y := (⟨"TwoCamps$Tape", "isDigit", "(I)Z"⟩, prog_10_method_5_code, 2, some .boolean)
theorem yv_Tape_isDigit : am_yV Y_Tape_isDigit 1 := ⟨⟨(tb1 5 (by decide +kernel) rfl), (tb3 123 (by decide +kernel) rfl), ⟨by decide +kernel, by decide +kernel, by decide +kernel⟩, by decide +kernel⟩, (tb3 121 (by decide +kernel) rfl), (tb3 122 (by decide +kernel) rfl)⟩
def Y_TextReader_tokenOf : am_Y := (⟨"TwoCamps$TextReader", "tokenOf", "(II)I"⟩, prog_12_method_7_code, 4, some .int)
theorem yv_TextReader_tokenOf : am_yV Y_TextReader_tokenOf 2 := ⟨⟨(tb1 8 (by decide +kernel) rfl), (tb3 128 (by decide +kernel) rfl), ⟨by decide +kernel, by decide +kernel, by decide +kernel⟩, by decide +kernel⟩, (tb3 127 (by decide +kernel) rfl), (tb_sel (y := ⟨"TwoCamps$TextReader", "tokenOf", "(II)I"⟩) (n := 6) 14 (by decide +kernel))⟩
def Y_TextReader_wordOf : am_Y := (⟨"TwoCamps$TextReader", "wordOf", "(II)I"⟩, prog_12_method_9_code, 3, some .int)
theorem yv_TextReader_wordOf : am_yV Y_TextReader_wordOf 2 := ⟨⟨(tb1 8 (by decide +kernel) rfl), (tb3 132 (by decide +kernel) rfl), ⟨by decide +kernel, by decide +kernel, by decide +kernel⟩, by decide +kernel⟩, (tb3 131 (by decide +kernel) rfl), (tb_sel (y := ⟨"TwoCamps$TextReader", "wordOf", "(II)I"⟩) (n := 6) 15 (by decide +kernel))⟩
def Y_TextReader_spells : am_Y := (⟨"TwoCamps$TextReader", "spells", "(IILjava/lang/String;)Z"⟩, prog_12_method_10_code, 5, some .boolean)
theorem yv_TextReader_spells : am_yV Y_TextReader_spells 3 := ⟨⟨(tb1 8 (by decide +kernel) rfl), (tb3 137 (by decide +kernel) rfl), ⟨by decide +kernel, by decide +kernel, by decide +kernel⟩, by decide +kernel⟩, (tb3 136 (by decide +kernel) rfl), (tb_sel (y := ⟨"TwoCamps$TextReader", "spells", "(IILjava/lang/String;)Z"⟩) (n := 6) 16 (by decide +kernel))⟩
def Y_Str_length : am_Y := (⟨"java/lang/String", "length", "()I"⟩, prog_17_method_54_code, 1, some .int)
theorem yv_Str_length : am_yV Y_Str_length 0 := ⟨⟨(tb1 16 (by decide +kernel) rfl), (tb3 141 (by decide +kernel) rfl), ⟨by decide +kernel, by decide +kernel, by decide +kernel⟩, by decide +kernel⟩, (tb3 139 (by decide +kernel) rfl), (tb3 140 (by decide +kernel) rfl)⟩
def Y_Str_coder : am_Y := (⟨"java/lang/String", "coder", "()B"⟩, prog_17_method_152_code, 1, some .byte)
theorem yv_Str_coder : am_yV Y_Str_coder 0 := ⟨⟨(tb1 16 (by decide +kernel) rfl), (tb3 145 (by decide +kernel) rfl), ⟨by decide +kernel, by decide +kernel, by decide +kernel⟩, by decide +kernel⟩, (tb3 143 (by decide +kernel) rfl), (tb3 144 (by decide +kernel) rfl)⟩
def Y_Str_charAt : am_Y := (⟨"java/lang/String", "charAt", "(I)C"⟩, prog_17_method_56_code, 2, some .char)
theorem yv_Str_charAt : am_yV Y_Str_charAt 1 := ⟨⟨(tb1 16 (by decide +kernel) rfl), (tb3 151 (by decide +kernel) rfl), ⟨by decide +kernel, by decide +kernel, by decide +kernel⟩, by decide +kernel⟩, (tb3 149 (by decide +kernel) rfl), (tb3 150 (by decide +kernel) rfl)⟩
def Y_Str_isLatin1 : am_Y := (⟨"java/lang/String", "isLatin1", "()Z"⟩, prog_17_method_154_code, 1, some .boolean)
theorem yv_Str_isLatin1 : am_yV Y_Str_isLatin1 0 := ⟨⟨(tb1 16 (by decide +kernel) rfl), (tb3 155 (by decide +kernel) rfl), ⟨by decide +kernel, by decide +kernel, by decide +kernel⟩, by decide +kernel⟩, (tb3 153 (by decide +kernel) rfl), (tb3 154 (by decide +kernel) rfl)⟩
def Y_L1_charAt : am_Y := (⟨"java/lang/StringLatin1", "charAt", "([BI)C"⟩, prog_18_method_2_code, 2, some .char)
theorem ys_L1_charAt : am_yS Y_L1_charAt 2 := ⟨⟨(tb1 17 (by decide +kernel) rfl), (tb3 158 (by decide +kernel) rfl), ⟨by decide +kernel, by decide +kernel, by decide +kernel⟩, by decide +kernel⟩, (tb3 157 (by decide +kernel) rfl)⟩
def Y_Str_checkIndex : am_Y := (⟨"java/lang/String", "checkIndex", "(II)V"⟩, prog_17_method_155_code, 2, none)
theorem ys_Str_checkIndex : am_yS Y_Str_checkIndex 2 := ⟨⟨(tb1 16 (by decide +kernel) rfl), (tb3 161 (by decide +kernel) rfl), ⟨by decide +kernel, by decide +kernel, by decide +kernel⟩, by decide +kernel⟩, (tb3 160 (by decide +kernel) rfl)⟩
def Y_Pre_checkIndex : am_Y := (⟨"jdk/internal/util/Preconditions", "checkIndex", "(IILjava/util/function/BiFunction;)I"⟩, prog_22_method_11_code, 3, some .int)
theorem ys_Pre_checkIndex : am_yS Y_Pre_checkIndex 3 := ⟨⟨(tb1 18 (by decide +kernel) rfl), (tb3 166 (by decide +kernel) rfl), ⟨by decide +kernel, by decide +kernel, by decide +kernel⟩, by decide +kernel⟩, (tb3 165 (by decide +kernel) rfl)⟩
def Y_TextReader_numberOf : am_Y := (⟨"TwoCamps$TextReader", "numberOf", "(II)I"⟩, prog_12_method_8_code, 5, some .int)
theorem yv_TextReader_numberOf : am_yV Y_TextReader_numberOf 2 := ⟨⟨(tb1 8 (by decide +kernel) rfl), (tb3 199 (by decide +kernel) rfl), ⟨by decide +kernel, by decide +kernel, by decide +kernel⟩, by decide +kernel⟩, (tb3 198 (by decide +kernel) rfl), (tb_sel (y := ⟨"TwoCamps$TextReader", "numberOf", "(II)I"⟩) (n := 6) 17 (by decide +kernel))⟩
def Y_TextReader_skip : am_Y := (⟨"TwoCamps$TextReader", "skip", "(I)Z"⟩, prog_12_method_18_code, 2, some .boolean)
theorem yv_TextReader_skip : am_yV Y_TextReader_skip 1 := ⟨⟨(tb1 8 (by decide +kernel) rfl), (tb3 203 (by decide +kernel) rfl), ⟨by decide +kernel, by decide +kernel, by decide +kernel⟩, by decide +kernel⟩, (tb3 202 (by decide +kernel) rfl), (tb_sel (y := ⟨"TwoCamps$TextReader", "skip", "(I)Z"⟩) (n := 6) 18 (by decide +kernel))⟩
def Y_TextReader_readOr : am_Y := (⟨"TwoCamps$TextReader", "readOr", "(I)Z"⟩, prog_12_method_11_code, 4, some .boolean)
theorem yv_TextReader_readOr : am_yV Y_TextReader_readOr 1 := ⟨⟨(tb1 8 (by decide +kernel) rfl), (tb3 207 (by decide +kernel) rfl), ⟨by decide +kernel, by decide +kernel, by decide +kernel⟩, by decide +kernel⟩, (tb3 206 (by decide +kernel) rfl), (tb_sel (y := ⟨"TwoCamps$TextReader", "readOr", "(I)Z"⟩) (n := 6) 19 (by decide +kernel))⟩
def Y_TextReader_readAnd : am_Y := (⟨"TwoCamps$TextReader", "readAnd", "(I)Z"⟩, prog_12_method_12_code, 4, some .boolean)
theorem yv_TextReader_readAnd : am_yV Y_TextReader_readAnd 1 := ⟨⟨(tb1 8 (by decide +kernel) rfl), (tb3 211 (by decide +kernel) rfl), ⟨by decide +kernel, by decide +kernel, by decide +kernel⟩, by decide +kernel⟩, (tb3 210 (by decide +kernel) rfl), (tb_sel (y := ⟨"TwoCamps$TextReader", "readAnd", "(I)Z"⟩) (n := 6) 20 (by decide +kernel))⟩
def Y_TextReader_readNot : am_Y := (⟨"TwoCamps$TextReader", "readNot", "(I)Z"⟩, prog_12_method_13_code, 3, some .boolean)
theorem yv_TextReader_readNot : am_yV Y_TextReader_readNot 1 := ⟨⟨(tb1 8 (by decide +kernel) rfl), (tb3 215 (by decide +kernel) rfl), ⟨by decide +kernel, by decide +kernel, by decide +kernel⟩, by decide +kernel⟩, (tb3 214 (by decide +kernel) rfl), (tb_sel (y := ⟨"TwoCamps$TextReader", "readNot", "(I)Z"⟩) (n := 6) 21 (by decide +kernel))⟩
def Y_TextReader_readComparison : am_Y := (⟨"TwoCamps$TextReader", "readComparison", "(I)Z"⟩, prog_12_method_14_code, 4, some .boolean)
theorem yv_TextReader_readComparison : am_yV Y_TextReader_readComparison 1 := ⟨⟨(tb1 8 (by decide +kernel) rfl), (tb3 219 (by decide +kernel) rfl), ⟨by decide +kernel, by decide +kernel, by decide +kernel⟩, by decide +kernel⟩, (tb3 218 (by decide +kernel) rfl), (tb_sel (y := ⟨"TwoCamps$TextReader", "readComparison", "(I)Z"⟩) (n := 6) 22 (by decide +kernel))⟩
def Y_TextReader_readSum : am_Y := (⟨"TwoCamps$TextReader", "readSum", "(I)Z"⟩, prog_12_method_15_code, 5, some .boolean)
theorem yv_TextReader_readSum : am_yV Y_TextReader_readSum 1 := ⟨⟨(tb1 8 (by decide +kernel) rfl), (tb3 223 (by decide +kernel) rfl), ⟨by decide +kernel, by decide +kernel, by decide +kernel⟩, by decide +kernel⟩, (tb3 222 (by decide +kernel) rfl), (tb_sel (y := ⟨"TwoCamps$TextReader", "readSum", "(I)Z"⟩) (n := 6) 23 (by decide +kernel))⟩
def Y_TextReader_readTerm : am_Y := (⟨"TwoCamps$TextReader", "readTerm", "(I)Z"⟩, prog_12_method_16_code, 4, some .boolean)
theorem yv_TextReader_readTerm : am_yV Y_TextReader_readTerm 1 := ⟨⟨(tb1 8 (by decide +kernel) rfl), (tb3 227 (by decide +kernel) rfl), ⟨by decide +kernel, by decide +kernel, by decide +kernel⟩, by decide +kernel⟩, (tb3 226 (by decide +kernel) rfl), (tb_sel (y := ⟨"TwoCamps$TextReader", "readTerm", "(I)Z"⟩) (n := 6) 24 (by decide +kernel))⟩
def Y_TextReader_readOne : am_Y := (⟨"TwoCamps$TextReader", "readOne", "(I)Z"⟩, prog_12_method_17_code, 3, some .boolean)
theorem yv_TextReader_readOne : am_yV Y_TextReader_readOne 1 := ⟨⟨(tb1 8 (by decide +kernel) rfl), (tb3 231 (by decide +kernel) rfl), ⟨by decide +kernel, by decide +kernel, by decide +kernel⟩, by decide +kernel⟩, (tb3 230 (by decide +kernel) rfl), (tb_sel (y := ⟨"TwoCamps$TextReader", "readOne", "(I)Z"⟩) (n := 6) 25 (by decide +kernel))⟩
def Y_Law_add : am_Y := (⟨"TwoCamps$Law", "add", "(LTwoCamps$Text;)I"⟩, prog_5_method_2_code, 2, some .int)
theorem yv_Law_add : am_yV Y_Law_add 1 := ⟨⟨(tb1 6 (by decide +kernel) rfl), (tb3 238 (by decide +kernel) rfl), ⟨by decide +kernel, by decide +kernel, by decide +kernel⟩, by decide +kernel⟩, (tb3 236 (by decide +kernel) rfl), (tb3 237 (by decide +kernel) rfl)⟩
def Y_Text_become : am_Y := (⟨"TwoCamps$Text", "become", "(LTwoCamps$Text;)V"⟩, prog_11_method_3_code, 2, none)
theorem yv_Text_become : am_yV Y_Text_become 1 := ⟨⟨(tb1 7 (by decide +kernel) rfl), (tb4 2 (by decide +kernel) rfl), ⟨by decide +kernel, by decide +kernel, by decide +kernel⟩, by decide +kernel⟩, (tb4 0 (by decide +kernel) rfl), (tb4 1 (by decide +kernel) rfl)⟩
def Y_TextReader_place : am_Y := (⟨"TwoCamps$TextReader", "place", "()I"⟩, prog_12_method_3_code, 1, some .int)
theorem yv_TextReader_place : am_yV Y_TextReader_place 0 := ⟨⟨(tb1 8 (by decide +kernel) rfl), (tb4 9 (by decide +kernel) rfl), ⟨by decide +kernel, by decide +kernel, by decide +kernel⟩, by decide +kernel⟩, (tb4 7 (by decide +kernel) rfl), (tb4 8 (by decide +kernel) rfl)⟩
def Y_TC_force : am_Y := (⟨"TwoCamps", "force", "(I)I"⟩, prog_1_method_11_code, 3, some .int)
theorem yv_TC_force : am_yV Y_TC_force 1 := ⟨⟨(tb1 1 (by decide +kernel) rfl), (tb4 14 (by decide +kernel) rfl), ⟨by decide +kernel, by decide +kernel, by decide +kernel⟩, by decide +kernel⟩, (tb4 12 (by decide +kernel) rfl), (tb4 13 (by decide +kernel) rfl)⟩
def Y_TC_camping : am_Y := (⟨"TwoCamps", "camping", "(II)I"⟩, prog_1_method_12_code, 4, some .int)
theorem yv_TC_camping : am_yV Y_TC_camping 2 := ⟨⟨(tb1 1 (by decide +kernel) rfl), (tb4 18 (by decide +kernel) rfl), ⟨by decide +kernel, by decide +kernel, by decide +kernel⟩, by decide +kernel⟩, (tb4 16 (by decide +kernel) rfl), (tb4 17 (by decide +kernel) rfl)⟩
def Y_TC_isKind : am_Y := (⟨"TwoCamps", "isKind", "(I)Z"⟩, prog_1_method_20_code, 1, some .boolean)
theorem ys_TC_isKind : am_yS Y_TC_isKind 1 := ⟨⟨(tb1 1 (by decide +kernel) rfl), (tb4 21 (by decide +kernel) rfl), ⟨by decide +kernel, by decide +kernel, by decide +kernel⟩, by decide +kernel⟩, (tb4 20 (by decide +kernel) rfl)⟩
def Y_TC_isSheet : am_Y := (⟨"TwoCamps", "isSheet", "(I)Z"⟩, prog_1_method_50_code, 1, some .boolean)
theorem ys_TC_isSheet : am_yS Y_TC_isSheet 1 := ⟨⟨(tb1 1 (by decide +kernel) rfl), (tb4 24 (by decide +kernel) rfl), ⟨by decide +kernel, by decide +kernel, by decide +kernel⟩, by decide +kernel⟩, (tb4 23 (by decide +kernel) rfl)⟩
def Y_Sheet_isThere : am_Y := (⟨"TwoCamps$Sheet", "isThere", "()Z"⟩, prog_8_method_2_code, 1, some .boolean)
theorem yv_Sheet_isThere : am_yV Y_Sheet_isThere 0 := ⟨⟨(tb1 13 (by decide +kernel) rfl), (tb4 28 (by decide +kernel) rfl), ⟨by decide +kernel, by decide +kernel, by decide +kernel⟩, by decide +kernel⟩, (tb4 26 (by decide +kernel) rfl), (tb4 27 (by decide +kernel) rfl)⟩
def Y_TC_tellsCamps : am_Y := (⟨"TwoCamps", "tellsCamps", "(LTwoCamps$Sheet;)Z"⟩, prog_1_method_18_code, 2, some .boolean)
theorem ys_TC_tellsCamps : am_yS Y_TC_tellsCamps 1 := ⟨⟨(tb1 1 (by decide +kernel) rfl), (tb4 31 (by decide +kernel) rfl), ⟨by decide +kernel, by decide +kernel, by decide +kernel⟩, by decide +kernel⟩, (tb4 30 (by decide +kernel) rfl)⟩
def Y_TC_isCamp : am_Y := (⟨"TwoCamps", "isCamp", "(I)Z"⟩, prog_1_method_19_code, 1, some .boolean)
theorem ys_TC_isCamp : am_yS Y_TC_isCamp 1 := ⟨⟨(tb1 1 (by decide +kernel) rfl), (tb4 34 (by decide +kernel) rfl), ⟨by decide +kernel, by decide +kernel, by decide +kernel⟩, by decide +kernel⟩, (tb4 33 (by decide +kernel) rfl)⟩
def Y_Camping_become : am_Y := (⟨"TwoCamps$Camping", "become", "(ILTwoCamps$Sheet;)V"⟩, prog_3_method_2_code, 3, none)
theorem yv_Camping_become : am_yV Y_Camping_become 2 := ⟨⟨(tb1 10 (by decide +kernel) rfl), (tb4 38 (by decide +kernel) rfl), ⟨by decide +kernel, by decide +kernel, by decide +kernel⟩, by decide +kernel⟩, (tb4 36 (by decide +kernel) rfl), (tb4 37 (by decide +kernel) rfl)⟩
def Y_TC_camped : am_Y := (⟨"TwoCamps", "camped", "(II)I"⟩, prog_1_method_13_code, 4, some .int)
theorem yv_TC_camped : am_yV Y_TC_camped 2 := ⟨⟨(tb1 1 (by decide +kernel) rfl), (tb4 43 (by decide +kernel) rfl), ⟨by decide +kernel, by decide +kernel, by decide +kernel⟩, by decide +kernel⟩, (tb4 41 (by decide +kernel) rfl), (tb4 42 (by decide +kernel) rfl)⟩
def Y_TC_isCamping : am_Y := (⟨"TwoCamps", "isCamping", "(I)Z"⟩, prog_1_method_21_code, 2, some .boolean)
theorem yv_TC_isCamping : am_yV Y_TC_isCamping 1 := ⟨⟨(tb1 1 (by decide +kernel) rfl), (tb4 47 (by decide +kernel) rfl), ⟨by decide +kernel, by decide +kernel, by decide +kernel⟩, by decide +kernel⟩, (tb4 46 (by decide +kernel) rfl), (tb_sel (y := ⟨"TwoCamps", "isCamping", "(I)Z"⟩) (n := 16) 26 (by decide +kernel))⟩
def Y_Camping_usedCamps : am_Y := (⟨"TwoCamps$Camping", "usedCamps", "()I"⟩, prog_3_method_5_code, 3, some .int)
theorem yv_Camping_usedCamps : am_yV Y_Camping_usedCamps 0 := ⟨⟨(tb1 10 (by decide +kernel) rfl), (tb4 53 (by decide +kernel) rfl), ⟨by decide +kernel, by decide +kernel, by decide +kernel⟩, by decide +kernel⟩, (tb4 51 (by decide +kernel) rfl), (tb4 52 (by decide +kernel) rfl)⟩
def Y_Camping_countIn : am_Y := (⟨"TwoCamps$Camping", "countIn", "(I)I"⟩, prog_3_method_6_code, 4, some .int)
theorem yv_Camping_countIn : am_yV Y_Camping_countIn 1 := ⟨⟨(tb1 10 (by decide +kernel) rfl), (tb4 57 (by decide +kernel) rfl), ⟨by decide +kernel, by decide +kernel, by decide +kernel⟩, by decide +kernel⟩, (tb4 55 (by decide +kernel) rfl), (tb4 56 (by decide +kernel) rfl)⟩
def Y_Camping_campOf : am_Y := (⟨"TwoCamps$Camping", "campOf", "(I)I"⟩, prog_3_method_4_code, 2, some .int)
theorem yv_Camping_campOf : am_yV Y_Camping_campOf 1 := ⟨⟨(tb1 10 (by decide +kernel) rfl), (tb4 61 (by decide +kernel) rfl), ⟨by decide +kernel, by decide +kernel, by decide +kernel⟩, by decide +kernel⟩, (tb4 59 (by decide +kernel) rfl), (tb4 60 (by decide +kernel) rfl)⟩
def Y_Camping_wrongCount : am_Y := (⟨"TwoCamps$Camping", "wrongCount", "()I"⟩, prog_3_method_7_code, 3, some .int)
theorem yv_Camping_wrongCount : am_yV Y_Camping_wrongCount 0 := ⟨⟨(tb1 10 (by decide +kernel) rfl), (tb4 65 (by decide +kernel) rfl), ⟨by decide +kernel, by decide +kernel, by decide +kernel⟩, by decide +kernel⟩, (tb4 63 (by decide +kernel) rfl), (tb4 64 (by decide +kernel) rfl)⟩
def Y_Camping_isWrong : am_Y := (⟨"TwoCamps$Camping", "isWrong", "(I)Z"⟩, prog_3_method_8_code, 4, some .boolean)
theorem yv_Camping_isWrong : am_yV Y_Camping_isWrong 1 := ⟨⟨(tb1 10 (by decide +kernel) rfl), (tb4 69 (by decide +kernel) rfl), ⟨by decide +kernel, by decide +kernel, by decide +kernel⟩, by decide +kernel⟩, (tb4 68 (by decide +kernel) rfl), (tb_sel (y := ⟨"TwoCamps$Camping", "isWrong", "(I)Z"⟩) (n := 6) 27 (by decide +kernel))⟩
def Y_Feelings_isWrong : am_Y := (⟨"TwoCamps$Feelings", "isWrong", "(IZ)Z"⟩, prog_4_method_7_code, 3, some .boolean)
theorem yv_Feelings_isWrong : am_yV Y_Feelings_isWrong 2 := ⟨⟨(tb1 3 (by decide +kernel) rfl), (tb4 73 (by decide +kernel) rfl), ⟨by decide +kernel, by decide +kernel, by decide +kernel⟩, by decide +kernel⟩, (tb4 71 (by decide +kernel) rfl), (tb4 72 (by decide +kernel) rfl)⟩
def Y_TC_cost : am_Y := (⟨"TwoCamps", "cost", "(I)J"⟩, prog_1_method_14_code, 2, some .long)
theorem yv_TC_cost : am_yV Y_TC_cost 1 := ⟨⟨(tb1 1 (by decide +kernel) rfl), (tb4 78 (by decide +kernel) rfl), ⟨by decide +kernel, by decide +kernel, by decide +kernel⟩, by decide +kernel⟩, (tb4 76 (by decide +kernel) rfl), (tb4 77 (by decide +kernel) rfl)⟩
def Y_Camping_judged : am_Y := (⟨"TwoCamps$Camping", "judged", "()J"⟩, prog_3_method_9_code, 4, some .long)
theorem yv_Camping_judged : am_yV Y_Camping_judged 0 := ⟨⟨(tb1 10 (by decide +kernel) rfl), (tb4 82 (by decide +kernel) rfl), ⟨by decide +kernel, by decide +kernel, by decide +kernel⟩, by decide +kernel⟩, (tb4 80 (by decide +kernel) rfl), (tb4 81 (by decide +kernel) rfl)⟩
def Y_Law_weigh : am_Y := (⟨"TwoCamps$Law", "weigh", "()V"⟩, prog_5_method_3_code, 2, none)
theorem yv_Law_weigh : am_yV Y_Law_weigh 0 := ⟨⟨(tb1 6 (by decide +kernel) rfl), (tb4 86 (by decide +kernel) rfl), ⟨by decide +kernel, by decide +kernel, by decide +kernel⟩, by decide +kernel⟩, (tb4 84 (by decide +kernel) rfl), (tb4 85 (by decide +kernel) rfl)⟩
def Y_TC_isUnder : am_Y := (⟨"TwoCamps", "isUnder", "(II)Z"⟩, prog_1_method_22_code, 4, some .boolean)
theorem ys_TC_isUnder : am_yS Y_TC_isUnder 2 := ⟨⟨(tb1 1 (by decide +kernel) rfl), (tb4 91 (by decide +kernel) rfl), ⟨by decide +kernel, by decide +kernel, by decide +kernel⟩, by decide +kernel⟩, (tb4 90 (by decide +kernel) rfl)⟩
def Y_Camping_costOfWrong : am_Y := (⟨"TwoCamps$Camping", "costOfWrong", "(I)J"⟩, prog_3_method_10_code, 4, some .long)
theorem yv_Camping_costOfWrong : am_yV Y_Camping_costOfWrong 1 := ⟨⟨(tb1 10 (by decide +kernel) rfl), (tb4 99 (by decide +kernel) rfl), ⟨by decide +kernel, by decide +kernel, by decide +kernel⟩, by decide +kernel⟩, (tb4 98 (by decide +kernel) rfl), (tb_sel (y := ⟨"TwoCamps$Camping", "costOfWrong", "(I)J"⟩) (n := 6) 28 (by decide +kernel))⟩
def Y_Camping_costOfPerson : am_Y := (⟨"TwoCamps$Camping", "costOfPerson", "(I)J"⟩, prog_3_method_11_code, 5, some .long)
theorem yv_Camping_costOfPerson : am_yV Y_Camping_costOfPerson 1 := ⟨⟨(tb1 10 (by decide +kernel) rfl), (tb4 104 (by decide +kernel) rfl), ⟨by decide +kernel, by decide +kernel, by decide +kernel⟩, by decide +kernel⟩, (tb4 103 (by decide +kernel) rfl), (tb_sel (y := ⟨"TwoCamps$Camping", "costOfPerson", "(I)J"⟩) (n := 6) 29 (by decide +kernel))⟩
def Y_TC_move : am_Y := (⟨"TwoCamps", "move", "(III)J"⟩, prog_1_method_15_code, 4, some .long)
theorem yv_TC_move : am_yV Y_TC_move 3 := ⟨⟨(tb1 1 (by decide +kernel) rfl), (tb4 109 (by decide +kernel) rfl), ⟨by decide +kernel, by decide +kernel, by decide +kernel⟩, by decide +kernel⟩, (tb4 107 (by decide +kernel) rfl), (tb4 108 (by decide +kernel) rfl)⟩
def Y_Camping_becomeMoved : am_Y := (⟨"TwoCamps$Camping", "becomeMoved", "(LTwoCamps$Camping;II)V"⟩, prog_3_method_3_code, 5, none)
theorem yv_Camping_becomeMoved : am_yV Y_Camping_becomeMoved 3 := ⟨⟨(tb1 10 (by decide +kernel) rfl), (tb4 113 (by decide +kernel) rfl), ⟨by decide +kernel, by decide +kernel, by decide +kernel⟩, by decide +kernel⟩, (tb4 111 (by decide +kernel) rfl), (tb4 112 (by decide +kernel) rfl)⟩
def Y_TC_same : am_Y := (⟨"TwoCamps", "same", "(II)I"⟩, prog_1_method_16_code, 4, some .int)
theorem yv_TC_same : am_yV Y_TC_same 2 := ⟨⟨(tb1 1 (by decide +kernel) rfl), (tb4 117 (by decide +kernel) rfl), ⟨by decide +kernel, by decide +kernel, by decide +kernel⟩, by decide +kernel⟩, (tb4 115 (by decide +kernel) rfl), (tb4 116 (by decide +kernel) rfl)⟩
def Y_TC_isAlikeFor : am_Y := (⟨"TwoCamps", "isAlikeFor", "(ILTwoCamps$Camping;LTwoCamps$Camping;)Z"⟩, prog_1_method_17_code, 7, some .boolean)
theorem yv_TC_isAlikeFor : am_yV Y_TC_isAlikeFor 3 := ⟨⟨(tb1 1 (by decide +kernel) rfl), (tb4 121 (by decide +kernel) rfl), ⟨by decide +kernel, by decide +kernel, by decide +kernel⟩, by decide +kernel⟩, (tb4 120 (by decide +kernel) rfl), (tb_sel (y := ⟨"TwoCamps", "isAlikeFor", "(ILTwoCamps$Camping;LTwoCamps$Camping;)Z"⟩) (n := 16) 30 (by decide +kernel))⟩
def Y_TC_peace : am_Y := (⟨"TwoCamps", "peace", "()I"⟩, prog_1_method_23_code, 1, some .int)
theorem yv_TC_peace : am_yV Y_TC_peace 0 := ⟨⟨(tb1 1 (by decide +kernel) rfl), (tb4 126 (by decide +kernel) rfl), ⟨by decide +kernel, by decide +kernel, by decide +kernel⟩, by decide +kernel⟩, (tb4 124 (by decide +kernel) rfl), (tb4 125 (by decide +kernel) rfl)⟩
def Y_Net_peaceWithout : am_Y := (⟨"TwoCamps$Net", "peaceWithout", "(I)I"⟩, prog_6_method_5_code, 5, some .int)
theorem yv_Net_peaceWithout : am_yV Y_Net_peaceWithout 1 := ⟨⟨(tb1 11 (by decide +kernel) rfl), (tb4 130 (by decide +kernel) rfl), ⟨by decide +kernel, by decide +kernel, by decide +kernel⟩, by decide +kernel⟩, (tb4 128 (by decide +kernel) rfl), (tb4 129 (by decide +kernel) rfl)⟩
def Y_Net_forcedBy : am_Y := (⟨"TwoCamps$Net", "forcedBy", "(II)I"⟩, prog_6_method_6_code, 10, some .int)
theorem yv_Net_forcedBy : am_yV Y_Net_forcedBy 2 := ⟨⟨(tb1 11 (by decide +kernel) rfl), (tb4 134 (by decide +kernel) rfl), ⟨by decide +kernel, by decide +kernel, by decide +kernel⟩, by decide +kernel⟩, (tb4 133 (by decide +kernel) rfl), (tb_sel (y := ⟨"TwoCamps$Net", "forcedBy", "(II)I"⟩) (n := 8) 31 (by decide +kernel))⟩
def Y_Feelings_bitsOf : am_Y := (⟨"TwoCamps$Feelings", "bitsOf", "(I)I"⟩, prog_4_method_6_code, 2, some .int)
theorem yv_Feelings_bitsOf : am_yV Y_Feelings_bitsOf 1 := ⟨⟨(tb1 3 (by decide +kernel) rfl), (tb4 138 (by decide +kernel) rfl), ⟨by decide +kernel, by decide +kernel, by decide +kernel⟩, by decide +kernel⟩, (tb4 136 (by decide +kernel) rfl), (tb4 137 (by decide +kernel) rfl)⟩
def Y_Int_bitCount : am_Y := (⟨"java/lang/Integer", "bitCount", "(I)I"⟩, prog_15_method_49_code, 1, some .int)
theorem ys_Int_bitCount : am_yS Y_Int_bitCount 1 := ⟨⟨(tb1 21 (by decide +kernel) rfl), (tb4 141 (by decide +kernel) rfl), ⟨by decide +kernel, by decide +kernel, by decide +kernel⟩, by decide +kernel⟩, (tb4 140 (by decide +kernel) rfl)⟩
def Y_Feelings_isWrongIn : am_Y := (⟨"TwoCamps$Feelings", "isWrongIn", "(II)Z"⟩, prog_4_method_8_code, 3, some .boolean)
theorem yv_Feelings_isWrongIn : am_yV Y_Feelings_isWrongIn 2 := ⟨⟨(tb1 3 (by decide +kernel) rfl), (tb4 148 (by decide +kernel) rfl), ⟨by decide +kernel, by decide +kernel, by decide +kernel⟩, by decide +kernel⟩, (tb4 146 (by decide +kernel) rfl), (tb4 147 (by decide +kernel) rfl)⟩
def Y_TC_isTogether : am_Y := (⟨"TwoCamps", "isTogether", "(III)Z"⟩, prog_1_method_44_code, 3, some .boolean)
theorem ys_TC_isTogether : am_yS Y_TC_isTogether 3 := ⟨⟨(tb1 1 (by decide +kernel) rfl), (tb4 151 (by decide +kernel) rfl), ⟨by decide +kernel, by decide +kernel, by decide +kernel⟩, by decide +kernel⟩, (tb4 150 (by decide +kernel) rfl)⟩
def Y_Net_reach : am_Y := (⟨"TwoCamps$Net", "reach", "(II)I"⟩, prog_6_method_4_code, 8, some .int)
theorem yv_Net_reach : am_yV Y_Net_reach 2 := ⟨⟨(tb1 11 (by decide +kernel) rfl), (tb4 156 (by decide +kernel) rfl), ⟨by decide +kernel, by decide +kernel, by decide +kernel⟩, by decide +kernel⟩, (tb4 155 (by decide +kernel) rfl), (tb_sel (y := ⟨"TwoCamps$Net", "reach", "(II)I"⟩) (n := 8) 32 (by decide +kernel))⟩
def Y_TC_ring : am_Y := (⟨"TwoCamps", "ring", "(I)I"⟩, prog_1_method_24_code, 2, some .int)
theorem yv_TC_ring : am_yV Y_TC_ring 1 := ⟨⟨(tb1 1 (by decide +kernel) rfl), (tb4 160 (by decide +kernel) rfl), ⟨by decide +kernel, by decide +kernel, by decide +kernel⟩, by decide +kernel⟩, (tb4 158 (by decide +kernel) rfl), (tb4 159 (by decide +kernel) rfl)⟩
def Y_Net_searchRing : am_Y := (⟨"TwoCamps$Net", "searchRing", "()V"⟩, prog_6_method_7_code, 2, none)
theorem yv_Net_searchRing : am_yV Y_Net_searchRing 0 := ⟨⟨(tb1 11 (by decide +kernel) rfl), (tb4 164 (by decide +kernel) rfl), ⟨by decide +kernel, by decide +kernel, by decide +kernel⟩, by decide +kernel⟩, (tb4 162 (by decide +kernel) rfl), (tb4 163 (by decide +kernel) rfl)⟩
def Y_Net_walk : am_Y := (⟨"TwoCamps$Net", "walk", "(I)V"⟩, prog_6_method_8_code, 3, none)
theorem yv_Net_walk : am_yV Y_Net_walk 1 := ⟨⟨(tb1 11 (by decide +kernel) rfl), (tb4 168 (by decide +kernel) rfl), ⟨by decide +kernel, by decide +kernel, by decide +kernel⟩, by decide +kernel⟩, (tb4 167 (by decide +kernel) rfl), (tb_sel (y := ⟨"TwoCamps$Net", "walk", "(I)V"⟩) (n := 8) 33 (by decide +kernel))⟩
def Y_Net_arrive : am_Y := (⟨"TwoCamps$Net", "arrive", "(III)V"⟩, prog_6_method_10_code, 4, none)
theorem yv_Net_arrive : am_yV Y_Net_arrive 3 := ⟨⟨(tb1 11 (by decide +kernel) rfl), (tb4 173 (by decide +kernel) rfl), ⟨by decide +kernel, by decide +kernel, by decide +kernel⟩, by decide +kernel⟩, (tb4 172 (by decide +kernel) rfl), (tb_sel (y := ⟨"TwoCamps$Net", "arrive", "(III)V"⟩) (n := 8) 34 (by decide +kernel))⟩
def Y_Net_leave : am_Y := (⟨"TwoCamps$Net", "leave", "(I)V"⟩, prog_6_method_9_code, 6, none)
theorem yv_Net_leave : am_yV Y_Net_leave 1 := ⟨⟨(tb1 11 (by decide +kernel) rfl), (tb4 177 (by decide +kernel) rfl), ⟨by decide +kernel, by decide +kernel, by decide +kernel⟩, by decide +kernel⟩, (tb4 176 (by decide +kernel) rfl), (tb_sel (y := ⟨"TwoCamps$Net", "leave", "(I)V"⟩) (n := 8) 35 (by decide +kernel))⟩
def Y_Net_keepIfShorter : am_Y := (⟨"TwoCamps$Net", "keepIfShorter", "(I)V"⟩, prog_6_method_11_code, 5, none)
theorem yv_Net_keepIfShorter : am_yV Y_Net_keepIfShorter 1 := ⟨⟨(tb1 11 (by decide +kernel) rfl), (tb4 182 (by decide +kernel) rfl), ⟨by decide +kernel, by decide +kernel, by decide +kernel⟩, by decide +kernel⟩, (tb4 181 (by decide +kernel) rfl), (tb_sel (y := ⟨"TwoCamps$Net", "keepIfShorter", "(I)V"⟩) (n := 8) 36 (by decide +kernel))⟩
def Y_TC_least : am_Y := (⟨"TwoCamps", "least", "()I"⟩, prog_1_method_25_code, 1, some .int)
theorem yv_TC_least : am_yV Y_TC_least 0 := ⟨⟨(tb1 1 (by decide +kernel) rfl), (tb4 186 (by decide +kernel) rfl), ⟨by decide +kernel, by decide +kernel, by decide +kernel⟩, by decide +kernel⟩, (tb4 184 (by decide +kernel) rfl), (tb4 185 (by decide +kernel) rfl)⟩
def Y_Best_search : am_Y := (⟨"TwoCamps$Best", "search", "()V"⟩, prog_2_method_2_code, 3, none)
theorem yv_Best_search : am_yV Y_Best_search 0 := ⟨⟨(tb1 12 (by decide +kernel) rfl), (tb4 190 (by decide +kernel) rfl), ⟨by decide +kernel, by decide +kernel, by decide +kernel⟩, by decide +kernel⟩, (tb4 188 (by decide +kernel) rfl), (tb4 189 (by decide +kernel) rfl)⟩
def Y_Best_pastCampings : am_Y := (⟨"TwoCamps$Best", "pastCampings", "()I"⟩, prog_2_method_3_code, 1, some .int)
theorem yv_Best_pastCampings : am_yV Y_Best_pastCampings 0 := ⟨⟨(tb1 12 (by decide +kernel) rfl), (tb4 195 (by decide +kernel) rfl), ⟨by decide +kernel, by decide +kernel, by decide +kernel⟩, by decide +kernel⟩, (tb4 194 (by decide +kernel) rfl), (tb_sel (y := ⟨"TwoCamps$Best", "pastCampings", "()I"⟩) (n := 9) 37 (by decide +kernel))⟩
def Y_Best_sumOf : am_Y := (⟨"TwoCamps$Best", "sumOf", "(I)I"⟩, prog_2_method_4_code, 4, some .int)
theorem yv_Best_sumOf : am_yV Y_Best_sumOf 1 := ⟨⟨(tb1 12 (by decide +kernel) rfl), (tb4 199 (by decide +kernel) rfl), ⟨by decide +kernel, by decide +kernel, by decide +kernel⟩, by decide +kernel⟩, (tb4 198 (by decide +kernel) rfl), (tb_sel (y := ⟨"TwoCamps$Best", "sumOf", "(I)I"⟩) (n := 9) 38 (by decide +kernel))⟩
def Y_TC_all : am_Y := (⟨"TwoCamps", "all", "(I)I"⟩, prog_1_method_26_code, 2, some .int)
theorem yv_TC_all : am_yV Y_TC_all 1 := ⟨⟨(tb1 1 (by decide +kernel) rfl), (tb4 204 (by decide +kernel) rfl), ⟨by decide +kernel, by decide +kernel, by decide +kernel⟩, by decide +kernel⟩, (tb4 202 (by decide +kernel) rfl), (tb4 203 (by decide +kernel) rfl)⟩
def Y_TC_together : am_Y := (⟨"TwoCamps", "together", "(II)I"⟩, prog_1_method_27_code, 4, some .int)
theorem yv_TC_together : am_yV Y_TC_together 2 := ⟨⟨(tb1 1 (by decide +kernel) rfl), (tb4 208 (by decide +kernel) rfl), ⟨by decide +kernel, by decide +kernel, by decide +kernel⟩, by decide +kernel⟩, (tb4 206 (by decide +kernel) rfl), (tb4 207 (by decide +kernel) rfl)⟩
def Y_Best_timesTogether : am_Y := (⟨"TwoCamps$Best", "timesTogether", "(II)I"⟩, prog_2_method_5_code, 5, some .int)
theorem yv_Best_timesTogether : am_yV Y_Best_timesTogether 2 := ⟨⟨(tb1 12 (by decide +kernel) rfl), (tb4 212 (by decide +kernel) rfl), ⟨by decide +kernel, by decide +kernel, by decide +kernel⟩, by decide +kernel⟩, (tb4 210 (by decide +kernel) rfl), (tb4 211 (by decide +kernel) rfl)⟩
def Y_TC_aside : am_Y := (⟨"TwoCamps", "aside", "()I"⟩, prog_1_method_28_code, 4, some .int)
theorem yv_TC_aside : am_yV Y_TC_aside 0 := ⟨⟨(tb1 1 (by decide +kernel) rfl), (tb4 217 (by decide +kernel) rfl), ⟨by decide +kernel, by decide +kernel, by decide +kernel⟩, by decide +kernel⟩, (tb4 215 (by decide +kernel) rfl), (tb4 216 (by decide +kernel) rfl)⟩
def Y_People_isCheaper : am_Y := (⟨"TwoCamps$People", "isCheaper", "(II)Z"⟩, prog_7_method_5_code, 4, some .boolean)
theorem yv_People_isCheaper : am_yV Y_People_isCheaper 2 := ⟨⟨(tb1 2 (by decide +kernel) rfl), (tb4 221 (by decide +kernel) rfl), ⟨by decide +kernel, by decide +kernel, by decide +kernel⟩, by decide +kernel⟩, (tb4 219 (by decide +kernel) rfl), (tb4 220 (by decide +kernel) rfl)⟩
def Y_People_priceOf : am_Y := (⟨"TwoCamps$People", "priceOf", "(I)I"⟩, prog_7_method_6_code, 4, some .int)
theorem yv_People_priceOf : am_yV Y_People_priceOf 1 := ⟨⟨(tb1 2 (by decide +kernel) rfl), (tb4 226 (by decide +kernel) rfl), ⟨by decide +kernel, by decide +kernel, by decide +kernel⟩, by decide +kernel⟩, (tb4 225 (by decide +kernel) rfl), (tb_sel (y := ⟨"TwoCamps$People", "priceOf", "(I)I"⟩) (n := 3) 39 (by decide +kernel))⟩
def Y_TC_many : am_Y := (⟨"TwoCamps", "many", "(I)I"⟩, prog_1_method_29_code, 2, some .int)
theorem yv_TC_many : am_yV Y_TC_many 1 := ⟨⟨(tb1 1 (by decide +kernel) rfl), (tb4 230 (by decide +kernel) rfl), ⟨by decide +kernel, by decide +kernel, by decide +kernel⟩, by decide +kernel⟩, (tb4 228 (by decide +kernel) rfl), (tb4 229 (by decide +kernel) rfl)⟩
def Y_Best_leastSumIn : am_Y := (⟨"TwoCamps$Best", "leastSumIn", "(I)I"⟩, prog_2_method_10_code, 2, some .int)
theorem yv_Best_leastSumIn : am_yV Y_Best_leastSumIn 1 := ⟨⟨(tb1 12 (by decide +kernel) rfl), (tb4 234 (by decide +kernel) rfl), ⟨by decide +kernel, by decide +kernel, by decide +kernel⟩, by decide +kernel⟩, (tb4 232 (by decide +kernel) rfl), (tb4 233 (by decide +kernel) rfl)⟩
def Y_Best_spread : am_Y := (⟨"TwoCamps$Best", "spread", "(III)V"⟩, prog_2_method_11_code, 6, none)
theorem yv_Best_spread : am_yV Y_Best_spread 3 := ⟨⟨(tb1 12 (by decide +kernel) rfl), (tb4 238 (by decide +kernel) rfl), ⟨by decide +kernel, by decide +kernel, by decide +kernel⟩, by decide +kernel⟩, (tb4 237 (by decide +kernel) rfl), (tb_sel (y := ⟨"TwoCamps$Best", "spread", "(III)V"⟩) (n := 9) 40 (by decide +kernel))⟩
def Y_Best_costOfLast : am_Y := (⟨"TwoCamps$Best", "costOfLast", "(I)I"⟩, prog_2_method_12_code, 5, some .int)
theorem yv_Best_costOfLast : am_yV Y_Best_costOfLast 1 := ⟨⟨(tb1 12 (by decide +kernel) rfl), (tb5 2 (by decide +kernel) rfl), ⟨by decide +kernel, by decide +kernel, by decide +kernel⟩, by decide +kernel⟩, (tb5 1 (by decide +kernel) rfl), (tb_sel (y := ⟨"TwoCamps$Best", "costOfLast", "(I)I"⟩) (n := 9) 41 (by decide +kernel))⟩
def Y_TC_part : am_Y := (⟨"TwoCamps", "part", "(I)I"⟩, prog_1_method_30_code, 2, some .int)
theorem yv_TC_part : am_yV Y_TC_part 1 := ⟨⟨(tb1 1 (by decide +kernel) rfl), (tb5 9 (by decide +kernel) rfl), ⟨by decide +kernel, by decide +kernel, by decide +kernel⟩, by decide +kernel⟩, (tb5 7 (by decide +kernel) rfl), (tb5 8 (by decide +kernel) rfl)⟩
def Y_Net_leastOf : am_Y := (⟨"TwoCamps$Net", "leastOf", "(I)I"⟩, prog_6_method_2_code, 5, some .int)
theorem yv_Net_leastOf : am_yV Y_Net_leastOf 1 := ⟨⟨(tb1 11 (by decide +kernel) rfl), (tb5 13 (by decide +kernel) rfl), ⟨by decide +kernel, by decide +kernel, by decide +kernel⟩, by decide +kernel⟩, (tb5 11 (by decide +kernel) rfl), (tb5 12 (by decide +kernel) rfl)⟩
def Y_TC_doors : am_Y := (⟨"TwoCamps", "doors", "()I"⟩, prog_1_method_31_code, 4, some .int)
theorem yv_TC_doors : am_yV Y_TC_doors 0 := ⟨⟨(tb1 1 (by decide +kernel) rfl), (tb5 17 (by decide +kernel) rfl), ⟨by decide +kernel, by decide +kernel, by decide +kernel⟩, by decide +kernel⟩, (tb5 15 (by decide +kernel) rfl), (tb5 16 (by decide +kernel) rfl)⟩
def Y_Net_countWithout : am_Y := (⟨"TwoCamps$Net", "countWithout", "(I)I"⟩, prog_6_method_3_code, 5, some .int)
theorem yv_Net_countWithout : am_yV Y_Net_countWithout 1 := ⟨⟨(tb1 11 (by decide +kernel) rfl), (tb5 21 (by decide +kernel) rfl), ⟨by decide +kernel, by decide +kernel, by decide +kernel⟩, by decide +kernel⟩, (tb5 19 (by decide +kernel) rfl), (tb5 20 (by decide +kernel) rfl)⟩
def Y_TC_threes : am_Y := (⟨"TwoCamps", "threes", "()I"⟩, prog_1_method_32_code, 3, some .int)
theorem yv_TC_threes : am_yV Y_TC_threes 0 := ⟨⟨(tb1 1 (by decide +kernel) rfl), (tb5 25 (by decide +kernel) rfl), ⟨by decide +kernel, by decide +kernel, by decide +kernel⟩, by decide +kernel⟩, (tb5 23 (by decide +kernel) rfl), (tb5 24 (by decide +kernel) rfl)⟩
def Y_TC_step : am_Y := (⟨"TwoCamps", "step", "(I)I"⟩, prog_1_method_33_code, 2, some .int)
theorem yv_TC_step : am_yV Y_TC_step 1 := ⟨⟨(tb1 1 (by decide +kernel) rfl), (tb5 29 (by decide +kernel) rfl), ⟨by decide +kernel, by decide +kernel, by decide +kernel⟩, by decide +kernel⟩, (tb5 27 (by decide +kernel) rfl), (tb5 28 (by decide +kernel) rfl)⟩
def Y_TC_turnWorst : am_Y := (⟨"TwoCamps", "turnWorst", "(I)I"⟩, prog_1_method_36_code, 6, some .int)
theorem yv_TC_turnWorst : am_yV Y_TC_turnWorst 1 := ⟨⟨(tb1 1 (by decide +kernel) rfl), (tb5 33 (by decide +kernel) rfl), ⟨by decide +kernel, by decide +kernel, by decide +kernel⟩, by decide +kernel⟩, (tb5 32 (by decide +kernel) rfl), (tb_sel (y := ⟨"TwoCamps", "turnWorst", "(I)I"⟩) (n := 16) 42 (by decide +kernel))⟩
def Y_Feelings_isOf : am_Y := (⟨"TwoCamps$Feelings", "isOf", "(II)Z"⟩, prog_4_method_5_code, 3, some .boolean)
theorem yv_Feelings_isOf : am_yV Y_Feelings_isOf 2 := ⟨⟨(tb1 3 (by decide +kernel) rfl), (tb5 37 (by decide +kernel) rfl), ⟨by decide +kernel, by decide +kernel, by decide +kernel⟩, by decide +kernel⟩, (tb5 35 (by decide +kernel) rfl), (tb5 36 (by decide +kernel) rfl)⟩
def Y_TC_ends : am_Y := (⟨"TwoCamps", "ends", "(I)I"⟩, prog_1_method_34_code, 4, some .int)
theorem yv_TC_ends : am_yV Y_TC_ends 1 := ⟨⟨(tb1 1 (by decide +kernel) rfl), (tb5 41 (by decide +kernel) rfl), ⟨by decide +kernel, by decide +kernel, by decide +kernel⟩, by decide +kernel⟩, (tb5 39 (by decide +kernel) rfl), (tb5 40 (by decide +kernel) rfl)⟩
def Y_Feelings_keepSigns : am_Y := (⟨"TwoCamps$Feelings", "keepSigns", "()V"⟩, prog_4_method_11_code, 1, none)
theorem yv_Feelings_keepSigns : am_yV Y_Feelings_keepSigns 0 := ⟨⟨(tb1 3 (by decide +kernel) rfl), (tb5 45 (by decide +kernel) rfl), ⟨by decide +kernel, by decide +kernel, by decide +kernel⟩, by decide +kernel⟩, (tb5 43 (by decide +kernel) rfl), (tb5 44 (by decide +kernel) rfl)⟩
def Y_TC_turnAll : am_Y := (⟨"TwoCamps", "turnAll", "()Z"⟩, prog_1_method_35_code, 3, some .boolean)
theorem yv_TC_turnAll : am_yV Y_TC_turnAll 0 := ⟨⟨(tb1 1 (by decide +kernel) rfl), (tb5 50 (by decide +kernel) rfl), ⟨by decide +kernel, by decide +kernel, by decide +kernel⟩, by decide +kernel⟩, (tb5 49 (by decide +kernel) rfl), (tb_sel (y := ⟨"TwoCamps", "turnAll", "()Z"⟩) (n := 16) 43 (by decide +kernel))⟩
def Y_Feelings_restoreSigns : am_Y := (⟨"TwoCamps$Feelings", "restoreSigns", "()V"⟩, prog_4_method_12_code, 1, none)
theorem yv_Feelings_restoreSigns : am_yV Y_Feelings_restoreSigns 0 := ⟨⟨(tb1 3 (by decide +kernel) rfl), (tb5 54 (by decide +kernel) rfl), ⟨by decide +kernel, by decide +kernel, by decide +kernel⟩, by decide +kernel⟩, (tb5 52 (by decide +kernel) rfl), (tb5 53 (by decide +kernel) rfl)⟩
def Y_TC_meet : am_Y := (⟨"TwoCamps", "meet", "(III)J"⟩, prog_1_method_37_code, 6, some .long)
theorem yv_TC_meet : am_yV Y_TC_meet 3 := ⟨⟨(tb1 1 (by decide +kernel) rfl), (tb5 58 (by decide +kernel) rfl), ⟨by decide +kernel, by decide +kernel, by decide +kernel⟩, by decide +kernel⟩, (tb5 56 (by decide +kernel) rfl), (tb5 57 (by decide +kernel) rfl)⟩
def Y_TC_commonDivisor : am_Y := (⟨"TwoCamps", "commonDivisor", "(II)I"⟩, prog_1_method_43_code, 6, some .int)
theorem ys_TC_commonDivisor : am_yS Y_TC_commonDivisor 2 := ⟨⟨(tb1 1 (by decide +kernel) rfl), (tb5 61 (by decide +kernel) rfl), ⟨by decide +kernel, by decide +kernel, by decide +kernel⟩, by decide +kernel⟩, (tb5 60 (by decide +kernel) rfl)⟩
def Y_TC_edge : am_Y := (⟨"TwoCamps", "edge", "(I)J"⟩, prog_1_method_38_code, 2, some .long)
theorem yv_TC_edge : am_yV Y_TC_edge 1 := ⟨⟨(tb1 1 (by decide +kernel) rfl), (tb5 65 (by decide +kernel) rfl), ⟨by decide +kernel, by decide +kernel, by decide +kernel⟩, by decide +kernel⟩, (tb5 63 (by decide +kernel) rfl), (tb5 64 (by decide +kernel) rfl)⟩
def Y_Best_edgeOf : am_Y := (⟨"TwoCamps$Best", "edgeOf", "(I)I"⟩, prog_2_method_6_code, 4, some .int)
theorem yv_Best_edgeOf : am_yV Y_Best_edgeOf 1 := ⟨⟨(tb1 12 (by decide +kernel) rfl), (tb5 69 (by decide +kernel) rfl), ⟨by decide +kernel, by decide +kernel, by decide +kernel⟩, by decide +kernel⟩, (tb5 67 (by decide +kernel) rfl), (tb5 68 (by decide +kernel) rfl)⟩
def Y_Best_leastSumWith : am_Y := (⟨"TwoCamps$Best", "leastSumWith", "(IZ)I"⟩, prog_2_method_7_code, 6, some .int)
theorem yv_Best_leastSumWith : am_yV Y_Best_leastSumWith 2 := ⟨⟨(tb1 12 (by decide +kernel) rfl), (tb5 73 (by decide +kernel) rfl), ⟨by decide +kernel, by decide +kernel, by decide +kernel⟩, by decide +kernel⟩, (tb5 72 (by decide +kernel) rfl), (tb_sel (y := ⟨"TwoCamps$Best", "leastSumWith", "(IZ)I"⟩) (n := 9) 44 (by decide +kernel))⟩
def Y_TC_bring : am_Y := (⟨"TwoCamps", "bring", "(II)I"⟩, prog_1_method_39_code, 3, some .int)
theorem yv_TC_bring : am_yV Y_TC_bring 2 := ⟨⟨(tb1 1 (by decide +kernel) rfl), (tb5 78 (by decide +kernel) rfl), ⟨by decide +kernel, by decide +kernel, by decide +kernel⟩, by decide +kernel⟩, (tb5 76 (by decide +kernel) rfl), (tb5 77 (by decide +kernel) rfl)⟩
def Y_Best_fewestToTell : am_Y := (⟨"TwoCamps$Best", "fewestToTell", "(II)I"⟩, prog_2_method_8_code, 7, some .int)
theorem yv_Best_fewestToTell : am_yV Y_Best_fewestToTell 2 := ⟨⟨(tb1 12 (by decide +kernel) rfl), (tb5 83 (by decide +kernel) rfl), ⟨by decide +kernel, by decide +kernel, by decide +kernel⟩, by decide +kernel⟩, (tb5 81 (by decide +kernel) rfl), (tb5 82 (by decide +kernel) rfl)⟩
def Y_Best_isEnough : am_Y := (⟨"TwoCamps$Best", "isEnough", "(III)Z"⟩, prog_2_method_9_code, 5, some .boolean)
theorem yv_Best_isEnough : am_yV Y_Best_isEnough 3 := ⟨⟨(tb1 12 (by decide +kernel) rfl), (tb5 88 (by decide +kernel) rfl), ⟨by decide +kernel, by decide +kernel, by decide +kernel⟩, by decide +kernel⟩, (tb5 87 (by decide +kernel) rfl), (tb_sel (y := ⟨"TwoCamps$Best", "isEnough", "(III)Z"⟩) (n := 9) 45 (by decide +kernel))⟩
def Y_TC_image : am_Y := (⟨"TwoCamps", "image", "()I"⟩, prog_1_method_40_code, 1, some .int)
theorem yv_TC_image : am_yV Y_TC_image 0 := ⟨⟨(tb1 1 (by decide +kernel) rfl), (tb5 92 (by decide +kernel) rfl), ⟨by decide +kernel, by decide +kernel, by decide +kernel⟩, by decide +kernel⟩, (tb5 90 (by decide +kernel) rfl), (tb5 91 (by decide +kernel) rfl)⟩
def Y_People_become : am_Y := (⟨"TwoCamps$People", "become", "(LTwoCamps$People;)V"⟩, prog_7_method_7_code, 2, none)
theorem yv_People_become : am_yV Y_People_become 1 := ⟨⟨(tb1 2 (by decide +kernel) rfl), (tb5 96 (by decide +kernel) rfl), ⟨by decide +kernel, by decide +kernel, by decide +kernel⟩, by decide +kernel⟩, (tb5 94 (by decide +kernel) rfl), (tb5 95 (by decide +kernel) rfl)⟩
def Y_People_takeBack : am_Y := (⟨"TwoCamps$People", "takeBack", "(LTwoCamps$People;)V"⟩, prog_7_method_8_code, 2, none)
theorem yv_People_takeBack : am_yV Y_People_takeBack 1 := ⟨⟨(tb1 2 (by decide +kernel) rfl), (tb5 100 (by decide +kernel) rfl), ⟨by decide +kernel, by decide +kernel, by decide +kernel⟩, by decide +kernel⟩, (tb5 98 (by decide +kernel) rfl), (tb5 99 (by decide +kernel) rfl)⟩
def Y_Feelings_become : am_Y := (⟨"TwoCamps$Feelings", "become", "(LTwoCamps$Feelings;)V"⟩, prog_4_method_13_code, 2, none)
theorem yv_Feelings_become : am_yV Y_Feelings_become 1 := ⟨⟨(tb1 3 (by decide +kernel) rfl), (tb5 105 (by decide +kernel) rfl), ⟨by decide +kernel, by decide +kernel, by decide +kernel⟩, by decide +kernel⟩, (tb5 103 (by decide +kernel) rfl), (tb5 104 (by decide +kernel) rfl)⟩
def Y_TC_back : am_Y := (⟨"TwoCamps", "back", "()I"⟩, prog_1_method_41_code, 1, some .int)
theorem yv_TC_back : am_yV Y_TC_back 0 := ⟨⟨(tb1 1 (by decide +kernel) rfl), (tb5 109 (by decide +kernel) rfl), ⟨by decide +kernel, by decide +kernel, by decide +kernel⟩, by decide +kernel⟩, (tb5 107 (by decide +kernel) rfl), (tb5 108 (by decide +kernel) rfl)⟩
def Y_TC_count : am_Y := (⟨"TwoCamps", "count", "(I)I"⟩, prog_1_method_42_code, 2, some .int)
theorem yv_TC_count : am_yV Y_TC_count 1 := ⟨⟨(tb1 1 (by decide +kernel) rfl), (tb5 114 (by decide +kernel) rfl), ⟨by decide +kernel, by decide +kernel, by decide +kernel⟩, by decide +kernel⟩, (tb5 112 (by decide +kernel) rfl), (tb5 113 (by decide +kernel) rfl)⟩
def Y_Feelings_hatreds : am_Y := (⟨"TwoCamps$Feelings", "hatreds", "()I"⟩, prog_4_method_10_code, 3, some .int)
theorem yv_Feelings_hatreds : am_yV Y_Feelings_hatreds 0 := ⟨⟨(tb1 3 (by decide +kernel) rfl), (tb5 118 (by decide +kernel) rfl), ⟨by decide +kernel, by decide +kernel, by decide +kernel⟩, by decide +kernel⟩, (tb5 116 (by decide +kernel) rfl), (tb5 117 (by decide +kernel) rfl)⟩
def Y_TC_sheet : am_Y := (⟨"TwoCamps", "sheet", "(III)I"⟩, prog_1_method_45_code, 4, some .int)
theorem yv_TC_sheet : am_yV Y_TC_sheet 3 := ⟨⟨(tb1 1 (by decide +kernel) rfl), (tb5 122 (by decide +kernel) rfl), ⟨by decide +kernel, by decide +kernel, by decide +kernel⟩, by decide +kernel⟩, (tb5 120 (by decide +kernel) rfl), (tb5 121 (by decide +kernel) rfl)⟩
def Y_Sheet_become : am_Y := (⟨"TwoCamps$Sheet", "become", "(II)V"⟩, prog_8_method_3_code, 3, none)
theorem yv_Sheet_become : am_yV Y_Sheet_become 2 := ⟨⟨(tb1 13 (by decide +kernel) rfl), (tb5 126 (by decide +kernel) rfl), ⟨by decide +kernel, by decide +kernel, by decide +kernel⟩, by decide +kernel⟩, (tb5 124 (by decide +kernel) rfl), (tb5 125 (by decide +kernel) rfl)⟩
def Y_TC_cell : am_Y := (⟨"TwoCamps", "cell", "(III)I"⟩, prog_1_method_46_code, 4, some .int)
theorem yv_TC_cell : am_yV Y_TC_cell 3 := ⟨⟨(tb1 1 (by decide +kernel) rfl), (tb5 131 (by decide +kernel) rfl), ⟨by decide +kernel, by decide +kernel, by decide +kernel⟩, by decide +kernel⟩, (tb5 129 (by decide +kernel) rfl), (tb5 130 (by decide +kernel) rfl)⟩
def Y_Sheet_holds : am_Y := (⟨"TwoCamps$Sheet", "holds", "(II)Z"⟩, prog_8_method_4_code, 3, some .boolean)
theorem yv_Sheet_holds : am_yV Y_Sheet_holds 2 := ⟨⟨(tb1 13 (by decide +kernel) rfl), (tb5 135 (by decide +kernel) rfl), ⟨by decide +kernel, by decide +kernel, by decide +kernel⟩, by decide +kernel⟩, (tb5 133 (by decide +kernel) rfl), (tb5 134 (by decide +kernel) rfl)⟩
def Y_Sheet_put : am_Y := (⟨"TwoCamps$Sheet", "put", "(II)V"⟩, prog_8_method_5_code, 3, none)
theorem yv_Sheet_put : am_yV Y_Sheet_put 2 := ⟨⟨(tb1 13 (by decide +kernel) rfl), (tb5 139 (by decide +kernel) rfl), ⟨by decide +kernel, by decide +kernel, by decide +kernel⟩, by decide +kernel⟩, (tb5 137 (by decide +kernel) rfl), (tb5 138 (by decide +kernel) rfl)⟩
def Y_TC_copy : am_Y := (⟨"TwoCamps", "copy", "(IIIII)I"⟩, prog_1_method_47_code, 8, some .int)
theorem yv_TC_copy : am_yV Y_TC_copy 5 := ⟨⟨(tb1 1 (by decide +kernel) rfl), (tb5 143 (by decide +kernel) rfl), ⟨by decide +kernel, by decide +kernel, by decide +kernel⟩, by decide +kernel⟩, (tb5 141 (by decide +kernel) rfl), (tb5 142 (by decide +kernel) rfl)⟩
def Y_TC_feels : am_Y := (⟨"TwoCamps", "feels", "(IIII)I"⟩, prog_1_method_48_code, 10, some .int)
theorem yv_TC_feels : am_yV Y_TC_feels 4 := ⟨⟨(tb1 1 (by decide +kernel) rfl), (tb5 148 (by decide +kernel) rfl), ⟨by decide +kernel, by decide +kernel, by decide +kernel⟩, by decide +kernel⟩, (tb5 146 (by decide +kernel) rfl), (tb5 147 (by decide +kernel) rfl)⟩
def Y_TC_taken : am_Y := (⟨"TwoCamps", "taken", "(II)I"⟩, prog_1_method_49_code, 3, some .int)
theorem yv_TC_taken : am_yV Y_TC_taken 2 := ⟨⟨(tb1 1 (by decide +kernel) rfl), (tb5 153 (by decide +kernel) rfl), ⟨by decide +kernel, by decide +kernel, by decide +kernel⟩, by decide +kernel⟩, (tb5 151 (by decide +kernel) rfl), (tb5 152 (by decide +kernel) rfl)⟩
def Y_MO_init : am_Y := (⟨"TwoCampsModel", "<init>", "()V"⟩, prog_14_method_3_code, 1, none)
def Y_MO_spell : am_Y := (⟨"TwoCampsModel", "spell", "(IJ)V"⟩, prog_14_method_4_code, 5, none)
theorem yv_MO_spell : am_yV Y_MO_spell 2 := ⟨⟨(tb1 14 (by decide +kernel) rfl), (tb5 165 (by decide +kernel) rfl), ⟨by decide +kernel, by decide +kernel, by decide +kernel⟩, by decide +kernel⟩, (tb5 164 (by decide +kernel) rfl), (tb_sel (y := ⟨"TwoCampsModel", "spell", "(IJ)V"⟩) (n := 53) 46 (by decide +kernel))⟩
def Y_MO_person : am_Y := (⟨"TwoCampsModel", "person", "(I)I"⟩, prog_14_method_7_code, 2, some .int)
theorem yv_MO_person : am_yV Y_MO_person 1 := ⟨⟨(tb1 14 (by decide +kernel) rfl), (tb6 92 (by decide +kernel) rfl), ⟨by decide +kernel, by decide +kernel, by decide +kernel⟩, by decide +kernel⟩, (tb6 90 (by decide +kernel) rfl), (tb6 91 (by decide +kernel) rfl)⟩
def Y_MO_in : am_Y := (⟨"TwoCampsModel", "in", "(JJJ)Z"⟩, prog_14_method_2_code, 6, some .boolean)
theorem ys_MO_in : am_yS Y_MO_in 3 := ⟨⟨(tb1 14 (by decide +kernel) rfl), (tb6 96 (by decide +kernel) rfl), ⟨by decide +kernel, by decide +kernel, by decide +kernel⟩, by decide +kernel⟩, (tb6 95 (by decide +kernel) rfl)⟩
def Y_MO_set : am_Y := (⟨"TwoCampsModel", "set", "(III)I"⟩, prog_14_method_8_code, 5, some .int)
theorem yv_MO_set : am_yV Y_MO_set 3 := ⟨⟨(tb1 14 (by decide +kernel) rfl), (tb6 100 (by decide +kernel) rfl), ⟨by decide +kernel, by decide +kernel, by decide +kernel⟩, by decide +kernel⟩, (tb6 98 (by decide +kernel) rfl), (tb6 99 (by decide +kernel) rfl)⟩
def Y_MO_isPerson : am_Y := (⟨"TwoCampsModel", "isPerson", "(I)Z"⟩, prog_14_method_5_code, 2, some .boolean)
theorem yv_MO_isPerson : am_yV Y_MO_isPerson 1 := ⟨⟨(tb1 14 (by decide +kernel) rfl), (tb6 104 (by decide +kernel) rfl), ⟨by decide +kernel, by decide +kernel, by decide +kernel⟩, by decide +kernel⟩, (tb6 103 (by decide +kernel) rfl), (tb_sel (y := ⟨"TwoCampsModel", "isPerson", "(I)Z"⟩) (n := 53) 47 (by decide +kernel))⟩
def Y_MO_feel : am_Y := (⟨"TwoCampsModel", "feel", "(IIIII)I"⟩, prog_14_method_11_code, 6, some .int)
theorem yv_MO_feel : am_yV Y_MO_feel 5 := ⟨⟨(tb1 14 (by decide +kernel) rfl), (tb6 109 (by decide +kernel) rfl), ⟨by decide +kernel, by decide +kernel, by decide +kernel⟩, by decide +kernel⟩, (tb6 107 (by decide +kernel) rfl), (tb6 108 (by decide +kernel) rfl)⟩
def Y_MO_tells : am_Y := (⟨"TwoCampsModel", "tells", "(IIIIII)I"⟩, prog_14_method_10_code, 8, some .int)
theorem yv_MO_tells : am_yV Y_MO_tells 6 := ⟨⟨(tb1 14 (by decide +kernel) rfl), (tb6 114 (by decide +kernel) rfl), ⟨by decide +kernel, by decide +kernel, by decide +kernel⟩, by decide +kernel⟩, (tb6 113 (by decide +kernel) rfl), (tb_sel (y := ⟨"TwoCampsModel", "tells", "(IIIIII)I"⟩) (n := 53) 48 (by decide +kernel))⟩
def Y_MO_of : am_Y := (⟨"TwoCampsModel", "of", "(II)I"⟩, prog_14_method_9_code, 4, some .int)
theorem yv_MO_of : am_yV Y_MO_of 2 := ⟨⟨(tb1 14 (by decide +kernel) rfl), (tb6 118 (by decide +kernel) rfl), ⟨by decide +kernel, by decide +kernel, by decide +kernel⟩, by decide +kernel⟩, (tb6 117 (by decide +kernel) rfl), (tb_sel (y := ⟨"TwoCampsModel", "of", "(II)I"⟩) (n := 53) 49 (by decide +kernel))⟩
def Y_MO_felt : am_Y := (⟨"TwoCampsModel", "felt", "(II)I"⟩, prog_14_method_12_code, 3, some .int)
theorem yv_MO_felt : am_yV Y_MO_felt 2 := ⟨⟨(tb1 14 (by decide +kernel) rfl), (tb6 122 (by decide +kernel) rfl), ⟨by decide +kernel, by decide +kernel, by decide +kernel⟩, by decide +kernel⟩, (tb6 120 (by decide +kernel) rfl), (tb6 121 (by decide +kernel) rfl)⟩
def Y_MO_isFeeling : am_Y := (⟨"TwoCampsModel", "isFeeling", "(I)Z"⟩, prog_14_method_6_code, 2, some .boolean)
theorem yv_MO_isFeeling : am_yV Y_MO_isFeeling 1 := ⟨⟨(tb1 14 (by decide +kernel) rfl), (tb6 126 (by decide +kernel) rfl), ⟨by decide +kernel, by decide +kernel, by decide +kernel⟩, by decide +kernel⟩, (tb6 125 (by decide +kernel) rfl), (tb_sel (y := ⟨"TwoCampsModel", "isFeeling", "(I)Z"⟩) (n := 53) 50 (by decide +kernel))⟩
def Y_MO_costOf : am_Y := (⟨"TwoCampsModel", "costOf", "(I)I"⟩, prog_14_method_30_code, 3, some .int)
theorem yv_MO_costOf : am_yV Y_MO_costOf 1 := ⟨⟨(tb1 14 (by decide +kernel) rfl), (tb6 130 (by decide +kernel) rfl), ⟨by decide +kernel, by decide +kernel, by decide +kernel⟩, by decide +kernel⟩, (tb6 129 (by decide +kernel) rfl), (tb_sel (y := ⟨"TwoCampsModel", "costOf", "(I)I"⟩) (n := 53) 51 (by decide +kernel))⟩
def Y_MO_read : am_Y := (⟨"TwoCampsModel", "read", "(III)I"⟩, prog_14_method_29_code, 6, some .int)
theorem yv_MO_read : am_yV Y_MO_read 3 := ⟨⟨(tb1 14 (by decide +kernel) rfl), (tb6 134 (by decide +kernel) rfl), ⟨by decide +kernel, by decide +kernel, by decide +kernel⟩, by decide +kernel⟩, (tb6 133 (by decide +kernel) rfl), (tb_sel (y := ⟨"TwoCampsModel", "read", "(III)I"⟩) (n := 53) 52 (by decide +kernel))⟩
def Y_MO_next : am_Y := (⟨"TwoCampsModel", "next", "()V"⟩, prog_14_method_16_code, 3, none)
theorem yv_MO_next : am_yV Y_MO_next 0 := ⟨⟨(tb1 14 (by decide +kernel) rfl), (tb6 138 (by decide +kernel) rfl), ⟨by decide +kernel, by decide +kernel, by decide +kernel⟩, by decide +kernel⟩, (tb6 137 (by decide +kernel) rfl), (tb_sel (y := ⟨"TwoCampsModel", "next", "()V"⟩) (n := 53) 53 (by decide +kernel))⟩
def Y_MO_byteAt : am_Y := (⟨"TwoCampsModel", "byteAt", "(I)I"⟩, prog_14_method_15_code, 2, some .int)
theorem yv_MO_byteAt : am_yV Y_MO_byteAt 1 := ⟨⟨(tb1 14 (by decide +kernel) rfl), (tb6 142 (by decide +kernel) rfl), ⟨by decide +kernel, by decide +kernel, by decide +kernel⟩, by decide +kernel⟩, (tb6 141 (by decide +kernel) rfl), (tb_sel (y := ⟨"TwoCampsModel", "byteAt", "(I)I"⟩) (n := 53) 54 (by decide +kernel))⟩
def Y_MO_part : am_Y := (⟨"TwoCampsModel", "part", "(J)I"⟩, prog_14_method_28_code, 4, some .int)
theorem yv_MO_part : am_yV Y_MO_part 1 := ⟨⟨(tb1 14 (by decide +kernel) rfl), (tb6 154 (by decide +kernel) rfl), ⟨by decide +kernel, by decide +kernel, by decide +kernel⟩, by decide +kernel⟩, (tb6 153 (by decide +kernel) rfl), (tb_sel (y := ⟨"TwoCampsModel", "part", "(J)I"⟩) (n := 53) 55 (by decide +kernel))⟩
def Y_MO_isWord : am_Y := (⟨"TwoCampsModel", "isWord", "(J)Z"⟩, prog_14_method_18_code, 3, some .boolean)
theorem yv_MO_isWord : am_yV Y_MO_isWord 1 := ⟨⟨(tb1 14 (by decide +kernel) rfl), (tb6 158 (by decide +kernel) rfl), ⟨by decide +kernel, by decide +kernel, by decide +kernel⟩, by decide +kernel⟩, (tb6 157 (by decide +kernel) rfl), (tb_sel (y := ⟨"TwoCampsModel", "isWord", "(J)Z"⟩) (n := 53) 56 (by decide +kernel))⟩
def Y_MO_fail : am_Y := (⟨"TwoCampsModel", "fail", "()V"⟩, prog_14_method_17_code, 1, none)
theorem yv_MO_fail : am_yV Y_MO_fail 0 := ⟨⟨(tb1 14 (by decide +kernel) rfl), (tb6 162 (by decide +kernel) rfl), ⟨by decide +kernel, by decide +kernel, by decide +kernel⟩, by decide +kernel⟩, (tb6 161 (by decide +kernel) rfl), (tb_sel (y := ⟨"TwoCampsModel", "fail", "()V"⟩) (n := 53) 57 (by decide +kernel))⟩
def Y_MO_either : am_Y := (⟨"TwoCampsModel", "either", "()I"⟩, prog_14_method_27_code, 3, some .int)
theorem yv_MO_either : am_yV Y_MO_either 0 := ⟨⟨(tb1 14 (by decide +kernel) rfl), (tb6 166 (by decide +kernel) rfl), ⟨by decide +kernel, by decide +kernel, by decide +kernel⟩, by decide +kernel⟩, (tb6 165 (by decide +kernel) rfl), (tb_sel (y := ⟨"TwoCampsModel", "either", "()I"⟩) (n := 53) 58 (by decide +kernel))⟩
def Y_MO_both : am_Y := (⟨"TwoCampsModel", "both", "()I"⟩, prog_14_method_26_code, 3, some .int)
theorem yv_MO_both : am_yV Y_MO_both 0 := ⟨⟨(tb1 14 (by decide +kernel) rfl), (tb6 170 (by decide +kernel) rfl), ⟨by decide +kernel, by decide +kernel, by decide +kernel⟩, by decide +kernel⟩, (tb6 169 (by decide +kernel) rfl), (tb_sel (y := ⟨"TwoCampsModel", "both", "()I"⟩) (n := 53) 59 (by decide +kernel))⟩
def Y_MO_not : am_Y := (⟨"TwoCampsModel", "not", "()I"⟩, prog_14_method_25_code, 4, some .int)
theorem yv_MO_not : am_yV Y_MO_not 0 := ⟨⟨(tb1 14 (by decide +kernel) rfl), (tb6 174 (by decide +kernel) rfl), ⟨by decide +kernel, by decide +kernel, by decide +kernel⟩, by decide +kernel⟩, (tb6 173 (by decide +kernel) rfl), (tb_sel (y := ⟨"TwoCampsModel", "not", "()I"⟩) (n := 53) 60 (by decide +kernel))⟩
def Y_MO_opens : am_Y := (⟨"TwoCampsModel", "opens", "()Z"⟩, prog_14_method_20_code, 1, some .boolean)
theorem yv_MO_opens : am_yV Y_MO_opens 0 := ⟨⟨(tb1 14 (by decide +kernel) rfl), (tb6 179 (by decide +kernel) rfl), ⟨by decide +kernel, by decide +kernel, by decide +kernel⟩, by decide +kernel⟩, (tb6 178 (by decide +kernel) rfl), (tb_sel (y := ⟨"TwoCampsModel", "opens", "()Z"⟩) (n := 53) 61 (by decide +kernel))⟩
def Y_MO_added : am_Y := (⟨"TwoCampsModel", "added", "()I"⟩, prog_14_method_24_code, 4, some .int)
theorem yv_MO_added : am_yV Y_MO_added 0 := ⟨⟨(tb1 14 (by decide +kernel) rfl), (tb6 183 (by decide +kernel) rfl), ⟨by decide +kernel, by decide +kernel, by decide +kernel⟩, by decide +kernel⟩, (tb6 182 (by decide +kernel) rfl), (tb_sel (y := ⟨"TwoCampsModel", "added", "()I"⟩) (n := 53) 62 (by decide +kernel))⟩
def Y_MO_term : am_Y := (⟨"TwoCampsModel", "term", "()I"⟩, prog_14_method_23_code, 2, some .int)
theorem yv_MO_term : am_yV Y_MO_term 0 := ⟨⟨(tb1 14 (by decide +kernel) rfl), (tb6 187 (by decide +kernel) rfl), ⟨by decide +kernel, by decide +kernel, by decide +kernel⟩, by decide +kernel⟩, (tb6 186 (by decide +kernel) rfl), (tb_sel (y := ⟨"TwoCampsModel", "term", "()I"⟩) (n := 53) 63 (by decide +kernel))⟩
def Y_MO_one : am_Y := (⟨"TwoCampsModel", "one", "()I"⟩, prog_14_method_22_code, 2, some .int)
theorem yv_MO_one : am_yV Y_MO_one 0 := ⟨⟨(tb1 14 (by decide +kernel) rfl), (tb6 191 (by decide +kernel) rfl), ⟨by decide +kernel, by decide +kernel, by decide +kernel⟩, by decide +kernel⟩, (tb6 190 (by decide +kernel) rfl), (tb_sel (y := ⟨"TwoCampsModel", "one", "()I"⟩) (n := 53) 64 (by decide +kernel))⟩
def Y_MO_isSign : am_Y := (⟨"TwoCampsModel", "isSign", "(I)Z"⟩, prog_14_method_19_code, 2, some .boolean)
theorem yv_MO_isSign : am_yV Y_MO_isSign 1 := ⟨⟨(tb1 14 (by decide +kernel) rfl), (tb6 195 (by decide +kernel) rfl), ⟨by decide +kernel, by decide +kernel, by decide +kernel⟩, by decide +kernel⟩, (tb6 194 (by decide +kernel) rfl), (tb_sel (y := ⟨"TwoCampsModel", "isSign", "(I)Z"⟩) (n := 53) 65 (by decide +kernel))⟩
def Y_MO_name : am_Y := (⟨"TwoCampsModel", "name", "()I"⟩, prog_14_method_21_code, 1, some .int)
theorem yv_MO_name : am_yV Y_MO_name 0 := ⟨⟨(tb1 14 (by decide +kernel) rfl), (tb6 199 (by decide +kernel) rfl), ⟨by decide +kernel, by decide +kernel, by decide +kernel⟩, by decide +kernel⟩, (tb6 198 (by decide +kernel) rfl), (tb_sel (y := ⟨"TwoCampsModel", "name", "()I"⟩) (n := 53) 66 (by decide +kernel))⟩
def Y_MO_badThrees : am_Y := (⟨"TwoCampsModel", "badThrees", "(I)I"⟩, prog_14_method_75_code, 4, some .int)
theorem yv_MO_badThrees : am_yV Y_MO_badThrees 1 := ⟨⟨(tb1 14 (by decide +kernel) rfl), (tb6 214 (by decide +kernel) rfl), ⟨by decide +kernel, by decide +kernel, by decide +kernel⟩, by decide +kernel⟩, (tb6 213 (by decide +kernel) rfl), (tb_sel (y := ⟨"TwoCampsModel", "badThrees", "(I)I"⟩) (n := 53) 67 (by decide +kernel))⟩
def Y_MO_isBadThree : am_Y := (⟨"TwoCampsModel", "isBadThree", "(III)Z"⟩, prog_14_method_74_code, 7, some .boolean)
theorem yv_MO_isBadThree : am_yV Y_MO_isBadThree 3 := ⟨⟨(tb1 14 (by decide +kernel) rfl), (tb6 218 (by decide +kernel) rfl), ⟨by decide +kernel, by decide +kernel, by decide +kernel⟩, by decide +kernel⟩, (tb6 217 (by decide +kernel) rfl), (tb_sel (y := ⟨"TwoCampsModel", "isBadThree", "(III)Z"⟩) (n := 53) 68 (by decide +kernel))⟩
def Y_MO_between : am_Y := (⟨"TwoCampsModel", "between", "(II)I"⟩, prog_14_method_13_code, 3, some .int)
theorem yv_MO_between : am_yV Y_MO_between 2 := ⟨⟨(tb1 14 (by decide +kernel) rfl), (tb6 222 (by decide +kernel) rfl), ⟨by decide +kernel, by decide +kernel, by decide +kernel⟩, by decide +kernel⟩, (tb6 220 (by decide +kernel) rfl), (tb6 221 (by decide +kernel) rfl)⟩
def Y_MO_feed : am_Y := (⟨"TwoCampsModel", "feed", "(IJ)I"⟩, prog_14_method_14_code, 5, some .int)
theorem yv_MO_feed : am_yV Y_MO_feed 2 := ⟨⟨(tb1 14 (by decide +kernel) rfl), (tb6 226 (by decide +kernel) rfl), ⟨by decide +kernel, by decide +kernel, by decide +kernel⟩, by decide +kernel⟩, (tb6 224 (by decide +kernel) rfl), (tb6 225 (by decide +kernel) rfl)⟩
def Y_MO_text : am_Y := (⟨"TwoCampsModel", "text", "()I"⟩, prog_14_method_31_code, 2, some .int)
theorem yv_MO_text : am_yV Y_MO_text 0 := ⟨⟨(tb1 14 (by decide +kernel) rfl), (tb6 231 (by decide +kernel) rfl), ⟨by decide +kernel, by decide +kernel, by decide +kernel⟩, by decide +kernel⟩, (tb6 229 (by decide +kernel) rfl), (tb6 230 (by decide +kernel) rfl)⟩
def Y_MO_force : am_Y := (⟨"TwoCampsModel", "force", "(I)I"⟩, prog_14_method_32_code, 3, some .int)
theorem yv_MO_force : am_yV Y_MO_force 1 := ⟨⟨(tb1 14 (by decide +kernel) rfl), (tb6 235 (by decide +kernel) rfl), ⟨by decide +kernel, by decide +kernel, by decide +kernel⟩, by decide +kernel⟩, (tb6 233 (by decide +kernel) rfl), (tb6 234 (by decide +kernel) rfl)⟩
def Y_MO_street : am_Y := (⟨"TwoCampsModel", "street", "()I"⟩, prog_14_method_38_code, 2, some .int)
theorem yv_MO_street : am_yV Y_MO_street 0 := ⟨⟨(tb1 14 (by decide +kernel) rfl), (tb6 239 (by decide +kernel) rfl), ⟨by decide +kernel, by decide +kernel, by decide +kernel⟩, by decide +kernel⟩, (tb6 237 (by decide +kernel) rfl), (tb6 238 (by decide +kernel) rfl)⟩
def Y_MO_goesThrough : am_Y := (⟨"TwoCampsModel", "goesThrough", "(Z)I"⟩, prog_14_method_37_code, 11, some .int)
theorem yv_MO_goesThrough : am_yV Y_MO_goesThrough 1 := ⟨⟨(tb1 14 (by decide +kernel) rfl), (tb7 3 (by decide +kernel) rfl), ⟨by decide +kernel, by decide +kernel, by decide +kernel⟩, by decide +kernel⟩, (tb7 2 (by decide +kernel) rfl), (tb_sel (y := ⟨"TwoCampsModel", "goesThrough", "(Z)I"⟩) (n := 53) 69 (by decide +kernel))⟩
def Y_MO_personHere : am_Y := (⟨"TwoCampsModel", "personHere", "(I)I"⟩, prog_14_method_34_code, 3, some .int)
theorem yv_MO_personHere : am_yV Y_MO_personHere 1 := ⟨⟨(tb1 14 (by decide +kernel) rfl), (tb7 7 (by decide +kernel) rfl), ⟨by decide +kernel, by decide +kernel, by decide +kernel⟩, by decide +kernel⟩, (tb7 6 (by decide +kernel) rfl), (tb_sel (y := ⟨"TwoCampsModel", "personHere", "(I)I"⟩) (n := 53) 70 (by decide +kernel))⟩
def Y_MO_byteHere : am_Y := (⟨"TwoCampsModel", "byteHere", "()I"⟩, prog_14_method_33_code, 1, some .int)
theorem yv_MO_byteHere : am_yV Y_MO_byteHere 0 := ⟨⟨(tb1 14 (by decide +kernel) rfl), (tb7 11 (by decide +kernel) rfl), ⟨by decide +kernel, by decide +kernel, by decide +kernel⟩, by decide +kernel⟩, (tb7 10 (by decide +kernel) rfl), (tb_sel (y := ⟨"TwoCampsModel", "byteHere", "()I"⟩) (n := 53) 71 (by decide +kernel))⟩
def Y_MO_may : am_Y := (⟨"TwoCampsModel", "may", "(I)Z"⟩, prog_14_method_36_code, 2, some .boolean)
theorem yv_MO_may : am_yV Y_MO_may 1 := ⟨⟨(tb1 14 (by decide +kernel) rfl), (tb7 15 (by decide +kernel) rfl), ⟨by decide +kernel, by decide +kernel, by decide +kernel⟩, by decide +kernel⟩, (tb7 14 (by decide +kernel) rfl), (tb_sel (y := ⟨"TwoCampsModel", "may", "(I)Z"⟩) (n := 53) 72 (by decide +kernel))⟩
def Y_MO_strengthHere : am_Y := (⟨"TwoCampsModel", "strengthHere", "()I"⟩, prog_14_method_35_code, 2, some .int)
theorem yv_MO_strengthHere : am_yV Y_MO_strengthHere 0 := ⟨⟨(tb1 14 (by decide +kernel) rfl), (tb7 19 (by decide +kernel) rfl), ⟨by decide +kernel, by decide +kernel, by decide +kernel⟩, by decide +kernel⟩, (tb7 18 (by decide +kernel) rfl), (tb_sel (y := ⟨"TwoCampsModel", "strengthHere", "()I"⟩) (n := 53) 73 (by decide +kernel))⟩
def Y_MO_camping : am_Y := (⟨"TwoCampsModel", "camping", "(II)I"⟩, prog_14_method_41_code, 5, some .int)
theorem yv_MO_camping : am_yV Y_MO_camping 2 := ⟨⟨(tb1 14 (by decide +kernel) rfl), (tb7 23 (by decide +kernel) rfl), ⟨by decide +kernel, by decide +kernel, by decide +kernel⟩, by decide +kernel⟩, (tb7 21 (by decide +kernel) rfl), (tb7 22 (by decide +kernel) rfl)⟩
def Y_MO_isSheet : am_Y := (⟨"TwoCampsModel", "isSheet", "(I)Z"⟩, prog_14_method_87_code, 1, some .boolean)
theorem ys_MO_isSheet : am_yS Y_MO_isSheet 1 := ⟨⟨(tb1 14 (by decide +kernel) rfl), (tb7 27 (by decide +kernel) rfl), ⟨by decide +kernel, by decide +kernel, by decide +kernel⟩, by decide +kernel⟩, (tb7 26 (by decide +kernel) rfl)⟩
def Y_MO_camped : am_Y := (⟨"TwoCampsModel", "camped", "(II)I"⟩, prog_14_method_48_code, 3, some .int)
theorem yv_MO_camped : am_yV Y_MO_camped 2 := ⟨⟨(tb1 14 (by decide +kernel) rfl), (tb7 31 (by decide +kernel) rfl), ⟨by decide +kernel, by decide +kernel, by decide +kernel⟩, by decide +kernel⟩, (tb7 29 (by decide +kernel) rfl), (tb7 30 (by decide +kernel) rfl)⟩
def Y_MO_isCamping : am_Y := (⟨"TwoCampsModel", "isCamping", "(I)Z"⟩, prog_14_method_39_code, 2, some .boolean)
theorem yv_MO_isCamping : am_yV Y_MO_isCamping 1 := ⟨⟨(tb1 14 (by decide +kernel) rfl), (tb7 35 (by decide +kernel) rfl), ⟨by decide +kernel, by decide +kernel, by decide +kernel⟩, by decide +kernel⟩, (tb7 34 (by decide +kernel) rfl), (tb_sel (y := ⟨"TwoCampsModel", "isCamping", "(I)Z"⟩) (n := 53) 74 (by decide +kernel))⟩
def Y_MO_looksAt : am_Y := (⟨"TwoCampsModel", "looksAt", "(I)V"⟩, prog_14_method_43_code, 3, none)
theorem yv_MO_looksAt : am_yV Y_MO_looksAt 1 := ⟨⟨(tb1 14 (by decide +kernel) rfl), (tb7 39 (by decide +kernel) rfl), ⟨by decide +kernel, by decide +kernel, by decide +kernel⟩, by decide +kernel⟩, (tb7 38 (by decide +kernel) rfl), (tb_sel (y := ⟨"TwoCampsModel", "looksAt", "(I)V"⟩) (n := 53) 75 (by decide +kernel))⟩
def Y_MO_in9 : am_Y := (⟨"TwoCampsModel", "in9", "(II)I"⟩, prog_14_method_40_code, 3, some .int)
theorem yv_MO_in9 : am_yV Y_MO_in9 2 := ⟨⟨(tb1 14 (by decide +kernel) rfl), (tb7 43 (by decide +kernel) rfl), ⟨by decide +kernel, by decide +kernel, by decide +kernel⟩, by decide +kernel⟩, (tb7 42 (by decide +kernel) rfl), (tb_sel (y := ⟨"TwoCampsModel", "in9", "(II)I"⟩) (n := 53) 76 (by decide +kernel))⟩
def Y_MO_campsOf : am_Y := (⟨"TwoCampsModel", "campsOf", "(I)I"⟩, prog_14_method_42_code, 1, some .int)
theorem ys_MO_campsOf : am_yS Y_MO_campsOf 1 := ⟨⟨(tb1 14 (by decide +kernel) rfl), (tb7 46 (by decide +kernel) rfl), ⟨by decide +kernel, by decide +kernel, by decide +kernel⟩, by decide +kernel⟩, (tb7 45 (by decide +kernel) rfl)⟩
def Y_MO_lived : am_Y := (⟨"TwoCampsModel", "lived", "()I"⟩, prog_14_method_45_code, 3, some .int)
theorem yv_MO_lived : am_yV Y_MO_lived 0 := ⟨⟨(tb1 14 (by decide +kernel) rfl), (tb7 50 (by decide +kernel) rfl), ⟨by decide +kernel, by decide +kernel, by decide +kernel⟩, by decide +kernel⟩, (tb7 49 (by decide +kernel) rfl), (tb_sel (y := ⟨"TwoCampsModel", "lived", "()I"⟩) (n := 53) 77 (by decide +kernel))⟩
def Y_MO_bitsOf : am_Y := (⟨"TwoCampsModel", "bitsOf", "(I)I"⟩, prog_14_method_53_code, 3, some .int)
theorem ys_MO_bitsOf : am_yS Y_MO_bitsOf 1 := ⟨⟨(tb1 14 (by decide +kernel) rfl), (tb7 53 (by decide +kernel) rfl), ⟨by decide +kernel, by decide +kernel, by decide +kernel⟩, by decide +kernel⟩, (tb7 52 (by decide +kernel) rfl)⟩
def Y_MO_wrongs : am_Y := (⟨"TwoCampsModel", "wrongs", "()I"⟩, prog_14_method_47_code, 3, some .int)
theorem yv_MO_wrongs : am_yV Y_MO_wrongs 0 := ⟨⟨(tb1 14 (by decide +kernel) rfl), (tb7 57 (by decide +kernel) rfl), ⟨by decide +kernel, by decide +kernel, by decide +kernel⟩, by decide +kernel⟩, (tb7 56 (by decide +kernel) rfl), (tb_sel (y := ⟨"TwoCampsModel", "wrongs", "()I"⟩) (n := 53) 78 (by decide +kernel))⟩
def Y_MO_isWrong : am_Y := (⟨"TwoCampsModel", "isWrong", "(I)Z"⟩, prog_14_method_44_code, 4, some .boolean)
theorem yv_MO_isWrong : am_yV Y_MO_isWrong 1 := ⟨⟨(tb1 14 (by decide +kernel) rfl), (tb7 61 (by decide +kernel) rfl), ⟨by decide +kernel, by decide +kernel, by decide +kernel⟩, by decide +kernel⟩, (tb7 60 (by decide +kernel) rfl), (tb_sel (y := ⟨"TwoCampsModel", "isWrong", "(I)Z"⟩) (n := 53) 79 (by decide +kernel))⟩
def Y_MO_outside : am_Y := (⟨"TwoCampsModel", "outside", "()I"⟩, prog_14_method_46_code, 3, some .int)
theorem yv_MO_outside : am_yV Y_MO_outside 0 := ⟨⟨(tb1 14 (by decide +kernel) rfl), (tb7 65 (by decide +kernel) rfl), ⟨by decide +kernel, by decide +kernel, by decide +kernel⟩, by decide +kernel⟩, (tb7 64 (by decide +kernel) rfl), (tb_sel (y := ⟨"TwoCampsModel", "outside", "()I"⟩) (n := 53) 80 (by decide +kernel))⟩
def Y_MO_cost : am_Y := (⟨"TwoCampsModel", "cost", "(I)J"⟩, prog_14_method_50_code, 2, some .long)
theorem yv_MO_cost : am_yV Y_MO_cost 1 := ⟨⟨(tb1 14 (by decide +kernel) rfl), (tb7 69 (by decide +kernel) rfl), ⟨by decide +kernel, by decide +kernel, by decide +kernel⟩, by decide +kernel⟩, (tb7 67 (by decide +kernel) rfl), (tb7 68 (by decide +kernel) rfl)⟩
def Y_MO_costBy : am_Y := (⟨"TwoCampsModel", "costBy", "(I)J"⟩, prog_14_method_49_code, 6, some .long)
theorem yv_MO_costBy : am_yV Y_MO_costBy 1 := ⟨⟨(tb1 14 (by decide +kernel) rfl), (tb7 74 (by decide +kernel) rfl), ⟨by decide +kernel, by decide +kernel, by decide +kernel⟩, by decide +kernel⟩, (tb7 73 (by decide +kernel) rfl), (tb_sel (y := ⟨"TwoCampsModel", "costBy", "(I)J"⟩) (n := 53) 81 (by decide +kernel))⟩
def Y_MO_move : am_Y := (⟨"TwoCampsModel", "move", "(III)J"⟩, prog_14_method_51_code, 6, some .long)
theorem yv_MO_move : am_yV Y_MO_move 3 := ⟨⟨(tb1 14 (by decide +kernel) rfl), (tb7 82 (by decide +kernel) rfl), ⟨by decide +kernel, by decide +kernel, by decide +kernel⟩, by decide +kernel⟩, (tb7 80 (by decide +kernel) rfl), (tb7 81 (by decide +kernel) rfl)⟩
def Y_MO_same : am_Y := (⟨"TwoCampsModel", "same", "(II)I"⟩, prog_14_method_52_code, 5, some .int)
theorem yv_MO_same : am_yV Y_MO_same 2 := ⟨⟨(tb1 14 (by decide +kernel) rfl), (tb7 86 (by decide +kernel) rfl), ⟨by decide +kernel, by decide +kernel, by decide +kernel⟩, by decide +kernel⟩, (tb7 84 (by decide +kernel) rfl), (tb7 85 (by decide +kernel) rfl)⟩
def Y_MO_peace : am_Y := (⟨"TwoCampsModel", "peace", "()I"⟩, prog_14_method_56_code, 1, some .int)
theorem yv_MO_peace : am_yV Y_MO_peace 0 := ⟨⟨(tb1 14 (by decide +kernel) rfl), (tb7 90 (by decide +kernel) rfl), ⟨by decide +kernel, by decide +kernel, by decide +kernel⟩, by decide +kernel⟩, (tb7 88 (by decide +kernel) rfl), (tb7 89 (by decide +kernel) rfl)⟩
def Y_MO_isPeace : am_Y := (⟨"TwoCampsModel", "isPeace", "(I)Z"⟩, prog_14_method_55_code, 10, some .boolean)
theorem yv_MO_isPeace : am_yV Y_MO_isPeace 1 := ⟨⟨(tb1 14 (by decide +kernel) rfl), (tb7 94 (by decide +kernel) rfl), ⟨by decide +kernel, by decide +kernel, by decide +kernel⟩, by decide +kernel⟩, (tb7 93 (by decide +kernel) rfl), (tb_sel (y := ⟨"TwoCampsModel", "isPeace", "(I)Z"⟩) (n := 53) 82 (by decide +kernel))⟩
def Y_MO_ring : am_Y := (⟨"TwoCampsModel", "ring", "(I)I"⟩, prog_14_method_58_code, 7, some .int)
theorem yv_MO_ring : am_yV Y_MO_ring 1 := ⟨⟨(tb1 14 (by decide +kernel) rfl), (tb7 98 (by decide +kernel) rfl), ⟨by decide +kernel, by decide +kernel, by decide +kernel⟩, by decide +kernel⟩, (tb7 96 (by decide +kernel) rfl), (tb7 97 (by decide +kernel) rfl)⟩
def Y_MO_walk : am_Y := (⟨"TwoCampsModel", "walk", "(I)I"⟩, prog_14_method_57_code, 8, some .int)
theorem yv_MO_walk : am_yV Y_MO_walk 1 := ⟨⟨(tb1 14 (by decide +kernel) rfl), (tb7 102 (by decide +kernel) rfl), ⟨by decide +kernel, by decide +kernel, by decide +kernel⟩, by decide +kernel⟩, (tb7 101 (by decide +kernel) rfl), (tb_sel (y := ⟨"TwoCampsModel", "walk", "(I)I"⟩) (n := 53) 83 (by decide +kernel))⟩
def Y_MO_least : am_Y := (⟨"TwoCampsModel", "least", "()I"⟩, prog_14_method_63_code, 1, some .int)
theorem yv_MO_least : am_yV Y_MO_least 0 := ⟨⟨(tb1 14 (by decide +kernel) rfl), (tb7 106 (by decide +kernel) rfl), ⟨by decide +kernel, by decide +kernel, by decide +kernel⟩, by decide +kernel⟩, (tb7 104 (by decide +kernel) rfl), (tb7 105 (by decide +kernel) rfl)⟩
def Y_MO_goesAll : am_Y := (⟨"TwoCampsModel", "goesAll", "()I"⟩, prog_14_method_62_code, 3, some .int)
theorem yv_MO_goesAll : am_yV Y_MO_goesAll 0 := ⟨⟨(tb1 14 (by decide +kernel) rfl), (tb7 110 (by decide +kernel) rfl), ⟨by decide +kernel, by decide +kernel, by decide +kernel⟩, by decide +kernel⟩, (tb7 109 (by decide +kernel) rfl), (tb_sel (y := ⟨"TwoCampsModel", "goesAll", "()I"⟩) (n := 53) 84 (by decide +kernel))⟩
def Y_MO_weighs : am_Y := (⟨"TwoCampsModel", "weighs", "()V"⟩, prog_14_method_59_code, 2, none)
theorem yv_MO_weighs : am_yV Y_MO_weighs 0 := ⟨⟨(tb1 14 (by decide +kernel) rfl), (tb7 114 (by decide +kernel) rfl), ⟨by decide +kernel, by decide +kernel, by decide +kernel⟩, by decide +kernel⟩, (tb7 113 (by decide +kernel) rfl), (tb_sel (y := ⟨"TwoCampsModel", "weighs", "()V"⟩) (n := 53) 85 (by decide +kernel))⟩
def Y_MO_sumOf : am_Y := (⟨"TwoCampsModel", "sumOf", "(I)I"⟩, prog_14_method_61_code, 4, some .int)
theorem yv_MO_sumOf : am_yV Y_MO_sumOf 1 := ⟨⟨(tb1 14 (by decide +kernel) rfl), (tb7 118 (by decide +kernel) rfl), ⟨by decide +kernel, by decide +kernel, by decide +kernel⟩, by decide +kernel⟩, (tb7 117 (by decide +kernel) rfl), (tb_sel (y := ⟨"TwoCampsModel", "sumOf", "(I)I"⟩) (n := 53) 86 (by decide +kernel))⟩
def Y_MO_isWrongIn : am_Y := (⟨"TwoCampsModel", "isWrongIn", "(II)Z"⟩, prog_14_method_60_code, 3, some .boolean)
theorem yv_MO_isWrongIn : am_yV Y_MO_isWrongIn 2 := ⟨⟨(tb1 14 (by decide +kernel) rfl), (tb7 122 (by decide +kernel) rfl), ⟨by decide +kernel, by decide +kernel, by decide +kernel⟩, by decide +kernel⟩, (tb7 121 (by decide +kernel) rfl), (tb_sel (y := ⟨"TwoCampsModel", "isWrongIn", "(II)Z"⟩) (n := 53) 87 (by decide +kernel))⟩
def Y_MO_all : am_Y := (⟨"TwoCampsModel", "all", "(I)I"⟩, prog_14_method_64_code, 5, some .int)
theorem yv_MO_all : am_yV Y_MO_all 1 := ⟨⟨(tb1 14 (by decide +kernel) rfl), (tb7 126 (by decide +kernel) rfl), ⟨by decide +kernel, by decide +kernel, by decide +kernel⟩, by decide +kernel⟩, (tb7 124 (by decide +kernel) rfl), (tb7 125 (by decide +kernel) rfl)⟩
def Y_MO_together : am_Y := (⟨"TwoCampsModel", "together", "(II)I"⟩, prog_14_method_67_code, 5, some .int)
theorem yv_MO_together : am_yV Y_MO_together 2 := ⟨⟨(tb1 14 (by decide +kernel) rfl), (tb7 130 (by decide +kernel) rfl), ⟨by decide +kernel, by decide +kernel, by decide +kernel⟩, by decide +kernel⟩, (tb7 128 (by decide +kernel) rfl), (tb7 129 (by decide +kernel) rfl)⟩
def Y_MO_togethers : am_Y := (⟨"TwoCampsModel", "togethers", "(III)I"⟩, prog_14_method_65_code, 6, some .int)
theorem yv_MO_togethers : am_yV Y_MO_togethers 3 := ⟨⟨(tb1 14 (by decide +kernel) rfl), (tb7 134 (by decide +kernel) rfl), ⟨by decide +kernel, by decide +kernel, by decide +kernel⟩, by decide +kernel⟩, (tb7 133 (by decide +kernel) rfl), (tb_sel (y := ⟨"TwoCampsModel", "togethers", "(III)I"⟩) (n := 53) 88 (by decide +kernel))⟩
def Y_MO_alls : am_Y := (⟨"TwoCampsModel", "alls", "(I)I"⟩, prog_14_method_66_code, 4, some .int)
theorem yv_MO_alls : am_yV Y_MO_alls 1 := ⟨⟨(tb1 14 (by decide +kernel) rfl), (tb7 138 (by decide +kernel) rfl), ⟨by decide +kernel, by decide +kernel, by decide +kernel⟩, by decide +kernel⟩, (tb7 137 (by decide +kernel) rfl), (tb_sel (y := ⟨"TwoCampsModel", "alls", "(I)I"⟩) (n := 53) 89 (by decide +kernel))⟩
def Y_MO_aside : am_Y := (⟨"TwoCampsModel", "aside", "()I"⟩, prog_14_method_68_code, 7, some .int)
theorem yv_MO_aside : am_yV Y_MO_aside 0 := ⟨⟨(tb1 14 (by decide +kernel) rfl), (tb7 142 (by decide +kernel) rfl), ⟨by decide +kernel, by decide +kernel, by decide +kernel⟩, by decide +kernel⟩, (tb7 140 (by decide +kernel) rfl), (tb7 141 (by decide +kernel) rfl)⟩
def Y_MO_many : am_Y := (⟨"TwoCampsModel", "many", "(I)I"⟩, prog_14_method_70_code, 2, some .int)
theorem yv_MO_many : am_yV Y_MO_many 1 := ⟨⟨(tb1 14 (by decide +kernel) rfl), (tb7 146 (by decide +kernel) rfl), ⟨by decide +kernel, by decide +kernel, by decide +kernel⟩, by decide +kernel⟩, (tb7 144 (by decide +kernel) rfl), (tb7 145 (by decide +kernel) rfl)⟩
def Y_MO_puts : am_Y := (⟨"TwoCampsModel", "puts", "(IIII)V"⟩, prog_14_method_69_code, 9, none)
theorem yv_MO_puts : am_yV Y_MO_puts 4 := ⟨⟨(tb1 14 (by decide +kernel) rfl), (tb7 151 (by decide +kernel) rfl), ⟨by decide +kernel, by decide +kernel, by decide +kernel⟩, by decide +kernel⟩, (tb7 150 (by decide +kernel) rfl), (tb_sel (y := ⟨"TwoCampsModel", "puts", "(IIII)V"⟩) (n := 53) 90 (by decide +kernel))⟩
def Y_MO_part2 : am_Y := (⟨"TwoCampsModel", "part", "(I)I"⟩, prog_14_method_72_code, 2, some .int)
theorem yv_MO_part2 : am_yV Y_MO_part2 1 := ⟨⟨(tb1 14 (by decide +kernel) rfl), (tb7 155 (by decide +kernel) rfl), ⟨by decide +kernel, by decide +kernel, by decide +kernel⟩, by decide +kernel⟩, (tb7 153 (by decide +kernel) rfl), (tb7 154 (by decide +kernel) rfl)⟩
def Y_MO_hangs : am_Y := (⟨"TwoCampsModel", "hangs", "(II)I"⟩, prog_14_method_54_code, 7, some .int)
theorem yv_MO_hangs : am_yV Y_MO_hangs 2 := ⟨⟨(tb1 14 (by decide +kernel) rfl), (tb7 159 (by decide +kernel) rfl), ⟨by decide +kernel, by decide +kernel, by decide +kernel⟩, by decide +kernel⟩, (tb7 158 (by decide +kernel) rfl), (tb_sel (y := ⟨"TwoCampsModel", "hangs", "(II)I"⟩) (n := 53) 91 (by decide +kernel))⟩
def Y_MO_leastOf : am_Y := (⟨"TwoCampsModel", "leastOf", "(I)I"⟩, prog_14_method_71_code, 3, some .int)
theorem yv_MO_leastOf : am_yV Y_MO_leastOf 1 := ⟨⟨(tb1 14 (by decide +kernel) rfl), (tb7 163 (by decide +kernel) rfl), ⟨by decide +kernel, by decide +kernel, by decide +kernel⟩, by decide +kernel⟩, (tb7 162 (by decide +kernel) rfl), (tb_sel (y := ⟨"TwoCampsModel", "leastOf", "(I)I"⟩) (n := 53) 92 (by decide +kernel))⟩
def Y_MO_doors : am_Y := (⟨"TwoCampsModel", "doors", "()I"⟩, prog_14_method_73_code, 4, some .int)
theorem yv_MO_doors : am_yV Y_MO_doors 0 := ⟨⟨(tb1 14 (by decide +kernel) rfl), (tb7 167 (by decide +kernel) rfl), ⟨by decide +kernel, by decide +kernel, by decide +kernel⟩, by decide +kernel⟩, (tb7 165 (by decide +kernel) rfl), (tb7 166 (by decide +kernel) rfl)⟩
def Y_MO_threes : am_Y := (⟨"TwoCampsModel", "threes", "()I"⟩, prog_14_method_76_code, 5, some .int)
theorem yv_MO_threes : am_yV Y_MO_threes 0 := ⟨⟨(tb1 14 (by decide +kernel) rfl), (tb7 171 (by decide +kernel) rfl), ⟨by decide +kernel, by decide +kernel, by decide +kernel⟩, by decide +kernel⟩, (tb7 169 (by decide +kernel) rfl), (tb7 170 (by decide +kernel) rfl)⟩
def Y_MO_step : am_Y := (⟨"TwoCampsModel", "step", "(I)I"⟩, prog_14_method_78_code, 2, some .int)
theorem yv_MO_step : am_yV Y_MO_step 1 := ⟨⟨(tb1 14 (by decide +kernel) rfl), (tb7 175 (by decide +kernel) rfl), ⟨by decide +kernel, by decide +kernel, by decide +kernel⟩, by decide +kernel⟩, (tb7 173 (by decide +kernel) rfl), (tb7 174 (by decide +kernel) rfl)⟩
def Y_MO_steps : am_Y := (⟨"TwoCampsModel", "steps", "(I)I"⟩, prog_14_method_77_code, 6, some .int)
theorem yv_MO_steps : am_yV Y_MO_steps 1 := ⟨⟨(tb1 14 (by decide +kernel) rfl), (tb7 179 (by decide +kernel) rfl), ⟨by decide +kernel, by decide +kernel, by decide +kernel⟩, by decide +kernel⟩, (tb7 178 (by decide +kernel) rfl), (tb_sel (y := ⟨"TwoCampsModel", "steps", "(I)I"⟩) (n := 53) 93 (by decide +kernel))⟩
def Y_MO_ends : am_Y := (⟨"TwoCampsModel", "ends", "(I)I"⟩, prog_14_method_79_code, 7, some .int)
theorem yv_MO_ends : am_yV Y_MO_ends 1 := ⟨⟨(tb1 14 (by decide +kernel) rfl), (tb7 183 (by decide +kernel) rfl), ⟨by decide +kernel, by decide +kernel, by decide +kernel⟩, by decide +kernel⟩, (tb7 181 (by decide +kernel) rfl), (tb7 182 (by decide +kernel) rfl)⟩
def Y_MO_meet : am_Y := (⟨"TwoCampsModel", "meet", "(III)J"⟩, prog_14_method_81_code, 7, some .long)
theorem yv_MO_meet : am_yV Y_MO_meet 3 := ⟨⟨(tb1 14 (by decide +kernel) rfl), (tb7 188 (by decide +kernel) rfl), ⟨by decide +kernel, by decide +kernel, by decide +kernel⟩, by decide +kernel⟩, (tb7 186 (by decide +kernel) rfl), (tb7 187 (by decide +kernel) rfl)⟩
def Y_MO_common : am_Y := (⟨"TwoCampsModel", "common", "(II)I"⟩, prog_14_method_80_code, 5, some .int)
theorem ys_MO_common : am_yS Y_MO_common 2 := ⟨⟨(tb1 14 (by decide +kernel) rfl), (tb7 191 (by decide +kernel) rfl), ⟨by decide +kernel, by decide +kernel, by decide +kernel⟩, by decide +kernel⟩, (tb7 190 (by decide +kernel) rfl)⟩
def Y_MO_edge : am_Y := (⟨"TwoCampsModel", "edge", "(I)J"⟩, prog_14_method_82_code, 7, some .long)
theorem yv_MO_edge : am_yV Y_MO_edge 1 := ⟨⟨(tb1 14 (by decide +kernel) rfl), (tb7 195 (by decide +kernel) rfl), ⟨by decide +kernel, by decide +kernel, by decide +kernel⟩, by decide +kernel⟩, (tb7 193 (by decide +kernel) rfl), (tb7 194 (by decide +kernel) rfl)⟩
def Y_MO_bring : am_Y := (⟨"TwoCampsModel", "bring", "(II)I"⟩, prog_14_method_83_code, 10, some .int)
theorem yv_MO_bring : am_yV Y_MO_bring 2 := ⟨⟨(tb1 14 (by decide +kernel) rfl), (tb7 200 (by decide +kernel) rfl), ⟨by decide +kernel, by decide +kernel, by decide +kernel⟩, by decide +kernel⟩, (tb7 198 (by decide +kernel) rfl), (tb7 199 (by decide +kernel) rfl)⟩
def Y_MO_image : am_Y := (⟨"TwoCampsModel", "image", "()I"⟩, prog_14_method_84_code, 2, some .int)
theorem yv_MO_image : am_yV Y_MO_image 0 := ⟨⟨(tb1 14 (by decide +kernel) rfl), (tb7 204 (by decide +kernel) rfl), ⟨by decide +kernel, by decide +kernel, by decide +kernel⟩, by decide +kernel⟩, (tb7 202 (by decide +kernel) rfl), (tb7 203 (by decide +kernel) rfl)⟩
def Y_MO_back : am_Y := (⟨"TwoCampsModel", "back", "()I"⟩, prog_14_method_85_code, 2, some .int)
theorem yv_MO_back : am_yV Y_MO_back 0 := ⟨⟨(tb1 14 (by decide +kernel) rfl), (tb7 208 (by decide +kernel) rfl), ⟨by decide +kernel, by decide +kernel, by decide +kernel⟩, by decide +kernel⟩, (tb7 206 (by decide +kernel) rfl), (tb7 207 (by decide +kernel) rfl)⟩
def Y_MO_count : am_Y := (⟨"TwoCampsModel", "count", "(I)I"⟩, prog_14_method_86_code, 4, some .int)
theorem yv_MO_count : am_yV Y_MO_count 1 := ⟨⟨(tb1 14 (by decide +kernel) rfl), (tb7 212 (by decide +kernel) rfl), ⟨by decide +kernel, by decide +kernel, by decide +kernel⟩, by decide +kernel⟩, (tb7 210 (by decide +kernel) rfl), (tb7 211 (by decide +kernel) rfl)⟩
def Y_MO_sheet : am_Y := (⟨"TwoCampsModel", "sheet", "(III)I"⟩, prog_14_method_88_code, 5, some .int)
theorem yv_MO_sheet : am_yV Y_MO_sheet 3 := ⟨⟨(tb1 14 (by decide +kernel) rfl), (tb7 216 (by decide +kernel) rfl), ⟨by decide +kernel, by decide +kernel, by decide +kernel⟩, by decide +kernel⟩, (tb7 214 (by decide +kernel) rfl), (tb7 215 (by decide +kernel) rfl)⟩
def Y_MO_cell : am_Y := (⟨"TwoCampsModel", "cell", "(III)I"⟩, prog_14_method_89_code, 4, some .int)
theorem yv_MO_cell : am_yV Y_MO_cell 3 := ⟨⟨(tb1 14 (by decide +kernel) rfl), (tb7 221 (by decide +kernel) rfl), ⟨by decide +kernel, by decide +kernel, by decide +kernel⟩, by decide +kernel⟩, (tb7 219 (by decide +kernel) rfl), (tb7 220 (by decide +kernel) rfl)⟩
def Y_MO_copy : am_Y := (⟨"TwoCampsModel", "copy", "(IIIII)I"⟩, prog_14_method_90_code, 9, some .int)
theorem yv_MO_copy : am_yV Y_MO_copy 5 := ⟨⟨(tb1 14 (by decide +kernel) rfl), (tb7 225 (by decide +kernel) rfl), ⟨by decide +kernel, by decide +kernel, by decide +kernel⟩, by decide +kernel⟩, (tb7 223 (by decide +kernel) rfl), (tb7 224 (by decide +kernel) rfl)⟩
def Y_MO_feels : am_Y := (⟨"TwoCampsModel", "feels", "(IIII)I"⟩, prog_14_method_91_code, 8, some .int)
theorem yv_MO_feels : am_yV Y_MO_feels 4 := ⟨⟨(tb1 14 (by decide +kernel) rfl), (tb7 229 (by decide +kernel) rfl), ⟨by decide +kernel, by decide +kernel, by decide +kernel⟩, by decide +kernel⟩, (tb7 227 (by decide +kernel) rfl), (tb7 228 (by decide +kernel) rfl)⟩
def Y_MO_taken : am_Y := (⟨"TwoCampsModel", "taken", "(II)I"⟩, prog_14_method_93_code, 4, some .int)
theorem yv_MO_taken : am_yV Y_MO_taken 2 := ⟨⟨(tb1 14 (by decide +kernel) rfl), (tb7 234 (by decide +kernel) rfl), ⟨by decide +kernel, by decide +kernel, by decide +kernel⟩, by decide +kernel⟩, (tb7 232 (by decide +kernel) rfl), (tb7 233 (by decide +kernel) rfl)⟩
def Y_MO_over : am_Y := (⟨"TwoCampsModel", "over", "(I)I"⟩, prog_14_method_92_code, 1, some .int)
theorem ys_MO_over : am_yS Y_MO_over 1 := ⟨⟨(tb1 14 (by decide +kernel) rfl), (tb7 237 (by decide +kernel) rfl), ⟨by decide +kernel, by decide +kernel, by decide +kernel⟩, by decide +kernel⟩, (tb7 236 (by decide +kernel) rfl)⟩
theorem fl_People_18 : am_fl "TwoCamps$People" 18 1 0 := ⟨_, rfl, by decide, rfl, (tb1 36 (by decide +kernel) rfl)⟩
theorem fw_People_18 : am_fw "TwoCamps$People" 18 1 0 .int := ⟨_, rfl, by decide, rfl, (tb1 36 (by decide +kernel) rfl), rfl, by decide +kernel⟩
theorem fl_TC_103 : am_fl "TwoCamps" 103 1 0 := ⟨_, rfl, by decide, rfl, (tb1 37 (by decide +kernel) rfl)⟩
theorem fw_TC_103 : am_fw "TwoCamps" 103 1 0 .int := ⟨_, rfl, by decide, rfl, (tb1 37 (by decide +kernel) rfl), rfl, by decide +kernel⟩
theorem fl_Best_50 : am_fl "TwoCamps$Best" 50 1 0 := ⟨_, rfl, by decide, rfl, (tb1 38 (by decide +kernel) rfl)⟩
theorem fw_Best_50 : am_fw "TwoCamps$Best" 50 1 0 .int := ⟨_, rfl, by decide, rfl, (tb1 38 (by decide +kernel) rfl), rfl, by decide +kernel⟩
theorem fl_Camping_46 : am_fl "TwoCamps$Camping" 46 1 0 := ⟨_, rfl, by decide, rfl, (tb1 39 (by decide +kernel) rfl)⟩
theorem fw_Camping_46 : am_fw "TwoCamps$Camping" 46 1 0 .int := ⟨_, rfl, by decide, rfl, (tb1 39 (by decide +kernel) rfl), rfl, by decide +kernel⟩
theorem fl_Net_36 : am_fl "TwoCamps$Net" 36 1 0 := ⟨_, rfl, by decide, rfl, (tb1 40 (by decide +kernel) rfl)⟩
theorem fw_Net_36 : am_fw "TwoCamps$Net" 36 1 0 .int := ⟨_, rfl, by decide, rfl, (tb1 40 (by decide +kernel) rfl), rfl, by decide +kernel⟩
theorem fl_People_9 : am_fl "TwoCamps$People" 9 1 1 := ⟨_, rfl, by decide, rfl, (tb1 41 (by decide +kernel) rfl)⟩
theorem fl_TC_114 : am_fl "TwoCamps" 114 1 1 := ⟨_, rfl, by decide, rfl, (tb1 42 (by decide +kernel) rfl)⟩
theorem fl_Camping_105 : am_fl "TwoCamps$Camping" 105 1 1 := ⟨_, rfl, by decide, rfl, (tb1 43 (by decide +kernel) rfl)⟩
theorem fl_People_15 : am_fl "TwoCamps$People" 15 1 2 := ⟨_, rfl, by decide, rfl, (tb1 44 (by decide +kernel) rfl)⟩
theorem fl_TC_118 : am_fl "TwoCamps" 118 1 2 := ⟨_, rfl, by decide, rfl, (tb1 45 (by decide +kernel) rfl)⟩
theorem fl_Camping_108 : am_fl "TwoCamps$Camping" 108 1 2 := ⟨_, rfl, by decide, rfl, (tb1 46 (by decide +kernel) rfl)⟩
theorem fl_Feelings_39 : am_fl "TwoCamps$Feelings" 39 2 0 := ⟨_, rfl, by decide, rfl, (tb1 64 (by decide +kernel) rfl)⟩
theorem fw_Feelings_39 : am_fw "TwoCamps$Feelings" 39 2 0 .int := ⟨_, rfl, by decide, rfl, (tb1 64 (by decide +kernel) rfl), rfl, by decide +kernel⟩
theorem fl_Law_48 : am_fl "TwoCamps$Law" 48 2 0 := ⟨_, rfl, by decide, rfl, (tb1 65 (by decide +kernel) rfl)⟩
theorem fw_Law_48 : am_fw "TwoCamps$Law" 48 2 0 .int := ⟨_, rfl, by decide, rfl, (tb1 65 (by decide +kernel) rfl), rfl, by decide +kernel⟩
theorem fl_Best_53 : am_fl "TwoCamps$Best" 53 2 0 := ⟨_, rfl, by decide, rfl, (tb1 66 (by decide +kernel) rfl)⟩
theorem fw_Best_53 : am_fw "TwoCamps$Best" 53 2 0 .int := ⟨_, rfl, by decide, rfl, (tb1 66 (by decide +kernel) rfl), rfl, by decide +kernel⟩
theorem fl_Net_42 : am_fl "TwoCamps$Net" 42 2 0 := ⟨_, rfl, by decide, rfl, (tb1 67 (by decide +kernel) rfl)⟩
theorem fw_Net_42 : am_fw "TwoCamps$Net" 42 2 0 .int := ⟨_, rfl, by decide, rfl, (tb1 67 (by decide +kernel) rfl), rfl, by decide +kernel⟩
theorem fl_Camping_56 : am_fl "TwoCamps$Camping" 56 2 0 := ⟨_, rfl, by decide, rfl, (tb1 68 (by decide +kernel) rfl)⟩
theorem fw_Camping_56 : am_fw "TwoCamps$Camping" 56 2 0 .int := ⟨_, rfl, by decide, rfl, (tb1 68 (by decide +kernel) rfl), rfl, by decide +kernel⟩
theorem fl_TC_293 : am_fl "TwoCamps" 293 2 0 := ⟨_, rfl, by decide, rfl, (tb1 69 (by decide +kernel) rfl)⟩
theorem fw_TC_293 : am_fw "TwoCamps" 293 2 0 .int := ⟨_, rfl, by decide, rfl, (tb1 69 (by decide +kernel) rfl), rfl, by decide +kernel⟩
theorem fl_Feelings_9 : am_fl "TwoCamps$Feelings" 9 2 1 := ⟨_, rfl, by decide, rfl, (tb1 70 (by decide +kernel) rfl)⟩
theorem fl_TC_130 : am_fl "TwoCamps" 130 2 1 := ⟨_, rfl, by decide, rfl, (tb1 71 (by decide +kernel) rfl)⟩
theorem fl_Camping_63 : am_fl "TwoCamps$Camping" 63 2 1 := ⟨_, rfl, by decide, rfl, (tb1 72 (by decide +kernel) rfl)⟩
theorem fl_Law_117 : am_fl "TwoCamps$Law" 117 2 1 := ⟨_, rfl, by decide, rfl, (tb1 73 (by decide +kernel) rfl)⟩
theorem fl_Feelings_15 : am_fl "TwoCamps$Feelings" 15 2 2 := ⟨_, rfl, by decide, rfl, (tb1 74 (by decide +kernel) rfl)⟩
theorem fl_TC_133 : am_fl "TwoCamps" 133 2 2 := ⟨_, rfl, by decide, rfl, (tb1 75 (by decide +kernel) rfl)⟩
theorem fl_Camping_66 : am_fl "TwoCamps$Camping" 66 2 2 := ⟨_, rfl, by decide, rfl, (tb1 76 (by decide +kernel) rfl)⟩
theorem fl_Law_120 : am_fl "TwoCamps$Law" 120 2 2 := ⟨_, rfl, by decide, rfl, (tb1 77 (by decide +kernel) rfl)⟩
theorem fl_Feelings_18 : am_fl "TwoCamps$Feelings" 18 2 3 := ⟨_, rfl, by decide, rfl, (tb1 78 (by decide +kernel) rfl)⟩
theorem fl_TC_136 : am_fl "TwoCamps" 136 2 3 := ⟨_, rfl, by decide, rfl, (tb1 79 (by decide +kernel) rfl)⟩
theorem fl_Law_111 : am_fl "TwoCamps$Law" 111 2 3 := ⟨_, rfl, by decide, rfl, (tb1 80 (by decide +kernel) rfl)⟩
theorem fl_Net_90 : am_fl "TwoCamps$Net" 90 2 3 := ⟨_, rfl, by decide, rfl, (tb1 81 (by decide +kernel) rfl)⟩
theorem fl_Camping_94 : am_fl "TwoCamps$Camping" 94 2 3 := ⟨_, rfl, by decide, rfl, (tb1 82 (by decide +kernel) rfl)⟩
theorem fl_Feelings_21 : am_fl "TwoCamps$Feelings" 21 2 4 := ⟨_, rfl, by decide, rfl, (tb1 83 (by decide +kernel) rfl)⟩
theorem fl_TC_139 : am_fl "TwoCamps" 139 2 4 := ⟨_, rfl, by decide, rfl, (tb1 84 (by decide +kernel) rfl)⟩
theorem fl_Law_108 : am_fl "TwoCamps$Law" 108 2 4 := ⟨_, rfl, by decide, rfl, (tb1 85 (by decide +kernel) rfl)⟩
theorem fl_Feelings_24 : am_fl "TwoCamps$Feelings" 24 2 5 := ⟨_, rfl, by decide, rfl, (tb1 86 (by decide +kernel) rfl)⟩
theorem fl_TC_142 : am_fl "TwoCamps" 142 2 5 := ⟨_, rfl, by decide, rfl, (tb1 87 (by decide +kernel) rfl)⟩
theorem fl_Law_114 : am_fl "TwoCamps$Law" 114 2 5 := ⟨_, rfl, by decide, rfl, (tb1 88 (by decide +kernel) rfl)⟩
theorem fl_Feelings_27 : am_fl "TwoCamps$Feelings" 27 2 6 := ⟨_, rfl, by decide, rfl, (tb1 89 (by decide +kernel) rfl)⟩
theorem fl_Feelings_30 : am_fl "TwoCamps$Feelings" 30 2 7 := ⟨_, rfl, by decide, rfl, (tb1 90 (by decide +kernel) rfl)⟩
theorem fl_Tape_15 : am_fl "TwoCamps$Tape" 15 3 0 := ⟨_, rfl, by decide, rfl, (tb1 114 (by decide +kernel) rfl)⟩
theorem fw_Tape_15 : am_fw "TwoCamps$Tape" 15 3 0 .int := ⟨_, rfl, by decide, rfl, (tb1 114 (by decide +kernel) rfl), rfl, by decide +kernel⟩
theorem fl_StreetReader_31 : am_fl "TwoCamps$StreetReader" 31 3 0 := ⟨_, rfl, by decide, rfl, (tb1 115 (by decide +kernel) rfl)⟩
theorem fw_StreetReader_31 : am_fw "TwoCamps$StreetReader" 31 3 0 .int := ⟨_, rfl, by decide, rfl, (tb1 115 (by decide +kernel) rfl), rfl, by decide +kernel⟩
theorem fl_TC_158 : am_fl "TwoCamps" 158 3 0 := ⟨_, rfl, by decide, rfl, (tb1 116 (by decide +kernel) rfl)⟩
theorem fw_TC_158 : am_fw "TwoCamps" 158 3 0 .int := ⟨_, rfl, by decide, rfl, (tb1 116 (by decide +kernel) rfl), rfl, by decide +kernel⟩
theorem fl_Tape_9 : am_fl "TwoCamps$Tape" 9 3 1 := ⟨_, rfl, by decide, rfl, (tb1 117 (by decide +kernel) rfl)⟩
theorem fl_Text_9 : am_fl "TwoCamps$Text" 9 5 0 := ⟨_, rfl, by decide, rfl, (tb1 136 (by decide +kernel) rfl)⟩
theorem fl_Law_64 : am_fl "TwoCamps$Law" 64 5 0 := ⟨_, rfl, by decide, rfl, (tb1 137 (by decide +kernel) rfl)⟩
theorem fl_Text_15 : am_fl "TwoCamps$Text" 15 5 1 := ⟨_, rfl, by decide, rfl, (tb1 138 (by decide +kernel) rfl)⟩
theorem fw_Text_15 : am_fw "TwoCamps$Text" 15 5 1 .int := ⟨_, rfl, by decide, rfl, (tb1 138 (by decide +kernel) rfl), rfl, by decide +kernel⟩
theorem fl_Law_83 : am_fl "TwoCamps$Law" 83 5 1 := ⟨_, rfl, by decide, rfl, (tb1 139 (by decide +kernel) rfl)⟩
theorem fw_Law_83 : am_fw "TwoCamps$Law" 83 5 1 .int := ⟨_, rfl, by decide, rfl, (tb1 139 (by decide +kernel) rfl), rfl, by decide +kernel⟩
theorem fl_Text_19 : am_fl "TwoCamps$Text" 19 5 2 := ⟨_, rfl, by decide, rfl, (tb1 140 (by decide +kernel) rfl)⟩
theorem fw_Text_19 : am_fw "TwoCamps$Text" 19 5 2 .int := ⟨_, rfl, by decide, rfl, (tb1 140 (by decide +kernel) rfl), rfl, by decide +kernel⟩
theorem fl_Law_67 : am_fl "TwoCamps$Law" 67 5 2 := ⟨_, rfl, by decide, rfl, (tb1 141 (by decide +kernel) rfl)⟩
theorem fw_Law_67 : am_fw "TwoCamps$Law" 67 5 2 .int := ⟨_, rfl, by decide, rfl, (tb1 141 (by decide +kernel) rfl), rfl, by decide +kernel⟩
theorem fl_Law_32 : am_fl "TwoCamps$Law" 32 4 0 := ⟨_, rfl, by decide, rfl, (tb1 158 (by decide +kernel) rfl)⟩
theorem fl_Law_11 : am_fl "TwoCamps$Law" 11 4 1 := ⟨_, rfl, by decide, rfl, (tb1 159 (by decide +kernel) rfl)⟩
theorem fl_Law_17 : am_fl "TwoCamps$Law" 17 4 2 := ⟨_, rfl, by decide, rfl, (tb1 160 (by decide +kernel) rfl)⟩
theorem fw_Law_17 : am_fw "TwoCamps$Law" 17 4 2 .int := ⟨_, rfl, by decide, rfl, (tb1 160 (by decide +kernel) rfl), rfl, by decide +kernel⟩
theorem fl_TC_173 : am_fl "TwoCamps" 173 4 2 := ⟨_, rfl, by decide, rfl, (tb1 161 (by decide +kernel) rfl)⟩
theorem fw_TC_173 : am_fw "TwoCamps" 173 4 2 .int := ⟨_, rfl, by decide, rfl, (tb1 161 (by decide +kernel) rfl), rfl, by decide +kernel⟩
theorem fl_Law_61 : am_fl "TwoCamps$Law" 61 4 3 := ⟨_, rfl, by decide, rfl, (tb1 162 (by decide +kernel) rfl)⟩
theorem fw_Law_61 : am_fw "TwoCamps$Law" 61 4 3 .int := ⟨_, rfl, by decide, rfl, (tb1 162 (by decide +kernel) rfl), rfl, by decide +kernel⟩
theorem fl_TC_188 : am_fl "TwoCamps" 188 4 3 := ⟨_, rfl, by decide, rfl, (tb1 163 (by decide +kernel) rfl)⟩
theorem fw_TC_188 : am_fw "TwoCamps" 188 4 3 .int := ⟨_, rfl, by decide, rfl, (tb1 163 (by decide +kernel) rfl), rfl, by decide +kernel⟩
theorem fl_Law_21 : am_fl "TwoCamps$Law" 21 4 4 := ⟨_, rfl, by decide, rfl, (tb1 164 (by decide +kernel) rfl)⟩
theorem fl_Best_64 : am_fl "TwoCamps$Best" 64 4 4 := ⟨_, rfl, by decide, rfl, (tb1 165 (by decide +kernel) rfl)⟩
theorem fl_Camping_97 : am_fl "TwoCamps$Camping" 97 4 4 := ⟨_, rfl, by decide, rfl, (tb1 166 (by decide +kernel) rfl)⟩
theorem fl_Law_25 : am_fl "TwoCamps$Law" 25 4 5 := ⟨_, rfl, by decide, rfl, (tb1 167 (by decide +kernel) rfl)⟩
theorem fl_Best_60 : am_fl "TwoCamps$Best" 60 4 5 := ⟨_, rfl, by decide, rfl, (tb1 168 (by decide +kernel) rfl)⟩
theorem fl_Camping_100 : am_fl "TwoCamps$Camping" 100 4 5 := ⟨_, rfl, by decide, rfl, (tb1 169 (by decide +kernel) rfl)⟩
theorem fl_Law_29 : am_fl "TwoCamps$Law" 29 4 6 := ⟨_, rfl, by decide, rfl, (tb1 170 (by decide +kernel) rfl)⟩
theorem fl_Law_84 : am_fl "TwoCamps$Law" 84 4 7 := ⟨_, rfl, by decide, rfl, (tb1 171 (by decide +kernel) rfl)⟩
theorem fw_Law_84 : am_fw "TwoCamps$Law" 84 4 7 .int := ⟨_, rfl, by decide, rfl, (tb1 171 (by decide +kernel) rfl), rfl, by decide +kernel⟩
theorem fl_TextReader_25 : am_fl "TwoCamps$TextReader" 25 6 0 := ⟨_, rfl, by decide, rfl, (tb1 197 (by decide +kernel) rfl)⟩
theorem fl_TextReader_11 : am_fl "TwoCamps$TextReader" 11 6 1 := ⟨_, rfl, by decide, rfl, (tb1 198 (by decide +kernel) rfl)⟩
theorem fl_TextReader_15 : am_fl "TwoCamps$TextReader" 15 6 2 := ⟨_, rfl, by decide, rfl, (tb1 199 (by decide +kernel) rfl)⟩
theorem fl_TextReader_35 : am_fl "TwoCamps$TextReader" 35 6 3 := ⟨_, rfl, by decide, rfl, (tb1 200 (by decide +kernel) rfl)⟩
theorem fw_TextReader_35 : am_fw "TwoCamps$TextReader" 35 6 3 .int := ⟨_, rfl, by decide, rfl, (tb1 200 (by decide +kernel) rfl), rfl, by decide +kernel⟩
theorem fl_TextReader_39 : am_fl "TwoCamps$TextReader" 39 6 4 := ⟨_, rfl, by decide, rfl, (tb1 201 (by decide +kernel) rfl)⟩
theorem fw_TextReader_39 : am_fw "TwoCamps$TextReader" 39 6 4 .int := ⟨_, rfl, by decide, rfl, (tb1 201 (by decide +kernel) rfl), rfl, by decide +kernel⟩
theorem fl_TextReader_21 : am_fl "TwoCamps$TextReader" 21 6 5 := ⟨_, rfl, by decide, rfl, (tb1 202 (by decide +kernel) rfl)⟩
theorem fl_TC_179 : am_fl "TwoCamps" 179 6 5 := ⟨_, rfl, by decide, rfl, (tb1 203 (by decide +kernel) rfl)⟩
theorem fl_StreetReader_9 : am_fl "TwoCamps$StreetReader" 9 7 0 := ⟨_, rfl, by decide, rfl, (tb1 223 (by decide +kernel) rfl)⟩
theorem fl_StreetReader_15 : am_fl "TwoCamps$StreetReader" 15 7 1 := ⟨_, rfl, by decide, rfl, (tb1 224 (by decide +kernel) rfl)⟩
theorem fl_StreetReader_19 : am_fl "TwoCamps$StreetReader" 19 7 2 := ⟨_, rfl, by decide, rfl, (tb1 225 (by decide +kernel) rfl)⟩
theorem fl_StreetReader_23 : am_fl "TwoCamps$StreetReader" 23 7 3 := ⟨_, rfl, by decide, rfl, (tb1 226 (by decide +kernel) rfl)⟩
theorem fw_StreetReader_23 : am_fw "TwoCamps$StreetReader" 23 7 3 .int := ⟨_, rfl, by decide, rfl, (tb1 226 (by decide +kernel) rfl), rfl, by decide +kernel⟩
theorem fl_TC_170 : am_fl "TwoCamps" 170 7 3 := ⟨_, rfl, by decide, rfl, (tb1 227 (by decide +kernel) rfl)⟩
theorem fw_TC_170 : am_fw "TwoCamps" 170 7 3 .int := ⟨_, rfl, by decide, rfl, (tb1 227 (by decide +kernel) rfl), rfl, by decide +kernel⟩
theorem fl_StreetReader_36 : am_fl "TwoCamps$StreetReader" 36 7 4 := ⟨_, rfl, by decide, rfl, (tb1 228 (by decide +kernel) rfl)⟩
theorem fw_StreetReader_36 : am_fw "TwoCamps$StreetReader" 36 7 4 .int := ⟨_, rfl, by decide, rfl, (tb1 228 (by decide +kernel) rfl), rfl, by decide +kernel⟩
theorem fl_StreetReader_39 : am_fl "TwoCamps$StreetReader" 39 7 5 := ⟨_, rfl, by decide, rfl, (tb1 229 (by decide +kernel) rfl)⟩
theorem fw_StreetReader_39 : am_fw "TwoCamps$StreetReader" 39 7 5 .int := ⟨_, rfl, by decide, rfl, (tb1 229 (by decide +kernel) rfl), rfl, by decide +kernel⟩
theorem fl_StreetReader_42 : am_fl "TwoCamps$StreetReader" 42 7 6 := ⟨_, rfl, by decide, rfl, (tb1 230 (by decide +kernel) rfl)⟩
theorem fw_StreetReader_42 : am_fw "TwoCamps$StreetReader" 42 7 6 .int := ⟨_, rfl, by decide, rfl, (tb1 230 (by decide +kernel) rfl), rfl, by decide +kernel⟩
theorem fl_StreetReader_45 : am_fl "TwoCamps$StreetReader" 45 7 7 := ⟨_, rfl, by decide, rfl, (tb1 231 (by decide +kernel) rfl)⟩
theorem fw_StreetReader_45 : am_fw "TwoCamps$StreetReader" 45 7 7 .int := ⟨_, rfl, by decide, rfl, (tb1 231 (by decide +kernel) rfl), rfl, by decide +kernel⟩
theorem fl_StreetReader_48 : am_fl "TwoCamps$StreetReader" 48 7 8 := ⟨_, rfl, by decide, rfl, (tb1 232 (by decide +kernel) rfl)⟩
theorem fw_StreetReader_48 : am_fw "TwoCamps$StreetReader" 48 7 8 .int := ⟨_, rfl, by decide, rfl, (tb1 232 (by decide +kernel) rfl), rfl, by decide +kernel⟩
theorem fl_Camping_15 : am_fl "TwoCamps$Camping" 15 8 0 := ⟨_, rfl, by decide, rfl, (tb2 19 (by decide +kernel) rfl)⟩
theorem fl_Camping_19 : am_fl "TwoCamps$Camping" 19 8 1 := ⟨_, rfl, by decide, rfl, (tb2 20 (by decide +kernel) rfl)⟩
theorem fl_Camping_23 : am_fl "TwoCamps$Camping" 23 8 2 := ⟨_, rfl, by decide, rfl, (tb2 21 (by decide +kernel) rfl)⟩
theorem fl_Camping_27 : am_fl "TwoCamps$Camping" 27 8 3 := ⟨_, rfl, by decide, rfl, (tb2 22 (by decide +kernel) rfl)⟩
theorem fw_Camping_27 : am_fw "TwoCamps$Camping" 27 8 3 .int := ⟨_, rfl, by decide, rfl, (tb2 22 (by decide +kernel) rfl), rfl, by decide +kernel⟩
theorem fl_TC_215 : am_fl "TwoCamps" 215 8 3 := ⟨_, rfl, by decide, rfl, (tb2 23 (by decide +kernel) rfl)⟩
theorem fw_TC_215 : am_fw "TwoCamps" 215 8 3 .int := ⟨_, rfl, by decide, rfl, (tb2 23 (by decide +kernel) rfl), rfl, by decide +kernel⟩
theorem fl_Camping_36 : am_fl "TwoCamps$Camping" 36 8 4 := ⟨_, rfl, by decide, rfl, (tb2 24 (by decide +kernel) rfl)⟩
theorem fw_Camping_36 : am_fw "TwoCamps$Camping" 36 8 4 .int := ⟨_, rfl, by decide, rfl, (tb2 24 (by decide +kernel) rfl), rfl, by decide +kernel⟩
theorem fl_TC_364 : am_fl "TwoCamps" 364 8 4 := ⟨_, rfl, by decide, rfl, (tb2 25 (by decide +kernel) rfl)⟩
theorem fw_TC_364 : am_fw "TwoCamps" 364 8 4 .int := ⟨_, rfl, by decide, rfl, (tb2 25 (by decide +kernel) rfl), rfl, by decide +kernel⟩
theorem fl_Camping_9 : am_fl "TwoCamps$Camping" 9 8 5 := ⟨_, rfl, by decide, rfl, (tb2 26 (by decide +kernel) rfl)⟩
theorem fl_Net_24 : am_fl "TwoCamps$Net" 24 9 0 := ⟨_, rfl, by decide, rfl, (tb2 46 (by decide +kernel) rfl)⟩
theorem fl_Net_28 : am_fl "TwoCamps$Net" 28 9 1 := ⟨_, rfl, by decide, rfl, (tb2 47 (by decide +kernel) rfl)⟩
theorem fl_Net_61 : am_fl "TwoCamps$Net" 61 9 2 := ⟨_, rfl, by decide, rfl, (tb2 48 (by decide +kernel) rfl)⟩
theorem fw_Net_61 : am_fw "TwoCamps$Net" 61 9 2 .int := ⟨_, rfl, by decide, rfl, (tb2 48 (by decide +kernel) rfl), rfl, by decide +kernel⟩
theorem fl_TC_262 : am_fl "TwoCamps" 262 9 2 := ⟨_, rfl, by decide, rfl, (tb2 49 (by decide +kernel) rfl)⟩
theorem fw_TC_262 : am_fw "TwoCamps" 262 9 2 .int := ⟨_, rfl, by decide, rfl, (tb2 49 (by decide +kernel) rfl), rfl, by decide +kernel⟩
theorem fl_Net_11 : am_fl "TwoCamps$Net" 11 9 3 := ⟨_, rfl, by decide, rfl, (tb2 50 (by decide +kernel) rfl)⟩
theorem fl_TC_265 : am_fl "TwoCamps" 265 9 3 := ⟨_, rfl, by decide, rfl, (tb2 51 (by decide +kernel) rfl)⟩
theorem fl_Net_15 : am_fl "TwoCamps$Net" 15 9 4 := ⟨_, rfl, by decide, rfl, (tb2 52 (by decide +kernel) rfl)⟩
theorem fl_Net_77 : am_fl "TwoCamps$Net" 77 9 5 := ⟨_, rfl, by decide, rfl, (tb2 53 (by decide +kernel) rfl)⟩
theorem fw_Net_77 : am_fw "TwoCamps$Net" 77 9 5 .int := ⟨_, rfl, by decide, rfl, (tb2 53 (by decide +kernel) rfl), rfl, by decide +kernel⟩
theorem fl_Net_18 : am_fl "TwoCamps$Net" 18 9 6 := ⟨_, rfl, by decide, rfl, (tb2 54 (by decide +kernel) rfl)⟩
theorem fl_Net_21 : am_fl "TwoCamps$Net" 21 9 7 := ⟨_, rfl, by decide, rfl, (tb2 55 (by decide +kernel) rfl)⟩
theorem fl_Best_18 : am_fl "TwoCamps$Best" 18 10 0 := ⟨_, rfl, by decide, rfl, (tb2 79 (by decide +kernel) rfl)⟩
theorem fl_Best_22 : am_fl "TwoCamps$Best" 22 10 1 := ⟨_, rfl, by decide, rfl, (tb2 80 (by decide +kernel) rfl)⟩
theorem fl_Best_26 : am_fl "TwoCamps$Best" 26 10 2 := ⟨_, rfl, by decide, rfl, (tb2 81 (by decide +kernel) rfl)⟩
theorem fl_Best_35 : am_fl "TwoCamps$Best" 35 10 3 := ⟨_, rfl, by decide, rfl, (tb2 82 (by decide +kernel) rfl)⟩
theorem fw_Best_35 : am_fw "TwoCamps$Best" 35 10 3 .int := ⟨_, rfl, by decide, rfl, (tb2 82 (by decide +kernel) rfl), rfl, by decide +kernel⟩
theorem fl_TC_271 : am_fl "TwoCamps" 271 10 3 := ⟨_, rfl, by decide, rfl, (tb2 83 (by decide +kernel) rfl)⟩
theorem fw_TC_271 : am_fw "TwoCamps" 271 10 3 .int := ⟨_, rfl, by decide, rfl, (tb2 83 (by decide +kernel) rfl), rfl, by decide +kernel⟩
theorem fl_Best_39 : am_fl "TwoCamps$Best" 39 10 4 := ⟨_, rfl, by decide, rfl, (tb2 84 (by decide +kernel) rfl)⟩
theorem fw_Best_39 : am_fw "TwoCamps$Best" 39 10 4 .int := ⟨_, rfl, by decide, rfl, (tb2 84 (by decide +kernel) rfl), rfl, by decide +kernel⟩
theorem fl_TC_274 : am_fl "TwoCamps" 274 10 4 := ⟨_, rfl, by decide, rfl, (tb2 85 (by decide +kernel) rfl)⟩
theorem fw_TC_274 : am_fw "TwoCamps" 274 10 4 .int := ⟨_, rfl, by decide, rfl, (tb2 85 (by decide +kernel) rfl), rfl, by decide +kernel⟩
theorem fl_Best_9 : am_fl "TwoCamps$Best" 9 10 5 := ⟨_, rfl, by decide, rfl, (tb2 86 (by decide +kernel) rfl)⟩
theorem fl_TC_275 : am_fl "TwoCamps" 275 10 5 := ⟨_, rfl, by decide, rfl, (tb2 87 (by decide +kernel) rfl)⟩
theorem fl_Best_15 : am_fl "TwoCamps$Best" 15 10 6 := ⟨_, rfl, by decide, rfl, (tb2 88 (by decide +kernel) rfl)⟩
theorem fl_Best_84 : am_fl "TwoCamps$Best" 84 10 7 := ⟨_, rfl, by decide, rfl, (tb2 89 (by decide +kernel) rfl)⟩
theorem fw_Best_84 : am_fw "TwoCamps$Best" 84 10 7 .int := ⟨_, rfl, by decide, rfl, (tb2 89 (by decide +kernel) rfl), rfl, by decide +kernel⟩
theorem fl_Best_87 : am_fl "TwoCamps$Best" 87 10 8 := ⟨_, rfl, by decide, rfl, (tb2 90 (by decide +kernel) rfl)⟩
theorem fw_Best_87 : am_fw "TwoCamps$Best" 87 10 8 .int := ⟨_, rfl, by decide, rfl, (tb2 90 (by decide +kernel) rfl), rfl, by decide +kernel⟩
theorem fl_Sheet_11 : am_fl "TwoCamps$Sheet" 11 11 0 := ⟨_, rfl, by decide, rfl, (tb2 117 (by decide +kernel) rfl)⟩
theorem fw_Sheet_11 : am_fw "TwoCamps$Sheet" 11 11 0 .int := ⟨_, rfl, by decide, rfl, (tb2 117 (by decide +kernel) rfl), rfl, by decide +kernel⟩
theorem fl_TC_349 : am_fl "TwoCamps" 349 11 0 := ⟨_, rfl, by decide, rfl, (tb2 118 (by decide +kernel) rfl)⟩
theorem fw_TC_349 : am_fw "TwoCamps" 349 11 0 .int := ⟨_, rfl, by decide, rfl, (tb2 118 (by decide +kernel) rfl), rfl, by decide +kernel⟩
theorem fl_Camping_31 : am_fl "TwoCamps$Camping" 31 11 1 := ⟨_, rfl, by decide, rfl, (tb2 119 (by decide +kernel) rfl)⟩
theorem fw_Camping_31 : am_fw "TwoCamps$Camping" 31 11 1 .int := ⟨_, rfl, by decide, rfl, (tb2 119 (by decide +kernel) rfl), rfl, by decide +kernel⟩
theorem fl_Sheet_19 : am_fl "TwoCamps$Sheet" 19 11 1 := ⟨_, rfl, by decide, rfl, (tb2 120 (by decide +kernel) rfl)⟩
theorem fw_Sheet_19 : am_fw "TwoCamps$Sheet" 19 11 1 .int := ⟨_, rfl, by decide, rfl, (tb2 120 (by decide +kernel) rfl), rfl, by decide +kernel⟩
theorem fl_TC_200 : am_fl "TwoCamps" 200 11 1 := ⟨_, rfl, by decide, rfl, (tb2 121 (by decide +kernel) rfl)⟩
theorem fw_TC_200 : am_fw "TwoCamps" 200 11 1 .int := ⟨_, rfl, by decide, rfl, (tb2 121 (by decide +kernel) rfl), rfl, by decide +kernel⟩
theorem fl_Sheet_15 : am_fl "TwoCamps$Sheet" 15 11 2 := ⟨_, rfl, by decide, rfl, (tb2 122 (by decide +kernel) rfl)⟩
theorem fl_Camping_37 : am_fl "TwoCamps$Camping" 37 11 2 := ⟨_, rfl, by decide, rfl, (tb2 123 (by decide +kernel) rfl)⟩
theorem fl_TC_250 : am_fl "TwoCamps" 250 11 2 := ⟨_, rfl, by decide, rfl, (tb2 124 (by decide +kernel) rfl)⟩
theorem fl_TC_10 : am_fl "TwoCamps" 10 0 0 := ⟨_, rfl, by decide, rfl, (tb2 132 (by decide +kernel) rfl)⟩
theorem fl_TC_16 : am_fl "TwoCamps" 16 0 1 := ⟨_, rfl, by decide, rfl, (tb2 133 (by decide +kernel) rfl)⟩
theorem fl_TC_22 : am_fl "TwoCamps" 22 0 2 := ⟨_, rfl, by decide, rfl, (tb2 134 (by decide +kernel) rfl)⟩
theorem fl_TC_26 : am_fl "TwoCamps" 26 0 3 := ⟨_, rfl, by decide, rfl, (tb2 135 (by decide +kernel) rfl)⟩
theorem fl_TC_330 : am_fl "TwoCamps" 330 0 4 := ⟨_, rfl, by decide, rfl, (tb2 136 (by decide +kernel) rfl)⟩
theorem fw_TC_330 : am_fw "TwoCamps" 330 0 4 .boolean := ⟨_, rfl, by decide, rfl, (tb2 136 (by decide +kernel) rfl), rfl, by decide +kernel⟩
theorem fl_TC_327 : am_fl "TwoCamps" 327 0 5 := ⟨_, rfl, by decide, rfl, (tb2 137 (by decide +kernel) rfl)⟩
theorem fw_TC_327 : am_fw "TwoCamps" 327 0 5 .int := ⟨_, rfl, by decide, rfl, (tb2 137 (by decide +kernel) rfl), rfl, by decide +kernel⟩
theorem fl_TC_32 : am_fl "TwoCamps" 32 0 6 := ⟨_, rfl, by decide, rfl, (tb2 138 (by decide +kernel) rfl)⟩
theorem fl_TC_41 : am_fl "TwoCamps" 41 0 7 := ⟨_, rfl, by decide, rfl, (tb2 139 (by decide +kernel) rfl)⟩
theorem fl_TC_50 : am_fl "TwoCamps" 50 0 8 := ⟨_, rfl, by decide, rfl, (tb2 140 (by decide +kernel) rfl)⟩
theorem fl_TC_59 : am_fl "TwoCamps" 59 0 9 := ⟨_, rfl, by decide, rfl, (tb2 141 (by decide +kernel) rfl)⟩
theorem fl_TC_65 : am_fl "TwoCamps" 65 0 10 := ⟨_, rfl, by decide, rfl, (tb2 142 (by decide +kernel) rfl)⟩
theorem fl_TC_205 : am_fl "TwoCamps" 205 0 11 := ⟨_, rfl, by decide, rfl, (tb2 143 (by decide +kernel) rfl)⟩
theorem fw_TC_205 : am_fw "TwoCamps" 205 0 11 .int := ⟨_, rfl, by decide, rfl, (tb2 143 (by decide +kernel) rfl), rfl, by decide +kernel⟩
theorem fl_TC_72 : am_fl "TwoCamps" 72 0 12 := ⟨_, rfl, by decide, rfl, (tb2 144 (by decide +kernel) rfl)⟩
theorem fl_TC_81 : am_fl "TwoCamps" 81 0 13 := ⟨_, rfl, by decide, rfl, (tb2 145 (by decide +kernel) rfl)⟩
theorem fl_TC_88 : am_fl "TwoCamps" 88 0 14 := ⟨_, rfl, by decide, rfl, (tb2 146 (by decide +kernel) rfl)⟩
theorem fl_TC_94 : am_fl "TwoCamps" 94 0 15 := ⟨_, rfl, by decide, rfl, (tb2 147 (by decide +kernel) rfl)⟩
theorem fl_MO_13 : am_fl "TwoCampsModel" 13 12 1 := ⟨_, rfl, by decide, rfl, (tb5 170 (by decide +kernel) rfl)⟩
theorem fl_MO_17 : am_fl "TwoCampsModel" 17 12 2 := ⟨_, rfl, by decide, rfl, (tb5 171 (by decide +kernel) rfl)⟩
theorem fl_MO_111 : am_fl "TwoCampsModel" 111 12 3 := ⟨_, rfl, by decide, rfl, (tb5 172 (by decide +kernel) rfl)⟩
theorem fw_MO_111 : am_fw "TwoCampsModel" 111 12 3 .int := ⟨_, rfl, by decide, rfl, (tb5 172 (by decide +kernel) rfl), rfl, by decide +kernel⟩
theorem fl_MO_151 : am_fl "TwoCampsModel" 151 12 4 := ⟨_, rfl, by decide, rfl, (tb5 173 (by decide +kernel) rfl)⟩
theorem fw_MO_151 : am_fw "TwoCampsModel" 151 12 4 .int := ⟨_, rfl, by decide, rfl, (tb5 173 (by decide +kernel) rfl), rfl, by decide +kernel⟩
theorem fl_MO_20 : am_fl "TwoCampsModel" 20 12 5 := ⟨_, rfl, by decide, rfl, (tb5 174 (by decide +kernel) rfl)⟩
theorem fl_MO_163 : am_fl "TwoCampsModel" 163 12 6 := ⟨_, rfl, by decide, rfl, (tb5 175 (by decide +kernel) rfl)⟩
theorem fw_MO_163 : am_fw "TwoCampsModel" 163 12 6 .int := ⟨_, rfl, by decide, rfl, (tb5 175 (by decide +kernel) rfl), rfl, by decide +kernel⟩
theorem fl_MO_23 : am_fl "TwoCampsModel" 23 12 7 := ⟨_, rfl, by decide, rfl, (tb5 176 (by decide +kernel) rfl)⟩
theorem fl_MO_26 : am_fl "TwoCampsModel" 26 12 8 := ⟨_, rfl, by decide, rfl, (tb5 177 (by decide +kernel) rfl)⟩
theorem fl_MO_116 : am_fl "TwoCampsModel" 116 12 9 := ⟨_, rfl, by decide, rfl, (tb5 178 (by decide +kernel) rfl)⟩
theorem fw_MO_116 : am_fw "TwoCampsModel" 116 12 9 .int := ⟨_, rfl, by decide, rfl, (tb5 178 (by decide +kernel) rfl), rfl, by decide +kernel⟩
theorem fl_MO_29 : am_fl "TwoCampsModel" 29 12 10 := ⟨_, rfl, by decide, rfl, (tb5 179 (by decide +kernel) rfl)⟩
theorem fl_MO_32 : am_fl "TwoCampsModel" 32 12 11 := ⟨_, rfl, by decide, rfl, (tb5 180 (by decide +kernel) rfl)⟩
theorem fl_MO_35 : am_fl "TwoCampsModel" 35 12 12 := ⟨_, rfl, by decide, rfl, (tb5 181 (by decide +kernel) rfl)⟩
theorem fl_MO_38 : am_fl "TwoCampsModel" 38 12 13 := ⟨_, rfl, by decide, rfl, (tb5 182 (by decide +kernel) rfl)⟩
theorem fl_MO_41 : am_fl "TwoCampsModel" 41 12 14 := ⟨_, rfl, by decide, rfl, (tb5 183 (by decide +kernel) rfl)⟩
theorem fl_MO_44 : am_fl "TwoCampsModel" 44 12 15 := ⟨_, rfl, by decide, rfl, (tb5 184 (by decide +kernel) rfl)⟩
theorem fl_MO_123 : am_fl "TwoCampsModel" 123 12 16 := ⟨_, rfl, by decide, rfl, (tb5 185 (by decide +kernel) rfl)⟩
theorem fw_MO_123 : am_fw "TwoCampsModel" 123 12 16 .int := ⟨_, rfl, by decide, rfl, (tb5 185 (by decide +kernel) rfl), rfl, by decide +kernel⟩
theorem fl_MO_169 : am_fl "TwoCampsModel" 169 12 17 := ⟨_, rfl, by decide, rfl, (tb5 186 (by decide +kernel) rfl)⟩
theorem fw_MO_169 : am_fw "TwoCampsModel" 169 12 17 .int := ⟨_, rfl, by decide, rfl, (tb5 186 (by decide +kernel) rfl), rfl, by decide +kernel⟩
theorem fl_MO_166 : am_fl "TwoCampsModel" 166 12 18 := ⟨_, rfl, by decide, rfl, (tb5 187 (by decide +kernel) rfl)⟩
theorem fw_MO_166 : am_fw "TwoCampsModel" 166 12 18 .int := ⟨_, rfl, by decide, rfl, (tb5 187 (by decide +kernel) rfl), rfl, by decide +kernel⟩
theorem fl_MO_181 : am_fl "TwoCampsModel" 181 12 19 := ⟨_, rfl, by decide, rfl, (tb5 188 (by decide +kernel) rfl)⟩
theorem fw_MO_181 : am_fw "TwoCampsModel" 181 12 19 .int := ⟨_, rfl, by decide, rfl, (tb5 188 (by decide +kernel) rfl), rfl, by decide +kernel⟩
theorem fl_MO_178 : am_fl "TwoCampsModel" 178 12 20 := ⟨_, rfl, by decide, rfl, (tb5 189 (by decide +kernel) rfl)⟩
theorem fw_MO_178 : am_fw "TwoCampsModel" 178 12 20 .int := ⟨_, rfl, by decide, rfl, (tb5 189 (by decide +kernel) rfl), rfl, by decide +kernel⟩
theorem fl_MO_188 : am_fl "TwoCampsModel" 188 12 21 := ⟨_, rfl, by decide, rfl, (tb5 190 (by decide +kernel) rfl)⟩
theorem fw_MO_188 : am_fw "TwoCampsModel" 188 12 21 .long := ⟨_, rfl, by decide, rfl, (tb5 190 (by decide +kernel) rfl), rfl, by decide +kernel⟩
theorem fl_MO_172 : am_fl "TwoCampsModel" 172 12 22 := ⟨_, rfl, by decide, rfl, (tb5 191 (by decide +kernel) rfl)⟩
theorem fw_MO_172 : am_fw "TwoCampsModel" 172 12 22 .int := ⟨_, rfl, by decide, rfl, (tb5 191 (by decide +kernel) rfl), rfl, by decide +kernel⟩
theorem fl_MO_209 : am_fl "TwoCampsModel" 209 12 23 := ⟨_, rfl, by decide, rfl, (tb5 192 (by decide +kernel) rfl)⟩
theorem fw_MO_209 : am_fw "TwoCampsModel" 209 12 23 .int := ⟨_, rfl, by decide, rfl, (tb5 192 (by decide +kernel) rfl), rfl, by decide +kernel⟩
theorem fl_MO_202 : am_fl "TwoCampsModel" 202 12 24 := ⟨_, rfl, by decide, rfl, (tb5 193 (by decide +kernel) rfl)⟩
theorem fw_MO_202 : am_fw "TwoCampsModel" 202 12 24 .boolean := ⟨_, rfl, by decide, rfl, (tb5 193 (by decide +kernel) rfl), rfl, by decide +kernel⟩
theorem fl_MO_206 : am_fl "TwoCampsModel" 206 12 25 := ⟨_, rfl, by decide, rfl, (tb5 194 (by decide +kernel) rfl)⟩
theorem fw_MO_206 : am_fw "TwoCampsModel" 206 12 25 .int := ⟨_, rfl, by decide, rfl, (tb5 194 (by decide +kernel) rfl), rfl, by decide +kernel⟩
theorem fl_MO_224 : am_fl "TwoCampsModel" 224 12 26 := ⟨_, rfl, by decide, rfl, (tb5 195 (by decide +kernel) rfl)⟩
theorem fw_MO_224 : am_fw "TwoCampsModel" 224 12 26 .int := ⟨_, rfl, by decide, rfl, (tb5 195 (by decide +kernel) rfl), rfl, by decide +kernel⟩
theorem fl_MO_284 : am_fl "TwoCampsModel" 284 12 27 := ⟨_, rfl, by decide, rfl, (tb5 196 (by decide +kernel) rfl)⟩
theorem fw_MO_284 : am_fw "TwoCampsModel" 284 12 27 .int := ⟨_, rfl, by decide, rfl, (tb5 196 (by decide +kernel) rfl), rfl, by decide +kernel⟩
theorem fl_MO_290 : am_fl "TwoCampsModel" 290 12 28 := ⟨_, rfl, by decide, rfl, (tb5 197 (by decide +kernel) rfl)⟩
theorem fw_MO_290 : am_fw "TwoCampsModel" 290 12 28 .boolean := ⟨_, rfl, by decide, rfl, (tb5 197 (by decide +kernel) rfl), rfl, by decide +kernel⟩
theorem fl_MO_47 : am_fl "TwoCampsModel" 47 12 29 := ⟨_, rfl, by decide, rfl, (tb5 198 (by decide +kernel) rfl)⟩
theorem fl_MO_50 : am_fl "TwoCampsModel" 50 12 30 := ⟨_, rfl, by decide, rfl, (tb5 199 (by decide +kernel) rfl)⟩
theorem fl_MO_53 : am_fl "TwoCampsModel" 53 12 31 := ⟨_, rfl, by decide, rfl, (tb5 200 (by decide +kernel) rfl)⟩
theorem fl_MO_306 : am_fl "TwoCampsModel" 306 12 32 := ⟨_, rfl, by decide, rfl, (tb5 201 (by decide +kernel) rfl)⟩
theorem fw_MO_306 : am_fw "TwoCampsModel" 306 12 32 .int := ⟨_, rfl, by decide, rfl, (tb5 201 (by decide +kernel) rfl), rfl, by decide +kernel⟩
theorem fl_MO_56 : am_fl "TwoCampsModel" 56 12 33 := ⟨_, rfl, by decide, rfl, (tb5 202 (by decide +kernel) rfl)⟩
theorem fl_MO_356 : am_fl "TwoCampsModel" 356 12 34 := ⟨_, rfl, by decide, rfl, (tb5 203 (by decide +kernel) rfl)⟩
theorem fw_MO_356 : am_fw "TwoCampsModel" 356 12 34 .int := ⟨_, rfl, by decide, rfl, (tb5 203 (by decide +kernel) rfl), rfl, by decide +kernel⟩
theorem fl_MO_59 : am_fl "TwoCampsModel" 59 12 35 := ⟨_, rfl, by decide, rfl, (tb5 204 (by decide +kernel) rfl)⟩
theorem fl_MO_62 : am_fl "TwoCampsModel" 62 12 36 := ⟨_, rfl, by decide, rfl, (tb5 205 (by decide +kernel) rfl)⟩
theorem fl_MO_65 : am_fl "TwoCampsModel" 65 12 37 := ⟨_, rfl, by decide, rfl, (tb5 206 (by decide +kernel) rfl)⟩
theorem fl_MO_68 : am_fl "TwoCampsModel" 68 12 38 := ⟨_, rfl, by decide, rfl, (tb5 207 (by decide +kernel) rfl)⟩
theorem fl_MO_71 : am_fl "TwoCampsModel" 71 12 39 := ⟨_, rfl, by decide, rfl, (tb5 208 (by decide +kernel) rfl)⟩
theorem fl_MO_74 : am_fl "TwoCampsModel" 74 12 40 := ⟨_, rfl, by decide, rfl, (tb5 209 (by decide +kernel) rfl)⟩
theorem fl_MO_78 : am_fl "TwoCampsModel" 78 12 41 := ⟨_, rfl, by decide, rfl, (tb5 210 (by decide +kernel) rfl)⟩
theorem fl_MO_384 : am_fl "TwoCampsModel" 384 12 42 := ⟨_, rfl, by decide, rfl, (tb5 211 (by decide +kernel) rfl)⟩
theorem fw_MO_384 : am_fw "TwoCampsModel" 384 12 42 .int := ⟨_, rfl, by decide, rfl, (tb5 211 (by decide +kernel) rfl), rfl, by decide +kernel⟩
theorem fl_MO_81 : am_fl "TwoCampsModel" 81 12 43 := ⟨_, rfl, by decide, rfl, (tb5 212 (by decide +kernel) rfl)⟩
theorem fl_MO_84 : am_fl "TwoCampsModel" 84 12 44 := ⟨_, rfl, by decide, rfl, (tb5 213 (by decide +kernel) rfl)⟩
theorem fl_MO_413 : am_fl "TwoCampsModel" 413 12 45 := ⟨_, rfl, by decide, rfl, (tb5 214 (by decide +kernel) rfl)⟩
theorem fw_MO_413 : am_fw "TwoCampsModel" 413 12 45 .boolean := ⟨_, rfl, by decide, rfl, (tb5 214 (by decide +kernel) rfl), rfl, by decide +kernel⟩
theorem fl_MO_416 : am_fl "TwoCampsModel" 416 12 46 := ⟨_, rfl, by decide, rfl, (tb5 215 (by decide +kernel) rfl)⟩
theorem fw_MO_416 : am_fw "TwoCampsModel" 416 12 46 .int := ⟨_, rfl, by decide, rfl, (tb5 215 (by decide +kernel) rfl), rfl, by decide +kernel⟩
theorem fl_MO_419 : am_fl "TwoCampsModel" 419 12 47 := ⟨_, rfl, by decide, rfl, (tb5 216 (by decide +kernel) rfl)⟩
theorem fw_MO_419 : am_fw "TwoCampsModel" 419 12 47 .int := ⟨_, rfl, by decide, rfl, (tb5 216 (by decide +kernel) rfl), rfl, by decide +kernel⟩
theorem fl_MO_422 : am_fl "TwoCampsModel" 422 12 48 := ⟨_, rfl, by decide, rfl, (tb5 217 (by decide +kernel) rfl)⟩
theorem fw_MO_422 : am_fw "TwoCampsModel" 422 12 48 .int := ⟨_, rfl, by decide, rfl, (tb5 217 (by decide +kernel) rfl), rfl, by decide +kernel⟩
theorem fl_MO_87 : am_fl "TwoCampsModel" 87 12 49 := ⟨_, rfl, by decide, rfl, (tb5 218 (by decide +kernel) rfl)⟩
theorem fl_MO_90 : am_fl "TwoCampsModel" 90 12 50 := ⟨_, rfl, by decide, rfl, (tb5 219 (by decide +kernel) rfl)⟩
theorem fl_MO_93 : am_fl "TwoCampsModel" 93 12 51 := ⟨_, rfl, by decide, rfl, (tb5 220 (by decide +kernel) rfl)⟩
theorem fl_MO_96 : am_fl "TwoCampsModel" 96 12 52 := ⟨_, rfl, by decide, rfl, (tb5 221 (by decide +kernel) rfl)⟩
theorem cp_n : Cond.native arraycopyName ∈ am_T := (tb4 5 (by decide +kernel) rfl)
theorem cp_s : Cond.static arraycopyName ∈ am_T := (tb4 4 (by decide +kernel) rfl)
theorem cp_i : Cond.initialized "java/lang/System" ∈ am_T := (tb1 20 (by decide +kernel) rfl)
theorem max_s : Cond.static Lib.Math.max.name ∈ am_T := (tb2 221 (by decide +kernel) rfl)
theorem max_c : Cond.code Lib.Math.max.name Lib.Math.max.code 2 (some .int) ∈ am_T := tb2 222 (by decide +kernel) rfl
theorem min_s : Cond.static Lib.Math.min.name ∈ am_T := (tb2 218 (by decide +kernel) rfl)
theorem min_c : Cond.code Lib.Math.min.name Lib.Math.min.code 2 (some .int) ∈ am_T := tb2 219 (by decide +kernel) rfl
theorem math_i : Cond.initialized "java/lang/Math" ∈ am_T := (tb1 15 (by decide +kernel) rfl)
theorem am_pv_cons {E : am_E} {k : Nat} {cc : ByteArray} {nL : Nat} {own : String} {pc len : Nat} {a : am_A} {r : am_P} (h : am_V E k cc nL own pc len a) (hh : am_hd (pc + len) r) (hr : am_pv E k cc nL own r) : am_pv E k cc nL own ((pc, a) :: r) := ⟨⟨len, h, hh⟩, hr⟩
end
section
def P_Int_bitCount (E : am_E) (k : Nat) : am_P := [(0, aLi 0), (1, aLi 0), (2, aI 1), (3, aB (fun x y => (x.toUInt32 >>> (y.toUInt32 &&& Int32.toUInt32 31)).toInt32)), (4, aI 1431655765), (7, aB (fun x y => x &&& y)), (8, aB (fun x y => x - y)), (9, aSi 0), (10, aLi 0), (11, aI 858993459), (14, aB (fun x y => x &&& y)), (15, aLi 0), (16, aI 2), (17, aB (fun x y => (x.toUInt32 >>> (y.toUInt32 &&& Int32.toUInt32 31)).toInt32)), (18, aI 858993459), (21, aB (fun x y => x &&& y)), (22, aB (fun x y => x + y)), (23, aSi 0), (24, aLi 0), (25, aLi 0), (26, aI 4), (27, aB (fun x y => (x.toUInt32 >>> (y.toUInt32 &&& Int32.toUInt32 31)).toInt32)), (28, aB (fun x y => x + y)), (29, aI 252645135), (32, aB (fun x y => x &&& y)), (33, aSi 0), (34, aLi 0), (35, aLi 0), (36, aI 8), (38, aB (fun x y => (x.toUInt32 >>> (y.toUInt32 &&& Int32.toUInt32 31)).toInt32)), (39, aB (fun x y => x + y)), (40, aSi 0), (41, aLi 0), (42, aLi 0), (43, aI 16), (45, aB (fun x y => (x.toUInt32 >>> (y.toUInt32 &&& Int32.toUInt32 31)).toInt32)), (46, aB (fun x y => x + y)), (47, aSi 0), (48, aLi 0), (49, aI 63), (51, aB (fun x y => x &&& y)), (52, aRi)]
set_option maxRecDepth 20000 in
theorem pv_Int_bitCount (E : am_E) (k : Nat) : am_pv E k Y_Int_bitCount.2.1 Y_Int_bitCount.2.2.1 Y_Int_bitCount.1.cls (P_Int_bitCount E k) := by
  refine am_pv_cons (v_iload_n (q := 0) (by decide +kernel) rfl) rfl ?_
  refine am_pv_cons (v_iload_n (q := 0) (by decide +kernel) rfl) rfl ?_
  refine am_pv_cons (v_iconst (n := 1) (by decide +kernel) rfl) rfl ?_
  refine am_pv_cons (v_iushr (by decide +kernel)) rfl ?_
  refine am_pv_cons (v_ldcw (i := 265) (tb4 142 (by decide +kernel) rfl) (by decide +kernel)) rfl ?_
  refine am_pv_cons (v_iand (by decide +kernel)) rfl ?_
  refine am_pv_cons (v_isub (by decide +kernel)) rfl ?_
  refine am_pv_cons (v_istore_n (q := 0) (by decide +kernel) rfl) rfl ?_
  refine am_pv_cons (v_iload_n (q := 0) (by decide +kernel) rfl) rfl ?_
  refine am_pv_cons (v_ldcw (i := 266) (tb4 143 (by decide +kernel) rfl) (by decide +kernel)) rfl ?_
  refine am_pv_cons (v_iand (by decide +kernel)) rfl ?_
  refine am_pv_cons (v_iload_n (q := 0) (by decide +kernel) rfl) rfl ?_
  refine am_pv_cons (v_iconst (n := 2) (by decide +kernel) rfl) rfl ?_
  refine am_pv_cons (v_iushr (by decide +kernel)) rfl ?_
  refine am_pv_cons (v_ldcw (i := 266) (tb4 143 (by decide +kernel) rfl) (by decide +kernel)) rfl ?_
  refine am_pv_cons (v_iand (by decide +kernel)) rfl ?_
  refine am_pv_cons (v_iadd (by decide +kernel)) rfl ?_
  refine am_pv_cons (v_istore_n (q := 0) (by decide +kernel) rfl) rfl ?_
  refine am_pv_cons (v_iload_n (q := 0) (by decide +kernel) rfl) rfl ?_
  refine am_pv_cons (v_iload_n (q := 0) (by decide +kernel) rfl) rfl ?_
  refine am_pv_cons (v_iconst (n := 4) (by decide +kernel) rfl) rfl ?_
  refine am_pv_cons (v_iushr (by decide +kernel)) rfl ?_
  refine am_pv_cons (v_iadd (by decide +kernel)) rfl ?_
  refine am_pv_cons (v_ldcw (i := 267) (tb4 144 (by decide +kernel) rfl) (by decide +kernel)) rfl ?_
  refine am_pv_cons (v_iand (by decide +kernel)) rfl ?_
  refine am_pv_cons (v_istore_n (q := 0) (by decide +kernel) rfl) rfl ?_
  refine am_pv_cons (v_iload_n (q := 0) (by decide +kernel) rfl) rfl ?_
  refine am_pv_cons (v_iload_n (q := 0) (by decide +kernel) rfl) rfl ?_
  refine am_pv_cons (v_bipush (n := 8) (by decide +kernel) (by decide +kernel)) rfl ?_
  refine am_pv_cons (v_iushr (by decide +kernel)) rfl ?_
  refine am_pv_cons (v_iadd (by decide +kernel)) rfl ?_
  refine am_pv_cons (v_istore_n (q := 0) (by decide +kernel) rfl) rfl ?_
  refine am_pv_cons (v_iload_n (q := 0) (by decide +kernel) rfl) rfl ?_
  refine am_pv_cons (v_iload_n (q := 0) (by decide +kernel) rfl) rfl ?_
  refine am_pv_cons (v_bipush (n := 16) (by decide +kernel) (by decide +kernel)) rfl ?_
  refine am_pv_cons (v_iushr (by decide +kernel)) rfl ?_
  refine am_pv_cons (v_iadd (by decide +kernel)) rfl ?_
  refine am_pv_cons (v_istore_n (q := 0) (by decide +kernel) rfl) rfl ?_
  refine am_pv_cons (v_iload_n (q := 0) (by decide +kernel) rfl) rfl ?_
  refine am_pv_cons (v_bipush (n := 63) (by decide +kernel) (by decide +kernel)) rfl ?_
  refine am_pv_cons (v_iand (by decide +kernel)) rfl ?_
  refine am_pv_cons (v_ireturn (by decide +kernel)) trivial ?_
  exact trivial
def P_Arr_fill (E : am_E) (k : Nat) : am_P := [(0, aI 0), (1, aSi 2), (2, aLa 0), (3, aLen), (4, aSi 3), (5, aLi 2), (6, aLi 3), (7, aCn (fun x y => x < y) 20), (10, aLa 0), (11, aLi 2), (12, aLi 1), (13, aAst), (14, aInc 2 1), (17, aGo 5), (20, aRv)]
set_option maxRecDepth 20000 in
theorem pv_Arr_fill (E : am_E) (k : Nat) : am_pv E k Y_Arr_fill.2.1 Y_Arr_fill.2.2.1 Y_Arr_fill.1.cls (P_Arr_fill E k) := by
  refine am_pv_cons (v_iconst (n := 0) (by decide +kernel) rfl) rfl ?_
  refine am_pv_cons (v_istore_n (q := 2) (by decide +kernel) rfl) rfl ?_
  refine am_pv_cons (v_aload_n (q := 0) (by decide +kernel) rfl) rfl ?_
  refine am_pv_cons (v_alen (by decide +kernel)) rfl ?_
  refine am_pv_cons (v_istore_n (q := 3) (by decide +kernel) rfl) rfl ?_
  refine am_pv_cons (v_iload_n (q := 2) (by decide +kernel) rfl) rfl ?_
  refine am_pv_cons (v_iload_n (q := 3) (by decide +kernel) rfl) rfl ?_
  refine am_pv_cons (v_ic_ge (off := 13) (by decide +kernel) rfl) rfl ?_
  refine am_pv_cons (v_aload_n (q := 0) (by decide +kernel) rfl) rfl ?_
  refine am_pv_cons (v_iload_n (q := 2) (by decide +kernel) rfl) rfl ?_
  refine am_pv_cons (v_iload_n (q := 1) (by decide +kernel) rfl) rfl ?_
  refine am_pv_cons (v_iast (by decide +kernel)) rfl ?_
  refine am_pv_cons (v_iinc (n := 1) (by decide +kernel) (by decide +kernel)) rfl ?_
  refine am_pv_cons (v_goto (off := -12) (by decide +kernel) rfl) rfl ?_
  refine am_pv_cons (v_return_ (by decide +kernel)) trivial ?_
  exact trivial
def P_Str_charAt (E : am_E) (k : Nat) : am_P := [(0, aLa 0), (1, aIvs E k 0 Y_Str_isLatin1), (4, aIf (fun x => x = 0) 16), (7, aLa 0), (8, aSval), (11, aLi 1), (12, aIs E k 2 Y_L1_charAt), (15, aRi), (16, aLa 0), (17, aSval), (20, aLi 1), (21, aNo), (24, aRi)]
set_option maxRecDepth 20000 in
theorem pv_Str_charAt (E : am_E) (k : Nat) : am_pv E k Y_Str_charAt.2.1 Y_Str_charAt.2.2.1 Y_Str_charAt.1.cls (P_Str_charAt E k) := by
  refine am_pv_cons (v_aload_n (q := 0) (by decide +kernel) rfl) rfl ?_
  refine am_pv_cons (v_virtS (idx := 492) yv_Str_isLatin1 rfl (tb3 152 (by decide +kernel) rfl) (by decide +kernel)) rfl ?_
  refine am_pv_cons (v_if_eq (off := 12) (by decide +kernel) rfl) rfl ?_
  refine am_pv_cons (v_aload_n (q := 0) (by decide +kernel) rfl) rfl ?_
  refine am_pv_cons (v_sval (idx := 9) (tb7 239 (by decide +kernel) rfl) (by decide +kernel)) rfl ?_
  refine am_pv_cons (v_iload_n (q := 1) (by decide +kernel) rfl) rfl ?_
  refine am_pv_cons (v_stat (idx := 495) ys_L1_charAt (tb3 156 (by decide +kernel) rfl) (by decide +kernel)) rfl ?_
  refine am_pv_cons (v_ireturn (by decide +kernel)) rfl ?_
  refine am_pv_cons (v_aload_n (q := 0) (by decide +kernel) rfl) rfl ?_
  refine am_pv_cons (v_sval (idx := 9) (tb7 239 (by decide +kernel) rfl) (by decide +kernel)) rfl ?_
  refine am_pv_cons (v_iload_n (q := 1) (by decide +kernel) rfl) rfl ?_
  refine am_pv_cons (v_no (len := 3)) rfl ?_
  refine am_pv_cons (v_ireturn (by decide +kernel)) trivial ?_
  exact trivial
def P_Str_checkIndex (E : am_E) (k : Nat) : am_P := [(0, aLi 0), (1, aLi 1), (2, aFmt), (5, aIs E k 3 Y_Pre_checkIndex), (8, aPop), (9, aRv)]
set_option maxRecDepth 20000 in
theorem pv_Str_checkIndex (E : am_E) (k : Nat) : am_pv E k Y_Str_checkIndex.2.1 Y_Str_checkIndex.2.2.1 Y_Str_checkIndex.1.cls (P_Str_checkIndex E k) := by
  refine am_pv_cons (v_iload_n (q := 0) (by decide +kernel) rfl) rfl ?_
  refine am_pv_cons (v_iload_n (q := 1) (by decide +kernel) rfl) rfl ?_
  refine am_pv_cons (v_fmt (idx := 1053) (tb3 162 (by decide +kernel) rfl) (by decide +kernel)) rfl ?_
  refine am_pv_cons (v_stat (idx := 1059) ys_Pre_checkIndex (tb3 164 (by decide +kernel) rfl) (by decide +kernel)) rfl ?_
  refine am_pv_cons (v_pop (by decide +kernel)) rfl ?_
  refine am_pv_cons (v_return_ (by decide +kernel)) trivial ?_
  exact trivial
def P_Str_coder (E : am_E) (k : Nat) : am_P := [(0, aI 1), (3, aIf (fun x => x = 0) 13), (6, aLa 0), (7, aScod), (10, aGo 14), (13, aI 1), (14, aRi)]
set_option maxRecDepth 20000 in
theorem pv_Str_coder (E : am_E) (k : Nat) : am_pv E k Y_Str_coder.2.1 Y_Str_coder.2.2.1 Y_Str_coder.1.cls (P_Str_coder E k) := by
  refine am_pv_cons (v_scs (idx := 38) (tb3 146 (by decide +kernel) rfl) (by decide +kernel)) rfl ?_
  refine am_pv_cons (v_if_eq (off := 10) (by decide +kernel) rfl) rfl ?_
  refine am_pv_cons (v_aload_n (q := 0) (by decide +kernel) rfl) rfl ?_
  refine am_pv_cons (v_scod (idx := 15) (tb8 0 (by decide +kernel) rfl) (by decide +kernel)) rfl ?_
  refine am_pv_cons (v_goto (off := 4) (by decide +kernel) rfl) rfl ?_
  refine am_pv_cons (v_iconst (n := 1) (by decide +kernel) rfl) rfl ?_
  refine am_pv_cons (v_ireturn (by decide +kernel)) trivial ?_
  exact trivial
def P_Str_isLatin1 (E : am_E) (k : Nat) : am_P := [(0, aI 1), (3, aIf (fun x => x = 0) 17), (6, aLa 0), (7, aScod), (10, aIn (fun x => x = 0) 17), (13, aI 1), (14, aGo 18), (17, aI 0), (18, aRi)]
set_option maxRecDepth 20000 in
theorem pv_Str_isLatin1 (E : am_E) (k : Nat) : am_pv E k Y_Str_isLatin1.2.1 Y_Str_isLatin1.2.2.1 Y_Str_isLatin1.1.cls (P_Str_isLatin1 E k) := by
  refine am_pv_cons (v_scs (idx := 38) (tb3 146 (by decide +kernel) rfl) (by decide +kernel)) rfl ?_
  refine am_pv_cons (v_if_eq (off := 14) (by decide +kernel) rfl) rfl ?_
  refine am_pv_cons (v_aload_n (q := 0) (by decide +kernel) rfl) rfl ?_
  refine am_pv_cons (v_scod (idx := 15) (tb8 0 (by decide +kernel) rfl) (by decide +kernel)) rfl ?_
  refine am_pv_cons (v_if_ne (off := 7) (by decide +kernel) rfl) rfl ?_
  refine am_pv_cons (v_iconst (n := 1) (by decide +kernel) rfl) rfl ?_
  refine am_pv_cons (v_goto (off := 4) (by decide +kernel) rfl) rfl ?_
  refine am_pv_cons (v_iconst (n := 0) (by decide +kernel) rfl) rfl ?_
  refine am_pv_cons (v_ireturn (by decide +kernel)) trivial ?_
  exact trivial
def P_Str_length (E : am_E) (k : Nat) : am_P := [(0, aLa 0), (1, aSval), (4, aSlen), (5, aLa 0), (6, aIvs E k 0 Y_Str_coder), (9, aB (fun x y => x >>> (y &&& 31))), (10, aRi)]
set_option maxRecDepth 20000 in
theorem pv_Str_length (E : am_E) (k : Nat) : am_pv E k Y_Str_length.2.1 Y_Str_length.2.2.1 Y_Str_length.1.cls (P_Str_length E k) := by
  refine am_pv_cons (v_aload_n (q := 0) (by decide +kernel) rfl) rfl ?_
  refine am_pv_cons (v_sval (idx := 9) (tb7 239 (by decide +kernel) rfl) (by decide +kernel)) rfl ?_
  refine am_pv_cons (v_slen (by decide +kernel)) rfl ?_
  refine am_pv_cons (v_aload_n (q := 0) (by decide +kernel) rfl) rfl ?_
  refine am_pv_cons (v_virtS (idx := 335) yv_Str_coder rfl (tb3 142 (by decide +kernel) rfl) (by decide +kernel)) rfl ?_
  refine am_pv_cons (v_ishr (by decide +kernel)) rfl ?_
  refine am_pv_cons (v_ireturn (by decide +kernel)) trivial ?_
  exact trivial
def P_L1_charAt (E : am_E) (k : Nat) : am_P := [(0, aLi 1), (1, aLa 0), (2, aSlen), (3, aIs E k 2 Y_Str_checkIndex), (6, aLa 0), (7, aLi 1), (8, aSbald), (9, aI 255), (12, aB (fun x y => x &&& y)), (13, aU (fun x => (x.toUInt32 % 65536).toInt32)), (14, aRi)]
set_option maxRecDepth 20000 in
theorem pv_L1_charAt (E : am_E) (k : Nat) : am_pv E k Y_L1_charAt.2.1 Y_L1_charAt.2.2.1 Y_L1_charAt.1.cls (P_L1_charAt E k) := by
  refine am_pv_cons (v_iload_n (q := 1) (by decide +kernel) rfl) rfl ?_
  refine am_pv_cons (v_aload_n (q := 0) (by decide +kernel) rfl) rfl ?_
  refine am_pv_cons (v_slen (by decide +kernel)) rfl ?_
  refine am_pv_cons (v_stat (idx := 9) ys_Str_checkIndex (tb3 159 (by decide +kernel) rfl) (by decide +kernel)) rfl ?_
  refine am_pv_cons (v_aload_n (q := 0) (by decide +kernel) rfl) rfl ?_
  refine am_pv_cons (v_iload_n (q := 1) (by decide +kernel) rfl) rfl ?_
  refine am_pv_cons (v_sbald (by decide +kernel)) rfl ?_
  refine am_pv_cons (v_sipush (n := 255) (by decide +kernel) (by decide +kernel)) rfl ?_
  refine am_pv_cons (v_iand (by decide +kernel)) rfl ?_
  refine am_pv_cons (v_i2c (by decide +kernel)) rfl ?_
  refine am_pv_cons (v_ireturn (by decide +kernel)) trivial ?_
  exact trivial
def P_People_has (E : am_E) (k : Nat) : am_P := [(0, aLi 1), (1, aIf (fun x => x < 0) 16), (4, aLi 1), (5, aLa 0), (6, aGet 1 0), (9, aCn (fun x y => x < y) 16), (12, aI 1), (13, aGo 17), (16, aI 0), (17, aRi)]
set_option maxRecDepth 20000 in
theorem pv_People_has (E : am_E) (k : Nat) : am_pv E k Y_People_has.2.1 Y_People_has.2.2.1 Y_People_has.1.cls (P_People_has E k) := by
  refine am_pv_cons (v_iload_n (q := 1) (by decide +kernel) rfl) rfl ?_
  refine am_pv_cons (v_if_lt (off := 15) (by decide +kernel) rfl) rfl ?_
  refine am_pv_cons (v_iload_n (q := 1) (by decide +kernel) rfl) rfl ?_
  refine am_pv_cons (v_aload_n (q := 0) (by decide +kernel) rfl) rfl ?_
  refine am_pv_cons (v_get fl_People_18 (by decide +kernel)) rfl ?_
  refine am_pv_cons (v_ic_ge (off := 7) (by decide +kernel) rfl) rfl ?_
  refine am_pv_cons (v_iconst (n := 1) (by decide +kernel) rfl) rfl ?_
  refine am_pv_cons (v_goto (off := 4) (by decide +kernel) rfl) rfl ?_
  refine am_pv_cons (v_iconst (n := 0) (by decide +kernel) rfl) rfl ?_
  refine am_pv_cons (v_ireturn (by decide +kernel)) trivial ?_
  exact trivial
def P_People_hasTwo (E : am_E) (k : Nat) : am_P := [(0, aLa 0), (1, aLi 1), (2, aIv E k 1 1 Y_People_has), (5, aIf (fun x => x = 0) 25), (8, aLa 0), (9, aLi 2), (10, aIv E k 1 1 Y_People_has), (13, aIf (fun x => x = 0) 25), (16, aLi 1), (17, aLi 2), (18, aCf (fun x y => x = y) 25), (21, aI 1), (22, aGo 26), (25, aI 0), (26, aRi)]
set_option maxRecDepth 20000 in
theorem pv_People_hasTwo (E : am_E) (k : Nat) : am_pv E k Y_People_hasTwo.2.1 Y_People_hasTwo.2.2.1 Y_People_hasTwo.1.cls (P_People_hasTwo E k) := by
  refine am_pv_cons (v_aload_n (q := 0) (by decide +kernel) rfl) rfl ?_
  refine am_pv_cons (v_iload_n (q := 1) (by decide +kernel) rfl) rfl ?_
  refine am_pv_cons (v_virt (idx := 22) yv_People_has rfl rfl (tb2 208 (by decide +kernel) rfl) (by decide +kernel)) rfl ?_
  refine am_pv_cons (v_if_eq (off := 20) (by decide +kernel) rfl) rfl ?_
  refine am_pv_cons (v_aload_n (q := 0) (by decide +kernel) rfl) rfl ?_
  refine am_pv_cons (v_iload_n (q := 2) (by decide +kernel) rfl) rfl ?_
  refine am_pv_cons (v_virt (idx := 22) yv_People_has rfl rfl (tb2 208 (by decide +kernel) rfl) (by decide +kernel)) rfl ?_
  refine am_pv_cons (v_if_eq (off := 12) (by decide +kernel) rfl) rfl ?_
  refine am_pv_cons (v_iload_n (q := 1) (by decide +kernel) rfl) rfl ?_
  refine am_pv_cons (v_iload_n (q := 2) (by decide +kernel) rfl) rfl ?_
  refine am_pv_cons (v_ic_eq (off := 7) (by decide +kernel) rfl) rfl ?_
  refine am_pv_cons (v_iconst (n := 1) (by decide +kernel) rfl) rfl ?_
  refine am_pv_cons (v_goto (off := 4) (by decide +kernel) rfl) rfl ?_
  refine am_pv_cons (v_iconst (n := 0) (by decide +kernel) rfl) rfl ?_
  refine am_pv_cons (v_ireturn (by decide +kernel)) trivial ?_
  exact trivial
def P_People_add (E : am_E) (k : Nat) : am_P := [(0, aLa 0), (1, aGet 1 1), (4, aLa 0), (5, aGet 1 0), (8, aLi 1), (9, aAst), (10, aLa 0), (11, aGet 1 2), (14, aLa 0), (15, aGet 1 0), (18, aI (-1)), (19, aAst), (20, aLa 0), (21, aDup), (22, aGet 1 0), (25, aI 1), (26, aB (fun x y => x + y)), (27, aPut 1 0), (30, aLa 0), (31, aGet 1 0), (34, aI 1), (35, aB (fun x y => x - y)), (36, aRi)]
set_option maxRecDepth 20000 in
theorem pv_People_add (E : am_E) (k : Nat) : am_pv E k Y_People_add.2.1 Y_People_add.2.2.1 Y_People_add.1.cls (P_People_add E k) := by
  refine am_pv_cons (v_aload_n (q := 0) (by decide +kernel) rfl) rfl ?_
  refine am_pv_cons (v_get fl_People_9 (by decide +kernel)) rfl ?_
  refine am_pv_cons (v_aload_n (q := 0) (by decide +kernel) rfl) rfl ?_
  refine am_pv_cons (v_get fl_People_18 (by decide +kernel)) rfl ?_
  refine am_pv_cons (v_iload_n (q := 1) (by decide +kernel) rfl) rfl ?_
  refine am_pv_cons (v_iast (by decide +kernel)) rfl ?_
  refine am_pv_cons (v_aload_n (q := 0) (by decide +kernel) rfl) rfl ?_
  refine am_pv_cons (v_get fl_People_15 (by decide +kernel)) rfl ?_
  refine am_pv_cons (v_aload_n (q := 0) (by decide +kernel) rfl) rfl ?_
  refine am_pv_cons (v_get fl_People_18 (by decide +kernel)) rfl ?_
  refine am_pv_cons (v_iconst (n := -1) (by decide +kernel) rfl) rfl ?_
  refine am_pv_cons (v_iast (by decide +kernel)) rfl ?_
  refine am_pv_cons (v_aload_n (q := 0) (by decide +kernel) rfl) rfl ?_
  refine am_pv_cons (v_dup (by decide +kernel)) rfl ?_
  refine am_pv_cons (v_get fl_People_18 (by decide +kernel)) rfl ?_
  refine am_pv_cons (v_iconst (n := 1) (by decide +kernel) rfl) rfl ?_
  refine am_pv_cons (v_iadd (by decide +kernel)) rfl ?_
  refine am_pv_cons (v_put fw_People_18 (by decide +kernel)) rfl ?_
  refine am_pv_cons (v_aload_n (q := 0) (by decide +kernel) rfl) rfl ?_
  refine am_pv_cons (v_get fl_People_18 (by decide +kernel)) rfl ?_
  refine am_pv_cons (v_iconst (n := 1) (by decide +kernel) rfl) rfl ?_
  refine am_pv_cons (v_isub (by decide +kernel)) rfl ?_
  refine am_pv_cons (v_ireturn (by decide +kernel)) trivial ?_
  exact trivial
def P_People_isCheaper (E : am_E) (k : Nat) : am_P := [(0, aLi 1), (1, aIs E k 1 Y_Int_bitCount), (4, aLi 2), (5, aIs E k 1 Y_Int_bitCount), (8, aB (fun x y => x - y)), (9, aSi 3), (10, aLi 3), (11, aIf (fun x => x < 0) 31), (14, aLi 3), (15, aIn (fun x => x = 0) 35), (18, aLa 0), (19, aLi 1), (20, aIv E k 1 1 Y_People_priceOf), (23, aLa 0), (24, aLi 2), (25, aIv E k 1 1 Y_People_priceOf), (28, aCn (fun x y => x < y) 35), (31, aI 1), (32, aGo 36), (35, aI 0), (36, aRi)]
set_option maxRecDepth 20000 in
theorem pv_People_isCheaper (E : am_E) (k : Nat) : am_pv E k Y_People_isCheaper.2.1 Y_People_isCheaper.2.2.1 Y_People_isCheaper.1.cls (P_People_isCheaper E k) := by
  refine am_pv_cons (v_iload_n (q := 1) (by decide +kernel) rfl) rfl ?_
  refine am_pv_cons (v_stat (idx := 26) ys_Int_bitCount (tb4 222 (by decide +kernel) rfl) (by decide +kernel)) rfl ?_
  refine am_pv_cons (v_iload_n (q := 2) (by decide +kernel) rfl) rfl ?_
  refine am_pv_cons (v_stat (idx := 26) ys_Int_bitCount (tb4 222 (by decide +kernel) rfl) (by decide +kernel)) rfl ?_
  refine am_pv_cons (v_isub (by decide +kernel)) rfl ?_
  refine am_pv_cons (v_istore_n (q := 3) (by decide +kernel) rfl) rfl ?_
  refine am_pv_cons (v_iload_n (q := 3) (by decide +kernel) rfl) rfl ?_
  refine am_pv_cons (v_if_lt (off := 20) (by decide +kernel) rfl) rfl ?_
  refine am_pv_cons (v_iload_n (q := 3) (by decide +kernel) rfl) rfl ?_
  refine am_pv_cons (v_if_ne (off := 20) (by decide +kernel) rfl) rfl ?_
  refine am_pv_cons (v_aload_n (q := 0) (by decide +kernel) rfl) rfl ?_
  refine am_pv_cons (v_iload_n (q := 1) (by decide +kernel) rfl) rfl ?_
  refine am_pv_cons (v_virt (idx := 32) yv_People_priceOf rfl rfl (tb4 223 (by decide +kernel) rfl) (by decide +kernel)) rfl ?_
  refine am_pv_cons (v_aload_n (q := 0) (by decide +kernel) rfl) rfl ?_
  refine am_pv_cons (v_iload_n (q := 2) (by decide +kernel) rfl) rfl ?_
  refine am_pv_cons (v_virt (idx := 32) yv_People_priceOf rfl rfl (tb4 223 (by decide +kernel) rfl) (by decide +kernel)) rfl ?_
  refine am_pv_cons (v_ic_ge (off := 7) (by decide +kernel) rfl) rfl ?_
  refine am_pv_cons (v_iconst (n := 1) (by decide +kernel) rfl) rfl ?_
  refine am_pv_cons (v_goto (off := 4) (by decide +kernel) rfl) rfl ?_
  refine am_pv_cons (v_iconst (n := 0) (by decide +kernel) rfl) rfl ?_
  refine am_pv_cons (v_ireturn (by decide +kernel)) trivial ?_
  exact trivial
def P_People_priceOf (E : am_E) (k : Nat) : am_P := [(0, aI 0), (1, aSi 2), (2, aI 0), (3, aSi 3), (4, aLi 3), (5, aLa 0), (6, aGet 1 0), (9, aCn (fun x y => x < y) 36), (12, aLi 1), (13, aLi 3), (14, aB (fun x y => x >>> (y &&& 31))), (15, aI 1), (16, aB (fun x y => x &&& y)), (17, aI 1), (18, aCn (fun x y => x = y) 30), (21, aLi 2), (22, aLa 0), (23, aGet 1 1), (26, aLi 3), (27, aAld 0), (28, aB (fun x y => x + y)), (29, aSi 2), (30, aInc 3 1), (33, aGo 4), (36, aLi 2), (37, aRi)]
set_option maxRecDepth 20000 in
theorem pv_People_priceOf (E : am_E) (k : Nat) : am_pv E k Y_People_priceOf.2.1 Y_People_priceOf.2.2.1 Y_People_priceOf.1.cls (P_People_priceOf E k) := by
  refine am_pv_cons (v_iconst (n := 0) (by decide +kernel) rfl) rfl ?_
  refine am_pv_cons (v_istore_n (q := 2) (by decide +kernel) rfl) rfl ?_
  refine am_pv_cons (v_iconst (n := 0) (by decide +kernel) rfl) rfl ?_
  refine am_pv_cons (v_istore_n (q := 3) (by decide +kernel) rfl) rfl ?_
  refine am_pv_cons (v_iload_n (q := 3) (by decide +kernel) rfl) rfl ?_
  refine am_pv_cons (v_aload_n (q := 0) (by decide +kernel) rfl) rfl ?_
  refine am_pv_cons (v_get fl_People_18 (by decide +kernel)) rfl ?_
  refine am_pv_cons (v_ic_ge (off := 27) (by decide +kernel) rfl) rfl ?_
  refine am_pv_cons (v_iload_n (q := 1) (by decide +kernel) rfl) rfl ?_
  refine am_pv_cons (v_iload_n (q := 3) (by decide +kernel) rfl) rfl ?_
  refine am_pv_cons (v_ishr (by decide +kernel)) rfl ?_
  refine am_pv_cons (v_iconst (n := 1) (by decide +kernel) rfl) rfl ?_
  refine am_pv_cons (v_iand (by decide +kernel)) rfl ?_
  refine am_pv_cons (v_iconst (n := 1) (by decide +kernel) rfl) rfl ?_
  refine am_pv_cons (v_ic_ne (off := 12) (by decide +kernel) rfl) rfl ?_
  refine am_pv_cons (v_iload_n (q := 2) (by decide +kernel) rfl) rfl ?_
  refine am_pv_cons (v_aload_n (q := 0) (by decide +kernel) rfl) rfl ?_
  refine am_pv_cons (v_get fl_People_9 (by decide +kernel)) rfl ?_
  refine am_pv_cons (v_iload_n (q := 3) (by decide +kernel) rfl) rfl ?_
  refine am_pv_cons (v_iald (by decide +kernel)) rfl ?_
  refine am_pv_cons (v_iadd (by decide +kernel)) rfl ?_
  refine am_pv_cons (v_istore_n (q := 2) (by decide +kernel) rfl) rfl ?_
  refine am_pv_cons (v_iinc (n := 1) (by decide +kernel) (by decide +kernel)) rfl ?_
  refine am_pv_cons (v_goto (off := -29) (by decide +kernel) rfl) rfl ?_
  refine am_pv_cons (v_iload_n (q := 2) (by decide +kernel) rfl) rfl ?_
  refine am_pv_cons (v_ireturn (by decide +kernel)) trivial ?_
  exact trivial
def P_People_become (E : am_E) (k : Nat) : am_P := [(0, aLa 0), (1, aLa 1), (2, aIv E k 1 1 Y_People_takeBack), (5, aLa 0), (6, aLa 1), (7, aGet 1 0), (10, aPut 1 0), (13, aRv)]
set_option maxRecDepth 20000 in
theorem pv_People_become (E : am_E) (k : Nat) : am_pv E k Y_People_become.2.1 Y_People_become.2.2.1 Y_People_become.1.cls (P_People_become E k) := by
  refine am_pv_cons (v_aload_n (q := 0) (by decide +kernel) rfl) rfl ?_
  refine am_pv_cons (v_aload_n (q := 1) (by decide +kernel) rfl) rfl ?_
  refine am_pv_cons (v_virt (idx := 35) yv_People_takeBack rfl rfl (tb5 97 (by decide +kernel) rfl) (by decide +kernel)) rfl ?_
  refine am_pv_cons (v_aload_n (q := 0) (by decide +kernel) rfl) rfl ?_
  refine am_pv_cons (v_aload_n (q := 1) (by decide +kernel) rfl) rfl ?_
  refine am_pv_cons (v_get fl_People_18 (by decide +kernel)) rfl ?_
  refine am_pv_cons (v_put fw_People_18 (by decide +kernel)) rfl ?_
  refine am_pv_cons (v_return_ (by decide +kernel)) trivial ?_
  exact trivial
def P_People_takeBack (E : am_E) (k : Nat) : am_P := [(0, aLa 1), (1, aGet 1 1), (4, aI 0), (5, aLa 0), (6, aGet 1 1), (9, aI 0), (10, aLa 1), (11, aGet 1 0), (14, aCpy k), (17, aLa 1), (18, aGet 1 2), (21, aI 0), (22, aLa 0), (23, aGet 1 2), (26, aI 0), (27, aLa 1), (28, aGet 1 0), (31, aCpy k), (34, aRv)]
set_option maxRecDepth 20000 in
theorem pv_People_takeBack (E : am_E) (k : Nat) : am_pv E k Y_People_takeBack.2.1 Y_People_takeBack.2.2.1 Y_People_takeBack.1.cls (P_People_takeBack E k) := by
  refine am_pv_cons (v_aload_n (q := 1) (by decide +kernel) rfl) rfl ?_
  refine am_pv_cons (v_get fl_People_9 (by decide +kernel)) rfl ?_
  refine am_pv_cons (v_iconst (n := 0) (by decide +kernel) rfl) rfl ?_
  refine am_pv_cons (v_aload_n (q := 0) (by decide +kernel) rfl) rfl ?_
  refine am_pv_cons (v_get fl_People_9 (by decide +kernel)) rfl ?_
  refine am_pv_cons (v_iconst (n := 0) (by decide +kernel) rfl) rfl ?_
  refine am_pv_cons (v_aload_n (q := 1) (by decide +kernel) rfl) rfl ?_
  refine am_pv_cons (v_get fl_People_18 (by decide +kernel)) rfl ?_
  refine am_pv_cons (v_cpy (idx := 39) (tb5 101 (by decide +kernel) rfl) cp_n cp_s cp_i (by decide +kernel)) rfl ?_
  refine am_pv_cons (v_aload_n (q := 1) (by decide +kernel) rfl) rfl ?_
  refine am_pv_cons (v_get fl_People_15 (by decide +kernel)) rfl ?_
  refine am_pv_cons (v_iconst (n := 0) (by decide +kernel) rfl) rfl ?_
  refine am_pv_cons (v_aload_n (q := 0) (by decide +kernel) rfl) rfl ?_
  refine am_pv_cons (v_get fl_People_15 (by decide +kernel)) rfl ?_
  refine am_pv_cons (v_iconst (n := 0) (by decide +kernel) rfl) rfl ?_
  refine am_pv_cons (v_aload_n (q := 1) (by decide +kernel) rfl) rfl ?_
  refine am_pv_cons (v_get fl_People_18 (by decide +kernel)) rfl ?_
  refine am_pv_cons (v_cpy (idx := 39) (tb5 101 (by decide +kernel) rfl) cp_n cp_s cp_i (by decide +kernel)) rfl ?_
  refine am_pv_cons (v_return_ (by decide +kernel)) trivial ?_
  exact trivial
def P_Feelings_has (E : am_E) (k : Nat) : am_P := [(0, aLi 1), (1, aIf (fun x => x < 0) 16), (4, aLi 1), (5, aLa 0), (6, aGet 2 0), (9, aCn (fun x y => x < y) 16), (12, aI 1), (13, aGo 17), (16, aI 0), (17, aRi)]
set_option maxRecDepth 20000 in
theorem pv_Feelings_has (E : am_E) (k : Nat) : am_pv E k Y_Feelings_has.2.1 Y_Feelings_has.2.2.1 Y_Feelings_has.1.cls (P_Feelings_has E k) := by
  refine am_pv_cons (v_iload_n (q := 1) (by decide +kernel) rfl) rfl ?_
  refine am_pv_cons (v_if_lt (off := 15) (by decide +kernel) rfl) rfl ?_
  refine am_pv_cons (v_iload_n (q := 1) (by decide +kernel) rfl) rfl ?_
  refine am_pv_cons (v_aload_n (q := 0) (by decide +kernel) rfl) rfl ?_
  refine am_pv_cons (v_get fl_Feelings_39 (by decide +kernel)) rfl ?_
  refine am_pv_cons (v_ic_ge (off := 7) (by decide +kernel) rfl) rfl ?_
  refine am_pv_cons (v_iconst (n := 1) (by decide +kernel) rfl) rfl ?_
  refine am_pv_cons (v_goto (off := 4) (by decide +kernel) rfl) rfl ?_
  refine am_pv_cons (v_iconst (n := 0) (by decide +kernel) rfl) rfl ?_
  refine am_pv_cons (v_ireturn (by decide +kernel)) trivial ?_
  exact trivial
def P_Feelings_find (E : am_E) (k : Nat) : am_P := [(0, aLa 0), (1, aGet 2 6), (4, aLi 1), (5, aI 9), (7, aB (fun x y => x * y)), (8, aLi 2), (9, aB (fun x y => x + y)), (10, aAld 0), (11, aRi)]
set_option maxRecDepth 20000 in
theorem pv_Feelings_find (E : am_E) (k : Nat) : am_pv E k Y_Feelings_find.2.1 Y_Feelings_find.2.2.1 Y_Feelings_find.1.cls (P_Feelings_find E k) := by
  refine am_pv_cons (v_aload_n (q := 0) (by decide +kernel) rfl) rfl ?_
  refine am_pv_cons (v_get fl_Feelings_27 (by decide +kernel)) rfl ?_
  refine am_pv_cons (v_iload_n (q := 1) (by decide +kernel) rfl) rfl ?_
  refine am_pv_cons (v_bipush (n := 9) (by decide +kernel) (by decide +kernel)) rfl ?_
  refine am_pv_cons (v_imul (by decide +kernel)) rfl ?_
  refine am_pv_cons (v_iload_n (q := 2) (by decide +kernel) rfl) rfl ?_
  refine am_pv_cons (v_iadd (by decide +kernel)) rfl ?_
  refine am_pv_cons (v_iald (by decide +kernel)) rfl ?_
  refine am_pv_cons (v_ireturn (by decide +kernel)) trivial ?_
  exact trivial
def P_Feelings_tell (E : am_E) (k : Nat) : am_P := [(0, aLa 0), (1, aLi 1), (2, aLi 2), (3, aIv E k 2 2 Y_Feelings_find), (6, aSi 6), (8, aLi 6), (10, aI (-1)), (11, aCn (fun x y => x = y) 92), (14, aLa 0), (15, aGet 2 0), (18, aI 36), (20, aCf (fun x y => x < y) 26), (23, aI (-4)), (25, aRi), (26, aLa 0), (27, aGet 2 0), (30, aSi 6), (32, aLa 0), (33, aDup), (34, aGet 2 0), (37, aI 1), (38, aB (fun x y => x + y)), (39, aPut 2 0), (42, aLa 0), (43, aGet 2 1), (46, aLi 6), (48, aLi 1), (49, aLi 2), (50, aMn k), (53, aAst), (54, aLa 0), (55, aGet 2 2), (58, aLi 6), (60, aLi 1), (61, aLi 2), (62, aMx k), (65, aAst), (66, aLa 0), (67, aGet 2 6), (70, aLi 1), (71, aI 9), (73, aB (fun x y => x * y)), (74, aLi 2), (75, aB (fun x y => x + y)), (76, aLi 6), (78, aAst), (79, aLa 0), (80, aGet 2 6), (83, aLi 2), (84, aI 9), (86, aB (fun x y => x * y)), (87, aLi 1), (88, aB (fun x y => x + y)), (89, aLi 6), (91, aAst), (92, aLa 0), (93, aGet 2 3), (96, aLi 6), (98, aLi 3), (99, aAst), (100, aLa 0), (101, aGet 2 4), (104, aLi 6), (106, aLi 4), (108, aAst), (109, aLa 0), (110, aGet 2 5), (113, aLi 6), (115, aLi 5), (117, aAst), (118, aLi 6), (120, aRi)]
set_option maxRecDepth 20000 in
theorem pv_Feelings_tell (E : am_E) (k : Nat) : am_pv E k Y_Feelings_tell.2.1 Y_Feelings_tell.2.2.1 Y_Feelings_tell.1.cls (P_Feelings_tell E k) := by
  refine am_pv_cons (v_aload_n (q := 0) (by decide +kernel) rfl) rfl ?_
  refine am_pv_cons (v_iload_n (q := 1) (by decide +kernel) rfl) rfl ?_
  refine am_pv_cons (v_iload_n (q := 2) (by decide +kernel) rfl) rfl ?_
  refine am_pv_cons (v_virt (idx := 43) yv_Feelings_find rfl rfl (tb2 213 (by decide +kernel) rfl) (by decide +kernel)) rfl ?_
  refine am_pv_cons (v_istore (by decide +kernel)) rfl ?_
  refine am_pv_cons (v_iload (by decide +kernel)) rfl ?_
  refine am_pv_cons (v_iconst (n := -1) (by decide +kernel) rfl) rfl ?_
  refine am_pv_cons (v_ic_ne (off := 81) (by decide +kernel) rfl) rfl ?_
  refine am_pv_cons (v_aload_n (q := 0) (by decide +kernel) rfl) rfl ?_
  refine am_pv_cons (v_get fl_Feelings_39 (by decide +kernel)) rfl ?_
  refine am_pv_cons (v_bipush (n := 36) (by decide +kernel) (by decide +kernel)) rfl ?_
  refine am_pv_cons (v_ic_lt (off := 6) (by decide +kernel) rfl) rfl ?_
  refine am_pv_cons (v_bipush (n := -4) (by decide +kernel) (by decide +kernel)) rfl ?_
  refine am_pv_cons (v_ireturn (by decide +kernel)) rfl ?_
  refine am_pv_cons (v_aload_n (q := 0) (by decide +kernel) rfl) rfl ?_
  refine am_pv_cons (v_get fl_Feelings_39 (by decide +kernel)) rfl ?_
  refine am_pv_cons (v_istore (by decide +kernel)) rfl ?_
  refine am_pv_cons (v_aload_n (q := 0) (by decide +kernel) rfl) rfl ?_
  refine am_pv_cons (v_dup (by decide +kernel)) rfl ?_
  refine am_pv_cons (v_get fl_Feelings_39 (by decide +kernel)) rfl ?_
  refine am_pv_cons (v_iconst (n := 1) (by decide +kernel) rfl) rfl ?_
  refine am_pv_cons (v_iadd (by decide +kernel)) rfl ?_
  refine am_pv_cons (v_put fw_Feelings_39 (by decide +kernel)) rfl ?_
  refine am_pv_cons (v_aload_n (q := 0) (by decide +kernel) rfl) rfl ?_
  refine am_pv_cons (v_get fl_Feelings_9 (by decide +kernel)) rfl ?_
  refine am_pv_cons (v_iload (by decide +kernel)) rfl ?_
  refine am_pv_cons (v_iload_n (q := 1) (by decide +kernel) rfl) rfl ?_
  refine am_pv_cons (v_iload_n (q := 2) (by decide +kernel) rfl) rfl ?_
  refine am_pv_cons (v_min (idx := 47) (tb2 217 (by decide +kernel) rfl) min_s math_i min_c (by decide +kernel)) rfl ?_
  refine am_pv_cons (v_iast (by decide +kernel)) rfl ?_
  refine am_pv_cons (v_aload_n (q := 0) (by decide +kernel) rfl) rfl ?_
  refine am_pv_cons (v_get fl_Feelings_15 (by decide +kernel)) rfl ?_
  refine am_pv_cons (v_iload (by decide +kernel)) rfl ?_
  refine am_pv_cons (v_iload_n (q := 1) (by decide +kernel) rfl) rfl ?_
  refine am_pv_cons (v_iload_n (q := 2) (by decide +kernel) rfl) rfl ?_
  refine am_pv_cons (v_max (idx := 52) (tb2 220 (by decide +kernel) rfl) max_s math_i max_c (by decide +kernel)) rfl ?_
  refine am_pv_cons (v_iast (by decide +kernel)) rfl ?_
  refine am_pv_cons (v_aload_n (q := 0) (by decide +kernel) rfl) rfl ?_
  refine am_pv_cons (v_get fl_Feelings_27 (by decide +kernel)) rfl ?_
  refine am_pv_cons (v_iload_n (q := 1) (by decide +kernel) rfl) rfl ?_
  refine am_pv_cons (v_bipush (n := 9) (by decide +kernel) (by decide +kernel)) rfl ?_
  refine am_pv_cons (v_imul (by decide +kernel)) rfl ?_
  refine am_pv_cons (v_iload_n (q := 2) (by decide +kernel) rfl) rfl ?_
  refine am_pv_cons (v_iadd (by decide +kernel)) rfl ?_
  refine am_pv_cons (v_iload (by decide +kernel)) rfl ?_
  refine am_pv_cons (v_iast (by decide +kernel)) rfl ?_
  refine am_pv_cons (v_aload_n (q := 0) (by decide +kernel) rfl) rfl ?_
  refine am_pv_cons (v_get fl_Feelings_27 (by decide +kernel)) rfl ?_
  refine am_pv_cons (v_iload_n (q := 2) (by decide +kernel) rfl) rfl ?_
  refine am_pv_cons (v_bipush (n := 9) (by decide +kernel) (by decide +kernel)) rfl ?_
  refine am_pv_cons (v_imul (by decide +kernel)) rfl ?_
  refine am_pv_cons (v_iload_n (q := 1) (by decide +kernel) rfl) rfl ?_
  refine am_pv_cons (v_iadd (by decide +kernel)) rfl ?_
  refine am_pv_cons (v_iload (by decide +kernel)) rfl ?_
  refine am_pv_cons (v_iast (by decide +kernel)) rfl ?_
  refine am_pv_cons (v_aload_n (q := 0) (by decide +kernel) rfl) rfl ?_
  refine am_pv_cons (v_get fl_Feelings_18 (by decide +kernel)) rfl ?_
  refine am_pv_cons (v_iload (by decide +kernel)) rfl ?_
  refine am_pv_cons (v_iload_n (q := 3) (by decide +kernel) rfl) rfl ?_
  refine am_pv_cons (v_iast (by decide +kernel)) rfl ?_
  refine am_pv_cons (v_aload_n (q := 0) (by decide +kernel) rfl) rfl ?_
  refine am_pv_cons (v_get fl_Feelings_21 (by decide +kernel)) rfl ?_
  refine am_pv_cons (v_iload (by decide +kernel)) rfl ?_
  refine am_pv_cons (v_iload (by decide +kernel)) rfl ?_
  refine am_pv_cons (v_iast (by decide +kernel)) rfl ?_
  refine am_pv_cons (v_aload_n (q := 0) (by decide +kernel) rfl) rfl ?_
  refine am_pv_cons (v_get fl_Feelings_24 (by decide +kernel)) rfl ?_
  refine am_pv_cons (v_iload (by decide +kernel)) rfl ?_
  refine am_pv_cons (v_iload (by decide +kernel)) rfl ?_
  refine am_pv_cons (v_iast (by decide +kernel)) rfl ?_
  refine am_pv_cons (v_iload (by decide +kernel)) rfl ?_
  refine am_pv_cons (v_ireturn (by decide +kernel)) trivial ?_
  exact trivial
def P_Feelings_isOf (E : am_E) (k : Nat) : am_P := [(0, aLa 0), (1, aGet 2 1), (4, aLi 1), (5, aAld 0), (6, aLi 2), (7, aCf (fun x y => x = y) 20), (10, aLa 0), (11, aGet 2 2), (14, aLi 1), (15, aAld 0), (16, aLi 2), (17, aCn (fun x y => x = y) 24), (20, aI 1), (21, aGo 25), (24, aI 0), (25, aRi)]
set_option maxRecDepth 20000 in
theorem pv_Feelings_isOf (E : am_E) (k : Nat) : am_pv E k Y_Feelings_isOf.2.1 Y_Feelings_isOf.2.2.1 Y_Feelings_isOf.1.cls (P_Feelings_isOf E k) := by
  refine am_pv_cons (v_aload_n (q := 0) (by decide +kernel) rfl) rfl ?_
  refine am_pv_cons (v_get fl_Feelings_9 (by decide +kernel)) rfl ?_
  refine am_pv_cons (v_iload_n (q := 1) (by decide +kernel) rfl) rfl ?_
  refine am_pv_cons (v_iald (by decide +kernel)) rfl ?_
  refine am_pv_cons (v_iload_n (q := 2) (by decide +kernel) rfl) rfl ?_
  refine am_pv_cons (v_ic_eq (off := 13) (by decide +kernel) rfl) rfl ?_
  refine am_pv_cons (v_aload_n (q := 0) (by decide +kernel) rfl) rfl ?_
  refine am_pv_cons (v_get fl_Feelings_15 (by decide +kernel)) rfl ?_
  refine am_pv_cons (v_iload_n (q := 1) (by decide +kernel) rfl) rfl ?_
  refine am_pv_cons (v_iald (by decide +kernel)) rfl ?_
  refine am_pv_cons (v_iload_n (q := 2) (by decide +kernel) rfl) rfl ?_
  refine am_pv_cons (v_ic_ne (off := 7) (by decide +kernel) rfl) rfl ?_
  refine am_pv_cons (v_iconst (n := 1) (by decide +kernel) rfl) rfl ?_
  refine am_pv_cons (v_goto (off := 4) (by decide +kernel) rfl) rfl ?_
  refine am_pv_cons (v_iconst (n := 0) (by decide +kernel) rfl) rfl ?_
  refine am_pv_cons (v_ireturn (by decide +kernel)) trivial ?_
  exact trivial
def P_Feelings_bitsOf (E : am_E) (k : Nat) : am_P := [(0, aI 1), (1, aLa 0), (2, aGet 2 1), (5, aLi 1), (6, aAld 0), (7, aB (fun x y => x <<< (y &&& 31))), (8, aI 1), (9, aLa 0), (10, aGet 2 2), (13, aLi 1), (14, aAld 0), (15, aB (fun x y => x <<< (y &&& 31))), (16, aB (fun x y => x ||| y)), (17, aRi)]
set_option maxRecDepth 20000 in
theorem pv_Feelings_bitsOf (E : am_E) (k : Nat) : am_pv E k Y_Feelings_bitsOf.2.1 Y_Feelings_bitsOf.2.2.1 Y_Feelings_bitsOf.1.cls (P_Feelings_bitsOf E k) := by
  refine am_pv_cons (v_iconst (n := 1) (by decide +kernel) rfl) rfl ?_
  refine am_pv_cons (v_aload_n (q := 0) (by decide +kernel) rfl) rfl ?_
  refine am_pv_cons (v_get fl_Feelings_9 (by decide +kernel)) rfl ?_
  refine am_pv_cons (v_iload_n (q := 1) (by decide +kernel) rfl) rfl ?_
  refine am_pv_cons (v_iald (by decide +kernel)) rfl ?_
  refine am_pv_cons (v_ishl (by decide +kernel)) rfl ?_
  refine am_pv_cons (v_iconst (n := 1) (by decide +kernel) rfl) rfl ?_
  refine am_pv_cons (v_aload_n (q := 0) (by decide +kernel) rfl) rfl ?_
  refine am_pv_cons (v_get fl_Feelings_15 (by decide +kernel)) rfl ?_
  refine am_pv_cons (v_iload_n (q := 1) (by decide +kernel) rfl) rfl ?_
  refine am_pv_cons (v_iald (by decide +kernel)) rfl ?_
  refine am_pv_cons (v_ishl (by decide +kernel)) rfl ?_
  refine am_pv_cons (v_ior (by decide +kernel)) rfl ?_
  refine am_pv_cons (v_ireturn (by decide +kernel)) trivial ?_
  exact trivial
def P_Feelings_isWrong (E : am_E) (k : Nat) : am_P := [(0, aLa 0), (1, aGet 2 3), (4, aLi 1), (5, aAld 0), (6, aIn (fun x => 0 < x) 13), (9, aI 1), (10, aGo 14), (13, aI 0), (14, aLi 2), (15, aCf (fun x y => x = y) 22), (18, aI 1), (19, aGo 23), (22, aI 0), (23, aRi)]
set_option maxRecDepth 20000 in
theorem pv_Feelings_isWrong (E : am_E) (k : Nat) : am_pv E k Y_Feelings_isWrong.2.1 Y_Feelings_isWrong.2.2.1 Y_Feelings_isWrong.1.cls (P_Feelings_isWrong E k) := by
  refine am_pv_cons (v_aload_n (q := 0) (by decide +kernel) rfl) rfl ?_
  refine am_pv_cons (v_get fl_Feelings_18 (by decide +kernel)) rfl ?_
  refine am_pv_cons (v_iload_n (q := 1) (by decide +kernel) rfl) rfl ?_
  refine am_pv_cons (v_iald (by decide +kernel)) rfl ?_
  refine am_pv_cons (v_if_le (off := 7) (by decide +kernel) rfl) rfl ?_
  refine am_pv_cons (v_iconst (n := 1) (by decide +kernel) rfl) rfl ?_
  refine am_pv_cons (v_goto (off := 4) (by decide +kernel) rfl) rfl ?_
  refine am_pv_cons (v_iconst (n := 0) (by decide +kernel) rfl) rfl ?_
  refine am_pv_cons (v_iload_n (q := 2) (by decide +kernel) rfl) rfl ?_
  refine am_pv_cons (v_ic_eq (off := 7) (by decide +kernel) rfl) rfl ?_
  refine am_pv_cons (v_iconst (n := 1) (by decide +kernel) rfl) rfl ?_
  refine am_pv_cons (v_goto (off := 4) (by decide +kernel) rfl) rfl ?_
  refine am_pv_cons (v_iconst (n := 0) (by decide +kernel) rfl) rfl ?_
  refine am_pv_cons (v_ireturn (by decide +kernel)) trivial ?_
  exact trivial
def P_Feelings_isWrongIn (E : am_E) (k : Nat) : am_P := [(0, aLa 0), (1, aLi 1), (2, aLi 2), (3, aLa 0), (4, aGet 2 1), (7, aLi 1), (8, aAld 0), (9, aLa 0), (10, aGet 2 2), (13, aLi 1), (14, aAld 0), (15, aIs E k 3 Y_TC_isTogether), (18, aIv E k 2 2 Y_Feelings_isWrong), (21, aRi)]
set_option maxRecDepth 20000 in
theorem pv_Feelings_isWrongIn (E : am_E) (k : Nat) : am_pv E k Y_Feelings_isWrongIn.2.1 Y_Feelings_isWrongIn.2.2.1 Y_Feelings_isWrongIn.1.cls (P_Feelings_isWrongIn E k) := by
  refine am_pv_cons (v_aload_n (q := 0) (by decide +kernel) rfl) rfl ?_
  refine am_pv_cons (v_iload_n (q := 1) (by decide +kernel) rfl) rfl ?_
  refine am_pv_cons (v_iload_n (q := 2) (by decide +kernel) rfl) rfl ?_
  refine am_pv_cons (v_aload_n (q := 0) (by decide +kernel) rfl) rfl ?_
  refine am_pv_cons (v_get fl_Feelings_9 (by decide +kernel)) rfl ?_
  refine am_pv_cons (v_iload_n (q := 1) (by decide +kernel) rfl) rfl ?_
  refine am_pv_cons (v_iald (by decide +kernel)) rfl ?_
  refine am_pv_cons (v_aload_n (q := 0) (by decide +kernel) rfl) rfl ?_
  refine am_pv_cons (v_get fl_Feelings_15 (by decide +kernel)) rfl ?_
  refine am_pv_cons (v_iload_n (q := 1) (by decide +kernel) rfl) rfl ?_
  refine am_pv_cons (v_iald (by decide +kernel)) rfl ?_
  refine am_pv_cons (v_statN (idx := 55) (host := "TwoCamps") ys_TC_isTogether (List.mem_of_getElem? (i := 6) (by decide +kernel)) (by decide +kernel)) rfl ?_
  refine am_pv_cons (v_virt (idx := 59) yv_Feelings_isWrong rfl rfl (tb4 152 (by decide +kernel) rfl) (by decide +kernel)) rfl ?_
  refine am_pv_cons (v_ireturn (by decide +kernel)) trivial ?_
  exact trivial
def P_Feelings_badThreesWith (E : am_E) (k : Nat) : am_P := [(0, aI 0), (1, aSi 2), (2, aI 0), (3, aSi 3), (4, aLi 3), (5, aI 9), (7, aCn (fun x y => x < y) 82), (10, aLa 0), (11, aLa 0), (12, aGet 2 1), (15, aLi 1), (16, aAld 0), (17, aLi 3), (18, aIv E k 2 2 Y_Feelings_find), (21, aSi 4), (23, aLa 0), (24, aLa 0), (25, aGet 2 2), (28, aLi 1), (29, aAld 0), (30, aLi 3), (31, aIv E k 2 2 Y_Feelings_find), (34, aSi 5), (36, aLi 4), (38, aI (-1)), (39, aCf (fun x y => x = y) 76), (42, aLi 5), (44, aI (-1)), (45, aCf (fun x y => x = y) 76), (48, aLa 0), (49, aGet 2 3), (52, aLi 1), (53, aAld 0), (54, aLa 0), (55, aGet 2 3), (58, aLi 4), (60, aAld 0), (61, aB (fun x y => x * y)), (62, aLa 0), (63, aGet 2 3), (66, aLi 5), (68, aAld 0), (69, aB (fun x y => x * y)), (70, aIn (fun x => x < 0) 76), (73, aInc 2 1), (76, aInc 3 1), (79, aGo 4), (82, aLi 2), (83, aRi)]
set_option maxRecDepth 20000 in
theorem pv_Feelings_badThreesWith (E : am_E) (k : Nat) : am_pv E k Y_Feelings_badThreesWith.2.1 Y_Feelings_badThreesWith.2.2.1 Y_Feelings_badThreesWith.1.cls (P_Feelings_badThreesWith E k) := by
  refine am_pv_cons (v_iconst (n := 0) (by decide +kernel) rfl) rfl ?_
  refine am_pv_cons (v_istore_n (q := 2) (by decide +kernel) rfl) rfl ?_
  refine am_pv_cons (v_iconst (n := 0) (by decide +kernel) rfl) rfl ?_
  refine am_pv_cons (v_istore_n (q := 3) (by decide +kernel) rfl) rfl ?_
  refine am_pv_cons (v_iload_n (q := 3) (by decide +kernel) rfl) rfl ?_
  refine am_pv_cons (v_bipush (n := 9) (by decide +kernel) (by decide +kernel)) rfl ?_
  refine am_pv_cons (v_ic_ge (off := 75) (by decide +kernel) rfl) rfl ?_
  refine am_pv_cons (v_aload_n (q := 0) (by decide +kernel) rfl) rfl ?_
  refine am_pv_cons (v_aload_n (q := 0) (by decide +kernel) rfl) rfl ?_
  refine am_pv_cons (v_get fl_Feelings_9 (by decide +kernel)) rfl ?_
  refine am_pv_cons (v_iload_n (q := 1) (by decide +kernel) rfl) rfl ?_
  refine am_pv_cons (v_iald (by decide +kernel)) rfl ?_
  refine am_pv_cons (v_iload_n (q := 3) (by decide +kernel) rfl) rfl ?_
  refine am_pv_cons (v_virt (idx := 43) yv_Feelings_find rfl rfl (tb2 213 (by decide +kernel) rfl) (by decide +kernel)) rfl ?_
  refine am_pv_cons (v_istore (by decide +kernel)) rfl ?_
  refine am_pv_cons (v_aload_n (q := 0) (by decide +kernel) rfl) rfl ?_
  refine am_pv_cons (v_aload_n (q := 0) (by decide +kernel) rfl) rfl ?_
  refine am_pv_cons (v_get fl_Feelings_15 (by decide +kernel)) rfl ?_
  refine am_pv_cons (v_iload_n (q := 1) (by decide +kernel) rfl) rfl ?_
  refine am_pv_cons (v_iald (by decide +kernel)) rfl ?_
  refine am_pv_cons (v_iload_n (q := 3) (by decide +kernel) rfl) rfl ?_
  refine am_pv_cons (v_virt (idx := 43) yv_Feelings_find rfl rfl (tb2 213 (by decide +kernel) rfl) (by decide +kernel)) rfl ?_
  refine am_pv_cons (v_istore (by decide +kernel)) rfl ?_
  refine am_pv_cons (v_iload (by decide +kernel)) rfl ?_
  refine am_pv_cons (v_iconst (n := -1) (by decide +kernel) rfl) rfl ?_
  refine am_pv_cons (v_ic_eq (off := 37) (by decide +kernel) rfl) rfl ?_
  refine am_pv_cons (v_iload (by decide +kernel)) rfl ?_
  refine am_pv_cons (v_iconst (n := -1) (by decide +kernel) rfl) rfl ?_
  refine am_pv_cons (v_ic_eq (off := 31) (by decide +kernel) rfl) rfl ?_
  refine am_pv_cons (v_aload_n (q := 0) (by decide +kernel) rfl) rfl ?_
  refine am_pv_cons (v_get fl_Feelings_18 (by decide +kernel)) rfl ?_
  refine am_pv_cons (v_iload_n (q := 1) (by decide +kernel) rfl) rfl ?_
  refine am_pv_cons (v_iald (by decide +kernel)) rfl ?_
  refine am_pv_cons (v_aload_n (q := 0) (by decide +kernel) rfl) rfl ?_
  refine am_pv_cons (v_get fl_Feelings_18 (by decide +kernel)) rfl ?_
  refine am_pv_cons (v_iload (by decide +kernel)) rfl ?_
  refine am_pv_cons (v_iald (by decide +kernel)) rfl ?_
  refine am_pv_cons (v_imul (by decide +kernel)) rfl ?_
  refine am_pv_cons (v_aload_n (q := 0) (by decide +kernel) rfl) rfl ?_
  refine am_pv_cons (v_get fl_Feelings_18 (by decide +kernel)) rfl ?_
  refine am_pv_cons (v_iload (by decide +kernel)) rfl ?_
  refine am_pv_cons (v_iald (by decide +kernel)) rfl ?_
  refine am_pv_cons (v_imul (by decide +kernel)) rfl ?_
  refine am_pv_cons (v_if_ge (off := 6) (by decide +kernel) rfl) rfl ?_
  refine am_pv_cons (v_iinc (n := 1) (by decide +kernel) (by decide +kernel)) rfl ?_
  refine am_pv_cons (v_iinc (n := 1) (by decide +kernel) (by decide +kernel)) rfl ?_
  refine am_pv_cons (v_goto (off := -75) (by decide +kernel) rfl) rfl ?_
  refine am_pv_cons (v_iload_n (q := 2) (by decide +kernel) rfl) rfl ?_
  refine am_pv_cons (v_ireturn (by decide +kernel)) trivial ?_
  exact trivial
def P_Feelings_hatreds (E : am_E) (k : Nat) : am_P := [(0, aI 0), (1, aSi 1), (2, aI 0), (3, aSi 2), (4, aLi 2), (5, aLa 0), (6, aGet 2 0), (9, aCn (fun x y => x < y) 30), (12, aLa 0), (13, aGet 2 3), (16, aLi 2), (17, aAld 0), (18, aIn (fun x => x < 0) 24), (21, aInc 1 1), (24, aInc 2 1), (27, aGo 4), (30, aLi 1), (31, aRi)]
set_option maxRecDepth 20000 in
theorem pv_Feelings_hatreds (E : am_E) (k : Nat) : am_pv E k Y_Feelings_hatreds.2.1 Y_Feelings_hatreds.2.2.1 Y_Feelings_hatreds.1.cls (P_Feelings_hatreds E k) := by
  refine am_pv_cons (v_iconst (n := 0) (by decide +kernel) rfl) rfl ?_
  refine am_pv_cons (v_istore_n (q := 1) (by decide +kernel) rfl) rfl ?_
  refine am_pv_cons (v_iconst (n := 0) (by decide +kernel) rfl) rfl ?_
  refine am_pv_cons (v_istore_n (q := 2) (by decide +kernel) rfl) rfl ?_
  refine am_pv_cons (v_iload_n (q := 2) (by decide +kernel) rfl) rfl ?_
  refine am_pv_cons (v_aload_n (q := 0) (by decide +kernel) rfl) rfl ?_
  refine am_pv_cons (v_get fl_Feelings_39 (by decide +kernel)) rfl ?_
  refine am_pv_cons (v_ic_ge (off := 21) (by decide +kernel) rfl) rfl ?_
  refine am_pv_cons (v_aload_n (q := 0) (by decide +kernel) rfl) rfl ?_
  refine am_pv_cons (v_get fl_Feelings_18 (by decide +kernel)) rfl ?_
  refine am_pv_cons (v_iload_n (q := 2) (by decide +kernel) rfl) rfl ?_
  refine am_pv_cons (v_iald (by decide +kernel)) rfl ?_
  refine am_pv_cons (v_if_ge (off := 6) (by decide +kernel) rfl) rfl ?_
  refine am_pv_cons (v_iinc (n := 1) (by decide +kernel) (by decide +kernel)) rfl ?_
  refine am_pv_cons (v_iinc (n := 1) (by decide +kernel) (by decide +kernel)) rfl ?_
  refine am_pv_cons (v_goto (off := -23) (by decide +kernel) rfl) rfl ?_
  refine am_pv_cons (v_iload_n (q := 1) (by decide +kernel) rfl) rfl ?_
  refine am_pv_cons (v_ireturn (by decide +kernel)) trivial ?_
  exact trivial
def P_Feelings_keepSigns (E : am_E) (k : Nat) : am_P := [(0, aLa 0), (1, aGet 2 3), (4, aI 0), (5, aLa 0), (6, aGet 2 7), (9, aI 0), (10, aLa 0), (11, aGet 2 0), (14, aCpy k), (17, aRv)]
set_option maxRecDepth 20000 in
theorem pv_Feelings_keepSigns (E : am_E) (k : Nat) : am_pv E k Y_Feelings_keepSigns.2.1 Y_Feelings_keepSigns.2.2.1 Y_Feelings_keepSigns.1.cls (P_Feelings_keepSigns E k) := by
  refine am_pv_cons (v_aload_n (q := 0) (by decide +kernel) rfl) rfl ?_
  refine am_pv_cons (v_get fl_Feelings_18 (by decide +kernel)) rfl ?_
  refine am_pv_cons (v_iconst (n := 0) (by decide +kernel) rfl) rfl ?_
  refine am_pv_cons (v_aload_n (q := 0) (by decide +kernel) rfl) rfl ?_
  refine am_pv_cons (v_get fl_Feelings_30 (by decide +kernel)) rfl ?_
  refine am_pv_cons (v_iconst (n := 0) (by decide +kernel) rfl) rfl ?_
  refine am_pv_cons (v_aload_n (q := 0) (by decide +kernel) rfl) rfl ?_
  refine am_pv_cons (v_get fl_Feelings_39 (by decide +kernel)) rfl ?_
  refine am_pv_cons (v_cpy (idx := 63) (tb5 46 (by decide +kernel) rfl) cp_n cp_s cp_i (by decide +kernel)) rfl ?_
  refine am_pv_cons (v_return_ (by decide +kernel)) trivial ?_
  exact trivial
def P_Feelings_restoreSigns (E : am_E) (k : Nat) : am_P := [(0, aLa 0), (1, aGet 2 7), (4, aI 0), (5, aLa 0), (6, aGet 2 3), (9, aI 0), (10, aLa 0), (11, aGet 2 0), (14, aCpy k), (17, aRv)]
set_option maxRecDepth 20000 in
theorem pv_Feelings_restoreSigns (E : am_E) (k : Nat) : am_pv E k Y_Feelings_restoreSigns.2.1 Y_Feelings_restoreSigns.2.2.1 Y_Feelings_restoreSigns.1.cls (P_Feelings_restoreSigns E k) := by
  refine am_pv_cons (v_aload_n (q := 0) (by decide +kernel) rfl) rfl ?_
  refine am_pv_cons (v_get fl_Feelings_30 (by decide +kernel)) rfl ?_
  refine am_pv_cons (v_iconst (n := 0) (by decide +kernel) rfl) rfl ?_
  refine am_pv_cons (v_aload_n (q := 0) (by decide +kernel) rfl) rfl ?_
  refine am_pv_cons (v_get fl_Feelings_18 (by decide +kernel)) rfl ?_
  refine am_pv_cons (v_iconst (n := 0) (by decide +kernel) rfl) rfl ?_
  refine am_pv_cons (v_aload_n (q := 0) (by decide +kernel) rfl) rfl ?_
  refine am_pv_cons (v_get fl_Feelings_39 (by decide +kernel)) rfl ?_
  refine am_pv_cons (v_cpy (idx := 63) (tb5 46 (by decide +kernel) rfl) cp_n cp_s cp_i (by decide +kernel)) rfl ?_
  refine am_pv_cons (v_return_ (by decide +kernel)) trivial ?_
  exact trivial
def P_Feelings_become (E : am_E) (k : Nat) : am_P := [(0, aLa 0), (1, aLa 1), (2, aGet 2 0), (5, aPut 2 0), (8, aLa 1), (9, aGet 2 1), (12, aI 0), (13, aLa 0), (14, aGet 2 1), (17, aI 0), (18, aI 36), (20, aCpy k), (23, aLa 1), (24, aGet 2 2), (27, aI 0), (28, aLa 0), (29, aGet 2 2), (32, aI 0), (33, aI 36), (35, aCpy k), (38, aLa 1), (39, aGet 2 3), (42, aI 0), (43, aLa 0), (44, aGet 2 3), (47, aI 0), (48, aI 36), (50, aCpy k), (53, aLa 1), (54, aGet 2 4), (57, aI 0), (58, aLa 0), (59, aGet 2 4), (62, aI 0), (63, aI 36), (65, aCpy k), (68, aLa 1), (69, aGet 2 5), (72, aI 0), (73, aLa 0), (74, aGet 2 5), (77, aI 0), (78, aI 36), (80, aCpy k), (83, aLa 1), (84, aGet 2 6), (87, aI 0), (88, aLa 0), (89, aGet 2 6), (92, aI 0), (93, aI 81), (95, aCpy k), (98, aRv)]
set_option maxRecDepth 20000 in
theorem pv_Feelings_become (E : am_E) (k : Nat) : am_pv E k Y_Feelings_become.2.1 Y_Feelings_become.2.2.1 Y_Feelings_become.1.cls (P_Feelings_become E k) := by
  refine am_pv_cons (v_aload_n (q := 0) (by decide +kernel) rfl) rfl ?_
  refine am_pv_cons (v_aload_n (q := 1) (by decide +kernel) rfl) rfl ?_
  refine am_pv_cons (v_get fl_Feelings_39 (by decide +kernel)) rfl ?_
  refine am_pv_cons (v_put fw_Feelings_39 (by decide +kernel)) rfl ?_
  refine am_pv_cons (v_aload_n (q := 1) (by decide +kernel) rfl) rfl ?_
  refine am_pv_cons (v_get fl_Feelings_9 (by decide +kernel)) rfl ?_
  refine am_pv_cons (v_iconst (n := 0) (by decide +kernel) rfl) rfl ?_
  refine am_pv_cons (v_aload_n (q := 0) (by decide +kernel) rfl) rfl ?_
  refine am_pv_cons (v_get fl_Feelings_9 (by decide +kernel)) rfl ?_
  refine am_pv_cons (v_iconst (n := 0) (by decide +kernel) rfl) rfl ?_
  refine am_pv_cons (v_bipush (n := 36) (by decide +kernel) (by decide +kernel)) rfl ?_
  refine am_pv_cons (v_cpy (idx := 63) (tb5 46 (by decide +kernel) rfl) cp_n cp_s cp_i (by decide +kernel)) rfl ?_
  refine am_pv_cons (v_aload_n (q := 1) (by decide +kernel) rfl) rfl ?_
  refine am_pv_cons (v_get fl_Feelings_15 (by decide +kernel)) rfl ?_
  refine am_pv_cons (v_iconst (n := 0) (by decide +kernel) rfl) rfl ?_
  refine am_pv_cons (v_aload_n (q := 0) (by decide +kernel) rfl) rfl ?_
  refine am_pv_cons (v_get fl_Feelings_15 (by decide +kernel)) rfl ?_
  refine am_pv_cons (v_iconst (n := 0) (by decide +kernel) rfl) rfl ?_
  refine am_pv_cons (v_bipush (n := 36) (by decide +kernel) (by decide +kernel)) rfl ?_
  refine am_pv_cons (v_cpy (idx := 63) (tb5 46 (by decide +kernel) rfl) cp_n cp_s cp_i (by decide +kernel)) rfl ?_
  refine am_pv_cons (v_aload_n (q := 1) (by decide +kernel) rfl) rfl ?_
  refine am_pv_cons (v_get fl_Feelings_18 (by decide +kernel)) rfl ?_
  refine am_pv_cons (v_iconst (n := 0) (by decide +kernel) rfl) rfl ?_
  refine am_pv_cons (v_aload_n (q := 0) (by decide +kernel) rfl) rfl ?_
  refine am_pv_cons (v_get fl_Feelings_18 (by decide +kernel)) rfl ?_
  refine am_pv_cons (v_iconst (n := 0) (by decide +kernel) rfl) rfl ?_
  refine am_pv_cons (v_bipush (n := 36) (by decide +kernel) (by decide +kernel)) rfl ?_
  refine am_pv_cons (v_cpy (idx := 63) (tb5 46 (by decide +kernel) rfl) cp_n cp_s cp_i (by decide +kernel)) rfl ?_
  refine am_pv_cons (v_aload_n (q := 1) (by decide +kernel) rfl) rfl ?_
  refine am_pv_cons (v_get fl_Feelings_21 (by decide +kernel)) rfl ?_
  refine am_pv_cons (v_iconst (n := 0) (by decide +kernel) rfl) rfl ?_
  refine am_pv_cons (v_aload_n (q := 0) (by decide +kernel) rfl) rfl ?_
  refine am_pv_cons (v_get fl_Feelings_21 (by decide +kernel)) rfl ?_
  refine am_pv_cons (v_iconst (n := 0) (by decide +kernel) rfl) rfl ?_
  refine am_pv_cons (v_bipush (n := 36) (by decide +kernel) (by decide +kernel)) rfl ?_
  refine am_pv_cons (v_cpy (idx := 63) (tb5 46 (by decide +kernel) rfl) cp_n cp_s cp_i (by decide +kernel)) rfl ?_
  refine am_pv_cons (v_aload_n (q := 1) (by decide +kernel) rfl) rfl ?_
  refine am_pv_cons (v_get fl_Feelings_24 (by decide +kernel)) rfl ?_
  refine am_pv_cons (v_iconst (n := 0) (by decide +kernel) rfl) rfl ?_
  refine am_pv_cons (v_aload_n (q := 0) (by decide +kernel) rfl) rfl ?_
  refine am_pv_cons (v_get fl_Feelings_24 (by decide +kernel)) rfl ?_
  refine am_pv_cons (v_iconst (n := 0) (by decide +kernel) rfl) rfl ?_
  refine am_pv_cons (v_bipush (n := 36) (by decide +kernel) (by decide +kernel)) rfl ?_
  refine am_pv_cons (v_cpy (idx := 63) (tb5 46 (by decide +kernel) rfl) cp_n cp_s cp_i (by decide +kernel)) rfl ?_
  refine am_pv_cons (v_aload_n (q := 1) (by decide +kernel) rfl) rfl ?_
  refine am_pv_cons (v_get fl_Feelings_27 (by decide +kernel)) rfl ?_
  refine am_pv_cons (v_iconst (n := 0) (by decide +kernel) rfl) rfl ?_
  refine am_pv_cons (v_aload_n (q := 0) (by decide +kernel) rfl) rfl ?_
  refine am_pv_cons (v_get fl_Feelings_27 (by decide +kernel)) rfl ?_
  refine am_pv_cons (v_iconst (n := 0) (by decide +kernel) rfl) rfl ?_
  refine am_pv_cons (v_bipush (n := 81) (by decide +kernel) (by decide +kernel)) rfl ?_
  refine am_pv_cons (v_cpy (idx := 63) (tb5 46 (by decide +kernel) rfl) cp_n cp_s cp_i (by decide +kernel)) rfl ?_
  refine am_pv_cons (v_return_ (by decide +kernel)) trivial ?_
  exact trivial
def P_Tape_add (E : am_E) (k : Nat) : am_P := [(0, aLa 0), (1, aGet 3 1), (4, aLa 0), (5, aGet 3 0), (8, aLi 1), (9, aAst), (10, aLa 0), (11, aDup), (12, aGet 3 0), (15, aI 1), (16, aB (fun x y => x + y)), (17, aPut 3 0), (20, aRv)]
set_option maxRecDepth 20000 in
theorem pv_Tape_add (E : am_E) (k : Nat) : am_pv E k Y_Tape_add.2.1 Y_Tape_add.2.2.1 Y_Tape_add.1.cls (P_Tape_add E k) := by
  refine am_pv_cons (v_aload_n (q := 0) (by decide +kernel) rfl) rfl ?_
  refine am_pv_cons (v_get fl_Tape_9 (by decide +kernel)) rfl ?_
  refine am_pv_cons (v_aload_n (q := 0) (by decide +kernel) rfl) rfl ?_
  refine am_pv_cons (v_get fl_Tape_15 (by decide +kernel)) rfl ?_
  refine am_pv_cons (v_iload_n (q := 1) (by decide +kernel) rfl) rfl ?_
  refine am_pv_cons (v_iast (by decide +kernel)) rfl ?_
  refine am_pv_cons (v_aload_n (q := 0) (by decide +kernel) rfl) rfl ?_
  refine am_pv_cons (v_dup (by decide +kernel)) rfl ?_
  refine am_pv_cons (v_get fl_Tape_15 (by decide +kernel)) rfl ?_
  refine am_pv_cons (v_iconst (n := 1) (by decide +kernel) rfl) rfl ?_
  refine am_pv_cons (v_iadd (by decide +kernel)) rfl ?_
  refine am_pv_cons (v_put fw_Tape_15 (by decide +kernel)) rfl ?_
  refine am_pv_cons (v_return_ (by decide +kernel)) trivial ?_
  exact trivial
def P_Tape_at (E : am_E) (k : Nat) : am_P := [(0, aLi 1), (1, aIf (fun x => x < 0) 21), (4, aLi 1), (5, aLa 0), (6, aGet 3 0), (9, aCn (fun x y => x < y) 21), (12, aLa 0), (13, aGet 3 1), (16, aLi 1), (17, aAld 0), (18, aGo 22), (21, aI (-1)), (22, aRi)]
set_option maxRecDepth 20000 in
theorem pv_Tape_at (E : am_E) (k : Nat) : am_pv E k Y_Tape_at.2.1 Y_Tape_at.2.2.1 Y_Tape_at.1.cls (P_Tape_at E k) := by
  refine am_pv_cons (v_iload_n (q := 1) (by decide +kernel) rfl) rfl ?_
  refine am_pv_cons (v_if_lt (off := 20) (by decide +kernel) rfl) rfl ?_
  refine am_pv_cons (v_iload_n (q := 1) (by decide +kernel) rfl) rfl ?_
  refine am_pv_cons (v_aload_n (q := 0) (by decide +kernel) rfl) rfl ?_
  refine am_pv_cons (v_get fl_Tape_15 (by decide +kernel)) rfl ?_
  refine am_pv_cons (v_ic_ge (off := 12) (by decide +kernel) rfl) rfl ?_
  refine am_pv_cons (v_aload_n (q := 0) (by decide +kernel) rfl) rfl ?_
  refine am_pv_cons (v_get fl_Tape_9 (by decide +kernel)) rfl ?_
  refine am_pv_cons (v_iload_n (q := 1) (by decide +kernel) rfl) rfl ?_
  refine am_pv_cons (v_iald (by decide +kernel)) rfl ?_
  refine am_pv_cons (v_goto (off := 4) (by decide +kernel) rfl) rfl ?_
  refine am_pv_cons (v_iconst (n := -1) (by decide +kernel) rfl) rfl ?_
  refine am_pv_cons (v_ireturn (by decide +kernel)) trivial ?_
  exact trivial
def P_Tape_digitAt (E : am_E) (k : Nat) : am_P := [(0, aLa 0), (1, aLi 1), (2, aIv E k 3 1 Y_Tape_at), (5, aSi 2), (6, aLi 2), (7, aI 48), (9, aCf (fun x y => x < y) 25), (12, aLi 2), (13, aI 57), (15, aCf (fun x y => y < x) 25), (18, aLi 2), (19, aI 48), (21, aB (fun x y => x - y)), (22, aGo 26), (25, aI (-1)), (26, aRi)]
set_option maxRecDepth 20000 in
theorem pv_Tape_digitAt (E : am_E) (k : Nat) : am_pv E k Y_Tape_digitAt.2.1 Y_Tape_digitAt.2.2.1 Y_Tape_digitAt.1.cls (P_Tape_digitAt E k) := by
  refine am_pv_cons (v_aload_n (q := 0) (by decide +kernel) rfl) rfl ?_
  refine am_pv_cons (v_iload_n (q := 1) (by decide +kernel) rfl) rfl ?_
  refine am_pv_cons (v_virt (idx := 19) yv_Tape_at rfl rfl (tb3 81 (by decide +kernel) rfl) (by decide +kernel)) rfl ?_
  refine am_pv_cons (v_istore_n (q := 2) (by decide +kernel) rfl) rfl ?_
  refine am_pv_cons (v_iload_n (q := 2) (by decide +kernel) rfl) rfl ?_
  refine am_pv_cons (v_bipush (n := 48) (by decide +kernel) (by decide +kernel)) rfl ?_
  refine am_pv_cons (v_ic_lt (off := 16) (by decide +kernel) rfl) rfl ?_
  refine am_pv_cons (v_iload_n (q := 2) (by decide +kernel) rfl) rfl ?_
  refine am_pv_cons (v_bipush (n := 57) (by decide +kernel) (by decide +kernel)) rfl ?_
  refine am_pv_cons (v_ic_gt (off := 10) (by decide +kernel) rfl) rfl ?_
  refine am_pv_cons (v_iload_n (q := 2) (by decide +kernel) rfl) rfl ?_
  refine am_pv_cons (v_bipush (n := 48) (by decide +kernel) (by decide +kernel)) rfl ?_
  refine am_pv_cons (v_isub (by decide +kernel)) rfl ?_
  refine am_pv_cons (v_goto (off := 4) (by decide +kernel) rfl) rfl ?_
  refine am_pv_cons (v_iconst (n := -1) (by decide +kernel) rfl) rfl ?_
  refine am_pv_cons (v_ireturn (by decide +kernel)) trivial ?_
  exact trivial
def P_Tape_isDigit (E : am_E) (k : Nat) : am_P := [(0, aLa 0), (1, aLi 1), (2, aIv E k 3 1 Y_Tape_digitAt), (5, aI (-1)), (6, aCf (fun x y => x = y) 13), (9, aI 1), (10, aGo 14), (13, aI 0), (14, aRi)]
set_option maxRecDepth 20000 in
theorem pv_Tape_isDigit (E : am_E) (k : Nat) : am_pv E k Y_Tape_isDigit.2.1 Y_Tape_isDigit.2.2.1 Y_Tape_isDigit.1.cls (P_Tape_isDigit E k) := by
  refine am_pv_cons (v_aload_n (q := 0) (by decide +kernel) rfl) rfl ?_
  refine am_pv_cons (v_iload_n (q := 1) (by decide +kernel) rfl) rfl ?_
  refine am_pv_cons (v_virt (idx := 23) yv_Tape_digitAt rfl rfl (tb3 124 (by decide +kernel) rfl) (by decide +kernel)) rfl ?_
  refine am_pv_cons (v_iconst (n := -1) (by decide +kernel) rfl) rfl ?_
  refine am_pv_cons (v_ic_eq (off := 7) (by decide +kernel) rfl) rfl ?_
  refine am_pv_cons (v_iconst (n := 1) (by decide +kernel) rfl) rfl ?_
  refine am_pv_cons (v_goto (off := 4) (by decide +kernel) rfl) rfl ?_
  refine am_pv_cons (v_iconst (n := 0) (by decide +kernel) rfl) rfl ?_
  refine am_pv_cons (v_ireturn (by decide +kernel)) trivial ?_
  exact trivial
def P_Tape_isLetter (E : am_E) (k : Nat) : am_P := [(0, aLa 0), (1, aLi 1), (2, aIv E k 3 1 Y_Tape_at), (5, aSi 2), (6, aLi 2), (7, aI 97), (9, aCf (fun x y => x < y) 22), (12, aLi 2), (13, aI 122), (15, aCf (fun x y => y < x) 22), (18, aI 1), (19, aGo 23), (22, aI 0), (23, aRi)]
set_option maxRecDepth 20000 in
theorem pv_Tape_isLetter (E : am_E) (k : Nat) : am_pv E k Y_Tape_isLetter.2.1 Y_Tape_isLetter.2.2.1 Y_Tape_isLetter.1.cls (P_Tape_isLetter E k) := by
  refine am_pv_cons (v_aload_n (q := 0) (by decide +kernel) rfl) rfl ?_
  refine am_pv_cons (v_iload_n (q := 1) (by decide +kernel) rfl) rfl ?_
  refine am_pv_cons (v_virt (idx := 19) yv_Tape_at rfl rfl (tb3 81 (by decide +kernel) rfl) (by decide +kernel)) rfl ?_
  refine am_pv_cons (v_istore_n (q := 2) (by decide +kernel) rfl) rfl ?_
  refine am_pv_cons (v_iload_n (q := 2) (by decide +kernel) rfl) rfl ?_
  refine am_pv_cons (v_bipush (n := 97) (by decide +kernel) (by decide +kernel)) rfl ?_
  refine am_pv_cons (v_ic_lt (off := 13) (by decide +kernel) rfl) rfl ?_
  refine am_pv_cons (v_iload_n (q := 2) (by decide +kernel) rfl) rfl ?_
  refine am_pv_cons (v_bipush (n := 122) (by decide +kernel) (by decide +kernel)) rfl ?_
  refine am_pv_cons (v_ic_gt (off := 7) (by decide +kernel) rfl) rfl ?_
  refine am_pv_cons (v_iconst (n := 1) (by decide +kernel) rfl) rfl ?_
  refine am_pv_cons (v_goto (off := 4) (by decide +kernel) rfl) rfl ?_
  refine am_pv_cons (v_iconst (n := 0) (by decide +kernel) rfl) rfl ?_
  refine am_pv_cons (v_ireturn (by decide +kernel)) trivial ?_
  exact trivial
def P_Law_add (E : am_E) (k : Nat) : am_P := [(0, aLa 0), (1, aGet 4 1), (4, aLa 0), (5, aGet 4 2), (8, aAa 3), (9, aLa 1), (10, aIv E k 5 1 Y_Text_become), (13, aLa 0), (14, aDup), (15, aGet 4 2), (18, aI 1), (19, aB (fun x y => x + y)), (20, aPut 4 2), (23, aLa 0), (24, aGet 4 2), (27, aI 1), (28, aB (fun x y => x - y)), (29, aRi)]
set_option maxRecDepth 20000 in
theorem pv_Law_add (E : am_E) (k : Nat) : am_pv E k Y_Law_add.2.1 Y_Law_add.2.2.1 Y_Law_add.1.cls (P_Law_add E k) := by
  refine am_pv_cons (v_aload_n (q := 0) (by decide +kernel) rfl) rfl ?_
  refine am_pv_cons (v_get fl_Law_11 (by decide +kernel)) rfl ?_
  refine am_pv_cons (v_aload_n (q := 0) (by decide +kernel) rfl) rfl ?_
  refine am_pv_cons (v_get fl_Law_17 (by decide +kernel)) rfl ?_
  refine am_pv_cons (v_aa (by decide) (by decide) (by decide +kernel)) rfl ?_
  refine am_pv_cons (v_aload_n (q := 1) (by decide +kernel) rfl) rfl ?_
  refine am_pv_cons (v_virt (idx := 44) yv_Text_become rfl rfl (tb3 239 (by decide +kernel) rfl) (by decide +kernel)) rfl ?_
  refine am_pv_cons (v_aload_n (q := 0) (by decide +kernel) rfl) rfl ?_
  refine am_pv_cons (v_dup (by decide +kernel)) rfl ?_
  refine am_pv_cons (v_get fl_Law_17 (by decide +kernel)) rfl ?_
  refine am_pv_cons (v_iconst (n := 1) (by decide +kernel) rfl) rfl ?_
  refine am_pv_cons (v_iadd (by decide +kernel)) rfl ?_
  refine am_pv_cons (v_put fw_Law_17 (by decide +kernel)) rfl ?_
  refine am_pv_cons (v_aload_n (q := 0) (by decide +kernel) rfl) rfl ?_
  refine am_pv_cons (v_get fl_Law_17 (by decide +kernel)) rfl ?_
  refine am_pv_cons (v_iconst (n := 1) (by decide +kernel) rfl) rfl ?_
  refine am_pv_cons (v_isub (by decide +kernel)) rfl ?_
  refine am_pv_cons (v_ireturn (by decide +kernel)) trivial ?_
  exact trivial
def P_Law_weigh (E : am_E) (k : Nat) : am_P := [(0, aI 0), (1, aSi 1), (2, aLi 1), (3, aLa 0), (4, aGet 4 0), (7, aGet 2 0), (10, aCn (fun x y => x < y) 41), (13, aLa 0), (14, aGet 4 4), (17, aLi 1), (18, aLa 0), (19, aLi 1), (20, aIv E k 4 1 Y_Law_costOf), (23, aAst), (24, aLa 0), (25, aGet 4 5), (28, aLi 1), (29, aLa 0), (30, aLi 1), (31, aIv E k 4 1 Y_Law_canBeWrong), (34, aAstz), (35, aInc 1 1), (38, aGo 2), (41, aRv)]
set_option maxRecDepth 20000 in
theorem pv_Law_weigh (E : am_E) (k : Nat) : am_pv E k Y_Law_weigh.2.1 Y_Law_weigh.2.2.1 Y_Law_weigh.1.cls (P_Law_weigh E k) := by
  refine am_pv_cons (v_iconst (n := 0) (by decide +kernel) rfl) rfl ?_
  refine am_pv_cons (v_istore_n (q := 1) (by decide +kernel) rfl) rfl ?_
  refine am_pv_cons (v_iload_n (q := 1) (by decide +kernel) rfl) rfl ?_
  refine am_pv_cons (v_aload_n (q := 0) (by decide +kernel) rfl) rfl ?_
  refine am_pv_cons (v_get fl_Law_32 (by decide +kernel)) rfl ?_
  refine am_pv_cons (v_get fl_Law_48 (by decide +kernel)) rfl ?_
  refine am_pv_cons (v_ic_ge (off := 31) (by decide +kernel) rfl) rfl ?_
  refine am_pv_cons (v_aload_n (q := 0) (by decide +kernel) rfl) rfl ?_
  refine am_pv_cons (v_get fl_Law_21 (by decide +kernel)) rfl ?_
  refine am_pv_cons (v_iload_n (q := 1) (by decide +kernel) rfl) rfl ?_
  refine am_pv_cons (v_aload_n (q := 0) (by decide +kernel) rfl) rfl ?_
  refine am_pv_cons (v_iload_n (q := 1) (by decide +kernel) rfl) rfl ?_
  refine am_pv_cons (v_virt (idx := 53) yv_Law_costOf rfl rfl (tb4 87 (by decide +kernel) rfl) (by decide +kernel)) rfl ?_
  refine am_pv_cons (v_iast (by decide +kernel)) rfl ?_
  refine am_pv_cons (v_aload_n (q := 0) (by decide +kernel) rfl) rfl ?_
  refine am_pv_cons (v_get fl_Law_25 (by decide +kernel)) rfl ?_
  refine am_pv_cons (v_iload_n (q := 1) (by decide +kernel) rfl) rfl ?_
  refine am_pv_cons (v_aload_n (q := 0) (by decide +kernel) rfl) rfl ?_
  refine am_pv_cons (v_iload_n (q := 1) (by decide +kernel) rfl) rfl ?_
  refine am_pv_cons (v_virt (idx := 57) yv_Law_canBeWrong rfl rfl (tb4 88 (by decide +kernel) rfl) (by decide +kernel)) rfl ?_
  refine am_pv_cons (v_zast (by decide +kernel)) rfl ?_
  refine am_pv_cons (v_iinc (n := 1) (by decide +kernel) (by decide +kernel)) rfl ?_
  refine am_pv_cons (v_goto (off := -36) (by decide +kernel) rfl) rfl ?_
  refine am_pv_cons (v_return_ (by decide +kernel)) trivial ?_
  exact trivial
def P_Law_costOf (E : am_E) (k : Nat) : am_P := [(0, aLa 0), (1, aGet 4 1), (4, aLa 0), (5, aGet 4 3), (8, aAa 3), (9, aSa 2), (10, aLa 0), (11, aLa 2), (12, aGet 5 0), (15, aI 0), (16, aLa 2), (17, aGet 5 2), (20, aLi 1), (21, aIv E k 4 4 Y_Law_run), (24, aSi 3), (25, aI 0), (26, aI 9999), (29, aLi 3), (30, aMn k), (33, aMx k), (36, aRi)]
set_option maxRecDepth 20000 in
theorem pv_Law_costOf (E : am_E) (k : Nat) : am_pv E k Y_Law_costOf.2.1 Y_Law_costOf.2.2.1 Y_Law_costOf.1.cls (P_Law_costOf E k) := by
  refine am_pv_cons (v_aload_n (q := 0) (by decide +kernel) rfl) rfl ?_
  refine am_pv_cons (v_get fl_Law_11 (by decide +kernel)) rfl ?_
  refine am_pv_cons (v_aload_n (q := 0) (by decide +kernel) rfl) rfl ?_
  refine am_pv_cons (v_get fl_Law_61 (by decide +kernel)) rfl ?_
  refine am_pv_cons (v_aa (by decide) (by decide) (by decide +kernel)) rfl ?_
  refine am_pv_cons (v_astore_n (q := 2) (by decide +kernel) rfl) rfl ?_
  refine am_pv_cons (v_aload_n (q := 0) (by decide +kernel) rfl) rfl ?_
  refine am_pv_cons (v_aload_n (q := 2) (by decide +kernel) rfl) rfl ?_
  refine am_pv_cons (v_get fl_Law_64 (by decide +kernel)) rfl ?_
  refine am_pv_cons (v_iconst (n := 0) (by decide +kernel) rfl) rfl ?_
  refine am_pv_cons (v_aload_n (q := 2) (by decide +kernel) rfl) rfl ?_
  refine am_pv_cons (v_get fl_Law_67 (by decide +kernel)) rfl ?_
  refine am_pv_cons (v_iload_n (q := 1) (by decide +kernel) rfl) rfl ?_
  refine am_pv_cons (v_virt (idx := 70) yv_Law_run rfl rfl (tb2 235 (by decide +kernel) rfl) (by decide +kernel)) rfl ?_
  refine am_pv_cons (v_istore_n (q := 3) (by decide +kernel) rfl) rfl ?_
  refine am_pv_cons (v_iconst (n := 0) (by decide +kernel) rfl) rfl ?_
  refine am_pv_cons (v_sipush (n := 9999) (by decide +kernel) (by decide +kernel)) rfl ?_
  refine am_pv_cons (v_iload_n (q := 3) (by decide +kernel) rfl) rfl ?_
  refine am_pv_cons (v_min (idx := 74) (tb3 21 (by decide +kernel) rfl) min_s math_i min_c (by decide +kernel)) rfl ?_
  refine am_pv_cons (v_max (idx := 80) (tb3 22 (by decide +kernel) rfl) max_s math_i max_c (by decide +kernel)) rfl ?_
  refine am_pv_cons (v_ireturn (by decide +kernel)) trivial ?_
  exact trivial
def P_Law_canBeWrong (E : am_E) (k : Nat) : am_P := [(0, aLa 0), (1, aGet 4 1), (4, aLa 0), (5, aGet 4 3), (8, aAa 3), (9, aSa 2), (10, aLa 0), (11, aLa 2), (12, aGet 5 0), (15, aLa 2), (16, aGet 5 2), (19, aLa 2), (20, aGet 5 1), (23, aLi 1), (24, aIv E k 4 4 Y_Law_run), (27, aIf (fun x => x = 0) 34), (30, aI 1), (31, aGo 35), (34, aI 0), (35, aRi)]
set_option maxRecDepth 20000 in
theorem pv_Law_canBeWrong (E : am_E) (k : Nat) : am_pv E k Y_Law_canBeWrong.2.1 Y_Law_canBeWrong.2.2.1 Y_Law_canBeWrong.1.cls (P_Law_canBeWrong E k) := by
  refine am_pv_cons (v_aload_n (q := 0) (by decide +kernel) rfl) rfl ?_
  refine am_pv_cons (v_get fl_Law_11 (by decide +kernel)) rfl ?_
  refine am_pv_cons (v_aload_n (q := 0) (by decide +kernel) rfl) rfl ?_
  refine am_pv_cons (v_get fl_Law_61 (by decide +kernel)) rfl ?_
  refine am_pv_cons (v_aa (by decide) (by decide) (by decide +kernel)) rfl ?_
  refine am_pv_cons (v_astore_n (q := 2) (by decide +kernel) rfl) rfl ?_
  refine am_pv_cons (v_aload_n (q := 0) (by decide +kernel) rfl) rfl ?_
  refine am_pv_cons (v_aload_n (q := 2) (by decide +kernel) rfl) rfl ?_
  refine am_pv_cons (v_get fl_Law_64 (by decide +kernel)) rfl ?_
  refine am_pv_cons (v_aload_n (q := 2) (by decide +kernel) rfl) rfl ?_
  refine am_pv_cons (v_get fl_Law_67 (by decide +kernel)) rfl ?_
  refine am_pv_cons (v_aload_n (q := 2) (by decide +kernel) rfl) rfl ?_
  refine am_pv_cons (v_get fl_Law_83 (by decide +kernel)) rfl ?_
  refine am_pv_cons (v_iload_n (q := 1) (by decide +kernel) rfl) rfl ?_
  refine am_pv_cons (v_virt (idx := 70) yv_Law_run rfl rfl (tb2 235 (by decide +kernel) rfl) (by decide +kernel)) rfl ?_
  refine am_pv_cons (v_if_eq (off := 7) (by decide +kernel) rfl) rfl ?_
  refine am_pv_cons (v_iconst (n := 1) (by decide +kernel) rfl) rfl ?_
  refine am_pv_cons (v_goto (off := 4) (by decide +kernel) rfl) rfl ?_
  refine am_pv_cons (v_iconst (n := 0) (by decide +kernel) rfl) rfl ?_
  refine am_pv_cons (v_ireturn (by decide +kernel)) trivial ?_
  exact trivial
def P_Law_run (E : am_E) (k : Nat) : am_P := [(0, aLa 0), (1, aI 0), (2, aPut 4 7), (5, aLi 2), (6, aSi 5), (8, aLi 5), (10, aLi 3), (11, aCn (fun x y => x < y) 30), (14, aLa 0), (15, aLa 1), (16, aLi 5), (18, aAld 0), (19, aLi 4), (21, aIv E k 4 2 Y_Law_runOne), (24, aInc 5 1), (27, aGo 8), (30, aLa 0), (31, aIv E k 4 0 Y_Law_pop), (34, aRi)]
set_option maxRecDepth 20000 in
theorem pv_Law_run (E : am_E) (k : Nat) : am_pv E k Y_Law_run.2.1 Y_Law_run.2.2.1 Y_Law_run.1.cls (P_Law_run E k) := by
  refine am_pv_cons (v_aload_n (q := 0) (by decide +kernel) rfl) rfl ?_
  refine am_pv_cons (v_iconst (n := 0) (by decide +kernel) rfl) rfl ?_
  refine am_pv_cons (v_put fw_Law_84 (by decide +kernel)) rfl ?_
  refine am_pv_cons (v_iload_n (q := 2) (by decide +kernel) rfl) rfl ?_
  refine am_pv_cons (v_istore (by decide +kernel)) rfl ?_
  refine am_pv_cons (v_iload (by decide +kernel)) rfl ?_
  refine am_pv_cons (v_iload_n (q := 3) (by decide +kernel) rfl) rfl ?_
  refine am_pv_cons (v_ic_ge (off := 19) (by decide +kernel) rfl) rfl ?_
  refine am_pv_cons (v_aload_n (q := 0) (by decide +kernel) rfl) rfl ?_
  refine am_pv_cons (v_aload_n (q := 1) (by decide +kernel) rfl) rfl ?_
  refine am_pv_cons (v_iload (by decide +kernel)) rfl ?_
  refine am_pv_cons (v_iald (by decide +kernel)) rfl ?_
  refine am_pv_cons (v_iload (by decide +kernel)) rfl ?_
  refine am_pv_cons (v_virt (idx := 87) yv_Law_runOne rfl rfl (tb2 239 (by decide +kernel) rfl) (by decide +kernel)) rfl ?_
  refine am_pv_cons (v_iinc (n := 1) (by decide +kernel) (by decide +kernel)) rfl ?_
  refine am_pv_cons (v_goto (off := -19) (by decide +kernel) rfl) rfl ?_
  refine am_pv_cons (v_aload_n (q := 0) (by decide +kernel) rfl) rfl ?_
  refine am_pv_cons (v_virt (idx := 91) yv_Law_pop rfl rfl (tb3 14 (by decide +kernel) rfl) (by decide +kernel)) rfl ?_
  refine am_pv_cons (v_ireturn (by decide +kernel)) trivial ?_
  exact trivial
def P_Law_runOne (E : am_E) (k : Nat) : am_P := [(0, aLi 1), (1, aIf (fun x => x < 0) 12), (4, aLa 0), (5, aLi 1), (6, aIv E k 4 1 Y_Law_push), (9, aGo 93), (12, aLi 1), (13, aIs E k 1 Y_Text_isName), (16, aIf (fun x => x = 0) 32), (19, aLa 0), (20, aLa 0), (21, aLi 1), (22, aLi 2), (23, aIv E k 4 2 Y_Law_named), (26, aIv E k 4 1 Y_Law_push), (29, aGo 93), (32, aLi 1), (33, aI (-8)), (35, aCn (fun x y => x = y) 50), (38, aLa 0), (39, aLa 0), (40, aIv E k 4 0 Y_Law_pop), (43, aU (fun x => -x)), (44, aIv E k 4 1 Y_Law_push), (47, aGo 93), (50, aLi 1), (51, aI (-7)), (53, aCn (fun x y => x = y) 75), (56, aLa 0), (57, aLa 0), (58, aIv E k 4 0 Y_Law_pop), (61, aIn (fun x => x = 0) 68), (64, aI 1), (65, aGo 69), (68, aI 0), (69, aIv E k 4 1 Y_Law_push), (72, aGo 93), (75, aLa 0), (76, aIv E k 4 0 Y_Law_pop), (79, aSi 3), (80, aLa 0), (81, aLi 1), (82, aLa 0), (83, aIv E k 4 0 Y_Law_pop), (86, aLi 3), (87, aIs E k 3 Y_Law_joined), (90, aIv E k 4 1 Y_Law_push), (93, aRv)]
set_option maxRecDepth 20000 in
theorem pv_Law_runOne (E : am_E) (k : Nat) : am_pv E k Y_Law_runOne.2.1 Y_Law_runOne.2.2.1 Y_Law_runOne.1.cls (P_Law_runOne E k) := by
  refine am_pv_cons (v_iload_n (q := 1) (by decide +kernel) rfl) rfl ?_
  refine am_pv_cons (v_if_lt (off := 11) (by decide +kernel) rfl) rfl ?_
  refine am_pv_cons (v_aload_n (q := 0) (by decide +kernel) rfl) rfl ?_
  refine am_pv_cons (v_iload_n (q := 1) (by decide +kernel) rfl) rfl ?_
  refine am_pv_cons (v_virt (idx := 95) yv_Law_push rfl rfl (tb3 3 (by decide +kernel) rfl) (by decide +kernel)) rfl ?_
  refine am_pv_cons (v_goto (off := 84) (by decide +kernel) rfl) rfl ?_
  refine am_pv_cons (v_iload_n (q := 1) (by decide +kernel) rfl) rfl ?_
  refine am_pv_cons (v_stat (idx := 98) ys_Text_isName (tb3 7 (by decide +kernel) rfl) (by decide +kernel)) rfl ?_
  refine am_pv_cons (v_if_eq (off := 16) (by decide +kernel) rfl) rfl ?_
  refine am_pv_cons (v_aload_n (q := 0) (by decide +kernel) rfl) rfl ?_
  refine am_pv_cons (v_aload_n (q := 0) (by decide +kernel) rfl) rfl ?_
  refine am_pv_cons (v_iload_n (q := 1) (by decide +kernel) rfl) rfl ?_
  refine am_pv_cons (v_iload_n (q := 2) (by decide +kernel) rfl) rfl ?_
  refine am_pv_cons (v_virt (idx := 101) yv_Law_named rfl rfl (tb3 10 (by decide +kernel) rfl) (by decide +kernel)) rfl ?_
  refine am_pv_cons (v_virt (idx := 95) yv_Law_push rfl rfl (tb3 3 (by decide +kernel) rfl) (by decide +kernel)) rfl ?_
  refine am_pv_cons (v_goto (off := 64) (by decide +kernel) rfl) rfl ?_
  refine am_pv_cons (v_iload_n (q := 1) (by decide +kernel) rfl) rfl ?_
  refine am_pv_cons (v_bipush (n := -8) (by decide +kernel) (by decide +kernel)) rfl ?_
  refine am_pv_cons (v_ic_ne (off := 15) (by decide +kernel) rfl) rfl ?_
  refine am_pv_cons (v_aload_n (q := 0) (by decide +kernel) rfl) rfl ?_
  refine am_pv_cons (v_aload_n (q := 0) (by decide +kernel) rfl) rfl ?_
  refine am_pv_cons (v_virt (idx := 91) yv_Law_pop rfl rfl (tb3 14 (by decide +kernel) rfl) (by decide +kernel)) rfl ?_
  refine am_pv_cons (v_ineg (by decide +kernel)) rfl ?_
  refine am_pv_cons (v_virt (idx := 95) yv_Law_push rfl rfl (tb3 3 (by decide +kernel) rfl) (by decide +kernel)) rfl ?_
  refine am_pv_cons (v_goto (off := 46) (by decide +kernel) rfl) rfl ?_
  refine am_pv_cons (v_iload_n (q := 1) (by decide +kernel) rfl) rfl ?_
  refine am_pv_cons (v_bipush (n := -7) (by decide +kernel) (by decide +kernel)) rfl ?_
  refine am_pv_cons (v_ic_ne (off := 22) (by decide +kernel) rfl) rfl ?_
  refine am_pv_cons (v_aload_n (q := 0) (by decide +kernel) rfl) rfl ?_
  refine am_pv_cons (v_aload_n (q := 0) (by decide +kernel) rfl) rfl ?_
  refine am_pv_cons (v_virt (idx := 91) yv_Law_pop rfl rfl (tb3 14 (by decide +kernel) rfl) (by decide +kernel)) rfl ?_
  refine am_pv_cons (v_if_ne (off := 7) (by decide +kernel) rfl) rfl ?_
  refine am_pv_cons (v_iconst (n := 1) (by decide +kernel) rfl) rfl ?_
  refine am_pv_cons (v_goto (off := 4) (by decide +kernel) rfl) rfl ?_
  refine am_pv_cons (v_iconst (n := 0) (by decide +kernel) rfl) rfl ?_
  refine am_pv_cons (v_virt (idx := 95) yv_Law_push rfl rfl (tb3 3 (by decide +kernel) rfl) (by decide +kernel)) rfl ?_
  refine am_pv_cons (v_goto (off := 21) (by decide +kernel) rfl) rfl ?_
  refine am_pv_cons (v_aload_n (q := 0) (by decide +kernel) rfl) rfl ?_
  refine am_pv_cons (v_virt (idx := 91) yv_Law_pop rfl rfl (tb3 14 (by decide +kernel) rfl) (by decide +kernel)) rfl ?_
  refine am_pv_cons (v_istore_n (q := 3) (by decide +kernel) rfl) rfl ?_
  refine am_pv_cons (v_aload_n (q := 0) (by decide +kernel) rfl) rfl ?_
  refine am_pv_cons (v_iload_n (q := 1) (by decide +kernel) rfl) rfl ?_
  refine am_pv_cons (v_aload_n (q := 0) (by decide +kernel) rfl) rfl ?_
  refine am_pv_cons (v_virt (idx := 91) yv_Law_pop rfl rfl (tb3 14 (by decide +kernel) rfl) (by decide +kernel)) rfl ?_
  refine am_pv_cons (v_iload_n (q := 3) (by decide +kernel) rfl) rfl ?_
  refine am_pv_cons (v_stat (idx := 104) ys_Law_joined (tb3 18 (by decide +kernel) rfl) (by decide +kernel)) rfl ?_
  refine am_pv_cons (v_virt (idx := 95) yv_Law_push rfl rfl (tb3 3 (by decide +kernel) rfl) (by decide +kernel)) rfl ?_
  refine am_pv_cons (v_return_ (by decide +kernel)) trivial ?_
  exact trivial
def P_Law_named (E : am_E) (k : Nat) : am_P := [(0, aLi 1), (1, aSw [((-13), 88), ((-12), 76), ((-11), 64), ((-10), 46), ((-9), 36)] 98), (36, aLa 0), (37, aGet 4 0), (40, aGet 2 4), (43, aLi 2), (44, aAld 0), (45, aRi), (46, aLa 0), (47, aGet 4 0), (50, aGet 2 3), (53, aLi 2), (54, aAld 0), (55, aIn (fun x => x < 0) 62), (58, aI 1), (59, aGo 63), (62, aI 0), (63, aRi), (64, aLa 0), (65, aGet 4 0), (68, aGet 2 5), (71, aLi 2), (72, aAld 0), (73, aI 1), (74, aB (fun x y => x >>> (y &&& 31))), (75, aRi), (76, aLa 0), (77, aGet 4 0), (80, aGet 2 5), (83, aLi 2), (84, aAld 0), (85, aI 1), (86, aB (fun x y => x &&& y)), (87, aRi), (88, aLa 0), (89, aGet 4 0), (92, aGet 2 1), (95, aLi 2), (96, aAld 0), (97, aRi), (98, aLa 0), (99, aGet 4 0), (102, aGet 2 2), (105, aLi 2), (106, aAld 0), (107, aRi)]
set_option maxRecDepth 20000 in
theorem pv_Law_named (E : am_E) (k : Nat) : am_pv E k Y_Law_named.2.1 Y_Law_named.2.2.1 Y_Law_named.1.cls (P_Law_named E k) := by
  refine am_pv_cons (v_iload_n (q := 1) (by decide +kernel) rfl) rfl ?_
  refine am_pv_cons (v_tsw (dflt := 97) (lo := -13) (hi := -9) (offs := #[87, 75, 63, 45, 35]) (len := 35) (by decide +kernel) rfl (by decide) (by decide +kernel)) rfl ?_
  refine am_pv_cons (v_aload_n (q := 0) (by decide +kernel) rfl) rfl ?_
  refine am_pv_cons (v_get fl_Law_32 (by decide +kernel)) rfl ?_
  refine am_pv_cons (v_get fl_Law_108 (by decide +kernel)) rfl ?_
  refine am_pv_cons (v_iload_n (q := 2) (by decide +kernel) rfl) rfl ?_
  refine am_pv_cons (v_iald (by decide +kernel)) rfl ?_
  refine am_pv_cons (v_ireturn (by decide +kernel)) rfl ?_
  refine am_pv_cons (v_aload_n (q := 0) (by decide +kernel) rfl) rfl ?_
  refine am_pv_cons (v_get fl_Law_32 (by decide +kernel)) rfl ?_
  refine am_pv_cons (v_get fl_Law_111 (by decide +kernel)) rfl ?_
  refine am_pv_cons (v_iload_n (q := 2) (by decide +kernel) rfl) rfl ?_
  refine am_pv_cons (v_iald (by decide +kernel)) rfl ?_
  refine am_pv_cons (v_if_ge (off := 7) (by decide +kernel) rfl) rfl ?_
  refine am_pv_cons (v_iconst (n := 1) (by decide +kernel) rfl) rfl ?_
  refine am_pv_cons (v_goto (off := 4) (by decide +kernel) rfl) rfl ?_
  refine am_pv_cons (v_iconst (n := 0) (by decide +kernel) rfl) rfl ?_
  refine am_pv_cons (v_ireturn (by decide +kernel)) rfl ?_
  refine am_pv_cons (v_aload_n (q := 0) (by decide +kernel) rfl) rfl ?_
  refine am_pv_cons (v_get fl_Law_32 (by decide +kernel)) rfl ?_
  refine am_pv_cons (v_get fl_Law_114 (by decide +kernel)) rfl ?_
  refine am_pv_cons (v_iload_n (q := 2) (by decide +kernel) rfl) rfl ?_
  refine am_pv_cons (v_iald (by decide +kernel)) rfl ?_
  refine am_pv_cons (v_iconst (n := 1) (by decide +kernel) rfl) rfl ?_
  refine am_pv_cons (v_ishr (by decide +kernel)) rfl ?_
  refine am_pv_cons (v_ireturn (by decide +kernel)) rfl ?_
  refine am_pv_cons (v_aload_n (q := 0) (by decide +kernel) rfl) rfl ?_
  refine am_pv_cons (v_get fl_Law_32 (by decide +kernel)) rfl ?_
  refine am_pv_cons (v_get fl_Law_114 (by decide +kernel)) rfl ?_
  refine am_pv_cons (v_iload_n (q := 2) (by decide +kernel) rfl) rfl ?_
  refine am_pv_cons (v_iald (by decide +kernel)) rfl ?_
  refine am_pv_cons (v_iconst (n := 1) (by decide +kernel) rfl) rfl ?_
  refine am_pv_cons (v_iand (by decide +kernel)) rfl ?_
  refine am_pv_cons (v_ireturn (by decide +kernel)) rfl ?_
  refine am_pv_cons (v_aload_n (q := 0) (by decide +kernel) rfl) rfl ?_
  refine am_pv_cons (v_get fl_Law_32 (by decide +kernel)) rfl ?_
  refine am_pv_cons (v_get fl_Law_117 (by decide +kernel)) rfl ?_
  refine am_pv_cons (v_iload_n (q := 2) (by decide +kernel) rfl) rfl ?_
  refine am_pv_cons (v_iald (by decide +kernel)) rfl ?_
  refine am_pv_cons (v_ireturn (by decide +kernel)) rfl ?_
  refine am_pv_cons (v_aload_n (q := 0) (by decide +kernel) rfl) rfl ?_
  refine am_pv_cons (v_get fl_Law_32 (by decide +kernel)) rfl ?_
  refine am_pv_cons (v_get fl_Law_120 (by decide +kernel)) rfl ?_
  refine am_pv_cons (v_iload_n (q := 2) (by decide +kernel) rfl) rfl ?_
  refine am_pv_cons (v_iald (by decide +kernel)) rfl ?_
  refine am_pv_cons (v_ireturn (by decide +kernel)) trivial ?_
  exact trivial
def P_Law_joined (E : am_E) (k : Nat) : am_P := [(0, aLi 0), (1, aSw [((-61), 83), ((-60), 72), ((-45), 68), ((-43), 64), ((-42), 60), ((-6), 94)] 108), (60, aLi 1), (61, aLi 2), (62, aB (fun x y => x * y)), (63, aRi), (64, aLi 1), (65, aLi 2), (66, aB (fun x y => x + y)), (67, aRi), (68, aLi 1), (69, aLi 2), (70, aB (fun x y => x - y)), (71, aRi), (72, aLi 1), (73, aLi 2), (74, aCn (fun x y => x < y) 81), (77, aI 1), (78, aGo 82), (81, aI 0), (82, aRi), (83, aLi 1), (84, aLi 2), (85, aCn (fun x y => x = y) 92), (88, aI 1), (89, aGo 93), (92, aI 0), (93, aRi), (94, aLi 1), (95, aIf (fun x => x = 0) 106), (98, aLi 2), (99, aIf (fun x => x = 0) 106), (102, aI 1), (103, aGo 107), (106, aI 0), (107, aRi), (108, aLi 1), (109, aIn (fun x => x = 0) 116), (112, aLi 2), (113, aIf (fun x => x = 0) 120), (116, aI 1), (117, aGo 121), (120, aI 0), (121, aRi)]
set_option maxRecDepth 20000 in
theorem pv_Law_joined (E : am_E) (k : Nat) : am_pv E k Y_Law_joined.2.1 Y_Law_joined.2.2.1 Y_Law_joined.1.cls (P_Law_joined E k) := by
  refine am_pv_cons (v_iload_n (q := 0) (by decide +kernel) rfl) rfl ?_
  refine am_pv_cons (v_lsw (dflt := 107) (ps := #[((-61), 82), ((-60), 71), ((-45), 67), ((-43), 63), ((-42), 59), ((-6), 93)]) (len := 59) (by decide +kernel) (by decide +kernel) rfl (by decide +kernel)) rfl ?_
  refine am_pv_cons (v_iload_n (q := 1) (by decide +kernel) rfl) rfl ?_
  refine am_pv_cons (v_iload_n (q := 2) (by decide +kernel) rfl) rfl ?_
  refine am_pv_cons (v_imul (by decide +kernel)) rfl ?_
  refine am_pv_cons (v_ireturn (by decide +kernel)) rfl ?_
  refine am_pv_cons (v_iload_n (q := 1) (by decide +kernel) rfl) rfl ?_
  refine am_pv_cons (v_iload_n (q := 2) (by decide +kernel) rfl) rfl ?_
  refine am_pv_cons (v_iadd (by decide +kernel)) rfl ?_
  refine am_pv_cons (v_ireturn (by decide +kernel)) rfl ?_
  refine am_pv_cons (v_iload_n (q := 1) (by decide +kernel) rfl) rfl ?_
  refine am_pv_cons (v_iload_n (q := 2) (by decide +kernel) rfl) rfl ?_
  refine am_pv_cons (v_isub (by decide +kernel)) rfl ?_
  refine am_pv_cons (v_ireturn (by decide +kernel)) rfl ?_
  refine am_pv_cons (v_iload_n (q := 1) (by decide +kernel) rfl) rfl ?_
  refine am_pv_cons (v_iload_n (q := 2) (by decide +kernel) rfl) rfl ?_
  refine am_pv_cons (v_ic_ge (off := 7) (by decide +kernel) rfl) rfl ?_
  refine am_pv_cons (v_iconst (n := 1) (by decide +kernel) rfl) rfl ?_
  refine am_pv_cons (v_goto (off := 4) (by decide +kernel) rfl) rfl ?_
  refine am_pv_cons (v_iconst (n := 0) (by decide +kernel) rfl) rfl ?_
  refine am_pv_cons (v_ireturn (by decide +kernel)) rfl ?_
  refine am_pv_cons (v_iload_n (q := 1) (by decide +kernel) rfl) rfl ?_
  refine am_pv_cons (v_iload_n (q := 2) (by decide +kernel) rfl) rfl ?_
  refine am_pv_cons (v_ic_ne (off := 7) (by decide +kernel) rfl) rfl ?_
  refine am_pv_cons (v_iconst (n := 1) (by decide +kernel) rfl) rfl ?_
  refine am_pv_cons (v_goto (off := 4) (by decide +kernel) rfl) rfl ?_
  refine am_pv_cons (v_iconst (n := 0) (by decide +kernel) rfl) rfl ?_
  refine am_pv_cons (v_ireturn (by decide +kernel)) rfl ?_
  refine am_pv_cons (v_iload_n (q := 1) (by decide +kernel) rfl) rfl ?_
  refine am_pv_cons (v_if_eq (off := 11) (by decide +kernel) rfl) rfl ?_
  refine am_pv_cons (v_iload_n (q := 2) (by decide +kernel) rfl) rfl ?_
  refine am_pv_cons (v_if_eq (off := 7) (by decide +kernel) rfl) rfl ?_
  refine am_pv_cons (v_iconst (n := 1) (by decide +kernel) rfl) rfl ?_
  refine am_pv_cons (v_goto (off := 4) (by decide +kernel) rfl) rfl ?_
  refine am_pv_cons (v_iconst (n := 0) (by decide +kernel) rfl) rfl ?_
  refine am_pv_cons (v_ireturn (by decide +kernel)) rfl ?_
  refine am_pv_cons (v_iload_n (q := 1) (by decide +kernel) rfl) rfl ?_
  refine am_pv_cons (v_if_ne (off := 7) (by decide +kernel) rfl) rfl ?_
  refine am_pv_cons (v_iload_n (q := 2) (by decide +kernel) rfl) rfl ?_
  refine am_pv_cons (v_if_eq (off := 7) (by decide +kernel) rfl) rfl ?_
  refine am_pv_cons (v_iconst (n := 1) (by decide +kernel) rfl) rfl ?_
  refine am_pv_cons (v_goto (off := 4) (by decide +kernel) rfl) rfl ?_
  refine am_pv_cons (v_iconst (n := 0) (by decide +kernel) rfl) rfl ?_
  refine am_pv_cons (v_ireturn (by decide +kernel)) trivial ?_
  exact trivial
def P_Law_push (E : am_E) (k : Nat) : am_P := [(0, aLa 0), (1, aGet 4 7), (4, aI 160), (7, aCn (fun x y => x < y) 30), (10, aLa 0), (11, aGet 4 6), (14, aLa 0), (15, aGet 4 7), (18, aLi 1), (19, aAst), (20, aLa 0), (21, aDup), (22, aGet 4 7), (25, aI 1), (26, aB (fun x y => x + y)), (27, aPut 4 7), (30, aRv)]
set_option maxRecDepth 20000 in
theorem pv_Law_push (E : am_E) (k : Nat) : am_pv E k Y_Law_push.2.1 Y_Law_push.2.2.1 Y_Law_push.1.cls (P_Law_push E k) := by
  refine am_pv_cons (v_aload_n (q := 0) (by decide +kernel) rfl) rfl ?_
  refine am_pv_cons (v_get fl_Law_84 (by decide +kernel)) rfl ?_
  refine am_pv_cons (v_sipush (n := 160) (by decide +kernel) (by decide +kernel)) rfl ?_
  refine am_pv_cons (v_ic_ge (off := 23) (by decide +kernel) rfl) rfl ?_
  refine am_pv_cons (v_aload_n (q := 0) (by decide +kernel) rfl) rfl ?_
  refine am_pv_cons (v_get fl_Law_29 (by decide +kernel)) rfl ?_
  refine am_pv_cons (v_aload_n (q := 0) (by decide +kernel) rfl) rfl ?_
  refine am_pv_cons (v_get fl_Law_84 (by decide +kernel)) rfl ?_
  refine am_pv_cons (v_iload_n (q := 1) (by decide +kernel) rfl) rfl ?_
  refine am_pv_cons (v_iast (by decide +kernel)) rfl ?_
  refine am_pv_cons (v_aload_n (q := 0) (by decide +kernel) rfl) rfl ?_
  refine am_pv_cons (v_dup (by decide +kernel)) rfl ?_
  refine am_pv_cons (v_get fl_Law_84 (by decide +kernel)) rfl ?_
  refine am_pv_cons (v_iconst (n := 1) (by decide +kernel) rfl) rfl ?_
  refine am_pv_cons (v_iadd (by decide +kernel)) rfl ?_
  refine am_pv_cons (v_put fw_Law_84 (by decide +kernel)) rfl ?_
  refine am_pv_cons (v_return_ (by decide +kernel)) trivial ?_
  exact trivial
def P_Law_pop (E : am_E) (k : Nat) : am_P := [(0, aLa 0), (1, aGet 4 7), (4, aIf (fun x => 0 < x) 9), (7, aI 0), (8, aRi), (9, aLa 0), (10, aDup), (11, aGet 4 7), (14, aI 1), (15, aB (fun x y => x - y)), (16, aPut 4 7), (19, aLa 0), (20, aGet 4 6), (23, aLa 0), (24, aGet 4 7), (27, aAld 0), (28, aRi)]
set_option maxRecDepth 20000 in
theorem pv_Law_pop (E : am_E) (k : Nat) : am_pv E k Y_Law_pop.2.1 Y_Law_pop.2.2.1 Y_Law_pop.1.cls (P_Law_pop E k) := by
  refine am_pv_cons (v_aload_n (q := 0) (by decide +kernel) rfl) rfl ?_
  refine am_pv_cons (v_get fl_Law_84 (by decide +kernel)) rfl ?_
  refine am_pv_cons (v_if_gt (off := 5) (by decide +kernel) rfl) rfl ?_
  refine am_pv_cons (v_iconst (n := 0) (by decide +kernel) rfl) rfl ?_
  refine am_pv_cons (v_ireturn (by decide +kernel)) rfl ?_
  refine am_pv_cons (v_aload_n (q := 0) (by decide +kernel) rfl) rfl ?_
  refine am_pv_cons (v_dup (by decide +kernel)) rfl ?_
  refine am_pv_cons (v_get fl_Law_84 (by decide +kernel)) rfl ?_
  refine am_pv_cons (v_iconst (n := 1) (by decide +kernel) rfl) rfl ?_
  refine am_pv_cons (v_isub (by decide +kernel)) rfl ?_
  refine am_pv_cons (v_put fw_Law_84 (by decide +kernel)) rfl ?_
  refine am_pv_cons (v_aload_n (q := 0) (by decide +kernel) rfl) rfl ?_
  refine am_pv_cons (v_get fl_Law_29 (by decide +kernel)) rfl ?_
  refine am_pv_cons (v_aload_n (q := 0) (by decide +kernel) rfl) rfl ?_
  refine am_pv_cons (v_get fl_Law_84 (by decide +kernel)) rfl ?_
  refine am_pv_cons (v_iald (by decide +kernel)) rfl ?_
  refine am_pv_cons (v_ireturn (by decide +kernel)) trivial ?_
  exact trivial
def P_Text_clear (E : am_E) (k : Nat) : am_P := [(0, aLa 0), (1, aI 0), (2, aPut 5 1), (5, aLa 0), (6, aI 0), (7, aPut 5 2), (10, aRv)]
set_option maxRecDepth 20000 in
theorem pv_Text_clear (E : am_E) (k : Nat) : am_pv E k Y_Text_clear.2.1 Y_Text_clear.2.2.1 Y_Text_clear.1.cls (P_Text_clear E k) := by
  refine am_pv_cons (v_aload_n (q := 0) (by decide +kernel) rfl) rfl ?_
  refine am_pv_cons (v_iconst (n := 0) (by decide +kernel) rfl) rfl ?_
  refine am_pv_cons (v_put fw_Text_15 (by decide +kernel)) rfl ?_
  refine am_pv_cons (v_aload_n (q := 0) (by decide +kernel) rfl) rfl ?_
  refine am_pv_cons (v_iconst (n := 0) (by decide +kernel) rfl) rfl ?_
  refine am_pv_cons (v_put fw_Text_19 (by decide +kernel)) rfl ?_
  refine am_pv_cons (v_return_ (by decide +kernel)) trivial ?_
  exact trivial
def P_Text_become (E : am_E) (k : Nat) : am_P := [(0, aLa 0), (1, aLa 1), (2, aGet 5 1), (5, aPut 5 1), (8, aLa 0), (9, aLa 1), (10, aGet 5 2), (13, aPut 5 2), (16, aLa 1), (17, aGet 5 0), (20, aI 0), (21, aLa 0), (22, aGet 5 0), (25, aI 0), (26, aLa 0), (27, aGet 5 1), (30, aCpy k), (33, aRv)]
set_option maxRecDepth 20000 in
theorem pv_Text_become (E : am_E) (k : Nat) : am_pv E k Y_Text_become.2.1 Y_Text_become.2.2.1 Y_Text_become.1.cls (P_Text_become E k) := by
  refine am_pv_cons (v_aload_n (q := 0) (by decide +kernel) rfl) rfl ?_
  refine am_pv_cons (v_aload_n (q := 1) (by decide +kernel) rfl) rfl ?_
  refine am_pv_cons (v_get fl_Text_15 (by decide +kernel)) rfl ?_
  refine am_pv_cons (v_put fw_Text_15 (by decide +kernel)) rfl ?_
  refine am_pv_cons (v_aload_n (q := 0) (by decide +kernel) rfl) rfl ?_
  refine am_pv_cons (v_aload_n (q := 1) (by decide +kernel) rfl) rfl ?_
  refine am_pv_cons (v_get fl_Text_19 (by decide +kernel)) rfl ?_
  refine am_pv_cons (v_put fw_Text_19 (by decide +kernel)) rfl ?_
  refine am_pv_cons (v_aload_n (q := 1) (by decide +kernel) rfl) rfl ?_
  refine am_pv_cons (v_get fl_Text_9 (by decide +kernel)) rfl ?_
  refine am_pv_cons (v_iconst (n := 0) (by decide +kernel) rfl) rfl ?_
  refine am_pv_cons (v_aload_n (q := 0) (by decide +kernel) rfl) rfl ?_
  refine am_pv_cons (v_get fl_Text_9 (by decide +kernel)) rfl ?_
  refine am_pv_cons (v_iconst (n := 0) (by decide +kernel) rfl) rfl ?_
  refine am_pv_cons (v_aload_n (q := 0) (by decide +kernel) rfl) rfl ?_
  refine am_pv_cons (v_get fl_Text_15 (by decide +kernel)) rfl ?_
  refine am_pv_cons (v_cpy (idx := 22) (tb4 3 (by decide +kernel) rfl) cp_n cp_s cp_i (by decide +kernel)) rfl ?_
  refine am_pv_cons (v_return_ (by decide +kernel)) trivial ?_
  exact trivial
def P_Text_add (E : am_E) (k : Nat) : am_P := [(0, aLa 0), (1, aGet 5 1), (4, aI 160), (7, aCn (fun x y => x < y) 30), (10, aLa 0), (11, aGet 5 0), (14, aLa 0), (15, aGet 5 1), (18, aLi 1), (19, aAst), (20, aLa 0), (21, aDup), (22, aGet 5 1), (25, aI 1), (26, aB (fun x y => x + y)), (27, aPut 5 1), (30, aRv)]
set_option maxRecDepth 20000 in
theorem pv_Text_add (E : am_E) (k : Nat) : am_pv E k Y_Text_add.2.1 Y_Text_add.2.2.1 Y_Text_add.1.cls (P_Text_add E k) := by
  refine am_pv_cons (v_aload_n (q := 0) (by decide +kernel) rfl) rfl ?_
  refine am_pv_cons (v_get fl_Text_15 (by decide +kernel)) rfl ?_
  refine am_pv_cons (v_sipush (n := 160) (by decide +kernel) (by decide +kernel)) rfl ?_
  refine am_pv_cons (v_ic_ge (off := 23) (by decide +kernel) rfl) rfl ?_
  refine am_pv_cons (v_aload_n (q := 0) (by decide +kernel) rfl) rfl ?_
  refine am_pv_cons (v_get fl_Text_9 (by decide +kernel)) rfl ?_
  refine am_pv_cons (v_aload_n (q := 0) (by decide +kernel) rfl) rfl ?_
  refine am_pv_cons (v_get fl_Text_15 (by decide +kernel)) rfl ?_
  refine am_pv_cons (v_iload_n (q := 1) (by decide +kernel) rfl) rfl ?_
  refine am_pv_cons (v_iast (by decide +kernel)) rfl ?_
  refine am_pv_cons (v_aload_n (q := 0) (by decide +kernel) rfl) rfl ?_
  refine am_pv_cons (v_dup (by decide +kernel)) rfl ?_
  refine am_pv_cons (v_get fl_Text_15 (by decide +kernel)) rfl ?_
  refine am_pv_cons (v_iconst (n := 1) (by decide +kernel) rfl) rfl ?_
  refine am_pv_cons (v_iadd (by decide +kernel)) rfl ?_
  refine am_pv_cons (v_put fw_Text_15 (by decide +kernel)) rfl ?_
  refine am_pv_cons (v_return_ (by decide +kernel)) trivial ?_
  exact trivial
def P_Text_endCost (E : am_E) (k : Nat) : am_P := [(0, aLa 0), (1, aLa 0), (2, aGet 5 1), (5, aPut 5 2), (8, aRv)]
set_option maxRecDepth 20000 in
theorem pv_Text_endCost (E : am_E) (k : Nat) : am_pv E k Y_Text_endCost.2.1 Y_Text_endCost.2.2.1 Y_Text_endCost.1.cls (P_Text_endCost E k) := by
  refine am_pv_cons (v_aload_n (q := 0) (by decide +kernel) rfl) rfl ?_
  refine am_pv_cons (v_aload_n (q := 0) (by decide +kernel) rfl) rfl ?_
  refine am_pv_cons (v_get fl_Text_15 (by decide +kernel)) rfl ?_
  refine am_pv_cons (v_put fw_Text_19 (by decide +kernel)) rfl ?_
  refine am_pv_cons (v_return_ (by decide +kernel)) trivial ?_
  exact trivial
def P_Text_isName (E : am_E) (k : Nat) : am_P := [(0, aLi 0), (1, aI (-9)), (3, aCf (fun x y => y < x) 16), (6, aLi 0), (7, aI (-14)), (9, aCf (fun x y => x < y) 16), (12, aI 1), (13, aGo 17), (16, aI 0), (17, aRi)]
set_option maxRecDepth 20000 in
theorem pv_Text_isName (E : am_E) (k : Nat) : am_pv E k Y_Text_isName.2.1 Y_Text_isName.2.2.1 Y_Text_isName.1.cls (P_Text_isName E k) := by
  refine am_pv_cons (v_iload_n (q := 0) (by decide +kernel) rfl) rfl ?_
  refine am_pv_cons (v_bipush (n := -9) (by decide +kernel) (by decide +kernel)) rfl ?_
  refine am_pv_cons (v_ic_gt (off := 13) (by decide +kernel) rfl) rfl ?_
  refine am_pv_cons (v_iload_n (q := 0) (by decide +kernel) rfl) rfl ?_
  refine am_pv_cons (v_bipush (n := -14) (by decide +kernel) (by decide +kernel)) rfl ?_
  refine am_pv_cons (v_ic_lt (off := 7) (by decide +kernel) rfl) rfl ?_
  refine am_pv_cons (v_iconst (n := 1) (by decide +kernel) rfl) rfl ?_
  refine am_pv_cons (v_goto (off := 4) (by decide +kernel) rfl) rfl ?_
  refine am_pv_cons (v_iconst (n := 0) (by decide +kernel) rfl) rfl ?_
  refine am_pv_cons (v_ireturn (by decide +kernel)) trivial ?_
  exact trivial
def P_StreetReader_isStreet (E : am_E) (k : Nat) : am_P := [(0, aLa 0), (1, aI 0), (2, aPut 7 3), (5, aI 0), (6, aSi 1), (7, aLi 1), (8, aI 160), (11, aCn (fun x y => x < y) 45), (14, aLa 0), (15, aIv E k 7 0 Y_StreetReader_readLine), (18, aIn (fun x => x = 0) 23), (21, aI 0), (22, aRi), (23, aLa 0), (24, aGet 7 3), (27, aLa 0), (28, aGet 7 0), (31, aGet 3 0), (34, aCn (fun x y => x = y) 39), (37, aI 1), (38, aRi), (39, aInc 1 1), (42, aGo 7), (45, aI 0), (46, aRi)]
set_option maxRecDepth 20000 in
theorem pv_StreetReader_isStreet (E : am_E) (k : Nat) : am_pv E k Y_StreetReader_isStreet.2.1 Y_StreetReader_isStreet.2.2.1 Y_StreetReader_isStreet.1.cls (P_StreetReader_isStreet E k) := by
  refine am_pv_cons (v_aload_n (q := 0) (by decide +kernel) rfl) rfl ?_
  refine am_pv_cons (v_iconst (n := 0) (by decide +kernel) rfl) rfl ?_
  refine am_pv_cons (v_put fw_StreetReader_23 (by decide +kernel)) rfl ?_
  refine am_pv_cons (v_iconst (n := 0) (by decide +kernel) rfl) rfl ?_
  refine am_pv_cons (v_istore_n (q := 1) (by decide +kernel) rfl) rfl ?_
  refine am_pv_cons (v_iload_n (q := 1) (by decide +kernel) rfl) rfl ?_
  refine am_pv_cons (v_sipush (n := 160) (by decide +kernel) (by decide +kernel)) rfl ?_
  refine am_pv_cons (v_ic_ge (off := 34) (by decide +kernel) rfl) rfl ?_
  refine am_pv_cons (v_aload_n (q := 0) (by decide +kernel) rfl) rfl ?_
  refine am_pv_cons (v_virt (idx := 27) yv_StreetReader_readLine rfl rfl (tb3 52 (by decide +kernel) rfl) (by decide +kernel)) rfl ?_
  refine am_pv_cons (v_if_ne (off := 5) (by decide +kernel) rfl) rfl ?_
  refine am_pv_cons (v_iconst (n := 0) (by decide +kernel) rfl) rfl ?_
  refine am_pv_cons (v_ireturn (by decide +kernel)) rfl ?_
  refine am_pv_cons (v_aload_n (q := 0) (by decide +kernel) rfl) rfl ?_
  refine am_pv_cons (v_get fl_StreetReader_23 (by decide +kernel)) rfl ?_
  refine am_pv_cons (v_aload_n (q := 0) (by decide +kernel) rfl) rfl ?_
  refine am_pv_cons (v_get fl_StreetReader_9 (by decide +kernel)) rfl ?_
  refine am_pv_cons (v_get fl_StreetReader_31 (by decide +kernel)) rfl ?_
  refine am_pv_cons (v_ic_ne (off := 5) (by decide +kernel) rfl) rfl ?_
  refine am_pv_cons (v_iconst (n := 1) (by decide +kernel) rfl) rfl ?_
  refine am_pv_cons (v_ireturn (by decide +kernel)) rfl ?_
  refine am_pv_cons (v_iinc (n := 1) (by decide +kernel) (by decide +kernel)) rfl ?_
  refine am_pv_cons (v_goto (off := -35) (by decide +kernel) rfl) rfl ?_
  refine am_pv_cons (v_iconst (n := 0) (by decide +kernel) rfl) rfl ?_
  refine am_pv_cons (v_ireturn (by decide +kernel)) trivial ?_
  exact trivial
def P_StreetReader_tellAll (E : am_E) (k : Nat) : am_P := [(0, aLa 0), (1, aI 0), (2, aPut 7 3), (5, aI 0), (6, aSi 1), (7, aLi 1), (8, aI 160), (11, aCn (fun x y => x < y) 69), (14, aLa 0), (15, aGet 7 3), (18, aLa 0), (19, aGet 7 0), (22, aGet 3 0), (25, aCn (fun x y => x < y) 69), (28, aLa 0), (29, aIv E k 7 0 Y_StreetReader_readLine), (32, aIf (fun x => x = 0) 63), (35, aLa 0), (36, aGet 7 2), (39, aLa 0), (40, aGet 7 4), (43, aLa 0), (44, aGet 7 5), (47, aLa 0), (48, aGet 7 6), (51, aLa 0), (52, aGet 7 7), (55, aLa 0), (56, aGet 7 8), (59, aIv E k 2 5 Y_Feelings_tell), (62, aPop), (63, aInc 1 1), (66, aGo 7), (69, aLi 1), (70, aRi)]
set_option maxRecDepth 20000 in
theorem pv_StreetReader_tellAll (E : am_E) (k : Nat) : am_pv E k Y_StreetReader_tellAll.2.1 Y_StreetReader_tellAll.2.2.1 Y_StreetReader_tellAll.1.cls (P_StreetReader_tellAll E k) := by
  refine am_pv_cons (v_aload_n (q := 0) (by decide +kernel) rfl) rfl ?_
  refine am_pv_cons (v_iconst (n := 0) (by decide +kernel) rfl) rfl ?_
  refine am_pv_cons (v_put fw_StreetReader_23 (by decide +kernel)) rfl ?_
  refine am_pv_cons (v_iconst (n := 0) (by decide +kernel) rfl) rfl ?_
  refine am_pv_cons (v_istore_n (q := 1) (by decide +kernel) rfl) rfl ?_
  refine am_pv_cons (v_iload_n (q := 1) (by decide +kernel) rfl) rfl ?_
  refine am_pv_cons (v_sipush (n := 160) (by decide +kernel) (by decide +kernel)) rfl ?_
  refine am_pv_cons (v_ic_ge (off := 58) (by decide +kernel) rfl) rfl ?_
  refine am_pv_cons (v_aload_n (q := 0) (by decide +kernel) rfl) rfl ?_
  refine am_pv_cons (v_get fl_StreetReader_23 (by decide +kernel)) rfl ?_
  refine am_pv_cons (v_aload_n (q := 0) (by decide +kernel) rfl) rfl ?_
  refine am_pv_cons (v_get fl_StreetReader_9 (by decide +kernel)) rfl ?_
  refine am_pv_cons (v_get fl_StreetReader_31 (by decide +kernel)) rfl ?_
  refine am_pv_cons (v_ic_ge (off := 44) (by decide +kernel) rfl) rfl ?_
  refine am_pv_cons (v_aload_n (q := 0) (by decide +kernel) rfl) rfl ?_
  refine am_pv_cons (v_virt (idx := 27) yv_StreetReader_readLine rfl rfl (tb3 52 (by decide +kernel) rfl) (by decide +kernel)) rfl ?_
  refine am_pv_cons (v_if_eq (off := 31) (by decide +kernel) rfl) rfl ?_
  refine am_pv_cons (v_aload_n (q := 0) (by decide +kernel) rfl) rfl ?_
  refine am_pv_cons (v_get fl_StreetReader_19 (by decide +kernel)) rfl ?_
  refine am_pv_cons (v_aload_n (q := 0) (by decide +kernel) rfl) rfl ?_
  refine am_pv_cons (v_get fl_StreetReader_36 (by decide +kernel)) rfl ?_
  refine am_pv_cons (v_aload_n (q := 0) (by decide +kernel) rfl) rfl ?_
  refine am_pv_cons (v_get fl_StreetReader_39 (by decide +kernel)) rfl ?_
  refine am_pv_cons (v_aload_n (q := 0) (by decide +kernel) rfl) rfl ?_
  refine am_pv_cons (v_get fl_StreetReader_42 (by decide +kernel)) rfl ?_
  refine am_pv_cons (v_aload_n (q := 0) (by decide +kernel) rfl) rfl ?_
  refine am_pv_cons (v_get fl_StreetReader_45 (by decide +kernel)) rfl ?_
  refine am_pv_cons (v_aload_n (q := 0) (by decide +kernel) rfl) rfl ?_
  refine am_pv_cons (v_get fl_StreetReader_48 (by decide +kernel)) rfl ?_
  refine am_pv_cons (v_virt (idx := 51) yv_Feelings_tell rfl rfl (tb3 90 (by decide +kernel) rfl) (by decide +kernel)) rfl ?_
  refine am_pv_cons (v_pop (by decide +kernel)) rfl ?_
  refine am_pv_cons (v_iinc (n := 1) (by decide +kernel) (by decide +kernel)) rfl ?_
  refine am_pv_cons (v_goto (off := -59) (by decide +kernel) rfl) rfl ?_
  refine am_pv_cons (v_iload_n (q := 1) (by decide +kernel) rfl) rfl ?_
  refine am_pv_cons (v_ireturn (by decide +kernel)) trivial ?_
  exact trivial
def P_StreetReader_readLine (E : am_E) (k : Nat) : am_P := [(0, aLa 0), (1, aLa 0), (2, aI (-1)), (3, aIv E k 7 1 Y_StreetReader_readPerson), (6, aPut 7 4), (9, aLa 0), (10, aGet 7 4), (13, aI (-1)), (14, aCf (fun x y => x = y) 24), (17, aLa 0), (18, aIv E k 7 0 Y_StreetReader_readSign), (21, aIn (fun x => x = 0) 26), (24, aI 0), (25, aRi), (26, aLa 0), (27, aLa 0), (28, aLa 0), (29, aGet 7 4), (32, aIv E k 7 1 Y_StreetReader_readPerson), (35, aPut 7 5), (38, aLa 0), (39, aGet 7 5), (42, aI (-1)), (43, aCf (fun x y => x = y) 64), (46, aLa 0), (47, aIv E k 7 0 Y_StreetReader_readStrength), (50, aIf (fun x => x = 0) 64), (53, aLa 0), (54, aIv E k 7 0 Y_StreetReader_readKind), (57, aIf (fun x => x = 0) 64), (60, aI 1), (61, aGo 65), (64, aI 0), (65, aRi)]
set_option maxRecDepth 20000 in
theorem pv_StreetReader_readLine (E : am_E) (k : Nat) : am_pv E k Y_StreetReader_readLine.2.1 Y_StreetReader_readLine.2.2.1 Y_StreetReader_readLine.1.cls (P_StreetReader_readLine E k) := by
  refine am_pv_cons (v_aload_n (q := 0) (by decide +kernel) rfl) rfl ?_
  refine am_pv_cons (v_aload_n (q := 0) (by decide +kernel) rfl) rfl ?_
  refine am_pv_cons (v_iconst (n := -1) (by decide +kernel) rfl) rfl ?_
  refine am_pv_cons (v_virt (idx := 57) yv_StreetReader_readPerson rfl rfl (tb3 56 (by decide +kernel) rfl) (by decide +kernel)) rfl ?_
  refine am_pv_cons (v_put fw_StreetReader_36 (by decide +kernel)) rfl ?_
  refine am_pv_cons (v_aload_n (q := 0) (by decide +kernel) rfl) rfl ?_
  refine am_pv_cons (v_get fl_StreetReader_36 (by decide +kernel)) rfl ?_
  refine am_pv_cons (v_iconst (n := -1) (by decide +kernel) rfl) rfl ?_
  refine am_pv_cons (v_ic_eq (off := 10) (by decide +kernel) rfl) rfl ?_
  refine am_pv_cons (v_aload_n (q := 0) (by decide +kernel) rfl) rfl ?_
  refine am_pv_cons (v_virt (idx := 61) yv_StreetReader_readSign rfl rfl (tb3 65 (by decide +kernel) rfl) (by decide +kernel)) rfl ?_
  refine am_pv_cons (v_if_ne (off := 5) (by decide +kernel) rfl) rfl ?_
  refine am_pv_cons (v_iconst (n := 0) (by decide +kernel) rfl) rfl ?_
  refine am_pv_cons (v_ireturn (by decide +kernel)) rfl ?_
  refine am_pv_cons (v_aload_n (q := 0) (by decide +kernel) rfl) rfl ?_
  refine am_pv_cons (v_aload_n (q := 0) (by decide +kernel) rfl) rfl ?_
  refine am_pv_cons (v_aload_n (q := 0) (by decide +kernel) rfl) rfl ?_
  refine am_pv_cons (v_get fl_StreetReader_36 (by decide +kernel)) rfl ?_
  refine am_pv_cons (v_virt (idx := 57) yv_StreetReader_readPerson rfl rfl (tb3 56 (by decide +kernel) rfl) (by decide +kernel)) rfl ?_
  refine am_pv_cons (v_put fw_StreetReader_39 (by decide +kernel)) rfl ?_
  refine am_pv_cons (v_aload_n (q := 0) (by decide +kernel) rfl) rfl ?_
  refine am_pv_cons (v_get fl_StreetReader_39 (by decide +kernel)) rfl ?_
  refine am_pv_cons (v_iconst (n := -1) (by decide +kernel) rfl) rfl ?_
  refine am_pv_cons (v_ic_eq (off := 21) (by decide +kernel) rfl) rfl ?_
  refine am_pv_cons (v_aload_n (q := 0) (by decide +kernel) rfl) rfl ?_
  refine am_pv_cons (v_virt (idx := 64) yv_StreetReader_readStrength rfl rfl (tb3 73 (by decide +kernel) rfl) (by decide +kernel)) rfl ?_
  refine am_pv_cons (v_if_eq (off := 14) (by decide +kernel) rfl) rfl ?_
  refine am_pv_cons (v_aload_n (q := 0) (by decide +kernel) rfl) rfl ?_
  refine am_pv_cons (v_virt (idx := 67) yv_StreetReader_readKind rfl rfl (tb3 82 (by decide +kernel) rfl) (by decide +kernel)) rfl ?_
  refine am_pv_cons (v_if_eq (off := 7) (by decide +kernel) rfl) rfl ?_
  refine am_pv_cons (v_iconst (n := 1) (by decide +kernel) rfl) rfl ?_
  refine am_pv_cons (v_goto (off := 4) (by decide +kernel) rfl) rfl ?_
  refine am_pv_cons (v_iconst (n := 0) (by decide +kernel) rfl) rfl ?_
  refine am_pv_cons (v_ireturn (by decide +kernel)) trivial ?_
  exact trivial
def P_StreetReader_readPerson (E : am_E) (k : Nat) : am_P := [(0, aLa 0), (1, aGet 7 0), (4, aLa 0), (5, aGet 7 3), (8, aIv E k 3 1 Y_Tape_at), (11, aI 97), (13, aB (fun x y => x - y)), (14, aSi 2), (15, aLa 0), (16, aGet 7 1), (19, aLi 2), (20, aIv E k 1 1 Y_People_has), (23, aIf (fun x => x = 0) 31), (26, aLi 2), (27, aLi 1), (28, aCn (fun x y => x = y) 33), (31, aI (-1)), (32, aRi), (33, aLa 0), (34, aDup), (35, aGet 7 3), (38, aI 1), (39, aB (fun x y => x + y)), (40, aPut 7 3), (43, aLi 2), (44, aRi)]
set_option maxRecDepth 20000 in
theorem pv_StreetReader_readPerson (E : am_E) (k : Nat) : am_pv E k Y_StreetReader_readPerson.2.1 Y_StreetReader_readPerson.2.2.1 Y_StreetReader_readPerson.1.cls (P_StreetReader_readPerson E k) := by
  refine am_pv_cons (v_aload_n (q := 0) (by decide +kernel) rfl) rfl ?_
  refine am_pv_cons (v_get fl_StreetReader_9 (by decide +kernel)) rfl ?_
  refine am_pv_cons (v_aload_n (q := 0) (by decide +kernel) rfl) rfl ?_
  refine am_pv_cons (v_get fl_StreetReader_23 (by decide +kernel)) rfl ?_
  refine am_pv_cons (v_virt (idx := 70) yv_Tape_at rfl rfl (tb3 60 (by decide +kernel) rfl) (by decide +kernel)) rfl ?_
  refine am_pv_cons (v_bipush (n := 97) (by decide +kernel) (by decide +kernel)) rfl ?_
  refine am_pv_cons (v_isub (by decide +kernel)) rfl ?_
  refine am_pv_cons (v_istore_n (q := 2) (by decide +kernel) rfl) rfl ?_
  refine am_pv_cons (v_aload_n (q := 0) (by decide +kernel) rfl) rfl ?_
  refine am_pv_cons (v_get fl_StreetReader_15 (by decide +kernel)) rfl ?_
  refine am_pv_cons (v_iload_n (q := 2) (by decide +kernel) rfl) rfl ?_
  refine am_pv_cons (v_virt (idx := 73) yv_People_has rfl rfl (tb3 64 (by decide +kernel) rfl) (by decide +kernel)) rfl ?_
  refine am_pv_cons (v_if_eq (off := 8) (by decide +kernel) rfl) rfl ?_
  refine am_pv_cons (v_iload_n (q := 2) (by decide +kernel) rfl) rfl ?_
  refine am_pv_cons (v_iload_n (q := 1) (by decide +kernel) rfl) rfl ?_
  refine am_pv_cons (v_ic_ne (off := 5) (by decide +kernel) rfl) rfl ?_
  refine am_pv_cons (v_iconst (n := -1) (by decide +kernel) rfl) rfl ?_
  refine am_pv_cons (v_ireturn (by decide +kernel)) rfl ?_
  refine am_pv_cons (v_aload_n (q := 0) (by decide +kernel) rfl) rfl ?_
  refine am_pv_cons (v_dup (by decide +kernel)) rfl ?_
  refine am_pv_cons (v_get fl_StreetReader_23 (by decide +kernel)) rfl ?_
  refine am_pv_cons (v_iconst (n := 1) (by decide +kernel) rfl) rfl ?_
  refine am_pv_cons (v_iadd (by decide +kernel)) rfl ?_
  refine am_pv_cons (v_put fw_StreetReader_23 (by decide +kernel)) rfl ?_
  refine am_pv_cons (v_iload_n (q := 2) (by decide +kernel) rfl) rfl ?_
  refine am_pv_cons (v_ireturn (by decide +kernel)) trivial ?_
  exact trivial
def P_StreetReader_readSign (E : am_E) (k : Nat) : am_P := [(0, aLa 0), (1, aLa 0), (2, aGet 7 0), (5, aLa 0), (6, aGet 7 3), (9, aIv E k 3 1 Y_Tape_at), (12, aI 45), (14, aCn (fun x y => x = y) 21), (17, aI (-1)), (18, aGo 22), (21, aI 1), (22, aPut 7 6), (25, aLa 0), (26, aI 45), (28, aIv E k 7 1 Y_StreetReader_skip), (31, aIn (fun x => x = 0) 43), (34, aLa 0), (35, aI 43), (37, aIv E k 7 1 Y_StreetReader_skip), (40, aIf (fun x => x = 0) 47), (43, aI 1), (44, aGo 48), (47, aI 0), (48, aRi)]
set_option maxRecDepth 20000 in
theorem pv_StreetReader_readSign (E : am_E) (k : Nat) : am_pv E k Y_StreetReader_readSign.2.1 Y_StreetReader_readSign.2.2.1 Y_StreetReader_readSign.1.cls (P_StreetReader_readSign E k) := by
  refine am_pv_cons (v_aload_n (q := 0) (by decide +kernel) rfl) rfl ?_
  refine am_pv_cons (v_aload_n (q := 0) (by decide +kernel) rfl) rfl ?_
  refine am_pv_cons (v_get fl_StreetReader_9 (by decide +kernel)) rfl ?_
  refine am_pv_cons (v_aload_n (q := 0) (by decide +kernel) rfl) rfl ?_
  refine am_pv_cons (v_get fl_StreetReader_23 (by decide +kernel)) rfl ?_
  refine am_pv_cons (v_virt (idx := 70) yv_Tape_at rfl rfl (tb3 60 (by decide +kernel) rfl) (by decide +kernel)) rfl ?_
  refine am_pv_cons (v_bipush (n := 45) (by decide +kernel) (by decide +kernel)) rfl ?_
  refine am_pv_cons (v_ic_ne (off := 7) (by decide +kernel) rfl) rfl ?_
  refine am_pv_cons (v_iconst (n := -1) (by decide +kernel) rfl) rfl ?_
  refine am_pv_cons (v_goto (off := 4) (by decide +kernel) rfl) rfl ?_
  refine am_pv_cons (v_iconst (n := 1) (by decide +kernel) rfl) rfl ?_
  refine am_pv_cons (v_put fw_StreetReader_42 (by decide +kernel)) rfl ?_
  refine am_pv_cons (v_aload_n (q := 0) (by decide +kernel) rfl) rfl ?_
  refine am_pv_cons (v_bipush (n := 45) (by decide +kernel) (by decide +kernel)) rfl ?_
  refine am_pv_cons (v_virt (idx := 79) yv_StreetReader_skip rfl rfl (tb3 69 (by decide +kernel) rfl) (by decide +kernel)) rfl ?_
  refine am_pv_cons (v_if_ne (off := 12) (by decide +kernel) rfl) rfl ?_
  refine am_pv_cons (v_aload_n (q := 0) (by decide +kernel) rfl) rfl ?_
  refine am_pv_cons (v_bipush (n := 43) (by decide +kernel) (by decide +kernel)) rfl ?_
  refine am_pv_cons (v_virt (idx := 79) yv_StreetReader_skip rfl rfl (tb3 69 (by decide +kernel) rfl) (by decide +kernel)) rfl ?_
  refine am_pv_cons (v_if_eq (off := 7) (by decide +kernel) rfl) rfl ?_
  refine am_pv_cons (v_iconst (n := 1) (by decide +kernel) rfl) rfl ?_
  refine am_pv_cons (v_goto (off := 4) (by decide +kernel) rfl) rfl ?_
  refine am_pv_cons (v_iconst (n := 0) (by decide +kernel) rfl) rfl ?_
  refine am_pv_cons (v_ireturn (by decide +kernel)) trivial ?_
  exact trivial
def P_StreetReader_readStrength (E : am_E) (k : Nat) : am_P := [(0, aLa 0), (1, aLa 0), (2, aGet 7 0), (5, aLa 0), (6, aGet 7 3), (9, aIv E k 3 1 Y_Tape_digitAt), (12, aPut 7 7), (15, aLa 0), (16, aGet 7 7), (19, aI (-1)), (20, aCn (fun x y => x = y) 25), (23, aI 0), (24, aRi), (25, aLa 0), (26, aDup), (27, aGet 7 3), (30, aI 1), (31, aB (fun x y => x + y)), (32, aPut 7 3), (35, aLa 0), (36, aGet 7 0), (39, aLa 0), (40, aGet 7 3), (43, aIv E k 3 1 Y_Tape_digitAt), (46, aSi 1), (47, aLi 1), (48, aI (-1)), (49, aCf (fun x y => x = y) 87), (52, aLa 0), (53, aGet 7 7), (56, aI 10), (58, aB (fun x y => x * y)), (59, aLi 1), (60, aB (fun x y => x + y)), (61, aIn (fun x => 0 < x) 87), (64, aLa 0), (65, aLa 0), (66, aGet 7 7), (69, aI 10), (71, aB (fun x y => x * y)), (72, aLi 1), (73, aB (fun x y => x + y)), (74, aPut 7 7), (77, aLa 0), (78, aDup), (79, aGet 7 3), (82, aI 1), (83, aB (fun x y => x + y)), (84, aPut 7 3), (87, aLa 0), (88, aGet 7 7), (91, aIn (fun x => 0 < x) 98), (94, aI 1), (95, aGo 99), (98, aI 0), (99, aRi)]
set_option maxRecDepth 20000 in
theorem pv_StreetReader_readStrength (E : am_E) (k : Nat) : am_pv E k Y_StreetReader_readStrength.2.1 Y_StreetReader_readStrength.2.2.1 Y_StreetReader_readStrength.1.cls (P_StreetReader_readStrength E k) := by
  refine am_pv_cons (v_aload_n (q := 0) (by decide +kernel) rfl) rfl ?_
  refine am_pv_cons (v_aload_n (q := 0) (by decide +kernel) rfl) rfl ?_
  refine am_pv_cons (v_get fl_StreetReader_9 (by decide +kernel)) rfl ?_
  refine am_pv_cons (v_aload_n (q := 0) (by decide +kernel) rfl) rfl ?_
  refine am_pv_cons (v_get fl_StreetReader_23 (by decide +kernel)) rfl ?_
  refine am_pv_cons (v_virt (idx := 82) yv_Tape_digitAt rfl rfl (tb3 77 (by decide +kernel) rfl) (by decide +kernel)) rfl ?_
  refine am_pv_cons (v_put fw_StreetReader_45 (by decide +kernel)) rfl ?_
  refine am_pv_cons (v_aload_n (q := 0) (by decide +kernel) rfl) rfl ?_
  refine am_pv_cons (v_get fl_StreetReader_45 (by decide +kernel)) rfl ?_
  refine am_pv_cons (v_iconst (n := -1) (by decide +kernel) rfl) rfl ?_
  refine am_pv_cons (v_ic_ne (off := 5) (by decide +kernel) rfl) rfl ?_
  refine am_pv_cons (v_iconst (n := 0) (by decide +kernel) rfl) rfl ?_
  refine am_pv_cons (v_ireturn (by decide +kernel)) rfl ?_
  refine am_pv_cons (v_aload_n (q := 0) (by decide +kernel) rfl) rfl ?_
  refine am_pv_cons (v_dup (by decide +kernel)) rfl ?_
  refine am_pv_cons (v_get fl_StreetReader_23 (by decide +kernel)) rfl ?_
  refine am_pv_cons (v_iconst (n := 1) (by decide +kernel) rfl) rfl ?_
  refine am_pv_cons (v_iadd (by decide +kernel)) rfl ?_
  refine am_pv_cons (v_put fw_StreetReader_23 (by decide +kernel)) rfl ?_
  refine am_pv_cons (v_aload_n (q := 0) (by decide +kernel) rfl) rfl ?_
  refine am_pv_cons (v_get fl_StreetReader_9 (by decide +kernel)) rfl ?_
  refine am_pv_cons (v_aload_n (q := 0) (by decide +kernel) rfl) rfl ?_
  refine am_pv_cons (v_get fl_StreetReader_23 (by decide +kernel)) rfl ?_
  refine am_pv_cons (v_virt (idx := 82) yv_Tape_digitAt rfl rfl (tb3 77 (by decide +kernel) rfl) (by decide +kernel)) rfl ?_
  refine am_pv_cons (v_istore_n (q := 1) (by decide +kernel) rfl) rfl ?_
  refine am_pv_cons (v_iload_n (q := 1) (by decide +kernel) rfl) rfl ?_
  refine am_pv_cons (v_iconst (n := -1) (by decide +kernel) rfl) rfl ?_
  refine am_pv_cons (v_ic_eq (off := 38) (by decide +kernel) rfl) rfl ?_
  refine am_pv_cons (v_aload_n (q := 0) (by decide +kernel) rfl) rfl ?_
  refine am_pv_cons (v_get fl_StreetReader_45 (by decide +kernel)) rfl ?_
  refine am_pv_cons (v_bipush (n := 10) (by decide +kernel) (by decide +kernel)) rfl ?_
  refine am_pv_cons (v_imul (by decide +kernel)) rfl ?_
  refine am_pv_cons (v_iload_n (q := 1) (by decide +kernel) rfl) rfl ?_
  refine am_pv_cons (v_iadd (by decide +kernel)) rfl ?_
  refine am_pv_cons (v_if_le (off := 26) (by decide +kernel) rfl) rfl ?_
  refine am_pv_cons (v_aload_n (q := 0) (by decide +kernel) rfl) rfl ?_
  refine am_pv_cons (v_aload_n (q := 0) (by decide +kernel) rfl) rfl ?_
  refine am_pv_cons (v_get fl_StreetReader_45 (by decide +kernel)) rfl ?_
  refine am_pv_cons (v_bipush (n := 10) (by decide +kernel) (by decide +kernel)) rfl ?_
  refine am_pv_cons (v_imul (by decide +kernel)) rfl ?_
  refine am_pv_cons (v_iload_n (q := 1) (by decide +kernel) rfl) rfl ?_
  refine am_pv_cons (v_iadd (by decide +kernel)) rfl ?_
  refine am_pv_cons (v_put fw_StreetReader_45 (by decide +kernel)) rfl ?_
  refine am_pv_cons (v_aload_n (q := 0) (by decide +kernel) rfl) rfl ?_
  refine am_pv_cons (v_dup (by decide +kernel)) rfl ?_
  refine am_pv_cons (v_get fl_StreetReader_23 (by decide +kernel)) rfl ?_
  refine am_pv_cons (v_iconst (n := 1) (by decide +kernel) rfl) rfl ?_
  refine am_pv_cons (v_iadd (by decide +kernel)) rfl ?_
  refine am_pv_cons (v_put fw_StreetReader_23 (by decide +kernel)) rfl ?_
  refine am_pv_cons (v_aload_n (q := 0) (by decide +kernel) rfl) rfl ?_
  refine am_pv_cons (v_get fl_StreetReader_45 (by decide +kernel)) rfl ?_
  refine am_pv_cons (v_if_le (off := 7) (by decide +kernel) rfl) rfl ?_
  refine am_pv_cons (v_iconst (n := 1) (by decide +kernel) rfl) rfl ?_
  refine am_pv_cons (v_goto (off := 4) (by decide +kernel) rfl) rfl ?_
  refine am_pv_cons (v_iconst (n := 0) (by decide +kernel) rfl) rfl ?_
  refine am_pv_cons (v_ireturn (by decide +kernel)) trivial ?_
  exact trivial
def P_StreetReader_readKind (E : am_E) (k : Nat) : am_P := [(0, aLa 0), (1, aLa 0), (2, aI 107), (4, aIv E k 7 1 Y_StreetReader_skip), (7, aIf (fun x => x = 0) 14), (10, aI 2), (11, aGo 15), (14, aI 0), (15, aPut 7 8), (18, aLa 0), (19, aI 33), (21, aIv E k 7 1 Y_StreetReader_skip), (24, aIf (fun x => x = 0) 37), (27, aLa 0), (28, aDup), (29, aGet 7 8), (32, aI 1), (33, aB (fun x y => x + y)), (34, aPut 7 8), (37, aLa 0), (38, aI 59), (40, aIv E k 7 1 Y_StreetReader_skip), (43, aRi)]
set_option maxRecDepth 20000 in
theorem pv_StreetReader_readKind (E : am_E) (k : Nat) : am_pv E k Y_StreetReader_readKind.2.1 Y_StreetReader_readKind.2.2.1 Y_StreetReader_readKind.1.cls (P_StreetReader_readKind E k) := by
  refine am_pv_cons (v_aload_n (q := 0) (by decide +kernel) rfl) rfl ?_
  refine am_pv_cons (v_aload_n (q := 0) (by decide +kernel) rfl) rfl ?_
  refine am_pv_cons (v_bipush (n := 107) (by decide +kernel) (by decide +kernel)) rfl ?_
  refine am_pv_cons (v_virt (idx := 79) yv_StreetReader_skip rfl rfl (tb3 69 (by decide +kernel) rfl) (by decide +kernel)) rfl ?_
  refine am_pv_cons (v_if_eq (off := 7) (by decide +kernel) rfl) rfl ?_
  refine am_pv_cons (v_iconst (n := 2) (by decide +kernel) rfl) rfl ?_
  refine am_pv_cons (v_goto (off := 4) (by decide +kernel) rfl) rfl ?_
  refine am_pv_cons (v_iconst (n := 0) (by decide +kernel) rfl) rfl ?_
  refine am_pv_cons (v_put fw_StreetReader_48 (by decide +kernel)) rfl ?_
  refine am_pv_cons (v_aload_n (q := 0) (by decide +kernel) rfl) rfl ?_
  refine am_pv_cons (v_bipush (n := 33) (by decide +kernel) (by decide +kernel)) rfl ?_
  refine am_pv_cons (v_virt (idx := 79) yv_StreetReader_skip rfl rfl (tb3 69 (by decide +kernel) rfl) (by decide +kernel)) rfl ?_
  refine am_pv_cons (v_if_eq (off := 13) (by decide +kernel) rfl) rfl ?_
  refine am_pv_cons (v_aload_n (q := 0) (by decide +kernel) rfl) rfl ?_
  refine am_pv_cons (v_dup (by decide +kernel)) rfl ?_
  refine am_pv_cons (v_get fl_StreetReader_48 (by decide +kernel)) rfl ?_
  refine am_pv_cons (v_iconst (n := 1) (by decide +kernel) rfl) rfl ?_
  refine am_pv_cons (v_iadd (by decide +kernel)) rfl ?_
  refine am_pv_cons (v_put fw_StreetReader_48 (by decide +kernel)) rfl ?_
  refine am_pv_cons (v_aload_n (q := 0) (by decide +kernel) rfl) rfl ?_
  refine am_pv_cons (v_bipush (n := 59) (by decide +kernel) (by decide +kernel)) rfl ?_
  refine am_pv_cons (v_virt (idx := 79) yv_StreetReader_skip rfl rfl (tb3 69 (by decide +kernel) rfl) (by decide +kernel)) rfl ?_
  refine am_pv_cons (v_ireturn (by decide +kernel)) trivial ?_
  exact trivial
def P_StreetReader_skip (E : am_E) (k : Nat) : am_P := [(0, aLa 0), (1, aGet 7 0), (4, aLa 0), (5, aGet 7 3), (8, aIv E k 3 1 Y_Tape_at), (11, aLi 1), (12, aCf (fun x y => x = y) 17), (15, aI 0), (16, aRi), (17, aLa 0), (18, aDup), (19, aGet 7 3), (22, aI 1), (23, aB (fun x y => x + y)), (24, aPut 7 3), (27, aI 1), (28, aRi)]
set_option maxRecDepth 20000 in
theorem pv_StreetReader_skip (E : am_E) (k : Nat) : am_pv E k Y_StreetReader_skip.2.1 Y_StreetReader_skip.2.2.1 Y_StreetReader_skip.1.cls (P_StreetReader_skip E k) := by
  refine am_pv_cons (v_aload_n (q := 0) (by decide +kernel) rfl) rfl ?_
  refine am_pv_cons (v_get fl_StreetReader_9 (by decide +kernel)) rfl ?_
  refine am_pv_cons (v_aload_n (q := 0) (by decide +kernel) rfl) rfl ?_
  refine am_pv_cons (v_get fl_StreetReader_23 (by decide +kernel)) rfl ?_
  refine am_pv_cons (v_virt (idx := 70) yv_Tape_at rfl rfl (tb3 60 (by decide +kernel) rfl) (by decide +kernel)) rfl ?_
  refine am_pv_cons (v_iload_n (q := 1) (by decide +kernel) rfl) rfl ?_
  refine am_pv_cons (v_ic_eq (off := 5) (by decide +kernel) rfl) rfl ?_
  refine am_pv_cons (v_iconst (n := 0) (by decide +kernel) rfl) rfl ?_
  refine am_pv_cons (v_ireturn (by decide +kernel)) rfl ?_
  refine am_pv_cons (v_aload_n (q := 0) (by decide +kernel) rfl) rfl ?_
  refine am_pv_cons (v_dup (by decide +kernel)) rfl ?_
  refine am_pv_cons (v_get fl_StreetReader_23 (by decide +kernel)) rfl ?_
  refine am_pv_cons (v_iconst (n := 1) (by decide +kernel) rfl) rfl ?_
  refine am_pv_cons (v_iadd (by decide +kernel)) rfl ?_
  refine am_pv_cons (v_put fw_StreetReader_23 (by decide +kernel)) rfl ?_
  refine am_pv_cons (v_iconst (n := 1) (by decide +kernel) rfl) rfl ?_
  refine am_pv_cons (v_ireturn (by decide +kernel)) trivial ?_
  exact trivial
def P_Camping_become (E : am_E) (k : Nat) : am_P := [(0, aLa 0), (1, aLi 1), (2, aPut 8 3), (5, aLa 0), (6, aLa 2), (7, aGet 11 1), (10, aPut 8 4), (13, aLa 2), (14, aGet 11 2), (17, aI 0), (18, aLa 0), (19, aGet 8 5), (22, aI 0), (23, aLa 0), (24, aGet 8 4), (27, aCpy k), (30, aRv)]
set_option maxRecDepth 20000 in
theorem pv_Camping_become (E : am_E) (k : Nat) : am_pv E k Y_Camping_become.2.1 Y_Camping_become.2.2.1 Y_Camping_become.1.cls (P_Camping_become E k) := by
  refine am_pv_cons (v_aload_n (q := 0) (by decide +kernel) rfl) rfl ?_
  refine am_pv_cons (v_iload_n (q := 1) (by decide +kernel) rfl) rfl ?_
  refine am_pv_cons (v_put fw_Camping_27 (by decide +kernel)) rfl ?_
  refine am_pv_cons (v_aload_n (q := 0) (by decide +kernel) rfl) rfl ?_
  refine am_pv_cons (v_aload_n (q := 2) (by decide +kernel) rfl) rfl ?_
  refine am_pv_cons (v_get fl_Camping_31 (by decide +kernel)) rfl ?_
  refine am_pv_cons (v_put fw_Camping_36 (by decide +kernel)) rfl ?_
  refine am_pv_cons (v_aload_n (q := 2) (by decide +kernel) rfl) rfl ?_
  refine am_pv_cons (v_get fl_Camping_37 (by decide +kernel)) rfl ?_
  refine am_pv_cons (v_iconst (n := 0) (by decide +kernel) rfl) rfl ?_
  refine am_pv_cons (v_aload_n (q := 0) (by decide +kernel) rfl) rfl ?_
  refine am_pv_cons (v_get fl_Camping_9 (by decide +kernel)) rfl ?_
  refine am_pv_cons (v_iconst (n := 0) (by decide +kernel) rfl) rfl ?_
  refine am_pv_cons (v_aload_n (q := 0) (by decide +kernel) rfl) rfl ?_
  refine am_pv_cons (v_get fl_Camping_36 (by decide +kernel)) rfl ?_
  refine am_pv_cons (v_cpy (idx := 40) (tb4 39 (by decide +kernel) rfl) cp_n cp_s cp_i (by decide +kernel)) rfl ?_
  refine am_pv_cons (v_return_ (by decide +kernel)) trivial ?_
  exact trivial
def P_Camping_becomeMoved (E : am_E) (k : Nat) : am_P := [(0, aLa 0), (1, aLa 1), (2, aGet 8 3), (5, aPut 8 3), (8, aLa 0), (9, aLa 0), (10, aGet 8 0), (13, aGet 1 0), (16, aPut 8 4), (19, aI 0), (20, aSi 4), (22, aLi 4), (24, aLa 0), (25, aGet 8 4), (28, aCn (fun x y => x < y) 50), (31, aLa 0), (32, aGet 8 5), (35, aLi 4), (37, aLa 1), (38, aLi 4), (40, aIv E k 8 1 Y_Camping_campOf), (43, aAst), (44, aInc 4 1), (47, aGo 22), (50, aLa 0), (51, aGet 8 5), (54, aLi 2), (55, aLi 3), (56, aAst), (57, aRv)]
set_option maxRecDepth 20000 in
theorem pv_Camping_becomeMoved (E : am_E) (k : Nat) : am_pv E k Y_Camping_becomeMoved.2.1 Y_Camping_becomeMoved.2.2.1 Y_Camping_becomeMoved.1.cls (P_Camping_becomeMoved E k) := by
  refine am_pv_cons (v_aload_n (q := 0) (by decide +kernel) rfl) rfl ?_
  refine am_pv_cons (v_aload_n (q := 1) (by decide +kernel) rfl) rfl ?_
  refine am_pv_cons (v_get fl_Camping_27 (by decide +kernel)) rfl ?_
  refine am_pv_cons (v_put fw_Camping_27 (by decide +kernel)) rfl ?_
  refine am_pv_cons (v_aload_n (q := 0) (by decide +kernel) rfl) rfl ?_
  refine am_pv_cons (v_aload_n (q := 0) (by decide +kernel) rfl) rfl ?_
  refine am_pv_cons (v_get fl_Camping_15 (by decide +kernel)) rfl ?_
  refine am_pv_cons (v_get fl_Camping_46 (by decide +kernel)) rfl ?_
  refine am_pv_cons (v_put fw_Camping_36 (by decide +kernel)) rfl ?_
  refine am_pv_cons (v_iconst (n := 0) (by decide +kernel) rfl) rfl ?_
  refine am_pv_cons (v_istore (by decide +kernel)) rfl ?_
  refine am_pv_cons (v_iload (by decide +kernel)) rfl ?_
  refine am_pv_cons (v_aload_n (q := 0) (by decide +kernel) rfl) rfl ?_
  refine am_pv_cons (v_get fl_Camping_36 (by decide +kernel)) rfl ?_
  refine am_pv_cons (v_ic_ge (off := 22) (by decide +kernel) rfl) rfl ?_
  refine am_pv_cons (v_aload_n (q := 0) (by decide +kernel) rfl) rfl ?_
  refine am_pv_cons (v_get fl_Camping_9 (by decide +kernel)) rfl ?_
  refine am_pv_cons (v_iload (by decide +kernel)) rfl ?_
  refine am_pv_cons (v_aload_n (q := 1) (by decide +kernel) rfl) rfl ?_
  refine am_pv_cons (v_iload (by decide +kernel)) rfl ?_
  refine am_pv_cons (v_virt (idx := 49) yv_Camping_campOf rfl rfl (tb4 58 (by decide +kernel) rfl) (by decide +kernel)) rfl ?_
  refine am_pv_cons (v_iast (by decide +kernel)) rfl ?_
  refine am_pv_cons (v_iinc (n := 1) (by decide +kernel) (by decide +kernel)) rfl ?_
  refine am_pv_cons (v_goto (off := -25) (by decide +kernel) rfl) rfl ?_
  refine am_pv_cons (v_aload_n (q := 0) (by decide +kernel) rfl) rfl ?_
  refine am_pv_cons (v_get fl_Camping_9 (by decide +kernel)) rfl ?_
  refine am_pv_cons (v_iload_n (q := 2) (by decide +kernel) rfl) rfl ?_
  refine am_pv_cons (v_iload_n (q := 3) (by decide +kernel) rfl) rfl ?_
  refine am_pv_cons (v_iast (by decide +kernel)) rfl ?_
  refine am_pv_cons (v_return_ (by decide +kernel)) trivial ?_
  exact trivial
def P_Camping_campOf (E : am_E) (k : Nat) : am_P := [(0, aLi 1), (1, aLa 0), (2, aGet 8 4), (5, aCn (fun x y => x < y) 17), (8, aLa 0), (9, aGet 8 5), (12, aLi 1), (13, aAld 0), (14, aGo 18), (17, aI 0), (18, aRi)]
set_option maxRecDepth 20000 in
theorem pv_Camping_campOf (E : am_E) (k : Nat) : am_pv E k Y_Camping_campOf.2.1 Y_Camping_campOf.2.2.1 Y_Camping_campOf.1.cls (P_Camping_campOf E k) := by
  refine am_pv_cons (v_iload_n (q := 1) (by decide +kernel) rfl) rfl ?_
  refine am_pv_cons (v_aload_n (q := 0) (by decide +kernel) rfl) rfl ?_
  refine am_pv_cons (v_get fl_Camping_36 (by decide +kernel)) rfl ?_
  refine am_pv_cons (v_ic_ge (off := 12) (by decide +kernel) rfl) rfl ?_
  refine am_pv_cons (v_aload_n (q := 0) (by decide +kernel) rfl) rfl ?_
  refine am_pv_cons (v_get fl_Camping_9 (by decide +kernel)) rfl ?_
  refine am_pv_cons (v_iload_n (q := 1) (by decide +kernel) rfl) rfl ?_
  refine am_pv_cons (v_iald (by decide +kernel)) rfl ?_
  refine am_pv_cons (v_goto (off := 4) (by decide +kernel) rfl) rfl ?_
  refine am_pv_cons (v_iconst (n := 0) (by decide +kernel) rfl) rfl ?_
  refine am_pv_cons (v_ireturn (by decide +kernel)) trivial ?_
  exact trivial
def P_Camping_usedCamps (E : am_E) (k : Nat) : am_P := [(0, aI 0), (1, aSi 1), (2, aI 0), (3, aSi 2), (4, aLi 2), (5, aI 4), (6, aCn (fun x y => x < y) 26), (9, aLa 0), (10, aLi 2), (11, aIv E k 8 1 Y_Camping_countIn), (14, aIn (fun x => 0 < x) 20), (17, aInc 1 1), (20, aInc 2 1), (23, aGo 4), (26, aLi 1), (27, aRi)]
set_option maxRecDepth 20000 in
theorem pv_Camping_usedCamps (E : am_E) (k : Nat) : am_pv E k Y_Camping_usedCamps.2.1 Y_Camping_usedCamps.2.2.1 Y_Camping_usedCamps.1.cls (P_Camping_usedCamps E k) := by
  refine am_pv_cons (v_iconst (n := 0) (by decide +kernel) rfl) rfl ?_
  refine am_pv_cons (v_istore_n (q := 1) (by decide +kernel) rfl) rfl ?_
  refine am_pv_cons (v_iconst (n := 0) (by decide +kernel) rfl) rfl ?_
  refine am_pv_cons (v_istore_n (q := 2) (by decide +kernel) rfl) rfl ?_
  refine am_pv_cons (v_iload_n (q := 2) (by decide +kernel) rfl) rfl ?_
  refine am_pv_cons (v_iconst (n := 4) (by decide +kernel) rfl) rfl ?_
  refine am_pv_cons (v_ic_ge (off := 20) (by decide +kernel) rfl) rfl ?_
  refine am_pv_cons (v_aload_n (q := 0) (by decide +kernel) rfl) rfl ?_
  refine am_pv_cons (v_iload_n (q := 2) (by decide +kernel) rfl) rfl ?_
  refine am_pv_cons (v_virt (idx := 53) yv_Camping_countIn rfl rfl (tb4 54 (by decide +kernel) rfl) (by decide +kernel)) rfl ?_
  refine am_pv_cons (v_if_le (off := 6) (by decide +kernel) rfl) rfl ?_
  refine am_pv_cons (v_iinc (n := 1) (by decide +kernel) (by decide +kernel)) rfl ?_
  refine am_pv_cons (v_iinc (n := 1) (by decide +kernel) (by decide +kernel)) rfl ?_
  refine am_pv_cons (v_goto (off := -19) (by decide +kernel) rfl) rfl ?_
  refine am_pv_cons (v_iload_n (q := 1) (by decide +kernel) rfl) rfl ?_
  refine am_pv_cons (v_ireturn (by decide +kernel)) trivial ?_
  exact trivial
def P_Camping_countIn (E : am_E) (k : Nat) : am_P := [(0, aI 0), (1, aSi 2), (2, aI 0), (3, aSi 3), (4, aLi 3), (5, aLa 0), (6, aGet 8 0), (9, aGet 1 0), (12, aCn (fun x y => x < y) 33), (15, aLa 0), (16, aLi 3), (17, aIv E k 8 1 Y_Camping_campOf), (20, aLi 1), (21, aCn (fun x y => x = y) 27), (24, aInc 2 1), (27, aInc 3 1), (30, aGo 4), (33, aLi 2), (34, aRi)]
set_option maxRecDepth 20000 in
theorem pv_Camping_countIn (E : am_E) (k : Nat) : am_pv E k Y_Camping_countIn.2.1 Y_Camping_countIn.2.2.1 Y_Camping_countIn.1.cls (P_Camping_countIn E k) := by
  refine am_pv_cons (v_iconst (n := 0) (by decide +kernel) rfl) rfl ?_
  refine am_pv_cons (v_istore_n (q := 2) (by decide +kernel) rfl) rfl ?_
  refine am_pv_cons (v_iconst (n := 0) (by decide +kernel) rfl) rfl ?_
  refine am_pv_cons (v_istore_n (q := 3) (by decide +kernel) rfl) rfl ?_
  refine am_pv_cons (v_iload_n (q := 3) (by decide +kernel) rfl) rfl ?_
  refine am_pv_cons (v_aload_n (q := 0) (by decide +kernel) rfl) rfl ?_
  refine am_pv_cons (v_get fl_Camping_15 (by decide +kernel)) rfl ?_
  refine am_pv_cons (v_get fl_Camping_46 (by decide +kernel)) rfl ?_
  refine am_pv_cons (v_ic_ge (off := 21) (by decide +kernel) rfl) rfl ?_
  refine am_pv_cons (v_aload_n (q := 0) (by decide +kernel) rfl) rfl ?_
  refine am_pv_cons (v_iload_n (q := 3) (by decide +kernel) rfl) rfl ?_
  refine am_pv_cons (v_virt (idx := 49) yv_Camping_campOf rfl rfl (tb4 58 (by decide +kernel) rfl) (by decide +kernel)) rfl ?_
  refine am_pv_cons (v_iload_n (q := 1) (by decide +kernel) rfl) rfl ?_
  refine am_pv_cons (v_ic_ne (off := 6) (by decide +kernel) rfl) rfl ?_
  refine am_pv_cons (v_iinc (n := 1) (by decide +kernel) (by decide +kernel)) rfl ?_
  refine am_pv_cons (v_iinc (n := 1) (by decide +kernel) (by decide +kernel)) rfl ?_
  refine am_pv_cons (v_goto (off := -26) (by decide +kernel) rfl) rfl ?_
  refine am_pv_cons (v_iload_n (q := 2) (by decide +kernel) rfl) rfl ?_
  refine am_pv_cons (v_ireturn (by decide +kernel)) trivial ?_
  exact trivial
def P_Camping_wrongCount (E : am_E) (k : Nat) : am_P := [(0, aI 0), (1, aSi 1), (2, aI 0), (3, aSi 2), (4, aLi 2), (5, aLa 0), (6, aGet 8 1), (9, aGet 2 0), (12, aCn (fun x y => x < y) 32), (15, aLa 0), (16, aLi 2), (17, aIv E k 8 1 Y_Camping_isWrong), (20, aIf (fun x => x = 0) 26), (23, aInc 1 1), (26, aInc 2 1), (29, aGo 4), (32, aLi 1), (33, aRi)]
set_option maxRecDepth 20000 in
theorem pv_Camping_wrongCount (E : am_E) (k : Nat) : am_pv E k Y_Camping_wrongCount.2.1 Y_Camping_wrongCount.2.2.1 Y_Camping_wrongCount.1.cls (P_Camping_wrongCount E k) := by
  refine am_pv_cons (v_iconst (n := 0) (by decide +kernel) rfl) rfl ?_
  refine am_pv_cons (v_istore_n (q := 1) (by decide +kernel) rfl) rfl ?_
  refine am_pv_cons (v_iconst (n := 0) (by decide +kernel) rfl) rfl ?_
  refine am_pv_cons (v_istore_n (q := 2) (by decide +kernel) rfl) rfl ?_
  refine am_pv_cons (v_iload_n (q := 2) (by decide +kernel) rfl) rfl ?_
  refine am_pv_cons (v_aload_n (q := 0) (by decide +kernel) rfl) rfl ?_
  refine am_pv_cons (v_get fl_Camping_19 (by decide +kernel)) rfl ?_
  refine am_pv_cons (v_get fl_Camping_56 (by decide +kernel)) rfl ?_
  refine am_pv_cons (v_ic_ge (off := 20) (by decide +kernel) rfl) rfl ?_
  refine am_pv_cons (v_aload_n (q := 0) (by decide +kernel) rfl) rfl ?_
  refine am_pv_cons (v_iload_n (q := 2) (by decide +kernel) rfl) rfl ?_
  refine am_pv_cons (v_virt (idx := 59) yv_Camping_isWrong rfl rfl (tb4 66 (by decide +kernel) rfl) (by decide +kernel)) rfl ?_
  refine am_pv_cons (v_if_eq (off := 6) (by decide +kernel) rfl) rfl ?_
  refine am_pv_cons (v_iinc (n := 1) (by decide +kernel) (by decide +kernel)) rfl ?_
  refine am_pv_cons (v_iinc (n := 1) (by decide +kernel) (by decide +kernel)) rfl ?_
  refine am_pv_cons (v_goto (off := -25) (by decide +kernel) rfl) rfl ?_
  refine am_pv_cons (v_iload_n (q := 1) (by decide +kernel) rfl) rfl ?_
  refine am_pv_cons (v_ireturn (by decide +kernel)) trivial ?_
  exact trivial
def P_Camping_isWrong (E : am_E) (k : Nat) : am_P := [(0, aLa 0), (1, aLa 0), (2, aGet 8 1), (5, aGet 2 1), (8, aLi 1), (9, aAld 0), (10, aIv E k 8 1 Y_Camping_campOf), (13, aSi 2), (14, aLa 0), (15, aLa 0), (16, aGet 8 1), (19, aGet 2 2), (22, aLi 1), (23, aAld 0), (24, aIv E k 8 1 Y_Camping_campOf), (27, aSi 3), (28, aLi 2), (29, aI 9), (31, aCf (fun x y => x = y) 65), (34, aLi 3), (35, aI 9), (37, aCf (fun x y => x = y) 65), (40, aLa 0), (41, aGet 8 1), (44, aLi 1), (45, aLi 2), (46, aLi 3), (47, aCn (fun x y => x = y) 54), (50, aI 1), (51, aGo 55), (54, aI 0), (55, aIv E k 2 2 Y_Feelings_isWrong), (58, aIf (fun x => x = 0) 65), (61, aI 1), (62, aGo 66), (65, aI 0), (66, aRi)]
set_option maxRecDepth 20000 in
theorem pv_Camping_isWrong (E : am_E) (k : Nat) : am_pv E k Y_Camping_isWrong.2.1 Y_Camping_isWrong.2.2.1 Y_Camping_isWrong.1.cls (P_Camping_isWrong E k) := by
  refine am_pv_cons (v_aload_n (q := 0) (by decide +kernel) rfl) rfl ?_
  refine am_pv_cons (v_aload_n (q := 0) (by decide +kernel) rfl) rfl ?_
  refine am_pv_cons (v_get fl_Camping_19 (by decide +kernel)) rfl ?_
  refine am_pv_cons (v_get fl_Camping_63 (by decide +kernel)) rfl ?_
  refine am_pv_cons (v_iload_n (q := 1) (by decide +kernel) rfl) rfl ?_
  refine am_pv_cons (v_iald (by decide +kernel)) rfl ?_
  refine am_pv_cons (v_virt (idx := 49) yv_Camping_campOf rfl rfl (tb4 58 (by decide +kernel) rfl) (by decide +kernel)) rfl ?_
  refine am_pv_cons (v_istore_n (q := 2) (by decide +kernel) rfl) rfl ?_
  refine am_pv_cons (v_aload_n (q := 0) (by decide +kernel) rfl) rfl ?_
  refine am_pv_cons (v_aload_n (q := 0) (by decide +kernel) rfl) rfl ?_
  refine am_pv_cons (v_get fl_Camping_19 (by decide +kernel)) rfl ?_
  refine am_pv_cons (v_get fl_Camping_66 (by decide +kernel)) rfl ?_
  refine am_pv_cons (v_iload_n (q := 1) (by decide +kernel) rfl) rfl ?_
  refine am_pv_cons (v_iald (by decide +kernel)) rfl ?_
  refine am_pv_cons (v_virt (idx := 49) yv_Camping_campOf rfl rfl (tb4 58 (by decide +kernel) rfl) (by decide +kernel)) rfl ?_
  refine am_pv_cons (v_istore_n (q := 3) (by decide +kernel) rfl) rfl ?_
  refine am_pv_cons (v_iload_n (q := 2) (by decide +kernel) rfl) rfl ?_
  refine am_pv_cons (v_bipush (n := 9) (by decide +kernel) (by decide +kernel)) rfl ?_
  refine am_pv_cons (v_ic_eq (off := 34) (by decide +kernel) rfl) rfl ?_
  refine am_pv_cons (v_iload_n (q := 3) (by decide +kernel) rfl) rfl ?_
  refine am_pv_cons (v_bipush (n := 9) (by decide +kernel) (by decide +kernel)) rfl ?_
  refine am_pv_cons (v_ic_eq (off := 28) (by decide +kernel) rfl) rfl ?_
  refine am_pv_cons (v_aload_n (q := 0) (by decide +kernel) rfl) rfl ?_
  refine am_pv_cons (v_get fl_Camping_19 (by decide +kernel)) rfl ?_
  refine am_pv_cons (v_iload_n (q := 1) (by decide +kernel) rfl) rfl ?_
  refine am_pv_cons (v_iload_n (q := 2) (by decide +kernel) rfl) rfl ?_
  refine am_pv_cons (v_iload_n (q := 3) (by decide +kernel) rfl) rfl ?_
  refine am_pv_cons (v_ic_ne (off := 7) (by decide +kernel) rfl) rfl ?_
  refine am_pv_cons (v_iconst (n := 1) (by decide +kernel) rfl) rfl ?_
  refine am_pv_cons (v_goto (off := 4) (by decide +kernel) rfl) rfl ?_
  refine am_pv_cons (v_iconst (n := 0) (by decide +kernel) rfl) rfl ?_
  refine am_pv_cons (v_virt (idx := 69) yv_Feelings_isWrong rfl rfl (tb4 70 (by decide +kernel) rfl) (by decide +kernel)) rfl ?_
  refine am_pv_cons (v_if_eq (off := 7) (by decide +kernel) rfl) rfl ?_
  refine am_pv_cons (v_iconst (n := 1) (by decide +kernel) rfl) rfl ?_
  refine am_pv_cons (v_goto (off := 4) (by decide +kernel) rfl) rfl ?_
  refine am_pv_cons (v_iconst (n := 0) (by decide +kernel) rfl) rfl ?_
  refine am_pv_cons (v_ireturn (by decide +kernel)) trivial ?_
  exact trivial
def P_Camping_judged (E : am_E) (k : Nat) : am_P := [(0, aLa 0), (1, aGet 8 2), (4, aIv E k 4 0 Y_Law_weigh), (7, aLa 0), (8, aGet 8 3), (11, aI 2), (12, aIs E k 2 Y_TC_isUnder), (15, aIf (fun x => x = 0) 30), (18, aJ 3), (21, aLa 0), (22, aIv E k 8 0 Y_Camping_usedCamps), (25, aI2L), (26, aBJ (fun x y => x * y)), (27, aGo 31), (30, aJ 0), (31, aSj 1), (32, aI 0), (33, aSi 3), (34, aLi 3), (35, aLa 0), (36, aGet 8 1), (39, aGet 2 0), (42, aCn (fun x y => x < y) 67), (45, aLa 0), (46, aLi 3), (47, aIv E k 8 1 Y_Camping_isWrong), (50, aIf (fun x => x = 0) 61), (53, aLj 1), (54, aLa 0), (55, aLi 3), (56, aIv E k 8 1 Y_Camping_costOfWrong), (59, aBJ (fun x y => x + y)), (60, aSj 1), (61, aInc 3 1), (64, aGo 34), (67, aI 0), (68, aSi 3), (69, aLi 3), (70, aLa 0), (71, aGet 8 0), (74, aGet 1 0), (77, aCn (fun x y => x < y) 94), (80, aLj 1), (81, aLa 0), (82, aLi 3), (83, aIv E k 8 1 Y_Camping_costOfPerson), (86, aBJ (fun x y => x + y)), (87, aSj 1), (88, aInc 3 1), (91, aGo 69), (94, aLj 1), (95, aRl)]
set_option maxRecDepth 20000 in
theorem pv_Camping_judged (E : am_E) (k : Nat) : am_pv E k Y_Camping_judged.2.1 Y_Camping_judged.2.2.1 Y_Camping_judged.1.cls (P_Camping_judged E k) := by
  refine am_pv_cons (v_aload_n (q := 0) (by decide +kernel) rfl) rfl ?_
  refine am_pv_cons (v_get fl_Camping_23 (by decide +kernel)) rfl ?_
  refine am_pv_cons (v_virt (idx := 72) yv_Law_weigh rfl rfl (tb4 83 (by decide +kernel) rfl) (by decide +kernel)) rfl ?_
  refine am_pv_cons (v_aload_n (q := 0) (by decide +kernel) rfl) rfl ?_
  refine am_pv_cons (v_get fl_Camping_27 (by decide +kernel)) rfl ?_
  refine am_pv_cons (v_iconst (n := 2) (by decide +kernel) rfl) rfl ?_
  refine am_pv_cons (v_statN (idx := 77) (host := "TwoCamps") ys_TC_isUnder (List.mem_of_getElem? (i := 5) (by decide +kernel)) (by decide +kernel)) rfl ?_
  refine am_pv_cons (v_if_eq (off := 15) (by decide +kernel) rfl) rfl ?_
  refine am_pv_cons (v_ldc2 (i := 81) (tb4 94 (by decide +kernel) rfl) (by decide +kernel)) rfl ?_
  refine am_pv_cons (v_aload_n (q := 0) (by decide +kernel) rfl) rfl ?_
  refine am_pv_cons (v_virt (idx := 83) yv_Camping_usedCamps rfl rfl (tb4 95 (by decide +kernel) rfl) (by decide +kernel)) rfl ?_
  refine am_pv_cons (v_i2l (by decide +kernel)) rfl ?_
  refine am_pv_cons (v_lmul (by decide +kernel)) rfl ?_
  refine am_pv_cons (v_goto (off := 4) (by decide +kernel) rfl) rfl ?_
  refine am_pv_cons (v_lconst (n := 0) (by decide +kernel) rfl) rfl ?_
  refine am_pv_cons (v_lstore_n (q := 1) (by decide +kernel) rfl) rfl ?_
  refine am_pv_cons (v_iconst (n := 0) (by decide +kernel) rfl) rfl ?_
  refine am_pv_cons (v_istore_n (q := 3) (by decide +kernel) rfl) rfl ?_
  refine am_pv_cons (v_iload_n (q := 3) (by decide +kernel) rfl) rfl ?_
  refine am_pv_cons (v_aload_n (q := 0) (by decide +kernel) rfl) rfl ?_
  refine am_pv_cons (v_get fl_Camping_19 (by decide +kernel)) rfl ?_
  refine am_pv_cons (v_get fl_Camping_56 (by decide +kernel)) rfl ?_
  refine am_pv_cons (v_ic_ge (off := 25) (by decide +kernel) rfl) rfl ?_
  refine am_pv_cons (v_aload_n (q := 0) (by decide +kernel) rfl) rfl ?_
  refine am_pv_cons (v_iload_n (q := 3) (by decide +kernel) rfl) rfl ?_
  refine am_pv_cons (v_virt (idx := 59) yv_Camping_isWrong rfl rfl (tb4 66 (by decide +kernel) rfl) (by decide +kernel)) rfl ?_
  refine am_pv_cons (v_if_eq (off := 11) (by decide +kernel) rfl) rfl ?_
  refine am_pv_cons (v_lload_n (q := 1) (by decide +kernel) rfl) rfl ?_
  refine am_pv_cons (v_aload_n (q := 0) (by decide +kernel) rfl) rfl ?_
  refine am_pv_cons (v_iload_n (q := 3) (by decide +kernel) rfl) rfl ?_
  refine am_pv_cons (v_virt (idx := 87) yv_Camping_costOfWrong rfl rfl (tb4 96 (by decide +kernel) rfl) (by decide +kernel)) rfl ?_
  refine am_pv_cons (v_ladd (by decide +kernel)) rfl ?_
  refine am_pv_cons (v_lstore_n (q := 1) (by decide +kernel) rfl) rfl ?_
  refine am_pv_cons (v_iinc (n := 1) (by decide +kernel) (by decide +kernel)) rfl ?_
  refine am_pv_cons (v_goto (off := -30) (by decide +kernel) rfl) rfl ?_
  refine am_pv_cons (v_iconst (n := 0) (by decide +kernel) rfl) rfl ?_
  refine am_pv_cons (v_istore_n (q := 3) (by decide +kernel) rfl) rfl ?_
  refine am_pv_cons (v_iload_n (q := 3) (by decide +kernel) rfl) rfl ?_
  refine am_pv_cons (v_aload_n (q := 0) (by decide +kernel) rfl) rfl ?_
  refine am_pv_cons (v_get fl_Camping_15 (by decide +kernel)) rfl ?_
  refine am_pv_cons (v_get fl_Camping_46 (by decide +kernel)) rfl ?_
  refine am_pv_cons (v_ic_ge (off := 17) (by decide +kernel) rfl) rfl ?_
  refine am_pv_cons (v_lload_n (q := 1) (by decide +kernel) rfl) rfl ?_
  refine am_pv_cons (v_aload_n (q := 0) (by decide +kernel) rfl) rfl ?_
  refine am_pv_cons (v_iload_n (q := 3) (by decide +kernel) rfl) rfl ?_
  refine am_pv_cons (v_virt (idx := 91) yv_Camping_costOfPerson rfl rfl (tb4 101 (by decide +kernel) rfl) (by decide +kernel)) rfl ?_
  refine am_pv_cons (v_ladd (by decide +kernel)) rfl ?_
  refine am_pv_cons (v_lstore_n (q := 1) (by decide +kernel) rfl) rfl ?_
  refine am_pv_cons (v_iinc (n := 1) (by decide +kernel) (by decide +kernel)) rfl ?_
  refine am_pv_cons (v_goto (off := -22) (by decide +kernel) rfl) rfl ?_
  refine am_pv_cons (v_lload_n (q := 1) (by decide +kernel) rfl) rfl ?_
  refine am_pv_cons (v_lreturn (by decide +kernel)) trivial ?_
  exact trivial
def P_Camping_costOfWrong (E : am_E) (k : Nat) : am_P := [(0, aLa 0), (1, aGet 8 3), (4, aI 3), (5, aIs E k 2 Y_TC_isUnder), (8, aIf (fun x => x = 0) 27), (11, aLa 0), (12, aGet 8 1), (15, aGet 2 3), (18, aLi 1), (19, aAld 0), (20, aIn (fun x => x < 0) 27), (23, aI 1), (24, aGo 28), (27, aI 0), (28, aSi 2), (29, aLi 2), (30, aIf (fun x => x = 0) 47), (33, aLa 0), (34, aGet 8 2), (37, aGet 4 4), (40, aLi 1), (41, aAld 0), (42, aI 2), (43, aDv (fun x y => x / y)), (44, aGo 56), (47, aLa 0), (48, aGet 8 2), (51, aGet 4 4), (54, aLi 1), (55, aAld 0), (56, aSi 3), (57, aLa 0), (58, aGet 8 2), (61, aGet 4 5), (64, aLi 1), (65, aAld 1), (66, aIf (fun x => x = 0) 74), (69, aLi 3), (70, aI2L), (71, aGo 79), (74, aLi 3), (75, aI 100000), (77, aB (fun x y => x + y)), (78, aI2L), (79, aRl)]
set_option maxRecDepth 20000 in
theorem pv_Camping_costOfWrong (E : am_E) (k : Nat) : am_pv E k Y_Camping_costOfWrong.2.1 Y_Camping_costOfWrong.2.2.1 Y_Camping_costOfWrong.1.cls (P_Camping_costOfWrong E k) := by
  refine am_pv_cons (v_aload_n (q := 0) (by decide +kernel) rfl) rfl ?_
  refine am_pv_cons (v_get fl_Camping_27 (by decide +kernel)) rfl ?_
  refine am_pv_cons (v_iconst (n := 3) (by decide +kernel) rfl) rfl ?_
  refine am_pv_cons (v_statN (idx := 77) (host := "TwoCamps") ys_TC_isUnder (List.mem_of_getElem? (i := 5) (by decide +kernel)) (by decide +kernel)) rfl ?_
  refine am_pv_cons (v_if_eq (off := 19) (by decide +kernel) rfl) rfl ?_
  refine am_pv_cons (v_aload_n (q := 0) (by decide +kernel) rfl) rfl ?_
  refine am_pv_cons (v_get fl_Camping_19 (by decide +kernel)) rfl ?_
  refine am_pv_cons (v_get fl_Camping_94 (by decide +kernel)) rfl ?_
  refine am_pv_cons (v_iload_n (q := 1) (by decide +kernel) rfl) rfl ?_
  refine am_pv_cons (v_iald (by decide +kernel)) rfl ?_
  refine am_pv_cons (v_if_ge (off := 7) (by decide +kernel) rfl) rfl ?_
  refine am_pv_cons (v_iconst (n := 1) (by decide +kernel) rfl) rfl ?_
  refine am_pv_cons (v_goto (off := 4) (by decide +kernel) rfl) rfl ?_
  refine am_pv_cons (v_iconst (n := 0) (by decide +kernel) rfl) rfl ?_
  refine am_pv_cons (v_istore_n (q := 2) (by decide +kernel) rfl) rfl ?_
  refine am_pv_cons (v_iload_n (q := 2) (by decide +kernel) rfl) rfl ?_
  refine am_pv_cons (v_if_eq (off := 17) (by decide +kernel) rfl) rfl ?_
  refine am_pv_cons (v_aload_n (q := 0) (by decide +kernel) rfl) rfl ?_
  refine am_pv_cons (v_get fl_Camping_23 (by decide +kernel)) rfl ?_
  refine am_pv_cons (v_get fl_Camping_97 (by decide +kernel)) rfl ?_
  refine am_pv_cons (v_iload_n (q := 1) (by decide +kernel) rfl) rfl ?_
  refine am_pv_cons (v_iald (by decide +kernel)) rfl ?_
  refine am_pv_cons (v_iconst (n := 2) (by decide +kernel) rfl) rfl ?_
  refine am_pv_cons (v_idiv (by decide +kernel)) rfl ?_
  refine am_pv_cons (v_goto (off := 12) (by decide +kernel) rfl) rfl ?_
  refine am_pv_cons (v_aload_n (q := 0) (by decide +kernel) rfl) rfl ?_
  refine am_pv_cons (v_get fl_Camping_23 (by decide +kernel)) rfl ?_
  refine am_pv_cons (v_get fl_Camping_97 (by decide +kernel)) rfl ?_
  refine am_pv_cons (v_iload_n (q := 1) (by decide +kernel) rfl) rfl ?_
  refine am_pv_cons (v_iald (by decide +kernel)) rfl ?_
  refine am_pv_cons (v_istore_n (q := 3) (by decide +kernel) rfl) rfl ?_
  refine am_pv_cons (v_aload_n (q := 0) (by decide +kernel) rfl) rfl ?_
  refine am_pv_cons (v_get fl_Camping_23 (by decide +kernel)) rfl ?_
  refine am_pv_cons (v_get fl_Camping_100 (by decide +kernel)) rfl ?_
  refine am_pv_cons (v_iload_n (q := 1) (by decide +kernel) rfl) rfl ?_
  refine am_pv_cons (v_zald (by decide +kernel)) rfl ?_
  refine am_pv_cons (v_if_eq (off := 8) (by decide +kernel) rfl) rfl ?_
  refine am_pv_cons (v_iload_n (q := 3) (by decide +kernel) rfl) rfl ?_
  refine am_pv_cons (v_i2l (by decide +kernel)) rfl ?_
  refine am_pv_cons (v_goto (off := 8) (by decide +kernel) rfl) rfl ?_
  refine am_pv_cons (v_iload_n (q := 3) (by decide +kernel) rfl) rfl ?_
  refine am_pv_cons (v_ldc (i := 104) (tb4 100 (by decide +kernel) rfl) (by decide +kernel)) rfl ?_
  refine am_pv_cons (v_iadd (by decide +kernel)) rfl ?_
  refine am_pv_cons (v_i2l (by decide +kernel)) rfl ?_
  refine am_pv_cons (v_lreturn (by decide +kernel)) trivial ?_
  exact trivial
def P_Camping_costOfPerson (E : am_E) (k : Nat) : am_P := [(0, aLa 0), (1, aLi 1), (2, aIv E k 8 1 Y_Camping_campOf), (5, aSi 2), (6, aI 0), (7, aSi 3), (8, aLi 2), (9, aI 9), (11, aCn (fun x y => x = y) 43), (14, aLi 3), (15, aLa 0), (16, aGet 8 3), (19, aI 4), (20, aIs E k 2 Y_TC_isUnder), (23, aIf (fun x => x = 0) 38), (26, aLa 0), (27, aGet 8 0), (30, aGet 1 1), (33, aLi 1), (34, aAld 0), (35, aGo 41), (38, aI 7000), (41, aB (fun x y => x + y)), (42, aSi 3), (43, aLa 0), (44, aGet 8 3), (47, aI 1), (48, aIs E k 2 Y_TC_isUnder), (51, aIf (fun x => x = 0) 70), (54, aLi 2), (55, aI 2), (56, aCf (fun x y => x = y) 64), (59, aLi 2), (60, aI 3), (61, aCn (fun x y => x = y) 70), (64, aInc 3 5000), (70, aLa 0), (71, aGet 8 0), (74, aGet 1 2), (77, aLi 1), (78, aAld 0), (79, aSi 4), (81, aLa 0), (82, aGet 8 3), (85, aI 5), (86, aIs E k 2 Y_TC_isUnder), (89, aIf (fun x => x = 0) 107), (92, aLi 4), (94, aI (-1)), (95, aCf (fun x y => x = y) 107), (98, aLi 4), (100, aLi 2), (101, aCf (fun x y => x = y) 107), (104, aInc 3 50), (107, aLi 3), (108, aI2L), (109, aRl)]
set_option maxRecDepth 20000 in
theorem pv_Camping_costOfPerson (E : am_E) (k : Nat) : am_pv E k Y_Camping_costOfPerson.2.1 Y_Camping_costOfPerson.2.2.1 Y_Camping_costOfPerson.1.cls (P_Camping_costOfPerson E k) := by
  refine am_pv_cons (v_aload_n (q := 0) (by decide +kernel) rfl) rfl ?_
  refine am_pv_cons (v_iload_n (q := 1) (by decide +kernel) rfl) rfl ?_
  refine am_pv_cons (v_virt (idx := 49) yv_Camping_campOf rfl rfl (tb4 58 (by decide +kernel) rfl) (by decide +kernel)) rfl ?_
  refine am_pv_cons (v_istore_n (q := 2) (by decide +kernel) rfl) rfl ?_
  refine am_pv_cons (v_iconst (n := 0) (by decide +kernel) rfl) rfl ?_
  refine am_pv_cons (v_istore_n (q := 3) (by decide +kernel) rfl) rfl ?_
  refine am_pv_cons (v_iload_n (q := 2) (by decide +kernel) rfl) rfl ?_
  refine am_pv_cons (v_bipush (n := 9) (by decide +kernel) (by decide +kernel)) rfl ?_
  refine am_pv_cons (v_ic_ne (off := 32) (by decide +kernel) rfl) rfl ?_
  refine am_pv_cons (v_iload_n (q := 3) (by decide +kernel) rfl) rfl ?_
  refine am_pv_cons (v_aload_n (q := 0) (by decide +kernel) rfl) rfl ?_
  refine am_pv_cons (v_get fl_Camping_27 (by decide +kernel)) rfl ?_
  refine am_pv_cons (v_iconst (n := 4) (by decide +kernel) rfl) rfl ?_
  refine am_pv_cons (v_statN (idx := 77) (host := "TwoCamps") ys_TC_isUnder (List.mem_of_getElem? (i := 5) (by decide +kernel)) (by decide +kernel)) rfl ?_
  refine am_pv_cons (v_if_eq (off := 15) (by decide +kernel) rfl) rfl ?_
  refine am_pv_cons (v_aload_n (q := 0) (by decide +kernel) rfl) rfl ?_
  refine am_pv_cons (v_get fl_Camping_15 (by decide +kernel)) rfl ?_
  refine am_pv_cons (v_get fl_Camping_105 (by decide +kernel)) rfl ?_
  refine am_pv_cons (v_iload_n (q := 1) (by decide +kernel) rfl) rfl ?_
  refine am_pv_cons (v_iald (by decide +kernel)) rfl ?_
  refine am_pv_cons (v_goto (off := 6) (by decide +kernel) rfl) rfl ?_
  refine am_pv_cons (v_sipush (n := 7000) (by decide +kernel) (by decide +kernel)) rfl ?_
  refine am_pv_cons (v_iadd (by decide +kernel)) rfl ?_
  refine am_pv_cons (v_istore_n (q := 3) (by decide +kernel) rfl) rfl ?_
  refine am_pv_cons (v_aload_n (q := 0) (by decide +kernel) rfl) rfl ?_
  refine am_pv_cons (v_get fl_Camping_27 (by decide +kernel)) rfl ?_
  refine am_pv_cons (v_iconst (n := 1) (by decide +kernel) rfl) rfl ?_
  refine am_pv_cons (v_statN (idx := 77) (host := "TwoCamps") ys_TC_isUnder (List.mem_of_getElem? (i := 5) (by decide +kernel)) (by decide +kernel)) rfl ?_
  refine am_pv_cons (v_if_eq (off := 19) (by decide +kernel) rfl) rfl ?_
  refine am_pv_cons (v_iload_n (q := 2) (by decide +kernel) rfl) rfl ?_
  refine am_pv_cons (v_iconst (n := 2) (by decide +kernel) rfl) rfl ?_
  refine am_pv_cons (v_ic_eq (off := 8) (by decide +kernel) rfl) rfl ?_
  refine am_pv_cons (v_iload_n (q := 2) (by decide +kernel) rfl) rfl ?_
  refine am_pv_cons (v_iconst (n := 3) (by decide +kernel) rfl) rfl ?_
  refine am_pv_cons (v_ic_ne (off := 9) (by decide +kernel) rfl) rfl ?_
  refine am_pv_cons (v_iincW (n := 5000) (by decide +kernel) (by decide +kernel)) rfl ?_
  refine am_pv_cons (v_aload_n (q := 0) (by decide +kernel) rfl) rfl ?_
  refine am_pv_cons (v_get fl_Camping_15 (by decide +kernel)) rfl ?_
  refine am_pv_cons (v_get fl_Camping_108 (by decide +kernel)) rfl ?_
  refine am_pv_cons (v_iload_n (q := 1) (by decide +kernel) rfl) rfl ?_
  refine am_pv_cons (v_iald (by decide +kernel)) rfl ?_
  refine am_pv_cons (v_istore (by decide +kernel)) rfl ?_
  refine am_pv_cons (v_aload_n (q := 0) (by decide +kernel) rfl) rfl ?_
  refine am_pv_cons (v_get fl_Camping_27 (by decide +kernel)) rfl ?_
  refine am_pv_cons (v_iconst (n := 5) (by decide +kernel) rfl) rfl ?_
  refine am_pv_cons (v_statN (idx := 77) (host := "TwoCamps") ys_TC_isUnder (List.mem_of_getElem? (i := 5) (by decide +kernel)) (by decide +kernel)) rfl ?_
  refine am_pv_cons (v_if_eq (off := 18) (by decide +kernel) rfl) rfl ?_
  refine am_pv_cons (v_iload (by decide +kernel)) rfl ?_
  refine am_pv_cons (v_iconst (n := -1) (by decide +kernel) rfl) rfl ?_
  refine am_pv_cons (v_ic_eq (off := 12) (by decide +kernel) rfl) rfl ?_
  refine am_pv_cons (v_iload (by decide +kernel)) rfl ?_
  refine am_pv_cons (v_iload_n (q := 2) (by decide +kernel) rfl) rfl ?_
  refine am_pv_cons (v_ic_eq (off := 6) (by decide +kernel) rfl) rfl ?_
  refine am_pv_cons (v_iinc (n := 50) (by decide +kernel) (by decide +kernel)) rfl ?_
  refine am_pv_cons (v_iload_n (q := 3) (by decide +kernel) rfl) rfl ?_
  refine am_pv_cons (v_i2l (by decide +kernel)) rfl ?_
  refine am_pv_cons (v_lreturn (by decide +kernel)) trivial ?_
  exact trivial
def P_Net_leastOf (E : am_E) (k : Nat) : am_P := [(0, aLa 0), (1, aLi 1), (2, aI 0), (3, aIv E k 9 2 Y_Net_reach), (6, aSi 2), (7, aI 0), (8, aSi 3), (9, aI 0), (10, aSi 4), (12, aLi 4), (14, aLi 1), (15, aCn (fun x y => x < y) 35), (18, aLi 2), (19, aLi 3), (20, aB (fun x y => x >>> (y &&& 31))), (21, aI 1), (22, aB (fun x y => x &&& y)), (23, aIn (fun x => x = 0) 35), (26, aInc 3 1), (29, aInc 4 1), (32, aGo 12), (35, aLi 3), (36, aRi)]
set_option maxRecDepth 20000 in
theorem pv_Net_leastOf (E : am_E) (k : Nat) : am_pv E k Y_Net_leastOf.2.1 Y_Net_leastOf.2.2.1 Y_Net_leastOf.1.cls (P_Net_leastOf E k) := by
  refine am_pv_cons (v_aload_n (q := 0) (by decide +kernel) rfl) rfl ?_
  refine am_pv_cons (v_iload_n (q := 1) (by decide +kernel) rfl) rfl ?_
  refine am_pv_cons (v_iconst (n := 0) (by decide +kernel) rfl) rfl ?_
  refine am_pv_cons (v_virt (idx := 32) yv_Net_reach rfl rfl (tb4 153 (by decide +kernel) rfl) (by decide +kernel)) rfl ?_
  refine am_pv_cons (v_istore_n (q := 2) (by decide +kernel) rfl) rfl ?_
  refine am_pv_cons (v_iconst (n := 0) (by decide +kernel) rfl) rfl ?_
  refine am_pv_cons (v_istore_n (q := 3) (by decide +kernel) rfl) rfl ?_
  refine am_pv_cons (v_iconst (n := 0) (by decide +kernel) rfl) rfl ?_
  refine am_pv_cons (v_istore (by decide +kernel)) rfl ?_
  refine am_pv_cons (v_iload (by decide +kernel)) rfl ?_
  refine am_pv_cons (v_iload_n (q := 1) (by decide +kernel) rfl) rfl ?_
  refine am_pv_cons (v_ic_ge (off := 20) (by decide +kernel) rfl) rfl ?_
  refine am_pv_cons (v_iload_n (q := 2) (by decide +kernel) rfl) rfl ?_
  refine am_pv_cons (v_iload_n (q := 3) (by decide +kernel) rfl) rfl ?_
  refine am_pv_cons (v_ishr (by decide +kernel)) rfl ?_
  refine am_pv_cons (v_iconst (n := 1) (by decide +kernel) rfl) rfl ?_
  refine am_pv_cons (v_iand (by decide +kernel)) rfl ?_
  refine am_pv_cons (v_if_ne (off := 12) (by decide +kernel) rfl) rfl ?_
  refine am_pv_cons (v_iinc (n := 1) (by decide +kernel) (by decide +kernel)) rfl ?_
  refine am_pv_cons (v_iinc (n := 1) (by decide +kernel) (by decide +kernel)) rfl ?_
  refine am_pv_cons (v_goto (off := -20) (by decide +kernel) rfl) rfl ?_
  refine am_pv_cons (v_iload_n (q := 3) (by decide +kernel) rfl) rfl ?_
  refine am_pv_cons (v_ireturn (by decide +kernel)) trivial ?_
  exact trivial
def P_Net_countWithout (E : am_E) (k : Nat) : am_P := [(0, aLi 1), (1, aSi 2), (2, aI 0), (3, aSi 3), (4, aI 0), (5, aSi 4), (7, aLi 4), (9, aLa 0), (10, aGet 9 0), (13, aGet 1 0), (16, aCn (fun x y => x < y) 47), (19, aLi 2), (20, aLi 4), (22, aB (fun x y => x >>> (y &&& 31))), (23, aI 1), (24, aB (fun x y => x &&& y)), (25, aIn (fun x => x = 0) 41), (28, aLi 2), (29, aLa 0), (30, aLi 4), (32, aLi 1), (33, aIv E k 9 2 Y_Net_reach), (36, aB (fun x y => x ||| y)), (37, aSi 2), (38, aInc 3 1), (41, aInc 4 1), (44, aGo 7), (47, aLi 3), (48, aRi)]
set_option maxRecDepth 20000 in
theorem pv_Net_countWithout (E : am_E) (k : Nat) : am_pv E k Y_Net_countWithout.2.1 Y_Net_countWithout.2.2.1 Y_Net_countWithout.1.cls (P_Net_countWithout E k) := by
  refine am_pv_cons (v_iload_n (q := 1) (by decide +kernel) rfl) rfl ?_
  refine am_pv_cons (v_istore_n (q := 2) (by decide +kernel) rfl) rfl ?_
  refine am_pv_cons (v_iconst (n := 0) (by decide +kernel) rfl) rfl ?_
  refine am_pv_cons (v_istore_n (q := 3) (by decide +kernel) rfl) rfl ?_
  refine am_pv_cons (v_iconst (n := 0) (by decide +kernel) rfl) rfl ?_
  refine am_pv_cons (v_istore (by decide +kernel)) rfl ?_
  refine am_pv_cons (v_iload (by decide +kernel)) rfl ?_
  refine am_pv_cons (v_aload_n (q := 0) (by decide +kernel) rfl) rfl ?_
  refine am_pv_cons (v_get fl_Net_24 (by decide +kernel)) rfl ?_
  refine am_pv_cons (v_get fl_Net_36 (by decide +kernel)) rfl ?_
  refine am_pv_cons (v_ic_ge (off := 31) (by decide +kernel) rfl) rfl ?_
  refine am_pv_cons (v_iload_n (q := 2) (by decide +kernel) rfl) rfl ?_
  refine am_pv_cons (v_iload (by decide +kernel)) rfl ?_
  refine am_pv_cons (v_ishr (by decide +kernel)) rfl ?_
  refine am_pv_cons (v_iconst (n := 1) (by decide +kernel) rfl) rfl ?_
  refine am_pv_cons (v_iand (by decide +kernel)) rfl ?_
  refine am_pv_cons (v_if_ne (off := 16) (by decide +kernel) rfl) rfl ?_
  refine am_pv_cons (v_iload_n (q := 2) (by decide +kernel) rfl) rfl ?_
  refine am_pv_cons (v_aload_n (q := 0) (by decide +kernel) rfl) rfl ?_
  refine am_pv_cons (v_iload (by decide +kernel)) rfl ?_
  refine am_pv_cons (v_iload_n (q := 1) (by decide +kernel) rfl) rfl ?_
  refine am_pv_cons (v_virt (idx := 32) yv_Net_reach rfl rfl (tb4 153 (by decide +kernel) rfl) (by decide +kernel)) rfl ?_
  refine am_pv_cons (v_ior (by decide +kernel)) rfl ?_
  refine am_pv_cons (v_istore_n (q := 2) (by decide +kernel) rfl) rfl ?_
  refine am_pv_cons (v_iinc (n := 1) (by decide +kernel) (by decide +kernel)) rfl ?_
  refine am_pv_cons (v_iinc (n := 1) (by decide +kernel) (by decide +kernel)) rfl ?_
  refine am_pv_cons (v_goto (off := -37) (by decide +kernel) rfl) rfl ?_
  refine am_pv_cons (v_iload_n (q := 3) (by decide +kernel) rfl) rfl ?_
  refine am_pv_cons (v_ireturn (by decide +kernel)) trivial ?_
  exact trivial
def P_Net_reach (E : am_E) (k : Nat) : am_P := [(0, aI 1), (1, aLi 1), (2, aB (fun x y => x <<< (y &&& 31))), (3, aSi 3), (4, aI 0), (5, aSi 4), (7, aI 0), (8, aSi 5), (10, aLi 5), (12, aI 9), (14, aCn (fun x y => x < y) 83), (17, aLi 3), (18, aLi 4), (20, aCf (fun x y => x = y) 83), (23, aLi 3), (24, aSi 4), (26, aI 0), (27, aSi 6), (29, aLi 6), (31, aLa 0), (32, aGet 9 1), (35, aGet 2 0), (38, aCn (fun x y => x < y) 77), (41, aLa 0), (42, aGet 9 1), (45, aLi 6), (47, aIv E k 2 1 Y_Feelings_bitsOf), (50, aSi 7), (52, aLi 7), (54, aLi 2), (55, aB (fun x y => x &&& y)), (56, aIn (fun x => x = 0) 71), (59, aLi 7), (61, aLi 3), (62, aB (fun x y => x &&& y)), (63, aIf (fun x => x = 0) 71), (66, aLi 3), (67, aLi 7), (69, aB (fun x y => x ||| y)), (70, aSi 3), (71, aInc 6 1), (74, aGo 29), (77, aInc 5 1), (80, aGo 10), (83, aLi 3), (84, aRi)]
set_option maxRecDepth 20000 in
theorem pv_Net_reach (E : am_E) (k : Nat) : am_pv E k Y_Net_reach.2.1 Y_Net_reach.2.2.1 Y_Net_reach.1.cls (P_Net_reach E k) := by
  refine am_pv_cons (v_iconst (n := 1) (by decide +kernel) rfl) rfl ?_
  refine am_pv_cons (v_iload_n (q := 1) (by decide +kernel) rfl) rfl ?_
  refine am_pv_cons (v_ishl (by decide +kernel)) rfl ?_
  refine am_pv_cons (v_istore_n (q := 3) (by decide +kernel) rfl) rfl ?_
  refine am_pv_cons (v_iconst (n := 0) (by decide +kernel) rfl) rfl ?_
  refine am_pv_cons (v_istore (by decide +kernel)) rfl ?_
  refine am_pv_cons (v_iconst (n := 0) (by decide +kernel) rfl) rfl ?_
  refine am_pv_cons (v_istore (by decide +kernel)) rfl ?_
  refine am_pv_cons (v_iload (by decide +kernel)) rfl ?_
  refine am_pv_cons (v_bipush (n := 9) (by decide +kernel) (by decide +kernel)) rfl ?_
  refine am_pv_cons (v_ic_ge (off := 69) (by decide +kernel) rfl) rfl ?_
  refine am_pv_cons (v_iload_n (q := 3) (by decide +kernel) rfl) rfl ?_
  refine am_pv_cons (v_iload (by decide +kernel)) rfl ?_
  refine am_pv_cons (v_ic_eq (off := 63) (by decide +kernel) rfl) rfl ?_
  refine am_pv_cons (v_iload_n (q := 3) (by decide +kernel) rfl) rfl ?_
  refine am_pv_cons (v_istore (by decide +kernel)) rfl ?_
  refine am_pv_cons (v_iconst (n := 0) (by decide +kernel) rfl) rfl ?_
  refine am_pv_cons (v_istore (by decide +kernel)) rfl ?_
  refine am_pv_cons (v_iload (by decide +kernel)) rfl ?_
  refine am_pv_cons (v_aload_n (q := 0) (by decide +kernel) rfl) rfl ?_
  refine am_pv_cons (v_get fl_Net_28 (by decide +kernel)) rfl ?_
  refine am_pv_cons (v_get fl_Net_42 (by decide +kernel)) rfl ?_
  refine am_pv_cons (v_ic_ge (off := 39) (by decide +kernel) rfl) rfl ?_
  refine am_pv_cons (v_aload_n (q := 0) (by decide +kernel) rfl) rfl ?_
  refine am_pv_cons (v_get fl_Net_28 (by decide +kernel)) rfl ?_
  refine am_pv_cons (v_iload (by decide +kernel)) rfl ?_
  refine am_pv_cons (v_virt (idx := 45) yv_Feelings_bitsOf rfl rfl (tb4 135 (by decide +kernel) rfl) (by decide +kernel)) rfl ?_
  refine am_pv_cons (v_istore (by decide +kernel)) rfl ?_
  refine am_pv_cons (v_iload (by decide +kernel)) rfl ?_
  refine am_pv_cons (v_iload_n (q := 2) (by decide +kernel) rfl) rfl ?_
  refine am_pv_cons (v_iand (by decide +kernel)) rfl ?_
  refine am_pv_cons (v_if_ne (off := 15) (by decide +kernel) rfl) rfl ?_
  refine am_pv_cons (v_iload (by decide +kernel)) rfl ?_
  refine am_pv_cons (v_iload_n (q := 3) (by decide +kernel) rfl) rfl ?_
  refine am_pv_cons (v_iand (by decide +kernel)) rfl ?_
  refine am_pv_cons (v_if_eq (off := 8) (by decide +kernel) rfl) rfl ?_
  refine am_pv_cons (v_iload_n (q := 3) (by decide +kernel) rfl) rfl ?_
  refine am_pv_cons (v_iload (by decide +kernel)) rfl ?_
  refine am_pv_cons (v_ior (by decide +kernel)) rfl ?_
  refine am_pv_cons (v_istore_n (q := 3) (by decide +kernel) rfl) rfl ?_
  refine am_pv_cons (v_iinc (n := 1) (by decide +kernel) (by decide +kernel)) rfl ?_
  refine am_pv_cons (v_goto (off := -45) (by decide +kernel) rfl) rfl ?_
  refine am_pv_cons (v_iinc (n := 1) (by decide +kernel) (by decide +kernel)) rfl ?_
  refine am_pv_cons (v_goto (off := -70) (by decide +kernel) rfl) rfl ?_
  refine am_pv_cons (v_iload_n (q := 3) (by decide +kernel) rfl) rfl ?_
  refine am_pv_cons (v_ireturn (by decide +kernel)) trivial ?_
  exact trivial
def P_Net_peaceWithout (E : am_E) (k : Nat) : am_P := [(0, aLi 1), (1, aSi 2), (2, aI 0), (3, aSi 3), (4, aI 0), (5, aSi 4), (7, aLi 4), (9, aLa 0), (10, aGet 9 0), (13, aGet 1 0), (16, aCn (fun x y => x < y) 54), (19, aLi 2), (20, aLi 4), (22, aB (fun x y => x >>> (y &&& 31))), (23, aI 1), (24, aB (fun x y => x &&& y)), (25, aIn (fun x => x = 0) 48), (28, aLi 3), (29, aLa 0), (30, aLi 4), (32, aLi 1), (33, aIv E k 9 2 Y_Net_forcedBy), (36, aB (fun x y => x ||| y)), (37, aSi 3), (38, aLi 2), (39, aLa 0), (40, aLi 4), (42, aLi 1), (43, aIv E k 9 2 Y_Net_reach), (46, aB (fun x y => x ||| y)), (47, aSi 2), (48, aInc 4 1), (51, aGo 7), (54, aI 0), (55, aSi 4), (57, aLi 4), (59, aLa 0), (60, aGet 9 1), (63, aGet 2 0), (66, aCn (fun x y => x < y) 104), (69, aLa 0), (70, aGet 9 1), (73, aLi 4), (75, aIv E k 2 1 Y_Feelings_bitsOf), (78, aLi 1), (79, aB (fun x y => x &&& y)), (80, aIn (fun x => x = 0) 98), (83, aLa 0), (84, aGet 9 1), (87, aLi 4), (89, aLi 3), (90, aIv E k 2 2 Y_Feelings_isWrongIn), (93, aIf (fun x => x = 0) 98), (96, aI (-1)), (97, aRi), (98, aInc 4 1), (101, aGo 57), (104, aLi 3), (105, aRi)]
set_option maxRecDepth 20000 in
theorem pv_Net_peaceWithout (E : am_E) (k : Nat) : am_pv E k Y_Net_peaceWithout.2.1 Y_Net_peaceWithout.2.2.1 Y_Net_peaceWithout.1.cls (P_Net_peaceWithout E k) := by
  refine am_pv_cons (v_iload_n (q := 1) (by decide +kernel) rfl) rfl ?_
  refine am_pv_cons (v_istore_n (q := 2) (by decide +kernel) rfl) rfl ?_
  refine am_pv_cons (v_iconst (n := 0) (by decide +kernel) rfl) rfl ?_
  refine am_pv_cons (v_istore_n (q := 3) (by decide +kernel) rfl) rfl ?_
  refine am_pv_cons (v_iconst (n := 0) (by decide +kernel) rfl) rfl ?_
  refine am_pv_cons (v_istore (by decide +kernel)) rfl ?_
  refine am_pv_cons (v_iload (by decide +kernel)) rfl ?_
  refine am_pv_cons (v_aload_n (q := 0) (by decide +kernel) rfl) rfl ?_
  refine am_pv_cons (v_get fl_Net_24 (by decide +kernel)) rfl ?_
  refine am_pv_cons (v_get fl_Net_36 (by decide +kernel)) rfl ?_
  refine am_pv_cons (v_ic_ge (off := 38) (by decide +kernel) rfl) rfl ?_
  refine am_pv_cons (v_iload_n (q := 2) (by decide +kernel) rfl) rfl ?_
  refine am_pv_cons (v_iload (by decide +kernel)) rfl ?_
  refine am_pv_cons (v_ishr (by decide +kernel)) rfl ?_
  refine am_pv_cons (v_iconst (n := 1) (by decide +kernel) rfl) rfl ?_
  refine am_pv_cons (v_iand (by decide +kernel)) rfl ?_
  refine am_pv_cons (v_if_ne (off := 23) (by decide +kernel) rfl) rfl ?_
  refine am_pv_cons (v_iload_n (q := 3) (by decide +kernel) rfl) rfl ?_
  refine am_pv_cons (v_aload_n (q := 0) (by decide +kernel) rfl) rfl ?_
  refine am_pv_cons (v_iload (by decide +kernel)) rfl ?_
  refine am_pv_cons (v_iload_n (q := 1) (by decide +kernel) rfl) rfl ?_
  refine am_pv_cons (v_virt (idx := 49) yv_Net_forcedBy rfl rfl (tb4 131 (by decide +kernel) rfl) (by decide +kernel)) rfl ?_
  refine am_pv_cons (v_ior (by decide +kernel)) rfl ?_
  refine am_pv_cons (v_istore_n (q := 3) (by decide +kernel) rfl) rfl ?_
  refine am_pv_cons (v_iload_n (q := 2) (by decide +kernel) rfl) rfl ?_
  refine am_pv_cons (v_aload_n (q := 0) (by decide +kernel) rfl) rfl ?_
  refine am_pv_cons (v_iload (by decide +kernel)) rfl ?_
  refine am_pv_cons (v_iload_n (q := 1) (by decide +kernel) rfl) rfl ?_
  refine am_pv_cons (v_virt (idx := 32) yv_Net_reach rfl rfl (tb4 153 (by decide +kernel) rfl) (by decide +kernel)) rfl ?_
  refine am_pv_cons (v_ior (by decide +kernel)) rfl ?_
  refine am_pv_cons (v_istore_n (q := 2) (by decide +kernel) rfl) rfl ?_
  refine am_pv_cons (v_iinc (n := 1) (by decide +kernel) (by decide +kernel)) rfl ?_
  refine am_pv_cons (v_goto (off := -44) (by decide +kernel) rfl) rfl ?_
  refine am_pv_cons (v_iconst (n := 0) (by decide +kernel) rfl) rfl ?_
  refine am_pv_cons (v_istore (by decide +kernel)) rfl ?_
  refine am_pv_cons (v_iload (by decide +kernel)) rfl ?_
  refine am_pv_cons (v_aload_n (q := 0) (by decide +kernel) rfl) rfl ?_
  refine am_pv_cons (v_get fl_Net_28 (by decide +kernel)) rfl ?_
  refine am_pv_cons (v_get fl_Net_42 (by decide +kernel)) rfl ?_
  refine am_pv_cons (v_ic_ge (off := 38) (by decide +kernel) rfl) rfl ?_
  refine am_pv_cons (v_aload_n (q := 0) (by decide +kernel) rfl) rfl ?_
  refine am_pv_cons (v_get fl_Net_28 (by decide +kernel)) rfl ?_
  refine am_pv_cons (v_iload (by decide +kernel)) rfl ?_
  refine am_pv_cons (v_virt (idx := 45) yv_Feelings_bitsOf rfl rfl (tb4 135 (by decide +kernel) rfl) (by decide +kernel)) rfl ?_
  refine am_pv_cons (v_iload_n (q := 1) (by decide +kernel) rfl) rfl ?_
  refine am_pv_cons (v_iand (by decide +kernel)) rfl ?_
  refine am_pv_cons (v_if_ne (off := 18) (by decide +kernel) rfl) rfl ?_
  refine am_pv_cons (v_aload_n (q := 0) (by decide +kernel) rfl) rfl ?_
  refine am_pv_cons (v_get fl_Net_28 (by decide +kernel)) rfl ?_
  refine am_pv_cons (v_iload (by decide +kernel)) rfl ?_
  refine am_pv_cons (v_iload_n (q := 3) (by decide +kernel) rfl) rfl ?_
  refine am_pv_cons (v_virt (idx := 52) yv_Feelings_isWrongIn rfl rfl (tb4 145 (by decide +kernel) rfl) (by decide +kernel)) rfl ?_
  refine am_pv_cons (v_if_eq (off := 5) (by decide +kernel) rfl) rfl ?_
  refine am_pv_cons (v_iconst (n := -1) (by decide +kernel) rfl) rfl ?_
  refine am_pv_cons (v_ireturn (by decide +kernel)) rfl ?_
  refine am_pv_cons (v_iinc (n := 1) (by decide +kernel) (by decide +kernel)) rfl ?_
  refine am_pv_cons (v_goto (off := -44) (by decide +kernel) rfl) rfl ?_
  refine am_pv_cons (v_iload_n (q := 3) (by decide +kernel) rfl) rfl ?_
  refine am_pv_cons (v_ireturn (by decide +kernel)) trivial ?_
  exact trivial
def P_Net_forcedBy (E : am_E) (k : Nat) : am_P := [(0, aI 1), (1, aLi 1), (2, aB (fun x y => x <<< (y &&& 31))), (3, aSi 3), (4, aI 0), (5, aSi 4), (7, aI 0), (8, aSi 5), (10, aI 0), (11, aSi 6), (13, aLi 6), (15, aI 9), (17, aCn (fun x y => x < y) 117), (20, aLi 3), (21, aLi 4), (23, aCf (fun x y => x = y) 117), (26, aLi 3), (27, aSi 4), (29, aI 0), (30, aSi 7), (32, aLi 7), (34, aLa 0), (35, aGet 9 1), (38, aGet 2 0), (41, aCn (fun x y => x < y) 111), (44, aLa 0), (45, aGet 9 1), (48, aLi 7), (50, aIv E k 2 1 Y_Feelings_bitsOf), (53, aSi 8), (55, aLi 8), (57, aLi 3), (58, aI (-1)), (59, aB (fun x y => x ^^^ y)), (60, aB (fun x y => x &&& y)), (61, aSi 9), (63, aLi 8), (65, aLi 2), (66, aB (fun x y => x &&& y)), (67, aIn (fun x => x = 0) 105), (70, aLi 9), (72, aIs E k 1 Y_Int_bitCount), (75, aI 1), (76, aCn (fun x y => x = y) 105), (79, aLi 3), (80, aLi 8), (82, aB (fun x y => x ||| y)), (83, aSi 3), (84, aLa 0), (85, aGet 9 1), (88, aLi 7), (90, aLi 5), (92, aIv E k 2 2 Y_Feelings_isWrongIn), (95, aIf (fun x => x = 0) 105), (98, aLi 5), (100, aLi 9), (102, aB (fun x y => x ||| y)), (103, aSi 5), (105, aInc 7 1), (108, aGo 32), (111, aInc 6 1), (114, aGo 13), (117, aLi 5), (119, aRi)]
set_option maxRecDepth 20000 in
theorem pv_Net_forcedBy (E : am_E) (k : Nat) : am_pv E k Y_Net_forcedBy.2.1 Y_Net_forcedBy.2.2.1 Y_Net_forcedBy.1.cls (P_Net_forcedBy E k) := by
  refine am_pv_cons (v_iconst (n := 1) (by decide +kernel) rfl) rfl ?_
  refine am_pv_cons (v_iload_n (q := 1) (by decide +kernel) rfl) rfl ?_
  refine am_pv_cons (v_ishl (by decide +kernel)) rfl ?_
  refine am_pv_cons (v_istore_n (q := 3) (by decide +kernel) rfl) rfl ?_
  refine am_pv_cons (v_iconst (n := 0) (by decide +kernel) rfl) rfl ?_
  refine am_pv_cons (v_istore (by decide +kernel)) rfl ?_
  refine am_pv_cons (v_iconst (n := 0) (by decide +kernel) rfl) rfl ?_
  refine am_pv_cons (v_istore (by decide +kernel)) rfl ?_
  refine am_pv_cons (v_iconst (n := 0) (by decide +kernel) rfl) rfl ?_
  refine am_pv_cons (v_istore (by decide +kernel)) rfl ?_
  refine am_pv_cons (v_iload (by decide +kernel)) rfl ?_
  refine am_pv_cons (v_bipush (n := 9) (by decide +kernel) (by decide +kernel)) rfl ?_
  refine am_pv_cons (v_ic_ge (off := 100) (by decide +kernel) rfl) rfl ?_
  refine am_pv_cons (v_iload_n (q := 3) (by decide +kernel) rfl) rfl ?_
  refine am_pv_cons (v_iload (by decide +kernel)) rfl ?_
  refine am_pv_cons (v_ic_eq (off := 94) (by decide +kernel) rfl) rfl ?_
  refine am_pv_cons (v_iload_n (q := 3) (by decide +kernel) rfl) rfl ?_
  refine am_pv_cons (v_istore (by decide +kernel)) rfl ?_
  refine am_pv_cons (v_iconst (n := 0) (by decide +kernel) rfl) rfl ?_
  refine am_pv_cons (v_istore (by decide +kernel)) rfl ?_
  refine am_pv_cons (v_iload (by decide +kernel)) rfl ?_
  refine am_pv_cons (v_aload_n (q := 0) (by decide +kernel) rfl) rfl ?_
  refine am_pv_cons (v_get fl_Net_28 (by decide +kernel)) rfl ?_
  refine am_pv_cons (v_get fl_Net_42 (by decide +kernel)) rfl ?_
  refine am_pv_cons (v_ic_ge (off := 70) (by decide +kernel) rfl) rfl ?_
  refine am_pv_cons (v_aload_n (q := 0) (by decide +kernel) rfl) rfl ?_
  refine am_pv_cons (v_get fl_Net_28 (by decide +kernel)) rfl ?_
  refine am_pv_cons (v_iload (by decide +kernel)) rfl ?_
  refine am_pv_cons (v_virt (idx := 45) yv_Feelings_bitsOf rfl rfl (tb4 135 (by decide +kernel) rfl) (by decide +kernel)) rfl ?_
  refine am_pv_cons (v_istore (by decide +kernel)) rfl ?_
  refine am_pv_cons (v_iload (by decide +kernel)) rfl ?_
  refine am_pv_cons (v_iload_n (q := 3) (by decide +kernel) rfl) rfl ?_
  refine am_pv_cons (v_iconst (n := -1) (by decide +kernel) rfl) rfl ?_
  refine am_pv_cons (v_ixor (by decide +kernel)) rfl ?_
  refine am_pv_cons (v_iand (by decide +kernel)) rfl ?_
  refine am_pv_cons (v_istore (by decide +kernel)) rfl ?_
  refine am_pv_cons (v_iload (by decide +kernel)) rfl ?_
  refine am_pv_cons (v_iload_n (q := 2) (by decide +kernel) rfl) rfl ?_
  refine am_pv_cons (v_iand (by decide +kernel)) rfl ?_
  refine am_pv_cons (v_if_ne (off := 38) (by decide +kernel) rfl) rfl ?_
  refine am_pv_cons (v_iload (by decide +kernel)) rfl ?_
  refine am_pv_cons (v_stat (idx := 56) ys_Int_bitCount (tb4 139 (by decide +kernel) rfl) (by decide +kernel)) rfl ?_
  refine am_pv_cons (v_iconst (n := 1) (by decide +kernel) rfl) rfl ?_
  refine am_pv_cons (v_ic_ne (off := 29) (by decide +kernel) rfl) rfl ?_
  refine am_pv_cons (v_iload_n (q := 3) (by decide +kernel) rfl) rfl ?_
  refine am_pv_cons (v_iload (by decide +kernel)) rfl ?_
  refine am_pv_cons (v_ior (by decide +kernel)) rfl ?_
  refine am_pv_cons (v_istore_n (q := 3) (by decide +kernel) rfl) rfl ?_
  refine am_pv_cons (v_aload_n (q := 0) (by decide +kernel) rfl) rfl ?_
  refine am_pv_cons (v_get fl_Net_28 (by decide +kernel)) rfl ?_
  refine am_pv_cons (v_iload (by decide +kernel)) rfl ?_
  refine am_pv_cons (v_iload (by decide +kernel)) rfl ?_
  refine am_pv_cons (v_virt (idx := 52) yv_Feelings_isWrongIn rfl rfl (tb4 145 (by decide +kernel) rfl) (by decide +kernel)) rfl ?_
  refine am_pv_cons (v_if_eq (off := 10) (by decide +kernel) rfl) rfl ?_
  refine am_pv_cons (v_iload (by decide +kernel)) rfl ?_
  refine am_pv_cons (v_iload (by decide +kernel)) rfl ?_
  refine am_pv_cons (v_ior (by decide +kernel)) rfl ?_
  refine am_pv_cons (v_istore (by decide +kernel)) rfl ?_
  refine am_pv_cons (v_iinc (n := 1) (by decide +kernel) (by decide +kernel)) rfl ?_
  refine am_pv_cons (v_goto (off := -76) (by decide +kernel) rfl) rfl ?_
  refine am_pv_cons (v_iinc (n := 1) (by decide +kernel) (by decide +kernel)) rfl ?_
  refine am_pv_cons (v_goto (off := -101) (by decide +kernel) rfl) rfl ?_
  refine am_pv_cons (v_iload (by decide +kernel)) rfl ?_
  refine am_pv_cons (v_ireturn (by decide +kernel)) trivial ?_
  exact trivial
def P_Net_searchRing (E : am_E) (k : Nat) : am_P := [(0, aLa 0), (1, aI 0), (2, aPut 9 2), (5, aI 0), (6, aSi 1), (7, aLi 1), (8, aLa 0), (9, aGet 9 0), (12, aGet 1 0), (15, aCn (fun x y => x < y) 34), (18, aLa 0), (19, aLi 1), (20, aIv E k 9 1 Y_Net_walk), (23, aLa 0), (24, aLi 1), (25, aIv E k 9 1 Y_Net_keepIfShorter), (28, aInc 1 1), (31, aGo 7), (34, aRv)]
set_option maxRecDepth 20000 in
theorem pv_Net_searchRing (E : am_E) (k : Nat) : am_pv E k Y_Net_searchRing.2.1 Y_Net_searchRing.2.2.1 Y_Net_searchRing.1.cls (P_Net_searchRing E k) := by
  refine am_pv_cons (v_aload_n (q := 0) (by decide +kernel) rfl) rfl ?_
  refine am_pv_cons (v_iconst (n := 0) (by decide +kernel) rfl) rfl ?_
  refine am_pv_cons (v_put fw_Net_61 (by decide +kernel)) rfl ?_
  refine am_pv_cons (v_iconst (n := 0) (by decide +kernel) rfl) rfl ?_
  refine am_pv_cons (v_istore_n (q := 1) (by decide +kernel) rfl) rfl ?_
  refine am_pv_cons (v_iload_n (q := 1) (by decide +kernel) rfl) rfl ?_
  refine am_pv_cons (v_aload_n (q := 0) (by decide +kernel) rfl) rfl ?_
  refine am_pv_cons (v_get fl_Net_24 (by decide +kernel)) rfl ?_
  refine am_pv_cons (v_get fl_Net_36 (by decide +kernel)) rfl ?_
  refine am_pv_cons (v_ic_ge (off := 19) (by decide +kernel) rfl) rfl ?_
  refine am_pv_cons (v_aload_n (q := 0) (by decide +kernel) rfl) rfl ?_
  refine am_pv_cons (v_iload_n (q := 1) (by decide +kernel) rfl) rfl ?_
  refine am_pv_cons (v_virt (idx := 64) yv_Net_walk rfl rfl (tb4 165 (by decide +kernel) rfl) (by decide +kernel)) rfl ?_
  refine am_pv_cons (v_aload_n (q := 0) (by decide +kernel) rfl) rfl ?_
  refine am_pv_cons (v_iload_n (q := 1) (by decide +kernel) rfl) rfl ?_
  refine am_pv_cons (v_virt (idx := 68) yv_Net_keepIfShorter rfl rfl (tb4 179 (by decide +kernel) rfl) (by decide +kernel)) rfl ?_
  refine am_pv_cons (v_iinc (n := 1) (by decide +kernel) (by decide +kernel)) rfl ?_
  refine am_pv_cons (v_goto (off := -24) (by decide +kernel) rfl) rfl ?_
  refine am_pv_cons (v_return_ (by decide +kernel)) trivial ?_
  exact trivial
def P_Net_walk (E : am_E) (k : Nat) : am_P := [(0, aLa 0), (1, aGet 9 6), (4, aI (-1)), (5, aIs E k 2 Y_Arr_fill), (8, aLa 0), (9, aI 0), (10, aPut 9 5), (13, aLa 0), (14, aI 2), (15, aLi 1), (16, aB (fun x y => x * y)), (17, aI 2), (18, aLi 1), (19, aB (fun x y => x * y)), (20, aI 0), (21, aIv E k 9 3 Y_Net_arrive), (24, aI 0), (25, aSi 2), (26, aLi 2), (27, aI 18), (29, aCn (fun x y => x < y) 56), (32, aLi 2), (33, aLa 0), (34, aGet 9 5), (37, aCn (fun x y => x < y) 56), (40, aLa 0), (41, aLa 0), (42, aGet 9 4), (45, aLi 2), (46, aAld 0), (47, aIv E k 9 1 Y_Net_leave), (50, aInc 2 1), (53, aGo 26), (56, aRv)]
set_option maxRecDepth 20000 in
theorem pv_Net_walk (E : am_E) (k : Nat) : am_pv E k Y_Net_walk.2.1 Y_Net_walk.2.2.1 Y_Net_walk.1.cls (P_Net_walk E k) := by
  refine am_pv_cons (v_aload_n (q := 0) (by decide +kernel) rfl) rfl ?_
  refine am_pv_cons (v_get fl_Net_18 (by decide +kernel)) rfl ?_
  refine am_pv_cons (v_iconst (n := -1) (by decide +kernel) rfl) rfl ?_
  refine am_pv_cons (v_stat (idx := 71) ys_Arr_fill (tb4 169 (by decide +kernel) rfl) (by decide +kernel)) rfl ?_
  refine am_pv_cons (v_aload_n (q := 0) (by decide +kernel) rfl) rfl ?_
  refine am_pv_cons (v_iconst (n := 0) (by decide +kernel) rfl) rfl ?_
  refine am_pv_cons (v_put fw_Net_77 (by decide +kernel)) rfl ?_
  refine am_pv_cons (v_aload_n (q := 0) (by decide +kernel) rfl) rfl ?_
  refine am_pv_cons (v_iconst (n := 2) (by decide +kernel) rfl) rfl ?_
  refine am_pv_cons (v_iload_n (q := 1) (by decide +kernel) rfl) rfl ?_
  refine am_pv_cons (v_imul (by decide +kernel)) rfl ?_
  refine am_pv_cons (v_iconst (n := 2) (by decide +kernel) rfl) rfl ?_
  refine am_pv_cons (v_iload_n (q := 1) (by decide +kernel) rfl) rfl ?_
  refine am_pv_cons (v_imul (by decide +kernel)) rfl ?_
  refine am_pv_cons (v_iconst (n := 0) (by decide +kernel) rfl) rfl ?_
  refine am_pv_cons (v_virt (idx := 80) yv_Net_arrive rfl rfl (tb4 170 (by decide +kernel) rfl) (by decide +kernel)) rfl ?_
  refine am_pv_cons (v_iconst (n := 0) (by decide +kernel) rfl) rfl ?_
  refine am_pv_cons (v_istore_n (q := 2) (by decide +kernel) rfl) rfl ?_
  refine am_pv_cons (v_iload_n (q := 2) (by decide +kernel) rfl) rfl ?_
  refine am_pv_cons (v_bipush (n := 18) (by decide +kernel) (by decide +kernel)) rfl ?_
  refine am_pv_cons (v_ic_ge (off := 27) (by decide +kernel) rfl) rfl ?_
  refine am_pv_cons (v_iload_n (q := 2) (by decide +kernel) rfl) rfl ?_
  refine am_pv_cons (v_aload_n (q := 0) (by decide +kernel) rfl) rfl ?_
  refine am_pv_cons (v_get fl_Net_77 (by decide +kernel)) rfl ?_
  refine am_pv_cons (v_ic_ge (off := 19) (by decide +kernel) rfl) rfl ?_
  refine am_pv_cons (v_aload_n (q := 0) (by decide +kernel) rfl) rfl ?_
  refine am_pv_cons (v_aload_n (q := 0) (by decide +kernel) rfl) rfl ?_
  refine am_pv_cons (v_get fl_Net_15 (by decide +kernel)) rfl ?_
  refine am_pv_cons (v_iload_n (q := 2) (by decide +kernel) rfl) rfl ?_
  refine am_pv_cons (v_iald (by decide +kernel)) rfl ?_
  refine am_pv_cons (v_virt (idx := 84) yv_Net_leave rfl rfl (tb4 174 (by decide +kernel) rfl) (by decide +kernel)) rfl ?_
  refine am_pv_cons (v_iinc (n := 1) (by decide +kernel) (by decide +kernel)) rfl ?_
  refine am_pv_cons (v_goto (off := -27) (by decide +kernel) rfl) rfl ?_
  refine am_pv_cons (v_return_ (by decide +kernel)) trivial ?_
  exact trivial
def P_Net_leave (E : am_E) (k : Nat) : am_P := [(0, aLi 1), (1, aI 2), (2, aDv (fun x y => x / y)), (3, aSi 2), (4, aI 0), (5, aSi 3), (6, aLi 3), (7, aLa 0), (8, aGet 9 0), (11, aGet 1 0), (14, aCn (fun x y => x < y) 83), (17, aLa 0), (18, aGet 9 1), (21, aLi 2), (22, aLi 3), (23, aIv E k 2 2 Y_Feelings_find), (26, aSi 4), (28, aLi 4), (30, aI (-1)), (31, aCf (fun x y => x = y) 77), (34, aLa 0), (35, aGet 9 1), (38, aGet 2 3), (41, aLi 4), (43, aAld 0), (44, aIn (fun x => x < 0) 51), (47, aI 1), (48, aGo 52), (51, aI 0), (52, aSi 5), (54, aLa 0), (55, aI 2), (56, aLi 3), (57, aB (fun x y => x * y)), (58, aLi 1), (59, aI 2), (60, aDv (fun x y => x - x / y * y)), (61, aLi 5), (63, aB (fun x y => x ^^^ y)), (64, aB (fun x y => x + y)), (65, aLi 1), (66, aLa 0), (67, aGet 9 7), (70, aLi 1), (71, aAld 0), (72, aI 1), (73, aB (fun x y => x + y)), (74, aIv E k 9 3 Y_Net_arrive), (77, aInc 3 1), (80, aGo 6), (83, aRv)]
set_option maxRecDepth 20000 in
theorem pv_Net_leave (E : am_E) (k : Nat) : am_pv E k Y_Net_leave.2.1 Y_Net_leave.2.2.1 Y_Net_leave.1.cls (P_Net_leave E k) := by
  refine am_pv_cons (v_iload_n (q := 1) (by decide +kernel) rfl) rfl ?_
  refine am_pv_cons (v_iconst (n := 2) (by decide +kernel) rfl) rfl ?_
  refine am_pv_cons (v_idiv (by decide +kernel)) rfl ?_
  refine am_pv_cons (v_istore_n (q := 2) (by decide +kernel) rfl) rfl ?_
  refine am_pv_cons (v_iconst (n := 0) (by decide +kernel) rfl) rfl ?_
  refine am_pv_cons (v_istore_n (q := 3) (by decide +kernel) rfl) rfl ?_
  refine am_pv_cons (v_iload_n (q := 3) (by decide +kernel) rfl) rfl ?_
  refine am_pv_cons (v_aload_n (q := 0) (by decide +kernel) rfl) rfl ?_
  refine am_pv_cons (v_get fl_Net_24 (by decide +kernel)) rfl ?_
  refine am_pv_cons (v_get fl_Net_36 (by decide +kernel)) rfl ?_
  refine am_pv_cons (v_ic_ge (off := 69) (by decide +kernel) rfl) rfl ?_
  refine am_pv_cons (v_aload_n (q := 0) (by decide +kernel) rfl) rfl ?_
  refine am_pv_cons (v_get fl_Net_28 (by decide +kernel)) rfl ?_
  refine am_pv_cons (v_iload_n (q := 2) (by decide +kernel) rfl) rfl ?_
  refine am_pv_cons (v_iload_n (q := 3) (by decide +kernel) rfl) rfl ?_
  refine am_pv_cons (v_virt (idx := 87) yv_Feelings_find rfl rfl (tb4 178 (by decide +kernel) rfl) (by decide +kernel)) rfl ?_
  refine am_pv_cons (v_istore (by decide +kernel)) rfl ?_
  refine am_pv_cons (v_iload (by decide +kernel)) rfl ?_
  refine am_pv_cons (v_iconst (n := -1) (by decide +kernel) rfl) rfl ?_
  refine am_pv_cons (v_ic_eq (off := 46) (by decide +kernel) rfl) rfl ?_
  refine am_pv_cons (v_aload_n (q := 0) (by decide +kernel) rfl) rfl ?_
  refine am_pv_cons (v_get fl_Net_28 (by decide +kernel)) rfl ?_
  refine am_pv_cons (v_get fl_Net_90 (by decide +kernel)) rfl ?_
  refine am_pv_cons (v_iload (by decide +kernel)) rfl ?_
  refine am_pv_cons (v_iald (by decide +kernel)) rfl ?_
  refine am_pv_cons (v_if_ge (off := 7) (by decide +kernel) rfl) rfl ?_
  refine am_pv_cons (v_iconst (n := 1) (by decide +kernel) rfl) rfl ?_
  refine am_pv_cons (v_goto (off := 4) (by decide +kernel) rfl) rfl ?_
  refine am_pv_cons (v_iconst (n := 0) (by decide +kernel) rfl) rfl ?_
  refine am_pv_cons (v_istore (by decide +kernel)) rfl ?_
  refine am_pv_cons (v_aload_n (q := 0) (by decide +kernel) rfl) rfl ?_
  refine am_pv_cons (v_iconst (n := 2) (by decide +kernel) rfl) rfl ?_
  refine am_pv_cons (v_iload_n (q := 3) (by decide +kernel) rfl) rfl ?_
  refine am_pv_cons (v_imul (by decide +kernel)) rfl ?_
  refine am_pv_cons (v_iload_n (q := 1) (by decide +kernel) rfl) rfl ?_
  refine am_pv_cons (v_iconst (n := 2) (by decide +kernel) rfl) rfl ?_
  refine am_pv_cons (v_irem (by decide +kernel)) rfl ?_
  refine am_pv_cons (v_iload (by decide +kernel)) rfl ?_
  refine am_pv_cons (v_ixor (by decide +kernel)) rfl ?_
  refine am_pv_cons (v_iadd (by decide +kernel)) rfl ?_
  refine am_pv_cons (v_iload_n (q := 1) (by decide +kernel) rfl) rfl ?_
  refine am_pv_cons (v_aload_n (q := 0) (by decide +kernel) rfl) rfl ?_
  refine am_pv_cons (v_get fl_Net_21 (by decide +kernel)) rfl ?_
  refine am_pv_cons (v_iload_n (q := 1) (by decide +kernel) rfl) rfl ?_
  refine am_pv_cons (v_iald (by decide +kernel)) rfl ?_
  refine am_pv_cons (v_iconst (n := 1) (by decide +kernel) rfl) rfl ?_
  refine am_pv_cons (v_iadd (by decide +kernel)) rfl ?_
  refine am_pv_cons (v_virt (idx := 80) yv_Net_arrive rfl rfl (tb4 170 (by decide +kernel) rfl) (by decide +kernel)) rfl ?_
  refine am_pv_cons (v_iinc (n := 1) (by decide +kernel) (by decide +kernel)) rfl ?_
  refine am_pv_cons (v_goto (off := -74) (by decide +kernel) rfl) rfl ?_
  refine am_pv_cons (v_return_ (by decide +kernel)) trivial ?_
  exact trivial
def P_Net_arrive (E : am_E) (k : Nat) : am_P := [(0, aLa 0), (1, aGet 9 6), (4, aLi 1), (5, aAld 0), (6, aI (-1)), (7, aCn (fun x y => x = y) 53), (10, aLa 0), (11, aGet 9 5), (14, aI 18), (16, aCn (fun x y => x < y) 53), (19, aLa 0), (20, aGet 9 6), (23, aLi 1), (24, aLi 2), (25, aAst), (26, aLa 0), (27, aGet 9 7), (30, aLi 1), (31, aLi 3), (32, aAst), (33, aLa 0), (34, aGet 9 4), (37, aLa 0), (38, aGet 9 5), (41, aLi 1), (42, aAst), (43, aLa 0), (44, aDup), (45, aGet 9 5), (48, aI 1), (49, aB (fun x y => x + y)), (50, aPut 9 5), (53, aRv)]
set_option maxRecDepth 20000 in
theorem pv_Net_arrive (E : am_E) (k : Nat) : am_pv E k Y_Net_arrive.2.1 Y_Net_arrive.2.2.1 Y_Net_arrive.1.cls (P_Net_arrive E k) := by
  refine am_pv_cons (v_aload_n (q := 0) (by decide +kernel) rfl) rfl ?_
  refine am_pv_cons (v_get fl_Net_18 (by decide +kernel)) rfl ?_
  refine am_pv_cons (v_iload_n (q := 1) (by decide +kernel) rfl) rfl ?_
  refine am_pv_cons (v_iald (by decide +kernel)) rfl ?_
  refine am_pv_cons (v_iconst (n := -1) (by decide +kernel) rfl) rfl ?_
  refine am_pv_cons (v_ic_ne (off := 46) (by decide +kernel) rfl) rfl ?_
  refine am_pv_cons (v_aload_n (q := 0) (by decide +kernel) rfl) rfl ?_
  refine am_pv_cons (v_get fl_Net_77 (by decide +kernel)) rfl ?_
  refine am_pv_cons (v_bipush (n := 18) (by decide +kernel) (by decide +kernel)) rfl ?_
  refine am_pv_cons (v_ic_ge (off := 37) (by decide +kernel) rfl) rfl ?_
  refine am_pv_cons (v_aload_n (q := 0) (by decide +kernel) rfl) rfl ?_
  refine am_pv_cons (v_get fl_Net_18 (by decide +kernel)) rfl ?_
  refine am_pv_cons (v_iload_n (q := 1) (by decide +kernel) rfl) rfl ?_
  refine am_pv_cons (v_iload_n (q := 2) (by decide +kernel) rfl) rfl ?_
  refine am_pv_cons (v_iast (by decide +kernel)) rfl ?_
  refine am_pv_cons (v_aload_n (q := 0) (by decide +kernel) rfl) rfl ?_
  refine am_pv_cons (v_get fl_Net_21 (by decide +kernel)) rfl ?_
  refine am_pv_cons (v_iload_n (q := 1) (by decide +kernel) rfl) rfl ?_
  refine am_pv_cons (v_iload_n (q := 3) (by decide +kernel) rfl) rfl ?_
  refine am_pv_cons (v_iast (by decide +kernel)) rfl ?_
  refine am_pv_cons (v_aload_n (q := 0) (by decide +kernel) rfl) rfl ?_
  refine am_pv_cons (v_get fl_Net_15 (by decide +kernel)) rfl ?_
  refine am_pv_cons (v_aload_n (q := 0) (by decide +kernel) rfl) rfl ?_
  refine am_pv_cons (v_get fl_Net_77 (by decide +kernel)) rfl ?_
  refine am_pv_cons (v_iload_n (q := 1) (by decide +kernel) rfl) rfl ?_
  refine am_pv_cons (v_iast (by decide +kernel)) rfl ?_
  refine am_pv_cons (v_aload_n (q := 0) (by decide +kernel) rfl) rfl ?_
  refine am_pv_cons (v_dup (by decide +kernel)) rfl ?_
  refine am_pv_cons (v_get fl_Net_77 (by decide +kernel)) rfl ?_
  refine am_pv_cons (v_iconst (n := 1) (by decide +kernel) rfl) rfl ?_
  refine am_pv_cons (v_iadd (by decide +kernel)) rfl ?_
  refine am_pv_cons (v_put fw_Net_77 (by decide +kernel)) rfl ?_
  refine am_pv_cons (v_return_ (by decide +kernel)) trivial ?_
  exact trivial
def P_Net_keepIfShorter (E : am_E) (k : Nat) : am_P := [(0, aI 2), (1, aLi 1), (2, aB (fun x y => x * y)), (3, aI 1), (4, aB (fun x y => x + y)), (5, aSi 2), (6, aLa 0), (7, aGet 9 6), (10, aLi 2), (11, aAld 0), (12, aI (-1)), (13, aCf (fun x y => x = y) 36), (16, aLa 0), (17, aGet 9 2), (20, aIn (fun x => 0 < x) 37), (23, aLa 0), (24, aGet 9 7), (27, aLi 2), (28, aAld 0), (29, aLa 0), (30, aGet 9 2), (33, aCf (fun x y => x < y) 37), (36, aRv), (37, aLa 0), (38, aLa 0), (39, aGet 9 7), (42, aLi 2), (43, aAld 0), (44, aPut 9 2), (47, aLi 2), (48, aSi 3), (49, aLa 0), (50, aGet 9 2), (53, aI 1), (54, aB (fun x y => x - y)), (55, aSi 4), (57, aLi 4), (59, aIf (fun x => x < 0) 85), (62, aLa 0), (63, aGet 9 6), (66, aLi 3), (67, aAld 0), (68, aSi 3), (69, aLa 0), (70, aGet 9 3), (73, aLi 4), (75, aLi 3), (76, aI 2), (77, aDv (fun x y => x / y)), (78, aAst), (79, aInc 4 (-1)), (82, aGo 57), (85, aRv)]
set_option maxRecDepth 20000 in
theorem pv_Net_keepIfShorter (E : am_E) (k : Nat) : am_pv E k Y_Net_keepIfShorter.2.1 Y_Net_keepIfShorter.2.2.1 Y_Net_keepIfShorter.1.cls (P_Net_keepIfShorter E k) := by
  refine am_pv_cons (v_iconst (n := 2) (by decide +kernel) rfl) rfl ?_
  refine am_pv_cons (v_iload_n (q := 1) (by decide +kernel) rfl) rfl ?_
  refine am_pv_cons (v_imul (by decide +kernel)) rfl ?_
  refine am_pv_cons (v_iconst (n := 1) (by decide +kernel) rfl) rfl ?_
  refine am_pv_cons (v_iadd (by decide +kernel)) rfl ?_
  refine am_pv_cons (v_istore_n (q := 2) (by decide +kernel) rfl) rfl ?_
  refine am_pv_cons (v_aload_n (q := 0) (by decide +kernel) rfl) rfl ?_
  refine am_pv_cons (v_get fl_Net_18 (by decide +kernel)) rfl ?_
  refine am_pv_cons (v_iload_n (q := 2) (by decide +kernel) rfl) rfl ?_
  refine am_pv_cons (v_iald (by decide +kernel)) rfl ?_
  refine am_pv_cons (v_iconst (n := -1) (by decide +kernel) rfl) rfl ?_
  refine am_pv_cons (v_ic_eq (off := 23) (by decide +kernel) rfl) rfl ?_
  refine am_pv_cons (v_aload_n (q := 0) (by decide +kernel) rfl) rfl ?_
  refine am_pv_cons (v_get fl_Net_61 (by decide +kernel)) rfl ?_
  refine am_pv_cons (v_if_le (off := 17) (by decide +kernel) rfl) rfl ?_
  refine am_pv_cons (v_aload_n (q := 0) (by decide +kernel) rfl) rfl ?_
  refine am_pv_cons (v_get fl_Net_21 (by decide +kernel)) rfl ?_
  refine am_pv_cons (v_iload_n (q := 2) (by decide +kernel) rfl) rfl ?_
  refine am_pv_cons (v_iald (by decide +kernel)) rfl ?_
  refine am_pv_cons (v_aload_n (q := 0) (by decide +kernel) rfl) rfl ?_
  refine am_pv_cons (v_get fl_Net_61 (by decide +kernel)) rfl ?_
  refine am_pv_cons (v_ic_lt (off := 4) (by decide +kernel) rfl) rfl ?_
  refine am_pv_cons (v_return_ (by decide +kernel)) rfl ?_
  refine am_pv_cons (v_aload_n (q := 0) (by decide +kernel) rfl) rfl ?_
  refine am_pv_cons (v_aload_n (q := 0) (by decide +kernel) rfl) rfl ?_
  refine am_pv_cons (v_get fl_Net_21 (by decide +kernel)) rfl ?_
  refine am_pv_cons (v_iload_n (q := 2) (by decide +kernel) rfl) rfl ?_
  refine am_pv_cons (v_iald (by decide +kernel)) rfl ?_
  refine am_pv_cons (v_put fw_Net_61 (by decide +kernel)) rfl ?_
  refine am_pv_cons (v_iload_n (q := 2) (by decide +kernel) rfl) rfl ?_
  refine am_pv_cons (v_istore_n (q := 3) (by decide +kernel) rfl) rfl ?_
  refine am_pv_cons (v_aload_n (q := 0) (by decide +kernel) rfl) rfl ?_
  refine am_pv_cons (v_get fl_Net_61 (by decide +kernel)) rfl ?_
  refine am_pv_cons (v_iconst (n := 1) (by decide +kernel) rfl) rfl ?_
  refine am_pv_cons (v_isub (by decide +kernel)) rfl ?_
  refine am_pv_cons (v_istore (by decide +kernel)) rfl ?_
  refine am_pv_cons (v_iload (by decide +kernel)) rfl ?_
  refine am_pv_cons (v_if_lt (off := 26) (by decide +kernel) rfl) rfl ?_
  refine am_pv_cons (v_aload_n (q := 0) (by decide +kernel) rfl) rfl ?_
  refine am_pv_cons (v_get fl_Net_18 (by decide +kernel)) rfl ?_
  refine am_pv_cons (v_iload_n (q := 3) (by decide +kernel) rfl) rfl ?_
  refine am_pv_cons (v_iald (by decide +kernel)) rfl ?_
  refine am_pv_cons (v_istore_n (q := 3) (by decide +kernel) rfl) rfl ?_
  refine am_pv_cons (v_aload_n (q := 0) (by decide +kernel) rfl) rfl ?_
  refine am_pv_cons (v_get fl_Net_11 (by decide +kernel)) rfl ?_
  refine am_pv_cons (v_iload (by decide +kernel)) rfl ?_
  refine am_pv_cons (v_iload_n (q := 3) (by decide +kernel) rfl) rfl ?_
  refine am_pv_cons (v_iconst (n := 2) (by decide +kernel) rfl) rfl ?_
  refine am_pv_cons (v_idiv (by decide +kernel)) rfl ?_
  refine am_pv_cons (v_iast (by decide +kernel)) rfl ?_
  refine am_pv_cons (v_iinc (n := -1) (by decide +kernel) (by decide +kernel)) rfl ?_
  refine am_pv_cons (v_goto (off := -25) (by decide +kernel) rfl) rfl ?_
  refine am_pv_cons (v_return_ (by decide +kernel)) trivial ?_
  exact trivial
def P_Best_search (E : am_E) (k : Nat) : am_P := [(0, aLa 0), (1, aGet 10 2), (4, aIv E k 4 0 Y_Law_weigh), (7, aLa 0), (8, aI (-1)), (9, aPut 10 3), (12, aLa 0), (13, aI 0), (14, aPut 10 4), (17, aI 0), (18, aSi 1), (19, aLi 1), (20, aLa 0), (21, aIv E k 10 0 Y_Best_pastCampings), (24, aCn (fun x y => x < y) 115), (27, aLa 0), (28, aLi 1), (29, aIv E k 10 1 Y_Best_sumOf), (32, aSi 2), (33, aLi 2), (34, aI (-1)), (35, aCf (fun x y => x = y) 64), (38, aLa 0), (39, aGet 10 3), (42, aI (-1)), (43, aCf (fun x y => x = y) 54), (46, aLi 2), (47, aLa 0), (48, aGet 10 3), (51, aCn (fun x y => x < y) 64), (54, aLa 0), (55, aLi 2), (56, aPut 10 3), (59, aLa 0), (60, aI 0), (61, aPut 10 4), (64, aLi 2), (65, aI (-1)), (66, aCf (fun x y => x = y) 109), (69, aLi 2), (70, aLa 0), (71, aGet 10 3), (74, aCn (fun x y => x = y) 109), (77, aLa 0), (78, aGet 10 4), (81, aLa 0), (82, aGet 10 5), (85, aLen), (86, aCn (fun x y => x < y) 109), (89, aLa 0), (90, aGet 10 5), (93, aLa 0), (94, aGet 10 4), (97, aLi 1), (98, aAst), (99, aLa 0), (100, aDup), (101, aGet 10 4), (104, aI 1), (105, aB (fun x y => x + y)), (106, aPut 10 4), (109, aInc 1 2), (112, aGo 19), (115, aRv)]
set_option maxRecDepth 20000 in
theorem pv_Best_search (E : am_E) (k : Nat) : am_pv E k Y_Best_search.2.1 Y_Best_search.2.2.1 Y_Best_search.1.cls (P_Best_search E k) := by
  refine am_pv_cons (v_aload_n (q := 0) (by decide +kernel) rfl) rfl ?_
  refine am_pv_cons (v_get fl_Best_26 (by decide +kernel)) rfl ?_
  refine am_pv_cons (v_virt (idx := 30) yv_Law_weigh rfl rfl (tb4 191 (by decide +kernel) rfl) (by decide +kernel)) rfl ?_
  refine am_pv_cons (v_aload_n (q := 0) (by decide +kernel) rfl) rfl ?_
  refine am_pv_cons (v_iconst (n := -1) (by decide +kernel) rfl) rfl ?_
  refine am_pv_cons (v_put fw_Best_35 (by decide +kernel)) rfl ?_
  refine am_pv_cons (v_aload_n (q := 0) (by decide +kernel) rfl) rfl ?_
  refine am_pv_cons (v_iconst (n := 0) (by decide +kernel) rfl) rfl ?_
  refine am_pv_cons (v_put fw_Best_39 (by decide +kernel)) rfl ?_
  refine am_pv_cons (v_iconst (n := 0) (by decide +kernel) rfl) rfl ?_
  refine am_pv_cons (v_istore_n (q := 1) (by decide +kernel) rfl) rfl ?_
  refine am_pv_cons (v_iload_n (q := 1) (by decide +kernel) rfl) rfl ?_
  refine am_pv_cons (v_aload_n (q := 0) (by decide +kernel) rfl) rfl ?_
  refine am_pv_cons (v_virt (idx := 42) yv_Best_pastCampings rfl rfl (tb4 192 (by decide +kernel) rfl) (by decide +kernel)) rfl ?_
  refine am_pv_cons (v_ic_ge (off := 91) (by decide +kernel) rfl) rfl ?_
  refine am_pv_cons (v_aload_n (q := 0) (by decide +kernel) rfl) rfl ?_
  refine am_pv_cons (v_iload_n (q := 1) (by decide +kernel) rfl) rfl ?_
  refine am_pv_cons (v_virt (idx := 46) yv_Best_sumOf rfl rfl (tb4 196 (by decide +kernel) rfl) (by decide +kernel)) rfl ?_
  refine am_pv_cons (v_istore_n (q := 2) (by decide +kernel) rfl) rfl ?_
  refine am_pv_cons (v_iload_n (q := 2) (by decide +kernel) rfl) rfl ?_
  refine am_pv_cons (v_iconst (n := -1) (by decide +kernel) rfl) rfl ?_
  refine am_pv_cons (v_ic_eq (off := 29) (by decide +kernel) rfl) rfl ?_
  refine am_pv_cons (v_aload_n (q := 0) (by decide +kernel) rfl) rfl ?_
  refine am_pv_cons (v_get fl_Best_35 (by decide +kernel)) rfl ?_
  refine am_pv_cons (v_iconst (n := -1) (by decide +kernel) rfl) rfl ?_
  refine am_pv_cons (v_ic_eq (off := 11) (by decide +kernel) rfl) rfl ?_
  refine am_pv_cons (v_iload_n (q := 2) (by decide +kernel) rfl) rfl ?_
  refine am_pv_cons (v_aload_n (q := 0) (by decide +kernel) rfl) rfl ?_
  refine am_pv_cons (v_get fl_Best_35 (by decide +kernel)) rfl ?_
  refine am_pv_cons (v_ic_ge (off := 13) (by decide +kernel) rfl) rfl ?_
  refine am_pv_cons (v_aload_n (q := 0) (by decide +kernel) rfl) rfl ?_
  refine am_pv_cons (v_iload_n (q := 2) (by decide +kernel) rfl) rfl ?_
  refine am_pv_cons (v_put fw_Best_35 (by decide +kernel)) rfl ?_
  refine am_pv_cons (v_aload_n (q := 0) (by decide +kernel) rfl) rfl ?_
  refine am_pv_cons (v_iconst (n := 0) (by decide +kernel) rfl) rfl ?_
  refine am_pv_cons (v_put fw_Best_39 (by decide +kernel)) rfl ?_
  refine am_pv_cons (v_iload_n (q := 2) (by decide +kernel) rfl) rfl ?_
  refine am_pv_cons (v_iconst (n := -1) (by decide +kernel) rfl) rfl ?_
  refine am_pv_cons (v_ic_eq (off := 43) (by decide +kernel) rfl) rfl ?_
  refine am_pv_cons (v_iload_n (q := 2) (by decide +kernel) rfl) rfl ?_
  refine am_pv_cons (v_aload_n (q := 0) (by decide +kernel) rfl) rfl ?_
  refine am_pv_cons (v_get fl_Best_35 (by decide +kernel)) rfl ?_
  refine am_pv_cons (v_ic_ne (off := 35) (by decide +kernel) rfl) rfl ?_
  refine am_pv_cons (v_aload_n (q := 0) (by decide +kernel) rfl) rfl ?_
  refine am_pv_cons (v_get fl_Best_39 (by decide +kernel)) rfl ?_
  refine am_pv_cons (v_aload_n (q := 0) (by decide +kernel) rfl) rfl ?_
  refine am_pv_cons (v_get fl_Best_9 (by decide +kernel)) rfl ?_
  refine am_pv_cons (v_alen (by decide +kernel)) rfl ?_
  refine am_pv_cons (v_ic_ge (off := 23) (by decide +kernel) rfl) rfl ?_
  refine am_pv_cons (v_aload_n (q := 0) (by decide +kernel) rfl) rfl ?_
  refine am_pv_cons (v_get fl_Best_9 (by decide +kernel)) rfl ?_
  refine am_pv_cons (v_aload_n (q := 0) (by decide +kernel) rfl) rfl ?_
  refine am_pv_cons (v_get fl_Best_39 (by decide +kernel)) rfl ?_
  refine am_pv_cons (v_iload_n (q := 1) (by decide +kernel) rfl) rfl ?_
  refine am_pv_cons (v_iast (by decide +kernel)) rfl ?_
  refine am_pv_cons (v_aload_n (q := 0) (by decide +kernel) rfl) rfl ?_
  refine am_pv_cons (v_dup (by decide +kernel)) rfl ?_
  refine am_pv_cons (v_get fl_Best_39 (by decide +kernel)) rfl ?_
  refine am_pv_cons (v_iconst (n := 1) (by decide +kernel) rfl) rfl ?_
  refine am_pv_cons (v_iadd (by decide +kernel)) rfl ?_
  refine am_pv_cons (v_put fw_Best_39 (by decide +kernel)) rfl ?_
  refine am_pv_cons (v_iinc (n := 2) (by decide +kernel) (by decide +kernel)) rfl ?_
  refine am_pv_cons (v_goto (off := -93) (by decide +kernel) rfl) rfl ?_
  refine am_pv_cons (v_return_ (by decide +kernel)) trivial ?_
  exact trivial
def P_Best_pastCampings (E : am_E) (k : Nat) : am_P := [(0, aLa 0), (1, aGet 10 0), (4, aGet 1 0), (7, aIn (fun x => x = 0) 14), (10, aI 0), (11, aGo 23), (14, aI 1), (15, aLa 0), (16, aGet 10 0), (19, aGet 1 0), (22, aB (fun x y => x <<< (y &&& 31))), (23, aRi)]
set_option maxRecDepth 20000 in
theorem pv_Best_pastCampings (E : am_E) (k : Nat) : am_pv E k Y_Best_pastCampings.2.1 Y_Best_pastCampings.2.2.1 Y_Best_pastCampings.1.cls (P_Best_pastCampings E k) := by
  refine am_pv_cons (v_aload_n (q := 0) (by decide +kernel) rfl) rfl ?_
  refine am_pv_cons (v_get fl_Best_18 (by decide +kernel)) rfl ?_
  refine am_pv_cons (v_get fl_Best_50 (by decide +kernel)) rfl ?_
  refine am_pv_cons (v_if_ne (off := 7) (by decide +kernel) rfl) rfl ?_
  refine am_pv_cons (v_iconst (n := 0) (by decide +kernel) rfl) rfl ?_
  refine am_pv_cons (v_goto (off := 12) (by decide +kernel) rfl) rfl ?_
  refine am_pv_cons (v_iconst (n := 1) (by decide +kernel) rfl) rfl ?_
  refine am_pv_cons (v_aload_n (q := 0) (by decide +kernel) rfl) rfl ?_
  refine am_pv_cons (v_get fl_Best_18 (by decide +kernel)) rfl ?_
  refine am_pv_cons (v_get fl_Best_50 (by decide +kernel)) rfl ?_
  refine am_pv_cons (v_ishl (by decide +kernel)) rfl ?_
  refine am_pv_cons (v_ireturn (by decide +kernel)) trivial ?_
  exact trivial
def P_Best_sumOf (E : am_E) (k : Nat) : am_P := [(0, aI 0), (1, aSi 2), (2, aI 0), (3, aSi 3), (4, aLi 3), (5, aLa 0), (6, aGet 10 1), (9, aGet 2 0), (12, aCn (fun x y => x < y) 59), (15, aLa 0), (16, aGet 10 1), (19, aLi 3), (20, aLi 1), (21, aIv E k 2 2 Y_Feelings_isWrongIn), (24, aIf (fun x => x = 0) 53), (27, aLa 0), (28, aGet 10 2), (31, aGet 4 5), (34, aLi 3), (35, aAld 1), (36, aIn (fun x => x = 0) 41), (39, aI (-1)), (40, aRi), (41, aLi 2), (42, aLa 0), (43, aGet 10 2), (46, aGet 4 4), (49, aLi 3), (50, aAld 0), (51, aB (fun x y => x + y)), (52, aSi 2), (53, aInc 3 1), (56, aGo 4), (59, aLi 2), (60, aRi)]
set_option maxRecDepth 20000 in
theorem pv_Best_sumOf (E : am_E) (k : Nat) : am_pv E k Y_Best_sumOf.2.1 Y_Best_sumOf.2.2.1 Y_Best_sumOf.1.cls (P_Best_sumOf E k) := by
  refine am_pv_cons (v_iconst (n := 0) (by decide +kernel) rfl) rfl ?_
  refine am_pv_cons (v_istore_n (q := 2) (by decide +kernel) rfl) rfl ?_
  refine am_pv_cons (v_iconst (n := 0) (by decide +kernel) rfl) rfl ?_
  refine am_pv_cons (v_istore_n (q := 3) (by decide +kernel) rfl) rfl ?_
  refine am_pv_cons (v_iload_n (q := 3) (by decide +kernel) rfl) rfl ?_
  refine am_pv_cons (v_aload_n (q := 0) (by decide +kernel) rfl) rfl ?_
  refine am_pv_cons (v_get fl_Best_22 (by decide +kernel)) rfl ?_
  refine am_pv_cons (v_get fl_Best_53 (by decide +kernel)) rfl ?_
  refine am_pv_cons (v_ic_ge (off := 47) (by decide +kernel) rfl) rfl ?_
  refine am_pv_cons (v_aload_n (q := 0) (by decide +kernel) rfl) rfl ?_
  refine am_pv_cons (v_get fl_Best_22 (by decide +kernel)) rfl ?_
  refine am_pv_cons (v_iload_n (q := 3) (by decide +kernel) rfl) rfl ?_
  refine am_pv_cons (v_iload_n (q := 1) (by decide +kernel) rfl) rfl ?_
  refine am_pv_cons (v_virt (idx := 56) yv_Feelings_isWrongIn rfl rfl (tb4 200 (by decide +kernel) rfl) (by decide +kernel)) rfl ?_
  refine am_pv_cons (v_if_eq (off := 29) (by decide +kernel) rfl) rfl ?_
  refine am_pv_cons (v_aload_n (q := 0) (by decide +kernel) rfl) rfl ?_
  refine am_pv_cons (v_get fl_Best_26 (by decide +kernel)) rfl ?_
  refine am_pv_cons (v_get fl_Best_60 (by decide +kernel)) rfl ?_
  refine am_pv_cons (v_iload_n (q := 3) (by decide +kernel) rfl) rfl ?_
  refine am_pv_cons (v_zald (by decide +kernel)) rfl ?_
  refine am_pv_cons (v_if_ne (off := 5) (by decide +kernel) rfl) rfl ?_
  refine am_pv_cons (v_iconst (n := -1) (by decide +kernel) rfl) rfl ?_
  refine am_pv_cons (v_ireturn (by decide +kernel)) rfl ?_
  refine am_pv_cons (v_iload_n (q := 2) (by decide +kernel) rfl) rfl ?_
  refine am_pv_cons (v_aload_n (q := 0) (by decide +kernel) rfl) rfl ?_
  refine am_pv_cons (v_get fl_Best_26 (by decide +kernel)) rfl ?_
  refine am_pv_cons (v_get fl_Best_64 (by decide +kernel)) rfl ?_
  refine am_pv_cons (v_iload_n (q := 3) (by decide +kernel) rfl) rfl ?_
  refine am_pv_cons (v_iald (by decide +kernel)) rfl ?_
  refine am_pv_cons (v_iadd (by decide +kernel)) rfl ?_
  refine am_pv_cons (v_istore_n (q := 2) (by decide +kernel) rfl) rfl ?_
  refine am_pv_cons (v_iinc (n := 1) (by decide +kernel) (by decide +kernel)) rfl ?_
  refine am_pv_cons (v_goto (off := -52) (by decide +kernel) rfl) rfl ?_
  refine am_pv_cons (v_iload_n (q := 2) (by decide +kernel) rfl) rfl ?_
  refine am_pv_cons (v_ireturn (by decide +kernel)) trivial ?_
  exact trivial
def P_Best_timesTogether (E : am_E) (k : Nat) : am_P := [(0, aI 0), (1, aSi 3), (2, aI 0), (3, aSi 4), (5, aLi 4), (7, aLa 0), (8, aGet 10 4), (11, aCn (fun x y => x < y) 38), (14, aLa 0), (15, aGet 10 5), (18, aLi 4), (20, aAld 0), (21, aLi 1), (22, aLi 2), (23, aIs E k 3 Y_TC_isTogether), (26, aIf (fun x => x = 0) 32), (29, aInc 3 1), (32, aInc 4 1), (35, aGo 5), (38, aLi 3), (39, aRi)]
set_option maxRecDepth 20000 in
theorem pv_Best_timesTogether (E : am_E) (k : Nat) : am_pv E k Y_Best_timesTogether.2.1 Y_Best_timesTogether.2.2.1 Y_Best_timesTogether.1.cls (P_Best_timesTogether E k) := by
  refine am_pv_cons (v_iconst (n := 0) (by decide +kernel) rfl) rfl ?_
  refine am_pv_cons (v_istore_n (q := 3) (by decide +kernel) rfl) rfl ?_
  refine am_pv_cons (v_iconst (n := 0) (by decide +kernel) rfl) rfl ?_
  refine am_pv_cons (v_istore (by decide +kernel)) rfl ?_
  refine am_pv_cons (v_iload (by decide +kernel)) rfl ?_
  refine am_pv_cons (v_aload_n (q := 0) (by decide +kernel) rfl) rfl ?_
  refine am_pv_cons (v_get fl_Best_39 (by decide +kernel)) rfl ?_
  refine am_pv_cons (v_ic_ge (off := 27) (by decide +kernel) rfl) rfl ?_
  refine am_pv_cons (v_aload_n (q := 0) (by decide +kernel) rfl) rfl ?_
  refine am_pv_cons (v_get fl_Best_9 (by decide +kernel)) rfl ?_
  refine am_pv_cons (v_iload (by decide +kernel)) rfl ?_
  refine am_pv_cons (v_iald (by decide +kernel)) rfl ?_
  refine am_pv_cons (v_iload_n (q := 1) (by decide +kernel) rfl) rfl ?_
  refine am_pv_cons (v_iload_n (q := 2) (by decide +kernel) rfl) rfl ?_
  refine am_pv_cons (v_statN (idx := 67) (host := "TwoCamps") ys_TC_isTogether (List.mem_of_getElem? (i := 7) (by decide +kernel)) (by decide +kernel)) rfl ?_
  refine am_pv_cons (v_if_eq (off := 6) (by decide +kernel) rfl) rfl ?_
  refine am_pv_cons (v_iinc (n := 1) (by decide +kernel) (by decide +kernel)) rfl ?_
  refine am_pv_cons (v_iinc (n := 1) (by decide +kernel) (by decide +kernel)) rfl ?_
  refine am_pv_cons (v_goto (off := -30) (by decide +kernel) rfl) rfl ?_
  refine am_pv_cons (v_iload_n (q := 3) (by decide +kernel) rfl) rfl ?_
  refine am_pv_cons (v_ireturn (by decide +kernel)) trivial ?_
  exact trivial
def P_Best_edgeOf (E : am_E) (k : Nat) : am_P := [(0, aI 0), (1, aSi 2), (2, aI 0), (3, aSi 3), (4, aLi 3), (5, aLa 0), (6, aGet 10 4), (9, aCn (fun x y => x < y) 38), (12, aLa 0), (13, aGet 10 1), (16, aLi 1), (17, aLa 0), (18, aGet 10 5), (21, aLi 3), (22, aAld 0), (23, aIv E k 2 2 Y_Feelings_isWrongIn), (26, aIf (fun x => x = 0) 32), (29, aInc 2 1), (32, aInc 3 1), (35, aGo 4), (38, aLi 2), (39, aIn (fun x => 0 < x) 52), (42, aLi 2), (43, aLa 0), (44, aGet 10 4), (47, aCn (fun x y => x < y) 52), (50, aI 0), (51, aRi), (52, aLa 0), (53, aLi 1), (54, aLi 2), (55, aIn (fun x => x = 0) 62), (58, aI 1), (59, aGo 63), (62, aI 0), (63, aIv E k 10 2 Y_Best_leastSumWith), (66, aSi 3), (67, aLi 3), (68, aI (-1)), (69, aCn (fun x y => x = y) 75), (72, aI 1000000), (74, aRi), (75, aLi 2), (76, aIn (fun x => x = 0) 88), (79, aLi 3), (80, aLa 0), (81, aGet 10 3), (84, aB (fun x y => x - y)), (85, aGo 94), (88, aLa 0), (89, aGet 10 3), (92, aLi 3), (93, aB (fun x y => x - y)), (94, aRi)]
set_option maxRecDepth 20000 in
theorem pv_Best_edgeOf (E : am_E) (k : Nat) : am_pv E k Y_Best_edgeOf.2.1 Y_Best_edgeOf.2.2.1 Y_Best_edgeOf.1.cls (P_Best_edgeOf E k) := by
  refine am_pv_cons (v_iconst (n := 0) (by decide +kernel) rfl) rfl ?_
  refine am_pv_cons (v_istore_n (q := 2) (by decide +kernel) rfl) rfl ?_
  refine am_pv_cons (v_iconst (n := 0) (by decide +kernel) rfl) rfl ?_
  refine am_pv_cons (v_istore_n (q := 3) (by decide +kernel) rfl) rfl ?_
  refine am_pv_cons (v_iload_n (q := 3) (by decide +kernel) rfl) rfl ?_
  refine am_pv_cons (v_aload_n (q := 0) (by decide +kernel) rfl) rfl ?_
  refine am_pv_cons (v_get fl_Best_39 (by decide +kernel)) rfl ?_
  refine am_pv_cons (v_ic_ge (off := 29) (by decide +kernel) rfl) rfl ?_
  refine am_pv_cons (v_aload_n (q := 0) (by decide +kernel) rfl) rfl ?_
  refine am_pv_cons (v_get fl_Best_22 (by decide +kernel)) rfl ?_
  refine am_pv_cons (v_iload_n (q := 1) (by decide +kernel) rfl) rfl ?_
  refine am_pv_cons (v_aload_n (q := 0) (by decide +kernel) rfl) rfl ?_
  refine am_pv_cons (v_get fl_Best_9 (by decide +kernel)) rfl ?_
  refine am_pv_cons (v_iload_n (q := 3) (by decide +kernel) rfl) rfl ?_
  refine am_pv_cons (v_iald (by decide +kernel)) rfl ?_
  refine am_pv_cons (v_virt (idx := 56) yv_Feelings_isWrongIn rfl rfl (tb4 200 (by decide +kernel) rfl) (by decide +kernel)) rfl ?_
  refine am_pv_cons (v_if_eq (off := 6) (by decide +kernel) rfl) rfl ?_
  refine am_pv_cons (v_iinc (n := 1) (by decide +kernel) (by decide +kernel)) rfl ?_
  refine am_pv_cons (v_iinc (n := 1) (by decide +kernel) (by decide +kernel)) rfl ?_
  refine am_pv_cons (v_goto (off := -31) (by decide +kernel) rfl) rfl ?_
  refine am_pv_cons (v_iload_n (q := 2) (by decide +kernel) rfl) rfl ?_
  refine am_pv_cons (v_if_le (off := 13) (by decide +kernel) rfl) rfl ?_
  refine am_pv_cons (v_iload_n (q := 2) (by decide +kernel) rfl) rfl ?_
  refine am_pv_cons (v_aload_n (q := 0) (by decide +kernel) rfl) rfl ?_
  refine am_pv_cons (v_get fl_Best_39 (by decide +kernel)) rfl ?_
  refine am_pv_cons (v_ic_ge (off := 5) (by decide +kernel) rfl) rfl ?_
  refine am_pv_cons (v_iconst (n := 0) (by decide +kernel) rfl) rfl ?_
  refine am_pv_cons (v_ireturn (by decide +kernel)) rfl ?_
  refine am_pv_cons (v_aload_n (q := 0) (by decide +kernel) rfl) rfl ?_
  refine am_pv_cons (v_iload_n (q := 1) (by decide +kernel) rfl) rfl ?_
  refine am_pv_cons (v_iload_n (q := 2) (by decide +kernel) rfl) rfl ?_
  refine am_pv_cons (v_if_ne (off := 7) (by decide +kernel) rfl) rfl ?_
  refine am_pv_cons (v_iconst (n := 1) (by decide +kernel) rfl) rfl ?_
  refine am_pv_cons (v_goto (off := 4) (by decide +kernel) rfl) rfl ?_
  refine am_pv_cons (v_iconst (n := 0) (by decide +kernel) rfl) rfl ?_
  refine am_pv_cons (v_virt (idx := 71) yv_Best_leastSumWith rfl rfl (tb5 70 (by decide +kernel) rfl) (by decide +kernel)) rfl ?_
  refine am_pv_cons (v_istore_n (q := 3) (by decide +kernel) rfl) rfl ?_
  refine am_pv_cons (v_iload_n (q := 3) (by decide +kernel) rfl) rfl ?_
  refine am_pv_cons (v_iconst (n := -1) (by decide +kernel) rfl) rfl ?_
  refine am_pv_cons (v_ic_ne (off := 6) (by decide +kernel) rfl) rfl ?_
  refine am_pv_cons (v_ldc (i := 75) (tb5 74 (by decide +kernel) rfl) (by decide +kernel)) rfl ?_
  refine am_pv_cons (v_ireturn (by decide +kernel)) rfl ?_
  refine am_pv_cons (v_iload_n (q := 2) (by decide +kernel) rfl) rfl ?_
  refine am_pv_cons (v_if_ne (off := 12) (by decide +kernel) rfl) rfl ?_
  refine am_pv_cons (v_iload_n (q := 3) (by decide +kernel) rfl) rfl ?_
  refine am_pv_cons (v_aload_n (q := 0) (by decide +kernel) rfl) rfl ?_
  refine am_pv_cons (v_get fl_Best_35 (by decide +kernel)) rfl ?_
  refine am_pv_cons (v_isub (by decide +kernel)) rfl ?_
  refine am_pv_cons (v_goto (off := 9) (by decide +kernel) rfl) rfl ?_
  refine am_pv_cons (v_aload_n (q := 0) (by decide +kernel) rfl) rfl ?_
  refine am_pv_cons (v_get fl_Best_35 (by decide +kernel)) rfl ?_
  refine am_pv_cons (v_iload_n (q := 3) (by decide +kernel) rfl) rfl ?_
  refine am_pv_cons (v_isub (by decide +kernel)) rfl ?_
  refine am_pv_cons (v_ireturn (by decide +kernel)) trivial ?_
  exact trivial
def P_Best_leastSumWith (E : am_E) (k : Nat) : am_P := [(0, aI (-1)), (1, aSi 3), (2, aI 0), (3, aSi 4), (5, aLi 4), (7, aLa 0), (8, aIv E k 10 0 Y_Best_pastCampings), (11, aCn (fun x y => x < y) 62), (14, aLa 0), (15, aGet 10 1), (18, aLi 1), (19, aLi 4), (21, aIv E k 2 2 Y_Feelings_isWrongIn), (24, aLi 2), (25, aCn (fun x y => x = y) 56), (28, aLa 0), (29, aLi 4), (31, aIv E k 10 1 Y_Best_sumOf), (34, aSi 5), (36, aLi 5), (38, aI (-1)), (39, aCf (fun x y => x = y) 56), (42, aLi 3), (43, aI (-1)), (44, aCf (fun x y => x = y) 53), (47, aLi 5), (49, aLi 3), (50, aCn (fun x y => x < y) 56), (53, aLi 5), (55, aSi 3), (56, aInc 4 2), (59, aGo 5), (62, aLi 3), (63, aRi)]
set_option maxRecDepth 20000 in
theorem pv_Best_leastSumWith (E : am_E) (k : Nat) : am_pv E k Y_Best_leastSumWith.2.1 Y_Best_leastSumWith.2.2.1 Y_Best_leastSumWith.1.cls (P_Best_leastSumWith E k) := by
  refine am_pv_cons (v_iconst (n := -1) (by decide +kernel) rfl) rfl ?_
  refine am_pv_cons (v_istore_n (q := 3) (by decide +kernel) rfl) rfl ?_
  refine am_pv_cons (v_iconst (n := 0) (by decide +kernel) rfl) rfl ?_
  refine am_pv_cons (v_istore (by decide +kernel)) rfl ?_
  refine am_pv_cons (v_iload (by decide +kernel)) rfl ?_
  refine am_pv_cons (v_aload_n (q := 0) (by decide +kernel) rfl) rfl ?_
  refine am_pv_cons (v_virt (idx := 42) yv_Best_pastCampings rfl rfl (tb4 192 (by decide +kernel) rfl) (by decide +kernel)) rfl ?_
  refine am_pv_cons (v_ic_ge (off := 51) (by decide +kernel) rfl) rfl ?_
  refine am_pv_cons (v_aload_n (q := 0) (by decide +kernel) rfl) rfl ?_
  refine am_pv_cons (v_get fl_Best_22 (by decide +kernel)) rfl ?_
  refine am_pv_cons (v_iload_n (q := 1) (by decide +kernel) rfl) rfl ?_
  refine am_pv_cons (v_iload (by decide +kernel)) rfl ?_
  refine am_pv_cons (v_virt (idx := 56) yv_Feelings_isWrongIn rfl rfl (tb4 200 (by decide +kernel) rfl) (by decide +kernel)) rfl ?_
  refine am_pv_cons (v_iload_n (q := 2) (by decide +kernel) rfl) rfl ?_
  refine am_pv_cons (v_ic_ne (off := 31) (by decide +kernel) rfl) rfl ?_
  refine am_pv_cons (v_aload_n (q := 0) (by decide +kernel) rfl) rfl ?_
  refine am_pv_cons (v_iload (by decide +kernel)) rfl ?_
  refine am_pv_cons (v_virt (idx := 46) yv_Best_sumOf rfl rfl (tb4 196 (by decide +kernel) rfl) (by decide +kernel)) rfl ?_
  refine am_pv_cons (v_istore (by decide +kernel)) rfl ?_
  refine am_pv_cons (v_iload (by decide +kernel)) rfl ?_
  refine am_pv_cons (v_iconst (n := -1) (by decide +kernel) rfl) rfl ?_
  refine am_pv_cons (v_ic_eq (off := 17) (by decide +kernel) rfl) rfl ?_
  refine am_pv_cons (v_iload_n (q := 3) (by decide +kernel) rfl) rfl ?_
  refine am_pv_cons (v_iconst (n := -1) (by decide +kernel) rfl) rfl ?_
  refine am_pv_cons (v_ic_eq (off := 9) (by decide +kernel) rfl) rfl ?_
  refine am_pv_cons (v_iload (by decide +kernel)) rfl ?_
  refine am_pv_cons (v_iload_n (q := 3) (by decide +kernel) rfl) rfl ?_
  refine am_pv_cons (v_ic_ge (off := 6) (by decide +kernel) rfl) rfl ?_
  refine am_pv_cons (v_iload (by decide +kernel)) rfl ?_
  refine am_pv_cons (v_istore_n (q := 3) (by decide +kernel) rfl) rfl ?_
  refine am_pv_cons (v_iinc (n := 2) (by decide +kernel) (by decide +kernel)) rfl ?_
  refine am_pv_cons (v_goto (off := -54) (by decide +kernel) rfl) rfl ?_
  refine am_pv_cons (v_iload_n (q := 3) (by decide +kernel) rfl) rfl ?_
  refine am_pv_cons (v_ireturn (by decide +kernel)) trivial ?_
  exact trivial
def P_Best_fewestToTell (E : am_E) (k : Nat) : am_P := [(0, aI 1), (1, aLi 1), (2, aB (fun x y => x <<< (y &&& 31))), (3, aI 1), (4, aLi 2), (5, aB (fun x y => x <<< (y &&& 31))), (6, aB (fun x y => x ||| y)), (7, aSi 3), (8, aI (-1)), (9, aSi 4), (11, aI 0), (12, aSi 5), (14, aLi 5), (16, aI 1), (17, aLa 0), (18, aGet 10 0), (21, aGet 1 0), (24, aB (fun x y => x <<< (y &&& 31))), (25, aCn (fun x y => x < y) 87), (28, aLi 4), (30, aI (-1)), (31, aCf (fun x y => x = y) 47), (34, aLi 5), (36, aIs E k 1 Y_Int_bitCount), (39, aLi 4), (41, aIs E k 1 Y_Int_bitCount), (44, aCn (fun x y => x < y) 51), (47, aI 1), (48, aGo 52), (51, aI 0), (52, aSi 6), (54, aLi 5), (56, aLi 3), (57, aB (fun x y => x &&& y)), (58, aIn (fun x => x = 0) 81), (61, aLi 6), (63, aIf (fun x => x = 0) 81), (66, aLa 0), (67, aLi 5), (69, aLi 1), (70, aLi 2), (71, aIv E k 10 3 Y_Best_isEnough), (74, aIf (fun x => x = 0) 81), (77, aLi 5), (79, aSi 4), (81, aInc 5 1), (84, aGo 14), (87, aLi 4), (89, aRi)]
set_option maxRecDepth 20000 in
theorem pv_Best_fewestToTell (E : am_E) (k : Nat) : am_pv E k Y_Best_fewestToTell.2.1 Y_Best_fewestToTell.2.2.1 Y_Best_fewestToTell.1.cls (P_Best_fewestToTell E k) := by
  refine am_pv_cons (v_iconst (n := 1) (by decide +kernel) rfl) rfl ?_
  refine am_pv_cons (v_iload_n (q := 1) (by decide +kernel) rfl) rfl ?_
  refine am_pv_cons (v_ishl (by decide +kernel)) rfl ?_
  refine am_pv_cons (v_iconst (n := 1) (by decide +kernel) rfl) rfl ?_
  refine am_pv_cons (v_iload_n (q := 2) (by decide +kernel) rfl) rfl ?_
  refine am_pv_cons (v_ishl (by decide +kernel)) rfl ?_
  refine am_pv_cons (v_ior (by decide +kernel)) rfl ?_
  refine am_pv_cons (v_istore_n (q := 3) (by decide +kernel) rfl) rfl ?_
  refine am_pv_cons (v_iconst (n := -1) (by decide +kernel) rfl) rfl ?_
  refine am_pv_cons (v_istore (by decide +kernel)) rfl ?_
  refine am_pv_cons (v_iconst (n := 0) (by decide +kernel) rfl) rfl ?_
  refine am_pv_cons (v_istore (by decide +kernel)) rfl ?_
  refine am_pv_cons (v_iload (by decide +kernel)) rfl ?_
  refine am_pv_cons (v_iconst (n := 1) (by decide +kernel) rfl) rfl ?_
  refine am_pv_cons (v_aload_n (q := 0) (by decide +kernel) rfl) rfl ?_
  refine am_pv_cons (v_get fl_Best_18 (by decide +kernel)) rfl ?_
  refine am_pv_cons (v_get fl_Best_50 (by decide +kernel)) rfl ?_
  refine am_pv_cons (v_ishl (by decide +kernel)) rfl ?_
  refine am_pv_cons (v_ic_ge (off := 62) (by decide +kernel) rfl) rfl ?_
  refine am_pv_cons (v_iload (by decide +kernel)) rfl ?_
  refine am_pv_cons (v_iconst (n := -1) (by decide +kernel) rfl) rfl ?_
  refine am_pv_cons (v_ic_eq (off := 16) (by decide +kernel) rfl) rfl ?_
  refine am_pv_cons (v_iload (by decide +kernel)) rfl ?_
  refine am_pv_cons (v_stat (idx := 76) ys_Int_bitCount (tb5 84 (by decide +kernel) rfl) (by decide +kernel)) rfl ?_
  refine am_pv_cons (v_iload (by decide +kernel)) rfl ?_
  refine am_pv_cons (v_stat (idx := 76) ys_Int_bitCount (tb5 84 (by decide +kernel) rfl) (by decide +kernel)) rfl ?_
  refine am_pv_cons (v_ic_ge (off := 7) (by decide +kernel) rfl) rfl ?_
  refine am_pv_cons (v_iconst (n := 1) (by decide +kernel) rfl) rfl ?_
  refine am_pv_cons (v_goto (off := 4) (by decide +kernel) rfl) rfl ?_
  refine am_pv_cons (v_iconst (n := 0) (by decide +kernel) rfl) rfl ?_
  refine am_pv_cons (v_istore (by decide +kernel)) rfl ?_
  refine am_pv_cons (v_iload (by decide +kernel)) rfl ?_
  refine am_pv_cons (v_iload_n (q := 3) (by decide +kernel) rfl) rfl ?_
  refine am_pv_cons (v_iand (by decide +kernel)) rfl ?_
  refine am_pv_cons (v_if_ne (off := 23) (by decide +kernel) rfl) rfl ?_
  refine am_pv_cons (v_iload (by decide +kernel)) rfl ?_
  refine am_pv_cons (v_if_eq (off := 18) (by decide +kernel) rfl) rfl ?_
  refine am_pv_cons (v_aload_n (q := 0) (by decide +kernel) rfl) rfl ?_
  refine am_pv_cons (v_iload (by decide +kernel)) rfl ?_
  refine am_pv_cons (v_iload_n (q := 1) (by decide +kernel) rfl) rfl ?_
  refine am_pv_cons (v_iload_n (q := 2) (by decide +kernel) rfl) rfl ?_
  refine am_pv_cons (v_virt (idx := 81) yv_Best_isEnough rfl rfl (tb5 85 (by decide +kernel) rfl) (by decide +kernel)) rfl ?_
  refine am_pv_cons (v_if_eq (off := 7) (by decide +kernel) rfl) rfl ?_
  refine am_pv_cons (v_iload (by decide +kernel)) rfl ?_
  refine am_pv_cons (v_istore (by decide +kernel)) rfl ?_
  refine am_pv_cons (v_iinc (n := 1) (by decide +kernel) (by decide +kernel)) rfl ?_
  refine am_pv_cons (v_goto (off := -70) (by decide +kernel) rfl) rfl ?_
  refine am_pv_cons (v_iload (by decide +kernel)) rfl ?_
  refine am_pv_cons (v_ireturn (by decide +kernel)) trivial ?_
  exact trivial
def P_Best_isEnough (E : am_E) (k : Nat) : am_P := [(0, aI 0), (1, aSi 4), (3, aLi 4), (5, aLa 0), (6, aGet 10 4), (9, aCn (fun x y => x < y) 54), (12, aLa 0), (13, aGet 10 5), (16, aLi 4), (18, aAld 0), (19, aLa 0), (20, aGet 10 5), (23, aI 0), (24, aAld 0), (25, aB (fun x y => x ^^^ y)), (26, aLi 1), (27, aB (fun x y => x &&& y)), (28, aIn (fun x => x = 0) 48), (31, aLa 0), (32, aGet 10 5), (35, aLi 4), (37, aAld 0), (38, aLi 2), (39, aLi 3), (40, aIs E k 3 Y_TC_isTogether), (43, aIn (fun x => x = 0) 48), (46, aI 0), (47, aRi), (48, aInc 4 1), (51, aGo 3), (54, aI 1), (55, aRi)]
set_option maxRecDepth 20000 in
theorem pv_Best_isEnough (E : am_E) (k : Nat) : am_pv E k Y_Best_isEnough.2.1 Y_Best_isEnough.2.2.1 Y_Best_isEnough.1.cls (P_Best_isEnough E k) := by
  refine am_pv_cons (v_iconst (n := 0) (by decide +kernel) rfl) rfl ?_
  refine am_pv_cons (v_istore (by decide +kernel)) rfl ?_
  refine am_pv_cons (v_iload (by decide +kernel)) rfl ?_
  refine am_pv_cons (v_aload_n (q := 0) (by decide +kernel) rfl) rfl ?_
  refine am_pv_cons (v_get fl_Best_39 (by decide +kernel)) rfl ?_
  refine am_pv_cons (v_ic_ge (off := 45) (by decide +kernel) rfl) rfl ?_
  refine am_pv_cons (v_aload_n (q := 0) (by decide +kernel) rfl) rfl ?_
  refine am_pv_cons (v_get fl_Best_9 (by decide +kernel)) rfl ?_
  refine am_pv_cons (v_iload (by decide +kernel)) rfl ?_
  refine am_pv_cons (v_iald (by decide +kernel)) rfl ?_
  refine am_pv_cons (v_aload_n (q := 0) (by decide +kernel) rfl) rfl ?_
  refine am_pv_cons (v_get fl_Best_9 (by decide +kernel)) rfl ?_
  refine am_pv_cons (v_iconst (n := 0) (by decide +kernel) rfl) rfl ?_
  refine am_pv_cons (v_iald (by decide +kernel)) rfl ?_
  refine am_pv_cons (v_ixor (by decide +kernel)) rfl ?_
  refine am_pv_cons (v_iload_n (q := 1) (by decide +kernel) rfl) rfl ?_
  refine am_pv_cons (v_iand (by decide +kernel)) rfl ?_
  refine am_pv_cons (v_if_ne (off := 20) (by decide +kernel) rfl) rfl ?_
  refine am_pv_cons (v_aload_n (q := 0) (by decide +kernel) rfl) rfl ?_
  refine am_pv_cons (v_get fl_Best_9 (by decide +kernel)) rfl ?_
  refine am_pv_cons (v_iload (by decide +kernel)) rfl ?_
  refine am_pv_cons (v_iald (by decide +kernel)) rfl ?_
  refine am_pv_cons (v_iload_n (q := 2) (by decide +kernel) rfl) rfl ?_
  refine am_pv_cons (v_iload_n (q := 3) (by decide +kernel) rfl) rfl ?_
  refine am_pv_cons (v_statN (idx := 67) (host := "TwoCamps") ys_TC_isTogether (List.mem_of_getElem? (i := 7) (by decide +kernel)) (by decide +kernel)) rfl ?_
  refine am_pv_cons (v_if_ne (off := 5) (by decide +kernel) rfl) rfl ?_
  refine am_pv_cons (v_iconst (n := 0) (by decide +kernel) rfl) rfl ?_
  refine am_pv_cons (v_ireturn (by decide +kernel)) rfl ?_
  refine am_pv_cons (v_iinc (n := 1) (by decide +kernel) (by decide +kernel)) rfl ?_
  refine am_pv_cons (v_goto (off := -48) (by decide +kernel) rfl) rfl ?_
  refine am_pv_cons (v_iconst (n := 1) (by decide +kernel) rfl) rfl ?_
  refine am_pv_cons (v_ireturn (by decide +kernel)) trivial ?_
  exact trivial
def P_Best_leastSumIn (E : am_E) (k : Nat) : am_P := [(0, aLa 0), (1, aGet 10 2), (4, aIv E k 4 0 Y_Law_weigh), (7, aLa 0), (8, aLi 1), (9, aPut 10 7), (12, aLa 0), (13, aI (-1)), (14, aPut 10 8), (17, aLa 0), (18, aI 0), (19, aI 0), (20, aI 0), (21, aIv E k 10 3 Y_Best_spread), (24, aLa 0), (25, aGet 10 8), (28, aRi)]
set_option maxRecDepth 20000 in
theorem pv_Best_leastSumIn (E : am_E) (k : Nat) : am_pv E k Y_Best_leastSumIn.2.1 Y_Best_leastSumIn.2.2.1 Y_Best_leastSumIn.1.cls (P_Best_leastSumIn E k) := by
  refine am_pv_cons (v_aload_n (q := 0) (by decide +kernel) rfl) rfl ?_
  refine am_pv_cons (v_get fl_Best_26 (by decide +kernel)) rfl ?_
  refine am_pv_cons (v_virt (idx := 30) yv_Law_weigh rfl rfl (tb4 191 (by decide +kernel) rfl) (by decide +kernel)) rfl ?_
  refine am_pv_cons (v_aload_n (q := 0) (by decide +kernel) rfl) rfl ?_
  refine am_pv_cons (v_iload_n (q := 1) (by decide +kernel) rfl) rfl ?_
  refine am_pv_cons (v_put fw_Best_84 (by decide +kernel)) rfl ?_
  refine am_pv_cons (v_aload_n (q := 0) (by decide +kernel) rfl) rfl ?_
  refine am_pv_cons (v_iconst (n := -1) (by decide +kernel) rfl) rfl ?_
  refine am_pv_cons (v_put fw_Best_87 (by decide +kernel)) rfl ?_
  refine am_pv_cons (v_aload_n (q := 0) (by decide +kernel) rfl) rfl ?_
  refine am_pv_cons (v_iconst (n := 0) (by decide +kernel) rfl) rfl ?_
  refine am_pv_cons (v_iconst (n := 0) (by decide +kernel) rfl) rfl ?_
  refine am_pv_cons (v_iconst (n := 0) (by decide +kernel) rfl) rfl ?_
  refine am_pv_cons (v_virt (idx := 90) yv_Best_spread rfl rfl (tb4 235 (by decide +kernel) rfl) (by decide +kernel)) rfl ?_
  refine am_pv_cons (v_aload_n (q := 0) (by decide +kernel) rfl) rfl ?_
  refine am_pv_cons (v_get fl_Best_87 (by decide +kernel)) rfl ?_
  refine am_pv_cons (v_ireturn (by decide +kernel)) trivial ?_
  exact trivial
def P_Best_spread (E : am_E) (k : Nat) : am_P := [(0, aLa 0), (1, aGet 10 8), (4, aI (-1)), (5, aCf (fun x y => x = y) 17), (8, aLi 3), (9, aLa 0), (10, aGet 10 8), (13, aCf (fun x y => x < y) 17), (16, aRv), (17, aLi 1), (18, aLa 0), (19, aGet 10 0), (22, aGet 1 0), (25, aCf (fun x y => x < y) 34), (28, aLa 0), (29, aLi 3), (30, aPut 10 8), (33, aRv), (34, aI 0), (35, aSi 4), (37, aLi 4), (39, aLa 0), (40, aGet 10 7), (43, aCn (fun x y => x < y) 98), (46, aLi 4), (48, aLi 2), (49, aCf (fun x y => y < x) 98), (52, aLa 0), (53, aGet 10 6), (56, aLi 1), (57, aLi 4), (59, aAst), (60, aLa 0), (61, aLi 1), (62, aIv E k 10 1 Y_Best_costOfLast), (65, aSi 5), (67, aLi 5), (69, aI (-1)), (70, aCf (fun x y => x = y) 92), (73, aLa 0), (74, aLi 1), (75, aI 1), (76, aB (fun x y => x + y)), (77, aLi 2), (78, aLi 4), (80, aI 1), (81, aB (fun x y => x + y)), (82, aMx k), (85, aLi 3), (86, aLi 5), (88, aB (fun x y => x + y)), (89, aIv E k 10 3 Y_Best_spread), (92, aInc 4 1), (95, aGo 37), (98, aRv)]
set_option maxRecDepth 20000 in
theorem pv_Best_spread (E : am_E) (k : Nat) : am_pv E k Y_Best_spread.2.1 Y_Best_spread.2.2.1 Y_Best_spread.1.cls (P_Best_spread E k) := by
  refine am_pv_cons (v_aload_n (q := 0) (by decide +kernel) rfl) rfl ?_
  refine am_pv_cons (v_get fl_Best_87 (by decide +kernel)) rfl ?_
  refine am_pv_cons (v_iconst (n := -1) (by decide +kernel) rfl) rfl ?_
  refine am_pv_cons (v_ic_eq (off := 12) (by decide +kernel) rfl) rfl ?_
  refine am_pv_cons (v_iload_n (q := 3) (by decide +kernel) rfl) rfl ?_
  refine am_pv_cons (v_aload_n (q := 0) (by decide +kernel) rfl) rfl ?_
  refine am_pv_cons (v_get fl_Best_87 (by decide +kernel)) rfl ?_
  refine am_pv_cons (v_ic_lt (off := 4) (by decide +kernel) rfl) rfl ?_
  refine am_pv_cons (v_return_ (by decide +kernel)) rfl ?_
  refine am_pv_cons (v_iload_n (q := 1) (by decide +kernel) rfl) rfl ?_
  refine am_pv_cons (v_aload_n (q := 0) (by decide +kernel) rfl) rfl ?_
  refine am_pv_cons (v_get fl_Best_18 (by decide +kernel)) rfl ?_
  refine am_pv_cons (v_get fl_Best_50 (by decide +kernel)) rfl ?_
  refine am_pv_cons (v_ic_lt (off := 9) (by decide +kernel) rfl) rfl ?_
  refine am_pv_cons (v_aload_n (q := 0) (by decide +kernel) rfl) rfl ?_
  refine am_pv_cons (v_iload_n (q := 3) (by decide +kernel) rfl) rfl ?_
  refine am_pv_cons (v_put fw_Best_87 (by decide +kernel)) rfl ?_
  refine am_pv_cons (v_return_ (by decide +kernel)) rfl ?_
  refine am_pv_cons (v_iconst (n := 0) (by decide +kernel) rfl) rfl ?_
  refine am_pv_cons (v_istore (by decide +kernel)) rfl ?_
  refine am_pv_cons (v_iload (by decide +kernel)) rfl ?_
  refine am_pv_cons (v_aload_n (q := 0) (by decide +kernel) rfl) rfl ?_
  refine am_pv_cons (v_get fl_Best_84 (by decide +kernel)) rfl ?_
  refine am_pv_cons (v_ic_ge (off := 55) (by decide +kernel) rfl) rfl ?_
  refine am_pv_cons (v_iload (by decide +kernel)) rfl ?_
  refine am_pv_cons (v_iload_n (q := 2) (by decide +kernel) rfl) rfl ?_
  refine am_pv_cons (v_ic_gt (off := 49) (by decide +kernel) rfl) rfl ?_
  refine am_pv_cons (v_aload_n (q := 0) (by decide +kernel) rfl) rfl ?_
  refine am_pv_cons (v_get fl_Best_15 (by decide +kernel)) rfl ?_
  refine am_pv_cons (v_iload_n (q := 1) (by decide +kernel) rfl) rfl ?_
  refine am_pv_cons (v_iload (by decide +kernel)) rfl ?_
  refine am_pv_cons (v_iast (by decide +kernel)) rfl ?_
  refine am_pv_cons (v_aload_n (q := 0) (by decide +kernel) rfl) rfl ?_
  refine am_pv_cons (v_iload_n (q := 1) (by decide +kernel) rfl) rfl ?_
  refine am_pv_cons (v_virt (idx := 94) yv_Best_costOfLast rfl rfl (tb4 239 (by decide +kernel) rfl) (by decide +kernel)) rfl ?_
  refine am_pv_cons (v_istore (by decide +kernel)) rfl ?_
  refine am_pv_cons (v_iload (by decide +kernel)) rfl ?_
  refine am_pv_cons (v_iconst (n := -1) (by decide +kernel) rfl) rfl ?_
  refine am_pv_cons (v_ic_eq (off := 22) (by decide +kernel) rfl) rfl ?_
  refine am_pv_cons (v_aload_n (q := 0) (by decide +kernel) rfl) rfl ?_
  refine am_pv_cons (v_iload_n (q := 1) (by decide +kernel) rfl) rfl ?_
  refine am_pv_cons (v_iconst (n := 1) (by decide +kernel) rfl) rfl ?_
  refine am_pv_cons (v_iadd (by decide +kernel)) rfl ?_
  refine am_pv_cons (v_iload_n (q := 2) (by decide +kernel) rfl) rfl ?_
  refine am_pv_cons (v_iload (by decide +kernel)) rfl ?_
  refine am_pv_cons (v_iconst (n := 1) (by decide +kernel) rfl) rfl ?_
  refine am_pv_cons (v_iadd (by decide +kernel)) rfl ?_
  refine am_pv_cons (v_max (idx := 97) (tb5 5 (by decide +kernel) rfl) max_s math_i max_c (by decide +kernel)) rfl ?_
  refine am_pv_cons (v_iload_n (q := 3) (by decide +kernel) rfl) rfl ?_
  refine am_pv_cons (v_iload (by decide +kernel)) rfl ?_
  refine am_pv_cons (v_iadd (by decide +kernel)) rfl ?_
  refine am_pv_cons (v_virt (idx := 90) yv_Best_spread rfl rfl (tb4 235 (by decide +kernel) rfl) (by decide +kernel)) rfl ?_
  refine am_pv_cons (v_iinc (n := 1) (by decide +kernel) (by decide +kernel)) rfl ?_
  refine am_pv_cons (v_goto (off := -58) (by decide +kernel) rfl) rfl ?_
  refine am_pv_cons (v_return_ (by decide +kernel)) trivial ?_
  exact trivial
def P_Best_costOfLast (E : am_E) (k : Nat) : am_P := [(0, aI 0), (1, aSi 2), (2, aI 0), (3, aSi 3), (4, aLi 3), (5, aLi 1), (6, aCn (fun x y => x < y) 92), (9, aLa 0), (10, aGet 10 1), (13, aLi 3), (14, aLi 1), (15, aIv E k 2 2 Y_Feelings_find), (18, aSi 4), (20, aLi 4), (22, aI (-1)), (23, aCf (fun x y => x = y) 86), (26, aLa 0), (27, aGet 10 1), (30, aLi 4), (32, aLa 0), (33, aGet 10 6), (36, aLi 3), (37, aAld 0), (38, aLa 0), (39, aGet 10 6), (42, aLi 1), (43, aAld 0), (44, aCn (fun x y => x = y) 51), (47, aI 1), (48, aGo 52), (51, aI 0), (52, aIv E k 2 2 Y_Feelings_isWrong), (55, aIf (fun x => x = 0) 86), (58, aLa 0), (59, aGet 10 2), (62, aGet 4 5), (65, aLi 4), (67, aAld 1), (68, aIn (fun x => x = 0) 73), (71, aI (-1)), (72, aRi), (73, aLi 2), (74, aLa 0), (75, aGet 10 2), (78, aGet 4 4), (81, aLi 4), (83, aAld 0), (84, aB (fun x y => x + y)), (85, aSi 2), (86, aInc 3 1), (89, aGo 4), (92, aLi 2), (93, aRi)]
set_option maxRecDepth 20000 in
theorem pv_Best_costOfLast (E : am_E) (k : Nat) : am_pv E k Y_Best_costOfLast.2.1 Y_Best_costOfLast.2.2.1 Y_Best_costOfLast.1.cls (P_Best_costOfLast E k) := by
  refine am_pv_cons (v_iconst (n := 0) (by decide +kernel) rfl) rfl ?_
  refine am_pv_cons (v_istore_n (q := 2) (by decide +kernel) rfl) rfl ?_
  refine am_pv_cons (v_iconst (n := 0) (by decide +kernel) rfl) rfl ?_
  refine am_pv_cons (v_istore_n (q := 3) (by decide +kernel) rfl) rfl ?_
  refine am_pv_cons (v_iload_n (q := 3) (by decide +kernel) rfl) rfl ?_
  refine am_pv_cons (v_iload_n (q := 1) (by decide +kernel) rfl) rfl ?_
  refine am_pv_cons (v_ic_ge (off := 86) (by decide +kernel) rfl) rfl ?_
  refine am_pv_cons (v_aload_n (q := 0) (by decide +kernel) rfl) rfl ?_
  refine am_pv_cons (v_get fl_Best_22 (by decide +kernel)) rfl ?_
  refine am_pv_cons (v_iload_n (q := 3) (by decide +kernel) rfl) rfl ?_
  refine am_pv_cons (v_iload_n (q := 1) (by decide +kernel) rfl) rfl ?_
  refine am_pv_cons (v_virt (idx := 103) yv_Feelings_find rfl rfl (tb5 3 (by decide +kernel) rfl) (by decide +kernel)) rfl ?_
  refine am_pv_cons (v_istore (by decide +kernel)) rfl ?_
  refine am_pv_cons (v_iload (by decide +kernel)) rfl ?_
  refine am_pv_cons (v_iconst (n := -1) (by decide +kernel) rfl) rfl ?_
  refine am_pv_cons (v_ic_eq (off := 63) (by decide +kernel) rfl) rfl ?_
  refine am_pv_cons (v_aload_n (q := 0) (by decide +kernel) rfl) rfl ?_
  refine am_pv_cons (v_get fl_Best_22 (by decide +kernel)) rfl ?_
  refine am_pv_cons (v_iload (by decide +kernel)) rfl ?_
  refine am_pv_cons (v_aload_n (q := 0) (by decide +kernel) rfl) rfl ?_
  refine am_pv_cons (v_get fl_Best_15 (by decide +kernel)) rfl ?_
  refine am_pv_cons (v_iload_n (q := 3) (by decide +kernel) rfl) rfl ?_
  refine am_pv_cons (v_iald (by decide +kernel)) rfl ?_
  refine am_pv_cons (v_aload_n (q := 0) (by decide +kernel) rfl) rfl ?_
  refine am_pv_cons (v_get fl_Best_15 (by decide +kernel)) rfl ?_
  refine am_pv_cons (v_iload_n (q := 1) (by decide +kernel) rfl) rfl ?_
  refine am_pv_cons (v_iald (by decide +kernel)) rfl ?_
  refine am_pv_cons (v_ic_ne (off := 7) (by decide +kernel) rfl) rfl ?_
  refine am_pv_cons (v_iconst (n := 1) (by decide +kernel) rfl) rfl ?_
  refine am_pv_cons (v_goto (off := 4) (by decide +kernel) rfl) rfl ?_
  refine am_pv_cons (v_iconst (n := 0) (by decide +kernel) rfl) rfl ?_
  refine am_pv_cons (v_virt (idx := 106) yv_Feelings_isWrong rfl rfl (tb5 4 (by decide +kernel) rfl) (by decide +kernel)) rfl ?_
  refine am_pv_cons (v_if_eq (off := 31) (by decide +kernel) rfl) rfl ?_
  refine am_pv_cons (v_aload_n (q := 0) (by decide +kernel) rfl) rfl ?_
  refine am_pv_cons (v_get fl_Best_26 (by decide +kernel)) rfl ?_
  refine am_pv_cons (v_get fl_Best_60 (by decide +kernel)) rfl ?_
  refine am_pv_cons (v_iload (by decide +kernel)) rfl ?_
  refine am_pv_cons (v_zald (by decide +kernel)) rfl ?_
  refine am_pv_cons (v_if_ne (off := 5) (by decide +kernel) rfl) rfl ?_
  refine am_pv_cons (v_iconst (n := -1) (by decide +kernel) rfl) rfl ?_
  refine am_pv_cons (v_ireturn (by decide +kernel)) rfl ?_
  refine am_pv_cons (v_iload_n (q := 2) (by decide +kernel) rfl) rfl ?_
  refine am_pv_cons (v_aload_n (q := 0) (by decide +kernel) rfl) rfl ?_
  refine am_pv_cons (v_get fl_Best_26 (by decide +kernel)) rfl ?_
  refine am_pv_cons (v_get fl_Best_64 (by decide +kernel)) rfl ?_
  refine am_pv_cons (v_iload (by decide +kernel)) rfl ?_
  refine am_pv_cons (v_iald (by decide +kernel)) rfl ?_
  refine am_pv_cons (v_iadd (by decide +kernel)) rfl ?_
  refine am_pv_cons (v_istore_n (q := 2) (by decide +kernel) rfl) rfl ?_
  refine am_pv_cons (v_iinc (n := 1) (by decide +kernel) (by decide +kernel)) rfl ?_
  refine am_pv_cons (v_goto (off := -85) (by decide +kernel) rfl) rfl ?_
  refine am_pv_cons (v_iload_n (q := 2) (by decide +kernel) rfl) rfl ?_
  refine am_pv_cons (v_ireturn (by decide +kernel)) trivial ?_
  exact trivial
def P_Sheet_isThere (E : am_E) (k : Nat) : am_P := [(0, aLa 0), (1, aGet 11 0), (4, aI (-1)), (5, aCf (fun x y => x = y) 12), (8, aI 1), (9, aGo 13), (12, aI 0), (13, aRi)]
set_option maxRecDepth 20000 in
theorem pv_Sheet_isThere (E : am_E) (k : Nat) : am_pv E k Y_Sheet_isThere.2.1 Y_Sheet_isThere.2.2.1 Y_Sheet_isThere.1.cls (P_Sheet_isThere E k) := by
  refine am_pv_cons (v_aload_n (q := 0) (by decide +kernel) rfl) rfl ?_
  refine am_pv_cons (v_get fl_Sheet_11 (by decide +kernel)) rfl ?_
  refine am_pv_cons (v_iconst (n := -1) (by decide +kernel) rfl) rfl ?_
  refine am_pv_cons (v_ic_eq (off := 7) (by decide +kernel) rfl) rfl ?_
  refine am_pv_cons (v_iconst (n := 1) (by decide +kernel) rfl) rfl ?_
  refine am_pv_cons (v_goto (off := 4) (by decide +kernel) rfl) rfl ?_
  refine am_pv_cons (v_iconst (n := 0) (by decide +kernel) rfl) rfl ?_
  refine am_pv_cons (v_ireturn (by decide +kernel)) trivial ?_
  exact trivial
def P_Sheet_become (E : am_E) (k : Nat) : am_P := [(0, aLa 0), (1, aLi 1), (2, aPut 11 0), (5, aLa 0), (6, aLi 2), (7, aPut 11 1), (10, aLa 0), (11, aGet 11 2), (14, aI 0), (15, aIs E k 2 Y_Arr_fill), (18, aRv)]
set_option maxRecDepth 20000 in
theorem pv_Sheet_become (E : am_E) (k : Nat) : am_pv E k Y_Sheet_become.2.1 Y_Sheet_become.2.2.1 Y_Sheet_become.1.cls (P_Sheet_become E k) := by
  refine am_pv_cons (v_aload_n (q := 0) (by decide +kernel) rfl) rfl ?_
  refine am_pv_cons (v_iload_n (q := 1) (by decide +kernel) rfl) rfl ?_
  refine am_pv_cons (v_put fw_Sheet_11 (by decide +kernel)) rfl ?_
  refine am_pv_cons (v_aload_n (q := 0) (by decide +kernel) rfl) rfl ?_
  refine am_pv_cons (v_iload_n (q := 2) (by decide +kernel) rfl) rfl ?_
  refine am_pv_cons (v_put fw_Sheet_19 (by decide +kernel)) rfl ?_
  refine am_pv_cons (v_aload_n (q := 0) (by decide +kernel) rfl) rfl ?_
  refine am_pv_cons (v_get fl_Sheet_15 (by decide +kernel)) rfl ?_
  refine am_pv_cons (v_iconst (n := 0) (by decide +kernel) rfl) rfl ?_
  refine am_pv_cons (v_stat (idx := 22) ys_Arr_fill (tb5 127 (by decide +kernel) rfl) (by decide +kernel)) rfl ?_
  refine am_pv_cons (v_return_ (by decide +kernel)) trivial ?_
  exact trivial
def P_Sheet_holds (E : am_E) (k : Nat) : am_P := [(0, aLi 1), (1, aIf (fun x => x < 0) 30), (4, aLi 2), (5, aIf (fun x => x < 0) 30), (8, aLi 1), (9, aLa 0), (10, aGet 11 1), (13, aCf (fun x y => y < x) 30), (16, aLi 2), (17, aLa 0), (18, aGet 11 1), (21, aLi 1), (22, aB (fun x y => x - y)), (23, aCf (fun x y => y < x) 30), (26, aI 1), (27, aGo 31), (30, aI 0), (31, aRi)]
set_option maxRecDepth 20000 in
theorem pv_Sheet_holds (E : am_E) (k : Nat) : am_pv E k Y_Sheet_holds.2.1 Y_Sheet_holds.2.2.1 Y_Sheet_holds.1.cls (P_Sheet_holds E k) := by
  refine am_pv_cons (v_iload_n (q := 1) (by decide +kernel) rfl) rfl ?_
  refine am_pv_cons (v_if_lt (off := 29) (by decide +kernel) rfl) rfl ?_
  refine am_pv_cons (v_iload_n (q := 2) (by decide +kernel) rfl) rfl ?_
  refine am_pv_cons (v_if_lt (off := 25) (by decide +kernel) rfl) rfl ?_
  refine am_pv_cons (v_iload_n (q := 1) (by decide +kernel) rfl) rfl ?_
  refine am_pv_cons (v_aload_n (q := 0) (by decide +kernel) rfl) rfl ?_
  refine am_pv_cons (v_get fl_Sheet_19 (by decide +kernel)) rfl ?_
  refine am_pv_cons (v_ic_gt (off := 17) (by decide +kernel) rfl) rfl ?_
  refine am_pv_cons (v_iload_n (q := 2) (by decide +kernel) rfl) rfl ?_
  refine am_pv_cons (v_aload_n (q := 0) (by decide +kernel) rfl) rfl ?_
  refine am_pv_cons (v_get fl_Sheet_19 (by decide +kernel)) rfl ?_
  refine am_pv_cons (v_iload_n (q := 1) (by decide +kernel) rfl) rfl ?_
  refine am_pv_cons (v_isub (by decide +kernel)) rfl ?_
  refine am_pv_cons (v_ic_gt (off := 7) (by decide +kernel) rfl) rfl ?_
  refine am_pv_cons (v_iconst (n := 1) (by decide +kernel) rfl) rfl ?_
  refine am_pv_cons (v_goto (off := 4) (by decide +kernel) rfl) rfl ?_
  refine am_pv_cons (v_iconst (n := 0) (by decide +kernel) rfl) rfl ?_
  refine am_pv_cons (v_ireturn (by decide +kernel)) trivial ?_
  exact trivial
def P_Sheet_put (E : am_E) (k : Nat) : am_P := [(0, aLa 0), (1, aGet 11 2), (4, aLi 1), (5, aLa 0), (6, aGet 11 0), (9, aIn (fun x => x = 0) 17), (12, aLi 2), (13, aU (fun x => x.toInt8.toInt32)), (14, aGo 31), (17, aLa 0), (18, aGet 11 0), (21, aI 1), (22, aCn (fun x y => x = y) 30), (25, aLi 2), (26, aU (fun x => x.toInt16.toInt32)), (27, aGo 31), (30, aLi 2), (31, aAst), (32, aRv)]
set_option maxRecDepth 20000 in
theorem pv_Sheet_put (E : am_E) (k : Nat) : am_pv E k Y_Sheet_put.2.1 Y_Sheet_put.2.2.1 Y_Sheet_put.1.cls (P_Sheet_put E k) := by
  refine am_pv_cons (v_aload_n (q := 0) (by decide +kernel) rfl) rfl ?_
  refine am_pv_cons (v_get fl_Sheet_15 (by decide +kernel)) rfl ?_
  refine am_pv_cons (v_iload_n (q := 1) (by decide +kernel) rfl) rfl ?_
  refine am_pv_cons (v_aload_n (q := 0) (by decide +kernel) rfl) rfl ?_
  refine am_pv_cons (v_get fl_Sheet_11 (by decide +kernel)) rfl ?_
  refine am_pv_cons (v_if_ne (off := 8) (by decide +kernel) rfl) rfl ?_
  refine am_pv_cons (v_iload_n (q := 2) (by decide +kernel) rfl) rfl ?_
  refine am_pv_cons (v_i2b (by decide +kernel)) rfl ?_
  refine am_pv_cons (v_goto (off := 17) (by decide +kernel) rfl) rfl ?_
  refine am_pv_cons (v_aload_n (q := 0) (by decide +kernel) rfl) rfl ?_
  refine am_pv_cons (v_get fl_Sheet_11 (by decide +kernel)) rfl ?_
  refine am_pv_cons (v_iconst (n := 1) (by decide +kernel) rfl) rfl ?_
  refine am_pv_cons (v_ic_ne (off := 8) (by decide +kernel) rfl) rfl ?_
  refine am_pv_cons (v_iload_n (q := 2) (by decide +kernel) rfl) rfl ?_
  refine am_pv_cons (v_i2s (by decide +kernel)) rfl ?_
  refine am_pv_cons (v_goto (off := 4) (by decide +kernel) rfl) rfl ?_
  refine am_pv_cons (v_iload_n (q := 2) (by decide +kernel) rfl) rfl ?_
  refine am_pv_cons (v_iast (by decide +kernel)) rfl ?_
  refine am_pv_cons (v_return_ (by decide +kernel)) trivial ?_
  exact trivial
end
