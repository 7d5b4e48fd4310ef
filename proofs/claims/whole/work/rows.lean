section
-- ===== PART A: goes FIRST, ahead of the names: the tables' words, and 'selects' of the private methods out of them =====
/-- a private method of a class that the tables say can be made, by its rows of tables_1 -/
def lw_okq (q : MethodName × Nat) : Prop := (q.1.cls ≠ "java/lang/invoke/MethodHandle" ∧ q.1.cls ≠ "java/lang/invoke/VarHandle") ∧ Cond.instantiable q.1.cls q.2 ∈ tables_1 ∧ Cond.privateMethod q.1 ∈ tables_1 ∧ Cond.instanceMethod q.1 ∈ tables_1
theorem lw_p0 : lw_okq (⟨"TwoCamps$Law", "run", "([IIII)I"⟩, 8) := ⟨⟨by decide +kernel, by decide +kernel⟩, List.mem_of_getElem? (i := 124) (by decide +kernel), List.mem_of_getElem? (i := 476) (by decide +kernel), List.mem_of_getElem? (i := 477) (by decide +kernel)⟩
theorem lw_p1 : lw_okq (⟨"TwoCamps$Law", "runOne", "(II)V"⟩, 8) := ⟨⟨by decide +kernel, by decide +kernel⟩, List.mem_of_getElem? (i := 124) (by decide +kernel), List.mem_of_getElem? (i := 480) (by decide +kernel), List.mem_of_getElem? (i := 481) (by decide +kernel)⟩
theorem lw_p2 : lw_okq (⟨"TwoCamps$Law", "push", "(I)V"⟩, 8) := ⟨⟨by decide +kernel, by decide +kernel⟩, List.mem_of_getElem? (i := 124) (by decide +kernel), List.mem_of_getElem? (i := 484) (by decide +kernel), List.mem_of_getElem? (i := 485) (by decide +kernel)⟩
theorem lw_p3 : lw_okq (⟨"TwoCamps$Law", "named", "(II)I"⟩, 8) := ⟨⟨by decide +kernel, by decide +kernel⟩, List.mem_of_getElem? (i := 124) (by decide +kernel), List.mem_of_getElem? (i := 491) (by decide +kernel), List.mem_of_getElem? (i := 492) (by decide +kernel)⟩
theorem lw_p4 : lw_okq (⟨"TwoCamps$Law", "pop", "()I"⟩, 8) := ⟨⟨by decide +kernel, by decide +kernel⟩, List.mem_of_getElem? (i := 124) (by decide +kernel), List.mem_of_getElem? (i := 495) (by decide +kernel), List.mem_of_getElem? (i := 496) (by decide +kernel)⟩
theorem lw_p5 : lw_okq (⟨"TwoCamps$StreetReader", "readLine", "()Z"⟩, 9) := ⟨⟨by decide +kernel, by decide +kernel⟩, List.mem_of_getElem? (i := 218) (by decide +kernel), List.mem_of_getElem? (i := 533) (by decide +kernel), List.mem_of_getElem? (i := 534) (by decide +kernel)⟩
theorem lw_p6 : lw_okq (⟨"TwoCamps$StreetReader", "readPerson", "(I)I"⟩, 9) := ⟨⟨by decide +kernel, by decide +kernel⟩, List.mem_of_getElem? (i := 218) (by decide +kernel), List.mem_of_getElem? (i := 537) (by decide +kernel), List.mem_of_getElem? (i := 538) (by decide +kernel)⟩
theorem lw_p7 : lw_okq (⟨"TwoCamps$StreetReader", "readSign", "()Z"⟩, 9) := ⟨⟨by decide +kernel, by decide +kernel⟩, List.mem_of_getElem? (i := 218) (by decide +kernel), List.mem_of_getElem? (i := 546) (by decide +kernel), List.mem_of_getElem? (i := 547) (by decide +kernel)⟩
theorem lw_p8 : lw_okq (⟨"TwoCamps$StreetReader", "skip", "(I)Z"⟩, 9) := ⟨⟨by decide +kernel, by decide +kernel⟩, List.mem_of_getElem? (i := 218) (by decide +kernel), List.mem_of_getElem? (i := 550) (by decide +kernel), List.mem_of_getElem? (i := 551) (by decide +kernel)⟩
theorem lw_p9 : lw_okq (⟨"TwoCamps$StreetReader", "readStrength", "()Z"⟩, 9) := ⟨⟨by decide +kernel, by decide +kernel⟩, List.mem_of_getElem? (i := 218) (by decide +kernel), List.mem_of_getElem? (i := 554) (by decide +kernel), List.mem_of_getElem? (i := 555) (by decide +kernel)⟩
theorem lw_p10 : lw_okq (⟨"TwoCamps$StreetReader", "readKind", "()Z"⟩, 9) := ⟨⟨by decide +kernel, by decide +kernel⟩, List.mem_of_getElem? (i := 218) (by decide +kernel), List.mem_of_getElem? (i := 563) (by decide +kernel), List.mem_of_getElem? (i := 564) (by decide +kernel)⟩
theorem lw_p11 : lw_okq (⟨"TwoCamps$TextReader", "layTokens", "()V"⟩, 6) := ⟨⟨by decide +kernel, by decide +kernel⟩, List.mem_of_getElem? (i := 190) (by decide +kernel), List.mem_of_getElem? (i := 584) (by decide +kernel), List.mem_of_getElem? (i := 585) (by decide +kernel)⟩
theorem lw_p12 : lw_okq (⟨"TwoCamps$TextReader", "skipBlanks", "(I)I"⟩, 6) := ⟨⟨by decide +kernel, by decide +kernel⟩, List.mem_of_getElem? (i := 190) (by decide +kernel), List.mem_of_getElem? (i := 588) (by decide +kernel), List.mem_of_getElem? (i := 589) (by decide +kernel)⟩
theorem lw_p13 : lw_okq (⟨"TwoCamps$TextReader", "endOfToken", "(I)I"⟩, 6) := ⟨⟨by decide +kernel, by decide +kernel⟩, List.mem_of_getElem? (i := 190) (by decide +kernel), List.mem_of_getElem? (i := 593) (by decide +kernel), List.mem_of_getElem? (i := 594) (by decide +kernel)⟩
theorem lw_p14 : lw_okq (⟨"TwoCamps$TextReader", "tokenOf", "(II)I"⟩, 6) := ⟨⟨by decide +kernel, by decide +kernel⟩, List.mem_of_getElem? (i := 190) (by decide +kernel), List.mem_of_getElem? (i := 606) (by decide +kernel), List.mem_of_getElem? (i := 607) (by decide +kernel)⟩
theorem lw_p15 : lw_okq (⟨"TwoCamps$TextReader", "wordOf", "(II)I"⟩, 6) := ⟨⟨by decide +kernel, by decide +kernel⟩, List.mem_of_getElem? (i := 190) (by decide +kernel), List.mem_of_getElem? (i := 610) (by decide +kernel), List.mem_of_getElem? (i := 611) (by decide +kernel)⟩
def lw_privs_1 : List (MethodName × Nat) := [(⟨"TwoCamps$Law", "run", "([IIII)I"⟩, 8), (⟨"TwoCamps$Law", "runOne", "(II)V"⟩, 8), (⟨"TwoCamps$Law", "push", "(I)V"⟩, 8), (⟨"TwoCamps$Law", "named", "(II)I"⟩, 8), (⟨"TwoCamps$Law", "pop", "()I"⟩, 8), (⟨"TwoCamps$StreetReader", "readLine", "()Z"⟩, 9), (⟨"TwoCamps$StreetReader", "readPerson", "(I)I"⟩, 9), (⟨"TwoCamps$StreetReader", "readSign", "()Z"⟩, 9), (⟨"TwoCamps$StreetReader", "skip", "(I)Z"⟩, 9), (⟨"TwoCamps$StreetReader", "readStrength", "()Z"⟩, 9), (⟨"TwoCamps$StreetReader", "readKind", "()Z"⟩, 9), (⟨"TwoCamps$TextReader", "layTokens", "()V"⟩, 6), (⟨"TwoCamps$TextReader", "skipBlanks", "(I)I"⟩, 6), (⟨"TwoCamps$TextReader", "endOfToken", "(I)I"⟩, 6), (⟨"TwoCamps$TextReader", "tokenOf", "(II)I"⟩, 6), (⟨"TwoCamps$TextReader", "wordOf", "(II)I"⟩, 6)]
theorem lw_r1 : ∀ q ∈ lw_privs_1, lw_okq q := List.forall_mem_cons.mpr ⟨lw_p0, List.forall_mem_cons.mpr ⟨lw_p1, List.forall_mem_cons.mpr ⟨lw_p2, List.forall_mem_cons.mpr ⟨lw_p3, List.forall_mem_cons.mpr ⟨lw_p4, List.forall_mem_cons.mpr ⟨lw_p5, List.forall_mem_cons.mpr ⟨lw_p6, List.forall_mem_cons.mpr ⟨lw_p7, List.forall_mem_cons.mpr ⟨lw_p8, List.forall_mem_cons.mpr ⟨lw_p9, List.forall_mem_cons.mpr ⟨lw_p10, List.forall_mem_cons.mpr ⟨lw_p11, List.forall_mem_cons.mpr ⟨lw_p12, List.forall_mem_cons.mpr ⟨lw_p13, List.forall_mem_cons.mpr ⟨lw_p14, List.forall_mem_cons.mpr ⟨lw_p15, fun _ h => absurd h List.not_mem_nil⟩⟩⟩⟩⟩⟩⟩⟩⟩⟩⟩⟩⟩⟩⟩⟩
theorem lw_p16 : lw_okq (⟨"TwoCamps$TextReader", "spells", "(IILjava/lang/String;)Z"⟩, 6) := ⟨⟨by decide +kernel, by decide +kernel⟩, List.mem_of_getElem? (i := 190) (by decide +kernel), List.mem_of_getElem? (i := 615) (by decide +kernel), List.mem_of_getElem? (i := 616) (by decide +kernel)⟩
theorem lw_p17 : lw_okq (⟨"TwoCamps$TextReader", "numberOf", "(II)I"⟩, 6) := ⟨⟨by decide +kernel, by decide +kernel⟩, List.mem_of_getElem? (i := 190) (by decide +kernel), List.mem_of_getElem? (i := 677) (by decide +kernel), List.mem_of_getElem? (i := 678) (by decide +kernel)⟩
theorem lw_p18 : lw_okq (⟨"TwoCamps$TextReader", "skip", "(I)Z"⟩, 6) := ⟨⟨by decide +kernel, by decide +kernel⟩, List.mem_of_getElem? (i := 190) (by decide +kernel), List.mem_of_getElem? (i := 681) (by decide +kernel), List.mem_of_getElem? (i := 682) (by decide +kernel)⟩
theorem lw_p19 : lw_okq (⟨"TwoCamps$TextReader", "readOr", "(I)Z"⟩, 6) := ⟨⟨by decide +kernel, by decide +kernel⟩, List.mem_of_getElem? (i := 190) (by decide +kernel), List.mem_of_getElem? (i := 685) (by decide +kernel), List.mem_of_getElem? (i := 686) (by decide +kernel)⟩
theorem lw_p20 : lw_okq (⟨"TwoCamps$TextReader", "readAnd", "(I)Z"⟩, 6) := ⟨⟨by decide +kernel, by decide +kernel⟩, List.mem_of_getElem? (i := 190) (by decide +kernel), List.mem_of_getElem? (i := 689) (by decide +kernel), List.mem_of_getElem? (i := 690) (by decide +kernel)⟩
theorem lw_p21 : lw_okq (⟨"TwoCamps$TextReader", "readNot", "(I)Z"⟩, 6) := ⟨⟨by decide +kernel, by decide +kernel⟩, List.mem_of_getElem? (i := 190) (by decide +kernel), List.mem_of_getElem? (i := 693) (by decide +kernel), List.mem_of_getElem? (i := 694) (by decide +kernel)⟩
theorem lw_p22 : lw_okq (⟨"TwoCamps$TextReader", "readComparison", "(I)Z"⟩, 6) := ⟨⟨by decide +kernel, by decide +kernel⟩, List.mem_of_getElem? (i := 190) (by decide +kernel), List.mem_of_getElem? (i := 697) (by decide +kernel), List.mem_of_getElem? (i := 698) (by decide +kernel)⟩
theorem lw_p23 : lw_okq (⟨"TwoCamps$TextReader", "readSum", "(I)Z"⟩, 6) := ⟨⟨by decide +kernel, by decide +kernel⟩, List.mem_of_getElem? (i := 190) (by decide +kernel), List.mem_of_getElem? (i := 701) (by decide +kernel), List.mem_of_getElem? (i := 702) (by decide +kernel)⟩
theorem lw_p24 : lw_okq (⟨"TwoCamps$TextReader", "readTerm", "(I)Z"⟩, 6) := ⟨⟨by decide +kernel, by decide +kernel⟩, List.mem_of_getElem? (i := 190) (by decide +kernel), List.mem_of_getElem? (i := 705) (by decide +kernel), List.mem_of_getElem? (i := 706) (by decide +kernel)⟩
theorem lw_p25 : lw_okq (⟨"TwoCamps$TextReader", "readOne", "(I)Z"⟩, 6) := ⟨⟨by decide +kernel, by decide +kernel⟩, List.mem_of_getElem? (i := 190) (by decide +kernel), List.mem_of_getElem? (i := 709) (by decide +kernel), List.mem_of_getElem? (i := 710) (by decide +kernel)⟩
theorem lw_p26 : lw_okq (⟨"TwoCamps", "isCamping", "(I)Z"⟩, 16) := ⟨⟨by decide +kernel, by decide +kernel⟩, List.mem_of_getElem? (i := 23) (by decide +kernel), List.mem_of_getElem? (i := 765) (by decide +kernel), List.mem_of_getElem? (i := 766) (by decide +kernel)⟩
theorem lw_p27 : lw_okq (⟨"TwoCamps$Camping", "isWrong", "(I)Z"⟩, 6) := ⟨⟨by decide +kernel, by decide +kernel⟩, List.mem_of_getElem? (i := 254) (by decide +kernel), List.mem_of_getElem? (i := 787) (by decide +kernel), List.mem_of_getElem? (i := 788) (by decide +kernel)⟩
theorem lw_p28 : lw_okq (⟨"TwoCamps$Camping", "costOfWrong", "(I)J"⟩, 6) := ⟨⟨by decide +kernel, by decide +kernel⟩, List.mem_of_getElem? (i := 254) (by decide +kernel), List.mem_of_getElem? (i := 817) (by decide +kernel), List.mem_of_getElem? (i := 818) (by decide +kernel)⟩
theorem lw_p29 : lw_okq (⟨"TwoCamps$Camping", "costOfPerson", "(I)J"⟩, 6) := ⟨⟨by decide +kernel, by decide +kernel⟩, List.mem_of_getElem? (i := 254) (by decide +kernel), List.mem_of_getElem? (i := 822) (by decide +kernel), List.mem_of_getElem? (i := 823) (by decide +kernel)⟩
theorem lw_p30 : lw_okq (⟨"TwoCamps", "isAlikeFor", "(ILTwoCamps$Camping;LTwoCamps$Camping;)Z"⟩, 16) := ⟨⟨by decide +kernel, by decide +kernel⟩, List.mem_of_getElem? (i := 23) (by decide +kernel), List.mem_of_getElem? (i := 839) (by decide +kernel), List.mem_of_getElem? (i := 840) (by decide +kernel)⟩
theorem lw_p31 : lw_okq (⟨"TwoCamps$Net", "forcedBy", "(II)I"⟩, 8) := ⟨⟨by decide +kernel, by decide +kernel⟩, List.mem_of_getElem? (i := 281) (by decide +kernel), List.mem_of_getElem? (i := 852) (by decide +kernel), List.mem_of_getElem? (i := 853) (by decide +kernel)⟩
def lw_privs_2 : List (MethodName × Nat) := [(⟨"TwoCamps$TextReader", "spells", "(IILjava/lang/String;)Z"⟩, 6), (⟨"TwoCamps$TextReader", "numberOf", "(II)I"⟩, 6), (⟨"TwoCamps$TextReader", "skip", "(I)Z"⟩, 6), (⟨"TwoCamps$TextReader", "readOr", "(I)Z"⟩, 6), (⟨"TwoCamps$TextReader", "readAnd", "(I)Z"⟩, 6), (⟨"TwoCamps$TextReader", "readNot", "(I)Z"⟩, 6), (⟨"TwoCamps$TextReader", "readComparison", "(I)Z"⟩, 6), (⟨"TwoCamps$TextReader", "readSum", "(I)Z"⟩, 6), (⟨"TwoCamps$TextReader", "readTerm", "(I)Z"⟩, 6), (⟨"TwoCamps$TextReader", "readOne", "(I)Z"⟩, 6), (⟨"TwoCamps", "isCamping", "(I)Z"⟩, 16), (⟨"TwoCamps$Camping", "isWrong", "(I)Z"⟩, 6), (⟨"TwoCamps$Camping", "costOfWrong", "(I)J"⟩, 6), (⟨"TwoCamps$Camping", "costOfPerson", "(I)J"⟩, 6), (⟨"TwoCamps", "isAlikeFor", "(ILTwoCamps$Camping;LTwoCamps$Camping;)Z"⟩, 16), (⟨"TwoCamps$Net", "forcedBy", "(II)I"⟩, 8)]
theorem lw_r2 : ∀ q ∈ lw_privs_2, lw_okq q := List.forall_mem_cons.mpr ⟨lw_p16, List.forall_mem_cons.mpr ⟨lw_p17, List.forall_mem_cons.mpr ⟨lw_p18, List.forall_mem_cons.mpr ⟨lw_p19, List.forall_mem_cons.mpr ⟨lw_p20, List.forall_mem_cons.mpr ⟨lw_p21, List.forall_mem_cons.mpr ⟨lw_p22, List.forall_mem_cons.mpr ⟨lw_p23, List.forall_mem_cons.mpr ⟨lw_p24, List.forall_mem_cons.mpr ⟨lw_p25, List.forall_mem_cons.mpr ⟨lw_p26, List.forall_mem_cons.mpr ⟨lw_p27, List.forall_mem_cons.mpr ⟨lw_p28, List.forall_mem_cons.mpr ⟨lw_p29, List.forall_mem_cons.mpr ⟨lw_p30, List.forall_mem_cons.mpr ⟨lw_p31, fun _ h => absurd h List.not_mem_nil⟩⟩⟩⟩⟩⟩⟩⟩⟩⟩⟩⟩⟩⟩⟩⟩
theorem lw_p32 : lw_okq (⟨"TwoCamps$Net", "reach", "(II)I"⟩, 8) := ⟨⟨by decide +kernel, by decide +kernel⟩, List.mem_of_getElem? (i := 281) (by decide +kernel), List.mem_of_getElem? (i := 874) (by decide +kernel), List.mem_of_getElem? (i := 875) (by decide +kernel)⟩
theorem lw_p33 : lw_okq (⟨"TwoCamps$Net", "walk", "(I)V"⟩, 8) := ⟨⟨by decide +kernel, by decide +kernel⟩, List.mem_of_getElem? (i := 281) (by decide +kernel), List.mem_of_getElem? (i := 886) (by decide +kernel), List.mem_of_getElem? (i := 887) (by decide +kernel)⟩
theorem lw_p34 : lw_okq (⟨"TwoCamps$Net", "arrive", "(III)V"⟩, 8) := ⟨⟨by decide +kernel, by decide +kernel⟩, List.mem_of_getElem? (i := 281) (by decide +kernel), List.mem_of_getElem? (i := 891) (by decide +kernel), List.mem_of_getElem? (i := 892) (by decide +kernel)⟩
theorem lw_p35 : lw_okq (⟨"TwoCamps$Net", "leave", "(I)V"⟩, 8) := ⟨⟨by decide +kernel, by decide +kernel⟩, List.mem_of_getElem? (i := 281) (by decide +kernel), List.mem_of_getElem? (i := 895) (by decide +kernel), List.mem_of_getElem? (i := 896) (by decide +kernel)⟩
theorem lw_p36 : lw_okq (⟨"TwoCamps$Net", "keepIfShorter", "(I)V"⟩, 8) := ⟨⟨by decide +kernel, by decide +kernel⟩, List.mem_of_getElem? (i := 281) (by decide +kernel), List.mem_of_getElem? (i := 900) (by decide +kernel), List.mem_of_getElem? (i := 901) (by decide +kernel)⟩
theorem lw_p37 : lw_okq (⟨"TwoCamps$Best", "pastCampings", "()I"⟩, 9) := ⟨⟨by decide +kernel, by decide +kernel⟩, List.mem_of_getElem? (i := 314) (by decide +kernel), List.mem_of_getElem? (i := 913) (by decide +kernel), List.mem_of_getElem? (i := 914) (by decide +kernel)⟩
theorem lw_p38 : lw_okq (⟨"TwoCamps$Best", "sumOf", "(I)I"⟩, 9) := ⟨⟨by decide +kernel, by decide +kernel⟩, List.mem_of_getElem? (i := 314) (by decide +kernel), List.mem_of_getElem? (i := 917) (by decide +kernel), List.mem_of_getElem? (i := 918) (by decide +kernel)⟩
theorem lw_p39 : lw_okq (⟨"TwoCamps$People", "priceOf", "(I)I"⟩, 3) := ⟨⟨by decide +kernel, by decide +kernel⟩, List.mem_of_getElem? (i := 31) (by decide +kernel), List.mem_of_getElem? (i := 944) (by decide +kernel), List.mem_of_getElem? (i := 945) (by decide +kernel)⟩
theorem lw_p40 : lw_okq (⟨"TwoCamps$Best", "spread", "(III)V"⟩, 9) := ⟨⟨by decide +kernel, by decide +kernel⟩, List.mem_of_getElem? (i := 314) (by decide +kernel), List.mem_of_getElem? (i := 956) (by decide +kernel), List.mem_of_getElem? (i := 957) (by decide +kernel)⟩
theorem lw_p41 : lw_okq (⟨"TwoCamps$Best", "costOfLast", "(I)I"⟩, 9) := ⟨⟨by decide +kernel, by decide +kernel⟩, List.mem_of_getElem? (i := 314) (by decide +kernel), List.mem_of_getElem? (i := 960) (by decide +kernel), List.mem_of_getElem? (i := 961) (by decide +kernel)⟩
theorem lw_p42 : lw_okq (⟨"TwoCamps", "turnWorst", "(I)I"⟩, 16) := ⟨⟨by decide +kernel, by decide +kernel⟩, List.mem_of_getElem? (i := 23) (by decide +kernel), List.mem_of_getElem? (i := 991) (by decide +kernel), List.mem_of_getElem? (i := 992) (by decide +kernel)⟩
theorem lw_p43 : lw_okq (⟨"TwoCamps", "turnAll", "()Z"⟩, 16) := ⟨⟨by decide +kernel, by decide +kernel⟩, List.mem_of_getElem? (i := 23) (by decide +kernel), List.mem_of_getElem? (i := 1008) (by decide +kernel), List.mem_of_getElem? (i := 1009) (by decide +kernel)⟩
theorem lw_p44 : lw_okq (⟨"TwoCamps$Best", "leastSumWith", "(IZ)I"⟩, 9) := ⟨⟨by decide +kernel, by decide +kernel⟩, List.mem_of_getElem? (i := 314) (by decide +kernel), List.mem_of_getElem? (i := 1031) (by decide +kernel), List.mem_of_getElem? (i := 1032) (by decide +kernel)⟩
theorem lw_p45 : lw_okq (⟨"TwoCamps$Best", "isEnough", "(III)Z"⟩, 9) := ⟨⟨by decide +kernel, by decide +kernel⟩, List.mem_of_getElem? (i := 314) (by decide +kernel), List.mem_of_getElem? (i := 1046) (by decide +kernel), List.mem_of_getElem? (i := 1047) (by decide +kernel)⟩
theorem lw_p46 : lw_okq (⟨"TwoCampsModel", "spell", "(IJ)V"⟩, 53) := ⟨⟨by decide +kernel, by decide +kernel⟩, List.mem_of_getElem? (i := 1116) (by decide +kernel), List.mem_of_getElem? (i := 1123) (by decide +kernel), List.mem_of_getElem? (i := 1124) (by decide +kernel)⟩
theorem lw_p47 : lw_okq (⟨"TwoCampsModel", "isPerson", "(I)Z"⟩, 53) := ⟨⟨by decide +kernel, by decide +kernel⟩, List.mem_of_getElem? (i := 1116) (by decide +kernel), List.mem_of_getElem? (i := 1302) (by decide +kernel), List.mem_of_getElem? (i := 1303) (by decide +kernel)⟩
def lw_privs_3 : List (MethodName × Nat) := [(⟨"TwoCamps$Net", "reach", "(II)I"⟩, 8), (⟨"TwoCamps$Net", "walk", "(I)V"⟩, 8), (⟨"TwoCamps$Net", "arrive", "(III)V"⟩, 8), (⟨"TwoCamps$Net", "leave", "(I)V"⟩, 8), (⟨"TwoCamps$Net", "keepIfShorter", "(I)V"⟩, 8), (⟨"TwoCamps$Best", "pastCampings", "()I"⟩, 9), (⟨"TwoCamps$Best", "sumOf", "(I)I"⟩, 9), (⟨"TwoCamps$People", "priceOf", "(I)I"⟩, 3), (⟨"TwoCamps$Best", "spread", "(III)V"⟩, 9), (⟨"TwoCamps$Best", "costOfLast", "(I)I"⟩, 9), (⟨"TwoCamps", "turnWorst", "(I)I"⟩, 16), (⟨"TwoCamps", "turnAll", "()Z"⟩, 16), (⟨"TwoCamps$Best", "leastSumWith", "(IZ)I"⟩, 9), (⟨"TwoCamps$Best", "isEnough", "(III)Z"⟩, 9), (⟨"TwoCampsModel", "spell", "(IJ)V"⟩, 53), (⟨"TwoCampsModel", "isPerson", "(I)Z"⟩, 53)]
theorem lw_r3 : ∀ q ∈ lw_privs_3, lw_okq q := List.forall_mem_cons.mpr ⟨lw_p32, List.forall_mem_cons.mpr ⟨lw_p33, List.forall_mem_cons.mpr ⟨lw_p34, List.forall_mem_cons.mpr ⟨lw_p35, List.forall_mem_cons.mpr ⟨lw_p36, List.forall_mem_cons.mpr ⟨lw_p37, List.forall_mem_cons.mpr ⟨lw_p38, List.forall_mem_cons.mpr ⟨lw_p39, List.forall_mem_cons.mpr ⟨lw_p40, List.forall_mem_cons.mpr ⟨lw_p41, List.forall_mem_cons.mpr ⟨lw_p42, List.forall_mem_cons.mpr ⟨lw_p43, List.forall_mem_cons.mpr ⟨lw_p44, List.forall_mem_cons.mpr ⟨lw_p45, List.forall_mem_cons.mpr ⟨lw_p46, List.forall_mem_cons.mpr ⟨lw_p47, fun _ h => absurd h List.not_mem_nil⟩⟩⟩⟩⟩⟩⟩⟩⟩⟩⟩⟩⟩⟩⟩⟩
theorem lw_p48 : lw_okq (⟨"TwoCampsModel", "tells", "(IIIIII)I"⟩, 53) := ⟨⟨by decide +kernel, by decide +kernel⟩, List.mem_of_getElem? (i := 1116) (by decide +kernel), List.mem_of_getElem? (i := 1312) (by decide +kernel), List.mem_of_getElem? (i := 1313) (by decide +kernel)⟩
theorem lw_p49 : lw_okq (⟨"TwoCampsModel", "of", "(II)I"⟩, 53) := ⟨⟨by decide +kernel, by decide +kernel⟩, List.mem_of_getElem? (i := 1116) (by decide +kernel), List.mem_of_getElem? (i := 1316) (by decide +kernel), List.mem_of_getElem? (i := 1317) (by decide +kernel)⟩
theorem lw_p50 : lw_okq (⟨"TwoCampsModel", "isFeeling", "(I)Z"⟩, 53) := ⟨⟨by decide +kernel, by decide +kernel⟩, List.mem_of_getElem? (i := 1116) (by decide +kernel), List.mem_of_getElem? (i := 1324) (by decide +kernel), List.mem_of_getElem? (i := 1325) (by decide +kernel)⟩
theorem lw_p51 : lw_okq (⟨"TwoCampsModel", "costOf", "(I)I"⟩, 53) := ⟨⟨by decide +kernel, by decide +kernel⟩, List.mem_of_getElem? (i := 1116) (by decide +kernel), List.mem_of_getElem? (i := 1328) (by decide +kernel), List.mem_of_getElem? (i := 1329) (by decide +kernel)⟩
theorem lw_p52 : lw_okq (⟨"TwoCampsModel", "read", "(III)I"⟩, 53) := ⟨⟨by decide +kernel, by decide +kernel⟩, List.mem_of_getElem? (i := 1116) (by decide +kernel), List.mem_of_getElem? (i := 1332) (by decide +kernel), List.mem_of_getElem? (i := 1333) (by decide +kernel)⟩
theorem lw_p53 : lw_okq (⟨"TwoCampsModel", "next", "()V"⟩, 53) := ⟨⟨by decide +kernel, by decide +kernel⟩, List.mem_of_getElem? (i := 1116) (by decide +kernel), List.mem_of_getElem? (i := 1336) (by decide +kernel), List.mem_of_getElem? (i := 1337) (by decide +kernel)⟩
theorem lw_p54 : lw_okq (⟨"TwoCampsModel", "byteAt", "(I)I"⟩, 53) := ⟨⟨by decide +kernel, by decide +kernel⟩, List.mem_of_getElem? (i := 1116) (by decide +kernel), List.mem_of_getElem? (i := 1340) (by decide +kernel), List.mem_of_getElem? (i := 1341) (by decide +kernel)⟩
theorem lw_p55 : lw_okq (⟨"TwoCampsModel", "part", "(J)I"⟩, 53) := ⟨⟨by decide +kernel, by decide +kernel⟩, List.mem_of_getElem? (i := 1116) (by decide +kernel), List.mem_of_getElem? (i := 1352) (by decide +kernel), List.mem_of_getElem? (i := 1353) (by decide +kernel)⟩
theorem lw_p56 : lw_okq (⟨"TwoCampsModel", "isWord", "(J)Z"⟩, 53) := ⟨⟨by decide +kernel, by decide +kernel⟩, List.mem_of_getElem? (i := 1116) (by decide +kernel), List.mem_of_getElem? (i := 1356) (by decide +kernel), List.mem_of_getElem? (i := 1357) (by decide +kernel)⟩
theorem lw_p57 : lw_okq (⟨"TwoCampsModel", "fail", "()V"⟩, 53) := ⟨⟨by decide +kernel, by decide +kernel⟩, List.mem_of_getElem? (i := 1116) (by decide +kernel), List.mem_of_getElem? (i := 1360) (by decide +kernel), List.mem_of_getElem? (i := 1361) (by decide +kernel)⟩
theorem lw_p58 : lw_okq (⟨"TwoCampsModel", "either", "()I"⟩, 53) := ⟨⟨by decide +kernel, by decide +kernel⟩, List.mem_of_getElem? (i := 1116) (by decide +kernel), List.mem_of_getElem? (i := 1364) (by decide +kernel), List.mem_of_getElem? (i := 1365) (by decide +kernel)⟩
theorem lw_p59 : lw_okq (⟨"TwoCampsModel", "both", "()I"⟩, 53) := ⟨⟨by decide +kernel, by decide +kernel⟩, List.mem_of_getElem? (i := 1116) (by decide +kernel), List.mem_of_getElem? (i := 1368) (by decide +kernel), List.mem_of_getElem? (i := 1369) (by decide +kernel)⟩
theorem lw_p60 : lw_okq (⟨"TwoCampsModel", "not", "()I"⟩, 53) := ⟨⟨by decide +kernel, by decide +kernel⟩, List.mem_of_getElem? (i := 1116) (by decide +kernel), List.mem_of_getElem? (i := 1372) (by decide +kernel), List.mem_of_getElem? (i := 1373) (by decide +kernel)⟩
theorem lw_p61 : lw_okq (⟨"TwoCampsModel", "opens", "()Z"⟩, 53) := ⟨⟨by decide +kernel, by decide +kernel⟩, List.mem_of_getElem? (i := 1116) (by decide +kernel), List.mem_of_getElem? (i := 1377) (by decide +kernel), List.mem_of_getElem? (i := 1378) (by decide +kernel)⟩
theorem lw_p62 : lw_okq (⟨"TwoCampsModel", "added", "()I"⟩, 53) := ⟨⟨by decide +kernel, by decide +kernel⟩, List.mem_of_getElem? (i := 1116) (by decide +kernel), List.mem_of_getElem? (i := 1381) (by decide +kernel), List.mem_of_getElem? (i := 1382) (by decide +kernel)⟩
theorem lw_p63 : lw_okq (⟨"TwoCampsModel", "term", "()I"⟩, 53) := ⟨⟨by decide +kernel, by decide +kernel⟩, List.mem_of_getElem? (i := 1116) (by decide +kernel), List.mem_of_getElem? (i := 1385) (by decide +kernel), List.mem_of_getElem? (i := 1386) (by decide +kernel)⟩
def lw_privs_4 : List (MethodName × Nat) := [(⟨"TwoCampsModel", "tells", "(IIIIII)I"⟩, 53), (⟨"TwoCampsModel", "of", "(II)I"⟩, 53), (⟨"TwoCampsModel", "isFeeling", "(I)Z"⟩, 53), (⟨"TwoCampsModel", "costOf", "(I)I"⟩, 53), (⟨"TwoCampsModel", "read", "(III)I"⟩, 53), (⟨"TwoCampsModel", "next", "()V"⟩, 53), (⟨"TwoCampsModel", "byteAt", "(I)I"⟩, 53), (⟨"TwoCampsModel", "part", "(J)I"⟩, 53), (⟨"TwoCampsModel", "isWord", "(J)Z"⟩, 53), (⟨"TwoCampsModel", "fail", "()V"⟩, 53), (⟨"TwoCampsModel", "either", "()I"⟩, 53), (⟨"TwoCampsModel", "both", "()I"⟩, 53), (⟨"TwoCampsModel", "not", "()I"⟩, 53), (⟨"TwoCampsModel", "opens", "()Z"⟩, 53), (⟨"TwoCampsModel", "added", "()I"⟩, 53), (⟨"TwoCampsModel", "term", "()I"⟩, 53)]
theorem lw_r4 : ∀ q ∈ lw_privs_4, lw_okq q := List.forall_mem_cons.mpr ⟨lw_p48, List.forall_mem_cons.mpr ⟨lw_p49, List.forall_mem_cons.mpr ⟨lw_p50, List.forall_mem_cons.mpr ⟨lw_p51, List.forall_mem_cons.mpr ⟨lw_p52, List.forall_mem_cons.mpr ⟨lw_p53, List.forall_mem_cons.mpr ⟨lw_p54, List.forall_mem_cons.mpr ⟨lw_p55, List.forall_mem_cons.mpr ⟨lw_p56, List.forall_mem_cons.mpr ⟨lw_p57, List.forall_mem_cons.mpr ⟨lw_p58, List.forall_mem_cons.mpr ⟨lw_p59, List.forall_mem_cons.mpr ⟨lw_p60, List.forall_mem_cons.mpr ⟨lw_p61, List.forall_mem_cons.mpr ⟨lw_p62, List.forall_mem_cons.mpr ⟨lw_p63, fun _ h => absurd h List.not_mem_nil⟩⟩⟩⟩⟩⟩⟩⟩⟩⟩⟩⟩⟩⟩⟩⟩
theorem lw_p64 : lw_okq (⟨"TwoCampsModel", "one", "()I"⟩, 53) := ⟨⟨by decide +kernel, by decide +kernel⟩, List.mem_of_getElem? (i := 1116) (by decide +kernel), List.mem_of_getElem? (i := 1389) (by decide +kernel), List.mem_of_getElem? (i := 1390) (by decide +kernel)⟩
theorem lw_p65 : lw_okq (⟨"TwoCampsModel", "isSign", "(I)Z"⟩, 53) := ⟨⟨by decide +kernel, by decide +kernel⟩, List.mem_of_getElem? (i := 1116) (by decide +kernel), List.mem_of_getElem? (i := 1393) (by decide +kernel), List.mem_of_getElem? (i := 1394) (by decide +kernel)⟩
theorem lw_p66 : lw_okq (⟨"TwoCampsModel", "name", "()I"⟩, 53) := ⟨⟨by decide +kernel, by decide +kernel⟩, List.mem_of_getElem? (i := 1116) (by decide +kernel), List.mem_of_getElem? (i := 1397) (by decide +kernel), List.mem_of_getElem? (i := 1398) (by decide +kernel)⟩
theorem lw_p67 : lw_okq (⟨"TwoCampsModel", "badThrees", "(I)I"⟩, 53) := ⟨⟨by decide +kernel, by decide +kernel⟩, List.mem_of_getElem? (i := 1116) (by decide +kernel), List.mem_of_getElem? (i := 1412) (by decide +kernel), List.mem_of_getElem? (i := 1413) (by decide +kernel)⟩
theorem lw_p68 : lw_okq (⟨"TwoCampsModel", "isBadThree", "(III)Z"⟩, 53) := ⟨⟨by decide +kernel, by decide +kernel⟩, List.mem_of_getElem? (i := 1116) (by decide +kernel), List.mem_of_getElem? (i := 1416) (by decide +kernel), List.mem_of_getElem? (i := 1417) (by decide +kernel)⟩
theorem lw_p69 : lw_okq (⟨"TwoCampsModel", "goesThrough", "(Z)I"⟩, 53) := ⟨⟨by decide +kernel, by decide +kernel⟩, List.mem_of_getElem? (i := 1116) (by decide +kernel), List.mem_of_getElem? (i := 1441) (by decide +kernel), List.mem_of_getElem? (i := 1442) (by decide +kernel)⟩
theorem lw_p70 : lw_okq (⟨"TwoCampsModel", "personHere", "(I)I"⟩, 53) := ⟨⟨by decide +kernel, by decide +kernel⟩, List.mem_of_getElem? (i := 1116) (by decide +kernel), List.mem_of_getElem? (i := 1445) (by decide +kernel), List.mem_of_getElem? (i := 1446) (by decide +kernel)⟩
theorem lw_p71 : lw_okq (⟨"TwoCampsModel", "byteHere", "()I"⟩, 53) := ⟨⟨by decide +kernel, by decide +kernel⟩, List.mem_of_getElem? (i := 1116) (by decide +kernel), List.mem_of_getElem? (i := 1449) (by decide +kernel), List.mem_of_getElem? (i := 1450) (by decide +kernel)⟩
theorem lw_p72 : lw_okq (⟨"TwoCampsModel", "may", "(I)Z"⟩, 53) := ⟨⟨by decide +kernel, by decide +kernel⟩, List.mem_of_getElem? (i := 1116) (by decide +kernel), List.mem_of_getElem? (i := 1453) (by decide +kernel), List.mem_of_getElem? (i := 1454) (by decide +kernel)⟩
theorem lw_p73 : lw_okq (⟨"TwoCampsModel", "strengthHere", "()I"⟩, 53) := ⟨⟨by decide +kernel, by decide +kernel⟩, List.mem_of_getElem? (i := 1116) (by decide +kernel), List.mem_of_getElem? (i := 1457) (by decide +kernel), List.mem_of_getElem? (i := 1458) (by decide +kernel)⟩
theorem lw_p74 : lw_okq (⟨"TwoCampsModel", "isCamping", "(I)Z"⟩, 53) := ⟨⟨by decide +kernel, by decide +kernel⟩, List.mem_of_getElem? (i := 1116) (by decide +kernel), List.mem_of_getElem? (i := 1473) (by decide +kernel), List.mem_of_getElem? (i := 1474) (by decide +kernel)⟩
theorem lw_p75 : lw_okq (⟨"TwoCampsModel", "looksAt", "(I)V"⟩, 53) := ⟨⟨by decide +kernel, by decide +kernel⟩, List.mem_of_getElem? (i := 1116) (by decide +kernel), List.mem_of_getElem? (i := 1477) (by decide +kernel), List.mem_of_getElem? (i := 1478) (by decide +kernel)⟩
theorem lw_p76 : lw_okq (⟨"TwoCampsModel", "in9", "(II)I"⟩, 53) := ⟨⟨by decide +kernel, by decide +kernel⟩, List.mem_of_getElem? (i := 1116) (by decide +kernel), List.mem_of_getElem? (i := 1481) (by decide +kernel), List.mem_of_getElem? (i := 1482) (by decide +kernel)⟩
theorem lw_p77 : lw_okq (⟨"TwoCampsModel", "lived", "()I"⟩, 53) := ⟨⟨by decide +kernel, by decide +kernel⟩, List.mem_of_getElem? (i := 1116) (by decide +kernel), List.mem_of_getElem? (i := 1488) (by decide +kernel), List.mem_of_getElem? (i := 1489) (by decide +kernel)⟩
theorem lw_p78 : lw_okq (⟨"TwoCampsModel", "wrongs", "()I"⟩, 53) := ⟨⟨by decide +kernel, by decide +kernel⟩, List.mem_of_getElem? (i := 1116) (by decide +kernel), List.mem_of_getElem? (i := 1495) (by decide +kernel), List.mem_of_getElem? (i := 1496) (by decide +kernel)⟩
theorem lw_p79 : lw_okq (⟨"TwoCampsModel", "isWrong", "(I)Z"⟩, 53) := ⟨⟨by decide +kernel, by decide +kernel⟩, List.mem_of_getElem? (i := 1116) (by decide +kernel), List.mem_of_getElem? (i := 1499) (by decide +kernel), List.mem_of_getElem? (i := 1500) (by decide +kernel)⟩
def lw_privs_5 : List (MethodName × Nat) := [(⟨"TwoCampsModel", "one", "()I"⟩, 53), (⟨"TwoCampsModel", "isSign", "(I)Z"⟩, 53), (⟨"TwoCampsModel", "name", "()I"⟩, 53), (⟨"TwoCampsModel", "badThrees", "(I)I"⟩, 53), (⟨"TwoCampsModel", "isBadThree", "(III)Z"⟩, 53), (⟨"TwoCampsModel", "goesThrough", "(Z)I"⟩, 53), (⟨"TwoCampsModel", "personHere", "(I)I"⟩, 53), (⟨"TwoCampsModel", "byteHere", "()I"⟩, 53), (⟨"TwoCampsModel", "may", "(I)Z"⟩, 53), (⟨"TwoCampsModel", "strengthHere", "()I"⟩, 53), (⟨"TwoCampsModel", "isCamping", "(I)Z"⟩, 53), (⟨"TwoCampsModel", "looksAt", "(I)V"⟩, 53), (⟨"TwoCampsModel", "in9", "(II)I"⟩, 53), (⟨"TwoCampsModel", "lived", "()I"⟩, 53), (⟨"TwoCampsModel", "wrongs", "()I"⟩, 53), (⟨"TwoCampsModel", "isWrong", "(I)Z"⟩, 53)]
theorem lw_r5 : ∀ q ∈ lw_privs_5, lw_okq q := List.forall_mem_cons.mpr ⟨lw_p64, List.forall_mem_cons.mpr ⟨lw_p65, List.forall_mem_cons.mpr ⟨lw_p66, List.forall_mem_cons.mpr ⟨lw_p67, List.forall_mem_cons.mpr ⟨lw_p68, List.forall_mem_cons.mpr ⟨lw_p69, List.forall_mem_cons.mpr ⟨lw_p70, List.forall_mem_cons.mpr ⟨lw_p71, List.forall_mem_cons.mpr ⟨lw_p72, List.forall_mem_cons.mpr ⟨lw_p73, List.forall_mem_cons.mpr ⟨lw_p74, List.forall_mem_cons.mpr ⟨lw_p75, List.forall_mem_cons.mpr ⟨lw_p76, List.forall_mem_cons.mpr ⟨lw_p77, List.forall_mem_cons.mpr ⟨lw_p78, List.forall_mem_cons.mpr ⟨lw_p79, fun _ h => absurd h List.not_mem_nil⟩⟩⟩⟩⟩⟩⟩⟩⟩⟩⟩⟩⟩⟩⟩⟩
theorem lw_p80 : lw_okq (⟨"TwoCampsModel", "outside", "()I"⟩, 53) := ⟨⟨by decide +kernel, by decide +kernel⟩, List.mem_of_getElem? (i := 1116) (by decide +kernel), List.mem_of_getElem? (i := 1503) (by decide +kernel), List.mem_of_getElem? (i := 1504) (by decide +kernel)⟩
theorem lw_p81 : lw_okq (⟨"TwoCampsModel", "costBy", "(I)J"⟩, 53) := ⟨⟨by decide +kernel, by decide +kernel⟩, List.mem_of_getElem? (i := 1116) (by decide +kernel), List.mem_of_getElem? (i := 1512) (by decide +kernel), List.mem_of_getElem? (i := 1513) (by decide +kernel)⟩
theorem lw_p82 : lw_okq (⟨"TwoCampsModel", "isPeace", "(I)Z"⟩, 53) := ⟨⟨by decide +kernel, by decide +kernel⟩, List.mem_of_getElem? (i := 1116) (by decide +kernel), List.mem_of_getElem? (i := 1532) (by decide +kernel), List.mem_of_getElem? (i := 1533) (by decide +kernel)⟩
theorem lw_p83 : lw_okq (⟨"TwoCampsModel", "walk", "(I)I"⟩, 53) := ⟨⟨by decide +kernel, by decide +kernel⟩, List.mem_of_getElem? (i := 1116) (by decide +kernel), List.mem_of_getElem? (i := 1540) (by decide +kernel), List.mem_of_getElem? (i := 1541) (by decide +kernel)⟩
theorem lw_p84 : lw_okq (⟨"TwoCampsModel", "goesAll", "()I"⟩, 53) := ⟨⟨by decide +kernel, by decide +kernel⟩, List.mem_of_getElem? (i := 1116) (by decide +kernel), List.mem_of_getElem? (i := 1548) (by decide +kernel), List.mem_of_getElem? (i := 1549) (by decide +kernel)⟩
theorem lw_p85 : lw_okq (⟨"TwoCampsModel", "weighs", "()V"⟩, 53) := ⟨⟨by decide +kernel, by decide +kernel⟩, List.mem_of_getElem? (i := 1116) (by decide +kernel), List.mem_of_getElem? (i := 1552) (by decide +kernel), List.mem_of_getElem? (i := 1553) (by decide +kernel)⟩
theorem lw_p86 : lw_okq (⟨"TwoCampsModel", "sumOf", "(I)I"⟩, 53) := ⟨⟨by decide +kernel, by decide +kernel⟩, List.mem_of_getElem? (i := 1116) (by decide +kernel), List.mem_of_getElem? (i := 1556) (by decide +kernel), List.mem_of_getElem? (i := 1557) (by decide +kernel)⟩
theorem lw_p87 : lw_okq (⟨"TwoCampsModel", "isWrongIn", "(II)Z"⟩, 53) := ⟨⟨by decide +kernel, by decide +kernel⟩, List.mem_of_getElem? (i := 1116) (by decide +kernel), List.mem_of_getElem? (i := 1560) (by decide +kernel), List.mem_of_getElem? (i := 1561) (by decide +kernel)⟩
theorem lw_p88 : lw_okq (⟨"TwoCampsModel", "togethers", "(III)I"⟩, 53) := ⟨⟨by decide +kernel, by decide +kernel⟩, List.mem_of_getElem? (i := 1116) (by decide +kernel), List.mem_of_getElem? (i := 1572) (by decide +kernel), List.mem_of_getElem? (i := 1573) (by decide +kernel)⟩
theorem lw_p89 : lw_okq (⟨"TwoCampsModel", "alls", "(I)I"⟩, 53) := ⟨⟨by decide +kernel, by decide +kernel⟩, List.mem_of_getElem? (i := 1116) (by decide +kernel), List.mem_of_getElem? (i := 1576) (by decide +kernel), List.mem_of_getElem? (i := 1577) (by decide +kernel)⟩
theorem lw_p90 : lw_okq (⟨"TwoCampsModel", "puts", "(IIII)V"⟩, 53) := ⟨⟨by decide +kernel, by decide +kernel⟩, List.mem_of_getElem? (i := 1116) (by decide +kernel), List.mem_of_getElem? (i := 1589) (by decide +kernel), List.mem_of_getElem? (i := 1590) (by decide +kernel)⟩
theorem lw_p91 : lw_okq (⟨"TwoCampsModel", "hangs", "(II)I"⟩, 53) := ⟨⟨by decide +kernel, by decide +kernel⟩, List.mem_of_getElem? (i := 1116) (by decide +kernel), List.mem_of_getElem? (i := 1597) (by decide +kernel), List.mem_of_getElem? (i := 1598) (by decide +kernel)⟩
theorem lw_p92 : lw_okq (⟨"TwoCampsModel", "leastOf", "(I)I"⟩, 53) := ⟨⟨by decide +kernel, by decide +kernel⟩, List.mem_of_getElem? (i := 1116) (by decide +kernel), List.mem_of_getElem? (i := 1601) (by decide +kernel), List.mem_of_getElem? (i := 1602) (by decide +kernel)⟩
theorem lw_p93 : lw_okq (⟨"TwoCampsModel", "steps", "(I)I"⟩, 53) := ⟨⟨by decide +kernel, by decide +kernel⟩, List.mem_of_getElem? (i := 1116) (by decide +kernel), List.mem_of_getElem? (i := 1617) (by decide +kernel), List.mem_of_getElem? (i := 1618) (by decide +kernel)⟩
def lw_privs_6 : List (MethodName × Nat) := [(⟨"TwoCampsModel", "outside", "()I"⟩, 53), (⟨"TwoCampsModel", "costBy", "(I)J"⟩, 53), (⟨"TwoCampsModel", "isPeace", "(I)Z"⟩, 53), (⟨"TwoCampsModel", "walk", "(I)I"⟩, 53), (⟨"TwoCampsModel", "goesAll", "()I"⟩, 53), (⟨"TwoCampsModel", "weighs", "()V"⟩, 53), (⟨"TwoCampsModel", "sumOf", "(I)I"⟩, 53), (⟨"TwoCampsModel", "isWrongIn", "(II)Z"⟩, 53), (⟨"TwoCampsModel", "togethers", "(III)I"⟩, 53), (⟨"TwoCampsModel", "alls", "(I)I"⟩, 53), (⟨"TwoCampsModel", "puts", "(IIII)V"⟩, 53), (⟨"TwoCampsModel", "hangs", "(II)I"⟩, 53), (⟨"TwoCampsModel", "leastOf", "(I)I"⟩, 53), (⟨"TwoCampsModel", "steps", "(I)I"⟩, 53)]
theorem lw_r6 : ∀ q ∈ lw_privs_6, lw_okq q := List.forall_mem_cons.mpr ⟨lw_p80, List.forall_mem_cons.mpr ⟨lw_p81, List.forall_mem_cons.mpr ⟨lw_p82, List.forall_mem_cons.mpr ⟨lw_p83, List.forall_mem_cons.mpr ⟨lw_p84, List.forall_mem_cons.mpr ⟨lw_p85, List.forall_mem_cons.mpr ⟨lw_p86, List.forall_mem_cons.mpr ⟨lw_p87, List.forall_mem_cons.mpr ⟨lw_p88, List.forall_mem_cons.mpr ⟨lw_p89, List.forall_mem_cons.mpr ⟨lw_p90, List.forall_mem_cons.mpr ⟨lw_p91, List.forall_mem_cons.mpr ⟨lw_p92, List.forall_mem_cons.mpr ⟨lw_p93, fun _ h => absurd h List.not_mem_nil⟩⟩⟩⟩⟩⟩⟩⟩⟩⟩⟩⟩⟩⟩
def lw_privs : List (MethodName × Nat) := lw_privs_1 ++ (lw_privs_2 ++ (lw_privs_3 ++ (lw_privs_4 ++ (lw_privs_5 ++ (lw_privs_6)))))
def lw_tbl : List Cond := k2_sels lw_privs ++ tables_1
theorem lw_privs_ok : ∀ q ∈ lw_privs, lw_okq q := by
  show ∀ q ∈ lw_privs_1 ++ (lw_privs_2 ++ (lw_privs_3 ++ (lw_privs_4 ++ (lw_privs_5 ++ (lw_privs_6))))), lw_okq q
  exact List.forall_mem_append.mpr ⟨lw_r1, List.forall_mem_append.mpr ⟨lw_r2, List.forall_mem_append.mpr ⟨lw_r3, List.forall_mem_append.mpr ⟨lw_r4, List.forall_mem_append.mpr ⟨lw_r5, lw_r6⟩⟩⟩⟩⟩
/-- a word of the tables by its place -/
theorem tb_in {w : Cond} (i : Nat) (h : tables_1[i]? = some w) : w ∈ lw_tbl := List.mem_append_right _ (List.mem_of_getElem? h)
theorem tb_pr {y : MethodName} {n : Nat} (i : Nat) (h : lw_privs[i]? = some (y, n)) : Cond.selects y.cls y y ∈ lw_tbl := List.mem_append_left _ (List.mem_map.mpr ⟨(y, n), List.mem_of_getElem? h, rfl⟩)
/-- the words that hold in every state of the run -/
def am_T : List Cond := lw_tbl.filter goodWord
theorem am_T_in {w : Cond} (h : w ∈ am_T) : w ∈ lw_tbl := (List.mem_filter.mp h).1
theorem tb {w : Cond} (i : Nat) (h : tables_1[i]? = some w) (hg : goodWord w = true) : w ∈ am_T := List.mem_filter.mpr ⟨tb_in i h, hg⟩
theorem tb_sel {y : MethodName} {n : Nat} (i : Nat) (h : lw_privs[i]? = some (y, n)) : Cond.selects y.cls y y ∈ am_T := List.mem_filter.mpr ⟨tb_pr i h, rfl⟩
theorem tb_goodIn {ws : List Cond} (h : ∀ w ∈ ws, w ∈ am_T) : GoodIn am_T ws := fun w hw => ⟨h w hw, good_of_word (List.mem_filter.mp (h w hw)).2⟩
theorem tb_lays {C : String} {T : u_T} {N : Nat} (ix : List Nat) (h : (List.range N).all (fun k => decide (tables_1[ix.getD k 0]? = some (u_lay C T k)) && goodWord (u_lay C T k)) = true) : ∀ w ∈ u_ws C T N, w ∈ am_T := by
  intro w hw
  obtain ⟨k, hk, rfl⟩ := List.mem_map.mp hw
  have h1 := List.all_eq_true.mp h k hk
  rw [Bool.and_eq_true, decide_eq_true_eq] at h1
  exact tb _ h1.1 h1.2
theorem tb1 {w : Cond} (i : Nat) (h : tables_1_1[i]? = some w) (hg : goodWord w = true) : w ∈ am_T := List.mem_filter.mpr ⟨List.mem_append_right _ (show w ∈ tables_1 from (List.mem_append_left _ (List.mem_of_getElem? h))), hg⟩
theorem tb2 {w : Cond} (i : Nat) (h : tables_1_2[i]? = some w) (hg : goodWord w = true) : w ∈ am_T := List.mem_filter.mpr ⟨List.mem_append_right _ (show w ∈ tables_1 from (List.mem_append_right _ (List.mem_append_left _ (List.mem_of_getElem? h)))), hg⟩
theorem tb3 {w : Cond} (i : Nat) (h : tables_1_3[i]? = some w) (hg : goodWord w = true) : w ∈ am_T := List.mem_filter.mpr ⟨List.mem_append_right _ (show w ∈ tables_1 from (List.mem_append_right _ (List.mem_append_right _ (List.mem_append_left _ (List.mem_of_getElem? h))))), hg⟩
theorem tb4 {w : Cond} (i : Nat) (h : tables_1_4[i]? = some w) (hg : goodWord w = true) : w ∈ am_T := List.mem_filter.mpr ⟨List.mem_append_right _ (show w ∈ tables_1 from (List.mem_append_right _ (List.mem_append_right _ (List.mem_append_right _ (List.mem_append_left _ (List.mem_of_getElem? h)))))), hg⟩
theorem tb5 {w : Cond} (i : Nat) (h : tables_1_5[i]? = some w) (hg : goodWord w = true) : w ∈ am_T := List.mem_filter.mpr ⟨List.mem_append_right _ (show w ∈ tables_1 from (List.mem_append_right _ (List.mem_append_right _ (List.mem_append_right _ (List.mem_append_right _ (List.mem_append_left _ (List.mem_of_getElem? h))))))), hg⟩
theorem tb6 {w : Cond} (i : Nat) (h : tables_1_6[i]? = some w) (hg : goodWord w = true) : w ∈ am_T := List.mem_filter.mpr ⟨List.mem_append_right _ (show w ∈ tables_1 from (List.mem_append_right _ (List.mem_append_right _ (List.mem_append_right _ (List.mem_append_right _ (List.mem_append_right _ (List.mem_append_left _ (List.mem_of_getElem? h)))))))), hg⟩
theorem tb7 {w : Cond} (i : Nat) (h : tables_1_7[i]? = some w) (hg : goodWord w = true) : w ∈ am_T := List.mem_filter.mpr ⟨List.mem_append_right _ (show w ∈ tables_1 from (List.mem_append_right _ (List.mem_append_right _ (List.mem_append_right _ (List.mem_append_right _ (List.mem_append_right _ (List.mem_append_right _ (List.mem_append_left _ (List.mem_of_getElem? h))))))))), hg⟩
theorem tb8 {w : Cond} (i : Nat) (h : tables_1_8[i]? = some w) (hg : goodWord w = true) : w ∈ am_T := List.mem_filter.mpr ⟨List.mem_append_right _ (show w ∈ tables_1 from (List.mem_append_right _ (List.mem_append_right _ (List.mem_append_right _ (List.mem_append_right _ (List.mem_append_right _ (List.mem_append_right _ (List.mem_append_right _ (List.mem_of_getElem? h))))))))), hg⟩
end
section
def kF0 : u_T := fun k => match k with
  | 0 => ("TwoCamps", "people", "LTwoCamps$People;", true)
  | 1 => ("TwoCamps", "keptPeople", "LTwoCamps$People;", true)
  | 2 => ("TwoCamps", "feelings", "LTwoCamps$Feelings;", true)
  | 3 => ("TwoCamps", "keptFeelings", "LTwoCamps$Feelings;", true)
  | 4 => ("TwoCamps", "kept", "Z", false)
  | 5 => ("TwoCamps", "keptRule", "I", false)
  | 6 => ("TwoCamps", "tape", "LTwoCamps$Tape;", true)
  | 7 => ("TwoCamps", "law", "LTwoCamps$Law;", true)
  | 8 => ("TwoCamps", "textReader", "LTwoCamps$TextReader;", true)
  | 9 => ("TwoCamps", "streetReader", "LTwoCamps$StreetReader;", true)
  | 10 => ("TwoCamps", "campings", "[LTwoCamps$Camping;", true)
  | 11 => ("TwoCamps", "campingCount", "I", false)
  | 12 => ("TwoCamps", "moved", "LTwoCamps$Camping;", true)
  | 13 => ("TwoCamps", "net", "LTwoCamps$Net;", true)
  | 14 => ("TwoCamps", "best", "LTwoCamps$Best;", true)
  | _ => ("TwoCamps", "sheets", "[LTwoCamps$Sheet;", true)
def kT0 : Nat → FieldType := fun k => match k with
  | 0 => .object "TwoCamps$People"
  | 1 => .object "TwoCamps$People"
  | 2 => .object "TwoCamps$Feelings"
  | 3 => .object "TwoCamps$Feelings"
  | 4 => .boolean
  | 5 => .int
  | 6 => .object "TwoCamps$Tape"
  | 7 => .object "TwoCamps$Law"
  | 8 => .object "TwoCamps$TextReader"
  | 9 => .object "TwoCamps$StreetReader"
  | 10 => .array (.object "TwoCamps$Camping")
  | 11 => .int
  | 12 => .object "TwoCamps$Camping"
  | 13 => .object "TwoCamps$Net"
  | 14 => .object "TwoCamps$Best"
  | _ => .array (.object "TwoCamps$Sheet")
set_option maxRecDepth 20000 in
theorem kI0 : ∀ w ∈ u_ws "TwoCamps" kF0 16, w ∈ am_T := tb_lays [388, 390, 392, 394, 396, 398, 400, 402, 404, 406, 408, 410, 412, 414, 416, 418] (by decide +kernel)
theorem kN0 : ∀ a, a < 16 → ∀ b, b < 16 → a ≠ b → (kF0 a).2.1 ≠ (kF0 b).2.1 := by decide +kernel
theorem kO0 : ∀ k, k < 16 → parseFieldDescriptor (kF0 k).2.2.1 = some (kT0 k) := by decide +kernel
def kF1 : u_T := fun k => match k with
  | 0 => ("TwoCamps$People", "size", "I", false)
  | 1 => ("TwoCamps$People", "prices", "[I", true)
  | _ => ("TwoCamps$People", "leads", "[I", true)
def kT1 : Nat → FieldType := fun k => match k with
  | 0 => .int
  | 1 => .array .int
  | _ => .array .int
set_option maxRecDepth 20000 in
theorem kI1 : ∀ w ∈ u_ws "TwoCamps$People" kF1 3, w ∈ am_T := tb_lays [47, 49, 51] (by decide +kernel)
theorem kN1 : ∀ a, a < 3 → ∀ b, b < 3 → a ≠ b → (kF1 a).2.1 ≠ (kF1 b).2.1 := by decide +kernel
theorem kO1 : ∀ k, k < 3 → parseFieldDescriptor (kF1 k).2.2.1 = some (kT1 k) := by decide +kernel
def kF2 : u_T := fun k => match k with
  | 0 => ("TwoCamps$Feelings", "size", "I", false)
  | 1 => ("TwoCamps$Feelings", "lesser", "[I", true)
  | 2 => ("TwoCamps$Feelings", "greater", "[I", true)
  | 3 => ("TwoCamps$Feelings", "signs", "[I", true)
  | 4 => ("TwoCamps$Feelings", "strengths", "[I", true)
  | 5 => ("TwoCamps$Feelings", "kinds", "[I", true)
  | 6 => ("TwoCamps$Feelings", "numbers", "[I", true)
  | _ => ("TwoCamps$Feelings", "keptSigns", "[I", true)
def kT2 : Nat → FieldType := fun k => match k with
  | 0 => .int
  | 1 => .array .int
  | 2 => .array .int
  | 3 => .array .int
  | 4 => .array .int
  | 5 => .array .int
  | 6 => .array .int
  | _ => .array .int
set_option maxRecDepth 20000 in
theorem kI2 : ∀ w ∈ u_ws "TwoCamps$Feelings" kF2 8, w ∈ am_T := tb_lays [91, 93, 95, 97, 99, 101, 103, 105] (by decide +kernel)
theorem kN2 : ∀ a, a < 8 → ∀ b, b < 8 → a ≠ b → (kF2 a).2.1 ≠ (kF2 b).2.1 := by decide +kernel
theorem kO2 : ∀ k, k < 8 → parseFieldDescriptor (kF2 k).2.2.1 = some (kT2 k) := by decide +kernel
def kF3 : u_T := fun k => match k with
  | 0 => ("TwoCamps$Tape", "size", "I", false)
  | _ => ("TwoCamps$Tape", "bytes", "[I", true)
def kT3 : Nat → FieldType := fun k => match k with
  | 0 => .int
  | _ => .array .int
set_option maxRecDepth 20000 in
theorem kI3 : ∀ w ∈ u_ws "TwoCamps$Tape" kF3 2, w ∈ am_T := tb_lays [118, 120] (by decide +kernel)
theorem kN3 : ∀ a, a < 2 → ∀ b, b < 2 → a ≠ b → (kF3 a).2.1 ≠ (kF3 b).2.1 := by decide +kernel
theorem kO3 : ∀ k, k < 2 → parseFieldDescriptor (kF3 k).2.2.1 = some (kT3 k) := by decide +kernel
def kF4 : u_T := fun k => match k with
  | 0 => ("TwoCamps$Law", "feelings", "LTwoCamps$Feelings;", true)
  | 1 => ("TwoCamps$Law", "texts", "[LTwoCamps$Text;", true)
  | 2 => ("TwoCamps$Law", "textCount", "I", false)
  | 3 => ("TwoCamps$Law", "rule", "I", false)
  | 4 => ("TwoCamps$Law", "costs", "[I", true)
  | 5 => ("TwoCamps$Law", "lets", "[Z", true)
  | 6 => ("TwoCamps$Law", "stack", "[I", true)
  | _ => ("TwoCamps$Law", "top", "I", false)
def kT4 : Nat → FieldType := fun k => match k with
  | 0 => .object "TwoCamps$Feelings"
  | 1 => .array (.object "TwoCamps$Text")
  | 2 => .int
  | 3 => .int
  | 4 => .array .int
  | 5 => .array .boolean
  | 6 => .array .int
  | _ => .int
set_option maxRecDepth 20000 in
theorem kI4 : ∀ w ∈ u_ws "TwoCamps$Law" kF4 8, w ∈ am_T := tb_lays [172, 174, 176, 178, 180, 182, 184, 186] (by decide +kernel)
theorem kN4 : ∀ a, a < 8 → ∀ b, b < 8 → a ≠ b → (kF4 a).2.1 ≠ (kF4 b).2.1 := by decide +kernel
theorem kO4 : ∀ k, k < 8 → parseFieldDescriptor (kF4 k).2.2.1 = some (kT4 k) := by decide +kernel
def kF5 : u_T := fun k => match k with
  | 0 => ("TwoCamps$Text", "tokens", "[I", true)
  | 1 => ("TwoCamps$Text", "size", "I", false)
  | _ => ("TwoCamps$Text", "half", "I", false)
def kT5 : Nat → FieldType := fun k => match k with
  | 0 => .array .int
  | 1 => .int
  | _ => .int
set_option maxRecDepth 20000 in
theorem kI5 : ∀ w ∈ u_ws "TwoCamps$Text" kF5 3, w ∈ am_T := tb_lays [142, 144, 146] (by decide +kernel)
theorem kN5 : ∀ a, a < 3 → ∀ b, b < 3 → a ≠ b → (kF5 a).2.1 ≠ (kF5 b).2.1 := by decide +kernel
theorem kO5 : ∀ k, k < 3 → parseFieldDescriptor (kF5 k).2.2.1 = some (kT5 k) := by decide +kernel
def kF6 : u_T := fun k => match k with
  | 0 => ("TwoCamps$TextReader", "tape", "LTwoCamps$Tape;", true)
  | 1 => ("TwoCamps$TextReader", "tokens", "[I", true)
  | 2 => ("TwoCamps$TextReader", "places", "[I", true)
  | 3 => ("TwoCamps$TextReader", "at", "I", false)
  | 4 => ("TwoCamps$TextReader", "token", "I", false)
  | _ => ("TwoCamps$TextReader", "read", "LTwoCamps$Text;", true)
def kT6 : Nat → FieldType := fun k => match k with
  | 0 => .object "TwoCamps$Tape"
  | 1 => .array .int
  | 2 => .array .int
  | 3 => .int
  | 4 => .int
  | _ => .object "TwoCamps$Text"
set_option maxRecDepth 20000 in
theorem kI6 : ∀ w ∈ u_ws "TwoCamps$TextReader" kF6 6, w ∈ am_T := tb_lays [204, 206, 208, 210, 212, 214] (by decide +kernel)
theorem kN6 : ∀ a, a < 6 → ∀ b, b < 6 → a ≠ b → (kF6 a).2.1 ≠ (kF6 b).2.1 := by decide +kernel
theorem kO6 : ∀ k, k < 6 → parseFieldDescriptor (kF6 k).2.2.1 = some (kT6 k) := by decide +kernel
def kF7 : u_T := fun k => match k with
  | 0 => ("TwoCamps$StreetReader", "tape", "LTwoCamps$Tape;", true)
  | 1 => ("TwoCamps$StreetReader", "people", "LTwoCamps$People;", true)
  | 2 => ("TwoCamps$StreetReader", "feelings", "LTwoCamps$Feelings;", true)
  | 3 => ("TwoCamps$StreetReader", "place", "I", false)
  | 4 => ("TwoCamps$StreetReader", "first", "I", false)
  | 5 => ("TwoCamps$StreetReader", "second", "I", false)
  | 6 => ("TwoCamps$StreetReader", "sign", "I", false)
  | 7 => ("TwoCamps$StreetReader", "strength", "I", false)
  | _ => ("TwoCamps$StreetReader", "kind", "I", false)
def kT7 : Nat → FieldType := fun k => match k with
  | 0 => .object "TwoCamps$Tape"
  | 1 => .object "TwoCamps$People"
  | 2 => .object "TwoCamps$Feelings"
  | 3 => .int
  | 4 => .int
  | 5 => .int
  | 6 => .int
  | 7 => .int
  | _ => .int
set_option maxRecDepth 20000 in
theorem kI7 : ∀ w ∈ u_ws "TwoCamps$StreetReader" kF7 9, w ∈ am_T := tb_lays [233, 235, 237, 239, 241, 243, 245, 247, 249] (by decide +kernel)
theorem kN7 : ∀ a, a < 9 → ∀ b, b < 9 → a ≠ b → (kF7 a).2.1 ≠ (kF7 b).2.1 := by decide +kernel
theorem kO7 : ∀ k, k < 9 → parseFieldDescriptor (kF7 k).2.2.1 = some (kT7 k) := by decide +kernel
def kF8 : u_T := fun k => match k with
  | 0 => ("TwoCamps$Camping", "people", "LTwoCamps$People;", true)
  | 1 => ("TwoCamps$Camping", "feelings", "LTwoCamps$Feelings;", true)
  | 2 => ("TwoCamps$Camping", "law", "LTwoCamps$Law;", true)
  | 3 => ("TwoCamps$Camping", "kind", "I", false)
  | 4 => ("TwoCamps$Camping", "size", "I", false)
  | _ => ("TwoCamps$Camping", "camps", "[I", true)
def kT8 : Nat → FieldType := fun k => match k with
  | 0 => .object "TwoCamps$People"
  | 1 => .object "TwoCamps$Feelings"
  | 2 => .object "TwoCamps$Law"
  | 3 => .int
  | 4 => .int
  | _ => .array .int
set_option maxRecDepth 20000 in
theorem kI8 : ∀ w ∈ u_ws "TwoCamps$Camping" kF8 6, w ∈ am_T := tb_lays [267, 269, 271, 273, 275, 277] (by decide +kernel)
theorem kN8 : ∀ a, a < 6 → ∀ b, b < 6 → a ≠ b → (kF8 a).2.1 ≠ (kF8 b).2.1 := by decide +kernel
theorem kO8 : ∀ k, k < 6 → parseFieldDescriptor (kF8 k).2.2.1 = some (kT8 k) := by decide +kernel
def kF9 : u_T := fun k => match k with
  | 0 => ("TwoCamps$Net", "people", "LTwoCamps$People;", true)
  | 1 => ("TwoCamps$Net", "feelings", "LTwoCamps$Feelings;", true)
  | 2 => ("TwoCamps$Net", "ringLength", "I", false)
  | 3 => ("TwoCamps$Net", "ringRow", "[I", true)
  | 4 => ("TwoCamps$Net", "queue", "[I", true)
  | 5 => ("TwoCamps$Net", "queued", "I", false)
  | 6 => ("TwoCamps$Net", "before", "[I", true)
  | _ => ("TwoCamps$Net", "steps", "[I", true)
def kT9 : Nat → FieldType := fun k => match k with
  | 0 => .object "TwoCamps$People"
  | 1 => .object "TwoCamps$Feelings"
  | 2 => .int
  | 3 => .array .int
  | 4 => .array .int
  | 5 => .int
  | 6 => .array .int
  | _ => .array .int
set_option maxRecDepth 20000 in
theorem kI9 : ∀ w ∈ u_ws "TwoCamps$Net" kF9 8, w ∈ am_T := tb_lays [296, 298, 300, 302, 304, 306, 308, 310] (by decide +kernel)
theorem kN9 : ∀ a, a < 8 → ∀ b, b < 8 → a ≠ b → (kF9 a).2.1 ≠ (kF9 b).2.1 := by decide +kernel
theorem kO9 : ∀ k, k < 8 → parseFieldDescriptor (kF9 k).2.2.1 = some (kT9 k) := by decide +kernel
def kF10 : u_T := fun k => match k with
  | 0 => ("TwoCamps$Best", "people", "LTwoCamps$People;", true)
  | 1 => ("TwoCamps$Best", "feelings", "LTwoCamps$Feelings;", true)
  | 2 => ("TwoCamps$Best", "law", "LTwoCamps$Law;", true)
  | 3 => ("TwoCamps$Best", "sum", "I", false)
  | 4 => ("TwoCamps$Best", "size", "I", false)
  | 5 => ("TwoCamps$Best", "row", "[I", true)
  | 6 => ("TwoCamps$Best", "camps", "[I", true)
  | 7 => ("TwoCamps$Best", "mostCamps", "I", false)
  | _ => ("TwoCamps$Best", "leastSpread", "I", false)
def kT10 : Nat → FieldType := fun k => match k with
  | 0 => .object "TwoCamps$People"
  | 1 => .object "TwoCamps$Feelings"
  | 2 => .object "TwoCamps$Law"
  | 3 => .int
  | 4 => .int
  | 5 => .array .int
  | 6 => .array .int
  | 7 => .int
  | _ => .int
set_option maxRecDepth 20000 in
theorem kI10 : ∀ w ∈ u_ws "TwoCamps$Best" kF10 9, w ∈ am_T := tb_lays [331, 333, 335, 337, 339, 341, 343, 345, 347] (by decide +kernel)
theorem kN10 : ∀ a, a < 9 → ∀ b, b < 9 → a ≠ b → (kF10 a).2.1 ≠ (kF10 b).2.1 := by decide +kernel
theorem kO10 : ∀ k, k < 9 → parseFieldDescriptor (kF10 k).2.2.1 = some (kT10 k) := by decide +kernel
def kF11 : u_T := fun k => match k with
  | 0 => ("TwoCamps$Sheet", "sort", "I", false)
  | 1 => ("TwoCamps$Sheet", "size", "I", false)
  | _ => ("TwoCamps$Sheet", "cells", "[I", true)
def kT11 : Nat → FieldType := fun k => match k with
  | 0 => .int
  | 1 => .int
  | _ => .array .int
set_option maxRecDepth 20000 in
theorem kI11 : ∀ w ∈ u_ws "TwoCamps$Sheet" kF11 3, w ∈ am_T := tb_lays [365, 367, 369] (by decide +kernel)
theorem kN11 : ∀ a, a < 3 → ∀ b, b < 3 → a ≠ b → (kF11 a).2.1 ≠ (kF11 b).2.1 := by decide +kernel
theorem kO11 : ∀ k, k < 3 → parseFieldDescriptor (kF11 k).2.2.1 = some (kT11 k) := by decide +kernel
def kF12 : u_T := fun k => match k with
  | 0 => ("TwoCampsModel", "thrown", "I", false)
  | 1 => ("TwoCampsModel", "texts", "[I", true)
  | 2 => ("TwoCampsModel", "textSize", "[I", true)
  | 3 => ("TwoCampsModel", "textCount", "I", false)
  | 4 => ("TwoCampsModel", "rule", "I", false)
  | 5 => ("TwoCampsModel", "tape", "[I", true)
  | 6 => ("TwoCampsModel", "taped", "I", false)
  | 7 => ("TwoCampsModel", "price", "[I", true)
  | 8 => ("TwoCampsModel", "led", "[I", true)
  | 9 => ("TwoCampsModel", "people", "I", false)
  | 10 => ("TwoCampsModel", "first", "[I", true)
  | 11 => ("TwoCampsModel", "second", "[I", true)
  | 12 => ("TwoCampsModel", "sign", "[I", true)
  | 13 => ("TwoCampsModel", "strength", "[I", true)
  | 14 => ("TwoCampsModel", "kin", "[I", true)
  | 15 => ("TwoCampsModel", "fixed", "[I", true)
  | 16 => ("TwoCampsModel", "feelings", "I", false)
  | 17 => ("TwoCampsModel", "from", "I", false)
  | 18 => ("TwoCampsModel", "size", "I", false)
  | 19 => ("TwoCampsModel", "token", "I", false)
  | 20 => ("TwoCampsModel", "tokenAt", "I", false)
  | 21 => ("TwoCampsModel", "tokenWorth", "J", false)
  | 22 => ("TwoCampsModel", "here", "I", false)
  | 23 => ("TwoCampsModel", "open", "I", false)
  | 24 => ("TwoCampsModel", "bad", "Z", false)
  | 25 => ("TwoCampsModel", "fault", "I", false)
  | 26 => ("TwoCampsModel", "about", "I", false)
  | 27 => ("TwoCampsModel", "place", "I", false)
  | 28 => ("TwoCampsModel", "wrong", "Z", false)
  | 29 => ("TwoCampsModel", "campKind", "[I", true)
  | 30 => ("TwoCampsModel", "campMany", "[I", true)
  | 31 => ("TwoCampsModel", "campOf", "[I", true)
  | 32 => ("TwoCampsModel", "campings", "I", false)
  | 33 => ("TwoCampsModel", "camp", "[I", true)
  | 34 => ("TwoCampsModel", "peaceful", "I", false)
  | 35 => ("TwoCampsModel", "line", "[I", true)
  | 36 => ("TwoCampsModel", "foundBy", "[I", true)
  | 37 => ("TwoCampsModel", "far", "[I", true)
  | 38 => ("TwoCampsModel", "ringRow", "[I", true)
  | 39 => ("TwoCampsModel", "costs", "[I", true)
  | 40 => ("TwoCampsModel", "mays", "[Z", true)
  | 41 => ("TwoCampsModel", "sums", "[I", true)
  | 42 => ("TwoCampsModel", "leastMany", "I", false)
  | 43 => ("TwoCampsModel", "keptSign", "[I", true)
  | 44 => ("TwoCampsModel", "image", "[I", true)
  | 45 => ("TwoCampsModel", "hasImage", "Z", false)
  | 46 => ("TwoCampsModel", "imagePeople", "I", false)
  | 47 => ("TwoCampsModel", "imageFeelings", "I", false)
  | 48 => ("TwoCampsModel", "imageRule", "I", false)
  | 49 => ("TwoCampsModel", "isThere", "[Z", true)
  | 50 => ("TwoCampsModel", "sorts", "[I", true)
  | 51 => ("TwoCampsModel", "sheetSize", "[I", true)
  | _ => ("TwoCampsModel", "items", "[I", true)
def kT12 : Nat → FieldType := fun k => match k with
  | 0 => .int
  | 1 => .array .int
  | 2 => .array .int
  | 3 => .int
  | 4 => .int
  | 5 => .array .int
  | 6 => .int
  | 7 => .array .int
  | 8 => .array .int
  | 9 => .int
  | 10 => .array .int
  | 11 => .array .int
  | 12 => .array .int
  | 13 => .array .int
  | 14 => .array .int
  | 15 => .array .int
  | 16 => .int
  | 17 => .int
  | 18 => .int
  | 19 => .int
  | 20 => .int
  | 21 => .long
  | 22 => .int
  | 23 => .int
  | 24 => .boolean
  | 25 => .int
  | 26 => .int
  | 27 => .int
  | 28 => .boolean
  | 29 => .array .int
  | 30 => .array .int
  | 31 => .array .int
  | 32 => .int
  | 33 => .array .int
  | 34 => .int
  | 35 => .array .int
  | 36 => .array .int
  | 37 => .array .int
  | 38 => .array .int
  | 39 => .array .int
  | 40 => .array .boolean
  | 41 => .array .int
  | 42 => .int
  | 43 => .array .int
  | 44 => .array .int
  | 45 => .boolean
  | 46 => .int
  | 47 => .int
  | 48 => .int
  | 49 => .array .boolean
  | 50 => .array .int
  | 51 => .array .int
  | _ => .array .int
set_option maxRecDepth 20000 in
theorem kI12 : ∀ w ∈ u_ws "TwoCampsModel" kF12 53, w ∈ am_T := tb_lays [1182, 1184, 1186, 1188, 1190, 1192, 1194, 1196, 1198, 1200, 1202, 1204, 1206, 1208, 1210, 1212, 1214, 1216, 1218, 1220, 1222, 1224, 1226, 1228, 1230, 1232, 1234, 1236, 1238, 1240, 1242, 1244, 1246, 1248, 1250, 1252, 1254, 1256, 1258, 1260, 1262, 1264, 1266, 1268, 1270, 1272, 1274, 1276, 1278, 1280, 1282, 1284, 1286] (by decide +kernel)
theorem kN12 : ∀ a, a < 53 → ∀ b, b < 53 → a ≠ b → (kF12 a).2.1 ≠ (kF12 b).2.1 := by decide +kernel
theorem kO12 : ∀ k, k < 53 → parseFieldDescriptor (kF12 k).2.2.1 = some (kT12 k) := by decide +kernel
abbrev classes : List vw_C := [("TwoCamps", kF0, 16), ("TwoCamps$People", kF1, 3), ("TwoCamps$Feelings", kF2, 8), ("TwoCamps$Tape", kF3, 2), ("TwoCamps$Law", kF4, 8), ("TwoCamps$Text", kF5, 3), ("TwoCamps$TextReader", kF6, 6), ("TwoCamps$StreetReader", kF7, 9), ("TwoCamps$Camping", kF8, 6), ("TwoCamps$Net", kF9, 8), ("TwoCamps$Best", kF10, 9), ("TwoCamps$Sheet", kF11, 3), ("TwoCampsModel", kF12, 53)]
def kT : Nat → Nat → FieldType := fun ci => match ci with
  | 0 => kT0
  | 1 => kT1
  | 2 => kT2
  | 3 => kT3
  | 4 => kT4
  | 5 => kT5
  | 6 => kT6
  | 7 => kT7
  | 8 => kT8
  | 9 => kT9
  | 10 => kT10
  | 11 => kT11
  | _ => kT12
theorem k_all {ci : Nat} {q : vw_C} (h : classes[ci]? = some q) : (∀ w ∈ u_ws q.1 q.2.1 q.2.2, w ∈ am_T) ∧ (∀ a, a < q.2.2 → ∀ b, b < q.2.2 → a ≠ b → (q.2.1 a).2.1 ≠ (q.2.1 b).2.1) ∧ (∀ k, k < q.2.2 → parseFieldDescriptor (q.2.1 k).2.2.1 = some (kT ci k)) := by
  match ci, h with
  | 0, h => cases h; exact ⟨kI0, kN0, kO0⟩
  | 1, h => cases h; exact ⟨kI1, kN1, kO1⟩
  | 2, h => cases h; exact ⟨kI2, kN2, kO2⟩
  | 3, h => cases h; exact ⟨kI3, kN3, kO3⟩
  | 4, h => cases h; exact ⟨kI4, kN4, kO4⟩
  | 5, h => cases h; exact ⟨kI5, kN5, kO5⟩
  | 6, h => cases h; exact ⟨kI6, kN6, kO6⟩
  | 7, h => cases h; exact ⟨kI7, kN7, kO7⟩
  | 8, h => cases h; exact ⟨kI8, kN8, kO8⟩
  | 9, h => cases h; exact ⟨kI9, kN9, kO9⟩
  | 10, h => cases h; exact ⟨kI10, kN10, kO10⟩
  | 11, h => cases h; exact ⟨kI11, kN11, kO11⟩
  | 12, h => cases h; exact ⟨kI12, kN12, kO12⟩
  | n + 13, h => simp [classes] at h
/-- the cells by their names: kind (0 ints, 1 booleans, 2 3 4 rows of Campings, Texts, Sheets, 5 + class), length, codes (0 an int, 1 the long, n + 2 the cell n) -/
def am_sh : List (Nat × Nat × List Nat) := [(5, 0, [3, 6, 9, 17, 0, 0, 25, 27, 44, 49, 50, 0, 71, 73, 78, 81]), (6, 0, [0, 4, 5]), (0, 9, []), (0, 9, []), (6, 0, [0, 7, 8]), (0, 9, []), (0, 9, []), (7, 0, [0, 10, 11, 12, 13, 14, 15, 16]), (0, 36, []), (0, 36, []), (0, 36, []), (0, 36, []), (0, 36, []), (0, 81, []), (0, 36, []), (7, 0, [0, 18, 19, 20, 21, 22, 23, 24]), (0, 36, []), (0, 36, []), (0, 36, []), (0, 36, []), (0, 36, []), (0, 81, []), (0, 36, []), (8, 0, [0, 26]), (0, 160, []), (9, 0, [9, 28, 0, 0, 29, 30, 31, 0]), (3, 6, [30, 32, 34, 36, 38, 40]), (0, 36, []), (1, 36, []), (0, 160, []), (10, 0, [33, 0, 0]), (0, 160, []), (10, 0, [35, 0, 0]), (0, 160, []), (10, 0, [37, 0, 0]), (0, 160, []), (10, 0, [39, 0, 0]), (0, 160, []), (10, 0, [41, 0, 0]), (0, 160, []), (10, 0, [43, 0, 0]), (0, 160, []), (11, 0, [25, 45, 46, 0, 0, 47]), (0, 161, []), (0, 161, []), (10, 0, [48, 0, 0]), (0, 160, []), (12, 0, [25, 3, 9, 0, 0, 0, 0, 0, 0]), (2, 10, [49, 51, 53, 55, 57, 59, 61, 63, 65, 67]), (13, 0, [3, 9, 27, 0, 0, 52]), (0, 9, []), (13, 0, [3, 9, 27, 0, 0, 54]), (0, 9, []), (13, 0, [3, 9, 27, 0, 0, 56]), (0, 9, []), (13, 0, [3, 9, 27, 0, 0, 58]), (0, 9, []), (13, 0, [3, 9, 27, 0, 0, 60]), (0, 9, []), (13, 0, [3, 9, 27, 0, 0, 62]), (0, 9, []), (13, 0, [3, 9, 27, 0, 0, 64]), (0, 9, []), (13, 0, [3, 9, 27, 0, 0, 66]), (0, 9, []), (13, 0, [3, 9, 27, 0, 0, 68]), (0, 9, []), (13, 0, [3, 9, 27, 0, 0, 70]), (0, 9, []), (13, 0, [3, 9, 27, 0, 0, 72]), (0, 9, []), (14, 0, [3, 9, 0, 74, 75, 0, 76, 77]), (0, 18, []), (0, 18, []), (0, 18, []), (0, 18, []), (15, 0, [3, 9, 27, 0, 0, 79, 80, 0, 0]), (0, 256, []), (0, 9, []), (4, 4, [80, 82, 84, 86]), (16, 0, [0, 0, 83]), (0, 40, []), (16, 0, [0, 0, 85]), (0, 40, []), (16, 0, [0, 0, 87]), (0, 40, []), (16, 0, [0, 0, 89]), (0, 40, []), (17, 0, [0, 91, 92, 0, 0, 93, 0, 94, 95, 0, 96, 97, 98, 99, 100, 101, 0, 0, 0, 0, 0, 1, 0, 0, 0, 0, 0, 0, 0, 102, 103, 104, 0, 105, 0, 106, 107, 108, 109, 110, 111, 112, 0, 113, 114, 0, 0, 0, 0, 115, 116, 117, 118]), (0, 960, []), (0, 6, []), (0, 160, []), (0, 9, []), (0, 9, []), (0, 36, []), (0, 36, []), (0, 36, []), (0, 36, []), (0, 36, []), (0, 36, []), (0, 10, []), (0, 10, []), (0, 90, []), (0, 9, []), (0, 18, []), (0, 18, []), (0, 18, []), (0, 18, []), (0, 36, []), (1, 36, []), (0, 512, []), (0, 36, []), (0, 234, []), (1, 4, []), (0, 4, []), (0, 4, []), (0, 160, [])]
def am_N : Nat := 117
theorem am_shN : am_sh.length = am_N := by decide +kernel
end
section
/-! THE ABSTRACT MACHINE: cells by names, ints by (name, slot), the one long; instructions as acts -/
abbrev am_I : Type := Nat → Nat → Int32
abbrev am_L : Type := List (Option Value)
abbrev am_K : Type := am_L → List Value → am_I → Int64 → Prop
/-- next, jump, return -/
abbrev am_A : Type := am_K → (Nat → am_K) → am_K → am_K
/-- the launch, the addresses of names, the classes' numbers and slots, the array classes -/
abbrev am_E : Type := Launch × (Nat → Nat) × va_G × (Nat → ClassId)
abbrev am_Y : Type := MethodName × ByteArray × Nat × Option FieldType
abbrev am_sT : Type := Nat × Nat × List Nat
def am_nt {α : Type} : List α → Nat → Option α
  | [], _ => none
  | a :: _, 0 => some a
  | _ :: l, n + 1 => am_nt l n
theorem am_nt_eq {α : Type} : ∀ (l : List α) (n : Nat), am_nt l n = l[n]?
  | [], n => by simp [am_nt]
  | a :: l, 0 => by simp [am_nt]
  | a :: l, n + 1 => by simp [am_nt, am_nt_eq l n]
def am_sl : am_L → Nat → Option Value → am_L
  | [], _, _ => []
  | _ :: l, 0, v => v :: l
  | a :: l, n + 1, v => a :: am_sl l n v
theorem am_sl_len : ∀ (l : am_L) (i : Nat) (v : Option Value), (am_sl l i v).length = l.length
  | [], _, _ => rfl
  | _ :: l, 0, _ => rfl
  | _ :: l, n + 1, v => by simp [am_sl, am_sl_len l n v]
theorem am_sl_nt : ∀ (l : am_L) (i : Nat) (v : Option Value) (j : Nat), am_nt (am_sl l i v) j = if j = i ∧ i < l.length then some v else am_nt l j
  | [], i, v, j => by simp [am_sl, am_nt]
  | a :: l, 0, v, 0 => by simp [am_sl, am_nt]
  | a :: l, 0, v, j + 1 => by simp [am_sl, am_nt]
  | a :: l, n + 1, v, 0 => by simp [am_sl, am_nt]
  | a :: l, n + 1, v, j + 1 => by
    simp only [am_sl, am_nt, am_sl_nt l n v j, List.length_cons]
    by_cases h : j = n ∧ n < l.length
    · rw [if_pos h, if_pos ⟨by omega, by omega⟩]
    · rw [if_neg h, if_neg (fun q => h ⟨by omega, by omega⟩)]
/-- a long that lies just ahead of a slot that is written is gone -/
def am_kl (f : am_L) : Nat → am_L
  | 0 => f
  | j + 1 => match am_nt f j with
    | some (some u) => (match Nat.beq u.category 2 with
      | true => am_sl f j none
      | false => f)
    | _ => f
def am_st1 (f : am_L) (i : Nat) (v : Value) : am_L := am_sl (am_kl f i) i (some v)
def am_st2 (f : am_L) (i : Nat) (v : Value) : am_L := am_sl (am_sl (am_kl f i) i (some v)) (i + 1) none
theorem am_kl_len (f : am_L) (i : Nat) : (am_kl f i).length = f.length := by
  cases i with
  | zero => rfl
  | succ j =>
    simp only [am_kl]
    split
    · split
      · exact am_sl_len _ _ _
      · rfl
    · rfl
theorem am_kl_nt {f : am_L} {i j : Nat} {u : Value} (h : am_nt (am_kl f i) j = some (some u)) : am_nt f j = some (some u) ∧ ¬ (j + 1 = i ∧ u.category = 2) := by
  cases i with
  | zero => exact ⟨h, fun q => by omega⟩
  | succ k =>
    simp only [am_kl] at h
    split at h
    · next v hv =>
      split at h
      · next hc =>
        rw [am_sl_nt] at h
        by_cases hj : j = k ∧ k < f.length
        · rw [if_pos hj] at h; cases h
        · rw [if_neg hj] at h
          refine ⟨h, fun q => ?_⟩
          have e : j = k := by omega
          subst e
          rw [am_nt_eq] at h
          exact hj ⟨rfl, (List.getElem?_eq_some_iff.mp h).1⟩
      · next hc =>
        refine ⟨h, fun q => ?_⟩
        have e : j = k := by omega
        subst e
        rw [hv] at h
        cases h
        rw [q.2] at hc
        exact absurd hc (by decide)
    · next hn =>
      refine ⟨h, fun q => ?_⟩
      have e : j = k := by omega
      subst e
      exact hn u h
theorem am_st1_nt {f : am_L} {i j : Nat} {u v : Value} (h : am_nt (am_st1 f i v) j = some (some u)) : (j = i ∧ u = v) ∨ (j ≠ i ∧ am_nt f j = some (some u) ∧ ¬ (j + 1 = i ∧ u.category = 2)) := by
  unfold am_st1 at h
  rw [am_sl_nt] at h
  by_cases hj : j = i ∧ i < (am_kl f i).length
  · rw [if_pos hj] at h; cases h; exact Or.inl ⟨hj.1, rfl⟩
  · rw [if_neg hj] at h
    obtain ⟨h1, h2⟩ := am_kl_nt h
    refine Or.inr ⟨fun e => hj ⟨e, ?_⟩, h1, h2⟩
    subst e
    rw [am_nt_eq] at h
    exact (List.getElem?_eq_some_iff.mp h).1
theorem am_st2_nt {f : am_L} {i j : Nat} {u v : Value} (h : am_nt (am_st2 f i v) j = some (some u)) : (j = i ∧ u = v) ∨ (j ≠ i ∧ j ≠ i + 1 ∧ am_nt f j = some (some u) ∧ ¬ (j + 1 = i ∧ u.category = 2)) := by
  unfold am_st2 at h
  rw [am_sl_nt] at h
  by_cases hj : j = i + 1 ∧ i + 1 < (am_sl (am_kl f i) i (some v)).length
  · rw [if_pos hj] at h; cases h
  · rw [if_neg hj] at h
    have hne : j ≠ i + 1 := by
      intro e
      subst e
      rw [am_nt_eq] at h
      exact hj ⟨rfl, (List.getElem?_eq_some_iff.mp h).1⟩
    rcases am_st1_nt (f := f) (i := i) (v := v) h with h1 | ⟨h1, h2, h3⟩
    · exact Or.inl h1
    · exact Or.inr ⟨h1, hne, h2, h3⟩
def am_rz (ad : Nat → Nat) : Value → Value
  | .ref k => .ref (ad k)
  | v => v
theorem am_rz_cat (ad : Nat → Nat) (v : Value) : (am_rz ad v).category = v.category := by cases v <;> rfl
/-- the known locals as the kit lists them -/
def am_lv (ad : Nat → Nat) : Nat → am_L → List (Nat × Value)
  | _, [] => []
  | b, none :: r => am_lv ad (b + 1) r
  | b, some v :: r => (b, am_rz ad v) :: am_lv ad (b + 1) r
theorem am_lv_mem (ad : Nat → Nat) : ∀ (f : am_L) (b : Nat) (q : Nat × Value), q ∈ am_lv ad b f ↔ ∃ (i : Nat) (v : Value), am_nt f i = some (some v) ∧ q = (b + i, am_rz ad v)
  | [], b, q => by simp [am_lv, am_nt]
  | none :: r, b, q => by
    rw [am_lv, am_lv_mem ad r (b + 1) q]
    constructor
    · rintro ⟨i, v, h, e⟩
      exact ⟨i + 1, v, h, by rw [e]; congr 1; omega⟩
    · rintro ⟨i, v, h, e⟩
      cases i with
      | zero => simp [am_nt] at h
      | succ i => exact ⟨i, v, h, by rw [e]; congr 1; omega⟩
  | some u :: r, b, q => by
    rw [am_lv, List.mem_cons, am_lv_mem ad r (b + 1) q]
    constructor
    · rintro (e | ⟨i, v, h, e⟩)
      · exact ⟨0, u, rfl, by rw [e]; rfl⟩
      · exact ⟨i + 1, v, h, by rw [e]; congr 1; omega⟩
    · rintro ⟨i, v, h, e⟩
      cases i with
      | zero =>
        simp [am_nt] at h
        subst h
        exact Or.inl (by rw [e]; rfl)
      | succ i => exact Or.inr ⟨i, v, h, by rw [e]; congr 1; omega⟩
def am_ls (ad : Nat → Nat) (nL : Nat) (ls : Array Slot) (f : am_L) : Prop := f.length = nL ∧ lv_has ls nL (am_lv ad 0 f)
theorem am_ls.at {ad : Nat → Nat} {nL : Nat} {ls : Array Slot} {f : am_L} (h : am_ls ad nL ls f) {i : Nat} {v : Value} (hi : am_nt f i = some (some v)) : ls[i]? = some (.val (am_rz ad v)) :=
  h.2.2.2 (i, am_rz ad v) ((am_lv_mem ad f 0 _).mpr ⟨i, v, hi, by rw [Nat.zero_add]⟩)
theorem am_ls.lt {ad : Nat → Nat} {nL : Nat} {ls : Array Slot} {f : am_L} (h : am_ls ad nL ls f) {i : Nat} {z : Option Value} (hi : am_nt f i = some z) : i < nL := by
  rw [am_nt_eq] at hi
  have := (List.getElem?_eq_some_iff.mp hi).1
  have := h.1
  omega
theorem am_ls.st1 {ad : Nat → Nat} {nL : Nat} {ls ls' : Array Slot} {f : am_L} (h : am_ls ad nL ls f) {i : Nat} {v : Value}
    (h' : lv_has ls' nL ((i, am_rz ad v) :: (am_lv ad 0 f).filter (fun q => !(q.1 == i) && !(q.1 + 1 == i && q.2.category == 2)))) : am_ls ad nL ls' (am_st1 f i v) := by
  refine ⟨by unfold am_st1; rw [am_sl_len, am_kl_len]; exact h.1, h'.1, h'.2.1, fun q hq => h'.2.2 q ?_⟩
  obtain ⟨j, u, hj, e⟩ := (am_lv_mem ad _ 0 q).mp hq
  rw [Nat.zero_add] at e
  rw [e]
  rcases am_st1_nt hj with ⟨h1, h2⟩ | ⟨h1, h2, h3⟩
  · rw [h1, h2]; exact List.mem_cons_self
  · refine List.mem_cons_of_mem _ (List.mem_filter.mpr ⟨(am_lv_mem ad f 0 _).mpr ⟨j, u, h2, by rw [Nat.zero_add]⟩, ?_⟩)
    simp only [am_rz_cat]
    simp only [Bool.and_eq_true, Bool.not_eq_true', beq_eq_false_iff_ne, ne_eq, Bool.and_eq_false_iff]
    refine ⟨h1, ?_⟩
    by_cases hh : j + 1 = i
    · exact Or.inr (fun q => h3 ⟨hh, q⟩)
    · exact Or.inl hh
theorem am_ls.st2 {ad : Nat → Nat} {nL : Nat} {ls ls' : Array Slot} {f : am_L} (h : am_ls ad nL ls f) {i : Nat} {v : Value}
    (h' : lv_has ls' nL ((i, am_rz ad v) :: (am_lv ad 0 f).filter (fun q => !(q.1 == i) && (!(q.1 == i + 1) && !(q.1 + 1 == i && q.2.category == 2))))) : am_ls ad nL ls' (am_st2 f i v) := by
  refine ⟨by unfold am_st2; rw [am_sl_len, am_sl_len, am_kl_len]; exact h.1, h'.1, h'.2.1, fun q hq => h'.2.2 q ?_⟩
  obtain ⟨j, u, hj, e⟩ := (am_lv_mem ad _ 0 q).mp hq
  rw [Nat.zero_add] at e
  rw [e]
  rcases am_st2_nt hj with ⟨h1, h2⟩ | ⟨h1, h1b, h2, h3⟩
  · rw [h1, h2]; exact List.mem_cons_self
  · refine List.mem_cons_of_mem _ (List.mem_filter.mpr ⟨(am_lv_mem ad f 0 _).mpr ⟨j, u, h2, by rw [Nat.zero_add]⟩, ?_⟩)
    simp only [am_rz_cat]
    simp only [Bool.and_eq_true, Bool.not_eq_true', beq_eq_false_iff_ne, ne_eq, Bool.and_eq_false_iff]
    refine ⟨h1, h1b, ?_⟩
    by_cases hh : j + 1 = i
    · exact Or.inr (fun q => h3 ⟨hh, q⟩)
    · exact Or.inl hh
/-! the world of a state of ints -/
def am_cv (ad : Nat → Nat) (x : Int32) (w : Int64) : Nat → Value
  | 0 => .int x
  | 1 => .long w
  | q + 2 => .ref (ad q)
def am_fv (ad : Nat → Nat) (f : Nat → Int32) (w : Int64) : Nat → List Nat → List Value
  | _, [] => []
  | j, c :: r => am_cv ad (f j) w c :: am_fv ad f w (j + 1) r
theorem am_fv_get (ad : Nat → Nat) (f : Nat → Int32) (w : Int64) : ∀ (r : List Nat) (b j : Nat), (am_fv ad f w b r)[j]? = (r[j]?).map (am_cv ad (f (b + j)) w)
  | [], b, j => by simp [am_fv]
  | c :: r, b, 0 => by simp [am_fv]
  | c :: r, b, j + 1 => by
    rw [am_fv, List.getElem?_cons_succ, List.getElem?_cons_succ, am_fv_get ad f w r (b + 1) j]
    rw [show b + 1 + j = b + (j + 1) by omega]
theorem am_fv_len (ad : Nat → Nat) (f : Nat → Int32) (w : Int64) : ∀ (r : List Nat) (b : Nat), (am_fv ad f w b r).length = r.length
  | [], b => rfl
  | c :: r, b => by simp [am_fv, am_fv_len ad f w r (b + 1)]
def am_ce (E : am_E) (f : Nat → Int32) (w : Int64) : am_sT → va_E
  | (0, n, _) => .inl (E.2.2.2 0, n, .inl f)
  | (1, n, _) => .inl (E.2.2.2 1, n, .inl f)
  | (2, n, r) => .inl (E.2.2.2 2, n, .inr (.inr (.inr (.inr (fun i => some (E.2.1 (r.getD i 0)))))))
  | (3, n, r) => .inl (E.2.2.2 3, n, .inr (.inr (.inr (.inr (fun i => some (E.2.1 (r.getD i 0)))))))
  | (4, n, r) => .inl (E.2.2.2 4, n, .inr (.inr (.inr (.inr (fun i => some (E.2.1 (r.getD i 0)))))))
  | (q + 5, _, r) => .inr (q, am_fv E.2.1 f w 0 r)
def am_wdl (E : am_E) (I : am_I) (w : Int64) : Nat → List am_sT → va_W
  | _, [] => []
  | b, s :: r => (E.2.1 b, am_ce E (I b) w s) :: am_wdl E I w (b + 1) r
def am_wd (E : am_E) (I : am_I) (w : Int64) : va_W := am_wdl E I w 0 am_sh
theorem am_wdl_get (E : am_E) (I : am_I) (w : Int64) : ∀ (l : List am_sT) (b k : Nat), (am_wdl E I w b l)[k]? = (l[k]?).map (fun s => (E.2.1 (b + k), am_ce E (I (b + k)) w s))
  | [], b, k => by simp [am_wdl]
  | s :: r, b, 0 => by simp [am_wdl]
  | s :: r, b, k + 1 => by
    rw [am_wdl, List.getElem?_cons_succ, List.getElem?_cons_succ, am_wdl_get E I w r (b + 1) k]
    rw [show b + 1 + k = b + (k + 1) by omega]
theorem am_wd_get (E : am_E) (I : am_I) (w : Int64) {k : Nat} {s : am_sT} (h : am_sh[k]? = some s) : (am_wd E I w)[k]? = some (E.2.1 k, am_ce E (I k) w s) := by
  unfold am_wd
  rw [am_wdl_get, h, Nat.zero_add]
  rfl
theorem am_wd_set {E : am_E} {I I' : am_I} {w w' : Int64} {k : Nat} {s : am_sT} (h : am_sh[k]? = some s) (hI : ∀ (j : Nat) (s' : am_sT), j ≠ k → am_sh[j]? = some s' → am_ce E (I j) w s' = am_ce E (I' j) w' s') :
    (am_wd E I w).set k (E.2.1 k, am_ce E (I' k) w' s) = am_wd E I' w' := by
  apply List.ext_getElem?
  intro j
  by_cases hj : j = k
  · subst hj
    rw [am_wd_get E I' w' h, List.getElem?_set_self]
    have := am_wd_get E I w h
    exact (List.getElem?_eq_some_iff.mp this).1
  · rw [List.getElem?_set_ne (Ne.symm hj)]
    unfold am_wd
    rw [am_wdl_get, am_wdl_get]
    cases hs : am_sh[j]? with
    | none => rfl
    | some s' =>
      simp only [Option.map_some, Nat.zero_add]
      rw [hI j s' hj hs]
/-- the cells of the world -/
def am_Ad (E : am_E) : Nat → Prop := fun q => ∃ k, k < am_N ∧ q = E.2.1 k
def am_inj (E : am_E) : Prop := ∀ i j, i < am_N → j < am_N → E.2.1 i = E.2.1 j → i = j
theorem am_wd_at {E : am_E} {I : am_I} {w : Int64} {k : Nat} {p : Nat × va_E} (h : (am_wd E I w)[k]? = some p) : k < am_N ∧ p.1 = E.2.1 k := by
  unfold am_wd at h
  rw [am_wdl_get] at h
  cases hs : am_sh[k]? with
  | none => rw [hs] at h; cases h
  | some s =>
    rw [hs] at h
    simp only [Option.map_some, Nat.zero_add, Option.some.injEq] at h
    refine ⟨?_, by rw [← h]⟩
    rw [← am_shN]
    exact (List.getElem?_eq_some_iff.mp hs).1
theorem am_wd_D {E : am_E} (hi : am_inj E) (I : am_I) (w : Int64) : va_D (am_Ad E) (am_wd E I w) := by
  refine ⟨fun i j p q h1 h2 e => ?_, fun k q h => ?_⟩
  · obtain ⟨a1, a2⟩ := am_wd_at h1
    obtain ⟨b1, b2⟩ := am_wd_at h2
    exact hi i j a1 b1 (by rw [← a2, ← b2]; exact e)
  · obtain ⟨a1, a2⟩ := am_wd_at h
    exact ⟨k, a1, a2⟩
def am_up (I : am_I) (k j : Nat) (v : Int32) : am_I := fun a i => if a = k then (if i = j then v else I a i) else I a i
theorem am_up_ne {I : am_I} {k j : Nat} {v : Int32} {a : Nat} (h : a ≠ k) : am_up I k j v a = I a := by
  funext i
  simp [am_up, h]
theorem am_up_self {I : am_I} {k j : Nat} {v : Int32} : am_up I k j v k = upd (I k) j v := by
  funext i
  simp [am_up, upd]
/-! what the statement's own tables give, in every state of the run -/
def am_tys (E : am_E) : List (ClassId × FieldType) := [(E.2.2.2 0, .int), (E.2.2.2 1, .boolean), (E.2.2.2 2, .object "TwoCamps$Camping"), (E.2.2.2 3, .object "TwoCamps$Text"), (E.2.2.2 4, .object "TwoCamps$Sheet")]
def am_under (j : Nat) : Int32 := ([-1, 0, 0, 2, 1, 1] : List Int32).getD j 0
def am_room (j : Nat) : Int32 := ([4, 2, 4, 3, 2, 2] : List Int32).getD j 0
/-- the String constants: their entries in TextReader, texts, lengths and bytes -/
def am_tx : List (Nat × String) := [(79, "cost"), (85, "let"), (87, "or"), (89, "and"), (91, "not"), (93, "strength"), (95, "hate"), (97, "kin"), (99, "fixed"), (101, "least"), (103, "most")]
def am_tl : List Nat := [4, 3, 2, 3, 3, 8, 4, 3, 5, 5, 4]
def am_tb : List (List Int32) := [[99, 111, 115, 116], [108, 101, 116], [111, 114], [97, 110, 100], [110, 111, 116], [115, 116, 114, 101, 110, 103, 116, 104], [104, 97, 116, 101], [107, 105, 110], [102, 105, 120, 101, 100], [108, 101, 97, 115, 116], [109, 111, 115, 116]]
/-- links to private members of a nest mate -/
def am_nest : List (String × Nat × MethodName × String) := [("TwoCamps", 9, ⟨"TwoCamps$People", "<init>", "()V"⟩, "TwoCamps"), ("TwoCamps", 31, ⟨"TwoCamps$Tape", "<init>", "()V"⟩, "TwoCamps"), ("TwoCamps$Law", 36, ⟨"TwoCamps$Text", "<init>", "()V"⟩, "TwoCamps"), ("TwoCamps$TextReader", 20, ⟨"TwoCamps$Text", "<init>", "()V"⟩, "TwoCamps"), ("TwoCamps", 98, ⟨"TwoCamps$Sheet", "<init>", "()V"⟩, "TwoCamps"), ("TwoCamps$Camping", 77, ⟨"TwoCamps", "isUnder", "(II)Z"⟩, "TwoCamps"), ("TwoCamps$Feelings", 55, ⟨"TwoCamps", "isTogether", "(III)Z"⟩, "TwoCamps"), ("TwoCamps$Best", 67, ⟨"TwoCamps", "isTogether", "(III)Z"⟩, "TwoCamps")]
/-- static things, unchanged -/
def am_Fx (E : am_E) (U : State) (H : Heap) : Prop :=
  (va_Z "TwoCamps" "UNDER" "[I" (.ref (E.2.1 120)) (am_Ad E) U H ∧ va_T .int (E.2.1 120) 6 (fun j => .int (am_under j)) (am_Ad E) U H) ∧
  (va_Z "TwoCamps" "ROOM" "[I" (.ref (E.2.1 121)) (am_Ad E) U H ∧ va_T .int (E.2.1 121) 6 (fun j => .int (am_room j)) (am_Ad E) U H) ∧
  (va_Z "java/lang/String" "COMPACT_STRINGS" "Z" (.int 1) (am_Ad E) U H ∧ (va_Z "jdk/internal/util/Preconditions" "SIOOBE_FORMATTER" "Ljava/util/function/BiFunction;" .null (am_Ad E) U H ∨ va_Z "jdk/internal/util/Preconditions" "SIOOBE_FORMATTER" "Ljava/util/function/BiFunction;" (.ref (E.2.1 171)) (am_Ad E) U H)) ∧
  (vk_S 11 am_tl am_tb (fun i => E.2.1 (130 + i)) (fun i => E.2.1 (150 + i)) (am_Ad E) U H) ∧
  (∀ i : Nat, i < 11 → vk_R "TwoCamps$TextReader" (am_tx.getD i (0, "")).1 (am_tx.getD i (0, "")).2 (E.2.1 (130 + i)) U) ∧
  ∀ q ∈ am_nest, va_Nw (.methodLinkNest q.1 q.2.1 q.2.2.1 q.2.2.2) U
theorem am_Fx.warm {E : am_E} {u U : State} {H : Heap} (hW : u.WarmedH U.vm) (h : am_Fx E u H) : am_Fx E U H := by
  obtain ⟨⟨a1, a2⟩, ⟨b1, b2⟩, ⟨c1, c2⟩, d, f, g⟩ := h
  have hv := hW.alike
  exact ⟨⟨a1.moved hv, a2.moved hv⟩, ⟨b1.moved hv, b2.moved hv⟩, ⟨c1.moved hv, c2.imp (va_Z.moved hv) (va_Z.moved hv)⟩, d.moved hv, fun i hi => (f i hi).warm hW, fun q hq => va_Nw.warmM hW (g q hq)⟩
theorem am_Fx.same {E : am_E} {u U : State} {H : Heap} (hv : U.vm = u.vm) (h : am_Fx E u H) : am_Fx E U H := by
  obtain ⟨⟨a1, a2⟩, ⟨b1, b2⟩, ⟨c1, c2⟩, d, f, g⟩ := h
  have hv' : u.vm.Alike U.vm := by rw [hv]; exact Vm.Alike.refl _
  exact ⟨⟨a1.moved hv', a2.moved hv'⟩, ⟨b1.moved hv', b2.moved hv'⟩, ⟨c1.moved hv', c2.imp (va_Z.moved hv') (va_Z.moved hv')⟩, d.moved hv', fun i hi => (f i hi).same hv, fun q hq => va_Nw.same rfl hv.symm (g q hq)⟩
theorem am_Fx.kept {E : am_E} {U : State} {H H1 : Heap} (h : am_Fx E U H) (hq : ∀ a : Nat, a < H.size → ¬ am_Ad E a → H1[a]? = H[a]?) : am_Fx E U H1 := by
  obtain ⟨⟨a1, a2⟩, ⟨b1, b2⟩, ⟨c1, c2⟩, d, f, g⟩ := h
  exact ⟨⟨a1.kept hq, a2.kept hq⟩, ⟨b1.kept hq, b2.kept hq⟩, ⟨c1.kept hq, c2.imp (fun h => va_Z.kept h hq) (fun h => va_Z.kept h hq)⟩, d.kept hq, f, g⟩
/-! contracts -/
/-- the room of a call of level k -/
def am_rm (k : Nat) : Room := { frames := k, cells := 0, slots := 0, locals := 100 * k + 100 }
def am_Pc (E : am_E) (av : List Value) (I : am_I) (w : Int64) : Array Value → State → Prop := fun v U =>
  v = (av.map (am_rz E.2.1)).toArray ∧ va_K E.2.2.1 classes (am_tys E) U ∧ va_P E.2.2.1 classes (am_wd E I w) U.heap ∧ am_Fx E U U.heap
abbrev am_Q : Type := Option Value → am_I → Int64 → Prop
def am_Qc (E : am_E) (Po : am_Q) : Array Value → State → Outcome → State → Prop := fun _ st o t =>
  ∃ (r : Option Value) (I : am_I) (w : Int64), o = .returned (r.map (am_rz E.2.1)) ∧ Po r I w ∧ va_P E.2.2.1 classes (am_wd E I w) t.heap ∧ va_F (am_Ad E) st t
/-- the call of Y with the arguments av in the state (I, w) comes back, with an answer and in a state of which Po holds -/
def am_Ret (E : am_E) (k : Nat) (Y : am_Y) (av : List Value) (I : am_I) (w : Int64) (Po : am_Q) : Prop :=
  Met E.1 Y.1 (Cond.code Y.1 Y.2.1 Y.2.2.1 Y.2.2.2 :: am_T) (am_rm k) (am_Pc E av I w) (am_Qc E Po) 0 0 (am_Ad E)
/-- an answer, and nothing changed -/
def am_eq (r : Option Value) (I : am_I) (w : Int64) : am_Q := fun r' I' w' => r' = r ∧ I' = I ∧ w' = w
theorem am_Ret.imp {E : am_E} {k : Nat} {Y : am_Y} {av : List Value} {I : am_I} {w : Int64} {Po Po' : am_Q} (h : am_Ret E k Y av I w Po) (hi : ∀ r I' w', Po r I' w' → Po' r I' w') : am_Ret E k Y av I w Po' := by
  intro p e ha hc hk s m args below hf happ hp hK
  obtain ⟨n, o, h1, h2, h3, ⟨⟨r, I', w', q1, q2, q3, q4⟩, h5⟩⟩ := h p e ha hc hk s m args below hf happ hp hK
  exact ⟨n, o, h1, h2, h3, ⟨r, I', w', q1, hi _ _ _ q2, q3, q4⟩, h5⟩
theorem am_Pc_blind (E : am_E) (av : List Value) (I : am_I) (w : Int64) : FrameBlind (am_Pc E av I w) := by
  intro a U g mk h
  obtain ⟨h1, h2, h3, h4⟩ := h
  exact ⟨h1, va_K.moved (u := U) (U := U.calling g mk a) (Vm.Alike.refl U.vm) h2, h3, am_Fx.same (u := U) (U := U.calling g mk a) rfl h4⟩
/-! a method's activation -/
section AM
variable {E : am_E} {p : Program} {l : Launch} {e : Env} {R : Room} {s : State} {m : MethodId} {args : Array Value} {below : List Frame} {meth : Method} {c : Code} {Q : State → Prop} {nc ns : Nat} {cc : ByteArray} {nL : Nat} {own : String} {post : am_K} {k : Nat}
def am_Sem (E : am_E) (p : Program) (l : Launch) (e : Env) (R : Room) (s : State) (m : MethodId) (args : Array Value) (below : List Frame) (meth : Method) (c : Code) (nL : Nat) (Q : State → Prop) (nc ns : Nat) (pc : Nat) : am_K := fun f st I w =>
  ∀ (H : Heap) (locs : List Loc) (ls : Array Slot), va_P E.2.2.1 classes (am_wd E I w) H → va_S (am_Ad E) s.heap H locs → am_ls E.2.1 nL ls f → W p l e R s m args below meth c H locs nc ns Q (F0 m pc ls (st.map (am_rz E.2.1)))
/-- an instruction that ends the method, with what is on the stack -/
def am_isr (i : Instr) (st : List Value) : Prop := (i = .ireturn ∧ ∃ v, st = [.int v]) ∨ (i = .lreturn ∧ ∃ v, st = [.long v]) ∨ (i = .return_ ∧ st = [])
def am_Ctx (E : am_E) (k : Nat) (p : Program) (l : Launch) (e : Env) (R : Room) (s : State) (m : MethodId) (args : Array Value) (below : List Frame) (meth : Method) (c : Code) (Q : State → Prop) (nc ns : Nat) (cc : ByteArray) (nL : Nat) (own : String) (post : am_K) : Prop :=
  (p.tables.exec = Jvm.exec ∧ c.code = cc ∧ c.maxLocals = nL ∧ s.vm.findClass own = some m.cls ∧ (∀ w ∈ am_T, w.before args s = true)) ∧
  (va_K E.2.2.1 classes (am_tys E) s ∧ am_Fx E s s.heap ∧ am_inj E ∧ E.1 = l) ∧
  (k ≤ R.frames ∧ 100 * k + 100 ≤ R.locals ∧ nc ≤ R.cells ∧ ns ≤ R.slots) ∧
  ∀ (i : Instr) (f : am_L) (st : List Value) (I : am_I) (w : Int64) (pc : Nat) (H : Heap) (locs : List Loc) (ls : Array Slot), post f st I w → am_isr i st → decode cc pc = .ok (i, 1) → va_P E.2.2.1 classes (am_wd E I w) H → va_S (am_Ad E) s.heap H locs →
    W p l e R s m args below meth c H locs nc ns Q (F0 m pc ls (st.map (am_rz E.2.1)))
end AM
/-- one act is right -/
def am_G (S : Nat → am_K) (post : am_K) (pc len : Nat) (a : am_A) : Prop := ∀ (K : am_K) (J : Nat → am_K) (f : am_L) (st : List Value) (I : am_I) (w : Int64), a K J post f st I w →
  (∀ f st I w, K f st I w → S (pc + len) f st I w) → (∀ t f st I w, J t f st I w → S t f st I w) → S pc f st I w
/-- .. in every activation of the method -/
def am_V (E : am_E) (k : Nat) (cc : ByteArray) (nL : Nat) (own : String) (pc len : Nat) (a : am_A) : Prop :=
  ∀ (p : Program) (l : Launch) (e : Env) (R : Room) (s : State) (m : MethodId) (args : Array Value) (below : List Frame) (meth : Method) (c : Code) (Q : State → Prop) (nc ns : Nat) (post : am_K), am_Ctx E k p l e R s m args below meth c Q nc ns cc nL own post →
    am_G (am_Sem E p l e R s m args below meth c nL Q nc ns) post pc len a
abbrev am_P : Type := List (Nat × am_A)
def am_hd (q : Nat) : am_P → Prop
  | [] => True
  | (pc, _) :: _ => q = pc
def am_ok (S : Nat → am_K) (post : am_K) : am_P → Prop
  | [] => True
  | (pc, a) :: r => (∃ len, am_G S post pc len a ∧ am_hd (pc + len) r) ∧ am_ok S post r
def am_pv (E : am_E) (k : Nat) (cc : ByteArray) (nL : Nat) (own : String) : am_P → Prop
  | [] => True
  | (pc, a) :: r => (∃ len, am_V E k cc nL own pc len a ∧ am_hd (pc + len) r) ∧ am_pv E k cc nL own r
theorem am_pv_ok {E : am_E} {k : Nat} {cc : ByteArray} {nL : Nat} {own : String} {p : Program} {l : Launch} {e : Env} {R : Room} {s : State} {m : MethodId} {args : Array Value} {below : List Frame} {meth : Method} {c : Code} {Q : State → Prop} {nc ns : Nat} {post : am_K}
    (C : am_Ctx E k p l e R s m args below meth c Q nc ns cc nL own post) : ∀ (P : am_P), am_pv E k cc nL own P → am_ok (am_Sem E p l e R s m args below meth c nL Q nc ns) post P
  | [], _ => trivial
  | (pc, a) :: r, h => by
    obtain ⟨⟨len, h1, h2⟩, h3⟩ := h
    exact ⟨⟨len, h1 p l e R s m args below meth c Q nc ns post C, h2⟩, am_pv_ok C r h3⟩
def am_seek (t : Nat) : am_P → am_P
  | [] => []
  | (pc, a) :: r => match Nat.beq t pc with
    | true => (pc, a) :: r
    | false => am_seek t r
def am_nx (stop : Nat → Bool) (S : Nat → am_K) (g : am_K) : am_P → am_K
  | [], _, _, _, _ => False
  | (pc, _) :: _, f, st, I, w => match stop pc with
    | true => S pc f st I w
    | false => g f st I w
def am_go (P : am_P) (stop : Nat → Bool) (S : Nat → am_K) (post : am_K) : Nat → am_P → am_K
  | 0, _, _, _, _, _ => False
  | _ + 1, [], _, _, _, _ => False
  | n + 1, (_, a) :: r, f, st, I, w => a (fun f st I w => am_nx stop S (am_go P stop S post n r) r f st I w)
      (fun t f st I w => match stop t with
        | true => S t f st I w
        | false => am_go P stop S post n (am_seek t P) f st I w) post f st I w
theorem am_seek_ok {S : Nat → am_K} {post : am_K} (t : Nat) : ∀ (P : am_P), am_ok S post P → am_seek t P = [] ∨ ∃ a r, am_seek t P = (t, a) :: r ∧ am_ok S post ((t, a) :: r)
  | [], _ => Or.inl rfl
  | (pc, a) :: r, h => by
    unfold am_seek
    cases hb : Nat.beq t pc with
    | true =>
      have e : t = pc := Nat.eq_of_beq_eq_true hb
      subst e
      exact Or.inr ⟨a, r, rfl, h⟩
    | false => exact am_seek_ok t r h.2
theorem am_run {P : am_P} {stop : Nat → Bool} {S : Nat → am_K} {post : am_K} (hP : am_ok S post P) : ∀ (n : Nat) (r : am_P) (pc : Nat) (a : am_A) (f : am_L) (st : List Value) (I : am_I) (w : Int64), am_ok S post ((pc, a) :: r) → am_go P stop S post n ((pc, a) :: r) f st I w → S pc f st I w := by
  intro n
  induction n with
  | zero => intro r pc a f st I w _ h; exact h.elim
  | succ n ih =>
    intro r pc a f st I w hr h
    obtain ⟨⟨len, hG, hh⟩, hr2⟩ := hr
    refine hG _ _ f st I w h (fun f st I w hk => ?_) (fun t f st I w hj => ?_)
    · cases r with
      | nil => exact hk.elim
      | cons q r =>
        obtain ⟨pc', a'⟩ := q
        have e : pc + len = pc' := hh
        rw [e]
        dsimp only [am_nx] at hk
        cases hs : stop pc' with
        | true => rw [hs] at hk; exact hk
        | false => rw [hs] at hk; exact ih r pc' a' f st I w hr2 hk
    · cases hs : stop t with
      | true => rw [hs] at hj; exact hj
      | false =>
        rw [hs] at hj
        rcases am_seek_ok t P hP with h0 | ⟨a', r', h0, h1⟩
        · rw [h0] at hj
          cases n <;> exact hj.elim
        · rw [h0] at hj
          exact ih r' t a' f st I w h1 hj
/-- a stretch of a method's walk, from pc to the next stops -/
theorem am_at {P : am_P} {S : Nat → am_K} {post : am_K} (hP : am_ok S post P) (stop : Nat → Bool) (n pc : Nat) {f : am_L} {st : List Value} {I : am_I} {w : Int64} (h : am_go P stop S post n (am_seek pc P) f st I w) : S pc f st I w := by
  rcases am_seek_ok pc P hP with h0 | ⟨a, r, h0, h1⟩
  · rw [h0] at h
    cases n <;> exact h.elim
  · rw [h0] at h
    exact am_run hP n r pc a f st I w h1 h
def am_mem (t : Nat) : List Nat → Bool
  | [] => false
  | a :: l => match Nat.beq t a with
    | true => true
    | false => am_mem t l
/-- the locals with which a method begins -/
def am_f0 : List Value → am_L
  | [] => []
  | .long v :: r => some (.long v) :: none :: am_f0 r
  | v :: r => some v :: am_f0 r
def am_pad (n : Nat) (f : am_L) : am_L := f ++ List.replicate (n - f.length) none
def am_po (Po : am_Q) : am_K := fun _ st I w => match st with
  | [] => Po none I w
  | [v] => Po (some v) I w
  | _ => False
/-- what a method of a type may answer -/
def am_nr : Option FieldType → Option Value → Prop
  | none, none => True
  | some .long, some (.long _) => True
  | some ty, some (.int v) => narrow ty (.int v) = .int v
  | _, _ => False
theorem am_f0_lv (ad : Nat → Nat) : ∀ (av : List Value) (b : Nat), (∀ v ∈ av, ∀ x, v ≠ .double x) → am_lv ad b (am_f0 av) = lv_args b (av.map (am_rz ad))
  | [], b, _ => rfl
  | v :: r, b, h => by
    have ih := fun b => am_f0_lv ad r b (fun u hu => h u (List.mem_cons_of_mem _ hu))
    cases v with
    | double x => exact absurd rfl (h _ List.mem_cons_self x)
    | _ => simp [am_f0, am_lv, lv_args, am_rz, Value.category, ih]
theorem am_lv_pad (ad : Nat → Nat) : ∀ (f : am_L) (b n : Nat), am_lv ad b (f ++ List.replicate n none) = am_lv ad b f
  | [], b, n => by
    induction n generalizing b with
    | zero => rfl
    | succ n ih =>
      rw [List.nil_append] at ih ⊢
      rw [List.replicate_succ, am_lv]
      exact ih (b + 1)
  | none :: r, b, n => by rw [List.cons_append, am_lv, am_lv, am_lv_pad ad r (b + 1) n]
  | some v :: r, b, n => by rw [List.cons_append, am_lv, am_lv, am_lv_pad ad r (b + 1) n]
theorem am_f0_len (ad : Nat → Nat) : ∀ (av : List Value), (∀ v ∈ av, ∀ x, v ≠ .double x) → (am_f0 av).length = (lg_sl (av.map (am_rz ad))).length
  | [], _ => rfl
  | v :: r, h => by
    have ih := am_f0_len ad r (fun u hu => h u (List.mem_cons_of_mem _ hu))
    have e : lg_sl ((v :: r).map (am_rz ad)) = (if (am_rz ad v).category = 2 then [Slot.val (am_rz ad v), .second] else [.val (am_rz ad v)]) ++ lg_sl (r.map (am_rz ad)) := by
      simp [lg_sl]
    rw [e, List.length_append, ← ih]
    cases v with
    | double x => exact absurd rfl (h _ List.mem_cons_self x)
    | _ => simp [am_f0, am_rz, Value.category] <;> omega
def am_nod : List Value → Bool
  | [] => true
  | .double _ :: _ => false
  | _ :: r => am_nod r
theorem am_nod_of : ∀ (av : List Value), am_nod av = true → ∀ v ∈ av, ∀ x, v ≠ .double x
  | [], _, v, hv, _ => by cases hv
  | u :: r, h, v, hv, x => by
    rcases List.mem_cons.mp hv with e | e
    · subst e
      intro q
      subst q
      simp [am_nod] at h
    · refine am_nod_of r ?_ v e x
      cases u <;> simp_all [am_nod]
/-- A CONTRACT FROM A WALK -/
theorem am_intro {E : am_E} {k : Nat} {Y : am_Y} {av : List Value} {I : am_I} {w : Int64} {Po : am_Q} {P : am_P} (hv : am_pv E k Y.2.1 Y.2.2.1 Y.1.cls P) (hy : plainName Y.1.cls = true) (hi : am_inj E) (hnr : ∀ r I' w', Po r I' w' → am_nr Y.2.2.2 r) (hav : am_nod av = true) (hn : Nat.ble (am_f0 av).length Y.2.2.1 = true)
    (h : ∀ (S : Nat → am_K), am_ok S (am_po Po) P → S 0 (am_pad Y.2.2.1 (am_f0 av)) [] I w) : am_Ret E k Y av I w Po := by
  refine Met.ofW (cc := Y.2.1) (maxL := Y.2.2.1) (ret := Y.2.2.2) hy rfl ?_
  intro p e s m args below meth c s₁ B hml hP
  obtain ⟨rfl, hK, hW, hF⟩ := hP
  have hts := atoms_spec (ws := Cond.code Y.1 Y.2.1 Y.2.2.1 Y.2.2.2 :: am_T) B.pre
  have C : am_Ctx E k p E.1 e (am_rm k) s m (av.map (am_rz E.2.1)).toArray below meth c (MQ below (am_Qc E Po) (av.map (am_rz E.2.1)).toArray s 0 0 (am_Ad E)) 0 0 Y.2.1 Y.2.2.1 Y.1.cls (am_po Po) := by
    refine ⟨⟨B.exec, B.bytes, hml, findClass_of_methodNamed B.named, fun w hw => hts w (List.mem_cons_of_mem _ hw)⟩, ⟨hK, hF, hi, rfl⟩, ⟨Nat.le_refl _, Nat.le_refl _, Nat.le_refl _, Nat.le_refl _⟩, ?_⟩
    intro i f st J v pc H locs ls hpost hisr hd hP hS
    have hq : ∀ (z : Option Value) (t : State), t.heap = H → Po z J v → am_Qc E Po (av.map (am_rz E.2.1)).toArray s (.returned (z.map (am_rz E.2.1))) t := fun z t ht hz => ⟨z, J, v, rfl, hz, by rw [ht]; exact hP, hS.F ht⟩
    rcases hisr with ⟨rfl, x, rfl⟩ | ⟨rfl, x, rfl⟩ | ⟨rfl, rfl⟩
    · have hp : Po (some (.int x)) J v := hpost
      have hr := hnr _ _ _ hp
      cases hret : Y.2.2.2 with
      | none => rw [hret] at hr; exact hr.elim
      | some ty =>
        rw [hret] at hr
        have hn' : narrow ty (.int x) = .int x := by cases ty <;> first | exact hr | exact hr.elim
        exact W.zret B.exec B.bytes (ty := ty) (by rw [B.returns, hret]) hn' (fun t ht _ => hq _ t ht hp) hS.2.2 hd B.notSynchronized
    · have hp : Po (some (.long x)) J v := hpost
      have hr := hnr _ _ _ hp
      have hret : Y.2.2.2 = some .long := by
        revert hr
        cases Y.2.2.2 with
        | none => exact fun h => h.elim
        | some ty => cases ty <;> first | exact fun _ => rfl | exact fun h => h.elim
      exact W.lret B.exec B.bytes (by rw [B.returns, hret]) (fun t ht _ => hq _ t ht hp) hS.2.2 hd B.notSynchronized
    · have hp : Po none J v := hpost
      have hr := hnr _ _ _ hp
      have hret : Y.2.2.2 = none := by
        revert hr
        cases Y.2.2.2 with
        | none => exact fun _ => rfl
        | some ty => cases ty <;> exact fun h => h.elim
      exact W.vret B.exec B.bytes (by rw [B.returns, hret]) (fun t ht _ => hq _ t ht hp) hS.2.2 hd B.notSynchronized
  have h0 := h _ (am_pv_ok C P hv)
  have hd := am_nod_of av hav
  have hlen := am_f0_len E.2.1 av hd
  have hn2 := Nat.ble_eq.mp hn
  have hl := lv_entry (av.map (am_rz E.2.1)) (n := Y.2.2.1) (by rw [← hlen]; exact hn2)
  rw [lg_entry_eq]
  refine h0 s.heap [] _ hW va_S.rf ⟨?_, ?_⟩
  · unfold am_pad
    rw [List.length_append, List.length_replicate]
    omega
  · unfold am_pad
    rw [am_lv_pad, am_f0_lv E.2.1 av 0 hd]
    exact hl
end
section
/-! THE ACTS, and that they are right -/
section ACTS
variable {E : am_E} {k : Nat} {cc : ByteArray} {nL : Nat} {own : String} {pc : Nat}
def aI (v : Int32) : am_A := fun K _ _ f st I w => K f (.int v :: st) I w
def aJ (v : Int64) : am_A := fun K _ _ f st I w => K f (.long v :: st) I w
theorem v_iconst {n : Int} {v : Int32} (hd : decode cc pc = .ok (.iconst n, 1)) (hv : Int32.ofInt n = v) : am_V E k cc nL own pc 1 (aI v) := by
  intro p l e R s m args below meth c Q nc ns post C K J f st I w ha hK hJ
  obtain ⟨⟨hx, hb, hml, hown, hts⟩, ⟨hKn, hFx, hinj, hl⟩, ⟨hR1, hR2, hR3, hR4⟩, hpost⟩ := C
  exact fun H locs ls hP hS hls => lv_iconst hx hb hd hv (hK _ _ _ _ ha H locs ls hP hS hls)
theorem v_bipush {n : Int} {v : Int32} (hd : decode cc pc = .ok (.bipush n, 2)) (hv : (Int8.ofInt n).toInt32 = v) : am_V E k cc nL own pc 2 (aI v) := by
  intro p l e R s m args below meth c Q nc ns post C K J f st I w ha hK hJ
  obtain ⟨⟨hx, hb, hml, hown, hts⟩, ⟨hKn, hFx, hinj, hl⟩, ⟨hR1, hR2, hR3, hR4⟩, hpost⟩ := C
  exact fun H locs ls hP hS hls => lv_bipush hx hb hd hv (hK _ _ _ _ ha H locs ls hP hS hls)
theorem v_sipush {n : Int} {v : Int32} (hd : decode cc pc = .ok (.sipush n, 3)) (hv : (Int16.ofInt n).toInt32 = v) : am_V E k cc nL own pc 3 (aI v) := by
  intro p l e R s m args below meth c Q nc ns post C K J f st I w ha hK hJ
  obtain ⟨⟨hx, hb, hml, hown, hts⟩, ⟨hKn, hFx, hinj, hl⟩, ⟨hR1, hR2, hR3, hR4⟩, hpost⟩ := C
  exact fun H locs ls hP hS hls => lv_sipush hx hb hd hv (hK _ _ _ _ ha H locs ls hP hS hls)
theorem v_lconst {n : Fin 2} {v : Int64} (hd : decode cc pc = .ok (.lconst n, 1)) (hv : Int64.ofNat (n : Nat) = v) : am_V E k cc nL own pc 1 (aJ v) := by
  intro p l e R s m args below meth c Q nc ns post C K J f st I w ha hK hJ
  obtain ⟨⟨hx, hb, hml, hown, hts⟩, ⟨hKn, hFx, hinj, hl⟩, ⟨hR1, hR2, hR3, hR4⟩, hpost⟩ := C
  exact fun H locs ls hP hS hls => lv_lconst hx hb hd hv (hK _ _ _ _ ha H locs ls hP hS hls)
theorem v_ldc {i : Nat} {v : Int32} (hw : Cond.constant own i v ∈ am_T) (hd : decode cc pc = .ok (.ldc i, 2)) : am_V E k cc nL own pc 2 (aI v) := by
  intro p l e R s m args below meth c Q nc ns post C K J f st I w ha hK hJ
  obtain ⟨⟨hx, hb, hml, hown, hts⟩, ⟨hKn, hFx, hinj, hl⟩, ⟨hR1, hR2, hR3, hR4⟩, hpost⟩ := C
  exact fun H locs ls hP hS hls => lv_ldc hx hb hown (hts _ hw) hd (hK _ _ _ _ ha H locs ls hP hS hls)
theorem v_ldcw {i : Nat} {v : Int32} (hw : Cond.constant own i v ∈ am_T) (hd : decode cc pc = .ok (.ldc_w i, 3)) : am_V E k cc nL own pc 3 (aI v) := by
  intro p l e R s m args below meth c Q nc ns post C K J f st I w ha hK hJ
  obtain ⟨⟨hx, hb, hml, hown, hts⟩, ⟨hKn, hFx, hinj, hl⟩, ⟨hR1, hR2, hR3, hR4⟩, hpost⟩ := C
  exact fun H locs ls hP hS hls => lv_ldcw hx hb hown (hts _ hw) hd (hK _ _ _ _ ha H locs ls hP hS hls)
theorem v_ldc2 {i : Nat} {v : Int64} (hw : Cond.constantLong own i v ∈ am_T) (hd : decode cc pc = .ok (.ldc2_w i, 3)) : am_V E k cc nL own pc 3 (aJ v) := by
  intro p l e R s m args below meth c Q nc ns post C K J f st I w ha hK hJ
  obtain ⟨⟨hx, hb, hml, hown, hts⟩, ⟨hKn, hFx, hinj, hl⟩, ⟨hR1, hR2, hR3, hR4⟩, hpost⟩ := C
  exact fun H locs ls hP hS hls => lv_ldc2 hx hb hown (hts _ hw) hd (hK _ _ _ _ ha H locs ls hP hS hls)
def aLi (i : Nat) : am_A := fun K _ _ f st I w => match am_nt f i with
  | some (some (.int x)) => K f (.int x :: st) I w
  | _ => False
theorem v_iload {i : Nat} (hd : decode cc pc = .ok (.iload i, 2)) : am_V E k cc nL own pc 2 (aLi i) := by
  intro p l e R s m args below meth c Q nc ns post C K J f st I w ha hK hJ
  obtain ⟨⟨hx, hb, hml, hown, hts⟩, ⟨hKn, hFx, hinj, hl⟩, ⟨hR1, hR2, hR3, hR4⟩, hpost⟩ := C
  simp only [aLi] at ha
  split at ha
  · rename_i x hv
    exact fun H locs ls hP hS hls => lv_iload hx hb hd (hls.at hv) (hK _ _ _ _ ha H locs ls hP hS hls)
  · exact ha.elim
theorem v_iload_n {i : Nat} {q : Fin 4} (hd : decode cc pc = .ok (.iload_n q, 1)) (hi : (q : Nat) = i) : am_V E k cc nL own pc 1 (aLi i) := by
  intro p l e R s m args below meth c Q nc ns post C K J f st I w ha hK hJ
  obtain ⟨⟨hx, hb, hml, hown, hts⟩, ⟨hKn, hFx, hinj, hl⟩, ⟨hR1, hR2, hR3, hR4⟩, hpost⟩ := C
  simp only [aLi] at ha
  split at ha
  · rename_i x hv
    exact fun H locs ls hP hS hls => lv_iload_n hx hb hd hi (hls.at hv) (hK _ _ _ _ ha H locs ls hP hS hls)
  · exact ha.elim
def aLj (i : Nat) : am_A := fun K _ _ f st I w => match am_nt f i with
  | some (some (.long x)) => K f (.long x :: st) I w
  | _ => False
theorem v_lload {i : Nat} (hd : decode cc pc = .ok (.lload i, 2)) : am_V E k cc nL own pc 2 (aLj i) := by
  intro p l e R s m args below meth c Q nc ns post C K J f st I w ha hK hJ
  obtain ⟨⟨hx, hb, hml, hown, hts⟩, ⟨hKn, hFx, hinj, hl⟩, ⟨hR1, hR2, hR3, hR4⟩, hpost⟩ := C
  simp only [aLj] at ha
  split at ha
  · rename_i x hv
    exact fun H locs ls hP hS hls => lv_lload hx hb hd (hls.at hv) (hK _ _ _ _ ha H locs ls hP hS hls)
  · exact ha.elim
theorem v_lload_n {i : Nat} {q : Fin 4} (hd : decode cc pc = .ok (.lload_n q, 1)) (hi : (q : Nat) = i) : am_V E k cc nL own pc 1 (aLj i) := by
  intro p l e R s m args below meth c Q nc ns post C K J f st I w ha hK hJ
  obtain ⟨⟨hx, hb, hml, hown, hts⟩, ⟨hKn, hFx, hinj, hl⟩, ⟨hR1, hR2, hR3, hR4⟩, hpost⟩ := C
  simp only [aLj] at ha
  split at ha
  · rename_i x hv
    exact fun H locs ls hP hS hls => lv_lload_n hx hb hd hi (hls.at hv) (hK _ _ _ _ ha H locs ls hP hS hls)
  · exact ha.elim
def aLa (i : Nat) : am_A := fun K _ _ f st I w => match am_nt f i with
  | some (some (.ref x)) => K f (.ref x :: st) I w
  | _ => False
theorem v_aload {i : Nat} (hd : decode cc pc = .ok (.aload i, 2)) : am_V E k cc nL own pc 2 (aLa i) := by
  intro p l e R s m args below meth c Q nc ns post C K J f st I w ha hK hJ
  obtain ⟨⟨hx, hb, hml, hown, hts⟩, ⟨hKn, hFx, hinj, hl⟩, ⟨hR1, hR2, hR3, hR4⟩, hpost⟩ := C
  simp only [aLa] at ha
  split at ha
  · rename_i x hv
    exact fun H locs ls hP hS hls => lv_aload hx hb hd (hls.at hv) (hK _ _ _ _ ha H locs ls hP hS hls)
  · exact ha.elim
theorem v_aload_n {i : Nat} {q : Fin 4} (hd : decode cc pc = .ok (.aload_n q, 1)) (hi : (q : Nat) = i) : am_V E k cc nL own pc 1 (aLa i) := by
  intro p l e R s m args below meth c Q nc ns post C K J f st I w ha hK hJ
  obtain ⟨⟨hx, hb, hml, hown, hts⟩, ⟨hKn, hFx, hinj, hl⟩, ⟨hR1, hR2, hR3, hR4⟩, hpost⟩ := C
  simp only [aLa] at ha
  split at ha
  · rename_i x hv
    exact fun H locs ls hP hS hls => lv_aload_n hx hb hd hi (hls.at hv) (hK _ _ _ _ ha H locs ls hP hS hls)
  · exact ha.elim
def aSi (i : Nat) : am_A := fun K _ _ f st I w => match st with
  | .int x :: r => (match am_nt f i with
    | some _ => K (am_st1 f i (.int x)) r I w
    | none => False)
  | _ => False
theorem v_istore {i : Nat} (hd : decode cc pc = .ok (.istore i, 2)) : am_V E k cc nL own pc 2 (aSi i) := by
  intro p l e R s m args below meth c Q nc ns post C K J f st I w ha hK hJ
  obtain ⟨⟨hx, hb, hml, hown, hts⟩, ⟨hKn, hFx, hinj, hl⟩, ⟨hR1, hR2, hR3, hR4⟩, hpost⟩ := C
  simp only [aSi] at ha
  split at ha
  · rename_i x r
    split at ha
    · rename_i z hz
      exact fun H locs ls hP hS hls => lv_istore hx hb hd hls.2 (hls.lt hz) rfl (fun ls' h' => hK _ _ _ _ ha H locs ls' hP hS (hls.st1 (v := .int x) h'))
    · exact ha.elim
  · exact ha.elim
theorem v_istore_n {i : Nat} {q : Fin 4} (hd : decode cc pc = .ok (.istore_n q, 1)) (hi : (q : Nat) = i) : am_V E k cc nL own pc 1 (aSi i) := by
  intro p l e R s m args below meth c Q nc ns post C K J f st I w ha hK hJ
  obtain ⟨⟨hx, hb, hml, hown, hts⟩, ⟨hKn, hFx, hinj, hl⟩, ⟨hR1, hR2, hR3, hR4⟩, hpost⟩ := C
  simp only [aSi] at ha
  split at ha
  · rename_i x r
    split at ha
    · rename_i z hz
      exact fun H locs ls hP hS hls => lv_istore_n hx hb hd hi hls.2 (hls.lt hz) rfl (fun ls' h' => hK _ _ _ _ ha H locs ls' hP hS (hls.st1 (v := .int x) h'))
    · exact ha.elim
  · exact ha.elim
def aSj (i : Nat) : am_A := fun K _ _ f st I w => match st with
  | .long x :: r => (match am_nt f (i + 1) with
    | some _ => K (am_st2 f i (.long x)) r I w
    | none => False)
  | _ => False
theorem v_lstore {i : Nat} (hd : decode cc pc = .ok (.lstore i, 2)) : am_V E k cc nL own pc 2 (aSj i) := by
  intro p l e R s m args below meth c Q nc ns post C K J f st I w ha hK hJ
  obtain ⟨⟨hx, hb, hml, hown, hts⟩, ⟨hKn, hFx, hinj, hl⟩, ⟨hR1, hR2, hR3, hR4⟩, hpost⟩ := C
  simp only [aSj] at ha
  split at ha
  · rename_i x r
    split at ha
    · rename_i z hz
      exact fun H locs ls hP hS hls => lv_lstore hx hb hd hls.2 (hls.lt hz) rfl (fun ls' h' => hK _ _ _ _ ha H locs ls' hP hS (hls.st2 (v := .long x) h'))
    · exact ha.elim
  · exact ha.elim
theorem v_lstore_n {i : Nat} {q : Fin 4} (hd : decode cc pc = .ok (.lstore_n q, 1)) (hi : (q : Nat) = i) : am_V E k cc nL own pc 1 (aSj i) := by
  intro p l e R s m args below meth c Q nc ns post C K J f st I w ha hK hJ
  obtain ⟨⟨hx, hb, hml, hown, hts⟩, ⟨hKn, hFx, hinj, hl⟩, ⟨hR1, hR2, hR3, hR4⟩, hpost⟩ := C
  simp only [aSj] at ha
  split at ha
  · rename_i x r
    split at ha
    · rename_i z hz
      exact fun H locs ls hP hS hls => lv_lstore_n hx hb hd hi hls.2 (hls.lt hz) rfl (fun ls' h' => hK _ _ _ _ ha H locs ls' hP hS (hls.st2 (v := .long x) h'))
    · exact ha.elim
  · exact ha.elim
def aSa (i : Nat) : am_A := fun K _ _ f st I w => match st with
  | .ref x :: r => (match am_nt f i with
    | some _ => K (am_st1 f i (.ref x)) r I w
    | none => False)
  | _ => False
theorem v_astore {i : Nat} (hd : decode cc pc = .ok (.astore i, 2)) : am_V E k cc nL own pc 2 (aSa i) := by
  intro p l e R s m args below meth c Q nc ns post C K J f st I w ha hK hJ
  obtain ⟨⟨hx, hb, hml, hown, hts⟩, ⟨hKn, hFx, hinj, hl⟩, ⟨hR1, hR2, hR3, hR4⟩, hpost⟩ := C
  simp only [aSa] at ha
  split at ha
  · rename_i x r
    split at ha
    · rename_i z hz
      exact fun H locs ls hP hS hls => lv_astore hx hb hd hls.2 (hls.lt hz) rfl (fun ls' h' => hK _ _ _ _ ha H locs ls' hP hS (hls.st1 (v := .ref x) h'))
    · exact ha.elim
  · exact ha.elim
theorem v_astore_n {i : Nat} {q : Fin 4} (hd : decode cc pc = .ok (.astore_n q, 1)) (hi : (q : Nat) = i) : am_V E k cc nL own pc 1 (aSa i) := by
  intro p l e R s m args below meth c Q nc ns post C K J f st I w ha hK hJ
  obtain ⟨⟨hx, hb, hml, hown, hts⟩, ⟨hKn, hFx, hinj, hl⟩, ⟨hR1, hR2, hR3, hR4⟩, hpost⟩ := C
  simp only [aSa] at ha
  split at ha
  · rename_i x r
    split at ha
    · rename_i z hz
      exact fun H locs ls hP hS hls => lv_astore_n hx hb hd hi hls.2 (hls.lt hz) rfl (fun ls' h' => hK _ _ _ _ ha H locs ls' hP hS (hls.st1 (v := .ref x) h'))
    · exact ha.elim
  · exact ha.elim
def aInc (i : Nat) (d : Int32) : am_A := fun K _ _ f st I w => match am_nt f i with
  | some (some (.int x)) => K (am_st1 f i (.int (x + d))) st I w
  | _ => False
theorem v_iinc {i : Nat} {n : Int} {d : Int32} (hd : decode cc pc = .ok (.iinc i n, 3)) (hn : Int32.ofInt n = d) : am_V E k cc nL own pc 3 (aInc i d) := by
  intro p l e R s m args below meth c Q nc ns post C K J f st I w ha hK hJ
  obtain ⟨⟨hx, hb, hml, hown, hts⟩, ⟨hKn, hFx, hinj, hl⟩, ⟨hR1, hR2, hR3, hR4⟩, hpost⟩ := C
  simp only [aInc] at ha
  split at ha
  · rename_i x hv
    subst hn
    intro H locs ls hP hS hls
    have hm := (am_lv_mem E.2.1 f 0 (i, am_rz E.2.1 (.int x))).mpr ⟨i, .int x, hv, by rw [Nat.zero_add]⟩
    obtain ⟨q, hq⟩ := List.getElem?_of_mem hm
    exact lv_iinc hx hb (k := q) (x := x) hd hls.2 hq rfl (hls.lt hv) rfl (fun ls' h' => hK _ _ _ _ ha H locs ls' hP hS (hls.st1 (v := .int (x + Int32.ofInt n)) h'))
  · exact ha.elim
theorem v_iincW {i : Nat} {n : Int} {d : Int32} (hd : decode cc pc = .ok (.iinc i n, 6)) (hn : Int32.ofInt n = d) : am_V E k cc nL own pc 6 (aInc i d) := by
  intro p l e R s m args below meth c Q nc ns post C K J f st I w ha hK hJ
  obtain ⟨⟨hx, hb, hml, hown, hts⟩, ⟨hKn, hFx, hinj, hl⟩, ⟨hR1, hR2, hR3, hR4⟩, hpost⟩ := C
  simp only [aInc] at ha
  split at ha
  · rename_i x hv
    subst hn
    intro H locs ls hP hS hls
    have hm := (am_lv_mem E.2.1 f 0 (i, am_rz E.2.1 (.int x))).mpr ⟨i, .int x, hv, by rw [Nat.zero_add]⟩
    obtain ⟨q, hq⟩ := List.getElem?_of_mem hm
    exact lv_iincW hx hb (k := q) (x := x) hd hls.2 hq rfl (hls.lt hv) rfl (fun ls' h' => hK _ _ _ _ ha H locs ls' hP hS (hls.st1 (v := .int (x + Int32.ofInt n)) h'))
  · exact ha.elim
def a_iadd : am_A := fun K _ _ f st I w => match st with
  | .int y :: .int x :: r => K f (.int (x + y) :: r) I w
  | _ => False
theorem v_iadd (hd : decode cc pc = .ok (.iadd, 1)) : am_V E k cc nL own pc 1 (a_iadd) := by
  intro p l e R s m args below meth c Q nc ns post C K J f st I w ha hK hJ
  obtain ⟨⟨hx, hb, hml, hown, hts⟩, ⟨hKn, hFx, hinj, hl⟩, ⟨hR1, hR2, hR3, hR4⟩, hpost⟩ := C
  simp only [a_iadd] at ha
  split at ha
  · rename_i y x r
    exact fun H locs ls hP hS hls => lv_iadd hx hb hd (hK _ _ _ _ ha H locs ls hP hS hls)
  · exact ha.elim
def a_isub : am_A := fun K _ _ f st I w => match st with
  | .int y :: .int x :: r => K f (.int (x - y) :: r) I w
  | _ => False
theorem v_isub (hd : decode cc pc = .ok (.isub, 1)) : am_V E k cc nL own pc 1 (a_isub) := by
  intro p l e R s m args below meth c Q nc ns post C K J f st I w ha hK hJ
  obtain ⟨⟨hx, hb, hml, hown, hts⟩, ⟨hKn, hFx, hinj, hl⟩, ⟨hR1, hR2, hR3, hR4⟩, hpost⟩ := C
  simp only [a_isub] at ha
  split at ha
  · rename_i y x r
    exact fun H locs ls hP hS hls => lv_isub hx hb hd (hK _ _ _ _ ha H locs ls hP hS hls)
  · exact ha.elim
def a_imul : am_A := fun K _ _ f st I w => match st with
  | .int y :: .int x :: r => K f (.int (x * y) :: r) I w
  | _ => False
theorem v_imul (hd : decode cc pc = .ok (.imul, 1)) : am_V E k cc nL own pc 1 (a_imul) := by
  intro p l e R s m args below meth c Q nc ns post C K J f st I w ha hK hJ
  obtain ⟨⟨hx, hb, hml, hown, hts⟩, ⟨hKn, hFx, hinj, hl⟩, ⟨hR1, hR2, hR3, hR4⟩, hpost⟩ := C
  simp only [a_imul] at ha
  split at ha
  · rename_i y x r
    exact fun H locs ls hP hS hls => lv_imul hx hb hd (hK _ _ _ _ ha H locs ls hP hS hls)
  · exact ha.elim
def a_iand : am_A := fun K _ _ f st I w => match st with
  | .int y :: .int x :: r => K f (.int (x &&& y) :: r) I w
  | _ => False
theorem v_iand (hd : decode cc pc = .ok (.iand, 1)) : am_V E k cc nL own pc 1 (a_iand) := by
  intro p l e R s m args below meth c Q nc ns post C K J f st I w ha hK hJ
  obtain ⟨⟨hx, hb, hml, hown, hts⟩, ⟨hKn, hFx, hinj, hl⟩, ⟨hR1, hR2, hR3, hR4⟩, hpost⟩ := C
  simp only [a_iand] at ha
  split at ha
  · rename_i y x r
    exact fun H locs ls hP hS hls => lv_iand hx hb hd (hK _ _ _ _ ha H locs ls hP hS hls)
  · exact ha.elim
def a_ior : am_A := fun K _ _ f st I w => match st with
  | .int y :: .int x :: r => K f (.int (x ||| y) :: r) I w
  | _ => False
theorem v_ior (hd : decode cc pc = .ok (.ior, 1)) : am_V E k cc nL own pc 1 (a_ior) := by
  intro p l e R s m args below meth c Q nc ns post C K J f st I w ha hK hJ
  obtain ⟨⟨hx, hb, hml, hown, hts⟩, ⟨hKn, hFx, hinj, hl⟩, ⟨hR1, hR2, hR3, hR4⟩, hpost⟩ := C
  simp only [a_ior] at ha
  split at ha
  · rename_i y x r
    exact fun H locs ls hP hS hls => lv_ior hx hb hd (hK _ _ _ _ ha H locs ls hP hS hls)
  · exact ha.elim
def a_ixor : am_A := fun K _ _ f st I w => match st with
  | .int y :: .int x :: r => K f (.int (x ^^^ y) :: r) I w
  | _ => False
theorem v_ixor (hd : decode cc pc = .ok (.ixor, 1)) : am_V E k cc nL own pc 1 (a_ixor) := by
  intro p l e R s m args below meth c Q nc ns post C K J f st I w ha hK hJ
  obtain ⟨⟨hx, hb, hml, hown, hts⟩, ⟨hKn, hFx, hinj, hl⟩, ⟨hR1, hR2, hR3, hR4⟩, hpost⟩ := C
  simp only [a_ixor] at ha
  split at ha
  · rename_i y x r
    exact fun H locs ls hP hS hls => lv_ixor hx hb hd (hK _ _ _ _ ha H locs ls hP hS hls)
  · exact ha.elim
def a_ishl : am_A := fun K _ _ f st I w => match st with
  | .int y :: .int x :: r => K f (.int (x <<< (y &&& 31)) :: r) I w
  | _ => False
theorem v_ishl (hd : decode cc pc = .ok (.ishl, 1)) : am_V E k cc nL own pc 1 (a_ishl) := by
  intro p l e R s m args below meth c Q nc ns post C K J f st I w ha hK hJ
  obtain ⟨⟨hx, hb, hml, hown, hts⟩, ⟨hKn, hFx, hinj, hl⟩, ⟨hR1, hR2, hR3, hR4⟩, hpost⟩ := C
  simp only [a_ishl] at ha
  split at ha
  · rename_i y x r
    exact fun H locs ls hP hS hls => lv_ishl hx hb hd (hK _ _ _ _ ha H locs ls hP hS hls)
  · exact ha.elim
def a_ishr : am_A := fun K _ _ f st I w => match st with
  | .int y :: .int x :: r => K f (.int (x >>> (y &&& 31)) :: r) I w
  | _ => False
theorem v_ishr (hd : decode cc pc = .ok (.ishr, 1)) : am_V E k cc nL own pc 1 (a_ishr) := by
  intro p l e R s m args below meth c Q nc ns post C K J f st I w ha hK hJ
  obtain ⟨⟨hx, hb, hml, hown, hts⟩, ⟨hKn, hFx, hinj, hl⟩, ⟨hR1, hR2, hR3, hR4⟩, hpost⟩ := C
  simp only [a_ishr] at ha
  split at ha
  · rename_i y x r
    exact fun H locs ls hP hS hls => lv_ishr hx hb hd (hK _ _ _ _ ha H locs ls hP hS hls)
  · exact ha.elim
def a_iushr : am_A := fun K _ _ f st I w => match st with
  | .int y :: .int x :: r => K f (.int ((x.toUInt32 >>> (y.toUInt32 &&& Int32.toUInt32 31)).toInt32) :: r) I w
  | _ => False
theorem v_iushr (hd : decode cc pc = .ok (.iushr, 1)) : am_V E k cc nL own pc 1 (a_iushr) := by
  intro p l e R s m args below meth c Q nc ns post C K J f st I w ha hK hJ
  obtain ⟨⟨hx, hb, hml, hown, hts⟩, ⟨hKn, hFx, hinj, hl⟩, ⟨hR1, hR2, hR3, hR4⟩, hpost⟩ := C
  simp only [a_iushr] at ha
  split at ha
  · rename_i y x r
    exact fun H locs ls hP hS hls => lv_iushr hx hb hd rfl (hK _ _ _ _ ha H locs ls hP hS hls)
  · exact ha.elim
def a_idiv : am_A := fun K _ _ f st I w => match st with
  | .int y :: .int x :: r => ¬ y = 0 ∧ K f (.int (x / y) :: r) I w
  | _ => False
theorem v_idiv (hd : decode cc pc = .ok (.idiv, 1)) : am_V E k cc nL own pc 1 (a_idiv) := by
  intro p l e R s m args below meth c Q nc ns post C K J f st I w ha hK hJ
  obtain ⟨⟨hx, hb, hml, hown, hts⟩, ⟨hKn, hFx, hinj, hl⟩, ⟨hR1, hR2, hR3, hR4⟩, hpost⟩ := C
  simp only [a_idiv] at ha
  split at ha
  · rename_i y x r
    exact fun H locs ls hP hS hls => lv_idiv hx hb hd ha.1 (hK _ _ _ _ ha.2 H locs ls hP hS hls)
  · exact ha.elim
def a_irem : am_A := fun K _ _ f st I w => match st with
  | .int y :: .int x :: r => ¬ y = 0 ∧ K f (.int (x - x / y * y) :: r) I w
  | _ => False
theorem v_irem (hd : decode cc pc = .ok (.irem, 1)) : am_V E k cc nL own pc 1 (a_irem) := by
  intro p l e R s m args below meth c Q nc ns post C K J f st I w ha hK hJ
  obtain ⟨⟨hx, hb, hml, hown, hts⟩, ⟨hKn, hFx, hinj, hl⟩, ⟨hR1, hR2, hR3, hR4⟩, hpost⟩ := C
  simp only [a_irem] at ha
  split at ha
  · rename_i y x r
    exact fun H locs ls hP hS hls => lv_irem hx hb hd ha.1 (hK _ _ _ _ ha.2 H locs ls hP hS hls)
  · exact ha.elim
def a_ineg : am_A := fun K _ _ f st I w => match st with
  | .int x :: r => K f (.int (-x) :: r) I w
  | _ => False
theorem v_ineg (hd : decode cc pc = .ok (.ineg, 1)) : am_V E k cc nL own pc 1 (a_ineg) := by
  intro p l e R s m args below meth c Q nc ns post C K J f st I w ha hK hJ
  obtain ⟨⟨hx, hb, hml, hown, hts⟩, ⟨hKn, hFx, hinj, hl⟩, ⟨hR1, hR2, hR3, hR4⟩, hpost⟩ := C
  simp only [a_ineg] at ha
  split at ha
  · rename_i x r
    exact fun H locs ls hP hS hls => lv_ineg hx hb hd (hK _ _ _ _ ha H locs ls hP hS hls)
  · exact ha.elim
def a_i2b : am_A := fun K _ _ f st I w => match st with
  | .int x :: r => K f (.int (x.toInt8.toInt32) :: r) I w
  | _ => False
theorem v_i2b (hd : decode cc pc = .ok (.i2b, 1)) : am_V E k cc nL own pc 1 (a_i2b) := by
  intro p l e R s m args below meth c Q nc ns post C K J f st I w ha hK hJ
  obtain ⟨⟨hx, hb, hml, hown, hts⟩, ⟨hKn, hFx, hinj, hl⟩, ⟨hR1, hR2, hR3, hR4⟩, hpost⟩ := C
  simp only [a_i2b] at ha
  split at ha
  · rename_i x r
    exact fun H locs ls hP hS hls => lv_i2b hx hb hd rfl (hK _ _ _ _ ha H locs ls hP hS hls)
  · exact ha.elim
def a_i2s : am_A := fun K _ _ f st I w => match st with
  | .int x :: r => K f (.int (x.toInt16.toInt32) :: r) I w
  | _ => False
theorem v_i2s (hd : decode cc pc = .ok (.i2s, 1)) : am_V E k cc nL own pc 1 (a_i2s) := by
  intro p l e R s m args below meth c Q nc ns post C K J f st I w ha hK hJ
  obtain ⟨⟨hx, hb, hml, hown, hts⟩, ⟨hKn, hFx, hinj, hl⟩, ⟨hR1, hR2, hR3, hR4⟩, hpost⟩ := C
  simp only [a_i2s] at ha
  split at ha
  · rename_i x r
    exact fun H locs ls hP hS hls => lv_i2s hx hb hd rfl (hK _ _ _ _ ha H locs ls hP hS hls)
  · exact ha.elim
def a_i2c : am_A := fun K _ _ f st I w => match st with
  | .int x :: r => K f (.int ((x.toUInt32 % 65536).toInt32) :: r) I w
  | _ => False
theorem v_i2c (hd : decode cc pc = .ok (.i2c, 1)) : am_V E k cc nL own pc 1 (a_i2c) := by
  intro p l e R s m args below meth c Q nc ns post C K J f st I w ha hK hJ
  obtain ⟨⟨hx, hb, hml, hown, hts⟩, ⟨hKn, hFx, hinj, hl⟩, ⟨hR1, hR2, hR3, hR4⟩, hpost⟩ := C
  simp only [a_i2c] at ha
  split at ha
  · rename_i x r
    exact fun H locs ls hP hS hls => lv_i2c hx hb hd rfl (hK _ _ _ _ ha H locs ls hP hS hls)
  · exact ha.elim
def a_ladd : am_A := fun K _ _ f st I w => match st with
  | .long y :: .long x :: r => K f (.long (x + y) :: r) I w
  | _ => False
theorem v_ladd (hd : decode cc pc = .ok (.ladd, 1)) : am_V E k cc nL own pc 1 (a_ladd) := by
  intro p l e R s m args below meth c Q nc ns post C K J f st I w ha hK hJ
  obtain ⟨⟨hx, hb, hml, hown, hts⟩, ⟨hKn, hFx, hinj, hl⟩, ⟨hR1, hR2, hR3, hR4⟩, hpost⟩ := C
  simp only [a_ladd] at ha
  split at ha
  · rename_i y x r
    exact fun H locs ls hP hS hls => lv_ladd hx hb hd (hK _ _ _ _ ha H locs ls hP hS hls)
  · exact ha.elim
def a_lsub : am_A := fun K _ _ f st I w => match st with
  | .long y :: .long x :: r => K f (.long (x - y) :: r) I w
  | _ => False
theorem v_lsub (hd : decode cc pc = .ok (.lsub, 1)) : am_V E k cc nL own pc 1 (a_lsub) := by
  intro p l e R s m args below meth c Q nc ns post C K J f st I w ha hK hJ
  obtain ⟨⟨hx, hb, hml, hown, hts⟩, ⟨hKn, hFx, hinj, hl⟩, ⟨hR1, hR2, hR3, hR4⟩, hpost⟩ := C
  simp only [a_lsub] at ha
  split at ha
  · rename_i y x r
    exact fun H locs ls hP hS hls => lv_lsub hx hb hd (hK _ _ _ _ ha H locs ls hP hS hls)
  · exact ha.elim
def a_lmul : am_A := fun K _ _ f st I w => match st with
  | .long y :: .long x :: r => K f (.long (x * y) :: r) I w
  | _ => False
theorem v_lmul (hd : decode cc pc = .ok (.lmul, 1)) : am_V E k cc nL own pc 1 (a_lmul) := by
  intro p l e R s m args below meth c Q nc ns post C K J f st I w ha hK hJ
  obtain ⟨⟨hx, hb, hml, hown, hts⟩, ⟨hKn, hFx, hinj, hl⟩, ⟨hR1, hR2, hR3, hR4⟩, hpost⟩ := C
  simp only [a_lmul] at ha
  split at ha
  · rename_i y x r
    exact fun H locs ls hP hS hls => lv_lmul hx hb hd (hK _ _ _ _ ha H locs ls hP hS hls)
  · exact ha.elim
def a_land : am_A := fun K _ _ f st I w => match st with
  | .long y :: .long x :: r => K f (.long (x &&& y) :: r) I w
  | _ => False
theorem v_land (hd : decode cc pc = .ok (.land, 1)) : am_V E k cc nL own pc 1 (a_land) := by
  intro p l e R s m args below meth c Q nc ns post C K J f st I w ha hK hJ
  obtain ⟨⟨hx, hb, hml, hown, hts⟩, ⟨hKn, hFx, hinj, hl⟩, ⟨hR1, hR2, hR3, hR4⟩, hpost⟩ := C
  simp only [a_land] at ha
  split at ha
  · rename_i y x r
    exact fun H locs ls hP hS hls => lv_land hx hb hd (hK _ _ _ _ ha H locs ls hP hS hls)
  · exact ha.elim
def a_lor : am_A := fun K _ _ f st I w => match st with
  | .long y :: .long x :: r => K f (.long (x ||| y) :: r) I w
  | _ => False
theorem v_lor (hd : decode cc pc = .ok (.lor, 1)) : am_V E k cc nL own pc 1 (a_lor) := by
  intro p l e R s m args below meth c Q nc ns post C K J f st I w ha hK hJ
  obtain ⟨⟨hx, hb, hml, hown, hts⟩, ⟨hKn, hFx, hinj, hl⟩, ⟨hR1, hR2, hR3, hR4⟩, hpost⟩ := C
  simp only [a_lor] at ha
  split at ha
  · rename_i y x r
    exact fun H locs ls hP hS hls => lv_lor hx hb hd (hK _ _ _ _ ha H locs ls hP hS hls)
  · exact ha.elim
def a_lshl : am_A := fun K _ _ f st I w => match st with
  | .int y :: .long x :: r => K f (.long (x <<< (y.toInt64 &&& 63)) :: r) I w
  | _ => False
theorem v_lshl (hd : decode cc pc = .ok (.lshl, 1)) : am_V E k cc nL own pc 1 (a_lshl) := by
  intro p l e R s m args below meth c Q nc ns post C K J f st I w ha hK hJ
  obtain ⟨⟨hx, hb, hml, hown, hts⟩, ⟨hKn, hFx, hinj, hl⟩, ⟨hR1, hR2, hR3, hR4⟩, hpost⟩ := C
  simp only [a_lshl] at ha
  split at ha
  · rename_i y x r
    exact fun H locs ls hP hS hls => lv_lshl hx hb hd rfl (hK _ _ _ _ ha H locs ls hP hS hls)
  · exact ha.elim
def a_lshr : am_A := fun K _ _ f st I w => match st with
  | .int y :: .long x :: r => K f (.long (x >>> (y.toInt64 &&& 63)) :: r) I w
  | _ => False
theorem v_lshr (hd : decode cc pc = .ok (.lshr, 1)) : am_V E k cc nL own pc 1 (a_lshr) := by
  intro p l e R s m args below meth c Q nc ns post C K J f st I w ha hK hJ
  obtain ⟨⟨hx, hb, hml, hown, hts⟩, ⟨hKn, hFx, hinj, hl⟩, ⟨hR1, hR2, hR3, hR4⟩, hpost⟩ := C
  simp only [a_lshr] at ha
  split at ha
  · rename_i y x r
    exact fun H locs ls hP hS hls => lv_lshr hx hb hd rfl (hK _ _ _ _ ha H locs ls hP hS hls)
  · exact ha.elim
def aCmp : am_A := fun K _ _ f st I w => match st with
  | .long y :: .long x :: r => K f (.int (lg_cmp x y) :: r) I w
  | _ => False
theorem v_lcmp (hd : decode cc pc = .ok (.lcmp, 1)) : am_V E k cc nL own pc 1 (aCmp) := by
  intro p l e R s m args below meth c Q nc ns post C K J f st I w ha hK hJ
  obtain ⟨⟨hx, hb, hml, hown, hts⟩, ⟨hKn, hFx, hinj, hl⟩, ⟨hR1, hR2, hR3, hR4⟩, hpost⟩ := C
  simp only [aCmp] at ha
  split at ha
  · rename_i y x r
    exact fun H locs ls hP hS hls => W.lcmp hx hb hd (hK _ _ _ _ ha H locs ls hP hS hls)
  · exact ha.elim
def aI2L : am_A := fun K _ _ f st I w => match st with
  | .int x :: r => K f (.long x.toInt64 :: r) I w
  | _ => False
def aL2I : am_A := fun K _ _ f st I w => match st with
  | .long x :: r => K f (.int x.toInt32 :: r) I w
  | _ => False
theorem v_i2l (hd : decode cc pc = .ok (.i2l, 1)) : am_V E k cc nL own pc 1 (aI2L) := by
  intro p l e R s m args below meth c Q nc ns post C K J f st I w ha hK hJ
  obtain ⟨⟨hx, hb, hml, hown, hts⟩, ⟨hKn, hFx, hinj, hl⟩, ⟨hR1, hR2, hR3, hR4⟩, hpost⟩ := C
  simp only [aI2L] at ha
  split at ha
  · rename_i x r
    exact fun H locs ls hP hS hls => lv_i2l hx hb hd rfl (hK _ _ _ _ ha H locs ls hP hS hls)
  · exact ha.elim
theorem v_l2i (hd : decode cc pc = .ok (.l2i, 1)) : am_V E k cc nL own pc 1 (aL2I) := by
  intro p l e R s m args below meth c Q nc ns post C K J f st I w ha hK hJ
  obtain ⟨⟨hx, hb, hml, hown, hts⟩, ⟨hKn, hFx, hinj, hl⟩, ⟨hR1, hR2, hR3, hR4⟩, hpost⟩ := C
  simp only [aL2I] at ha
  split at ha
  · rename_i x r
    exact fun H locs ls hP hS hls => lv_l2i hx hb hd rfl (hK _ _ _ _ ha H locs ls hP hS hls)
  · exact ha.elim
def aDup : am_A := fun K _ _ f st I w => match st with
  | .int x :: r => K f (.int x :: .int x :: r) I w
  | .ref x :: r => K f (.ref x :: .ref x :: r) I w
  | _ => False
theorem v_dup (hd : decode cc pc = .ok (.dup, 1)) : am_V E k cc nL own pc 1 (aDup) := by
  intro p l e R s m args below meth c Q nc ns post C K J f st I w ha hK hJ
  obtain ⟨⟨hx, hb, hml, hown, hts⟩, ⟨hKn, hFx, hinj, hl⟩, ⟨hR1, hR2, hR3, hR4⟩, hpost⟩ := C
  simp only [aDup] at ha
  split at ha
  · exact fun H locs ls hP hS hls => lv_dup hx hb hd rfl (hK _ _ _ _ ha H locs ls hP hS hls)
  · exact fun H locs ls hP hS hls => lv_dup hx hb hd rfl (hK _ _ _ _ ha H locs ls hP hS hls)
  · exact ha.elim
def aPop : am_A := fun K _ _ f st I w => match st with
  | .int _ :: r => K f r I w
  | _ => False
theorem v_pop (hd : decode cc pc = .ok (.pop, 1)) : am_V E k cc nL own pc 1 (aPop) := by
  intro p l e R s m args below meth c Q nc ns post C K J f st I w ha hK hJ
  obtain ⟨⟨hx, hb, hml, hown, hts⟩, ⟨hKn, hFx, hinj, hl⟩, ⟨hR1, hR2, hR3, hR4⟩, hpost⟩ := C
  simp only [aPop] at ha
  split at ha
  · exact fun H locs ls hP hS hls => lv_pop hx hb hd rfl (hK _ _ _ _ ha H locs ls hP hS hls)
  · exact ha.elim
def z_eq (t : Nat) : am_A := fun K J _ f st I w => match st with
  | .int x :: r => (x = 0 → J t f r I w) ∧ (¬ x = 0 → K f r I w)
  | _ => False
def c_eq (t : Nat) : am_A := fun K J _ f st I w => match st with
  | .int y :: .int x :: r => (x = y → J t f r I w) ∧ (¬ x = y → K f r I w)
  | _ => False
theorem v_if_eq {off : Int} {t : Nat} (hd : decode cc pc = .ok (.ifCond .eq off, 3)) (ht : (pc : Int) + off = (t : Int)) : am_V E k cc nL own pc 3 (z_eq t) := by
  intro p l e R s m args below meth c Q nc ns post C K J f st I w ha hK hJ
  obtain ⟨⟨hx, hb, hml, hown, hts⟩, ⟨hKn, hFx, hinj, hl⟩, ⟨hR1, hR2, hR3, hR4⟩, hpost⟩ := C
  simp only [z_eq] at ha
  split at ha
  · rename_i x r
    exact fun H locs ls hP hS hls => lv_if_eq hx hb hd ht (fun h => hJ _ _ _ _ _ (ha.1 h) H locs ls hP hS hls) (fun h => hK _ _ _ _ (ha.2 h) H locs ls hP hS hls)
  · exact ha.elim
theorem v_ic_eq {off : Int} {t : Nat} (hd : decode cc pc = .ok (.if_icmp .eq off, 3)) (ht : (pc : Int) + off = (t : Int)) : am_V E k cc nL own pc 3 (c_eq t) := by
  intro p l e R s m args below meth c Q nc ns post C K J f st I w ha hK hJ
  obtain ⟨⟨hx, hb, hml, hown, hts⟩, ⟨hKn, hFx, hinj, hl⟩, ⟨hR1, hR2, hR3, hR4⟩, hpost⟩ := C
  simp only [c_eq] at ha
  split at ha
  · rename_i y x r
    exact fun H locs ls hP hS hls => lv_icmp_eq hx hb hd ht (fun h => hJ _ _ _ _ _ (ha.1 h) H locs ls hP hS hls) (fun h => hK _ _ _ _ (ha.2 h) H locs ls hP hS hls)
  · exact ha.elim
def z_ne (t : Nat) : am_A := fun K J _ f st I w => match st with
  | .int x :: r => (x = 0 → K f r I w) ∧ (¬ x = 0 → J t f r I w)
  | _ => False
def c_ne (t : Nat) : am_A := fun K J _ f st I w => match st with
  | .int y :: .int x :: r => (x = y → K f r I w) ∧ (¬ x = y → J t f r I w)
  | _ => False
theorem v_if_ne {off : Int} {t : Nat} (hd : decode cc pc = .ok (.ifCond .ne off, 3)) (ht : (pc : Int) + off = (t : Int)) : am_V E k cc nL own pc 3 (z_ne t) := by
  intro p l e R s m args below meth c Q nc ns post C K J f st I w ha hK hJ
  obtain ⟨⟨hx, hb, hml, hown, hts⟩, ⟨hKn, hFx, hinj, hl⟩, ⟨hR1, hR2, hR3, hR4⟩, hpost⟩ := C
  simp only [z_ne] at ha
  split at ha
  · rename_i x r
    exact fun H locs ls hP hS hls => lv_if_ne hx hb hd ht (fun h => hJ _ _ _ _ _ (ha.2 h) H locs ls hP hS hls) (fun h => hK _ _ _ _ (ha.1 h) H locs ls hP hS hls)
  · exact ha.elim
theorem v_ic_ne {off : Int} {t : Nat} (hd : decode cc pc = .ok (.if_icmp .ne off, 3)) (ht : (pc : Int) + off = (t : Int)) : am_V E k cc nL own pc 3 (c_ne t) := by
  intro p l e R s m args below meth c Q nc ns post C K J f st I w ha hK hJ
  obtain ⟨⟨hx, hb, hml, hown, hts⟩, ⟨hKn, hFx, hinj, hl⟩, ⟨hR1, hR2, hR3, hR4⟩, hpost⟩ := C
  simp only [c_ne] at ha
  split at ha
  · rename_i y x r
    exact fun H locs ls hP hS hls => lv_icmp_ne hx hb hd ht (fun h => hJ _ _ _ _ _ (ha.2 h) H locs ls hP hS hls) (fun h => hK _ _ _ _ (ha.1 h) H locs ls hP hS hls)
  · exact ha.elim
def z_lt (t : Nat) : am_A := fun K J _ f st I w => match st with
  | .int x :: r => (x < 0 → J t f r I w) ∧ (¬ x < 0 → K f r I w)
  | _ => False
def c_lt (t : Nat) : am_A := fun K J _ f st I w => match st with
  | .int y :: .int x :: r => (x < y → J t f r I w) ∧ (¬ x < y → K f r I w)
  | _ => False
theorem v_if_lt {off : Int} {t : Nat} (hd : decode cc pc = .ok (.ifCond .lt off, 3)) (ht : (pc : Int) + off = (t : Int)) : am_V E k cc nL own pc 3 (z_lt t) := by
  intro p l e R s m args below meth c Q nc ns post C K J f st I w ha hK hJ
  obtain ⟨⟨hx, hb, hml, hown, hts⟩, ⟨hKn, hFx, hinj, hl⟩, ⟨hR1, hR2, hR3, hR4⟩, hpost⟩ := C
  simp only [z_lt] at ha
  split at ha
  · rename_i x r
    exact fun H locs ls hP hS hls => lv_if_lt hx hb hd ht (fun h => hJ _ _ _ _ _ (ha.1 h) H locs ls hP hS hls) (fun h => hK _ _ _ _ (ha.2 h) H locs ls hP hS hls)
  · exact ha.elim
theorem v_ic_lt {off : Int} {t : Nat} (hd : decode cc pc = .ok (.if_icmp .lt off, 3)) (ht : (pc : Int) + off = (t : Int)) : am_V E k cc nL own pc 3 (c_lt t) := by
  intro p l e R s m args below meth c Q nc ns post C K J f st I w ha hK hJ
  obtain ⟨⟨hx, hb, hml, hown, hts⟩, ⟨hKn, hFx, hinj, hl⟩, ⟨hR1, hR2, hR3, hR4⟩, hpost⟩ := C
  simp only [c_lt] at ha
  split at ha
  · rename_i y x r
    exact fun H locs ls hP hS hls => lv_icmp_lt hx hb hd ht (fun h => hJ _ _ _ _ _ (ha.1 h) H locs ls hP hS hls) (fun h => hK _ _ _ _ (ha.2 h) H locs ls hP hS hls)
  · exact ha.elim
def z_ge (t : Nat) : am_A := fun K J _ f st I w => match st with
  | .int x :: r => (x < 0 → K f r I w) ∧ (¬ x < 0 → J t f r I w)
  | _ => False
def c_ge (t : Nat) : am_A := fun K J _ f st I w => match st with
  | .int y :: .int x :: r => (x < y → K f r I w) ∧ (¬ x < y → J t f r I w)
  | _ => False
theorem v_if_ge {off : Int} {t : Nat} (hd : decode cc pc = .ok (.ifCond .ge off, 3)) (ht : (pc : Int) + off = (t : Int)) : am_V E k cc nL own pc 3 (z_ge t) := by
  intro p l e R s m args below meth c Q nc ns post C K J f st I w ha hK hJ
  obtain ⟨⟨hx, hb, hml, hown, hts⟩, ⟨hKn, hFx, hinj, hl⟩, ⟨hR1, hR2, hR3, hR4⟩, hpost⟩ := C
  simp only [z_ge] at ha
  split at ha
  · rename_i x r
    exact fun H locs ls hP hS hls => lv_if_ge hx hb hd ht (fun h => hJ _ _ _ _ _ (ha.2 (Int32.not_lt.mpr h)) H locs ls hP hS hls) (fun h => hK _ _ _ _ (ha.1 (Int32.not_le.mp h)) H locs ls hP hS hls)
  · exact ha.elim
theorem v_ic_ge {off : Int} {t : Nat} (hd : decode cc pc = .ok (.if_icmp .ge off, 3)) (ht : (pc : Int) + off = (t : Int)) : am_V E k cc nL own pc 3 (c_ge t) := by
  intro p l e R s m args below meth c Q nc ns post C K J f st I w ha hK hJ
  obtain ⟨⟨hx, hb, hml, hown, hts⟩, ⟨hKn, hFx, hinj, hl⟩, ⟨hR1, hR2, hR3, hR4⟩, hpost⟩ := C
  simp only [c_ge] at ha
  split at ha
  · rename_i y x r
    exact fun H locs ls hP hS hls => lv_icmp_ge hx hb hd ht (fun h => hJ _ _ _ _ _ (ha.2 (Int32.not_lt.mpr h)) H locs ls hP hS hls) (fun h => hK _ _ _ _ (ha.1 (Int32.not_le.mp h)) H locs ls hP hS hls)
  · exact ha.elim
def z_gt (t : Nat) : am_A := fun K J _ f st I w => match st with
  | .int x :: r => (0 < x → J t f r I w) ∧ (¬ 0 < x → K f r I w)
  | _ => False
def c_gt (t : Nat) : am_A := fun K J _ f st I w => match st with
  | .int y :: .int x :: r => (y < x → J t f r I w) ∧ (¬ y < x → K f r I w)
  | _ => False
theorem v_if_gt {off : Int} {t : Nat} (hd : decode cc pc = .ok (.ifCond .gt off, 3)) (ht : (pc : Int) + off = (t : Int)) : am_V E k cc nL own pc 3 (z_gt t) := by
  intro p l e R s m args below meth c Q nc ns post C K J f st I w ha hK hJ
  obtain ⟨⟨hx, hb, hml, hown, hts⟩, ⟨hKn, hFx, hinj, hl⟩, ⟨hR1, hR2, hR3, hR4⟩, hpost⟩ := C
  simp only [z_gt] at ha
  split at ha
  · rename_i x r
    exact fun H locs ls hP hS hls => lv_if_gt hx hb hd ht (fun h => hJ _ _ _ _ _ (ha.1 h) H locs ls hP hS hls) (fun h => hK _ _ _ _ (ha.2 h) H locs ls hP hS hls)
  · exact ha.elim
theorem v_ic_gt {off : Int} {t : Nat} (hd : decode cc pc = .ok (.if_icmp .gt off, 3)) (ht : (pc : Int) + off = (t : Int)) : am_V E k cc nL own pc 3 (c_gt t) := by
  intro p l e R s m args below meth c Q nc ns post C K J f st I w ha hK hJ
  obtain ⟨⟨hx, hb, hml, hown, hts⟩, ⟨hKn, hFx, hinj, hl⟩, ⟨hR1, hR2, hR3, hR4⟩, hpost⟩ := C
  simp only [c_gt] at ha
  split at ha
  · rename_i y x r
    exact fun H locs ls hP hS hls => lv_icmp_gt hx hb hd ht (fun h => hJ _ _ _ _ _ (ha.1 h) H locs ls hP hS hls) (fun h => hK _ _ _ _ (ha.2 h) H locs ls hP hS hls)
  · exact ha.elim
def z_le (t : Nat) : am_A := fun K J _ f st I w => match st with
  | .int x :: r => (0 < x → K f r I w) ∧ (¬ 0 < x → J t f r I w)
  | _ => False
def c_le (t : Nat) : am_A := fun K J _ f st I w => match st with
  | .int y :: .int x :: r => (y < x → K f r I w) ∧ (¬ y < x → J t f r I w)
  | _ => False
theorem v_if_le {off : Int} {t : Nat} (hd : decode cc pc = .ok (.ifCond .le off, 3)) (ht : (pc : Int) + off = (t : Int)) : am_V E k cc nL own pc 3 (z_le t) := by
  intro p l e R s m args below meth c Q nc ns post C K J f st I w ha hK hJ
  obtain ⟨⟨hx, hb, hml, hown, hts⟩, ⟨hKn, hFx, hinj, hl⟩, ⟨hR1, hR2, hR3, hR4⟩, hpost⟩ := C
  simp only [z_le] at ha
  split at ha
  · rename_i x r
    exact fun H locs ls hP hS hls => lv_if_le hx hb hd ht (fun h => hJ _ _ _ _ _ (ha.2 (Int32.not_lt.mpr h)) H locs ls hP hS hls) (fun h => hK _ _ _ _ (ha.1 (Int32.not_le.mp h)) H locs ls hP hS hls)
  · exact ha.elim
theorem v_ic_le {off : Int} {t : Nat} (hd : decode cc pc = .ok (.if_icmp .le off, 3)) (ht : (pc : Int) + off = (t : Int)) : am_V E k cc nL own pc 3 (c_le t) := by
  intro p l e R s m args below meth c Q nc ns post C K J f st I w ha hK hJ
  obtain ⟨⟨hx, hb, hml, hown, hts⟩, ⟨hKn, hFx, hinj, hl⟩, ⟨hR1, hR2, hR3, hR4⟩, hpost⟩ := C
  simp only [c_le] at ha
  split at ha
  · rename_i y x r
    exact fun H locs ls hP hS hls => lv_icmp_le hx hb hd ht (fun h => hJ _ _ _ _ _ (ha.2 (Int32.not_lt.mpr h)) H locs ls hP hS hls) (fun h => hK _ _ _ _ (ha.1 (Int32.not_le.mp h)) H locs ls hP hS hls)
  · exact ha.elim
def aGo (t : Nat) : am_A := fun _ J _ f st I w => J t f st I w
theorem v_goto {off : Int} {t : Nat} (hd : decode cc pc = .ok (.goto off, 3)) (ht : (pc : Int) + off = (t : Int)) : am_V E k cc nL own pc 3 (aGo t) := by
  intro p l e R s m args below meth c Q nc ns post C K J f st I w ha hK hJ
  obtain ⟨⟨hx, hb, hml, hown, hts⟩, ⟨hKn, hFx, hinj, hl⟩, ⟨hR1, hR2, hR3, hR4⟩, hpost⟩ := C
  exact fun H locs ls hP hS hls => lv_goto hx hb hd ht (hJ _ _ _ _ _ ha H locs ls hP hS hls)
def am_sw (J : Nat → Prop) (x : Int32) (d : Nat) : List (Int32 × Nat) → Prop
  | [] => J d
  | (v, t) :: r => (x = v → J t) ∧ (¬ x = v → am_sw J x d r)
theorem am_sw_of {J : Nat → Prop} {x : Int32} {d : Nat} : ∀ (ks : List (Int32 × Nat)), am_sw J x d ks → (∃ (i t : Nat), ks[i]? = some (x, t) ∧ J t) ∨ ((∀ (i : Nat) (q : Int32 × Nat), ks[i]? = some q → x ≠ q.1) ∧ J d)
  | [], h => Or.inr ⟨fun i q hq => by simp at hq, h⟩
  | (v, t) :: r, h => by
    by_cases e : x = v
    · exact Or.inl ⟨0, t, by rw [e]; rfl, h.1 e⟩
    · rcases am_sw_of r (h.2 e) with ⟨i, t', h1, h2⟩ | ⟨h1, h2⟩
      · exact Or.inl ⟨i + 1, t', h1, h2⟩
      · refine Or.inr ⟨fun i q hq => ?_, h2⟩
        cases i with
        | zero => simp at hq; rw [← hq]; exact e
        | succ i => exact h1 i q hq
def aSw (ks : List (Int32 × Nat)) (d : Nat) : am_A := fun _ J _ f st I w => match st with
  | .int x :: r => am_sw (fun t => J t f r I w) x d ks
  | _ => False
theorem v_tsw {dflt lo hi : Int} {offs : Array Int} {len : Nat} {ks : List (Int32 × Nat)} {d : Nat} (hd : decode cc pc = .ok (.tableswitch dflt lo hi offs, len)) (ht : (pc : Int) + dflt = (d : Int)) (hk : lo + (ks.length : Int) = hi + 1) (hks : (List.range ks.length).all (fun i => decide ((ks.getD i (0, 0)).1.toInt = lo + (i : Int)) && decide (offs[i]? = some (((ks.getD i (0, 0)).2 : Int) - (pc : Int)))) = true) : am_V E k cc nL own pc len (aSw ks d) := by
  intro p l e R s m args below meth c Q nc ns post C K J f st I w ha hK hJ
  obtain ⟨⟨hx, hb, hml, hown, hts⟩, ⟨hKn, hFx, hinj, hl⟩, ⟨hR1, hR2, hR3, hR4⟩, hpost⟩ := C
  simp only [aSw] at ha
  split at ha
  · rename_i x r
    have hi' : ∀ (i : Nat) (q : Int32 × Nat), ks[i]? = some q → q.1.toInt = lo + (i : Int) ∧ offs[i]? = some ((q.2 : Int) - (pc : Int)) := by
      intro i q hq
      have hlt := (List.getElem?_eq_some_iff.mp hq).1
      have h1 := List.all_eq_true.mp hks i (List.mem_range.mpr hlt)
      rw [Bool.and_eq_true, decide_eq_true_eq, decide_eq_true_eq] at h1
      have e : ks.getD i (0, 0) = q := by rw [List.getD_eq_getElem?_getD, hq]; rfl
      rw [e] at h1
      exact h1
    intro H locs ls hP hS hls
    rcases am_sw_of ks ha with ⟨i, t, h1, h2⟩ | ⟨h1, h2⟩
    · obtain ⟨a1, a2⟩ := hi' i _ h1
      have hlt := (List.getElem?_eq_some_iff.mp h1).1
      have e : (x.toInt - lo).toNat = i := by rw [a1]; omega
      exact lv_tableIn hx hb hd (off := (t : Int) - pc) (tgt := t) (by rw [a1]; omega) (by rw [a1]; omega) (by rw [e]; exact a2) (by omega) (hJ _ _ _ _ _ h2 H locs ls hP hS hls)
    · refine lv_tableOut hx hb hd ?_ ht (hJ _ _ _ _ _ h2 H locs ls hP hS hls)
      by_cases q1 : x.toInt < lo
      · exact Or.inl q1
      · by_cases q2 : hi < x.toInt
        · exact Or.inr q2
        · exfalso
          have hlt : (x.toInt - lo).toNat < ks.length := by omega
          have hq := List.getElem?_eq_getElem hlt
          obtain ⟨a1, -⟩ := hi' _ _ hq
          exact h1 _ _ hq (Int32.toInt_inj.mp (by rw [a1]; omega))
  · exact ha.elim
theorem am_lsw {J : Nat → Prop} {x : Int32} {d pc : Nat} {dflt : Int} (hd : (pc : Int) + dflt = (d : Int)) : ∀ (ks : List (Int32 × Nat)) (ps : List (Int × Int)), am_sw J x d ks → ps = ks.map (fun q => (q.1.toInt, (q.2 : Int) - (pc : Int))) → ∃ t : Nat, J t ∧ (pc : Int) + Op.lookupswitch.offset ps dflt x.toInt = (t : Int)
  | [], _, h, rfl => ⟨d, h, by simpa [Op.lookupswitch.offset] using hd⟩
  | (v, t) :: r, _, h, rfl => by
    rw [List.map_cons, Op.lookupswitch.offset_cons]
    by_cases e : x = v
    · subst e
      exact ⟨t, h.1 rfl, by simp; omega⟩
    · obtain ⟨t', h1, h2⟩ := am_lsw hd r _ (h.2 e) rfl
      refine ⟨t', h1, ?_⟩
      rw [if_neg]
      · exact h2
      · intro q
        exact e (Int32.toInt_inj.mp q.symm)
theorem v_lsw {dflt : Int} {ps : Array (Int × Int)} {len : Nat} {ks : List (Int32 × Nat)} {d : Nat} (hd : decode cc pc = .ok (.lookupswitch dflt ps, len)) (hp : (ps.toList.zip (ps.toList.drop 1)).all (fun (a, next) => a.1 < next.1) = true) (ht : (pc : Int) + dflt = (d : Int)) (hks : ps.toList = ks.map (fun q => (q.1.toInt, (q.2 : Int) - (pc : Int)))) : am_V E k cc nL own pc len (aSw ks d) := by
  intro p l e R s m args below meth c Q nc ns post C K J f st I w ha hK hJ
  obtain ⟨⟨hx, hb, hml, hown, hts⟩, ⟨hKn, hFx, hinj, hl⟩, ⟨hR1, hR2, hR3, hR4⟩, hpost⟩ := C
  simp only [aSw] at ha
  split at ha
  · rename_i x r
    intro H locs ls hP hS hls
    obtain ⟨t, h1, h2⟩ := am_lsw ht ks ps.toList ha hks
    exact lv_lookup hx hb hd hp rfl h2 (hJ _ _ _ _ _ h1 H locs ls hP hS hls)
  · exact ha.elim
def aRi : am_A := fun _ _ Rt f st I w => match st with
  | [.int v] => Rt f [.int v] I w
  | _ => False
def aRl : am_A := fun _ _ Rt f st I w => match st with
  | [.long v] => Rt f [.long v] I w
  | _ => False
def aRv : am_A := fun _ _ Rt f st I w => match st with
  | [] => Rt f [] I w
  | _ => False
theorem v_ireturn (hd : decode cc pc = .ok (.ireturn, 1)) : am_V E k cc nL own pc 1 (aRi) := by
  intro p l e R s m args below meth c Q nc ns post C K J f st I w ha hK hJ
  obtain ⟨⟨hx, hb, hml, hown, hts⟩, ⟨hKn, hFx, hinj, hl⟩, ⟨hR1, hR2, hR3, hR4⟩, hpost⟩ := C
  simp only [aRi] at ha
  split at ha
  · exact fun H locs ls hP hS hls => hpost .ireturn _ _ _ _ pc H locs ls ha (Or.inl ⟨rfl, _, rfl⟩) hd hP hS
  · exact ha.elim
theorem v_lreturn (hd : decode cc pc = .ok (.lreturn, 1)) : am_V E k cc nL own pc 1 (aRl) := by
  intro p l e R s m args below meth c Q nc ns post C K J f st I w ha hK hJ
  obtain ⟨⟨hx, hb, hml, hown, hts⟩, ⟨hKn, hFx, hinj, hl⟩, ⟨hR1, hR2, hR3, hR4⟩, hpost⟩ := C
  simp only [aRl] at ha
  split at ha
  · exact fun H locs ls hP hS hls => hpost .lreturn _ _ _ _ pc H locs ls ha (Or.inr (Or.inl ⟨rfl, _, rfl⟩)) hd hP hS
  · exact ha.elim
theorem v_return_ (hd : decode cc pc = .ok (.return_, 1)) : am_V E k cc nL own pc 1 (aRv) := by
  intro p l e R s m args below meth c Q nc ns post C K J f st I w ha hK hJ
  obtain ⟨⟨hx, hb, hml, hown, hts⟩, ⟨hKn, hFx, hinj, hl⟩, ⟨hR1, hR2, hR3, hR4⟩, hpost⟩ := C
  simp only [aRv] at ha
  split at ha
  · exact fun H locs ls hP hS hls => hpost .return_ _ _ _ _ pc H locs ls ha (Or.inr (Or.inr ⟨rfl, rfl⟩)) hd hP hS
  · exact ha.elim
end ACTS
end
section
/-! acts on the cells -/
def am_code (ci o j : Nat) : Option Nat := match am_nt am_sh o with
  | some (kd, _, r) => (match Nat.beq kd (ci + 5) with
    | true => am_nt r j
    | false => none)
  | none => none
theorem am_code_spec {ci o j x : Nat} (h : am_code ci o j = some x) : ∃ (n : Nat) (r : List Nat), am_sh[o]? = some (ci + 5, n, r) ∧ r[j]? = some x := by
  unfold am_code at h
  split at h
  · rename_i kd n r hs
    split at h
    · rename_i hb
      have e : kd = ci + 5 := Nat.eq_of_beq_eq_true hb
      subst e
      exact ⟨n, r, by rw [← am_nt_eq]; exact hs, by rw [← am_nt_eq]; exact h⟩
    · cases h
  · cases h
def am_arr (kd o : Nat) : Option Nat := match am_nt am_sh o with
  | some (kd', n, _) => (match Nat.beq kd kd' with
    | true => some n
    | false => none)
  | none => none
theorem am_arr_spec {kd o n : Nat} (h : am_arr kd o = some n) : ∃ (r : List Nat), am_sh[o]? = some (kd, n, r) := by
  unfold am_arr at h
  split at h
  · rename_i kd' n' r hs
    split at h
    · rename_i hb
      have e : kd = kd' := Nat.eq_of_beq_eq_true hb
      subst e
      cases h
      exact ⟨r, by rw [← am_nt_eq]; exact hs⟩
    · cases h
  · cases h
/-- the elements of the rows of objects -/
def am_el (kd i : Nat) : Nat := match kd with
  | 2 => 49 + 2 * i
  | 3 => 30 + 2 * i
  | _ => 80 + 2 * i
theorem am_el_ok : am_sh.all (fun s => !(Nat.ble 2 s.1 && Nat.ble s.1 4) || (List.range s.2.1).all (fun i => decide (s.2.2.getD i 0 = am_el s.1 i))) = true := by decide +kernel
theorem am_el_of {o kd n i : Nat} {r : List Nat} (h : am_sh[o]? = some (kd, n, r)) (h2 : 2 ≤ kd) (h4 : kd ≤ 4) (hi : i < n) : r.getD i 0 = am_el kd i := by
  have h1 := List.all_eq_true.mp am_el_ok _ (List.mem_of_getElem? h)
  rw [show Nat.ble 2 kd = true from Nat.ble_eq.mpr h2, show Nat.ble kd 4 = true from Nat.ble_eq.mpr h4] at h1
  simp only [Bool.and_self, Bool.not_true, Bool.false_or] at h1
  exact of_decide_eq_true (List.all_eq_true.mp h1 i (List.mem_range.mpr hi))
/-- the one long lies in the reference -/
theorem am_one : (List.range am_N).all (fun k => k == 88 || !((am_sh.getD k (0, 0, [])).2.2.contains 1)) = true ∧ (List.range 60).all (fun j => j == 21 || !decide (((am_sh.getD 88 (0, 0, [])).2.2)[j]? = some 1)) = true ∧ ((am_sh.getD 88 (0, 0, [])).2.2).length ≤ 60 := by decide +kernel
theorem am_fv_w {ad : Nat → Nat} {f : Nat → Int32} {w w' : Int64} : ∀ (r : List Nat) (b : Nat), ¬ 1 ∈ r → am_fv ad f w b r = am_fv ad f w' b r
  | [], b, _ => rfl
  | c :: r, b, h => by
    rw [am_fv, am_fv, am_fv_w r (b + 1) (fun q => h (List.mem_cons_of_mem _ q))]
    have e : am_cv ad (f b) w c = am_cv ad (f b) w' c := by
      match c, h with
      | 0, _ => rfl
      | 1, h => exact absurd List.mem_cons_self h
      | q + 2, _ => rfl
    rw [e]
theorem am_ce_w {E : am_E} {f : Nat → Int32} {w w' : Int64} {j : Nat} {s : am_sT} (hj : j ≠ 88) (hs : am_sh[j]? = some s) : am_ce E f w s = am_ce E f w' s := by
  have hlt : j < am_N := by rw [← am_shN]; exact (List.getElem?_eq_some_iff.mp hs).1
  have h1 := List.all_eq_true.mp am_one.1 j (List.mem_range.mpr hlt)
  have e : am_sh.getD j (0, 0, []) = s := by rw [List.getD_eq_getElem?_getD, hs]; rfl
  rw [e] at h1
  have h2 : ¬ 1 ∈ s.2.2 := by
    intro q
    rw [List.contains_iff_mem.mpr q] at h1
    simp at h1
    exact hj h1
  obtain ⟨kd, n, r⟩ := s
  match kd, h2 with
  | 0, _ => rfl
  | 1, _ => rfl
  | 2, _ => rfl
  | 3, _ => rfl
  | 4, _ => rfl
  | q + 5, h2 => exact congrArg (fun z => (Sum.inr (q, z) : va_E)) (am_fv_w r 0 h2)
theorem am_fv_set {ad : Nat → Nat} {f f' : Nat → Int32} {w : Int64} {r : List Nat} {j : Nat} {v : Int32} (hj : r[j]? = some 0) (h1 : f' j = v) (h2 : ∀ i, i ≠ j → f' i = f i) : (am_fv ad f w 0 r).set j (.int v) = am_fv ad f' w 0 r := by
  have hlt := (List.getElem?_eq_some_iff.mp hj).1
  apply List.ext_getElem?
  intro i
  by_cases hi : i = j
  · subst hi
    rw [List.getElem?_set_self (by rw [am_fv_len]; exact hlt), am_fv_get, hj, Nat.zero_add]
    simp [am_cv, h1]
  · rw [List.getElem?_set_ne (Ne.symm hi), am_fv_get, am_fv_get, Nat.zero_add, h2 i hi]
theorem am_fv_setl {ad : Nat → Nat} {f : Nat → Int32} {w w' : Int64} {r : List Nat} {j : Nat} (hj : r[j]? = some 1) (h1 : ∀ i, i ≠ j → r[i]? ≠ some 1) : (am_fv ad f w 0 r).set j (.long w') = am_fv ad f w' 0 r := by
  have hlt := (List.getElem?_eq_some_iff.mp hj).1
  apply List.ext_getElem?
  intro i
  by_cases hi : i = j
  · subst hi
    rw [List.getElem?_set_self (by rw [am_fv_len]; exact hlt), am_fv_get, hj]
    simp [am_cv]
  · rw [List.getElem?_set_ne (Ne.symm hi), am_fv_get, am_fv_get]
    cases hr : r[i]? with
    | none => rfl
    | some c =>
      match c, hr with
      | 0, _ => rfl
      | 1, hr => exact absurd hr (h1 i hi)
      | q + 2, _ => rfl
/-- a field's link: read; written -/
def am_fl (own : String) (idx ci j : Nat) : Prop := ∃ q, classes[ci]? = some q ∧ j < q.2.2 ∧ (q.2.1 j).1 = q.1 ∧ Cond.fieldLink own idx q.1 (q.2.1 j).2.1 (q.2.1 j).2.2.1 ∈ am_T
def am_fw (own : String) (idx ci j : Nat) (ty : FieldType) : Prop := ∃ q, classes[ci]? = some q ∧ j < q.2.2 ∧ (q.2.1 j).1 = q.1 ∧ Cond.fieldLink own idx q.1 (q.2.1 j).2.1 (q.2.1 j).2.2.1 ∈ am_T ∧ (q.2.1 j).2.2.2 = false ∧ parseFieldDescriptor (q.2.1 j).2.2.1 = some ty
section ACTS2
variable {E : am_E} {k : Nat} {cc : ByteArray} {nL : Nat} {own : String} {pc : Nat}
def aGet (ci j : Nat) : am_A := fun K _ _ f st I w => match st with
  | .ref o :: r => (match am_code ci o j with
    | some 0 => K f (.int (I o j) :: r) I w
    | some 1 => K f (.long w :: r) I w
    | some (q + 2) => K f (.ref q :: r) I w
    | none => False)
  | _ => False
theorem v_get {idx ci j : Nat} (hf : am_fl own idx ci j) (hd : decode cc pc = .ok (.getfield idx, 3)) : am_V E k cc nL own pc 3 (aGet ci j) := by
  intro p l e R s m args below meth c Q nc ns post C K J f st I w ha hK hJ
  obtain ⟨⟨hx, hb, hml, hown, hts⟩, ⟨hKn, hFx, hinj, hl⟩, ⟨hR1, hR2, hR3, hR4⟩, hpost⟩ := C
  obtain ⟨⟨C0, T0, N0⟩, h1, h2, h3, h4⟩ := hf
  simp only [aGet] at ha
  split at ha
  · rename_i o r
    have key : ∀ (x : Nat) (v : Value), am_code ci o j = some x → am_rz E.2.1 v = am_cv E.2.1 (I o j) w x → K f (v :: r) I w → am_Sem E p l e R s m args below meth c nL Q nc ns pc f (.ref o :: r) I w := by
      intro x v hx' hv hk H locs ls hP hS hls
      obtain ⟨n, rr, hs, hj⟩ := am_code_spec hx'
      have he := am_wd_get E I w hs
      refine va_get (fs := am_fv E.2.1 (I o) w 0 rr) hx hb hts (k_all h1).1 hown hKn hP o he h1 j h2 (hts _ h4) (fun _ h => by rw [h3] at h; exact h) (v := am_rz E.2.1 v) ?_ hd (hK _ _ _ _ hk H locs ls hP hS hls)
      rw [am_fv_get, hj, Nat.zero_add, hv]
      rfl
    split at ha
    · rename_i hc; exact key 0 _ hc rfl ha
    · rename_i hc; exact key 1 _ hc rfl ha
    · rename_i q hc; exact key (q + 2) _ hc rfl ha
    · exact ha.elim
  · exact ha.elim
def aPut (ci j : Nat) : am_A := fun K _ _ f st I w => match st with
  | .int v :: .ref o :: r => (match am_code ci o j with
    | some 0 => K f r (am_up I o j v) w
    | _ => False)
  | _ => False
def aPutz (ci j : Nat) : am_A := fun K _ _ f st I w => match st with
  | .int v :: .ref o :: r => (match am_code ci o j with
    | some 0 => (v = 0 ∨ v = 1) ∧ K f r (am_up I o j v) w
    | _ => False)
  | _ => False
def aPutj : am_A := fun K _ _ f st I _ => match st with
  | .long v :: .ref o :: r => (match Nat.beq o 88 with
    | true => K f r I v
    | false => False)
  | _ => False
theorem v_put0 {idx ci j : Nat} {ty : FieldType} (hf : am_fw own idx ci j ty) (hd : decode cc pc = .ok (.putfield idx, 3)) {p : Program} {l : Launch} {e : Env} {R : Room} {s : State} {m : MethodId} {args : Array Value} {below : List Frame} {meth : Method} {c : Code} {Q : State → Prop} {nc ns : Nat} {post : am_K}
    (C : am_Ctx E k p l e R s m args below meth c Q nc ns cc nL own post) {f : am_L} {v : Int32} {o : Nat} {r : List Value} {I : am_I} {w : Int64} (hn : narrow ty (.int v) = .int v) (hfit : fits ty (.int v) = true) (hc : am_code ci o j = some 0)
    (hK : am_Sem E p l e R s m args below meth c nL Q nc ns (pc + 3) f r (am_up I o j v) w) : am_Sem E p l e R s m args below meth c nL Q nc ns pc f (.int v :: .ref o :: r) I w := by
  obtain ⟨⟨hx, hb, hml, hown, hts⟩, ⟨hKn, hFx, hinj, hl⟩, ⟨hR1, hR2, hR3, hR4⟩, hpost⟩ := C
  obtain ⟨⟨C0, T0, N0⟩, h1, h2, h3, h4, h5, h6⟩ := hf
  intro H locs ls hP hS hls
  obtain ⟨n, rr, hs, hj⟩ := am_code_spec hc
  have he := am_wd_get E I w hs
  have hl0 : j < (am_fv E.2.1 (I o) w 0 rr).length := by rw [am_fv_len]; exact (List.getElem?_eq_some_iff.mp hj).1
  refine va_put (fs := am_fv E.2.1 (I o) w 0 rr) (v := .int v) hx hb hts (k_all h1).1 (kT ci) (k_all h1).2.2 (k_all h1).2.1 hown hKn hP (am_wd_D hinj I w) hS o he h1 j h2 (hts _ h4) (fun _ h => by rw [h3] at h; exact h) h5 h6 hn hfit hl0 hd (fun H1 locs1 hP1 _ hS1 => ?_)
  have e1 : (Sum.inr (ci, (am_fv E.2.1 (I o) w 0 rr).set j (.int v)) : va_E) = am_ce E (am_up I o j v o) w (ci + 5, n, rr) :=
    congrArg (fun z => (Sum.inr (ci, z) : va_E)) (am_fv_set hj (by simp [am_up]) (fun i hi => by simp [am_up, hi]))
  have e2 := am_wd_set (E := E) (I := I) (I' := am_up I o j v) (w := w) (w' := w) hs (fun i s' hi _ => by rw [am_up_ne hi])
  rw [e1, e2] at hP1
  exact hK H1 locs1 ls hP1 hS1 hls
theorem v_put {idx ci j : Nat} (hf : am_fw own idx ci j .int) (hd : decode cc pc = .ok (.putfield idx, 3)) : am_V E k cc nL own pc 3 (aPut ci j) := by
  intro p l e R s m args below meth c Q nc ns post C K J f st I w ha hK hJ
  simp only [aPut] at ha
  split at ha
  · rename_i v o r
    split at ha
    · rename_i hc
      exact v_put0 hf hd C rfl rfl hc (hK _ _ _ _ ha)
    · exact ha.elim
  · exact ha.elim
theorem v_putz {idx ci j : Nat} (hf : am_fw own idx ci j .boolean) (hd : decode cc pc = .ok (.putfield idx, 3)) : am_V E k cc nL own pc 3 (aPutz ci j) := by
  intro p l e R s m args below meth c Q nc ns post C K J f st I w ha hK hJ
  simp only [aPutz] at ha
  split at ha
  · rename_i v o r
    split at ha
    · rename_i hc
      have hz : narrow .boolean (.int v) = .int v ∧ fits .boolean (.int v) = true := by
        rcases ha.1 with e | e <;> subst e <;> exact ⟨by decide, by decide⟩
      exact v_put0 hf hd C hz.1 hz.2 hc (hK _ _ _ _ ha.2)
    · exact ha.elim
  · exact ha.elim
theorem v_putj {idx : Nat} (hf : am_fw own idx 12 21 .long) (hd : decode cc pc = .ok (.putfield idx, 3)) : am_V E k cc nL own pc 3 aPutj := by
  intro p l e R s m args below meth c Q nc ns post C K J f st I w ha hK hJ
  simp only [aPutj] at ha
  split at ha
  · rename_i v o r
    split at ha
    · rename_i hb88
      have e88 : o = 88 := Nat.eq_of_beq_eq_true hb88
      subst e88
      obtain ⟨⟨hx, hb, hml, hown, hts⟩, ⟨hKn, hFx, hinj, hl⟩, ⟨hR1, hR2, hR3, hR4⟩, hpost⟩ := C
      obtain ⟨⟨C0, T0, N0⟩, h1, h2, h3, h4, h5, h6⟩ := hf
      intro H locs ls hP hS hls
      have hc : am_code 12 88 21 = some 1 := by decide +kernel
      obtain ⟨n, rr, hs, hj⟩ := am_code_spec hc
      have he := am_wd_get E I w hs
      have hl0 : 21 < (am_fv E.2.1 (I 88) w 0 rr).length := by rw [am_fv_len]; exact (List.getElem?_eq_some_iff.mp hj).1
      have hu : ∀ i, i ≠ 21 → rr[i]? ≠ some 1 := by
        intro i hi q
        have er : (am_sh.getD 88 (0, 0, [])).2.2 = rr := by rw [List.getD_eq_getElem?_getD, hs]; rfl
        obtain ⟨-, u1, u2⟩ := am_one
        rw [er] at u1 u2
        have hlt : i < 60 := Nat.lt_of_lt_of_le (List.getElem?_eq_some_iff.mp q).1 u2
        have := List.all_eq_true.mp u1 i (List.mem_range.mpr hlt)
        rw [q] at this
        simp at this
        exact hi this
      refine va_put (fs := am_fv E.2.1 (I 88) w 0 rr) (v := .long v) hx hb hts (k_all h1).1 (kT 12) (k_all h1).2.2 (k_all h1).2.1 hown hKn hP (am_wd_D hinj I w) hS 88 he h1 21 h2 (hts _ h4) (fun _ h => by rw [h3] at h; exact h) h5 h6 rfl rfl hl0 hd (fun H1 locs1 hP1 _ hS1 => ?_)
      have e1 : (Sum.inr (12, (am_fv E.2.1 (I 88) w 0 rr).set 21 (.long v)) : va_E) = am_ce E (I 88) v (12 + 5, n, rr) :=
        congrArg (fun z => (Sum.inr (12, z) : va_E)) (am_fv_setl hj hu)
      have e2 := am_wd_set (E := E) (I := I) (I' := I) (w := w) (w' := v) hs (fun i s' hi hs' => am_ce_w hi hs')
      rw [e1, e2] at hP1
      exact hK _ _ _ _ ha H1 locs1 ls hP1 hS1 hls
    · exact ha.elim
  · exact ha.elim
/-! arrays -/
def aAld (kd : Nat) : am_A := fun K _ _ f st I w => match st with
  | .int i :: .ref o :: r => (match am_arr kd o with
    | some n => vp_in i n ∧ K f (.int (I o i.toNatClampNeg) :: r) I w
    | none => False)
  | _ => False
theorem v_iald (hd : decode cc pc = .ok (.iaload, 1)) : am_V E k cc nL own pc 1 (aAld 0) := by
  intro p l e R s m args below meth c Q nc ns post C K J f st I w ha hK hJ
  obtain ⟨⟨hx, hb, hml, hown, hts⟩, ⟨hKn, hFx, hinj, hl⟩, ⟨hR1, hR2, hR3, hR4⟩, hpost⟩ := C
  simp only [aAld] at ha
  split at ha
  · rename_i i o r
    split at ha
    · rename_i n hc
      obtain ⟨rr, hs⟩ := am_arr_spec hc
      intro H locs ls hP hS hls
      exact va_iald hx hb hKn hP o 0 (am_wd_get E I w hs) rfl ha.1 hd (hK _ _ _ _ ha.2 H locs ls hP hS hls)
    · exact ha.elim
  · exact ha.elim
theorem v_zald (hd : decode cc pc = .ok (.baload, 1)) : am_V E k cc nL own pc 1 (aAld 1) := by
  intro p l e R s m args below meth c Q nc ns post C K J f st I w ha hK hJ
  obtain ⟨⟨hx, hb, hml, hown, hts⟩, ⟨hKn, hFx, hinj, hl⟩, ⟨hR1, hR2, hR3, hR4⟩, hpost⟩ := C
  simp only [aAld] at ha
  split at ha
  · rename_i i o r
    split at ha
    · rename_i n hc
      obtain ⟨rr, hs⟩ := am_arr_spec hc
      intro H locs ls hP hS hls
      exact va_zald hx hb hKn hP o 1 (am_wd_get E I w hs) rfl ha.1 hd (hK _ _ _ _ ha.2 H locs ls hP hS hls)
    · exact ha.elim
  · exact ha.elim
def aAst : am_A := fun K _ _ f st I w => match st with
  | .int v :: .int i :: .ref o :: r => (match am_arr 0 o with
    | some n => vp_in i n ∧ K f r (am_up I o i.toNatClampNeg v) w
    | none => False)
  | _ => False
theorem v_iast (hd : decode cc pc = .ok (.iastore, 1)) : am_V E k cc nL own pc 1 aAst := by
  intro p l e R s m args below meth c Q nc ns post C K J f st I w ha hK hJ
  obtain ⟨⟨hx, hb, hml, hown, hts⟩, ⟨hKn, hFx, hinj, hl⟩, ⟨hR1, hR2, hR3, hR4⟩, hpost⟩ := C
  simp only [aAst] at ha
  split at ha
  · rename_i v i o r
    split at ha
    · rename_i n hc
      obtain ⟨rr, hs⟩ := am_arr_spec hc
      intro H locs ls hP hS hls
      refine va_iast hx hb hKn hP (am_wd_D hinj I w) hS o 0 (am_wd_get E I w hs) rfl ha.1 hd (fun H1 locs1 hP1 _ hS1 => ?_)
      have e1 : (Sum.inl (E.2.2.2 0, n, .inl (upd (I o) i.toNatClampNeg v)) : va_E) = am_ce E (am_up I o i.toNatClampNeg v o) w (0, n, rr) := by rw [am_up_self]; rfl
      have e2 := am_wd_set (E := E) (I := I) (I' := am_up I o i.toNatClampNeg v) (w := w) (w' := w) hs (fun i s' hi _ => by rw [am_up_ne hi])
      rw [e1, e2] at hP1
      exact hK _ _ _ _ ha.2 H1 locs1 ls hP1 hS1 hls
    · exact ha.elim
  · exact ha.elim
def aAstz : am_A := fun K _ _ f st I w => match st with
  | .int v :: .int i :: .ref o :: r => (match am_arr 1 o with
    | some n => vp_in i n ∧ (v = 0 ∨ v = 1) ∧ K f r (am_up I o i.toNatClampNeg v) w
    | none => False)
  | _ => False
theorem v_zast (hd : decode cc pc = .ok (.bastore, 1)) : am_V E k cc nL own pc 1 aAstz := by
  intro p l e R s m args below meth c Q nc ns post C K J f st I w ha hK hJ
  obtain ⟨⟨hx, hb, hml, hown, hts⟩, ⟨hKn, hFx, hinj, hl⟩, ⟨hR1, hR2, hR3, hR4⟩, hpost⟩ := C
  simp only [aAstz] at ha
  split at ha
  · rename_i v i o r
    split at ha
    · rename_i n hc
      obtain ⟨rr, hs⟩ := am_arr_spec hc
      obtain ⟨ha1, hz, ha2⟩ := ha
      have hz' : vp_nar .boolean v = v := by rcases hz with e | e <;> subst e <;> decide
      intro H locs ls hP hS hls
      refine va_zast hx hb hKn hP (am_wd_D hinj I w) hS o 1 (am_wd_get E I w hs) rfl ha1 hd (fun H1 locs1 hP1 _ hS1 => ?_)
      rw [hz'] at hP1
      have e1 : (Sum.inl (E.2.2.2 1, n, .inl (upd (I o) i.toNatClampNeg v)) : va_E) = am_ce E (am_up I o i.toNatClampNeg v o) w (1, n, rr) := by rw [am_up_self]; rfl
      have e2 := am_wd_set (E := E) (I := I) (I' := am_up I o i.toNatClampNeg v) (w := w) (w' := w) hs (fun i s' hi _ => by rw [am_up_ne hi])
      rw [e1, e2] at hP1
      exact hK _ _ _ _ ha2 H1 locs1 ls hP1 hS1 hls
    · exact ha.elim
  · exact ha.elim
def aAa (kd : Nat) : am_A := fun K _ _ f st I w => match st with
  | .int i :: .ref o :: r => (match am_arr kd o with
    | some n => vp_in i n ∧ K f (.ref (am_el kd i.toNatClampNeg) :: r) I w
    | none => False)
  | _ => False
theorem v_aa {kd : Nat} (h2 : 2 ≤ kd) (h4 : kd ≤ 4) (hd : decode cc pc = .ok (.aaload, 1)) : am_V E k cc nL own pc 1 (aAa kd) := by
  intro p l e R s m args below meth c Q nc ns post C K J f st I w ha hK hJ
  obtain ⟨⟨hx, hb, hml, hown, hts⟩, ⟨hKn, hFx, hinj, hl⟩, ⟨hR1, hR2, hR3, hR4⟩, hpost⟩ := C
  simp only [aAa] at ha
  split at ha
  · rename_i i o r
    split at ha
    · rename_i n hc
      obtain ⟨rr, hs⟩ := am_arr_spec hc
      have hlt : i.toNatClampNeg < n := Nat.not_le.mp fun q => ha.1 (Or.inr q)
      have hel := am_el_of hs h2 h4 hlt
      intro H locs ls hP hS hls
      have hk := hK _ _ _ _ ha.2 H locs ls hP hS hls
      have he := am_wd_get E I w hs
      have hv : am_rz E.2.1 (.ref (am_el kd i.toNatClampNeg)) = va_rf (some (E.2.1 (rr.getD i.toNatClampNeg 0))) := by rw [hel]; rfl
      rcases (show kd = 2 ∨ kd = 3 ∨ kd = 4 by omega) with e | e | e <;> subst e
      · exact va_aldq hx hb hKn hP o 2 (f := fun i => some (E.2.1 (rr.getD i 0))) he rfl ha.1 hd (by rw [← hv]; exact hk)
      · exact va_aldq hx hb hKn hP o 3 (f := fun i => some (E.2.1 (rr.getD i 0))) he rfl ha.1 hd (by rw [← hv]; exact hk)
      · exact va_aldq hx hb hKn hP o 4 (f := fun i => some (E.2.1 (rr.getD i 0))) he rfl ha.1 hd (by rw [← hv]; exact hk)
    · exact ha.elim
  · exact ha.elim
def aLen : am_A := fun K _ _ f st I w => match st with
  | .ref o :: r => (match am_arr 0 o with
    | some n => K f (.int (nI n) :: r) I w
    | none => False)
  | _ => False
theorem v_alen (hd : decode cc pc = .ok (.arraylength, 1)) : am_V E k cc nL own pc 1 aLen := by
  intro p l e R s m args below meth c Q nc ns post C K J f st I w ha hK hJ
  obtain ⟨⟨hx, hb, hml, hown, hts⟩, ⟨hKn, hFx, hinj, hl⟩, ⟨hR1, hR2, hR3, hR4⟩, hpost⟩ := C
  simp only [aLen] at ha
  split at ha
  · rename_i o r
    split at ha
    · rename_i n hc
      obtain ⟨rr, hs⟩ := am_arr_spec hc
      intro H locs ls hP hS hls
      exact va_alen hx hb hKn hP o 0 (am_wd_get E I w hs) (ty := .int) rfl (v := nI n) rfl hd (hK _ _ _ _ ha H locs ls hP hS hls)
    · exact ha.elim
  · exact ha.elim
/-! the static rows -/
def aGs (q : Nat) : am_A := fun K _ _ f st I w => K f (.ref q :: st) I w
theorem v_under {idx : Nat} (hw : Cond.fieldLink own idx "TwoCamps" "UNDER" "[I" ∈ am_T) (hd : decode cc pc = .ok (.getstatic idx, 3)) : am_V E k cc nL own pc 3 (aGs 120) := by
  intro p l e R s m args below meth c Q nc ns post C K J f st I w ha hK hJ
  obtain ⟨⟨hx, hb, hml, hown, hts⟩, ⟨hKn, hFx, hinj, hl⟩, ⟨hR1, hR2, hR3, hR4⟩, hpost⟩ := C
  exact fun H locs ls hP hS hls => va_gets hx hb hFx.1.1 hS hown (hts _ hw) (fun _ h => h) hd (hK _ _ _ _ ha H locs ls hP hS hls)
theorem v_room {idx : Nat} (hw : Cond.fieldLink own idx "TwoCamps" "ROOM" "[I" ∈ am_T) (hd : decode cc pc = .ok (.getstatic idx, 3)) : am_V E k cc nL own pc 3 (aGs 121) := by
  intro p l e R s m args below meth c Q nc ns post C K J f st I w ha hK hJ
  obtain ⟨⟨hx, hb, hml, hown, hts⟩, ⟨hKn, hFx, hinj, hl⟩, ⟨hR1, hR2, hR3, hR4⟩, hpost⟩ := C
  exact fun H locs ls hP hS hls => va_gets hx hb hFx.2.1.1 hS hown (hts _ hw) (fun _ h => h) hd (hK _ _ _ _ ha H locs ls hP hS hls)
def aTld (q : Nat) (t : Nat → Int32) : am_A := fun K _ _ f st I w => match st with
  | .int i :: .ref o :: r => (match Nat.beq o q with
    | true => vp_in i 6 ∧ K f (.int (t i.toNatClampNeg) :: r) I w
    | false => False)
  | _ => False
theorem v_tund (hd : decode cc pc = .ok (.iaload, 1)) : am_V E k cc nL own pc 1 (aTld 120 am_under) := by
  intro p l e R s m args below meth c Q nc ns post C K J f st I w ha hK hJ
  obtain ⟨⟨hx, hb, hml, hown, hts⟩, ⟨hKn, hFx, hinj, hl⟩, ⟨hR1, hR2, hR3, hR4⟩, hpost⟩ := C
  simp only [aTld] at ha
  split at ha
  · rename_i i o r
    split at ha
    · rename_i hbq
      have e120 : o = 120 := Nat.eq_of_beq_eq_true hbq
      subst e120
      exact fun H locs ls hP hS hls => va_ti hx hb hFx.1.2 hS ha.1 rfl hd (hK _ _ _ _ ha.2 H locs ls hP hS hls)
    · exact ha.elim
  · exact ha.elim
theorem v_troom (hd : decode cc pc = .ok (.iaload, 1)) : am_V E k cc nL own pc 1 (aTld 121 am_room) := by
  intro p l e R s m args below meth c Q nc ns post C K J f st I w ha hK hJ
  obtain ⟨⟨hx, hb, hml, hown, hts⟩, ⟨hKn, hFx, hinj, hl⟩, ⟨hR1, hR2, hR3, hR4⟩, hpost⟩ := C
  simp only [aTld] at ha
  split at ha
  · rename_i i o r
    split at ha
    · rename_i hbq
      have e120 : o = 121 := Nat.eq_of_beq_eq_true hbq
      subst e120
      exact fun H locs ls hP hS hls => va_ti hx hb hFx.2.1.2 hS ha.1 rfl hd (hK _ _ _ _ ha.2 H locs ls hP hS hls)
    · exact ha.elim
  · exact ha.elim
end ACTS2
end
section
/-! calls -/
def am_pop : Nat → List Value → List Value → Option (List Value × List Value)
  | 0, av, st => some (av, st)
  | n + 1, av, v :: st => am_pop n (v :: av) st
  | _ + 1, _, [] => none
theorem am_pop_spec : ∀ (n : Nat) (acc st : List Value) (q : List Value × List Value), am_pop n acc st = some q → ∃ xs, xs.length = n ∧ q.1 = xs ++ acc ∧ st = xs.reverse ++ q.2
  | 0, acc, st, q, h => by cases h; exact ⟨[], rfl, rfl, rfl⟩
  | n + 1, acc, v :: st, q, h => by
    obtain ⟨xs, h1, h2, h3⟩ := am_pop_spec n (v :: acc) st q h
    exact ⟨xs ++ [v], by simp [h1], by rw [h2]; simp, by rw [h3]; simp⟩
  | n + 1, acc, [], q, h => by cases h
def am_wt : List Value → Nat
  | [] => 0
  | .long _ :: r => am_wt r + 2
  | .double _ :: r => am_wt r + 2
  | _ :: r => am_wt r + 1
theorem am_wt_eq (ad : Nat → Nat) : ∀ (st : List Value), (((st.map (am_rz ad))).map fun v => v.category).sum = am_wt st
  | [] => rfl
  | v :: r => by
    have ih := am_wt_eq ad r
    cases v <;> simp [am_wt, am_rz, Value.category] at ih ⊢ <;> omega
def am_ps : Option Value → List Value → List Value
  | none, st => st
  | some v, st => v :: st
theorem am_ps_map (ad : Nat → Nat) (r : Option Value) (st : List Value) : (am_ps r st).map (am_rz ad) = (r.map (am_rz ad)).toList ++ st.map (am_rz ad) := by
  cases r <;> rfl
/-- what the tables say of a method: an instance's; a static one -/
def am_yB (Y : am_Y) (n : Nat) : Prop := Cond.initialized Y.1.cls ∈ am_T ∧ Cond.code Y.1 Y.2.1 Y.2.2.1 Y.2.2.2 ∈ am_T ∧ (Y.1.cls ≠ "java/lang/invoke/MethodHandle" ∧ Y.1.cls ≠ "java/lang/invoke/VarHandle" ∧ (parseMethodDescriptor Y.1.desc).map (fun d => d.parameters.length) = some n) ∧ Y.2.2.1 ≤ 81
def am_yV (Y : am_Y) (n : Nat) : Prop := am_yB Y n ∧ Cond.instanceMethod Y.1 ∈ am_T ∧ Cond.selects Y.1.cls Y.1 Y.1 ∈ am_T
def am_yS (Y : am_Y) (n : Nat) : Prop := am_yB Y n ∧ Cond.static Y.1 ∈ am_T
theorem am_yB.ws {Y : am_Y} {n : Nat} (h : am_yB Y n) : ∀ w ∈ Cond.code Y.1 Y.2.1 Y.2.2.1 Y.2.2.2 :: am_T, w ∈ am_T := by
  intro w hw
  rcases List.mem_cons.mp hw with e | e
  · rw [e]; exact h.2.1
  · exact e
section CALLS
variable {E : am_E} {k : Nat} {cc : ByteArray} {nL : Nat} {own : String} {pc : Nat}
section CALL0
variable {p : Program} {l : Launch} {e : Env} {R : Room} {s : State} {m : MethodId} {args : Array Value} {below : List Frame} {meth : Method} {c : Code} {Q : State → Prop} {nc ns : Nat} {post : am_K}
theorem am_back {H : Heap} {locs : List Loc} {ls : Array Slot} {rest st0 : List Value} {Po : am_Q} {a : Array Value}
    (hr : va_Run p l e R s m args below meth c H locs nc ns 0 0 (F0 m pc ls st0) rest (am_Qc E Po a) (am_Ad E)) (hS : va_S (am_Ad E) s.heap H locs)
    (kk : ∀ (r : Option Value) (I' : am_I) (w' : Int64) (H1 : Heap) (locs1 : List Loc), Po r I' w' → va_P E.2.2.1 classes (am_wd E I' w') H1 → va_S (am_Ad E) s.heap H1 locs1 → W p l e R s m args below meth c H1 locs1 nc ns Q (F0 m (pc + 3) ls ((r.map (am_rz E.2.1)).toList ++ rest))) : W p l e R s m args below meth c H locs nc ns Q (F0 m pc ls st0) := by
  intro T hT X
  obtain ⟨v, st₀, t, T', L, h0, X', hL, e1, e2, ⟨r, I', w', hv, hpo, hP1, hz, hk⟩, st⟩ := hr T hT X
  cases hv
  rw [h0] at hz hk
  obtain ⟨t2, a1, b1⟩ := kk r I' w' T'.heap (locs ++ L) hpo (by rw [e1]; exact hP1)
    ⟨Nat.le_trans hS.1 (by rw [e1]; exact hz), fun q h1 h2 => by rw [e1, hk q (Nat.lt_of_lt_of_le h1 hS.1) h2]; exact hS.2.1 q h1 h2, fun q hq => by
      rcases List.mem_append.mp hq with h | h
      · exact hS.2.2 q h
      · exact hL q h⟩ T' rfl X'
  exact ⟨t2, st t2 a1, b1⟩
theorem am_pre {H : Heap} {locs : List Loc} {I : am_I} {w : Int64} (C : am_Ctx E k p l e R s m args below meth c Q nc ns cc nL own post) (hP : va_P E.2.2.1 classes (am_wd E I w) H) (hS : va_S (am_Ad E) s.heap H locs) (av : List Value) :
    ∀ U : State, U.heap = H → s.WarmedH U.vm → am_Pc E av I w (av.map (am_rz E.2.1)).toArray U := by
  obtain ⟨-, ⟨hKn, hFx, -⟩, -⟩ := C
  intro U hU hW
  exact ⟨rfl, va_K.moved hW.alike hKn, by rw [hU]; exact hP, by rw [hU]; exact (hFx.kept hS.2.1).warm hW⟩
end CALL0
def am_isc (ci o : Nat) : Bool := match am_nt am_sh o with
  | some (kd, _) => Nat.beq kd (ci + 5)
  | none => false
theorem am_isc_spec {ci o : Nat} (h : am_isc ci o = true) : ∃ (n : Nat) (r : List Nat), am_sh[o]? = some (ci + 5, n, r) := by
  unfold am_isc at h
  split at h
  · rename_i kd z hs
    have e : kd = ci + 5 := Nat.eq_of_beq_eq_true h
    subst e
    exact ⟨z.1, z.2, by rw [← am_nt_eq]; exact hs⟩
  · cases h
/-- a call of an instance's method: the receiver of class ci, n arguments beside it -/
def aIv (E : am_E) (k ci n : Nat) (Y : am_Y) : am_A := fun K _ _ f st I w => match am_pop (n + 1) [] st with
  | some (.ref o :: av, st') => (match am_isc ci o, Nat.ble (am_wt st') 8 with
    | true, true => ∃ (k' : Nat) (Po : am_Q), k' < k ∧ am_Ret E k' Y (.ref o :: av) I w Po ∧ ∀ (r : Option Value) (I' : am_I) (w' : Int64), Po r I' w' → K f (am_ps r st') I' w'
    | _, _ => False)
  | _ => False
theorem v_virt {ci n idx : Nat} {Y : am_Y} {q : vw_C} (hY : am_yV Y n) (hq : classes[ci]? = some q) (hcl : q.1 = Y.1.cls) (hl : Cond.methodLink own idx Y.1 ∈ am_T) (hd : decode cc pc = .ok (.invokevirtual idx, 3)) : am_V E k cc nL own pc 3 (aIv E k ci n Y) := by
  intro p l e R s m args below meth c Q nc ns post C K J f st I w ha hK hJ
  have C0 := C
  obtain ⟨⟨hx, hb, hml, hown, hts⟩, ⟨hKn, hFx, hinj, hle⟩, ⟨hR1, hR2, hR3, hR4⟩, hpost⟩ := C
  subst hle
  simp only [aIv] at ha
  split at ha
  · rename_i o av st' hp
    split at ha
    · rename_i hi hw
      obtain ⟨k', Po, hk', hM, hk⟩ := ha
      obtain ⟨xs, g1, g2, g3⟩ := am_pop_spec _ _ _ _ hp
      simp only [List.append_nil] at g2 g3
      subst g2
      obtain ⟨nn, rr, hs⟩ := am_isc_spec hi
      intro H locs ls hP hS hls
      have hst : st.map (am_rz E.2.1) = (av.map (am_rz E.2.1)).reverse ++ .ref (E.2.1 o) :: st'.map (am_rz E.2.1) := by
        rw [g3]
        simp [am_rz]
      have hlen : (av.map (am_rz E.2.1)).length = n := by
        rw [List.length_map]
        simp at g1
        exact g1
      have he := am_wd_get E I w hs
      have hrecv := va_recv hKn hP hq (fs := am_fv E.2.1 (I o) w 0 rr) he
      rw [hcl] at hrecv
      obtain ⟨hB, hins, hsel⟩ := hY
      have hwt := Nat.ble_eq.mp hw
      refine am_back (va_runV (Ts := am_T) (own := own) (C := Y.1.cls) (b := E.2.1 o) (As := av.map (am_rz E.2.1)) (rest := st'.map (am_rz E.2.1)) ⟨hx, hb, hml, hown, hts⟩ hM
        (cwV n hts (tb_goodIn (fun w hw => ?_)) rfl rfl rfl ⟨rfl, hB.2.2.1⟩ ⟨?_, ?_⟩) ⟨am_Pc_blind _ _ _ _, hrecv, am_pre C0 hP hS (.ref o :: av)⟩ rfl hlen hls.2.1 hst (lv_room ?_) hd ⟨hR3, hR4⟩) hS
        (fun r I' w' H1 locs1 hpo hP1 hS1 => ?_)
      · unfold wsV at hw
        rcases List.mem_append.mp hw with h | h
        · simp only [List.mem_cons, List.not_mem_nil, or_false] at h
          rcases h with e | e | e | e
          · rw [e]; exact hl
          · rw [e]; exact hins
          · rw [e]; exact hsel
          · rw [e]; exact hB.1
        · exact hB.ws w h
      · show k' + 1 ≤ R.frames
        omega
      · have := hB.2.2.2
        show 8 + (Y.2.2.1 + 11) + (100 * k' + 100) ≤ R.locals
        omega
      · rw [am_wt_eq]; exact hwt
      · have := hK _ _ _ _ (hk r I' w' hpo) H1 locs1 ls hP1 hS1 hls
        rw [am_ps_map] at this
        exact this
    · exact ha.elim
  · exact ha.elim
/-- a call of a static method -/
def aIs (E : am_E) (k n : Nat) (Y : am_Y) : am_A := fun K _ _ f st I w => match am_pop n [] st with
  | some (av, st') => (match Nat.ble (am_wt st') 8 with
    | true => ∃ (k' : Nat) (Po : am_Q), k' < k ∧ am_Ret E k' Y av I w Po ∧ ∀ (r : Option Value) (I' : am_I) (w' : Int64), Po r I' w' → K f (am_ps r st') I' w'
    | _ => False)
  | _ => False
theorem v_stat {n idx : Nat} {Y : am_Y} (hY : am_yS Y n) (hl : Cond.methodLink own idx Y.1 ∈ am_T) (hd : decode cc pc = .ok (.invokestatic idx, 3)) : am_V E k cc nL own pc 3 (aIs E k n Y) := by
  intro p l e R s m args below meth c Q nc ns post C K J f st I w ha hK hJ
  have C0 := C
  obtain ⟨⟨hx, hb, hml, hown, hts⟩, ⟨hKn, hFx, hinj, hle⟩, ⟨hR1, hR2, hR3, hR4⟩, hpost⟩ := C
  subst hle
  simp only [aIs] at ha
  split at ha
  · rename_i av st' hp
    split at ha
    · rename_i hw
      obtain ⟨k', Po, hk', hM, hk⟩ := ha
      obtain ⟨xs, g1, g2, g3⟩ := am_pop_spec _ _ _ _ hp
      simp only [List.append_nil] at g2 g3
      subst g2
      intro H locs ls hP hS hls
      have hst : st.map (am_rz E.2.1) = (av.map (am_rz E.2.1)).reverse ++ st'.map (am_rz E.2.1) := by
        rw [g3]
        simp
      have hlen : (av.map (am_rz E.2.1)).length = n := by rw [List.length_map]; exact g1
      obtain ⟨hB, hsta⟩ := hY
      have hwt := Nat.ble_eq.mp hw
      refine am_back (va_runS (Ts := am_T) (own := own) (As := av.map (am_rz E.2.1)) (rest := st'.map (am_rz E.2.1)) ⟨hx, hb, hml, hown, hts⟩ hM
        (va_cwS n hts (tb_goodIn (fun w hw => ?_)) rfl rfl rfl hB.2.2.1 ⟨?_, ?_⟩) ⟨am_Pc_blind _ _ _ _, am_pre C0 hP hS av⟩ rfl hlen hls.2.1 hst (lv_room ?_) hd ⟨hR3, hR4⟩) hS
        (fun r I' w' H1 locs1 hpo hP1 hS1 => ?_)
      · unfold va_wsS at hw
        rcases List.mem_append.mp hw with h | h
        · simp only [List.mem_cons, List.not_mem_nil, or_false] at h
          rcases h with e | e | e
          · rw [e]; exact hl
          · rw [e]; exact hsta
          · rw [e]; exact hB.1
        · exact hB.ws w h
      · show k' + 1 ≤ R.frames
        omega
      · have := hB.2.2.2
        show 8 + (Y.2.2.1 + 11) + (100 * k' + 100) ≤ R.locals
        omega
      · rw [am_wt_eq]; exact hwt
      · have := hK _ _ _ _ (hk r I' w' hpo) H1 locs1 ls hP1 hS1 hls
        rw [am_ps_map] at this
        exact this
    · exact ha.elim
  · exact ha.elim
/-- .. of a nest mate, private -/
theorem v_statN {n idx : Nat} {host : String} {Y : am_Y} (hY : am_yS Y n) (hl : (own, idx, Y.1, host) ∈ am_nest) (hd : decode cc pc = .ok (.invokestatic idx, 3)) : am_V E k cc nL own pc 3 (aIs E k n Y) := by
  intro p l e R s m args below meth c Q nc ns post C K J f st I w ha hK hJ
  have C0 := C
  obtain ⟨⟨hx, hb, hml, hown, hts⟩, ⟨hKn, hFx, hinj, hle⟩, ⟨hR1, hR2, hR3, hR4⟩, hpost⟩ := C
  subst hle
  simp only [aIs] at ha
  split at ha
  · rename_i av st' hp
    split at ha
    · rename_i hw
      obtain ⟨k', Po, hk', hM, hk⟩ := ha
      obtain ⟨xs, g1, g2, g3⟩ := am_pop_spec _ _ _ _ hp
      simp only [List.append_nil] at g2 g3
      subst g2
      intro H locs ls hP hS hls
      have hst : st.map (am_rz E.2.1) = (av.map (am_rz E.2.1)).reverse ++ st'.map (am_rz E.2.1) := by
        rw [g3]
        simp
      have hlen : (av.map (am_rz E.2.1)).length = n := by rw [List.length_map]; exact g1
      obtain ⟨hB, hsta⟩ := hY
      have hwt := Nat.ble_eq.mp hw
      have hnest := hFx.2.2.2.2.2 _ hl
      refine am_back (va_runSN (Ts := am_T) (own := own) (host := host) (As := av.map (am_rz E.2.1)) (rest := st'.map (am_rz E.2.1)) ⟨hx, hb, hml, hown, hts⟩ hM
        ⟨va_cnB n hts (tb_goodIn hB.ws) rfl rfl rfl hnest (hts _ hB.1) hB.2.2.1 ⟨?_, ?_⟩, hts _ hsta, trivial⟩ ⟨am_Pc_blind _ _ _ _, am_pre C0 hP hS av⟩ rfl hlen hls.2.1 hst (lv_room ?_) hd ⟨hR3, hR4⟩) hS
        (fun r I' w' H1 locs1 hpo hP1 hS1 => ?_)
      · show k' + 1 ≤ R.frames
        omega
      · have := hB.2.2.2
        show 8 + (Y.2.2.1 + 11) + (100 * k' + 100) ≤ R.locals
        omega
      · rw [am_wt_eq]; exact hwt
      · have := hK _ _ _ _ (hk r I' w' hpo) H1 locs1 ls hP1 hS1 hls
        rw [am_ps_map] at this
        exact this
    · exact ha.elim
  · exact ha.elim
/-! natives and Math -/
def am_cpI (I : am_I) (a b sp dp n : Nat) : am_I := fun q j => if q = b then va_cpy (I a) (I b) sp dp n j else I q j
theorem am_cpI_ne {I : am_I} {a b sp dp n q : Nat} (h : q ≠ b) : am_cpI I a b sp dp n q = I q := by
  funext j
  simp [am_cpI, h]
theorem am_cpI_self {I : am_I} {a b sp dp n : Nat} : am_cpI I a b sp dp n b = va_cpy (I a) (I b) sp dp n := by
  funext j
  simp [am_cpI]
def aCpy (k : Nat) : am_A := fun K _ _ f st I w => match st with
  | .int n :: .int dp :: .ref b :: .int sp :: .ref a :: r => (match am_arr 0 a, am_arr 0 b, Nat.ble (am_wt r) 8 with
    | some na, some nb, true => 0 < k ∧ ¬ sp < 0 ∧ ¬ dp < 0 ∧ ¬ n < 0 ∧ sp.toNatClampNeg + n.toNatClampNeg ≤ na ∧ dp.toNatClampNeg + n.toNatClampNeg ≤ nb ∧ K f r (am_cpI I a b sp.toNatClampNeg dp.toNatClampNeg n.toNatClampNeg) w
    | _, _, _ => False)
  | _ => False
theorem v_cpy {idx : Nat} (hl : Cond.methodLink own idx arraycopyName ∈ am_T) (hn : Cond.native arraycopyName ∈ am_T) (hst : Cond.static arraycopyName ∈ am_T) (hi : Cond.initialized "java/lang/System" ∈ am_T) (hd : decode cc pc = .ok (.invokestatic idx, 3)) : am_V E k cc nL own pc 3 (aCpy k) := by
  intro p l e R s m args below meth c Q nc ns post C K J f st I w ha hK hJ
  obtain ⟨⟨hx, hb, hml, hown, hts⟩, ⟨hKn, hFx, hinj, hle⟩, ⟨hR1, hR2, hR3, hR4⟩, hpost⟩ := C
  simp only [aCpy] at ha
  split at ha
  · rename_i n dp b sp a r
    split at ha
    · rename_i na nb hca hcb hw
      obtain ⟨h0, h1, h2, h3, h4, h5, h6⟩ := ha
      obtain ⟨ra, hsa⟩ := am_arr_spec hca
      obtain ⟨rb, hsb⟩ := am_arr_spec hcb
      have hwt := Nat.ble_eq.mp hw
      intro H locs ls hP hS hls
      have hnat : nativeFrameWords "java/lang/System" "arraycopy" 5 = 7 := by decide
      refine va_copyi hx hb (by rw [hml]; exact hls.2.1.symm) hown (hts _ hl) (hts _ hn) (hts _ hst) (hts _ hi) hKn hP (am_wd_D hinj I w) hS a b 0 0 (am_wd_get E I w hsa) (am_wd_get E I w hsb) rfl rfl rfl h1 h2 h3 h4 h5 (fun i _ => rfl) (by omega) (by rw [hnat, am_wt_eq]; omega) hd (fun H1 locs1 hP1 _ hS1 => ?_)
      have e1 : (Sum.inl (E.2.2.2 0, nb, .inl (va_cpy (I a) (I b) sp.toNatClampNeg dp.toNatClampNeg n.toNatClampNeg)) : va_E) = am_ce E (am_cpI I a b sp.toNatClampNeg dp.toNatClampNeg n.toNatClampNeg b) w (0, nb, rb) := by rw [am_cpI_self]; rfl
      have e2 := am_wd_set (E := E) (I := I) (I' := am_cpI I a b sp.toNatClampNeg dp.toNatClampNeg n.toNatClampNeg) (w := w) (w' := w) hsb (fun i s' hi _ => by rw [am_cpI_ne hi])
      rw [e1, e2] at hP1
      exact hK _ _ _ _ h6 H1 locs1 ls hP1 hS1 hls
    · exact ha.elim
  · exact ha.elim
def aMx (k : Nat) : am_A := fun K _ _ f st I w => match st with
  | .int y :: .int x :: r => (match Nat.ble (am_wt r) 8 with
    | true => 0 < k ∧ K f (.int (if x < y then y else x) :: r) I w
    | _ => False)
  | _ => False
theorem v_max {idx : Nat} (hl : Cond.methodLink own idx Lib.Math.max.name ∈ am_T) (hst : Cond.static Lib.Math.max.name ∈ am_T) (hi : Cond.initialized "java/lang/Math" ∈ am_T) (hc : Cond.code Lib.Math.max.name Lib.Math.max.code 2 (some .int) ∈ am_T) (hd : decode cc pc = .ok (.invokestatic idx, 3)) : am_V E k cc nL own pc 3 (aMx k) := by
  intro p l e R s m args below meth c Q nc ns post C K J f st I w ha hK hJ
  obtain ⟨⟨hx, hb, hml, hown, hts⟩, ⟨hKn, hFx, hinj, hle⟩, ⟨hR1, hR2, hR3, hR4⟩, hpost⟩ := C
  simp only [aMx] at ha
  split at ha
  · rename_i y x r
    split at ha
    · rename_i hw
      have hwt := Nat.ble_eq.mp hw
      intro H locs ls hP hS hls
      exact va_mmax hx hb (by rw [hml]; exact hls.2.1.symm) hown (hts _ hl) (hts _ hst) (hts _ hi) (hts _ hc) (by omega) (by rw [am_wt_eq]; omega) hR3 hR4 hd (hK _ _ _ _ ha.2 H locs ls hP hS hls)
    · exact ha.elim
  · exact ha.elim
def aMn (k : Nat) : am_A := fun K _ _ f st I w => match st with
  | .int y :: .int x :: r => (match Nat.ble (am_wt r) 8 with
    | true => 0 < k ∧ K f (.int (if y < x then y else x) :: r) I w
    | _ => False)
  | _ => False
theorem v_min {idx : Nat} (hl : Cond.methodLink own idx Lib.Math.min.name ∈ am_T) (hst : Cond.static Lib.Math.min.name ∈ am_T) (hi : Cond.initialized "java/lang/Math" ∈ am_T) (hc : Cond.code Lib.Math.min.name Lib.Math.min.code 2 (some .int) ∈ am_T) (hd : decode cc pc = .ok (.invokestatic idx, 3)) : am_V E k cc nL own pc 3 (aMn k) := by
  intro p l e R s m args below meth c Q nc ns post C K J f st I w ha hK hJ
  obtain ⟨⟨hx, hb, hml, hown, hts⟩, ⟨hKn, hFx, hinj, hle⟩, ⟨hR1, hR2, hR3, hR4⟩, hpost⟩ := C
  simp only [aMn] at ha
  split at ha
  · rename_i y x r
    split at ha
    · rename_i hw
      have hwt := Nat.ble_eq.mp hw
      intro H locs ls hP hS hls
      exact va_mmin hx hb (by rw [hml]; exact hls.2.1.symm) hown (hts _ hl) (hts _ hst) (hts _ hi) (hts _ hc) (by omega) (by rw [am_wt_eq]; omega) hR3 hR4 hd (hK _ _ _ _ ha.2 H locs ls hP hS hls)
    · exact ha.elim
  · exact ha.elim
end CALLS
end
section
/-! String constants: names 130 .. 140, their bytes 150 .. 160 -/
section STRINGS
variable {E : am_E} {k : Nat} {cc : ByteArray} {nL : Nat} {own : String} {pc : Nat}
theorem v_ldcS {i : Nat} (hi : i < 11) (hd : decode cc pc = .ok (.ldc (am_tx.getD i (0, "")).1, 2)) : am_V E k cc nL "TwoCamps$TextReader" pc 2 (aGs (130 + i)) := by
  intro p l e R s m args below meth c Q nc ns post C K J f st I w ha hK hJ
  obtain ⟨⟨hx, hb, hml, hown, hts⟩, ⟨hKn, hFx, hinj, hl⟩, ⟨hR1, hR2, hR3, hR4⟩, hpost⟩ := C
  exact fun H locs ls hP hS hls => va_ldcS hx hb hown (hFx.2.2.2.2.1 i hi) hd (hK _ _ _ _ ha H locs ls hP hS hls)
/-- an act that never comes -/
def aNo : am_A := fun _ _ _ _ _ _ _ => False
theorem v_no {len : Nat} : am_V E k cc nL own pc len aNo := by
  intro p l e R s m args below meth c Q nc ns post C K J f st I w ha hK hJ
  exact ha.elim
def aSval : am_A := fun K _ _ f st I w => match st with
  | .ref o :: r => ∃ i, i < 11 ∧ o = 130 + i ∧ K f (.ref (150 + i) :: r) I w
  | _ => False
theorem v_sval {idx : Nat} (hw : Cond.fieldLink own idx "java/lang/String" "value" "[B" ∈ am_T) (hd : decode cc pc = .ok (.getfield idx, 3)) : am_V E k cc nL own pc 3 aSval := by
  intro p l e R s m args below meth c Q nc ns post C K J f st I w ha hK hJ
  obtain ⟨⟨hx, hb, hml, hown, hts⟩, ⟨hKn, hFx, hinj, hl⟩, ⟨hR1, hR2, hR3, hR4⟩, hpost⟩ := C
  simp only [aSval] at ha
  split at ha
  · rename_i o r
    obtain ⟨i, hi, rfl, hk⟩ := ha
    exact fun H locs ls hP hS hls => vk_getf hx hb (hFx.2.2.2.1.1 i hi).2.2.1 hS hown (hts _ hw) (fun _ h => h) hd (hK _ _ _ _ hk H locs ls hP hS hls)
  · exact ha.elim
def aScod : am_A := fun K _ _ f st I w => match st with
  | .ref o :: r => ∃ i, i < 11 ∧ o = 130 + i ∧ K f (.int 0 :: r) I w
  | _ => False
theorem v_scod {idx : Nat} (hw : Cond.fieldLink own idx "java/lang/String" "coder" "B" ∈ am_T) (hd : decode cc pc = .ok (.getfield idx, 3)) : am_V E k cc nL own pc 3 aScod := by
  intro p l e R s m args below meth c Q nc ns post C K J f st I w ha hK hJ
  obtain ⟨⟨hx, hb, hml, hown, hts⟩, ⟨hKn, hFx, hinj, hl⟩, ⟨hR1, hR2, hR3, hR4⟩, hpost⟩ := C
  simp only [aScod] at ha
  split at ha
  · rename_i o r
    obtain ⟨i, hi, rfl, hk⟩ := ha
    exact fun H locs ls hP hS hls => vk_getf hx hb (hFx.2.2.2.1.1 i hi).2.1 hS hown (hts _ hw) (fun _ h => h) hd (hK _ _ _ _ hk H locs ls hP hS hls)
  · exact ha.elim
def aSlen : am_A := fun K _ _ f st I w => match st with
  | .ref o :: r => ∃ i, i < 11 ∧ o = 150 + i ∧ K f (.int (nI (am_tl.getD i 0)) :: r) I w
  | _ => False
theorem v_slen (hd : decode cc pc = .ok (.arraylength, 1)) : am_V E k cc nL own pc 1 aSlen := by
  intro p l e R s m args below meth c Q nc ns post C K J f st I w ha hK hJ
  obtain ⟨⟨hx, hb, hml, hown, hts⟩, ⟨hKn, hFx, hinj, hl⟩, ⟨hR1, hR2, hR3, hR4⟩, hpost⟩ := C
  simp only [aSlen] at ha
  split at ha
  · rename_i o r
    obtain ⟨i, hi, rfl, hk⟩ := ha
    exact fun H locs ls hP hS hls => va_tlen hx hb (hFx.2.2.2.1.1 i hi).2.2.2 hS (v := nI (am_tl.getD i 0)) rfl hd (hK _ _ _ _ hk H locs ls hP hS hls)
  · exact ha.elim
def aSbald : am_A := fun K _ _ f st I w => match st with
  | .int j :: .ref o :: r => ∃ i, i < 11 ∧ o = 150 + i ∧ vp_in j (am_tl.getD i 0) ∧ K f (.int ((am_tb.getD i []).getD j.toNatClampNeg 0) :: r) I w
  | _ => False
theorem v_sbald (hd : decode cc pc = .ok (.baload, 1)) : am_V E k cc nL own pc 1 aSbald := by
  intro p l e R s m args below meth c Q nc ns post C K J f st I w ha hK hJ
  obtain ⟨⟨hx, hb, hml, hown, hts⟩, ⟨hKn, hFx, hinj, hl⟩, ⟨hR1, hR2, hR3, hR4⟩, hpost⟩ := C
  simp only [aSbald] at ha
  split at ha
  · rename_i j o r
    obtain ⟨i, hi, rfl, hj, hk⟩ := ha
    exact fun H locs ls hP hS hls => va_tb hx hb (hFx.2.2.2.1.1 i hi).2.2.2 hS hj rfl hd (hK _ _ _ _ hk H locs ls hP hS hls)
  · exact ha.elim
theorem v_scs {idx : Nat} (hw : Cond.fieldLink own idx "java/lang/String" "COMPACT_STRINGS" "Z" ∈ am_T) (hd : decode cc pc = .ok (.getstatic idx, 3)) : am_V E k cc nL own pc 3 (aI 1) := by
  intro p l e R s m args below meth c Q nc ns post C K J f st I w ha hK hJ
  obtain ⟨⟨hx, hb, hml, hown, hts⟩, ⟨hKn, hFx, hinj, hl⟩, ⟨hR1, hR2, hR3, hR4⟩, hpost⟩ := C
  exact fun H locs ls hP hS hls => va_gets hx hb hFx.2.2.1.1 hS hown (hts _ hw) (fun _ h => h) hd (hK _ _ _ _ ha H locs ls hP hS hls)
def aFmt : am_A := fun K _ _ f st I w => K f (.null :: st) I w ∧ K f (.ref 171 :: st) I w
theorem v_fmt {idx : Nat} (hw : Cond.fieldLink own idx "jdk/internal/util/Preconditions" "SIOOBE_FORMATTER" "Ljava/util/function/BiFunction;" ∈ am_T) (hd : decode cc pc = .ok (.getstatic idx, 3)) : am_V E k cc nL own pc 3 aFmt := by
  intro p l e R s m args below meth c Q nc ns post C K J f st I w ha hK hJ
  obtain ⟨⟨hx, hb, hml, hown, hts⟩, ⟨hKn, hFx, hinj, hl⟩, ⟨hR1, hR2, hR3, hR4⟩, hpost⟩ := C
  intro H locs ls hP hS hls
  rcases hFx.2.2.1.2 with h | h
  · exact va_gets hx hb h hS hown (hts _ hw) (fun _ h => h) hd (hK _ _ _ _ ha.1 H locs ls hP hS hls)
  · exact va_gets hx hb h hS hown (hts _ hw) (fun _ h => h) hd (hK _ _ _ _ ha.2 H locs ls hP hS hls)
/-- a call of a String's method -/
def aIvs (E : am_E) (k n : Nat) (Y : am_Y) : am_A := fun K _ _ f st I w => match am_pop (n + 1) [] st with
  | some (.ref o :: av, st') => (match Nat.ble (am_wt st') 8 with
    | true => ∃ i, i < 11 ∧ o = 130 + i ∧ ∃ (k' : Nat) (Po : am_Q), k' < k ∧ am_Ret E k' Y (.ref o :: av) I w Po ∧ ∀ (r : Option Value) (I' : am_I) (w' : Int64), Po r I' w' → K f (am_ps r st') I' w'
    | _ => False)
  | _ => False
theorem v_virtS {n idx : Nat} {Y : am_Y} (hY : am_yV Y n) (hcl : Y.1.cls = "java/lang/String") (hl : Cond.methodLink own idx Y.1 ∈ am_T) (hd : decode cc pc = .ok (.invokevirtual idx, 3)) : am_V E k cc nL own pc 3 (aIvs E k n Y) := by
  intro p l e R s m args below meth c Q nc ns post C K J f st I w ha hK hJ
  have C0 := C
  obtain ⟨⟨hx, hb, hml, hown, hts⟩, ⟨hKn, hFx, hinj, hle⟩, ⟨hR1, hR2, hR3, hR4⟩, hpost⟩ := C
  subst hle
  simp only [aIvs] at ha
  split at ha
  · rename_i o av st' hp
    split at ha
    · rename_i hw
      obtain ⟨i, hi, rfl, k', Po, hk', hM, hk⟩ := ha
      obtain ⟨xs, g1, g2, g3⟩ := am_pop_spec _ _ _ _ hp
      simp only [List.append_nil] at g2 g3
      subst g2
      intro H locs ls hP hS hls
      have hst : st.map (am_rz E.2.1) = (av.map (am_rz E.2.1)).reverse ++ .ref (E.2.1 (130 + i)) :: st'.map (am_rz E.2.1) := by
        rw [g3]
        simp [am_rz]
      have hlen : (av.map (am_rz E.2.1)).length = n := by
        rw [List.length_map]
        simp at g1
        exact g1
      have hrecv := vk_recv hFx.2.2.2.1 hi hS
      rw [← hcl] at hrecv
      obtain ⟨hB, hins, hsel⟩ := hY
      have hwt := Nat.ble_eq.mp hw
      refine am_back (va_runV (Ts := am_T) (own := own) (C := Y.1.cls) (b := E.2.1 (130 + i)) (As := av.map (am_rz E.2.1)) (rest := st'.map (am_rz E.2.1)) ⟨hx, hb, hml, hown, hts⟩ hM
        (cwV n hts (tb_goodIn (fun w hw => ?_)) rfl rfl rfl ⟨rfl, hB.2.2.1⟩ ⟨?_, ?_⟩) ⟨am_Pc_blind _ _ _ _, hrecv, am_pre C0 hP hS (.ref (130 + i) :: av)⟩ rfl hlen hls.2.1 hst (lv_room ?_) hd ⟨hR3, hR4⟩) hS
        (fun r I' w' H1 locs1 hpo hP1 hS1 => ?_)
      · unfold wsV at hw
        rcases List.mem_append.mp hw with h | h
        · simp only [List.mem_cons, List.not_mem_nil, or_false] at h
          rcases h with e | e | e | e
          · rw [e]; exact hl
          · rw [e]; exact hins
          · rw [e]; exact hsel
          · rw [e]; exact hB.1
        · exact hB.ws w h
      · show k' + 1 ≤ R.frames
        omega
      · have := hB.2.2.2
        show 8 + (Y.2.2.1 + 11) + (100 * k' + 100) ≤ R.locals
        omega
      · rw [am_wt_eq]; exact hwt
      · have := hK _ _ _ _ (hk r I' w' hpo) H1 locs1 ls hP1 hS1 hls
        rw [am_ps_map] at this
        exact this
    · exact ha.elim
  · exact ha.elim
end STRINGS
end
