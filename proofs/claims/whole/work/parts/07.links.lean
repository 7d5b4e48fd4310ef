def Y_TC_init : am_Y := (⟨"TwoCamps", "<init>", "()V"⟩, prog_1_method_1_code, 2, none)
def Y_People_init : am_Y := (⟨"TwoCamps$People", "<init>", "()V"⟩, prog_7_method_1_code, 1, none)
def Y_Feelings_init : am_Y := (⟨"TwoCamps$Feelings", "<init>", "()V"⟩, prog_4_method_1_code, 1, none)
def Y_Arr_fill : am_Y := (⟨"java/util/Arrays", "fill", "([II)V"⟩, prog_21_method_103_code, 4, none)
theorem ys_Arr_fill : am_yS Y_Arr_fill 2 := ⟨⟨(tb1 4 (by decide +kernel) rfl), (tb1 63 (by decide +kernel) rfl), ⟨by decide +kernel, by decide +kernel, by decide +kernel⟩, by decide +kernel⟩, (tb1 62 (by decide +kernel) rfl)⟩
def Y_Tape_init : am_Y := (⟨"TwoCamps$Tape", "<init>", "()V"⟩, prog_10_method_1_code, 1, none)
def Y_Law_init : am_Y := (⟨"TwoCamps$Law", "<init>", "(LTwoCamps$Feelings;)V"⟩, prog_5_method_1_code, 3, none)
def Y_Text_init : am_Y := (⟨"TwoCamps$Text", "<init>", "()V"⟩, prog_11_method_1_code, 1, none)
def Y_Text_add : am_Y := (⟨"TwoCamps$Text", "add", "(I)V"⟩, prog_11_method_4_code, 2, none)
theorem yv_Text_add : am_yV Y_Text_add 1 := ⟨⟨(tb1 7 (by decide +kernel) rfl), (tb1 153 (by decide +kernel) rfl), ⟨by decide +kernel, by decide +kernel, by decide +kernel⟩, by decide +kernel⟩, (tb1 151 (by decide +kernel) rfl), (tb1 152 (by decide +kernel) rfl)⟩
def Y_Text_endCost : am_Y := (⟨"TwoCamps$Text", "endCost", "()V"⟩, prog_11_method_5_code, 1, none)
theorem yv_Text_endCost : am_yV Y_Text_endCost 0 := ⟨⟨(tb1 7 (by decide +kernel) rfl), (tb1 157 (by decide +kernel) rfl), ⟨by decide +kernel, by decide +kernel, by decide +kernel⟩, by decide +kernel⟩, (tb1 155 (by decide +kernel) rfl), (tb1 156 (by decide +kernel) rfl)⟩
def Y_TextReader_init : am_Y := (⟨"TwoCamps$TextReader", "<init>", "(LTwoCamps$Tape;)V"⟩, prog_12_method_1_code, 2, none)
def Y_StreetReader_init : am_Y := (⟨"TwoCamps$StreetReader", "<init>", "(LTwoCamps$Tape;LTwoCamps$People;LTwoCamps$Feelings;)V"⟩, prog_9_method_1_code, 4, none)
def Y_Camping_init : am_Y := (⟨"TwoCamps$Camping", "<init>", "(LTwoCamps$People;LTwoCamps$Feelings;LTwoCamps$Law;)V"⟩, prog_3_method_1_code, 4, none)
def Y_Net_init : am_Y := (⟨"TwoCamps$Net", "<init>", "(LTwoCamps$People;LTwoCamps$Feelings;)V"⟩, prog_6_method_1_code, 3, none)
def Y_Best_init : am_Y := (⟨"TwoCamps$Best", "<init>", "(LTwoCamps$People;LTwoCamps$Feelings;LTwoCamps$Law;)V"⟩, prog_2_method_1_code, 4, none)
def Y_Sheet_init : am_Y := (⟨"TwoCamps$Sheet", "<init>", "()V"⟩, prog_8_method_1_code, 1, none)
def Y_TC_person : am_Y := (⟨"TwoCamps", "person", "(I)I"⟩, prog_1_method_2_code, 2, some .int)
theorem yv_TC_person : am_yV Y_TC_person 1 := ⟨⟨(tb1 1 (by decide +kernel) rfl), (tb2 184 (by decide +kernel) rfl), ⟨by decide +kernel, by decide +kernel, by decide +kernel⟩, by decide +kernel⟩, (tb2 182 (by decide +kernel) rfl), (tb2 183 (by decide +kernel) rfl)⟩
def Y_TC_isPrice : am_Y := (⟨"TwoCamps", "isPrice", "(I)Z"⟩, prog_1_method_7_code, 1, some .boolean)
theorem ys_TC_isPrice : am_yS Y_TC_isPrice 1 := ⟨⟨(tb1 1 (by decide +kernel) rfl), (tb2 187 (by decide +kernel) rfl), ⟨by decide +kernel, by decide +kernel, by decide +kernel⟩, by decide +kernel⟩, (tb2 186 (by decide +kernel) rfl)⟩
def Y_People_add : am_Y := (⟨"TwoCamps$People", "add", "(I)I"⟩, prog_7_method_4_code, 2, some .int)
theorem yv_People_add : am_yV Y_People_add 1 := ⟨⟨(tb1 2 (by decide +kernel) rfl), (tb2 191 (by decide +kernel) rfl), ⟨by decide +kernel, by decide +kernel, by decide +kernel⟩, by decide +kernel⟩, (tb2 189 (by decide +kernel) rfl), (tb2 190 (by decide +kernel) rfl)⟩
def Y_TC_set : am_Y := (⟨"TwoCamps", "set", "(III)I"⟩, prog_1_method_3_code, 5, some .int)
theorem yv_TC_set : am_yV Y_TC_set 3 := ⟨⟨(tb1 1 (by decide +kernel) rfl), (tb2 195 (by decide +kernel) rfl), ⟨by decide +kernel, by decide +kernel, by decide +kernel⟩, by decide +kernel⟩, (tb2 193 (by decide +kernel) rfl), (tb2 194 (by decide +kernel) rfl)⟩
def Y_People_has : am_Y := (⟨"TwoCamps$People", "has", "(I)Z"⟩, prog_7_method_2_code, 2, some .boolean)
theorem yv_People_has : am_yV Y_People_has 1 := ⟨⟨(tb1 2 (by decide +kernel) rfl), (tb2 199 (by decide +kernel) rfl), ⟨by decide +kernel, by decide +kernel, by decide +kernel⟩, by decide +kernel⟩, (tb2 197 (by decide +kernel) rfl), (tb2 198 (by decide +kernel) rfl)⟩
def Y_TC_feel : am_Y := (⟨"TwoCamps", "feel", "(IIIII)I"⟩, prog_1_method_4_code, 6, some .int)
theorem yv_TC_feel : am_yV Y_TC_feel 5 := ⟨⟨(tb1 1 (by decide +kernel) rfl), (tb2 203 (by decide +kernel) rfl), ⟨by decide +kernel, by decide +kernel, by decide +kernel⟩, by decide +kernel⟩, (tb2 201 (by decide +kernel) rfl), (tb2 202 (by decide +kernel) rfl)⟩
def Y_People_hasTwo : am_Y := (⟨"TwoCamps$People", "hasTwo", "(II)Z"⟩, prog_7_method_3_code, 3, some .boolean)
theorem yv_People_hasTwo : am_yV Y_People_hasTwo 2 := ⟨⟨(tb1 2 (by decide +kernel) rfl), (tb2 207 (by decide +kernel) rfl), ⟨by decide +kernel, by decide +kernel, by decide +kernel⟩, by decide +kernel⟩, (tb2 205 (by decide +kernel) rfl), (tb2 206 (by decide +kernel) rfl)⟩
def Y_Feelings_tell : am_Y := (⟨"TwoCamps$Feelings", "tell", "(IIIII)I"⟩, prog_4_method_4_code, 7, some .int)
theorem yv_Feelings_tell : am_yV Y_Feelings_tell 5 := ⟨⟨(tb1 3 (by decide +kernel) rfl), (tb2 212 (by decide +kernel) rfl), ⟨by decide +kernel, by decide +kernel, by decide +kernel⟩, by decide +kernel⟩, (tb2 210 (by decide +kernel) rfl), (tb2 211 (by decide +kernel) rfl)⟩
def Y_Feelings_find : am_Y := (⟨"TwoCamps$Feelings", "find", "(II)I"⟩, prog_4_method_3_code, 3, some .int)
theorem yv_Feelings_find : am_yV Y_Feelings_find 2 := ⟨⟨(tb1 3 (by decide +kernel) rfl), (tb2 216 (by decide +kernel) rfl), ⟨by decide +kernel, by decide +kernel, by decide +kernel⟩, by decide +kernel⟩, (tb2 214 (by decide +kernel) rfl), (tb2 215 (by decide +kernel) rfl)⟩
def Y_TC_felt : am_Y := (⟨"TwoCamps", "felt", "(II)I"⟩, prog_1_method_5_code, 3, some .int)
theorem yv_TC_felt : am_yV Y_TC_felt 2 := ⟨⟨(tb1 1 (by decide +kernel) rfl), (tb2 226 (by decide +kernel) rfl), ⟨by decide +kernel, by decide +kernel, by decide +kernel⟩, by decide +kernel⟩, (tb2 224 (by decide +kernel) rfl), (tb2 225 (by decide +kernel) rfl)⟩
def Y_Feelings_has : am_Y := (⟨"TwoCamps$Feelings", "has", "(I)Z"⟩, prog_4_method_2_code, 2, some .boolean)
theorem yv_Feelings_has : am_yV Y_Feelings_has 1 := ⟨⟨(tb1 3 (by decide +kernel) rfl), (tb2 230 (by decide +kernel) rfl), ⟨by decide +kernel, by decide +kernel, by decide +kernel⟩, by decide +kernel⟩, (tb2 228 (by decide +kernel) rfl), (tb2 229 (by decide +kernel) rfl)⟩
def Y_Law_costOf : am_Y := (⟨"TwoCamps$Law", "costOf", "(I)I"⟩, prog_5_method_4_code, 4, some .int)
theorem yv_Law_costOf : am_yV Y_Law_costOf 1 := ⟨⟨(tb1 6 (by decide +kernel) rfl), (tb2 234 (by decide +kernel) rfl), ⟨by decide +kernel, by decide +kernel, by decide +kernel⟩, by decide +kernel⟩, (tb2 232 (by decide +kernel) rfl), (tb2 233 (by decide +kernel) rfl)⟩
def Y_Law_run : am_Y := (⟨"TwoCamps$Law", "run", "([IIII)I"⟩, prog_5_method_6_code, 6, some .int)
theorem yv_Law_run : am_yV Y_Law_run 4 := ⟨⟨(tb1 6 (by decide +kernel) rfl), (tb2 238 (by decide +kernel) rfl), ⟨by decide +kernel, by decide +kernel, by decide +kernel⟩, by decide +kernel⟩, (tb2 237 (by decide +kernel) rfl), (tb_sel (y := ⟨"TwoCamps$Law", "run", "([IIII)I"⟩) (n := 8) 0 (by decide +kernel))⟩
def Y_Law_runOne : am_Y := (⟨"TwoCamps$Law", "runOne", "(II)V"⟩, prog_5_method_7_code, 4, none)
theorem yv_Law_runOne : am_yV Y_Law_runOne 2 := ⟨⟨(tb1 6 (by decide +kernel) rfl), (tb3 2 (by decide +kernel) rfl), ⟨by decide +kernel, by decide +kernel, by decide +kernel⟩, by decide +kernel⟩, (tb3 1 (by decide +kernel) rfl), (tb_sel (y := ⟨"TwoCamps$Law", "runOne", "(II)V"⟩) (n := 8) 1 (by decide +kernel))⟩
def Y_Law_push : am_Y := (⟨"TwoCamps$Law", "push", "(I)V"⟩, prog_5_method_10_code, 2, none)
theorem yv_Law_push : am_yV Y_Law_push 1 := ⟨⟨(tb1 6 (by decide +kernel) rfl), (tb3 6 (by decide +kernel) rfl), ⟨by decide +kernel, by decide +kernel, by decide +kernel⟩, by decide +kernel⟩, (tb3 5 (by decide +kernel) rfl), (tb_sel (y := ⟨"TwoCamps$Law", "push", "(I)V"⟩) (n := 8) 2 (by decide +kernel))⟩
def Y_Text_isName : am_Y := (⟨"TwoCamps$Text", "isName", "(I)Z"⟩, prog_11_method_6_code, 1, some .boolean)
theorem ys_Text_isName : am_yS Y_Text_isName 1 := ⟨⟨(tb1 7 (by decide +kernel) rfl), (tb3 9 (by decide +kernel) rfl), ⟨by decide +kernel, by decide +kernel, by decide +kernel⟩, by decide +kernel⟩, (tb3 8 (by decide +kernel) rfl)⟩
def Y_Law_named : am_Y := (⟨"TwoCamps$Law", "named", "(II)I"⟩, prog_5_method_8_code, 3, some .int)
theorem yv_Law_named : am_yV Y_Law_named 2 := ⟨⟨(tb1 6 (by decide +kernel) rfl), (tb3 13 (by decide +kernel) rfl), ⟨by decide +kernel, by decide +kernel, by decide +kernel⟩, by decide +kernel⟩, (tb3 12 (by decide +kernel) rfl), (tb_sel (y := ⟨"TwoCamps$Law", "named", "(II)I"⟩) (n := 8) 3 (by decide +kernel))⟩
def Y_Law_pop : am_Y := (⟨"TwoCamps$Law", "pop", "()I"⟩, prog_5_method_11_code, 1, some .int)
theorem yv_Law_pop : am_yV Y_Law_pop 0 := ⟨⟨(tb1 6 (by decide +kernel) rfl), (tb3 17 (by decide +kernel) rfl), ⟨by decide +kernel, by decide +kernel, by decide +kernel⟩, by decide +kernel⟩, (tb3 16 (by decide +kernel) rfl), (tb_sel (y := ⟨"TwoCamps$Law", "pop", "()I"⟩) (n := 8) 4 (by decide +kernel))⟩
def Y_Law_joined : am_Y := (⟨"TwoCamps$Law", "joined", "(III)I"⟩, prog_5_method_9_code, 3, some .int)
theorem ys_Law_joined : am_yS Y_Law_joined 3 := ⟨⟨(tb1 6 (by decide +kernel) rfl), (tb3 20 (by decide +kernel) rfl), ⟨by decide +kernel, by decide +kernel, by decide +kernel⟩, by decide +kernel⟩, (tb3 19 (by decide +kernel) rfl)⟩
def Y_Law_canBeWrong : am_Y := (⟨"TwoCamps$Law", "canBeWrong", "(I)Z"⟩, prog_5_method_5_code, 3, some .boolean)
theorem yv_Law_canBeWrong : am_yV Y_Law_canBeWrong 1 := ⟨⟨(tb1 6 (by decide +kernel) rfl), (tb3 26 (by decide +kernel) rfl), ⟨by decide +kernel, by decide +kernel, by decide +kernel⟩, by decide +kernel⟩, (tb3 24 (by decide +kernel) rfl), (tb3 25 (by decide +kernel) rfl)⟩
def Y_Feelings_badThreesWith : am_Y := (⟨"TwoCamps$Feelings", "badThreesWith", "(I)I"⟩, prog_4_method_9_code, 6, some .int)
theorem yv_Feelings_badThreesWith : am_yV Y_Feelings_badThreesWith 1 := ⟨⟨(tb1 3 (by decide +kernel) rfl), (tb3 30 (by decide +kernel) rfl), ⟨by decide +kernel, by decide +kernel, by decide +kernel⟩, by decide +kernel⟩, (tb3 28 (by decide +kernel) rfl), (tb3 29 (by decide +kernel) rfl)⟩
def Y_TC_between : am_Y := (⟨"TwoCamps", "between", "(II)I"⟩, prog_1_method_6_code, 3, some .int)
theorem yv_TC_between : am_yV Y_TC_between 2 := ⟨⟨(tb1 1 (by decide +kernel) rfl), (tb3 34 (by decide +kernel) rfl), ⟨by decide +kernel, by decide +kernel, by decide +kernel⟩, by decide +kernel⟩, (tb3 32 (by decide +kernel) rfl), (tb3 33 (by decide +kernel) rfl)⟩
def Y_TC_feed : am_Y := (⟨"TwoCamps", "feed", "(IJ)I"⟩, prog_1_method_8_code, 5, some .int)
theorem yv_TC_feed : am_yV Y_TC_feed 2 := ⟨⟨(tb1 1 (by decide +kernel) rfl), (tb3 39 (by decide +kernel) rfl), ⟨by decide +kernel, by decide +kernel, by decide +kernel⟩, by decide +kernel⟩, (tb3 37 (by decide +kernel) rfl), (tb3 38 (by decide +kernel) rfl)⟩
def Y_Tape_add : am_Y := (⟨"TwoCamps$Tape", "add", "(I)V"⟩, prog_10_method_2_code, 2, none)
theorem yv_Tape_add : am_yV Y_Tape_add 1 := ⟨⟨(tb1 5 (by decide +kernel) rfl), (tb3 43 (by decide +kernel) rfl), ⟨by decide +kernel, by decide +kernel, by decide +kernel⟩, by decide +kernel⟩, (tb3 41 (by decide +kernel) rfl), (tb3 42 (by decide +kernel) rfl)⟩
def Y_TC_street : am_Y := (⟨"TwoCamps", "street", "()I"⟩, prog_1_method_9_code, 2, some .int)
theorem yv_TC_street : am_yV Y_TC_street 0 := ⟨⟨(tb1 1 (by decide +kernel) rfl), (tb3 47 (by decide +kernel) rfl), ⟨by decide +kernel, by decide +kernel, by decide +kernel⟩, by decide +kernel⟩, (tb3 45 (by decide +kernel) rfl), (tb3 46 (by decide +kernel) rfl)⟩
def Y_StreetReader_isStreet : am_Y := (⟨"TwoCamps$StreetReader", "isStreet", "()Z"⟩, prog_9_method_2_code, 2, some .boolean)
theorem yv_StreetReader_isStreet : am_yV Y_StreetReader_isStreet 0 := ⟨⟨(tb1 9 (by decide +kernel) rfl), (tb3 51 (by decide +kernel) rfl), ⟨by decide +kernel, by decide +kernel, by decide +kernel⟩, by decide +kernel⟩, (tb3 49 (by decide +kernel) rfl), (tb3 50 (by decide +kernel) rfl)⟩
def Y_StreetReader_readLine : am_Y := (⟨"TwoCamps$StreetReader", "readLine", "()Z"⟩, prog_9_method_4_code, 1, some .boolean)
theorem yv_StreetReader_readLine : am_yV Y_StreetReader_readLine 0 := ⟨⟨(tb1 9 (by decide +kernel) rfl), (tb3 55 (by decide +kernel) rfl), ⟨by decide +kernel, by decide +kernel, by decide +kernel⟩, by decide +kernel⟩, (tb3 54 (by decide +kernel) rfl), (tb_sel (y := ⟨"TwoCamps$StreetReader", "readLine", "()Z"⟩) (n := 9) 5 (by decide +kernel))⟩
def Y_StreetReader_readPerson : am_Y := (⟨"TwoCamps$StreetReader", "readPerson", "(I)I"⟩, prog_9_method_5_code, 3, some .int)
theorem yv_StreetReader_readPerson : am_yV Y_StreetReader_readPerson 1 := ⟨⟨(tb1 9 (by decide +kernel) rfl), (tb3 59 (by decide +kernel) rfl), ⟨by decide +kernel, by decide +kernel, by decide +kernel⟩, by decide +kernel⟩, (tb3 58 (by decide +kernel) rfl), (tb_sel (y := ⟨"TwoCamps$StreetReader", "readPerson", "(I)I"⟩) (n := 9) 6 (by decide +kernel))⟩
def Y_Tape_at : am_Y := (⟨"TwoCamps$Tape", "at", "(I)I"⟩, prog_10_method_3_code, 2, some .int)
theorem yv_Tape_at : am_yV Y_Tape_at 1 := ⟨⟨(tb1 5 (by decide +kernel) rfl), (tb3 63 (by decide +kernel) rfl), ⟨by decide +kernel, by decide +kernel, by decide +kernel⟩, by decide +kernel⟩, (tb3 61 (by decide +kernel) rfl), (tb3 62 (by decide +kernel) rfl)⟩
def Y_StreetReader_readSign : am_Y := (⟨"TwoCamps$StreetReader", "readSign", "()Z"⟩, prog_9_method_6_code, 1, some .boolean)
theorem yv_StreetReader_readSign : am_yV Y_StreetReader_readSign 0 := ⟨⟨(tb1 9 (by decide +kernel) rfl), (tb3 68 (by decide +kernel) rfl), ⟨by decide +kernel, by decide +kernel, by decide +kernel⟩, by decide +kernel⟩, (tb3 67 (by decide +kernel) rfl), (tb_sel (y := ⟨"TwoCamps$StreetReader", "readSign", "()Z"⟩) (n := 9) 7 (by decide +kernel))⟩
def Y_StreetReader_skip : am_Y := (⟨"TwoCamps$StreetReader", "skip", "(I)Z"⟩, prog_9_method_9_code, 2, some .boolean)
theorem yv_StreetReader_skip : am_yV Y_StreetReader_skip 1 := ⟨⟨(tb1 9 (by decide +kernel) rfl), (tb3 72 (by decide +kernel) rfl), ⟨by decide +kernel, by decide +kernel, by decide +kernel⟩, by decide +kernel⟩, (tb3 71 (by decide +kernel) rfl), (tb_sel (y := ⟨"TwoCamps$StreetReader", "skip", "(I)Z"⟩) (n := 9) 8 (by decide +kernel))⟩
def Y_StreetReader_readStrength : am_Y := (⟨"TwoCamps$StreetReader", "readStrength", "()Z"⟩, prog_9_method_7_code, 2, some .boolean)
theorem yv_StreetReader_readStrength : am_yV Y_StreetReader_readStrength 0 := ⟨⟨(tb1 9 (by decide +kernel) rfl), (tb3 76 (by decide +kernel) rfl), ⟨by decide +kernel, by decide +kernel, by decide +kernel⟩, by decide +kernel⟩, (tb3 75 (by decide +kernel) rfl), (tb_sel (y := ⟨"TwoCamps$StreetReader", "readStrength", "()Z"⟩) (n := 9) 9 (by decide +kernel))⟩
def Y_Tape_digitAt : am_Y := (⟨"TwoCamps$Tape", "digitAt", "(I)I"⟩, prog_10_method_4_code, 3, some .int)
theorem yv_Tape_digitAt : am_yV Y_Tape_digitAt 1 := ⟨⟨(tb1 5 (by decide +kernel) rfl), (tb3 80 (by decide +kernel) rfl), ⟨by decide +kernel, by decide +kernel, by decide +kernel⟩, by decide +kernel⟩, (tb3 78 (by decide +kernel) rfl), (tb3 79 (by decide +kernel) rfl)⟩
def Y_StreetReader_readKind : am_Y := (⟨"TwoCamps$StreetReader", "readKind", "()Z"⟩, prog_9_method_8_code, 1, some .boolean)
theorem yv_StreetReader_readKind : am_yV Y_StreetReader_readKind 0 := ⟨⟨(tb1 9 (by decide +kernel) rfl), (tb3 85 (by decide +kernel) rfl), ⟨by decide +kernel, by decide +kernel, by decide +kernel⟩, by decide +kernel⟩, (tb3 84 (by decide +kernel) rfl), (tb_sel (y := ⟨"TwoCamps$StreetReader", "readKind", "()Z"⟩) (n := 9) 10 (by decide +kernel))⟩
def Y_StreetReader_tellAll : am_Y := (⟨"TwoCamps$StreetReader", "tellAll", "()I"⟩, prog_9_method_3_code, 2, some .int)
theorem yv_StreetReader_tellAll : am_yV Y_StreetReader_tellAll 0 := ⟨⟨(tb1 9 (by decide +kernel) rfl), (tb3 89 (by decide +kernel) rfl), ⟨by decide +kernel, by decide +kernel, by decide +kernel⟩, by decide +kernel⟩, (tb3 87 (by decide +kernel) rfl), (tb3 88 (by decide +kernel) rfl)⟩
def Y_TC_text : am_Y := (⟨"TwoCamps", "text", "()I"⟩, prog_1_method_10_code, 2, some .int)
theorem yv_TC_text : am_yV Y_TC_text 0 := ⟨⟨(tb1 1 (by decide +kernel) rfl), (tb3 94 (by decide +kernel) rfl), ⟨by decide +kernel, by decide +kernel, by decide +kernel⟩, by decide +kernel⟩, (tb3 92 (by decide +kernel) rfl), (tb3 93 (by decide +kernel) rfl)⟩
def Y_TextReader_isText : am_Y := (⟨"TwoCamps$TextReader", "isText", "()Z"⟩, prog_12_method_2_code, 1, some .boolean)
theorem yv_TextReader_isText : am_yV Y_TextReader_isText 0 := ⟨⟨(tb1 8 (by decide +kernel) rfl), (tb3 98 (by decide +kernel) rfl), ⟨by decide +kernel, by decide +kernel, by decide +kernel⟩, by decide +kernel⟩, (tb3 96 (by decide +kernel) rfl), (tb3 97 (by decide +kernel) rfl)⟩
def Y_Text_clear : am_Y := (⟨"TwoCamps$Text", "clear", "()V"⟩, prog_11_method_2_code, 1, none)
theorem yv_Text_clear : am_yV Y_Text_clear 0 := ⟨⟨(tb1 7 (by decide +kernel) rfl), (tb3 102 (by decide +kernel) rfl), ⟨by decide +kernel, by decide +kernel, by decide +kernel⟩, by decide +kernel⟩, (tb3 100 (by decide +kernel) rfl), (tb3 101 (by decide +kernel) rfl)⟩
def Y_TextReader_layTokens : am_Y := (⟨"TwoCamps$TextReader", "layTokens", "()V"⟩, prog_12_method_4_code, 5, none)
theorem yv_TextReader_layTokens : am_yV Y_TextReader_layTokens 0 := ⟨⟨(tb1 8 (by decide +kernel) rfl), (tb3 106 (by decide +kernel) rfl), ⟨by decide +kernel, by decide +kernel, by decide +kernel⟩, by decide +kernel⟩, (tb3 105 (by decide +kernel) rfl), (tb_sel (y := ⟨"TwoCamps$TextReader", "layTokens", "()V"⟩) (n := 6) 11 (by decide +kernel))⟩
def Y_TextReader_skipBlanks : am_Y := (⟨"TwoCamps$TextReader", "skipBlanks", "(I)I"⟩, prog_12_method_5_code, 4, some .int)
theorem yv_TextReader_skipBlanks : am_yV Y_TextReader_skipBlanks 1 := ⟨⟨(tb1 8 (by decide +kernel) rfl), (tb3 110 (by decide +kernel) rfl), ⟨by decide +kernel, by decide +kernel, by decide +kernel⟩, by decide +kernel⟩, (tb3 109 (by decide +kernel) rfl), (tb_sel (y := ⟨"TwoCamps$TextReader", "skipBlanks", "(I)I"⟩) (n := 6) 12 (by decide +kernel))⟩
def Y_TextReader_endOfToken : am_Y := (⟨"TwoCamps$TextReader", "endOfToken", "(I)I"⟩, prog_12_method_6_code, 6, some .int)
theorem yv_TextReader_endOfToken : am_yV Y_TextReader_endOfToken 1 := ⟨⟨(tb1 8 (by decide +kernel) rfl), (tb3 115 (by decide +kernel) rfl), ⟨by decide +kernel, by decide +kernel, by decide +kernel⟩, by decide +kernel⟩, (tb3 114 (by decide +kernel) rfl), (tb_sel (y := ⟨"TwoCamps$TextReader", "endOfToken", "(I)I"⟩) (n := 6) 13 (by decide +kernel))⟩
def Y_Tape_isLetter : am_Y := (⟨"TwoCamps$Tape", "isLetter", "(I)Z"⟩, prog_10_method_6_code, 3, some .boolean)
theorem yv_Tape_isLetter : am_yV Y_Tape_isLetter 1 := ⟨⟨(tb1 5 (by decide +kernel) rfl), (tb3 119 (by decide +kernel) rfl), ⟨by decide +kernel, by decide +kernel, by decide +kernel⟩, by decide +kernel⟩, (tb3 117 (by decide +kernel) rfl), (tb3 118 (by decide +kernel) rfl)⟩
def Y_Tape_isDigit : am_Y := (⟨"TwoCamps$Tape", "isDigit", "(I)Z"⟩, prog_10_method_5_code, 2, some .boolean)
theorem yv_Tape_isDigit : am_yV Y_Tape_isDigit 1 := ⟨⟨(tb1 5 (by decide +kernel) rfl), (tb3 123 (by decide +kernel) rfl), ⟨by decide +kernel, by decide +kernel, by decide +kernel⟩, by decide +kernel⟩, (tb3 121 (by decide +kernel) rfl), (tb3 122 (by decide +kernel) rfl)⟩
def Y_TextReader_tokenOf : am_Y := (⟨"TwoCamps$TextReader", "tokenOf", "(II)I"⟩, prog_12_method_7_code, 4, some .int)
theorem yv_TextReader_tokenOf : am_yV Y_TextReader_tokenOf 2 := ⟨⟨(tb1 8 (by decide +kernel) rfl), (tb3 128 (by decide +kernel) rfl), ⟨by decide +kernel, by decide +kernel, by decide +kernel⟩, by decide +kernel⟩, (tb3 127 (by decide +kernel) rfl), (tb_sel (y := ⟨"TwoCamps$TextReader", "tokenOf", "(II)I"⟩) (n := 6) 14 (by decide +kernel))⟩
def Y_TextReader_wordOf : am_Y := (⟨"TwoCamps$TextReader", "wordOf", "(II)I"⟩, prog_12_method_9_code, 3, some .int)
theorem yv_TextReader_wordOf : am_yV Y_TextReader_wordOf 2 := ⟨⟨(tb1 8 (by decide +kernel) rfl), (tb3 132 (by decide +kernel) rfl), ⟨by decide +kernel, by decide +kernel, by decide +kernel⟩, by decide +kernel⟩, (tb3 131 (by decide +kernel) rfl), (tb_sel (y := ⟨"TwoCamps$TextReader", "wordOf", "(II)I"⟩) (n := 6) 15 (by decide +kernel))⟩
def Y_TextReader_spells : am_Y := (⟨"TwoCamps$TextReader", "spells", "(IILjava/lang/String;)Z"⟩, prog_12_method_10_code, 5, some .boolean)
theorem yv_TextReader_spells : am_yV Y_TextReader_spells 3 := ⟨⟨(tb1 8 (by decide +kernel) rfl), (tb3 137 (by decide +kernel) rfl), ⟨by decide +kernel, by decide +kernel, by decide +kernel⟩, by decide +kernel⟩, (tb3 136 (by decide +kernel) rfl), (tb_sel (y := ⟨"TwoCamps$TextReader", "spells", "(IILjava/lang/String;)Z"⟩) (n := 6) 16 (by decide +kernel))⟩
def Y_Str_length : am_Y := (⟨"java/lang/String", "length", "()I"⟩, prog_17_method_54_code, 1, some .int)
theorem yv_Str_length : am_yV Y_Str_length 0 := ⟨⟨(tb1 16 (by decide +kernel) rfl), (tb3 141 (by decide +kernel) rfl), ⟨by decide +kernel, by decide +kernel, by decide +kernel⟩, by decide +kernel⟩, (tb3 139 (by decide +kernel) rfl), (tb3 140 (by decide +kernel) rfl)⟩
def Y_Str_coder : am_Y := (⟨"java/lang/String", "coder", "()B"⟩, prog_17_method_152_code, 1, some .byte)
theorem yv_Str_coder : am_yV Y_Str_coder 0 := ⟨⟨(tb1 16 (by decide +kernel) rfl), (tb3 145 (by decide +kernel) rfl), ⟨by decide +kernel, by decide +kernel, by decide +kernel⟩, by decide +kernel⟩, (tb3 143 (by decide +kernel) rfl), (tb3 144 (by decide +kernel) rfl)⟩
def Y_Str_charAt : am_Y := (⟨"java/lang/String", "charAt", "(I)C"⟩, prog_17_method_56_code, 2, some .char)
theorem yv_Str_charAt : am_yV Y_Str_charAt 1 := ⟨⟨(tb1 16 (by decide +kernel) rfl), (tb3 151 (by decide +kernel) rfl), ⟨by decide +kernel, by decide +kernel, by decide +kernel⟩, by decide +kernel⟩, (tb3 149 (by decide +kernel) rfl), (tb3 150 (by decide +kernel) rfl)⟩
def Y_Str_isLatin1 : am_Y := (⟨"java/lang/String", "isLatin1", "()Z"⟩, prog_17_method_154_code, 1, some .boolean)
theorem yv_Str_isLatin1 : am_yV Y_Str_isLatin1 0 := ⟨⟨(tb1 16 (by decide +kernel) rfl), (tb3 155 (by decide +kernel) rfl), ⟨by decide +kernel, by decide +kernel, by decide +kernel⟩, by decide +kernel⟩, (tb3 153 (by decide +kernel) rfl), (tb3 154 (by decide +kernel) rfl)⟩
def Y_L1_charAt : am_Y := (⟨"java/lang/StringLatin1", "charAt", "([BI)C"⟩, prog_18_method_2_code, 2, some .char)
theorem ys_L1_charAt : am_yS Y_L1_charAt 2 := ⟨⟨(tb1 17 (by decide +kernel) rfl), (tb3 158 (by decide +kernel) rfl), ⟨by decide +kernel, by decide +kernel, by decide +kernel⟩, by decide +kernel⟩, (tb3 157 (by decide +kernel) rfl)⟩
def Y_Str_checkIndex : am_Y := (⟨"java/lang/String", "checkIndex", "(II)V"⟩, prog_17_method_155_code, 2, none)
theorem ys_Str_checkIndex : am_yS Y_Str_checkIndex 2 := ⟨⟨(tb1 16 (by decide +kernel) rfl), (tb3 161 (by decide +kernel) rfl), ⟨by decide +kernel, by decide +kernel, by decide +kernel⟩, by decide +kernel⟩, (tb3 160 (by decide +kernel) rfl)⟩
def Y_Pre_checkIndex : am_Y := (⟨"jdk/internal/util/Preconditions", "checkIndex", "(IILjava/util/function/BiFunction;)I"⟩, prog_22_method_11_code, 3, some .int)
theorem ys_Pre_checkIndex : am_yS Y_Pre_checkIndex 3 := ⟨⟨(tb1 18 (by decide +kernel) rfl), (tb3 166 (by decide +kernel) rfl), ⟨by decide +kernel, by decide +kernel, by decide +kernel⟩, by decide +kernel⟩, (tb3 165 (by decide +kernel) rfl)⟩
def Y_TextReader_numberOf : am_Y := (⟨"TwoCamps$TextReader", "numberOf", "(II)I"⟩, prog_12_method_8_code, 5, some .int)
theorem yv_TextReader_numberOf : am_yV Y_TextReader_numberOf 2 := ⟨⟨(tb1 8 (by decide +kernel) rfl), (tb3 199 (by decide +kernel) rfl), ⟨by decide +kernel, by decide +kernel, by decide +kernel⟩, by decide +kernel⟩, (tb3 198 (by decide +kernel) rfl), (tb_sel (y := ⟨"TwoCamps$TextReader", "numberOf", "(II)I"⟩) (n := 6) 17 (by decide +kernel))⟩
def Y_TextReader_skip : am_Y := (⟨"TwoCamps$TextReader", "skip", "(I)Z"⟩, prog_12_method_18_code, 2, some .boolean)
theorem yv_TextReader_skip : am_yV Y_TextReader_skip 1 := ⟨⟨(tb1 8 (by decide +kernel) rfl), (tb3 203 (by decide +kernel) rfl), ⟨by decide +kernel, by decide +kernel, by decide +kernel⟩, by decide +kernel⟩, (tb3 202 (by decide +kernel) rfl), (tb_sel (y := ⟨"TwoCamps$TextReader", "skip", "(I)Z"⟩) (n := 6) 18 (by decide +kernel))⟩
def Y_TextReader_readOr : am_Y := (⟨"TwoCamps$TextReader", "readOr", "(I)Z"⟩, prog_12_method_11_code, 4, some .boolean)
theorem yv_TextReader_readOr : am_yV Y_TextReader_readOr 1 := ⟨⟨(tb1 8 (by decide +kernel) rfl), (tb3 207 (by decide +kernel) rfl), ⟨by decide +kernel, by decide +kernel, by decide +kernel⟩, by decide +kernel⟩, (tb3 206 (by decide +kernel) rfl), (tb_sel (y := ⟨"TwoCamps$TextReader", "readOr", "(I)Z"⟩) (n := 6) 19 (by decide +kernel))⟩
def Y_TextReader_readAnd : am_Y := (⟨"TwoCamps$TextReader", "readAnd", "(I)Z"⟩, prog_12_method_12_code, 4, some .boolean)
theorem yv_TextReader_readAnd : am_yV Y_TextReader_readAnd 1 := ⟨⟨(tb1 8 (by decide +kernel) rfl), (tb3 211 (by decide +kernel) rfl), ⟨by decide +kernel, by decide +kernel, by decide +kernel⟩, by decide +kernel⟩, (tb3 210 (by decide +kernel) rfl), (tb_sel (y := ⟨"TwoCamps$TextReader", "readAnd", "(I)Z"⟩) (n := 6) 20 (by decide +kernel))⟩
def Y_TextReader_readNot : am_Y := (⟨"TwoCamps$TextReader", "readNot", "(I)Z"⟩, prog_12_method_13_code, 3, some .boolean)
theorem yv_TextReader_readNot : am_yV Y_TextReader_readNot 1 := ⟨⟨(tb1 8 (by decide +kernel) rfl), (tb3 215 (by decide +kernel) rfl), ⟨by decide +kernel, by decide +kernel, by decide +kernel⟩, by decide +kernel⟩, (tb3 214 (by decide +kernel) rfl), (tb_sel (y := ⟨"TwoCamps$TextReader", "readNot", "(I)Z"⟩) (n := 6) 21 (by decide +kernel))⟩
def Y_TextReader_readComparison : am_Y := (⟨"TwoCamps$TextReader", "readComparison", "(I)Z"⟩, prog_12_method_14_code, 4, some .boolean)
theorem yv_TextReader_readComparison : am_yV Y_TextReader_readComparison 1 := ⟨⟨(tb1 8 (by decide +kernel) rfl), (tb3 219 (by decide +kernel) rfl), ⟨by decide +kernel, by decide +kernel, by decide +kernel⟩, by decide +kernel⟩, (tb3 218 (by decide +kernel) rfl), (tb_sel (y := ⟨"TwoCamps$TextReader", "readComparison", "(I)Z"⟩) (n := 6) 22 (by decide +kernel))⟩
def Y_TextReader_readSum : am_Y := (⟨"TwoCamps$TextReader", "readSum", "(I)Z"⟩, prog_12_method_15_code, 5, some .boolean)
theorem yv_TextReader_readSum : am_yV Y_TextReader_readSum 1 := ⟨⟨(tb1 8 (by decide +kernel) rfl), (tb3 223 (by decide +kernel) rfl), ⟨by decide +kernel, by decide +kernel, by decide +kernel⟩, by decide +kernel⟩, (tb3 222 (by decide +kernel) rfl), (tb_sel (y := ⟨"TwoCamps$TextReader", "readSum", "(I)Z"⟩) (n := 6) 23 (by decide +kernel))⟩
def Y_TextReader_readTerm : am_Y := (⟨"TwoCamps$TextReader", "readTerm", "(I)Z"⟩, prog_12_method_16_code, 4, some .boolean)
theorem yv_TextReader_readTerm : am_yV Y_TextReader_readTerm 1 := ⟨⟨(tb1 8 (by decide +kernel) rfl), (tb3 227 (by decide +kernel) rfl), ⟨by decide +kernel, by decide +kernel, by decide +kernel⟩, by decide +kernel⟩, (tb3 226 (by decide +kernel) rfl), (tb_sel (y := ⟨"TwoCamps$TextReader", "readTerm", "(I)Z"⟩) (n := 6) 24 (by decide +kernel))⟩
def Y_TextReader_readOne : am_Y := (⟨"TwoCamps$TextReader", "readOne", "(I)Z"⟩, prog_12_method_17_code, 3, some .boolean)
theorem yv_TextReader_readOne : am_yV Y_TextReader_readOne 1 := ⟨⟨(tb1 8 (by decide +kernel) rfl), (tb3 231 (by decide +kernel) rfl), ⟨by decide +kernel, by decide +kernel, by decide +kernel⟩, by decide +kernel⟩, (tb3 230 (by decide +kernel) rfl), (tb_sel (y := ⟨"TwoCamps$TextReader", "readOne", "(I)Z"⟩) (n := 6) 25 (by decide +kernel))⟩
def Y_Law_add : am_Y := (⟨"TwoCamps$Law", "add", "(LTwoCamps$Text;)I"⟩, prog_5_method_2_code, 2, some .int)
theorem yv_Law_add : am_yV Y_Law_add 1 := ⟨⟨(tb1 6 (by decide +kernel) rfl), (tb3 238 (by decide +kernel) rfl), ⟨by decide +kernel, by decide +kernel, by decide +kernel⟩, by decide +kernel⟩, (tb3 236 (by decide +kernel) rfl), (tb3 237 (by decide +kernel) rfl)⟩
def Y_Text_become : am_Y := (⟨"TwoCamps$Text", "become", "(LTwoCamps$Text;)V"⟩, prog_11_method_3_code, 2, none)
theorem yv_Text_become : am_yV Y_Text_become 1 := ⟨⟨(tb1 7 (by decide +kernel) rfl), (tb4 2 (by decide +kernel) rfl), ⟨by decide +kernel, by decide +kernel, by decide +kernel⟩, by decide +kernel⟩, (tb4 0 (by decide +kernel) rfl), (tb4 1 (by decide +kernel) rfl)⟩
def Y_TextReader_place : am_Y := (⟨"TwoCamps$TextReader", "place", "()I"⟩, prog_12_method_3_code, 1, some .int)
theorem yv_TextReader_place : am_yV Y_TextReader_place 0 := ⟨⟨(tb1 8 (by decide +kernel) rfl), (tb4 9 (by decide +kernel) rfl), ⟨by decide +kernel, by decide +kernel, by decide +kernel⟩, by decide +kernel⟩, (tb4 7 (by decide +kernel) rfl), (tb4 8 (by decide +kernel) rfl)⟩
def Y_TC_force : am_Y := (⟨"TwoCamps", "force", "(I)I"⟩, prog_1_method_11_code, 3, some .int)
theorem yv_TC_force : am_yV Y_TC_force 1 := ⟨⟨(tb1 1 (by decide +kernel) rfl), (tb4 14 (by decide +kernel) rfl), ⟨by decide +kernel, by decide +kernel, by decide +kernel⟩, by decide +kernel⟩, (tb4 12 (by decide +kernel) rfl), (tb4 13 (by decide +kernel) rfl)⟩
def Y_TC_camping : am_Y := (⟨"TwoCamps", "camping", "(II)I"⟩, prog_1_method_12_code, 4, some .int)
theorem yv_TC_camping : am_yV Y_TC_camping 2 := ⟨⟨(tb1 1 (by decide +kernel) rfl), (tb4 18 (by decide +kernel) rfl), ⟨by decide +kernel, by decide +kernel, by decide +kernel⟩, by decide +kernel⟩, (tb4 16 (by decide +kernel) rfl), (tb4 17 (by decide +kernel) rfl)⟩
def Y_TC_isKind : am_Y := (⟨"TwoCamps", "isKind", "(I)Z"⟩, prog_1_method_20_code, 1, some .boolean)
theorem ys_TC_isKind : am_yS Y_TC_isKind 1 := ⟨⟨(tb1 1 (by decide +kernel) rfl), (tb4 21 (by decide +kernel) rfl), ⟨by decide +kernel, by decide +kernel, by decide +kernel⟩, by decide +kernel⟩, (tb4 20 (by decide +kernel) rfl)⟩
def Y_TC_isSheet : am_Y := (⟨"TwoCamps", "isSheet", "(I)Z"⟩, prog_1_method_50_code, 1, some .boolean)
theorem ys_TC_isSheet : am_yS Y_TC_isSheet 1 := ⟨⟨(tb1 1 (by decide +kernel) rfl), (tb4 24 (by decide +kernel) rfl), ⟨by decide +kernel, by decide +kernel, by decide +kernel⟩, by decide +kernel⟩, (tb4 23 (by decide +kernel) rfl)⟩
def Y_Sheet_isThere : am_Y := (⟨"TwoCamps$Sheet", "isThere", "()Z"⟩, prog_8_method_2_code, 1, some .boolean)
theorem yv_Sheet_isThere : am_yV Y_Sheet_isThere 0 := ⟨⟨(tb1 13 (by decide +kernel) rfl), (tb4 28 (by decide +kernel) rfl), ⟨by decide +kernel, by decide +kernel, by decide +kernel⟩, by decide +kernel⟩, (tb4 26 (by decide +kernel) rfl), (tb4 27 (by decide +kernel) rfl)⟩
def Y_TC_tellsCamps : am_Y := (⟨"TwoCamps", "tellsCamps", "(LTwoCamps$Sheet;)Z"⟩, prog_1_method_18_code, 2, some .boolean)
theorem ys_TC_tellsCamps : am_yS Y_TC_tellsCamps 1 := ⟨⟨(tb1 1 (by decide +kernel) rfl), (tb4 31 (by decide +kernel) rfl), ⟨by decide +kernel, by decide +kernel, by decide +kernel⟩, by decide +kernel⟩, (tb4 30 (by decide +kernel) rfl)⟩
def Y_TC_isCamp : am_Y := (⟨"TwoCamps", "isCamp", "(I)Z"⟩, prog_1_method_19_code, 1, some .boolean)
theorem ys_TC_isCamp : am_yS Y_TC_isCamp 1 := ⟨⟨(tb1 1 (by decide +kernel) rfl), (tb4 34 (by decide +kernel) rfl), ⟨by decide +kernel, by decide +kernel, by decide +kernel⟩, by decide +kernel⟩, (tb4 33 (by decide +kernel) rfl)⟩
def Y_Camping_become : am_Y := (⟨"TwoCamps$Camping", "become", "(ILTwoCamps$Sheet;)V"⟩, prog_3_method_2_code, 3, none)
theorem yv_Camping_become : am_yV Y_Camping_become 2 := ⟨⟨(tb1 10 (by decide +kernel) rfl), (tb4 38 (by decide +kernel) rfl), ⟨by decide +kernel, by decide +kernel, by decide +kernel⟩, by decide +kernel⟩, (tb4 36 (by decide +kernel) rfl), (tb4 37 (by decide +kernel) rfl)⟩
def Y_TC_camped : am_Y := (⟨"TwoCamps", "camped", "(II)I"⟩, prog_1_method_13_code, 4, some .int)
theorem yv_TC_camped : am_yV Y_TC_camped 2 := ⟨⟨(tb1 1 (by decide +kernel) rfl), (tb4 43 (by decide +kernel) rfl), ⟨by decide +kernel, by decide +kernel, by decide +kernel⟩, by decide +kernel⟩, (tb4 41 (by decide +kernel) rfl), (tb4 42 (by decide +kernel) rfl)⟩
def Y_TC_isCamping : am_Y := (⟨"TwoCamps", "isCamping", "(I)Z"⟩, prog_1_method_21_code, 2, some .boolean)
theorem yv_TC_isCamping : am_yV Y_TC_isCamping 1 := ⟨⟨(tb1 1 (by decide +kernel) rfl), (tb4 47 (by decide +kernel) rfl), ⟨by decide +kernel, by decide +kernel, by decide +kernel⟩, by decide +kernel⟩, (tb4 46 (by decide +kernel) rfl), (tb_sel (y := ⟨"TwoCamps", "isCamping", "(I)Z"⟩) (n := 16) 26 (by decide +kernel))⟩
def Y_Camping_usedCamps : am_Y := (⟨"TwoCamps$Camping", "usedCamps", "()I"⟩, prog_3_method_5_code, 3, some .int)
theorem yv_Camping_usedCamps : am_yV Y_Camping_usedCamps 0 := ⟨⟨(tb1 10 (by decide +kernel) rfl), (tb4 53 (by decide +kernel) rfl), ⟨by decide +kernel, by decide +kernel, by decide +kernel⟩, by decide +kernel⟩, (tb4 51 (by decide +kernel) rfl), (tb4 52 (by decide +kernel) rfl)⟩
def Y_Camping_countIn : am_Y := (⟨"TwoCamps$Camping", "countIn", "(I)I"⟩, prog_3_method_6_code, 4, some .int)
theorem yv_Camping_countIn : am_yV Y_Camping_countIn 1 := ⟨⟨(tb1 10 (by decide +kernel) rfl), (tb4 57 (by decide +kernel) rfl), ⟨by decide +kernel, by decide +kernel, by decide +kernel⟩, by decide +kernel⟩, (tb4 55 (by decide +kernel) rfl), (tb4 56 (by decide +kernel) rfl)⟩
def Y_Camping_campOf : am_Y := (⟨"TwoCamps$Camping", "campOf", "(I)I"⟩, prog_3_method_4_code, 2, some .int)
theorem yv_Camping_campOf : am_yV Y_Camping_campOf 1 := ⟨⟨(tb1 10 (by decide +kernel) rfl), (tb4 61 (by decide +kernel) rfl), ⟨by decide +kernel, by decide +kernel, by decide +kernel⟩, by decide +kernel⟩, (tb4 59 (by decide +kernel) rfl), (tb4 60 (by decide +kernel) rfl)⟩
def Y_Camping_wrongCount : am_Y := (⟨"TwoCamps$Camping", "wrongCount", "()I"⟩, prog_3_method_7_code, 3, some .int)
theorem yv_Camping_wrongCount : am_yV Y_Camping_wrongCount 0 := ⟨⟨(tb1 10 (by decide +kernel) rfl), (tb4 65 (by decide +kernel) rfl), ⟨by decide +kernel, by decide +kernel, by decide +kernel⟩, by decide +kernel⟩, (tb4 63 (by decide +kernel) rfl), (tb4 64 (by decide +kernel) rfl)⟩
def Y_Camping_isWrong : am_Y := (⟨"TwoCamps$Camping", "isWrong", "(I)Z"⟩, prog_3_method_8_code, 4, some .boolean)
theorem yv_Camping_isWrong : am_yV Y_Camping_isWrong 1 := ⟨⟨(tb1 10 (by decide +kernel) rfl), (tb4 69 (by decide +kernel) rfl), ⟨by decide +kernel, by decide +kernel, by decide +kernel⟩, by decide +kernel⟩, (tb4 68 (by decide +kernel) rfl), (tb_sel (y := ⟨"TwoCamps$Camping", "isWrong", "(I)Z"⟩) (n := 6) 27 (by decide +kernel))⟩
def Y_Feelings_isWrong : am_Y := (⟨"TwoCamps$Feelings", "isWrong", "(IZ)Z"⟩, prog_4_method_7_code, 3, some .boolean)
theorem yv_Feelings_isWrong : am_yV Y_Feelings_isWrong 2 := ⟨⟨(tb1 3 (by decide +kernel) rfl), (tb4 73 (by decide +kernel) rfl), ⟨by decide +kernel, by decide +kernel, by decide +kernel⟩, by decide +kernel⟩, (tb4 71 (by decide +kernel) rfl), (tb4 72 (by decide +kernel) rfl)⟩
def Y_TC_cost : am_Y := (⟨"TwoCamps", "cost", "(I)J"⟩, prog_1_method_14_code, 2, some .long)
theorem yv_TC_cost : am_yV Y_TC_cost 1 := ⟨⟨(tb1 1 (by decide +kernel) rfl), (tb4 78 (by decide +kernel) rfl), ⟨by decide +kernel, by decide +kernel, by decide +kernel⟩, by decide +kernel⟩, (tb4 76 (by decide +kernel) rfl), (tb4 77 (by decide +kernel) rfl)⟩
def Y_Camping_judged : am_Y := (⟨"TwoCamps$Camping", "judged", "()J"⟩, prog_3_method_9_code, 4, some .long)
theorem yv_Camping_judged : am_yV Y_Camping_judged 0 := ⟨⟨(tb1 10 (by decide +kernel) rfl), (tb4 82 (by decide +kernel) rfl), ⟨by decide +kernel, by decide +kernel, by decide +kernel⟩, by decide +kernel⟩, (tb4 80 (by decide +kernel) rfl), (tb4 81 (by decide +kernel) rfl)⟩
def Y_Law_weigh : am_Y := (⟨"TwoCamps$Law", "weigh", "()V"⟩, prog_5_method_3_code, 2, none)
theorem yv_Law_weigh : am_yV Y_Law_weigh 0 := ⟨⟨(tb1 6 (by decide +kernel) rfl), (tb4 86 (by decide +kernel) rfl), ⟨by decide +kernel, by decide +kernel, by decide +kernel⟩, by decide +kernel⟩, (tb4 84 (by decide +kernel) rfl), (tb4 85 (by decide +kernel) rfl)⟩
def Y_TC_isUnder : am_Y := (⟨"TwoCamps", "isUnder", "(II)Z"⟩, prog_1_method_22_code, 4, some .boolean)
theorem ys_TC_isUnder : am_yS Y_TC_isUnder 2 := ⟨⟨(tb1 1 (by decide +kernel) rfl), (tb4 91 (by decide +kernel) rfl), ⟨by decide +kernel, by decide +kernel, by decide +kernel⟩, by decide +kernel⟩, (tb4 90 (by decide +kernel) rfl)⟩
def Y_Camping_costOfWrong : am_Y := (⟨"TwoCamps$Camping", "costOfWrong", "(I)J"⟩, prog_3_method_10_code, 4, some .long)
theorem yv_Camping_costOfWrong : am_yV Y_Camping_costOfWrong 1 := ⟨⟨(tb1 10 (by decide +kernel) rfl), (tb4 99 (by decide +kernel) rfl), ⟨by decide +kernel, by decide +kernel, by decide +kernel⟩, by decide +kernel⟩, (tb4 98 (by decide +kernel) rfl), (tb_sel (y := ⟨"TwoCamps$Camping", "costOfWrong", "(I)J"⟩) (n := 6) 28 (by decide +kernel))⟩
def Y_Camping_costOfPerson : am_Y := (⟨"TwoCamps$Camping", "costOfPerson", "(I)J"⟩, prog_3_method_11_code, 5, some .long)
theorem yv_Camping_costOfPerson : am_yV Y_Camping_costOfPerson 1 := ⟨⟨(tb1 10 (by decide +kernel) rfl), (tb4 104 (by decide +kernel) rfl), ⟨by decide +kernel, by decide +kernel, by decide +kernel⟩, by decide +kernel⟩, (tb4 103 (by decide +kernel) rfl), (tb_sel (y := ⟨"TwoCamps$Camping", "costOfPerson", "(I)J"⟩) (n := 6) 29 (by decide +kernel))⟩
def Y_TC_move : am_Y := (⟨"TwoCamps", "move", "(III)J"⟩, prog_1_method_15_code, 4, some .long)
theorem yv_TC_move : am_yV Y_TC_move 3 := ⟨⟨(tb1 1 (by decide +kernel) rfl), (tb4 109 (by decide +kernel) rfl), ⟨by decide +kernel, by decide +kernel, by decide +kernel⟩, by decide +kernel⟩, (tb4 107 (by decide +kernel) rfl), (tb4 108 (by decide +kernel) rfl)⟩
def Y_Camping_becomeMoved : am_Y := (⟨"TwoCamps$Camping", "becomeMoved", "(LTwoCamps$Camping;II)V"⟩, prog_3_method_3_code, 5, none)
theorem yv_Camping_becomeMoved : am_yV Y_Camping_becomeMoved 3 := ⟨⟨(tb1 10 (by decide +kernel) rfl), (tb4 113 (by decide +kernel) rfl), ⟨by decide +kernel, by decide +kernel, by decide +kernel⟩, by decide +kernel⟩, (tb4 111 (by decide +kernel) rfl), (tb4 112 (by decide +kernel) rfl)⟩
def Y_TC_same : am_Y := (⟨"TwoCamps", "same", "(II)I"⟩, prog_1_method_16_code, 4, some .int)
theorem yv_TC_same : am_yV Y_TC_same 2 := ⟨⟨(tb1 1 (by decide +kernel) rfl), (tb4 117 (by decide +kernel) rfl), ⟨by decide +kernel, by decide +kernel, by decide +kernel⟩, by decide +kernel⟩, (tb4 115 (by decide +kernel) rfl), (tb4 116 (by decide +kernel) rfl)⟩
def Y_TC_isAlikeFor : am_Y := (⟨"TwoCamps", "isAlikeFor", "(ILTwoCamps$Camping;LTwoCamps$Camping;)Z"⟩, prog_1_method_17_code, 7, some .boolean)
theorem yv_TC_isAlikeFor : am_yV Y_TC_isAlikeFor 3 := ⟨⟨(tb1 1 (by decide +kernel) rfl), (tb4 121 (by decide +kernel) rfl), ⟨by decide +kernel, by decide +kernel, by decide +kernel⟩, by decide +kernel⟩, (tb4 120 (by decide +kernel) rfl), (tb_sel (y := ⟨"TwoCamps", "isAlikeFor", "(ILTwoCamps$Camping;LTwoCamps$Camping;)Z"⟩) (n := 16) 30 (by decide +kernel))⟩
def Y_TC_peace : am_Y := (⟨"TwoCamps", "peace", "()I"⟩, prog_1_method_23_code, 1, some .int)
theorem yv_TC_peace : am_yV Y_TC_peace 0 := ⟨⟨(tb1 1 (by decide +kernel) rfl), (tb4 126 (by decide +kernel) rfl), ⟨by decide +kernel, by decide +kernel, by decide +kernel⟩, by decide +kernel⟩, (tb4 124 (by decide +kernel) rfl), (tb4 125 (by decide +kernel) rfl)⟩
def Y_Net_peaceWithout : am_Y := (⟨"TwoCamps$Net", "peaceWithout", "(I)I"⟩, prog_6_method_5_code, 5, some .int)
theorem yv_Net_peaceWithout : am_yV Y_Net_peaceWithout 1 := ⟨⟨(tb1 11 (by decide +kernel) rfl), (tb4 130 (by decide +kernel) rfl), ⟨by decide +kernel, by decide +kernel, by decide +kernel⟩, by decide +kernel⟩, (tb4 128 (by decide +kernel) rfl), (tb4 129 (by decide +kernel) rfl)⟩
def Y_Net_forcedBy : am_Y := (⟨"TwoCamps$Net", "forcedBy", "(II)I"⟩, prog_6_method_6_code, 10, some .int)
theorem yv_Net_forcedBy : am_yV Y_Net_forcedBy 2 := ⟨⟨(tb1 11 (by decide +kernel) rfl), (tb4 134 (by decide +kernel) rfl), ⟨by decide +kernel, by decide +kernel, by decide +kernel⟩, by decide +kernel⟩, (tb4 133 (by decide +kernel) rfl), (tb_sel (y := ⟨"TwoCamps$Net", "forcedBy", "(II)I"⟩) (n := 8) 31 (by decide +kernel))⟩
def Y_Feelings_bitsOf : am_Y := (⟨"TwoCamps$Feelings", "bitsOf", "(I)I"⟩, prog_4_method_6_code, 2, some .int)
theorem yv_Feelings_bitsOf : am_yV Y_Feelings_bitsOf 1 := ⟨⟨(tb1 3 (by decide +kernel) rfl), (tb4 138 (by decide +kernel) rfl), ⟨by decide +kernel, by decide +kernel, by decide +kernel⟩, by decide +kernel⟩, (tb4 136 (by decide +kernel) rfl), (tb4 137 (by decide +kernel) rfl)⟩
def Y_Int_bitCount : am_Y := (⟨"java/lang/Integer", "bitCount", "(I)I"⟩, prog_15_method_49_code, 1, some .int)
theorem ys_Int_bitCount : am_yS Y_Int_bitCount 1 := ⟨⟨(tb1 21 (by decide +kernel) rfl), (tb4 141 (by decide +kernel) rfl), ⟨by decide +kernel, by decide +kernel, by decide +kernel⟩, by decide +kernel⟩, (tb4 140 (by decide +kernel) rfl)⟩
def Y_Feelings_isWrongIn : am_Y := (⟨"TwoCamps$Feelings", "isWrongIn", "(II)Z"⟩, prog_4_method_8_code, 3, some .boolean)
theorem yv_Feelings_isWrongIn : am_yV Y_Feelings_isWrongIn 2 := ⟨⟨(tb1 3 (by decide +kernel) rfl), (tb4 148 (by decide +kernel) rfl), ⟨by decide +kernel, by decide +kernel, by decide +kernel⟩, by decide +kernel⟩, (tb4 146 (by decide +kernel) rfl), (tb4 147 (by decide +kernel) rfl)⟩
def Y_TC_isTogether : am_Y := (⟨"TwoCamps", "isTogether", "(III)Z"⟩, prog_1_method_44_code, 3, some .boolean)
theorem ys_TC_isTogether : am_yS Y_TC_isTogether 3 := ⟨⟨(tb1 1 (by decide +kernel) rfl), (tb4 151 (by decide +kernel) rfl), ⟨by decide +kernel, by decide +kernel, by decide +kernel⟩, by decide +kernel⟩, (tb4 150 (by decide +kernel) rfl)⟩
def Y_Net_reach : am_Y := (⟨"TwoCamps$Net", "reach", "(II)I"⟩, prog_6_method_4_code, 8, some .int)
theorem yv_Net_reach : am_yV Y_Net_reach 2 := ⟨⟨(tb1 11 (by decide +kernel) rfl), (tb4 156 (by decide +kernel) rfl), ⟨by decide +kernel, by decide +kernel, by decide +kernel⟩, by decide +kernel⟩, (tb4 155 (by decide +kernel) rfl), (tb_sel (y := ⟨"TwoCamps$Net", "reach", "(II)I"⟩) (n := 8) 32 (by decide +kernel))⟩
def Y_TC_ring : am_Y := (⟨"TwoCamps", "ring", "(I)I"⟩, prog_1_method_24_code, 2, some .int)
theorem yv_TC_ring : am_yV Y_TC_ring 1 := ⟨⟨(tb1 1 (by decide +kernel) rfl), (tb4 160 (by decide +kernel) rfl), ⟨by decide +kernel, by decide +kernel, by decide +kernel⟩, by decide +kernel⟩, (tb4 158 (by decide +kernel) rfl), (tb4 159 (by decide +kernel) rfl)⟩
def Y_Net_searchRing : am_Y := (⟨"TwoCamps$Net", "searchRing", "()V"⟩, prog_6_method_7_code, 2, none)
theorem yv_Net_searchRing : am_yV Y_Net_searchRing 0 := ⟨⟨(tb1 11 (by decide +kernel) rfl), (tb4 164 (by decide +kernel) rfl), ⟨by decide +kernel, by decide +kernel, by decide +kernel⟩, by decide +kernel⟩, (tb4 162 (by decide +kernel) rfl), (tb4 163 (by decide +kernel) rfl)⟩
def Y_Net_walk : am_Y := (⟨"TwoCamps$Net", "walk", "(I)V"⟩, prog_6_method_8_code, 3, none)
theorem yv_Net_walk : am_yV Y_Net_walk 1 := ⟨⟨(tb1 11 (by decide +kernel) rfl), (tb4 168 (by decide +kernel) rfl), ⟨by decide +kernel, by decide +kernel, by decide +kernel⟩, by decide +kernel⟩, (tb4 167 (by decide +kernel) rfl), (tb_sel (y := ⟨"TwoCamps$Net", "walk", "(I)V"⟩) (n := 8) 33 (by decide +kernel))⟩
def Y_Net_arrive : am_Y := (⟨"TwoCamps$Net", "arrive", "(III)V"⟩, prog_6_method_10_code, 4, none)
theorem yv_Net_arrive : am_yV Y_Net_arrive 3 := ⟨⟨(tb1 11 (by decide +kernel) rfl), (tb4 173 (by decide +kernel) rfl), ⟨by decide +kernel, by decide +kernel, by decide +kernel⟩, by decide +kernel⟩, (tb4 172 (by decide +kernel) rfl), (tb_sel (y := ⟨"TwoCamps$Net", "arrive", "(III)V"⟩) (n := 8) 34 (by decide +kernel))⟩
def Y_Net_leave : am_Y := (⟨"TwoCamps$Net", "leave", "(I)V"⟩, prog_6_method_9_code, 6, none)
theorem yv_Net_leave : am_yV Y_Net_leave 1 := ⟨⟨(tb1 11 (by decide +kernel) rfl), (tb4 177 (by decide +kernel) rfl), ⟨by decide +kernel, by decide +kernel, by decide +kernel⟩, by decide +kernel⟩, (tb4 176 (by decide +kernel) rfl), (tb_sel (y := ⟨"TwoCamps$Net", "leave", "(I)V"⟩) (n := 8) 35 (by decide +kernel))⟩
def Y_Net_keepIfShorter : am_Y := (⟨"TwoCamps$Net", "keepIfShorter", "(I)V"⟩, prog_6_method_11_code, 5, none)
theorem yv_Net_keepIfShorter : am_yV Y_Net_keepIfShorter 1 := ⟨⟨(tb1 11 (by decide +kernel) rfl), (tb4 182 (by decide +kernel) rfl), ⟨by decide +kernel, by decide +kernel, by decide +kernel⟩, by decide +kernel⟩, (tb4 181 (by decide +kernel) rfl), (tb_sel (y := ⟨"TwoCamps$Net", "keepIfShorter", "(I)V"⟩) (n := 8) 36 (by decide +kernel))⟩
def Y_TC_least : am_Y := (⟨"TwoCamps", "least", "()I"⟩, prog_1_method_25_code, 1, some .int)
theorem yv_TC_least : am_yV Y_TC_least 0 := ⟨⟨(tb1 1 (by decide +kernel) rfl), (tb4 186 (by decide +kernel) rfl), ⟨by decide +kernel, by decide +kernel, by decide +kernel⟩, by decide +kernel⟩, (tb4 184 (by decide +kernel) rfl), (tb4 185 (by decide +kernel) rfl)⟩
def Y_Best_search : am_Y := (⟨"TwoCamps$Best", "search", "()V"⟩, prog_2_method_2_code, 3, none)
theorem yv_Best_search : am_yV Y_Best_search 0 := ⟨⟨(tb1 12 (by decide +kernel) rfl), (tb4 190 (by decide +kernel) rfl), ⟨by decide +kernel, by decide +kernel, by decide +kernel⟩, by decide +kernel⟩, (tb4 188 (by decide +kernel) rfl), (tb4 189 (by decide +kernel) rfl)⟩
def Y_Best_pastCampings : am_Y := (⟨"TwoCamps$Best", "pastCampings", "()I"⟩, prog_2_method_3_code, 1, some .int)
theorem yv_Best_pastCampings : am_yV Y_Best_pastCampings 0 := ⟨⟨(tb1 12 (by decide +kernel) rfl), (tb4 195 (by decide +kernel) rfl), ⟨by decide +kernel, by decide +kernel, by decide +kernel⟩, by decide +kernel⟩, (tb4 194 (by decide +kernel) rfl), (tb_sel (y := ⟨"TwoCamps$Best", "pastCampings", "()I"⟩) (n := 9) 37 (by decide +kernel))⟩
def Y_Best_sumOf : am_Y := (⟨"TwoCamps$Best", "sumOf", "(I)I"⟩, prog_2_method_4_code, 4, some .int)
theorem yv_Best_sumOf : am_yV Y_Best_sumOf 1 := ⟨⟨(tb1 12 (by decide +kernel) rfl), (tb4 199 (by decide +kernel) rfl), ⟨by decide +kernel, by decide +kernel, by decide +kernel⟩, by decide +kernel⟩, (tb4 198 (by decide +kernel) rfl), (tb_sel (y := ⟨"TwoCamps$Best", "sumOf", "(I)I"⟩) (n := 9) 38 (by decide +kernel))⟩
def Y_TC_all : am_Y := (⟨"TwoCamps", "all", "(I)I"⟩, prog_1_method_26_code, 2, some .int)
theorem yv_TC_all : am_yV Y_TC_all 1 := ⟨⟨(tb1 1 (by decide +kernel) rfl), (tb4 204 (by decide +kernel) rfl), ⟨by decide +kernel, by decide +kernel, by decide +kernel⟩, by decide +kernel⟩, (tb4 202 (by decide +kernel) rfl), (tb4 203 (by decide +kernel) rfl)⟩
def Y_TC_together : am_Y := (⟨"TwoCamps", "together", "(II)I"⟩, prog_1_method_27_code, 4, some .int)
theorem yv_TC_together : am_yV Y_TC_together 2 := ⟨⟨(tb1 1 (by decide +kernel) rfl), (tb4 208 (by decide +kernel) rfl), ⟨by decide +kernel, by decide +kernel, by decide +kernel⟩, by decide +kernel⟩, (tb4 206 (by decide +kernel) rfl), (tb4 207 (by decide +kernel) rfl)⟩
def Y_Best_timesTogether : am_Y := (⟨"TwoCamps$Best", "timesTogether", "(II)I"⟩, prog_2_method_5_code, 5, some .int)
theorem yv_Best_timesTogether : am_yV Y_Best_timesTogether 2 := ⟨⟨(tb1 12 (by decide +kernel) rfl), (tb4 212 (by decide +kernel) rfl), ⟨by decide +kernel, by decide +kernel, by decide +kernel⟩, by decide +kernel⟩, (tb4 210 (by decide +kernel) rfl), (tb4 211 (by decide +kernel) rfl)⟩
def Y_TC_aside : am_Y := (⟨"TwoCamps", "aside", "()I"⟩, prog_1_method_28_code, 4, some .int)
theorem yv_TC_aside : am_yV Y_TC_aside 0 := ⟨⟨(tb1 1 (by decide +kernel) rfl), (tb4 217 (by decide +kernel) rfl), ⟨by decide +kernel, by decide +kernel, by decide +kernel⟩, by decide +kernel⟩, (tb4 215 (by decide +kernel) rfl), (tb4 216 (by decide +kernel) rfl)⟩
def Y_People_isCheaper : am_Y := (⟨"TwoCamps$People", "isCheaper", "(II)Z"⟩, prog_7_method_5_code, 4, some .boolean)
theorem yv_People_isCheaper : am_yV Y_People_isCheaper 2 := ⟨⟨(tb1 2 (by decide +kernel) rfl), (tb4 221 (by decide +kernel) rfl), ⟨by decide +kernel, by decide +kernel, by decide +kernel⟩, by decide +kernel⟩, (tb4 219 (by decide +kernel) rfl), (tb4 220 (by decide +kernel) rfl)⟩
def Y_People_priceOf : am_Y := (⟨"TwoCamps$People", "priceOf", "(I)I"⟩, prog_7_method_6_code, 4, some .int)
theorem yv_People_priceOf : am_yV Y_People_priceOf 1 := ⟨⟨(tb1 2 (by decide +kernel) rfl), (tb4 226 (by decide +kernel) rfl), ⟨by decide +kernel, by decide +kernel, by decide +kernel⟩, by decide +kernel⟩, (tb4 225 (by decide +kernel) rfl), (tb_sel (y := ⟨"TwoCamps$People", "priceOf", "(I)I"⟩) (n := 3) 39 (by decide +kernel))⟩
def Y_TC_many : am_Y := (⟨"TwoCamps", "many", "(I)I"⟩, prog_1_method_29_code, 2, some .int)
theorem yv_TC_many : am_yV Y_TC_many 1 := ⟨⟨(tb1 1 (by decide +kernel) rfl), (tb4 230 (by decide +kernel) rfl), ⟨by decide +kernel, by decide +kernel, by decide +kernel⟩, by decide +kernel⟩, (tb4 228 (by decide +kernel) rfl), (tb4 229 (by decide +kernel) rfl)⟩
def Y_Best_leastSumIn : am_Y := (⟨"TwoCamps$Best", "leastSumIn", "(I)I"⟩, prog_2_method_10_code, 2, some .int)
theorem yv_Best_leastSumIn : am_yV Y_Best_leastSumIn 1 := ⟨⟨(tb1 12 (by decide +kernel) rfl), (tb4 234 (by decide +kernel) rfl), ⟨by decide +kernel, by decide +kernel, by decide +kernel⟩, by decide +kernel⟩, (tb4 232 (by decide +kernel) rfl), (tb4 233 (by decide +kernel) rfl)⟩
def Y_Best_spread : am_Y := (⟨"TwoCamps$Best", "spread", "(III)V"⟩, prog_2_method_11_code, 5, none)
theorem yv_Best_spread : am_yV Y_Best_spread 3 := ⟨⟨(tb1 12 (by decide +kernel) rfl), (tb4 238 (by decide +kernel) rfl), ⟨by decide +kernel, by decide +kernel, by decide +kernel⟩, by decide +kernel⟩, (tb4 237 (by decide +kernel) rfl), (tb_sel (y := ⟨"TwoCamps$Best", "spread", "(III)V"⟩) (n := 9) 40 (by decide +kernel))⟩
def Y_Best_putInto : am_Y := (⟨"TwoCamps$Best", "putInto", "(IIII)V"⟩, prog_2_method_12_code, 6, none)
theorem yv_Best_putInto : am_yV Y_Best_putInto 4 := ⟨⟨(tb1 12 (by decide +kernel) rfl), (tb5 2 (by decide +kernel) rfl), ⟨by decide +kernel, by decide +kernel, by decide +kernel⟩, by decide +kernel⟩, (tb5 1 (by decide +kernel) rfl), (tb_sel (y := ⟨"TwoCamps$Best", "putInto", "(IIII)V"⟩) (n := 9) 41 (by decide +kernel))⟩
def Y_Best_costOfLast : am_Y := (⟨"TwoCamps$Best", "costOfLast", "(I)I"⟩, prog_2_method_13_code, 5, some .int)
theorem yv_Best_costOfLast : am_yV Y_Best_costOfLast 1 := ⟨⟨(tb1 12 (by decide +kernel) rfl), (tb5 6 (by decide +kernel) rfl), ⟨by decide +kernel, by decide +kernel, by decide +kernel⟩, by decide +kernel⟩, (tb5 5 (by decide +kernel) rfl), (tb_sel (y := ⟨"TwoCamps$Best", "costOfLast", "(I)I"⟩) (n := 9) 42 (by decide +kernel))⟩
def Y_TC_part : am_Y := (⟨"TwoCamps", "part", "(I)I"⟩, prog_1_method_30_code, 2, some .int)
theorem yv_TC_part : am_yV Y_TC_part 1 := ⟨⟨(tb1 1 (by decide +kernel) rfl), (tb5 13 (by decide +kernel) rfl), ⟨by decide +kernel, by decide +kernel, by decide +kernel⟩, by decide +kernel⟩, (tb5 11 (by decide +kernel) rfl), (tb5 12 (by decide +kernel) rfl)⟩
def Y_Net_leastOf : am_Y := (⟨"TwoCamps$Net", "leastOf", "(I)I"⟩, prog_6_method_2_code, 5, some .int)
theorem yv_Net_leastOf : am_yV Y_Net_leastOf 1 := ⟨⟨(tb1 11 (by decide +kernel) rfl), (tb5 17 (by decide +kernel) rfl), ⟨by decide +kernel, by decide +kernel, by decide +kernel⟩, by decide +kernel⟩, (tb5 15 (by decide +kernel) rfl), (tb5 16 (by decide +kernel) rfl)⟩
def Y_TC_doors : am_Y := (⟨"TwoCamps", "doors", "()I"⟩, prog_1_method_31_code, 4, some .int)
theorem yv_TC_doors : am_yV Y_TC_doors 0 := ⟨⟨(tb1 1 (by decide +kernel) rfl), (tb5 21 (by decide +kernel) rfl), ⟨by decide +kernel, by decide +kernel, by decide +kernel⟩, by decide +kernel⟩, (tb5 19 (by decide +kernel) rfl), (tb5 20 (by decide +kernel) rfl)⟩
def Y_Net_countWithout : am_Y := (⟨"TwoCamps$Net", "countWithout", "(I)I"⟩, prog_6_method_3_code, 5, some .int)
theorem yv_Net_countWithout : am_yV Y_Net_countWithout 1 := ⟨⟨(tb1 11 (by decide +kernel) rfl), (tb5 25 (by decide +kernel) rfl), ⟨by decide +kernel, by decide +kernel, by decide +kernel⟩, by decide +kernel⟩, (tb5 23 (by decide +kernel) rfl), (tb5 24 (by decide +kernel) rfl)⟩
def Y_TC_threes : am_Y := (⟨"TwoCamps", "threes", "()I"⟩, prog_1_method_32_code, 3, some .int)
theorem yv_TC_threes : am_yV Y_TC_threes 0 := ⟨⟨(tb1 1 (by decide +kernel) rfl), (tb5 29 (by decide +kernel) rfl), ⟨by decide +kernel, by decide +kernel, by decide +kernel⟩, by decide +kernel⟩, (tb5 27 (by decide +kernel) rfl), (tb5 28 (by decide +kernel) rfl)⟩
def Y_TC_step : am_Y := (⟨"TwoCamps", "step", "(I)I"⟩, prog_1_method_33_code, 2, some .int)
theorem yv_TC_step : am_yV Y_TC_step 1 := ⟨⟨(tb1 1 (by decide +kernel) rfl), (tb5 33 (by decide +kernel) rfl), ⟨by decide +kernel, by decide +kernel, by decide +kernel⟩, by decide +kernel⟩, (tb5 31 (by decide +kernel) rfl), (tb5 32 (by decide +kernel) rfl)⟩
def Y_TC_turnWorst : am_Y := (⟨"TwoCamps", "turnWorst", "(I)I"⟩, prog_1_method_36_code, 6, some .int)
theorem yv_TC_turnWorst : am_yV Y_TC_turnWorst 1 := ⟨⟨(tb1 1 (by decide +kernel) rfl), (tb5 37 (by decide +kernel) rfl), ⟨by decide +kernel, by decide +kernel, by decide +kernel⟩, by decide +kernel⟩, (tb5 36 (by decide +kernel) rfl), (tb_sel (y := ⟨"TwoCamps", "turnWorst", "(I)I"⟩) (n := 16) 43 (by decide +kernel))⟩
def Y_Feelings_isOf : am_Y := (⟨"TwoCamps$Feelings", "isOf", "(II)Z"⟩, prog_4_method_5_code, 3, some .boolean)
theorem yv_Feelings_isOf : am_yV Y_Feelings_isOf 2 := ⟨⟨(tb1 3 (by decide +kernel) rfl), (tb5 41 (by decide +kernel) rfl), ⟨by decide +kernel, by decide +kernel, by decide +kernel⟩, by decide +kernel⟩, (tb5 39 (by decide +kernel) rfl), (tb5 40 (by decide +kernel) rfl)⟩
def Y_TC_ends : am_Y := (⟨"TwoCamps", "ends", "(I)I"⟩, prog_1_method_34_code, 4, some .int)
theorem yv_TC_ends : am_yV Y_TC_ends 1 := ⟨⟨(tb1 1 (by decide +kernel) rfl), (tb5 45 (by decide +kernel) rfl), ⟨by decide +kernel, by decide +kernel, by decide +kernel⟩, by decide +kernel⟩, (tb5 43 (by decide +kernel) rfl), (tb5 44 (by decide +kernel) rfl)⟩
def Y_Feelings_keepSigns : am_Y := (⟨"TwoCamps$Feelings", "keepSigns", "()V"⟩, prog_4_method_11_code, 1, none)
theorem yv_Feelings_keepSigns : am_yV Y_Feelings_keepSigns 0 := ⟨⟨(tb1 3 (by decide +kernel) rfl), (tb5 49 (by decide +kernel) rfl), ⟨by decide +kernel, by decide +kernel, by decide +kernel⟩, by decide +kernel⟩, (tb5 47 (by decide +kernel) rfl), (tb5 48 (by decide +kernel) rfl)⟩
def Y_TC_turnAll : am_Y := (⟨"TwoCamps", "turnAll", "()Z"⟩, prog_1_method_35_code, 3, some .boolean)
theorem yv_TC_turnAll : am_yV Y_TC_turnAll 0 := ⟨⟨(tb1 1 (by decide +kernel) rfl), (tb5 54 (by decide +kernel) rfl), ⟨by decide +kernel, by decide +kernel, by decide +kernel⟩, by decide +kernel⟩, (tb5 53 (by decide +kernel) rfl), (tb_sel (y := ⟨"TwoCamps", "turnAll", "()Z"⟩) (n := 16) 44 (by decide +kernel))⟩
def Y_Feelings_restoreSigns : am_Y := (⟨"TwoCamps$Feelings", "restoreSigns", "()V"⟩, prog_4_method_12_code, 1, none)
theorem yv_Feelings_restoreSigns : am_yV Y_Feelings_restoreSigns 0 := ⟨⟨(tb1 3 (by decide +kernel) rfl), (tb5 58 (by decide +kernel) rfl), ⟨by decide +kernel, by decide +kernel, by decide +kernel⟩, by decide +kernel⟩, (tb5 56 (by decide +kernel) rfl), (tb5 57 (by decide +kernel) rfl)⟩
def Y_TC_meet : am_Y := (⟨"TwoCamps", "meet", "(III)J"⟩, prog_1_method_37_code, 6, some .long)
theorem yv_TC_meet : am_yV Y_TC_meet 3 := ⟨⟨(tb1 1 (by decide +kernel) rfl), (tb5 62 (by decide +kernel) rfl), ⟨by decide +kernel, by decide +kernel, by decide +kernel⟩, by decide +kernel⟩, (tb5 60 (by decide +kernel) rfl), (tb5 61 (by decide +kernel) rfl)⟩
def Y_TC_commonDivisor : am_Y := (⟨"TwoCamps", "commonDivisor", "(II)I"⟩, prog_1_method_43_code, 6, some .int)
theorem ys_TC_commonDivisor : am_yS Y_TC_commonDivisor 2 := ⟨⟨(tb1 1 (by decide +kernel) rfl), (tb5 65 (by decide +kernel) rfl), ⟨by decide +kernel, by decide +kernel, by decide +kernel⟩, by decide +kernel⟩, (tb5 64 (by decide +kernel) rfl)⟩
def Y_TC_edge : am_Y := (⟨"TwoCamps", "edge", "(I)J"⟩, prog_1_method_38_code, 2, some .long)
theorem yv_TC_edge : am_yV Y_TC_edge 1 := ⟨⟨(tb1 1 (by decide +kernel) rfl), (tb5 69 (by decide +kernel) rfl), ⟨by decide +kernel, by decide +kernel, by decide +kernel⟩, by decide +kernel⟩, (tb5 67 (by decide +kernel) rfl), (tb5 68 (by decide +kernel) rfl)⟩
def Y_Best_edgeOf : am_Y := (⟨"TwoCamps$Best", "edgeOf", "(I)I"⟩, prog_2_method_6_code, 4, some .int)
theorem yv_Best_edgeOf : am_yV Y_Best_edgeOf 1 := ⟨⟨(tb1 12 (by decide +kernel) rfl), (tb5 73 (by decide +kernel) rfl), ⟨by decide +kernel, by decide +kernel, by decide +kernel⟩, by decide +kernel⟩, (tb5 71 (by decide +kernel) rfl), (tb5 72 (by decide +kernel) rfl)⟩
def Y_Best_leastSumWith : am_Y := (⟨"TwoCamps$Best", "leastSumWith", "(IZ)I"⟩, prog_2_method_7_code, 6, some .int)
theorem yv_Best_leastSumWith : am_yV Y_Best_leastSumWith 2 := ⟨⟨(tb1 12 (by decide +kernel) rfl), (tb5 77 (by decide +kernel) rfl), ⟨by decide +kernel, by decide +kernel, by decide +kernel⟩, by decide +kernel⟩, (tb5 76 (by decide +kernel) rfl), (tb_sel (y := ⟨"TwoCamps$Best", "leastSumWith", "(IZ)I"⟩) (n := 9) 45 (by decide +kernel))⟩
def Y_TC_bring : am_Y := (⟨"TwoCamps", "bring", "(II)I"⟩, prog_1_method_39_code, 3, some .int)
theorem yv_TC_bring : am_yV Y_TC_bring 2 := ⟨⟨(tb1 1 (by decide +kernel) rfl), (tb5 82 (by decide +kernel) rfl), ⟨by decide +kernel, by decide +kernel, by decide +kernel⟩, by decide +kernel⟩, (tb5 80 (by decide +kernel) rfl), (tb5 81 (by decide +kernel) rfl)⟩
def Y_Best_fewestToTell : am_Y := (⟨"TwoCamps$Best", "fewestToTell", "(II)I"⟩, prog_2_method_8_code, 7, some .int)
theorem yv_Best_fewestToTell : am_yV Y_Best_fewestToTell 2 := ⟨⟨(tb1 12 (by decide +kernel) rfl), (tb5 87 (by decide +kernel) rfl), ⟨by decide +kernel, by decide +kernel, by decide +kernel⟩, by decide +kernel⟩, (tb5 85 (by decide +kernel) rfl), (tb5 86 (by decide +kernel) rfl)⟩
def Y_Best_isEnough : am_Y := (⟨"TwoCamps$Best", "isEnough", "(III)Z"⟩, prog_2_method_9_code, 5, some .boolean)
theorem yv_Best_isEnough : am_yV Y_Best_isEnough 3 := ⟨⟨(tb1 12 (by decide +kernel) rfl), (tb5 92 (by decide +kernel) rfl), ⟨by decide +kernel, by decide +kernel, by decide +kernel⟩, by decide +kernel⟩, (tb5 91 (by decide +kernel) rfl), (tb_sel (y := ⟨"TwoCamps$Best", "isEnough", "(III)Z"⟩) (n := 9) 46 (by decide +kernel))⟩
def Y_TC_image : am_Y := (⟨"TwoCamps", "image", "()I"⟩, prog_1_method_40_code, 1, some .int)
theorem yv_TC_image : am_yV Y_TC_image 0 := ⟨⟨(tb1 1 (by decide +kernel) rfl), (tb5 96 (by decide +kernel) rfl), ⟨by decide +kernel, by decide +kernel, by decide +kernel⟩, by decide +kernel⟩, (tb5 94 (by decide +kernel) rfl), (tb5 95 (by decide +kernel) rfl)⟩
def Y_People_become : am_Y := (⟨"TwoCamps$People", "become", "(LTwoCamps$People;)V"⟩, prog_7_method_7_code, 2, none)
theorem yv_People_become : am_yV Y_People_become 1 := ⟨⟨(tb1 2 (by decide +kernel) rfl), (tb5 100 (by decide +kernel) rfl), ⟨by decide +kernel, by decide +kernel, by decide +kernel⟩, by decide +kernel⟩, (tb5 98 (by decide +kernel) rfl), (tb5 99 (by decide +kernel) rfl)⟩
def Y_People_takeBack : am_Y := (⟨"TwoCamps$People", "takeBack", "(LTwoCamps$People;)V"⟩, prog_7_method_8_code, 2, none)
theorem yv_People_takeBack : am_yV Y_People_takeBack 1 := ⟨⟨(tb1 2 (by decide +kernel) rfl), (tb5 104 (by decide +kernel) rfl), ⟨by decide +kernel, by decide +kernel, by decide +kernel⟩, by decide +kernel⟩, (tb5 102 (by decide +kernel) rfl), (tb5 103 (by decide +kernel) rfl)⟩
def Y_Feelings_become : am_Y := (⟨"TwoCamps$Feelings", "become", "(LTwoCamps$Feelings;)V"⟩, prog_4_method_13_code, 2, none)
theorem yv_Feelings_become : am_yV Y_Feelings_become 1 := ⟨⟨(tb1 3 (by decide +kernel) rfl), (tb5 109 (by decide +kernel) rfl), ⟨by decide +kernel, by decide +kernel, by decide +kernel⟩, by decide +kernel⟩, (tb5 107 (by decide +kernel) rfl), (tb5 108 (by decide +kernel) rfl)⟩
def Y_TC_back : am_Y := (⟨"TwoCamps", "back", "()I"⟩, prog_1_method_41_code, 1, some .int)
theorem yv_TC_back : am_yV Y_TC_back 0 := ⟨⟨(tb1 1 (by decide +kernel) rfl), (tb5 113 (by decide +kernel) rfl), ⟨by decide +kernel, by decide +kernel, by decide +kernel⟩, by decide +kernel⟩, (tb5 111 (by decide +kernel) rfl), (tb5 112 (by decide +kernel) rfl)⟩
def Y_TC_count : am_Y := (⟨"TwoCamps", "count", "(I)I"⟩, prog_1_method_42_code, 2, some .int)
theorem yv_TC_count : am_yV Y_TC_count 1 := ⟨⟨(tb1 1 (by decide +kernel) rfl), (tb5 118 (by decide +kernel) rfl), ⟨by decide +kernel, by decide +kernel, by decide +kernel⟩, by decide +kernel⟩, (tb5 116 (by decide +kernel) rfl), (tb5 117 (by decide +kernel) rfl)⟩
def Y_Feelings_hatreds : am_Y := (⟨"TwoCamps$Feelings", "hatreds", "()I"⟩, prog_4_method_10_code, 3, some .int)
theorem yv_Feelings_hatreds : am_yV Y_Feelings_hatreds 0 := ⟨⟨(tb1 3 (by decide +kernel) rfl), (tb5 122 (by decide +kernel) rfl), ⟨by decide +kernel, by decide +kernel, by decide +kernel⟩, by decide +kernel⟩, (tb5 120 (by decide +kernel) rfl), (tb5 121 (by decide +kernel) rfl)⟩
def Y_TC_sheet : am_Y := (⟨"TwoCamps", "sheet", "(III)I"⟩, prog_1_method_45_code, 4, some .int)
theorem yv_TC_sheet : am_yV Y_TC_sheet 3 := ⟨⟨(tb1 1 (by decide +kernel) rfl), (tb5 126 (by decide +kernel) rfl), ⟨by decide +kernel, by decide +kernel, by decide +kernel⟩, by decide +kernel⟩, (tb5 124 (by decide +kernel) rfl), (tb5 125 (by decide +kernel) rfl)⟩
def Y_Sheet_become : am_Y := (⟨"TwoCamps$Sheet", "become", "(II)V"⟩, prog_8_method_3_code, 3, none)
theorem yv_Sheet_become : am_yV Y_Sheet_become 2 := ⟨⟨(tb1 13 (by decide +kernel) rfl), (tb5 130 (by decide +kernel) rfl), ⟨by decide +kernel, by decide +kernel, by decide +kernel⟩, by decide +kernel⟩, (tb5 128 (by decide +kernel) rfl), (tb5 129 (by decide +kernel) rfl)⟩
def Y_TC_cell : am_Y := (⟨"TwoCamps", "cell", "(III)I"⟩, prog_1_method_46_code, 4, some .int)
theorem yv_TC_cell : am_yV Y_TC_cell 3 := ⟨⟨(tb1 1 (by decide +kernel) rfl), (tb5 135 (by decide +kernel) rfl), ⟨by decide +kernel, by decide +kernel, by decide +kernel⟩, by decide +kernel⟩, (tb5 133 (by decide +kernel) rfl), (tb5 134 (by decide +kernel) rfl)⟩
def Y_Sheet_holds : am_Y := (⟨"TwoCamps$Sheet", "holds", "(II)Z"⟩, prog_8_method_4_code, 3, some .boolean)
theorem yv_Sheet_holds : am_yV Y_Sheet_holds 2 := ⟨⟨(tb1 13 (by decide +kernel) rfl), (tb5 139 (by decide +kernel) rfl), ⟨by decide +kernel, by decide +kernel, by decide +kernel⟩, by decide +kernel⟩, (tb5 137 (by decide +kernel) rfl), (tb5 138 (by decide +kernel) rfl)⟩
def Y_Sheet_put : am_Y := (⟨"TwoCamps$Sheet", "put", "(II)V"⟩, prog_8_method_5_code, 3, none)
theorem yv_Sheet_put : am_yV Y_Sheet_put 2 := ⟨⟨(tb1 13 (by decide +kernel) rfl), (tb5 143 (by decide +kernel) rfl), ⟨by decide +kernel, by decide +kernel, by decide +kernel⟩, by decide +kernel⟩, (tb5 141 (by decide +kernel) rfl), (tb5 142 (by decide +kernel) rfl)⟩
def Y_TC_copy : am_Y := (⟨"TwoCamps", "copy", "(IIIII)I"⟩, prog_1_method_47_code, 8, some .int)
theorem yv_TC_copy : am_yV Y_TC_copy 5 := ⟨⟨(tb1 1 (by decide +kernel) rfl), (tb5 147 (by decide +kernel) rfl), ⟨by decide +kernel, by decide +kernel, by decide +kernel⟩, by decide +kernel⟩, (tb5 145 (by decide +kernel) rfl), (tb5 146 (by decide +kernel) rfl)⟩
def Y_TC_feels : am_Y := (⟨"TwoCamps", "feels", "(IIII)I"⟩, prog_1_method_48_code, 10, some .int)
theorem yv_TC_feels : am_yV Y_TC_feels 4 := ⟨⟨(tb1 1 (by decide +kernel) rfl), (tb5 152 (by decide +kernel) rfl), ⟨by decide +kernel, by decide +kernel, by decide +kernel⟩, by decide +kernel⟩, (tb5 150 (by decide +kernel) rfl), (tb5 151 (by decide +kernel) rfl)⟩
def Y_TC_taken : am_Y := (⟨"TwoCamps", "taken", "(II)I"⟩, prog_1_method_49_code, 3, some .int)
theorem yv_TC_taken : am_yV Y_TC_taken 2 := ⟨⟨(tb1 1 (by decide +kernel) rfl), (tb5 157 (by decide +kernel) rfl), ⟨by decide +kernel, by decide +kernel, by decide +kernel⟩, by decide +kernel⟩, (tb5 155 (by decide +kernel) rfl), (tb5 156 (by decide +kernel) rfl)⟩
def Y_MO_init : am_Y := (⟨"TwoCampsModel", "<init>", "()V"⟩, prog_14_method_3_code, 1, none)
def Y_MO_spell : am_Y := (⟨"TwoCampsModel", "spell", "(IJ)V"⟩, prog_14_method_4_code, 5, none)
theorem yv_MO_spell : am_yV Y_MO_spell 2 := ⟨⟨(tb1 14 (by decide +kernel) rfl), (tb5 169 (by decide +kernel) rfl), ⟨by decide +kernel, by decide +kernel, by decide +kernel⟩, by decide +kernel⟩, (tb5 168 (by decide +kernel) rfl), (tb_sel (y := ⟨"TwoCampsModel", "spell", "(IJ)V"⟩) (n := 53) 47 (by decide +kernel))⟩
def Y_MO_person : am_Y := (⟨"TwoCampsModel", "person", "(I)I"⟩, prog_14_method_7_code, 2, some .int)
theorem yv_MO_person : am_yV Y_MO_person 1 := ⟨⟨(tb1 14 (by decide +kernel) rfl), (tb6 96 (by decide +kernel) rfl), ⟨by decide +kernel, by decide +kernel, by decide +kernel⟩, by decide +kernel⟩, (tb6 94 (by decide +kernel) rfl), (tb6 95 (by decide +kernel) rfl)⟩
def Y_MO_in : am_Y := (⟨"TwoCampsModel", "in", "(JJJ)Z"⟩, prog_14_method_2_code, 6, some .boolean)
theorem ys_MO_in : am_yS Y_MO_in 3 := ⟨⟨(tb1 14 (by decide +kernel) rfl), (tb6 100 (by decide +kernel) rfl), ⟨by decide +kernel, by decide +kernel, by decide +kernel⟩, by decide +kernel⟩, (tb6 99 (by decide +kernel) rfl)⟩
def Y_MO_set : am_Y := (⟨"TwoCampsModel", "set", "(III)I"⟩, prog_14_method_8_code, 5, some .int)
theorem yv_MO_set : am_yV Y_MO_set 3 := ⟨⟨(tb1 14 (by decide +kernel) rfl), (tb6 104 (by decide +kernel) rfl), ⟨by decide +kernel, by decide +kernel, by decide +kernel⟩, by decide +kernel⟩, (tb6 102 (by decide +kernel) rfl), (tb6 103 (by decide +kernel) rfl)⟩
def Y_MO_isPerson : am_Y := (⟨"TwoCampsModel", "isPerson", "(I)Z"⟩, prog_14_method_5_code, 2, some .boolean)
theorem yv_MO_isPerson : am_yV Y_MO_isPerson 1 := ⟨⟨(tb1 14 (by decide +kernel) rfl), (tb6 108 (by decide +kernel) rfl), ⟨by decide +kernel, by decide +kernel, by decide +kernel⟩, by decide +kernel⟩, (tb6 107 (by decide +kernel) rfl), (tb_sel (y := ⟨"TwoCampsModel", "isPerson", "(I)Z"⟩) (n := 53) 48 (by decide +kernel))⟩
def Y_MO_feel : am_Y := (⟨"TwoCampsModel", "feel", "(IIIII)I"⟩, prog_14_method_11_code, 6, some .int)
theorem yv_MO_feel : am_yV Y_MO_feel 5 := ⟨⟨(tb1 14 (by decide +kernel) rfl), (tb6 113 (by decide +kernel) rfl), ⟨by decide +kernel, by decide +kernel, by decide +kernel⟩, by decide +kernel⟩, (tb6 111 (by decide +kernel) rfl), (tb6 112 (by decide +kernel) rfl)⟩
def Y_MO_tells : am_Y := (⟨"TwoCampsModel", "tells", "(IIIIII)I"⟩, prog_14_method_10_code, 8, some .int)
theorem yv_MO_tells : am_yV Y_MO_tells 6 := ⟨⟨(tb1 14 (by decide +kernel) rfl), (tb6 118 (by decide +kernel) rfl), ⟨by decide +kernel, by decide +kernel, by decide +kernel⟩, by decide +kernel⟩, (tb6 117 (by decide +kernel) rfl), (tb_sel (y := ⟨"TwoCampsModel", "tells", "(IIIIII)I"⟩) (n := 53) 49 (by decide +kernel))⟩
def Y_MO_of : am_Y := (⟨"TwoCampsModel", "of", "(II)I"⟩, prog_14_method_9_code, 4, some .int)
theorem yv_MO_of : am_yV Y_MO_of 2 := ⟨⟨(tb1 14 (by decide +kernel) rfl), (tb6 122 (by decide +kernel) rfl), ⟨by decide +kernel, by decide +kernel, by decide +kernel⟩, by decide +kernel⟩, (tb6 121 (by decide +kernel) rfl), (tb_sel (y := ⟨"TwoCampsModel", "of", "(II)I"⟩) (n := 53) 50 (by decide +kernel))⟩
def Y_MO_felt : am_Y := (⟨"TwoCampsModel", "felt", "(II)I"⟩, prog_14_method_12_code, 3, some .int)
theorem yv_MO_felt : am_yV Y_MO_felt 2 := ⟨⟨(tb1 14 (by decide +kernel) rfl), (tb6 126 (by decide +kernel) rfl), ⟨by decide +kernel, by decide +kernel, by decide +kernel⟩, by decide +kernel⟩, (tb6 124 (by decide +kernel) rfl), (tb6 125 (by decide +kernel) rfl)⟩
def Y_MO_isFeeling : am_Y := (⟨"TwoCampsModel", "isFeeling", "(I)Z"⟩, prog_14_method_6_code, 2, some .boolean)
theorem yv_MO_isFeeling : am_yV Y_MO_isFeeling 1 := ⟨⟨(tb1 14 (by decide +kernel) rfl), (tb6 130 (by decide +kernel) rfl), ⟨by decide +kernel, by decide +kernel, by decide +kernel⟩, by decide +kernel⟩, (tb6 129 (by decide +kernel) rfl), (tb_sel (y := ⟨"TwoCampsModel", "isFeeling", "(I)Z"⟩) (n := 53) 51 (by decide +kernel))⟩
def Y_MO_costOf : am_Y := (⟨"TwoCampsModel", "costOf", "(I)I"⟩, prog_14_method_30_code, 3, some .int)
theorem yv_MO_costOf : am_yV Y_MO_costOf 1 := ⟨⟨(tb1 14 (by decide +kernel) rfl), (tb6 134 (by decide +kernel) rfl), ⟨by decide +kernel, by decide +kernel, by decide +kernel⟩, by decide +kernel⟩, (tb6 133 (by decide +kernel) rfl), (tb_sel (y := ⟨"TwoCampsModel", "costOf", "(I)I"⟩) (n := 53) 52 (by decide +kernel))⟩
def Y_MO_read : am_Y := (⟨"TwoCampsModel", "read", "(III)I"⟩, prog_14_method_29_code, 6, some .int)
theorem yv_MO_read : am_yV Y_MO_read 3 := ⟨⟨(tb1 14 (by decide +kernel) rfl), (tb6 138 (by decide +kernel) rfl), ⟨by decide +kernel, by decide +kernel, by decide +kernel⟩, by decide +kernel⟩, (tb6 137 (by decide +kernel) rfl), (tb_sel (y := ⟨"TwoCampsModel", "read", "(III)I"⟩) (n := 53) 53 (by decide +kernel))⟩
def Y_MO_next : am_Y := (⟨"TwoCampsModel", "next", "()V"⟩, prog_14_method_16_code, 3, none)
theorem yv_MO_next : am_yV Y_MO_next 0 := ⟨⟨(tb1 14 (by decide +kernel) rfl), (tb6 142 (by decide +kernel) rfl), ⟨by decide +kernel, by decide +kernel, by decide +kernel⟩, by decide +kernel⟩, (tb6 141 (by decide +kernel) rfl), (tb_sel (y := ⟨"TwoCampsModel", "next", "()V"⟩) (n := 53) 54 (by decide +kernel))⟩
def Y_MO_byteAt : am_Y := (⟨"TwoCampsModel", "byteAt", "(I)I"⟩, prog_14_method_15_code, 2, some .int)
theorem yv_MO_byteAt : am_yV Y_MO_byteAt 1 := ⟨⟨(tb1 14 (by decide +kernel) rfl), (tb6 146 (by decide +kernel) rfl), ⟨by decide +kernel, by decide +kernel, by decide +kernel⟩, by decide +kernel⟩, (tb6 145 (by decide +kernel) rfl), (tb_sel (y := ⟨"TwoCampsModel", "byteAt", "(I)I"⟩) (n := 53) 55 (by decide +kernel))⟩
def Y_MO_part : am_Y := (⟨"TwoCampsModel", "part", "(J)I"⟩, prog_14_method_28_code, 4, some .int)
theorem yv_MO_part : am_yV Y_MO_part 1 := ⟨⟨(tb1 14 (by decide +kernel) rfl), (tb6 158 (by decide +kernel) rfl), ⟨by decide +kernel, by decide +kernel, by decide +kernel⟩, by decide +kernel⟩, (tb6 157 (by decide +kernel) rfl), (tb_sel (y := ⟨"TwoCampsModel", "part", "(J)I"⟩) (n := 53) 56 (by decide +kernel))⟩
def Y_MO_isWord : am_Y := (⟨"TwoCampsModel", "isWord", "(J)Z"⟩, prog_14_method_18_code, 3, some .boolean)
theorem yv_MO_isWord : am_yV Y_MO_isWord 1 := ⟨⟨(tb1 14 (by decide +kernel) rfl), (tb6 162 (by decide +kernel) rfl), ⟨by decide +kernel, by decide +kernel, by decide +kernel⟩, by decide +kernel⟩, (tb6 161 (by decide +kernel) rfl), (tb_sel (y := ⟨"TwoCampsModel", "isWord", "(J)Z"⟩) (n := 53) 57 (by decide +kernel))⟩
def Y_MO_fail : am_Y := (⟨"TwoCampsModel", "fail", "()V"⟩, prog_14_method_17_code, 1, none)
theorem yv_MO_fail : am_yV Y_MO_fail 0 := ⟨⟨(tb1 14 (by decide +kernel) rfl), (tb6 166 (by decide +kernel) rfl), ⟨by decide +kernel, by decide +kernel, by decide +kernel⟩, by decide +kernel⟩, (tb6 165 (by decide +kernel) rfl), (tb_sel (y := ⟨"TwoCampsModel", "fail", "()V"⟩) (n := 53) 58 (by decide +kernel))⟩
def Y_MO_either : am_Y := (⟨"TwoCampsModel", "either", "()I"⟩, prog_14_method_27_code, 3, some .int)
theorem yv_MO_either : am_yV Y_MO_either 0 := ⟨⟨(tb1 14 (by decide +kernel) rfl), (tb6 170 (by decide +kernel) rfl), ⟨by decide +kernel, by decide +kernel, by decide +kernel⟩, by decide +kernel⟩, (tb6 169 (by decide +kernel) rfl), (tb_sel (y := ⟨"TwoCampsModel", "either", "()I"⟩) (n := 53) 59 (by decide +kernel))⟩
def Y_MO_both : am_Y := (⟨"TwoCampsModel", "both", "()I"⟩, prog_14_method_26_code, 3, some .int)
theorem yv_MO_both : am_yV Y_MO_both 0 := ⟨⟨(tb1 14 (by decide +kernel) rfl), (tb6 174 (by decide +kernel) rfl), ⟨by decide +kernel, by decide +kernel, by decide +kernel⟩, by decide +kernel⟩, (tb6 173 (by decide +kernel) rfl), (tb_sel (y := ⟨"TwoCampsModel", "both", "()I"⟩) (n := 53) 60 (by decide +kernel))⟩
def Y_MO_not : am_Y := (⟨"TwoCampsModel", "not", "()I"⟩, prog_14_method_25_code, 4, some .int)
theorem yv_MO_not : am_yV Y_MO_not 0 := ⟨⟨(tb1 14 (by decide +kernel) rfl), (tb6 178 (by decide +kernel) rfl), ⟨by decide +kernel, by decide +kernel, by decide +kernel⟩, by decide +kernel⟩, (tb6 177 (by decide +kernel) rfl), (tb_sel (y := ⟨"TwoCampsModel", "not", "()I"⟩) (n := 53) 61 (by decide +kernel))⟩
def Y_MO_opens : am_Y := (⟨"TwoCampsModel", "opens", "()Z"⟩, prog_14_method_20_code, 1, some .boolean)
theorem yv_MO_opens : am_yV Y_MO_opens 0 := ⟨⟨(tb1 14 (by decide +kernel) rfl), (tb6 183 (by decide +kernel) rfl), ⟨by decide +kernel, by decide +kernel, by decide +kernel⟩, by decide +kernel⟩, (tb6 182 (by decide +kernel) rfl), (tb_sel (y := ⟨"TwoCampsModel", "opens", "()Z"⟩) (n := 53) 62 (by decide +kernel))⟩
def Y_MO_added : am_Y := (⟨"TwoCampsModel", "added", "()I"⟩, prog_14_method_24_code, 4, some .int)
theorem yv_MO_added : am_yV Y_MO_added 0 := ⟨⟨(tb1 14 (by decide +kernel) rfl), (tb6 187 (by decide +kernel) rfl), ⟨by decide +kernel, by decide +kernel, by decide +kernel⟩, by decide +kernel⟩, (tb6 186 (by decide +kernel) rfl), (tb_sel (y := ⟨"TwoCampsModel", "added", "()I"⟩) (n := 53) 63 (by decide +kernel))⟩
def Y_MO_term : am_Y := (⟨"TwoCampsModel", "term", "()I"⟩, prog_14_method_23_code, 2, some .int)
theorem yv_MO_term : am_yV Y_MO_term 0 := ⟨⟨(tb1 14 (by decide +kernel) rfl), (tb6 191 (by decide +kernel) rfl), ⟨by decide +kernel, by decide +kernel, by decide +kernel⟩, by decide +kernel⟩, (tb6 190 (by decide +kernel) rfl), (tb_sel (y := ⟨"TwoCampsModel", "term", "()I"⟩) (n := 53) 64 (by decide +kernel))⟩
def Y_MO_one : am_Y := (⟨"TwoCampsModel", "one", "()I"⟩, prog_14_method_22_code, 2, some .int)
theorem yv_MO_one : am_yV Y_MO_one 0 := ⟨⟨(tb1 14 (by decide +kernel) rfl), (tb6 195 (by decide +kernel) rfl), ⟨by decide +kernel, by decide +kernel, by decide +kernel⟩, by decide +kernel⟩, (tb6 194 (by decide +kernel) rfl), (tb_sel (y := ⟨"TwoCampsModel", "one", "()I"⟩) (n := 53) 65 (by decide +kernel))⟩
def Y_MO_isSign : am_Y := (⟨"TwoCampsModel", "isSign", "(I)Z"⟩, prog_14_method_19_code, 2, some .boolean)
theorem yv_MO_isSign : am_yV Y_MO_isSign 1 := ⟨⟨(tb1 14 (by decide +kernel) rfl), (tb6 199 (by decide +kernel) rfl), ⟨by decide +kernel, by decide +kernel, by decide +kernel⟩, by decide +kernel⟩, (tb6 198 (by decide +kernel) rfl), (tb_sel (y := ⟨"TwoCampsModel", "isSign", "(I)Z"⟩) (n := 53) 66 (by decide +kernel))⟩
def Y_MO_name : am_Y := (⟨"TwoCampsModel", "name", "()I"⟩, prog_14_method_21_code, 1, some .int)
theorem yv_MO_name : am_yV Y_MO_name 0 := ⟨⟨(tb1 14 (by decide +kernel) rfl), (tb6 203 (by decide +kernel) rfl), ⟨by decide +kernel, by decide +kernel, by decide +kernel⟩, by decide +kernel⟩, (tb6 202 (by decide +kernel) rfl), (tb_sel (y := ⟨"TwoCampsModel", "name", "()I"⟩) (n := 53) 67 (by decide +kernel))⟩
def Y_MO_badThrees : am_Y := (⟨"TwoCampsModel", "badThrees", "(I)I"⟩, prog_14_method_75_code, 4, some .int)
theorem yv_MO_badThrees : am_yV Y_MO_badThrees 1 := ⟨⟨(tb1 14 (by decide +kernel) rfl), (tb6 218 (by decide +kernel) rfl), ⟨by decide +kernel, by decide +kernel, by decide +kernel⟩, by decide +kernel⟩, (tb6 217 (by decide +kernel) rfl), (tb_sel (y := ⟨"TwoCampsModel", "badThrees", "(I)I"⟩) (n := 53) 68 (by decide +kernel))⟩
def Y_MO_isBadThree : am_Y := (⟨"TwoCampsModel", "isBadThree", "(III)Z"⟩, prog_14_method_74_code, 7, some .boolean)
theorem yv_MO_isBadThree : am_yV Y_MO_isBadThree 3 := ⟨⟨(tb1 14 (by decide +kernel) rfl), (tb6 222 (by decide +kernel) rfl), ⟨by decide +kernel, by decide +kernel, by decide +kernel⟩, by decide +kernel⟩, (tb6 221 (by decide +kernel) rfl), (tb_sel (y := ⟨"TwoCampsModel", "isBadThree", "(III)Z"⟩) (n := 53) 69 (by decide +kernel))⟩
def Y_MO_between : am_Y := (⟨"TwoCampsModel", "between", "(II)I"⟩, prog_14_method_13_code, 3, some .int)
theorem yv_MO_between : am_yV Y_MO_between 2 := ⟨⟨(tb1 14 (by decide +kernel) rfl), (tb6 226 (by decide +kernel) rfl), ⟨by decide +kernel, by decide +kernel, by decide +kernel⟩, by decide +kernel⟩, (tb6 224 (by decide +kernel) rfl), (tb6 225 (by decide +kernel) rfl)⟩
def Y_MO_feed : am_Y := (⟨"TwoCampsModel", "feed", "(IJ)I"⟩, prog_14_method_14_code, 5, some .int)
theorem yv_MO_feed : am_yV Y_MO_feed 2 := ⟨⟨(tb1 14 (by decide +kernel) rfl), (tb6 230 (by decide +kernel) rfl), ⟨by decide +kernel, by decide +kernel, by decide +kernel⟩, by decide +kernel⟩, (tb6 228 (by decide +kernel) rfl), (tb6 229 (by decide +kernel) rfl)⟩
def Y_MO_text : am_Y := (⟨"TwoCampsModel", "text", "()I"⟩, prog_14_method_31_code, 2, some .int)
theorem yv_MO_text : am_yV Y_MO_text 0 := ⟨⟨(tb1 14 (by decide +kernel) rfl), (tb6 235 (by decide +kernel) rfl), ⟨by decide +kernel, by decide +kernel, by decide +kernel⟩, by decide +kernel⟩, (tb6 233 (by decide +kernel) rfl), (tb6 234 (by decide +kernel) rfl)⟩
def Y_MO_force : am_Y := (⟨"TwoCampsModel", "force", "(I)I"⟩, prog_14_method_32_code, 3, some .int)
theorem yv_MO_force : am_yV Y_MO_force 1 := ⟨⟨(tb1 14 (by decide +kernel) rfl), (tb6 239 (by decide +kernel) rfl), ⟨by decide +kernel, by decide +kernel, by decide +kernel⟩, by decide +kernel⟩, (tb6 237 (by decide +kernel) rfl), (tb6 238 (by decide +kernel) rfl)⟩
def Y_MO_street : am_Y := (⟨"TwoCampsModel", "street", "()I"⟩, prog_14_method_38_code, 2, some .int)
theorem yv_MO_street : am_yV Y_MO_street 0 := ⟨⟨(tb1 14 (by decide +kernel) rfl), (tb7 3 (by decide +kernel) rfl), ⟨by decide +kernel, by decide +kernel, by decide +kernel⟩, by decide +kernel⟩, (tb7 1 (by decide +kernel) rfl), (tb7 2 (by decide +kernel) rfl)⟩
def Y_MO_goesThrough : am_Y := (⟨"TwoCampsModel", "goesThrough", "(Z)I"⟩, prog_14_method_37_code, 11, some .int)
theorem yv_MO_goesThrough : am_yV Y_MO_goesThrough 1 := ⟨⟨(tb1 14 (by decide +kernel) rfl), (tb7 7 (by decide +kernel) rfl), ⟨by decide +kernel, by decide +kernel, by decide +kernel⟩, by decide +kernel⟩, (tb7 6 (by decide +kernel) rfl), (tb_sel (y := ⟨"TwoCampsModel", "goesThrough", "(Z)I"⟩) (n := 53) 70 (by decide +kernel))⟩
def Y_MO_personHere : am_Y := (⟨"TwoCampsModel", "personHere", "(I)I"⟩, prog_14_method_34_code, 3, some .int)
theorem yv_MO_personHere : am_yV Y_MO_personHere 1 := ⟨⟨(tb1 14 (by decide +kernel) rfl), (tb7 11 (by decide +kernel) rfl), ⟨by decide +kernel, by decide +kernel, by decide +kernel⟩, by decide +kernel⟩, (tb7 10 (by decide +kernel) rfl), (tb_sel (y := ⟨"TwoCampsModel", "personHere", "(I)I"⟩) (n := 53) 71 (by decide +kernel))⟩
def Y_MO_byteHere : am_Y := (⟨"TwoCampsModel", "byteHere", "()I"⟩, prog_14_method_33_code, 1, some .int)
theorem yv_MO_byteHere : am_yV Y_MO_byteHere 0 := ⟨⟨(tb1 14 (by decide +kernel) rfl), (tb7 15 (by decide +kernel) rfl), ⟨by decide +kernel, by decide +kernel, by decide +kernel⟩, by decide +kernel⟩, (tb7 14 (by decide +kernel) rfl), (tb_sel (y := ⟨"TwoCampsModel", "byteHere", "()I"⟩) (n := 53) 72 (by decide +kernel))⟩
def Y_MO_may : am_Y := (⟨"TwoCampsModel", "may", "(I)Z"⟩, prog_14_method_36_code, 2, some .boolean)
theorem yv_MO_may : am_yV Y_MO_may 1 := ⟨⟨(tb1 14 (by decide +kernel) rfl), (tb7 19 (by decide +kernel) rfl), ⟨by decide +kernel, by decide +kernel, by decide +kernel⟩, by decide +kernel⟩, (tb7 18 (by decide +kernel) rfl), (tb_sel (y := ⟨"TwoCampsModel", "may", "(I)Z"⟩) (n := 53) 73 (by decide +kernel))⟩
def Y_MO_strengthHere : am_Y := (⟨"TwoCampsModel", "strengthHere", "()I"⟩, prog_14_method_35_code, 2, some .int)
theorem yv_MO_strengthHere : am_yV Y_MO_strengthHere 0 := ⟨⟨(tb1 14 (by decide +kernel) rfl), (tb7 23 (by decide +kernel) rfl), ⟨by decide +kernel, by decide +kernel, by decide +kernel⟩, by decide +kernel⟩, (tb7 22 (by decide +kernel) rfl), (tb_sel (y := ⟨"TwoCampsModel", "strengthHere", "()I"⟩) (n := 53) 74 (by decide +kernel))⟩
def Y_MO_camping : am_Y := (⟨"TwoCampsModel", "camping", "(II)I"⟩, prog_14_method_41_code, 5, some .int)
theorem yv_MO_camping : am_yV Y_MO_camping 2 := ⟨⟨(tb1 14 (by decide +kernel) rfl), (tb7 27 (by decide +kernel) rfl), ⟨by decide +kernel, by decide +kernel, by decide +kernel⟩, by decide +kernel⟩, (tb7 25 (by decide +kernel) rfl), (tb7 26 (by decide +kernel) rfl)⟩
def Y_MO_isSheet : am_Y := (⟨"TwoCampsModel", "isSheet", "(I)Z"⟩, prog_14_method_87_code, 1, some .boolean)
theorem ys_MO_isSheet : am_yS Y_MO_isSheet 1 := ⟨⟨(tb1 14 (by decide +kernel) rfl), (tb7 31 (by decide +kernel) rfl), ⟨by decide +kernel, by decide +kernel, by decide +kernel⟩, by decide +kernel⟩, (tb7 30 (by decide +kernel) rfl)⟩
def Y_MO_camped : am_Y := (⟨"TwoCampsModel", "camped", "(II)I"⟩, prog_14_method_48_code, 3, some .int)
theorem yv_MO_camped : am_yV Y_MO_camped 2 := ⟨⟨(tb1 14 (by decide +kernel) rfl), (tb7 35 (by decide +kernel) rfl), ⟨by decide +kernel, by decide +kernel, by decide +kernel⟩, by decide +kernel⟩, (tb7 33 (by decide +kernel) rfl), (tb7 34 (by decide +kernel) rfl)⟩
def Y_MO_isCamping : am_Y := (⟨"TwoCampsModel", "isCamping", "(I)Z"⟩, prog_14_method_39_code, 2, some .boolean)
theorem yv_MO_isCamping : am_yV Y_MO_isCamping 1 := ⟨⟨(tb1 14 (by decide +kernel) rfl), (tb7 39 (by decide +kernel) rfl), ⟨by decide +kernel, by decide +kernel, by decide +kernel⟩, by decide +kernel⟩, (tb7 38 (by decide +kernel) rfl), (tb_sel (y := ⟨"TwoCampsModel", "isCamping", "(I)Z"⟩) (n := 53) 75 (by decide +kernel))⟩
def Y_MO_looksAt : am_Y := (⟨"TwoCampsModel", "looksAt", "(I)V"⟩, prog_14_method_43_code, 3, none)
theorem yv_MO_looksAt : am_yV Y_MO_looksAt 1 := ⟨⟨(tb1 14 (by decide +kernel) rfl), (tb7 43 (by decide +kernel) rfl), ⟨by decide +kernel, by decide +kernel, by decide +kernel⟩, by decide +kernel⟩, (tb7 42 (by decide +kernel) rfl), (tb_sel (y := ⟨"TwoCampsModel", "looksAt", "(I)V"⟩) (n := 53) 76 (by decide +kernel))⟩
def Y_MO_in9 : am_Y := (⟨"TwoCampsModel", "in9", "(II)I"⟩, prog_14_method_40_code, 3, some .int)
theorem yv_MO_in9 : am_yV Y_MO_in9 2 := ⟨⟨(tb1 14 (by decide +kernel) rfl), (tb7 47 (by decide +kernel) rfl), ⟨by decide +kernel, by decide +kernel, by decide +kernel⟩, by decide +kernel⟩, (tb7 46 (by decide +kernel) rfl), (tb_sel (y := ⟨"TwoCampsModel", "in9", "(II)I"⟩) (n := 53) 77 (by decide +kernel))⟩
def Y_MO_campsOf : am_Y := (⟨"TwoCampsModel", "campsOf", "(I)I"⟩, prog_14_method_42_code, 1, some .int)
theorem ys_MO_campsOf : am_yS Y_MO_campsOf 1 := ⟨⟨(tb1 14 (by decide +kernel) rfl), (tb7 50 (by decide +kernel) rfl), ⟨by decide +kernel, by decide +kernel, by decide +kernel⟩, by decide +kernel⟩, (tb7 49 (by decide +kernel) rfl)⟩
def Y_MO_lived : am_Y := (⟨"TwoCampsModel", "lived", "()I"⟩, prog_14_method_45_code, 3, some .int)
theorem yv_MO_lived : am_yV Y_MO_lived 0 := ⟨⟨(tb1 14 (by decide +kernel) rfl), (tb7 54 (by decide +kernel) rfl), ⟨by decide +kernel, by decide +kernel, by decide +kernel⟩, by decide +kernel⟩, (tb7 53 (by decide +kernel) rfl), (tb_sel (y := ⟨"TwoCampsModel", "lived", "()I"⟩) (n := 53) 78 (by decide +kernel))⟩
def Y_MO_bitsOf : am_Y := (⟨"TwoCampsModel", "bitsOf", "(I)I"⟩, prog_14_method_53_code, 3, some .int)
theorem ys_MO_bitsOf : am_yS Y_MO_bitsOf 1 := ⟨⟨(tb1 14 (by decide +kernel) rfl), (tb7 57 (by decide +kernel) rfl), ⟨by decide +kernel, by decide +kernel, by decide +kernel⟩, by decide +kernel⟩, (tb7 56 (by decide +kernel) rfl)⟩
def Y_MO_wrongs : am_Y := (⟨"TwoCampsModel", "wrongs", "()I"⟩, prog_14_method_47_code, 3, some .int)
theorem yv_MO_wrongs : am_yV Y_MO_wrongs 0 := ⟨⟨(tb1 14 (by decide +kernel) rfl), (tb7 61 (by decide +kernel) rfl), ⟨by decide +kernel, by decide +kernel, by decide +kernel⟩, by decide +kernel⟩, (tb7 60 (by decide +kernel) rfl), (tb_sel (y := ⟨"TwoCampsModel", "wrongs", "()I"⟩) (n := 53) 79 (by decide +kernel))⟩
def Y_MO_isWrong : am_Y := (⟨"TwoCampsModel", "isWrong", "(I)Z"⟩, prog_14_method_44_code, 4, some .boolean)
theorem yv_MO_isWrong : am_yV Y_MO_isWrong 1 := ⟨⟨(tb1 14 (by decide +kernel) rfl), (tb7 65 (by decide +kernel) rfl), ⟨by decide +kernel, by decide +kernel, by decide +kernel⟩, by decide +kernel⟩, (tb7 64 (by decide +kernel) rfl), (tb_sel (y := ⟨"TwoCampsModel", "isWrong", "(I)Z"⟩) (n := 53) 80 (by decide +kernel))⟩
def Y_MO_outside : am_Y := (⟨"TwoCampsModel", "outside", "()I"⟩, prog_14_method_46_code, 3, some .int)
theorem yv_MO_outside : am_yV Y_MO_outside 0 := ⟨⟨(tb1 14 (by decide +kernel) rfl), (tb7 69 (by decide +kernel) rfl), ⟨by decide +kernel, by decide +kernel, by decide +kernel⟩, by decide +kernel⟩, (tb7 68 (by decide +kernel) rfl), (tb_sel (y := ⟨"TwoCampsModel", "outside", "()I"⟩) (n := 53) 81 (by decide +kernel))⟩
def Y_MO_cost : am_Y := (⟨"TwoCampsModel", "cost", "(I)J"⟩, prog_14_method_50_code, 2, some .long)
theorem yv_MO_cost : am_yV Y_MO_cost 1 := ⟨⟨(tb1 14 (by decide +kernel) rfl), (tb7 73 (by decide +kernel) rfl), ⟨by decide +kernel, by decide +kernel, by decide +kernel⟩, by decide +kernel⟩, (tb7 71 (by decide +kernel) rfl), (tb7 72 (by decide +kernel) rfl)⟩
def Y_MO_costBy : am_Y := (⟨"TwoCampsModel", "costBy", "(I)J"⟩, prog_14_method_49_code, 6, some .long)
theorem yv_MO_costBy : am_yV Y_MO_costBy 1 := ⟨⟨(tb1 14 (by decide +kernel) rfl), (tb7 78 (by decide +kernel) rfl), ⟨by decide +kernel, by decide +kernel, by decide +kernel⟩, by decide +kernel⟩, (tb7 77 (by decide +kernel) rfl), (tb_sel (y := ⟨"TwoCampsModel", "costBy", "(I)J"⟩) (n := 53) 82 (by decide +kernel))⟩
def Y_MO_move : am_Y := (⟨"TwoCampsModel", "move", "(III)J"⟩, prog_14_method_51_code, 6, some .long)
theorem yv_MO_move : am_yV Y_MO_move 3 := ⟨⟨(tb1 14 (by decide +kernel) rfl), (tb7 86 (by decide +kernel) rfl), ⟨by decide +kernel, by decide +kernel, by decide +kernel⟩, by decide +kernel⟩, (tb7 84 (by decide +kernel) rfl), (tb7 85 (by decide +kernel) rfl)⟩
def Y_MO_same : am_Y := (⟨"TwoCampsModel", "same", "(II)I"⟩, prog_14_method_52_code, 5, some .int)
theorem yv_MO_same : am_yV Y_MO_same 2 := ⟨⟨(tb1 14 (by decide +kernel) rfl), (tb7 90 (by decide +kernel) rfl), ⟨by decide +kernel, by decide +kernel, by decide +kernel⟩, by decide +kernel⟩, (tb7 88 (by decide +kernel) rfl), (tb7 89 (by decide +kernel) rfl)⟩
def Y_MO_peace : am_Y := (⟨"TwoCampsModel", "peace", "()I"⟩, prog_14_method_56_code, 1, some .int)
theorem yv_MO_peace : am_yV Y_MO_peace 0 := ⟨⟨(tb1 14 (by decide +kernel) rfl), (tb7 94 (by decide +kernel) rfl), ⟨by decide +kernel, by decide +kernel, by decide +kernel⟩, by decide +kernel⟩, (tb7 92 (by decide +kernel) rfl), (tb7 93 (by decide +kernel) rfl)⟩
def Y_MO_isPeace : am_Y := (⟨"TwoCampsModel", "isPeace", "(I)Z"⟩, prog_14_method_55_code, 10, some .boolean)
theorem yv_MO_isPeace : am_yV Y_MO_isPeace 1 := ⟨⟨(tb1 14 (by decide +kernel) rfl), (tb7 98 (by decide +kernel) rfl), ⟨by decide +kernel, by decide +kernel, by decide +kernel⟩, by decide +kernel⟩, (tb7 97 (by decide +kernel) rfl), (tb_sel (y := ⟨"TwoCampsModel", "isPeace", "(I)Z"⟩) (n := 53) 83 (by decide +kernel))⟩
def Y_MO_ring : am_Y := (⟨"TwoCampsModel", "ring", "(I)I"⟩, prog_14_method_58_code, 7, some .int)
theorem yv_MO_ring : am_yV Y_MO_ring 1 := ⟨⟨(tb1 14 (by decide +kernel) rfl), (tb7 102 (by decide +kernel) rfl), ⟨by decide +kernel, by decide +kernel, by decide +kernel⟩, by decide +kernel⟩, (tb7 100 (by decide +kernel) rfl), (tb7 101 (by decide +kernel) rfl)⟩
def Y_MO_walk : am_Y := (⟨"TwoCampsModel", "walk", "(I)I"⟩, prog_14_method_57_code, 8, some .int)
theorem yv_MO_walk : am_yV Y_MO_walk 1 := ⟨⟨(tb1 14 (by decide +kernel) rfl), (tb7 106 (by decide +kernel) rfl), ⟨by decide +kernel, by decide +kernel, by decide +kernel⟩, by decide +kernel⟩, (tb7 105 (by decide +kernel) rfl), (tb_sel (y := ⟨"TwoCampsModel", "walk", "(I)I"⟩) (n := 53) 84 (by decide +kernel))⟩
def Y_MO_least : am_Y := (⟨"TwoCampsModel", "least", "()I"⟩, prog_14_method_63_code, 1, some .int)
theorem yv_MO_least : am_yV Y_MO_least 0 := ⟨⟨(tb1 14 (by decide +kernel) rfl), (tb7 110 (by decide +kernel) rfl), ⟨by decide +kernel, by decide +kernel, by decide +kernel⟩, by decide +kernel⟩, (tb7 108 (by decide +kernel) rfl), (tb7 109 (by decide +kernel) rfl)⟩
def Y_MO_goesAll : am_Y := (⟨"TwoCampsModel", "goesAll", "()I"⟩, prog_14_method_62_code, 3, some .int)
theorem yv_MO_goesAll : am_yV Y_MO_goesAll 0 := ⟨⟨(tb1 14 (by decide +kernel) rfl), (tb7 114 (by decide +kernel) rfl), ⟨by decide +kernel, by decide +kernel, by decide +kernel⟩, by decide +kernel⟩, (tb7 113 (by decide +kernel) rfl), (tb_sel (y := ⟨"TwoCampsModel", "goesAll", "()I"⟩) (n := 53) 85 (by decide +kernel))⟩
def Y_MO_weighs : am_Y := (⟨"TwoCampsModel", "weighs", "()V"⟩, prog_14_method_59_code, 2, none)
theorem yv_MO_weighs : am_yV Y_MO_weighs 0 := ⟨⟨(tb1 14 (by decide +kernel) rfl), (tb7 118 (by decide +kernel) rfl), ⟨by decide +kernel, by decide +kernel, by decide +kernel⟩, by decide +kernel⟩, (tb7 117 (by decide +kernel) rfl), (tb_sel (y := ⟨"TwoCampsModel", "weighs", "()V"⟩) (n := 53) 86 (by decide +kernel))⟩
def Y_MO_sumOf : am_Y := (⟨"TwoCampsModel", "sumOf", "(I)I"⟩, prog_14_method_61_code, 4, some .int)
theorem yv_MO_sumOf : am_yV Y_MO_sumOf 1 := ⟨⟨(tb1 14 (by decide +kernel) rfl), (tb7 122 (by decide +kernel) rfl), ⟨by decide +kernel, by decide +kernel, by decide +kernel⟩, by decide +kernel⟩, (tb7 121 (by decide +kernel) rfl), (tb_sel (y := ⟨"TwoCampsModel", "sumOf", "(I)I"⟩) (n := 53) 87 (by decide +kernel))⟩
def Y_MO_isWrongIn : am_Y := (⟨"TwoCampsModel", "isWrongIn", "(II)Z"⟩, prog_14_method_60_code, 3, some .boolean)
theorem yv_MO_isWrongIn : am_yV Y_MO_isWrongIn 2 := ⟨⟨(tb1 14 (by decide +kernel) rfl), (tb7 126 (by decide +kernel) rfl), ⟨by decide +kernel, by decide +kernel, by decide +kernel⟩, by decide +kernel⟩, (tb7 125 (by decide +kernel) rfl), (tb_sel (y := ⟨"TwoCampsModel", "isWrongIn", "(II)Z"⟩) (n := 53) 88 (by decide +kernel))⟩
def Y_MO_all : am_Y := (⟨"TwoCampsModel", "all", "(I)I"⟩, prog_14_method_64_code, 5, some .int)
theorem yv_MO_all : am_yV Y_MO_all 1 := ⟨⟨(tb1 14 (by decide +kernel) rfl), (tb7 130 (by decide +kernel) rfl), ⟨by decide +kernel, by decide +kernel, by decide +kernel⟩, by decide +kernel⟩, (tb7 128 (by decide +kernel) rfl), (tb7 129 (by decide +kernel) rfl)⟩
def Y_MO_together : am_Y := (⟨"TwoCampsModel", "together", "(II)I"⟩, prog_14_method_67_code, 5, some .int)
theorem yv_MO_together : am_yV Y_MO_together 2 := ⟨⟨(tb1 14 (by decide +kernel) rfl), (tb7 134 (by decide +kernel) rfl), ⟨by decide +kernel, by decide +kernel, by decide +kernel⟩, by decide +kernel⟩, (tb7 132 (by decide +kernel) rfl), (tb7 133 (by decide +kernel) rfl)⟩
def Y_MO_togethers : am_Y := (⟨"TwoCampsModel", "togethers", "(III)I"⟩, prog_14_method_65_code, 6, some .int)
theorem yv_MO_togethers : am_yV Y_MO_togethers 3 := ⟨⟨(tb1 14 (by decide +kernel) rfl), (tb7 138 (by decide +kernel) rfl), ⟨by decide +kernel, by decide +kernel, by decide +kernel⟩, by decide +kernel⟩, (tb7 137 (by decide +kernel) rfl), (tb_sel (y := ⟨"TwoCampsModel", "togethers", "(III)I"⟩) (n := 53) 89 (by decide +kernel))⟩
def Y_MO_alls : am_Y := (⟨"TwoCampsModel", "alls", "(I)I"⟩, prog_14_method_66_code, 4, some .int)
theorem yv_MO_alls : am_yV Y_MO_alls 1 := ⟨⟨(tb1 14 (by decide +kernel) rfl), (tb7 142 (by decide +kernel) rfl), ⟨by decide +kernel, by decide +kernel, by decide +kernel⟩, by decide +kernel⟩, (tb7 141 (by decide +kernel) rfl), (tb_sel (y := ⟨"TwoCampsModel", "alls", "(I)I"⟩) (n := 53) 90 (by decide +kernel))⟩
def Y_MO_aside : am_Y := (⟨"TwoCampsModel", "aside", "()I"⟩, prog_14_method_68_code, 7, some .int)
theorem yv_MO_aside : am_yV Y_MO_aside 0 := ⟨⟨(tb1 14 (by decide +kernel) rfl), (tb7 146 (by decide +kernel) rfl), ⟨by decide +kernel, by decide +kernel, by decide +kernel⟩, by decide +kernel⟩, (tb7 144 (by decide +kernel) rfl), (tb7 145 (by decide +kernel) rfl)⟩
def Y_MO_many : am_Y := (⟨"TwoCampsModel", "many", "(I)I"⟩, prog_14_method_70_code, 2, some .int)
theorem yv_MO_many : am_yV Y_MO_many 1 := ⟨⟨(tb1 14 (by decide +kernel) rfl), (tb7 150 (by decide +kernel) rfl), ⟨by decide +kernel, by decide +kernel, by decide +kernel⟩, by decide +kernel⟩, (tb7 148 (by decide +kernel) rfl), (tb7 149 (by decide +kernel) rfl)⟩
def Y_MO_puts : am_Y := (⟨"TwoCampsModel", "puts", "(IIII)V"⟩, prog_14_method_69_code, 9, none)
theorem yv_MO_puts : am_yV Y_MO_puts 4 := ⟨⟨(tb1 14 (by decide +kernel) rfl), (tb7 155 (by decide +kernel) rfl), ⟨by decide +kernel, by decide +kernel, by decide +kernel⟩, by decide +kernel⟩, (tb7 154 (by decide +kernel) rfl), (tb_sel (y := ⟨"TwoCampsModel", "puts", "(IIII)V"⟩) (n := 53) 91 (by decide +kernel))⟩
def Y_MO_part2 : am_Y := (⟨"TwoCampsModel", "part", "(I)I"⟩, prog_14_method_72_code, 2, some .int)
theorem yv_MO_part2 : am_yV Y_MO_part2 1 := ⟨⟨(tb1 14 (by decide +kernel) rfl), (tb7 159 (by decide +kernel) rfl), ⟨by decide +kernel, by decide +kernel, by decide +kernel⟩, by decide +kernel⟩, (tb7 157 (by decide +kernel) rfl), (tb7 158 (by decide +kernel) rfl)⟩
def Y_MO_hangs : am_Y := (⟨"TwoCampsModel", "hangs", "(II)I"⟩, prog_14_method_54_code, 7, some .int)
theorem yv_MO_hangs : am_yV Y_MO_hangs 2 := ⟨⟨(tb1 14 (by decide +kernel) rfl), (tb7 163 (by decide +kernel) rfl), ⟨by decide +kernel, by decide +kernel, by decide +kernel⟩, by decide +kernel⟩, (tb7 162 (by decide +kernel) rfl), (tb_sel (y := ⟨"TwoCampsModel", "hangs", "(II)I"⟩) (n := 53) 92 (by decide +kernel))⟩
def Y_MO_leastOf : am_Y := (⟨"TwoCampsModel", "leastOf", "(I)I"⟩, prog_14_method_71_code, 3, some .int)
theorem yv_MO_leastOf : am_yV Y_MO_leastOf 1 := ⟨⟨(tb1 14 (by decide +kernel) rfl), (tb7 167 (by decide +kernel) rfl), ⟨by decide +kernel, by decide +kernel, by decide +kernel⟩, by decide +kernel⟩, (tb7 166 (by decide +kernel) rfl), (tb_sel (y := ⟨"TwoCampsModel", "leastOf", "(I)I"⟩) (n := 53) 93 (by decide +kernel))⟩
def Y_MO_doors : am_Y := (⟨"TwoCampsModel", "doors", "()I"⟩, prog_14_method_73_code, 4, some .int)
theorem yv_MO_doors : am_yV Y_MO_doors 0 := ⟨⟨(tb1 14 (by decide +kernel) rfl), (tb7 171 (by decide +kernel) rfl), ⟨by decide +kernel, by decide +kernel, by decide +kernel⟩, by decide +kernel⟩, (tb7 169 (by decide +kernel) rfl), (tb7 170 (by decide +kernel) rfl)⟩
def Y_MO_threes : am_Y := (⟨"TwoCampsModel", "threes", "()I"⟩, prog_14_method_76_code, 5, some .int)
theorem yv_MO_threes : am_yV Y_MO_threes 0 := ⟨⟨(tb1 14 (by decide +kernel) rfl), (tb7 175 (by decide +kernel) rfl), ⟨by decide +kernel, by decide +kernel, by decide +kernel⟩, by decide +kernel⟩, (tb7 173 (by decide +kernel) rfl), (tb7 174 (by decide +kernel) rfl)⟩
def Y_MO_step : am_Y := (⟨"TwoCampsModel", "step", "(I)I"⟩, prog_14_method_78_code, 2, some .int)
theorem yv_MO_step : am_yV Y_MO_step 1 := ⟨⟨(tb1 14 (by decide +kernel) rfl), (tb7 179 (by decide +kernel) rfl), ⟨by decide +kernel, by decide +kernel, by decide +kernel⟩, by decide +kernel⟩, (tb7 177 (by decide +kernel) rfl), (tb7 178 (by decide +kernel) rfl)⟩
def Y_MO_steps : am_Y := (⟨"TwoCampsModel", "steps", "(I)I"⟩, prog_14_method_77_code, 6, some .int)
theorem yv_MO_steps : am_yV Y_MO_steps 1 := ⟨⟨(tb1 14 (by decide +kernel) rfl), (tb7 183 (by decide +kernel) rfl), ⟨by decide +kernel, by decide +kernel, by decide +kernel⟩, by decide +kernel⟩, (tb7 182 (by decide +kernel) rfl), (tb_sel (y := ⟨"TwoCampsModel", "steps", "(I)I"⟩) (n := 53) 94 (by decide +kernel))⟩
def Y_MO_ends : am_Y := (⟨"TwoCampsModel", "ends", "(I)I"⟩, prog_14_method_79_code, 7, some .int)
theorem yv_MO_ends : am_yV Y_MO_ends 1 := ⟨⟨(tb1 14 (by decide +kernel) rfl), (tb7 187 (by decide +kernel) rfl), ⟨by decide +kernel, by decide +kernel, by decide +kernel⟩, by decide +kernel⟩, (tb7 185 (by decide +kernel) rfl), (tb7 186 (by decide +kernel) rfl)⟩
def Y_MO_meet : am_Y := (⟨"TwoCampsModel", "meet", "(III)J"⟩, prog_14_method_81_code, 7, some .long)
theorem yv_MO_meet : am_yV Y_MO_meet 3 := ⟨⟨(tb1 14 (by decide +kernel) rfl), (tb7 192 (by decide +kernel) rfl), ⟨by decide +kernel, by decide +kernel, by decide +kernel⟩, by decide +kernel⟩, (tb7 190 (by decide +kernel) rfl), (tb7 191 (by decide +kernel) rfl)⟩
def Y_MO_common : am_Y := (⟨"TwoCampsModel", "common", "(II)I"⟩, prog_14_method_80_code, 5, some .int)
theorem ys_MO_common : am_yS Y_MO_common 2 := ⟨⟨(tb1 14 (by decide +kernel) rfl), (tb7 195 (by decide +kernel) rfl), ⟨by decide +kernel, by decide +kernel, by decide +kernel⟩, by decide +kernel⟩, (tb7 194 (by decide +kernel) rfl)⟩
def Y_MO_edge : am_Y := (⟨"TwoCampsModel", "edge", "(I)J"⟩, prog_14_method_82_code, 7, some .long)
theorem yv_MO_edge : am_yV Y_MO_edge 1 := ⟨⟨(tb1 14 (by decide +kernel) rfl), (tb7 199 (by decide +kernel) rfl), ⟨by decide +kernel, by decide +kernel, by decide +kernel⟩, by decide +kernel⟩, (tb7 197 (by decide +kernel) rfl), (tb7 198 (by decide +kernel) rfl)⟩
def Y_MO_bring : am_Y := (⟨"TwoCampsModel", "bring", "(II)I"⟩, prog_14_method_83_code, 10, some .int)
theorem yv_MO_bring : am_yV Y_MO_bring 2 := ⟨⟨(tb1 14 (by decide +kernel) rfl), (tb7 204 (by decide +kernel) rfl), ⟨by decide +kernel, by decide +kernel, by decide +kernel⟩, by decide +kernel⟩, (tb7 202 (by decide +kernel) rfl), (tb7 203 (by decide +kernel) rfl)⟩
def Y_MO_image : am_Y := (⟨"TwoCampsModel", "image", "()I"⟩, prog_14_method_84_code, 2, some .int)
theorem yv_MO_image : am_yV Y_MO_image 0 := ⟨⟨(tb1 14 (by decide +kernel) rfl), (tb7 208 (by decide +kernel) rfl), ⟨by decide +kernel, by decide +kernel, by decide +kernel⟩, by decide +kernel⟩, (tb7 206 (by decide +kernel) rfl), (tb7 207 (by decide +kernel) rfl)⟩
def Y_MO_back : am_Y := (⟨"TwoCampsModel", "back", "()I"⟩, prog_14_method_85_code, 2, some .int)
theorem yv_MO_back : am_yV Y_MO_back 0 := ⟨⟨(tb1 14 (by decide +kernel) rfl), (tb7 212 (by decide +kernel) rfl), ⟨by decide +kernel, by decide +kernel, by decide +kernel⟩, by decide +kernel⟩, (tb7 210 (by decide +kernel) rfl), (tb7 211 (by decide +kernel) rfl)⟩
def Y_MO_count : am_Y := (⟨"TwoCampsModel", "count", "(I)I"⟩, prog_14_method_86_code, 4, some .int)
theorem yv_MO_count : am_yV Y_MO_count 1 := ⟨⟨(tb1 14 (by decide +kernel) rfl), (tb7 216 (by decide +kernel) rfl), ⟨by decide +kernel, by decide +kernel, by decide +kernel⟩, by decide +kernel⟩, (tb7 214 (by decide +kernel) rfl), (tb7 215 (by decide +kernel) rfl)⟩
def Y_MO_sheet : am_Y := (⟨"TwoCampsModel", "sheet", "(III)I"⟩, prog_14_method_88_code, 5, some .int)
theorem yv_MO_sheet : am_yV Y_MO_sheet 3 := ⟨⟨(tb1 14 (by decide +kernel) rfl), (tb7 220 (by decide +kernel) rfl), ⟨by decide +kernel, by decide +kernel, by decide +kernel⟩, by decide +kernel⟩, (tb7 218 (by decide +kernel) rfl), (tb7 219 (by decide +kernel) rfl)⟩
def Y_MO_cell : am_Y := (⟨"TwoCampsModel", "cell", "(III)I"⟩, prog_14_method_89_code, 4, some .int)
theorem yv_MO_cell : am_yV Y_MO_cell 3 := ⟨⟨(tb1 14 (by decide +kernel) rfl), (tb7 225 (by decide +kernel) rfl), ⟨by decide +kernel, by decide +kernel, by decide +kernel⟩, by decide +kernel⟩, (tb7 223 (by decide +kernel) rfl), (tb7 224 (by decide +kernel) rfl)⟩
def Y_MO_copy : am_Y := (⟨"TwoCampsModel", "copy", "(IIIII)I"⟩, prog_14_method_90_code, 9, some .int)
theorem yv_MO_copy : am_yV Y_MO_copy 5 := ⟨⟨(tb1 14 (by decide +kernel) rfl), (tb7 229 (by decide +kernel) rfl), ⟨by decide +kernel, by decide +kernel, by decide +kernel⟩, by decide +kernel⟩, (tb7 227 (by decide +kernel) rfl), (tb7 228 (by decide +kernel) rfl)⟩
def Y_MO_feels : am_Y := (⟨"TwoCampsModel", "feels", "(IIII)I"⟩, prog_14_method_91_code, 8, some .int)
theorem yv_MO_feels : am_yV Y_MO_feels 4 := ⟨⟨(tb1 14 (by decide +kernel) rfl), (tb7 233 (by decide +kernel) rfl), ⟨by decide +kernel, by decide +kernel, by decide +kernel⟩, by decide +kernel⟩, (tb7 231 (by decide +kernel) rfl), (tb7 232 (by decide +kernel) rfl)⟩
def Y_MO_taken : am_Y := (⟨"TwoCampsModel", "taken", "(II)I"⟩, prog_14_method_93_code, 4, some .int)
theorem yv_MO_taken : am_yV Y_MO_taken 2 := ⟨⟨(tb1 14 (by decide +kernel) rfl), (tb7 238 (by decide +kernel) rfl), ⟨by decide +kernel, by decide +kernel, by decide +kernel⟩, by decide +kernel⟩, (tb7 236 (by decide +kernel) rfl), (tb7 237 (by decide +kernel) rfl)⟩
def Y_MO_over : am_Y := (⟨"TwoCampsModel", "over", "(I)I"⟩, prog_14_method_92_code, 1, some .int)
theorem ys_MO_over : am_yS Y_MO_over 1 := ⟨⟨(tb1 14 (by decide +kernel) rfl), (tb8 1 (by decide +kernel) rfl), ⟨by decide +kernel, by decide +kernel, by decide +kernel⟩, by decide +kernel⟩, (tb8 0 (by decide +kernel) rfl)⟩
theorem fl_People_18 : am_fl "TwoCamps$People" 18 1 0 := ⟨_, rfl, by decide, rfl, (tb1 36 (by decide +kernel) rfl)⟩
theorem fw_People_18 : am_fw "TwoCamps$People" 18 1 0 .int := ⟨_, rfl, by decide, rfl, (tb1 36 (by decide +kernel) rfl), rfl, by decide +kernel⟩
theorem fl_TC_103 : am_fl "TwoCamps" 103 1 0 := ⟨_, rfl, by decide, rfl, (tb1 37 (by decide +kernel) rfl)⟩
theorem fw_TC_103 : am_fw "TwoCamps" 103 1 0 .int := ⟨_, rfl, by decide, rfl, (tb1 37 (by decide +kernel) rfl), rfl, by decide +kernel⟩
theorem fl_Best_50 : am_fl "TwoCamps$Best" 50 1 0 := ⟨_, rfl, by decide, rfl, (tb1 38 (by decide +kernel) rfl)⟩
theorem fw_Best_50 : am_fw "TwoCamps$Best" 50 1 0 .int := ⟨_, rfl, by decide, rfl, (tb1 38 (by decide +kernel) rfl), rfl, by decide +kernel⟩
theorem fl_Camping_46 : am_fl "TwoCamps$Camping" 46 1 0 := ⟨_, rfl, by decide, rfl, (tb1 39 (by decide +kernel) rfl)⟩
theorem fw_Camping_46 : am_fw "TwoCamps$Camping" 46 1 0 .int := ⟨_, rfl, by decide, rfl, (tb1 39 (by decide +kernel) rfl), rfl, by decide +kernel⟩
theorem fl_Net_36 : am_fl "TwoCamps$Net" 36 1 0 := ⟨_, rfl, by decide, rfl, (tb1 40 (by decide +kernel) rfl)⟩
theorem fw_Net_36 : am_fw "TwoCamps$Net" 36 1 0 .int := ⟨_, rfl, by decide, rfl, (tb1 40 (by decide +kernel) rfl), rfl, by decide +kernel⟩
theorem fl_People_9 : am_fl "TwoCamps$People" 9 1 1 := ⟨_, rfl, by decide, rfl, (tb1 41 (by decide +kernel) rfl)⟩
theorem fl_TC_114 : am_fl "TwoCamps" 114 1 1 := ⟨_, rfl, by decide, rfl, (tb1 42 (by decide +kernel) rfl)⟩
theorem fl_Camping_105 : am_fl "TwoCamps$Camping" 105 1 1 := ⟨_, rfl, by decide, rfl, (tb1 43 (by decide +kernel) rfl)⟩
theorem fl_People_15 : am_fl "TwoCamps$People" 15 1 2 := ⟨_, rfl, by decide, rfl, (tb1 44 (by decide +kernel) rfl)⟩
theorem fl_TC_118 : am_fl "TwoCamps" 118 1 2 := ⟨_, rfl, by decide, rfl, (tb1 45 (by decide +kernel) rfl)⟩
theorem fl_Camping_108 : am_fl "TwoCamps$Camping" 108 1 2 := ⟨_, rfl, by decide, rfl, (tb1 46 (by decide +kernel) rfl)⟩
theorem fl_Feelings_39 : am_fl "TwoCamps$Feelings" 39 2 0 := ⟨_, rfl, by decide, rfl, (tb1 64 (by decide +kernel) rfl)⟩
theorem fw_Feelings_39 : am_fw "TwoCamps$Feelings" 39 2 0 .int := ⟨_, rfl, by decide, rfl, (tb1 64 (by decide +kernel) rfl), rfl, by decide +kernel⟩
theorem fl_Law_48 : am_fl "TwoCamps$Law" 48 2 0 := ⟨_, rfl, by decide, rfl, (tb1 65 (by decide +kernel) rfl)⟩
theorem fw_Law_48 : am_fw "TwoCamps$Law" 48 2 0 .int := ⟨_, rfl, by decide, rfl, (tb1 65 (by decide +kernel) rfl), rfl, by decide +kernel⟩
theorem fl_Best_53 : am_fl "TwoCamps$Best" 53 2 0 := ⟨_, rfl, by decide, rfl, (tb1 66 (by decide +kernel) rfl)⟩
theorem fw_Best_53 : am_fw "TwoCamps$Best" 53 2 0 .int := ⟨_, rfl, by decide, rfl, (tb1 66 (by decide +kernel) rfl), rfl, by decide +kernel⟩
theorem fl_Net_42 : am_fl "TwoCamps$Net" 42 2 0 := ⟨_, rfl, by decide, rfl, (tb1 67 (by decide +kernel) rfl)⟩
theorem fw_Net_42 : am_fw "TwoCamps$Net" 42 2 0 .int := ⟨_, rfl, by decide, rfl, (tb1 67 (by decide +kernel) rfl), rfl, by decide +kernel⟩
theorem fl_Camping_56 : am_fl "TwoCamps$Camping" 56 2 0 := ⟨_, rfl, by decide, rfl, (tb1 68 (by decide +kernel) rfl)⟩
theorem fw_Camping_56 : am_fw "TwoCamps$Camping" 56 2 0 .int := ⟨_, rfl, by decide, rfl, (tb1 68 (by decide +kernel) rfl), rfl, by decide +kernel⟩
theorem fl_TC_293 : am_fl "TwoCamps" 293 2 0 := ⟨_, rfl, by decide, rfl, (tb1 69 (by decide +kernel) rfl)⟩
theorem fw_TC_293 : am_fw "TwoCamps" 293 2 0 .int := ⟨_, rfl, by decide, rfl, (tb1 69 (by decide +kernel) rfl), rfl, by decide +kernel⟩
theorem fl_Feelings_9 : am_fl "TwoCamps$Feelings" 9 2 1 := ⟨_, rfl, by decide, rfl, (tb1 70 (by decide +kernel) rfl)⟩
theorem fl_TC_130 : am_fl "TwoCamps" 130 2 1 := ⟨_, rfl, by decide, rfl, (tb1 71 (by decide +kernel) rfl)⟩
theorem fl_Camping_63 : am_fl "TwoCamps$Camping" 63 2 1 := ⟨_, rfl, by decide, rfl, (tb1 72 (by decide +kernel) rfl)⟩
theorem fl_Law_117 : am_fl "TwoCamps$Law" 117 2 1 := ⟨_, rfl, by decide, rfl, (tb1 73 (by decide +kernel) rfl)⟩
theorem fl_Feelings_15 : am_fl "TwoCamps$Feelings" 15 2 2 := ⟨_, rfl, by decide, rfl, (tb1 74 (by decide +kernel) rfl)⟩
theorem fl_TC_133 : am_fl "TwoCamps" 133 2 2 := ⟨_, rfl, by decide, rfl, (tb1 75 (by decide +kernel) rfl)⟩
theorem fl_Camping_66 : am_fl "TwoCamps$Camping" 66 2 2 := ⟨_, rfl, by decide, rfl, (tb1 76 (by decide +kernel) rfl)⟩
theorem fl_Law_120 : am_fl "TwoCamps$Law" 120 2 2 := ⟨_, rfl, by decide, rfl, (tb1 77 (by decide +kernel) rfl)⟩
theorem fl_Feelings_18 : am_fl "TwoCamps$Feelings" 18 2 3 := ⟨_, rfl, by decide, rfl, (tb1 78 (by decide +kernel) rfl)⟩
theorem fl_TC_136 : am_fl "TwoCamps" 136 2 3 := ⟨_, rfl, by decide, rfl, (tb1 79 (by decide +kernel) rfl)⟩
theorem fl_Law_111 : am_fl "TwoCamps$Law" 111 2 3 := ⟨_, rfl, by decide, rfl, (tb1 80 (by decide +kernel) rfl)⟩
theorem fl_Net_90 : am_fl "TwoCamps$Net" 90 2 3 := ⟨_, rfl, by decide, rfl, (tb1 81 (by decide +kernel) rfl)⟩
theorem fl_Camping_94 : am_fl "TwoCamps$Camping" 94 2 3 := ⟨_, rfl, by decide, rfl, (tb1 82 (by decide +kernel) rfl)⟩
theorem fl_Feelings_21 : am_fl "TwoCamps$Feelings" 21 2 4 := ⟨_, rfl, by decide, rfl, (tb1 83 (by decide +kernel) rfl)⟩
theorem fl_TC_139 : am_fl "TwoCamps" 139 2 4 := ⟨_, rfl, by decide, rfl, (tb1 84 (by decide +kernel) rfl)⟩
theorem fl_Law_108 : am_fl "TwoCamps$Law" 108 2 4 := ⟨_, rfl, by decide, rfl, (tb1 85 (by decide +kernel) rfl)⟩
theorem fl_Feelings_24 : am_fl "TwoCamps$Feelings" 24 2 5 := ⟨_, rfl, by decide, rfl, (tb1 86 (by decide +kernel) rfl)⟩
theorem fl_TC_142 : am_fl "TwoCamps" 142 2 5 := ⟨_, rfl, by decide, rfl, (tb1 87 (by decide +kernel) rfl)⟩
theorem fl_Law_114 : am_fl "TwoCamps$Law" 114 2 5 := ⟨_, rfl, by decide, rfl, (tb1 88 (by decide +kernel) rfl)⟩
theorem fl_Feelings_27 : am_fl "TwoCamps$Feelings" 27 2 6 := ⟨_, rfl, by decide, rfl, (tb1 89 (by decide +kernel) rfl)⟩
theorem fl_Feelings_30 : am_fl "TwoCamps$Feelings" 30 2 7 := ⟨_, rfl, by decide, rfl, (tb1 90 (by decide +kernel) rfl)⟩
theorem fl_Tape_15 : am_fl "TwoCamps$Tape" 15 3 0 := ⟨_, rfl, by decide, rfl, (tb1 114 (by decide +kernel) rfl)⟩
theorem fw_Tape_15 : am_fw "TwoCamps$Tape" 15 3 0 .int := ⟨_, rfl, by decide, rfl, (tb1 114 (by decide +kernel) rfl), rfl, by decide +kernel⟩
theorem fl_StreetReader_31 : am_fl "TwoCamps$StreetReader" 31 3 0 := ⟨_, rfl, by decide, rfl, (tb1 115 (by decide +kernel) rfl)⟩
theorem fw_StreetReader_31 : am_fw "TwoCamps$StreetReader" 31 3 0 .int := ⟨_, rfl, by decide, rfl, (tb1 115 (by decide +kernel) rfl), rfl, by decide +kernel⟩
theorem fl_TC_158 : am_fl "TwoCamps" 158 3 0 := ⟨_, rfl, by decide, rfl, (tb1 116 (by decide +kernel) rfl)⟩
theorem fw_TC_158 : am_fw "TwoCamps" 158 3 0 .int := ⟨_, rfl, by decide, rfl, (tb1 116 (by decide +kernel) rfl), rfl, by decide +kernel⟩
theorem fl_Tape_9 : am_fl "TwoCamps$Tape" 9 3 1 := ⟨_, rfl, by decide, rfl, (tb1 117 (by decide +kernel) rfl)⟩
theorem fl_Text_9 : am_fl "TwoCamps$Text" 9 5 0 := ⟨_, rfl, by decide, rfl, (tb1 136 (by decide +kernel) rfl)⟩
theorem fl_Law_64 : am_fl "TwoCamps$Law" 64 5 0 := ⟨_, rfl, by decide, rfl, (tb1 137 (by decide +kernel) rfl)⟩
theorem fl_Text_15 : am_fl "TwoCamps$Text" 15 5 1 := ⟨_, rfl, by decide, rfl, (tb1 138 (by decide +kernel) rfl)⟩
theorem fw_Text_15 : am_fw "TwoCamps$Text" 15 5 1 .int := ⟨_, rfl, by decide, rfl, (tb1 138 (by decide +kernel) rfl), rfl, by decide +kernel⟩
theorem fl_Law_83 : am_fl "TwoCamps$Law" 83 5 1 := ⟨_, rfl, by decide, rfl, (tb1 139 (by decide +kernel) rfl)⟩
theorem fw_Law_83 : am_fw "TwoCamps$Law" 83 5 1 .int := ⟨_, rfl, by decide, rfl, (tb1 139 (by decide +kernel) rfl), rfl, by decide +kernel⟩
theorem fl_Text_19 : am_fl "TwoCamps$Text" 19 5 2 := ⟨_, rfl, by decide, rfl, (tb1 140 (by decide +kernel) rfl)⟩
theorem fw_Text_19 : am_fw "TwoCamps$Text" 19 5 2 .int := ⟨_, rfl, by decide, rfl, (tb1 140 (by decide +kernel) rfl), rfl, by decide +kernel⟩
theorem fl_Law_67 : am_fl "TwoCamps$Law" 67 5 2 := ⟨_, rfl, by decide, rfl, (tb1 141 (by decide +kernel) rfl)⟩
theorem fw_Law_67 : am_fw "TwoCamps$Law" 67 5 2 .int := ⟨_, rfl, by decide, rfl, (tb1 141 (by decide +kernel) rfl), rfl, by decide +kernel⟩
theorem fl_Law_32 : am_fl "TwoCamps$Law" 32 4 0 := ⟨_, rfl, by decide, rfl, (tb1 158 (by decide +kernel) rfl)⟩
theorem fl_Law_11 : am_fl "TwoCamps$Law" 11 4 1 := ⟨_, rfl, by decide, rfl, (tb1 159 (by decide +kernel) rfl)⟩
theorem fl_Law_17 : am_fl "TwoCamps$Law" 17 4 2 := ⟨_, rfl, by decide, rfl, (tb1 160 (by decide +kernel) rfl)⟩
theorem fw_Law_17 : am_fw "TwoCamps$Law" 17 4 2 .int := ⟨_, rfl, by decide, rfl, (tb1 160 (by decide +kernel) rfl), rfl, by decide +kernel⟩
theorem fl_TC_173 : am_fl "TwoCamps" 173 4 2 := ⟨_, rfl, by decide, rfl, (tb1 161 (by decide +kernel) rfl)⟩
theorem fw_TC_173 : am_fw "TwoCamps" 173 4 2 .int := ⟨_, rfl, by decide, rfl, (tb1 161 (by decide +kernel) rfl), rfl, by decide +kernel⟩
theorem fl_Law_61 : am_fl "TwoCamps$Law" 61 4 3 := ⟨_, rfl, by decide, rfl, (tb1 162 (by decide +kernel) rfl)⟩
theorem fw_Law_61 : am_fw "TwoCamps$Law" 61 4 3 .int := ⟨_, rfl, by decide, rfl, (tb1 162 (by decide +kernel) rfl), rfl, by decide +kernel⟩
theorem fl_TC_188 : am_fl "TwoCamps" 188 4 3 := ⟨_, rfl, by decide, rfl, (tb1 163 (by decide +kernel) rfl)⟩
theorem fw_TC_188 : am_fw "TwoCamps" 188 4 3 .int := ⟨_, rfl, by decide, rfl, (tb1 163 (by decide +kernel) rfl), rfl, by decide +kernel⟩
theorem fl_Law_21 : am_fl "TwoCamps$Law" 21 4 4 := ⟨_, rfl, by decide, rfl, (tb1 164 (by decide +kernel) rfl)⟩
theorem fl_Best_64 : am_fl "TwoCamps$Best" 64 4 4 := ⟨_, rfl, by decide, rfl, (tb1 165 (by decide +kernel) rfl)⟩
theorem fl_Camping_97 : am_fl "TwoCamps$Camping" 97 4 4 := ⟨_, rfl, by decide, rfl, (tb1 166 (by decide +kernel) rfl)⟩
theorem fl_Law_25 : am_fl "TwoCamps$Law" 25 4 5 := ⟨_, rfl, by decide, rfl, (tb1 167 (by decide +kernel) rfl)⟩
theorem fl_Best_60 : am_fl "TwoCamps$Best" 60 4 5 := ⟨_, rfl, by decide, rfl, (tb1 168 (by decide +kernel) rfl)⟩
theorem fl_Camping_100 : am_fl "TwoCamps$Camping" 100 4 5 := ⟨_, rfl, by decide, rfl, (tb1 169 (by decide +kernel) rfl)⟩
theorem fl_Law_29 : am_fl "TwoCamps$Law" 29 4 6 := ⟨_, rfl, by decide, rfl, (tb1 170 (by decide +kernel) rfl)⟩
theorem fl_Law_84 : am_fl "TwoCamps$Law" 84 4 7 := ⟨_, rfl, by decide, rfl, (tb1 171 (by decide +kernel) rfl)⟩
theorem fw_Law_84 : am_fw "TwoCamps$Law" 84 4 7 .int := ⟨_, rfl, by decide, rfl, (tb1 171 (by decide +kernel) rfl), rfl, by decide +kernel⟩
theorem fl_TextReader_25 : am_fl "TwoCamps$TextReader" 25 6 0 := ⟨_, rfl, by decide, rfl, (tb1 197 (by decide +kernel) rfl)⟩
theorem fl_TextReader_11 : am_fl "TwoCamps$TextReader" 11 6 1 := ⟨_, rfl, by decide, rfl, (tb1 198 (by decide +kernel) rfl)⟩
theorem fl_TextReader_15 : am_fl "TwoCamps$TextReader" 15 6 2 := ⟨_, rfl, by decide, rfl, (tb1 199 (by decide +kernel) rfl)⟩
theorem fl_TextReader_35 : am_fl "TwoCamps$TextReader" 35 6 3 := ⟨_, rfl, by decide, rfl, (tb1 200 (by decide +kernel) rfl)⟩
theorem fw_TextReader_35 : am_fw "TwoCamps$TextReader" 35 6 3 .int := ⟨_, rfl, by decide, rfl, (tb1 200 (by decide +kernel) rfl), rfl, by decide +kernel⟩
theorem fl_TextReader_39 : am_fl "TwoCamps$TextReader" 39 6 4 := ⟨_, rfl, by decide, rfl, (tb1 201 (by decide +kernel) rfl)⟩
theorem fw_TextReader_39 : am_fw "TwoCamps$TextReader" 39 6 4 .int := ⟨_, rfl, by decide, rfl, (tb1 201 (by decide +kernel) rfl), rfl, by decide +kernel⟩
theorem fl_TextReader_21 : am_fl "TwoCamps$TextReader" 21 6 5 := ⟨_, rfl, by decide, rfl, (tb1 202 (by decide +kernel) rfl)⟩
theorem fl_TC_179 : am_fl "TwoCamps" 179 6 5 := ⟨_, rfl, by decide, rfl, (tb1 203 (by decide +kernel) rfl)⟩
theorem fl_StreetReader_9 : am_fl "TwoCamps$StreetReader" 9 7 0 := ⟨_, rfl, by decide, rfl, (tb1 223 (by decide +kernel) rfl)⟩
theorem fl_StreetReader_15 : am_fl "TwoCamps$StreetReader" 15 7 1 := ⟨_, rfl, by decide, rfl, (tb1 224 (by decide +kernel) rfl)⟩
theorem fl_StreetReader_19 : am_fl "TwoCamps$StreetReader" 19 7 2 := ⟨_, rfl, by decide, rfl, (tb1 225 (by decide +kernel) rfl)⟩
theorem fl_StreetReader_23 : am_fl "TwoCamps$StreetReader" 23 7 3 := ⟨_, rfl, by decide, rfl, (tb1 226 (by decide +kernel) rfl)⟩
theorem fw_StreetReader_23 : am_fw "TwoCamps$StreetReader" 23 7 3 .int := ⟨_, rfl, by decide, rfl, (tb1 226 (by decide +kernel) rfl), rfl, by decide +kernel⟩
theorem fl_TC_170 : am_fl "TwoCamps" 170 7 3 := ⟨_, rfl, by decide, rfl, (tb1 227 (by decide +kernel) rfl)⟩
theorem fw_TC_170 : am_fw "TwoCamps" 170 7 3 .int := ⟨_, rfl, by decide, rfl, (tb1 227 (by decide +kernel) rfl), rfl, by decide +kernel⟩
theorem fl_StreetReader_36 : am_fl "TwoCamps$StreetReader" 36 7 4 := ⟨_, rfl, by decide, rfl, (tb1 228 (by decide +kernel) rfl)⟩
theorem fw_StreetReader_36 : am_fw "TwoCamps$StreetReader" 36 7 4 .int := ⟨_, rfl, by decide, rfl, (tb1 228 (by decide +kernel) rfl), rfl, by decide +kernel⟩
theorem fl_StreetReader_39 : am_fl "TwoCamps$StreetReader" 39 7 5 := ⟨_, rfl, by decide, rfl, (tb1 229 (by decide +kernel) rfl)⟩
theorem fw_StreetReader_39 : am_fw "TwoCamps$StreetReader" 39 7 5 .int := ⟨_, rfl, by decide, rfl, (tb1 229 (by decide +kernel) rfl), rfl, by decide +kernel⟩
theorem fl_StreetReader_42 : am_fl "TwoCamps$StreetReader" 42 7 6 := ⟨_, rfl, by decide, rfl, (tb1 230 (by decide +kernel) rfl)⟩
theorem fw_StreetReader_42 : am_fw "TwoCamps$StreetReader" 42 7 6 .int := ⟨_, rfl, by decide, rfl, (tb1 230 (by decide +kernel) rfl), rfl, by decide +kernel⟩
theorem fl_StreetReader_45 : am_fl "TwoCamps$StreetReader" 45 7 7 := ⟨_, rfl, by decide, rfl, (tb1 231 (by decide +kernel) rfl)⟩
theorem fw_StreetReader_45 : am_fw "TwoCamps$StreetReader" 45 7 7 .int := ⟨_, rfl, by decide, rfl, (tb1 231 (by decide +kernel) rfl), rfl, by decide +kernel⟩
theorem fl_StreetReader_48 : am_fl "TwoCamps$StreetReader" 48 7 8 := ⟨_, rfl, by decide, rfl, (tb1 232 (by decide +kernel) rfl)⟩
theorem fw_StreetReader_48 : am_fw "TwoCamps$StreetReader" 48 7 8 .int := ⟨_, rfl, by decide, rfl, (tb1 232 (by decide +kernel) rfl), rfl, by decide +kernel⟩
theorem fl_Camping_15 : am_fl "TwoCamps$Camping" 15 8 0 := ⟨_, rfl, by decide, rfl, (tb2 19 (by decide +kernel) rfl)⟩
theorem fl_Camping_19 : am_fl "TwoCamps$Camping" 19 8 1 := ⟨_, rfl, by decide, rfl, (tb2 20 (by decide +kernel) rfl)⟩
theorem fl_Camping_23 : am_fl "TwoCamps$Camping" 23 8 2 := ⟨_, rfl, by decide, rfl, (tb2 21 (by decide +kernel) rfl)⟩
theorem fl_Camping_27 : am_fl "TwoCamps$Camping" 27 8 3 := ⟨_, rfl, by decide, rfl, (tb2 22 (by decide +kernel) rfl)⟩
theorem fw_Camping_27 : am_fw "TwoCamps$Camping" 27 8 3 .int := ⟨_, rfl, by decide, rfl, (tb2 22 (by decide +kernel) rfl), rfl, by decide +kernel⟩
theorem fl_TC_215 : am_fl "TwoCamps" 215 8 3 := ⟨_, rfl, by decide, rfl, (tb2 23 (by decide +kernel) rfl)⟩
theorem fw_TC_215 : am_fw "TwoCamps" 215 8 3 .int := ⟨_, rfl, by decide, rfl, (tb2 23 (by decide +kernel) rfl), rfl, by decide +kernel⟩
theorem fl_Camping_36 : am_fl "TwoCamps$Camping" 36 8 4 := ⟨_, rfl, by decide, rfl, (tb2 24 (by decide +kernel) rfl)⟩
theorem fw_Camping_36 : am_fw "TwoCamps$Camping" 36 8 4 .int := ⟨_, rfl, by decide, rfl, (tb2 24 (by decide +kernel) rfl), rfl, by decide +kernel⟩
theorem fl_TC_364 : am_fl "TwoCamps" 364 8 4 := ⟨_, rfl, by decide, rfl, (tb2 25 (by decide +kernel) rfl)⟩
theorem fw_TC_364 : am_fw "TwoCamps" 364 8 4 .int := ⟨_, rfl, by decide, rfl, (tb2 25 (by decide +kernel) rfl), rfl, by decide +kernel⟩
theorem fl_Camping_9 : am_fl "TwoCamps$Camping" 9 8 5 := ⟨_, rfl, by decide, rfl, (tb2 26 (by decide +kernel) rfl)⟩
theorem fl_Net_24 : am_fl "TwoCamps$Net" 24 9 0 := ⟨_, rfl, by decide, rfl, (tb2 46 (by decide +kernel) rfl)⟩
theorem fl_Net_28 : am_fl "TwoCamps$Net" 28 9 1 := ⟨_, rfl, by decide, rfl, (tb2 47 (by decide +kernel) rfl)⟩
theorem fl_Net_61 : am_fl "TwoCamps$Net" 61 9 2 := ⟨_, rfl, by decide, rfl, (tb2 48 (by decide +kernel) rfl)⟩
theorem fw_Net_61 : am_fw "TwoCamps$Net" 61 9 2 .int := ⟨_, rfl, by decide, rfl, (tb2 48 (by decide +kernel) rfl), rfl, by decide +kernel⟩
theorem fl_TC_262 : am_fl "TwoCamps" 262 9 2 := ⟨_, rfl, by decide, rfl, (tb2 49 (by decide +kernel) rfl)⟩
theorem fw_TC_262 : am_fw "TwoCamps" 262 9 2 .int := ⟨_, rfl, by decide, rfl, (tb2 49 (by decide +kernel) rfl), rfl, by decide +kernel⟩
theorem fl_Net_11 : am_fl "TwoCamps$Net" 11 9 3 := ⟨_, rfl, by decide, rfl, (tb2 50 (by decide +kernel) rfl)⟩
theorem fl_TC_265 : am_fl "TwoCamps" 265 9 3 := ⟨_, rfl, by decide, rfl, (tb2 51 (by decide +kernel) rfl)⟩
theorem fl_Net_15 : am_fl "TwoCamps$Net" 15 9 4 := ⟨_, rfl, by decide, rfl, (tb2 52 (by decide +kernel) rfl)⟩
theorem fl_Net_77 : am_fl "TwoCamps$Net" 77 9 5 := ⟨_, rfl, by decide, rfl, (tb2 53 (by decide +kernel) rfl)⟩
theorem fw_Net_77 : am_fw "TwoCamps$Net" 77 9 5 .int := ⟨_, rfl, by decide, rfl, (tb2 53 (by decide +kernel) rfl), rfl, by decide +kernel⟩
theorem fl_Net_18 : am_fl "TwoCamps$Net" 18 9 6 := ⟨_, rfl, by decide, rfl, (tb2 54 (by decide +kernel) rfl)⟩
theorem fl_Net_21 : am_fl "TwoCamps$Net" 21 9 7 := ⟨_, rfl, by decide, rfl, (tb2 55 (by decide +kernel) rfl)⟩
theorem fl_Best_18 : am_fl "TwoCamps$Best" 18 10 0 := ⟨_, rfl, by decide, rfl, (tb2 79 (by decide +kernel) rfl)⟩
theorem fl_Best_22 : am_fl "TwoCamps$Best" 22 10 1 := ⟨_, rfl, by decide, rfl, (tb2 80 (by decide +kernel) rfl)⟩
theorem fl_Best_26 : am_fl "TwoCamps$Best" 26 10 2 := ⟨_, rfl, by decide, rfl, (tb2 81 (by decide +kernel) rfl)⟩
theorem fl_Best_35 : am_fl "TwoCamps$Best" 35 10 3 := ⟨_, rfl, by decide, rfl, (tb2 82 (by decide +kernel) rfl)⟩
theorem fw_Best_35 : am_fw "TwoCamps$Best" 35 10 3 .int := ⟨_, rfl, by decide, rfl, (tb2 82 (by decide +kernel) rfl), rfl, by decide +kernel⟩
theorem fl_TC_271 : am_fl "TwoCamps" 271 10 3 := ⟨_, rfl, by decide, rfl, (tb2 83 (by decide +kernel) rfl)⟩
theorem fw_TC_271 : am_fw "TwoCamps" 271 10 3 .int := ⟨_, rfl, by decide, rfl, (tb2 83 (by decide +kernel) rfl), rfl, by decide +kernel⟩
theorem fl_Best_39 : am_fl "TwoCamps$Best" 39 10 4 := ⟨_, rfl, by decide, rfl, (tb2 84 (by decide +kernel) rfl)⟩
theorem fw_Best_39 : am_fw "TwoCamps$Best" 39 10 4 .int := ⟨_, rfl, by decide, rfl, (tb2 84 (by decide +kernel) rfl), rfl, by decide +kernel⟩
theorem fl_TC_274 : am_fl "TwoCamps" 274 10 4 := ⟨_, rfl, by decide, rfl, (tb2 85 (by decide +kernel) rfl)⟩
theorem fw_TC_274 : am_fw "TwoCamps" 274 10 4 .int := ⟨_, rfl, by decide, rfl, (tb2 85 (by decide +kernel) rfl), rfl, by decide +kernel⟩
theorem fl_Best_9 : am_fl "TwoCamps$Best" 9 10 5 := ⟨_, rfl, by decide, rfl, (tb2 86 (by decide +kernel) rfl)⟩
theorem fl_TC_275 : am_fl "TwoCamps" 275 10 5 := ⟨_, rfl, by decide, rfl, (tb2 87 (by decide +kernel) rfl)⟩
theorem fl_Best_15 : am_fl "TwoCamps$Best" 15 10 6 := ⟨_, rfl, by decide, rfl, (tb2 88 (by decide +kernel) rfl)⟩
theorem fl_Best_84 : am_fl "TwoCamps$Best" 84 10 7 := ⟨_, rfl, by decide, rfl, (tb2 89 (by decide +kernel) rfl)⟩
theorem fw_Best_84 : am_fw "TwoCamps$Best" 84 10 7 .int := ⟨_, rfl, by decide, rfl, (tb2 89 (by decide +kernel) rfl), rfl, by decide +kernel⟩
theorem fl_Best_87 : am_fl "TwoCamps$Best" 87 10 8 := ⟨_, rfl, by decide, rfl, (tb2 90 (by decide +kernel) rfl)⟩
theorem fw_Best_87 : am_fw "TwoCamps$Best" 87 10 8 .int := ⟨_, rfl, by decide, rfl, (tb2 90 (by decide +kernel) rfl), rfl, by decide +kernel⟩
theorem fl_Sheet_11 : am_fl "TwoCamps$Sheet" 11 11 0 := ⟨_, rfl, by decide, rfl, (tb2 117 (by decide +kernel) rfl)⟩
theorem fw_Sheet_11 : am_fw "TwoCamps$Sheet" 11 11 0 .int := ⟨_, rfl, by decide, rfl, (tb2 117 (by decide +kernel) rfl), rfl, by decide +kernel⟩
theorem fl_TC_349 : am_fl "TwoCamps" 349 11 0 := ⟨_, rfl, by decide, rfl, (tb2 118 (by decide +kernel) rfl)⟩
theorem fw_TC_349 : am_fw "TwoCamps" 349 11 0 .int := ⟨_, rfl, by decide, rfl, (tb2 118 (by decide +kernel) rfl), rfl, by decide +kernel⟩
theorem fl_Camping_31 : am_fl "TwoCamps$Camping" 31 11 1 := ⟨_, rfl, by decide, rfl, (tb2 119 (by decide +kernel) rfl)⟩
theorem fw_Camping_31 : am_fw "TwoCamps$Camping" 31 11 1 .int := ⟨_, rfl, by decide, rfl, (tb2 119 (by decide +kernel) rfl), rfl, by decide +kernel⟩
theorem fl_Sheet_19 : am_fl "TwoCamps$Sheet" 19 11 1 := ⟨_, rfl, by decide, rfl, (tb2 120 (by decide +kernel) rfl)⟩
theorem fw_Sheet_19 : am_fw "TwoCamps$Sheet" 19 11 1 .int := ⟨_, rfl, by decide, rfl, (tb2 120 (by decide +kernel) rfl), rfl, by decide +kernel⟩
theorem fl_TC_200 : am_fl "TwoCamps" 200 11 1 := ⟨_, rfl, by decide, rfl, (tb2 121 (by decide +kernel) rfl)⟩
theorem fw_TC_200 : am_fw "TwoCamps" 200 11 1 .int := ⟨_, rfl, by decide, rfl, (tb2 121 (by decide +kernel) rfl), rfl, by decide +kernel⟩
theorem fl_Sheet_15 : am_fl "TwoCamps$Sheet" 15 11 2 := ⟨_, rfl, by decide, rfl, (tb2 122 (by decide +kernel) rfl)⟩
theorem fl_Camping_37 : am_fl "TwoCamps$Camping" 37 11 2 := ⟨_, rfl, by decide, rfl, (tb2 123 (by decide +kernel) rfl)⟩
theorem fl_TC_250 : am_fl "TwoCamps" 250 11 2 := ⟨_, rfl, by decide, rfl, (tb2 124 (by decide +kernel) rfl)⟩
theorem fl_TC_10 : am_fl "TwoCamps" 10 0 0 := ⟨_, rfl, by decide, rfl, (tb2 132 (by decide +kernel) rfl)⟩
theorem fl_TC_16 : am_fl "TwoCamps" 16 0 1 := ⟨_, rfl, by decide, rfl, (tb2 133 (by decide +kernel) rfl)⟩
theorem fl_TC_22 : am_fl "TwoCamps" 22 0 2 := ⟨_, rfl, by decide, rfl, (tb2 134 (by decide +kernel) rfl)⟩
theorem fl_TC_26 : am_fl "TwoCamps" 26 0 3 := ⟨_, rfl, by decide, rfl, (tb2 135 (by decide +kernel) rfl)⟩
theorem fl_TC_330 : am_fl "TwoCamps" 330 0 4 := ⟨_, rfl, by decide, rfl, (tb2 136 (by decide +kernel) rfl)⟩
theorem fw_TC_330 : am_fw "TwoCamps" 330 0 4 .boolean := ⟨_, rfl, by decide, rfl, (tb2 136 (by decide +kernel) rfl), rfl, by decide +kernel⟩
theorem fl_TC_327 : am_fl "TwoCamps" 327 0 5 := ⟨_, rfl, by decide, rfl, (tb2 137 (by decide +kernel) rfl)⟩
theorem fw_TC_327 : am_fw "TwoCamps" 327 0 5 .int := ⟨_, rfl, by decide, rfl, (tb2 137 (by decide +kernel) rfl), rfl, by decide +kernel⟩
theorem fl_TC_32 : am_fl "TwoCamps" 32 0 6 := ⟨_, rfl, by decide, rfl, (tb2 138 (by decide +kernel) rfl)⟩
theorem fl_TC_41 : am_fl "TwoCamps" 41 0 7 := ⟨_, rfl, by decide, rfl, (tb2 139 (by decide +kernel) rfl)⟩
theorem fl_TC_50 : am_fl "TwoCamps" 50 0 8 := ⟨_, rfl, by decide, rfl, (tb2 140 (by decide +kernel) rfl)⟩
theorem fl_TC_59 : am_fl "TwoCamps" 59 0 9 := ⟨_, rfl, by decide, rfl, (tb2 141 (by decide +kernel) rfl)⟩
theorem fl_TC_65 : am_fl "TwoCamps" 65 0 10 := ⟨_, rfl, by decide, rfl, (tb2 142 (by decide +kernel) rfl)⟩
theorem fl_TC_205 : am_fl "TwoCamps" 205 0 11 := ⟨_, rfl, by decide, rfl, (tb2 143 (by decide +kernel) rfl)⟩
theorem fw_TC_205 : am_fw "TwoCamps" 205 0 11 .int := ⟨_, rfl, by decide, rfl, (tb2 143 (by decide +kernel) rfl), rfl, by decide +kernel⟩
theorem fl_TC_72 : am_fl "TwoCamps" 72 0 12 := ⟨_, rfl, by decide, rfl, (tb2 144 (by decide +kernel) rfl)⟩
theorem fl_TC_81 : am_fl "TwoCamps" 81 0 13 := ⟨_, rfl, by decide, rfl, (tb2 145 (by decide +kernel) rfl)⟩
theorem fl_TC_88 : am_fl "TwoCamps" 88 0 14 := ⟨_, rfl, by decide, rfl, (tb2 146 (by decide +kernel) rfl)⟩
theorem fl_TC_94 : am_fl "TwoCamps" 94 0 15 := ⟨_, rfl, by decide, rfl, (tb2 147 (by decide +kernel) rfl)⟩
theorem fl_MO_13 : am_fl "TwoCampsModel" 13 12 1 := ⟨_, rfl, by decide, rfl, (tb5 174 (by decide +kernel) rfl)⟩
theorem fl_MO_17 : am_fl "TwoCampsModel" 17 12 2 := ⟨_, rfl, by decide, rfl, (tb5 175 (by decide +kernel) rfl)⟩
theorem fl_MO_111 : am_fl "TwoCampsModel" 111 12 3 := ⟨_, rfl, by decide, rfl, (tb5 176 (by decide +kernel) rfl)⟩
theorem fw_MO_111 : am_fw "TwoCampsModel" 111 12 3 .int := ⟨_, rfl, by decide, rfl, (tb5 176 (by decide +kernel) rfl), rfl, by decide +kernel⟩
theorem fl_MO_151 : am_fl "TwoCampsModel" 151 12 4 := ⟨_, rfl, by decide, rfl, (tb5 177 (by decide +kernel) rfl)⟩
theorem fw_MO_151 : am_fw "TwoCampsModel" 151 12 4 .int := ⟨_, rfl, by decide, rfl, (tb5 177 (by decide +kernel) rfl), rfl, by decide +kernel⟩
theorem fl_MO_20 : am_fl "TwoCampsModel" 20 12 5 := ⟨_, rfl, by decide, rfl, (tb5 178 (by decide +kernel) rfl)⟩
theorem fl_MO_163 : am_fl "TwoCampsModel" 163 12 6 := ⟨_, rfl, by decide, rfl, (tb5 179 (by decide +kernel) rfl)⟩
theorem fw_MO_163 : am_fw "TwoCampsModel" 163 12 6 .int := ⟨_, rfl, by decide, rfl, (tb5 179 (by decide +kernel) rfl), rfl, by decide +kernel⟩
theorem fl_MO_23 : am_fl "TwoCampsModel" 23 12 7 := ⟨_, rfl, by decide, rfl, (tb5 180 (by decide +kernel) rfl)⟩
theorem fl_MO_26 : am_fl "TwoCampsModel" 26 12 8 := ⟨_, rfl, by decide, rfl, (tb5 181 (by decide +kernel) rfl)⟩
theorem fl_MO_116 : am_fl "TwoCampsModel" 116 12 9 := ⟨_, rfl, by decide, rfl, (tb5 182 (by decide +kernel) rfl)⟩
theorem fw_MO_116 : am_fw "TwoCampsModel" 116 12 9 .int := ⟨_, rfl, by decide, rfl, (tb5 182 (by decide +kernel) rfl), rfl, by decide +kernel⟩
theorem fl_MO_29 : am_fl "TwoCampsModel" 29 12 10 := ⟨_, rfl, by decide, rfl, (tb5 183 (by decide +kernel) rfl)⟩
theorem fl_MO_32 : am_fl "TwoCampsModel" 32 12 11 := ⟨_, rfl, by decide, rfl, (tb5 184 (by decide +kernel) rfl)⟩
theorem fl_MO_35 : am_fl "TwoCampsModel" 35 12 12 := ⟨_, rfl, by decide, rfl, (tb5 185 (by decide +kernel) rfl)⟩
theorem fl_MO_38 : am_fl "TwoCampsModel" 38 12 13 := ⟨_, rfl, by decide, rfl, (tb5 186 (by decide +kernel) rfl)⟩
theorem fl_MO_41 : am_fl "TwoCampsModel" 41 12 14 := ⟨_, rfl, by decide, rfl, (tb5 187 (by decide +kernel) rfl)⟩
theorem fl_MO_44 : am_fl "TwoCampsModel" 44 12 15 := ⟨_, rfl, by decide, rfl, (tb5 188 (by decide +kernel) rfl)⟩
theorem fl_MO_123 : am_fl "TwoCampsModel" 123 12 16 := ⟨_, rfl, by decide, rfl, (tb5 189 (by decide +kernel) rfl)⟩
theorem fw_MO_123 : am_fw "TwoCampsModel" 123 12 16 .int := ⟨_, rfl, by decide, rfl, (tb5 189 (by decide +kernel) rfl), rfl, by decide +kernel⟩
theorem fl_MO_169 : am_fl "TwoCampsModel" 169 12 17 := ⟨_, rfl, by decide, rfl, (tb5 190 (by decide +kernel) rfl)⟩
theorem fw_MO_169 : am_fw "TwoCampsModel" 169 12 17 .int := ⟨_, rfl, by decide, rfl, (tb5 190 (by decide +kernel) rfl), rfl, by decide +kernel⟩
theorem fl_MO_166 : am_fl "TwoCampsModel" 166 12 18 := ⟨_, rfl, by decide, rfl, (tb5 191 (by decide +kernel) rfl)⟩
theorem fw_MO_166 : am_fw "TwoCampsModel" 166 12 18 .int := ⟨_, rfl, by decide, rfl, (tb5 191 (by decide +kernel) rfl), rfl, by decide +kernel⟩
theorem fl_MO_181 : am_fl "TwoCampsModel" 181 12 19 := ⟨_, rfl, by decide, rfl, (tb5 192 (by decide +kernel) rfl)⟩
theorem fw_MO_181 : am_fw "TwoCampsModel" 181 12 19 .int := ⟨_, rfl, by decide, rfl, (tb5 192 (by decide +kernel) rfl), rfl, by decide +kernel⟩
theorem fl_MO_178 : am_fl "TwoCampsModel" 178 12 20 := ⟨_, rfl, by decide, rfl, (tb5 193 (by decide +kernel) rfl)⟩
theorem fw_MO_178 : am_fw "TwoCampsModel" 178 12 20 .int := ⟨_, rfl, by decide, rfl, (tb5 193 (by decide +kernel) rfl), rfl, by decide +kernel⟩
theorem fl_MO_188 : am_fl "TwoCampsModel" 188 12 21 := ⟨_, rfl, by decide, rfl, (tb5 194 (by decide +kernel) rfl)⟩
theorem fw_MO_188 : am_fw "TwoCampsModel" 188 12 21 .long := ⟨_, rfl, by decide, rfl, (tb5 194 (by decide +kernel) rfl), rfl, by decide +kernel⟩
theorem fl_MO_172 : am_fl "TwoCampsModel" 172 12 22 := ⟨_, rfl, by decide, rfl, (tb5 195 (by decide +kernel) rfl)⟩
theorem fw_MO_172 : am_fw "TwoCampsModel" 172 12 22 .int := ⟨_, rfl, by decide, rfl, (tb5 195 (by decide +kernel) rfl), rfl, by decide +kernel⟩
theorem fl_MO_209 : am_fl "TwoCampsModel" 209 12 23 := ⟨_, rfl, by decide, rfl, (tb5 196 (by decide +kernel) rfl)⟩
theorem fw_MO_209 : am_fw "TwoCampsModel" 209 12 23 .int := ⟨_, rfl, by decide, rfl, (tb5 196 (by decide +kernel) rfl), rfl, by decide +kernel⟩
theorem fl_MO_202 : am_fl "TwoCampsModel" 202 12 24 := ⟨_, rfl, by decide, rfl, (tb5 197 (by decide +kernel) rfl)⟩
theorem fw_MO_202 : am_fw "TwoCampsModel" 202 12 24 .boolean := ⟨_, rfl, by decide, rfl, (tb5 197 (by decide +kernel) rfl), rfl, by decide +kernel⟩
theorem fl_MO_206 : am_fl "TwoCampsModel" 206 12 25 := ⟨_, rfl, by decide, rfl, (tb5 198 (by decide +kernel) rfl)⟩
theorem fw_MO_206 : am_fw "TwoCampsModel" 206 12 25 .int := ⟨_, rfl, by decide, rfl, (tb5 198 (by decide +kernel) rfl), rfl, by decide +kernel⟩
theorem fl_MO_224 : am_fl "TwoCampsModel" 224 12 26 := ⟨_, rfl, by decide, rfl, (tb5 199 (by decide +kernel) rfl)⟩
theorem fw_MO_224 : am_fw "TwoCampsModel" 224 12 26 .int := ⟨_, rfl, by decide, rfl, (tb5 199 (by decide +kernel) rfl), rfl, by decide +kernel⟩
theorem fl_MO_284 : am_fl "TwoCampsModel" 284 12 27 := ⟨_, rfl, by decide, rfl, (tb5 200 (by decide +kernel) rfl)⟩
theorem fw_MO_284 : am_fw "TwoCampsModel" 284 12 27 .int := ⟨_, rfl, by decide, rfl, (tb5 200 (by decide +kernel) rfl), rfl, by decide +kernel⟩
theorem fl_MO_290 : am_fl "TwoCampsModel" 290 12 28 := ⟨_, rfl, by decide, rfl, (tb5 201 (by decide +kernel) rfl)⟩
theorem fw_MO_290 : am_fw "TwoCampsModel" 290 12 28 .boolean := ⟨_, rfl, by decide, rfl, (tb5 201 (by decide +kernel) rfl), rfl, by decide +kernel⟩
theorem fl_MO_47 : am_fl "TwoCampsModel" 47 12 29 := ⟨_, rfl, by decide, rfl, (tb5 202 (by decide +kernel) rfl)⟩
theorem fl_MO_50 : am_fl "TwoCampsModel" 50 12 30 := ⟨_, rfl, by decide, rfl, (tb5 203 (by decide +kernel) rfl)⟩
theorem fl_MO_53 : am_fl "TwoCampsModel" 53 12 31 := ⟨_, rfl, by decide, rfl, (tb5 204 (by decide +kernel) rfl)⟩
theorem fl_MO_306 : am_fl "TwoCampsModel" 306 12 32 := ⟨_, rfl, by decide, rfl, (tb5 205 (by decide +kernel) rfl)⟩
theorem fw_MO_306 : am_fw "TwoCampsModel" 306 12 32 .int := ⟨_, rfl, by decide, rfl, (tb5 205 (by decide +kernel) rfl), rfl, by decide +kernel⟩
theorem fl_MO_56 : am_fl "TwoCampsModel" 56 12 33 := ⟨_, rfl, by decide, rfl, (tb5 206 (by decide +kernel) rfl)⟩
theorem fl_MO_356 : am_fl "TwoCampsModel" 356 12 34 := ⟨_, rfl, by decide, rfl, (tb5 207 (by decide +kernel) rfl)⟩
theorem fw_MO_356 : am_fw "TwoCampsModel" 356 12 34 .int := ⟨_, rfl, by decide, rfl, (tb5 207 (by decide +kernel) rfl), rfl, by decide +kernel⟩
theorem fl_MO_59 : am_fl "TwoCampsModel" 59 12 35 := ⟨_, rfl, by decide, rfl, (tb5 208 (by decide +kernel) rfl)⟩
theorem fl_MO_62 : am_fl "TwoCampsModel" 62 12 36 := ⟨_, rfl, by decide, rfl, (tb5 209 (by decide +kernel) rfl)⟩
theorem fl_MO_65 : am_fl "TwoCampsModel" 65 12 37 := ⟨_, rfl, by decide, rfl, (tb5 210 (by decide +kernel) rfl)⟩
theorem fl_MO_68 : am_fl "TwoCampsModel" 68 12 38 := ⟨_, rfl, by decide, rfl, (tb5 211 (by decide +kernel) rfl)⟩
theorem fl_MO_71 : am_fl "TwoCampsModel" 71 12 39 := ⟨_, rfl, by decide, rfl, (tb5 212 (by decide +kernel) rfl)⟩
theorem fl_MO_74 : am_fl "TwoCampsModel" 74 12 40 := ⟨_, rfl, by decide, rfl, (tb5 213 (by decide +kernel) rfl)⟩
theorem fl_MO_78 : am_fl "TwoCampsModel" 78 12 41 := ⟨_, rfl, by decide, rfl, (tb5 214 (by decide +kernel) rfl)⟩
theorem fl_MO_384 : am_fl "TwoCampsModel" 384 12 42 := ⟨_, rfl, by decide, rfl, (tb5 215 (by decide +kernel) rfl)⟩
theorem fw_MO_384 : am_fw "TwoCampsModel" 384 12 42 .int := ⟨_, rfl, by decide, rfl, (tb5 215 (by decide +kernel) rfl), rfl, by decide +kernel⟩
theorem fl_MO_81 : am_fl "TwoCampsModel" 81 12 43 := ⟨_, rfl, by decide, rfl, (tb5 216 (by decide +kernel) rfl)⟩
theorem fl_MO_84 : am_fl "TwoCampsModel" 84 12 44 := ⟨_, rfl, by decide, rfl, (tb5 217 (by decide +kernel) rfl)⟩
theorem fl_MO_413 : am_fl "TwoCampsModel" 413 12 45 := ⟨_, rfl, by decide, rfl, (tb5 218 (by decide +kernel) rfl)⟩
theorem fw_MO_413 : am_fw "TwoCampsModel" 413 12 45 .boolean := ⟨_, rfl, by decide, rfl, (tb5 218 (by decide +kernel) rfl), rfl, by decide +kernel⟩
theorem fl_MO_416 : am_fl "TwoCampsModel" 416 12 46 := ⟨_, rfl, by decide, rfl, (tb5 219 (by decide +kernel) rfl)⟩
theorem fw_MO_416 : am_fw "TwoCampsModel" 416 12 46 .int := ⟨_, rfl, by decide, rfl, (tb5 219 (by decide +kernel) rfl), rfl, by decide +kernel⟩
theorem fl_MO_419 : am_fl "TwoCampsModel" 419 12 47 := ⟨_, rfl, by decide, rfl, (tb5 220 (by decide +kernel) rfl)⟩
theorem fw_MO_419 : am_fw "TwoCampsModel" 419 12 47 .int := ⟨_, rfl, by decide, rfl, (tb5 220 (by decide +kernel) rfl), rfl, by decide +kernel⟩
theorem fl_MO_422 : am_fl "TwoCampsModel" 422 12 48 := ⟨_, rfl, by decide, rfl, (tb5 221 (by decide +kernel) rfl)⟩
theorem fw_MO_422 : am_fw "TwoCampsModel" 422 12 48 .int := ⟨_, rfl, by decide, rfl, (tb5 221 (by decide +kernel) rfl), rfl, by decide +kernel⟩
theorem fl_MO_87 : am_fl "TwoCampsModel" 87 12 49 := ⟨_, rfl, by decide, rfl, (tb5 222 (by decide +kernel) rfl)⟩
theorem fl_MO_90 : am_fl "TwoCampsModel" 90 12 50 := ⟨_, rfl, by decide, rfl, (tb5 223 (by decide +kernel) rfl)⟩
theorem fl_MO_93 : am_fl "TwoCampsModel" 93 12 51 := ⟨_, rfl, by decide, rfl, (tb5 224 (by decide +kernel) rfl)⟩
theorem fl_MO_96 : am_fl "TwoCampsModel" 96 12 52 := ⟨_, rfl, by decide, rfl, (tb5 225 (by decide +kernel) rfl)⟩
theorem cp_n : Cond.native arraycopyName ∈ am_T := (tb4 5 (by decide +kernel) rfl)
theorem cp_s : Cond.static arraycopyName ∈ am_T := (tb4 4 (by decide +kernel) rfl)
theorem cp_i : Cond.initialized "java/lang/System" ∈ am_T := (tb1 20 (by decide +kernel) rfl)
theorem max_s : Cond.static Lib.Math.max.name ∈ am_T := (tb2 221 (by decide +kernel) rfl)
theorem max_c : Cond.code Lib.Math.max.name Lib.Math.max.code 2 (some .int) ∈ am_T := tb2 222 (by decide +kernel) rfl
theorem min_s : Cond.static Lib.Math.min.name ∈ am_T := (tb2 218 (by decide +kernel) rfl)
theorem min_c : Cond.code Lib.Math.min.name Lib.Math.min.code 2 (some .int) ∈ am_T := tb2 219 (by decide +kernel) rfl
theorem math_i : Cond.initialized "java/lang/Math" ∈ am_T := (tb1 15 (by decide +kernel) rfl)
theorem am_pv_cons {E : am_E} {k : Nat} {cc : ByteArray} {nL : Nat} {own : String} {pc len : Nat} {a : am_A} {r : am_P} (h : am_V E k cc nL own pc len a) (hh : am_hd (pc + len) r) (hr : am_pv E k cc nL own r) : am_pv E k cc nL own ((pc, a) :: r) := ⟨⟨len, h, hh⟩, hr⟩
